/-! ===== the class: worlds, deeds ===== -/
def cW (h : sm_H) (a P : Nat) (W : WG) : Prop := sm_gi h a 5 = nI (wSh W) ∧ sm_gi h a 4 = nI (wRd W) ∧ (∀ p, p < P → sm_gi h (a + 1) p = nI (wAt W p) ∧ sm_gi h (a + 2) p = nI (wDay W p) ∧ sm_gi h (a + 4) p = nI (wBeen W p)) ∧ ∀ p, p < 6 → sm_gi h (a + 3) p = nI (wPap W p)
theorem gi_up {h : sm_H} {c p q v : Nat} {f : Nat → Nat} (e : sm_gi h c q = nI (f q)) : sm_gi (sm_si h c p (nI v)) c q = nI (upN f p v q) := by
  by_cases z : q = p
  · subst z; rw [gi_same, upN_s]
  · rw [gi_slot z, upN_n z]; exact e
section CWU
variable {h : sm_H} {a P p v : Nat} {W : WG}
theorem cW.at (H : cW h a P W) : cW (sm_si h (a + 1) p (nI v)) a P (sAt W p v) := ⟨(gi_cell (by omega)).trans H.1, (gi_cell (by omega)).trans H.2.1, fun q hq => ⟨gi_up (H.2.2.1 q hq).1, (gi_cell (by omega)).trans (H.2.2.1 q hq).2.1, (gi_cell (by omega)).trans (H.2.2.1 q hq).2.2⟩, fun q hq => (gi_cell (by omega)).trans (H.2.2.2 q hq)⟩
theorem cW.day (H : cW h a P W) : cW (sm_si h (a + 2) p (nI v)) a P (sDay W p v) := ⟨(gi_cell (by omega)).trans H.1, (gi_cell (by omega)).trans H.2.1, fun q hq => ⟨(gi_cell (by omega)).trans (H.2.2.1 q hq).1, gi_up (H.2.2.1 q hq).2.1, (gi_cell (by omega)).trans (H.2.2.1 q hq).2.2⟩, fun q hq => (gi_cell (by omega)).trans (H.2.2.2 q hq)⟩
theorem cW.been (H : cW h a P W) : cW (sm_si h (a + 4) p (nI v)) a P (sBeen W p v) := ⟨(gi_cell (by omega)).trans H.1, (gi_cell (by omega)).trans H.2.1, fun q hq => ⟨(gi_cell (by omega)).trans (H.2.2.1 q hq).1, (gi_cell (by omega)).trans (H.2.2.1 q hq).2.1, gi_up (H.2.2.1 q hq).2.2⟩, fun q hq => (gi_cell (by omega)).trans (H.2.2.2 q hq)⟩
theorem cW.pap (H : cW h a P W) : cW (sm_si h (a + 3) p (nI v)) a P (sPap W p v) := ⟨(gi_cell (by omega)).trans H.1, (gi_cell (by omega)).trans H.2.1, fun q hq => ⟨(gi_cell (by omega)).trans (H.2.2.1 q hq).1, (gi_cell (by omega)).trans (H.2.2.1 q hq).2.1, (gi_cell (by omega)).trans (H.2.2.1 q hq).2.2⟩, fun q hq => gi_up (H.2.2.2 q hq)⟩
theorem cW.rd (H : cW h a P W) : cW (sm_si h a 4 (nI v)) a P (sRd W v) := ⟨(gi_slot (by omega)).trans H.1, gi_same, fun q hq => ⟨(gi_cell (by omega)).trans (H.2.2.1 q hq).1, (gi_cell (by omega)).trans (H.2.2.1 q hq).2.1, (gi_cell (by omega)).trans (H.2.2.1 q hq).2.2⟩, fun q hq => (gi_cell (by omega)).trans (H.2.2.2 q hq)⟩
theorem cW.sh (H : cW h a P W) : cW (sm_si h a 5 (nI v)) a P (sSh W v) := ⟨gi_same, (gi_slot (by omega)).trans H.2.1, fun q hq => ⟨(gi_cell (by omega)).trans (H.2.2.1 q hq).1, (gi_cell (by omega)).trans (H.2.2.1 q hq).2.1, (gi_cell (by omega)).trans (H.2.2.1 q hq).2.2⟩, fun q hq => (gi_cell (by omega)).trans (H.2.2.2 q hq)⟩
end CWU
theorem cW_eqx {S : Nat → Nat → Prop} {h h2 : sm_H} {a P : Nat} {W : WG} (H : cW h a P W) (E : eqx S h h2) (hS : ∀ c i, S c i → c < a ∨ a + 5 ≤ c) : cW h2 a P W := by
  have e : ∀ c i, a ≤ c → c < a + 5 → sm_gi h2 c i = sm_gi h c i := fun c i a1 a2 => E.1 c i (fun z => by have := hS c i z; omega)
  refine ⟨by rw [e _ _ (by omega) (by omega)]; exact H.1, by rw [e _ _ (by omega) (by omega)]; exact H.2.1, fun p hp => ?_, fun p hp => by rw [e _ _ (by omega) (by omega)]; exact H.2.2.2 p hp⟩
  rw [e _ _ (by omega) (by omega), e _ _ (by omega) (by omega), e _ _ (by omega) (by omega)]
  exact H.2.2.1 p hp
/-- land and laws in the class -/
def cE (h : sm_H) (G : LG) : Prop := wfG G ∧ wfX G ∧ cG h 2 G ∧ cK h G
theorem cE_eqx {S : Nat → Nat → Prop} {h h2 : sm_H} {G : LG} (H : cE h G) (E : eqx S h h2) (hS : ∀ c i, S c i → c ≠ 50 ∧ (c < 2 ∨ 17 ≤ c ∨ c = 14)) : cE h2 G :=
  ⟨H.1, H.2.1, cG_eqx H.2.2.1 E (fun c i z => by have := hS c i z; omega), cK_eqx H.2.2.2 E (fun i z => (hS 50 i z).1 rfl)⟩
def sxA (a : Nat) : Nat → Nat → Prop := fun c _ => c = 14 ∨ c = 17 ∨ c = 49 ∨ c = 50 ∨ (a ≤ c ∧ c ≤ a + 4)
def isAB (a : Nat) : Prop := a = 18 ∨ a = 23
theorem isAB.w {a : Nat} (h : isAB a) : sm_isW a := by
  rcases h with rfl | rfl
  · unfold sm_isW; exact kd_18
  · unfold sm_isW; exact kd_23
theorem in_w {a k n : Nat} (ha : isAB a) (hk : 1 ≤ k ∧ k ≤ 4) (hn : n < 6) : sm_in (a + k) (nI n) ↔ True := by
  refine in_ln (by omega) ?_
  have : sm_ln (a + k) = 6 := by
    obtain ⟨k1, k2⟩ := hk
    rcases ha with rfl | rfl <;> (match k, k1, k2 with | 1, _, _ => rfl | 2, _, _ => rfl | 3, _, _ => rfl | 4, _, _ => rfl)
  omega
theorem sxP_A {a : Nat} : ∀ c i, sxP c i → sxA a c i := fun c i h => by unfold sxP at h; unfold sxA; omega
theorem cW_P {h h2 : sm_H} {a P : Nat} {W : WG} (ha : isAB a) (H : cW h a P W) (E : eqx sxP h h2) : cW h2 a P W := cW_eqx H E (fun c i z => by unfold sxP at z; rcases ha with rfl | rfl <;> omega)
theorem cG_P {h h2 : sm_H} {G : LG} (H : cG h 2 G) (E : eqx sxP h h2) : cG h2 2 G := cG_eqx H E (fun c i z => by unfold sxP at z; omega)
theorem prI_m1 {G : LG} {p pap b f t : Nat} : (prI G p pap b f t = -1) ↔ letsB G p pap b f t = false := by
  unfold prI
  by_cases q : letsB G p pap b f t = true
  · rw [if_pos q, nI_m1 (tollI_N).2, q]; exact ⟨fun z => z.elim, fun z => by cases z⟩
  · rw [if_neg q]; exact ⟨fun _ => ts_nt q, fun _ => rfl⟩
theorem c_whyNotGo {a B : Nat} {p r : Int32} {G : LG} {W : WG} {h : sm_H} (ha : isAB a) (hE : cE h G) (hW : cW h a (gP G) W) (hww : wfW G B W) :
    ∃ h2, xc 20 [.ref 51, .ref a, .int p, .int r] h = some ([.int (nI (whyG G W p.toInt64 r.toInt64))], h2) ∧ cE h2 G ∧ cW h2 a (gP G) W ∧ eqx sxP h h2 := by
  obtain ⟨hw, hx, hG, hK⟩ := hE
  have hR := hw.2.1
  have hP := hw.2.2.1
  have hN := hw.1.2
  have p6 := pow6 hN
  rw [en_20, b20_0, c_hasPerson isD2 hG.1.2.2.1 (by omega), bnd]
  simp only [app1, List.cons_append, List.nil_append]
  rw [b20_8]
  by_cases h1 : isN p.toInt64 (gP G)
  · rw [if_neg (by rw [bI_z]; exact fun z => z h1), b20_11, c_hasRoad isD2 hG.1.2.1 (by omega), bnd]
    simp only [app1, List.cons_append, List.nil_append]
    rw [b20_19]
    by_cases h2 : isN r.toInt64 (gR G)
    · rw [if_neg (by rw [bI_z]; exact fun z => z h2)]
      obtain ⟨j, hj, rfl⟩ := isN_nI h1 (by omega)
      obtain ⟨i, hi, rfl⟩ := isN_nI h2 (by omega)
      rw [whyG_i hj hi hP hR]
      have hwj := hww.2.2.1 j hj
      have hcj := hW.2.2.1 j hj
      have hpj := hW.2.2.2 j (by omega)
      rw [b20_24 ha.w]
      simp (disch := omega) only [in_w ha, if_true, nI_clamp, hcj.1, c_across isD2 hG hw hi (show wAt W j < 2 ^ 31 by omega), bnd, app1, List.cons_append, List.nil_append, b20_38]
      unfold whyF
      cases ht : toF G i (wAt W j) with
      | none =>
        rw [if_pos (show toI none = -1 from rfl), b20_46]
        exact ⟨h, rfl, ⟨hw, hx, hG, hK⟩, hW, eqx.rf⟩
      | some t =>
        have htl := toF_lt hw hi ht
        dsimp only
        rw [show toI (some t) = nI t from rfl, if_neg (by rw [nI_m1 (by omega)]; exact id), b20_48 ha.w, hW.1, shr1 (by have := hww.1; omega) (by omega)]
        by_cases h3 : wSh W / 2 ^ i % 2 = 1
        · rw [if_pos (by rw [h3]), if_pos h3, b20_60]
          exact ⟨h, rfl, ⟨hw, hx, hG, hK⟩, hW, eqx.rf⟩
        · rw [if_neg (by rw [nI_eq (by omega) (by decide)]; exact h3), if_neg h3, b20_62, c_isBridge isD2 hG hw hi, bnd]
          simp only [app1, List.cons_append, List.nil_append]
          rw [b20_70]
          by_cases h4 : gBri G i = true
          · rw [if_neg (by rw [bI_z]; exact fun z => z h4), if_neg (fun z => z ⟨h4, fun y => by cases y⟩), b20_75 ha.w]
            simp (disch := omega) only [in_w ha, if_true, nI_clamp, hcj.2.2, hpj]
            obtain ⟨h2', e2, K2, E2⟩ := c_price hG hw hx hK hj hi h4 ht (show wBeen W j < 64 by omega) (show wPap W j ≤ 9 by omega)
            have W2 := cW_P ha hW E2
            have G2 := cG_P hG E2
            rw [e2]
            simp only [bnd, app1, List.cons_append, List.nil_append]
            rw [b20_98]
            refine ⟨h2', ?_, ⟨hw, hx, G2, K2⟩, W2, E2⟩
            by_cases h5 : letsB G j (wPap W j) (wBeen W j) (wAt W j) t = false
            · rw [if_pos (prI_m1.mpr h5), if_pos h5, b20_106]
            · have hpr : prI G j (wPap W j) (wBeen W j) (wAt W j) t = nI (tollN G j (wPap W j) (wBeen W j) (wAt W j) t) := by unfold prI; rw [if_pos (ts_nf h5)]
              rw [if_neg (fun z => h5 (prI_m1.mp z)), if_neg h5, b20_108 ha.w]
              simp (disch := omega) only [in_w ha, if_true, nI_clamp, W2.2.2.2 j (show j < 6 by omega), hpr]
              have htn := (tollI_N (G := G) (p := j) (pap := wPap W j) (b := wBeen W j) (f := wAt W j) (t := t)).2
              by_cases h6 : wPap W j < tollN G j (wPap W j) (wBeen W j) (wAt W j) t
              · rw [if_neg (by rw [nI_leI htn (by omega)]; omega), if_pos h6, b20_119, b20_124]
              · rw [if_pos (by rw [nI_leI htn (by omega)]; omega), if_neg h6, b20_123, b20_124]
          · rw [if_pos (by rw [bI_z]; exact h4), if_pos (fun z => h4 z.1), b20_73]
            exact ⟨h, rfl, ⟨hw, hx, hG, hK⟩, hW, eqx.rf⟩
    · rw [if_pos (by rw [bI_z]; exact h2), b20_22]
      unfold whyG
      rw [if_neg (fun z => h2 z.2)]
      exact ⟨h, rfl, ⟨hw, hx, hG, hK⟩, hW, eqx.rf⟩
  · rw [if_pos (by rw [bI_z]; exact h1), b20_22]
    unfold whyG
    rw [if_neg (fun z => h1 z.1)]
    exact ⟨h, rfl, ⟨hw, hx, hG, hK⟩, hW, eqx.rf⟩
theorem upN_self {f : Nat → Nat} {p : Nat} : upN f p (f p) = f := by
  funext j
  by_cases q : j = p
  · subst q; exact upN_s
  · exact upN_n q
theorem sPap_self {W : WG} {p : Nat} : sPap W p (wPap W p) = W := by
  unfold sPap
  rw [show wPap W p = W.2.2.2.1 p from rfl, upN_self]
theorem whyG_le {G : LG} {W : WG} {p r : Int64} : whyG G W p r ≤ 5 := by
  unfold whyG
  split
  · exact whyF_le
  · omega
/-- goes, if it can -/
theorem c_tryGo {a B : Nat} {p r : Int32} {G : LG} {W : WG} {h : sm_H} (ha : isAB a) (hE : cE h G) (hW : cW h a (gP G) W) (hww : wfW G B W) :
    ∃ h2, xc 21 [.ref 51, .ref a, .int p, .int r] h = some ([.int (nI (whyG G W p.toInt64 r.toInt64))], h2) ∧ cE h2 G ∧ cW h2 a (gP G) (if whyG G W p.toInt64 r.toInt64 = 0 then goW G W (toN p) (toN r) ((toF G (toN r) (wAt W (toN p))).getD 0) else W) ∧ eqx (sxA a) h h2 := by
  obtain ⟨h1, e1, E1, W1, X1⟩ := c_whyNotGo (p := p) (r := r) ha hE hW hww
  have hle := whyG_le (G := G) (W := W) (p := p.toInt64) (r := r.toInt64)
  rw [en_21, b21_0, e1, bnd]
  simp only [app1, List.cons_append, List.nil_append]
  rw [b21_7]
  by_cases h0 : whyG G W p.toInt64 r.toInt64 = 0
  · rw [if_pos (by rw [h0]; decide +kernel), if_pos h0, h0]
    obtain ⟨j, i, t, hj, hi, rfl, rfl, ht, htol, htl⟩ := whyG_ok (B := B) hE.1 h0
    obtain ⟨hw, hx, hG, hK⟩ := E1
    have hR := hw.2.1
    have hP := hw.2.2.1
    have hN := hw.1.2
    have p6 := pow6 hN
    have hwj := hww.2.2.1 j hj
    have hcj := W1.2.2.1 j hj
    have hpj := W1.2.2.2 j (by omega)
    rw [toN_nI (by omega), toN_nI (by omega), ht]
    dsimp only [Option.getD_some]
    rw [b21_17 ha.w]
    simp (disch := omega) only [in_w ha, if_true, nI_clamp, hcj.1, c_across isD2 hG hw hi (show wAt W j < 2 ^ 31 by omega), bnd, app1, List.cons_append, List.nil_append, b21_31, c_isBridge isD2 hG hw hi, ht]
    rw [b21_41]
    have mid : ∀ (h2 : sm_H), cE h2 G → cW h2 a (gP G) (sPap W j (wPap W j - tolW G W j i t)) → eqx (sxA a) h h2 → ∃ h3, xe 5 21 76 [.ref 51, .ref a, .int (nI j), .int (nI i), .int (nI 0), .int (nI t)] [] h2 = some ([.int (nI 0)], h3) ∧ cE h3 G ∧ cW h3 a (gP G) (goW G W j i t) ∧ eqx (sxA a) h h3 := by
      intro h2 E2 W2 X2
      have i5 : sm_in 5 (nI i) ↔ True := in_ln (by omega) (by rw [ln_5]; omega)
      have i10 : sm_in 10 (nI j) ↔ True := in_ln (by omega) (by rw [ln_10]; omega)
      have i11 : sm_in 11 (nI j) ↔ True := in_ln (by omega) (by rw [ln_11]; omega)
      have c5 : ∀ h3, eqx (sxA a) h2 h3 → sm_gi h3 5 i = nI (gLon G i) := fun h3 X => (X.1 5 i (by unfold sxA; rcases ha with rfl | rfl <;> omega)).trans (E2.2.2.1.2.1 i hi).2.2.1
      have W3 := W2.at (p := j) (v := t)
      have X3 : eqx (sxA a) h2 (sm_si h2 (a + 1) j (nI t)) := eqx.si eqx.rf (by unfold sxA; omega)
      have b3 : sm_gi (sm_si h2 (a + 1) j (nI t)) (a + 4) j = nI (wBeen W j) := (W3.2.2.1 j hj).2.2
      have W4 := W3.been (p := j) (v := wBeen W j ||| 2 ^ t)
      have X4 : eqx (sxA a) h2 (sm_si (sm_si h2 (a + 1) j (nI t)) (a + 4) j (nI (wBeen W j ||| 2 ^ t))) := X3.si (by unfold sxA; omega)
      have d4 : sm_gi (sm_si (sm_si h2 (a + 1) j (nI t)) (a + 4) j (nI (wBeen W j ||| 2 ^ t))) (a + 2) j = nI (wDay W j) := (W4.2.2.1 j hj).2.1
      have W5 := W4.day (p := j) (v := wDay W j + gLon G i)
      have X5 : eqx (sxA a) h2 (sm_si (sm_si (sm_si h2 (a + 1) j (nI t)) (a + 4) j (nI (wBeen W j ||| 2 ^ t))) (a + 2) j (nI (wDay W j + gLon G i))) := X4.si (by unfold sxA; omega)
      rw [b21_76 ha.w]
      simp (disch := omega) only [in_w ha, if_true, nI_clamp]
      rw [b21_84 ha.w]
      simp (disch := omega) only [in_w ha, if_true, nI_clamp, b3, shl1, fa_or]
      rw [b21_97 ha.w]
      simp (disch := omega) only [in_w ha, i5, if_true, nI_clamp, d4, c5 _ X4, nI_add]
      rw [b21_115]
      simp (disch := omega) only [i10, if_true, nI_clamp]
      generalize hH : sm_si (sm_si (sm_si h2 (a + 1) j (nI t)) (a + 4) j (nI (wBeen W j ||| 2 ^ t))) (a + 2) j (nI (wDay W j + gLon G i)) = h5 at W5 X5 ⊢
      have c10 : sm_gi h5 10 j = toI (gGol G j) := (X5.1 10 j (by unfold sxA; rcases ha with rfl | rfl <;> omega)).trans (E2.2.2.1.2.2.1 j hj).2.1
      have c11 : sm_gi h5 11 j = gBy G j := (X5.1 11 j (by unfold sxA; rcases ha with rfl | rfl <;> omega)).trans (E2.2.2.1.2.2.1 j hj).2.2
      have d5 : sm_gi h5 (a + 2) j = nI (wDay W j + gLon G i) := by rw [(W5.2.2.1 j hj).2.1]; exact congrArg nI upN_s
      have r5 : sm_gi h5 a 4 = nI (wRd W) := W5.2.1
      have E5 : cE h5 G := cE_eqx E2 (S := fun c _ => a ≤ c ∧ c ≤ a + 4) (by subst hH; exact ((eqx.rf.si (by omega)).si (by omega)).si (by omega)) (fun c i z => by rcases ha with rfl | rfl <;> omega)
      have Wx : cW h5 a (gP G) (sBeen (sDay (sAt (sPap W j (wPap W j - tolW G W j i t)) j t) j (wDay W j + gLon G i)) j (wBeen W j ||| 2 ^ t)) := W5
      have at5 : wAt (sBeen (sDay (sAt (sPap W j (wPap W j - tolW G W j i t)) j t) j (wDay W j + gLon G i)) j (wBeen W j ||| 2 ^ t)) j = t := upN_s
      have dy5 : wDay (sBeen (sDay (sAt (sPap W j (wPap W j - tolW G W j i t)) j t) j (wDay W j + gLon G i)) j (wBeen W j ||| 2 ^ t)) j = wDay W j + gLon G i := upN_s
      rw [c10]
      unfold goW errW
      rw [at5, dy5]
      by_cases g1 : gGol G j = some t
      · rw [if_pos (by rw [g1]; rfl), b21_129 ha.w]
        simp (disch := omega) only [in_w ha, i11, if_true, nI_clamp, d5, c11]
        by_cases g2 : nI (wDay W j + gLon G i) ≤ gBy G j
        · rw [if_neg (Int32.not_lt.mpr g2), if_pos ⟨g1, g2⟩, b21_147 ha.w, r5, shl1 (by omega), fa_or, b21_159]
          exact ⟨_, rfl, cE_eqx E5 (S := fun c _ => a ≤ c ∧ c ≤ a + 4) (eqx.rf.si (by omega)) (fun c i z => by rcases ha with rfl | rfl <;> omega), Wx.rd, (X2.tr X5).si (by unfold sxA; omega)⟩
        · rw [if_pos (Int32.not_le.mp g2), if_neg (fun z => g2 z.2), b21_159]
          exact ⟨_, rfl, E5, Wx, X2.tr X5⟩
      · rw [if_neg (fun z => g1 ((gol_eq (hw.gol hj) (by omega)).mp z)), if_neg (fun z => g1 z.1), b21_159]
        exact ⟨_, rfl, E5, Wx, X2.tr X5⟩
    by_cases h4 : gBri G i = true
    · rw [if_neg (by rw [bI_z]; exact fun z => z h4), b21_44 ha.w]
      simp (disch := omega) only [in_w ha, if_true, nI_clamp, hcj.2.2, hpj]
      rw [show toI (some t) = nI t from rfl]
      obtain ⟨h2, e2, K2, X2⟩ := c_price hG hw hx hK hj hi h4 ht (show wBeen W j < 64 by omega) (show wPap W j ≤ 9 by omega)
      have W2 := cW_P ha W1 X2
      have G2 := cG_P hG X2
      rw [whyG_i hj hi hP hR] at h0
      obtain ⟨t', ht', _, hlt⟩ := whyF_ok h0
      rw [ht] at ht'
      cases ht'
      have hl := (hlt h4 (fun z => by cases z)).1
      have hto : tolW G W j i t = tollN G j (wPap W j) (wBeen W j) (wAt W j) t := by unfold tolW; rw [if_pos h4]
      have hpr : prI G j (wPap W j) (wBeen W j) (wAt W j) t = nI (tolW G W j i t) := by unfold prI; rw [if_pos hl, hto]
      rw [e2, hpr]
      simp only [bnd, app1, List.cons_append, List.nil_append]
      rw [b21_74 ha.w]
      simp (disch := omega) only [in_w ha, if_true, nI_clamp, pk_sub]
      exact mid _ (cE_eqx ⟨hw, hx, G2, K2⟩ (S := fun c _ => a ≤ c ∧ c ≤ a + 4) (eqx.rf.si (by omega)) (fun c i z => by rcases ha with rfl | rfl <;> omega)) W2.pap (((X1.wk sxP_A).tr (X2.wk sxP_A)).si (by unfold sxA; omega))
    · rw [if_pos (by rw [bI_z]; exact h4)]
      have hto : tolW G W j i t = 0 := by unfold tolW; rw [if_neg h4]
      refine mid h1 ⟨hw, hx, hG, hK⟩ ?_ (X1.wk sxP_A)
      rw [hto, Nat.sub_zero, sPap_self]
      exact W1
  · rw [if_neg (by rw [nI_z (by omega)]; exact h0), if_neg h0, b21_14]
    exact ⟨h1, rfl, E1, W1, X1.wk sxP_A⟩
