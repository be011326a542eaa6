/-! ===== proofs, waives, needed ===== -/
def prF (o : Nat → Option (List Nat)) : Nat → Nat → Int32
  | 0, _ => -1
  | m + 1, n => if (o n).isSome = true then nI n else prF o m (n + 1)
noncomputable def aProof (G : LG) (W : WG) (p q : Int32) : Int32 := if isN p.toInt64 (gP G) ∧ isN q.toInt64 (gN G) then prF (fun n => bW G (wSh W) none (toN p) (0, wBeen W (toN p), n, wAt W (toN p)) 0 (toN q)) 10 0 else -2
def wvF (o : Nat → Option Nat) (br : Nat → Bool) (d0 : Option Nat) : Nat → Option Nat × Int32
  | 0 => (d0, -1)
  | k + 1 => if br k = true then (match o k with
    | none => wvF o br d0 k
    | some d => match (wvF o br d0 k).1 with
      | none => (some d, nI k)
      | some l => if d < l then (some d, nI k) else wvF o br d0 k) else wvF o br d0 k
theorem wvF_succ {o : Nat → Option Nat} {br : Nat → Bool} {d0 : Option Nat} {k : Nat} : wvF o br d0 (k + 1) = if br k = true then (match o k with
    | none => wvF o br d0 k
    | some d => match (wvF o br d0 k).1 with
      | none => (some d, nI k)
      | some l => if d < l then (some d, nI k) else wvF o br d0 k) else wvF o br d0 k := rfl
def dO (G : LG) (o : Option (List Nat)) : Option Nat := o.map (dys (gLon G))
noncomputable def aWaive (G : LG) (W : WG) (p q : Int32) : Int32 := if isN p.toInt64 (gP G) ∧ isN q.toInt64 (gN G) then (wvF (fun r => dO G (bW G (wSh W) (some r) (toN p) (xS W (toN p)) 0 (toN q))) (gBri G) (dO G (bW G (wSh W) none (toN p) (xS W (toN p)) 0 (toN q))) (gR G)).2 else -2
theorem wvF_b {o : Nat → Option Nat} {br : Nat → Bool} {d0 : Option Nat} {b : Nat} (h0 : ∀ d, d0 = some d → d ≤ b) (ho : ∀ r d, o r = some d → d ≤ b) : ∀ k d, (wvF o br d0 k).1 = some d → d ≤ b
  | 0, d, h => h0 d h
  | k + 1, d, h => by
    unfold wvF at h
    split at h
    · split at h
      · exact wvF_b h0 ho k d h
      · next d' hd' =>
        split at h
        · cases h; exact ho k _ hd'
        · split at h
          · cases h; exact ho k _ hd'
          · exact wvF_b h0 ho k d h
    · exact wvF_b h0 ho k d h
theorem dyI_O {G : LG} {o : Option (List Nat)} : dyI G o = (match dO G o with | none => -1 | some d => nI d) := by cases o <;> rfl
/-- a cell changed for a while -/
theorem eqx_tmp {h h3 : sm_H} {c0 i0 : Nat} {v w : Int32} (E : eqx sxZ (sm_si h c0 i0 v) h3) (hw : w = sm_gi h c0 i0) : eqx sxZ h (sm_si h3 c0 i0 w) := by
  refine ⟨fun c i q => ?_, fun c i q => E.2.1 c i q, E.2.2⟩
  by_cases z : c = c0 ∧ i = i0
  · rw [z.1, z.2, gi_same, hw]
  · have hne : ∀ (a : sm_H) (u : Int32), sm_gi (sm_si a c0 i0 u) c i = sm_gi a c i := fun a u => by
      rw [gi_si]
      by_cases y : c = c0
      · rw [if_pos y, if_neg (fun y2 => z ⟨y, y2⟩)]
      · rw [if_neg y]
    rw [hne, E.1 c i q, hne]
section PW
variable {G : LG} {W : WG} {L : List WG} {B : Nat} {h : sm_H}
theorem mX_of {h h2 : sm_H} {S : Nat → Nat → Prop} (X : mX h) (E : eqx S h h2) (hS : ∀ c i, S c i → c ≠ 177 ∧ c ≠ 178 ∧ ¬ (c = 169 ∧ i = 25)) : mX h2 := by
  obtain ⟨n, K, V⟩ := X
  exact ⟨n, K, mV_eqx V E hS⟩
theorem m_proofs_loop {p f : Nat} (hx : wfX G) (hp : p < gP G) (hf : f < gN G) : ∀ (m k : Nat) (h1 : sm_H), k + m = 10 → mS h1 G W L B → mX h1 → eqx sxZ h h1 → ∃ h2, xe 7 243 19 [.ref 169, .int (nI p), .int (nI f), .int (nI k)] [] h1 = some ([.int (prF (fun n => bW G (wSh W) none p (0, wBeen W p, n, wAt W p) 0 f) m k)], h2) ∧ mS h2 G W L B ∧ mX h2 ∧ eqx sxZ h h2
  | 0, k, h1, e, S, X, E => by
    have : k = 10 := by omega
    subst this
    rw [b243_19, if_pos (by decide +kernel), b243_44]
    exact ⟨h1, rfl, S, X, E⟩
  | m + 1, k, h1, e, S, X, E => by
    have hw := S.1
    have hN := hw.1.2
    obtain ⟨n0, K0, V0⟩ := X
    obtain ⟨a1, a2, a3, a4, a5, a6⟩ := mS_at S hp
    rw [b243_19, if_neg (by rw [nI_ltI (by decide) (by omega)]; omega), b243_25]
    obtain ⟨n, K, st, h2, e2, N2, J2, F2, b2, E2⟩ := m_soonestOf (f := f) (pap := k) (mS_C S hx hp) V0 a1 a2 a4 a5 (by omega) (by omega)
    rw [e2, bnd]
    simp only [app1, List.cons_append, List.nil_append]
    rw [b243_32]
    unfold prF
    have ok0 : okX G (0, wBeen W p, k, wAt W p) := ⟨(show (0 : Nat) < 16 by decide), a5, (show k ≤ 9 by omega), a4⟩
    cases hb : bW G (wSh W) none p (0, wBeen W p, k, wAt W p) 0 f with
    | none =>
      rw [show dyI G none = -1 from rfl, if_pos rfl, b243_38, nI_add]
      rw [if_neg (by decide)]
      exact m_proofs_loop hx hp hf m (k + 1) h2 (by omega) (mS_Z S E2) (mN_X N2) (E.tr E2)
    | some w =>
      have hd := bW_days hw hx ok0 rfl hb
      rw [show dyI G (some w) = nI (dys (gLon G) w) from rfl, if_neg (by rw [nI_m1 (by omega)]; exact id), b243_36]
      rw [if_pos (show (some w).isSome = true from rfl)]
      exact ⟨h2, rfl, mS_Z S E2, mN_X N2, E.tr E2⟩
theorem m_proofs (S : mS h G W L B) (hx : wfX G) (X : mX h) {p q : Int32} : ∃ h2, xc 243 [.ref 169, .int p, .int q] h = some ([.int (aProof G W p q)], h2) ∧ mS h2 G W L B ∧ mX h2 ∧ eqx sxZ h h2 := by
  have hP := S.1.2.2.1
  have hN := S.1.1.2
  have S0 := mS_thrown (v := nI 0) S
  have X0 := mX_thrown (v := nI 0) X
  rw [en_243, b243_0, b243_5, m_isWay S0, bnd]
  simp only [app1, List.cons_append, List.nil_append]
  rw [b243_11]
  unfold aProof
  by_cases hc : isN p.toInt64 (gP G) ∧ isN q.toInt64 (gN G)
  · rw [if_neg (by rw [bI_z]; exact fun z => z hc), if_pos hc, b243_17]
    obtain ⟨j, hj, rfl⟩ := isN_nI hc.1 (by omega)
    obtain ⟨f, hf, rfl⟩ := isN_nI hc.2 (by omega)
    rw [toN_nI (by omega), toN_nI (by omega)]
    exact m_proofs_loop (h := h) hx hj hf 10 0 _ (by omega) S0 X0 (Z_thrown eqx.rf)
  · rw [if_pos (by rw [bI_z]; exact hc), if_neg hc, b243_14]
    exact ⟨_, rfl, S0, X0, Z_thrown eqx.rf⟩
theorem m_soonestC {sh p a b pap f : Nat} {pl : Option Nat} (C : mC h G sh pl p) (X : mX h) (hat : sm_gi h 170 (90 + p) = nI a) (hbe : sm_gi h 170 (108 + p) = nI b) (hpa : sm_gi h 170 (102 + p) = nI pap) (ha : a < gN G) (hb : b < 2 ^ gN G) (hpap : pap ≤ 9) (hf : f < 2 ^ 31) : ∃ h2, xc 233 [.ref 169, .int (nI p), .int (nI f)] h = some ([.int (dyI G (bW G sh pl p (0, b, pap, a) 0 f))], h2) ∧ mX h2 ∧ eqx sxZ h h2 := by
  obtain ⟨n0, K0, V⟩ := X
  have hP := C.2.1.2.2.1
  have hp := C.2.2.2.1
  obtain ⟨n, K, st, h2, e2, N2, J2, F2, b2, E2⟩ := m_soonestOf (f := f) C V hat hbe ha hb hpap hf
  rw [en_233, b233_0]
  simp (disch := omega) only [nI_add, in_170, if_true, nI_clamp, hpa]
  rw [e2, bnd]
  simp only [app1, List.cons_append, List.nil_append]
  rw [b233_15]
  exact ⟨h2, rfl, mN_X N2, E2⟩
def lstI : Option Nat → Int32
  | none => nI 268435456
  | some d => nI d
theorem m_waives_loop {p f : Nat} (hx : wfX G) (hp : p < gP G) (hf : f < gN G) (ok0 : okX G (xS W p)) {o : Nat → Option Nat} {d0 : Option Nat} (ho : ∀ r, o r = dO G (bW G (wSh W) (some r) p (xS W p) 0 f)) (hd0 : ∀ d, d0 = some d → d ≤ 2420) : ∀ (m k : Nat) (h1 : sm_H) (l3 : Int32), k + m = gR G → mS h1 G W L B → mX h1 → eqx sxZ h h1 → ∃ h2, xe 8 244 44 [.ref 169, .int (nI p), .int (nI f), .int l3, .int (lstI (wvF o (gBri G) d0 k).1), .int (wvF o (gBri G) d0 k).2, .int (nI k)] [] h1 = some ([.int (wvF o (gBri G) d0 (gR G)).2], h2) ∧ mS h2 G W L B ∧ mX h2 ∧ eqx sxZ h h2
  | 0, k, h1, l3, e, S, X, E => by
    have hR := S.1.2.1
    have : k = gR G := by omega
    subst this
    rw [b244_44]
    simp (disch := omega) only [in_170, if_true, nI_clamp, S.2.1.1.2.1]
    rw [if_pos (Int32.le_refl _), b244_116]
    exact ⟨h1, rfl, S, X, E⟩
  | m + 1, k, h1, l3, e, S, X, E => by
    have hw := S.1
    have hN := hw.1.2
    have hR := hw.2.1
    have hP := hw.2.2.1
    have hwb := wvF_b (o := o) (br := gBri G) (b := 2420) hd0 (fun r d z => by
      rw [ho r] at z
      unfold dO at z
      obtain ⟨w, hw1, hw2⟩ := Option.map_eq_some_iff.mp z
      have := bW_days hw hx ok0 rfl hw1
      omega) k
    rw [b244_44]
    simp (disch := omega) only [in_170, if_true, nI_clamp, S.2.1.1.2.1]
    rw [if_neg (by rw [nI_leI (by omega) (by omega)]; omega), b244_55]
    simp (disch := omega) only [nI_add, in_170, if_true, nI_clamp, (S.2.1.2.1 k (by omega)).2.2.2.1]
    have ih := m_waives_loop hx hp hf ok0 ho hd0 m (k + 1)
    by_cases hb : gBri G k = true
    · rw [if_pos hb, if_neg (by decide +kernel), b244_71]
      have E1 : eqx (fun c i => c = 169 ∧ i = 15) h1 (sm_si h1 169 15 (nI k)) := eqx.si (S := fun c i => c = 169 ∧ i = 15) eqx.rf ⟨rfl, rfl⟩
      obtain ⟨a1, a2, a3, a4, a5, a6⟩ := mS_at S hp
      have C1 : mC (sm_si h1 169 15 (nI k)) G (wSh W) (some k) p := ⟨mG_eqx S.2.1 E1 (fun i z => by omega), hw, hx, hp, by rw [gi_cell (by decide)]; exact S.2.2.1.1, S.2.2.2.1.1, gi_same, fun t z => by cases z; omega⟩
      obtain ⟨h2, e2, X2, E2⟩ := m_soonestC (f := f) C1 (mX_of X E1 (fun c i z => by omega)) (by rw [gi_cell (by decide)]; exact a1) (by rw [gi_cell (by decide)]; exact a2) (by rw [gi_cell (by decide)]; exact a3) a4 a5 a6 (by omega)
      rw [b244_77, e2, bnd]
      simp only [app1, List.cons_append, List.nil_append]
      rw [b244_83, b244_89]
      have E3 : eqx sxZ h1 (sm_si h2 169 15 (-1)) := eqx_tmp E2 S.2.2.2.2.2.2.symm
      have S3 := mS_Z S E3
      have X3 : mX (sm_si h2 169 15 (-1)) := mX_of X2 (S := fun c i => c = 169 ∧ i = 15) (eqx.si (S := fun c i => c = 169 ∧ i = 15) eqx.rf ⟨rfl, rfl⟩) (fun c i z => by omega)
      rw [show ((0, wBeen W p, wPap W p, wAt W p) : XS) = xS W p from rfl]
      rw [wvF_succ, if_pos hb, ho k] at ih
      cases hq : bW G (wSh W) (some k) p (xS W p) 0 f with
      | none =>
        rw [hq] at ih
        rw [show dyI G none = -1 from rfl, if_pos rfl, b244_110, nI_add]
        exact ih _ _ (by omega) S3 X3 (E.tr E3)
      | some w =>
        have hd := bW_days hw hx ok0 rfl hq
        rw [hq, show dO G (some w) = some (dys (gLon G) w) from rfl] at ih
        dsimp only at ih
        rw [show dyI G (some w) = nI (dys (gLon G) w) from rfl, if_neg (by rw [nI_m1 (by omega)]; exact id), b244_94]
        cases hl : (wvF o (gBri G) d0 k).1 with
        | none =>
          rw [hl] at ih
          rw [show lstI none = nI 268435456 from rfl, if_pos (by rw [nI_ltI (by omega) (by omega)]; omega), b244_103, b244_110, nI_add]
          exact ih _ _ (by omega) S3 X3 (E.tr E3)
        | some l =>
          have hlb := hwb l hl
          rw [hl] at ih
          dsimp only at ih
          rw [show lstI (some l) = nI l from rfl]
          by_cases q : dys (gLon G) w < l
          · rw [if_pos q] at ih
            rw [if_pos (by rw [nI_ltI (by omega) (by omega)]; exact q), b244_103, b244_110, nI_add]
            exact ih _ _ (by omega) S3 X3 (E.tr E3)
          · rw [if_neg q] at ih
            rw [if_neg (by rw [nI_ltI (by omega) (by omega)]; exact q), b244_100, b244_110, nI_add]
            rw [hl] at ih
            exact ih _ _ (by omega) S3 X3 (E.tr E3)
    · rw [if_neg hb, if_pos (by decide +kernel), b244_68, b244_110, nI_add]
      rw [wvF_succ, if_neg hb] at ih
      exact ih _ _ (by omega) S X E
theorem m_waives (S : mS h G W L B) (hx : wfX G) (X : mX h) {p q : Int32} : ∃ h2, xc 244 [.ref 169, .int p, .int q] h = some ([.int (aWaive G W p q)], h2) ∧ mS h2 G W L B ∧ mX h2 ∧ eqx sxZ h h2 := by
  have hw := S.1
  have hP := S.1.2.2.1
  have hN := S.1.1.2
  have S0 := mS_thrown (v := nI 0) S
  have X0 := mX_thrown (v := nI 0) X
  rw [en_244, b244_0, b244_5, m_isWay S0, bnd]
  simp only [app1, List.cons_append, List.nil_append]
  rw [b244_11]
  unfold aWaive
  by_cases hc : isN p.toInt64 (gP G) ∧ isN q.toInt64 (gN G)
  · rw [if_neg (by rw [bI_z]; exact fun z => z hc), if_pos hc, b244_17]
    obtain ⟨j, hj, rfl⟩ := isN_nI hc.1 (by omega)
    obtain ⟨f, hf, rfl⟩ := isN_nI hc.2 (by omega)
    rw [toN_nI (by omega), toN_nI (by omega)]
    obtain ⟨ok0, hm0⟩ := okXS S0 hj
    obtain ⟨n, K, st, h2, e2, N2, J2, F2, b2, E2⟩ := m_soonestNow (f := f) S0 hx X0 hj (by omega)
    rw [e2, bnd]
    simp only [app1, List.cons_append, List.nil_append]
    rw [b244_23]
    have hb2 : ∀ d, dO G (bW G (wSh W) none j (xS W j) 0 f) = some d → d ≤ 2420 := fun d z => by
      unfold dO at z
      obtain ⟨w, hw1, hw2⟩ := Option.map_eq_some_iff.mp z
      have := bW_days hw hx ok0 rfl hw1
      omega
    have go : ∀ l3 : Int32, ∃ h3, xe 8 244 36 [.ref 169, .int (nI j), .int (nI f), .int l3, .null, .null, .null] [.int (lstI (dO G (bW G (wSh W) none j (xS W j) 0 f)))] h2 = some ([.int (wvF (fun r => dO G (bW G (wSh W) (some r) j (xS W j) 0 f)) (gBri G) (dO G (bW G (wSh W) none j (xS W j) 0 f)) (gR G)).2], h3) ∧ mS h3 G W L B ∧ mX h3 ∧ eqx sxZ h h3 := by
      intro l3
      rw [b244_36]
      exact m_waives_loop (h := h) hx hj hf ok0 (fun _ => rfl) hb2 (gR G) 0 h2 l3 (by omega) (mS_Z S0 E2) (mN_X N2) (Z_thrown E2)
    cases hq : bW G (wSh W) none j (xS W j) 0 f with
    | none =>
      rw [hq] at go
      rw [show dyI G none = -1 from rfl, if_pos rfl, b244_29]
      exact go _
    | some w =>
      have hd := bW_days hw hx ok0 rfl hq
      rw [hq] at go
      rw [show dyI G (some w) = nI (dys (gLon G) w) from rfl, if_neg (by rw [nI_m1 (by omega)]; exact id), b244_35]
      exact go _
  · rw [if_pos (by rw [bI_z]; exact hc), if_neg hc, b244_14]
    exact ⟨_, rfl, S0, X0, Z_thrown eqx.rf⟩
end PW
section CPW
variable {G : LG} {W : WG} {L : List WG} {B B' : Nat} {h : sm_H}
/-- a question that changes how a search begins -/
theorem cQ_set {sh p i : Nat} {pl : Option Nat} {x0 : XS} {v : Int32} (Q : cQ h G sh pl p false 1 x0) (hi : 5 ≤ i ∧ i ≤ 7) {sh' : Nat} {pl' : Option Nat} {x1 : XS} (hx1 : okX G x1 ∧ xM x1 = 0) (h5 : xF x1 = xF x0 ∧ xB x1 = xB x0) (h6 : sh' < 4096) (hpl : ∀ t, pl' = some t → t < 12) (g5 : (if i = 5 then v else nI (xN x0)) = nI (xN x1)) (g6 : (if i = 6 then v else nI sh) = nI sh') (g7 : (if i = 7 then v else toI pl) = toI pl') : cQ (sm_si h 104 i v) G sh' pl' p false 1 x1 ∧ eqx sxA4 h (sm_si h 104 i v) := by
  have E1 : eqx sxA4 h (sm_si h 104 i v) := eqx.rf.si (by unfold sxA4; omega)
  obtain ⟨cE0, a1, a2, ⟨b1, b2, b3, b4⟩, ⟨c1, c2⟩, ⟨d1, d2, d3⟩, e1, e2⟩ := Q
  have g : ∀ k, sm_gi (sm_si h 104 i v) 104 k = if k = i then v else sm_gi h 104 k := fun k => by rw [gi_si, if_pos rfl]
  refine ⟨⟨cE_eqx cE0 E1 (fun c i z => by unfold sxA4 at z; omega), a1, hx1, ⟨?_, ?_, ?_, ?_⟩, ⟨?_, h6⟩, ⟨?_, hpl, fun z => by cases z⟩, ?_, e2⟩, E1⟩
  · rw [g, if_neg (by omega)]; exact b1
  · rw [g, if_neg (by omega), h5.1]; exact b2
  · rw [g, if_neg (by omega), h5.2]; exact b3
  · rw [g, ← g5]
    by_cases q : i = 5
    · rw [if_pos q.symm, if_pos q]
    · rw [if_neg (fun z => q z.symm), if_neg q]; exact b4
  · rw [g, ← g6]
    by_cases q : i = 6
    · rw [if_pos q.symm, if_pos q]
    · rw [if_neg (fun z => q z.symm), if_neg q]; exact c1
  · rw [g, ← g7]
    by_cases q : i = 7
    · rw [if_pos q.symm, if_pos q]
    · rw [if_neg (fun z => q z.symm), if_neg q]; exact d1
  · rw [g, if_neg (by omega)]; exact e1
theorem c_proofs_loop {p f : Nat} (hp : p < gP G) (hf : f < gN G) (hB : B' < 2 ^ 28) : ∀ (m k : Nat) (h1 : sm_H) (x0 : XS), k + m = 10 → cS h1 G W L B → cQ h1 G (wSh W) none p false 1 x0 → (xF x0 = wAt W p ∧ xB x0 = wBeen W p) → cI h1 (B' + k) → eqx sxW h h1 → ∃ h2, xe 7 8 14 [.ref 113, .int (nI p), .int (nI f), .int (nI k)] [] h1 = some ([.int (prF (fun n => bW G (wSh W) none p (0, wBeen W p, n, wAt W p) 0 f) m k)], h2) ∧ cS h2 G W L B ∧ cI h2 (B' + 10) ∧ eqx sxW h h2
  | 0, k, h1, x0, e, S, Q, hx0, I, E => by
    have : k = 10 := by omega
    subst this
    rw [b8_14, if_pos (by decide +kernel), b8_55]
    exact ⟨h1, rfl, S, I, E⟩
  | m + 1, k, h1, x0, e, S, Q, hx0, I, E => by
    have hw := S.1.1
    have hx := S.1.2.1
    have hN := hw.1.2
    have hwp := S.2.2.1.2.2.1 p hp
    have ok1 : okX G (0, wBeen W p, k, wAt W p) := ⟨(show (0 : Nat) < 16 by decide), hwp.2.2.2, (show k ≤ 9 by omega), hwp.1⟩
    rw [b8_14, if_neg (by rw [nI_ltI (by decide) (by omega)]; omega), b8_20]
    obtain ⟨Q1, E1⟩ := cQ_set (i := 5) (v := nI k) (x1 := (0, wBeen W p, k, wAt W p)) Q (by omega) ⟨ok1, rfl⟩ ⟨hx0.1.symm, hx0.2.symm⟩ S.2.2.1.1 (fun t z => by cases z) (if_pos rfl) (if_neg (by decide)) (if_neg (by decide))
    obtain ⟨D, h2, e2, F2, Q2, I2, E2⟩ := c_spread Q1 (cI_A4 I E1) (by omega)
    rw [b8_28, e2, bnd]
    simp only [List.nil_append]
    rw [b8_35, c_daysTo Q2 F2 hf, bnd]
    simp only [app1, List.cons_append, List.nil_append]
    rw [b8_43]
    have E12 : eqx sxW h1 h2 := (E1.wk sxA4_W).tr (E2.wk sxH_W)
    have S2 := cS_W S Q2.1 E12
    unfold prF
    cases hb : bW G (wSh W) none p (0, wBeen W p, k, wAt W p) 0 f with
    | none =>
      rw [show dyI G none = -1 from rfl, if_pos rfl, b8_49, nI_add]
      rw [if_neg (by decide)]
      exact c_proofs_loop hp hf hB m (k + 1) h2 _ (by omega) S2 Q2 ⟨rfl, rfl⟩ I2 (E.tr E12)
    | some w =>
      have hd := bW_days hw hx ok1 rfl hb
      rw [show dyI G (some w) = nI (dys (gLon G) w) from rfl, if_neg (by rw [nI_m1 (by omega)]; exact id), b8_47]
      rw [if_pos (show (some w).isSome = true from rfl)]
      exact ⟨h2, rfl, S2, I2.mono (by omega), E.tr E12⟩
def bstI : Option Nat → Int32
  | none => -1
  | some d => nI d
theorem c_waives_loop {p f : Nat} (hp : p < gP G) (hf : f < gN G) (hB : B' < 2 ^ 28) {o : Nat → Option Nat} {d0 : Option Nat} (ho : ∀ r, o r = dO G (bW G (wSh W) (some r) p (xS W p) 0 f)) (hd0 : ∀ d, d0 = some d → d ≤ 2420) : ∀ (m k : Nat) (h1 : sm_H) (pl : Option Nat) (l6 : Value), k + m = gR G → cS h1 G W L B → cQ h1 G (wSh W) pl p false 1 (xS W p) → cI h1 (B' + 1 + k) → eqx sxW h h1 → ∃ h2, xe 8 9 20 [.ref 113, .int (nI p), .int (nI f), .int (bstI (wvF o (gBri G) d0 k).1), .int (wvF o (gBri G) d0 k).2, .int (nI k), l6] [] h1 = some ([.int (wvF o (gBri G) d0 (gR G)).2], h2) ∧ cS h2 G W L B ∧ cI h2 (B' + 13) ∧ eqx sxW h h2
  | 0, k, h1, pl, l6, e, S, Q, I, E => by
    have hR := S.1.1.2.1
    have : k = gR G := by omega
    subst this
    rw [b9_20, show sm_gi h1 2 2 = nI (gR G) from S.1.2.2.1.1.2.1, if_pos (Int32.le_refl _), b9_100]
    exact ⟨h1, rfl, S, I.mono (by omega), E⟩
  | m + 1, k, h1, pl, l6, e, S, Q, I, E => by
    have hw := S.1.1
    have hx := S.1.2.1
    have hN := hw.1.2
    have hR := hw.2.1
    have hwp := S.2.2.1.2.2.1 p hp
    have ok0 := Q.2.2.1.1
    have hwb := wvF_b (o := o) (br := gBri G) (b := 2420) hd0 (fun r d z => by
      rw [ho r] at z
      unfold dO at z
      obtain ⟨w, hw1, hw2⟩ := Option.map_eq_some_iff.mp z
      have := bW_days hw hx ok0 rfl hw1
      omega) k
    rw [b9_20, show sm_gi h1 2 2 = nI (gR G) from S.1.2.2.1.1.2.1, if_neg (by rw [nI_leI (by omega) (by omega)]; omega), b9_32, c_isBridge isD2 S.1.2.2.1 hw (show k < gR G by omega), bnd]
    simp only [app1, List.cons_append, List.nil_append]
    rw [b9_41]
    have ih := c_waives_loop hp hf hB ho hd0 m (k + 1)
    by_cases hb : gBri G k = true
    · rw [if_neg (by rw [bI_z]; exact fun z => z hb), b9_44]
      obtain ⟨Q1, E1⟩ := cQ_set (i := 7) (v := nI k) (pl' := some k) (x1 := xS W p) Q (by omega) ⟨ok0, rfl⟩ ⟨rfl, rfl⟩ S.2.2.1.1 (fun t z => by cases z; omega) (if_neg (by decide)) (if_neg (by decide)) (if_pos rfl)
      obtain ⟨D, h2, e2, F2, Q2, I2, E2⟩ := c_spread Q1 (cI_A4 I E1) (by omega)
      rw [b9_53, e2, bnd]
      simp only [List.nil_append]
      rw [b9_60, c_daysTo Q2 F2 hf, bnd]
      simp only [app1, List.cons_append, List.nil_append]
      rw [b9_68]
      have E12 : eqx sxW h1 h2 := (E1.wk sxA4_W).tr (E2.wk sxH_W)
      have S2 := cS_W S Q2.1 E12
      rw [wvF_succ, if_pos hb, ho k] at ih
      cases hq : bW G (wSh W) (some k) p (xS W p) 0 f with
      | none =>
        rw [hq] at ih
        rw [show dyI G none = -1 from rfl, if_pos rfl, b9_94, nI_add]
        exact ih _ _ _ (by omega) S2 Q2 (by rw [show B' + 1 + (k + 1) = B' + 1 + k + 1 by omega]; exact I2) (E.tr E12)
      | some w =>
        have hd := bW_days hw hx ok0 rfl hq
        rw [hq, show dO G (some w) = some (dys (gLon G) w) from rfl] at ih
        dsimp only at ih
        rw [show dyI G (some w) = nI (dys (gLon G) w) from rfl, if_neg (by rw [nI_m1 (by omega)]; exact id), b9_76]
        cases hl : (wvF o (gBri G) d0 k).1 with
        | none =>
          rw [hl] at ih
          rw [show bstI none = -1 from rfl, if_pos rfl, b9_87, b9_94, nI_add]
          exact ih _ _ _ (by omega) S2 Q2 (by rw [show B' + 1 + (k + 1) = B' + 1 + k + 1 by omega]; exact I2) (E.tr E12)
        | some l =>
          have hlb := hwb l hl
          rw [hl] at ih
          dsimp only at ih
          rw [show bstI (some l) = nI l from rfl, if_neg (by rw [nI_m1 (by omega)]; exact id), b9_81]
          by_cases q : dys (gLon G) w < l
          · rw [if_pos q] at ih
            rw [if_neg (by rw [nI_leI (by omega) (by omega)]; omega), b9_87, b9_94, nI_add]
            exact ih _ _ _ (by omega) S2 Q2 (by rw [show B' + 1 + (k + 1) = B' + 1 + k + 1 by omega]; exact I2) (E.tr E12)
          · rw [if_neg q] at ih
            rw [if_pos (by rw [nI_leI (by omega) (by omega)]; omega), b9_94, nI_add]
            rw [hl] at ih
            exact ih _ _ _ (by omega) S2 Q2 (by rw [show B' + 1 + (k + 1) = B' + 1 + k + 1 by omega]; exact I2) (E.tr E12)
    · rw [if_pos (by rw [bI_z]; exact hb), b9_94, nI_add]
      rw [wvF_succ, if_neg hb] at ih
      exact ih _ _ _ (by omega) S Q (I.mono (by omega)) E
end CPW
theorem c_proofs {G : LG} {W : WG} {L : List WG} {B B' : Nat} {h : sm_H} {p q : Int32} (S : cS h G W L B) (I : cI h B') (hB : B' < 2 ^ 28) : ∃ h2, xc 124 [.ref 0, .int p, .int q] h = some ([.int (aProof G W p q)], h2) ∧ cS h2 G W L B ∧ cI h2 (B' + 10) ∧ eqx sxW h h2 := by
  have hw := S.1.1
  have hN := hw.1.2
  have hP := hw.2.2.1
  have hR := hw.2.1
  unfold aProof
  rw [en_124, b124_0, c_hasPerson isD2 S.1.2.2.1.1.2.2.1 (by omega), bnd]
  simp only [app1, List.cons_append, List.nil_append]
  rw [b124_8]
  by_cases h1 : isN p.toInt64 (gP G)
  · rw [if_neg (by rw [bI_z]; exact fun z => z h1), b124_11, c_hasPlace isD2 S.1.2.2.1.1.1 (by omega), bnd]
    simp only [app1, List.cons_append, List.nil_append]
    rw [b124_19]
    by_cases h2 : isN q.toInt64 (gN G)
    · have hc : isN p.toInt64 (gP G) ∧ isN q.toInt64 (gN G) := ⟨h1, h2⟩
      rw [if_neg (by rw [bI_z]; exact fun z => z h2), if_pos hc]
      obtain ⟨j, hj, rfl⟩ := isN_nI h1 (by omega)
      obtain ⟨f, hf, rfl⟩ := isN_nI h2 (by omega)
      rw [toN_nI (by omega), toN_nI (by omega)]
      rw [b124_25, en_8, b8_0]
      obtain ⟨h1', e1, Q1, S1, E1⟩ := c_startAt S hj
      rw [e1, bnd]
      simp only [List.nil_append]
      obtain ⟨h2, e2, S2, I2, E2⟩ := c_proofs_loop (h := h) hj hf hB 10 0 h1' (xS W j) (by omega) S1 Q1 ⟨rfl, rfl⟩ (cI_A4 I E1) (E1.wk sxA4_W)
      rw [b8_12, e2, bnd]
      simp only [app1, List.cons_append, List.nil_append]
      rw [b124_34]
      exact ⟨h2, rfl, S2, I2, E2⟩
    · rw [if_pos (by rw [bI_z]; exact h2), if_neg (fun z : isN p.toInt64 (gP G) ∧ isN q.toInt64 (gN G) => h2 z.2), b124_22]
      exact ⟨h, rfl, S, I.mono (by omega), eqx.rf⟩
  · rw [if_pos (by rw [bI_z]; exact h1), if_neg (fun z : isN p.toInt64 (gP G) ∧ isN q.toInt64 (gN G) => h1 z.1), b124_22]
    exact ⟨h, rfl, S, I.mono (by omega), eqx.rf⟩
theorem c_waives {G : LG} {W : WG} {L : List WG} {B B' : Nat} {h : sm_H} {p q : Int32} (S : cS h G W L B) (I : cI h B') (hB : B' < 2 ^ 28) : ∃ h2, xc 125 [.ref 0, .int p, .int q] h = some ([.int (aWaive G W p q)], h2) ∧ cS h2 G W L B ∧ cI h2 (B' + 13) ∧ eqx sxW h h2 := by
  have hw := S.1.1
  have hN := hw.1.2
  have hP := hw.2.2.1
  have hR := hw.2.1
  unfold aWaive
  rw [en_125, b125_0, c_hasPerson isD2 S.1.2.2.1.1.2.2.1 (by omega), bnd]
  simp only [app1, List.cons_append, List.nil_append]
  rw [b125_8]
  by_cases h1 : isN p.toInt64 (gP G)
  · rw [if_neg (by rw [bI_z]; exact fun z => z h1), b125_11, c_hasPlace isD2 S.1.2.2.1.1.1 (by omega), bnd]
    simp only [app1, List.cons_append, List.nil_append]
    rw [b125_19]
    by_cases h2 : isN q.toInt64 (gN G)
    · have hc : isN p.toInt64 (gP G) ∧ isN q.toInt64 (gN G) := ⟨h1, h2⟩
      rw [if_neg (by rw [bI_z]; exact fun z => z h2), if_pos hc]
      obtain ⟨j, hj, rfl⟩ := isN_nI h1 (by omega)
      obtain ⟨f, hf, rfl⟩ := isN_nI h2 (by omega)
      rw [toN_nI (by omega), toN_nI (by omega)]
      rw [b125_25, en_9, b9_0]
      obtain ⟨D, h1', e1, F1, Q1, S1, I1, E1⟩ := c_seek S I (by omega) hj
      rw [e1, bnd]
      simp only [List.nil_append]
      rw [b9_5, c_daysTo Q1 F1 hf, bnd]
      simp only [app1, List.cons_append, List.nil_append]
      rw [b9_13]
      obtain ⟨h2, e2, S2, I2, E2⟩ := c_waives_loop (h := h) (o := fun r => dO G (bW G (wSh W) (some r) j (xS W j) 0 f)) (d0 := dO G (bW G (wSh W) none j (xS W j) 0 f)) hj hf hB (fun _ => rfl) (fun d z => by
      unfold dO at z
      obtain ⟨w, hw1, hw2⟩ := Option.map_eq_some_iff.mp z
      have := bW_days hw S.1.2.1 Q1.2.2.1.1 rfl hw1
      omega) (gR G) 0 h1' none .null (by omega) S1 Q1 I1 E1
      dsimp only [wvF] at e2
      rw [show dyI G (bW G (wSh W) none j (xS W j) 0 f) = bstI (dO G (bW G (wSh W) none j (xS W j) 0 f)) from dyI_O, e2, bnd]
      simp only [app1, List.cons_append, List.nil_append]
      rw [b125_34]
      exact ⟨h2, rfl, S2, I2, E2⟩
    · rw [if_pos (by rw [bI_z]; exact h2), if_neg (fun z : isN p.toInt64 (gP G) ∧ isN q.toInt64 (gN G) => h2 z.2), b125_22]
      exact ⟨h, rfl, S, I.mono (by omega), eqx.rf⟩
  · rw [if_pos (by rw [bI_z]; exact h1), if_neg (fun z : isN p.toInt64 (gP G) ∧ isN q.toInt64 (gN G) => h1 z.1), b125_22]
    exact ⟨h, rfl, S, I.mono (by omega), eqx.rf⟩
