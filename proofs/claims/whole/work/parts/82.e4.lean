/-! meetings -/
def mtF (a b : Nat → Option Nat) : Nat → Option (Nat × Nat)
  | 0 => none
  | k + 1 => match a k, b k with
    | some x, some y => (match mtF a b k with
      | none => some (max x y, k)
      | some t => if max x y < t.1 then some (max x y, k) else some t)
    | _, _ => mtF a b k
theorem mtF_succ {a b : Nat → Option Nat} {k : Nat} : mtF a b (k + 1) = (match a k, b k with
    | some x, some y => (match mtF a b k with
      | none => some (max x y, k)
      | some t => if max x y < t.1 then some (max x y, k) else some t)
    | _, _ => mtF a b k) := rfl
theorem mtF_b {a b : Nat → Option Nat} {c : Nat} (ha : ∀ k x, a k = some x → x ≤ c) (hb : ∀ k x, b k = some x → x ≤ c) : ∀ k t, mtF a b k = some t → t.1 ≤ c ∧ t.2 < k
  | 0, t, h => by cases h
  | k + 1, t, h => by
    rw [mtF_succ] at h
    cases hx : a k with
    | none =>
      rw [hx] at h
      have := mtF_b ha hb k t h
      exact ⟨this.1, by omega⟩
    | some x =>
      cases hy : b k with
      | none =>
        rw [hx, hy] at h
        have := mtF_b ha hb k t h
        exact ⟨this.1, by omega⟩
      | some y =>
        have h1 := ha k x hx
        have h2 := hb k y hy
        rw [hx, hy] at h
        dsimp only at h
        cases hm : mtF a b k with
        | none => rw [hm] at h; cases h; exact ⟨by show max x y ≤ c; omega, by show k < k + 1; omega⟩
        | some s =>
          rw [hm] at h
          dsimp only at h
          split at h
          · cases h; exact ⟨by show max x y ≤ c; omega, by show k < k + 1; omega⟩
          · cases h
            have := mtF_b ha hb k t hm
            exact ⟨this.1, by omega⟩
noncomputable def mtG (G : LG) (W : WG) (p q : Nat) : Nat → Option (Nat × Nat) := mtF (fun f => dO G (bW G (wSh W) none p (xS W p) 0 f)) (fun f => dO G (bW G (wSh W) none q (xS W q) 0 f))
noncomputable def aMeet (G : LG) (W : WG) (p q : Int32) : Int32 := if isN p.toInt64 (gP G) ∧ isN q.toInt64 (gP G) ∧ p.toInt64 ≠ q.toInt64 then (match mtG G W (toN p) (toN q) (gN G) with | none => -1 | some t => nI t.1) else -2
noncomputable def aMeetAt (G : LG) (W : WG) (p q : Int32) : Int32 := if isN p.toInt64 (gP G) ∧ isN q.toInt64 (gP G) ∧ p.toInt64 ≠ q.toInt64 then (match mtG G W (toN p) (toN q) (gN G) with | none => -1 | some t => nI t.2) else -2
def mlI : Option (Nat × Nat) → Int32
  | none => nI 268435456
  | some t => nI t.1
def mpI : Option (Nat × Nat) → Int32
  | none => -1
  | some t => nI t.2
def dI : Option Nat → Int32
  | none => -1
  | some d => nI d
theorem dyI_dO {G : LG} (o : Option (List Nat)) : dyI G o = dI (dO G o) := by cases o <;> rfl
def cmI : Option (Nat × Nat) → Int32
  | none => -1
  | some t => nI (t.1 * 6 + t.2)
section MEET
variable {G : LG} {W : WG} {L : List WG} {B B' : Nat} {h : sm_H}
theorem dO_b (hw : wfG G) (hx : wfX G) {sh p f : Nat} {x0 : XS} (ok : okX G x0) (hm : xM x0 = 0) {d : Nat} (h : dO G (bW G sh none p x0 0 f) = some d) : d ≤ 2420 := by
  unfold dO at h
  obtain ⟨w, hw1, hw2⟩ := Option.map_eq_some_iff.mp h
  have := bW_days hw hx ok hm hw1
  omega
theorem mtG_b (hw : wfG G) (hx : wfX G) {p q : Nat} (ok1 : okX G (xS W p) ∧ xM (xS W p) = 0) (ok2 : okX G (xS W q) ∧ xM (xS W q) = 0) (k : Nat) (t : Nat × Nat) (h : mtG G W p q k = some t) : t.1 ≤ 2420 ∧ t.2 < k :=
  mtF_b (a := fun f => dO G (bW G (wSh W) none p (xS W p) 0 f)) (b := fun f => dO G (bW G (wSh W) none q (xS W q) 0 f)) (fun k x z => dO_b hw hx ok1.1 ok1.2 z) (fun k x z => dO_b hw hx ok2.1 ok2.2 z) k t h
theorem m_soonestD (S : mS h G W L B) (hx : wfX G) (X : mX h) {p f : Nat} (hp : p < gP G) (hf : f < 2 ^ 31) : ∃ h2, xc 233 [.ref 169, .int (nI p), .int (nI f)] h = some ([.int (dI (dO G (bW G (wSh W) none p (xS W p) 0 f)))], h2) ∧ mX h2 ∧ eqx sxZ h h2 ∧ sm_gi h2 169 30 = sm_gi h 169 30 := by
  obtain ⟨n, K, st, h2, e2, N2, J2, F2, b2, E2⟩ := m_soonestNow (f := f) S hx X hp hf
  refine ⟨h2, by rw [e2, dyI_dO], mN_X N2, E2, ?_⟩
  obtain ⟨n0, K0, V⟩ := X
  have hP := S.1.2.2.1
  obtain ⟨a1, a2, a3, a4, a5, a6⟩ := mS_at S hp
  obtain ⟨n, K, h3, e3, C3, L3, cm3, E3⟩ := m_laysStands (ov := false) (mS_C S hx hp) V a1 a2 a4 a5 a6
  obtain ⟨st, h4, e4, a4', J4, F4, N4, E4⟩ := m_laysStill (kd := 0) (g := f) (gI := nI f) ⟨C3, L3, cm3⟩ (by decide) (fun _ => ⟨rfl, hf⟩)
  rw [if_neg (by decide)] at e3
  rw [en_233, b233_0] at e2
  simp (disch := omega) only [nI_add, in_170, if_true, nI_clamp, a3] at e2
  rw [en_232, b232_0, e3, bnd] at e2
  simp only [List.nil_append] at e2
  rw [b232_7, e4, bnd] at e2
  simp only [app1, List.cons_append, List.nil_append] at e2
  rw [b232_13, bnd] at e2
  simp only [app1, List.cons_append, List.nil_append] at e2
  rw [b233_15] at e2
  have : h4 = h2 := by injection e2 with e; injection e
  rw [← this, E4.1 169 30 (by unfold sx179; omega), E3.1 169 30 (by unfold sxS; omega)]
theorem m_meet_max {l1 l2 l3 l4 l5 s0 : Int32} {l6 l7 : Value} {h : sm_H} : xe 8 257 39 [.ref 169, .int l1, .int l2, .int l3, .int l4, .int l5, l6, l7] [.int s0] h = xe 8 257 55 [.ref 169, .int l1, .int l2, .int l3, .int l4, .int l5, .int s0, l7] [.int (if l5 ≤ s0 then s0 else l5)] h := by
  rw [b257_39]
  by_cases q : l5 ≤ s0
  · rw [if_pos q, if_pos q, b257_53]
  · rw [if_neg q, if_neg q, b257_48]
theorem m_meet_loop {p q : Nat} (hx : wfX G) (hp : p < gP G) (hq : q < gP G) : ∀ (m k : Nat) (h1 : sm_H) (l5 l6 l7 : Value), k + m = gN G → mS h1 G W L B → mX h1 → sm_gi h1 169 30 = mpI (mtG G W p q k) → eqx sxZ h h1 → ∃ h2, xe 8 257 12 [.ref 169, .int (nI p), .int (nI q), .int (mlI (mtG G W p q k)), .int (nI k), l5, l6, l7] [] h1 = some ([.int (match mtG G W p q (gN G) with | none => -1 | some t => nI t.1)], h2) ∧ sm_gi h2 169 30 = mpI (mtG G W p q (gN G)) ∧ mS h2 G W L B ∧ mX h2 ∧ eqx sxZ h h2
  | 0, k, h1, l5, l6, l7, e, S, X, g, E => by
    have hw := S.1
    have hN := hw.1.2
    have : k = gN G := by omega
    subst this
    rw [b257_12]
    simp (disch := omega) only [in_170, if_true, nI_clamp, S.2.1.1.1]
    rw [if_pos (Int32.le_refl _), b257_93]
    refine ⟨h1, ?_, g, S, X, E⟩
    cases hm : mtG G W p q (gN G) with
    | none => rw [show mlI none = nI 268435456 from rfl, if_neg (by decide +kernel), b257_100, b257_105]
    | some t =>
      have := (mtG_b hw hx (okXS S hp) (okXS S hq) _ _ hm).1
      rw [show mlI (some t) = nI t.1 from rfl, if_pos (by rw [nI_ltI (by omega) (by omega)]; omega), b257_104, b257_105]
  | m + 1, k, h1, l5, l6, l7, e, S, X, g, E => by
    have hw := S.1
    have hN := hw.1.2
    have hmb := mtG_b hw hx (okXS S hp) (okXS S hq) k
    rw [b257_12]
    simp (disch := omega) only [in_170, if_true, nI_clamp, S.2.1.1.1]
    rw [if_neg (by rw [nI_leI (by omega) (by omega)]; omega), b257_23]
    obtain ⟨h2, e2, X2, E2, g2⟩ := m_soonestD (f := k) S hx X hp (by omega)
    rw [e2, bnd]
    simp only [app1, List.cons_append, List.nil_append]
    have S2 := mS_Z S E2
    obtain ⟨h3, e3, X3, E3, g3⟩ := m_soonestD (f := k) S2 hx X2 hq (by omega)
    rw [b257_30, e3, bnd]
    simp only [app1, List.cons_append, List.nil_append]
    have S3 := mS_Z S2 E3
    have E13 := (E.tr E2).tr E3
    have gg : sm_gi h3 169 30 = mpI (mtG G W p q k) := g3.trans (g2.trans g)
    have ih := m_meet_loop hx hp hq m (k + 1)
    rw [show mtG G W p q (k + 1) = _ from mtF_succ] at ih
    rw [m_meet_max, b257_55]
    cases ha : dO G (bW G (wSh W) none p (xS W p) 0 k) with
    | none =>
      rw [ha] at ih
      rw [show dI none = -1 from rfl, if_pos rfl, b257_87, nI_add]
      exact ih h3 _ _ _ (by omega) S3 X3 gg E13
    | some x =>
      have hx1 := dO_b hw hx (okXS S hp).1 (okXS S hp).2 ha
      rw [ha] at ih
      rw [show dI (some x) = nI x from rfl, if_neg (by rw [nI_m1 (by omega)]; exact id), b257_63]
      cases hb : dO G (bW G (wSh W) none q (xS W q) 0 k) with
      | none =>
        rw [hb] at ih
        rw [show dI none = -1 from rfl, if_pos rfl, b257_87, nI_add]
        exact ih h3 _ _ _ (by omega) S3 X3 gg E13
      | some y =>
        have hy1 := dO_b hw hx (okXS S hq).1 (okXS S hq).2 hb
        rw [hb] at ih
        rw [show dI (some y) = nI y from rfl, if_neg (by rw [nI_m1 (by omega)]; exact id), b257_69]
        have hmx : (if nI x ≤ nI y then nI y else nI x) = nI (max x y) := by
          by_cases z : x ≤ y
          · rw [if_pos (by rw [nI_leI (by omega) (by omega)]; exact z), show max x y = y by omega]
          · rw [if_neg (by rw [nI_leI (by omega) (by omega)]; exact z), show max x y = x by omega]
        rw [hmx]
        have hml : max x y ≤ 2420 := by omega
        have E5 : eqx sxZ h3 (sm_si h3 169 30 (nI k)) := eqx.rf.si (by unfold sxZ; omega)
        have X5 : mX (sm_si h3 169 30 (nI k)) := by
          obtain ⟨n, K, V⟩ := X3
          exact ⟨n, K, mV_eqx V (S := fun c i => c = 169 ∧ i = 30) (eqx.si (S := fun c i => c = 169 ∧ i = 30) eqx.rf ⟨rfl, rfl⟩) (fun c i z => by omega)⟩
        cases hm : mtG G W p q k with
        | none =>
          rw [show mtF (fun f => dO G (bW G (wSh W) none p (xS W p) 0 f)) (fun f => dO G (bW G (wSh W) none q (xS W q) 0 f)) k = none from hm] at ih
          rw [show mlI none = nI 268435456 from rfl, if_pos (by rw [nI_ltI (by omega) (by omega)]; omega), b257_78, b257_87, nI_add]
          exact ih _ _ _ _ (by omega) (mS_Z S3 E5) X5 gi_same (E13.tr E5)
        | some t =>
          have ht := hmb t hm
          rw [show mtF (fun f => dO G (bW G (wSh W) none p (xS W p) 0 f)) (fun f => dO G (bW G (wSh W) none q (xS W q) 0 f)) k = some t from hm] at ih
          rw [hm] at gg
          dsimp only at ih
          by_cases z : max x y < t.1
          · rw [if_pos z] at ih
            rw [show mlI (some t) = nI t.1 from rfl, if_pos (by rw [nI_ltI (by omega) (by omega)]; exact z), b257_78, b257_87, nI_add]
            exact ih _ _ _ _ (by omega) (mS_Z S3 E5) X5 gi_same (E13.tr E5)
          · rw [if_neg z] at ih
            rw [show mlI (some t) = nI t.1 from rfl, if_neg (by rw [nI_ltI (by omega) (by omega)]; exact z), b257_75, b257_87, nI_add]
            exact ih _ _ _ _ (by omega) S3 X3 gg E13
theorem m_laysMeet {p q : Nat} (S : mS h G W L B) (hx : wfX G) (X : mX h) (hp : p < gP G) (hq : q < gP G) : ∃ h2, xc 257 [.ref 169, .int (nI p), .int (nI q)] h = some ([.int (match mtG G W p q (gN G) with | none => -1 | some t => nI t.1)], h2) ∧ sm_gi h2 169 30 = mpI (mtG G W p q (gN G)) ∧ mS h2 G W L B ∧ mX h2 ∧ eqx sxZ h h2 := by
  have E5 : eqx sxZ h (sm_si h 169 30 (-1)) := eqx.rf.si (by unfold sxZ; omega)
  have X5 : mX (sm_si h 169 30 (-1)) := by
    obtain ⟨n, K, V⟩ := X
    exact ⟨n, K, mV_eqx V (S := fun c i => c = 169 ∧ i = 30) (eqx.si (S := fun c i => c = 169 ∧ i = 30) eqx.rf ⟨rfl, rfl⟩) (fun c i z => by omega)⟩
  rw [en_257, b257_0, b257_9]
  exact m_meet_loop (h := h) hx hp hq (gN G) 0 _ _ _ _ (by omega) (mS_Z S E5) X5 gi_same E5
theorem m_meet (S : mS h G W L B) (hx : wfX G) (X : mX h) {p q : Int32} : ∃ h2, xc 258 [.ref 169, .int p, .int q] h = some ([.int (aMeet G W p q)], h2) ∧ mS h2 G W L B ∧ mX h2 ∧ eqx sxZ h h2 := by
  have hP := S.1.2.2.1
  have S0 := mS_thrown (v := nI 0) S
  have X0 := mX_thrown (v := nI 0) X
  rw [en_258, b258_0, b258_5, m_areTwo S0, bnd]
  simp only [app1, List.cons_append, List.nil_append]
  rw [b258_13]
  unfold aMeet
  by_cases hc : isN p.toInt64 (gP G) ∧ isN q.toInt64 (gP G) ∧ p.toInt64 ≠ q.toInt64
  · rw [if_neg (by rw [bI_z]; exact fun z => z hc), if_pos hc, b258_16]
    obtain ⟨j, hj, rfl⟩ := isN_nI hc.1 (by omega)
    obtain ⟨f, hf, rfl⟩ := isN_nI hc.2.1 (by omega)
    rw [toN_nI (by omega), toN_nI (by omega)]
    obtain ⟨h2, e2, g2, S2, X2, E2⟩ := m_laysMeet S0 hx X0 hj hf
    rw [e2, bnd]
    simp only [app1, List.cons_append, List.nil_append]
    rw [b258_22, b258_27]
    exact ⟨h2, rfl, S2, X2, Z_thrown E2⟩
  · rw [if_pos (by rw [bI_z]; exact hc), if_neg hc, b258_25, b258_27]
    exact ⟨_, rfl, S0, X0, Z_thrown eqx.rf⟩
theorem m_meetAt (S : mS h G W L B) (hx : wfX G) (X : mX h) {p q : Int32} : ∃ h2, xc 259 [.ref 169, .int p, .int q] h = some ([.int (aMeetAt G W p q)], h2) ∧ mS h2 G W L B ∧ mX h2 ∧ eqx sxZ h h2 := by
  have hP := S.1.2.2.1
  have S0 := mS_thrown (v := nI 0) S
  have X0 := mX_thrown (v := nI 0) X
  rw [en_259, b259_0, b259_5, m_areTwo S0, bnd]
  simp only [app1, List.cons_append, List.nil_append]
  rw [b259_13]
  unfold aMeetAt
  by_cases hc : isN p.toInt64 (gP G) ∧ isN q.toInt64 (gP G) ∧ p.toInt64 ≠ q.toInt64
  · rw [if_neg (by rw [bI_z]; exact fun z => z hc), if_pos hc, b259_19]
    obtain ⟨j, hj, rfl⟩ := isN_nI hc.1 (by omega)
    obtain ⟨f, hf, rfl⟩ := isN_nI hc.2.1 (by omega)
    rw [toN_nI (by omega), toN_nI (by omega)]
    obtain ⟨h2, e2, g2, S2, X2, E2⟩ := m_laysMeet S0 hx X0 hj hf
    rw [e2, bnd]
    simp only [app1, List.cons_append, List.nil_append]
    rw [b259_25, g2]
    refine ⟨h2, ?_, S2, X2, Z_thrown E2⟩
    cases mtG G W j f (gN G) <;> rfl
  · rw [if_pos (by rw [bI_z]; exact hc), if_neg hc, b259_16]
    exact ⟨_, rfl, S0, X0, Z_thrown eqx.rf⟩
end MEET
/-! the class -/
section CMEET
variable {G : LG} {W : WG} {L : List WG} {B B' : Nat} {h : sm_H}
def sxVV : Nat → Nat → Prop := fun c i => sxA4 c i ∨ sxH c i
theorem sxVV_W : ∀ c i, sxVV c i → sxW c i := fun c i z => z.elim (sxA4_W c i) (sxH_W c i)
theorem c_seekV {p : Nat} (S : cS h G W L B) (I : cI h B') (hB : B' < 2 ^ 29) (hp : p < gP G) : ∃ D h2, xc 6 [.ref 113, .int (nI p)] h = some ([], h2) ∧ FS h2 G (wSh W) none p false (xS W p) D ∧ cQ h2 G (wSh W) none p false 1 (xS W p) ∧ cS h2 G W L B ∧ cI h2 (B' + 1) ∧ eqx sxVV h h2 := by
  obtain ⟨h1, e1, Q1, S1, E1⟩ := c_startAt S hp
  obtain ⟨D, h2, e2, F2, Q2, I2, E2⟩ := c_spread Q1 (cI_A4 I E1) hB
  rw [en_6, b6_0, e1, bnd]
  simp only [List.nil_append]
  rw [b6_12, e2, bnd]
  simp only [List.nil_append]
  rw [b6_19]
  exact ⟨D, h2, rfl, F2, Q2, cS_W S1 Q2.1 (E2.wk sxH_W), I2, (E1.wk (fun c i => Or.inl)).tr (E2.wk (fun c i => Or.inr))⟩
def sx114 : Nat → Nat → Prop := fun c _ => c = 114
theorem sx114_W : ∀ c i, sx114 c i → sxW c i := fun c i z => by unfold sx114 at z; unfold sxW; omega
theorem in_114 {n : Nat} (hn : n < 6) : sm_in 114 (nI n) ↔ True := in_ln (by omega) (by rw [ln_114]; exact hn)
theorem c_first_loop {p : Nat} {p' q' : Int32} {h0 : sm_H} {D : Nat → Option (List Nat)} (Q0 : cQ h0 G (wSh W) none p false 1 (xS W p)) (F0 : FS h0 G (wSh W) none p false (xS W p) D) : ∀ (m k : Nat) (h1 : sm_H), k + m = gN G → (∀ f, f < k → sm_gi h1 114 f = dI (dO G (bW G (wSh W) none p (xS W p) 0 f))) → eqx sx114 h0 h1 → ∃ h2, xe 8 16 7 [.ref 113, .int p', .int q', .int (nI k), .null, .null, .null] [] h1 = xe 8 16 38 [.ref 113, .int p', .int q', .int (nI (gN G)), .null, .null, .null] [] h2 ∧ (∀ f, f < gN G → sm_gi h2 114 f = dI (dO G (bW G (wSh W) none p (xS W p) 0 f))) ∧ eqx sx114 h0 h2
  | 0, k, h1, e, g, E => by
    have : k = gN G := by omega
    subst this
    have c1 := cE_eqx Q0.1 E (fun c i z => by unfold sx114 at z; omega)
    rw [b16_7, show sm_gi h1 2 0 = nI (gN G) from c1.2.2.1.1.1, if_pos (Int32.le_refl _)]
    exact ⟨h1, rfl, g, E⟩
  | m + 1, k, h1, e, g, E => by
    have c1 := cE_eqx Q0.1 E (fun c i z => by unfold sx114 at z; omega)
    have hN := c1.1.1.2
    have Q1 := cQ_eqx Q0 c1 E (fun c i z => by unfold sx114 at z; omega)
    have F1 := FS_eqx F0 E (fun c i z => by unfold sx114 at z; omega)
    rw [b16_7, show sm_gi h1 2 0 = nI (gN G) from c1.2.2.1.1.1, if_neg (by rw [nI_leI (by omega) (by omega)]; omega), b16_18, c_daysTo Q1 F1 (f := k) (by omega), bnd]
    simp only [app1, List.cons_append, List.nil_append]
    rw [b16_31]
    simp (disch := omega) only [in_114, if_true, nI_clamp]
    rw [b16_32, nI_add]
    refine c_first_loop Q0 F0 m (k + 1) _ (by omega) (fun f hf => ?_) (E.tr (eqx.rf.si (by unfold sx114; rfl)))
    by_cases z : f = k
    · subst z
      rw [gi_same, dyI_dO]
    · rw [gi_slot z]
      exact g f (by omega)
theorem c_best_loop {p q : Nat} {p' q' : Int32} {D : Nat → Option (List Nat)} (hw : wfG G) (hx : wfX G) (ok1 : okX G (xS W p) ∧ xM (xS W p) = 0) (ok2 : okX G (xS W q) ∧ xM (xS W q) = 0) (Q : cQ h G (wSh W) none q false 1 (xS W q)) (F : FS h G (wSh W) none q false (xS W q) D) (g : ∀ f, f < gN G → sm_gi h 114 f = dI (dO G (bW G (wSh W) none p (xS W p) 0 f))) : ∀ (m k : Nat) (l5 l6 : Value), k + m = gN G → xe 8 16 48 [.ref 113, .int p', .int q', .int (cmI (mtG G W p q k)), .int (nI k), l5, l6] [] h = some ([.int (cmI (mtG G W p q (gN G)))], h)
  | 0, k, l5, l6, e => by
    have : k = gN G := by omega
    subst this
    rw [b16_48, show sm_gi h 2 0 = nI (gN G) from Q.1.2.2.1.1.1, if_pos (Int32.le_refl _), b16_131]
  | m + 1, k, l5, l6, e => by
    have hN := hw.1.2
    have hmb := mtG_b hw hx ok1 ok2 k
    have ih := c_best_loop (p' := p') (q' := q') hw hx ok1 ok2 Q F g m (k + 1)
    rw [show mtG G W p q (k + 1) = _ from mtF_succ] at ih
    rw [b16_48, show sm_gi h 2 0 = nI (gN G) from Q.1.2.2.1.1.1, if_neg (by rw [nI_leI (by omega) (by omega)]; omega), b16_60, c_daysTo Q F (f := k) (by omega), bnd]
    simp only [app1, List.cons_append, List.nil_append]
    rw [b16_69, dyI_dO]
    cases ha : dO G (bW G (wSh W) none p (xS W p) 0 k) with
    | none =>
      rw [ha] at ih
      cases hb : dO G (bW G (wSh W) none q (xS W q) 0 k) with
      | none =>
        rw [show dI none = -1 from rfl, if_pos rfl, b16_125, nI_add]
        exact ih _ _ (by omega)
      | some y =>
        have hy1 := dO_b hw hx ok2.1 ok2.2 hb
        rw [show dI (some y) = nI y from rfl, if_neg (by rw [nI_m1 (by omega)]; exact id), b16_77]
        simp (disch := omega) only [in_114, if_true, nI_clamp]
        rw [g k (by omega), ha, show dI none = -1 from rfl, if_pos rfl, b16_125, nI_add]
        exact ih _ _ (by omega)
    | some x =>
      have hx1 := dO_b hw hx ok1.1 ok1.2 ha
      rw [ha] at ih
      cases hb : dO G (bW G (wSh W) none q (xS W q) 0 k) with
      | none =>
        rw [hb] at ih
        rw [show dI none = -1 from rfl, if_pos rfl, b16_125, nI_add]
        exact ih _ _ (by omega)
      | some y =>
        have hy1 := dO_b hw hx ok2.1 ok2.2 hb
        rw [hb] at ih
        rw [show dI (some y) = nI y from rfl, if_neg (by rw [nI_m1 (by omega)]; exact id), b16_77]
        simp (disch := omega) only [in_114, if_true, nI_clamp]
        rw [g k (by omega), ha, show dI (some x) = nI x from rfl, if_neg (by rw [nI_m1 (by omega)]; exact id), b16_88]
        simp (disch := omega) only [in_114, if_true, nI_clamp]
        rw [g k (by omega), ha, show dI (some x) = nI x from rfl, c_max, bnd]
        simp only [app1, List.cons_append, List.nil_append]
        have hmx : (if nI y < nI x then nI x else nI y) = nI (max x y) := by
          by_cases z : y < x
          · rw [if_pos (by rw [nI_ltI (by omega) (by omega)]; exact z), show max x y = x by omega]
          · rw [if_neg (by rw [nI_ltI (by omega) (by omega)]; exact z), show max x y = y by omega]
        rw [b16_100, hmx, pk_mul, nI_add]
        have hml : max x y ≤ 2420 := by omega
        cases hm : mtG G W p q k with
        | none =>
          rw [show mtF (fun f => dO G (bW G (wSh W) none p (xS W p) 0 f)) (fun f => dO G (bW G (wSh W) none q (xS W q) 0 f)) k = none from hm] at ih
          rw [show cmI none = -1 from rfl, if_pos rfl, b16_113, b16_124, b16_125, nI_add]
          exact ih _ _ (by omega)
        | some t =>
          have ht := hmb t hm
          rw [show mtF (fun f => dO G (bW G (wSh W) none p (xS W p) 0 f)) (fun f => dO G (bW G (wSh W) none q (xS W q) 0 f)) k = some t from hm] at ih
          dsimp only at ih
          rw [show cmI (some t) = nI (t.1 * 6 + t.2) from rfl, if_neg (by rw [nI_m1 (by omega)]; exact id), b16_118, c_min, bnd]
          simp only [app1, List.cons_append, List.nil_append]
          rw [b16_124, b16_125, nI_add]
          by_cases z : max x y < t.1
          · rw [if_pos z] at ih
            rw [if_neg (by rw [nI_leI (by omega) (by omega)]; omega)]
            exact ih _ _ (by omega)
          · rw [if_neg z] at ih
            rw [if_pos (by rw [nI_leI (by omega) (by omega)]; omega)]
            exact ih _ _ (by omega)
theorem c_soonestMeeting {p q : Nat} (S : cS h G W L B) (I : cI h B') (hB : B' < 2 ^ 28) (hp : p < gP G) (hq : q < gP G) : ∃ h2, xc 16 [.ref 113, .int (nI p), .int (nI q)] h = some ([.int (cmI (mtG G W p q (gN G)))], h2) ∧ (∀ t, mtG G W p q (gN G) = some t → t.1 ≤ 2420 ∧ t.2 < 6) ∧ cS h2 G W L B ∧ cI h2 (B' + 2) ∧ eqx sxW h h2 := by
  have hw := S.1.1
  have hx := S.1.2.1
  have hN := hw.1.2
  obtain ⟨D, h1, e1, F1, Q1, S1, I1, E1⟩ := c_seekV S I (by omega) hp
  rw [en_16, b16_0, e1, bnd]
  simp only [List.nil_append]
  rw [b16_5]
  obtain ⟨h2, e2, g2, E2⟩ := c_first_loop (p' := nI p) (q' := nI q) Q1 F1 (gN G) 0 h1 (by omega) (fun f hf => absurd hf (by omega)) eqx.rf
  have c2 := cE_eqx Q1.1 E2 (fun c i z => by unfold sx114 at z; omega)
  have S2 := cS_W S1 c2 (E2.wk sx114_W)
  have I2 := cI_eqx I1 E2 (fun c i z => by unfold sx114 at z; omega)
  rw [e2]
  obtain ⟨D', h3, e3, F3, Q3, S3, I3, E3⟩ := c_seekV S2 I2 (by omega) hq
  rw [b16_38, e3, bnd]
  simp only [List.nil_append]
  rw [b16_43]
  have g3 : ∀ f, f < gN G → sm_gi h3 114 f = dI (dO G (bW G (wSh W) none p (xS W p) 0 f)) := fun f hf => (E3.1 114 f (by unfold sxVV sxA4 sxH; omega)).trans (g2 f hf)
  have ok1 : okX G (xS W p) ∧ xM (xS W p) = 0 := Q1.2.2.1
  have ok2 : okX G (xS W q) ∧ xM (xS W q) = 0 := Q3.2.2.1
  have e4 := c_best_loop (p' := nI p) (q' := nI q) hw hx ok1 ok2 Q3 F3 g3 (gN G) 0 .null .null (by omega)
  rw [show cmI (mtG G W p q 0) = -1 from rfl] at e4
  rw [e4]
  refine ⟨h3, rfl, fun t ht => ?_, S3, I3, ((E1.wk sxVV_W).tr (E2.wk sx114_W)).tr (E3.wk sxVV_W)⟩
  have := mtG_b hw hx ok1 ok2 _ t ht
  exact ⟨this.1, by omega⟩
theorem c_meet (S : cS h G W L B) (I : cI h B') (hB : B' < 2 ^ 28) {p q : Int32} : ∃ h2, xc 134 [.ref 0, .int p, .int q] h = some ([.int (aMeet G W p q)], h2) ∧ cS h2 G W L B ∧ cI h2 (B' + 2) ∧ eqx sxW h h2 := by
  have hP := S.1.1.2.2.1
  unfold aMeet
  rw [en_134, b134_0, c_hasPerson isD2 S.1.2.2.1.1.2.2.1 (by omega), bnd]
  simp only [app1, List.cons_append, List.nil_append]
  rw [b134_8]
  by_cases h1 : isN p.toInt64 (gP G)
  · rw [if_neg (by rw [bI_z]; exact fun z => z h1), b134_11, c_hasPerson isD2 S.1.2.2.1.1.2.2.1 (by omega), bnd]
    simp only [app1, List.cons_append, List.nil_append]
    rw [b134_19]
    by_cases h2 : isN q.toInt64 (gP G)
    · rw [if_neg (by rw [bI_z]; exact fun z => z h2), b134_22]
      by_cases h3 : p = q
      · rw [if_pos h3, if_neg (fun z => z.2.2 (by rw [h3])), b134_27]
        exact ⟨h, rfl, S, I.mono (by omega), eqx.rf⟩
      · have hc : isN p.toInt64 (gP G) ∧ isN q.toInt64 (gP G) ∧ p.toInt64 ≠ q.toInt64 := ⟨h1, h2, fun z => h3 ((fa_wide_eq _ _).mp z)⟩
        rw [if_neg h3, if_pos hc, b134_30]
        obtain ⟨j, hj, rfl⟩ := isN_nI h1 (by omega)
        obtain ⟨f, hf, rfl⟩ := isN_nI h2 (by omega)
        rw [toN_nI (by omega), toN_nI (by omega)]
        obtain ⟨h2, e2, b2, S2, I2, E2⟩ := c_soonestMeeting S I hB hj hf
        rw [e2, bnd]
        simp only [app1, List.cons_append, List.nil_append]
        rw [b134_39]
        cases hm : mtG G W j f (gN G) with
        | none =>
          rw [show cmI none = -1 from rfl, if_pos rfl, b134_45, b134_53]
          exact ⟨h2, rfl, S2, I2, E2⟩
        | some t =>
          have hb := b2 t hm
          rw [show cmI (some t) = nI (t.1 * 6 + t.2) from rfl, if_neg (by rw [nI_m1 (by omega)]; exact id), b134_49, b134_53, pk_div (by omega) (by decide) (by decide), show (t.1 * 6 + t.2) / 6 = t.1 by omega]
          exact ⟨h2, rfl, S2, I2, E2⟩
    · rw [if_pos (by rw [bI_z]; exact h2), if_neg (fun z => h2 z.2.1), b134_27]
      exact ⟨h, rfl, S, I.mono (by omega), eqx.rf⟩
  · rw [if_pos (by rw [bI_z]; exact h1), if_neg (fun z => h1 z.1), b134_27]
    exact ⟨h, rfl, S, I.mono (by omega), eqx.rf⟩
theorem c_meetAt (S : cS h G W L B) (I : cI h B') (hB : B' < 2 ^ 28) {p q : Int32} : ∃ h2, xc 135 [.ref 0, .int p, .int q] h = some ([.int (aMeetAt G W p q)], h2) ∧ cS h2 G W L B ∧ cI h2 (B' + 2) ∧ eqx sxW h h2 := by
  have hP := S.1.1.2.2.1
  unfold aMeetAt
  rw [en_135, b135_0, c_hasPerson isD2 S.1.2.2.1.1.2.2.1 (by omega), bnd]
  simp only [app1, List.cons_append, List.nil_append]
  rw [b135_8]
  by_cases h1 : isN p.toInt64 (gP G)
  · rw [if_neg (by rw [bI_z]; exact fun z => z h1), b135_11, c_hasPerson isD2 S.1.2.2.1.1.2.2.1 (by omega), bnd]
    simp only [app1, List.cons_append, List.nil_append]
    rw [b135_19]
    by_cases h2 : isN q.toInt64 (gP G)
    · rw [if_neg (by rw [bI_z]; exact fun z => z h2), b135_22]
      by_cases h3 : p = q
      · rw [if_pos h3, if_neg (fun z => z.2.2 (by rw [h3])), b135_27]
        exact ⟨h, rfl, S, I.mono (by omega), eqx.rf⟩
      · have hc : isN p.toInt64 (gP G) ∧ isN q.toInt64 (gP G) ∧ p.toInt64 ≠ q.toInt64 := ⟨h1, h2, fun z => h3 ((fa_wide_eq _ _).mp z)⟩
        rw [if_neg h3, if_pos hc, b135_30]
        obtain ⟨j, hj, rfl⟩ := isN_nI h1 (by omega)
        obtain ⟨f, hf, rfl⟩ := isN_nI h2 (by omega)
        rw [toN_nI (by omega), toN_nI (by omega)]
        obtain ⟨h2, e2, b2, S2, I2, E2⟩ := c_soonestMeeting S I hB hj hf
        rw [e2, bnd]
        simp only [app1, List.cons_append, List.nil_append]
        rw [b135_39]
        cases hm : mtG G W j f (gN G) with
        | none =>
          rw [show cmI none = -1 from rfl, if_pos rfl, b135_45, b135_53]
          exact ⟨h2, rfl, S2, I2, E2⟩
        | some t =>
          have hb := b2 t hm
          rw [show cmI (some t) = nI (t.1 * 6 + t.2) from rfl, if_neg (by rw [nI_m1 (by omega)]; exact id), b135_49, b135_53, pk_rem (by omega) (by decide) (by decide), show (t.1 * 6 + t.2) % 6 = t.2 by omega]
          exact ⟨h2, rfl, S2, I2, E2⟩
    · rw [if_pos (by rw [bI_z]; exact h2), if_neg (fun z => h2 z.2.1), b135_27]
      exact ⟨h, rfl, S, I.mono (by omega), eqx.rf⟩
  · rw [if_pos (by rw [bI_z]; exact h1), if_neg (fun z => h1 z.1), b135_27]
    exact ⟨h, rfl, S, I.mono (by omega), eqx.rf⟩
end CMEET
