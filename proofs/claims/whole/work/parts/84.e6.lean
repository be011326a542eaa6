/-! ===== floods: dry and safest ===== -/
def drX (G : LG) (w : List Nat) : Nat := dyA (inB w) (gFlo G) (gR G)
def drY (G : LG) (w : List Nat) : Nat := 10 ^ cntB (inB w) (gR G)
def drV (G : LG) (w : List Nat) : Nat := dyV (inB w) (gFlo G) (gR G)
noncomputable def aDry (G : LG) (W : WG) (p q x : Int32) : Int64 := if isN p.toInt64 (gP G) ∧ isN q.toInt64 (gN G) then (if 0 ≤ x.toInt64 ∧ x.toInt64 ≤ 1 then (match bW G (wSh W) none (toN p) (xS W (toN p)) 0 (toN q) with | none => -1 | some w => if x = 0 then lN (drX G w / Nat.gcd (drX G w) (drY G w)) else lN (drY G w / Nat.gcd (drX G w) (drY G w))) else -2) else -2
def sfF (o : Nat → Option Nat) : Nat → Option (Nat × Nat)
  | 0 => none
  | k + 1 => match o k with
    | none => sfF o k
    | some v => (match sfF o k with
      | none => some (v, k)
      | some t => if t.1 < v then some (v, k) else some t)
theorem sfF_succ {o : Nat → Option Nat} {k : Nat} : sfF o (k + 1) = (match o k with
    | none => sfF o k
    | some v => (match sfF o k with
      | none => some (v, k)
      | some t => if t.1 < v then some (v, k) else some t)) := rfl
theorem sfF_b {o : Nat → Option Nat} {c : Nat} (ho : ∀ k v, o k = some v → v ≤ c) : ∀ k t, sfF o k = some t → t.1 ≤ c
  | 0, t, h => by cases h
  | k + 1, t, h => by
    rw [sfF_succ] at h
    cases hv : o k with
    | none => rw [hv] at h; exact sfF_b ho k t h
    | some v =>
      have h1 := ho k v hv
      rw [hv] at h
      dsimp only at h
      cases hm : sfF o k with
      | none => rw [hm] at h; cases h; exact h1
      | some s =>
        rw [hm] at h
        dsimp only at h
        split at h
        · cases h; exact h1
        · cases h; exact sfF_b ho k t hm
noncomputable def sfO (G : LG) (W : WG) (p x : Nat) : Option Nat := if x = wAt W p then none else (bW G (wSh W) none p (xS W p) 0 x).map (drV G)
noncomputable def aSafe (G : LG) (W : WG) (p : Int32) : Int32 := if isN p.toInt64 (gP G) then (match sfF (sfO G W (toN p)) (gN G) with | none => -1 | some t => nI t.2) else -2
def sfL : Option (Nat × Nat) → Int64
  | none => -1
  | some t => lN t.1
theorem l_m1lt {v : Nat} (h : v < 2 ^ 63) : (-1 : Int64) < lN v := by
  rw [Int64.lt_iff_toInt_lt, l_T h, show (-1 : Int64).toInt = -1 from rfl]
  omega
theorem drX_le {G : LG} {w : List Nat} (hw : wfG G) : drX G w ≤ 10 ^ 12 := Nat.le_trans (dyA_le _ _ _) (ten_le (Nat.le_trans (cntB_le _ _) hw.2.1))
theorem drY_le {G : LG} {w : List Nat} (hw : wfG G) : drY G w ≤ 10 ^ 12 := ten_le (Nat.le_trans (cntB_le _ _) hw.2.1)
theorem drY_pos {G : LG} {w : List Nat} : 0 < drY G w := Nat.pow_pos (by decide)
theorem drV_le {G : LG} {w : List Nat} (hw : wfG G) : drV G w ≤ 10 ^ 12 := dyV_le hw.2.1
theorem drV_eq {G : LG} {w : List Nat} : drV G w = drX G w * 10 ^ (12 - cntB (inB w) (gR G)) := rfl
theorem ten_eq {G : LG} {w : List Nat} (hw : wfG G) : 10 ^ 12 = drY G w * 10 ^ (12 - cntB (inB w) (gR G)) := by
  have := cntB_le (inB w) (gR G)
  have hR := hw.2.1
  unfold drY
  rw [← Nat.pow_add]
  exact congrArg (10 ^ ·) (by omega)
theorem sfO_b {G : LG} {W : WG} {p : Nat} (hw : wfG G) : ∀ k v, sfO G W p k = some v → v ≤ 10 ^ 12 := fun k v h => by
  unfold sfO at h
  split at h
  · cases h
  · obtain ⟨w, -, rfl⟩ := Option.map_eq_some_iff.mp h
    exact drV_le hw
section MDS
variable {G : LG} {W : WG} {L : List WG} {B : Nat} {h : sm_H}
theorem m_dry (S : mS h G W L B) (hx : wfX G) (X : mX h) {p q x : Int32} : ∃ h2, xc 269 [.ref 169, .int p, .int q, .int x] h = some ([.long (aDry G W p q x)], h2) ∧ mS h2 G W L B ∧ mX h2 ∧ eqx sxZ h h2 := by
  have hw := S.1
  have hP := S.1.2.2.1
  have hN := S.1.1.2
  have S0 := mS_thrown (v := nI 0) S
  have X0 := mX_thrown (v := nI 0) X
  rw [en_269, b269_0, b269_5, m_isWay S0, bnd]
  simp only [app1, List.cons_append, List.nil_append]
  rw [b269_11]
  unfold aDry
  by_cases hc : isN p.toInt64 (gP G) ∧ isN q.toInt64 (gN G)
  · rw [if_neg (by rw [bI_z]; exact fun z => z hc), if_pos hc, b269_14, m_within, bnd]
    simp only [app1, List.cons_append, List.nil_append]
    rw [b269_21]
    by_cases hc2 : 0 ≤ x.toInt64 ∧ x.toInt64 ≤ 1
    · rw [if_neg (by rw [bI_z]; exact fun z => z hc2), if_pos hc2, b269_28]
      obtain ⟨j, hj, rfl⟩ := isN_nI hc.1 (by omega)
      obtain ⟨f, hf, rfl⟩ := isN_nI hc.2 (by omega)
      rw [toN_nI (by omega), toN_nI (by omega)]
      obtain ⟨h2, e2, g2, S2, X2, E2⟩ := m_laysWay (f := f) S0 hx X0 hj (by omega)
      rw [e2, bnd]
      simp only [app1, List.cons_append, List.nil_append]
      rw [b269_34]
      cases hb : bW G (wSh W) none j (xS W j) 0 f with
      | none =>
        rw [show lenI none = -1 from rfl, if_pos rfl, b269_42]
        exact ⟨h2, rfl, S2, X2, Z_thrown E2⟩
      | some w =>
        obtain ⟨g21, g22, -⟩ := g2 w hb
        have hv := drV_le (w := w) hw
        have ed : xc 268 [.ref 169, .int (nI w.length)] h2 = some ([.long (lN (drV G w))], h2) := m_dryOf S2 g21 g22 (bW_R hw hb)
        rw [show lenI (some w) = nI w.length from rfl, if_neg (by rw [nI_m1 (by omega)]; exact id), b269_46, ed, bnd]
        simp only [app1, List.cons_append, List.nil_append]
        rw [b269_52, m_tens, bnd]
        simp only [app1, List.cons_append, List.nil_append]
        have hrk : sm_rk 267 [.long (lN (drV G w)), .long (lN (10 ^ 12))] < 301 := by
          rw [rk_267]
          have := es_le 200 (lN (drV G w)) (lN (10 ^ 12))
          omega
        have hg0 : 0 < Nat.gcd (drX G w) (drY G w) := Nat.gcd_pos_of_pos_right _ drY_pos
        have hten : 0 < 10 ^ (12 - cntB (inB w) (gR G)) := Nat.pow_pos (by decide)
        have hgcd : Nat.gcd (drV G w) (10 ^ 12) = Nat.gcd (drX G w) (drY G w) * 10 ^ (12 - cntB (inB w) (gR G)) := by
          rw [ten_eq (w := w) hw, drV_eq, Nat.gcd_mul_right]
        have hgl : Nat.gcd (drV G w) (10 ^ 12) ≤ 10 ^ 12 := Nat.le_of_dvd (by decide) (Nat.gcd_dvd_right _ _)
        have hgp : 0 < Nat.gcd (drV G w) (10 ^ 12) := Nat.gcd_pos_of_pos_right _ (by decide)
        rw [b269_61 hrk, m_common (10 ^ 12) (drV G w) (10 ^ 12) h2 (Nat.le_refl _) (by omega) (by omega), bnd]
        simp only [app1, List.cons_append, List.nil_append]
        rw [b269_64]
        refine ⟨h2, ?_, S2, X2, Z_thrown E2⟩
        by_cases hx0 : x = 0
        · rw [if_pos hx0, b269_70, b269_80, if_neg (by rw [l_z (by omega)]; omega)]
          rw [if_pos hx0, l_div (by omega) hgp (by omega), hgcd, drV_eq, Nat.mul_div_mul_right _ _ hten]
        · rw [if_neg hx0, b269_75, m_tens, bnd]
          simp only [app1, List.cons_append, List.nil_append]
          rw [b269_80, if_neg (by rw [l_z (by omega)]; omega)]
          rw [if_neg hx0, l_div (by omega) hgp (by omega), hgcd, ten_eq (w := w) hw, Nat.mul_div_mul_right _ _ hten]
    · rw [if_pos (by rw [bI_z]; exact hc2), if_neg hc2, b269_24]
      exact ⟨_, rfl, S0, X0, Z_thrown eqx.rf⟩
  · rw [if_pos (by rw [bI_z]; exact hc), if_neg hc, b269_24]
    exact ⟨_, rfl, S0, X0, Z_thrown eqx.rf⟩
theorem m_safe_loop {p : Nat} (hx : wfX G) (hp : p < gP G) : ∀ (m k : Nat) (h1 : sm_H) (l6 : Value), k + m = gN G → mS h1 G W L B → mX h1 → eqx sxZ h h1 → ∃ h2, xe 9 270 26 [.ref 169, .int (nI p), .int (mpI (sfF (sfO G W p) k)), .long (sfL (sfF (sfO G W p) k)), .null, .int (nI k), l6] [] h1 = some ([.int (mpI (sfF (sfO G W p) (gN G)))], h2) ∧ mS h2 G W L B ∧ mX h2 ∧ eqx sxZ h h2
  | 0, k, h1, l6, e, S, X, E => by
    have : k = gN G := by omega
    subst this
    rw [b270_26]
    simp (disch := omega) only [in_170, if_true, nI_clamp, S.2.1.1.1]
    rw [if_pos (Int32.le_refl _), b270_100]
    exact ⟨h1, rfl, S, X, E⟩
  | m + 1, k, h1, l6, e, S, X, E => by
    have hw := S.1
    have hN := hw.1.2
    have hP := hw.2.2.1
    obtain ⟨a1, a2, a3, a4, a5, a6⟩ := mS_at S hp
    have ih := m_safe_loop hx hp m (k + 1)
    rw [sfF_succ] at ih
    have hsb := sfF_b (sfO_b (W := W) (p := p) hw) k
    rw [b270_26]
    simp (disch := omega) only [in_170, if_true, nI_clamp, S.2.1.1.1]
    rw [if_neg (by rw [nI_leI (by omega) (by omega)]; omega), b270_37]
    simp (disch := omega) only [nI_add, in_170, if_true, nI_clamp, a1]
    by_cases q : k = wAt W p
    · rw [show sfO G W p k = none from if_pos q] at ih
      rw [if_pos (by rw [q]), b270_51, b270_62, if_pos rfl, b270_94, nI_add]
      exact ih h1 _ (by omega) S X E
    · rw [if_neg (by rw [nI_eq (by omega) (by omega)]; exact q), b270_55]
      obtain ⟨h2, e2, g2, S2, X2, E2⟩ := m_laysWay (f := k) S hx X hp (by omega)
      rw [e2, bnd]
      simp only [app1, List.cons_append, List.nil_append]
      rw [b270_62]
      cases hb : bW G (wSh W) none p (xS W p) 0 k with
      | none =>
        rw [show sfO G W p k = none by unfold sfO; rw [if_neg q, hb]; rfl] at ih
        rw [show lenI none = -1 from rfl, if_pos rfl, b270_94, nI_add]
        exact ih h2 _ (by omega) S2 X2 (E.tr E2)
      | some w =>
        obtain ⟨g21, g22, -⟩ := g2 w hb
        have hv := drV_le (w := w) hw
        rw [show sfO G W p k = some (drV G w) by unfold sfO; rw [if_neg q, hb]; rfl] at ih
        have ed : xc 268 [.ref 169, .int (nI w.length)] h2 = some ([.long (lN (drV G w))], h2) := m_dryOf S2 g21 g22 (bW_R hw hb)
        rw [show lenI (some w) = nI w.length from rfl, if_neg (by rw [nI_m1 (by omega)]; exact id), b270_70, ed, bnd]
        simp only [app1, List.cons_append, List.nil_append]
        rw [b270_76]
        have take : ∀ (u : Option (Nat × Nat)), ∃ h3, xe 9 270 84 [.ref 169, .int (nI p), .int (mpI u), .long (sfL u), .null, .int (nI k), .int (nI w.length)] [] h2 = xe 9 270 26 [.ref 169, .int (nI p), .int (nI k), .long (lN (drV G w)), .null, .int (nI (k + 1)), .int (nI w.length)] [] h3 ∧ h3 = h2 := fun u => by
          refine ⟨h2, ?_, rfl⟩
          rw [b270_84, ed, bnd]
          simp only [app1, List.cons_append, List.nil_append]
          rw [b270_93, b270_94, nI_add]
        cases hm : sfF (sfO G W p) k with
        | none =>
          rw [hm] at ih
          obtain ⟨h3, e3, rfl⟩ := take none
          rw [show sfL none = -1 from rfl, if_pos (by rw [lg_cmp_gt]; exact l_m1lt (by omega))]
          rw [show sfL none = -1 from rfl] at e3
          rw [e3]
          exact ih _ _ (by omega) S2 X2 (E.tr E2)
        | some t =>
          have ht := hsb t hm
          rw [hm] at ih
          dsimp only at ih
          by_cases z : t.1 < drV G w
          · rw [if_pos z] at ih
            obtain ⟨h3, e3, rfl⟩ := take (some t)
            rw [show sfL (some t) = lN t.1 from rfl] at e3
            rw [show sfL (some t) = lN t.1 from rfl, if_pos (by rw [lg_cmp_gt, l_lt (by omega) (by omega)]; exact z), e3]
            exact ih _ _ (by omega) S2 X2 (E.tr E2)
          · rw [if_neg z] at ih
            rw [if_neg (by rw [lg_cmp_gt, show sfL (some t) = lN t.1 from rfl, l_lt (by omega) (by omega)]; exact z), b270_81, b270_94, nI_add]
            exact ih _ _ (by omega) S2 X2 (E.tr E2)
theorem m_safest (S : mS h G W L B) (hx : wfX G) (X : mX h) {p : Int32} : ∃ h2, xc 270 [.ref 169, .int p] h = some ([.int (aSafe G W p)], h2) ∧ mS h2 G W L B ∧ mX h2 ∧ eqx sxZ h h2 := by
  have hP := S.1.2.2.1
  have S0 := mS_thrown (v := nI 0) S
  have X0 := mX_thrown (v := nI 0) X
  rw [en_270, b270_0, b270_5, m_isPerson S0.2.1.1.2.2 (by omega), bnd]
  simp only [app1, List.cons_append, List.nil_append]
  rw [b270_11]
  unfold aSafe
  by_cases hc : isN p.toInt64 (gP G)
  · rw [if_neg (by rw [bI_z]; exact fun z => z hc), if_pos hc, b270_17]
    obtain ⟨j, hj, rfl⟩ := isN_nI hc (by omega)
    rw [toN_nI (by omega)]
    obtain ⟨h2, e2, S2, X2, E2⟩ := m_safe_loop (h := sm_si h 169 0 (nI 0)) hx hj (gN G) 0 _ .null (by omega) S0 X0 eqx.rf
    rw [show mpI (sfF (sfO G W j) 0) = -1 from rfl, show sfL (sfF (sfO G W j) 0) = -1 from rfl] at e2
    rw [e2]
    refine ⟨h2, ?_, S2, X2, Z_thrown E2⟩
    cases sfF (sfO G W j) (gN G) <;> rfl
  · rw [if_pos (by rw [bI_z]; exact hc), if_neg hc, b270_14]
    exact ⟨_, rfl, S0, X0, Z_thrown eqx.rf⟩
end MDS
