/-! ===== image, restore ===== -/
abbrev IG : Type := Nat → Option (LG × WG × Int32)
def upI (M : IG) (i : Nat) (q : LG × WG × Int32) : IG := fun k => if k = i then some q else M k
def rowI (h : sm_H) (i : Nat) : Nat → Int32 := fun k => sm_gi h 170 (1276 * (i + 1) + k)
def mIm (h : sm_H) (B : Nat) (M : IG) : Prop := ∀ i, i < 2 → match M i with
  | none => sm_gi h 171 i = 0
  | some q => sm_gi h 171 i = nI 1 ∧ wfG q.1 ∧ wfX q.1 ∧ wfW q.1 B q.2.1 ∧ mG (rowI h i) q.1 ∧ mW (rowI h i) 88 (gP q.1) q.2.1 ∧ rowI h i 0 = q.2.2
def cIm (h : sm_H) (B : Nat) (M : IG) : Prop := ∃ m, m < 4 ∧ sm_gi h 0 15 = nI m ∧ ∀ i, i < 2 → match M i with
  | none => m / 2 ^ i % 2 = 0
  | some q => m / 2 ^ i % 2 = 1 ∧ wfG q.1 ∧ wfX q.1 ∧ wfW q.1 B q.2.1 ∧ cG h (126 + 16 * i) q.1 ∧ cW h (159 + 5 * i) (gP q.1) q.2.1 ∧ sm_gi h (126 + 16 * i) 1 = q.2.2
noncomputable def dImg (i : Int32) : Int32 := if isN i.toInt64 2 then nI 0 else -2
noncomputable def tImg (M : IG) (G : LG) (W : WG) (ln i : Int32) : IG := if isN i.toInt64 2 then upI M (toN i) (G, W, ln) else M
noncomputable def dRes (M : IG) (i : Int32) : Int32 := if isN i.toInt64 2 then (match M (toN i) with | none => -5 | some _ => nI 0) else -2
/-- what a call of restore leaves: land, world, what was, lines -/
noncomputable def tRes (M : IG) (G : LG) (W : WG) (L : List WG) (ln i : Int32) : LG × WG × List WG × Int32 := if isN i.toInt64 2 then (match M (toN i) with | none => (G, W, L, ln) | some q => (q.1, q.2.1, [], q.2.2)) else (G, W, L, ln)
theorem mS_row {h h2 : sm_H} {G : LG} {W : WG} {L : List WG} {B : Nat} (S : mS h G W L B) (e : ∀ k, k < 1276 → sm_gi h2 170 k = sm_gi h 170 k) (e2 : sm_gi h2 169 15 = sm_gi h 169 15) : mS h2 G W L B := by
  obtain ⟨hw, hG, hW, hww, hL, hLw, hpl⟩ := S
  have hP := hw.2.2.1
  have hl := hL.2.1
  exact ⟨hw, mG_eq hw (fun i hi => e i (by omega)) hG, mW_cp hP (fun i hi => e _ (by omega)) hW, hww, ⟨(e 114 (by decide)).trans hL.1, hl, fun j hj => mW_cp hP (fun i hi => e _ (by omega)) (hL.2.2 j hj)⟩, hLw, by rw [e2]; exact hpl⟩
theorem mIm_eqx {S : Nat → Nat → Prop} {h h2 : sm_H} {B : Nat} {M : IG} (H : mIm h B M) (E : eqx S h h2) (hS : ∀ c i, S c i → c ≠ 171 ∧ ¬ (c = 170 ∧ 1276 ≤ i)) : mIm h2 B M := by
  intro i hi
  have := H i hi
  have er : rowI h2 i = rowI h i := funext fun k => E.1 170 _ (fun z => (hS _ _ z).2 ⟨rfl, by omega⟩)
  have e1 : sm_gi h2 171 i = sm_gi h 171 i := E.1 171 i (fun z => (hS _ _ z).1 rfl)
  cases hq : M i with
  | none => rw [hq] at this; exact e1.trans this
  | some q =>
    rw [hq] at this
    dsimp only at this ⊢
    rw [er, e1]
    exact this
theorem cIm_eqx {S : Nat → Nat → Prop} {h h2 : sm_H} {B : Nat} {M : IG} (H : cIm h B M) (E : eqx S h h2) (hS : ∀ c i, S c i → (c < 126 ∨ 169 ≤ c) ∧ ¬ (c = 0 ∧ i = 15)) : cIm h2 B M := by
  obtain ⟨m, a, b, c⟩ := H
  refine ⟨m, a, (E.1 0 15 (fun z => (hS _ _ z).2 ⟨rfl, rfl⟩)).trans b, fun i hi => ?_⟩
  have := c i hi
  cases hq : M i with
  | none => rw [hq] at this; exact this
  | some q =>
    rw [hq] at this
    obtain ⟨c1, c2, c3, c4, c5, c6, c7⟩ := this
    exact ⟨c1, c2, c3, c4, cG_eqx c5 E (fun c i z => by have := hS c i z; omega), cW_eqx c6 E (fun c i z => by have := hS c i z; omega), (E.1 _ 1 (fun z => by have := hS _ _ z; omega)).trans c7⟩
theorem mIm_mono {h : sm_H} {B B' : Nat} {M : IG} (H : mIm h B M) (hB : B ≤ B') : mIm h B' M := by
  intro i hi
  have := H i hi
  cases hq : M i with
  | none => rw [hq] at this; exact this
  | some q => rw [hq] at this; exact ⟨this.1, this.2.1, this.2.2.1, this.2.2.2.1.mono hB, this.2.2.2.2⟩
theorem cIm_mono {h : sm_H} {B B' : Nat} {M : IG} (H : cIm h B M) (hB : B ≤ B') : cIm h B' M := by
  obtain ⟨m, a, b, c⟩ := H
  refine ⟨m, a, b, fun i hi => ?_⟩
  have := c i hi
  cases hq : M i with
  | none => rw [hq] at this; exact this
  | some q => rw [hq] at this; exact ⟨this.1, this.2.1, this.2.2.1, this.2.2.2.1.mono hB, this.2.2.2.2⟩
theorem in_171 {n : Nat} (hn : n < 2) : sm_in 171 (nI n) ↔ True := in_ln (by omega) (by rw [ln_171]; exact hn)
section IMG
variable {G : LG} {W : WG} {L : List WG} {B B' : Nat} {h : sm_H} {M : IG}
def sxIm (i : Nat) : Nat → Nat → Prop := fun c k => c = 170 ∧ 1276 * (i + 1) ≤ k ∧ k < 1276 * (i + 1) + 1276
def sxI : Nat → Nat → Prop := fun c k => (c = 170 ∧ 1276 ≤ k) ∨ c = 171 ∨ (c = 169 ∧ k = 0)
theorem m_image_loop {i : Nat} {h0 : sm_H} (hi : i < 2) : ∀ (m k : Nat) (h1 : sm_H), k + m = 1276 → (∀ j, j < k → rowI h1 i j = sm_gi h0 170 j) → eqx (sxIm i) h0 h1 → ∃ h2, xe 2 275 20 [.ref 169, .int (nI i), .int (nI k)] [] h1 = xe 2 275 53 [.ref 169, .int (nI i), .int (nI 1276)] [] h2 ∧ (∀ j, j < 1276 → rowI h2 i j = sm_gi h0 170 j) ∧ eqx (sxIm i) h0 h2
  | 0, k, h1, e, g, E => by
    have : k = 1276 := by omega
    subst this
    rw [b275_20, if_pos (Int32.le_refl _)]
    exact ⟨h1, rfl, g, E⟩
  | m + 1, k, h1, e, g, E => by
    rw [b275_20, if_neg (by rw [nI_leI (by omega) (by omega)]; omega), b275_27, nI_add, pk_mul, nI_add]
    simp (disch := omega) only [in_170, if_true, nI_clamp]
    rw [b275_47, nI_add]
    refine m_image_loop hi m (k + 1) _ (by omega) (fun j hj => ?_) (E.tr (eqx.rf.si (by unfold sxIm; omega)))
    unfold rowI
    by_cases z : j = k
    · subst z
      rw [gi_same]
      exact E.1 170 j (by unfold sxIm; omega)
    · rw [gi_slot (by omega)]
      exact g j (by omega)
theorem m_image {i : Int32} {ln : Int32} (S : mS h G W L B) (hx : wfX G) (hM : mIm h B M) (hln : sm_gi h 170 0 = ln) : ∃ h2, xc 275 [.ref 169, .int i] h = some ([.int (dImg i)], h2) ∧ mS h2 G W L B ∧ mIm h2 B (tImg M G W ln i) ∧ eqx sxI h h2 := by
  have E0 : eqx sxI h (sm_si h 169 0 (nI 0)) := eqx.rf.si (by unfold sxI; omega)
  have S0 := mS_thrown (v := nI 0) S
  have M0 : mIm (sm_si h 169 0 (nI 0)) B M := mIm_eqx hM (S := fun c _ => c = 169) (eqx.si (S := fun c _ => c = 169) eqx.rf rfl) (fun c i z => by omega)
  rw [en_275, b275_0, b275_5, m_within, bnd]
  simp only [app1, List.cons_append, List.nil_append]
  rw [b275_12, fa_litL 0, fa_litL 1, bI_congr (isN_w (by decide))]
  unfold dImg tImg
  by_cases h1 : isN i.toInt64 2
  · rw [if_neg (by rw [bI_z]; exact fun z => z h1), if_pos h1, if_pos h1, b275_18]
    obtain ⟨i, hi, rfl⟩ := isN_nI h1 (by omega)
    rw [toN_nI (by omega)]
    obtain ⟨h2, e2, g2, E2⟩ := m_image_loop (h0 := sm_si h 169 0 (nI 0)) hi 1276 0 _ (by omega) (fun j hj => absurd hj (by omega)) eqx.rf
    rw [e2, b275_53]
    simp (disch := omega) only [in_171, if_true, nI_clamp]
    rw [b275_60]
    have E3 : eqx (fun c k => sxIm i c k ∨ (c = 171 ∧ k = i)) (sm_si h 169 0 (nI 0)) (sm_si h2 171 i (vp_nar .boolean (nI 1))) := (E2.wk (fun c k z => Or.inl z)).si (Or.inr ⟨rfl, rfl⟩)
    refine ⟨_, rfl, mS_row S0 (fun k hk => E3.1 170 k (by unfold sxIm; omega)) (E3.1 169 15 (by unfold sxIm; omega)), fun u hu => ?_, E0.tr (E3.wk (fun c k z => by unfold sxIm at z; unfold sxI; omega))⟩
    unfold upI
    by_cases z : u = i
    · subst z
      rw [if_pos rfl]
      have er : ∀ k, k < 1276 → rowI (sm_si h2 171 u (vp_nar .boolean (nI 1))) u k = sm_gi (sm_si h 169 0 (nI 0)) 170 k := fun k hk => by
        unfold rowI
        rw [gi_cell (by decide)]
        exact g2 k hk
      refine ⟨by rw [gi_same]; decide, S0.1, hx, S0.2.2.2.1, mG_eq S0.1 (fun k hk => er k (by omega)) S0.2.1, mW_cp S0.1.2.2.1 (fun k hk => er _ (by omega)) S0.2.2.1, ?_⟩
      rw [er 0 (by decide), gi_cell (by decide)]
      exact hln
    · rw [if_neg z]
      have := M0 u hu
      have eru : rowI (sm_si h2 171 i (vp_nar .boolean (nI 1))) u = rowI (sm_si h 169 0 (nI 0)) u ∨ True := Or.inr trivial
      have er : ∀ k, k < 1276 → rowI (sm_si h2 171 i (vp_nar .boolean (nI 1))) u k = rowI (sm_si h 169 0 (nI 0)) u k := fun k hk => E3.1 170 _ (by unfold sxIm; omega)
      have e1 : sm_gi (sm_si h2 171 i (vp_nar .boolean (nI 1))) 171 u = sm_gi (sm_si h 169 0 (nI 0)) 171 u := E3.1 171 u (by unfold sxIm; omega)
      cases hq : M u with
      | none => rw [hq] at this; exact e1.trans this
      | some q =>
        rw [hq] at this
        obtain ⟨a1, a2, a3, a4, a5, a6, a7⟩ := this
        exact ⟨e1.trans a1, a2, a3, a4, mG_eq a2 (fun k hk => er k (by omega)) a5, mW_cp a2.2.2.1 (fun k hk => er _ (by omega)) a6, (er 0 (by decide)).trans a7⟩
  · rw [if_pos (by rw [bI_z]; exact h1), if_neg h1, if_neg h1, b275_15]
    exact ⟨_, rfl, S0, M0, E0⟩
theorem m_restore_loop {i : Nat} {h0 : sm_H} (hi : i < 2) : ∀ (m k : Nat) (h1 : sm_H), k + m = 1276 → (∀ j, j < k → sm_gi h1 170 j = rowI h0 i j) → eqx (fun c j => c = 170 ∧ j < 1276) h0 h1 → ∃ h2, xe 2 276 32 [.ref 169, .int (nI i), .int (nI k)] [] h1 = xe 2 276 65 [.ref 169, .int (nI i), .int (nI 1276)] [] h2 ∧ (∀ j, j < 1276 → sm_gi h2 170 j = rowI h0 i j) ∧ eqx (fun c j => c = 170 ∧ j < 1276) h0 h2
  | 0, k, h1, e, g, E => by
    have : k = 1276 := by omega
    subst this
    rw [b276_32, if_pos (Int32.le_refl _)]
    exact ⟨h1, rfl, g, E⟩
  | m + 1, k, h1, e, g, E => by
    rw [b276_32, if_neg (by rw [nI_leI (by omega) (by omega)]; omega), b276_39, nI_add, pk_mul, nI_add]
    simp (disch := omega) only [in_170, if_true, nI_clamp]
    rw [b276_59, nI_add]
    refine m_restore_loop hi m (k + 1) _ (by omega) (fun j hj => ?_) (E.tr (eqx.rf.si ⟨rfl, by omega⟩))
    by_cases z : j = k
    · subst z
      rw [gi_same]
      exact E.1 170 _ (by omega)
    · rw [gi_slot z]
      exact g j (by omega)
def sxRe : Nat → Nat → Prop := fun c k => (c = 170 ∧ k < 1276) ∨ (c = 169 ∧ k = 0)
theorem m_restore {i ln : Int32} (S : mS h G W L B) (hM : mIm h B M) (hln : sm_gi h 170 0 = ln) : ∃ h2, xc 276 [.ref 169, .int i] h = some ([.int (dRes M i)], h2) ∧ mS h2 (tRes M G W L ln i).1 (tRes M G W L ln i).2.1 (tRes M G W L ln i).2.2.1 B ∧ mIm h2 B M ∧ sm_gi h2 170 0 = (tRes M G W L ln i).2.2.2 ∧ eqx sxRe h h2 := by
  have E0 : eqx sxRe h (sm_si h 169 0 (nI 0)) := eqx.rf.si (by unfold sxRe; omega)
  have S0 := mS_thrown (v := nI 0) S
  have M0 : mIm (sm_si h 169 0 (nI 0)) B M := mIm_eqx hM (S := fun c _ => c = 169) (eqx.si (S := fun c _ => c = 169) eqx.rf rfl) (fun c i z => by omega)
  have l0 : sm_gi (sm_si h 169 0 (nI 0)) 170 0 = ln := by rw [gi_cell (by decide)]; exact hln
  rw [en_276, b276_0, b276_5, m_within, bnd]
  simp only [app1, List.cons_append, List.nil_append]
  rw [b276_12, fa_litL 0, fa_litL 1, bI_congr (isN_w (by decide))]
  unfold dRes tRes
  by_cases h1 : isN i.toInt64 2
  · rw [if_neg (by rw [bI_z]; exact fun z => z h1), if_pos h1, if_pos h1, b276_18]
    obtain ⟨i, hi, rfl⟩ := isN_nI h1 (by omega)
    rw [toN_nI (by omega)]
    simp (disch := omega) only [in_171, if_true, nI_clamp]
    have H := M0 i hi
    cases hq : M i with
    | none =>
      rw [hq] at H
      rw [if_pos H, b276_27]
      exact ⟨_, rfl, S0, M0, l0, E0⟩
    | some q =>
      rw [hq] at H
      obtain ⟨a1, a2, a3, a4, a5, a6, a7⟩ := H
      rw [if_neg (by rw [a1]; decide), b276_30]
      obtain ⟨h2, e2, g2, E2⟩ := m_restore_loop (h0 := sm_si h 169 0 (nI 0)) hi 1276 0 _ (by omega) (fun j hj => absurd hj (by omega)) eqx.rf
      rw [e2, b276_65]
      simp (disch := omega) only [in_170, if_true, nI_clamp]
      rw [b276_73]
      have hP := a2.2.2.1
      have er : ∀ k, k < 1276 → k ≠ 114 → sm_gi (sm_si h2 170 114 (nI 0)) 170 k = rowI (sm_si h 169 0 (nI 0)) i k := fun k hk z => by rw [gi_slot z]; exact g2 k hk
      have E3 : eqx (fun c j => c = 170 ∧ j < 1276) (sm_si h 169 0 (nI 0)) (sm_si h2 170 114 (nI 0)) := E2.si ⟨rfl, by decide⟩
      refine ⟨_, rfl, ⟨a2, mG_eq a2 (fun k hk => er k (by omega) (by omega)) a5, mW_cp hP (fun k hk => er _ (by omega) (by omega)) a6, a4, ⟨gi_same, by decide, fun j hj => absurd hj (by simp)⟩, fun j hj => absurd hj (by simp), (E3.1 169 15 (by omega)).trans S0.2.2.2.2.2.2⟩, mIm_eqx M0 E3 (fun c k z => by omega), (er 0 (by decide) (by decide)).trans a7, E0.tr (E3.wk (fun c k z => Or.inl z))⟩
  · rw [if_pos (by rw [bI_z]; exact h1), if_neg h1, if_neg h1, b276_15]
    exact ⟨_, rfl, S0, M0, l0, E0⟩
end IMG
