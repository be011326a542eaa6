/-! ===== the model: what was, kept ===== -/
def sxK : Nat → Nat → Prop := fun c _ => c = 176
theorem in_176 {n : Nat} (hn : n < 26) : sm_in 176 (nI n) ↔ True := iff_true_intro ((in_nI (by omega)).mpr hn)
theorem m_keeps_loop {h : sm_H} : ∀ (m k : Nat) (h1 : sm_H), k + m = 26 → (∀ j, j < k → sm_gi h1 176 j = sm_gi h 170 (88 + j)) → eqx sxK h h1 →
    ∃ h2, xe 1 197 2 [.ref 169, .int (nI k)] [] h1 = some ([], h2) ∧ (∀ j, j < 26 → sm_gi h2 176 j = sm_gi h 170 (88 + j)) ∧ eqx sxK h h2
  | 0, k, h1, e, hj, E => by
    have hk : k = 26 := by omega
    subst hk
    rw [b197_2, if_pos (Int32.le_refl _), b197_29]
    exact ⟨h1, rfl, hj, E⟩
  | m + 1, k, h1, e, hj, E => by
    rw [b197_2, if_neg (by rw [nI_leI (by omega) (by omega)]; omega), b197_8]
    simp (disch := omega) only [nI_add, in_170, in_176, if_true, nI_clamp]
    rw [b197_23, nI_add, E.1 170 _ (by unfold sxK; omega)]
    refine m_keeps_loop m (k + 1) _ (by omega) (fun j hj2 => ?_) (E.si (by unfold sxK; omega))
    by_cases z : j = k
    · subst z; exact gi_same
    · rw [gi_slot z]; exact hj j (by omega)
theorem m_keeps {h : sm_H} : ∃ h2, xc 197 [.ref 169] h = some ([], h2) ∧ (∀ j, j < 26 → sm_gi h2 176 j = sm_gi h 170 (88 + j)) ∧ eqx sxK h h2 := by
  rw [en_197, b197_0]
  exact m_keeps_loop 26 0 h (by omega) (fun j hj => by omega) eqx.rf
theorem m_isAgain_loop {h : sm_H} : ∀ (m k : Nat) (h1 : sm_H), k + m = 26 → (∀ j, j < k → sm_gi h1 170 (88 + j) = sm_gi h 176 j) → eqx sxD h h1 →
    ∃ h2, xe 1 198 2 [.ref 169, .int (nI k)] [] h1 = some ([], h2) ∧ (∀ j, j < 26 → sm_gi h2 170 (88 + j) = sm_gi h 176 j) ∧ eqx sxD h h2
  | 0, k, h1, e, hj, E => by
    have hk : k = 26 := by omega
    subst hk
    rw [b198_2, if_pos (Int32.le_refl _), b198_29]
    exact ⟨h1, rfl, hj, E⟩
  | m + 1, k, h1, e, hj, E => by
    rw [b198_2, if_neg (by rw [nI_leI (by omega) (by omega)]; omega), b198_8]
    simp (disch := omega) only [nI_add, in_170, in_176, if_true, nI_clamp]
    rw [b198_23, nI_add, E.1 176 _ (by unfold sxD; omega)]
    refine m_isAgain_loop m (k + 1) _ (by omega) (fun j hj2 => ?_) (E.si (by unfold sxD; omega))
    by_cases z : j = k
    · subst z; exact gi_same
    · rw [gi_slot (by omega)]; exact hj j (by omega)
theorem m_isAgain {h : sm_H} : ∃ h2, xc 198 [.ref 169] h = some ([], h2) ∧ (∀ j, j < 26 → sm_gi h2 170 (88 + j) = sm_gi h 176 j) ∧ eqx sxD h h2 := by
  rw [en_198, b198_0]
  exact m_isAgain_loop 26 0 h (by omega) (fun j hj => by omega) eqx.rf
theorem mW_cp {f f' : Nat → Int32} {o o' P : Nat} {W : WG} (hP : P ≤ 6) (e : ∀ i, i < 26 → f' (o' + i) = f (o + i)) (h : mW f o P W) : mW f' o' P W := by
  refine ⟨by have := e 0 (by decide); simp at this; rw [this]; exact h.1, by rw [e 1 (by decide)]; exact h.2.1, fun p hp => ⟨?_, ?_, ?_⟩, fun p hp => ?_⟩
  · rw [show o' + 2 + p = o' + (2 + p) by omega, e _ (by omega), show o + (2 + p) = o + 2 + p by omega]; exact (h.2.2.1 p hp).1
  · rw [show o' + 8 + p = o' + (8 + p) by omega, e _ (by omega), show o + (8 + p) = o + 8 + p by omega]; exact (h.2.2.1 p hp).2.1
  · rw [show o' + 20 + p = o' + (20 + p) by omega, e _ (by omega), show o + (20 + p) = o + 20 + p by omega]; exact (h.2.2.1 p hp).2.2
  · rw [show o' + 14 + p = o' + (14 + p) by omega, e _ (by omega), show o + (14 + p) = o + 14 + p by omega]; exact h.2.2.2 p hp
def W0 : WG := ((0, 0), (fun _ => 0), (fun _ => 0), (fun _ => 0), fun _ => 0)
/-- the worlds that can be come back to, the oldest first -/
def mPast (f : Nat → Int32) (P : Nat) (L : List WG) : Prop := f 114 = nI L.length ∧ L.length ≤ 10 ∧ ∀ j, j < L.length → mW f (115 + 26 * j) P (L.getD j W0)
def pushL (L : List WG) (W : WG) : List WG := (if L.length = 10 then L.tail else L) ++ [W]
def sxN : Nat → Nat → Prop := fun c i => c = 170 ∧ 114 ≤ i ∧ i < 375
theorem m_notes_shift {h : sm_H} : ∀ (m k : Nat) (h1 : sm_H), k + m = 234 → (∀ j, j < k → sm_gi h1 170 (115 + j) = sm_gi h 170 (141 + j)) → (∀ j, k ≤ j → j < 260 → sm_gi h1 170 (115 + j) = sm_gi h 170 (115 + j)) → sm_gi h1 170 114 = sm_gi h 170 114 → eqx sxN h h1 →
    ∃ h2, xe 1 199 14 [.ref 169, .int (nI k)] [] h1 = xe 1 199 46 [.ref 169, .int (nI 234)] [] h2 ∧ (∀ j, j < 234 → sm_gi h2 170 (115 + j) = sm_gi h 170 (141 + j)) ∧ sm_gi h2 170 114 = sm_gi h 170 114 ∧ eqx sxN h h2
  | 0, k, h1, e, hj, hj2, h114, E => by
    have hk : k = 234 := by omega
    subst hk
    rw [b199_14, if_pos (Int32.le_refl _)]
    exact ⟨h1, rfl, hj, h114, E⟩
  | m + 1, k, h1, e, hj, hj2, h114, E => by
    rw [b199_14, if_neg (by rw [nI_leI (by omega) (by omega)]; omega), b199_21]
    simp (disch := omega) only [nI_add, in_170, if_true, nI_clamp]
    rw [b199_40, nI_add, show 141 + k = 115 + (26 + k) by omega, hj2 _ (by omega) (by omega)]
    refine m_notes_shift m (k + 1) _ (by omega) (fun j hj3 => ?_) (fun j hj3 hj4 => ?_) ?_ (E.si (by unfold sxN; omega))
    · by_cases z : j = k
      · subst z; rw [gi_same]; congr 1; omega
      · rw [gi_slot (by omega)]; exact hj j (by omega)
    · rw [gi_slot (by omega)]; exact hj2 j (by omega) hj4
    · rw [gi_slot (by omega)]; exact h114
theorem m_notes_copy {h : sm_H} {n : Nat} (hn : n < 10) (hc : sm_gi h 170 114 = nI n) : ∀ (m k : Nat) (h1 : sm_H), k + m = 26 → (∀ j, j < k → sm_gi h1 170 (115 + 26 * n + j) = sm_gi h 176 j) → (∀ i, i < 115 + 26 * n → sm_gi h1 170 i = sm_gi h 170 i) → eqx sxN h h1 →
    ∃ h2, xe 1 199 59 [.ref 169, .int (nI k)] [] h1 = some ([], h2) ∧ (∀ j, j < 26 → sm_gi h2 170 (115 + 26 * n + j) = sm_gi h 176 j) ∧ (∀ i, i < 115 + 26 * n → i ≠ 114 → sm_gi h2 170 i = sm_gi h 170 i) ∧ sm_gi h2 170 114 = nI (n + 1) ∧ eqx sxN h h2
  | 0, k, h1, e, hj, hi, E => by
    have hk : k = 26 := by omega
    subst hk
    have h114 := (hi 114 (by omega)).trans hc
    rw [b199_59, if_pos (Int32.le_refl _), b199_97]
    simp (disch := omega) only [in_170, if_true, nI_clamp, h114]
    rw [b199_108, nI_add]
    refine ⟨_, rfl, fun j hj2 => ?_, fun i hi2 hi3 => ?_, gi_same, E.si (by unfold sxN; omega)⟩
    · rw [gi_slot (by omega)]; exact hj j hj2
    · rw [gi_slot hi3]; exact hi i hi2
  | m + 1, k, h1, e, hj, hi, E => by
    have h114 := (hi 114 (by omega)).trans hc
    rw [b199_59, if_neg (by rw [nI_leI (by omega) (by omega)]; omega), b199_65]
    simp (disch := omega) only [in_170, if_true, nI_clamp, h114, pk_mul, nI_add, in_176]
    rw [b199_91, nI_add, E.1 176 _ (by unfold sxN; omega)]
    refine m_notes_copy hn hc m (k + 1) _ (by omega) (fun j hj2 => ?_) (fun i hi2 => ?_) (E.si (by unfold sxN; omega))
    · by_cases z : j = k
      · subst z; exact gi_same
      · rw [gi_slot (by omega)]; exact hj j (by omega)
    · rw [gi_slot (by omega)]; exact hi i hi2
theorem m_notes {P : Nat} {L : List WG} {W : WG} {h : sm_H} (hP : P ≤ 6) (hL : mPast (sm_gi h 170) P L) (hW : mW (sm_gi h 176) 0 P W) :
    ∃ h2, xc 199 [.ref 169] h = some ([], h2) ∧ mPast (sm_gi h2 170) P (pushL L W) ∧ eqx sxN h h2 := by
  obtain ⟨hc, h10, hw⟩ := hL
  have fin : ∀ (L1 : List WG) (h1 : sm_H), L1.length < 10 → mPast (sm_gi h1 170) P L1 → eqx sxN h h1 → ∃ h2, xe 1 199 59 [.ref 169, .int (nI 0)] [] h1 = some ([], h2) ∧ mPast (sm_gi h2 170) P (L1 ++ [W]) ∧ eqx sxN h h2 := by
    intro L1 h1 hl1 hp1 E1
    obtain ⟨h2, e2, a1, a2, a3, E2⟩ := m_notes_copy hl1 hp1.1 26 0 h1 (by omega) (fun j hj => by omega) (fun i hi => rfl) eqx.rf
    refine ⟨h2, e2, ⟨by rw [a3]; simp, by simp; omega, fun j hj => ?_⟩, E1.tr E2⟩
    simp at hj
    by_cases z : j = L1.length
    · subst z
      rw [List.getD_eq_getElem?_getD, List.getElem?_append_right (Nat.le_refl _), Nat.sub_self]
      refine mW_cp (f := sm_gi h 176) (o := 0) hP (fun i hi => ?_) hW
      rw [a1 i hi, E1.1 176 i (by unfold sxN; omega), Nat.zero_add]
    · rw [List.getD_eq_getElem?_getD, List.getElem?_append_left (by omega), ← List.getD_eq_getElem?_getD]
      exact mW_cp hP (fun i hi => a2 _ (by omega) (by omega)) (hp1.2.2 j (by omega))
  rw [en_199, b199_0]
  simp (disch := omega) only [in_170, if_true, nI_clamp, hc]
  unfold pushL
  by_cases h1 : L.length = 10
  · rw [if_pos (by rw [h1]), if_pos h1, b199_12]
    obtain ⟨h2, e2, a1, a2, E2⟩ := m_notes_shift 234 0 h (by omega) (fun j hj => by omega) (fun j _ _ => rfl) rfl eqx.rf
    rw [e2, b199_46]
    simp (disch := omega) only [in_170, if_true, nI_clamp, a2, hc, h1]
    rw [sub1 (by decide), b199_57]
    refine fin L.tail _ (by simp; omega) ⟨?_, by simp; omega, fun j hj => ?_⟩ (E2.si (by unfold sxN; omega))
    · rw [gi_same]; simp [h1]
    · simp at hj
      rw [show L.tail.getD j W0 = L.getD (j + 1) W0 by cases L with | nil => rfl | cons a l => rfl]
      refine mW_cp hP (fun i hi => ?_) (hw (j + 1) (by omega))
      rw [gi_slot (by omega), show 115 + 26 * j + i = 115 + (26 * j + i) by omega, a1 _ (by omega)]
      congr 1
      omega
  · rw [if_neg (by rw [nI_eq (by omega) (by decide)]; exact h1), if_neg h1, b199_57]
    exact fin L h (by omega) ⟨hc, h10, hw⟩ eqx.rf
