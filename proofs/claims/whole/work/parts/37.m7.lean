/-! ===== the model: deeds as calls ===== -/
section WFU
variable {G : LG} {B B' p v : Nat} {W : WG}
theorem wfW.mono (h : wfW G B W) (hB : B ≤ B') : wfW G B' W := ⟨h.1, h.2.1, fun q hq => ⟨(h.2.2.1 q hq).1, Nat.le_trans (h.2.2.1 q hq).2.1 hB, (h.2.2.1 q hq).2.2⟩, h.2.2.2⟩
theorem wfW.pap (h : wfW G B W) (hp : p < gP G) (hv : v ≤ 9) : wfW G B (sPap W p v) := ⟨h.1, h.2.1, fun q hq => ⟨(h.2.2.1 q hq).1, (h.2.2.1 q hq).2.1, by
    show upN (wPap W) p v q ≤ 9
    by_cases z : q = p
    · subst z; rw [upN_s]; exact hv
    · rw [upN_n z]; exact (h.2.2.1 q hq).2.2.1, (h.2.2.1 q hq).2.2.2⟩, fun q h1 h2 => by
    show upN (wPap W) p v q = 0
    rw [upN_n (by omega)]; exact h.2.2.2.1 q h1 h2, h.2.2.2.2⟩
theorem wfW.at (h : wfW G B W) (hv : v < gN G) : wfW G B (sAt W p v) := ⟨h.1, h.2.1, fun q hq => ⟨by
    show upN (wAt W) p v q < gN G
    by_cases z : q = p
    · subst z; rw [upN_s]; exact hv
    · rw [upN_n z]; exact (h.2.2.1 q hq).1, (h.2.2.1 q hq).2⟩, h.2.2.2⟩
theorem wfW.day (h : wfW G B W) (hB : B ≤ B') (hv : v ≤ B') : wfW G B' (sDay W p v) := ⟨h.1, h.2.1, fun q hq => ⟨(h.2.2.1 q hq).1, by
    show upN (wDay W) p v q ≤ B'
    by_cases z : q = p
    · subst z; rw [upN_s]; exact hv
    · rw [upN_n z]; exact Nat.le_trans (h.2.2.1 q hq).2.1 hB, (h.2.2.1 q hq).2.2⟩, h.2.2.2⟩
theorem wfW.been (h : wfW G B W) (hv : v < 2 ^ gN G) : wfW G B (sBeen W p v) := ⟨h.1, h.2.1, fun q hq => ⟨(h.2.2.1 q hq).1, (h.2.2.1 q hq).2.1, (h.2.2.1 q hq).2.2.1, by
    show upN (wBeen W) p v q < 2 ^ gN G
    by_cases z : q = p
    · subst z; rw [upN_s]; exact hv
    · rw [upN_n z]; exact (h.2.2.1 q hq).2.2.2⟩, h.2.2.2⟩
theorem wfW.sh (h : wfW G B W) (hv : v < 4096) : wfW G B (sSh W v) := ⟨hv, h.2⟩
theorem or_bit {a p q : Nat} : (a ||| 2 ^ p) / 2 ^ q % 2 = 1 ↔ a / 2 ^ q % 2 = 1 ∨ q = p := by
  have t : ∀ x : Nat, (x / 2 ^ q % 2 = 1) ↔ x.testBit q = true := fun x => by rw [Nat.testBit_eq_decide_div_mod_eq]; simp
  rw [t, t, Nat.testBit_or, Nat.testBit_two_pow, Bool.or_eq_true, decide_eq_true_eq]
  constructor
  · rintro (h | h)
    · exact Or.inl h
    · exact Or.inr h.symm
  · rintro (h | h)
    · exact Or.inl h
    · exact Or.inr h.symm
theorem wfW.err (hw : wfG G) (h : wfW G B W) (hp : p < gP G) : wfW G B (errW G W p) := by
  unfold errW
  split
  next hq =>
    have hP := hw.2.2.1
    refine ⟨h.1, Nat.or_lt_two_pow (n := 6) h.2.1 (Nat.lt_of_lt_of_le (Nat.pow_lt_pow_right (by decide) (show p < 6 by omega)) (Nat.le_refl _)), h.2.2.1, h.2.2.2.1, fun q hq6 hb => ?_⟩
    rcases or_bit.mp hb with z | z
    · exact h.2.2.2.2 q hq6 z
    · subst z; exact ⟨hp, by rw [hq.1]; simp⟩
  next => exact h
theorem wfW.go (hw : wfG G) (h : wfW G B W) {r t : Nat} (hp : p < gP G) (hr : r < gR G) (ht : t < gN G) : wfW G (B + 20) (goW G W p r t) := by
  have hwp := h.2.2.1 p hp
  have hl := hw.2.2.2.1 r hr
  refine wfW.err hw ((((h.pap hp (by omega)).at ht).day (Nat.le_add_right _ _) (by omega)).been ?_) hp
  exact Nat.or_lt_two_pow hwp.2.2.2 (Nat.pow_lt_pow_right (by decide) ht)
end WFU
theorem whyF_ok {G : LG} {sh p r pap b f : Nat} {pl : Option Nat} (h : whyF G sh pl p r pap b f = 0) : ∃ t, toF G r f = some t ∧ sh / 2 ^ r % 2 ≠ 1 ∧ (gBri G r = true → pl ≠ some r → letsB G p pap b f t = true ∧ tollN G p pap b f t ≤ pap) := by
  unfold whyF at h
  split at h
  next => omega
  next t ht =>
    refine ⟨t, ht, ?_, fun h1 h2 => ?_⟩
    · intro q
      rw [if_pos q] at h
      omega
    · by_cases q : sh / 2 ^ r % 2 = 1
      · rw [if_pos q] at h; omega
      · rw [if_neg q, if_neg (fun z => z ⟨h1, h2⟩)] at h
        by_cases q2 : letsB G p pap b f t = false
        · rw [if_pos q2] at h; omega
        · rw [if_neg q2] at h
          by_cases q3 : pap < tollN G p pap b f t
          · rw [if_pos q3] at h; omega
          · exact ⟨by simpa using q2, by omega⟩
/-- the model's state -/
def mS (h : sm_H) (G : LG) (W : WG) (L : List WG) (B : Nat) : Prop := wfG G ∧ mG (sm_gi h 170) G ∧ mW (sm_gi h 170) 88 (gP G) W ∧ wfW G B W ∧ mPast (sm_gi h 170) (gP G) L ∧ (∀ j, j < L.length → wfW G B (L.getD j W0)) ∧ sm_gi h 169 15 = -1
/-- what the model's calls may change of it but tape, trays, images, land -/
def sxM : Nat → Nat → Prop := fun c i => (174 ≤ c ∧ c ≤ 176) ∨ (c = 170 ∧ 88 ≤ i ∧ i < 375) ∨ (c = 169 ∧ (i = 0 ∨ i = 19 ∨ i = 20))
theorem sxD_M : ∀ c i, sxD c i → sxM c i := fun c i h => by unfold sxD at h; unfold sxM; omega
theorem sxL_M : ∀ c i, sxL c i → sxM c i := fun c i h => by unfold sxL at h; unfold sxM; omega
theorem sxK_M : ∀ c i, sxK c i → sxM c i := fun c i h => by unfold sxK at h; unfold sxM; omega
theorem sxN_M : ∀ c i, sxN c i → sxM c i := fun c i h => by unfold sxN at h; unfold sxM; omega
theorem mPast_eq {f f' : Nat → Int32} {P : Nat} {L : List WG} (hP : P ≤ 6) (e : ∀ i, 114 ≤ i → i < 375 → f' i = f i) (h : mPast f P L) : mPast f' P L := ⟨by rw [e _ (by omega) (by omega)]; exact h.1, h.2.1, fun j hj => mW_cp hP (fun i hi => e _ (by have := h.2.1; omega) (by have := h.2.1; omega)) (h.2.2 j hj)⟩
theorem pushL_wf {G : LG} {B : Nat} {L : List WG} {W : WG} (hL : ∀ j, j < L.length → wfW G B (L.getD j W0)) (hW : wfW G B W) : ∀ j, j < (pushL L W).length → wfW G B ((pushL L W).getD j W0) := by
  intro j hj
  have key : ∀ M : List WG, (∀ j, j < M.length → wfW G B (M.getD j W0)) → j < (M ++ [W]).length → wfW G B ((M ++ [W]).getD j W0) := by
    intro M hM hj
    simp at hj
    by_cases z : j = M.length
    · subst z
      rw [List.getD_eq_getElem?_getD, List.getElem?_append_right (Nat.le_refl _), Nat.sub_self]
      exact hW
    · rw [List.getD_eq_getElem?_getD, List.getElem?_append_left (by omega), ← List.getD_eq_getElem?_getD]
      exact hM j (by omega)
  unfold pushL at hj ⊢
  by_cases z : L.length = 10
  · rw [if_pos z] at hj ⊢
    refine key L.tail (fun i hi => ?_) hj
    rw [show L.tail.getD i W0 = L.getD (i + 1) W0 by cases L with | nil => rfl | cons a l => rfl]
    simp at hi
    exact hL (i + 1) (by omega)
  · rw [if_neg z] at hj ⊢
    exact key L hL hj
/-- a deed in the model: what was is kept, the deed done, then noted -/
theorem mS_note {G : LG} {W W' : WG} {L : List WG} {B B' : Nat} {h h1 h2 : sm_H} (S : mS h G W L B) (hB : B ≤ B') (hk : ∀ j, j < 26 → sm_gi h1 176 j = sm_gi h 170 (88 + j)) (E1 : eqx sxK h h1) (hW2 : mW (sm_gi h2 170) 88 (gP G) W') (hw' : wfW G B' W') (E2 : eqx sxD h1 h2) :
    ∃ h3, xc 199 [.ref 169] h2 = some ([], h3) ∧ mS h3 G W' (pushL L W) B' ∧ eqx sxM h h3 ∧ ∀ i, 88 ≤ i → i < 114 → sm_gi h3 170 i = sm_gi h2 170 i := by
  obtain ⟨hw, hG, hW, hww, hL, hLw, hpl⟩ := S
  have hP := hw.2.2.1
  have e170 : ∀ i, (i < 88 ∨ 114 ≤ i) → sm_gi h2 170 i = sm_gi h 170 i := fun i hi => by rw [E2.1 170 i (by unfold sxD; omega), E1.1 170 i (by unfold sxK; omega)]
  have hL2 : mPast (sm_gi h2 170) (gP G) L := mPast_eq hP (fun i h1 h2 => e170 i (by omega)) hL
  have hWk : mW (sm_gi h2 176) 0 (gP G) W := mW_cp (f := sm_gi h 170) (o := 88) hP (fun i hi => by rw [Nat.zero_add, E2.1 176 i (by unfold sxD; omega)]; exact hk i hi) hW
  obtain ⟨h3, e3, P3, E3⟩ := m_notes hP hL2 hWk
  have e3' : ∀ i, (i < 114 ∨ 375 ≤ i) → sm_gi h3 170 i = sm_gi h2 170 i := fun i hi => E3.1 170 i (by unfold sxN; omega)
  refine ⟨h3, e3, ⟨hw, mG_eq hw (fun i hi => by rw [e3' i (by omega), e170 i (by omega)]) hG, mW_cp hP (fun i hi => e3' _ (by omega)) hW2, hw', P3, pushL_wf (fun j hj => (hLw j hj).mono hB) (hww.mono hB), ?_⟩, ?_, fun i h1 h2 => e3' i (by omega)⟩
  · rw [E3.1 169 15 (by unfold sxN; omega), E2.1 169 15 (by unfold sxD; omega), E1.1 169 15 (by unfold sxK; omega)]; exact hpl
  · exact ((E1.wk sxK_M).tr (E2.wk sxD_M)).tr (E3.wk sxN_M)
theorem mS_thrown {G : LG} {W : WG} {L : List WG} {B : Nat} {h : sm_H} {v : Int32} (S : mS h G W L B) : mS (sm_si h 169 0 v) G W L B := by
  obtain ⟨hw, hG, hW, hww, hL, hLw, hpl⟩ := S
  have e : sm_gi (sm_si h 169 0 v) 170 = sm_gi h 170 := funext fun i => gi_cell (by decide)
  exact ⟨hw, by rw [e]; exact hG, by rw [e]; exact hW, hww, by rw [e]; exact hL, hLw, by rw [gi_slot (by decide)]; exact hpl⟩
theorem eqx_thrown {h h2 : sm_H} {v : Int32} (E : eqx sxM (sm_si h 169 0 v) h2) : eqx sxM h h2 := (eqx.si (c := 169) (i := 0) (v := v) (eqx.rf (h := h)) (by unfold sxM; omega)).tr E
theorem mS_L {G : LG} {W : WG} {L : List WG} {B : Nat} {h h2 : sm_H} (S : mS h G W L B) (E : eqx sxL h h2) : mS h2 G W L B := by
  obtain ⟨hw, hG, hW, hww, hL, hLw, hpl⟩ := S
  have e : sm_gi h2 170 = sm_gi h 170 := funext fun i => E.1 170 i (by unfold sxL; omega)
  exact ⟨hw, by rw [e]; exact hG, by rw [e]; exact hW, hww, by rw [e]; exact hL, hLw, by rw [E.1 169 15 (by unfold sxL; omega)]; exact hpl⟩
