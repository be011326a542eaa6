/-! ===== tokens: the model ===== -/
def mBy (h : sm_H) (b : Nat → Nat) (n : Nat) : Prop := (∀ j, j < n → sm_gi h 172 j = nI (b j)) ∧ n ≤ 900 ∧ sm_gi h 169 8 = nI n ∧ ∀ j, b j < 256
theorem mBy_eqx {S : Nat → Nat → Prop} {h h2 : sm_H} {b : Nat → Nat} {n : Nat} (H : mBy h b n) (E : eqx S h h2) (hS : ∀ c i, S c i → c ≠ 172 ∧ ¬ (c = 169 ∧ i = 8)) : mBy h2 b n :=
  ⟨fun j hj => (E.1 172 j (fun z => (hS _ _ z).1 rfl)).trans (H.1 j hj), H.2.1, (E.1 169 8 (fun z => (hS _ _ z).2 ⟨rfl, rfl⟩)).trans H.2.2.1, H.2.2.2⟩
def seeI (b : Nat → Nat) (n j : Nat) : Int32 := if j < n then nI (b j) else -1
section MLX
variable {b : Nat → Nat} {n : Nat} {h : sm_H}
theorem m_see {j : Nat} (H : mBy h b n) (hj : j < 2 ^ 31) : xc 150 [.ref 169, .int (nI j)] h = some ([.int (seeI b n j)], h) := by
  have hn := H.2.1
  rw [en_150, b150_0, H.2.2.1]
  unfold seeI
  by_cases z : j < n
  · rw [if_neg (by rw [nI_leI (by omega) hj]; omega), if_pos z, b150_8]
    simp (disch := omega) only [in_172, if_true, nI_clamp, H.1 j z]
    rw [b150_18]
  · rw [if_pos (by rw [nI_leI (by omega) hj]; omega), if_neg z, b150_17, b150_18]
theorem seeI_eq {j c : Nat} (hb : ∀ j, b j < 256) (hc : c < 256) : seeI b n j = nI c ↔ (j < n ∧ b j = c) := by
  unfold seeI
  have := hb j
  by_cases z : j < n
  · rw [if_pos z, nI_eq (by omega) (by omega)]
    exact ⟨fun y => ⟨z, y⟩, fun y => y.2⟩
  · rw [if_neg z]
    exact ⟨fun y => absurd y.symm (by rw [nI_m1 (by omega)]; exact id), fun y => absurd y.1 z⟩
theorem seeI_in {j lo hi : Nat} (hb : ∀ j, b j < 256) (h1 : lo < 256) (h2 : hi < 256) : (nI lo ≤ seeI b n j ∧ seeI b n j ≤ nI hi) ↔ (j < n ∧ lo ≤ b j ∧ b j ≤ hi) := by
  unfold seeI
  have := hb j
  by_cases z : j < n
  · rw [if_pos z, nI_leI (by omega) (by omega), nI_leI (by omega) (by omega)]
    exact ⟨fun y => ⟨z, y⟩, fun y => y.2⟩
  · rw [if_neg z]
    refine ⟨fun y => absurd y.1 ?_, fun y => absurd y.1 z⟩
    rw [Int32.le_iff_toInt_le, nI_toInt (by omega), show (-1 : Int32).toInt = -1 from rfl]
    omega
/-- keys in the model's order -/
def moL : List Nat := [0, 1, 19, 5, 6, 7, 2, 8, 14, 17, 9, 3, 4, 13, 15, 16, 18, 11, 10, 12]
def mo (k : Nat) : Nat := moL.getD k 0
def kpL : List Nat := [1, 8, 13, 16, 21, 28, 34, 41, 44, 49, 56, 59, 64, 70, 74, 79, 84, 89, 93, 96, 100]
def kp (k : Nat) : Nat := kpL.getD k 0
theorem mo_lt : ∀ k, k < 20 → mo k < 20 := by decide +kernel
theorem mo_kd : ∀ k, k < 20 → mKd (200 + mo k) = k := by decide +kernel
theorem mo_su : ∀ j, j < 20 → ∃ k, k < 20 ∧ mo k = j := by decide +kernel
theorem ky_ch : ∀ k, k < 20 → ∀ j, j < (wd (mo k)).length → (sm_str.getD (1021 - 1000) []).getD (kp k + j) 0 = (wd (mo k)).getD j 0 ∧ (wd (mo k)).getD j 0 ≠ 32 ∧ (wd (mo k)).getD j 0 < 256 := by decide +kernel
theorem ky_sp : ∀ k, k < 20 → (sm_str.getD (1021 - 1000) []).getD (kp k + (wd (mo k)).length) 0 = 32 ∧ kp (k + 1) = kp k + (wd (mo k)).length + 1 ∧ kp k + (wd (mo k)).length < (sm_str.getD (1021 - 1000) []).length := by decide +kernel
theorem ky_ln : (sm_str.getD (1021 - 1000) []).length = 100 := by decide +kernel
theorem ky_le : ∀ k, k < 20 → (wd (mo k)).length ≤ 6 ∧ kp k < 100 := by decide +kernel
noncomputable def fM (b : Nat → Nat) (i e : Nat) : Nat → Nat → Nat
  | 0, _ => 22
  | m + 1, k => @ite _ (isW b i e (mo k)) (Classical.propDecidable _) k (fM b i e m (k + 1))
theorem fM_in {i e : Nat} : ∀ m k, (∃ j, k ≤ j ∧ j < k + m ∧ isW b i e (mo j) ∧ fM b i e m k = j) ∨ ((∀ j, k ≤ j → j < k + m → ¬ isW b i e (mo j)) ∧ fM b i e m k = 22)
  | 0, k => Or.inr ⟨fun j h1 h2 => by omega, rfl⟩
  | m + 1, k => by
    show (∃ j, k ≤ j ∧ j < k + (m + 1) ∧ isW b i e (mo j) ∧ (@ite _ (isW b i e (mo k)) (Classical.propDecidable _) k (fM b i e m (k + 1))) = j) ∨ ((∀ j, k ≤ j → j < k + (m + 1) → ¬ isW b i e (mo j)) ∧ (@ite _ (isW b i e (mo k)) (Classical.propDecidable _) k (fM b i e m (k + 1))) = 22)
    by_cases z : isW b i e (mo k)
    · exact Or.inl ⟨k, Nat.le_refl _, by omega, z, by rw [if_pos z]⟩
    · rw [if_neg z]
      rcases fM_in m (k + 1) with ⟨j, h1, h2, h3, h4⟩ | ⟨h1, h2⟩
      · exact Or.inl ⟨j, by omega, by omega, h3, h4⟩
      · refine Or.inr ⟨fun j h3 h4 => ?_, h2⟩
        by_cases y : j = k
        · rw [y]; exact z
        · exact h1 j (by omega) (by omega)
theorem fM_W {i e : Nat} : fM b i e 20 0 = mKd (fW b i e 20 0) := by
  rcases fM_in (b := b) (i := i) (e := e) 20 0 with ⟨j, h1, h2, h3, h4⟩ | ⟨h1, h2⟩
  · rcases fW_in (b := b) (i := i) (e := e) 20 0 with ⟨u, g1, g2, g3, g4⟩ | ⟨g1, g2⟩
    · rw [h4, g4, ← isW_uni (mo_lt j (by omega)) (by omega) h3 g3, mo_kd j (by omega)]
    · exact absurd h3 (g1 (mo j) (Nat.zero_le _) (by have := mo_lt j (by omega); omega))
  · rcases fW_in (b := b) (i := i) (e := e) 20 0 with ⟨u, g1, g2, g3, g4⟩ | ⟨g1, g2⟩
    · obtain ⟨k, hk, rfl⟩ := mo_su u (by omega)
      exact absurd g3 (h1 k (Nat.zero_le _) (by omega))
    · rw [h2, g2]; rfl
theorem nn_le {n : Nat} (h : n < 2 ^ 31) : (0 : Int32) ≤ nI n := by rw [show (0 : Int32) = nI 0 from rfl, nI_leI (by decide) h]; exact Nat.zero_le _
theorem m_key_in {a e k : Nat} (H : mBy h b n) (g6 : sm_gi h 169 6 = nI a) (g7 : sm_gi h 169 7 = nI e) (he : e ≤ n) (hk : k < 20) : ∀ (m i : Nat), i + m = (wd (mo k)).length → (∀ j, j < i → b (a + j) = (wd (mo k)).getD j 0) → a + i ≤ e → ∃ i', xe 1 153 15 [.ref 169, .int (nI k), .int (nI (kp k)), .int (nI i)] [] h = xe 1 153 69 [.ref 169, .int (nI k), .int (nI (kp k)), .int (nI i')] [] h ∧ i' ≤ (wd (mo k)).length ∧ (∀ j, j < i' → b (a + j) = (wd (mo k)).getD j 0) ∧ a + i' ≤ e ∧ (i' = (wd (mo k)).length ∨ a + i' = e ∨ b (a + i') ≠ (wd (mo k)).getD i' 0)
  | 0, i, q, c, d => by
    have hl := ky_le k hk
    have hs := ky_sp k hk
    have : i = (wd (mo k)).length := by omega
    subst this
    refine ⟨_, ?_, Nat.le_refl _, c, d, Or.inl rfl⟩
    rw [b153_15, nI_add, if_pos ⟨nn_le (by omega), by rw [nI_clamp (by omega)]; exact hs.2.2⟩, nI_clamp (by omega), hs.1, b153_23, if_pos rfl]
  | m + 1, i, q, c, d => by
    have hl := ky_le k hk
    have hs := ky_sp k hk
    have hc := ky_ch k hk i (by omega)
    have hn := H.2.1
    have hb := H.2.2.2 (a + i)
    rw [b153_15, nI_add, if_pos ⟨nn_le (by omega), by rw [nI_clamp (by omega)]; omega⟩, nI_clamp (by omega), hc.1, b153_23, if_neg (by rw [nI_eq (by omega) (by decide)]; exact hc.2.1), b153_28, g6, g7, nI_add]
    by_cases z : a + i = e
    · rw [if_pos (by rw [nI_leI (by omega) (by omega)]; omega)]
      exact ⟨i, rfl, by omega, c, d, Or.inr (Or.inl z)⟩
    · rw [if_neg (by rw [nI_leI (by omega) (by omega)]; omega), b153_41, g6, nI_add, nI_add]
      simp (disch := omega) only [in_172, if_true, nI_clamp, H.1 (a + i) (by omega)]
      rw [if_pos ⟨nn_le (by omega), by omega⟩, hc.1, b153_60]
      by_cases y : b (a + i) = (wd (mo k)).getD i 0
      · rw [if_pos (by rw [y]), b153_63, nI_add]
        refine m_key_in H g6 g7 he hk m (i + 1) (by omega) (fun j hj => ?_) (by omega)
        by_cases x : j = i
        · rw [x]; exact y
        · exact c j (by omega)
      · rw [if_neg (by rw [nI_eq (by omega) (by omega)]; exact y)]
        exact ⟨i, rfl, by omega, c, d, Or.inr (Or.inr y)⟩
theorem m_key_skip {k : Nat} {l3 : Int32} (hk : k < 20) : ∀ (m i : Nat), i + m = (wd (mo k)).length → xe 1 153 97 [.ref 169, .int (nI k), .int (nI (kp k + i)), .int l3] [] h = xe 1 153 4 [.ref 169, .int (nI (k + 1)), .int (nI (kp (k + 1))), .int l3] [] h
  | 0, i, q => by
    have hl := ky_le k hk
    have hs := ky_sp k hk
    have : i = (wd (mo k)).length := by omega
    subst this
    rw [b153_97, if_pos ⟨nn_le (by omega), by rw [nI_clamp (by omega)]; exact hs.2.2⟩, nI_clamp (by omega), hs.1, b153_103, if_pos rfl, b153_114, nI_add, nI_add, hs.2.1]
  | m + 1, i, q => by
    have hl := ky_le k hk
    have hs := ky_sp k hk
    have hc := ky_ch k hk i (by omega)
    rw [b153_97, if_pos ⟨nn_le (by omega), by rw [nI_clamp (by omega)]; omega⟩, nI_clamp (by omega), hc.1, b153_103, if_neg (by rw [nI_eq (by omega) (by decide)]; exact hc.2.1), b153_108, nI_add]
    exact m_key_skip hk m (i + 1) (by omega)
theorem m_key_loop {a e : Nat} (H : mBy h b n) (g6 : sm_gi h 169 6 = nI a) (g7 : sm_gi h 169 7 = nI e) (hae : a ≤ e) (he : e ≤ n) : ∀ (m k : Nat) (l3 : Value), k + m = 20 → xe 1 153 4 [.ref 169, .int (nI k), .int (nI (kp k)), l3] [] h = some ([.int (nI (fM b a e m k))], h)
  | 0, k, l3, q => by
    have : k = 20 := by omega
    subst this
    rw [b153_4, b153_10, ky_ln, show kp 20 = 100 from rfl, if_pos (Int32.le_refl _), b153_123]
    rfl
  | m + 1, k, l3, q => by
    have hn := H.2.1
    have hk : k < 20 := by omega
    have hl := ky_le k hk
    have hs := ky_sp k hk
    obtain ⟨i, e1, i1, i2, i3, i4⟩ := m_key_in H g6 g7 he hk (wd (mo k)).length 0 (by omega) (fun j hj => absurd hj (by omega)) (by omega)
    rw [b153_4, b153_10, ky_ln, if_neg (by rw [nI_leI (by decide) (by omega)]; omega), b153_13, e1, b153_69, nI_add, if_pos ⟨nn_le (by omega), by rw [nI_clamp (by omega)]; omega⟩, nI_clamp (by omega)]
    show _ = some ([Value.int (nI (@ite _ (isW b a e (mo k)) (Classical.propDecidable _) k (fM b a e m (k + 1))))], h)
    have skip := m_key_skip (h := h) (l3 := nI i) hk (wd (mo k)).length 0 (by omega)
    rw [Nat.add_zero] at skip
    have ih := m_key_loop H g6 g7 hae he m (k + 1) (.int (nI i)) (by omega)
    by_cases z : i = (wd (mo k)).length
    · rw [z, hs.1, b153_77, if_pos rfl, b153_82, g6, g7, nI_add]
      by_cases y : a + (wd (mo k)).length = e
      · have yes : isW b a e (mo k) := ⟨by omega, fun j hj => i2 j (by omega)⟩
        rw [if_pos (by rw [y]), if_pos yes, b153_95]
      · have no : ¬ isW b a e (mo k) := fun x => by have := x.1; omega
        rw [if_neg (by rw [nI_eq (by omega) (by omega)]; exact y), if_neg no, ← z, skip]
        exact ih
    · have hc := ky_ch k hk i (by omega)
      have no : ¬ isW b a e (mo k) := fun x => by
        rcases i4 with y | y | y
        · exact z y
        · have := x.1; omega
        · exact y (x.2 i (by omega))
      rw [hc.1, b153_77, if_neg (by rw [nI_eq (by omega) (by decide)]; exact hc.2.1), if_neg no, skip]
      exact ih
theorem m_keyAt {a e : Nat} (H : mBy h b n) (g6 : sm_gi h 169 6 = nI a) (g7 : sm_gi h 169 7 = nI e) (hae : a ≤ e) (he : e ≤ n) : xc 153 [.ref 169] h = some ([.int (nI (mKd (fW b a e 20 0)))], h) := by
  rw [en_153, b153_0, ← fM_W]
  exact m_key_loop H g6 g7 hae he 20 0 .null (by omega)
/-- the next token is read -/
def sxNx : Nat → Nat → Prop := fun c i => c = 169 ∧ (i = 6 ∨ i = 7 ∨ i = 9 ∨ i = 10)
theorem mBy_N {h2 : sm_H} (H : mBy h b n) (E : eqx sxNx h h2) : mBy h2 b n := mBy_eqx H E (fun c i z => by unfold sxNx at z; omega)
theorem m_next_skip (H : mBy h b n) : ∀ (m i : Nat) (h1 : sm_H), i + m = n → sm_gi h1 169 6 = nI i → eqx sxNx h h1 → ∃ h2, xe 2 154 8 [.ref 169, .null] [] h1 = xe 2 154 47 [.ref 169, .null] [] h2 ∧ sm_gi h2 169 6 = nI (whl (fun j => isBl (b j)) m i) ∧ eqx sxNx h h2
  | 0, i, h1, q, g, E => by
    have hn := H.2.1
    have H1 := mBy_N H E
    have hb := H.2.2.2
    rw [b154_8, g, m_see H1 (by omega), bnd]
    simp only [app1, List.cons_append, List.nil_append]
    rw [b154_16, if_neg (by rw [seeI_eq hb (by decide)]; omega), b154_21, g, m_see H1 (by omega), bnd]
    simp only [app1, List.cons_append, List.nil_append]
    rw [b154_29, if_neg (by rw [seeI_eq hb (by decide)]; omega)]
    exact ⟨h1, rfl, g, E⟩
  | m + 1, i, h1, q, g, E => by
    have hn := H.2.1
    have H1 := mBy_N H E
    have hb := H.2.2.2
    rw [whl_s]
    have go : isBl (b i) = true → ∃ h2, xe 2 154 34 [.ref 169, .null] [] h1 = xe 2 154 47 [.ref 169, .null] [] h2 ∧ sm_gi h2 169 6 = nI (if isBl (b i) = true then whl (fun j => isBl (b j)) m (i + 1) else i) ∧ eqx sxNx h h2 := fun z => by
      rw [b154_34, g, nI_add, b154_44, if_pos z]
      exact m_next_skip H m (i + 1) _ (by omega) gi_same (E.si (by unfold sxNx; omega))
    rw [b154_8, g, m_see H1 (by omega), bnd]
    simp only [app1, List.cons_append, List.nil_append]
    rw [b154_16]
    by_cases z : b i = 10
    · rw [if_pos (by rw [seeI_eq hb (by decide)]; omega)]
      exact go (isBl_iff.mpr (Or.inl z))
    · rw [if_neg (by rw [seeI_eq hb (by decide)]; omega), b154_21, g, m_see H1 (by omega), bnd]
      simp only [app1, List.cons_append, List.nil_append]
      rw [b154_29]
      by_cases y : b i = 32
      · rw [if_pos (by rw [seeI_eq hb (by decide)]; omega)]
        exact go (isBl_iff.mpr (Or.inr y))
      · rw [if_neg (by rw [seeI_eq hb (by decide)]; omega), if_neg (fun x => by rw [isBl_iff] at x; omega)]
        exact ⟨h1, rfl, g, E⟩
theorem m_next_word (H : mBy h b n) : ∀ (m i : Nat) (h1 : sm_H), i + m = n → sm_gi h1 169 7 = nI i → eqx (fun c k => c = 169 ∧ k = 7) h h1 → ∃ h2, xe 2 154 89 [.ref 169, .null] [] h1 = xe 2 154 116 [.ref 169, .null] [] h2 ∧ sm_gi h2 169 7 = nI (whl (fun j => isSm (b j)) m i) ∧ eqx (fun c k => c = 169 ∧ k = 7) h h2
  | 0, i, h1, q, g, E => by
    have hn := H.2.1
    have H1 := mBy_N H (E.wk (fun c k z => by unfold sxNx; omega))
    have hb := H.2.2.2
    rw [b154_89, g, m_see H1 (by omega), bnd]
    simp only [app1, List.cons_append, List.nil_append]
    rw [b154_97, m_isSmall, bnd]
    simp only [app1, List.cons_append, List.nil_append]
    rw [b154_100, if_pos (by rw [bI_z, seeI_in hb (by decide) (by decide)]; omega)]
    exact ⟨h1, rfl, g, E⟩
  | m + 1, i, h1, q, g, E => by
    have hn := H.2.1
    have H1 := mBy_N H (E.wk (fun c k z => by unfold sxNx; omega))
    have hb := H.2.2.2
    rw [whl_s, b154_89, g, m_see H1 (by omega), bnd]
    simp only [app1, List.cons_append, List.nil_append]
    rw [b154_97, m_isSmall, bnd]
    simp only [app1, List.cons_append, List.nil_append]
    rw [b154_100]
    by_cases z : isSm (b i) = true
    · have z' := isSm_iff.mp z
      rw [if_neg (by rw [bI_z, seeI_in hb (by decide) (by decide)]; omega), b154_103, g, nI_add, b154_113, if_pos z]
      exact m_next_word H m (i + 1) _ (by omega) gi_same (E.si ⟨rfl, rfl⟩)
    · have z' : ¬ (97 ≤ b i ∧ b i ≤ 122) := fun x => z (isSm_iff.mpr x)
      rw [if_pos (by rw [bI_z, seeI_in hb (by decide) (by decide)]; omega), if_neg z]
      exact ⟨h1, rfl, g, E⟩
theorem nV_s {i m : Nat} : nV b i (m + 1) = 10 * nV b i m + (b (i + m) - 48) := rfl
theorem m_next_num {i : Nat} (H : mBy h b n) (g6 : sm_gi h 169 6 = nI i) : ∀ (m d : Nat) (h1 : sm_H), i + d + m = n → (∀ j, j < d → isDg (b (i + j)) = true) → sm_gi h1 169 7 = nI (i + d) → sm_gi h1 169 10 = nI (nV b i (min 3 d)) → eqx (fun c k => c = 169 ∧ (k = 7 ∨ k = 10)) h h1 → ∃ h2, xe 2 154 146 [.ref 169, .null] [] h1 = xe 2 154 209 [.ref 169, .null] [] h2 ∧ sm_gi h2 169 7 = nI (whl (fun j => isDg (b j)) m (i + d)) ∧ sm_gi h2 169 10 = nI (nV b i (min 3 (whl (fun j => isDg (b j)) m (i + d) - i))) ∧ eqx (fun c k => c = 169 ∧ (k = 7 ∨ k = 10)) h h2
  | 0, d, h1, q, dg, g, g10, E => by
    have hn := H.2.1
    have H1 := mBy_N H (E.wk (fun c k z => by unfold sxNx; omega))
    have hb := H.2.2.2
    rw [b154_146, g, m_see H1 (by omega), bnd]
    simp only [app1, List.cons_append, List.nil_append]
    rw [b154_154, m_isDigit, bnd]
    simp only [app1, List.cons_append, List.nil_append]
    rw [b154_157, if_pos (by rw [bI_z, seeI_in hb (by decide) (by decide)]; omega)]
    refine ⟨h1, rfl, g, ?_, E⟩
    show _ = nI (nV b i (min 3 (i + d - i)))
    rw [show i + d - i = d by omega]
    exact g10
  | m + 1, d, h1, q, dg, g, g10, E => by
    have hn := H.2.1
    have H1 := mBy_N H (E.wk (fun c k z => by unfold sxNx; omega))
    have hb := H.2.2.2
    have g6' : sm_gi h1 169 6 = nI i := (E.1 169 6 (by omega)).trans g6
    rw [whl_s, b154_146, g, m_see H1 (by omega), bnd]
    simp only [app1, List.cons_append, List.nil_append]
    rw [b154_154, m_isDigit, bnd]
    simp only [app1, List.cons_append, List.nil_append]
    rw [b154_157]
    by_cases z : isDg (b (i + d)) = true
    · have z' := isDg_iff.mp z
      rw [if_neg (by rw [bI_z, seeI_in hb (by decide) (by decide)]; omega), b154_160, g, g6', pk_sub (show i ≤ i + d by omega), show i + d - i = d by omega, if_pos z]
      have dg' : ∀ j, j < d + 1 → isDg (b (i + j)) = true := fun j hj => by
        by_cases x : j = d
        · rw [x]; exact z
        · exact dg j (by omega)
      by_cases y : 3 ≤ d
      · rw [if_pos (by rw [nI_leI (by decide) (by omega)]; exact y), b154_196, g, nI_add, b154_206]
        refine m_next_num H g6 m (d + 1) _ (by omega) dg' gi_same ?_ (E.si (by omega))
        rw [gi_slot (by decide), g10, show min 3 (d + 1) = min 3 d by omega]
      · have hd := nV_le (b := b) (i := i) d dg
        have hp : 10 ^ d ≤ 10 ^ 2 := Nat.pow_le_pow_right (by decide) (by omega)
        rw [show min 3 d = d by omega] at g10
        rw [if_neg (by rw [nI_leI (by decide) (by omega)]; exact y), b154_173, g, g10, m_see H1 (by omega), bnd]
        simp only [app1, List.cons_append, List.nil_append]
        rw [show seeI b n (i + d) = nI (b (i + d)) from if_pos (by omega), b154_189, pk_mul, nI_add, pk_sub (show 48 ≤ 10 * nV b i d + b (i + d) by omega), b154_196, gi_slot (by decide), g, nI_add, b154_206]
        refine m_next_num H g6 m (d + 1) _ (by omega) dg' gi_same ?_ ((E.si (by omega)).si (by omega))
        rw [gi_slot (by decide), gi_same, show min 3 (d + 1) = d + 1 by omega, nV_s]
        congr 1
        omega
    · have z' : ¬ (48 ≤ b (i + d) ∧ b (i + d) ≤ 57) := fun x => z (isDg_iff.mpr x)
      rw [if_pos (by rw [bI_z, seeI_in hb (by decide) (by decide)]; omega), if_neg z]
      refine ⟨h1, rfl, g, ?_, E⟩
      rw [show i + d - i = d by omega]
      exact g10
def sgK (c : Nat) : Nat → Nat
  | 0 => 25
  | k + 1 => if c = sgL.getD k 0 then 30 + k else sgK c k
theorem sgK_all : ∀ c, c < 256 → sgK c 12 = mKd (if c ∈ sgL then c else 1) := by decide +kernel
theorem sg_ch : ∀ k, k < 12 → (sm_str.getD (1020 - 1000) []).getD k 0 = sgL.getD k 0 ∧ sgL.getD k 0 < 256 := by decide +kernel
theorem sg_ln : (sm_str.getD (1020 - 1000) []).length = 12 := by decide +kernel
theorem m_next_sign {i : Nat} (H : mBy h b n) (hi : i < n) : ∀ (m k : Nat) (h1 : sm_H), k + m = 12 → sm_gi h1 169 6 = nI i → sm_gi h1 169 9 = nI (sgK (b i) k) → eqx (fun c k => c = 169 ∧ k = 9) h h1 → ∃ h2, xe 2 154 254 [.ref 169, .int (nI k)] [] h1 = some ([], h2) ∧ sm_gi h2 169 9 = nI (sgK (b i) 12) ∧ eqx (fun c k => c = 169 ∧ k = 9) h h2
  | 0, k, h1, q, g6, g9, E => by
    have : k = 12 := by omega
    subst this
    rw [b154_254, b154_260, sg_ln, if_pos (Int32.le_refl _), b154_294]
    exact ⟨h1, rfl, g9, E⟩
  | m + 1, k, h1, q, g6, g9, E => by
    have hn := H.2.1
    have H1 := mBy_N H (E.wk (fun c k z => by unfold sxNx; omega))
    have hb := H.2.2.2
    have hbi := hb i
    have hc := sg_ch k (by omega)
    have hk2 : sgK (b i) (k + 1) = if b i = sgL.getD k 0 then 30 + k else sgK (b i) k := rfl
    rw [b154_254, b154_260, sg_ln, if_neg (by rw [nI_leI (by decide) (by omega)]; omega), b154_263, g6, m_see H1 (by omega), bnd]
    simp only [app1, List.cons_append, List.nil_append]
    rw [b154_271, sg_ln, if_pos ⟨nn_le (by omega), by rw [nI_clamp (by omega)]; omega⟩, nI_clamp (by omega), hc.1, b154_277]
    by_cases z : b i = sgL.getD k 0
    · rw [if_pos (by rw [seeI_eq hb hc.2]; exact ⟨hi, z⟩), b154_280, nI_add, b154_288, nI_add]
      exact m_next_sign H hi m (k + 1) _ (by omega) ((gi_slot (by decide)).trans g6) (by rw [gi_same, hk2, if_pos z]) (E.si ⟨rfl, rfl⟩)
    · rw [if_neg (by rw [seeI_eq hb hc.2]; exact fun y => z y.2), b154_288, nI_add]
      exact m_next_sign H hi m (k + 1) h1 (by omega) g6 (by rw [g9, hk2, if_neg z]) E
/-- the model stands at the token that begins at i -/
def mAt (h : sm_H) (b : Nat → Nat) (n i : Nat) : Prop := sm_gi h 169 6 = nI i ∧ sm_gi h 169 7 = nI (if i < n then tkE b n i else n) ∧ sm_gi h 169 9 = nI (mKd (tkK b n i)) ∧ (tkK b n i = 2 → sm_gi h 169 10 = nI (tkV b n i))
theorem m_next {j : Nat} (H : mBy h b n) (g7 : sm_gi h 169 7 = nI j) (hj : j ≤ n) : ∃ h2, xc 154 [.ref 169] h = some ([], h2) ∧ mAt h2 b n (skp b n j) ∧ eqx sxNx h h2 := by
  have hn := H.2.1
  have hb := H.2.2.2
  rw [en_154, b154_0, g7]
  obtain ⟨h1, e1, g1, E1⟩ := m_next_skip H (n - j) j (sm_si h 169 6 (nI j)) (by omega) gi_same (eqx.rf.si (by unfold sxNx; omega))
  rw [e1, b154_47, g1, show whl (fun j => isBl (b j)) (n - j) j = skp b n j from rfl]
  rw [show whl (fun j => isBl (b j)) (n - j) j = skp b n j from rfl] at g1
  have hsk := skp_le (b := b) hj
  generalize skp b n j = i at *
  have E2 : eqx sxNx h (sm_si h1 169 7 (nI i)) := E1.si (by unfold sxNx; omega)
  have g6 : sm_gi (sm_si h1 169 7 (nI i)) 169 6 = nI i := (gi_slot (by decide)).trans g1
  have g7' : sm_gi (sm_si h1 169 7 (nI i)) 169 7 = nI i := gi_same
  generalize sm_si h1 169 7 (nI i) = hh at *
  have H2 := mBy_N H E2
  rw [b154_55, g6, H2.2.2.1]
  unfold mAt
  by_cases z : i < n
  · rw [if_pos (by rw [nI_ltI (by omega) (by omega)]; exact z), if_pos z, b154_75, g6, m_see H2 (by omega), bnd]
    simp only [app1, List.cons_append, List.nil_append]
    rw [b154_83, m_isSmall, bnd]
    simp only [app1, List.cons_append, List.nil_append]
    rw [b154_86]
    have htk : tkK b n i = if isSm (b i) = true then fW b i (tkE b n i) 20 0 else if isDg (b i) = true then (if tkE b n i - i ≤ 3 then 2 else 1) else if b i ∈ sgL then b i else 1 := by
      unfold tkK; rw [if_neg (by omega)]
    by_cases sm : isSm (b i) = true
    · have sm' := isSm_iff.mp sm
      have hE : whl (fun j => isSm (b j)) (n - i) i = tkE b n i := by
        unfold tkE
        rw [if_pos sm, show n - i = n - (i + 1) + 1 by omega, whl_s, if_pos sm]
      rw [if_neg (by rw [bI_z, seeI_in hb (by decide) (by decide)]; omega)]
      obtain ⟨h3, e3, g3, E3⟩ := m_next_word H2 (n - i) i hh (by omega) g7' eqx.rf
      rw [hE] at g3
      have E3' : eqx sxNx hh h3 := E3.wk (fun c k z => by unfold sxNx; omega)
      have g6'' : sm_gi h3 169 6 = nI i := (E3.1 169 6 (by omega)).trans g6
      rw [e3, b154_116, m_keyAt (mBy_N H2 E3') g6'' g3 (Nat.le_of_lt (tkE_le z).1) (tkE_le z).2, bnd]
      simp only [app1, List.cons_append, List.nil_append]
      rw [b154_121, b154_124, b154_294, htk, if_pos sm]
      refine ⟨_, rfl, ⟨(gi_slot (by decide)).trans g6'', (gi_slot (by decide)).trans g3, gi_same, fun y => ?_⟩, (E2.tr E3').si (by unfold sxNx; omega)⟩
      rcases fW_in (b := b) (i := i) (e := tkE b n i) 20 0 with ⟨j, h1, h2, h3, h4⟩ | ⟨h1, h2⟩ <;> omega
    · have sm' : ¬ (97 ≤ b i ∧ b i ≤ 122) := fun x => sm (isSm_iff.mpr x)
      rw [if_pos (by rw [bI_z, seeI_in hb (by decide) (by decide)]; omega), b154_127, g6, m_see H2 (by omega), bnd]
      simp only [app1, List.cons_append, List.nil_append]
      rw [b154_135, m_isDigit, bnd]
      simp only [app1, List.cons_append, List.nil_append]
      rw [b154_138, htk, if_neg sm]
      by_cases dg : isDg (b i) = true
      · have dg' := isDg_iff.mp dg
        have hE : whl (fun j => isDg (b j)) (n - i) i = tkE b n i := by
          unfold tkE
          rw [if_neg sm, if_pos dg, show n - i = n - (i + 1) + 1 by omega, whl_s, if_pos dg]
        rw [if_neg (by rw [bI_z, seeI_in hb (by decide) (by decide)]; omega), b154_141]
        have H3 : mBy (sm_si hh 169 10 (nI 0)) b n := mBy_N H2 (eqx.rf.si (by unfold sxNx; omega))
        obtain ⟨h3, e3, g3, g10, E3⟩ := m_next_num (i := i) H3 ((gi_slot (by decide)).trans g6) (n - i) 0 (sm_si hh 169 10 (nI 0)) (by omega) (fun j hj => absurd hj (by omega)) ((gi_slot (by decide)).trans g7') gi_same eqx.rf
        rw [Nat.add_zero, hE] at g3 g10
        have g6'' : sm_gi h3 169 6 = nI i := (E3.1 169 6 (by omega)).trans ((gi_slot (by decide)).trans g6)
        have E3' : eqx sxNx hh h3 := (eqx.si (c := 169) (i := 10) eqx.rf (by unfold sxNx; omega)).tr (E3.wk (fun c k z => by unfold sxNx; omega))
        have hte := tkE_le (b := b) z
        rw [e3, b154_209, g3, g6'', pk_sub (Nat.le_of_lt hte.1), if_pos dg]
        by_cases y : tkE b n i - i ≤ 3
        · rw [if_pos (by rw [nI_leI (by omega) (by decide)]; exact y), b154_228, b154_230, b154_233, b154_294, if_pos y]
          exact ⟨_, rfl, ⟨(gi_slot (by decide)).trans g6'', (gi_slot (by decide)).trans g3, gi_same, fun _ => (gi_slot (by decide)).trans g10⟩, (E2.tr E3').si (by unfold sxNx; omega)⟩
        · rw [if_neg (by rw [nI_leI (by omega) (by decide)]; exact y), b154_223, b154_230, b154_233, b154_294, if_neg y]
          exact ⟨_, rfl, ⟨(gi_slot (by decide)).trans g6'', (gi_slot (by decide)).trans g3, gi_same, fun x => absurd x (by decide)⟩, (E2.tr E3').si (by unfold sxNx; omega)⟩
      · have dg' : ¬ (48 ≤ b i ∧ b i ≤ 57) := fun x => dg (isDg_iff.mpr x)
        have hE : tkE b n i = i + 1 := by unfold tkE; rw [if_neg sm, if_neg dg]
        rw [if_pos (by rw [bI_z, seeI_in hb (by decide) (by decide)]; omega), b154_236, g7', nI_add, b154_246, b154_252, if_neg dg, hE]
        have E3 : eqx sxNx hh (sm_si (sm_si hh 169 7 (nI (i + 1))) 169 9 (nI 25)) := (eqx.rf.si (by unfold sxNx; omega)).si (by unfold sxNx; omega)
        obtain ⟨h3, e3, g9, E4⟩ := m_next_sign (i := i) (mBy_N H2 E3) z 12 0 (sm_si (sm_si hh 169 7 (nI (i + 1))) 169 9 (nI 25)) (by omega) ((gi_slot (by decide)).trans ((gi_slot (by decide)).trans g6)) gi_same eqx.rf
        rw [e3]
        refine ⟨h3, rfl, ⟨(E4.1 169 6 (by omega)).trans ((gi_slot (by decide)).trans ((gi_slot (by decide)).trans g6)), (E4.1 169 7 (by omega)).trans ((gi_slot (by decide)).trans gi_same), by rw [g9, sgK_all _ (hb i)], fun y => ?_⟩, (E2.tr E3).tr (E4.wk (fun c k z => by unfold sxNx; omega))⟩
        split at y
        · rename_i x; exact absurd y (kl_s _ x).2.2.2.1
        · omega
  · rw [if_neg (by rw [nI_ltI (by omega) (by omega)]; exact z), if_neg z, b154_66, b154_72, b154_294]
    have hin : i = n := by omega
    have hk : tkK b n i = 0 := tkK_0.mpr (by omega)
    rw [hk]
    exact ⟨_, rfl, ⟨(gi_slot (by decide)).trans g6, (gi_slot (by decide)).trans (g7'.trans (by rw [hin])), gi_same, fun y => absurd y (by decide)⟩, E2.si (by unfold sxNx; omega)⟩
end MLX
