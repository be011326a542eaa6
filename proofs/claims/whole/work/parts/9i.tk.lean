/-! ===== texts as tokens ===== -/
def isBl (c : Nat) : Bool := decide (c = 10) || decide (c = 32)
def isDg (c : Nat) : Bool := decide (48 ≤ c) && decide (c ≤ 57)
def isSm (c : Nat) : Bool := decide (97 ≤ c) && decide (c ≤ 122)
theorem isBl_iff {c : Nat} : isBl c = true ↔ c = 10 ∨ c = 32 := by unfold isBl; simp
theorem isDg_iff {c : Nat} : isDg c = true ↔ 48 ≤ c ∧ c ≤ 57 := by unfold isDg; simp
theorem isSm_iff {c : Nat} : isSm c = true ↔ 97 ≤ c ∧ c ≤ 122 := by unfold isSm; simp
def whl (f : Nat → Bool) : Nat → Nat → Nat
  | 0, i => i
  | m + 1, i => if f i = true then whl f m (i + 1) else i
theorem whl_s {f : Nat → Bool} {m i : Nat} : whl f (m + 1) i = if f i = true then whl f m (i + 1) else i := rfl
theorem whl_le {f : Nat → Bool} : ∀ m i, i ≤ whl f m i ∧ whl f m i ≤ i + m
  | 0, i => ⟨Nat.le_refl _, Nat.le_refl _⟩
  | m + 1, i => by
    rw [whl_s]
    have := whl_le (f := f) m (i + 1)
    split <;> omega
theorem whl_stop {f : Nat → Bool} : ∀ m i, whl f m i < i + m → f (whl f m i) = false
  | 0, i, h => absurd h (Nat.lt_irrefl _)
  | m + 1, i, h => by
    rw [whl_s] at h ⊢
    by_cases z : f i = true
    · rw [if_pos z] at h ⊢
      exact whl_stop m (i + 1) (by omega)
    · rw [if_neg z]
      exact Bool.eq_false_iff.mpr z
theorem whl_in {f : Nat → Bool} : ∀ m i k, i ≤ k → k < whl f m i → f k = true
  | 0, i, k, h1, h2 => absurd h2 (by show ¬ k < i; omega)
  | m + 1, i, k, h1, h2 => by
    rw [whl_s] at h2
    by_cases z : f i = true
    · rw [if_pos z] at h2
      by_cases y : k = i
      · rw [y]; exact z
      · exact whl_in m (i + 1) k (by omega) h2
    · rw [if_neg z] at h2; omega
def skp (b : Nat → Nat) (n i : Nat) : Nat := whl (fun j => isBl (b j)) (n - i) i
def tkE (b : Nat → Nat) (n i : Nat) : Nat := if isSm (b i) = true then whl (fun j => isSm (b j)) (n - (i + 1)) (i + 1) else if isDg (b i) = true then whl (fun j => isDg (b j)) (n - (i + 1)) (i + 1) else i + 1
def nV (b : Nat → Nat) (i : Nat) : Nat → Nat
  | 0 => 0
  | m + 1 => 10 * nV b i m + (b (i + m) - 48)
def wd (k : Nat) : List Nat := sm_str.getD k []
def isW (b : Nat → Nat) (i e k : Nat) : Prop := e - i = (wd k).length ∧ ∀ j, j < (wd k).length → b (i + j) = (wd k).getD j 0
noncomputable def fW (b : Nat → Nat) (i e : Nat) : Nat → Nat → Nat
  | 0, _ => 220
  | m + 1, k => @ite _ (isW b i e k) (Classical.propDecidable _) (200 + k) (fW b i e m (k + 1))
def sgL : List Nat := [59, 58, 43, 45, 42, 40, 41, 91, 93, 61, 60, 62]
noncomputable def tkK (b : Nat → Nat) (n i : Nat) : Nat := if n ≤ i then 0 else if isSm (b i) = true then fW b i (tkE b n i) 20 0 else if isDg (b i) = true then (if tkE b n i - i ≤ 3 then 2 else 1) else if b i ∈ sgL then b i else 1
def tkV (b : Nat → Nat) (n i : Nat) : Nat := nV b i (min 3 (tkE b n i - i))
def KL : List Nat := [0, 1, 2, 59, 58, 43, 45, 42, 40, 41, 91, 93, 61, 60, 62, 200, 201, 202, 203, 204, 205, 206, 207, 208, 209, 210, 211, 212, 213, 214, 215, 216, 217, 218, 219, 220]
def mKd (c : Nat) : Nat := if c = 0 then 24 else if c = 1 then 25 else if c = 2 then 23 else if 200 ≤ c then [0, 1, 6, 11, 12, 3, 4, 5, 7, 10, 18, 17, 19, 13, 8, 14, 15, 9, 16, 2, 22].getD (c - 200) 22 else 30 + sgL.idxOf c
theorem mKd_inj : ∀ a, a ∈ KL → ∀ c, c ∈ KL → mKd a = mKd c → a = c := by decide +kernel
theorem mKd_lt : ∀ a, a ∈ KL → mKd a < 42 := by decide +kernel
theorem KL_lt : ∀ a, a ∈ KL → a < 221 := by decide +kernel
section TKS
variable {b : Nat → Nat} {n : Nat}
theorem skp_le {i : Nat} (h : i ≤ n) : i ≤ skp b n i ∧ skp b n i ≤ n := by
  have := whl_le (f := fun j => isBl (b j)) (n - i) i
  unfold skp
  omega
theorem tkE_le {i : Nat} (h : i < n) : i < tkE b n i ∧ tkE b n i ≤ n := by
  have h1 := whl_le (f := fun j => isSm (b j)) (n - (i + 1)) (i + 1)
  have h2 := whl_le (f := fun j => isDg (b j)) (n - (i + 1)) (i + 1)
  unfold tkE
  split
  · omega
  · split <;> omega
theorem fW_in {i e : Nat} : ∀ m k, (∃ j, k ≤ j ∧ j < k + m ∧ isW b i e j ∧ fW b i e m k = 200 + j) ∨ ((∀ j, k ≤ j → j < k + m → ¬ isW b i e j) ∧ fW b i e m k = 220)
  | 0, k => Or.inr ⟨fun j h1 h2 => by omega, rfl⟩
  | m + 1, k => by
    show (∃ j, k ≤ j ∧ j < k + (m + 1) ∧ isW b i e j ∧ (@ite _ (isW b i e k) (Classical.propDecidable _) (200 + k) (fW b i e m (k + 1))) = 200 + j) ∨ ((∀ j, k ≤ j → j < k + (m + 1) → ¬ isW b i e j) ∧ (@ite _ (isW b i e k) (Classical.propDecidable _) (200 + k) (fW b i e m (k + 1))) = 220)
    by_cases z : isW b i e k
    · exact Or.inl ⟨k, Nat.le_refl _, by omega, z, by rw [if_pos z]⟩
    · rw [if_neg z]
      rcases fW_in m (k + 1) with ⟨j, h1, h2, h3, h4⟩ | ⟨h1, h2⟩
      · exact Or.inl ⟨j, by omega, by omega, h3, h4⟩
      · refine Or.inr ⟨fun j h3 h4 => ?_, h2⟩
        by_cases y : j = k
        · rw [y]; exact z
        · exact h1 j (by omega) (by omega)
theorem wd_inj : ∀ k, k < 20 → ∀ j, j < 20 → wd k = wd j → k = j := by decide +kernel
theorem isW_uni {i e k j : Nat} (hk : k < 20) (hj : j < 20) (a : isW b i e k) (c : isW b i e j) : k = j := by
  refine wd_inj k hk j hj ?_
  apply List.ext_getElem
  · rw [← a.1, c.1]
  · intro m h1 h2
    have e1 := a.2 m h1
    have e2 := c.2 m h2
    rw [e1] at e2
    rw [List.getD_eq_getElem?_getD, List.getD_eq_getElem?_getD, List.getElem?_eq_getElem h1, List.getElem?_eq_getElem h2] at e2
    exact e2
theorem kl_w : ∀ j, j < 21 → 200 + j ∈ KL := by decide +kernel
theorem kl_s : ∀ c, c ∈ sgL → c ∈ KL ∧ c ≠ 0 ∧ c ≠ 1 ∧ c ≠ 2 ∧ c < 100 := by decide +kernel
theorem tkK_KL {i : Nat} : tkK b n i ∈ KL := by
  unfold tkK
  split
  · decide
  · split
    · rcases fW_in (b := b) (i := i) (e := tkE b n i) 20 0 with ⟨j, h1, h2, h3, h4⟩ | ⟨h1, h2⟩
      · rw [h4]; exact kl_w j (by omega)
      · rw [h2]; exact kl_w 20 (by decide)
    · split
      · split <;> decide
      · split
        · rename_i z; exact (kl_s _ z).1
        · decide
theorem tkK_0 {i : Nat} : tkK b n i = 0 ↔ n ≤ i := by
  constructor
  · intro h
    apply Classical.byContradiction
    intro z
    unfold tkK at h
    rw [if_neg z] at h
    split at h
    · rcases fW_in (b := b) (i := i) (e := tkE b n i) 20 0 with ⟨j, h1, h2, h3, h4⟩ | ⟨h1, h2⟩ <;> omega
    · split at h
      · split at h <;> omega
      · split at h
        · rename_i y; exact (kl_s _ y).2.1 h
        · omega
  · intro h
    unfold tkK
    rw [if_pos h]
theorem nV_le {i : Nat} : ∀ m, (∀ j, j < m → isDg (b (i + j)) = true) → nV b i m < 10 ^ m
  | 0, _ => by show 0 < 10 ^ 0; decide
  | m + 1, h => by
    have := nV_le m (fun j hj => h j (by omega))
    have h2 := isDg_iff.mp (h m (by omega))
    show 10 * nV b i m + (b (i + m) - 48) < 10 ^ (m + 1)
    rw [Nat.pow_succ]
    omega
theorem tkE_dg {i k : Nat} (h : isDg (b i) = true) (h1 : i ≤ k) (h2 : k < tkE b n i) : isDg (b k) = true := by
  have hn : ¬ isSm (b i) = true := fun z => by rw [isDg_iff] at h; rw [isSm_iff] at z; omega
  unfold tkE at h2
  rw [if_neg hn, if_pos h] at h2
  by_cases y : k = i
  · rw [y]; exact h
  · exact whl_in _ _ k (by omega) h2
theorem tkV_lt {i : Nat} (h : isDg (b i) = true) : tkV b n i ≤ 999 := by
  have := nV_le (b := b) (i := i) (min 3 (tkE b n i - i)) (fun j hj => tkE_dg (n := n) h (by omega) (by omega))
  have h2 : 10 ^ (min 3 (tkE b n i - i)) ≤ 10 ^ 3 := Nat.pow_le_pow_right (by decide) (by omega)
  unfold tkV
  omega
theorem tkK_2 {i : Nat} (h : tkK b n i = 2) : isDg (b i) = true := by
  unfold tkK at h
  split at h
  · omega
  · split at h
    · rcases fW_in (b := b) (i := i) (e := tkE b n i) 20 0 with ⟨j, h1, h2, h3, h4⟩ | ⟨h1, h2⟩ <;> omega
    · split at h
      · rename_i z; exact z
      · split at h
        · rename_i y; exact absurd h (kl_s _ y).2.2.2.1
        · omega
/-- where the tokens begin -/
def psT (b : Nat → Nat) (n : Nat) : Nat → Nat
  | 0 => skp b n 0
  | k + 1 => if psT b n k < n then skp b n (tkE b n (psT b n k)) else n
theorem psT_s {k : Nat} : psT b n (k + 1) = if psT b n k < n then skp b n (tkE b n (psT b n k)) else n := rfl
theorem psT_le : ∀ k, psT b n k ≤ n
  | 0 => (skp_le (Nat.zero_le _)).2
  | k + 1 => by
    rw [psT_s]
    split
    · rename_i z; exact (skp_le (tkE_le z).2).2
    · exact Nat.le_refl _
theorem psT_ge : ∀ k, psT b n k < n → k ≤ psT b n k ∧ k < n
  | 0, h => ⟨Nat.zero_le _, by omega⟩
  | k + 1, h => by
    rw [psT_s] at h ⊢
    by_cases z : psT b n k < n
    · rw [if_pos z] at h ⊢
      have h1 := (tkE_le (b := b) z)
      have h2 := skp_le (b := b) h1.2
      have := (psT_ge k z).1
      omega
    · rw [if_neg z] at h; omega
noncomputable def tK (b : Nat → Nat) (n k : Nat) : Nat := tkK b n (psT b n k)
def tV (b : Nat → Nat) (n k : Nat) : Nat := tkV b n (psT b n k)
theorem tK_0 {k : Nat} : tK b n k = 0 ↔ psT b n k = n := by
  unfold tK
  rw [tkK_0]
  have := psT_le (b := b) (n := n) k
  omega
/-- how many tokens there are -/
theorem nt_ex : ∃ nt, nt ≤ n ∧ tK b n nt = 0 ∧ ∀ k, k < nt → tK b n k ≠ 0 := by
  have h : tK b n n = 0 := by
    rw [tK_0]
    have h1 := psT_le (b := b) (n := n) n
    apply Classical.byContradiction
    intro z
    have := (psT_ge (b := b) (n := n) n (by omega)).2
    omega
  obtain ⟨m, a, c, d⟩ := least (Q := fun k => tK b n k = 0) n h
  exact ⟨m, c, a, d⟩
end TKS
/-- a row of tokens -/
def TKo (K V : Nat → Nat) (nt : Nat) : Prop := K nt = 0 ∧ (∀ k, k < nt → K k ≠ 0) ∧ nt ≤ 900 ∧ (∀ k, K k ∈ KL) ∧ ∀ k, K k = 2 → V k ≤ 999
theorem TKo_of {b : Nat → Nat} {n : Nat} (hn : n ≤ 900) : ∃ nt, TKo (tK b n) (tV b n) nt := by
  obtain ⟨nt, a, c, d⟩ := nt_ex (b := b) (n := n)
  exact ⟨nt, c, d, by omega, fun k => tkK_KL, fun k h => tkV_lt (tkK_2 h)⟩
theorem TKo.s {K V : Nat → Nat} {nt k : Nat} (T : TKo K V nt) (h : k ≤ nt) (hk : K k ≠ 0) : k + 1 ≤ nt := by
  by_cases z : k = nt
  · rw [z] at hk; exact absurd T.1 hk
  · omega
