/-! ===== the model's small methods ===== -/
theorem or01_0 : ((nI 0 = 0) ∨ (nI 0 = 1)) ↔ True := iff_true_intro (Or.inl (by decide +kernel))
theorem or01_1 : ((nI 1 = 0) ∨ (nI 1 = 1)) ↔ True := iff_true_intro (Or.inr (by decide +kernel))
theorem nI1z : (nI 1 = 0) ↔ False := iff_false_intro (by decide +kernel)
theorem nI0z : (nI 0 = 0) ↔ True := iff_true_intro (by decide +kernel)
/-- a truth as an int -/
def bI (c : Prop) [Decidable c] : Int32 := if c then nI 1 else nI 0
theorem bI_z {c : Prop} [Decidable c] : (bI c = 0) ↔ ¬ c := ite_z
theorem bI_zo {c : Prop} [Decidable c] : (bI c = 0 ∨ bI c = 1) ↔ True := ite_z1
theorem m_within {v lo hi : Int64} {h : sm_H} : xc 147 [.long v, .long lo, .long hi] h = some ([.int (bI (lo ≤ v ∧ v ≤ hi))], h) := by
  rw [en_147]
  simp only [b147_0, b147_6, b147_13, b147_17, b147_18, lg_cmp_lt, lg_cmp_gt, or01_0, or01_1, if_true, bI]
  by_cases h1 : v < lo
  · rw [if_pos h1, if_neg (fun q => absurd q.1 (Int64.not_le.mpr h1))]
  · rw [if_neg h1]
    by_cases h2 : hi < v
    · rw [if_pos h2, if_neg (fun q => absurd q.2 (Int64.not_le.mpr h2))]
    · rw [if_neg h2, if_pos ⟨Int64.not_lt.mp h1, Int64.not_lt.mp h2⟩]
theorem m_isSmall {c : Int32} {h : sm_H} : xc 151 [.int c] h = some ([.int (bI (nI 97 ≤ c ∧ c ≤ nI 122))], h) := by
  rw [en_151]
  simp only [b151_0, b151_6, b151_12, b151_16, b151_17, or01_0, or01_1, if_true, bI]
  by_cases h1 : c < nI 97
  · rw [if_pos h1, if_neg (fun q => absurd q.1 (Int32.not_le.mpr h1))]
  · rw [if_neg h1]
    by_cases h2 : nI 122 < c
    · rw [if_pos h2, if_neg (fun q => absurd q.2 (Int32.not_le.mpr h2))]
    · rw [if_neg h2, if_pos ⟨Int32.not_lt.mp h1, Int32.not_lt.mp h2⟩]
theorem m_isDigit {c : Int32} {h : sm_H} : xc 152 [.int c] h = some ([.int (bI (nI 48 ≤ c ∧ c ≤ nI 57))], h) := by
  rw [en_152]
  simp only [b152_0, b152_6, b152_12, b152_16, b152_17, or01_0, or01_1, if_true, bI]
  by_cases h1 : c < nI 48
  · rw [if_pos h1, if_neg (fun q => absurd q.1 (Int32.not_le.mpr h1))]
  · rw [if_neg h1]
    by_cases h2 : nI 57 < c
    · rw [if_pos h2, if_neg (fun q => absurd q.2 (Int32.not_le.mpr h2))]
    · rw [if_neg h2, if_pos ⟨Int32.not_lt.mp h1, Int32.not_lt.mp h2⟩]
theorem in_170 {n : Nat} (hn : n < 3828) : sm_in 170 (nI n) ↔ True := iff_true_intro ((in_nI (by omega)).mpr hn)
theorem m_leads {r : Nat} {f : Int32} {h : sm_H} (hr : r < 12) : xc 184 [.ref 169, .int (nI r), .int f] h = some ([.int (if sm_gi h 170 (10 + r) = f then sm_gi h 170 (22 + r) else if sm_gi h 170 (22 + r) = f then sm_gi h 170 (10 + r) else -1)], h) := by
  rw [en_184]
  simp (disch := omega) only [b184_0, b184_13, b184_25, b184_38, b184_50, b184_51, nI_add, nI_clamp, in_170, if_true]
  split
  · rfl
  · split <;> rfl
theorem m_isBridge {r : Nat} {h : sm_H} (hr : r < 12) : xc 185 [.ref 169, .int (nI r)] h = some ([.int (bI (sm_gi h 170 (46 + r) = nI 1 ∧ ¬ nI r = sm_gi h 169 15))], h) := by
  rw [en_185]
  simp (disch := omega) only [b185_0, b185_13, b185_21, b185_25, b185_26, nI_add, nI_clamp, in_170, if_true, or01_0, or01_1, bI]
  by_cases h1 : sm_gi h 170 (46 + r) = nI 1
  · rw [if_pos h1]
    by_cases h2 : nI r = sm_gi h 169 15
    · rw [if_pos h2, if_neg (fun q => q.2 h2)]
    · rw [if_neg h2, if_pos ⟨h1, h2⟩]
  · rw [if_neg h1, if_neg (fun q => h1 q.1)]
theorem bI_congr {c d : Prop} [Decidable c] [Decidable d] (e : c ↔ d) : bI c = bI d := by
  unfold bI
  by_cases q : c
  · rw [if_pos q, if_pos (e.mp q)]
  · rw [if_neg q, if_neg (fun z => q (e.mpr z))]
/-- a bit of a number -/
theorem shr1 {n k : Nat} (hn : n < 2 ^ 31) (hk : k < 32) : (nI n >>> (nI k &&& 31)) &&& nI 1 = nI (n / 2 ^ k % 2) := by
  rw [pk_shrN hn (nI k &&& 31) k (s_l k hk)]
  exact fa_mask (n / 2 ^ k) 1
theorem shl1 {k : Nat} (hk : k < 31) : nI 1 <<< (nI k &&& 31) = nI (2 ^ k) := by
  rw [pk_shlN (n := 1) (nI k &&& 31) k (s_l k (by omega)) (by rw [Nat.one_mul]; exact Nat.pow_lt_pow_right (by decide) (by omega)), Nat.one_mul]
def pcnt (n : Nat) : Nat → Nat
  | 0 => 0
  | k + 1 => pcnt n k + n / 2 ^ k % 2
theorem pcnt_le (n : Nat) : ∀ k, pcnt n k ≤ k
  | 0 => Nat.le_refl 0
  | k + 1 => by
    have := pcnt_le n k
    unfold pcnt
    omega
theorem m_bitsOf_loop {n : Nat} {h : sm_H} (hn : n < 2 ^ 31) : ∀ (m k : Nat), k + m = 12 → xe 1 182 4 [.int (nI n), .int (nI (pcnt n k)), .int (nI k)] [] h = some ([.int (nI (pcnt n 12))], h)
  | 0, k, e => by
    have : k = 12 := by omega
    subst this
    rw [b182_4, if_pos (by decide +kernel), b182_24]
  | m + 1, k, e => by
    rw [b182_4, if_neg (by rw [nI_leI (by decide) (by omega)]; omega), b182_10, shr1 hn (by omega), nI_add, nI_add]
    exact m_bitsOf_loop hn m (k + 1) (by omega)
theorem m_bitsOf {n : Nat} {h : sm_H} (hn : n < 2 ^ 31) : xc 182 [.int (nI n)] h = some ([.int (nI (pcnt n 12))], h) := by
  rw [en_182, b182_0]
  exact m_bitsOf_loop hn 12 0 rfl
theorem lN_smod : ∀ k, k < 64 → ((lN k).toBitVec.smod 64).toNat = k := by decide +kernel
theorem lN_1' : (1 : Int64) = lN 1 := rfl
theorem m_isIn {n k : Nat} {h : sm_H} (hn : n < 2 ^ 31) (hk : k < 64) : xc 159 [.long (nI n).toInt64, .int (nI k)] h = some ([.int (bI (n / 2 ^ k % 2 = 1))], h) := by
  rw [en_159]
  have e : ((nI n).toInt64 >>> ((nI k).toInt64 &&& 63)) &&& 1 = lN (n / 2 ^ k % 2) := by
    rw [nI_l hn, wb_c k hk, pf_shr (lN_smod k hk) (by omega), wb_a1]
    have := Nat.div_le_self n (2 ^ k)
    omega
  simp only [b159_0, b159_10, b159_14, b159_15, or01_0, or01_1, if_true, bI, lg_cmp_eq, e]
  have e2 : (lN (n / 2 ^ k % 2) = 1) ↔ n / 2 ^ k % 2 = 1 := by rw [lN_1', lN_eq (by omega) (by decide)]
  by_cases q : n / 2 ^ k % 2 = 1
  · rw [if_pos (e2.mpr q), if_pos q]
  · rw [if_neg (fun z => q (e2.mp z)), if_neg q]
/-- one of P: 0 up to P - 1 -/
abbrev isN (v : Int64) (P : Nat) : Prop := 0 ≤ v.toInt ∧ v.toInt < P
theorem isN_within {v : Int64} {P : Nat} (hP : P < 2 ^ 30) : (0 ≤ v ∧ v ≤ (nI P - nI 1).toInt64) ↔ isN v P := by
  rw [Int64.le_iff_toInt_le, Int64.le_iff_toInt_le, Int32.toInt_toInt64, pk_sub_toInt hP (by decide), show ((0 : Int64).toInt) = 0 from rfl]
  unfold isN
  omega
theorem m_isPerson {v : Int64} {P : Nat} {h : sm_H} (hP : sm_gi h 170 3 = nI P) (hP2 : P < 2 ^ 30) : xc 180 [.ref 169, .long v] h = some ([.int (bI (isN v P))], h) := by
  rw [en_180]
  simp (disch := omega) only [b180_0, b180_14, in_170, if_true, nI_clamp, hP, m_within, bnd, app1, bI_zo]
  rw [bI_congr (isN_within hP2)]
theorem m_isRoad {v : Int64} {P : Nat} {h : sm_H} (hP : sm_gi h 170 2 = nI P) (hP2 : P < 2 ^ 30) : xc 179 [.ref 169, .long v] h = some ([.int (bI (isN v P))], h) := by
  rw [en_179]
  simp (disch := omega) only [b179_0, b179_14, in_170, if_true, nI_clamp, hP, m_within, bnd, app1, bI_zo]
  rw [bI_congr (isN_within hP2)]
theorem m_isPlace {v : Int64} {P : Nat} {h : sm_H} (hP : sm_gi h 170 1 = nI P) (hP2 : P < 2 ^ 30) : xc 178 [.ref 169, .long v] h = some ([.int (bI (isN v P))], h) := by
  rw [en_178]
  simp (disch := omega) only [b178_0, b178_14, in_170, if_true, nI_clamp, hP, m_within, bnd, app1, bI_zo]
  rw [bI_congr (isN_within hP2)]
