/-! ===== floods: numbers ===== -/
theorem l_T {n : Nat} (h : n < 2 ^ 63) : (lN n).toInt = n := lg_ofNat_toInt h
theorem l_div {a b : Nat} (ha : a < 2 ^ 63) (h0 : 0 < b) (hb : b < 2 ^ 63) : lN a / lN b = lN (a / b) := by
  apply Int64.toInt_inj.mp
  rw [lg_ldiv_nonneg (by rw [l_T ha]; omega) (by rw [l_T hb]; omega), l_T ha, l_T hb, l_T (Nat.lt_of_le_of_lt (Nat.div_le_self a b) ha)]
  rfl
theorem l_rem {a b : Nat} (ha : a < 2 ^ 63) (h0 : 0 < b) (hb : b < 2 ^ 63) : lN a - lN a / lN b * lN b = lN (a % b) := by
  rw [l_div ha h0 hb, lN_mul, lN_sub (Nat.div_mul_le_self a b)]
  exact congrArg lN (by have := Nat.div_add_mod' a b; omega)
theorem l_lt {a b : Nat} (ha : a < 2 ^ 63) (hb : b < 2 ^ 63) : lN a < lN b ↔ a < b := by
  rw [Int64.lt_iff_toInt_lt, l_T ha, l_T hb]; omega
theorem l_le {a b : Nat} (ha : a < 2 ^ 63) (hb : b < 2 ^ 63) : lN a ≤ lN b ↔ a ≤ b := by
  rw [Int64.le_iff_toInt_le, l_T ha, l_T hb]; omega
theorem l_eq {a b : Nat} (ha : a < 2 ^ 63) (hb : b < 2 ^ 63) : lN a = lN b ↔ a = b := by
  rw [← Int64.toInt_inj, l_T ha, l_T hb]; omega
theorem l_z {a : Nat} (ha : a < 2 ^ 63) : lN a = 0 ↔ a = 0 := by
  rw [show (0 : Int64) = lN 0 from rfl, l_eq ha (by decide)]
def dyA (P : Nat → Bool) (fl : Nat → Nat) : Nat → Nat
  | 0 => 1
  | k + 1 => if P k = true then dyA P fl k * (10 - fl k) else dyA P fl k
theorem dyA_succ {P : Nat → Bool} {fl : Nat → Nat} {k : Nat} : dyA P fl (k + 1) = if P k = true then dyA P fl k * (10 - fl k) else dyA P fl k := rfl
theorem cntB_succ {P : Nat → Bool} {k : Nat} : cntB P (k + 1) = cntB P k + (if P k = true then 1 else 0) := rfl
theorem dyA_le (P : Nat → Bool) (fl : Nat → Nat) : ∀ k, dyA P fl k ≤ 10 ^ cntB P k
  | 0 => Nat.le_refl _
  | k + 1 => by
    have ih := dyA_le P fl k
    rw [dyA_succ, cntB_succ]
    by_cases z : P k = true
    · rw [if_pos z, if_pos z, Nat.pow_succ]
      exact Nat.mul_le_mul ih (by omega)
    · rw [if_neg z, if_neg z]
      exact ih
theorem ten_le {c : Nat} (h : c ≤ 12) : 10 ^ c ≤ 10 ^ 12 := Nat.pow_le_pow_right (by decide) h
def dyV (P : Nat → Bool) (fl : Nat → Nat) (k : Nat) : Nat := dyA P fl k * 10 ^ (12 - cntB P k)
theorem dyV_le {P : Nat → Bool} {fl : Nat → Nat} {k : Nat} (hk : k ≤ 12) : dyV P fl k ≤ 10 ^ 12 := by
  have h1 := dyA_le P fl k
  have h2 := cntB_le P k
  unfold dyV
  refine Nat.le_trans (Nat.mul_le_mul_right _ h1) ?_
  rw [← Nat.pow_add]
  exact Nat.pow_le_pow_right (by decide) (by omega)
theorem dyV_step {P : Nat → Bool} {fl : Nat → Nat} {k : Nat} (hk : k < 12) (z : P k = true) : dyV P fl k / 10 * (10 - fl k) = dyV P fl (k + 1) := by
  have h2 := cntB_le P k
  unfold dyV
  rw [dyA_succ, cntB_succ, if_pos z, if_pos z, show 12 - cntB P k = (12 - (cntB P k + 1)) + 1 by omega, Nat.pow_succ, ← Nat.mul_assoc, Nat.mul_div_cancel _ (by decide : 0 < 10), Nat.mul_right_comm]
theorem dyV_same {P : Nat → Bool} {fl : Nat → Nat} {k : Nat} (z : ¬ P k = true) : dyV P fl (k + 1) = dyV P fl k := by
  unfold dyV
  rw [dyA_succ, cntB_succ, if_neg z, if_neg z, Nat.add_zero]
theorem dyV_0 {P : Nat → Bool} {fl : Nat → Nat} : dyV P fl 0 = 10 ^ 12 := by
  unfold dyV
  rw [show dyA P fl 0 = 1 from rfl, show cntB P 0 = 0 from rfl, Nat.one_mul]
/-! Euclid -/
theorem es_0 {n : Nat} {a : Int64} : sm_es n a (lN 0) = 0 := by
  cases n with
  | zero => rfl
  | succ n => exact if_pos rfl
theorem es_s {n x y : Nat} (hx : x < 2 ^ 63) (hy : y < 2 ^ 63) (h0 : 0 < y) : sm_es (n + 1) (lN x) (lN y) = sm_es n (lN y) (lN (x % y)) + 1 := by
  show (if lN y = 0 then 0 else sm_es n (lN y) (lN x - lN x / lN y * lN y) + 1) = _
  rw [if_neg (by rw [l_z hy]; omega), l_rem hx h0 hy]
theorem es_le : ∀ (n : Nat) (a b : Int64), sm_es n a b ≤ n
  | 0, _, _ => Nat.le_refl _
  | n + 1, a, b => by
    show (if b = 0 then 0 else sm_es n b (a - a / b * b) + 1) ≤ n + 1
    have := es_le n b (a - a / b * b)
    split <;> omega
theorem half_mod {y r : Nat} (h0 : 0 < r) (h : r < y) : 2 * (y % r) < y := by
  have h1 := Nat.div_add_mod y r
  have h2 : 1 ≤ y / r := (Nat.le_div_iff_mul_le h0).mpr (by omega)
  have h3 : r * 1 ≤ r * (y / r) := Nat.mul_le_mul_left r h2
  have h4 := Nat.mod_lt y h0
  omega
theorem es_stable : ∀ (k n x y : Nat), x < 2 ^ 63 → y < 2 ^ 63 → y < 2 ^ k → 2 * k + 1 ≤ n → sm_es (n + 1) (lN x) (lN y) = sm_es n (lN x) (lN y)
  | 0, n, x, y, hx, hy, hk, hn => by
    have : y = 0 := by omega
    subst this
    rw [es_0, es_0]
  | k + 1, n, x, y, hx, hy, hk, hn => by
    by_cases h0 : y = 0
    · subst h0
      rw [es_0, es_0]
    · obtain ⟨m, rfl⟩ : ∃ m, n = m + 2 := ⟨n - 2, by omega⟩
      have hr := Nat.mod_lt x (show 0 < y by omega)
      rw [es_s hx hy (by omega), es_s hx hy (by omega)]
      by_cases hr0 : x % y = 0
      · rw [hr0, es_0, es_0]
      · have hh := half_mod (show 0 < x % y by omega) hr
        rw [es_s hy (by omega) (by omega), es_s hy (by omega) (by omega), es_stable k m (x % y) (y % (x % y)) (by omega) (by omega) (by rw [Nat.pow_succ] at hk; omega) (by omega)]
theorem rk_267 {a b : Int64} : sm_rk 267 [.long a, .long b] = sm_es 200 a b + 1 := rfl
theorem m_common : ∀ (n x y : Nat) (h : sm_H), y ≤ n → x < 2 ^ 63 → y < 2 ^ 63 → xc 267 [.long (lN x), .long (lN y)] h = some ([.long (lN (Nat.gcd x y))], h)
  | n, x, y, h, hn, hx, hy => by
    rw [en_267, b267_0]
    by_cases h0 : y = 0
    · subst h0
      rw [if_pos (by rw [lg_cmp_eq]; rfl), b267_6, b267_17, Nat.gcd_zero_right]
    · have hr := Nat.mod_lt x (show 0 < y by omega)
      obtain ⟨m, rfl⟩ : ∃ m, n = m + 1 := ⟨n - 1, by omega⟩
      have hrk : sm_rk 267 [.long (lN y), .long (lN x - lN x / lN y * lN y)] < sm_rk 267 [.long (lN x), .long (lN y)] := by
        rw [rk_267, rk_267, l_rem hx (by omega) hy, es_s (n := 199) hx hy (by omega), es_stable 63 199 y (x % y) hy (by omega) (by omega) (by decide)]
        omega
      rw [if_neg (by rw [lg_cmp_eq, show (0 : Int64) = lN 0 from rfl, l_eq hy (by decide)]; exact h0), b267_10 hrk, if_neg (by rw [l_z hy]; exact h0), l_rem hx (by omega) hy, m_common m y (x % y) h (by omega) hy (by omega), bnd]
      simp only [app1, List.cons_append, List.nil_append]
      rw [b267_17, Nat.gcd_comm y, ← Nat.gcd_rec, Nat.gcd_comm y]
theorem m_tens_loop {h : sm_H} : ∀ (m k : Nat), k + m = 12 → xe 1 266 4 [.int (nI 12), .long (lN (10 ^ k)), .null, .int (nI k)] [] h = some ([.long (lN (10 ^ 12))], h)
  | 0, k, e => by
    have : k = 12 := by omega
    subst this
    rw [b266_4, if_pos (Int32.le_refl _), b266_21]
  | m + 1, k, e => by
    rw [b266_4, if_neg (by rw [nI_leI (by omega) (by omega)]; omega), b266_9, nI_add, show (10 : Int64) = lN 10 from rfl, lN_mul, ← Nat.pow_succ]
    exact m_tens_loop m (k + 1) (by omega)
theorem m_tens {h : sm_H} : xc 266 [.int (nI 12)] h = some ([.long (lN (10 ^ 12))], h) := by
  rw [en_266, b266_0]
  exact m_tens_loop 12 0 rfl
def inB (w : List Nat) (r : Nat) : Bool := decide (r ∈ w)
theorem m_dry_set {h : sm_H} {w : List Nat} (hl : w.length ≤ 2420) (hg : ∀ j, j < w.length → sm_gi h 181 j = nI (w.getD j 0)) (h12 : ∀ r, r ∈ w → r < 12) : ∀ (m k b : Nat), k + m = w.length → b < 4096 → (∀ r, b / 2 ^ r % 2 = 1 ↔ ∃ i, i < k ∧ w.getD i 0 = r) → ∃ b', xe 2 268 4 [.ref 169, .int (nI w.length), .int (nI b), .int (nI k), .null, .null] [] h = xe 2 268 26 [.ref 169, .int (nI w.length), .int (nI b'), .int (nI w.length), .null, .null] [] h ∧ b' < 4096 ∧ ∀ r, b' / 2 ^ r % 2 = 1 ↔ r ∈ w
  | 0, k, b, e, hb, hf => by
    have : k = w.length := by omega
    subst this
    rw [b268_4, if_pos (Int32.le_refl _)]
    refine ⟨b, rfl, hb, fun r => ?_⟩
    rw [hf]
    constructor
    · rintro ⟨i, hi, rfl⟩
      rw [List.getD_eq_getElem?_getD, List.getElem?_eq_getElem hi]
      exact List.getElem_mem _
    · intro hr
      obtain ⟨i, hi, e⟩ := List.getElem_of_mem hr
      refine ⟨i, hi, ?_⟩
      rw [List.getD_eq_getElem?_getD, List.getElem?_eq_getElem hi]
      exact e
  | m + 1, k, b, e, hb, hf => by
    have hmem : w.getD k 0 ∈ w := by
      rw [List.getD_eq_getElem?_getD, List.getElem?_eq_getElem (by omega)]
      exact List.getElem_mem _
    have hr := h12 _ hmem
    rw [b268_4, if_neg (by rw [nI_leI (by omega) (by omega)]; omega), b268_9]
    simp (disch := omega) only [in_181, if_true, nI_clamp, hg]
    rw [shl1 (by omega), fa_or, nI_add]
    refine m_dry_set hl hg h12 m (k + 1) _ (by omega) (Nat.or_lt_two_pow (n := 12) hb (Nat.pow_lt_pow_right (by decide) hr)) (fun r => ?_)
    rw [or_bit, hf]
    constructor
    · rintro (⟨i, a, c⟩ | z)
      · exact ⟨i, by omega, c⟩
      · exact ⟨k, by omega, z.symm⟩
    · rintro ⟨i, a, c⟩
      by_cases z : i = k
      · subst z; exact Or.inr c.symm
      · exact Or.inl ⟨i, by omega, c⟩
section MDRY
variable {G : LG} {W : WG} {L : List WG} {B : Nat} {h : sm_H}
theorem m_dry_loop {w : List Nat} {b : Nat} {l1 : Int32} (S : mS h G W L B) (hb : b < 4096) (hbit : ∀ r, b / 2 ^ r % 2 = 1 ↔ r ∈ w) : ∀ (m k : Nat), k + m = gR G → xe 2 268 35 [.ref 169, .int l1, .int (nI b), .long (lN (dyV (inB w) (gFlo G) k)), .null, .int (nI k)] [] h = some ([.long (lN (dyV (inB w) (gFlo G) (gR G)))], h)
  | 0, k, e => by
    have : k = gR G := by omega
    subst this
    rw [b268_35]
    simp (disch := omega) only [in_170, if_true, nI_clamp, S.2.1.1.2.1]
    rw [if_pos (Int32.le_refl _), b268_83]
  | m + 1, k, e => by
    have hR := S.1.2.1
    have ih := m_dry_loop (l1 := l1) S hb hbit m (k + 1) (by omega)
    have hv := dyV_le (P := inB w) (fl := gFlo G) (k := k) (by omega)
    have hfl := (S.1.2.2.2.1 k (by omega)).2.2.2.2.2
    have hgf : sm_gi h 170 (58 + k) = nI (gFlo G k) := (S.2.1.2.1 k (by omega)).2.2.2.2
    rw [b268_35]
    simp (disch := omega) only [in_170, if_true, nI_clamp, S.2.1.1.2.1]
    rw [if_neg (by rw [nI_leI (by omega) (by omega)]; omega), b268_46, m_isIn (by omega) (by omega), bnd]
    simp only [app1, List.cons_append, List.nil_append]
    rw [b268_53]
    by_cases q : b / 2 ^ k % 2 = 1
    · rw [if_neg (by rw [bI_z]; exact fun z => z q), b268_56]
      simp (disch := omega) only [nI_add, in_170, if_true, nI_clamp, hgf]
      rw [pk_sub hfl, nI_l (by omega), show (10 : Int64) = lN 10 from rfl, l_div (by omega) (by decide) (by decide), lN_mul, dyV_step (by omega) (decide_eq_true ((hbit k).mp q)), b268_77, nI_add]
      exact ih
    · rw [if_pos (by rw [bI_z]; exact q), b268_77, nI_add]
      rw [dyV_same (fun z => q ((hbit k).mpr (of_decide_eq_true z)))] at ih
      exact ih
theorem m_dryOf {w : List Nat} (S : mS h G W L B) (hl : w.length ≤ 2420) (hg : ∀ j, j < w.length → sm_gi h 181 j = nI (w.getD j 0)) (hr : ∀ r, r ∈ w → r < gR G) : xc 268 [.ref 169, .int (nI w.length)] h = some ([.long (lN (dyV (inB w) (gFlo G) (gR G)))], h) := by
  have hR := S.1.2.1
  rw [en_268, b268_0]
  obtain ⟨b, e1, hb, hbit⟩ := m_dry_set hl hg (fun r z => by have := hr r z; omega) w.length 0 0 (by omega) (by decide) (fun r => by rw [Nat.zero_div]; exact iff_of_false (by decide) (fun ⟨i, hi, _⟩ => by omega))
  rw [e1, b268_26, m_tens, bnd]
  simp only [app1, List.cons_append, List.nil_append]
  rw [b268_31]
  have e2 := m_dry_loop (l1 := nI w.length) S hb hbit (gR G) 0 (by omega)
  rw [dyV_0] at e2
  exact e2
end MDRY
