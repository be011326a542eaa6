/-! ===== the class: land's small methods ===== -/
def bc1 (x : Int32) : Int32 := x - (((x.toUInt32 >>> ((nI 1).toUInt32 &&& Int32.toUInt32 31)).toInt32) &&& nI 1431655765)
def bc2 (x : Int32) : Int32 := (x &&& nI 858993459) + (((x.toUInt32 >>> ((nI 2).toUInt32 &&& Int32.toUInt32 31)).toInt32) &&& nI 858993459)
def bc3 (x : Int32) : Int32 := (x + ((x.toUInt32 >>> ((nI 4).toUInt32 &&& Int32.toUInt32 31)).toInt32)) &&& nI 252645135
def bc4 (x : Int32) : Int32 := x + ((x.toUInt32 >>> ((nI 8).toUInt32 &&& Int32.toUInt32 31)).toInt32)
def bc5 (x : Int32) : Int32 := x + ((x.toUInt32 >>> ((nI 16).toUInt32 &&& Int32.toUInt32 31)).toInt32)
theorem bc_all : ∀ a, a < 64 → ∀ b, b < 64 → (bc5 (bc4 (bc3 (bc2 (bc1 (nI (64 * a + b)))))) &&& nI 63) = nI (pcnt (64 * a + b) 12) := by decide +kernel
theorem c_bitCount {n : Nat} {h : sm_H} (hn : n < 4096) : xc 280 [.int (nI n)] h = some ([.int (nI (pcnt n 12))], h) := by
  rw [en_280, b280_0]
  have := bc_all (n / 64) (by omega) (n % 64) (by omega)
  rw [show 64 * (n / 64) + n % 64 = n by omega] at this
  rw [← this]
  rfl
/-- a set of roads as a number -/
def bsN (f : Nat → Bool) : Nat → Nat
  | 0 => 0
  | k + 1 => bsN f k + (if f k = true then 2 ^ k else 0)
theorem bsN_lt (f : Nat → Bool) : ∀ k, bsN f k < 2 ^ k
  | 0 => Nat.zero_lt_one
  | k + 1 => by
    have := bsN_lt f k
    unfold bsN
    rw [Nat.pow_succ]
    split <;> omega
theorem bsN_bit (f : Nat → Bool) : ∀ (k r : Nat), r < k → bsN f k / 2 ^ r % 2 = if f r = true then 1 else 0
  | 0, r, h => by omega
  | k + 1, r, h => by
    have hl := bsN_lt f k
    have hp : 0 < 2 ^ k := Nat.two_pow_pos k
    by_cases z : r = k
    · subst z
      unfold bsN
      by_cases q : f r = true
      · rw [if_pos q, if_pos q, Nat.add_div_right _ hp, Nat.div_eq_of_lt hl]
      · rw [if_neg q, if_neg q, Nat.add_zero, Nat.div_eq_of_lt hl]
    · have ih := bsN_bit f k r (by omega)
      rw [← ih, show bsN f (k + 1) = bsN f k + (if f k = true then 2 ^ k else 0) from rfl]
      by_cases q : f k = true
      · rw [if_pos q]
        obtain ⟨m, hm⟩ : ∃ m, 2 ^ k = 2 ^ r * (2 * m) := ⟨2 ^ (k - r - 1), by rw [← Nat.pow_succ', ← Nat.pow_add]; congr 1; omega⟩
        rw [hm, Nat.add_mul_div_left _ _ (Nat.two_pow_pos r)]
        omega
      · rw [if_neg q, Nat.add_zero]
def gBs (G : LG) : Nat := bsN (gBri G) (gR G)
theorem gBs_lt {G : LG} (hw : wfG G) : gBs G < 4096 := Nat.lt_of_lt_of_le (bsN_lt _ _) (Nat.pow_le_pow_right (n := 2) (by decide) hw.2.1)
/-- codes as the class numbers them -/
def phi (c : Nat) : Nat := if c < 3000 then c else [1106, 1107, 1108, 1103, 1104, 1105, 1100, 1101, 1102].getD (c - 3000) 0
def cLaw (h : sm_H) (q : Nat) : Option (List Nat) → Prop
  | none => sm_gi h q 2 = nI 0
  | some cs => sm_gi h q 2 = nI cs.length ∧ cs ≠ [] ∧ cs.length ≤ 900 ∧ ∀ k, k < cs.length → sm_gi h (q + 1) k = nI (phi (cs.getD k 0))
/-- the land in the class's cells, at o -/
def cG (h : sm_H) (o : Nat) (G : LG) : Prop := (sm_gi h o 0 = nI (gN G) ∧ sm_gi h o 2 = nI (gR G) ∧ sm_gi h o 3 = nI (gP G) ∧ sm_gi h o 4 = nI (gBs G)) ∧ (∀ r, r < gR G → sm_gi h (o + 1) r = nI (gOne G r) ∧ sm_gi h (o + 2) r = nI (gOth G r) ∧ sm_gi h (o + 3) r = nI (gLon G r) ∧ sm_gi h (o + 4) r = nI (gFlo G r)) ∧ (∀ p, p < gP G → sm_gi h (o + 6) p = nI (gBor G p) ∧ sm_gi h (o + 8) p = toI (gGol G p) ∧ sm_gi h (o + 9) p = gBy G p) ∧ cLaw h (o + 10) (gLet G) ∧ cLaw h (o + 13) (gTol G)
theorem isN_i32 {p : Int32} {P : Nat} (hP : P < 2 ^ 30) : (0 ≤ p ∧ p < nI P) ↔ isN p.toInt64 P := by
  unfold isN
  rw [Int32.toInt_toInt64, Int32.le_iff_toInt_le, Int32.lt_iff_toInt_lt, nI_toInt (by omega)]
  rfl
theorem c_hasPerson {o P : Nat} {p : Int32} {h : sm_H} (ho : sm_isD o) (hp : sm_gi h o 3 = nI P) (hP : P < 2 ^ 30) : xc 33 [.ref o, .int p] h = some ([.int (bI (isN p.toInt64 P))], h) := by
  rw [en_33]
  simp only [b33_0, b33_4 ho, b33_12, b33_16, b33_17, or01_0, or01_1, if_true, hp]
  rw [← bI_congr (isN_i32 hP)]
  unfold bI
  by_cases h1 : p < 0
  · rw [if_pos h1, if_neg (fun z => absurd z.1 (Int32.not_le.mpr h1))]
  · rw [if_neg h1]
    by_cases h2 : nI P ≤ p
    · rw [if_pos h2, if_neg (fun z => absurd z.2 (Int32.not_lt.mpr h2))]
    · rw [if_neg h2, if_pos ⟨Int32.not_lt.mp h1, Int32.not_le.mp h2⟩]
theorem c_hasRoad {o P : Nat} {p : Int32} {h : sm_H} (ho : sm_isD o) (hp : sm_gi h o 2 = nI P) (hP : P < 2 ^ 30) : xc 34 [.ref o, .int p] h = some ([.int (bI (isN p.toInt64 P))], h) := by
  rw [en_34]
  simp only [b34_0, b34_4 ho, b34_12, b34_16, b34_17, or01_0, or01_1, if_true, hp]
  rw [← bI_congr (isN_i32 hP)]
  unfold bI
  by_cases h1 : p < 0
  · rw [if_pos h1, if_neg (fun z => absurd z.1 (Int32.not_le.mpr h1))]
  · rw [if_neg h1]
    by_cases h2 : nI P ≤ p
    · rw [if_pos h2, if_neg (fun z => absurd z.2 (Int32.not_lt.mpr h2))]
    · rw [if_neg h2, if_pos ⟨Int32.not_lt.mp h1, Int32.not_le.mp h2⟩]
theorem c_hasPlace {o P : Nat} {p : Int32} {h : sm_H} (ho : sm_isD o) (hp : sm_gi h o 0 = nI P) (hP : P < 2 ^ 30) : xc 35 [.ref o, .int p] h = some ([.int (bI (isN p.toInt64 P))], h) := by
  rw [en_35]
  simp only [b35_0, b35_4 ho, b35_12, b35_16, b35_17, or01_0, or01_1, if_true, hp]
  rw [← bI_congr (isN_i32 hP)]
  unfold bI
  by_cases h1 : p < 0
  · rw [if_pos h1, if_neg (fun z => absurd z.1 (Int32.not_le.mpr h1))]
  · rw [if_neg h1]
    by_cases h2 : nI P ≤ p
    · rw [if_pos h2, if_neg (fun z => absurd z.2 (Int32.not_lt.mpr h2))]
    · rw [if_neg h2, if_pos ⟨Int32.not_lt.mp h1, Int32.not_le.mp h2⟩]
theorem c_isBridge {o r : Nat} {G : LG} {h : sm_H} (ho : sm_isD o) (hG : cG h o G) (hw : wfG G) (hr : r < gR G) : xc 36 [.ref o, .int (nI r)] h = some ([.int (bI (gBri G r = true))], h) := by
  have hR := hw.2.1
  have hb := gBs_lt hw
  rw [en_36]
  simp only [b36_0 ho, b36_12, b36_16, b36_17, or01_0, or01_1, if_true, hG.1.2.2.2]
  rw [shr1 (by omega) (by omega), show gBs G / 2 ^ r % 2 = if gBri G r = true then 1 else 0 from bsN_bit _ _ _ hr]
  unfold bI
  by_cases q : gBri G r = true
  · rw [if_pos q, if_pos q, if_pos rfl]
  · rw [if_neg q, if_neg q, if_neg (by decide +kernel)]
theorem c_across {o r f : Nat} {G : LG} {h : sm_H} (ho : sm_isD o) (hG : cG h o G) (hw : wfG G) (hr : r < gR G) (hf : f < 2 ^ 31) : xc 38 [.ref o, .int (nI r), .int (nI f)] h = some ([.int (toI (toF G r f))], h) := by
  have hR := hw.2.1
  have hN := hw.1.2
  have hv := hw.2.2.2.1 r hr
  have hg := hG.2.1 r hr
  have i1 : sm_in (o + 1) (nI r) ↔ True := iff_true_intro ((in_nI (by omega)).mpr (by rw [ho.ln1]; omega))
  have i2 : sm_in (o + 2) (nI r) ↔ True := iff_true_intro ((in_nI (by omega)).mpr (by rw [ho.ln2]; omega))
  rw [en_38]
  simp (disch := omega) only [b38_0 ho, b38_10 ho, b38_17 ho, b38_27 ho, b38_36, b38_37, i1, i2, if_true, nI_clamp, hg.1, hg.2.1]
  unfold toF
  by_cases q : gOne G r = f
  · rw [if_pos (by rw [q]), if_pos q]; rfl
  · rw [if_neg (by rw [nI_eq (by omega) hf]; exact q), if_neg q]
    by_cases q2 : gOth G r = f
    · rw [if_pos (by rw [q2]), if_pos q2]; rfl
    · rw [if_neg (by rw [nI_eq (by omega) hf]; exact q2), if_neg q2]; rfl
