/-! ===== Long.bitCount, the method; bits of a long ===== -/
theorem lN_and (a b : Nat) : lN a &&& lN b = lN (a &&& b) := by
  apply Int64.toBitVec_inj.mp
  apply BitVec.eq_of_toNat_eq
  show (BitVec.ofNat 64 a &&& BitVec.ofNat 64 b).toNat = (BitVec.ofNat 64 (a &&& b)).toNat
  rw [BitVec.toNat_and, BitVec.toNat_ofNat, BitVec.toNat_ofNat, BitVec.toNat_ofNat, Nat.and_mod_two_pow]
theorem lus_lN {m k : Nat} (hm : m < 2 ^ 64) (hk : k = 1 ∨ k = 2 ∨ k = 4 ∨ k = 8 ∨ k = 16 ∨ k = 32) : sm_lus (lN m) (nI k) = lN (m / 2 ^ k) := by
  have hc : ((nI k).toInt64.toUInt64 &&& Int64.toUInt64 63).toNat % 64 = k := by rcases hk with rfl | rfl | rfl | rfl | rfl | rfl <;> decide
  apply Int64.toBitVec_inj.mp
  apply BitVec.eq_of_toNat_eq
  show ((lN m).toUInt64 >>> ((nI k).toInt64.toUInt64 &&& Int64.toUInt64 63)).toNat = (lN (m / 2 ^ k)).toBitVec.toNat
  rw [UInt64.toNat_shiftRight, hc, show (lN m).toUInt64.toNat = m from lN_nat hm, lN_nat (Nat.lt_of_le_of_lt (Nat.div_le_self _ _) hm), Nat.shiftRight_eq_div_pow]
theorem hW_lt {w : Nat} : ∀ n m, hW w n m < (2 ^ w) ^ n
  | 0, m => Nat.zero_lt_one
  | n + 1, m => by
    have ih := hW_lt (w := w) n (m / 2 ^ w)
    have h1 := pcnt_le (m % 2 ^ w) w
    have h2 : w < 2 ^ w := Nat.lt_two_pow_self
    show pcnt (m % 2 ^ w) w + 2 ^ w * hW w n (m / 2 ^ w) < (2 ^ w) ^ (n + 1)
    have h3 : 2 ^ w * (hW w n (m / 2 ^ w) + 1) ≤ 2 ^ w * (2 ^ w) ^ n := Nat.mul_le_mul_left _ ih
    rw [Nat.pow_succ, Nat.mul_comm ((2 ^ w) ^ n)]
    rw [Nat.mul_add, Nat.mul_one] at h3
    omega
def bl1 (x : Int64) : Int64 := x - (sm_lus x (nI 1) &&& 6148914691236517205)
def bl2 (x : Int64) : Int64 := (x &&& 3689348814741910323) + (sm_lus x (nI 2) &&& 3689348814741910323)
def bl3 (x : Int64) : Int64 := (x + sm_lus x (nI 4)) &&& 1085102592571150095
def bl4 (x : Int64) : Int64 := x + sm_lus x (nI 8)
def bl5 (x : Int64) : Int64 := x + sm_lus x (nI 16)
def bl6 (x : Int64) : Int64 := x + sm_lus x (nI 32)
theorem mk1_c : (6148914691236517205 : Int64) = lN (mk1 32) := by decide +kernel
theorem mk2_c : (3689348814741910323 : Int64) = lN (mk2 16) := by decide +kernel
theorem mk3_c : (1085102592571150095 : Int64) = lN (mk3 8) := by decide +kernel
theorem bl_r1 {m : Nat} (hm : m < 2 ^ 64) (s1 : m = hW 2 32 m + (m / 2 &&& mk1 32)) : bl1 (lN m) = lN (hW 2 32 m) := by
  unfold bl1
  rw [lus_lN hm (Or.inl rfl), mk1_c, lN_and, Nat.pow_one, lN_sub (Nat.le_trans (Nat.le_add_left _ _) (Nat.le_of_eq s1.symm))]
  exact congrArg lN (Nat.sub_eq_of_eq_add s1)
theorem bl_r2 {m : Nat} (b1 : hW 2 32 m < 2 ^ 64) : bl2 (lN (hW 2 32 m)) = lN (hW 4 16 m) := by
  have s := st2 16 m
  rw [show 2 * 16 = 32 from rfl] at s
  unfold bl2
  rw [lus_lN b1 (Or.inr (Or.inl rfl)), mk2_c, lN_and, lN_and, lN_add, show (2 : Nat) ^ 2 = 4 from rfl, s]
theorem bl_r3 {m : Nat} (b2 : hW 4 16 m < 2 ^ 64) : bl3 (lN (hW 4 16 m)) = lN (hW 8 8 m) := by
  have s := st3 8 m
  rw [show 2 * 8 = 16 from rfl] at s
  unfold bl3
  rw [lus_lN b2 (Or.inr (Or.inr (Or.inl rfl))), mk3_c, lN_add, lN_and, show (2 : Nat) ^ 4 = 16 from rfl, s]
theorem bl_r4 {x : Nat} (c : x < 2 ^ 64) : bl4 (lN x) = lN (x + x / 256) := by
  unfold bl4
  rw [lus_lN c (Or.inr (Or.inr (Or.inr (Or.inl rfl)))), lN_add, show (2 : Nat) ^ 8 = 256 from rfl]
theorem bl_r5 {x : Nat} (c : x < 2 ^ 64) : bl5 (lN x) = lN (x + x / 65536) := by
  unfold bl5
  rw [lus_lN c (Or.inr (Or.inr (Or.inr (Or.inr (Or.inl rfl))))), lN_add, show (2 : Nat) ^ 16 = 65536 from rfl]
theorem bl_r6 {x : Nat} (c : x < 2 ^ 64) : bl6 (lN x) = lN (x + x / 4294967296) := by
  unfold bl6
  rw [lus_lN c (Or.inr (Or.inr (Or.inr (Or.inr (Or.inr rfl))))), lN_add, show (2 : Nat) ^ 32 = 4294967296 from rfl]
def by8 (m : Nat) : Nat → Nat
  | 0 => m
  | i + 1 => by8 m i / 2 ^ 8
theorem hW_s {w n m : Nat} : hW w (n + 1) m = pcnt (m % 2 ^ w) w + 2 ^ w * hW w n (m / 2 ^ w) := rfl
theorem hW_8 (m : Nat) : hW 8 8 m = pcnt (by8 m 0 % 2 ^ 8) 8 + 256 * (pcnt (by8 m 1 % 2 ^ 8) 8 + 256 * (pcnt (by8 m 2 % 2 ^ 8) 8 + 256 * (pcnt (by8 m 3 % 2 ^ 8) 8 + 256 * (pcnt (by8 m 4 % 2 ^ 8) 8 + 256 * (pcnt (by8 m 5 % 2 ^ 8) 8 + 256 * (pcnt (by8 m 6 % 2 ^ 8) 8 + 256 * pcnt (by8 m 7 % 2 ^ 8) 8)))))) := by
  rw [hW_s, hW_s, hW_s, hW_s, hW_s, hW_s, hW_s, hW_s, show ∀ x, hW 8 0 x = 0 from fun _ => rfl, Nat.mul_zero, Nat.add_zero, show (2 : Nat) ^ 8 = 256 from rfl]
  rfl
theorem pc64 (m : Nat) : pcnt m 64 = pcnt (by8 m 0 % 2 ^ 8) 8 + pcnt (by8 m 1 % 2 ^ 8) 8 + pcnt (by8 m 2 % 2 ^ 8) 8 + pcnt (by8 m 3 % 2 ^ 8) 8 + (pcnt (by8 m 4 % 2 ^ 8) 8 + pcnt (by8 m 5 % 2 ^ 8) 8 + pcnt (by8 m 6 % 2 ^ 8) 8 + pcnt (by8 m 7 % 2 ^ 8) 8) := by
  have q : ∀ i b, pcnt (by8 m i) (8 + b) = pcnt (by8 m i % 2 ^ 8) 8 + pcnt (by8 m (i + 1)) b := fun i b => pcnt_split (by8 m i) 8 b
  have q0 : pcnt m 64 = pcnt (by8 m 0 % 2 ^ 8) 8 + pcnt (by8 m 1) 56 := q 0 56
  have q1 : pcnt (by8 m 1) 56 = pcnt (by8 m 1 % 2 ^ 8) 8 + pcnt (by8 m 2) 48 := q 1 48
  have q2 : pcnt (by8 m 2) 48 = pcnt (by8 m 2 % 2 ^ 8) 8 + pcnt (by8 m 3) 40 := q 2 40
  have q3 : pcnt (by8 m 3) 40 = pcnt (by8 m 3 % 2 ^ 8) 8 + pcnt (by8 m 4) 32 := q 3 32
  have q4 : pcnt (by8 m 4) 32 = pcnt (by8 m 4 % 2 ^ 8) 8 + pcnt (by8 m 5) 24 := q 4 24
  have q5 : pcnt (by8 m 5) 24 = pcnt (by8 m 5 % 2 ^ 8) 8 + pcnt (by8 m 6) 16 := q 5 16
  have q6 : pcnt (by8 m 6) 16 = pcnt (by8 m 6 % 2 ^ 8) 8 + pcnt (by8 m 7) 8 := q 6 8
  have q7 : pcnt (by8 m 7) 8 = pcnt (by8 m 7 % 2 ^ 8) 8 + pcnt (by8 m 8) 0 := q 7 0
  rw [show ∀ x, pcnt x 0 = 0 from fun _ => rfl] at q7
  omega
theorem bl_all {m : Nat} (hm : m < 2 ^ 64) : (bl6 (bl5 (bl4 (bl3 (bl2 (bl1 (lN m))))))).toInt32 &&& nI 127 = nI (pcnt m 64) := by
  have s1 := st1 32 m (by rw [show (4 : Nat) ^ 32 = 2 ^ 64 from rfl]; exact hm)
  have b1 : hW 2 32 m < 2 ^ 64 := Nat.lt_of_le_of_lt (Nat.le_trans (Nat.le_add_right _ _) (Nat.le_of_eq s1.symm)) hm
  have b2 : hW 4 16 m < 2 ^ 64 := by
    have := hW_lt (w := 4) 16 m
    rw [← Nat.pow_mul] at this
    exact this
  rw [bl_r1 hm s1, bl_r2 b1, bl_r3 b2]
  have e := hW_8 m
  have p := pc64 m
  generalize hW 8 8 m = x at *
  obtain ⟨c0, c1, c2, c3⟩ := st6 (pcnt_le (by8 m 0 % 2 ^ 8) 8) (pcnt_le (by8 m 1 % 2 ^ 8) 8) (pcnt_le (by8 m 2 % 2 ^ 8) 8) (pcnt_le (by8 m 3 % 2 ^ 8) 8) (pcnt_le (by8 m 4 % 2 ^ 8) 8) (pcnt_le (by8 m 5 % 2 ^ 8) 8) (pcnt_le (by8 m 6 % 2 ^ 8) 8) (pcnt_le (by8 m 7 % 2 ^ 8) 8) e
  rw [bl_r4 c0, bl_r5 c1, bl_r6 c2, lN_i, fa_and, show (127 : Nat) = 2 ^ 7 - 1 from rfl, and_low, show (2 : Nat) ^ 7 = 128 from rfl, c3, p]
theorem c_bitCountL {m : Nat} {h : sm_H} (hm : m < 2 ^ 64) : xc 281 [.long (lN m)] h = some ([.int (nI (pcnt m 64))], h) := by
  rw [en_281, b281_0, ← bl_all hm]
  rfl
