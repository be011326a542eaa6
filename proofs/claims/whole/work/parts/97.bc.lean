/-! ===== Long.bitCount ===== -/
theorem and_dig (a c D e w : Nat) (hD : D = 2 ^ w) (hc : c < D) : a &&& (c + D * e) = (a % D &&& c) + D * (a / D &&& e) := by
  subst hD
  have h1 : (a &&& (c + 2 ^ w * e)) % 2 ^ w = a % 2 ^ w &&& c := by
    rw [Nat.and_mod_two_pow, Nat.add_mul_mod_self_left, Nat.mod_eq_of_lt hc]
  have h2 : (a &&& (c + 2 ^ w * e)) / 2 ^ w = a / 2 ^ w &&& e := by
    rw [Nat.and_div_two_pow, Nat.add_mul_div_left _ _ (Nat.two_pow_pos w), Nat.div_eq_of_lt hc, Nat.zero_add]
  have h3 := Nat.mod_add_div (a &&& (c + 2 ^ w * e)) (2 ^ w)
  rw [h1, h2] at h3
  exact h3.symm
theorem and_low (a k : Nat) : a &&& (2 ^ k - 1) = a % 2 ^ k := Nat.and_two_pow_sub_one_eq_mod a k
theorem pcnt_split (m a : Nat) : ∀ b, pcnt m (a + b) = pcnt (m % 2 ^ a) a + pcnt (m / 2 ^ a) b
  | 0 => by
    show pcnt m a = pcnt (m % 2 ^ a) a + 0
    rw [Nat.add_zero]
    have : ∀ k, k ≤ a → pcnt m k = pcnt (m % 2 ^ a) k := by
      intro k
      induction k with
      | zero => intro _; rfl
      | succ k ih =>
        intro hk
        show pcnt m k + m / 2 ^ k % 2 = pcnt (m % 2 ^ a) k + m % 2 ^ a / 2 ^ k % 2
        rw [ih (by omega)]
        have e : 2 ^ a = 2 ^ k * 2 ^ (a - k) := by rw [← Nat.pow_add]; exact congrArg (2 ^ ·) (by omega)
        rw [e, Nat.mod_mul_right_div_self]
        have e2 : 2 ^ (a - k) = 2 * 2 ^ (a - k - 1) := by rw [← Nat.pow_succ']; exact congrArg (2 ^ ·) (by omega)
        rw [e2, Nat.mod_mul_right_mod]
    exact this a (Nat.le_refl _)
  | b + 1 => by
    show pcnt m (a + b) + m / 2 ^ (a + b) % 2 = pcnt (m % 2 ^ a) a + (pcnt (m / 2 ^ a) b + m / 2 ^ a / 2 ^ b % 2)
    rw [pcnt_split m a b, Nat.pow_add, Nat.div_div_eq_div_mul, Nat.add_assoc]
/-- counts of ones, digit by digit -/
def hW (w : Nat) : Nat → Nat → Nat
  | 0, _ => 0
  | n + 1, m => pcnt (m % 2 ^ w) w + 2 ^ w * hW w n (m / 2 ^ w)
def mk1 : Nat → Nat
  | 0 => 0
  | n + 1 => 1 + 4 * mk1 n
def mk2 : Nat → Nat
  | 0 => 0
  | n + 1 => 3 + 16 * mk2 n
def mk3 : Nat → Nat
  | 0 => 0
  | n + 1 => 15 + 256 * mk3 n
theorem pc2 : ∀ m, m < 4 → pcnt m 2 = m % 2 + m / 2 := by decide
theorem pc4 : ∀ m, m < 16 → pcnt m 4 = pcnt (m % 4) 2 + pcnt (m / 4 % 4) 2 := by decide +kernel
theorem pc8 : ∀ m, m < 256 → pcnt m 8 = pcnt (m % 16) 4 + pcnt (m / 16 % 16) 4 := by decide +kernel
theorem st1 : ∀ n m, m < 4 ^ n → m = hW 2 n m + (m / 2 &&& mk1 n)
  | 0, m, h => by
    have : m = 0 := by omega
    subst this
    rfl
  | n + 1, m, h => by
    have ih := st1 n (m / 4) (by rw [Nat.pow_succ] at h; omega)
    show m = (pcnt (m % 4) 2 + 4 * hW 2 n (m / 4)) + (m / 2 &&& (1 + 4 * mk1 n))
    rw [and_dig (m / 2) 1 4 (mk1 n) 2 rfl (by decide), pc2 _ (Nat.mod_lt _ (by decide)), show (1 : Nat) = 2 ^ 1 - 1 from rfl, and_low, show m / 2 / 4 = m / 4 / 2 by omega]
    omega
theorem st2 : ∀ n m, (hW 2 (2 * n) m &&& mk2 n) + (hW 2 (2 * n) m / 4 &&& mk2 n) = hW 4 n m
  | 0, m => by
    show (hW 2 (2 * 0) m &&& 0) + (hW 2 (2 * 0) m / 4 &&& 0) = 0
    rw [Nat.and_zero, Nat.and_zero]
  | n + 1, m => by
    have ih := st2 n (m / 16)
    have e : hW 2 (2 * (n + 1)) m = pcnt (m % 4) 2 + 4 * (pcnt (m / 4 % 4) 2 + 4 * hW 2 (2 * n) (m / 4 / 4)) := rfl
    rw [show m / 4 / 4 = m / 16 by omega] at e
    have p0 := pcnt_le (m % 4) 2
    have p1 := pcnt_le (m / 4 % 4) 2
    have q := pc4 (m % 16) (Nat.mod_lt _ (by decide))
    rw [show m % 16 % 4 = m % 4 by omega, show m % 16 / 4 % 4 = m / 4 % 4 by omega] at q
    show (hW 2 (2 * (n + 1)) m &&& (3 + 16 * mk2 n)) + (hW 2 (2 * (n + 1)) m / 4 &&& (3 + 16 * mk2 n)) = pcnt (m % 16) 4 + 16 * hW 4 n (m / 16)
    rw [and_dig _ 3 16 (mk2 n) 4 rfl (by decide), and_dig _ 3 16 (mk2 n) 4 rfl (by decide), show (3 : Nat) = 2 ^ 2 - 1 from rfl, and_low, and_low, e]
    generalize hW 2 (2 * n) (m / 16) = x at *
    generalize pcnt (m % 4) 2 = a at *
    generalize pcnt (m / 4 % 4) 2 = b at *
    rw [show (a + 4 * (b + 4 * x)) / 16 = x by omega, show (a + 4 * (b + 4 * x)) / 4 / 16 = x / 4 by omega, show (a + 4 * (b + 4 * x)) % 16 % 2 ^ 2 = a by omega, show (a + 4 * (b + 4 * x)) / 4 % 16 % 2 ^ 2 = b by omega]
    omega
theorem hW4_mod (n m : Nat) : hW 4 n m % 16 ≤ 4 := by
  cases n with
  | zero => exact Nat.zero_le _
  | succ n =>
    have := pcnt_le (m % 16) 4
    show (pcnt (m % 16) 4 + 16 * hW 4 n (m / 16)) % 16 ≤ 4
    omega
theorem st3 : ∀ n m, (hW 4 (2 * n) m + hW 4 (2 * n) m / 16) &&& mk3 n = hW 8 n m
  | 0, m => by
    show _ &&& 0 = 0
    rw [Nat.and_zero]
  | n + 1, m => by
    have ih := st3 n (m / 256)
    have e : hW 4 (2 * (n + 1)) m = pcnt (m % 16) 4 + 16 * (pcnt (m / 16 % 16) 4 + 16 * hW 4 (2 * n) (m / 16 / 16)) := rfl
    rw [show m / 16 / 16 = m / 256 by omega] at e
    have p0 := pcnt_le (m % 16) 4
    have p1 := pcnt_le (m / 16 % 16) 4
    have hx := hW4_mod (2 * n) (m / 256)
    have q := pc8 (m % 256) (Nat.mod_lt _ (by decide))
    rw [show m % 256 % 16 = m % 16 by omega, show m % 256 / 16 % 16 = m / 16 % 16 by omega] at q
    show (hW 4 (2 * (n + 1)) m + hW 4 (2 * (n + 1)) m / 16) &&& (15 + 256 * mk3 n) = pcnt (m % 256) 8 + 256 * hW 8 n (m / 256)
    rw [and_dig _ 15 256 (mk3 n) 8 rfl (by decide), show (15 : Nat) = 2 ^ 4 - 1 from rfl, and_low, e]
    generalize hW 4 (2 * n) (m / 256) = x at *
    generalize pcnt (m % 16) 4 = a at *
    generalize pcnt (m / 16 % 16) 4 = b at *
    rw [show (a + 16 * (b + 16 * x) + (a + 16 * (b + 16 * x)) / 16) / 256 = x + x / 16 by omega, ih, show (a + 16 * (b + 16 * x) + (a + 16 * (b + 16 * x)) / 16) % 256 % 2 ^ 4 = a + b by omega]
    omega
theorem dv1 {a b : Nat} (h : a < 256) : (a + 256 * b) / 256 = b := by omega
theorem dv2 {a b c : Nat} (h : a < 256) (h2 : b < 256) : (a + 256 * (b + 256 * c)) / 65536 = c := by omega
theorem dv4 {a b c d e : Nat} (h : a < 256) (h2 : b < 256) (h3 : c < 256) (h4 : d < 256) : (a + 256 * (b + 256 * (c + 256 * (d + 256 * e)))) / 4294967296 = e := by
  rw [show (4294967296 : Nat) = 65536 * 65536 from rfl, ← Nat.div_div_eq_div_mul, dv2 h h2, dv2 h3 h4]
theorem lin2 (b0 b1 b2 b3 b4 b5 b6 b7 : Nat) : b0 + 256 * (b1 + 256 * (b2 + 256 * (b3 + 256 * (b4 + 256 * (b5 + 256 * (b6 + 256 * b7)))))) + (b1 + 256 * (b2 + 256 * (b3 + 256 * (b4 + 256 * (b5 + 256 * (b6 + 256 * b7)))))) = (b0 + b1) + 256 * ((b1 + b2) + 256 * ((b2 + b3) + 256 * ((b3 + b4) + 256 * ((b4 + b5) + 256 * ((b5 + b6) + 256 * ((b6 + b7) + 256 * b7)))))) := by omega
theorem lin3 (c0 c1 c2 c3 c4 c5 c6 c7 : Nat) : c0 + 256 * (c1 + 256 * (c2 + 256 * (c3 + 256 * (c4 + 256 * (c5 + 256 * (c6 + 256 * c7)))))) + (c2 + 256 * (c3 + 256 * (c4 + 256 * (c5 + 256 * (c6 + 256 * c7))))) = (c0 + c2) + 256 * ((c1 + c3) + 256 * ((c2 + c4) + 256 * ((c3 + c5) + 256 * ((c4 + c6) + 256 * ((c5 + c7) + 256 * (c6 + 256 * c7)))))) := by omega
theorem bd8 {c0 c1 c2 c3 c4 c5 c6 c7 : Nat} (h0 : c0 ≤ 32) (h1 : c1 ≤ 32) (h2 : c2 ≤ 32) (h3 : c3 ≤ 32) (h4 : c4 ≤ 32) (h5 : c5 ≤ 32) (h6 : c6 ≤ 32) (h7 : c7 ≤ 32) : c0 + 256 * (c1 + 256 * (c2 + 256 * (c3 + 256 * (c4 + 256 * (c5 + 256 * (c6 + 256 * c7)))))) < 2 ^ 64 := by omega
theorem md1 {a b x y : Nat} (h : a + b < 128) : (a + 256 * x + (b + 256 * y)) % 128 = a + b := by omega
theorem st6 {b0 b1 b2 b3 b4 b5 b6 b7 x : Nat} (h0 : b0 ≤ 8) (h1 : b1 ≤ 8) (h2 : b2 ≤ 8) (h3 : b3 ≤ 8) (h4 : b4 ≤ 8) (h5 : b5 ≤ 8) (h6 : b6 ≤ 8) (h7 : b7 ≤ 8) (hx : x = b0 + 256 * (b1 + 256 * (b2 + 256 * (b3 + 256 * (b4 + 256 * (b5 + 256 * (b6 + 256 * b7))))))) :
    x < 2 ^ 64 ∧ x + x / 256 < 2 ^ 64 ∧ x + x / 256 + (x + x / 256) / 65536 < 2 ^ 64 ∧ (x + x / 256 + (x + x / 256) / 65536 + (x + x / 256 + (x + x / 256) / 65536) / 4294967296) % 128 = b0 + b1 + b2 + b3 + (b4 + b5 + b6 + b7) := by
  have e2 : x + x / 256 = (b0 + b1) + 256 * ((b1 + b2) + 256 * ((b2 + b3) + 256 * ((b3 + b4) + 256 * ((b4 + b5) + 256 * ((b5 + b6) + 256 * ((b6 + b7) + 256 * b7)))))) := by
    rw [hx, dv1 (Nat.lt_of_le_of_lt h0 (by decide)), lin2]
  have s01 : b0 + b1 ≤ 16 := Nat.add_le_add h0 h1
  have s12 : b1 + b2 ≤ 16 := Nat.add_le_add h1 h2
  have s23 : b2 + b3 ≤ 16 := Nat.add_le_add h2 h3
  have s34 : b3 + b4 ≤ 16 := Nat.add_le_add h3 h4
  have s45 : b4 + b5 ≤ 16 := Nat.add_le_add h4 h5
  have s56 : b5 + b6 ≤ 16 := Nat.add_le_add h5 h6
  have s67 : b6 + b7 ≤ 16 := Nat.add_le_add h6 h7
  have u : ∀ {a b : Nat}, a ≤ 16 → b ≤ 16 → a + b ≤ 32 := fun p q => Nat.add_le_add p q
  have k16 : ∀ {a : Nat}, a ≤ 16 → a ≤ 32 := fun p => Nat.le_trans p (by decide)
  have k8 : ∀ {a : Nat}, a ≤ 8 → a ≤ 32 := fun p => Nat.le_trans p (by decide)
  have k8' : ∀ {a : Nat}, a ≤ 8 → a ≤ 16 := fun p => Nat.le_trans p (by decide)
  have l256 : ∀ {a : Nat}, a ≤ 32 → a < 256 := fun p => Nat.lt_of_le_of_lt p (by decide)
  refine ⟨by rw [hx]; exact bd8 (k8 h0) (k8 h1) (k8 h2) (k8 h3) (k8 h4) (k8 h5) (k8 h6) (k8 h7), ?_⟩
  rw [e2]
  refine ⟨bd8 (k16 s01) (k16 s12) (k16 s23) (k16 s34) (k16 s45) (k16 s56) (k16 s67) (k8 h7), ?_⟩
  rw [dv2 (l256 (k16 s01)) (l256 (k16 s12)), lin3]
  refine ⟨bd8 (u s01 s23) (u s12 s34) (u s23 s45) (u s34 s56) (u s45 s67) (u s56 (k8' h7)) (k16 s67) (k8 h7), ?_⟩
  rw [dv4 (l256 (u s01 s23)) (l256 (u s12 s34)) (l256 (u s23 s45)) (l256 (u s34 s56)), md1 (Nat.lt_of_le_of_lt (Nat.add_le_add (u s01 s23) (u s45 s67)) (by decide))]
  rw [← Nat.add_assoc (b0 + b1) b2 b3, ← Nat.add_assoc (b4 + b5) b6 b7]
