/-! ===== common: the class ===== -/
theorem bsN_z {f : Nat → Bool} {n : Nat} (h : bsN f n = 0) : ∀ k, k < n → f k = false := fun k hk => by
  have := bsN_bit f n k hk
  rw [h, Nat.zero_div] at this
  cases hf : f k with
  | false => rfl
  | true => rw [hf] at this; exact absurd this (by decide)
theorem srF_no {f : Nat → Bool} : ∀ n, (∀ k, k < n → f k = false) → srF f n = none
  | 0, _ => rfl
  | n + 1, h => by
    rw [srF_succ, if_neg (by rw [h n (by omega)]; decide)]
    exact srF_no n (fun k hk => h k (by omega))
theorem srF_yes {f : Nat → Bool} : ∀ n, srF f n = none → ∀ k, k < n → f k = false
  | 0, _, k, hk => absurd hk (by omega)
  | n + 1, h, k, hk => by
    rw [srF_succ] at h
    cases hf : f n with
    | true =>
      rw [hf, if_pos rfl] at h
      cases hm : srF f n with
      | none => rw [hm] at h; cases h
      | some x => rw [hm] at h; cases h
    | false =>
      rw [hf, if_neg (by decide)] at h
      by_cases z : k = n
      · rw [z]; exact hf
      · exact srF_yes n h k (by omega)
theorem bsN_0 {f : Nat → Bool} : ∀ n, (∀ k, k < n → f k = false) → bsN f n = 0
  | 0, _ => rfl
  | n + 1, h => by
    rw [bsN_step, if_neg (by rw [h n (by omega)]; decide)]
    exact bsN_0 n (fun k hk => h k (by omega))
section CCM
variable {G : LG} {h : sm_H} {f : Nat → Bool}
/-- where the class stands after k sets -/
def cmV (N : Nat) (z : Bool) : Option Nat → Int32
  | none => if z = true then nI 0 else nI (2 ^ N - 1)
  | some x => nI x
theorem c_common_loop {z : Bool} (hE : cE h G) (hs : sm_gl h 124 3 = lN (bsN f (2 ^ gN G))) (hz : z = true → ∀ k, k < 2 ^ gN G → f k = false) : ∀ (m k : Nat), k + m = 2 ^ gN G → xe 1 4 27 [.ref 124, .int (cmV (gN G) z (srF f k)), .int (nI k)] [] h = some ([.int (cmV (gN G) z (srF f (2 ^ gN G)))], h)
  | 0, k, e => by
    have hN := hE.1.1.2
    have : k = 2 ^ gN G := by omega
    subst this
    rw [b4_27, show sm_gi h 2 0 = nI (gN G) from hE.2.2.1.1.1, shl1 (by omega), if_pos (Int32.le_refl _), b4_63]
  | m + 1, k, e => by
    have hN := hE.1.1.2
    have h64 := pow6 hN
    have ih := c_common_loop hE hs hz m (k + 1) (by omega)
    rw [srF_succ] at ih
    rw [b4_27, show sm_gi h 2 0 = nI (gN G) from hE.2.2.1.1.1, shl1 (by omega), if_neg (by rw [nI_leI (by omega) (by omega)]; omega), b4_40, hs, bitL (by omega), bsN_bit f (2 ^ gN G) k (by omega)]
    cases hf : f k with
    | true =>
      have hzf : ¬ z = true := fun y => by rw [hz y k (by omega)] at hf; cases hf
      rw [hf, if_pos rfl] at ih
      rw [if_pos rfl, if_pos (by rw [lg_cmp_eq]; rfl), b4_53, b4_57, nI_add]
      cases hm : srF f k with
      | none =>
        rw [hm] at ih
        rw [show cmV (gN G) z none = nI (2 ^ gN G - 1) from if_neg hzf, fa_and, Nat.and_comm, Nat.and_two_pow_sub_one_eq_mod, Nat.mod_eq_of_lt (by omega)]
        exact ih
      | some x =>
        rw [hm] at ih
        rw [show cmV (gN G) z (some x) = nI x from rfl, fa_and]
        exact ih
    | false =>
      rw [hf, if_neg (by decide)] at ih
      rw [if_neg (by decide), b4_57, nI_add]
      exact ih
theorem c_common (hE : cE h G) (hs : sm_gl h 124 3 = lN (bsN f (2 ^ gN G))) : xc 4 [.ref 124] h = some ([.int (sr0 (srF f (2 ^ gN G)))], h) := by
  have hN := hE.1.1.2
  have h64 := pow6 hN
  have hb := bsN_lt f (2 ^ gN G)
  have hb64 : bsN f (2 ^ gN G) < 2 ^ 64 := Nat.lt_of_lt_of_le hb (Nat.pow_le_pow_right (by decide) h64)
  have hz : lN (bsN f (2 ^ gN G)) = 0 ↔ bsN f (2 ^ gN G) = 0 := by
    constructor
    · intro z
      have := lN_nat hb64
      rw [z] at this
      exact this.symm
    · intro z
      rw [z]; rfl
  rw [en_4, b4_0, hs]
  by_cases z : bsN f (2 ^ gN G) = 0
  · rw [if_pos (by rw [lg_cmp_eq]; exact hz.mpr z), b4_9, b4_24]
    have := c_common_loop (z := true) hE hs (fun _ => bsN_z z) (2 ^ gN G) 0 (by omega)
    rw [srF_no _ (bsN_z z)] at this ⊢
    exact this
  · rw [if_neg (by rw [lg_cmp_eq]; exact fun y => z (hz.mp y)), b4_13, show sm_gi h 2 0 = nI (gN G) from hE.2.2.1.1.1, shl1 (by omega), sub1 (Nat.two_pow_pos _), b4_24]
    have := c_common_loop (z := false) hE hs (fun y => by cases y) (2 ^ gN G) 0 (by omega)
    cases hm : srF f (2 ^ gN G) with
    | none => exact absurd (bsN_0 _ (srF_yes _ hm)) z
    | some x =>
      rw [hm] at this
      exact this
end CCM
