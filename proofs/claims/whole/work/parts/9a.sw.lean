/-! ===== where it has been: the class ===== -/
def withB (pl s : Nat) : Bool := decide (s &&& pl = pl)
section CSW
variable {G : LG} {h : sm_H}
theorem c_setsWith_loop {pl : Nat} (hE : cE h G) (hpl : pl < 2 ^ 31) : ∀ (m k : Nat), k + m = 2 ^ gN G → xe 1 2 5 [.ref 124, .int (nI pl), .long (lN (bsN (withB pl) k)), .null, .int (nI k)] [] h = some ([.long (lN (bsN (withB pl) (2 ^ gN G)))], h)
  | 0, k, e => by
    have hN := hE.1.1.2
    have : k = 2 ^ gN G := by omega
    subst this
    rw [b2_5, show sm_gi h 2 0 = nI (gN G) from hE.2.2.1.1.1, shl1 (by omega), if_pos (Int32.le_refl _), b2_40]
  | m + 1, k, e => by
    have hN := hE.1.1.2
    have h64 := pow6 hN
    have ih := c_setsWith_loop hE hpl m (k + 1) (by omega)
    rw [bsN_step] at ih
    rw [b2_5, show sm_gi h 2 0 = nI (gN G) from hE.2.2.1.1.1, shl1 (by omega), if_neg (by rw [nI_leI (by omega) (by omega)]; omega), b2_19, fa_and]
    have hle : k &&& pl ≤ k := Nat.and_le_left
    by_cases z : k &&& pl = pl
    · rw [if_pos (show withB pl k = true from decide_eq_true z)] at ih
      rw [if_pos (by rw [z]), b2_27, sh1L k (by omega), lN_or, b2_34, nI_add]
      exact ih
    · rw [if_neg (show ¬ withB pl k = true from fun y => z (of_decide_eq_true y))] at ih
      rw [if_neg (by rw [nI_eq (by omega) hpl]; exact z), b2_34, nI_add]
      exact ih
theorem c_setsWith {pl : Nat} (hE : cE h G) (hpl : pl < 2 ^ 31) : xc 2 [.ref 124, .int (nI pl)] h = some ([.long (lN (bsN (withB pl) (2 ^ gN G)))], h) := by
  rw [en_2, b2_0]
  exact c_setsWith_loop hE hpl (2 ^ gN G) 0 (by omega)
end CSW
