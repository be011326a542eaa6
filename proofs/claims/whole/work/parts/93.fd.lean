/-! ===== feed ===== -/
def by4 (l : Int32) (i : Nat) : Int32 := (l >>> ((nI 24 - nI (8 * i)) &&& 31)) &&& nI 255
def extT (t : Nat → Int32) (n : Nat) (l : Int32) : Nat → Int32 := fun j => if j < n then t j else by4 l (j - n)
def fdT (t : Nat → Int32) (n : Nat) (a b c d e : Int32) : Nat → Int32 := extT (extT (extT (extT (extT t n a) (n + 4) b) (n + 8) c) (n + 12) d) (n + 16) e
def byO (t : Nat → Int32) (n : Nat) : Prop := ∀ j, j < n → ∃ b, b < 256 ∧ t j = nI b
def mTp (h : sm_H) (n : Nat) (t : Nat → Int32) : Prop := sm_gi h 169 5 = nI n ∧ n ≤ 900 ∧ byO t n ∧ ∀ j, j < n → sm_gi h 172 j = t j
def cTp (h : sm_H) (n : Nat) (t : Nat → Int32) : Prop := sm_gi h 0 1 = nI n ∧ n ≤ 900 ∧ ∀ j, j < n → sm_gi h 1 j = (t j).toInt8.toInt32
def fdN (n : Nat) : Nat := if n + 20 ≤ 900 then n + 20 else n
def fdU (t : Nat → Int32) (n : Nat) (a b c d e : Int32) : Nat → Int32 := if n + 20 ≤ 900 then fdT t n a b c d e else t
def dFeed (n : Nat) : Int32 := if n + 20 ≤ 900 then nI (n + 20) else -5
theorem by4_nI (l : Int32) (i : Nat) : ∃ b, b < 256 ∧ by4 l i = nI b := by
  unfold by4
  generalize l >>> ((nI 24 - nI (8 * i)) &&& 31) = x
  refine ⟨(x &&& nI 255).toBitVec.toNat, ?_, ?_⟩
  · rw [show (x &&& nI 255).toBitVec = x.toBitVec &&& (nI 255).toBitVec from rfl, BitVec.toNat_and]
    exact Nat.lt_of_le_of_lt Nat.and_le_right (by decide)
  · apply Int32.toBitVec_inj.mp
    apply BitVec.eq_of_toNat_eq
    show _ = (BitVec.ofNat 32 _).toNat
    rw [BitVec.toNat_ofNat, Nat.mod_eq_of_lt (BitVec.isLt _)]
def sxFm : Nat → Nat → Prop := fun c i => c = 172 ∨ (c = 169 ∧ (i = 0 ∨ i = 5))
def sxFc : Nat → Nat → Prop := fun c i => c = 1 ∨ (c = 0 ∧ i = 1)
theorem in_172 {n : Nat} (hn : n < 900) : sm_in 172 (nI n) ↔ True := in_ln (by omega) (by rw [ln_172]; exact hn)
theorem in_1 {n : Nat} (hn : n < 900) : sm_in 1 (nI n) ↔ True := in_ln (by omega) (by rw [ln_1]; exact hn)
theorem fdT_at {t : Nat → Int32} {n k : Nat} {a b c d e : Int32} (hk : k < 20) : fdT t n a b c d e (n + k) = by4 (if k < 4 then a else if k < 8 then b else if k < 12 then c else if k < 16 then d else e) (k % 4) := by
  unfold fdT extT
  by_cases h1 : k < 4
  · rw [if_pos (by omega), if_pos (by omega), if_pos (by omega), if_pos (by omega), if_neg (by omega), if_pos h1, show n + k - n = k % 4 by omega]
  · by_cases h2 : k < 8
    · rw [if_pos (by omega), if_pos (by omega), if_pos (by omega), if_neg (by omega), if_neg h1, if_pos h2, show n + k - (n + 4) = k % 4 by omega]
    · by_cases h3 : k < 12
      · rw [if_pos (by omega), if_pos (by omega), if_neg (by omega), if_neg h1, if_neg h2, if_pos h3, show n + k - (n + 8) = k % 4 by omega]
      · by_cases h4 : k < 16
        · rw [if_pos (by omega), if_neg (by omega), if_neg h1, if_neg h2, if_neg h3, if_pos h4, show n + k - (n + 12) = k % 4 by omega]
        · rw [if_neg (by omega), if_neg h1, if_neg h2, if_neg h3, if_neg h4, show n + k - (n + 16) = k % 4 by omega]
theorem fdT_old {t : Nat → Int32} {n j : Nat} {a b c d e : Int32} (hj : j < n) : fdT t n a b c d e j = t j := by
  unfold fdT extT
  rw [if_pos (by omega), if_pos (by omega), if_pos (by omega), if_pos (by omega), if_pos (by omega)]
theorem m_feed_pick {a b c d e : Int32} {k : Nat} {l7 : Value} {h : sm_H} (hk : k < 20) : xe 1 149 31 [.ref 169, .int a, .int b, .int c, .int d, .int e, .int (nI k), l7] [] h = xe 1 149 77 [.ref 169, .int a, .int b, .int c, .int d, .int e, .int (nI k), l7] [.int (if k < 4 then a else if k < 8 then b else if k < 12 then c else if k < 16 then d else e)] h := by
  rw [b149_31]
  by_cases h1 : k < 4
  · rw [if_neg (by rw [nI_leI (by omega) (by omega)]; omega), if_pos h1, b149_37]
  · rw [if_pos (by rw [nI_leI (by omega) (by omega)]; omega), if_neg h1, b149_41]
    by_cases h2 : k < 8
    · rw [if_neg (by rw [nI_leI (by omega) (by omega)]; omega), if_pos h2, b149_48]
    · rw [if_pos (by rw [nI_leI (by omega) (by omega)]; omega), if_neg h2, b149_52]
      by_cases h3 : k < 12
      · rw [if_neg (by rw [nI_leI (by omega) (by omega)]; omega), if_pos h3, b149_59]
      · rw [if_pos (by rw [nI_leI (by omega) (by omega)]; omega), if_neg h3, b149_63]
        by_cases h4 : k < 16
        · rw [if_neg (by rw [nI_leI (by omega) (by omega)]; omega), if_pos h4, b149_70]
        · rw [if_pos (by rw [nI_leI (by omega) (by omega)]; omega), if_neg h4, b149_75]
theorem m_feed_loop {t : Nat → Int32} {n : Nat} {a b c d e : Int32} {h0 : sm_H} (hn : n + 20 ≤ 900) : ∀ (m k : Nat) (h1 : sm_H) (l7 : Value), k + m = 20 → sm_gi h1 169 5 = nI (n + k) → (∀ j, j < n + k → sm_gi h1 172 j = fdT t n a b c d e j) → eqx sxFm h0 h1 → ∃ h2, xe 1 149 24 [.ref 169, .int a, .int b, .int c, .int d, .int e, .int (nI k), l7] [] h1 = some ([.int (nI (n + 20))], h2) ∧ sm_gi h2 169 5 = nI (n + 20) ∧ (∀ j, j < n + 20 → sm_gi h2 172 j = fdT t n a b c d e j) ∧ eqx sxFm h0 h2
  | 0, k, h1, l7, e', g5, g, E => by
    have : k = 20 := by omega
    subst this
    rw [b149_24, if_pos (Int32.le_refl _), b149_121, g5]
    exact ⟨h1, rfl, g5, g, E⟩
  | m + 1, k, h1, l7, e', g5, g, E => by
    rw [b149_24, if_neg (by rw [nI_leI (by omega) (by omega)]; omega), m_feed_pick (by omega), b149_77, g5]
    simp (disch := omega) only [in_172, if_true, nI_clamp]
    rw [pk_rem (by omega) (by decide) (by decide), pk_mul, b149_105, gi_cell (by decide), g5, nI_add, b149_115, nI_add]
    refine m_feed_loop hn m (k + 1) _ _ (by omega) ?_ (fun j hj => ?_) (E.tr ((eqx.rf.si (by unfold sxFm; omega)).si (by unfold sxFm; omega)))
    · rw [gi_same, Nat.add_assoc]
    · rw [gi_cell (by decide)]
      by_cases z : j = n + k
      · subst z
        rw [gi_same, fdT_at (by omega)]
        rfl
      · rw [gi_slot z]
        exact g j (by omega)
theorem m_feed {n : Nat} {t : Nat → Int32} {a b c d e : Int32} {h : sm_H} (H : mTp h n t) : ∃ h2, xc 149 [.ref 169, .int a, .int b, .int c, .int d, .int e] h = some ([.int (dFeed n)], h2) ∧ mTp h2 (fdN n) (fdU t n a b c d e) ∧ eqx sxFm h h2 := by
  obtain ⟨g5, hn, hb, g⟩ := H
  have E0 : eqx sxFm h (sm_si h 169 0 (nI 0)) := eqx.rf.si (by unfold sxFm; omega)
  rw [en_149, b149_0, b149_5, gi_slot (by decide), g5, nI_add]
  unfold dFeed fdN fdU
  by_cases z : n + 20 ≤ 900
  · rw [if_pos (by rw [nI_leI (by omega) (by omega)]; exact z), if_pos z, if_pos z, if_pos z, b149_21]
    obtain ⟨h2, e2, a2, b2, E2⟩ := m_feed_loop (t := t) (a := a) (b := b) (c := c) (d := d) (e := e) (h0 := sm_si h 169 0 (nI 0)) z 20 0 _ .null (by omega) (by rw [gi_slot (by decide)]; exact g5) (fun j hj => by rw [gi_cell (by decide), fdT_old (by omega)]; exact g j (by omega)) eqx.rf
    rw [e2]
    refine ⟨h2, rfl, ⟨a2, z, fun j hj => ?_, b2⟩, E0.tr E2⟩
    by_cases y : j < n
    · rw [fdT_old y]
      exact hb j y
    · obtain ⟨k, rfl⟩ : ∃ k, j = n + k := ⟨j - n, by omega⟩
      rw [fdT_at (by omega)]
      exact by4_nI _ _
  · rw [if_neg (by rw [nI_leI (by omega) (by omega)]; exact z), if_neg z, if_neg z, if_neg z, b149_18]
    exact ⟨_, rfl, ⟨by rw [gi_slot (by decide)]; exact g5, hn, hb, fun j hj => by rw [gi_cell (by decide)]; exact g j hj⟩, E0⟩
/-! the class -/
theorem nar_byte (x : Int32) : vp_nar .byte (x.toInt8.toInt32) = x.toInt8.toInt32 := by
  show (x.toInt8.toInt32).toInt8.toInt32 = _
  rw [Int8.toInt8_toInt32]
theorem by4_byte (l : Int32) (i : Nat) : (by4 l i).toInt8.toInt32 = (l >>> ((nI 24 - nI (8 * i)) &&& 31)).toInt8.toInt32 := by
  unfold by4
  rw [show (nI 255 : Int32) = 255 from rfl, fa_byte_low]
theorem c_feedOne_step {l : Int32} {t : Nat → Int32} {n i : Nat} {h0 h1 : sm_H} (hn : n + 4 ≤ 900) (hi : i < 4) (H : sm_gi h1 0 1 = nI (n + i)) (g : ∀ j, j < n + i → sm_gi h1 1 j = (extT t n l j).toInt8.toInt32) (E : eqx sxFc h0 h1) : ∃ h2, xe 1 102 3 [.ref 0, .int l, .int (nI 24 - nI (8 * i))] [] h1 = xe 1 102 3 [.ref 0, .int l, .int (nI 24 - nI (8 * i) + -8)] [] h2 ∧ sm_gi h2 0 1 = nI (n + (i + 1)) ∧ (∀ j, j < n + (i + 1) → sm_gi h2 1 j = (extT t n l j).toInt8.toInt32) ∧ eqx sxFc h0 h2 := by
  rw [b102_3, pk_sub (show 8 * i ≤ 24 by omega), if_neg (by rw [show (0 : Int32) = nI 0 from rfl, nI_ltI (by omega) (by decide)]; omega), b102_7, H, if_neg (by rw [nI_leI (by decide) (by omega)]; omega), b102_17, H]
  simp (disch := omega) only [in_1, if_true, nI_clamp]
  rw [nar_byte, b102_30, gi_cell (by decide), H, nI_add, b102_40]
  refine ⟨_, rfl, ?_, fun j hj => ?_, E.tr ((eqx.rf.si (by unfold sxFc; omega)).si (by unfold sxFc; omega))⟩
  · rw [gi_same, Nat.add_assoc]
  · rw [gi_cell (by decide)]
    by_cases z : j = n + i
    · subst z
      rw [gi_same]
      unfold extT
      rw [if_neg (by omega), by4_byte, show n + i - n = i by omega, pk_sub (show 8 * i ≤ 24 by omega)]
    · rw [gi_slot z]
      exact g j (by omega)
theorem c_feedOne {l : Int32} {t : Nat → Int32} {n : Nat} {h : sm_H} (hn : n + 4 ≤ 900) (H : cTp h n t) : ∃ h2, xc 102 [.ref 0, .int l] h = some ([], h2) ∧ cTp h2 (n + 4) (extT t n l) ∧ eqx sxFc h h2 := by
  obtain ⟨g1, -, g⟩ := H
  rw [en_102, b102_0]
  obtain ⟨h1, e1, a1, b1, E1⟩ := c_feedOne_step (l := l) (t := t) (i := 0) (h0 := h) hn (by decide) g1 (fun j hj => by unfold extT; rw [if_pos (by omega)]; exact g j (by omega)) eqx.rf
  obtain ⟨h2, e2, a2, b2, E2⟩ := c_feedOne_step (l := l) (t := t) (i := 1) hn (by decide) a1 b1 E1
  obtain ⟨h3, e3, a3, b3, E3⟩ := c_feedOne_step (l := l) (t := t) (i := 2) hn (by decide) a2 b2 E2
  obtain ⟨h4, e4, a4, b4, E4⟩ := c_feedOne_step (l := l) (t := t) (i := 3) hn (by decide) a3 b3 E3
  rw [show nI 24 - nI (8 * 0) = nI 24 from by decide, show nI 24 + -8 = nI 16 from by decide] at e1
  rw [show nI 24 - nI (8 * 1) = nI 16 from by decide, show nI 16 + -8 = nI 8 from by decide] at e2
  rw [show nI 24 - nI (8 * 2) = nI 8 from by decide, show nI 8 + -8 = nI 0 from by decide] at e3
  rw [show nI 24 - nI (8 * 3) = nI 0 from by decide, show nI 0 + -8 = -8 from by decide] at e4
  rw [e1, e2, e3, e4, b102_3, if_pos (by decide), b102_46]
  exact ⟨h4, rfl, ⟨a4, hn, b4⟩, E4⟩
theorem c_feed {n : Nat} {t : Nat → Int32} {a b c d e : Int32} {h : sm_H} (H : cTp h n t) : ∃ h2, xc 101 [.ref 0, .int a, .int b, .int c, .int d, .int e] h = some ([.int (dFeed n)], h2) ∧ cTp h2 (fdN n) (fdU t n a b c d e) ∧ eqx sxFc h h2 := by
  have hn := H.2.1
  rw [en_101, b101_0, H.1, nI_add]
  unfold dFeed fdN fdU
  by_cases z : n + 20 ≤ 900
  · rw [if_pos (by rw [nI_leI (by omega) (by omega)]; exact z), if_pos z, if_pos z, if_pos z]
    obtain ⟨h1, e1, H1, E1⟩ := c_feedOne (l := a) (by omega) H
    obtain ⟨h2, e2, H2, E2⟩ := c_feedOne (l := b) (by omega) H1
    obtain ⟨h3, e3, H3, E3⟩ := c_feedOne (l := c) (by omega) H2
    obtain ⟨h4, e4, H4, E4⟩ := c_feedOne (l := d) (by omega) H3
    obtain ⟨h5, e5, H5, E5⟩ := c_feedOne (l := e) (by omega) H4
    rw [b101_16, e1, bnd]
    simp only [List.nil_append]
    rw [b101_21, e2, bnd]
    simp only [List.nil_append]
    rw [b101_26, e3, bnd]
    simp only [List.nil_append]
    rw [b101_31, e4, bnd]
    simp only [List.nil_append]
    rw [b101_37, e5, bnd]
    simp only [List.nil_append]
    rw [b101_43, H5.1]
    exact ⟨h5, rfl, H5, (((E1.tr E2).tr E3).tr E4).tr E5⟩
  · rw [if_neg (by rw [nI_leI (by omega) (by omega)]; exact z), if_neg z, if_neg z, if_neg z, b101_13]
    exact ⟨h, rfl, H, eqx.rf⟩
