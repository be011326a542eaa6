/-! ===== the model: deeds told by numbers ===== -/
def whyV (G : LG) (W : WG) (v : Int64) : Nat := if v = -1 then 0 else if 0 ≤ v ∧ v ≤ 599 then whyG G W (v / 100) (v - v / 100 * 100) else if 1000 ≤ v ∧ v ≤ 1999 then whyGi G W ((v - 1000) / 100) (v / 10 - v / 10 / 10 * 10) (v - v / 10 * 10) else if 2000 ≤ v ∧ v ≤ 2009 then whyFo G W (v - 2000) else if (3000 ≤ v ∧ v ≤ 3019) ∧ isN (v - 3000) (gR G) then 0 else 1
theorem m_whyNot {G : LG} {W : WG} {L : List WG} {B : Nat} {h : sm_H} {v : Int64} (S : mS h G W L B) : ∃ h2, xc 212 [.ref 169, .long v] h = some ([.int (nI (whyV G W v))], h2) ∧ eqx sxL h h2 := by
  have hR := S.1.2.1
  rw [en_212, b212_0]
  unfold whyV
  simp only [lg_cmp_eq]
  by_cases h0 : v = -1
  · rw [if_pos h0, if_pos h0, b212_8]
    exact ⟨h, rfl, eqx.rf⟩
  · rw [if_neg h0, if_neg h0, b212_10, m_within, bnd]
    simp only [app1, List.cons_append, List.nil_append]
    rw [b212_18]
    by_cases h1 : 0 ≤ v ∧ v ≤ 599
    · rw [if_neg (by rw [bI_z]; exact fun z => z h1), if_pos h1, b212_21]
      obtain ⟨h2, e2, E2⟩ := m_whyGo (v := v / 100) (u := v - v / 100 * 100) S.2.1 S.1 S.2.2.1 S.2.2.2.1 S.2.2.2.2.2.2
      rw [e2, bnd]
      simp only [app1, List.cons_append, List.nil_append, b212_35]
      exact ⟨h2, rfl, E2⟩
    · rw [if_pos (by rw [bI_z]; exact h1), if_neg h1, b212_36, m_within, bnd]
      simp only [app1, List.cons_append, List.nil_append]
      rw [b212_46]
      by_cases h2 : 1000 ≤ v ∧ v ≤ 1999
      · rw [if_neg (by rw [bI_z]; exact fun z => z h2), if_pos h2, b212_49, m_whyGive S, bnd]
        simp only [app1, List.cons_append, List.nil_append, b212_76]
        exact ⟨h, rfl, eqx.rf⟩
      · rw [if_pos (by rw [bI_z]; exact h2), if_neg h2, b212_77, m_within, bnd]
        simp only [app1, List.cons_append, List.nil_append]
        rw [b212_87]
        by_cases h3 : 2000 ≤ v ∧ v ≤ 2009
        · rw [if_neg (by rw [bI_z]; exact fun z => z h3), if_pos h3, b212_90, m_whyForge S, bnd]
          simp only [app1, List.cons_append, List.nil_append, b212_99]
          exact ⟨h, rfl, eqx.rf⟩
        · rw [if_pos (by rw [bI_z]; exact h3), if_neg h3, b212_100, m_within, bnd]
          simp only [app1, List.cons_append, List.nil_append]
          rw [b212_110]
          refine ⟨h, ?_, eqx.rf⟩
          by_cases h4 : 3000 ≤ v ∧ v ≤ 3019
          · rw [if_neg (by rw [bI_z]; exact fun z => z h4), b212_113, m_isRoad S.2.1.1.2.1 (by omega), bnd]
            simp only [app1, List.cons_append, List.nil_append]
            rw [b212_122]
            by_cases h5 : isN (v - 3000) (gR G)
            · rw [if_neg (by rw [bI_z]; exact fun z => z h5), if_pos ⟨h4, h5⟩]
              simp only [b212_125, b212_129, b212_130]
            · rw [if_pos (by rw [bI_z]; exact h5), if_neg (fun z => h5 z.2)]
              simp only [b212_125, b212_129, b212_130]
          · rw [if_pos (by rw [bI_z]; exact h4), if_neg (fun z => h4 z.1)]
            simp only [b212_125, b212_129, b212_130]
def doV (G : LG) (W : WG) (v : Int64) : WG := if v = -1 then dayW W (gP G) 1 else if v.toInt < 1000 then goW G W (v.toInt.toNat / 100) (v.toInt.toNat % 100) ((toF G (v.toInt.toNat % 100) (wAt W (v.toInt.toNat / 100))).getD 0) else if v.toInt < 2000 then giveW W ((v.toInt.toNat - 1000) / 100) (v.toInt.toNat / 10 % 10) (v.toInt.toNat % 10) else if v.toInt < 3000 then forgeW W (v.toInt.toNat - 2000) else sSh W (wSh W ^^^ 2 ^ (v.toInt.toNat - 3000))
theorem rng {v : Int64} {lo hi : Nat} (hlo : lo < 2 ^ 30) (hhi : hi < 2 ^ 30) (h : lN lo ≤ v ∧ v ≤ lN hi) : ∃ k, lo ≤ k ∧ k ≤ hi ∧ v = lN k := by
  rw [Int64.le_iff_toInt_le, Int64.le_iff_toInt_le, lN_toInt (by omega), lN_toInt (by omega)] at h
  refine ⟨v.toInt.toNat, by omega, by omega, ?_⟩
  apply Int64.toInt_inj.mp
  rw [lN_toInt (by omega)]
  omega
theorem pk_lRem' {a b : Nat} (ha : a < 2 ^ 63) (h0 : 0 < b) (hb : b < 2 ^ 63) : lN a - lN (a / b) * lN b = lN (a % b) := by rw [← pk_lDiv ha h0 hb]; exact pk_lRem ha h0 hb
theorem pk_lRem'' {a b : Nat} (ha : a < 2 ^ 63) (h0 : 0 < b) (hb : b < 2 ^ 63) : lN (a / b) - lN (a / b) / lN b * lN b = lN (a / b % b) := pk_lRem (Nat.lt_of_le_of_lt (Nat.div_le_self a b) ha) h0 hb
theorem lN_m1 {k : Nat} (h : k < 2 ^ 31) : ¬ lN k = -1 := fun q => by
  have := congrArg Int64.toInt q
  rw [lN_toInt h, show ((-1 : Int64).toInt) = -1 from by decide +kernel] at this
  omega
/-- a deed that can be done -/
theorem whyV_ok {G : LG} {W : WG} {v : Int64} (hw : wfG G) (h : whyV G W v = 0) : v = -1 ∨ (∃ k t, k < 600 ∧ v = lN k ∧ k / 100 < gP G ∧ k % 100 < gR G ∧ toF G (k % 100) (wAt W (k / 100)) = some t ∧ tolW G W (k / 100) (k % 100) t ≤ wPap W (k / 100) ∧ t < gN G) ∨ (∃ k, 1000 ≤ k ∧ k < 2000 ∧ v = lN k ∧ (k - 1000) / 100 < gP G ∧ k / 10 % 10 < gP G ∧ (k - 1000) / 100 ≠ k / 10 % 10 ∧ 1 ≤ k % 10 ∧ k % 10 ≤ wPap W ((k - 1000) / 100) ∧ wPap W (k / 10 % 10) + k % 10 ≤ 9) ∨ (∃ k, 2000 ≤ k ∧ k < 2010 ∧ v = lN k ∧ k - 2000 < gP G ∧ wPap W (k - 2000) ≠ 9) ∨ ∃ k, 3000 ≤ k ∧ k < 3020 ∧ v = lN k ∧ k - 3000 < gR G := by
  have hP := hw.2.2.1
  have hR := hw.2.1
  unfold whyV at h
  by_cases h0 : v = -1
  · exact Or.inl h0
  refine Or.inr ?_
  rw [if_neg h0] at h
  by_cases h1 : 0 ≤ v ∧ v ≤ 599
  · rw [if_pos h1] at h
    obtain ⟨k, -, hk, rfl⟩ := rng (lo := 0) (hi := 599) (by decide) (by decide) h1
    refine Or.inl ?_
    rw [fa_litL 100, pk_lDiv (by omega) (by decide) (by decide), pk_lRem' (by omega) (by decide) (by decide)] at h
    unfold whyG at h
    by_cases q : isN (lN (k / 100)) (gP G) ∧ isN (lN (k % 100)) (gR G)
    · rw [if_pos q, lN_toInt (by omega), lN_toInt (by omega), Int.toNat_natCast, Int.toNat_natCast] at h
      have q1 := q.1
      have q2 := q.2
      unfold isN at q1 q2
      rw [lN_toInt (by omega)] at q1 q2
      obtain ⟨t, ht, -, hb⟩ := whyF_ok h
      refine ⟨k, t, by omega, rfl, by omega, by omega, ht, ?_, toF_lt hw (by omega) ht⟩
      unfold tolW
      by_cases z : gBri G (k % 100) = true
      · rw [if_pos z]; exact (hb z (by simp)).2
      · rw [if_neg z]; exact Nat.zero_le _
    · rw [if_neg q] at h; omega
  refine Or.inr ?_
  rw [if_neg h1] at h
  by_cases h2 : 1000 ≤ v ∧ v ≤ 1999
  · rw [if_pos h2] at h
    obtain ⟨k, hk1, hk, rfl⟩ := rng (lo := 1000) (hi := 1999) (by decide) (by decide) h2
    refine Or.inl ?_
    rw [fa_litL 100, fa_litL 10, fa_litL 1000, lN_sub hk1, pk_lDiv (by omega) (by decide) (by decide), pk_lDiv (by omega) (by decide) (by decide), pk_lRem' (by omega) (by decide) (by decide), pk_lRem'' (by omega) (by decide) (by decide)] at h
    unfold whyGi at h
    by_cases q : (isN (lN ((k - 1000) / 100)) (gP G) ∧ isN (lN (k / 10 % 10)) (gP G) ∧ lN ((k - 1000) / 100) ≠ lN (k / 10 % 10)) ∧ (1 ≤ lN (k % 10) ∧ lN (k % 10) ≤ 9)
    · rw [if_pos q, lN_toInt (by omega), lN_toInt (by omega), lN_toInt (by omega), Int.toNat_natCast, Int.toNat_natCast, Int.toNat_natCast] at h
      have q1 := q.1.1
      have q2 := q.1.2.1
      have q3 := q.1.2.2
      have q4 := q.2.1
      unfold isN at q1 q2
      rw [lN_toInt (by omega)] at q1 q2
      rw [Int64.le_iff_toInt_le, lN_toInt (by omega), show ((1 : Int64).toInt) = 1 from rfl] at q4
      by_cases d : wAt W ((k - 1000) / 100) ≠ wAt W (k / 10 % 10) ∨ wPap W ((k - 1000) / 100) < k % 10 ∨ 9 < wPap W (k / 10 % 10) + k % 10
      · rw [if_pos d] at h; omega
      · exact ⟨k, hk1, by omega, rfl, by omega, by omega, fun z => q3 (by rw [z]), by omega, by omega, by omega⟩
    · rw [if_neg q] at h; omega
  refine Or.inr ?_
  rw [if_neg h2] at h
  by_cases h3 : 2000 ≤ v ∧ v ≤ 2009
  · rw [if_pos h3] at h
    obtain ⟨k, hk1, hk, rfl⟩ := rng (lo := 2000) (hi := 2009) (by decide) (by decide) h3
    refine Or.inl ?_
    rw [fa_litL 2000, lN_sub hk1] at h
    unfold whyFo at h
    by_cases q : isN (lN (k - 2000)) (gP G)
    · rw [if_pos q, lN_toInt (by omega), Int.toNat_natCast] at h
      unfold isN at q
      rw [lN_toInt (by omega)] at q
      refine ⟨k, hk1, by omega, rfl, by omega, fun z => ?_⟩
      rw [if_pos z] at h
      omega
    · rw [if_neg q] at h; omega
  refine Or.inr ?_
  rw [if_neg h3] at h
  by_cases h4 : (3000 ≤ v ∧ v ≤ 3019) ∧ isN (v - 3000) (gR G)
  · obtain ⟨k, hk1, hk, rfl⟩ := rng (lo := 3000) (hi := 3019) (by decide) (by decide) h4.1
    have q := h4.2
    rw [fa_litL 3000, lN_sub hk1] at q
    unfold isN at q
    rw [lN_toInt (by omega)] at q
    exact ⟨k, hk1, by omega, rfl, by omega⟩
  · rw [if_neg h4] at h; omega
