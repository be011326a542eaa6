/-! ===== the model: give, days, undo, takes ===== -/
theorem m_areTwo {G : LG} {W : WG} {L : List WG} {B : Nat} {h : sm_H} {v u : Int64} (S : mS h G W L B) : xc 181 [.ref 169, .long v, .long u] h = some ([.int (bI (isN v (gP G) ∧ isN u (gP G) ∧ v ≠ u))], h) := by
  have hP := S.1.2.2.1
  rw [en_181, b181_0, m_isPerson S.2.1.1.2.2 (by omega), bnd]
  simp only [app1, List.cons_append, List.nil_append]
  rw [b181_5]
  unfold bI
  by_cases h1 : isN v (gP G)
  · rw [if_pos h1, if_neg (by decide +kernel), b181_8, m_isPerson S.2.1.1.2.2 (by omega), bnd]
    simp only [app1, List.cons_append, List.nil_append]
    rw [b181_13]
    unfold bI
    by_cases h2 : isN u (gP G)
    · rw [if_pos h2, if_neg (by decide +kernel)]
      simp only [b181_16, b181_22, b181_26, b181_27, lg_cmp_eq, or01_0, or01_1, if_true]
      by_cases h3 : v = u
      · rw [if_pos h3, if_neg (fun z => z.2.2 h3)]
      · rw [if_neg h3, if_pos ⟨h1, h2, h3⟩]
    · rw [if_neg h2, if_pos (by decide +kernel), if_neg (fun z => h2 z.2.1)]
      simp only [b181_16, b181_22, b181_26, b181_27, or01_0, if_true]
  · rw [if_neg h1, if_pos (by decide +kernel), if_neg (fun z => h1 z.1)]
    simp only [b181_16, b181_22, b181_26, b181_27, or01_0, if_true]
def whyGi (G : LG) (W : WG) (p q n : Int64) : Nat := if (isN p (gP G) ∧ isN q (gP G) ∧ p ≠ q) ∧ (1 ≤ n ∧ n ≤ 9) then (if wAt W p.toInt.toNat ≠ wAt W q.toInt.toNat ∨ wPap W p.toInt.toNat < n.toInt.toNat ∨ 9 < wPap W q.toInt.toNat + n.toInt.toNat then 2 else 0) else 1
theorem m_whyGive {G : LG} {W : WG} {L : List WG} {B : Nat} {h : sm_H} {v u n : Int64} (S : mS h G W L B) : xc 201 [.ref 169, .long v, .long u, .long n] h = some ([.int (nI (whyGi G W v u n))], h) := by
  have hw := S.1
  have hP := hw.2.2.1
  have hN := hw.1.2
  rw [en_201, b201_0, m_areTwo S, bnd]
  simp only [app1, List.cons_append, List.nil_append]
  rw [b201_6]
  unfold whyGi
  by_cases h1 : isN v (gP G) ∧ isN u (gP G) ∧ v ≠ u
  · rw [if_neg (by rw [bI_z]; exact fun z => z h1), b201_9, m_within, bnd]
    simp only [app1, List.cons_append, List.nil_append]
    rw [b201_18]
    by_cases h2 : 1 ≤ n ∧ n ≤ 9
    · rw [if_neg (by rw [bI_z]; exact fun z => z h2), if_pos ⟨h1, h2⟩]
      obtain ⟨p, hp, rfl⟩ := isN_lN h1.1 (by omega)
      obtain ⟨q, hq, rfl⟩ := isN_lN h1.2.1 (by omega)
      have hn9 : 1 ≤ n.toInt ∧ n.toInt ≤ 9 := by
        have a1 := h2.1
        have a2 := h2.2
        rw [Int64.le_iff_toInt_le] at a1 a2
        exact ⟨a1, a2⟩
      obtain ⟨k, hk, rfl⟩ := isN_lN (v := n) (P := 10) ⟨by omega, by omega⟩ (by omega)
      rw [lN_toInt (by omega)] at hn9
      have hwp := S.2.2.2.1.2.2.1 p hp
      have hwq := S.2.2.2.1.2.2.1 q hq
      have hmp := S.2.2.1.2.2.1 p hp
      have hmq := S.2.2.1.2.2.1 q hq
      have hpp := S.2.2.1.2.2.2 p (by omega)
      have hpq := S.2.2.1.2.2.2 q (by omega)
      rw [b201_23]
      simp (disch := omega) only [lN_i, nI_add, in_170, if_true, nI_clamp, lN_toInt, Int.toNat_natCast]
      rw [show 90 + p = 88 + 2 + p by omega, hmp.1, show 90 + q = 88 + 2 + q by omega, hmq.1]
      by_cases c1 : wAt W p = wAt W q
      · rw [if_pos (by rw [c1]), b201_54]
        simp (disch := omega) only [nI_add, in_170, if_true, nI_clamp, lg_cmp_lt]
        rw [show 102 + p = 88 + 14 + p by omega, hpp, nI_l (by omega)]
        by_cases c2 : wPap W p < k
        · rw [if_pos (by rw [lN_lt (by omega) (by omega)]; exact c2), if_pos (Or.inr (Or.inl c2))]
          simp only [b201_92, b201_96, b201_97]
        · rw [if_neg (by rw [lN_lt (by omega) (by omega)]; exact c2), b201_71]
          simp (disch := omega) only [nI_add, in_170, if_true, nI_clamp, lg_cmp_le]
          rw [show 102 + q = 88 + 14 + q by omega, hpq, nI_l (by omega), lN_add, fa_litL 9]
          by_cases c3 : 9 < wPap W q + k
          · rw [if_neg (by rw [lN_le (by omega) (by omega)]; omega), if_pos (Or.inr (Or.inr c3))]
            simp only [b201_92, b201_96, b201_97]
          · rw [if_pos (by rw [lN_le (by omega) (by omega)]; omega), if_neg (by omega)]
            simp only [b201_92, b201_96, b201_97]
      · rw [if_neg (by rw [nI_eq (by omega) (by omega)]; exact c1), if_pos (Or.inl c1)]
        simp only [b201_92, b201_96, b201_97]
    · rw [if_pos (by rw [bI_z]; exact h2), if_neg (fun z => h2 z.2), b201_21]
  · rw [if_pos (by rw [bI_z]; exact h1), if_neg (fun z => h1 z.1), b201_21]
def dGive (G : LG) (W : WG) (L : List WG) (p q n : Int32) : Int32 × WG × List WG := if whyGi G W p.toInt64 q.toInt64 n.toInt64 = 0 then (nI (wPap W (toN q) + toN n), giveW W (toN p) (toN q) (toN n), pushL L W) else (-10 - nI (whyGi G W p.toInt64 q.toInt64 n.toInt64), W, L)
theorem whyGi_le {G : LG} {W : WG} {p q n : Int64} : whyGi G W p q n ≤ 2 := by
  unfold whyGi
  repeat' split
  all_goals omega
theorem whyGi_ok {G : LG} {W : WG} {p q n : Int32} (hP : gP G ≤ 6) (h : whyGi G W p.toInt64 q.toInt64 n.toInt64 = 0) : ∃ j i k, j < gP G ∧ i < gP G ∧ j ≠ i ∧ 1 ≤ k ∧ k ≤ 9 ∧ p = nI j ∧ q = nI i ∧ n = nI k ∧ wAt W j = wAt W i ∧ k ≤ wPap W j ∧ wPap W i + k ≤ 9 := by
  unfold whyGi at h
  by_cases c : (isN p.toInt64 (gP G) ∧ isN q.toInt64 (gP G) ∧ p.toInt64 ≠ q.toInt64) ∧ (1 ≤ n.toInt64 ∧ n.toInt64 ≤ 9)
  · rw [if_pos c] at h
    obtain ⟨j, hj, rfl⟩ := isN_nI c.1.1 (by omega)
    obtain ⟨i, hi, rfl⟩ := isN_nI c.1.2.1 (by omega)
    have hn9 : 1 ≤ n.toInt64.toInt ∧ n.toInt64.toInt ≤ 9 := by
      have a1 := c.2.1
      have a2 := c.2.2
      rw [Int64.le_iff_toInt_le] at a1 a2
      exact ⟨a1, a2⟩
    obtain ⟨k, hk, rfl⟩ := isN_nI (p := n) (P := 10) ⟨by omega, by omega⟩ (by omega)
    rw [nI_l (by omega), lN_toInt (by omega)] at hn9
    rw [nI_l (by omega), nI_l (by omega), nI_l (by omega), lN_toInt (by omega), lN_toInt (by omega), lN_toInt (by omega), Int.toNat_natCast, Int.toNat_natCast, Int.toNat_natCast] at h
    have hne : j ≠ i := fun z => c.1.2.2 (by rw [z])
    by_cases d : wAt W j ≠ wAt W i ∨ wPap W j < k ∨ 9 < wPap W i + k
    · rw [if_pos d] at h; omega
    · exact ⟨j, i, k, hj, hi, hne, by omega, by omega, rfl, rfl, rfl, by omega, by omega, by omega⟩
  · rw [if_neg c] at h; omega
theorem m_give {G : LG} {W : WG} {L : List WG} {B : Nat} {h : sm_H} {p q n : Int32} (S : mS h G W L B) : ∃ h2, xc 207 [.ref 169, .int p, .int q, .int n] h = some ([.int (dGive G W L p q n).1], h2) ∧ mS h2 G (dGive G W L p q n).2.1 (dGive G W L p q n).2.2 B ∧ eqx sxM h h2 := by
  rw [en_207, b207_0, b207_5]
  have S0 := mS_thrown (v := nI 0) S
  have hw := S0.1
  have hP := hw.2.2.1
  rw [m_whyGive S0, bnd]
  simp only [app1, List.cons_append, List.nil_append]
  have hle := whyGi_le (G := G) (W := W) (p := p.toInt64) (q := q.toInt64) (n := n.toInt64)
  rw [b207_15]
  unfold dGive
  by_cases h0 : whyGi G W p.toInt64 q.toInt64 n.toInt64 = 0
  · rw [if_pos (by rw [nI_z (by omega)]; exact h0), if_pos h0, b207_28]
    obtain ⟨j, i, k, hj, hi, hji, hk1, hk9, rfl, rfl, rfl, hat, hpj, hpi⟩ := whyGi_ok hP h0
    rw [toN_nI (by omega), toN_nI (by omega), toN_nI (by omega)]
    obtain ⟨h2, e2, k2, E2⟩ := m_keeps (h := sm_si h 169 0 (nI 0))
    rw [e2, bnd]
    simp only [List.nil_append]
    have S2 := mS_keep S0 E2
    obtain ⟨h3, e3, W3, E3⟩ := m_gives hw S2.2.2.1 (by omega : j < 6) (by omega : i < 6) hji hpj
    rw [b207_32, e3, bnd]
    simp only [List.nil_append]
    have hwj := S0.2.2.2.1.2.2.1 j hj
    obtain ⟨h4, e4, S4, E4, a4⟩ := mS_note S0 (Nat.le_refl B) k2 E2 W3 ((S0.2.2.2.1.pap hj (by omega)).pap hi (by omega)) E3
    rw [b207_39, e4, bnd]
    simp only [List.nil_append]
    rw [b207_43]
    simp (disch := omega) only [nI_add, in_170, if_true, nI_clamp]
    refine ⟨h4, ?_, S4, eqx_thrown E4⟩
    rw [a4 _ (by omega) (by omega), show 102 + i = 88 + 14 + i by omega, W3.2.2.2 i (by omega)]
    congr 4
    exact congrArg nI upN_s
  · rw [if_neg (by rw [nI_z (by omega)]; exact h0), if_neg h0, b207_22]
    exact ⟨_, rfl, S0, eqx_thrown eqx.rf⟩
theorem within_nI {n : Int32} {lo hi : Nat} (hhi : hi + 1 < 2 ^ 30) (h : lN lo ≤ n.toInt64 ∧ n.toInt64 ≤ lN hi) (hlo : lo < 2 ^ 30) : ∃ k, lo ≤ k ∧ k ≤ hi ∧ n = nI k := by
  rw [Int64.le_iff_toInt_le, Int64.le_iff_toInt_le, lN_toInt (by omega), lN_toInt (by omega)] at h
  obtain ⟨k, hk, rfl⟩ := isN_nI (p := n) (P := hi + 1) ⟨by omega, by omega⟩ (by omega)
  rw [nI_l (by omega), lN_toInt (by omega)] at h
  exact ⟨k, by omega, by omega, rfl⟩
theorem dayW_add {W : WG} {P k : Nat} : dayW (dayW W P k) P 1 = dayW W P (k + 1) := by
  unfold dayW
  congr 3
  funext j
  dsimp only
  by_cases z : j < P
  · rw [if_pos z, if_pos z, if_pos z]; omega
  · rw [if_neg z, if_neg z, if_neg z]
theorem m_days_loop {G : LG} {W : WG} {h : sm_H} {n : Nat} (hw : wfG G) (hG : mG (sm_gi h 170) G) (hn : n ≤ 99) : ∀ (m k : Nat) (h1 : sm_H), k + m = n → mW (sm_gi h1 170) 88 (gP G) (dayW W (gP G) k) → eqx sxD h h1 →
    ∃ h2, xe 2 210 26 [.ref 169, .int (nI n), .int (nI k)] [] h1 = xe 2 210 41 [.ref 169, .int (nI n), .int (nI n)] [] h2 ∧ mW (sm_gi h2 170) 88 (gP G) (dayW W (gP G) n) ∧ eqx sxD h h2
  | 0, k, h1, e, hW, E => by
    have hk : k = n := by omega
    subst hk
    rw [b210_26, if_pos (Int32.le_refl _)]
    exact ⟨h1, rfl, hW, E⟩
  | m + 1, k, h1, e, hW, E => by
    rw [b210_26, if_neg (by rw [nI_leI (by omega) (by omega)]; omega), b210_31]
    obtain ⟨h2, e2, W2, E2⟩ := m_goesDay hw (mG_D hw hG E) hW
    rw [e2, bnd]
    simp only [List.nil_append]
    rw [b210_35, nI_add]
    rw [dayW_add] at W2
    exact m_days_loop hw hG hn m (k + 1) h2 (by omega) W2 (E.tr E2)
theorem wfW.days {G : LG} {B n k : Nat} {W : WG} (h : wfW G B W) : wfW G (B + n) (dayW W k n) := ⟨h.1, h.2.1, fun q hq => ⟨(h.2.2.1 q hq).1, by
    show (if q < k then wDay W q + n else wDay W q) ≤ B + n
    have := (h.2.2.1 q hq).2.1
    split <;> omega, (h.2.2.1 q hq).2.2⟩, h.2.2.2⟩
def dDays (G : LG) (W : WG) (L : List WG) (n : Int32) : Int32 × WG × List WG := if lN 1 ≤ n.toInt64 ∧ n.toInt64 ≤ lN 99 then (nI 0, dayW W (gP G) (toN n), pushL L W) else (-3, W, L)
theorem m_days {G : LG} {W : WG} {L : List WG} {B : Nat} {h : sm_H} {n : Int32} (S : mS h G W L B) : ∃ h2, xc 210 [.ref 169, .int n] h = some ([.int (dDays G W L n).1], h2) ∧ mS h2 G (dDays G W L n).2.1 (dDays G W L n).2.2 (B + 99) ∧ eqx sxM h h2 := by
  rw [en_210, b210_0, b210_5]
  have S0 := mS_thrown (v := nI 0) S
  have hw := S0.1
  rw [m_within, bnd]
  simp only [app1, List.cons_append, List.nil_append]
  rw [b210_14, fa_litL 1, fa_litL 99]
  unfold dDays
  by_cases h1 : lN 1 ≤ n.toInt64 ∧ n.toInt64 ≤ lN 99
  · rw [if_neg (by rw [bI_z]; exact fun z => z h1), if_pos h1, b210_20]
    obtain ⟨k, hk1, hk2, rfl⟩ := within_nI (by decide) h1 (by decide)
    rw [toN_nI (by omega)]
    obtain ⟨h2, e2, k2, E2⟩ := m_keeps (h := sm_si h 169 0 (nI 0))
    rw [e2, bnd]
    simp only [List.nil_append]
    have S2 := mS_keep S0 E2
    rw [b210_24]
    obtain ⟨h3, e3, W3, E3⟩ := m_days_loop (W := W) hw S2.2.1 hk2 k 0 h2 (by omega) (by rw [show dayW W (gP G) 0 = W by unfold dayW; simp]; exact S2.2.2.1) eqx.rf
    rw [e3, b210_41]
    obtain ⟨h4, e4, S4, E4, a4⟩ := mS_note S0 (show B ≤ B + k by omega) k2 E2 W3 S0.2.2.2.1.days E3
    rw [e4, bnd]
    simp only [List.nil_append]
    rw [b210_45]
    exact ⟨h4, rfl, S4.mono (by omega), eqx_thrown E4⟩
  · rw [if_pos (by rw [bI_z]; exact h1), if_neg h1, b210_17]
    exact ⟨_, rfl, S0.mono (by omega), eqx_thrown eqx.rf⟩
