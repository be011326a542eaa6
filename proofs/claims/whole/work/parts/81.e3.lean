/-! ===== the class: helped, worst; meetings ===== -/
section CHW
variable {G : LG} {W : WG} {L : List WG} {B B' : Nat} {h : sm_H}
theorem c_helped_loop (hB2 : B < 2 ^ 28) (hB : B' < 2 ^ 28) : ∀ (m k : Nat) (h1 : sm_H) (l2 : Value), k + m = gP G → cS h1 G W L B → cI h1 (B' + 2 * k) → eqx sxW h h1 → ∃ h2, xe 8 13 2 [.ref 113, .int (nI k), l2] [] h1 = some ([.int (hpF (hpB G W) m k)], h2) ∧ cS h2 G W L B ∧ cI h2 (B' + 12) ∧ eqx sxW h h2
  | 0, k, h1, l2, e, S, I, E => by
    have hP := S.1.1.2.2.1
    have : k = gP G := by omega
    subst this
    rw [b13_2, show sm_gi h1 2 3 = nI (gP G) from S.1.2.2.1.1.2.2.1, if_pos (Int32.le_refl _), b13_100]
    exact ⟨h1, rfl, S, I.mono (by omega), E⟩
  | m + 1, k, h1, l2, e, S, I, E => by
    have hw := S.1.1
    have hx := S.1.2.1
    have hP := hw.2.2.1
    have hk : k < gP G := by omega
    have hwp := S.2.2.1.2.2.1 k hk
    rw [b13_2, show sm_gi h1 2 3 = nI (gP G) from S.1.2.2.1.1.2.2.1, if_neg (by rw [nI_leI (by omega) (by omega)]; omega), b13_13, c_hasToDo S hk, bnd]
    simp only [app1, List.cons_append, List.nil_append]
    rw [b13_18]
    unfold hpF
    have ih := c_helped_loop hB2 hB m (k + 1)
    have skip : hpB G W k = false → ∀ (h2 : sm_H) (l2 : Value), cS h2 G W L B → cI h2 (B' + 2 * (k + 1)) → eqx sxW h h2 → ∃ h3, xe 8 13 94 [.ref 113, .int (nI k), l2] [] h2 = some ([.int (if hpB G W k = true then nI k else hpF (hpB G W) m (k + 1))], h3) ∧ cS h3 G W L B ∧ cI h3 (B' + 12) ∧ eqx sxW h h3 := by
      intro hf h2 l2 S2 I2 E2
      rw [b13_94, nI_add, hf, if_neg (by decide)]
      exact ih h2 l2 (by omega) S2 I2 E2
    by_cases q : gGol G k ≠ none ∧ ¬ wRd W / 2 ^ k % 2 = 1
    · rw [if_neg (by rw [bI_z]; exact fun z => z q), b13_21, if_pos (in_c (by rw [ln_21]; omega) (by omega)), nI_clamp (by omega), show sm_gi h1 21 k = nI (wPap W k) from S.2.1.2.2.2 k (by omega)]
      by_cases h9 : 9 ≤ wPap W k
      · rw [if_pos (by rw [nI_leI (by decide) (by omega)]; exact h9)]
        exact skip (decide_eq_false (fun z => z.2.1 (by omega))) h1 l2 S (I.mono (by omega)) E
      · rw [if_neg (by rw [nI_leI (by decide) (by omega)]; exact h9), b13_35]
        obtain ⟨D, h2, e2, F2, Q2, S2, I2, E2⟩ := c_seek S I (by omega) hk
        rw [e2, bnd]
        simp only [List.nil_append]
        rw [b13_40, c_daysToWait S2 hB2 Q2 F2 q.1, bnd]
        simp only [app1, List.cons_append, List.nil_append]
        rw [b13_45]
        have hm1 := waI_m1 (sh := wSh W) (pap := wPap W k) hw hx S.2.2.1 (show B < 2 ^ 29 by omega) hk hwp.2.2.1
        have hm2 := waI_m1 (sh := wSh W) (pap := wPap W k + 1) hw hx S.2.2.1 (show B < 2 ^ 29 by omega) hk (by omega)
        have ok1 : okX G (0, wBeen W k, wPap W k + 1, wAt W k) := ⟨(show (0 : Nat) < 16 by decide), hwp.2.2.2, (show wPap W k + 1 ≤ 9 by omega), hwp.1⟩
        have g5 : sm_gi h2 104 5 = nI (wPap W k) := Q2.2.2.2.1.2.2.2
        obtain ⟨Q3, E3⟩ := cQ_set (i := 5) (v := nI (wPap W k + 1)) (x1 := (0, wBeen W k, wPap W k + 1, wAt W k)) Q2 (by omega) ⟨ok1, rfl⟩ ⟨rfl, rfl⟩ S.2.2.1.1 (fun t z => by cases z) (if_pos rfl) (if_neg (by decide)) (if_neg (by decide))
        have S3 := cS_W S2 Q3.1 (E3.wk sxA4_W)
        by_cases z : waI G W (wSh W) k (wPap W k) = -1
        · rw [if_pos z, b13_49, b13_54, g5, nI_add, b13_68, if_neg (by decide +kernel), b13_72]
          obtain ⟨D4, h4, e4, F4, Q4, I4, E4⟩ := c_spread Q3 (cI_A4 I2 E3) (by omega)
          rw [e4, bnd]
          simp only [List.nil_append]
          have S4 := cS_W S3 Q4.1 (E4.wk sxH_W)
          rw [b13_79, if_neg (by decide +kernel), b13_83, c_daysToWait S4 hB2 Q4 F4 q.1, bnd]
          simp only [app1, List.cons_append, List.nil_append]
          rw [b13_88]
          have E14 : eqx sxW h h4 := ((E.tr E2).tr (E3.wk sxA4_W)).tr (E4.wk sxH_W)
          have ht := hm1.mp z
          by_cases z2 : waI G W (wSh W) k (wPap W k + 1) = -1
          · rw [if_pos z2]
            have ht2 := hm2.mp z2
            exact skip (decide_eq_false (fun y => by rw [ht2] at y; exact absurd y.2.2.2 (by decide))) h4 _ S4 (by rw [show B' + 2 * (k + 1) = B' + 2 * k + 1 + 1 by omega]; exact I4) E14
          · rw [if_neg z2, b13_92]
            have ht2 : tmB G W (wSh W) k (wPap W k + 1) = true := by
              cases hc : tmB G W (wSh W) k (wPap W k + 1) with
              | false => exact absurd (hm2.mpr hc) z2
              | true => rfl
            rw [if_pos (show hpB G W k = true from decide_eq_true ⟨q.1, by omega, fun y => y.elim q.2 (fun y => by rw [ht] at y; cases y), ht2⟩)]
            exact ⟨h4, rfl, S4, I4.mono (by omega), E14⟩
        · rw [if_neg z, b13_53, b13_54, g5, nI_add, b13_68, if_pos (by decide +kernel), b13_79, if_pos (by decide +kernel)]
          have ht : tmB G W (wSh W) k (wPap W k) = true := by
            cases hc : tmB G W (wSh W) k (wPap W k) with
            | false => exact absurd (hm1.mpr hc) z
            | true => rfl
          exact skip (decide_eq_false (fun y => y.2.2.1 (Or.inr ht))) _ _ S3 ((cI_A4 I2 E3).mono (by omega)) ((E.tr E2).tr (E3.wk sxA4_W))
    · rw [if_pos (by rw [bI_z]; exact q)]
      refine skip (decide_eq_false (fun y => ?_)) h1 l2 S (I.mono (by omega)) E
      exact q ⟨y.1, fun z => y.2.2.1 (Or.inl z)⟩
theorem c_helped (hB2 : B < 2 ^ 28) (hB : B' < 2 ^ 28) (S : cS h G W L B) (I : cI h B') : ∃ h2, xc 128 [.ref 0] h = some ([.int (aHelp G W)], h2) ∧ cS h2 G W L B ∧ cI h2 (B' + 12) ∧ eqx sxW h h2 := by
  obtain ⟨h2, e2, S2, I2, E2⟩ := c_helped_loop (h := h) hB2 hB (gP G) 0 h .null (by omega) S I eqx.rf
  rw [en_128, b128_0, en_13, b13_0, e2, bnd]
  simp only [app1, List.cons_append, List.nil_append]
  rw [b128_7]
  exact ⟨h2, rfl, S2, I2, E2⟩
theorem c_late_loop {r : Nat} (hr : r < gR G) (hB2 : B < 2 ^ 28) (hB : B' < 2 ^ 28) : ∀ (m k : Nat) (h1 : sm_H), k + m = gP G → cU h1 G W (gP G) → cS h1 G W L B → cI h1 (B' + k) → eqx sxW h h1 → ∃ h2, xe 7 15 4 [.ref 113, .int (nI r), .int (nI (cntB (ltB G W r) k)), .int (nI k)] [] h1 = some ([.int (nI (ltN G W r))], h2) ∧ cU h2 G W (gP G) ∧ cS h2 G W L B ∧ cI h2 (B' + 6) ∧ eqx sxW h h2
  | 0, k, h1, e, U, S, I, E => by
    have hP := S.1.1.2.2.1
    have : k = gP G := by omega
    subst this
    rw [b15_4, show sm_gi h1 2 3 = nI (gP G) from S.1.2.2.1.1.2.2.1, if_pos (Int32.le_refl _), b15_86]
    exact ⟨h1, rfl, U, S, I.mono (by omega), E⟩
  | m + 1, k, h1, e, U, S, I, E => by
    have hw := S.1.1
    have hx := S.1.2.1
    have hP := hw.2.2.1
    have hR := hw.2.1
    have hk : k < gP G := by omega
    have hwp := S.2.2.1.2.2.1 k hk
    have hsh := S.2.2.1.1
    have ih := c_late_loop hr hB2 hB m (k + 1)
    rw [show cntB (ltB G W r) (k + 1) = cntB (ltB G W r) k + (if ltB G W r k = true then 1 else 0) from rfl] at ih
    rw [b15_4, show sm_gi h1 2 3 = nI (gP G) from S.1.2.2.1.1.2.2.1, if_neg (by rw [nI_leI (by omega) (by omega)]; omega), b15_15]
    obtain ⟨u, hu1, hu2, hu3⟩ := U k (by omega)
    simp (disch := omega) only [in_115, if_true, nI_clamp, hu1]
    rw [shr1 (by omega) (by omega)]
    by_cases q : u / 2 ^ r % 2 = 1
    · have hmem := ((hu3 r).mp q).2
      obtain ⟨-, hg, -, -, -⟩ := usW_mem hmem
      rw [if_pos (by rw [q]), b15_29]
      obtain ⟨h2, e2, Q2, S2, E2⟩ := c_startAt S hk
      rw [e2, bnd]
      simp only [List.nil_append]
      rw [b15_41, show sm_gi h2 104 6 = nI (wSh W) from Q2.2.2.2.2.1.1, shl1 (by omega), fa_or]
      obtain ⟨Q3, E3⟩ := cQ_set (i := 6) (v := nI (wSh W ||| 2 ^ r)) (sh' := wSh W ||| 2 ^ r) (pl' := none) (x1 := xS W k) Q2 (by omega) Q2.2.2.1 ⟨rfl, rfl⟩ (Nat.or_lt_two_pow (n := 12) hsh (Nat.pow_lt_pow_right (by decide) (by omega))) (fun t z => by cases z) (if_neg (by decide)) (if_pos rfl) (if_neg (by decide))
      obtain ⟨D, h4, e4, F4, Q4, I4, E4⟩ := c_spread Q3 (cI_A4 (cI_A4 I E2) E3) (by omega)
      rw [b15_56, e4, bnd]
      simp only [List.nil_append]
      have E14 : eqx sxW h1 h4 := ((E2.wk sxA4_W).tr (E3.wk sxA4_W)).tr (E4.wk sxH_W)
      have S4 := cS_W S Q4.1 E14
      have U4 : cU h4 G W (gP G) := cU_eqx (cU_eqx (cU_eqx U E2 (fun c i z => by unfold sxA4 at z; omega)) E3 (fun c i z => by unfold sxA4 at z; omega)) E4 (fun c i z => by unfold sxH at z; omega)
      rw [b15_63, c_daysToWait S4 hB2 Q4 F4 hg, bnd]
      simp only [app1, List.cons_append, List.nil_append]
      rw [b15_69]
      have hm1 := waI_m1 (sh := wSh W ||| 2 ^ r) (pap := wPap W k) hw hx S.2.2.1 (show B < 2 ^ 29 by omega) hk hwp.2.2.1
      by_cases z : waI G W (wSh W ||| 2 ^ r) k (wPap W k) = -1
      · rw [if_pos (show ltB G W r k = true from decide_eq_true ⟨hmem, hm1.mp z⟩)] at ih
        rw [if_pos z, b15_73, b15_78, nI_add, b15_80, nI_add]
        exact ih h4 (by omega) U4 S4 I4 (E.tr E14)
      · rw [if_neg (show ¬ ltB G W r k = true from fun y => z (hm1.mpr (of_decide_eq_true y).2))] at ih
        rw [if_neg z, b15_77, b15_78, nI_add, b15_80, nI_add]
        exact ih h4 (by omega) U4 S4 I4 (E.tr E14)
    · rw [if_neg (show ¬ ltB G W r k = true from fun y => q ((hu3 r).mpr ⟨hk, (of_decide_eq_true y).1⟩)), Nat.add_zero] at ih
      rw [if_neg (by rw [nI_eq (by omega) (by decide)]; exact q), b15_80, nI_add]
      exact ih h1 (by omega) U S (I.mono (by omega)) E
theorem c_worst_loop (hB2 : B < 2 ^ 28) (hB : B' < 2 ^ 27) : ∀ (m k : Nat) (h1 : sm_H) (l4 : Value), k + m = gR G → cU h1 G W (gP G) → cS h1 G W L B → cI h1 (B' + 6 + 6 * k) → eqx sxW h h1 → ∃ h2, xe 8 14 11 [.ref 113, .int (nI (wsF (ltN G W) k).1), .int (wsF (ltN G W) k).2, .int (nI k), l4] [] h1 = some ([.int (wsF (ltN G W) (gR G)).2], h2) ∧ cS h2 G W L B ∧ cI h2 (B' + 78) ∧ eqx sxW h h2
  | 0, k, h1, l4, e, U, S, I, E => by
    have hR := S.1.1.2.1
    have : k = gR G := by omega
    subst this
    rw [b14_11, show sm_gi h1 2 2 = nI (gR G) from S.1.2.2.1.1.2.1, if_pos (Int32.le_refl _), b14_46]
    exact ⟨h1, rfl, S, I.mono (by omega), E⟩
  | m + 1, k, h1, l4, e, U, S, I, E => by
    have hw := S.1.1
    have hR := hw.2.1
    have hP := hw.2.2.1
    have hle : ∀ r, ltN G W r ≤ 6 := fun r => Nat.le_trans (cntB_le _ _) hP
    have hmost := wsF_le hle k
    have hlk := hle k
    rw [b14_11, show sm_gi h1 2 2 = nI (gR G) from S.1.2.2.1.1.2.1, if_neg (by rw [nI_leI (by omega) (by omega)]; omega), b14_22, en_15, b15_0]
    obtain ⟨h2, e2, U2, S2, I2, E2⟩ := c_late_loop (h := h1) (r := k) (B' := B' + 6 + 6 * k) (by omega) hB2 (by omega) (gP G) 0 h1 (by omega) U S I eqx.rf
    rw [show cntB (ltB G W k) 0 = 0 from rfl] at e2
    rw [e2, bnd]
    simp only [app1, List.cons_append, List.nil_append]
    rw [b14_27]
    have ih := c_worst_loop hB2 hB m (k + 1)
    rw [wsF_succ] at ih
    by_cases z : (wsF (ltN G W) k).1 < ltN G W k
    · rw [if_pos z] at ih
      rw [if_neg (by rw [nI_leI (by omega) (by omega)]; omega), b14_35, b14_40, nI_add]
      exact ih h2 _ (by omega) U2 S2 (by rw [show B' + 6 + 6 * (k + 1) = B' + 6 + 6 * k + 6 by omega]; exact I2) (E.tr E2)
    · rw [if_neg z] at ih
      rw [if_pos (by rw [nI_leI (by omega) (by omega)]; omega), b14_40, nI_add]
      exact ih h2 _ (by omega) U2 S2 (by rw [show B' + 6 + 6 * (k + 1) = B' + 6 + 6 * k + 6 by omega]; exact I2) (E.tr E2)
theorem c_worst (hB2 : B < 2 ^ 28) (hB : B' < 2 ^ 27) (S : cS h G W L B) (I : cI h B') : ∃ h2, xc 129 [.ref 0] h = some ([.int (aWorst G W)], h2) ∧ cS h2 G W L B ∧ cI h2 (B' + 78) ∧ eqx sxW h h2 := by
  obtain ⟨h1, e1, U1, S1, I1, E1⟩ := c_timely hB2 (by omega) S I
  rw [en_129, b129_0, en_14, b14_0, e1, bnd]
  simp only [app1, List.cons_append, List.nil_append]
  rw [b14_4]
  obtain ⟨h2, e2, S2, I2, E2⟩ := c_worst_loop (h := h) hB2 hB (gR G) 0 h1 .null (by omega) U1 S1 I1 E1
  rw [show wsF (ltN G W) 0 = (0, -1) from rfl] at e2
  rw [e2, bnd]
  simp only [app1, List.cons_append, List.nil_append]
  rw [b129_7]
  exact ⟨h2, rfl, S2, I2, E2⟩
end CHW
