/-! ===== the class: forge, shut, days, undo, judge, perform, year, takes, person, road ===== -/
theorem c_forge {G : LG} {W : WG} {L : List WG} {B : Nat} {h : sm_H} {p : Int32} (S : cS h G W L B) : ∃ h2, xc 111 [.ref 0, .int p] h = some ([.int (dForge G W L p).1], h2) ∧ cS h2 G (dForge G W L p).2.1 (dForge G W L p).2.2 (B + 3) ∧ eqx sxQ h h2 := by
  obtain ⟨h1, e1, S1, b1, E1⟩ := c_before S
  have hw := S.1.1
  have hP := hw.2.2.1
  obtain ⟨h2, e2, E2, W2, X2⟩ := c_tryForge (p := p) isAB18 S1.1 S1.2.1 S1.2.2.1
  rw [en_111, b111_0, e1, bnd]
  simp only [List.nil_append]
  rw [b111_11, e2, bnd]
  simp only [app1, List.cons_append, List.nil_append]
  have hle : whyFo G W p.toInt64 ≤ 2 := by
    unfold whyFo
    repeat' split
    all_goals omega
  rw [b111_23]
  unfold dForge
  by_cases h0 : whyFo G W p.toInt64 = 0
  · rw [if_pos h0] at W2
    rw [if_pos (by rw [nI_z (by omega)]; exact h0), if_pos h0, b111_33]
    have hq : isN p.toInt64 (gP G) := by
      by_cases q : isN p.toInt64 (gP G)
      · exact q
      · unfold whyFo at h0; rw [if_neg q] at h0; omega
    obtain ⟨j, hj, rfl⟩ := isN_nI hq (by omega)
    have hwp := S1.2.2.1.2.2.1 j hj
    have h9 : wPap W j ≠ 9 := fun z => by
      unfold whyFo at h0
      rw [if_pos hq, nI_l (by omega), lN_toInt (by omega), Int.toNat_natCast, if_pos z] at h0
      omega
    rw [toN_nI (by omega)] at W2
    rw [toN_nI (by omega)]
    obtain ⟨h3, e3, S3, X3⟩ := c_after S1 (Nat.le_add_right B 3) (E1.wk (sxB_Q isAB23)) b1 E2 W2 ((S1.2.2.1.pap hj (by omega)).day (Nat.le_add_right _ _) (by omega)) (X2.wk sxA_C)
    rw [e3, bnd]
    simp only [List.nil_append]
    rw [b111_44, c_hasPerson isD2 S3.1.2.2.1.1.2.2.1 (by omega), bnd]
    simp only [app1, List.cons_append, List.nil_append]
    rw [b111_52, if_neg (by rw [bI_z]; exact fun z => z (isN_i hj (by omega))), b111_55, if_pos ((in_nI (by omega)).mpr (by rw [ln_21]; omega)), nI_clamp (by omega), b111_68]
    refine ⟨h3, ?_, S3, X3⟩
    rw [S3.2.1.2.2.2 j (by omega)]
    congr 4
    refine congrArg nI ?_
    exact upN_s
  · rw [if_neg h0] at W2
    rw [if_neg (by rw [nI_z (by omega)]; exact h0), if_neg h0, b111_28]
    exact ⟨h2, rfl, (cS_of S1 (Nat.le_refl B) E2 W2 S1.2.2.1 (X2.wk sxA_C)).mono (by omega), (E1.wk (sxB_Q isAB23)).tr (X2.wk (sxA_Q isAB18))⟩
theorem c_shut {G : LG} {W : WG} {L : List WG} {B : Nat} {h : sm_H} {r : Int32} (S : cS h G W L B) : ∃ h2, xc 112 [.ref 0, .int r] h = some ([.int (dShut G W L r).1], h2) ∧ cS h2 G (dShut G W L r).2.1 (dShut G W L r).2.2 B ∧ eqx sxQ h h2 := by
  obtain ⟨h1, e1, S1, b1, E1⟩ := c_before S
  have hw := S.1.1
  have hR := hw.2.1
  obtain ⟨h2, e2, E2, W2, X2⟩ := c_tryShut (r := r) isAB18 S1.1 S1.2.1 S1.2.2.1
  rw [en_112, b112_0, e1, bnd]
  simp only [List.nil_append]
  rw [b112_11, e2, bnd]
  simp only [app1, List.cons_append, List.nil_append]
  rw [b112_23]
  unfold dShut
  by_cases h0 : isN r.toInt64 (gR G)
  · rw [if_pos h0] at W2
    rw [if_pos h0, if_pos h0, if_pos (by decide +kernel), b112_33]
    obtain ⟨i, hi, rfl⟩ := isN_nI h0 (by omega)
    rw [toN_nI (by omega)] at W2
    rw [toN_nI (by omega)]
    have hx : wSh W ^^^ 2 ^ i < 4096 := Nat.xor_lt_two_pow (n := 12) S1.2.2.1.1 (Nat.pow_lt_pow_right (by decide) (by omega))
    obtain ⟨h3, e3, S3, X3⟩ := c_after S1 (Nat.le_refl B) (E1.wk (sxB_Q isAB23)) b1 E2 W2 (S1.2.2.1.sh hx) (X2.wk sxA_C)
    rw [e3, bnd]
    simp only [List.nil_append]
    rw [b112_44]
    refine ⟨h3, ?_, S3, X3⟩
    rw [S3.2.1.1, show wSh (sSh W (wSh W ^^^ 2 ^ i)) = wSh W ^^^ 2 ^ i from rfl, shr1 (by omega) (by omega)]
  · rw [if_neg h0] at W2
    rw [if_neg h0, if_neg h0, if_neg (by decide +kernel), b112_28]
    exact ⟨h2, rfl, cS_of S1 (Nat.le_refl B) E2 W2 S1.2.2.1 (X2.wk sxA_C), (E1.wk (sxB_Q isAB23)).tr (X2.wk (sxA_Q isAB18))⟩
theorem rng32 {n : Int32} {lo hi : Nat} (hhi : hi < 2 ^ 30) (hlo : lo < 2 ^ 30) : (lN lo ≤ n.toInt64 ∧ n.toInt64 ≤ lN hi) ↔ (¬ n < nI lo ∧ n ≤ nI hi) := by
  rw [Int64.le_iff_toInt_le, Int64.le_iff_toInt_le, lN_toInt (by omega), lN_toInt (by omega), Int32.toInt_toInt64, Int32.lt_iff_toInt_lt, Int32.le_iff_toInt_le, nI_toInt (by omega), nI_toInt (by omega)]
  omega
theorem c_days {G : LG} {W : WG} {L : List WG} {B : Nat} {h : sm_H} {n : Int32} (S : cS h G W L B) : ∃ h2, xc 113 [.ref 0, .int n] h = some ([.int (dDays G W L n).1], h2) ∧ cS h2 G (dDays G W L n).2.1 (dDays G W L n).2.2 (B + 99) ∧ eqx sxQ h h2 := by
  have hw := S.1.1
  have hP := hw.2.2.1
  rw [en_113, b113_0]
  unfold dDays
  by_cases h1 : lN 1 ≤ n.toInt64 ∧ n.toInt64 ≤ lN 99
  · have h1' := (rng32 (by decide) (by decide)).mp h1
    obtain ⟨k, hk1, hk2, rfl⟩ := within_nI (by decide) h1 (by decide)
    rw [if_neg h1'.1, b113_5, if_pos h1'.2, if_pos h1, b113_14, toN_nI (by omega)]
    obtain ⟨h2, e2, P2, X2⟩ := c_keep isAB18 hP S.2.2.2.1 S.2.1
    rw [e2, bnd]
    simp only [List.nil_append]
    obtain ⟨h3, e3, E3, W3, X3⟩ := c_pass (n := k) isAB18 (cE_eqx S.1 X2 (fun c i z => by unfold sx52 at z; omega)) (cW_eqx S.2.1 X2 (fun c i z => by unfold sx52 at z; omega))
    rw [b113_25, e3, bnd]
    simp only [List.nil_append]
    rw [b113_37]
    refine ⟨h3, rfl, ⟨E3, W3, S.2.2.1.days.mono (by omega), cPast_eqx P2 X3 (fun c i z => by unfold sxB at z; omega), pushL_wf (fun j hj => (S.2.2.2.2 j hj).mono (by omega)) (S.2.2.1.mono (by omega))⟩, (X2.wk sx52_Q).tr (X3.wk (sxB_Q isAB18))⟩
  · rw [if_neg h1]
    have h1' := fun z => h1 ((rng32 (by decide) (by decide)).mpr z)
    refine ⟨h, ?_, S.mono (by omega), eqx.rf⟩
    by_cases q : n < nI 1
    · rw [if_pos q, b113_11]
    · rw [if_neg q, b113_5, if_neg (fun z => h1' ⟨q, z⟩), b113_11]
theorem c_undo {G : LG} {W : WG} {L : List WG} {B : Nat} {h : sm_H} {n : Int32} (S : cS h G W L B) : ∃ h2, xc 114 [.ref 0, .int n] h = some ([.int (dUndo W L n).1], h2) ∧ cS h2 G (dUndo W L n).2.1 (dUndo W L n).2.2 B ∧ eqx sxQ h h2 := by
  have hw := S.1.1
  have hP := hw.2.2.1
  obtain ⟨nx, hnx, c2, c1, hL10, hwL⟩ := S.2.2.2.1
  rw [en_114, b114_0]
  unfold dUndo
  by_cases h1 : (lN 1 ≤ n.toInt64 ∧ n.toInt64 ≤ lN 10) ∧ n ≤ nI L.length
  · have h1' := (rng32 (by decide) (by decide)).mp h1.1
    have h2 := h1.2
    rw [if_neg h1'.1, b114_5, c1, if_pos h2, if_pos h1, b114_19]
    obtain ⟨k, hk1, hk2, rfl⟩ := within_nI (by decide) h1.1 (by decide)
    rw [nI_leI (by omega) (by omega)] at h2
    rw [toN_nI (by omega)]
    obtain ⟨h3, e3, P3, W3, X3⟩ := c_bringBack hP S.2.2.2.1 hk1 h2
    rw [e3, bnd]
    simp only [List.nil_append]
    rw [b114_31]
    refine ⟨h3, ?_, ⟨cE_eqx S.1 X3 (fun c i z => by unfold sxB sx52 at z; omega), W3, S.2.2.2.2 _ (by omega), P3, fun j hj => ?_⟩, X3.wk (fun c i z => by unfold sxB sx52 at z; unfold sxQ; omega)⟩
    · obtain ⟨-, -, -, c3, -, -⟩ := P3
      rw [c3]
      simp
    · simp at hj
      rw [show (L.take (L.length - k)).getD j W0 = L.getD j W0 by rw [List.getD_eq_getElem?_getD, List.getD_eq_getElem?_getD, List.getElem?_take_of_lt (by omega)]]
      exact S.2.2.2.2 j (by omega)
  · rw [if_neg h1]
    refine ⟨h, ?_, S, eqx.rf⟩
    by_cases q : n < nI 1
    · rw [if_pos q, b114_16]
    · rw [if_neg q, b114_5, c1]
      by_cases q2 : n ≤ nI L.length
      · refine absurd ⟨(rng32 (by decide) (by decide)).mpr ⟨q, Int32.le_trans q2 ?_⟩, q2⟩ h1
        rw [nI_leI (by omega) (by decide)]; omega
      · rw [if_neg q2, b114_16]
theorem c_isTray {t : Int32} {h : sm_H} : xc 94 [.ref 116, .int t] h = some ([.int (bI (isN t.toInt64 4))], h) := by
  rw [en_94]
  simp only [b94_0, b94_4, b94_9, b94_13, b94_14, or01_0, or01_1, if_true]
  rw [← bI_congr (isN_i32 (by decide))]
  unfold bI
  by_cases h1 : t < 0
  · rw [if_pos h1, if_neg (fun z => absurd z.1 (Int32.not_le.mpr h1))]
  · rw [if_neg h1]
    by_cases h2 : nI 4 ≤ t
    · rw [if_pos h2, if_neg (fun z => absurd z.2 (Int32.not_lt.mpr h2))]
    · rw [if_neg h2, if_pos ⟨Int32.not_lt.mp h1, Int32.not_le.mp h2⟩]
theorem c_isMissing {t : Nat} {T : TG} {h : sm_H} (hT : cT h T) (ht : t < 4) : xc 95 [.ref 116, .int (nI t)] h = some ([.int (bI (T t = none))], h) := by
  have H := hT t ht
  rw [en_95]
  simp (disch := omega) only [b95_0, b95_10, b95_14, b95_15, or01_0, or01_1, if_true, in_122, nI_clamp]
  unfold bI
  cases hq : T t with
  | none =>
    rw [hq] at H
    rw [if_pos H, if_pos rfl]
  | some q =>
    rw [hq] at H
    rw [if_neg (by rw [H.2.2.1, nI_m1 (by have := H.2.2.2.1; omega)]; exact id), if_neg (by simp)]
theorem pSum_eq {f : Nat → Nat} {P : Nat} (h : ∀ p, P ≤ p → p < 6 → f p = 0) : ∀ k, P ≤ k → k ≤ 6 → pSum f k = pSum f P
  | 0, a, _ => by rw [show P = 0 by omega]
  | k + 1, a, b => by
    by_cases q : P = k + 1
    · rw [q]
    · rw [show pSum f (k + 1) = pSum f k + f k from rfl, h k (by omega) (by omega), pSum_eq h k (by omega) (by omega)]
      rfl
theorem c_allPapers_loop {a P : Nat} {W : WG} {h : sm_H} (ha : isAB a) (hW : cW h a P W) : ∀ (m k : Nat), k + m = 6 → xe 1 100 4 [.ref a, .int (nI (pSum (wPap W) k)), .int (nI k)] [] h = some ([.int (nI (pSum (wPap W) 6))], h)
  | 0, k, e => by
    have : k = 6 := by omega
    subst this
    rw [b100_4, if_pos (Int32.le_refl _), b100_25]
  | m + 1, k, e => by
    rw [b100_4, if_neg (by rw [nI_leI (by omega) (by omega)]; omega), b100_10 ha.w]
    simp (disch := omega) only [in_w ha, if_true, nI_clamp]
    rw [hW.2.2.2 k (by omega), nI_add, nI_add]
    exact c_allPapers_loop ha hW m (k + 1) (by omega)
theorem c_allPapers {a P B : Nat} {G : LG} {W : WG} {h : sm_H} (ha : isAB a) (hw : wfG G) (hW : cW h a P W) (hww : wfW G B W) : xc 100 [.ref a] h = some ([.int (nI (pSum (wPap W) (gP G)))], h) := by
  rw [en_100, b100_0]
  have := c_allPapers_loop ha hW 6 0 (by omega)
  rw [pSum_eq hww.2.2.2.1 6 hw.2.2.1 (Nat.le_refl 6)] at this
  exact this
theorem tellF_wf {G : LG} (hw : wfG G) : ∀ (vs : List Int64) (B : Nat) (W : WG), wfW G B W → wfW G (B + 20 * vs.length) (tellF G W vs).2.2
  | [], B, W, h => h.mono (by omega)
  | v :: vs, B, W, h => by
    unfold tellF
    by_cases q : whyV G W v = 0
    · rw [if_pos q]
      have := tellF_wf hw vs (B + 20) _ (doV_wf hw h q)
      exact this.mono (by simp only [List.length_cons]; omega)
    · rw [if_neg q]
      exact h.mono (by omega)
theorem c_perform {G : LG} {W : WG} {L : List WG} {B : Nat} {h : sm_H} {T : TG} {t : Int32} (S : cS h G W L B) (hT : cT h T) : ∃ h2, xc 116 [.ref 0, .int t] h = some ([.int (dPerf G W L T t).1], h2) ∧ cS h2 G (dPerf G W L T t).2.1 (dPerf G W L T t).2.2 (B + 800) ∧ eqx sxQ h h2 := by
  have hw := S.1.1
  rw [en_116, b116_0, c_isTray, bnd]
  simp only [app1, List.cons_append, List.nil_append]
  rw [b116_8]
  unfold dPerf
  by_cases h1 : isN t.toInt64 4
  · rw [if_neg (by rw [bI_z]; exact fun z => z h1), if_pos h1]
    obtain ⟨j, hj, rfl⟩ := isN_nI h1 (by omega)
    rw [toN_nI (by omega), b116_14, c_isMissing hT hj, bnd]
    simp only [app1, List.cons_append, List.nil_append]
    rw [b116_22]
    cases hq : T j with
    | none =>
      dsimp only
      rw [if_neg (by rw [bI_z]; exact fun z => z rfl), b116_25]
      exact ⟨_, rfl, S.mono (by omega), eqx.rf⟩
    | some q =>
      dsimp only
      rw [if_pos (by rw [bI_z]; simp), b116_28]
      have H := hT j hj
      rw [hq] at H
      have hlen := H.2.2.2.1
      obtain ⟨h1', e1, S1, b1, E1⟩ := c_before S
      rw [e1, bnd]
      simp only [List.nil_append]
      obtain ⟨h2, e2, E2, W2, s2, X2⟩ := c_doAll isAB18 S1.1 S1.2.1 S1.2.2.1 (cT_eqx hT E1 (fun c i z => by unfold sxB at z; omega)) hj hq
      rw [b116_39, e2, bnd]
      simp only [app1, List.cons_append, List.nil_append]
      rw [b116_55]
      have hle := (tellF_le q.2 W (G := G)).1
      have hwf := (tellF_wf hw q.2 B W S.2.2.1).mono (show B + 20 * q.2.length ≤ B + 800 by omega)
      by_cases h0 : (tellF G W q.2).1 = 0
      · rw [if_pos (by rw [nI_le0 (by omega)]; exact h0), if_pos h0, b116_71]
        exact ⟨h2, rfl, cS_of S1 (by omega) E2 W2 hwf X2, (E1.wk (sxB_Q isAB23)).tr (X2.wk (sxC_Q isAB18))⟩
      · rw [if_neg (by rw [nI_le0 (by omega)]; exact h0), if_neg h0, b116_60]
        obtain ⟨h3, e3, S3, X3⟩ := c_after S1 (show B ≤ B + 800 by omega) (E1.wk (sxB_Q isAB23)) b1 E2 W2 hwf X2
        rw [e3, bnd]
        simp only [List.nil_append]
        rw [b116_71]
        exact ⟨h3, rfl, S3, X3⟩
  · rw [if_pos (by rw [bI_z]; exact h1), if_neg h1, b116_11]
    exact ⟨_, rfl, S.mono (by omega), eqx.rf⟩
theorem c_judge {G : LG} {W : WG} {L : List WG} {B : Nat} {h : sm_H} {T : TG} {t w : Int32} (S : cS h G W L B) (hT : cT h T) : ∃ h2, xc 115 [.ref 0, .int t, .int w] h = some ([.int (dJudge G W T t w)], h2) ∧ cS h2 G W L B ∧ eqx sxQ h h2 := by
  have hw := S.1.1
  have hP := hw.2.2.1
  rw [en_115, b115_0, c_isTray, bnd]
  simp only [app1, List.cons_append, List.nil_append]
  rw [b115_8]
  unfold dJudge
  have hwN : isN w.toInt64 4 ↔ (¬ w < 0 ∧ w ≤ nI 3) := by
    rw [← isN_i32 (by decide), Int32.not_lt, show nI 4 = nI (3 + 1) from rfl, Int32.lt_iff_toInt_lt, Int32.le_iff_toInt_le, Int32.le_iff_toInt_le, nI_toInt (by omega), nI_toInt (by omega)]
    omega
  by_cases h1 : isN t.toInt64 4
  · rw [if_neg (by rw [bI_z]; exact fun z => z h1), if_pos h1, b115_11]
    obtain ⟨j, hj, rfl⟩ := isN_nI h1 (by omega)
    by_cases h2 : isN w.toInt64 4
    · rw [if_neg (hwN.mp h2).1, b115_15, if_pos (hwN.mp h2).2, if_pos h2, toN_nI (by omega), b115_23, c_isMissing hT hj, bnd]
      obtain ⟨k, hk, rfl⟩ := isN_nI h2 (by omega)
      simp only [app1, List.cons_append, List.nil_append]
      rw [b115_31]
      cases hq : T j with
      | none =>
        dsimp only
        rw [if_neg (by rw [bI_z]; exact fun z => z rfl), b115_34]
        exact ⟨_, rfl, S, eqx.rf⟩
      | some q =>
        dsimp only
        rw [if_pos (by rw [bI_z]; simp), b115_37]
        have H := hT j hj
        rw [hq] at H
        have hlen := H.2.2.2.1
        obtain ⟨h1', e1, S1, b1, E1⟩ := c_before S
        rw [e1, bnd]
        simp only [List.nil_append]
        obtain ⟨h2', e2, E2, W2, s2, X2⟩ := c_doAll isAB23 S1.1 b1 S1.2.2.1 (cT_eqx hT E1 (fun c i z => by unfold sxB at z; omega)) hj hq
        rw [b115_48, e2, bnd]
        simp only [app1, List.cons_append, List.nil_append]
        rw [b115_64, toN_nI (by omega)]
        have hle := tellF_le q.2 W (G := G)
        have hwf := tellF_wf hw q.2 B W S.2.2.1
        have g122 : sm_gi h2' 122 j = nI q.2.length := ((X2.1 122 j (by unfold sxC sxA; omega)).trans (E1.1 122 j (by unfold sxB; omega))).trans H.2.2.1
        have S2 : cS h2' G W L B := ⟨E2, cW_eqx S1.2.1 X2 (fun c i z => by unfold sxC sxA at z; omega), S1.2.2.1, cPast_eqx S1.2.2.2.1 X2 (fun c i z => by unfold sxC sxA at z; omega), S1.2.2.2.2⟩
        refine ⟨h2', ?_, S2, (E1.wk (sxB_Q isAB23)).tr (X2.wk (sxC_Q isAB23))⟩
        rcases (by omega : k = 0 ∨ k = 1 ∨ k = 2 ∨ k = 3) with rfl | rfl | rfl | rfl
        · rw [show (if (nI 0).toInt < 0 then 127 else [92, 111, 119].getD ((nI 0).toInt - 0).toNat 127) = 92 from by decide +kernel, b115_92]
          simp (disch := omega) only [in_122, if_true, nI_clamp, g122, b115_105, b115_109, b115_110]
          by_cases z : (tellF G W q.2).2.1 = 0
          · rw [if_pos (by rw [nI_leI (by omega) (by omega), hle.2.2.mp z]; exact Nat.le_refl _), if_pos z]
          · have hne : (tellF G W q.2).1 ≠ q.2.length := fun y => z (hle.2.2.mpr y)
            rw [if_neg (by rw [nI_leI (by omega) (by omega)]; have := hle.1; omega), if_neg z]
        · rw [show (if (nI 1).toInt < 0 then 127 else [92, 111, 119].getD ((nI 1).toInt - 0).toNat 127) = 111 from by decide +kernel, b115_111, s2]
          rfl
        · rw [show (if (nI 2).toInt < 0 then 127 else [92, 111, 119].getD ((nI 2).toInt - 0).toNat 127) = 119 from by decide +kernel, b115_119, W2.2.1]
          rfl
        · rw [show (if (nI 3).toInt < 0 then 127 else [92, 111, 119].getD ((nI 3).toInt - 0).toNat 127) = 127 from by decide +kernel, b115_127, c_allPapers isAB23 hw W2 hwf, bnd]
          simp only [app1, List.cons_append, List.nil_append]
          rw [b115_134]
          rfl
    · rw [if_neg h2]
      refine ⟨h, ?_, S, eqx.rf⟩
      by_cases q : w < 0
      · rw [if_pos q, b115_20]
      · rw [if_neg q, b115_15, if_neg (fun z => h2 (hwN.mpr ⟨q, z⟩)), b115_20]
  · rw [if_pos (by rw [bI_z]; exact h1), b115_20]
    refine ⟨h, ?_, S, eqx.rf⟩
    rw [if_neg h1]
    split <;> rfl
theorem yearF_wf {G : LG} (hw : wfG G) : ∀ (m B : Nat) (W : WG) (x : Int32), wfW G B W → wfW G (B + 20 * m) (yearF G m W x).2 ∧ (yearF G m W x).1 ≤ m
  | 0, B, W, x, h => ⟨h.mono (by omega), Nat.le_refl _⟩
  | m + 1, B, W, x, h => by
    unfold yearF
    by_cases q : whyV G W (drw x).1.toInt64 = 0
    · rw [if_pos q]
      have := yearF_wf hw m (B + 20) _ (drw x).2 (doV_wf hw h q)
      exact ⟨this.1.mono (by omega), by have := this.2; dsimp only; omega⟩
    · rw [if_neg q]
      have := yearF_wf hw m B W (drw x).2 h
      exact ⟨this.1.mono (by omega), by have := this.2; omega⟩
theorem c_year {G : LG} {W : WG} {L : List WG} {B : Nat} {h : sm_H} {sd n : Int32} (S : cS h G W L B) : ∃ h2, xc 117 [.ref 0, .int sd, .int n] h = some ([.int (dYear G W L sd n).1], h2) ∧ cS h2 G (dYear G W L sd n).2.1 (dYear G W L sd n).2.2 (B + 800) ∧ eqx sxQ h h2 := by
  have hw := S.1.1
  rw [en_117, b117_0]
  unfold dYear
  by_cases h1 : lN 1 ≤ n.toInt64 ∧ n.toInt64 ≤ lN 40
  · have h1' := (rng32 (by decide) (by decide)).mp h1
    rw [if_neg h1'.1, b117_5, if_pos h1'.2, if_pos h1, b117_14]
    obtain ⟨k, hk1, hk2, rfl⟩ := within_nI (by decide) h1 (by decide)
    rw [toN_nI (by omega)]
    obtain ⟨h1', e1, S1, b1, E1⟩ := c_before S
    rw [e1, bnd]
    simp only [List.nil_append]
    obtain ⟨h2, e2, E2, W2, X2⟩ := c_liveYear (sd := sd) isAB18 hk2 S1.1 S1.2.1 S1.2.2.1
    rw [b117_25, e2, bnd]
    simp only [app1, List.cons_append, List.nil_append]
    rw [b117_38]
    obtain ⟨hwf0, hle⟩ := yearF_wf hw k B W sd S.2.2.1
    have hwf := hwf0.mono (show B + 20 * k ≤ B + 800 by omega)
    by_cases h0 : (yearF G k W sd).1 = 0
    · rw [if_pos (by rw [nI_le0 (by omega)]; exact h0), if_pos h0, b117_54]
      exact ⟨h2, rfl, cS_of S1 (by omega) E2 W2 hwf X2, (E1.wk (sxB_Q isAB23)).tr (X2.wk (sxC_Q isAB18))⟩
    · rw [if_neg (by rw [nI_le0 (by omega)]; exact h0), if_neg h0, b117_43]
      obtain ⟨h3, e3, S3, X3⟩ := c_after S1 (show B ≤ B + 800 by omega) (E1.wk (sxB_Q isAB23)) b1 E2 W2 hwf X2
      rw [e3, bnd]
      simp only [List.nil_append]
      rw [b117_54]
      exact ⟨h3, rfl, S3, X3⟩
  · rw [if_neg h1]
    have h1' := fun z => h1 ((rng32 (by decide) (by decide)).mpr z)
    refine ⟨h, ?_, S.mono (by omega), eqx.rf⟩
    by_cases q : n < nI 1
    · rw [if_pos q, b117_11]
    · rw [if_neg q, b117_5, if_neg (fun z => h1' ⟨q, z⟩), b117_11]
theorem c_takes {G : LG} {W : WG} {L : List WG} {B : Nat} {h : sm_H} {p r : Int32} (S : cS h G W L B) : ∃ h2, xc 108 [.ref 0, .int p, .int r] h = some ([.int (dTakes G W p r)], h2) ∧ cS h2 G W L B ∧ eqx sxQ h h2 := by
  obtain ⟨hw, hx, hG, hK⟩ := S.1
  have hR := hw.2.1
  have hP := hw.2.2.1
  have hN := hw.1.2
  have p6 := pow6 hN
  rw [en_108, b108_0, c_hasPerson isD2 hG.1.2.2.1 (by omega), bnd]
  simp only [app1, List.cons_append, List.nil_append]
  rw [b108_8]
  unfold dTakes
  by_cases h1 : isN p.toInt64 (gP G)
  · rw [if_neg (by rw [bI_z]; exact fun z => z h1), b108_11, c_hasRoad isD2 hG.1.2.1 (by omega), bnd]
    simp only [app1, List.cons_append, List.nil_append]
    rw [b108_19]
    by_cases h2 : isN r.toInt64 (gR G)
    · rw [if_neg (by rw [bI_z]; exact fun z => z h2), if_pos ⟨h1, h2⟩]
      obtain ⟨j, hj, rfl⟩ := isN_nI h1 (by omega)
      obtain ⟨i, hi, rfl⟩ := isN_nI h2 (by omega)
      have hwj := S.2.2.1.2.2.1 j hj
      have hcj := S.2.1.2.2.1 j hj
      have hpj := S.2.1.2.2.2 j (by omega)
      have c19 : sm_gi h 19 j = nI (wAt W j) := hcj.1
      have c22 : sm_gi h 22 j = nI (wBeen W j) := hcj.2.2
      have c21 : sm_gi h 21 j = nI (wPap W j) := hpj
      rw [toN_nI (by omega), toN_nI (by omega), b108_25, if_pos ((in_nI (by omega)).mpr (by rw [ln_19]; omega)), nI_clamp (by omega), c19, c_across isD2 hG hw hi (by omega), bnd]
      simp only [app1, List.cons_append, List.nil_append]
      rw [b108_42]
      cases ht : toF G i (wAt W j) with
      | none =>
        rw [show toI none = -1 from rfl, if_pos rfl, b108_48]
        exact ⟨h, rfl, S, eqx.rf⟩
      | some t =>
        have htN := toF_lt hw hi ht
        dsimp only
        rw [show toI (some t) = nI t from rfl, if_neg (by rw [nI_m1 (by omega)]; exact id), b108_51, c_isBridge isD2 hG hw hi, bnd]
        simp only [app1, List.cons_append, List.nil_append]
        rw [b108_59]
        unfold tolW
        by_cases h4 : gBri G i = true
        · rw [if_neg (by rw [bI_z]; exact fun z => z h4), if_pos h4, b108_64, if_pos ((in_nI (by omega)).mpr (by rw [ln_22]; omega)), if_pos ((in_nI (by omega)).mpr (by rw [ln_21]; omega)), nI_clamp (by omega), c22, c21]
          obtain ⟨h3, e3, k3, E3⟩ := c_toll (pap := wPap W j) (b := wBeen W j) hG hw hj hi ht (by omega)
          rw [e3, bnd]
          simp only [app1, List.cons_append, List.nil_append]
          rw [b108_92, tollI_N.1]
          refine ⟨h3, rfl, ⟨⟨hw, hx, cG_P hG E3, fun p r f t b pap a1 a2 a3 a4 a5 a6 => by rw [k3]; exact hK p r f t b pap a1 a2 a3 a4 a5 a6⟩, cW_P isAB18 S.2.1 E3, S.2.2.1, cPast_eqx S.2.2.2.1 E3 (fun c i z => by unfold sxP at z; omega), S.2.2.2.2⟩, E3.wk (fun c i z => by unfold sxP at z; unfold sxQ; omega)⟩
        · rw [if_pos (by rw [bI_z]; exact h4), if_neg h4, b108_62]
          exact ⟨h, rfl, S, eqx.rf⟩
    · rw [if_pos (by rw [bI_z]; exact h2), if_neg (fun z => h2 z.2), b108_22]
      exact ⟨h, rfl, S, eqx.rf⟩
  · rw [if_pos (by rw [bI_z]; exact h1), if_neg (fun z => h1 z.1), b108_22]
    exact ⟨h, rfl, S, eqx.rf⟩
theorem in_c {c n : Nat} (hc : n < sm_ln c) (hn : n < 2 ^ 31) : sm_in c (nI n) := (in_nI hn).mpr hc
theorem c_person {G : LG} {W : WG} {L : List WG} {B : Nat} {h : sm_H} {p w : Int32} (S : cS h G W L B) : xc 105 [.ref 0, .int p, .int w] h = some ([.int (dPerson G W p w)], h) := by
  obtain ⟨hw, hx, hG, hK⟩ := S.1
  have hP := hw.2.2.1
  rw [en_105, b105_0, c_hasPerson isD2 hG.1.2.2.1 (by omega), bnd]
  simp only [app1, List.cons_append, List.nil_append]
  rw [b105_8]
  unfold dPerson
  by_cases h1 : isN p.toInt64 (gP G)
  · rw [if_neg (by rw [bI_z]; exact fun z => z h1), b105_14]
    by_cases h2 : isN w.toInt64 8
    · have hc : isN p.toInt64 (gP G) ∧ isN w.toInt64 8 := ⟨h1, h2⟩
      rw [if_pos hc]
      obtain ⟨j, hj, rfl⟩ := isN_nI h1 (by omega)
      obtain ⟨k, hk, rfl⟩ := isN_nI h2 (by omega)
      have hm := S.2.1.2.2.1 j hj
      have hg := hG.2.2.1 j hj
      have hrd := S.2.2.1.2.1
      rw [toN_nI (by omega), toN_nI (by omega)]
      rcases (by omega : k = 0 ∨ k = 1 ∨ k = 2 ∨ k = 3 ∨ k = 4 ∨ k = 5 ∨ k = 6 ∨ k = 7) with rfl | rfl | rfl | rfl | rfl | rfl | rfl | rfl
      · rw [show (if (nI 0).toInt < 0 then 142 else [60, 70, 80, 90, 100, 110, 120, 130].getD ((nI 0).toInt - 0).toNat 142) = 60 from by decide +kernel, b105_60, if_pos (in_c (by rw [ln_19]; omega) (by omega)), nI_clamp (by omega), show sm_gi h 19 j = nI (wAt W j) from hm.1]; rfl
      · rw [show (if (nI 1).toInt < 0 then 142 else [60, 70, 80, 90, 100, 110, 120, 130].getD ((nI 1).toInt - 0).toNat 142) = 70 from by decide +kernel, b105_70, if_pos (in_c (by rw [ln_20]; omega) (by omega)), nI_clamp (by omega), show sm_gi h 20 j = nI (wDay W j) from hm.2.1]; rfl
      · rw [show (if (nI 2).toInt < 0 then 142 else [60, 70, 80, 90, 100, 110, 120, 130].getD ((nI 2).toInt - 0).toNat 142) = 80 from by decide +kernel, b105_80, if_pos (in_c (by rw [ln_21]; omega) (by omega)), nI_clamp (by omega), show sm_gi h 21 j = nI (wPap W j) from S.2.1.2.2.2 j (by omega)]; rfl
      · rw [show (if (nI 3).toInt < 0 then 142 else [60, 70, 80, 90, 100, 110, 120, 130].getD ((nI 3).toInt - 0).toNat 142) = 90 from by decide +kernel, b105_90, if_pos (in_c (by rw [ln_22]; omega) (by omega)), nI_clamp (by omega), show sm_gi h 22 j = nI (wBeen W j) from hm.2.2]; rfl
      · rw [show (if (nI 4).toInt < 0 then 142 else [60, 70, 80, 90, 100, 110, 120, 130].getD ((nI 4).toInt - 0).toNat 142) = 100 from by decide +kernel, b105_100, if_pos (in_c (by rw [ln_8]; omega) (by omega)), nI_clamp (by omega), show sm_gi h 8 j = nI (gBor G j) from hg.1]; rfl
      · rw [show (if (nI 5).toInt < 0 then 142 else [60, 70, 80, 90, 100, 110, 120, 130].getD ((nI 5).toInt - 0).toNat 142) = 110 from by decide +kernel, b105_110, if_pos (in_c (by rw [ln_10]; omega) (by omega)), nI_clamp (by omega), show sm_gi h 10 j = toI (gGol G j) from hg.2.1]; rfl
      · rw [show (if (nI 6).toInt < 0 then 142 else [60, 70, 80, 90, 100, 110, 120, 130].getD ((nI 6).toInt - 0).toNat 142) = 120 from by decide +kernel, b105_120, if_pos (in_c (by rw [ln_11]; omega) (by omega)), nI_clamp (by omega), show sm_gi h 11 j = gBy G j from hg.2.2]; rfl
      · rw [show (if (nI 7).toInt < 0 then 142 else [60, 70, 80, 90, 100, 110, 120, 130].getD ((nI 7).toInt - 0).toNat 142) = 130 from by decide +kernel, b105_130, S.2.1.2.1, shr1 (by omega) (by omega)]; rfl
    · rw [ts_out (isN_not h2), if_neg (fun z : isN p.toInt64 (gP G) ∧ isN w.toInt64 8 => h2 z.2), b105_142]
  · rw [if_pos (by rw [bI_z]; exact h1), if_neg (fun z => h1 z.1), b105_11]
theorem c_road {G : LG} {W : WG} {L : List WG} {B : Nat} {h : sm_H} {r w : Int32} (S : cS h G W L B) : xc 106 [.ref 0, .int r, .int w] h = some ([.int (dRoad G W r w)], h) := by
  obtain ⟨hw, hx, hG, hK⟩ := S.1
  have hR := hw.2.1
  have hb := gBs_lt hw
  rw [en_106, b106_0, c_hasRoad isD2 hG.1.2.1 (by omega), bnd]
  simp only [app1, List.cons_append, List.nil_append]
  rw [b106_8]
  unfold dRoad
  by_cases h1 : isN r.toInt64 (gR G)
  · rw [if_neg (by rw [bI_z]; exact fun z => z h1), b106_14]
    by_cases h2 : isN w.toInt64 6
    · have hc : isN r.toInt64 (gR G) ∧ isN w.toInt64 6 := ⟨h1, h2⟩
      rw [if_pos hc]
      obtain ⟨j, hj, rfl⟩ := isN_nI h1 (by omega)
      obtain ⟨k, hk, rfl⟩ := isN_nI h2 (by omega)
      have hg := hG.2.1 j hj
      have hsh := S.2.2.1.1
      rw [toN_nI (by omega), toN_nI (by omega)]
      rcases (by omega : k = 0 ∨ k = 1 ∨ k = 2 ∨ k = 3 ∨ k = 4 ∨ k = 5) with rfl | rfl | rfl | rfl | rfl | rfl
      · rw [show (if (nI 0).toInt < 0 then 116 else [52, 62, 72, 82, 94, 104].getD ((nI 0).toInt - 0).toNat 116) = 52 from by decide +kernel, b106_52, if_pos (in_c (by rw [ln_3]; omega) (by omega)), nI_clamp (by omega), show sm_gi h 3 j = nI (gOne G j) from hg.1]; rfl
      · rw [show (if (nI 1).toInt < 0 then 116 else [52, 62, 72, 82, 94, 104].getD ((nI 1).toInt - 0).toNat 116) = 62 from by decide +kernel, b106_62, if_pos (in_c (by rw [ln_4]; omega) (by omega)), nI_clamp (by omega), show sm_gi h 4 j = nI (gOth G j) from hg.2.1]; rfl
      · rw [show (if (nI 2).toInt < 0 then 116 else [52, 62, 72, 82, 94, 104].getD ((nI 2).toInt - 0).toNat 116) = 72 from by decide +kernel, b106_72, if_pos (in_c (by rw [ln_5]; omega) (by omega)), nI_clamp (by omega), show sm_gi h 5 j = nI (gLon G j) from hg.2.2.1]; rfl
      · rw [show (if (nI 3).toInt < 0 then 116 else [52, 62, 72, 82, 94, 104].getD ((nI 3).toInt - 0).toNat 116) = 82 from by decide +kernel, b106_82, hG.1.2.2.2, shr1 (by omega) (by omega), show gBs G / 2 ^ j % 2 = if gBri G j = true then 1 else 0 from bsN_bit _ _ _ hj]; rfl
      · rw [show (if (nI 4).toInt < 0 then 116 else [52, 62, 72, 82, 94, 104].getD ((nI 4).toInt - 0).toNat 116) = 94 from by decide +kernel, b106_94, if_pos (in_c (by rw [ln_6]; omega) (by omega)), nI_clamp (by omega), show sm_gi h 6 j = nI (gFlo G j) from hg.2.2.2]; rfl
      · rw [show (if (nI 5).toInt < 0 then 116 else [52, 62, 72, 82, 94, 104].getD ((nI 5).toInt - 0).toNat 116) = 104 from by decide +kernel, b106_104, S.2.1.1, shr1 (by omega) (by omega)]; rfl
    · rw [ts_out (isN_not h2), if_neg (fun z : isN r.toInt64 (gR G) ∧ isN w.toInt64 6 => h2 z.2), b106_116]
  · rw [if_pos (by rw [bI_z]; exact h1), if_neg (fun z => h1 z.1), b106_11]
