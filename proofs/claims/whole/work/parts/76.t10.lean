/-! ===== the round over all bridges ===== -/
noncomputable def aRound (G : LG) (W : WG) (p : Int32) : Int32 := if isN p.toInt64 (gP G) then dyI G (bst (gLon G) (gwk (stp G (wSh W) none (toN p) true) (thK G 2 (wAt W (toN p))) (lpK G none 2) (xS W (toN p)))) else -2
theorem bsN_pos (f : Nat → Bool) : ∀ k, bsN f k ≠ 0 → ∃ r, r < k ∧ f r = true
  | 0, h => absurd rfl h
  | k + 1, h => by
    by_cases q : f k = true
    · exact ⟨k, by omega, q⟩
    · have : bsN f (k + 1) = bsN f k := by
        show bsN f k + (if f k = true then 2 ^ k else 0) = bsN f k
        rw [if_neg q, Nat.add_zero]
      rw [this] at h
      obtain ⟨r, a, b⟩ := bsN_pos f k h
      exact ⟨r, by omega, b⟩
theorem nbr_pc {G : LG} (hw : wfG G) : pcnt (gBs G) 12 = nbr G (gR G) := by
  unfold gBs
  rw [pcnt_bsN, nbr_cnt, show min 12 (gR G) = gR G by have := hw.2.1; omega]
theorem full_mask : ∀ n, n < 5 → ∀ m, m < 2 ^ n → (pcnt m 12 = n ↔ m = 2 ^ n - 1) := by decide +kernel
theorem m_round {G : LG} {W : WG} {L : List WG} {B : Nat} {h : sm_H} (S : mS h G W L B) (hx : wfX G) (X : mX h) {p : Int32} : ∃ h2, xc 255 [.ref 169, .int p] h = some ([.int (aRound G W p)], h2) ∧ mS h2 G W L B ∧ mX h2 ∧ eqx sxZ h h2 := by
  have hw := S.1
  have hP := hw.2.2.1
  have hN := hw.1.2
  have S0 := mS_thrown (v := nI 0) S
  obtain ⟨n0, K0, V0⟩ := mX_thrown (v := nI 0) X
  rw [en_255, b255_0, b255_5, m_isPerson S0.2.1.1.2.2 (by omega), bnd]
  simp only [app1, List.cons_append, List.nil_append]
  rw [b255_11]
  unfold aRound
  by_cases h1 : isN p.toInt64 (gP G)
  · rw [if_neg (by rw [bI_z]; exact fun z => z h1), if_pos h1, b255_17]
    obtain ⟨j, hj, rfl⟩ := isN_nI h1 (by omega)
    obtain ⟨a1, a2, a3, a4, a5, a6⟩ := mS_at S0 hj
    simp (disch := omega) only [nI_add, in_170, if_true, nI_clamp, a3]
    obtain ⟨n, K, h2, e2, C2, L2, cm2, E2⟩ := m_laysStands (ov := true) (mS_C S0 hx hj) V0 a1 a2 a4 a5 a6
    rw [if_pos rfl] at e2
    rw [e2, bnd]
    simp only [List.nil_append]
    rw [b255_32]
    have g90 : sm_gi h2 170 (90 + j) = nI (wAt W j) := (E2.1 170 _ (by unfold sxS; omega)).trans a1
    simp (disch := omega) only [nI_add, in_170, if_true, nI_clamp, g90]
    obtain ⟨st, h3, e3, a3', J3, F3, N3, E3⟩ := m_laysStill (kd := 2) (g := wAt W j) (gI := nI (wAt W j)) ⟨C2, L2, cm2⟩ (by decide) (fun _ => ⟨rfl, by omega⟩)
    rw [← st_bst N3 J3 F3 (Or.inl rfl)] at e3
    rw [e3, bnd, toN_nI (by omega)]
    simp only [app1, List.cons_append, List.nil_append]
    rw [b255_46]
    have E23 := (E2.wk sxS_Z).tr (E3.wk sx179_Z)
    exact ⟨h3, rfl, mS_Z S0 E23, mN_X N3, Z_thrown E23⟩
  · rw [if_pos (by rw [bI_z]; exact h1), if_neg h1, b255_14]
    exact ⟨_, rfl, S0, ⟨n0, K0, V0⟩, Z_thrown eqx.rf⟩
theorem c_round_loop {G : LG} {sh p mk : Nat} {x0 : XS} {D : Nat → Option (List Nat)} {h : sm_H} (Q : cQ h G sh none p true mk x0) (F : FS h G sh none p true x0 D) (hmk : mk ≤ 16) (hmk1 : 1 ≤ mk) : ∀ (m row v : Nat), row + m = mk * 640 → (mk - 1) * 640 ≤ row → v ≤ 1000000000 → (∀ row', (mk - 1) * 640 ≤ row' → row' < row → ∀ w, D (row' * 6 + xF x0) = some w → v ≤ dys (gLon G) w) → (v = 1000000000 ∨ ∃ row' w, (mk - 1) * 640 ≤ row' ∧ row' < row ∧ D (row' * 6 + xF x0) = some w ∧ dys (gLon G) w = v) →
    ∃ v', xe 7 91 46 [.ref 104, .int (nI v), .int (nI row)] [] h = some ([.int (if v' = 1000000000 then -1 else nI v')], h) ∧ v' ≤ 1000000000 ∧ (∀ row', (mk - 1) * 640 ≤ row' → row' < mk * 640 → ∀ w, D (row' * 6 + xF x0) = some w → v' ≤ dys (gLon G) w) ∧ (v' = 1000000000 ∨ ∃ row' w, (mk - 1) * 640 ≤ row' ∧ row' < mk * 640 ∧ D (row' * 6 + xF x0) = some w ∧ dys (gLon G) w = v')
  | 0, row, v, e, hlo, hv, a, b => by
    have : row = mk * 640 := by omega
    subst this
    rw [b91_46, Q.2.2.2.2.2.2.1, pk_mul, if_pos (Int32.le_refl _), b91_96]
    refine ⟨v, ?_, hv, a, b⟩
    by_cases q : v = 1000000000
    · rw [if_pos (by rw [q]), if_pos q, b91_102, b91_107]
    · rw [if_neg (by rw [nI_eq (by omega) (by decide)]; exact q), if_neg q, b91_106, b91_107]
  | m + 1, row, v, e, hlo, hv, a, b => by
    have hw := Q.1.1
    have hx := Q.1.2.1
    have hN := hw.1.2
    have hf6 : xF x0 < 6 := (Q.2.2.1.1.b hw).2.2.2
    obtain ⟨tn, C⟩ := F.2.1
    have htn := C.2.1
    have hrow : row < 10240 := by omega
    rw [b91_46, Q.2.2.2.2.2.2.1, pk_mul, if_neg (by rw [nI_leI (by omega) (by omega)]; omega), b91_58]
    simp (disch := omega) only [in_107, if_true, nI_clamp]
    obtain ⟨j, ja, jb, je, jg⟩ := C.2.2 row hrow
    rw [ja, C.1]
    by_cases q : j = tn
    · rw [if_pos (by rw [q]), b91_71, show sm_gi h 104 3 = nI (xF x0) from Q.2.2.2.1.2.1, pk_mul, nI_add]
      simp (disch := omega) only [in_105, if_true, nI_clamp, je q (xF x0) hf6]
      rw [c_min, bnd]
      simp only [app1, List.cons_append, List.nil_append]
      rw [b91_89, b91_90, nI_add]
      have hdn : dN G (D (row * 6 + xF x0)) ≤ 1000000000 := by
        cases hq : D (row * 6 + xF x0) with
        | none => exact Nat.le_refl _
        | some w =>
          have := TD_days hw hx Q.2.2.1.1 (Or.inr Q.2.2.1.2) F.1 hq
          show dys (gLon G) w ≤ 1000000000
          omega
      have hmin : (if nI v ≤ nI (dN G (D (row * 6 + xF x0))) then nI v else nI (dN G (D (row * 6 + xF x0)))) = nI (min v (dN G (D (row * 6 + xF x0)))) := by
        by_cases z : v ≤ dN G (D (row * 6 + xF x0))
        · rw [if_pos (by rw [nI_leI (by omega) (by omega)]; exact z), Nat.min_eq_left z]
        · rw [if_neg (by rw [nI_leI (by omega) (by omega)]; exact z), Nat.min_eq_right (by omega)]
      rw [hmin]
      refine c_round_loop Q F hmk hmk1 m (row + 1) _ (by omega) (by omega) (by omega) (fun row' h1 h2 w hd => ?_) ?_
      · by_cases z : row' = row
        · subst z
          rw [hd]
          show min v (dys (gLon G) w) ≤ _
          omega
        · have := a row' h1 (by omega) w hd
          omega
      · by_cases z : v ≤ dN G (D (row * 6 + xF x0))
        · rw [Nat.min_eq_left z]
          rcases b with b | ⟨row', w, b1, b2, b3, b4⟩
          · exact Or.inl b
          · exact Or.inr ⟨row', w, b1, by omega, b3, b4⟩
        · rw [Nat.min_eq_right (by omega)]
          cases hq : D (row * 6 + xF x0) with
          | none => exact Or.inl rfl
          | some w => exact Or.inr ⟨row, w, hlo, by omega, hq, rfl⟩
    · rw [if_neg (by rw [nI_eq (by omega) (by omega)]; exact q), b91_90, nI_add]
      refine c_round_loop Q F hmk hmk1 m (row + 1) v (by omega) (by omega) hv (fun row' h1 h2 w hd => ?_) ?_
      · by_cases z : row' = row
        · subst z
          rw [jg q (xF x0) hf6] at hd
          cases hd
        · exact a row' h1 (by omega) w hd
      · rcases b with b | ⟨row', w, b1, b2, b3, b4⟩
        · exact Or.inl b
        · exact Or.inr ⟨row', w, b1, by omega, b3, b4⟩
theorem c_daysRound {G : LG} {sh p B : Nat} {x0 : XS} {h : sm_H} (Q : cQ h G sh none p false 1 x0) (I : cI h B) (hB : B < 2 ^ 29) : ∃ h2, xc 91 [.ref 104] h = some ([.int (dyI G (bst (gLon G) (gwk (stp G sh none p true) (thK G 2 (xF x0)) (lpK G none 2) x0)))], h2) ∧ cE h2 G ∧ cI h2 (B + 1) ∧ eqx sxW h h2 := by
  have hw := Q.1.1
  have hx := Q.1.2.1
  have hR := hw.2.1
  have ok0 := Q.2.2.1.1
  have hm0 := Q.2.2.1.2
  have h4 := hx.1
  have hbs := gBs_lt hw
  have hnb := nbr_pc hw
  rw [en_91, b91_0, show sm_gi h 2 4 = nI (gBs G) from Q.1.2.2.1.1.2.2.2]
  by_cases q0 : gBs G = 0
  · have hn0 : nbr G (gR G) = 0 := by rw [← hnb, q0]; rfl
    rw [if_pos (by rw [q0]; decide +kernel), b91_10]
    have hT : gwk (stp G sh none p true) (thK G 2 (xF x0)) (lpK G none 2) x0 [] := ⟨by decide, rfl, Or.inr (by rw [hm0, hn0]; rfl)⟩
    rw [bst_some (bes_nil hT)]
    exact ⟨h, rfl, Q.1, I.mono (by omega), eqx.rf⟩
  · have hn1 : 1 ≤ nbr G (gR G) := by
      obtain ⟨r, hr, hb⟩ := bsN_pos _ _ q0
      have := cntB_lt (gBri G) hr hb
      rw [← nbr_cnt, ← nbr_cnt] at this
      omega
    rw [if_neg (by rw [nI_z (by omega)]; exact q0), b91_12, show sm_gi h 2 4 = nI (gBs G) from Q.1.2.2.1.1.2.2.2, c_bitCount hbs, bnd]
    simp only [app1, List.cons_append, List.nil_append]
    rw [hnb, b91_24, shl1 (by omega)]
    generalize hmk : 2 ^ nbr G (gR G) = mk
    have hmk16 : mk ≤ 16 := by
      rw [← hmk]
      exact Nat.pow_le_pow_right (n := 2) (by decide) h4
    have hmk2 : 2 ≤ mk := by
      rw [← hmk]
      exact Nat.pow_le_pow_right (n := 2) (i := 1) (by decide) hn1
    have E1 : eqx sxA4 h (sm_si h 104 8 (nI mk)) := eqx.rf.si (by unfold sxA4; omega)
    have cE1 : cE (sm_si h 104 8 (nI mk)) G := cE_eqx Q.1 E1 (fun c i z => by unfold sxA4 at z; omega)
    have Q1 : cQ (sm_si h 104 8 (nI mk)) G sh none p true mk x0 := by
      obtain ⟨-, a1, a2, ⟨b1, b2, b3, b4⟩, ⟨c1, c2⟩, ⟨d1, d2, -⟩, -, -⟩ := Q
      have g : ∀ i, i ≠ 8 → sm_gi (sm_si h 104 8 (nI mk)) 104 i = sm_gi h 104 i := fun i hi => gi_slot hi
      exact ⟨cE1, a1, a2, ⟨(g 2 (by omega)).trans b1, (g 3 (by omega)).trans b2, (g 4 (by omega)).trans b3, (g 5 (by omega)).trans b4⟩, ⟨(g 6 (by omega)).trans c1, c2⟩, ⟨(g 7 (by omega)).trans d1, d2, fun _ => rfl⟩, gi_same, Or.inr ⟨rfl, by omega, hmk16, hmk.symm⟩⟩
    obtain ⟨D, h2, e2, F2, Q2, I2, E2⟩ := c_spread Q1 (cI_A4 I E1) hB
    rw [b91_28, e2, bnd]
    simp only [List.nil_append]
    rw [b91_32, Q2.2.2.2.2.2.2.1, sub1 (by omega), pk_mul]
    obtain ⟨v, ev, hv, hlow, hhit⟩ := c_round_loop Q2 F2 hmk16 (by omega) 640 ((mk - 1) * 640) 1000000000 (by omega) (Nat.le_refl _) (Nat.le_refl _) (fun row' h1 h2 => by omega) (Or.inl rfl)
    rw [ev]
    refine ⟨h2, ?_, Q2.1, I2, (E1.wk sxA4_W).tr (E2.wk sxH_W)⟩
    -- walks and states
    have fm := full_mask (nbr G (gR G)) (by omega)
    rw [hmk] at fm
    have hit : ∀ w, gwk (stp G sh none p true) (thK G 2 (xF x0)) (lpK G none 2) x0 w → ∃ v', v ≤ dys (gLon G) v' ∧ dys (gLon G) v' ≤ dys (gLon G) w ∧ dys (gLon G) v' ≤ 2400 := fun w hg => by
      rcases (gwk_iff w x0).mp hg with ⟨x, hr, hT⟩ | ⟨u, r, y, z, -, -, -, hl⟩
      · obtain ⟨v', hv1, hv2⟩ := F2.2.2.1 w x hr
        have okx := (rn_ok hw hx _ _ _ ok0 (Or.inr hm0) hr).1
        obtain ⟨o1, o2, o3, o4⟩ := okx.b hw
        obtain ⟨p1, -, -, -, p5⟩ := cdX_parts o2 o3 o4
        have hmx := rn_mask hw _ _ _ (by rw [hm0]; exact Nat.two_pow_pos _) hr
        rw [hmk] at hmx
        have hfull : xM x = mk - 1 := by
          rcases hT.2.2 with z | z
          · exact absurd z (by decide)
          · exact (fm _ hmx).mp z
        have hfx : xF x = xF x0 := hT.2.1
        have := hlow (cdX x / 6) (by omega) (by omega) v' (by rw [show cdX x / 6 * 6 + xF x0 = cdX x by omega]; exact hv1)
        exact ⟨v', this, btr_days hv2, TD_days hw hx ok0 (Or.inr hm0) F2.1 hv1⟩
      · exact absurd hl.1 (by decide)
    rcases hhit with hz | ⟨row', w, r1, r2, r3, r4⟩
    · rw [if_pos hz, bst_none (fun w hg => by
        obtain ⟨v', a1, a2, a3⟩ := hit w hg
        omega)]
      rfl
    · obtain ⟨x, okx, -, hcx, hrx⟩ := F2.1.1 _ _ r3
      obtain ⟨o1, o2, o3, o4⟩ := okx.b hw
      obtain ⟨p1, -, -, -, p5⟩ := cdX_parts o2 o3 o4
      have hf6 : xF x0 < 6 := (ok0.b hw).2.2.2
      have hfx : xF x = xF x0 := by omega
      have hrow : cdX x / 6 = row' := by omega
      have hmx := rn_mask hw _ _ _ (by rw [hm0]; exact Nat.two_pow_pos _) hrx
      rw [hmk] at hmx
      have hfull : xM x = mk - 1 := by omega
      have hg : gwk (stp G sh none p true) (thK G 2 (xF x0)) (lpK G none 2) x0 w := (gwk_iff w x0).mpr (Or.inl ⟨x, hrx, by decide, hfx, Or.inr ((fm _ hmx).mpr hfull)⟩)
      obtain ⟨b, eb, hb⟩ := bst_ex hw hg
      have hdw := TD_days hw hx ok0 (Or.inr hm0) F2.1 r3
      have h1 := wlt_days (hb.2 w hg)
      obtain ⟨v', a1, a2, a3⟩ := hit b hb.1
      rw [if_neg (by omega), eb]
      show some ([Value.int (nI v)], h2) = some ([Value.int (nI (dys (gLon G) b))], h2)
      rw [show v = dys (gLon G) b by omega]
theorem c_round {G : LG} {W : WG} {L : List WG} {B B' : Nat} {h : sm_H} {p : Int32} (S : cS h G W L B) (I : cI h B') (hB : B' < 2 ^ 28) : ∃ h2, xc 132 [.ref 0, .int p] h = some ([.int (aRound G W p)], h2) ∧ cS h2 G W L B ∧ cI h2 (B' + 1) ∧ eqx sxW h h2 := by
  have hw := S.1.1
  have hN := hw.1.2
  have hP := hw.2.2.1
  have hR := hw.2.1
  unfold aRound
  rw [en_132, b132_0, c_hasPerson isD2 S.1.2.2.1.1.2.2.1 (by omega), bnd]
  simp only [app1, List.cons_append, List.nil_append]
  rw [b132_8]
  by_cases h1 : isN p.toInt64 (gP G)
  · rw [if_neg (by rw [bI_z]; exact fun z => z h1), if_pos h1]
    obtain ⟨j, hj, rfl⟩ := isN_nI h1 (by omega)
    rw [toN_nI (by omega)]
    rw [b132_14]
    obtain ⟨h1', e1, Q1, S1, E1⟩ := c_startAt S hj
    rw [e1, bnd]
    simp only [List.nil_append]
    obtain ⟨h2, e2, cE2, I2, E2⟩ := c_daysRound Q1 (cI_A4 I E1) (by omega)
    rw [b132_26, e2, bnd]
    simp only [app1, List.cons_append, List.nil_append]
    rw [b132_33]
    exact ⟨h2, rfl, cS_W S1 cE2 E2, I2, (E1.wk sxA4_W).tr E2⟩
  · rw [if_pos (by rw [bI_z]; exact h1), if_neg h1, b132_11]
    exact ⟨h, rfl, S, I.mono (by omega), eqx.rf⟩
