/-! ===== land: the model, all of it ===== -/
section MLF
variable {G : LG} {W : WG} {L : List WG} {B : Nat} {b : Nat → Nat} {n nt : Nat} {h : sm_H}
/-- from the first token to the end of the lines -/
theorem m_land_read {l1 : Int32} (T : TKo (tK b n) (tV b n) nt) (R : mR h b n 0) (a0 : ∀ i, i < 1276 → sm_gi h 173 i = if (76 ≤ i ∧ i < 82) ∨ (82 ≤ i ∧ i < 88) then -1 else if i = 1 then nI 2 else nI 0) : ∃ r h2, ldR (tK b n) (tV b n) r ∧ xe 82 176 53 [.ref 169, .int l1, .null] [] h = xe 82 176 110 [.ref 169, .int l1, .null] [] h2 ∧ ldO h2 b n r ∧ eqx sxRf h h2 := by
  have i1 : sm_in 173 (nI 1) := (in_173 (by decide)).mpr trivial
  -- behind a fault in the head
  have dead : ∀ {h' : sm_H} {e k' : Nat} {v : Int32}, mBd h' b n e k' → eqx sxRf h h' → ∃ h2, xe 82 176 78 [.ref 169, .int l1, .null] [.int v, .int (nI 1), .ref 173] h' = xe 82 176 110 [.ref 169, .int l1, .null] [] h2 ∧ mBd h2 b n e k' ∧ eqx sxRf h h2 := fun {h'} {e} {k'} {v} Bd E => by
    obtain ⟨h2, e2, B2, E2⟩ := m_ends_d (h := sm_si h' 173 1 v) (b := b) (n := n) (k := k') ⟨e, mBd_173 Bd⟩
    have B3 := B2 e (mBd_173 Bd)
    rw [b176_78, if_pos i1, show (nI 1).toNatClampNeg = 1 from rfl, b176_79, e2, bnd]
    simp only [List.nil_append]
    rw [b176_83, if_neg B3.d]
    exact ⟨h2, rfl, B3, (f_173 E).tr E2⟩
  rw [b176_53]
  unfold ldR
  rcases (m_eats R (c := 200) (v := 0) (by decide) (by decide) rfl).symm with ⟨y0, e1⟩ | ⟨y0, h1, e1, R1, E1⟩
  · obtain ⟨h2, e2, B2, E2⟩ := m_fails (e := 2) R (by omega)
    obtain ⟨h3, e3, B3, E3⟩ := dead (v := sm_gi h2 169 10) B2 (fl_f E2)
    rw [e1, bnd]
    simp only [app1, List.cons_append, List.nil_append]
    rw [b176_58, if_pos (show nI 0 = 0 from rfl), b176_61, e2, bnd]
    simp only [List.nil_append]
    rw [b176_66, m_takesN_d B2.d, bnd]
    simp only [app1, List.cons_append, List.nil_append]
    rw [e3]
    exact ⟨.inl (2, 0), h3, by rw [show hdF (tK b n) (tV b n) = .inl (2, 0) from by unfold hdF; rw [if_pos y0]], rfl, B3, E3⟩
  · have hk1 := T.s (Nat.zero_le nt) (show tK b n 0 ≠ 0 by omega)
    rw [e1, bnd]
    simp only [app1, List.cons_append, List.nil_append]
    rw [b176_58, if_neg (by decide), b176_66]
    rcases m_takesN (lo := 2) (hi := 6) T R1 (by decide) (by decide) with ⟨e, h2, v, q1, e2, B2, E2⟩ | ⟨q1, t1, h2, e2, R2, E2⟩
    · have q1' : numF (tK b n) (tV b n) 2 6 none 1 = some e := q1
      obtain ⟨h3, e3, B3, E3⟩ := dead (v := v) B2 ((E1.wk sxN_Rf).tr (fl_f E2))
      rw [e2, bnd]
      simp only [app1, List.cons_append, List.nil_append]
      rw [e3]
      exact ⟨.inl (e, 1), h3, by rw [show hdF (tK b n) (tV b n) = .inl (e, 1) from by unfold hdF; rw [if_neg (show ¬ tK b n 0 ≠ 200 from fun w => w y0), q1']], rfl, B3, E3⟩
    · have q1' : numF (tK b n) (tV b n) 2 6 none 1 = none := q1
      have hv := numF_no q1'
      have hk2 := T.s hk1 (show tK b n (0 + 1) ≠ 0 by omega)
      have g : ∀ i, sm_gi h2 173 i = sm_gi h 173 i := fun i => (E2.1 173 i (n173N i)).trans (E1.1 173 i (n173N i))
      have M2 : mDr (sm_gi (sm_si h2 173 1 (nI (tV b n 1))) 173) (D00 (tV b n 1)) 0 0 0 := plain_dr a0 gi_same (fun i w => (gi_slot w).trans (g i))
      have hB : dB (D00 (tV b n 1)) := (D0_wf ⟨hv.2.1, hv.2.2.1⟩).b
      obtain ⟨h3, e3, E3, o3⟩ := m_ends (h := sm_si h2 173 1 (nI (tV b n 1))) (D := D00 (tV b n 1)) T hB (mR_173 R2) M2 (Nat.zero_le _) hk2
      have E13 : eqx sxRf h h3 := (f_173 ((E1.wk sxN_Rf).tr (E2.wk sxN_Rf))).tr E3
      rw [e2, bnd]
      simp only [app1, List.cons_append, List.nil_append]
      rw [b176_78, if_pos i1, show (nI 1).toNatClampNeg = 1 from rfl, b176_79, e3, bnd]
      simp only [List.nil_append]
      rw [show semi (tK b n) (.inr (0 + 1 + 1, D00 (tV b n 1))) = if tK b n 2 = 59 then .inr (3, D0 (tV b n 1)) else .inl (2, 2) from rfl] at o3
      by_cases y2 : tK b n 2 = 59
      · rw [if_pos y2] at o3
        obtain ⟨p1, p2, p3, p4⟩ := o3
        have hH : hdF (tK b n) (tV b n) = .inr (tV b n 1) := by unfold hdF; rw [if_neg (show ¬ tK b n 0 ≠ 200 from fun w => w y0), q1']; dsimp only; rw [if_neg (show ¬ tK b n 2 ≠ 59 from fun w => w y2)]
        obtain ⟨r, h4, a4, e4, o4, E4⟩ := m_land_loop (l1 := l1) T (nt + 1) 3 0 (D0 (tV b n 1)) h3 (by omega) p2 (Nat.zero_le _) (D0_wf ⟨hv.2.1, hv.2.2.1⟩) p3 p4
        exact ⟨r, h4, by rw [hH]; exact a4, e4, o4, E13.tr E4⟩
      · rw [if_neg y2] at o3
        have hH : hdF (tK b n) (tV b n) = .inl (2, 2) := by unfold hdF; rw [if_neg (show ¬ tK b n 0 ≠ 200 from fun w => w y0), q1']; dsimp only; rw [if_pos y2]
        rw [b176_83, if_neg o3.d]
        exact ⟨.inl (2, 2), h3, by rw [hH], rfl, o3, E13⟩
theorem m_land {x : Int32} {n0 : Nat} {t : Nat → Int32} (S : mS h G W L B) (hT : mTp h n0 t) : (¬ isN x.toInt64 (n0 + 1) ∧ xc 176 [.ref 169, .int x] h = some ([.int (-3)], sm_si h 169 0 (nI 0))) ∨ ∃ m, m ≤ n0 ∧ x = nI m ∧ ∃ r h2, ldR (tK (tB t) m) (tV (tB t) m) r ∧ xc 176 [.ref 169, .int x] h = some ([.int (ldI (tB t) m r)], h2) ∧ ldM h h2 (tB t) m B r ∧ sm_gi h2 169 5 = nI 0 ∧ eqx sxLm h h2 := by
  obtain ⟨t1, t2, t3, t4⟩ := hT
  have g5 : sm_gi (sm_si h 169 0 (nI 0)) 169 5 = nI n0 := (gi_slot (by decide)).trans t1
  rw [en_176, b176_0, b176_5, g5, nI_l (by omega), m_within, bnd]
  simp only [app1, List.cons_append, List.nil_append]
  rw [b176_16, fa_litL 0, bI_congr (isN_w (by omega))]
  by_cases z : isN x.toInt64 (n0 + 1)
  · obtain ⟨m, hm, rfl⟩ := isN_nI z (by omega)
    refine Or.inr ⟨m, by omega, rfl, ?_⟩
    rw [if_neg (by rw [bI_z]; exact fun y => y z), b176_22, b176_27, b176_32, b176_37, b176_42]
    have E0 : eqx sxLm h (sm_si (sm_si (sm_si (sm_si (sm_si h 169 0 (nI 0)) 169 8 (nI m)) 169 5 (nI 0)) 169 7 (nI 0)) 169 11 (nI 0)) := eqx.si (eqx.si (eqx.si (eqx.si (eqx.si eqx.rf (by unfold sxLm; omega)) (by unfold sxLm; omega)) (by unfold sxLm; omega)) (by unfold sxLm; omega)) (by unfold sxLm; omega)
    have k8 : sm_gi (sm_si (sm_si (sm_si (sm_si (sm_si h 169 0 (nI 0)) 169 8 (nI m)) 169 5 (nI 0)) 169 7 (nI 0)) 169 11 (nI 0)) 169 8 = nI m := (gi_slot (by decide)).trans ((gi_slot (by decide)).trans ((gi_slot (by decide)).trans gi_same))
    have k5 : sm_gi (sm_si (sm_si (sm_si (sm_si (sm_si h 169 0 (nI 0)) 169 8 (nI m)) 169 5 (nI 0)) 169 7 (nI 0)) 169 11 (nI 0)) 169 5 = nI 0 := (gi_slot (by decide)).trans ((gi_slot (by decide)).trans gi_same)
    have k7 : sm_gi (sm_si (sm_si (sm_si (sm_si (sm_si h 169 0 (nI 0)) 169 8 (nI m)) 169 5 (nI 0)) 169 7 (nI 0)) 169 11 (nI 0)) 169 7 = nI 0 := (gi_slot (by decide)).trans gi_same
    have k11 : sm_gi (sm_si (sm_si (sm_si (sm_si (sm_si h 169 0 (nI 0)) 169 8 (nI m)) 169 5 (nI 0)) 169 7 (nI 0)) 169 11 (nI 0)) 169 11 = nI 0 := gi_same
    have k170a : ∀ i, sm_gi (sm_si (sm_si (sm_si (sm_si (sm_si h 169 0 (nI 0)) 169 8 (nI m)) 169 5 (nI 0)) 169 7 (nI 0)) 169 11 (nI 0)) 170 i = sm_gi h 170 i := fun i => (gi_cell (by decide)).trans ((gi_cell (by decide)).trans ((gi_cell (by decide)).trans ((gi_cell (by decide)).trans (gi_cell (by decide)))))
    generalize sm_si (sm_si (sm_si (sm_si (sm_si h 169 0 (nI 0)) 169 8 (nI m)) 169 5 (nI 0)) 169 7 (nI 0)) 169 11 (nI 0) = ha at *
    have n172 : ∀ i, ¬ sxLm 172 i := fun i w => by unfold sxLm at w; omega
    obtain ⟨h1, e1, a1, E1⟩ := m_plain (h := ha)
    have by1 : mBy h1 (tB t) m := ⟨fun j hj => (E1.1 172 j (show ¬ (172 = 173) by decide)).trans ((E0.1 172 j (n172 j)).trans ((t4 j (by omega)).trans (tB_n t3 (by omega)))), by omega, (E1.1 169 8 (by decide)).trans k8, tB_lt t⟩
    obtain ⟨h2, e2, A2, E2⟩ := m_next by1 ((E1.1 169 7 (by decide)).trans k7) (Nat.zero_le _)
    have R2 : mR h2 (tB t) m 0 := ⟨mBy_N by1 E2, A2, (E2.1 169 11 (by unfold sxNx; omega)).trans ((E1.1 169 11 (by decide)).trans k11)⟩
    obtain ⟨nt, T⟩ := TKo_of (b := tB t) (n := m) (by omega)
    obtain ⟨r, h3, a3, e3, o3, E3⟩ := m_land_read (l1 := nI m) T R2 (fun i hi => (E2.1 173 i (n173N i)).trans (a1 i hi))
    have Eb : eqx sxRf ha h3 := ((E1.wk (fun c i w => by unfold sxRf; omega)).tr (E2.wk sxN_Rf)).tr E3
    have E03 : eqx sxLm h h3 := E0.tr (Eb.wk (fun c i w => by unfold sxRf at w; unfold sxLm; omega))
    have k5' : sm_gi h3 169 5 = nI 0 := (Eb.1 169 5 (by unfold sxRf; omega)).trans k5
    have k170 : ∀ i, sm_gi h3 170 i = sm_gi ha 170 i := fun i => Eb.1 170 i (by unfold sxRf; omega)
    rw [e1, bnd]
    simp only [List.nil_append]
    rw [b176_49, e2, bnd]
    simp only [List.nil_append]
    rw [e3, b176_110]
    rcases r with ⟨e, k⟩ | ⟨k, D⟩
    · have g11 : sm_gi h3 169 11 = nI (flt e (tK (tB t) m k)) := o3.2.2.1
      have g12 : sm_gi h3 169 12 = nI (psT (tB t) m k) := o3.2.2.2
      have hne : ¬ nI (flt e (tK (tB t) m k)) = 0 := by rw [← g11]; exact o3.d
      rw [g11, b176_118, gi_slot (by decide), g11, if_neg hne, b176_130, gi_slot (by decide), g12, b176_134, b176_137, gi_slot (by decide), gi_slot (by decide), g11, if_neg hne, b176_144, gi_slot (by decide), gi_slot (by decide), g11]
      refine ⟨.inl (e, k), _, a3, rfl, ⟨fun i => ?_, (gi_slot (by decide)).trans gi_same, gi_same⟩, (gi_slot (by decide)).trans ((gi_slot (by decide)).trans k5'), (E03.si (by unfold sxLm; omega)).si (by unfold sxLm; omega)⟩
      rw [gi_cell (by decide), gi_cell (by decide), k170]
      exact k170a i
    · obtain ⟨g11, Wf, Nc, hN, M⟩ := o3
      rw [g11, b176_118, gi_slot (by decide), g11, if_pos (show nI 0 = 0 from rfl), b176_126, b176_134, b176_137, gi_slot (by decide), gi_slot (by decide), g11, if_pos (show nI 0 = 0 from rfl)]
      have g15 : sm_gi h3 169 15 = -1 := (E03.1 169 15 (by unfold sxLm; omega)).trans S.2.2.2.2.2.2
      have E4 : eqx (fun c i => c = 169 ∧ (i = 13 ∨ i = 14)) h3 (sm_si (sm_si h3 169 13 (nI 0)) 169 14 (-1)) := (eqx.rf.si (by omega)).si (by omega)
      obtain ⟨h5, e5, S5, g0, E5⟩ := m_land_take (h := sm_si (sm_si h3 169 13 (nI 0)) 169 14 (-1)) (B := B) (l1 := nI m) Wf hN (mDr_eqx M E4 (fun i w => by omega)) ((E4.1 169 15 (by omega)).trans g15)
      refine ⟨.inr (k, D), h5, a3, e5, ⟨Wf, S5, g0, (E5.1 169 13 (by omega)).trans ((gi_slot (by decide)).trans gi_same), (E5.1 169 14 (by omega)).trans gi_same⟩, (E5.1 169 5 (by omega)).trans ((E4.1 169 5 (by omega)).trans k5'), (E03.tr (E4.wk (fun c i w => by unfold sxLm; omega))).tr (E5.wk (fun c i w => by unfold sxLm; omega))⟩
  · refine Or.inl ⟨z, ?_⟩
    rw [if_pos (by rw [bI_z]; exact z), b176_19]
end MLF
