/-! ===== lines are read: the model, a person ===== -/
def mPp (f : Nat → Int32) (P : Nat) (s : PM) (a : Nat) : Prop := f (70 + P) = nI s.1.1 ∧ f (76 + P) = toI s.2.1 ∧ f (82 + P) = s.2.2 ∧ f (102 + P) = nI s.1.2 ∧ f (90 + P) = nI a
section MRP
variable {b : Nat → Nat} {n nt k : Nat} {h : sm_H}
theorem mBd_173 {e i : Nat} {v : Int32} (B : mBd h b n e k) : mBd (sm_si h 173 i v) b n e k := ⟨mBy_eqx B.1 (S := fun c _ => c = 173) (eqx.rf.si rfl) (fun c i z => by omega), B.2.1, (gi_cell (by decide)).trans B.2.2.1, (gi_cell (by decide)).trans B.2.2.2⟩
theorem mR_173 {i : Nat} {v : Int32} (R : mR h b n k) : mR (sm_si h 173 i v) b n k := mR_eqx R (S := fun c _ => c = 173) (eqx.rf.si rfl) (fun c i z => by omega)
theorem f_173 {h0 : sm_H} {i : Nat} {v : Int32} (E : eqx sxRf h0 h) : eqx sxRf h0 (sm_si h 173 i v) := E.si (by unfold sxRf; omega)
theorem mk_end0 {l1 : Int32} {l2 l3 : Value} (hd : sm_gi h 169 11 ≠ 0) : xe 4 171 132 [.ref 169, .int l1, l2, l3] [] h = some ([.int (nI 0)], h) := by
  rw [b171_132, if_neg hd, b171_143, b171_144, if_pos (or01_0.mpr trivial)]
theorem mk_end1 {l1 : Int32} {l2 l3 : Value} (R : mR h b n k) : xe 4 171 132 [.ref 169, .int l1, l2, l3] [] h = some ([.int (nI 1)], h) := by
  rw [b171_132, R.2.2, if_pos (show nI 0 = 0 from rfl), b171_139, b171_144, if_pos (or01_1.mpr trivial)]
theorem m_mark {D : DG} {Nc a : Nat} {s : PM} (T : TKo (tK b n) (tV b n) nt) (hgN : 2 ≤ gN (dG D) ∧ gN (dG D) ≤ 6) (hR : gR (dG D) ≤ 12) (hP : gP (dG D) < 6) (hk : k ≤ nt) (R : mR h b n k) (M : mDr (sm_gi h 173) D Nc (gR (dG D)) (gP (dG D) + 1)) (Q : mPp (sm_gi h 173) (gP (dG D)) s a) : ∃ s0 h2, xc 171 [.ref 169, .int (nI (gP (dG D)))] h = some ([.int s0], h2) ∧ eqx sxRf h h2 ∧ match pmS (tK b n) (tV b n) (gN (dG D)) s k with
    | none => s0 = nI 0 ∧ h2 = h
    | some (.inl (e, k')) => s0 = nI 0 ∧ mBd h2 b n e k'
    | some (.inr (k', s')) => s0 = nI 1 ∧ k < k' ∧ k' ≤ nt ∧ mR h2 b n k' ∧ mDr (sm_gi h2 173) D Nc (gR (dG D)) (gP (dG D) + 1) ∧ mPp (sm_gi h2 173) (gP (dG D)) s' a := by
  have i1 : sm_in 173 (nI 1) := (in_173 (by decide)).mpr trivial
  have hin : ∀ x, x ≤ 110 → sm_in 173 (nI (x + gP (dG D))) := fun x hx => (in_173 (by omega)).mpr trivial
  -- a place of the row that may be written
  have wr : ∀ {h' : sm_H} {i : Nat} {v : Int32}, mDr (sm_gi h' 173) D Nc (gR (dG D)) (gP (dG D) + 1) → (i = 70 + gP (dG D) ∨ i = 76 + gP (dG D) ∨ i = 82 + gP (dG D) ∨ i = 102 + gP (dG D)) → mDr (sm_gi (sm_si h' 173 i v) 173) D Nc (gR (dG D)) (gP (dG D) + 1) := fun H hi => mDr_ch hR (by omega) hR (by omega) H (fun j z => gi_slot (fun y => z (by unfold opn; omega)))
  rw [en_171, b171_0]
  unfold pmS
  rcases m_eats R (c := 214) (v := 8) (by decide) (by decide) rfl with ⟨z1, h1, e1, R1, E1⟩ | ⟨z1, e1⟩
  · have hk1 := T.s hk (show tK b n k ≠ 0 by omega)
    have M1 := mDr_eqx M E1 n173N
    have gN1 : sm_gi h1 173 1 = nI (gN (dG D)) := M1.1.2.1
    rw [e1, bnd]
    simp only [app1, List.cons_append, List.nil_append]
    rw [b171_6, if_neg (by decide), b171_9, if_pos i1, show (nI 1).toNatClampNeg = 1 from rfl, gN1, sub1 (by omega), if_pos z1]
    rcases m_takesN (lo := 0) (hi := gN (dG D) - 1) T R1 (by decide) (by omega) with ⟨e, h2, v, q1, e2, B2, E2⟩ | ⟨q1, t1, h2, e2, R2, E2⟩
    · rw [e2, bnd]
      simp only [app1, List.cons_append, List.nil_append]
      rw [b171_30, nI_add, if_pos (hin 70 (by decide)), nI_clamp (by omega), b171_31, mk_end0 (by rw [gi_cell (by decide)]; exact B2.d), q1]
      exact ⟨_, _, rfl, f_173 ((E1.wk sxN_Rf).tr (fl_f E2)), rfl, mBd_173 B2⟩
    · have hk2 := T.s hk1 (show tK b n (k + 1) ≠ 0 by omega)
      have M2 := mDr_eqx M1 E2 n173N
      have g : ∀ i, sm_gi h2 173 i = sm_gi h 173 i := fun i => (E2.1 173 i (n173N i)).trans (E1.1 173 i (n173N i))
      rw [e2, bnd]
      simp only [app1, List.cons_append, List.nil_append]
      rw [b171_30, nI_add, if_pos (hin 70 (by decide)), nI_clamp (by omega), b171_31, mk_end1 (mR_173 R2), q1]
      refine ⟨_, _, rfl, f_173 ((E1.wk sxN_Rf).tr (E2.wk sxN_Rf)), rfl, by omega, hk2, mR_173 R2, wr M2 (by omega), gi_same, ?_, ?_, ?_, ?_⟩
      · exact (gi_slot (by omega)).trans ((g _).trans Q.2.1)
      · exact (gi_slot (by omega)).trans ((g _).trans Q.2.2.1)
      · exact (gi_slot (by omega)).trans ((g _).trans Q.2.2.2.1)
      · exact (gi_slot (by omega)).trans ((g _).trans Q.2.2.2.2)
  · rw [e1, bnd]
    simp only [app1, List.cons_append, List.nil_append]
    rw [b171_6, if_pos (show nI 0 = 0 from rfl), b171_34, if_neg z1]
    rcases m_eats R (c := 217) (v := 9) (by decide) (by decide) rfl with ⟨z2, h1, e1, R1, E1⟩ | ⟨z2, e1⟩
    · have hk1 := T.s hk (show tK b n k ≠ 0 by omega)
      have M1 := mDr_eqx M E1 n173N
      rw [e1, bnd]
      simp only [app1, List.cons_append, List.nil_append]
      rw [b171_40, if_neg (by decide), b171_43, if_pos z2]
      rcases m_takesN (lo := 0) (hi := 9) T R1 (by decide) (by decide) with ⟨e, h2, v, q1, e2, B2, E2⟩ | ⟨q1, t1, h2, e2, R2, E2⟩
      · rw [e2, bnd]
        simp only [app1, List.cons_append, List.nil_append]
        rw [b171_58, nI_add, if_pos (hin 102 (by decide)), nI_clamp (by omega), b171_59, mk_end0 (by rw [gi_cell (by decide)]; exact B2.d), q1]
        exact ⟨_, _, rfl, f_173 ((E1.wk sxN_Rf).tr (fl_f E2)), rfl, mBd_173 B2⟩
      · have hk2 := T.s hk1 (show tK b n (k + 1) ≠ 0 by omega)
        have M2 := mDr_eqx M1 E2 n173N
        have g : ∀ i, sm_gi h2 173 i = sm_gi h 173 i := fun i => (E2.1 173 i (n173N i)).trans (E1.1 173 i (n173N i))
        rw [e2, bnd]
        simp only [app1, List.cons_append, List.nil_append]
        rw [b171_58, nI_add, if_pos (hin 102 (by decide)), nI_clamp (by omega), b171_59, mk_end1 (mR_173 R2), q1]
        refine ⟨_, _, rfl, f_173 ((E1.wk sxN_Rf).tr (E2.wk sxN_Rf)), rfl, by omega, hk2, mR_173 R2, wr M2 (by omega), ?_, ?_, ?_, gi_same, ?_⟩
        · exact (gi_slot (by omega)).trans ((g _).trans Q.1)
        · exact (gi_slot (by omega)).trans ((g _).trans Q.2.1)
        · exact (gi_slot (by omega)).trans ((g _).trans Q.2.2.1)
        · exact (gi_slot (by omega)).trans ((g _).trans Q.2.2.2.2)
    · rw [e1, bnd]
      simp only [app1, List.cons_append, List.nil_append]
      rw [b171_40, if_pos (show nI 0 = 0 from rfl), b171_62, if_neg z2]
      rcases m_eats R (c := 219) (v := 2) (by decide) (by decide) rfl with ⟨z3, h1, e1, R1, E1⟩ | ⟨z3, e1⟩
      · have hk1 := T.s hk (show tK b n k ≠ 0 by omega)
        have M1 := mDr_eqx M E1 n173N
        have gN1 : sm_gi h1 173 1 = nI (gN (dG D)) := M1.1.2.1
        -- behind a fault
        have dead : ∀ {h' : sm_H} {e k' : Nat} {l2 : Int32}, mBd h' b n e k' → eqx sxRf h h' → ∃ h2, xe 4 171 98 [.ref 169, .int (nI (gP (dG D))), .int l2, .null] [] h' = some ([.int (nI 0)], h2) ∧ eqx sxRf h h2 ∧ mBd h2 b n e k' := fun {h'} {e} {k'} {l2} B E => by
          rw [b171_98, m_takesN_d B.d, bnd]
          simp only [app1, List.cons_append, List.nil_append]
          rw [b171_106, nI_add, if_pos (hin 76 (by decide)), nI_clamp (by omega), b171_117, nI_add, if_pos (hin 82 (by decide)), nI_clamp (by omega), b171_127, mk_end0 (by rw [gi_cell (by decide), gi_cell (by decide)]; exact B.d)]
          exact ⟨_, rfl, f_173 (f_173 E), mBd_173 (mBd_173 B)⟩
        rw [e1, bnd]
        simp only [app1, List.cons_append, List.nil_append]
        rw [b171_67, if_neg (by decide), b171_70, if_pos i1, show (nI 1).toNatClampNeg = 1 from rfl, gN1, sub1 (by omega), if_pos z3]
        rcases m_takesN (lo := 0) (hi := gN (dG D) - 1) T R1 (by decide) (by omega) with ⟨e, h2, v, q1, e2, B2, E2⟩ | ⟨q1, t1, h2, e2, R2, E2⟩
        · obtain ⟨h3, e3, E3, B3⟩ := dead (l2 := v) B2 ((E1.wk sxN_Rf).tr (fl_f E2))
          rw [e2, bnd]
          simp only [app1, List.cons_append, List.nil_append]
          rw [b171_83, m_eats_d B2.d, bnd]
          simp only [app1, List.cons_append, List.nil_append]
          rw [b171_90, if_pos (show nI 0 = 0 from rfl), b171_93, m_fails_d B2.d, bnd]
          simp only [List.nil_append]
          rw [e3, q1]
          exact ⟨_, _, rfl, E3, rfl, B3⟩
        · have hk2 := T.s hk1 (show tK b n (k + 1) ≠ 0 by omega)
          have M2 := mDr_eqx M1 E2 n173N
          have g : ∀ i, sm_gi h2 173 i = sm_gi h 173 i := fun i => (E2.1 173 i (n173N i)).trans (E1.1 173 i (n173N i))
          have E12 : eqx sxRf h h2 := (E1.wk sxN_Rf).tr (E2.wk sxN_Rf)
          rw [e2, bnd]
          simp only [app1, List.cons_append, List.nil_append]
          rw [b171_83, q1]
          rcases m_eats R2 (c := 209) (v := 10) (by decide) (by decide) rfl with ⟨z4, h3, e3, R3, E3⟩ | ⟨z4, e3⟩
          · have z4' : tK b n (k + 2) = 209 := z4
            have hk3 := T.s hk2 (show tK b n (k + 1 + 1) ≠ 0 by omega)
            have M3 := mDr_eqx M2 E3 n173N
            rw [e3, bnd]
            simp only [app1, List.cons_append, List.nil_append]
            rw [b171_90, if_neg (by decide)]
            rw [if_neg (show ¬ tK b n (k + 2) ≠ 209 from fun w => w z4')]
            rcases m_takesN (lo := 0) (hi := 999) T R3 (by decide) (by decide) with ⟨e, h4, v, q3, e4, B4, E4⟩ | ⟨q3, t3, h4, e4, R4, E4⟩
            · have q3' : numF (tK b n) (tV b n) 0 999 none (k + 3) = some e := q3
              have hB : mBd h4 b n e (k + 3) := B4
              rw [b171_98, e4, bnd]
              simp only [app1, List.cons_append, List.nil_append]
              rw [b171_106, nI_add, if_pos (hin 76 (by decide)), nI_clamp (by omega), b171_117, nI_add, if_pos (hin 82 (by decide)), nI_clamp (by omega), b171_127, mk_end0 (by rw [gi_cell (by decide), gi_cell (by decide)]; exact B4.d), q3']
              exact ⟨_, _, rfl, f_173 (f_173 ((E12.tr (E3.wk sxN_Rf)).tr (fl_f E4))), rfl, mBd_173 (mBd_173 hB)⟩
            · have q3' : numF (tK b n) (tV b n) 0 999 none (k + 3) = none := q3
              have hk4 := T.s hk3 (show tK b n (k + 1 + 1 + 1) ≠ 0 by omega)
              have M4 := mDr_eqx M3 E4 n173N
              have R4' : mR h4 b n (k + 4) := R4
              have g4 : ∀ i, sm_gi h4 173 i = sm_gi h 173 i := fun i => (E4.1 173 i (n173N i)).trans ((E3.1 173 i (n173N i)).trans (g i))
              rw [b171_98, e4, bnd]
              simp only [app1, List.cons_append, List.nil_append]
              rw [b171_106, nI_add, if_pos (hin 76 (by decide)), nI_clamp (by omega), b171_117, nI_add, if_pos (hin 82 (by decide)), nI_clamp (by omega), b171_127, mk_end1 (mR_173 (mR_173 R4')), q3']
              refine ⟨_, _, rfl, f_173 (f_173 ((E12.tr (E3.wk sxN_Rf)).tr (E4.wk sxN_Rf))), rfl, by omega, hk4, mR_173 (mR_173 R4'), wr (wr M4 (by omega)) (by omega), ?_, ?_, gi_same, ?_, ?_⟩
              · exact (gi_slot (by omega)).trans ((gi_slot (by omega)).trans ((g4 _).trans Q.1))
              · exact (gi_slot (by omega)).trans gi_same
              · exact (gi_slot (by omega)).trans ((gi_slot (by omega)).trans ((g4 _).trans Q.2.2.2.1))
              · exact (gi_slot (by omega)).trans ((gi_slot (by omega)).trans ((g4 _).trans Q.2.2.2.2))
          · have z4' : tK b n (k + 2) ≠ 209 := z4
            obtain ⟨h4, e4, B4, E4⟩ := m_fails (e := 2) R2 (by omega)
            obtain ⟨h5, e5, E5, B5⟩ := dead (l2 := nI (tV b n (k + 1))) B4 (E12.tr (fl_f E4))
            have B5' : mBd h5 b n 2 (k + 2) := B5
            rw [e3, bnd]
            simp only [app1, List.cons_append, List.nil_append]
            rw [b171_90, if_pos (show nI 0 = 0 from rfl), b171_93, e4, bnd]
            simp only [List.nil_append]
            rw [e5]
            rw [if_pos z4']
            exact ⟨_, _, rfl, E5, rfl, B5'⟩
      · rw [e1, bnd]
        simp only [app1, List.cons_append, List.nil_append]
        rw [b171_67, if_pos (show nI 0 = 0 from rfl), b171_130, if_neg z3]
        exact ⟨_, _, rfl, eqx.rf, rfl, rfl⟩
end MRP
