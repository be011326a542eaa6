/-! ===== lines are read: the model, roads ===== -/
section MRR
variable {b : Nat → Nat} {n nt k : Nat} {h : sm_H}
theorem rr_d115 {l1 l2 l3 l4 : Int32} (hd : sm_gi h 169 11 ≠ 0) : xe 4 170 115 [.ref 169, .int l1, .int l2, .int l3, .int l4] [] h = some ([], h) := by
  rw [b170_115, if_neg hd, b170_218, if_neg hd, b170_225]
theorem rr_d106 {l1 l2 l3 : Int32} (hd : sm_gi h 169 11 ≠ 0) : xe 4 170 106 [.ref 169, .int l1, .int l2, .int l3, .null] [] h = some ([], h) := by
  rw [b170_106, m_takesN_d hd, bnd]
  simp only [app1, List.cons_append, List.nil_append]
  rw [b170_113, rr_d115 hd]
theorem rr_d92 {l1 l2 s0 : Int32} (hd : sm_gi h 169 11 ≠ 0) : xe 4 170 92 [.ref 169, .int l1, .int l2, .null, .null] [.int s0] h = some ([], h) := by
  rw [b170_92, m_eats_d hd, bnd]
  simp only [app1, List.cons_append, List.nil_append]
  rw [b170_98, if_pos (show nI 0 = 0 from rfl), b170_101, m_fails_d hd, bnd]
  simp only [List.nil_append]
  exact rr_d106 hd
theorem rr_d79 {l1 l2 : Int32} (hd : sm_gi h 169 11 ≠ 0) : xe 4 170 79 [.ref 169, .int l1, .int l2, .null, .null] [] h = some ([], h) := by
  rw [b170_79, if_pos ((in_173 (by decide)).mpr trivial), m_takesN_d hd, bnd]
  simp only [app1, List.cons_append, List.nil_append]
  exact rr_d92 hd
theorem rr_d57 {l1 l2 : Int32} (hd : sm_gi h 169 11 ≠ 0) : xe 4 170 57 [.ref 169, .int l1, .int l2, .null, .null] [] h = some ([], h) := by
  rw [b170_57, m_is_d hd, bnd]
  simp only [app1, List.cons_append, List.nil_append]
  rw [b170_63, if_pos (show nI 0 = 0 from rfl)]
  exact rr_d79 hd
theorem rr_d43 {l1 s0 : Int32} (hd : sm_gi h 169 11 ≠ 0) : xe 4 170 43 [.ref 169, .int l1, .null, .null, .null] [.int s0] h = some ([], h) := by
  rw [b170_43, m_eats_d hd, bnd]
  simp only [app1, List.cons_append, List.nil_append]
  rw [b170_49, if_pos (show nI 0 = 0 from rfl), b170_52, m_fails_d hd, bnd]
  simp only [List.nil_append]
  exact rr_d57 hd
theorem fl_f {h2 : sm_H} (E : eqx (fun c i => c = 169 ∧ (i = 11 ∨ i = 12)) h h2) : eqx sxRf h h2 := E.wk (fun c i z => by unfold sxRf; omega)
theorem flS_no {K V : Nat → Nat} {c k : Nat} {s : Bool × Nat} (h1 : K k ≠ 206) (h2 : K k ≠ 207) : none = flS K V c s k := by unfold flS; rw [if_neg h1, if_neg h2]
theorem m_flags {D : DG} {Nc : Nat} {l2 l3 l4 : Int32} (T : TKo (tK b n) (tV b n) nt) (hR : gR (dG D) < 12) (hP : gP (dG D) ≤ 6) (hN4 : nbr (dG D) (gR (dG D)) ≤ 4) : ∀ (m k : Nat) (s : Bool × Nat) (h : sm_H), nt - k ≤ m → k ≤ nt → mR h b n k → mDr (sm_gi h 173) D Nc (gR (dG D) + 1) (gP (dG D)) → sm_gi h 173 (46 + gR (dG D)) = nI (bit s.1) → sm_gi h 173 (58 + gR (dG D)) = nI s.2 → ∃ r h2, flR (tK b n) (tV b n) (nbr (dG D) (gR (dG D))) s k r ∧ eqx sxRf h h2 ∧ match r with
    | .inl (e, k') => mBd h2 b n e k' ∧ xe 4 170 115 [.ref 169, .int (nI (gR (dG D))), .int l2, .int l3, .int l4] [] h = some ([], h2)
    | .inr (k', s') => (k ≤ k' ∧ k' ≤ nt) ∧ mR h2 b n k' ∧ mDr (sm_gi h2 173) D Nc (gR (dG D) + 1) (gP (dG D)) ∧ sm_gi h2 173 (46 + gR (dG D)) = nI (bit s'.1) ∧ sm_gi h2 173 (58 + gR (dG D)) = nI s'.2 ∧ xe 4 170 115 [.ref 169, .int (nI (gR (dG D))), .int l2, .int l3, .int l4] [] h = xe 4 170 226 [.ref 169, .int (nI (gR (dG D))), .int l2, .int l3, .int l4] [] h2 := fun m => by
  induction m with
  | zero =>
    intro k s h hm hk R M g46 g58
    have hkn : k = nt := by omega
    have hz := T.1
    rw [← hkn] at hz
    refine ⟨.inr (k, s), h, lpR_stop (flS_no (by omega) (by omega)), eqx.rf, ⟨Nat.le_refl _, hk⟩, R, M, g46, g58, ?_⟩
    rw [b170_115, R.2.2, if_pos (show nI 0 = 0 from rfl), b170_122, m_is R (c := 206) (v := 4) (by decide) rfl, bnd]
    simp only [app1, List.cons_append, List.nil_append]
    rw [b170_127, if_pos (by rw [bI_z]; omega), b170_130, m_is R (c := 207) (v := 5) (by decide) rfl, bnd]
    simp only [app1, List.cons_append, List.nil_append]
    rw [b170_135, if_pos (by rw [bI_z]; omega), b170_218, R.2.2, if_pos (show nI 0 = 0 from rfl)]
  | succ m ih =>
    intro k s h hm hk R M g46 g58
    by_cases z1 : tK b n k = 206
    · have hk1 := T.s hk (show tK b n k ≠ 0 by omega)
      have e138 : xe 4 170 115 [.ref 169, .int (nI (gR (dG D))), .int l2, .int l3, .int l4] [] h = xe 4 170 169 [.ref 169, .int (nI (gR (dG D))), .int l2, .int l3, .int l4] [] h := by
        rw [b170_115, R.2.2, if_pos (show nI 0 = 0 from rfl), b170_122, m_is R (c := 206) (v := 4) (by decide) rfl, bnd]
        simp only [app1, List.cons_append, List.nil_append]
        rw [b170_127, if_neg (by rw [bI_z]; exact fun y => y z1), b170_138, m_is R (c := 207) (v := 5) (by decide) rfl, bnd]
        simp only [app1, List.cons_append, List.nil_append]
        rw [b170_143, if_pos (by rw [bI_z]; omega)]
      -- the bridge is told
      have good : ¬ (s.1 = false ∧ nbr (dG D) (gR (dG D)) = 4) → xe 4 170 169 [.ref 169, .int (nI (gR (dG D))), .int l2, .int l3, .int l4] [] h = xe 4 170 194 [.ref 169, .int (nI (gR (dG D))), .int l2, .int l3, .int l4] [] h → ∃ r h2, flR (tK b n) (tV b n) (nbr (dG D) (gR (dG D))) s k r ∧ eqx sxRf h h2 ∧ match r with
          | .inl (e, k') => mBd h2 b n e k' ∧ xe 4 170 115 [.ref 169, .int (nI (gR (dG D))), .int l2, .int l3, .int l4] [] h = some ([], h2)
          | .inr (k', s') => (k ≤ k' ∧ k' ≤ nt) ∧ mR h2 b n k' ∧ mDr (sm_gi h2 173) D Nc (gR (dG D) + 1) (gP (dG D)) ∧ sm_gi h2 173 (46 + gR (dG D)) = nI (bit s'.1) ∧ sm_gi h2 173 (58 + gR (dG D)) = nI s'.2 ∧ xe 4 170 115 [.ref 169, .int (nI (gR (dG D))), .int l2, .int l3, .int l4] [] h = xe 4 170 226 [.ref 169, .int (nI (gR (dG D))), .int l2, .int l3, .int l4] [] h2 := fun hb e194 => by
        have Ew : eqx (fun c i => c = 173 ∧ i = 46 + gR (dG D)) h (sm_si h 173 (46 + gR (dG D)) (nI 1)) := eqx.rf.si ⟨rfl, rfl⟩
        have R1 := mR_eqx R Ew (fun c i z => by omega)
        obtain ⟨h2, e2, R2, E2⟩ := m_nextR R1 (by omega)
        have M1 : mDr (sm_gi (sm_si h 173 (46 + gR (dG D)) (nI 1)) 173) D Nc (gR (dG D) + 1) (gP (dG D)) := mDr_ch (by omega) hP (by omega) hP M (fun i z => Ew.1 173 i (fun y => z (by unfold opn; omega)))
        have n173 : ∀ i, ¬ sxNx 173 i := fun i z => by unfold sxNx at z; omega
        obtain ⟨r, h3, a3, E3, o3⟩ := ih (k + 1) (true, s.2) h2 (by omega) hk1 R2 (mDr_eqx M1 E2 n173) ((E2.1 173 _ (n173 _)).trans gi_same) ((E2.1 173 _ (n173 _)).trans ((gi_slot (by omega)).trans g58))
        have step : xe 4 170 115 [.ref 169, .int (nI (gR (dG D))), .int l2, .int l3, .int l4] [] h = xe 4 170 115 [.ref 169, .int (nI (gR (dG D))), .int l2, .int l3, .int l4] [] h2 := by
          rw [e138, e194, b170_194, nI_add, if_pos ((in_173 (by omega)).mpr trivial), nI_clamp (by omega), b170_204, R1.2.2, if_pos (show nI 0 = 0 from rfl), b170_211, e2, bnd]
          simp only [List.nil_append]
          rw [b170_215]
        have Ea : eqx sxRf h h3 := ((Ew.wk (fun c i z => by unfold sxRf; omega)).tr (E2.wk sxN_Rf)).tr E3
        refine ⟨r, h3, lpR_go (k' := k + 1) (s' := (true, s.2)) (by unfold flS; rw [if_pos z1, if_neg hb]) a3, Ea, ?_⟩
        rcases r with ⟨e, k'⟩ | ⟨k', s'⟩
        · exact ⟨o3.1, step.trans o3.2⟩
        · obtain ⟨q1, q2, q3, q4, q5, q6⟩ := o3
          exact ⟨⟨by omega, q1.2⟩, q2, q3, q4, q5, step.trans q6⟩
      by_cases z2 : s.1 = false
      · have g46' : sm_gi h 173 (46 + gR (dG D)) = nI 0 := by rw [g46, z2]; rfl
        have hbr : ∀ r, r < 12 → sm_gi h 173 (46 + r) = nI (if r < gR (dG D) ∧ gBri (dG D) r = true then 1 else 0) := fun r hr => by
          by_cases y : r < gR (dG D)
          · rw [(M.2.1 r y).2.2.2.1]
            by_cases x : gBri (dG D) r = true
            · rw [if_pos x, if_pos ⟨y, x⟩]
            · rw [if_neg x, if_neg (fun w => x w.2)]
          · rw [if_neg (fun w => y w.1)]
            by_cases x : r = gR (dG D)
            · rw [x]; exact g46'
            · exact (M.2.2.1 r (by omega) hr).1
        have ebi : xc 169 [.ref 169] h = some ([.int (nI (nbr (dG D) (gR (dG D))))], h) := by
          have := m_bin_loop hbr 12 0 (by omega)
          rw [show min 12 (gR (dG D)) = gR (dG D) by omega, show min 0 (gR (dG D)) = 0 by omega] at this
          rw [en_169, b169_0]
          exact this
        have e185 : xe 4 170 169 [.ref 169, .int (nI (gR (dG D))), .int l2, .int l3, .int l4] [] h = xe 4 170 185 [.ref 169, .int (nI (gR (dG D))), .int l2, .int l3, .int l4] [.int (nI (nbr (dG D) (gR (dG D))))] h := by
          rw [b170_169, nI_add, if_pos ((in_173 (by omega)).mpr trivial), nI_clamp (by omega), g46', if_pos (show nI 0 = 0 from rfl), b170_181, ebi, bnd]
          simp only [app1, List.cons_append, List.nil_append]
        by_cases z3 : nbr (dG D) (gR (dG D)) = 4
        · obtain ⟨h2, e2, B2, E2⟩ := m_fails (e := 4) R (by omega)
          have hd : sm_gi (sm_si h2 173 (46 + gR (dG D)) (nI 1)) 169 11 ≠ 0 := by rw [gi_cell (by decide)]; exact B2.d
          refine ⟨.inl (4, k), sm_si h2 173 (46 + gR (dG D)) (nI 1), lpR_bad (by unfold flS; rw [if_pos z1, if_pos ⟨z2, z3⟩]), (fl_f E2).si (by unfold sxRf; omega), ⟨?_, B2.2.1, by rw [gi_cell (by decide)]; exact B2.2.2.1, by rw [gi_cell (by decide)]; exact B2.2.2.2⟩, ?_⟩
          · exact mBy_eqx B2.1 (S := fun c _ => c = 173) (eqx.rf.si rfl) (fun c i z => by omega)
          · rw [e138, e185, b170_185, if_pos (by rw [z3]), b170_189, e2, bnd]
            simp only [List.nil_append]
            rw [b170_194, nI_add, if_pos ((in_173 (by omega)).mpr trivial), nI_clamp (by omega), b170_204, if_neg hd, rr_d115 hd]
        · refine good (fun y => z3 y.2) ?_
          rw [e185, b170_185, if_neg (by rw [nI_eq (by omega) (by decide)]; exact z3)]
      · have z2' : s.1 = true := by cases hs : s.1 <;> simp_all
        refine good (fun y => z2 y.1) ?_
        rw [b170_169, nI_add, if_pos ((in_173 (by omega)).mpr trivial), nI_clamp (by omega), g46, z2', if_neg (by decide)]
    · by_cases z2 : tK b n k = 207
      · have hk1 := T.s hk (show tK b n k ≠ 0 by omega)
        obtain ⟨h1, e1, R1, E1⟩ := m_nextR R (show tK b n k ≠ 0 by omega)
        have n173 : ∀ i, ¬ sxNx 173 i := fun i z => by unfold sxNx at z; omega
        have e150 : xe 4 170 115 [.ref 169, .int (nI (gR (dG D))), .int l2, .int l3, .int l4] [] h = xe 4 170 150 [.ref 169, .int (nI (gR (dG D))), .int l2, .int l3, .int l4] [] h1 := by
          rw [b170_115, R.2.2, if_pos (show nI 0 = 0 from rfl), b170_122, m_is R (c := 206) (v := 4) (by decide) rfl, bnd]
          simp only [app1, List.cons_append, List.nil_append]
          rw [b170_127, if_pos (by rw [bI_z]; exact z1), b170_130, m_is R (c := 207) (v := 5) (by decide) rfl, bnd]
          simp only [app1, List.cons_append, List.nil_append]
          rw [b170_135, if_neg (by rw [bI_z]; exact fun y => y z2), b170_138, m_is R (c := 207) (v := 5) (by decide) rfl, bnd]
          simp only [app1, List.cons_append, List.nil_append]
          rw [b170_143, if_neg (by rw [bI_z]; exact fun y => y z2), b170_146, e1, bnd]
          simp only [List.nil_append]
        rcases m_takesN (lo := 0) (hi := 10) T R1 (by decide) (by decide) with ⟨e, h2, v, q1, e2, B2, E2⟩ | ⟨q1, q2, h2, e2, R2, E2⟩
        · have hd : sm_gi (sm_si h2 173 (58 + gR (dG D)) v) 169 11 ≠ 0 := by rw [gi_cell (by decide)]; exact B2.d
          refine ⟨.inl (e, k + 1), sm_si h2 173 (58 + gR (dG D)) v, lpR_bad (by unfold flS; rw [if_neg z1, if_pos z2, q1]), ((E1.wk sxN_Rf).tr (fl_f E2)).si (by unfold sxRf; omega), ⟨?_, B2.2.1, by rw [gi_cell (by decide)]; exact B2.2.2.1, by rw [gi_cell (by decide)]; exact B2.2.2.2⟩, ?_⟩
          · exact mBy_eqx B2.1 (S := fun c _ => c = 173) (eqx.rf.si rfl) (fun c i z => by omega)
          · rw [e150, b170_150, e2, bnd]
            simp only [app1, List.cons_append, List.nil_append]
            rw [b170_165, nI_add, if_pos ((in_173 (by omega)).mpr trivial), nI_clamp (by omega), b170_166, rr_d115 hd]
        · have hk2 := T.s hk1 (show tK b n (k + 1) ≠ 0 by omega)
          have Ew : eqx (fun c i => c = 173 ∧ i = 58 + gR (dG D)) h2 (sm_si h2 173 (58 + gR (dG D)) (nI (tV b n (k + 1)))) := eqx.rf.si ⟨rfl, rfl⟩
          have M2 := mDr_eqx (mDr_eqx M E1 n173) E2 n173
          have M3 : mDr (sm_gi (sm_si h2 173 (58 + gR (dG D)) (nI (tV b n (k + 1)))) 173) D Nc (gR (dG D) + 1) (gP (dG D)) := mDr_ch (by omega) hP (by omega) hP M2 (fun i z => Ew.1 173 i (fun y => z (by unfold opn; omega)))
          obtain ⟨r, h3, a3, E3, o3⟩ := ih (k + 2) (s.1, tV b n (k + 1)) _ (by omega) hk2 (mR_eqx R2 Ew (fun c i z => by omega)) M3 ((gi_slot (by omega)).trans ((E2.1 173 _ (n173 _)).trans ((E1.1 173 _ (n173 _)).trans g46))) gi_same
          have step : xe 4 170 115 [.ref 169, .int (nI (gR (dG D))), .int l2, .int l3, .int l4] [] h = xe 4 170 115 [.ref 169, .int (nI (gR (dG D))), .int l2, .int l3, .int l4] [] (sm_si h2 173 (58 + gR (dG D)) (nI (tV b n (k + 1)))) := by
            rw [e150, b170_150, e2, bnd]
            simp only [app1, List.cons_append, List.nil_append]
            rw [b170_165, nI_add, if_pos ((in_173 (by omega)).mpr trivial), nI_clamp (by omega), b170_166]
          have Ea : eqx sxRf h h3 := (((E1.wk sxN_Rf).tr (E2.wk sxN_Rf)).tr (Ew.wk (fun c i z => by unfold sxRf; omega))).tr E3
          refine ⟨r, h3, lpR_go (k' := k + 2) (s' := (s.1, tV b n (k + 1))) (by unfold flS; rw [if_neg z1, if_pos z2, q1]) a3, Ea, ?_⟩
          rcases r with ⟨e, k'⟩ | ⟨k', s'⟩
          · exact ⟨o3.1, step.trans o3.2⟩
          · obtain ⟨p1, p2, p3, p4, p5, p6⟩ := o3
            exact ⟨⟨by omega, p1.2⟩, p2, p3, p4, p5, step.trans p6⟩
      · refine ⟨.inr (k, s), h, lpR_stop (flS_no z1 z2), eqx.rf, ⟨Nat.le_refl _, hk⟩, R, M, g46, g58, ?_⟩
        rw [b170_115, R.2.2, if_pos (show nI 0 = 0 from rfl), b170_122, m_is R (c := 206) (v := 4) (by decide) rfl, bnd]
        simp only [app1, List.cons_append, List.nil_append]
        rw [b170_127, if_pos (by rw [bI_z]; exact z1), b170_130, m_is R (c := 207) (v := 5) (by decide) rfl, bnd]
        simp only [app1, List.cons_append, List.nil_append]
        rw [b170_135, if_pos (by rw [bI_z]; exact z2), b170_218, R.2.2, if_pos (show nI 0 = 0 from rfl)]
end MRR
