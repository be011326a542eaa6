/-! ===== lines are read: the model, a road ===== -/
/-- bounds of a land that is told -/
def dB (D : DG) : Prop := (2 ≤ gN (dG D) ∧ gN (dG D) ≤ 6) ∧ gR (dG D) ≤ 12 ∧ gP (dG D) ≤ 6 ∧ nbr (dG D) (gR (dG D)) ≤ 4
/-- what is read of a line by the model -/
def lnO (h2 : sm_H) (b : Nat → Nat) (n nt k : Nat) : SR DG → Prop
  | .inl (e, k') => mBd h2 b n e k'
  | .inr (k', D') => k < k' ∧ k' ≤ nt ∧ mR h2 b n k' ∧ ∃ Nc, Nc ≤ k' ∧ mDr (sm_gi h2 173) D' Nc (gR (dG D')) (gP (dG D'))
theorem numF_ban {K V : Nat → Nat} {lo hi a k : Nat} (h : K k = 2 → V k ≠ a) : numF K V lo hi (some a) k = numF K V lo hi none k := by
  unfold numF
  by_cases x : K k = 2
  · have hne := h x
    rw [if_neg (show ¬ K k ≠ 2 from fun w => w x), if_neg (show ¬ K k ≠ 2 from fun w => w x)]
    by_cases w : V k < lo ∨ hi < V k
    · rw [if_pos (show V k < lo ∨ hi < V k ∨ some a = some (V k) from w.elim Or.inl (fun y => Or.inr (Or.inl y))), if_pos (show V k < lo ∨ hi < V k ∨ none = some (V k) from w.elim Or.inl (fun y => Or.inr (Or.inl y)))]
    · rw [if_neg (show ¬ (V k < lo ∨ hi < V k ∨ some a = some (V k)) from fun y => by rcases y with y | y | y; exact w (Or.inl y); exact w (Or.inr y); cases y; exact hne rfl), if_neg (show ¬ (V k < lo ∨ hi < V k ∨ none = some (V k)) from fun y => by rcases y with y | y | y; exact w (Or.inl y); exact w (Or.inr y); cases y)]
  · rw [if_pos x, if_pos x]
section MRW
variable {b : Nat → Nat} {n nt k : Nat} {h : sm_H}
theorem n173N : ∀ i, ¬ sxNx 173 i := fun i z => by unfold sxNx at z; omega
theorem addR_dr {f f' : Nat → Int32} {D : DG} {Nc a1 a2 a3 : Nat} {s : Bool × Nat} (hR : gR (dG D) < 12) (hP : gP (dG D) ≤ 6) (M : mDr f D Nc (gR (dG D) + 1) (gP (dG D))) (g46 : f (46 + gR (dG D)) = nI (bit s.1)) (g58 : f (58 + gR (dG D)) = nI s.2) (e1 : f' (10 + gR (dG D)) = nI a1) (e2 : f' (22 + gR (dG D)) = nI a2) (e3 : f' (34 + gR (dG D)) = nI a3) (e4 : f' 2 = nI (gR (dG D) + 1)) (F : ∀ i, i ≠ 10 + gR (dG D) → i ≠ 22 + gR (dG D) → i ≠ 34 + gR (dG D) → i ≠ 2 → f' i = f i) : mDr f' (addR D a1 a2 a3 s) Nc (gR (dG D) + 1) (gP (dG D)) := by
  obtain ⟨⟨x1, x2, x3, x4, x5, x6, x7, x8⟩, B, C, P, Q, U, L1, L2⟩ := M
  refine ⟨⟨(F 0 (by omega) (by omega) (by omega) (by omega)).trans x1, (F 1 (by omega) (by omega) (by omega) (by omega)).trans x2, e4, (F 3 (by omega) (by omega) (by omega) (by omega)).trans x4, (F 88 (by omega) (by omega) (by omega) (by omega)).trans x5, (F 89 (by omega) (by omega) (by omega) (by omega)).trans x6, (F 114 (by omega) (by omega) (by omega) (by omega)).trans x7, (F 375 (by omega) (by omega) (by omega) (by omega)).trans x8⟩, fun r hr => ?_, fun r h1 h2 => ?_, fun p hp => ?_, fun p h1 h2 => ?_, fun p hp => ?_, mLw_ch (by decide) L1 (fun i z => ?_), mLw_ch (by decide) L2 (fun i z => ?_)⟩
  · have hr' : r < gR (dG D) + 1 := hr
    show f' (10 + r) = nI (upF (gOne (dG D)) (gR (dG D)) a1 r) ∧ f' (22 + r) = nI (upF (gOth (dG D)) (gR (dG D)) a2 r) ∧ f' (34 + r) = nI (upF (gLon (dG D)) (gR (dG D)) a3 r) ∧ f' (46 + r) = nI (if upF (gBri (dG D)) (gR (dG D)) s.1 r then 1 else 0) ∧ f' (58 + r) = nI (upF (gFlo (dG D)) (gR (dG D)) s.2 r)
    by_cases z : r = gR (dG D)
    · rw [z, upF_s, upF_s, upF_s, upF_s, upF_s, F (46 + gR (dG D)) (by omega) (by omega) (by omega) (by omega), F (58 + gR (dG D)) (by omega) (by omega) (by omega) (by omega)]
      exact ⟨e1, e2, e3, g46, g58⟩
    · obtain ⟨y1, y2, y3, y4, y5⟩ := B r (by omega)
      rw [upF_o z, upF_o z, upF_o z, upF_o z, upF_o z, F (10 + r) (by omega) (by omega) (by omega) (by omega), F (22 + r) (by omega) (by omega) (by omega) (by omega), F (34 + r) (by omega) (by omega) (by omega) (by omega), F (46 + r) (by omega) (by omega) (by omega) (by omega), F (58 + r) (by omega) (by omega) (by omega) (by omega)]
      exact ⟨y1, y2, y3, y4, y5⟩
  · obtain ⟨y1, y2⟩ := C r h1 h2
    exact ⟨(F _ (by omega) (by omega) (by omega) (by omega)).trans y1, (F _ (by omega) (by omega) (by omega) (by omega)).trans y2⟩
  · have hp' : p < gP (dG D) := hp
    obtain ⟨y1, y2, y3, y4, y5, y6⟩ := P p hp
    exact ⟨(F _ (by omega) (by omega) (by omega) (by omega)).trans y1, (F _ (by omega) (by omega) (by omega) (by omega)).trans y2, (F _ (by omega) (by omega) (by omega) (by omega)).trans y3, (F _ (by omega) (by omega) (by omega) (by omega)).trans y4, (F _ (by omega) (by omega) (by omega) (by omega)).trans y5, (F _ (by omega) (by omega) (by omega) (by omega)).trans y6⟩
  · obtain ⟨y1, y2, y3⟩ := Q p h1 h2
    exact ⟨(F _ (by omega) (by omega) (by omega) (by omega)).trans y1, (F _ (by omega) (by omega) (by omega) (by omega)).trans y2, (F _ (by omega) (by omega) (by omega) (by omega)).trans y3⟩
  · exact (F _ (by omega) (by omega) (by omega) (by omega)).trans (U p hp)
  · exact F i (by omega) (by omega) (by omega) (by omega)
  · exact F i (by omega) (by omega) (by omega) (by omega)
theorem m_readRoad {D : DG} {Nc : Nat} (T : TKo (tK b n) (tV b n) nt) (hB : dB D) (R : mR h b n k) (M : mDr (sm_gi h 173) D Nc (gR (dG D)) (gP (dG D))) (hN : Nc ≤ k) (hk : k ≤ nt) (z : tK b n k = 201) : ∃ r h2, rdR (tK b n) (tV b n) D k r ∧ xc 170 [.ref 169] h = some ([], h2) ∧ lnO h2 b n nt k r ∧ eqx sxRf h h2 := by
  obtain ⟨hgN, hR, hP, hb4⟩ := hB
  have i1 : sm_in 173 (nI 1) := (in_173 (by decide)).mpr trivial
  have i2 : sm_in 173 (nI 2) := (in_173 (by decide)).mpr trivial
  have fin : ∀ x h2, rdH (tK b n) (tV b n) D k = .inl x → mBd h2 b n x.1 x.2 → eqx sxRf h h2 → xc 170 [.ref 169] h = some ([], h2) → ∃ r h2, rdR (tK b n) (tV b n) D k r ∧ xc 170 [.ref 169] h = some ([], h2) ∧ lnO h2 b n nt k r ∧ eqx sxRf h h2 := fun x h2 e1 B E e2 => ⟨.inl x, h2, by unfold rdR; rw [e1], e2, B, E⟩
  have start : xc 170 [.ref 169] h = xe 4 170 0 [.ref 169, .null, .null, .null, .null] [] h := en_170
  have g2 : sm_gi h 173 2 = nI (gR (dG D)) := M.1.2.2.1
  by_cases y0 : gR (dG D) = 12
  · obtain ⟨h2, e2, B2, E2⟩ := m_fails (e := 4) R (by omega)
    refine fin (4, k) h2 (by unfold rdH; rw [if_pos y0]) B2 (fl_f E2) ?_
    rw [start, b170_0, if_pos i2, show (nI 2).toNatClampNeg = 2 from rfl, g2, if_pos (by rw [y0]), b170_13, e2, bnd]
    simp only [List.nil_append]
    rw [b170_18, if_neg B2.d, b170_25]
  have hk1 := T.s hk (show tK b n k ≠ 0 by omega)
  obtain ⟨h1, e1, R1, E1⟩ := m_nextR R (show tK b n k ≠ 0 by omega)
  have M1 := mDr_eqx M E1 n173N
  have gN1 : sm_gi h1 173 1 = nI (gN (dG D)) := M1.1.2.1
  have s30 : xc 170 [.ref 169] h = xe 4 170 30 [.ref 169, .int (nI (gR (dG D))), .null, .null, .null] [] h1 := by
    rw [start, b170_0, if_pos i2, show (nI 2).toNatClampNeg = 2 from rfl, g2, if_neg (by rw [nI_eq (by omega) (by decide)]; exact y0), b170_18, R.2.2, if_pos (show nI 0 = 0 from rfl), b170_26, e1, bnd]
    simp only [List.nil_append]
  have hlt : gR (dG D) < 12 := by omega
  rcases m_takesN (lo := 0) (hi := gN (dG D) - 1) T R1 (by decide) (by omega) with ⟨e, h2, v, q1, e2, B2, E2⟩ | ⟨q1, t1, h2, e2, R2, E2⟩
  · refine fin (e, k + 1) h2 (by unfold rdH; rw [if_neg y0, q1]) B2 ((E1.wk sxN_Rf).tr (fl_f E2)) ?_
    rw [s30, b170_30, if_pos i1, show (nI 1).toNatClampNeg = 1 from rfl, gN1, sub1 (by omega), e2, bnd]
    simp only [app1, List.cons_append, List.nil_append]
    rw [rr_d43 B2.d]
  have hk2 := T.s hk1 (show tK b n (k + 1) ≠ 0 by omega)
  have M2 := mDr_eqx M1 E2 n173N
  have gN2 : sm_gi h2 173 1 = nI (gN (dG D)) := M2.1.2.1
  have s43 : xc 170 [.ref 169] h = xe 4 170 43 [.ref 169, .int (nI (gR (dG D))), .null, .null, .null] [.int (nI (tV b n (k + 1)))] h2 := by
    rw [s30, b170_30, if_pos i1, show (nI 1).toNatClampNeg = 1 from rfl, gN1, sub1 (by omega), e2, bnd]
    simp only [app1, List.cons_append, List.nil_append]
  have E12 : eqx sxRf h h2 := (E1.wk sxN_Rf).tr (E2.wk sxN_Rf)
  rcases (m_eats R2 (c := 219) (v := 2) (by decide) (by decide) rfl).symm with ⟨y1, e3⟩ | ⟨y1, h3, e3, R3, E3⟩
  · obtain ⟨h4, e4, B4, E4⟩ := m_fails (e := 2) R2 (by omega)
    refine fin (2, k + 2) h4 (by unfold rdH; rw [if_neg y0, q1]; dsimp only; rw [if_pos y1]) B4 (E12.tr (fl_f E4)) ?_
    rw [s43, b170_43, e3, bnd]
    simp only [app1, List.cons_append, List.nil_append]
    rw [b170_49, if_pos (show nI 0 = 0 from rfl), b170_52, e4, bnd]
    simp only [List.nil_append]
    rw [rr_d57 B4.d]
  have hk3 := T.s hk2 (show tK b n (k + 1 + 1) ≠ 0 by omega)
  have M3 := mDr_eqx M2 E3 n173N
  have gN3 : sm_gi h3 173 1 = nI (gN (dG D)) := M3.1.2.1
  have E13 : eqx sxRf h h3 := E12.tr (E3.wk sxN_Rf)
  have s57 : xc 170 [.ref 169] h = xe 4 170 57 [.ref 169, .int (nI (gR (dG D))), .int (nI (tV b n (k + 1))), .null, .null] [] h3 := by
    rw [s43, b170_43, e3, bnd]
    simp only [app1, List.cons_append, List.nil_append]
    rw [b170_49, if_neg (by decide)]
  have hv1 := T.2.2.2.2 (k + 1) t1
  -- the other end
  by_cases y2 : tK b n (k + 3) = 2 ∧ tV b n (k + 3) = tV b n (k + 1)
  · obtain ⟨h4, e4, B4, E4⟩ := m_fails (e := 3) R3 (by omega)
    have g10 : sm_gi h3 169 10 = nI (tV b n (k + 3)) := R3.2.1.2.2.2 y2.1
    refine fin (3, k + 3) h4 ?_ B4 (E13.tr (fl_f E4)) ?_
    · unfold rdH
      rw [if_neg y0, q1]
      dsimp only
      rw [if_neg (fun x => x y1)]
      unfold numF
      rw [if_neg (fun x => x y2.1), if_pos (Or.inr (Or.inr (by rw [y2.2])))]
    · rw [s57, b170_57, m_is R3 (c := 2) (v := 23) (by decide) rfl, bnd]
      simp only [app1, List.cons_append, List.nil_append]
      rw [b170_63, if_neg (by rw [bI_z]; exact fun x => x y2.1), b170_66, g10, if_pos (by rw [y2.2]), b170_74, e4, bnd]
      simp only [List.nil_append]
      rw [rr_d79 B4.d]
  have s79 : xc 170 [.ref 169] h = xe 4 170 79 [.ref 169, .int (nI (gR (dG D))), .int (nI (tV b n (k + 1))), .null, .null] [] h3 := by
    rw [s57, b170_57, m_is R3 (c := 2) (v := 23) (by decide) rfl, bnd]
    simp only [app1, List.cons_append, List.nil_append]
    rw [b170_63]
    by_cases x : tK b n (k + 3) = 2
    · have g10 : sm_gi h3 169 10 = nI (tV b n (k + 3)) := R3.2.1.2.2.2 x
      have hv3 := T.2.2.2.2 (k + 3) x
      rw [if_neg (by rw [bI_z]; exact fun w => w x), b170_66, g10, if_neg (by rw [nI_eq (by omega) (by omega)]; exact fun w => y2 ⟨x, w⟩)]
    · rw [if_pos (by rw [bI_z]; exact x)]
  have hban : numF (tK b n) (tV b n) 0 (gN (dG D) - 1) (some (tV b n (k + 1))) (k + 3) = numF (tK b n) (tV b n) 0 (gN (dG D) - 1) none (k + 3) := numF_ban (fun x w => y2 ⟨x, w⟩)
  rcases m_takesN (lo := 0) (hi := gN (dG D) - 1) T R3 (by decide) (by omega) with ⟨e, h4, v, q3, e4, B4, E4⟩ | ⟨q3, t3, h4, e4, R4, E4⟩
  · have q3' : numF (tK b n) (tV b n) 0 (gN (dG D) - 1) none (k + 3) = some e := q3
    refine fin (e, k + 3) h4 ?_ B4 (E13.tr (fl_f E4)) ?_
    · unfold rdH
      rw [if_neg y0, q1]
      dsimp only
      rw [if_neg (fun x => x y1), hban, q3']
    · rw [s79, b170_79, if_pos i1, show (nI 1).toNatClampNeg = 1 from rfl, gN3, sub1 (by omega), e4, bnd]
      simp only [app1, List.cons_append, List.nil_append]
      rw [rr_d92 B4.d]
  have q3' : numF (tK b n) (tV b n) 0 (gN (dG D) - 1) none (k + 3) = none := q3
  have hk4 := T.s hk3 (show tK b n (k + 1 + 1 + 1) ≠ 0 by omega)
  have M4 := mDr_eqx M3 E4 n173N
  have E14 : eqx sxRf h h4 := E13.tr (E4.wk sxN_Rf)
  have s92 : xc 170 [.ref 169] h = xe 4 170 92 [.ref 169, .int (nI (gR (dG D))), .int (nI (tV b n (k + 1))), .null, .null] [.int (nI (tV b n (k + 3)))] h4 := by
    rw [s79, b170_79, if_pos i1, show (nI 1).toNatClampNeg = 1 from rfl, gN3, sub1 (by omega), e4, bnd]
    simp only [app1, List.cons_append, List.nil_append]
  rcases (m_eats R4 (c := 205) (v := 3) (by decide) (by decide) rfl).symm with ⟨y3, e5⟩ | ⟨y3, h5, e5, R5, E5⟩
  · obtain ⟨h6, e6, B6, E6⟩ := m_fails (e := 2) R4 (by omega)
    have y3' : tK b n (k + 4) ≠ 205 := y3
    refine fin (2, k + 4) h6 ?_ B6 (E14.tr (fl_f E6)) ?_
    · unfold rdH
      rw [if_neg y0, q1]
      dsimp only
      rw [if_neg (fun x => x y1), hban, q3']
      dsimp only
      rw [if_pos y3']
    · rw [s92, b170_92, e5, bnd]
      simp only [app1, List.cons_append, List.nil_append]
      rw [b170_98, if_pos (show nI 0 = 0 from rfl), b170_101, e6, bnd]
      simp only [List.nil_append]
      rw [rr_d106 B6.d]
  have y3' : tK b n (k + 4) = 205 := y3
  have hk5 := T.s hk4 (show tK b n (k + 1 + 1 + 1 + 1) ≠ 0 by omega)
  have M5 := mDr_eqx M4 E5 n173N
  have E15 : eqx sxRf h h5 := E14.tr (E5.wk sxN_Rf)
  have s106 : xc 170 [.ref 169] h = xe 4 170 106 [.ref 169, .int (nI (gR (dG D))), .int (nI (tV b n (k + 1))), .int (nI (tV b n (k + 3))), .null] [] h5 := by
    rw [s92, b170_92, e5, bnd]
    simp only [app1, List.cons_append, List.nil_append]
    rw [b170_98, if_neg (by decide)]
  rcases m_takesN (lo := 1) (hi := 20) T R5 (by decide) (by decide) with ⟨e, h6, v, q5, e6, B6, E6⟩ | ⟨q5, t5, h6, e6, R6, E6⟩
  · have q5' : numF (tK b n) (tV b n) 1 20 none (k + 5) = some e := q5
    refine fin (e, k + 5) h6 ?_ B6 (E15.tr (fl_f E6)) ?_
    · unfold rdH
      rw [if_neg y0, q1]
      dsimp only
      rw [if_neg (fun x => x y1), hban, q3']
      dsimp only
      rw [if_neg (fun x => x y3'), q5']
    · rw [s106, b170_106, e6, bnd]
      simp only [app1, List.cons_append, List.nil_append]
      rw [b170_113, rr_d115 B6.d]
  have q5' : numF (tK b n) (tV b n) 1 20 none (k + 5) = none := q5
  have hk6 := T.s hk5 (show tK b n (k + 1 + 1 + 1 + 1 + 1) ≠ 0 by omega)
  have M6 := mDr_eqx M5 E6 n173N
  have E16 : eqx sxRf h h6 := E15.tr (E6.wk sxN_Rf)
  have s115 : xc 170 [.ref 169] h = xe 4 170 115 [.ref 169, .int (nI (gR (dG D))), .int (nI (tV b n (k + 1))), .int (nI (tV b n (k + 3))), .int (nI (tV b n (k + 5)))] [] h6 := by
    rw [s106, b170_106, e6, bnd]
    simp only [app1, List.cons_append, List.nil_append]
    rw [b170_113]
  have hH : rdH (tK b n) (tV b n) D k = .inr (tV b n (k + 1), tV b n (k + 3), tV b n (k + 5)) := by
    unfold rdH
    rw [if_neg y0, q1]
    dsimp only
    rw [if_neg (fun x => x y1), hban, q3']
    dsimp only
    rw [if_neg (fun x => x y3'), q5']
  have hz := M6.2.2.1 (gR (dG D)) (Nat.le_refl _) hlt
  obtain ⟨r0, h7, a7, E7, o7⟩ := m_flags (Nc := Nc) (l2 := nI (tV b n (k + 1))) (l3 := nI (tV b n (k + 3))) (l4 := nI (tV b n (k + 5))) T hlt hP hb4 nt (k + 6) (false, 0) h6 (by omega) hk6 R6 (mDr_mn M6 (by omega) (Nat.le_refl _)) hz.1 hz.2
  rcases r0 with ⟨e, k'⟩ | ⟨k', s⟩
  · exact ⟨.inl (e, k'), h7, by unfold rdR; rw [hH]; exact ⟨_, a7, rfl⟩, s115.trans o7.2, o7.1, E16.tr E7⟩
  · obtain ⟨p1, p2, p3, p4, p5, p6⟩ := o7
    have g2' : sm_gi h7 173 2 = nI (gR (dG D)) := p3.1.2.2.1
    have last : xc 170 [.ref 169] h = some ([], sm_si (sm_si (sm_si (sm_si h7 173 (10 + gR (dG D)) (nI (tV b n (k + 1)))) 173 (22 + gR (dG D)) (nI (tV b n (k + 3)))) 173 (34 + gR (dG D)) (nI (tV b n (k + 5)))) 173 2 (nI (gR (dG D) + 1))) := by
      rw [s115, p6, b170_226, nI_add, if_pos ((in_173 (by omega)).mpr trivial), nI_clamp (by omega), b170_236, nI_add, if_pos ((in_173 (by omega)).mpr trivial), nI_clamp (by omega), b170_246, nI_add, if_pos ((in_173 (by omega)).mpr trivial), nI_clamp (by omega), b170_257, if_pos i2, if_pos i2, show (nI 2).toNatClampNeg = 2 from rfl, gi_slot (by omega), gi_slot (by omega), gi_slot (by omega), g2', nI_add, b170_267]
    have E8 : eqx (fun c i => c = 173) h7 (sm_si (sm_si (sm_si (sm_si h7 173 (10 + gR (dG D)) (nI (tV b n (k + 1)))) 173 (22 + gR (dG D)) (nI (tV b n (k + 3)))) 173 (34 + gR (dG D)) (nI (tV b n (k + 5)))) 173 2 (nI (gR (dG D) + 1))) := eqx.si (eqx.si (eqx.si (eqx.si eqx.rf (by exact rfl)) (by exact rfl)) (by exact rfl)) (by exact rfl)
    refine ⟨.inr (k', addR D (tV b n (k + 1)) (tV b n (k + 3)) (tV b n (k + 5)) s), _, by unfold rdR; rw [hH]; exact ⟨_, a7, rfl⟩, last, ⟨by omega, p1.2, mR_eqx p2 E8 (fun c i w => by omega), Nc, by omega, ?_⟩, (E16.tr E7).tr (E8.wk (fun c i w => by unfold sxRf; omega))⟩
    refine addR_dr hlt hP p3 p4 p5 ?_ ?_ ?_ gi_same (fun i w1 w2 w3 w4 => ?_)
    · rw [gi_slot (by omega), gi_slot (by omega), gi_slot (by omega), gi_same]
    · rw [gi_slot (by omega), gi_slot (by omega), gi_same]
    · rw [gi_slot (by omega), gi_same]
    · rw [gi_slot w4, gi_slot w3, gi_slot w2, gi_slot w1]
end MRW
