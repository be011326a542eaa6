/-! ===== lines are read: the model, persons, laws, lines ===== -/
def pmOK (N : Nat) (s : PM) : Prop := s.1.1 < N ∧ s.1.2 ≤ 9 ∧ (∀ g, s.2.1 = some g → g < N ∧ ∃ v, v ≤ 999 ∧ s.2.2 = nI v) ∧ (s.2.2 = -1 ∨ ∃ v, v ≤ 999 ∧ s.2.2 = nI v)
theorem numF_no {K V : Nat → Nat} {lo hi k : Nat} {ban : Option Nat} (h : numF K V lo hi ban k = none) : K k = 2 ∧ lo ≤ V k ∧ V k ≤ hi ∧ ban ≠ some (V k) := by
  unfold numF at h
  split at h
  · cases h
  · rename_i z
    split at h
    · cases h
    · rename_i y
      have z' : K k = 2 := Classical.byContradiction z
      refine ⟨z', ?_, ?_, fun x => y (Or.inr (Or.inr x))⟩
      · exact Nat.le_of_not_lt (fun x => y (Or.inl x))
      · exact Nat.le_of_not_lt (fun x => y (Or.inr (Or.inl x)))
theorem pmS_ok {K V : Nat → Nat} {N k k' : Nat} {s s' : PM} (hN : 2 ≤ N) (h : pmOK N s) (e : some (.inr (k', s')) = pmS K V N s k) : pmOK N s' := by
  unfold pmS at e
  split at e
  · split at e
    · cases e
    · rename_i q
      cases e
      have := numF_no q
      exact ⟨show V (k + 1) < N by omega, h.2⟩
  · split at e
    · split at e
      · cases e
      · rename_i q
        cases e
        have := numF_no q
        exact ⟨h.1, show V (k + 1) ≤ 9 by omega, h.2.2⟩
    · split at e
      · split at e
        · cases e
        · rename_i q
          split at e
          · cases e
          · split at e
            · cases e
            · rename_i q2
              cases e
              have h1 := numF_no q
              have h2 := numF_no q2
              exact ⟨h.1, h.2.1, (fun g hg => by cases hg; exact ⟨by omega, V (k + 3), by omega, rfl⟩), Or.inr ⟨V (k + 3), by omega, rfl⟩⟩
      · cases e
theorem pmR_ok {K V : Nat → Nat} {N k k' : Nat} {s s' : PM} (hN : 2 ≤ N) (h : pmOK N s) (a : pmR K V N s k (.inr (k', s'))) : pmOK N s' := lpR_inv (P := fun s _ => pmOK N s) (fun s k k' s' hs e => pmS_ok hN hs e) h a
section MRL
variable {b : Nat → Nat} {n nt k : Nat} {h : sm_H}
theorem addP_dr {f f' : Nat → Int32} {D : DG} {Nc a : Nat} {s : PM} (hR : gR (dG D) ≤ 12) (hP : gP (dG D) < 6) (M : mDr f D Nc (gR (dG D)) (gP (dG D) + 1)) (Q : mPp f (gP (dG D)) s a) (e1 : f' (108 + gP (dG D)) = nI (2 ^ a ||| 2 ^ s.1.1)) (e2 : f' 3 = nI (gP (dG D) + 1)) (F : ∀ i, i ≠ 108 + gP (dG D) → i ≠ 3 → f' i = f i) : mDr f' (addP D a s) Nc (gR (dG D)) (gP (dG D) + 1) := by
  obtain ⟨⟨x1, x2, x3, x4, x5, x6, x7, x8⟩, B, C, P, Q1, U, L1, L2⟩ := M
  refine ⟨⟨(F 0 (by omega) (by omega)).trans x1, (F 1 (by omega) (by omega)).trans x2, (F 2 (by omega) (by omega)).trans x3, e2, (F 88 (by omega) (by omega)).trans x5, (F 89 (by omega) (by omega)).trans x6, (F 114 (by omega) (by omega)).trans x7, (F 375 (by omega) (by omega)).trans x8⟩, fun r hr => ?_, fun r h1 h2 => ?_, fun p hp => ?_, fun p h1 h2 => ?_, fun p hp => ?_, mLw_ch (by decide) L1 (fun i z => F i (by omega) (by omega)), mLw_ch (by decide) L2 (fun i z => F i (by omega) (by omega))⟩
  · have hr' : r < gR (dG D) := hr
    obtain ⟨y1, y2, y3, y4, y5⟩ := B r hr
    exact ⟨(F _ (by omega) (by omega)).trans y1, (F _ (by omega) (by omega)).trans y2, (F _ (by omega) (by omega)).trans y3, (F _ (by omega) (by omega)).trans y4, (F _ (by omega) (by omega)).trans y5⟩
  · obtain ⟨y1, y2⟩ := C r h1 h2
    exact ⟨(F _ (by omega) (by omega)).trans y1, (F _ (by omega) (by omega)).trans y2⟩
  · have hp' : p < gP (dG D) + 1 := hp
    show f' (70 + p) = nI (upF (gBor (dG D)) (gP (dG D)) s.1.1 p) ∧ f' (76 + p) = toI (upF (gGol (dG D)) (gP (dG D)) s.2.1 p) ∧ f' (82 + p) = upF (gBy (dG D)) (gP (dG D)) s.2.2 p ∧ f' (90 + p) = nI (upF (dA D) (gP (dG D)) a p) ∧ f' (102 + p) = nI (upF (dP D) (gP (dG D)) s.1.2 p) ∧ f' (108 + p) = nI (2 ^ upF (dA D) (gP (dG D)) a p ||| 2 ^ upF (gBor (dG D)) (gP (dG D)) s.1.1 p)
    obtain ⟨q1, q2, q3, q4, q5⟩ := Q
    by_cases z : p = gP (dG D)
    · rw [z, upF_s, upF_s, upF_s, upF_s, upF_s, F (70 + gP (dG D)) (by omega) (by omega), F (76 + gP (dG D)) (by omega) (by omega), F (82 + gP (dG D)) (by omega) (by omega), F (90 + gP (dG D)) (by omega) (by omega), F (102 + gP (dG D)) (by omega) (by omega)]
      exact ⟨q1, q2, q3, q5, q4, e1⟩
    · obtain ⟨y1, y2, y3, y4, y5, y6⟩ := P p (by omega)
      rw [upF_o z, upF_o z, upF_o z, upF_o z, upF_o z, F (70 + p) (by omega) (by omega), F (76 + p) (by omega) (by omega), F (82 + p) (by omega) (by omega), F (90 + p) (by omega) (by omega), F (102 + p) (by omega) (by omega), F (108 + p) (by omega) (by omega)]
      exact ⟨y1, y2, y3, y4, y5, y6⟩
  · obtain ⟨y1, y2, y3⟩ := Q1 p h1 h2
    exact ⟨(F _ (by omega) (by omega)).trans y1, (F _ (by omega) (by omega)).trans y2, (F _ (by omega) (by omega)).trans y3⟩
  · exact (F _ (by omega) (by omega)).trans (U p hp)
theorem rp_d {l1 l2 : Int32} (hd : sm_gi h 169 11 ≠ 0) : xe 5 172 78 [.ref 169, .int l1, .int l2] [] h = some ([], h) := by
  rw [b172_78, if_neg hd, b172_96, if_neg hd, b172_103]
theorem m_marks {D : DG} {Nc a : Nat} {l2 : Int32} (T : TKo (tK b n) (tV b n) nt) (hgN : 2 ≤ gN (dG D) ∧ gN (dG D) ≤ 6) (hR : gR (dG D) ≤ 12) (hP : gP (dG D) < 6) : ∀ (m k : Nat) (s : PM) (h : sm_H), nt - k < m → k ≤ nt → mR h b n k → mDr (sm_gi h 173) D Nc (gR (dG D)) (gP (dG D) + 1) → mPp (sm_gi h 173) (gP (dG D)) s a → ∃ r h2, pmR (tK b n) (tV b n) (gN (dG D)) s k r ∧ eqx sxRf h h2 ∧ match r with
    | .inl (e, k') => mBd h2 b n e k' ∧ xe 5 172 78 [.ref 169, .int (nI (gP (dG D))), .int l2] [] h = some ([], h2)
    | .inr (k', s') => (k ≤ k' ∧ k' ≤ nt) ∧ mR h2 b n k' ∧ mDr (sm_gi h2 173) D Nc (gR (dG D)) (gP (dG D) + 1) ∧ mPp (sm_gi h2 173) (gP (dG D)) s' a ∧ xe 5 172 78 [.ref 169, .int (nI (gP (dG D))), .int l2] [] h = xe 5 172 104 [.ref 169, .int (nI (gP (dG D))), .int l2] [] h2 := fun m => by
  induction m with
  | zero => intro k s h hm; omega
  | succ m ih =>
    intro k s h hm hk R M Q
    obtain ⟨s0, h1, e1, E1, o1⟩ := m_mark T hgN hR hP hk R M Q
    have st : xe 5 172 78 [.ref 169, .int (nI (gP (dG D))), .int l2] [] h = xe 5 172 90 [.ref 169, .int (nI (gP (dG D))), .int l2] [.int s0] h1 := by
      rw [b172_78, R.2.2, if_pos (show nI 0 = 0 from rfl), b172_85, e1, bnd]
      simp only [app1, List.cons_append, List.nil_append]
    generalize hq : pmS (tK b n) (tV b n) (gN (dG D)) s k = o at o1
    rcases o with _ | x | ⟨k', s'⟩
    · obtain ⟨o1, o2⟩ := o1
      rw [o2] at st
      refine ⟨.inr (k, s), h, lpR_stop hq.symm, eqx.rf, ⟨Nat.le_refl _, hk⟩, R, M, Q, ?_⟩
      rw [st, o1, b172_90, if_pos (show nI 0 = 0 from rfl), b172_96, R.2.2, if_pos (show nI 0 = 0 from rfl)]
    · obtain ⟨e, k'⟩ := x
      obtain ⟨o1, o2⟩ := o1
      refine ⟨.inl (e, k'), h1, lpR_bad hq.symm, E1, o2, ?_⟩
      rw [st, o1, b172_90, if_pos (show nI 0 = 0 from rfl), b172_96, if_neg o2.d, b172_103]
    · obtain ⟨o1, o2, o3, o4, o5, o6⟩ := o1
      obtain ⟨r, h3, a3, E3, q3⟩ := ih k' s' h1 (by omega) o3 o4 o5 o6
      have st2 : xe 5 172 78 [.ref 169, .int (nI (gP (dG D))), .int l2] [] h = xe 5 172 78 [.ref 169, .int (nI (gP (dG D))), .int l2] [] h1 := by
        rw [st, o1, b172_90, if_neg (by decide), b172_93]
      refine ⟨r, h3, lpR_go hq.symm a3, E1.tr E3, ?_⟩
      rcases r with ⟨e, k2⟩ | ⟨k2, s2⟩
      · exact ⟨q3.1, st2.trans q3.2⟩
      · obtain ⟨p1, p2, p3, p4, p5⟩ := q3
        exact ⟨⟨by omega, p1.2⟩, p2, p3, p4, st2.trans p5⟩
theorem m_readPerson {D : DG} {Nc : Nat} (T : TKo (tK b n) (tV b n) nt) (hB : dB D) (R : mR h b n k) (M : mDr (sm_gi h 173) D Nc (gR (dG D)) (gP (dG D))) (hN : Nc ≤ k) (hk : k ≤ nt) (z : tK b n k = 202) : ∃ r h2, psR (tK b n) (tV b n) D k r ∧ xc 172 [.ref 169] h = some ([], h2) ∧ lnO h2 b n nt k r ∧ eqx sxRf h h2 := by
  obtain ⟨hgN, hR, hP, -⟩ := hB
  have i1 : sm_in 173 (nI 1) := (in_173 (by decide)).mpr trivial
  have i3 : sm_in 173 (nI 3) := (in_173 (by decide)).mpr trivial
  have fin : ∀ x h2, psH (tK b n) (tV b n) D k = .inl x → mBd h2 b n x.1 x.2 → eqx sxRf h h2 → xc 172 [.ref 169] h = some ([], h2) → ∃ r h2, psR (tK b n) (tV b n) D k r ∧ xc 172 [.ref 169] h = some ([], h2) ∧ lnO h2 b n nt k r ∧ eqx sxRf h h2 := fun x h2 e1 B E e2 => ⟨.inl x, h2, by unfold psR; rw [e1], e2, B, E⟩
  have start : xc 172 [.ref 169] h = xe 5 172 0 [.ref 169, .null, .null] [] h := en_172
  have g3 : sm_gi h 173 3 = nI (gP (dG D)) := M.1.2.2.2.1
  by_cases y0 : gP (dG D) = 6
  · obtain ⟨h2, e2, B2, E2⟩ := m_fails (e := 4) R (by omega)
    refine fin (4, k) h2 (by unfold psH; rw [if_pos y0]) B2 (fl_f E2) ?_
    rw [start, b172_0, if_pos i3, show (nI 3).toNatClampNeg = 3 from rfl, g3, if_pos (by rw [y0]), b172_13, e2, bnd]
    simp only [List.nil_append]
    rw [b172_18, if_neg B2.d, b172_25]
  have hlt : gP (dG D) < 6 := by omega
  have hin : ∀ x, x ≤ 110 → sm_in 173 (nI (x + gP (dG D))) := fun x hx => (in_173 (by omega)).mpr trivial
  have hk1 := T.s hk (show tK b n k ≠ 0 by omega)
  obtain ⟨h1, e1, R1, E1⟩ := m_nextR R (show tK b n k ≠ 0 by omega)
  have M1 := mDr_eqx M E1 n173N
  have s30 : xc 172 [.ref 169] h = xe 5 172 30 [.ref 169, .int (nI (gP (dG D))), .null] [] h1 := by
    rw [start, b172_0, if_pos i3, show (nI 3).toNatClampNeg = 3 from rfl, g3, if_neg (by rw [nI_eq (by omega) (by decide)]; exact y0), b172_18, R.2.2, if_pos (show nI 0 = 0 from rfl), b172_26, e1, bnd]
    simp only [List.nil_append]
  -- behind a fault
  have dead : ∀ {h' : sm_H} {e k' : Nat} {v : Int32}, mBd h' b n e k' → eqx sxRf h h' → ∃ h2, xe 5 172 57 [.ref 169, .int (nI (gP (dG D))), .null] [.int v] h' = some ([], h2) ∧ eqx sxRf h h2 ∧ mBd h2 b n e k' := fun {h'} {e} {k'} {v} B E => by
    rw [b172_57, nI_add, if_pos (hin 90 (by decide)), nI_clamp (by omega), b172_68, nI_add, if_pos (hin 70 (by decide)), nI_clamp (by omega), rp_d (by rw [gi_cell (by decide), gi_cell (by decide)]; exact B.d)]
    exact ⟨_, rfl, f_173 (f_173 E), mBd_173 (mBd_173 B)⟩
  rcases (m_eats R1 (c := 208) (v := 7) (by decide) (by decide) rfl).symm with ⟨y1, e2⟩ | ⟨y1, h2, e2, R2, E2⟩
  · obtain ⟨h3, e3, B3, E3⟩ := m_fails (e := 2) R1 (by omega)
    obtain ⟨h4, e4, E4, B4⟩ := dead (v := sm_gi h3 169 10) B3 ((E1.wk sxN_Rf).tr (fl_f E3))
    refine fin (2, k + 1) h4 (by unfold psH; rw [if_neg y0, if_pos y1]) B4 E4 ?_
    rw [s30, b172_30, e2, bnd]
    simp only [app1, List.cons_append, List.nil_append]
    rw [b172_36, if_pos (show nI 0 = 0 from rfl), b172_39, e3, bnd]
    simp only [List.nil_append]
    rw [b172_44, if_pos i1, m_takesN_d B3.d, bnd]
    simp only [app1, List.cons_append, List.nil_append]
    rw [e4]
  have hk2 := T.s hk1 (show tK b n (k + 1) ≠ 0 by omega)
  have M2 := mDr_eqx M1 E2 n173N
  have gN2 : sm_gi h2 173 1 = nI (gN (dG D)) := M2.1.2.1
  have E12 : eqx sxRf h h2 := (E1.wk sxN_Rf).tr (E2.wk sxN_Rf)
  have s44 : xc 172 [.ref 169] h = xe 5 172 44 [.ref 169, .int (nI (gP (dG D))), .null] [] h2 := by
    rw [s30, b172_30, e2, bnd]
    simp only [app1, List.cons_append, List.nil_append]
    rw [b172_36, if_neg (by decide)]
  rcases m_takesN (lo := 0) (hi := gN (dG D) - 1) T R2 (by decide) (by omega) with ⟨e, h3, v, q2, e3, B3, E3⟩ | ⟨q2, t2, h3, e3, R3, E3⟩
  · have q2' : numF (tK b n) (tV b n) 0 (gN (dG D) - 1) none (k + 2) = some e := q2
    obtain ⟨h4, e4, E4, B4⟩ := dead (v := v) B3 (E12.tr (fl_f E3))
    refine fin (e, k + 2) h4 (by unfold psH; rw [if_neg y0, if_neg (show ¬ tK b n (k + 1) ≠ 208 from fun w => w y1), q2']) B4 E4 ?_
    rw [s44, b172_44, if_pos i1, show (nI 1).toNatClampNeg = 1 from rfl, gN2, sub1 (by omega), e3, bnd]
    simp only [app1, List.cons_append, List.nil_append]
    rw [e4]
  have q2' : numF (tK b n) (tV b n) 0 (gN (dG D) - 1) none (k + 2) = none := q2
  have hb2 := numF_no q2'
  have hk3 := T.s hk2 (show tK b n (k + 1 + 1) ≠ 0 by omega)
  have M3 := mDr_mn (mDr_eqx M2 E3 n173N) (Nat.le_refl _) (show gP (dG D) ≤ gP (dG D) + 1 by omega)
  have un := (mDr_eqx M2 E3 n173N).2.2.2.2.1 (gP (dG D)) (Nat.le_refl _) hlt
  have hH : psH (tK b n) (tV b n) D k = .inr (tV b n (k + 2)) := by unfold psH; rw [if_neg y0, if_neg (show ¬ tK b n (k + 1) ≠ 208 from fun w => w y1), q2']
  have M4 : mDr (sm_gi (sm_si (sm_si h3 173 (90 + gP (dG D)) (nI (tV b n (k + 2)))) 173 (70 + gP (dG D)) (nI (tV b n (k + 2)))) 173) D Nc (gR (dG D)) (gP (dG D) + 1) := mDr_ch hR (by omega) hR (by omega) (mDr_ch hR (by omega) hR (by omega) M3 (fun j w => gi_slot (fun y => w (by unfold opn; omega)))) (fun j w => gi_slot (fun y => w (by unfold opn; omega)))
  have s78 : xc 172 [.ref 169] h = xe 5 172 78 [.ref 169, .int (nI (gP (dG D))), .int (nI (tV b n (k + 2)))] [] (sm_si (sm_si h3 173 (90 + gP (dG D)) (nI (tV b n (k + 2)))) 173 (70 + gP (dG D)) (nI (tV b n (k + 2)))) := by
    rw [s44, b172_44, if_pos i1, show (nI 1).toNatClampNeg = 1 from rfl, gN2, sub1 (by omega), e3, bnd]
    simp only [app1, List.cons_append, List.nil_append]
    rw [b172_57, nI_add, if_pos (hin 90 (by decide)), nI_clamp (by omega), b172_68, nI_add, if_pos (hin 70 (by decide)), nI_clamp (by omega)]
  have E4 : eqx sxRf h (sm_si (sm_si h3 173 (90 + gP (dG D)) (nI (tV b n (k + 2)))) 173 (70 + gP (dG D)) (nI (tV b n (k + 2)))) := f_173 (f_173 (E12.tr (E3.wk sxN_Rf)))
  obtain ⟨r0, h5, a5, E5, o5⟩ := m_marks (a := tV b n (k + 2)) (l2 := nI (tV b n (k + 2))) T hgN hR hlt (nt + 1) (k + 3) ((tV b n (k + 2), 0), (none, -1)) _ (by omega) hk3 (mR_173 (mR_173 R3)) M4 ⟨gi_same, (gi_slot (by omega)).trans ((gi_slot (by omega)).trans un.1), (gi_slot (by omega)).trans ((gi_slot (by omega)).trans un.2.1), (gi_slot (by omega)).trans ((gi_slot (by omega)).trans un.2.2), (gi_slot (by omega)).trans gi_same⟩
  have hpm : pmOK (gN (dG D)) ((tV b n (k + 2), 0), (none, -1)) := ⟨show tV b n (k + 2) < _ by omega, Nat.zero_le _, (fun g hg => by cases hg), Or.inl rfl⟩
  rcases r0 with ⟨e, k'⟩ | ⟨k', s⟩
  · exact ⟨.inl (e, k'), h5, by unfold psR; rw [hH]; exact ⟨_, a5, rfl⟩, s78.trans o5.2, o5.1, E4.tr E5⟩
  · obtain ⟨p1, p2, p3, p4, p5⟩ := o5
    have hs := pmR_ok hgN.1 hpm a5
    have g3' : sm_gi h5 173 3 = nI (gP (dG D)) := p3.1.2.2.2.1
    have last : xc 172 [.ref 169] h = some ([], sm_si (sm_si h5 173 (108 + gP (dG D)) (nI (2 ^ tV b n (k + 2) ||| 2 ^ s.1.1))) 173 3 (nI (gP (dG D) + 1))) := by
      have hs1 := hs.1
      rw [s78, p5, b172_104, nI_add, nI_add, if_pos (hin 70 (by decide)), if_pos (hin 108 (by decide)), nI_clamp (by omega), nI_clamp (by omega), p4.1, shl1 (by omega), shl1 (by omega), fa_or, b172_128, if_pos i3, if_pos i3, show (nI 3).toNatClampNeg = 3 from rfl, gi_slot (by omega), g3', nI_add, b172_138]
    refine ⟨.inr (k', addP D (tV b n (k + 2)) s), _, by unfold psR; rw [hH]; exact ⟨_, a5, rfl⟩, last, ⟨by omega, p1.2, mR_173 (mR_173 p2), Nc, by omega, ?_⟩, f_173 (f_173 (E4.tr E5))⟩
    exact addP_dr hR hlt p3 p4 ((gi_slot (by omega)).trans gi_same) gi_same (fun i w1 w2 => (gi_slot w2).trans (gi_slot w1))
end MRL
