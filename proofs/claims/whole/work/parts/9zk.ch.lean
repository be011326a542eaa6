/-! ===== readLand: the class ===== -/
section CRK
variable {b : Nat → Nat} {n nt k : Nat} {h : sm_H}
theorem c_clear : ∃ h2, xc 31 [.ref 29] h = some ([], h2) ∧ cDz h2 (D00 2) 0 ∧ eqx (fun c i => c = 29 ∨ (c = 39 ∧ i = 2) ∨ (c = 42 ∧ i = 2)) h h2 := by
  have D29 : sm_isD 29 := by unfold sm_isD; exact kd_29
  have q1 : sm_isQ (29 + 10) := by unfold sm_isQ; exact kd_39
  have q2 : sm_isQ (29 + 13) := by unfold sm_isQ; exact kd_42
  rw [en_31, b31_0 D29, b31_5 D29, b31_10 D29, b31_15 D29, b31_20 D29, b31_25 D29 q1, b31_33 D29 q2, b31_41]
  refine ⟨_, rfl, ⟨⟨?_, ?_, ?_, ?_, ?_⟩, fun r hr => absurd hr (Nat.not_lt_zero r), fun p hp => absurd hp (Nat.not_lt_zero p), ?_, ?_⟩, ?_⟩
  · rw [gi_cell (by decide), gi_cell (by decide), gi_slot (by decide), gi_slot (by decide), gi_slot (by decide), gi_slot (by decide), gi_same]; rfl
  · rw [gi_cell (by decide), gi_cell (by decide), gi_slot (by decide), gi_slot (by decide), gi_slot (by decide), gi_same]; rfl
  · rw [gi_cell (by decide), gi_cell (by decide), gi_slot (by decide), gi_slot (by decide), gi_same]; rfl
  · rw [gi_cell (by decide), gi_cell (by decide), gi_slot (by decide), gi_same]; rfl
  · rw [gi_cell (by decide), gi_cell (by decide), gi_same]
  · show sm_gi _ 39 2 = nI 0
    rw [gi_cell (by decide), gi_same]
  · show sm_gi _ 42 2 = nI 0
    rw [gi_same]
  · exact eqx.si (eqx.si (eqx.si (eqx.si (eqx.si (eqx.si (eqx.si eqx.rf (Or.inl rfl)) (Or.inl rfl)) (Or.inl rfl)) (Or.inl rfl)) (Or.inl rfl)) (Or.inr (Or.inl ⟨rfl, rfl⟩))) (Or.inr (Or.inr ⟨rfl, rfl⟩))
/-- the head: a fault, or the land begun -/
theorem c_heading (R : cRd h b n nt 0) (Z : cDz h (D00 2) 0) : ∃ w h2, xc 59 [.ref 28] h = some ([.int w], h2) ∧ eqx sxCl h h2 ∧ match hdF (tK b n) (tV b n) with
    | .inl (e, k') => w = nI e ∧ (1 ≤ e ∧ e ≤ 4) ∧ cRd h2 b n nt k'
    | .inr v => w = nI 0 ∧ cRd h2 b n nt 3 ∧ cDr h2 (D0 v) := by
  have T := R.1.1
  have nz : ∀ e : Nat, (1 ≤ e ∧ e ≤ 4) → ¬ nI e = 0 := fun e he => by rw [show (0 : Int32) = nI 0 from rfl, nI_eq (by omega) (by decide)]; omega
  rw [en_59, b59_0]
  unfold hdF
  rcases c_take2 (c := 200) R (by decide) (by decide) with ⟨y0, e1, R1, E1⟩ | ⟨y0, e1⟩
  · rw [e1, bnd]
    simp only [app1, List.cons_append, List.nil_append]
    rw [b59_7, if_pos (show nI 0 = 0 from rfl), b59_12, if_neg (show ¬ tK b n 0 ≠ 200 from fun w => w y0)]
    rcases c_number (lo := 2) (hi := 6) (ban := none) R1 (by decide) (by decide) (fun a w => by cases w) with ⟨e, h2, q1, q2, e2, R2, E2⟩ | ⟨q1, h2, e2, R2, g5, E2⟩
    · rw [show toI none = -1 from rfl] at e2
      have q1' : numF (tK b n) (tV b n) 2 6 none 1 = some e := q1
      rw [e2, bnd]
      simp only [app1, List.cons_append, List.nil_append]
      rw [b59_20, b59_21, if_neg (nz e (by omega)), b59_51, q1']
      exact ⟨_, h2, rfl, (E1.tr E2).wk sx28_l, rfl, by omega, R2⟩
    · rw [show toI none = -1 from rfl] at e2
      have q1' : numF (tK b n) (tV b n) 2 6 none 1 = none := q1
      have g5' : sm_gi h2 28 5 = nI (tV b n 1) := g5
      have E3 : eqx (fun c i => c = 29 ∧ (i = 0 ∨ i = 1)) h2 (sm_si (sm_si h2 29 0 (nI (tV b n 1))) 29 1 (nI 1)) := (eqx.rf.si ⟨rfl, Or.inl rfl⟩).si ⟨rfl, Or.inr rfl⟩
      have R3 : cRd (sm_si (sm_si h2 29 0 (nI (tV b n 1))) 29 1 (nI 1)) b n nt 2 := cRd_ch R2 E3 (fun c i w => by unfold sxCl; omega) ((gi_cell (by decide)).trans ((gi_cell (by decide)).trans R2.2.1)) R2.2.2
      have Z2 := cDz_ch Z (E1.tr E2) sx28_o
      have Z3 : cDr (sm_si (sm_si h2 29 0 (nI (tV b n 1))) 29 1 (nI 1)) (D0 (tV b n 1)) := by
        obtain ⟨⟨a1, a2, a3, a4, a5⟩, -, -, l1, l2⟩ := Z2
        exact ⟨⟨(gi_slot (by decide)).trans gi_same, gi_same, (gi_slot (by decide)).trans ((gi_slot (by decide)).trans a3), (gi_slot (by decide)).trans ((gi_slot (by decide)).trans a4), (gi_slot (by decide)).trans ((gi_slot (by decide)).trans a5)⟩, fun r hr => absurd hr (Nat.not_lt_zero r), fun p hp => absurd hp (Nat.not_lt_zero p), cLaw_eqx l1 E3 (fun c i w => by omega), cLaw_eqx l2 E3 (fun c i w => by omega)⟩
      have Ea : eqx sxCl h (sm_si (sm_si h2 29 0 (nI (tV b n 1))) 29 1 (nI 1)) := ((E1.tr E2).wk sx28_l).tr (E3.wk (fun c i w => by unfold sxCl; omega))
      rw [e2, bnd]
      simp only [app1, List.cons_append, List.nil_append]
      rw [b59_20, b59_21, if_pos (show nI 0 = 0 from rfl), b59_25, g5', b59_36, b59_44, q1']
      rcases c_take2 (c := 59) R3 (by decide) (by decide) with ⟨y2, e4, R4, E4⟩ | ⟨y2, e4⟩
      · rw [e4, bnd]
        simp only [app1, List.cons_append, List.nil_append]
        rw [b59_50, b59_51, if_neg (show ¬ tK b n 2 ≠ 59 from fun w => w y2)]
        exact ⟨_, _, rfl, Ea.tr (E4.wk sx28_l), rfl, R4, cDz_ch Z3 E4 sx28_o⟩
      · rw [e4, bnd]
        simp only [app1, List.cons_append, List.nil_append]
        rw [b59_50, b59_51, if_pos y2]
        exact ⟨_, _, rfl, Ea, rfl, by omega, R3⟩
  · rw [e1, bnd]
    simp only [app1, List.cons_append, List.nil_append]
    rw [b59_7, if_neg (by decide), b59_21, if_neg (by decide), b59_51, if_pos y0]
    exact ⟨_, h, rfl, eqx.rf, rfl, by omega, R⟩
/-- what is read of a land by the class -/
def ldC (h2 : sm_H) (b : Nat → Nat) (n nt : Nat) : SR DG → Prop
  | .inl (e, k') => (1 ≤ e ∧ e ≤ 4) ∧ cRd h2 b n nt k'
  | .inr (k', D') => cRd h2 b n nt k' ∧ dWf D' ∧ cDr h2 D'
theorem c_read_loop {l2 : Int32} : ∀ (m k i : Nat) (D : DG) (h : sm_H), nt - k < m → i + 3 ≤ k → cRd h b n nt k → dWf D → cDr h D → ∃ r l4 h2, lpR (lnS (tK b n) (tV b n)) D k r ∧ xe 77 50 26 [.ref 28, .ref 1, .int l2, .int (nI 0), .int (nI i)] [] h = xe 77 50 61 [.ref 28, .ref 1, .int l2, .int (rwI r), .int l4] [] h2 ∧ ldC h2 b n nt r ∧ eqw sxCl h h2 := fun m => by
  induction m with
  | zero => intro k i D h hm; omega
  | succ m ih =>
    intro k i D h hm hi R W Z
    have T := R.1.1
    have h900 := T.2.2.1
    have hk := R.2.2
    have hKL := KL_lt _ (T.2.2.2.1 k)
    rw [b50_26, if_neg (by rw [nI_leI (by decide) (by omega)]; omega), b50_34, if_pos (show nI 0 = 0 from rfl), b50_38, R.2.1]
    simp (disch := omega) only [in_45, if_true, nI_clamp, (R.1.2 k hk).1]
    by_cases z : tK b n k = 0
    · rw [if_pos (by rw [z]; rfl)]
      exact ⟨.inr (k, D), nI i, h, lpR_stop (by unfold lnS; rw [if_pos z]), rfl, ⟨R, W, Z⟩, eqw_x eqx.rf⟩
    · obtain ⟨r, h1, a1, e1, o1, E1⟩ := c_line W.b R Z z
      have hst : lnS (tK b n) (tV b n) D k (some (semi (tK b n) r)) := by unfold lnS; rw [if_neg z]; exact ⟨r, a1, rfl⟩
      rw [if_neg (by rw [show (0 : Int32) = nI 0 from rfl, nI_eq (by omega) (by decide)]; exact z), b50_50, e1, bnd]
      simp only [app1, List.cons_append, List.nil_append]
      rw [b50_54, nI_add]
      generalize semi (tK b n) r = r2 at hst o1
      rcases r2 with ⟨e, k2⟩ | ⟨k2, D2⟩
      · have he := o1.1
        rw [show rwI (.inl (e, k2)) = nI e from rfl, b50_26, if_neg (by rw [nI_leI (by decide) (by omega)]; omega), b50_34, if_neg (by rw [show (0 : Int32) = nI 0 from rfl, nI_eq (by omega) (by decide)]; omega)]
        exact ⟨.inl (e, k2), _, h1, lpR_bad hst, rfl, o1, E1⟩
      · obtain ⟨q1, q2, q3⟩ := o1
        obtain ⟨r3, l4, h3, a3, e3, o3, E3⟩ := ih k2 (i + 1) D2 h1 (by have := q2.2.2; omega) (by omega) q2 (lnS_wf T W hst) q3
        rw [show rwI (.inr (k2, D2)) = nI 0 from rfl, e3]
        exact ⟨r3, l4, h3, lpR_go hst a3, rfl, o3, eqw_tr E1 E3⟩
def sxRl : Nat → Nat → Prop := fun c _ => 28 ≤ c ∧ c ≤ 47
noncomputable def lwI (b : Nat → Nat) (n : Nat) : SR DG → Int32
  | .inl (e, k) => nI (flt e (tK b n k))
  | .inr _ => nI 0
noncomputable def lpI (b : Nat → Nat) (n : Nat) : SR DG → Int32
  | .inl (_, k) => nI (psT b n k)
  | .inr _ => -1
def ldD (h2 : sm_H) : SR DG → Prop
  | .inl _ => True
  | .inr (_, D') => dWf D' ∧ cDr h2 D'
theorem cDz_28 {h : sm_H} {D : DG} {bb i : Nat} {v : Int32} (H : cDz h D bb) : cDz (sm_si h 28 i v) D bb := cDz_ch H (S := fun c _ => c = 28) (eqx.rf.si rfl) (fun c i w => by unfold opC2; omega)
theorem c_readLand (H : cBy h b n) : ∃ r h2, ldR (tK b n) (tV b n) r ∧ xc 50 [.ref 28, .ref 1, .int (nI n)] h = some ([.int (lwI b n r)], h2) ∧ sm_gi h2 28 7 = lwI b n r ∧ sm_gi h2 28 8 = lpI b n r ∧ ldD h2 r ∧ (∀ e k, r = .inl (e, k) → 1 ≤ e ∧ e ≤ 4) ∧ eqw sxRl h h2 := by
  obtain ⟨nt, h1, e1, K1, E1⟩ := c_split H
  have T := K1.1
  have h900 := T.2.2.1
  rw [en_50, b50_0, e1, bnd]
  simp only [List.nil_append]
  rw [b50_6, b50_11]
  have E2 : eqx (fun c i => c = 28) h1 (sm_si h1 28 4 (nI 0)) := eqx.rf.si rfl
  obtain ⟨h3, e3, Z3, E3⟩ := c_clear (h := sm_si h1 28 4 (nI 0))
  rw [e3, bnd]
  simp only [List.nil_append]
  have K3 : cTk h3 b n nt := cTk_eqx (cTk_eqx K1 E2 (fun c i w => by omega)) E3 (fun c i w => by omega)
  have R3 : cRd h3 b n nt 0 := ⟨K3, (E3.1 28 4 (by omega)).trans gi_same, Nat.zero_le _⟩
  obtain ⟨w, h4, e4, E4, o4⟩ := c_heading R3 Z3
  have E14 : eqx sxRl h h4 := (((E1.wk (fun c i w => by unfold sxSp at w; unfold sxRl; omega)).tr (E2.wk (fun c i w => by unfold sxRl; omega))).tr (E3.wk (fun c i w => by unfold sxRl; omega))).tr (E4.wk (fun c i w => by unfold sxCl at w; unfold sxRl; omega))
  rw [b50_18, e4, bnd]
  simp only [app1, List.cons_append, List.nil_append]
  rw [b50_22]
  -- the loop, or a fault in the head
  have loop : ∃ r l4 h5, ldR (tK b n) (tV b n) r ∧ xe 77 50 26 [.ref 28, .ref 1, .int (nI n), .int w, .int (nI 0)] [] h4 = xe 77 50 61 [.ref 28, .ref 1, .int (nI n), .int (rwI r), .int l4] [] h5 ∧ ldC h5 b n nt r ∧ eqw sxCl h4 h5 := by
    unfold ldR
    generalize hq : hdF (tK b n) (tV b n) = hd at o4 ⊢
    rcases hd with ⟨e, k'⟩ | v
    · obtain ⟨p1, p2, p3⟩ := o4
      refine ⟨.inl (e, k'), nI 0, h4, rfl, ?_, ⟨p2, p3⟩, eqw_x eqx.rf⟩
      rw [p1, show rwI (.inl (e, k')) = nI e from rfl, b50_26, if_neg (by decide), b50_34, if_neg (by rw [show (0 : Int32) = nI 0 from rfl, nI_eq (by omega) (by decide)]; omega)]
    · obtain ⟨p1, p2, p3⟩ := o4
      obtain ⟨r, l4, h5, a5, e5, o5, E5⟩ := c_read_loop (l2 := nI n) (nt + 1) 3 0 (D0 v) h4 (by omega) (by omega) p2 (D0_wf (hdF_ok hq)) p3
      rw [p1]
      exact ⟨r, l4, h5, a5, e5, o5, E5⟩
  obtain ⟨r, l4, h5, a5, e5, o5, E5⟩ := loop
  have E15 : eqw sxRl h h5 := eqw_tr (eqw_x E14) (eqw_wk E5 (fun c i w => by unfold sxCl at w; unfold sxRl; omega))
  rw [e5, b50_61]
  rcases r with ⟨e, k⟩ | ⟨k, D⟩
  · obtain ⟨he, R5⟩ := o5
    have hne : ¬ nI e = 0 := by rw [show (0 : Int32) = nI 0 from rfl, nI_eq (by omega) (by decide)]; omega
    have hk := R5.2.2
    have hKL := KL_lt _ (T.2.2.2.1 k)
    rw [show rwI (.inl (e, k)) = nI e from rfl, if_neg hne, b50_66, R5.2.1]
    simp (disch := omega) only [in_45, if_true, nI_clamp, (R5.1.2 k hk).1]
    have fin : ∀ v, v = nI (flt e (tK b n k)) → ∃ r h2, ldR (tK b n) (tV b n) r ∧ xe 77 50 84 [.ref 28, .ref 1, .int (nI n), .int (nI e), .int l4] [.int v, .ref 28] h5 = some ([.int (lwI b n r)], h2) ∧ sm_gi h2 28 7 = lwI b n r ∧ sm_gi h2 28 8 = lpI b n r ∧ ldD h2 r ∧ (∀ e k, r = .inl (e, k) → 1 ≤ e ∧ e ≤ 4) ∧ eqw sxRl h h2 := fun v hv => by
      have g4 : sm_gi (sm_si h5 28 7 v) 28 4 = nI k := (gi_slot (by decide)).trans R5.2.1
      have g47 : sm_gi (sm_si h5 28 7 v) 47 k = nI (psT b n k) := (gi_cell (by decide)).trans (R5.1.2 k hk).2.1
      rw [b50_84, b50_87, if_neg hne, b50_96, g4]
      simp (disch := omega) only [in_47, if_true, nI_clamp, g47]
      rw [b50_105, b50_108, gi_slot (by decide), gi_same]
      have E6 : eqx sxRl h5 (sm_si (sm_si h5 28 7 v) 28 8 (nI (psT b n k))) := (eqx.rf.si (by unfold sxRl; omega)).si (by unfold sxRl; omega)
      exact ⟨.inl (e, k), _, a5, by rw [hv]; rfl, ((gi_slot (by decide)).trans gi_same).trans (by rw [hv]; rfl), gi_same, trivial, fun e' k' x => by cases x; exact he, eqw_tr E15 (eqw_x E6)⟩
    by_cases z : tK b n k = 1
    · rw [if_pos (by rw [z]), b50_79]
      exact fin _ (by unfold flt; rw [if_pos z])
    · rw [if_neg (by rw [nI_eq (by omega) (by decide)]; exact z), b50_83]
      exact fin _ (by unfold flt; rw [if_neg z])
  · obtain ⟨R5, W5, Z5⟩ := o5
    rw [show rwI (.inr (k, D)) = nI 0 from rfl, if_pos (show nI 0 = 0 from rfl), b50_83, b50_84, b50_87, if_pos (show nI 0 = 0 from rfl), b50_92, b50_105, b50_108, gi_slot (by decide), gi_same]
    have E6 : eqx sxRl h5 (sm_si (sm_si h5 28 7 (nI 0)) 28 8 (-1)) := (eqx.rf.si (by unfold sxRl; omega)).si (by unfold sxRl; omega)
    exact ⟨.inr (k, D), _, a5, rfl, (gi_slot (by decide)).trans gi_same, gi_same, ⟨W5, cDz_28 (cDz_28 Z5)⟩, (fun e' k' x => by cases x), eqw_tr E15 (eqw_x E6)⟩
end CRK
