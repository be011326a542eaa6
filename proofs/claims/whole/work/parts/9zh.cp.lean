/-! ===== lines are read: the class, a person ===== -/
def cPp (h : sm_H) (P : Nat) (s : PM) (a : Nat) : Prop := sm_gi h 34 P = nI a ∧ sm_gi h 35 P = nI s.1.1 ∧ sm_gi h 36 P = nI s.1.2 ∧ sm_gi h 37 P = toI s.2.1 ∧ sm_gi h 38 P = s.2.2
section CRH
variable {b : Nat → Nat} {n nt k : Nat} {h : sm_H}
def sxMk (D : DG) : Nat → Nat → Prop := fun c i => sx28 c i ∨ (34 ≤ c ∧ c ≤ 38 ∧ i = gP (dG D))
theorem sxMk_l {D : DG} : ∀ c i, sxMk D c i → sxCl c i := fun c i z => by unfold sxMk sx28 at z; unfold sxCl; omega
theorem sxMk_o {D : DG} : ∀ c i, sxMk D c i → opC2 D c i := fun c i z => by unfold sxMk sx28 at z; unfold opC2; omega
theorem in_p {c r : Nat} (hc : 34 ≤ c ∧ c ≤ 38) (hr : r < 6) : sm_in c (nI r) := by
  rcases (show c = 34 ∨ c = 35 ∨ c = 36 ∨ c = 37 ∨ c = 38 by omega) with rfl | rfl | rfl | rfl | rfl
  · exact in_c (by rw [ln_34]; exact hr) (by omega)
  · exact in_c (by rw [ln_35]; exact hr) (by omega)
  · exact in_c (by rw [ln_36]; exact hr) (by omega)
  · exact in_c (by rw [ln_37]; exact hr) (by omega)
  · exact in_c (by rw [ln_38]; exact hr) (by omega)
theorem cPp_28 {h2 : sm_H} {P a : Nat} {s : PM} (Q : cPp h P s a) (E : eqx sx28 h h2) : cPp h2 P s a := by
  have g : ∀ c i, c ≠ 28 → sm_gi h2 c i = sm_gi h c i := fun c i w => E.1 c i (fun z => by unfold sx28 at z; omega)
  exact ⟨(g _ _ (by decide)).trans Q.1, (g _ _ (by decide)).trans Q.2.1, (g _ _ (by decide)).trans Q.2.2.1, (g _ _ (by decide)).trans Q.2.2.2.1, (g _ _ (by decide)).trans Q.2.2.2.2⟩
theorem c_mark {D : DG} {a : Nat} {s : PM} (R : cRd h b n nt k) (hgN : 2 ≤ gN (dG D) ∧ gN (dG D) ≤ 6) (hP : gP (dG D) < 6) (Z : cDr h D) (Q : cPp h (gP (dG D)) s a) : ∃ w h2, xc 64 [.ref 28, .int (nI (gP (dG D)))] h = some ([.int w], h2) ∧ eqx (sxMk D) h h2 ∧ match pmS (tK b n) (tV b n) (gN (dG D)) s k with
    | none => w = nI 2 ∧ cRd h2 b n nt k
    | some (.inl (e, k')) => w = nI e ∧ (1 ≤ e ∧ e ≤ 4) ∧ cRd h2 b n nt k'
    | some (.inr (k', s')) => w = nI 0 ∧ k < k' ∧ cRd h2 b n nt k' ∧ cDr h2 D ∧ cPp h2 (gP (dG D)) s' a := by
  have T := R.1.1
  have h900 := T.2.2.1
  have hk := R.2.2
  have hp2 : gP (dG D) < 2 ^ 31 := by omega
  have hKL := KL_lt _ (T.2.2.2.1 k)
  have hN1 : 1 ≤ gN (dG D) ∧ gN (dG D) ≤ 6 := ⟨by omega, hgN.2⟩
  have nz : ∀ e : Nat, (1 ≤ e ∧ e ≤ 4) → ¬ nI e = 0 := fun e he => by rw [show (0 : Int32) = nI 0 from rfl, nI_eq (by omega) (by decide)]; omega
  have Ea : eqx sx28 h (sm_si h 28 4 (nI (k + 1))) := eqx.rf.si ⟨rfl, Or.inl rfl⟩
  have wrz : ∀ {h' : sm_H} {c : Nat} {v : Int32}, cDr h' D → (34 ≤ c ∧ c ≤ 38) → cDr (sm_si h' c (gP (dG D)) v) D := fun {h'} {c} {v} H hc => cDz_ch H (S := fun x i => x = c ∧ i = gP (dG D)) (eqx.rf.si ⟨rfl, rfl⟩) (fun x i w => by unfold opC2; omega)
  rw [en_64, b64_0, R.2.1]
  simp (disch := omega) only [in_45, if_true, nI_clamp, (R.1.2 k hk).1]
  unfold pmS
  by_cases z1 : tK b n k = 214
  · have R1 : cRd (sm_si h 28 4 (nI (k + 1))) b n nt (k + 1) := cRd_ch R Ea sx28_l gi_same (T.s hk (by omega))
    have Z1 : cDr (sm_si h 28 4 (nI (k + 1))) D := cDz_ch Z Ea sx28_o
    rw [if_pos (by rw [z1]), if_pos z1, b64_15, R.2.1, nI_add, b64_25]
    rcases c_placeNumber (ban := none) R1 Z1.1.1 hN1 (fun a w => by cases w) with ⟨e, h2, q1, q2, e2, R2, E2⟩ | ⟨q1, h2, e2, R2, g5, E2⟩
    · rw [show toI none = -1 from rfl] at e2
      have Eb : eqx (sxMk D) h (sm_si h2 35 (gP (dG D)) (sm_gi h2 28 5)) := ((Ea.tr E2).wk (fun c i w => Or.inl w)).si (Or.inr (by omega))
      rw [e2, bnd]
      simp only [app1, List.cons_append, List.nil_append]
      rw [b64_30, if_pos (in_p (by omega) hP), nI_clamp hp2, b64_44, q1]
      exact ⟨_, _, rfl, Eb, rfl, by omega, cRd_ch R Eb sxMk_l ((gi_cell (by decide)).trans R2.2.1) R2.2.2⟩
    · rw [show toI none = -1 from rfl] at e2
      have Eb : eqx (sxMk D) h (sm_si h2 35 (gP (dG D)) (nI (tV b n (k + 1)))) := ((Ea.tr E2).wk (fun c i w => Or.inl w)).si (Or.inr (by omega))
      have Q2 := cPp_28 Q (Ea.tr E2)
      rw [e2, bnd]
      simp only [app1, List.cons_append, List.nil_append]
      rw [b64_30, if_pos (in_p (by omega) hP), nI_clamp hp2, g5, b64_44, q1]
      exact ⟨_, _, rfl, Eb, rfl, by omega, cRd_ch R Eb sxMk_l ((gi_cell (by decide)).trans R2.2.1) R2.2.2, wrz (cDz_ch Z1 E2 sx28_o) (by omega), (gi_cell (by decide)).trans Q2.1, gi_same, (gi_cell (by decide)).trans Q2.2.2.1, (gi_cell (by decide)).trans Q2.2.2.2.1, (gi_cell (by decide)).trans Q2.2.2.2.2⟩
  · rw [if_neg (by rw [nI_eq (by omega) (by decide)]; exact z1), if_neg z1, b64_46, R.2.1]
    simp (disch := omega) only [in_45, if_true, nI_clamp, (R.1.2 k hk).1]
    by_cases z2 : tK b n k = 217
    · have R1 : cRd (sm_si h 28 4 (nI (k + 1))) b n nt (k + 1) := cRd_ch R Ea sx28_l gi_same (T.s hk (by omega))
      have Z1 : cDr (sm_si h 28 4 (nI (k + 1))) D := cDz_ch Z Ea sx28_o
      rw [if_pos (by rw [z2]), if_pos z2, b64_61, R.2.1, nI_add, b64_71]
      rcases c_number (lo := 0) (hi := 9) (ban := none) R1 (by decide) (by decide) (fun a w => by cases w) with ⟨e, h2, q1, q2, e2, R2, E2⟩ | ⟨q1, h2, e2, R2, g5, E2⟩
      · rw [show toI none = -1 from rfl] at e2
        have Eb : eqx (sxMk D) h (sm_si h2 36 (gP (dG D)) (sm_gi h2 28 5)) := ((Ea.tr E2).wk (fun c i w => Or.inl w)).si (Or.inr (by omega))
        rw [e2, bnd]
        simp only [app1, List.cons_append, List.nil_append]
        rw [b64_79, if_pos (in_p (by omega) hP), nI_clamp hp2, b64_93, q1]
        exact ⟨_, _, rfl, Eb, rfl, by omega, cRd_ch R Eb sxMk_l ((gi_cell (by decide)).trans R2.2.1) R2.2.2⟩
      · rw [show toI none = -1 from rfl] at e2
        have Eb : eqx (sxMk D) h (sm_si h2 36 (gP (dG D)) (nI (tV b n (k + 1)))) := ((Ea.tr E2).wk (fun c i w => Or.inl w)).si (Or.inr (by omega))
        have Q2 := cPp_28 Q (Ea.tr E2)
        rw [e2, bnd]
        simp only [app1, List.cons_append, List.nil_append]
        rw [b64_79, if_pos (in_p (by omega) hP), nI_clamp hp2, g5, b64_93, q1]
        exact ⟨_, _, rfl, Eb, rfl, by omega, cRd_ch R Eb sxMk_l ((gi_cell (by decide)).trans R2.2.1) R2.2.2, wrz (cDz_ch Z1 E2 sx28_o) (by omega), (gi_cell (by decide)).trans Q2.1, (gi_cell (by decide)).trans Q2.2.1, gi_same, (gi_cell (by decide)).trans Q2.2.2.2.1, (gi_cell (by decide)).trans Q2.2.2.2.2⟩
    · rw [if_neg (by rw [nI_eq (by omega) (by decide)]; exact z2), if_neg z2, b64_95]
      rcases c_take2 (c := 219) R (by decide) (by decide) with ⟨z3, e1, R1, E1⟩ | ⟨z3, e1⟩
      · have Z1 : cDr (sm_si h 28 4 (nI (k + 1))) D := cDz_ch Z E1 sx28_o
        rw [if_pos z3, e1, bnd]
        simp only [app1, List.cons_append, List.nil_append]
        rw [b64_102, if_pos (show nI 0 = 0 from rfl), b64_107]
        rcases c_placeNumber (ban := none) R1 Z1.1.1 hN1 (fun a w => by cases w) with ⟨e, h2, q1, q2, e2, R2, E2⟩ | ⟨q1, h2, e2, R2, g5, E2⟩
        · rw [show toI none = -1 from rfl] at e2
          have Eb : eqx (sxMk D) h (sm_si h2 37 (gP (dG D)) (sm_gi h2 28 5)) := ((E1.tr E2).wk (fun c i w => Or.inl w)).si (Or.inr (by omega))
          rw [e2, bnd]
          simp only [app1, List.cons_append, List.nil_append]
          rw [b64_112, if_pos (in_p (by omega) hP), nI_clamp hp2, b64_126, if_neg (nz e (by omega)), b64_138, if_neg (nz e (by omega)), b64_165, q1]
          exact ⟨_, _, rfl, Eb, rfl, by omega, cRd_ch R Eb sxMk_l ((gi_cell (by decide)).trans R2.2.1) R2.2.2⟩
        · rw [show toI none = -1 from rfl] at e2
          have Eb : eqx (sxMk D) h (sm_si h2 37 (gP (dG D)) (nI (tV b n (k + 1)))) := ((E1.tr E2).wk (fun c i w => Or.inl w)).si (Or.inr (by omega))
          have Q2 := cPp_28 Q (E1.tr E2)
          have R3 : cRd (sm_si h2 37 (gP (dG D)) (nI (tV b n (k + 1)))) b n nt (k + 2) := cRd_ch R Eb sxMk_l ((gi_cell (by decide)).trans R2.2.1) R2.2.2
          have Z3 : cDr (sm_si h2 37 (gP (dG D)) (nI (tV b n (k + 1)))) D := wrz (cDz_ch Z1 E2 sx28_o) (by omega)
          have Q3 : cPp (sm_si h2 37 (gP (dG D)) (nI (tV b n (k + 1)))) (gP (dG D)) (s.1, (some (tV b n (k + 1)), s.2.2)) a := ⟨(gi_cell (by decide)).trans Q2.1, (gi_cell (by decide)).trans Q2.2.1, (gi_cell (by decide)).trans Q2.2.2.1, gi_same, (gi_cell (by decide)).trans Q2.2.2.2.2⟩
          rw [e2, bnd]
          simp only [app1, List.cons_append, List.nil_append]
          rw [b64_112, if_pos (in_p (by omega) hP), nI_clamp hp2, g5, b64_126, if_pos (show nI 0 = 0 from rfl), b64_130, q1]
          generalize sm_si h2 37 (gP (dG D)) (nI (tV b n (k + 1))) = h3 at *
          rcases c_take2 (c := 209) R3 (by decide) (by decide) with ⟨z4, e4, R4, E4⟩ | ⟨z4, e4⟩
          · have Z4 : cDr (sm_si h3 28 4 (nI (k + 2 + 1))) D := cDz_ch Z3 E4 sx28_o
            have Q4 := cPp_28 Q3 E4
            rw [e4, bnd]
            simp only [app1, List.cons_append, List.nil_append]
            rw [b64_137, b64_138, if_pos (show nI 0 = 0 from rfl), b64_142, if_neg (show ¬ tK b n (k + 2) ≠ 209 from fun w => w z4)]
            rcases c_number (lo := 0) (hi := 999) (ban := none) R4 (by decide) (by decide) (fun a w => by cases w) with ⟨e, h5, q3, q4, e5, R5, E5⟩ | ⟨q3, h5, e5, R5, g55, E5⟩
            · have q3' : numF (tK b n) (tV b n) 0 999 none (k + 3) = some e := q3
              rw [show toI none = -1 from rfl] at e5
              have Ec : eqx (sxMk D) h (sm_si h5 38 (gP (dG D)) (sm_gi h5 28 5)) := (Eb.tr ((E4.tr E5).wk (fun c i w => Or.inl w))).si (Or.inr (by omega))
              rw [e5, bnd]
              simp only [app1, List.cons_append, List.nil_append]
              rw [b64_151, if_pos (in_p (by omega) hP), nI_clamp hp2, b64_165, q3']
              exact ⟨_, _, rfl, Ec, rfl, by omega, cRd_ch R Ec sxMk_l ((gi_cell (by decide)).trans R5.2.1) R5.2.2⟩
            · have q3' : numF (tK b n) (tV b n) 0 999 none (k + 3) = none := q3
              rw [show toI none = -1 from rfl] at e5
              have Q5 := cPp_28 Q4 E5
              have Ec : eqx (sxMk D) h (sm_si h5 38 (gP (dG D)) (nI (tV b n (k + 3)))) := (Eb.tr ((E4.tr E5).wk (fun c i w => Or.inl w))).si (Or.inr (by omega))
              rw [e5, bnd]
              simp only [app1, List.cons_append, List.nil_append]
              rw [b64_151, if_pos (in_p (by omega) hP), nI_clamp hp2, g55, b64_165, q3']
              exact ⟨_, _, rfl, Ec, rfl, by omega, cRd_ch R Ec sxMk_l ((gi_cell (by decide)).trans R5.2.1) R5.2.2, wrz (cDz_ch Z4 E5 sx28_o) (by omega), (gi_cell (by decide)).trans Q5.1, (gi_cell (by decide)).trans Q5.2.1, (gi_cell (by decide)).trans Q5.2.2.1, (gi_cell (by decide)).trans Q5.2.2.2.1, gi_same⟩
          · rw [e4, bnd]
            simp only [app1, List.cons_append, List.nil_append]
            rw [b64_137, b64_138, if_neg (by decide), b64_165, if_pos z4]
            exact ⟨_, _, rfl, Eb, rfl, by omega, R3⟩
      · rw [if_neg z3, e1, bnd]
        simp only [app1, List.cons_append, List.nil_append]
        rw [b64_102, if_neg (by decide), b64_126, if_neg (by decide), b64_138, if_neg (by decide), b64_165]
        exact ⟨_, h, rfl, eqx.rf, rfl, R⟩
theorem pmS_no {K V : Nat → Nat} {N k : Nat} {s : PM} (h : K k = 59) : none = pmS K V N s k := by unfold pmS; rw [if_neg (by omega), if_neg (by omega), if_neg (by omega)]
theorem c_marks {D : DG} {a : Nat} (hgN : 2 ≤ gN (dG D) ∧ gN (dG D) ≤ 6) (hP : gP (dG D) < 6) : ∀ (m k i : Nat) (s : PM) (h : sm_H), nt - k < m → i + 3 ≤ k → cRd h b n nt k → cDr h D → cPp h (gP (dG D)) s a → ∃ r w l3 h2, pmR (tK b n) (tV b n) (gN (dG D)) s k r ∧ xe 4 63 102 [.ref 28, .int (nI (gP (dG D))), .int (nI 0), .int (nI i)] [] h = xe 4 63 139 [.ref 28, .int (nI (gP (dG D))), .int w, .int l3] [] h2 ∧ eqx (sxMk D) h h2 ∧ match r with
    | .inl (e, k') => w = nI e ∧ (1 ≤ e ∧ e ≤ 4) ∧ cRd h2 b n nt k'
    | .inr (k', s') => k ≤ k' ∧ cRd h2 b n nt k' ∧ ((tK b n k' = 59 ∧ w = nI 0 ∧ cDr h2 D ∧ cPp h2 (gP (dG D)) s' a) ∨ (tK b n k' ≠ 59 ∧ w = nI 2)) := fun m => by
  induction m with
  | zero => intro k i s h hm; omega
  | succ m ih =>
    intro k i s h hm hi R Z Q
    have T := R.1.1
    have h900 := T.2.2.1
    have hk := R.2.2
    have hKL := KL_lt _ (T.2.2.2.1 k)
    rw [b63_102, if_neg (by rw [nI_leI (by decide) (by omega)]; omega), b63_109, if_pos (show nI 0 = 0 from rfl), b63_113, R.2.1]
    simp (disch := omega) only [in_45, if_true, nI_clamp, (R.1.2 k hk).1]
    by_cases z : tK b n k = 59
    · rw [if_pos (by rw [z])]
      exact ⟨.inr (k, s), nI 0, nI i, h, lpR_stop (pmS_no z), rfl, eqx.rf, Nat.le_refl _, R, Or.inl ⟨z, rfl, Z, Q⟩⟩
    · obtain ⟨w, h1, e1, E1, o1⟩ := c_mark R hgN hP Z Q
      rw [if_neg (by rw [nI_eq (by omega) (by decide)]; exact z), b63_127, e1, bnd]
      simp only [app1, List.cons_append, List.nil_append]
      rw [b63_132, nI_add]
      generalize hq : pmS (tK b n) (tV b n) (gN (dG D)) s k = o at o1
      have stop : ∀ e, 1 ≤ e → e ≤ 4 → w = nI e → xe 4 63 102 [.ref 28, .int (nI (gP (dG D))), .int w, .int (nI (i + 1))] [] h1 = xe 4 63 139 [.ref 28, .int (nI (gP (dG D))), .int w, .int (nI (i + 1))] [] h1 := fun e he1 he4 hw => by
        rw [b63_102, if_neg (by rw [nI_leI (by decide) (by omega)]; omega), b63_109, hw, if_neg (by rw [show (0 : Int32) = nI 0 from rfl, nI_eq (by omega) (by decide)]; omega)]
      rcases o with _ | x | ⟨k', s'⟩
      · obtain ⟨p1, p2⟩ := o1
        rw [stop 2 (by decide) (by decide) p1]
        exact ⟨.inr (k, s), w, _, h1, lpR_stop hq.symm, rfl, E1, Nat.le_refl _, p2, Or.inr ⟨z, p1⟩⟩
      · obtain ⟨e, k'⟩ := x
        obtain ⟨p1, p2, p3⟩ := o1
        rw [stop e p2.1 p2.2 p1]
        exact ⟨.inl (e, k'), w, _, h1, lpR_bad hq.symm, rfl, E1, p1, p2, p3⟩
      · obtain ⟨p1, p2, p3, p4, p5⟩ := o1
        obtain ⟨r, w2, l3, h2, a2, e2, E2, o2⟩ := ih k' (i + 1) s' h1 (by have := p3.2.2; omega) (by omega) p3 p4 p5
        rw [p1, e2]
        refine ⟨r, w2, l3, h2, lpR_go hq.symm a2, rfl, E1.tr E2, ?_⟩
        rcases r with ⟨e, k2⟩ | ⟨k2, s2⟩
        · exact o2
        · exact ⟨by have := o2.1; omega, o2.2⟩
end CRH
