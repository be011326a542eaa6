/-! ===== lines are read: the class, laws, lines, the land ===== -/
section CRJ
variable {b : Nat → Nat} {n nt k : Nat} {h : sm_H}
theorem c_lawBegins {q : Nat} (hq : q = 39 ∨ q = 42) (R : cRd h b n nt k) (z : tK b n k ≠ 0) : (tK b n (k + 1) = 58 ∧ ∃ h2, xc 65 [.ref 28, .ref q] h = some ([.int (nI 0)], h2) ∧ cSt h2 b n nt q (k + 2) 0 ∧ eqx (fun c i => (c = 28 ∧ i = 4) ∨ (c = q ∧ i = 2)) (sm_sw h q) h2) ∨ (tK b n (k + 1) ≠ 58 ∧ ∃ h2, xc 65 [.ref 28, .ref q] h = some ([.int (nI 2)], h2) ∧ cRd h2 b n nt (k + 1) ∧ eqx (fun c i => (c = 28 ∧ i = 4) ∨ (c = q ∧ i = 2)) (sm_sw h q) h2) := by
  have T := R.1.1
  have hk1 := T.s R.2.2 z
  have Q : sm_isQ q := by
    rcases hq with rfl | rfl
    · unfold sm_isQ; exact kd_39
    · unfold sm_isQ; exact kd_42
  have E1 : eqx (fun c i => (c = 28 ∧ i = 4) ∨ (c = q ∧ i = 2)) (sm_sw h q) (sm_si (sm_si (sm_sw h q) q 2 (nI 0)) 28 4 (nI (k + 1))) := (eqx.rf.si (Or.inr ⟨rfl, rfl⟩)).si (Or.inl ⟨rfl, rfl⟩)
  have g4 : sm_gi (sm_si (sm_sw h q) q 2 (nI 0)) 28 4 = nI k := (gi_cell (by omega)).trans R.2.1
  have R0 : cRd (sm_sw h q) b n nt k := R
  have R1 : cRd (sm_si (sm_si (sm_sw h q) q 2 (nI 0)) 28 4 (nI (k + 1))) b n nt (k + 1) := cRd_ch R0 E1 (fun c i w => by unfold sxCl; omega) gi_same hk1
  have gq : sm_gi (sm_si (sm_si (sm_sw h q) q 2 (nI 0)) 28 4 (nI (k + 1))) q 2 = nI 0 := (gi_cell (by omega)).trans gi_same
  have glw : sm_lw (sm_si (sm_si (sm_sw h q) q 2 (nI 0)) 28 4 (nI (k + 1))) = q := rfl
  have s23 : xc 65 [.ref 28, .ref q] h = xe 2 65 23 [.ref 28, .ref q] [] (sm_si (sm_si (sm_sw h q) q 2 (nI 0)) 28 4 (nI (k + 1))) := by
    rw [en_65, b65_0 Q, b65_5 (show sm_isQ (sm_lw (sm_sw h q)) from Q), show sm_lw (sm_sw h q) = q from rfl, b65_13, g4, nI_add]
  rw [s23]
  generalize sm_si (sm_si (sm_sw h q) q 2 (nI 0)) 28 4 (nI (k + 1)) = h1 at *
  rcases c_take2 (c := 58) R1 (by decide) (by decide) with ⟨y, e2, R2, E2⟩ | ⟨y, e2⟩
  · refine Or.inl ⟨y, _, ?_, ⟨R2.1, ⟨R2.2.1, R2.2.2⟩, ⟨glw, hq⟩, (gi_cell (by omega)).trans gq, Nat.zero_le _⟩, E1.si (Or.inl ⟨rfl, rfl⟩)⟩
    rw [b65_23, e2, bnd]
    simp only [app1, List.cons_append, List.nil_append]
    rw [b65_29]
  · refine Or.inr ⟨y, h1, ?_, R1, E1⟩
    rw [b65_23, e2, bnd]
    simp only [app1, List.cons_append, List.nil_append]
    rw [b65_29]
/-- a law is read: pcs of line differ; L 0 lets, 1 takes -/
theorem c_lawLine {D : DG} {L q y : Nat} {A : Nat → RR → Prop} (hL : (L = 0 ∧ q = 39) ∨ (L = 1 ∧ q = 42)) (hA : rdC b n nt q y 0 A) (hg : grw nt A) (hne : ∀ k k' c, A k (.inr (k', c)) → c ≠ []) (R : cRd h b n nt k) (Z : cDr h D) (z : tK b n k ≠ 0) : ∃ r w h1 h2, lwR (tK b n) A (fun c => if L = 0 then setL D c else setT D c) k r ∧ xc 65 [.ref 28, .ref q] h = some ([.int w], h1) ∧ ((w = nI 0 ∧ xc y [.ref 28, .int (nI 0)] h1 = some ([.int (rwI r)], h2)) ∨ (¬ w = 0 ∧ w = rwI r ∧ h2 = h1)) ∧ clO h2 b n nt k r ∧ eqw sxCl h h2 := by
  have hq : q = 39 ∨ q = 42 := by omega
  have T := R.1.1
  have h900 := T.2.2.1
  rcases c_lawBegins hq R z with ⟨y1, h1, e1, C1, E1⟩ | ⟨y1, h1, e1, R1, E1⟩
  · obtain ⟨r, h2, a2, e2, o2⟩ := hA (k + 2) 0 h1 C1
    have hk2 := C1.2.1.2
    rcases r with ⟨e, k'⟩ | ⟨k', c⟩
    · obtain ⟨p1, p2, p3, p4, p5⟩ := o2
      have E2 : eqx sxCl (sm_sw h q) h2 := (E1.wk (fun c i w => by unfold sxCl; omega)).tr (p5.wk (fun c i w => by unfold sxCd at w; unfold sxCl; omega))
      have R0 : cRd (sm_sw h q) b n nt k := R
      exact ⟨.inl (e, k'), nI 0, h1, h2, by unfold lwR; rw [if_neg (show ¬ tK b n (k + 1) ≠ 58 from fun w => w y1)]; exact ⟨_, a2, rfl⟩, e1, Or.inl ⟨rfl, e2⟩, ⟨p1, cRd_ch R0 E2 (fun c i w => w) p3 p2⟩, ⟨q, E2⟩⟩
    · have hgr := hg.1 _ _ _ a2
      have hk' := hgr.2.2 hk2
      obtain ⟨p1, p2, p3, p4⟩ := o2
      have p2' : sm_gi h2 q 2 = nI c.length := by rw [p2, Nat.zero_add]
      have p3' : ∀ j, j < c.length → sm_gi h2 (q + 1) j = nI (phi (c.getD j 0)) := fun j hj => by have := p3 j hj; rw [Nat.zero_add] at this; exact this
      have E2 : eqx (fun c i => (c = 28 ∧ i = 4) ∨ c = q ∨ c = q + 1) (sm_sw h q) h2 := (E1.wk (fun c i w => by omega)).tr (p4.wk (fun c i w => by unfold sxCo at w; omega))
      have E3 : eqx sxCl (sm_sw h q) h2 := E2.wk (fun c i w => by unfold sxCl; omega)
      have R0 : cRd (sm_sw h q) b n nt k := R
      have R2 : cRd h2 b n nt k' := cRd_ch R0 E3 (fun c i w => w) p1 hk'
      have law : cLaw h2 q (some c) := ⟨p2', hne _ _ _ a2, by omega, p3'⟩
      have Z0 : cDr (sm_sw h q) D := Z
      obtain ⟨⟨b1, b2, b3, b4, b5⟩, RR1, P, l1, l2⟩ := Z0
      have g : ∀ c i, ¬ ((c = 28 ∧ i = 4) ∨ c = q ∨ c = q + 1) → sm_gi h2 c i = sm_gi (sm_sw h q) c i := fun c i w => E2.1 c i w
      have Zn : cDr h2 (if L = 0 then setL D c else setT D c) := by
        have A1 : sm_gi h2 29 0 = nI (gN (dG D)) ∧ sm_gi h2 29 1 = nI (dL D) ∧ sm_gi h2 29 2 = nI (gR (dG D)) ∧ sm_gi h2 29 3 = nI (gP (dG D)) ∧ sm_gi h2 29 4 = nI (gBs (dG D)) := ⟨(g _ _ (by omega)).trans b1, (g _ _ (by omega)).trans b2, (g _ _ (by omega)).trans b3, (g _ _ (by omega)).trans b4, (g _ _ (by omega)).trans b5⟩
        have A2 : ∀ r, r < gR (dG D) → sm_gi h2 30 r = nI (gOne (dG D) r) ∧ sm_gi h2 31 r = nI (gOth (dG D) r) ∧ sm_gi h2 32 r = nI (gLon (dG D) r) ∧ sm_gi h2 33 r = nI (gFlo (dG D) r) := fun r hr => by
          obtain ⟨x1, x2, x3, x4⟩ := RR1 r hr
          exact ⟨(g _ _ (by omega)).trans x1, (g _ _ (by omega)).trans x2, (g _ _ (by omega)).trans x3, (g _ _ (by omega)).trans x4⟩
        have A3 : ∀ p, p < gP (dG D) → sm_gi h2 34 p = nI (dA D p) ∧ sm_gi h2 35 p = nI (gBor (dG D) p) ∧ sm_gi h2 36 p = nI (dP D p) ∧ sm_gi h2 37 p = toI (gGol (dG D) p) ∧ sm_gi h2 38 p = gBy (dG D) p := fun p hp => by
          obtain ⟨x1, x2, x3, x4, x5⟩ := P p hp
          exact ⟨(g _ _ (by omega)).trans x1, (g _ _ (by omega)).trans x2, (g _ _ (by omega)).trans x3, (g _ _ (by omega)).trans x4, (g _ _ (by omega)).trans x5⟩
        rcases hL with ⟨rfl, rfl⟩ | ⟨rfl, rfl⟩
        · rw [if_pos rfl]
          exact ⟨A1, A2, A3, law, cLaw_eqx l2 E2 (fun c i w => by omega)⟩
        · rw [if_neg (by decide)]
          exact ⟨A1, A2, A3, cLaw_eqx l1 E2 (fun c i w => by omega), law⟩
      exact ⟨.inr (k', if L = 0 then setL D c else setT D c), nI 0, h1, h2, by unfold lwR; rw [if_neg (show ¬ tK b n (k + 1) ≠ 58 from fun w => w y1)]; exact ⟨_, a2, rfl⟩, e1, Or.inl ⟨rfl, e2⟩, ⟨by omega, R2, Zn⟩, ⟨q, E3⟩⟩
  · exact ⟨.inl (2, k + 1), nI 2, h1, h1, by unfold lwR; rw [if_pos y1], e1, Or.inr ⟨by decide, rfl, rfl⟩, ⟨⟨by decide, by decide⟩, R1⟩, ⟨q, E1.wk (fun c i w => by unfold sxCl; omega)⟩⟩
theorem ln_pc : ∀ c, c < 221 → (if (nI c).toInt < 201 then 114 else [40, 48, 56, 85].getD ((nI c).toInt - 201).toNat 114) = if c = 201 then 40 else if c = 202 then 48 else if c = 203 then 56 else if c = 204 then 85 else 114 := by decide +kernel
/-- the end of a line in the class -/
theorem c_line_end {r : SR DG} (hr : clO h b n nt k r) : ∃ h2, xe 76 60 116 [.ref 28, .int (rwI r)] [] h = some ([.int (rwI (semi (tK b n) r))], h2) ∧ clO h2 b n nt k (semi (tK b n) r) ∧ eqx sxCl h h2 := by
  have E1 : eqx (fun c i => c = 29 ∧ i = 1) h (sm_si h 29 1 (sm_gi h 29 1 + nI 1)) := eqx.rf.si ⟨rfl, rfl⟩
  rw [b60_116, b60_129]
  rcases r with ⟨e, k'⟩ | ⟨k', D'⟩
  · obtain ⟨he, R⟩ := hr
    rw [show rwI (.inl (e, k')) = nI e from rfl, if_neg (by rw [show (0 : Int32) = nI 0 from rfl, nI_eq (by omega) (by decide)]; omega), b60_142, b60_143]
    exact ⟨_, rfl, ⟨he, cRd_ch R E1 (fun c i w => by unfold sxCl; omega) ((gi_cell (by decide)).trans R.2.1) R.2.2⟩, E1.wk (fun c i w => by unfold sxCl; omega)⟩
  · obtain ⟨hk, R, Z⟩ := hr
    have T := R.1.1
    have R1 : cRd (sm_si h 29 1 (sm_gi h 29 1 + nI 1)) b n nt k' := cRd_ch R E1 (fun c i w => by unfold sxCl; omega) ((gi_cell (by decide)).trans R.2.1) R.2.2
    have hsm : semi (tK b n) (.inr (k', D')) = if tK b n k' = 59 then .inr (k' + 1, lnUp D') else .inl (2, k') := rfl
    rw [show rwI (.inr (k', D')) = nI 0 from rfl, if_pos (show nI 0 = 0 from rfl), b60_133, hsm]
    rcases c_take2 (c := 59) R1 (by decide) (by decide) with ⟨y, e2, R2, E2⟩ | ⟨y, e2⟩
    · rw [e2, bnd]
      simp only [app1, List.cons_append, List.nil_append]
      rw [b60_139, b60_143, if_pos y]
      refine ⟨_, rfl, ⟨by omega, R2, ?_⟩, (E1.wk (fun c i w => by unfold sxCl; omega)).tr (E2.wk sx28_l)⟩
      refine cDz_ch (D := lnUp D') (bb := gBs (dG D')) (h := sm_si h 29 1 (sm_gi h 29 1 + nI 1)) ?_ E2 sx28_o
      obtain ⟨⟨a1, a2, a3, a4, a5⟩, RR1, P, l1, l2⟩ := Z
      refine ⟨⟨(gi_slot (by decide)).trans a1, gi_same.trans (by rw [a2, nI_add]; rfl), (gi_slot (by decide)).trans a3, (gi_slot (by decide)).trans a4, (gi_slot (by decide)).trans a5⟩, fun r hr => ?_, fun p hp => ?_, cLaw_eqx l1 E1 (fun c i w => by omega), cLaw_eqx l2 E1 (fun c i w => by omega)⟩
      · obtain ⟨x1, x2, x3, x4⟩ := RR1 r hr
        exact ⟨(gi_cell (by decide)).trans x1, (gi_cell (by decide)).trans x2, (gi_cell (by decide)).trans x3, (gi_cell (by decide)).trans x4⟩
      · obtain ⟨x1, x2, x3, x4, x5⟩ := P p hp
        exact ⟨(gi_cell (by decide)).trans x1, (gi_cell (by decide)).trans x2, (gi_cell (by decide)).trans x3, (gi_cell (by decide)).trans x4, (gi_cell (by decide)).trans x5⟩
    · rw [e2, bnd]
      simp only [app1, List.cons_append, List.nil_append]
      rw [b60_139, b60_143, if_neg y]
      exact ⟨_, rfl, ⟨⟨by decide, by decide⟩, R1⟩, E1.wk (fun c i w => by unfold sxCl; omega)⟩
theorem semi_sm2 {K : Nat → Nat} {r : SR DG} : semi K (sm2 K r) = semi K r := by
  rcases r with x | ⟨k, D⟩
  · rfl
  · show semi K (if K k = 59 then .inr (k, D) else .inl (2, k)) = if K k = 59 then .inr (k + 1, lnUp D) else .inl (2, k)
    by_cases z : K k = 59
    · rw [if_pos z, if_pos z]; show (if K k = 59 then _ else _) = _; rw [if_pos z]
    · rw [if_neg z, if_neg z]; rfl
theorem c_line {D : DG} (hB : dB D) (R : cRd h b n nt k) (Z : cDr h D) (z0 : tK b n k ≠ 0) : ∃ r h2, bdR (tK b n) (tV b n) D k r ∧ xc 60 [.ref 28] h = some ([.int (rwI (semi (tK b n) r))], h2) ∧ clO h2 b n nt k (semi (tK b n) r) ∧ eqw sxCl h h2 := by
  have T := R.1.1
  have h900 := T.2.2.1
  have hk := R.2.2
  have hKL := KL_lt _ (T.2.2.2.1 k)
  rw [en_60, b60_0, R.2.1]
  simp (disch := omega) only [in_45, if_true, nI_clamp, (R.1.2 k hk).1]
  rw [ln_pc _ hKL]
  unfold bdR
  by_cases z1 : tK b n k = 201
  · obtain ⟨r, h2, a2, e2, o2, E2⟩ := c_roadLine hB R Z z1
    obtain ⟨h3, e3, o3, E3⟩ := c_line_end o2
    rw [semi_sm2] at e3 o3
    refine ⟨r, h3, by rw [if_pos z1]; exact a2, ?_, o3, eqw_x (E2.tr E3)⟩
    rw [if_pos z1, b60_40, e2, bnd]
    simp only [app1, List.cons_append, List.nil_append]
    rw [b60_44, e3]
  · rw [if_neg z1]
    by_cases z2 : tK b n k = 202
    · obtain ⟨r, h2, a2, e2, o2, E2⟩ := c_personLine hB R Z z2
      obtain ⟨h3, e3, o3, E3⟩ := c_line_end o2
      rw [semi_sm2] at e3 o3
      refine ⟨r, h3, by rw [if_neg z1, if_pos z2]; exact a2, ?_, o3, eqw_x (E2.tr E3)⟩
      rw [if_pos z2, b60_48, e2, bnd]
      simp only [app1, List.cons_append, List.nil_append]
      rw [b60_52, e3]
    · rw [if_neg z2]
      by_cases z3 : tK b n k = 203
      · obtain ⟨r, w, h1, h2, a2, e1, e2, o2, E2⟩ := c_lawLine (D := D) (L := 0) (q := 39) (Or.inl ⟨rfl, rfl⟩) (cTruth0 T) (TrD_grw T 6) (fun k k' c a y => by have := (TrD_law T a).1; rw [y] at this; cases this) R Z z0
        obtain ⟨h3, e3, o3, E3⟩ := c_line_end o2
        refine ⟨r, h3, by rw [if_neg z1, if_neg z2, if_pos z3]; exact a2, ?_, o3, eqw_tr E2 (eqw_x E3)⟩
        rw [if_pos z3, b60_56, e1, bnd]
        simp only [app1, List.cons_append, List.nil_append]
        rw [b60_67]
        rcases e2 with ⟨x1, x2⟩ | ⟨x1, x2, x3⟩
        · rw [x1, if_pos (show nI 0 = 0 from rfl), b60_72 (by rw [rk66 (by decide)]; decide), x2, bnd]
          simp only [app1, List.cons_append, List.nil_append]
          rw [b60_77, b60_81, e3]
        · rw [if_neg x1, b60_80, b60_81, x2, ← x3, e3]
      · rw [if_neg z3]
        by_cases z4 : tK b n k = 204
        · obtain ⟨r, w, h1, h2, a2, e1, e2, o2, E2⟩ := c_lawLine (D := D) (L := 1) (q := 42) (Or.inr ⟨rfl, rfl⟩) (cSum0 T) (AtD_grw T 6).1 (fun k k' c a y => by have := (SmR_law T a).1; rw [y] at this; cases this) R Z z0
          obtain ⟨h3, e3, o3, E3⟩ := c_line_end o2
          refine ⟨r, h3, by rw [if_neg z1, if_neg z2, if_neg z3, if_pos z4]; exact a2, ?_, o3, eqw_tr E2 (eqw_x E3)⟩
          rw [if_pos z4, b60_85, e1, bnd]
          simp only [app1, List.cons_append, List.nil_append]
          rw [b60_96]
          rcases e2 with ⟨x1, x2⟩ | ⟨x1, x2, x3⟩
          · rw [x1, if_pos (show nI 0 = 0 from rfl), b60_101 (by rw [rk69 (by decide)]; decide), x2, bnd]
            simp only [app1, List.cons_append, List.nil_append]
            rw [b60_106, b60_110, e3]
          · rw [if_neg x1, b60_109, b60_110, x2, ← x3, e3]
        · rw [if_neg z4, b60_114]
          exact ⟨.inl (2, k), h, by rw [if_neg z1, if_neg z2, if_neg z3, if_neg z4], rfl, ⟨⟨by decide, by decide⟩, R⟩, eqw_x eqx.rf⟩
end CRJ
