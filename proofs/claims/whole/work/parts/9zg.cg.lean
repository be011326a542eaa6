/-! ===== lines are read: the class, roadLine ===== -/
section CRG
variable {b : Nat → Nat} {n nt k : Nat} {h : sm_H}
def sx3 (D : DG) : Nat → Nat → Prop := fun c i => sx28 c i ∨ (30 ≤ c ∧ c ≤ 33 ∧ i = gR (dG D)) ∨ (c = 29 ∧ (i = 2 ∨ i = 4))
theorem sx3_l {D : DG} : ∀ c i, sx3 D c i → sxCl c i := fun c i z => by unfold sx3 sx28 at z; unfold sxCl; omega
theorem sxF_3 {D : DG} : ∀ c i, sxFg D c i → sx3 D c i := fun c i z => by unfold sxFg at z; unfold sx3; rcases z with z | z | z; exact Or.inl z; omega; omega
/-- behind a fault in the head of a road -/
theorem rl_d {D : DG} {e : Nat} (hR : gR (dG D) < 12) (he : 1 ≤ e ∧ e ≤ 4) : ∃ h2, xe 3 61 126 [.ref 28, .int (nI (gR (dG D))), .int (nI e), .null] [] h = some ([.int (nI e)], h2) ∧ sm_gi h2 28 4 = sm_gi h 28 4 ∧ eqx (sx3 D) h h2 := by
  have hne : ¬ nI e = 0 := by rw [show (0 : Int32) = nI 0 from rfl, nI_eq (by omega) (by decide)]; omega
  rw [b61_126, if_pos (in_l (by omega) hR), nI_clamp (by omega), b61_136, b61_138, if_neg (by decide), b61_145, if_neg hne, b61_175, b61_188]
  exact ⟨_, rfl, (gi_cell (by decide)).trans (gi_cell (by decide)), (eqx.rf.si (Or.inr (Or.inl (by omega)))).si (Or.inr (Or.inr (by omega)))⟩
theorem c_roadLine {D : DG} (hB : dB D) (R : cRd h b n nt k) (Z : cDr h D) (z : tK b n k = 201) : ∃ r h2, rdR (tK b n) (tV b n) D k r ∧ xc 61 [.ref 28] h = some ([.int (rwI (sm2 (tK b n) r))], h2) ∧ clO h2 b n nt k (sm2 (tK b n) r) ∧ eqx sxCl h h2 := by
  obtain ⟨hgN, hR, hP, hb4⟩ := hB
  have T := R.1.1
  have h900 := T.2.2.1
  have hk := R.2.2
  have hN1 : 1 ≤ gN (dG D) ∧ gN (dG D) ≤ 6 := ⟨by omega, hgN.2⟩
  have start : xc 61 [.ref 28] h = xe 3 61 0 [.ref 28, .null, .null, .null] [] h := en_61
  have g2 : sm_gi h 29 2 = nI (gR (dG D)) := Z.1.2.2.1
  have fin : ∀ e k' h2, rdH (tK b n) (tV b n) D k = .inl (e, k') → (1 ≤ e ∧ e ≤ 4) → cRd h2 b n nt k' → eqx sxCl h h2 → xc 61 [.ref 28] h = some ([.int (nI e)], h2) → ∃ r h2, rdR (tK b n) (tV b n) D k r ∧ xc 61 [.ref 28] h = some ([.int (rwI (sm2 (tK b n) r))], h2) ∧ clO h2 b n nt k (sm2 (tK b n) r) ∧ eqx sxCl h h2 := fun e k' h2 e1 he R2 E e2 => ⟨.inl (e, k'), h2, by unfold rdR; rw [e1], e2, ⟨he, R2⟩, E⟩
  by_cases y0 : gR (dG D) = 12
  · refine fin 4 k h (by unfold rdH; rw [if_pos y0]) (by omega) R eqx.rf ?_
    rw [start, b61_0, g2, if_neg (by rw [nI_ltI (by omega) (by decide)]; omega), b61_14]
  have hlt : gR (dG D) < 12 := by omega
  have hr2 : gR (dG D) < 2 ^ 31 := by omega
  -- the tail behind a fault, from a place that leads to 126
  have tail : ∀ {h' : sm_H} {e k' : Nat} {pc : Nat}, rdH (tK b n) (tV b n) D k = .inl (e, k') → (1 ≤ e ∧ e ≤ 4) → cRd h' b n nt k' → eqx sxCl h h' → xc 61 [.ref 28] h = xe 3 61 126 [.ref 28, .int (nI (gR (dG D))), .int (nI e), .null] [] h' → ∃ r h2, rdR (tK b n) (tV b n) D k r ∧ xc 61 [.ref 28] h = some ([.int (rwI (sm2 (tK b n) r))], h2) ∧ clO h2 b n nt k (sm2 (tK b n) r) ∧ eqx sxCl h h2 := fun {h'} {e} {k'} {pc} e1 he R' E' e2 => by
    obtain ⟨h2, e3, g3, E3⟩ := rl_d (h := h') (D := D) hlt he
    exact fin e k' h2 e1 he (cRd_ch R' E3 sx3_l (g3.trans R'.2.1) R'.2.2) (E'.tr (E3.wk sx3_l)) (e2.trans e3)
  have nz : ∀ e : Nat, (1 ≤ e ∧ e ≤ 4) → ¬ nI e = 0 := fun e he => by rw [show (0 : Int32) = nI 0 from rfl, nI_eq (by omega) (by decide)]; omega
  have Ea : eqx sx28 h (sm_si h 28 4 (nI (k + 1))) := eqx.rf.si ⟨rfl, Or.inl rfl⟩
  have R1 : cRd (sm_si h 28 4 (nI (k + 1))) b n nt (k + 1) := cRd_ch R Ea sx28_l gi_same (T.s hk (by omega))
  have Z1 := cDz_ch Z Ea sx28_o
  have s26 : xc 61 [.ref 28] h = xe 3 61 26 [.ref 28, .int (nI (gR (dG D))), .null, .null] [] (sm_si h 28 4 (nI (k + 1))) := by
    rw [start, b61_0, g2, if_pos (by rw [nI_ltI (by omega) (by decide)]; omega), b61_16, R.2.1, nI_add]
  generalize sm_si h 28 4 (nI (k + 1)) = h1 at *
  rcases c_placeNumber (ban := none) R1 Z1.1.1 hN1 (fun a w => by cases w) with ⟨e, h2, q1, q2, e2, R2, E2⟩ | ⟨q1, h2, e2, R2, g5, E2⟩
  · rw [show toI none = -1 from rfl] at e2
    have Eb : eqx (sx3 D) h (sm_si h2 30 (gR (dG D)) (sm_gi h2 28 5)) := ((Ea.tr E2).wk (fun c i w => Or.inl w)).si (Or.inr (Or.inl (by omega)))
    refine tail (pc := 0) (by unfold rdH; rw [if_neg y0, q1]) (by omega) (cRd_ch R Eb sx3_l ((gi_cell (by decide)).trans R2.2.1) R2.2.2) (Eb.wk sx3_l) ?_
    rw [s26, b61_26, e2, bnd]
    simp only [app1, List.cons_append, List.nil_append]
    rw [b61_31, if_pos (in_l (by omega) hlt), nI_clamp hr2, b61_45, if_neg (nz e (by omega)), b61_57, if_neg (nz e (by omega)), b61_88, if_neg (nz e (by omega)), b61_100, if_neg (nz e (by omega))]
  rw [show toI none = -1 from rfl] at e2
  have hn1 := numF_no q1
  have hv1 : tV b n (k + 1) < 2 ^ 31 := by omega
  have Eb : eqx (sx3 D) h (sm_si h2 30 (gR (dG D)) (nI (tV b n (k + 1)))) := ((Ea.tr E2).wk (fun c i w => Or.inl w)).si (Or.inr (Or.inl (by omega)))
  have R3 : cRd (sm_si h2 30 (gR (dG D)) (nI (tV b n (k + 1)))) b n nt (k + 2) := cRd_ch R Eb sx3_l ((gi_cell (by decide)).trans R2.2.1) R2.2.2
  have Z3 : cDz (sm_si h2 30 (gR (dG D)) (nI (tV b n (k + 1)))) D (gBs (dG D)) := cDz_ch (cDz_ch Z1 E2 sx28_o) (S := fun c i => c = 30 ∧ i = gR (dG D)) (eqx.rf.si ⟨rfl, rfl⟩) (fun c i w => by unfold opC2; omega)
  have p30 : sm_gi (sm_si h2 30 (gR (dG D)) (nI (tV b n (k + 1)))) 30 (gR (dG D)) = nI (tV b n (k + 1)) := gi_same
  have s45 : xc 61 [.ref 28] h = xe 3 61 49 [.ref 28, .int (nI (gR (dG D))), .int (nI 0), .null] [] (sm_si h2 30 (gR (dG D)) (nI (tV b n (k + 1)))) := by
    rw [s26, b61_26, e2, bnd]
    simp only [app1, List.cons_append, List.nil_append]
    rw [b61_31, if_pos (in_l (by omega) hlt), nI_clamp hr2, g5, b61_45, if_pos (show nI 0 = 0 from rfl)]
  generalize sm_si h2 30 (gR (dG D)) (nI (tV b n (k + 1))) = h3 at *
  rcases (c_take2 (c := 219) R3 (by decide) (by decide)).symm with ⟨y1, e4⟩ | ⟨y1, e4, R4, E4⟩
  · refine tail (e := 2) (pc := 0) (by unfold rdH; rw [if_neg y0, q1]; dsimp only; rw [if_pos y1]) (by omega) R3 (Eb.wk sx3_l) ?_
    rw [s45, b61_49, e4, bnd]
    simp only [app1, List.cons_append, List.nil_append]
    rw [b61_56, b61_57, if_neg (by decide), b61_88, if_neg (by decide), b61_100, if_neg (by decide)]
  have Z4 := cDz_ch Z3 E4 sx28_o
  have p30' : sm_gi (sm_si h3 28 4 (nI (k + 2 + 1))) 30 (gR (dG D)) = nI (tV b n (k + 1)) := (gi_cell (by decide)).trans p30
  have s61 : xc 61 [.ref 28] h = xe 3 61 61 [.ref 28, .int (nI (gR (dG D))), .int (nI 0), .null] [] (sm_si h3 28 4 (nI (k + 2 + 1))) := by
    rw [s45, b61_49, e4, bnd]
    simp only [app1, List.cons_append, List.nil_append]
    rw [b61_56, b61_57, if_pos (show nI 0 = 0 from rfl)]
  have Ec : eqx (sx3 D) h (sm_si h3 28 4 (nI (k + 2 + 1))) := Eb.tr (E4.wk (fun c i w => Or.inl w))
  generalize sm_si h3 28 4 (nI (k + 2 + 1)) = h4 at *
  rcases c_placeNumber (ban := some (tV b n (k + 1))) R4 Z4.1.1 hN1 (fun a w => by cases w; exact hv1) with ⟨e, h5, q3, q4, e5, R5, E5⟩ | ⟨q3, h5, e5, R5, g55, E5⟩
  · have q3' : numF (tK b n) (tV b n) 0 (gN (dG D) - 1) (some (tV b n (k + 1))) (k + 3) = some e := q3
    have Ed : eqx (sx3 D) h (sm_si h5 31 (gR (dG D)) (sm_gi h5 28 5)) := (Ec.tr (E5.wk (fun c i w => Or.inl w))).si (Or.inr (Or.inl (by omega)))
    refine tail (e := e) (k' := k + 3) (pc := 0) (by unfold rdH; rw [if_neg y0, q1]; dsimp only; rw [if_neg (show ¬ tK b n (k + 2) ≠ 219 from fun w => w y1), q3']) (by omega) (cRd_ch R Ed sx3_l ((gi_cell (by decide)).trans R5.2.1) R5.2.2) (Ed.wk sx3_l) ?_
    rw [s61, b61_61, if_pos (in_l (by omega) hlt), nI_clamp hr2, p30', show nI (tV b n (k + 1)) = toI (some (tV b n (k + 1))) from rfl, e5, bnd]
    simp only [app1, List.cons_append, List.nil_append]
    rw [b61_74, if_pos (in_l (by omega) hlt), nI_clamp hr2, b61_88, if_neg (nz e (by omega)), b61_100, if_neg (nz e (by omega))]
  have q3' : numF (tK b n) (tV b n) 0 (gN (dG D) - 1) (some (tV b n (k + 1))) (k + 3) = none := q3
  have Ed : eqx (sx3 D) h (sm_si h5 31 (gR (dG D)) (nI (tV b n (k + 3)))) := (Ec.tr (E5.wk (fun c i w => Or.inl w))).si (Or.inr (Or.inl (by omega)))
  have R6 : cRd (sm_si h5 31 (gR (dG D)) (nI (tV b n (k + 3)))) b n nt (k + 4) := cRd_ch R Ed sx3_l ((gi_cell (by decide)).trans R5.2.1) R5.2.2
  have Z6 : cDz (sm_si h5 31 (gR (dG D)) (nI (tV b n (k + 3)))) D (gBs (dG D)) := cDz_ch (cDz_ch Z4 E5 sx28_o) (S := fun c i => c = 31 ∧ i = gR (dG D)) (eqx.rf.si ⟨rfl, rfl⟩) (fun c i w => by unfold opC2; omega)
  have n28 : ∀ c i, c ≠ 28 → ¬ sx28 c i := fun c i w z => by unfold sx28 at z; omega
  have p30b : sm_gi (sm_si h5 31 (gR (dG D)) (nI (tV b n (k + 3)))) 30 (gR (dG D)) = nI (tV b n (k + 1)) := (gi_cell (by decide)).trans ((E5.1 30 _ (n28 _ _ (by decide))).trans p30')
  have p31b : sm_gi (sm_si h5 31 (gR (dG D)) (nI (tV b n (k + 3)))) 31 (gR (dG D)) = nI (tV b n (k + 3)) := gi_same
  have s88 : xc 61 [.ref 28] h = xe 3 61 92 [.ref 28, .int (nI (gR (dG D))), .int (nI 0), .null] [] (sm_si h5 31 (gR (dG D)) (nI (tV b n (k + 3)))) := by
    rw [s61, b61_61, if_pos (in_l (by omega) hlt), nI_clamp hr2, p30', show nI (tV b n (k + 1)) = toI (some (tV b n (k + 1))) from rfl, e5, bnd]
    simp only [app1, List.cons_append, List.nil_append]
    rw [b61_74, if_pos (in_l (by omega) hlt), nI_clamp hr2, g55, b61_88, if_pos (show nI 0 = 0 from rfl)]
  generalize sm_si h5 31 (gR (dG D)) (nI (tV b n (k + 3))) = h6 at *
  rcases (c_take2 (c := 205) R6 (by decide) (by decide)).symm with ⟨y3, e7⟩ | ⟨y3, e7, R7, E7⟩
  · refine tail (e := 2) (k' := k + 4) (pc := 0) (by unfold rdH; rw [if_neg y0, q1]; dsimp only; rw [if_neg (show ¬ tK b n (k + 2) ≠ 219 from fun w => w y1), q3']; dsimp only; rw [if_pos y3]) (by omega) R6 (Ed.wk sx3_l) ?_
    rw [s88, b61_92, e7, bnd]
    simp only [app1, List.cons_append, List.nil_append]
    rw [b61_99, b61_100, if_neg (by decide)]
  have Z7 := cDz_ch Z6 E7 sx28_o
  have s104 : xc 61 [.ref 28] h = xe 3 61 104 [.ref 28, .int (nI (gR (dG D))), .int (nI 0), .null] [] (sm_si h6 28 4 (nI (k + 4 + 1))) := by
    rw [s88, b61_92, e7, bnd]
    simp only [app1, List.cons_append, List.nil_append]
    rw [b61_99, b61_100, if_pos (show nI 0 = 0 from rfl)]
  have Ee : eqx (sx3 D) h (sm_si h6 28 4 (nI (k + 4 + 1))) := Ed.tr (E7.wk (fun c i w => Or.inl w))
  have p30c : sm_gi (sm_si h6 28 4 (nI (k + 4 + 1))) 30 (gR (dG D)) = nI (tV b n (k + 1)) := (gi_cell (by decide)).trans p30b
  have p31c : sm_gi (sm_si h6 28 4 (nI (k + 4 + 1))) 31 (gR (dG D)) = nI (tV b n (k + 3)) := (gi_cell (by decide)).trans p31b
  generalize sm_si h6 28 4 (nI (k + 4 + 1)) = h7 at *
  rcases c_number (lo := 1) (hi := 20) (ban := none) R7 (by decide) (by decide) (fun a w => by cases w) with ⟨e, h8, q5, q6, e8, R8, E8⟩ | ⟨q5, h8, e8, R8, g58, E8⟩
  · rw [show toI none = -1 from rfl] at e8
    have q5' : numF (tK b n) (tV b n) 1 20 none (k + 5) = some e := q5
    have Ef : eqx (sx3 D) h (sm_si h8 32 (gR (dG D)) (sm_gi h8 28 5)) := (Ee.tr (E8.wk (fun c i w => Or.inl w))).si (Or.inr (Or.inl (by omega)))
    refine tail (e := e) (k' := k + 5) (pc := 0) (by unfold rdH; rw [if_neg y0, q1]; dsimp only; rw [if_neg (show ¬ tK b n (k + 2) ≠ 219 from fun w => w y1), q3']; dsimp only; rw [if_neg (show ¬ tK b n (k + 4) ≠ 205 from fun w => w y3), q5']) (by omega) (cRd_ch R Ef sx3_l ((gi_cell (by decide)).trans R8.2.1) R8.2.2) (Ef.wk sx3_l) ?_
    rw [s104, b61_104, e8, bnd]
    simp only [app1, List.cons_append, List.nil_append]
    rw [b61_112, if_pos (in_l (by omega) hlt), nI_clamp hr2]
  rw [show toI none = -1 from rfl] at e8
  have q5' : numF (tK b n) (tV b n) 1 20 none (k + 5) = none := q5
  have hH : rdH (tK b n) (tV b n) D k = .inr (tV b n (k + 1), tV b n (k + 3), tV b n (k + 5)) := by
    unfold rdH
    rw [if_neg y0, q1]
    dsimp only
    rw [if_neg (show ¬ tK b n (k + 2) ≠ 219 from fun w => w y1), q3']
    dsimp only
    rw [if_neg (show ¬ tK b n (k + 4) ≠ 205 from fun w => w y3), q5']
  have Ef : eqx (sx3 D) h (sm_si (sm_si h8 32 (gR (dG D)) (nI (tV b n (k + 5)))) 33 (gR (dG D)) (nI 0)) := ((Ee.tr (E8.wk (fun c i w => Or.inl w))).si (Or.inr (Or.inl (by omega)))).si (Or.inr (Or.inl (by omega)))
  have R9 : cRd (sm_si (sm_si h8 32 (gR (dG D)) (nI (tV b n (k + 5)))) 33 (gR (dG D)) (nI 0)) b n nt (k + 6) := cRd_ch R Ef sx3_l ((gi_cell (by decide)).trans ((gi_cell (by decide)).trans R8.2.1)) R8.2.2
  have Z9 : cDz (sm_si (sm_si h8 32 (gR (dG D)) (nI (tV b n (k + 5)))) 33 (gR (dG D)) (nI 0)) D (bbS D (false, 0)) := by
    rw [bbS_f]
    exact cDz_ch (cDz_ch Z7 E8 sx28_o) (S := fun c i => (c = 32 ∨ c = 33) ∧ i = gR (dG D)) ((eqx.rf.si ⟨Or.inl rfl, rfl⟩).si ⟨Or.inr rfl, rfl⟩) (fun c i w => by unfold opC2; omega)
  have p30d : sm_gi (sm_si (sm_si h8 32 (gR (dG D)) (nI (tV b n (k + 5)))) 33 (gR (dG D)) (nI 0)) 30 (gR (dG D)) = nI (tV b n (k + 1)) := (gi_cell (by decide)).trans ((gi_cell (by decide)).trans ((E8.1 30 _ (n28 _ _ (by decide))).trans p30c))
  have p31d : sm_gi (sm_si (sm_si h8 32 (gR (dG D)) (nI (tV b n (k + 5)))) 33 (gR (dG D)) (nI 0)) 31 (gR (dG D)) = nI (tV b n (k + 3)) := (gi_cell (by decide)).trans ((gi_cell (by decide)).trans ((E8.1 31 _ (n28 _ _ (by decide))).trans p31c))
  have p32d : sm_gi (sm_si (sm_si h8 32 (gR (dG D)) (nI (tV b n (k + 5)))) 33 (gR (dG D)) (nI 0)) 32 (gR (dG D)) = nI (tV b n (k + 5)) := (gi_cell (by decide)).trans gi_same
  have p33d : sm_gi (sm_si (sm_si h8 32 (gR (dG D)) (nI (tV b n (k + 5)))) 33 (gR (dG D)) (nI 0)) 33 (gR (dG D)) = nI 0 := gi_same
  have s138 : xc 61 [.ref 28] h = xe 3 61 138 [.ref 28, .int (nI (gR (dG D))), .int (nI 0), .int (nI 0)] [] (sm_si (sm_si h8 32 (gR (dG D)) (nI (tV b n (k + 5)))) 33 (gR (dG D)) (nI 0)) := by
    rw [s104, b61_104, e8, bnd]
    simp only [app1, List.cons_append, List.nil_append]
    rw [b61_112, if_pos (in_l (by omega) hlt), nI_clamp hr2, g58, b61_126, if_pos (in_l (by omega) hlt), nI_clamp hr2, b61_136]
  generalize sm_si (sm_si h8 32 (gR (dG D)) (nI (tV b n (k + 5)))) 33 (gR (dG D)) (nI 0) = h9 at *
  obtain ⟨r0, w, l3, h10, a10, e10, E10, o10⟩ := c_flags hlt hb4 (nt + 1) (k + 6) 0 (false, 0) h9 (by omega) (by omega) R9 Z9 p33d
  have Eg : eqx (sx3 D) h (sm_si h10 29 2 (sm_gi h10 29 2 + nI 1)) := (Ef.tr (E10.wk sxF_3)).si (Or.inr (Or.inr ⟨rfl, Or.inl rfl⟩))
  have s188 : xc 61 [.ref 28] h = some ([.int w], sm_si h10 29 2 (sm_gi h10 29 2 + nI 1)) := by
    rw [s138, e10, b61_175, b61_188]
  have nF : ∀ c i, (30 ≤ c ∧ c ≤ 32) → ¬ sxFg D c i := fun c i w z => by unfold sxFg sx28 at z; omega
  rcases r0 with ⟨e, k'⟩ | ⟨k', s⟩
  · obtain ⟨p1, p2, p3⟩ := o10
    refine ⟨.inl (e, k'), _, by unfold rdR; rw [hH]; exact ⟨_, a10, rfl⟩, s188.trans (by rw [p1]; rfl), ⟨p2, cRd_ch R Eg sx3_l ((gi_cell (by decide)).trans p3.2.1) p3.2.2⟩, Eg.wk sx3_l⟩
  · obtain ⟨p1, p2, p3⟩ := o10
    have hsm : sm2 (tK b n) (.inr (k', addR D (tV b n (k + 1)) (tV b n (k + 3)) (tV b n (k + 5)) s)) = if tK b n k' = 59 then .inr (k', addR D (tV b n (k + 1)) (tV b n (k + 3)) (tV b n (k + 5)) s) else .inl (2, k') := rfl
    have R10 : cRd (sm_si h10 29 2 (sm_gi h10 29 2 + nI 1)) b n nt k' := cRd_ch R Eg sx3_l ((gi_cell (by decide)).trans p2.2.1) p2.2.2
    refine ⟨.inr (k', addR D (tV b n (k + 1)) (tV b n (k + 3)) (tV b n (k + 5)) s), _, by unfold rdR; rw [hH]; exact ⟨_, a10, rfl⟩, ?_, ?_, Eg.wk sx3_l⟩
    · rw [hsm]
      rcases p3 with ⟨x1, x2, -, -⟩ | ⟨x1, x2⟩
      · rw [if_pos x1, s188, x2]; rfl
      · rw [if_neg x1, s188, x2]; rfl
    · rw [hsm]
      rcases p3 with ⟨x1, x2, x3, x4⟩ | ⟨x1, x2⟩
      · rw [if_pos x1]
        refine ⟨by omega, R10, ?_⟩
        obtain ⟨⟨a1, a2, a3, a4, a5⟩, RR1, P, l1, l2⟩ := x3
        have El : eqx (fun c i => c = 29 ∧ i = 2) h10 (sm_si h10 29 2 (sm_gi h10 29 2 + nI 1)) := eqx.rf.si ⟨rfl, rfl⟩
        refine ⟨⟨(gi_slot (by decide)).trans a1, (gi_slot (by decide)).trans a2, gi_same.trans (by rw [a3, nI_add]; rfl), (gi_slot (by decide)).trans a4, (gi_slot (by decide)).trans a5⟩, fun r hr => ?_, fun p hp => ?_, cLaw_eqx l1 El (fun c i w => by omega), cLaw_eqx l2 El (fun c i w => by omega)⟩
        · have hr' : r < gR (dG D) + 1 := hr
          show sm_gi _ 30 r = nI (upF (gOne (dG D)) (gR (dG D)) (tV b n (k + 1)) r) ∧ sm_gi _ 31 r = nI (upF (gOth (dG D)) (gR (dG D)) (tV b n (k + 3)) r) ∧ sm_gi _ 32 r = nI (upF (gLon (dG D)) (gR (dG D)) (tV b n (k + 5)) r) ∧ sm_gi _ 33 r = nI (upF (gFlo (dG D)) (gR (dG D)) s.2 r)
          rw [gi_cell (by decide), gi_cell (by decide), gi_cell (by decide), gi_cell (by decide)]
          by_cases w : r = gR (dG D)
          · rw [w, upF_s, upF_s, upF_s, upF_s, E10.1 30 _ (nF _ _ (by omega)), E10.1 31 _ (nF _ _ (by omega)), E10.1 32 _ (nF _ _ (by omega))]
            exact ⟨p30d, p31d, p32d, x4⟩
          · rw [upF_o w, upF_o w, upF_o w, upF_o w]
            exact RR1 r (by omega)
        · obtain ⟨y1, y2, y3, y4, y5⟩ := P p hp
          exact ⟨(gi_cell (by decide)).trans y1, (gi_cell (by decide)).trans y2, (gi_cell (by decide)).trans y3, (gi_cell (by decide)).trans y4, (gi_cell (by decide)).trans y5⟩
      · rw [if_neg x1]
        exact ⟨⟨by decide, by decide⟩, R10⟩
end CRG
