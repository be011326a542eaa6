/-! ===== lines are read: the class, personLine, laws, lines ===== -/
/-- the same but for what may change, and the law that is read -/
def eqw (S : Nat → Nat → Prop) (h h2 : sm_H) : Prop := ∃ q, eqx S (sm_sw h q) h2
theorem eqw_x {S : Nat → Nat → Prop} {h h2 : sm_H} (E : eqx S h h2) : eqw S h h2 := ⟨sm_lw h, E⟩
theorem eqw_tr {S : Nat → Nat → Prop} {h h1 h2 : sm_H} (a : eqw S h h1) (c : eqw S h1 h2) : eqw S h h2 := by
  obtain ⟨q, a1, a2, a3⟩ := a
  obtain ⟨p, c1, c2, c3⟩ := c
  exact ⟨p, fun c i z => (c1 c i z).trans (a1 c i z), fun c i z => (c2 c i z).trans (a2 c i z), c3⟩
theorem eqw_wk {S S' : Nat → Nat → Prop} {h h2 : sm_H} (a : eqw S h h2) (w : ∀ c i, S c i → S' c i) : eqw S' h h2 := by
  obtain ⟨q, a⟩ := a
  exact ⟨q, a.wk w⟩
section CRI
variable {b : Nat → Nat} {n nt k : Nat} {h : sm_H}
theorem c_personLine {D : DG} (hB : dB D) (R : cRd h b n nt k) (Z : cDr h D) (z : tK b n k = 202) : ∃ r h2, psR (tK b n) (tV b n) D k r ∧ xc 63 [.ref 28] h = some ([.int (rwI (sm2 (tK b n) r))], h2) ∧ clO h2 b n nt k (sm2 (tK b n) r) ∧ eqx sxCl h h2 := by
  obtain ⟨hgN, hR, hP, hb4⟩ := hB
  have T := R.1.1
  have h900 := T.2.2.1
  have hk := R.2.2
  have hN1 : 1 ≤ gN (dG D) ∧ gN (dG D) ≤ 6 := ⟨by omega, hgN.2⟩
  have start : xc 63 [.ref 28] h = xe 4 63 0 [.ref 28, .null, .null, .null] [] h := en_63
  have g3 : sm_gi h 29 3 = nI (gP (dG D)) := Z.1.2.2.2.1
  have fin : ∀ e k' h2, psH (tK b n) (tV b n) D k = .inl (e, k') → (1 ≤ e ∧ e ≤ 4) → cRd h2 b n nt k' → eqx sxCl h h2 → xc 63 [.ref 28] h = some ([.int (nI e)], h2) → ∃ r h2, psR (tK b n) (tV b n) D k r ∧ xc 63 [.ref 28] h = some ([.int (rwI (sm2 (tK b n) r))], h2) ∧ clO h2 b n nt k (sm2 (tK b n) r) ∧ eqx sxCl h h2 := fun e k' h2 e1 he R2 E e2 => ⟨.inl (e, k'), h2, by unfold psR; rw [e1], e2, ⟨he, R2⟩, E⟩
  by_cases y0 : gP (dG D) = 6
  · refine fin 4 k h (by unfold psH; rw [if_pos y0]) (by omega) R eqx.rf ?_
    rw [start, b63_0, g3, if_neg (by rw [nI_ltI (by omega) (by decide)]; omega), b63_14]
  have hlt : gP (dG D) < 6 := by omega
  have hp2 : gP (dG D) < 2 ^ 31 := by omega
  have nz : ∀ e : Nat, (1 ≤ e ∧ e ≤ 4) → ¬ nI e = 0 := fun e he => by rw [show (0 : Int32) = nI 0 from rfl, nI_eq (by omega) (by decide)]; omega
  -- the five rows
  have rows : ∀ {h' : sm_H} {w : Int32}, xe 4 63 44 [.ref 28, .int (nI (gP (dG D))), .int w, .null] [] h' = xe 4 63 102 [.ref 28, .int (nI (gP (dG D))), .int w, .int (nI 0)] [] (sm_si (sm_si (sm_si (sm_si (sm_si h' 34 (gP (dG D)) (sm_gi h' 28 5)) 35 (gP (dG D)) (sm_gi h' 28 5)) 36 (gP (dG D)) (nI 0)) 37 (gP (dG D)) (-1)) 38 (gP (dG D)) (-1)) := fun {h'} {w} => by
    rw [b63_44, if_pos (in_p (by omega) hlt), nI_clamp hp2, b63_57, if_pos (in_p (by omega) hlt), nI_clamp hp2, gi_cell (by decide), b63_70, if_pos (in_p (by omega) hlt), nI_clamp hp2, b63_80, if_pos (in_p (by omega) hlt), nI_clamp hp2, b63_90, if_pos (in_p (by omega) hlt), nI_clamp hp2, b63_100]
  have Er : ∀ {h' : sm_H} {v : Int32}, eqx (sxMk D) h' (sm_si (sm_si (sm_si (sm_si (sm_si h' 34 (gP (dG D)) v) 35 (gP (dG D)) v) 36 (gP (dG D)) (nI 0)) 37 (gP (dG D)) (-1)) 38 (gP (dG D)) (-1)) := fun {h'} {v} => eqx.si (eqx.si (eqx.si (eqx.si (eqx.si eqx.rf (Or.inr (by omega))) (Or.inr (by omega))) (Or.inr (by omega))) (Or.inr (by omega))) (Or.inr (by omega))
  have tail : ∀ {h' : sm_H} {e k' : Nat}, psH (tK b n) (tV b n) D k = .inl (e, k') → (1 ≤ e ∧ e ≤ 4) → cRd h' b n nt k' → eqx sxCl h h' → xc 63 [.ref 28] h = xe 4 63 44 [.ref 28, .int (nI (gP (dG D))), .int (nI e), .null] [] h' → ∃ r h2, psR (tK b n) (tV b n) D k r ∧ xc 63 [.ref 28] h = some ([.int (rwI (sm2 (tK b n) r))], h2) ∧ clO h2 b n nt k (sm2 (tK b n) r) ∧ eqx sxCl h h2 := fun {h'} {e} {k'} e1 he R' E' e2 => by
    rw [rows] at e2
    have E1 := Er (h' := h') (v := sm_gi h' 28 5)
    have hk' : ∀ {h'' : sm_H}, eqx (sxMk D) h' h'' → sm_gi h'' 28 4 = sm_gi h' 28 4 → cRd h'' b n nt k' := fun {h''} E g => cRd_ch R' E sxMk_l (g.trans R'.2.1) R'.2.2
    have g4 : sm_gi (sm_si (sm_si (sm_si (sm_si (sm_si h' 34 (gP (dG D)) (sm_gi h' 28 5)) 35 (gP (dG D)) (sm_gi h' 28 5)) 36 (gP (dG D)) (nI 0)) 37 (gP (dG D)) (-1)) 38 (gP (dG D)) (-1)) 28 4 = sm_gi h' 28 4 := (gi_cell (by decide)).trans ((gi_cell (by decide)).trans ((gi_cell (by decide)).trans ((gi_cell (by decide)).trans (gi_cell (by decide)))))
    have R1 := hk' E1 g4
    generalize sm_si (sm_si (sm_si (sm_si (sm_si h' 34 (gP (dG D)) (sm_gi h' 28 5)) 35 (gP (dG D)) (sm_gi h' 28 5)) 36 (gP (dG D)) (nI 0)) 37 (gP (dG D)) (-1)) 38 (gP (dG D)) (-1) = h1 at *
    have E2 : eqx (fun c i => c = 29) h1 (sm_si h1 29 3 (sm_gi h1 29 3 + nI 1)) := eqx.rf.si rfl
    refine fin e k' _ e1 he (cRd_ch R1 E2 (fun c i w => by unfold sxCl; omega) ((gi_cell (by decide)).trans R1.2.1) R1.2.2) ((E'.tr (E1.wk sxMk_l)).tr (E2.wk (fun c i w => by unfold sxCl; omega))) (e2.trans ?_)
    rw [b63_102, if_neg (by decide), b63_109, if_neg (nz e he), b63_139, b63_152]
  have Ea : eqx sx28 h (sm_si h 28 4 (nI (k + 1))) := eqx.rf.si ⟨rfl, Or.inl rfl⟩
  have R1 : cRd (sm_si h 28 4 (nI (k + 1))) b n nt (k + 1) := cRd_ch R Ea sx28_l gi_same (T.s hk (by omega))
  have Z1 : cDr (sm_si h 28 4 (nI (k + 1))) D := cDz_ch Z Ea sx28_o
  have s26 : xc 63 [.ref 28] h = xe 4 63 26 [.ref 28, .int (nI (gP (dG D))), .null, .null] [] (sm_si h 28 4 (nI (k + 1))) := by
    rw [start, b63_0, g3, if_pos (by rw [nI_ltI (by omega) (by decide)]; omega), b63_16, R.2.1, nI_add]
  generalize sm_si h 28 4 (nI (k + 1)) = h1 at *
  rcases (c_take2 (c := 208) R1 (by decide) (by decide)).symm with ⟨y1, e2⟩ | ⟨y1, e2, R2, E2⟩
  · refine tail (e := 2) (k' := k + 1) (by unfold psH; rw [if_neg y0, if_pos y1]) (by omega) R1 (Ea.wk sx28_l) ?_
    rw [s26, b63_26, e2, bnd]
    simp only [app1, List.cons_append, List.nil_append]
    rw [b63_33, if_neg (by decide)]
  have Z2 : cDr (sm_si h1 28 4 (nI (k + 1 + 1))) D := cDz_ch Z1 E2 sx28_o
  have s38 : xc 63 [.ref 28] h = xe 4 63 38 [.ref 28, .int (nI (gP (dG D))), .int (nI 0), .null] [] (sm_si h1 28 4 (nI (k + 1 + 1))) := by
    rw [s26, b63_26, e2, bnd]
    simp only [app1, List.cons_append, List.nil_append]
    rw [b63_33, if_pos (show nI 0 = 0 from rfl)]
  generalize sm_si h1 28 4 (nI (k + 1 + 1)) = h2 at *
  rcases c_placeNumber (ban := none) R2 Z2.1.1 hN1 (fun a w => by cases w) with ⟨e, h3, q1, q2, e3, R3, E3⟩ | ⟨q1, h3, e3, R3, g5, E3⟩
  · rw [show toI none = -1 from rfl] at e3
    have q1' : numF (tK b n) (tV b n) 0 (gN (dG D) - 1) none (k + 2) = some e := q1
    refine tail (e := e) (k' := k + 2) (by unfold psH; rw [if_neg y0, if_neg (show ¬ tK b n (k + 1) ≠ 208 from fun w => w y1), q1']) (by omega) R3 (((Ea.tr E2).tr E3).wk sx28_l) ?_
    rw [s38, b63_38, e3, bnd]
    simp only [app1, List.cons_append, List.nil_append]
    rw [b63_43]
  rw [show toI none = -1 from rfl] at e3
  have q1' : numF (tK b n) (tV b n) 0 (gN (dG D) - 1) none (k + 2) = none := q1
  have g5' : sm_gi h3 28 5 = nI (tV b n (k + 2)) := g5
  have hH : psH (tK b n) (tV b n) D k = .inr (tV b n (k + 2)) := by unfold psH; rw [if_neg y0, if_neg (show ¬ tK b n (k + 1) ≠ 208 from fun w => w y1), q1']
  have s102 : xc 63 [.ref 28] h = xe 4 63 102 [.ref 28, .int (nI (gP (dG D))), .int (nI 0), .int (nI 0)] [] (sm_si (sm_si (sm_si (sm_si (sm_si h3 34 (gP (dG D)) (nI (tV b n (k + 2)))) 35 (gP (dG D)) (nI (tV b n (k + 2)))) 36 (gP (dG D)) (nI 0)) 37 (gP (dG D)) (-1)) 38 (gP (dG D)) (-1)) := by
    rw [s38, b63_38, e3, bnd]
    simp only [app1, List.cons_append, List.nil_append]
    rw [b63_43, rows, g5']
  have E4 := Er (h' := h3) (v := nI (tV b n (k + 2)))
  have Ef : eqx (sxMk D) h (sm_si (sm_si (sm_si (sm_si (sm_si h3 34 (gP (dG D)) (nI (tV b n (k + 2)))) 35 (gP (dG D)) (nI (tV b n (k + 2)))) 36 (gP (dG D)) (nI 0)) 37 (gP (dG D)) (-1)) 38 (gP (dG D)) (-1)) := (((Ea.tr E2).tr E3).wk (fun c i w => Or.inl w)).tr E4
  have R4 : cRd (sm_si (sm_si (sm_si (sm_si (sm_si h3 34 (gP (dG D)) (nI (tV b n (k + 2)))) 35 (gP (dG D)) (nI (tV b n (k + 2)))) 36 (gP (dG D)) (nI 0)) 37 (gP (dG D)) (-1)) 38 (gP (dG D)) (-1)) b n nt (k + 3) := cRd_ch R Ef sxMk_l ((gi_cell (by decide)).trans ((gi_cell (by decide)).trans ((gi_cell (by decide)).trans ((gi_cell (by decide)).trans ((gi_cell (by decide)).trans R3.2.1))))) R3.2.2
  have Z4 : cDr (sm_si (sm_si (sm_si (sm_si (sm_si h3 34 (gP (dG D)) (nI (tV b n (k + 2)))) 35 (gP (dG D)) (nI (tV b n (k + 2)))) 36 (gP (dG D)) (nI 0)) 37 (gP (dG D)) (-1)) 38 (gP (dG D)) (-1)) D := cDz_ch (cDz_ch Z2 E3 sx28_o) E4 sxMk_o
  have Q4 : cPp (sm_si (sm_si (sm_si (sm_si (sm_si h3 34 (gP (dG D)) (nI (tV b n (k + 2)))) 35 (gP (dG D)) (nI (tV b n (k + 2)))) 36 (gP (dG D)) (nI 0)) 37 (gP (dG D)) (-1)) 38 (gP (dG D)) (-1)) (gP (dG D)) ((tV b n (k + 2), 0), (none, -1)) (tV b n (k + 2)) := ⟨(gi_cell (by decide)).trans ((gi_cell (by decide)).trans ((gi_cell (by decide)).trans ((gi_cell (by decide)).trans gi_same))), (gi_cell (by decide)).trans ((gi_cell (by decide)).trans ((gi_cell (by decide)).trans gi_same)), (gi_cell (by decide)).trans ((gi_cell (by decide)).trans gi_same), (gi_cell (by decide)).trans gi_same, gi_same⟩
  generalize sm_si (sm_si (sm_si (sm_si (sm_si h3 34 (gP (dG D)) (nI (tV b n (k + 2)))) 35 (gP (dG D)) (nI (tV b n (k + 2)))) 36 (gP (dG D)) (nI 0)) 37 (gP (dG D)) (-1)) 38 (gP (dG D)) (-1) = h4 at *
  obtain ⟨r0, w, l3, h10, a10, e10, E10, o10⟩ := c_marks hgN hlt (nt + 1) (k + 3) 0 _ h4 (by omega) (by omega) R4 Z4 Q4
  have Eg : eqx sxCl h (sm_si h10 29 3 (sm_gi h10 29 3 + nI 1)) := ((Ef.tr E10).wk sxMk_l).si (by unfold sxCl; omega)
  have s152 : xc 63 [.ref 28] h = some ([.int w], sm_si h10 29 3 (sm_gi h10 29 3 + nI 1)) := by
    rw [s102, e10, b63_139, b63_152]
  rcases r0 with ⟨e, k'⟩ | ⟨k', s⟩
  · obtain ⟨p1, p2, p3⟩ := o10
    exact ⟨.inl (e, k'), _, by unfold psR; rw [hH]; exact ⟨_, a10, rfl⟩, s152.trans (by rw [p1]; rfl), ⟨p2, cRd_ch R Eg (fun c i w => w) ((gi_cell (by decide)).trans p3.2.1) p3.2.2⟩, Eg⟩
  · obtain ⟨p1, p2, p3⟩ := o10
    have hsm : sm2 (tK b n) (.inr (k', addP D (tV b n (k + 2)) s)) = if tK b n k' = 59 then .inr (k', addP D (tV b n (k + 2)) s) else .inl (2, k') := rfl
    have R10 : cRd (sm_si h10 29 3 (sm_gi h10 29 3 + nI 1)) b n nt k' := cRd_ch R Eg (fun c i w => w) ((gi_cell (by decide)).trans p2.2.1) p2.2.2
    refine ⟨.inr (k', addP D (tV b n (k + 2)) s), _, by unfold psR; rw [hH]; exact ⟨_, a10, rfl⟩, ?_, ?_, Eg⟩
    · rw [hsm]
      rcases p3 with ⟨x1, x2, -, -⟩ | ⟨x1, x2⟩
      · rw [if_pos x1, s152, x2]; rfl
      · rw [if_neg x1, s152, x2]; rfl
    · rw [hsm]
      rcases p3 with ⟨x1, x2, x3, x4⟩ | ⟨x1, x2⟩
      · rw [if_pos x1]
        refine ⟨by omega, R10, ?_⟩
        obtain ⟨⟨a1, a2, a3, a4, a5⟩, RR1, P, l1, l2⟩ := x3
        have El : eqx (fun c i => c = 29 ∧ i = 3) h10 (sm_si h10 29 3 (sm_gi h10 29 3 + nI 1)) := eqx.rf.si ⟨rfl, rfl⟩
        refine ⟨⟨(gi_slot (by decide)).trans a1, (gi_slot (by decide)).trans a2, (gi_slot (by decide)).trans a3, gi_same.trans (by rw [a4, nI_add]; rfl), (gi_slot (by decide)).trans a5⟩, fun r hr => ?_, fun p hp => ?_, cLaw_eqx l1 El (fun c i w => by omega), cLaw_eqx l2 El (fun c i w => by omega)⟩
        · obtain ⟨y1, y2, y3, y4⟩ := RR1 r hr
          exact ⟨(gi_cell (by decide)).trans y1, (gi_cell (by decide)).trans y2, (gi_cell (by decide)).trans y3, (gi_cell (by decide)).trans y4⟩
        · have hp' : p < gP (dG D) + 1 := hp
          show sm_gi _ 34 p = nI (upF (dA D) (gP (dG D)) (tV b n (k + 2)) p) ∧ sm_gi _ 35 p = nI (upF (gBor (dG D)) (gP (dG D)) s.1.1 p) ∧ sm_gi _ 36 p = nI (upF (dP D) (gP (dG D)) s.1.2 p) ∧ sm_gi _ 37 p = toI (upF (gGol (dG D)) (gP (dG D)) s.2.1 p) ∧ sm_gi _ 38 p = upF (gBy (dG D)) (gP (dG D)) s.2.2 p
          rw [gi_cell (by decide), gi_cell (by decide), gi_cell (by decide), gi_cell (by decide), gi_cell (by decide)]
          by_cases w : p = gP (dG D)
          · rw [w, upF_s, upF_s, upF_s, upF_s, upF_s]
            exact x4
          · rw [upF_o w, upF_o w, upF_o w, upF_o w, upF_o w]
            exact P p (by omega)
      · rw [if_neg x1]
        exact ⟨⟨by decide, by decide⟩, R10⟩
end CRI
