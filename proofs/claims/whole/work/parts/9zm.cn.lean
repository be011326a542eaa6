/-! ===== land, fault: the class ===== -/
section CLE
variable {G : LG} {W : WG} {L : List WG} {B B' : Nat} {h : sm_H}
def sxLc : Nat → Nat → Prop := fun c i => (c = 0 ∧ i = 1) ∨ (2 ≤ c ∧ c ≤ 22) ∨ (28 ≤ c ∧ c ≤ 47) ∨ c = 50 ∨ (c = 52 ∧ i = 1)
def ldK (h h2 : sm_H) (G : LG) (W : WG) (L : List WG) (B : Nat) : SR DG → Prop
  | .inl _ => cS h2 G W L B ∧ sm_gi h2 2 1 = sm_gi h 2 1
  | .inr (_, D) => dWf D ∧ cS h2 (dG D) (dW D) [] B ∧ sm_gi h2 2 1 = nI (dL D)
theorem ldI_C {b : Nat → Nat} {n : Nat} {e k : Nat} : ldI b n (.inl (e, k)) = -30 - lwI b n (.inl (e, k)) := rfl
theorem c_land {x : Int32} {n0 : Nat} {t : Nat → Int32} (S : cS h G W L B) (hT : cTp h n0 t) (hb : byO t n0) : (¬ isN x.toInt64 (n0 + 1) ∧ xc 103 [.ref 0, .int x] h = some ([.int (-3)], h)) ∨ ∃ m, m ≤ n0 ∧ x = nI m ∧ ∃ r h2, ldR (tK (tB t) m) (tV (tB t) m) r ∧ xc 103 [.ref 0, .int x] h = some ([.int (ldI (tB t) m r)], h2) ∧ ldK h h2 G W L B r ∧ sm_gi h2 0 1 = nI 0 ∧ sm_gi h2 28 7 = lwI (tB t) m r ∧ sm_gi h2 28 8 = lpI (tB t) m r ∧ eqw sxLc h h2 := by
  obtain ⟨t1, t2, t3⟩ := hT
  rw [en_103, b103_0]
  by_cases z : isN x.toInt64 (n0 + 1)
  · obtain ⟨m, hm, rfl⟩ := isN_nI z (by omega)
    refine Or.inr ⟨m, by omega, rfl, ?_⟩
    rw [if_neg (by rw [show (0 : Int32) = nI 0 from rfl, nI_ltI (by omega) (by decide)]; omega), b103_4, t1, if_pos (by rw [nI_leI (by omega) (by omega)]; omega), b103_15, b103_20]
    have E0 : eqx (fun c i => c = 0 ∧ i = 1) h (sm_si h 0 1 (nI 0)) := eqx.rf.si ⟨rfl, rfl⟩
    have H0 : cBy (sm_si h 0 1 (nI 0)) (tB t) m := ⟨fun j hj => by
      rw [gi_cell (by decide), t3 j (by omega), tB_n hb (show j < n0 by omega)]
      unfold sgB
      rw [← tB_n hb (show j < n0 by omega)], by omega, tB_lt t⟩
    have S0 : cS (sm_si h 0 1 (nI 0)) G W L B := cS_rd S E0 (fun c i w => by omega)
    obtain ⟨r, h1, a1, e1, g7, g8, d1, he, q, E1⟩ := c_readLand H0
    have S1 : cS h1 G W L B := cS_rd (show cS (sm_sw (sm_si h 0 1 (nI 0)) q) G W L B from S0) E1 (fun c i w => by unfold sxRl at w; omega)
    have k01 : sm_gi h1 0 1 = nI 0 := (E1.1 0 1 (by unfold sxRl; omega)).trans (show sm_gi (sm_si h 0 1 (nI 0)) 0 1 = nI 0 from gi_same)
    have k21 : sm_gi h1 2 1 = sm_gi h 2 1 := (E1.1 2 1 (by unfold sxRl; omega)).trans (show sm_gi (sm_si h 0 1 (nI 0)) 2 1 = sm_gi h 2 1 from gi_cell (by decide))
    have Ew : eqw sxLc h h1 := eqw_tr (eqw_x (E0.wk (fun c i w => Or.inl w))) ⟨q, E1.wk (fun c i w => by unfold sxRl at w; unfold sxLc; omega)⟩
    rw [e1, bnd]
    simp only [app1, List.cons_append, List.nil_append]
    rw [b103_32]
    rcases r with ⟨e, k⟩ | ⟨k, D⟩
    · have hee := he e k rfl
      have hne : ¬ lwI (tB t) m (.inl (e, k)) = 0 := by
        show ¬ nI (flt e (tK (tB t) m k)) = 0
        rw [show (0 : Int32) = nI 0 from rfl]
        unfold flt
        split
        · decide
        · rw [nI_eq (by omega) (by decide)]; omega
      rw [if_neg hne, b103_37]
      exact ⟨.inl (e, k), h1, a1, by rw [ldI_C], ⟨S1, k21⟩, k01, g7, g8, Ew⟩
    · obtain ⟨Wf, Z⟩ := d1
      obtain ⟨⟨b1, b2, b3, b4, b5⟩, RR1, P, l1, l2⟩ := Z
      have D29 : sm_isD 29 := by unfold sm_isD; exact kd_29
      have cg : cG h1 29 (dG D) := ⟨⟨b1, b3, b4, b5⟩, RR1, fun p hp => ⟨(P p hp).2.1, (P p hp).2.2.2.1, (P p hp).2.2.2.2⟩, l1, l2⟩
      rw [show lwI (tB t) m (.inr (k, D)) = nI 0 from rfl, if_pos (show nI 0 = 0 from rfl), b103_42]
      obtain ⟨h2, e2, g2, l2', f2, E2⟩ := c_copyLandX isD2 D29 isD2.q10 isD2.q13 D29.q10 D29.q13 (by omega) Wf.1 cg
      rw [e2, bnd]
      simp only [List.nil_append]
      rw [b103_56, en_43, b43_0]
      obtain ⟨h3, e3, f3, E3⟩ := c_fill (a := 50) (v := nI 0) (h := h2) kd_50 ln_50 (by decide)
      rw [e3, bnd]
      simp only [List.nil_append]
      rw [b43_8, bnd]
      simp only [List.nil_append]
      have hP := Wf.1.2.2.1
      have g3 : cG h3 2 (dG D) := cG_eqx g2 E3 (fun c i w => by omega)
      obtain ⟨h4, e4, w4, E4⟩ := c_begin (h := h3) Wf g3 (fun p hp => ⟨(E3.1 7 p (show ¬ (7 = 50) by decide)).trans ((f2 5 p (by decide) (by decide) (by omega)).trans (P p hp).1), (E3.1 9 p (show ¬ (9 = 50) by decide)).trans ((f2 7 p (by decide) (by decide) (by omega)).trans (P p hp).2.2.1)⟩)
      rw [b103_63, e4, bnd]
      simp only [List.nil_append]
      rw [b103_74, en_47, b47_0, b47_5, bnd]
      simp only [List.nil_append]
      rw [b103_81]
      have E5 : eqx (fun c k => c = 52 ∧ k = 1) h4 (sm_si h4 52 1 (nI 0)) := eqx.rf.si ⟨rfl, rfl⟩
      have E25 : eqx sxLc h1 (sm_si h4 52 1 (nI 0)) := (((E2.wk (fun c i w => by unfold sxLd at w; unfold sxLc; omega)).tr (E3.wk (fun c i w => by unfold sxLc; omega))).tr (E4.wk (fun c i w => by unfold sxLc; omega))).tr (E5.wk (fun c i w => by unfold sxLc; omega))
      have n21 : sm_gi (sm_si h4 52 1 (nI 0)) 2 1 = nI (dL D) := (gi_cell (by decide)).trans ((E4.1 2 1 (by omega)).trans ((E3.1 2 1 (show ¬ (2 = 50) by decide)).trans (l2'.trans b2)))
      obtain ⟨nx, p1, p2, p3⟩ := S1.2.2.2.1
      refine ⟨.inr (k, D), _, a1, by rw [n21]; rfl, ⟨Wf, ⟨⟨Wf.1, Wf.2.1, cG_eqx (cG_eqx g3 E4 (fun c i w => by omega)) E5 (fun c i w => by omega), fun p r f t b pap hp hr hbr _ hb64 hpap => Or.inl ?_⟩, cW_eqx w4 E5 (fun c i w => by omega), dW_wf Wf B, ⟨nx, p1, (E25.1 52 2 (by unfold sxLc; omega)).trans p2, gi_same, by decide, fun j hj => absurd hj (Nat.not_lt_zero j)⟩, fun j hj => absurd hj (Nat.not_lt_zero j)⟩, n21⟩, ?_, ?_, ?_, eqw_tr Ew (eqw_x E25)⟩
      · rw [E5.1 50 _ (by omega), E4.1 50 _ (by omega)]
        exact f3 _ (key_lt Wf.1 Wf.2.1 hp hr hbr hb64 hpap)
      · rw [gi_cell (by decide), E4.1 0 1 (by omega), E3.1 0 1 (show ¬ (0 = 50) by decide), E2.1 0 1 (by unfold sxLd; omega)]; exact k01
      · rw [gi_cell (by decide), E4.1 28 7 (by omega), E3.1 28 7 (show ¬ (28 = 50) by decide), E2.1 28 7 (by unfold sxLd; omega)]; exact g7
      · rw [gi_cell (by decide), E4.1 28 8 (by omega), E3.1 28 8 (show ¬ (28 = 50) by decide), E2.1 28 8 (by unfold sxLd; omega)]; exact g8
  · refine Or.inl ⟨z, ?_⟩
    by_cases y : x < 0
    · rw [if_pos y, b103_12]
    · rw [if_neg y, b103_4, t1, if_neg (fun w => z ?_), b103_12]
      rw [Int32.lt_iff_toInt_lt, show (0 : Int32).toInt = 0 from rfl] at y
      rw [Int32.le_iff_toInt_le, nI_toInt (by omega)] at w
      unfold isN
      rw [Int32.toInt_toInt64]
      omega
theorem c_fault {x : Int32} : xc 104 [.ref 0, .int x] h = some ([.int (if x = 0 then sm_gi h 28 7 else if x = nI 1 then sm_gi h 28 8 else -1)], h) := by
  rw [en_104, b104_0]
  by_cases z : x = 0
  · rw [if_pos z, if_pos z, b104_4]
  · rw [if_neg z, if_neg z, b104_12]
    by_cases y : x = nI 1
    · rw [if_pos y, if_pos y, b104_17, b104_28]
    · rw [if_neg y, if_neg y, b104_27, b104_28]
end CLE
