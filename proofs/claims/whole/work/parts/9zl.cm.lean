/-! ===== land: the class ===== -/
theorem c_copyLandX {o a : Nat} {G : LG} {h : sm_H} (ho : sm_isD o) (ha : sm_isD a) (q1 : sm_isQ (o + 10)) (q2 : sm_isQ (o + 13)) (q3 : sm_isQ (a + 10)) (q4 : sm_isQ (a + 13)) (hd : a + 15 ≤ o ∨ o + 15 ≤ a) (hw : wfG G) (hG : cG h a G) : ∃ h2, xc 32 [.ref o, .ref a] h = some ([], h2) ∧ cG h2 o G ∧ sm_gi h2 o 1 = sm_gi h a 1 ∧ (∀ c i, 5 ≤ c → c ≤ 9 → i < 6 → sm_gi h2 (o + c) i = sm_gi h (a + c) i) ∧ eqx (sxLd o) h h2 := by
  have hR := hw.2.1
  have hP := hw.2.2.1
  rw [en_32, b32_0 ha ho, b32_8 ha ho, b32_16 ha ho, b32_24 ha ho, b32_32 ha ho,
    b32_40 ha ho, if_pos (by rw [ha.ln1, ho.ln1]; decide +kernel), b32_55 ha ho, if_pos (by rw [ha.ln2, ho.ln2]; decide +kernel), b32_70 ha ho, if_pos (by rw [ha.ln3, ho.ln3]; decide +kernel), b32_85 ha ho, if_pos (by rw [ha.ln4, ho.ln4]; decide +kernel),
    b32_100 ha ho, if_pos (by rw [ha.ln5, ho.ln5]; decide +kernel), b32_115 ha ho, if_pos (by rw [ha.ln6, ho.ln6]; decide +kernel), b32_130 ha ho, if_pos (by rw [ha.ln7, ho.ln7]; decide +kernel), b32_145 ha ho, if_pos (by rw [ha.ln8, ho.ln8]; decide +kernel), b32_160 ha ho, if_pos (by rw [ha.ln9, ho.ln9]; decide +kernel)]
  rw [show (nI 0).toNatClampNeg = 0 from nI_clamp (by decide), show (nI 6).toNatClampNeg = 6 from nI_clamp (by decide), show (nI 12).toNatClampNeg = 12 from nI_clamp (by decide)]
  have key : ∀ hh, (eqx (sxLd o) h hh) → (∀ i, i < 5 → sm_gi hh o i = sm_gi h a i) → (∀ c i, 1 ≤ c → c ≤ 4 → i < 12 → sm_gi hh (o + c) i = sm_gi h (a + c) i) → (∀ c i, 5 ≤ c → c ≤ 9 → i < 6 → sm_gi hh (o + c) i = sm_gi h (a + c) i) → ∃ h2, xe 2 32 175 [.ref o, .ref a] [] hh = some ([], h2) ∧ cG h2 o G ∧ sm_gi h2 o 1 = sm_gi h a 1 ∧ (∀ c i, 5 ≤ c → c ≤ 9 → i < 6 → sm_gi h2 (o + c) i = sm_gi h (a + c) i) ∧ eqx (sxLd o) h h2 := by
    intro hh E f1 f2 f3
    have l1 : cLaw hh (a + 10) (gLet G) := cLaw_eqx hG.2.2.2.1 E (fun c i z => by unfold sxLd at z; omega)
    obtain ⟨h3, e3, c3, E3⟩ := c_copyLaw q1 q3 (by omega) l1
    rw [b32_175 ho ha q1, e3, bnd]
    simp only [List.nil_append]
    have l2 : cLaw h3 (a + 13) (gTol G) := cLaw_eqx (cLaw_eqx hG.2.2.2.2 E (fun c i z => by unfold sxLd at z; omega)) E3 (fun c i z => by omega)
    obtain ⟨h4, e4, c4, E4⟩ := c_copyLaw q2 q4 (by omega) l2
    rw [b32_186 ho ha q2, e4, bnd]
    simp only [List.nil_append]
    rw [b32_197]
    have E34 : eqx (fun c _ => c = o + 10 ∨ c = o + 11 ∨ c = o + 13 ∨ c = o + 14) hh h4 := (E3.wk (fun c i z => by omega)).tr (E4.wk (fun c i z => by omega))
    have g : ∀ c i, (c < o + 10 ∨ o + 15 ≤ c) → sm_gi h4 c i = sm_gi hh c i := fun c i z => E34.1 c i (by omega)
    refine ⟨h4, rfl, ⟨⟨?_, ?_, ?_, ?_⟩, fun r hr => ⟨?_, ?_, ?_, ?_⟩, fun p hp => ⟨?_, ?_, ?_⟩, cLaw_eqx c3 E4 (fun c i z => by omega), c4⟩, ?_, (fun c i w1 w2 w3 => (g _ i (by omega)).trans (f3 c i w1 w2 w3)), E.tr (E34.wk (fun c i z => by unfold sxLd; omega))⟩
    · rw [g o 0 (by omega), f1 0 (by decide)]; exact hG.1.1
    · rw [g o 2 (by omega), f1 2 (by decide)]; exact hG.1.2.1
    · rw [g o 3 (by omega), f1 3 (by decide)]; exact hG.1.2.2.1
    · rw [g o 4 (by omega), f1 4 (by decide)]; exact hG.1.2.2.2
    · rw [g _ r (by omega), f2 1 r (by decide) (by decide) (by omega)]; exact (hG.2.1 r hr).1
    · rw [g _ r (by omega), f2 2 r (by decide) (by decide) (by omega)]; exact (hG.2.1 r hr).2.1
    · rw [g _ r (by omega), f2 3 r (by decide) (by decide) (by omega)]; exact (hG.2.1 r hr).2.2.1
    · rw [g _ r (by omega), f2 4 r (by decide) (by decide) (by omega)]; exact (hG.2.1 r hr).2.2.2
    · rw [g _ p (by omega), f3 6 p (by decide) (by decide) (by omega)]; exact (hG.2.2.1 p hp).1
    · rw [g _ p (by omega), f3 8 p (by decide) (by decide) (by omega)]; exact (hG.2.2.1 p hp).2.1
    · rw [g _ p (by omega), f3 9 p (by decide) (by decide) (by omega)]; exact (hG.2.2.1 p hp).2.2
    · rw [g o 1 (by omega), f1 1 (by decide)]
  refine key _ ?_ ?_ ?_ ?_
  · refine eqx.cp (eqx.cp (eqx.cp (eqx.cp (eqx.cp (eqx.cp (eqx.cp (eqx.cp (eqx.cp (eqx.si (eqx.si (eqx.si (eqx.si (eqx.si eqx.rf ?_) ?_) ?_) ?_) ?_) ?_) ?_) ?_) ?_) ?_) ?_) ?_) ?_) ?_ <;> (try intro i) <;> unfold sxLd <;> omega
  · intro i hi
    rcases (show i = 0 ∨ i = 1 ∨ i = 2 ∨ i = 3 ∨ i = 4 by omega) with rfl | rfl | rfl | rfl | rfl <;> simp (disch := omega) only [gi_same, gi_cell, gi_slot, gi_cpn]
  · intro c i h1 h2 hi
    rcases (show c = 1 ∨ c = 2 ∨ c = 3 ∨ c = 4 by omega) with rfl | rfl | rfl | rfl <;> simp (disch := omega) only [gi_same, gi_cell, gi_slot, gi_cpn, gi_cp0]
  · intro c i h1 h2 hi
    rcases (show c = 5 ∨ c = 6 ∨ c = 7 ∨ c = 8 ∨ c = 9 by omega) with rfl | rfl | rfl | rfl | rfl <;> simp (disch := omega) only [gi_same, gi_cell, gi_slot, gi_cpn, gi_cp0]
section CLD
variable {G : LG} {W : WG} {L : List WG} {B B' : Nat} {h : sm_H}
theorem cS_rd {S : Nat → Nat → Prop} {h2 : sm_H} (H : cS h G W L B) (E : eqx S h h2) (hS : ∀ c i, S c i → c < 2 ∨ (28 ≤ c ∧ c ≤ 47) ∨ 104 ≤ c) : cS h2 G W L B := ⟨cE_eqx H.1 E (fun c i z => by have := hS c i z; omega), cW_eqx H.2.1 E (fun c i z => by have := hS c i z; omega), H.2.2.1, cPast_eqx H.2.2.2.1 E (fun c i z => by have := hS c i z; omega), H.2.2.2.2⟩
theorem c_begin_loop {D : DG} (Wf : dWf D) (hG : cG h 2 (dG D)) (hA : ∀ p, p < gP (dG D) → sm_gi h 7 p = nI (dA D p) ∧ sm_gi h 9 p = nI (dP D p)) : ∀ (m k : Nat) (h1 : sm_H), k + m = gP (dG D) → (∀ p, p < k → sm_gi h1 19 p = nI (dA D p) ∧ sm_gi h1 20 p = nI 0 ∧ sm_gi h1 22 p = nI (2 ^ dA D p ||| 2 ^ gBor (dG D) p)) → (∀ p, p < 6 → sm_gi h1 21 p = nI (if p < k then dP D p else 0)) → sm_gi h1 18 4 = nI (rdD D k) → sm_gi h1 18 5 = nI 0 → eqx (fun c _ => 18 ≤ c ∧ c ≤ 22) h h1 → ∃ h2, xe 2 98 20 [.ref 18, .ref 2, .int (nI k)] [] h1 = some ([], h2) ∧ cW h2 18 (gP (dG D)) (dW D) ∧ eqx (fun c _ => 18 ≤ c ∧ c ≤ 22) h h2
  | 0, k, h1, e, a, pp, g4, g5, E => by
    have : k = gP (dG D) := by omega
    subst this
    rw [b98_20 isD2, (E.1 2 3 (by omega)).trans hG.1.2.2.1, if_pos (Int32.le_refl _), b98_115]
    exact ⟨h1, rfl, ⟨g5, g4, fun p hp => a p hp, fun p hp => pp p hp⟩, E⟩
  | m + 1, k, h1, e, a, pp, g4, g5, E => by
    have hP := Wf.1.2.2.1
    have hN := Wf.1.1
    have hk : k < gP (dG D) := by omega
    have hd := (Wf.2.2 k hk)
    have hbo := (Wf.1.2.2.2.2.1 k hk)
    have gl : ∀ c i, c < 18 → sm_gi h1 c i = sm_gi h c i := fun c i w => E.1 c i (by omega)
    have g7 : sm_gi h1 7 k = nI (dA D k) := (gl _ _ (by decide)).trans (hA k hk).1
    have g9 : sm_gi h1 9 k = nI (dP D k) := (gl _ _ (by decide)).trans (hA k hk).2
    have g8 : sm_gi h1 8 k = nI (gBor (dG D) k) := (gl _ _ (by decide)).trans (hG.2.2.1 k hk).1
    have g10 : sm_gi h1 10 k = toI (gGol (dG D) k) := (gl _ _ (by decide)).trans (hG.2.2.1 k hk).2.1
    have i7 : sm_in (2 + 5) (nI k) := in_c (by rw [ln_7]; omega) (by omega)
    have i8 : sm_in (2 + 6) (nI k) := in_c (by rw [ln_8]; omega) (by omega)
    have i9 : sm_in (2 + 7) (nI k) := in_c (by rw [ln_9]; omega) (by omega)
    have i10 : sm_in (2 + 8) (nI k) := in_c (by rw [ln_10]; omega) (by omega)
    have i19 : sm_in (18 + 1) (nI k) := in_c (by rw [ln_19]; omega) (by omega)
    have i20 : sm_in (18 + 2) (nI k) := in_c (by rw [ln_20]; omega) (by omega)
    have i21 : sm_in (18 + 3) (nI k) := in_c (by rw [ln_21]; omega) (by omega)
    have i22 : sm_in (18 + 4) (nI k) := in_c (by rw [ln_22]; omega) (by omega)
    have ek : (nI k).toNatClampNeg = k := nI_clamp (by omega)
    have Ew : eqx (fun c i => (19 ≤ c ∧ c ≤ 22) ∧ i = k) h1 (sm_si (sm_si (sm_si (sm_si h1 19 k (nI (dA D k))) 20 k (nI 0)) 21 k (nI (dP D k))) 22 k (nI (2 ^ dA D k ||| 2 ^ gBor (dG D) k))) := eqx.si (eqx.si (eqx.si (eqx.si eqx.rf (by omega)) (by omega)) (by omega)) (by omega)
    have w19 : sm_gi (sm_si (sm_si (sm_si (sm_si h1 19 k (nI (dA D k))) 20 k (nI 0)) 21 k (nI (dP D k))) 22 k (nI (2 ^ dA D k ||| 2 ^ gBor (dG D) k))) 19 k = nI (dA D k) := (gi_cell (by decide)).trans ((gi_cell (by decide)).trans ((gi_cell (by decide)).trans gi_same))
    have w20 : sm_gi (sm_si (sm_si (sm_si (sm_si h1 19 k (nI (dA D k))) 20 k (nI 0)) 21 k (nI (dP D k))) 22 k (nI (2 ^ dA D k ||| 2 ^ gBor (dG D) k))) 20 k = nI 0 := (gi_cell (by decide)).trans ((gi_cell (by decide)).trans gi_same)
    have w21 : sm_gi (sm_si (sm_si (sm_si (sm_si h1 19 k (nI (dA D k))) 20 k (nI 0)) 21 k (nI (dP D k))) 22 k (nI (2 ^ dA D k ||| 2 ^ gBor (dG D) k))) 21 k = nI (dP D k) := (gi_cell (by decide)).trans gi_same
    have w22 : sm_gi (sm_si (sm_si (sm_si (sm_si h1 19 k (nI (dA D k))) 20 k (nI 0)) 21 k (nI (dP D k))) 22 k (nI (2 ^ dA D k ||| 2 ^ gBor (dG D) k))) 22 k = nI (2 ^ dA D k ||| 2 ^ gBor (dG D) k) := gi_same
    have s82 : xe 2 98 20 [.ref 18, .ref 2, .int (nI k)] [] h1 = xe 2 98 82 [.ref 18, .ref 2, .int (nI k)] [] (sm_si (sm_si (sm_si (sm_si h1 19 k (nI (dA D k))) 20 k (nI 0)) 21 k (nI (dP D k))) 22 k (nI (2 ^ dA D k ||| 2 ^ gBor (dG D) k))) := by
      rw [b98_20 isD2, (E.1 2 3 (by omega)).trans hG.1.2.2.1, if_neg (by rw [nI_leI (by omega) (by omega)]; omega), b98_28 isW18 isD2, if_pos i7, if_pos i19, ek, g7, b98_40 isW18, if_pos i20, ek, b98_47 isW18 isD2, if_pos i9, if_pos i21, ek, gi_cell (by decide), gi_cell (by decide), g9, b98_59 isW18 isD2, if_pos i7, if_pos i8, if_pos i22, ek, gi_cell (by decide), gi_cell (by decide), gi_cell (by decide), gi_cell (by decide), gi_cell (by decide), gi_cell (by decide), g7, g8, shl1 (by omega), shl1 (by omega), fa_or]
    rw [s82]
    generalize sm_si (sm_si (sm_si (sm_si h1 19 k (nI (dA D k))) 20 k (nI 0)) 21 k (nI (dP D k))) 22 k (nI (2 ^ dA D k ||| 2 ^ gBor (dG D) k)) = h2 at *
    have E2 : eqx (fun c _ => 18 ≤ c ∧ c ≤ 22) h h2 := E.tr (Ew.wk (fun c i w => by omega))
    have x7 : sm_gi h2 7 k = nI (dA D k) := (Ew.1 7 k (by omega)).trans g7
    have x10 : sm_gi h2 10 k = toI (gGol (dG D) k) := (Ew.1 10 k (by omega)).trans g10
    have x4 : sm_gi h2 18 4 = nI (rdD D k) := (Ew.1 18 4 (by omega)).trans g4
    have x5 : sm_gi h2 18 5 = nI 0 := (Ew.1 18 5 (by omega)).trans g5
    have er : rdD D (k + 1) = if decide (gGol (dG D) k = some (dA D k)) = true then rdD D k ||| 2 ^ k else rdD D k := bsN_step
    have fin : ∀ h3, eqx (fun c i => c = 18 ∧ i = 4) h2 h3 → sm_gi h3 18 4 = nI (rdD D (k + 1)) → ∃ h4, xe 2 98 109 [.ref 18, .ref 2, .int (nI k)] [] h3 = some ([], h4) ∧ cW h4 18 (gP (dG D)) (dW D) ∧ eqx (fun c _ => 18 ≤ c ∧ c ≤ 22) h h4 := fun h3 E3 g3 => by
      rw [b98_109, nI_add]
      have gg : ∀ c i, c ≠ 18 → sm_gi h3 c i = sm_gi h2 c i := fun c i w => E3.1 c i (by omega)
      refine c_begin_loop Wf hG hA m (k + 1) h3 (by omega) (fun p hp => ?_) (fun p hp => ?_) g3 ((E3.1 18 5 (by omega)).trans x5) (E2.tr (E3.wk (fun c i w => by omega)))
      · rw [gg _ _ (by decide), gg _ _ (by decide), gg _ _ (by decide)]
        by_cases z : p = k
        · rw [z]; exact ⟨w19, w20, w22⟩
        · rw [Ew.1 19 p (by omega), Ew.1 20 p (by omega), Ew.1 22 p (by omega)]
          exact a p (by omega)
      · rw [gg _ _ (by decide)]
        by_cases z : p = k
        · rw [z, if_pos (by omega)]; exact w21
        · rw [Ew.1 21 p (by omega), pp p hp]
          by_cases y : p < k
          · rw [if_pos y, if_pos (by omega)]
          · rw [if_neg y, if_neg (by omega)]
    rw [b98_82 isD2, if_pos i10, if_pos i7, ek, x10, x7]
    by_cases z : gGol (dG D) k = some (dA D k)
    · rw [if_pos (decide_eq_true z)] at er
      rw [if_pos (by rw [z]; rfl), b98_97 isW18, x4, shl1 (by omega), fa_or]
      exact fin _ (eqx.rf.si ⟨rfl, rfl⟩) (gi_same.trans (by rw [er]))
    · rw [if_neg (fun w => z (of_decide_eq_true w))] at er
      rw [if_neg (fun w => z ((gol_eq (fun g hg => by have := hbo.2 g hg; omega) (by omega)).mp w))]
      exact fin h2 eqx.rf (x4.trans (by rw [er]))
theorem c_begin {D : DG} (Wf : dWf D) (hG : cG h 2 (dG D)) (hA : ∀ p, p < gP (dG D) → sm_gi h 7 p = nI (dA D p) ∧ sm_gi h 9 p = nI (dP D p)) : ∃ h2, xc 98 [.ref 18, .ref 2] h = some ([], h2) ∧ cW h2 18 (gP (dG D)) (dW D) ∧ eqx (fun c _ => 18 ≤ c ∧ c ≤ 22) h h2 := by
  obtain ⟨h1, e1, f1, E1⟩ := c_fill (a := 21) (v := nI 0) (h := sm_si (sm_si h 18 4 (nI 0)) 18 5 (nI 0)) kd_21 ln_21 (by decide)
  have E0 : eqx (fun c _ => 18 ≤ c ∧ c ≤ 22) h h1 := (eqx.si (eqx.si eqx.rf (by omega)) (by omega)).tr (E1.wk (fun c i w => by omega))
  rw [en_98, b98_0 isW18, b98_5 isW18, b98_10 isW18, show 18 + 3 = 21 from rfl, e1, bnd]
  simp only [List.nil_append]
  rw [b98_18]
  exact c_begin_loop Wf hG hA (gP (dG D)) 0 h1 (by omega) (fun p hp => absurd hp (by omega)) (fun p hp => by rw [f1 p hp, if_neg (by omega)]) ((E1.1 18 4 (show ¬ (18 = 21) by decide)).trans ((gi_slot (by decide)).trans gi_same)) ((E1.1 18 5 (show ¬ (18 = 21) by decide)).trans gi_same) E0
end CLD
