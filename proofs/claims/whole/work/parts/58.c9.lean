/-! ===== the class: what was, kept; deeds as calls ===== -/
theorem eqx.cp {S : Nat → Nat → Prop} {h h1 : sm_H} {a sp b dp n : Nat} (E : eqx S h h1) (w : ∀ i, S b i) : eqx S h (sm_cp h1 a sp b dp n) := E.tr ⟨fun c' i' q => by
    rw [gi_cp]
    by_cases z : c' = b
    · exact absurd (by rw [z]; exact w i') q
    · rw [if_neg z], fun _ _ _ => rfl, rfl⟩
theorem gi_cpn {h : sm_H} {c' i' a sp b dp n : Nat} (hc : c' ≠ b) : sm_gi (sm_cp h a sp b dp n) c' i' = sm_gi h c' i' := by rw [gi_cp, if_neg hc]
theorem gi_cp0 {h : sm_H} {i' a b n : Nat} (hi : i' < n) : sm_gi (sm_cp h a 0 b 0 n) b i' = sm_gi h a i' := by rw [gi_cp, if_pos rfl, if_pos ⟨Nat.zero_le _, by omega⟩, Nat.zero_add, Nat.sub_zero]
theorem c_copyW {o a : Nat} {h : sm_H} (ho : sm_isW o) (ha : sm_isW a) (hd : a + 5 ≤ o ∨ o + 5 ≤ a) : ∃ h2, xc 99 [.ref o, .ref a] h = some ([], h2) ∧ (∀ P W, P ≤ 6 → cW h a P W → cW h2 o P W) ∧ eqx (sxB o) h h2 := by
  rw [en_99, b99_0 ha ho, if_pos (by rw [ha.ln1, ho.ln1]; decide +kernel), b99_15 ha ho, if_pos (by rw [ha.ln2, ho.ln2]; decide +kernel), b99_30 ha ho, if_pos (by rw [ha.ln3, ho.ln3]; decide +kernel), b99_45 ha ho, if_pos (by rw [ha.ln4, ho.ln4]; decide +kernel), b99_60 ha ho, b99_68 ha ho, b99_76]
  rw [show (nI 0).toNatClampNeg = 0 from nI_clamp (by decide), show (nI 6).toNatClampNeg = 6 from nI_clamp (by decide)]
  refine ⟨_, rfl, fun P W hP hW => ?_, ?_⟩
  · obtain ⟨w1, w2, w3, w4⟩ := hW
    refine ⟨?_, ?_, fun p hp => ⟨?_, ?_, ?_⟩, fun p hp => ?_⟩
    · simp (disch := omega) only [gi_same, gi_cell, gi_slot, gi_cpn]; exact w1
    · simp (disch := omega) only [gi_same, gi_cell, gi_slot, gi_cpn]; exact w2
    · simp (disch := omega) only [gi_same, gi_cell, gi_slot, gi_cpn, gi_cp0]; exact (w3 p hp).1
    · simp (disch := omega) only [gi_same, gi_cell, gi_slot, gi_cpn, gi_cp0]; exact (w3 p hp).2.1
    · simp (disch := omega) only [gi_same, gi_cell, gi_slot, gi_cpn, gi_cp0]; exact (w3 p hp).2.2
    · simp (disch := omega) only [gi_same, gi_cell, gi_slot, gi_cpn, gi_cp0]; exact w4 p hp
  · refine eqx.si (eqx.si (eqx.cp (eqx.cp (eqx.cp (eqx.cp eqx.rf ?_) ?_) ?_) ?_) ?_) ?_ <;> (try intro i) <;> unfold sxB <;> omega
/-- what can be come back to, in the class: a ring of ten -/
def cPast (h : sm_H) (P : Nat) (L : List WG) : Prop := ∃ nx, nx < 10 ∧ sm_gi h 52 2 = nI nx ∧ sm_gi h 52 1 = nI L.length ∧ L.length ≤ 10 ∧ ∀ j, j < L.length → cW h (54 + 5 * ((nx + 10 - L.length + j) % 10)) P (L.getD j W0)
theorem rf53 : ∀ j, j < 10 → sm_rf 53 j = 54 + 5 * j := by decide +kernel
theorem isWk : ∀ j, j < 10 → sm_isW (54 + 5 * j) := by unfold sm_isW; decide +kernel
def sx52 : Nat → Nat → Prop := fun c _ => 52 ≤ c ∧ c ≤ 103
theorem cPast_eqx {S : Nat → Nat → Prop} {h h2 : sm_H} {P : Nat} {L : List WG} (H : cPast h P L) (E : eqx S h h2) (hS : ∀ c i, S c i → c < 52 ∨ 104 ≤ c) : cPast h2 P L := by
  obtain ⟨nx, a1, a2, a3, a4, a5⟩ := H
  exact ⟨nx, a1, (E.1 52 2 (fun z => by have := hS _ _ z; omega)).trans a2, (E.1 52 1 (fun z => by have := hS _ _ z; omega)).trans a3, a4, fun j hj => cW_eqx (a5 j hj) E (fun c i z => by have := hS _ _ z; have := Nat.mod_lt (nx + 10 - L.length + j) (show 0 < 10 by decide); omega)⟩
theorem getD_tail {L : List WG} {j : Nat} : L.tail.getD j W0 = L.getD (j + 1) W0 := by cases L with | nil => rfl | cons a l => rfl
theorem getD_snoc {L : List WG} {W : WG} {j : Nat} (hj : j < L.length) : (L ++ [W]).getD j W0 = L.getD j W0 := by
  rw [List.getD_eq_getElem?_getD, List.getElem?_append_left hj, ← List.getD_eq_getElem?_getD]
theorem getD_last {L : List WG} {W : WG} : (L ++ [W]).getD L.length W0 = W := by
  rw [List.getD_eq_getElem?_getD, List.getElem?_append_right (Nat.le_refl _), Nat.sub_self]; rfl
theorem c_keep {a P : Nat} {L : List WG} {W : WG} {h : sm_H} (ha : isAB a) (hP : P ≤ 6) (H : cPast h P L) (hW : cW h a P W) :
    ∃ h2, xc 48 [.ref 52, .ref a] h = some ([], h2) ∧ cPast h2 P (pushL L W) ∧ eqx sx52 h h2 := by
  obtain ⟨nx, hnx, e2, e1, hL, hw⟩ := H
  have hr : sm_rf 53 (sm_gi h 52 2).toNatClampNeg = 54 + 5 * nx := by rw [e2, nI_clamp (by omega), rf53 nx hnx]
  rw [en_48, b48_0 (by rw [hr]; exact isWk nx hnx), hr, e2, if_pos ((in_nI (by omega)).mpr (by rw [ln_53]; exact hnx))]
  obtain ⟨h1, e3, W3, E3⟩ := c_copyW (o := 54 + 5 * nx) (a := a) (h := h) (isWk nx hnx) ha.w (by rcases ha with rfl | rfl <;> omega)
  rw [e3, bnd]
  simp only [List.nil_append]
  have g2 : sm_gi h1 52 2 = nI nx := (E3.1 52 2 (by unfold sxB; omega)).trans e2
  have g1 : sm_gi h1 52 1 = nI L.length := (E3.1 52 1 (by unfold sxB; omega)).trans e1
  rw [b48_13, g2, nI_add, pk_rem (by omega) (by decide) (by decide), b48_26, c_min, bnd]
  simp only [app1, List.cons_append, List.nil_append]
  rw [b48_38, b48_41, gi_slot (by decide), g1, nI_add]
  refine ⟨_, rfl, ?_, ?_⟩
  · have hn : (if nI (L.length + 1) ≤ nI 10 then nI (L.length + 1) else nI 10) = nI (pushL L W).length := by
      unfold pushL
      by_cases q : L.length = 10
      · rw [if_pos q, if_neg (by rw [nI_leI (by omega) (by decide)]; omega)]
        simp [q]
      · rw [if_neg q, if_pos (by rw [nI_leI (by omega) (by decide)]; omega)]
        simp
    rw [hn]
    have hW1 : ∀ v w c Q V, 54 ≤ c → cW h1 c Q V → cW (sm_si (sm_si h1 52 2 v) 52 1 w) c Q V := fun v w c Q V hc H => cW_eqx H (eqx.si (S := fun c _ => c = 52) (eqx.si eqx.rf rfl) rfl) (fun c' i z => by omega)
    have hold : ∀ j, j < L.length → (nx + 10 - L.length + j) % 10 ≠ nx → cW h1 (54 + 5 * ((nx + 10 - L.length + j) % 10)) P (L.getD j W0) := fun j hj hne => cW_eqx (hw j hj) E3 (fun c i z => by unfold sxB at z; omega)
    refine ⟨(nx + 1) % 10, Nat.mod_lt _ (by decide), by rw [gi_slot (by decide), gi_same], gi_same, ?_, fun j hj => hW1 _ _ _ _ _ (by omega) ?_⟩
    · unfold pushL
      by_cases q : L.length = 10
      · rw [if_pos q]; simp [q]
      · rw [if_neg q]; simp; omega
    · unfold pushL at hj ⊢
      by_cases q : L.length = 10
      · rw [if_pos q] at hj ⊢
        have ht : L.tail.length = 9 := by simp [q]
        have hl : (L.tail ++ [W]).length = 10 := by simp [q]
        rw [hl] at hj ⊢
        by_cases z : j = 9
        · subst z
          rw [show (9 : Nat) = L.tail.length from ht.symm, getD_last, ht, show ((nx + 1) % 10 + 10 - 10 + 9) % 10 = nx by omega]
          exact W3 P W hP hW
        · rw [getD_snoc (by rw [ht]; omega), getD_tail]
          have := hold (j + 1) (by omega) (by rw [q]; omega)
          rw [q] at this
          rw [show ((nx + 1) % 10 + 10 - 10 + j) % 10 = (nx + 10 - 10 + (j + 1)) % 10 by omega]
          exact this
      · rw [if_neg q] at hj ⊢
        simp only [List.length_append, List.length_cons, List.length_nil, Nat.zero_add] at hj ⊢
        by_cases z : j = L.length
        · subst z
          rw [getD_last, show ((nx + 1) % 10 + 10 - (L.length + 1) + L.length) % 10 = nx by omega]
          exact W3 P W hP hW
        · rw [getD_snoc (by omega), show ((nx + 1) % 10 + 10 - (L.length + 1) + j) % 10 = (nx + 10 - L.length + j) % 10 by omega]
          exact hold j (by omega) (by omega)
  · exact ((E3.wk (fun c i z => by unfold sxB at z; unfold sx52; omega)).si (by unfold sx52; omega)).si (by unfold sx52; omega)
theorem c_bringBack {n P : Nat} {L : List WG} {h : sm_H} (hP : P ≤ 6) (H : cPast h P L) (h1n : 1 ≤ n) (hn : n ≤ L.length) :
    ∃ h2, xc 49 [.ref 52, .ref 18, .int (nI n)] h = some ([], h2) ∧ cPast h2 P (L.take (L.length - n)) ∧ cW h2 18 P (L.getD (L.length - n) W0) ∧ eqx (fun c i => sxB 18 c i ∨ sx52 c i) h h2 := by
  obtain ⟨nx, hnx, e2, e1, hL, hw⟩ := H
  rw [en_49, b49_0, e2, nI_add, pk_sub (by omega), pk_rem (by omega) (by decide) (by decide)]
  have hlt : (nx + 10 - n) % 10 < 10 := Nat.mod_lt _ (by decide)
  rw [b49_16 (isAB.w (Or.inl rfl)), gi_same, if_pos ((in_nI (by omega)).mpr (by rw [ln_53]; exact hlt)), nI_clamp (by omega), rf53 _ hlt]
  have E0 : eqx (fun c _ => c = 52) h (sm_si h 52 2 (nI ((nx + 10 - n) % 10))) := eqx.rf.si rfl
  obtain ⟨h1, e3, W3, E3⟩ := c_copyW (o := 18) (a := 54 + 5 * ((nx + 10 - n) % 10)) (h := sm_si h 52 2 (nI ((nx + 10 - n) % 10))) (isAB.w (Or.inl rfl)) (isWk _ hlt) (by omega)
  rw [e3, bnd]
  simp only [List.nil_append]
  have g1 : sm_gi h1 52 1 = nI L.length := ((E3.1 52 1 (by unfold sxB; omega)).trans (gi_slot (by decide))).trans e1
  have g2 : sm_gi h1 52 2 = nI ((nx + 10 - n) % 10) := (E3.1 52 2 (by unfold sxB; omega)).trans gi_same
  rw [b49_29, g1, pk_sub hn, b49_39]
  have E1 : eqx (fun c _ => c = 52) h1 (sm_si h1 52 1 (nI (L.length - n))) := eqx.rf.si rfl
  have hwo : ∀ j, j < L.length → cW (sm_si h1 52 1 (nI (L.length - n))) (54 + 5 * ((nx + 10 - L.length + j) % 10)) P (L.getD j W0) := fun j hj => cW_eqx (cW_eqx (cW_eqx (hw j hj) E0 (fun c i z => by omega)) E3 (fun c i z => by unfold sxB at z; omega)) E1 (fun c i z => by omega)
  refine ⟨_, rfl, ⟨(nx + 10 - n) % 10, hlt, by rw [gi_slot (by decide)]; exact g2, by rw [gi_same]; simp, by simp; omega, fun j hj => ?_⟩, ?_, ?_⟩
  · simp only [List.length_take] at hj ⊢
    have hm : min (L.length - n) L.length = L.length - n := by omega
    rw [hm] at hj ⊢
    rw [show (L.take (L.length - n)).getD j W0 = L.getD j W0 by rw [List.getD_eq_getElem?_getD, List.getD_eq_getElem?_getD, List.getElem?_take, if_pos hj], show ((nx + 10 - n) % 10 + 10 - (L.length - n) + j) % 10 = (nx + 10 - L.length + j) % 10 by omega]
    exact hwo j (by omega)
  · refine cW_eqx (W3 P _ hP ?_) E1 (fun c i z => by omega)
    have := cW_eqx (hw (L.length - n) (by omega)) E0 (fun c i z => by omega)
    rw [show (nx + 10 - L.length + (L.length - n)) % 10 = (nx + 10 - n) % 10 by omega] at this
    exact this
  · exact ((E0.wk (fun c i z => by unfold sx52; omega)).tr (E3.wk (fun c i z => Or.inl z))).tr (E1.wk (fun c i z => by unfold sx52; omega))
/-- the class's state: land, laws, world, past -/
def cS (h : sm_H) (G : LG) (W : WG) (L : List WG) (B : Nat) : Prop := cE h G ∧ cW h 18 (gP G) W ∧ wfW G B W ∧ cPast h (gP G) L ∧ ∀ j, j < L.length → wfW G B (L.getD j W0)
theorem cS.mono {G : LG} {W : WG} {L : List WG} {B B' : Nat} {h : sm_H} (S : cS h G W L B) (hB : B ≤ B') : cS h G W L B' := ⟨S.1, S.2.1, S.2.2.1.mono hB, S.2.2.2.1, fun j hj => (S.2.2.2.2 j hj).mono hB⟩
/-- what deeds may change in the class -/
def sxQ : Nat → Nat → Prop := fun c _ => c = 14 ∨ c = 17 ∨ (18 ≤ c ∧ c ≤ 27) ∨ (49 ≤ c ∧ c ≤ 103)
theorem sxA_Q {a : Nat} (ha : isAB a) : ∀ c i, sxA a c i → sxQ c i := fun c i z => by unfold sxA at z; unfold sxQ; rcases ha with rfl | rfl <;> omega
theorem sxC_Q {a : Nat} (ha : isAB a) : ∀ c i, sxC a c i → sxQ c i := fun c i z => by unfold sxC sxA at z; unfold sxQ; rcases ha with rfl | rfl <;> omega
theorem sx52_Q : ∀ c i, sx52 c i → sxQ c i := fun c i z => by unfold sx52 at z; unfold sxQ; omega
theorem sxB_Q {a : Nat} (ha : isAB a) : ∀ c i, sxB a c i → sxQ c i := fun c i z => by unfold sxB at z; unfold sxQ; rcases ha with rfl | rfl <;> omega
theorem isAB18 : isAB 18 := Or.inl rfl
theorem isAB23 : isAB 23 := Or.inr rfl
/-- the world copied ahead of a deed -/
theorem c_before {G : LG} {W : WG} {L : List WG} {B : Nat} {h : sm_H} (S : cS h G W L B) : ∃ h2, xc 99 [.ref 23, .ref 18] h = some ([], h2) ∧ cS h2 G W L B ∧ cW h2 23 (gP G) W ∧ eqx (sxB 23) h h2 := by
  obtain ⟨h2, e2, W2, E2⟩ := c_copyW (o := 23) (a := 18) (h := h) isAB23.w isAB18.w (by omega)
  exact ⟨h2, e2, ⟨cE_eqx S.1 E2 (fun c i z => by unfold sxB at z; omega), cW_eqx S.2.1 E2 (fun c i z => by unfold sxB at z; omega), S.2.2.1, cPast_eqx S.2.2.2.1 E2 (fun c i z => by unfold sxB at z; omega), S.2.2.2.2⟩, W2 _ _ S.1.1.2.2.1 S.2.1, E2⟩
/-- what was is kept behind a deed -/
theorem c_after {G : LG} {W W' : WG} {L : List WG} {B B' : Nat} {h h1 h2 : sm_H} (S : cS h1 G W L B) (hB : B ≤ B') (E1 : eqx sxQ h h1) (hb : cW h1 23 (gP G) W) (hE : cE h2 G) (hW : cW h2 18 (gP G) W') (hww : wfW G B' W') (X : eqx (sxC 18) h1 h2) :
    ∃ h3, xc 48 [.ref 52, .ref 23] h2 = some ([], h3) ∧ cS h3 G W' (pushL L W) B' ∧ eqx sxQ h h3 := by
  obtain ⟨h3, e3, P3, X3⟩ := c_keep isAB23 S.1.1.2.2.1 (cPast_eqx S.2.2.2.1 X (fun c i z => by unfold sxC sxA at z; omega)) (cW_eqx hb X (fun c i z => by unfold sxC sxA at z; omega))
  exact ⟨h3, e3, ⟨cE_eqx hE X3 (fun c i z => by unfold sx52 at z; omega), cW_eqx hW X3 (fun c i z => by unfold sx52 at z; omega), hww, P3, pushL_wf (fun j hj => (S.2.2.2.2 j hj).mono hB) (S.2.2.1.mono hB)⟩, (E1.tr (X.wk (sxC_Q isAB18))).tr (X3.wk sx52_Q)⟩
theorem cS_of {G : LG} {W W' : WG} {L : List WG} {B B' : Nat} {h1 h2 : sm_H} (S : cS h1 G W L B) (hB : B ≤ B') (hE : cE h2 G) (hW : cW h2 18 (gP G) W') (hww : wfW G B' W') (X : eqx (sxC 18) h1 h2) : cS h2 G W' L B' := ⟨hE, hW, hww, cPast_eqx S.2.2.2.1 X (fun c i z => by unfold sxC sxA at z; omega), fun j hj => (S.2.2.2.2 j hj).mono hB⟩
theorem c_why {G : LG} {W : WG} {L : List WG} {B : Nat} {h : sm_H} {p r : Int32} (S : cS h G W L B) : ∃ h2, xc 107 [.ref 0, .int p, .int r] h = some ([.int (nI (whyG G W p.toInt64 r.toInt64))], h2) ∧ cS h2 G W L B ∧ eqx sxQ h h2 := by
  obtain ⟨h2, e2, E2, W2, X2⟩ := c_whyNotGo (p := p) (r := r) isAB18 S.1 S.2.1 S.2.2.1
  rw [en_107, b107_0, e2, bnd]
  simp only [app1, List.cons_append, List.nil_append, b107_13]
  exact ⟨h2, rfl, cS_of S (Nat.le_refl B) E2 W2 S.2.2.1 (X2.wk (fun c i z => Or.inl (sxP_A c i z))), X2.wk (fun c i z => sxA_Q isAB18 c i (sxP_A c i z))⟩
theorem c_go {G : LG} {W : WG} {L : List WG} {B : Nat} {h : sm_H} {p r : Int32} (S : cS h G W L B) : ∃ h2, xc 109 [.ref 0, .int p, .int r] h = some ([.int (dGo G W L p r).1], h2) ∧ cS h2 G (dGo G W L p r).2.1 (dGo G W L p r).2.2 (B + 20) ∧ eqx sxQ h h2 := by
  obtain ⟨h1, e1, S1, b1, E1⟩ := c_before S
  have hw := S.1.1
  have hP := hw.2.2.1
  have hR := hw.2.1
  obtain ⟨h2, e2, E2, W2, X2⟩ := c_tryGo (p := p) (r := r) isAB18 S1.1 S1.2.1 S1.2.2.1
  rw [en_109, b109_0, e1, bnd]
  simp only [List.nil_append]
  rw [b109_11, e2, bnd]
  simp only [app1, List.cons_append, List.nil_append]
  have hle := whyG_le (G := G) (W := W) (p := p.toInt64) (r := r.toInt64)
  rw [b109_24]
  unfold dGo
  by_cases h0 : whyG G W p.toInt64 r.toInt64 = 0
  · rw [if_pos h0] at W2
    rw [if_pos (by rw [nI_z (by omega)]; exact h0), if_pos h0, b109_34]
    obtain ⟨j, i, t, hj, hi, rfl, rfl, ht, htol, htN⟩ := whyG_ok (B := B) hw h0
    rw [toN_nI (by omega), toN_nI (by omega), ht] at W2
    rw [toN_nI (by omega), toN_nI (by omega), ht]
    obtain ⟨h3, e3, S3, X3⟩ := c_after S1 (Nat.le_add_right B 20) (E1.wk (sxB_Q isAB23)) b1 E2 W2 (wfW.go hw S1.2.2.1 hj hi htN) (X2.wk sxA_C)
    rw [e3, bnd]
    simp only [List.nil_append]
    rw [b109_45, c_hasPerson isD2 S3.1.2.2.1.1.2.2.1 (by omega), bnd]
    simp only [app1, List.cons_append, List.nil_append]
    rw [b109_53, if_neg (by rw [bI_z]; exact fun z => z (isN_i hj (by omega))), b109_56, if_pos ((in_nI (by omega)).mpr (by rw [ln_19]; omega)), nI_clamp (by omega), b109_69]
    refine ⟨h3, ?_, S3, X3⟩
    rw [(S3.2.1.2.2.1 j hj).1]
    congr 4
    refine congrArg nI ?_
    show wAt (errW _ _ _) j = t
    unfold errW
    split <;> exact upN_s
  · rw [if_neg h0] at W2
    rw [if_neg (by rw [nI_z (by omega)]; exact h0), if_neg h0, b109_29]
    exact ⟨h2, rfl, (cS_of S1 (Nat.le_refl B) E2 W2 S1.2.2.1 (X2.wk sxA_C)).mono (by omega), (E1.wk (sxB_Q isAB23)).tr (X2.wk (sxA_Q isAB18))⟩
theorem c_give {G : LG} {W : WG} {L : List WG} {B : Nat} {h : sm_H} {p q n : Int32} (S : cS h G W L B) : ∃ h2, xc 110 [.ref 0, .int p, .int q, .int n] h = some ([.int (dGive G W L p q n).1], h2) ∧ cS h2 G (dGive G W L p q n).2.1 (dGive G W L p q n).2.2 B ∧ eqx sxQ h h2 := by
  obtain ⟨h1, e1, S1, b1, E1⟩ := c_before S
  have hw := S.1.1
  have hP := hw.2.2.1
  have hR := hw.2.1
  obtain ⟨h2, e2, E2, W2, X2⟩ := c_tryGive (p := p) (q := q) (n := n) isAB18 S1.1 S1.2.1 S1.2.2.1
  rw [en_110, b110_0, e1, bnd]
  simp only [List.nil_append]
  rw [b110_11, e2, bnd]
  simp only [app1, List.cons_append, List.nil_append]
  have hle := whyGi_le (G := G) (W := W) (p := p.toInt64) (q := q.toInt64) (n := n.toInt64)
  rw [b110_25]
  unfold dGive
  by_cases h0 : whyGi G W p.toInt64 q.toInt64 n.toInt64 = 0
  · rw [if_pos h0] at W2
    rw [if_pos (by rw [nI_z (by omega)]; exact h0), if_pos h0, b110_38]
    obtain ⟨j, i, m, hj, hi, hne, hm1, hm9, rfl, rfl, rfl, hat, hjm, him⟩ := whyGi_ok hP h0
    rw [toN_nI (by omega), toN_nI (by omega), toN_nI (by omega)] at W2
    rw [toN_nI (by omega), toN_nI (by omega), toN_nI (by omega)]
    obtain ⟨h3, e3, S3, X3⟩ := c_after S1 (Nat.le_refl B) (E1.wk (sxB_Q isAB23)) b1 E2 W2 ((S1.2.2.1.pap hj (by have := S1.2.2.1.2.2.1 j hj; omega)).pap hi (by omega)) (X2.wk sxA_C)
    rw [e3, bnd]
    simp only [List.nil_append]
    rw [b110_49, c_hasPerson isD2 S3.1.2.2.1.1.2.2.1 (by omega), bnd]
    simp only [app1, List.cons_append, List.nil_append]
    rw [b110_57, if_neg (by rw [bI_z]; exact fun z => z (isN_i hi (by omega))), b110_60, if_pos ((in_nI (by omega)).mpr (by rw [ln_21]; omega)), nI_clamp (by omega), b110_73]
    refine ⟨h3, ?_, S3, X3⟩
    rw [S3.2.1.2.2.2 i (by omega)]
    congr 4
    refine congrArg nI ?_
    exact upN_s
  · rw [if_neg h0] at W2
    rw [if_neg (by rw [nI_z (by omega)]; exact h0), if_neg h0, b110_32]
    exact ⟨h2, rfl, cS_of S1 (Nat.le_refl B) E2 W2 S1.2.2.1 (X2.wk sxA_C), (E1.wk (sxB_Q isAB23)).tr (X2.wk (sxA_Q isAB18))⟩
