/-! ===== lines are read: the model, laws and lines ===== -/
section MRQ
variable {b : Nat → Nat} {n nt k : Nat} {h : sm_H}
theorem mLw_ch2 {f f' : Nat → Int32} {L Nc : Nat} {o : Option (List Nat)} (H : mLw f L Nc o) (E : ∀ i, (i = 4 + L ∨ i = 6 + L ∨ i = 8 + L) ∨ (376 ≤ i ∧ i < 376 + Nc) → f' i = f i) : mLw f' L Nc o := by
  cases o with
  | none => exact (E _ (by omega)).trans H
  | some cs =>
    obtain ⟨h1, F, h2, h3, h4, h5⟩ := H
    exact ⟨(E _ (by omega)).trans h1, F, (E _ (by omega)).trans h2, (E _ (by omega)).trans h3, h4, fun k hk => (E _ (by omega)).trans (h5 k hk)⟩
theorem law_dr {f f' : Nat → Int32} {D : DG} {Nc L : Nat} {c : List Nat} (hR : gR (dG D) ≤ 12) (hP : gP (dG D) ≤ 6) (hL : L < 2) (M : mDr f D Nc (gR (dG D)) (gP (dG D))) (e0 : f' 375 = nI (Nc + c.length)) (e4 : f' (4 + L) = nI 1) (e6 : f' (6 + L) = nI Nc) (e8 : f' (8 + L) = nI c.length) (ec : ∀ j, j < c.length → f' (376 + Nc + j) = nI (c.getD j 0)) (F : ∀ i, i < 376 + Nc → i ≠ 375 → i ≠ 4 + L → i ≠ 6 + L → i ≠ 8 + L → f' i = f i) : mDr f' (if L = 0 then setL D c else setT D c) (Nc + c.length) (gR (dG D)) (gP (dG D)) := by
  obtain ⟨⟨x1, x2, x3, x4, x5, x6, x7, x8⟩, B, C, P, Q1, U, L1, L2⟩ := M
  have G : ∀ i, i < 375 → i < 4 ∨ 10 ≤ i → f' i = f i := fun i h1 h2 => F i (by omega) (by omega) (by omega) (by omega) (by omega)
  have A1 : f' 0 = nI (dL D) ∧ f' 1 = nI (gN (dG D)) ∧ f' 2 = nI (gR (dG D)) ∧ f' 3 = nI (gP (dG D)) ∧ f' 88 = nI 0 ∧ f' 89 = nI 0 ∧ f' 114 = nI 0 ∧ f' 375 = nI (Nc + c.length) := ⟨(G 0 (by omega) (by omega)).trans x1, (G 1 (by omega) (by omega)).trans x2, (G 2 (by omega) (by omega)).trans x3, (G 3 (by omega) (by omega)).trans x4, (G 88 (by omega) (by omega)).trans x5, (G 89 (by omega) (by omega)).trans x6, (G 114 (by omega) (by omega)).trans x7, e0⟩
  have A2 : ∀ r, r < gR (dG D) → f' (10 + r) = nI (gOne (dG D) r) ∧ f' (22 + r) = nI (gOth (dG D) r) ∧ f' (34 + r) = nI (gLon (dG D) r) ∧ f' (46 + r) = nI (if gBri (dG D) r then 1 else 0) ∧ f' (58 + r) = nI (gFlo (dG D) r) := fun r hr => by
    obtain ⟨y1, y2, y3, y4, y5⟩ := B r hr
    exact ⟨(G _ (by omega) (by omega)).trans y1, (G _ (by omega) (by omega)).trans y2, (G _ (by omega) (by omega)).trans y3, (G _ (by omega) (by omega)).trans y4, (G _ (by omega) (by omega)).trans y5⟩
  have A3 : ∀ r, gR (dG D) ≤ r → r < 12 → f' (46 + r) = nI 0 ∧ f' (58 + r) = nI 0 := fun r h1 h2 => by
    obtain ⟨y1, y2⟩ := C r h1 h2
    exact ⟨(G _ (by omega) (by omega)).trans y1, (G _ (by omega) (by omega)).trans y2⟩
  have A4 : ∀ p, p < gP (dG D) → f' (70 + p) = nI (gBor (dG D) p) ∧ f' (76 + p) = toI (gGol (dG D) p) ∧ f' (82 + p) = gBy (dG D) p ∧ f' (90 + p) = nI (dA D p) ∧ f' (102 + p) = nI (dP D p) ∧ f' (108 + p) = nI (2 ^ dA D p ||| 2 ^ gBor (dG D) p) := fun p hp => by
    obtain ⟨y1, y2, y3, y4, y5, y6⟩ := P p hp
    exact ⟨(G _ (by omega) (by omega)).trans y1, (G _ (by omega) (by omega)).trans y2, (G _ (by omega) (by omega)).trans y3, (G _ (by omega) (by omega)).trans y4, (G _ (by omega) (by omega)).trans y5, (G _ (by omega) (by omega)).trans y6⟩
  have A5 : ∀ p, gP (dG D) ≤ p → p < 6 → f' (76 + p) = -1 ∧ f' (82 + p) = -1 ∧ f' (102 + p) = nI 0 := fun p h1 h2 => by
    obtain ⟨y1, y2, y3⟩ := Q1 p h1 h2
    exact ⟨(G _ (by omega) (by omega)).trans y1, (G _ (by omega) (by omega)).trans y2, (G _ (by omega) (by omega)).trans y3⟩
  have A6 : ∀ p, p < 6 → f' (96 + p) = nI 0 := fun p hp => (G _ (by omega) (by omega)).trans (U p hp)
  have new : mLw f' L (Nc + c.length) (some c) := ⟨e4, Nc, e6, e8, Nat.le_refl _, ec⟩
  by_cases z : L = 0
  · subst z
    rw [if_pos rfl]
    exact ⟨A1, A2, A3, A4, A5, A6, new, mLw_up (mLw_ch2 L2 (fun i w => F i (by omega) (by omega) (by omega) (by omega) (by omega))) (by omega)⟩
  · have z1 : L = 1 := by omega
    subst z1
    rw [if_neg z]
    exact ⟨A1, A2, A3, A4, A5, A6, mLw_up (mLw_ch2 L1 (fun i w => F i (by omega) (by omega) (by omega) (by omega) (by omega))) (by omega), new⟩
theorem m_readLaw {D : DG} {Nc L y : Nat} {A : Nat → RR → Prop} (T : TKo (tK b n) (tV b n) nt) (hB : dB D) (hL : L < 2) (hA : rdM b n nt y 0 A) (hAd : ddM y 0) (hg : grw nt A) (hc : ∀ h' h2 : sm_H, sm_gi h' 173 375 = nI Nc → xc y [.ref 169, .int (nI 0)] h' = some ([], h2) → xe 80 173 18 [.ref 169, .int (nI L), .null] [] h' = xe 80 173 45 [.ref 169, .int (nI L), .int (nI Nc)] [] h2) (R : mR h b n k) (M : mDr (sm_gi h 173) D Nc (gR (dG D)) (gP (dG D))) (hN : Nc ≤ k) (hk : k ≤ nt) (z : tK b n k ≠ 0) : ∃ r h2, lwR (tK b n) A (fun c => if L = 0 then setL D c else setT D c) k r ∧ xc 173 [.ref 169, .int (nI L)] h = some ([], h2) ∧ lnO h2 b n nt k r ∧ eqx sxRf h h2 := by
  obtain ⟨-, hR, hP, -⟩ := hB
  have h900 := T.2.2.1
  have hk1 := T.s hk z
  obtain ⟨h1, e1, R1, E1⟩ := m_nextR R z
  have M1 := mDr_eqx M E1 n173N
  have s4 : xc 173 [.ref 169, .int (nI L)] h = xe 80 173 4 [.ref 169, .int (nI L), .null] [] h1 := by
    rw [en_173, b173_0, e1, bnd]
    simp only [List.nil_append]
  rw [s4, b173_4]
  unfold lwR
  rcases (m_eats R1 (c := 58) (v := 31) (by decide) (by decide) rfl).symm with ⟨y1, e2⟩ | ⟨y1, h2, e2, R2, E2⟩
  · obtain ⟨h3, e3, B3, E3⟩ := m_fails (e := 2) R1 (by omega)
    have g375 : sm_gi h3 173 375 = nI Nc := (E3.1 173 375 (by omega)).trans M1.1.2.2.2.2.2.2.2
    rw [e2, bnd]
    simp only [app1, List.cons_append, List.nil_append]
    rw [b173_10, if_pos (show nI 0 = 0 from rfl), b173_13, e3, bnd]
    simp only [List.nil_append]
    rw [hc h3 h3 g375 (hAd h3 B3.d), b173_45, if_neg B3.d, b173_52]
    exact ⟨.inl (2, k + 1), h3, by rw [if_pos y1], rfl, B3, (E1.wk sxN_Rf).tr (fl_f E3)⟩
  · have hk2 := T.s hk1 (show tK b n (k + 1) ≠ 0 by omega)
    have M2 := mDr_eqx M1 E2 n173N
    have g375 : sm_gi h2 173 375 = nI Nc := M2.1.2.2.2.2.2.2.2
    have E12 : eqx sxRf h h2 := (E1.wk sxN_Rf).tr (E2.wk sxN_Rf)
    obtain ⟨r, h3, a3, e3, o3⟩ := hA (k + 1 + 1) Nc h2 R2 g375 (by omega) hk2
    rw [e2, bnd]
    simp only [app1, List.cons_append, List.nil_append]
    rw [b173_10, if_neg (by decide), hc h2 h3 g375 e3, b173_45]
    rcases r with ⟨e, k'⟩ | ⟨k', c⟩
    · rw [if_neg o3.1.d, b173_52]
      exact ⟨.inl (e, k'), h3, by rw [if_neg (show ¬ tK b n (k + 1) ≠ 58 from fun w => w y1)]; exact ⟨_, a3, rfl⟩, rfl, o3.1, E12.tr (o3.2.wk sxRd_f)⟩
    · have hgr := hg.1 _ _ _ a3
      have hk' := hgr.2.2 hk2
      obtain ⟨R3, g3, c3, E3⟩ := o3
      have i375 : sm_in 173 (nI 375) := (in_173 (by decide)).mpr trivial
      have last : xe 80 173 53 [.ref 169, .int (nI L), .int (nI Nc)] [] h3 = some ([], sm_si (sm_si (sm_si h3 173 (4 + L) (nI 1)) 173 (6 + L) (nI Nc)) 173 (8 + L) (nI c.length)) := by
        rw [b173_53, nI_add, if_pos ((in_173 (by omega)).mpr trivial), nI_clamp (by omega), b173_62, nI_add, if_pos ((in_173 (by omega)).mpr trivial), nI_clamp (by omega), b173_72, nI_add, if_pos i375, if_pos ((in_173 (by omega)).mpr trivial), show (nI 375).toNatClampNeg = 375 from rfl, gi_slot (by omega), gi_slot (by omega), g3, pk_sub (show Nc ≤ Nc + c.length by omega), show Nc + c.length - Nc = c.length by omega, nI_clamp (by omega), b173_91]
      rw [R3.2.2, if_pos (show nI 0 = 0 from rfl), last]
      refine ⟨.inr (k', if L = 0 then setL D c else setT D c), _, by rw [if_neg (show ¬ tK b n (k + 1) ≠ 58 from fun w => w y1)]; exact ⟨_, a3, rfl⟩, rfl, ⟨by omega, hk', mR_173 (mR_173 (mR_173 R3)), Nc + c.length, by omega, ?_⟩, f_173 (f_173 (f_173 (E12.tr (E3.wk (fun c i w => by unfold sxRo at w; unfold sxRf; omega)))))⟩
      have := law_dr (f' := sm_gi (sm_si (sm_si (sm_si h3 173 (4 + L) (nI 1)) 173 (6 + L) (nI Nc)) 173 (8 + L) (nI c.length)) 173) hR hP hL M2 ((gi_slot (by omega)).trans ((gi_slot (by omega)).trans ((gi_slot (by omega)).trans g3))) ((gi_slot (by omega)).trans ((gi_slot (by omega)).trans gi_same)) ((gi_slot (by omega)).trans gi_same) gi_same (fun j hj => (gi_slot (by omega)).trans ((gi_slot (by omega)).trans ((gi_slot (by omega)).trans (c3 j hj)))) (fun i w1 w2 w3 w4 w5 => (gi_slot w5).trans ((gi_slot w4).trans ((gi_slot w3).trans (E3.1 173 i (by unfold sxRo; omega)))))
      by_cases w : L = 0
      · rw [if_pos w] at this ⊢; exact this
      · rw [if_neg w] at this ⊢; exact this
theorem m_readLine {D : DG} {Nc : Nat} (T : TKo (tK b n) (tV b n) nt) (hB : dB D) (R : mR h b n k) (M : mDr (sm_gi h 173) D Nc (gR (dG D)) (gP (dG D))) (hN : Nc ≤ k) (hk : k ≤ nt) : ∃ r h2, bdR (tK b n) (tV b n) D k r ∧ xc 174 [.ref 169] h = some ([], h2) ∧ lnO h2 b n nt k r ∧ eqx sxRf h h2 := by
  have i375 : sm_in 173 (nI 375) := (in_173 (by decide)).mpr trivial
  have g9 : sm_gi h 169 9 = nI (mKd (tK b n k)) := R.2.1.2.2.1
  rw [en_174, b174_0, R.2.2, if_pos (show nI 0 = 0 from rfl), b174_8, m_is R (c := 201) (v := 1) (by decide) rfl, bnd]
  simp only [app1, List.cons_append, List.nil_append]
  rw [b174_13]
  unfold bdR
  by_cases z1 : tK b n k = 201
  · obtain ⟨r, h2, a2, e2, o2, E2⟩ := m_readRoad T hB R M hN hk z1
    refine ⟨r, h2, by rw [if_pos z1]; exact a2, ?_, o2, E2⟩
    rw [if_neg (by rw [bI_z]; exact fun y => y z1), b174_16, e2, bnd]
    simp only [List.nil_append]
    rw [b174_20, b174_76]
  rw [if_pos (show bI (tK b n k = 201) = 0 by rw [bI_z]; exact z1), b174_23, m_is R (c := 202) (v := 6) (by decide) rfl, bnd]
  simp only [app1, List.cons_append, List.nil_append]
  rw [b174_29]
  by_cases z2 : tK b n k = 202
  · obtain ⟨r, h2, a2, e2, o2, E2⟩ := m_readPerson T hB R M hN hk z2
    refine ⟨r, h2, by rw [if_neg z1, if_pos z2]; exact a2, ?_, o2, E2⟩
    rw [if_neg (by rw [bI_z]; exact fun y => y z2), b174_32, e2, bnd]
    simp only [List.nil_append]
    rw [b174_36, b174_76]
  rw [if_pos (show bI (tK b n k = 202) = 0 by rw [bI_z]; exact z2), b174_39, m_is R (c := 203) (v := 11) (by decide) rfl, bnd]
  simp only [app1, List.cons_append, List.nil_append]
  rw [b174_45]
  by_cases z3 : tK b n k = 203
  · obtain ⟨r, h2, a2, e2, o2, E2⟩ := m_readLaw (L := 0) T hB (by decide) (mTruth T) (m_readTruth_d (by decide) (m_readBoth_d (by decide) (m_readUnit_d (by decide) (mSum_d 0 (by decide))))) (TrD_grw T 6) (fun h' h2 g e => by rw [b173_18, if_pos i375, if_neg (by decide), show (nI 375).toNatClampNeg = 375 from rfl, g, b173_40 (by rw [rk168 (by decide)]; decide), e, bnd]; simp only [List.nil_append]) R M hN hk (by omega)
    refine ⟨r, h2, by rw [if_neg z1, if_neg z2, if_pos z3]; exact a2, ?_, o2, E2⟩
    rw [if_neg (by rw [bI_z]; exact fun y => y z3), b174_57, g9, z3, show nI (mKd 203) - nI 11 = nI 0 from rfl, e2, bnd]
    simp only [List.nil_append]
    rw [b174_68, b174_76]
  rw [if_pos (show bI (tK b n k = 203) = 0 by rw [bI_z]; exact z3), b174_48, m_is R (c := 204) (v := 12) (by decide) rfl, bnd]
  simp only [app1, List.cons_append, List.nil_append]
  rw [b174_54]
  by_cases z4 : tK b n k = 204
  · obtain ⟨r, h2, a2, e2, o2, E2⟩ := m_readLaw (L := 1) T hB (by decide) (mSum0 T) (mSum_d 0 (by decide)) (AtD_grw T 6).1 (fun h' h2 g e => by rw [b173_18, if_pos i375, if_pos rfl, show (nI 375).toNatClampNeg = 375 from rfl, g, b173_32 (by rw [rk165 (by decide)]; decide), e, bnd]; simp only [List.nil_append]; rw [b173_37]) R M hN hk (by omega)
    refine ⟨r, h2, by rw [if_neg z1, if_neg z2, if_neg z3, if_pos z4]; exact a2, ?_, o2, E2⟩
    rw [if_neg (by rw [bI_z]; exact fun y => y z4), b174_57, g9, z4, show nI (mKd 204) - nI 11 = nI 1 from rfl, e2, bnd]
    simp only [List.nil_append]
    rw [b174_68, b174_76]
  · obtain ⟨h2, e2, B2, E2⟩ := m_fails (e := 2) R (by omega)
    refine ⟨.inl (2, k), h2, by rw [if_neg z1, if_neg z2, if_neg z3, if_neg z4], ?_, B2, fl_f E2⟩
    rw [if_pos (by rw [bI_z]; exact z4), b174_71, e2, bnd]
    simp only [List.nil_append]
    rw [b174_76]
end MRQ
