/-! ===== image, restore: the class ===== -/
theorem rf125 : ∀ i, i < 2 → sm_rf 125 i = 126 + 16 * i := by decide +kernel
theorem rf158 : ∀ i, i < 2 → sm_rf 158 i = 159 + 5 * i := by decide +kernel
theorem isDi : ∀ i, i < 2 → sm_isD (126 + 16 * i) := by unfold sm_isD; decide +kernel
theorem isWi : ∀ i, i < 2 → sm_isW (159 + 5 * i) := by unfold sm_isW; decide +kernel
theorem isW18 : sm_isW 18 := isAB18.w
theorem in_125 {n : Nat} (hn : n < 2) : sm_in 125 (nI n) := (in_nI (by omega)).mpr (by rw [ln_125]; exact hn)
theorem in_158 {n : Nat} (hn : n < 2) : sm_in 158 (nI n) := (in_nI (by omega)).mpr (by rw [ln_158]; exact hn)
section IMC
variable {G : LG} {W : WG} {L : List WG} {B B' : Nat} {h : sm_H} {M : IG}
def sxIk : Nat → Nat → Prop := fun c k => (126 ≤ c ∧ c ≤ 168) ∨ (c = 0 ∧ k = 15)
theorem cS_far {S : Nat → Nat → Prop} {h2 : sm_H} (H : cS h G W L B) (E : eqx S h h2) (hS : ∀ c i, S c i → c < 2 ∨ 104 ≤ c) : cS h2 G W L B := ⟨cE_eqx H.1 E (fun c i z => by have := hS c i z; omega), cW_eqx H.2.1 E (fun c i z => by have := hS c i z; omega), H.2.2.1, cPast_eqx H.2.2.2.1 E (fun c i z => by have := hS c i z; omega), H.2.2.2.2⟩
theorem i2_cases {i : Int32} : (isN i.toInt64 2 ∧ ¬ i < 0 ∧ i < nI 2) ∨ (¬ isN i.toInt64 2 ∧ (i < 0 ∨ ¬ i < nI 2)) := by
  have w := isN_i32 (p := i) (P := 2) (by decide)
  by_cases z : isN i.toInt64 2
  · exact Or.inl ⟨z, by rw [Int32.not_lt]; exact (w.mpr z).1, (w.mpr z).2⟩
  · refine Or.inr ⟨z, ?_⟩
    by_cases y : i < 0
    · exact Or.inl y
    · exact Or.inr (fun x => z (w.mp ⟨by rw [Int32.not_lt] at y; exact y, x⟩))
theorem c_image {i ln : Int32} (S : cS h G W L B) (hM : cIm h B M) (hln : sm_gi h 2 1 = ln) : ∃ h2, xc 144 [.ref 0, .int i] h = some ([.int (dImg i)], h2) ∧ cS h2 G W L B ∧ cIm h2 B (tImg M G W ln i) ∧ eqx sxIk h h2 := by
  have hw := S.1.1
  have hP := hw.2.2.1
  rw [en_144, b144_0]
  unfold dImg tImg
  rcases (i2_cases (i := i)) with ⟨h1, y0, y1⟩ | ⟨h1, y⟩
  · rw [if_neg y0, b144_4, if_pos y1, if_pos h1, if_pos h1]
    obtain ⟨i, hi, rfl⟩ := isN_nI h1 (by omega)
    have ei : (nI i).toNatClampNeg = i := nI_clamp (by omega)
    have d1 := isDi i hi
    have w1 := isWi i hi
    rw [toN_nI (by omega), b144_12 (by rw [ei, rf125 i hi]; exact d1), if_pos (in_125 hi), ei, rf125 i hi]
    obtain ⟨h2, e2, g2, l2, E2⟩ := c_copyLand d1 isD2 d1.q10 d1.q13 isD2.q10 isD2.q13 (by omega) hw S.1.2.2.1
    rw [e2, bnd]
    simp only [List.nil_append]
    have S2 := cS_far S E2 (fun c k z => by unfold sxLd at z; omega)
    rw [b144_25 (by rw [ei, rf158 i hi]; exact w1), if_pos (in_158 hi), ei, rf158 i hi]
    obtain ⟨h3, e3, g3, E3⟩ := c_copyW (h := h2) w1 isW18 (by omega)
    rw [e3, bnd]
    simp only [List.nil_append]
    have S3 := cS_far S2 E3 (fun c k z => by unfold sxB at z; omega)
    obtain ⟨m, m4, gm, im⟩ := hM
    have gm3 : sm_gi h3 0 15 = nI m := (E3.1 0 15 (by unfold sxB; omega)).trans ((E2.1 0 15 (by unfold sxLd; omega)).trans gm)
    rw [b144_38, gm3, shl1 (by omega), fa_or, b144_50]
    have E4 : eqx (fun c k => c = 0 ∧ k = 15) h3 (sm_si h3 0 15 (nI (m ||| 2 ^ i))) := eqx.rf.si ⟨rfl, rfl⟩
    have hm4 : m ||| 2 ^ i < 4 := Nat.or_lt_two_pow (n := 2) m4 (Nat.pow_lt_pow_right (by decide) hi)
    refine ⟨_, rfl, cS_far S3 E4 (fun c k z => by omega), ⟨m ||| 2 ^ i, hm4, gi_same, fun u hu => ?_⟩, ((E2.wk (fun c k z => by unfold sxLd at z; unfold sxIk; omega)).tr (E3.wk (fun c k z => by unfold sxB at z; unfold sxIk; omega))).tr (E4.wk (fun c k z => Or.inr z))⟩
    unfold upI
    by_cases z : u = i
    · subst z
      rw [if_pos rfl]
      refine ⟨or_bit.mpr (Or.inr rfl), hw, S.1.2.1, S.2.2.1, cG_eqx (cG_eqx g2 E3 (fun c k z => by unfold sxB at z; omega)) E4 (fun c k z => by omega), cW_eqx (g3 _ _ hP S2.2.1) E4 (fun c k z => by omega), ?_⟩
      rw [E4.1 _ 1 (by omega), E3.1 _ 1 (by unfold sxB; omega), l2]
      exact hln
    · rw [if_neg z]
      have := im u hu
      have hbit : (m ||| 2 ^ i) / 2 ^ u % 2 = 1 ↔ m / 2 ^ u % 2 = 1 := by
        rw [or_bit]
        exact ⟨fun y => y.elim id (fun x => absurd x z), Or.inl⟩
      cases hq : M u with
      | none =>
        rw [hq] at this
        dsimp only at this ⊢
        omega
      | some q =>
        rw [hq] at this
        obtain ⟨c1, c2, c3, c4, c5, c6, c7⟩ := this
        have E24 : eqx (fun c k => sxLd (126 + 16 * i) c k ∨ sxB (159 + 5 * i) c k ∨ (c = 0 ∧ k = 15)) h (sm_si h3 0 15 (nI (m ||| 2 ^ i))) := ((E2.wk (fun c k z => Or.inl z)).tr (E3.wk (fun c k z => Or.inr (Or.inl z)))).tr (E4.wk (fun c k z => Or.inr (Or.inr z)))
        exact ⟨hbit.mpr c1, c2, c3, c4, cG_eqx c5 E24 (fun c k z => by unfold sxLd sxB at z; omega), cW_eqx c6 E24 (fun c k z => by unfold sxLd sxB at z; omega), (E24.1 _ 1 (by unfold sxLd sxB; omega)).trans c7⟩
  · have no : ∃ h2, xe 3 144 9 [.ref 0, .int i] [] h = some ([.int (-2)], h2) ∧ cS h2 G W L B ∧ cIm h2 B M ∧ eqx sxIk h h2 := ⟨h, by rw [b144_9], S, hM, eqx.rf⟩
    rw [if_neg h1, if_neg h1]
    by_cases y0 : i < 0
    · rw [if_pos y0]
      exact no
    · rw [if_neg y0, b144_4, if_neg (y.elim (fun z => absurd z y0) id)]
      exact no
def sxRk : Nat → Nat → Prop := fun c k => (2 ≤ c ∧ c < 17) ∨ (18 ≤ c ∧ c ≤ 22) ∨ c = 50 ∨ (c = 52 ∧ k = 1)
theorem keyN_lt {G : LG} (hx : wfX G) {p r t b pap : Nat} (hp : p < 6) (hr : r < gR G) (hb : gBri G r = true) (hb64 : b < 64) (hpap : pap ≤ 9) : keyN G p r t b pap < 6720 := by
  have h1 := nbr_lt hx hr hb
  have h2 := wayN_lt (G := G) (r := r) (t := t) (b := b)
  have h3 := pcnt6 b hb64
  unfold keyN
  omega
theorem c_restore {i ln : Int32} (S : cS h G W L B) (hM : cIm h B M) (hln : sm_gi h 2 1 = ln) : ∃ h2, xc 145 [.ref 0, .int i] h = some ([.int (dRes M i)], h2) ∧ cS h2 (tRes M G W L ln i).1 (tRes M G W L ln i).2.1 (tRes M G W L ln i).2.2.1 B ∧ cIm h2 B M ∧ sm_gi h2 2 1 = (tRes M G W L ln i).2.2.2 ∧ eqx sxRk h h2 := by
  rw [en_145, b145_0]
  unfold dRes tRes
  rcases (i2_cases (i := i)) with ⟨h1, y0, y1⟩ | ⟨h1, y⟩
  · rw [if_neg y0, b145_4, if_pos y1, if_pos h1, if_pos h1]
    obtain ⟨i, hi, rfl⟩ := isN_nI h1 (by omega)
    have ei : (nI i).toNatClampNeg = i := nI_clamp (by omega)
    have d1 := isDi i hi
    have w1 := isWi i hi
    have hM2 := hM
    obtain ⟨m, m4, gm, im⟩ := hM2
    rw [toN_nI (by omega), b145_12, gm, shr1 (by omega) (by omega)]
    have H := im i hi
    cases hq : M i with
    | none =>
      rw [hq] at H
      rw [if_pos (by rw [show m / 2 ^ i % 2 = 0 from H]; rfl), b145_23]
      exact ⟨h, rfl, S, hM, hln, eqx.rf⟩
    | some q =>
      rw [hq] at H
      obtain ⟨c1, c2, c3, c4, c5, c6, c7⟩ := H
      have hP := c2.2.2.1
      rw [if_neg (by rw [c1]; decide), b145_26, if_pos (in_125 hi), ei, rf125 i hi]
      obtain ⟨h2, e2, g2, l2, E2⟩ := c_copyLand isD2 d1 isD2.q10 isD2.q13 d1.q10 d1.q13 (by omega) c2 c5
      rw [e2, bnd]
      simp only [List.nil_append]
      rw [b145_39, if_pos (in_158 hi), ei, rf158 i hi]
      obtain ⟨h3, e3, g3, E3⟩ := c_copyW (h := h2) isW18 w1 (by omega)
      rw [e3, bnd]
      simp only [List.nil_append]
      rw [b145_52, en_43, b43_0]
      obtain ⟨h4, e4, f4, E4⟩ := c_fill (a := 50) (v := nI 0) (h := h3) kd_50 ln_50 (by decide)
      rw [e4, bnd]
      simp only [List.nil_append]
      rw [b43_8, bnd]
      simp only [List.nil_append]
      rw [b145_59, en_47, b47_0, b47_5, bnd]
      simp only [List.nil_append]
      rw [b145_66]
      have E5 : eqx (fun c k => c = 52 ∧ k = 1) h4 (sm_si h4 52 1 (nI 0)) := eqx.rf.si ⟨rfl, rfl⟩
      have c6' : cW h2 (159 + 5 * i) (gP q.1) q.2.1 := cW_eqx c6 E2 (fun c k z => by unfold sxLd at z; omega)
      have wW := g3 _ _ hP c6'
      obtain ⟨nx, p1, p2, p3⟩ := S.2.2.2.1
      have ES : eqx sxRk h (sm_si h4 52 1 (nI 0)) := (((E2.wk (fun c k z => by unfold sxLd at z; unfold sxRk; omega)).tr (E3.wk (fun c k z => by unfold sxB at z; unfold sxRk; omega))).tr (E4.wk (fun c k z => by unfold sxRk; omega))).tr (E5.wk (fun c k z => by unfold sxRk; omega))
      have E35 : eqx (fun c k => sxB 18 c k ∨ c = 50 ∨ (c = 52 ∧ k = 1)) h2 (sm_si h4 52 1 (nI 0)) := ((E3.wk (fun c k z => Or.inl z)).tr (E4.wk (fun c k z => Or.inr (Or.inl z)))).tr (E5.wk (fun c k z => Or.inr (Or.inr z)))
      refine ⟨_, rfl, ⟨⟨c2, c3, cG_eqx g2 E35 (fun c k z => by unfold sxB at z; omega), fun p r f t b pap hp hr hb _ hb64 hpap => Or.inl ?_⟩, cW_eqx (cW_eqx wW E4 (fun c k z => by omega)) E5 (fun c k z => by omega), c4, ⟨nx, p1, (ES.1 52 2 (by unfold sxRk; omega)).trans p2, gi_same, by simp, fun j hj => absurd hj (by simp)⟩, fun j hj => absurd hj (by simp)⟩, cIm_eqx hM ES (fun c k z => by unfold sxRk at z; omega), ?_, ES⟩
      · rw [E5.1 50 _ (by omega)]
        exact f4 _ (keyN_lt c3 (by omega) hr hb hb64 hpap)
      · rw [E35.1 2 1 (by unfold sxB; omega), l2]
        exact c7
  · have no : ∃ h2, xe 3 145 9 [.ref 0, .int i] [] h = some ([.int (-2)], h2) ∧ cS h2 G W L B ∧ cIm h2 B M ∧ sm_gi h2 2 1 = ln ∧ eqx sxRk h h2 := ⟨h, by rw [b145_9], S, hM, hln, eqx.rf⟩
    rw [if_neg h1, if_neg h1]
    by_cases y0 : i < 0
    · rw [if_pos y0]
      exact no
    · rw [if_neg y0, b145_4, if_neg (y.elim (fun z => absurd z y0) id)]
      exact no
end IMC
