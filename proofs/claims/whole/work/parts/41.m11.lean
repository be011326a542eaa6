/-! ===== the model: deeds done, told in trays, drawn ===== -/
theorem lN_toInt32 {k : Nat} : (lN k).toInt32 = nI k := lN_i k
theorem m1_i : ((-1 : Int64).toInt32) = -1 := by decide +kernel
theorem wfW.giv {G : LG} {B p q n : Nat} {W : WG} (h : wfW G B W) (hp : p < gP G) (hq : q < gP G) (hn : wPap W q + n ≤ 9) : wfW G B (giveW W p q n) := by
  have := h.2.2.1 p hp
  exact (h.pap hp (by omega)).pap hq hn
theorem wfW.forg {G : LG} {B p : Nat} {W : WG} (h : wfW G B W) (hp : p < gP G) (h9 : wPap W p ≠ 9) : wfW G (B + 3) (forgeW W p) := by
  have := h.2.2.1 p hp
  exact (h.pap hp (by omega)).day (by omega) (by omega)
theorem wfW.xor {G : LG} {B r : Nat} {W : WG} (h : wfW G B W) (hr : r < 12) : wfW G B (sSh W (wSh W ^^^ 2 ^ r)) := h.sh (Nat.xor_lt_two_pow (n := 12) h.1 (Nat.pow_lt_pow_right (by decide) hr))
theorem doV_wf {G : LG} {B : Nat} {W : WG} {v : Int64} (hw : wfG G) (h : wfW G B W) (h0 : whyV G W v = 0) : wfW G (B + 20) (doV G W v) := by
  have hR := hw.2.1
  have hP := hw.2.2.1
  rcases whyV_ok hw h0 with rfl | ⟨k, t, hk, rfl, h1, h2, ht, htol, htN⟩ | ⟨k, hk1, hk2, rfl, h1, h2, h3, h4, h5, h6⟩ | ⟨k, hk1, hk2, rfl, h1, h2⟩ | ⟨k, hk1, hk2, rfl, h1⟩
  · unfold doV
    rw [if_pos rfl]
    exact (h.days (n := 1)).mono (by omega)
  · unfold doV
    rw [if_neg (lN_m1 (by omega)), lN_toInt (by omega), Int.toNat_natCast, if_pos (by omega), ht]
    exact h.go hw h1 h2 htN
  · unfold doV
    rw [if_neg (lN_m1 (by omega)), lN_toInt (by omega), Int.toNat_natCast, if_neg (by omega), if_pos (by omega)]
    exact (h.giv h1 h2 h6).mono (by omega)
  · unfold doV
    rw [if_neg (lN_m1 (by omega)), lN_toInt (by omega), Int.toNat_natCast, if_neg (by omega), if_neg (by omega), if_pos (by omega)]
    exact (h.forg h1 h2).mono (by omega)
  · unfold doV
    rw [if_neg (lN_m1 (by omega)), lN_toInt (by omega), Int.toNat_natCast, if_neg (by omega), if_neg (by omega), if_neg (by omega)]
    exact (h.xor (by omega)).mono (by omega)
theorem m_does {G : LG} {W : WG} {B : Nat} {h : sm_H} {v : Int64} (hw : wfG G) (hG : mG (sm_gi h 170) G) (hW : mW (sm_gi h 170) 88 (gP G) W) (hww : wfW G B W) (hpl : sm_gi h 169 15 = -1) (h0 : whyV G W v = 0) :
    ∃ h2, xc 213 [.ref 169, .int v.toInt32] h = some ([], h2) ∧ mW (sm_gi h2 170) 88 (gP G) (doV G W v) ∧ eqx sxD h h2 := by
  have hR := hw.2.1
  have hP := hw.2.2.1
  rw [en_213, b213_0]
  rcases whyV_ok hw h0 with rfl | ⟨k, t, hk, rfl, h1, h2, ht, htol, htN⟩ | ⟨k, hk1, hk2, rfl, h1, h2, h3, h4, h5, h6⟩ | ⟨k, hk1, hk2, rfl, h1, h2⟩ | ⟨k, hk1, hk2, rfl, h1⟩
  · rw [if_pos m1_i, b213_5]
    obtain ⟨h2, e2, W2, E2⟩ := m_goesDay hw hG hW
    rw [e2, bnd]
    simp only [List.nil_append, b213_9, b213_103]
    refine ⟨h2, rfl, ?_, E2⟩
    unfold doV
    rw [if_pos rfl]
    exact W2
  · rw [lN_i, if_neg (by rw [nI_m1 (by omega)]; exact id), b213_12, if_neg (by rw [nI_leI (by decide) (by omega)]; omega), b213_19, pk_div (by omega) (by decide) (by decide), show nI k - nI (k / 100) * nI 100 = nI (k % 100) by rw [← pk_div (by omega) (by decide) (by decide)]; exact pk_rem (by omega) (by decide) (by decide)]
    obtain ⟨h2, e2, W2, E2⟩ := m_goes hG hw hW hww hpl h1 h2 ht htol
    rw [e2, bnd]
    simp only [List.nil_append, b213_31, b213_103]
    refine ⟨h2, rfl, ?_, E2⟩
    unfold doV
    rw [if_neg (lN_m1 (by omega)), lN_toInt (by omega), Int.toNat_natCast, if_pos (by omega), ht]
    exact W2
  · rw [lN_i, if_neg (by rw [nI_m1 (by omega)]; exact id), b213_12, if_pos (by rw [nI_leI (by decide) (by omega)]; omega), b213_34, if_neg (by rw [nI_leI (by decide) (by omega)]; omega), b213_41, pk_sub hk1, pk_div (by omega) (by decide) (by decide), pk_div (by omega) (by decide) (by decide), show nI (k / 10) - nI (k / 10) / nI 10 * nI 10 = nI (k / 10 % 10) from pk_rem (by omega) (by decide) (by decide), show nI k - nI (k / 10) * nI 10 = nI (k % 10) by rw [← pk_div (by omega) (by decide) (by decide)]; exact pk_rem (by omega) (by decide) (by decide)]
    obtain ⟨h2, e2, W2, E2⟩ := m_gives (n := k % 10) hw hW (by omega : (k - 1000) / 100 < 6) (by omega : k / 10 % 10 < 6) h3 h5
    rw [e2, bnd]
    simp only [List.nil_append, b213_64, b213_103]
    refine ⟨h2, rfl, ?_, E2⟩
    unfold doV
    rw [if_neg (lN_m1 (by omega)), lN_toInt (by omega), Int.toNat_natCast, if_neg (by omega), if_pos (by omega)]
    exact W2
  · rw [lN_i, if_neg (by rw [nI_m1 (by omega)]; exact id), b213_12, if_pos (by rw [nI_leI (by decide) (by omega)]; omega), b213_34, if_pos (by rw [nI_leI (by decide) (by omega)]; omega), b213_67, if_neg (by rw [nI_leI (by decide) (by omega)]; omega), b213_74, pk_sub hk1]
    obtain ⟨h2, e2, W2, E2⟩ := m_forges hw hW h1
    rw [e2, bnd]
    simp only [List.nil_append, b213_83, b213_103]
    refine ⟨h2, rfl, ?_, E2⟩
    unfold doV
    rw [if_neg (lN_m1 (by omega)), lN_toInt (by omega), Int.toNat_natCast, if_neg (by omega), if_neg (by omega), if_pos (by omega)]
    exact W2
  · rw [lN_i, if_neg (by rw [nI_m1 (by omega)]; exact id), b213_12, if_pos (by rw [nI_leI (by decide) (by omega)]; omega), b213_34, if_pos (by rw [nI_leI (by decide) (by omega)]; omega), b213_67, if_pos (by rw [nI_leI (by decide) (by omega)]; omega), b213_86, pk_sub hk1]
    simp (disch := omega) only [in_170, if_true, nI_clamp, shl1, b213_103]
    rw [hW.1, nx_xor]
    refine ⟨_, rfl, ?_, eqx.rf.si (by unfold sxD; omega)⟩
    unfold doV
    rw [if_neg (lN_m1 (by omega)), lN_toInt (by omega), Int.toNat_natCast, if_neg (by omega), if_neg (by omega), if_neg (by omega)]
    exact hW.sh gi_same (fun i hi => gi_slot hi)
/-- deeds till one can't be done: how many, why it stopped, the world then -/
def tellF (G : LG) (W : WG) : List Int64 → Nat × Nat × WG
  | [] => (0, 0, W)
  | v :: r => if whyV G W v = 0 then ((tellF G (doV G W v) r).1 + 1, (tellF G (doV G W v) r).2) else (0, whyV G W v, W)
theorem whyV_le {G : LG} {W : WG} {v : Int64} : whyV G W v ≤ 5 := by
  unfold whyV
  split
  · omega
  · split
    · unfold whyG
      split
      · exact whyF_le
      · omega
    · split
      · have := whyGi_le (G := G) (W := W) (p := (v - 1000) / 100) (q := v / 10 - v / 10 / 10 * 10) (n := v - v / 10 * 10)
        omega
      · split
        · unfold whyFo
          repeat' split
          all_goals omega
        · split <;> omega
def sxT : Nat → Nat → Prop := fun c i => sxD c i ∨ (c = 169 ∧ i = 19)
theorem sxD_T : ∀ c i, sxD c i → sxT c i := fun _ _ h => Or.inl h
theorem sxL_T : ∀ c i, sxL c i → sxT c i := fun c i h => Or.inl (sxL_D c i h)
theorem mS_D {G : LG} {W W' : WG} {L : List WG} {B B' : Nat} {h h2 : sm_H} (S : mS h G W L B) (E : eqx sxT h h2) (hW : mW (sm_gi h2 170) 88 (gP G) W') (hw : wfW G B' W') (hB : B ≤ B') : mS h2 G W' L B' := by
  obtain ⟨a1, a2, a3, a4, a5, a6, a7⟩ := S
  have e170 : ∀ i, (i < 88 ∨ 114 ≤ i) → sm_gi h2 170 i = sm_gi h 170 i := fun i hi => E.1 170 i (by unfold sxT sxD; omega)
  exact ⟨a1, mG_eq a1 (fun i hi => e170 i (by omega)) a2, hW, hw, mPast_eq a1.2.2.1 (fun i h1 _ => e170 i (by omega)) a5, fun j hj => (a6 j hj).mono hB, by rw [E.1 169 15 (by unfold sxT sxD; omega)]; exact a7⟩
theorem in_185 {n : Nat} (hn : n < 4) : sm_in 185 (nI n) ↔ True := iff_true_intro ((in_nI (by omega)).mpr hn)
theorem in_184 {n : Nat} (hn : n < 4) : sm_in 184 (nI n) ↔ True := iff_true_intro ((in_nI (by omega)).mpr hn)
theorem in_186 {n : Nat} (hn : n < 160) : sm_in 186 (nI n) ↔ True := iff_true_intro ((in_nI (by omega)).mpr hn)
theorem m_tells_loop {G : LG} {L : List WG} {h : sm_H} {tr n : Nat} {f : Nat → Int64} (htr : tr < 4) (hn : n ≤ 40) (hm : sm_gi h 185 tr = nI n) (hf : ∀ k, k < n → sm_gl h 186 (40 * tr + k) = f k) : ∀ (vs : List Int64) (k B : Nat) (W : WG) (h1 : sm_H), k + vs.length = n → (∀ j, j < vs.length → f (k + j) = vs.getD j 0) → mS h1 G W L B → eqx sxT h h1 →
    ∃ h2, xe 7 214 7 [.ref 169, .int (nI tr), .int (nI k)] [] h1 = some ([.int (nI (k + (tellF G W vs).1))], h2) ∧ (vs ≠ [] → sm_gi h2 169 19 = nI (tellF G W vs).2.1) ∧ (vs = [] → sm_gi h2 169 19 = sm_gi h1 169 19) ∧ mS h2 G (tellF G W vs).2.2 L (B + 20 * vs.length) ∧ eqx sxT h h2
  | [], k, B, W, h1, e, hv, S, E => by
    have hk : k = n := by simpa using e
    subst hk
    have hm1 := (E.1 185 tr (by unfold sxT sxD; omega)).trans hm
    rw [b214_7]
    simp (disch := omega) only [in_185, if_true, nI_clamp, hm1]
    rw [if_pos (Int32.le_refl _), b214_67]
    simp (disch := omega) only [in_185, if_true, nI_clamp, hm1]
    exact ⟨h1, rfl, fun q => absurd rfl q, fun _ => rfl, S, E⟩
  | v :: vs, k, B, W, h1, e, hv, S, E => by
    simp only [List.length_cons] at e
    have hm1 := (E.1 185 tr (by unfold sxT sxD; omega)).trans hm
    have hv0 : sm_gl h1 186 (40 * tr + k) = v := by
      rw [E.2.1 186 _ (by unfold sxT sxD; omega), hf k (by omega)]
      have := hv 0 (by simp)
      simpa using this
    rw [b214_7]
    simp (disch := omega) only [in_185, if_true, nI_clamp, hm1]
    rw [if_neg (by rw [nI_leI (by omega) (by omega)]; omega), b214_17]
    simp (disch := omega) only [pk_mul, nI_add, in_186, if_true, nI_clamp, hv0]
    obtain ⟨h2, e2, E2⟩ := m_whyNot (v := v) S
    have S2 := mS_L S E2
    rw [e2, bnd]
    simp only [app1, List.cons_append, List.nil_append]
    rw [b214_33, b214_36, gi_same]
    have hle := whyV_le (G := G) (W := W) (v := v)
    have E3 : eqx sxT h (sm_si h2 169 19 (nI (whyV G W v))) := (E.tr (E2.wk sxL_T)).si (Or.inr ⟨rfl, rfl⟩)
    have S3 : mS (sm_si h2 169 19 (nI (whyV G W v))) G W L B := by
      refine mS_D S2 (eqx.rf.si (Or.inr ⟨rfl, rfl⟩)) ?_ S2.2.2.2.1 (Nat.le_refl B)
      rw [show sm_gi (sm_si h2 169 19 (nI (whyV G W v))) 170 = sm_gi h2 170 from funext fun i => gi_cell (by decide)]
      exact S2.2.2.1
    unfold tellF
    by_cases h0 : whyV G W v = 0
    · rw [if_pos (by rw [nI_z (by omega)]; exact h0), if_pos h0, b214_45]
      have hv1 : sm_gl (sm_si h2 169 19 (nI (whyV G W v))) 186 (40 * tr + k) = v := by rw [gl_si, E2.2.1 186 _ (by unfold sxL; omega)]; exact hv0
      simp (disch := omega) only [pk_mul, nI_add, in_186, if_true, nI_clamp, hv1]
      obtain ⟨h4, e4, W4, E4⟩ := m_does S3.1 S3.2.1 S3.2.2.1 S3.2.2.2.1 S3.2.2.2.2.2.2 h0
      rw [e4, bnd]
      simp only [List.nil_append]
      rw [b214_61, nI_add]
      have S4 := mS_D S3 (E4.wk sxD_T) W4 (doV_wf S3.1 S3.2.2.2.1 h0) (by omega)
      obtain ⟨h5, e5, a5, b5, S5, E5⟩ := m_tells_loop htr hn hm hf vs (k + 1) (B + 20) (doV G W v) h4 (by omega) (fun j hj => by
        have := hv (j + 1) (by simp; omega)
        rw [show k + 1 + j = k + (j + 1) by omega, this]; rfl) S4 (E3.tr (E4.wk sxD_T))
      refine ⟨h5, ?_, fun _ => ?_, fun q => (by cases q), S5.mono (by simp only [List.length_cons]; omega), E5⟩
      · rw [e5]
        rw [show k + 1 + (tellF G (doV G W v) vs).1 = k + ((tellF G (doV G W v) vs).1 + 1) by omega]
      · by_cases z : vs = []
        · rw [b5 z, E4.1 169 19 (by unfold sxD; omega), gi_same, h0, z]; rfl
        · exact a5 z
    · rw [if_neg (by rw [nI_z (by omega)]; exact h0), if_neg h0, b214_43]
      exact ⟨_, rfl, fun _ => gi_same, fun q => (by cases q), S3.mono (by omega), E3⟩
