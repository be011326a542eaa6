/-! ===== floods: the class ===== -/
theorem cop_two {d p : Nat} (hp : p = 2 ∨ p = 5) (h : ¬ p ∣ d) : Nat.Coprime d p := by
  have h1 := Nat.gcd_dvd_right d p
  have h2 : Nat.gcd d p ≤ p := Nat.le_of_dvd (by omega) h1
  have h3 : 0 < Nat.gcd d p := Nat.gcd_pos_of_pos_right _ (by omega)
  have h4 : ¬ Nat.gcd d p = p := fun z => h (z ▸ Nat.gcd_dvd_left d p)
  have h5 := Nat.mod_eq_zero_of_dvd h1
  show Nat.gcd d p = 1
  generalize Nat.gcd d p = g at *
  rcases hp with rfl | rfl
  · omega
  · rcases (show g = 1 ∨ g = 2 ∨ g = 3 ∨ g = 4 by omega) with rfl | rfl | rfl | rfl <;> omega
theorem low_gcd {A c g a b : Nat} (hA : A = g * a) (hb : 10 ^ c = g * b) (h2 : ¬ (2 ∣ a ∧ 2 ∣ b)) (h5 : ¬ (5 ∣ a ∧ 5 ∣ b)) : Nat.gcd A (10 ^ c) = g := by
  have hd : Nat.gcd a b = 1 := by
    have z2 : ¬ 2 ∣ Nat.gcd a b := fun z => h2 ⟨Nat.dvd_trans z (Nat.gcd_dvd_left _ _), Nat.dvd_trans z (Nat.gcd_dvd_right _ _)⟩
    have z5 : ¬ 5 ∣ Nat.gcd a b := fun z => h5 ⟨Nat.dvd_trans z (Nat.gcd_dvd_left _ _), Nat.dvd_trans z (Nat.gcd_dvd_right _ _)⟩
    have c2 := (cop_two (Or.inl rfl) z2).pow_right c
    have c5 := (cop_two (Or.inr rfl) z5).pow_right c
    have cc := c2.mul_right c5
    rw [← Nat.mul_pow] at cc
    have hdv : Nat.gcd a b ∣ (2 * 5) ^ c := by
      rw [show (2 * 5) ^ c = g * b from hb]
      exact Nat.dvd_trans (Nat.gcd_dvd_right _ _) (Nat.dvd_mul_left _ _)
    exact cc.eq_one_of_dvd hdv
  rw [hA, hb, Nat.gcd_mul_left, hd, Nat.mul_one]
theorem no13 : ∀ c, c < 13 → ¬ 2 ^ 13 ∣ 10 ^ c ∧ ¬ 5 ^ 13 ∣ 10 ^ c := by decide
section CDRY
variable {G : LG} {W : WG} {L : List WG} {B B' : Nat} {h : sm_H}
def sx113 : Nat → Nat → Prop := fun c _ => c = 113
theorem sx113_W : ∀ c i, sx113 c i → sxW c i := fun c i z => by unfold sx113 at z; unfold sxW; omega
def sxF5 : Nat → Nat → Prop := fun c i => c = 109 ∨ (c = 104 ∧ i = 18) ∨ c = 113
theorem sxF5_W : ∀ c i, sxF5 c i → sxW c i := fun c i z => by unfold sxF5 at z; unfold sxW; omega
theorem c_weigh_loop {w : List Nat} {b : Nat} {l1 : Int32} {h0 : sm_H} (hE : cE h0 G) (hb : b < 4096) (hbit : ∀ r, b / 2 ^ r % 2 = 1 ↔ r ∈ w) : ∀ (m k : Nat) (h1 : sm_H), k + m = gR G → sm_gl h1 113 5 = lN (dyA (inB w) (gFlo G) k) → sm_gl h1 113 6 = lN (10 ^ cntB (inB w) k) → eqx sx113 h0 h1 → ∃ h2, xe 4 17 21 [.ref 113, .int l1, .int (nI b), .int (nI k)] [] h1 = some ([], h2) ∧ sm_gl h2 113 5 = lN (drX G w) ∧ sm_gl h2 113 6 = lN (drY G w) ∧ eqx sx113 h0 h2
  | 0, k, h1, e, g5, g6, E => by
    have : k = gR G := by omega
    subst this
    have c1 := cE_eqx hE E (fun c i z => by unfold sx113 at z; omega)
    rw [b17_21, show sm_gi h1 2 2 = nI (gR G) from c1.2.2.1.1.2.1, if_pos (Int32.le_refl _), b17_81]
    exact ⟨h1, rfl, g5, g6, E⟩
  | m + 1, k, h1, e, g5, g6, E => by
    have c1 := cE_eqx hE E (fun c i z => by unfold sx113 at z; omega)
    have hR := hE.1.2.1
    have hfl := (hE.1.2.2.2.1 k (by omega)).2.2.2.2.2
    have hgf : sm_gi h1 6 k = nI (gFlo G k) := (c1.2.2.1.2.1 k (by omega)).2.2.2
    have ih := c_weigh_loop (l1 := l1) hE hb hbit m (k + 1)
    rw [dyA_succ, cntB_succ] at ih
    rw [b17_21, show sm_gi h1 2 2 = nI (gR G) from c1.2.2.1.1.2.1, if_neg (by rw [nI_leI (by omega) (by omega)]; omega), b17_32, shr1 (by omega) (by omega)]
    by_cases q : b / 2 ^ k % 2 = 1
    · have hP : inB w k = true := decide_eq_true ((hbit k).mp q)
      rw [if_pos hP, if_pos hP] at ih
      rw [if_pos (by rw [q]), b17_41, if_pos (in_c (by rw [ln_6]; omega) (by omega)), nI_clamp (by omega), hgf, pk_sub hfl, nI_l (by omega), g5, lN_mul, b17_63, gl_slot (by decide), g6, show (10 : Int64) = lN 10 from rfl, lN_mul, ← Nat.pow_succ, b17_75, nI_add]
      refine ih _ (by omega) ?_ gl_same (E.tr ((eqx.rf.sl (by unfold sx113; rfl)).sl (by unfold sx113; rfl)))
      rw [gl_slot (by decide), gl_same]
    · have hP : ¬ inB w k = true := fun z => q ((hbit k).mpr (of_decide_eq_true z))
      rw [if_neg hP, if_neg hP] at ih
      rw [if_neg (by rw [nI_eq (by omega) (by decide)]; exact q), b17_75, nI_add]
      exact ih h1 (by omega) g5 g6 E
theorem c_weighFloods {p mk sh f : Nat} {x0 : XS} {D : Nat → Option (List Nat)} {w : List Nat} (Q : cQ h G sh none p false mk x0) (F : FS h G sh none p false x0 D) (hf : f < gN G) (hb : bW G sh none p x0 0 f = some w) : ∃ h2, xc 17 [.ref 113, .int (nI f)] h = some ([], h2) ∧ sm_gl h2 113 5 = lN (drX G w) ∧ sm_gl h2 113 6 = lN (drY G w) ∧ eqx sxF5 h h2 := by
  obtain ⟨b, h2, e2, hb2, hbit, E2⟩ := c_roadsTo Q F hf
  rw [hb] at hbit
  rw [en_17, b17_0, e2, bnd]
  simp only [app1, List.cons_append, List.nil_append]
  rw [b17_8, b17_14, b17_19]
  have E3 : eqx sx113 h2 (sm_sl (sm_sl h2 113 5 1) 113 6 1) := (eqx.rf.sl (by unfold sx113; rfl)).sl (by unfold sx113; rfl)
  obtain ⟨h4, e4, a4, b4, E4⟩ := c_weigh_loop (l1 := nI f) (w := w) (cE_J Q.1 E2) hb2 hbit (gR G) 0 (sm_sl (sm_sl h2 113 5 1) 113 6 1) (by omega) (by rw [gl_slot (by decide), gl_same]; rfl) (by rw [gl_same]; rfl) E3
  rw [e4]
  exact ⟨h4, rfl, a4, b4, (E2.wk (fun c i z => by unfold sxJ at z; unfold sxF5; omega)).tr (E4.wk (fun c i z => by unfold sx113 at z; unfold sxF5; omega))⟩
theorem c_low2 : ∀ (m k a b : Nat) (h1 : sm_H), k + m = 12 → sm_gl h1 113 5 = lN a → sm_gl h1 113 6 = lN b → a < 2 ^ 63 → b < 2 ^ 63 → ¬ 2 ^ (m + 1) ∣ b → ∃ h2 a' b' g j, xe 1 18 2 [.ref 113, .int (nI k)] [] h1 = xe 1 18 64 [.ref 113, .int j] [] h2 ∧ sm_gl h2 113 5 = lN a' ∧ sm_gl h2 113 6 = lN b' ∧ a = g * a' ∧ b = g * b' ∧ ¬ (2 ∣ a' ∧ 2 ∣ b') ∧ eqx sx113 h1 h2
  | 0, k, a, b, h1, e, g5, g6, ha, hb, hd => by
    have : k = 12 := by omega
    subst this
    rw [b18_2, if_pos (Int32.le_refl _)]
    exact ⟨h1, a, b, 1, nI 12, rfl, g5, g6, by omega, by omega, fun z => hd (by rw [show 2 ^ (0 + 1) = 2 from rfl]; exact z.2), eqx.rf⟩
  | m + 1, k, a, b, h1, e, g5, g6, ha, hb, hd => by
    rw [b18_2, if_neg (by rw [nI_leI (by omega) (by omega)]; omega), b18_8, g6, show (2 : Int64) = lN 2 from rfl, l_rem hb (by decide) (by decide)]
    by_cases zb : 2 ∣ b
    · rw [if_pos (by rw [lg_cmp_eq, l_z (by omega)]; exact Nat.mod_eq_zero_of_dvd zb), b18_21, g5, show (2 : Int64) = lN 2 from rfl, l_rem ha (by decide) (by decide)]
      by_cases za : 2 ∣ a
      · rw [if_pos (by rw [lg_cmp_eq, l_z (by omega)]; exact Nat.mod_eq_zero_of_dvd za), b18_34, g6, show (2 : Int64) = lN 2 from rfl, l_div hb (by decide) (by decide), b18_46, gl_slot (by decide), g5, show (2 : Int64) = lN 2 from rfl, l_div ha (by decide) (by decide), b18_58, nI_add]
        have E5 : eqx sx113 h1 (sm_sl (sm_sl h1 113 6 (lN (b / 2))) 113 5 (lN (a / 2))) := (eqx.rf.sl (by unfold sx113; rfl)).sl (by unfold sx113; rfl)
        obtain ⟨h2, a', b', g, j, e2, i1, i2, i3, i4, i5, E2⟩ := c_low2 m (k + 1) (a / 2) (b / 2) (sm_sl (sm_sl h1 113 6 (lN (b / 2))) 113 5 (lN (a / 2))) (by omega) gl_same (by rw [gl_slot (by decide), gl_same]) (by omega) (by omega) (fun z => hd (by
          rw [Nat.pow_succ]
          have := Nat.mul_dvd_mul_right z 2
          rw [Nat.div_mul_cancel zb] at this
          exact this))
        refine ⟨h2, a', b', 2 * g, j, e2, i1, i2, ?_, ?_, i5, E5.tr E2⟩
        · rw [Nat.mul_assoc, ← i3, Nat.mul_div_cancel' za]
        · rw [Nat.mul_assoc, ← i4, Nat.mul_div_cancel' zb]
      · rw [if_neg (by rw [lg_cmp_eq, l_z (by omega)]; exact fun z => za (Nat.dvd_of_mod_eq_zero z))]
        exact ⟨h1, a, b, 1, _, rfl, g5, g6, by omega, by omega, fun z => za z.1, eqx.rf⟩
    · rw [if_neg (by rw [lg_cmp_eq, l_z (by omega)]; exact fun z => zb (Nat.dvd_of_mod_eq_zero z))]
      exact ⟨h1, a, b, 1, _, rfl, g5, g6, by omega, by omega, fun z => zb z.2, eqx.rf⟩
theorem c_low5 : ∀ (m k a b : Nat) (h1 : sm_H), k + m = 12 → sm_gl h1 113 5 = lN a → sm_gl h1 113 6 = lN b → a < 2 ^ 63 → b < 2 ^ 63 → ¬ 5 ^ (m + 1) ∣ b → ∃ h2 a' b' g j, xe 1 18 66 [.ref 113, .int (nI k)] [] h1 = xe 1 18 128 [.ref 113, .int j] [] h2 ∧ sm_gl h2 113 5 = lN a' ∧ sm_gl h2 113 6 = lN b' ∧ a = g * a' ∧ b = g * b' ∧ ¬ (5 ∣ a' ∧ 5 ∣ b') ∧ eqx sx113 h1 h2
  | 0, k, a, b, h1, e, g5, g6, ha, hb, hd => by
    have : k = 12 := by omega
    subst this
    rw [b18_66, if_pos (Int32.le_refl _)]
    exact ⟨h1, a, b, 1, nI 12, rfl, g5, g6, by omega, by omega, fun z => hd (by rw [show 5 ^ (0 + 1) = 5 from rfl]; exact z.2), eqx.rf⟩
  | m + 1, k, a, b, h1, e, g5, g6, ha, hb, hd => by
    rw [b18_66, if_neg (by rw [nI_leI (by omega) (by omega)]; omega), b18_72, g6, show (5 : Int64) = lN 5 from rfl, l_rem hb (by decide) (by decide)]
    by_cases zb : 5 ∣ b
    · rw [if_pos (by rw [lg_cmp_eq, l_z (by omega)]; exact Nat.mod_eq_zero_of_dvd zb), b18_85, g5, show (5 : Int64) = lN 5 from rfl, l_rem ha (by decide) (by decide)]
      by_cases za : 5 ∣ a
      · rw [if_pos (by rw [lg_cmp_eq, l_z (by omega)]; exact Nat.mod_eq_zero_of_dvd za), b18_98, g6, show (5 : Int64) = lN 5 from rfl, l_div hb (by decide) (by decide), b18_110, gl_slot (by decide), g5, show (5 : Int64) = lN 5 from rfl, l_div ha (by decide) (by decide), b18_122, nI_add]
        have E5 : eqx sx113 h1 (sm_sl (sm_sl h1 113 6 (lN (b / 5))) 113 5 (lN (a / 5))) := (eqx.rf.sl (by unfold sx113; rfl)).sl (by unfold sx113; rfl)
        obtain ⟨h2, a', b', g, j, e2, i1, i2, i3, i4, i5, E2⟩ := c_low5 m (k + 1) (a / 5) (b / 5) (sm_sl (sm_sl h1 113 6 (lN (b / 5))) 113 5 (lN (a / 5))) (by omega) gl_same (by rw [gl_slot (by decide), gl_same]) (by omega) (by omega) (fun z => hd (by
          rw [Nat.pow_succ]
          have := Nat.mul_dvd_mul_right z 5
          rw [Nat.div_mul_cancel zb] at this
          exact this))
        refine ⟨h2, a', b', 5 * g, j, e2, i1, i2, ?_, ?_, i5, E5.tr E2⟩
        · rw [Nat.mul_assoc, ← i3, Nat.mul_div_cancel' za]
        · rw [Nat.mul_assoc, ← i4, Nat.mul_div_cancel' zb]
      · rw [if_neg (by rw [lg_cmp_eq, l_z (by omega)]; exact fun z => za (Nat.dvd_of_mod_eq_zero z))]
        exact ⟨h1, a, b, 1, _, rfl, g5, g6, by omega, by omega, fun z => za z.1, eqx.rf⟩
    · rw [if_neg (by rw [lg_cmp_eq, l_z (by omega)]; exact fun z => zb (Nat.dvd_of_mod_eq_zero z))]
      exact ⟨h1, a, b, 1, _, rfl, g5, g6, by omega, by omega, fun z => zb z.2, eqx.rf⟩
theorem c_lowerFloods {w : List Nat} (hw : wfG G) (g5 : sm_gl h 113 5 = lN (drX G w)) (g6 : sm_gl h 113 6 = lN (drY G w)) : ∃ h2, xc 18 [.ref 113] h = some ([], h2) ∧ sm_gl h2 113 5 = lN (drX G w / Nat.gcd (drX G w) (drY G w)) ∧ sm_gl h2 113 6 = lN (drY G w / Nat.gcd (drX G w) (drY G w)) ∧ eqx sx113 h h2 := by
  have hX := drX_le (w := w) hw
  have hY := drY_le (w := w) hw
  have hc : cntB (inB w) (gR G) < 13 := by have := cntB_le (inB w) (gR G); have := hw.2.1; omega
  have hn := no13 _ hc
  rw [en_18, b18_0]
  obtain ⟨h2, a, b, g, j, e2, i1, i2, i3, i4, i5, E2⟩ := c_low2 12 0 (drX G w) (drY G w) h (by omega) g5 g6 (by omega) (by omega) hn.1
  have hg : 0 < g := Nat.pos_of_ne_zero (fun z => by rw [z, Nat.zero_mul] at i4; have := drY_pos (G := G) (w := w); omega)
  have ha : a ≤ drX G w := by rw [i3]; exact Nat.le_mul_of_pos_left _ hg
  have hb : b ≤ drY G w := by rw [i4]; exact Nat.le_mul_of_pos_left _ hg
  obtain ⟨h3, a', b', g', j', e3, k1, k2, k3, k4, k5, E3⟩ := c_low5 12 0 a b h2 (by omega) i1 i2 (by omega) (by omega) (fun z => hn.2 (by show _ ∣ drY G w; rw [i4]; exact Nat.dvd_trans z (Nat.dvd_mul_left _ _)))
  rw [e2, b18_64, e3, b18_128]
  have f1 : drX G w = g * g' * a' := by rw [i3, k3, Nat.mul_assoc]
  have f2 : drY G w = g * g' * b' := by rw [i4, k4, Nat.mul_assoc]
  have hgg : Nat.gcd (drX G w) (drY G w) = g * g' := low_gcd f1 f2 (fun z => i5 ⟨by rw [k3]; exact Nat.dvd_trans z.1 (Nat.dvd_mul_left _ _), by rw [k4]; exact Nat.dvd_trans z.2 (Nat.dvd_mul_left _ _)⟩) k5
  have hpos : 0 < g * g' := by rw [← hgg]; exact Nat.gcd_pos_of_pos_right _ drY_pos
  refine ⟨h3, rfl, ?_, ?_, E2.tr E3⟩
  · rw [k1, hgg]
    exact congrArg lN (by rw [f1, Nat.mul_div_cancel_left _ hpos])
  · rw [k2, hgg]
    exact congrArg lN (by rw [f2, Nat.mul_div_cancel_left _ hpos])
theorem c_dry (S : cS h G W L B) (I : cI h B') (hB : B' < 2 ^ 28) {p q x : Int32} : ∃ h2, xc 139 [.ref 0, .int p, .int q, .int x] h = some ([.long (aDry G W p q x)], h2) ∧ cS h2 G W L B ∧ cI h2 (B' + 1) ∧ eqx sxW h h2 := by
  have hw := S.1.1
  have hN := hw.1.2
  have hP := hw.2.2.1
  have hx0 := S.1.2.1
  unfold aDry
  rw [en_139, b139_0, c_hasPerson isD2 S.1.2.2.1.1.2.2.1 (by omega), bnd]
  simp only [app1, List.cons_append, List.nil_append]
  rw [b139_8]
  by_cases h1 : isN p.toInt64 (gP G)
  · rw [if_neg (by rw [bI_z]; exact fun z => z h1), b139_11, c_hasPlace isD2 S.1.2.2.1.1.1 (by omega), bnd]
    simp only [app1, List.cons_append, List.nil_append]
    rw [b139_19]
    by_cases h2 : isN q.toInt64 (gN G)
    · have hc : isN p.toInt64 (gP G) ∧ isN q.toInt64 (gN G) := ⟨h1, h2⟩
      rw [if_neg (by rw [bI_z]; exact fun z => z h2), if_pos hc, b139_22]
      have w0 : (0 ≤ x.toInt64) ↔ 0 ≤ x := by rw [show (0 : Int64) = (0 : Int32).toInt64 from rfl, fa_wide_le]
      have w1 : (x.toInt64 ≤ 1) ↔ x ≤ nI 1 := by rw [show (1 : Int64) = (nI 1).toInt64 from rfl, fa_wide_le]
      by_cases y0 : x < 0
      · rw [if_pos y0, if_neg (fun z => by have := w0.mp z.1; exact absurd y0 (by rw [Int32.not_lt]; exact this)), b139_31]
        exact ⟨h, rfl, S, I.mono (by omega), eqx.rf⟩
      · rw [if_neg y0, b139_26]
        by_cases y1 : x ≤ nI 1
        · have hc2 : 0 ≤ x.toInt64 ∧ x.toInt64 ≤ 1 := ⟨w0.mpr (by rw [Int32.not_lt] at y0; exact y0), w1.mpr y1⟩
          rw [if_pos y1, if_pos hc2, b139_35]
          obtain ⟨j, hj, rfl⟩ := isN_nI h1 (by omega)
          obtain ⟨f, hf, rfl⟩ := isN_nI h2 (by omega)
          rw [toN_nI (by omega), toN_nI (by omega)]
          obtain ⟨D, h1', e1, F1, Q1, S1, I1, E1⟩ := c_seek S I (by omega) hj
          rw [e1, bnd]
          simp only [List.nil_append]
          rw [b139_43, c_daysTo Q1 F1 hf, bnd]
          simp only [app1, List.cons_append, List.nil_append]
          rw [b139_51]
          cases hb : bW G (wSh W) none j (xS W j) 0 f with
          | none =>
            rw [show dyI G none = -1 from rfl, if_pos rfl, b139_55]
            exact ⟨h1', rfl, S1, I1, E1⟩
          | some w =>
            have hd := bW_days hw hx0 Q1.2.2.1.1 Q1.2.2.1.2 hb
            rw [show dyI G (some w) = nI (dys (gLon G) w) from rfl, if_neg (by rw [nI_m1 (by omega)]; exact id), b139_59]
            obtain ⟨h3, e3, a3, b3, E3⟩ := c_weighFloods Q1 F1 hf hb
            rw [e3, bnd]
            simp only [List.nil_append]
            obtain ⟨h4, e4, a4, b4, E4⟩ := c_lowerFloods hw a3 b3
            rw [b139_67, e4, bnd]
            simp only [List.nil_append]
            rw [b139_74]
            have cE3 := cE_eqx Q1.1 E3 (fun c i z => by unfold sxF5 at z; omega)
            have cE4 := cE_eqx cE3 E4 (fun c i z => by unfold sx113 at z; omega)
            have I4 := cI_eqx (cI_eqx I1 E3 (fun c i z => by unfold sxF5 at z; omega)) E4 (fun c i z => by unfold sx113 at z; omega)
            have E34 := (E3.wk sxF5_W).tr (E4.wk sx113_W)
            by_cases hx1 : x = 0
            · rw [if_pos hx1, b139_78, b139_95, a4]
              exact ⟨h4, by rw [if_pos hx1], cS_W S1 cE4 E34, I4, E1.tr E34⟩
            · rw [if_neg hx1, b139_88, b139_95, b4]
              exact ⟨h4, by rw [if_neg hx1], cS_W S1 cE4 E34, I4, E1.tr E34⟩
        · rw [if_neg y1, if_neg (fun z => y1 (w1.mp z.2)), b139_31]
          exact ⟨h, rfl, S, I.mono (by omega), eqx.rf⟩
    · rw [if_pos (by rw [bI_z]; exact h2), if_neg (fun z : isN p.toInt64 (gP G) ∧ isN q.toInt64 (gN G) => h2 z.2), b139_31]
      exact ⟨h, rfl, S, I.mono (by omega), eqx.rf⟩
  · rw [if_pos (by rw [bI_z]; exact h1), if_neg (fun z : isN p.toInt64 (gP G) ∧ isN q.toInt64 (gN G) => h1 z.1), b139_31]
    exact ⟨h, rfl, S, I.mono (by omega), eqx.rf⟩
theorem c_driest_loop {p : Nat} {h0 : sm_H} {D : Nat → Option (List Nat)} (hat : wAt W p < 2 ^ 31) (Q0 : cQ h0 G (wSh W) none p false 1 (xS W p)) (F0 : FS h0 G (wSh W) none p false (xS W p) D) : ∀ (m k : Nat) (h1 : sm_H) (l6 : Value), k + m = gN G → eqx sxF5 h0 h1 → ∃ h2, xe 5 19 10 [.ref 113, .int (nI (wAt W p)), .long (sfL (sfF (sfO G W p) k)), .null, .int (mpI (sfF (sfO G W p) k)), .int (nI k), l6, .null] [] h1 = some ([.int (mpI (sfF (sfO G W p) (gN G)))], h2) ∧ eqx sxF5 h0 h2
  | 0, k, h1, l6, e, E => by
    have : k = gN G := by omega
    subst this
    have c1 := cE_eqx Q0.1 E (fun c i z => by unfold sxF5 at z; omega)
    rw [b19_10, show sm_gi h1 2 0 = nI (gN G) from c1.2.2.1.1.1, if_pos (Int32.le_refl _), b19_86]
    exact ⟨h1, rfl, E⟩
  | m + 1, k, h1, l6, e, E => by
    have c1 := cE_eqx Q0.1 E (fun c i z => by unfold sxF5 at z; omega)
    have hw := c1.1
    have hN := c1.1.1.2
    have Q1 := cQ_eqx Q0 c1 E (fun c i z => by unfold sxF5 at z; omega)
    have F1 := FS_eqx F0 E (fun c i z => by unfold sxF5 at z; omega)
    have ih := c_driest_loop hat Q0 F0 m (k + 1)
    rw [sfF_succ] at ih
    have hsb := sfF_b (sfO_b (W := W) (p := p) hw) k
    rw [b19_10, show sm_gi h1 2 0 = nI (gN G) from c1.2.2.1.1.1, if_neg (by rw [nI_leI (by omega) (by omega)]; omega), b19_22]
    by_cases q : k = wAt W p
    · rw [show sfO G W p k = none from if_pos q] at ih
      rw [if_pos (by rw [← q]), b19_80, nI_add]
      exact ih h1 _ (by omega) E
    · rw [if_neg (by rw [nI_eq (by omega) hat]; exact q), b19_28, c_daysTo Q1 F1 (f := k) (by omega), bnd]
      simp only [app1, List.cons_append, List.nil_append]
      rw [b19_37]
      cases hb : bW G (wSh W) none p (xS W p) 0 k with
      | none =>
        rw [show sfO G W p k = none by unfold sfO; rw [if_neg q, hb]; rfl] at ih
        rw [show dyI G none = -1 from rfl, if_pos rfl, b19_80, nI_add]
        exact ih h1 _ (by omega) E
      | some w =>
        have hd := bW_days hw c1.2.1 Q1.2.2.1.1 Q1.2.2.1.2 hb
        have hv := drV_le (w := w) hw
        have hX := drX_le (w := w) hw
        have hY := drY_le (w := w) hw
        have hY0 := drY_pos (G := G) (w := w)
        rw [show sfO G W p k = some (drV G w) by unfold sfO; rw [if_neg q, hb]; rfl] at ih
        obtain ⟨h3, e3, a3, b3, E3⟩ := c_weighFloods Q1 F1 (f := k) (by omega) hb
        rw [show dyI G (some w) = nI (dys (gLon G) w) from rfl, if_neg (by rw [nI_m1 (by omega)]; exact id), b19_41, e3, bnd]
        simp only [List.nil_append]
        have hmx : (if (1 : Int64) < lN (drY G w) then lN (drY G w) else 1) = lN (drY G w) := by
          by_cases z : (1 : Int64) < lN (drY G w)
          · rw [if_pos z]
          · rw [if_neg z]
            rw [show (1 : Int64) = lN 1 from rfl, l_lt (by decide) (by omega)] at z
            rw [show drY G w = 1 by omega]; rfl
        have hdv : lN (drX G w) * ((1000000000000 : Int64) / lN (drY G w)) = lN (drV G w) := by
          rw [show (1000000000000 : Int64) = lN (10 ^ 12) from rfl, l_div (by decide) hY0 (by omega), lN_mul, drV_eq]
          have h12 := ten_eq (w := w) hw
          rw [h12, Nat.mul_div_cancel_left _ hY0]
        rw [b19_47, a3, b3, c_maxJ, bnd]
        simp only [app1, List.cons_append, List.nil_append]
        rw [hmx, b19_62, if_neg (by rw [l_z (by omega)]; omega), hdv]
        have E13 := E.tr E3
        cases hm : sfF (sfO G W p) k with
        | none =>
          rw [hm] at ih
          rw [if_neg (by rw [lg_cmp_le, show sfL none = -1 from rfl, Int64.not_le]; exact l_m1lt (by omega)), b19_73, b19_80, nI_add]
          exact ih _ _ (by omega) E13
        | some t =>
          have ht := hsb t hm
          rw [hm] at ih
          dsimp only at ih
          by_cases z : t.1 < drV G w
          · rw [if_pos z] at ih
            rw [if_neg (by rw [lg_cmp_le, show sfL (some t) = lN t.1 from rfl, l_le (by omega) (by omega)]; omega), b19_73, b19_80, nI_add]
            exact ih _ _ (by omega) E13
          · rw [if_neg z] at ih
            rw [if_pos (by rw [lg_cmp_le, show sfL (some t) = lN t.1 from rfl, l_le (by omega) (by omega)]; omega), b19_80, nI_add]
            exact ih _ _ (by omega) E13
theorem c_safest (S : cS h G W L B) (I : cI h B') (hB : B' < 2 ^ 28) {p : Int32} : ∃ h2, xc 140 [.ref 0, .int p] h = some ([.int (aSafe G W p)], h2) ∧ cS h2 G W L B ∧ cI h2 (B' + 1) ∧ eqx sxW h h2 := by
  have hw := S.1.1
  have hN := hw.1.2
  have hP := hw.2.2.1
  unfold aSafe
  rw [en_140, b140_0, c_hasPerson isD2 S.1.2.2.1.1.2.2.1 (by omega), bnd]
  simp only [app1, List.cons_append, List.nil_append]
  rw [b140_8]
  by_cases h1 : isN p.toInt64 (gP G)
  · rw [if_neg (by rw [bI_z]; exact fun z => z h1), if_pos h1, b140_14]
    obtain ⟨j, hj, rfl⟩ := isN_nI h1 (by omega)
    rw [toN_nI (by omega)]
    have hwp := S.2.2.1.2.2.1 j hj
    obtain ⟨D, h1', e1, F1, Q1, S1, I1, E1⟩ := c_seek S I (by omega) hj
    rw [e1, bnd]
    simp only [List.nil_append]
    have g19 : sm_gi h1' 19 j = nI (wAt W j) := (S1.2.1.2.2.1 j hj).1
    rw [b140_22, if_pos (in_c (by rw [ln_19]; omega) (by omega)), nI_clamp (by omega), g19, en_19, b19_0]
    obtain ⟨h2, e2, E2⟩ := c_driest_loop (p := j) (by omega) Q1 F1 (gN G) 0 h1' .null (by omega) eqx.rf
    rw [show mpI (sfF (sfO G W j) 0) = -1 from rfl, show sfL (sfF (sfO G W j) 0) = -1 from rfl] at e2
    rw [e2, bnd]
    simp only [app1, List.cons_append, List.nil_append]
    rw [b140_38]
    have c2 := cE_eqx Q1.1 E2 (fun c i z => by unfold sxF5 at z; omega)
    refine ⟨h2, ?_, cS_W S1 c2 (E2.wk sxF5_W), cI_eqx I1 E2 (fun c i z => by unfold sxF5 at z; omega), E1.tr (E2.wk sxF5_W)⟩
    cases sfF (sfO G W j) (gN G) <;> rfl
  · rw [if_pos (by rw [bI_z]; exact h1), if_neg h1, b140_11]
    exact ⟨h, rfl, S, I.mono (by omega), eqx.rf⟩
end CDRY
