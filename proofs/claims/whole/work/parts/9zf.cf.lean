/-! ===== lines are read: the class, a road ===== -/
def bbS (D : DG) (s : Bool × Nat) : Nat := bsN (upF (gBri (dG D)) (gR (dG D)) s.1) (gR (dG D) + 1)
theorem bbS_b {D : DG} {s : Bool × Nat} : bbS D s = if s.1 = true then gBs (dG D) ||| 2 ^ gR (dG D) else gBs (dG D) := by
  unfold bbS gBs
  rw [bsN_step, upF_s, bsN_congr (g := gBri (dG D)) (gR (dG D)) (fun k hk => upF_o (by omega))]
theorem bbS_f {D : DG} {x : Nat} : bbS D (false, x) = gBs (dG D) := by rw [bbS_b]; exact if_neg (show ¬ (false = true) by decide)
def sm2 (K : Nat → Nat) : SR DG → SR DG
  | .inl x => .inl x
  | .inr (k, D) => if K k = 59 then .inr (k, D) else .inl (2, k)
def rwI : SR DG → Int32
  | .inl (e, _) => nI e
  | .inr _ => nI 0
def clO (h2 : sm_H) (b : Nat → Nat) (n nt k : Nat) : SR DG → Prop
  | .inl (e, k') => (1 ≤ e ∧ e ≤ 4) ∧ cRd h2 b n nt k'
  | .inr (k', D') => k < k' ∧ cRd h2 b n nt k' ∧ cDr h2 D'
section CRF
variable {b : Nat → Nat} {n nt k : Nat} {h : sm_H}
def sxFg (D : DG) : Nat → Nat → Prop := fun c i => sx28 c i ∨ (c = 29 ∧ i = 4) ∨ (c = 33 ∧ i = gR (dG D))
theorem sxFg_l {D : DG} : ∀ c i, sxFg D c i → sxCl c i := fun c i z => by unfold sxFg sx28 at z; unfold sxCl; omega
theorem in_l {c r : Nat} (hc : 30 ≤ c ∧ c ≤ 33) (hr : r < 12) : sm_in c (nI r) := by
  rcases (show c = 30 ∨ c = 31 ∨ c = 32 ∨ c = 33 by omega) with rfl | rfl | rfl | rfl
  · exact in_c (by rw [ln_30]; exact hr) (by omega)
  · exact in_c (by rw [ln_31]; exact hr) (by omega)
  · exact in_c (by rw [ln_32]; exact hr) (by omega)
  · exact in_c (by rw [ln_33]; exact hr) (by omega)
theorem c_flag {D : DG} {s : Bool × Nat} (R : cRd h b n nt k) (hR : gR (dG D) < 12) (hb4 : nbr (dG D) (gR (dG D)) ≤ 4) (Z : cDz h D (bbS D s)) (g33 : sm_gi h 33 (gR (dG D)) = nI s.2) : ∃ w h2, xc 62 [.ref 28, .int (nI (gR (dG D)))] h = some ([.int w], h2) ∧ eqx (sxFg D) h h2 ∧ match flS (tK b n) (tV b n) (nbr (dG D) (gR (dG D))) s k with
    | none => w = nI 2 ∧ cRd h2 b n nt k
    | some (.inl (e, k')) => w = nI e ∧ (1 ≤ e ∧ e ≤ 4) ∧ cRd h2 b n nt k'
    | some (.inr (k', s')) => w = nI 0 ∧ k < k' ∧ cRd h2 b n nt k' ∧ cDz h2 D (bbS D s') ∧ sm_gi h2 33 (gR (dG D)) = nI s'.2 := by
  have T := R.1.1
  have h900 := T.2.2.1
  have hk := R.2.2
  have hKL := KL_lt _ (T.2.2.2.1 k)
  have g4 : sm_gi h 29 4 = nI (bbS D s) := Z.1.2.2.2.2
  have hbb : bbS D s < 4096 := Nat.lt_of_lt_of_le (bsN_lt _ _) (Nat.pow_le_pow_right (n := 2) (by decide) (show gR (dG D) + 1 ≤ 12 by omega))
  rw [en_62, b62_0, R.2.1]
  simp (disch := omega) only [in_45, if_true, nI_clamp, (R.1.2 k hk).1]
  unfold flS
  by_cases z1 : tK b n k = 206
  · have isb : xc 36 [.ref 29, .int (nI (gR (dG D)))] h = some ([.int (nI (bit s.1))], h) := by
      have hbit : bbS D s / 2 ^ gR (dG D) % 2 = bit s.1 := by
        unfold bbS
        rw [bsN_bit _ _ _ (Nat.lt_succ_self _), upF_s]
        rfl
      rw [en_36, b36_0 (by unfold sm_isD; exact kd_29), g4, shr1 (by omega) (by omega), hbit]
      cases hs : s.1 with
      | false => rw [if_neg (by decide), b36_16, b36_17, if_pos (or01_0.mpr trivial)]; rfl
      | true => rw [if_pos (show nI (bit true) = nI 1 from rfl), b36_12, b36_17, if_pos (or01_1.mpr trivial)]; rfl
    rw [if_pos (by rw [z1]), if_pos z1, b62_15, isb, bnd]
    simp only [app1, List.cons_append, List.nil_append]
    rw [b62_23]
    have good : ¬ (s.1 = false ∧ nbr (dG D) (gR (dG D)) = 4) → ∃ w h2, xe 2 62 42 [.ref 28, .int (nI (gR (dG D))), .null] [] h = some ([.int w], h2) ∧ eqx (sxFg D) h h2 ∧ match (if s.1 = false ∧ nbr (dG D) (gR (dG D)) = 4 then some (.inl (4, k)) else some (.inr (k + 1, (true, s.2))) : Option (SR (Bool × Nat))) with
        | none => w = nI 2 ∧ cRd h2 b n nt k
        | some (.inl (e, k')) => w = nI e ∧ (1 ≤ e ∧ e ≤ 4) ∧ cRd h2 b n nt k'
        | some (.inr (k', s')) => w = nI 0 ∧ k < k' ∧ cRd h2 b n nt k' ∧ cDz h2 D (bbS D s') ∧ sm_gi h2 33 (gR (dG D)) = nI s'.2 := fun q => by
      rw [if_neg q]
      have hor : bbS D s ||| 2 ^ gR (dG D) = bbS D (true, s.2) := by
        rw [bbS_b, bbS_b]
        cases s.1 with
        | false => rw [if_neg (by decide), if_pos rfl]
        | true => rw [if_pos rfl, Nat.or_assoc, Nat.or_self]
      have E1 : eqx (sxFg D) h (sm_si (sm_si h 29 4 (nI (bbS D (true, s.2)))) 28 4 (nI (k + 1))) := (eqx.rf.si (Or.inr (Or.inl ⟨rfl, rfl⟩))).si (Or.inl ⟨rfl, Or.inl rfl⟩)
      have Z1 := cDz_ch (cDz_bb Z (show nI (bbS D (true, s.2)) = nI (bbS D (true, s.2)) from rfl)) (S := sx28) (h2 := sm_si (sm_si h 29 4 (nI (bbS D (true, s.2)))) 28 4 (nI (k + 1))) (eqx.rf.si ⟨rfl, Or.inl rfl⟩) sx28_o
      rw [b62_42, g4, shl1 (by omega), fa_or, hor, b62_57, gi_cell (by decide), R.2.1, nI_add, b62_67]
      exact ⟨_, _, rfl, E1, rfl, by omega, cRd_ch R E1 sxFg_l gi_same (T.s hk (by omega)), Z1, (gi_cell (by decide)).trans ((gi_cell (by decide)).trans g33)⟩
    rcases Bool.eq_false_or_eq_true s.1 with hs | hs
    · rw [show nI (bit s.1) = nI 1 by rw [hs]; rfl, if_neg (by decide)]
      exact good (fun y => by rw [hs] at y; cases y.1)
    · have hcnt : xc 280 [.int (sm_gi h 29 4)] h = some ([.int (nI (nbr (dG D) (gR (dG D))))], h) := by
        have hgb : bbS D s = bsN (gBri (dG D)) (gR (dG D)) := by rw [bbS_b, hs]; exact if_neg (by decide)
        rw [g4, c_bitCount hbb, hgb, pcnt_bsN, show min 12 (gR (dG D)) = gR (dG D) by omega, nbr_cnt]
      rw [show nI (bit s.1) = nI 0 by rw [hs]; rfl, if_pos (show nI 0 = 0 from rfl), b62_26, hcnt, bnd]
      simp only [app1, List.cons_append, List.nil_append]
      rw [b62_36]
      by_cases q : nbr (dG D) (gR (dG D)) = 4
      · rw [if_neg (by rw [nI_ltI (by omega) (by decide)]; omega), b62_40, if_pos (show s.1 = false ∧ nbr (dG D) (gR (dG D)) = 4 from ⟨hs, q⟩)]
        exact ⟨_, h, rfl, eqx.rf, rfl, ⟨by decide, by decide⟩, R⟩
      · rw [if_pos (show nI (nbr (dG D) (gR (dG D))) < nI 4 by rw [nI_ltI (by omega) (by decide)]; omega)]
        exact good (fun y => q y.2)
  · rw [if_neg (by rw [nI_eq (by omega) (by decide)]; exact z1), if_neg z1, b62_69]
    rcases c_take2 (c := 207) R (by decide) (by decide) with ⟨z2, e1, R1, E1⟩ | ⟨z2, e1⟩
    · rw [if_pos z2, e1, bnd]
      simp only [app1, List.cons_append, List.nil_append]
      rw [b62_76, if_pos (show nI 0 = 0 from rfl), b62_81]
      rcases c_number (lo := 0) (hi := 10) (ban := none) R1 (by decide) (by decide) (fun a w => by cases w) with ⟨e, h2, q1, q2, e2, R2, E2⟩ | ⟨q1, h2, e2, R2, g2, E2⟩
      · rw [show toI none = -1 from rfl] at e2
        have Ea : eqx (sxFg D) h (sm_si h2 33 (gR (dG D)) (sm_gi h2 28 5)) := ((E1.tr E2).wk (fun c i w => Or.inl w)).si (Or.inr (Or.inr ⟨rfl, rfl⟩))
        rw [e2, bnd]
        simp only [app1, List.cons_append, List.nil_append]
        rw [b62_89, if_pos (in_l (by omega) hR), nI_clamp (by omega), b62_103, q1]
        exact ⟨_, _, rfl, Ea, rfl, by omega, cRd_ch R Ea sxFg_l ((gi_cell (by decide)).trans R2.2.1) R2.2.2⟩
      · rw [show toI none = -1 from rfl] at e2
        have Ea : eqx (sxFg D) h (sm_si h2 33 (gR (dG D)) (nI (tV b n (k + 1)))) := ((E1.tr E2).wk (fun c i w => Or.inl w)).si (Or.inr (Or.inr ⟨rfl, rfl⟩))
        have Z2 : cDz (sm_si h2 33 (gR (dG D)) (nI (tV b n (k + 1)))) D (bbS D s) := cDz_ch (cDz_ch Z (E1.tr E2) sx28_o) (S := fun c i => c = 33 ∧ i = gR (dG D)) (eqx.rf.si ⟨rfl, rfl⟩) (fun c i w => by unfold opC2; omega)
        rw [e2, bnd]
        simp only [app1, List.cons_append, List.nil_append]
        rw [b62_89, if_pos (in_l (by omega) hR), nI_clamp (by omega), g2, b62_103, q1]
        exact ⟨_, _, rfl, Ea, rfl, by omega, cRd_ch R Ea sxFg_l ((gi_cell (by decide)).trans R2.2.1) R2.2.2, Z2, gi_same⟩
    · rw [if_neg z2, e1, bnd]
      simp only [app1, List.cons_append, List.nil_append]
      rw [b62_76, if_neg (by decide), b62_103]
      exact ⟨_, h, rfl, eqx.rf, rfl, R⟩
theorem c_flags {D : DG} (hR : gR (dG D) < 12) (hb4 : nbr (dG D) (gR (dG D)) ≤ 4) : ∀ (m k i : Nat) (s : Bool × Nat) (h : sm_H), nt - k < m → i + 6 ≤ k → cRd h b n nt k → cDz h D (bbS D s) → sm_gi h 33 (gR (dG D)) = nI s.2 → ∃ r w l3 h2, flR (tK b n) (tV b n) (nbr (dG D) (gR (dG D))) s k r ∧ xe 3 61 138 [.ref 28, .int (nI (gR (dG D))), .int (nI 0), .int (nI i)] [] h = xe 3 61 175 [.ref 28, .int (nI (gR (dG D))), .int w, .int l3] [] h2 ∧ eqx (sxFg D) h h2 ∧ match r with
    | .inl (e, k') => w = nI e ∧ (1 ≤ e ∧ e ≤ 4) ∧ cRd h2 b n nt k'
    | .inr (k', s') => k ≤ k' ∧ cRd h2 b n nt k' ∧ ((tK b n k' = 59 ∧ w = nI 0 ∧ cDz h2 D (bbS D s') ∧ sm_gi h2 33 (gR (dG D)) = nI s'.2) ∨ (tK b n k' ≠ 59 ∧ w = nI 2)) := fun m => by
  induction m with
  | zero => intro k i s h hm; omega
  | succ m ih =>
    intro k i s h hm hi R Z g33
    have T := R.1.1
    have h900 := T.2.2.1
    have hk := R.2.2
    have hKL := KL_lt _ (T.2.2.2.1 k)
    rw [b61_138, if_neg (by rw [nI_leI (by decide) (by omega)]; omega), b61_145, if_pos (show nI 0 = 0 from rfl), b61_149, R.2.1]
    simp (disch := omega) only [in_45, if_true, nI_clamp, (R.1.2 k hk).1]
    by_cases z : tK b n k = 59
    · rw [if_pos (by rw [z])]
      exact ⟨.inr (k, s), nI 0, nI i, h, lpR_stop (flS_no (by omega) (by omega)), rfl, eqx.rf, Nat.le_refl _, R, Or.inl ⟨z, rfl, Z, g33⟩⟩
    · obtain ⟨w, h1, e1, E1, o1⟩ := c_flag R hR hb4 Z g33
      rw [if_neg (by rw [nI_eq (by omega) (by decide)]; exact z), b61_163, e1, bnd]
      simp only [app1, List.cons_append, List.nil_append]
      rw [b61_168, nI_add]
      generalize hq : flS (tK b n) (tV b n) (nbr (dG D) (gR (dG D))) s k = o at o1
      -- behind a fault the loop ends
      have stop : ∀ e, 1 ≤ e → e ≤ 4 → w = nI e → xe 3 61 138 [.ref 28, .int (nI (gR (dG D))), .int w, .int (nI (i + 1))] [] h1 = xe 3 61 175 [.ref 28, .int (nI (gR (dG D))), .int w, .int (nI (i + 1))] [] h1 := fun e he1 he4 hw => by
        rw [b61_138, if_neg (by rw [nI_leI (by decide) (by omega)]; omega), b61_145, hw, if_neg (by rw [show (0 : Int32) = nI 0 from rfl, nI_eq (by omega) (by decide)]; omega)]
      rcases o with _ | x | ⟨k', s'⟩
      · obtain ⟨p1, p2⟩ := o1
        rw [stop 2 (by decide) (by decide) p1]
        exact ⟨.inr (k, s), w, _, h1, lpR_stop hq.symm, rfl, E1, Nat.le_refl _, p2, Or.inr ⟨z, p1⟩⟩
      · obtain ⟨e, k'⟩ := x
        obtain ⟨p1, p2, p3⟩ := o1
        rw [stop e p2.1 p2.2 p1]
        exact ⟨.inl (e, k'), w, _, h1, lpR_bad hq.symm, rfl, E1, p1, p2, p3⟩
      · obtain ⟨p1, p2, p3, p4, p5⟩ := o1
        obtain ⟨r, w2, l3, h2, a2, e2, E2, o2⟩ := ih k' (i + 1) s' h1 (by have := p3.2.2; omega) (by omega) p3 p4 p5
        rw [p1, e2]
        refine ⟨r, w2, l3, h2, lpR_go hq.symm a2, rfl, E1.tr E2, ?_⟩
        rcases r with ⟨e, k2⟩ | ⟨k2, s2⟩
        · exact o2
        · exact ⟨by have := o2.1; omega, o2.2⟩
end CRF
