/-! ===== lines are read: the class, roads ===== -/
/-- the draft in the class's cells, bb the bridges -/
def cDz (h : sm_H) (D : DG) (bb : Nat) : Prop := (sm_gi h 29 0 = nI (gN (dG D)) ∧ sm_gi h 29 1 = nI (dL D) ∧ sm_gi h 29 2 = nI (gR (dG D)) ∧ sm_gi h 29 3 = nI (gP (dG D)) ∧ sm_gi h 29 4 = nI bb) ∧
  (∀ r, r < gR (dG D) → sm_gi h 30 r = nI (gOne (dG D) r) ∧ sm_gi h 31 r = nI (gOth (dG D) r) ∧ sm_gi h 32 r = nI (gLon (dG D) r) ∧ sm_gi h 33 r = nI (gFlo (dG D) r)) ∧
  (∀ p, p < gP (dG D) → sm_gi h 34 p = nI (dA D p) ∧ sm_gi h 35 p = nI (gBor (dG D) p) ∧ sm_gi h 36 p = nI (dP D p) ∧ sm_gi h 37 p = toI (gGol (dG D) p) ∧ sm_gi h 38 p = gBy (dG D) p) ∧ cLaw h 39 (gLet (dG D)) ∧ cLaw h 42 (gTol (dG D))
def cDr (h : sm_H) (D : DG) : Prop := cDz h D (gBs (dG D))
/-- cells that may change while the next road or person is read -/
def opC2 (D : DG) (c i : Nat) : Prop := c = 28 ∨ (30 ≤ c ∧ c ≤ 33 ∧ gR (dG D) ≤ i) ∨ (34 ≤ c ∧ c ≤ 38 ∧ gP (dG D) ≤ i)
theorem cDz_ch {S : Nat → Nat → Prop} {h h2 : sm_H} {D : DG} {bb : Nat} (H : cDz h D bb) (E : eqx S h h2) (hS : ∀ c i, S c i → opC2 D c i) : cDz h2 D bb := by
  obtain ⟨⟨a1, a2, a3, a4, a5⟩, R, P, l1, l2⟩ := H
  have g : ∀ c i, ¬ opC2 D c i → sm_gi h2 c i = sm_gi h c i := fun c i z => E.1 c i (fun y => z (hS c i y))
  have n29 : ∀ i, ¬ opC2 D 29 i := fun i z => by unfold opC2 at z; omega
  refine ⟨⟨(g _ _ (n29 _)).trans a1, (g _ _ (n29 _)).trans a2, (g _ _ (n29 _)).trans a3, (g _ _ (n29 _)).trans a4, (g _ _ (n29 _)).trans a5⟩, fun r hr => ?_, fun p hp => ?_, cLaw_eqx l1 E (fun c i z => by have := hS c i z; unfold opC2 at this; omega), cLaw_eqx l2 E (fun c i z => by have := hS c i z; unfold opC2 at this; omega)⟩
  · obtain ⟨x1, x2, x3, x4⟩ := R r hr
    exact ⟨(g _ _ (by unfold opC2; omega)).trans x1, (g _ _ (by unfold opC2; omega)).trans x2, (g _ _ (by unfold opC2; omega)).trans x3, (g _ _ (by unfold opC2; omega)).trans x4⟩
  · obtain ⟨x1, x2, x3, x4, x5⟩ := P p hp
    exact ⟨(g _ _ (by unfold opC2; omega)).trans x1, (g _ _ (by unfold opC2; omega)).trans x2, (g _ _ (by unfold opC2; omega)).trans x3, (g _ _ (by unfold opC2; omega)).trans x4, (g _ _ (by unfold opC2; omega)).trans x5⟩
theorem cDz_bb {h : sm_H} {D : DG} {bb bc : Nat} {v : Int32} (H : cDz h D bb) (hv : v = nI bc) : cDz (sm_si h 29 4 v) D bc := by
  obtain ⟨⟨a1, a2, a3, a4, a5⟩, R, P, l1, l2⟩ := H
  have E : eqx (fun c i => c = 29 ∧ i = 4) h (sm_si h 29 4 v) := eqx.rf.si ⟨rfl, rfl⟩
  refine ⟨⟨(gi_slot (by decide)).trans a1, (gi_slot (by decide)).trans a2, (gi_slot (by decide)).trans a3, (gi_slot (by decide)).trans a4, gi_same.trans hv⟩, fun r hr => ?_, fun p hp => ?_, cLaw_eqx l1 E (fun c i z => by omega), cLaw_eqx l2 E (fun c i z => by omega)⟩
  · obtain ⟨x1, x2, x3, x4⟩ := R r hr
    exact ⟨(gi_cell (by decide)).trans x1, (gi_cell (by decide)).trans x2, (gi_cell (by decide)).trans x3, (gi_cell (by decide)).trans x4⟩
  · obtain ⟨x1, x2, x3, x4, x5⟩ := P p hp
    exact ⟨(gi_cell (by decide)).trans x1, (gi_cell (by decide)).trans x2, (gi_cell (by decide)).trans x3, (gi_cell (by decide)).trans x4, (gi_cell (by decide)).trans x5⟩
/-- where the class reads -/
def cRd (h : sm_H) (b : Nat → Nat) (n nt k : Nat) : Prop := cTk h b n nt ∧ sm_gi h 28 4 = nI k ∧ k ≤ nt
def sxCl : Nat → Nat → Prop := fun c _ => 28 ≤ c ∧ c ≤ 44
theorem cRd_ch {S : Nat → Nat → Prop} {h h2 : sm_H} {b : Nat → Nat} {n nt k k' : Nat} (H : cRd h b n nt k) (E : eqx S h h2) (hS : ∀ c i, S c i → sxCl c i) (g : sm_gi h2 28 4 = nI k') (hk : k' ≤ nt) : cRd h2 b n nt k' := ⟨cTk_eqx H.1 E (fun c i z => by have := hS c i z; unfold sxCl at this; omega), g, hk⟩
section CLR
variable {b : Nat → Nat} {n nt k : Nat} {h : sm_H}
def sx28 : Nat → Nat → Prop := fun c i => c = 28 ∧ (i = 4 ∨ i = 5)
theorem sx28_l : ∀ c i, sx28 c i → sxCl c i := fun c i z => by unfold sx28 at z; unfold sxCl; omega
theorem sx28_o {D : DG} : ∀ c i, sx28 c i → opC2 D c i := fun c i z => by unfold sx28 at z; unfold opC2; omega
theorem c_take2 {c : Nat} (R : cRd h b n nt k) (hc : c < 221) (h0 : c ≠ 0) : (tK b n k = c ∧ xc 56 [.ref 28, .int (nI c)] h = some ([.int (nI 0)], sm_si h 28 4 (nI (k + 1))) ∧ cRd (sm_si h 28 4 (nI (k + 1))) b n nt (k + 1) ∧ eqx sx28 h (sm_si h 28 4 (nI (k + 1)))) ∨ (tK b n k ≠ c ∧ xc 56 [.ref 28, .int (nI c)] h = some ([.int (nI 2)], h)) := by
  have T := R.1.1
  rw [c_take T R.1 R.2.1 R.2.2 hc]
  by_cases z : tK b n k = c
  · have E : eqx sx28 h (sm_si h 28 4 (nI (k + 1))) := eqx.rf.si ⟨rfl, Or.inl rfl⟩
    exact Or.inl ⟨z, by rw [if_pos z], cRd_ch R E sx28_l gi_same (T.s R.2.2 (by rw [z]; exact h0)), E⟩
  · exact Or.inr ⟨z, by rw [if_neg z]⟩
theorem c_number {lo hi : Nat} {ban : Option Nat} (R : cRd h b n nt k) (hlo : lo < 2 ^ 31) (hhi : hi < 2 ^ 31) (hb : ∀ a, ban = some a → a < 2 ^ 31) : (∃ e h2, numF (tK b n) (tV b n) lo hi ban k = some e ∧ (e = 2 ∨ e = 3) ∧ xc 57 [.ref 28, .int (nI lo), .int (nI hi), .int (toI ban)] h = some ([.int (nI e)], h2) ∧ cRd h2 b n nt k ∧ eqx sx28 h h2) ∨ (numF (tK b n) (tV b n) lo hi ban k = none ∧ ∃ h2, xc 57 [.ref 28, .int (nI lo), .int (nI hi), .int (toI ban)] h = some ([.int (nI 0)], h2) ∧ cRd h2 b n nt (k + 1) ∧ sm_gi h2 28 5 = nI (tV b n k) ∧ eqx sx28 h h2) := by
  have T := R.1.1
  have h900 := T.2.2.1
  have hk := R.2.2
  have hKL := KL_lt _ (T.2.2.2.1 k)
  have rw_ := R.1.2 k hk
  rw [en_57, b57_0, R.2.1]
  simp (disch := omega) only [in_45, if_true, nI_clamp, rw_.1]
  by_cases z : tK b n k = 2
  · have hv := T.2.2.2.2 k z
    have gv := rw_.2.2 z
    have E1 : eqx sx28 h (sm_si h 28 5 (nI (tV b n k))) := eqx.rf.si ⟨rfl, Or.inr rfl⟩
    have R1 : cRd (sm_si h 28 5 (nI (tV b n k))) b n nt k := cRd_ch R E1 sx28_l ((gi_slot (by decide)).trans R.2.1) hk
    rw [if_pos (by rw [z]), b57_15, R.2.1]
    simp (disch := omega) only [in_46, if_true, nI_clamp, gv]
    have bad : (tV b n k < lo ∨ hi < tV b n k ∨ ban = some (tV b n k)) → xe 1 57 28 [.ref 28, .int (nI lo), .int (nI hi), .int (toI ban)] [] (sm_si h 28 5 (nI (tV b n k))) = some ([.int (nI 3)], sm_si h 28 5 (nI (tV b n k))) → (∃ e h2, numF (tK b n) (tV b n) lo hi ban k = some e ∧ (e = 2 ∨ e = 3) ∧ xe 1 57 28 [.ref 28, .int (nI lo), .int (nI hi), .int (toI ban)] [] (sm_si h 28 5 (nI (tV b n k))) = some ([.int (nI e)], h2) ∧ cRd h2 b n nt k ∧ eqx sx28 h h2) ∨ (numF (tK b n) (tV b n) lo hi ban k = none ∧ ∃ h2, xe 1 57 28 [.ref 28, .int (nI lo), .int (nI hi), .int (toI ban)] [] (sm_si h 28 5 (nI (tV b n k))) = some ([.int (nI 0)], h2) ∧ cRd h2 b n nt (k + 1) ∧ sm_gi h2 28 5 = nI (tV b n k) ∧ eqx sx28 h h2) := fun y e => Or.inl ⟨3, _, by unfold numF; rw [if_neg (show ¬ tK b n k ≠ 2 from fun w => w z), if_pos y], Or.inr rfl, e, R1, E1⟩
    by_cases y1 : tV b n k < lo
    · refine bad (Or.inl y1) ?_
      rw [b57_28, gi_same, if_pos (by rw [nI_ltI (by omega) hlo]; exact y1), b57_52]
    · by_cases y2 : hi < tV b n k
      · refine bad (Or.inr (Or.inl y2)) ?_
        rw [b57_28, gi_same, if_neg (by rw [nI_ltI (by omega) hlo]; exact y1), b57_36, gi_same, if_pos (by rw [nI_ltI hhi (by omega)]; exact y2), b57_52]
      · have hban : (nI (tV b n k) = toI ban) ↔ ban = some (tV b n k) := by
          cases ban with
          | none => exact ⟨fun w => absurd w (by show ¬ nI (tV b n k) = -1; rw [nI_m1 (by omega)]; exact id), fun w => by cases w⟩
          | some a =>
            show nI (tV b n k) = nI a ↔ _
            rw [nI_eq (by omega) (hb a rfl)]
            exact ⟨fun w => by rw [w], fun w => by cases w; rfl⟩
        by_cases y3 : ban = some (tV b n k)
        · refine bad (Or.inr (Or.inr y3)) ?_
          rw [b57_28, gi_same, if_neg (by rw [nI_ltI (by omega) hlo]; exact y1), b57_36, gi_same, if_neg (by rw [nI_ltI hhi (by omega)]; exact y2), b57_44, gi_same, if_pos (hban.mpr y3), b57_52]
        · have no : ¬ (tV b n k < lo ∨ hi < tV b n k ∨ ban = some (tV b n k)) := fun w => by
            rcases w with w | w | w
            · exact y1 w
            · exact y2 w
            · exact y3 w
          have E2 : eqx sx28 h (sm_si (sm_si h 28 5 (nI (tV b n k))) 28 4 (nI (k + 1))) := E1.si ⟨rfl, Or.inl rfl⟩
          refine Or.inr ⟨by unfold numF; rw [if_neg (show ¬ tK b n k ≠ 2 from fun w => w z), if_neg no], _, ?_, cRd_ch R E2 sx28_l gi_same (T.s hk (by omega)), (gi_slot (by decide)).trans gi_same, E2⟩
          rw [b57_28, gi_same, if_neg (by rw [nI_ltI (by omega) hlo]; exact y1), b57_36, gi_same, if_neg (by rw [nI_ltI hhi (by omega)]; exact y2), b57_44, gi_same, if_neg (fun w => y3 (hban.mp w)), b57_54, gi_slot (by decide), R.2.1, nI_add, b57_64]
  · rw [if_neg (by rw [nI_eq (by omega) (by decide)]; exact z), b57_13]
    exact Or.inl ⟨2, h, by unfold numF; rw [if_pos z], Or.inl rfl, rfl, R, eqx.rf⟩
theorem c_placeNumber {N : Nat} {ban : Option Nat} (R : cRd h b n nt k) (gN0 : sm_gi h 29 0 = nI N) (hN : 1 ≤ N ∧ N ≤ 6) (hb : ∀ a, ban = some a → a < 2 ^ 31) : (∃ e h2, numF (tK b n) (tV b n) 0 (N - 1) ban k = some e ∧ (e = 2 ∨ e = 3) ∧ xc 58 [.ref 28, .int (toI ban)] h = some ([.int (nI e)], h2) ∧ cRd h2 b n nt k ∧ eqx sx28 h h2) ∨ (numF (tK b n) (tV b n) 0 (N - 1) ban k = none ∧ ∃ h2, xc 58 [.ref 28, .int (toI ban)] h = some ([.int (nI 0)], h2) ∧ cRd h2 b n nt (k + 1) ∧ sm_gi h2 28 5 = nI (tV b n k) ∧ eqx sx28 h h2) := by
  rw [en_58, b58_0, gN0, sub1 hN.1]
  rcases c_number (lo := 0) (hi := N - 1) R (by decide) (by omega) hb with ⟨e, h2, q1, q2, e2, R2, E2⟩ | ⟨q1, h2, e2, R2, g2, E2⟩
  · refine Or.inl ⟨e, h2, q1, q2, ?_, R2, E2⟩
    rw [e2, bnd]
    simp only [app1, List.cons_append, List.nil_append]
    rw [b58_15]
  · refine Or.inr ⟨q1, h2, ?_, R2, g2, E2⟩
    rw [e2, bnd]
    simp only [app1, List.cons_append, List.nil_append]
    rw [b58_15]
end CLR
