/-! ===== lands copied; images ===== -/
theorem c_copyLaw {o a : Nat} {l : Option (List Nat)} {h : sm_H} (ho : sm_isQ o) (ha : sm_isQ a) (hd : a + 2 ≤ o ∨ o + 2 ≤ a) (hl : cLaw h a l) : ∃ h2, xc 40 [.ref o, .ref a] h = some ([], h2) ∧ cLaw h2 o l ∧ eqx (fun c _ => c = o ∨ c = o + 1) h h2 := by
  obtain ⟨n, hn, hg⟩ : ∃ n, n ≤ 900 ∧ sm_gi h a 2 = nI n := by
    cases l with
    | none => exact ⟨0, by decide, hl⟩
    | some cs => exact ⟨cs.length, hl.2.2.1, hl.1⟩
  rw [en_40, b40_0 ha ho, hg, b40_8 ha ho, gi_same, show (nI 0).toNatClampNeg = 0 from nI_clamp (by decide), nI_clamp (by omega), if_pos ⟨by decide, by decide, by rw [show (0 : Int32) = nI 0 from rfl, nI_leI (by omega) (by omega)]; omega, by rw [ha.ln1]; omega, by rw [ho.ln1]; omega⟩, b40_25]
  refine ⟨_, rfl, ?_, eqx.cp (eqx.si eqx.rf (Or.inl rfl)) (fun i => Or.inr rfl)⟩
  cases l with
  | none =>
    show sm_gi _ o 2 = nI 0
    rw [gi_cpn (by omega), gi_same, ← hg]
    exact hl
  | some cs =>
    have hnn : n = cs.length := by
      have := hl.1
      rw [hg] at this
      exact (nI_eq (by omega) (by have := hl.2.2.1; omega)).mp this
    subst hnn
    refine ⟨?_, hl.2.1, hl.2.2.1, fun k hk => ?_⟩
    · rw [gi_cpn (by omega), gi_same]
    · rw [gi_cp0 hk, gi_cell (by omega)]
      exact hl.2.2.2 k hk
def sxLd (o : Nat) : Nat → Nat → Prop := fun c _ => o ≤ c ∧ c < o + 15
theorem c_copyLand {o a : Nat} {G : LG} {h : sm_H} (ho : sm_isD o) (ha : sm_isD a) (q1 : sm_isQ (o + 10)) (q2 : sm_isQ (o + 13)) (q3 : sm_isQ (a + 10)) (q4 : sm_isQ (a + 13)) (hd : a + 15 ≤ o ∨ o + 15 ≤ a) (hw : wfG G) (hG : cG h a G) : ∃ h2, xc 32 [.ref o, .ref a] h = some ([], h2) ∧ cG h2 o G ∧ sm_gi h2 o 1 = sm_gi h a 1 ∧ eqx (sxLd o) h h2 := by
  have hR := hw.2.1
  have hP := hw.2.2.1
  rw [en_32, b32_0 ha ho, b32_8 ha ho, b32_16 ha ho, b32_24 ha ho, b32_32 ha ho,
    b32_40 ha ho, if_pos (by rw [ha.ln1, ho.ln1]; decide +kernel), b32_55 ha ho, if_pos (by rw [ha.ln2, ho.ln2]; decide +kernel), b32_70 ha ho, if_pos (by rw [ha.ln3, ho.ln3]; decide +kernel), b32_85 ha ho, if_pos (by rw [ha.ln4, ho.ln4]; decide +kernel),
    b32_100 ha ho, if_pos (by rw [ha.ln5, ho.ln5]; decide +kernel), b32_115 ha ho, if_pos (by rw [ha.ln6, ho.ln6]; decide +kernel), b32_130 ha ho, if_pos (by rw [ha.ln7, ho.ln7]; decide +kernel), b32_145 ha ho, if_pos (by rw [ha.ln8, ho.ln8]; decide +kernel), b32_160 ha ho, if_pos (by rw [ha.ln9, ho.ln9]; decide +kernel)]
  rw [show (nI 0).toNatClampNeg = 0 from nI_clamp (by decide), show (nI 6).toNatClampNeg = 6 from nI_clamp (by decide), show (nI 12).toNatClampNeg = 12 from nI_clamp (by decide)]
  have key : ∀ hh, (eqx (sxLd o) h hh) → (∀ i, i < 5 → sm_gi hh o i = sm_gi h a i) → (∀ c i, 1 ≤ c → c ≤ 4 → i < 12 → sm_gi hh (o + c) i = sm_gi h (a + c) i) → (∀ c i, 5 ≤ c → c ≤ 9 → i < 6 → sm_gi hh (o + c) i = sm_gi h (a + c) i) → ∃ h2, xe 2 32 175 [.ref o, .ref a] [] hh = some ([], h2) ∧ cG h2 o G ∧ sm_gi h2 o 1 = sm_gi h a 1 ∧ eqx (sxLd o) h h2 := by
    intro hh E f1 f2 f3
    have l1 : cLaw hh (a + 10) (gLet G) := cLaw_eqx hG.2.2.2.1 E (fun c i z => by unfold sxLd at z; omega)
    obtain ⟨h3, e3, c3, E3⟩ := c_copyLaw q1 q3 (by omega) l1
    rw [b32_175 ho ha q1, e3, bnd]
    simp only [List.nil_append]
    have l2 : cLaw h3 (a + 13) (gTol G) := cLaw_eqx (cLaw_eqx hG.2.2.2.2 E (fun c i z => by unfold sxLd at z; omega)) E3 (fun c i z => by omega)
    obtain ⟨h4, e4, c4, E4⟩ := c_copyLaw q2 q4 (by omega) l2
    rw [b32_186 ho ha q2, e4, bnd]
    simp only [List.nil_append]
    rw [b32_197]
    have E34 : eqx (fun c _ => c = o + 10 ∨ c = o + 11 ∨ c = o + 13 ∨ c = o + 14) hh h4 := (E3.wk (fun c i z => by omega)).tr (E4.wk (fun c i z => by omega))
    have g : ∀ c i, (c < o + 10 ∨ o + 15 ≤ c) → sm_gi h4 c i = sm_gi hh c i := fun c i z => E34.1 c i (by omega)
    refine ⟨h4, rfl, ⟨⟨?_, ?_, ?_, ?_⟩, fun r hr => ⟨?_, ?_, ?_, ?_⟩, fun p hp => ⟨?_, ?_, ?_⟩, cLaw_eqx c3 E4 (fun c i z => by omega), c4⟩, ?_, E.tr (E34.wk (fun c i z => by unfold sxLd; omega))⟩
    · rw [g o 0 (by omega), f1 0 (by decide)]; exact hG.1.1
    · rw [g o 2 (by omega), f1 2 (by decide)]; exact hG.1.2.1
    · rw [g o 3 (by omega), f1 3 (by decide)]; exact hG.1.2.2.1
    · rw [g o 4 (by omega), f1 4 (by decide)]; exact hG.1.2.2.2
    · rw [g _ r (by omega), f2 1 r (by decide) (by decide) (by omega)]; exact (hG.2.1 r hr).1
    · rw [g _ r (by omega), f2 2 r (by decide) (by decide) (by omega)]; exact (hG.2.1 r hr).2.1
    · rw [g _ r (by omega), f2 3 r (by decide) (by decide) (by omega)]; exact (hG.2.1 r hr).2.2.1
    · rw [g _ r (by omega), f2 4 r (by decide) (by decide) (by omega)]; exact (hG.2.1 r hr).2.2.2
    · rw [g _ p (by omega), f3 6 p (by decide) (by decide) (by omega)]; exact (hG.2.2.1 p hp).1
    · rw [g _ p (by omega), f3 8 p (by decide) (by decide) (by omega)]; exact (hG.2.2.1 p hp).2.1
    · rw [g _ p (by omega), f3 9 p (by decide) (by decide) (by omega)]; exact (hG.2.2.1 p hp).2.2
    · rw [g o 1 (by omega), f1 1 (by decide)]
  refine key _ ?_ ?_ ?_ ?_
  · refine eqx.cp (eqx.cp (eqx.cp (eqx.cp (eqx.cp (eqx.cp (eqx.cp (eqx.cp (eqx.cp (eqx.si (eqx.si (eqx.si (eqx.si (eqx.si eqx.rf ?_) ?_) ?_) ?_) ?_) ?_) ?_) ?_) ?_) ?_) ?_) ?_) ?_) ?_ <;> (try intro i) <;> unfold sxLd <;> omega
  · intro i hi
    rcases (show i = 0 ∨ i = 1 ∨ i = 2 ∨ i = 3 ∨ i = 4 by omega) with rfl | rfl | rfl | rfl | rfl <;> simp (disch := omega) only [gi_same, gi_cell, gi_slot, gi_cpn]
  · intro c i h1 h2 hi
    rcases (show c = 1 ∨ c = 2 ∨ c = 3 ∨ c = 4 by omega) with rfl | rfl | rfl | rfl <;> simp (disch := omega) only [gi_same, gi_cell, gi_slot, gi_cpn, gi_cp0]
  · intro c i h1 h2 hi
    rcases (show c = 5 ∨ c = 6 ∨ c = 7 ∨ c = 8 ∨ c = 9 by omega) with rfl | rfl | rfl | rfl | rfl <;> simp (disch := omega) only [gi_same, gi_cell, gi_slot, gi_cpn, gi_cp0]
