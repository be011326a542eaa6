/-! ===== lands that are told are lands ===== -/
def dWf (D : DG) : Prop := wfG (dG D) ∧ wfX (dG D) ∧ ∀ p, p < gP (dG D) → dA D p < gN (dG D) ∧ dP D p ≤ 9 ∧ (gGol (dG D) p ≠ none → ∃ v, v ≤ 999 ∧ gBy (dG D) p = nI v)
theorem dWf.b {D : DG} (h : dWf D) : dB D := ⟨h.1.1, h.1.2.1, h.1.2.2.1, h.2.1.1⟩
theorem nbr_cong {G G' : LG} : ∀ k, (∀ r, r < k → gBri G' r = gBri G r) → nbr G' k = nbr G k
  | 0, _ => rfl
  | k + 1, h => by
    rw [show nbr G' (k + 1) = nbr G' k + (if gBri G' k = true then 1 else 0) from rfl, nbr_cong k (fun r hr => h r (by omega)), h k (by omega)]
    rfl
def flOK (c : Nat) (s : Bool × Nat) : Prop := s.2 ≤ 10 ∧ (s.1 = true → c ≠ 4)
theorem flS_ok {K V : Nat → Nat} {c k k' : Nat} {s s' : Bool × Nat} (h : flOK c s) (e : some (.inr (k', s')) = flS K V c s k) : flOK c s' := by
  unfold flS at e
  split at e
  · split at e
    · cases e
    · rename_i q
      cases e
      refine ⟨h.1, fun _ z => ?_⟩
      by_cases y : s.1 = false
      · exact q ⟨y, z⟩
      · exact h.2 (by cases hs : s.1 <;> simp_all) z
  · split at e
    · split at e
      · cases e
      · rename_i q
        cases e
        have := numF_no q
        exact ⟨this.2.2.1, h.2⟩
    · cases e
theorem flR_ok {K V : Nat → Nat} {c k k' : Nat} {s s' : Bool × Nat} (h : flOK c s) (a : flR K V c s k (.inr (k', s'))) : flOK c s' := lpR_inv (P := fun s _ => flOK c s) (fun s k k' s' hs e => flS_ok hs e) h a
theorem rdH_ok {K V : Nat → Nat} {D : DG} {k a b c : Nat} (h : rdH K V D k = .inr (a, b, c)) (hN : 2 ≤ gN (dG D)) : gR (dG D) ≠ 12 ∧ a < gN (dG D) ∧ b < gN (dG D) ∧ a ≠ b ∧ 1 ≤ c ∧ c ≤ 20 := by
  unfold rdH at h
  split at h
  · cases h
  · rename_i z0
    split at h
    · cases h
    · rename_i q1
      split at h
      · cases h
      · split at h
        · cases h
        · rename_i q3
          split at h
          · cases h
          · split at h
            · cases h
            · rename_i q5
              cases h
              have h1 := numF_no q1
              have h3 := numF_no q3
              have h5 := numF_no q5
              exact ⟨z0, by omega, by omega, fun z => h3.2.2.2 (by rw [z]), h5.2.1, h5.2.2.1⟩
theorem addR_wf {D : DG} {a b c : Nat} {s : Bool × Nat} (W : dWf D) (hR : gR (dG D) ≠ 12) (ha : a < gN (dG D)) (hb : b < gN (dG D)) (hab : a ≠ b) (hc : 1 ≤ c ∧ c ≤ 20) (hs : flOK (nbr (dG D) (gR (dG D))) s) : dWf (addR D a b c s) := by
  obtain ⟨⟨w1, w2, w3, w4, w5, w6, w7, w8, w9⟩, ⟨x1, x2⟩, y⟩ := W
  refine ⟨⟨w1, show gR (dG D) + 1 ≤ 12 by omega, w3, fun r hr => ?_, w5, w6, w7, w8, w9⟩, ⟨?_, x2⟩, y⟩
  · have hr' : r < gR (dG D) + 1 := hr
    show upF (gOne (dG D)) (gR (dG D)) a r < gN (dG D) ∧ upF (gOth (dG D)) (gR (dG D)) b r < gN (dG D) ∧ upF (gOne (dG D)) (gR (dG D)) a r ≠ upF (gOth (dG D)) (gR (dG D)) b r ∧ 1 ≤ upF (gLon (dG D)) (gR (dG D)) c r ∧ upF (gLon (dG D)) (gR (dG D)) c r ≤ 20 ∧ upF (gFlo (dG D)) (gR (dG D)) s.2 r ≤ 10
    by_cases z : r = gR (dG D)
    · rw [z, upF_s, upF_s, upF_s, upF_s]
      exact ⟨ha, hb, hab, hc.1, hc.2, hs.1⟩
    · rw [upF_o z, upF_o z, upF_o z, upF_o z]
      exact w4 r (by omega)
  · show nbr (dG (addR D a b c s)) (gR (dG D)) + (if gBri (dG (addR D a b c s)) (gR (dG D)) = true then 1 else 0) ≤ 4
    have e1 : nbr (dG (addR D a b c s)) (gR (dG D)) = nbr (dG D) (gR (dG D)) := nbr_cong _ (fun r hr => show upF (gBri (dG D)) (gR (dG D)) s.1 r = _ from upF_o (by omega))
    have e2 : gBri (dG (addR D a b c s)) (gR (dG D)) = s.1 := show upF (gBri (dG D)) (gR (dG D)) s.1 (gR (dG D)) = _ from upF_s
    rw [e1, e2]
    by_cases z : s.1 = true
    · rw [if_pos z]
      have := hs.2 z
      omega
    · rw [if_neg z]; omega
theorem addP_wf {D : DG} {a : Nat} {s : PM} (W : dWf D) (hP : gP (dG D) ≠ 6) (ha : a < gN (dG D)) (hs : pmOK (gN (dG D)) s) : dWf (addP D a s) := by
  obtain ⟨⟨w1, w2, w3, w4, w5, w6, w7, w8, w9⟩, ⟨x1, x2⟩, y⟩ := W
  refine ⟨⟨w1, w2, show gP (dG D) + 1 ≤ 6 by omega, w4, fun p hp => ?_, w6, w7, w8, w9⟩, ⟨(show nbr (dG (addP D a s)) (gR (dG D)) ≤ 4 from Nat.le_trans (Nat.le_of_eq (nbr_cong (G := dG D) _ (fun r hr => rfl))) x1), fun p hp => ?_⟩, fun p hp => ?_⟩
  · have hp' : p < gP (dG D) + 1 := hp
    show upF (gBor (dG D)) (gP (dG D)) s.1.1 p < gN (dG D) ∧ ∀ g, upF (gGol (dG D)) (gP (dG D)) s.2.1 p = some g → g < gN (dG D)
    by_cases z : p = gP (dG D)
    · rw [z, upF_s, upF_s]
      exact ⟨hs.1, fun g hg => (hs.2.2.1 g hg).1⟩
    · rw [upF_o z, upF_o z]
      exact w5 p (by omega)
  · have hp' : p < gP (dG D) + 1 := hp
    show upF (gBy (dG D)) (gP (dG D)) s.2.2 p = -1 ∨ ∃ n, n ≤ 999 ∧ upF (gBy (dG D)) (gP (dG D)) s.2.2 p = nI n
    by_cases z : p = gP (dG D)
    · rw [z, upF_s]; exact hs.2.2.2
    · rw [upF_o z]; exact x2 p (by omega)
  · have hp' : p < gP (dG D) + 1 := hp
    show upF (dA D) (gP (dG D)) a p < gN (dG D) ∧ upF (dP D) (gP (dG D)) s.1.2 p ≤ 9 ∧ (upF (gGol (dG D)) (gP (dG D)) s.2.1 p ≠ none → ∃ v, v ≤ 999 ∧ upF (gBy (dG D)) (gP (dG D)) s.2.2 p = nI v)
    by_cases z : p = gP (dG D)
    · rw [z, upF_s, upF_s, upF_s, upF_s]
      refine ⟨ha, hs.2.1, fun w => ?_⟩
      cases hg : s.2.1 with
      | none => exact absurd hg w
      | some g => exact (hs.2.2.1 g hg).2
    · rw [upF_o z, upF_o z, upF_o z, upF_o z]
      exact y p (by omega)
theorem psH_ok {K V : Nat → Nat} {D : DG} {k a : Nat} (h : psH K V D k = .inr a) (hN : 2 ≤ gN (dG D)) : gP (dG D) ≠ 6 ∧ a < gN (dG D) := by
  unfold psH at h
  split at h
  · cases h
  · rename_i z0
    split at h
    · cases h
    · split at h
      · cases h
      · rename_i q
        cases h
        have := numF_no q
        exact ⟨z0, by omega⟩
theorem bdR_wf {K V : Nat → Nat} {nt k k' : Nat} {D D' : DG} (T : TKo K V nt) (W : dWf D) (h : bdR K V D k (.inr (k', D'))) : dWf D' := by
  have hN := W.1.1.1
  unfold bdR at h
  split at h
  · unfold rdR at h
    cases hq : rdH K V D k with
    | inl x => rw [hq] at h; cases h
    | inr t =>
      obtain ⟨a, b, c⟩ := t
      rw [hq] at h
      obtain ⟨r0, h1, h2⟩ := h
      rcases r0 with x | ⟨k2, s⟩
      · cases h2
      · cases h2
        obtain ⟨q1, q2, q3, q4, q5, q6⟩ := rdH_ok hq hN
        exact addR_wf W q1 q2 q3 q4 ⟨q5, q6⟩ (flR_ok ⟨Nat.zero_le _, fun z => by cases z⟩ h1)
  · split at h
    · unfold psR at h
      cases hq : psH K V D k with
      | inl x => rw [hq] at h; cases h
      | inr a =>
        rw [hq] at h
        obtain ⟨r0, h1, h2⟩ := h
        rcases r0 with x | ⟨k2, s⟩
        · cases h2
        · cases h2
          obtain ⟨q1, q2⟩ := psH_ok hq hN
          exact addP_wf W q1 q2 (pmR_ok hN ⟨q2, Nat.zero_le _, (fun g hg => by cases hg), Or.inl rfl⟩ h1)
    · obtain ⟨⟨w1, w2, w3, w4, w5, w6, w7, w8, w9⟩, x, y⟩ := W
      split at h
      · unfold lwR at h
        split at h
        · cases h
        · obtain ⟨r0, h1, h2⟩ := h
          rcases r0 with z | ⟨k2, c⟩
          · cases h2
          · cases h2
            have hl := TrD_law T h1
            exact ⟨⟨w1, w2, w3, w4, w5, (fun cs e => by cases e; exact hl.1), w7, (fun cs e => by cases e; exact hl.2), w9⟩, ⟨(show nbr (dG (setL D c)) (gR (dG D)) ≤ 4 from Nat.le_trans (Nat.le_of_eq (nbr_cong (G := dG D) _ (fun r hr => rfl))) x.1), x.2⟩, y⟩
      · split at h
        · unfold lwR at h
          split at h
          · cases h
          · obtain ⟨r0, h1, h2⟩ := h
            rcases r0 with z | ⟨k2, c⟩
            · cases h2
            · cases h2
              have hl := SmR_law T h1
              exact ⟨⟨w1, w2, w3, w4, w5, w6, (fun cs e => by cases e; exact hl.1), w8, (fun cs e => by cases e; exact hl.2)⟩, ⟨(show nbr (dG (setT D c)) (gR (dG D)) ≤ 4 from Nat.le_trans (Nat.le_of_eq (nbr_cong (G := dG D) _ (fun r hr => rfl))) x.1), x.2⟩, y⟩
        · cases h
theorem semi_wf {K : Nat → Nat} {r : SR DG} {k' : Nat} {D' : DG} (h : ∀ k D, r = .inr (k, D) → dWf D) (e : semi K r = .inr (k', D')) : dWf D' := by
  rcases r with x | ⟨k, D⟩
  · cases e
  · unfold semi at e
    dsimp only at e
    split at e
    · cases e; exact h k D rfl
    · cases e
theorem lnS_wf {K V : Nat → Nat} {nt k k' : Nat} {D D' : DG} (T : TKo K V nt) (W : dWf D) (h : lnS K V D k (some (.inr (k', D')))) : dWf D' := by
  unfold lnS at h
  split at h
  · cases h
  · obtain ⟨r, h1, h2⟩ := h
    refine semi_wf (r := r) (fun k2 D2 e => ?_) (Option.some.inj h2).symm
    rw [e] at h1
    exact bdR_wf T W h1
theorem D0_wf {v : Nat} (h : 2 ≤ v ∧ v ≤ 6) : dWf (D0 v) := ⟨⟨h, Nat.zero_le _, Nat.zero_le _, fun r hr => absurd hr (Nat.not_lt_zero r), fun p hp => absurd hp (Nat.not_lt_zero p), (fun cs e => by cases e), (fun cs e => by cases e), (fun cs e => by cases e), (fun cs e => by cases e)⟩, ⟨Nat.zero_le _, fun p hp => absurd hp (Nat.not_lt_zero p)⟩, fun p hp => absurd hp (Nat.not_lt_zero p)⟩
theorem hdF_ok {K V : Nat → Nat} {v : Nat} (h : hdF K V = .inr v) : 2 ≤ v ∧ v ≤ 6 := by
  unfold hdF at h
  split at h
  · cases h
  · split at h
    · cases h
    · rename_i q
      split at h
      · cases h
      · cases h
        have := numF_no q
        exact ⟨this.2.1, this.2.2.1⟩
