/-! ===== lines are read: the model, roads ===== -/
def sxRf : Nat → Nat → Prop := fun c i => c = 173 ∨ (c = 169 ∧ (i = 6 ∨ i = 7 ∨ i = 9 ∨ i = 10 ∨ i = 11 ∨ i = 12))
theorem sxN_Rf : ∀ c i, sxNx c i → sxRf c i := fun c i z => by unfold sxNx at z; unfold sxRf; omega
theorem sxRd_f : ∀ c i, sxRd c i → sxRf c i := fun c i z => by unfold sxRd at z; unfold sxRf; omega
def mLw (f : Nat → Int32) (L Nc : Nat) : Option (List Nat) → Prop
  | none => f (4 + L) = nI 0
  | some cs => f (4 + L) = nI 1 ∧ ∃ F, f (6 + L) = nI F ∧ f (8 + L) = nI cs.length ∧ F + cs.length ≤ Nc ∧ ∀ k, k < cs.length → f (376 + F + k) = nI (cs.getD k 0)
/-- the draft in the model's row: roads from r0 on, people from q0 on are untouched -/
def mDr (f : Nat → Int32) (D : DG) (Nc r0 q0 : Nat) : Prop := (f 0 = nI (dL D) ∧ f 1 = nI (gN (dG D)) ∧ f 2 = nI (gR (dG D)) ∧ f 3 = nI (gP (dG D)) ∧ f 88 = nI 0 ∧ f 89 = nI 0 ∧ f 114 = nI 0 ∧ f 375 = nI Nc) ∧
  (∀ r, r < gR (dG D) → f (10 + r) = nI (gOne (dG D) r) ∧ f (22 + r) = nI (gOth (dG D) r) ∧ f (34 + r) = nI (gLon (dG D) r) ∧ f (46 + r) = nI (if gBri (dG D) r then 1 else 0) ∧ f (58 + r) = nI (gFlo (dG D) r)) ∧
  (∀ r, r0 ≤ r → r < 12 → f (46 + r) = nI 0 ∧ f (58 + r) = nI 0) ∧
  (∀ p, p < gP (dG D) → f (70 + p) = nI (gBor (dG D) p) ∧ f (76 + p) = toI (gGol (dG D) p) ∧ f (82 + p) = gBy (dG D) p ∧ f (90 + p) = nI (dA D p) ∧ f (102 + p) = nI (dP D p) ∧ f (108 + p) = nI (2 ^ dA D p ||| 2 ^ gBor (dG D) p)) ∧
  (∀ p, q0 ≤ p → p < 6 → f (76 + p) = -1 ∧ f (82 + p) = -1 ∧ f (102 + p) = nI 0) ∧ (∀ p, p < 6 → f (96 + p) = nI 0) ∧
  mLw f 0 Nc (gLet (dG D)) ∧ mLw f 1 Nc (gTol (dG D))
/-- places of the row that may change while the next road or person is read -/
def opn (D : DG) (Nc r0 q0 i : Nat) : Prop := (10 + gR (dG D) ≤ i ∧ i < 22) ∨ (22 + gR (dG D) ≤ i ∧ i < 34) ∨ (34 + gR (dG D) ≤ i ∧ i < 46) ∨ (46 + gR (dG D) ≤ i ∧ i < 46 + r0) ∨ (58 + gR (dG D) ≤ i ∧ i < 58 + r0) ∨ (70 + gP (dG D) ≤ i ∧ i < 76) ∨ (76 + gP (dG D) ≤ i ∧ i < 76 + q0) ∨ (82 + gP (dG D) ≤ i ∧ i < 82 + q0) ∨ (90 + gP (dG D) ≤ i ∧ i < 96) ∨ (102 + gP (dG D) ≤ i ∧ i < 102 + q0) ∨ (108 + gP (dG D) ≤ i ∧ i < 114) ∨ 376 + Nc ≤ i
theorem mLw_ch {f f' : Nat → Int32} {L Nc : Nat} {o : Option (List Nat)} (hL : L < 2) (H : mLw f L Nc o) (E : ∀ i, (4 ≤ i ∧ i < 10) ∨ (376 ≤ i ∧ i < 376 + Nc) → f' i = f i) : mLw f' L Nc o := by
  cases o with
  | none => exact (E _ (by omega)).trans H
  | some cs =>
    obtain ⟨h1, F, h2, h3, h4, h5⟩ := H
    exact ⟨(E _ (by omega)).trans h1, F, (E _ (by omega)).trans h2, (E _ (by omega)).trans h3, h4, fun k hk => (E _ (by omega)).trans (h5 k hk)⟩
theorem mLw_up {f : Nat → Int32} {L Nc M : Nat} {o : Option (List Nat)} (H : mLw f L Nc o) (h : Nc ≤ M) : mLw f L M o := by
  cases o with
  | none => exact H
  | some cs =>
    obtain ⟨h1, F, h2, h3, h4, h5⟩ := H
    exact ⟨h1, F, h2, h3, by omega, h5⟩
theorem mDr_ch {f f' : Nat → Int32} {D : DG} {Nc r0 q0 : Nat} (hR : gR (dG D) ≤ 12) (hP : gP (dG D) ≤ 6) (hr : r0 ≤ 12) (hq : q0 ≤ 6) (H : mDr f D Nc r0 q0) (E : ∀ i, ¬ opn D Nc r0 q0 i → f' i = f i) : mDr f' D Nc r0 q0 := by
  obtain ⟨⟨a1, a2, a3, a4, a5, a6, a7, a8⟩, b, c, d, e, g, l1, l2⟩ := H
  have E' : ∀ i, i < 10 ∨ (i = 88 ∨ i = 89 ∨ i = 114 ∨ i = 375) ∨ (10 ≤ i ∧ i < 10 + gR (dG D)) ∨ (22 ≤ i ∧ i < 22 + gR (dG D)) ∨ (34 ≤ i ∧ i < 34 + gR (dG D)) ∨ (46 ≤ i ∧ i < 46 + gR (dG D)) ∨ (58 ≤ i ∧ i < 58 + gR (dG D)) ∨ (46 + r0 ≤ i ∧ i < 58) ∨ (58 + r0 ≤ i ∧ i < 70) → f' i = f i := fun i z => E i (by unfold opn; omega)
  have E2 : ∀ i, (70 ≤ i ∧ i < 70 + gP (dG D)) ∨ (76 ≤ i ∧ i < 76 + gP (dG D)) ∨ (82 ≤ i ∧ i < 82 + gP (dG D)) ∨ (90 ≤ i ∧ i < 90 + gP (dG D)) ∨ (102 ≤ i ∧ i < 102 + gP (dG D)) ∨ (108 ≤ i ∧ i < 108 + gP (dG D)) ∨ (76 + q0 ≤ i ∧ i < 82) ∨ (82 + q0 ≤ i ∧ i < 88) ∨ (102 + q0 ≤ i ∧ i < 108) ∨ (96 ≤ i ∧ i < 102) ∨ (376 ≤ i ∧ i < 376 + Nc) → f' i = f i := fun i z => E i (by unfold opn; omega)
  refine ⟨⟨(E' 0 (by omega)).trans a1, (E' 1 (by omega)).trans a2, (E' 2 (by omega)).trans a3, (E' 3 (by omega)).trans a4, (E' 88 (by omega)).trans a5, (E' 89 (by omega)).trans a6, (E' 114 (by omega)).trans a7, (E' 375 (by omega)).trans a8⟩, fun r z => ?_, fun r z1 z2 => ?_, fun p z => ?_, fun p z1 z2 => ?_, fun p z => (E2 _ (by omega)).trans (g p z), mLw_ch (by decide) l1 (fun i z => ?_), mLw_ch (by decide) l2 (fun i z => ?_)⟩
  · obtain ⟨x1, x2, x3, x4, x5⟩ := b r z
    exact ⟨(E' _ (by omega)).trans x1, (E' _ (by omega)).trans x2, (E' _ (by omega)).trans x3, (E' _ (by omega)).trans x4, (E' _ (by omega)).trans x5⟩
  · obtain ⟨x1, x2⟩ := c r z1 z2
    exact ⟨(E' _ (by omega)).trans x1, (E' _ (by omega)).trans x2⟩
  · obtain ⟨x1, x2, x3, x4, x5, x6⟩ := d p z
    exact ⟨(E2 _ (by omega)).trans x1, (E2 _ (by omega)).trans x2, (E2 _ (by omega)).trans x3, (E2 _ (by omega)).trans x4, (E2 _ (by omega)).trans x5, (E2 _ (by omega)).trans x6⟩
  · obtain ⟨x1, x2, x3⟩ := e p z1 z2
    exact ⟨(E2 _ (by omega)).trans x1, (E2 _ (by omega)).trans x2, (E2 _ (by omega)).trans x3⟩
  · rcases z with z | z
    · exact E' i (by omega)
    · exact E2 i (by omega)
  · rcases z with z | z
    · exact E' i (by omega)
    · exact E2 i (by omega)
theorem mDr_mn {f : Nat → Int32} {D : DG} {Nc r0 q0 r1 q1 : Nat} (H : mDr f D Nc r0 q0) (hr : r0 ≤ r1) (hq : q0 ≤ q1) : mDr f D Nc r1 q1 := ⟨H.1, H.2.1, fun r z1 z2 => H.2.2.1 r (by omega) z2, H.2.2.2.1, fun p z1 z2 => H.2.2.2.2.1 p (by omega) z2, H.2.2.2.2.2⟩
theorem mDr_eqx {S : Nat → Nat → Prop} {h h2 : sm_H} {D : DG} {Nc r0 q0 : Nat} (H : mDr (sm_gi h 173) D Nc r0 q0) (E : eqx S h h2) (hS : ∀ i, ¬ S 173 i) : mDr (sm_gi h2 173) D Nc r0 q0 := by
  rw [show sm_gi h2 173 = sm_gi h 173 from funext fun i => E.1 173 i (hS i)]
  exact H
section MLN
variable {b : Nat → Nat} {n nt k : Nat} {h : sm_H}
theorem m_takesN_d {u v : Int32} (hd : sm_gi h 169 11 ≠ 0) : xc 158 [.ref 169, .int u, .int v] h = some ([.int (sm_gi h 169 10)], h) := by
  rw [en_158, b158_0, m_is_d hd, bnd]
  simp only [app1, List.cons_append, List.nil_append]
  rw [b158_6, if_pos (show nI 0 = 0 from rfl), b158_9, m_fails_d hd, bnd]
  simp only [List.nil_append]
  rw [b158_14, b158_37, if_neg hd, b158_53]
/-- a number: read, or its fault -/
theorem m_takesN {lo hi : Nat} (T : TKo (tK b n) (tV b n) nt) (R : mR h b n k) (hlo : lo < 2 ^ 31) (hhi : hi < 2 ^ 31) : (∃ e h2 v, numF (tK b n) (tV b n) lo hi none k = some e ∧ xc 158 [.ref 169, .int (nI lo), .int (nI hi)] h = some ([.int v], h2) ∧ mBd h2 b n e k ∧ eqx (fun c i => c = 169 ∧ (i = 11 ∨ i = 12)) h h2) ∨ (numF (tK b n) (tV b n) lo hi none k = none ∧ tK b n k = 2 ∧ ∃ h2, xc 158 [.ref 169, .int (nI lo), .int (nI hi)] h = some ([.int (nI (tV b n k))], h2) ∧ mR h2 b n (k + 1) ∧ eqx sxNx h h2) := by
  rw [en_158, b158_0, m_is R (c := 2) (v := 23) (by decide) rfl, bnd]
  simp only [app1, List.cons_append, List.nil_append]
  rw [b158_6]
  by_cases z : tK b n k = 2
  · have hv := T.2.2.2.2 k z
    have g10 : sm_gi h 169 10 = nI (tV b n k) := R.2.1.2.2.2 z
    rw [if_neg (by rw [bI_z]; exact fun y => y z), b158_17, g10, m_within, bnd]
    simp only [app1, List.cons_append, List.nil_append]
    have hw : ((nI lo).toInt64 ≤ (nI (tV b n k)).toInt64 ∧ (nI (tV b n k)).toInt64 ≤ (nI hi).toInt64) ↔ (lo ≤ tV b n k ∧ tV b n k ≤ hi) := by
      rw [nI_l hlo, nI_l hhi, nI_l (by omega), l_le (by omega) (by omega), l_le (by omega) (by omega)]
    rw [b158_29, bI_congr hw]
    by_cases y : lo ≤ tV b n k ∧ tV b n k ≤ hi
    · obtain ⟨h2, e2, R2, E2⟩ := m_nextR R (by omega)
      have hno : ¬ (tV b n k < lo ∨ hi < tV b n k ∨ none = some (tV b n k)) := fun x => by
        rcases x with x | x | x
        · omega
        · omega
        · cases x
      rw [if_neg (by rw [bI_z]; exact fun x => x y), b158_37, R.2.2, if_pos (show nI 0 = 0 from rfl), g10, b158_49, e2, bnd]
      simp only [List.nil_append]
      rw [b158_53]
      exact Or.inr ⟨by unfold numF; rw [if_neg (fun x => x z), if_neg hno], z, h2, rfl, R2, E2⟩
    · obtain ⟨h2, e2, B2, E2⟩ := m_fails (e := 3) R (by omega)
      have hyes : tV b n k < lo ∨ hi < tV b n k ∨ none = some (tV b n k) := by omega
      rw [if_pos (by rw [bI_z]; exact y), b158_32, e2, bnd]
      simp only [List.nil_append]
      rw [b158_37, if_neg B2.d, b158_53]
      exact Or.inl ⟨3, h2, _, by unfold numF; rw [if_neg (fun x => x z), if_pos hyes], rfl, B2, E2⟩
  · obtain ⟨h2, e2, B2, E2⟩ := m_fails (e := 2) R (by omega)
    rw [if_pos (by rw [bI_z]; exact z), b158_9, e2, bnd]
    simp only [List.nil_append]
    rw [b158_14, b158_37, if_neg B2.d, b158_53]
    exact Or.inl ⟨2, h2, _, by unfold numF; rw [if_pos z], rfl, B2, E2⟩
theorem m_bin_loop {D : DG} (H : ∀ r, r < 12 → sm_gi h 173 (46 + r) = nI (if r < gR (dG D) ∧ gBri (dG D) r = true then 1 else 0)) : ∀ (m r : Nat), r + m = 12 → xe 1 169 4 [.ref 169, .int (nI (nbr (dG D) (min r (gR (dG D))))), .int (nI r)] [] h = some ([.int (nI (nbr (dG D) (min 12 (gR (dG D)))))], h)
  | 0, r, e => by
    have : r = 12 := by omega
    subst this
    rw [b169_4, if_pos (Int32.le_refl _), b169_28]
  | m + 1, r, e => by
    have ih := m_bin_loop H m (r + 1) (by omega)
    rw [b169_4, if_neg (by rw [nI_leI (by decide) (by omega)]; omega), b169_10, nI_add]
    simp (disch := omega) only [in_173, if_true, nI_clamp, H r (by omega), nI_add]
    by_cases z : r < gR (dG D)
    · rw [show min (r + 1) (gR (dG D)) = r + 1 by omega, show nbr (dG D) (r + 1) = nbr (dG D) r + (if gBri (dG D) r = true then 1 else 0) from rfl] at ih
      rw [show min r (gR (dG D)) = r by omega]
      by_cases y : gBri (dG D) r = true
      · rw [if_pos y] at ih
        rw [if_pos ⟨z, y⟩]
        exact ih
      · rw [if_neg y] at ih
        rw [if_neg (fun x => y x.2)]
        exact ih
    · rw [show min (r + 1) (gR (dG D)) = min r (gR (dG D)) by omega] at ih
      rw [if_neg (fun x => z x.1)]
      exact ih
end MLN
