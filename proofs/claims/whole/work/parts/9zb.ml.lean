/-! ===== land: the model ===== -/
def D00 (N : Nat) : DG := (((((N, 0, 0), (fun _ => 0, fun _ => 0, fun _ => 0, fun _ => false, fun _ => 0), (fun _ => 0, fun _ => none, fun _ => -1), (none, none)) : LG), 0), fun _ => 0, fun _ => 0)
theorem ln_dr {f f' : Nat → Int32} {D : DG} {Nc r0 q0 : Nat} (M : mDr f D Nc r0 q0) (hr : r0 ≤ 12) (hR : gR (dG D) ≤ 12) (hP : gP (dG D) ≤ 6) (e : f' 0 = nI (dL D + 1)) (F : ∀ i, i ≠ 0 → f' i = f i) : mDr f' (lnUp D) Nc r0 q0 := by
  obtain ⟨⟨x1, x2, x3, x4, x5, x6, x7, x8⟩, B, C, P, Q1, U, L1, L2⟩ := M
  refine ⟨⟨e, (F 1 (by omega)).trans x2, (F 2 (by omega)).trans x3, (F 3 (by omega)).trans x4, (F 88 (by omega)).trans x5, (F 89 (by omega)).trans x6, (F 114 (by omega)).trans x7, (F 375 (by omega)).trans x8⟩, fun r hr => ?_, fun r h1 h2 => ?_, fun p hp => ?_, fun p h1 h2 => ?_, fun p hp => (F _ (by omega)).trans (U p hp), mLw_ch (by decide) L1 (fun i z => F i (by omega)), mLw_ch (by decide) L2 (fun i z => F i (by omega))⟩
  · obtain ⟨y1, y2, y3, y4, y5⟩ := B r hr
    exact ⟨(F _ (by omega)).trans y1, (F _ (by omega)).trans y2, (F _ (by omega)).trans y3, (F _ (by omega)).trans y4, (F _ (by omega)).trans y5⟩
  · obtain ⟨y1, y2⟩ := C r h1 h2
    exact ⟨(F _ (by omega)).trans y1, (F _ (by omega)).trans y2⟩
  · obtain ⟨y1, y2, y3, y4, y5, y6⟩ := P p hp
    exact ⟨(F _ (by omega)).trans y1, (F _ (by omega)).trans y2, (F _ (by omega)).trans y3, (F _ (by omega)).trans y4, (F _ (by omega)).trans y5, (F _ (by omega)).trans y6⟩
  · obtain ⟨y1, y2, y3⟩ := Q1 p h1 h2
    exact ⟨(F _ (by omega)).trans y1, (F _ (by omega)).trans y2, (F _ (by omega)).trans y3⟩
section MLD
variable {b : Nat → Nat} {n nt k : Nat} {h : sm_H}
/-- behind a line -/
theorem m_ends_d (B : ∃ e, mBd h b n e k) : ∃ h2, xc 175 [.ref 169] h = some ([], h2) ∧ (∀ e, mBd h b n e k → mBd h2 b n e k) ∧ eqx sxRf h h2 := by
  obtain ⟨e, B⟩ := B
  have i0 : sm_in 173 (nI 0) := (in_173 (by decide)).mpr trivial
  rw [en_175, b175_0, m_eats_d B.d, bnd]
  simp only [app1, List.cons_append, List.nil_append]
  rw [b175_6, if_pos (show nI 0 = 0 from rfl), b175_9, m_fails_d B.d, bnd]
  simp only [List.nil_append]
  rw [b175_14, if_pos i0, if_pos i0, b175_24]
  exact ⟨_, rfl, fun e B => mBd_173 B, f_173 eqx.rf⟩
theorem m_ends {D : DG} {Nc : Nat} (T : TKo (tK b n) (tV b n) nt) (hB : dB D) (R : mR h b n k) (M : mDr (sm_gi h 173) D Nc (gR (dG D)) (gP (dG D))) (hN : Nc ≤ k) (hk : k ≤ nt) : ∃ h2, xc 175 [.ref 169] h = some ([], h2) ∧ eqx sxRf h h2 ∧ match semi (tK b n) (.inr (k, D)) with
    | .inl (e, k') => mBd h2 b n e k'
    | .inr (k', D') => k < k' ∧ k' ≤ nt ∧ mR h2 b n k' ∧ mDr (sm_gi h2 173) D' Nc (gR (dG D')) (gP (dG D')) := by
  obtain ⟨-, hR, hP, -⟩ := hB
  have i0 : sm_in 173 (nI 0) := (in_173 (by decide)).mpr trivial
  rw [en_175, b175_0]
  rcases m_eats R (c := 59) (v := 30) (by decide) (by decide) rfl with ⟨z, h1, e1, R1, E1⟩ | ⟨z, e1⟩
  · have M1 := mDr_eqx M E1 n173N
    have g0 : sm_gi h1 173 0 = nI (dL D) := M1.1.1
    rw [e1, bnd]
    simp only [app1, List.cons_append, List.nil_append]
    rw [b175_6, if_neg (by decide), b175_14, if_pos i0, if_pos i0, show (nI 0).toNatClampNeg = 0 from rfl, g0, nI_add, b175_24]
    refine ⟨_, rfl, f_173 (E1.wk sxN_Rf), ?_⟩
    rw [show semi (tK b n) (.inr (k, D)) = if tK b n k = 59 then .inr (k + 1, lnUp D) else .inl (2, k) from rfl, if_pos z]
    exact ⟨by omega, T.s hk (by omega), mR_173 R1, ln_dr M1 hR hR hP gi_same (fun i w => gi_slot w)⟩
  · obtain ⟨h2, e2, B2, E2⟩ := m_fails (e := 2) R (by omega)
    rw [e1, bnd]
    simp only [app1, List.cons_append, List.nil_append]
    rw [b175_6, if_pos (show nI 0 = 0 from rfl), b175_9, e2, bnd]
    simp only [List.nil_append]
    rw [b175_14, if_pos i0, if_pos i0, b175_24]
    refine ⟨_, rfl, f_173 (fl_f E2), ?_⟩
    rw [show semi (tK b n) (.inr (k, D)) = if tK b n k = 59 then .inr (k + 1, lnUp D) else .inl (2, k) from rfl, if_neg z]
    exact mBd_173 B2
/-- what is read of a land by the model -/
def ldO (h2 : sm_H) (b : Nat → Nat) (n : Nat) : SR DG → Prop
  | .inl (e, k') => mBd h2 b n e k'
  | .inr (_, D') => sm_gi h2 169 11 = nI 0 ∧ dWf D' ∧ ∃ Nc, Nc ≤ 900 ∧ mDr (sm_gi h2 173) D' Nc (gR (dG D')) (gP (dG D'))
theorem m_land_loop {l1 : Int32} (T : TKo (tK b n) (tV b n) nt) : ∀ (m k Nc : Nat) (D : DG) (h : sm_H), nt - k < m → k ≤ nt → Nc ≤ k → dWf D → mR h b n k → mDr (sm_gi h 173) D Nc (gR (dG D)) (gP (dG D)) → ∃ r h2, lpR (lnS (tK b n) (tV b n)) D k r ∧ xe 82 176 83 [.ref 169, .int l1, .null] [] h = xe 82 176 110 [.ref 169, .int l1, .null] [] h2 ∧ ldO h2 b n r ∧ eqx sxRf h h2 := fun m => by
  induction m with
  | zero => intro k Nc D h hm; omega
  | succ m ih =>
    intro k Nc D h hm hk hN W R M
    have h900 := T.2.2.1
    have hKL : tK b n k ∈ KL := tkK_KL
    have hlt := mKd_lt _ hKL
    have g9 : sm_gi h 169 9 = nI (mKd (tK b n k)) := R.2.1.2.2.1
    rw [b176_83, R.2.2, if_pos (show nI 0 = 0 from rfl), b176_90, g9]
    by_cases z : tK b n k = 0
    · rw [if_pos (by rw [z]; rfl)]
      exact ⟨.inr (k, D), h, lpR_stop (by unfold lnS; rw [if_pos z]), rfl, ⟨R.2.2, W, Nc, by omega, M⟩, eqx.rf⟩
    · rw [if_neg (show ¬ nI (mKd (tK b n k)) = nI 24 from fun y => z (mKd_inj _ hKL 0 (by decide) ((nI_eq (by omega) (by decide)).mp y)))]
      obtain ⟨r, h1, a1, e1, o1, E1⟩ := m_readLine T W.b R M hN hk
      have hst : lnS (tK b n) (tV b n) D k (some (semi (tK b n) r)) := by unfold lnS; rw [if_neg z]; exact ⟨r, a1, rfl⟩
      rw [b176_99, e1, bnd]
      simp only [List.nil_append]
      rw [b176_103]
      rcases r with ⟨e, k'⟩ | ⟨k', D'⟩
      · obtain ⟨h2, e2, B2, E2⟩ := m_ends_d (k := k') ⟨e, o1⟩
        have B3 := B2 e o1
        rw [e2, bnd]
        simp only [List.nil_append]
        rw [b176_107, b176_83, if_neg B3.d]
        exact ⟨.inl (e, k'), h2, lpR_bad hst, rfl, B3, E1.tr E2⟩
      · obtain ⟨p1, p2, p3, Nc', p4, p5⟩ := o1
        have W' := bdR_wf T W a1
        obtain ⟨h2, e2, E2, o2⟩ := m_ends T W'.b p3 p5 p4 p2
        rw [e2, bnd]
        simp only [List.nil_append]
        rw [b176_107]
        generalize hs : semi (tK b n) (.inr (k', D')) = r2 at hst o2
        rcases r2 with ⟨e, k2⟩ | ⟨k2, D2⟩
        · rw [b176_83, if_neg o2.d]
          exact ⟨.inl (e, k2), h2, lpR_bad hst, rfl, o2, E1.tr E2⟩
        · obtain ⟨q1, q2, q3, q4⟩ := o2
          obtain ⟨r3, h3, a3, e3, o3, E3⟩ := ih k2 Nc' D2 h2 (by omega) q2 (by omega) (lnS_wf T W hst) q3 q4
          exact ⟨r3, h3, lpR_go hst a3, e3, o3, (E1.tr E2).tr E3⟩
theorem m_plain_a {h : sm_H} : ∀ (m k : Nat) (h1 : sm_H), k + m = 1276 → (∀ i, i < k → sm_gi h1 173 i = nI 0) → eqx (fun c _ => c = 173) h h1 → ∃ h2, xe 1 148 2 [.ref 173, .int (nI k)] [] h1 = xe 1 148 19 [.ref 173, .int (nI 1276)] [] h2 ∧ (∀ i, i < 1276 → sm_gi h2 173 i = nI 0) ∧ eqx (fun c _ => c = 173) h h2
  | 0, k, h1, e, a, E => by
    have : k = 1276 := by omega
    subst this
    rw [b148_2, if_pos (Int32.le_refl _)]
    exact ⟨h1, rfl, a, E⟩
  | m + 1, k, h1, e, a, E => by
    rw [b148_2, if_neg (by rw [nI_leI (by decide) (by omega)]; omega), b148_9 kd_173]
    simp (disch := omega) only [in_173, if_true, nI_clamp]
    rw [b148_13, nI_add]
    refine m_plain_a m (k + 1) _ (by omega) (fun i hi => ?_) (E.si rfl)
    by_cases z : i = k
    · rw [z, gi_same]
    · rw [gi_slot z]; exact a i (by omega)
theorem m_plain_b {h : sm_H} (a0 : ∀ i, i < 1276 → sm_gi h 173 i = if i = 1 then nI 2 else nI 0) : ∀ (m k : Nat) (h1 : sm_H), k + m = 6 → (∀ i, i < 1276 → sm_gi h1 173 i = if (76 ≤ i ∧ i < 76 + k) ∨ (82 ≤ i ∧ i < 82 + k) then -1 else if i = 1 then nI 2 else nI 0) → eqx (fun c _ => c = 173) h h1 → ∃ h2, xe 1 148 25 [.ref 173, .int (nI k)] [] h1 = some ([], h2) ∧ (∀ i, i < 1276 → sm_gi h2 173 i = if (76 ≤ i ∧ i < 82) ∨ (82 ≤ i ∧ i < 88) then -1 else if i = 1 then nI 2 else nI 0) ∧ eqx (fun c _ => c = 173) h h2
  | 0, k, h1, e, a, E => by
    have : k = 6 := by omega
    subst this
    rw [b148_25, if_pos (Int32.le_refl _), b148_51]
    exact ⟨h1, rfl, a, E⟩
  | m + 1, k, h1, e, a, E => by
    rw [b148_25, if_neg (by rw [nI_leI (by decide) (by omega)]; omega), b148_31 kd_173, nI_add]
    simp (disch := omega) only [in_173, if_true, nI_clamp]
    rw [b148_38 kd_173, nI_add]
    simp (disch := omega) only [in_173, if_true, nI_clamp]
    rw [b148_45, nI_add]
    refine m_plain_b a0 m (k + 1) _ (by omega) (fun i hi => ?_) ((E.si rfl).si rfl)
    by_cases z : i = 82 + k
    · rw [z, gi_same, if_pos (by omega)]
    · by_cases y : i = 76 + k
      · rw [gi_slot z, y, gi_same, if_pos (by omega)]
      · rw [gi_slot z, gi_slot y, a i hi]
        by_cases x : (76 ≤ i ∧ i < 76 + k) ∨ (82 ≤ i ∧ i < 82 + k)
        · rw [if_pos x, if_pos (by omega)]
        · rw [if_neg x, if_neg (show ¬ ((76 ≤ i ∧ i < 76 + (k + 1)) ∨ (82 ≤ i ∧ i < 82 + (k + 1))) by omega)]
theorem m_plain {h : sm_H} : ∃ h2, xc 148 [.ref 173] h = some ([], h2) ∧ (∀ i, i < 1276 → sm_gi h2 173 i = if (76 ≤ i ∧ i < 82) ∨ (82 ≤ i ∧ i < 88) then -1 else if i = 1 then nI 2 else nI 0) ∧ eqx (fun c _ => c = 173) h h2 := by
  obtain ⟨h1, e1, a1, E1⟩ := m_plain_a (h := h) 1276 0 h (by omega) (fun i hi => absurd hi (by omega)) eqx.rf
  rw [en_148, b148_0, e1, b148_19 kd_173, if_pos ((in_173 (by decide)).mpr trivial), show (nI 1).toNatClampNeg = 1 from rfl, b148_23]
  have a2 : ∀ i, i < 1276 → sm_gi (sm_si h1 173 1 (nI 2)) 173 i = if i = 1 then nI 2 else nI 0 := fun i hi => by
    by_cases z : i = 1
    · rw [z, gi_same, if_pos rfl]
    · rw [gi_slot z, a1 i hi, if_neg z]
  obtain ⟨h2, e2, a3, E2⟩ := m_plain_b a2 6 0 _ (by omega) (fun i hi => by rw [a2 i hi, if_neg (show ¬ ((76 ≤ i ∧ i < 76 + 0) ∨ (82 ≤ i ∧ i < 82 + 0)) by omega)]) eqx.rf
  exact ⟨h2, e2, a3, (E1.si rfl).tr E2⟩
theorem plain_dr {f f' : Nat → Int32} {N : Nat} (a : ∀ i, i < 1276 → f i = if (76 ≤ i ∧ i < 82) ∨ (82 ≤ i ∧ i < 88) then -1 else if i = 1 then nI 2 else nI 0) (e : f' 1 = nI N) (F : ∀ i, i ≠ 1 → f' i = f i) : mDr f' (D00 N) 0 0 0 := by
  have z : ∀ i, i < 1276 → i ≠ 1 → i < 76 ∨ 88 ≤ i → f' i = nI 0 := fun i h1 h2 h3 => by rw [F i h2, a i h1, if_neg (by omega), if_neg h2]
  have y : ∀ i, 76 ≤ i → i < 88 → f' i = -1 := fun i h1 h2 => by rw [F i (by omega), a i (by omega), if_pos (by omega)]
  exact ⟨⟨z 0 (by omega) (by omega) (by omega), e, z 2 (by omega) (by omega) (by omega), z 3 (by omega) (by omega) (by omega), z 88 (by omega) (by omega) (by omega), z 89 (by omega) (by omega) (by omega), z 114 (by omega) (by omega) (by omega), z 375 (by omega) (by omega) (by omega)⟩, fun r hr => absurd hr (Nat.not_lt_zero r), fun r h1 h2 => ⟨z _ (by omega) (by omega) (by omega), z _ (by omega) (by omega) (by omega)⟩, fun p hp => absurd hp (Nat.not_lt_zero p), fun p h1 h2 => ⟨y _ (by omega) (by omega), y _ (by omega) (by omega), z _ (by omega) (by omega) (by omega)⟩, fun p hp => z _ (by omega) (by omega) (by omega), z _ (by omega) (by omega) (by omega), z _ (by omega) (by omega) (by omega)⟩
end MLD
