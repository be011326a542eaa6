/-! ===== what the constructors leave ===== -/
theorem m_plain0_a {h : sm_H} : ∀ (m k : Nat) (h1 : sm_H), k + m = 1276 → (∀ i, i < k → sm_gi h1 170 i = nI 0) → eqx (fun c _ => c = 170) h h1 → ∃ h2, xe 1 148 2 [.ref 170, .int (nI k)] [] h1 = xe 1 148 19 [.ref 170, .int (nI 1276)] [] h2 ∧ (∀ i, i < 1276 → sm_gi h2 170 i = nI 0) ∧ eqx (fun c _ => c = 170) h h2
  | 0, k, h1, e, a, E => by
    have : k = 1276 := by omega
    subst this
    rw [b148_2, if_pos (Int32.le_refl _)]
    exact ⟨h1, rfl, a, E⟩
  | m + 1, k, h1, e, a, E => by
    rw [b148_2, if_neg (by rw [nI_leI (by decide) (by omega)]; omega), b148_9 kd_170]
    simp (disch := omega) only [in_170, if_true, nI_clamp]
    rw [b148_13, nI_add]
    refine m_plain0_a m (k + 1) _ (by omega) (fun i hi => ?_) (E.si rfl)
    by_cases z : i = k
    · rw [z, gi_same]
    · rw [gi_slot z]; exact a i (by omega)
theorem m_plain0_b {h : sm_H} (a0 : ∀ i, i < 1276 → sm_gi h 170 i = if i = 1 then nI 2 else nI 0) : ∀ (m k : Nat) (h1 : sm_H), k + m = 6 → (∀ i, i < 1276 → sm_gi h1 170 i = if (76 ≤ i ∧ i < 76 + k) ∨ (82 ≤ i ∧ i < 82 + k) then -1 else if i = 1 then nI 2 else nI 0) → eqx (fun c _ => c = 170) h h1 → ∃ h2, xe 1 148 25 [.ref 170, .int (nI k)] [] h1 = some ([], h2) ∧ (∀ i, i < 1276 → sm_gi h2 170 i = if (76 ≤ i ∧ i < 82) ∨ (82 ≤ i ∧ i < 88) then -1 else if i = 1 then nI 2 else nI 0) ∧ eqx (fun c _ => c = 170) h h2
  | 0, k, h1, e, a, E => by
    have : k = 6 := by omega
    subst this
    rw [b148_25, if_pos (Int32.le_refl _), b148_51]
    exact ⟨h1, rfl, a, E⟩
  | m + 1, k, h1, e, a, E => by
    rw [b148_25, if_neg (by rw [nI_leI (by decide) (by omega)]; omega), b148_31 kd_170, nI_add]
    simp (disch := omega) only [in_170, if_true, nI_clamp]
    rw [b148_38 kd_170, nI_add]
    simp (disch := omega) only [in_170, if_true, nI_clamp]
    rw [b148_45, nI_add]
    refine m_plain0_b a0 m (k + 1) _ (by omega) (fun i hi => ?_) ((E.si rfl).si rfl)
    by_cases z : i = 82 + k
    · rw [z, gi_same, if_pos (by omega)]
    · by_cases y : i = 76 + k
      · rw [gi_slot z, y, gi_same, if_pos (by omega)]
      · rw [gi_slot z, gi_slot y, a i hi]
        by_cases x : (76 ≤ i ∧ i < 76 + k) ∨ (82 ≤ i ∧ i < 82 + k)
        · rw [if_pos x, if_pos (by omega)]
        · rw [if_neg x, if_neg (show ¬ ((76 ≤ i ∧ i < 76 + (k + 1)) ∨ (82 ≤ i ∧ i < 82 + (k + 1))) by omega)]
theorem m_plain0 {h : sm_H} : ∃ h2, xc 148 [.ref 170] h = some ([], h2) ∧ (∀ i, i < 1276 → sm_gi h2 170 i = if (76 ≤ i ∧ i < 82) ∨ (82 ≤ i ∧ i < 88) then -1 else if i = 1 then nI 2 else nI 0) ∧ eqx (fun c _ => c = 170) h h2 := by
  obtain ⟨h1, e1, a1, E1⟩ := m_plain0_a (h := h) 1276 0 h (by omega) (fun i hi => absurd hi (by omega)) eqx.rf
  rw [en_148, b148_0, e1, b148_19 kd_170, if_pos ((in_170 (by decide)).mpr trivial), show (nI 1).toNatClampNeg = 1 from rfl, b148_23]
  have a2 : ∀ i, i < 1276 → sm_gi (sm_si h1 170 1 (nI 2)) 170 i = if i = 1 then nI 2 else nI 0 := fun i hi => by
    by_cases z : i = 1
    · rw [z, gi_same, if_pos rfl]
    · rw [gi_slot z, a1 i hi, if_neg z]
  obtain ⟨h2, e2, a3, E2⟩ := m_plain0_b a2 6 0 _ (by omega) (fun i hi => by rw [a2 i hi, if_neg (show ¬ ((76 ≤ i ∧ i < 76 + 0) ∨ (82 ≤ i ∧ i < 82 + 0)) by omega)]) eqx.rf
  exact ⟨h2, e2, a3, (E1.si rfl).tr E2⟩

def gz : gS := (0, fun _ _ => 0, fun _ _ => 0, fun _ _ => none)
def g_bb : gS := e_BB_0 (g_s gz 1)
def g_fin : gS := e_Model_169 (g_s g_bb 1)
def h0 : sm_H := (g_fin.2.1, g_fin.2.2.1, 42)
set_option maxRecDepth 100000 in
theorem fin_I : g_fin.2.1 = (g_up (g_up (g_up (g_up (g_up (g_up (g_up (g_up (g_up (g_up (g_up (g_up (g_up (g_up (g_up (fun _ _ => 0) 2 0 (2)) 29 0 (2)) 28 8 (-1)) 122 0 (-1)) 122 1 (-1)) 122 2 (-1)) 122 3 (-1)) 126 0 (2)) 142 0 (2)) 169 14 (-1)) 169 15 (-1)) 184 0 (-1)) 184 1 (-1)) 184 2 (-1)) 184 3 (-1)) := rfl
theorem h0_gi (c i : Nat) : sm_gi h0 c i = if c = 184 ∧ i = 3 then (-1) else if c = 184 ∧ i = 2 then (-1) else if c = 184 ∧ i = 1 then (-1) else if c = 184 ∧ i = 0 then (-1) else if c = 169 ∧ i = 15 then (-1) else if c = 169 ∧ i = 14 then (-1) else if c = 142 ∧ i = 0 then (2) else if c = 126 ∧ i = 0 then (2) else if c = 122 ∧ i = 3 then (-1) else if c = 122 ∧ i = 2 then (-1) else if c = 122 ∧ i = 1 then (-1) else if c = 122 ∧ i = 0 then (-1) else if c = 28 ∧ i = 8 then (-1) else if c = 29 ∧ i = 0 then (2) else if c = 2 ∧ i = 0 then (2) else 0 := by
  show g_fin.2.1 c i = _
  rw [fin_I]
  rfl
set_option maxRecDepth 100000 in
theorem fin_k : g_fin.1 = 187 := rfl
set_option maxRecDepth 100000 in
theorem bb_k : g_bb.1 = 169 := rfl
def fin_chk (i : Nat) : Bool := if sm_kd i < 7 then (if 4 ≤ sm_kd i then (List.range (sm_ln i)).all (fun j => g_fin.2.2.2 i j == some (sm_rf i j)) else true) else (List.range (sm_fn (sm_kd i - 10))).all (fun k => (sm_fk (sm_kd i - 10) k < 2 || (if sm_fk (sm_kd i - 10) k = 2 then g_fin.2.2.2 i k == some (sm_rf i k) else g_fin.2.2.2 i k == some 42)))
set_option maxRecDepth 100000 in
theorem fin_all : (List.range 187).all fin_chk = true := by decide +kernel
theorem fin_to {D : va_G} {cA : Nat → ClassId} {ad : Nat → Nat} {H : Heap} (hP : va_P D sm_cls (g_ws cA ad g_fin) H) : va_P D sm_cls (sn_ws cA ad h0) H := by
  intro i q hq
  have hi : i < 187 := by
    have := (List.getElem?_eq_some_iff.mp hq).1
    unfold sn_ws at this; simpa [sm_NC] using this
  rw [sn_ws_at (show i < sm_NC from hi)] at hq
  obtain rfl := Option.some.inj hq
  have hP1 := hP i _ (g_at (show i < g_fin.1 by rw [fin_k]; exact hi))
  have hc : fin_chk i = true := List.all_eq_true.mp fin_all i (List.mem_range.mpr hi)
  unfold fin_chk at hc
  by_cases h7 : sm_kd i < 7
  · rw [if_pos h7] at hc
    rw [g_cell_arr h7] at hP1
    rw [sn_cell_arr h7]
    have hP2 : H[ad i]? = some (vp_cell (cA (sm_kd i)) (g_ar ad g_fin i)) := hP1
    show H[ad i]? = some (vp_cell (cA (sm_kd i)) (sn_ar ad h0 i))
    by_cases h3 : sm_kd i < 3
    · rw [g_ar_i h3] at hP2
      rw [sn_ar_i h3]
      exact hP2
    · by_cases h3' : sm_kd i = 3
      · rw [g_ar_l h3'] at hP2
        rw [sn_ar_l h3']
        exact hP2
      · rw [if_pos (by omega)] at hc
        rw [g_ar_r (by omega), vp_cell_q] at hP2
        rw [sn_ar_r (by omega), vp_cell_q, hP2]
        congr 1
        refine g_arrV_ext (fun j hj => ?_)
        have h9 := List.all_eq_true.mp hc j (List.mem_range.mpr hj)
        rw [eq_of_beq h9]
        rfl
  · rw [if_neg h7] at hc
    have e1 : g_cell cA ad g_fin i = .inr (sm_kd i - 10, g_fs ad g_fin i) := by unfold g_cell; rw [if_neg h7]
    have e2 : sn_cell cA ad h0 i = .inr (sm_kd i - 10, sn_fs ad h0 i) := by unfold sn_cell; rw [if_neg h7]
    rw [e1] at hP1
    rw [e2]
    have e3 : g_fs ad g_fin i = sn_fs ad h0 i := by
      unfold g_fs sn_fs
      refine List.map_congr_left (fun k hk => ?_)
      have h9 := List.all_eq_true.mp hc k hk
      unfold g_fld sn_fld
      by_cases k0 : sm_fk (sm_kd i - 10) k = 0
      · rw [if_pos k0, if_pos k0]; rfl
      · rw [if_neg k0, if_neg k0]
        by_cases k1 : sm_fk (sm_kd i - 10) k = 1
        · rw [if_pos k1, if_pos k1]; rfl
        · rw [if_neg k1, if_neg k1]
          rcases Bool.or_eq_true_iff.mp h9 with y | y
          · exact absurd (of_decide_eq_true y) (by omega)
          · by_cases k2 : sm_fk (sm_kd i - 10) k = 2
            · rw [if_pos k2] at y ⊢
              rw [eq_of_beq y]
              rfl
            · rw [if_neg k2] at y ⊢
              rw [eq_of_beq y]
              rfl
    rw [← e3]
    exact hP1
def G00 : LG := ((2, 0, 0), (fun _ => 0, fun _ => 0, fun _ => 0, fun _ => false, fun _ => 0), (fun _ => 0, fun _ => none, fun _ => -1), (none, none))
theorem G00_wf : wfG G00 := ⟨⟨(by decide : 2 ≤ 2), (by decide : 2 ≤ 6)⟩, Nat.zero_le _, Nat.zero_le _, fun r hr => absurd hr (Nat.not_lt_zero r), fun p hp => absurd hp (Nat.not_lt_zero p), (fun cs e => by cases e), (fun cs e => by cases e), (fun cs e => by cases e), (fun cs e => by cases e)⟩
theorem G00_wx : wfX G00 := ⟨Nat.zero_le 4, fun p hp => absurd hp (Nat.not_lt_zero p)⟩
theorem W0_wf : wfW G00 0 W0 := ⟨(by decide : 0 < 4096), (by decide : 0 < 64), fun p hp => absurd hp (Nat.not_lt_zero p), fun p _ _ => rfl, fun p _ h => absurd h (by show ¬ (0 / 2 ^ p % 2 = 1); rw [Nat.zero_div]; decide)⟩
theorem JI_init {h2 : sm_H} (hp : ∀ i, i < 1276 → sm_gi h2 170 i = if (76 ≤ i ∧ i < 82) ∨ (82 ≤ i ∧ i < 88) then -1 else if i = 1 then nI 2 else nI 0) (E : eqx (fun c _ => c = 170) h0 h2) : JI 0 h2 := by
  have e : ∀ c i, c ≠ 170 → sm_gi h2 c i = sm_gi h0 c i := fun c i hc => E.1 c i hc
  have p0 : ∀ i, i < 1276 → ¬ ((76 ≤ i ∧ i < 82) ∨ (82 ≤ i ∧ i < 88)) → i ≠ 1 → sm_gi h2 170 i = nI 0 := fun i h1 h2 h3 => by rw [hp i h1, if_neg h2, if_neg h3]
  have p1 : sm_gi h2 170 1 = nI 2 := by rw [hp 1 (by decide), if_neg (by decide), if_pos rfl]
  have z : ∀ c i, c ≠ 170 → (∀ x, x ∈ ([2, 28, 29, 122, 126, 142, 169, 184] : List Nat) → c ≠ x) → sm_gi h2 c i = nI 0 := fun c i h1 h3 => by
    rw [e c i h1, h0_gi]
    simp only [List.mem_cons, List.not_mem_nil, or_false, forall_eq_or_imp, forall_eq] at h3
    simp [h3]
    rfl
  have S : mS h2 G00 W0 [] 0 := by
    refine ⟨G00_wf, ⟨⟨p1, p0 2 (by decide) (by decide) (by decide), p0 3 (by decide) (by decide) (by decide)⟩, fun r hr => absurd hr (Nat.not_lt_zero r), fun p hp => absurd hp (Nat.not_lt_zero p), p0 4 (by decide) (by decide) (by decide), p0 5 (by decide) (by decide) (by decide)⟩, ⟨p0 88 (by decide) (by decide) (by decide), p0 89 (by decide) (by decide) (by decide), fun p hp => absurd hp (Nat.not_lt_zero p), fun p hp => p0 (88 + 14 + p) (by omega) (by omega) (by omega)⟩, W0_wf, ⟨p0 114 (by decide) (by decide) (by decide), Nat.zero_le _, fun j hj => absurd hj (Nat.not_lt_zero j)⟩, fun j hj => absurd hj (Nat.not_lt_zero j), ?_⟩
    rw [e 169 15 (by decide), h0_gi]; decide
  have X : mX h2 := ⟨0, fun _ => 0, by rw [e 169 25 (by decide), h0_gi]; decide, Nat.zero_le _, fun k hk => absurd hk (Nat.not_lt_zero k), fun c _ _ => z 178 c (by decide) (by decide)⟩
  have T : mT h2 (fun _ => none) := fun t ht => by
    show sm_gi h2 184 t = -1
    rw [e 184 t (by decide), h0_gi]
    match t, ht with
    | 0, _ => decide
    | 1, _ => decide
    | 2, _ => decide
    | 3, _ => decide
    | t + 4, h => exact absurd h (by omega)
  have M : mIm h2 0 (fun _ => none) := fun i _ => z 171 i (by decide) (by decide)
  have P : mTp h2 0 (fun _ => 0) := ⟨by rw [e 169 5 (by decide), h0_gi]; decide, Nat.zero_le _, fun j hj => absurd hj (Nat.not_lt_zero j), fun j hj => absurd hj (Nat.not_lt_zero j)⟩
  have CS : cS h2 G00 W0 [] 0 := by
    refine ⟨⟨G00_wf, G00_wx, ⟨⟨?_, ?_, ?_, ?_⟩, fun r hr => absurd hr (Nat.not_lt_zero r), fun p hp => absurd hp (Nat.not_lt_zero p), z 12 2 (by decide) (by decide), z 15 2 (by decide) (by decide)⟩, fun p r f t b pap hp => absurd hp (Nat.not_lt_zero p)⟩, ⟨z 18 5 (by decide) (by decide), z 18 4 (by decide) (by decide), fun p hp => absurd hp (Nat.not_lt_zero p), fun p hp => z 21 p (by decide) (by decide)⟩, W0_wf, ⟨0, by decide, z 52 2 (by decide) (by decide), z 52 1 (by decide) (by decide), Nat.zero_le _, fun j hj => absurd hj (Nat.not_lt_zero j)⟩, fun j hj => absurd hj (Nat.not_lt_zero j)⟩
    · rw [e 2 0 (by decide), h0_gi]; decide
    · rw [e 2 2 (by decide), h0_gi]; decide
    · rw [e 2 3 (by decide), h0_gi]; decide
    · rw [e 2 4 (by decide), h0_gi]; decide
  have I : cI h2 0 := ⟨0, Nat.le_refl _, z 104 12 (by decide) (by decide), fun row _ => ⟨0, z 107 row (by decide) (by decide), Nat.le_refl _⟩⟩
  have CT : cT h2 (fun _ => none) := fun t ht => by
    show sm_gi h2 122 t = -1
    rw [e 122 t (by decide), h0_gi]
    match t, ht with
    | 0, _ => decide
    | 1, _ => decide
    | 2, _ => decide
    | 3, _ => decide
    | t + 4, h => exact absurd h (by omega)
  have CM : cIm h2 0 (fun _ => none) := ⟨0, by decide, z 0 15 (by decide) (by decide), fun i _ => by show 0 / 2 ^ i % 2 = 0; rw [Nat.zero_div]⟩
  have CP : cTp h2 0 (fun _ => 0) := ⟨z 0 1 (by decide) (by decide), Nat.zero_le _, fun j hj => absurd hj (Nat.not_lt_zero j)⟩
  refine ⟨G00, W0, [], 0, 0, fun _ => none, fun _ => none, 0, fun _ => 0, nI 0, nI 0, -1, ⟨S, X, T, M, P, p0 0 (by decide) (by decide) (by decide), ?_, ?_⟩, ⟨CS, I, CT, CM, CP, ?_, ?_, ?_⟩, Nat.le_refl _, Nat.le_refl _⟩
  · rw [e 169 13 (by decide), h0_gi]; decide
  · rw [e 169 14 (by decide), h0_gi]; decide
  · rw [e 2 1 (by decide), h0_gi]; decide
  · rw [e 28 7 (by decide), h0_gi]; decide
  · rw [e 28 8 (by decide), h0_gi]; decide
