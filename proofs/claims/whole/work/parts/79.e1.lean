/-! ===== errands in time: the model ===== -/
noncomputable def tmB (G : LG) (W : WG) (sh p pap : Nat) : Bool := match gGol G p with
  | none => false
  | some g => match bW G sh none p (0, wBeen W p, pap, wAt W p) 0 g with
    | none => false
    | some w => decide (nI (wDay W p) + nI (dys (gLon G) w) ≤ gBy G p)
noncomputable def itF (G : LG) (W : WG) (sh p : Nat) : Bool := decide (p < gP G ∧ gGol G p ≠ none ∧ (wRd W / 2 ^ p % 2 = 1 ∨ tmB G W sh p (wPap W p) = true))
noncomputable def aTime (G : LG) (W : WG) : Int32 := nI (bsN (itF G W (wSh W)) (gP G))
/-- days it could wait -/
noncomputable def waI (G : LG) (W : WG) (sh p pap : Nat) : Int32 := match gGol G p with
  | none => -1
  | some g => match bW G sh none p (0, wBeen W p, pap, wAt W p) 0 g with
    | none => -1
    | some w => if 0 ≤ gBy G p - nI (wDay W p) - nI (dys (gLon G) w) then gBy G p - nI (wDay W p) - nI (dys (gLon G) w) else -1
noncomputable def aSpare (G : LG) (W : WG) (p : Int32) : Int32 := if isN p.toInt64 (gP G) then (if gGol G (toN p) = none ∨ wRd W / 2 ^ toN p % 2 = 1 then -5 else waI G W (wSh W) (toN p) (wPap W (toN p))) else -2
noncomputable def hpB (G : LG) (W : WG) (p : Nat) : Bool := decide (gGol G p ≠ none ∧ wPap W p ≠ 9 ∧ ¬ (wRd W / 2 ^ p % 2 = 1 ∨ tmB G W (wSh W) p (wPap W p) = true) ∧ tmB G W (wSh W) p (wPap W p + 1) = true)
def hpF (b : Nat → Bool) : Nat → Nat → Int32
  | 0, _ => -1
  | m + 1, k => if b k = true then nI k else hpF b m (k + 1)
noncomputable def aHelp (G : LG) (W : WG) : Int32 := hpF (hpB G W) (gP G) 0
theorem by_b {G : LG} (hx : wfX G) {p : Nat} (hp : p < gP G) : -1 ≤ (gBy G p).toInt ∧ (gBy G p).toInt ≤ 999 := by
  rcases hx.2 p hp with z | ⟨n, hn, z⟩
  · rw [z]; decide
  · rw [z, nI_toInt (by omega)]; omega
theorem wait_v {b : Int32} {d e : Nat} (hb : -1 ≤ b.toInt ∧ b.toInt ≤ 999) (hd : d < 2 ^ 29) (he : e < 2 ^ 29) : (b - nI d - nI e).toInt = b.toInt - d - e := by
  have h1 : (b - nI d).toInt = b.toInt - d := by rw [Int32.toInt_sub, nI_toInt (by omega), Int.bmod_eq_of_le (by omega) (by omega)]
  rw [Int32.toInt_sub, h1, nI_toInt (by omega), Int.bmod_eq_of_le (by omega) (by omega)]
theorem wait_iff {b : Int32} {d e : Nat} (hb : -1 ≤ b.toInt ∧ b.toInt ≤ 999) (hd : d < 2 ^ 29) (he : e < 2 ^ 29) : (0 ≤ b - nI d - nI e) ↔ nI d + nI e ≤ b := by
  rw [nI_add, Int32.le_iff_toInt_le, Int32.le_iff_toInt_le, wait_v hb hd he, nI_toInt (by omega)]
  show (0 : Int) ≤ _ ↔ _
  omega
theorem waI_m1 {G : LG} {W : WG} {B sh p pap : Nat} (hw : wfG G) (hx : wfX G) (hww : wfW G B W) (hB : B < 2 ^ 29) (hp : p < gP G) (hpap : pap ≤ 9) : (waI G W sh p pap = -1) ↔ tmB G W sh p pap = false := by
  have hwp := hww.2.2.1 p hp
  unfold waI tmB
  cases gGol G p with
  | none => exact iff_of_true rfl rfl
  | some g =>
    dsimp only
    cases hb : bW G sh none p (0, wBeen W p, pap, wAt W p) 0 g with
    | none => exact iff_of_true rfl rfl
    | some w =>
      have hd := bW_days hw hx (x0 := (0, wBeen W p, pap, wAt W p)) ⟨(show (0 : Nat) < 16 by decide), hwp.2.2.2, hpap, hwp.1⟩ rfl hb
      dsimp only
      have hi := wait_iff (b := gBy G p) (d := wDay W p) (e := dys (gLon G) w) (by_b hx hp) (by omega) (by omega)
      by_cases q : 0 ≤ gBy G p - nI (wDay W p) - nI (dys (gLon G) w)
      · rw [if_pos q]
        refine iff_of_false (fun z => ?_) (by rw [decide_eq_true (hi.mp q)]; decide)
        rw [z] at q
        exact absurd q (by decide)
      · rw [if_neg q]
        exact iff_of_true rfl (decide_eq_false (fun z => q (hi.mpr z)))
section MERR
variable {G : LG} {W : WG} {L : List WG} {B : Nat} {h : sm_H}
theorem m_isErrand (S : mS h G W L B) {p : Nat} (hp : p < gP G) : xc 245 [.ref 169, .int (nI p)] h = some ([.int (bI (gGol G p ≠ none))], h) := by
  have hP := S.1.2.2.1
  rw [en_245, b245_0]
  simp (disch := omega) only [nI_add, in_170, if_true, nI_clamp, (S.2.1.2.2.1 p hp).2.1]
  simp only [b245_13, b245_17, b245_18, or01_0, or01_1, if_true]
  unfold bI
  by_cases q : gGol G p = none
  · rw [q, if_pos (show toI none = -1 from rfl), if_neg (fun z => z rfl)]
  · rw [if_neg (fun z => q ((toI_m1 (S.1.gol hp)).mp z)), if_pos q]
theorem m_isInTime (S : mS h G W L B) (hx : wfX G) (X : mX h) (hB : B < 2 ^ 28) {p pap : Nat} (hp : p < gP G) (hpap : pap ≤ 9) (hg : gGol G p ≠ none) : ∃ h2, xc 246 [.ref 169, .int (nI p), .int (nI pap)] h = some ([.int (bI (wRd W / 2 ^ p % 2 = 1 ∨ tmB G W (wSh W) p pap = true))], h2) ∧ mS h2 G W L B ∧ mX h2 ∧ eqx sxZ h h2 := by
  have hw := S.1
  have hP := hw.2.2.1
  have hN := hw.1.2
  have hrd := S.2.2.2.1.2.1
  have hwp := S.2.2.2.1.2.2.1 p hp
  obtain ⟨a1, a2, a3, a4, a5, a6⟩ := mS_at S hp
  have g89 : sm_gi h 170 89 = nI (wRd W) := S.2.2.1.2.1
  rw [en_246, b246_0]
  simp (disch := omega) only [in_170, if_true, nI_clamp, g89, m_isIn, bnd, app1, List.cons_append, List.nil_append]
  rw [b246_12]
  by_cases q : wRd W / 2 ^ p % 2 = 1
  · rw [if_neg (by rw [bI_z]; exact fun z => z q), b246_15]
    refine ⟨h, ?_, S, X, eqx.rf⟩
    unfold bI
    rw [if_pos (Or.inl q)]
  · rw [if_pos (by rw [bI_z]; exact q), b246_17]
    cases hgg : gGol G p with
    | none => exact absurd hgg hg
    | some g =>
      have hgN := (hw.2.2.2.2.1 p hp).2 g hgg
      have g76 : sm_gi h 170 (76 + p) = nI g := by rw [(S.2.1.2.2.1 p hp).2.1, hgg]; rfl
      simp (disch := omega) only [nI_add, in_170, if_true, nI_clamp, g76]
      obtain ⟨n0, K0, V0⟩ := X
      obtain ⟨n, K, st, h2, e2, N2, J2, F2, b2, E2⟩ := m_soonestOf (f := g) (pap := pap) (mS_C S hx hp) V0 a1 a2 a4 a5 hpap (by omega)
      rw [e2, bnd]
      simp only [app1, List.cons_append, List.nil_append]
      rw [b246_32]
      have S2 := mS_Z S E2
      refine ⟨h2, ?_, S2, mN_X N2, E2⟩
      have ok1 : okX G (0, wBeen W p, pap, wAt W p) := ⟨(show (0 : Nat) < 16 by decide), a5, hpap, a4⟩
      have g96 : sm_gi h2 170 (96 + p) = nI (wDay W p) := by rw [show 96 + p = 88 + 8 + p by omega]; exact (S2.2.2.1.2.2.1 p hp).2.1
      have g82 : sm_gi h2 170 (82 + p) = gBy G p := (S2.2.1.2.2.1 p hp).2.2
      cases hb : bW G (wSh W) none p (0, wBeen W p, pap, wAt W p) 0 g with
      | none =>
        have ht : tmB G W (wSh W) p pap = false := by unfold tmB; rw [hgg]; dsimp only; rw [hb]
        rw [show dyI G none = -1 from rfl, if_pos rfl]
        simp only [b246_65, b246_66, or01_0, if_true]
        unfold bI
        rw [if_neg (fun z => z.elim q (fun y => by rw [ht] at y; cases y))]
      | some w =>
        have hd := bW_days hw hx ok1 rfl hb
        have ht : tmB G W (wSh W) p pap = decide (nI (wDay W p) + nI (dys (gLon G) w) ≤ gBy G p) := by unfold tmB; rw [hgg]; dsimp only; rw [hb]
        rw [show dyI G (some w) = nI (dys (gLon G) w) from rfl, if_neg (by rw [nI_m1 (by omega)]; exact id), b246_38]
        simp (disch := omega) only [nI_add 96, nI_add 82, in_170, if_true, nI_clamp, g96, g82]
        simp only [b246_61, b246_65, b246_66, or01_0, or01_1, if_true]
        unfold bI
        by_cases z : nI (wDay W p) + nI (dys (gLon G) w) ≤ gBy G p
        · rw [if_neg (Int32.not_lt.mpr z), if_pos (Or.inr (by rw [ht]; exact decide_eq_true z))]
        · rw [if_pos (Int32.not_le.mp z), if_neg (fun y => y.elim q (fun y => by rw [ht] at y; exact z (of_decide_eq_true y)))]
theorem m_inTime_loop (hx : wfX G) (hB : B < 2 ^ 28) : ∀ (m k : Nat) (h1 : sm_H), k + m = gP G → mS h1 G W L B → mX h1 → eqx sxZ h h1 → ∃ h2, xe 8 247 4 [.ref 169, .int (nI (bsN (itF G W (wSh W)) k)), .int (nI k)] [] h1 = some ([.int (nI (bsN (itF G W (wSh W)) (gP G)))], h2) ∧ mS h2 G W L B ∧ mX h2 ∧ eqx sxZ h h2
  | 0, k, h1, e, S, X, E => by
    have hP := S.1.2.2.1
    have : k = gP G := by omega
    subst this
    rw [b247_4]
    simp (disch := omega) only [in_170, if_true, nI_clamp, S.2.1.1.2.2]
    rw [if_pos (Int32.le_refl _), b247_55]
    exact ⟨h1, rfl, S, X, E⟩
  | m + 1, k, h1, e, S, X, E => by
    have hP := S.1.2.2.1
    have hk : k < gP G := by omega
    obtain ⟨a1, a2, a3, a4, a5, a6⟩ := mS_at S hk
    rw [b247_4]
    simp (disch := omega) only [in_170, if_true, nI_clamp, S.2.1.1.2.2]
    rw [if_neg (by rw [nI_leI (by omega) (by omega)]; omega), b247_14, m_isErrand S hk, bnd]
    simp only [app1, List.cons_append, List.nil_append]
    rw [b247_20]
    have ih := m_inTime_loop hx hB m (k + 1)
    rw [bsN_step] at ih
    have skip : itF G W (wSh W) k = false → ∀ h2, mS h2 G W L B → mX h2 → eqx sxZ h h2 → ∃ h3, xe 8 247 46 [.ref 169, .int (nI (bsN (itF G W (wSh W)) k)), .int (nI k)] [.int (nI (bsN (itF G W (wSh W)) k))] h2 = some ([.int (nI (bsN (itF G W (wSh W)) (gP G)))], h3) ∧ mS h3 G W L B ∧ mX h3 ∧ eqx sxZ h h3 := by
      intro hf h2 S2 X2 E2
      rw [b247_46, b247_47, fa_or, Nat.or_zero, nI_add]
      rw [hf, if_neg (by decide)] at ih
      exact ih h2 (by omega) S2 X2 E2
    by_cases hg : gGol G k = none
    · rw [if_pos (by rw [bI_z]; exact fun z => z hg)]
      exact skip (decide_eq_false (fun z => z.2.1 hg)) h1 S X E
    · rw [if_neg (by rw [bI_z]; exact fun z => z hg), b247_23]
      simp (disch := omega) only [nI_add, in_170, if_true, nI_clamp, a3]
      obtain ⟨h2, e2, S2, X2, E2⟩ := m_isInTime S hx X hB hk a6 hg
      rw [e2, bnd]
      simp only [app1, List.cons_append, List.nil_append]
      rw [b247_37]
      by_cases q : wRd W / 2 ^ k % 2 = 1 ∨ tmB G W (wSh W) k (wPap W k) = true
      · rw [if_neg (by rw [bI_z]; exact fun z => z q), b247_40, b247_47, shl1 (by omega), fa_or, nI_add]
        rw [if_pos (show itF G W (wSh W) k = true from decide_eq_true ⟨hk, hg, q⟩)] at ih
        exact ih h2 (by omega) S2 X2 (E.tr E2)
      · rw [if_pos (by rw [bI_z]; exact q)]
        exact skip (decide_eq_false (fun z => q z.2.2)) h2 S2 X2 (E.tr E2)
theorem m_inTimeSet (S : mS h G W L B) (hx : wfX G) (X : mX h) (hB : B < 2 ^ 28) : ∃ h2, xc 247 [.ref 169] h = some ([.int (nI (bsN (itF G W (wSh W)) (gP G)))], h2) ∧ mS h2 G W L B ∧ mX h2 ∧ eqx sxZ h h2 := by
  rw [en_247, b247_0]
  exact m_inTime_loop hx hB (gP G) 0 h (by omega) S X eqx.rf
theorem m_inTime (S : mS h G W L B) (hx : wfX G) (X : mX h) (hB : B < 2 ^ 28) : ∃ h2, xc 248 [.ref 169] h = some ([.int (aTime G W)], h2) ∧ mS h2 G W L B ∧ mX h2 ∧ eqx sxZ h h2 := by
  have S0 := mS_thrown (v := nI 0) S
  have X0 := mX_thrown (v := nI 0) X
  rw [en_248, b248_0, b248_5]
  obtain ⟨h2, e2, S2, X2, E2⟩ := m_inTimeSet S0 hx X0 hB
  rw [e2, bnd]
  simp only [app1, List.cons_append, List.nil_append]
  rw [b248_9]
  exact ⟨h2, rfl, S2, X2, Z_thrown E2⟩
theorem m_spare (S : mS h G W L B) (hx : wfX G) (X : mX h) (hB : B < 2 ^ 28) {p : Int32} : ∃ h2, xc 249 [.ref 169, .int p] h = some ([.int (aSpare G W p)], h2) ∧ mS h2 G W L B ∧ mX h2 ∧ eqx sxZ h h2 := by
  have hw := S.1
  have hP := hw.2.2.1
  have hN := hw.1.2
  have S0 := mS_thrown (v := nI 0) S
  have X0 := mX_thrown (v := nI 0) X
  rw [en_249, b249_0, b249_5, m_isPerson S0.2.1.1.2.2 (by omega), bnd]
  simp only [app1, List.cons_append, List.nil_append]
  rw [b249_11]
  unfold aSpare
  by_cases h1 : isN p.toInt64 (gP G)
  · rw [if_neg (by rw [bI_z]; exact fun z => z h1), if_pos h1, b249_17]
    obtain ⟨j, hj, rfl⟩ := isN_nI h1 (by omega)
    have hrd := S0.2.2.2.1.2.1
    have hwp := S0.2.2.2.1.2.2.1 j hj
    obtain ⟨ok0, hm0⟩ := okXS S0 hj
    have g89 : sm_gi (sm_si h 169 0 (nI 0)) 170 89 = nI (wRd W) := S0.2.2.1.2.1
    rw [toN_nI (by omega), m_isErrand S0 hj, bnd]
    simp only [app1, List.cons_append, List.nil_append]
    rw [b249_22]
    cases hg : gGol G j with
    | none =>
      rw [if_pos (by rw [bI_z]; exact fun z => z rfl), if_pos (Or.inl rfl), b249_40]
      exact ⟨_, rfl, S0, X0, Z_thrown eqx.rf⟩
    | some g =>
      have hgN := (hw.2.2.2.2.1 j hj).2 g hg
      rw [if_neg (by rw [bI_z]; exact fun z => z (by simp)), b249_25]
      simp (disch := omega) only [in_170, if_true, nI_clamp, g89, m_isIn, bnd, app1, List.cons_append, List.nil_append]
      rw [b249_37]
      by_cases q : wRd W / 2 ^ j % 2 = 1
      · rw [if_neg (by rw [bI_z]; exact fun z => z q), if_pos (Or.inr q), b249_40]
        exact ⟨_, rfl, S0, X0, Z_thrown eqx.rf⟩
      · rw [if_pos (by rw [bI_z]; exact q), if_neg (fun z => z.elim (fun y => by cases y) q), b249_43]
        have g76 : sm_gi (sm_si h 169 0 (nI 0)) 170 (76 + j) = nI g := by rw [(S0.2.1.2.2.1 j hj).2.1, hg]; rfl
        simp (disch := omega) only [nI_add, in_170, if_true, nI_clamp, g76]
        obtain ⟨n, K, st, h2, e2, N2, J2, F2, b2, E2⟩ := m_soonestNow (f := g) S0 hx X0 hj (by omega)
        rw [e2, bnd]
        simp only [app1, List.cons_append, List.nil_append]
        have S2 := mS_Z S0 E2
        have g96 : sm_gi h2 170 (96 + j) = nI (wDay W j) := by rw [show 96 + j = 88 + 8 + j by omega]; exact (S2.2.2.1.2.2.1 j hj).2.1
        have g82 : sm_gi h2 170 (82 + j) = gBy G j := (S2.2.1.2.2.1 j hj).2.2
        rw [b249_57]
        simp (disch := omega) only [nI_add, in_170, if_true, nI_clamp, g96, g82]
        refine ⟨h2, ?_, S2, mN_X N2, Z_thrown E2⟩
        unfold waI
        rw [hg]
        dsimp only
        rw [show ((0, wBeen W j, wPap W j, wAt W j) : XS) = xS W j from rfl]
        cases hb : bW G (wSh W) none j (xS W j) 0 g with
        | none => rw [show dyI G none = -1 from rfl, if_pos rfl, b249_89, b249_94]
        | some w =>
          have hd := bW_days hw hx ok0 rfl hb
          rw [show dyI G (some w) = nI (dys (gLon G) w) from rfl, if_neg (by rw [nI_m1 (by omega)]; exact id), b249_85]
          dsimp only
          by_cases z : 0 ≤ gBy G j - nI (wDay W j) - nI (dys (gLon G) w)
          · rw [if_pos z, if_pos z, b249_93, b249_94]
          · rw [if_neg z, if_neg z, b249_89, b249_94]
  · rw [if_pos (by rw [bI_z]; exact h1), if_neg h1, b249_14]
    exact ⟨_, rfl, S0, X0, Z_thrown eqx.rf⟩
theorem m_helped_loop (hx : wfX G) (hB : B < 2 ^ 28) : ∀ (m k : Nat) (h1 : sm_H), k + m = gP G → mS h1 G W L B → mX h1 → eqx sxZ h h1 → ∃ h2, xe 8 250 7 [.ref 169, .int (nI k)] [] h1 = some ([.int (hpF (hpB G W) m k)], h2) ∧ mS h2 G W L B ∧ mX h2 ∧ eqx sxZ h h2
  | 0, k, h1, e, S, X, E => by
    have hP := S.1.2.2.1
    have : k = gP G := by omega
    subst this
    rw [b250_7]
    simp (disch := omega) only [in_170, if_true, nI_clamp, S.2.1.1.2.2]
    rw [if_pos (Int32.le_refl _), b250_86]
    exact ⟨h1, rfl, S, X, E⟩
  | m + 1, k, h1, e, S, X, E => by
    have hP := S.1.2.2.1
    have hk : k < gP G := by omega
    obtain ⟨a1, a2, a3, a4, a5, a6⟩ := mS_at S hk
    rw [b250_7]
    simp (disch := omega) only [in_170, if_true, nI_clamp, S.2.1.1.2.2]
    rw [if_neg (by rw [nI_leI (by omega) (by omega)]; omega), b250_17, m_isErrand S hk, bnd]
    simp only [app1, List.cons_append, List.nil_append]
    rw [b250_22]
    unfold hpF
    have ih := m_helped_loop hx hB m (k + 1)
    have skip : hpB G W k = false → ∀ h2, mS h2 G W L B → mX h2 → eqx sxZ h h2 → ∃ h3, xe 8 250 80 [.ref 169, .int (nI k)] [] h2 = some ([.int (if hpB G W k = true then nI k else hpF (hpB G W) m (k + 1))], h3) ∧ mS h3 G W L B ∧ mX h3 ∧ eqx sxZ h h3 := by
      intro hf h2 S2 X2 E2
      rw [b250_80, nI_add, hf, if_neg (by decide)]
      exact ih h2 (by omega) S2 X2 E2
    by_cases hg : gGol G k = none
    · rw [if_pos (by rw [bI_z]; exact fun z => z hg)]
      exact skip (decide_eq_false (fun z => z.1 hg)) h1 S X E
    · rw [if_neg (by rw [bI_z]; exact fun z => z hg), b250_25]
      simp (disch := omega) only [nI_add, in_170, if_true, nI_clamp, a3]
      by_cases h9 : wPap W k = 9
      · rw [if_pos (by rw [h9])]
        exact skip (decide_eq_false (fun z => z.2.1 h9)) h1 S X E
      · rw [if_neg (by rw [nI_eq (by omega) (by decide)]; exact h9), b250_39]
        simp (disch := omega) only [nI_add, in_170, if_true, nI_clamp, a3]
        obtain ⟨h2, e2, S2, X2, E2⟩ := m_isInTime S hx X hB hk a6 hg
        rw [e2, bnd]
        simp only [app1, List.cons_append, List.nil_append]
        rw [b250_53]
        by_cases q : wRd W / 2 ^ k % 2 = 1 ∨ tmB G W (wSh W) k (wPap W k) = true
        · rw [if_neg (by rw [bI_z]; exact fun z => z q), b250_56]
          exact skip (decide_eq_false (fun z => z.2.2.1 q)) h2 S2 X2 (E.tr E2)
        · rw [if_pos (by rw [bI_z]; exact q), b250_59]
          obtain ⟨-, -, b3, -, -, -⟩ := mS_at S2 hk
          simp (disch := omega) only [nI_add, in_170, if_true, nI_clamp, b3]
          obtain ⟨h3, e3, S3, X3, E3⟩ := m_isInTime S2 hx X2 hB hk (show wPap W k + 1 ≤ 9 by omega) hg
          rw [e3, bnd]
          simp only [app1, List.cons_append, List.nil_append]
          rw [b250_75]
          by_cases q2 : tmB G W (wSh W) k (wPap W k + 1) = true
          · rw [if_neg (by rw [bI_z]; exact fun z => z (Or.inr q2)), b250_78, if_pos (show hpB G W k = true from decide_eq_true ⟨hg, h9, q, q2⟩)]
            exact ⟨h3, rfl, S3, X3, (E.tr E2).tr E3⟩
          · rw [if_pos (by rw [bI_z]; exact fun z => z.elim (fun y => q (Or.inl y)) q2)]
            exact skip (decide_eq_false (fun z => q2 z.2.2.2)) h3 S3 X3 ((E.tr E2).tr E3)
theorem m_helped (S : mS h G W L B) (hx : wfX G) (X : mX h) (hB : B < 2 ^ 28) : ∃ h2, xc 250 [.ref 169] h = some ([.int (aHelp G W)], h2) ∧ mS h2 G W L B ∧ mX h2 ∧ eqx sxZ h h2 := by
  have S0 := mS_thrown (v := nI 0) S
  have X0 := mX_thrown (v := nI 0) X
  rw [en_250, b250_0, b250_5]
  exact m_helped_loop (h := h) hx hB (gP G) 0 _ (by omega) S0 X0 (Z_thrown eqx.rf)
end MERR
