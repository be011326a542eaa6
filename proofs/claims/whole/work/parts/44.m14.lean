/-! ===== the model: year, undo, takes ===== -/
/-- times draws: how many were done, the world then -/
def yearF (G : LG) : Nat → WG → Int32 → Nat × WG
  | 0, W, _ => (0, W)
  | m + 1, W, x => if whyV G W (drw x).1.toInt64 = 0 then ((yearF G m (doV G W (drw x).1.toInt64) (drw x).2).1 + 1, (yearF G m (doV G W (drw x).1.toInt64) (drw x).2).2) else yearF G m W (drw x).2
theorem yearF_le {G : LG} : ∀ (m : Nat) (W : WG) (x : Int32), (yearF G m W x).1 ≤ m ∧ ((yearF G m W x).1 = 0 → (yearF G m W x).2 = W)
  | 0, W, x => ⟨Nat.le_refl 0, fun _ => rfl⟩
  | m + 1, W, x => by
    unfold yearF
    split
    · have := (yearF_le (G := G) m (doV G W (drw x).1.toInt64) (drw x).2).1
      exact ⟨by dsimp only; omega, fun q => by dsimp only at q; omega⟩
    · have := yearF_le (G := G) m W (drw x).2
      exact ⟨by omega, this.2⟩
def sxY : Nat → Nat → Prop := fun c i => sxD c i ∨ (c = 169 ∧ i = 20)
theorem sxY_M : ∀ c i, sxY c i → sxM c i := fun c i h => by unfold sxY sxD at h; unfold sxM; omega
theorem mS_Y {G : LG} {W W' : WG} {L : List WG} {B B' : Nat} {h h2 : sm_H} (S : mS h G W L B) (E : eqx sxY h h2) (hW : mW (sm_gi h2 170) 88 (gP G) W') (hw : wfW G B' W') (hB : B ≤ B') : mS h2 G W' L B' := by
  obtain ⟨a1, a2, a3, a4, a5, a6, a7⟩ := S
  have e170 : ∀ i, (i < 88 ∨ 114 ≤ i) → sm_gi h2 170 i = sm_gi h 170 i := fun i hi => E.1 170 i (by unfold sxY sxD; omega)
  exact ⟨a1, mG_eq a1 (fun i hi => e170 i (by omega)) a2, hW, hw, mPast_eq a1.2.2.1 (fun i h1 _ => e170 i (by omega)) a5, fun j hj => (a6 j hj).mono hB, by rw [E.1 169 15 (by unfold sxY sxD; omega)]; exact a7⟩
theorem i32_64 (x : Int32) : x.toInt64.toInt32 = x := by simp
theorem m_year_loop {G : LG} {L : List WG} {h : sm_H} {n : Nat} {sd : Int32} (hn : n ≤ 40) : ∀ (m k c B : Nat) (W : WG) (h1 : sm_H) (l5 : Value), k + m = n → c ≤ k → mS h1 G W L B → eqx sxY h h1 →
    ∃ h2 l6, xe 7 221 34 [.ref 169, .int sd, .int (nI n), .int (nI c), .int (nI k), l5] [] h1 = xe 7 221 74 [.ref 169, .int sd, .int (nI n), .int (nI (c + (yearF G m W (sm_gi h1 169 20)).1)), .int (nI n), l6] [] h2 ∧ mS h2 G (yearF G m W (sm_gi h1 169 20)).2 L (B + 20 * m) ∧ eqx sxY h h2
  | 0, k, c, B, W, h1, l5, e, hc, S, E => by
    have hk : k = n := by omega
    subst hk
    rw [b221_34, if_pos (Int32.le_refl _)]
    exact ⟨h1, l5, rfl, S, E⟩
  | m + 1, k, c, B, W, h1, l5, e, hc, S, E => by
    rw [b221_34, if_neg (by rw [nI_leI (by omega) (by omega)]; omega), b221_40]
    obtain ⟨h2, e2, a2, E2⟩ := m_drawn (h := h1)
    rw [e2, bnd]
    simp only [app1, List.cons_append, List.nil_append]
    have S2 : mS h2 G W L B := mS_Y S (E2.wk (fun c i q => Or.inr q)) (by rw [show sm_gi h2 170 = sm_gi h1 170 from funext fun i => E2.1 170 i (by unfold sxX; omega)]; exact S.2.2.1) S.2.2.2.1 (Nat.le_refl B)
    rw [b221_44]
    obtain ⟨h3, e3, E3⟩ := m_whyNot (v := (drw (sm_gi h1 169 20)).1.toInt64) S2
    have S3 := mS_L S2 E3
    rw [e3, bnd]
    simp only [app1, List.cons_append, List.nil_append]
    rw [b221_53]
    have hle := whyV_le (G := G) (W := W) (v := (drw (sm_gi h1 169 20)).1.toInt64)
    have E13 : eqx sxY h h3 := (E.tr (E2.wk (fun c i q => Or.inr q))).tr (E3.wk (fun c i q => Or.inl (sxL_D c i q)))
    have x3 : sm_gi h3 169 20 = (drw (sm_gi h1 169 20)).2 := by rw [E3.1 169 20 (by unfold sxL; omega)]; exact a2
    unfold yearF
    by_cases h0 : whyV G W (drw (sm_gi h1 169 20)).1.toInt64 = 0
    · rw [if_pos (by rw [nI_z (by omega)]; exact h0), if_pos h0, b221_59]
      obtain ⟨h4, e4, W4, E4⟩ := m_does S3.1 S3.2.1 S3.2.2.1 S3.2.2.2.1 S3.2.2.2.2.2.2 h0
      rw [i32_64] at e4
      rw [e4, bnd]
      simp only [List.nil_append]
      rw [b221_65, b221_68, nI_add, nI_add]
      have S4 := mS_Y S3 (E4.wk (fun c i q => Or.inl q)) W4 (doV_wf S3.1 S3.2.2.2.1 h0) (show B ≤ B + 20 by omega)
      have x4 : sm_gi h4 169 20 = (drw (sm_gi h1 169 20)).2 := by rw [E4.1 169 20 (by unfold sxD; omega)]; exact x3
      obtain ⟨h5, l6, e5, S5, E5⟩ := m_year_loop (sd := sd) hn m (k + 1) (c + 1) (B + 20) _ h4 (.int (drw (sm_gi h1 169 20)).1) (by omega) (by omega) S4 (E13.tr (E4.wk (fun c i q => Or.inl q)))
      rw [x4] at e5 S5
      refine ⟨h5, l6, ?_, S5.mono (by omega), E5⟩
      rw [e5, show c + 1 + (yearF G m (doV G W (drw (sm_gi h1 169 20)).1.toInt64) (drw (sm_gi h1 169 20)).2).1 = c + ((yearF G m (doV G W (drw (sm_gi h1 169 20)).1.toInt64) (drw (sm_gi h1 169 20)).2).1 + 1) by omega]
    · rw [if_neg (by rw [nI_z (by omega)]; exact h0), if_neg h0, b221_56, b221_68, nI_add]
      obtain ⟨h5, l6, e5, S5, E5⟩ := m_year_loop (sd := sd) hn m (k + 1) c B W h3 (.int (drw (sm_gi h1 169 20)).1) (by omega) (by omega) S3 E13
      rw [x3] at e5 S5
      exact ⟨h5, l6, e5, S5.mono (by omega), E5⟩
def dYear (G : LG) (W : WG) (L : List WG) (sd n : Int32) : Int32 × WG × List WG := if lN 1 ≤ n.toInt64 ∧ n.toInt64 ≤ lN 40 then (nI (yearF G (toN n) W sd).1, (yearF G (toN n) W sd).2, if (yearF G (toN n) W sd).1 = 0 then L else pushL L W) else (-3, W, L)
theorem m_year {G : LG} {W : WG} {L : List WG} {B : Nat} {h : sm_H} {sd n : Int32} (S : mS h G W L B) : ∃ h2, xc 221 [.ref 169, .int sd, .int n] h = some ([.int (dYear G W L sd n).1], h2) ∧ mS h2 G (dYear G W L sd n).2.1 (dYear G W L sd n).2.2 (B + 800) ∧ eqx sxM h h2 := by
  rw [en_221, b221_0, b221_5]
  have S0 := mS_thrown (v := nI 0) S
  have hw := S0.1
  have hP := hw.2.2.1
  rw [m_within, bnd]
  simp only [app1, List.cons_append, List.nil_append]
  rw [b221_14, fa_litL 1, fa_litL 40]
  unfold dYear
  by_cases h1 : lN 1 ≤ n.toInt64 ∧ n.toInt64 ≤ lN 40
  · rw [if_neg (by rw [bI_z]; exact fun z => z h1), if_pos h1, b221_20]
    obtain ⟨k, hk1, hk2, rfl⟩ := within_nI (by decide) h1 (by decide)
    rw [toN_nI (by omega)]
    obtain ⟨h2, e2, k2, E2⟩ := m_keeps (h := sm_si h 169 0 (nI 0))
    rw [e2, bnd]
    simp only [List.nil_append]
    have S2 := mS_keep S0 E2
    rw [b221_24, b221_29]
    have E0 : eqx sxY h2 (sm_si h2 169 20 sd) := eqx.rf.si (Or.inr ⟨rfl, rfl⟩)
    have S3 : mS (sm_si h2 169 20 sd) G W L B := mS_Y S2 E0 (by rw [show sm_gi (sm_si h2 169 20 sd) 170 = sm_gi h2 170 from funext fun i => gi_cell (by decide)]; exact S2.2.2.1) S2.2.2.2.1 (Nat.le_refl B)
    obtain ⟨h4, l6, e4, S4, E4⟩ := m_year_loop (h := h2) (sd := sd) hk2 k 0 0 B W (sm_si h2 169 20 sd) .null (by omega) (by omega) S3 E0
    rw [gi_same, Nat.zero_add] at e4
    rw [gi_same] at S4
    rw [e4, b221_74]
    have hle := (yearF_le (G := G) k W sd).1
    by_cases h0 : (yearF G k W sd).1 = 0
    · rw [if_pos (by rw [nI_le0 (by omega)]; exact h0), if_pos h0, b221_82]
      exact ⟨h4, rfl, S4.mono (by omega), eqx_thrown ((E2.wk sxK_M).tr (E4.wk sxY_M))⟩
    · rw [if_neg (by rw [nI_le0 (by omega)]; exact h0), if_neg h0, b221_78]
      have hWk : mW (sm_gi h4 176) 0 (gP G) W := mW_cp (f := sm_gi (sm_si h 169 0 (nI 0)) 170) (o := 88) hP (fun i hi => by rw [Nat.zero_add, E4.1 176 i (by unfold sxY sxD; omega)]; exact k2 i hi) S0.2.2.1
      obtain ⟨h5, e5, P5, E5⟩ := m_notes hP S4.2.2.2.2.1 hWk
      rw [e5, bnd]
      simp only [List.nil_append]
      rw [b221_82]
      obtain ⟨b1, b2, b3, b4, b5, b6, b7⟩ := S4
      have e5' : ∀ i, (i < 114 ∨ 375 ≤ i) → sm_gi h5 170 i = sm_gi h4 170 i := fun i hi => E5.1 170 i (by unfold sxN; omega)
      exact ⟨h5, rfl, ⟨b1, mG_eq b1 (fun i hi => e5' i (by omega)) b2, mW_cp hP (fun i hi => e5' _ (by omega)) b3, b4.mono (by omega), P5, pushL_wf (fun j hj => (b6 j hj).mono (by omega)) (S0.2.2.2.1.mono (by omega)), by rw [E5.1 169 15 (by unfold sxN; omega)]; exact b7⟩, eqx_thrown (((E2.wk sxK_M).tr (E4.wk sxY_M)).tr (E5.wk sxN_M))⟩
  · rw [if_pos (by rw [bI_z]; exact h1), if_neg h1, b221_17]
    exact ⟨_, rfl, S0.mono (by omega), eqx_thrown eqx.rf⟩
/-- undo -/
def dUndo (W : WG) (L : List WG) (n : Int32) : Int32 × WG × List WG := if (lN 1 ≤ n.toInt64 ∧ n.toInt64 ≤ lN 10) ∧ n ≤ nI L.length then (nI (L.length - toN n), L.getD (L.length - toN n) W0, L.take (L.length - toN n)) else (-3, W, L)
def sxU : Nat → Nat → Prop := fun c i => c = 170 ∧ 88 ≤ i ∧ i < 115
theorem m_undo_loop {h : sm_H} {c : Nat} {n : Int32} (hc : c < 10) (h114 : sm_gi h 170 114 = nI c) : ∀ (m k : Nat) (h1 : sm_H), k + m = 26 → (∀ j, j < k → sm_gi h1 170 (88 + j) = sm_gi h 170 (115 + 26 * c + j)) → (∀ i, 114 ≤ i → sm_gi h1 170 i = sm_gi h 170 i) → eqx sxU h h1 →
    ∃ h2, xe 2 211 44 [.ref 169, .int n, .int (nI k)] [] h1 = some ([.int (nI c)], h2) ∧ (∀ j, j < 26 → sm_gi h2 170 (88 + j) = sm_gi h 170 (115 + 26 * c + j)) ∧ (∀ i, 114 ≤ i → sm_gi h2 170 i = sm_gi h 170 i) ∧ eqx sxU h h2
  | 0, k, h1, e, hj, hi, E => by
    have hk : k = 26 := by omega
    subst hk
    rw [b211_44, if_pos (Int32.le_refl _), b211_85]
    simp (disch := omega) only [in_170, if_true, nI_clamp, (hi 114 (by omega)).trans h114]
    exact ⟨h1, rfl, hj, hi, E⟩
  | m + 1, k, h1, e, hj, hi, E => by
    rw [b211_44, if_neg (by rw [nI_leI (by omega) (by omega)]; omega), b211_50]
    simp (disch := omega) only [in_170, if_true, nI_clamp, (hi 114 (by omega)).trans h114, pk_mul, nI_add]
    rw [b211_79, nI_add, hi _ (by omega)]
    refine m_undo_loop hc h114 m (k + 1) _ (by omega) (fun j hj2 => ?_) (fun i hi2 => ?_) (E.si (by unfold sxU; omega))
    · by_cases z : j = k
      · subst z; exact gi_same
      · rw [gi_slot (by omega)]; exact hj j (by omega)
    · rw [gi_slot (by omega)]; exact hi i hi2
theorem m_undo {G : LG} {W : WG} {L : List WG} {B : Nat} {h : sm_H} {n : Int32} (S : mS h G W L B) : ∃ h2, xc 211 [.ref 169, .int n] h = some ([.int (dUndo W L n).1], h2) ∧ mS h2 G (dUndo W L n).2.1 (dUndo W L n).2.2 B ∧ eqx sxM h h2 := by
  rw [en_211, b211_0, b211_5]
  have S0 := mS_thrown (v := nI 0) S
  have hw := S0.1
  have hP := hw.2.2.1
  have hL := S0.2.2.2.2.1
  rw [m_within, bnd]
  simp only [app1, List.cons_append, List.nil_append]
  rw [b211_14, fa_litL 1, fa_litL 10]
  unfold dUndo
  by_cases h1 : lN 1 ≤ n.toInt64 ∧ n.toInt64 ≤ lN 10
  · rw [if_neg (by rw [bI_z]; exact fun z => z h1), b211_17]
    simp (disch := omega) only [in_170, if_true, nI_clamp, hL.1]
    by_cases h2 : n ≤ nI L.length
    · rw [if_pos h2, if_pos ⟨h1, h2⟩, b211_31]
      obtain ⟨k, hk1, hk2, rfl⟩ := within_nI (by decide) h1 (by decide)
      have h10 := hL.2.1
      rw [nI_leI (by omega) (by omega)] at h2
      simp (disch := omega) only [in_170, if_true, nI_clamp, hL.1]
      rw [toN_nI (by omega), pk_sub h2, b211_42]
      generalize hh : sm_si (sm_si h 169 0 (nI 0)) 170 114 (nI (L.length - k)) = h3
      have g3 : ∀ i, i ≠ 114 → sm_gi h3 170 i = sm_gi (sm_si h 169 0 (nI 0)) 170 i := fun i hi => by rw [← hh]; exact gi_slot hi
      have E3 : eqx sxU (sm_si h 169 0 (nI 0)) h3 := by rw [← hh]; exact eqx.rf.si (by unfold sxU; omega)
      obtain ⟨h4, e4, a4, b4, E4⟩ := m_undo_loop (h := h3) (c := L.length - k) (n := nI k) (by omega) (by rw [← hh]; exact gi_same) 26 0 h3 (by omega) (fun j hj => by omega) (fun i hi => rfl) eqx.rf
      have E34 := E3.tr E4
      refine ⟨h4, e4, ⟨hw, mG_eq hw (fun i hi => E34.1 170 i (by unfold sxU; omega)) S0.2.1, mW_cp hP (fun i hi => by rw [a4 i hi, g3 _ (by omega)]) (hL.2.2 (L.length - k) (by omega)), S0.2.2.2.2.2.1 _ (by omega), ⟨by rw [b4 114 (by omega), ← hh, gi_same]; simp, by simp; omega, fun j hj => ?_⟩, fun j hj => ?_, by rw [E34.1 169 15 (by unfold sxU; omega)]; exact S0.2.2.2.2.2.2⟩, eqx_thrown (E34.wk (fun c i q => by unfold sxU at q; unfold sxM; omega))⟩
      · simp at hj
        rw [show (L.take (L.length - k)).getD j W0 = L.getD j W0 by rw [List.getD_eq_getElem?_getD, List.getD_eq_getElem?_getD, List.getElem?_take_of_lt (by omega)]]
        exact mW_cp hP (fun i hi => by rw [b4 _ (by omega), g3 _ (by omega)]) (hL.2.2 j (by omega))
      · simp at hj
        rw [show (L.take (L.length - k)).getD j W0 = L.getD j W0 by rw [List.getD_eq_getElem?_getD, List.getD_eq_getElem?_getD, List.getElem?_take_of_lt (by omega)]]
        exact S0.2.2.2.2.2.1 j (by omega)
    · rw [if_neg h2, if_neg (fun z => h2 z.2), b211_28]
      exact ⟨_, rfl, S0, eqx_thrown eqx.rf⟩
  · rw [if_pos (by rw [bI_z]; exact h1), if_neg (fun z => h1 z.1), b211_28]
    exact ⟨_, rfl, S0, eqx_thrown eqx.rf⟩
