/-! ===== lists ===== -/
def lsF (p s : Nat) (w : List Nat) (l : List Int64) : Nat → List Int64
  | 0 => l
  | k + 1 => (lsF p s w l k).set k (cutV (lN (100 * p + w.getD k 0)) s)
theorem lsF_len {p s : Nat} {w : List Nat} {l : List Int64} : ∀ k, (lsF p s w l k).length = l.length
  | 0 => rfl
  | k + 1 => by
    show ((lsF p s w l k).set k _).length = _
    rw [List.length_set, lsF_len k]
theorem upT_upT {T : TG} {t : Nat} {q r : Nat × List Int64} : upT (upT T t q) t r = upT T t r := by
  funext k
  unfold upT
  by_cases z : k = t
  · rw [if_pos z, if_pos z]
  · rw [if_neg z, if_neg z, if_neg z]
theorem upT_id {T : TG} {t : Nat} {q : Nat × List Int64} (h : T t = some q) : upT T t q = T := by
  funext k
  unfold upT
  by_cases z : k = t
  · rw [if_pos z, z, h]
  · rw [if_neg z]
noncomputable def dLists (G : LG) (W : WG) (T : TG) (t p f : Int32) : Int32 := if isN t.toInt64 4 ∧ isN p.toInt64 (gP G) ∧ isN f.toInt64 (gN G) then (match T (toN t) with
  | none => -6
  | some q => (match bW G (wSh W) none (toN p) (xS W (toN p)) 0 (toN f) with
    | none => -5
    | some w => nI (min w.length q.2.length))) else -2
noncomputable def tLists (G : LG) (W : WG) (T : TG) (t p f : Int32) : TG := if isN t.toInt64 4 ∧ isN p.toInt64 (gP G) ∧ isN f.toInt64 (gN G) then (match T (toN t) with
  | none => T
  | some q => (match bW G (wSh W) none (toN p) (xS W (toN p)) 0 (toN f) with
    | none => T
    | some w => upT T (toN t) (q.1, lsF (toN p) q.1 w q.2 (min w.length q.2.length)))) else T
def sxZT : Nat → Nat → Prop := fun c i => sxZ c i ∨ sxTM c i
section MLS
variable {G : LG} {W : WG} {L : List WG} {B B' : Nat} {h : sm_H} {T : TG}
theorem mS_TM {h2 : sm_H} (S : mS h G W L B) (E : eqx sxTM h h2) : mS h2 G W L B := by
  obtain ⟨hw, hG, hW, hww, hL, hLw, hpl⟩ := S
  have e : sm_gi h2 170 = sm_gi h 170 := funext fun i => E.1 170 i (by unfold sxTM; omega)
  exact ⟨hw, by rw [e]; exact hG, by rw [e]; exact hW, hww, by rw [e]; exact hL, hLw, by rw [E.1 169 15 (by unfold sxTM; omega)]; exact hpl⟩
theorem mX_TM {h2 : sm_H} (X : mX h) (E : eqx sxTM h h2) : mX h2 := by
  obtain ⟨n, K, V⟩ := X
  exact ⟨n, K, mV_eqx V E (fun c i z => by unfold sxTM at z; omega)⟩
theorem m_lists_loop {t p f : Nat} {q : Nat × List Int64} {w : List Nat} {l4 : Int32} {h0 : sm_H} (hp : p < 6) (ht : t < 4) (hl : w.length ≤ 2420) (hr : ∀ r, r ∈ w → r < 12) (hg : ∀ j, j < w.length → sm_gi h0 181 j = nI (w.getD j 0)) (hq4 : q.2.length ≤ 40) {n : Nat} (hn : n = min w.length q.2.length) : ∀ (m k : Nat) (h1 : sm_H), k + m = n → mT h1 (upT T t (q.1, lsF p q.1 w q.2 k)) → eqx sxTM h0 h1 → ∃ h2, xe 9 274 88 [.ref 169, .int (nI t), .int (nI p), .int (nI f), .int l4, .int (nI w.length), .int (nI n), .int (nI k)] [] h1 = some ([.int (nI n)], h2) ∧ mT h2 (upT T t (q.1, lsF p q.1 w q.2 n)) ∧ eqx sxTM h0 h2
  | 0, k, h1, e, U, E => by
    have : k = n := by omega
    subst this
    rw [b274_88, if_pos (Int32.le_refl _), b274_135]
    exact ⟨h1, rfl, U, E⟩
  | m + 1, k, h1, e, U, E => by
    have hn1 : k < w.length := by omega
    have hn2 : k < q.2.length := by omega
    have H := U t ht
    rw [upT_s] at H
    have hmem : w.getD k 0 ∈ w := by
      rw [List.getD_eq_getElem?_getD, List.getElem?_eq_getElem hn1]
      exact List.getElem_mem _
    have hr' := hr _ hmem
    rw [b274_88, if_neg (by rw [nI_leI (by omega) (by omega)]; omega), b274_95]
    have g1 : sm_gi h1 181 k = nI (w.getD k 0) := (E.1 181 k (by unfold sxTM; omega)).trans (hg k hn1)
    simp (disch := omega) only [in_181, in_184, if_true, nI_clamp, g1, H.1]
    rw [pk_mul, nI_add, nI_l (by omega), m_cut H.2.1, bnd]
    simp only [app1, List.cons_append, List.nil_append]
    rw [b274_128, pk_mul, nI_add]
    simp (disch := omega) only [in_186, if_true, nI_clamp]
    rw [b274_129, nI_add]
    obtain ⟨T5, E5⟩ := mT_put (k := k) (v := cutV (lN (100 * p + w.getD k 0)) q.1) U ht upT_s (by show k < (lsF p q.1 w q.2 k).length; rw [lsF_len]; exact hn2)
    rw [upT_upT] at T5
    exact m_lists_loop hp ht hl hr hg hq4 hn m (k + 1) _ (by omega) T5 (E.tr (E5.wk sxTr_M))
theorem m_lists (S : mS h G W L B) (hx : wfX G) (X : mX h) (hT : mT h T) {t p f : Int32} : ∃ h2, xc 274 [.ref 169, .int t, .int p, .int f] h = some ([.int (dLists G W T t p f)], h2) ∧ mS h2 G W L B ∧ mX h2 ∧ mT h2 (tLists G W T t p f) ∧ eqx sxZT h h2 := by
  have hw := S.1
  have hP := S.1.2.2.1
  have hN := S.1.1.2
  have hR := S.1.2.1
  have E0 : eqx sxTM h (sm_si h 169 0 (nI 0)) := eqx.rf.si (by unfold sxTM; omega)
  have S0 := mS_thrown (v := nI 0) S
  have X0 := mX_thrown (v := nI 0) X
  have T0 : mT (sm_si h 169 0 (nI 0)) T := mT_eqx hT (S := fun c _ => c = 169) (eqx.si (S := fun c _ => c = 169) eqx.rf rfl) (fun c i a b z => by omega)
  have EZ : ∀ {h2}, eqx sxTM h h2 → eqx sxZT h h2 := fun e => e.wk (fun c i z => Or.inr z)
  rw [en_274, b274_0, b274_5, m_within, bnd]
  simp only [app1, List.cons_append, List.nil_append]
  rw [b274_14, fa_litL 0, fa_litL 3, bI_congr (isN_w (by decide))]
  unfold dLists tLists
  by_cases h1 : isN t.toInt64 4
  · rw [if_neg (by rw [bI_z]; exact fun z => z h1), b274_17, m_isWay S0, bnd]
    simp only [app1, List.cons_append, List.nil_append]
    rw [b274_23]
    by_cases h2 : isN p.toInt64 (gP G) ∧ isN f.toInt64 (gN G)
    · have hc : isN t.toInt64 4 ∧ isN p.toInt64 (gP G) ∧ isN f.toInt64 (gN G) := ⟨h1, h2⟩
      rw [if_neg (by rw [bI_z]; exact fun z => z h2), if_pos hc, if_pos hc, b274_29, m_noTray T0, bnd]
      simp only [app1, List.cons_append, List.nil_append]
      rw [b274_34]
      unfold trI
      rw [if_pos h1]
      obtain ⟨t, ht, rfl⟩ := isN_nI h1 (by omega)
      obtain ⟨p, hp, rfl⟩ := isN_nI h2.1 (by omega)
      obtain ⟨f, hf, rfl⟩ := isN_nI h2.2 (by omega)
      rw [toN_nI (by omega), toN_nI (by omega), toN_nI (by omega)]
      have H := T0 t ht
      cases hq : T t with
      | none =>
        dsimp only
        rw [if_neg (by decide), b274_41]
        exact ⟨_, rfl, S0, X0, T0, EZ E0⟩
      | some q =>
        rw [hq] at H
        have hl := H.2.2.2.1
        dsimp only
        rw [if_pos (show nI 0 = 0 from rfl), b274_44]
        obtain ⟨h2, e2, g2, S2, X2, E2⟩ := m_laysWay (f := f) S0 hx X0 hp (by omega)
        have T2 : mT h2 T := mT_eqx T0 E2 (fun c i a b z => by unfold sxZ at z; omega)
        have E02 : eqx sxZT h h2 := (EZ E0).tr (E2.wk (fun c i z => Or.inl z))
        rw [e2, bnd]
        simp only [app1, List.cons_append, List.nil_append]
        rw [b274_50]
        cases hb : bW G (wSh W) none p (xS W p) 0 f with
        | none =>
          rw [show lenI none = -1 from rfl, if_pos rfl, b274_58]
          exact ⟨_, rfl, S2, X2, T2, E02⟩
        | some w =>
          obtain ⟨g21, g22, -⟩ := g2 w hb
          have hr := bW_R hw hb
          have H2 := T2 t ht
          rw [hq] at H2
          rw [show lenI (some w) = nI w.length from rfl, if_neg (by rw [nI_m1 (by omega)]; exact id), b274_61]
          simp (disch := omega) only [in_185, if_true, nI_clamp, H2.2.2.1]
          have key : ∀ n, n = min w.length q.2.length → ∃ h2', xe 9 274 83 [.ref 169, .int (nI t), .int (nI p), .int (nI f), .int (nI 0), .int (nI w.length), .null, .null] [.int (nI n)] h2 = some ([.int (nI (min w.length q.2.length))], h2') ∧ mS h2' G W L B ∧ mX h2' ∧ mT h2' (upT T t (q.1, lsF p q.1 w q.2 (min w.length q.2.length))) ∧ eqx sxZT h h2' := fun n hn => by
            rw [b274_83]
            obtain ⟨h4, e4, T4, E4⟩ := m_lists_loop (f := f) (l4 := nI 0) (T := T) (h0 := h2) (q := q) (p := p) (by omega) ht g21 (fun r z => by have := hr r z; omega) g22 hl hn n 0 h2 (by omega) (by rw [show lsF p q.1 w q.2 0 = q.2 from rfl, upT_id hq]; exact T2) eqx.rf
            rw [e4]
            rw [hn] at T4
            exact ⟨h4, by rw [hn], mS_TM S2 E4, mX_TM X2 E4, T4, E02.tr (E4.wk (fun c i z => Or.inr z))⟩
          by_cases z : q.2.length ≤ w.length
          · rw [if_pos (by rw [nI_leI (by omega) (by omega)]; exact z), b274_77]
            simp (disch := omega) only [in_185, if_true, nI_clamp, H2.2.2.1]
            exact key _ (by omega)
          · rw [if_neg (by rw [nI_leI (by omega) (by omega)]; exact z), b274_72]
            exact key _ (by omega)
    · have hc : ¬ (isN t.toInt64 4 ∧ isN p.toInt64 (gP G) ∧ isN f.toInt64 (gN G)) := fun z => h2 z.2
      rw [if_pos (by rw [bI_z]; exact h2), if_neg hc, if_neg hc, b274_26]
      exact ⟨_, rfl, S0, X0, T0, EZ E0⟩
  · have hc : ¬ (isN t.toInt64 4 ∧ isN p.toInt64 (gP G) ∧ isN f.toInt64 (gN G)) := fun z => h1 z.1
    rw [if_pos (by rw [bI_z]; exact h1), if_neg hc, if_neg hc, b274_26]
    exact ⟨_, rfl, S0, X0, T0, EZ E0⟩
/-! the class -/
theorem cS_TK {h2 : sm_H} (S : cS h G W L B) (E : eqx sxTK h h2) : cS h2 G W L B := ⟨cE_eqx S.1 E (fun c i z => by unfold sxTK at z; omega), cW_eqx S.2.1 E (fun c i z => by unfold sxTK at z; omega), S.2.2.1, cPast_eqx S.2.2.2.1 E (fun c i z => by unfold sxTK at z; omega), S.2.2.2.2⟩
theorem cI_TK {h2 : sm_H} (I : cI h B') (E : eqx sxTK h h2) : cI h2 B' := cI_eqx I E (fun c i z => by unfold sxTK at z; omega)
def sxWT : Nat → Nat → Prop := fun c i => sxW c i ∨ sxTK c i
theorem c_lists_loop {t p : Nat} {f : Int32} {q : Nat × List Int64} {w : List Nat} {h0 : sm_H} (hp : p < 6) (ht : t < 4) (hr : ∀ r, r ∈ w → r < 12) (P0 : spl h0 w) (hq4 : q.2.length ≤ 40) {n : Nat} (hn : n = min w.length q.2.length) : ∀ (m k : Nat) (h1 : sm_H), k + m = n → cT h1 (upT T t (q.1, lsF p q.1 w q.2 k)) → eqx sxTK h0 h1 → ∃ h2, xe 8 143 105 [.ref 0, .int (nI t), .int (nI p), .int f, .int (nI n), .int (nI k)] [] h1 = some ([.int (nI n)], h2) ∧ cT h2 (upT T t (q.1, lsF p q.1 w q.2 n)) ∧ eqx sxTK h0 h2
  | 0, k, h1, e, U, E => by
    have : k = n := by omega
    subst this
    rw [b143_105, if_pos (Int32.le_refl _), b143_143]
    exact ⟨h1, rfl, U, E⟩
  | m + 1, k, h1, e, U, E => by
    have hl := P0.2.1
    have hn1 : k < w.length := by omega
    have hn2 : k < q.2.length := by omega
    have hmem : w.getD k 0 ∈ w := by
      rw [List.getD_eq_getElem?_getD, List.getElem?_eq_getElem hn1]
      exact List.getElem_mem _
    have hr' := hr _ hmem
    have P1 : spl h1 w := ⟨(E.1 104 18 (by unfold sxTK; omega)).trans P0.1, hl, fun i hi => (E.1 109 _ (by unfold sxTK; omega)).trans (P0.2.2 i hi)⟩
    rw [b143_105, if_neg (by rw [nI_leI (by omega) (by omega)]; omega), b143_112, c_spelledRoad P1, bnd]
    simp only [app1, List.cons_append, List.nil_append]
    have hwi : wI w (nI k) = nI (w.getD k 0) := by
      unfold wI
      rw [if_pos (by unfold isN; rw [Int32.toInt_toInt64, nI_toInt (by omega)]; omega), toN_nI (by omega)]
    obtain ⟨T5, E5⟩ := cT_put (k := k) (v := cutV (lN (100 * p + w.getD k 0)) q.1) U ht upT_s (by show k < (lsF p q.1 w q.2 k).length; rw [lsF_len]; exact hn2)
    rw [hwi, b143_132, pk_mul, nI_add, nI_l (by omega), c_put U ht upT_s (by show k < (lsF p q.1 w q.2 k).length; rw [lsF_len]; exact hn2), bnd]
    simp only [List.nil_append]
    rw [b143_137, nI_add]
    rw [upT_upT] at T5
    exact c_lists_loop hp ht hr P0 hq4 hn m (k + 1) _ (by omega) T5 (E.tr (E5.wk (sxTc_K ht)))
theorem c_lists (S : cS h G W L B) (I : cI h B') (hB : B' < 2 ^ 28) (hT : cT h T) {t p f : Int32} : ∃ h2, xc 143 [.ref 0, .int t, .int p, .int f] h = some ([.int (dLists G W T t p f)], h2) ∧ cS h2 G W L B ∧ cI h2 (B' + 1) ∧ cT h2 (tLists G W T t p f) ∧ eqx sxWT h h2 := by
  have hw := S.1.1
  have hN := hw.1.2
  have hP := hw.2.2.1
  have hR := hw.2.1
  have hx0 := S.1.2.1
  rw [en_143, b143_0, c_isTray, bnd]
  simp only [app1, List.cons_append, List.nil_append]
  rw [b143_8]
  unfold dLists tLists
  by_cases h1 : isN t.toInt64 4
  · rw [if_neg (by rw [bI_z]; exact fun z => z h1), b143_11, c_hasPerson isD2 S.1.2.2.1.1.2.2.1 (by omega), bnd]
    simp only [app1, List.cons_append, List.nil_append]
    rw [b143_19]
    by_cases h2 : isN p.toInt64 (gP G)
    · rw [if_neg (by rw [bI_z]; exact fun z => z h2), b143_22, c_hasPlace isD2 S.1.2.2.1.1.1 (by omega), bnd]
      simp only [app1, List.cons_append, List.nil_append]
      rw [b143_30]
      by_cases h3 : isN f.toInt64 (gN G)
      · have hc : isN t.toInt64 4 ∧ isN p.toInt64 (gP G) ∧ isN f.toInt64 (gN G) := ⟨h1, h2, h3⟩
        rw [if_neg (by rw [bI_z]; exact fun z => z h3), if_pos hc, if_pos hc, b143_36]
        obtain ⟨t, ht, rfl⟩ := isN_nI h1 (by omega)
        obtain ⟨p, hp, rfl⟩ := isN_nI h2 (by omega)
        obtain ⟨f, hf, rfl⟩ := isN_nI h3 (by omega)
        rw [toN_nI (by omega), toN_nI (by omega), toN_nI (by omega), c_isMissing hT ht, bnd]
        simp only [app1, List.cons_append, List.nil_append]
        rw [b143_44]
        have H := hT t ht
        cases hq : T t with
        | none =>
          rw [if_neg (by rw [bI_z]; exact fun z => z rfl), b143_47]
          exact ⟨h, rfl, S, I.mono (by omega), hT, eqx.rf⟩
        | some q =>
          rw [hq] at H
          have hl := H.2.2.2.1
          dsimp only
          rw [if_pos (by rw [bI_z]; exact fun z => by cases z), b143_50]
          obtain ⟨D, h1', e1, F1, Q1, S1, I1, E1⟩ := c_seek S I (by omega) hp
          rw [e1, bnd]
          simp only [List.nil_append]
          rw [b143_58, c_daysTo Q1 F1 hf, bnd]
          simp only [app1, List.cons_append, List.nil_append]
          rw [b143_66]
          have T1 := cT_eqx hT E1 (fun c i z => by unfold sxW at z; omega)
          have WT : ∀ {a b}, eqx sxW a b → eqx sxWT a b := fun e => e.wk (fun c i z => Or.inl z)
          cases hb : bW G (wSh W) none p (xS W p) 0 f with
          | none =>
            rw [show dyI G none = -1 from rfl, if_pos rfl, b143_70]
            exact ⟨h1', rfl, S1, I1, T1, WT E1⟩
          | some w =>
            have hd := bW_days hw hx0 Q1.2.2.1.1 Q1.2.2.1.2 hb
            have hr := bW_R hw hb
            rw [show dyI G (some w) = nI (dys (gLon G) w) from rfl, if_neg (by rw [nI_m1 (by omega)]; exact id), b143_73]
            obtain ⟨h3, e3, P3, E3⟩ := c_spellTo Q1 F1 hf
            rw [hb] at P3
            have P3' : spl h3 w := P3
            have hl3 := P3'.2.1
            rw [e3, bnd]
            simp only [List.nil_append]
            have T3 := cT_eqx T1 E3 (fun c i z => by unfold sxJ at z; omega)
            have H3 := T3 t ht
            rw [hq] at H3
            have cE3 := cE_J Q1.1 E3
            have S3 := cS_W S1 cE3 (E3.wk sxJ_W)
            have I3 := cI_J I1 E3
            rw [b143_81]
            simp (disch := omega) only [in_122, if_true, nI_clamp, H3.2.2.1, P3'.1]
            rw [c_min, bnd]
            simp only [app1, List.cons_append, List.nil_append]
            have hmin : (if nI w.length ≤ nI q.2.length then nI w.length else nI q.2.length) = nI (min w.length q.2.length) := by
              by_cases z : w.length ≤ q.2.length
              · rw [if_pos (by rw [nI_leI (by omega) (by omega)]; exact z), show min w.length q.2.length = w.length by omega]
              · rw [if_neg (by rw [nI_leI (by omega) (by omega)]; exact z), show min w.length q.2.length = q.2.length by omega]
            rw [hmin, b143_100]
            obtain ⟨h4, e4, T4, E4⟩ := c_lists_loop (T := T) (f := nI f) (q := q) (p := p) (by omega) ht (fun r z => by have := hr r z; omega) P3' hl rfl (min w.length q.2.length) 0 h3 (by omega) (by rw [show lsF p q.1 w q.2 0 = q.2 from rfl, upT_id hq]; exact T3) eqx.rf
            rw [e4]
            exact ⟨h4, rfl, cS_TK S3 E4, cI_TK I3 E4, T4, (WT (E1.tr (E3.wk sxJ_W))).tr (E4.wk (fun c i z => Or.inr z))⟩
      · have hc : ¬ (isN t.toInt64 4 ∧ isN p.toInt64 (gP G) ∧ isN f.toInt64 (gN G)) := fun z => h3 z.2.2
        rw [if_pos (by rw [bI_z]; exact h3), if_neg hc, if_neg hc, b143_33]
        exact ⟨h, rfl, S, I.mono (by omega), hT, eqx.rf⟩
    · have hc : ¬ (isN t.toInt64 4 ∧ isN p.toInt64 (gP G) ∧ isN f.toInt64 (gN G)) := fun z => h2 z.2.1
      rw [if_pos (by rw [bI_z]; exact h2), if_neg hc, if_neg hc, b143_33]
      exact ⟨h, rfl, S, I.mono (by omega), hT, eqx.rf⟩
  · have hc : ¬ (isN t.toInt64 4 ∧ isN p.toInt64 (gP G) ∧ isN f.toInt64 (gN G)) := fun z => h1 z.1
    rw [if_pos (by rw [bI_z]; exact h1), if_neg hc, if_neg hc, b143_33]
    exact ⟨h, rfl, S, I.mono (by omega), hT, eqx.rf⟩
end MLS
