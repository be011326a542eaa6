/-! ===== trays: numbers, write ===== -/
def cutV (v : Int64) (s : Nat) : Int64 := if s = 0 then v.toInt32.toInt8.toInt32.toInt64 else if s = 1 then v.toInt32.toInt16.toInt32.toInt64 else if s = 2 then v.toInt32.toInt64 else v
def upT (T : TG) (t : Nat) (q : Nat × List Int64) : TG := fun k => if k = t then some q else T k
theorem upT_s {T : TG} {t : Nat} {q : Nat × List Int64} : upT T t q t = some q := if_pos rfl
theorem upT_o {T : TG} {t k : Nat} {q : Nat × List Int64} (h : k ≠ t) : upT T t q k = T k := if_neg h
theorem getD_set {l : List Int64} {k j : Nat} {v : Int64} (hk : k < l.length) : (l.set k v).getD j 0 = if j = k then v else l.getD j 0 := by
  rw [List.getD_eq_getElem?_getD, List.getD_eq_getElem?_getD, List.getElem?_set]
  by_cases z : k = j
  · subst z
    rw [if_pos rfl, if_pos hk, if_pos rfl]
    rfl
  · rw [if_neg z, if_neg (fun y => z y.symm)]
noncomputable def dNums (T : TG) (t s n : Int32) : Int32 := if isN t.toInt64 4 ∧ isN s.toInt64 4 then (if isN n.toInt64 41 then nI 0 else -3) else -2
noncomputable def tNums (T : TG) (t s n : Int32) : TG := if isN t.toInt64 4 ∧ isN s.toInt64 4 then (if isN n.toInt64 41 then upT T (toN t) (toN s, List.replicate (toN n) 0) else T) else T
noncomputable def dWrite (T : TG) (t i : Int32) (v : Int64) : Int64 := if isN t.toInt64 4 then (match T (toN t) with | none => -6 | some q => if isN i.toInt64 q.2.length then cutV v q.1 else -7) else -2
noncomputable def tWrite (T : TG) (t i : Int32) (v : Int64) : TG := if isN t.toInt64 4 then (match T (toN t) with | none => T | some q => if isN i.toInt64 q.2.length then upT T (toN t) (q.1, q.2.set (toN i) (cutV v q.1)) else T) else T
/-! the model -/
def sxTr (t : Nat) : Nat → Nat → Prop := fun c i => (c = 184 ∧ i = t) ∨ (c = 185 ∧ i = t) ∨ (c = 186 ∧ 40 * t ≤ i ∧ i < 40 * t + 40)
def sxTM : Nat → Nat → Prop := fun c i => (184 ≤ c ∧ c ≤ 186) ∨ (c = 169 ∧ i = 0)
theorem sxTr_M {t : Nat} : ∀ c i, sxTr t c i → sxTM c i := fun c i z => by unfold sxTr at z; unfold sxTM; omega
theorem mT_up {h h2 : sm_H} {T : TG} {t : Nat} {q : Nat × List Int64} (hT : mT h T) (E : eqx (sxTr t) h h2) (a : sm_gi h2 184 t = nI q.1) (b : q.1 ≤ 3) (c : sm_gi h2 185 t = nI q.2.length) (d : q.2.length ≤ 40) (e : ∀ k, k < q.2.length → sm_gl h2 186 (40 * t + k) = q.2.getD k 0) : mT h2 (upT T t q) := by
  intro u hu
  by_cases z : u = t
  · subst z
    rw [upT_s]
    exact ⟨a, b, c, d, e⟩
  · rw [upT_o z]
    have H := hT u hu
    cases hq : T u with
    | none =>
      rw [hq] at H
      exact (E.1 184 u (by unfold sxTr; omega)).trans H
    | some r =>
      rw [hq] at H
      refine ⟨(E.1 184 u (by unfold sxTr; omega)).trans H.1, H.2.1, (E.1 185 u (by unfold sxTr; omega)).trans H.2.2.1, H.2.2.2.1, fun k hk => ?_⟩
      have := H.2.2.2.1
      exact (E.2.1 186 (40 * u + k) (by unfold sxTr; omega)).trans (H.2.2.2.2 k hk)
theorem mT_put {h : sm_H} {T : TG} {t k : Nat} {q : Nat × List Int64} {v : Int64} (hT : mT h T) (ht : t < 4) (hq : T t = some q) (hk : k < q.2.length) : mT (sm_sl h 186 (40 * t + k) v) (upT T t (q.1, q.2.set k v)) ∧ eqx (sxTr t) h (sm_sl h 186 (40 * t + k) v) := by
  have H := hT t ht
  rw [hq] at H
  have hl := H.2.2.2.1
  have E : eqx (sxTr t) h (sm_sl h 186 (40 * t + k) v) := eqx.rf.sl (by unfold sxTr; omega)
  refine ⟨mT_up hT E H.1 H.2.1 (by show _ = nI (q.2.set k v).length; rw [List.length_set]; exact H.2.2.1) (by show (q.2.set k v).length ≤ 40; rw [List.length_set]; exact hl) (fun j hj => ?_), E⟩
  show _ = (q.2.set k v).getD j 0
  rw [getD_set hk]
  by_cases z : j = k
  · subst z
    rw [gl_same, if_pos rfl]
  · rw [gl_slot (by omega), if_neg z]
    exact H.2.2.2.2 j (by rw [show (q.1, q.2.set k v).2.length = q.2.length from List.length_set] at hj; exact hj)
theorem m_cut {v : Int64} {s : Nat} {h : sm_H} (hs : s ≤ 3) : xc 271 [.long v, .int (nI s)] h = some ([.long (cutV v s)], h) := by
  rw [en_271, b271_0]
  unfold cutV
  rcases (show s = 0 ∨ s = 1 ∨ s = 2 ∨ s = 3 by omega) with rfl | rfl | rfl | rfl
  · rw [if_pos rfl, b271_4, b271_35]; rfl
  · rw [if_neg (by decide), b271_11, if_pos rfl, b271_16, b271_35]; rfl
  · rw [if_neg (by decide), b271_11, if_neg (by decide), b271_23, if_pos rfl, b271_28, b271_35]; rfl
  · rw [if_neg (by decide), b271_11, if_neg (by decide), b271_23, if_neg (by decide), b271_34, b271_35]; rfl
theorem m_nums_loop {t s n : Nat} {h0 : sm_H} (ht : t < 4) (hn : n ≤ 40) : ∀ (m k : Nat) (h1 : sm_H), k + m = n → (∀ j, j < k → sm_gl h1 186 (40 * t + j) = 0) → eqx (fun c i => c = 186 ∧ 40 * t ≤ i ∧ i < 40 * t + 40) h0 h1 → ∃ h2, xe 2 272 64 [.ref 169, .int (nI t), .int (nI s), .int (nI n), .int (nI k)] [] h1 = some ([.int (nI 0)], h2) ∧ (∀ j, j < n → sm_gl h2 186 (40 * t + j) = 0) ∧ eqx (fun c i => c = 186 ∧ 40 * t ≤ i ∧ i < 40 * t + 40) h0 h2
  | 0, k, h1, e, g, E => by
    have : k = n := by omega
    subst this
    rw [b272_64, if_pos (Int32.le_refl _), b272_89]
    exact ⟨h1, rfl, g, E⟩
  | m + 1, k, h1, e, g, E => by
    rw [b272_64, if_neg (by rw [nI_leI (by omega) (by omega)]; omega), b272_70, pk_mul, nI_add]
    simp (disch := omega) only [in_186, if_true, nI_clamp]
    rw [b272_83, nI_add]
    refine m_nums_loop ht hn m (k + 1) _ (by omega) (fun j hj => ?_) (E.tr (eqx.rf.sl (by omega)))
    by_cases z : j = k
    · subst z; rw [gl_same]
    · rw [gl_slot (by omega)]; exact g j (by omega)
theorem m_numbers {h : sm_H} {T : TG} {t s n : Int32} (hT : mT h T) : ∃ h2, xc 272 [.ref 169, .int t, .int s, .int n] h = some ([.int (dNums T t s n)], h2) ∧ mT h2 (tNums T t s n) ∧ eqx sxTM h h2 := by
  have E0 : eqx sxTM h (sm_si h 169 0 (nI 0)) := eqx.rf.si (by unfold sxTM; omega)
  have T0 : mT (sm_si h 169 0 (nI 0)) T := mT_eqx hT (S := fun c _ => c = 169) (eqx.si (S := fun c _ => c = 169) eqx.rf rfl) (fun c i a b z => by omega)
  rw [en_272, b272_0, b272_5, m_within, bnd]
  simp only [app1, List.cons_append, List.nil_append]
  rw [b272_14, fa_litL 0, fa_litL 3, bI_congr (isN_w (by decide))]
  unfold dNums tNums
  by_cases h1 : isN t.toInt64 4
  · rw [if_neg (by rw [bI_z]; exact fun z => z h1), b272_17, m_within, bnd]
    simp only [app1, List.cons_append, List.nil_append]
    rw [b272_26, fa_litL 0, fa_litL 3, bI_congr (isN_w (by decide))]
    by_cases h2 : isN s.toInt64 4
    · have hc : isN t.toInt64 4 ∧ isN s.toInt64 4 := ⟨h1, h2⟩
      rw [if_neg (by rw [bI_z]; exact fun z => z h2), if_pos hc, if_pos hc, b272_32, m_within, bnd]
      simp only [app1, List.cons_append, List.nil_append]
      rw [b272_41, fa_litL 0, fa_litL 40, bI_congr (isN_w (by decide))]
      by_cases h3 : isN n.toInt64 41
      · rw [if_neg (by rw [bI_z]; exact fun z => z h3), if_pos h3, if_pos h3]
        obtain ⟨t, ht, rfl⟩ := isN_nI h1 (by omega)
        obtain ⟨s, hs, rfl⟩ := isN_nI h2 (by omega)
        obtain ⟨n, hn, rfl⟩ := isN_nI h3 (by omega)
        rw [toN_nI (by omega), toN_nI (by omega), toN_nI (by omega), b272_47]
        simp (disch := omega) only [in_184, if_true, nI_clamp]
        rw [b272_54]
        simp (disch := omega) only [in_185, if_true, nI_clamp]
        rw [b272_61]
        obtain ⟨h4, e4, g4, E4⟩ := m_nums_loop (t := t) (s := s) (n := n) (h0 := sm_si (sm_si (sm_si h 169 0 (nI 0)) 184 t (nI s)) 185 t (nI n)) ht (by omega) n 0 _ (by omega) (fun j hj => absurd hj (by omega)) eqx.rf
        rw [e4]
        have E5 : eqx (sxTr t) (sm_si h 169 0 (nI 0)) h4 := (((eqx.rf (h := sm_si h 169 0 (nI 0))).si (c := 184) (i := t) (v := nI s) (by unfold sxTr; omega)).si (c := 185) (i := t) (v := nI n) (by unfold sxTr; omega)).tr (E4.wk (fun c i z => by unfold sxTr; omega))
        refine ⟨h4, rfl, mT_up T0 E5 ?_ (by show s ≤ 3; omega) ?_ (by show (List.replicate n (0 : Int64)).length ≤ 40; rw [List.length_replicate]; omega) (fun k hk => ?_), E0.tr (E5.wk sxTr_M)⟩
        · rw [E4.1 184 t (by omega), gi_cell (by decide), gi_same]
        · show _ = nI (List.replicate n (0 : Int64)).length
          rw [E4.1 185 t (by omega), gi_same, List.length_replicate]
        · have hk' : k < n := by have z : k < (List.replicate n (0 : Int64)).length := hk; rw [List.length_replicate] at z; exact z
          rw [g4 k hk']
          show 0 = (List.replicate n (0 : Int64)).getD k 0
          rw [List.getD_eq_getElem?_getD, List.getElem?_replicate, if_pos hk']
          rfl
      · rw [if_pos (by rw [bI_z]; exact h3), if_neg h3, if_neg h3, b272_44]
        exact ⟨_, rfl, T0, E0⟩
    · have hc : ¬ (isN t.toInt64 4 ∧ isN s.toInt64 4) := fun z => h2 z.2
      rw [if_pos (by rw [bI_z]; exact h2), if_neg hc, if_neg hc, b272_29]
      exact ⟨_, rfl, T0, E0⟩
  · have hc : ¬ (isN t.toInt64 4 ∧ isN s.toInt64 4) := fun z => h1 z.1
    rw [if_pos (by rw [bI_z]; exact h1), if_neg hc, if_neg hc, b272_29]
    exact ⟨_, rfl, T0, E0⟩
theorem m_write {h : sm_H} {T : TG} {t i : Int32} {v : Int64} (hT : mT h T) : ∃ h2, xc 273 [.ref 169, .int t, .int i, .long v] h = some ([.long (dWrite T t i v)], h2) ∧ mT h2 (tWrite T t i v) ∧ eqx sxTM h h2 := by
  have E0 : eqx sxTM h (sm_si h 169 0 (nI 0)) := eqx.rf.si (by unfold sxTM; omega)
  have T0 : mT (sm_si h 169 0 (nI 0)) T := mT_eqx hT (S := fun c _ => c = 169) (eqx.si (S := fun c _ => c = 169) eqx.rf rfl) (fun c i a b z => by omega)
  rw [en_273, b273_0, b273_5, m_noTray T0, bnd]
  simp only [app1, List.cons_append, List.nil_append]
  rw [b273_10]
  unfold dWrite tWrite trI
  by_cases h1 : isN t.toInt64 4
  · rw [if_pos h1, if_pos h1, if_pos h1]
    obtain ⟨t, ht, rfl⟩ := isN_nI h1 (by omega)
    rw [toN_nI (by omega)]
    have H := T0 t ht
    cases hq : T t with
    | none =>
      dsimp only
      rw [if_neg (by decide), b273_17]
      exact ⟨_, rfl, T0, E0⟩
    | some q =>
      rw [hq] at H
      have hl := H.2.2.2.1
      dsimp only
      rw [if_pos (show nI 0 = 0 from rfl), b273_21]
      simp (disch := omega) only [in_185, if_true, nI_clamp, H.2.2.1]
      rw [m_within, bnd]
      simp only [app1, List.cons_append, List.nil_append]
      have hi : (0 ≤ i.toInt64 ∧ i.toInt64 ≤ (nI q.2.length - nI 1).toInt64) ↔ isN i.toInt64 q.2.length := by
        unfold isN
        rw [Int64.le_iff_toInt_le, Int64.le_iff_toInt_le, Int32.toInt_toInt64, Int32.toInt_toInt64, pk_sub_toInt (by omega) (by omega), show (0 : Int64).toInt = 0 from rfl]
        omega
      rw [b273_36, bI_congr hi]
      by_cases h3 : isN i.toInt64 q.2.length
      · rw [if_neg (by rw [bI_z]; exact fun z => z h3), if_pos h3, if_pos h3]
        obtain ⟨i, hi', rfl⟩ := isN_nI h3 (by omega)
        rw [toN_nI (by omega), b273_43]
        simp (disch := omega) only [in_184, if_true, nI_clamp, H.1]
        rw [m_cut H.2.1, bnd]
        simp only [app1, List.cons_append, List.nil_append]
        rw [b273_63, pk_mul, nI_add]
        simp (disch := omega) only [in_186, if_true, nI_clamp]
        obtain ⟨T5, E5⟩ := mT_put (k := i) (v := cutV v q.1) T0 ht hq hi'
        rw [b273_64, pk_mul, nI_add]
        simp (disch := omega) only [in_186, if_true, nI_clamp, gl_same]
        exact ⟨_, rfl, T5, E0.tr (E5.wk sxTr_M)⟩
      · rw [if_pos (by rw [bI_z]; exact h3), if_neg h3, if_neg h3, b273_39]
        exact ⟨_, rfl, T0, E0⟩
  · rw [if_neg h1, if_neg h1, if_neg h1, if_neg (by decide), b273_17]
    exact ⟨_, rfl, T0, E0⟩
