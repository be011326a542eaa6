/-! ===== trays: the class ===== -/
def sxTc (t : Nat) : Nat → Nat → Prop := fun c i => (c = 122 ∧ i = t) ∨ (c = 123 ∧ i = t) ∨ c = 118 + t
def sxTK : Nat → Nat → Prop := fun c _ => 118 ≤ c ∧ c ≤ 123
theorem sxTc_K {t : Nat} (ht : t < 4) : ∀ c i, sxTc t c i → sxTK c i := fun c i z => by unfold sxTc at z; unfold sxTK; omega
theorem cT_up {h h2 : sm_H} {T : TG} {t : Nat} {q : Nat × List Int64} (hT : cT h T) (ht : t < 4) (E : eqx (sxTc t) h h2) (a : sm_gi h2 123 t = nI q.1) (b : q.1 ≤ 3) (c : sm_gi h2 122 t = nI q.2.length) (d : q.2.length ≤ 40) (e : ∀ k, k < q.2.length → sm_gl h2 (118 + t) k = q.2.getD k 0) : cT h2 (upT T t q) := by
  intro u hu
  by_cases z : u = t
  · subst z
    rw [upT_s]
    exact ⟨a, b, c, d, e⟩
  · rw [upT_o z]
    have H := hT u hu
    cases hq : T u with
    | none =>
      rw [hq] at H
      exact (E.1 122 u (by unfold sxTc; omega)).trans H
    | some r =>
      rw [hq] at H
      exact ⟨(E.1 123 u (by unfold sxTc; omega)).trans H.1, H.2.1, (E.1 122 u (by unfold sxTc; omega)).trans H.2.2.1, H.2.2.2.1, fun k hk => (E.2.1 (118 + u) k (by unfold sxTc; omega)).trans (H.2.2.2.2 k hk)⟩
theorem cT_put {h : sm_H} {T : TG} {t k : Nat} {q : Nat × List Int64} {v : Int64} (hT : cT h T) (ht : t < 4) (hq : T t = some q) (hk : k < q.2.length) : cT (sm_sl h (118 + t) k v) (upT T t (q.1, q.2.set k v)) ∧ eqx (sxTc t) h (sm_sl h (118 + t) k v) := by
  have H := hT t ht
  rw [hq] at H
  have hl := H.2.2.2.1
  have E : eqx (sxTc t) h (sm_sl h (118 + t) k v) := eqx.rf.sl (by unfold sxTc; omega)
  refine ⟨cT_up hT ht E H.1 H.2.1 (by show _ = nI (q.2.set k v).length; rw [List.length_set]; exact H.2.2.1) (by show (q.2.set k v).length ≤ 40; rw [List.length_set]; exact hl) (fun j hj => ?_), E⟩
  show _ = (q.2.set k v).getD j 0
  rw [getD_set hk]
  by_cases z : j = k
  · subst z
    rw [gl_same, if_pos rfl]
  · rw [gl_slot (by omega), if_neg z]
    exact H.2.2.2.2 j (by rw [show (q.1, q.2.set k v).2.length = q.2.length from List.length_set] at hj; exact hj)
theorem c_put {h : sm_H} {T : TG} {t k : Nat} {q : Nat × List Int64} {v : Int64} (hT : cT h T) (ht : t < 4) (hq : T t = some q) (hk : k < q.2.length) : xc 97 [.ref 116, .int (nI t), .int (nI k), .long v] h = some ([], sm_sl h (118 + t) k (cutV v q.1)) := by
  have H := hT t ht
  rw [hq] at H
  have hl := H.2.2.2.1
  have hs := H.2.1
  have hkd : sm_kd (sm_rf 117 (nI t).toNatClampNeg) = 3 := by rw [nI_clamp (by omega), rf117 t ht]; exact kd118 t ht
  have i117 := in_117 ht
  have i118 := in_118 ht (show k < 40 by omega)
  have et : (nI t).toNatClampNeg = t := nI_clamp (by omega)
  have ek : (nI k).toNatClampNeg = k := nI_clamp (by omega)
  have i2 : sm_in (sm_rf 117 (nI t).toNatClampNeg) (nI k) := by rw [et, rf117 t ht]; exact i118.mpr trivial
  rw [en_97, b97_0]
  simp (disch := omega) only [in_123, if_true, nI_clamp, H.1]
  unfold cutV
  generalize q.1 = s at *
  rcases (show s = 0 ∨ s = 1 ∨ s = 2 ∨ s = 3 by omega) with rfl | rfl | rfl | rfl
  · rw [show (if (nI 0).toInt < 0 then 76 else [32, 47, 62].getD ((nI 0).toInt - 0).toNat 76) = 32 from rfl, b97_32 hkd, if_pos (i117.mpr trivial), if_pos i2, b97_44, b97_85, ek, et, rf117 t ht]; rfl
  · rw [show (if (nI 1).toInt < 0 then 76 else [32, 47, 62].getD ((nI 1).toInt - 0).toNat 76) = 47 from rfl, b97_47 hkd, if_pos (i117.mpr trivial), if_pos i2, b97_59, b97_85, ek, et, rf117 t ht]; rfl
  · rw [show (if (nI 2).toInt < 0 then 76 else [32, 47, 62].getD ((nI 2).toInt - 0).toNat 76) = 62 from rfl, b97_62 hkd, if_pos (i117.mpr trivial), if_pos i2, b97_73, b97_85, ek, et, rf117 t ht]; rfl
  · rw [show (if (nI 3).toInt < 0 then 76 else [32, 47, 62].getD ((nI 3).toInt - 0).toNat 76) = 76 from rfl, b97_76 hkd, if_pos (i117.mpr trivial), if_pos i2, b97_85, ek, et, rf117 t ht]; rfl
theorem c_fillJ_loop {a n : Nat} {v : Int64} {h : sm_H} (hk : sm_kd a = 3) (hn : sm_ln a = n) (hn2 : n < 2 ^ 30) : ∀ (m k : Nat) (h1 : sm_H), k + m = n → (∀ i, i < k → sm_gl h1 a i = v) → eqx (fun c _ => c = a) h h1 →
    ∃ h2, xe 1 287 6 [.ref a, .long v, .null, .int (nI k), .int (nI n)] [] h1 = some ([], h2) ∧ (∀ i, i < n → sm_gl h2 a i = v) ∧ eqx (fun c _ => c = a) h h2
  | 0, k, h1, e, b, E => by
    have : k = n := by omega
    subst this
    rw [b287_6, if_pos (Int32.le_refl _), b287_22]
    exact ⟨h1, rfl, b, E⟩
  | m + 1, k, h1, e, b, E => by
    rw [b287_6, if_neg (by rw [nI_leI (by omega) (by omega)]; omega), b287_12 hk, if_pos (in_c (by rw [hn]; omega) (by omega)), nI_clamp (by omega), b287_16, nI_add]
    refine c_fillJ_loop hk hn hn2 m (k + 1) _ (by omega) (fun i hi => ?_) (E.tr (eqx.rf.sl rfl))
    by_cases z : i = k
    · subst z; rw [gl_same]
    · rw [gl_slot z]; exact b i (by omega)
theorem c_numbers {h : sm_H} {T : TG} {t s n : Int32} (hT : cT h T) : ∃ h2, xc 141 [.ref 0, .int t, .int s, .int n] h = some ([.int (dNums T t s n)], h2) ∧ cT h2 (tNums T t s n) ∧ eqx sxTK h h2 := by
  rw [en_141, b141_0, c_isTray, bnd]
  simp only [app1, List.cons_append, List.nil_append]
  rw [b141_8]
  unfold dNums tNums
  by_cases h1 : isN t.toInt64 4
  · rw [if_neg (by rw [bI_z]; exact fun z => z h1), b141_11]
    have ws := isN_i32 (p := s) (P := 4) (by decide)
    have wn := isN_i32 (p := n) (P := 41) (by decide)
    have l4 : s < nI 4 ↔ s ≤ nI 3 := by rw [Int32.lt_iff_toInt_lt, Int32.le_iff_toInt_le, nI_toInt (by decide), nI_toInt (by decide)]; omega
    have l41 : n < nI 41 ↔ n ≤ nI 40 := by rw [Int32.lt_iff_toInt_lt, Int32.le_iff_toInt_le, nI_toInt (by decide), nI_toInt (by decide)]; omega
    have no : ¬ isN s.toInt64 4 → ∃ h2, xe 3 141 20 [.ref 0, .int t, .int s, .int n] [] h = some ([.int (if isN t.toInt64 4 ∧ isN s.toInt64 4 then (if isN n.toInt64 41 then nI 0 else -3) else -2)], h2) ∧ cT h2 (if isN t.toInt64 4 ∧ isN s.toInt64 4 then (if isN n.toInt64 41 then upT T (toN t) (toN s, List.replicate (toN n) 0) else T) else T) ∧ eqx sxTK h h2 := fun z => by
      have hc : ¬ (isN t.toInt64 4 ∧ isN s.toInt64 4) := fun y => z y.2
      rw [if_neg hc, if_neg hc, b141_20]
      exact ⟨h, rfl, hT, eqx.rf⟩
    by_cases y0 : s < 0
    · rw [if_pos y0]
      exact no (fun z => by have := (ws.mpr z).1; exact absurd y0 (by rw [Int32.not_lt]; exact this))
    · rw [if_neg y0, b141_15]
      by_cases y1 : s ≤ nI 3
      · have h2 : isN s.toInt64 4 := ws.mp ⟨by rw [Int32.not_lt] at y0; exact y0, l4.mpr y1⟩
        have hc : isN t.toInt64 4 ∧ isN s.toInt64 4 := ⟨h1, h2⟩
        rw [if_pos y1, if_pos hc, if_pos hc, b141_23]
        have no2 : ¬ isN n.toInt64 41 → ∃ h2, xe 3 141 33 [.ref 0, .int t, .int s, .int n] [] h = some ([.int (if isN n.toInt64 41 then nI 0 else -3)], h2) ∧ cT h2 (if isN n.toInt64 41 then upT T (toN t) (toN s, List.replicate (toN n) 0) else T) ∧ eqx sxTK h h2 := fun z => by
          rw [if_neg z, if_neg z, b141_33]
          exact ⟨h, rfl, hT, eqx.rf⟩
        by_cases x0 : n < 0
        · rw [if_pos x0]
          exact no2 (fun z => by have := (wn.mpr z).1; exact absurd x0 (by rw [Int32.not_lt]; exact this))
        · rw [if_neg x0, b141_27]
          by_cases x1 : n ≤ nI 40
          · have h3 : isN n.toInt64 41 := wn.mp ⟨by rw [Int32.not_lt] at x0; exact x0, l41.mpr x1⟩
            rw [if_pos x1, if_pos h3, if_pos h3, b141_36]
            obtain ⟨t, ht, rfl⟩ := isN_nI h1 (by omega)
            obtain ⟨s, hs, rfl⟩ := isN_nI h2 (by omega)
            obtain ⟨n, hn, rfl⟩ := isN_nI h3 (by omega)
            rw [toN_nI (by omega), toN_nI (by omega), toN_nI (by omega), en_96, b96_0]
            simp (disch := omega) only [in_122, if_true, nI_clamp]
            rw [b96_7]
            simp (disch := omega) only [in_123, if_true, nI_clamp]
            rw [b96_14]
            simp (disch := omega) only [in_117, if_true, nI_clamp]
            rw [rf117 t ht, en_287, b287_0 (kd118 t ht), ln118 t ht]
            obtain ⟨h4, e4, g4, E4⟩ := c_fillJ_loop (v := 0) (h := sm_si (sm_si h 122 t (nI n)) 123 t (nI s)) (kd118 t ht) (ln118 t ht) (by decide) 40 0 _ (by omega) (fun j hj => absurd hj (by omega)) eqx.rf
            rw [e4, bnd]
            simp only [List.nil_append]
            rw [b96_24, bnd]
            simp only [List.nil_append]
            rw [b141_46]
            have E5 : eqx (sxTc t) h h4 := (((eqx.rf (h := h)).si (c := 122) (i := t) (v := nI n) (by unfold sxTc; omega)).si (c := 123) (i := t) (v := nI s) (by unfold sxTc; omega)).tr (E4.wk (fun c i z => by unfold sxTc; omega))
            refine ⟨h4, rfl, cT_up hT ht E5 ?_ (by show s ≤ 3; omega) ?_ (by show (List.replicate n (0 : Int64)).length ≤ 40; rw [List.length_replicate]; omega) (fun k hk => ?_), E5.wk (sxTc_K ht)⟩
            · rw [E4.1 123 t (by omega), gi_same]
            · show _ = nI (List.replicate n (0 : Int64)).length
              rw [E4.1 122 t (by omega), gi_cell (by decide), gi_same, List.length_replicate]
            · have hk' : k < n := by have z : k < (List.replicate n (0 : Int64)).length := hk; rw [List.length_replicate] at z; exact z
              rw [g4 k (by omega)]
              show 0 = (List.replicate n (0 : Int64)).getD k 0
              rw [List.getD_eq_getElem?_getD, List.getElem?_replicate, if_pos hk']
              rfl
          · rw [if_neg x1]
            exact no2 (fun z => x1 (l41.mp (wn.mpr z).2))
      · rw [if_neg y1]
        exact no (fun z => y1 (l4.mp (ws.mpr z).2))
  · have hc : ¬ (isN t.toInt64 4 ∧ isN s.toInt64 4) := fun z => h1 z.1
    rw [if_pos (by rw [bI_z]; exact h1), if_neg hc, if_neg hc, b141_20]
    exact ⟨h, rfl, hT, eqx.rf⟩
theorem c_write {h : sm_H} {T : TG} {t i : Int32} {v : Int64} (hT : cT h T) : ∃ h2, xc 142 [.ref 0, .int t, .int i, .long v] h = some ([.long (dWrite T t i v)], h2) ∧ cT h2 (tWrite T t i v) ∧ eqx sxTK h h2 := by
  rw [en_142, b142_0, c_isTray, bnd]
  simp only [app1, List.cons_append, List.nil_append]
  rw [b142_8]
  unfold dWrite tWrite
  by_cases h1 : isN t.toInt64 4
  · rw [if_neg (by rw [bI_z]; exact fun z => z h1), if_pos h1, if_pos h1, b142_15]
    obtain ⟨t, ht, rfl⟩ := isN_nI h1 (by omega)
    rw [toN_nI (by omega), c_isMissing hT ht, bnd]
    simp only [app1, List.cons_append, List.nil_append]
    rw [b142_23]
    have H := hT t ht
    cases hq : T t with
    | none =>
      rw [if_neg (by rw [bI_z]; exact fun z => z rfl), b142_26]
      exact ⟨h, rfl, hT, eqx.rf⟩
    | some q =>
      rw [hq] at H
      have hl := H.2.2.2.1
      dsimp only
      rw [if_pos (by rw [bI_z]; exact fun z => by cases z), b142_30]
      have wi := isN_i32 (p := i) (P := q.2.length) (by omega)
      have no : ¬ isN i.toInt64 q.2.length → ∃ h2, xe 2 142 47 [.ref 0, .int (nI t), .int i, .long v, .null] [] h = some ([.long (if isN i.toInt64 q.2.length then cutV v q.1 else -7)], h2) ∧ cT h2 (if isN i.toInt64 q.2.length then upT T t (q.1, q.2.set (toN i) (cutV v q.1)) else T) ∧ eqx sxTK h h2 := fun z => by
        rw [if_neg z, if_neg z, b142_47]
        exact ⟨h, rfl, hT, eqx.rf⟩
      by_cases x0 : i < 0
      · rw [if_pos x0]
        exact no (fun z => by have := (wi.mpr z).1; exact absurd x0 (by rw [Int32.not_lt]; exact this))
      · rw [if_neg x0, b142_34]
        simp (disch := omega) only [in_122, if_true, nI_clamp, H.2.2.1]
        by_cases x1 : i < nI q.2.length
        · have h3 : isN i.toInt64 q.2.length := wi.mp ⟨by rw [Int32.not_lt] at x0; exact x0, x1⟩
          rw [if_pos x1, if_pos h3, if_pos h3, b142_51]
          obtain ⟨i, hi', rfl⟩ := isN_nI h3 (by omega)
          rw [toN_nI (by omega), c_put hT ht hq hi', bnd]
          simp only [List.nil_append]
          have hkd : sm_kd (sm_rf 117 (nI t).toNatClampNeg) = 3 := by rw [nI_clamp (by omega), rf117 t ht]; exact kd118 t ht
          have et : (nI t).toNatClampNeg = t := nI_clamp (by omega)
          have ek : (nI i).toNatClampNeg = i := nI_clamp (by omega)
          have i2 : sm_in (sm_rf 117 (nI t).toNatClampNeg) (nI i) := by rw [et, rf117 t ht]; exact (in_118 ht (show i < 40 by omega)).mpr trivial
          rw [b142_61 hkd, if_pos ((in_117 ht).mpr trivial), if_pos i2, ek, et, rf117 t ht, gl_same]
          obtain ⟨T5, E5⟩ := cT_put (k := i) (v := cutV v q.1) hT ht hq hi'
          exact ⟨_, rfl, T5, E5.wk (sxTc_K ht)⟩
        · rw [if_neg x1]
          exact no (fun z => x1 (wi.mpr z).2)
  · rw [if_pos (by rw [bI_z]; exact h1), if_neg h1, if_neg h1, b142_11]
    exact ⟨h, rfl, hT, eqx.rf⟩
