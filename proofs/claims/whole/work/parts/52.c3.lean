/-! ===== the class: a law's value, the loop ===== -/
theorem okS_ev1 {w : Nat → Int32} {c : Nat} {ts ts' : List Bool} {st : List Int32} (h : ty1 c ts = some ts') (ok : okS ts st) : okS ts' (ev1 w c st) := by
  unfold ty1 at h
  unfold ev1
  by_cases h1 : c < 1007
  · rw [if_pos h1] at h
    cases h
    by_cases h2 : c < 1000
    · rw [if_pos h2]; exact ⟨fun q => (by cases q), ok⟩
    · rw [if_neg h2, if_pos (by omega)]; exact ⟨fun q => (by cases q), ok⟩
  · rw [if_neg h1] at h
    match ts, st, ok, h with
    | [], _, _, h => cases h
    | t :: ts, [], ok, _ => exact ok.elim
    | t :: ts, y :: st, ok, h =>
      dsimp only at h
      by_cases h6 : c = 3006
      · rw [if_pos h6] at h
        by_cases ht : t = true
        · rw [if_pos ht] at h
          cases h
          rw [if_neg (by omega), if_neg (by omega)]
          dsimp only
          rw [if_pos h6]
          refine ⟨fun _ => ?_, ok.2⟩
          rcases ok.1 ht with rfl | rfl
          · exact Or.inr (by decide +kernel)
          · exact Or.inl (by decide +kernel)
        · rw [if_neg ht] at h; cases h
      · rw [if_neg h6] at h
        match ts, st, ok, h with
        | [], _, _, h => cases h
        | t2 :: ts, [], ok, _ => exact ok.2.elim
        | t2 :: ts, x :: st, ok, h =>
          dsimp only at h
          have hc3 : ¬ c < 3000 := fun q => by
            rw [if_neg (by omega), if_neg (by omega), if_neg (by omega)] at h
            cases h
          rw [if_neg (by omega), if_neg hc3]
          dsimp only
          rw [if_neg h6]
          by_cases h78 : c = 3007 ∨ c = 3008
          · rw [if_pos h78] at h
            by_cases ht : t2 = true ∧ t = true
            · rw [if_pos ht] at h
              cases h
              refine ⟨fun _ => ?_, ok.2.2⟩
              rcases h78 with rfl | rfl
              · show x &&& y = _ ∨ x &&& y = _
                rcases ok.1 ht.2 with rfl | rfl <;> rcases ok.2.1 ht.1 with rfl | rfl <;> decide +kernel
              · show x ||| y = _ ∨ x ||| y = _
                rcases ok.1 ht.2 with rfl | rfl <;> rcases ok.2.1 ht.1 with rfl | rfl <;> decide +kernel
            · rw [if_neg ht] at h; cases h
          · rw [if_neg h78] at h
            by_cases h345 : c = 3003 ∨ c = 3004 ∨ c = 3005
            · rw [if_pos h345] at h
              by_cases ht : t2 = false ∧ t = false
              · rw [if_pos ht] at h
                cases h
                refine ⟨fun _ => ?_, ok.2.2⟩
                rcases h345 with rfl | rfl | rfl
                · exact bI_ok (c := x = y)
                · exact bI_ok (c := x < y)
                · exact bI_ok (c := y < x)
              · rw [if_neg ht] at h; cases h
            · rw [if_neg h345] at h
              by_cases h012 : c = 3000 ∨ c = 3001 ∨ c = 3002
              · rw [if_pos h012] at h
                by_cases ht : t2 = false ∧ t = false
                · rw [if_pos ht] at h
                  cases h
                  exact ⟨fun q => (by cases q), ok.2.2⟩
                · rw [if_neg ht] at h; cases h
              · rw [if_neg h012] at h; cases h
theorem phi_lt {c : Nat} (h : c < 1007) : phi c = c := if_pos (by omega)
theorem phi_op : ∀ c, c < 9 → (phi (3000 + c) = 1100 ↔ c = 6) ∧ 1100 ≤ phi (3000 + c) ∧ phi (3000 + c) < 1109 := by decide +kernel
theorem c_value_loop {o n : Nat} {w : Nat → Int32} {cs : List Nat} {tf : List Bool} {h : sm_H} (ho : sm_isQ o) (hn : sm_gi h o 2 = nI n) (hn9 : n ≤ 900) (hc : ∀ k, k < n → sm_gi h (o + 1) k = nI (phi (cs.getD k 0))) (hw : ∀ j, j < 7 → sm_gi h 49 j = w j) :
    ∀ (rest : List Nat) (k : Nat) (st : List Int32) (ts : List Bool) (h1 : sm_H) (l4 l5 l7 l9 : Value), k + rest.length = n → (∀ j, j < rest.length → cs.getD (k + j) 0 = rest.getD j 0) → dps rest st.length = some 1 → tys rest ts = some tf → okS ts st → st.length ≤ 60 → stk (sm_gi h1 (o + 2)) st → eqx (sxV o) h h1 →
      ∃ h2, xe 2 42 4 [.ref o, .ref 49, .int (nI st.length), .int (nI k), l4, l5, .null, l7, .null, l9, .null] [] h1 = some ([.int ((evs w rest st).headD 0)], h2) ∧ eqx (sxV o) h h2
  | [], k, st, ts, h1, l4, l5, l7, l9, hk, hr, hd, ht, ok, hs, hst, E => by
    have hn1 := (E.1 o 2 (by unfold sxV; omega)).trans hn
    simp only [List.length_nil] at hk
    rw [b42_4 ho, hn1, if_pos (by rw [nI_leI (by omega) (by omega)]; omega), b42_342]
    simp only [dps] at hd
    match st, hd, hst with
    | [], hd, _ => cases hd
    | [v], hd, hst =>
      rw [if_neg (show ¬ nI [v].length ≤ 0 from (show ¬ nI 1 ≤ 0 by decide +kernel)), b42_346 ho]
      have h0 := hst.1
      simp only [List.length_nil] at h0
      simp (disch := omega) only [in_q2 ho (show 0 < 64 by decide), if_true, nI_clamp, h0, b42_356]
      exact ⟨h1, rfl, E⟩
    | x :: y :: z, hd, _ => simp at hd
  | c :: rest, k, st, ts, h1, l4, l5, l7, l9, hk, hr, hd, ht, ok, hs, hst, E => by
    have hn1 := (E.1 o 2 (by unfold sxV; omega)).trans hn
    simp only [List.length_cons] at hk
    have hcv : sm_gi h1 (o + 1) k = nI (phi c) := by
      rw [E.1 (o + 1) _ (by unfold sxV; omega), hc k (by omega)]
      have := hr 0 (by simp)
      rw [Nat.add_zero] at this
      rw [this]; rfl
    simp only [dps] at hd
    obtain ⟨d1, hd1, hd2⟩ := Option.bind_eq_some_iff.mp hd
    simp only [tys] at ht
    obtain ⟨ts1, ht1, ht2⟩ := Option.bind_eq_some_iff.mp ht
    obtain ⟨hlen, hmx⟩ := ev1_len (w := w) hd1
    have ok1 := okS_ev1 (w := w) ht1 ok
    have hr' : ∀ j, j < rest.length → cs.getD (k + 1 + j) 0 = rest.getD j 0 := fun j hj => by
      have := hr (j + 1) (by simp; omega)
      rw [show k + 1 + j = k + (j + 1) by omega, this]; rfl
    rw [b42_4 ho, hn1, if_neg (by rw [nI_leI (by omega) (by omega)]; omega), b42_12 ho]
    simp (disch := omega) only [in_q1 ho (show k < 900 by omega), if_true, nI_clamp, hcv]
    have go : ∀ (st' : List Int32) (h2 : sm_H) (a4 a5 a7 a9 : Value), ev1 w c st = st' → stk (sm_gi h2 (o + 2)) st' → eqx (sxV o) h h2 → ∃ h3, xe 2 42 4 [.ref o, .ref 49, .int (nI st'.length), .int (nI (k + 1)), a4, a5, .null, a7, .null, a9, .null] [] h2 = some ([.int ((evs w (c :: rest) st).headD 0)], h3) ∧ eqx (sxV o) h h3 := by
      intro st' h2 a4 a5 a7 a9 e S2 E2
      subst e
      have ih := c_value_loop ho hn hn9 hc hw rest (k + 1) (ev1 w c st) ts1 h2 a4 a5 a7 a9 (by omega) hr' (by rw [hlen]; exact hd2) ht2 ok1 (by omega) S2 E2
      exact ih
    unfold dp1 at hd1
    by_cases h1007 : c < 1007
    · rw [if_pos h1007] at hd1
      have h60 : st.length < 60 := by
        by_cases q : st.length < 60
        · exact q
        · rw [if_neg q] at hd1; cases hd1
      rw [phi_lt h1007, if_neg (by rw [nI_leI (by decide) (by omega)]; omega), b42_28, if_neg (by rw [nI_leI (by decide) (by omega)]; omega), b42_34 ho]
      have key : ∀ v : Int32, ev1 w c st = v :: st → ∃ h3, xe 2 42 60 [.ref o, .ref 49, .int (nI st.length), .int (nI k), .int (nI c), l5, .null, l7, .null, l9, .null] [.int v, .int (nI st.length), .ref (o + 2)] h1 = some ([.int ((evs w (c :: rest) st).headD 0)], h3) ∧ eqx (sxV o) h h3 := by
        intro v hv
        rw [b42_60 ho]
        simp (disch := omega) only [in_q2 ho (show st.length < 64 by omega), if_true, nI_clamp]
        rw [b42_61, b42_336, nI_add, nI_add]
        exact go (v :: st) _ _ _ _ _ hv ⟨gi_same, stk_cong st (fun j hj => gi_slot (by omega)) hst⟩ (E.si rfl)
      by_cases h1000 : c < 1000
      · rw [if_neg (by rw [nI_leI (by decide) (by omega)]; omega), b42_47]
        exact key (nI c) (by unfold ev1; rw [if_pos h1000])
      · rw [if_pos (by rw [nI_leI (by decide) (by omega)]; omega), b42_52, pk_sub (by omega)]
        simp (disch := omega) only [in_49 (show c - 1000 < 7 by omega), if_true, nI_clamp]
        rw [E.1 49 _ (by unfold sxV; have := q_49 ho; omega), hw (c - 1000) (by omega)]
        exact key (w (c - 1000)) (by unfold ev1; rw [if_neg h1000, if_pos (by omega)])
    · rw [if_neg h1007] at hd1
      have hc3 : 3000 ≤ c ∧ c ≤ 3008 := by
        by_cases h6 : c = 3006
        · omega
        · rw [if_neg h6] at hd1
          by_cases q : 3000 ≤ c ∧ c ≤ 3008 ∧ 2 ≤ st.length
          · exact ⟨q.1, q.2.1⟩
          · rw [if_neg q] at hd1; cases hd1
      obtain ⟨p1, p2, p3⟩ := phi_op (c - 3000) (by omega)
      rw [show 3000 + (c - 3000) = c by omega] at p1 p2 p3
      rw [if_pos (by rw [nI_leI (by decide) (by omega)]; omega), b42_67]
      by_cases h6 : c = 3006
      · rw [if_pos h6] at hd1
        have hl1 : 1 ≤ st.length := by
          by_cases q : 1 ≤ st.length
          · exact q
          · rw [if_neg q] at hd1; cases hd1
        rw [if_pos (by rw [nI_eq (by omega) (by decide)]; exact p1.mpr (by omega)), b42_75, if_neg (by rw [nI_le0 (by omega)]; omega), b42_79 ho, sub1 hl1]
        simp (disch := omega) only [in_q2 ho (show st.length - 1 < 64 by omega), if_true, nI_clamp]
        rw [b42_97, b42_336, nI_add]
        match st, hst, hl1, go with
        | y :: r, hst, hl1, go =>
          have hev : ev1 w c (y :: r) = (nI 1 - y) :: r := by unfold ev1; rw [if_neg (by omega), if_neg (by omega)]; dsimp only; rw [if_pos h6]
          have hy : sm_gi h1 (o + 2) ((y :: r).length - 1) = y := by simp; exact hst.1
          rw [hy, show ((y :: r).length - 1) = r.length by simp]
          exact go ((nI 1 - y) :: r) _ _ _ _ _ hev ⟨gi_same, stk_cong r (fun j hj => gi_slot (by omega)) hst.2⟩ (E.si rfl)
      · rw [if_neg h6] at hd1
        have h4 : 2 ≤ st.length := by
          by_cases q : 3000 ≤ c ∧ c ≤ 3008 ∧ 2 ≤ st.length
          · exact q.2.2
          · rw [if_neg q] at hd1; cases hd1
        rw [if_neg (by rw [nI_eq (by omega) (by decide)]; exact fun z => h6 (by have := p1.mp z; omega)), b42_100, if_neg (by rw [nI_leI (by omega) (by decide)]; omega)]
        match st, hst, h4, go, ok, hs with
        | y :: x :: r, hst, h4, go, ok, hs =>
          have hev : ev1 w c (y :: x :: r) = btw c x y :: r := by unfold ev1; rw [if_neg (by omega), if_neg (by omega)]; dsimp only; rw [if_neg h6]
          simp only [List.length_cons] at hs
          have hx : sm_gi h1 (o + 2) r.length = x := hst.2.1
          have hy : sm_gi h1 (o + 2) (r.length + 1) = y := hst.1
          have hb : (c = 3007 ∨ c = 3008) → (x = nI 0 ∨ x = nI 1) ∧ (y = nI 0 ∨ y = nI 1) := by
            intro q
            unfold ty1 at ht1
            rw [if_neg h1007] at ht1
            match ts, ok, ht1 with
            | [], _, ht1 => cases ht1
            | [t], ok, ht1 => exact ok.2.elim
            | t :: t2 :: ts, ok, ht1 =>
              dsimp only at ht1
              rw [if_neg h6, if_pos q] at ht1
              by_cases z : t2 = true ∧ t = true
              · exact ⟨ok.2.1 z.1, ok.1 z.2⟩
              · rw [if_neg z] at ht1; cases ht1
          obtain ⟨l9', e9⟩ := c_bin (k := k) (l5 := l5) (l7 := l7) (l9 := l9) ho (show r.length < 60 by omega) hc3.1 hc3.2 h6 hx hy hb
          rw [show (y :: x :: r).length = r.length + 2 by simp, e9, b42_336, nI_add]
          exact go (btw c x y :: r) _ _ _ _ _ hev ⟨gi_same, stk_cong r (fun j hj => gi_slot (by omega)) hst.2.2⟩ (E.si rfl)
/-- a law's value in the class -/
theorem c_value {o : Nat} {w : Nat → Int32} {cs : List Nat} {tf : List Bool} {h : sm_H} (ho : sm_isQ o) (hL : cLaw h o (some cs)) (hd : dps cs 0 = some 1) (ht : tys cs [] = some tf) (hw : ∀ j, j < 7 → sm_gi h 49 j = w j) : ∃ h2, xc 42 [.ref o, .ref 49] h = some ([.int (lawV cs w)], h2) ∧ eqx (sxV o) h h2 := by
  rw [en_42, b42_0]
  exact c_value_loop ho hL.1 hL.2.2.1 hL.2.2.2 hw cs 0 [] [] h .null .null .null .null (by simp) (fun j _ => by rw [Nat.zero_add]) hd ht trivial (by simp) trivial eqx.rf
theorem c_value0 {o : Nat} {h : sm_H} (ho : sm_isQ o) (hL : cLaw h o none) : xc 42 [.ref o, .ref 49] h = some ([.int (nI 0)], h) := by
  rw [en_42, b42_0, b42_4 ho, show sm_gi h o 2 = nI 0 from hL, if_pos (Int32.le_refl _), b42_342, if_pos (by decide +kernel), b42_355, b42_356]
