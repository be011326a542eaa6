/-! ===== the class: states reached, the nearest, ends and bridges noted ===== -/
def btr (lon : Nat → Nat) (ov : Bool) (u v : List Nat) : Prop := (ov = true ∧ dys lon u < dys lon v) ∨ (ov = false ∧ wlt lon u v)
section BT
variable {lon : Nat → Nat} {ov : Bool} {u v w : List Nat}
theorem btr_irr : ¬ btr lon ov u u := fun h => by
  rcases h with h | h
  · omega
  · exact wlt_irr u h.2
theorem btr_tr (h1 : btr lon ov u v) (h2 : btr lon ov v w) : btr lon ov u w := by
  rcases h1 with ⟨a, h1⟩ | ⟨a, h1⟩ <;> rcases h2 with ⟨b, h2⟩ | ⟨b, h2⟩
  · exact Or.inl ⟨a, by omega⟩
  · rw [a] at b; cases b
  · rw [a] at b; cases b
  · exact Or.inr ⟨a, wlt_tr h1 h2⟩
theorem btr_nt (h1 : ¬ btr lon ov u v) (h2 : ¬ btr lon ov v w) : ¬ btr lon ov u w := fun h => by
  rcases h with ⟨a, h⟩ | ⟨a, h⟩
  · have a1 : ¬ dys lon u < dys lon v := fun z => h1 (Or.inl ⟨a, z⟩)
    have a2 : ¬ dys lon v < dys lon w := fun z => h2 (Or.inl ⟨a, z⟩)
    omega
  · exact wlt_nt (fun z => h1 (Or.inr ⟨a, z⟩)) (fun z => h2 (Or.inr ⟨a, z⟩)) h
theorem btr_days (h : ¬ btr lon ov u v) : dys lon v ≤ dys lon u := by
  cases ov with
  | true =>
    have : ¬ dys lon u < dys lon v := fun z => h (Or.inl ⟨rfl, z⟩)
    omega
  | false => exact wlt_days (fun z => h (Or.inr ⟨rfl, z⟩))
theorem btr_le (h : btr lon ov u v) : dys lon u ≤ dys lon v := by
  unfold btr wlt at h
  omega
end BT
def upD (D : Nat → Option (List Nat)) (c : Nat) (u : List Nat) : Nat → Option (List Nat) := fun k => if k = c then some u else D k
theorem upD_s {D : Nat → Option (List Nat)} {c : Nat} {u : List Nat} : upD D c u c = some u := if_pos rfl
theorem upD_n {D : Nat → Option (List Nat)} {c k : Nat} {u : List Nat} (h : k ≠ c) : upD D c u k = D k := if_neg h
def sxE : Nat → Nat → Prop := fun c _ => c = 105 ∨ c = 106 ∨ c = 107
theorem c_reachState {G : LG} {sh p mk tn r : Nat} {pl : Option Nat} {ov : Bool} {x0 x y : XS} {D : Nat → Option (List Nat)} {w : List Nat} {h : sm_H} (Q : cQ h G sh pl p ov mk x0) (T : TD G (stp G sh pl p ov) ov x0 D) (HD : cD h G tn D) (HC : ov = false → cCM h (stp G sh pl p ov) x0 D) (okx : okX G x) (mx : ov = true ∨ xM x = 0) (hd : D (cdX x) = some w) (hrn : rn (stp G sh pl p ov) x0 w = some x) (hs : stp G sh pl p ov x r = some y) :
    ∃ D' h2, xc 78 [.ref 104, .int (nI (cdX x)), .int (nI r), .int (nI (cdX y)), .int (nI (dys (gLon G) w + gLon G r))] h = some ([], h2) ∧ cD h2 G tn D' ∧ (ov = false → cCM h2 (stp G sh pl p ov) x0 D') ∧ eqx sxE h h2 ∧ ((D' = D ∧ ∃ v, D (cdX y) = some v ∧ ¬ btr (gLon G) ov (w ++ [r]) v) ∨ (D' = upD D (cdX y) (w ++ [r]) ∧ ∀ v, D (cdX y) = some v → btr (gLon G) ov (w ++ [r]) v)) := by
  obtain ⟨⟨hw, hx, hG, hK⟩, hp, hx0, -, -, -, e8, emk⟩ := Q
  have hR := hw.2.1
  have hr := stp_r hs
  have hlon := hw.2.2.2.1 r hr
  have oky := stp_ok hw hx okx hs
  have my : ov = true ∨ xM y = 0 := (rn_ok hw hx _ _ _ hx0.1 (Or.inr hx0.2) (rn_snoc hrn hs)).2
  have hdw := TD_days hw hx hx0.1 (Or.inr hx0.2) T hd
  have hclt := (cdX_lt hw okx).1
  have hc'lt := (cdX_lt hw oky).1
  have hdu : dys (gLon G) (w ++ [r]) = dys (gLon G) w + gLon G r := dys_snoc
  have htn := HD.2.1
  rw [en_78, b78_0, pk_div (by omega) (by decide) (by decide)]
  obtain ⟨h1, e1, HD1, g107, E1⟩ := c_openRow HD (show cdX y / 6 < 10240 by omega)
  rw [e1, bnd]
  simp only [List.nil_append]
  have HC1 : ov = false → cCM h1 (stp G sh pl p ov) x0 D := fun z => cCM_eqx (HC z) E1 (fun c i q => by unfold sxO at q; omega)
  have E1' : eqx sxE h h1 := E1.wk (fun c i q => by unfold sxO at q; unfold sxE; omega)
  have f1 : sm_gi h1 105 (cdX y) = nI (dN G (D (cdX y))) := by
    obtain ⟨j, a, b, e, g⟩ := HD1.2.2 (cdX y / 6) (by omega)
    have hj : j = tn := by rw [a, nI_eq (by omega) (by omega)] at g107; exact g107
    have := e hj (cdX y % 6) (Nat.mod_lt _ (by decide))
    rw [show cdX y / 6 * 6 + cdX y % 6 = cdX y by omega] at this
    exact this
  have g8 : sm_gi h1 104 8 = nI mk := (E1.1 104 8 (by unfold sxO; omega)).trans e8
  have hfb : dN G (D (cdX y)) ≤ 1000000000 := by
    cases hq : D (cdX y) with
    | none => exact Nat.le_refl _
    | some v =>
      have := TD_days hw hx hx0.1 (Or.inr hx0.2) T hq
      show dys (gLon G) v ≤ 1000000000
      omega
  -- what is written
  have upd : ∃ h2, xe 2 78 59 [.ref 104, .int (nI (cdX x)), .int (nI r), .int (nI (cdX y)), .int (nI (dys (gLon G) w + gLon G r))] [] h1 = some ([], h2) ∧ cD h2 G tn (upD D (cdX y) (w ++ [r])) ∧ (ov = false → cCM h2 (stp G sh pl p ov) x0 (upD D (cdX y) (w ++ [r]))) ∧ eqx sxE h h2 := by
    rw [b78_59]
    simp (disch := omega) only [in_105, if_true, nI_clamp]
    have HD2 : ∀ h2, (∀ i, sm_gi h2 107 i = sm_gi h1 107 i) → sm_gi h2 104 12 = sm_gi h1 104 12 → sm_gi h2 105 (cdX y) = nI (dys (gLon G) w + gLon G r) → (∀ i, i ≠ cdX y → sm_gi h2 105 i = sm_gi h1 105 i) → cD h2 G tn (upD D (cdX y) (w ++ [r])) := by
      intro h2 a1 a2 a3 a4
      refine ⟨a2.trans HD1.1, htn, fun row hrow => ?_⟩
      obtain ⟨j, a, b, e, g⟩ := HD1.2.2 row hrow
      refine ⟨j, (a1 row).trans a, b, fun z f hf => ?_, fun z f hf => ?_⟩
      · by_cases q : row * 6 + f = cdX y
        · rw [q, a3, upD_s]
          show _ = nI (dys (gLon G) (w ++ [r]))
          rw [hdu]
        · rw [a4 _ q, upD_n q]; exact e z f hf
      · rw [upD_n (fun q => z (by
          have h6 : row = cdX y / 6 := by omega
          rw [h6, g107, nI_eq (by omega) (by omega)] at a
          exact a.symm))]
        exact g z f hf
    rw [b78_67, gi_cell (by decide), g8]
    rcases emk with ⟨z1, z2⟩ | ⟨z1, z2, z3, z4⟩
    · have hc'3 : cdX y < 3840 := (cdX_lt hw oky).2 (by rcases my with q | q; rw [z1] at q; cases q; exact q)
      rw [z2, if_pos rfl, b78_75, pk_mul, nI_add]
      simp (disch := omega) only [in_106, if_true, nI_clamp]
      rw [b78_87]
      refine ⟨_, rfl, HD2 _ (fun i => by rw [gi_cell (by decide), gi_cell (by decide)]) (by rw [gi_cell (by decide), gi_cell (by decide)]) (by rw [gi_cell (by decide), gi_same]) (fun i hi => by rw [gi_cell (by decide), gi_slot hi]), fun _ => ?_, (E1'.si (by unfold sxE; omega)).si (by unfold sxE; omega)⟩
      intro k w' r' x' hk hx'
      by_cases q : k = cdX y
      · subst q
        rw [upD_s] at hk
        obtain ⟨q1, q2⟩ := List.append_inj' (Option.some.inj hk) rfl
        have q3 : r' = r := (List.cons.inj q2).1.symm
        subst q1
        rw [hrn] at hx'
        cases hx'
        rw [gi_same, q3]
      · rw [upD_n q] at hk
        rw [gi_slot q, gi_cell (by decide)]
        exact HC1 z1 k w' r' x' hk hx'
    · rw [if_neg (by rw [nI_eq (by omega) (by decide)]; omega), b78_87]
      exact ⟨_, rfl, HD2 _ (fun i => gi_cell (by decide)) (gi_cell (by decide)) gi_same (fun i hi => gi_slot hi), (fun z => by rw [z1] at z; cases z), E1'.si (by unfold sxE; omega)⟩
  rw [b78_8]
  simp (disch := omega) only [in_105, if_true, nI_clamp, f1]
  cases hq : D (cdX y) with
  | none =>
    obtain ⟨h2, a, b, c, d⟩ := upd
    refine ⟨_, h2, ?_, b, c, d, Or.inr ⟨rfl, fun v z => by cases z⟩⟩
    rw [show dN G none = 1000000000 from rfl, if_pos (by rw [nI_leI (by omega) (by omega)]; omega), b78_20]
    simp (disch := omega) only [in_105, if_true, nI_clamp, f1, hq]
    rw [show dN G none = 1000000000 from rfl, if_neg (by rw [nI_eq (by omega) (by omega)]; omega)]
    exact a
  | some v =>
    have hdv := TD_days hw hx hx0.1 (Or.inr hx0.2) T hq
    rw [show dN G (some v) = dys (gLon G) v from rfl]
    by_cases q1 : dys (gLon G) w + gLon G r ≤ dys (gLon G) v
    · rw [if_pos (by rw [nI_leI (by omega) (by omega)]; exact q1), b78_20]
      simp (disch := omega) only [in_105, if_true, nI_clamp, f1, hq]
      rw [show dN G (some v) = dys (gLon G) v from rfl]
      by_cases q2 : dys (gLon G) w + gLon G r = dys (gLon G) v
      · rw [if_pos (by rw [q2]), b78_31, g8]
        rcases emk with ⟨z1, z2⟩ | ⟨z1, z2, z3, z4⟩
        · subst z1
          have hc'3 : cdX y < 3840 := (cdX_lt hw oky).2 (by rcases my with q | q; cases q; exact q)
          have hc3 : cdX x < 3840 := (cdX_lt hw okx).2 (by rcases mx with q | q; cases q; exact q)
          rw [z2, if_neg (by decide +kernel), b78_39]
          simp (disch := omega) only [in_106, if_true, nI_clamp]
          rcases snoc_or v with z | ⟨v', q, z⟩
          · rw [z] at q2
            have : dys (gLon G) [] = 0 := rfl
            omega
          · subst z
            obtain ⟨z3, hr3, hd3⟩ := T.2.2 _ v' q hq
            have hqR : q < gR G := by
              obtain ⟨zz, -, -, -, hrv⟩ := T.1 _ _ hq
              exact (rn_lon hw _ _ _ hrv).2.2 q (by simp)
            have hlq := hw.2.2.2.1 q hqR
            rw [HC1 rfl _ v' q z3 hq hr3, pk_mul, nI_add]
            obtain ⟨b, eb, hb⟩ := c_isAhead hw hx hx0.1 hx0.2 T HD1 (HC1 rfl) hd hd3 (show r < 12 by omega) (show q < 12 by omega) (Or.inl ⟨by rw [dys_snoc] at q2; exact q2, by omega, by omega⟩)
            rw [eb, bnd]
            simp only [app1, List.cons_append, List.nil_append]
            rw [b78_55]
            by_cases q3 : b = 0
            · rw [if_pos q3, b78_58]
              refine ⟨D, h1, rfl, HD1, (fun _ => HC1 rfl), E1', Or.inl ⟨rfl, _, rfl, ?_⟩⟩
              rintro (⟨q4, -⟩ | ⟨-, q4⟩)
              · cases q4
              · rcases q4 with q4 | q4
                · omega
                · exact hb.mp q3 q4.2
            · rw [if_neg q3]
              obtain ⟨h2, a, b', c, d⟩ := upd
              refine ⟨_, h2, a, b', (fun _ => c rfl), d, Or.inr ⟨rfl, fun v2 q4 => ?_⟩⟩
              cases q4
              refine Or.inr ⟨rfl, Or.inr ⟨by omega, ?_⟩⟩
              rcases Classical.em (llt (w ++ [r]) (v' ++ [q])) with q5 | q5
              · exact q5
              · exact absurd (hb.mpr q5) q3
        · rw [if_pos (by rw [nI_ltI (by decide) (by omega)]; exact z2), b78_58]
          refine ⟨D, h1, rfl, HD1, HC1, E1', Or.inl ⟨rfl, _, rfl, ?_⟩⟩
          rintro (⟨-, q4⟩ | ⟨q4, -⟩)
          · omega
          · rw [z1] at q4; cases q4
      · rw [if_neg (by rw [nI_eq (by omega) (by omega)]; exact q2)]
        obtain ⟨h2, a, b, c, d⟩ := upd
        refine ⟨_, h2, a, b, c, d, Or.inr ⟨rfl, fun v2 q4 => ?_⟩⟩
        cases q4
        have q5 : dys (gLon G) (w ++ [r]) < dys (gLon G) v := by omega
        cases ov with
        | true => exact Or.inl ⟨rfl, q5⟩
        | false => exact Or.inr ⟨rfl, Or.inl q5⟩
    · rw [if_neg (by rw [nI_leI (by omega) (by omega)]; exact q1), b78_19]
      refine ⟨D, h1, rfl, HD1, HC1, E1', Or.inl ⟨rfl, _, rfl, fun q4 => ?_⟩⟩
      have := btr_le q4
      omega
/-- the nearest place of a row not yet settled -/
theorem c_nearest_loop {G : LG} {row sm : Nat} {D : Nat → Option (List Nat)} {h : sm_H} (hG : cG h 2 G) (hw : wfG G) (hrow : row < 10240) (hsm : sm < 64) (hfar : ∀ f, f < 6 → sm_gi h 105 (row * 6 + f) = nI (dN G (D (row * 6 + f)))) (hdb : ∀ c w, D c = some w → dys (gLon G) w ≤ 2400) : ∀ (m k : Nat) (best : Option Nat) (l5 : Value), k + m = gN G → (match best with
      | none => ∀ f, f < k → sm / 2 ^ f % 2 = 0 → D (row * 6 + f) = none
      | some f => f < k ∧ sm / 2 ^ f % 2 = 0 ∧ ∃ w, D (row * 6 + f) = some w ∧ ∀ f', f' < k → sm / 2 ^ f' % 2 = 0 → ∀ w', D (row * 6 + f') = some w' → dys (gLon G) w ≤ dys (gLon G) w') →
    ∃ best' : Option Nat, xe 1 75 5 [.ref 104, .int (nI (row * 6)), .int (nI sm), .int (toI best), .int (nI k), l5] [] h = some ([.int (toI best')], h) ∧ (match best' with
      | none => ∀ f, f < gN G → sm / 2 ^ f % 2 = 0 → D (row * 6 + f) = none
      | some f => f < gN G ∧ sm / 2 ^ f % 2 = 0 ∧ ∃ w, D (row * 6 + f) = some w ∧ ∀ f', f' < gN G → sm / 2 ^ f' % 2 = 0 → ∀ w', D (row * 6 + f') = some w' → dys (gLon G) w ≤ dys (gLon G) w')
  | 0, k, best, l5, e, H => by
    have hN := hw.1.2
    have : k = gN G := by omega
    subst this
    rw [b75_5, hG.1.1, if_pos (Int32.le_refl _), b75_86]
    exact ⟨best, rfl, H⟩
  | m + 1, k, best, l5, e, H => by
    have hN := hw.1.2
    rw [b75_5, hG.1.1, if_neg (by rw [nI_leI (by omega) (by omega)]; omega), b75_17, shr1 (by omega) (by omega)]
    have hb1 : ∀ f, best = some f → f < 6 := fun f z => by rw [z] at H; have := H.1; omega
    -- passed over
    have skip : (sm / 2 ^ k % 2 = 0 → ∀ w', D (row * 6 + k) = some w' → ∃ f w, best = some f ∧ D (row * 6 + f) = some w ∧ dys (gLon G) w ≤ dys (gLon G) w') → ∀ l5, ∃ best' : Option Nat, xe 1 75 80 [.ref 104, .int (nI (row * 6)), .int (nI sm), .int (toI best), .int (nI k), .int l5] [] h = some ([.int (toI best')], h) ∧ (match best' with
      | none => ∀ f, f < gN G → sm / 2 ^ f % 2 = 0 → D (row * 6 + f) = none
      | some f => f < gN G ∧ sm / 2 ^ f % 2 = 0 ∧ ∃ w, D (row * 6 + f) = some w ∧ ∀ f', f' < gN G → sm / 2 ^ f' % 2 = 0 → ∀ w', D (row * 6 + f') = some w' → dys (gLon G) w ≤ dys (gLon G) w') := by
      intro hs l5
      rw [b75_80, nI_add]
      refine c_nearest_loop hG hw hrow hsm hfar hdb m (k + 1) best (.int l5) (by omega) ?_
      cases hbest : best with
      | none =>
        rw [hbest] at H
        intro f hf hbit
        by_cases z : f = k
        · subst z
          cases hq : D (row * 6 + f) with
          | none => rfl
          | some w' =>
            obtain ⟨f2, w2, z2, -⟩ := hs hbit w' hq
            rw [hbest] at z2
            cases z2
        · exact H f (by omega) hbit
      | some f0 =>
        rw [hbest] at H
        obtain ⟨a, b, w, c, d⟩ := H
        refine ⟨by omega, b, w, c, fun f' hf' hbit w' hw' => ?_⟩
        by_cases z : f' = k
        · subst z
          obtain ⟨f2, w2, z2, z3, z4⟩ := hs hbit w' hw'
          rw [hbest] at z2
          cases z2
          rw [c] at z3
          cases z3
          exact z4
        · exact d f' (by omega) hbit w' hw'
    have take : sm / 2 ^ k % 2 = 0 → ∀ w, D (row * 6 + k) = some w → (∀ f w', best = some f → D (row * 6 + f) = some w' → dys (gLon G) w < dys (gLon G) w') → ∀ l5, ∃ best' : Option Nat, xe 1 75 77 [.ref 104, .int (nI (row * 6)), .int (nI sm), .int (toI best), .int (nI k), .int l5] [] h = some ([.int (toI best')], h) ∧ (match best' with
      | none => ∀ f, f < gN G → sm / 2 ^ f % 2 = 0 → D (row * 6 + f) = none
      | some f => f < gN G ∧ sm / 2 ^ f % 2 = 0 ∧ ∃ w, D (row * 6 + f) = some w ∧ ∀ f', f' < gN G → sm / 2 ^ f' % 2 = 0 → ∀ w', D (row * 6 + f') = some w' → dys (gLon G) w ≤ dys (gLon G) w') := by
      intro hbit w hw' hlt l5
      rw [b75_77, b75_80, nI_add]
      refine c_nearest_loop hG hw hrow hsm hfar hdb m (k + 1) (some k) (.int l5) (by omega) ⟨by omega, hbit, w, hw', fun f' hf' hbit' w2 hw2 => ?_⟩
      by_cases z : f' = k
      · subst z
        rw [hw'] at hw2
        cases hw2
        exact Nat.le_refl _
      · cases hbest : best with
        | none =>
          rw [hbest] at H
          rw [H f' (by omega) hbit'] at hw2
          cases hw2
        | some f0 =>
          rw [hbest] at H
          obtain ⟨a, b, w0, c, d⟩ := H
          have h1 := hlt f0 w0 hbest c
          have h2 := d f' (by omega) hbit' w2 hw2
          omega
    by_cases q1 : sm / 2 ^ k % 2 = 0
    · rw [if_pos (by rw [q1]; decide +kernel), b75_26, nI_add]
      simp (disch := omega) only [in_105, if_true, nI_clamp, hfar k (by omega)]
      cases hq : D (row * 6 + k) with
      | none =>
        rw [show dN G none = 1000000000 from rfl, if_pos rfl, b75_44, b75_45, if_pos (by decide +kernel)]
        exact skip (fun _ w' z => by rw [hq] at z; cases z) _
      | some w =>
        have hdw := hdb _ _ hq
        rw [show dN G (some w) = dys (gLon G) w from rfl, if_neg (by rw [nI_eq (by omega) (by omega)]; omega), b75_40, b75_45, if_neg (by decide +kernel), b75_52]
        cases hbest : best with
        | none =>
          rw [← hbest, hbest, show toI none = -1 from rfl, if_pos rfl]
          have := take q1 w hq (fun f w' z => by rw [hbest] at z; cases z) (nI 1)
          rw [hbest] at this
          exact this
        | some f0 =>
          have hf6 := hb1 f0 hbest
          have H' := H
          rw [hbest] at H'
          obtain ⟨a, b, w0, c, d⟩ := H'
          have hdw0 := hdb _ _ c
          rw [show toI (some f0) = nI f0 from rfl, if_neg (by rw [nI_m1 (by omega)]; exact id), b75_57, nI_add, nI_add]
          simp (disch := omega) only [in_105, if_true, nI_clamp, hfar k (by omega), hfar f0 hf6]
          rw [hq, c, show dN G (some w) = dys (gLon G) w from rfl, show dN G (some w0) = dys (gLon G) w0 from rfl]
          by_cases q2 : dys (gLon G) w0 ≤ dys (gLon G) w
          · rw [if_pos (by rw [nI_leI (by omega) (by omega)]; exact q2)]
            have := skip (fun _ w' z => by rw [hq] at z; cases z; exact ⟨f0, w0, hbest, c, q2⟩) (nI 1)
            rw [hbest] at this
            exact this
          · rw [if_neg (by rw [nI_leI (by omega) (by omega)]; exact q2)]
            have := take q1 w hq (fun f w' z z2 => by rw [hbest] at z; cases z; rw [c] at z2; cases z2; omega) (nI 1)
            rw [hbest] at this
            exact this
    · rw [if_neg (by rw [nI_z (by omega)]; exact q1), b75_44, b75_45, if_pos (by decide +kernel)]
      exact skip (fun z => absurd z q1) _
