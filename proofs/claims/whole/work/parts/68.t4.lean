/-! ===== the search's order: what is settled stays ===== -/
def sett (row sm c : Nat) : Prop := c / 6 < row ∨ (c / 6 = row ∧ sm / 2 ^ (c % 6) % 2 = 1)
/-- what holds while rows are settled; of state c0 only roads below r0 have been gone -/
def SI (G : LG) (s : XS → Nat → Option XS) (ov : Bool) (x0 : XS) (row sm c0 r0 : Nat) (D : Nat → Option (List Nat)) : Prop := TD G s ov x0 D ∧ (∀ c w r x, D c = some (w ++ [r]) → rn s x0 w = some x → sett row sm (cdX x)) ∧ (∀ c w x r y, D c = some w → okX G x → cdX x = c → sett row sm c → s x r = some y → (c = c0 → r < r0) → ∃ v, D (cdX y) = some v ∧ ¬ btr (gLon G) ov (w ++ [r]) v) ∧ (∀ c c' w w', c / 6 = row → c' / 6 = row → sett row sm c → ¬ sett row sm c' → D c = some w → D c' = some w' → dys (gLon G) w ≤ dys (gLon G) w') ∧ ∀ c, c / 6 = row → sett row sm c → D c ≠ none
section SETT
variable {G : LG} {sh p : Nat} {pl : Option Nat} {ov : Bool} {x0 : XS} {row sm c0 r0 : Nat} {D : Nat → Option (List Nat)}
theorem stp_row (hw : wfG G) (hx : wfX G) {x y : XS} {r : Nat} (ok : okX G x) (hm : ov = true ∨ xM x = 0) (h : stp G sh pl p ov x r = some y) : cdX x / 6 ≤ cdX y / 6 := by
  have oky := stp_ok hw hx ok h
  obtain ⟨a1, a2, a3, a4⟩ := ok.b hw
  obtain ⟨b1, b2, b3, b4⟩ := oky.b hw
  obtain ⟨-, -, -, -, p5⟩ := cdX_parts a2 a3 a4
  obtain ⟨-, -, -, -, q5⟩ := cdX_parts b2 b3 b4
  obtain ⟨t, ht, -, rfl⟩ := stp_def h
  have h1 : xM x ≤ (if ov = true then xM x ||| bbit G r else 0) := by
    by_cases q : ov = true
    · rw [if_pos q]; exact Nat.left_le_or
    · rw [if_neg q]
      rcases hm with z | z
      · exact absurd z q
      · omega
  have h2 : xB x ≤ xB x ||| 2 ^ t := Nat.left_le_or
  have h3 : (if gBri G r = true ∧ pl ≠ some r then xN x - tollN G p (xN x) (xB x) (xF x) t else xN x) ≤ xN x := by split <;> omega
  rw [p5, q5]
  show (xM x * 64 + xB x) * 10 + (9 - xN x) ≤ ((if ov = true then xM x ||| bbit G r else 0) * 64 + (xB x ||| 2 ^ t)) * 10 + (9 - (if gBri G r = true ∧ pl ≠ some r then xN x - tollN G p (xN x) (xB x) (xF x) t else xN x))
  omega
/-- a road gone from the state that is being left -/
theorem SI_relax (hw : wfG G) (hx : wfX G) (ok0 : okX G x0) (hm0 : xM x0 = 0) {x y : XS} {w : List Nat} {D' : Nat → Option (List Nat)} (I : SI G (stp G sh pl p ov) ov x0 row sm c0 r0 D) (okx : okX G x) (mx : ov = true ∨ xM x = 0) (hc0 : cdX x = c0) (hd : D c0 = some w) (hrn : rn (stp G sh pl p ov) x0 w = some x) (hrow : c0 / 6 = row) (hset : sett row sm c0) (M : ∀ c v, c / 6 = row → sett row sm c → D c = some v → dys (gLon G) v ≤ dys (gLon G) w) (hs : stp G sh pl p ov x r0 = some y)
    (hD : (D' = D ∧ ∃ v, D (cdX y) = some v ∧ ¬ btr (gLon G) ov (w ++ [r0]) v) ∨ (D' = upD D (cdX y) (w ++ [r0]) ∧ ∀ v, D (cdX y) = some v → btr (gLon G) ov (w ++ [r0]) v)) :
    SI G (stp G sh pl p ov) ov x0 row sm c0 (r0 + 1) D' ∧ ∀ c, sett row sm c → D' c = D c := by
  obtain ⟨T, C, E, F, S⟩ := I
  have hlon := hw.2.2.2.1 r0 (stp_r hs)
  have oky := stp_ok hw hx okx hs
  have hrny := rn_snoc hrn hs
  have my := (rn_ok hw hx _ _ _ ok0 (Or.inr hm0) hrny).2
  have hrowy := stp_row hw hx okx mx hs
  have hdu : dys (gLon G) (w ++ [r0]) = dys (gLon G) w + gLon G r0 := dys_snoc
  rcases hD with ⟨rfl, v, hv1, hv2⟩ | ⟨rfl, hv⟩
  · refine ⟨⟨T, C, fun c w' x' r y' h1 h2 h3 h4 h5 h6 => ?_, F, S⟩, fun c _ => rfl⟩
    by_cases q : c = c0 ∧ r = r0
    · obtain ⟨q1, q2⟩ := q
      subst q2
      rw [q1] at h1 h3
      rw [hd] at h1
      cases h1
      have : x' = x := cdX_inj hw h2 okx (h3.trans hc0.symm)
      subst this
      rw [hs] at h5
      cases h5
      exact ⟨v, hv1, hv2⟩
    · exact E c w' x' r y' h1 h2 h3 h4 h5 (fun z => by have := h6 z; omega)
  · -- y is not settled
    have hny : ¬ sett row sm (cdX y) := by
      rintro (z | ⟨z1, z2⟩)
      · omega
      · have hz : sett row sm (cdX y) := Or.inr ⟨z1, z2⟩
        cases hq : D (cdX y) with
        | none => exact S _ z1 hz hq
        | some v =>
          have h1 := M _ v z1 hz hq
          have h2 := btr_le (hv v hq)
          omega
    have old : ∀ c, sett row sm c → upD D (cdX y) (w ++ [r0]) c = D c := fun c hc => upD_n (fun z => hny (by rw [← z]; exact hc))
    have hne0 : cdX x0 ≠ cdX y := fun z => by
      have h1 := hv [] (by rw [← z]; exact T.2.1)
      have h2 := btr_le h1
      have : dys (gLon G) [] = 0 := rfl
      omega
    refine ⟨⟨⟨fun c w' h1 => ?_, by rw [upD_n hne0]; exact T.2.1, fun c w' r h1 => ?_⟩, fun c w' r x' h1 h2 => ?_, fun c w' x' r y' h1 h2 h3 h4 h5 h6 => ?_, fun c c' w1 w2 h1 h2 h3 h4 h5 h6 => ?_, fun c h1 h2 => ?_⟩, old⟩
    · by_cases q : c = cdX y
      · subst q
        rw [upD_s] at h1
        cases h1
        exact ⟨y, oky, my, rfl, hrny⟩
      · rw [upD_n q] at h1; exact T.1 c w' h1
    · by_cases q : c = cdX y
      · subst q
        rw [upD_s] at h1
        obtain ⟨q1, q2⟩ := List.append_inj' (Option.some.inj h1) rfl
        subst q1
        exact ⟨x, hrn, by rw [hc0, old _ hset]; exact hd⟩
      · rw [upD_n q] at h1
        obtain ⟨z, hz1, hz2⟩ := T.2.2 c w' r h1
        exact ⟨z, hz1, by rw [old _ (C c w' r z h1 hz1)]; exact hz2⟩
    · by_cases q : c = cdX y
      · subst q
        rw [upD_s] at h1
        obtain ⟨q1, q2⟩ := List.append_inj' (Option.some.inj h1) rfl
        subst q1
        rw [hrn] at h2
        cases h2
        rw [hc0]
        exact hset
      · rw [upD_n q] at h1; exact C c w' r x' h1 h2
    · rw [old c h4] at h1
      by_cases q : c = c0 ∧ r = r0
      · obtain ⟨q1, q2⟩ := q
        subst q2
        rw [q1] at h1 h3
        rw [hd] at h1
        cases h1
        have : x' = x := cdX_inj hw h2 okx (h3.trans hc0.symm)
        subst this
        rw [hs] at h5
        cases h5
        exact ⟨_, upD_s, btr_irr⟩
      · obtain ⟨v, hv1, hv2⟩ := E c w' x' r y' h1 h2 h3 h4 h5 (fun z => by have := h6 z; omega)
        by_cases q3 : cdX y' = cdX y
        · rw [q3] at hv1 ⊢
          exact ⟨_, upD_s, fun z => hv2 (btr_tr z (hv v hv1))⟩
        · exact ⟨v, by rw [upD_n q3]; exact hv1, hv2⟩
    · rw [old c h3] at h5
      by_cases q : c' = cdX y
      · subst q
        rw [upD_s] at h6
        cases h6
        have := M c w1 h1 h3 h5
        omega
      · rw [upD_n q] at h6
        exact F c c' w1 w2 h1 h2 h3 h4 h5 h6
    · rw [old c h2]; exact S c h1 h2
theorem SI_skip {x : XS} {w : List Nat} (hw : wfG G) (I : SI G (stp G sh pl p ov) ov x0 row sm c0 r0 D) (okx : okX G x) (hc0 : cdX x = c0) (hs : stp G sh pl p ov x r0 = none) : SI G (stp G sh pl p ov) ov x0 row sm c0 (r0 + 1) D := by
  obtain ⟨T, C, E, F, S⟩ := I
  refine ⟨T, C, fun c w' x' r y' h1 h2 h3 h4 h5 h6 => ?_, F, S⟩
  by_cases q : c = c0 ∧ r = r0
  · obtain ⟨q1, q2⟩ := q
    subst q2
    rw [q1] at h3
    have : x' = x := cdX_inj hw h2 okx (h3.trans hc0.symm)
    subst this
    rw [hs] at h5
    cases h5
  · exact E c w' x' r y' h1 h2 h3 h4 h5 (fun z => by have := h6 z; omega)
theorem set_bit1 : ∀ sm, sm < 64 → ∀ f, f < 6 → sm ||| 2 ^ f < 64 := by decide +kernel
theorem set_bit2 : ∀ sm, sm < 64 → ∀ f, f < 6 → sm / 2 ^ f % 2 = 0 → pcnt (sm ||| 2 ^ f) 6 = pcnt sm 6 + 1 := by decide +kernel
theorem set_bit {sm f : Nat} (hsm : sm < 64) (hf : f < 6) (h0 : sm / 2 ^ f % 2 = 0) : sm ||| 2 ^ f < 64 ∧ pcnt (sm ||| 2 ^ f) 6 = pcnt sm 6 + 1 ∧ ∀ g, g < 6 → ((sm ||| 2 ^ f) / 2 ^ g % 2 = 1 ↔ (sm / 2 ^ g % 2 = 1 ∨ g = f)) := ⟨set_bit1 sm hsm f hf, set_bit2 sm hsm f hf h0, fun _ _ => or_bit⟩
theorem all_bits : ∀ sm, sm < 64 → pcnt sm 6 = 6 → ∀ g, g < 6 → sm / 2 ^ g % 2 = 1 := by decide +kernel
theorem sett_bit {f : Nat} (hsm : sm < 64) (hf : f < 6) (h0 : sm / 2 ^ f % 2 = 0) (c : Nat) : sett row (sm ||| 2 ^ f) c ↔ sett row sm c ∨ c = row * 6 + f := by
  have hb := (set_bit hsm hf h0).2.2 (c % 6) (Nat.mod_lt _ (by decide))
  unfold sett
  rw [hb]
  constructor
  · rintro (z | ⟨z, z2 | z2⟩)
    · exact Or.inl (Or.inl z)
    · exact Or.inl (Or.inr ⟨z, z2⟩)
    · exact Or.inr (by omega)
  · rintro ((z | ⟨z, z2⟩) | z)
    · exact Or.inl z
    · exact Or.inr ⟨z, Or.inl z2⟩
    · exact Or.inr ⟨by omega, Or.inr (by omega)⟩
/-- the nearest one is settled -/
theorem SI_pick {f : Nat} {w : List Nat} (hsm : sm < 64) (hf : f < 6) (h0 : sm / 2 ^ f % 2 = 0) (I : SI G (stp G sh pl p ov) ov x0 row sm c0 (gR G) D) (hd : D (row * 6 + f) = some w) (hmin : ∀ f', f' < 6 → sm / 2 ^ f' % 2 = 0 → ∀ w', D (row * 6 + f') = some w' → dys (gLon G) w ≤ dys (gLon G) w') :
    SI G (stp G sh pl p ov) ov x0 row (sm ||| 2 ^ f) (row * 6 + f) 0 D ∧ sett row (sm ||| 2 ^ f) (row * 6 + f) ∧ ∀ c v, c / 6 = row → sett row (sm ||| 2 ^ f) c → D c = some v → dys (gLon G) v ≤ dys (gLon G) w := by
  obtain ⟨T, C, E, F, S⟩ := I
  have sb := sett_bit (row := row) hsm hf h0
  have hn : ¬ sett row sm (row * 6 + f) := by
    rintro (z | ⟨z, z2⟩)
    · omega
    · rw [show (row * 6 + f) % 6 = f by omega, h0] at z2; omega
  have un : ∀ c, c / 6 = row → ¬ sett row sm c → c = row * 6 + c % 6 ∧ sm / 2 ^ (c % 6) % 2 = 0 := fun c h1 h2 => by
    refine ⟨by omega, ?_⟩
    have : ¬ sm / 2 ^ (c % 6) % 2 = 1 := fun z => h2 (Or.inr ⟨h1, z⟩)
    omega
  refine ⟨⟨T, fun c w' r x h1 h2 => (sb _).mpr (Or.inl (C c w' r x h1 h2)), fun c w' x r y h1 h2 h3 h4 h5 h6 => ?_, fun c c' w1 w2 h1 h2 h3 h4 h5 h6 => ?_, fun c h1 h2 => ?_⟩, (sb _).mpr (Or.inr rfl), fun c v h1 h2 h3 => ?_⟩
  · rcases (sb c).mp h4 with z | z
    · exact E c w' x r y h1 h2 h3 z h5 (fun _ => stp_r h5)
    · have := h6 z; omega
  · have h4' : ¬ sett row sm c' := fun z => h4 ((sb _).mpr (Or.inl z))
    rcases (sb c).mp h3 with z | z
    · exact F c c' w1 w2 h1 h2 z h4' h5 h6
    · subst z
      rw [hd] at h5
      cases h5
      obtain ⟨u1, u2⟩ := un c' h2 h4'
      exact hmin (c' % 6) (Nat.mod_lt _ (by decide)) u2 w2 (by rw [← u1]; exact h6)
  · rcases (sb c).mp h2 with z | z
    · exact S c h1 z
    · subst z; rw [hd]; intro q; cases q
  · rcases (sb c).mp h2 with z | z
    · exact F c _ v w h1 (by omega) z hn h3 hd
    · subst z
      rw [hd] at h3
      cases h3
      exact Nat.le_refl _
/-- a row is through -/
theorem SI_next {c1 : Nat} (I : SI G (stp G sh pl p ov) ov x0 row sm c0 (gR G) D) (hall : ∀ c w, c / 6 = row → D c = some w → sett row sm c) : SI G (stp G sh pl p ov) ov x0 (row + 1) 0 c1 (gR G) D ∧ ∀ c w, D c = some w → (sett (row + 1) 0 c ↔ sett row sm c) := by
  obtain ⟨T, C, E, F, S⟩ := I
  have z0 : ∀ k, 0 / 2 ^ k % 2 = 0 := fun k => by rw [Nat.zero_div]
  have key : ∀ c w, D c = some w → (sett (row + 1) 0 c ↔ sett row sm c) := fun c w h => by
    constructor
    · rintro (z | ⟨-, z⟩)
      · by_cases q : c / 6 = row
        · exact hall c w q h
        · exact Or.inl (by omega)
      · rw [z0] at z; omega
    · rintro (z | ⟨z, -⟩)
      · exact Or.inl (by omega)
      · exact Or.inl (by omega)
  refine ⟨⟨T, fun c w r x h1 h2 => ?_, fun c w x r y h1 h2 h3 h4 h5 h6 => E c w x r y h1 h2 h3 ((key c w h1).mp h4) h5 (fun _ => stp_r h5), fun c c' w w' h1 h2 h3 => ?_, fun c h1 h2 => ?_⟩, key⟩
  · obtain ⟨x', hx1, hx2⟩ := T.2.2 c w r h1
    rw [hx1] at h2
    cases h2
    exact (key _ w hx2).mpr (C c w r _ h1 hx1)
  · rcases h3 with z | ⟨-, z⟩
    · omega
    · rw [z0] at z; omega
  · rcases h2 with z | ⟨-, z⟩
    · omega
    · rw [z0] at z; omega
end SETT
/-- behind all rows: no walk is better -/
theorem SI_best {G : LG} {sh p row : Nat} {pl : Option Nat} {ov : Bool} {x0 : XS} {c0 : Nat} {D : Nat → Option (List Nat)} (hw : wfG G) (hx : wfX G) (ok0 : okX G x0) (hm0 : xM x0 = 0) (I : SI G (stp G sh pl p ov) ov x0 row 0 c0 (gR G) D) (hall : ∀ c w, D c = some w → c / 6 < row) : ∀ (n : Nat) (w : List Nat) (x : XS), w.length = n → rn (stp G sh pl p ov) x0 w = some x → ∃ v, D (cdX x) = some v ∧ ¬ btr (gLon G) ov w v
  | 0, w, x, hl, h => by
    have : w = [] := List.eq_nil_of_length_eq_zero hl
    subst this
    cases h
    exact ⟨[], I.1.2.1, btr_irr⟩
  | n + 1, w, x, hl, h => by
    rcases snoc_or w with z | ⟨u, r, z⟩
    · rw [z] at hl; cases hl
    · subst z
      simp at hl
      obtain ⟨x', h1, h2⟩ := rn_snoc' h
      obtain ⟨v', hv1, hv2⟩ := SI_best hw hx ok0 hm0 I hall n u x' hl h1
      have okx' := (rn_ok hw hx _ _ _ ok0 (Or.inr hm0) h1).1
      obtain ⟨v, hv3, hv4⟩ := I.2.2.1 _ v' x' r x hv1 okx' rfl (Or.inl (hall _ _ hv1)) h2 (fun _ => stp_r h2)
      refine ⟨v, hv3, btr_nt (fun q => hv2 ?_) hv4⟩
      obtain ⟨x2, -, -, hc2, hr2⟩ := I.1.1 _ _ hv1
      rcases q with ⟨q1, q⟩ | ⟨q1, q⟩
      · rw [dys_snoc, dys_snoc] at q
        exact Or.inl ⟨q1, by omega⟩
      · refine Or.inr ⟨q1, ?_⟩
        unfold wlt at q ⊢
        rw [dys_snoc, dys_snoc] at q
        rcases q with q | ⟨q, q2⟩
        · exact Or.inl (by omega)
        · have hdd : dys (gLon G) u = dys (gLon G) v' := by omega
          refine Or.inr ⟨hdd, ?_⟩
          have dz : ∀ (a b t : List Nat) (e : XS), rn (stp G sh pl p ov) x0 b = some e → b = a ++ t → dys (gLon G) a = dys (gLon G) b → t = [] := by
            intro a b t e hrn hb hdy
            cases t with
            | nil => rfl
            | cons k t =>
              have hk := (rn_lon hw _ _ _ hrn).2.2 k (by rw [hb]; simp)
              have := hw.2.2.2.1 k hk
              rw [hb, dys_app] at hdy
              have : dys (gLon G) (k :: t) = gLon G k + dys (gLon G) t := rfl
              omega
          rcases lcp u v' with ⟨c, a, b, u', v2, e1, e2, hab⟩ | ⟨t, e⟩ | ⟨t, e⟩
          · rw [e1, e2, List.append_assoc, List.append_assoc, llt_pre] at q2
            rw [e1, e2, llt_pre]
            rcases q2 with q2 | ⟨q2, -⟩
            · exact Or.inl q2
            · exact absurd q2 hab
          · have := dz u v' t x2 hr2 e hdd
            rw [this, List.append_nil] at e
            rw [e] at q2
            exact absurd q2 (llt_irr _)
          · have := dz v' u t x' h1 e hdd.symm
            rw [this, List.append_nil] at e
            rw [e] at q2
            exact absurd q2 (llt_irr _)
