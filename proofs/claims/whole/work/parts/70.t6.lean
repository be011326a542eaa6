/-! ===== the class: a state left; rows settled; the search ===== -/
theorem c_fill_loop {a n : Nat} {v : Int32} {h : sm_H} (hk : sm_kd a = 0) (hn : sm_ln a = n) (hn2 : n < 2 ^ 30) : ∀ (m k : Nat) (h1 : sm_H), k + m = n → (∀ i, i < k → sm_gi h1 a i = v) → eqx (fun c _ => c = a) h h1 →
    ∃ h2, xe 1 286 5 [.ref a, .int v, .int (nI k), .int (nI n)] [] h1 = some ([], h2) ∧ (∀ i, i < n → sm_gi h2 a i = v) ∧ eqx (fun c _ => c = a) h h2
  | 0, k, h1, e, b, E => by
    have : k = n := by omega
    subst this
    rw [b286_5, if_pos (Int32.le_refl _), b286_20]
    exact ⟨h1, rfl, b, E⟩
  | m + 1, k, h1, e, b, E => by
    rw [b286_5, if_neg (by rw [nI_leI (by omega) (by omega)]; omega), b286_10 hk, if_pos ((in_nI (by omega)).mpr (by omega)), nI_clamp (by omega), b286_14, nI_add]
    refine c_fill_loop hk hn hn2 m (k + 1) _ (by omega) (fun i hi => ?_) (eqx.si (S := fun c _ => c = a) E rfl)
    by_cases z : i = k
    · subst z; exact gi_same
    · rw [gi_slot z]; exact b i (by omega)
theorem c_fill {a n : Nat} {v : Int32} {h : sm_H} (hk : sm_kd a = 0) (hn : sm_ln a = n) (hn2 : n < 2 ^ 30) : ∃ h2, xc 286 [.ref a, .int v] h = some ([], h2) ∧ (∀ i, i < n → sm_gi h2 a i = v) ∧ eqx (fun c _ => c = a) h h2 := by
  rw [en_286, b286_0 hk, hn]
  exact c_fill_loop hk hn hn2 n 0 h (by omega) (fun i hi => by omega) eqx.rf
def sxF : Nat → Nat → Prop := fun c i => c = 14 ∨ c = 17 ∨ c = 49 ∨ c = 50 ∨ (105 ≤ c ∧ c ≤ 108) ∨ (c = 104 ∧ 14 ≤ i ∧ i ≤ 16)
/-- all that holds while a state is left by its roads below r -/
def LV (h : sm_H) (G : LG) (sh : Nat) (pl : Option Nat) (p : Nat) (ov : Bool) (mk : Nat) (x0 : XS) (tn row sm c0 r : Nat) (D : Nat → Option (List Nat)) : Prop := cQ h G sh pl p ov mk x0 ∧ SI G (stp G sh pl p ov) ov x0 row sm c0 r D ∧ cD h G tn D ∧ (ov = false → cCM h (stp G sh pl p ov) x0 D ∧ EN h G (sett row sm) D ∧ LN h G (stp G sh pl p ov) (fun c r' => sett row sm c ∧ (c = c0 → r' < r)) D)
section LEAVE
variable {G : LG} {sh p mk tn row sm : Nat} {pl : Option Nat} {ov : Bool} {x0 : XS}
theorem c_leave_loop {c0 : Nat} {x : XS} {w : List Nat} {D0 : Nat → Option (List Nat)} {h : sm_H} (okx : okX G x) (mx : ov = true ∨ xM x = 0) (hc0 : cdX x = c0) (hrn : rn (stp G sh pl p ov) x0 w = some x) (hrow : c0 / 6 = row) (hset : sett row sm c0) (hd0 : D0 c0 = some w) (M : ∀ c v, c / 6 = row → sett row sm c → D0 c = some v → dys (gLon G) v ≤ dys (gLon G) w) : ∀ (m r : Nat) (D : Nat → Option (List Nat)) (h1 : sm_H) (l3 l4 : Value), r + m = gR G → LV h1 G sh pl p ov mk x0 tn row sm c0 r D → (∀ c, sett row sm c → D c = D0 c) → eqx sxF h h1 →
    ∃ D' h2, xe 5 76 15 [.ref 104, .int (nI c0), .int (nI r), l3, l4] [] h1 = some ([], h2) ∧ LV h2 G sh pl p ov mk x0 tn row sm c0 (gR G) D' ∧ (∀ c, sett row sm c → D' c = D0 c) ∧ eqx sxF h h2
  | 0, r, D, h1, l3, l4, e, V, hD, E => by
    have : r = gR G := by omega
    subst this
    have hR := V.1.1.1.2.1
    rw [b76_15, show sm_gi h1 2 2 = nI (gR G) from V.1.1.2.2.1.1.2.1, if_pos (Int32.le_refl _), b76_99]
    exact ⟨D, h1, rfl, V, hD, E⟩
  | m + 1, r, D, h1, l3, l4, e, V, hD, E => by
    obtain ⟨Q, I, HD, N⟩ := V
    have hw := Q.1.1
    have hx := Q.1.2.1
    have hR := hw.2.1
    have hr : r < gR G := by omega
    have hlon := hw.2.2.2.1 r hr
    have ok0 := Q.2.2.1.1
    have hm0 := Q.2.2.1.2
    have hd : D c0 = some w := (hD c0 hset).trans hd0
    have hdw := TD_days hw hx ok0 (Or.inr hm0) I.1 hd
    have hclt := (cdX_lt hw okx).1
    rw [b76_15, show sm_gi h1 2 2 = nI (gR G) from Q.1.2.2.1.1.2.1, if_neg (by rw [nI_leI (by omega) (by omega)]; omega), b76_26, ← hc0]
    obtain ⟨h2, e2, cE2, X2⟩ := c_behind Q okx mx hr
    rw [e2, bnd]
    simp only [app1, List.cons_append, List.nil_append]
    have Q2 : cQ h2 G sh pl p ov mk x0 := cQ_eqx Q cE2 X2 (fun c i z => by unfold sxP at z; omega)
    have HD2 : cD h2 G tn D := cD_eqx HD X2 (fun c i z => by unfold sxP at z; omega)
    have E2 : eqx sxF h h2 := E.tr (X2.wk (fun c i z => by unfold sxP at z; unfold sxF; omega))
    have N2 : ov = false → cCM h2 (stp G sh pl p ov) x0 D ∧ EN h2 G (sett row sm) D ∧ LN h2 G (stp G sh pl p ov) (fun c r' => sett row sm c ∧ (c = c0 → r' < r)) D := fun z =>
      ⟨cCM_eqx (N z).1 X2 (fun c i z => by unfold sxP at z; omega), EN_cong (N z).2.1 (fun f => X2.1 108 f (by unfold sxP; omega)) (fun _ _ _ => Iff.rfl) (fun _ _ => rfl), LN_cong (N z).2.2 (fun i _ _ => X2.1 104 i (by unfold sxP; omega)) (fun _ _ _ _ _ => Iff.rfl)⟩
    rw [b76_32]
    cases hs : stp G sh pl p ov x r with
    | none =>
      rw [show stI none = -1 from rfl, if_pos rfl, b76_93, nI_add, hc0]
      have I2 := SI_skip (w := w) hw I okx hc0 hs
      refine c_leave_loop okx mx hc0 hrn hrow hset hd0 M m (r + 1) D h2 _ _ (by omega) ⟨Q2, I2, HD2, fun z => ⟨(N2 z).1, (N2 z).2.1, LN_cong (N2 z).2.2 (fun _ _ _ => rfl) (fun c r' w' x' y' => ?_)⟩⟩ hD E2
      constructor
      · rintro ⟨⟨a1, a2⟩, a3, a4, a5, a6, a7⟩
        refine ⟨⟨a1, fun q => ?_⟩, a3, a4, a5, a6, a7⟩
        have := a2 q
        by_cases q2 : r' = r
        · subst q2
          have hxx : x' = x := cdX_inj hw a4 okx (by rw [a5, q, hc0])
          subst hxx
          rw [hs] at a6
          cases a6
        · omega
      · rintro ⟨⟨a1, a2⟩, a3⟩
        exact ⟨⟨a1, fun q => by have := a2 q; omega⟩, a3⟩
    | some y =>
      have oky := stp_ok hw hx okx hs
      have hclty := (cdX_lt hw oky).1
      rw [show stI (some y) = nI (cdX y) from rfl, if_neg (by rw [nI_m1 (by omega)]; exact id), b76_38]
      have i5 : sm_in 5 (nI r) ↔ True := in_ln (by omega) (by rw [ln_5]; omega)
      have g5 : sm_gi h2 5 r = nI (gLon G r) := (cE2.2.2.1.2.1 r hr).2.2.1
      have g105 := (cD_get HD2 (show cdX x < 61440 by omega) (by rw [hc0]; exact hd)).1
      simp (disch := omega) only [in_105, i5, if_true, nI_clamp, g105, g5, nI_add]
      -- the bridge noted
      have mid : ∃ h3, (if sm_gi h2 104 8 = nI 1 then xe 5 76 64 [.ref 104, .int (nI (cdX x)), .int (nI r), .int (nI (cdX y)), .int (nI (dys (gLon G) w + gLon G r))] [] h2 else xe 5 76 84 [.ref 104, .int (nI (cdX x)), .int (nI r), .int (nI (cdX y)), .int (nI (dys (gLon G) w + gLon G r))] [] h2) = xe 5 76 84 [.ref 104, .int (nI (cdX x)), .int (nI r), .int (nI (cdX y)), .int (nI (dys (gLon G) w + gLon G r))] [] h3 ∧ (ov = false → LN h3 G (stp G sh pl p ov) (fun c r' => sett row sm c ∧ (c = c0 → r' < r + 1)) D) ∧ eqx sxG h2 h3 := by
        have emk := Q2.2.2.2.2.2.2.2
        rw [Q2.2.2.2.2.2.2.1]
        rcases emk with ⟨z1, z2⟩ | ⟨z1, z2, z3, z4⟩
        · subst z1
          rw [z2, if_pos rfl, b76_64, c_isBridge isD2 cE2.2.2.1 hw hr, bnd]
          simp only [app1, List.cons_append, List.nil_append]
          rw [b76_72]
          have mx0 : xM x = 0 := by
            rcases mx with q | q
            · cases q
            · exact q
          by_cases hb : gBri G r = true
          · rw [if_neg (by rw [bI_z]; exact fun z => z hb), b76_75]
            obtain ⟨h3, e3, L3, X3⟩ := c_noteBridge hw hx ok0 hm0 I.1 HD2 (N2 rfl).1 okx mx0 (by rw [hc0]; exact hd) hs hb (N2 rfl).2.2
            rw [e3, bnd]
            simp only [List.nil_append]
            refine ⟨h3, rfl, fun _ => LN_cong L3 (fun _ _ _ => rfl) (fun c r' w' x' y' => ?_), X3⟩
            constructor
            · rintro ⟨⟨a1, a2⟩, a3⟩
              refine ⟨?_, a3⟩
              by_cases q : c = c0 ∧ r' = r
              · exact Or.inr ⟨q.1.trans hc0.symm, q.2⟩
              · exact Or.inl ⟨a1, fun z => by have := a2 z; omega⟩
            · rintro ⟨a1 | ⟨a1, a2⟩, a3⟩
              · exact ⟨⟨a1.1, fun z => by have := a1.2 z; omega⟩, a3⟩
              · exact ⟨⟨by rw [a1, hc0]; exact hset, fun _ => by omega⟩, a3⟩
          · rw [if_pos (by rw [bI_z]; exact hb)]
            refine ⟨h2, rfl, fun _ => LN_cong (N2 rfl).2.2 (fun _ _ _ => rfl) (fun c r' w' x' y' => ?_), eqx.rf⟩
            constructor
            · rintro ⟨⟨a1, a2⟩, a3, a4, a5, a6, a7⟩
              refine ⟨⟨a1, fun q => ?_⟩, a3, a4, a5, a6, a7⟩
              have := a2 q
              by_cases q2 : r' = r
              · subst q2; exact absurd a7 hb
              · omega
            · rintro ⟨⟨a1, a2⟩, a3⟩
              exact ⟨⟨a1, fun q => by have := a2 q; omega⟩, a3⟩
        · rw [if_neg (by rw [nI_eq (by omega) (by decide)]; omega)]
          exact ⟨h2, rfl, (fun z => by rw [z1] at z; cases z), eqx.rf⟩
      obtain ⟨h3, e3, L3, X3⟩ := mid
      rw [e3, b76_84]
      have cE3 : cE h3 G := cE_eqx cE2 X3 (fun c i z => by unfold sxG at z; omega)
      have Q3 : cQ h3 G sh pl p ov mk x0 := cQ_eqx Q2 cE3 X3 (fun c i z => by unfold sxG at z; omega)
      have HD3 : cD h3 G tn D := cD_eqx HD2 X3 (fun c i z => by unfold sxG at z; omega)
      have HC3 : ov = false → cCM h3 (stp G sh pl p ov) x0 D := fun z => cCM_eqx (N2 z).1 X3 (fun c i z => by unfold sxG at z; omega)
      obtain ⟨D4, h4, e4, HD4, HC4, X4, hrel⟩ := c_reachState Q3 I.1 HD3 HC3 okx mx (by rw [hc0]; exact hd) hrn hs
      rw [e4, bnd]
      simp only [List.nil_append]
      rw [b76_93, nI_add, hc0]
      obtain ⟨I4, hold⟩ := SI_relax hw hx ok0 hm0 I okx mx hc0 hd hrn hrow hset (fun c v a1 a2 a3 => M c v a1 a2 (by rw [← hD c a2]; exact a3)) hs hrel
      have cE4 : cE h4 G := cE_eqx cE3 X4 (fun c i z => by unfold sxE at z; omega)
      refine c_leave_loop okx mx hc0 hrn hrow hset hd0 M m (r + 1) D4 h4 _ _ (by omega) ⟨cQ_eqx Q3 cE4 X4 (fun c i z => by unfold sxE at z; omega), I4, HD4, fun z => ⟨HC4 z, EN_cong (EN_cong (N2 z).2.1 (fun f => X3.1 108 f (by unfold sxG; omega)) (fun _ _ _ => Iff.rfl) (fun _ _ => rfl)) (fun f => X4.1 108 f (by unfold sxE; omega)) (fun _ _ _ => Iff.rfl) (fun c hc => hold c hc), LN_cong (L3 z) (fun i _ _ => X4.1 104 i (by unfold sxE; omega)) (fun c r' w' x' y' => ?_)⟩⟩ (fun c hc => (hold c hc).trans (hD c hc)) ((E2.tr (X3.wk (fun c i z => by unfold sxG at z; unfold sxF; omega))).tr (X4.wk (fun c i z => by unfold sxE at z; unfold sxF; omega)))
      constructor
      · rintro ⟨a1, a2, a3⟩
        exact ⟨a1, by rw [← hold c a1.1]; exact a2, a3⟩
      · rintro ⟨a1, a2, a3⟩
        exact ⟨a1, by rw [hold c a1.1]; exact a2, a3⟩
/-- what holds between two states -/
def LI (h : sm_H) (G : LG) (sh : Nat) (pl : Option Nat) (p : Nat) (ov : Bool) (mk : Nat) (x0 : XS) (tn row sm : Nat) (D : Nat → Option (List Nat)) : Prop := cQ h G sh pl p ov mk x0 ∧ (∃ c0, SI G (stp G sh pl p ov) ov x0 row sm c0 (gR G) D) ∧ cD h G tn D ∧ (ov = false → cCM h (stp G sh pl p ov) x0 D ∧ EN h G (sett row sm) D ∧ LN h G (stp G sh pl p ov) (fun c _ => sett row sm c) D)
theorem LV_LI {h : sm_H} {c0 : Nat} {D : Nat → Option (List Nat)} (V : LV h G sh pl p ov mk x0 tn row sm c0 (gR G) D) : LI h G sh pl p ov mk x0 tn row sm D := by
  obtain ⟨Q, I, HD, N⟩ := V
  refine ⟨Q, ⟨c0, I⟩, HD, fun z => ⟨(N z).1, (N z).2.1, LN_cong (N z).2.2 (fun _ _ _ => rfl) (fun c r' w' x' y' => ?_)⟩⟩
  constructor
  · rintro ⟨a1, a3, a4, a5, a6, a7⟩
    exact ⟨⟨a1, fun _ => stp_r a6⟩, a3, a4, a5, a6, a7⟩
  · rintro ⟨⟨a1, a2⟩, a3⟩
    exact ⟨a1, a3⟩
/-- a state left -/
theorem c_leave {f : Nat} {w : List Nat} {D : Nat → Option (List Nat)} {h : sm_H} (V : LI h G sh pl p ov mk x0 tn row sm D) (hsm : sm < 64) (hf : f < 6) (h0 : sm / 2 ^ f % 2 = 0) (hd : D (row * 6 + f) = some w) (hmin : ∀ f', f' < 6 → sm / 2 ^ f' % 2 = 0 → ∀ w', D (row * 6 + f') = some w' → dys (gLon G) w ≤ dys (gLon G) w') :
    ∃ D' h2, xc 76 [.ref 104, .int (nI (row * 6 + f))] h = some ([], h2) ∧ LI h2 G sh pl p ov mk x0 tn row (sm ||| 2 ^ f) D' ∧ eqx sxF h h2 := by
  obtain ⟨Q, ⟨c1, I⟩, HD, N⟩ := V
  have hw := Q.1.1
  have hx := Q.1.2.1
  have ok0 := Q.2.2.1.1
  have hm0 := Q.2.2.1.2
  obtain ⟨I1, hset, M⟩ := SI_pick hsm hf h0 I hd hmin
  have sb := sett_bit (row := row) hsm hf h0
  have hn : ¬ sett row sm (row * 6 + f) := by
    rintro (z | ⟨z, z2⟩)
    · omega
    · rw [show (row * 6 + f) % 6 = f by omega, h0] at z2; omega
  obtain ⟨x, okx, mx, hcx, hrn⟩ := I.1.1 _ _ hd
  rw [en_76, b76_0]
  have emk := Q.2.2.2.2.2.2.2
  rw [Q.2.2.2.2.2.2.1]
  -- the end noted
  have head : ∃ h1, (if nI mk = nI 1 then xe 5 76 8 [.ref 104, .int (nI (row * 6 + f)), .null, .null, .null] [] h else xe 5 76 13 [.ref 104, .int (nI (row * 6 + f)), .null, .null, .null] [] h) = xe 5 76 15 [.ref 104, .int (nI (row * 6 + f)), .int (nI 0), .null, .null] [] h1 ∧ (ov = false → EN h1 G (sett row (sm ||| 2 ^ f)) D) ∧ eqx sx108 h h1 := by
    rcases emk with ⟨z1, z2⟩ | ⟨z1, z2, z3, z4⟩
    · subst z1
      rw [z2, if_pos rfl, b76_8]
      obtain ⟨h1, e1, E1, X1⟩ := c_noteEnd hw hx ok0 hm0 I.1 HD (N rfl).1 hd hn (N rfl).2.1
      rw [e1, bnd]
      simp only [List.nil_append]
      rw [b76_13]
      exact ⟨h1, rfl, fun _ => EN_cong E1 (fun _ => rfl) (fun c _ _ => sb c) (fun _ _ => rfl), X1⟩
    · rw [if_neg (by rw [nI_eq (by omega) (by decide)]; omega), b76_13]
      exact ⟨h, rfl, (fun z => by rw [z1] at z; cases z), eqx.rf⟩
  obtain ⟨h1, e1, E1, X1⟩ := head
  rw [e1]
  have cE1 : cE h1 G := cE_eqx Q.1 X1 (fun c i z => by unfold sx108 at z; omega)
  have V1 : LV h1 G sh pl p ov mk x0 tn row (sm ||| 2 ^ f) (row * 6 + f) 0 D := ⟨cQ_eqx Q cE1 X1 (fun c i z => by unfold sx108 at z; omega), I1, cD_eqx HD X1 (fun c i z => by unfold sx108 at z; omega), fun z => ⟨cCM_eqx (N z).1 X1 (fun c i z => by unfold sx108 at z; omega), E1 z, LN_cong (N z).2.2 (fun i _ _ => X1.1 104 i (by unfold sx108; omega)) (fun c r' w' x' y' => by
    constructor
    · rintro ⟨⟨a1, a2⟩, a3⟩
      rcases (sb c).mp a1 with q | q
      · exact ⟨q, a3⟩
      · have := a2 q; omega
    · rintro ⟨a1, a3⟩
      exact ⟨⟨(sb c).mpr (Or.inl a1), fun q => absurd (by rw [← q]; exact a1) hn⟩, a3⟩)⟩⟩
  obtain ⟨D', h2, e2, V2, -, X2⟩ := c_leave_loop (h := h) okx mx hcx hrn (by omega) hset hd M (gR G) 0 D h1 .null .null (by omega) V1 (fun _ _ => rfl) (X1.wk (fun c i z => by unfold sx108 at z; unfold sxF; omega))
  exact ⟨D', h2, e2, LV_LI V2, X2⟩
theorem LI_next {h : sm_H} {D : Nat → Option (List Nat)} (V : LI h G sh pl p ov mk x0 tn row sm D) (hall : ∀ c w, c / 6 = row → D c = some w → sett row sm c) : LI h G sh pl p ov mk x0 tn (row + 1) 0 D := by
  obtain ⟨Q, ⟨c0, I⟩, HD, N⟩ := V
  obtain ⟨I2, key⟩ := SI_next (c1 := 0) I hall
  refine ⟨Q, ⟨0, I2⟩, HD, fun z => ⟨(N z).1, EN_cong (N z).2.1 (fun _ => rfl) (fun c w h => key c w h) (fun _ _ => rfl), LN_cong (N z).2.2 (fun _ _ _ => rfl) (fun c r' w' x' y' => ?_)⟩⟩
  constructor
  · rintro ⟨a1, a2, a3⟩
    exact ⟨(key c w' a2).mp a1, a2, a3⟩
  · rintro ⟨a1, a2, a3⟩
    exact ⟨(key c w' a2).mpr a1, a2, a3⟩
theorem c_row_loop {la : Int32} {l1 : Int32} {h : sm_H} (hrow : row < 10240) : ∀ (m i sm : Nat) (D : Nat → Option (List Nat)) (h1 : sm_H) (l6 : Value), i + m = 6 → sm < 64 → pcnt sm 6 = i → LI h1 G sh pl p ov mk x0 tn row sm D → eqx sxF h h1 →
    ∃ D' h2 l4' l5' l6', xe 6 73 112 [.ref 104, .int l1, .int la, .int (nI row), .int (nI sm), .int (nI i), l6] [] h1 = xe 6 73 101 [.ref 104, .int l1, .int la, .int (nI (row + 1)), l4', l5', l6'] [] h2 ∧ LI h2 G sh pl p ov mk x0 tn (row + 1) 0 D' ∧ eqx sxF h h2
  | 0, i, sm, D, h1, l6, e, hsm, hp, V, E => by
    have : i = 6 := by omega
    subst this
    rw [b73_112, if_pos (Int32.le_refl _), b73_179, nI_add]
    exact ⟨D, h1, _, _, _, rfl, LI_next V (fun c w a _ => Or.inr ⟨a, all_bits sm hsm hp (c % 6) (Nat.mod_lt _ (by decide))⟩), E⟩
  | m + 1, i, sm, D, h1, l6, e, hsm, hp, V, E => by
    have hw := V.1.1.1
    have hx := V.1.1.2.1
    have ok0 := V.1.2.2.1.1
    have hm0 := V.1.2.2.1.2
    have hN := hw.1.2
    obtain ⟨c0, I⟩ := V.2.1
    have htn := V.2.2.1.2.1
    rw [b73_112, if_neg (by rw [nI_leI (by omega) (by omega)]; omega), b73_119]
    simp (disch := omega) only [in_107, if_true, nI_clamp]
    obtain ⟨j, ja, jb, je, jg⟩ := V.2.2.1.2.2 row hrow
    rw [ja, V.2.2.1.1]
    by_cases q : j = tn
    · rw [if_pos (by rw [q]), b73_132, pk_mul]
      rw [en_75, b75_0]
      obtain ⟨best, eb, hb⟩ := c_nearest_loop (D := D) V.1.1.2.2.1 hw hrow hsm (je q) (fun c w hd => TD_days hw hx ok0 (Or.inr hm0) I.1 hd) (gN G) 0 none .null (by omega) (fun f hf => by omega)
      rw [show toI none = -1 from rfl] at eb
      rw [eb, bnd]
      simp only [app1, List.cons_append, List.nil_append]
      rw [b73_142]
      have fN : ∀ c w, D c = some w → c % 6 < gN G := fun c w hd => by
        obtain ⟨x, okx, -, hcx, -⟩ := I.1.1 c w hd
        obtain ⟨o1, o2, o3, o4⟩ := okx.b hw
        have := (cdX_parts o2 o3 o4).1
        have h4 := okx.2.2.2
        rw [hcx] at this
        omega
      cases hbest : best with
      | none =>
        rw [hbest] at hb
        rw [show toI none = -1 from rfl, if_pos rfl, b73_150, b73_179, nI_add]
        refine ⟨D, h1, _, _, _, rfl, LI_next V (fun c w a hd => ?_), E⟩
        by_cases z : sm / 2 ^ (c % 6) % 2 = 1
        · exact Or.inr ⟨a, z⟩
        · have := hb (c % 6) (fN c w hd) (by omega)
          rw [show row * 6 + c % 6 = c by omega, hd] at this
          cases this
      | some f =>
        rw [hbest] at hb
        obtain ⟨hf, hbit, w, hd, hmin⟩ := hb
        rw [show toI (some f) = nI f from rfl, if_neg (by rw [nI_m1 (by omega)]; exact id), b73_153, pk_mul, nI_add, shl1 (by omega), fa_or]
        obtain ⟨D2, h2, e2, V2, X2⟩ := c_leave V hsm (by omega) hbit hd (fun f' hf' hb' w' hw' => hmin f' (by
          have := fN _ _ hw'
          rw [show (row * 6 + f') % 6 = f' by omega] at this
          exact this) hb' w' hw')
        rw [e2, bnd]
        simp only [List.nil_append]
        rw [b73_173, nI_add]
        obtain ⟨s1, s2, -⟩ := set_bit hsm (show f < 6 by omega) hbit
        exact c_row_loop hrow m (i + 1) (sm ||| 2 ^ f) D2 h2 _ (by omega) s1 (by omega) V2 (E.tr X2)
    · rw [if_neg (by rw [nI_eq (by omega) (by omega)]; exact q), b73_179, nI_add]
      refine ⟨D, h1, _, _, _, rfl, LI_next V (fun c w a hd => ?_), E⟩
      have := jg q (c % 6) (Nat.mod_lt _ (by decide))
      rw [show row * 6 + c % 6 = c by omega, hd] at this
      cases this
theorem c_rows {last : Nat} {l1 : Int32} {h : sm_H} (hl : last ≤ 10240) : ∀ (m row : Nat) (D : Nat → Option (List Nat)) (h1 : sm_H) (l4 l5 l6 : Value), row + m = last → LI h1 G sh pl p ov mk x0 tn row 0 D → eqx sxF h h1 →
    ∃ D' h2, xe 6 73 101 [.ref 104, .int l1, .int (nI last), .int (nI row), l4, l5, l6] [] h1 = some ([], h2) ∧ LI h2 G sh pl p ov mk x0 tn last 0 D' ∧ eqx sxF h h2
  | 0, row, D, h1, l4, l5, l6, e, V, E => by
    have : row = last := by omega
    subst this
    rw [b73_101, if_pos (Int32.le_refl _), b73_185]
    exact ⟨D, h1, rfl, V, E⟩
  | m + 1, row, D, h1, l4, l5, l6, e, V, E => by
    rw [b73_101, if_neg (by rw [nI_leI (by omega) (by omega)]; omega), b73_106]
    obtain ⟨D2, h2, a4, a5, a6, e2, V2, X2⟩ := c_row_loop (la := nI last) (l1 := l1) (h := h) (show row < 10240 by omega) 6 0 0 D h1 l6 (by omega) (by decide) rfl V E
    rw [e2]
    exact c_rows hl m (row + 1) D2 h2 _ _ _ (by omega) V2 X2
end LEAVE
