/-! ===== the class: ends and bridges noted; a state left ===== -/
def EN (h : sm_H) (G : LG) (P : Nat → Prop) (D : Nat → Option (List Nat)) : Prop := ∀ f, f < 6 → (sm_gi h 108 f = -1 ∧ ∀ c w, P c → c % 6 = f → D c ≠ some w) ∨ ∃ c w, sm_gi h 108 f = nI c ∧ P c ∧ c % 6 = f ∧ D c = some w ∧ ∀ c' w', P c' → c' % 6 = f → D c' = some w' → ¬ wlt (gLon G) w' w
def itm (G : LG) (s : XS → Nat → Option XS) (PP : Nat → Nat → Prop) (D : Nat → Option (List Nat)) (c r : Nat) (w : List Nat) (x y : XS) : Prop := PP c r ∧ D c = some w ∧ okX G x ∧ cdX x = c ∧ s x r = some y ∧ gBri G r = true
def LN (h : sm_H) (G : LG) (s : XS → Nat → Option XS) (PP : Nat → Nat → Prop) (D : Nat → Option (List Nat)) : Prop := (∃ b, b < 4096 ∧ sm_gi h 104 14 = nI b ∧ ∀ r, b / 2 ^ r % 2 = 1 ↔ ∃ c w x y, itm G s PP D c r w x y) ∧ ((sm_gi h 104 16 = -1 ∧ sm_gi h 104 15 = nI 1000000000 ∧ ∀ c r w x y, itm G s PP D c r w x y → xB x / 2 ^ xF y % 2 = 1) ∨ ∃ c r w x y, itm G s PP D c r w x y ∧ ¬ xB x / 2 ^ xF y % 2 = 1 ∧ sm_gi h 104 16 = nI (c * 12 + r) ∧ sm_gi h 104 15 = nI (dys (gLon G) (w ++ [r])) ∧ ∀ c' r' w' x' y', itm G s PP D c' r' w' x' y' → ¬ xB x' / 2 ^ xF y' % 2 = 1 → ¬ wlt (gLon G) (w' ++ [r']) (w ++ [r]))
theorem EN_cong {h h2 : sm_H} {G : LG} {P P' : Nat → Prop} {D D' : Nat → Option (List Nat)} (H : EN h G P D) (hh : ∀ f, sm_gi h2 108 f = sm_gi h 108 f) (hP : ∀ c w, D' c = some w → (P' c ↔ P c)) (hD : ∀ c, P c → D' c = D c) : EN h2 G P' D' := fun f hf => by
  rcases H f hf with ⟨a, b⟩ | ⟨c, w, a, b, e, g, k⟩
  · refine Or.inl ⟨(hh f).trans a, fun c w h1 h2 h3 => ?_⟩
    have h1' := (hP c w h3).mp h1
    rw [hD c h1'] at h3
    exact b c w h1' h2 h3
  · have hd : D' c = some w := (hD c b).trans g
    refine Or.inr ⟨c, w, (hh f).trans a, (hP c w hd).mpr b, e, hd, fun c' w' h1 h2 h3 => ?_⟩
    have h1' := (hP c' w' h3).mp h1
    rw [hD c' h1'] at h3
    exact k c' w' h1' h2 h3
theorem LN_cong {h h2 : sm_H} {G : LG} {s : XS → Nat → Option XS} {PP PP' : Nat → Nat → Prop} {D D' : Nat → Option (List Nat)} (H : LN h G s PP D) (hh : ∀ i, 14 ≤ i → i ≤ 16 → sm_gi h2 104 i = sm_gi h 104 i) (hi : ∀ c r w x y, itm G s PP' D' c r w x y ↔ itm G s PP D c r w x y) : LN h2 G s PP' D' := by
  have e : itm G s PP' D' = itm G s PP D := funext fun c => funext fun r => funext fun w => funext fun x => funext fun y => propext (hi c r w x y)
  unfold LN
  rw [hh 14 (by omega) (by omega), hh 15 (by omega) (by omega), hh 16 (by omega) (by omega), e]
  exact H
section NOTE
variable {G : LG} {sh p tn : Nat} {pl : Option Nat} {x0 : XS} {D : Nat → Option (List Nat)} {h : sm_H}
theorem llt_cut (hw : wfG G) {u v : List Nat} {a b : XS} {r : Nat} (hu : rn (stp G sh pl p false) x0 u = some a) (hv : rn (stp G sh pl p false) x0 v = some b) (hd : dys (gLon G) u = dys (gLon G) v) : llt (u ++ [r]) (v ++ [r]) ↔ llt u v := by
  have dz : ∀ (a b t : List Nat) (e : XS), rn (stp G sh pl p false) x0 b = some e → b = a ++ t → dys (gLon G) a = dys (gLon G) b → t = [] := by
    intro a b t e hrn hb hdy
    cases t with
    | nil => rfl
    | cons k t =>
      have hk := (rn_lon hw _ _ _ hrn).2.2 k (by rw [hb]; simp)
      have := hw.2.2.2.1 k hk
      rw [hb, dys_app] at hdy
      have : dys (gLon G) (k :: t) = gLon G k + dys (gLon G) t := rfl
      omega
  rcases lcp u v with ⟨c, a, b, u', v2, e1, e2, hab⟩ | ⟨t, e⟩ | ⟨t, e⟩
  · rw [e1, e2, List.append_assoc, List.append_assoc, llt_pre, llt_pre]
    constructor
    · rintro (q2 | ⟨q2, -⟩)
      · exact Or.inl q2
      · exact absurd q2 hab
    · rintro (q2 | ⟨q2, -⟩)
      · exact Or.inl q2
      · exact absurd q2 hab
  · have := dz u v t b hv e hd
    rw [this, List.append_nil] at e
    rw [e]
    exact iff_of_false (llt_irr _) (llt_irr _)
  · have := dz v u t a hu e hd.symm
    rw [this, List.append_nil] at e
    rw [e]
    exact iff_of_false (llt_irr _) (llt_irr _)
def sx108 : Nat → Nat → Prop := fun c _ => c = 108
theorem c_noteEnd (hw : wfG G) (hx : wfX G) (ok : okX G x0) (hm0 : xM x0 = 0) (T : TD G (stp G sh pl p false) false x0 D) (HD : cD h G tn D) (HC : cCM h (stp G sh pl p false) x0 D) {c0 : Nat} {w0 : List Nat} {P : Nat → Prop} (hd : D c0 = some w0) (hP : ¬ P c0) (H : EN h G P D) :
    ∃ h2, xc 80 [.ref 104, .int (nI c0)] h = some ([], h2) ∧ EN h2 G (fun c => P c ∨ c = c0) D ∧ eqx sx108 h h2 := by
  have cod : ∀ k w, D k = some w → k < 3840 := fun k w hk => by
    obtain ⟨z, oz, mz, cz, -⟩ := T.1 k w hk
    have := (cdX_lt hw oz).2 (by rcases mz with z | z; cases z; exact z)
    omega
  have hc3 := cod c0 w0 hd
  have hd0 := TD_days hw hx ok (Or.inr hm0) T hd
  have f6 : c0 % 6 < 6 := Nat.mod_lt _ (by decide)
  rw [en_80, b80_0, pk_rem (by omega) (by decide) (by decide)]
  simp (disch := omega) only [in_108, if_true, nI_clamp]
  -- written, or not
  have put : ∀ l3 : Int32, (∀ c' w', P c' → c' % 6 = c0 % 6 → D c' = some w' → ¬ wlt (gLon G) w' w0) → ∃ h2, xe 2 80 62 [.ref 104, .int (nI c0), .int (nI (c0 % 6)), .int l3] [] h = some ([], h2) ∧ EN h2 G (fun c => P c ∨ c = c0) D ∧ eqx sx108 h h2 := by
    intro l3 hb
    rw [b80_62]
    simp (disch := omega) only [in_108, if_true, nI_clamp]
    rw [b80_69]
    refine ⟨_, rfl, fun f hf => ?_, eqx.rf.si rfl⟩
    by_cases q : f = c0 % 6
    · subst q
      refine Or.inr ⟨c0, w0, gi_same, Or.inr rfl, rfl, hd, fun c' w' h1 h2 h3 => ?_⟩
      rcases h1 with z | z
      · exact hb c' w' z h2 h3
      · subst z
        rw [hd] at h3
        cases h3
        exact wlt_irr _
    · rcases H f hf with ⟨a, b⟩ | ⟨c, w, a, b, e, g, k⟩
      · refine Or.inl ⟨by rw [gi_slot q]; exact a, fun c w h1 h2 h3 => ?_⟩
        rcases h1 with z | z
        · exact b c w z h2 h3
        · subst z; exact q h2.symm
      · refine Or.inr ⟨c, w, by rw [gi_slot q]; exact a, Or.inl b, e, g, fun c' w' h1 h2 h3 => ?_⟩
        rcases h1 with z | z
        · exact k c' w' z h2 h3
        · subst z; exact absurd h2.symm q
  have leave : ∀ (c : Nat) (w : List Nat), sm_gi h 108 (c0 % 6) = nI c → P c → c % 6 = c0 % 6 → D c = some w → (∀ c' w', P c' → c' % 6 = c0 % 6 → D c' = some w' → ¬ wlt (gLon G) w' w) → ¬ wlt (gLon G) w0 w → EN h G (fun c => P c ∨ c = c0) D := by
    intro c w a b e g k hn f hf
    by_cases q : f = c0 % 6
    · subst q
      refine Or.inr ⟨c, w, a, Or.inl b, e, g, fun c' w' h1 h2 h3 => ?_⟩
      rcases h1 with z | z
      · exact k c' w' z h2 h3
      · subst z
        rw [hd] at h3
        cases h3
        exact hn
    · rcases H f hf with ⟨a, b⟩ | ⟨c, w, a, b, e, g, k⟩
      · refine Or.inl ⟨a, fun c w h1 h2 h3 => ?_⟩
        rcases h1 with z | z
        · exact b c w z h2 h3
        · subst z; exact q h2.symm
      · refine Or.inr ⟨c, w, a, Or.inl b, e, g, fun c' w' h1 h2 h3 => ?_⟩
        rcases h1 with z | z
        · exact k c' w' z h2 h3
        · subst z; exact absurd h2.symm q
  rcases H (c0 % 6) f6 with ⟨a, b⟩ | ⟨c, w, a, b, e, g, k⟩
  · rw [a, if_pos rfl]
    exact put _ (fun c' w' h1 h2 h3 => absurd h3 (b c' w' h1 h2))
  · have hcc := cod c w g
    have hdw := TD_days hw hx ok (Or.inr hm0) T g
    rw [a, if_neg (by rw [nI_m1 (by omega)]; exact id), b80_17]
    simp (disch := omega) only [in_105, if_true, nI_clamp, (cD_get HD (show c0 < 61440 by omega) hd).1, (cD_get HD (show c < 61440 by omega) g).1]
    by_cases q1 : dys (gLon G) w0 < dys (gLon G) w
    · rw [if_pos (by rw [nI_ltI (by omega) (by omega)]; exact q1)]
      exact put _ (fun c' w' h1 h2 h3 z => k c' w' h1 h2 h3 (wlt_tr z (Or.inl q1)))
    · rw [if_neg (by rw [nI_ltI (by omega) (by omega)]; exact q1), b80_32]
      simp (disch := omega) only [in_105, if_true, nI_clamp, (cD_get HD (show c0 < 61440 by omega) hd).1, (cD_get HD (show c < 61440 by omega) g).1]
      by_cases q2 : dys (gLon G) w0 = dys (gLon G) w
      · rw [if_pos (by rw [q2]), b80_47, pk_mul, pk_mul]
        obtain ⟨b1, eb, hb⟩ := c_isAhead hw hx ok hm0 T HD HC hd g (show 0 < 12 by decide) (show 0 < 12 by decide) (Or.inr q2)
        rw [Nat.add_zero, Nat.add_zero] at eb
        rw [eb, bnd]
        simp only [app1, List.cons_append, List.nil_append]
        obtain ⟨za, -, -, -, ra⟩ := T.1 c0 w0 hd
        obtain ⟨zb, -, -, -, rb⟩ := T.1 c w g
        rw [llt_cut hw ra rb q2] at hb
        rw [b80_59]
        by_cases q3 : b1 = 0
        · rw [if_pos q3, b80_69]
          refine ⟨h, rfl, leave c w a b e g k (fun z => ?_), eqx.rf⟩
          rcases z with z | z
          · omega
          · exact hb.mp q3 z.2
        · rw [if_neg q3]
          have hl : llt w0 w := by
            rcases Classical.em (llt w0 w) with z | z
            · exact z
            · exact absurd (hb.mpr z) q3
          exact put _ (fun c' w' h1 h2 h3 z => k c' w' h1 h2 h3 (wlt_tr z (Or.inr ⟨q2, hl⟩)))
      · rw [if_neg (by rw [nI_eq (by omega) (by omega)]; exact q2), b80_69]
        refine ⟨h, rfl, leave c w a b e g k (fun z => ?_), eqx.rf⟩
        unfold wlt at z
        omega
def sxG : Nat → Nat → Prop := fun c i => c = 104 ∧ 14 ≤ i ∧ i ≤ 16
theorem c_noteBridge (hw : wfG G) (hx : wfX G) (ok : okX G x0) (hm0 : xM x0 = 0) (T : TD G (stp G sh pl p false) false x0 D) (HD : cD h G tn D) (HC : cCM h (stp G sh pl p false) x0 D) {x y : XS} {r : Nat} {w0 : List Nat} {PP : Nat → Nat → Prop} (okx : okX G x) (mx : xM x = 0) (hd : D (cdX x) = some w0) (hs : stp G sh pl p false x r = some y) (hbr : gBri G r = true) (H : LN h G (stp G sh pl p false) PP D) :
    ∃ h2, xc 81 [.ref 104, .int (nI (cdX x)), .int (nI r), .int (nI (cdX y)), .int (nI (dys (gLon G) w0 + gLon G r))] h = some ([], h2) ∧ LN h2 G (stp G sh pl p false) (fun c r' => PP c r' ∨ (c = cdX x ∧ r' = r)) D ∧ eqx sxG h h2 := by
  have hr := stp_r hs
  have hR := hw.2.1
  have hlon := hw.2.2.2.1 r hr
  have oky := stp_ok hw hx okx hs
  obtain ⟨o1, o2, o3, o4⟩ := okx.b hw
  obtain ⟨v1, v2, v3, v4⟩ := oky.b hw
  obtain ⟨-, -, p3, -, -⟩ := cdX_parts o2 o3 o4
  obtain ⟨q1', -, -, -, -⟩ := cdX_parts v2 v3 v4
  have hc3 : cdX x < 3840 := (cdX_lt hw okx).2 mx
  have hclt := (cdX_lt hw oky).1
  have hd0 := TD_days hw hx ok (Or.inr hm0) T hd
  have hdu : dys (gLon G) (w0 ++ [r]) = dys (gLon G) w0 + gLon G r := dys_snoc
  obtain ⟨⟨b, hb1, hb2, hb3⟩, HL⟩ := H
  have itN : ∀ c r' w x' y', itm G (stp G sh pl p false) (fun c r' => PP c r' ∨ (c = cdX x ∧ r' = r)) D c r' w x' y' → itm G (stp G sh pl p false) PP D c r' w x' y' ∨ (c = cdX x ∧ r' = r ∧ w = w0 ∧ x' = x ∧ y' = y) := by
    rintro c r' w x' y' ⟨h1, h2, h3, h4, h5, h6⟩
    rcases h1 with z | ⟨z1, z2⟩
    · exact Or.inl ⟨z, h2, h3, h4, h5, h6⟩
    · right
      subst z1
      subst z2
      have hxx : x' = x := cdX_inj hw h3 okx h4
      subst hxx
      rw [hd] at h2
      cases h2
      rw [hs] at h5
      cases h5
      exact ⟨rfl, rfl, rfl, rfl, rfl⟩
  have itO : ∀ {c r' w x' y'}, itm G (stp G sh pl p false) PP D c r' w x' y' → itm G (stp G sh pl p false) (fun c r' => PP c r' ∨ (c = cdX x ∧ r' = r)) D c r' w x' y' := fun ⟨h1, h2⟩ => ⟨Or.inl h1, h2⟩
  have itS : itm G (stp G sh pl p false) (fun c r' => PP c r' ∨ (c = cdX x ∧ r' = r)) D (cdX x) r w0 x y := ⟨Or.inr ⟨rfl, rfl⟩, hd, okx, rfl, hs, hbr⟩
  rw [en_81, b81_0, hb2, shl1 (by omega), fa_or]
  generalize hh1 : sm_si h 104 14 (nI (b ||| 2 ^ r)) = h1
  have E1 : eqx sxG h h1 := by rw [← hh1]; exact eqx.rf.si (by unfold sxG; omega)
  have g14 : sm_gi h1 104 14 = nI (b ||| 2 ^ r) := by rw [← hh1]; exact gi_same
  have g15 : sm_gi h1 104 15 = sm_gi h 104 15 := by rw [← hh1]; exact gi_slot (by decide)
  have g16 : sm_gi h1 104 16 = sm_gi h 104 16 := by rw [← hh1]; exact gi_slot (by decide)
  have HD1 : cD h1 G tn D := cD_eqx HD E1 (fun c i z => by unfold sxG at z; omega)
  have HC1 : cCM h1 (stp G sh pl p false) x0 D := cCM_eqx HC E1 (fun c i z => by unfold sxG at z; omega)
  have cross : ∀ h2, sm_gi h2 104 14 = nI (b ||| 2 ^ r) → ∃ b', b' < 4096 ∧ sm_gi h2 104 14 = nI b' ∧ ∀ r', b' / 2 ^ r' % 2 = 1 ↔ ∃ c w x' y', itm G (stp G sh pl p false) (fun c r' => PP c r' ∨ (c = cdX x ∧ r' = r)) D c r' w x' y' := by
    intro h2 g
    refine ⟨b ||| 2 ^ r, Nat.or_lt_two_pow (n := 12) hb1 (Nat.pow_lt_pow_right (by decide) (by omega)), g, fun r' => ?_⟩
    rw [or_bit, hb3]
    constructor
    · rintro (⟨c, w, x', y', z⟩ | z)
      · exact ⟨c, w, x', y', itO z⟩
      · subst z; exact ⟨_, _, _, _, itS⟩
    · rintro ⟨c, w, x', y', z⟩
      rcases itN _ _ _ _ _ z with z | ⟨-, z, -⟩
      · exact Or.inl ⟨c, w, x', y', z⟩
      · exact Or.inr z
  rw [b81_12, pk_div (d := 60) (by omega) (by decide) (by decide), pk_rem (d := 64) (by omega) (by decide) (by decide), p3, pk_rem (d := 6) (by omega) (by decide) (by decide), q1', shr1 (by omega) (by omega)]
  -- the loophole is this one
  have put : ∀ (l5 l6 : Int32), ¬ xB x / 2 ^ xF y % 2 = 1 → (∀ c' r' w' x' y', itm G (stp G sh pl p false) PP D c' r' w' x' y' → ¬ xB x' / 2 ^ xF y' % 2 = 1 → ¬ wlt (gLon G) (w' ++ [r']) (w0 ++ [r])) → ∃ h2, xe 2 81 82 [.ref 104, .int (nI (cdX x)), .int (nI r), .int (nI (cdX y)), .int (nI (dys (gLon G) w0 + gLon G r)), .int l5, .int l6] [] h1 = some ([], h2) ∧ LN h2 G (stp G sh pl p false) (fun c r' => PP c r' ∨ (c = cdX x ∧ r' = r)) D ∧ eqx sxG h h2 := by
    intro l5 l6 hback hbest
    rw [b81_82, b81_88, pk_mul, nI_add, b81_98]
    refine ⟨_, rfl, ⟨cross _ (by rw [gi_slot (by decide), gi_slot (by decide)]; exact g14), Or.inr ⟨cdX x, r, w0, x, y, itS, hback, gi_same, by rw [gi_slot (by decide), gi_same, hdu], fun c' r' w' x' y' z1 z2 => ?_⟩⟩, (E1.si (by unfold sxG; omega)).si (by unfold sxG; omega)⟩
    rcases itN _ _ _ _ _ z1 with z | ⟨-, z3, z4, -⟩
    · exact hbest c' r' w' x' y' z z2
    · rw [z3, z4]; exact wlt_irr _
  -- it stays
  have stay : (xB x / 2 ^ xF y % 2 = 1 ∨ ∃ c1 r1 w1 x1 y1, itm G (stp G sh pl p false) PP D c1 r1 w1 x1 y1 ∧ ¬ xB x1 / 2 ^ xF y1 % 2 = 1 ∧ sm_gi h 104 16 = nI (c1 * 12 + r1) ∧ sm_gi h 104 15 = nI (dys (gLon G) (w1 ++ [r1])) ∧ (∀ c' r' w' x' y', itm G (stp G sh pl p false) PP D c' r' w' x' y' → ¬ xB x' / 2 ^ xF y' % 2 = 1 → ¬ wlt (gLon G) (w' ++ [r']) (w1 ++ [r1])) ∧ ¬ wlt (gLon G) (w0 ++ [r]) (w1 ++ [r1])) → LN h1 G (stp G sh pl p false) (fun c r' => PP c r' ∨ (c = cdX x ∧ r' = r)) D := by
    intro hst
    refine ⟨cross h1 g14, ?_⟩
    rcases hst with hb | ⟨c1, r1, w1, x1, y1, z1, z2, z3, z4, z5, z6⟩
    · rcases HL with ⟨a1, a2, a3⟩ | ⟨c1, r1, w1, x1, y1, z1, z2, z3, z4, z5⟩
      · refine Or.inl ⟨g16.trans a1, g15.trans a2, fun c r' w x' y' z => ?_⟩
        rcases itN _ _ _ _ _ z with z | ⟨-, -, -, q5, q6⟩
        · exact a3 c r' w x' y' z
        · rw [q5, q6]; exact hb
      · refine Or.inr ⟨c1, r1, w1, x1, y1, itO z1, z2, g16.trans z3, g15.trans z4, fun c' r' w' x' y' h1 h2 => ?_⟩
        rcases itN _ _ _ _ _ h1 with z | ⟨-, -, -, q5, q6⟩
        · exact z5 c' r' w' x' y' z h2
        · rw [q5, q6] at h2; exact absurd hb h2
    · refine Or.inr ⟨c1, r1, w1, x1, y1, itO z1, z2, g16.trans z3, g15.trans z4, fun c' r' w' x' y' h1 h2 => ?_⟩
      rcases itN _ _ _ _ _ h1 with z | ⟨-, q3, q4, -, -⟩
      · exact z5 c' r' w' x' y' z h2
      · rw [q3, q4]; exact z6
  by_cases hback : xB x / 2 ^ xF y % 2 = 1
  · rw [if_pos (by rw [hback]), b81_34, b81_39, if_neg (by decide +kernel), b81_81]
    exact ⟨h1, rfl, stay (Or.inl hback), E1⟩
  · rw [if_neg (by rw [nI_eq (by omega) (by decide)]; exact hback), b81_38, b81_39, if_pos (by decide +kernel), b81_46, g15]
    rcases HL with ⟨a1, a2, a3⟩ | ⟨c1, r1, w1, x1, y1, z1, z2, z3, z4, z5⟩
    · rw [a2, if_neg (by rw [nI_ltI (by omega) (by omega)]; omega), b81_55, g15, a2, if_neg (by rw [nI_eq (by omega) (by omega)]; omega)]
      exact put _ _ hback (fun c' r' w' x' y' h1 h2 => absurd (a3 c' r' w' x' y' h1) h2)
    · have z1' := z1
      obtain ⟨-, hd1, ok1, hc1, hs1, -⟩ := z1'
      have hd1b := TD_days hw hx ok (Or.inr hm0) T hd1
      have hr1 := stp_r hs1
      have hl1 := hw.2.2.2.1 r1 hr1
      have hdu1 : dys (gLon G) (w1 ++ [r1]) = dys (gLon G) w1 + gLon G r1 := dys_snoc
      rw [z4]
      by_cases q1 : dys (gLon G) (w1 ++ [r1]) < dys (gLon G) w0 + gLon G r
      · rw [if_pos (by rw [nI_ltI (by omega) (by omega)]; exact q1), b81_81]
        exact ⟨h1, rfl, stay (Or.inr ⟨c1, r1, w1, x1, y1, z1, z2, z3, z4, z5, fun z => by unfold wlt at z; omega⟩), E1⟩
      · rw [if_neg (by rw [nI_ltI (by omega) (by omega)]; exact q1), b81_55, g15, z4]
        by_cases q2 : dys (gLon G) w0 + gLon G r = dys (gLon G) (w1 ++ [r1])
        · rw [if_pos (by rw [q2]), b81_64, g16, z3, pk_mul, nI_add]
          obtain ⟨b1, eb, hb⟩ := c_isAhead hw hx ok hm0 T HD1 HC1 hd hd1 (show r < 12 by omega) (show r1 < 12 by omega) (Or.inl ⟨by omega, by omega, by omega⟩)
          rw [eb, bnd]
          simp only [app1, List.cons_append, List.nil_append]
          rw [b81_78]
          by_cases q3 : b1 = 0
          · rw [if_pos q3, b81_81]
            refine ⟨h1, rfl, stay (Or.inr ⟨c1, r1, w1, x1, y1, z1, z2, z3, z4, z5, fun z => ?_⟩), E1⟩
            rcases z with z | z
            · omega
            · exact hb.mp q3 z.2
          · rw [if_neg q3]
            have hl : llt (w0 ++ [r]) (w1 ++ [r1]) := by
              rcases Classical.em (llt (w0 ++ [r]) (w1 ++ [r1])) with z | z
              · exact z
              · exact absurd (hb.mpr z) q3
            exact put _ _ hback (fun c' r' w' x' y' h1 h2 z => z5 c' r' w' x' y' h1 h2 (wlt_tr z (Or.inr ⟨by omega, hl⟩)))
        · rw [if_neg (by rw [nI_eq (by omega) (by omega)]; exact q2)]
          exact put _ _ hback (fun c' r' w' x' y' h1 h2 z => z5 c' r' w' x' y' h1 h2 (wlt_tr z (Or.inl (by omega))))
end NOTE
