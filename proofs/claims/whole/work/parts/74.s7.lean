/-! ===== the best walk is there; the model's ways ===== -/
theorem least {Q : Nat → Prop} : ∀ (n : Nat), Q n → ∃ m, Q m ∧ m ≤ n ∧ ∀ k, k < m → ¬ Q k := by
  intro n
  induction n using Nat.strongRecOn with
  | ind n ih =>
    intro h
    rcases Classical.em (∃ k, k < n ∧ Q k) with ⟨k, hk, q⟩ | z
    · obtain ⟨m, a, b, c⟩ := ih k hk q
      exact ⟨m, a, by omega, c⟩
    · exact ⟨n, h, Nat.le_refl _, fun k hk q => z ⟨k, hk, q⟩⟩
section BEX
variable {G : LG} {sh p kd g : Nat} {pl : Option Nat} {ov : Bool}
theorem bes_nil {x : XS} (h : gwk (stp G sh pl p ov) (thK G kd g) (lpK G pl kd) x []) : bes (gLon G) (gwk (stp G sh pl p ov) (thK G kd g) (lpK G pl kd) x) [] := ⟨h, fun v _ z => by
  rcases z with z | z
  · exact absurd z (Nat.not_lt_zero _)
  · exact llt_nil v z.2⟩
theorem bes_ex (hw : wfG G) : ∀ (n : Nat) (x : XS) (w : List Nat), gwk (stp G sh pl p ov) (thK G kd g) (lpK G pl kd) x w → dys (gLon G) w ≤ n → ∃ v, bes (gLon G) (gwk (stp G sh pl p ov) (thK G kd g) (lpK G pl kd) x) v := by
  intro n
  induction n with
  | zero =>
    intro x w hg hd
    obtain ⟨y, hy⟩ := gwk_rn hg
    have := dys_zero hw hy (by omega)
    subst this
    exact ⟨[], bes_nil hg⟩
  | succ n ih =>
    intro x w hg hd
    obtain ⟨m, ⟨w1, hg1, hm1⟩, hmle, hmin⟩ := least (Q := fun d => ∃ w, gwk (stp G sh pl p ov) (thK G kd g) (lpK G pl kd) x w ∧ dys (gLon G) w = d) (dys (gLon G) w) ⟨w, hg, rfl⟩
    have low : ∀ v, gwk (stp G sh pl p ov) (thK G kd g) (lpK G pl kd) x v → m ≤ dys (gLon G) v := fun v hv => by
      rcases Nat.lt_or_ge (dys (gLon G) v) m with z | z
      · exact absurd ⟨v, hv, rfl⟩ (hmin _ z)
      · exact z
    rcases Classical.em (gwk (stp G sh pl p ov) (thK G kd g) (lpK G pl kd) x []) with hnil | hnil
    · exact ⟨[], bes_nil hnil⟩
    · cases w1 with
      | nil => exact absurd hg1 hnil
      | cons r0 w0 =>
        obtain ⟨r, ⟨w', hg', hd'⟩, -, hrmin⟩ := least (Q := fun r => ∃ w', gwk (stp G sh pl p ov) (thK G kd g) (lpK G pl kd) x (r :: w') ∧ dys (gLon G) (r :: w') = m) r0 ⟨w0, hg1, hm1⟩
        have hgc := hg'
        obtain ⟨y, hy, hgy⟩ := hg'
        have hlr := hw.2.2.2.1 r (stp_r hy)
        have hdc : dys (gLon G) (r :: w') = gLon G r + dys (gLon G) w' := rfl
        have lead : ∀ v, gwk (stp G sh pl p ov) (thK G kd g) (lpK G pl kd) x v → dys (gLon G) v = m → ∃ r' v', v = r' :: v' ∧ r ≤ r' := by
          intro v hv hdv
          cases v with
          | nil => exact absurd hv hnil
          | cons r' v' =>
            refine ⟨r', v', rfl, ?_⟩
            rcases Nat.lt_or_ge r' r with z | z
            · exact absurd ⟨v', hv, hdv⟩ (hrmin r' z)
            · exact z
        rcases Classical.em (lpK G pl kd x r y) with q | q
        · refine ⟨[r], ⟨y, hy, Or.inl ⟨rfl, q⟩⟩, fun v hv z => ?_⟩
          have h1 := low v hv
          have h2 : dys (gLon G) [r] = gLon G r := rfl
          have h3 := low [r] ⟨y, hy, Or.inl ⟨rfl, q⟩⟩
          rcases z with z | ⟨z, z2⟩
          · omega
          · obtain ⟨r', v', rfl, hrr⟩ := lead v hv (by omega)
            rcases z2 with z2 | ⟨-, z3⟩
            · omega
            · exact llt_nil v' z3
        · rcases hgy with ⟨-, z⟩ | hgy
          · exact absurd z q
          · obtain ⟨v', hb⟩ := ih y w' hgy (by omega)
            have hle := wlt_days (hb.2 w' hgy)
            have hgv : gwk (stp G sh pl p ov) (thK G kd g) (lpK G pl kd) x (r :: v') := ⟨y, hy, Or.inr hb.1⟩
            have hdv : dys (gLon G) (r :: v') = gLon G r + dys (gLon G) v' := rfl
            have h3 := low _ hgv
            refine ⟨r :: v', hgv, fun v hv z => ?_⟩
            have h1 := low v hv
            rcases z with z | ⟨z, z2⟩
            · omega
            · obtain ⟨r', v2, rfl, hrr⟩ := lead v hv (by omega)
              have hd2 : dys (gLon G) (r' :: v2) = gLon G r' + dys (gLon G) v2 := rfl
              rcases z2 with z2 | ⟨z2, z3⟩
              · omega
              · subst z2
                obtain ⟨y', hy', hgy'⟩ := hv
                rw [hy] at hy'
                cases hy'
                rcases hgy' with ⟨-, z4⟩ | z4
                · exact absurd z4 q
                · exact hb.2 v2 z4 (Or.inr ⟨by omega, z3⟩)
theorem bst_ex (hw : wfG G) {x : XS} {w : List Nat} (h : gwk (stp G sh pl p ov) (thK G kd g) (lpK G pl kd) x w) : ∃ v, bst (gLon G) (gwk (stp G sh pl p ov) (thK G kd g) (lpK G pl kd) x) = some v ∧ bes (gLon G) (gwk (stp G sh pl p ov) (thK G kd g) (lpK G pl kd) x) v := by
  obtain ⟨v, hv⟩ := bes_ex hw _ x w h (Nat.le_refl _)
  exact ⟨v, bst_some hv, hv⟩
theorem st_bst {n : Nat} {K : Nat → XS} {x0 : XS} {st : Nat → Nat} {h : sm_H} (H : mN h G sh pl p ov n K x0) (J : stJ G pl (stp G sh pl p ov) n K kd g st) (F : stF G pl (stp G sh pl p ov) n K kd st) (hm : ov = true ∨ xM x0 = 0) : dyI G (bst (gLon G) (gwk (stp G sh pl p ov) (thK G kd g) (lpK G pl kd) x0)) = if st 0 < 268435456 then nI (st 0) else -1 := by
  have h0 := H.2.1.2.2.1
  have hK0 := H.2.1.2.2.2.1
  obtain ⟨z1, z2⟩ := st_zero H J F hm
  by_cases q : st 0 < 268435456
  · rw [if_pos q]
    obtain ⟨w, hg, hd⟩ := (J 0 h0).2.2 q
    rw [hK0] at hg
    obtain ⟨v, e, hb⟩ := bst_ex H.1.2.1 hg
    rw [e]
    have h1 := wlt_days (hb.2 w hg)
    have h2 := st_low H J F v 0 h0 (by rw [hK0]; exact hb.1)
    show nI (dys (gLon G) v) = nI (st 0)
    rw [show dys (gLon G) v = st 0 by omega]
  · rw [if_neg q, bst_none (fun w hg => q (z2.mp ⟨w, hg⟩))]
    rfl
end BEX
def mX (h : sm_H) : Prop := ∃ n K, mV h n K
def sxZ : Nat → Nat → Prop := fun c i => c = 174 ∨ c = 175 ∨ (177 ≤ c ∧ c ≤ 183) ∨ (c = 169 ∧ (i = 0 ∨ i = 25 ∨ i = 27 ∨ i = 30))
theorem sxS_Z : ∀ c i, sxS c i → sxZ c i := fun c i z => by unfold sxS at z; unfold sxZ; omega
theorem sx179_Z : ∀ c i, sx179 c i → sxZ c i := fun c i z => by unfold sx179 at z; unfold sxZ; omega
theorem sxR_Z : ∀ c i, sxR c i → sxZ c i := fun c i z => by unfold sxR at z; unfold sxZ; omega
theorem mS_Z {G : LG} {W : WG} {L : List WG} {B : Nat} {h h2 : sm_H} (S : mS h G W L B) (E : eqx sxZ h h2) : mS h2 G W L B := by
  obtain ⟨hw, hG, hW, hww, hL, hLw, hpl⟩ := S
  have e : sm_gi h2 170 = sm_gi h 170 := funext fun i => E.1 170 i (by unfold sxZ; omega)
  exact ⟨hw, by rw [e]; exact hG, by rw [e]; exact hW, hww, by rw [e]; exact hL, hLw, by rw [E.1 169 15 (by unfold sxZ; omega)]; exact hpl⟩
theorem mX_thrown {h : sm_H} {v : Int32} (X : mX h) : mX (sm_si h 169 0 v) := by
  obtain ⟨n, K, V⟩ := X
  exact ⟨n, K, mV_eqx V (S := fun c i => c = 169 ∧ i = 0) (eqx.si (S := fun c i => c = 169 ∧ i = 0) eqx.rf ⟨rfl, rfl⟩) (fun c i z => by omega)⟩
theorem mN_X {h : sm_H} {G : LG} {sh p n : Nat} {pl : Option Nat} {ov : Bool} {K : Nat → XS} {x0 : XS} (H : mN h G sh pl p ov n K x0) : mX h := ⟨n, _, H.2.1.1⟩
theorem Z_thrown {h h2 : sm_H} {v : Int32} (E : eqx sxZ (sm_si h 169 0 v) h2) : eqx sxZ h h2 := (eqx.si (c := 169) (i := 0) (v := v) (eqx.rf (h := h)) (by unfold sxZ; omega)).tr E
theorem mS_C {G : LG} {W : WG} {L : List WG} {B p : Nat} {h : sm_H} (S : mS h G W L B) (hx : wfX G) (hp : p < gP G) : mC h G (wSh W) none p := ⟨S.2.1, S.1, hx, hp, S.2.2.1.1, S.2.2.2.1.1, S.2.2.2.2.2.2, fun t z => by cases z⟩
/-- stands and days still to go, laid for a person -/
theorem m_laid {G : LG} {sh p n0 pap a b kd g : Nat} {gI : Int32} {pl : Option Nat} {ov : Bool} {K0 : Nat → Nat} {h : sm_H} (C : mC h G sh pl p) (V : mV h n0 K0) (hat : sm_gi h 170 (90 + p) = nI a) (hbe : sm_gi h 170 (108 + p) = nI b) (ha : a < gN G) (hb : b < 2 ^ gN G) (hpap : pap ≤ 9) (hkd : kd ≤ 2) (hg : kd ≠ 1 → gI = nI g ∧ g < 2 ^ 31) :
    ∃ n K st h1 h2, xc 225 [.ref 169, .int (nI p), .int (nI pap), .int (nI (if ov = true then 1 else 0))] h = some ([], h1) ∧ xc 231 [.ref 169, .int (nI kd), .int gI] h1 = some ([.int (dyI G (bst (gLon G) (gwk (stp G sh pl p ov) (thK G kd g) (lpK G pl kd) (0, b, pap, a))))], h2) ∧ mN h2 G sh pl p ov n K (0, b, pap, a) ∧ stJ G pl (stp G sh pl p ov) n K kd g st ∧ stF G pl (stp G sh pl p ov) n K kd st ∧ (∀ j, j < n → sm_gi h2 179 j = nI (st j)) ∧ eqx sxZ h h2 := by
  obtain ⟨n, K, h1, e1, C1, L1, cm1, E1⟩ := m_laysStands (ov := ov) C V hat hbe ha hb hpap
  obtain ⟨st, h2, e2, a2, J2, F2, N2, E2⟩ := m_laysStill (g := g) (gI := gI) ⟨C1, L1, cm1⟩ hkd hg
  rw [← st_bst N2 J2 F2 (Or.inr rfl)] at e2
  exact ⟨n, K, st, h1, h2, e1, e2, N2, J2, F2, a2, (E1.wk sxS_Z).tr (E2.wk sx179_Z)⟩
theorem m_soonestOf {G : LG} {sh p n0 pap a b f : Nat} {pl : Option Nat} {K0 : Nat → Nat} {h : sm_H} (C : mC h G sh pl p) (V : mV h n0 K0) (hat : sm_gi h 170 (90 + p) = nI a) (hbe : sm_gi h 170 (108 + p) = nI b) (ha : a < gN G) (hb : b < 2 ^ gN G) (hpap : pap ≤ 9) (hf : f < 2 ^ 31) :
    ∃ n K st h2, xc 232 [.ref 169, .int (nI p), .int (nI pap), .int (nI f)] h = some ([.int (dyI G (bW G sh pl p (0, b, pap, a) 0 f))], h2) ∧ mN h2 G sh pl p false n K (0, b, pap, a) ∧ stJ G pl (stp G sh pl p false) n K 0 f st ∧ stF G pl (stp G sh pl p false) n K 0 st ∧ (∀ j, j < n → sm_gi h2 179 j = nI (st j)) ∧ eqx sxZ h h2 := by
  obtain ⟨n, K, st, h1, h2, e1, e2, N2, J2, F2, a2, E2⟩ := m_laid (ov := false) (kd := 0) (g := f) (gI := nI f) C V hat hbe ha hb hpap (by decide) (fun _ => ⟨rfl, hf⟩)
  rw [if_neg (by decide)] at e1
  rw [en_232, b232_0, e1, bnd]
  simp only [List.nil_append]
  rw [b232_7, e2, bnd]
  simp only [app1, List.cons_append, List.nil_append]
  rw [b232_13]
  exact ⟨n, K, st, h2, rfl, N2, J2, F2, a2, E2⟩
section MAPI
variable {G : LG} {W : WG} {L : List WG} {B : Nat} {h : sm_H}
theorem mS_at (S : mS h G W L B) {p : Nat} (hp : p < gP G) : sm_gi h 170 (90 + p) = nI (wAt W p) ∧ sm_gi h 170 (108 + p) = nI (wBeen W p) ∧ sm_gi h 170 (102 + p) = nI (wPap W p) ∧ wAt W p < gN G ∧ wBeen W p < 2 ^ gN G ∧ wPap W p ≤ 9 := by
  have hP := S.1.2.2.1
  have hm := S.2.2.1.2.2.1 p hp
  have hwp := S.2.2.2.1.2.2.1 p hp
  exact ⟨by rw [show 90 + p = 88 + 2 + p by omega]; exact hm.1, by rw [show 108 + p = 88 + 20 + p by omega]; exact hm.2.2, by rw [show 102 + p = 88 + 14 + p by omega]; exact S.2.2.1.2.2.2 p (by omega), hwp.1, hwp.2.2.2, hwp.2.2.1⟩
theorem m_soonestNow (S : mS h G W L B) (hx : wfX G) (X : mX h) {p f : Nat} (hp : p < gP G) (hf : f < 2 ^ 31) : ∃ n K st h2, xc 233 [.ref 169, .int (nI p), .int (nI f)] h = some ([.int (dyI G (bW G (wSh W) none p (xS W p) 0 f))], h2) ∧ mN h2 G (wSh W) none p false n K (xS W p) ∧ stJ G none (stp G (wSh W) none p false) n K 0 f st ∧ stF G none (stp G (wSh W) none p false) n K 0 st ∧ (∀ j, j < n → sm_gi h2 179 j = nI (st j)) ∧ eqx sxZ h h2 := by
  obtain ⟨n0, K0, V⟩ := X
  have hP := S.1.2.2.1
  obtain ⟨a1, a2, a3, a4, a5, a6⟩ := mS_at S hp
  obtain ⟨n, K, st, h2, e2, N2, J2, F2, b2, E2⟩ := m_soonestOf (f := f) (mS_C S hx hp) V a1 a2 a4 a5 a6 hf
  rw [en_233, b233_0]
  simp (disch := omega) only [nI_add, in_170, if_true, nI_clamp, a3]
  rw [e2, bnd]
  simp only [app1, List.cons_append, List.nil_append]
  rw [b233_15]
  exact ⟨n, K, st, h2, rfl, N2, J2, F2, b2, E2⟩
theorem dyI_m1 (hw : wfG G) {o : Option (List Nat)} (hb : ∀ w, o = some w → dys (gLon G) w ≤ 2420) : (dyI G o = -1) ↔ o = none := by
  cases o with
  | none => exact iff_of_true rfl rfl
  | some w =>
    have := hb w rfl
    exact ⟨fun z => absurd z (by show ¬ nI _ = -1; rw [nI_m1 (by omega)]; exact id), fun z => by cases z⟩
theorem bW_days (hw : wfG G) (hx : wfX G) {sh p kd g : Nat} {pl : Option Nat} {x0 : XS} (ok : okX G x0) (hm : xM x0 = 0) {w : List Nat} (h : bW G sh pl p x0 kd g = some w) : dys (gLon G) w ≤ 2420 := by
  have hb := bst_iff.mp h
  obtain ⟨v, hv1, hv2⟩ := gwk_few hw hx ok (Or.inr hm) hb.1
  have := wlt_days (hb.2 v hv1)
  omega
theorem okXS (S : mS h G W L B) {p : Nat} (hp : p < gP G) : okX G (xS W p) ∧ xM (xS W p) = 0 := by
  obtain ⟨a1, a2, a3, a4, a5, a6⟩ := mS_at S hp
  exact ⟨⟨(show (0 : Nat) < 16 by decide), a5, a6, a4⟩, rfl⟩
def lenI : Option (List Nat) → Int32
  | none => -1
  | some w => nI w.length
theorem m_laysWay (S : mS h G W L B) (hx : wfX G) (X : mX h) {p f : Nat} (hp : p < gP G) (hf : f < 2 ^ 31) : ∃ h2, xc 235 [.ref 169, .int (nI p), .int (nI f)] h = some ([.int (lenI (bW G (wSh W) none p (xS W p) 0 f))], h2) ∧ (∀ w, bW G (wSh W) none p (xS W p) 0 f = some w → w.length ≤ 2420 ∧ (∀ j, j < w.length → sm_gi h2 181 j = nI (w.getD j 0)) ∧ ∃ y, rn (stp G (wSh W) none p false) (xS W p) w = some y ∧ sm_gi h2 169 27 = nI (xN y)) ∧ mS h2 G W L B ∧ mX h2 ∧ eqx sxZ h h2 := by
  obtain ⟨ok0, hm0⟩ := okXS S hp
  obtain ⟨n, K, st, h2, e2, N2, J2, F2, b2, E2⟩ := m_soonestNow S hx X hp hf
  rw [en_235, b235_0, e2, bnd]
  simp only [app1, List.cons_append, List.nil_append]
  rw [b235_6]
  cases hb : bW G (wSh W) none p (xS W p) 0 f with
  | none =>
    rw [show dyI G none = -1 from rfl, if_pos rfl, b235_10, b235_19]
    exact ⟨h2, rfl, (fun w z => by cases z), mS_Z S E2, mN_X N2, E2⟩
  | some w =>
    have hd := bW_days S.1 hx ok0 hm0 hb
    rw [show dyI G (some w) = nI (dys (gLon G) w) from rfl, if_neg (by rw [nI_m1 (by omega)]; exact id), b235_14]
    have hfin : st 0 < 268435456 := by
      have h1 := st_bst N2 J2 F2 (Or.inr hm0)
      rw [show bst (gLon G) (gwk (stp G (wSh W) none p false) (thK G 0 f) (lpK G none 0) (xS W p)) = some w from hb] at h1
      by_cases q : st 0 < 268435456
      · exact q
      · rw [if_neg q] at h1
        exact absurd h1 (by show ¬ nI _ = -1; rw [nI_m1 (by omega)]; exact id)
    obtain ⟨w', y, h3, e3, c1, c2, c3, c4, c5, c6, N3, E3⟩ := m_laysRoads N2 (by decide) J2 F2 (Or.inr hm0) b2 hfin
    have hww : w' = w := Option.some.inj (c1.symm.trans hb)
    subst hww
    rw [e3, bnd]
    simp only [app1, List.cons_append, List.nil_append]
    rw [b235_19]
    have E23 := E2.tr (E3.wk sxR_Z)
    exact ⟨h3, rfl, (fun v z => by cases z; exact ⟨c3, c4, y, c5, c6⟩), mS_Z S E23, mN_X N3, E23⟩
theorem m_isWay (S : mS h G W L B) {p q : Int32} : xc 236 [.ref 169, .int p, .int q] h = some ([.int (bI (isN p.toInt64 (gP G) ∧ isN q.toInt64 (gN G)))], h) := by
  have hP := S.1.2.2.1
  have hN := S.1.1.2
  rw [en_236, b236_0, m_isPerson S.2.1.1.2.2 (by omega), bnd]
  simp only [app1, List.cons_append, List.nil_append]
  rw [b236_6]
  by_cases h1 : isN p.toInt64 (gP G)
  · rw [if_neg (by rw [bI_z]; exact fun z => z h1), b236_9, m_isPlace S.2.1.1.1 (by omega), bnd]
    simp only [app1, List.cons_append, List.nil_append]
    rw [b236_15]
    by_cases h2 : isN q.toInt64 (gN G)
    · rw [if_neg (by rw [bI_z]; exact fun z => z h2)]
      simp only [b236_18, b236_23, or01_1, if_true]
      unfold bI
      rw [if_pos ⟨h1, h2⟩]
    · rw [if_pos (by rw [bI_z]; exact h2)]
      simp only [b236_22, b236_23, or01_0, if_true]
      unfold bI
      rw [if_neg (fun z => h2 z.2)]
  · rw [if_pos (by rw [bI_z]; exact h1)]
    simp only [b236_22, b236_23, or01_0, if_true]
    unfold bI
    rw [if_neg (fun z => h1 z.1)]
theorem m_soonest (S : mS h G W L B) (hx : wfX G) (X : mX h) {p q : Int32} : ∃ h2, xc 237 [.ref 169, .int p, .int q] h = some ([.int (aSoon G W p q)], h2) ∧ mS h2 G W L B ∧ mX h2 ∧ eqx sxZ h h2 := by
  have hP := S.1.2.2.1
  have hN := S.1.1.2
  have S0 := mS_thrown (v := nI 0) S
  have X0 := mX_thrown (v := nI 0) X
  rw [en_237, b237_0, b237_5, m_isWay S0, bnd]
  simp only [app1, List.cons_append, List.nil_append]
  rw [b237_11]
  unfold aSoon
  by_cases hc : isN p.toInt64 (gP G) ∧ isN q.toInt64 (gN G)
  · rw [if_neg (by rw [bI_z]; exact fun z => z hc), if_pos hc, b237_14]
    obtain ⟨j, hj, rfl⟩ := isN_nI hc.1 (by omega)
    obtain ⟨f, hf, rfl⟩ := isN_nI hc.2 (by omega)
    rw [toN_nI (by omega), toN_nI (by omega)]
    obtain ⟨n, K, st, h2, e2, N2, J2, F2, b2, E2⟩ := m_soonestNow (f := f) S0 hx X0 hj (by omega)
    rw [e2, bnd]
    simp only [app1, List.cons_append, List.nil_append]
    rw [b237_20, b237_25]
    exact ⟨h2, rfl, mS_Z S0 E2, mN_X N2, Z_thrown E2⟩
  · rw [if_pos (by rw [bI_z]; exact hc), if_neg hc, b237_23, b237_25]
    exact ⟨_, rfl, S0, X0, Z_thrown eqx.rf⟩
theorem wI_of {w : List Nat} {i : Int32} (hl : w.length < 2 ^ 30) (hi : 0 ≤ i) : wI w i = if nI w.length ≤ i then -1 else nI (w.getD (toN i) 0) := by
  unfold wI
  by_cases q : nI w.length ≤ i
  · rw [if_pos q, if_neg (fun z => by
      have := ((isN_i32 hl).mpr z).2
      exact absurd q (Int32.not_le.mpr this))]
  · rw [if_neg q, if_pos ((isN_i32 hl).mp ⟨hi, Int32.not_le.mp q⟩)]
theorem m_way (S : mS h G W L B) (hx : wfX G) (X : mX h) {p q i : Int32} : ∃ h2, xc 238 [.ref 169, .int p, .int q, .int i] h = some ([.int (aWay G W p q i)], h2) ∧ mS h2 G W L B ∧ mX h2 ∧ eqx sxZ h h2 := by
  have hP := S.1.2.2.1
  have hN := S.1.1.2
  have S0 := mS_thrown (v := nI 0) S
  have X0 := mX_thrown (v := nI 0) X
  rw [en_238, b238_0, b238_5, m_isWay S0, bnd]
  simp only [app1, List.cons_append, List.nil_append]
  rw [b238_11]
  unfold aWay
  by_cases hc : isN p.toInt64 (gP G) ∧ isN q.toInt64 (gN G)
  · rw [if_neg (by rw [bI_z]; exact fun z => z hc), if_pos hc, b238_17]
    by_cases hi : 0 ≤ i
    · rw [if_pos hi, if_pos hi, b238_24]
      obtain ⟨j, hj, rfl⟩ := isN_nI hc.1 (by omega)
      obtain ⟨f, hf, rfl⟩ := isN_nI hc.2 (by omega)
      rw [toN_nI (by omega), toN_nI (by omega)]
      obtain ⟨h2, e2, c2, S2, X2, E2⟩ := m_laysWay (f := f) S0 hx X0 hj (by omega)
      rw [e2, bnd]
      simp only [app1, List.cons_append, List.nil_append]
      rw [b238_30]
      refine ⟨h2, ?_, S2, X2, Z_thrown E2⟩
      cases hb : bW G (wSh W) none j (xS W j) 0 f with
      | none =>
        rw [show lenI none = -1 from rfl, if_pos (Int32.le_trans (by decide +kernel) hi), b238_47, b238_48]
        rw [show (none : Option (List Nat)).getD [] = [] from rfl, wI_of (by decide) hi, if_pos (by show nI 0 ≤ i; rw [nI_0]; exact hi)]
      | some w =>
        obtain ⟨d1, d2, -⟩ := c2 w hb
        rw [show lenI (some w) = nI w.length from rfl, show (some w).getD [] = w from rfl, wI_of (by omega) hi]
        by_cases q2 : nI w.length ≤ i
        · rw [if_pos q2, if_pos q2, b238_47, b238_48]
        · rw [if_neg q2, if_neg q2, b238_38]
          obtain ⟨k, hk, rfl⟩ := isN_nI ((isN_i32 (show w.length < 2 ^ 30 by omega)).mp ⟨hi, Int32.not_le.mp q2⟩) (by omega)
          simp (disch := omega) only [in_181, if_true, nI_clamp]
          rw [b238_48, d2 k hk, toN_nI (by omega)]
    · rw [if_neg hi, if_neg hi, b238_21]
      exact ⟨_, rfl, S0, X0, Z_thrown eqx.rf⟩
  · rw [if_pos (by rw [bI_z]; exact hc), if_neg hc, b238_14]
    exact ⟨_, rfl, S0, X0, Z_thrown eqx.rf⟩
theorem m_left (S : mS h G W L B) (hx : wfX G) (X : mX h) {p q : Int32} : ∃ h2, xc 239 [.ref 169, .int p, .int q] h = some ([.int (aLeft G W p q)], h2) ∧ mS h2 G W L B ∧ mX h2 ∧ eqx sxZ h h2 := by
  have hP := S.1.2.2.1
  have hN := S.1.1.2
  have S0 := mS_thrown (v := nI 0) S
  have X0 := mX_thrown (v := nI 0) X
  rw [en_239, b239_0, b239_5, m_isWay S0, bnd]
  simp only [app1, List.cons_append, List.nil_append]
  rw [b239_11]
  unfold aLeft
  by_cases hc : isN p.toInt64 (gP G) ∧ isN q.toInt64 (gN G)
  · rw [if_neg (by rw [bI_z]; exact fun z => z hc), if_pos hc, b239_17]
    obtain ⟨j, hj, rfl⟩ := isN_nI hc.1 (by omega)
    obtain ⟨f, hf, rfl⟩ := isN_nI hc.2 (by omega)
    rw [toN_nI (by omega), toN_nI (by omega)]
    obtain ⟨h2, e2, c2, S2, X2, E2⟩ := m_laysWay (f := f) S0 hx X0 hj (by omega)
    rw [e2, bnd]
    simp only [app1, List.cons_append, List.nil_append]
    rw [b239_23]
    refine ⟨h2, ?_, S2, X2, Z_thrown E2⟩
    unfold pbI
    cases hb : bW G (wSh W) none j (xS W j) 0 f with
    | none => rw [show lenI none = -1 from rfl, if_pos rfl, b239_27, b239_35]
    | some w =>
      obtain ⟨d1, -, y, d3, d4⟩ := c2 w hb
      rw [show lenI (some w) = nI w.length from rfl, if_neg (by rw [nI_m1 (by omega)]; exact id), b239_31, b239_35, d4]
      dsimp only
      rw [d3]
  · rw [if_pos (by rw [bI_z]; exact hc), if_neg hc, b239_14]
    exact ⟨_, rfl, S0, X0, Z_thrown eqx.rf⟩
end MAPI
