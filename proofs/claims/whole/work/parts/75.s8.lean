/-! ===== the model: reach, loopholes, crosses ===== -/
section MREACH
variable {G : LG} {W : WG} {L : List WG} {B : Nat} {h : sm_H}
/-- all that can be come to is among the stands -/
theorem mN_all {sh p n : Nat} {pl : Option Nat} {ov : Bool} {K : Nat → XS} {x0 : XS} (H : mN h G sh pl p ov n K x0) : ∀ (w : List Nat) (j : Nat) (y : XS), j < n → rn (stp G sh pl p ov) (K j) w = some y → ∃ i, i < n ∧ K i = y
  | [], j, y, hj, h => by cases h; exact ⟨j, hj, rfl⟩
  | r :: w, j, y, hj, h => by
    obtain ⟨z, h1, h2⟩ := Option.bind_eq_some_iff.mp h
    have hc := H.2.2 j hj r (stp_r h1)
    unfold cmOK at hc
    rw [h1] at hc
    obtain ⟨i, hi, -, hKi⟩ := hc
    rw [← hKi] at h2
    exact mN_all H w i y hi h2
theorem mN_all0 {sh p n : Nat} {pl : Option Nat} {ov : Bool} {K : Nat → XS} {x0 : XS} (H : mN h G sh pl p ov n K x0) {w : List Nat} {y : XS} (hr : rn (stp G sh pl p ov) x0 w = some y) : ∃ i, i < n ∧ K i = y := mN_all H w 0 y H.2.1.2.2.1 (by rw [H.2.1.2.2.2.1]; exact hr)
theorem m_reach_loop {p0 : Int32} {sh p n : Nat} {pl : Option Nat} {ov : Bool} {K : Nat → XS} {x0 : XS} (H : mN h G sh pl p ov n K x0) : ∀ (m k b : Nat), k + m = n → b < 2 ^ gN G → (∀ f, b / 2 ^ f % 2 = 1 ↔ ∃ j, j < k ∧ xF (K j) = f) →
    ∃ b', xe 6 240 36 [.ref 169, .int p0, .int (nI b), .int (nI k)] [] h = some ([.int (nI b')], h) ∧ b' < 2 ^ gN G ∧ ∀ f, b' / 2 ^ f % 2 = 1 ↔ ∃ j, j < n ∧ xF (K j) = f
  | 0, k, b, e, hb, hf => by
    have : k = n := by omega
    subst this
    rw [b240_36, H.2.1.1.1, if_pos (Int32.le_refl _), b240_64]
    exact ⟨b, rfl, hb, hf⟩
  | m + 1, k, b, e, hb, hf => by
    have hn := H.2.1.1.2.1
    have hw := H.1.2.1
    have hN := hw.1.2
    have ok := H.2.1.2.1 k (by omega)
    obtain ⟨b1, b2, b3, b4⟩ := ok.b hw
    obtain ⟨c1, c2, c3, c4⟩ := sdX_parts b1 b2 b3
    have hsd := sdX_lt hw ok
    rw [b240_36, H.2.1.1.1, if_neg (by rw [nI_leI (by omega) (by omega)]; omega), b240_44]
    simp (disch := omega) only [in_177, if_true, nI_clamp, (H.2.1.1.2.2.1 k (by omega)).1]
    rw [en_226, b226_0, bnd]
    simp only [app1, List.cons_append, List.nil_append]
    rw [pk_div (d := 10240) (by omega) (by decide) (by decide), c4, b240_55, shl1 (by omega), fa_or, nI_add]
    refine m_reach_loop H m (k + 1) (b ||| 2 ^ xF (K k)) (by omega) (Nat.or_lt_two_pow hb (Nat.pow_lt_pow_right (by decide) ok.2.2.2)) (fun f => ?_)
    rw [or_bit, hf]
    constructor
    · rintro (⟨j, a, c⟩ | z)
      · exact ⟨j, by omega, c⟩
      · exact ⟨k, by omega, z.symm⟩
    · rintro ⟨j, a, c⟩
      by_cases q : j = k
      · subst q; exact Or.inr c.symm
      · exact Or.inl ⟨j, by omega, c⟩
theorem m_reach (S : mS h G W L B) (hx : wfX G) (X : mX h) {p : Int32} : ∃ h2, xc 240 [.ref 169, .int p] h = some ([.int (aReach G W p)], h2) ∧ mS h2 G W L B ∧ mX h2 ∧ eqx sxZ h h2 := by
  have hw := S.1
  have hP := hw.2.2.1
  have hN := hw.1.2
  have S0 := mS_thrown (v := nI 0) S
  obtain ⟨n0, K0, V0⟩ := mX_thrown (v := nI 0) X
  rw [en_240, b240_0, b240_5, m_isPerson S0.2.1.1.2.2 (by omega), bnd]
  simp only [app1, List.cons_append, List.nil_append]
  rw [b240_11]
  unfold aReach
  by_cases h1 : isN p.toInt64 (gP G)
  · rw [if_neg (by rw [bI_z]; exact fun z => z h1), if_pos h1, b240_17]
    obtain ⟨j, hj, rfl⟩ := isN_nI h1 (by omega)
    obtain ⟨a1, a2, a3, a4, a5, a6⟩ := mS_at S0 hj
    simp (disch := omega) only [nI_add, in_170, if_true, nI_clamp, a3]
    obtain ⟨n, K, h2, e2, C2, L2, cm2, E2⟩ := m_laysStands (ov := false) (mS_C S0 hx hj) V0 a1 a2 a4 a5 a6
    rw [if_neg (by decide)] at e2
    rw [e2, bnd]
    simp only [List.nil_append]
    have H : mN h2 G (wSh W) none j false n K (xS W j) := ⟨C2, L2, cm2⟩
    obtain ⟨b, eb, hb, hbit⟩ := m_reach_loop (p0 := nI j) H n 0 0 (by omega) (Nat.two_pow_pos _) (fun f => by
      rw [Nat.zero_div]
      exact iff_of_false (by decide) (fun ⟨i, hi, _⟩ => by omega))
    rw [b240_32, eb, toN_nI (by omega)]
    have E2' := E2.wk sxS_Z
    refine ⟨h2, ?_, mS_Z S0 E2', ⟨n, _, L2.1⟩, Z_thrown E2'⟩
    rw [bsN_uniq (f := fun f => (bW G (wSh W) none j (xS W j) 0 f).isSome) (gN G) hb (fun f _ => ?_)]
    rw [hbit]
    constructor
    · rintro ⟨i, hi, hfi⟩
      obtain ⟨w, hr⟩ := H.2.1.2.2.2.2 i hi
      obtain ⟨v, e, -⟩ := bst_ex (kd := 0) (g := f) (x := xS W j) hw (gw0.mpr ⟨K i, hr, hfi⟩)
      show (bst _ _).isSome = true
      rw [e]
      rfl
    · intro z
      obtain ⟨w, hbw⟩ := Option.isSome_iff_exists.mp z
      obtain ⟨y, hy1, hy2⟩ := gw0.mp (bst_iff.mp hbw).1
      obtain ⟨i, hi, hKi⟩ := mN_all0 H hy1
      exact ⟨i, hi, by rw [hKi]; exact hy2⟩
  · rw [if_pos (by rw [bI_z]; exact h1), if_neg h1, b240_14]
    exact ⟨_, rfl, S0, ⟨n0, K0, V0⟩, Z_thrown eqx.rf⟩
theorem m_loopOf (S : mS h G W L B) (hx : wfX G) (X : mX h) {p : Nat} (hp : p < gP G) : ∃ n K st h2, xc 252 [.ref 169, .int (nI p)] h = some ([.int (dyI G (bW G (wSh W) none p (xS W p) 1 0))], h2) ∧ mN h2 G (wSh W) none p false n K (xS W p) ∧ stJ G none (stp G (wSh W) none p false) n K 1 0 st ∧ stF G none (stp G (wSh W) none p false) n K 1 st ∧ (∀ j, j < n → sm_gi h2 179 j = nI (st j)) ∧ eqx sxZ h h2 := by
  obtain ⟨n0, K0, V⟩ := X
  have hP := S.1.2.2.1
  obtain ⟨a1, a2, a3, a4, a5, a6⟩ := mS_at S hp
  obtain ⟨n, K, st, h1, h2, e1, e2, N2, J2, F2, b2, E2⟩ := m_laid (ov := false) (kd := 1) (g := 0) (gI := -1) (mS_C S hx hp) V a1 a2 a4 a5 a6 (by decide) (fun z => absurd rfl z)
  rw [if_neg (by decide)] at e1
  rw [en_252, b252_0]
  simp (disch := omega) only [nI_add, in_170, if_true, nI_clamp, a3]
  rw [e1, bnd]
  simp only [List.nil_append]
  rw [b252_15, e2, bnd]
  simp only [app1, List.cons_append, List.nil_append]
  rw [b252_21]
  exact ⟨n, K, st, h2, rfl, N2, J2, F2, b2, E2⟩
theorem m_loophole (S : mS h G W L B) (hx : wfX G) (X : mX h) {p : Int32} : ∃ h2, xc 253 [.ref 169, .int p] h = some ([.int (aLoop G W p)], h2) ∧ mS h2 G W L B ∧ mX h2 ∧ eqx sxZ h h2 := by
  have hP := S.1.2.2.1
  have S0 := mS_thrown (v := nI 0) S
  have X0 := mX_thrown (v := nI 0) X
  rw [en_253, b253_0, b253_5, m_isPerson S0.2.1.1.2.2 (by omega), bnd]
  simp only [app1, List.cons_append, List.nil_append]
  rw [b253_11]
  unfold aLoop
  by_cases h1 : isN p.toInt64 (gP G)
  · rw [if_neg (by rw [bI_z]; exact fun z => z h1), if_pos h1, b253_14]
    obtain ⟨j, hj, rfl⟩ := isN_nI h1 (by omega)
    rw [toN_nI (by omega)]
    obtain ⟨n, K, st, h2, e2, N2, J2, F2, b2, E2⟩ := m_loopOf S0 hx X0 hj
    rw [e2, bnd]
    simp only [app1, List.cons_append, List.nil_append]
    rw [b253_19, b253_24]
    exact ⟨h2, rfl, mS_Z S0 E2, mN_X N2, Z_thrown E2⟩
  · rw [if_pos (by rw [bI_z]; exact h1), if_neg h1, b253_22, b253_24]
    exact ⟨_, rfl, S0, X0, Z_thrown eqx.rf⟩
theorem m_loopWay (S : mS h G W L B) (hx : wfX G) (X : mX h) {p i : Int32} : ∃ h2, xc 254 [.ref 169, .int p, .int i] h = some ([.int (aLoopW G W p i)], h2) ∧ mS h2 G W L B ∧ mX h2 ∧ eqx sxZ h h2 := by
  have hw := S.1
  have hP := S.1.2.2.1
  have S0 := mS_thrown (v := nI 0) S
  have X0 := mX_thrown (v := nI 0) X
  rw [en_254, b254_0, b254_5, m_isPerson S0.2.1.1.2.2 (by omega), bnd]
  simp only [app1, List.cons_append, List.nil_append]
  rw [b254_11]
  unfold aLoopW
  by_cases h1 : isN p.toInt64 (gP G)
  · rw [if_neg (by rw [bI_z]; exact fun z => z h1), if_pos h1, b254_17]
    by_cases hi : 0 ≤ i
    · rw [if_pos hi, if_pos hi, b254_24]
      obtain ⟨j, hj, rfl⟩ := isN_nI h1 (by omega)
      rw [toN_nI (by omega)]
      obtain ⟨ok0, hm0⟩ := okXS S0 hj
      obtain ⟨n, K, st, h2, e2, N2, J2, F2, b2, E2⟩ := m_loopOf S0 hx X0 hj
      rw [e2, bnd]
      simp only [app1, List.cons_append, List.nil_append]
      rw [b254_29]
      cases hb : bW G (wSh W) none j (xS W j) 1 0 with
      | none =>
        rw [show dyI G none = -1 from rfl, if_pos rfl, b254_33, b254_42, if_pos (by rw [nI_0]; exact hi), b254_57, b254_58]
        rw [show (none : Option (List Nat)).getD [] = [] from rfl, wI_of (by decide) hi, if_pos (by show nI 0 ≤ i; rw [nI_0]; exact hi)]
        exact ⟨h2, rfl, mS_Z S0 E2, mN_X N2, Z_thrown E2⟩
      | some w =>
        have hd := bW_days hw hx ok0 hm0 hb
        rw [show dyI G (some w) = nI (dys (gLon G) w) from rfl, if_neg (by rw [nI_m1 (by omega)]; exact id), b254_37]
        have hfin : st 0 < 268435456 := by
          have h1 := st_bst N2 J2 F2 (Or.inr hm0)
          rw [show bst (gLon G) (gwk (stp G (wSh W) none j false) (thK G 1 0) (lpK G none 1) (xS W j)) = some w from hb] at h1
          by_cases q : st 0 < 268435456
          · exact q
          · rw [if_neg q] at h1
            exact absurd h1 (by show ¬ nI _ = -1; rw [nI_m1 (by omega)]; exact id)
        obtain ⟨w', y, h3, e3, c1, c2, c3, c4, c5, c6, N3, E3⟩ := m_laysRoads N2 (by decide) J2 F2 (Or.inr hm0) b2 hfin
        have hww : w' = w := Option.some.inj (c1.symm.trans hb)
        subst hww
        rw [e3, bnd]
        simp only [app1, List.cons_append, List.nil_append]
        rw [b254_42, show (some w').getD [] = w' from rfl, wI_of (by omega) hi]
        have E23 := E2.tr (E3.wk sxR_Z)
        refine ⟨h3, ?_, mS_Z S0 E23, mN_X N3, Z_thrown E23⟩
        by_cases q2 : nI w'.length ≤ i
        · rw [if_pos q2, if_pos q2, b254_57, b254_58]
        · rw [if_neg q2, if_neg q2, b254_48]
          obtain ⟨k, hk, rfl⟩ := isN_nI ((isN_i32 (show w'.length < 2 ^ 30 by omega)).mp ⟨hi, Int32.not_le.mp q2⟩) (by omega)
          simp (disch := omega) only [in_181, if_true, nI_clamp]
          rw [b254_58, c4 k hk, toN_nI (by omega)]
    · rw [if_neg hi, if_neg hi, b254_21]
      exact ⟨_, rfl, S0, X0, Z_thrown eqx.rf⟩
  · rw [if_pos (by rw [bI_z]; exact h1), if_neg h1, b254_14]
    exact ⟨_, rfl, S0, X0, Z_thrown eqx.rf⟩
theorem m_cross_in {p0 : Int32} {sh p n k : Nat} {K : Nat → XS} {x0 : XS} (H : mN h G sh none p false n K x0) (hk : k < n) : ∀ (m r b : Nat), r + m = gR G → b < 4096 → (∀ r', b / 2 ^ r' % 2 = 1 ↔ gBri G r' = true ∧ ∃ j, (j < k ∨ (j = k ∧ r' < r)) ∧ ∃ y, stp G sh none p false (K j) r' = some y) →
    ∃ b' l4', xe 6 256 47 [.ref 169, .int p0, .int (nI b), .int (nI k), .int (nI r)] [] h = xe 6 256 36 [.ref 169, .int p0, .int (nI b'), .int (nI (k + 1)), l4'] [] h ∧ b' < 4096 ∧ ∀ r', b' / 2 ^ r' % 2 = 1 ↔ gBri G r' = true ∧ ∃ j, j < k + 1 ∧ ∃ y, stp G sh none p false (K j) r' = some y
  | 0, r, b, e, hb, hf => by
    have hR := H.1.2.1.2.1
    have : r = gR G := by omega
    subst this
    rw [b256_47]
    simp (disch := omega) only [in_170, if_true, nI_clamp, H.1.1.1.2.1]
    rw [if_pos (Int32.le_refl _), b256_100, nI_add]
    refine ⟨b, _, rfl, hb, fun r' => ?_⟩
    rw [hf]
    constructor
    · rintro ⟨a, j, c, y, d⟩
      exact ⟨a, j, by omega, y, d⟩
    · rintro ⟨a, j, c, y, d⟩
      exact ⟨a, j, by have := stp_r d; omega, y, d⟩
  | m + 1, r, b, e, hb, hf => by
    have hw := H.1.2.1
    have hR := hw.2.1
    have hn := H.2.1.1.2.1
    rw [b256_47]
    simp (disch := omega) only [in_170, if_true, nI_clamp, H.1.1.1.2.1]
    rw [if_neg (by rw [nI_leI (by omega) (by omega)]; omega), b256_58, m_isBridge' H.1.1 hw (show r < gR G by omega) H.1.2.2.2.2.2.2.1 H.1.2.2.2.2.2.2.2, bnd]
    simp only [app1, List.cons_append, List.nil_append]
    rw [b256_65]
    have hc := H.2.2 k hk r (by omega)
    -- the road is not gone, or no bridge
    have skip : ¬ (gBri G r = true ∧ ∃ y, stp G sh none p false (K k) r = some y) → ∃ b' l4', xe 6 256 91 [.ref 169, .int p0, .int (nI b), .int (nI k), .int (nI r)] [.int (nI b)] h = xe 6 256 36 [.ref 169, .int p0, .int (nI b'), .int (nI (k + 1)), l4'] [] h ∧ b' < 4096 ∧ ∀ r', b' / 2 ^ r' % 2 = 1 ↔ gBri G r' = true ∧ ∃ j, j < k + 1 ∧ ∃ y, stp G sh none p false (K j) r' = some y := by
      intro hno
      rw [b256_91, b256_92, fa_or, Nat.or_zero, nI_add]
      refine m_cross_in H hk m (r + 1) b (by omega) hb (fun r' => ?_)
      rw [hf]
      constructor
      · rintro ⟨a, j, c, y, d⟩
        exact ⟨a, j, by omega, y, d⟩
      · rintro ⟨a, j, c, y, d⟩
        refine ⟨a, j, ?_, y, d⟩
        by_cases q : j = k ∧ r' = r
        · obtain ⟨q1, q2⟩ := q
          subst q1
          subst q2
          exact absurd ⟨a, y, d⟩ hno
        · omega
    unfold cmOK at hc
    by_cases hbr : gBri G r = true
    · rw [if_neg (by rw [bI_z]; exact fun z => z ⟨hbr, by simp⟩), b256_68, pk_mul, nI_add]
      simp (disch := omega) only [in_180, if_true, nI_clamp]
      cases hs : stp G sh none p false (K k) r with
      | none =>
        rw [hs] at hc
        dsimp only at hc
        rw [hc, if_pos rfl]
        exact skip (fun ⟨_, y, z⟩ => by rw [hs] at z; cases z)
      | some y =>
        rw [hs] at hc
        obtain ⟨i, hi, gi, -⟩ := hc
        rw [gi, if_neg (by rw [nI_m1 (by omega)]; exact id), b256_84, b256_92, shl1 (by omega), fa_or, nI_add]
        refine m_cross_in H hk m (r + 1) (b ||| 2 ^ r) (by omega) (Nat.or_lt_two_pow (n := 12) hb (Nat.pow_lt_pow_right (by decide) (by omega))) (fun r' => ?_)
        rw [or_bit, hf]
        constructor
        · rintro (⟨a, j, c, y', d⟩ | z)
          · exact ⟨a, j, by omega, y', d⟩
          · subst z; exact ⟨hbr, k, by omega, y, hs⟩
        · rintro ⟨a, j, c, y', d⟩
          by_cases q : r' = r
          · exact Or.inr q
          · exact Or.inl ⟨a, j, by omega, y', d⟩
    · rw [if_pos (by rw [bI_z]; exact fun z => hbr z.1)]
      exact skip (fun z => hbr z.1)
theorem m_cross_loop {p0 : Int32} {sh p n : Nat} {K : Nat → XS} {x0 : XS} (H : mN h G sh none p false n K x0) : ∀ (m k b : Nat) (l4 : Value), k + m = n → b < 4096 → (∀ r', b / 2 ^ r' % 2 = 1 ↔ gBri G r' = true ∧ ∃ j, j < k ∧ ∃ y, stp G sh none p false (K j) r' = some y) →
    ∃ b', xe 6 256 36 [.ref 169, .int p0, .int (nI b), .int (nI k), l4] [] h = some ([.int (nI b')], h) ∧ b' < 4096 ∧ ∀ r', b' / 2 ^ r' % 2 = 1 ↔ gBri G r' = true ∧ ∃ j, j < n ∧ ∃ y, stp G sh none p false (K j) r' = some y
  | 0, k, b, l4, e, hb, hf => by
    have : k = n := by omega
    subst this
    rw [b256_36, H.2.1.1.1, if_pos (Int32.le_refl _), b256_106]
    exact ⟨b, rfl, hb, hf⟩
  | m + 1, k, b, l4, e, hb, hf => by
    have hn := H.2.1.1.2.1
    rw [b256_36, H.2.1.1.1, if_neg (by rw [nI_leI (by omega) (by omega)]; omega), b256_44]
    obtain ⟨b', l4', e', hb', hf'⟩ := m_cross_in (p0 := p0) H (show k < n by omega) (gR G) 0 b (by omega) hb (fun r' => by
      rw [hf]
      constructor
      · rintro ⟨a, j, c, y, d⟩
        exact ⟨a, j, Or.inl c, y, d⟩
      · rintro ⟨a, j, c, y, d⟩
        exact ⟨a, j, by omega, y, d⟩)
    rw [e']
    exact m_cross_loop H m (k + 1) b' l4' (by omega) hb' hf'
theorem m_crosses (S : mS h G W L B) (hx : wfX G) (X : mX h) {p : Int32} : ∃ h2, xc 256 [.ref 169, .int p] h = some ([.int (aCross G W p)], h2) ∧ mS h2 G W L B ∧ mX h2 ∧ eqx sxZ h h2 := by
  have hw := S.1
  have hP := hw.2.2.1
  have S0 := mS_thrown (v := nI 0) S
  obtain ⟨n0, K0, V0⟩ := mX_thrown (v := nI 0) X
  rw [en_256, b256_0, b256_5, m_isPerson S0.2.1.1.2.2 (by omega), bnd]
  simp only [app1, List.cons_append, List.nil_append]
  rw [b256_11]
  unfold aCross
  by_cases h1 : isN p.toInt64 (gP G)
  · rw [if_neg (by rw [bI_z]; exact fun z => z h1), if_pos h1, b256_17]
    obtain ⟨j, hj, rfl⟩ := isN_nI h1 (by omega)
    obtain ⟨a1, a2, a3, a4, a5, a6⟩ := mS_at S0 hj
    simp (disch := omega) only [nI_add, in_170, if_true, nI_clamp, a3]
    obtain ⟨n, K, h2, e2, C2, L2, cm2, E2⟩ := m_laysStands (ov := false) (mS_C S0 hx hj) V0 a1 a2 a4 a5 a6
    rw [if_neg (by decide)] at e2
    rw [e2, bnd]
    simp only [List.nil_append]
    have H : mN h2 G (wSh W) none j false n K (xS W j) := ⟨C2, L2, cm2⟩
    obtain ⟨b, eb, hb, hbit⟩ := m_cross_loop (p0 := nI j) H n 0 0 .null (by omega) (by decide) (fun r' => by
      rw [Nat.zero_div]
      exact iff_of_false (by decide) (fun ⟨_, i, hi, _⟩ => by omega))
    rw [b256_32, eb, toN_nI (by omega)]
    have E2' := E2.wk sxS_Z
    refine ⟨h2, ?_, mS_Z S0 E2', ⟨n, _, L2.1⟩, Z_thrown E2'⟩
    rw [bsN_uniq (f := crB G (wSh W) j (xS W j)) 12 hb (fun r _ => ?_)]
    rw [hbit, crB]
    constructor
    · rintro ⟨a, i, hi, y, d⟩
      obtain ⟨w, hr⟩ := L2.2.2.2.2 i hi
      exact @decide_eq_true _ (Classical.propDecidable _) ⟨a, w, K i, y, hr, d⟩
    · intro z
      obtain ⟨a, w, x, y, c, d⟩ := @of_decide_eq_true _ (Classical.propDecidable _) z
      obtain ⟨i, hi, hKi⟩ := mN_all0 H c
      exact ⟨a, i, hi, y, by rw [hKi]; exact d⟩
  · rw [if_pos (by rw [bI_z]; exact h1), if_neg h1, b256_14]
    exact ⟨_, rfl, S0, ⟨n0, K0, V0⟩, Z_thrown eqx.rf⟩
end MREACH
