/-! ===== errands in time: the class; the worst road ===== -/
/-- roads by which an errand is in time -/
noncomputable def usW (G : LG) (W : WG) (p : Nat) : List Nat := if p < gP G ∧ gGol G p ≠ none ∧ ¬ wRd W / 2 ^ p % 2 = 1 ∧ tmB G W (wSh W) p (wPap W p) = true then ((bW G (wSh W) none p (xS W p) 0 ((gGol G p).getD 0)).getD []) else []
noncomputable def ltB (G : LG) (W : WG) (r p : Nat) : Bool := decide (r ∈ usW G W p ∧ tmB G W (wSh W ||| 2 ^ r) p (wPap W p) = false)
noncomputable def ltN (G : LG) (W : WG) (r : Nat) : Nat := cntB (ltB G W r) (gP G)
def wsF (late : Nat → Nat) : Nat → Nat × Int32
  | 0 => (0, -1)
  | k + 1 => if (wsF late k).1 < late k then (late k, nI k) else wsF late k
theorem wsF_succ {late : Nat → Nat} {k : Nat} : wsF late (k + 1) = if (wsF late k).1 < late k then (late k, nI k) else wsF late k := rfl
noncomputable def aWorst (G : LG) (W : WG) : Int32 := (wsF (ltN G W) (gR G)).2
theorem tmB_shut {G : LG} {W : WG} {sh r p pap : Nat} (hw : wfG G) (hx : wfX G) (hd : wDay W p < 2 ^ 29) (hok : okX G (0, wBeen W p, pap, wAt W p)) (h : tmB G W (sh ||| 2 ^ r) p pap = true) : tmB G W sh p pap = true := by
  unfold tmB at h ⊢
  cases hg : gGol G p with
  | none => rw [hg] at h; cases h
  | some g =>
    rw [hg] at h
    dsimp only at h ⊢
    cases hb : bW G (sh ||| 2 ^ r) none p (0, wBeen W p, pap, wAt W p) 0 g with
    | none => rw [hb] at h; cases h
    | some w =>
      rw [hb] at h
      dsimp only at h
      obtain ⟨v, e, hle⟩ := bW_shut_le hw hb
      have h1 := bW_days hw hx hok rfl hb
      rw [e]
      dsimp only
      refine decide_eq_true (Int32.le_trans ?_ (of_decide_eq_true h))
      rw [nI_add, nI_add, nI_leI (by omega) (by omega)]
      omega
theorem tmB_same {G : LG} {W : WG} {sh r p pap g : Nat} {w : List Nat} (hw : wfG G) (hg : gGol G p = some g) (hb : bW G sh none p (0, wBeen W p, pap, wAt W p) 0 g = some w) (hr : r ∉ w) : tmB G W (sh ||| 2 ^ r) p pap = tmB G W sh p pap := by
  unfold tmB
  rw [hg]
  dsimp only
  rw [hb, bW_shut hw hb hr]
section WORST
variable {G : LG} {W : WG} {B : Nat}
theorem usW_mem {r p : Nat} (h : r ∈ usW G W p) : p < gP G ∧ gGol G p ≠ none ∧ ¬ wRd W / 2 ^ p % 2 = 1 ∧ tmB G W (wSh W) p (wPap W p) = true ∧ ∃ g w, gGol G p = some g ∧ bW G (wSh W) none p (xS W p) 0 g = some w ∧ r ∈ w := by
  unfold usW at h
  split at h
  next q =>
    refine ⟨q.1, q.2.1, q.2.2.1, q.2.2.2, ?_⟩
    cases hg : gGol G p with
    | none => exact absurd hg q.2.1
    | some g =>
      rw [hg] at h
      dsimp only [Option.getD_some] at h
      cases hb : bW G (wSh W) none p (xS W p) 0 g with
      | none => rw [hb] at h; simp at h
      | some w => rw [hb] at h; exact ⟨g, w, rfl, hb, h⟩
  next => simp at h
theorem cnt_split (hw : wfG G) (hx : wfX G) (hww : wfW G B W) (hB : B < 2 ^ 28) {r : Nat} : ∀ k, k ≤ gP G → cntB (itF G W (wSh W)) k = cntB (itF G W (wSh W ||| 2 ^ r)) k + cntB (ltB G W r) k
  | 0, _ => rfl
  | k + 1, hk => by
    have ih := cnt_split hw hx hww hB (r := r) k (by omega)
    have hwp := hww.2.2.1 k (by omega)
    have hok : okX G (0, wBeen W k, wPap W k, wAt W k) := ⟨(show (0 : Nat) < 16 by decide), hwp.2.2.2, hwp.2.2.1, hwp.1⟩
    have st : ∀ f : Nat → Bool, cntB f (k + 1) = cntB f k + (if f k = true then 1 else 0) := fun f => rfl
    rw [st, st, st, ih]
    have key : (if itF G W (wSh W) k = true then 1 else 0) = (if itF G W (wSh W ||| 2 ^ r) k = true then 1 else 0) + (if ltB G W r k = true then 1 else 0) := by
      by_cases q : itF G W (wSh W) k = true
      · obtain ⟨q1, q2, q3⟩ := of_decide_eq_true q
        by_cases z : itF G W (wSh W ||| 2 ^ r) k = true
        · rw [if_pos q, if_pos z, if_neg]
          intro y
          obtain ⟨y1, y2⟩ := of_decide_eq_true y
          obtain ⟨-, -, y3, -, -⟩ := usW_mem y1
          obtain ⟨-, -, z3⟩ := of_decide_eq_true z
          rcases z3 with z3 | z3
          · exact y3 z3
          · rw [y2] at z3; cases z3
        · rw [if_pos q, if_neg z, if_pos]
          have z3 : ¬ (wRd W / 2 ^ k % 2 = 1 ∨ tmB G W (wSh W ||| 2 ^ r) k (wPap W k) = true) := fun y => z (decide_eq_true ⟨q1, q2, y⟩)
          have ht : tmB G W (wSh W) k (wPap W k) = true := q3.resolve_left (fun y => z3 (Or.inl y))
          have ht' : tmB G W (wSh W ||| 2 ^ r) k (wPap W k) = false := by
            cases hc : tmB G W (wSh W ||| 2 ^ r) k (wPap W k) with
            | false => rfl
            | true => exact absurd (Or.inr hc) z3
          refine decide_eq_true ⟨?_, ht'⟩
          unfold usW
          rw [if_pos ⟨q1, q2, fun y => z3 (Or.inl y), ht⟩]
          cases hg : gGol G k with
          | none => exact absurd hg q2
          | some g =>
            cases hb : bW G (wSh W) none k (xS W k) 0 g with
            | none =>
              unfold tmB at ht
              rw [hg] at ht
              dsimp only at ht
              rw [show ((0, wBeen W k, wPap W k, wAt W k) : XS) = xS W k from rfl, hb] at ht
              cases ht
            | some w =>
              dsimp only [Option.getD_some]
              rw [hb]
              dsimp only [Option.getD_some]
              rcases Classical.em (r ∈ w) with y | y
              · exact y
              · rw [tmB_same hw hg hb y, ht] at ht'
                cases ht'
      · rw [if_neg q, if_neg, if_neg]
        · intro y
          obtain ⟨y1, y2⟩ := of_decide_eq_true y
          obtain ⟨y3, y4, -, y5, -⟩ := usW_mem y1
          exact q (decide_eq_true ⟨y3, y4, Or.inr y5⟩)
        · intro z
          obtain ⟨z1, z2, z3⟩ := of_decide_eq_true z
          exact q (decide_eq_true ⟨z1, z2, z3.imp id (fun y => tmB_shut hw hx (by omega) hok y)⟩)
    omega
theorem ltN_shut {r : Nat} (h : wSh W / 2 ^ r % 2 = 1) : ltN G W r = 0 := by
  have : ∀ k, cntB (ltB G W r) k = 0 := fun k => by
    induction k with
    | zero => rfl
    | succ k ih =>
      show cntB (ltB G W r) k + (if ltB G W r k = true then 1 else 0) = 0
      rw [ih, if_neg]
      intro y
      obtain ⟨y1, -⟩ := of_decide_eq_true y
      obtain ⟨-, -, -, -, g, w, -, hb, hr⟩ := usW_mem y1
      obtain ⟨z, hz, -⟩ := gw0.mp (bst_iff.mp hb).1
      exact rn_open w _ z hz hr h
  exact this _
theorem wsF_le {late : Nat → Nat} {b : Nat} (hl : ∀ r, late r ≤ b) : ∀ k, (wsF late k).1 ≤ b
  | 0 => Nat.zero_le _
  | k + 1 => by
    rw [wsF_succ]
    split
    · exact hl k
    · exact wsF_le hl k
end WORST
section MWO
variable {G : LG} {W : WG} {L : List WG} {B : Nat} {h : sm_H}
theorem m_worst_loop (hx : wfX G) (hB : B < 2 ^ 28) {N0 : Nat} (hN0 : N0 = cntB (itF G W (wSh W)) (gP G)) : ∀ (m k : Nat) (h1 : sm_H) (l4 : Value), k + m = gR G → mS h1 G W L B → mX h1 → eqx sxZ h h1 → ∃ h2, xe 9 251 17 [.ref 169, .int (wsF (ltN G W) k).2, .int (nI (N0 - (wsF (ltN G W) k).1)), .int (nI k), l4] [] h1 = some ([.int (wsF (ltN G W) (gR G)).2], h2) ∧ mS h2 G W L B ∧ mX h2 ∧ eqx sxZ h h2
  | 0, k, h1, l4, e, S, X, E => by
    have hR := S.1.2.1
    have : k = gR G := by omega
    subst this
    rw [b251_17]
    simp (disch := omega) only [in_170, if_true, nI_clamp, S.2.1.1.2.1]
    rw [if_pos (Int32.le_refl _), b251_100]
    exact ⟨h1, rfl, S, X, E⟩
  | m + 1, k, h1, l4, e, S, X, E => by
    have hw := S.1
    have hR := hw.2.1
    have hP := hw.2.2.1
    have hsh := S.2.2.2.1.1
    have hle : ∀ r, ltN G W r ≤ N0 := fun r => by
      have := cnt_split hw hx S.2.2.2.1 hB (r := r) (gP G) (Nat.le_refl _)
      unfold ltN
      omega
    have hmost := wsF_le hle k
    have hN6 : N0 ≤ 6 := by rw [hN0]; exact Nat.le_trans (cntB_le _ _) hP
    rw [b251_17]
    simp (disch := omega) only [in_170, if_true, nI_clamp, S.2.1.1.2.1]
    rw [if_neg (by rw [nI_leI (by omega) (by omega)]; omega), b251_27]
    simp (disch := omega) only [in_170, if_true, nI_clamp, S.2.2.1.1, m_isIn, bnd, app1, List.cons_append, List.nil_append]
    rw [b251_39]
    have ih := m_worst_loop hx hB hN0 m (k + 1)
    rw [wsF_succ] at ih
    by_cases q : wSh W / 2 ^ k % 2 = 1
    · rw [if_neg (by rw [bI_z]; exact fun z => z q), b251_42, b251_94, nI_add]
      rw [if_neg (by rw [ltN_shut q]; omega)] at ih
      exact ih _ _ (by omega) S X E
    · rw [if_pos (by rw [bI_z]; exact q), b251_45]
      simp (disch := omega) only [in_170, if_true, nI_clamp, S.2.2.1.1, shl1]
      rw [nx_xor, xor_or q]
      have hv : wSh W ||| 2 ^ k < 4096 := Nat.or_lt_two_pow (n := 12) hsh (Nat.pow_lt_pow_right (by decide) (by omega))
      have S1 := mS_shut S hv
      have X1 : mX (sm_si h1 170 88 (nI (wSh W ||| 2 ^ k))) := mX_of X (S := fun c i => c = 170 ∧ i = 88) (eqx.si (S := fun c i => c = 170 ∧ i = 88) eqx.rf ⟨rfl, rfl⟩) (fun c i z => by omega)
      obtain ⟨h2, e2, S2, X2, E2⟩ := m_inTimeSet S1 hx X1 hB
      rw [b251_58, e2, bnd]
      simp only [app1, List.cons_append, List.nil_append]
      have hlt := bsN_lt (itF G (sSh W (wSh W ||| 2 ^ k)) (wSh (sSh W (wSh W ||| 2 ^ k)))) (gP G)
      have h64 : 2 ^ gP G ≤ 64 := pow6 hP
      rw [b251_62, m_bitsOf (by omega), bnd]
      simp only [app1, List.cons_append, List.nil_append]
      rw [pcnt_bsN, show min 12 (gP G) = gP G by omega, show cntB (itF G (sSh W (wSh W ||| 2 ^ k)) (wSh (sSh W (wSh W ||| 2 ^ k)))) (gP G) = cntB (itF G W (wSh W ||| 2 ^ k)) (gP G) from rfl]
      have hsp := cnt_split hw hx S.2.2.2.1 hB (r := k) (gP G) (Nat.le_refl _)
      rw [show cntB (itF G W (wSh W ||| 2 ^ k)) (gP G) = N0 - ltN G W k by unfold ltN; omega]
      have g88 : sm_gi h2 170 88 = nI (wSh W ||| 2 ^ k) := (E2.1 170 88 (by unfold sxZ; omega)).trans gi_same
      have back : (wSh W ||| 2 ^ k) ^^^ 2 ^ k = wSh W := by rw [← xor_or q, Nat.xor_assoc, Nat.xor_self, Nat.xor_zero]
      rw [b251_65]
      simp (disch := omega) only [in_170, if_true, nI_clamp, g88, shl1]
      rw [nx_xor, back]
      have E3 : eqx sxZ h1 (sm_si h2 170 88 (nI (wSh W))) := eqx_tmp E2 S.2.2.1.1.symm
      have S3 := mS_Z S E3
      have X3 : mX (sm_si h2 170 88 (nI (wSh W))) := mX_of X2 (S := fun c i => c = 170 ∧ i = 88) (eqx.si (S := fun c i => c = 170 ∧ i = 88) eqx.rf ⟨rfl, rfl⟩) (fun c i z => by omega)
      have hk := hle k
      rw [b251_80]
      by_cases z : (wsF (ltN G W) k).1 < ltN G W k
      · rw [if_pos z] at ih
        rw [if_pos (by rw [nI_ltI (by omega) (by omega)]; omega), b251_89, b251_94, nI_add]
        exact ih _ _ (by omega) S3 X3 (E.tr E3)
      · rw [if_neg z] at ih
        rw [if_neg (by rw [nI_ltI (by omega) (by omega)]; omega), b251_86, b251_94, nI_add]
        exact ih _ _ (by omega) S3 X3 (E.tr E3)
theorem m_worst (S : mS h G W L B) (hx : wfX G) (X : mX h) (hB : B < 2 ^ 28) : ∃ h2, xc 251 [.ref 169] h = some ([.int (aWorst G W)], h2) ∧ mS h2 G W L B ∧ mX h2 ∧ eqx sxZ h h2 := by
  have hP := S.1.2.2.1
  have S0 := mS_thrown (v := nI 0) S
  have X0 := mX_thrown (v := nI 0) X
  rw [en_251, b251_0, b251_5]
  obtain ⟨h2, e2, S2, X2, E2⟩ := m_inTimeSet S0 hx X0 hB
  rw [e2, bnd]
  simp only [app1, List.cons_append, List.nil_append]
  have hlt := bsN_lt (itF G W (wSh W)) (gP G)
  have h64 : 2 ^ gP G ≤ 64 := pow6 hP
  rw [b251_11, m_bitsOf (by omega), bnd]
  simp only [app1, List.cons_append, List.nil_append]
  rw [pcnt_bsN, show min 12 (gP G) = gP G by omega, b251_14]
  exact m_worst_loop (h := h) hx hB rfl (gR G) 0 h2 .null (by omega) S2 X2 (Z_thrown E2)
end MWO
section CERR
variable {G : LG} {W : WG} {L : List WG} {B B' : Nat} {h : sm_H}
theorem c_hasToDo (S : cS h G W L B) {p : Nat} (hp : p < gP G) : xc 10 [.ref 113, .int (nI p)] h = some ([.int (bI (gGol G p ≠ none ∧ ¬ wRd W / 2 ^ p % 2 = 1))], h) := by
  have hw := S.1.1
  have hP := hw.2.2.1
  have hrd := S.2.2.1.2.1
  have g10 : sm_gi h 10 p = toI (gGol G p) := (S.1.2.2.1.2.2.1 p hp).2.1
  rw [en_10, b10_0, if_pos (in_c (by rw [ln_10]; omega) (by omega)), nI_clamp (by omega), g10]
  unfold bI
  by_cases q : gGol G p = none
  · rw [if_pos (by rw [q]; rfl), if_neg (fun z => z.1 q)]
    simp only [b10_31, b10_32, or01_0, if_true]
  · rw [if_neg (fun z => q ((toI_m1 (hw.gol hp)).mp z)), b10_13, show sm_gi h 18 4 = nI (wRd W) from S.2.1.2.1, shr1 (by omega) (by omega)]
    by_cases z : wRd W / 2 ^ p % 2 = 1
    · rw [if_neg (by rw [z]; decide +kernel), if_neg (fun y => y.2 z)]
      simp only [b10_31, b10_32, or01_0, if_true]
    · rw [if_pos (by rw [nI_z (by omega)]; omega), if_pos ⟨q, z⟩]
      simp only [b10_27, b10_32, or01_1, if_true]
theorem c_daysToWait (S : cS h G W L B) (hB : B < 2 ^ 28) {sh p pap : Nat} {D : Nat → Option (List Nat)} (Q : cQ h G sh none p false 1 (0, wBeen W p, pap, wAt W p)) (F : FS h G sh none p false (0, wBeen W p, pap, wAt W p) D) (hg : gGol G p ≠ none) : xc 11 [.ref 113, .int (nI p)] h = some ([.int (waI G W sh p pap)], h) := by
  have hw := S.1.1
  have hx := S.1.2.1
  have hP := hw.2.2.1
  have hp := Q.2.1
  have hN := hw.1.2
  have hwp := S.2.2.1.2.2.1 p hp
  have g10 : sm_gi h 10 p = toI (gGol G p) := (S.1.2.2.1.2.2.1 p hp).2.1
  have g11 : sm_gi h 11 p = gBy G p := (S.1.2.2.1.2.2.1 p hp).2.2
  have g20 : sm_gi h 20 p = nI (wDay W p) := (S.2.1.2.2.1 p hp).2.1
  unfold waI
  cases hgg : gGol G p with
  | none => exact absurd hgg hg
  | some g =>
    have hgN := (hw.2.2.2.2.1 p hp).2 g hgg
    rw [en_11, b11_0, if_pos (in_c (by rw [ln_10]; omega) (by omega)), nI_clamp (by omega), g10, hgg, show toI (some g) = nI g from rfl, c_daysTo Q F hgN, bnd]
    simp only [app1, List.cons_append, List.nil_append]
    rw [b11_16]
    cases hb : bW G sh none p (0, wBeen W p, pap, wAt W p) 0 g with
    | none => rw [show dyI G none = -1 from rfl, if_pos rfl, b11_22]
    | some w =>
      have hd := bW_days hw hx Q.2.2.1.1 rfl hb
      rw [show dyI G (some w) = nI (dys (gLon G) w) from rfl, if_neg (by rw [nI_m1 (by omega)]; exact id), b11_24, if_pos (in_c (by rw [ln_11]; omega) (by omega)), if_pos (in_c (by rw [ln_20]; omega) (by omega)), nI_clamp (by omega), g11, g20, c_max, bnd]
      simp only [app1, List.cons_append, List.nil_append]
      rw [b11_49]
      have hv := wait_v (b := gBy G p) (d := wDay W p) (e := dys (gLon G) w) (by_b hx hp) (by omega) (by omega)
      by_cases z : 0 ≤ gBy G p - nI (wDay W p) - nI (dys (gLon G) w)
      · rw [if_pos z, if_pos (by
          rw [Int32.le_iff_toInt_le] at z
          rw [Int32.lt_iff_toInt_lt]
          have z' : (0 : Int) ≤ _ := z
          show (-1 : Int) < _
          omega)]
      · rw [if_neg z, if_neg (by
          rw [Int32.le_iff_toInt_le] at z
          rw [Int32.lt_iff_toInt_lt]
          have z' : ¬ (0 : Int) ≤ _ := z
          show ¬ (-1 : Int) < _
          omega)]
theorem c_spare (hB2 : B < 2 ^ 28) (hB : B' < 2 ^ 28) {p : Int32} (S : cS h G W L B) (I : cI h B') : ∃ h2, xc 127 [.ref 0, .int p] h = some ([.int (aSpare G W p)], h2) ∧ cS h2 G W L B ∧ cI h2 (B' + 1) ∧ eqx sxW h h2 := by
  have hw := S.1.1
  have hN := hw.1.2
  have hP := hw.2.2.1
  have hR := hw.2.1
  unfold aSpare
  rw [en_127, b127_0, c_hasPerson isD2 S.1.2.2.1.1.2.2.1 (by omega), bnd]
  simp only [app1, List.cons_append, List.nil_append]
  rw [b127_8]
  by_cases h1 : isN p.toInt64 (gP G)
  · rw [if_neg (by rw [bI_z]; exact fun z => z h1), if_pos h1]
    obtain ⟨j, hj, rfl⟩ := isN_nI h1 (by omega)
    rw [toN_nI (by omega)]
    rw [b127_14, c_hasToDo S hj, bnd]
    simp only [app1, List.cons_append, List.nil_append]
    rw [b127_22]
    by_cases q : gGol G j = none ∨ wRd W / 2 ^ j % 2 = 1
    · rw [if_pos (by rw [bI_z]; exact fun z => q.elim z.1 z.2), if_pos q, b127_25]
      exact ⟨h, rfl, S, I.mono (by omega), eqx.rf⟩
    · rw [if_neg (by rw [bI_z]; exact fun z => z ⟨fun y => q (Or.inl y), fun y => q (Or.inr y)⟩), if_neg q, b127_28]
      obtain ⟨D, h2, e2, F2, Q2, S2, I2, E2⟩ := c_seek S I (by omega) hj
      rw [e2, bnd]
      simp only [List.nil_append]
      rw [b127_36, c_daysToWait S2 hB2 Q2 F2 (fun y => q (Or.inl y)), bnd]
      simp only [app1, List.cons_append, List.nil_append]
      rw [b127_44]
      exact ⟨h2, rfl, S2, I2, E2⟩
  · rw [if_pos (by rw [bI_z]; exact h1), if_neg h1, b127_11]
    exact ⟨h, rfl, S, I.mono (by omega), eqx.rf⟩
theorem rd_lt (hww : wfW G B W) : wRd W < 2 ^ gP G := by
  apply Nat.lt_pow_two_of_testBit
  intro i hi
  rw [Nat.testBit_eq_decide_div_mod_eq]
  refine decide_eq_false (fun z => ?_)
  by_cases q : i < 6
  · have := (hww.2.2.2.2 i q z).1
    omega
  · have h1 := hww.2.1
    have h2 : 2 ^ 6 ≤ 2 ^ i := Nat.pow_le_pow_right (by decide) (by omega)
    rw [Nat.div_eq_of_lt (by omega)] at z
    omega
/-- the roads used, of people below k -/
def cU (h : sm_H) (G : LG) (W : WG) (k : Nat) : Prop := ∀ q, q < 6 → ∃ u, sm_gi h 115 q = nI u ∧ u < 4096 ∧ ∀ r, u / 2 ^ r % 2 = 1 ↔ (q < k ∧ r ∈ usW G W q)
theorem in_115 {n : Nat} (hn : n < 6) : sm_in 115 (nI n) ↔ True := in_ln (by omega) (by rw [ln_115]; exact hn)
theorem cU_eqx {S : Nat → Nat → Prop} {h h2 : sm_H} {k : Nat} (U : cU h G W k) (E : eqx S h h2) (hS : ∀ c i, S c i → c ≠ 115) : cU h2 G W k := fun q hq => by
  obtain ⟨u, a, b⟩ := U q hq
  exact ⟨u, (E.1 115 q (fun z => hS _ _ z rfl)).trans a, b⟩
theorem c_timely_loop (hB2 : B < 2 ^ 28) (hB : B' < 2 ^ 28) : ∀ (m k b : Nat) (h1 : sm_H), k + m = gP G → b < 2 ^ gP G → (∀ q, b / 2 ^ q % 2 = 1 ↔ (wRd W / 2 ^ q % 2 = 1 ∨ (q < k ∧ itF G W (wSh W) q = true))) → cU h1 G W k → cS h1 G W L B → cI h1 (B' + k) → eqx sxW h h1 →
    ∃ h2, xe 7 12 18 [.ref 113, .int (nI b), .int (nI k)] [] h1 = some ([.int (nI (bsN (itF G W (wSh W)) (gP G)))], h2) ∧ cU h2 G W (gP G) ∧ cS h2 G W L B ∧ cI h2 (B' + 6) ∧ eqx sxW h h2
  | 0, k, b, h1, e, hb, hbit, U, S, I, E => by
    have hP := S.1.1.2.2.1
    have : k = gP G := by omega
    subst this
    rw [b12_18, show sm_gi h1 2 3 = nI (gP G) from S.1.2.2.1.1.2.2.1, if_pos (Int32.le_refl _), b12_99]
    refine ⟨h1, ?_, U, S, I.mono (by omega), E⟩
    rw [bsN_uniq (gP G) hb (fun q hq => ?_)]
    rw [hbit]
    constructor
    · rintro (z | z)
      · have := S.2.2.1.2.2.2.2 q (by omega) z
        exact decide_eq_true ⟨hq, this.2, Or.inl z⟩
      · exact z.2
    · intro z
      exact Or.inr ⟨hq, z⟩
  | m + 1, k, b, h1, e, hb, hbit, U, S, I, E => by
    have hw := S.1.1
    have hx := S.1.2.1
    have hP := hw.2.2.1
    have hk : k < gP G := by omega
    have hwp := S.2.2.1.2.2.1 k hk
    have h64 : 2 ^ gP G ≤ 64 := pow6 hP
    rw [b12_18, show sm_gi h1 2 3 = nI (gP G) from S.1.2.2.1.1.2.2.1, if_neg (by rw [nI_leI (by omega) (by omega)]; omega), b12_29, c_hasToDo S hk, bnd]
    simp only [app1, List.cons_append, List.nil_append]
    rw [b12_34]
    -- passed over
    have skip : usW G W k = [] → (itF G W (wSh W) k = true → wRd W / 2 ^ k % 2 = 1) → ∀ h2, cU h2 G W k → cS h2 G W L B → cI h2 (B' + (k + 1)) → eqx sxW h h2 → ∃ h3, xe 7 12 93 [.ref 113, .int (nI b), .int (nI k)] [] h2 = some ([.int (nI (bsN (itF G W (wSh W)) (gP G)))], h3) ∧ cU h3 G W (gP G) ∧ cS h3 G W L B ∧ cI h3 (B' + 6) ∧ eqx sxW h h3 := by
      intro hu hit h2 U2 S2 I2 E2
      rw [b12_93, nI_add]
      refine c_timely_loop hB2 hB m (k + 1) b h2 (by omega) hb (fun q => ?_) (fun q hq => ?_) S2 I2 E2
      · rw [hbit]
        constructor
        · rintro (z | ⟨z1, z2⟩)
          · exact Or.inl z
          · exact Or.inr ⟨by omega, z2⟩
        · rintro (z | ⟨z1, z2⟩)
          · exact Or.inl z
          · by_cases y : q = k
            · subst y; exact Or.inl (hit z2)
            · exact Or.inr ⟨by omega, z2⟩
      · obtain ⟨u, a, c, d⟩ := U2 q hq
        refine ⟨u, a, c, fun r => ?_⟩
        rw [d]
        constructor
        · rintro ⟨z1, z2⟩; exact ⟨by omega, z2⟩
        · rintro ⟨z1, z2⟩
          by_cases y : q = k
          · subst y; rw [hu] at z2; simp at z2
          · exact ⟨by omega, z2⟩
    by_cases q : gGol G k ≠ none ∧ ¬ wRd W / 2 ^ k % 2 = 1
    · rw [if_neg (by rw [bI_z]; exact fun z => z q), b12_37]
      obtain ⟨h2, e2, Q2, S2, E2⟩ := c_startAt S hk
      obtain ⟨D, h3, e3, F3, Q3, I3, E3⟩ := c_spread Q2 (cI_A4 I E2) (by omega)
      rw [e2, bnd]
      simp only [List.nil_append]
      rw [b12_49, e3, bnd]
      simp only [List.nil_append]
      have E23 : eqx sxW h1 h3 := (E2.wk sxA4_W).tr (E3.wk sxH_W)
      have S3 := cS_W S Q3.1 E23
      have U3 : cU h3 G W k := cU_eqx (cU_eqx U E2 (fun c i z => by unfold sxA4 at z; omega)) E3 (fun c i z => by unfold sxH at z; omega)
      rw [b12_56, c_daysToWait S3 hB2 Q3 F3 q.1, bnd]
      simp only [app1, List.cons_append, List.nil_append]
      rw [b12_61]
      have hm1 := waI_m1 (sh := wSh W) (pap := wPap W k) hw hx S.2.2.1 (show B < 2 ^ 29 by omega) hk hwp.2.2.1
      by_cases z : waI G W (wSh W) k (wPap W k) = -1
      · rw [if_pos z]
        have ht := hm1.mp z
        refine skip ?_ ?_ h3 U3 S3 I3 (E.tr E23)
        · unfold usW
          rw [if_neg (fun y => by rw [ht] at y; exact absurd y.2.2.2 (by decide))]
        · intro y
          obtain ⟨-, -, y3⟩ := of_decide_eq_true y
          exact y3.resolve_right (fun y4 => by rw [ht] at y4; cases y4)
      · rw [if_neg z, b12_65]
        have ht : tmB G W (wSh W) k (wPap W k) = true := by
          cases hc : tmB G W (wSh W) k (wPap W k) with
          | false => exact absurd (hm1.mpr hc) z
          | true => rfl
        cases hgg : gGol G k with
        | none => exact absurd hgg q.1
        | some g =>
          have hgN := (hw.2.2.2.2.1 k hk).2 g hgg
          have hN := hw.1.2
          have g10 : sm_gi h3 10 k = nI g := by
            rw [show sm_gi h3 10 k = toI (gGol G k) from (S3.1.2.2.1.2.2.1 k hk).2.1, hgg]; rfl
          rw [if_pos (in_c (by rw [ln_10]; omega) (by omega)), nI_clamp (by omega), g10]
          obtain ⟨u, h4, e4, hu4, hub, E4⟩ := c_roadsTo Q3 F3 hgN
          rw [e4, bnd, shl1 (by omega), fa_or]
          simp only [app1, List.cons_append, List.nil_append]
          rw [b12_92]
          simp (disch := omega) only [in_115, if_true, nI_clamp]
          rw [b12_93, nI_add]
          have hus : usW G W k = (bW G (wSh W) none k (xS W k) 0 g).getD [] := by
            unfold usW
            rw [if_pos ⟨hk, q.1, q.2, ht⟩, hgg]
            rfl
          have E5 : eqx sxW h4 (sm_si h4 115 k (nI u)) := eqx.rf.si (by unfold sxW; omega)
          have cE5 : cE (sm_si h4 115 k (nI u)) G := cE_eqx (cE_J Q3.1 E4) (S := fun c _ => c = 115) (eqx.si (S := fun c _ => c = 115) eqx.rf rfl) (fun c i z => by omega)
          have E35 : eqx sxW h3 (sm_si h4 115 k (nI u)) := (E4.wk sxJ_W).tr E5
          refine c_timely_loop hB2 hB m (k + 1) _ _ (by omega) (Nat.or_lt_two_pow hb (Nat.pow_lt_pow_right (by decide) hk)) (fun q' => ?_) (fun q' hq' => ?_) (cS_W S3 cE5 E35) (cI_eqx (cI_J I3 E4) (S := fun c _ => c = 115) (eqx.si (S := fun c _ => c = 115) eqx.rf rfl) (fun c i z => by omega)) ((E.tr E23).tr E35)
          · rw [or_bit, hbit]
            constructor
            · rintro ((y | ⟨y1, y2⟩) | y)
              · exact Or.inl y
              · exact Or.inr ⟨by omega, y2⟩
              · subst y; exact Or.inr ⟨by omega, decide_eq_true ⟨hk, q.1, Or.inr ht⟩⟩
            · rintro (y | ⟨y1, y2⟩)
              · exact Or.inl (Or.inl y)
              · by_cases y3 : q' = k
                · exact Or.inr y3
                · exact Or.inl (Or.inr ⟨by omega, y2⟩)
          · by_cases y : q' = k
            · subst y
              refine ⟨u, gi_same, hu4, fun r => ?_⟩
              rw [hub, hus]
              exact ⟨fun y => ⟨by omega, y⟩, fun y => y.2⟩
            · obtain ⟨u', a, c, d⟩ := U3 q' hq'
              refine ⟨u', by rw [gi_slot y, E4.1 115 q' (by unfold sxJ; omega)]; exact a, c, fun r => ?_⟩
              rw [d]
              exact ⟨fun y2 => ⟨by omega, y2.2⟩, fun y2 => ⟨by omega, y2.2⟩⟩
    · rw [if_pos (by rw [bI_z]; exact q)]
      refine skip ?_ ?_ h1 U S (I.mono (by omega)) E
      · unfold usW
        rw [if_neg (fun y => q ⟨y.2.1, y.2.2.1⟩)]
      · intro y
        obtain ⟨-, y2, -⟩ := of_decide_eq_true y
        rcases Classical.em (wRd W / 2 ^ k % 2 = 1) with y3 | y3
        · exact y3
        · exact absurd ⟨y2, y3⟩ q
theorem c_timely (hB2 : B < 2 ^ 28) (hB : B' < 2 ^ 28) (S : cS h G W L B) (I : cI h B') : ∃ h2, xc 12 [.ref 113] h = some ([.int (aTime G W)], h2) ∧ cU h2 G W (gP G) ∧ cS h2 G W L B ∧ cI h2 (B' + 6) ∧ eqx sxW h h2 := by
  obtain ⟨h1, e1, f1, E1⟩ := c_fill (a := 115) (v := nI 0) (h := h) kd_115 ln_115 (by decide)
  rw [en_12, b12_0, e1, bnd]
  simp only [List.nil_append]
  have E1' : eqx sxW h h1 := E1.wk (fun c i z => by unfold sxW; omega)
  have S1 := cS_W S (cE_eqx S.1 E1 (fun c i z => by omega)) E1'
  rw [b12_16, show sm_gi h 18 4 = nI (wRd W) from S.2.1.2.1]
  exact c_timely_loop (h := h) hB2 hB (gP G) 0 (wRd W) h1 (by omega) (rd_lt S.2.2.1) (fun q => ⟨Or.inl, fun z => z.elim id (fun y => by omega)⟩) (fun q hq => ⟨0, f1 q hq, by decide, fun r => by rw [Nat.zero_div]; exact iff_of_false (by decide) (fun z => by omega)⟩) S1 (cI_eqx I E1 (fun c i z => by omega)) E1'
theorem c_inTime (hB2 : B < 2 ^ 28) (hB : B' < 2 ^ 28) (S : cS h G W L B) (I : cI h B') : ∃ h2, xc 126 [.ref 0] h = some ([.int (aTime G W)], h2) ∧ cS h2 G W L B ∧ cI h2 (B' + 6) ∧ eqx sxW h h2 := by
  obtain ⟨h2, e2, -, S2, I2, E2⟩ := c_timely hB2 hB S I
  rw [en_126, b126_0, e2, bnd]
  simp only [app1, List.cons_append, List.nil_append]
  rw [b126_7]
  exact ⟨h2, rfl, S2, I2, E2⟩
end CERR
