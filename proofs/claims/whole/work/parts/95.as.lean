/-! ===== fits, shoes, sure: the model ===== -/
def srF (f : Nat → Bool) : Nat → Option Nat
  | 0 => none
  | k + 1 => if f k = true then (match srF f k with | none => some k | some x => some (x &&& k)) else srF f k
theorem srF_succ {f : Nat → Bool} {k : Nat} : srF f (k + 1) = if f k = true then (match srF f k with | none => some k | some x => some (x &&& k)) else srF f k := rfl
def srI : Option Nat → Int32
  | none => -1
  | some x => nI x
def sr0 : Option Nat → Int32
  | none => nI 0
  | some x => nI x
theorem srF_lt {f : Nat → Bool} : ∀ k x, srF f k = some x → x < k
  | 0, x, h => by cases h
  | k + 1, x, h => by
    rw [srF_succ] at h
    split at h
    · cases hm : srF f k with
      | none => rw [hm] at h; cases h; omega
      | some y =>
        rw [hm] at h
        have := srF_lt k y hm
        have h2 : y &&& k ≤ k := Nat.and_le_right
        cases h
        omega
    · have := srF_lt k x h
      omega
theorem and_m1 (x : Int32) : x &&& -1 = x := by
  apply Int32.toBitVec_inj.mp
  show x.toBitVec &&& BitVec.allOnes 32 = x.toBitVec
  exact BitVec.and_allOnes
theorem m1_and (x : Int32) : -1 &&& x = x := by
  apply Int32.toBitVec_inj.mp
  show BitVec.allOnes 32 &&& x.toBitVec = x.toBitVec
  exact BitVec.allOnes_and
noncomputable def aShoes (G : LG) (W : WG) (T : TG) (t p : Int32) : Int32 := if nA G T t p = 0 then nI (cntB (fitB G W (toN p) ((T (toN t)).getD (0, [])).2) (2 ^ gN G)) else nA G T t p
noncomputable def aSure (G : LG) (W : WG) (T : TG) (t p : Int32) : Int32 := if nA G T t p = 0 then sr0 (srF (fitB G W (toN p) ((T (toN t)).getD (0, [])).2) (2 ^ gN G)) else nA G T t p
/-- answers that can be -/
def nAz (G : LG) (T : TG) (t p : Int32) : Prop := ∃ t' p' q, t' < 4 ∧ p' < gP G ∧ t = nI t' ∧ p = nI p' ∧ T t' = some q ∧ 1 ≤ q.2.length ∧ q.2.length ≤ 12 ∧ ∀ k, k < q.2.length → ansO G (q.2.getD k 0)
theorem nA_z {G : LG} {T : TG} {t p : Int32} (hP : gP G ≤ 6) (h : nA G T t p = 0) : nAz G T t p := by
  unfold nA at h
  by_cases hc : isN t.toInt64 4 ∧ isN p.toInt64 (gP G)
  · rw [if_pos hc] at h
    obtain ⟨t', ht, rfl⟩ := isN_nI hc.1 (by omega)
    obtain ⟨p', hp, rfl⟩ := isN_nI hc.2 (by omega)
    rw [toN_nI (by omega)] at h
    cases hq : T t' with
    | none => rw [hq] at h; exact absurd (show (-6 : Int32) = 0 from h) (by decide)
    | some q =>
      rw [hq] at h
      dsimp only at h
      by_cases h1 : 1 ≤ q.2.length ∧ q.2.length ≤ 12
      · rw [if_pos h1] at h
        by_cases h2 : ∀ k, k < q.2.length → ansO G (q.2.getD k 0)
        · exact ⟨t', p', q, ht, hp, rfl, rfl, hq, h1.1, h1.2, h2⟩
        · rw [if_neg h2] at h; exact absurd h (by decide)
      · rw [if_neg h1] at h; exact absurd h (by decide)
  · rw [if_neg hc] at h; exact absurd h (by decide)
section FIT
variable {G : LG} {W : WG} {L : List WG} {B : Nat} {h : sm_H} {T : TG}
theorem sxL_Z' : ∀ c i, sxL c i → sxZ c i := fun c i z => by unfold sxL at z; unfold sxZ; omega
theorem m_fits_loop {t p b : Nat} {q : Nat × List Int64} (ht : t < 4) (hp : p < gP G) (hb : b < 2 ^ 31) (hq : T t = some q) (ha : ∀ k, k < q.2.length → ansO G (q.2.getD k 0)) : ∀ (m k : Nat) (h1 : sm_H) (l5 : Value), k + m = q.2.length → mS h1 G W L B → mT h1 T → eqx sxL h h1 → ∃ h2, xe 5 262 39 [.ref 169, .int (nI t), .int (nI p), .int (nI b), .int (nI k), l5] [] h1 = some ([.int (bI (allF (fun k => okA G W p b (ansN (q.2.getD k 0))) m k = true))], h2) ∧ eqx sxL h h2
  | 0, k, h1, l5, e, S, hT, E => by
    have : k = q.2.length := by omega
    subst this
    have H := hT t ht
    rw [hq] at H
    have hl := H.2.2.2.1
    rw [b262_39]
    simp (disch := omega) only [in_185, if_true, nI_clamp, H.2.2.1]
    rw [if_pos (Int32.le_refl _), b262_109]
    exact ⟨h1, rfl, E⟩
  | m + 1, k, h1, l5, e, S, hT, E => by
    have H := hT t ht
    rw [hq] at H
    have hl := H.2.2.2.1
    have hR := S.1.2.1
    obtain ⟨n, hn, hv, hbr, hs, hr⟩ := ha k (by omega)
    have gk := H.2.2.2.2 k (by omega)
    rw [hv] at gk
    have hn2 : ansN (q.2.getD k 0) = n := by rw [hv]; exact ansN_l (by omega)
    rw [b262_39]
    simp (disch := omega) only [in_185, if_true, nI_clamp, H.2.2.1]
    rw [if_neg (by rw [nI_leI (by omega) (by omega)]; omega), b262_50, pk_mul, nI_add]
    simp (disch := omega) only [in_186, if_true, nI_clamp, gk]
    obtain ⟨h2, e2, E2⟩ := m_isLet (s := n / 10 % 10) (b := b) S hp (show n / 100 < gR G by omega) hs hb
    rw [lN_i, pk_div (by omega) (by decide) (by decide), pk_div (by omega) (by decide) (by decide), pk_rem (by omega) (by decide) (by decide), e2, bnd]
    simp only [app1, List.cons_append, List.nil_append]
    rw [b262_84, pk_rem (by omega) (by decide) (by decide)]
    have S2 := mS_Z S (E2.wk sxL_Z')
    have T2 := mT_eqx hT E2 (fun c i a b z => by unfold sxL at z; omega)
    have hok : okA G W p b (ansN (q.2.getD k 0)) = (ltA G W p (n / 100) (n / 10 % 10) b == decide (n % 10 = 1)) := by rw [hn2]; rfl
    rw [show allF (fun k => okA G W p b (ansN (q.2.getD k 0))) (m + 1) k = (okA G W p b (ansN (q.2.getD k 0)) && allF (fun k => okA G W p b (ansN (q.2.getD k 0))) m (k + 1)) from rfl, hok]
    have ih := m_fits_loop ht hp hb hq ha m (k + 1) h2
    cases hlt : ltA G W p (n / 100) (n / 10 % 10) b with
    | true =>
      by_cases z : n % 10 = 1
      · rw [if_pos (by rw [z]), b262_93, b262_98, if_pos (by decide), b262_103, nI_add]
        rw [show ((true == decide (n % 10 = 1)) && allF (fun k => okA G W p b (ansN (q.2.getD k 0))) m (k + 1)) = allF (fun k => okA G W p b (ansN (q.2.getD k 0))) m (k + 1) by rw [decide_eq_true z]; rfl]
        exact ih _ (by omega) S2 T2 (E.tr E2)
      · rw [if_neg (by rw [nI_eq (by omega) (by decide)]; exact z), b262_97, b262_98, if_neg (by decide), b262_101]
        rw [show ((true == decide (n % 10 = 1)) && allF (fun k => okA G W p b (ansN (q.2.getD k 0))) m (k + 1)) = false by rw [decide_eq_false z]; rfl]
        exact ⟨h2, rfl, E.tr E2⟩
    | false =>
      by_cases z : n % 10 = 1
      · rw [if_pos (by rw [z]), b262_93, b262_98, if_neg (by decide), b262_101]
        rw [show ((false == decide (n % 10 = 1)) && allF (fun k => okA G W p b (ansN (q.2.getD k 0))) m (k + 1)) = false by rw [decide_eq_true z]; rfl]
        exact ⟨h2, rfl, E.tr E2⟩
      · rw [if_neg (by rw [nI_eq (by omega) (by decide)]; exact z), b262_97, b262_98, if_pos (by decide), b262_103, nI_add]
        rw [show ((false == decide (n % 10 = 1)) && allF (fun k => okA G W p b (ansN (q.2.getD k 0))) m (k + 1)) = allF (fun k => okA G W p b (ansN (q.2.getD k 0))) m (k + 1) by rw [decide_eq_false z]; rfl]
        exact ih _ (by omega) S2 T2 (E.tr E2)
theorem m_fits {t p b : Nat} {q : Nat × List Int64} (S : mS h G W L B) (hT : mT h T) (ht : t < 4) (hp : p < gP G) (hb : b < 2 ^ 31) (hq : T t = some q) (ha : ∀ k, k < q.2.length → ansO G (q.2.getD k 0)) : ∃ h2, xc 262 [.ref 169, .int (nI t), .int (nI p), .int (nI b)] h = some ([.int (bI (fitB G W p q.2 b = true))], h2) ∧ eqx sxL h h2 := by
  have hw := S.1
  have hP := hw.2.2.1
  have hN := hw.1.2
  obtain ⟨a1, a2, a3, a4, a5, a6⟩ := mS_at S hp
  have hbo := (hw.2.2.2.2.1 p hp).1
  have g70 : sm_gi h 170 (70 + p) = nI (gBor G p) := (S.2.1.2.2.1 p hp).1
  rw [en_262, b262_0]
  simp (disch := omega) only [nI_add, in_170, if_true, nI_clamp, g70]
  rw [m_isIn (by omega) (by omega), bnd]
  simp only [app1, List.cons_append, List.nil_append]
  rw [b262_14]
  unfold fitB
  by_cases z1 : b / 2 ^ gBor G p % 2 = 1
  · rw [if_neg (by rw [bI_z]; exact fun z => z z1), decide_eq_true z1, Bool.true_and, b262_17]
    simp (disch := omega) only [nI_add, in_170, if_true, nI_clamp, a1]
    rw [m_isIn (by omega) (by omega), bnd]
    simp only [app1, List.cons_append, List.nil_append]
    rw [b262_31]
    by_cases z2 : b / 2 ^ wAt W p % 2 = 1
    · rw [if_neg (by rw [bI_z]; exact fun z => z z2), decide_eq_true z2, Bool.true_and, b262_36]
      exact m_fits_loop ht hp hb hq ha q.2.length 0 h _ (by omega) S hT eqx.rf
    · rw [if_pos (by rw [bI_z]; exact z2), decide_eq_false z2, Bool.false_and, b262_34]
      exact ⟨h, rfl, eqx.rf⟩
  · rw [if_pos (by rw [bI_z]; exact z1), decide_eq_false z1, Bool.false_and, b262_34]
    exact ⟨h, rfl, eqx.rf⟩
theorem m_shoes_loop {t p : Nat} {l3 : Int32} {q : Nat × List Int64} (ht : t < 4) (hp : p < gP G) (hq : T t = some q) (ha : ∀ k, k < q.2.length → ansO G (q.2.getD k 0)) : ∀ (m k : Nat) (h1 : sm_H), k + m = 2 ^ gN G → mS h1 G W L B → mT h1 T → eqx sxL h h1 → ∃ h2, xe 6 263 24 [.ref 169, .int (nI t), .int (nI p), .int l3, .int (nI (cntB (fitB G W p q.2) k)), .int (nI k)] [] h1 = some ([.int (nI (cntB (fitB G W p q.2) (2 ^ gN G)))], h2) ∧ eqx sxL h h2
  | 0, k, h1, e, S, hT, E => by
    have hN := S.1.1.2
    have h64 := pow6 hN
    have : k = 2 ^ gN G := by omega
    subst this
    rw [b263_24]
    simp (disch := omega) only [in_170, if_true, nI_clamp, S.2.1.1.1]
    rw [shl1 (by omega), if_pos (Int32.le_refl _), b263_64]
    exact ⟨h1, rfl, E⟩
  | m + 1, k, h1, e, S, hT, E => by
    have hN := S.1.1.2
    have h64 := pow6 hN
    rw [b263_24]
    simp (disch := omega) only [in_170, if_true, nI_clamp, S.2.1.1.1]
    obtain ⟨h2, e2, E2⟩ := m_fits (b := k) S hT ht hp (by omega) hq ha
    rw [shl1 (by omega), if_neg (by rw [nI_leI (by omega) (by omega)]; omega), b263_37, e2, bnd]
    simp only [app1, List.cons_append, List.nil_append]
    rw [b263_47]
    have S2 := mS_Z S (E2.wk sxL_Z')
    have T2 := mT_eqx hT E2 (fun c i a b z => by unfold sxL at z; omega)
    have ih := m_shoes_loop (l3 := l3) ht hp hq ha m (k + 1) h2 (by omega) S2 T2 (E.tr E2)
    rw [cntB_succ] at ih
    by_cases z : fitB G W p q.2 k = true
    · rw [if_pos z] at ih
      rw [if_neg (by rw [bI_z]; exact fun y => y z), b263_50, b263_55, nI_add, nI_add]
      exact ih
    · rw [if_neg z] at ih
      rw [if_pos (by rw [bI_z]; exact z), b263_54, b263_55, nI_add, nI_add]
      exact ih
theorem m_shoes {t p : Int32} (S : mS h G W L B) (hT : mT h T) : ∃ h2, xc 263 [.ref 169, .int t, .int p] h = some ([.int (aShoes G W T t p)], h2) ∧ eqx sxZ h h2 := by
  have S0 := mS_thrown (v := nI 0) S
  have hP := S.1.2.2.1
  have T0 : mT (sm_si h 169 0 (nI 0)) T := mT_eqx hT (S := fun c _ => c = 169) (eqx.si (S := fun c _ => c = 169) eqx.rf rfl) (fun c i a b z => by omega)
  rw [en_263, b263_0, b263_5, m_noAnswers S0 T0, bnd]
  simp only [app1, List.cons_append, List.nil_append]
  rw [b263_11]
  unfold aShoes
  by_cases z : nA G T t p = 0
  · rw [if_pos z, if_pos z, b263_18, z]
    obtain ⟨t, p, q, ht, hp, rfl, rfl, hq, -, -, ha⟩ := nA_z hP z
    rw [toN_nI (by omega), toN_nI (by omega), hq]
    obtain ⟨h2, e2, E2⟩ := m_shoes_loop (l3 := 0) (h := sm_si h 169 0 (nI 0)) ht hp hq ha (2 ^ gN G) 0 _ (by omega) S0 T0 eqx.rf
    exact ⟨h2, e2, Z_thrown (E2.wk sxL_Z')⟩
  · rw [if_neg z, if_neg z, b263_16]
    exact ⟨_, rfl, Z_thrown eqx.rf⟩
theorem m_sure_loop {t p : Nat} {l3 : Int32} {q : Nat × List Int64} (ht : t < 4) (hp : p < gP G) (hq : T t = some q) (ha : ∀ k, k < q.2.length → ansO G (q.2.getD k 0)) : ∀ (m k : Nat) (h1 : sm_H), k + m = 2 ^ gN G → mS h1 G W L B → mT h1 T → eqx sxL h h1 → ∃ h2, xe 6 264 24 [.ref 169, .int (nI t), .int (nI p), .int l3, .int (srI (srF (fitB G W p q.2) k)), .int (nI k)] [] h1 = some ([.int (sr0 (srF (fitB G W p q.2) (2 ^ gN G)))], h2) ∧ eqx sxL h h2
  | 0, k, h1, e, S, hT, E => by
    have hN := S.1.1.2
    have h64 := pow6 hN
    have : k = 2 ^ gN G := by omega
    subst this
    rw [b264_24]
    simp (disch := omega) only [in_170, if_true, nI_clamp, S.2.1.1.1]
    rw [shl1 (by omega), if_pos (Int32.le_refl _), b264_65]
    cases hx : srF (fitB G W p q.2) (2 ^ gN G) with
    | none =>
      rw [show srI none = -1 from rfl, if_pos rfl, b264_71, b264_77]
      exact ⟨h1, rfl, E⟩
    | some x =>
      have := srF_lt _ _ hx
      rw [show srI (some x) = nI x from rfl, if_neg (by rw [nI_m1 (by omega)]; exact id), b264_75, b264_77]
      exact ⟨h1, rfl, E⟩
  | m + 1, k, h1, e, S, hT, E => by
    have hN := S.1.1.2
    have h64 := pow6 hN
    rw [b264_24]
    simp (disch := omega) only [in_170, if_true, nI_clamp, S.2.1.1.1]
    obtain ⟨h2, e2, E2⟩ := m_fits (b := k) S hT ht hp (by omega) hq ha
    rw [shl1 (by omega), if_neg (by rw [nI_leI (by omega) (by omega)]; omega), b264_37, e2, bnd]
    simp only [app1, List.cons_append, List.nil_append]
    rw [b264_47]
    have S2 := mS_Z S (E2.wk sxL_Z')
    have T2 := mT_eqx hT E2 (fun c i a b z => by unfold sxL at z; omega)
    have ih := m_sure_loop (l3 := l3) ht hp hq ha m (k + 1) h2 (by omega) S2 T2 (E.tr E2)
    rw [srF_succ] at ih
    by_cases z : fitB G W p q.2 k = true
    · rw [if_pos z] at ih
      rw [if_neg (by rw [bI_z]; exact fun y => y z), b264_50, b264_56, nI_add]
      cases hx : srF (fitB G W p q.2) k with
      | none =>
        rw [hx] at ih
        rw [show srI none = -1 from rfl, m1_and]
        exact ih
      | some x =>
        rw [hx] at ih
        rw [show srI (some x) = nI x from rfl, fa_and]
        exact ih
    · rw [if_neg z] at ih
      rw [if_pos (by rw [bI_z]; exact z), b264_55, b264_56, nI_add, and_m1]
      exact ih
theorem m_sure {t p : Int32} (S : mS h G W L B) (hT : mT h T) : ∃ h2, xc 264 [.ref 169, .int t, .int p] h = some ([.int (aSure G W T t p)], h2) ∧ eqx sxZ h h2 := by
  have S0 := mS_thrown (v := nI 0) S
  have hP := S.1.2.2.1
  have T0 : mT (sm_si h 169 0 (nI 0)) T := mT_eqx hT (S := fun c _ => c = 169) (eqx.si (S := fun c _ => c = 169) eqx.rf rfl) (fun c i a b z => by omega)
  rw [en_264, b264_0, b264_5, m_noAnswers S0 T0, bnd]
  simp only [app1, List.cons_append, List.nil_append]
  rw [b264_11]
  unfold aSure
  by_cases z : nA G T t p = 0
  · rw [if_pos z, if_pos z, b264_18, z]
    obtain ⟨t, p, q, ht, hp, rfl, rfl, hq, -, -, ha⟩ := nA_z hP z
    rw [toN_nI (by omega), toN_nI (by omega), hq]
    obtain ⟨h2, e2, E2⟩ := m_sure_loop (l3 := 0) (h := sm_si h 169 0 (nI 0)) ht hp hq ha (2 ^ gN G) 0 _ (by omega) S0 T0 eqx.rf
    exact ⟨h2, e2, Z_thrown (E2.wk sxL_Z')⟩
  · rw [if_neg z, if_neg z, b264_16]
    exact ⟨_, rfl, Z_thrown eqx.rf⟩
end FIT
