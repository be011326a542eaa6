/-! ===== where it has been: the model ===== -/
def ansO (G : LG) (v : Int64) : Prop := ∃ n, n < 100 * gR G ∧ v = lN n ∧ gBri G (n / 100) = true ∧ n / 10 % 10 < 2 ∧ n % 10 < 2
noncomputable def nA (G : LG) (T : TG) (t p : Int32) : Int32 := if isN t.toInt64 4 ∧ isN p.toInt64 (gP G) then (match T (toN t) with
  | none => -6
  | some q => if 1 ≤ q.2.length ∧ q.2.length ≤ 12 then (@ite _ (∀ k, k < q.2.length → ansO G (q.2.getD k 0)) (Classical.propDecidable _) (nI 0) (-3)) else -4) else -2
def ansN (v : Int64) : Nat := v.toInt.toNat
theorem ansN_l {n : Nat} (h : n < 2 ^ 63) : ansN (lN n) = n := by unfold ansN; rw [l_T h]; rfl
def ltA (G : LG) (W : WG) (p r s b : Nat) : Bool := letsB G p (wPap W p) b (if s = 0 then gOne G r else gOth G r) (if s = 0 then gOth G r else gOne G r)
def okA (G : LG) (W : WG) (p b n : Nat) : Bool := ltA G W p (n / 100) (n / 10 % 10) b == decide (n % 10 = 1)
def allF (f : Nat → Bool) : Nat → Nat → Bool
  | 0, _ => true
  | m + 1, k => f k && allF f m (k + 1)
def fitB (G : LG) (W : WG) (p : Nat) (vs : List Int64) (b : Nat) : Bool := decide (b / 2 ^ gBor G p % 2 = 1) && (decide (b / 2 ^ wAt W p % 2 = 1) && allF (fun k => okA G W p b (ansN (vs.getD k 0))) vs.length 0)
theorem pos_l {v : Int64} (h : ¬ v < 0) : ∃ n, n < 2 ^ 63 ∧ v = lN n := by
  have h1 : 0 ≤ v.toInt := by
    rw [Int64.lt_iff_toInt_lt, show (0 : Int64).toInt = 0 from rfl] at h
    omega
  have h2 := v.toInt_lt
  refine ⟨v.toInt.toNat, by omega, ?_⟩
  apply Int64.toInt_inj.mp
  rw [l_T (by omega)]
  omega
section ANS
variable {G : LG} {W : WG} {L : List WG} {B : Nat} {h : sm_H} {T : TG}
theorem m_ans_loop {t : Nat} {l2 l3 : Int32} {q : Nat × List Int64} (S : mS h G W L B) (hT : mT h T) (ht : t < 4) (hq : T t = some q) : ∀ (m k : Nat) (l5 : Value), k + m = q.2.length → (∀ j, j < k → ansO G (q.2.getD j 0)) → xe 3 260 59 [.ref 169, .int (nI t), .int l2, .int l3, .int (nI k), l5, .null] [] h = some ([.int (@ite _ (∀ k, k < q.2.length → ansO G (q.2.getD k 0)) (Classical.propDecidable _) (nI 0) (-3))], h)
  | 0, k, l5, e, a => by
    have : k = q.2.length := by omega
    subst this
    have H := hT t ht
    rw [hq] at H
    have hl := H.2.2.2.1
    rw [b260_59]
    simp (disch := omega) only [in_185, if_true, nI_clamp, H.2.2.1]
    rw [if_pos (Int32.le_refl _), b260_157, if_pos a]
  | m + 1, k, l5, e, a => by
    have H := hT t ht
    rw [hq] at H
    have hl := H.2.2.2.1
    have hR := S.1.2.1
    have gk := H.2.2.2.2 k (by omega)
    have no : ¬ ansO G (q.2.getD k 0) → ∀ v, xe 3 260 148 [.ref 169, .int (nI t), .int l2, .int l3, .int (nI k), .long v, .null] [] h = some ([.int (@ite _ (∀ k, k < q.2.length → ansO G (q.2.getD k 0)) (Classical.propDecidable _) (nI 0) (-3))], h) := fun z v => by
      rw [b260_148, if_neg (fun y => z (y k (by omega)))]
    rw [b260_59]
    simp (disch := omega) only [in_185, if_true, nI_clamp, H.2.2.1]
    rw [if_neg (by rw [nI_leI (by omega) (by omega)]; omega), b260_70, pk_mul, nI_add]
    simp (disch := omega) only [in_186, if_true, nI_clamp, gk]
    generalize hv : q.2.getD k 0 = v at *
    by_cases y0 : v < 0
    · rw [if_pos (by rw [lg_cmp_lt]; exact y0)]
      refine no (fun ⟨n, hn, e, _⟩ => ?_) v
      rw [e, show (0 : Int64) = lN 0 from rfl, l_lt (by omega) (by decide)] at y0
      omega
    · obtain ⟨n, hn, rfl⟩ := pos_l y0
      have uniq : ∀ n', n' < 100 * gR G → lN n = lN n' → n' = n := fun n' hn' e => ((l_eq hn (by omega)).mp e).symm
      rw [if_neg (by rw [lg_cmp_lt]; exact y0), b260_91, show (100 : Int64) = lN 100 from rfl, l_div hn (by decide) (by decide), m_isRoad S.2.1.1.2.1 (by omega), bnd]
      simp only [app1, List.cons_append, List.nil_append]
      rw [b260_101]
      have hd : n / 100 < 2 ^ 63 := by omega
      by_cases y1 : n / 100 < gR G
      · rw [if_neg (by rw [bI_z]; exact fun z => z (by unfold isN; rw [l_T hd]; omega)), b260_104, show (100 : Int64) = lN 100 from rfl, l_div hn (by decide) (by decide), lN_i, nI_add]
        have gb : sm_gi h 170 (46 + n / 100) = nI (if gBri G (n / 100) then 1 else 0) := (S.2.1.2.1 _ y1).2.2.2.1
        simp (disch := omega) only [in_170, if_true, nI_clamp, gb]
        by_cases y2 : gBri G (n / 100) = true
        · rw [if_pos y2, if_neg (by decide), b260_122, show (10 : Int64) = lN 10 from rfl, l_div hn (by decide) (by decide), l_rem (by omega) (by decide) (by decide)]
          by_cases y3 : n / 10 % 10 < 2
          · rw [if_neg (by rw [lg_cmp_gt, show (1 : Int64) = lN 1 from rfl, l_lt (by decide) (by omega)]; omega), b260_137, show (10 : Int64) = lN 10 from rfl, l_rem hn (by decide) (by decide)]
            by_cases y4 : n % 10 < 2
            · rw [if_pos (by rw [lg_cmp_le, show (1 : Int64) = lN 1 from rfl, l_le (by omega) (by decide)]; omega), b260_151, nI_add]
              refine m_ans_loop S hT ht hq m (k + 1) _ (by omega) (fun j hj => ?_)
              by_cases z : j = k
              · subst z
                rw [hv]
                exact ⟨n, by omega, rfl, y2, y3, y4⟩
              · exact a j (by omega)
            · rw [if_neg (by rw [lg_cmp_le, show (1 : Int64) = lN 1 from rfl, l_le (by omega) (by decide)]; omega)]
              refine no (fun ⟨n', hn', e, _, _, e5⟩ => ?_) _
              rw [uniq n' hn' e] at e5
              exact y4 e5
          · rw [if_pos (by rw [lg_cmp_gt, show (1 : Int64) = lN 1 from rfl, l_lt (by decide) (by omega)]; omega)]
            refine no (fun ⟨n', hn', e, _, e4, _⟩ => ?_) _
            rw [uniq n' hn' e] at e4
            exact y3 e4
        · rw [if_neg y2, if_pos (by decide)]
          refine no (fun ⟨n', hn', e, e3, _, _⟩ => ?_) _
          rw [uniq n' hn' e] at e3
          exact y2 e3
      · rw [if_pos (by rw [bI_z]; unfold isN; rw [l_T hd]; omega)]
        refine no (fun ⟨n', hn', e, _⟩ => ?_) _
        have := uniq n' hn' e
        omega
theorem m_noAnswers {t p : Int32} (S : mS h G W L B) (hT : mT h T) : xc 260 [.ref 169, .int t, .int p] h = some ([.int (nA G T t p)], h) := by
  have hP := S.1.2.2.1
  rw [en_260, b260_0, m_within, bnd]
  simp only [app1, List.cons_append, List.nil_append]
  rw [b260_9, fa_litL 0, fa_litL 3, bI_congr (isN_w (by decide))]
  unfold nA
  by_cases h1 : isN t.toInt64 4
  · rw [if_neg (by rw [bI_z]; exact fun z => z h1), b260_12, m_isPerson S.2.1.1.2.2 (by omega), bnd]
    simp only [app1, List.cons_append, List.nil_append]
    rw [b260_18]
    by_cases h2 : isN p.toInt64 (gP G)
    · rw [if_neg (by rw [bI_z]; exact fun z => z h2), if_pos ⟨h1, h2⟩, b260_24, m_noTray hT, bnd]
      simp only [app1, List.cons_append, List.nil_append]
      rw [b260_29]
      unfold trI
      rw [if_pos h1]
      obtain ⟨t, ht, rfl⟩ := isN_nI h1 (by omega)
      rw [toN_nI (by omega)]
      have H := hT t ht
      cases hq : T t with
      | none =>
        dsimp only
        rw [if_neg (by decide), b260_34]
      | some q =>
        rw [hq] at H
        have hl := H.2.2.2.1
        dsimp only
        rw [if_pos (show nI 0 = 0 from rfl), b260_36]
        simp (disch := omega) only [in_185, if_true, nI_clamp, H.2.2.1]
        rw [m_within, bnd]
        simp only [app1, List.cons_append, List.nil_append]
        have hi : ((1 : Int64) ≤ (nI q.2.length).toInt64 ∧ (nI q.2.length).toInt64 ≤ 12) ↔ (1 ≤ q.2.length ∧ q.2.length ≤ 12) := by
          rw [nI_l (by omega), show (1 : Int64) = lN 1 from rfl, show (12 : Int64) = lN 12 from rfl, l_le (by decide) (by omega), l_le (by omega) (by decide)]
        rw [b260_50, bI_congr hi]
        by_cases h3 : 1 ≤ q.2.length ∧ q.2.length ≤ 12
        · rw [if_neg (by rw [bI_z]; exact fun z => z h3), if_pos h3, b260_56]
          exact m_ans_loop S hT ht hq q.2.length 0 _ (by omega) (fun j hj => absurd hj (by omega))
        · rw [if_pos (by rw [bI_z]; exact h3), if_neg h3, b260_53]
    · rw [if_pos (by rw [bI_z]; exact h2), if_neg (fun z : isN t.toInt64 4 ∧ isN p.toInt64 (gP G) => h2 z.2), b260_21]
  · rw [if_pos (by rw [bI_z]; exact h1), if_neg (fun z : isN t.toInt64 4 ∧ isN p.toInt64 (gP G) => h1 z.1), b260_21]
theorem m_isLet {p r s b : Nat} (S : mS h G W L B) (hp : p < gP G) (hr : r < gR G) (hs : s < 2) (hb : b < 2 ^ 31) : ∃ h2, xc 261 [.ref 169, .int (nI p), .int (nI r), .int (nI s), .int (nI b)] h = some ([.int (bI (ltA G W p r s b = true))], h2) ∧ eqx sxL h h2 := by
  have hw := S.1
  have hP := hw.2.2.1
  have hR := hw.2.1
  have hN := hw.1.2
  obtain ⟨a1, a2, a3, a4, a5, a6⟩ := mS_at S hp
  have hg := S.2.1.2.1 r hr
  have hrd := hw.2.2.2.1 r hr
  have key : ∀ f t, f < gN G → t < gN G → toF G r f = some t → ltA G W p r s b = letsB G p (wPap W p) b f t → ∃ h2, xe 4 261 25 [.ref 169, .int (nI p), .int (nI r), .int (nI s), .int (nI b), .null] [.int (nI f)] h = some ([.int (bI (ltA G W p r s b = true))], h2) ∧ eqx sxL h h2 := fun f t hf ht ht2 hl => by
    rw [b261_25]
    simp (disch := omega) only [nI_add, in_170, if_true, nI_clamp, a3]
    rw [m_leads' S.2.1 hw hr (by omega), ht2, bnd]
    simp only [app1, List.cons_append, List.nil_append]
    obtain ⟨h2, e2, E2⟩ := m_letsOver (pap := wPap W p) (f := f) S.2.1 hw hp hb (show t < 31 by omega)
    rw [b261_49, show toI (some t) = nI t from rfl, e2, bnd]
    simp only [app1, List.cons_append, List.nil_append]
    rw [b261_52, if_pos (bI_zo.mpr trivial), hl]
    exact ⟨h2, rfl, E2⟩
  rw [en_261, b261_0]
  by_cases z : s = 0
  · subst z
    rw [if_pos (show nI 0 = 0 from rfl), b261_4]
    simp (disch := omega) only [nI_add, in_170, if_true, nI_clamp, hg.1]
    exact key _ _ hrd.1 hrd.2.1 (if_pos rfl) rfl
  · have : s = 1 := by omega
    subst this
    rw [if_neg (by decide), b261_16]
    simp (disch := omega) only [nI_add, in_170, if_true, nI_clamp, hg.2.1]
    refine key _ _ hrd.2.1 hrd.1 ?_ rfl
    unfold toF
    rw [if_neg hrd.2.2.1, if_pos rfl]
end ANS
