/-! ===== the model: all stands ===== -/
theorem cmOK_mono {h h2 : sm_H} {n n' k r : Nat} {K K' : Nat → XS} {s : XS → Nat → Option XS} (H : cmOK h n K s k r) (hk : k < n) (hK : ∀ j, j < n → K' j = K j) (hn : n ≤ n') (e : sm_gi h2 180 (12 * k + r) = sm_gi h 180 (12 * k + r)) : cmOK h2 n' K' s k r := by
  unfold cmOK at H ⊢
  rw [hK k hk]
  cases hs : s (K k) r with
  | none => rw [hs] at H; exact e.trans H
  | some y =>
    rw [hs] at H
    obtain ⟨i, a, b, c⟩ := H
    exact ⟨i, by omega, e.trans b, (hK i a).trans c⟩
/-- stands so far: each can be come to -/
def mL (h : sm_H) (n : Nat) (K : Nat → XS) (G : LG) (s : XS → Nat → Option XS) (x0 : XS) : Prop := mV h n (fun j => sdX (K j)) ∧ (∀ j, j < n → okX G (K j)) ∧ 0 < n ∧ K 0 = x0 ∧ ∀ j, j < n → ∃ w, rn s x0 w = some (K j)
theorem mL_eqx {S : Nat → Nat → Prop} {h h2 : sm_H} {n : Nat} {K : Nat → XS} {G : LG} {s : XS → Nat → Option XS} {x0 : XS} (H : mL h n K G s x0) (E : eqx S h h2) (hS : ∀ c i, S c i → c ≠ 177 ∧ c ≠ 178 ∧ ¬ (c = 169 ∧ i = 25)) : mL h2 n K G s x0 := ⟨mV_eqx H.1 E hS, H.2⟩
theorem m_lays_in {G : LG} {sh p k : Nat} {pl : Option Nat} {ov : Bool} {pap : Int32} {x0 : XS} {h : sm_H} : ∀ (m r n : Nat) (K : Nat → XS) (h1 : sm_H) (l11 l12 : Value), r + m = gR G → mC h1 G sh pl p → mL h1 n K G (stp G sh pl p ov) x0 → k < n → (∀ r', r' < r → cmOK h1 n K (stp G sh pl p ov) k r') → (∀ j, j < k → ∀ r', r' < gR G → cmOK h1 n K (stp G sh pl p ov) j r') → eqx sxS h h1 →
    ∃ n' K' h2 l5 l6 l7 l8 l9 l10 l11' l12', xe 5 225 124 [.ref 169, .int (nI p), .int pap, .int (nI (if ov = true then 1 else 0)), .int (nI k), .int (nI (sdX (K k))), .int (nI (xM (K k))), .int (nI (xB (K k))), .int (nI (xN (K k))), .int (nI (xF (K k))), .int (nI r), l11, l12] [] h1 = xe 5 225 67 [.ref 169, .int (nI p), .int pap, .int (nI (if ov = true then 1 else 0)), .int (nI (k + 1)), l5, l6, l7, l8, l9, l10, l11', l12'] [] h2 ∧
      mC h2 G sh pl p ∧ mL h2 n' K' G (stp G sh pl p ov) x0 ∧ k < n' ∧ (∀ j, j < k + 1 → ∀ r', r' < gR G → cmOK h2 n' K' (stp G sh pl p ov) j r') ∧ eqx sxS h h2
  | 0, r, n, K, h1, l11, l12, e, C, L, hk, hr, hj, E => by
    have hR := C.2.1.2.1
    have : r = gR G := by omega
    subst this
    rw [b225_124]
    simp (disch := omega) only [in_170, if_true, nI_clamp, C.1.1.2.1]
    rw [if_pos (Int32.le_refl _), b225_264, nI_add]
    refine ⟨n, K, h1, _, _, _, _, _, _, _, _, rfl, C, L, hk, fun j h1 r' h2 => ?_, E⟩
    by_cases z : j = k
    · subst z; exact hr r' h2
    · exact hj j (by omega) r' h2
  | m + 1, r, n, K, h1, l11, l12, e, C, L, hk, hr, hj, E => by
    have hR := C.2.1.2.1
    rw [b225_124]
    simp (disch := omega) only [in_170, if_true, nI_clamp, C.1.1.2.1]
    rw [if_neg (by rw [nI_leI (by omega) (by omega)]; omega)]
    obtain ⟨n', K', h2, a11, a12, e2, V2, ok2, hn, hK, hnew, cm, E2⟩ := m_stand_stp (ov := ov) (pap := pap) (l11 := l11) (l12 := l12) C L.1 L.2.1 hk (show r < gR G by omega)
    rw [e2, b225_258, nI_add]
    have E2' : eqx sxS h1 h2 := E2.wk (fun c i z => by unfold sxL sxS1 at z; unfold sxS; omega)
    have C2 := mC_S C E2'
    have L2 : mL h2 n' K' G (stp G sh pl p ov) x0 := ⟨V2, ok2, by have := L.2.2.1; omega, (hK 0 L.2.2.1).trans L.2.2.2.1, fun j hj2 => by
      by_cases z : j < n
      · rw [hK j z]; exact L.2.2.2.2 j z
      · obtain ⟨w, hw⟩ := L.2.2.2.2 k hk
        exact ⟨w ++ [r], rn_snoc hw (hnew j (by omega) hj2)⟩⟩
    have fr : ∀ j r', (j ≠ k ∨ r' ≠ r) → r' < gR G → sm_gi h2 180 (12 * j + r') = sm_gi h1 180 (12 * j + r') := fun j r' hne hr' => E2.1 180 _ (by unfold sxL sxS1; omega)
    have hkk := hK k hk
    have := m_lays_in (pap := pap) (x0 := x0) (h := h) m (r + 1) n' K' h2 a11 a12 (by omega) C2 L2 (by omega) (fun r' h' => by
      by_cases z : r' = r
      · subst z; exact cm
      · exact cmOK_mono (hr r' (by omega)) hk hK hn (fr k r' (by omega) (by omega))) (fun j h' r' hr' => cmOK_mono (hj j h' r' hr') (by omega) hK hn (fr j r' (by omega) hr')) (E.tr E2')
    rw [hkk] at this
    exact this
theorem m_lays_out {G : LG} {sh p : Nat} {pl : Option Nat} {ov : Bool} {pap : Int32} {x0 : XS} {h : sm_H} : ∀ (m k n : Nat) (K : Nat → XS) (h1 : sm_H) (l5 l6 l7 l8 l9 l10 l11 l12 : Value), k + m = 61440 → k ≤ n → mC h1 G sh pl p → mL h1 n K G (stp G sh pl p ov) x0 → (∀ j, j < k → ∀ r', r' < gR G → cmOK h1 n K (stp G sh pl p ov) j r') → eqx sxS h h1 →
    ∃ n' K' h2, xe 5 225 67 [.ref 169, .int (nI p), .int pap, .int (nI (if ov = true then 1 else 0)), .int (nI k), l5, l6, l7, l8, l9, l10, l11, l12] [] h1 = some ([], h2) ∧ mC h2 G sh pl p ∧ mL h2 n' K' G (stp G sh pl p ov) x0 ∧ (∀ j, j < n' → ∀ r', r' < gR G → cmOK h2 n' K' (stp G sh pl p ov) j r') ∧ eqx sxS h h2 := by
  intro m
  induction m with
  | zero =>
    intro k n K h1 l5 l6 l7 l8 l9 l10 l11 l12 e hkn C L hj E
    have hn := L.1.2.1
    have : n = k := by omega
    subst this
    rw [b225_67, L.1.1, if_pos (Int32.le_refl _), b225_270]
    exact ⟨n, K, h1, rfl, C, L, hj, E⟩
  | succ m ih =>
    intro k n K h1 l5 l6 l7 l8 l9 l10 l11 l12 e hkn C L hj E
    have hn := L.1.2.1
    rw [b225_67, L.1.1]
    by_cases q : n = k
    · subst q
      rw [if_pos (Int32.le_refl _), b225_270]
      exact ⟨n, K, h1, rfl, C, L, hj, E⟩
    · rw [if_neg (by rw [nI_leI (by omega) (by omega)]; omega), b225_76]
      have hk : k < n := by omega
      obtain ⟨b1, b2, b3, b4⟩ := (L.2.1 k hk).b C.2.1
      obtain ⟨c1, c2, c3, c4⟩ := sdX_parts b1 b2 b3
      have hs := sdX_lt C.2.1 (L.2.1 k hk)
      simp (disch := omega) only [in_177, if_true, nI_clamp, (L.1.2.2.1 k hk).1]
      rw [pk_rem (by omega) (by decide) (by decide), pk_div (d := 16) (by omega) (by decide) (by decide), pk_div (d := 1024) (by omega) (by decide) (by decide), pk_div (d := 10240) (by omega) (by decide) (by decide), pk_rem (by omega) (by decide) (by decide), pk_rem (by omega) (by decide) (by decide), c1, c2, c3, c4]
      obtain ⟨n', K', h2, a5, a6, a7, a8, a9, a10, a11, a12, e2, C2, L2, hk2, hj2, E2⟩ := m_lays_in (k := k) (ov := ov) (pap := pap) (x0 := x0) (h := h) (gR G) 0 n K h1 l11 l12 (by omega) C L hk (fun r' z => by omega) hj E
      rw [e2]
      exact ih (k + 1) n' K' h2 _ _ _ _ _ _ _ _ (by omega) (by omega) C2 L2 hj2 E2
theorem m_lays_reset {n p : Nat} {pap ov : Int32} {K : Nat → Nat} {h : sm_H} (V : mV h n K) : ∀ (m k : Nat) (h1 : sm_H), k + m = n → sm_gi h1 169 25 = nI n → (∀ j, j < n → sm_gi h1 177 j = nI (K j)) → (∀ c, c < 61440 → (∀ j, k ≤ j → j < n → K j ≠ c) → sm_gi h1 178 c = nI 0) → eqx sxS h h1 →
    ∃ h2, xe 5 225 3 [.ref 169, .int (nI p), .int pap, .int ov, .int (nI k), .null, .null, .null, .null, .null, .null, .null, .null] [] h1 = xe 5 225 36 [.ref 169, .int (nI p), .int pap, .int ov, .int (nI n), .null, .null, .null, .null, .null, .null, .null, .null] [] h2 ∧ mV h2 0 (fun _ => 0) ∧ eqx sxS h h2
  | 0, k, h1, e, g, a, b, E => by
    have : k = n := by omega
    subst this
    rw [b225_3, g, if_pos (Int32.le_refl _), b225_31]
    refine ⟨_, rfl, ⟨gi_same, by omega, fun k hk => by omega, fun c hc _ => ?_⟩, E.si (by unfold sxS; omega)⟩
    rw [gi_cell (by decide)]
    exact b c hc (fun j x y => by omega)
  | m + 1, k, h1, e, g, a, b, E => by
    have hn := V.2.1
    rw [b225_3, g, if_neg (by rw [nI_leI (by omega) (by omega)]; omega), b225_12]
    have hv := V.2.2.1 k (by omega)
    simp (disch := omega) only [in_177, if_true, nI_clamp, a k (by omega)]
    have hKk := hv.2.1
    simp (disch := omega) only [in_178, if_true, nI_clamp]
    rw [b225_25, nI_add]
    refine m_lays_reset V m (k + 1) _ (by omega) (by rw [gi_cell (by decide)]; exact g) (fun j hj => by rw [gi_cell (by decide)]; exact a j hj) (fun c hc q => ?_) (E.si (by unfold sxS; omega))
    by_cases z : c = K k
    · subst z; exact gi_same
    · rw [gi_slot z]
      refine b c hc (fun j x y => ?_)
      by_cases z2 : j = k
      · subst z2; exact fun w => z w.symm
      · exact q j (by omega) y
/-- the stands laid: where it begins, all that can be come to, and all steps -/
theorem m_laysStands {G : LG} {sh p n0 pap a b : Nat} {pl : Option Nat} {ov : Bool} {K0 : Nat → Nat} {h : sm_H} (C : mC h G sh pl p) (V : mV h n0 K0) (hat : sm_gi h 170 (90 + p) = nI a) (hbe : sm_gi h 170 (108 + p) = nI b) (ha : a < gN G) (hb : b < 2 ^ gN G) (hpap : pap ≤ 9) :
    ∃ n K h2, xc 225 [.ref 169, .int (nI p), .int (nI pap), .int (nI (if ov = true then 1 else 0))] h = some ([], h2) ∧ mC h2 G sh pl p ∧ mL h2 n K G (stp G sh pl p ov) (0, b, pap, a) ∧ (∀ j, j < n → ∀ r', r' < gR G → cmOK h2 n K (stp G sh pl p ov) j r') ∧ eqx sxS h h2 := by
  have hw := C.2.1
  have hP := hw.2.2.1
  have hpp := C.2.2.2.1
  have ok0 : okX G (0, b, pap, a) := ⟨(show (0 : Nat) < 16 by decide), hb, hpap, ha⟩
  rw [en_225, b225_0]
  obtain ⟨h1, e1, V1, E1⟩ := m_lays_reset (p := p) (pap := nI pap) (ov := nI (if ov = true then 1 else 0)) V n0 0 h (by omega) V.1 (fun j hj => (V.2.2.1 j hj).1) (fun c hc q => V.2.2.2 c hc (fun k hk => q k (by omega) hk)) eqx.rf
  have C1 := mC_S C E1
  rw [e1, b225_36]
  simp (disch := omega) only [nI_add, in_170, if_true, nI_clamp]
  rw [E1.1 170 _ (by unfold sxS; omega), E1.1 170 _ (by unfold sxS; omega), hat, hbe, en_222, b222_0, bnd]
  simp only [app1, List.cons_append, List.nil_append, pk_mul, nI_add]
  rw [show ((10 * a + pap) * 64 + b) * 16 + 0 = sdX (0, b, pap, a) from rfl, b225_60]
  obtain ⟨n', K', i, h3, e3, V3, hi, hKi, -, hnew, E3⟩ := m_addsStand V1 (sdX_lt hw ok0)
  rw [e3, bnd]
  simp only [app1, List.cons_append, List.nil_append]
  rw [b225_63]
  rcases hnew with ⟨z, -⟩ | ⟨z, z2⟩
  · omega
  · subst z
    have i0 : i = 0 := by omega
    subst i0
    have V3' : mV h3 1 (fun j => sdX ((fun _ => ((0, b, pap, a) : XS)) j)) := ⟨V3.1, V3.2.1, fun k hk => by
      have := V3.2.2.1 k hk
      rw [show k = 0 by omega] at this ⊢
      rw [hKi] at this
      exact this, fun c hc q => V3.2.2.2 c hc (fun k hk => by rw [show k = 0 by omega, hKi]; exact q 0 (by omega))⟩
    have E13 : eqx sxS h h3 := E1.tr (E3.wk sxS1_S)
    obtain ⟨n, K, h4, e4, C4, L4, cm4, E4⟩ := m_lays_out (sh := sh) (pl := pl) (ov := ov) (pap := nI pap) (x0 := (0, b, pap, a)) (h := h) 61440 0 1 (fun _ => (0, b, pap, a)) h3 .null .null .null .null .null .null .null .null (by omega) (by omega) (mC_S C E13) ⟨V3', fun j _ => ok0, by omega, rfl, fun j _ => ⟨[], rfl⟩⟩ (fun j q => by omega) E13
    exact ⟨n, K, h4, e4, C4, L4, cm4, E4⟩
