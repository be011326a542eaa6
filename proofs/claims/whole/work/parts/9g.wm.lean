/-! ===== ways: sums of longs; the model ===== -/
def sL (f : Nat → Int64) : Nat → Int64
  | 0 => 0
  | k + 1 => sL f k + f k
theorem sL_s {f : Nat → Int64} {k : Nat} : sL f (k + 1) = sL f k + f k := rfl
theorem sL_congr {f g : Nat → Int64} : ∀ n, (∀ k, k < n → f k = g k) → sL f n = sL g n
  | 0, _ => rfl
  | n + 1, h => by rw [sL_s, sL_s, sL_congr n (fun k hk => h k (by omega)), h n (by omega)]
theorem sL_zero {f : Nat → Int64} : ∀ n, (∀ k, k < n → f k = 0) → sL f n = 0
  | 0, _ => rfl
  | n + 1, h => by rw [sL_s, sL_zero n (fun k hk => h k (by omega)), h n (by omega)]; rfl
theorem sL_one {f : Nat → Int64} {i : Nat} : ∀ n, i < n → (∀ k, k < n → k ≠ i → f k = 0) → sL f n = f i
  | 0, hi, _ => absurd hi (by omega)
  | n + 1, hi, h => by
    rw [sL_s]
    by_cases z : i = n
    · subst z
      rw [sL_zero i (fun k hk => h k (by omega) (by omega)), Int64.zero_add]
    · rw [sL_one n (by omega) (fun k hk e => h k (by omega) e), h n (by omega) (fun e => z e.symm), Int64.add_zero]
theorem sL_up {f g t : Nat → Int64} {v : Int64} {i : Nat} : ∀ n, i < n → (∀ k, k < n → k ≠ i → g k = f k) → g i = f i + v → sL (fun k => g k * t k) n = sL (fun k => f k * t k) n + v * t i
  | 0, hi, _, _ => absurd hi (by omega)
  | n + 1, hi, h, e => by
    rw [sL_s, sL_s]
    by_cases z : i = n
    · subst z
      rw [sL_congr (g := fun k => f k * t k) i (fun k hk => by rw [h k (by omega) (by omega)]), e, Int64.add_mul, Int64.add_assoc]
    · rw [sL_up n (by omega) (fun k hk y => h k (by omega) y) e, h n (by omega) (fun y => z y.symm), Int64.add_assoc, Int64.add_assoc, Int64.add_comm (v * t i)]
def stepT (s : XS → Nat → Option XS) (t : XS → Int64) (x : XS) (r : Nat) : Int64 := match s x r with
  | none => 0
  | some y => t y
/-- how many ways of n roads end at f -/
def twN (s : XS → Nat → Option XS) (R f : Nat) : Nat → XS → Int64
  | 0, x => if xF x = f then 1 else 0
  | n + 1, x => sL (stepT s (twN s R f n) x) R
def aWays (G : LG) (W : WG) (p q n : Int32) : Int64 := if isN p.toInt64 (gP G) ∧ isN q.toInt64 (gN G) then (if isN n.toInt64 10 then twN (stp G (wSh W) none (toN p) false) (gR G) (toN q) (toN n) (xS W (toN p)) else -3) else -2
section WYM
variable {G : LG} {W : WG} {L : List WG} {B sh p n : Nat} {pl : Option Nat} {ov : Bool} {K : Nat → XS} {x0 : XS} {h : sm_H}
def sxYm : Nat → Nat → Prop := fun c _ => c = 182 ∨ c = 183
theorem sxYm_Z : ∀ c i, sxYm c i → sxZ c i := fun c i z => by unfold sxYm at z; unfold sxZ; omega
theorem in_182 {n : Nat} (hn : n < 3840) : sm_in 182 (nI n) ↔ True := in_ln (by omega) (by rw [ln_182]; exact hn)
theorem in_183 {n : Nat} (hn : n < 3840) : sm_in 183 (nI n) ↔ True := in_ln (by omega) (by rw [ln_183]; exact hn)
theorem mN_Y {h2 : sm_H} (H : mN h G sh pl p ov n K x0) (E : eqx sxYm h h2) : mN h2 G sh pl p ov n K x0 := mN_eqx H E (fun c i z => by unfold sxYm at z; omega)
theorem mN_few (H : mN h G sh pl p false n K x0) (hm : xM x0 = 0) : n ≤ 3840 := by
  have hw := H.1.2.1
  have hx := H.1.2.2.1
  have ok := H.2.1.2.1
  have m0 : ∀ j, j < n → xM (K j) = 0 := fun j hj => by
    obtain ⟨w, hr⟩ := H.2.1.2.2.2.2 j hj
    have ok0 : okX G x0 := by have := ok 0 H.2.1.2.2.1; rw [H.2.1.2.2.2.1] at this; exact this
    rcases (rn_ok hw hx w _ _ ok0 (Or.inr hm) hr).2 with z | z
    · cases z
    · exact z
  exact php 3840 n (fun j => cdX (K j)) (fun j hj => (cdX_lt hw (ok j hj)).2 (m0 j hj)) (fun i j hi hj e => mN_inj H hi hj (cdX_inj hw (ok i hi) (ok j hj) e))
theorem m_ways_init {l1 l2 l3 : Int32} (H : mN h G sh pl p ov n K x0) (hn : n ≤ 3840) : ∀ (m k : Nat) (h1 : sm_H), k + m = n → (∀ j, j < k → sm_gl h1 182 j = if j = 0 then 1 else 0) → eqx sxYm h h1 → ∃ h2, xe 6 241 52 [.ref 169, .int l1, .int l2, .int l3, .int (nI k), .null, .null] [] h1 = xe 6 241 84 [.ref 169, .int l1, .int l2, .int l3, .int (nI n), .null, .null] [] h2 ∧ (∀ j, j < n → sm_gl h2 182 j = if j = 0 then 1 else 0) ∧ eqx sxYm h h2
  | 0, k, h1, e, a, E => by
    have : k = n := by omega
    subst this
    rw [b241_52, (mN_Y H E).2.1.1.1, if_pos (Int32.le_refl _)]
    exact ⟨h1, rfl, a, E⟩
  | m + 1, k, h1, e, a, E => by
    have ih : ∀ v : Int64, v = (if k = 0 then 1 else 0) → ∃ h2, xe 6 241 77 [.ref 169, .int l1, .int l2, .int l3, .int (nI k), .null, .null] [.long v, .int (nI k), .ref 182] h1 = xe 6 241 84 [.ref 169, .int l1, .int l2, .int l3, .int (nI n), .null, .null] [] h2 ∧ (∀ j, j < n → sm_gl h2 182 j = if j = 0 then 1 else 0) ∧ eqx sxYm h h2 := fun v hv => by
      rw [b241_77]
      simp (disch := omega) only [in_182, if_true, nI_clamp]
      rw [b241_78, nI_add]
      refine m_ways_init H hn m (k + 1) _ (by omega) (fun j hj => ?_) (E.sl (by unfold sxYm; omega))
      by_cases z : j = k
      · subst z; rw [gl_same, hv]
      · rw [gl_slot (by omega)]; exact a j (by omega)
    rw [b241_52, (mN_Y H E).2.1.1.1, if_neg (by rw [nI_leI (by omega) (by omega)]; omega), b241_61]
    by_cases z : k = 0
    · subst z
      rw [if_pos (show nI 0 = 0 from rfl), b241_72]
      exact ih 1 rfl
    · rw [if_neg (by rw [show (0 : Int32) = nI 0 from rfl, nI_eq (by omega) (by decide)]; exact z), b241_76]
      exact ih 0 (by rw [if_neg z])
theorem m_ways_zero {l1 l2 l3 l4 : Int32} {l6 : Value} (H : mN h G sh pl p ov n K x0) (hn : n ≤ 3840) : ∀ (m k : Nat) (h1 : sm_H), k + m = n → (∀ j, j < k → sm_gl h1 183 j = 0) → eqx (fun c _ => c = 183) h h1 → ∃ h2, xe 6 241 96 [.ref 169, .int l1, .int l2, .int l3, .int l4, .int (nI k), l6] [] h1 = xe 6 241 119 [.ref 169, .int l1, .int l2, .int l3, .int l4, .int (nI n), l6] [] h2 ∧ (∀ j, j < n → sm_gl h2 183 j = 0) ∧ eqx (fun c _ => c = 183) h h2
  | 0, k, h1, e, a, E => by
    have : k = n := by omega
    subst this
    rw [b241_96, (mN_Y H (E.wk (fun c i z => by unfold sxYm; omega))).2.1.1.1, if_pos (Int32.le_refl _)]
    exact ⟨h1, rfl, a, E⟩
  | m + 1, k, h1, e, a, E => by
    rw [b241_96, (mN_Y H (E.wk (fun c i z => by unfold sxYm; omega))).2.1.1.1, if_neg (by rw [nI_leI (by omega) (by omega)]; omega), b241_105]
    simp (disch := omega) only [in_183, if_true, nI_clamp]
    rw [b241_113, nI_add]
    refine m_ways_zero H hn m (k + 1) _ (by omega) (fun j hj => ?_) (E.sl rfl)
    by_cases z : j = k
    · subst z; rw [gl_same]
    · rw [gl_slot (by omega)]; exact a j (by omega)
theorem m_ways_in {l1 l2 l3 l4 : Int32} {k : Nat} {wv : Nat → Int64} {t : XS → Int64} {A : Int64} (H : mN h G sh pl p ov n K x0) (hn : n ≤ 3840) (hk : k < n) (hwv : ∀ j, j < n → sm_gl h 182 j = wv j) : ∀ (m r : Nat) (h1 : sm_H), r + m = gR G → sL (fun j => sm_gl h1 183 j * t (K j)) n = A + wv k * sL (stepT (stp G sh pl p ov) t (K k)) r → eqx (fun c _ => c = 183) h h1 → ∃ h2, xe 6 241 134 [.ref 169, .int l1, .int l2, .int l3, .int l4, .int (nI k), .int (nI r)] [] h1 = xe 6 241 196 [.ref 169, .int l1, .int l2, .int l3, .int l4, .int (nI k), .int (nI (gR G))] [] h2 ∧ sL (fun j => sm_gl h2 183 j * t (K j)) n = A + wv k * sL (stepT (stp G sh pl p ov) t (K k)) (gR G) ∧ eqx (fun c _ => c = 183) h h2
  | 0, r, h1, e, a, E => by
    have : r = gR G := by omega
    subst this
    have H1 := mN_Y H (E.wk (fun c i z => by unfold sxYm; omega))
    rw [b241_134]
    simp (disch := omega) only [in_170, if_true, nI_clamp, H1.1.1.1.2.1]
    rw [if_pos (Int32.le_refl _)]
    exact ⟨h1, rfl, a, E⟩
  | m + 1, r, h1, e, a, E => by
    have H1 := mN_Y H (E.wk (fun c i z => by unfold sxYm; omega))
    have hR := H.1.2.1.2.1
    have hc := H1.2.2 k hk r (by omega)
    have gw : sm_gl h1 182 k = wv k := (E.2.1 182 k (by omega)).trans (hwv k hk)
    rw [b241_134]
    simp (disch := omega) only [in_170, if_true, nI_clamp, H1.1.1.1.2.1]
    rw [if_neg (by rw [nI_leI (by omega) (by omega)]; omega), b241_145, pk_mul, nI_add]
    simp (disch := omega) only [in_180, if_true, nI_clamp]
    have hst : stepT (stp G sh pl p ov) t (K k) r = match stp G sh pl p ov (K k) r with
        | none => 0
        | some y => t y := rfl
    unfold cmOK at hc
    cases hs : stp G sh pl p ov (K k) r with
    | none =>
      rw [hs] at hc hst
      rw [hc, if_pos rfl, b241_190, nI_add]
      refine m_ways_in H hn hk hwv m (r + 1) h1 (by omega) ?_ E
      rw [a, sL_s, hst, Int64.add_zero]
    | some y =>
      rw [hs] at hc hst
      obtain ⟨i, hi, gi, hK⟩ := hc
      rw [gi, if_neg (by rw [nI_m1 (by omega)]; exact id), b241_162, pk_mul, nI_add]
      simp (disch := omega) only [in_180, in_182, in_183, if_true, nI_clamp, gi, gw]
      rw [b241_190, nI_add]
      refine m_ways_in H hn hk hwv m (r + 1) _ (by omega) ?_ (E.sl rfl)
      rw [sL_up (f := fun j => sm_gl h1 183 j) (v := wv k) (i := i) (t := fun j => t (K j)) n hi (fun j hj z => gl_slot (by omega)) gl_same, a, sL_s, hst, hK, Int64.mul_add, Int64.add_assoc]
theorem m_ways_out {l1 l2 l3 l4 : Int32} {wv : Nat → Int64} {t : XS → Int64} (H : mN h G sh pl p ov n K x0) (hn : n ≤ 3840) (hwv : ∀ j, j < n → sm_gl h 182 j = wv j) : ∀ (m k : Nat) (h1 : sm_H) (l6 : Value), k + m = n → sL (fun j => sm_gl h1 183 j * t (K j)) n = sL (fun j => wv j * sL (stepT (stp G sh pl p ov) t (K j)) (gR G)) k → eqx (fun c _ => c = 183) h h1 → ∃ h2 l7, xe 6 241 122 [.ref 169, .int l1, .int l2, .int l3, .int l4, .int (nI k), l6] [] h1 = xe 6 241 202 [.ref 169, .int l1, .int l2, .int l3, .int l4, .int (nI n), l7] [] h2 ∧ sL (fun j => sm_gl h2 183 j * t (K j)) n = sL (fun j => wv j * sL (stepT (stp G sh pl p ov) t (K j)) (gR G)) n ∧ eqx (fun c _ => c = 183) h h2
  | 0, k, h1, l6, e, a, E => by
    have : k = n := by omega
    subst this
    have H1 := mN_Y H (E.wk (fun c i z => by unfold sxYm; omega))
    rw [b241_122, H1.2.1.1.1, if_pos (Int32.le_refl _)]
    exact ⟨h1, l6, rfl, a, E⟩
  | m + 1, k, h1, l6, e, a, E => by
    have H1 := mN_Y H (E.wk (fun c i z => by unfold sxYm; omega))
    rw [b241_122, H1.2.1.1.1, if_neg (by rw [nI_leI (by omega) (by omega)]; omega), b241_131]
    obtain ⟨h2, e2, a2, E2⟩ := m_ways_in (l1 := l1) (l2 := l2) (l3 := l3) (l4 := l4) (k := k) (t := t) H hn (by omega) hwv (gR G) 0 h1 (by omega) (by rw [show sL (stepT (stp G sh pl p ov) t (K k)) 0 = 0 from rfl, Int64.mul_zero, Int64.add_zero]) E
    rw [e2, b241_196, nI_add]
    exact m_ways_out H hn hwv m (k + 1) h2 _ (by omega) (by rw [a2, a]; rfl) E2
theorem m_ways_copy {l1 l2 l3 l4 : Int32} {l6 : Value} {wv : Nat → Int64} (H : mN h G sh pl p ov n K x0) (hn : n ≤ 3840) (hwv : ∀ j, j < n → sm_gl h 183 j = wv j) : ∀ (m k : Nat) (h1 : sm_H), k + m = n → (∀ j, j < k → sm_gl h1 182 j = wv j) → eqx (fun c _ => c = 182) h h1 → ∃ h2, xe 6 241 205 [.ref 169, .int l1, .int l2, .int l3, .int l4, .int (nI k), l6] [] h1 = xe 6 241 234 [.ref 169, .int l1, .int l2, .int l3, .int l4, .int (nI n), l6] [] h2 ∧ (∀ j, j < n → sm_gl h2 182 j = wv j) ∧ eqx (fun c _ => c = 182) h h2
  | 0, k, h1, e, a, E => by
    have : k = n := by omega
    subst this
    have H1 := mN_Y H (E.wk (fun c i z => by unfold sxYm; omega))
    rw [b241_205, H1.2.1.1.1, if_pos (Int32.le_refl _)]
    exact ⟨h1, rfl, a, E⟩
  | m + 1, k, h1, e, a, E => by
    have H1 := mN_Y H (E.wk (fun c i z => by unfold sxYm; omega))
    have gw : sm_gl h1 183 k = wv k := (E.2.1 183 k (by omega)).trans (hwv k (by omega))
    rw [b241_205, H1.2.1.1.1, if_neg (by rw [nI_leI (by omega) (by omega)]; omega), b241_214]
    simp (disch := omega) only [in_183, in_182, if_true, nI_clamp, gw]
    rw [b241_228, nI_add]
    refine m_ways_copy H hn hwv m (k + 1) _ (by omega) (fun j hj => ?_) (E.sl rfl)
    by_cases z : j = k
    · subst z; rw [gl_same]
    · rw [gl_slot (by omega)]; exact a j (by omega)
theorem m_ways_sum {l1 l3 : Int32} {f : Nat} (H : mN h G sh pl p ov n K x0) (hn : n ≤ 3840) (hf : f < 2 ^ 31) : ∀ (m k : Nat), k + m = n → xe 6 241 246 [.ref 169, .int l1, .int (nI f), .int l3, .long (sL (fun j => sm_gl h 182 j * twN (stp G sh pl p ov) (gR G) f 0 (K j)) k), .null, .int (nI k)] [] h = some ([.long (sL (fun j => sm_gl h 182 j * twN (stp G sh pl p ov) (gR G) f 0 (K j)) n)], h)
  | 0, k, e => by
    have : k = n := by omega
    subst this
    rw [b241_246, H.2.1.1.1, if_pos (Int32.le_refl _), b241_291]
  | m + 1, k, e => by
    have ih := m_ways_sum (l1 := l1) (l3 := l3) H hn hf m (k + 1) (by omega)
    have hw := H.1.2.1
    have ok := H.2.1.2.1 k (by omega)
    have hv := H.2.1.1.2.2.1 k (by omega)
    have hlt := sdX_lt hw ok
    obtain ⟨o1, o2, o3, o4⟩ := ok.b hw
    obtain ⟨-, -, -, p4⟩ := sdX_parts o1 o2 o3
    rw [sL_s] at ih
    rw [b241_246, H.2.1.1.1, if_neg (by rw [nI_leI (by omega) (by omega)]; omega), b241_255]
    simp (disch := omega) only [in_177, if_true, nI_clamp, hv.1]
    rw [en_226, b226_0, pk_div (by omega) (by decide) (by decide), p4, bnd]
    simp only [app1, List.cons_append, List.nil_append]
    rw [b241_267]
    by_cases z : xF (K k) = f
    · rw [show twN (stp G sh pl p ov) (gR G) f 0 (K k) = 1 from if_pos z, Int64.mul_one] at ih
      rw [if_pos (by rw [z]), b241_271]
      simp (disch := omega) only [in_182, if_true, nI_clamp]
      rw [b241_282, nI_add]
      exact ih
    · rw [show twN (stp G sh pl p ov) (gR G) f 0 (K k) = 0 from if_neg z, Int64.mul_zero] at ih
      rw [if_neg (by rw [nI_eq (by omega) hf]; exact z), b241_281, b241_282, nI_add]
      exact ih
theorem m_ways_loop {l1 : Int32} {N f : Nat} (H : mN h G sh pl p ov n K x0) (hn : n ≤ 3840) (hN : N ≤ 9) (hf : f < 2 ^ 31) : ∀ (m i : Nat) (h1 : sm_H) (l5 l6 : Value), i + m = N → sL (fun j => sm_gl h1 182 j * twN (stp G sh pl p ov) (gR G) f m (K j)) n = twN (stp G sh pl p ov) (gR G) f N x0 → eqx sxYm h h1 → ∃ h2, xe 6 241 87 [.ref 169, .int l1, .int (nI f), .int (nI N), .int (nI i), l5, l6] [] h1 = some ([.long (twN (stp G sh pl p ov) (gR G) f N x0)], h2) ∧ eqx sxYm h h2
  | 0, i, h1, l5, l6, e, a, E => by
    have : i = N := by omega
    subst this
    rw [b241_87, if_pos (Int32.le_refl _), b241_240]
    refine ⟨h1, ?_, E⟩
    have := m_ways_sum (l1 := l1) (l3 := nI i) (mN_Y H E) hn hf n 0 (by omega)
    rw [a] at this
    exact this
  | m + 1, i, h1, l5, l6, e, a, E => by
    have H1 := mN_Y H E
    rw [b241_87, if_neg (by rw [nI_leI (by omega) (by omega)]; omega), b241_93]
    obtain ⟨h2, e2, a2, E2⟩ := m_ways_zero (l1 := l1) (l2 := nI f) (l3 := nI N) (l4 := nI i) (l6 := l6) H1 hn n 0 h1 (by omega) (fun j hj => absurd hj (by omega)) eqx.rf
    have H2 := mN_Y H1 (E2.wk (fun c i z => by unfold sxYm; omega))
    rw [e2, b241_119]
    obtain ⟨h3, l6', e3, a3, E3⟩ := m_ways_out (l1 := l1) (l2 := nI f) (l3 := nI N) (l4 := nI i) (wv := fun j => sm_gl h2 182 j) (t := twN (stp G sh pl p ov) (gR G) f m) H2 hn (fun j hj => rfl) n 0 h2 l6 (by omega) (by rw [sL_zero n (fun j hj => by rw [a2 j hj, Int64.zero_mul])]; rfl) eqx.rf
    have H3 := mN_Y H2 (E3.wk (fun c i z => by unfold sxYm; omega))
    rw [e3, b241_202]
    obtain ⟨h4, e4, a4, E4⟩ := m_ways_copy (l1 := l1) (l2 := nI f) (l3 := nI N) (l4 := nI i) (l6 := l6') (wv := fun j => sm_gl h3 183 j) H3 hn (fun j hj => rfl) n 0 h3 (by omega) (fun j hj => absurd hj (by omega)) eqx.rf
    rw [e4, b241_234, nI_add]
    refine m_ways_loop H hn hN hf m (i + 1) h4 _ _ (by omega) ?_ (((E.tr (E2.wk (fun c i z => by unfold sxYm; omega))).tr (E3.wk (fun c i z => by unfold sxYm; omega))).tr (E4.wk (fun c i z => by unfold sxYm; omega)))
    rw [← a, sL_congr (g := fun j => sm_gl h3 183 j * twN (stp G sh pl p ov) (gR G) f m (K j)) n (fun j hj => by rw [a4 j hj]), a3]
    exact sL_congr n (fun j hj => by rw [E2.2.1 182 j (by omega)]; rfl)
theorem m_ways {p q n : Int32} (S : mS h G W L B) (hx : wfX G) (X : mX h) : ∃ h2, xc 241 [.ref 169, .int p, .int q, .int n] h = some ([.long (aWays G W p q n)], h2) ∧ mS h2 G W L B ∧ mX h2 ∧ eqx sxZ h h2 := by
  have hP := S.1.2.2.1
  have hN := S.1.1.2
  have S0 := mS_thrown (v := nI 0) S
  have X0 := mX_thrown (v := nI 0) X
  rw [en_241, b241_0, b241_5, m_isWay S0, bnd]
  simp only [app1, List.cons_append, List.nil_append]
  rw [b241_11]
  unfold aWays
  by_cases hc : isN p.toInt64 (gP G) ∧ isN q.toInt64 (gN G)
  · rw [if_neg (by rw [bI_z]; exact fun z => z hc), if_pos hc, b241_18, m_within, bnd]
    simp only [app1, List.cons_append, List.nil_append]
    rw [b241_27, fa_litL 0, fa_litL 9, bI_congr (isN_w (by decide))]
    by_cases hn : isN n.toInt64 10
    · rw [if_neg (by rw [bI_z]; exact fun z => z hn), if_pos hn]
      obtain ⟨p, hp, rfl⟩ := isN_nI hc.1 (by omega)
      obtain ⟨f, hf, rfl⟩ := isN_nI hc.2 (by omega)
      obtain ⟨n, hn, rfl⟩ := isN_nI hn (by omega)
      rw [toN_nI (by omega), toN_nI (by omega), toN_nI (by omega), b241_34]
      obtain ⟨a1, a2, a3, a4, a5, a6⟩ := mS_at S0 hp
      obtain ⟨n0, K0, V0⟩ := X0
      simp (disch := omega) only [nI_add, in_170, if_true, nI_clamp, a3]
      obtain ⟨nn, K, h2, e2, C2, L2, cm2, E2⟩ := m_laysStands (ov := false) (mS_C S0 hx hp) V0 a1 a2 a4 a5 a6
      have H2 : mN h2 G (wSh W) none p false nn K (xS W p) := ⟨C2, L2, cm2⟩
      rw [show nI (if false = true then 1 else 0) = nI 0 from rfl] at e2
      rw [e2, bnd]
      simp only [List.nil_append]
      rw [b241_49]
      have hfew := mN_few H2 rfl
      obtain ⟨h3, e3, b3, E3⟩ := m_ways_init (l1 := nI p) (l2 := nI f) (l3 := nI n) H2 hfew nn 0 h2 (by omega) (fun j hj => absurd hj (by omega)) eqx.rf
      rw [e3, b241_84]
      obtain ⟨h4, e4, E4⟩ := m_ways_loop (l1 := nI p) (N := n) (f := f) H2 hfew (by omega) (by omega) n 0 h3 .null .null (by omega) (by
        rw [sL_one (i := 0) nn L2.2.2.1 (fun j hj z => by rw [b3 j hj, if_neg z, Int64.zero_mul]), b3 0 L2.2.2.1, if_pos rfl, Int64.one_mul, L2.2.2.2.1]
        rfl) E3
      have E5 : eqx sxZ (sm_si h 169 0 (nI 0)) h4 := (E2.wk sxS_Z).tr (E4.wk sxYm_Z)
      exact ⟨h4, e4, mS_Z S0 E5, mN_X (mN_Y H2 E4), Z_thrown E5⟩
    · rw [if_pos (by rw [bI_z]; exact hn), if_neg hn, b241_30]
      exact ⟨_, rfl, S0, X0, Z_thrown eqx.rf⟩
  · rw [if_pos (by rw [bI_z]; exact hc), if_neg hc, b241_14]
    exact ⟨_, rfl, S0, X0, Z_thrown eqx.rf⟩
end WYM
