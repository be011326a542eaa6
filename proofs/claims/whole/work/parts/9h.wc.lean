/-! ===== ways: the class ===== -/
def dX (s : Nat) : XS := (0, s / 60 % 64, 9 - s / 6 % 10, s % 6)
theorem dX_cd {G : LG} {x : XS} (hw : wfG G) (ok : okX G x) (hm : xM x = 0) : dX (cdX x) = x := by
  obtain ⟨a, b, c, d⟩ := ok.b hw
  obtain ⟨p1, p2, p3, p4, -⟩ := cdX_parts b c d
  unfold dX
  rw [p1, p2, p3]
  obtain ⟨m1, m2, m3, m4⟩ := x
  have c1 : m3 ≤ 9 := c
  show (0, m2, 9 - (9 - m3), m4) = (m1, m2, m3, m4)
  rw [show 9 - (9 - m3) = m3 by omega, show m1 = 0 from hm]
theorem cd_dX {s : Nat} (hs : s < 3840) : cdX (dX s) = s := by
  show ((0 * 64 + s / 60 % 64) * 10 + (9 - (9 - s / 6 % 10))) * 6 + s % 6 = s
  omega
theorem sL_gap {F : Nat → Int64} {a : Nat} : ∀ m, (∀ i, i < m → F (a + i) = 0) → sL F (a + m) = sL F a
  | 0, _ => rfl
  | m + 1, h => by
    show sL F (a + m) + F (a + m) = sL F a
    rw [sL_gap m (fun i hi => h i (by omega)), h m (by omega), Int64.add_zero]
theorem sL_6 {F : Nat → Int64} {f k : Nat} (hf : f < 6) (h : ∀ i, i < 6 → i ≠ f → F (6 * k + i) = 0) : sL F (6 * (k + 1)) = sL F (6 * k) + F (6 * k + f) := by
  have h1 := sL_gap (F := F) (a := 6 * k) f (fun i hi => h i (by omega) (by omega))
  have h2 := sL_gap (F := F) (a := 6 * k + f + 1) (5 - f) (fun i hi => by rw [show 6 * k + f + 1 + i = 6 * k + (f + 1 + i) by omega]; exact h (f + 1 + i) (by omega) (by omega))
  rw [show 6 * (k + 1) = 6 * k + f + 1 + (5 - f) by omega, h2, sL_s, h1]
section WYC
variable {G : LG} {W : WG} {L : List WG} {B B' sh p mk : Nat} {pl : Option Nat} {x0 : XS} {h : sm_H}
/-- the two rows of tallies -/
def isTl (a : Nat) : Prop := a = 111 ∨ a = 112
theorem isTl.k {a : Nat} (h : isTl a) : sm_kd a = 3 := by rcases h with rfl | rfl <;> rfl
theorem isTl.l {a : Nat} (h : isTl a) : sm_ln a = 3840 := by rcases h with rfl | rfl <;> rfl
theorem isTl.i {a n : Nat} (h : isTl a) (hn : n < 3840) : sm_in a (nI n) := in_c (by rw [h.l]; exact hn) (by omega)
def sxUc : Nat → Nat → Prop := fun c i => sxP c i ∨ c = 111 ∨ c = 112
theorem sxUc_P : ∀ c i, sxP c i → sxUc c i := fun c i z => Or.inl z
def sxUa (a : Nat) : Nat → Nat → Prop := fun c i => sxP c i ∨ c = a
theorem sxUa_U {a : Nat} (h : isTl a) : ∀ c i, sxUa a c i → sxUc c i := fun c i z => by
  unfold sxUa at z; unfold sxUc; rcases z with z | z
  · exact Or.inl z
  · rcases h with rfl | rfl
    · exact Or.inr (Or.inl z)
    · exact Or.inr (Or.inr z)
theorem cQ_U {h2 : sm_H} {a : Nat} (Q : cQ h G sh pl p false mk x0) (hE : cE h2 G) (E : eqx (sxUa a) h h2) (ha : isTl a) : cQ h2 G sh pl p false mk x0 := cQ_eqx Q hE E (fun c i z => by unfold sxUa sxP at z; rcases ha with rfl | rfl <;> omega)
theorem cE_sl {a s : Nat} {v : Int64} (hE : cE h G) (ha : isTl a) : cE (sm_sl h a s v) G := cE_eqx hE (S := fun c _ => c = a) (eqx.rf.sl rfl) (fun c i z => by rcases ha with rfl | rfl <;> omega)
theorem c_fillT {a : Nat} {v : Int64} (ha : isTl a) : ∃ h2, xc 287 [.ref a, .long v] h = some ([], h2) ∧ (∀ i, i < 3840 → sm_gl h2 a i = v) ∧ eqx (fun c _ => c = a) h h2 := by
  rw [en_287, b287_0 ha.k, ha.l]
  exact c_fillJ_loop (h := h) ha.k ha.l (by decide) 3840 0 h (by omega) (fun i hi => absurd hi (by omega)) eqx.rf
/-- a tally: only states that can be have ways -/
def tlOK (h : sm_H) (G : LG) (a : Nat) : Prop := ∀ s, s < 3840 → sm_gl h a s ≠ 0 → okX G (dX s)
theorem c_tally_in {a1 a2 s N : Nat} {wv : Nat → Int64} {t : XS → Int64} {A : Int64} (hN : N = 3840) (h1 : isTl a1) (h2 : isTl a2) (h12 : a1 ≠ a2) (hs : s < 3840) (hwv : ∀ j, j < 3840 → sm_gl h a1 j = wv j) (hnz : wv s ≠ 0) (ok : okX G (dX s)) : ∀ (m r : Nat) (hh : sm_H) (l5 : Value), r + m = gR G → cQ hh G sh pl p false mk x0 → tlOK hh G a2 → sL (fun j => sm_gl hh a2 j * t (dX j)) N = A + wv s * sL (stepT (stp G sh pl p false) t (dX s)) r → eqx (sxUa a2) h hh → ∃ h3 l6, xe 5 93 17 [.ref 104, .ref a1, .ref a2, .int (nI s), .int (nI r), l5] [] hh = xe 5 93 68 [.ref 104, .ref a1, .ref a2, .int (nI s), .int (nI (gR G)), l6] [] h3 ∧ cQ h3 G sh pl p false mk x0 ∧ tlOK h3 G a2 ∧ sL (fun j => sm_gl h3 a2 j * t (dX j)) N = A + wv s * sL (stepT (stp G sh pl p false) t (dX s)) (gR G) ∧ eqx (sxUa a2) h h3
  | 0, r, hh, l5, e, Q, tl, a, E => by
    have : r = gR G := by omega
    subst this
    rw [b93_17, show sm_gi hh 2 2 = nI (gR G) from Q.1.2.2.1.1.2.1, if_pos (Int32.le_refl _)]
    exact ⟨hh, l5, rfl, Q, tl, a, E⟩
  | m + 1, r, hh, l5, e, Q, tl, a, E => by
    have hw := Q.1.1
    have hx := Q.1.2.1
    have hR := hw.2.1
    have nP : ∀ i, ¬ sxP a1 i := fun i z => by unfold sxP at z; rcases h1 with rfl | rfl <;> omega
    have nP2 : ∀ i, ¬ sxP a2 i := fun i z => by unfold sxP at z; rcases h2 with rfl | rfl <;> omega
    have gw : sm_gl hh a1 s = wv s := (E.2.1 a1 s (fun z => z.elim (nP s) h12)).trans (hwv s hs)
    rw [b93_17, show sm_gi hh 2 2 = nI (gR G) from Q.1.2.2.1.1.2.1, if_neg (by rw [nI_leI (by omega) (by omega)]; omega), b93_29 h1.k, if_pos (h1.i hs), nI_clamp (by omega), gw, if_neg (by rw [lg_cmp_eq]; exact hnz), b93_37]
    obtain ⟨h4, e4, C4, E4⟩ := c_behind (x := dX s) (r := r) Q ok (Or.inr rfl) (by omega)
    rw [cd_dX hs] at e4
    rw [e4, bnd]
    simp only [app1, List.cons_append, List.nil_append]
    have Ea : eqx (sxUa a2) hh h4 := E4.wk (fun c i z => Or.inl z)
    have Q4 := cQ_U Q C4 Ea h2
    have g2 : ∀ j, sm_gl h4 a2 j = sm_gl hh a2 j := fun j => E4.2.1 a2 j (nP2 j)
    have hst : stepT (stp G sh pl p false) t (dX s) r = match stp G sh pl p false (dX s) r with
        | none => 0
        | some y => t y := rfl
    have tl4 : tlOK h4 G a2 := fun s' hs' z => tl s' hs' (by rw [g2] at z; exact z)
    have a4 : sL (fun j => sm_gl h4 a2 j * t (dX j)) N = A + wv s * sL (stepT (stp G sh pl p false) t (dX s)) r := (sL_congr _ (fun j _ => by rw [g2])).trans a
    rw [b93_44]
    cases hy : stp G sh pl p false (dX s) r with
    | none =>
      rw [hy] at hst
      rw [show stI none = -1 from rfl, if_pos rfl, b93_62, nI_add]
      refine c_tally_in hN h1 h2 h12 hs hwv hnz ok m (r + 1) h4 _ (by omega) Q4 tl4 ?_ (E.tr Ea)
      rw [a4, sL_s, hst, Int64.add_zero]
    | some y =>
      rw [hy] at hst
      have oy := stp_ok hw hx ok hy
      have my : xM y = 0 := by
        obtain ⟨t', -, -, e⟩ := stp_def hy
        rw [e]; rfl
      have hc := (cdX_lt hw oy).2 my
      rw [show stI (some y) = nI (cdX y) from rfl, if_neg (by rw [nI_m1 (by omega)]; exact id), b93_52 h2.k h1.k, if_pos (h2.i hc), if_pos (h1.i hs), if_pos (h2.i hc), nI_clamp (by omega), nI_clamp (by omega), b93_62, nI_add]
      have gw4 : sm_gl h4 a1 s = wv s := (E4.2.1 a1 s (nP s)).trans gw
      refine c_tally_in hN h1 h2 h12 hs hwv hnz ok m (r + 1) _ _ (by omega) (cQ_U Q4 (cE_sl C4 h2) (eqx.rf.sl (Or.inr rfl)) h2) (fun s' hs' z => ?_) ?_ ((E.tr Ea).sl (Or.inr rfl))
      · by_cases y' : s' = cdX y
        · subst y'
          rw [dX_cd hw oy my]
          exact oy
        · rw [gl_slot (by omega)] at z
          exact tl4 s' hs' z
      · rw [sL_up (f := fun j => sm_gl h4 a2 j) (v := wv s) (i := cdX y) (g := fun j => sm_gl (sm_sl h4 a2 (cdX y) (sm_gl h4 a2 (cdX y) + sm_gl h4 a1 s)) a2 j) (t := fun j => t (dX j)) N (by omega) (fun j hj z => gl_slot (by omega)) (by rw [gl_same, gw4]), a4, sL_s, hst, dX_cd hw oy my, Int64.mul_add, Int64.add_assoc]
theorem c_tally_out {a1 a2 N : Nat} {wv : Nat → Int64} {t : XS → Int64} (hN : N = 3840) (h1 : isTl a1) (h2 : isTl a2) (h12 : a1 ≠ a2) (hwv : ∀ j, j < 3840 → sm_gl h a1 j = wv j) (hok : ∀ s, s < 3840 → wv s ≠ 0 → okX G (dX s)) : ∀ (m s : Nat) (hh : sm_H) (l4 l5 : Value), s + m = 3840 → cQ hh G sh pl p false mk x0 → tlOK hh G a2 → sL (fun j => sm_gl hh a2 j * t (dX j)) N = sL (fun j => wv j * sL (stepT (stp G sh pl p false) t (dX j)) (gR G)) s → eqx (sxUa a2) h hh → ∃ h3, xe 5 93 7 [.ref 104, .ref a1, .ref a2, .int (nI s), l4, l5] [] hh = some ([], h3) ∧ cQ h3 G sh pl p false mk x0 ∧ tlOK h3 G a2 ∧ sL (fun j => sm_gl h3 a2 j * t (dX j)) N = sL (fun j => wv j * sL (stepT (stp G sh pl p false) t (dX j)) (gR G)) N ∧ eqx (sxUa a2) h h3
  | 0, s, hh, l4, l5, e, Q, tl, a, E => by
    have : s = 3840 := by omega
    subst this
    rw [b93_7, if_pos (Int32.le_refl _), b93_74]
    exact ⟨hh, rfl, Q, tl, by rw [hN] at a ⊢; exact a, E⟩
  | m + 1, s, hh, l4, l5, e, Q, tl, a, E => by
    have hw := Q.1.1
    have hR := hw.2.1
    have nP : ∀ i, ¬ sxP a1 i := fun i z => by unfold sxP at z; rcases h1 with rfl | rfl <;> omega
    have gw : sm_gl hh a1 s = wv s := (E.2.1 a1 s (fun z => z.elim (nP s) h12)).trans (hwv s (by omega))
    rw [b93_7, if_neg (by rw [nI_leI (by omega) (by omega)]; omega), b93_14]
    by_cases z : wv s = 0
    · have ex : xe 5 93 17 [.ref 104, .ref a1, .ref a2, .int (nI s), .int (nI 0), l5] [] hh = xe 5 93 68 [.ref 104, .ref a1, .ref a2, .int (nI s), .int (nI 0), l5] [] hh := by
        rw [b93_17]
        by_cases y : sm_gi hh 2 2 ≤ nI 0
        · rw [if_pos y]
        · rw [if_neg y, b93_29 h1.k, if_pos (h1.i (by omega)), nI_clamp (by omega), gw, if_pos (by rw [lg_cmp_eq]; exact z)]
      rw [ex, b93_68, nI_add]
      refine c_tally_out hN h1 h2 h12 hwv hok m (s + 1) hh _ _ (by omega) Q tl ?_ E
      rw [a, sL_s, z, Int64.zero_mul, Int64.add_zero]
    · obtain ⟨h3, l5', e3, Q3, tl3, a3, E3⟩ := c_tally_in (t := t) hN h1 h2 h12 (show s < 3840 by omega) hwv z (hok s (by omega) z) (gR G) 0 hh l5 (by omega) Q tl (by rw [show sL (stepT (stp G sh pl p false) t (dX s)) 0 = 0 from rfl, Int64.mul_zero, Int64.add_zero]) E
      rw [e3, b93_68, nI_add]
      exact c_tally_out hN h1 h2 h12 hwv hok m (s + 1) h3 _ _ (by omega) Q3 tl3 (by rw [a3, a]; rfl) E3
theorem c_tallyStep {a1 a2 N : Nat} {t : XS → Int64} (hN : N = 3840) (h1 : isTl a1) (h2 : isTl a2) (h12 : a1 ≠ a2) (Q : cQ h G sh pl p false mk x0) (tl : tlOK h G a1) : ∃ h3, xc 93 [.ref 104, .ref a1, .ref a2] h = some ([], h3) ∧ cQ h3 G sh pl p false mk x0 ∧ tlOK h3 G a2 ∧ sL (fun j => sm_gl h3 a2 j * t (dX j)) N = sL (fun j => sm_gl h a1 j * sL (stepT (stp G sh pl p false) t (dX j)) (gR G)) N ∧ eqx (sxUa a2) h h3 := by
  obtain ⟨h4, e4, z4, E4⟩ := c_fillT (h := h) (v := 0) h2
  have Ea : eqx (sxUa a2) h h4 := E4.wk (fun c i z => Or.inr z)
  have Q4 := cQ_U Q (cE_eqx Q.1 E4 (fun c i z => by rcases h2 with rfl | rfl <;> omega)) Ea h2
  rw [en_93, b93_0, e4, bnd]
  simp only [List.nil_append]
  rw [b93_5]
  exact c_tally_out (h := h) (t := t) (wv := fun j => sm_gl h a1 j) hN h1 h2 h12 (fun j hj => rfl) tl 3840 0 h4 .null .null (by omega) Q4 (fun s hs z => absurd (z4 s hs) z) (by rw [sL_zero N (fun j hj => by rw [z4 j (by omega), Int64.zero_mul])]; rfl) Ea
def tlA (i : Nat) : Nat := if i % 2 = 0 then 111 else 112
theorem tlA_is (i : Nat) : isTl (tlA i) := by unfold tlA isTl; split <;> omega
theorem tlA_rf {i : Nat} : sm_rf 110 (i % 2) = tlA i := by
  unfold tlA
  rcases (show i % 2 = 0 ∨ i % 2 = 1 by omega) with z | z <;> rw [z] <;> rfl
theorem tlA_rf1 {i : Nat} : sm_rf 110 (1 - i % 2) = tlA (i + 1) := by
  unfold tlA
  rcases (show i % 2 = 0 ∨ i % 2 = 1 by omega) with z | z
  · rw [z, if_neg (by omega)]; rfl
  · rw [z, if_pos (by omega)]; rfl
theorem tlA_ne {i : Nat} : tlA i ≠ tlA (i + 1) := by unfold tlA; split <;> split <;> omega
theorem c_ways_sum {n f N : Nat} {F : Nat → Int64} (hN : N = 6 * 640) (hn : n ≤ 9) (hf : f < 6) (hF : F = fun j => sm_gl h (tlA n) j * (if xF (dX j) = f then (1 : Int64) else 0)) : ∀ (m k : Nat), k + m = 640 → xe 6 92 74 [.ref 104, .int (nI f), .int (nI n), .long (sL F (6 * k)), .null, .int (nI (6 * k + f))] [] h = some ([.long (sL F N)], h)
  | 0, k, e => by
    have : k = 640 := by omega
    rw [b92_74, if_pos (by rw [nI_leI (by omega) (by omega)]; omega), b92_102, hN, this]
  | m + 1, k, e => by
    have ih := c_ways_sum hN hn hf hF m (k + 1) (by omega)
    have hxF : ∀ i, i < 6 → xF (dX (6 * k + i)) = i := fun i hi => by show (6 * k + i) % 6 = i; omega
    rw [sL_6 hf (fun i hi z => by rw [hF]; show _ * (if xF (dX (6 * k + i)) = f then (1 : Int64) else 0) = 0; rw [hxF i hi, if_neg z, Int64.mul_zero])] at ih
    have hFf : F (6 * k + f) = sm_gl h (tlA n) (6 * k + f) := by rw [hF]; show _ * (if xF (dX (6 * k + f)) = f then (1 : Int64) else 0) = _; rw [hxF f hf, if_pos rfl, Int64.mul_one]
    have hr : nI n - nI n / nI 2 * nI 2 = nI (n % 2) := pk_rem (by omega) (by decide) (by decide)
    have hc : (nI n - nI n / nI 2 * nI 2).toNatClampNeg = n % 2 := by rw [hr, nI_clamp (by omega)]
    rw [b92_74, if_neg (by rw [nI_leI (by omega) (by omega)]; omega), b92_82 (by rw [hc, tlA_rf]; exact (tlA_is n).k), if_pos (by rw [hr]; exact in_c (by rw [ln_110]; omega) (by omega)), if_pos (by rw [hc, tlA_rf]; exact (tlA_is n).i (by omega)), hc, tlA_rf, nI_clamp (by omega), nI_add, ← hFf, show 6 * k + f + 6 = 6 * (k + 1) + f by omega]
    exact ih
theorem c_ways_loop {n f N : Nat} (hN : N = 6 * 640) (hn : n ≤ 9) (hf : f < 6) : ∀ (m i : Nat) (hh : sm_H), i + m = n → cQ hh G sh pl p false mk x0 → tlOK hh G (tlA i) → sL (fun j => sm_gl hh (tlA i) j * twN (stp G sh pl p false) (gR G) f m (dX j)) N = twN (stp G sh pl p false) (gR G) f n x0 → eqx sxUc h hh → ∃ h3, xe 6 92 36 [.ref 104, .int (nI f), .int (nI n), .int (nI i), .null, .null] [] hh = some ([.long (twN (stp G sh pl p false) (gR G) f n x0)], h3) ∧ cE h3 G ∧ eqx sxUc h h3
  | 0, i, hh, e, Q, tl, a, E => by
    have : i = n := by omega
    subst this
    rw [b92_36, if_pos (Int32.le_refl _), b92_69]
    refine ⟨hh, ?_, Q.1, E⟩
    have := c_ways_sum (h := hh) (n := i) (f := f) hN hn hf rfl 640 0 (by omega)
    rw [show 6 * 0 + f = f by omega] at this
    refine this.trans ?_
    rw [← a]
    rfl
  | m + 1, i, hh, e, Q, tl, a, E => by
    have hr : nI i - nI i / nI 2 * nI 2 = nI (i % 2) := pk_rem (by omega) (by decide) (by decide)
    obtain ⟨h3, e3, Q3, tl3, a3, E3⟩ := c_tallyStep (t := twN (stp G sh pl p false) (gR G) f m) hN (tlA_is i) (tlA_is (i + 1)) tlA_ne Q tl
    rw [b92_36, if_neg (by rw [nI_leI (by omega) (by omega)]; omega), b92_41, hr, pk_sub (show i % 2 ≤ 1 by omega), if_pos (in_c (by rw [ln_110]; omega) (by omega)), if_pos (in_c (by rw [ln_110]; omega) (by omega)), nI_clamp (by omega), nI_clamp (by omega), tlA_rf, tlA_rf1, e3, bnd]
    simp only [List.nil_append]
    rw [b92_63, nI_add]
    exact c_ways_loop hN hn hf m (i + 1) h3 (by omega) Q3 tl3 (a3.trans a) (E.tr (E3.wk (sxUa_U (tlA_is _))))
theorem c_waysTo {n f : Nat} (Q : cQ h G sh pl p false mk x0) (hn : n ≤ 9) (hf : f < 6) : ∃ h3, xc 92 [.ref 104, .int (nI f), .int (nI n)] h = some ([.long (twN (stp G sh pl p false) (gR G) f n x0)], h3) ∧ cE h3 G ∧ eqx sxUc h h3 := by
  have hw := Q.1.1
  obtain ⟨ok0, m0⟩ := Q.2.2.1
  have hb := ok0.b hw
  have T0 : isTl 111 := Or.inl rfl
  obtain ⟨h4, e4, z4, E4⟩ := c_fillT (h := h) (v := 0) T0
  have Ea : eqx (sxUa 111) h h4 := E4.wk (fun c i z => Or.inr z)
  have Q4 := cQ_U Q (cE_eqx Q.1 E4 (fun c i z => by omega)) Ea T0
  obtain ⟨g2, g3, g4, g5⟩ := Q4.2.2.2.1
  have hx0 : (0, xB x0, xN x0, xF x0) = x0 := by obtain ⟨a, b, c, d⟩ := x0; rw [show a = 0 from m0]; rfl
  have hc := (cdX_lt hw ok0).2 m0
  have hin : sm_in 110 (nI 0) := in_c (by decide) (by decide)
  rw [en_92, b92_0, if_pos hin, show sm_rf 110 (nI 0).toNatClampNeg = 111 from rfl, e4, bnd]
  simp only [List.nil_append]
  rw [b92_10, if_pos hin, show sm_rf 110 (nI 0).toNatClampNeg = 111 from rfl, g3, g4, g5, c_state hb.2.2.1, hx0, bnd]
  simp only [app1, List.cons_append, List.nil_append]
  rw [b92_32 rfl, if_pos (T0.i hc), nI_clamp (by omega), b92_34]
  obtain ⟨N, hN⟩ : ∃ N, N = 6 * 640 := ⟨_, rfl⟩
  refine c_ways_loop (h := h) hN hn hf n 0 _ (by omega) (cQ_U Q4 (cE_sl Q4.1 T0) (eqx.rf.sl (Or.inr rfl)) T0) (fun s hs z => ?_) ?_ ((Ea.wk (sxUa_U T0)).sl (by unfold sxUc; omega))
  · by_cases y : s = cdX x0
    · subst y; rw [dX_cd hw ok0 m0]; exact ok0
    · refine absurd ?_ z
      show sm_gl _ 111 s = 0
      rw [gl_slot (by omega)]
      exact z4 s hs
  · show sL (fun j => sm_gl (sm_sl h4 111 (cdX x0) 1) 111 j * twN (stp G sh pl p false) (gR G) f n (dX j)) N = _
    rw [sL_one (i := cdX x0) N (by omega) (fun j hj z => by rw [gl_slot (by omega), z4 j (by omega), Int64.zero_mul]), gl_same, dX_cd hw ok0 m0, Int64.one_mul]
theorem c_ways {p q n : Int32} (S : cS h G W L B) (I : cI h B') : ∃ h2, xc 122 [.ref 0, .int p, .int q, .int n] h = some ([.long (aWays G W p q n)], h2) ∧ cS h2 G W L B ∧ cI h2 B' ∧ eqx sxW h h2 := by
  have hw := S.1.1
  have hN := hw.1.2
  have hP := hw.2.2.1
  unfold aWays
  rw [en_122, b122_0, c_hasPerson isD2 S.1.2.2.1.1.2.2.1 (by omega), bnd]
  simp only [app1, List.cons_append, List.nil_append]
  rw [b122_8]
  by_cases h1 : isN p.toInt64 (gP G)
  · rw [if_neg (by rw [bI_z]; exact fun z => z h1), b122_11, c_hasPlace isD2 S.1.2.2.1.1.1 (by omega), bnd]
    simp only [app1, List.cons_append, List.nil_append]
    rw [b122_19]
    by_cases h2 : isN q.toInt64 (gN G)
    · have hc : isN p.toInt64 (gP G) ∧ isN q.toInt64 (gN G) := ⟨h1, h2⟩
      rw [if_neg (by rw [bI_z]; exact fun z => z h2), if_pos hc, b122_26]
      by_cases h3 : isN n.toInt64 10
      · rw [if_pos h3]
        obtain ⟨p, hp, rfl⟩ := isN_nI h1 (by omega)
        obtain ⟨f, hf, rfl⟩ := isN_nI h2 (by omega)
        obtain ⟨n, hn, rfl⟩ := isN_nI h3 (by omega)
        rw [toN_nI (by omega), toN_nI (by omega), toN_nI (by omega), if_neg (by rw [show (0 : Int32) = nI 0 from rfl, nI_ltI (by omega) (by decide)]; omega), b122_30, if_pos (by rw [nI_leI (by omega) (by decide)]; omega), b122_40]
        obtain ⟨h4, e4, Q4, S4, E4⟩ := c_startAt S hp
        rw [e4, bnd]
        simp only [List.nil_append]
        obtain ⟨h5, e5, C5, E5⟩ := c_waysTo (n := n) (f := f) Q4 (by omega) (by omega)
        rw [b122_52, e5, bnd]
        simp only [app1, List.cons_append, List.nil_append]
        rw [b122_61]
        have E6 : eqx sxW h4 h5 := E5.wk (fun c i z => by unfold sxUc sxP at z; unfold sxW; omega)
        exact ⟨h5, rfl, cS_W S4 C5 E6, cI_eqx (cI_A4 I E4) E5 (fun c i z => by unfold sxUc sxP at z; omega), (E4.wk sxA4_W).tr E6⟩
      · rw [if_neg h3]
        have fin : ∃ h2, xe 7 122 36 [.ref 0, .int p, .int q, .int n] [] h = some ([.long (-3)], h2) ∧ cS h2 G W L B ∧ cI h2 B' ∧ eqx sxW h h2 := by
          rw [b122_36]
          exact ⟨h, rfl, S, I, eqx.rf⟩
        by_cases y : n < 0
        · rw [if_pos y]; exact fin
        · rw [if_neg y, b122_30, if_neg (fun z => h3 ?_)]
          · exact fin
          · rw [Int32.lt_iff_toInt_lt, show (0 : Int32).toInt = 0 from rfl] at y
            rw [Int32.le_iff_toInt_le, show (nI 9).toInt = 9 from rfl] at z
            unfold isN
            rw [Int32.toInt_toInt64]
            omega
    · rw [if_pos (by rw [bI_z]; exact h2), if_neg (fun z : isN p.toInt64 (gP G) ∧ isN q.toInt64 (gN G) => h2 z.2), b122_22]
      exact ⟨h, rfl, S, I, eqx.rf⟩
  · rw [if_pos (by rw [bI_z]; exact h1), if_neg (fun z : isN p.toInt64 (gP G) ∧ isN q.toInt64 (gN G) => h1 z.1), b122_22]
    exact ⟨h, rfl, S, I, eqx.rf⟩
end WYC
