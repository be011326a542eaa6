/-! ===== the class: told deeds, draws, a year ===== -/
theorem doV_k {G : LG} {W : WG} {k : Nat} (hk : k ≤ 3019) : doV G W (lN k) = if k < 1000 then goW G W (k / 100) (k % 100) ((toF G (k % 100) (wAt W (k / 100))).getD 0) else if k < 2000 then giveW W ((k - 1000) / 100) (k / 10 % 10) (k % 10) else if k < 3000 then forgeW W (k - 2000) else sSh W (wSh W ^^^ 2 ^ (k - 3000)) := by
  unfold doV
  rw [if_neg (lN_m1 (by omega)), lN_toInt (by omega), Int.toNat_natCast]
  by_cases h1 : k < 1000
  · rw [if_pos (by omega), if_pos h1]
  rw [if_neg (by omega), if_neg h1]
  by_cases h2 : k < 2000
  · rw [if_pos (by omega), if_pos h2]
  rw [if_neg (by omega), if_neg h2]
  by_cases h3 : k < 3000
  · rw [if_pos (by omega), if_pos h3]
  rw [if_neg (by omega), if_neg h3]
theorem c_tryDeed {a B : Nat} {v : Int64} {G : LG} {W : WG} {h : sm_H} (ha : isAB a) (hE : cE h G) (hW : cW h a (gP G) W) (hww : wfW G B W) :
    ∃ h2, xc 26 [.ref 51, .ref a, .long v] h = some ([.int (nI (whyV G W v))], h2) ∧ cE h2 G ∧ cW h2 a (gP G) (if whyV G W v = 0 then doV G W v else W) ∧ eqx (sxA a) h h2 := by
  rw [en_26, b26_0]
  by_cases h1 : v = -1
  · rw [if_pos (by rw [lg_cmp_eq]; exact h1), b26_8]
    obtain ⟨h2, e2, E2, W2, X2⟩ := c_pass (n := 1) ha hE hW
    rw [e2, bnd]
    simp only [List.nil_append, b26_14]
    have w0 : whyV G W v = 0 := by unfold whyV; rw [if_pos h1]
    rw [w0, if_pos rfl, show doV G W v = dayW W (gP G) 1 from by unfold doV; rw [if_pos h1]]
    exact ⟨h2, rfl, E2, W2, X2.wk sxB_A⟩
  rw [if_neg (by rw [lg_cmp_eq]; exact h1), b26_16]
  have bad : whyV G W v = 1 → ∃ h2, xe 6 26 30 [.ref 51, .ref a, .long v, .null, .null] [] h = some ([.int (nI (whyV G W v))], h2) ∧ cE h2 G ∧ cW h2 a (gP G) (if whyV G W v = 0 then doV G W v else W) ∧ eqx (sxA a) h h2 := by
    intro e
    rw [e, if_neg (by decide), b26_30]
    exact ⟨h, rfl, hE, hW, eqx.rf⟩
  by_cases h2 : v < 0
  · rw [if_pos (by rw [lg_cmp_lt]; exact h2)]; exact bad (whyV_out h1 (Or.inl h2))
  rw [if_neg (by rw [lg_cmp_lt]; exact h2), b26_22]
  by_cases h3 : v ≤ 3019
  rotate_left
  · rw [if_neg (by rw [lg_cmp_le]; exact h3)]; exact bad (whyV_out h1 (Or.inr (Int64.not_le.mp h3)))
  rw [if_pos (by rw [lg_cmp_le]; exact h3), b26_32]
  obtain ⟨k, -, hk, rfl⟩ := rng (lo := 0) (hi := 3019) (by decide) (by decide) ⟨Int64.not_lt.mp h2, h3⟩
  rw [lN_toInt32, whyV_k hk]
  have bad1 : ∃ h2, xe 6 26 154 [.ref 51, .ref a, .long (lN k), .null, .int (nI k)] [] h = some ([.int (nI 1)], h2) ∧ cE h2 G ∧ cW h2 a (gP G) W ∧ eqx (sxA a) h h2 := by
    rw [b26_154, b26_155]
    exact ⟨h, rfl, hE, hW, eqx.rf⟩
  by_cases k1 : k < 600
  · rw [if_neg (by rw [nI_leI (by omega) (by omega)]; omega), if_pos k1, b26_44, pk_rem (by omega) (by decide) (by decide), pk_div (by omega) (by decide) (by decide)]
    obtain ⟨h2, e2, E2, W2, X2⟩ := c_tryGo (p := nI (k / 100)) (r := nI (k % 100)) ha hE hW hww
    rw [nI_l (by omega), nI_l (by omega)] at e2 W2
    rw [toN_nI (by omega), toN_nI (by omega)] at W2
    rw [e2, bnd]
    simp only [app1, List.cons_append, List.nil_append, b26_59]
    rw [doV_k hk, if_pos (show k < 1000 by omega)]
    exact ⟨h2, rfl, E2, W2, X2⟩
  rw [if_pos (by rw [nI_leI (by omega) (by omega)]; omega), if_neg k1, b26_60]
  by_cases k2 : k < 1000
  · rw [if_pos (by rw [nI_ltI (by omega) (by omega)]; exact k2), b26_104, if_pos (by rw [nI_ltI (by omega) (by omega)]; omega), b26_132, if_pos (by rw [nI_ltI (by omega) (by omega)]; omega)]
    rw [if_neg (by omega), if_neg (by omega), if_neg (by omega), if_neg (by decide)]
    exact bad1
  rw [if_neg (by rw [nI_ltI (by omega) (by omega)]; exact k2), b26_68]
  by_cases k3 : k < 2000
  · rw [if_neg (by rw [nI_leI (by omega) (by omega)]; omega), if_pos ⟨by omega, k3⟩, b26_76, pk_sub (a := k) (b := 1000) (by omega), pk_rem (a := k) (d := 10) (by omega) (by decide) (by decide), pk_div (a := k) (d := 10) (by omega) (by decide) (by decide), pk_rem (a := k / 10) (d := 10) (by omega) (by decide) (by decide), pk_div (a := k - 1000) (d := 100) (by omega) (by decide) (by decide)]
    obtain ⟨h2, e2, E2, W2, X2⟩ := c_tryGive (p := nI ((k - 1000) / 100)) (q := nI (k / 10 % 10)) (n := nI (k % 10)) ha hE hW hww
    rw [nI_l (by omega), nI_l (by omega), nI_l (by omega)] at e2 W2
    rw [toN_nI (by omega), toN_nI (by omega), toN_nI (by omega)] at W2
    rw [e2, bnd]
    simp only [app1, List.cons_append, List.nil_append, b26_103]
    rw [doV_k hk, if_neg (show ¬ k < 1000 by omega), if_pos k3]
    exact ⟨h2, rfl, E2, W2, X2⟩
  rw [if_pos (by rw [nI_leI (by omega) (by omega)]; omega), if_neg (by omega), b26_104, if_neg (by rw [nI_ltI (by omega) (by omega)]; exact k3), b26_112]
  by_cases k4 : k < 2010
  · rw [if_neg (by rw [nI_leI (by omega) (by omega)]; omega), if_pos ⟨by omega, k4⟩, b26_120, pk_sub (by omega)]
    obtain ⟨h2, e2, E2, W2, X2⟩ := c_tryForge (p := nI (k - 2000)) ha hE hW hww
    rw [nI_l (by omega)] at e2 W2
    rw [toN_nI (by omega)] at W2
    rw [e2, bnd]
    simp only [app1, List.cons_append, List.nil_append, b26_131]
    rw [doV_k hk, if_neg (show ¬ k < 1000 by omega), if_neg k3, if_pos (show k < 3000 by omega)]
    exact ⟨h2, rfl, E2, W2, X2⟩
  rw [if_pos (by rw [nI_leI (by omega) (by omega)]; omega), if_neg (by omega), b26_132]
  by_cases k5 : k < 3000
  · rw [if_pos (by rw [nI_ltI (by omega) (by omega)]; exact k5), if_neg (by omega), if_neg (by decide)]
    exact bad1
  rw [if_neg (by rw [nI_ltI (by omega) (by omega)]; exact k5), b26_140, pk_sub (by omega)]
  obtain ⟨h2, e2, E2, W2, X2⟩ := c_tryShut (r := nI (k - 3000)) ha hE hW hww
  rw [nI_l (by omega)] at e2 W2
  rw [toN_nI (by omega)] at W2
  rw [e2, bnd]
  simp only [app1, List.cons_append, List.nil_append, b26_151, b26_155]
  rw [doV_k hk, if_neg (show ¬ k < 1000 by omega), if_neg k3, if_neg k5]
  by_cases q : isN (lN (k - 3000)) (gR G)
  · rw [if_pos q] at W2
    rw [if_pos q, if_pos ⟨by omega, q⟩, if_pos rfl]
    exact ⟨h2, rfl, E2, W2, X2⟩
  · rw [if_neg q] at W2
    rw [if_neg q, if_neg (fun z => q z.2), if_neg (by decide)]
    exact ⟨h2, rfl, E2, W2, X2⟩
/-- trays in the class -/
def cT (h : sm_H) (T : TG) : Prop := ∀ t, t < 4 → match T t with
  | none => sm_gi h 122 t = -1
  | some q => sm_gi h 123 t = nI q.1 ∧ q.1 ≤ 3 ∧ sm_gi h 122 t = nI q.2.length ∧ q.2.length ≤ 40 ∧ ∀ k, k < q.2.length → sm_gl h (118 + t) k = q.2.getD k 0
theorem cT_eqx {h h2 : sm_H} {T : TG} {S : Nat → Nat → Prop} (hT : cT h T) (E : eqx S h h2) (hS : ∀ c i, S c i → c < 118 ∨ 124 ≤ c) : cT h2 T := by
  intro t ht
  have H := hT t ht
  have e : ∀ c i, 118 ≤ c → c < 124 → sm_gi h2 c i = sm_gi h c i := fun c i a1 a2 => E.1 c i (fun z => by have := hS c i z; omega)
  have e2 : ∀ c i, 118 ≤ c → c < 124 → sm_gl h2 c i = sm_gl h c i := fun c i a1 a2 => E.2.1 c i (fun z => by have := hS c i z; omega)
  cases hq : T t with
  | none => rw [hq] at H; exact (e 122 t (by decide) (by decide)).trans H
  | some q =>
    rw [hq] at H
    exact ⟨(e 123 t (by decide) (by decide)).trans H.1, H.2.1, (e 122 t (by decide) (by decide)).trans H.2.2.1, H.2.2.2.1, fun k hk => (e2 (118 + t) k (by omega) (by omega)).trans (H.2.2.2.2 k hk)⟩
def sxC (a : Nat) : Nat → Nat → Prop := fun c i => sxA a c i ∨ (c = 51 ∧ (i = 2 ∨ i = 3))
theorem sxA_C {a : Nat} : ∀ c i, sxA a c i → sxC a c i := fun _ _ h => Or.inl h
theorem cE_C {h h2 : sm_H} {G : LG} (H : cE h G) (E : eqx (fun c i => c = 51 ∧ (i = 2 ∨ i = 3)) h h2) : cE h2 G := cE_eqx H E (fun c i z => by omega)
theorem cW_C {h h2 : sm_H} {a P : Nat} {W : WG} (ha : isAB a) (H : cW h a P W) (E : eqx (fun c i => c = 51 ∧ (i = 2 ∨ i = 3)) h h2) : cW h2 a P W := cW_eqx H E (fun c i z => by rcases ha with rfl | rfl <;> omega)
theorem rf117 : ∀ t, t < 4 → sm_rf 117 t = 118 + t := by decide +kernel
theorem in_122 {n : Nat} (hn : n < 4) : sm_in 122 (nI n) ↔ True := in_ln (by omega) hn
theorem in_123 {n : Nat} (hn : n < 4) : sm_in 123 (nI n) ↔ True := in_ln (by omega) hn
theorem in_117 {n : Nat} (hn : n < 4) : sm_in 117 (nI n) ↔ True := in_ln (by omega) hn
theorem ln118 : ∀ t, t < 4 → sm_ln (118 + t) = 40 := by decide +kernel
theorem in_118 {t n : Nat} (ht : t < 4) (hn : n < 40) : sm_in (118 + t) (nI n) ↔ True := in_ln (by omega) (by rw [ln118 t ht]; exact hn)
theorem kd118 : ∀ t, t < 4 → sm_kd (118 + t) = 3 := by decide +kernel
theorem c_doAll_loop {a t n : Nat} {G : LG} {f : Nat → Int64} {h : sm_H} (ha : isAB a) (ht : t < 4) (hn : n ≤ 40) (hm : sm_gi h 122 t = nI n) (hf : ∀ k, k < n → sm_gl h (118 + t) k = f k) : ∀ (vs : List Int64) (k B : Nat) (W : WG) (h1 : sm_H), k + vs.length = n → (∀ j, j < vs.length → f (k + j) = vs.getD j 0) → cE h1 G → cW h1 a (gP G) W → wfW G B W → sm_gi h1 51 2 = nI 0 → eqx (sxC a) h h1 →
    ∃ h2, xe 7 27 8 [.ref 51, .ref a, .ref 116, .int (nI t), .int (nI k)] [] h1 = some ([.int (nI (k + (tellF G W vs).1))], h2) ∧ cE h2 G ∧ cW h2 a (gP G) (tellF G W vs).2.2 ∧ sm_gi h2 51 2 = nI (tellF G W vs).2.1 ∧ eqx (sxC a) h h2
  | [], k, B, W, h1, e, hv, hE, hW, hww, h0, E => by
    have hk : k = n := by simpa using e
    subst hk
    have hm1 := (E.1 122 t (by unfold sxC sxA; rcases ha with rfl | rfl <;> omega)).trans hm
    rw [b27_8]
    simp (disch := omega) only [in_122, if_true, nI_clamp, hm1]
    rw [if_pos (Int32.le_refl _), b27_53]
    simp (disch := omega) only [in_122, if_true, nI_clamp, hm1]
    exact ⟨h1, rfl, hE, hW, h0, E⟩
  | v :: vs, k, B, W, h1, e, hv, hE, hW, hww, h0, E => by
    simp only [List.length_cons] at e
    have hm1 := (E.1 122 t (by unfold sxC sxA; rcases ha with rfl | rfl <;> omega)).trans hm
    have hv0 : sm_gl h1 (118 + t) k = v := by
      rw [E.2.1 (118 + t) _ (by unfold sxC sxA; rcases ha with rfl | rfl <;> omega), hf k (by omega)]
      have := hv 0 (by simp)
      simpa using this
    rw [b27_8]
    simp (disch := omega) only [in_122, if_true, nI_clamp, hm1]
    rw [if_neg (by rw [nI_leI (by omega) (by omega)]; omega), b27_19 (by rw [nI_clamp (by omega), rf117 t ht]; exact kd118 t ht)]
    simp (disch := omega) only [in_117, if_true, nI_clamp, rf117 t ht, in_118, hv0]
    obtain ⟨h2, e2, E2, W2, X2⟩ := c_tryDeed (v := v) ha hE hW hww
    rw [e2, bnd]
    simp only [app1, List.cons_append, List.nil_append]
    rw [b27_34, b27_37, gi_same]
    have hle := whyV_le (G := G) (W := W) (v := v)
    have E3 : eqx (sxC a) h (sm_si h2 51 2 (nI (whyV G W v))) := (E.tr (X2.wk sxA_C)).si (Or.inr ⟨rfl, Or.inl rfl⟩)
    have cE3 : cE (sm_si h2 51 2 (nI (whyV G W v))) G := cE_C E2 (eqx.rf.si ⟨rfl, Or.inl rfl⟩)
    have cW3 := cW_C ha W2 (eqx.rf.si (c := 51) (i := 2) (v := nI (whyV G W v)) ⟨rfl, Or.inl rfl⟩)
    unfold tellF
    by_cases q : whyV G W v = 0
    · rw [if_pos q] at cW3
      rw [if_pos (by rw [nI_z (by omega)]; exact q), if_pos q, b27_47, nI_add]
      obtain ⟨h5, e5, E5, W5, s5, X5⟩ := c_doAll_loop ha ht hn hm hf vs (k + 1) (B + 20) (doV G W v) _ (by omega) (fun j hj => by
        have := hv (j + 1) (by simp; omega)
        rw [show k + 1 + j = k + (j + 1) by omega, this]; rfl) cE3 cW3 (doV_wf hE.1 hww q) (by rw [gi_same, q]) E3
      refine ⟨h5, ?_, E5, W5, s5, X5⟩
      rw [e5, show k + 1 + (tellF G (doV G W v) vs).1 = k + ((tellF G (doV G W v) vs).1 + 1) by omega]
    · rw [if_neg q] at cW3
      rw [if_neg (by rw [nI_z (by omega)]; exact q), if_neg q, b27_44]
      exact ⟨_, rfl, cE3, cW3, gi_same, E3⟩
theorem c_doAll {a t B : Nat} {G : LG} {W : WG} {T : TG} {q : Nat × List Int64} {h : sm_H} (ha : isAB a) (hE : cE h G) (hW : cW h a (gP G) W) (hww : wfW G B W) (hT : cT h T) (ht : t < 4) (hq : T t = some q) :
    ∃ h2, xc 27 [.ref 51, .ref a, .ref 116, .int (nI t)] h = some ([.int (nI (tellF G W q.2).1)], h2) ∧ cE h2 G ∧ cW h2 a (gP G) (tellF G W q.2).2.2 ∧ sm_gi h2 51 2 = nI (tellF G W q.2).2.1 ∧ eqx (sxC a) h h2 := by
  have H := hT t ht
  rw [hq] at H
  rw [en_27, b27_0, b27_5]
  have X0 : eqx (fun c i => c = 51 ∧ (i = 2 ∨ i = 3)) h (sm_si h 51 2 (nI 0)) := eqx.rf.si ⟨rfl, Or.inl rfl⟩
  obtain ⟨h2, e2, E2, W2, s2, X2⟩ := c_doAll_loop (f := fun k => q.2.getD k 0) (h := h) ha ht H.2.2.2.1 H.2.2.1 H.2.2.2.2 q.2 0 B W _ (by omega) (fun j _ => by rw [Nat.zero_add]) (cE_C hE X0) (cW_C ha hW X0) hww gi_same (X0.wk (fun c i z => Or.inr z))
  rw [Nat.zero_add] at e2
  exact ⟨h2, e2, E2, W2, s2, X2⟩
theorem c_draw {b : Nat} {h : sm_H} (hb : 0 < b) (hb2 : b < 2 ^ 31) : xc 28 [.ref 51, .int (nI b)] h = some ([.int (nI (drN (lcg (sm_gi h 51 3)) b))], sm_si h 51 3 (lcg (sm_gi h 51 3))) := by
  have hlt : (lcg (sm_gi h 51 3)).toBitVec.toNat / 65536 < 2 ^ 31 := by
    have := (lcg (sm_gi h 51 3)).toBitVec.isLt
    omega
  have hm : (if nI 1 < nI b then nI b else nI 1) = nI b := by
    by_cases q : 1 < b
    · rw [if_pos (by rw [nI_ltI (by decide) hb2]; exact q)]
    · rw [if_neg (by rw [nI_ltI (by decide) hb2]; exact q), show b = 1 by omega]
  rw [en_28, b28_0, b28_15, gi_same, ushr16, c_max, hm, bnd]
  simp only [app1, List.cons_append, List.nil_append]
  rw [b28_27, if_neg (nI_ne0 hb hb2), show nI 1103515245 * sm_gi h 51 3 + nI 12345 = lcg (sm_gi h 51 3) from rfl, pk_rem hlt hb hb2]
  rfl
def sx51 : Nat → Nat → Prop := fun c i => c = 51 ∧ (i = 2 ∨ i = 3)
theorem c_drawDeed {h : sm_H} : ∃ h2, xc 29 [.ref 51] h = some ([.int (drw (sm_gi h 51 3)).1], h2) ∧ sm_gi h2 51 3 = (drw (sm_gi h 51 3)).2 ∧ eqx sx51 h h2 := by
  rw [en_29, b29_0, c_draw (by decide) (by decide), bnd]
  simp only [app1, List.cons_append, List.nil_append]
  have h5 : drN (lcg (sm_gi h 51 3)) 5 < 5 := Nat.mod_lt _ (by decide)
  generalize hx : sm_gi h 51 3 = x at *
  rw [b29_5]
  unfold drw
  by_cases c0 : drN (lcg x) 5 = 0
  · rw [if_pos (by rw [c0]; decide +kernel), if_pos c0, b29_10]
    exact ⟨_, rfl, gi_same, eqx.rf.si ⟨rfl, Or.inr rfl⟩⟩
  · rw [if_neg (by rw [nI_z (by omega)]; exact c0), if_neg c0, b29_12]
    by_cases c4 : drN (lcg x) 5 = 4
    · rw [if_pos (by rw [c4]), if_pos c4, b29_17, c_draw (by decide) (by decide), bnd]
      simp only [app1, List.cons_append, List.nil_append, gi_same, b29_26, nI_add]
      exact ⟨_, rfl, gi_same, (eqx.rf.si ⟨rfl, Or.inr rfl⟩).si ⟨rfl, Or.inr rfl⟩⟩
    · rw [if_neg (by rw [nI_eq (by omega) (by decide)]; exact c4), if_neg c4, b29_28, c_draw (by decide) (by decide), bnd]
      simp only [app1, List.cons_append, List.nil_append, gi_same]
      rw [b29_34]
      by_cases c3 : drN (lcg x) 5 = 3
      · rw [if_pos (by rw [c3]), if_pos c3]
        simp only [b29_40, b29_59, nI_add]
        exact ⟨_, rfl, gi_same, (eqx.rf.si ⟨rfl, Or.inr rfl⟩).si ⟨rfl, Or.inr rfl⟩⟩
      · rw [if_neg (by rw [nI_eq (by omega) (by decide)]; exact c3), if_neg c3, b29_48, c_draw (by decide) (by decide), bnd]
        simp only [app1, List.cons_append, List.nil_append, gi_same, b29_58, b29_59, pk_mul, nI_add]
        exact ⟨_, rfl, gi_same, ((eqx.rf.si ⟨rfl, Or.inr rfl⟩).si ⟨rfl, Or.inr rfl⟩).si ⟨rfl, Or.inr rfl⟩⟩
theorem c_year_loop {a n : Nat} {G : LG} {h : sm_H} {sd : Int32} (ha : isAB a) (hn : n ≤ 40) : ∀ (m k c B : Nat) (W : WG) (h1 : sm_H), k + m = n → c ≤ k → cE h1 G → cW h1 a (gP G) W → wfW G B W → eqx (sxC a) h h1 →
    ∃ h2, xe 7 30 11 [.ref 51, .ref a, .int sd, .int (nI n), .int (nI c), .int (nI k)] [] h1 = some ([.int (nI (c + (yearF G m W (sm_gi h1 51 3)).1))], h2) ∧ cE h2 G ∧ cW h2 a (gP G) (yearF G m W (sm_gi h1 51 3)).2 ∧ eqx (sxC a) h h2
  | 0, k, c, B, W, h1, e, hc, hE, hW, hww, E => by
    have hk : k = n := by omega
    subst hk
    rw [b30_11, if_pos (Int32.le_refl _), b30_39]
    exact ⟨h1, rfl, hE, hW, E⟩
  | m + 1, k, c, B, W, h1, e, hc, hE, hW, hww, E => by
    rw [b30_11, if_neg (by rw [nI_leI (by omega) (by omega)]; omega), b30_17]
    obtain ⟨h2, e2, a2, X2⟩ := c_drawDeed (h := h1)
    rw [e2, bnd]
    simp only [app1, List.cons_append, List.nil_append]
    rw [b30_23]
    obtain ⟨h3, e3, E3, W3, X3⟩ := c_tryDeed (v := (drw (sm_gi h1 51 3)).1.toInt64) ha (cE_C hE X2) (cW_C ha hW X2) hww
    rw [e3, bnd]
    simp only [app1, List.cons_append, List.nil_append]
    rw [b30_27]
    have hle := whyV_le (G := G) (W := W) (v := (drw (sm_gi h1 51 3)).1.toInt64)
    have E13 : eqx (sxC a) h h3 := (E.tr (X2.wk (fun c i q => Or.inr q))).tr (X3.wk sxA_C)
    have x3 : sm_gi h3 51 3 = (drw (sm_gi h1 51 3)).2 := by rw [X3.1 51 3 (by unfold sxA; rcases ha with rfl | rfl <;> omega)]; exact a2
    unfold yearF
    by_cases h0 : whyV G W (drw (sm_gi h1 51 3)).1.toInt64 = 0
    · rw [if_pos h0] at W3
      rw [if_pos (by rw [nI_z (by omega)]; exact h0), if_pos h0, b30_30, b30_33, nI_add, nI_add]
      obtain ⟨h5, e5, E5, W5, X5⟩ := c_year_loop (sd := sd) ha hn m (k + 1) (c + 1) (B + 20) _ h3 (by omega) (by omega) E3 W3 (doV_wf hE.1 hww h0) E13
      rw [x3] at e5 W5
      refine ⟨h5, ?_, E5, W5, X5⟩
      rw [e5, show c + 1 + (yearF G m (doV G W (drw (sm_gi h1 51 3)).1.toInt64) (drw (sm_gi h1 51 3)).2).1 = c + ((yearF G m (doV G W (drw (sm_gi h1 51 3)).1.toInt64) (drw (sm_gi h1 51 3)).2).1 + 1) by omega]
    · rw [if_neg h0] at W3
      rw [if_neg (by rw [nI_z (by omega)]; exact h0), if_neg h0, b30_33, nI_add]
      obtain ⟨h5, e5, E5, W5, X5⟩ := c_year_loop (sd := sd) ha hn m (k + 1) c B W h3 (by omega) (by omega) E3 W3 hww E13
      rw [x3] at e5 W5
      exact ⟨h5, e5, E5, W5, X5⟩
theorem c_liveYear {a n B : Nat} {G : LG} {W : WG} {h : sm_H} {sd : Int32} (ha : isAB a) (hn : n ≤ 40) (hE : cE h G) (hW : cW h a (gP G) W) (hww : wfW G B W) :
    ∃ h2, xc 30 [.ref 51, .ref a, .int sd, .int (nI n)] h = some ([.int (nI (yearF G n W sd).1)], h2) ∧ cE h2 G ∧ cW h2 a (gP G) (yearF G n W sd).2 ∧ eqx (sxC a) h h2 := by
  rw [en_30, b30_0, b30_5]
  have X0 : eqx sx51 h (sm_si h 51 3 sd) := eqx.rf.si ⟨rfl, Or.inr rfl⟩
  obtain ⟨h2, e2, E2, W2, X2⟩ := c_year_loop (sd := sd) ha hn n 0 0 B W _ (by omega) (Nat.le_refl 0) (cE_C hE X0) (cW_C ha hW X0) hww (X0.wk (fun c i z => Or.inr z))
  rw [gi_same, Nat.zero_add] at e2
  rw [gi_same] at W2
  exact ⟨h2, e2, E2, W2, X2⟩
