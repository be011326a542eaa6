/-! ===== the class: both laws, and what is kept of them ===== -/
def nbr (G : LG) : Nat → Nat
  | 0 => 0
  | k + 1 => nbr G k + (if gBri G k = true then 1 else 0)
def cntB (f : Nat → Bool) : Nat → Nat
  | 0 => 0
  | k + 1 => cntB f k + (if f k = true then 1 else 0)
theorem nbr_cnt (G : LG) : ∀ k, nbr G k = cntB (gBri G) k
  | 0 => rfl
  | k + 1 => by unfold nbr cntB; rw [nbr_cnt G k]
theorem bsN_mod (f : Nat → Bool) (r : Nat) : ∀ k, r ≤ k → bsN f k % 2 ^ r = bsN f r
  | 0, h => by
    have : r = 0 := by omega
    subst this
    rfl
  | k + 1, h => by
    by_cases q : r = k + 1
    · subst q
      exact Nat.mod_eq_of_lt (bsN_lt f _)
    · have ih := bsN_mod f r k (by omega)
      obtain ⟨m, hm⟩ : ∃ m, 2 ^ k = 2 ^ r * m := ⟨2 ^ (k - r), by rw [← Nat.pow_add]; congr 1; omega⟩
      rw [show bsN f (k + 1) = bsN f k + (if f k = true then 2 ^ k else 0) from rfl]
      split
      · rw [hm, Nat.add_mul_mod_self_left, ih]
      · rw [Nat.add_zero, ih]
theorem pcnt_bsN (f : Nat → Bool) (k : Nat) : ∀ m, pcnt (bsN f k) m = cntB f (min m k)
  | 0 => by rw [Nat.zero_min]; rfl
  | m + 1 => by
    have ih := pcnt_bsN f k m
    rw [show pcnt (bsN f k) (m + 1) = pcnt (bsN f k) m + bsN f k / 2 ^ m % 2 from rfl, ih]
    by_cases q : m < k
    · rw [bsN_bit f k m q, show min (m + 1) k = m + 1 by omega, show min m k = m by omega]
      rfl
    · rw [Nat.div_eq_of_lt (Nat.lt_of_lt_of_le (bsN_lt f k) (Nat.pow_le_pow_right (by decide) (by omega))), show min (m + 1) k = k by omega, show min m k = k by omega]
      rfl
theorem cntB_le (f : Nat → Bool) : ∀ k, cntB f k ≤ k
  | 0 => Nat.le_refl _
  | k + 1 => by have := cntB_le f k; unfold cntB; split <;> omega
theorem cntB_mono (f : Nat → Bool) {a : Nat} : ∀ b, a ≤ b → cntB f a ≤ cntB f b
  | 0, h => by rw [show a = 0 by omega]; exact Nat.le_refl _
  | b + 1, h => by
    by_cases q : a = b + 1
    · subst q; exact Nat.le_refl _
    · have := cntB_mono f (a := a) b (by omega); rw [show cntB f (b + 1) = cntB f b + (if f b = true then 1 else 0) from rfl]; omega
theorem cntB_lt (f : Nat → Bool) {a b : Nat} (h : a < b) (ha : f a = true) : cntB f a < cntB f b := by
  have := cntB_mono f (a := a + 1) b (by omega)
  rw [show cntB f (a + 1) = cntB f a + (if f a = true then 1 else 0) from rfl, if_pos ha] at this
  omega
theorem cntB_inj (f : Nat → Bool) {a b : Nat} (ha : f a = true) (hb : f b = true) (e : cntB f a = cntB f b) : a = b := by
  rcases Nat.lt_trichotomy a b with q | q | q
  · have := cntB_lt f q ha; omega
  · exact q
  · have := cntB_lt f q hb; omega
/-- more of what a land keeps -/
def wfX (G : LG) : Prop := nbr G (gR G) ≤ 4 ∧ ∀ p, p < gP G → gBy G p = -1 ∨ ∃ n, n ≤ 999 ∧ gBy G p = nI n
theorem c_bridgesBefore {o r : Nat} {G : LG} {h : sm_H} (ho : sm_isD o) (hG : cG h o G) (hw : wfG G) (hr : r ≤ gR G) : xc 37 [.ref o, .int (nI r)] h = some ([.int (nI (nbr G r))], h) := by
  have hR := hw.2.1
  have e : (sm_gi h o 4 &&& ((nI 1 <<< (nI r &&& 31)) - nI 1)) = nI (bsN (gBri G) r) := by
    rw [hG.1.2.2.2, shl1 (by omega), sub1 (Nat.two_pow_pos r), fa_mask]
    unfold gBs
    rw [bsN_mod _ _ _ hr]
  have hlt : bsN (gBri G) r < 4096 := Nat.lt_of_lt_of_le (bsN_lt _ _) (Nat.pow_le_pow_right (n := 2) (by decide) (show r ≤ 12 by omega))
  rw [en_37, b37_0 ho, e, c_bitCount hlt]
  simp only [bnd, app1, b37_13]
  rw [pcnt_bsN, show min 12 r = r by omega, nbr_cnt]
theorem c_max {a b : Int32} {h : sm_H} : xc 282 [.int a, .int b] h = some ([.int (if a < b then b else a)], h) := by
  rw [en_282]
  simp only [b282_0, b282_5, b282_9, b282_10]
  by_cases q : a < b
  · rw [if_pos q, if_pos q]
  · rw [if_neg q, if_neg q]
theorem c_min {a b : Int32} {h : sm_H} : xc 284 [.int a, .int b] h = some ([.int (if a ≤ b then a else b)], h) := by
  rw [en_284]
  simp only [b284_0, b284_5, b284_9, b284_10]
  by_cases q : a ≤ b
  · rw [if_pos q]; first | rw [if_pos q] | rw [if_neg (Int32.not_lt.mpr q)]
  · rw [if_neg q]; first | rw [if_neg q] | rw [if_pos (Int32.not_le.mp q)]
def sx49 : Nat → Nat → Prop := fun c _ => c = 49
theorem toF_other {G : LG} {r f t : Nat} (hne : gOne G r ≠ gOth G r) (h : toF G r f = some t) : (if gOth G r = t then gOne G r else gOth G r) = f := by
  unfold toF at h
  by_cases q : gOne G r = f
  · rw [if_pos q] at h
    cases h
    rw [if_pos rfl, q]
  · rw [if_neg q] at h
    by_cases q2 : gOth G r = f
    · rw [if_pos q2] at h
      cases h
      rw [if_neg (fun z => hne z.symm), q2]
    · rw [if_neg q2] at h; cases h
theorem isD2 : sm_isD 2 := by unfold sm_isD; exact kd_2
theorem isQ12 : sm_isQ 12 := by unfold sm_isQ; exact kd_12
theorem isQ15 : sm_isQ 15 := by unfold sm_isQ; exact kd_15
theorem in_ln {c n : Nat} (h : n < 2 ^ 31) (hn : n < sm_ln c) : sm_in c (nI n) ↔ True := iff_true_intro ((in_nI h).mpr hn)
theorem c_tell {p r f t b pap : Nat} {G : LG} {h : sm_H} (hG : cG h 2 G) (hw : wfG G) (hp : p < gP G) (hr : r < gR G) (ht : toF G r f = some t) (hb : b < 4096) :
    ∃ h2, xc 46 [.ref 48, .int (nI p), .int (nI r), .int (nI t), .int (nI b), .int (nI pap)] h = some ([], h2) ∧ (∀ j, j < 7 → sm_gi h2 49 j = wds p (gBor G p) pap b f t j) ∧ eqx sx49 h h2 := by
  have hR := hw.2.1
  have hP := hw.2.2.1
  have hv := hw.2.2.2.1 r hr
  have htl := toF_lt hw hr ht
  have hN := hw.1.2
  have i8 : sm_in 8 (nI p) ↔ True := in_ln (by omega) (by rw [ln_8]; omega)
  have i4 : sm_in 4 (nI r) ↔ True := in_ln (by omega) (by rw [ln_4]; omega)
  have i3 : sm_in 3 (nI r) ↔ True := in_ln (by omega) (by rw [ln_3]; omega)
  have g4 : sm_gi h 4 r = nI (gOth G r) := (hG.2.1 r hr).2.1
  have g3 : sm_gi h 3 r = nI (gOne G r) := (hG.2.1 r hr).1
  have g8 : sm_gi h 8 p = nI (gBor G p) := (hG.2.2.1 p hp).1
  have hoth := toF_other hv.2.2.1 ht
  rw [en_46]
  simp (disch := omega) only [b46_0, b46_7, b46_22, b46_34, b46_44, b46_45, b46_53, b46_71, b46_83, b46_92, b46_93, b46_101, in_49, i8, i4, i3, if_true, nI_clamp, gi_cell, g4, g3, g8, c_bitCount hb, bnd, app1, List.nil_append, List.cons_append, shr1, nI_eq]
  have fin : ∀ h2 : sm_H, h2 = sm_si (sm_si (sm_si (sm_si (sm_si (sm_si (sm_si h 49 0 (nI p)) 49 1 (nI (gBor G p))) 49 2 (nI (b / 2 ^ t % 2))) 49 3 (nI (pcnt b 12))) 49 4 (nI pap)) 49 5 (nI f)) 49 6 (nI t) → (∀ j, j < 7 → sm_gi h2 49 j = wds p (gBor G p) pap b f t j) ∧ eqx sx49 h h2 := by
    intro h2 e
    subst e
    refine ⟨fun j hj => ?_, by repeat (first | exact eqx.rf | refine eqx.si ?_ (show sx49 49 _ from rfl))⟩
    rcases j with _ | _ | _ | _ | _ | _ | _ | j
    · rfl
    · rfl
    · rfl
    · rfl
    · rfl
    · rfl
    · rfl
    · omega
  by_cases q : gOth G r = t
  · rw [if_pos q] at hoth
    rw [if_pos q]
    subst hoth
    exact ⟨_, rfl, fin _ rfl⟩
  · rw [if_neg q] at hoth
    rw [if_neg q]
    subst hoth
    exact ⟨_, rfl, fin _ rfl⟩
/-- values stay small -/
def rngV (v : Int32) : Prop := -1000000 ≤ v.toInt ∧ v.toInt ≤ 1000001
theorem rng_nI {n : Nat} (h : n ≤ 1000000) : rngV (nI n) := by unfold rngV; rw [nI_toInt (by omega)]; omega
theorem rng_clp (v : Int64) : rngV (clp v) := by
  unfold clp rngV
  by_cases h1 : v ≤ 1000000
  · rw [if_pos h1]
    by_cases h2 : -1000000 ≤ v
    · rw [if_pos h2]
      rw [Int64.le_iff_toInt_le] at h1 h2
      have m1 : ((1000000 : Int64).toInt) = 1000000 := by decide +kernel
      have m2 : ((-1000000 : Int64).toInt) = -1000000 := by decide +kernel
      rw [m1] at h1
      rw [m2] at h2
      rw [Int64.toInt_toInt32, Int.bmod_eq_of_le (by omega) (by omega)]
      omega
    · rw [if_neg h2]; decide +kernel
  · rw [if_neg h1]; decide +kernel
theorem rng_not {y : Int32} (h : rngV y) : rngV (nI 1 - y) := by
  unfold rngV at h ⊢
  rw [Int32.toInt_sub, nI_toInt (by decide), Int.bmod_eq_of_le (by omega) (by omega)]
  omega
theorem rng_01 {v : Int32} (h : v = nI 0 ∨ v = nI 1) : rngV v := by rcases h with rfl | rfl <;> exact rng_nI (by decide)
def rngS (st : List Int32) : Prop := ∀ v, v ∈ st → rngV v
theorem rng_ev1 {w : Nat → Int32} (hw : ∀ j, rngV (w j)) {c : Nat} {ts ts' : List Bool} {st : List Int32} (h : ty1 c ts = some ts') (ok : okS ts st) (R : rngS st) : rngS (ev1 w c st) := by
  by_cases h1 : c < 1007
  · unfold ev1
    by_cases h2 : c < 1000
    · rw [if_pos h2]
      intro v hv
      rcases List.mem_cons.mp hv with rfl | hv
      · exact rng_nI (by omega)
      · exact R v hv
    · rw [if_neg h2, if_pos (by omega)]
      intro v hv
      rcases List.mem_cons.mp hv with rfl | hv
      · exact hw _
      · exact R v hv
  · have ok1 := okS_ev1 (w := w) h ok
    unfold ty1 at h
    rw [if_neg h1] at h
    match ts, st, ok, h, R, ok1 with
    | [], _, _, h, _, _ => cases h
    | t :: ts, [], ok, _, _, _ => exact ok.elim
    | t :: ts, y :: st, ok, h, R, ok1 =>
      dsimp only at h
      by_cases h6 : c = 3006
      · subst h6
        unfold ev1
        rw [if_neg (by omega), if_neg (by omega)]
        dsimp only
        rw [if_pos rfl]
        intro v hv
        rcases List.mem_cons.mp hv with rfl | hv
        · exact rng_not (R y (List.mem_cons_self ..))
        · exact R v (List.mem_cons_of_mem _ hv)
      · rw [if_neg h6] at h
        match ts, st, ok, h, R, ok1 with
        | [], _, _, h, _, _ => cases h
        | t2 :: ts, [], ok, _, _, _ => exact ok.2.elim
        | t2 :: ts, x :: st, ok, h, R, ok1 =>
          dsimp only at h
          have hc3 : ¬ c < 3000 := fun q => by
            rw [if_neg (by omega), if_neg (by omega), if_neg (by omega)] at h
            cases h
          have hev : ev1 w c (y :: x :: st) = btw c x y :: st := by unfold ev1; rw [if_neg (by omega), if_neg hc3]; dsimp only; rw [if_neg h6]
          rw [hev]
          intro v hv
          rcases List.mem_cons.mp hv with rfl | hv
          · unfold btw
            by_cases a3 : c = 3003
            · rw [if_pos a3]; exact rng_01 bI_ok
            rw [if_neg a3]
            by_cases a4 : c = 3004
            · rw [if_pos a4]; exact rng_01 bI_ok
            rw [if_neg a4]
            by_cases a5 : c = 3005
            · rw [if_pos a5]; exact rng_01 bI_ok
            rw [if_neg a5]
            by_cases h78 : c = 3007 ∨ c = 3008
            · rw [if_pos h78] at h
              by_cases ht : t2 = true ∧ t = true
              · rw [if_pos ht] at h
                cases h
                rw [hev] at ok1
                have := rng_01 (ok1.1 rfl)
                unfold btw at this
                rw [if_neg a3, if_neg a4, if_neg a5] at this
                exact this
              · rw [if_neg ht] at h; cases h
            · rw [if_neg (by omega), if_neg (by omega)]
              by_cases a0 : c = 3000
              · rw [if_pos a0]; exact rng_clp _
              rw [if_neg a0]
              by_cases a1 : c = 3001
              · rw [if_pos a1]; exact rng_clp _
              rw [if_neg a1]; exact rng_clp _
          · exact R v (List.mem_cons_of_mem _ (List.mem_cons_of_mem _ hv))
theorem rng_evs {w : Nat → Int32} (hw : ∀ j, rngV (w j)) : ∀ (cs : List Nat) (ts tf : List Bool) (st : List Int32), tys cs ts = some tf → okS ts st → rngS st → rngS (evs w cs st)
  | [], _, _, _, _, _, R => R
  | c :: cs, ts, tf, st, h, ok, R => by
    simp only [tys] at h
    obtain ⟨ts1, ht1, ht2⟩ := Option.bind_eq_some_iff.mp h
    exact rng_evs hw cs ts1 tf _ ht2 (okS_ev1 ht1 ok) (rng_ev1 hw ht1 ok R)
theorem pcnt_le12 (n : Nat) : pcnt n 12 ≤ 12 := pcnt_le n 12
theorem rng_wds {p born pap b f t : Nat} (h1 : p ≤ 999) (h2 : born ≤ 999) (h3 : pap ≤ 999) (h4 : f ≤ 999) (h5 : t ≤ 999) : ∀ j, rngV (wds p born pap b f t j) := by
  intro j
  have := pcnt_le12 b
  rcases j with _ | _ | _ | _ | _ | _ | j
  · exact rng_nI (by omega)
  · exact rng_nI (by omega)
  · exact rng_nI (by omega)
  · exact rng_nI (by omega)
  · exact rng_nI (by omega)
  · exact rng_nI (by omega)
  · exact rng_nI (by omega)
theorem tollN_le {G : LG} {p pap b f t : Nat} (hw : wfG G) (hp : p < gP G) (h3 : pap ≤ 999) (h4 : f ≤ 999) (h5 : t ≤ 999) : tollN G p pap b f t ≤ 1000001 := by
  have e := (tollI_N (G := G) (p := p) (pap := pap) (b := b) (f := f) (t := t))
  have hP := hw.2.2.1
  have hB := (hw.2.2.2.2.1 p hp).1
  have hN := hw.1.2
  have key : rngV (tollI G p pap b f t) := by
    unfold tollI
    cases hl : gTol G with
    | none => exact rng_nI (by decide)
    | some cs =>
      dsimp only
      by_cases q : 0 ≤ lawV cs (wds p (gBor G p) pap b f t)
      · rw [if_pos q]
        have R := rng_evs (rng_wds (p := p) (born := gBor G p) (pap := pap) (b := b) (f := f) (t := t) (by omega) (by omega) h3 h4 h5) cs [] [false] [] (hw.2.2.2.2.2.2.2.2 cs hl) trivial (fun v hv => by cases hv)
        unfold lawV
        cases hv : evs (wds p (gBor G p) pap b f t) cs [] with
        | nil => exact rng_nI (n := 0) (by decide)
        | cons v r => rw [hv] at R; exact R v (List.mem_cons_self ..)
      · rw [if_neg q]; exact rng_nI (by decide)
  rw [e.1] at key
  unfold rngV at key
  rw [nI_toInt e.2] at key
  omega
