/-! ===== roads that are needed ===== -/
section SHUT
variable {G : LG} {sh p r : Nat} {pl : Option Nat} {ov : Bool}
theorem stp_shut {x : XS} {r' : Nat} (hne : r' ≠ r) : stp G (sh ||| 2 ^ r) pl p ov x r' = stp G sh pl p ov x r' := by
  have : whyF G (sh ||| 2 ^ r) pl p r' (xN x) (xB x) (xF x) = whyF G sh pl p r' (xN x) (xB x) (xF x) := by
    unfold whyF
    split
    · rfl
    · have hb : ((sh ||| 2 ^ r) / 2 ^ r' % 2 = 1) ↔ sh / 2 ^ r' % 2 = 1 := by
        rw [or_bit]
        exact ⟨fun z => z.elim id (fun y => absurd y hne), Or.inl⟩
      by_cases q : sh / 2 ^ r' % 2 = 1
      · rw [if_pos q, if_pos (hb.mpr q)]
      · rw [if_neg q, if_neg (fun z => q (hb.mp z))]
  unfold stp
  rw [this]
theorem stp_shut_no {x : XS} : stp G (sh ||| 2 ^ r) pl p ov x r = none := by
  unfold stp
  rw [if_neg]
  rintro ⟨-, z⟩
  obtain ⟨t, -, hn, -⟩ := whyF_ok z
  exact hn (or_bit.mpr (Or.inr rfl))
theorem rn_shut : ∀ (w : List Nat) (x : XS), r ∉ w → rn (stp G (sh ||| 2 ^ r) pl p ov) x w = rn (stp G sh pl p ov) x w
  | [], x, _ => rfl
  | a :: w, x, h => by
    have h1 : a ≠ r := fun z => h (by rw [z]; simp)
    show (stp G (sh ||| 2 ^ r) pl p ov x a).bind _ = (stp G sh pl p ov x a).bind _
    rw [stp_shut h1]
    cases stp G sh pl p ov x a with
    | none => rfl
    | some y => exact rn_shut w y (fun z => h (by simp [z]))
theorem rn_unshut : ∀ (w : List Nat) (x y : XS), rn (stp G (sh ||| 2 ^ r) pl p ov) x w = some y → rn (stp G sh pl p ov) x w = some y ∧ r ∉ w
  | [], x, y, h => ⟨h, by simp⟩
  | a :: w, x, y, h => by
    obtain ⟨z, h1, h2⟩ := Option.bind_eq_some_iff.mp h
    have hne : a ≠ r := fun q => by rw [q, stp_shut_no] at h1; cases h1
    obtain ⟨h3, h4⟩ := rn_unshut w z y h2
    refine ⟨?_, fun q => ?_⟩
    · show (stp G sh pl p ov x a).bind _ = _
      rw [← stp_shut (r := r) hne, h1]
      exact h3
    · rcases List.mem_cons.mp q with q | q
      · exact hne q.symm
      · exact h4 q
theorem rn_open : ∀ (w : List Nat) (x y : XS), rn (stp G sh pl p ov) x w = some y → r ∈ w → ¬ sh / 2 ^ r % 2 = 1
  | a :: w, x, y, h, hr => by
    obtain ⟨z, h1, h2⟩ := Option.bind_eq_some_iff.mp h
    rcases List.mem_cons.mp hr with q | q
    · subst q
      obtain ⟨t, -, hy, -⟩ := stp_def h1
      obtain ⟨t', -, hn, -⟩ := whyF_ok hy
      exact hn
    · exact rn_open w z y h2 q
/-- of the best walk with a road shut -/
theorem bW_shut (hw : wfG G) {x0 : XS} {f : Nat} {w : List Nat} (hb : bW G sh pl p x0 0 f = some w) (hr : r ∉ w) : bW G (sh ||| 2 ^ r) pl p x0 0 f = some w := by
  have hbe := bst_iff.mp hb
  obtain ⟨y, hy1, hy2⟩ := gw0.mp hbe.1
  refine bst_some ⟨gw0.mpr ⟨y, by rw [rn_shut w x0 hr]; exact hy1, hy2⟩, fun v hv => ?_⟩
  obtain ⟨z, hz1, hz2⟩ := gw0.mp hv
  exact hbe.2 v (gw0.mpr ⟨z, (rn_unshut v x0 z hz1).1, hz2⟩)
theorem bW_shut_le (hw : wfG G) {x0 : XS} {f : Nat} {w : List Nat} (hb : bW G (sh ||| 2 ^ r) pl p x0 0 f = some w) : ∃ v, bW G sh pl p x0 0 f = some v ∧ dys (gLon G) v ≤ dys (gLon G) w := by
  have hbe := bst_iff.mp hb
  obtain ⟨y, hy1, hy2⟩ := gw0.mp hbe.1
  have hg : gwk (stp G sh pl p false) (thK G 0 f) (lpK G pl 0) x0 w := gw0.mpr ⟨y, (rn_unshut w x0 y hy1).1, hy2⟩
  obtain ⟨v, e, hv⟩ := bst_ex hw hg
  exact ⟨v, e, wlt_days (hv.2 w hg)⟩
theorem xor_or {a r : Nat} (h : ¬ a / 2 ^ r % 2 = 1) : a ^^^ 2 ^ r = a ||| 2 ^ r := by
  apply Nat.eq_of_testBit_eq
  intro i
  rw [Nat.testBit_xor, Nat.testBit_or, Nat.testBit_two_pow]
  by_cases q : r = i
  · subst q
    have : a.testBit r = false := by
      rw [Nat.testBit_eq_decide_div_mod_eq]
      exact decide_eq_false h
    rw [this]
    simp
  · simp [q]
end SHUT
noncomputable def ndB (G : LG) (sh p : Nat) (x0 : XS) (f r : Nat) : Bool := (bW G sh none p x0 0 f).isSome && (decide (¬ sh / 2 ^ r % 2 = 1) && (bW G (sh ||| 2 ^ r) none p x0 0 f).isNone)
noncomputable def aNeed (G : LG) (W : WG) (p q : Int32) : Int32 := if isN p.toInt64 (gP G) ∧ isN q.toInt64 (gN G) then nI (bsN (ndB G (wSh W) (toN p) (xS W (toN p)) (toN q)) (gR G)) else -2
section MND
variable {G : LG} {W : WG} {L : List WG} {B : Nat} {h : sm_H}
theorem mS_shut (S : mS h G W L B) {v : Nat} (hv : v < 4096) : mS (sm_si h 170 88 (nI v)) G (sSh W v) L B := by
  obtain ⟨hw, hG, hW, hww, hL, hLw, hpl⟩ := S
  exact ⟨hw, mG_eq hw (fun i hi => gi_slot (by omega)) hG, hW.sh gi_same (fun i hi => gi_slot hi), hww.sh hv, mPast_eq hw.2.2.1 (fun i h1 h2 => gi_slot (by omega)) hL, hLw, by rw [gi_cell (by decide)]; exact hpl⟩
theorem bsN_step {f : Nat → Bool} {k : Nat} : bsN f (k + 1) = if f k = true then bsN f k ||| 2 ^ k else bsN f k := by
  show bsN f k + (if f k = true then 2 ^ k else 0) = _
  by_cases q : f k = true
  · rw [if_pos q, if_pos q, or_add (bsN_lt f k)]
  · rw [if_neg q, if_neg q, Nat.add_zero]
theorem m_needed_loop {p f : Nat} (hx : wfX G) (hp : p < gP G) (hf : f < gN G) (hnow : (bW G (wSh W) none p (xS W p) 0 f).isSome = true) : ∀ (m k : Nat) (h1 : sm_H), k + m = gR G → mS h1 G W L B → mX h1 → eqx sxZ h h1 → ∃ h2, xe 8 242 34 [.ref 169, .int (nI p), .int (nI f), .int (nI (bsN (ndB G (wSh W) p (xS W p) f) k)), .int (nI k)] [] h1 = some ([.int (nI (bsN (ndB G (wSh W) p (xS W p) f) (gR G)))], h2) ∧ mS h2 G W L B ∧ mX h2 ∧ eqx sxZ h h2
  | 0, k, h1, e, S, X, E => by
    have hR := S.1.2.1
    have : k = gR G := by omega
    subst this
    rw [b242_34]
    simp (disch := omega) only [in_170, if_true, nI_clamp, S.2.1.1.2.1]
    rw [if_pos (Int32.le_refl _), b242_119]
    exact ⟨h1, rfl, S, X, E⟩
  | m + 1, k, h1, e, S, X, E => by
    have hw := S.1
    have hN := hw.1.2
    have hR := hw.2.1
    have hsh := S.2.2.2.1.1
    obtain ⟨ok0, hm0⟩ := okXS S hp
    rw [b242_34]
    simp (disch := omega) only [in_170, if_true, nI_clamp, S.2.1.1.2.1]
    rw [if_neg (by rw [nI_leI (by omega) (by omega)]; omega), b242_45]
    simp (disch := omega) only [in_170, if_true, nI_clamp, S.2.2.1.1, m_isIn, bnd, app1, List.cons_append, List.nil_append]
    rw [b242_58]
    have ih := m_needed_loop hx hp hf hnow m (k + 1)
    rw [bsN_step] at ih
    by_cases q : wSh W / 2 ^ k % 2 = 1
    · rw [if_neg (by rw [bI_z]; exact fun z => z q), b242_61, b242_113, nI_add]
      rw [if_neg (by unfold ndB; simp [q])] at ih
      exact ih _ (by omega) S X E
    · rw [if_pos (by rw [bI_z]; exact q), b242_64]
      simp (disch := omega) only [in_170, if_true, nI_clamp, S.2.2.1.1, shl1]
      rw [nx_xor, xor_or q]
      have hv : wSh W ||| 2 ^ k < 4096 := Nat.or_lt_two_pow (n := 12) hsh (Nat.pow_lt_pow_right (by decide) (by omega))
      have S1 := mS_shut S hv
      have X1 : mX (sm_si h1 170 88 (nI (wSh W ||| 2 ^ k))) := mX_of X (S := fun c i => c = 170 ∧ i = 88) (eqx.si (S := fun c i => c = 170 ∧ i = 88) eqx.rf ⟨rfl, rfl⟩) (fun c i z => by omega)
      obtain ⟨n, K, st, h2, e2, N2, J2, F2, b2, E2⟩ := m_soonestNow (f := f) S1 hx X1 hp (by omega)
      rw [b242_78, e2, bnd]
      simp only [app1, List.cons_append, List.nil_append]
      rw [b242_85, show wSh (sSh W (wSh W ||| 2 ^ k)) = wSh W ||| 2 ^ k from rfl, show xS (sSh W (wSh W ||| 2 ^ k)) p = xS W p from rfl]
      have g88 : sm_gi h2 170 88 = nI (wSh W ||| 2 ^ k) := (E2.1 170 88 (by unfold sxZ; omega)).trans gi_same
      have back : (wSh W ||| 2 ^ k) ^^^ 2 ^ k = wSh W := by rw [← xor_or q, Nat.xor_assoc, Nat.xor_self, Nat.xor_zero]
      have E3 : eqx sxZ h1 (sm_si h2 170 88 (nI (wSh W))) := eqx_tmp E2 S.2.2.1.1.symm
      have S3 := mS_Z S E3
      have X3 : mX (sm_si h2 170 88 (nI (wSh W))) := mX_of (mN_X N2) (S := fun c i => c = 170 ∧ i = 88) (eqx.si (S := fun c i => c = 170 ∧ i = 88) eqx.rf ⟨rfl, rfl⟩) (fun c i z => by omega)
      have fin : ∀ s1 b' : Nat, bsN (ndB G (wSh W) p (xS W p) f) k ||| s1 = b' → xe 8 242 97 [.ref 169, .int (nI p), .int (nI f), .int (nI (bsN (ndB G (wSh W) p (xS W p) f) k)), .int (nI k)] [.int (nI s1), .int (nI (bsN (ndB G (wSh W) p (xS W p) f) k))] h2 = xe 8 242 34 [.ref 169, .int (nI p), .int (nI f), .int (nI b'), .int (nI (k + 1))] [] (sm_si h2 170 88 (nI (wSh W))) := by
        intro s1 b' hb'
        rw [b242_97]
        simp (disch := omega) only [in_170, if_true, nI_clamp, g88, shl1]
        rw [nx_xor, back, fa_or, hb', b242_113, nI_add]
      cases hb : bW G (wSh W ||| 2 ^ k) none p (xS W p) 0 f with
      | none =>
        rw [show dyI G none = -1 from rfl, if_pos rfl, b242_89, shl1 (by omega), fin _ _ rfl]
        rw [if_pos (by unfold ndB; rw [hnow, hb]; simp [q])] at ih
        exact ih _ (by omega) S3 X3 (E.tr E3)
      | some w =>
        have hd := bW_days hw hx ok0 rfl hb
        rw [show dyI G (some w) = nI (dys (gLon G) w) from rfl, if_neg (by rw [nI_m1 (by omega)]; exact id), b242_96, fin 0 _ (Nat.or_zero _)]
        rw [if_neg (by unfold ndB; rw [hb]; simp)] at ih
        exact ih _ (by omega) S3 X3 (E.tr E3)
theorem bsN_none {f : Nat → Bool} (h : ∀ r, f r = false) : ∀ k, bsN f k = 0
  | 0 => rfl
  | k + 1 => by rw [bsN_step, h k, if_neg (by decide)]; exact bsN_none h k
theorem m_needed (S : mS h G W L B) (hx : wfX G) (X : mX h) {p q : Int32} : ∃ h2, xc 242 [.ref 169, .int p, .int q] h = some ([.int (aNeed G W p q)], h2) ∧ mS h2 G W L B ∧ mX h2 ∧ eqx sxZ h h2 := by
  have hw := S.1
  have hP := S.1.2.2.1
  have hN := S.1.1.2
  have S0 := mS_thrown (v := nI 0) S
  have X0 := mX_thrown (v := nI 0) X
  rw [en_242, b242_0, b242_5, m_isWay S0, bnd]
  simp only [app1, List.cons_append, List.nil_append]
  rw [b242_11]
  unfold aNeed
  by_cases hc : isN p.toInt64 (gP G) ∧ isN q.toInt64 (gN G)
  · rw [if_neg (by rw [bI_z]; exact fun z => z hc), if_pos hc, b242_17]
    obtain ⟨j, hj, rfl⟩ := isN_nI hc.1 (by omega)
    obtain ⟨f, hf, rfl⟩ := isN_nI hc.2 (by omega)
    rw [toN_nI (by omega), toN_nI (by omega)]
    obtain ⟨ok0, hm0⟩ := okXS S0 hj
    obtain ⟨n, K, st, h2, e2, N2, J2, F2, b2, E2⟩ := m_soonestNow (f := f) S0 hx X0 hj (by omega)
    rw [e2, bnd]
    simp only [app1, List.cons_append, List.nil_append]
    rw [b242_25]
    cases hb : bW G (wSh W) none j (xS W j) 0 f with
    | none =>
      rw [show dyI G none = -1 from rfl, if_pos rfl, b242_29, bsN_none (fun r => by unfold ndB; rw [hb]; rfl)]
      exact ⟨h2, rfl, mS_Z S0 E2, mN_X N2, Z_thrown E2⟩
    | some w =>
      have hd := bW_days hw hx ok0 rfl hb
      rw [show dyI G (some w) = nI (dys (gLon G) w) from rfl, if_neg (by rw [nI_m1 (by omega)]; exact id), b242_31]
      exact m_needed_loop (h := h) hx hj hf (by rw [hb]; rfl) (gR G) 0 h2 (by omega) (mS_Z S0 E2) (mN_X N2) (Z_thrown E2)
  · rw [if_pos (by rw [bI_z]; exact hc), if_neg hc, b242_14]
    exact ⟨_, rfl, S0, X0, Z_thrown eqx.rf⟩
end MND
section CND
variable {G : LG} {W : WG} {L : List WG} {B B' : Nat} {h : sm_H}
theorem c_roadsTo_loop {f : Nat} {w : List Nat} (Sp : spl h w) (hw12 : ∀ r, r ∈ w → r < 12) : ∀ (m k b : Nat), k + m = w.length → b < 4096 → (∀ r, b / 2 ^ r % 2 = 1 ↔ ∃ i, i < k ∧ w.getD (w.length - 1 - i) 0 = r) → ∃ b', xe 3 90 9 [.ref 104, .int (nI f), .int (nI b), .int (nI k)] [] h = some ([.int (nI b')], h) ∧ b' < 4096 ∧ ∀ r, b' / 2 ^ r % 2 = 1 ↔ ∃ i, i < w.length ∧ w.getD (w.length - 1 - i) 0 = r
  | 0, k, b, e, hb, hf => by
    have : k = w.length := by omega
    subst this
    rw [b90_9, Sp.1, if_pos (Int32.le_refl _), b90_34]
    exact ⟨b, rfl, hb, hf⟩
  | m + 1, k, b, e, hb, hf => by
    have hl := Sp.2.1
    have g := Sp.2.2 (w.length - 1 - k) (by omega)
    rw [show w.length - 1 - (w.length - 1 - k) = k by omega] at g
    have hmem : w.getD (w.length - 1 - k) 0 ∈ w := by
      rw [List.getD_eq_getElem?_getD, List.getElem?_eq_getElem (by omega)]
      exact List.getElem_mem _
    have h12 := hw12 _ hmem
    rw [b90_9, Sp.1, if_neg (by rw [nI_leI (by omega) (by omega)]; omega), b90_17]
    simp (disch := omega) only [in_109, if_true, nI_clamp, g]
    rw [shl1 (by omega), fa_or, nI_add]
    refine c_roadsTo_loop Sp hw12 m (k + 1) _ (by omega) (Nat.or_lt_two_pow (n := 12) hb (Nat.pow_lt_pow_right (by decide) h12)) (fun r => ?_)
    rw [or_bit, hf]
    constructor
    · rintro (⟨i, a, c⟩ | z)
      · exact ⟨i, by omega, c⟩
      · exact ⟨k, by omega, z.symm⟩
    · rintro ⟨i, a, c⟩
      by_cases z : i = k
      · subst z; exact Or.inr c.symm
      · exact Or.inl ⟨i, by omega, c⟩
theorem mem_getD {w : List Nat} {r : Nat} : (∃ i, i < w.length ∧ w.getD (w.length - 1 - i) 0 = r) ↔ r ∈ w := by
  constructor
  · rintro ⟨i, hi, rfl⟩
    rw [List.getD_eq_getElem?_getD, List.getElem?_eq_getElem (by omega)]
    exact List.getElem_mem _
  · intro hr
    obtain ⟨i, hi, e⟩ := List.getElem_of_mem hr
    refine ⟨w.length - 1 - i, by omega, ?_⟩
    rw [show w.length - 1 - (w.length - 1 - i) = i by omega, List.getD_eq_getElem?_getD, List.getElem?_eq_getElem hi]
    exact e
theorem bW_R {sh p kd g : Nat} {pl : Option Nat} {x0 : XS} {w : List Nat} (hw : wfG G) (hb : bW G sh pl p x0 kd g = some w) : ∀ r, r ∈ w → r < gR G := by
  obtain ⟨y, hy⟩ := gwk_rn (bst_iff.mp hb).1
  exact (rn_lon hw _ _ _ hy).2.2
theorem c_roadsTo {sh p mk : Nat} {pl : Option Nat} {x0 : XS} {D : Nat → Option (List Nat)} (Q : cQ h G sh pl p false mk x0) (F : FS h G sh pl p false x0 D) {f : Nat} (hf : f < gN G) : ∃ b h2, xc 90 [.ref 104, .int (nI f)] h = some ([.int (nI b)], h2) ∧ b < 4096 ∧ (∀ r, b / 2 ^ r % 2 = 1 ↔ r ∈ (bW G sh pl p x0 0 f).getD []) ∧ eqx sxJ h h2 := by
  have hw := Q.1.1
  have hR := hw.2.1
  obtain ⟨h2, e2, P2, E2⟩ := c_spellTo Q F hf
  rw [en_90, b90_0, e2, bnd]
  simp only [List.nil_append]
  rw [b90_5]
  have h12 : ∀ r, r ∈ (bW G sh pl p x0 0 f).getD [] → r < 12 := fun r hr => by
    cases hb : bW G sh pl p x0 0 f with
    | none => rw [hb] at hr; simp at hr
    | some w =>
      rw [hb] at hr
      have := bW_R hw hb r hr
      omega
  obtain ⟨b, eb, hb, hbit⟩ := c_roadsTo_loop (f := f) P2 h12 _ 0 0 (by rw [Nat.zero_add]) (by decide) (fun r => by
    rw [Nat.zero_div]
    exact iff_of_false (by decide) (fun ⟨i, hi, _⟩ => by omega))
  exact ⟨b, h2, eb, hb, fun r => (hbit r).trans mem_getD, E2⟩
theorem c_needed_loop {p f b0 : Nat} (hp : p < gP G) (hf : f < gN G) (hB : B' < 2 ^ 28) (hb0 : b0 < 4096) (hbit : ∀ r, b0 / 2 ^ r % 2 = 1 ↔ r ∈ (bW G (wSh W) none p (xS W p) 0 f).getD []) : ∀ (m k sh' : Nat) (h1 : sm_H), k + m = gR G → cS h1 G W L B → cQ h1 G sh' none p false 1 (xS W p) → cI h1 (B' + 1 + k) → eqx sxW h h1 → ∃ h2, xe 8 7 20 [.ref 113, .int (nI p), .int (nI f), .int (nI b0), .int (nI (bsN (ndB G (wSh W) p (xS W p) f) k)), .int (nI k)] [] h1 = some ([.int (nI (bsN (ndB G (wSh W) p (xS W p) f) (gR G)))], h2) ∧ cS h2 G W L B ∧ cI h2 (B' + 13) ∧ eqx sxW h h2
  | 0, k, sh', h1, e, S, Q, I, E => by
    have hR := S.1.1.2.1
    have : k = gR G := by omega
    subst this
    rw [b7_20, show sm_gi h1 2 2 = nI (gR G) from S.1.2.2.1.1.2.1, if_pos (Int32.le_refl _), b7_99]
    exact ⟨h1, rfl, S, I.mono (by omega), E⟩
  | m + 1, k, sh', h1, e, S, Q, I, E => by
    have hw := S.1.1
    have hx := S.1.2.1
    have hN := hw.1.2
    have hR := hw.2.1
    have hsh := S.2.2.1.1
    have ok0 := Q.2.2.1.1
    have ih := c_needed_loop hp hf hB hb0 hbit m (k + 1)
    rw [bsN_step] at ih
    rw [b7_20, show sm_gi h1 2 2 = nI (gR G) from S.1.2.2.1.1.2.1, if_neg (by rw [nI_leI (by omega) (by omega)]; omega), b7_32, shr1 (by omega) (by omega)]
    by_cases q : b0 / 2 ^ k % 2 = 1
    · rw [if_pos (by rw [q]), b7_42, show sm_gi h1 18 5 = nI (wSh W) from S.2.1.1, shl1 (by omega), fa_or]
      have hmem := (hbit k).mp q
      obtain ⟨w, hbw⟩ : ∃ w, bW G (wSh W) none p (xS W p) 0 f = some w := by
        cases hb : bW G (wSh W) none p (xS W p) 0 f with
        | none => rw [hb] at hmem; simp at hmem
        | some w => exact ⟨w, rfl⟩
      rw [hbw] at hmem
      have hopen : ¬ wSh W / 2 ^ k % 2 = 1 := by
        obtain ⟨y, hy, -⟩ := gw0.mp (bst_iff.mp hbw).1
        exact rn_open w _ y hy hmem
      obtain ⟨Q1, E1⟩ := cQ_set (i := 6) (v := nI (wSh W ||| 2 ^ k)) (sh' := wSh W ||| 2 ^ k) (pl' := none) (x1 := xS W p) Q (by omega) ⟨ok0, rfl⟩ ⟨rfl, rfl⟩ (Nat.or_lt_two_pow (n := 12) hsh (Nat.pow_lt_pow_right (by decide) (by omega))) (fun t z => by cases z) (if_neg (by decide)) (if_pos rfl) (if_neg (by decide))
      obtain ⟨D, h2, e2, F2, Q2, I2, E2⟩ := c_spread Q1 (cI_A4 I E1) (by omega)
      rw [b7_61, e2, bnd]
      simp only [List.nil_append]
      rw [b7_68, c_daysTo Q2 F2 hf, bnd]
      simp only [app1, List.cons_append, List.nil_append]
      rw [b7_78]
      have E12 : eqx sxW h1 h2 := (E1.wk sxA4_W).tr (E2.wk sxH_W)
      have S2 := cS_W S Q2.1 E12
      cases hb : bW G (wSh W ||| 2 ^ k) none p (xS W p) 0 f with
      | none =>
        rw [show dyI G none = -1 from rfl, if_pos rfl, b7_82, shl1 (by omega), b7_90, fa_or, b7_93, nI_add]
        rw [if_pos (by unfold ndB; rw [hbw, hb]; simp [hopen])] at ih
        exact ih _ _ (by omega) S2 Q2 (by rw [show B' + 1 + (k + 1) = B' + 1 + k + 1 by omega]; exact I2) (E.tr E12)
      | some w' =>
        have hd := bW_days hw hx ok0 rfl hb
        rw [show dyI G (some w') = nI (dys (gLon G) w') from rfl, if_neg (by rw [nI_m1 (by omega)]; exact id), b7_89, b7_90, fa_or, Nat.or_zero, b7_93, nI_add]
        rw [if_neg (by unfold ndB; rw [hb]; simp)] at ih
        exact ih _ _ (by omega) S2 Q2 (by rw [show B' + 1 + (k + 1) = B' + 1 + k + 1 by omega]; exact I2) (E.tr E12)
    · rw [if_neg (by rw [nI_eq (by omega) (by decide)]; exact q), b7_93, nI_add]
      have hnm := fun z => q ((hbit k).mpr z)
      rw [if_neg (by
        unfold ndB
        cases hb : bW G (wSh W) none p (xS W p) 0 f with
        | none => simp
        | some w =>
          rw [hb] at hnm
          rw [bW_shut hw hb hnm]
          simp)] at ih
      exact ih _ _ (by omega) S Q (I.mono (by omega)) E
end CND
theorem c_needed {G : LG} {W : WG} {L : List WG} {B B' : Nat} {h : sm_H} {p q : Int32} (S : cS h G W L B) (I : cI h B') (hB : B' < 2 ^ 28) : ∃ h2, xc 123 [.ref 0, .int p, .int q] h = some ([.int (aNeed G W p q)], h2) ∧ cS h2 G W L B ∧ cI h2 (B' + 13) ∧ eqx sxW h h2 := by
  have hw := S.1.1
  have hN := hw.1.2
  have hP := hw.2.2.1
  have hR := hw.2.1
  unfold aNeed
  rw [en_123, b123_0, c_hasPerson isD2 S.1.2.2.1.1.2.2.1 (by omega), bnd]
  simp only [app1, List.cons_append, List.nil_append]
  rw [b123_8]
  by_cases h1 : isN p.toInt64 (gP G)
  · rw [if_neg (by rw [bI_z]; exact fun z => z h1), b123_11, c_hasPlace isD2 S.1.2.2.1.1.1 (by omega), bnd]
    simp only [app1, List.cons_append, List.nil_append]
    rw [b123_19]
    by_cases h2 : isN q.toInt64 (gN G)
    · have hc : isN p.toInt64 (gP G) ∧ isN q.toInt64 (gN G) := ⟨h1, h2⟩
      rw [if_neg (by rw [bI_z]; exact fun z => z h2), if_pos hc]
      obtain ⟨j, hj, rfl⟩ := isN_nI h1 (by omega)
      obtain ⟨f, hf, rfl⟩ := isN_nI h2 (by omega)
      rw [toN_nI (by omega), toN_nI (by omega)]
      rw [b123_25, en_7, b7_0]
      obtain ⟨D, h1', e1, F1, Q1, S1, I1, E1⟩ := c_seek S I (by omega) hj
      rw [e1, bnd]
      simp only [List.nil_append]
      obtain ⟨b, h3, e3, hb3, hbit3, E3⟩ := c_roadsTo Q1 F1 hf
      rw [b7_5, e3, bnd]
      simp only [app1, List.cons_append, List.nil_append]
      rw [b7_13]
      have cE3 := cE_J Q1.1 E3
      obtain ⟨h2, e2, S2, I2, E2⟩ := c_needed_loop (h := h) hj hf hB hb3 hbit3 (gR G) 0 (wSh W) h3 (by omega) (cS_W S1 cE3 (E3.wk sxJ_W)) (cQ_eqx Q1 cE3 E3 (fun c i z => by unfold sxJ at z; omega)) (cI_J I1 E3) (E1.tr (E3.wk sxJ_W))
      rw [show bsN (ndB G (wSh W) j (xS W j) f) 0 = 0 from rfl] at e2
      rw [e2, bnd]
      simp only [app1, List.cons_append, List.nil_append]
      rw [b123_34]
      exact ⟨h2, rfl, S2, I2, E2⟩
    · rw [if_pos (by rw [bI_z]; exact h2), if_neg (fun z : isN p.toInt64 (gP G) ∧ isN q.toInt64 (gN G) => h2 z.2), b123_22]
      exact ⟨h, rfl, S, I.mono (by omega), eqx.rf⟩
  · rw [if_pos (by rw [bI_z]; exact h1), if_neg (fun z : isN p.toInt64 (gP G) ∧ isN q.toInt64 (gN G) => h1 z.1), b123_22]
    exact ⟨h, rfl, S, I.mono (by omega), eqx.rf⟩
