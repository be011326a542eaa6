/-! ===== the class: give, forge, shut, days, a told deed ===== -/
theorem c_tryGive {a B : Nat} {p q n : Int32} {G : LG} {W : WG} {h : sm_H} (ha : isAB a) (hE : cE h G) (hW : cW h a (gP G) W) (hww : wfW G B W) :
    ∃ h2, xc 22 [.ref 51, .ref a, .int p, .int q, .int n] h = some ([.int (nI (whyGi G W p.toInt64 q.toInt64 n.toInt64))], h2) ∧ cE h2 G ∧ cW h2 a (gP G) (if whyGi G W p.toInt64 q.toInt64 n.toInt64 = 0 then giveW W (toN p) (toN q) (toN n) else W) ∧ eqx (sxA a) h h2 := by
  obtain ⟨hw, hx, hG, hK⟩ := hE
  have hP := hw.2.2.1
  have hN := hw.1.2
  have bad : whyGi G W p.toInt64 q.toInt64 n.toInt64 = 1 → ∃ h2, xe 2 22 40 [.ref 51, .ref a, .int p, .int q, .int n] [] h = some ([.int (nI (whyGi G W p.toInt64 q.toInt64 n.toInt64))], h2) ∧ cE h2 G ∧ cW h2 a (gP G) (if whyGi G W p.toInt64 q.toInt64 n.toInt64 = 0 then giveW W (toN p) (toN q) (toN n) else W) ∧ eqx (sxA a) h h2 := by
    intro e
    rw [e, if_neg (by decide), b22_40]
    exact ⟨h, rfl, ⟨hw, hx, hG, hK⟩, hW, eqx.rf⟩
  have no : ¬ ((isN p.toInt64 (gP G) ∧ isN q.toInt64 (gP G) ∧ p.toInt64 ≠ q.toInt64) ∧ (1 ≤ n.toInt64 ∧ n.toInt64 ≤ 9)) → whyGi G W p.toInt64 q.toInt64 n.toInt64 = 1 := fun z => by unfold whyGi; rw [if_neg z]
  rw [en_22, b22_0, c_hasPerson isD2 hG.1.2.2.1 (by omega), bnd]
  simp only [app1, List.cons_append, List.nil_append]
  rw [b22_8]
  by_cases h1 : isN p.toInt64 (gP G)
  rotate_left
  · rw [if_pos (by rw [bI_z]; exact h1)]; exact bad (no (fun z => h1 z.1.1))
  rw [if_neg (by rw [bI_z]; exact fun z => z h1), b22_11, c_hasPerson isD2 hG.1.2.2.1 (by omega), bnd]
  simp only [app1, List.cons_append, List.nil_append]
  rw [b22_19]
  by_cases h2 : isN q.toInt64 (gP G)
  rotate_left
  · rw [if_pos (by rw [bI_z]; exact h2)]; exact bad (no (fun z => h2 z.1.2.1))
  rw [if_neg (by rw [bI_z]; exact fun z => z h2), b22_22]
  by_cases h3 : p = q
  · rw [if_pos h3]; exact bad (no (fun z => z.1.2.2 (by rw [h3])))
  rw [if_neg h3, b22_27]
  have h3' : p.toInt64 ≠ q.toInt64 := fun z => h3 (by have := congrArg Int64.toInt32 z; rwa [i32_64, i32_64] at this)
  have n1 : (1 ≤ n.toInt64) ↔ ¬ n < nI 1 := by
    rw [Int32.not_lt, Int64.le_iff_toInt_le, Int32.le_iff_toInt_le, Int32.toInt_toInt64]; rfl
  have n9 : (n.toInt64 ≤ 9) ↔ n ≤ nI 9 := by
    rw [Int64.le_iff_toInt_le, Int32.le_iff_toInt_le, Int32.toInt_toInt64]; rfl
  by_cases h4 : n < nI 1
  · rw [if_pos h4]; exact bad (no (fun z => n1.mp z.2.1 h4))
  rw [if_neg h4, b22_33]
  by_cases h5 : n ≤ nI 9
  rotate_left
  · rw [if_neg h5]; exact bad (no (fun z => h5 (n9.mp z.2.2)))
  rw [if_pos h5]
  have ok : (isN p.toInt64 (gP G) ∧ isN q.toInt64 (gP G) ∧ p.toInt64 ≠ q.toInt64) ∧ (1 ≤ n.toInt64 ∧ n.toInt64 ≤ 9) := ⟨⟨h1, h2, h3'⟩, n1.mpr h4, n9.mpr h5⟩
  obtain ⟨j, hj, rfl⟩ := isN_nI h1 (by omega)
  obtain ⟨i, hi, rfl⟩ := isN_nI h2 (by omega)
  obtain ⟨k, hk1, hk9, rfl⟩ := within_nI (lo := 1) (hi := 9) (by decide) ok.2 (by decide)
  have ew : whyGi G W (nI j).toInt64 (nI i).toInt64 (nI k).toInt64 = if wAt W j ≠ wAt W i ∨ wPap W j < k ∨ 9 < wPap W i + k then 2 else 0 := by
    unfold whyGi
    rw [if_pos ok, nI_l (by omega), nI_l (by omega), nI_l (by omega), lN_toInt (by omega), lN_toInt (by omega), lN_toInt (by omega), Int.toNat_natCast, Int.toNat_natCast, Int.toNat_natCast]
  have hji : j ≠ i := fun z => h3 (by rw [z])
  rw [ew, toN_nI (by omega), toN_nI (by omega), toN_nI (by omega)]
  have hwj := hww.2.2.1 j hj
  have hwi := hww.2.2.1 i hi
  have hcj := hW.2.2.1 j hj
  have hci := hW.2.2.1 i hi
  have hpj := hW.2.2.2 j (by omega)
  have hpi := hW.2.2.2 i (by omega)
  rw [b22_42 ha.w]
  simp (disch := omega) only [in_w ha, if_true, nI_clamp, hcj.1, hci.1]
  by_cases c1 : wAt W j = wAt W i
  rotate_left
  · rw [if_neg (by rw [nI_eq (by omega) (by omega)]; exact c1), if_pos (Or.inl c1), if_neg (by decide), b22_82]
    exact ⟨h, rfl, ⟨hw, hx, hG, hK⟩, hW, eqx.rf⟩
  rw [if_pos (by rw [c1]), b22_57 ha.w]
  simp (disch := omega) only [in_w ha, if_true, nI_clamp, hpj]
  by_cases c2 : wPap W j < k
  · rw [if_pos (by rw [nI_ltI (by omega) (by omega)]; exact c2), if_pos (Or.inr (Or.inl c2)), if_neg (by decide), b22_82]
    exact ⟨h, rfl, ⟨hw, hx, hG, hK⟩, hW, eqx.rf⟩
  rw [if_neg (by rw [nI_ltI (by omega) (by omega)]; exact c2), b22_68 ha.w]
  simp (disch := omega) only [in_w ha, if_true, nI_clamp, hpi, nI_add]
  by_cases c3 : 9 < wPap W i + k
  · rw [if_neg (by rw [nI_leI (by omega) (by omega)]; omega), if_pos (Or.inr (Or.inr c3)), if_neg (by decide), b22_82]
    exact ⟨h, rfl, ⟨hw, hx, hG, hK⟩, hW, eqx.rf⟩
  have c4 : ¬ (wAt W j ≠ wAt W i ∨ wPap W j < k ∨ 9 < wPap W i + k) := by omega
  rw [if_pos (by rw [nI_leI (by omega) (by omega)]; omega), if_neg c4, if_pos rfl, b22_84 ha.w]
  have W1 := hW.pap (p := j) (v := wPap W j - k)
  have p1 : sm_gi (sm_si h (a + 3) j (nI (wPap W j - k))) (a + 3) i = nI (wPap W i) := by rw [W1.2.2.2 i (by omega)]; exact congrArg nI (upN_n hji.symm)
  simp (disch := omega) only [in_w ha, if_true, nI_clamp, hpj, pk_sub]
  rw [b22_95 ha.w]
  simp (disch := omega) only [in_w ha, if_true, nI_clamp, p1, nI_add, b22_106]
  refine ⟨_, rfl, cE_eqx ⟨hw, hx, hG, hK⟩ (S := fun c _ => a ≤ c ∧ c ≤ a + 4) ((eqx.rf.si (by omega)).si (by omega)) (fun c i z => by rcases ha with rfl | rfl <;> omega), W1.pap, (eqx.rf.si (by unfold sxA; omega)).si (by unfold sxA; omega)⟩
theorem c_tryForge {a B : Nat} {p : Int32} {G : LG} {W : WG} {h : sm_H} (ha : isAB a) (hE : cE h G) (hW : cW h a (gP G) W) (hww : wfW G B W) :
    ∃ h2, xc 23 [.ref 51, .ref a, .int p] h = some ([.int (nI (whyFo G W p.toInt64))], h2) ∧ cE h2 G ∧ cW h2 a (gP G) (if whyFo G W p.toInt64 = 0 then forgeW W (toN p) else W) ∧ eqx (sxA a) h h2 := by
  obtain ⟨hw, hx, hG, hK⟩ := hE
  have hP := hw.2.2.1
  have hN := hw.1.2
  rw [en_23, b23_0, c_hasPerson isD2 hG.1.2.2.1 (by omega), bnd]
  simp only [app1, List.cons_append, List.nil_append]
  rw [b23_8]
  unfold whyFo
  by_cases h1 : isN p.toInt64 (gP G)
  rotate_left
  · rw [if_pos (by rw [bI_z]; exact h1), if_neg h1, if_neg (by decide), b23_11]
    exact ⟨h, rfl, ⟨hw, hx, hG, hK⟩, hW, eqx.rf⟩
  rw [if_neg (by rw [bI_z]; exact fun z => z h1), if_pos h1, b23_13 ha.w]
  obtain ⟨j, hj, rfl⟩ := isN_nI h1 (by omega)
  have hwj := hww.2.2.1 j hj
  have hcj := hW.2.2.1 j hj
  have hpj := hW.2.2.2 j (by omega)
  rw [toN_nI (by omega), nI_l (by omega), lN_toInt (by omega), Int.toNat_natCast]
  simp (disch := omega) only [in_w ha, if_true, nI_clamp, hpj]
  by_cases c1 : wPap W j = 9
  · rw [if_neg (by rw [nI_ltI (by omega) (by omega)]; omega), if_pos c1, if_neg (by decide), b23_24]
    exact ⟨h, rfl, ⟨hw, hx, hG, hK⟩, hW, eqx.rf⟩
  rw [if_pos (by rw [nI_ltI (by omega) (by omega)]; omega), if_neg c1, if_pos rfl, b23_26 ha.w]
  have W1 := hW.pap (p := j) (v := wPap W j + 1)
  have d1 : sm_gi (sm_si h (a + 3) j (nI (wPap W j + 1))) (a + 2) j = nI (wDay W j) := (W1.2.2.1 j hj).2.1
  simp (disch := omega) only [in_w ha, if_true, nI_clamp, hpj, nI_add]
  rw [b23_36 ha.w]
  simp (disch := omega) only [in_w ha, if_true, nI_clamp, d1, nI_add, b23_46]
  exact ⟨_, rfl, cE_eqx ⟨hw, hx, hG, hK⟩ (S := fun c _ => a ≤ c ∧ c ≤ a + 4) ((eqx.rf.si (by omega)).si (by omega)) (fun c i z => by rcases ha with rfl | rfl <;> omega), W1.day, (eqx.rf.si (by unfold sxA; omega)).si (by unfold sxA; omega)⟩
theorem c_tryShut {a B : Nat} {r : Int32} {G : LG} {W : WG} {h : sm_H} (ha : isAB a) (hE : cE h G) (hW : cW h a (gP G) W) (hww : wfW G B W) :
    ∃ h2, xc 24 [.ref 51, .ref a, .int r] h = some ([.int (nI (if isN r.toInt64 (gR G) then 0 else 1))], h2) ∧ cE h2 G ∧ cW h2 a (gP G) (if isN r.toInt64 (gR G) then sSh W (wSh W ^^^ 2 ^ toN r) else W) ∧ eqx (sxA a) h h2 := by
  obtain ⟨hw, hx, hG, hK⟩ := hE
  have hR := hw.2.1
  rw [en_24, b24_0, c_hasRoad isD2 hG.1.2.1 (by omega), bnd]
  simp only [app1, List.cons_append, List.nil_append]
  rw [b24_8]
  by_cases h1 : isN r.toInt64 (gR G)
  rotate_left
  · rw [if_pos (by rw [bI_z]; exact h1), if_neg h1, if_neg h1, b24_11]
    exact ⟨h, rfl, ⟨hw, hx, hG, hK⟩, hW, eqx.rf⟩
  rw [if_neg (by rw [bI_z]; exact fun z => z h1), if_pos h1, if_pos h1, b24_13 ha.w, b24_25]
  obtain ⟨j, hj, rfl⟩ := isN_nI h1 (by omega)
  rw [toN_nI (by omega), hW.1, shl1 (by omega), nx_xor]
  exact ⟨_, rfl, cE_eqx ⟨hw, hx, hG, hK⟩ (S := fun c _ => a ≤ c ∧ c ≤ a + 4) (eqx.rf.si (by omega)) (fun c i z => by rcases ha with rfl | rfl <;> omega), hW.sh, eqx.rf.si (by unfold sxA; omega)⟩
theorem dayW_stepn {W : WG} {k n : Nat} : sDay (dayW W k n) k (wDay W k + n) = dayW W (k + 1) n := by
  unfold sDay dayW wDay
  congr 2
  refine Prod.ext ?_ rfl
  funext j
  dsimp only
  by_cases q : j = k
  · subst q; rw [upN_s, if_pos (by omega)]
  · rw [upN_n q]
    by_cases z : j < k
    · rw [if_pos z, if_pos (by omega)]
    · rw [if_neg z, if_neg (by omega)]
theorem dayW_0 {W : WG} {n : Nat} : dayW W 0 n = W := by
  unfold dayW
  simp
def sxB (a : Nat) : Nat → Nat → Prop := fun c _ => a ≤ c ∧ c ≤ a + 4
theorem sxB_A {a : Nat} : ∀ c i, sxB a c i → sxA a c i := fun c i h => by unfold sxB at h; unfold sxA; omega
theorem cE_B {h h2 : sm_H} {a : Nat} {G : LG} (ha : isAB a) (H : cE h G) (E : eqx (sxB a) h h2) : cE h2 G := cE_eqx H E (fun c i z => by unfold sxB at z; rcases ha with rfl | rfl <;> omega)
theorem c_pass_loop {a n : Nat} {G : LG} {W : WG} {h : sm_H} (ha : isAB a) (hE : cE h G) : ∀ (m k : Nat) (h1 : sm_H), k + m = gP G → cW h1 a (gP G) (dayW W k n) → eqx (sxB a) h h1 →
    ∃ h2, xe 1 25 2 [.ref 51, .ref a, .int (nI n), .int (nI k)] [] h1 = some ([], h2) ∧ cW h2 a (gP G) (dayW W (gP G) n) ∧ eqx (sxB a) h h2
  | 0, k, h1, hk, W1, E1 => by
    have hE1 := cE_B ha hE E1
    have hP := hE.1.2.2.1
    rw [b25_2, hE1.2.2.1.1.2.2.1, if_pos (by rw [nI_leI (by omega) (by omega)]; omega), b25_29]
    rw [show k = gP G by omega] at W1
    exact ⟨h1, rfl, W1, E1⟩
  | m + 1, k, h1, hk, W1, E1 => by
    have hE1 := cE_B ha hE E1
    have hP := hE.1.2.2.1
    rw [b25_2, hE1.2.2.1.1.2.2.1, if_neg (by rw [nI_leI (by omega) (by omega)]; omega), b25_13 ha.w]
    have d1 : sm_gi h1 (a + 2) k = nI (wDay W k) := by
      rw [(W1.2.2.1 k (by omega)).2.1]
      unfold dayW wDay
      dsimp only
      rw [if_neg (by omega)]
    simp (disch := omega) only [in_w ha, if_true, nI_clamp, d1, nI_add, b25_23]
    have W2 := W1.day (p := k) (v := wDay W k + n)
    rw [dayW_stepn] at W2
    exact c_pass_loop ha hE m (k + 1) _ (by omega) W2 (E1.si (by unfold sxB; omega))
theorem c_pass {a n : Nat} {G : LG} {W : WG} {h : sm_H} (ha : isAB a) (hE : cE h G) (hW : cW h a (gP G) W) :
    ∃ h2, xc 25 [.ref 51, .ref a, .int (nI n)] h = some ([], h2) ∧ cE h2 G ∧ cW h2 a (gP G) (dayW W (gP G) n) ∧ eqx (sxB a) h h2 := by
  rw [en_25, b25_0]
  obtain ⟨h2, e, W2, E2⟩ := c_pass_loop (W := W) (n := n) ha hE (gP G) 0 h (by omega) (by rw [dayW_0]; exact hW) eqx.rf
  exact ⟨h2, e, cE_B ha hE E2, W2, E2⟩
/-- reasons by number -/
theorem whyV_k {G : LG} {W : WG} {k : Nat} (hk : k ≤ 3019) : whyV G W (lN k) = if k < 600 then whyG G W (lN (k / 100)) (lN (k % 100)) else if 1000 ≤ k ∧ k < 2000 then whyGi G W (lN ((k - 1000) / 100)) (lN (k / 10 % 10)) (lN (k % 10)) else if 2000 ≤ k ∧ k < 2010 then whyFo G W (lN (k - 2000)) else if 3000 ≤ k ∧ isN (lN (k - 3000)) (gR G) then 0 else 1 := by
  unfold whyV
  rw [if_neg (lN_m1 (by omega)), fa_litL 599, fa_litL 1000, fa_litL 1999, fa_litL 2000, fa_litL 2009, fa_litL 3000, fa_litL 3019, fa_litL 0]
  have rg : ∀ a b, a ≤ 3019 → b ≤ 3019 → ((lN a ≤ lN k ∧ lN k ≤ lN b) ↔ (a ≤ k ∧ k ≤ b)) := fun a b h1 h2 => by rw [lN_le (by omega) (by omega), lN_le (by omega) (by omega)]
  by_cases h1 : k < 600
  · rw [if_pos ((rg 0 599 (by decide) (by decide)).mpr (by omega)), if_pos h1, fa_litL 100, pk_lDiv (by omega) (by decide) (by decide), pk_lRem' (by omega) (by decide) (by decide)]
  rw [if_neg (fun z => by have := (rg 0 599 (by decide) (by decide)).mp z; omega), if_neg h1]
  by_cases h2 : 1000 ≤ k ∧ k < 2000
  · rw [if_pos ((rg 1000 1999 (by decide) (by decide)).mpr (by omega)), if_pos h2, fa_litL 100, fa_litL 10, lN_sub h2.1, pk_lDiv (by omega) (by decide) (by decide), pk_lDiv (by omega) (by decide) (by decide), pk_lRem' (by omega) (by decide) (by decide), pk_lRem'' (by omega) (by decide) (by decide)]
  rw [if_neg (fun z => by have := (rg 1000 1999 (by decide) (by decide)).mp z; omega), if_neg h2]
  by_cases h3 : 2000 ≤ k ∧ k < 2010
  · rw [if_pos ((rg 2000 2009 (by decide) (by decide)).mpr (by omega)), if_pos h3, lN_sub h3.1]
  rw [if_neg (fun z => by have := (rg 2000 2009 (by decide) (by decide)).mp z; omega), if_neg h3]
  by_cases h4 : 3000 ≤ k
  · rw [lN_sub h4]
    by_cases q : isN (lN (k - 3000)) (gR G)
    · rw [if_pos ⟨(rg 3000 3019 (by decide) (by decide)).mpr ⟨h4, hk⟩, q⟩, if_pos ⟨h4, q⟩]
    · rw [if_neg (fun z => q z.2), if_neg (fun z => q z.2)]
  · rw [if_neg (fun z => h4 ((rg 3000 3019 (by decide) (by decide)).mp z.1).1), if_neg (fun z => h4 z.1)]
theorem whyV_out {G : LG} {W : WG} {v : Int64} (h1 : v ≠ -1) (h2 : v < 0 ∨ 3019 < v) : whyV G W v = 1 := by
  have e : ∀ k : Nat, k < 4000 → (lN k).toInt = k := fun k hk => lN_toInt (by omega)
  have key : ∀ a b : Nat, a ≤ 3019 → b ≤ 3019 → ¬ (lN a ≤ v ∧ v ≤ lN b) := by
    intro a b ha hb z
    have z1 := z.1
    have z2 := z.2
    rw [Int64.le_iff_toInt_le, e _ (by omega)] at z1 z2
    rcases h2 with q | q
    · rw [fa_litL 0, Int64.lt_iff_toInt_lt, e _ (by omega)] at q; omega
    · rw [fa_litL 3019, Int64.lt_iff_toInt_lt, e _ (by omega)] at q; omega
  unfold whyV
  rw [if_neg h1, fa_litL 599, fa_litL 1000, fa_litL 1999, fa_litL 2000, fa_litL 2009, fa_litL 3000, fa_litL 3019, fa_litL 0, if_neg (key 0 599 (by decide) (by decide)), if_neg (key 1000 1999 (by decide) (by decide)), if_neg (key 2000 2009 (by decide) (by decide)), if_neg (fun z => key 3000 3019 (by decide) (by decide) z.1)]
