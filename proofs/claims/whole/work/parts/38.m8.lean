/-! ===== the model: why, go, forge, shut, give, days, undo ===== -/
theorem isN_nI {p : Int32} {P : Nat} (h : isN p.toInt64 P) (hP : P < 2 ^ 30) : ∃ j, j < P ∧ p = nI j := by
  unfold isN at h
  rw [Int32.toInt_toInt64] at h
  refine ⟨p.toInt.toNat, by omega, ?_⟩
  apply Int32.toInt_inj.mp
  rw [nI_toInt (by omega)]
  omega
theorem isN_i {j P : Nat} (hj : j < P) (hP : P < 2 ^ 30) : isN (nI j).toInt64 P := by rw [nI_l (by omega)]; exact isN_of hj hP
def toN (p : Int32) : Nat := p.toInt.toNat
theorem toN_nI {j : Nat} (h : j < 2 ^ 31) : toN (nI j) = j := by unfold toN; rw [nI_toInt h]; exact Int.toNat_natCast j
theorem whyG_i {G : LG} {W : WG} {p r : Nat} (hp : p < gP G) (hr : r < gR G) (hP : gP G ≤ 6) (hR : gR G ≤ 12) : whyG G W (nI p).toInt64 (nI r).toInt64 = whyF G (wSh W) none p r (wPap W p) (wBeen W p) (wAt W p) := by
  unfold whyG
  rw [if_pos ⟨isN_i hp (by omega), isN_i hr (by omega)⟩, nI_l (by omega), nI_l (by omega), lN_toInt (by omega), lN_toInt (by omega), Int.toNat_natCast, Int.toNat_natCast]
theorem m_why {G : LG} {W : WG} {L : List WG} {B : Nat} {h : sm_H} {p r : Int32} (S : mS h G W L B) : ∃ h2, xc 195 [.ref 169, .int p, .int r] h = some ([.int (nI (whyG G W p.toInt64 r.toInt64))], h2) ∧ mS h2 G W L B ∧ eqx sxM h h2 := by
  rw [en_195, b195_0, b195_5]
  have S0 := mS_thrown (v := nI 0) S
  obtain ⟨h2, e2, E2⟩ := m_whyGo (v := p.toInt64) (u := r.toInt64) S0.2.1 S0.1 S0.2.2.1 S0.2.2.2.1 S0.2.2.2.2.2.2
  rw [e2, bnd]
  simp only [app1, List.cons_append, List.nil_append, b195_13]
  exact ⟨h2, rfl, mS_L S0 E2, eqx_thrown (E2.wk sxL_M)⟩
/-- go: the answer, the world, the past -/
def dGo (G : LG) (W : WG) (L : List WG) (p r : Int32) : Int32 × WG × List WG := if whyG G W p.toInt64 r.toInt64 = 0 then (nI ((toF G (toN r) (wAt W (toN p))).getD 0), goW G W (toN p) (toN r) ((toF G (toN r) (wAt W (toN p))).getD 0), pushL L W) else (-10 - nI (whyG G W p.toInt64 r.toInt64), W, L)
theorem whyG_ok {G : LG} {W : WG} {B : Nat} {p r : Int32} (hw : wfG G) (h : whyG G W p.toInt64 r.toInt64 = 0) : ∃ j i t, j < gP G ∧ i < gR G ∧ p = nI j ∧ r = nI i ∧ toF G i (wAt W j) = some t ∧ tolW G W j i t ≤ wPap W j ∧ t < gN G := by
  have hP := hw.2.2.1
  have hR := hw.2.1
  by_cases q : isN p.toInt64 (gP G) ∧ isN r.toInt64 (gR G)
  · obtain ⟨j, hj, rfl⟩ := isN_nI q.1 (by omega)
    obtain ⟨i, hi, rfl⟩ := isN_nI q.2 (by omega)
    rw [whyG_i hj hi hP hR] at h
    obtain ⟨t, ht, -, hb⟩ := whyF_ok h
    refine ⟨j, i, t, hj, hi, rfl, rfl, ht, ?_, toF_lt hw hi ht⟩
    unfold tolW
    by_cases z : gBri G i = true
    · rw [if_pos z]; exact (hb z (by simp)).2
    · rw [if_neg z]; exact Nat.zero_le _
  · unfold whyG at h
    rw [if_neg q] at h
    omega
theorem m_go {G : LG} {W : WG} {L : List WG} {B : Nat} {h : sm_H} {p r : Int32} (S : mS h G W L B) : ∃ h2, xc 206 [.ref 169, .int p, .int r] h = some ([.int (dGo G W L p r).1], h2) ∧ mS h2 G (dGo G W L p r).2.1 (dGo G W L p r).2.2 (B + 20) ∧ eqx sxM h h2 := by
  rw [en_206, b206_0, b206_5]
  have S0 := mS_thrown (v := nI 0) S
  have hw := S0.1
  obtain ⟨h1, e1, E1⟩ := m_whyGo (v := p.toInt64) (u := r.toInt64) S0.2.1 S0.1 S0.2.2.1 S0.2.2.2.1 S0.2.2.2.2.2.2
  have S1 := mS_L S0 E1
  rw [e1, bnd]
  simp only [app1, List.cons_append, List.nil_append]
  have hle : whyG G W p.toInt64 r.toInt64 ≤ 5 := by
    unfold whyG
    split
    · exact whyF_le
    · omega
  rw [b206_13]
  unfold dGo
  by_cases h0 : whyG G W p.toInt64 r.toInt64 = 0
  · rw [if_pos (by rw [nI_z (by omega)]; exact h0), if_pos h0, b206_23]
    obtain ⟨j, i, t, hj, hi, rfl, rfl, ht, htol, htN⟩ := whyG_ok (B := B) hw h0
    have hP := hw.2.2.1
    have hR := hw.2.1
    rw [toN_nI (by omega), toN_nI (by omega), ht]
    obtain ⟨h2, e2, k2, E2⟩ := m_keeps (h := h1)
    rw [e2, bnd]
    simp only [List.nil_append]
    have hG2 : mG (sm_gi h2 170) G := by rw [show sm_gi h2 170 = sm_gi h1 170 from funext fun i => E2.1 170 i (by unfold sxK; omega)]; exact S1.2.1
    have hW2 : mW (sm_gi h2 170) 88 (gP G) W := by rw [show sm_gi h2 170 = sm_gi h1 170 from funext fun i => E2.1 170 i (by unfold sxK; omega)]; exact S1.2.2.1
    obtain ⟨h3, e3, W3, E3⟩ := m_goes hG2 hw hW2 S1.2.2.2.1 (by rw [E2.1 169 15 (by unfold sxK; omega)]; exact S1.2.2.2.2.2.2) hj hi ht htol
    rw [b206_27, e3, bnd]
    simp only [List.nil_append]
    obtain ⟨h4, e4, S4, E4, a4⟩ := mS_note S1 (Nat.le_add_right B 20) k2 E2 W3 (wfW.go hw S1.2.2.2.1 hj hi htN) E3
    rw [b206_33, e4, bnd]
    simp only [List.nil_append]
    rw [b206_37]
    simp (disch := omega) only [nI_add, in_170, if_true, nI_clamp]
    refine ⟨h4, ?_, S4, eqx_thrown ((E1.wk sxL_M).tr E4)⟩
    rw [a4 _ (by omega) (by omega), show 90 + j = 88 + 2 + j by omega, (W3.2.2.1 j hj).1]
    congr 4
    refine congrArg nI ?_
    show wAt (errW _ _ _) j = t
    unfold errW
    split <;> exact upN_s
  · rw [if_neg (by rw [nI_z (by omega)]; exact h0), if_neg h0, b206_18]
    refine ⟨h1, rfl, ?_, eqx_thrown (E1.wk sxL_M)⟩
    obtain ⟨a1, a2, a3, a4, a5, a6, a7⟩ := S1
    exact ⟨a1, a2, a3, a4.mono (by omega), a5, fun j hj => (a6 j hj).mono (by omega), a7⟩
theorem mS.mono {G : LG} {W : WG} {L : List WG} {B B' : Nat} {h : sm_H} (S : mS h G W L B) (hB : B ≤ B') : mS h G W L B' := by
  obtain ⟨a1, a2, a3, a4, a5, a6, a7⟩ := S
  exact ⟨a1, a2, a3, a4.mono hB, a5, fun j hj => (a6 j hj).mono hB, a7⟩
/-- forge -/
def whyFo (G : LG) (W : WG) (p : Int64) : Nat := if isN p (gP G) then (if wPap W p.toInt.toNat = 9 then 2 else 0) else 1
theorem m_whyForge {G : LG} {W : WG} {L : List WG} {B : Nat} {h : sm_H} {v : Int64} (S : mS h G W L B) : xc 203 [.ref 169, .long v] h = some ([.int (nI (whyFo G W v))], h) := by
  have hw := S.1
  have hP := hw.2.2.1
  rw [en_203, b203_0, m_isPerson S.2.1.1.2.2 (by omega), bnd]
  simp only [app1, List.cons_append, List.nil_append]
  rw [b203_5]
  unfold whyFo
  by_cases h1 : isN v (gP G)
  · rw [if_neg (by rw [bI_z]; exact fun z => z h1), if_pos h1]
    obtain ⟨p, hp, rfl⟩ := isN_lN h1 (by omega)
    have hwp := S.2.2.2.1.2.2.1 p hp
    simp (disch := omega) only [b203_8, b203_12, b203_27, b203_31, b203_32, lN_i, nI_add, in_170, if_true, nI_clamp, lN_toInt, Int.toNat_natCast]
    rw [show 102 + p = 88 + 14 + p by omega, S.2.2.1.2.2.2 p (by omega)]
    by_cases h2 : wPap W p = 9
    · rw [if_pos (by rw [h2]), if_pos h2]
    · rw [if_neg (by rw [nI_eq (by omega) (by decide)]; exact h2), if_neg h2]
  · rw [if_pos (by rw [bI_z]; exact h1), if_neg h1]
    simp only [b203_8, b203_12, b203_27, b203_31, b203_32]
def dForge (G : LG) (W : WG) (L : List WG) (p : Int32) : Int32 × WG × List WG := if whyFo G W p.toInt64 = 0 then (nI (wPap W (toN p) + 1), forgeW W (toN p), pushL L W) else (-10 - nI (whyFo G W p.toInt64), W, L)
theorem mS_keep {G : LG} {W : WG} {L : List WG} {B : Nat} {h h2 : sm_H} (S : mS h G W L B) (E : eqx sxK h h2) : mS h2 G W L B := by
  obtain ⟨hw, hG, hW, hww, hL, hLw, hpl⟩ := S
  have e : sm_gi h2 170 = sm_gi h 170 := funext fun i => E.1 170 i (by unfold sxK; omega)
  exact ⟨hw, by rw [e]; exact hG, by rw [e]; exact hW, hww, by rw [e]; exact hL, hLw, by rw [E.1 169 15 (by unfold sxK; omega)]; exact hpl⟩
theorem m_forge {G : LG} {W : WG} {L : List WG} {B : Nat} {h : sm_H} {p : Int32} (S : mS h G W L B) : ∃ h2, xc 208 [.ref 169, .int p] h = some ([.int (dForge G W L p).1], h2) ∧ mS h2 G (dForge G W L p).2.1 (dForge G W L p).2.2 (B + 3) ∧ eqx sxM h h2 := by
  rw [en_208, b208_0, b208_5]
  have S0 := mS_thrown (v := nI 0) S
  have hw := S0.1
  have hP := hw.2.2.1
  rw [m_whyForge S0, bnd]
  simp only [app1, List.cons_append, List.nil_append]
  have hle : whyFo G W p.toInt64 ≤ 2 := by unfold whyFo; repeat' split
                                           all_goals omega
  rw [b208_11]
  unfold dForge
  by_cases h0 : whyFo G W p.toInt64 = 0
  · rw [if_pos (by rw [nI_z (by omega)]; exact h0), if_pos h0, b208_21]
    have hq : isN p.toInt64 (gP G) := by
      by_cases q : isN p.toInt64 (gP G)
      · exact q
      · unfold whyFo at h0; rw [if_neg q] at h0; omega
    obtain ⟨j, hj, rfl⟩ := isN_nI hq (by omega)
    have hwp := S0.2.2.2.1.2.2.1 j hj
    have h9 : wPap W j ≠ 9 := fun z => by
      unfold whyFo at h0
      rw [if_pos hq, nI_l (by omega), lN_toInt (by omega), Int.toNat_natCast, if_pos z] at h0
      omega
    rw [toN_nI (by omega)]
    obtain ⟨h2, e2, k2, E2⟩ := m_keeps (h := sm_si h 169 0 (nI 0))
    rw [e2, bnd]
    simp only [List.nil_append]
    have S2 := mS_keep S0 E2
    obtain ⟨h3, e3, W3, E3⟩ := m_forges hw S2.2.2.1 hj
    rw [b208_25, e3, bnd]
    simp only [List.nil_append]
    obtain ⟨h4, e4, S4, E4, a4⟩ := mS_note S0 (Nat.le_add_right B 3) k2 E2 W3 ((S0.2.2.2.1.pap hj (by omega)).day (Nat.le_add_right _ _) (by omega)) E3
    rw [b208_30, e4, bnd]
    simp only [List.nil_append]
    rw [b208_34]
    simp (disch := omega) only [nI_add, in_170, if_true, nI_clamp]
    refine ⟨h4, ?_, S4, eqx_thrown E4⟩
    rw [a4 _ (by omega) (by omega), show 102 + j = 88 + 14 + j by omega, W3.2.2.2 j (by omega)]
    congr 4
    exact congrArg nI upN_s
  · rw [if_neg (by rw [nI_z (by omega)]; exact h0), if_neg h0, b208_16]
    exact ⟨_, rfl, S0.mono (by omega), eqx_thrown eqx.rf⟩
/-- shut -/
def dShut (G : LG) (W : WG) (L : List WG) (r : Int32) : Int32 × WG × List WG := if isN r.toInt64 (gR G) then (nI ((wSh W ^^^ 2 ^ toN r) / 2 ^ toN r % 2), sSh W (wSh W ^^^ 2 ^ toN r), pushL L W) else (-11, W, L)
theorem m_shut {G : LG} {W : WG} {L : List WG} {B : Nat} {h : sm_H} {r : Int32} (S : mS h G W L B) : ∃ h2, xc 209 [.ref 169, .int r] h = some ([.int (dShut G W L r).1], h2) ∧ mS h2 G (dShut G W L r).2.1 (dShut G W L r).2.2 B ∧ eqx sxM h h2 := by
  rw [en_209, b209_0, b209_5]
  have S0 := mS_thrown (v := nI 0) S
  have hw := S0.1
  have hP := hw.2.2.1
  have hR := hw.2.1
  rw [m_isRoad S0.2.1.1.2.1 (by omega), bnd]
  simp only [app1, List.cons_append, List.nil_append]
  rw [b209_11]
  unfold dShut
  by_cases h1 : isN r.toInt64 (gR G)
  · rw [if_neg (by rw [bI_z]; exact fun z => z h1), if_pos h1, b209_17]
    obtain ⟨i, hi, rfl⟩ := isN_nI h1 (by omega)
    rw [toN_nI (by omega)]
    obtain ⟨h2, e2, k2, E2⟩ := m_keeps (h := sm_si h 169 0 (nI 0))
    rw [e2, bnd]
    simp only [List.nil_append]
    have S2 := mS_keep S0 E2
    rw [b209_21]
    simp (disch := omega) only [in_170, if_true, nI_clamp, shl1]
    rw [S2.2.2.1.1, nx_xor]
    have hx : wSh W ^^^ 2 ^ i < 4096 := Nat.xor_lt_two_pow (n := 12) S0.2.2.2.1.1 (Nat.pow_lt_pow_right (by decide) (by omega))
    obtain ⟨h4, e4, S4, E4, a4⟩ := mS_note (h2 := sm_si h2 170 88 (nI (wSh W ^^^ 2 ^ i))) S0 (Nat.le_refl B) k2 E2 (S2.2.2.1.sh gi_same (fun i hi => gi_slot hi)) (S0.2.2.2.1.sh hx) (eqx.rf.si (by unfold sxD; omega))
    rw [b209_34, e4, bnd]
    simp only [List.nil_append]
    rw [b209_38]
    simp (disch := omega) only [in_170, if_true, nI_clamp]
    refine ⟨h4, ?_, S4, eqx_thrown E4⟩
    rw [a4 _ (by omega) (by omega), gi_same, shr1 (by omega) (by omega)]
  · rw [if_pos (by rw [bI_z]; exact h1), if_neg h1, b209_14]
    exact ⟨_, rfl, S0, eqx_thrown eqx.rf⟩
