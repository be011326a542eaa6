/-! ===== the model: takes, person, road, fault ===== -/
def dTakes (G : LG) (W : WG) (p r : Int32) : Int32 := if isN p.toInt64 (gP G) ∧ isN r.toInt64 (gR G) then (match toF G (toN r) (wAt W (toN p)) with | none => -5 | some t => nI (tolW G W (toN p) (toN r) t)) else -2
theorem m_takes {G : LG} {W : WG} {L : List WG} {B : Nat} {h : sm_H} {p r : Int32} (S : mS h G W L B) : ∃ h2, xc 196 [.ref 169, .int p, .int r] h = some ([.int (dTakes G W p r)], h2) ∧ mS h2 G W L B ∧ eqx sxM h h2 := by
  rw [en_196, b196_0, b196_5]
  have S0 := mS_thrown (v := nI 0) S
  have hw := S0.1
  have hP := hw.2.2.1
  have hR := hw.2.1
  have hN := hw.1.2
  rw [m_isPerson S0.2.1.1.2.2 (by omega), bnd]
  simp only [app1, List.cons_append, List.nil_append]
  rw [b196_11]
  unfold dTakes
  by_cases h1 : isN p.toInt64 (gP G)
  · rw [if_neg (by rw [bI_z]; exact fun z => z h1), b196_14, m_isRoad S0.2.1.1.2.1 (by omega), bnd]
    simp only [app1, List.cons_append, List.nil_append]
    rw [b196_20]
    by_cases h2 : isN r.toInt64 (gR G)
    · rw [if_neg (by rw [bI_z]; exact fun z => z h2), if_pos ⟨h1, h2⟩, b196_26]
      obtain ⟨j, hj, rfl⟩ := isN_nI h1 (by omega)
      obtain ⟨i, hi, rfl⟩ := isN_nI h2 (by omega)
      have hwp := S0.2.2.2.1.2.2.1 j hj
      simp (disch := omega) only [nI_add, in_170, if_true, nI_clamp]
      rw [toN_nI (by omega), toN_nI (by omega), show 90 + j = 88 + 2 + j by omega, (S0.2.2.1.2.2.1 j hj).1, m_leads' S0.2.1 hw hi (by omega), bnd]
      simp only [app1, List.cons_append, List.nil_append]
      rw [b196_40]
      cases ht : toF G i (wAt W j) with
      | none =>
        rw [show toI none = -1 from rfl, if_pos rfl]
        simp only [b196_44, b196_55]
        exact ⟨_, rfl, S0, eqx_thrown eqx.rf⟩
      | some t =>
        have htN := toF_lt hw hi ht
        rw [show toI (some t) = nI t from rfl, if_neg (by rw [nI_m1 (by omega)]; exact id), b196_49]
        obtain ⟨h3, e3, E3⟩ := m_takesNow S0.2.1 hw S0.2.2.1 S0.2.2.2.1 S0.2.2.2.2.2.2 hj hi ht
        rw [e3, bnd]
        simp only [app1, List.cons_append, List.nil_append, b196_55]
        exact ⟨h3, rfl, mS_L S0 E3, eqx_thrown (E3.wk sxL_M)⟩
    · rw [if_pos (by rw [bI_z]; exact h2), if_neg (fun z => h2 z.2), b196_23]
      exact ⟨_, rfl, S0, eqx_thrown eqx.rf⟩
  · rw [if_pos (by rw [bI_z]; exact h1), if_neg (fun z => h1 z.1), b196_23]
    exact ⟨_, rfl, S0, eqx_thrown eqx.rf⟩
theorem ts_out {w : Int32} {tg : List Nat} {lo : Int} {df : Nat} (h : w.toInt < lo ∨ lo + (tg.length : Int) ≤ w.toInt) : (if w.toInt < lo then df else tg.getD (w.toInt - lo).toNat df) = df := by
  by_cases q : w.toInt < lo
  · rw [if_pos q]
  · rw [if_neg q, List.getD_eq_getElem?_getD, List.getElem?_eq_none (by omega)]
    rfl
theorem isN_not {w : Int32} {P : Nat} (h : ¬ isN w.toInt64 P) : w.toInt < 0 ∨ 0 + (P : Int) ≤ w.toInt := by
  unfold isN at h
  rw [Int32.toInt_toInt64] at h
  omega
def dPerson (G : LG) (W : WG) (p w : Int32) : Int32 := if isN p.toInt64 (gP G) ∧ isN w.toInt64 8 then
    (if toN w = 0 then nI (wAt W (toN p)) else if toN w = 1 then nI (wDay W (toN p)) else if toN w = 2 then nI (wPap W (toN p)) else if toN w = 3 then nI (wBeen W (toN p)) else if toN w = 4 then nI (gBor G (toN p)) else if toN w = 5 then toI (gGol G (toN p)) else if toN w = 6 then gBy G (toN p) else nI (wRd W / 2 ^ toN p % 2)) else -2
theorem bI_bit {n : Nat} : bI (n % 2 = 1) = nI (n % 2) := by
  unfold bI
  rcases (by omega : n % 2 = 0 ∨ n % 2 = 1) with q | q
  · rw [q, if_neg (by decide)]
  · rw [q, if_pos rfl]
theorem m_person {G : LG} {W : WG} {L : List WG} {B : Nat} {h : sm_H} {p w : Int32} (S : mS h G W L B) : ∃ h2, xc 193 [.ref 169, .int p, .int w] h = some ([.int (dPerson G W p w)], h2) ∧ mS h2 G W L B ∧ eqx sxM h h2 := by
  rw [en_193, b193_0, b193_5]
  have S0 := mS_thrown (v := nI 0) S
  have hw := S0.1
  have hP := hw.2.2.1
  rw [m_isPerson S0.2.1.1.2.2 (by omega), bnd]
  simp only [app1, List.cons_append, List.nil_append]
  rw [b193_11]
  unfold dPerson
  refine ⟨_, ?_, S0, eqx_thrown eqx.rf⟩
  by_cases h1 : isN p.toInt64 (gP G)
  · rw [if_neg (by rw [bI_z]; exact fun z => z h1), b193_17]
    by_cases h2 : isN w.toInt64 8
    · have hc : isN p.toInt64 (gP G) ∧ isN w.toInt64 8 := ⟨h1, h2⟩
      rw [if_pos hc]
      obtain ⟨j, hj, rfl⟩ := isN_nI h1 (by omega)
      obtain ⟨k, hk, rfl⟩ := isN_nI h2 (by omega)
      have hm := S0.2.2.1.2.2.1 j hj
      have hg := S0.2.1.2.2.1 j hj
      have hrd := S0.2.2.2.1.2.1
      rw [toN_nI (by omega), toN_nI (by omega)]
      rcases (by omega : k = 0 ∨ k = 1 ∨ k = 2 ∨ k = 3 ∨ k = 4 ∨ k = 5 ∨ k = 6 ∨ k = 7) with rfl | rfl | rfl | rfl | rfl | rfl | rfl | rfl
      · rw [show (if (nI 0).toInt < 0 then 155 else [64, 74, 84, 94, 104, 114, 124, 134].getD ((nI 0).toInt - 0).toNat 155) = 64 from by decide +kernel, b193_64]
        simp (disch := omega) only [nI_add, in_170, if_true, nI_clamp]
        rw [show 90 + j = 88 + 2 + j by omega, hm.1]
      · rw [show (if (nI 1).toInt < 0 then 155 else [64, 74, 84, 94, 104, 114, 124, 134].getD ((nI 1).toInt - 0).toNat 155) = 74 from by decide +kernel, b193_74]
        simp (disch := omega) only [nI_add, in_170, if_true, nI_clamp]
        rw [show 96 + j = 88 + 8 + j by omega, hm.2.1]; rfl
      · rw [show (if (nI 2).toInt < 0 then 155 else [64, 74, 84, 94, 104, 114, 124, 134].getD ((nI 2).toInt - 0).toNat 155) = 84 from by decide +kernel, b193_84]
        simp (disch := omega) only [nI_add, in_170, if_true, nI_clamp]
        rw [show 102 + j = 88 + 14 + j by omega, S0.2.2.1.2.2.2 j (by omega)]; rfl
      · rw [show (if (nI 3).toInt < 0 then 155 else [64, 74, 84, 94, 104, 114, 124, 134].getD ((nI 3).toInt - 0).toNat 155) = 94 from by decide +kernel, b193_94]
        simp (disch := omega) only [nI_add, in_170, if_true, nI_clamp]
        rw [show 108 + j = 88 + 20 + j by omega, hm.2.2]; rfl
      · rw [show (if (nI 4).toInt < 0 then 155 else [64, 74, 84, 94, 104, 114, 124, 134].getD ((nI 4).toInt - 0).toNat 155) = 104 from by decide +kernel, b193_104]
        simp (disch := omega) only [nI_add, in_170, if_true, nI_clamp]
        rw [hg.1]; rfl
      · rw [show (if (nI 5).toInt < 0 then 155 else [64, 74, 84, 94, 104, 114, 124, 134].getD ((nI 5).toInt - 0).toNat 155) = 114 from by decide +kernel, b193_114]
        simp (disch := omega) only [nI_add, in_170, if_true, nI_clamp]
        rw [hg.2.1]; rfl
      · rw [show (if (nI 6).toInt < 0 then 155 else [64, 74, 84, 94, 104, 114, 124, 134].getD ((nI 6).toInt - 0).toNat 155) = 124 from by decide +kernel, b193_124]
        simp (disch := omega) only [nI_add, in_170, if_true, nI_clamp]
        rw [hg.2.2]; rfl
      · rw [show (if (nI 7).toInt < 0 then 155 else [64, 74, 84, 94, 104, 114, 124, 134].getD ((nI 7).toInt - 0).toNat 155) = 134 from by decide +kernel, b193_134]
        simp (disch := omega) only [in_170, if_true, nI_clamp]
        rw [show (89 : Nat) = 88 + 1 from rfl, S0.2.2.1.2.1, m_isIn (by omega) (by omega), bnd]
        simp only [app1, List.cons_append, List.nil_append]
        rw [b193_146]
        by_cases z : wRd W / 2 ^ j % 2 = 1
        · rw [if_neg (by rw [bI_z]; exact fun q => q z)]
          simp only [b193_149, b193_154]
          rw [z]; rfl
        · rw [if_pos (by rw [bI_z]; exact z)]
          simp only [b193_153, b193_154]
          rw [show wRd W / 2 ^ j % 2 = 0 by omega]; rfl
    · rw [ts_out (isN_not h2), if_neg (fun z : isN p.toInt64 (gP G) ∧ isN w.toInt64 8 => h2 z.2), b193_155]
  · rw [if_pos (by rw [bI_z]; exact h1), if_neg (fun z => h1 z.1), b193_14]
def dRoad (G : LG) (W : WG) (r w : Int32) : Int32 := if isN r.toInt64 (gR G) ∧ isN w.toInt64 6 then
    (if toN w = 5 then nI (wSh W / 2 ^ toN r % 2) else if toN w = 0 then nI (gOne G (toN r)) else if toN w = 1 then nI (gOth G (toN r)) else if toN w = 2 then nI (gLon G (toN r)) else if toN w = 3 then nI (if gBri G (toN r) then 1 else 0) else nI (gFlo G (toN r))) else -2
theorem m_road {G : LG} {W : WG} {L : List WG} {B : Nat} {h : sm_H} {r w : Int32} (S : mS h G W L B) : ∃ h2, xc 194 [.ref 169, .int r, .int w] h = some ([.int (dRoad G W r w)], h2) ∧ mS h2 G W L B ∧ eqx sxM h h2 := by
  rw [en_194, b194_0, b194_5]
  have S0 := mS_thrown (v := nI 0) S
  have hw := S0.1
  have hR := hw.2.1
  rw [m_isRoad S0.2.1.1.2.1 (by omega), bnd]
  simp only [app1, List.cons_append, List.nil_append]
  rw [b194_11]
  unfold dRoad
  refine ⟨_, ?_, S0, eqx_thrown eqx.rf⟩
  by_cases h1 : isN r.toInt64 (gR G)
  · rw [if_neg (by rw [bI_z]; exact fun z => z h1), b194_14, m_within, bnd]
    simp only [app1, List.cons_append, List.nil_append]
    rw [b194_23, fa_litL 0, fa_litL 5, bI_congr (isN_w (by decide))]
    by_cases h2 : isN w.toInt64 6
    · rw [if_neg (by rw [bI_z]; exact fun z => z h2), if_pos ⟨h1, h2⟩, b194_29]
      obtain ⟨j, hj, rfl⟩ := isN_nI h1 (by omega)
      obtain ⟨k, hk, rfl⟩ := isN_nI h2 (by omega)
      have hg := S0.2.1.2.1 j hj
      have hsh := S0.2.2.2.1.1
      rw [toN_nI (by omega), toN_nI (by omega)]
      by_cases h5 : k = 5
      · rw [if_pos (by rw [h5]), if_pos h5]
        simp (disch := omega) only [b194_34, b194_62, in_170, if_true, nI_clamp]
        rw [S0.2.2.1.1, shr1 (by omega) (by omega)]
      · rw [if_neg (by rw [nI_eq (by omega) (by decide)]; exact h5), if_neg h5]
        simp (disch := omega) only [b194_48, b194_62, pk_mul, nI_add, in_170, if_true, nI_clamp]
        rcases (by omega : k = 0 ∨ k = 1 ∨ k = 2 ∨ k = 3 ∨ k = 4) with rfl | rfl | rfl | rfl | rfl
        · rw [show 10 + 12 * 0 + j = 10 + j by omega, hg.1]; rfl
        · rw [show 10 + 12 * 1 + j = 22 + j by omega, hg.2.1]; rfl
        · rw [show 10 + 12 * 2 + j = 34 + j by omega, hg.2.2.1]; rfl
        · rw [show 10 + 12 * 3 + j = 46 + j by omega, hg.2.2.2.1]; rfl
        · rw [show 10 + 12 * 4 + j = 58 + j by omega, hg.2.2.2.2]; rfl
    · rw [if_pos (by rw [bI_z]; exact h2), if_neg (fun z => h2 z.2), b194_26]
  · rw [if_pos (by rw [bI_z]; exact h1), if_neg (fun z => h1 z.1), b194_26]
theorem m_fault {h : sm_H} {w : Int32} : xc 177 [.ref 169, .int w] h = some ([.int (if w = 0 then sm_gi h 169 13 else if w = nI 1 then sm_gi h 169 14 else -1)], sm_si h 169 0 (nI 0)) := by
  rw [en_177]
  simp only [b177_0, b177_5, b177_9, b177_16, b177_21, b177_28, b177_29, gi_si]
  by_cases h0 : w = 0
  · rw [if_pos h0, if_pos h0]; rfl
  · rw [if_neg h0, if_neg h0]
    by_cases h1 : w = nI 1
    · rw [if_pos h1, if_pos h1]; rfl
    · rw [if_neg h1, if_neg h1]
