/-! ===== count ===== -/
noncomputable def golB (G : LG) (p : Nat) : Bool := (gGol G p).isSome
noncomputable def aCount (G : LG) (W : WG) (L : List WG) (ln tp : Int32) (k : Int32) : Int32 :=
  if k = nI 0 then nI (gN G) else if k = nI 1 then nI (gR G) else if k = nI 2 then nI (gP G) else if k = nI 3 then nI (gBs G) else if k = nI 4 then nI (wSh W)
  else if k = nI 5 then nI (cntB (golB G) (gP G)) else if k = nI 6 then nI (pcnt (wRd W) 12) else if k = nI 7 then nI (pSum (wPap W) (gP G)) else if k = nI 8 then nI L.length
  else if k = nI 9 then tp else if k = nI 10 then ln else -1
theorem cnt_cases (k : Int32) : (∃ n, n ≤ 10 ∧ k = nI n) ∨ ((∀ n, n ≤ 10 → ¬ k = nI n) ∧ (k.toInt < 0 ∨ 11 ≤ k.toInt)) := by
  by_cases z : 0 ≤ k.toInt ∧ k.toInt ≤ 10
  · refine Or.inl ⟨k.toInt.toNat, by omega, ?_⟩
    apply Int32.toInt_inj.mp
    rw [nI_toInt (by omega)]
    omega
  · refine Or.inr ⟨fun n hn e => z ?_, by omega⟩
    rw [e, nI_toInt (by omega)]
    omega
theorem aCount_no {G : LG} {W : WG} {L : List WG} {ln tp k : Int32} (h : ∀ n, n ≤ 10 → ¬ k = nI n) : aCount G W L ln tp k = -1 := by
  unfold aCount
  rw [if_neg (h 0 (by decide)), if_neg (h 1 (by decide)), if_neg (h 2 (by decide)), if_neg (h 3 (by decide)), if_neg (h 4 (by decide)), if_neg (h 5 (by decide)), if_neg (h 6 (by decide)), if_neg (h 7 (by decide)), if_neg (h 8 (by decide)), if_neg (h 9 (by decide)), if_neg (h 10 (by decide))]
theorem sw_no {k : Int32} {d : Nat} {l : List Nat} (hl : l.length = 11) (h : k.toInt < 0 ∨ 11 ≤ k.toInt) : (if k.toInt < 0 then d else l.getD (k.toInt - 0).toNat d) = d := by
  by_cases z : k.toInt < 0
  · rw [if_pos z]
  · rw [if_neg z, List.getD_eq_getElem?_getD, List.getElem?_eq_none (by omega)]
    rfl
section CNT
variable {G : LG} {W : WG} {L : List WG} {B : Nat} {h : sm_H}
theorem m_bridgesSet_loop (S : mS h G W L B) : ∀ (m k : Nat), k + m = gR G → xe 1 277 4 [.ref 169, .int (nI (bsN (gBri G) k)), .int (nI k)] [] h = some ([.int (nI (gBs G))], h)
  | 0, k, e => by
    have : k = gR G := by omega
    subst this
    rw [b277_4]
    simp (disch := omega) only [in_170, if_true, nI_clamp, S.2.1.1.2.1]
    rw [if_pos (Int32.le_refl _), b277_34]
    rfl
  | m + 1, k, e => by
    have hR := S.1.2.1
    have ih := m_bridgesSet_loop S m (k + 1) (by omega)
    have hg : sm_gi h 170 (46 + k) = nI (if gBri G k then 1 else 0) := (S.2.1.2.1 k (by omega)).2.2.2.1
    rw [b277_4]
    simp (disch := omega) only [in_170, if_true, nI_clamp, S.2.1.1.2.1]
    rw [if_neg (by rw [nI_leI (by omega) (by omega)]; omega), b277_14]
    simp (disch := omega) only [nI_add, in_170, if_true, nI_clamp, hg]
    rw [bsN_step] at ih
    by_cases q : gBri G k = true
    · rw [if_pos q] at ih
      rw [if_pos q, shl1 (by omega), fa_or]
      exact ih
    · rw [if_neg q] at ih
      rw [if_neg q, show nI 0 <<< (nI k &&& 31) = nI 0 by rcases (show k = 0 ∨ k = 1 ∨ k = 2 ∨ k = 3 ∨ k = 4 ∨ k = 5 ∨ k = 6 ∨ k = 7 ∨ k = 8 ∨ k = 9 ∨ k = 10 ∨ k = 11 by omega) with rfl | rfl | rfl | rfl | rfl | rfl | rfl | rfl | rfl | rfl | rfl | rfl <;> decide, fa_or, Nat.or_zero]
      exact ih
theorem m_errands_loop (S : mS h G W L B) : ∀ (m k : Nat), k + m = gP G → xe 2 278 4 [.ref 169, .int (nI (cntB (golB G) k)), .int (nI k)] [] h = some ([.int (nI (cntB (golB G) (gP G)))], h)
  | 0, k, e => by
    have : k = gP G := by omega
    subst this
    rw [b278_4]
    simp (disch := omega) only [in_170, if_true, nI_clamp, S.2.1.1.2.2]
    rw [if_pos (Int32.le_refl _), b278_36]
  | m + 1, k, e => by
    have hP := S.1.2.2.1
    have ih := m_errands_loop S m (k + 1) (by omega)
    rw [cntB_succ] at ih
    rw [b278_4]
    simp (disch := omega) only [in_170, if_true, nI_clamp, S.2.1.1.2.2]
    rw [if_neg (by rw [nI_leI (by omega) (by omega)]; omega), b278_14, m_isErrand S (show k < gP G by omega), bnd]
    simp only [app1, List.cons_append, List.nil_append]
    rw [b278_20]
    cases hg : gGol G k with
    | none =>
      rw [if_neg (show ¬ golB G k = true by unfold golB; rw [hg]; decide), Nat.add_zero] at ih
      rw [if_pos (by rw [bI_z]; exact fun z => z rfl), b278_27, b278_28, nI_add, nI_add]
      exact ih
    | some g =>
      rw [if_pos (show golB G k = true by unfold golB; rw [hg]; rfl)] at ih
      rw [if_neg (by rw [bI_z]; exact fun z => z (fun y => by cases y)), b278_23, b278_28, nI_add, nI_add]
      exact ih
theorem c_errands_loop (hE : cE h G) : ∀ (m k : Nat), k + m = gP G → xe 1 39 4 [.ref 2, .int (nI (cntB (golB G) k)), .int (nI k)] [] h = some ([.int (nI (cntB (golB G) (gP G)))], h)
  | 0, k, e => by
    have : k = gP G := by omega
    subst this
    rw [b39_4 isD2, show sm_gi h 2 3 = nI (gP G) from hE.2.2.1.1.2.2.1, if_pos (Int32.le_refl _), b39_31]
  | m + 1, k, e => by
    have hP := hE.1.2.2.1
    have ih := c_errands_loop hE m (k + 1) (by omega)
    rw [cntB_succ] at ih
    have hg10 : sm_gi h 10 k = toI (gGol G k) := (hE.2.2.1.2.2.1 k (by omega)).2.1
    rw [b39_4 isD2, show sm_gi h 2 3 = nI (gP G) from hE.2.2.1.1.2.2.1, if_neg (by rw [nI_leI (by omega) (by omega)]; omega), b39_12 isD2, if_pos (in_c (by rw [ln_10]; omega) (by omega)), nI_clamp (by omega), hg10]
    cases hg : gGol G k with
    | none =>
      rw [if_neg (show ¬ golB G k = true by unfold golB; rw [hg]; decide), Nat.add_zero] at ih
      rw [show toI none = -1 from rfl, if_pos rfl, b39_25, nI_add]
      exact ih
    | some g =>
      have hgn := (hE.1.2.2.2.2.1 k (by omega)).2 g hg
      have hN := hE.1.1.2
      rw [if_pos (show golB G k = true by unfold golB; rw [hg]; rfl)] at ih
      rw [show toI (some g) = nI g from rfl, if_neg (by rw [nI_m1 (by omega)]; exact id), b39_22, nI_add, b39_25, nI_add]
      exact ih
theorem m_count {k ln tp : Int32} (S : mS h G W L B) (hln : sm_gi h 170 0 = ln) (htp : sm_gi h 169 5 = tp) : xc 279 [.ref 169, .int k] h = some ([.int (aCount G W L ln tp k)], sm_si h 169 0 (nI 0)) := by
  have S0 := mS_thrown (v := nI 0) S
  have hww := S.2.2.2.1
  have e2 := m_bridgesSet_loop S0 (gR G) 0 (by omega)
  have e3 := m_errands_loop S0 (gP G) 0 (by omega)
  rw [en_279, b279_0, b279_5]
  rcases cnt_cases k with ⟨n, hn, rfl⟩ | ⟨z1, z2⟩
  · rcases (show n = 0 ∨ n = 1 ∨ n = 2 ∨ n = 3 ∨ n = 4 ∨ n = 5 ∨ n = 6 ∨ n = 7 ∨ n = 8 ∨ n = 9 ∨ n = 10 by omega) with rfl | rfl | rfl | rfl | rfl | rfl | rfl | rfl | rfl | rfl | rfl
    · rw [show (if (nI 0).toInt < 0 then 139 else [64, 71, 78, 85, 90, 98, 103, 114, 119, 127, 132].getD ((nI 0).toInt - 0).toNat 139) = 64 from rfl, b279_64]
      simp (disch := omega) only [in_170, if_true, nI_clamp, S0.2.1.1.1]
      rfl
    · rw [show (if (nI 1).toInt < 0 then 139 else [64, 71, 78, 85, 90, 98, 103, 114, 119, 127, 132].getD ((nI 1).toInt - 0).toNat 139) = 71 from rfl, b279_71]
      simp (disch := omega) only [in_170, if_true, nI_clamp, S0.2.1.1.2.1]
      rfl
    · rw [show (if (nI 2).toInt < 0 then 139 else [64, 71, 78, 85, 90, 98, 103, 114, 119, 127, 132].getD ((nI 2).toInt - 0).toNat 139) = 78 from rfl, b279_78]
      simp (disch := omega) only [in_170, if_true, nI_clamp, S0.2.1.1.2.2]
      rfl
    · rw [show (if (nI 3).toInt < 0 then 139 else [64, 71, 78, 85, 90, 98, 103, 114, 119, 127, 132].getD ((nI 3).toInt - 0).toNat 139) = 85 from rfl, b279_85, en_277, b277_0]
      rw [show bsN (gBri G) 0 = 0 from rfl] at e2
      rw [e2, bnd]
      simp only [app1, List.cons_append, List.nil_append]
      rw [b279_89]
      rfl
    · rw [show (if (nI 4).toInt < 0 then 139 else [64, 71, 78, 85, 90, 98, 103, 114, 119, 127, 132].getD ((nI 4).toInt - 0).toNat 139) = 90 from rfl, b279_90]
      simp (disch := omega) only [in_170, if_true, nI_clamp, S0.2.2.1.1]
      rfl
    · rw [show (if (nI 5).toInt < 0 then 139 else [64, 71, 78, 85, 90, 98, 103, 114, 119, 127, 132].getD ((nI 5).toInt - 0).toNat 139) = 98 from rfl, b279_98, en_278, b278_0]
      rw [show cntB (golB G) 0 = 0 from rfl] at e3
      rw [e3, bnd]
      simp only [app1, List.cons_append, List.nil_append]
      rw [b279_102]
      rfl
    · have g89 : sm_gi (sm_si h 169 0 (nI 0)) 170 89 = nI (wRd W) := S0.2.2.1.2.1
      rw [show (if (nI 6).toInt < 0 then 139 else [64, 71, 78, 85, 90, 98, 103, 114, 119, 127, 132].getD ((nI 6).toInt - 0).toNat 139) = 103 from rfl, b279_103]
      simp (disch := omega) only [in_170, if_true, nI_clamp, g89]
      rw [m_bitsOf (by have := hww.2.1; omega), bnd]
      simp only [app1, List.cons_append, List.nil_append]
      rw [b279_113]
      rfl
    · rw [show (if (nI 7).toInt < 0 then 139 else [64, 71, 78, 85, 90, 98, 103, 114, 119, 127, 132].getD ((nI 7).toInt - 0).toNat 139) = 114 from rfl, b279_114, m_papersAll S0, bnd]
      simp only [app1, List.cons_append, List.nil_append]
      rw [b279_118]
      rfl
    · have g114 : sm_gi (sm_si h 169 0 (nI 0)) 170 114 = nI L.length := S0.2.2.2.2.1.1
      rw [show (if (nI 8).toInt < 0 then 139 else [64, 71, 78, 85, 90, 98, 103, 114, 119, 127, 132].getD ((nI 8).toInt - 0).toNat 139) = 119 from rfl, b279_119]
      simp (disch := omega) only [in_170, if_true, nI_clamp, g114]
      rfl
    · rw [show (if (nI 9).toInt < 0 then 139 else [64, 71, 78, 85, 90, 98, 103, 114, 119, 127, 132].getD ((nI 9).toInt - 0).toNat 139) = 127 from rfl, b279_127, gi_slot (by decide), htp]
      rfl
    · rw [show (if (nI 10).toInt < 0 then 139 else [64, 71, 78, 85, 90, 98, 103, 114, 119, 127, 132].getD ((nI 10).toInt - 0).toNat 139) = 132 from rfl, b279_132]
      simp (disch := omega) only [in_170, if_true, nI_clamp]
      rw [gi_cell (by decide), hln]
      rfl
  · rw [sw_no (by rfl) z2, b279_139, aCount_no z1]
theorem c_count {k ln tp : Int32} (S : cS h G W L B) (hln : sm_gi h 2 1 = ln) (htp : sm_gi h 0 1 = tp) : xc 146 [.ref 0, .int k] h = some ([.int (aCount G W L ln tp k)], h) := by
  have hww := S.2.2.1
  have hw := S.1.1
  have e3 := c_errands_loop S.1 (gP G) 0 (by omega)
  rw [en_146, b146_0]
  rcases cnt_cases k with ⟨n, hn, rfl⟩ | ⟨z1, z2⟩
  · rcases (show n = 0 ∨ n = 1 ∨ n = 2 ∨ n = 3 ∨ n = 4 ∨ n = 5 ∨ n = 6 ∨ n = 7 ∨ n = 8 ∨ n = 9 ∨ n = 10 by omega) with rfl | rfl | rfl | rfl | rfl | rfl | rfl | rfl | rfl | rfl | rfl
    · rw [show (if (nI 0).toInt < 0 then 148 else [60, 68, 76, 84, 92, 100, 108, 119, 127, 135, 140].getD ((nI 0).toInt - 0).toNat 148) = 60 from rfl, b146_60, show sm_gi h 2 0 = nI (gN G) from S.1.2.2.1.1.1]
      rfl
    · rw [show (if (nI 1).toInt < 0 then 148 else [60, 68, 76, 84, 92, 100, 108, 119, 127, 135, 140].getD ((nI 1).toInt - 0).toNat 148) = 68 from rfl, b146_68, show sm_gi h 2 2 = nI (gR G) from S.1.2.2.1.1.2.1]
      rfl
    · rw [show (if (nI 2).toInt < 0 then 148 else [60, 68, 76, 84, 92, 100, 108, 119, 127, 135, 140].getD ((nI 2).toInt - 0).toNat 148) = 76 from rfl, b146_76, show sm_gi h 2 3 = nI (gP G) from S.1.2.2.1.1.2.2.1]
      rfl
    · rw [show (if (nI 3).toInt < 0 then 148 else [60, 68, 76, 84, 92, 100, 108, 119, 127, 135, 140].getD ((nI 3).toInt - 0).toNat 148) = 84 from rfl, b146_84, show sm_gi h 2 4 = nI (gBs G) from S.1.2.2.1.1.2.2.2]
      rfl
    · rw [show (if (nI 4).toInt < 0 then 148 else [60, 68, 76, 84, 92, 100, 108, 119, 127, 135, 140].getD ((nI 4).toInt - 0).toNat 148) = 92 from rfl, b146_92, show sm_gi h 18 5 = nI (wSh W) from S.2.1.1]
      rfl
    · rw [show (if (nI 5).toInt < 0 then 148 else [60, 68, 76, 84, 92, 100, 108, 119, 127, 135, 140].getD ((nI 5).toInt - 0).toNat 148) = 100 from rfl, b146_100, en_39, b39_0]
      rw [show cntB (golB G) 0 = 0 from rfl] at e3
      rw [e3, bnd]
      simp only [app1, List.cons_append, List.nil_append]
      rw [b146_107]
      rfl
    · rw [show (if (nI 6).toInt < 0 then 148 else [60, 68, 76, 84, 92, 100, 108, 119, 127, 135, 140].getD ((nI 6).toInt - 0).toNat 148) = 108 from rfl, b146_108, show sm_gi h 18 4 = nI (wRd W) from S.2.1.2.1, c_bitCount (by have := hww.2.1; omega), bnd]
      simp only [app1, List.cons_append, List.nil_append]
      rw [b146_118]
      rfl
    · rw [show (if (nI 7).toInt < 0 then 148 else [60, 68, 76, 84, 92, 100, 108, 119, 127, 135, 140].getD ((nI 7).toInt - 0).toNat 148) = 119 from rfl, b146_119, c_allPapers isAB18 hw S.2.1 hww, bnd]
      simp only [app1, List.cons_append, List.nil_append]
      rw [b146_126]
      rfl
    · obtain ⟨nx, -, -, g52, -⟩ := S.2.2.2.1
      rw [show (if (nI 8).toInt < 0 then 148 else [60, 68, 76, 84, 92, 100, 108, 119, 127, 135, 140].getD ((nI 8).toInt - 0).toNat 148) = 127 from rfl, b146_127, g52]
      rfl
    · rw [show (if (nI 9).toInt < 0 then 148 else [60, 68, 76, 84, 92, 100, 108, 119, 127, 135, 140].getD ((nI 9).toInt - 0).toNat 148) = 135 from rfl, b146_135, htp]
      rfl
    · rw [show (if (nI 10).toInt < 0 then 148 else [60, 68, 76, 84, 92, 100, 108, 119, 127, 135, 140].getD ((nI 10).toInt - 0).toNat 148) = 140 from rfl, b146_140, hln]
      rfl
  · rw [sw_no (by rfl) z2, b146_148, aCount_no z1]
end CNT
