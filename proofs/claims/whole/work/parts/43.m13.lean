/-! ===== the model: judge, year ===== -/
def dJudge (G : LG) (W : WG) (T : TG) (t w : Int32) : Int32 := if isN w.toInt64 4 then (if isN t.toInt64 4 then (match T (toN t) with
  | none => -6
  | some q => if toN w = 0 then (if (tellF G W q.2).2.1 = 0 then -1 else nI (tellF G W q.2).1) else if toN w = 1 then nI (tellF G W q.2).2.1 else if toN w = 2 then nI (wRd (tellF G W q.2).2.2) else nI (pSum (wPap (tellF G W q.2).2.2) (gP G))) else -2) else -2
theorem m_judge {G : LG} {W : WG} {L : List WG} {B : Nat} {h : sm_H} {T : TG} {t w : Int32} (S : mS h G W L B) (hT : mT h T) : ∃ h2, xc 217 [.ref 169, .int t, .int w] h = some ([.int (dJudge G W T t w)], h2) ∧ mS h2 G W L B ∧ mT h2 T ∧ eqx sxM h h2 := by
  rw [en_217, b217_0, b217_5]
  have S0 := mS_thrown (v := nI 0) S
  have hw := S0.1
  have hP := hw.2.2.1
  have T0 : mT (sm_si h 169 0 (nI 0)) T := mT_eqx hT (S := sxM) (eqx.rf.si (by unfold sxM; omega)) (fun c i a b => by unfold sxM; omega)
  rw [m_within, bnd]
  simp only [app1, List.cons_append, List.nil_append]
  rw [b217_14, fa_litL 0, fa_litL 3, bI_congr (isN_w (by decide))]
  unfold dJudge
  by_cases hwn : isN w.toInt64 4
  · rw [if_neg (by rw [bI_z]; exact fun z => z hwn), if_pos hwn, b217_20, m_noTray T0, bnd]
    simp only [app1, List.cons_append, List.nil_append]
    rw [b217_25]
    obtain ⟨k, hk, rfl⟩ := isN_nI hwn (by omega)
    rw [toN_nI (by omega)]
    unfold trI
    by_cases h1 : isN t.toInt64 4
    · rw [if_pos h1, if_pos h1]
      obtain ⟨j, hj, rfl⟩ := isN_nI h1 (by omega)
      rw [toN_nI (by omega)]
      cases hq : T j with
      | none =>
        dsimp only
        rw [if_neg (by decide +kernel), b217_30]
        exact ⟨_, rfl, S0, T0, eqx_thrown eqx.rf⟩
      | some q =>
        dsimp only
        rw [if_pos (by decide +kernel), b217_32]
        have hm := hT j hj
        rw [hq] at hm
        obtain ⟨h2, e2, k2, E2⟩ := m_keeps (h := sm_si h 169 0 (nI 0))
        rw [e2, bnd]
        simp only [List.nil_append]
        have S2 := mS_keep S0 E2
        have T2 : mT h2 T := mT_eqx T0 E2 (fun c i a b => by unfold sxK; omega)
        obtain ⟨h3, e3, a3, S3, E3⟩ := m_tells S2 T2 hj hq
        rw [b217_36, e3, bnd]
        simp only [app1, List.cons_append, List.nil_append]
        rw [b217_41]
        simp (disch := omega) only [in_170, if_true, nI_clamp]
        rw [m_papersAll S3, bnd, show (89 : Nat) = 88 + 1 from rfl, S3.2.2.1.2.1]
        simp only [app1, List.cons_append, List.nil_append]
        rw [b217_56]
        obtain ⟨h4, e4, a4, E4⟩ := m_isAgain (h := h3)
        rw [e4, bnd]
        simp only [List.nil_append]
        have W4 : mW (sm_gi h4 170) 88 (gP G) W := mW_cp (f := sm_gi (sm_si h 169 0 (nI 0)) 170) (o := 88) hP (fun i hi => by rw [a4 i hi, E3.1 176 i (by unfold sxT sxD; omega)]; exact k2 i hi) S0.2.2.1
        have E24 : eqx sxT h2 h4 := E3.tr (E4.wk sxD_T)
        have S4 := mS_D S2 E24 W4 S2.2.2.2.1 (Nat.le_refl B)
        have T4 := mT_eqx T2 E24 (fun c i a b => by unfold sxT sxD; omega)
        have E4' : eqx sxM h h4 := eqx_thrown ((E2.wk sxK_M).tr (E24.wk (fun c i q => by unfold sxT sxD at q; unfold sxM; omega)))
        have h19 : sm_gi h4 169 19 = nI (tellF G W q.2).2.1 := by rw [E4.1 169 19 (by unfold sxD; omega)]; exact a3
        have hle := tellF_le q.2 W (G := G)
        refine ⟨h4, ?_, S4, T4, E4'⟩
        rcases (by omega : k = 0 ∨ k = 1 ∨ k = 2 ∨ k = 3) with rfl | rfl | rfl | rfl
        · rw [b217_62, if_pos (by decide +kernel), if_pos rfl, b217_66, h19]
          by_cases z : (tellF G W q.2).2.1 = 0
          · rw [if_pos (by rw [nI_z (by omega)]; exact z), if_pos z]
            simp only [b217_0, b217_5, b217_14, b217_17, b217_20, b217_25, b217_30, b217_32, b217_36, b217_41, b217_56, b217_73, b217_77, b217_82, b217_87, b217_94, b217_99, b217_104, b217_106]
          · rw [if_neg (by rw [nI_z (by omega)]; exact z), if_neg z]
            simp only [b217_0, b217_5, b217_14, b217_17, b217_20, b217_25, b217_30, b217_32, b217_36, b217_41, b217_56, b217_73, b217_77, b217_82, b217_87, b217_94, b217_99, b217_104, b217_106]
        · rw [b217_62, if_neg (by decide +kernel), if_neg (by decide), if_pos rfl, b217_82, if_pos rfl]
          simp only [b217_0, b217_5, b217_14, b217_17, b217_20, b217_25, b217_30, b217_32, b217_36, b217_41, b217_56, b217_73, b217_77, b217_87, b217_94, b217_99, b217_104, b217_106, h19]
        · rw [b217_62, if_neg (by decide +kernel), if_neg (by decide), if_neg (by decide), if_pos rfl, b217_82, if_neg (by decide +kernel), b217_94, if_pos rfl]
          simp only [b217_0, b217_5, b217_14, b217_17, b217_20, b217_25, b217_30, b217_32, b217_36, b217_41, b217_56, b217_73, b217_77, b217_87, b217_99, b217_104, b217_106]
        · rw [b217_62, if_neg (by decide +kernel), if_neg (by decide), if_neg (by decide), if_neg (by decide), b217_82, if_neg (by decide +kernel), b217_94, if_neg (by decide +kernel)]
          simp only [b217_0, b217_5, b217_14, b217_17, b217_20, b217_25, b217_30, b217_32, b217_36, b217_41, b217_56, b217_73, b217_77, b217_87, b217_99, b217_104, b217_106]
    · rw [if_neg h1, if_neg h1]
      rw [if_neg (by decide +kernel), b217_30]
      exact ⟨_, rfl, S0, T0, eqx_thrown eqx.rf⟩
  · rw [if_pos (by rw [bI_z]; exact hwn), if_neg hwn, b217_17]
    exact ⟨_, rfl, S0, T0, eqx_thrown eqx.rf⟩
/-- draws -/
def lcg (x : Int32) : Int32 := nI 1103515245 * x + nI 12345
def drN (x : Int32) (b : Nat) : Nat := x.toBitVec.toNat / 65536 % b
theorem ushr16 (x : Int32) : (x.toUInt32 >>> ((nI 16).toUInt32 &&& Int32.toUInt32 31)).toInt32 = nI (x.toBitVec.toNat / 65536) := by
  obtain ⟨n, hn, rfl⟩ := wb_of32 x
  rw [pk_ushrN hn (nI 16) 16 (by decide +kernel), pk_tn hn]
theorem m_draw {b : Nat} {h : sm_H} (hb : 0 < b) (hb2 : b < 2 ^ 31) : xc 219 [.ref 169, .int (nI b)] h = some ([.int (nI (drN (lcg (sm_gi h 169 20)) b))], sm_si h 169 20 (lcg (sm_gi h 169 20))) := by
  rw [en_219, b219_0, b219_16, gi_same, ushr16]
  have hlt : (lcg (sm_gi h 169 20)).toBitVec.toNat / 65536 < 2 ^ 31 := by
    have := (lcg (sm_gi h 169 20)).toBitVec.isLt
    omega
  rw [if_neg (nI_ne0 hb hb2)]
  rw [show nI 1103515245 * sm_gi h 169 20 + nI 12345 = lcg (sm_gi h 169 20) from rfl, pk_rem hlt hb hb2]
  rfl
/-- a drawn deed, and what the next is drawn from -/
def drw (x : Int32) : Int32 × Int32 :=
  if drN (lcg x) 5 = 0 then (-1, lcg x)
  else if drN (lcg x) 5 = 4 then (nI (3000 + drN (lcg (lcg x)) 12), lcg (lcg x))
  else if drN (lcg x) 5 = 3 then (nI (2000 + drN (lcg (lcg x)) 6), lcg (lcg x))
  else (nI (100 * drN (lcg (lcg x)) 6 + drN (lcg (lcg (lcg x))) 12), lcg (lcg (lcg x)))
def sxX : Nat → Nat → Prop := fun c i => c = 169 ∧ i = 20
theorem m_drawn {h : sm_H} : ∃ h2, xc 220 [.ref 169] h = some ([.int (drw (sm_gi h 169 20)).1], h2) ∧ sm_gi h2 169 20 = (drw (sm_gi h 169 20)).2 ∧ eqx sxX h h2 := by
  rw [en_220, b220_0, m_draw (by decide) (by decide), bnd]
  simp only [app1, List.cons_append, List.nil_append]
  have h5 : drN (lcg (sm_gi h 169 20)) 5 < 5 := Nat.mod_lt _ (by decide)
  generalize hx : sm_gi h 169 20 = x at *
  rw [b220_5]
  unfold drw
  by_cases c0 : drN (lcg x) 5 = 0
  · rw [if_pos (by rw [c0]; decide +kernel), if_pos c0, b220_10]
    exact ⟨_, rfl, gi_same, eqx.rf.si ⟨rfl, rfl⟩⟩
  · rw [if_neg (by rw [nI_z (by omega)]; exact c0), if_neg c0, b220_12]
    by_cases c4 : drN (lcg x) 5 = 4
    · rw [if_pos (by rw [c4]), if_pos c4, b220_17, m_draw (by decide) (by decide), bnd]
      simp only [app1, List.cons_append, List.nil_append, gi_same, b220_26, nI_add]
      exact ⟨_, rfl, gi_same, (eqx.rf.si ⟨rfl, rfl⟩).si ⟨rfl, rfl⟩⟩
    · rw [if_neg (by rw [nI_eq (by omega) (by decide)]; exact c4), if_neg c4, b220_28, m_draw (by decide) (by decide), bnd]
      simp only [app1, List.cons_append, List.nil_append, gi_same]
      rw [b220_34]
      by_cases c3 : drN (lcg x) 5 = 3
      · rw [if_pos (by rw [c3]), if_pos c3]
        simp only [b220_40, b220_59, nI_add]
        exact ⟨_, rfl, gi_same, (eqx.rf.si ⟨rfl, rfl⟩).si ⟨rfl, rfl⟩⟩
      · rw [if_neg (by rw [nI_eq (by omega) (by decide)]; exact c3), if_neg c3, b220_48, m_draw (by decide) (by decide), bnd]
        simp only [app1, List.cons_append, List.nil_append, gi_same, b220_58, b220_59, pk_mul, nI_add]
        exact ⟨_, rfl, gi_same, ((eqx.rf.si ⟨rfl, rfl⟩).si ⟨rfl, rfl⟩).si ⟨rfl, rfl⟩⟩
