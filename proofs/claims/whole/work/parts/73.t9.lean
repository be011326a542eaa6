/-! ===== the class: ways asked for ===== -/
def xS (W : WG) (p : Nat) : XS := (0, wBeen W p, wPap W p, wAt W p)
def sxW : Nat → Nat → Prop := fun c _ => c = 14 ∨ c = 17 ∨ c = 49 ∨ c = 50 ∨ (104 ≤ c ∧ c ≤ 115) ∨ c = 124
theorem sxH_W : ∀ c i, sxH c i → sxW c i := fun c i z => by unfold sxH at z; unfold sxW; omega
theorem sxJ_W : ∀ c i, sxJ c i → sxW c i := fun c i z => by unfold sxJ at z; unfold sxW; omega
theorem cS_W {G : LG} {W : WG} {L : List WG} {B : Nat} {h h2 : sm_H} (S : cS h G W L B) (hE : cE h2 G) (E : eqx sxW h h2) : cS h2 G W L B := ⟨hE, cW_eqx S.2.1 E (fun c i z => by unfold sxW at z; omega), S.2.2.1, cPast_eqx S.2.2.2.1 E (fun c i z => by unfold sxW at z; omega), S.2.2.2.2⟩
theorem cE_J {h h2 : sm_H} {G : LG} (H : cE h G) (E : eqx sxJ h h2) : cE h2 G := cE_eqx H E (fun c i z => by unfold sxJ at z; omega)
theorem cI_J {h h2 : sm_H} {B : Nat} (H : cI h B) (E : eqx sxJ h h2) : cI h2 B := cI_eqx H E (fun c i z => by unfold sxJ at z; omega)
def sxA4 : Nat → Nat → Prop := fun c i => c = 104 ∧ 2 ≤ i ∧ i ≤ 8
theorem sxA4_W : ∀ c i, sxA4 c i → sxW c i := fun c i z => by unfold sxA4 at z; unfold sxW; omega
theorem c_startAt {G : LG} {W : WG} {L : List WG} {B p : Nat} {h : sm_H} (S : cS h G W L B) (hp : p < gP G) : ∃ h2, xc 71 [.ref 104, .ref 18, .int (nI p)] h = some ([], h2) ∧ cQ h2 G (wSh W) none p false 1 (xS W p) ∧ cS h2 G W L B ∧ eqx sxA4 h h2 := by
  have hw := S.1.1
  have hP := hw.2.2.1
  have hm := S.2.1.2.2.1 p hp
  have hwp := S.2.2.1.2.2.1 p hp
  rw [en_71, b71_0, b71_5 isAB18.w]
  simp (disch := omega) only [in_w isAB18, if_true, nI_clamp]
  rw [b71_15 isAB18.w]
  simp (disch := omega) only [in_w isAB18, if_true, nI_clamp]
  rw [b71_25 isAB18.w]
  simp (disch := omega) only [in_w isAB18, if_true, nI_clamp]
  rw [b71_35 isAB18.w, b71_43, b71_48, b71_53]
  simp (disch := omega) only [gi_cell]
  rw [show sm_gi h (18 + 1) p = nI (wAt W p) from hm.1, show sm_gi h (18 + 4) p = nI (wBeen W p) from hm.2.2, show sm_gi h (18 + 3) p = nI (wPap W p) from S.2.1.2.2.2 p (by omega), S.2.1.1]
  generalize hh : sm_si (sm_si (sm_si (sm_si (sm_si (sm_si (sm_si h 104 2 (nI p)) 104 3 (nI (wAt W p))) 104 4 (nI (wBeen W p))) 104 5 (nI (wPap W p))) 104 6 (nI (wSh W))) 104 7 (-1)) 104 8 (nI 1) = h2
  have E2 : eqx sxA4 h h2 := by
    rw [← hh]
    exact ((((((eqx.rf.si (by unfold sxA4; omega)).si (by unfold sxA4; omega)).si (by unfold sxA4; omega)).si (by unfold sxA4; omega)).si (by unfold sxA4; omega)).si (by unfold sxA4; omega)).si (by unfold sxA4; omega)
  have cE2 : cE h2 G := cE_eqx S.1 E2 (fun c i z => by unfold sxA4 at z; omega)
  have g : ∀ i, sm_gi h2 104 i = if i = 8 then nI 1 else if i = 7 then -1 else if i = 6 then nI (wSh W) else if i = 5 then nI (wPap W p) else if i = 4 then nI (wBeen W p) else if i = 3 then nI (wAt W p) else if i = 2 then nI p else sm_gi h 104 i := fun i => by rw [← hh]; rfl
  exact ⟨h2, rfl, ⟨cE2, hp, ⟨⟨(show (0 : Nat) < 16 by decide), hwp.2.2.2, hwp.2.2.1, hwp.1⟩, rfl⟩, ⟨g 2, g 3, g 4, g 5⟩, ⟨g 6, S.2.2.1.1⟩, ⟨g 7, (fun t z => by cases z), (fun z => by cases z)⟩, g 8, Or.inl ⟨rfl, rfl⟩⟩, cS_W S cE2 (E2.wk sxA4_W), E2⟩
theorem cI_A4 {h h2 : sm_H} {B : Nat} (H : cI h B) (E : eqx sxA4 h h2) : cI h2 B := cI_eqx H E (fun c i z => by unfold sxA4 at z; omega)
theorem c_seek {G : LG} {W : WG} {L : List WG} {B B' p : Nat} {h : sm_H} (S : cS h G W L B) (I : cI h B') (hB : B' < 2 ^ 29) (hp : p < gP G) : ∃ D h2, xc 6 [.ref 113, .int (nI p)] h = some ([], h2) ∧ FS h2 G (wSh W) none p false (xS W p) D ∧ cQ h2 G (wSh W) none p false 1 (xS W p) ∧ cS h2 G W L B ∧ cI h2 (B' + 1) ∧ eqx sxW h h2 := by
  obtain ⟨h1, e1, Q1, S1, E1⟩ := c_startAt S hp
  obtain ⟨D, h2, e2, F2, Q2, I2, E2⟩ := c_spread Q1 (cI_A4 I E1) hB
  rw [en_6, b6_0, e1, bnd]
  simp only [List.nil_append]
  rw [b6_12, e2, bnd]
  simp only [List.nil_append]
  rw [b6_19]
  exact ⟨D, h2, rfl, F2, Q2, cS_W S1 Q2.1 (E2.wk sxH_W), I2, (E1.wk sxA4_W).tr (E2.wk sxH_W)⟩
noncomputable def aSoon (G : LG) (W : WG) (p q : Int32) : Int32 := if isN p.toInt64 (gP G) ∧ isN q.toInt64 (gN G) then dyI G (bW G (wSh W) none (toN p) (xS W (toN p)) 0 (toN q)) else -2
noncomputable def aWay (G : LG) (W : WG) (p q i : Int32) : Int32 := if isN p.toInt64 (gP G) ∧ isN q.toInt64 (gN G) then (if 0 ≤ i then wI ((bW G (wSh W) none (toN p) (xS W (toN p)) 0 (toN q)).getD []) i else -3) else -2
noncomputable def aLeft (G : LG) (W : WG) (p q : Int32) : Int32 := if isN p.toInt64 (gP G) ∧ isN q.toInt64 (gN G) then pbI G (wSh W) none (toN p) (xS W (toN p)) (toN q) else -2
noncomputable def aReach (G : LG) (W : WG) (p : Int32) : Int32 := if isN p.toInt64 (gP G) then nI (bsN (fun f => (bW G (wSh W) none (toN p) (xS W (toN p)) 0 f).isSome) (gN G)) else -2
noncomputable def aLoop (G : LG) (W : WG) (p : Int32) : Int32 := if isN p.toInt64 (gP G) then dyI G (bW G (wSh W) none (toN p) (xS W (toN p)) 1 0) else -2
noncomputable def aLoopW (G : LG) (W : WG) (p i : Int32) : Int32 := if isN p.toInt64 (gP G) then (if 0 ≤ i then wI ((bW G (wSh W) none (toN p) (xS W (toN p)) 1 0).getD []) i else -3) else -2
noncomputable def crB (G : LG) (sh p : Nat) (x0 : XS) (r : Nat) : Bool := @decide (gBri G r = true ∧ ∃ w x y, rn (stp G sh none p false) x0 w = some x ∧ stp G sh none p false x r = some y) (Classical.propDecidable _)
noncomputable def aCross (G : LG) (W : WG) (p : Int32) : Int32 := if isN p.toInt64 (gP G) then nI (bsN (crB G (wSh W) (toN p) (xS W (toN p))) 12) else -2
theorem FS_cross {G : LG} {sh p : Nat} {x0 : XS} {D : Nat → Option (List Nat)} {h : sm_H} (hw : wfG G) (hx : wfX G) (ok0 : okX G x0) (hm0 : xM x0 = 0) (F : FS h G sh none p false x0 D) : sm_gi h 104 14 = nI (bsN (crB G sh p x0) 12) := by
  obtain ⟨T, -, B, N⟩ := F
  obtain ⟨b, hb, e, hbit⟩ := (N rfl).2.2.1
  rw [e]
  congr 1
  refine bsN_uniq 12 hb (fun r _ => ?_)
  rw [hbit, crB]
  constructor
  · rintro ⟨c, w, x, y, -, h2, h3, h4, h5, h6⟩
    obtain ⟨x2, ok2, -, hc2, hr2⟩ := T.1 c w h2
    have hxx : x2 = x := cdX_inj hw ok2 h3 (hc2.trans h4.symm)
    subst hxx
    exact @decide_eq_true _ (Classical.propDecidable _) ⟨h6, w, x2, y, hr2, h5⟩
  · intro z
    obtain ⟨h6, w, x, y, h1, h2⟩ := @of_decide_eq_true _ (Classical.propDecidable _) z
    obtain ⟨v, hv, -⟩ := B w x h1
    exact ⟨cdX x, v, x, y, trivial, hv, (rn_ok hw hx _ _ _ ok0 (Or.inr hm0) h1).1, rfl, h2, h6⟩
theorem c_soonest {G : LG} {W : WG} {L : List WG} {B B' : Nat} {h : sm_H} {p q : Int32} (S : cS h G W L B) (I : cI h B') (hB : B' < 2 ^ 28) : ∃ h2, xc 118 [.ref 0, .int p, .int q] h = some ([.int (aSoon G W p q)], h2) ∧ cS h2 G W L B ∧ cI h2 (B' + 1) ∧ eqx sxW h h2 := by
  have hw := S.1.1
  have hN := hw.1.2
  have hP := hw.2.2.1
  have hR := hw.2.1
  unfold aSoon
  rw [en_118, b118_0, c_hasPerson isD2 S.1.2.2.1.1.2.2.1 (by omega), bnd]
  simp only [app1, List.cons_append, List.nil_append]
  rw [b118_8]
  by_cases h1 : isN p.toInt64 (gP G)
  · rw [if_neg (by rw [bI_z]; exact fun z => z h1), b118_11, c_hasPlace isD2 S.1.2.2.1.1.1 (by omega), bnd]
    simp only [app1, List.cons_append, List.nil_append]
    rw [b118_19]
    by_cases h2 : isN q.toInt64 (gN G)
    · have hc : isN p.toInt64 (gP G) ∧ isN q.toInt64 (gN G) := ⟨h1, h2⟩
      rw [if_neg (by rw [bI_z]; exact fun z => z h2), if_pos hc]
      obtain ⟨j, hj, rfl⟩ := isN_nI h1 (by omega)
      obtain ⟨f, hf, rfl⟩ := isN_nI h2 (by omega)
      rw [toN_nI (by omega), toN_nI (by omega)]
      rw [b118_25]
      obtain ⟨D, h2, e2, F2, Q2, S2, I2, E2⟩ := c_seek S I (by omega) hj
      rw [e2, bnd]
      simp only [List.nil_append]
      rw [b118_33, c_daysTo Q2 F2 hf, bnd]
      simp only [app1, List.cons_append, List.nil_append]
      rw [b118_41]
      exact ⟨h2, rfl, S2, I2, E2⟩
    · rw [if_pos (by rw [bI_z]; exact h2), if_neg (fun z : isN p.toInt64 (gP G) ∧ isN q.toInt64 (gN G) => h2 z.2), b118_22]
      exact ⟨h, rfl, S, I.mono (by omega), eqx.rf⟩
  · rw [if_pos (by rw [bI_z]; exact h1), if_neg (fun z : isN p.toInt64 (gP G) ∧ isN q.toInt64 (gN G) => h1 z.1), b118_22]
    exact ⟨h, rfl, S, I.mono (by omega), eqx.rf⟩
theorem c_left {G : LG} {W : WG} {L : List WG} {B B' : Nat} {h : sm_H} {p q : Int32} (S : cS h G W L B) (I : cI h B') (hB : B' < 2 ^ 28) : ∃ h2, xc 120 [.ref 0, .int p, .int q] h = some ([.int (aLeft G W p q)], h2) ∧ cS h2 G W L B ∧ cI h2 (B' + 1) ∧ eqx sxW h h2 := by
  have hw := S.1.1
  have hN := hw.1.2
  have hP := hw.2.2.1
  have hR := hw.2.1
  unfold aLeft
  rw [en_120, b120_0, c_hasPerson isD2 S.1.2.2.1.1.2.2.1 (by omega), bnd]
  simp only [app1, List.cons_append, List.nil_append]
  rw [b120_8]
  by_cases h1 : isN p.toInt64 (gP G)
  · rw [if_neg (by rw [bI_z]; exact fun z => z h1), b120_11, c_hasPlace isD2 S.1.2.2.1.1.1 (by omega), bnd]
    simp only [app1, List.cons_append, List.nil_append]
    rw [b120_19]
    by_cases h2 : isN q.toInt64 (gN G)
    · have hc : isN p.toInt64 (gP G) ∧ isN q.toInt64 (gN G) := ⟨h1, h2⟩
      rw [if_neg (by rw [bI_z]; exact fun z => z h2), if_pos hc]
      obtain ⟨j, hj, rfl⟩ := isN_nI h1 (by omega)
      obtain ⟨f, hf, rfl⟩ := isN_nI h2 (by omega)
      rw [toN_nI (by omega), toN_nI (by omega)]
      rw [b120_25]
      obtain ⟨D, h2, e2, F2, Q2, S2, I2, E2⟩ := c_seek S I (by omega) hj
      rw [e2, bnd]
      simp only [List.nil_append]
      rw [b120_33, c_papersBehind Q2 F2 hf, bnd]
      simp only [app1, List.cons_append, List.nil_append]
      rw [b120_41]
      exact ⟨h2, rfl, S2, I2, E2⟩
    · rw [if_pos (by rw [bI_z]; exact h2), if_neg (fun z : isN p.toInt64 (gP G) ∧ isN q.toInt64 (gN G) => h2 z.2), b120_22]
      exact ⟨h, rfl, S, I.mono (by omega), eqx.rf⟩
  · rw [if_pos (by rw [bI_z]; exact h1), if_neg (fun z : isN p.toInt64 (gP G) ∧ isN q.toInt64 (gN G) => h1 z.1), b120_22]
    exact ⟨h, rfl, S, I.mono (by omega), eqx.rf⟩
theorem c_way {G : LG} {W : WG} {L : List WG} {B B' : Nat} {h : sm_H} {p q i : Int32} (S : cS h G W L B) (I : cI h B') (hB : B' < 2 ^ 28) : ∃ h2, xc 119 [.ref 0, .int p, .int q, .int i] h = some ([.int (aWay G W p q i)], h2) ∧ cS h2 G W L B ∧ cI h2 (B' + 1) ∧ eqx sxW h h2 := by
  have hw := S.1.1
  have hN := hw.1.2
  have hP := hw.2.2.1
  have hR := hw.2.1
  unfold aWay
  rw [en_119, b119_0, c_hasPerson isD2 S.1.2.2.1.1.2.2.1 (by omega), bnd]
  simp only [app1, List.cons_append, List.nil_append]
  rw [b119_8]
  by_cases h1 : isN p.toInt64 (gP G)
  · rw [if_neg (by rw [bI_z]; exact fun z => z h1), b119_11, c_hasPlace isD2 S.1.2.2.1.1.1 (by omega), bnd]
    simp only [app1, List.cons_append, List.nil_append]
    rw [b119_19]
    by_cases h2 : isN q.toInt64 (gN G)
    · have hc : isN p.toInt64 (gP G) ∧ isN q.toInt64 (gN G) := ⟨h1, h2⟩
      rw [if_neg (by rw [bI_z]; exact fun z => z h2), if_pos hc]
      obtain ⟨j, hj, rfl⟩ := isN_nI h1 (by omega)
      obtain ⟨f, hf, rfl⟩ := isN_nI h2 (by omega)
      rw [toN_nI (by omega), toN_nI (by omega)]
      rw [b119_25]
      by_cases hi : 0 ≤ i
      · rw [if_pos hi, if_pos hi, b119_32]
        obtain ⟨D, h2, e2, F2, Q2, S2, I2, E2⟩ := c_seek S I (by omega) hj
        rw [e2, bnd]
        simp only [List.nil_append]
        rw [b119_40]
        obtain ⟨h3, e3, P3, E3⟩ := c_spellTo Q2 F2 hf
        rw [e3, bnd]
        simp only [List.nil_append]
        rw [b119_48, c_spelledRoad P3, bnd]
        simp only [app1, List.cons_append, List.nil_append]
        rw [b119_56]
        exact ⟨h3, rfl, cS_W S2 (cE_J Q2.1 E3) (E3.wk sxJ_W), cI_J I2 E3, E2.tr (E3.wk sxJ_W)⟩
      · rw [if_neg hi, if_neg hi, b119_29]
        exact ⟨h, rfl, S, I.mono (by omega), eqx.rf⟩
    · rw [if_pos (by rw [bI_z]; exact h2), if_neg (fun z : isN p.toInt64 (gP G) ∧ isN q.toInt64 (gN G) => h2 z.2), b119_22]
      exact ⟨h, rfl, S, I.mono (by omega), eqx.rf⟩
  · rw [if_pos (by rw [bI_z]; exact h1), if_neg (fun z : isN p.toInt64 (gP G) ∧ isN q.toInt64 (gN G) => h1 z.1), b119_22]
    exact ⟨h, rfl, S, I.mono (by omega), eqx.rf⟩
theorem c_reach {G : LG} {W : WG} {L : List WG} {B B' : Nat} {h : sm_H} {p : Int32} (S : cS h G W L B) (I : cI h B') (hB : B' < 2 ^ 28) : ∃ h2, xc 121 [.ref 0, .int p] h = some ([.int (aReach G W p)], h2) ∧ cS h2 G W L B ∧ cI h2 (B' + 1) ∧ eqx sxW h h2 := by
  have hw := S.1.1
  have hN := hw.1.2
  have hP := hw.2.2.1
  have hR := hw.2.1
  unfold aReach
  rw [en_121, b121_0, c_hasPerson isD2 S.1.2.2.1.1.2.2.1 (by omega), bnd]
  simp only [app1, List.cons_append, List.nil_append]
  rw [b121_8]
  by_cases h1 : isN p.toInt64 (gP G)
  · rw [if_neg (by rw [bI_z]; exact fun z => z h1), if_pos h1]
    obtain ⟨j, hj, rfl⟩ := isN_nI h1 (by omega)
    rw [toN_nI (by omega)]
    rw [b121_14]
    obtain ⟨D, h2, e2, F2, Q2, S2, I2, E2⟩ := c_seek S I (by omega) hj
    rw [e2, bnd]
    simp only [List.nil_append]
    rw [b121_22, c_reached Q2 F2, bnd]
    simp only [app1, List.cons_append, List.nil_append]
    rw [b121_29]
    exact ⟨h2, rfl, S2, I2, E2⟩
  · rw [if_pos (by rw [bI_z]; exact h1), if_neg h1, b121_11]
    exact ⟨h, rfl, S, I.mono (by omega), eqx.rf⟩
theorem c_loophole {G : LG} {W : WG} {L : List WG} {B B' : Nat} {h : sm_H} {p : Int32} (S : cS h G W L B) (I : cI h B') (hB : B' < 2 ^ 28) : ∃ h2, xc 130 [.ref 0, .int p] h = some ([.int (aLoop G W p)], h2) ∧ cS h2 G W L B ∧ cI h2 (B' + 1) ∧ eqx sxW h h2 := by
  have hw := S.1.1
  have hN := hw.1.2
  have hP := hw.2.2.1
  have hR := hw.2.1
  unfold aLoop
  rw [en_130, b130_0, c_hasPerson isD2 S.1.2.2.1.1.2.2.1 (by omega), bnd]
  simp only [app1, List.cons_append, List.nil_append]
  rw [b130_8]
  by_cases h1 : isN p.toInt64 (gP G)
  · rw [if_neg (by rw [bI_z]; exact fun z => z h1), if_pos h1]
    obtain ⟨j, hj, rfl⟩ := isN_nI h1 (by omega)
    rw [toN_nI (by omega)]
    rw [b130_14]
    obtain ⟨D, h2, e2, F2, Q2, S2, I2, E2⟩ := c_seek S I (by omega) hj
    rw [e2, bnd]
    simp only [List.nil_append]
    rw [b130_22, c_daysToLoophole (g := 0) Q2 rfl F2, bnd]
    simp only [app1, List.cons_append, List.nil_append]
    rw [b130_29]
    exact ⟨h2, rfl, S2, I2, E2⟩
  · rw [if_pos (by rw [bI_z]; exact h1), if_neg h1, b130_11]
    exact ⟨h, rfl, S, I.mono (by omega), eqx.rf⟩
theorem c_crosses {G : LG} {W : WG} {L : List WG} {B B' : Nat} {h : sm_H} {p : Int32} (S : cS h G W L B) (I : cI h B') (hB : B' < 2 ^ 28) : ∃ h2, xc 133 [.ref 0, .int p] h = some ([.int (aCross G W p)], h2) ∧ cS h2 G W L B ∧ cI h2 (B' + 1) ∧ eqx sxW h h2 := by
  have hw := S.1.1
  have hN := hw.1.2
  have hP := hw.2.2.1
  have hR := hw.2.1
  unfold aCross
  rw [en_133, b133_0, c_hasPerson isD2 S.1.2.2.1.1.2.2.1 (by omega), bnd]
  simp only [app1, List.cons_append, List.nil_append]
  rw [b133_8]
  by_cases h1 : isN p.toInt64 (gP G)
  · rw [if_neg (by rw [bI_z]; exact fun z => z h1), if_pos h1]
    obtain ⟨j, hj, rfl⟩ := isN_nI h1 (by omega)
    rw [toN_nI (by omega)]
    rw [b133_14]
    obtain ⟨D, h2, e2, F2, Q2, S2, I2, E2⟩ := c_seek S I (by omega) hj
    rw [e2, bnd]
    simp only [List.nil_append]
    rw [b133_22, FS_cross hw S.1.2.1 Q2.2.2.1.1 Q2.2.2.1.2 F2]
    exact ⟨h2, rfl, S2, I2, E2⟩
  · rw [if_pos (by rw [bI_z]; exact h1), if_neg h1, b133_11]
    exact ⟨h, rfl, S, I.mono (by omega), eqx.rf⟩
theorem c_loopWay {G : LG} {W : WG} {L : List WG} {B B' : Nat} {h : sm_H} {p i : Int32} (S : cS h G W L B) (I : cI h B') (hB : B' < 2 ^ 28) : ∃ h2, xc 131 [.ref 0, .int p, .int i] h = some ([.int (aLoopW G W p i)], h2) ∧ cS h2 G W L B ∧ cI h2 (B' + 1) ∧ eqx sxW h h2 := by
  have hw := S.1.1
  have hN := hw.1.2
  have hP := hw.2.2.1
  have hR := hw.2.1
  unfold aLoopW
  rw [en_131, b131_0, c_hasPerson isD2 S.1.2.2.1.1.2.2.1 (by omega), bnd]
  simp only [app1, List.cons_append, List.nil_append]
  rw [b131_8]
  by_cases h1 : isN p.toInt64 (gP G)
  · rw [if_neg (by rw [bI_z]; exact fun z => z h1), if_pos h1]
    obtain ⟨j, hj, rfl⟩ := isN_nI h1 (by omega)
    rw [toN_nI (by omega)]
    rw [b131_14]
    by_cases hi : 0 ≤ i
    · rw [if_pos hi, if_pos hi, b131_21]
      obtain ⟨D, h2, e2, F2, Q2, S2, I2, E2⟩ := c_seek S I (by omega) hj
      rw [e2, bnd]
      simp only [List.nil_append]
      rw [b131_29]
      obtain ⟨h3, e3, P3, E3⟩ := c_spellLoophole (g := 0) Q2 rfl F2
      rw [e3, bnd]
      simp only [List.nil_append]
      rw [b131_36, c_spelledRoad P3, bnd]
      simp only [app1, List.cons_append, List.nil_append]
      rw [b131_44]
      exact ⟨h3, rfl, cS_W S2 (cE_J Q2.1 E3) (E3.wk sxJ_W), cI_J I2 E3, E2.tr (E3.wk sxJ_W)⟩
    · rw [if_neg hi, if_neg hi, b131_18]
      exact ⟨h, rfl, S, I.mono (by omega), eqx.rf⟩
  · rw [if_pos (by rw [bI_z]; exact h1), if_neg h1, b131_11]
    exact ⟨h, rfl, S, I.mono (by omega), eqx.rf⟩
