/-! ===== the model: going, giving, forging, days ===== -/
def errW (G : LG) (W : WG) (p : Nat) : WG := if gGol G p = some (wAt W p) ∧ nI (wDay W p) ≤ gBy G p then sRd W (wRd W ||| 2 ^ p) else W
theorem gol_eq {o : Option Nat} {a : Nat} (h : ∀ g, o = some g → g < 2 ^ 31) (ha : a < 2 ^ 31) : (toI o = nI a) ↔ o = some a := by
  cases o with
  | none => exact iff_of_false (fun z => (nI_m1' ha).mp z) (fun z => by cases z)
  | some g =>
    rw [show toI (some g) = nI g from rfl, nI_eq (h g rfl) ha]
    exact ⟨fun z => by rw [z], fun z => Option.some.inj z⟩
theorem wfG.gol {G : LG} (hw : wfG G) {p : Nat} (hp : p < gP G) : ∀ g, gGol G p = some g → g < 2 ^ 31 := fun g hg => by
  have := (hw.2.2.2.2.1 p hp).2 g hg
  have := hw.1.2
  omega
theorem m_doesErrand {p : Nat} {G : LG} {W : WG} {h : sm_H} (hG : mG (sm_gi h 170) G) (hw : wfG G) (hW : mW (sm_gi h 170) 88 (gP G) W) (hat : wAt W p < 2 ^ 31) (hp : p < gP G) :
    ∃ h2, xc 183 [.ref 169, .int (nI p)] h = some ([], h2) ∧ mW (sm_gi h2 170) 88 (gP G) (errW G W p) ∧ eqx sxD h h2 := by
  have hP := hw.2.2.1
  have hm := hW.2.2.1 p hp
  have hg := hG.2.2.1 p hp
  rw [en_183, b183_0]
  simp (disch := omega) only [nI_add, in_170, if_true, nI_clamp]
  rw [hg.2.1, show 90 + p = 88 + 2 + p by omega, hm.1]
  unfold errW
  by_cases h1 : gGol G p = some (wAt W p)
  · rw [if_pos ((gol_eq (hw.gol hp) hat).mpr h1), b183_21]
    simp (disch := omega) only [nI_add, in_170, if_true, nI_clamp]
    rw [show 96 + p = 88 + 8 + p by omega, hm.2.1, hg.2.2]
    by_cases h2 : nI (wDay W p) ≤ gBy G p
    · rw [if_neg (Int32.not_lt.mpr h2), if_pos ⟨h1, h2⟩]
      simp (disch := omega) only [b183_42, b183_55, nI_add, in_170, if_true, nI_clamp, shl1]
      rw [show (89 : Nat) = 88 + 1 from rfl, hW.2.1, fa_or]
      exact ⟨_, rfl, hW.rd gi_same (fun i hi => gi_slot hi), eqx.rf.si (by unfold sxD; omega)⟩
    · rw [if_pos (Int32.not_le.mp h2), if_neg (fun z => h2 z.2)]
      simp (disch := omega) only [b183_42, b183_55]
      exact ⟨_, rfl, hW, eqx.rf⟩
  · rw [if_neg (fun z => h1 ((gol_eq (hw.gol hp) hat).mp z)), if_neg (fun z => h1 z.1)]
    simp (disch := omega) only [b183_42, b183_55]
    exact ⟨_, rfl, hW, eqx.rf⟩
def tolW (G : LG) (W : WG) (p r t : Nat) : Nat := if gBri G r = true then tollN G p (wPap W p) (wBeen W p) (wAt W p) t else 0
/-- person p goes over road r to t -/
def goW (G : LG) (W : WG) (p r t : Nat) : WG := errW G (sBeen (sDay (sAt (sPap W p (wPap W p - tolW G W p r t)) p t) p (wDay W p + gLon G r)) p (wBeen W p ||| 2 ^ t)) p
theorem m_goes {B p r t : Nat} {G : LG} {W : WG} {h : sm_H} (hG : mG (sm_gi h 170) G) (hw : wfG G) (hW : mW (sm_gi h 170) 88 (gP G) W) (hww : wfW G B W) (hpl : sm_gi h 169 15 = -1) (hp : p < gP G) (hr : r < gR G) (ht : toF G r (wAt W p) = some t) (htol : tolW G W p r t ≤ wPap W p) :
    ∃ h2, xc 200 [.ref 169, .int (nI p), .int (nI r)] h = some ([], h2) ∧ mW (sm_gi h2 170) 88 (gP G) (goW G W p r t) ∧ eqx sxD h h2 := by
  have hR := hw.2.1
  have hP := hw.2.2.1
  have hN := hw.1.2
  have hpw := pow6 hN
  have hwp := hww.2.2.1 p hp
  have hm := hW.2.2.1 p hp
  have hm2 := hW.2.2.2 p (by omega)
  have htN := toF_lt hw hr ht
  rw [en_200, b200_0]
  simp (disch := omega) only [nI_add, in_170, if_true, nI_clamp]
  obtain ⟨h1, e1, E1⟩ := m_takesNow hG hw hW hww hpl hp hr ht
  rw [show 102 + p = 88 + 14 + p by omega, hm2, e1, bnd]
  have hG1 := mG_eqx hG E1 (fun i q => by unfold sxL at q; omega)
  have hW1 := mW_L hW E1
  simp only [app1, List.cons_append, List.nil_append]
  rw [show (if gBri G r = true then tollN G p (wPap W p) (wBeen W p) (wAt W p) t else 0) = tolW G W p r t from rfl]
  rw [b200_16]
  simp (disch := omega) only [in_170, if_true, nI_clamp]
  rw [pk_sub htol, show 102 + p = 88 + 14 + p by omega]
  generalize hh2 : sm_si h1 170 (88 + 14 + p) (nI (wPap W p - tolW G W p r t)) = h2
  have W2 : mW (sm_gi h2 170) 88 (gP G) (sPap W p (wPap W p - tolW G W p r t)) := by
    rw [← hh2]; exact hW1.pap hP (by omega) gi_same (fun i hi => gi_slot hi)
  have E2 : eqx sxD h h2 := by rw [← hh2]; exact (E1.wk sxL_D).si (by unfold sxD; omega)
  have G2 := mG_D hw hG E2
  rw [b200_18]
  simp (disch := omega) only [nI_add, in_170, if_true, nI_clamp]
  rw [show 90 + p = 88 + 2 + p by omega, (W2.2.2.1 p hp).1, show wAt (sPap W p (wPap W p - tolW G W p r t)) p = wAt W p from rfl, m_leads' G2 hw hr (by omega), ht, bnd]
  simp only [app1, List.cons_append, List.nil_append, show toI (some t) = nI t from rfl]
  rw [b200_40]
  simp (disch := omega) only [in_170, if_true, nI_clamp]
  rw [show 90 + p = 88 + 2 + p by omega]
  generalize hh3 : sm_si h2 170 (88 + 2 + p) (nI t) = h3
  have W3 := W2.at (p := p) (f' := sm_gi h3 170) (v := t) hP (by omega) (by rw [← hh3]; exact gi_same) (fun i hi => by rw [← hh3]; exact gi_slot hi)
  have E3 : eqx sxD h h3 := by rw [← hh3]; exact E2.si (by unfold sxD; omega)
  have G3 := mG_D hw hG E3
  rw [b200_41]
  simp (disch := omega) only [nI_add, in_170, if_true, nI_clamp]
  rw [show 96 + p = 88 + 8 + p by omega, (W3.2.2.1 p hp).2.1, (G3.2.1 r hr).2.2.1, nI_add, show wDay (sAt (sPap W p (wPap W p - tolW G W p r t)) p t) p = wDay W p from rfl]
  generalize hh4 : sm_si h3 170 (88 + 8 + p) (nI (wDay W p + gLon G r)) = h4
  have W4 := W3.day (p := p) (f' := sm_gi h4 170) (v := wDay W p + gLon G r) hP (by omega) (by rw [← hh4]; exact gi_same) (fun i hi => by rw [← hh4]; exact gi_slot hi)
  have E4 : eqx sxD h h4 := by rw [← hh4]; exact E3.si (by unfold sxD; omega)
  have ht4 : sm_gi h4 170 (88 + 2 + p) = nI t := by rw [(W4.2.2.1 p hp).1]; exact congrArg nI upN_s
  simp (disch := omega) only [b200_62, b200_85, b200_90, nI_add, in_170, if_true, nI_clamp]
  rw [show 108 + p = 88 + 20 + p by omega, (W4.2.2.1 p hp).2.2, show 90 + p = 88 + 2 + p by omega, ht4, shl1 (by omega), fa_or, show wBeen (sDay (sAt (sPap W p (wPap W p - tolW G W p r t)) p t) p (wDay W p + gLon G r)) p = wBeen W p from rfl]
  generalize hh5 : sm_si h4 170 (88 + 20 + p) (nI (wBeen W p ||| 2 ^ t)) = h5
  have W5 := W4.been (p := p) (f' := sm_gi h5 170) (v := wBeen W p ||| 2 ^ t) hP (by omega) (by rw [← hh5]; exact gi_same) (fun i hi => by rw [← hh5]; exact gi_slot hi)
  have E5 : eqx sxD h h5 := by rw [← hh5]; exact E4.si (by unfold sxD; omega)
  obtain ⟨h6, e6, W6, E6⟩ := m_doesErrand (mG_D hw hG E5) hw W5 (by show upN (wAt W) p t p < 2 ^ 31; rw [upN_s]; omega) hp
  rw [e6, bnd]
  simp only [List.nil_append, b200_62, b200_85, b200_90]
  exact ⟨h6, rfl, W6, E5.tr E6⟩
def giveW (W : WG) (p q n : Nat) : WG := sPap (sPap W p (wPap W p - n)) q (wPap W q + n)
theorem m_gives {p q n : Nat} {G : LG} {W : WG} {h : sm_H} (hw : wfG G) (hW : mW (sm_gi h 170) 88 (gP G) W) (hp : p < 6) (hq : q < 6) (hpq : p ≠ q) (hn : n ≤ wPap W p) :
    ∃ h2, xc 202 [.ref 169, .int (nI p), .int (nI q), .int (nI n)] h = some ([], h2) ∧ mW (sm_gi h2 170) 88 (gP G) (giveW W p q n) ∧ eqx sxD h h2 := by
  have hP := hw.2.2.1
  rw [en_202, b202_0]
  simp (disch := omega) only [nI_add, in_170, if_true, nI_clamp]
  rw [show 102 + p = 88 + 14 + p by omega, hW.2.2.2 p hp, pk_sub hn]
  generalize hh2 : sm_si h 170 (88 + 14 + p) (nI (wPap W p - n)) = h2
  have W2 := hW.pap (p := p) (f' := sm_gi h2 170) (v := wPap W p - n) hP hp (by rw [← hh2]; exact gi_same) (fun i hi => by rw [← hh2]; exact gi_slot hi)
  have E2 : eqx sxD h h2 := by rw [← hh2]; exact eqx.rf.si (by unfold sxD; omega)
  simp (disch := omega) only [b202_13, b202_26, nI_add, in_170, if_true, nI_clamp]
  rw [show 102 + q = 88 + 14 + q by omega, W2.2.2.2 q hq, show wPap (sPap W p (wPap W p - n)) q = wPap W q from upN_n (Ne.symm hpq), nI_add]
  exact ⟨_, rfl, W2.pap hP hq gi_same (fun i hi => gi_slot hi), E2.si (by unfold sxD; omega)⟩
def forgeW (W : WG) (p : Nat) : WG := sDay (sPap W p (wPap W p + 1)) p (wDay W p + 3)
theorem m_forges {p : Nat} {G : LG} {W : WG} {h : sm_H} (hw : wfG G) (hW : mW (sm_gi h 170) 88 (gP G) W) (hp : p < gP G) :
    ∃ h2, xc 204 [.ref 169, .int (nI p)] h = some ([], h2) ∧ mW (sm_gi h2 170) 88 (gP G) (forgeW W p) ∧ eqx sxD h h2 := by
  have hP := hw.2.2.1
  rw [en_204, b204_0]
  simp (disch := omega) only [nI_add, in_170, if_true, nI_clamp]
  rw [show 102 + p = 88 + 14 + p by omega, hW.2.2.2 p (by omega), nI_add]
  generalize hh2 : sm_si h 170 (88 + 14 + p) (nI (wPap W p + 1)) = h2
  have W2 := hW.pap (p := p) (f' := sm_gi h2 170) (v := wPap W p + 1) hP (by omega) (by rw [← hh2]; exact gi_same) (fun i hi => by rw [← hh2]; exact gi_slot hi)
  have E2 : eqx sxD h h2 := by rw [← hh2]; exact eqx.rf.si (by unfold sxD; omega)
  simp (disch := omega) only [b204_13, b204_26, nI_add, in_170, if_true, nI_clamp]
  rw [show 96 + p = 88 + 8 + p by omega, (W2.2.2.1 p hp).2.1, show wDay (sPap W p (wPap W p + 1)) p = wDay W p from rfl, nI_add]
  exact ⟨_, rfl, W2.day hP (by omega) gi_same (fun i hi => gi_slot hi), E2.si (by unfold sxD; omega)⟩
def dayW (W : WG) (k n : Nat) : WG := (W.1, W.2.1, (fun j => if j < k then W.2.2.1 j + n else W.2.2.1 j), W.2.2.2)
theorem dayW_step {W : WG} {k : Nat} : sDay (dayW W k 1) k (wDay W k + 1) = dayW W (k + 1) 1 := by
  unfold sDay dayW
  congr 3
  funext j
  unfold upN wDay
  by_cases z : j = k
  · subst z; rw [if_pos rfl, if_pos (by omega)]
  · rw [if_neg z]
    dsimp only
    by_cases z2 : j < k
    · rw [if_pos z2, if_pos (by omega)]
    · rw [if_neg z2, if_neg (by omega)]
theorem m_goesDay_loop {G : LG} {W : WG} {h : sm_H} (hw : wfG G) (hG : mG (sm_gi h 170) G) : ∀ (m k : Nat) (h1 : sm_H), k + m = gP G → mW (sm_gi h1 170) 88 (gP G) (dayW W k 1) → eqx sxD h h1 →
    ∃ h2, xe 1 205 2 [.ref 169, .int (nI k)] [] h1 = some ([], h2) ∧ mW (sm_gi h2 170) 88 (gP G) (dayW W (gP G) 1) ∧ eqx sxD h h2
  | 0, k, h1, e, hW, E => by
    have hP := hw.2.2.1
    have hk : k = gP G := by omega
    subst hk
    rw [b205_2]
    simp (disch := omega) only [in_170, if_true, nI_clamp, (mG_D hw hG E).1.2.2]
    rw [if_pos (Int32.le_refl _)]
    simp only [b205_12, b205_25, b205_31]
    exact ⟨h1, rfl, hW, E⟩
  | m + 1, k, h1, e, hW, E => by
    have hP := hw.2.2.1
    rw [b205_2]
    simp (disch := omega) only [in_170, if_true, nI_clamp, (mG_D hw hG E).1.2.2]
    rw [if_neg (by rw [nI_leI (by omega) (by omega)]; omega)]
    simp (disch := omega) only [b205_12, b205_25, b205_31, nI_add, in_170, if_true, nI_clamp]
    rw [show 96 + k = 88 + 8 + k by omega, (hW.2.2.1 k (by omega)).2.1, show wDay (dayW W k 1) k = wDay W k from if_neg (Nat.lt_irrefl k), nI_add]
    have W2 := hW.day (p := k) (f' := sm_gi (sm_si h1 170 (88 + 8 + k) (nI (wDay W k + 1))) 170) (v := wDay W k + 1) hP (by omega) gi_same (fun i hi => gi_slot hi)
    rw [dayW_step] at W2
    exact m_goesDay_loop hw hG m (k + 1) _ (by omega) W2 (E.si (by unfold sxD; omega))
theorem m_goesDay {G : LG} {W : WG} {h : sm_H} (hw : wfG G) (hG : mG (sm_gi h 170) G) (hW : mW (sm_gi h 170) 88 (gP G) W) :
    ∃ h2, xc 205 [.ref 169] h = some ([], h2) ∧ mW (sm_gi h2 170) 88 (gP G) (dayW W (gP G) 1) ∧ eqx sxD h h2 := by
  rw [en_205, b205_0]
  refine m_goesDay_loop hw hG (gP G) 0 h (by omega) ?_ eqx.rf
  rw [show dayW W 0 1 = W from by unfold dayW; simp]
  exact hW
