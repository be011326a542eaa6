/-! ===== the model: why a road can't be gone; worlds ===== -/
theorem toI_m1 {o : Option Nat} (h : ∀ t, o = some t → t < 2 ^ 31) : (toI o = -1) ↔ o = none := by
  cases o with
  | none => exact iff_of_true rfl rfl
  | some t => exact ⟨fun q => absurd q ((nI_m1 (h t rfl)).mp), fun q => by cases q⟩
theorem tollI_N {G : LG} {p pap b f t : Nat} : tollI G p pap b f t = nI (tollN G p pap b f t) ∧ tollN G p pap b f t < 2 ^ 31 := by
  have h0 : ¬ tollI G p pap b f t < 0 := by
    unfold tollI
    split
    · decide +kernel
    · split
      next q => exact Int32.not_lt.mpr q
      next => decide +kernel
  obtain ⟨j, hj, e⟩ := nI_of h0
  unfold tollN
  rw [e, nI_clamp hj]
  exact ⟨rfl, hj⟩
theorem toF_lt {G : LG} (hw : wfG G) {r f t : Nat} (hr : r < gR G) (h : toF G r f = some t) : t < gN G := by
  have := hw.2.2.2.1 r hr
  unfold toF at h
  split at h
  · cases h; exact this.2.1
  · split at h
    · cases h; exact this.1
    · cases h
theorem m_leads' {r f : Nat} {G : LG} {h : sm_H} (hG : mG (sm_gi h 170) G) (hw : wfG G) (hr : r < gR G) (hf : f < 2 ^ 31) : xc 184 [.ref 169, .int (nI r), .int (nI f)] h = some ([.int (toI (toF G r f))], h) := by
  have hR := hw.2.1
  have hN := hw.1.2
  have hv := hw.2.2.2.1 r hr
  have hg := hG.2.1 r hr
  rw [m_leads (by omega), hg.1, hg.2.1]
  congr 3
  unfold toF
  by_cases q : gOne G r = f
  · rw [if_pos q, if_pos (by rw [q])]; rfl
  · rw [if_neg q, if_neg (by rw [nI_eq (by omega) hf]; exact q)]
    by_cases q2 : gOth G r = f
    · rw [if_pos q2, if_pos (by rw [q2])]; rfl
    · rw [if_neg q2, if_neg (by rw [nI_eq (by omega) hf]; exact q2)]; rfl
theorem m_isBridge' {r : Nat} {pl : Option Nat} {G : LG} {h : sm_H} (hG : mG (sm_gi h 170) G) (hw : wfG G) (hr : r < gR G) (hpl : sm_gi h 169 15 = toI pl) (hpl2 : ∀ t, pl = some t → t < 12) : xc 185 [.ref 169, .int (nI r)] h = some ([.int (bI (gBri G r = true ∧ pl ≠ some r))], h) := by
  have hR := hw.2.1
  rw [m_isBridge (by omega), (hG.2.1 r hr).2.2.2.1, hpl]
  have e1 : (nI (if gBri G r = true then 1 else 0) = nI 1) ↔ gBri G r = true := by
    by_cases q : gBri G r = true
    · rw [if_pos q]; exact iff_of_true rfl q
    · rw [if_neg q]; exact iff_of_false (by decide +kernel) q
  have e2 : (nI r = toI pl) ↔ pl = some r := by
    cases hp : pl with
    | none => exact iff_of_false (fun z => by rw [show toI none = -1 from rfl, nI_m1 (by omega)] at z; exact z) (fun z => by cases z)
    | some t =>
      have := hpl2 t hp
      rw [show toI (some t) = nI t from rfl, nI_eq (by omega) (by omega)]
      exact ⟨fun z => by rw [z], fun z => (Option.some.inj z).symm⟩
  rw [bI_congr (show (nI (if gBri G r = true then 1 else 0) = nI 1 ∧ ¬ nI r = toI pl) ↔ (gBri G r = true ∧ pl ≠ some r) by rw [e1, e2])]
theorem whyF_le {G : LG} {sh : Nat} {pl : Option Nat} {p r pap b f : Nat} : whyF G sh pl p r pap b f ≤ 5 := by
  unfold whyF
  split
  · omega
  · repeat' split
    all_goals omega
theorem m_whyRoad {p r pap b f sh : Nat} {pl : Option Nat} {G : LG} {h : sm_H} (hG : mG (sm_gi h 170) G) (hw : wfG G) (hp : p < gP G) (hr : r < gR G) (hb : b < 2 ^ 31) (hf : f < 2 ^ 31) (hpap : pap < 2 ^ 31) (hsh : sm_gi h 170 88 = nI sh) (hsh2 : sh < 2 ^ 31) (hpl : sm_gi h 169 15 = toI pl) (hpl2 : ∀ t, pl = some t → t < 12) :
    ∃ h2, xc 190 [.ref 169, .int (nI p), .int (nI r), .int (nI pap), .int (nI b), .int (nI f)] h = some ([.int (nI (whyF G sh pl p r pap b f))], h2) ∧ eqx sxL h h2 := by
  have hR := hw.2.1
  have hN := hw.1.2
  rw [en_190, b190_0, m_leads' hG hw hr hf, bnd]
  simp only [app1, List.cons_append, List.nil_append]
  rw [b190_7]
  cases ht : toF G r f with
  | none =>
    rw [show toI none = -1 from rfl, if_pos rfl, b190_15]
    exact ⟨h, by unfold whyF; rw [ht], eqx.rf⟩
  | some t =>
    have htN := toF_lt hw hr ht
    rw [show toI (some t) = nI t from rfl, if_neg (by rw [nI_m1 (by omega)]; exact id), b190_17]
    simp (disch := omega) only [in_170, if_true, nI_clamp, hsh, m_isIn, bnd, app1, List.cons_append, List.nil_append]
    rw [b190_29]
    by_cases hs : sh / 2 ^ r % 2 = 1
    · rw [if_neg (by rw [bI_z]; exact fun z => z hs), b190_32]
      exact ⟨h, by unfold whyF; rw [ht]; simp only [hs, if_true], eqx.rf⟩
    · rw [if_pos (by rw [bI_z]; exact hs), b190_34, m_isBridge' hG hw hr hpl hpl2, bnd]
      simp only [app1, List.cons_append, List.nil_append]
      rw [b190_39]
      by_cases hbr : gBri G r = true ∧ pl ≠ some r
      · rw [if_neg (by rw [bI_z]; exact fun z => z hbr), b190_44]
        obtain ⟨h2, e2, E2⟩ := m_letsOver (pap := pap) (f := f) (t := t) hG hw hp hb (by omega)
        rw [e2, bnd]
        simp only [app1, List.cons_append, List.nil_append]
        rw [b190_56]
        by_cases hlt : letsB G p pap b f t = true
        · rw [if_neg (by rw [bI_z]; exact fun z => z hlt), b190_61]
          obtain ⟨h3, e3, E3⟩ := m_takesOver (pap := pap) (f := f) (t := t) (mG_eqx hG E2 (fun i q => by unfold sxL at q; omega)) hw hp hb (by omega)
          rw [e3, bnd]
          simp only [app1, List.cons_append, List.nil_append]
          rw [b190_74, tollI_N.1]
          refine ⟨h3, ?_, E2.tr E3⟩
          have e4 : whyF G sh pl p r pap b f = if pap < tollN G p pap b f t then 5 else 0 := by
            unfold whyF
            rw [ht]
            dsimp only
            rw [if_neg hs, if_neg (fun z => z hbr), if_neg (by rw [hlt]; decide)]
          rw [e4]
          by_cases hq : tollN G p pap b f t ≤ pap
          · rw [if_pos (by rw [nI_leI tollI_N.2 hpap]; exact hq), b190_81, b190_82, if_neg (by omega)]
          · rw [if_neg (by rw [nI_leI tollI_N.2 hpap]; exact hq), b190_77, b190_82, if_pos (by omega)]
        · rw [if_pos (by rw [bI_z]; exact hlt), b190_59]
          exact ⟨h2, by unfold whyF; rw [ht]; dsimp only; rw [if_neg hs, if_neg (fun z => z hbr), if_pos (by simpa using hlt)], E2⟩
      · rw [if_pos (by rw [bI_z]; exact hbr), b190_42]
        exact ⟨h, by unfold whyF; rw [ht]; dsimp only; rw [if_neg hs, if_pos hbr], eqx.rf⟩
/-- the world: roads shut, errands done; places, days, papers, sets of places been at -/
abbrev WG : Type := (Nat × Nat) × (Nat → Nat) × (Nat → Nat) × (Nat → Nat) × (Nat → Nat)
def wSh (W : WG) : Nat := W.1.1
def wRd (W : WG) : Nat := W.1.2
def wAt (W : WG) : Nat → Nat := W.2.1
def wDay (W : WG) : Nat → Nat := W.2.2.1
def wPap (W : WG) : Nat → Nat := W.2.2.2.1
def wBeen (W : WG) : Nat → Nat := W.2.2.2.2
def wfW (G : LG) (B : Nat) (W : WG) : Prop := wSh W < 4096 ∧ wRd W < 64 ∧ (∀ p, p < gP G → wAt W p < gN G ∧ wDay W p ≤ B ∧ wPap W p ≤ 9 ∧ wBeen W p < 2 ^ gN G) ∧ (∀ p, gP G ≤ p → p < 6 → wPap W p = 0) ∧ ∀ p, p < 6 → wRd W / 2 ^ p % 2 = 1 → p < gP G ∧ gGol G p ≠ none
/-- the world in the model's row, from o on (88; 115 + 26 j; 0 in 'was') -/
def mW (f : Nat → Int32) (o P : Nat) (W : WG) : Prop := f o = nI (wSh W) ∧ f (o + 1) = nI (wRd W) ∧ (∀ p, p < P → f (o + 2 + p) = nI (wAt W p) ∧ f (o + 8 + p) = nI (wDay W p) ∧ f (o + 20 + p) = nI (wBeen W p)) ∧ ∀ p, p < 6 → f (o + 14 + p) = nI (wPap W p)
theorem pow6 {N : Nat} (h : N ≤ 6) : 2 ^ N ≤ 64 := Nat.pow_le_pow_right (by decide) h
theorem isN_lN {v : Int64} {P : Nat} (h : isN v P) (hP : P < 2 ^ 30) : ∃ j, j < P ∧ v = lN j := by
  obtain ⟨h1, h2⟩ := h
  refine ⟨v.toInt.toNat, by omega, ?_⟩
  apply Int64.toInt_inj.mp
  rw [lN_toInt (by omega)]
  omega
theorem isN_of {j P : Nat} (hj : j < P) (hP : P < 2 ^ 30) : isN (lN j) P := by
  unfold isN
  rw [lN_toInt (by omega)]
  omega
/-- why a person can't go over a road; told by longs -/
def whyG (G : LG) (W : WG) (p r : Int64) : Nat := if isN p (gP G) ∧ isN r (gR G) then whyF G (wSh W) none p.toInt.toNat r.toInt.toNat (wPap W p.toInt.toNat) (wBeen W p.toInt.toNat) (wAt W p.toInt.toNat) else 1
theorem m_whyGo {B : Nat} {v u : Int64} {G : LG} {W : WG} {h : sm_H} (hG : mG (sm_gi h 170) G) (hw : wfG G) (hW : mW (sm_gi h 170) 88 (gP G) W) (hww : wfW G B W) (hpl : sm_gi h 169 15 = -1) :
    ∃ h2, xc 191 [.ref 169, .long v, .long u] h = some ([.int (nI (whyG G W v u))], h2) ∧ eqx sxL h h2 := by
  have hR := hw.2.1
  have hP := hw.2.2.1
  have hN := hw.1.2
  have hpw := pow6 hN
  rw [en_191, b191_0, m_isPerson hG.1.2.2 (by omega), bnd]
  simp only [app1, List.cons_append, List.nil_append]
  rw [b191_5]
  unfold whyG
  by_cases h1 : isN v (gP G)
  · rw [if_neg (by rw [bI_z]; exact fun z => z h1), b191_8, m_isRoad hG.1.2.1 (by omega), bnd]
    simp only [app1, List.cons_append, List.nil_append]
    rw [b191_13]
    by_cases h2 : isN u (gR G)
    · rw [if_neg (by rw [bI_z]; exact fun z => z h2), if_pos ⟨h1, h2⟩]
      obtain ⟨p, hp, rfl⟩ := isN_lN h1 (by omega)
      obtain ⟨r, hr, rfl⟩ := isN_lN h2 (by omega)
      have hwp := hww.2.2.1 p hp
      have hm := hW.2.2.1 p hp
      have hm2 := hW.2.2.2 p (by omega)
      simp (disch := omega) only [b191_16, b191_18, b191_60, lN_i, nI_add, in_170, if_true, nI_clamp, lN_toInt, Int.toNat_natCast]
      rw [show 102 + p = 88 + 14 + p by omega, hm2, show 108 + p = 88 + 20 + p by omega, hm.2.2, show 90 + p = 88 + 2 + p by omega, hm.1]
      obtain ⟨h3, e3, E3⟩ := m_whyRoad (sh := wSh W) (pl := none) (pap := wPap W p) (b := wBeen W p) (f := wAt W p) hG hw hp hr (by omega) (by omega) (by omega) hW.1 (by have := hww.1; omega) hpl (fun t q => by cases q)
      rw [e3, bnd]
      simp only [app1, List.cons_append, List.nil_append, b191_16, b191_18, b191_60]
      exact ⟨h3, rfl, E3⟩
    · rw [if_pos (by rw [bI_z]; exact h2), if_neg (fun z => h2 z.2)]
      exact ⟨h, by simp only [b191_16, b191_18, b191_60], eqx.rf⟩
  · rw [if_pos (by rw [bI_z]; exact h1), if_neg (fun z => h1 z.1)]
    exact ⟨h, by simp only [b191_16, b191_18, b191_60], eqx.rf⟩
