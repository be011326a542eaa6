/-! ===== the land and the world as numbers; why a road can't be gone; the model's part ===== -/
/-- the land: places, roads, people; ends, days, bridges, floods of roads; birth places, goals, days of errands; the laws -/
abbrev LG : Type := (Nat × Nat × Nat) × ((Nat → Nat) × (Nat → Nat) × (Nat → Nat) × (Nat → Bool) × (Nat → Nat)) × ((Nat → Nat) × (Nat → Option Nat) × (Nat → Int32)) × (Option (List Nat) × Option (List Nat))
def gN (G : LG) : Nat := G.1.1
def gR (G : LG) : Nat := G.1.2.1
def gP (G : LG) : Nat := G.1.2.2
def gOne (G : LG) : Nat → Nat := G.2.1.1
def gOth (G : LG) : Nat → Nat := G.2.1.2.1
def gLon (G : LG) : Nat → Nat := G.2.1.2.2.1
def gBri (G : LG) : Nat → Bool := G.2.1.2.2.2.1
def gFlo (G : LG) : Nat → Nat := G.2.1.2.2.2.2
def gBor (G : LG) : Nat → Nat := G.2.2.1.1
def gGol (G : LG) : Nat → Option Nat := G.2.2.1.2.1
def gBy (G : LG) : Nat → Int32 := G.2.2.1.2.2
def gLet (G : LG) : Option (List Nat) := G.2.2.2.1
def gTol (G : LG) : Option (List Nat) := G.2.2.2.2
/-- a land as texts can tell it -/
def wfG (G : LG) : Prop := (2 ≤ gN G ∧ gN G ≤ 6) ∧ gR G ≤ 12 ∧ gP G ≤ 6 ∧ (∀ r, r < gR G → gOne G r < gN G ∧ gOth G r < gN G ∧ gOne G r ≠ gOth G r ∧ 1 ≤ gLon G r ∧ gLon G r ≤ 20 ∧ gFlo G r ≤ 10) ∧ (∀ p, p < gP G → gBor G p < gN G ∧ ∀ g, gGol G p = some g → g < gN G) ∧ (∀ cs, gLet G = some cs → dps cs 0 = some 1) ∧ (∀ cs, gTol G = some cs → dps cs 0 = some 1) ∧ (∀ cs, gLet G = some cs → tys cs [] = some [true]) ∧ ∀ cs, gTol G = some cs → tys cs [] = some [false]
/-- what the names of a law stand for -/
def wds (p : Nat) (born pap : Nat) (b f t : Nat) : Nat → Int32
  | 0 => nI p
  | 1 => nI born
  | 2 => nI (b / 2 ^ t % 2)
  | 3 => nI (pcnt b 12)
  | 4 => nI pap
  | 5 => nI f
  | _ => nI t
def lawV (cs : List Nat) (w : Nat → Int32) : Int32 := (evs w cs []).headD 0
def letsB (G : LG) (p pap b f t : Nat) : Bool := match gLet G with
  | none => decide (b / 2 ^ t % 2 = 1)
  | some cs => decide (lawV cs (wds p (gBor G p) pap b f t) = nI 1)
def tollI (G : LG) (p pap b f t : Nat) : Int32 := match gTol G with
  | none => nI 0
  | some cs => if 0 ≤ lawV cs (wds p (gBor G p) pap b f t) then lawV cs (wds p (gBor G p) pap b f t) else nI 0
def tollN (G : LG) (p pap b f t : Nat) : Nat := (tollI G p pap b f t).toNatClampNeg
/-- the other end of a road from a place -/
def toF (G : LG) (r f : Nat) : Option Nat := if gOne G r = f then some (gOth G r) else if gOth G r = f then some (gOne G r) else none
/-- why a road can't be gone: sh the roads that are shut, pl the bridge that is waived -/
def whyF (G : LG) (sh : Nat) (pl : Option Nat) (p r pap b f : Nat) : Nat := match toF G r f with
  | none => 2
  | some t => if sh / 2 ^ r % 2 = 1 then 3 else if ¬ (gBri G r = true ∧ pl ≠ some r) then 0 else if letsB G p pap b f t = false then 4 else if pap < tollN G p pap b f t then 5 else 0
def toI : Option Nat → Int32
  | none => -1
  | some t => nI t
/-- the land in the model's row, from place o on (0; images at 1276, 2552) -/
def mLaw (f : Nat → Int32) (L : Nat) : Option (List Nat) → Prop
  | none => f (4 + L) = nI 0
  | some cs => f (4 + L) = nI 1 ∧ ∃ F, f (6 + L) = nI F ∧ f (8 + L) = nI cs.length ∧ F + cs.length ≤ 900 ∧ ∀ k, k < cs.length → f (376 + F + k) = nI (cs.getD k 0)
def mG (f : Nat → Int32) (G : LG) : Prop := (f 1 = nI (gN G) ∧ f 2 = nI (gR G) ∧ f 3 = nI (gP G)) ∧ (∀ r, r < gR G → f (10 + r) = nI (gOne G r) ∧ f (22 + r) = nI (gOth G r) ∧ f (34 + r) = nI (gLon G r) ∧ f (46 + r) = nI (if gBri G r then 1 else 0) ∧ f (58 + r) = nI (gFlo G r)) ∧ (∀ p, p < gP G → f (70 + p) = nI (gBor G p) ∧ f (76 + p) = toI (gGol G p) ∧ f (82 + p) = gBy G p) ∧ mLaw f 0 (gLet G) ∧ mLaw f 1 (gTol G)
theorem mG_eqx {S : Nat → Nat → Prop} {h h2 : sm_H} {G : LG} (hG : mG (sm_gi h 170) G) (E : eqx S h h2) (hS : ∀ i, ¬ S 170 i) : mG (sm_gi h2 170) G := by
  rw [show sm_gi h2 170 = sm_gi h 170 from funext fun i => E.1 170 i (hS i)]
  exact hG
theorem m_reckons {L p pap b f t : Nat} {cs : List Nat} {G : LG} {h : sm_H} (hL : L < 2) (hG : mG (sm_gi h 170) G) (hw : wfG G) (hp : p < gP G) (hb : b < 2 ^ 31) (ht : t < 31) (hlaw : mLaw (sm_gi h 170) L (some cs)) (hd : dps cs 0 = some 1) :
    ∃ h2, xc 187 [.ref 169, .int (nI L), .int (nI p), .int (nI pap), .int (nI b), .int (nI f), .int (nI t)] h = some ([.int (lawV cs (wds p (gBor G p) pap b f t))], h2) ∧ eqx sxL h h2 := by
  have hp6 : gP G ≤ 6 := hw.2.2.1
  have hborn := (hG.2.2.1 p hp).1
  obtain ⟨-, F, hF, hn, hFn, hc⟩ := hlaw
  rw [en_187]
  have hcc : ∀ (c i v : Nat), True := fun _ _ _ => trivial
  simp (disch := omega) only [b187_0, b187_7, b187_22, b187_35, b187_45, b187_46, b187_53, b187_61, b187_70, nI_add, in_175, in_170, if_true, nI_clamp, shr1, m_bitsOf, bnd, app1, List.cons_append, List.nil_append]
  have e1 : sm_gi (sm_si h 175 0 (nI p)) 170 (70 + p) = nI (gBor G p) := by rw [gi_cell (by decide)]; exact hborn
  rw [e1]
  generalize hh : sm_si (sm_si (sm_si (sm_si (sm_si (sm_si (sm_si h 175 0 (nI p)) 175 1 (nI (gBor G p))) 175 2 (nI (b / 2 ^ t % 2))) 175 3 (nI (pcnt b 12))) 175 4 (nI pap)) 175 5 (nI f)) 175 6 (nI t) = h1
  have E : eqx sxL h h1 := by
    rw [← hh]
    exact ((((((eqx.rf.si (Or.inr rfl)).si (Or.inr rfl)).si (Or.inr rfl)).si (Or.inr rfl)).si (Or.inr rfl)).si (Or.inr rfl)).si (Or.inr rfl)
  have hws : ∀ j, j < 7 → sm_gi h1 175 j = wds p (gBor G p) pap b f t j := by
    intro j hj
    rw [← hh]
    simp only [gi_si, if_true]
    rcases (by omega : j = 0 ∨ j = 1 ∨ j = 2 ∨ j = 3 ∨ j = 4 ∨ j = 5 ∨ j = 6) with rfl | rfl | rfl | rfl | rfl | rfl | rfl <;> rfl
  exact m_reckons_loop (p := p) (to := t) (w := wds p (gBor G p) pap b f t) hL hF hn hFn rfl hc cs 0 [] h1 .null (by simp) (fun j hj => by rw [Nat.zero_add]) hd (by simp) trivial hws E
theorem m_letsOver {p pap b f t : Nat} {G : LG} {h : sm_H} (hG : mG (sm_gi h 170) G) (hw : wfG G) (hp : p < gP G) (hb : b < 2 ^ 31) (ht : t < 31) :
    ∃ h2, xc 188 [.ref 169, .int (nI p), .int (nI pap), .int (nI b), .int (nI f), .int (nI t)] h = some ([.int (bI (letsB G p pap b f t = true))], h2) ∧ eqx sxL h h2 := by
  rw [en_188, b188_0]
  simp (disch := omega) only [in_170, if_true, nI_clamp]
  have hl := hG.2.2.2.1
  cases hlt : gLet G with
  | none =>
    rw [hlt] at hl
    rw [if_pos (by rw [hl]; decide +kernel)]
    refine ⟨h, ?_, eqx.rf⟩
    simp (disch := omega) only [b188_9, b188_16, b188_40, m_isIn, bnd, app1, List.cons_append, List.nil_append, bI_zo, if_true]
    rw [bI_congr (show (b / 2 ^ t % 2 = 1) ↔ letsB G p pap b f t = true by unfold letsB; rw [hlt]; simp)]
  | some cs =>
    rw [hlt] at hl
    rw [if_neg (by rw [hl.1]; decide +kernel), b188_19]
    obtain ⟨h2, e, E⟩ := m_reckons (pap := pap) (f := f) (L := 0) (by decide) hG hw hp hb ht hl (hw.2.2.2.2.2.1 cs hlt)
    rw [e]
    refine ⟨h2, ?_, E⟩
    simp (disch := omega) only [bnd, app1, b188_31, b188_35, b188_39, b188_40, List.cons_append, List.nil_append, or01_0, or01_1, if_true]
    unfold bI letsB
    rw [hlt]
    by_cases q : lawV cs (wds p (gBor G p) pap b f t) = nI 1
    · rw [if_pos q, if_pos (by simpa using q)]
    · rw [if_neg q, if_neg (by simpa using q)]
theorem m_takesOver {p pap b f t : Nat} {G : LG} {h : sm_H} (hG : mG (sm_gi h 170) G) (hw : wfG G) (hp : p < gP G) (hb : b < 2 ^ 31) (ht : t < 31) :
    ∃ h2, xc 189 [.ref 169, .int (nI p), .int (nI pap), .int (nI b), .int (nI f), .int (nI t)] h = some ([.int (tollI G p pap b f t)], h2) ∧ eqx sxL h h2 := by
  rw [en_189, b189_0]
  simp (disch := omega) only [in_170, if_true, nI_clamp]
  have hl := hG.2.2.2.2
  cases hlt : gTol G with
  | none =>
    rw [hlt] at hl
    rw [if_pos (by rw [hl]; decide +kernel), b189_9]
    refine ⟨h, ?_, eqx.rf⟩
    unfold tollI
    rw [hlt]
  | some cs =>
    rw [hlt] at hl
    rw [if_neg (by rw [hl.1]; decide +kernel), b189_11]
    obtain ⟨h2, e, E⟩ := m_reckons (pap := pap) (f := f) (L := 1) (by decide) hG hw hp hb ht hl (hw.2.2.2.2.2.2.1 cs hlt)
    rw [e]
    refine ⟨h2, ?_, E⟩
    simp (disch := omega) only [bnd, app1, b189_23, b189_30, b189_34, b189_36, List.cons_append, List.nil_append]
    unfold tollI
    rw [hlt]
    dsimp only
    by_cases q : 0 ≤ lawV cs (wds p (gBor G p) pap b f t)
    · rw [if_pos q, if_pos q]
    · rw [if_neg q, if_neg q]
