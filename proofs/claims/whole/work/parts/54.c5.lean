/-! ===== the class: what is kept of the laws; price, toll ===== -/
def wayN (G : LG) (r t b : Nat) : Nat := (if gOth G r = t then 2 else 0) + b / 2 ^ t % 2
def keyN (G : LG) (p r t b pap : Nat) : Nat := (((p * 4 + nbr G r) * 4 + wayN G r t b) * 7 + pcnt b 12) * 10 + pap
def prI (G : LG) (p pap b f t : Nat) : Int32 := if letsB G p pap b f t = true then nI (tollN G p pap b f t) else -1
def kpI (G : LG) (p pap b f t : Nat) : Int32 := if letsB G p pap b f t = true then nI (2 + tollN G p pap b f t) else nI 1
def cK (h : sm_H) (G : LG) : Prop := ∀ p r f t b pap, p < gP G → r < gR G → gBri G r = true → toF G r f = some t → b < 64 → pap ≤ 9 → sm_gi h 50 (keyN G p r t b pap) = nI 0 ∨ sm_gi h 50 (keyN G p r t b pap) = kpI G p pap b f t
theorem pcnt6 : ∀ b, b < 64 → pcnt b 12 ≤ 6 := by decide +kernel
theorem wayN_lt {G : LG} {r t b : Nat} : wayN G r t b < 4 := by unfold wayN; split <;> omega
theorem nbr_lt {G : LG} (hx : wfX G) {r : Nat} (hr : r < gR G) (hb : gBri G r = true) : nbr G r < 4 := by
  have := cntB_lt (gBri G) hr hb
  have h4 := hx.1
  rw [nbr_cnt] at h4 ⊢
  omega
theorem key_lt {G : LG} (hw : wfG G) (hx : wfX G) {p r t b pap : Nat} (hp : p < gP G) (hr : r < gR G) (hbr : gBri G r = true) (hb : b < 64) (hpap : pap ≤ 9) : keyN G p r t b pap < 6720 := by
  have h1 := nbr_lt hx hr hbr
  have h2 := wayN_lt (G := G) (r := r) (t := t) (b := b)
  have h3 := pcnt6 b hb
  have h4 := hw.2.2.1
  unfold keyN
  omega
theorem toF_ends {G : LG} {r f t : Nat} (hne : gOne G r ≠ gOth G r) (h : toF G r f = some t) : (gOne G r = f ∧ gOth G r = t) ∨ (gOth G r = f ∧ gOne G r = t) := by
  unfold toF at h
  by_cases q : gOne G r = f
  · rw [if_pos q] at h; cases h; exact Or.inl ⟨q, rfl⟩
  · rw [if_neg q] at h
    by_cases q2 : gOth G r = f
    · rw [if_pos q2] at h; cases h; exact Or.inr ⟨q2, rfl⟩
    · rw [if_neg q2] at h; cases h
theorem key_inj {G : LG} (hw : wfG G) (hx : wfX G) {p r t b pap f p' r' t' b' pap' f' : Nat} (hr : r < gR G) (hbr : gBri G r = true) (ht : toF G r f = some t) (hb : b < 64) (hpap : pap ≤ 9) (hr' : r' < gR G) (hbr' : gBri G r' = true) (ht' : toF G r' f' = some t') (hb' : b' < 64) (hpap' : pap' ≤ 9)
    (e : keyN G p r t b pap = keyN G p' r' t' b' pap') : p = p' ∧ pap = pap' ∧ f = f' ∧ t = t' ∧ b / 2 ^ t % 2 = b' / 2 ^ t' % 2 ∧ pcnt b 12 = pcnt b' 12 := by
  have h1 := nbr_lt hx hr hbr
  have h1' := nbr_lt hx hr' hbr'
  have h3 := pcnt6 b hb
  have h3' := pcnt6 b' hb'
  have h2 := wayN_lt (G := G) (r := r) (t := t) (b := b)
  have h2' := wayN_lt (G := G) (r := r') (t := t') (b := b')
  unfold keyN at e
  have ep : p = p' ∧ nbr G r = nbr G r' ∧ wayN G r t b = wayN G r' t' b' ∧ pcnt b 12 = pcnt b' 12 ∧ pap = pap' := by omega
  obtain ⟨e1, e2, e3, e4, e5⟩ := ep
  rw [nbr_cnt, nbr_cnt] at e2
  have er := cntB_inj _ hbr hbr' e2
  subst er
  have hne := (hw.2.2.2.1 r hr).2.2.1
  unfold wayN at e3
  have : t = t' ∧ f = f' := by
    rcases toF_ends hne ht with ⟨a1, a2⟩ | ⟨a1, a2⟩ <;> rcases toF_ends hne ht' with ⟨b1, b2⟩ | ⟨b1, b2⟩
    · exact ⟨a2.symm.trans b2, a1.symm.trans b1⟩
    · rw [if_pos a2, if_neg (fun z => hne (b2.trans z.symm))] at e3; omega
    · rw [if_neg (fun z => hne (a2.trans z.symm)), if_pos b2] at e3; omega
    · exact ⟨a2.symm.trans b2, a1.symm.trans b1⟩
  obtain ⟨et, ef⟩ := this
  subst et
  exact ⟨e1, e5, ef, rfl, by omega, e4⟩
theorem wds_eq {p born pap b b' f t : Nat} (e1 : b / 2 ^ t % 2 = b' / 2 ^ t % 2) (e2 : pcnt b 12 = pcnt b' 12) : wds p born pap b f t = wds p born pap b' f t := by
  funext j
  rcases j with _ | _ | _ | _ | _ | _ | j
  · rfl
  · rfl
  · exact congrArg nI e1
  · exact congrArg nI e2
  · rfl
  · rfl
  · rfl
theorem kpI_eq {G : LG} {p pap b b' f t : Nat} (e1 : b / 2 ^ t % 2 = b' / 2 ^ t % 2) (e2 : pcnt b 12 = pcnt b' 12) : kpI G p pap b f t = kpI G p pap b' f t := by
  unfold kpI letsB tollN tollI
  rw [wds_eq (p := p) (born := gBor G p) (pap := pap) (f := f) e1 e2, e1]
def sxP : Nat → Nat → Prop := fun c _ => c = 14 ∨ c = 17 ∨ c = 49 ∨ c = 50
theorem cLaw_eqx {S : Nat → Nat → Prop} {h h2 : sm_H} {q : Nat} {l : Option (List Nat)} (hl : cLaw h q l) (E : eqx S h h2) (hS : ∀ c i, S c i → c ≠ q ∧ c ≠ q + 1) : cLaw h2 q l := by
  cases l with
  | none => exact (E.1 q 2 (fun z => (hS _ _ z).1 rfl)).trans hl
  | some cs => exact ⟨(E.1 q 2 (fun z => (hS _ _ z).1 rfl)).trans hl.1, hl.2.1, hl.2.2.1, fun k hk => (E.1 (q + 1) k (fun z => (hS _ _ z).2 rfl)).trans (hl.2.2.2 k hk)⟩
theorem cG_eqx {S : Nat → Nat → Prop} {h h2 : sm_H} {o : Nat} {G : LG} (hG : cG h o G) (E : eqx S h h2) (hS : ∀ c i, S c i → c < o ∨ o + 15 ≤ c ∨ c = o + 12) : cG h2 o G := by
  have e : ∀ c i, o ≤ c → c < o + 15 → c ≠ o + 12 → sm_gi h2 c i = sm_gi h c i := fun c i a1 a2 a3 => E.1 c i (fun z => by have := hS c i z; omega)
  refine ⟨?_, fun r hr => ?_, fun p hp => ?_, cLaw_eqx hG.2.2.2.1 E (fun c i z => by have := hS c i z; omega), cLaw_eqx hG.2.2.2.2 E (fun c i z => by have := hS c i z; omega)⟩
  · rw [e o 0 (by omega) (by omega) (by omega), e o 2 (by omega) (by omega) (by omega), e o 3 (by omega) (by omega) (by omega), e o 4 (by omega) (by omega) (by omega)]; exact hG.1
  · rw [e (o + 1) _ (by omega) (by omega) (by omega), e (o + 2) _ (by omega) (by omega) (by omega), e (o + 3) _ (by omega) (by omega) (by omega), e (o + 4) _ (by omega) (by omega) (by omega)]; exact hG.2.1 r hr
  · rw [e (o + 6) _ (by omega) (by omega) (by omega), e (o + 8) _ (by omega) (by omega) (by omega), e (o + 9) _ (by omega) (by omega) (by omega)]; exact hG.2.2.1 p hp
theorem cK_eqx {S : Nat → Nat → Prop} {h h2 : sm_H} {G : LG} (hK : cK h G) (E : eqx S h h2) (hS : ∀ i, ¬ S 50 i) : cK h2 G := fun p r f t b pap a1 a2 a3 a4 a5 a6 => by
  rw [E.1 50 _ (hS _)]; exact hK p r f t b pap a1 a2 a3 a4 a5 a6
theorem c_tollV {p pap b f t : Nat} {G : LG} {h : sm_H} (hG : cG h 2 G) (hw : wfG G) (hn : ∀ j, j < 7 → sm_gi h 49 j = wds p (gBor G p) pap b f t j) :
    ∃ v h2, xc 42 [.ref 15, .ref 49] h = some ([.int v], h2) ∧ (if nI 0 < v then v else nI 0) = tollI G p pap b f t ∧ eqx (sxV 15) h h2 := by
  have hl := hG.2.2.2.2
  unfold tollI
  cases hlt : gTol G with
  | none =>
    rw [hlt] at hl
    exact ⟨_, _, c_value0 isQ15 hl, rfl, eqx.rf⟩
  | some cs =>
    rw [hlt] at hl
    obtain ⟨h2, e, E⟩ := c_value isQ15 hl (hw.2.2.2.2.2.2.1 cs hlt) (hw.2.2.2.2.2.2.2.2 cs hlt) hn
    refine ⟨_, h2, e, ?_, E⟩
    dsimp only
    by_cases q : nI 0 < lawV cs (wds p (gBor G p) pap b f t)
    · have q2 : (0 : Int32) ≤ lawV cs (wds p (gBor G p) pap b f t) := Int32.le_of_lt q
      rw [if_pos q, if_pos q2]
    · rw [if_neg q]
      by_cases q2 : 0 ≤ lawV cs (wds p (gBor G p) pap b f t)
      · rw [if_pos q2]; exact (Int32.le_antisymm (Int32.not_lt.mp q) q2).symm
      · rw [if_neg q2]
theorem sxP_49 : ∀ c i, sx49 c i → sxP c i := fun c i h => by unfold sx49 at h; unfold sxP; omega
theorem sxP_12 : ∀ c i, sxV 12 c i → sxP c i := fun c i h => by unfold sxV at h; unfold sxP; omega
theorem sxP_15 : ∀ c i, sxV 15 c i → sxP c i := fun c i h => by unfold sxV at h; unfold sxP; omega
/-- how many papers it takes, in the class -/
theorem c_toll {p r f t b pap : Nat} {G : LG} {h : sm_H} (hG : cG h 2 G) (hw : wfG G) (hp : p < gP G) (hr : r < gR G) (ht : toF G r f = some t) (hb : b < 4096) :
    ∃ h2, xc 45 [.ref 48, .int (nI p), .int (nI r), .int (nI t), .int (nI b), .int (nI pap)] h = some ([.int (tollI G p pap b f t)], h2) ∧ (∀ i, sm_gi h2 50 i = sm_gi h 50 i) ∧ eqx sxP h h2 := by
  obtain ⟨h1, e1, n1, E1⟩ := c_tell (pap := pap) hG hw hp hr ht hb
  have G1 := cG_eqx hG E1 (fun c i z => by unfold sx49 at z; omega)
  obtain ⟨v, h2, e2, v2, E2⟩ := c_tollV G1 hw n1
  rw [en_45, b45_0, e1]
  simp only [bnd, List.nil_append, b45_11, e2, app1, b45_26, c_max, b45_29]
  rw [v2]
  exact ⟨h2, rfl, fun i => (E2.1 50 i (by unfold sxV; omega)).trans (E1.1 50 i (by unfold sx49; omega)), (E1.wk sxP_49).tr (E2.wk sxP_15)⟩
/-- the price of a bridge, in the class -/
theorem c_price {p r f t b pap : Nat} {G : LG} {h : sm_H} (hG : cG h 2 G) (hw : wfG G) (hx : wfX G) (hK : cK h G) (hp : p < gP G) (hr : r < gR G) (hbr : gBri G r = true) (ht : toF G r f = some t) (hb : b < 64) (hpap : pap ≤ 9) :
    ∃ h2, xc 44 [.ref 48, .int (nI p), .int (nI r), .int (nI t), .int (nI b), .int (nI pap)] h = some ([.int (prI G p pap b f t)], h2) ∧ cK h2 G ∧ eqx sxP h h2 := by
  have hR := hw.2.1
  have hP := hw.2.2.1
  have hv := hw.2.2.2.1 r hr
  have htl := toF_lt hw hr ht
  have hN := hw.1.2
  have hkl := key_lt hw hx hp hr hbr hb hpap (t := t)
  have hnb := nbr_lt hx hr hbr
  have hpc := pcnt6 b hb
  have hwy := wayN_lt (G := G) (r := r) (t := t) (b := b)
  have hfl : f < 2 ^ 30 := by rcases toF_ends hv.2.2.1 ht with q | q <;> omega
  have htol := tollN_le (b := b) hw hp (show pap ≤ 999 by omega) (show f ≤ 999 by rcases toF_ends hv.2.2.1 ht with q | q <;> omega) (show t ≤ 999 by omega)
  have i4 : sm_in 4 (nI r) ↔ True := in_ln (by omega) (by rw [ln_4]; omega)
  have i50 : sm_in 50 (nI (keyN G p r t b pap)) ↔ True := in_ln (by omega) (by rw [ln_50]; omega)
  have g4 : sm_gi h 4 r = nI (gOth G r) := (hG.2.1 r hr).2.1
  have i49 : sm_in 49 (nI 2) ↔ True := in_49 (by decide)
  have fin : ∀ (h2 : sm_H) (l9 : Value), sm_gi h2 50 (keyN G p r t b pap) = kpI G p pap b f t → xe 3 44 193 [.ref 48, .int (nI p), .int (nI r), .int (nI t), .int (nI b), .int (nI pap), .int (nI (wayN G r t b)), .int (nI ((p * 4 + nbr G r) * 4 + wayN G r t b)), .int (nI (keyN G p r t b pap)), l9] [] h2 = some ([.int (prI G p pap b f t)], h2) := by
    intro h2 l9 hk
    simp (disch := omega) only [b44_193, b44_204, b44_208, b44_217, i50, if_true, nI_clamp, hk]
    unfold kpI prI
    by_cases q : letsB G p pap b f t = true
    · rw [if_pos q, if_pos q, if_neg (by rw [nI_eq (by omega) (by decide)]; omega), pk_sub (by omega)]
      rw [show 2 + tollN G p pap b f t - 2 = tollN G p pap b f t by omega]
    · rw [if_neg q, if_neg q, if_pos rfl]
  rw [en_44]
  have head : xe 3 44 0 [.ref 48, .int (nI p), .int (nI r), .int (nI t), .int (nI b), .int (nI pap), .null, .null, .null, .null] [] h = xe 3 44 80 [.ref 48, .int (nI p), .int (nI r), .int (nI t), .int (nI b), .int (nI pap), .int (nI (wayN G r t b)), .int (nI ((p * 4 + nbr G r) * 4 + wayN G r t b)), .int (nI (keyN G p r t b pap)), .null] [] h := by
    have key : ∀ s0 : Nat, s0 = (if gOth G r = t then 2 else 0) → xe 3 44 18 [.ref 48, .int (nI p), .int (nI r), .int (nI t), .int (nI b), .int (nI pap), .null, .null, .null, .null] [.int (nI s0)] h = xe 3 44 80 [.ref 48, .int (nI p), .int (nI r), .int (nI t), .int (nI b), .int (nI pap), .int (nI (wayN G r t b)), .int (nI ((p * 4 + nbr G r) * 4 + wayN G r t b)), .int (nI (keyN G p r t b pap)), .null] [] h := by
      intro s0 hs
      simp (disch := omega) only [b44_18, c_bridgesBefore isD2 hG hw (Nat.le_of_lt hr), bnd, app1, List.cons_append, List.nil_append, b44_38, c_bitCount (show b < 4096 by omega), b44_56, shr1, nI_add, pk_mul]
      rw [show s0 + b / 2 ^ t % 2 = wayN G r t b from by unfold wayN; rw [hs]]
      rw [show (((p * 4 + nbr G r) * 4 + wayN G r t b) * 7 + pcnt b 12) * 10 + pap = keyN G p r t b pap from rfl]
      rw [if_neg (by rw [nI_neg (by omega)]; exact id), b44_70, if_pos (by rw [nI_ltI (by omega) (by decide)]; exact hkl)]
    simp (disch := omega) only [b44_0, b44_13, b44_17, i4, if_true, nI_clamp, g4, nI_eq]
    by_cases q : gOth G r = t
    · rw [if_pos q]; exact key 2 (by rw [if_pos q])
    · rw [if_neg q]; exact key 0 (by rw [if_neg q])
  rw [head]
  simp (disch := omega) only [b44_80, i50, if_true, nI_clamp]
  rcases hK p r f t b pap hp hr hbr ht hb hpap with hk | hk
  · rw [hk, if_pos (by decide +kernel), b44_90]
    obtain ⟨h1, e1, n1, E1⟩ := c_tell (pap := pap) hG hw hp hr ht (show b < 4096 by omega)
    have G1 := cG_eqx hG E1 (fun c i z => by unfold sx49 at z; omega)
    rw [e1]
    simp only [bnd, List.nil_append]
    -- the law of who is let over
    have lets : ∃ h2, xe 3 44 101 [.ref 48, .int (nI p), .int (nI r), .int (nI t), .int (nI b), .int (nI pap), .int (nI (wayN G r t b)), .int (nI ((p * 4 + nbr G r) * 4 + wayN G r t b)), .int (nI (keyN G p r t b pap)), .null] [] h1 = xe 3 44 155 [.ref 48, .int (nI p), .int (nI r), .int (nI t), .int (nI b), .int (nI pap), .int (nI (wayN G r t b)), .int (nI ((p * 4 + nbr G r) * 4 + wayN G r t b)), .int (nI (keyN G p r t b pap)), .null] [.int (bI (letsB G p pap b f t = true))] h2 ∧ eqx (sxV 12) h1 h2 := by
      have hl := G1.2.2.2.1
      rw [b44_101]
      unfold letsB
      cases hlt : gLet G with
      | none =>
        rw [hlt] at hl
        rw [show sm_gi h1 12 2 = nI 0 from hl, if_pos (by decide +kernel)]
        simp (disch := omega) only [b44_114, i49, if_true, nI_clamp, (show sm_gi h1 49 2 = nI (b / 2 ^ t % 2) from n1 2 (by decide)), b44_124, b44_128]
        refine ⟨h1, ?_, eqx.rf⟩
        unfold bI
        by_cases q : b / 2 ^ t % 2 = 1
        · rw [if_pos (by rw [q]), if_pos (decide_eq_true q)]
        · rw [if_neg (by rw [nI_eq (by omega) (by decide)]; exact q), if_neg (fun z => q (of_decide_eq_true z))]
      | some cs =>
        rw [hlt] at hl
        have hne : 0 < cs.length := List.length_pos_iff.mpr hl.2.1
        obtain ⟨h2, e2, E2⟩ := c_value isQ12 hl (hw.2.2.2.2.2.1 cs hlt) (hw.2.2.2.2.2.2.2.1 cs hlt) n1
        rw [show sm_gi h1 12 2 = nI cs.length from hl.1, if_neg (by rw [nI_z (by have := hl.2.2.1; omega)]; omega)]
        simp only [b44_132, e2, bnd, app1, b44_146, b44_150, b44_154]
        refine ⟨h2, ?_, E2⟩
        unfold bI
        by_cases q : lawV cs (wds p (gBor G p) pap b f t) = nI 1
        · rw [if_pos q, if_pos (decide_eq_true q)]
        · rw [if_neg q, if_neg (fun z => q (of_decide_eq_true z))]
    obtain ⟨h2, e2, E2⟩ := lets
    have G2 := cG_eqx G1 E2 (fun c i z => by unfold sxV at z; omega)
    have n2 : ∀ j, j < 7 → sm_gi h2 49 j = wds p (gBor G p) pap b f t j := fun j hj => (E2.1 49 j (by unfold sxV; omega)).trans (n1 j hj)
    rw [e2, b44_155]
    have E12 : eqx sxP h h2 := (E1.wk sxP_49).tr (E2.wk sxP_12)
    have k2 : ∀ i, sm_gi h2 50 i = sm_gi h 50 i := fun i => (E2.1 50 i (by unfold sxV; omega)).trans (E1.1 50 i (by unfold sx49; omega))
    -- what is kept then
    have kept : ∀ h3 : sm_H, (∀ i, sm_gi h3 50 i = sm_gi h 50 i) → cK (sm_si h3 50 (keyN G p r t b pap) (kpI G p pap b f t)) G := by
      intro h3 k3 p' r' f' t' b' pap' a1 a2 a3 a4 a5 a6
      by_cases q : keyN G p' r' t' b' pap' = keyN G p r t b pap
      · obtain ⟨z1, z2, z3, z4, z5, z6⟩ := key_inj hw hx a2 a3 a4 a5 a6 hr hbr ht hb hpap q
        rw [q, gi_same]
        rw [z1, z2, z3, z4]
        rw [z4] at z5
        exact Or.inr (kpI_eq z5.symm z6.symm)
      · rw [gi_slot q, k3]; exact hK p' r' f' t' b' pap' a1 a2 a3 a4 a5 a6
    by_cases q : letsB G p pap b f t = true
    · rw [if_neg (by rw [bI_z]; exact fun z => z q), b44_168]
      obtain ⟨v, h3, e3, v3, E3⟩ := c_tollV G2 hw n2
      rw [e3]
      simp only [bnd, app1, List.cons_append, List.nil_append, b44_184, c_max, v3, b44_187]
      simp (disch := omega) only [b44_192, i50, if_true, nI_clamp]
      have k3 : ∀ i, sm_gi h3 50 i = sm_gi h 50 i := fun i => (E3.1 50 i (by unfold sxV; omega)).trans (k2 i)
      have ek : nI 2 + tollI G p pap b f t = kpI G p pap b f t := by
        unfold kpI; rw [if_pos q, tollI_N.1, nI_add]
      rw [ek, fin _ _ gi_same]
      exact ⟨_, rfl, kept h3 k3, (E12.tr (E3.wk sxP_15)).si (by unfold sxP; omega)⟩
    · rw [if_pos (by rw [bI_z]; exact q), b44_191]
      simp (disch := omega) only [b44_192, i50, if_true, nI_clamp]
      have ek : nI 1 = kpI G p pap b f t := by unfold kpI; rw [if_neg q]
      rw [ek, fin _ _ gi_same]
      exact ⟨_, rfl, kept h2 k2, E12.si (by unfold sxP; omega)⟩
  · rw [if_neg, fin h _ hk]
    · exact ⟨h, rfl, hK, eqx.rf⟩
    · rw [hk]
      unfold kpI
      by_cases q : letsB G p pap b f t = true
      · rw [if_pos q, nI_z (by omega)]; omega
      · rw [if_neg q]; decide +kernel
