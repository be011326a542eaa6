/-! ===== the model: deeds in its row ===== -/
def upN (f : Nat → Nat) (k v : Nat) : Nat → Nat := fun j => if j = k then v else f j
def sSh (W : WG) (v : Nat) : WG := ((v, W.1.2), W.2)
def sRd (W : WG) (v : Nat) : WG := ((W.1.1, v), W.2)
def sAt (W : WG) (p v : Nat) : WG := (W.1, upN W.2.1 p v, W.2.2)
def sDay (W : WG) (p v : Nat) : WG := (W.1, W.2.1, upN W.2.2.1 p v, W.2.2.2)
def sPap (W : WG) (p v : Nat) : WG := (W.1, W.2.1, W.2.2.1, upN W.2.2.2.1 p v, W.2.2.2.2)
def sBeen (W : WG) (p v : Nat) : WG := (W.1, W.2.1, W.2.2.1, W.2.2.2.1, upN W.2.2.2.2 p v)
section MWU
variable {f f' : Nat → Int32} {o P p v : Nat} {W : WG}
theorem upN_s {g : Nat → Nat} : upN g p v p = v := if_pos rfl
theorem upN_n {g : Nat → Nat} {q : Nat} (h : q ≠ p) : upN g p v q = g q := if_neg h
theorem mW.sh (H : mW f o P W) (e : f' o = nI v) (ne : ∀ i, i ≠ o → f' i = f i) : mW f' o P (sSh W v) :=
  ⟨e, by rw [ne _ (by omega)]; exact H.2.1, fun q hq => ⟨by rw [ne _ (by omega)]; exact (H.2.2.1 q hq).1, by rw [ne _ (by omega)]; exact (H.2.2.1 q hq).2.1, by rw [ne _ (by omega)]; exact (H.2.2.1 q hq).2.2⟩, fun q hq => by rw [ne _ (by omega)]; exact H.2.2.2 q hq⟩
theorem mW.rd (H : mW f o P W) (e : f' (o + 1) = nI v) (ne : ∀ i, i ≠ o + 1 → f' i = f i) : mW f' o P (sRd W v) :=
  ⟨by rw [ne _ (by omega)]; exact H.1, e, fun q hq => ⟨by rw [ne _ (by omega)]; exact (H.2.2.1 q hq).1, by rw [ne _ (by omega)]; exact (H.2.2.1 q hq).2.1, by rw [ne _ (by omega)]; exact (H.2.2.1 q hq).2.2⟩, fun q hq => by rw [ne _ (by omega)]; exact H.2.2.2 q hq⟩
theorem mW.at (H : mW f o P W) (hP : P ≤ 6) (hp : p < 6) (e : f' (o + 2 + p) = nI v) (ne : ∀ i, i ≠ o + 2 + p → f' i = f i) : mW f' o P (sAt W p v) :=
  ⟨by rw [ne _ (by omega)]; exact H.1, by rw [ne _ (by omega)]; exact H.2.1, fun q hq => ⟨by
    by_cases z : q = p
    · subst z; rw [e]; exact congrArg nI upN_s.symm
    · rw [ne _ (by omega), (H.2.2.1 q hq).1]; exact congrArg nI (upN_n z).symm, by rw [ne _ (by omega)]; exact (H.2.2.1 q hq).2.1, by rw [ne _ (by omega)]; exact (H.2.2.1 q hq).2.2⟩, fun q hq => by rw [ne _ (by omega)]; exact H.2.2.2 q hq⟩
theorem mW.day (H : mW f o P W) (hP : P ≤ 6) (hp : p < 6) (e : f' (o + 8 + p) = nI v) (ne : ∀ i, i ≠ o + 8 + p → f' i = f i) : mW f' o P (sDay W p v) :=
  ⟨by rw [ne _ (by omega)]; exact H.1, by rw [ne _ (by omega)]; exact H.2.1, fun q hq => ⟨by rw [ne _ (by omega)]; exact (H.2.2.1 q hq).1, by
    by_cases z : q = p
    · subst z; rw [e]; exact congrArg nI upN_s.symm
    · rw [ne _ (by omega), (H.2.2.1 q hq).2.1]; exact congrArg nI (upN_n z).symm, by rw [ne _ (by omega)]; exact (H.2.2.1 q hq).2.2⟩, fun q hq => by rw [ne _ (by omega)]; exact H.2.2.2 q hq⟩
theorem mW.been (H : mW f o P W) (hP : P ≤ 6) (hp : p < 6) (e : f' (o + 20 + p) = nI v) (ne : ∀ i, i ≠ o + 20 + p → f' i = f i) : mW f' o P (sBeen W p v) :=
  ⟨by rw [ne _ (by omega)]; exact H.1, by rw [ne _ (by omega)]; exact H.2.1, fun q hq => ⟨by rw [ne _ (by omega)]; exact (H.2.2.1 q hq).1, by rw [ne _ (by omega)]; exact (H.2.2.1 q hq).2.1, by
    by_cases z : q = p
    · subst z; rw [e]; exact congrArg nI upN_s.symm
    · rw [ne _ (by omega), (H.2.2.1 q hq).2.2]; exact congrArg nI (upN_n z).symm⟩, fun q hq => by rw [ne _ (by omega)]; exact H.2.2.2 q hq⟩
theorem mW.pap (H : mW f o P W) (hP : P ≤ 6) (hp : p < 6) (e : f' (o + 14 + p) = nI v) (ne : ∀ i, i ≠ o + 14 + p → f' i = f i) : mW f' o P (sPap W p v) :=
  ⟨by rw [ne _ (by omega)]; exact H.1, by rw [ne _ (by omega)]; exact H.2.1, fun q hq => ⟨by rw [ne _ (by omega)]; exact (H.2.2.1 q hq).1, by rw [ne _ (by omega)]; exact (H.2.2.1 q hq).2.1, by rw [ne _ (by omega)]; exact (H.2.2.1 q hq).2.2⟩, fun q hq => by
    by_cases z : q = p
    · subst z; rw [e]; exact congrArg nI upN_s.symm
    · rw [ne _ (by omega), H.2.2.2 q hq]; exact congrArg nI (upN_n z).symm⟩
end MWU
theorem mLaw_eq {f f' : Nat → Int32} {L : Nat} {o : Option (List Nat)} (hL : L < 2) (e : ∀ i, (i < 88 ∨ 376 ≤ i ∧ i < 1276) → f' i = f i) (h : mLaw f L o) : mLaw f' L o := by
  cases o with
  | none => show f' (4 + L) = nI 0; rw [e _ (by omega)]; exact h
  | some cs =>
    obtain ⟨h1, F, h2, h3, h4, h5⟩ := h
    exact ⟨by rw [e _ (by omega)]; exact h1, F, by rw [e _ (by omega)]; exact h2, by rw [e _ (by omega)]; exact h3, h4, fun k hk => by rw [e _ (by omega)]; exact h5 k hk⟩
theorem mG_eq {f f' : Nat → Int32} {G : LG} (hw : wfG G) (e : ∀ i, (i < 88 ∨ 376 ≤ i ∧ i < 1276) → f' i = f i) (h : mG f G) : mG f' G := by
  have hR := hw.2.1
  have hP := hw.2.2.1
  obtain ⟨⟨a1, a2, a3⟩, a4, a5, a6, a7⟩ := h
  exact ⟨⟨by rw [e _ (by omega)]; exact a1, by rw [e _ (by omega)]; exact a2, by rw [e _ (by omega)]; exact a3⟩, fun r hr => ⟨by rw [e _ (by omega)]; exact (a4 r hr).1, by rw [e _ (by omega)]; exact (a4 r hr).2.1, by rw [e _ (by omega)]; exact (a4 r hr).2.2.1, by rw [e _ (by omega)]; exact (a4 r hr).2.2.2.1, by rw [e _ (by omega)]; exact (a4 r hr).2.2.2.2⟩, fun p hp => ⟨by rw [e _ (by omega)]; exact (a5 p hp).1, by rw [e _ (by omega)]; exact (a5 p hp).2.1, by rw [e _ (by omega)]; exact (a5 p hp).2.2⟩, mLaw_eq (by decide) e a6, mLaw_eq (by decide) e a7⟩
/-- what a deed may change -/
def sxD : Nat → Nat → Prop := fun c i => c = 174 ∨ c = 175 ∨ (c = 170 ∧ 88 ≤ i ∧ i < 114)
theorem sxL_D : ∀ c i, sxL c i → sxD c i := fun c i h => by unfold sxL at h; unfold sxD; omega
theorem mG_D {h h2 : sm_H} {G : LG} (hw : wfG G) (hG : mG (sm_gi h 170) G) (E : eqx sxD h h2) : mG (sm_gi h2 170) G := mG_eq hw (fun i hi => E.1 170 i (by unfold sxD; omega)) hG
theorem mW_L {h h2 : sm_H} {o P : Nat} {W : WG} (hW : mW (sm_gi h 170) o P W) (E : eqx sxL h h2) : mW (sm_gi h2 170) o P W := by
  rw [show sm_gi h2 170 = sm_gi h 170 from funext fun i => E.1 170 i (by unfold sxL; omega)]
  exact hW
theorem m_takesNow {B p r t : Nat} {G : LG} {W : WG} {h : sm_H} (hG : mG (sm_gi h 170) G) (hw : wfG G) (hW : mW (sm_gi h 170) 88 (gP G) W) (hww : wfW G B W) (hpl : sm_gi h 169 15 = -1) (hp : p < gP G) (hr : r < gR G) (ht : toF G r (wAt W p) = some t) :
    ∃ h2, xc 192 [.ref 169, .int (nI p), .int (nI r)] h = some ([.int (nI (if gBri G r = true then tollN G p (wPap W p) (wBeen W p) (wAt W p) t else 0))], h2) ∧ eqx sxL h h2 := by
  have hR := hw.2.1
  have hP := hw.2.2.1
  have hN := hw.1.2
  have hpw := pow6 hN
  have hwp := hww.2.2.1 p hp
  have hm := hW.2.2.1 p hp
  have hm2 := hW.2.2.2 p (by omega)
  have htN := toF_lt hw hr ht
  rw [en_192, b192_0]
  simp (disch := omega) only [nI_add, in_170, if_true, nI_clamp]
  rw [m_isBridge' (pl := none) hG hw hr hpl (fun t q => by cases q), bnd]
  simp only [app1, List.cons_append, List.nil_append]
  rw [show 90 + p = 88 + 2 + p by omega, hm.1]
  by_cases hb : gBri G r = true
  · rw [if_pos hb]
    simp (disch := omega) only [b192_15, b192_18, b192_45, b192_48, b192_51, b192_52, bI_z]
    rw [if_neg (fun z => z ⟨hb, by simp⟩)]
    simp (disch := omega) only [nI_add, in_170, if_true, nI_clamp]
    rw [show 102 + p = 88 + 14 + p by omega, hm2, show 108 + p = 88 + 20 + p by omega, hm.2.2, m_leads' hG hw hr (by omega), ht, bnd]
    simp only [b192_15, b192_18, b192_45, b192_48, b192_51, b192_52, app1, List.cons_append, List.nil_append, show toI (some t) = nI t from rfl]
    obtain ⟨h3, e3, E3⟩ := m_takesOver (pap := wPap W p) (b := wBeen W p) (f := wAt W p) (t := t) hG hw hp (by omega) (by omega)
    rw [e3, bnd]
    simp only [b192_15, b192_18, b192_45, b192_48, b192_51, b192_52, app1, List.cons_append, List.nil_append]
    exact ⟨h3, by rw [tollI_N.1], E3⟩
  · rw [if_neg hb]
    simp (disch := omega) only [b192_15, b192_18, b192_45, b192_48, b192_51, b192_52, bI_z]
    rw [if_pos (fun z => hb z.1)]
    exact ⟨h, rfl, eqx.rf⟩
