/-! ===== setsLet: the class ===== -/
section CSL
variable {G : LG} {W : WG} {L : List WG} {B : Nat} {h : sm_H} {g : Nat → Bool}
theorem sxP_W : ∀ c i, sxP c i → sxW c i := fun c i z => by unfold sxP at z; unfold sxW; omega
theorem c_setsLet_loop {p r s f t : Nat} (hp : p < gP G) (hr : r < gR G) (hbr : gBri G r = true) (ht : toF G r f = some t) (hl : ∀ b, ltA G W p r s b = letsB G p (wPap W p) b f t) : ∀ (m k : Nat) (h1 : sm_H) (l8 : Value), k + m = 2 ^ gN G → cS h1 G W L B → sm_gl h1 124 3 = lN (bsN g (2 ^ gN G)) → eqx sxP h h1 → ∃ h2, xe 4 3 33 [.ref 124, .int (nI p), .int (nI r), .int (nI s), .int (nI t), .long (lN (bsN (fun b => g b && ltA G W p r s b) k)), .null, .int (nI k), l8] [] h1 = some ([.long (lN (bsN (fun b => g b && ltA G W p r s b) (2 ^ gN G)))], h2) ∧ cS h2 G W L B ∧ sm_gl h2 124 3 = lN (bsN g (2 ^ gN G)) ∧ eqx sxP h h2
  | 0, k, h1, l8, e, S, hs, E => by
    have hN := S.1.1.1.2
    have : k = 2 ^ gN G := by omega
    subst this
    rw [b3_33, show sm_gi h1 2 0 = nI (gN G) from S.1.2.2.1.1.1, shl1 (by omega), if_pos (Int32.le_refl _), b3_114]
    exact ⟨h1, rfl, S, hs, E⟩
  | m + 1, k, h1, l8, e, S, hs, E => by
    have hN := S.1.1.1.2
    have hP := S.1.1.2.2.1
    have h64 := pow6 hN
    have hwp := S.2.2.1.2.2.1 p hp
    have ih := c_setsLet_loop hp hr hbr ht hl m (k + 1)
    rw [bsN_step] at ih
    rw [b3_33, show sm_gi h1 2 0 = nI (gN G) from S.1.2.2.1.1.1, shl1 (by omega), if_neg (by rw [nI_leI (by omega) (by omega)]; omega), b3_47, hs, bitL (by omega), bsN_bit g (2 ^ gN G) k (by omega)]
    cases hg : g k with
    | false =>
      rw [hg, Bool.false_and, if_neg (by decide)] at ih
      rw [if_neg (by decide), b3_65, b3_66, if_pos (by decide), b3_108, nI_add]
      exact ih h1 _ (by omega) S hs E
    | true =>
      rw [hg, Bool.true_and] at ih
      have g21 : sm_gi h1 21 p = nI (wPap W p) := S.2.1.2.2.2 p (by omega)
      obtain ⟨h2, e2, K2, E2⟩ := c_price (b := k) (pap := wPap W p) S.1.2.2.1 S.1.1 S.1.2.1 S.1.2.2.2 hp hr hbr ht (by omega) hwp.2.2.1
      have S2 : cS h2 G W L B := cS_W S ⟨S.1.1, S.1.2.1, cG_P S.1.2.2.1 E2, K2⟩ (E2.wk sxP_W)
      have hs2 : sm_gl h2 124 3 = lN (bsN g (2 ^ gN G)) := (E2.2.1 124 3 (by unfold sxP; omega)).trans hs
      rw [if_pos rfl, if_pos (by rw [lg_cmp_eq]; rfl), b3_61, b3_66, if_neg (by decide), b3_73, if_pos (in_c (by rw [ln_21]; omega) (by omega)), nI_clamp (by omega), g21, e2, bnd]
      simp only [app1, List.cons_append, List.nil_append]
      rw [b3_95]
      cases hlt : ltA G W p r s k with
      | false =>
        rw [hlt, if_neg (by decide)] at ih
        rw [if_pos (by rw [prI_m1, ← hl k]; exact hlt), b3_108, nI_add]
        exact ih h2 _ (by omega) S2 hs2 (E.tr E2)
      | true =>
        rw [hlt, if_pos rfl] at ih
        rw [if_neg (by rw [prI_m1, ← hl k, hlt]; decide), b3_99, sh1L k (by omega), lN_or, b3_108, nI_add]
        exact ih h2 _ (by omega) S2 hs2 (E.tr E2)
theorem c_setsLet {p r s : Nat} (S : cS h G W L B) (hp : p < gP G) (hr : r < gR G) (hbr : gBri G r = true) (hs : s < 2) (hg : sm_gl h 124 3 = lN (bsN g (2 ^ gN G))) : ∃ h2, xc 3 [.ref 124, .int (nI p), .int (nI r), .int (nI s)] h = some ([.long (lN (bsN (fun b => g b && ltA G W p r s b) (2 ^ gN G)))], h2) ∧ cS h2 G W L B ∧ sm_gl h2 124 3 = lN (bsN g (2 ^ gN G)) ∧ eqx sxP h h2 := by
  have hR := S.1.1.2.1
  have hrd := S.1.1.2.2.2.1 r hr
  have hG := S.1.2.2.1.2.1 r hr
  rw [en_3, b3_0]
  by_cases z : s = 0
  · subst z
    rw [if_pos (show nI 0 = 0 from rfl), b3_4, if_pos (in_c (by rw [ln_4]; omega) (by omega)), nI_clamp (by omega), show sm_gi h 4 r = nI (gOth G r) from hG.2.1, b3_25]
    exact c_setsLet_loop hp hr hbr (if_pos rfl) (fun b => rfl) (2 ^ gN G) 0 h _ (by omega) S hg eqx.rf
  · have : s = 1 := by omega
    subst this
    rw [if_neg (by decide), b3_16, if_pos (in_c (by rw [ln_3]; omega) (by omega)), nI_clamp (by omega), show sm_gi h 3 r = nI (gOne G r) from hG.1, b3_25]
    refine c_setsLet_loop hp hr hbr (f := gOth G r) ?_ (fun b => rfl) (2 ^ gN G) 0 h _ (by omega) S hg eqx.rf
    unfold toF
    rw [if_neg hrd.2.2.1, if_pos rfl]
end CSL
