/-! ===== bestQuestion, shoes, sure, ask: the class ===== -/
theorem akF_none {G : LG} {W : WG} {p : Nat} {vs : List Int64} (z : cntB (fitB G W p vs) (2 ^ gN G) = 0) : ∀ i, akF G W p vs i = none
  | 0 => rfl
  | i + 1 => by rw [akF_succ, if_neg (fun y => y.2.2 z)]; exact akF_none z i
theorem akF_skip {G : LG} {W : WG} {p : Nat} {vs : List Int64} (r : Nat) : ∀ k, k ≤ 8 → akF G W p vs (10 * r + 2 + k) = akF G W p vs (10 * r + 2)
  | 0, _ => rfl
  | k + 1, h => by
    rw [show 10 * r + 2 + (k + 1) = 10 * r + 2 + k + 1 by omega, akF_succ, if_neg (fun y => by have := y.1; omega)]
    exact akF_skip r k (by omega)
def ixJ (j : Nat) : Nat := 10 * (j / 2) + j % 2
theorem akF_ix {G : LG} {W : WG} {p : Nat} {vs : List Int64} (j : Nat) : akF G W p vs (ixJ j + 1) = akF G W p vs (ixJ (j + 1)) := by
  unfold ixJ
  by_cases z : j % 2 = 0
  · rw [show 10 * (j / 2) + j % 2 + 1 = 10 * ((j + 1) / 2) + (j + 1) % 2 by omega]
  · have := akF_skip (G := G) (W := W) (p := p) (vs := vs) (j / 2) 8 (by omega)
    rw [show 10 * (j / 2) + j % 2 + 1 = 10 * (j / 2) + 2 by omega, show 10 * ((j + 1) / 2) + (j + 1) % 2 = 10 * (j / 2) + 2 + 8 by omega, this]
theorem cnt_bs {f : Nat → Bool} {n : Nat} : bsN f n = 0 ↔ cntB f n = 0 := by
  constructor
  · intro h
    have := bsN_z h
    have key : ∀ k, k ≤ n → cntB f k = 0 := fun k => by
      induction k with
      | zero => intro _; rfl
      | succ k ih =>
        intro hk
        rw [show cntB f (k + 1) = cntB f k + (if f k = true then 1 else 0) from rfl, ih (by omega), this k (by omega)]
        rfl
    exact key n (Nat.le_refl _)
  · intro h
    apply Classical.byContradiction
    intro z
    obtain ⟨r, hr, hf⟩ := bsN_pos f n z
    have := cntB_lt f hr hf
    omega
theorem lN_z {m : Nat} (h : m < 2 ^ 64) : lN m = 0 ↔ m = 0 := by
  constructor
  · intro z
    have := congrArg (fun x : Int64 => x.toBitVec.toNat) z
    simp only [lN_nat h] at this
    exact this
  · intro z; subst z; rfl
section CBQ
variable {G : LG} {W : WG} {L : List WG} {B B' : Nat} {h : sm_H} {T : TG}
theorem bs64 {f : Nat → Bool} (hN : gN G ≤ 6) : bsN f (2 ^ gN G) < 2 ^ 64 := Nat.lt_of_lt_of_le (bsN_lt _ _) (Nat.pow_le_pow_right (by decide) (pow6 hN))
theorem c_cnt {f : Nat → Bool} (hN : gN G ≤ 6) : xc 281 [.long (lN (bsN f (2 ^ gN G)))] h = some ([.int (nI (cntB f (2 ^ gN G)))], h) := by
  rw [c_bitCountL (bs64 hN), pcnt_bsN, Nat.min_eq_right (pow6 hN)]
theorem cbq_loop {p : Nat} {vs : List Int64} (hp : p < gP G) : ∀ (m j : Nat) (h1 : sm_H) (l5 l6 : Value), j + m = 2 * gR G → cS h1 G W L B → sm_gl h1 124 3 = lN (bsN (fitB G W p vs) (2 ^ gN G)) → eqx sxP h h1 → ∃ h2, xe 5 5 7 [.ref 124, .int (nI p), .int (akB (akF G W p vs (ixJ j))), .int (mpI (akF G W p vs (ixJ j))), .int (nI j), l5, l6] [] h1 = some ([.int (mpI (akF G W p vs (10 * gR G)))], h2) ∧ cS h2 G W L B ∧ eqx sxP h h2
  | 0, j, h1, l5, l6, e, S, hs, E => by
    have : j = 2 * gR G := by omega
    subst this
    rw [b5_7, show sm_gi h1 2 2 = nI (gR G) from S.1.2.2.1.1.2.1, pk_mul, if_pos (Int32.le_refl _), b5_107, show ixJ (2 * gR G) = 10 * gR G by unfold ixJ; omega]
    exact ⟨h1, rfl, S, E⟩
  | m + 1, j, h1, l5, l6, e, S, hs, E => by
    have hN := S.1.1.1.2
    have hR := S.1.1.2.1
    have h64 := pow6 hN
    have ih := cbq_loop hp (vs := vs) m (j + 1)
    rw [← akF_ix, akF_succ, show ixJ j % 10 = j % 2 by unfold ixJ; omega, show ixJ j / 10 = j / 2 by unfold ixJ; omega] at ih
    have hkb := akF_b (W := W) (p := p) (vs := vs) hN (ixJ j)
    have hsl := akS_le (W := W) (p := p) (vs := vs) (r := j / 2) (s := j % 2) hN
    rw [b5_7, show sm_gi h1 2 2 = nI (gR G) from S.1.2.2.1.1.2.1, pk_mul, if_neg (by rw [nI_leI (by omega) (by omega)]; omega), b5_21, hs]
    by_cases z3 : cntB (fitB G W p vs) (2 ^ gN G) = 0
    · rw [if_pos (by rw [lg_cmp_eq, lN_z (bs64 hN)]; exact cnt_bs.mpr z3), b5_107, akF_none z3, akF_none z3]
      exact ⟨h1, rfl, S, E⟩
    · rw [if_neg (by rw [lg_cmp_eq, lN_z (bs64 hN)]; exact fun y => z3 (cnt_bs.mp y)), b5_30, pk_div (by omega) (by decide) (by decide), c_isBridge isD2 S.1.2.2.1 S.1.1 (show j / 2 < gR G by omega), bnd]
      simp only [app1, List.cons_append, List.nil_append]
      rw [b5_41]
      by_cases z2 : gBri G (j / 2) = true
      · rw [if_pos ⟨show j % 2 < 2 by omega, z2, z3⟩] at ih
        obtain ⟨h2, e2, S2, hs2, E2⟩ := c_setsLet (h := h1) S hp (show j / 2 < gR G by omega) z2 (show j % 2 < 2 by omega) hs
        rw [if_neg (by rw [bI_z]; exact fun z => z z2), b5_44, pk_rem (by omega) (by decide) (by decide), pk_div (by omega) (by decide) (by decide), e2, bnd]
        simp only [app1, List.cons_append, List.nil_append]
        rw [b5_57, c_cnt hN, bnd]
        simp only [app1, List.cons_append, List.nil_append]
        rw [b5_60, hs2, c_cnt hN, bnd]
        simp only [app1, List.cons_append, List.nil_append]
        have hle := cnt_and_le (fitB G W p vs) (ltA G W p (j / 2) (j % 2)) (2 ^ gN G)
        have hal := cntB_le (fitB G W p vs) (2 ^ gN G)
        have hmin : (if nI (cntB (fun b => fitB G W p vs b && ltA G W p (j / 2) (j % 2) b) (2 ^ gN G)) ≤ nI (cntB (fitB G W p vs) (2 ^ gN G) - cntB (fun b => fitB G W p vs b && ltA G W p (j / 2) (j % 2) b) (2 ^ gN G)) then nI (cntB (fun b => fitB G W p vs b && ltA G W p (j / 2) (j % 2) b) (2 ^ gN G)) else nI (cntB (fitB G W p vs) (2 ^ gN G) - cntB (fun b => fitB G W p vs b && ltA G W p (j / 2) (j % 2) b) (2 ^ gN G))) = nI (akS G W p vs (j / 2) (j % 2)) := by
          unfold akS lsN
          by_cases y : cntB (fun b => fitB G W p vs b && ltA G W p (j / 2) (j % 2) b) (2 ^ gN G) ≤ cntB (fitB G W p vs) (2 ^ gN G) - cntB (fun b => fitB G W p vs b && ltA G W p (j / 2) (j % 2) b) (2 ^ gN G)
          · rw [Nat.min_eq_left y, if_pos (by rw [nI_leI (by omega) (by omega)]; exact y)]
          · rw [Nat.min_eq_right (by omega), if_neg (by rw [nI_leI (by omega) (by omega)]; exact y)]
        rw [b5_71, pk_sub hle, c_min, hmin, bnd]
        simp only [app1, List.cons_append, List.nil_append]
        rw [b5_77]
        have go : ∀ l5 l6, ∃ h3, xe 5 5 85 [.ref 124, .int (nI p), .int (akB (akF G W p vs (ixJ j))), .int (mpI (akF G W p vs (ixJ j))), .int (nI j), .int l5, .int l6] [] h2 = xe 5 5 7 [.ref 124, .int (nI p), .int l6, .int (nI (ixJ j)), .int (nI (j + 1)), .int l5, .int l6] [] h3 ∧ h3 = h2 := fun l5 l6 => by
          rw [b5_85, pk_rem (by omega) (by decide) (by decide), pk_div (by omega) (by decide) (by decide), pk_mul, nI_add, b5_101, nI_add]
          exact ⟨h2, rfl, rfl⟩
        cases hm : akF G W p vs (ixJ j) with
        | none =>
          rw [hm] at ih go
          rw [if_neg (show ¬ nI (akS G W p vs (j / 2) (j % 2)) ≤ akB none by show ¬ _ ≤ (-1 : Int32); rw [Int32.le_iff_toInt_le, nI_toInt (by omega), show (-1 : Int32).toInt = -1 from rfl]; omega)]
          obtain ⟨_, e4, e5⟩ := go (nI (cntB (fun b => fitB G W p vs b && ltA G W p (j / 2) (j % 2) b) (2 ^ gN G))) (nI (akS G W p vs (j / 2) (j % 2)))
          rw [e4, e5]
          exact ih h2 _ _ (by omega) S2 hs2 (E.tr E2)
        | some u =>
          have hu := hkb u hm
          rw [hm] at ih go
          dsimp only at ih
          by_cases z4 : u.1 < akS G W p vs (j / 2) (j % 2)
          · rw [if_pos z4] at ih
            rw [if_neg (show ¬ nI (akS G W p vs (j / 2) (j % 2)) ≤ akB (some u) by show ¬ _ ≤ nI u.1; rw [nI_leI (by omega) (by omega)]; omega)]
            obtain ⟨_, e4, e5⟩ := go (nI (cntB (fun b => fitB G W p vs b && ltA G W p (j / 2) (j % 2) b) (2 ^ gN G))) (nI (akS G W p vs (j / 2) (j % 2)))
            rw [e4, e5]
            exact ih h2 _ _ (by omega) S2 hs2 (E.tr E2)
          · rw [if_neg z4] at ih
            rw [if_pos (show nI (akS G W p vs (j / 2) (j % 2)) ≤ akB (some u) by show _ ≤ nI u.1; rw [nI_leI (by omega) (by omega)]; omega), b5_101, nI_add]
            exact ih h2 _ _ (by omega) S2 hs2 (E.tr E2)
      · rw [if_neg (fun y => z2 y.2.1)] at ih
        rw [if_pos (by rw [bI_z]; exact z2), b5_101, nI_add]
        exact ih h1 _ _ (by omega) S hs E
theorem c_bestQ {p : Nat} {vs : List Int64} (S : cS h G W L B) (hp : p < gP G) (hs : sm_gl h 124 3 = lN (bsN (fitB G W p vs) (2 ^ gN G))) : ∃ h2, xc 5 [.ref 124, .int (nI p)] h = some ([.int (mpI (akF G W p vs (10 * gR G)))], h2) ∧ cS h2 G W L B ∧ eqx sxP h h2 := by
  rw [en_5, b5_0]
  exact cbq_loop (h := h) hp (2 * gR G) 0 h .null .null (by omega) S hs eqx.rf
theorem c_shoes {t p : Int32} (S : cS h G W L B) (hT : cT h T) : ∃ h2, xc 136 [.ref 0, .int t, .int p] h = some ([.int (aShoes G W T t p)], h2) ∧ cS h2 G W L B ∧ eqx sxPs h h2 := by
  have hN := S.1.1.1.2
  obtain ⟨h2, e2, S2, hs2, E2⟩ := c_weighA (t := t) (p := p) S hT
  rw [en_136, b136_0, e2, bnd]
  simp only [app1, List.cons_append, List.nil_append]
  rw [b136_13]
  unfold aShoes
  by_cases z : nA G T t p = 0
  · rw [if_pos z, if_pos z, b136_22, hs2 z, c_cnt hN, bnd]
    simp only [app1, List.cons_append, List.nil_append]
    rw [b136_32]
    exact ⟨h2, rfl, S2, E2⟩
  · rw [if_neg z, if_neg z, b136_18, b136_32]
    exact ⟨h2, rfl, S2, E2⟩
theorem c_sure {t p : Int32} (S : cS h G W L B) (hT : cT h T) : ∃ h2, xc 137 [.ref 0, .int t, .int p] h = some ([.int (aSure G W T t p)], h2) ∧ cS h2 G W L B ∧ eqx sxPs h h2 := by
  obtain ⟨h2, e2, S2, hs2, E2⟩ := c_weighA (t := t) (p := p) S hT
  rw [en_137, b137_0, e2, bnd]
  simp only [app1, List.cons_append, List.nil_append]
  rw [b137_13]
  unfold aSure
  by_cases z : nA G T t p = 0
  · rw [if_pos z, if_pos z, b137_22, c_common S2.1 (hs2 z), bnd]
    simp only [app1, List.cons_append, List.nil_append]
    rw [b137_29]
    exact ⟨h2, rfl, S2, E2⟩
  · rw [if_neg z, if_neg z, b137_18, b137_29]
    exact ⟨h2, rfl, S2, E2⟩
theorem c_ask {t p : Int32} (S : cS h G W L B) (hT : cT h T) : ∃ h2, xc 138 [.ref 0, .int t, .int p] h = some ([.int (aAsk G W T t p)], h2) ∧ cS h2 G W L B ∧ eqx sxPs h h2 := by
  have hP := S.1.1.2.2.1
  obtain ⟨h2, e2, S2, hs2, E2⟩ := c_weighA (t := t) (p := p) S hT
  rw [en_138, b138_0, e2, bnd]
  simp only [app1, List.cons_append, List.nil_append]
  rw [b138_13]
  unfold aAsk
  by_cases z : nA G T t p = 0
  · obtain ⟨t, p, q, ht, hp, rfl, rfl, hq, -, -, ha⟩ := nA_z hP z
    have hs := hs2 z
    rw [if_pos z, if_pos z, b138_22]
    rw [toN_nI (show p < 2 ^ 31 by omega)] at hs ⊢
    obtain ⟨h3, e3, S3, E3⟩ := c_bestQ S2 hp hs
    rw [e3, bnd]
    simp only [app1, List.cons_append, List.nil_append]
    rw [b138_30]
    exact ⟨h3, rfl, S3, E2.tr (E3.wk sxP_Ps)⟩
  · rw [if_neg z, if_neg z, b138_18, b138_30]
    exact ⟨h2, rfl, S2, E2⟩
end CBQ
