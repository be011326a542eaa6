/-! ===== weigh: the class ===== -/
theorem allF_snoc {f : Nat → Bool} : ∀ m k, allF f (m + 1) k = (allF f m k && f (k + m))
  | 0, k => by
    show (f k && true) = (true && f (k + 0))
    rw [Bool.and_true, Bool.true_and, Nat.add_zero]
  | m + 1, k => by
    show (f k && allF f (m + 1) (k + 1)) = (f k && allF f m (k + 1) && f (k + (m + 1)))
    rw [allF_snoc m (k + 1), Bool.and_assoc, show k + 1 + m = k + (m + 1) by omega]
/-- the sets that keep the first k answers -/
def wtF (G : LG) (W : WG) (p : Nat) (vs : List Int64) (k b : Nat) : Bool := decide (b / 2 ^ gBor G p % 2 = 1) && (decide (b / 2 ^ wAt W p % 2 = 1) && allF (fun k => okA G W p b (ansN (vs.getD k 0))) k 0)
theorem wtF_succ {G : LG} {W : WG} {p : Nat} {vs : List Int64} {k b : Nat} : wtF G W p vs (k + 1) b = (wtF G W p vs k b && okA G W p b (ansN (vs.getD k 0))) := by
  unfold wtF
  rw [allF_snoc, Nat.zero_add, Bool.and_assoc, Bool.and_assoc]
theorem and_two {s a b : Nat} : s &&& (2 ^ a ||| 2 ^ b) = 2 ^ a ||| 2 ^ b ↔ (s / 2 ^ a % 2 = 1 ∧ s / 2 ^ b % 2 = 1) := by
  have tb : ∀ x i, Nat.testBit x i = true ↔ x / 2 ^ i % 2 = 1 := fun x i => by rw [Nat.testBit_eq_decide_div_mod_eq, decide_eq_true_eq]
  rw [← tb, ← tb]
  constructor
  · intro h
    refine ⟨?_, ?_⟩
    · have := congrArg (fun x => Nat.testBit x a) h
      simp only [Nat.testBit_and, Nat.testBit_or, Nat.testBit_two_pow_self, Bool.true_or, Bool.and_true] at this
      exact this
    · have := congrArg (fun x => Nat.testBit x b) h
      simp only [Nat.testBit_and, Nat.testBit_or, Nat.testBit_two_pow_self, Bool.or_true, Bool.and_true] at this
      exact this
  · intro ⟨h1, h2⟩
    apply Nat.eq_of_testBit_eq
    intro i
    rw [Nat.testBit_and, Nat.testBit_or, Nat.testBit_two_pow, Nat.testBit_two_pow]
    by_cases y : a = i
    · subst y; rw [h1]; simp
    · by_cases z : b = i
      · subst z; rw [h2]; simp
      · simp [y, z]
theorem with_wt {G : LG} {W : WG} {p : Nat} {vs : List Int64} {s : Nat} : withB (2 ^ gBor G p ||| 2 ^ wAt W p) s = wtF G W p vs 0 s := by
  unfold withB wtF
  rw [show allF (fun k => okA G W p s (ansN (vs.getD k 0))) 0 0 = true from rfl, Bool.and_true, ← Bool.decide_and]
  exact decide_eq_decide.mpr and_two
theorem bsN_tb (f : Nat → Bool) (n i : Nat) : (bsN f n).testBit i = (decide (i < n) && f i) := by
  by_cases h : i < n
  · rw [Nat.testBit_eq_decide_div_mod_eq, bsN_bit f n i h, decide_eq_true h, Bool.true_and]
    cases f i <;> rfl
  · rw [decide_eq_false h, Bool.false_and]
    exact Nat.testBit_lt_two_pow (Nat.lt_of_lt_of_le (bsN_lt f n) (Nat.pow_le_pow_right (by decide) (by omega)))
theorem bsN_and (f l : Nat → Bool) (n : Nat) : lN (bsN f n) &&& lN (bsN (fun b => f b && l b) n) = lN (bsN (fun b => f b && l b) n) := by
  rw [lN_and]
  congr 1
  apply Nat.eq_of_testBit_eq
  intro i
  rw [Nat.testBit_and, bsN_tb, bsN_tb]
  cases decide (i < n) <;> cases f i <;> rfl
theorem bsN_andN (f l : Nat → Bool) (n : Nat) : lN (bsN f n) &&& (lN (bsN (fun b => f b && l b) n) ^^^ (-1)) = lN (bsN (fun b => f b && ! l b) n) := by
  apply Int64.toBitVec_inj.mp
  show BitVec.ofNat 64 (bsN f n) &&& (BitVec.ofNat 64 (bsN (fun b => f b && l b) n) ^^^ BitVec.allOnes 64) = BitVec.ofNat 64 (bsN (fun b => f b && ! l b) n)
  apply BitVec.eq_of_getLsbD_eq
  intro i hi
  rw [BitVec.getLsbD_and, BitVec.getLsbD_xor, BitVec.getLsbD_allOnes, BitVec.getLsbD_ofNat, BitVec.getLsbD_ofNat, BitVec.getLsbD_ofNat, bsN_tb, bsN_tb, bsN_tb, decide_eq_true hi]
  cases decide (i < n) <;> cases f i <;> cases l i <;> rfl
theorem bsN_congr {f g : Nat → Bool} : ∀ n, (∀ k, k < n → f k = g k) → bsN f n = bsN g n
  | 0, _ => rfl
  | n + 1, h => by
    unfold bsN
    rw [h n (by omega), bsN_congr n (fun k hk => h k (by omega))]
def sxPs : Nat → Nat → Prop := fun c _ => c = 14 ∨ c = 17 ∨ c = 49 ∨ c = 50 ∨ c = 124
theorem sxP_Ps : ∀ c i, sxP c i → sxPs c i := fun c i z => by unfold sxP at z; unfold sxPs; omega
theorem sxPs_W : ∀ c i, sxPs c i → sxW c i := fun c i z => by unfold sxPs at z; unfold sxW; omega
section CWG
variable {G : LG} {W : WG} {L : List WG} {B : Nat} {h : sm_H} {T : TG}
theorem sxL_sets {G : LG} {W : WG} {L : List WG} {B : Nat} {h : sm_H} {v : Int64} (S : cS h G W L B) : cS (sm_sl h 124 3 v) G W L B := cS_far S (S := fun c _ => c = 124) (eqx.rf.sl rfl) (fun c i z => by omega)
theorem cw_ok {t p : Nat} {q : Nat × List Int64} (S : cS h G W L B) (hT : cT h T) (ht : t < 4) (hq : T t = some q) : ∀ (m k : Nat), k + m = q.2.length → (∀ j, j < k → ansO G (q.2.getD j 0)) → xe 5 0 60 [.ref 124, .ref 116, .int (nI t), .int (nI p), .int (nI q.2.length), .int (nI k), .null, .null, .null] [] h = (@ite _ (∀ k, k < q.2.length → ansO G (q.2.getD k 0)) (Classical.propDecidable _) (xe 5 0 92 [.ref 124, .ref 116, .int (nI t), .int (nI p), .int (nI q.2.length), .int (nI q.2.length), .null, .null, .null] [] h) (some ([.int (-3)], h)))
  | 0, k, e, a => by
    have : k = q.2.length := by omega
    subst this
    rw [b0_60, if_pos (Int32.le_refl _), if_pos a]
  | m + 1, k, e, a => by
    have H := hT t ht
    rw [hq] at H
    have hl := H.2.2.2.1
    have gk := H.2.2.2.2 k (by omega)
    rw [b0_60, if_neg (by rw [nI_leI (by omega) (by omega)]; omega), b0_67 (by rw [nI_clamp (by omega), rf117 t ht]; exact kd118 t ht)]
    simp (disch := omega) only [in_117, if_true, nI_clamp, rf117 t ht, in_118, gk]
    rw [c_isAnswer S.1, bnd]
    simp only [app1, List.cons_append, List.nil_append]
    rw [b0_80]
    by_cases z : ansO G (q.2.getD k 0)
    · rw [if_neg (by unfold bI; rw [if_pos z]; decide), b0_86, nI_add]
      refine cw_ok S hT ht hq m (k + 1) (by omega) (fun j hj => ?_)
      by_cases y : j = k
      · subst y; exact z
      · exact a j (by omega)
    · rw [if_pos (by unfold bI; rw [if_neg z]; rfl), b0_83, if_neg (fun y => z (y k (by omega)))]
theorem cw_loop {t p : Nat} {q : Nat × List Int64} (ht : t < 4) (hp : p < gP G) (hq : T t = some q) (ha : ∀ k, k < q.2.length → ansO G (q.2.getD k 0)) : ∀ (m k : Nat) (h1 : sm_H) (l6 l7 : Value), k + m = q.2.length → cS h1 G W L B → cT h1 T → sm_gl h1 124 3 = lN (bsN (wtF G W p q.2 k) (2 ^ gN G)) → eqx sxPs h h1 → ∃ h2, xe 5 0 126 [.ref 124, .ref 116, .int (nI t), .int (nI p), .int (nI q.2.length), .int (nI k), l6, l7, .null] [] h1 = some ([.int (nI 0)], h2) ∧ cS h2 G W L B ∧ sm_gl h2 124 3 = lN (bsN (fitB G W p q.2) (2 ^ gN G)) ∧ eqx sxPs h h2
  | 0, k, h1, l6, l7, e, S, hT, hs, E => by
    have : k = q.2.length := by omega
    subst this
    rw [b0_126, if_pos (Int32.le_refl _), b0_200]
    exact ⟨h1, rfl, S, hs, E⟩
  | m + 1, k, h1, l6, l7, e, S, hT, hs, E => by
    have H := hT t ht
    rw [hq] at H
    have hl := H.2.2.2.1
    have gk := H.2.2.2.2 k (by omega)
    obtain ⟨n, hn, e1, hb, hs1, h01⟩ := ha k (by omega)
    have hR := S.1.1.2.1
    have ih := cw_loop ht hp hq ha m (k + 1)
    have hwt : wtF G W p q.2 (k + 1) = fun b => wtF G W p q.2 k b && okA G W p b n := by
      funext b
      rw [wtF_succ, e1, ansN_l (by omega)]
    rw [hwt] at ih
    rw [b0_126, if_neg (by rw [nI_leI (by omega) (by omega)]; omega), b0_133 (by rw [nI_clamp (by omega), rf117 t ht]; exact kd118 t ht)]
    simp (disch := omega) only [in_117, if_true, nI_clamp, rf117 t ht, in_118, gk, e1, lN_i]
    obtain ⟨h2, e2, S2, hs2, E2⟩ := c_setsLet S hp (show n / 100 < gR G by omega) hb hs1 hs
    rw [pk_div (by omega) (by decide) (by decide), pk_div (by omega) (by decide) (by decide), pk_rem (by omega) (by decide) (by decide), e2, bnd]
    simp only [app1, List.cons_append, List.nil_append]
    have T2 : cT h2 T := cT_eqx hT E2 (fun c i z => by unfold sxP at z; omega)
    have E3 := E.tr (E2.wk sxP_Ps)
    rw [b0_163, pk_rem (by omega) (by decide) (by decide)]
    have fin : ∀ v, v = lN (bsN (fun b => wtF G W p q.2 k b && okA G W p b n) (2 ^ gN G)) → ∀ l6 l7, ∃ h3, xe 5 0 194 [.ref 124, .ref 116, .int (nI t), .int (nI p), .int (nI q.2.length), .int (nI k), .int l6, .long l7, .null] [] (sm_sl h2 124 3 v) = some ([.int (nI 0)], h3) ∧ cS h3 G W L B ∧ sm_gl h3 124 3 = lN (bsN (fitB G W p q.2) (2 ^ gN G)) ∧ eqx sxPs h h3 := fun v hv l6 l7 => by
      rw [b0_194, nI_add]
      exact ih _ _ _ (by omega) (sxL_sets S2) (cT_eqx T2 (S := fun c _ => c = 124) (eqx.rf.sl rfl) (fun c i z => by omega)) (by rw [gl_same, hv]) (E3.tr (eqx.rf.sl (by unfold sxPs; omega)))
    by_cases z : n % 10 = 1
    · rw [if_pos (by rw [z]), b0_179, b0_190]
      refine fin _ ?_ _ _
      rw [hs2, bsN_and]
      congr 1
      refine bsN_congr _ (fun b _ => ?_)
      unfold okA
      rw [decide_eq_true z, beq_true]
    · rw [if_neg (by rw [nI_eq (by omega) (by decide)]; exact z), b0_184, b0_190]
      refine fin _ ?_ _ _
      rw [hs2, bsN_andN]
      congr 1
      refine bsN_congr _ (fun b _ => ?_)
      unfold okA
      rw [decide_eq_false z, beq_false]
theorem c_weighA {t p : Int32} (S : cS h G W L B) (hT : cT h T) : ∃ h2, xc 0 [.ref 124, .ref 116, .int t, .int p] h = some ([.int (nA G T t p)], h2) ∧ cS h2 G W L B ∧ (nA G T t p = 0 → sm_gl h2 124 3 = lN (bsN (fitB G W (toN p) ((T (toN t)).getD (0, [])).2) (2 ^ gN G))) ∧ eqx sxPs h h2 := by
  have hP := S.1.1.2.2.1
  have hN := S.1.1.1.2
  rw [en_0, b0_0, c_hasPerson isD2 S.1.2.2.1.1.2.2.1 (show gP G < 2 ^ 30 by omega), bnd]
  simp only [app1, List.cons_append, List.nil_append]
  rw [b0_8]
  unfold nA
  by_cases h2 : isN p.toInt64 (gP G)
  · rw [if_neg (by rw [bI_z]; exact fun z => z h2), b0_11, c_isTray, bnd]
    simp only [app1, List.cons_append, List.nil_append]
    rw [b0_16]
    by_cases h1 : isN t.toInt64 4
    · rw [if_neg (by rw [bI_z]; exact fun z => z h1), if_pos ⟨h1, h2⟩]
      obtain ⟨t, ht, rfl⟩ := isN_nI h1 (by omega)
      obtain ⟨p, hp, rfl⟩ := isN_nI h2 (by omega)
      rw [toN_nI (by omega), toN_nI (by omega), b0_22, c_isMissing hT ht, bnd]
      simp only [app1, List.cons_append, List.nil_append]
      rw [b0_27]
      have H := hT t ht
      cases hq : T t with
      | none =>
        dsimp only
        rw [if_neg (by rw [bI_z]; exact fun z => z rfl), b0_30]
        exact ⟨h, rfl, S, fun z => absurd z (by decide), eqx.rf⟩
      | some q =>
        rw [hq] at H
        have hl := H.2.2.2.1
        dsimp only
        rw [if_pos (by rw [bI_z]; exact fun z => by cases z), b0_33]
        simp (disch := omega) only [in_122, if_true, nI_clamp, H.2.2.1]
        by_cases y1 : 1 ≤ q.2.length
        · rw [if_neg (by rw [nI_ltI (by omega) (by decide)]; omega), b0_47]
          by_cases y2 : q.2.length ≤ 12
          · rw [if_pos (by rw [nI_leI (by omega) (by decide)]; omega), b0_57, if_pos (⟨y1, y2⟩ : 1 ≤ q.2.length ∧ q.2.length ≤ 12), cw_ok S hT ht hq q.2.length 0 (by omega) (fun j hj => absurd hj (by omega))]
            by_cases y3 : ∀ k, k < q.2.length → ansO G (q.2.getD k 0)
            · rw [if_pos y3, if_pos y3, b0_92]
              have g8 : sm_gi h 8 p = nI (gBor G p) := (S.1.2.2.1.2.2.1 p hp).1
              have g19 : sm_gi h 19 p = nI (wAt W p) := (S.2.1.2.2.1 p hp).1
              have hbor := (S.1.1.2.2.2.2.1 p hp).1
              have hat := S.2.2.1.2.2.1 p hp
              rw [if_pos (in_c (by rw [ln_8]; omega) (by omega)), if_pos (in_c (by rw [ln_19]; omega) (by omega)), nI_clamp (by omega), g8, g19, shl1 (by omega), shl1 (by omega), fa_or, c_setsWith S.1 (show 2 ^ gBor G p ||| 2 ^ wAt W p < 2 ^ 31 from Nat.or_lt_two_pow (Nat.pow_lt_pow_right (by decide) (by omega)) (Nat.pow_lt_pow_right (by decide) (by omega))), bnd]
              simp only [app1, List.cons_append, List.nil_append]
              rw [b0_120, b0_123]
              obtain ⟨h2, e2, S2, hs2, E2⟩ := cw_loop (h := h) ht hp hq y3 q.2.length 0 _ .null .null (by omega) (sxL_sets (v := lN (bsN (withB (2 ^ gBor G p ||| 2 ^ wAt W p)) (2 ^ gN G))) S) (cT_eqx hT (S := fun c _ => c = 124) (eqx.rf.sl rfl) (fun c i z => by omega)) (by rw [gl_same]; congr 1; exact bsN_congr _ (fun k _ => with_wt)) (eqx.rf.sl (by unfold sxPs; omega))
              exact ⟨h2, e2, S2, fun _ => hs2, E2⟩
            · rw [if_neg y3, if_neg y3]
              exact ⟨h, rfl, S, fun z => absurd z (by decide), eqx.rf⟩
          · rw [if_neg (by rw [nI_leI (by omega) (by decide)]; omega), if_neg (fun z : 1 ≤ q.2.length ∧ q.2.length ≤ 12 => y2 z.2), b0_54]
            exact ⟨h, rfl, S, fun z => absurd z (by decide), eqx.rf⟩
        · rw [if_pos (by rw [nI_ltI (by omega) (by decide)]; omega), if_neg (fun z : 1 ≤ q.2.length ∧ q.2.length ≤ 12 => y1 z.1), b0_54]
          exact ⟨h, rfl, S, fun z => absurd z (by decide), eqx.rf⟩
    · rw [if_pos (by rw [bI_z]; exact h1), if_neg (fun z : isN t.toInt64 4 ∧ isN p.toInt64 (gP G) => h1 z.1), b0_19]
      exact ⟨h, rfl, S, fun z => absurd z (by decide), eqx.rf⟩
  · rw [if_pos (by rw [bI_z]; exact h2), if_neg (fun z : isN t.toInt64 4 ∧ isN p.toInt64 (gP G) => h2 z.2), b0_19]
    exact ⟨h, rfl, S, fun z => absurd z (by decide), eqx.rf⟩
end CWG
