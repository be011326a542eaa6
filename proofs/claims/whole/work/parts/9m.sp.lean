/-! ===== splitTokens: the class ===== -/
def sxSp : Nat → Nat → Prop := fun c _ => c = 45 ∨ c = 46 ∨ c = 47
theorem in_45 {n : Nat} (hn : n < 901) : sm_in 45 (nI n) ↔ True := in_ln (by omega) (by rw [ln_45]; exact hn)
theorem in_46 {n : Nat} (hn : n < 901) : sm_in 46 (nI n) ↔ True := in_ln (by omega) (by rw [ln_46]; exact hn)
theorem in_47 {n : Nat} (hn : n < 901) : sm_in 47 (nI n) ↔ True := in_ln (by omega) (by rw [ln_47]; exact hn)
/-- tokens in the class's rows -/
def rwT (h : sm_H) (b : Nat → Nat) (n j : Nat) : Prop := sm_gi h 45 j = nI (tK b n j) ∧ sm_gi h 47 j = nI (psT b n j) ∧ (tK b n j = 2 → sm_gi h 46 j = nI (tV b n j))
def cTk (h : sm_H) (b : Nat → Nat) (n nt : Nat) : Prop := TKo (tK b n) (tV b n) nt ∧ ∀ j, j ≤ nt → rwT h b n j
theorem rwT_eqx {S : Nat → Nat → Prop} {h h2 : sm_H} {b : Nat → Nat} {n j : Nat} (H : rwT h b n j) (E : eqx S h h2) (hS : ∀ c, ¬ (S c j ∧ (c = 45 ∨ c = 46 ∨ c = 47))) : rwT h2 b n j :=
  ⟨(E.1 45 j (fun z => hS _ ⟨z, by omega⟩)).trans H.1, (E.1 47 j (fun z => hS _ ⟨z, by omega⟩)).trans H.2.1, fun y => (E.1 46 j (fun z => hS _ ⟨z, by omega⟩)).trans (H.2.2 y)⟩
theorem cTk_eqx {S : Nat → Nat → Prop} {h h2 : sm_H} {b : Nat → Nat} {n nt : Nat} (H : cTk h b n nt) (E : eqx S h h2) (hS : ∀ c i, S c i → c ≠ 45 ∧ c ≠ 46 ∧ c ≠ 47) : cTk h2 b n nt := ⟨H.1, fun j hj => rwT_eqx (H.2 j hj) E (fun c z => by have := hS _ _ z.1; omega)⟩
theorem fidx_sg : ∀ c, c < 128 → (sm_fidx c (sm_str.getD (1020 - 1000) []) 0 < 0 ↔ ¬ c ∈ sgL) := by decide +kernel
theorem chr_c : ∀ c, c < 128 → ((nI c).toUInt32 % 65536).toInt32 = nI c := by decide +kernel
section CSP
variable {b : Nat → Nat} {n : Nat} {h : sm_H}
theorem skp_bl {i : Nat} (hi : i < n) (hb : isBl (b i) = true) : skp b n i = skp b n (i + 1) := by
  unfold skp
  rw [show n - i = n - (i + 1) + 1 by omega, whl_s, if_pos hb]
theorem skp_no {i : Nat} (hi : i < n) (hb : ¬ isBl (b i) = true) : skp b n i = i := by
  unfold skp
  rw [show n - i = n - (i + 1) + 1 by omega, whl_s, if_neg hb]
theorem c_split_loop (H : cBy h b n) : ∀ (m i k st : Nat) (h1 : sm_H) (l6 l7 : Value), n - i ≤ m → i ≤ n → k ≤ i → st ≤ i → skp b n i = psT b n k → (∀ j, j < k → rwT h1 b n j ∧ psT b n j < n) → eqx sxSp h h1 → ∃ nt h2, xe 3 51 8 [.ref 28, .ref 1, .int (nI n), .int (nI k), .int (nI i), .int (nI st), l6, l7] [] h1 = some ([], h2) ∧ cTk h2 b n nt ∧ eqx sxSp h h2
  | 0, i, k, st, h1, l6, l7, hm, hi, hk, hs, hp, rows, E => by
    have hn := H.2.1
    have : i = n := by omega
    subst this
    have hpe : psT b i k = i := by
      rw [← hp]
      have := skp_le (b := b) hi
      omega
    have hk0 : tK b i k = 0 := tK_0.mpr hpe
    rw [b51_8, if_neg (by rw [nI_ltI (by decide) (by omega)]; omega), b51_16, if_pos (Int32.le_refl _), b51_188]
    simp (disch := omega) only [in_45, if_true, nI_clamp]
    rw [b51_195]
    simp (disch := omega) only [in_47, if_true, nI_clamp]
    rw [b51_202]
    have Ek : eqx (fun c j => (c = 45 ∨ c = 47) ∧ j = k) h1 (sm_si (sm_si h1 45 k (nI 0)) 47 k (nI i)) := (eqx.rf.si ⟨Or.inl rfl, rfl⟩).si ⟨Or.inr rfl, rfl⟩
    refine ⟨k, _, rfl, ⟨⟨hk0, fun j hj z => ?_, by omega, fun j => tkK_KL, fun j z => tkV_lt (tkK_2 z)⟩, fun j hj => ?_⟩, E.tr (Ek.wk (fun c j z => by unfold sxSp; omega))⟩
    · have := (rows j hj).2
      rw [tK_0] at z
      omega
    · by_cases y : j = k
      · subst y
        refine ⟨?_, ?_, fun z => by omega⟩
        · rw [gi_cell (by decide), gi_same, hk0]
        · rw [gi_same, hpe]
      · exact rwT_eqx (rows j (by omega)).1 Ek (fun c z => by omega)
  | m + 1, i, k, st, h1, l6, l7, hm, hi, hk, hs, hp, rows, E => by
    have hn := H.2.1
    by_cases hin : i = n
    · exact c_split_loop H 0 i k st h1 l6 l7 (by omega) hi hk hs hp rows E
    have hi' : i < n := by omega
    have H1 : cBy h1 b n := cBy_eqx H E (fun c j z => by unfold sxSp at z; omega)
    have hb := H.2.2 i
    have g1 := H1.1 i hi'
    rw [b51_8, if_neg (by rw [nI_ltI (by decide) (by omega)]; omega), b51_16, if_neg (by rw [nI_leI (by omega) (by omega)]; omega), b51_22]
    simp (disch := omega) only [in_1, if_true, nI_clamp, g1]
    have blank : isBl (b i) = true → ∃ nt h2, xe 3 51 42 [.ref 28, .ref 1, .int (nI n), .int (nI k), .int (nI i), .int (nI st), .int (sgB (b i)), l7] [] h1 = some ([], h2) ∧ cTk h2 b n nt ∧ eqx sxSp h h2 := fun z => by
      rw [b51_42, nI_add, b51_182, nI_add]
      exact c_split_loop H m (i + 1) k (st + 1) h1 _ _ (by omega) (by omega) (by omega) (by omega) (by rw [← skp_bl hi' z]; exact hp) rows E
    by_cases y1 : b i = 10
    · rw [if_pos ((sg_eq hb (by decide)).mpr y1)]
      exact blank (isBl_iff.mpr (Or.inl y1))
    · rw [if_neg (fun z => y1 ((sg_eq hb (by decide)).mp z)), b51_35]
      by_cases y2 : b i = 32
      · rw [if_pos ((sg_eq hb (by decide)).mpr y2)]
        exact blank (isBl_iff.mpr (Or.inr y2))
      · have nb : ¬ isBl (b i) = true := fun z => by rw [isBl_iff] at z; omega
        have hpi : psT b n k = i := by rw [← hp, skp_no hi' nb]
        have hte := tkE_le (b := b) hi'
        have H2 : cBy (sm_si h1 47 k (nI i)) b n := cBy_eqx H1 (S := fun c _ => c = 47) (eqx.rf.si rfl) (fun c j z => by omega)
        rw [if_neg (fun z => y2 ((sg_eq hb (by decide)).mp z)), b51_48]
        simp (disch := omega) only [in_47, if_true, nI_clamp]
        rw [b51_56, c_behindToken H2 hi', bnd]
        simp only [app1, List.cons_append, List.nil_append]
        -- what is told of the token
        have fin : ∀ h2, eqx (fun c j => (c = 45 ∨ c = 46 ∨ c = 47) ∧ j = k) h1 h2 → rwT h2 b n k → ∃ nt h3, xe 3 51 175 [.ref 28, .ref 1, .int (nI n), .int (nI k), .int (nI i), .int (nI st), .int (sgB (b i)), .int (nI (tkE b n i))] [] h2 = some ([], h3) ∧ cTk h3 b n nt ∧ eqx sxSp h h3 := fun h2 E2 r2 => by
          rw [b51_175, nI_add, b51_182, nI_add]
          refine c_split_loop H m (tkE b n i) (k + 1) (st + 1) h2 _ _ (by omega) (by omega) (by omega) (by omega) (by rw [psT_s, hpi, if_pos hi']) (fun j hj => ?_) (E.tr (E2.wk (fun c j z => by unfold sxSp; omega)))
          by_cases z : j = k
          · subst z; exact ⟨r2, by rw [hpi]; exact hi'⟩
          · exact ⟨rwT_eqx (rows j (by omega)).1 E2 (fun c z => by omega), (rows j (by omega)).2⟩
        have htk : tK b n k = if isSm (b i) = true then fW b i (tkE b n i) 20 0 else if isDg (b i) = true then (if tkE b n i - i ≤ 3 then 2 else 1) else if b i ∈ sgL then b i else 1 := by
          unfold tK tkK; rw [hpi, if_neg (by omega)]
        have E47 : eqx (fun c j => (c = 45 ∨ c = 46 ∨ c = 47) ∧ j = k) h1 (sm_si h1 47 k (nI i)) := eqx.rf.si ⟨by omega, rfl⟩
        rw [b51_63]
        -- neither digit nor letter begins at 116
        have at116 : ¬ isDg (b i) = true → ∃ nt h3, xe 3 51 116 [.ref 28, .ref 1, .int (nI n), .int (nI k), .int (nI i), .int (nI st), .int (sgB (b i)), .int (nI (tkE b n i))] [] (sm_si h1 47 k (nI i)) = some ([], h3) ∧ cTk h3 b n nt ∧ eqx sxSp h h3 := fun dg => by
          have at147 : ¬ isSm (b i) = true → ∃ nt h3, xe 3 51 147 [.ref 28, .ref 1, .int (nI n), .int (nI k), .int (nI i), .int (nI st), .int (sgB (b i)), .int (nI (tkE b n i))] [] (sm_si h1 47 k (nI i)) = some ([], h3) ∧ cTk h3 b n nt ∧ eqx sxSp h h3 := fun sm => by
            rw [if_neg sm, if_neg dg] at htk
            have fin2 : ∀ v, v = nI (tK b n k) → ∃ nt h3, xe 3 51 174 [.ref 28, .ref 1, .int (nI n), .int (nI k), .int (nI i), .int (nI st), .int (sgB (b i)), .int (nI (tkE b n i))] [.int v, .int (nI k), .ref 45] (sm_si h1 47 k (nI i)) = some ([], h3) ∧ cTk h3 b n nt ∧ eqx sxSp h h3 := fun v hv => by
              rw [b51_174]
              simp (disch := omega) only [in_45, if_true, nI_clamp]
              refine fin _ (E47.si ⟨by omega, rfl⟩) ⟨by rw [gi_same, hv], by rw [gi_cell (by decide), gi_same, hpi], fun z => ?_⟩
              rw [htk] at z
              split at z
              · rename_i x; exact absurd z (kl_s _ x).2.2.2.1
              · omega
            rw [b51_147]
            by_cases z : b i = 0 ∨ 128 ≤ b i
            · rw [if_pos (by rw [show (0 : Int32) = nI 0 from rfl, sg_le hb (by decide)]; omega), b51_173]
              refine fin2 _ ?_
              rw [htk, if_neg (fun y => ?_)]
              have := (kl_s _ y)
              omega
            · have hc : b i < 128 := by omega
              rw [if_neg (by rw [show (0 : Int32) = nI 0 from rfl, sg_le hb (by decide)]; omega), b51_157, (sgB_all _ hb).1 hc, chr_c _ hc, if_pos ⟨nn_le (by omega), by rw [nI_clamp (by omega)]; omega⟩, nI_clamp (by omega), b51_165]
              rw [(sgB_all _ hb).1 hc] at fin2
              by_cases y : b i ∈ sgL
              · rw [if_neg (fun x => (fidx_sg _ hc).mp x y), b51_168]
                exact fin2 _ (by rw [htk, if_pos y])
              · rw [if_pos ((fidx_sg _ hc).mpr y), b51_173]
                exact fin2 _ (by rw [htk, if_neg y])
          rw [b51_116]
          by_cases y3 : 97 ≤ b i ∧ b i < 128
          · rw [if_neg (by rw [sg_lt hb (by decide)]; omega), b51_123]
            by_cases y4 : b i ≤ 122
            · have sm : isSm (b i) = true := isSm_iff.mpr ⟨y3.1, y4⟩
              rw [if_pos sm] at htk
              rw [if_neg (by rw [Int32.not_lt, sg_le hb (by decide)]; omega), b51_130, c_wordIn H2 hte.2 (Nat.le_of_lt hte.1), bnd]
              simp only [app1, List.cons_append, List.nil_append]
              rw [b51_143]
              simp (disch := omega) only [in_45, if_true, nI_clamp]
              rw [b51_144]
              refine fin _ (E47.si ⟨by omega, rfl⟩) ⟨by rw [gi_same, htk], by rw [gi_cell (by decide), gi_same, hpi], fun z => ?_⟩
              rw [htk] at z
              rcases fW_in (b := b) (i := i) (e := tkE b n i) 20 0 with ⟨j, h1, h2, h3, h4⟩ | ⟨h1, h2⟩ <;> omega
            · rw [if_pos (by rw [← Int32.not_le, sg_le hb (by decide)]; omega)]
              exact at147 (fun x => by rw [isSm_iff] at x; omega)
          · rw [if_pos (by rw [sg_lt hb (by decide)]; omega)]
            exact at147 (fun x => by rw [isSm_iff] at x; omega)
        by_cases y3 : 48 ≤ b i ∧ b i < 128
        · rw [if_neg (by rw [sg_lt hb (by decide)]; omega), b51_72]
          by_cases y4 : b i ≤ 57
          · have dg : isDg (b i) = true := isDg_iff.mpr ⟨y3.1, y4⟩
            have sm : ¬ isSm (b i) = true := fun x => by rw [isSm_iff] at x; omega
            rw [if_neg sm, if_pos dg] at htk
            rw [if_neg (by rw [Int32.not_lt, sg_le hb (by decide)]; omega), b51_79, pk_sub (Nat.le_of_lt hte.1)]
            have fin2 : ∀ v, v = nI (tK b n k) → ∃ nt h3, xe 3 51 98 [.ref 28, .ref 1, .int (nI n), .int (nI k), .int (nI i), .int (nI st), .int (sgB (b i)), .int (nI (tkE b n i))] [.int v, .int (nI k), .ref 45] (sm_si h1 47 k (nI i)) = some ([], h3) ∧ cTk h3 b n nt ∧ eqx sxSp h h3 := fun v hv => by
              rw [b51_98]
              simp (disch := omega) only [in_45, if_true, nI_clamp]
              have H3 : cBy (sm_si (sm_si h1 47 k (nI i)) 45 k v) b n := cBy_eqx H2 (S := fun c _ => c = 45) (eqx.rf.si rfl) (fun c j z => by omega)
              rw [b51_99, c_numberIn H3 (Nat.le_of_lt hte.1) hte.2 (fun j z1 z2 => tkE_dg dg z1 z2), bnd]
              simp only [app1, List.cons_append, List.nil_append]
              rw [b51_112]
              simp (disch := omega) only [in_46, if_true, nI_clamp]
              rw [b51_113]
              refine fin _ ((E47.si ⟨by omega, rfl⟩).si ⟨by omega, rfl⟩) ⟨by rw [gi_cell (by decide), gi_same, hv], by rw [gi_cell (by decide), gi_cell (by decide), gi_same, hpi], fun z => ?_⟩
              rw [gi_same]
              unfold tV tkV
              rw [hpi]
            by_cases y5 : tkE b n i - i ≤ 3
            · rw [if_pos (by rw [nI_leI (by omega) (by decide)]; exact y5), b51_97]
              exact fin2 _ (by rw [htk, if_pos y5])
            · rw [if_neg (by rw [nI_leI (by omega) (by decide)]; exact y5), b51_93]
              exact fin2 _ (by rw [htk, if_neg y5])
          · rw [if_pos (by rw [← Int32.not_le, sg_le hb (by decide)]; omega)]
            exact at116 (fun x => by rw [isDg_iff] at x; omega)
        · rw [if_pos (by rw [sg_lt hb (by decide)]; omega)]
          exact at116 (fun x => by rw [isDg_iff] at x; omega)
theorem c_split (H : cBy h b n) : ∃ nt h2, xc 51 [.ref 28, .ref 1, .int (nI n)] h = some ([], h2) ∧ cTk h2 b n nt ∧ eqx sxSp h h2 := by
  rw [en_51, b51_0]
  exact c_split_loop H n 0 0 0 h .null .null (by omega) (Nat.zero_le _) (Nat.le_refl _) (Nat.le_refl _) rfl (fun j hj => absurd hj (by omega)) eqx.rf
end CSP
