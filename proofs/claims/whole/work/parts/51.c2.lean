/-! ===== the class: a law's value ===== -/
def okv (t : Bool) (v : Int32) : Prop := t = true → v = nI 0 ∨ v = nI 1
def okS : List Bool → List Int32 → Prop
  | [], [] => True
  | t :: ts, v :: vs => okv t v ∧ okS ts vs
  | _, _ => False
theorem bI_ok {c : Prop} [Decidable c] : bI c = nI 0 ∨ bI c = nI 1 := by
  unfold bI
  split
  · exact Or.inr rfl
  · exact Or.inl rfl
theorem c_minJ {a b : Int64} {h : sm_H} : xc 285 [.long a, .long b] h = some ([.long (if a ≤ b then a else b)], h) := by
  rw [en_285]
  simp only [b285_0, b285_6, b285_10, b285_11, lg_cmp_gt, lg_cmp_le]
  by_cases q : a ≤ b
  · rw [if_pos q]; first | rw [if_neg (Int64.not_lt.mpr q)] | rw [if_pos q]
  · rw [if_neg q]; first | rw [if_pos (Int64.not_le.mp q)] | rw [if_neg q]
theorem c_maxJ {a b : Int64} {h : sm_H} : xc 283 [.long a, .long b] h = some ([.long (if a < b then b else a)], h) := by
  rw [en_283]
  simp only [b283_0, b283_6, b283_10, b283_11, lg_cmp_lt, lg_cmp_ge]
  by_cases q : a < b
  · rw [if_pos q]; first | rw [if_pos q] | rw [if_neg (Int64.not_le.mpr q)]
  · rw [if_neg q]; first | rw [if_neg q] | rw [if_pos (Int64.not_lt.mp q)]
theorem clp_mm (v : Int64) : (if (-1000000 : Int64) < (if (1000000 : Int64) ≤ v then 1000000 else v) then (if (1000000 : Int64) ≤ v then 1000000 else v) else -1000000).toInt32 = clp v := by
  unfold clp
  have m1 : ((1000000 : Int64).toInt) = 1000000 := by decide +kernel
  have m2 : ((-1000000 : Int64).toInt) = -1000000 := by decide +kernel
  by_cases h1 : (1000000 : Int64) ≤ v
  · rw [if_pos h1, if_pos (by decide +kernel)]
    by_cases h2 : v ≤ 1000000
    · have : v = 1000000 := by
        rw [Int64.le_iff_toInt_le] at h1 h2
        apply Int64.toInt_inj.mp
        omega
      subst this
      rw [if_pos (by decide +kernel), if_pos (by decide +kernel)]
    · rw [if_neg h2]
  · have h2 : v ≤ 1000000 := Int64.le_of_lt (Int64.not_le.mp h1)
    rw [if_neg h1, if_pos h2]
    by_cases h3 : (-1000000 : Int64) < v
    · rw [if_pos h3, if_pos (Int64.le_of_lt h3)]
    · rw [if_neg h3]
      by_cases h4 : (-1000000 : Int64) ≤ v
      · have : v = -1000000 := by
          rw [Int64.lt_iff_toInt_lt] at h3
          rw [Int64.le_iff_toInt_le] at h4
          apply Int64.toInt_inj.mp
          omega
        subst this
        rw [if_pos h4]
      · rw [if_neg h4]
/-- the stack's cell of a law -/
def sxV (o : Nat) : Nat → Nat → Prop := fun c _ => c = o + 2
theorem q_49 {o : Nat} (ho : sm_isQ o) : o + 2 ≠ 49 ∧ o + 1 ≠ 49 := (by decide +kernel : ∀ w, w < sm_NC → sm_kd w = 10 + 4 → w + 2 ≠ 49 ∧ w + 1 ≠ 49) o (sm_kd_lt (by rw [ho.kd]; decide)) ho
theorem in_q2 {o n : Nat} (ho : sm_isQ o) (hn : n < 64) : sm_in (o + 2) (nI n) ↔ True := iff_true_intro ((in_nI (by omega)).mpr (by rw [ho.ln2]; exact hn))
theorem in_q1 {o n : Nat} (ho : sm_isQ o) (hn : n < 900) : sm_in (o + 1) (nI n) ↔ True := iff_true_intro ((in_nI (by omega)).mpr (by rw [ho.ln1]; exact hn))
theorem in_49 {n : Nat} (hn : n < 7) : sm_in 49 (nI n) ↔ True := iff_true_intro ((in_nI (by omega)).mpr hn)
/-- two numbers joined, in the class -/
theorem c_bin {o m k c : Nat} {x y : Int32} {l5 l7 l9 : Value} {h : sm_H} (ho : sm_isQ o) (hm : m < 60) (h1 : 3000 ≤ c) (h2 : c ≤ 3008) (h6 : c ≠ 3006) (hx : sm_gi h (o + 2) m = x) (hy : sm_gi h (o + 2) (m + 1) = y) (hb : (c = 3007 ∨ c = 3008) → (x = nI 0 ∨ x = nI 1) ∧ (y = nI 0 ∨ y = nI 1)) :
    ∃ l9', xe 2 42 105 [.ref o, .ref 49, .int (nI (m + 2)), .int (nI k), .int (nI (phi c)), l5, .null, l7, .null, l9, .null] [] h = xe 2 42 336 [.ref o, .ref 49, .int (nI (m + 1)), .int (nI k), .int (nI (phi c)), .long x.toInt64, .null, .long y.toInt64, .null, l9', .null] [] (sm_si h (o + 2) m (btw c x y)) := by
  have hi0 := in_q2 ho (show m < 64 by omega)
  have hi1 := in_q2 ho (show m + 1 < 64 by omega)
  rw [b42_105 ho, add_m1 (by omega), show m + 2 - 1 = m + 1 by omega, sub1 (by omega), show m + 1 - 1 = m by omega]
  simp (disch := omega) only [hi0, hi1, if_true, nI_clamp, hx, hy]
  have arith : ∀ (c : Nat) (v : Int64), xe 2 42 173 [.ref o, .ref 49, .int (nI (m + 1)), .int (nI k), .int (nI c), .long x.toInt64, .null, .long y.toInt64, .null, l9, .null] [.long v] h = xe 2 42 336 [.ref o, .ref 49, .int (nI (m + 1)), .int (nI k), .int (nI c), .long x.toInt64, .null, .long y.toInt64, .null, .long v, .null] [] (sm_si h (o + 2) m (clp v)) := by
    intro c v
    rw [b42_173 ho, c_minJ, bnd]
    simp only [app1, List.cons_append, List.nil_append]
    rw [b42_193, c_maxJ, bnd]
    simp only [app1, List.cons_append, List.nil_append]
    rw [b42_196 ho, sub1 (by omega), show m + 1 - 1 = m by omega, clp_mm]
    simp (disch := omega) only [hi0, if_true, nI_clamp, b42_198]
  have truth : ∀ (c : Nat) (b : Prop) [Decidable b], xe 2 42 316 [.ref o, .ref 49, .int (nI (m + 1)), .int (nI k), .int (nI c), .long x.toInt64, .null, .long y.toInt64, .null, l9, .null] [.int (bI b)] h = xe 2 42 336 [.ref o, .ref 49, .int (nI (m + 1)), .int (nI k), .int (nI c), .long x.toInt64, .null, .long y.toInt64, .null, .int (bI b), .null] [] (sm_si h (o + 2) m (bI b)) := by
    intro c b _
    rw [b42_316 ho, sub1 (by omega), show m + 1 - 1 = m by omega]
    by_cases q : b
    · rw [if_neg (by rw [bI_z]; exact fun z => z q), b42_330, b42_335 ho]
      simp (disch := omega) only [hi0, if_true, nI_clamp]
      rw [show bI b = nI 1 from if_pos q]
    · rw [if_pos (by rw [bI_z]; exact q), b42_334, b42_335 ho]
      simp (disch := omega) only [hi0, if_true, nI_clamp]
      rw [show bI b = nI 0 from if_neg q]
  rcases (by omega : c = 3000 ∨ c = 3001 ∨ c = 3002 ∨ c = 3003 ∨ c = 3004 ∨ c = 3005 ∨ c = 3007 ∨ c = 3008) with rfl | rfl | rfl | rfl | rfl | rfl | rfl | rfl
  · rw [show phi 3000 = 1106 from rfl, if_neg (by decide +kernel), b42_136, if_pos rfl, b42_144, arith]
    exact ⟨_, rfl⟩
  · rw [show phi 3001 = 1107 from rfl, if_neg (by decide +kernel), b42_136, if_neg (by decide +kernel), b42_152, if_pos rfl, b42_160, arith]
    exact ⟨_, rfl⟩
  · rw [show phi 3002 = 1108 from rfl, if_neg (by decide +kernel), b42_136, if_neg (by decide +kernel), b42_152, if_neg (by decide +kernel), b42_168, arith]
    exact ⟨_, rfl⟩
  · rw [show phi 3003 = 1103 from rfl, if_pos (by decide +kernel), b42_201, if_neg (by decide +kernel), b42_229, if_neg (by decide +kernel), b42_255, if_pos rfl, b42_263]
    simp only [lg_cmp_eq, fa_wide_eq]
    refine ⟨.int (bI (x = y)), ?_⟩
    rw [show btw 3003 x y = bI (x = y) from rfl, ← truth 1103 (x = y)]
    unfold bI
    by_cases q : x = y
    · rw [if_pos q, if_pos q, b42_271]
    · rw [if_neg q, if_neg q, b42_275]
  · rw [show phi 3004 = 1104 from rfl, if_pos (by decide +kernel), b42_201, if_neg (by decide +kernel), b42_229, if_neg (by decide +kernel), b42_255, if_neg (by decide +kernel), b42_279, if_pos rfl, b42_287]
    simp only [lg_cmp_ge, fa_wide_le]
    refine ⟨.int (bI (x < y)), ?_⟩
    rw [show btw 3004 x y = bI (x < y) from rfl, ← truth 1104 (x < y)]
    unfold bI
    by_cases q : x < y
    · rw [if_pos q, if_neg (Int32.not_le.mpr q), b42_295]
    · rw [if_neg q, if_pos (Int32.not_lt.mp q), b42_299]
  · rw [show phi 3005 = 1105 from rfl, if_pos (by decide +kernel), b42_201, if_neg (by decide +kernel), b42_229, if_neg (by decide +kernel), b42_255, if_neg (by decide +kernel), b42_279, if_neg (by decide +kernel), b42_303]
    simp only [lg_cmp_le, fa_wide_le]
    refine ⟨.int (bI (y < x)), ?_⟩
    rw [show btw 3005 x y = bI (y < x) from rfl, ← truth 1105 (y < x)]
    unfold bI
    by_cases q : y < x
    · rw [if_pos q, if_neg (Int32.not_le.mpr q), b42_311]
    · rw [if_neg q, if_pos (Int32.not_lt.mp q), b42_315]
  · obtain ⟨bx, hby⟩ := hb (Or.inl rfl)
    rw [show phi 3007 = 1101 from rfl, if_pos (by decide +kernel), b42_201, if_pos rfl, b42_209]
    simp only [lg_cmp_eq]
    refine ⟨.int (bI (x.toInt64 + y.toInt64 = 2)), ?_⟩
    rw [show btw 3007 x y = bI (x.toInt64 + y.toInt64 = 2) by
      show x &&& y = _
      rcases bx with rfl | rfl <;> rcases hby with rfl | rfl <;> decide +kernel, ← truth 1101 (x.toInt64 + y.toInt64 = 2)]
    unfold bI
    by_cases q : x.toInt64 + y.toInt64 = 2
    · rw [if_pos q, if_pos q, b42_221]
    · rw [if_neg q, if_neg q, b42_225]
  · obtain ⟨bx, hby⟩ := hb (Or.inr rfl)
    rw [show phi 3008 = 1102 from rfl, if_pos (by decide +kernel), b42_201, if_neg (by decide +kernel), b42_229, if_pos rfl, b42_237]
    simp only [lg_cmp_le]
    refine ⟨.int (bI (¬ x.toInt64 + y.toInt64 ≤ 0)), ?_⟩
    rw [show btw 3008 x y = bI (¬ x.toInt64 + y.toInt64 ≤ 0) by
      show x ||| y = _
      rcases bx with rfl | rfl <;> rcases hby with rfl | rfl <;> decide +kernel, ← truth 1102 (¬ x.toInt64 + y.toInt64 ≤ 0)]
    unfold bI
    by_cases q : x.toInt64 + y.toInt64 ≤ 0
    · rw [if_pos q, if_neg (fun z => z q), b42_251]
    · rw [if_neg q, if_pos q, b42_247]
