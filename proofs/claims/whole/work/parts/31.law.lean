/-! ===== laws as rows of codes: what they tell; the model's reckoning ===== -/
def clp (v : Int64) : Int32 := if v ≤ 1000000 then (if -1000000 ≤ v then v.toInt32 else (-1000000 : Int64).toInt32) else (1000000 : Int64).toInt32
/-- two numbers joined by a code -/
def btw (c : Nat) (a b : Int32) : Int32 :=
  if c = 3003 then bI (a = b) else if c = 3004 then bI (a < b) else if c = 3005 then bI (b < a) else if c = 3007 then a &&& b else if c = 3008 then a ||| b
  else if c = 3000 then clp (a.toInt64 + b.toInt64) else if c = 3001 then clp (a.toInt64 - b.toInt64) else clp (a.toInt64 * b.toInt64)
theorem m_btw_end {l0 a b : Int32} {v : Int64} {h : sm_H} : xe 1 186 116 [.int l0, .int a, .int b, .null, .null] [.long v] h = some ([.int (clp v)], h) := by
  simp only [b186_116, b186_125, b186_131, b186_139, b186_145, b186_146, lg_cmp_le, lg_cmp_ge, clp]
  by_cases h1 : v ≤ 1000000
  · rw [if_pos h1, if_pos h1]
    by_cases h2 : -1000000 ≤ v
    · rw [if_pos h2, if_pos h2]
    · rw [if_neg h2, if_neg h2]
  · rw [if_neg h1, if_neg h1]
theorem m_between {c : Nat} {a b : Int32} {h : sm_H} (h1 : 3000 ≤ c) (h2 : c ≤ 3008) (h6 : c ≠ 3006) : xc 186 [.int (nI c), .int a, .int b] h = some ([.int (btw c a b)], h) := by
  rw [en_186, b186_0]
  rcases (by omega : c = 3000 ∨ c = 3001 ∨ c = 3002 ∨ c = 3003 ∨ c = 3004 ∨ c = 3005 ∨ c = 3007 ∨ c = 3008) with rfl | rfl | rfl | rfl | rfl | rfl | rfl | rfl
  · rw [show (if (nI 3000).toInt < 3003 then 81 else [40, 51, 62, 81, 73, 77].getD ((nI 3000).toInt - 3003).toNat 81) = 81 from by decide +kernel, b186_81, if_pos rfl, b186_88, m_btw_end]; rfl
  · rw [show (if (nI 3001).toInt < 3003 then 81 else [40, 51, 62, 81, 73, 77].getD ((nI 3001).toInt - 3003).toNat 81) = 81 from by decide +kernel, b186_81, if_neg (by decide +kernel), b186_96, if_pos rfl, b186_103, m_btw_end]; rfl
  · rw [show (if (nI 3002).toInt < 3003 then 81 else [40, 51, 62, 81, 73, 77].getD ((nI 3002).toInt - 3003).toNat 81) = 81 from by decide +kernel, b186_81, if_neg (by decide +kernel), b186_96, if_neg (by decide +kernel), b186_111, m_btw_end]; rfl
  · rw [show (if (nI 3003).toInt < 3003 then 81 else [40, 51, 62, 81, 73, 77].getD ((nI 3003).toInt - 3003).toNat 81) = 40 from by decide +kernel]
    simp only [b186_40, b186_45, b186_49, b186_50]
    show _ = some ([Value.int (bI (a = b))], h)
    unfold bI
    by_cases q : a = b
    · rw [if_pos q, if_pos q]
    · rw [if_neg q, if_neg q]
  · rw [show (if (nI 3004).toInt < 3003 then 81 else [40, 51, 62, 81, 73, 77].getD ((nI 3004).toInt - 3003).toNat 81) = 51 from by decide +kernel]
    simp only [b186_51, b186_56, b186_60, b186_61]
    show _ = some ([Value.int (bI (a < b))], h)
    unfold bI
    by_cases q : a < b
    · rw [if_pos q, if_neg (Int32.not_le.mpr q)]
    · rw [if_neg q, if_pos (Int32.not_lt.mp q)]
  · rw [show (if (nI 3005).toInt < 3003 then 81 else [40, 51, 62, 81, 73, 77].getD ((nI 3005).toInt - 3003).toNat 81) = 62 from by decide +kernel]
    simp only [b186_62, b186_67, b186_71, b186_72]
    show _ = some ([Value.int (bI (b < a))], h)
    unfold bI
    by_cases q : b < a
    · rw [if_pos q, if_neg (Int32.not_le.mpr q)]
    · rw [if_neg q, if_pos (Int32.not_lt.mp q)]
  · rw [show (if (nI 3007).toInt < 3003 then 81 else [40, 51, 62, 81, 73, 77].getD ((nI 3007).toInt - 3003).toNat 81) = 73 from by decide +kernel, b186_73]; rfl
  · rw [show (if (nI 3008).toInt < 3003 then 81 else [40, 51, 62, 81, 73, 77].getD ((nI 3008).toInt - 3003).toNat 81) = 77 from by decide +kernel, b186_77]; rfl
/-- what may have changed -/
def eqx (S : Nat → Nat → Prop) (h h2 : sm_H) : Prop := (∀ c i, ¬ S c i → sm_gi h2 c i = sm_gi h c i) ∧ (∀ c i, ¬ S c i → sm_gl h2 c i = sm_gl h c i) ∧ sm_lw h2 = sm_lw h
theorem eqx.rf {S : Nat → Nat → Prop} {h : sm_H} : eqx S h h := ⟨fun _ _ _ => rfl, fun _ _ _ => rfl, rfl⟩
theorem eqx.tr {S : Nat → Nat → Prop} {h h1 h2 : sm_H} (a : eqx S h h1) (b : eqx S h1 h2) : eqx S h h2 := ⟨fun c i q => (b.1 c i q).trans (a.1 c i q), fun c i q => (b.2.1 c i q).trans (a.2.1 c i q), b.2.2.trans a.2.2⟩
theorem eqx.wk {S T : Nat → Nat → Prop} {h h2 : sm_H} (a : eqx S h h2) (w : ∀ c i, S c i → T c i) : eqx T h h2 := ⟨fun c i q => a.1 c i (fun z => q (w c i z)), fun c i q => a.2.1 c i (fun z => q (w c i z)), a.2.2⟩
theorem eqx.si {S : Nat → Nat → Prop} {h h1 : sm_H} {c i : Nat} {v : Int32} (a : eqx S h h1) (w : S c i) : eqx S h (sm_si h1 c i v) := a.tr ⟨fun c' i' q => by
    rw [gi_si]
    by_cases z : c' = c
    · rw [if_pos z, if_neg (fun z2 => q (by rw [z, z2]; exact w))]
    · rw [if_neg z], fun _ _ _ => rfl, rfl⟩
theorem eqx.sl {S : Nat → Nat → Prop} {h h1 : sm_H} {c i : Nat} {v : Int64} (a : eqx S h h1) (w : S c i) : eqx S h (sm_sl h1 c i v) := a.tr ⟨fun _ _ _ => rfl, fun c' i' q => by
    rw [gl_sl]
    by_cases z : c' = c
    · rw [if_pos z, if_neg (fun z2 => q (by rw [z, z2]; exact w))]
    · rw [if_neg z], rfl⟩
/-- one code on a stack (its top first) -/
def ev1 (w : Nat → Int32) (c : Nat) (st : List Int32) : List Int32 :=
  if c < 1000 then nI c :: st else if c < 3000 then w (c - 1000) :: st
  else match st with
    | [] => []
    | y :: r => if c = 3006 then (nI 1 - y) :: r else match r with
      | [] => []
      | x :: r => btw c x y :: r
/-- codes that may stand on a stack so deep -/
def dp1 (c d : Nat) : Option Nat := if c < 1007 then (if d < 60 then some (d + 1) else none) else if c = 3006 then (if 1 ≤ d then some d else none) else if 3000 ≤ c ∧ c ≤ 3008 ∧ 2 ≤ d then some (d - 1) else none
def evs (w : Nat → Int32) : List Nat → List Int32 → List Int32
  | [], st => st
  | c :: cs, st => evs w cs (ev1 w c st)
def dps : List Nat → Nat → Option Nat
  | [], d => some d
  | c :: cs, d => (dp1 c d).bind (dps cs)
/-- kinds on the stack: a truth, or a number -/
def ty1 (c : Nat) (ts : List Bool) : Option (List Bool) :=
  if c < 1007 then some (false :: ts)
  else match ts with
    | [] => none
    | y :: r => if c = 3006 then (if y = true then some (true :: r) else none) else match r with
      | [] => none
      | x :: r => if c = 3007 ∨ c = 3008 then (if x = true ∧ y = true then some (true :: r) else none) else if c = 3003 ∨ c = 3004 ∨ c = 3005 then (if x = false ∧ y = false then some (true :: r) else none) else if c = 3000 ∨ c = 3001 ∨ c = 3002 then (if x = false ∧ y = false then some (false :: r) else none) else none
def tys : List Nat → List Bool → Option (List Bool)
  | [], ts => some ts
  | c :: cs, ts => (ty1 c ts).bind (tys cs)
theorem ev1_len {w : Nat → Int32} {c d' : Nat} {st : List Int32} (h : dp1 c st.length = some d') : (ev1 w c st).length = d' ∧ d' ≤ max st.length 60 := by
  unfold dp1 at h
  unfold ev1
  by_cases h1 : c < 1007
  · rw [if_pos h1] at h
    by_cases h2 : st.length < 60
    · rw [if_pos h2] at h
      cases h
      by_cases h3 : c < 1000
      · rw [if_pos h3]; simp; omega
      · rw [if_neg h3, if_pos (by omega)]; simp; omega
    · rw [if_neg h2] at h; cases h
  · rw [if_neg h1] at h
    by_cases h3 : c = 3006
    · rw [if_pos h3] at h
      rw [if_neg (by omega), if_neg (by omega)]
      match st, h with
      | [], h => simp at h
      | y :: r, h =>
        rw [if_pos (by simp)] at h
        cases h
        dsimp only
        rw [if_pos h3]
        simp; omega
    · rw [if_neg h3] at h
      by_cases h4 : 3000 ≤ c ∧ c ≤ 3008 ∧ 2 ≤ st.length
      · rw [if_pos h4] at h
        cases h
        rw [if_neg (by omega), if_neg (by omega)]
        match st, h4 with
        | [], h4 => simp at h4
        | [y], h4 => simp at h4
        | y :: x :: r, h4 =>
          dsimp only
          rw [if_neg h3]
          simp; omega
      · rw [if_neg h4] at h; cases h
def sxL : Nat → Nat → Prop := fun c _ => c = 174 ∨ c = 175
theorem in_174 {n : Nat} (hn : n < 900) : sm_in 174 (nI n) ↔ True := iff_true_intro ((in_nI (by omega)).mpr hn)
theorem in_175 {n : Nat} (hn : n < 7) : sm_in 175 (nI n) ↔ True := iff_true_intro ((in_nI (by omega)).mpr hn)
/-- a stack of numbers in a row, its bottom first -/
def stk (f : Nat → Int32) : List Int32 → Prop
  | [] => True
  | v :: r => f r.length = v ∧ stk f r
theorem stk_cong {f g : Nat → Int32} : ∀ (st : List Int32), (∀ j, j < st.length → g j = f j) → stk f st → stk g st
  | [], _, _ => trivial
  | v :: r, e, h => ⟨(e r.length (by simp)).trans h.1, stk_cong r (fun j hj => e j (by simp; omega)) h.2⟩
theorem sub1 {n : Nat} (h : 1 ≤ n) : nI n - nI 1 = nI (n - 1) := pk_sub h
theorem add_m1 {n : Nat} (h : 1 ≤ n) : nI n + -1 = nI (n - 1) := by
  obtain ⟨m, rfl⟩ : ∃ m, n = m + 1 := ⟨n - 1, by omega⟩
  exact pk_m1 m
theorem m_reckons_loop {L F n p to : Nat} {pa b fr : Int32} {w : Nat → Int32} {cs : List Nat} {h : sm_H} (hL : L < 2) (hF : sm_gi h 170 (6 + L) = nI F) (hn : sm_gi h 170 (8 + L) = nI n) (hFn : F + n ≤ 900) (hcs : cs.length = n) (hc : ∀ k, k < n → sm_gi h 170 (376 + F + k) = nI (cs.getD k 0)) :
    ∀ (rest : List Nat) (k : Nat) (st : List Int32) (h1 : sm_H) (l9 : Value), k + rest.length = n → (∀ j, j < rest.length → cs.getD (k + j) 0 = rest.getD j 0) → dps rest st.length = some 1 → st.length ≤ 60 → stk (sm_gi h1 174) st → (∀ j, j < 7 → sm_gi h1 175 j = w j) → eqx sxL h h1 →
      ∃ h2, xe 2 187 76 [.ref 169, .int (nI L), .int (nI p), .int pa, .int b, .int fr, .int (nI to), .int (nI st.length), .int (nI k), l9] [] h1 = some ([.int ((evs w rest st).headD 0)], h2) ∧ eqx sxL h h2
  | [], k, st, h1, l9, hk, hr, hd, hs, hst, hw, E => by
    have hn1 := (E.1 170 (8 + L) (by unfold sxL; omega)).trans hn
    refine ⟨h1, ?_, E⟩
    rw [b187_76]
    simp (disch := omega) only [nI_add, in_170, if_true, nI_clamp, hn1]
    rw [if_pos (by rw [nI_leI (by omega) (by simp at hk; omega)]; simp at hk; omega), b187_228]
    simp (disch := omega) only [in_174, if_true, nI_clamp]
    simp only [dps] at hd
    match st, hd, hst with
    | [], hd, _ => cases hd
    | [v], hd, hst => have h0 := hst.1; simp at h0; rw [h0]; rfl
    | x :: y :: z, hd, _ => simp at hd
  | c :: rest, k, st, h1, l9, hk, hr, hd, hs, hst, hw, E => by
    have hn1 := (E.1 170 (8 + L) (by unfold sxL; omega)).trans hn
    have hF1 := (E.1 170 (6 + L) (by unfold sxL; omega)).trans hF
    simp only [List.length_cons] at hk
    have hcv : sm_gi h1 170 (376 + F + k) = nI c := by
      rw [E.1 170 _ (by unfold sxL; omega), hc k (by omega)]
      have := hr 0 (by simp)
      rw [Nat.add_zero] at this
      rw [this]; rfl
    simp only [dps] at hd
    obtain ⟨d1, hd1, hd2⟩ := Option.bind_eq_some_iff.mp hd
    obtain ⟨hlen, hmx⟩ := ev1_len (w := w) hd1
    have hr' : ∀ j, j < rest.length → cs.getD (k + 1 + j) 0 = rest.getD j 0 := fun j hj => by
      have := hr (j + 1) (by simp; omega)
      rw [show k + 1 + j = k + (j + 1) by omega, this]; rfl
    rw [b187_76]
    simp (disch := omega) only [nI_add, in_170, if_true, nI_clamp, hn1]
    rw [if_neg (by rw [nI_leI (by omega) (by omega)]; omega), b187_90]
    simp (disch := omega) only [nI_add, in_170, if_true, nI_clamp, hF1, hcv]
    unfold dp1 at hd1
    by_cases h1007 : c < 1007
    · rw [if_pos h1007] at hd1
      have h60 : st.length < 60 := by
        by_cases q : st.length < 60
        · exact q
        · rw [if_neg q] at hd1; cases hd1
      rw [if_neg (by rw [nI_leI (by omega) (by omega)]; omega), b187_121]
      have key : ∀ v : Int32, ev1 w c st = v :: st → ∃ h2, xe 2 187 151 [.ref 169, .int (nI L), .int (nI p), .int pa, .int b, .int fr, .int (nI to), .int (nI st.length), .int (nI k), .int (nI c)] [.int v, .int (nI st.length), .ref 174] h1 = some ([.int ((evs w (c :: rest) st).headD 0)], h2) ∧ eqx sxL h h2 := by
        intro v hv
        rw [b187_151]
        simp (disch := omega) only [in_174, if_true, nI_clamp]
        rw [b187_152, b187_222, nI_add, nI_add]
        have ih := m_reckons_loop (p := p) (to := to) (pa := pa) (b := b) (fr := fr) (w := w) hL hF hn hFn hcs hc rest (k + 1) (v :: st) (sm_si h1 174 st.length v) (.int (nI c)) (by omega) hr' (by rw [← hv, hlen]; exact hd2) (by simp; omega) ⟨gi_same, stk_cong st (fun j hj => gi_slot (by omega)) hst⟩ (fun j hj => by rw [gi_cell (by decide)]; exact hw j hj) (E.si (Or.inl rfl))
        rw [show evs w (c :: rest) st = evs w rest (v :: st) by rw [evs, hv]]
        exact ih
      by_cases h1000 : c < 1000
      · rw [if_neg (by rw [nI_leI (by omega) (by omega)]; omega), b187_135]
        exact key (nI c) (by unfold ev1; rw [if_pos h1000])
      · rw [if_pos (by rw [nI_leI (by omega) (by omega)]; omega), b187_140, pk_sub (by omega)]
        simp (disch := omega) only [in_175, if_true, nI_clamp]
        rw [hw (c - 1000) (by omega)]
        exact key (w (c - 1000)) (by unfold ev1; rw [if_neg h1000, if_pos (by omega)])
    · rw [if_neg h1007] at hd1
      by_cases h6 : c = 3006
      · rw [if_pos h6] at hd1
        have hl1 : 1 ≤ st.length := by
          by_cases q : 1 ≤ st.length
          · exact q
          · rw [if_neg q] at hd1; cases hd1
        rw [if_pos (by rw [nI_leI (by omega) (by omega)]; omega), b187_158, if_pos (by rw [h6]), b187_166, sub1 hl1]
        simp (disch := omega) only [in_174, if_true, nI_clamp]
        rw [b187_186, b187_222, nI_add]
        match st, hst, hl1, hd1, hd2, hlen, hs with
        | y :: r, hst, hl1, hd1, hd2, hlen, hs =>
          have hev : ev1 w c (y :: r) = (nI 1 - y) :: r := by unfold ev1; rw [if_neg (by omega), if_neg (by omega)]; dsimp only; rw [if_pos h6]
          have hy : sm_gi h1 174 ((y :: r).length - 1) = y := by simp; exact hst.1
          rw [hy, show ((y :: r).length - 1) = r.length by simp]
          have ih := m_reckons_loop (p := p) (to := to) (pa := pa) (b := b) (fr := fr) (w := w) hL hF hn hFn hcs hc rest (k + 1) ((nI 1 - y) :: r) (sm_si h1 174 r.length (nI 1 - y)) (.int (nI c)) (by omega) hr' (by rw [← hev, hlen]; exact hd2) (by simp at hs ⊢; omega) ⟨gi_same, stk_cong r (fun j hj => gi_slot (by omega)) hst.2⟩ (fun j hj => by rw [gi_cell (by decide)]; exact hw j hj) (E.si (Or.inl rfl))
          rw [show evs w (c :: rest) (y :: r) = evs w rest ((nI 1 - y) :: r) by rw [evs, hev]]
          exact ih
      · rw [if_neg h6] at hd1
        have h4 : 3000 ≤ c ∧ c ≤ 3008 ∧ 2 ≤ st.length := by
          by_cases q : 3000 ≤ c ∧ c ≤ 3008 ∧ 2 ≤ st.length
          · exact q
          · rw [if_neg q] at hd1; cases hd1
        rw [if_pos (by rw [nI_leI (by omega) (by omega)]; omega), b187_158, if_neg (by rw [nI_eq (by omega) (by omega)]; exact h6), b187_189, add_m1 (by omega), sub1 (by omega)]
        simp (disch := omega) only [in_174, if_true, nI_clamp, m_between, bnd, app1]
        match st, hst, h4, hd1, hd2, hlen, hs with
        | y :: x :: r, hst, h4, hd1, hd2, hlen, hs =>
          have hev : ev1 w c (y :: x :: r) = btw c x y :: r := by unfold ev1; rw [if_neg (by omega), if_neg (by omega)]; dsimp only; rw [if_neg h6]
          have hy : sm_gi h1 174 ((y :: x :: r).length - 1) = y := by simp; exact hst.1
          have hx : sm_gi h1 174 ((y :: x :: r).length - 1 - 1) = x := by simp; exact hst.2.1
          have hr60 : r.length < 900 := by simp at hs; omega
          rw [hy, hx, b187_221, show (y :: x :: r).length - 1 - 1 = r.length by simp, if_pos ((in_174 hr60).mpr trivial), b187_222, nI_add, nI_clamp (by omega)]
          have ih := m_reckons_loop (p := p) (to := to) (pa := pa) (b := b) (fr := fr) (w := w) hL hF hn hFn hcs hc rest (k + 1) (btw c x y :: r) (sm_si h1 174 r.length (btw c x y)) (.int (nI c)) (by omega) hr' (by rw [← hev, hlen]; exact hd2) (by simp at hs ⊢; omega) ⟨gi_same, stk_cong r (fun j hj => gi_slot (by omega)) hst.2.2⟩ (fun j hj => by rw [gi_cell (by decide)]; exact hw j hj) (E.si (Or.inl rfl))
          rw [show evs w (c :: rest) (y :: x :: r) = evs w rest (btw c x y :: r) by rw [evs, hev]]
          rw [show (y :: x :: r).length - 1 = (btw c x y :: r).length by simp]
          exact ih
