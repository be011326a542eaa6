/-! ===== walks: runs of steps, days, the order of walks, the best ===== -/
/-- where a search stands: bridges gone over, places been at, papers, place -/
abbrev XS : Type := Nat × Nat × Nat × Nat
def xM (x : XS) : Nat := x.1
def xB (x : XS) : Nat := x.2.1
def xN (x : XS) : Nat := x.2.2.1
def xF (x : XS) : Nat := x.2.2.2
def rn (s : XS → Nat → Option XS) : XS → List Nat → Option XS
  | x, [] => some x
  | x, r :: w => (s x r).bind (fun y => rn s y w)
def dys (lon : Nat → Nat) : List Nat → Nat
  | [] => 0
  | r :: w => lon r + dys lon w
def llt : List Nat → List Nat → Prop
  | _, [] => False
  | [], _ :: _ => True
  | a :: u, b :: v => a < b ∨ (a = b ∧ llt u v)
theorem llt_irr : ∀ u, ¬ llt u u
  | [], h => h
  | a :: u, h => by
    rcases h with h | ⟨-, h⟩
    · omega
    · exact llt_irr u h
theorem llt_nil : ∀ u, ¬ llt u []
  | [], h => h
  | _ :: _, h => h
theorem llt_tr : ∀ {u v w : List Nat}, llt u v → llt v w → llt u w
  | _, v, [], _, h => absurd h (llt_nil v)
  | u, [], _ :: _, h, _ => absurd h (llt_nil u)
  | [], _ :: _, _ :: _, _, _ => trivial
  | a :: u, b :: v, c :: w, h1, h2 => by
    rcases h1 with h1 | ⟨e1, h1⟩ <;> rcases h2 with h2 | ⟨e2, h2⟩
    · exact Or.inl (by omega)
    · exact Or.inl (by omega)
    · exact Or.inl (by omega)
    · exact Or.inr ⟨e1.trans e2, llt_tr h1 h2⟩
theorem llt_tot : ∀ u v : List Nat, llt u v ∨ u = v ∨ llt v u
  | [], [] => Or.inr (Or.inl rfl)
  | [], _ :: _ => Or.inl trivial
  | _ :: _, [] => Or.inr (Or.inr trivial)
  | a :: u, b :: v => by
    rcases Nat.lt_trichotomy a b with h | h | h
    · exact Or.inl (Or.inl h)
    · subst h
      rcases llt_tot u v with q | q | q
      · exact Or.inl (Or.inr ⟨rfl, q⟩)
      · exact Or.inr (Or.inl (by rw [q]))
      · exact Or.inr (Or.inr (Or.inr ⟨rfl, q⟩))
    · exact Or.inr (Or.inr (Or.inl h))
theorem llt_pre : ∀ (c u v : List Nat), llt (c ++ u) (c ++ v) ↔ llt u v
  | [], u, v => Iff.rfl
  | a :: c, u, v => by
    rw [List.cons_append, List.cons_append]
    constructor
    · intro h
      rcases h with h | ⟨-, h⟩
      · omega
      · exact (llt_pre c u v).mp h
    · intro h
      exact Or.inr ⟨rfl, (llt_pre c u v).mpr h⟩
/-- two walks part somewhere, or one begins the other -/
theorem lcp : ∀ u v : List Nat, (∃ c x y u' v', u = c ++ x :: u' ∧ v = c ++ y :: v' ∧ x ≠ y) ∨ (∃ t, v = u ++ t) ∨ ∃ t, u = v ++ t
  | [], v => Or.inr (Or.inl ⟨v, rfl⟩)
  | u, [] => Or.inr (Or.inr ⟨u, rfl⟩)
  | a :: u, b :: v => by
    by_cases h : a = b
    · subst h
      rcases lcp u v with ⟨c, x, y, u', v', e1, e2, ne⟩ | ⟨t, e⟩ | ⟨t, e⟩
      · exact Or.inl ⟨a :: c, x, y, u', v', by rw [e1]; rfl, by rw [e2]; rfl, ne⟩
      · exact Or.inr (Or.inl ⟨t, by rw [e]; rfl⟩)
      · exact Or.inr (Or.inr ⟨t, by rw [e]; rfl⟩)
    · exact Or.inl ⟨[], a, b, u, v, rfl, rfl, h⟩
section WK
variable {lon : Nat → Nat}
theorem dys_app : ∀ (u v : List Nat), dys lon (u ++ v) = dys lon u + dys lon v
  | [], v => (Nat.zero_add _).symm
  | r :: u, v => by
    show lon r + dys lon (u ++ v) = lon r + dys lon u + dys lon v
    rw [dys_app u v]
    omega
theorem dys_snoc {u : List Nat} {r : Nat} : dys lon (u ++ [r]) = dys lon u + lon r := by rw [dys_app]; rfl
theorem rn_app {s : XS → Nat → Option XS} : ∀ (u v : List Nat) (x : XS), rn s x (u ++ v) = (rn s x u).bind (fun y => rn s y v)
  | [], v, x => rfl
  | r :: u, v, x => by
    show (s x r).bind (fun y => rn s y (u ++ v)) = ((s x r).bind (fun y => rn s y u)).bind (fun y => rn s y v)
    cases s x r with
    | none => rfl
    | some y => exact rn_app u v y
theorem rn_snoc {s : XS → Nat → Option XS} {u : List Nat} {r : Nat} {x y z : XS} (h : rn s x u = some y) (h2 : s y r = some z) : rn s x (u ++ [r]) = some z := by
  rw [rn_app, h]
  show (s y r).bind _ = _
  rw [h2]
  rfl
theorem rn_snoc' {s : XS → Nat → Option XS} {u : List Nat} {r : Nat} {x z : XS} (h : rn s x (u ++ [r]) = some z) : ∃ y, rn s x u = some y ∧ s y r = some z := by
  rw [rn_app] at h
  obtain ⟨y, h1, h2⟩ := Option.bind_eq_some_iff.mp h
  refine ⟨y, h1, ?_⟩
  obtain ⟨z', h3, h4⟩ := Option.bind_eq_some_iff.mp h2
  rw [h3]
  exact h4
/-- the order of walks: by days, then by roads -/
def wlt (lon : Nat → Nat) (u v : List Nat) : Prop := dys lon u < dys lon v ∨ (dys lon u = dys lon v ∧ llt u v)
theorem wlt_irr (u : List Nat) : ¬ wlt lon u u := fun h => by
  rcases h with h | h
  · omega
  · exact llt_irr u h.2
theorem wlt_tr {u v w : List Nat} (h1 : wlt lon u v) (h2 : wlt lon v w) : wlt lon u w := by
  unfold wlt at *
  rcases h1 with h1 | ⟨e1, h1⟩ <;> rcases h2 with h2 | ⟨e2, h2⟩
  · exact Or.inl (by omega)
  · exact Or.inl (by omega)
  · exact Or.inl (by omega)
  · exact Or.inr ⟨by omega, llt_tr h1 h2⟩
theorem wlt_tot (u v : List Nat) : wlt lon u v ∨ u = v ∨ wlt lon v u := by
  unfold wlt
  rcases Nat.lt_trichotomy (dys lon u) (dys lon v) with h | h | h
  · exact Or.inl (Or.inl h)
  · rcases llt_tot u v with q | q | q
    · exact Or.inl (Or.inr ⟨h, q⟩)
    · exact Or.inr (Or.inl q)
    · exact Or.inr (Or.inr (Or.inr ⟨h.symm, q⟩))
  · exact Or.inr (Or.inr (Or.inl h))
theorem wlt_nt {u v w : List Nat} (h1 : ¬ wlt lon u v) (h2 : ¬ wlt lon v w) : ¬ wlt lon u w := fun h => by
  rcases wlt_tot (lon := lon) u v with q | q | q
  · exact h1 q
  · subst q; exact h2 h
  · exact h2 (wlt_tr q h)
theorem wlt_days {u v : List Nat} (h : ¬ wlt lon u v) : dys lon v ≤ dys lon u := by
  unfold wlt at h
  omega
/-- the best of some walks -/
def bes (lon : Nat → Nat) (P : List Nat → Prop) (w : List Nat) : Prop := P w ∧ ∀ v, P v → ¬ wlt lon v w
theorem bes_uni {P : List Nat → Prop} {u v : List Nat} (h1 : bes lon P u) (h2 : bes lon P v) : u = v := by
  rcases wlt_tot (lon := lon) u v with q | q | q
  · exact absurd q (h2.2 u h1.1)
  · exact q
  · exact absurd q (h1.2 v h2.1)
noncomputable def bst (lon : Nat → Nat) (P : List Nat → Prop) : Option (List Nat) := @dite _ (∃ w, bes lon P w) (Classical.propDecidable _) (fun h => some h.choose) (fun _ => none)
theorem bst_some {P : List Nat → Prop} {w : List Nat} (h : bes lon P w) : bst lon P = some w := by
  unfold bst
  have q : ∃ w, bes lon P w := ⟨w, h⟩
  rw [dif_pos q, bes_uni q.choose_spec h]
theorem bst_none {P : List Nat → Prop} (h : ∀ w, ¬ P w) : bst lon P = none := by
  unfold bst
  rw [dif_neg (fun q => by obtain ⟨w, hw⟩ := q; exact h w hw.1)]
theorem bst_iff {P : List Nat → Prop} {w : List Nat} : bst lon P = some w ↔ bes lon P w := by
  constructor
  · intro h
    unfold bst at h
    split at h
    next q => cases h; exact q.choose_spec
    next => cases h
  · exact bst_some
theorem bst_cong {P Q : List Nat → Prop} (h : ∀ w, P w ↔ Q w) : bst lon P = bst lon Q := by rw [show P = Q from funext fun w => propext (h w)]
end WK
/-- as many as there is room -/
theorem php : ∀ (n m : Nat) (f : Nat → Nat), (∀ i, i < m → f i < n) → (∀ i j, i < m → j < m → f i = f j → i = j) → m ≤ n
  | 0, m, f, h1, _ => by
    cases m with
    | zero => exact Nat.le_refl _
    | succ m => exact absurd (h1 0 (by omega)) (by omega)
  | n + 1, m, f, h1, h2 => by
    cases m with
    | zero => omega
    | succ m =>
      have key := php n m (fun i => if f i = n then f m else f i) (fun i hi => by
        have a := h1 i (by omega)
        have b := h1 m (by omega)
        by_cases q : f i = n
        · rw [if_pos q]
          have : f m ≠ n := fun z => by have := h2 i m (by omega) (by omega) (q.trans z.symm); omega
          omega
        · rw [if_neg q]; omega) (fun i j hi hj e => by
        by_cases q : f i = n <;> by_cases q2 : f j = n
        · exact h2 i j (by omega) (by omega) (q.trans q2.symm)
        · rw [if_pos q, if_neg q2] at e
          have := h2 m j (by omega) (by omega) e
          omega
        · rw [if_neg q, if_pos q2] at e
          have := h2 i m (by omega) (by omega) e
          omega
        · rw [if_neg q, if_neg q2] at e
          exact h2 i j (by omega) (by omega) e)
      omega
/-! the steps of a person -/
def bbit (G : LG) (r : Nat) : Nat := if gBri G r = true then 2 ^ nbr G r else 0
def stp (G : LG) (sh : Nat) (pl : Option Nat) (p : Nat) (ov : Bool) (x : XS) (r : Nat) : Option XS :=
  if r < gR G ∧ whyF G sh pl p r (xN x) (xB x) (xF x) = 0 then
    (match toF G r (xF x) with
    | none => none
    | some t => some (if ov = true then xM x ||| bbit G r else 0, xB x ||| 2 ^ t, if gBri G r = true ∧ pl ≠ some r then xN x - tollN G p (xN x) (xB x) (xF x) t else xN x, t))
  else none
def okX (G : LG) (x : XS) : Prop := xM x < 16 ∧ xB x < 2 ^ gN G ∧ xN x ≤ 9 ∧ xF x < gN G
theorem stp_r {G : LG} {sh p r : Nat} {pl : Option Nat} {ov : Bool} {x y : XS} (h : stp G sh pl p ov x r = some y) : r < gR G := by
  unfold stp at h
  split at h
  next q => exact q.1
  next => cases h
theorem stp_def {G : LG} {sh p r : Nat} {pl : Option Nat} {ov : Bool} {x y : XS} (h : stp G sh pl p ov x r = some y) : ∃ t, toF G r (xF x) = some t ∧ whyF G sh pl p r (xN x) (xB x) (xF x) = 0 ∧ y = (if ov = true then xM x ||| bbit G r else 0, xB x ||| 2 ^ t, if gBri G r = true ∧ pl ≠ some r then xN x - tollN G p (xN x) (xB x) (xF x) t else xN x, t) := by
  unfold stp at h
  split at h
  next q =>
    split at h
    next => cases h
    next t ht => exact ⟨t, ht, q.2, (Option.some.inj h).symm⟩
  next => cases h
theorem nbr_lt4 {G : LG} (hx : wfX G) {r : Nat} (hr : r < gR G) (hb : gBri G r = true) : nbr G r < 4 := by
  have := cntB_lt (gBri G) hr hb
  have h4 := hx.1
  rw [nbr_cnt] at h4 ⊢
  omega
theorem stp_ok {G : LG} {sh p r : Nat} {pl : Option Nat} {ov : Bool} {x y : XS} (hw : wfG G) (hx : wfX G) (ok : okX G x) (h : stp G sh pl p ov x r = some y) : okX G y := by
  have hr := stp_r h
  obtain ⟨t, ht, -, rfl⟩ := stp_def h
  have htN := toF_lt hw hr ht
  refine ⟨?_, Nat.or_lt_two_pow ok.2.1 (Nat.pow_lt_pow_right (by decide) htN), ?_, htN⟩
  · show (if ov = true then xM x ||| bbit G r else 0) < 16
    split
    · refine Nat.or_lt_two_pow (n := 4) ok.1 ?_
      unfold bbit
      split
      next q => exact Nat.pow_lt_pow_right (by decide) (nbr_lt4 hx hr q)
      next => decide
    · decide
  · show (if gBri G r = true ∧ pl ≠ some r then xN x - tollN G p (xN x) (xB x) (xF x) t else xN x) ≤ 9
    have := ok.2.2.1
    split <;> omega
/-- how far a search has come: it never becomes less -/
def lvX (x : XS) : Nat := pcnt (xM x) 6 + pcnt (xB x) 6 + (9 - xN x)
theorem or_up : ∀ b, b < 64 → ∀ t, t < 6 → b ||| 2 ^ t = b ∨ pcnt b 6 < pcnt (b ||| 2 ^ t) 6 := by decide +kernel
theorem stp_lv {G : LG} {sh p r : Nat} {pl : Option Nat} {ov : Bool} {x y : XS} (hw : wfG G) (hx : wfX G) (ok : okX G x) (hm : ov = true ∨ xM x = 0) (h : stp G sh pl p ov x r = some y) :
    lvX x < lvX y ∨ (xM y = xM x ∧ xB y = xB x ∧ xN y = xN x) := by
  have hr := stp_r h
  obtain ⟨t, ht, -, rfl⟩ := stp_def h
  have htN := toF_lt hw hr ht
  have hN := hw.1.2
  have p6 := pow6 hN
  have hb := or_up (xB x) (by have := ok.2.1; omega) t (by omega)
  have hn9 := ok.2.2.1
  have hM : (if ov = true then xM x ||| bbit G r else 0) = xM x ∨ pcnt (xM x) 6 < pcnt (if ov = true then xM x ||| bbit G r else 0) 6 := by
    by_cases q : ov = true
    · rw [if_pos q]
      unfold bbit
      by_cases q2 : gBri G r = true
      · rw [if_pos q2]
        have := nbr_lt4 hx hr q2
        exact or_up (xM x) (by have := ok.1; omega) _ (by omega)
      · rw [if_neg q2, Nat.or_zero]; exact Or.inl rfl
    · rw [if_neg q]
      rcases hm with z | z
      · exact absurd z q
      · exact Or.inl z.symm
  have hn : ∀ k, k ≤ xN x → k = xN x ∨ 9 - xN x < 9 - k := fun k hk => by omega
  have hn2 : (if gBri G r = true ∧ pl ≠ some r then xN x - tollN G p (xN x) (xB x) (xF x) t else xN x) ≤ xN x := by split <;> omega
  have hn3 := hn _ hn2
  show pcnt (xM x) 6 + pcnt (xB x) 6 + (9 - xN x) < pcnt (if ov = true then xM x ||| bbit G r else 0) 6 + pcnt (xB x ||| 2 ^ t) 6 + (9 - (if gBri G r = true ∧ pl ≠ some r then xN x - tollN G p (xN x) (xB x) (xF x) t else xN x)) ∨ ((if ov = true then xM x ||| bbit G r else 0) = xM x ∧ xB x ||| 2 ^ t = xB x ∧ (if gBri G r = true ∧ pl ≠ some r then xN x - tollN G p (xN x) (xB x) (xF x) t else xN x) = xN x)
  generalize (if ov = true then xM x ||| bbit G r else 0) = m' at hM ⊢
  generalize (if gBri G r = true ∧ pl ≠ some r then xN x - tollN G p (xN x) (xB x) (xF x) t else xN x) = n' at hn3 ⊢
  generalize xB x ||| 2 ^ t = b' at hb ⊢
  rcases hM with z1 | z1 <;> rcases hb with z2 | z2 <;> rcases hn3 with z3 | z3
  · exact Or.inr ⟨z1, z2, z3⟩
  all_goals (left; first | (rw [z1]) | skip)
  all_goals (first | (rw [z2]) | skip)
  all_goals (first | (rw [z3]) | skip)
  all_goals omega
section SHORT
variable {G : LG} {sh p : Nat} {pl : Option Nat} {ov : Bool}
theorem rn_ok (hw : wfG G) (hx : wfX G) : ∀ (w : List Nat) (x y : XS), okX G x → (ov = true ∨ xM x = 0) → rn (stp G sh pl p ov) x w = some y → okX G y ∧ (ov = true ∨ xM y = 0)
  | [], x, y, ok, hm, h => by cases h; exact ⟨ok, hm⟩
  | r :: w, x, y, ok, hm, h => by
    obtain ⟨z, h1, h2⟩ := Option.bind_eq_some_iff.mp h
    refine rn_ok hw hx w z y (stp_ok hw hx ok h1) ?_ h2
    by_cases q : ov = true
    · exact Or.inl q
    · obtain ⟨t, -, -, rfl⟩ := stp_def h1
      right
      show (if ov = true then _ else 0) = 0
      rw [if_neg q]
theorem rn_lv (hw : wfG G) (hx : wfX G) : ∀ (w : List Nat) (x y : XS), okX G x → (ov = true ∨ xM x = 0) → rn (stp G sh pl p ov) x w = some y → lvX x < lvX y ∨ (xM y = xM x ∧ xB y = xB x ∧ xN y = xN x)
  | [], x, y, ok, hm, h => by cases h; exact Or.inr ⟨rfl, rfl, rfl⟩
  | r :: w, x, y, ok, hm, h => by
    obtain ⟨z, h1, h2⟩ := Option.bind_eq_some_iff.mp h
    have hz := rn_ok (sh := sh) (pl := pl) (p := p) hw hx [r] x z ok hm (by show (stp G sh pl p ov x r).bind _ = _; rw [h1]; rfl)
    have a := stp_lv hw hx ok hm h1
    have b := rn_lv hw hx w z y hz.1 hz.2 h2
    rcases a with a | ⟨a1, a2, a3⟩ <;> rcases b with b | ⟨b1, b2, b3⟩
    · exact Or.inl (by omega)
    · refine Or.inl ?_
      have : lvX y = lvX z := by unfold lvX; rw [b1, b2, b3]
      omega
    · refine Or.inl ?_
      have : lvX z = lvX x := by unfold lvX; rw [a1, a2, a3]
      omega
    · exact Or.inr ⟨b1.trans a1, b2.trans a2, b3.trans a3⟩
theorem rn_lon (hw : wfG G) : ∀ (w : List Nat) (x y : XS), rn (stp G sh pl p ov) x w = some y → w.length ≤ dys (gLon G) w ∧ dys (gLon G) w ≤ 20 * w.length ∧ ∀ r, r ∈ w → r < gR G
  | [], x, y, h => ⟨Nat.le_refl _, Nat.le_refl _, fun r q => by cases q⟩
  | r :: w, x, y, h => by
    obtain ⟨z, h1, h2⟩ := Option.bind_eq_some_iff.mp h
    have hr := stp_r h1
    have hl := hw.2.2.2.1 r hr
    obtain ⟨a, b, c⟩ := rn_lon hw w z y h2
    refine ⟨by show w.length + 1 ≤ gLon G r + dys (gLon G) w; omega, by show gLon G r + dys (gLon G) w ≤ 20 * (w.length + 1); omega, fun q hq => ?_⟩
    rcases List.mem_cons.mp hq with z | z
    · subst z; exact hr
    · exact c q z
/-- a walk of no more days than any other to its end is short -/
theorem rn_short (hw : wfG G) (hx : wfX G) {w : List Nat} {x y : XS} (ok : okX G x) (hm : ov = true ∨ xM x = 0) (h : rn (stp G sh pl p ov) x w = some y) (hmin : ∀ v, rn (stp G sh pl p ov) x v = some y → dys (gLon G) w ≤ dys (gLon G) v) : w.length < 120 ∧ (ov = false → w.length < 96) := by
  have hex : ∀ i, ∃ z, rn (stp G sh pl p ov) x (w.take i) = some z ∧ rn (stp G sh pl p ov) z (w.drop i) = some y := fun i => by
    have h' := h
    rw [← List.take_append_drop i w, rn_app] at h'
    exact Option.bind_eq_some_iff.mp h'
  have hN := hw.1.2
  let f : Nat → Nat := fun i => lvX (hex i).choose * 6 + xF (hex i).choose
  have hinj : ∀ i j, i < j → j < w.length + 1 → f i ≠ f j := by
    intro i j hij hj e
    obtain ⟨a1, a2⟩ := (hex i).choose_spec
    obtain ⟨b1, b2⟩ := (hex j).choose_spec
    have e' : lvX (hex i).choose * 6 + xF (hex i).choose = lvX (hex j).choose * 6 + xF (hex j).choose := e
    generalize (hex i).choose = zi at a1 a2 e'
    generalize (hex j).choose = zj at b1 b2 e'
    have oki := rn_ok hw hx _ _ _ ok hm a1
    have okj := rn_ok hw hx _ _ _ ok hm b1
    have hmid : rn (stp G sh pl p ov) zi ((w.take j).drop i) = some zj := by
      have : rn (stp G sh pl p ov) x (w.take i ++ (w.take j).drop i) = some zj := by
        rw [show w.take i = (w.take j).take i by rw [List.take_take]; congr 1; omega, List.take_append_drop]
        exact b1
      rw [rn_app, a1] at this
      exact this
    have hf1 := oki.1.2.2.2
    have hf2 := okj.1.2.2.2
    have hlv := rn_lv hw hx _ _ _ oki.1 oki.2 hmid
    have : zi = zj := by
      rcases hlv with q | ⟨q1, q2, q3⟩
      · omega
      · have hl : lvX zj = lvX zi := by unfold lvX; rw [q1, q2, q3]
        have q4 : xF zj = xF zi := by omega
        obtain ⟨m1, m2, m3, m4⟩ := zi
        obtain ⟨k1, k2, k3, k4⟩ := zj
        have q1' : k1 = m1 := q1
        have q2' : k2 = m2 := q2
        have q3' : k3 = m3 := q3
        have q4' : k4 = m4 := q4
        rw [q1', q2', q3', q4']
    subst this
    have hcut : rn (stp G sh pl p ov) x (w.take i ++ w.drop j) = some y := by rw [rn_app, a1]; exact b2
    have hd := hmin _ hcut
    have hw1 : dys (gLon G) w = dys (gLon G) (w.take i) + dys (gLon G) ((w.take j).drop i) + dys (gLon G) (w.drop j) := by
      rw [← dys_app, show w.take i = (w.take j).take i by rw [List.take_take]; congr 1; omega, List.take_append_drop, ← dys_app, List.take_append_drop]
    rw [dys_app] at hd
    have := (rn_lon hw _ _ _ hmid).1
    have hl : ((w.take j).drop i).length = j - i := by
      rw [List.length_drop, List.length_take]; omega
    omega
  have hle : ∀ i, f i < 120 ∧ (ov = false → f i < 96) := fun i => by
    obtain ⟨a1, -⟩ := (hex i).choose_spec
    show lvX (hex i).choose * 6 + xF (hex i).choose < 120 ∧ (ov = false → lvX (hex i).choose * 6 + xF (hex i).choose < 96)
    generalize (hex i).choose = zi at a1
    obtain ⟨oki, hmi⟩ := rn_ok hw hx _ _ _ ok hm a1
    have c1 : pcnt (xM zi) 6 ≤ 4 := by
      have : ∀ m, m < 16 → pcnt m 6 ≤ 4 := by decide +kernel
      exact this _ oki.1
    have c2 := pcnt_le (xB zi) 6
    have c3 := oki.2.2.2
    refine ⟨by unfold lvX; omega, fun q => ?_⟩
    have : xM zi = 0 := by
      rcases hmi with z | z
      · rw [q] at z; cases z
      · exact z
    have c4 : pcnt (xM zi) 6 = 0 := by rw [this]; rfl
    unfold lvX; omega
  have hij : ∀ i j, i < w.length + 1 → j < w.length + 1 → f i = f j → i = j := fun i j hi hj e => by
    rcases Nat.lt_trichotomy i j with q | q | q
    · exact absurd e (hinj i j q hj)
    · exact q
    · exact absurd e.symm (hinj j i q hi)
  refine ⟨php 120 (w.length + 1) f (fun i hi => (hle i).1) hij, fun q => php 96 (w.length + 1) f (fun i hi => (hle i).2 q) hij⟩
/-- of walks to a state there is one of fewest days -/
theorem rn_min : ∀ (n : Nat) (w : List Nat) (x y : XS), dys (gLon G) w ≤ n → rn (stp G sh pl p ov) x w = some y → ∃ v, rn (stp G sh pl p ov) x v = some y ∧ dys (gLon G) v ≤ dys (gLon G) w ∧ ∀ u, rn (stp G sh pl p ov) x u = some y → dys (gLon G) v ≤ dys (gLon G) u
  | n, w, x, y, hn, h => by
    by_cases q : ∀ u, rn (stp G sh pl p ov) x u = some y → dys (gLon G) w ≤ dys (gLon G) u
    · exact ⟨w, h, Nat.le_refl _, q⟩
    · obtain ⟨u, hu⟩ := Classical.not_forall.mp q
      obtain ⟨h1, h2⟩ := Classical.not_imp.mp hu
      match n, hn with
      | 0, hn => omega
      | n + 1, hn =>
        obtain ⟨v, a, b, c⟩ := rn_min n u x y (by omega) h1
        exact ⟨v, a, by omega, c⟩
theorem rn_few (hw : wfG G) (hx : wfX G) {w : List Nat} {x y : XS} (ok : okX G x) (hm : ov = true ∨ xM x = 0) (h : rn (stp G sh pl p ov) x w = some y) : ∃ v, rn (stp G sh pl p ov) x v = some y ∧ dys (gLon G) v ≤ dys (gLon G) w ∧ dys (gLon G) v ≤ 2400 := by
  obtain ⟨v, a, b, c⟩ := rn_min _ w x y (Nat.le_refl _) h
  have := (rn_short hw hx ok hm a c).1
  have := (rn_lon hw _ _ _ a).2.1
  exact ⟨v, a, b, by omega⟩
end SHORT
