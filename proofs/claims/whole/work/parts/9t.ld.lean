/-! ===== lands as texts tell them ===== -/
abbrev SR (α : Type) : Type := (Nat × Nat) ⊕ (Nat × α)
def lpQ {α : Type} (St : α → Nat → Option (SR α) → Prop) : Nat → α → Nat → SR α → Prop
  | 0, _, _, _ => False
  | m + 1, s, k, r => (St s k none ∧ r = .inr (k, s)) ∨ (∃ x, St s k (some (.inl x)) ∧ r = .inl x) ∨ ∃ k' s', St s k (some (.inr (k', s'))) ∧ lpQ St m s' k' r
/-- step by step, until nothing more is to do or a fault comes -/
def lpR {α : Type} (St : α → Nat → Option (SR α) → Prop) (s : α) (k : Nat) (r : SR α) : Prop := ∃ m, lpQ St m s k r
section LPR
variable {α : Type} {St : α → Nat → Option (SR α) → Prop} {s s' : α} {k k' : Nat} {r r' : SR α}
theorem lpR_stop (h : St s k none) : lpR St s k (.inr (k, s)) := ⟨1, Or.inl ⟨h, rfl⟩⟩
theorem lpR_bad {x : Nat × Nat} (h : St s k (some (.inl x))) : lpR St s k (.inl x) := ⟨1, Or.inr (Or.inl ⟨x, h, rfl⟩)⟩
theorem lpR_go (h : St s k (some (.inr (k', s')))) (h2 : lpR St s' k' r) : lpR St s k r := by
  obtain ⟨m, h3⟩ := h2
  exact ⟨m + 1, Or.inr (Or.inr ⟨k', s', h, h3⟩)⟩
theorem lpR_fnl (H : ∀ s k o o', St s k o → St s k o' → o = o') (a : lpR St s k r) (c : lpR St s k r') : r = r' := by
  obtain ⟨m, a⟩ := a
  obtain ⟨m', c⟩ := c
  induction m generalizing s k m' with
  | zero => exact a.elim
  | succ m ih =>
    match m', c with
    | m' + 1, c =>
      rcases a with ⟨a1, rfl⟩ | ⟨x, a1, rfl⟩ | ⟨k1, s1, a1, a2⟩
      · rcases c with ⟨c1, rfl⟩ | ⟨y, c1, rfl⟩ | ⟨k2, s2, c1, c2⟩
        · rfl
        · cases H _ _ _ _ a1 c1
        · cases H _ _ _ _ a1 c1
      · rcases c with ⟨c1, rfl⟩ | ⟨y, c1, rfl⟩ | ⟨k2, s2, c1, c2⟩
        · cases H _ _ _ _ a1 c1
        · cases H _ _ _ _ a1 c1; rfl
        · cases H _ _ _ _ a1 c1
      · rcases c with ⟨c1, rfl⟩ | ⟨y, c1, rfl⟩ | ⟨k2, s2, c1, c2⟩
        · cases H _ _ _ _ a1 c1
        · cases H _ _ _ _ a1 c1
        · cases H _ _ _ _ a1 c1
          exact ih a2 m' c2
/-- an invariant of steps -/
theorem lpR_inv {P : α → Nat → Prop} (H : ∀ s k k' s', P s k → St s k (some (.inr (k', s'))) → P s' k') (h0 : P s k) {k' : Nat} {s' : α} (a : lpR St s k (.inr (k', s'))) : P s' k' := by
  obtain ⟨m, a⟩ := a
  induction m generalizing s k with
  | zero => exact a.elim
  | succ m ih =>
    rcases a with ⟨a1, e⟩ | ⟨x, a1, e⟩ | ⟨k1, s1, a1, a2⟩
    · cases e; exact h0
    · cases e
    · exact ih (H _ _ _ _ h0 a1) a2
end LPR
/-- a number between two, but one: the fault's kind -/
def numF (K V : Nat → Nat) (lo hi : Nat) (ban : Option Nat) (k : Nat) : Option Nat := if K k ≠ 2 then some 2 else if V k < lo ∨ hi < V k ∨ ban = some (V k) then some 3 else none
/-- a land that is told, how many lines; where people begin, their papers -/
abbrev DG : Type := (LG × Nat) × (Nat → Nat) × (Nat → Nat)
def dG (D : DG) : LG := D.1.1
def dL (D : DG) : Nat := D.1.2
def dA (D : DG) : Nat → Nat := D.2.1
def dP (D : DG) : Nat → Nat := D.2.2
def upF {α : Type} (f : Nat → α) (i : Nat) (v : α) : Nat → α := fun j => if j = i then v else f j
theorem upF_s {α : Type} {f : Nat → α} {i : Nat} {v : α} : upF f i v i = v := if_pos rfl
theorem upF_o {α : Type} {f : Nat → α} {i j : Nat} {v : α} (h : j ≠ i) : upF f i v j = f j := if_neg h
def addR (D : DG) (one oth lon : Nat) (s : Bool × Nat) : DG := (((((gN (dG D), gR (dG D) + 1, gP (dG D)), (upF (gOne (dG D)) (gR (dG D)) one, upF (gOth (dG D)) (gR (dG D)) oth, upF (gLon (dG D)) (gR (dG D)) lon, upF (gBri (dG D)) (gR (dG D)) s.1, upF (gFlo (dG D)) (gR (dG D)) s.2), (gBor (dG D), gGol (dG D), gBy (dG D)), (gLet (dG D), gTol (dG D))) : LG), dL D), dA D, dP D)
abbrev PM : Type := (Nat × Nat) × (Option Nat × Int32)
def addP (D : DG) (at_ : Nat) (s : PM) : DG := (((((gN (dG D), gR (dG D), gP (dG D) + 1), (gOne (dG D), gOth (dG D), gLon (dG D), gBri (dG D), gFlo (dG D)), (upF (gBor (dG D)) (gP (dG D)) s.1.1, upF (gGol (dG D)) (gP (dG D)) s.2.1, upF (gBy (dG D)) (gP (dG D)) s.2.2), (gLet (dG D), gTol (dG D))) : LG), dL D), upF (dA D) (gP (dG D)) at_, upF (dP D) (gP (dG D)) s.1.2)
def setL (D : DG) (cs : List Nat) : DG := (((((gN (dG D), gR (dG D), gP (dG D)), (gOne (dG D), gOth (dG D), gLon (dG D), gBri (dG D), gFlo (dG D)), (gBor (dG D), gGol (dG D), gBy (dG D)), (some cs, gTol (dG D))) : LG), dL D), dA D, dP D)
def setT (D : DG) (cs : List Nat) : DG := (((((gN (dG D), gR (dG D), gP (dG D)), (gOne (dG D), gOth (dG D), gLon (dG D), gBri (dG D), gFlo (dG D)), (gBor (dG D), gGol (dG D), gBy (dG D)), (gLet (dG D), some cs)) : LG), dL D), dA D, dP D)
def lnUp (D : DG) : DG := ((dG D, dL D + 1), dA D, dP D)
def D0 (N : Nat) : DG := (((((N, 0, 0), (fun _ => 0, fun _ => 0, fun _ => 0, fun _ => false, fun _ => 0), (fun _ => 0, fun _ => none, fun _ => -1), (none, none)) : LG), 1), fun _ => 0, fun _ => 0)
/-- marks of a road: c bridges are told already -/
def flS (K V : Nat → Nat) (c : Nat) (s : Bool × Nat) (k : Nat) : Option (SR (Bool × Nat)) :=
  if K k = 206 then (if s.1 = false ∧ c = 4 then some (.inl (4, k)) else some (.inr (k + 1, (true, s.2))))
  else if K k = 207 then (match numF K V 0 10 none (k + 1) with
    | some e => some (.inl (e, k + 1))
    | none => some (.inr (k + 2, (s.1, V (k + 1))))) else none
/-- marks of a person -/
def pmS (K V : Nat → Nat) (N : Nat) (s : PM) (k : Nat) : Option (SR PM) :=
  if K k = 214 then (match numF K V 0 (N - 1) none (k + 1) with
    | some e => some (.inl (e, k + 1))
    | none => some (.inr (k + 2, ((V (k + 1), s.1.2), s.2))))
  else if K k = 217 then (match numF K V 0 9 none (k + 1) with
    | some e => some (.inl (e, k + 1))
    | none => some (.inr (k + 2, ((s.1.1, V (k + 1)), s.2))))
  else if K k = 219 then (match numF K V 0 (N - 1) none (k + 1) with
    | some e => some (.inl (e, k + 1))
    | none => if K (k + 2) ≠ 209 then some (.inl (2, k + 2)) else (match numF K V 0 999 none (k + 3) with
      | some e => some (.inl (e, k + 3))
      | none => some (.inr (k + 4, (s.1, (some (V (k + 1)), nI (V (k + 3)))))))) else none
def flR (K V : Nat → Nat) (c : Nat) : Bool × Nat → Nat → SR (Bool × Nat) → Prop := lpR (fun s k o => o = flS K V c s k)
def pmR (K V : Nat → Nat) (N : Nat) : PM → Nat → SR PM → Prop := lpR (fun s k o => o = pmS K V N s k)
/-- the head of a road: what is wrong, or its ends and days -/
def rdH (K V : Nat → Nat) (D : DG) (k : Nat) : (Nat × Nat) ⊕ (Nat × Nat × Nat) :=
  if gR (dG D) = 12 then .inl (4, k) else match numF K V 0 (gN (dG D) - 1) none (k + 1) with
    | some e => .inl (e, k + 1)
    | none => if K (k + 2) ≠ 219 then .inl (2, k + 2) else match numF K V 0 (gN (dG D) - 1) (some (V (k + 1))) (k + 3) with
      | some e => .inl (e, k + 3)
      | none => if K (k + 4) ≠ 205 then .inl (2, k + 4) else match numF K V 1 20 none (k + 5) with
        | some e => .inl (e, k + 5)
        | none => .inr (V (k + 1), V (k + 3), V (k + 5))
def rdR (K V : Nat → Nat) (D : DG) (k : Nat) (r : SR DG) : Prop := match rdH K V D k with
  | .inl x => r = .inl x
  | .inr (a, b, c) => ∃ r0, flR K V (nbr (dG D) (gR (dG D))) (false, 0) (k + 6) r0 ∧ r = match r0 with
    | .inl x => .inl x
    | .inr (k', s) => .inr (k', addR D a b c s)
def psH (K V : Nat → Nat) (D : DG) (k : Nat) : (Nat × Nat) ⊕ Nat :=
  if gP (dG D) = 6 then .inl (4, k) else if K (k + 1) ≠ 208 then .inl (2, k + 1) else match numF K V 0 (gN (dG D) - 1) none (k + 2) with
    | some e => .inl (e, k + 2)
    | none => .inr (V (k + 2))
def psR (K V : Nat → Nat) (D : DG) (k : Nat) (r : SR DG) : Prop := match psH K V D k with
  | .inl x => r = .inl x
  | .inr a => ∃ r0, pmR K V (gN (dG D)) ((a, 0), (none, -1)) (k + 3) r0 ∧ r = match r0 with
    | .inl x => .inl x
    | .inr (k', s) => .inr (k', addP D a s)
def lwR (K : Nat → Nat) (A : Nat → RR → Prop) (f : List Nat → DG) (k : Nat) (r : SR DG) : Prop :=
  if K (k + 1) ≠ 58 then r = .inl (2, k + 1) else ∃ r0, A (k + 2) r0 ∧ r = match r0 with
    | .inl x => .inl x
    | .inr (k', c) => .inr (k', f c)
/-- a line without its end -/
def bdR (K V : Nat → Nat) (D : DG) (k : Nat) (r : SR DG) : Prop :=
  if K k = 201 then rdR K V D k r else if K k = 202 then psR K V D k r else if K k = 203 then lwR K (TrD K V 6) (setL D) k r
  else if K k = 204 then lwR K (SmR K V 6) (setT D) k r else r = .inl (2, k)
def semi (K : Nat → Nat) : SR DG → SR DG
  | .inl x => .inl x
  | .inr (k, D) => if K k = 59 then .inr (k + 1, lnUp D) else .inl (2, k)
def lnS (K V : Nat → Nat) (D : DG) (k : Nat) (o : Option (SR DG)) : Prop := if K k = 0 then o = none else ∃ r, bdR K V D k r ∧ o = some (semi K r)
/-- a land, or what is wrong where -/
def hdF (K V : Nat → Nat) : (Nat × Nat) ⊕ Nat := if K 0 ≠ 200 then .inl (2, 0) else match numF K V 2 6 none 1 with
  | some e => .inl (e, 1)
  | none => if K 2 ≠ 59 then .inl (2, 2) else .inr (V 1)
def ldR (K V : Nat → Nat) (r : SR DG) : Prop := match hdF K V with
  | .inl x => r = .inl x
  | .inr v => lpR (lnS K V) (D0 v) 3 r
theorem flR_fnl {K V : Nat → Nat} {c k : Nat} {s : Bool × Nat} {r r' : SR (Bool × Nat)} (a : flR K V c s k r) (b : flR K V c s k r') : r = r' := lpR_fnl (fun s k o o' h1 h2 => by rw [h1, h2]) a b
theorem pmR_fnl {K V : Nat → Nat} {N k : Nat} {s : PM} {r r' : SR PM} (a : pmR K V N s k r) (b : pmR K V N s k r') : r = r' := lpR_fnl (fun s k o o' h1 h2 => by rw [h1, h2]) a b
theorem lwR_fnl {K : Nat → Nat} {A : Nat → RR → Prop} {f : List Nat → DG} {k : Nat} {r r' : SR DG} (H : fnl A) (a : lwR K A f k r) (b : lwR K A f k r') : r = r' := by
  unfold lwR at a b
  split at a
  · rename_i z; rw [if_pos z] at b; rw [a, b]
  · rename_i z; rw [if_neg z] at b
    obtain ⟨r0, a1, a2⟩ := a
    obtain ⟨r1, b1, b2⟩ := b
    rw [H _ _ _ a1 b1] at a2
    rw [a2, b2]
theorem bdR_fnl {K V : Nat → Nat} {D : DG} {k : Nat} {r r' : SR DG} (a : bdR K V D k r) (b : bdR K V D k r') : r = r' := by
  unfold bdR at a b
  split at a
  · rename_i z; rw [if_pos z] at b
    unfold rdR at a b
    generalize rdH K V D k = o at a b
    rcases o with x | ⟨u, v, w⟩
    · dsimp only at a b; rw [a, b]
    · dsimp only at a b
      obtain ⟨r0, a1, a2⟩ := a
      obtain ⟨r1, b1, b2⟩ := b
      rw [flR_fnl a1 b1] at a2
      rw [a2, b2]
  · rename_i z; rw [if_neg z] at b
    split at a
    · rename_i z; rw [if_pos z] at b
      unfold psR at a b
      generalize psH K V D k = o at a b
      rcases o with x | u
      · dsimp only at a b; rw [a, b]
      · dsimp only at a b
        obtain ⟨r0, a1, a2⟩ := a
        obtain ⟨r1, b1, b2⟩ := b
        rw [pmR_fnl a1 b1] at a2
        rw [a2, b2]
    · rename_i z; rw [if_neg z] at b
      split at a
      · rename_i z; rw [if_pos z] at b; exact lwR_fnl (TrD_fnl 6) a b
      · rename_i z; rw [if_neg z] at b
        split at a
        · rename_i z; rw [if_pos z] at b; exact lwR_fnl (SmR_fnl 6) a b
        · rename_i z; rw [if_neg z] at b; rw [a, b]
theorem ldR_fnl {K V : Nat → Nat} {r r' : SR DG} (a : ldR K V r) (b : ldR K V r') : r = r' := by
  unfold ldR at a b
  generalize hdF K V = o at a b
  rcases o with x | v
  · dsimp only at a b; rw [a, b]
  · dsimp only at a b
    refine lpR_fnl (fun D k o o' h1 h2 => ?_) a b
    unfold lnS at h1 h2
    split at h1
    · rename_i z; rw [if_pos z] at h2; rw [h1, h2]
    · rename_i z; rw [if_neg z] at h2
      obtain ⟨r1, x1, x2⟩ := h1
      obtain ⟨r2, y1, y2⟩ := h2
      rw [bdR_fnl x1 y1] at x2
      rw [x2, y2]
