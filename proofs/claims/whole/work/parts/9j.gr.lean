/-! ===== the grammar of laws, over a row of tokens ===== -/
abbrev RR : Type := (Nat × Nat) ⊕ (Nat × List Nat)
def rpre (c0 : List Nat) : RR → RR
  | .inl x => .inl x
  | .inr (k, c) => .inr (k, c0 ++ c)
def rpost (c0 : List Nat) : RR → RR
  | .inl x => .inl x
  | .inr (k, c) => .inr (k, c ++ c0)
theorem rpre_rpre {a c : List Nat} {r : RR} : rpre a (rpre c r) = rpre (a ++ c) r := by
  rcases r with x | ⟨k, d⟩
  · rfl
  · show (Sum.inr (k, a ++ (c ++ d)) : RR) = Sum.inr (k, a ++ c ++ d)
    rw [List.append_assoc]
/-- items, joined to the left by signs: p is what waits for the first item; in m steps -/
def LsF (K : Nat → Nat) (A : Nat → RR → Prop) (op : Nat → Option Nat) : Nat → List Nat → Nat → RR → Prop
  | 0, _, _, _ => False
  | m + 1, p, k, r => (∃ x, A k (.inl x) ∧ r = .inl x) ∨ (∃ k' c, A k (.inr (k', c)) ∧ op (K k') = none ∧ r = .inr (k', c ++ p)) ∨ ∃ k' c o r', A k (.inr (k', c)) ∧ op (K k') = some o ∧ LsF K A op m [o] (k' + 1) r' ∧ r = rpre (c ++ p) r'
def LsR (K : Nat → Nat) (A : Nat → RR → Prop) (op : Nat → Option Nat) (p : List Nat) (k : Nat) (r : RR) : Prop := ∃ m, LsF K A op m p k r
section LSR
variable {K : Nat → Nat} {A : Nat → RR → Prop} {op : Nat → Option Nat} {p : List Nat} {k : Nat} {r : RR}
theorem LsR_bad {x : Nat × Nat} (h : A k (.inl x)) : LsR K A op p k (.inl x) := ⟨1, Or.inl ⟨x, h, rfl⟩⟩
theorem LsR_fin {k' : Nat} {c : List Nat} (h : A k (.inr (k', c))) (h1 : op (K k') = none) : LsR K A op p k (.inr (k', c ++ p)) := ⟨1, Or.inr (Or.inl ⟨k', c, h, h1, rfl⟩)⟩
theorem LsR_go {k' o : Nat} {c : List Nat} (h : A k (.inr (k', c))) (h1 : op (K k') = some o) (h2 : LsR K A op [o] (k' + 1) r) : LsR K A op p k (rpre (c ++ p) r) := by
  obtain ⟨m, h3⟩ := h2
  exact ⟨m + 1, Or.inr (Or.inr ⟨k', c, o, r, h, h1, h3, rfl⟩)⟩
theorem LsR_inv (h : LsR K A op p k r) : (∃ x, A k (.inl x) ∧ r = .inl x) ∨ (∃ k' c, A k (.inr (k', c)) ∧ op (K k') = none ∧ r = .inr (k', c ++ p)) ∨ ∃ k' c o r', A k (.inr (k', c)) ∧ op (K k') = some o ∧ LsR K A op [o] (k' + 1) r' ∧ r = rpre (c ++ p) r' := by
  obtain ⟨m, h⟩ := h
  match m, h with
  | m + 1, h =>
    rcases h with h | h | ⟨k', c, o, r', a, b, d, e⟩
    · exact Or.inl h
    · exact Or.inr (Or.inl h)
    · exact Or.inr (Or.inr ⟨k', c, o, r', a, b, ⟨m, d⟩, e⟩)
theorem LsR_ind {Q : List Nat → Nat → RR → Prop} (h1 : ∀ p k x, A k (.inl x) → Q p k (.inl x)) (h2 : ∀ p k k' c, A k (.inr (k', c)) → op (K k') = none → Q p k (.inr (k', c ++ p))) (h3 : ∀ p k k' c o r, A k (.inr (k', c)) → op (K k') = some o → LsR K A op [o] (k' + 1) r → Q [o] (k' + 1) r → Q p k (rpre (c ++ p) r)) : ∀ p k r, LsR K A op p k r → Q p k r := by
  have key : ∀ m p k r, LsF K A op m p k r → Q p k r := fun m => by
    induction m with
    | zero => exact fun _ _ _ z => z.elim
    | succ m ih =>
      intro p k r h
      rcases h with ⟨x, a, rfl⟩ | ⟨k', c, a, b, rfl⟩ | ⟨k', c, o, r', a, b, d, rfl⟩
      · exact h1 _ _ _ a
      · exact h2 _ _ _ _ a b
      · exact h3 _ _ _ _ _ _ a b ⟨m, d⟩ (ih _ _ _ d)
  exact fun p k r ⟨m, h⟩ => key m p k r h
end LSR
def fnl (A : Nat → RR → Prop) : Prop := ∀ k r r', A k r → A k r' → r = r'
theorem LsR_fnl {K : Nat → Nat} {A : Nat → RR → Prop} {op : Nat → Option Nat} (H : fnl A) {p : List Nat} {k : Nat} {r r' : RR} (a : LsR K A op p k r) : LsR K A op p k r' → r = r' := by
  refine LsR_ind (Q := fun p k r => ∀ r', LsR K A op p k r' → r = r') ?_ ?_ ?_ p k r a r'
  · intro p k x a1 r' c
    rcases LsR_inv c with ⟨y, c1, rfl⟩ | ⟨k', c, c1, c2, rfl⟩ | ⟨k', c, o, r2, c1, c2, c3, rfl⟩
    · exact H _ _ _ a1 c1
    · cases H _ _ _ a1 c1
    · cases H _ _ _ a1 c1
  · intro p k k1 d a1 a2 r' c
    rcases LsR_inv c with ⟨y, c1, rfl⟩ | ⟨k', c, c1, c2, rfl⟩ | ⟨k', c, o, r2, c1, c2, c3, rfl⟩
    · cases H _ _ _ a1 c1
    · cases H _ _ _ a1 c1; rfl
    · cases H _ _ _ a1 c1
      rw [a2] at c2; cases c2
  · intro p k k1 d o r a1 a2 a3 ih r' c
    rcases LsR_inv c with ⟨y, c1, rfl⟩ | ⟨k', c, c1, c2, rfl⟩ | ⟨k', c, o, r2, c1, c2, c3, rfl⟩
    · cases H _ _ _ a1 c1
    · cases H _ _ _ a1 c1
      rw [a2] at c2; cases c2
    · cases H _ _ _ a1 c1
      rw [a2] at c2
      cases c2
      rw [ih _ c3]
/-- the class's loop: items joined by two kinds of signs at once -/
def NsR (K : Nat → Nat) (A : Nat → RR → Prop) (op1 op2 : Nat → Option Nat) (p1 p2 : List Nat) (k : Nat) (r : RR) : Prop := (∃ e k', LsR K A op1 p1 k (.inl (e, k')) ∧ r = .inl (e, k')) ∨ (∃ k' c, LsR K A op1 p1 k (.inr (k', c)) ∧ op2 (K k') = none ∧ r = .inr (k', c ++ p2)) ∨ ∃ k' c o r', LsR K A op1 p1 k (.inr (k', c)) ∧ op2 (K k') = some o ∧ LsR K (LsR K A op1 []) op2 [o] (k' + 1) r' ∧ r = rpre (c ++ p2) r'
section NSR
variable {K : Nat → Nat} {A : Nat → RR → Prop} {op1 op2 : Nat → Option Nat} {p1 p2 : List Nat} {k : Nat} {r : RR}
theorem NsR_Ls (h : NsR K A op1 op2 [] p2 k r) : LsR K (LsR K A op1 []) op2 p2 k r := by
  rcases h with ⟨e, k', a, rfl⟩ | ⟨k', c, a, b, rfl⟩ | ⟨k', c, o, r', a, b, d, rfl⟩
  · exact LsR_bad a
  · exact LsR_fin a b
  · exact LsR_go a b d
theorem NsR_bad {e k' : Nat} (h : A k (.inl (e, k'))) : NsR K A op1 op2 p1 p2 k (.inl (e, k')) := Or.inl ⟨e, k', LsR_bad h, rfl⟩
theorem NsR_fin {k' : Nat} {c : List Nat} (h : A k (.inr (k', c))) (h1 : op1 (K k') = none) (h2 : op2 (K k') = none) : NsR K A op1 op2 p1 p2 k (.inr (k', c ++ p1 ++ p2)) := Or.inr (Or.inl ⟨k', c ++ p1, LsR_fin h h1, h2, rfl⟩)
theorem NsR_op2 {k' o : Nat} {c : List Nat} (h : A k (.inr (k', c))) (h1 : op1 (K k') = none) (h2 : op2 (K k') = some o) (hr : LsR K (LsR K A op1 []) op2 [o] (k' + 1) r) : NsR K A op1 op2 p1 p2 k (rpre (c ++ p1 ++ p2) r) := Or.inr (Or.inr ⟨k', c ++ p1, o, r, LsR_fin h h1, h2, hr, rfl⟩)
theorem NsR_op1 {k' o : Nat} {c : List Nat} (h : A k (.inr (k', c))) (h1 : op1 (K k') = some o) (hr : NsR K A op1 op2 [o] p2 (k' + 1) r) : NsR K A op1 op2 p1 p2 k (rpre (c ++ p1) r) := by
  rcases hr with ⟨e, k2, a, rfl⟩ | ⟨k2, c2, a, b, rfl⟩ | ⟨k2, c2, o2, r', a, b, d, rfl⟩
  · exact Or.inl ⟨e, k2, LsR_go (r := .inl (e, k2)) h h1 a, rfl⟩
  · refine Or.inr (Or.inl ⟨k2, c ++ p1 ++ c2, LsR_go (r := .inr (k2, c2)) h h1 a, b, ?_⟩)
    show (Sum.inr (k2, (c ++ p1 ++ (c2 ++ p2))) : RR) = (Sum.inr (k2, (c ++ p1 ++ c2 ++ p2)) : RR)
    rw [List.append_assoc (c ++ p1)]
  · refine Or.inr (Or.inr ⟨k2, c ++ p1 ++ c2, o2, r', LsR_go (r := .inr (k2, c2)) h h1 a, b, d, ?_⟩)
    rw [rpre_rpre, List.append_assoc (c ++ p1)]
end NSR
def opT (c : Nat) : Option Nat := if c = 42 then some 3002 else none
def opS (c : Nat) : Option Nat := if c = 43 then some 3000 else if c = 45 then some 3001 else none
def opA (c : Nat) : Option Nat := if c = 211 then some 3007 else none
def opO (c : Nat) : Option Nat := if c = 210 then some 3008 else none
def opC (c : Nat) : Option Nat := if c = 61 then some 3003 else if c = 60 then some 3004 else if c = 62 then some 3005 else none
/-- what is closed by a sign -/
def clB (K : Nat → Nat) (cl : Nat) : RR → RR
  | .inl x => .inl x
  | .inr (k, c) => if K k = cl then .inr (k + 1, c) else .inl (2, k)
def AtR (K V : Nat → Nat) (d : Nat) (S : Nat → RR → Prop) (k : Nat) (r : RR) : Prop :=
  if K k = 2 then r = .inr (k + 1, [V k]) else if 213 ≤ K k ∧ K k ≤ 219 then r = .inr (k + 1, [1000 + (K k - 213)])
  else if K k = 40 then (if d = 0 then r = .inl (4, k) else ∃ r0, S (k + 1) r0 ∧ r = clB K 41 r0) else r = .inl (2, k)
def SmR (K V : Nat → Nat) : Nat → Nat → RR → Prop
  | 0 => LsR K (LsR K (AtR K V 0 (fun _ _ => False)) opT []) opS []
  | d + 1 => LsR K (LsR K (AtR K V (d + 1) (SmR K V d)) opT []) opS []
/-- the atoms at a depth -/
def AtD (K V : Nat → Nat) : Nat → Nat → RR → Prop
  | 0 => AtR K V 0 (fun _ _ => False)
  | d + 1 => AtR K V (d + 1) (SmR K V d)
theorem SmR_At {K V : Nat → Nat} : ∀ d, SmR K V d = LsR K (LsR K (AtD K V d) opT []) opS []
  | 0 => rfl
  | _ + 1 => rfl
def cmR (K : Nat → Nat) (S : Nat → RR → Prop) (k : Nat) (r : RR) : Prop := ∃ r0, S k r0 ∧ match r0 with
  | .inl x => r = .inl x
  | .inr (k', c) => match opC (K k') with
    | none => r = .inl (2, k')
    | some o => ∃ r1, S (k' + 1) r1 ∧ r = rpost [o] (rpre c r1)
def UnR (K : Nat → Nat) (d : Nat) (S U T : Nat → RR → Prop) (k : Nat) (r : RR) : Prop :=
  if K k = 212 then (if d = 0 then r = .inl (4, k) else ∃ r0, U (k + 1) r0 ∧ r = rpost [3006] r0)
  else if K k = 91 then (if d = 0 then r = .inl (4, k) else ∃ r0, T (k + 1) r0 ∧ r = clB K 93 r0) else cmR K S k r
def UnD (K V : Nat → Nat) : Nat → Nat → RR → Prop
  | 0 => UnR K 0 (SmR K V 0) (fun _ _ => False) (fun _ _ => False)
  | d + 1 => UnR K (d + 1) (SmR K V (d + 1)) (UnD K V d) (LsR K (LsR K (UnD K V d) opA []) opO [])
def TrD (K V : Nat → Nat) (d : Nat) : Nat → RR → Prop := LsR K (LsR K (UnD K V d) opA []) opO []
theorem UnD_s {K V : Nat → Nat} {d : Nat} : UnD K V (d + 1) = UnR K (d + 1) (SmR K V (d + 1)) (UnD K V d) (TrD K V d) := rfl
theorem AtR_fnl {K V : Nat → Nat} {d : Nat} {S : Nat → RR → Prop} (H : fnl S) : fnl (AtR K V d S) := fun k r r' a c => by
  unfold AtR at a c
  split at a
  · rename_i z; rw [if_pos z] at c; rw [a, c]
  · rename_i z; rw [if_neg z] at c
    split at a
    · rename_i z; rw [if_pos z] at c; rw [a, c]
    · rename_i z; rw [if_neg z] at c
      split at a
      · rename_i z; rw [if_pos z] at c
        split at a
        · rename_i z; rw [if_pos z] at c; rw [a, c]
        · rename_i z; rw [if_neg z] at c
          obtain ⟨r0, a1, a2⟩ := a
          obtain ⟨r1, c1, c2⟩ := c
          rw [H _ _ _ a1 c1] at a2
          rw [a2, c2]
      · rename_i z; rw [if_neg z] at c; rw [a, c]
theorem Ls_fnl {K : Nat → Nat} {A : Nat → RR → Prop} {op : Nat → Option Nat} {p : List Nat} (H : fnl A) : fnl (LsR K A op p) := fun _ _ _ a c => LsR_fnl H a c
theorem SmR_fnl {K V : Nat → Nat} : ∀ d, fnl (SmR K V d)
  | 0 => Ls_fnl (Ls_fnl (AtR_fnl (fun _ _ _ a _ => a.elim)))
  | d + 1 => Ls_fnl (Ls_fnl (AtR_fnl (SmR_fnl d)))
theorem cmR_fnl {K : Nat → Nat} {S : Nat → RR → Prop} (H : fnl S) : fnl (cmR K S) := fun k r r' a c => by
  obtain ⟨r0, a1, a2⟩ := a
  obtain ⟨r1, c1, c2⟩ := c
  rw [H _ _ _ a1 c1] at a2
  rcases r1 with ⟨e, k'⟩ | ⟨k', cs⟩
  · dsimp only at a2 c2; rw [a2, c2]
  · dsimp only at a2 c2
    cases hq : opC (K k') with
    | none => rw [hq] at a2 c2; dsimp only at a2 c2; rw [a2, c2]
    | some o =>
      rw [hq] at a2 c2; dsimp only at a2 c2
      obtain ⟨r2, a3, a4⟩ := a2
      obtain ⟨r3, c3, c4⟩ := c2
      rw [H _ _ _ a3 c3] at a4
      rw [a4, c4]
theorem UnR_fnl {K : Nat → Nat} {d : Nat} {S U T : Nat → RR → Prop} (hS : fnl S) (hU : fnl U) (hT : fnl T) : fnl (UnR K d S U T) := fun k r r' a c => by
  unfold UnR at a c
  split at a
  · rename_i z; rw [if_pos z] at c
    split at a
    · rename_i z; rw [if_pos z] at c; rw [a, c]
    · rename_i z; rw [if_neg z] at c
      obtain ⟨r0, a1, a2⟩ := a
      obtain ⟨r1, c1, c2⟩ := c
      rw [hU _ _ _ a1 c1] at a2
      rw [a2, c2]
  · rename_i z; rw [if_neg z] at c
    split at a
    · rename_i z; rw [if_pos z] at c
      split at a
      · rename_i z; rw [if_pos z] at c; rw [a, c]
      · rename_i z; rw [if_neg z] at c
        obtain ⟨r0, a1, a2⟩ := a
        obtain ⟨r1, c1, c2⟩ := c
        rw [hT _ _ _ a1 c1] at a2
        rw [a2, c2]
    · rename_i z; rw [if_neg z] at c
      exact cmR_fnl hS _ _ _ a c
theorem UnD_fnl {K V : Nat → Nat} : ∀ d, fnl (UnD K V d)
  | 0 => UnR_fnl (SmR_fnl 0) (fun _ _ _ a _ => a.elim) (fun _ _ _ a _ => a.elim)
  | d + 1 => UnR_fnl (SmR_fnl (d + 1)) (UnD_fnl d) (Ls_fnl (Ls_fnl (UnD_fnl d)))
theorem TrD_fnl {K V : Nat → Nat} (d : Nat) : fnl (TrD K V d) := Ls_fnl (Ls_fnl (UnD_fnl d))
/-- tokens are eaten; codes are no more than tokens; both stay within the row -/
def grw (nt : Nat) (A : Nat → RR → Prop) : Prop := (∀ k k' c, A k (.inr (k', c)) → k < k' ∧ k + c.length ≤ k' ∧ (k ≤ nt → k' ≤ nt)) ∧ ∀ k e k', A k (.inl (e, k')) → k ≤ nt → k' ≤ nt
theorem LsR_grw {K V : Nat → Nat} {nt : Nat} {A : Nat → RR → Prop} {op : Nat → Option Nat} (T : TKo K V nt) (H : grw nt A) (h0 : op 0 = none) : ∀ p k r, LsR K A op p k r → match r with
    | .inr (k', c) => k < k' ∧ k + c.length ≤ k' + p.length ∧ (k ≤ nt → k' ≤ nt)
    | .inl (_, k') => k ≤ nt → k' ≤ nt := by
  refine LsR_ind (fun p k x a1 => H.2 _ _ _ a1) (fun p k k' c a1 a2 => ?_) (fun p k k' c o r a1 a2 a3 ih => ?_)
  · have := H.1 _ _ _ a1
    refine ⟨this.1, ?_, this.2.2⟩
    rw [List.length_append]; omega
  · have := H.1 _ _ _ a1
    have hk : K k' ≠ 0 := fun z => by rw [z, h0] at a2; cases a2
    rcases r with ⟨e, k2⟩ | ⟨k2, c2⟩
    · exact fun z => ih (T.s (this.2.2 z) hk)
    · obtain ⟨i1, i2, i3⟩ := ih
      refine ⟨by omega, ?_, fun z => i3 (T.s (this.2.2 z) hk)⟩
      rw [List.length_append, List.length_append]
      rw [List.length_singleton] at i2
      omega
theorem Ls_grw {K V : Nat → Nat} {nt : Nat} {A : Nat → RR → Prop} {op : Nat → Option Nat} (T : TKo K V nt) (H : grw nt A) (h0 : op 0 = none) : grw nt (LsR K A op []) := ⟨fun k k' c a => by
    have := LsR_grw T H h0 _ _ _ a
    exact this, fun k e k' a => LsR_grw T H h0 _ _ _ a⟩
theorem clB_grw {K V : Nat → Nat} {nt cl k : Nat} {A : Nat → RR → Prop} (T : TKo K V nt) (H : grw nt A) (hk : K k ≠ 0) (hcl : cl ≠ 0) {r0 : RR} (a : A (k + 1) r0) : match clB K cl r0 with
    | .inr (k', c) => k < k' ∧ k + c.length ≤ k' ∧ (k ≤ nt → k' ≤ nt)
    | .inl (_, k') => k ≤ nt → k' ≤ nt := by
  rcases r0 with ⟨e, k'⟩ | ⟨k', c⟩
  · exact fun z => H.2 _ _ _ a (T.s z hk)
  · have := H.1 _ _ _ a
    unfold clB
    by_cases z : K k' = cl
    · dsimp only
      rw [if_pos z]
      exact ⟨by omega, by omega, fun y => T.s (this.2.2 (T.s y hk)) (by rw [z]; exact hcl)⟩
    · dsimp only
      rw [if_neg z]
      exact fun y => this.2.2 (T.s y hk)
theorem AtR_grw {K V : Nat → Nat} {nt d : Nat} {S : Nat → RR → Prop} (T : TKo K V nt) (H : grw nt S) : grw nt (AtR K V d S) := by
  have key : ∀ k r, AtR K V d S k r → match r with
    | .inr (k', c) => k < k' ∧ k + c.length ≤ k' ∧ (k ≤ nt → k' ≤ nt)
    | .inl (_, k') => k ≤ nt → k' ≤ nt := fun k r a => by
    unfold AtR at a
    split at a
    · rename_i z
      rw [a]
      exact ⟨by omega, by rw [List.length_singleton]; omega, fun y => T.s y (by omega)⟩
    · split at a
      · rename_i z
        rw [a]
        exact ⟨by omega, by rw [List.length_singleton]; omega, fun y => T.s y (by omega)⟩
      · split at a
        · rename_i z
          split at a
          · rw [a]; exact id
          · obtain ⟨r0, a1, a2⟩ := a
            rw [a2]
            exact clB_grw T H (by omega) (by decide) a1
        · rw [a]; exact id
  exact ⟨fun k k' c a => key k _ a, fun k e k' a => key k _ a⟩
theorem no_grw {nt : Nat} : grw nt (fun _ _ => False) := ⟨fun _ _ _ a => a.elim, fun _ _ _ a => a.elim⟩
theorem AtD_grw {K V : Nat → Nat} {nt : Nat} (T : TKo K V nt) : ∀ d, grw nt (SmR K V d) ∧ grw nt (AtD K V d)
  | 0 => ⟨Ls_grw T (Ls_grw T (AtR_grw T no_grw) rfl) rfl, AtR_grw T no_grw⟩
  | d + 1 => ⟨Ls_grw T (Ls_grw T (AtR_grw T (AtD_grw T d).1) rfl) rfl, AtR_grw T (AtD_grw T d).1⟩
theorem opC_0 {c o : Nat} (h : opC c = some o) : c ≠ 0 := fun z => by rw [z] at h; cases h
theorem cmR_grw {K V : Nat → Nat} {nt : Nat} {S : Nat → RR → Prop} (T : TKo K V nt) (H : grw nt S) : ∀ k r, cmR K S k r → match r with
    | .inr (k', c) => k < k' ∧ k + c.length ≤ k' ∧ (k ≤ nt → k' ≤ nt)
    | .inl (_, k') => k ≤ nt → k' ≤ nt := fun k r a => by
  obtain ⟨r0, a1, a2⟩ := a
  rcases r0 with ⟨e, k'⟩ | ⟨k', c⟩
  · dsimp only at a2; rw [a2]; exact H.2 _ _ _ a1
  · have h1 := H.1 _ _ _ a1
    dsimp only at a2
    cases hq : opC (K k') with
    | none => rw [hq] at a2; dsimp only at a2; rw [a2]; exact h1.2.2
    | some o =>
      rw [hq] at a2; dsimp only at a2
      obtain ⟨r1, a3, a4⟩ := a2
      rw [a4]
      rcases r1 with ⟨e, k2⟩ | ⟨k2, c2⟩
      · exact fun z => H.2 _ _ _ a3 (T.s (h1.2.2 z) (opC_0 hq))
      · have h2 := H.1 _ _ _ a3
        refine ⟨by omega, ?_, fun z => h2.2.2 (T.s (h1.2.2 z) (opC_0 hq))⟩
        rw [List.length_append, List.length_append, List.length_singleton]
        omega
theorem UnR_grw {K V : Nat → Nat} {nt d : Nat} {S U Tr : Nat → RR → Prop} (T : TKo K V nt) (hS : grw nt S) (hU : grw nt U) (hT : grw nt Tr) : grw nt (UnR K d S U Tr) := by
  have key : ∀ k r, UnR K d S U Tr k r → match r with
    | .inr (k', c) => k < k' ∧ k + c.length ≤ k' ∧ (k ≤ nt → k' ≤ nt)
    | .inl (_, k') => k ≤ nt → k' ≤ nt := fun k r a => by
    unfold UnR at a
    split at a
    · rename_i z
      split at a
      · rw [a]; exact id
      · obtain ⟨r0, a1, a2⟩ := a
        rw [a2]
        rcases r0 with ⟨e, k'⟩ | ⟨k', c⟩
        · exact fun y => hU.2 _ _ _ a1 (T.s y (by omega))
        · have := hU.1 _ _ _ a1
          refine ⟨by omega, ?_, fun y => this.2.2 (T.s y (by omega))⟩
          rw [List.length_append, List.length_singleton]
          omega
    · split at a
      · rename_i z
        split at a
        · rw [a]; exact id
        · obtain ⟨r0, a1, a2⟩ := a
          rw [a2]
          exact clB_grw T hT (by omega) (by decide) a1
      · exact cmR_grw T hS k r a
  exact ⟨fun k k' c a => key k _ a, fun k e k' a => key k _ a⟩
theorem UnD_grw {K V : Nat → Nat} {nt : Nat} (T : TKo K V nt) : ∀ d, grw nt (UnD K V d)
  | 0 => UnR_grw T (AtD_grw T 0).1 no_grw no_grw
  | d + 1 => UnR_grw T (AtD_grw T (d + 1)).1 (UnD_grw T d) (Ls_grw T (Ls_grw T (UnD_grw T d) rfl) rfl)
theorem TrD_grw {K V : Nat → Nat} {nt : Nat} (T : TKo K V nt) (d : Nat) : grw nt (TrD K V d) := Ls_grw T (Ls_grw T (UnD_grw T d) rfl) rfl
/-! codes: how deep a stack they need, of what kind they are -/
theorem dps_app : ∀ (a c : List Nat) (d : Nat), dps (a ++ c) d = (dps a d).bind (dps c)
  | [], c, d => rfl
  | x :: a, c, d => by
    show (dp1 x d).bind (dps (a ++ c)) = ((dp1 x d).bind (dps a)).bind (dps c)
    cases dp1 x d with
    | none => rfl
    | some e => exact dps_app a c e
theorem tys_app : ∀ (a c : List Nat) (ts : List Bool), tys (a ++ c) ts = (tys a ts).bind (tys c)
  | [], c, ts => rfl
  | x :: a, c, ts => by
    show (ty1 x ts).bind (tys (a ++ c)) = ((ty1 x ts).bind (tys a)).bind (tys c)
    cases ty1 x ts with
    | none => rfl
    | some e => exact tys_app a c e
def tyd (D : Nat) (t : Bool) (A : Nat → RR → Prop) : Prop := ∀ k k' c, A k (.inr (k', c)) → (∀ d, d ≤ D → dps c d = some (d + 1)) ∧ ∀ ts, tys c ts = some (t :: ts)
/-- a sign that joins two of a kind -/
def opk (t : Bool) (o : Nat) : Prop := (∀ d, dp1 o (d + 2) = some (d + 1)) ∧ ∀ ts, ty1 o (t :: t :: ts) = some (t :: ts)
theorem opk_n {o : Nat} (h : o = 3000 ∨ o = 3001 ∨ o = 3002) : opk false o := by
  refine ⟨fun d => ?_, fun ts => ?_⟩
  · unfold dp1; rw [if_neg (by omega), if_neg (by omega), if_pos (by omega)]; rfl
  · rcases h with rfl | rfl | rfl <;> rfl
theorem opk_t {o : Nat} (h : o = 3007 ∨ o = 3008) : opk true o := by
  refine ⟨fun d => ?_, fun ts => ?_⟩
  · unfold dp1; rw [if_neg (by omega), if_neg (by omega), if_pos (by omega)]; rfl
  · rcases h with rfl | rfl <;> rfl
theorem LsR_tyd {K : Nat → Nat} {A : Nat → RR → Prop} {op : Nat → Option Nat} {D : Nat} {t : Bool} (H : tyd (D + 1) t A) (ho : ∀ c o, op c = some o → opk t o) : ∀ p k r, LsR K A op p k r → match r with
    | .inr (_, c) => (p = [] → (∀ d, d ≤ D → dps c d = some (d + 1)) ∧ ∀ ts, tys c ts = some (t :: ts)) ∧ ∀ o, opk t o → p = [o] → (∀ d, d ≤ D → dps c (d + 1) = some (d + 1)) ∧ ∀ ts, tys c (t :: ts) = some (t :: ts)
    | .inl _ => True := by
  refine LsR_ind (fun p k x a1 => trivial) (fun p k k' c a1 a2 => ?_) (fun p k k' c o r a1 a2 a3 ih => ?_)
  · have := H _ _ _ a1
    refine ⟨fun z => ⟨fun d hd => ?_, fun ts => ?_⟩, fun o hk z => ⟨fun d hd => ?_, fun ts => ?_⟩⟩
    · rw [z, List.append_nil]; exact this.1 d (by omega)
    · rw [z, List.append_nil]; exact this.2 ts
    · rw [z, dps_app, this.1 (d + 1) (by omega)]
      show (dp1 o (d + 2)).bind _ = _
      rw [hk.1]; rfl
    · rw [z, tys_app, this.2]
      show (ty1 o (t :: t :: ts)).bind _ = _
      rw [hk.2]; rfl
  · have := H _ _ _ a1
    rcases r with ⟨e, k2⟩ | ⟨k2, c2⟩
    · trivial
    · obtain ⟨i1, i2⟩ := ih.2 o (ho _ _ a2) rfl
      refine ⟨fun z => ⟨fun d hd => ?_, fun ts => ?_⟩, fun o' hk z => ⟨fun d hd => ?_, fun ts => ?_⟩⟩
      · rw [z, List.append_nil, dps_app, this.1 d (by omega)]; exact i1 d hd
      · rw [z, List.append_nil, tys_app, this.2]; exact i2 ts
      · rw [z, dps_app, dps_app, this.1 (d + 1) (by omega)]
        show ((dp1 o' (d + 2)).bind _).bind _ = _
        rw [hk.1]
        exact i1 d hd
      · rw [z, tys_app, tys_app, this.2]
        show ((ty1 o' (t :: t :: ts)).bind _).bind _ = _
        rw [hk.2]
        exact i2 ts
theorem Ls_tyd {K : Nat → Nat} {A : Nat → RR → Prop} {op : Nat → Option Nat} {D : Nat} {t : Bool} (H : tyd (D + 1) t A) (ho : ∀ c o, op c = some o → opk t o) : tyd D t (LsR K A op []) := fun k k' c a => (LsR_tyd H ho _ _ _ a).1 rfl
theorem opT_k : ∀ c o, opT c = some o → opk false o := fun c o h => by unfold opT at h; split at h <;> cases h; exact opk_n (by omega)
theorem opS_k : ∀ c o, opS c = some o → opk false o := fun c o h => by
  unfold opS at h
  split at h
  · cases h; exact opk_n (by omega)
  · split at h <;> cases h; exact opk_n (by omega)
theorem opA_k : ∀ c o, opA c = some o → opk true o := fun c o h => by unfold opA at h; split at h <;> cases h; exact opk_t (by omega)
theorem opO_k : ∀ c o, opO c = some o → opk true o := fun c o h => by unfold opO at h; split at h <;> cases h; exact opk_t (by omega)
theorem at_tyd {x : Nat} (h : x < 1007) : (∀ d, d ≤ 59 → dps [x] d = some (d + 1)) ∧ ∀ ts, tys [x] ts = some (false :: ts) := by
  refine ⟨fun d hd => ?_, fun ts => ?_⟩
  · show (dp1 x d).bind _ = _
    unfold dp1
    rw [if_pos h, if_pos (by omega)]; rfl
  · show (ty1 x ts).bind _ = _
    unfold ty1
    rw [if_pos h]; rfl
theorem clB_tyd {K : Nat → Nat} {cl D : Nat} {t : Bool} {A : Nat → RR → Prop} (H : tyd D t A) {k k' : Nat} {c : List Nat} {r0 : RR} (a : A k r0) (e : (Sum.inr (k', c) : RR) = clB K cl r0) : (∀ d, d ≤ D → dps c d = some (d + 1)) ∧ ∀ ts, tys c ts = some (t :: ts) := by
  rcases r0 with ⟨e', k2⟩ | ⟨k2, c2⟩
  · cases e
  · unfold clB at e
    dsimp only at e
    split at e
    · cases e; exact H _ _ _ a
    · cases e
theorem AtR_tyd {K V : Nat → Nat} {nt d D : Nat} {S : Nat → RR → Prop} (T : TKo K V nt) (hD : D ≤ 59) (H : tyd D false S) : tyd D false (AtR K V d S) := fun k k' c a => by
  unfold AtR at a
  split at a
  · rename_i z
    cases a
    have := at_tyd (x := V k) (by have := T.2.2.2.2 k z; omega)
    exact ⟨fun d hd => this.1 d (by omega), this.2⟩
  · split at a
    · cases a
      have := at_tyd (x := 1000 + (K k - 213)) (by omega)
      exact ⟨fun d hd => this.1 d (by omega), this.2⟩
    · split at a
      · split at a
        · cases a
        · obtain ⟨r0, a1, a2⟩ := a
          exact clB_tyd H a1 a2
      · cases a
theorem no_tyd {D : Nat} {t : Bool} : tyd D t (fun _ _ => False) := fun _ _ _ a => a.elim
theorem SmR_tyd {K V : Nat → Nat} {nt : Nat} (T : TKo K V nt) : ∀ d, d ≤ 6 → tyd (57 - 2 * d) false (SmR K V d)
  | 0, _ => Ls_tyd (Ls_tyd (AtR_tyd T (Nat.le_refl _) no_tyd) opT_k) opS_k
  | d + 1, h => by
    have ih := SmR_tyd T d (by omega)
    refine Ls_tyd (Ls_tyd (AtR_tyd T (by omega) ?_) opT_k) opS_k
    rw [show 57 - 2 * (d + 1) + 1 + 1 = 57 - 2 * d by omega]
    exact ih
theorem opC_k {c o : Nat} (h : opC c = some o) : (∀ d, dp1 o (d + 2) = some (d + 1)) ∧ ∀ ts, ty1 o (false :: false :: ts) = some (true :: ts) := by
  have : o = 3003 ∨ o = 3004 ∨ o = 3005 := by
    unfold opC at h
    split at h
    · cases h; omega
    · split at h
      · cases h; omega
      · split at h <;> cases h; omega
  refine ⟨fun d => ?_, fun ts => ?_⟩
  · unfold dp1; rw [if_neg (by omega), if_neg (by omega), if_pos (by omega)]; rfl
  · rcases this with rfl | rfl | rfl <;> rfl
theorem UnR_tyd {K V : Nat → Nat} {d D : Nat} {S U Tr : Nat → RR → Prop} (hS : tyd (D + 1) false S) (hU : tyd D true U) (hT : tyd D true Tr) : tyd D true (UnR K d S U Tr) := fun k k' c a => by
  unfold UnR at a
  split at a
  · split at a
    · cases a
    · obtain ⟨r0, a1, a2⟩ := a
      rcases r0 with ⟨e, k2⟩ | ⟨k2, c2⟩
      · cases a2
      · cases a2
        have := hU _ _ _ a1
        refine ⟨fun d hd => ?_, fun ts => ?_⟩
        · rw [dps_app, this.1 d hd]
          show (dp1 3006 (d + 1)).bind _ = _
          unfold dp1
          rw [if_neg (by omega), if_pos rfl, if_pos (by omega)]; rfl
        · rw [tys_app, this.2]; rfl
  · split at a
    · split at a
      · cases a
      · obtain ⟨r0, a1, a2⟩ := a
        exact clB_tyd hT a1 a2
    · obtain ⟨r0, a1, a2⟩ := a
      rcases r0 with ⟨e, k2⟩ | ⟨k2, c2⟩
      · dsimp only at a2; cases a2
      · dsimp only at a2
        have h1 := hS _ _ _ a1
        cases hq : opC (K k2) with
        | none => rw [hq] at a2; dsimp only at a2; cases a2
        | some o =>
          rw [hq] at a2; dsimp only at a2
          obtain ⟨r1, a3, a4⟩ := a2
          rcases r1 with ⟨e, k3⟩ | ⟨k3, c3⟩
          · cases a4
          · cases a4
            have h2 := hS _ _ _ a3
            have h3 := opC_k hq
            refine ⟨fun d hd => ?_, fun ts => ?_⟩
            · rw [dps_app, dps_app, h1.1 d (by omega)]
              show ((dps c3 (d + 1)).bind _) = _
              rw [h2.1 (d + 1) (by omega)]
              show (dp1 o (d + 2)).bind _ = _
              rw [h3.1]; rfl
            · rw [tys_app, tys_app, h1.2]
              show ((tys c3 _).bind _) = _
              rw [h2.2]
              show (ty1 o (false :: false :: ts)).bind _ = _
              rw [h3.2]; rfl
theorem UnD_tyd {K V : Nat → Nat} {nt : Nat} (T : TKo K V nt) : ∀ d, d ≤ 6 → tyd (56 - 2 * d) true (UnD K V d)
  | 0, _ => UnR_tyd (V := V) (SmR_tyd T 0 (by omega)) no_tyd no_tyd
  | d + 1, h => by
    have ih := UnD_tyd T d (by omega)
    have hs := SmR_tyd T (d + 1) h
    refine UnR_tyd (V := V) (by rw [show 56 - 2 * (d + 1) + 1 = 57 - 2 * (d + 1) by omega]; exact hs) (fun k k' c a => ⟨fun d' hd' => (ih k k' c a).1 d' (by omega), (ih k k' c a).2⟩) ?_
    refine Ls_tyd (Ls_tyd ?_ opA_k) opO_k
    rw [show 56 - 2 * (d + 1) + 1 + 1 = 56 - 2 * d by omega]
    exact ih
theorem TrD_law {K V : Nat → Nat} {nt k k' : Nat} {c : List Nat} (T : TKo K V nt) (h : TrD K V 6 k (.inr (k', c))) : dps c 0 = some 1 ∧ tys c [] = some [true] := by
  have := Ls_tyd (K := K) (op := opO) (D := 42) (Ls_tyd (op := opA) (D := 43) (UnD_tyd T 6 (by omega)) opA_k) opO_k k k' c h
  exact ⟨this.1 0 (by omega), this.2 []⟩
theorem SmR_law {K V : Nat → Nat} {nt k k' : Nat} {c : List Nat} (T : TKo K V nt) (h : SmR K V 6 k (.inr (k', c))) : dps c 0 = some 1 ∧ tys c [] = some [false] := by
  have := SmR_tyd T 6 (by omega) k k' c h
  exact ⟨this.1 0 (by omega), this.2 []⟩
