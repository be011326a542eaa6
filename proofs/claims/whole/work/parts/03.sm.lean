/-! ===== THE SMALL MACHINE: instructions as functions on (locals, stack, heap); a program; its runs, without fuel ===== -/
/-- ints by cell and slot; longs by cell and slot; the one reference that changes -/
abbrev sm_H : Type := (Nat → Nat → Int32) × (Nat → Nat → Int64) × Nat
abbrev sm_F : Type := List Value × List Value × sm_H
abbrev sm_R : Type := List Value × sm_H
abbrev sm_O : Type := (Nat × sm_F) ⊕ (sm_R ⊕ (Nat × List Value × Nat × sm_F))
abbrev sm_I : Type := sm_F → Option sm_O
def sm_up2 {α : Type} (f : Nat → Nat → α) (c i : Nat) (v : α) : Nat → Nat → α := fun a j => if a = c then (if j = i then v else f a j) else f a j
def sm_gi (h : sm_H) (c i : Nat) : Int32 := h.1 c i
def sm_gl (h : sm_H) (c i : Nat) : Int64 := h.2.1 c i
def sm_si (h : sm_H) (c i : Nat) (v : Int32) : sm_H := (sm_up2 h.1 c i v, h.2.1, h.2.2)
def sm_sl (h : sm_H) (c i : Nat) (v : Int64) : sm_H := (h.1, sm_up2 h.2.1 c i v, h.2.2)
def sm_sw (h : sm_H) (w : Nat) : sm_H := (h.1, h.2.1, w)
/-- a row copied: n numbers of cell a from sp on, to cell b from dp on -/
def sm_cp (h : sm_H) (a sp b dp n : Nat) : sm_H := (fun c j => if c = b then va_cpy (h.1 a) (h.1 b) sp dp n j else h.1 c j, h.2.1, h.2.2)
def sm_isL : Value → Bool
  | .long _ => true
  | _ => false
/-- a local is stored: of one slot, of two -/
def sm_s1 : List Value → Nat → Value → Option (List Value)
  | [], _, _ => none
  | _ :: r, 0, v => some (v :: r)
  | a :: r, 1, v => if sm_isL a then none else match r with
    | [] => none
    | _ :: r => some (a :: v :: r)
  | a :: r, n + 2, v => (sm_s1 r (n + 1) v).map (a :: ·)
def sm_s2 : List Value → Nat → Value → Option (List Value)
  | [], _, _ => none
  | _ :: r, 0, v => match r with
    | [] => none
    | _ :: r => some (v :: .null :: r)
  | a :: r, 1, v => if sm_isL a then none else match r with
    | [] => none
    | _ :: r => match r with
      | [] => none
      | _ :: r => some (a :: v :: .null :: r)
  | a :: r, n + 2, v => (sm_s2 r (n + 1) v).map (a :: ·)
/-- the locals with which a method of n locals begins -/
def sm_lo (n : Nat) : List Value → List Value
  | [] => List.replicate n .null
  | v :: vs => if sm_isL v then v :: .null :: sm_lo (n - 2) vs else v :: sm_lo (n - 1) vs
/-- arguments that a method of n locals takes: ints, longs, references -/
def sm_fit : Nat → List Value → Bool
  | _, [] => true
  | n, .int _ :: r => decide (1 ≤ n) && sm_fit (n - 1) r
  | n, .ref _ :: r => decide (1 ≤ n) && sm_fit (n - 1) r
  | n, .long _ :: r => decide (2 ≤ n) && sm_fit (n - 2) r
  | _, _ => false
abbrev sm_in (a : Nat) (i : Int32) : Prop := 0 ≤ i ∧ i.toNatClampNeg < sm_ln a
abbrev sm_nx (n : Nat) (ls st : List Value) (h : sm_H) : Option sm_O := some (.inl (n, ls, st, h))
def sm_push (v : Value) (n : Nat) : sm_I := fun f => sm_nx n f.1 (v :: f.2.1) f.2.2
def sm_ldi (i n : Nat) : sm_I := fun f => match f.1[i]? with
  | some (.int x) => sm_nx n f.1 (.int x :: f.2.1) f.2.2
  | _ => none
def sm_ldl (i n : Nat) : sm_I := fun f => match f.1[i]? with
  | some (.long x) => sm_nx n f.1 (.long x :: f.2.1) f.2.2
  | _ => none
def sm_lda (i n : Nat) : sm_I := fun f => match f.1[i]? with
  | some (.ref x) => sm_nx n f.1 (.ref x :: f.2.1) f.2.2
  | _ => none
def sm_sti (i n : Nat) : sm_I := fun f => match f.2.1 with
  | .int x :: st => (sm_s1 f.1 i (.int x)).map fun ls => .inl (n, ls, st, f.2.2)
  | _ => none
def sm_stl (i n : Nat) : sm_I := fun f => match f.2.1 with
  | .long x :: st => (sm_s2 f.1 i (.long x)).map fun ls => .inl (n, ls, st, f.2.2)
  | _ => none
def sm_sta (i n : Nat) : sm_I := fun f => match f.2.1 with
  | .ref x :: st => (sm_s1 f.1 i (.ref x)).map fun ls => .inl (n, ls, st, f.2.2)
  | _ => none
def sm_inc (i : Nat) (k : Int32) (n : Nat) : sm_I := fun f => match f.1[i]? with
  | some (.int x) => (sm_s1 f.1 i (.int (x + k))).map fun ls => .inl (n, ls, f.2.1, f.2.2)
  | _ => none
def sm_bin (g : Int32 → Int32 → Int32) (n : Nat) : sm_I := fun f => match f.2.1 with
  | .int y :: .int x :: st => sm_nx n f.1 (.int (g x y) :: st) f.2.2
  | _ => none
def sm_lbin (g : Int64 → Int64 → Int64) (n : Nat) : sm_I := fun f => match f.2.1 with
  | .long y :: .long x :: st => sm_nx n f.1 (.long (g x y) :: st) f.2.2
  | _ => none
def sm_lus (x : Int64) (y : Int32) : Int64 := (x.toUInt64 >>> (y.toInt64.toUInt64 &&& Int64.toUInt64 63)).toInt64
def sm_lsh (g : Int64 → Int32 → Int64) (n : Nat) : sm_I := fun f => match f.2.1 with
  | .int y :: .long x :: st => sm_nx n f.1 (.long (g x y) :: st) f.2.2
  | _ => none
def sm_idiv (n : Nat) : sm_I := fun f => match f.2.1 with
  | .int y :: .int x :: st => if y = 0 then none else sm_nx n f.1 (.int (x / y) :: st) f.2.2
  | _ => none
def sm_irem (n : Nat) : sm_I := fun f => match f.2.1 with
  | .int y :: .int x :: st => if y = 0 then none else sm_nx n f.1 (.int (x - x / y * y) :: st) f.2.2
  | _ => none
def sm_ldiv (n : Nat) : sm_I := fun f => match f.2.1 with
  | .long y :: .long x :: st => if y = 0 then none else sm_nx n f.1 (.long (x / y) :: st) f.2.2
  | _ => none
def sm_lrem (n : Nat) : sm_I := fun f => match f.2.1 with
  | .long y :: .long x :: st => if y = 0 then none else sm_nx n f.1 (.long (x - x / y * y) :: st) f.2.2
  | _ => none
def sm_ii (g : Int32 → Int32) (n : Nat) : sm_I := fun f => match f.2.1 with
  | .int x :: st => sm_nx n f.1 (.int (g x) :: st) f.2.2
  | _ => none
def sm_i2l (n : Nat) : sm_I := fun f => match f.2.1 with
  | .int x :: st => sm_nx n f.1 (.long x.toInt64 :: st) f.2.2
  | _ => none
def sm_l2i (n : Nat) : sm_I := fun f => match f.2.1 with
  | .long x :: st => sm_nx n f.1 (.int x.toInt32 :: st) f.2.2
  | _ => none
def sm_lcmp (n : Nat) : sm_I := fun f => match f.2.1 with
  | .long y :: .long x :: st => sm_nx n f.1 (.int (lg_cmp x y) :: st) f.2.2
  | _ => none
def sm_dup (n : Nat) : sm_I := fun f => match f.2.1 with
  | .int x :: st => sm_nx n f.1 (.int x :: .int x :: st) f.2.2
  | .ref x :: st => sm_nx n f.1 (.ref x :: .ref x :: st) f.2.2
  | _ => none
def sm_dup2 (n : Nat) : sm_I := fun f => match f.2.1 with
  | .int x :: .ref y :: st => sm_nx n f.1 (.int x :: .ref y :: .int x :: .ref y :: st) f.2.2
  | .long x :: st => sm_nx n f.1 (.long x :: .long x :: st) f.2.2
  | _ => none
def sm_pop (n : Nat) : sm_I := fun f => match f.2.1 with
  | .int _ :: st => sm_nx n f.1 st f.2.2
  | .ref _ :: st => sm_nx n f.1 st f.2.2
  | _ => none
def sm_if (g : Int32 → Bool) (t n : Nat) : sm_I := fun f => match f.2.1 with
  | .int x :: st => sm_nx (if g x = true then t else n) f.1 st f.2.2
  | _ => none
def sm_ic (g : Int32 → Int32 → Bool) (t n : Nat) : sm_I := fun f => match f.2.1 with
  | .int y :: .int x :: st => sm_nx (if g x y = true then t else n) f.1 st f.2.2
  | _ => none
def sm_go (t : Nat) : sm_I := fun f => sm_nx t f.1 f.2.1 f.2.2
/-- fields of an object of class ci: an int, a long, a reference that stays, the one that changes -/
def sm_gfi (ci k n : Nat) : sm_I := fun f => match f.2.1 with
  | .ref a :: st => if sm_kd a = 10 + ci then sm_nx n f.1 (.int (sm_gi f.2.2 a k) :: st) f.2.2 else none
  | _ => none
def sm_gfl (ci k n : Nat) : sm_I := fun f => match f.2.1 with
  | .ref a :: st => if sm_kd a = 10 + ci then sm_nx n f.1 (.long (sm_gl f.2.2 a k) :: st) f.2.2 else none
  | _ => none
def sm_gfr (ci k n : Nat) : sm_I := fun f => match f.2.1 with
  | .ref a :: st => if sm_kd a = 10 + ci then sm_nx n f.1 (.ref (sm_rf a k) :: st) f.2.2 else none
  | _ => none
def sm_gfw (ci : Nat) (_ : Nat) (n : Nat) : sm_I := fun f => match f.2.1 with
  | .ref a :: st => if sm_kd a = 10 + ci then sm_nx n f.1 (.ref f.2.2.2.2 :: st) f.2.2 else none
  | _ => none
def sm_pfi (ci k n : Nat) : sm_I := fun f => match f.2.1 with
  | .int x :: .ref a :: st => if sm_kd a = 10 + ci then sm_nx n f.1 st (sm_si f.2.2 a k x) else none
  | _ => none
def sm_pfl (ci k n : Nat) : sm_I := fun f => match f.2.1 with
  | .long x :: .ref a :: st => if sm_kd a = 10 + ci then sm_nx n f.1 st (sm_sl f.2.2 a k x) else none
  | _ => none
def sm_pfw (ci : Nat) (_ : Nat) (n : Nat) : sm_I := fun f => match f.2.1 with
  | .ref x :: .ref a :: st => if sm_kd a = 10 + ci ∧ sm_kd x = 10 + sm_lawC then sm_nx n f.1 st (sm_sw f.2.2 x) else none
  | _ => none
/-- arrays: of kind t (0 int, 1 byte, 2 boolean), of long, of references -/
def sm_al (t n : Nat) : sm_I := fun f => match f.2.1 with
  | .int i :: .ref a :: st => if sm_kd a = t ∧ sm_in a i then sm_nx n f.1 (.int (sm_gi f.2.2 a i.toNatClampNeg) :: st) f.2.2 else none
  | _ => none
def sm_all (n : Nat) : sm_I := fun f => match f.2.1 with
  | .int i :: .ref a :: st => if sm_kd a = 3 ∧ sm_in a i then sm_nx n f.1 (.long (sm_gl f.2.2 a i.toNatClampNeg) :: st) f.2.2 else none
  | _ => none
def sm_ala (n : Nat) : sm_I := fun f => match f.2.1 with
  | .int i :: .ref a :: st => if (4 ≤ sm_kd a ∧ sm_kd a < 7) ∧ sm_in a i then sm_nx n f.1 (.ref (sm_rf a i.toNatClampNeg) :: st) f.2.2 else none
  | _ => none
def sm_as (t : Nat) (g : Int32 → Int32) (n : Nat) : sm_I := fun f => match f.2.1 with
  | .int x :: .int i :: .ref a :: st => if sm_kd a = t ∧ sm_in a i then sm_nx n f.1 st (sm_si f.2.2 a i.toNatClampNeg (g x)) else none
  | _ => none
def sm_asl (n : Nat) : sm_I := fun f => match f.2.1 with
  | .long x :: .int i :: .ref a :: st => if sm_kd a = 3 ∧ sm_in a i then sm_nx n f.1 st (sm_sl f.2.2 a i.toNatClampNeg x) else none
  | _ => none
def sm_len (n : Nat) : sm_I := fun f => match f.2.1 with
  | .ref a :: st => if sm_kd a < 7 then sm_nx n f.1 (.int (Int32.ofNat (sm_ln a)) :: st) f.2.2 else none
  | _ => none
/-- words that a piece of the stack may take -/
def sm_wd : List Value → Nat
  | [] => 0
  | .int _ :: r => 1 + sm_wd r
  | .ref _ :: r => 1 + sm_wd r
  | _ :: r => 2 + sm_wd r
def sm_sv (y na n : Nat) : sm_I := fun f => if na ≤ f.2.1.length ∧ sm_wd (f.2.1.drop na) ≤ 8 then some (.inr (.inr (y, (f.2.1.take na).reverse, n, f.1, f.2.1.drop na, f.2.2))) else none
def sm_iv (y ci na n : Nat) : sm_I := fun f => match f.2.1[na]? with
  | some (.ref a) => if sm_kd a = 10 + ci ∧ sm_wd (f.2.1.drop (na + 1)) ≤ 8 then some (.inr (.inr (y, (f.2.1.take (na + 1)).reverse, n, f.1, f.2.1.drop (na + 1), f.2.2))) else none
  | _ => none
def sm_r0 : sm_I := fun f => match f.2.1 with
  | [] => some (.inr (.inl ([], f.2.2)))
  | _ => none
def sm_ri : sm_I := fun f => match f.2.1 with
  | [.int x] => some (.inr (.inl ([.int x], f.2.2)))
  | _ => none
def sm_rz : sm_I := fun f => match f.2.1 with
  | [.int x] => if x = 0 ∨ x = 1 then some (.inr (.inl ([.int x], f.2.2))) else none
  | _ => none
def sm_rl : sm_I := fun f => match f.2.1 with
  | [.long x] => some (.inr (.inl ([.long x], f.2.2)))
  | _ => none
def sm_ra : sm_I := fun f => match f.2.1 with
  | [.ref x] => some (.inr (.inl ([.ref x], f.2.2)))
  | _ => none
/-- tableswitch: lo, the places from lo on, the default's place -/
def sm_ts (lo : Int) (tg : List Nat) (df : Nat) : sm_I := fun f => match f.2.1 with
  | .int x :: st => sm_nx (if x.toInt < lo then df else tg.getD (x.toInt - lo).toNat df) f.1 st f.2.2
  | _ => none
/-- System.arraycopy of int rows -/
def sm_acp (n : Nat) : sm_I := fun f => match f.2.1 with
  | .int k :: .int dp :: .ref b :: .int sp :: .ref a :: st => if (sm_kd a = 0 ∧ sm_kd b = 0 ∧ st.length ≤ 4) ∧ 0 ≤ sp ∧ 0 ≤ dp ∧ 0 ≤ k ∧ sp.toNatClampNeg + k.toNatClampNeg ≤ sm_ln a ∧ dp.toNatClampNeg + k.toNatClampNeg ≤ sm_ln b then sm_nx n f.1 st (sm_cp f.2.2 a sp.toNatClampNeg b dp.toNatClampNeg k.toNatClampNeg) else none
  | _ => none
/-- String constants: cell 1000 + k; length, charAt, indexOf -/
def sm_slen (n : Nat) : sm_I := fun f => match f.2.1 with
  | .ref a :: st => if 1000 ≤ a ∧ a < 1000 + sm_str.length ∧ st.length ≤ 4 then sm_nx n f.1 (.int (nI (sm_str.getD (a - 1000) []).length) :: st) f.2.2 else none
  | _ => none
def sm_schr (n : Nat) : sm_I := fun f => match f.2.1 with
  | .int i :: .ref a :: st => if (1000 ≤ a ∧ a < 1000 + sm_str.length ∧ st.length ≤ 4) ∧ 0 ≤ i ∧ i.toNatClampNeg < (sm_str.getD (a - 1000) []).length then sm_nx n f.1 (.int (nI ((sm_str.getD (a - 1000) []).getD i.toNatClampNeg 0)) :: st) f.2.2 else none
  | _ => none
def sm_fidx (c : Nat) : List Nat → Nat → Int32
  | [], _ => -1
  | a :: r, k => if a = c then nI k else sm_fidx c r (k + 1)
def sm_sidx (n : Nat) : sm_I := fun f => match f.2.1 with
  | .int x :: .ref a :: st => if (1000 ≤ a ∧ a < 1000 + sm_str.length ∧ st.length ≤ 4) ∧ 0 ≤ x ∧ x.toNatClampNeg < 256 then sm_nx n f.1 (.int (sm_fidx x.toNatClampNeg (sm_str.getD (a - 1000) []) 0) :: st) f.2.2 else none
  | _ => none
section SMEX
variable (P : Nat → Nat → Option sm_I) (rk : Nat → List Value → Nat) (mL : Nat → Nat)
/-- a run, with fuel; d: the rank of the method's own call, above that of each call in it -/
def sm_ex : Nat → Nat → Nat → Nat → sm_F → Option sm_R
  | 0, _, _, _, _ => none
  | n + 1, d, y, k, f => match P y k with
    | none => none
    | some i => match i f with
      | none => none
      | some (.inl q) => sm_ex n d y q.1 q.2
      | some (.inr (.inl r)) => if r.1.length ≤ 1 then some r else none
      | some (.inr (.inr (y', as, k', f'))) => if rk y' as < d ∧ sm_fit (mL y') as = true then
          match sm_ex n (rk y' as) y' 0 (sm_lo (mL y') as, [], f'.2.2) with
          | none => none
          | some r => sm_ex n d y k' (f'.1, r.1 ++ f'.2.1, r.2)
        else none
theorem sm_ex_mono : ∀ (n : Nat) (d y k : Nat) (f : sm_F) (r : sm_R), sm_ex P rk mL n d y k f = some r → sm_ex P rk mL (n + 1) d y k f = some r := by
  intro n
  induction n with
  | zero => intro d y k f r h; cases h
  | succ n ih =>
    intro d y k f r h
    rw [sm_ex] at h ⊢
    cases hp : P y k with
    | none => rw [hp] at h; cases h
    | some i =>
      rw [hp] at h
      dsimp only at h ⊢
      rcases hi : i f with _ | q | r' | ⟨y', as, k', f'⟩
      · rw [hi] at h; cases h
      · rw [hi] at h; exact ih _ _ _ _ _ h
      · rw [hi] at h; exact h
      · rw [hi] at h
        dsimp only at h ⊢
        by_cases hd : rk y' as < d ∧ sm_fit (mL y') as = true
        · rw [if_pos hd] at h ⊢
          cases hc : sm_ex P rk mL n (rk y' as) y' 0 (sm_lo (mL y') as, [], f'.2.2) with
          | none => rw [hc] at h; cases h
          | some r1 =>
            rw [hc] at h
            rw [ih _ _ _ _ _ hc]
            exact ih _ _ _ _ _ h
        · rw [if_neg hd] at h; cases h
theorem sm_ex_le {n m : Nat} (hnm : n ≤ m) {d y k : Nat} {f : sm_F} {r : sm_R} (h : sm_ex P rk mL n d y k f = some r) : sm_ex P rk mL m d y k f = some r := by
  induction hnm with
  | refl => exact h
  | step _ ih => exact sm_ex_mono P rk mL _ _ _ _ _ _ ih
theorem sm_ex_det {n m : Nat} {d y k : Nat} {f : sm_F} {r r' : sm_R} (h : sm_ex P rk mL n d y k f = some r) (h' : sm_ex P rk mL m d y k f = some r') : r = r' := by
  have a := sm_ex_le P rk mL (Nat.le_max_left n m) h
  have b := sm_ex_le P rk mL (Nat.le_max_right n m) h'
  exact Option.some.inj (a.symm.trans b)
noncomputable def sm_ev (d y k : Nat) (ls st : List Value) (h : sm_H) : Option sm_R := @dite (Option sm_R) (∃ (r : sm_R) (n : Nat), sm_ex P rk mL n d y k (ls, st, h) = some r) (Classical.propDecidable _) (fun h => some h.choose) (fun _ => none)
noncomputable def sm_cl (y : Nat) (as : List Value) (h : sm_H) : Option sm_R := sm_ev P rk mL (rk y as) y 0 (sm_lo (mL y) as) [] h
theorem sm_ev_iff {d y k : Nat} {ls st : List Value} {h : sm_H} {r : sm_R} : sm_ev P rk mL d y k ls st h = some r ↔ ∃ n : Nat, sm_ex P rk mL n d y k (ls, st, h) = some r := by
  unfold sm_ev
  constructor
  · intro e
    split at e
    next q => cases e; exact q.choose_spec
    next q => cases e
  · intro e
    have q : ∃ (r : sm_R) (n : Nat), sm_ex P rk mL n d y k (ls, st, h) = some r := ⟨r, e⟩
    rw [dif_pos q]
    obtain ⟨n, hn⟩ := e
    obtain ⟨m, hm⟩ := q.choose_spec
    exact congrArg some (sm_ex_det P rk mL hm hn)
theorem sm_ext {α : Type} {a b : Option α} (h : ∀ r, a = some r ↔ b = some r) : a = b := by
  cases a with
  | none =>
    cases b with
    | none => rfl
    | some r => exact ((h r).mpr rfl)
  | some r => exact ((h r).mp rfl).symm
/-- one step of a run: each kind of end of an instruction -/
theorem sm_ev_nx {d y k : Nat} {ls st : List Value} {h : sm_H} {i : sm_I} {k' : Nat} {ls' st' : List Value} {h' : sm_H} (hp : P y k = some i) (hi : i (ls, st, h) = some (.inl (k', ls', st', h'))) : sm_ev P rk mL d y k ls st h = sm_ev P rk mL d y k' ls' st' h' := by
  apply sm_ext
  intro r
  rw [sm_ev_iff, sm_ev_iff]
  constructor
  · rintro ⟨n, hn⟩
    cases n with
    | zero => cases hn
    | succ n => rw [sm_ex, hp] at hn; dsimp only at hn; rw [hi] at hn; exact ⟨n, hn⟩
  · rintro ⟨n, hn⟩
    refine ⟨n + 1, ?_⟩
    rw [sm_ex, hp]; dsimp only; rw [hi]; exact hn
theorem sm_ev_no {d y k : Nat} {ls st : List Value} {h : sm_H} {i : sm_I} (hp : P y k = some i) (hi : i (ls, st, h) = none) : sm_ev P rk mL d y k ls st h = none := by
  apply sm_ext
  intro r
  rw [sm_ev_iff]
  constructor
  · rintro ⟨n, hn⟩
    cases n with
    | zero => cases hn
    | succ n => rw [sm_ex, hp] at hn; dsimp only at hn; rw [hi] at hn; cases hn
  · intro e; cases e
theorem sm_ev_rt {d y k : Nat} {ls st : List Value} {h : sm_H} {i : sm_I} {r : sm_R} (hp : P y k = some i) (hi : i (ls, st, h) = some (.inr (.inl r))) (hr : r.1.length ≤ 1) : sm_ev P rk mL d y k ls st h = some r := by
  rw [sm_ev_iff]
  refine ⟨1, ?_⟩
  rw [sm_ex, hp]; dsimp only; rw [hi]; dsimp only; rw [if_pos hr]
theorem sm_ev_ca {d y k : Nat} {ls st : List Value} {h : sm_H} {i : sm_I} {y' k' : Nat} {as : List Value} {ls' st' : List Value} {h' : sm_H} (hp : P y k = some i) (hi : i (ls, st, h) = some (.inr (.inr (y', as, k', ls', st', h')))) (hd : rk y' as < d ∧ sm_fit (mL y') as = true) : sm_ev P rk mL d y k ls st h = (sm_cl P rk mL y' as h').bind (fun r => sm_ev P rk mL d y k' ls' (r.1 ++ st') r.2) := by
  apply sm_ext
  intro r
  rw [sm_ev_iff, Option.bind_eq_some_iff]
  constructor
  · rintro ⟨n, hn⟩
    cases n with
    | zero => cases hn
    | succ n =>
      rw [sm_ex, hp] at hn; dsimp only at hn; rw [hi] at hn; dsimp only at hn
      rw [if_pos hd] at hn
      cases hc : sm_ex P rk mL n (rk y' as) y' 0 (sm_lo (mL y') as, [], h') with
      | none => rw [hc] at hn; cases hn
      | some r1 =>
        rw [hc] at hn
        exact ⟨r1, (sm_ev_iff P rk mL).mpr ⟨n, hc⟩, (sm_ev_iff P rk mL).mpr ⟨n, hn⟩⟩
  · rintro ⟨r1, h1, h2⟩
    obtain ⟨n, hn⟩ := (sm_ev_iff P rk mL).mp h1
    obtain ⟨m, hm⟩ := (sm_ev_iff P rk mL).mp h2
    refine ⟨max n m + 1, ?_⟩
    rw [sm_ex, hp]; dsimp only; rw [hi]; dsimp only
    rw [if_pos hd, sm_ex_le P rk mL (Nat.le_max_left n m) hn]
    exact sm_ex_le P rk mL (Nat.le_max_right n m) hm
end SMEX
