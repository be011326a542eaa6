/-! ===== worlds that grow: what a constructor does ===== -/
/-- how many cells there are, their ints, their longs, their references -/
abbrev gS : Type := Nat × (Nat → Nat → Int32) × (Nat → Nat → Int64) × (Nat → Nat → Option Nat)
def g_fld (ad : Nat → Nat) (g : gS) (i j kind : Nat) : Value := if kind = 0 then .int (g.2.1 i j) else if kind = 1 then .long (g.2.2.1 i j) else va_rf ((g.2.2.2 i j).map ad)
def g_fs (ad : Nat → Nat) (g : gS) (i : Nat) : List Value := (List.range (sm_fn (sm_kd i - 10))).map (fun k => g_fld ad g i k (sm_fk (sm_kd i - 10) k))
def g_ar (ad : Nat → Nat) (g : gS) (i : Nat) : vp_A := (sm_ln i, if sm_kd i < 3 then .inl (g.2.1 i) else if sm_kd i = 3 then .inr (.inl (g.2.2.1 i)) else .inr (.inr (.inr (.inr (fun j => (g.2.2.2 i j).map ad)))))
def g_cell (cA : Nat → ClassId) (ad : Nat → Nat) (g : gS) (i : Nat) : va_E := if sm_kd i < 7 then .inl (cA (sm_kd i), g_ar ad g i) else .inr (sm_kd i - 10, g_fs ad g i)
def g_ws (cA : Nat → ClassId) (ad : Nat → Nat) (g : gS) : va_W := (List.range g.1).map (fun i => (ad i, g_cell cA ad g i))
def g_ok (g : gS) : Prop := g.1 ≤ 187 ∧ ∀ i j, g.1 ≤ i → g.2.1 i j = 0 ∧ g.2.2.1 i j = 0 ∧ g.2.2.2 i j = none
def g_up {α : Type} (f : Nat → Nat → α) (i j : Nat) (v : α) : Nat → Nat → α := fun a b => if a = i ∧ b = j then v else f a b
def g_i (g : gS) (i j : Nat) (v : Int32) : gS := (g.1, g_up g.2.1 i j v, g.2.2.1, g.2.2.2)
def g_r (g : gS) (i j v : Nat) : gS := (g.1, g.2.1, g.2.2.1, g_up g.2.2.2 i j (some v))
def g_s (g : gS) (n : Nat) : gS := (g.1 + n, g.2)
theorem g_ok_i {g : gS} {i j : Nat} {v : Int32} (z : g_ok g) (hi : i < g.1) : g_ok (g_i g i j v) := ⟨z.1, fun a b ha => ⟨by show g_up g.2.1 i j v a b = 0; unfold g_up; rw [if_neg (fun y => by have : g.1 ≤ a := ha; omega)]; exact (z.2 a b ha).1, (z.2 a b ha).2⟩⟩
theorem g_ok_r {g : gS} {i j v : Nat} (z : g_ok g) (hi : i < g.1) : g_ok (g_r g i j v) := ⟨z.1, fun a b ha => ⟨(z.2 a b ha).1, (z.2 a b ha).2.1, by show g_up g.2.2.2 i j (some v) a b = none; unfold g_up; rw [if_neg (fun y => by have : g.1 ≤ a := ha; omega)]; exact (z.2 a b ha).2.2⟩⟩
theorem g_ok_s {g : gS} {n : Nat} (z : g_ok g) (hk : g.1 + n ≤ 187) : g_ok (g_s g n) := ⟨hk, fun a b ha => z.2 a b (by have : g.1 + n ≤ a := ha; omega)⟩
theorem g_at {cA : Nat → ClassId} {ad : Nat → Nat} {g : gS} {i : Nat} (hi : i < g.1) : (g_ws cA ad g)[i]? = some (ad i, g_cell cA ad g i) := by
  unfold g_ws
  rw [List.getElem?_map, List.getElem?_range hi]
  rfl
theorem g_ofat {cA : Nat → ClassId} {ad : Nat → Nat} {g : gS} {i : Nat} {q : Nat × va_E} (h : (g_ws cA ad g)[i]? = some q) : i < g.1 ∧ q = (ad i, g_cell cA ad g i) := by
  have hl : i < g.1 := by
    have := (List.getElem?_eq_some_iff.mp h).1
    unfold g_ws at this; simpa using this
  rw [g_at hl] at h
  exact ⟨hl, (Option.some.inj h).symm⟩
theorem g_D {cA : Nat → ClassId} {ad : Nat → Nat} {g : gS} {b : Nat} (had : ∀ i, i < 187 → ad i = b + i) (hk : g.1 ≤ 187) : va_D (fun q => b ≤ q) (g_ws cA ad g) := by
  refine ⟨fun i j x y hi hj hxy => ?_, fun k q hk' => ?_⟩
  · obtain ⟨a1, rfl⟩ := g_ofat hi
    obtain ⟨b1, rfl⟩ := g_ofat hj
    have e : ad i = ad j := hxy
    rw [had i (by omega), had j (by omega)] at e
    omega
  · obtain ⟨a1, rfl⟩ := g_ofat hk'
    show b ≤ ad k
    rw [had k (by omega)]; omega
theorem g_set {cA : Nat → ClassId} {ad : Nat → Nat} {g g' : gS} {i : Nat} {e : va_E} (h1 : g'.1 = g.1) (he : g_cell cA ad g' i = e) (ho : ∀ j : Nat, j ≠ i → g_cell cA ad g' j = g_cell cA ad g j) : (g_ws cA ad g).set i (ad i, e) = g_ws cA ad g' := by
  apply List.ext_getElem?
  intro j
  by_cases hj : j < g.1
  · rw [g_at (g := g') (by omega)]
    by_cases hji : j = i
    · subst hji
      rw [List.getElem?_set_self (by unfold g_ws; simpa using hj), he]
    · rw [List.getElem?_set_ne (Ne.symm hji), g_at hj, ho j hji]
  · rw [List.getElem?_eq_none (by unfold g_ws; simp; omega), List.getElem?_eq_none (by unfold g_ws; simp; omega)]
theorem g_cell_s {cA : Nat → ClassId} {ad : Nat → Nat} {g : gS} {n i : Nat} : g_cell cA ad (g_s g n) i = g_cell cA ad g i := rfl
theorem g_ws_s {cA : Nat → ClassId} {ad : Nat → Nat} {g : gS} : g_ws cA ad (g_s g 1) = g_ws cA ad g ++ [(ad g.1, g_cell cA ad g g.1)] := by
  show (List.range (g.1 + 1)).map _ = _
  rw [List.range_succ, List.map_append]
  rfl
theorem g_cell_arr {cA : Nat → ClassId} {ad : Nat → Nat} {g : gS} {i : Nat} (hk : sm_kd i < 7) : g_cell cA ad g i = .inl (cA (sm_kd i), g_ar ad g i) := by unfold g_cell; rw [if_pos hk]
theorem g_cell_obj {cA : Nat → ClassId} {ad : Nat → Nat} {g : gS} {i ci : Nat} (hk : sm_kd i = 10 + ci) : g_cell cA ad g i = .inr (ci, g_fs ad g i) := by
  unfold g_cell
  rw [if_neg (by omega), show sm_kd i - 10 = ci by omega]
theorem g_ar_i {ad : Nat → Nat} {g : gS} {i : Nat} (hk : sm_kd i < 3) : g_ar ad g i = (sm_ln i, .inl (g.2.1 i)) := by unfold g_ar; rw [if_pos hk]
theorem g_ar_l {ad : Nat → Nat} {g : gS} {i : Nat} (hk : sm_kd i = 3) : g_ar ad g i = (sm_ln i, .inr (.inl (g.2.2.1 i))) := by unfold g_ar; rw [if_neg (by omega), if_pos hk]
theorem g_ar_r {ad : Nat → Nat} {g : gS} {i : Nat} (hk : 4 ≤ sm_kd i) : g_ar ad g i = (sm_ln i, .inr (.inr (.inr (.inr (fun j => (g.2.2.2 i j).map ad))))) := by unfold g_ar; rw [if_neg (by omega), if_neg (by omega)]
theorem g_fs_at {ad : Nat → Nat} {g : gS} {i ci k : Nat} (hk : sm_kd i = 10 + ci) (hn : k < sm_fn ci) : (g_fs ad g i)[k]? = some (g_fld ad g i k (sm_fk ci k)) := by
  unfold g_fs
  rw [show sm_kd i - 10 = ci by omega, List.getElem?_map, List.getElem?_range hn]
  rfl
theorem g_fs_len {ad : Nat → Nat} {g : gS} {i ci : Nat} (hk : sm_kd i = 10 + ci) : (g_fs ad g i).length = sm_fn ci := by
  unfold g_fs
  rw [show sm_kd i - 10 = ci by omega]
  simp
theorem g_fs_set {ad : Nat → Nat} {g g' : gS} {i ci k : Nat} {v : Value} (hk : sm_kd i = 10 + ci) (hn : k < sm_fn ci) (hv : g_fld ad g' i k (sm_fk ci k) = v) (ho : ∀ j : Nat, j ≠ k → g_fld ad g' i j (sm_fk ci j) = g_fld ad g i j (sm_fk ci j)) : (g_fs ad g i).set k v = g_fs ad g' i := by
  apply List.ext_getElem?
  intro j
  by_cases hj : j < sm_fn ci
  · rw [g_fs_at hk hj]
    by_cases hjk : j = k
    · subst hjk
      rw [List.getElem?_set_self (by rw [g_fs_len hk]; exact hn), hv]
    · rw [List.getElem?_set_ne (Ne.symm hjk), g_fs_at hk hj, ho j hjk]
  · rw [List.getElem?_eq_none (by rw [List.length_set, g_fs_len hk]; omega), List.getElem?_eq_none (by rw [g_fs_len hk]; omega)]
theorem g_cell_eq {cA : Nat → ClassId} {ad : Nat → Nat} {g g' : gS} {i : Nat} (h1 : g'.2.1 i = g.2.1 i) (h2 : g'.2.2.1 i = g.2.2.1 i) (h3 : g'.2.2.2 i = g.2.2.2 i) : g_cell cA ad g' i = g_cell cA ad g i := by
  unfold g_cell g_ar g_fs g_fld
  rw [h1, h2, h3]
theorem g_up_ne {α : Type} {f : Nat → Nat → α} {i j a : Nat} {v : α} (h : a ≠ i) : g_up f i j v a = f a := funext fun b => if_neg (fun z => h z.1)
theorem g_up_self {α : Type} {f : Nat → Nat → α} {i j : Nat} {v : α} : g_up f i j v i j = v := if_pos ⟨rfl, rfl⟩
theorem g_up_nj {α : Type} {f : Nat → Nat → α} {i j b : Nat} {v : α} (h : b ≠ j) : g_up f i j v i b = f i b := if_neg (fun z => h z.2)
def g_OL (U : State) : Prop := (Cond.arrayOver (.array .long)).before #[] U = true
theorem g_OL.moved {u U : State} (hvm : u.vm.Alike U.vm) (h : g_OL u) : g_OL U := by
  obtain ⟨comp, c, k, h1, h2, h3, h4, h5⟩ := arrayOverA_spec h
  obtain ⟨k', hk', he⟩ := hvm.2.2 _ _ h3
  have hi : (U.vm.classes.findIdx? fun (x : Class) => match x.kind with | .array component _ => component == comp | _ => false) = some c := by
    rw [hvm.findIdx?_eq _ (fun _ => rfl)]
    exact h2
  have hkind : k'.kind = .array comp (.array .long) := by rw [he]; exact h4
  have f1 : U.vm.findClass (FieldType.array .long).toString = some comp := by rw [hvm.findClass]; exact h1
  have f2 : U.vm.findClass ("[" ++ (FieldType.array .long).toString) = some c := by rw [hvm.findClass]; exact h5
  unfold g_OL Cond.before Cond.holds
  simp only [Cond.value]
  rw [f1, Option.bind_some]
  refine (congrArg (fun o : Option Nat => (o.bind (fun c => (U.vm.classes[c]?).map fun (k : Class) => match k.kind with | .array _ ty => decide (ty = FieldType.array .long) && decide (U.vm.findClass ("[" ++ (FieldType.array .long).toString) = some c) | _ => false) == some true)) hi).trans ?_
  simp [hk', hkind, f2]
def g_nw : List (String × Nat × MethodName) := [("BackBridge", 15, ⟨"BackBridge$Land", "<init>", "()V"⟩), ("BackBridge", 22, ⟨"BackBridge$World", "<init>", "()V"⟩), ("BackBridge", 80, ⟨"BackBridge$Trays", "<init>", "()V"⟩), ("BackBridge$Past", 15, ⟨"BackBridge$World", "<init>", "()V"⟩), ("BackBridge$Reader", 11, ⟨"BackBridge$Land", "<init>", "()V"⟩), ("BackBridge$Land", 45, ⟨"BackBridge$Law", "<init>", "()V"⟩)]
/-- what the tables say beside the words that may be handed on -/
def g_N (U : State) : Prop := va_AO "BackBridge$World" U ∧ va_AO "BackBridge$Land" U ∧ g_OL U ∧ ∀ q ∈ g_nw, va_Nw (.methodLinkNest q.1 q.2.1 q.2.2 "BackBridge") U
theorem g_N.warm {s U : State} (hW : s.WarmedH U.vm) (h : g_N s) : g_N U := ⟨h.1.moved hW.alike, h.2.1.moved hW.alike, h.2.2.1.moved hW.alike, fun q hq => (h.2.2.2 q hq).warmM hW⟩
theorem g_N.same {u U : State} (e : u.vm = U.vm) (h : g_N u) : g_N U := ⟨h.1.moved (by rw [e]; exact Vm.Alike.refl _), h.2.1.moved (by rw [e]; exact Vm.Alike.refl _), h.2.2.1.moved (by rw [e]; exact Vm.Alike.refl _), fun q hq => (h.2.2.2 q hq).same rfl e⟩
