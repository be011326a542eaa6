/-! ===== multianewarray of two dimensions of long ===== -/
section GMU
variable {p : Program} {l : Launch} {e : Env} {R : Room} {s : State} {m : MethodId} {args : Array Value} {below : List Frame} {meth : Method} {c : Code}
def gm_f (h i : Nat) : Nat → Value := fun j => if j < i then .ref (h + 1 + j) else .null
theorem gm_rep (cI : ClassId) (N : Nat) (v : Value) : ({ cls := cI, slots := Array.replicate N v, vm := .none } : Cell) = arrV cI N (fun _ => v) := by
  unfold arrV
  congr 1
  apply Array.ext
  · simp
  · intro j h1 h2; simp
theorem gm_set (cI : ClassId) (h N i : Nat) (hi : i < N) : (arrV cI N (gm_f h i)).setSlot i (.ref (h + 1 + i)) = arrV cI N (gm_f h (i + 1)) := by
  rw [arrV_store]
  congr 1
  funext j
  unfold updV gm_f
  by_cases z : j = i
  · rw [if_pos z, if_pos (by omega), z]
  · rw [if_neg z]
    by_cases y : j < i
    · rw [if_pos y, if_pos (by omega)]
    · rw [if_neg y, if_neg (by omega)]
theorem gm_loop {h N0 N1 : Nat} {n1 : Int32} {cA cJ c0 : ClassId} {kA kJ : Class} (hA : s.vm.classes[cA]? = some kA) (hAk : kA.kind = .array cJ (.array .long)) (hJ : s.vm.classes[cJ]? = some kJ) (hJk : kJ.kind = .array c0 .long) (hn1 : ¬ n1 < 0) (hN1 : n1.toNatClampNeg = N1) (hb1 : N1 * 8 ≤ 536870912) (f : JFrame) {fb : Nat → PUnit → Sem (ForInStep PUnit)} (hfb : ∀ i u, fb i u = (do let x ← Op.multianewarray.make cJ [n1]; Jvm.writeLoc h i (.ref x); Pure.pure (ForInStep.yield PUnit.unit))) : ∀ (r i : Nat) (U : State) (locs : List Loc) (cells slots : Nat), i + r = N0 → Stand p l e R s m args below meth c U locs cells slots → U.heap.size = h + 1 + i → U.heap[h]? = some (arrV cA N0 (gm_f h i)) → (∀ j, j < i → U.heap[h + 1 + j]? = some (arrV cJ N1 (fun _ => .long 0))) → cells + r ≤ R.cells → slots + r * N1 ≤ R.slots → ∃ (U' : State) (L : List Loc), Stand p l e R s m args below meth c U' (locs ++ L) (cells + r) (slots + r * N1) ∧ U'.heap.size = h + 1 + N0 ∧ U'.heap[h]? = some (arrV cA N0 (gm_f h N0)) ∧ (∀ j, j < N0 → U'.heap[h + 1 + j]? = some (arrV cJ N1 (fun _ => .long 0))) ∧ (∀ q, q < h → U'.heap[q]? = U.heap[q]?) ∧ (∀ l ∈ L, l.base = h) ∧ ∀ {Q : PUnit → Pre} {E : CtlPost}, (∀ d acts, Q PUnit.unit d acts (U'.setTop f)) → ∀ d acts, wp (forIn (List.range' i r) PUnit.unit fb) Q E e d acts (U.setTop f)
  | 0, i, U, locs, cells, slots, hi, X, hz, h0, hj, hc, hs => by
    obtain rfl : i = N0 := by omega
    refine ⟨U, [], by simpa using X, hz, h0, hj, fun q _ => rfl, fun l hl => (by cases hl), fun {Q E} hq d acts => ?_⟩
    simp only [List.range'_zero, List.forIn_nil, wp_pure']
    exact hq d acts
  | r + 1, i, U, locs, cells, slots, hi, X, hz, h0, hj, hc, hs => by
    have hal : s.vm.Alike U.vm := X.warmed.alike
    obtain ⟨kA₁, hA₁, eA⟩ := hal.2.2 _ _ hA
    obtain ⟨kJ₁, hJ₁, eJ⟩ := hal.2.2 _ _ hJ
    have hAk₁ : kA₁.kind = .array cJ (.array .long) := by rw [eA]; exact hAk
    have hJk₁ : kJ₁.kind = .array c0 .long := by rw [eJ]; exact hJk
    have hsl : (r + 1) * N1 = N1 + r * N1 := by rw [Nat.add_mul]; omega
    obtain ⟨hr1, hr2⟩ := X.roomAbove (show cells + 1 ≤ R.cells by omega) (show slots + N1 ≤ R.slots by omega)
    have X1 := X.pushed (arrV cJ N1 (fun _ => .long 0))
    rw [arrV_size] at X1
    have hh1 : (U.pushCell (arrV cJ N1 (fun _ => .long 0))).heap = U.heap.push (arrV cJ N1 (fun _ => .long 0)) := rfl
    have g0 : (U.pushCell (arrV cJ N1 (fun _ => .long 0))).heap[h]? = some (arrV cA N0 (gm_f h i)) := by
      rw [hh1, Array.getElem?_push, if_neg (by omega)]; exact h0
    have X2 := X1.stored g0 i (.ref (h + 1 + i))
    rw [gm_set cA h N0 i (by omega)] at X2
    have hh2 : ((U.pushCell (arrV cJ N1 (fun _ => .long 0))).setCell h (arrV cA N0 (gm_f h (i + 1)))).heap = (U.heap.push (arrV cJ N1 (fun _ => .long 0))).setIfInBounds h (arrV cA N0 (gm_f h (i + 1))) := rfl
    have gz : (U.heap.push (arrV cJ N1 (fun _ => .long 0))).size = h + 1 + (i + 1) := by rw [Array.size_push]; omega
    obtain ⟨U', L, Y, y1, y2, y3, y4, y5, y6⟩ := gm_loop (N0 := N0) hA hAk hJ hJk hn1 hN1 hb1 f hfb r (i + 1) _ _ _ _ (by omega) X2 (by rw [hh2, Array.size_setIfInBounds, gz]) (by rw [hh2, Array.getElem?_setIfInBounds_self, if_pos (by omega)]) (fun j hj' => by
      rw [hh2, Array.getElem?_setIfInBounds_ne (by omega), Array.getElem?_push]
      by_cases z : j = i
      · rw [if_pos (by omega)]
      · rw [if_neg (by omega)]; exact hj j (by omega)) (by omega) (by omega)
    refine ⟨U', [⟨h, i⟩] ++ L, by rw [← List.append_assoc, hsl, show cells + (r + 1) = cells + 1 + r by omega, ← Nat.add_assoc]; exact Y, y1, y2, y3, fun q hq => ?_, fun q hq => ?_, fun {Q E} hq d acts => ?_⟩
    · rw [y4 q hq, hh2, Array.getElem?_setIfInBounds_ne (by omega), Array.getElem?_push, if_neg (by omega)]
    · rcases List.mem_append.mp hq with z | z
      · rw [List.mem_singleton.mp z]
      · exact y5 q z
    · rw [List.range'_succ]
      simp only [List.forIn_cons, hfb, wp_bind', Op.multianewarray.make, W.ite, hn1, if_false, wp_pure', W.theClass, State.vm_setTop, hJ₁, Option.some.injEq, exists_eq_left', hJk₁]
      refine W.newArray_of (s := U.setTop f) (k := kJ₁) (comp := c0) (type := .long) hJ₁ hJk₁ ?_ ?_ ?_ ?_ rfl (fun acts1 => ?_)
      · rw [hN1, Launch.admits_arrayLengthLimit X.admits]; omega
      · rw [hN1, Launch.admits_maxHeapBytes X.admits]; show ¬ N1 * 8 > 536870912; omega
      · show U.heap.size < _; omega
      · rw [hN1]; show U.slotsUsed + _ ≤ _; exact hr2
      · rw [hN1]
        have ez : (U.setTop f).pushCell ({ cls := cJ, slots := Array.replicate N1 (defaultValue .long) } : Cell) = (U.pushCell (arrV cJ N1 (fun _ => .long 0))).setTop f := by
          rw [← gm_rep]; rfl
        rw [ez]
        simp only [wp_bind', W.writeLoc, wp_pure']
        refine ⟨arrV cA N0 (gm_f h i), g0, by simp [arrV], by rw [arrV_size]; omega, ?_, ?_⟩
        · have hA₂ : (U.pushCell (arrV cJ N1 (fun _ => .long 0))).vm.classes[cA]? = some kA₁ := hA₁
          simp [arrV, State.fitsSlot, State.slotType?, hA₁, hAk₁, fits]
        · have e2 : (U.setTop f).heap.size = h + 1 + i := hz
          rw [e2, gm_set cA h N0 i (by omega)]
          exact y6 hq _ _
theorem gm_f0 (h : Nat) : gm_f h 0 = fun _ => .null := funext fun j => if_neg (by omega)
theorem gm_multi {cc : ByteArray} {H : Heap} {locs : List Loc} {cells slots : Nat} {Q : State → Prop} (hexec : p.tables.exec = Jvm.exec) (hb : c.code = cc) {own : String} {index : Nat} (hown : s.vm.findClass own = some m.cls) (hclink : (Cond.classLink own index "[[J").before args s = true) {cA cJ c0 : ClassId} {kA kJ : Class} (hAn : s.vm.findClass "[[J" = some cA) (hA : s.vm.classes[cA]? = some kA) (hAk : kA.kind = .array cJ (.array .long)) (hJ : s.vm.classes[cJ]? = some kJ) (hJk : kJ.kind = .array c0 .long) {g : JFrame} (hg : g.method = m) (hdg : decode cc g.pc = .ok (.multianewarray index 2, 4)) {n0 n1 : Int32} {N0 N1 : Nat} {rest : List Value} (hstack : g.stack = .int n1 :: .int n0 :: rest) (hn0 : ¬ n0 < 0) (hn1 : ¬ n1 < 0) (hp0 : ¬ n0 = 0) (hN0 : n0.toNatClampNeg = N0) (hN1 : n1.toNatClampNeg = N1) (hb0 : N0 * 4 ≤ 536870912) (hb1 : N1 * 8 ≤ 536870912) (hcells : cells + (1 + N0) ≤ R.cells) (hslots : slots + (N0 + N0 * N1) ≤ R.slots)
    (kk : ∀ (H' : Heap) (L : List Loc), H'.size = H.size + 1 + N0 → H'[H.size]? = some (arrV cA N0 (gm_f H.size N0)) → (∀ j, j < N0 → H'[H.size + 1 + j]? = some (arrV cJ N1 (fun _ => .long 0))) → (∀ q, q < H.size → H'[q]? = H[q]?) → (∀ l ∈ L, l.base = H.size) → W p l e R s m args below meth c H' (locs ++ L) (cells + 1 + N0) (slots + N0 + N0 * N1) Q { g with pc := g.pc + 4, stack := .ref H.size :: rest }) : W p l e R s m args below meth c H locs cells slots Q g := by
  intro T hT X
  subst hT; subst hb; subst hg
  have hpl : e.platform.magicAccessors = ({} : Platform).magicAccessors := by rw [X.admits.platform]
  obtain ⟨cc', hfcc, hcl⟩ := Cond.classLink_spec hown hclink e.platform hpl
  cases hAn.symm.trans hfcc
  obtain ⟨hg₁, hwarm₁, hready₁⟩ := State.classEntry (e := e) X.warmed hcl
  generalize T.vm.noted g.method.cls index (.cls cA) = vm₁ at hg₁ hwarm₁ hready₁
  have hal : s.vm.Alike vm₁ := hwarm₁.alike
  obtain ⟨kA₁, hA₁, eA⟩ := hal.2.2 _ _ hA
  have hAk₁ : kA₁.kind = .array cJ (.array .long) := by rw [eA]; exact hAk
  have X₁ := X.noted hwarm₁
  have X₂ := X₁.pushed (arrV cA N0 (gm_f T.heap.size 0))
  rw [arrV_size] at X₂
  obtain ⟨hr1, hr2⟩ := X.roomAbove (show cells + 1 ≤ R.cells by omega) (show slots + N0 ≤ R.slots by omega)
  have hh : ((T.setVm vm₁).pushCell (arrV cA N0 (gm_f T.heap.size 0))).heap = T.heap.push (arrV cA N0 (gm_f T.heap.size 0)) := rfl
  obtain ⟨U', L, Y, y1, y2, y3, y4, y5, y6⟩ := gm_loop (h := T.heap.size) (N0 := N0) hA hAk hJ hJk hn1 hN1 hb1 { g with stack := rest } (fun _ _ => rfl) N0 0 _ _ _ _ (by omega) X₂ (by rw [hh, Array.size_push]) (by rw [hh, Array.getElem?_push, if_pos rfl]) (fun j hj => absurd hj (by omega)) (by omega) (by omega)
  obtain ⟨t, a1, b1⟩ := kk U'.heap L y1 y2 y3 (fun q hq => by rw [y4 q hq, hh, Array.getElem?_push, if_neg (by omega)]) y5 U' rfl Y
  refine ⟨t, ?_, b1⟩
  refine Steps.instr (c := _) (by simpa using X.here) ?_
  simp [jvm, wpRun, exec, X.here.top, hexec, hdg]
  simp only [multianewarray.sem, wp_bind']
  refine (W.resolveClassAt_transfer (s := T.setTop g) (State.method?_setTop g X.here.top) hg₁ hready₁).mpr ?_
  refine (W.resolveClassAt_ready (s := (T.setVm vm₁).setTop g) (State.method?_setTop g X₁.here.top) hready₁).mpr ?_
  have htop : (T.setVm vm₁).topJava?.isSome := X₁.here.top
  simp [popN, hstack, htop]
  refine ⟨g, State.topJava?_setTop' _ htop, .int n1, .int n0 :: rest, hstack, { g with stack := .int n0 :: rest }, State.topJava?_setTop' _ htop, .int n0, rest, rfl, ?_⟩
  simp only [wp_pure', wp_bind']
  rw [multianewarray.make]
  have hz0 : (n0 == 0) = false := by simpa using hp0
  simp only [wp_bind', W.ite, hn0, if_false, W.theClass, State.vm_setTop, hA₁, Option.some.injEq, exists_eq_left', hAk₁, State.vm_setVm, hz0, Bool.false_eq_true, wp_pure']
  refine W.newArray_of (s := (T.setVm vm₁).setTop { g with stack := rest }) (k := kA₁) (comp := cJ) (type := .array .long) hA₁ hAk₁ ?_ ?_ ?_ ?_ rfl (fun acts1 => ?_)
  · rw [hN0, Launch.admits_arrayLengthLimit X.admits]; omega
  · rw [hN0, Launch.admits_maxHeapBytes X.admits]; show ¬ N0 * 4 > 536870912; omega
  · show T.heap.size < _; omega
  · rw [hN0]; show T.slotsUsed + _ ≤ _; exact hr2
  · rw [hN0]
    have ez : ((T.setVm vm₁).setTop { g with stack := rest }).pushCell ({ cls := cA, slots := Array.replicate N0 .null } : Cell) = ((T.setVm vm₁).pushCell (arrV cA N0 (gm_f T.heap.size 0))).setTop { g with stack := rest } := by
      rw [gm_f0, ← gm_rep]; rfl
    rw [ez]
    simp only [Std.Legacy.Range.forIn_eq_forIn_range', Std.Legacy.Range.size]
    rw [show (N0 - 0 + 1 - 1) / 1 = N0 by omega]
    simp only [wp_bind']
    refine y6 (fun d acts => ?_) _ _
    have ut : U'.topJava?.isSome := Y.here.top
    simp only [wp_pure']
    simp only [wp_bind', W.mark, W.pushRef, State.topJava?_setTop' _ ut, Option.some.injEq, exists_eq_left', State.setTop_setTop]
    intro acts'
    simp [jvm, ut]
    exact a1
end GMU
