/-! ===== each instruction of the small machine is the machine's ===== -/
theorem sn_sameI {h : sm_H} {c i j : Nat} {v : Int32} (hj : j ≠ c) : (sm_si h c i v).1 j = h.1 j := by
  funext k
  show sm_up2 h.1 c i v j k = h.1 j k
  unfold sm_up2
  rw [if_neg hj]
theorem sn_ownI {h : sm_H} {c i : Nat} {v : Int32} : (sm_si h c i v).1 c = upd (h.1 c) i v := by
  funext k
  show sm_up2 h.1 c i v c k = upd (h.1 c) i v k
  unfold sm_up2 upd
  rw [if_pos rfl]
theorem sn_sameL {h : sm_H} {c i j : Nat} {v : Int64} (hj : j ≠ c) : (sm_sl h c i v).2.1 j = h.2.1 j := by
  funext k
  show sm_up2 h.2.1 c i v j k = h.2.1 j k
  unfold sm_up2
  rw [if_neg hj]
theorem sn_ownL {h : sm_H} {c i : Nat} {v : Int64} : (sm_sl h c i v).2.1 c = vp_updL (h.2.1 c) i v := by
  funext k
  show sm_up2 h.2.1 c i v c k = vp_updL (h.2.1 c) i v k
  unfold sm_up2 vp_updL
  rw [if_pos rfl]
theorem sn_cell_arr {cA : Nat → ClassId} {ad : Nat → Nat} {h : sm_H} {i : Nat} (hk : sm_kd i < 7) : sn_cell cA ad h i = .inl (cA (sm_kd i), sn_ar ad h i) := by unfold sn_cell; rw [if_pos hk]
theorem sn_cell_obj {cA : Nat → ClassId} {ad : Nat → Nat} {h : sm_H} {i ci : Nat} (hk : sm_kd i = 10 + ci) : sn_cell cA ad h i = .inr (ci, sn_fs ad h i) := by
  unfold sn_cell
  rw [if_neg (by omega), show sm_kd i - 10 = ci by omega]
theorem sn_ar_i {ad : Nat → Nat} {h : sm_H} {i : Nat} (hk : sm_kd i < 3) : sn_ar ad h i = (sm_ln i, .inl (h.1 i)) := by unfold sn_ar; rw [if_pos hk]
theorem sn_ar_l {ad : Nat → Nat} {h : sm_H} {i : Nat} (hk : sm_kd i = 3) : sn_ar ad h i = (sm_ln i, .inr (.inl (h.2.1 i))) := by unfold sn_ar; rw [if_neg (by omega), if_pos hk]
theorem sn_ar_r {ad : Nat → Nat} {h : sm_H} {i : Nat} (hk : 4 ≤ sm_kd i) : sn_ar ad h i = (sm_ln i, .inr (.inr (.inr (.inr (fun j => some (ad (sm_rf i j))))))) := by unfold sn_ar; rw [if_neg (by omega), if_neg (by omega)]
/-- a cell's contents are the same if its numbers are -/
theorem sn_cell_eq {cA : Nat → ClassId} {ad : Nat → Nat} {h h' : sm_H} {i : Nat} (h1 : h'.1 i = h.1 i) (h2 : h'.2.1 i = h.2.1 i) (h3 : h'.2.2 = h.2.2) : sn_cell cA ad h' i = sn_cell cA ad h i := by
  unfold sn_cell sn_ar sn_fs sn_fld
  rw [h1, h2, h3]
theorem sn_fs_at {ad : Nat → Nat} {h : sm_H} {i ci k : Nat} (hk : sm_kd i = 10 + ci) (hn : k < sm_fn ci) : (sn_fs ad h i)[k]? = some (sn_fld ad h i k (sm_fk ci k)) := by
  unfold sn_fs
  rw [show sm_kd i - 10 = ci by omega, List.getElem?_map, List.getElem?_range hn]
  rfl
theorem sn_fs_len {ad : Nat → Nat} {h : sm_H} {i ci : Nat} (hk : sm_kd i = 10 + ci) : (sn_fs ad h i).length = sm_fn ci := by
  unfold sn_fs
  rw [show sm_kd i - 10 = ci by omega]
  simp
theorem sn_fs_set {ad : Nat → Nat} {h h' : sm_H} {i ci k : Nat} {v : Value} (hk : sm_kd i = 10 + ci) (hn : k < sm_fn ci) (hv : sn_fld ad h' i k (sm_fk ci k) = v) (ho : ∀ j : Nat, j < sm_fn ci → j ≠ k → sn_fld ad h' i j (sm_fk ci j) = sn_fld ad h i j (sm_fk ci j)) : (sn_fs ad h i).set k v = sn_fs ad h' i := by
  apply List.ext_getElem?
  intro j
  by_cases hj : j < sm_fn ci
  · rw [sn_fs_at hk hj]
    by_cases hjk : j = k
    · subst hjk
      rw [List.getElem?_set_self (by rw [sn_fs_len hk]; exact hn), hv]
    · rw [List.getElem?_set_ne (Ne.symm hjk), sn_fs_at hk hj, ho j hj hjk]
  · rw [List.getElem?_eq_none (by rw [List.length_set, sn_fs_len hk]; omega), List.getElem?_eq_none (by rw [sn_fs_len hk]; omega)]
theorem sn_in {a : Nat} {i : Int32} (h : sm_in a i) : vp_in i (sm_ln a) := fun q => by
  rcases q with q | q
  · exact absurd h.1 (Int32.not_le.mpr q)
  · omega

/-- what is said of the constants stays -/
def sn_SKp (ad : Nat → Nat) (SK : State → Heap → Prop) : Prop := (∀ (u U : State) (H : Heap), u.WarmedH U.vm → SK u H → SK U H) ∧ (∀ (u U : State) (H : Heap), U.vm = u.vm → SK u H → SK U H) ∧ ∀ (U : State) (H H1 : Heap), (∀ q : Nat, q < H.size → ¬ sn_A ad q → H1[q]? = H[q]?) → SK U H → SK U H1
def sn_C (D : va_G) (cA : Nat → ClassId) (ad : Nat → Nat) (SK : State → Heap → Prop) (p : Program) (R : Room) (s : State) (m : MethodId) (args : Array Value) (meth : Method) (c : Code) (cc : ByteArray) (own : String) (nL : Nat) (rt : Option FieldType) : Prop :=
  p.tables.exec = Jvm.exec ∧ c.code = cc ∧ c.maxLocals = nL ∧ s.vm.findClass own = some m.cls ∧ (∀ w ∈ sm_wl, w.before args s = true) ∧ meth.sig.returnType = rt ∧ meth.locks = false ∧ va_K D sm_cls (sm_tys cA) s ∧ SK s s.heap ∧ 1 ≤ R.frames ∧ 40 ≤ R.locals ∧ (∀ i j : Nat, i < sm_NC → j < sm_NC → ad i = ad j → i = j) ∧ sn_SKp ad SK
/-- from here the machine comes to Q -/
def sn_G (l : Launch) (D : va_G) (cA : Nat → ClassId) (ad : Nat → Nat) (p : Program) (e : Env) (R : Room) (s : State) (m : MethodId) (args : Array Value) (below : List Frame) (meth : Method) (c : Code) (Q : State → Prop) (nL : Nat) (pc : Nat) (f : sm_F) : Prop :=
  ∀ (H : Heap) (locs : List Loc) (la : Array Slot), va_P D sm_cls (sn_ws cA ad f.2.2) H → va_S (sn_A ad) s.heap H locs → sn_L ad la nL f.1 → sn_nd f.1 → W p l e R s m args below meth c H locs 0 0 Q (F0 m pc la (f.2.1.map (sn_tr ad)))
def sn_Qc (D : va_G) (cA : Nat → ClassId) (ad : Nat → Nat) (r : sm_R) : Array Value → State → Outcome → State → Prop := fun _ st oc t => oc = .returned (r.1.head?.map (sn_tr ad)) ∧ va_P D sm_cls (sn_ws cA ad r.2) t.heap ∧ va_F (sn_A ad) st t
def sn_Pc (D : va_G) (cA : Nat → ClassId) (ad : Nat → Nat) (SK : State → Heap → Prop) (as : List Value) (h : sm_H) : Array Value → State → Prop := va_Pc (as.map (sn_tr ad)) (fun U => va_P D sm_cls (sn_ws cA ad h) U.heap ∧ va_K D sm_cls (sm_tys cA) U ∧ SK U U.heap)
def sn_wd (y : MethodName) (cc : ByteArray) (nL : Nat) (rt : Option FieldType) : List Cond := .code y cc nL rt :: sm_wl
/-- what an instruction's end says of the machine -/
def sn_V (l : Launch) (D : va_G) (cA : Nat → ClassId) (ad : Nat → Nat) (SK : State → Heap → Prop) (nm : Nat → MethodName) (by_ : Nat → ByteArray) (mL : Nat → Nat) (rts : Nat → Option FieldType) (cc : ByteArray) (own : String) (nL : Nat) (rt : Option FieldType) (pc : Nat) (i : sm_I) : Prop :=
  ∀ {p : Program} {e : Env} {R : Room} {s : State} {m : MethodId} {args : Array Value} {below : List Frame} {meth : Method} {c : Code} {Q : State → Prop}, sn_C D cA ad SK p R s m args meth c cc own nL rt → ∀ (f : sm_F) (o : sm_O), i f = some o → match o with
    | .inl q => sn_G l D cA ad p e R s m args below meth c Q nL q.1 q.2 → sn_G l D cA ad p e R s m args below meth c Q nL pc f
    | .inr (.inl r) => Q = MQ below (sn_Qc D cA ad r) args s 0 0 (sn_A ad) → sn_G l D cA ad p e R s m args below meth c Q nL pc f
    | .inr (.inr (y', as, k', f')) => ∀ (r : sm_R) (rm : Room), rm.cells = 0 → rm.slots = 0 → rm.frames + 1 ≤ R.frames → 8 + (mL y' + 11) + rm.locals ≤ R.locals → r.1.length ≤ 1 → Met l (nm y') (sn_wd (nm y') (by_ y') (mL y') (rts y')) rm (sn_Pc D cA ad SK as f'.2.2) (sn_Qc D cA ad r) 0 0 (sn_A ad) → sn_G l D cA ad p e R s m args below meth c Q nL k' (f'.1, r.1 ++ f'.2.1, r.2) → sn_G l D cA ad p e R s m args below meth c Q nL pc f
section SNV
variable {l : Launch} {D : va_G} {cA : Nat → ClassId} {ad : Nat → Nat} {SK : State → Heap → Prop} {nm : Nat → MethodName} {by_ : Nat → ByteArray} {mL : Nat → Nat} {rts : Nat → Option FieldType} {cc : ByteArray} {own : String} {nL : Nat} {rt : Option FieldType} {pc : Nat}
theorem sv_iconst {n : Int} {v : Int32} (hd : decode cc pc = .ok (.iconst n, 1)) (hv : Int32.ofInt n = v) : sn_V l D cA ad SK nm by_ mL rts cc own nL rt pc (sm_push (.int v) (pc + 1)) := by
  intro p e R s m args below meth c Q C f o hi
  obtain ⟨ls, st, h⟩ := f
  obtain rfl := Option.some.inj hi
  intro G H locs la hP hS hL hN
  exact lv_iconst C.1 C.2.1 hd hv (G H locs la hP hS hL hN)
theorem sv_bipush {n : Int} {v : Int32} (hd : decode cc pc = .ok (.bipush n, 2)) (hv : (Int8.ofInt n).toInt32 = v) : sn_V l D cA ad SK nm by_ mL rts cc own nL rt pc (sm_push (.int v) (pc + 2)) := by
  intro p e R s m args below meth c Q C f o hi
  obtain ⟨ls, st, h⟩ := f
  obtain rfl := Option.some.inj hi
  intro G H locs la hP hS hL hN
  exact lv_bipush C.1 C.2.1 hd hv (G H locs la hP hS hL hN)
theorem sv_sipush {n : Int} {v : Int32} (hd : decode cc pc = .ok (.sipush n, 3)) (hv : (Int16.ofInt n).toInt32 = v) : sn_V l D cA ad SK nm by_ mL rts cc own nL rt pc (sm_push (.int v) (pc + 3)) := by
  intro p e R s m args below meth c Q C f o hi
  obtain ⟨ls, st, h⟩ := f
  obtain rfl := Option.some.inj hi
  intro G H locs la hP hS hL hN
  exact lv_sipush C.1 C.2.1 hd hv (G H locs la hP hS hL hN)
theorem sv_lconst {n : Fin 2} {v : Int64} (hd : decode cc pc = .ok (.lconst n, 1)) (hv : Int64.ofNat (n : Nat) = v) : sn_V l D cA ad SK nm by_ mL rts cc own nL rt pc (sm_push (.long v) (pc + 1)) := by
  intro p e R s m args below meth c Q C f o hi
  obtain ⟨ls, st, h⟩ := f
  obtain rfl := Option.some.inj hi
  intro G H locs la hP hS hL hN
  exact lv_lconst C.1 C.2.1 hd hv (G H locs la hP hS hL hN)
theorem sv_ldc {n : Nat} {v : Int32} (hd : decode cc pc = .ok (.ldc n, 2)) (hm : Cond.constant own n v ∈ sm_wl) : sn_V l D cA ad SK nm by_ mL rts cc own nL rt pc (sm_push (.int v) (pc + 2)) := by
  intro p e R s m args below meth c Q C f o hi
  obtain ⟨ls, st, h⟩ := f
  obtain rfl := Option.some.inj hi
  intro G H locs la hP hS hL hN
  exact lv_ldc C.1 C.2.1 C.2.2.2.1 (C.2.2.2.2.1 _ hm) hd (G H locs la hP hS hL hN)
theorem sv_ldcw {n : Nat} {v : Int32} (hd : decode cc pc = .ok (.ldc_w n, 3)) (hm : Cond.constant own n v ∈ sm_wl) : sn_V l D cA ad SK nm by_ mL rts cc own nL rt pc (sm_push (.int v) (pc + 3)) := by
  intro p e R s m args below meth c Q C f o hi
  obtain ⟨ls, st, h⟩ := f
  obtain rfl := Option.some.inj hi
  intro G H locs la hP hS hL hN
  exact lv_ldcw C.1 C.2.1 C.2.2.2.1 (C.2.2.2.2.1 _ hm) hd (G H locs la hP hS hL hN)
theorem sv_ldc2 {n : Nat} {v : Int64} (hd : decode cc pc = .ok (.ldc2_w n, 3)) (hm : Cond.constantLong own n v ∈ sm_wl) : sn_V l D cA ad SK nm by_ mL rts cc own nL rt pc (sm_push (.long v) (pc + 3)) := by
  intro p e R s m args below meth c Q C f o hi
  obtain ⟨ls, st, h⟩ := f
  obtain rfl := Option.some.inj hi
  intro G H locs la hP hS hL hN
  exact lv_ldc2 C.1 C.2.1 C.2.2.2.1 (C.2.2.2.2.1 _ hm) hd (G H locs la hP hS hL hN)
theorem sv_iload_n {k : Fin 4} {i : Nat} (hd : decode cc pc = .ok (.iload_n k, 1)) (hk : (k : Nat) = i) : sn_V l D cA ad SK nm by_ mL rts cc own nL rt pc (sm_ldi i (pc + 1)) := by
  intro p e R s m args below meth c Q C f o hi
  obtain ⟨ls, st, h⟩ := f
  simp only [sm_ldi] at hi
  split at hi
  next x hx =>
    obtain rfl := Option.some.inj hi
    intro G H locs la hP hS hL hN
    exact lv_iload_n C.1 C.2.1 hd hk (hL.at hx (fun q => by cases q)) (G H locs la hP hS hL hN)
  next => cases hi
theorem sv_iload {i : Nat} (hd : decode cc pc = .ok (.iload i, 2)) : sn_V l D cA ad SK nm by_ mL rts cc own nL rt pc (sm_ldi i (pc + 2)) := by
  intro p e R s m args below meth c Q C f o hi
  obtain ⟨ls, st, h⟩ := f
  simp only [sm_ldi] at hi
  split at hi
  next x hx =>
    obtain rfl := Option.some.inj hi
    intro G H locs la hP hS hL hN
    exact lv_iload C.1 C.2.1 hd (hL.at hx (fun q => by cases q)) (G H locs la hP hS hL hN)
  next => cases hi
theorem sv_lload_n {k : Fin 4} {i : Nat} (hd : decode cc pc = .ok (.lload_n k, 1)) (hk : (k : Nat) = i) : sn_V l D cA ad SK nm by_ mL rts cc own nL rt pc (sm_ldl i (pc + 1)) := by
  intro p e R s m args below meth c Q C f o hi
  obtain ⟨ls, st, h⟩ := f
  simp only [sm_ldl] at hi
  split at hi
  next x hx =>
    obtain rfl := Option.some.inj hi
    intro G H locs la hP hS hL hN
    exact lv_lload_n C.1 C.2.1 hd hk (hL.at hx (fun q => by cases q)) (G H locs la hP hS hL hN)
  next => cases hi
theorem sv_lload {i : Nat} (hd : decode cc pc = .ok (.lload i, 2)) : sn_V l D cA ad SK nm by_ mL rts cc own nL rt pc (sm_ldl i (pc + 2)) := by
  intro p e R s m args below meth c Q C f o hi
  obtain ⟨ls, st, h⟩ := f
  simp only [sm_ldl] at hi
  split at hi
  next x hx =>
    obtain rfl := Option.some.inj hi
    intro G H locs la hP hS hL hN
    exact lv_lload C.1 C.2.1 hd (hL.at hx (fun q => by cases q)) (G H locs la hP hS hL hN)
  next => cases hi
theorem sv_aload_n {k : Fin 4} {i : Nat} (hd : decode cc pc = .ok (.aload_n k, 1)) (hk : (k : Nat) = i) : sn_V l D cA ad SK nm by_ mL rts cc own nL rt pc (sm_lda i (pc + 1)) := by
  intro p e R s m args below meth c Q C f o hi
  obtain ⟨ls, st, h⟩ := f
  simp only [sm_lda] at hi
  split at hi
  next x hx =>
    obtain rfl := Option.some.inj hi
    intro G H locs la hP hS hL hN
    exact lv_aload_n C.1 C.2.1 hd hk (hL.at hx (fun q => by cases q)) (G H locs la hP hS hL hN)
  next => cases hi
theorem sv_aload {i : Nat} (hd : decode cc pc = .ok (.aload i, 2)) : sn_V l D cA ad SK nm by_ mL rts cc own nL rt pc (sm_lda i (pc + 2)) := by
  intro p e R s m args below meth c Q C f o hi
  obtain ⟨ls, st, h⟩ := f
  simp only [sm_lda] at hi
  split at hi
  next x hx =>
    obtain rfl := Option.some.inj hi
    intro G H locs la hP hS hL hN
    exact lv_aload C.1 C.2.1 hd (hL.at hx (fun q => by cases q)) (G H locs la hP hS hL hN)
  next => cases hi
theorem sv_istore_n {k : Fin 4} {i : Nat} (hd : decode cc pc = .ok (.istore_n k, 1)) (hk : (k : Nat) = i) : sn_V l D cA ad SK nm by_ mL rts cc own nL rt pc (sm_sti i (pc + 1)) := by
  intro p e R s m args below meth c Q C f o hi
  obtain ⟨ls, st, h⟩ := f
  simp only [sm_sti] at hi
  split at hi
  next x st' =>
    obtain ⟨ls', h1, h2⟩ := Option.map_eq_some_iff.mp hi
    subst h2
    intro G H locs la hP hS hL hN
    exact lv_istore_n C.1 C.2.1 hd hk hL.2 (Nat.lt_of_lt_of_le (sm_s1_spec _ _ _ _ h1).1 hL.1) rfl (fun la' h' => G H locs la' hP hS (hL.st1 h1 hN h') (sm_s1_nd h1 hN (fun b q => by cases q)))
  next => cases hi
theorem sv_istore {i : Nat} (hd : decode cc pc = .ok (.istore i, 2)) : sn_V l D cA ad SK nm by_ mL rts cc own nL rt pc (sm_sti i (pc + 2)) := by
  intro p e R s m args below meth c Q C f o hi
  obtain ⟨ls, st, h⟩ := f
  simp only [sm_sti] at hi
  split at hi
  next x st' =>
    obtain ⟨ls', h1, h2⟩ := Option.map_eq_some_iff.mp hi
    subst h2
    intro G H locs la hP hS hL hN
    exact lv_istore C.1 C.2.1 hd hL.2 (Nat.lt_of_lt_of_le (sm_s1_spec _ _ _ _ h1).1 hL.1) rfl (fun la' h' => G H locs la' hP hS (hL.st1 h1 hN h') (sm_s1_nd h1 hN (fun b q => by cases q)))
  next => cases hi
theorem sv_lstore_n {k : Fin 4} {i : Nat} (hd : decode cc pc = .ok (.lstore_n k, 1)) (hk : (k : Nat) = i) : sn_V l D cA ad SK nm by_ mL rts cc own nL rt pc (sm_stl i (pc + 1)) := by
  intro p e R s m args below meth c Q C f o hi
  obtain ⟨ls, st, h⟩ := f
  simp only [sm_stl] at hi
  split at hi
  next x st' =>
    obtain ⟨ls', h1, h2⟩ := Option.map_eq_some_iff.mp hi
    subst h2
    intro G H locs la hP hS hL hN
    exact lv_lstore_n C.1 C.2.1 hd hk hL.2 (Nat.lt_of_lt_of_le (sm_s2_spec _ _ _ _ h1).1 hL.1) rfl (fun la' h' => G H locs la' hP hS (hL.st2 h1 hN h') (sm_s2_nd h1 hN (fun b q => by cases q)))
  next => cases hi
theorem sv_lstore {i : Nat} (hd : decode cc pc = .ok (.lstore i, 2)) : sn_V l D cA ad SK nm by_ mL rts cc own nL rt pc (sm_stl i (pc + 2)) := by
  intro p e R s m args below meth c Q C f o hi
  obtain ⟨ls, st, h⟩ := f
  simp only [sm_stl] at hi
  split at hi
  next x st' =>
    obtain ⟨ls', h1, h2⟩ := Option.map_eq_some_iff.mp hi
    subst h2
    intro G H locs la hP hS hL hN
    exact lv_lstore C.1 C.2.1 hd hL.2 (Nat.lt_of_lt_of_le (sm_s2_spec _ _ _ _ h1).1 hL.1) rfl (fun la' h' => G H locs la' hP hS (hL.st2 h1 hN h') (sm_s2_nd h1 hN (fun b q => by cases q)))
  next => cases hi
theorem sv_astore_n {k : Fin 4} {i : Nat} (hd : decode cc pc = .ok (.astore_n k, 1)) (hk : (k : Nat) = i) : sn_V l D cA ad SK nm by_ mL rts cc own nL rt pc (sm_sta i (pc + 1)) := by
  intro p e R s m args below meth c Q C f o hi
  obtain ⟨ls, st, h⟩ := f
  simp only [sm_sta] at hi
  split at hi
  next x st' =>
    obtain ⟨ls', h1, h2⟩ := Option.map_eq_some_iff.mp hi
    subst h2
    intro G H locs la hP hS hL hN
    exact lv_astore_n C.1 C.2.1 hd hk hL.2 (Nat.lt_of_lt_of_le (sm_s1_spec _ _ _ _ h1).1 hL.1) rfl (fun la' h' => G H locs la' hP hS (hL.st1 h1 hN h') (sm_s1_nd h1 hN (fun b q => by cases q)))
  next => cases hi
theorem sv_astore {i : Nat} (hd : decode cc pc = .ok (.astore i, 2)) : sn_V l D cA ad SK nm by_ mL rts cc own nL rt pc (sm_sta i (pc + 2)) := by
  intro p e R s m args below meth c Q C f o hi
  obtain ⟨ls, st, h⟩ := f
  simp only [sm_sta] at hi
  split at hi
  next x st' =>
    obtain ⟨ls', h1, h2⟩ := Option.map_eq_some_iff.mp hi
    subst h2
    intro G H locs la hP hS hL hN
    exact lv_astore C.1 C.2.1 hd hL.2 (Nat.lt_of_lt_of_le (sm_s1_spec _ _ _ _ h1).1 hL.1) rfl (fun la' h' => G H locs la' hP hS (hL.st1 h1 hN h') (sm_s1_nd h1 hN (fun b q => by cases q)))
  next => cases hi
theorem sv_iinc {i : Nat} {n : Int} {v : Int32} (hd : decode cc pc = .ok (.iinc i n, 3)) (hv : Int32.ofInt n = v) : sn_V l D cA ad SK nm by_ mL rts cc own nL rt pc (sm_inc i v (pc + 3)) := by
  intro p e R s m args below meth c Q C f o hi
  obtain ⟨ls, st, h⟩ := f
  simp only [sm_inc] at hi
  split at hi
  next x hx =>
    obtain ⟨ls', h1, h2⟩ := Option.map_eq_some_iff.mp hi
    subst h2
    intro G H locs la hP hS hL hN
    obtain ⟨k, hk⟩ := List.getElem?_of_mem (sn_lvF_in (ad := ad) ls 0 i (.int x) hx (fun q => by cases q))
    rw [Nat.zero_add] at hk
    exact lv_iinc C.1 C.2.1 hd hL.2 hk (by rw [hv]) (Nat.lt_of_lt_of_le (sm_s1_spec _ _ _ _ h1).1 hL.1) rfl (fun la' h' => G H locs la' hP hS (hL.st1 h1 hN h') (sm_s1_nd h1 hN (fun b q => by cases q)))
  next => cases hi
theorem sv_iadd (hd : decode cc pc = .ok (.iadd, 1)) : sn_V l D cA ad SK nm by_ mL rts cc own nL rt pc (sm_bin (fun x y => x + y) (pc + 1)) := by
  intro p e R s m args below meth c Q C f o hi
  obtain ⟨ls, st, h⟩ := f
  simp only [sm_bin] at hi
  split at hi
  next x y st' =>
    obtain rfl := Option.some.inj hi
    intro G H locs la hP hS hL hN
    exact lv_iadd C.1 C.2.1 hd (G H locs la hP hS hL hN)
  next => cases hi
theorem sv_isub (hd : decode cc pc = .ok (.isub, 1)) : sn_V l D cA ad SK nm by_ mL rts cc own nL rt pc (sm_bin (fun x y => x - y) (pc + 1)) := by
  intro p e R s m args below meth c Q C f o hi
  obtain ⟨ls, st, h⟩ := f
  simp only [sm_bin] at hi
  split at hi
  next x y st' =>
    obtain rfl := Option.some.inj hi
    intro G H locs la hP hS hL hN
    exact lv_isub C.1 C.2.1 hd (G H locs la hP hS hL hN)
  next => cases hi
theorem sv_imul (hd : decode cc pc = .ok (.imul, 1)) : sn_V l D cA ad SK nm by_ mL rts cc own nL rt pc (sm_bin (fun x y => x * y) (pc + 1)) := by
  intro p e R s m args below meth c Q C f o hi
  obtain ⟨ls, st, h⟩ := f
  simp only [sm_bin] at hi
  split at hi
  next x y st' =>
    obtain rfl := Option.some.inj hi
    intro G H locs la hP hS hL hN
    exact lv_imul C.1 C.2.1 hd (G H locs la hP hS hL hN)
  next => cases hi
theorem sv_iand (hd : decode cc pc = .ok (.iand, 1)) : sn_V l D cA ad SK nm by_ mL rts cc own nL rt pc (sm_bin (fun x y => x &&& y) (pc + 1)) := by
  intro p e R s m args below meth c Q C f o hi
  obtain ⟨ls, st, h⟩ := f
  simp only [sm_bin] at hi
  split at hi
  next x y st' =>
    obtain rfl := Option.some.inj hi
    intro G H locs la hP hS hL hN
    exact lv_iand C.1 C.2.1 hd (G H locs la hP hS hL hN)
  next => cases hi
theorem sv_ior (hd : decode cc pc = .ok (.ior, 1)) : sn_V l D cA ad SK nm by_ mL rts cc own nL rt pc (sm_bin (fun x y => x ||| y) (pc + 1)) := by
  intro p e R s m args below meth c Q C f o hi
  obtain ⟨ls, st, h⟩ := f
  simp only [sm_bin] at hi
  split at hi
  next x y st' =>
    obtain rfl := Option.some.inj hi
    intro G H locs la hP hS hL hN
    exact lv_ior C.1 C.2.1 hd (G H locs la hP hS hL hN)
  next => cases hi
theorem sv_ixor (hd : decode cc pc = .ok (.ixor, 1)) : sn_V l D cA ad SK nm by_ mL rts cc own nL rt pc (sm_bin (fun x y => x ^^^ y) (pc + 1)) := by
  intro p e R s m args below meth c Q C f o hi
  obtain ⟨ls, st, h⟩ := f
  simp only [sm_bin] at hi
  split at hi
  next x y st' =>
    obtain rfl := Option.some.inj hi
    intro G H locs la hP hS hL hN
    exact lv_ixor C.1 C.2.1 hd (G H locs la hP hS hL hN)
  next => cases hi
theorem sv_ishl (hd : decode cc pc = .ok (.ishl, 1)) : sn_V l D cA ad SK nm by_ mL rts cc own nL rt pc (sm_bin (fun x y => x <<< (y &&& 31)) (pc + 1)) := by
  intro p e R s m args below meth c Q C f o hi
  obtain ⟨ls, st, h⟩ := f
  simp only [sm_bin] at hi
  split at hi
  next x y st' =>
    obtain rfl := Option.some.inj hi
    intro G H locs la hP hS hL hN
    exact lv_ishl C.1 C.2.1 hd (G H locs la hP hS hL hN)
  next => cases hi
theorem sv_ishr (hd : decode cc pc = .ok (.ishr, 1)) : sn_V l D cA ad SK nm by_ mL rts cc own nL rt pc (sm_bin (fun x y => x >>> (y &&& 31)) (pc + 1)) := by
  intro p e R s m args below meth c Q C f o hi
  obtain ⟨ls, st, h⟩ := f
  simp only [sm_bin] at hi
  split at hi
  next x y st' =>
    obtain rfl := Option.some.inj hi
    intro G H locs la hP hS hL hN
    exact lv_ishr C.1 C.2.1 hd (G H locs la hP hS hL hN)
  next => cases hi
theorem sv_iushr (hd : decode cc pc = .ok (.iushr, 1)) : sn_V l D cA ad SK nm by_ mL rts cc own nL rt pc (sm_bin (fun x y => (x.toUInt32 >>> (y.toUInt32 &&& Int32.toUInt32 31)).toInt32) (pc + 1)) := by
  intro p e R s m args below meth c Q C f o hi
  obtain ⟨ls, st, h⟩ := f
  simp only [sm_bin] at hi
  split at hi
  next x y st' =>
    obtain rfl := Option.some.inj hi
    intro G H locs la hP hS hL hN
    exact lv_iushr C.1 C.2.1 hd rfl (G H locs la hP hS hL hN)
  next => cases hi
theorem sv_ladd (hd : decode cc pc = .ok (.ladd, 1)) : sn_V l D cA ad SK nm by_ mL rts cc own nL rt pc (sm_lbin (fun x y => x + y) (pc + 1)) := by
  intro p e R s m args below meth c Q C f o hi
  obtain ⟨ls, st, h⟩ := f
  simp only [sm_lbin] at hi
  split at hi
  next x y st' =>
    obtain rfl := Option.some.inj hi
    intro G H locs la hP hS hL hN
    exact lv_ladd C.1 C.2.1 hd (G H locs la hP hS hL hN)
  next => cases hi
theorem sv_lsub (hd : decode cc pc = .ok (.lsub, 1)) : sn_V l D cA ad SK nm by_ mL rts cc own nL rt pc (sm_lbin (fun x y => x - y) (pc + 1)) := by
  intro p e R s m args below meth c Q C f o hi
  obtain ⟨ls, st, h⟩ := f
  simp only [sm_lbin] at hi
  split at hi
  next x y st' =>
    obtain rfl := Option.some.inj hi
    intro G H locs la hP hS hL hN
    exact lv_lsub C.1 C.2.1 hd (G H locs la hP hS hL hN)
  next => cases hi
theorem sv_lmul (hd : decode cc pc = .ok (.lmul, 1)) : sn_V l D cA ad SK nm by_ mL rts cc own nL rt pc (sm_lbin (fun x y => x * y) (pc + 1)) := by
  intro p e R s m args below meth c Q C f o hi
  obtain ⟨ls, st, h⟩ := f
  simp only [sm_lbin] at hi
  split at hi
  next x y st' =>
    obtain rfl := Option.some.inj hi
    intro G H locs la hP hS hL hN
    exact lv_lmul C.1 C.2.1 hd (G H locs la hP hS hL hN)
  next => cases hi
theorem sv_land (hd : decode cc pc = .ok (.land, 1)) : sn_V l D cA ad SK nm by_ mL rts cc own nL rt pc (sm_lbin (fun x y => x &&& y) (pc + 1)) := by
  intro p e R s m args below meth c Q C f o hi
  obtain ⟨ls, st, h⟩ := f
  simp only [sm_lbin] at hi
  split at hi
  next x y st' =>
    obtain rfl := Option.some.inj hi
    intro G H locs la hP hS hL hN
    exact lv_land C.1 C.2.1 hd (G H locs la hP hS hL hN)
  next => cases hi
theorem sv_lor (hd : decode cc pc = .ok (.lor, 1)) : sn_V l D cA ad SK nm by_ mL rts cc own nL rt pc (sm_lbin (fun x y => x ||| y) (pc + 1)) := by
  intro p e R s m args below meth c Q C f o hi
  obtain ⟨ls, st, h⟩ := f
  simp only [sm_lbin] at hi
  split at hi
  next x y st' =>
    obtain rfl := Option.some.inj hi
    intro G H locs la hP hS hL hN
    exact lv_lor C.1 C.2.1 hd (G H locs la hP hS hL hN)
  next => cases hi
theorem sv_lxor (hd : decode cc pc = .ok (.lxor, 1)) : sn_V l D cA ad SK nm by_ mL rts cc own nL rt pc (sm_lbin (fun x y => x ^^^ y) (pc + 1)) := by
  intro p e R s m args below meth c Q C f o hi
  obtain ⟨ls, st, h⟩ := f
  simp only [sm_lbin] at hi
  split at hi
  next x y st' =>
    obtain rfl := Option.some.inj hi
    intro G H locs la hP hS hL hN
    exact lv_lxor C.1 C.2.1 hd (G H locs la hP hS hL hN)
  next => cases hi
theorem sv_lshl (hd : decode cc pc = .ok (.lshl, 1)) : sn_V l D cA ad SK nm by_ mL rts cc own nL rt pc (sm_lsh (fun x y => x <<< (y.toInt64 &&& 63)) (pc + 1)) := by
  intro p e R s m args below meth c Q C f o hi
  obtain ⟨ls, st, h⟩ := f
  simp only [sm_lsh] at hi
  split at hi
  next x y st' =>
    obtain rfl := Option.some.inj hi
    intro G H locs la hP hS hL hN
    exact lv_lshl C.1 C.2.1 hd rfl (G H locs la hP hS hL hN)
  next => cases hi
theorem sv_lshr (hd : decode cc pc = .ok (.lshr, 1)) : sn_V l D cA ad SK nm by_ mL rts cc own nL rt pc (sm_lsh (fun x y => x >>> (y.toInt64 &&& 63)) (pc + 1)) := by
  intro p e R s m args below meth c Q C f o hi
  obtain ⟨ls, st, h⟩ := f
  simp only [sm_lsh] at hi
  split at hi
  next x y st' =>
    obtain rfl := Option.some.inj hi
    intro G H locs la hP hS hL hN
    exact lv_lshr C.1 C.2.1 hd rfl (G H locs la hP hS hL hN)
  next => cases hi
theorem sv_lushr (hd : decode cc pc = .ok (.lushr, 1)) : sn_V l D cA ad SK nm by_ mL rts cc own nL rt pc (sm_lsh (fun x y => sm_lus x y) (pc + 1)) := by
  intro p e R s m args below meth c Q C f o hi
  obtain ⟨ls, st, h⟩ := f
  simp only [sm_lsh] at hi
  split at hi
  next x y st' =>
    obtain rfl := Option.some.inj hi
    intro G H locs la hP hS hL hN
    exact lv_lushr C.1 C.2.1 hd rfl (G H locs la hP hS hL hN)
  next => cases hi
theorem sv_lcmp (hd : decode cc pc = .ok (.lcmp, 1)) : sn_V l D cA ad SK nm by_ mL rts cc own nL rt pc (sm_lcmp (pc + 1)) := by
  intro p e R s m args below meth c Q C f o hi
  obtain ⟨ls, st, h⟩ := f
  simp only [sm_lcmp] at hi
  split at hi
  next x y st' =>
    obtain rfl := Option.some.inj hi
    intro G H locs la hP hS hL hN
    exact W.lcmp C.1 C.2.1 hd (G H locs la hP hS hL hN)
  next => cases hi
theorem sv_idiv (hd : decode cc pc = .ok (.idiv, 1)) : sn_V l D cA ad SK nm by_ mL rts cc own nL rt pc (sm_idiv (pc + 1)) := by
  intro p e R s m args below meth c Q C f o hi
  obtain ⟨ls, st, h⟩ := f
  simp only [sm_idiv] at hi
  split at hi
  next x y st' =>
    split at hi
    next => cases hi
    next hne =>
      obtain rfl := Option.some.inj hi
      intro G H locs la hP hS hL hN
      exact lv_idiv C.1 C.2.1 hd hne (G H locs la hP hS hL hN)
  next => cases hi
theorem sv_irem (hd : decode cc pc = .ok (.irem, 1)) : sn_V l D cA ad SK nm by_ mL rts cc own nL rt pc (sm_irem (pc + 1)) := by
  intro p e R s m args below meth c Q C f o hi
  obtain ⟨ls, st, h⟩ := f
  simp only [sm_irem] at hi
  split at hi
  next x y st' =>
    split at hi
    next => cases hi
    next hne =>
      obtain rfl := Option.some.inj hi
      intro G H locs la hP hS hL hN
      exact lv_irem C.1 C.2.1 hd hne (G H locs la hP hS hL hN)
  next => cases hi
theorem sv_ldiv (hd : decode cc pc = .ok (.ldiv, 1)) : sn_V l D cA ad SK nm by_ mL rts cc own nL rt pc (sm_ldiv (pc + 1)) := by
  intro p e R s m args below meth c Q C f o hi
  obtain ⟨ls, st, h⟩ := f
  simp only [sm_ldiv] at hi
  split at hi
  next x y st' =>
    split at hi
    next => cases hi
    next hne =>
      obtain rfl := Option.some.inj hi
      intro G H locs la hP hS hL hN
      exact lv_ldiv C.1 C.2.1 hd hne (G H locs la hP hS hL hN)
  next => cases hi
theorem sv_lrem (hd : decode cc pc = .ok (.lrem, 1)) : sn_V l D cA ad SK nm by_ mL rts cc own nL rt pc (sm_lrem (pc + 1)) := by
  intro p e R s m args below meth c Q C f o hi
  obtain ⟨ls, st, h⟩ := f
  simp only [sm_lrem] at hi
  split at hi
  next x y st' =>
    split at hi
    next => cases hi
    next hne =>
      obtain rfl := Option.some.inj hi
      intro G H locs la hP hS hL hN
      exact lv_lrem C.1 C.2.1 hd hne (G H locs la hP hS hL hN)
  next => cases hi
theorem sv_i2b (hd : decode cc pc = .ok (.i2b, 1)) : sn_V l D cA ad SK nm by_ mL rts cc own nL rt pc (sm_ii (fun x => x.toInt8.toInt32) (pc + 1)) := by
  intro p e R s m args below meth c Q C f o hi
  obtain ⟨ls, st, h⟩ := f
  simp only [sm_ii] at hi
  split at hi
  next x st' =>
    obtain rfl := Option.some.inj hi
    intro G H locs la hP hS hL hN
    exact lv_i2b C.1 C.2.1 hd rfl (G H locs la hP hS hL hN)
  next => cases hi
theorem sv_i2s (hd : decode cc pc = .ok (.i2s, 1)) : sn_V l D cA ad SK nm by_ mL rts cc own nL rt pc (sm_ii (fun x => x.toInt16.toInt32) (pc + 1)) := by
  intro p e R s m args below meth c Q C f o hi
  obtain ⟨ls, st, h⟩ := f
  simp only [sm_ii] at hi
  split at hi
  next x st' =>
    obtain rfl := Option.some.inj hi
    intro G H locs la hP hS hL hN
    exact lv_i2s C.1 C.2.1 hd rfl (G H locs la hP hS hL hN)
  next => cases hi
theorem sv_i2c (hd : decode cc pc = .ok (.i2c, 1)) : sn_V l D cA ad SK nm by_ mL rts cc own nL rt pc (sm_ii (fun x => (x.toUInt32 % 65536).toInt32) (pc + 1)) := by
  intro p e R s m args below meth c Q C f o hi
  obtain ⟨ls, st, h⟩ := f
  simp only [sm_ii] at hi
  split at hi
  next x st' =>
    obtain rfl := Option.some.inj hi
    intro G H locs la hP hS hL hN
    exact lv_i2c C.1 C.2.1 hd rfl (G H locs la hP hS hL hN)
  next => cases hi
theorem sv_i2l (hd : decode cc pc = .ok (.i2l, 1)) : sn_V l D cA ad SK nm by_ mL rts cc own nL rt pc (sm_i2l (pc + 1)) := by
  intro p e R s m args below meth c Q C f o hi
  obtain ⟨ls, st, h⟩ := f
  simp only [sm_i2l] at hi
  split at hi
  next x st' =>
    obtain rfl := Option.some.inj hi
    intro G H locs la hP hS hL hN
    exact lv_i2l C.1 C.2.1 hd rfl (G H locs la hP hS hL hN)
  next => cases hi
theorem sv_l2i (hd : decode cc pc = .ok (.l2i, 1)) : sn_V l D cA ad SK nm by_ mL rts cc own nL rt pc (sm_l2i (pc + 1)) := by
  intro p e R s m args below meth c Q C f o hi
  obtain ⟨ls, st, h⟩ := f
  simp only [sm_l2i] at hi
  split at hi
  next x st' =>
    obtain rfl := Option.some.inj hi
    intro G H locs la hP hS hL hN
    exact lv_l2i C.1 C.2.1 hd rfl (G H locs la hP hS hL hN)
  next => cases hi
theorem sv_dup (hd : decode cc pc = .ok (.dup, 1)) : sn_V l D cA ad SK nm by_ mL rts cc own nL rt pc (sm_dup (pc + 1)) := by
  intro p e R s m args below meth c Q C f o hi
  obtain ⟨ls, st, h⟩ := f
  simp only [sm_dup] at hi
  split at hi
  next =>
    obtain rfl := Option.some.inj hi
    intro G H locs la hP hS hL hN
    exact lv_dup C.1 C.2.1 hd rfl (G H locs la hP hS hL hN)
  next =>
    obtain rfl := Option.some.inj hi
    intro G H locs la hP hS hL hN
    exact lv_dup C.1 C.2.1 hd rfl (G H locs la hP hS hL hN)
  next => cases hi
theorem sv_pop (hd : decode cc pc = .ok (.pop, 1)) : sn_V l D cA ad SK nm by_ mL rts cc own nL rt pc (sm_pop (pc + 1)) := by
  intro p e R s m args below meth c Q C f o hi
  obtain ⟨ls, st, h⟩ := f
  simp only [sm_pop] at hi
  split at hi
  next =>
    obtain rfl := Option.some.inj hi
    intro G H locs la hP hS hL hN
    exact lv_pop C.1 C.2.1 (va := .int _) hd rfl (G H locs la hP hS hL hN)
  next =>
    obtain rfl := Option.some.inj hi
    intro G H locs la hP hS hL hN
    exact lv_pop C.1 C.2.1 (va := .ref _) hd rfl (G H locs la hP hS hL hN)
  next => cases hi
theorem sv_dup2 (hd : decode cc pc = .ok (.dup2, 1)) : sn_V l D cA ad SK nm by_ mL rts cc own nL rt pc (sm_dup2 (pc + 1)) := by
  intro p e R s m args below meth c Q C f o hi
  obtain ⟨ls, st, h⟩ := f
  simp only [sm_dup2] at hi
  split at hi
  next =>
    obtain rfl := Option.some.inj hi
    intro G H locs la hP hS hL hN
    exact lv_dup2_11 C.1 C.2.1 (va := .int _) (vb := .ref _) hd rfl rfl (G H locs la hP hS hL hN)
  next =>
    obtain rfl := Option.some.inj hi
    intro G H locs la hP hS hL hN
    exact lv_dup2_2 C.1 C.2.1 (va := .long _) hd rfl (G H locs la hP hS hL hN)
  next => cases hi
theorem sv_if_eq {off : Int} {t : Nat} (hd : decode cc pc = .ok (.ifCond .eq off, 3)) (ht : (pc : Int) + off = (t : Int)) : sn_V l D cA ad SK nm by_ mL rts cc own nL rt pc (sm_if (fun x => decide (x = 0)) t (pc + 3)) := by
  intro p e R s m args below meth c Q C f o hi
  obtain ⟨ls, st, h⟩ := f
  simp only [sm_if] at hi
  split at hi
  next x st' =>
    obtain rfl := Option.some.inj hi
    intro G H locs la hP hS hL hN
    refine lv_if_eq C.1 C.2.1 hd ht (fun q => ?_) (fun q => ?_)
    · have G2 := G H locs la hP hS hL hN
      dsimp only at G2
      rw [if_pos (decide_eq_true q)] at G2
      exact G2
    · have G2 := G H locs la hP hS hL hN
      dsimp only at G2
      rw [if_neg (fun z => absurd (of_decide_eq_true z) q)] at G2
      exact G2
  next => cases hi
theorem sv_icmp_eq {off : Int} {t : Nat} (hd : decode cc pc = .ok (.if_icmp .eq off, 3)) (ht : (pc : Int) + off = (t : Int)) : sn_V l D cA ad SK nm by_ mL rts cc own nL rt pc (sm_ic (fun x y => decide (x = y)) t (pc + 3)) := by
  intro p e R s m args below meth c Q C f o hi
  obtain ⟨ls, st, h⟩ := f
  simp only [sm_ic] at hi
  split at hi
  next y x st' =>
    obtain rfl := Option.some.inj hi
    intro G H locs la hP hS hL hN
    refine lv_icmp_eq C.1 C.2.1 hd ht (fun q => ?_) (fun q => ?_)
    · have G2 := G H locs la hP hS hL hN
      dsimp only at G2
      rw [if_pos (decide_eq_true q)] at G2
      exact G2
    · have G2 := G H locs la hP hS hL hN
      dsimp only at G2
      rw [if_neg (fun z => absurd (of_decide_eq_true z) q)] at G2
      exact G2
  next => cases hi
theorem sv_if_ne {off : Int} {t : Nat} (hd : decode cc pc = .ok (.ifCond .ne off, 3)) (ht : (pc : Int) + off = (t : Int)) : sn_V l D cA ad SK nm by_ mL rts cc own nL rt pc (sm_if (fun x => decide (¬ x = 0)) t (pc + 3)) := by
  intro p e R s m args below meth c Q C f o hi
  obtain ⟨ls, st, h⟩ := f
  simp only [sm_if] at hi
  split at hi
  next x st' =>
    obtain rfl := Option.some.inj hi
    intro G H locs la hP hS hL hN
    refine lv_if_ne C.1 C.2.1 hd ht (fun q => ?_) (fun q => ?_)
    · have G2 := G H locs la hP hS hL hN
      dsimp only at G2
      rw [if_pos (decide_eq_true q)] at G2
      exact G2
    · have G2 := G H locs la hP hS hL hN
      dsimp only at G2
      rw [if_neg (fun z => absurd (of_decide_eq_true z) (fun z2 => z2 q))] at G2
      exact G2
  next => cases hi
theorem sv_icmp_ne {off : Int} {t : Nat} (hd : decode cc pc = .ok (.if_icmp .ne off, 3)) (ht : (pc : Int) + off = (t : Int)) : sn_V l D cA ad SK nm by_ mL rts cc own nL rt pc (sm_ic (fun x y => decide (¬ x = y)) t (pc + 3)) := by
  intro p e R s m args below meth c Q C f o hi
  obtain ⟨ls, st, h⟩ := f
  simp only [sm_ic] at hi
  split at hi
  next y x st' =>
    obtain rfl := Option.some.inj hi
    intro G H locs la hP hS hL hN
    refine lv_icmp_ne C.1 C.2.1 hd ht (fun q => ?_) (fun q => ?_)
    · have G2 := G H locs la hP hS hL hN
      dsimp only at G2
      rw [if_pos (decide_eq_true q)] at G2
      exact G2
    · have G2 := G H locs la hP hS hL hN
      dsimp only at G2
      rw [if_neg (fun z => absurd (of_decide_eq_true z) (fun z2 => z2 q))] at G2
      exact G2
  next => cases hi
theorem sv_if_lt {off : Int} {t : Nat} (hd : decode cc pc = .ok (.ifCond .lt off, 3)) (ht : (pc : Int) + off = (t : Int)) : sn_V l D cA ad SK nm by_ mL rts cc own nL rt pc (sm_if (fun x => decide (x < 0)) t (pc + 3)) := by
  intro p e R s m args below meth c Q C f o hi
  obtain ⟨ls, st, h⟩ := f
  simp only [sm_if] at hi
  split at hi
  next x st' =>
    obtain rfl := Option.some.inj hi
    intro G H locs la hP hS hL hN
    refine lv_if_lt C.1 C.2.1 hd ht (fun q => ?_) (fun q => ?_)
    · have G2 := G H locs la hP hS hL hN
      dsimp only at G2
      rw [if_pos (decide_eq_true q)] at G2
      exact G2
    · have G2 := G H locs la hP hS hL hN
      dsimp only at G2
      rw [if_neg (fun z => absurd (of_decide_eq_true z) q)] at G2
      exact G2
  next => cases hi
theorem sv_icmp_lt {off : Int} {t : Nat} (hd : decode cc pc = .ok (.if_icmp .lt off, 3)) (ht : (pc : Int) + off = (t : Int)) : sn_V l D cA ad SK nm by_ mL rts cc own nL rt pc (sm_ic (fun x y => decide (x < y)) t (pc + 3)) := by
  intro p e R s m args below meth c Q C f o hi
  obtain ⟨ls, st, h⟩ := f
  simp only [sm_ic] at hi
  split at hi
  next y x st' =>
    obtain rfl := Option.some.inj hi
    intro G H locs la hP hS hL hN
    refine lv_icmp_lt C.1 C.2.1 hd ht (fun q => ?_) (fun q => ?_)
    · have G2 := G H locs la hP hS hL hN
      dsimp only at G2
      rw [if_pos (decide_eq_true q)] at G2
      exact G2
    · have G2 := G H locs la hP hS hL hN
      dsimp only at G2
      rw [if_neg (fun z => absurd (of_decide_eq_true z) q)] at G2
      exact G2
  next => cases hi
theorem sv_if_ge {off : Int} {t : Nat} (hd : decode cc pc = .ok (.ifCond .ge off, 3)) (ht : (pc : Int) + off = (t : Int)) : sn_V l D cA ad SK nm by_ mL rts cc own nL rt pc (sm_if (fun x => decide (0 ≤ x)) t (pc + 3)) := by
  intro p e R s m args below meth c Q C f o hi
  obtain ⟨ls, st, h⟩ := f
  simp only [sm_if] at hi
  split at hi
  next x st' =>
    obtain rfl := Option.some.inj hi
    intro G H locs la hP hS hL hN
    refine lv_if_ge C.1 C.2.1 hd ht (fun q => ?_) (fun q => ?_)
    · have G2 := G H locs la hP hS hL hN
      dsimp only at G2
      rw [if_pos (decide_eq_true q)] at G2
      exact G2
    · have G2 := G H locs la hP hS hL hN
      dsimp only at G2
      rw [if_neg (fun z => absurd (of_decide_eq_true z) q)] at G2
      exact G2
  next => cases hi
theorem sv_icmp_ge {off : Int} {t : Nat} (hd : decode cc pc = .ok (.if_icmp .ge off, 3)) (ht : (pc : Int) + off = (t : Int)) : sn_V l D cA ad SK nm by_ mL rts cc own nL rt pc (sm_ic (fun x y => decide (y ≤ x)) t (pc + 3)) := by
  intro p e R s m args below meth c Q C f o hi
  obtain ⟨ls, st, h⟩ := f
  simp only [sm_ic] at hi
  split at hi
  next y x st' =>
    obtain rfl := Option.some.inj hi
    intro G H locs la hP hS hL hN
    refine lv_icmp_ge C.1 C.2.1 hd ht (fun q => ?_) (fun q => ?_)
    · have G2 := G H locs la hP hS hL hN
      dsimp only at G2
      rw [if_pos (decide_eq_true q)] at G2
      exact G2
    · have G2 := G H locs la hP hS hL hN
      dsimp only at G2
      rw [if_neg (fun z => absurd (of_decide_eq_true z) q)] at G2
      exact G2
  next => cases hi
theorem sv_if_gt {off : Int} {t : Nat} (hd : decode cc pc = .ok (.ifCond .gt off, 3)) (ht : (pc : Int) + off = (t : Int)) : sn_V l D cA ad SK nm by_ mL rts cc own nL rt pc (sm_if (fun x => decide (0 < x)) t (pc + 3)) := by
  intro p e R s m args below meth c Q C f o hi
  obtain ⟨ls, st, h⟩ := f
  simp only [sm_if] at hi
  split at hi
  next x st' =>
    obtain rfl := Option.some.inj hi
    intro G H locs la hP hS hL hN
    refine lv_if_gt C.1 C.2.1 hd ht (fun q => ?_) (fun q => ?_)
    · have G2 := G H locs la hP hS hL hN
      dsimp only at G2
      rw [if_pos (decide_eq_true q)] at G2
      exact G2
    · have G2 := G H locs la hP hS hL hN
      dsimp only at G2
      rw [if_neg (fun z => absurd (of_decide_eq_true z) q)] at G2
      exact G2
  next => cases hi
theorem sv_icmp_gt {off : Int} {t : Nat} (hd : decode cc pc = .ok (.if_icmp .gt off, 3)) (ht : (pc : Int) + off = (t : Int)) : sn_V l D cA ad SK nm by_ mL rts cc own nL rt pc (sm_ic (fun x y => decide (y < x)) t (pc + 3)) := by
  intro p e R s m args below meth c Q C f o hi
  obtain ⟨ls, st, h⟩ := f
  simp only [sm_ic] at hi
  split at hi
  next y x st' =>
    obtain rfl := Option.some.inj hi
    intro G H locs la hP hS hL hN
    refine lv_icmp_gt C.1 C.2.1 hd ht (fun q => ?_) (fun q => ?_)
    · have G2 := G H locs la hP hS hL hN
      dsimp only at G2
      rw [if_pos (decide_eq_true q)] at G2
      exact G2
    · have G2 := G H locs la hP hS hL hN
      dsimp only at G2
      rw [if_neg (fun z => absurd (of_decide_eq_true z) q)] at G2
      exact G2
  next => cases hi
theorem sv_if_le {off : Int} {t : Nat} (hd : decode cc pc = .ok (.ifCond .le off, 3)) (ht : (pc : Int) + off = (t : Int)) : sn_V l D cA ad SK nm by_ mL rts cc own nL rt pc (sm_if (fun x => decide (x ≤ 0)) t (pc + 3)) := by
  intro p e R s m args below meth c Q C f o hi
  obtain ⟨ls, st, h⟩ := f
  simp only [sm_if] at hi
  split at hi
  next x st' =>
    obtain rfl := Option.some.inj hi
    intro G H locs la hP hS hL hN
    refine lv_if_le C.1 C.2.1 hd ht (fun q => ?_) (fun q => ?_)
    · have G2 := G H locs la hP hS hL hN
      dsimp only at G2
      rw [if_pos (decide_eq_true q)] at G2
      exact G2
    · have G2 := G H locs la hP hS hL hN
      dsimp only at G2
      rw [if_neg (fun z => absurd (of_decide_eq_true z) q)] at G2
      exact G2
  next => cases hi
theorem sv_icmp_le {off : Int} {t : Nat} (hd : decode cc pc = .ok (.if_icmp .le off, 3)) (ht : (pc : Int) + off = (t : Int)) : sn_V l D cA ad SK nm by_ mL rts cc own nL rt pc (sm_ic (fun x y => decide (x ≤ y)) t (pc + 3)) := by
  intro p e R s m args below meth c Q C f o hi
  obtain ⟨ls, st, h⟩ := f
  simp only [sm_ic] at hi
  split at hi
  next y x st' =>
    obtain rfl := Option.some.inj hi
    intro G H locs la hP hS hL hN
    refine lv_icmp_le C.1 C.2.1 hd ht (fun q => ?_) (fun q => ?_)
    · have G2 := G H locs la hP hS hL hN
      dsimp only at G2
      rw [if_pos (decide_eq_true q)] at G2
      exact G2
    · have G2 := G H locs la hP hS hL hN
      dsimp only at G2
      rw [if_neg (fun z => absurd (of_decide_eq_true z) q)] at G2
      exact G2
  next => cases hi
theorem sv_goto {off : Int} {t : Nat} (hd : decode cc pc = .ok (.goto off, 3)) (ht : (pc : Int) + off = (t : Int)) : sn_V l D cA ad SK nm by_ mL rts cc own nL rt pc (sm_go t) := by
  intro p e R s m args below meth c Q C f o hi
  obtain ⟨ls, st, h⟩ := f
  obtain rfl := Option.some.inj hi
  intro G H locs la hP hS hL hN
  exact lv_goto C.1 C.2.1 hd ht (G H locs la hP hS hL hN)
theorem sv_ret (hd : decode cc pc = .ok (.return_, 1)) (hr : rt = none) : sn_V l D cA ad SK nm by_ mL rts cc own nL rt pc (sm_r0) := by
  intro p e R s m args below meth c Q C f o hi
  obtain ⟨ls, st, h⟩ := f
  simp only [sm_r0] at hi
  split at hi
  next =>
    obtain rfl := Option.some.inj hi
    intro hQ H locs la hP hS hL hN
    subst hQ
    exact W.vret C.1 C.2.1 (by rw [C.2.2.2.2.2.1, hr]) (fun t ht hw => ⟨rfl, by rw [ht]; exact hP, hS.F ht⟩) (fun q hq => hS.2.2 q hq) hd C.2.2.2.2.2.2.1
  next => cases hi
theorem sv_iret (hd : decode cc pc = .ok (.ireturn, 1)) (hr : rt = some .int) : sn_V l D cA ad SK nm by_ mL rts cc own nL rt pc (sm_ri) := by
  intro p e R s m args below meth c Q C f o hi
  obtain ⟨ls, st, h⟩ := f
  simp only [sm_ri] at hi
  split at hi
  next =>
    obtain rfl := Option.some.inj hi
    intro hQ H locs la hP hS hL hN
    subst hQ
    exact W.iret C.1 C.2.1 (by rw [C.2.2.2.2.2.1, hr]) (fun t ht hw => ⟨rfl, by rw [ht]; exact hP, hS.F ht⟩) (fun q hq => hS.2.2 q hq) hd C.2.2.2.2.2.2.1
  next => cases hi
theorem sv_lret (hd : decode cc pc = .ok (.lreturn, 1)) (hr : rt = some .long) : sn_V l D cA ad SK nm by_ mL rts cc own nL rt pc (sm_rl) := by
  intro p e R s m args below meth c Q C f o hi
  obtain ⟨ls, st, h⟩ := f
  simp only [sm_rl] at hi
  split at hi
  next =>
    obtain rfl := Option.some.inj hi
    intro hQ H locs la hP hS hL hN
    subst hQ
    exact W.lret C.1 C.2.1 (by rw [C.2.2.2.2.2.1, hr]) (fun t ht hw => ⟨rfl, by rw [ht]; exact hP, hS.F ht⟩) (fun q hq => hS.2.2 q hq) hd C.2.2.2.2.2.2.1
  next => cases hi
theorem sv_aret (hd : decode cc pc = .ok (.areturn, 1)) {n : String} (hr : rt = some (.object n)) : sn_V l D cA ad SK nm by_ mL rts cc own nL rt pc (sm_ra) := by
  intro p e R s m args below meth c Q C f o hi
  obtain ⟨ls, st, h⟩ := f
  simp only [sm_ra] at hi
  split at hi
  next =>
    obtain rfl := Option.some.inj hi
    intro hQ H locs la hP hS hL hN
    subst hQ
    exact W.aret C.1 C.2.1 (by rw [C.2.2.2.2.2.1, hr]) (Or.inl ⟨_, rfl⟩) (Or.inr ⟨_, rfl⟩) (fun t ht hw => ⟨rfl, by rw [ht]; exact hP, hS.F ht⟩) (fun q hq => hS.2.2 q hq) hd C.2.2.2.2.2.2.1
  next => cases hi
theorem sv_zret (hd : decode cc pc = .ok (.ireturn, 1)) (hr : rt = some .boolean) : sn_V l D cA ad SK nm by_ mL rts cc own nL rt pc (sm_rz) := by
  intro p e R s m args below meth c Q C f o hi
  obtain ⟨ls, st, h⟩ := f
  simp only [sm_rz] at hi
  split at hi
  next x =>
    split at hi
    next hx =>
      obtain rfl := Option.some.inj hi
      intro hQ H locs la hP hS hL hN
      subst hQ
      exact W.zret C.1 C.2.1 (by rw [C.2.2.2.2.2.1, hr]) (by rcases hx with rfl | rfl <;> rfl) (fun t ht hw => ⟨rfl, by rw [ht]; exact hP, hS.F ht⟩) (fun q hq => hS.2.2 q hq) hd C.2.2.2.2.2.2.1
    next => cases hi
  next => cases hi
end SNV
