/-! ===== the rows of a constructor ===== -/
def g_C (D : va_G) (cA : Nat → ClassId) (ad : Nat → Nat) (b : Nat) (p : Program) (R : Room) (s : State) (m : MethodId) (args : Array Value) (meth : Method) (c : Code) (cc : ByteArray) (own : String) (nL : Nat) (ini : Bool) : Prop :=
  p.tables.exec = Jvm.exec ∧ c.code = cc ∧ c.maxLocals = nL ∧ s.vm.findClass own = some m.cls ∧ (∀ w ∈ sm_wl, w.before args s = true) ∧ va_K D sm_cls (sm_tys cA) s ∧ 1 ≤ R.frames ∧ 40 ≤ R.locals ∧ (∀ i, i < 187 → ad i = b + i) ∧ b ≤ s.heap.size ∧ g_N s ∧ (ini = true → meth.name = "<init>" ∧ meth.sig.returnType = none ∧ meth.locks = false)
def g_G (l : Launch) (D : va_G) (cA : Nat → ClassId) (ad : Nat → Nat) (b : Nat) (p : Program) (e : Env) (R : Room) (s : State) (m : MethodId) (args : Array Value) (below : List Frame) (meth : Method) (c : Code) (Q : State → Prop) (nL : Nat) (cells slots pc : Nat) (lv : List (Nat × Value)) (st : List Value) (g : gS) : Prop :=
  ∀ (H : Heap) (locs : List Loc) (la : Array Slot), g_ok g → va_P D sm_cls (g_ws cA ad g) H → s.heap.size + cells = b + g.1 → va_S (fun q => b ≤ q) s.heap H locs → lv_has la nL lv → W p l e R s m args below meth c H locs cells slots Q (F0 m pc la st)
def g_Pc (D : va_G) (cA : Nat → ClassId) (ad : Nat → Nat) (b : Nat) (as : List Value) (g : gS) : Array Value → State → Prop := va_Pc as (fun U => g_ok g ∧ va_P D sm_cls (g_ws cA ad g) U.heap ∧ U.heap.size = b + g.1 ∧ va_K D sm_cls (sm_tys cA) U ∧ g_N U)
def g_Qc (D : va_G) (cA : Nat → ClassId) (ad : Nat → Nat) (b : Nat) (g : gS) : Array Value → State → Outcome → State → Prop := fun _ st oc t => oc = .returned none ∧ g_ok g ∧ va_P D sm_cls (g_ws cA ad g) t.heap ∧ t.heap.size = b + g.1 ∧ va_F (fun q => b ≤ q) st t
def g_rm (d mc ms : Nat) : Room := { frames := d + 1, cells := mc, slots := ms, locals := 40 * (d + 1) }
theorem g_blind {D : va_G} {cA : Nat → ClassId} {ad : Nat → Nat} {b : Nat} {as : List Value} {g : gS} : FrameBlind (g_Pc D cA ad b as g) := fun a U g mk q => ⟨q.1, q.2.1, q.2.2.1, q.2.2.2.1, va_K.moved (u := U) (U := U.calling g mk a) (Vm.Alike.refl U.vm) q.2.2.2.2.1, g_N.same (u := U) (U := U.calling g mk a) rfl q.2.2.2.2.2⟩
section GR
variable {l : Launch} {D : va_G} {cA : Nat → ClassId} {ad : Nat → Nat} {b : Nat} {p : Program} {e : Env} {R : Room} {s : State} {m : MethodId} {args : Array Value} {below : List Frame} {meth : Method} {c : Code} {Q : State → Prop} {cc : ByteArray} {own : String} {nL cells slots pc : Nat} {lv : List (Nat × Value)} {st : List Value} {g : gS} {ini : Bool}
theorem gq_aload {k : Fin 4} {i x : Nat} (C : g_C D cA ad b p R s m args meth c cc own nL ini) (hd : decode cc pc = .ok (.aload_n k, 1)) (hk : (k : Nat) = i) (pl : Nat) (hp : lv[pl]? = some (i, .ref x)) (G : g_G l D cA ad b p e R s m args below meth c Q nL cells slots (pc + 1) lv (.ref x :: st) g) : g_G l D cA ad b p e R s m args below meth c Q nL cells slots pc lv st g := fun H locs la z hP hz hS hl => lv_aload_n C.1 C.2.1 hd hk (lv_at hl pl hp) (G H locs la z hP hz hS hl)
theorem gq_iload {k : Fin 4} {i : Nat} {x : Int32} (C : g_C D cA ad b p R s m args meth c cc own nL ini) (hd : decode cc pc = .ok (.iload_n k, 1)) (hk : (k : Nat) = i) (pl : Nat) (hp : lv[pl]? = some (i, .int x)) (G : g_G l D cA ad b p e R s m args below meth c Q nL cells slots (pc + 1) lv (.int x :: st) g) : g_G l D cA ad b p e R s m args below meth c Q nL cells slots pc lv st g := fun H locs la z hP hz hS hl => lv_iload_n C.1 C.2.1 hd hk (lv_at hl pl hp) (G H locs la z hP hz hS hl)
theorem gq_iconst {n : Int} {v : Int32} (C : g_C D cA ad b p R s m args meth c cc own nL ini) (hd : decode cc pc = .ok (.iconst n, 1)) (hv : Int32.ofInt n = v) (G : g_G l D cA ad b p e R s m args below meth c Q nL cells slots (pc + 1) lv (.int v :: st) g) : g_G l D cA ad b p e R s m args below meth c Q nL cells slots pc lv st g := fun H locs la z hP hz hS hl => lv_iconst C.1 C.2.1 hd hv (G H locs la z hP hz hS hl)
theorem gq_bipush {n : Int} {v : Int32} (C : g_C D cA ad b p R s m args meth c cc own nL ini) (hd : decode cc pc = .ok (.bipush n, 2)) (hv : (Int8.ofInt n).toInt32 = v) (G : g_G l D cA ad b p e R s m args below meth c Q nL cells slots (pc + 2) lv (.int v :: st) g) : g_G l D cA ad b p e R s m args below meth c Q nL cells slots pc lv st g := fun H locs la z hP hz hS hl => lv_bipush C.1 C.2.1 hd hv (G H locs la z hP hz hS hl)
theorem gq_sipush {n : Int} {v : Int32} (C : g_C D cA ad b p R s m args meth c cc own nL ini) (hd : decode cc pc = .ok (.sipush n, 3)) (hv : (Int16.ofInt n).toInt32 = v) (G : g_G l D cA ad b p e R s m args below meth c Q nL cells slots (pc + 3) lv (.int v :: st) g) : g_G l D cA ad b p e R s m args below meth c Q nL cells slots pc lv st g := fun H locs la z hP hz hS hl => lv_sipush C.1 C.2.1 hd hv (G H locs la z hP hz hS hl)
theorem gq_ldc {n : Nat} {v : Int32} (C : g_C D cA ad b p R s m args meth c cc own nL ini) (hd : decode cc pc = .ok (.ldc n, 2)) (hm : Cond.constant own n v ∈ sm_wl) (G : g_G l D cA ad b p e R s m args below meth c Q nL cells slots (pc + 2) lv (.int v :: st) g) : g_G l D cA ad b p e R s m args below meth c Q nL cells slots pc lv st g := fun H locs la z hP hz hS hl => lv_ldc C.1 C.2.1 C.2.2.2.1 (C.2.2.2.2.1 _ hm) hd (G H locs la z hP hz hS hl)
theorem gq_dup {v : Value} (C : g_C D cA ad b p R s m args meth c cc own nL ini) (hd : decode cc pc = .ok (.dup, 1)) (hv : v.category = 1) (G : g_G l D cA ad b p e R s m args below meth c Q nL cells slots (pc + 1) lv (v :: v :: st) g) : g_G l D cA ad b p e R s m args below meth c Q nL cells slots pc lv (v :: st) g := fun H locs la z hP hz hS hl => lv_dup C.1 C.2.1 hd hv (G H locs la z hP hz hS hl)
theorem gq_goto {off : Int} {tgt : Nat} (C : g_C D cA ad b p R s m args meth c cc own nL ini) (hd : decode cc pc = .ok (.goto off, 3)) (ht : (pc : Int) + off = (tgt : Int)) (G : g_G l D cA ad b p e R s m args below meth c Q nL cells slots tgt lv st g) : g_G l D cA ad b p e R s m args below meth c Q nL cells slots pc lv st g := fun H locs la z hP hz hS hl => lv_goto C.1 C.2.1 hd ht (G H locs la z hP hz hS hl)
theorem gq_ge_f {x y : Int32} {off : Int} {tgt : Nat} (C : g_C D cA ad b p R s m args meth c cc own nL ini) (hd : decode cc pc = .ok (.if_icmp .ge off, 3)) (ht : (pc : Int) + off = (tgt : Int)) (hn : ¬ y ≤ x) (G : g_G l D cA ad b p e R s m args below meth c Q nL cells slots (pc + 3) lv st g) : g_G l D cA ad b p e R s m args below meth c Q nL cells slots pc lv (.int y :: .int x :: st) g := fun H locs la z hP hz hS hl => lv_icmp_ge C.1 C.2.1 hd ht (fun q => absurd q hn) (fun _ => G H locs la z hP hz hS hl)
theorem gq_ge_t {x y : Int32} {off : Int} {tgt : Nat} (C : g_C D cA ad b p R s m args meth c cc own nL ini) (hd : decode cc pc = .ok (.if_icmp .ge off, 3)) (ht : (pc : Int) + off = (tgt : Int)) (hn : y ≤ x) (G : g_G l D cA ad b p e R s m args below meth c Q nL cells slots tgt lv st g) : g_G l D cA ad b p e R s m args below meth c Q nL cells slots pc lv (.int y :: .int x :: st) g := fun H locs la z hP hz hS hl => lv_icmp_ge C.1 C.2.1 hd ht (fun _ => G H locs la z hP hz hS hl) (fun q => absurd hn q)
theorem gq_istore {k : Fin 4} {i : Nat} {x : Int32} {lv' : List (Nat × Value)} (C : g_C D cA ad b p R s m args meth c cc own nL ini) (hd : decode cc pc = .ok (.istore_n k, 1)) (hk : (k : Nat) = i) (hn : i < nL) (hv : (i, Value.int x) :: lv.filter (fun q => !(q.1 == i) && !(q.1 + 1 == i && q.2.category == 2)) = lv') (G : g_G l D cA ad b p e R s m args below meth c Q nL cells slots (pc + 1) lv' st g) : g_G l D cA ad b p e R s m args below meth c Q nL cells slots pc lv (.int x :: st) g := fun H locs la z hP hz hS hl => lv_istore_n C.1 C.2.1 hd hk hl hn hv (fun la' hl' => G H locs la' z hP hz hS hl')
theorem gq_iinc {i k : Nat} {n : Int} {x v : Int32} {lv' : List (Nat × Value)} (C : g_C D cA ad b p R s m args meth c cc own nL ini) (hd : decode cc pc = .ok (.iinc i n, 3)) (hk : lv[k]? = some (i, .int x)) (hv : x + Int32.ofInt n = v) (hn : i < nL) (hw : (i, Value.int v) :: lv.filter (fun q => !(q.1 == i) && !(q.1 + 1 == i && q.2.category == 2)) = lv') (G : g_G l D cA ad b p e R s m args below meth c Q nL cells slots (pc + 3) lv' st g) : g_G l D cA ad b p e R s m args below meth c Q nL cells slots pc lv st g := fun H locs la z hP hz hS hl => lv_iinc C.1 C.2.1 hd hl hk hv hn hw (fun la' hl' => G H locs la' z hP hz hS hl')
theorem gq_oinit {idx a : Nat} (C : g_C D cA ad b p R s m args meth c cc own nL ini) (hd : decode cc pc = .ok (.invokespecial idx, 3)) (hlink : Cond.methodLink own idx Lib.objectInit ∈ sm_wl) (hinst : Cond.instanceMethod Lib.objectInit ∈ sm_wl) (hcode : Cond.code Lib.objectInit ⟨#[0xb1]⟩ 1 none ∈ sm_wl) (hst : (st.map fun v => v.category).sum ≤ 8) (G : g_G l D cA ad b p e R s m args below meth c Q nL cells slots (pc + 3) lv st g) : g_G l D cA ad b p e R s m args below meth c Q nL cells slots pc lv (.ref a :: st) g := fun H locs la z hP hz hS hl => W.objInit C.1 C.2.1 C.2.2.2.1 (C.2.2.2.2.1 _ hlink) (C.2.2.2.2.1 _ hinst) (C.2.2.2.2.1 _ hcode) rfl (by rw [C.2.2.1]; exact hl.1) rfl hd C.2.2.2.2.2.2.1 (by have := C.2.2.2.2.2.2.2.1; have h2 : (F0 m pc la (.ref a :: st)).monitorRoom = 0 := rfl; omega) (G H locs la z hP hz hS hl)
theorem g_sz {H : Heap} {locs : List Loc} {fr : JFrame} (had : ∀ i, i < 187 → ad i = b + i) (hbs : b ≤ s.heap.size) (z : g_ok g) (hP : va_P D sm_cls (g_ws cA ad g) H) (hn : s.heap.size + cells = b + g.1) (hS : va_S (fun q => b ≤ q) s.heap H locs) (kk : H.size = b + g.1 → W p l e R s m args below meth c H locs cells slots Q fr) : W p l e R s m args below meth c H locs cells slots Q fr := by
  intro T hT X
  have h1 := X.heapSize
  have h2 : T.heap.size = H.size := by rw [hT]
  have h3 := z.1
  have h4 : b + g.1 ≤ H.size := by
    rcases Nat.eq_zero_or_pos g.1 with y | y
    · have := hS.1; omega
    · have := (hP (g.1 - 1) _ (g_at (by omega))).lt
      have e0 : ad (g.1 - 1) = b + (g.1 - 1) := had _ (by omega)
      have : ad (g.1 - 1) < H.size := this
      omega
  exact kk (by omega) T hT X
theorem g_grow {H H1 : Heap} {locs : List Loc} {k : Nat} {s : State} (hS : va_S (fun q => b ≤ q) s.heap H locs) (z1 : H.size ≤ H1.size) (o1 : ∀ q, q < H.size → H1[q]? = H[q]?) : va_S (fun q => b ≤ q) s.heap H1 locs := ⟨Nat.le_trans hS.1 z1, fun x h1 h2 => (o1 x (Nat.lt_of_lt_of_le h1 hS.1)).trans (hS.2.1 x h1 h2), hS.2.2⟩
theorem g_keep {H H1 : Heap} (hP : va_P D sm_cls (g_ws cA ad g) H) (hz : H.size = b + g.1) (had : ∀ i, i < 187 → ad i = b + i) (hk : g.1 ≤ 187) (o1 : ∀ q, q < H.size → H1[q]? = H[q]?) : va_P D sm_cls (g_ws cA ad g) H1 := hP.kept (fun k q hq => by
  obtain ⟨h1, rfl⟩ := g_ofat hq
  show H1[ad k]? = H[ad k]?
  rw [had k (by omega)]
  exact o1 _ (by omega))
def g_def (kind : Nat) : Value := if kind = 0 then .int 0 else if kind = 1 then .long 0 else .null
theorem g_fld_new {i j kind : Nat} (z : g_ok g) (hi : g.1 ≤ i) : g_fld ad g i j kind = g_def kind := by
  obtain ⟨a, b, c⟩ := z.2 i j hi
  unfold g_fld g_def
  rw [a, b, c]
  rfl
theorem gq_new {ci idx : Nat} {C0 : String} {T : u_T} {N : Nat} (C : g_C D cA ad b p R s m args meth c cc own nL ini) (hd : decode cc pc = .ok (.new idx, 3)) (hc : sm_cls[ci]? = some (C0, T, N)) (hin : ∀ w ∈ u_ws C0 T N, w ∈ sm_wl) (ty : Nat → FieldType) (hty : ∀ k, k < N → parseFieldDescriptor (T k).2.2.1 = some (ty k)) (hN : sm_fn ci = N) (hlink : Cond.classLink own idx C0 ∈ sm_wl) (hinst : Cond.instantiable C0 N ∈ sm_wl) (hini : Cond.initialized C0 ∈ sm_wl) (hdf : ∀ j, j < N → defaultValue (ty j) = g_def (sm_fk ci j)) (hkd : sm_kd g.1 = 10 + ci) (hk : g.1 < 187) (hcells : cells + 1 ≤ R.cells) (hslots : slots + N ≤ R.slots) (G : g_G l D cA ad b p e R s m args below meth c Q nL (cells + 1) (slots + N) (pc + 3) lv (.ref (ad g.1) :: st) (g_s g 1)) : g_G l D cA ad b p e R s m args below meth c Q nL cells slots pc lv st g := by
  intro H locs la z hP hz hS hl
  obtain ⟨hx, hb, -, hown, hts, hK, -, -, had, hbs, -⟩ := C
  have hKn := hK.1 ci _ hc
  refine g_sz had hbs z hP hz hS (fun hy => ?_)
  have ha : ad g.1 = H.size := by rw [had _ hk, hy]
  refine W.newcK hx hb hown (hts _ hlink) (hts _ hinst) (hts _ hini) rfl hd hcells hslots hKn.2.1 rfl fun H1 kC hkC e1 z1 o1 => ?_
  have hP1 : va_P D sm_cls (g_ws cA ad (g_s g 1)) H1 := by
    rw [g_ws_s]
    refine (g_keep hP hy had (by omega) o1).app (fun k x hx => ?_)
    have hk0 : k = 0 := by have := (List.getElem?_eq_some_iff.mp hx).1; simp at this; exact this
    subst hk0
    obtain rfl := Option.some.inj hx
    rw [g_cell_obj hkd]
    refine ⟨_, hc, ?_⟩
    show t_OB (ad g.1) (D.1 ci) N (D.2 ci) H1 (vp_V (g_fs ad g g.1))
    rw [ha]
    refine (u_born ty hts hin hKn hkC e1 hty).to (fun j hj => ?_)
    have h1 := g_fs_at (ad := ad) (g := g) (k := j) hkd (by omega)
    show defaultValue (ty j) = (g_fs ad g g.1).getD j .null
    rw [List.getD_eq_getElem?_getD, h1, g_fld_new z (Nat.le_refl _)]
    exact hdf j hj
  rw [ha] at G
  exact G H1 locs la (g_ok_s z (by omega)) hP1 (by show s.heap.size + (cells + 1) = b + (g.1 + 1); omega) (g_grow (k := 0) hS (by omega) o1) hl
theorem gq_newa {atype : ArrayType} {ty : FieldType} {t : Nat} {v : Int32} {N : Nat} (C : g_C D cA ad b p R s m args meth c cc own nL ini) (hd : decode cc pc = .ok (.newarray atype, 2)) (hty : newarray.typeOf atype = ty) (harr : Cond.arrayClass ty ∈ sm_wl) (ht : (sm_tys cA)[t]? = some (cA t, ty)) (ht4 : t < 4) (hra : va_RA s (cA t) ty → s.vm.findClass ("[" ++ ty.toString) = some (cA t)) (hdf : defaultValue ty = if t = 3 then .long 0 else .int 0) (hv : ¬ v < 0) (hN : v.toNatClampNeg = N) (hkd : sm_kd g.1 = t) (hln : sm_ln g.1 = N) (hk : g.1 < 187) (hbytes : N * componentBytes ty ≤ 536870912) (hcells : cells + 1 ≤ R.cells) (hslots : slots + N ≤ R.slots) (G : g_G l D cA ad b p e R s m args below meth c Q nL (cells + 1) (slots + N) (pc + 2) lv (.ref (ad g.1) :: st) (g_s g 1)) : g_G l D cA ad b p e R s m args below meth c Q nL cells slots pc lv (.int v :: st) g := by
  intro H locs la z hP hz hS hl
  obtain ⟨hx, hb, -, hown, hts, hK, -, -, had, hbs, -⟩ := C
  subst hty
  refine g_sz had hbs z hP hz hS (fun hy => ?_)
  have ha : ad g.1 = H.size := by rw [had _ hk, hy]
  refine va_newaK hx hb (hts _ harr) rfl hd rfl hv hN hbytes hcells hslots rfl fun H1 cA' e1 z1 o1 hAr hNm => ?_
  have hcA : cA' = cA t := Option.some.inj (hNm.symm.trans (hra (hK.2 t _ ht).2))
  have hP1 : va_P D sm_cls (g_ws cA ad (g_s g 1)) H1 := by
    rw [g_ws_s]
    refine (g_keep hP hy had (by omega) o1).app (fun k x hx => ?_)
    have hk0 : k = 0 := by have := (List.getElem?_eq_some_iff.mp hx).1; simp at this; exact this
    subst hk0
    obtain rfl := Option.some.inj hx
    rw [g_cell_arr (by omega)]
    show H1[ad g.1]? = some (vp_cell (cA (sm_kd g.1)) (g_ar ad g g.1))
    rw [ha, e1, hcA, hkd, hdf]
    by_cases h3 : t = 3
    · rw [g_ar_l (by omega), if_pos h3, hln, vp_cell_l, show (g.2.2.1 g.1) = (fun _ => 0) from funext fun j => (z.2 g.1 j (Nat.le_refl _)).2.1]
    · rw [g_ar_i (by omega), if_neg h3, hln, vp_cell_i, show (g.2.1 g.1) = (fun _ => 0) from funext fun j => (z.2 g.1 j (Nat.le_refl _)).1]
  rw [ha] at G
  exact G H1 locs la (g_ok_s z (by omega)) hP1 (by show s.heap.size + (cells + 1) = b + (g.1 + 1); omega) (g_grow (k := 0) hS (by omega) o1) hl
theorem gq_newq {C0 : String} {idx t : Nat} {v : Int32} {N : Nat} (C : g_C D cA ad b p R s m args meth c cc own nL ini) (hd : decode cc pc = .ok (.anewarray idx, 3)) (hlink : Cond.classLink own idx C0 ∈ sm_wl) (hover : va_AO C0 s) (ht : (sm_tys cA)[t]? = some (cA t, .object C0)) (ht4 : 4 ≤ t ∧ t < 7) (hv : ¬ v < 0) (hN : v.toNatClampNeg = N) (hkd : sm_kd g.1 = t) (hln : sm_ln g.1 = N) (hk : g.1 < 187) (hbytes : N * 4 ≤ 536870912) (hcells : cells + 1 ≤ R.cells) (hslots : slots + N ≤ R.slots) (G : g_G l D cA ad b p e R s m args below meth c Q nL (cells + 1) (slots + N) (pc + 3) lv (.ref (ad g.1) :: st) (g_s g 1)) : g_G l D cA ad b p e R s m args below meth c Q nL cells slots pc lv (.int v :: st) g := by
  intro H locs la z hP hz hS hl
  obtain ⟨hx, hb, -, hown, hts, hK, -, -, had, hbs, -⟩ := C
  subst hN
  refine g_sz had hbs z hP hz hS (fun hy => ?_)
  have ha : ad g.1 = H.size := by rw [had _ hk, hy]
  refine W.anew hx hb hown (hts _ hlink) (va_AO.use hover) rfl hd rfl hv hbytes hcells hslots fun cA' kA comp f1 f2 f3 f4 => ?_
  generalize hH1 : H.push ({ cls := cA', slots := Array.replicate v.toNatClampNeg .null, vm := .none } : Cell) = H1
  have z1 : H1.size = H.size + 1 := by rw [← hH1, Array.size_push]
  have e1 : H1[H.size]? = some (arrV cA' v.toNatClampNeg (fun _ => .null)) := by rw [← hH1, Array.getElem?_push_size, gm_rep]
  have o1 : ∀ q : Nat, q < H.size → H1[q]? = H[q]? := fun q hq => by rw [← hH1, Array.getElem?_push, if_neg (Nat.ne_of_lt hq)]
  obtain ⟨-, kA', comp', -, -, -, hnm⟩ := hK.2 t _ ht
  have hcA : cA' = cA t := Option.some.inj (f1.symm.trans hnm)
  have hP1 : va_P D sm_cls (g_ws cA ad (g_s g 1)) H1 := by
    rw [g_ws_s]
    refine (g_keep hP hy had (by omega) o1).app (fun k x hx => ?_)
    have hk0 : k = 0 := by have := (List.getElem?_eq_some_iff.mp hx).1; simp at this; exact this
    subst hk0
    obtain rfl := Option.some.inj hx
    rw [g_cell_arr (by omega)]
    show H1[ad g.1]? = some (vp_cell (cA (sm_kd g.1)) (g_ar ad g g.1))
    rw [ha, e1, hcA, hkd, g_ar_r (by omega), hln, vp_cell_q, show (fun j => va_rf ((g.2.2.2 g.1 j).map ad)) = (fun _ => .null) from funext fun j => by rw [(z.2 g.1 j (Nat.le_refl _)).2.2]; rfl]
  rw [ha] at G
  exact G H1 locs la (g_ok_s z (by omega)) hP1 (by show s.heap.size + (cells + 1) = b + (g.1 + 1); omega) (g_grow (k := 0) hS (by omega) o1) hl
end GR
