/-! ===== the law's entry: the skeleton's words, what holds there ===== -/
def R_law : String := "BackBridgeLaw"
def lw_P (b : Addr) (xs : List Int32) (args : Array Value) (s : State) : Prop := args = #[.ref b] ∧ s.IntsAt b xs ∧ xs.length ≤ 3072 ∧ (Jvm.Cond.and given_1 narrow_1).before args s = true
def lw_Q (_ : Array Value) (s : State) (o : Outcome) (t : State) : Prop := o = .returned (some (.int 1)) ∧ Framed s o t [] 600000 7302250
def lw_Z (below : List Frame) (a : Array Value) (s : State) : State → Prop := fun t => ∃ o, t.status = .running ∧ Ended t below o ∧ lw_Q a s o t
/-- the law's own end, with 1 on the stack, nothing written that was there before, its room as the claim has it -/
theorem lw_ret {p : Program} {l : Launch} {e : Env} {s : State} {m : MethodId} {below : List Frame} {meth : Method} {c : Code} {b : Nat} (hx : p.tables.exec = Jvm.exec) (hb : c.code = code) (hr : meth.sig.returnType = ret) (hlocks : meth.locks = false) {pc : Nat} {H : Heap} {ls : Array Slot} (hdg : decode code pc = .ok (.ireturn, 1)) : W p l e room_1 s m #[Value.ref b] below meth c H [] 600000 7302250 (lw_Z below #[Value.ref b] s) (F0 m pc ls [.int 1]) := by
  intro T hT X
  obtain ⟨fs, hret, hrun, hended, hW, hframe⟩ := X.leave (v := some (.int 1)) (hlocks := hlocks) (fun h => by rw [hr] at h; cases h)
  have hmeth' : T.vm.method? m = some meth := X.method'
  refine ⟨T.setFrames fs, ?_, .returned (some (.int 1)), hrun, hended, rfl, ⟨_, rfl⟩, hW, hframe⟩
  jvm_step X.here [X.here.top, hx, hb, hdg, hmeth', hr, ret, narrow_b1]
  (try refine ⟨rfl, ?_⟩); (try refine ⟨rfl, ?_⟩)
  first | (intro acts; rw [hret _ acts rfl rfl rfl]) | rw [hret _ _ rfl rfl rfl]
  exact Steps.refl _
/-- what holds at the law's entry: the machine, the code, the tables' words (any of lw_tbl by 'hts w (by decide +kernel)'), the script of L ints xs at the cell b, what the Statement gives of the start (any of its parts by flat_of_before) -/
def lw_At (p : Program) (s : State) (m : MethodId) (meth : Method) (c : Code) (b L : Nat) (xs : Nat → Int32) : Prop :=
  p.tables.exec = Jvm.exec ∧ c.code = code ∧ meth.sig.returnType = ret ∧ c.maxLocals = 4 ∧ s.vm.findClass R_law = some m.cls ∧ (∀ w ∈ lw_tbl, w.before #[Value.ref b] s = true) ∧ va_X b L xs s s.heap ∧ b < s.heap.size ∧ meth.locks = false ∧ (Jvm.Cond.and given_1 narrow_1).before #[Value.ref b] s = true
theorem et_124 : (.initialized "java/lang/String" : Cond) ∈ lw_tbl := List.mem_of_getElem? (i := 124) (by decide +kernel)
theorem et_126 : (.initialized "jdk/internal/util/Preconditions" : Cond) ∈ lw_tbl := List.mem_of_getElem? (i := 126) (by decide +kernel)
theorem et_135 : (.instantiable "BackBridge" 16 : Cond) ∈ lw_tbl := List.mem_of_getElem? (i := 135) (by decide +kernel)
theorem et_143 : (.instantiable "BackBridge$Land" 16 : Cond) ∈ lw_tbl := List.mem_of_getElem? (i := 143) (by decide +kernel)
theorem et_144 : (.methodLinkNest "BackBridge" 15 ⟨"BackBridge$Land", "<init>", "()V"⟩ "BackBridge" : Cond) ∈ lw_tbl := List.mem_of_getElem? (i := 144) (by decide +kernel)
theorem et_149 : (.instantiable "BackBridge$Law" 3 : Cond) ∈ lw_tbl := List.mem_of_getElem? (i := 149) (by decide +kernel)
theorem et_150 : (.methodLinkNest "BackBridge$Land" 45 ⟨"BackBridge$Law", "<init>", "()V"⟩ "BackBridge" : Cond) ∈ lw_tbl := List.mem_of_getElem? (i := 150) (by decide +kernel)
theorem et_167 : (.arrayClass .byte : Cond) ∈ lw_tbl := List.mem_of_getElem? (i := 167) (by decide +kernel)
theorem et_168 : (.arrayClass .int : Cond) ∈ lw_tbl := List.mem_of_getElem? (i := 168) (by decide +kernel)
theorem et_276 : (.instantiable "BackBridge$World" 6 : Cond) ∈ lw_tbl := List.mem_of_getElem? (i := 276) (by decide +kernel)
theorem et_277 : (.methodLinkNest "BackBridge" 22 ⟨"BackBridge$World", "<init>", "()V"⟩ "BackBridge" : Cond) ∈ lw_tbl := List.mem_of_getElem? (i := 277) (by decide +kernel)
theorem et_323 : (.instantiable "BackBridge$Reader" 9 : Cond) ∈ lw_tbl := List.mem_of_getElem? (i := 323) (by decide +kernel)
theorem et_329 : (.methodLinkNest "BackBridge$Reader" 11 ⟨"BackBridge$Land", "<init>", "()V"⟩ "BackBridge" : Cond) ∈ lw_tbl := List.mem_of_getElem? (i := 329) (by decide +kernel)
theorem et_362 : (.instantiable "BackBridge$Laws" 3 : Cond) ∈ lw_tbl := List.mem_of_getElem? (i := 362) (by decide +kernel)
theorem et_378 : (.instantiable "BackBridge$Deeds" 4 : Cond) ∈ lw_tbl := List.mem_of_getElem? (i := 378) (by decide +kernel)
theorem et_398 : (.instantiable "BackBridge$Past" 3 : Cond) ∈ lw_tbl := List.mem_of_getElem? (i := 398) (by decide +kernel)
theorem et_404 : (.arrayOver (.object "BackBridge$World") : Cond) ∈ lw_tbl := List.mem_of_getElem? (i := 404) (by decide +kernel)
theorem et_405 : (.methodLinkNest "BackBridge$Past" 15 ⟨"BackBridge$World", "<init>", "()V"⟩ "BackBridge" : Cond) ∈ lw_tbl := List.mem_of_getElem? (i := 405) (by decide +kernel)
theorem et_418 : (.instantiable "BackBridge$Search" 20 : Cond) ∈ lw_tbl := List.mem_of_getElem? (i := 418) (by decide +kernel)
theorem et_425 : (.arrayOver (.array .long) : Cond) ∈ lw_tbl := List.mem_of_getElem? (i := 425) (by decide +kernel)
theorem et_492 : (.arrayClass .long : Cond) ∈ lw_tbl := List.mem_of_getElem? (i := 492) (by decide +kernel)
theorem et_494 : (.instantiable "BackBridge$Choices" 7 : Cond) ∈ lw_tbl := List.mem_of_getElem? (i := 494) (by decide +kernel)
theorem et_524 : (.instantiable "BackBridge$Trays" 3 : Cond) ∈ lw_tbl := List.mem_of_getElem? (i := 524) (by decide +kernel)
theorem et_525 : (.methodLinkNest "BackBridge" 80 ⟨"BackBridge$Trays", "<init>", "()V"⟩ "BackBridge" : Cond) ∈ lw_tbl := List.mem_of_getElem? (i := 525) (by decide +kernel)
theorem et_547 : (.instantiable "BackBridge$Answers" 4 : Cond) ∈ lw_tbl := List.mem_of_getElem? (i := 547) (by decide +kernel)
theorem et_566 : (.arrayOver (.object "BackBridge$Land") : Cond) ∈ lw_tbl := List.mem_of_getElem? (i := 566) (by decide +kernel)
theorem et_677 : (.laysStatic "java/lang/String" "COMPACT_STRINGS" "Z" : Cond) ∈ lw_tbl := List.mem_of_getElem? (i := 677) (by decide +kernel)
theorem et_693 : (.laysStatic "jdk/internal/util/Preconditions" "SIOOBE_FORMATTER" "Ljava/util/function/BiFunction;" : Cond) ∈ lw_tbl := List.mem_of_getElem? (i := 693) (by decide +kernel)
theorem et_1426 : (.instantiable "BackBridgeModel" 34 : Cond) ∈ lw_tbl := List.mem_of_getElem? (i := 1426) (by decide +kernel)
theorem et_1539 : (.arrayClass .boolean : Cond) ∈ lw_tbl := List.mem_of_getElem? (i := 1539) (by decide +kernel)
theorem ef_wl {s : State} {args : Array Value} (ht : ∀ w ∈ lw_tbl, w.before args s = true) : ∀ w ∈ sm_wl, w.before args s = true := fun w hw => ht w (List.mem_filter.mp hw).1
theorem ef_arr {s : State} {args : Array Value} {ty : FieldType} (h : (Cond.arrayClass ty).before args s = true) : ∃ cA : ClassId, ArrOfT s cA ty ∧ s.vm.findClass ("[" ++ ty.toString) = some cA := by
  obtain ⟨c, k, comp, h1, h2, h3⟩ := Cond.arrayClass_spec h
  exact ⟨c, fun n z => ⟨fun k h => (by cases h), k, h2, comp, h3⟩, h1⟩
theorem ef_arrO {s : State} {n : String} (h : va_AO n s) : ∃ cA : ClassId, ArrOfT s cA (.object n) ∧ va_RA s cA (.object n) := by
  obtain ⟨comp, c, k, h1, h2, h3, h4, h5⟩ := Cond.arrayOver_spec h
  exact ⟨c, fun n z => ⟨fun k h => (by cases h), k, h3, comp, h4⟩, k, comp, h3, h4, h1, h5⟩
theorem ef_arrA {s : State} (h : g_OL s) : ∃ cA : ClassId, ArrOfT s cA (.array .long) ∧ va_RA s cA (.array .long) := by
  obtain ⟨comp, c, k, h1, h2, h3, h4, h5⟩ := arrayOverA_spec h
  exact ⟨c, fun n z => ⟨fun k h => (by cases h), k, h3, comp, h4⟩, h5⟩
theorem ef_N {s : State} {args : Array Value} (ht : ∀ w ∈ lw_tbl, w.before args s = true) : g_N s := by
  refine ⟨va_AO.of (ht _ et_404), va_AO.of (ht _ et_566), ht _ et_425, fun q hq => ?_⟩
  simp only [g_nw, List.mem_cons, List.not_mem_nil, or_false] at hq
  rcases hq with rfl | rfl | rfl | rfl | rfl | rfl
  · exact va_Nw.of rfl (ht _ et_144)
  · exact va_Nw.of rfl (ht _ et_277)
  · exact va_Nw.of rfl (ht _ et_525)
  · exact va_Nw.of rfl (ht _ et_405)
  · exact va_Nw.of rfl (ht _ et_329)
  · exact va_Nw.of rfl (ht _ et_150)
theorem ef_K {s : State} {args : Array Value} (ht : ∀ w ∈ lw_tbl, w.before args s = true) : ∃ (D : va_G) (cA : Nat → ClassId), va_K D sm_cls (sm_tys cA) s := by
  have hts := ef_wl ht
  have hN := ef_N ht
  obtain ⟨d0, i0, k0⟩ := u_known (C := R_Answers) (T := T_Answers) (N := 4) (n := 4) hts in_Answers (ht _ et_547)
  obtain ⟨d1, i1, k1⟩ := u_known (C := R_Choices) (T := T_Choices) (N := 7) (n := 7) hts in_Choices (ht _ et_494)
  obtain ⟨d2, i2, k2⟩ := u_known (C := R_Deeds) (T := T_Deeds) (N := 4) (n := 4) hts in_Deeds (ht _ et_378)
  obtain ⟨d3, i3, k3⟩ := u_known (C := R_Land) (T := T_Land) (N := 16) (n := 16) hts in_Land (ht _ et_143)
  obtain ⟨d4, i4, k4⟩ := u_known (C := R_Law) (T := T_Law) (N := 3) (n := 3) hts in_Law (ht _ et_149)
  obtain ⟨d5, i5, k5⟩ := u_known (C := R_Laws) (T := T_Laws) (N := 3) (n := 3) hts in_Laws (ht _ et_362)
  obtain ⟨d6, i6, k6⟩ := u_known (C := R_Past) (T := T_Past) (N := 3) (n := 3) hts in_Past (ht _ et_398)
  obtain ⟨d7, i7, k7⟩ := u_known (C := R_Reader) (T := T_Reader) (N := 9) (n := 9) hts in_Reader (ht _ et_323)
  obtain ⟨d8, i8, k8⟩ := u_known (C := R_Search) (T := T_Search) (N := 20) (n := 20) hts in_Search (ht _ et_418)
  obtain ⟨d9, i9, k9⟩ := u_known (C := R_Trays) (T := T_Trays) (N := 3) (n := 3) hts in_Trays (ht _ et_524)
  obtain ⟨d10, i10, k10⟩ := u_known (C := R_World) (T := T_World) (N := 6) (n := 6) hts in_World (ht _ et_276)
  obtain ⟨d11, i11, k11⟩ := u_known (C := R_BB) (T := T_BB) (N := 16) (n := 16) hts in_BB (ht _ et_135)
  obtain ⟨d12, i12, k12⟩ := u_known (C := R_Model) (T := T_Model) (N := 34) (n := 34) hts in_Model (ht _ et_1426)
  obtain ⟨a0, p0, q0⟩ := ef_arr (ht _ et_168)
  obtain ⟨a1, p1, q1⟩ := ef_arr (ht _ et_167)
  obtain ⟨a2, p2, q2⟩ := ef_arr (ht _ et_1539)
  obtain ⟨a3, p3, q3⟩ := ef_arr (ht _ et_492)
  obtain ⟨a4, p4, q4⟩ := ef_arrO hN.1
  obtain ⟨a5, p5, q5⟩ := ef_arrO hN.2.1
  obtain ⟨a6, p6, q6⟩ := ef_arrA hN.2.2.1
  refine ⟨(fun k => [d0, d1, d2, d3, d4, d5, d6, d7, d8, d9, d10, d11, d12].getD k d0, fun k => [i0, i1, i2, i3, i4, i5, i6, i7, i8, i9, i10, i11, i12].getD k i0), fun k => [a0, a1, a2, a3, a4, a5, a6].getD k a0, fun c q hq => ?_, fun k q hq => ?_⟩
  · match c, hq with
    | 0, hq => cases hq; exact k0
    | 1, hq => cases hq; exact k1
    | 2, hq => cases hq; exact k2
    | 3, hq => cases hq; exact k3
    | 4, hq => cases hq; exact k4
    | 5, hq => cases hq; exact k5
    | 6, hq => cases hq; exact k6
    | 7, hq => cases hq; exact k7
    | 8, hq => cases hq; exact k8
    | 9, hq => cases hq; exact k9
    | 10, hq => cases hq; exact k10
    | 11, hq => cases hq; exact k11
    | 12, hq => cases hq; exact k12
    | c + 13, hq => simp [sm_cls] at hq
  · match k, hq with
    | 0, hq => cases hq; exact ⟨p0, q0⟩
    | 1, hq => cases hq; exact ⟨p1, q1⟩
    | 2, hq => cases hq; exact ⟨p2, q2⟩
    | 3, hq => cases hq; exact ⟨p3, q3⟩
    | 4, hq => cases hq; exact ⟨p4, q4⟩
    | 5, hq => cases hq; exact ⟨p5, q5⟩
    | 6, hq => cases hq; exact ⟨p6, q6⟩
    | k + 7, hq => simp [sm_tys] at hq
def ef_fl : List Cond := flatC (Jvm.Cond.and given_1 narrow_1)
theorem ef_at {args : Array Value} {s : State} (h : (Jvm.Cond.and given_1 narrow_1).before args s = true) {k : Nat} {c : Cond} (hk : ef_fl[k]? = some c) : c.before args s = true := flat_of_before _ h c (List.mem_of_getElem? hk)
def ef_s (i : Nat) : String × Nat × String × Nat := sm_strs.getD i ("", 0, "", 0)
def ef_tm (i : Nat) : Term := .string (ef_s i).1 (ef_s i).2.1
def ef_ix : List Nat := [35, 45, 54, 66, 77, 90, 103, 119, 135, 149, 164, 180, 198, 217, 237, 259, 282, 306, 333, 359, 384, 420]
def ef_sr : List Nat := [648, 649, 650, 651, 652, 653, 654, 655, 656, 657, 658, 659, 660, 661, 662, 663, 664, 665, 666, 667, 716, 1566, 1572]
set_option maxRecDepth 100000 in
theorem ef_ex : ∀ i, i < 22 → ef_fl[ef_ix.getD i 0]? = some (.exactly (ef_tm i) "java/lang/String") := by decide +kernel
set_option maxRecDepth 100000 in
theorem ef_co : ∀ i, i < 22 → ef_fl[ef_ix.getD i 0 + 1]? = some (.eq (.field (ef_tm i) "java/lang/String" "coder" "B") (.int 0)) := by decide +kernel
set_option maxRecDepth 100000 in
theorem ef_ar : ∀ i, i < 22 → ef_fl[ef_ix.getD i 0 + 2]? = some (.arrayOf (.field (ef_tm i) "java/lang/String" "value" "[B") .byte) := by decide +kernel
set_option maxRecDepth 100000 in
theorem ef_le : ∀ i, i < 22 → ef_fl[ef_ix.getD i 0 + 3]? = some (.eq (.length (.field (ef_tm i) "java/lang/String" "value" "[B")) (.int (Int32.ofNat (sn_len.getD i 0)))) := by decide +kernel
set_option maxRecDepth 100000 in
theorem ef_el : ∀ i, i < 22 → ∀ j, j < sn_len.getD i 0 → ef_fl[ef_ix.getD i 0 + 4 + j]? = some (.eq (.elem (.field (ef_tm i) "java/lang/String" "value" "[B") (.int (Int32.ofNat j))) (.int ((sn_byt.getD i []).getD j 0))) := by decide +kernel
set_option maxRecDepth 100000 in
theorem ef_ne : ∀ j, j < 22 → ∀ i, i < j → ef_fl[ef_ix.getD j 0 + 4 + sn_len.getD j 0 + i]? = some (.not (.eq (ef_tm i) (ef_tm j))) := by decide +kernel
set_option maxRecDepth 100000 in
theorem ef_same : ef_fl[581]? = some (.eq (ef_tm 20) (ef_tm 22)) := by decide +kernel
set_option maxRecDepth 100000 in
theorem ef_comp : ef_fl[4]? = some (.eq (.static "java/lang/String" "COMPACT_STRINGS" "Z") (.int 1)) := by decide +kernel
set_option maxRecDepth 100000 in
theorem ef_sio : ef_fl[5]? = some (.isRef (.static "jdk/internal/util/Preconditions" "SIOOBE_FORMATTER" "Ljava/util/function/BiFunction;")) := by decide +kernel
set_option maxRecDepth 100000 in
theorem ef_st : ∀ k, k < 23 → lw_tbl[ef_sr.getD k 0]? = some (.stringRef (ef_s k).1 (ef_s k).2.1 (ef_s k).2.2.1) := by decide +kernel
theorem ef_no : ∀ k, k < 22 → (ef_s k).2.2.2 = k := by decide +kernel
theorem ef_S {N : Nat} {len : List Nat} {byt : List (List Int32)} {adK adV adK' adV' : Nat → Nat} {A : Nat → Prop} {U : State} {H : Heap} (h : vk_S N len byt adK adV A U H) (hK : ∀ i, i < N → adK' i = adK i) (hV : ∀ i, i < N → adV' i = adV i) : vk_S N len byt adK' adV' A U H := ⟨fun i hi => by rw [hK i hi, hV i hi]; exact h.1 i hi, fun i j hi hj e => h.2 i j hi hj (by rw [← hK i hi, ← hK j hj]; exact e)⟩
theorem ef_SK {s : State} {b : Nat} (ht : ∀ w ∈ lw_tbl, w.before #[Value.ref b] s = true) (hgv : (Jvm.Cond.and given_1 narrow_1).before #[Value.ref b] s = true) : ∃ ad : Nat → Nat, (∀ i, i < 187 → ad i = s.heap.size + i) ∧ sn_SK ad s s.heap := by
  obtain ⟨adK, adV, hS, hev⟩ := vk_Sof (args := #[Value.ref b]) (s := s) (N := 22) (tm := ef_tm) (len := sn_len) (byt := sn_byt) (A := fun q => s.heap.size ≤ q) (by decide +kernel) (fun i hi => ef_at hgv (ef_ex i hi)) (fun i hi => ef_at hgv (ef_co i hi)) (fun i hi => ef_at hgv (ef_ar i hi)) (fun i hi => ef_at hgv (ef_le i hi)) (fun i hi j hj => ef_at hgv (ef_el i hi j hj)) (fun i j hi hj hij => by
    rcases Nat.lt_or_gt_of_ne hij with h | h
    · exact Or.inl (ef_at hgv (ef_ne j hj i h))
    · exact Or.inr (ef_at hgv (ef_ne i hi j h))) (fun a ha => Nat.not_le.mpr ha)
  refine ⟨fun n => if n < 187 then s.heap.size + n else if n < 1100 then adK (n - 1000) else adV (n - 1100), fun i hi => if_pos hi, ?_⟩
  generalize had : (fun n : Nat => if n < 187 then s.heap.size + n else if n < 1100 then adK (n - 1000) else adV (n - 1100)) = ad
  have h0 : ∀ i, i < 187 → ad i = s.heap.size + i := fun i hi => by rw [← had]; exact if_pos hi
  have hA : ∀ q, sn_A ad q → s.heap.size ≤ q := fun q hq => by
    obtain ⟨i, hi, e⟩ := hq
    rw [h0 i hi] at e
    omega
  have hA2 : ∀ a : Nat, a < s.heap.size → ¬ sn_A ad a := fun a ha h => absurd (hA a h) (Nat.not_le.mpr ha)
  have hK : ∀ i, i < 22 → ad (1000 + i) = adK i := fun i hi => by
    rw [← had]
    show (if 1000 + i < 187 then _ else if 1000 + i < 1100 then adK (1000 + i - 1000) else _) = _
    rw [if_neg (by omega), if_pos (by omega), Nat.add_sub_cancel_left]
  have hV : ∀ i, i < 22 → ad (1100 + i) = adV i := fun i hi => by
    rw [← had]
    show (if 1100 + i < 187 then _ else if 1100 + i < 1100 then _ else adV (1100 + i - 1100)) = _
    rw [if_neg (by omega), if_neg (by omega), Nat.add_sub_cancel_left]
  refine ⟨ef_S (hS.narrow hA) hK hV, fun k q hq => ?_, va_Zof (ht _ et_677) (ht _ et_124) (va_eqi (ef_at hgv ef_comp)) hA2, va_Zqof (ht _ et_693) (ht _ et_126) (ef_at hgv ef_sio) hA2⟩
  have hk : k < 23 := (List.getElem?_eq_some_iff.mp hq).1
  have hq' : ef_s k = q := by unfold ef_s; rw [List.getD_eq_getElem?_getD, hq]; rfl
  have hr := ht _ (List.mem_of_getElem? (ef_st k hk))
  rw [hq'] at hr
  refine vk_R.of hr ?_
  by_cases h22 : k < 22
  · have h := hev k h22
    unfold ef_tm at h
    have hn := ef_no k h22
    rw [hq'] at h hn
    rw [hn, hK k h22]
    exact h
  · have e22 : k = 22 := by omega
    subst e22
    have h := va_eqR (ef_at hgv ef_same) (hev 20 (by decide))
    unfold ef_tm at h
    rw [hq'] at h
    have hn : q.2.2.2 = 20 := by rw [← hq']; rfl
    rw [hn, hK 20 (by decide)]
    exact h
