/-! ===== the rows of a constructor: stores, calls, its end ===== -/
theorem g_arrV_ext {cI : ClassId} {N : Nat} {f f' : Nat → Value} (h : ∀ j, j < N → f j = f' j) : arrV cI N f = arrV cI N f' := by
  unfold arrV
  congr 1
  apply Array.ext
  · simp
  · intro j h1 h2
    simp at h1
    simp [h j h1]
def g_m (g : gS) (N : Nat) : gS := (g.1 + 1 + N, g.2.1, g.2.2.1, fun a c => if a = g.1 ∧ c < N then some (g.1 + 1 + c) else g.2.2.2 a c)
section GS2
variable {l : Launch} {D : va_G} {cA : Nat → ClassId} {ad : Nat → Nat} {b : Nat} {p : Program} {e : Env} {R : Room} {s : State} {m : MethodId} {args : Array Value} {below : List Frame} {meth : Method} {c : Code} {Q : State → Prop} {cc : ByteArray} {own : String} {nL cells slots pc : Nat} {lv : List (Nat × Value)} {st : List Value} {g : gS} {ini : Bool}
theorem gq_multi {idx : Nat} {v0 v1 : Int32} {N0 N1 : Nat} (C : g_C D cA ad b p R s m args meth c cc own nL ini) (hd : decode cc pc = .ok (.multianewarray idx 2, 4)) (hlink : Cond.classLink own idx "[[J" ∈ sm_wl) (hv0 : ¬ v0 < 0) (hp0 : ¬ v0 = 0) (hv1 : ¬ v1 < 0) (hN0 : v0.toNatClampNeg = N0) (hN1 : v1.toNatClampNeg = N1) (hkd : sm_kd g.1 = 6) (hln : sm_ln g.1 = N0) (hin : ∀ j, j < N0 → sm_kd (g.1 + 1 + j) = 3 ∧ sm_ln (g.1 + 1 + j) = N1) (hk : g.1 + 1 + N0 ≤ 187) (hb0 : N0 * 4 ≤ 536870912) (hb1 : N1 * 8 ≤ 536870912) (hcells : cells + (1 + N0) ≤ R.cells) (hslots : slots + (N0 + N0 * N1) ≤ R.slots) (G : g_G l D cA ad b p e R s m args below meth c Q nL (cells + 1 + N0) (slots + N0 + N0 * N1) (pc + 4) lv (.ref (ad g.1) :: st) (g_m g N0)) : g_G l D cA ad b p e R s m args below meth c Q nL cells slots pc lv (.int v1 :: .int v0 :: st) g := by
  intro H locs la z hP hz hS hl
  obtain ⟨hx, hb, -, hown, hts, hK, -, -, had, hbs, hNN, -⟩ := C
  refine g_sz had hbs z hP hz hS (fun hy => ?_)
  have ha : ad g.1 = H.size := by rw [had _ (by omega), hy]
  obtain ⟨comp, c6, k6, f1, f2, f3, f4, f5⟩ := arrayOverA_spec hNN.2.2.1
  have n6 : s.vm.findClass "[[J" = some (cA 6) := (hK.2 6 _ rfl).2
  have n3 : s.vm.findClass "[J" = some (cA 3) := (hK.2 3 _ rfl).2
  have e6 : c6 = cA 6 := Option.some.inj ((show s.vm.findClass "[[J" = some c6 from f5).symm.trans n6)
  have e3 : comp = cA 3 := Option.some.inj ((show s.vm.findClass "[J" = some comp from f1).symm.trans n3)
  subst e6; subst e3
  obtain ⟨-, k3, h3, c0, h3k⟩ := (hK.2 3 _ rfl).1 0 (fun _ => .null)
  refine gm_multi hx hb hown (hts _ hlink) n6 f3 f4 h3 h3k rfl hd rfl hv0 hv1 hp0 hN0 hN1 hb0 hb1 hcells hslots (fun H1 L1 z1 e1 i1 o1 hL => ?_)
  have hP1 : va_P D sm_cls (g_ws cA ad (g_m g N0)) H1 := by
    intro i q hq
    obtain ⟨hi, rfl⟩ := g_ofat hq
    have hi' : i < g.1 + 1 + N0 := hi
    by_cases y1 : i < g.1
    · have e0 : g_cell cA ad (g_m g N0) i = g_cell cA ad g i := g_cell_eq rfl rfl (funext fun j => if_neg (fun w => by omega))
      rw [e0]
      exact g_keep hP hy had (by omega) o1 i _ (g_at y1)
    · by_cases y2 : i = g.1
      · subst y2
        rw [g_cell_arr (by omega)]
        show H1[ad g.1]? = some (vp_cell (cA (sm_kd g.1)) (g_ar ad (g_m g N0) g.1))
        rw [ha, e1, hkd, g_ar_r (by omega), hln, vp_cell_q]
        congr 1
        refine g_arrV_ext (fun j hj => ?_)
        have e2 : (g_m g N0).2.2.2 g.1 j = some (g.1 + 1 + j) := if_pos ⟨rfl, hj⟩
        rw [e2]
        show gm_f H.size N0 j = .ref (ad (g.1 + 1 + j))
        unfold gm_f
        have e9 : H.size + 1 + j = b + (g.1 + 1 + j) := by omega
        rw [if_pos hj, had _ (by omega), e9]
      · obtain ⟨j, rfl⟩ : ∃ j, i = g.1 + 1 + j := ⟨i - (g.1 + 1), by omega⟩
        have hj : j < N0 := by omega
        obtain ⟨w1, w2⟩ := hin j hj
        rw [g_cell_arr (by omega)]
        show H1[ad (g.1 + 1 + j)]? = some (vp_cell (cA (sm_kd (g.1 + 1 + j))) (g_ar ad (g_m g N0) (g.1 + 1 + j)))
        rw [had _ (by omega), show b + (g.1 + 1 + j) = H.size + 1 + j by omega, i1 j hj, w1, g_ar_l w1, w2, vp_cell_l]
        congr 1
        refine g_arrV_ext (fun j' hj' => ?_)
        show Value.long 0 = .long (g.2.2.1 (g.1 + 1 + j) j')
        rw [(z.2 (g.1 + 1 + j) j' (by omega)).2.1]
  have z' : g_ok (g_m g N0) := ⟨hk, fun a d hd' => ⟨(z.2 a d (by have : g.1 + 1 + N0 ≤ a := hd'; omega)).1, (z.2 a d (by have : g.1 + 1 + N0 ≤ a := hd'; omega)).2.1, by
    show (if a = g.1 ∧ d < N0 then some (g.1 + 1 + d) else g.2.2.2 a d) = none
    have : g.1 + 1 + N0 ≤ a := hd'
    rw [if_neg (fun w => by omega)]
    exact (z.2 a d (by omega)).2.2⟩⟩
  rw [ha] at G
  have hS1 : va_S (fun q => b ≤ q) s.heap H1 (locs ++ L1) := by
    have := g_grow (k := 0) hS (by omega) o1
    refine ⟨this.1, this.2.1, fun q hq => ?_⟩
    rcases List.mem_append.mp hq with w | w
    · exact hS.2.2 q w
    · show b ≤ q.base
      rw [hL q w]; omega
  exact G H1 (locs ++ L1) la z' hP1 (by show s.heap.size + (cells + 1 + N0) = b + (g.1 + 1 + N0); omega) hS1 hl
theorem gq_ho {a ci : Nat} (ha : a < g.1) (hkk : sm_kd a = 10 + ci) : (g_ws cA ad g)[a]? = some (ad a, .inr (ci, g_fs ad g a)) := (g_at ha).trans (by rw [g_cell_obj hkk])
theorem gq_put_r {a ci k v : Nat} (hkk : sm_kd a = 10 + ci) (hk : k < sm_fn ci) (hf : 2 ≤ sm_fk ci k) : (g_ws cA ad g).set a (ad a, .inr (ci, (g_fs ad g a).set k (.ref (ad v)))) = g_ws cA ad (g_r g a k v) := by
  refine g_set rfl ?_ (fun j hj => g_cell_eq rfl rfl (g_up_ne hj))
  rw [g_cell_obj hkk]
  congr 2
  refine (g_fs_set hkk hk ?_ (fun j hj => ?_)).symm
  · unfold g_fld
    rw [if_neg (by omega), if_neg (by omega)]
    show va_rf ((g_up g.2.2.2 a k (some v) a k).map ad) = _
    rw [g_up_self]
    rfl
  · unfold g_fld
    show (if _ then _ else if _ then _ else va_rf ((g_up g.2.2.2 a k (some v) a j).map ad)) = _
    rw [g_up_nj hj]
    rfl
theorem gq_put_i {a ci k : Nat} {v : Int32} (hkk : sm_kd a = 10 + ci) (hk : k < sm_fn ci) (hf : sm_fk ci k = 0) : (g_ws cA ad g).set a (ad a, .inr (ci, (g_fs ad g a).set k (.int v))) = g_ws cA ad (g_i g a k v) := by
  refine g_set rfl ?_ (fun j hj => g_cell_eq (g_up_ne hj) rfl rfl)
  rw [g_cell_obj hkk]
  congr 2
  refine (g_fs_set hkk hk ?_ (fun j hj => ?_)).symm
  · unfold g_fld
    rw [if_pos hf]
    show Value.int (g_up g.2.1 a k v a k) = _
    rw [g_up_self]
  · unfold g_fld
    show (if _ then Value.int (g_up g.2.1 a k v a j) else _) = _
    rw [g_up_nj hj]
    rfl
theorem gq_putF {ci idx k a v : Nat} {C0 : String} {T : u_T} {N : Nat} {ty : FieldType} (C : g_C D cA ad b p R s m args meth c cc own nL true) (hd : decode cc pc = .ok (.putfield idx, 3)) (hc : sm_cls[ci]? = some (C0, T, N)) (hin : ∀ w ∈ u_ws C0 T N, w ∈ sm_wl) (ty0 : Nat → FieldType) (hty : ∀ k, k < N → parseFieldDescriptor (T k).2.2.1 = some (ty0 k)) (hnm : ∀ a, a < N → ∀ b, b < N → a ≠ b → (T a).2.1 ≠ (T b).2.1) (hN : sm_fn ci = N) (hk : k < N) (hlink : Cond.fieldLink own idx (T k).1 (T k).2.1 (T k).2.2.1 ∈ sm_wl) (hfin : (T k).2.2.2 = true) (hdecl : (T k).1 = own) (ht : ty0 k = ty) (hn : narrow ty (.ref (ad v)) = .ref (ad v)) (hfit : fits ty (.ref (ad v)) = true) (hkk : sm_kd a = 10 + ci) (hf : sm_fk ci k = 2) (ha : a < g.1) (G : g_G l D cA ad b p e R s m args below meth c Q nL cells slots (pc + 3) lv st (g_r g a k v)) : g_G l D cA ad b p e R s m args below meth c Q nL cells slots pc lv (.ref (ad v) :: .ref (ad a) :: st) g := by
  intro H locs la z hP hz hS hl
  obtain ⟨hx, hb, -, hown, hts, hK, -, -, had, -, -, hI⟩ := C
  refine va_putF (v := .ref (ad v)) hx hb hts hin ty0 hty hnm hown hK hP (g_D had z.1) hS a (gq_ho ha hkk) hc k hk (hts _ hlink) (fun _ q => q) hfin (hI rfl).1 hdecl (by rw [hty k hk, ht]) hn hfit (by rw [g_fs_len hkk]; omega) hd (fun H1 locs1 hP1 hD1 hS1 => ?_)
  rw [gq_put_r hkk (by omega) (by omega)] at hP1
  exact G H1 locs1 la (g_ok_r z ha) hP1 hz hS1 hl
theorem gq_putR {ci idx k a v : Nat} {C0 : String} {T : u_T} {N : Nat} {ty : FieldType} (C : g_C D cA ad b p R s m args meth c cc own nL ini) (hd : decode cc pc = .ok (.putfield idx, 3)) (hc : sm_cls[ci]? = some (C0, T, N)) (hin : ∀ w ∈ u_ws C0 T N, w ∈ sm_wl) (ty0 : Nat → FieldType) (hty : ∀ k, k < N → parseFieldDescriptor (T k).2.2.1 = some (ty0 k)) (hnm : ∀ a, a < N → ∀ b, b < N → a ≠ b → (T a).2.1 ≠ (T b).2.1) (hN : sm_fn ci = N) (hk : k < N) (hlink : Cond.fieldLink own idx (T k).1 (T k).2.1 (T k).2.2.1 ∈ sm_wl) (hfin : (T k).2.2.2 = false) (ht : ty0 k = ty) (hn : narrow ty (.ref (ad v)) = .ref (ad v)) (hfit : fits ty (.ref (ad v)) = true) (hkk : sm_kd a = 10 + ci) (hf : 2 ≤ sm_fk ci k) (ha : a < g.1) (G : g_G l D cA ad b p e R s m args below meth c Q nL cells slots (pc + 3) lv st (g_r g a k v)) : g_G l D cA ad b p e R s m args below meth c Q nL cells slots pc lv (.ref (ad v) :: .ref (ad a) :: st) g := by
  intro H locs la z hP hz hS hl
  obtain ⟨hx, hb, -, hown, hts, hK, -, -, had, -⟩ := C
  refine va_put (v := .ref (ad v)) hx hb hts hin ty0 hty hnm hown hK hP (g_D had z.1) hS a (gq_ho ha hkk) hc k hk (hts _ hlink) (fun _ q => q) hfin (by rw [hty k hk, ht]) hn hfit (by rw [g_fs_len hkk]; omega) hd (fun H1 locs1 hP1 hD1 hS1 => ?_)
  rw [gq_put_r hkk (by omega) hf] at hP1
  exact G H1 locs1 la (g_ok_r z ha) hP1 hz hS1 hl
theorem gq_puti {ci idx k a : Nat} {v : Int32} {C0 : String} {T : u_T} {N : Nat} (C : g_C D cA ad b p R s m args meth c cc own nL ini) (hd : decode cc pc = .ok (.putfield idx, 3)) (hc : sm_cls[ci]? = some (C0, T, N)) (hin : ∀ w ∈ u_ws C0 T N, w ∈ sm_wl) (ty0 : Nat → FieldType) (hty : ∀ k, k < N → parseFieldDescriptor (T k).2.2.1 = some (ty0 k)) (hnm : ∀ a, a < N → ∀ b, b < N → a ≠ b → (T a).2.1 ≠ (T b).2.1) (hN : sm_fn ci = N) (hk : k < N) (hlink : Cond.fieldLink own idx (T k).1 (T k).2.1 (T k).2.2.1 ∈ sm_wl) (hfin : (T k).2.2.2 = false) (ht : ty0 k = .int) (hkk : sm_kd a = 10 + ci) (hf : sm_fk ci k = 0) (ha : a < g.1) (G : g_G l D cA ad b p e R s m args below meth c Q nL cells slots (pc + 3) lv st (g_i g a k v)) : g_G l D cA ad b p e R s m args below meth c Q nL cells slots pc lv (.int v :: .ref (ad a) :: st) g := by
  intro H locs la z hP hz hS hl
  obtain ⟨hx, hb, -, hown, hts, hK, -, -, had, -⟩ := C
  refine va_put (v := .int v) hx hb hts hin ty0 hty hnm hown hK hP (g_D had z.1) hS a (gq_ho ha hkk) hc k hk (hts _ hlink) (fun _ q => q) hfin (by rw [hty k hk, ht]) rfl rfl (by rw [g_fs_len hkk]; omega) hd (fun H1 locs1 hP1 hD1 hS1 => ?_)
  rw [gq_put_i hkk (by omega) hf] at hP1
  exact G H1 locs1 la (g_ok_i z ha) hP1 hz hS1 hl
theorem gq_getr {ci idx k a v : Nat} {C0 : String} {T : u_T} {N : Nat} (C : g_C D cA ad b p R s m args meth c cc own nL ini) (hd : decode cc pc = .ok (.getfield idx, 3)) (hc : sm_cls[ci]? = some (C0, T, N)) (hin : ∀ w ∈ u_ws C0 T N, w ∈ sm_wl) (hN : sm_fn ci = N) (hk : k < N) (hlink : Cond.fieldLink own idx (T k).1 (T k).2.1 (T k).2.2.1 ∈ sm_wl) (hkk : sm_kd a = 10 + ci) (hf : 2 ≤ sm_fk ci k) (ha : a < g.1) (hv : g.2.2.2 a k = some v) (G : g_G l D cA ad b p e R s m args below meth c Q nL cells slots (pc + 3) lv (.ref (ad v) :: st) g) : g_G l D cA ad b p e R s m args below meth c Q nL cells slots pc lv (.ref (ad a) :: st) g := by
  intro H locs la z hP hz hS hl
  obtain ⟨hx, hb, -, hown, hts, hK, -, -, had, -⟩ := C
  refine va_get hx hb hts hin hown hK hP a (gq_ho ha hkk) hc k hk (hts _ hlink) (fun _ q => q) (v := .ref (ad v)) ?_ hd (G H locs la z hP hz hS hl)
  rw [g_fs_at hkk (by omega)]
  unfold g_fld
  rw [if_neg (by omega), if_neg (by omega), hv]
  rfl
theorem gq_iast {a : Nat} {i x : Int32} {n : Nat} (C : g_C D cA ad b p R s m args meth c cc own nL ini) (hd : decode cc pc = .ok (.iastore, 1)) (hkd : sm_kd a = 0) (ha : a < g.1) (hi : i.toNatClampNeg = n) (hin : vp_in i (sm_ln a)) (G : g_G l D cA ad b p e R s m args below meth c Q nL cells slots (pc + 1) lv st (g_i g a n x)) : g_G l D cA ad b p e R s m args below meth c Q nL cells slots pc lv (.int x :: .int i :: .ref (ad a) :: st) g := by
  intro H locs la z hP hz hS hl
  subst hi
  obtain ⟨hx, hb, -, hown, hts, hK, -, -, had, -⟩ := C
  refine va_iast hx hb hK hP (g_D had z.1) hS a 0 (cA := cA 0) (n := sm_ln a) (f := g.2.1 a) ((g_at ha).trans (by rw [g_cell_arr (by omega), g_ar_i (by omega), hkd])) rfl hin hd (fun H1 locs1 hP1 hD1 hS1 => ?_)
  have e : (g_ws cA ad g).set a (ad a, .inl (cA 0, sm_ln a, .inl (upd (g.2.1 a) i.toNatClampNeg x))) = g_ws cA ad (g_i g a i.toNatClampNeg x) := by
    refine g_set rfl ?_ (fun j hj => g_cell_eq (g_up_ne hj) rfl rfl)
    rw [g_cell_arr (by omega), g_ar_i (by omega), hkd]
    congr 4
    funext j
    show g_up g.2.1 a i.toNatClampNeg x a j = upd (g.2.1 a) i.toNatClampNeg x j
    unfold g_up upd
    by_cases y : j = i.toNatClampNeg
    · rw [if_pos ⟨rfl, y⟩, if_pos y]
    · rw [if_neg (fun w => y w.2), if_neg y]
  rw [e] at hP1
  exact G H1 locs1 la (g_ok_i z ha) hP1 hz hS1 hl
theorem gq_aast {a o t ci : Nat} {i : Int32} {n : Nat} {C0 : String} {T : u_T} {N : Nat} (C : g_C D cA ad b p R s m args meth c cc own nL ini) (hd : decode cc pc = .ok (.aastore, 1)) (ht : (sm_tys cA)[t]? = some (cA t, .object C0)) (ht4 : 4 ≤ t ∧ t < 7) (hc : sm_cls[ci]? = some (C0, T, N)) (hkd : sm_kd a = t) (ha : a < g.1) (hko : sm_kd o = 10 + ci) (ho : o < g.1) (hi : i.toNatClampNeg = n) (hin : vp_in i (sm_ln a)) (G : g_G l D cA ad b p e R s m args below meth c Q nL cells slots (pc + 1) lv st (g_r g a n o)) : g_G l D cA ad b p e R s m args below meth c Q nL cells slots pc lv (.ref (ad o) :: .int i :: .ref (ad a) :: st) g := by
  intro H locs la z hP hz hS hl
  subst hi
  obtain ⟨hx, hb, -, hown, hts, hK, -, -, had, -⟩ := C
  refine va_astq hx hb hK hP (g_D had z.1) hS a t o ci (cA := cA t) (r := (C0, T, N)) (n := sm_ln a) (f := fun j => (g.2.2.2 a j).map ad) ((g_at ha).trans (by rw [g_cell_arr (by omega), g_ar_r (by omega), hkd])) ht (gq_ho ho hko) hc hin hd (fun H1 locs1 hP1 hD1 hS1 => ?_)
  have e : (g_ws cA ad g).set a (ad a, .inl (cA t, sm_ln a, .inr (.inr (.inr (.inr (va_up (fun j => (g.2.2.2 a j).map ad) i.toNatClampNeg (some (ad o)))))))) = g_ws cA ad (g_r g a i.toNatClampNeg o) := by
    refine g_set rfl ?_ (fun j hj => g_cell_eq rfl rfl (g_up_ne hj))
    rw [g_cell_arr (by omega), g_ar_r (by omega), hkd]
    congr 7
    funext j
    show (g_up g.2.2.2 a i.toNatClampNeg (some o) a j).map ad = va_up (fun j => (g.2.2.2 a j).map ad) i.toNatClampNeg (some (ad o)) j
    unfold g_up va_up
    by_cases y : j = i.toNatClampNeg
    · rw [if_pos ⟨rfl, y⟩, if_pos y]; rfl
    · rw [if_neg (fun w => y w.2), if_neg y]
  rw [e] at hP1
  exact G H1 locs1 la (g_ok_r z ha) hP1 hz hS1 hl
theorem gq_after {H : Heap} {locs : List Loc} {la : Array Slot} {st0 rest : List Value} {a : Array Value} {g1 : gS} {mc ms : Nat} (hr : va_Run p l e R s m args below meth c H locs cells slots mc ms (F0 m pc la st0) rest (g_Qc D cA ad b g1 a) (fun q => b ≤ q)) (hS : va_S (fun q => b ≤ q) s.heap H locs) (hn : s.heap.size + (cells + mc) = b + g1.1) (hl : lv_has la nL lv) (G : g_G l D cA ad b p e R s m args below meth c Q nL (cells + mc) (slots + ms) (pc + 3) lv rest g1) : W p l e R s m args below meth c H locs cells slots Q (F0 m pc la st0) := by
  intro T hT X
  obtain ⟨v, st₀, t, T', L, h0, X', hLc, e1, e2, ⟨hv, hz1, hP1, hs1, hF⟩, st⟩ := hr T hT X
  have hS1 : va_S (fun q => b ≤ q) s.heap T'.heap (locs ++ L) := by
    refine ⟨?_, fun q hq hA => ?_, fun q hq => ?_⟩
    · have := hF.1
      rw [h0] at this
      rw [e1]
      exact Nat.le_trans hS.1 this
    · rw [e1, hF.2 q (by rw [h0]; exact Nat.lt_of_lt_of_le hq hS.1) hA, h0]
      exact hS.2.1 q hq hA
    · rcases List.mem_append.mp hq with z | z
      · exact hS.2.2 q z
      · exact hLc q z
  obtain ⟨t2, a1, b1⟩ := G T'.heap (locs ++ L) la hz1 (by rw [e1]; exact hP1) hn hS1 hl T' rfl X'
  refine ⟨t2, st t2 ?_, b1⟩
  have hv2 : v = none := Outcome.returned.inj hv
  rw [hv2]
  exact a1
end GS2
