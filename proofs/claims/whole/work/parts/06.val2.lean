/-! ===== fields, arrays, switches, calls ===== -/
theorem sn_good : GoodIn sm_wl sm_wl := fun _ hw => ⟨hw, good_of_word (List.mem_filter.mp hw).2⟩
theorem sn_goodw {y : MethodName} {cc : ByteArray} {nL : Nat} {rt : Option FieldType} (h : Cond.code y cc nL rt ∈ sm_wl) : GoodIn sm_wl (sn_wd y cc nL rt) := fun w hw => by
  rcases List.mem_cons.mp hw with rfl | hw
  · exact sn_good _ h
  · exact sn_good _ hw
theorem sn_room (ad : Nat → Nat) : ∀ (l : List Value) (n : Nat), l.length ≤ n → ((l.map (sn_tr ad)).map fun v => v.category).sum ≤ 2 * n
  | [], n, _ => by simp
  | a :: l, n, h => by
    have h1 := sn_room ad l (n - 1) (by simp at h; omega)
    have h2 : (sn_tr ad a).category ≤ 2 := by rcases lv_cat (sn_tr ad a) with q | q <;> omega
    simp only [List.map_cons, List.sum_cons]
    simp only [List.length_cons] at h
    omega
theorem sn_wdc (ad : Nat → Nat) : ∀ (l : List Value), ((l.map (sn_tr ad)).map fun v => v.category).sum ≤ sm_wd l
  | [] => by simp [sm_wd]
  | a :: l => by
    have h1 := sn_wdc ad l
    have h2 : (sn_tr ad a).category ≤ 2 := by rcases lv_cat (sn_tr ad a) with q | q <;> omega
    have h3 : (sn_tr ad a).category + sm_wd l ≤ sm_wd (a :: l) := by
      cases a with
      | int x => exact Nat.le_refl _
      | ref x => exact Nat.le_refl _
      | long x => exact Nat.le_refl _
      | null => exact Nat.add_le_add_right h2 _
      | float x => exact Nat.add_le_add_right h2 _
      | double x => exact Nat.le_refl _
      | retAddr x => exact Nat.add_le_add_right h2 _
    simp only [List.map_cons, List.sum_cons]
    omega
section SNV2
variable {l : Launch} {D : va_G} {cA : Nat → ClassId} {ad : Nat → Nat} {SK : State → Heap → Prop} {nm : Nat → MethodName} {by_ : Nat → ByteArray} {mL : Nat → Nat} {rts : Nat → Option FieldType} {cc : ByteArray} {own : String} {nL : Nat} {rt : Option FieldType} {pc : Nat}
theorem sn_ho {h : sm_H} {a ci : Nat} (hkk : sm_kd a = 10 + ci) (hci : ci < 80) : (sn_ws cA ad h)[a]? = some (ad a, .inr (ci, sn_fs ad h a)) := (sn_ws_at (sm_kd_lt (by omega))).trans (by rw [sn_cell_obj hkk])
theorem sn_hi {h : sm_H} {a t : Nat} (hkk : sm_kd a = t) (ht : t < 3) : (sn_ws cA ad h)[a]? = some (ad a, .inl (cA t, sm_ln a, .inl (h.1 a))) := (sn_ws_at (sm_kd_lt (by omega))).trans (by rw [sn_cell_arr (by omega), sn_ar_i (by omega), hkk])
theorem sn_hl {h : sm_H} {a : Nat} (hkk : sm_kd a = 3) : (sn_ws cA ad h)[a]? = some (ad a, .inl (cA 3, sm_ln a, .inr (.inl (h.2.1 a)))) := (sn_ws_at (sm_kd_lt (by omega))).trans (by rw [sn_cell_arr (by omega), sn_ar_l hkk, hkk])
theorem sn_hr {h : sm_H} {a t : Nat} (hkk : sm_kd a = t) (ht : 4 ≤ t) (ht2 : t < 7) : (sn_ws cA ad h)[a]? = some (ad a, .inl (cA t, sm_ln a, .inr (.inr (.inr (.inr (fun j => some (ad (sm_rf a j)))))))) := (sn_ws_at (sm_kd_lt (by omega))).trans (by rw [sn_cell_arr (by omega), sn_ar_r (by omega), hkk])
theorem sv_gfi {index k ci : Nat} {C0 : String} {T : u_T} {N : Nat} (hd : decode cc pc = .ok (.getfield index, 3)) (hc : sm_cls[ci]? = some (C0, T, N)) (hci : ci < 80) (hin : ∀ w ∈ u_ws C0 T N, w ∈ sm_wl) (hk : k < N) (hN : sm_fn ci = N) (hlink : Cond.fieldLink own index (T k).1 (T k).2.1 (T k).2.2.1 ∈ sm_wl) (hkd : sm_fk ci k = 0) : sn_V l D cA ad SK nm by_ mL rts cc own nL rt pc (sm_gfi ci k (pc + 3)) := by
  intro p e R s m args below meth c Q C f o hi
  obtain ⟨ls, st, h⟩ := f
  simp only [sm_gfi] at hi
  split at hi
  next a st' =>
    split at hi
    next hkk =>
      obtain rfl := Option.some.inj hi
      intro G H locs la hP hS hL hNd
      exact va_get (v := .int (h.1 a k)) C.1 C.2.1 C.2.2.2.2.1 hin C.2.2.2.1 C.2.2.2.2.2.2.2.1 hP a (sn_ho hkk hci) hc k hk (C.2.2.2.2.1 _ hlink) (fun _ q => q) (by rw [sn_fs_at hkk (by omega), hkd]; rfl) hd (G H locs la hP hS hL hNd)
    next => cases hi
  next => cases hi
theorem sv_gfl {index k ci : Nat} {C0 : String} {T : u_T} {N : Nat} (hd : decode cc pc = .ok (.getfield index, 3)) (hc : sm_cls[ci]? = some (C0, T, N)) (hci : ci < 80) (hin : ∀ w ∈ u_ws C0 T N, w ∈ sm_wl) (hk : k < N) (hN : sm_fn ci = N) (hlink : Cond.fieldLink own index (T k).1 (T k).2.1 (T k).2.2.1 ∈ sm_wl) (hkd : sm_fk ci k = 1) : sn_V l D cA ad SK nm by_ mL rts cc own nL rt pc (sm_gfl ci k (pc + 3)) := by
  intro p e R s m args below meth c Q C f o hi
  obtain ⟨ls, st, h⟩ := f
  simp only [sm_gfl] at hi
  split at hi
  next a st' =>
    split at hi
    next hkk =>
      obtain rfl := Option.some.inj hi
      intro G H locs la hP hS hL hNd
      exact va_get (v := .long (h.2.1 a k)) C.1 C.2.1 C.2.2.2.2.1 hin C.2.2.2.1 C.2.2.2.2.2.2.2.1 hP a (sn_ho hkk hci) hc k hk (C.2.2.2.2.1 _ hlink) (fun _ q => q) (by rw [sn_fs_at hkk (by omega), hkd]; rfl) hd (G H locs la hP hS hL hNd)
    next => cases hi
  next => cases hi
theorem sv_gfr {index k ci : Nat} {C0 : String} {T : u_T} {N : Nat} (hd : decode cc pc = .ok (.getfield index, 3)) (hc : sm_cls[ci]? = some (C0, T, N)) (hci : ci < 80) (hin : ∀ w ∈ u_ws C0 T N, w ∈ sm_wl) (hk : k < N) (hN : sm_fn ci = N) (hlink : Cond.fieldLink own index (T k).1 (T k).2.1 (T k).2.2.1 ∈ sm_wl) (hkd : sm_fk ci k = 2) : sn_V l D cA ad SK nm by_ mL rts cc own nL rt pc (sm_gfr ci k (pc + 3)) := by
  intro p e R s m args below meth c Q C f o hi
  obtain ⟨ls, st, h⟩ := f
  simp only [sm_gfr] at hi
  split at hi
  next a st' =>
    split at hi
    next hkk =>
      obtain rfl := Option.some.inj hi
      intro G H locs la hP hS hL hNd
      exact va_get (v := .ref (ad (sm_rf a k))) C.1 C.2.1 C.2.2.2.2.1 hin C.2.2.2.1 C.2.2.2.2.2.2.2.1 hP a (sn_ho hkk hci) hc k hk (C.2.2.2.2.1 _ hlink) (fun _ q => q) (by rw [sn_fs_at hkk (by omega), hkd]; rfl) hd (G H locs la hP hS hL hNd)
    next => cases hi
  next => cases hi
theorem sv_gfw {index k ci : Nat} {C0 : String} {T : u_T} {N : Nat} (hd : decode cc pc = .ok (.getfield index, 3)) (hc : sm_cls[ci]? = some (C0, T, N)) (hci : ci < 80) (hin : ∀ w ∈ u_ws C0 T N, w ∈ sm_wl) (hk : k < N) (hN : sm_fn ci = N) (hlink : Cond.fieldLink own index (T k).1 (T k).2.1 (T k).2.2.1 ∈ sm_wl) (hkd : sm_fk ci k = 3) : sn_V l D cA ad SK nm by_ mL rts cc own nL rt pc (sm_gfw ci k (pc + 3)) := by
  intro p e R s m args below meth c Q C f o hi
  obtain ⟨ls, st, h⟩ := f
  simp only [sm_gfw] at hi
  split at hi
  next a st' =>
    split at hi
    next hkk =>
      obtain rfl := Option.some.inj hi
      intro G H locs la hP hS hL hNd
      exact va_get (v := .ref (ad h.2.2)) C.1 C.2.1 C.2.2.2.2.1 hin C.2.2.2.1 C.2.2.2.2.2.2.2.1 hP a (sn_ho hkk hci) hc k hk (C.2.2.2.2.1 _ hlink) (fun _ q => q) (by rw [sn_fs_at hkk (by omega), hkd]; rfl) hd (G H locs la hP hS hL hNd)
    next => cases hi
  next => cases hi
theorem sv_pfi {index k ci : Nat} {C0 : String} {T : u_T} {N : Nat} (hd : decode cc pc = .ok (.putfield index, 3)) (hc : sm_cls[ci]? = some (C0, T, N)) (hci : ci < 80) (hin : ∀ w ∈ u_ws C0 T N, w ∈ sm_wl) (hk : k < N) (hN : sm_fn ci = N) (hlink : Cond.fieldLink own index (T k).1 (T k).2.1 (T k).2.2.1 ∈ sm_wl) (ty : Nat → FieldType) (hty : ∀ k, k < N → parseFieldDescriptor (T k).2.2.1 = some (ty k)) (hnm : ∀ a, a < N → ∀ b, b < N → a ≠ b → (T a).2.1 ≠ (T b).2.1) (hfin : (T k).2.2.2 = false) (hkd : sm_fk ci k = 0) (htk : ty k = .int) : sn_V l D cA ad SK nm by_ mL rts cc own nL rt pc (sm_pfi ci k (pc + 3)) := by
  intro p e R s m args below meth c Q C f o hi
  obtain ⟨ls, st, h⟩ := f
  simp only [sm_pfi] at hi
  split at hi
  next x a st' =>
    split at hi
    next hkk =>
      obtain rfl := Option.some.inj hi
      intro G H locs la hP hS hL hNd
      refine va_put (v := .int x) C.1 C.2.1 C.2.2.2.2.1 hin ty hty hnm C.2.2.2.1 C.2.2.2.2.2.2.2.1 hP (sn_D C.2.2.2.2.2.2.2.2.2.2.2.1) hS a (sn_ho hkk hci) hc k hk (C.2.2.2.2.1 _ hlink) (fun _ q => q) hfin (by rw [hty k hk, htk]) rfl rfl (by rw [sn_fs_len hkk]; omega) hd (fun H1 locs1 hP1 hD1 hS1 => G H1 locs1 la ?_ hS1 hL hNd)
      have e := sn_ws_set (cA := cA) (ad := ad) (h := h) (h' := sm_si h a k x) (i := a) (e := .inr (ci, (sn_fs ad h a).set k (.int x))) (by
        rw [sn_cell_obj hkk, sn_fs_set (h' := sm_si h a k x) hkk (by omega) (by rw [hkd]; simp [sn_fld, sm_si, sm_sl, sm_up2]) (fun j hj hjk => by
          simp [sn_fld, sm_si, sm_sl, sm_up2, hjk])]) (fun j _ hj => sn_cell_eq (sn_sameI hj) rfl rfl)
      rw [e] at hP1
      exact hP1
    next => cases hi
  next => cases hi
theorem sv_pfl {index k ci : Nat} {C0 : String} {T : u_T} {N : Nat} (hd : decode cc pc = .ok (.putfield index, 3)) (hc : sm_cls[ci]? = some (C0, T, N)) (hci : ci < 80) (hin : ∀ w ∈ u_ws C0 T N, w ∈ sm_wl) (hk : k < N) (hN : sm_fn ci = N) (hlink : Cond.fieldLink own index (T k).1 (T k).2.1 (T k).2.2.1 ∈ sm_wl) (ty : Nat → FieldType) (hty : ∀ k, k < N → parseFieldDescriptor (T k).2.2.1 = some (ty k)) (hnm : ∀ a, a < N → ∀ b, b < N → a ≠ b → (T a).2.1 ≠ (T b).2.1) (hfin : (T k).2.2.2 = false) (hkd : sm_fk ci k = 1) (htk : ty k = .long) : sn_V l D cA ad SK nm by_ mL rts cc own nL rt pc (sm_pfl ci k (pc + 3)) := by
  intro p e R s m args below meth c Q C f o hi
  obtain ⟨ls, st, h⟩ := f
  simp only [sm_pfl] at hi
  split at hi
  next x a st' =>
    split at hi
    next hkk =>
      obtain rfl := Option.some.inj hi
      intro G H locs la hP hS hL hNd
      refine va_put (v := .long x) C.1 C.2.1 C.2.2.2.2.1 hin ty hty hnm C.2.2.2.1 C.2.2.2.2.2.2.2.1 hP (sn_D C.2.2.2.2.2.2.2.2.2.2.2.1) hS a (sn_ho hkk hci) hc k hk (C.2.2.2.2.1 _ hlink) (fun _ q => q) hfin (by rw [hty k hk, htk]) rfl rfl (by rw [sn_fs_len hkk]; omega) hd (fun H1 locs1 hP1 hD1 hS1 => G H1 locs1 la ?_ hS1 hL hNd)
      have e := sn_ws_set (cA := cA) (ad := ad) (h := h) (h' := sm_sl h a k x) (i := a) (e := .inr (ci, (sn_fs ad h a).set k (.long x))) (by
        rw [sn_cell_obj hkk, sn_fs_set (h' := sm_sl h a k x) hkk (by omega) (by rw [hkd]; simp [sn_fld, sm_si, sm_sl, sm_up2]) (fun j hj hjk => by
          simp [sn_fld, sm_si, sm_sl, sm_up2, hjk])]) (fun j _ hj => sn_cell_eq rfl (sn_sameL hj) rfl)
      rw [e] at hP1
      exact hP1
    next => cases hi
  next => cases hi
theorem sv_pfw {index k ci : Nat} {C0 : String} {T : u_T} {N : Nat} (hd : decode cc pc = .ok (.putfield index, 3)) (hc : sm_cls[ci]? = some (C0, T, N)) (hci : ci < 80) (hin : ∀ w ∈ u_ws C0 T N, w ∈ sm_wl) (hk : k < N) (hN : sm_fn ci = N) (hlink : Cond.fieldLink own index (T k).1 (T k).2.1 (T k).2.2.1 ∈ sm_wl) (ty : Nat → FieldType) (hty : ∀ k, k < N → parseFieldDescriptor (T k).2.2.1 = some (ty k)) (hnm : ∀ a, a < N → ∀ b, b < N → a ≠ b → (T a).2.1 ≠ (T b).2.1) (hfin : (T k).2.2.2 = false) (hkd : sm_fk ci k = 3) {cn : String} (htk : ty k = .object cn) (hone : ∀ j : Nat, j < sm_NC → sm_kd j ≠ 10 + ci → 7 ≤ sm_kd j → ∀ n : Nat, n < sm_fn (sm_kd j - 10) → sm_fk (sm_kd j - 10) n ≠ 3) (huni : ∀ i j : Nat, i < sm_NC → j < sm_NC → sm_kd i = 10 + ci → sm_kd j = 10 + ci → i = j) (hk1 : ∀ j : Nat, j < sm_fn ci → j ≠ k → sm_fk ci j ≠ 3) : sn_V l D cA ad SK nm by_ mL rts cc own nL rt pc (sm_pfw ci k (pc + 3)) := by
  intro p e R s m args below meth c Q C f o hi
  obtain ⟨ls, st, h⟩ := f
  simp only [sm_pfw] at hi
  split at hi
  next x a st' =>
    split at hi
    next hkk =>
      obtain rfl := Option.some.inj hi
      obtain ⟨hkk, hkx⟩ := hkk
      intro G H locs la hP hS hL hNd
      refine va_put (v := .ref (ad x)) C.1 C.2.1 C.2.2.2.2.1 hin ty hty hnm C.2.2.2.1 C.2.2.2.2.2.2.2.1 hP (sn_D C.2.2.2.2.2.2.2.2.2.2.2.1) hS a (sn_ho hkk hci) hc k hk (C.2.2.2.2.1 _ hlink) (fun _ q => q) hfin (by rw [hty k hk, htk]) rfl rfl (by rw [sn_fs_len hkk]; omega) hd (fun H1 locs1 hP1 hD1 hS1 => G H1 locs1 la ?_ hS1 hL hNd)
      have e := sn_ws_set (cA := cA) (ad := ad) (h := h) (h' := sm_sw h x) (i := a) (e := .inr (ci, (sn_fs ad h a).set k (.ref (ad x)))) (by
        rw [sn_cell_obj hkk, sn_fs_set (h' := sm_sw h x) hkk (by omega) (by rw [hkd]; simp [sn_fld, sm_sw]) (fun j hj hjk => by
          have h3 := hk1 j hj hjk
          unfold sn_fld sm_sw
          by_cases z0 : sm_fk ci j = 0
          · rw [if_pos z0, if_pos z0]
          · rw [if_neg z0, if_neg z0]
            by_cases z1 : sm_fk ci j = 1
            · rw [if_pos z1, if_pos z1]
            · rw [if_neg z1, if_neg z1]
              by_cases z2 : sm_fk ci j = 2
              · rw [if_pos z2, if_pos z2]
              · exact absurd (sm_fk_lt ci j) (by omega))]) (fun j hj1 hj => by
        by_cases hkj : sm_kd j < 7
        · unfold sn_cell sn_ar sm_sw
          rw [if_pos hkj, if_pos hkj]
        · have hne : sm_kd j ≠ 10 + ci := fun q => hj (huni j a hj1 (sm_kd_lt (by omega)) q hkk)
          unfold sn_cell
          rw [if_neg hkj, if_neg hkj]
          congr 2
          unfold sn_fs
          apply List.map_congr_left
          intro n hn
          have h3 := hone j hj1 hne (by omega) n (List.mem_range.mp hn)
          unfold sn_fld sm_sw
          by_cases z0 : sm_fk (sm_kd j - 10) n = 0
          · rw [if_pos z0, if_pos z0]
          · rw [if_neg z0, if_neg z0]
            by_cases z1 : sm_fk (sm_kd j - 10) n = 1
            · rw [if_pos z1, if_pos z1]
            · rw [if_neg z1, if_neg z1]
              by_cases z2 : sm_fk (sm_kd j - 10) n = 2
              · rw [if_pos z2, if_pos z2]
              · exact absurd (sm_fk_lt (sm_kd j - 10) n) (by omega))
      rw [e] at hP1
      exact hP1
    next => cases hi
  next => cases hi
theorem sv_iaload (hd : decode cc pc = .ok (.iaload, 1)) : sn_V l D cA ad SK nm by_ mL rts cc own nL rt pc (sm_al 0 (pc + 1)) := by
  intro p e R s m args below meth c Q C f o hi
  obtain ⟨ls, st, h⟩ := f
  simp only [sm_al] at hi
  split at hi
  next i a st' =>
    split at hi
    next hkk =>
      obtain rfl := Option.some.inj hi
      intro G H locs la hP hS hL hNd
      exact va_iald C.1 C.2.1 C.2.2.2.2.2.2.2.1 hP a 0 (sn_hi hkk.1 (by omega)) rfl (sn_in hkk.2) hd (G H locs la hP hS hL hNd)
    next => cases hi
  next => cases hi
theorem sv_baload (hd : decode cc pc = .ok (.baload, 1)) : sn_V l D cA ad SK nm by_ mL rts cc own nL rt pc (sm_al 1 (pc + 1)) := by
  intro p e R s m args below meth c Q C f o hi
  obtain ⟨ls, st, h⟩ := f
  simp only [sm_al] at hi
  split at hi
  next i a st' =>
    split at hi
    next hkk =>
      obtain rfl := Option.some.inj hi
      intro G H locs la hP hS hL hNd
      exact va_bald C.1 C.2.1 C.2.2.2.2.2.2.2.1 hP a 1 (sn_hi hkk.1 (by omega)) rfl (sn_in hkk.2) hd (G H locs la hP hS hL hNd)
    next => cases hi
  next => cases hi
theorem sv_zaload (hd : decode cc pc = .ok (.baload, 1)) : sn_V l D cA ad SK nm by_ mL rts cc own nL rt pc (sm_al 2 (pc + 1)) := by
  intro p e R s m args below meth c Q C f o hi
  obtain ⟨ls, st, h⟩ := f
  simp only [sm_al] at hi
  split at hi
  next i a st' =>
    split at hi
    next hkk =>
      obtain rfl := Option.some.inj hi
      intro G H locs la hP hS hL hNd
      exact va_zald C.1 C.2.1 C.2.2.2.2.2.2.2.1 hP a 2 (sn_hi hkk.1 (by omega)) rfl (sn_in hkk.2) hd (G H locs la hP hS hL hNd)
    next => cases hi
  next => cases hi
theorem sv_laload (hd : decode cc pc = .ok (.laload, 1)) : sn_V l D cA ad SK nm by_ mL rts cc own nL rt pc (sm_all (pc + 1)) := by
  intro p e R s m args below meth c Q C f o hi
  obtain ⟨ls, st, h⟩ := f
  simp only [sm_all] at hi
  split at hi
  next i a st' =>
    split at hi
    next hkk =>
      obtain rfl := Option.some.inj hi
      intro G H locs la hP hS hL hNd
      exact va_lald C.1 C.2.1 C.2.2.2.2.2.2.2.1 hP a 3 (sn_hl hkk.1) rfl (sn_in hkk.2) hd (G H locs la hP hS hL hNd)
    next => cases hi
  next => cases hi
theorem sv_aaload (hd : decode cc pc = .ok (.aaload, 1)) : sn_V l D cA ad SK nm by_ mL rts cc own nL rt pc (sm_ala (pc + 1)) := by
  intro p e R s m args below meth c Q C f o hi
  obtain ⟨ls, st, h⟩ := f
  simp only [sm_ala] at hi
  split at hi
  next i a st' =>
    split at hi
    next hkk =>
      obtain rfl := Option.some.inj hi
      intro G H locs la hP hS hL hNd
      obtain ⟨⟨h4, h7⟩, hin⟩ := hkk
      have hin := sn_in hin
      have hlt : i.toNatClampNeg < sm_ln a := Nat.not_le.mp fun q => hin (Or.inr q)
      have key : ∀ (t : Nat) (ty : FieldType), sm_kd a = t → (sm_tys cA)[t]? = some (cA t, ty) → ty.isReference = true → refKind ty = true → W p l e R s m args below meth c H locs 0 0 Q (F0 m pc la (.int i :: .ref (ad a) :: st'.map (sn_tr ad))) := by
        intro t ty ht hty hr hrk
        have ha := sn_hr (cA := cA) (ad := ad) (h := h) ht (by omega) (by omega)
        exact W.aald (v := .ref (ad (sm_rf a i.toNatClampNeg))) (ty := ty) C.1 C.2.1 (hP a _ ha) ((C.2.2.2.2.2.2.2.1.2 t _ hty).1 (sm_ln a) (fun j => va_rf (some (ad (sm_rf a j))))) hr (fun q => by cases q) (by show ¬ (i < 0 ∨ (arrV _ _ _).slots.size ≤ _); rw [arrV_size]; exact hin) (by show (arrV _ _ _).slots[_]? = _; rw [arrV_read _ _ hlt]; rfl) rfl rfl hd (G H locs la hP hS hL hNd)
      rcases (by omega : sm_kd a = 4 ∨ sm_kd a = 5 ∨ sm_kd a = 6) with q | q | q
      · exact key 4 _ q rfl rfl rfl
      · exact key 5 _ q rfl rfl rfl
      · exact key 6 _ q rfl rfl rfl
    next => cases hi
  next => cases hi
theorem sv_iastore (hd : decode cc pc = .ok (.iastore, 1)) : sn_V l D cA ad SK nm by_ mL rts cc own nL rt pc (sm_as 0 (fun x => x) (pc + 1)) := by
  intro p e R s m args below meth c Q C f o hi
  obtain ⟨ls, st, h⟩ := f
  simp only [sm_as] at hi
  split at hi
  next x i a st' =>
    split at hi
    next hkk =>
      obtain rfl := Option.some.inj hi
      intro G H locs la hP hS hL hNd
      refine va_iast C.1 C.2.1 C.2.2.2.2.2.2.2.1 hP (sn_D C.2.2.2.2.2.2.2.2.2.2.2.1) hS a 0 (sn_hi hkk.1 (by omega)) rfl (sn_in hkk.2) hd (fun H1 locs1 hP1 hD1 hS1 => G H1 locs1 la ?_ hS1 hL hNd)
      have e := sn_ws_set (cA := cA) (ad := ad) (h := h) (h' := sm_si h a i.toNatClampNeg (x)) (i := a) (e := .inl (cA 0, sm_ln a, .inl (upd (h.1 a) i.toNatClampNeg (x)))) (by
        rw [sn_cell_arr (by omega), sn_ar_i (by omega), hkk.1, sn_ownI]) (fun j _ hj => sn_cell_eq (sn_sameI hj) rfl rfl)
      rw [e] at hP1
      exact hP1
    next => cases hi
  next => cases hi
theorem sv_bastore (hd : decode cc pc = .ok (.bastore, 1)) : sn_V l D cA ad SK nm by_ mL rts cc own nL rt pc (sm_as 1 (fun x => vp_nar .byte x) (pc + 1)) := by
  intro p e R s m args below meth c Q C f o hi
  obtain ⟨ls, st, h⟩ := f
  simp only [sm_as] at hi
  split at hi
  next x i a st' =>
    split at hi
    next hkk =>
      obtain rfl := Option.some.inj hi
      intro G H locs la hP hS hL hNd
      refine va_bast C.1 C.2.1 C.2.2.2.2.2.2.2.1 hP (sn_D C.2.2.2.2.2.2.2.2.2.2.2.1) hS a 1 (sn_hi hkk.1 (by omega)) rfl (sn_in hkk.2) hd (fun H1 locs1 hP1 hD1 hS1 => G H1 locs1 la ?_ hS1 hL hNd)
      have e := sn_ws_set (cA := cA) (ad := ad) (h := h) (h' := sm_si h a i.toNatClampNeg (vp_nar .byte x)) (i := a) (e := .inl (cA 1, sm_ln a, .inl (upd (h.1 a) i.toNatClampNeg (vp_nar .byte x)))) (by
        rw [sn_cell_arr (by omega), sn_ar_i (by omega), hkk.1, sn_ownI]) (fun j _ hj => sn_cell_eq (sn_sameI hj) rfl rfl)
      rw [e] at hP1
      exact hP1
    next => cases hi
  next => cases hi
theorem sv_zastore (hd : decode cc pc = .ok (.bastore, 1)) : sn_V l D cA ad SK nm by_ mL rts cc own nL rt pc (sm_as 2 (fun x => vp_nar .boolean x) (pc + 1)) := by
  intro p e R s m args below meth c Q C f o hi
  obtain ⟨ls, st, h⟩ := f
  simp only [sm_as] at hi
  split at hi
  next x i a st' =>
    split at hi
    next hkk =>
      obtain rfl := Option.some.inj hi
      intro G H locs la hP hS hL hNd
      refine va_zast C.1 C.2.1 C.2.2.2.2.2.2.2.1 hP (sn_D C.2.2.2.2.2.2.2.2.2.2.2.1) hS a 2 (sn_hi hkk.1 (by omega)) rfl (sn_in hkk.2) hd (fun H1 locs1 hP1 hD1 hS1 => G H1 locs1 la ?_ hS1 hL hNd)
      have e := sn_ws_set (cA := cA) (ad := ad) (h := h) (h' := sm_si h a i.toNatClampNeg (vp_nar .boolean x)) (i := a) (e := .inl (cA 2, sm_ln a, .inl (upd (h.1 a) i.toNatClampNeg (vp_nar .boolean x)))) (by
        rw [sn_cell_arr (by omega), sn_ar_i (by omega), hkk.1, sn_ownI]) (fun j _ hj => sn_cell_eq (sn_sameI hj) rfl rfl)
      rw [e] at hP1
      exact hP1
    next => cases hi
  next => cases hi
theorem sv_lastore (hd : decode cc pc = .ok (.lastore, 1)) : sn_V l D cA ad SK nm by_ mL rts cc own nL rt pc (sm_asl (pc + 1)) := by
  intro p e R s m args below meth c Q C f o hi
  obtain ⟨ls, st, h⟩ := f
  simp only [sm_asl] at hi
  split at hi
  next x i a st' =>
    split at hi
    next hkk =>
      obtain rfl := Option.some.inj hi
      intro G H locs la hP hS hL hNd
      refine va_last C.1 C.2.1 C.2.2.2.2.2.2.2.1 hP (sn_D C.2.2.2.2.2.2.2.2.2.2.2.1) hS a 3 (sn_hl hkk.1) rfl (sn_in hkk.2) hd (fun H1 locs1 hP1 hD1 hS1 => G H1 locs1 la ?_ hS1 hL hNd)
      have e := sn_ws_set (cA := cA) (ad := ad) (h := h) (h' := sm_sl h a i.toNatClampNeg x) (i := a) (e := .inl (cA 3, sm_ln a, .inr (.inl (vp_updL (h.2.1 a) i.toNatClampNeg x)))) (by
        rw [sn_cell_arr (by omega), sn_ar_l (by omega), hkk.1, sn_ownL]) (fun j _ hj => sn_cell_eq rfl (sn_sameL hj) rfl)
      rw [e] at hP1
      exact hP1
    next => cases hi
  next => cases hi
theorem sv_alen (hd : decode cc pc = .ok (.arraylength, 1)) : sn_V l D cA ad SK nm by_ mL rts cc own nL rt pc (sm_len (pc + 1)) := by
  intro p e R s m args below meth c Q C f o hi
  obtain ⟨ls, st, h⟩ := f
  simp only [sm_len] at hi
  split at hi
  next a st' =>
    split at hi
    next hkk =>
      obtain rfl := Option.some.inj hi
      intro G H locs la hP hS hL hNd
      have key : ∀ (t : Nat) (ty : FieldType), sm_kd a = t → (sm_tys cA)[t]? = some (cA t, ty) → W p l e R s m args below meth c H locs 0 0 Q (F0 m pc la (.ref (ad a) :: st'.map (sn_tr ad))) := by
        intro t ty ht hty
        exact va_alen C.1 C.2.1 C.2.2.2.2.2.2.2.1 hP a t (cA := cA t) (x := sn_ar ad h a) ((sn_ws_at (sm_kd_lt (by omega))).trans (by rw [sn_cell_arr (by omega), ht])) hty rfl hd (G H locs la hP hS hL hNd)
      rcases (by omega : sm_kd a = 0 ∨ sm_kd a = 1 ∨ sm_kd a = 2 ∨ sm_kd a = 3 ∨ sm_kd a = 4 ∨ sm_kd a = 5 ∨ sm_kd a = 6) with q | q | q | q | q | q | q
      · exact key 0 _ q rfl
      · exact key 1 _ q rfl
      · exact key 2 _ q rfl
      · exact key 3 _ q rfl
      · exact key 4 _ q rfl
      · exact key 5 _ q rfl
      · exact key 6 _ q rfl
    next => cases hi
  next => cases hi
theorem sv_ts {dflt lo hi0 : Int} {offs : Array Int} {len : Nat} {tg : List Nat} {df : Nat} (hd : decode cc pc = .ok (.tableswitch dflt lo hi0 offs, len)) (htg : offs.toList = tg.map (fun t : Nat => (t : Int) - (pc : Int))) (hdf : (pc : Int) + dflt = (df : Int)) (hhi : hi0 = lo + (tg.length : Int) - 1) : sn_V l D cA ad SK nm by_ mL rts cc own nL rt pc (sm_ts lo tg df) := by
  intro p e R s m args below meth c Q C f o hi
  obtain ⟨ls, st, h⟩ := f
  simp only [sm_ts] at hi
  split at hi
  next x st' =>
    obtain rfl := Option.some.inj hi
    intro G H locs la hP hS hL hNd
    have G2 := G H locs la hP hS hL hNd
    dsimp only at G2
    by_cases h1 : x.toInt < lo
    · rw [if_pos h1] at G2
      exact lv_tableOut C.1 C.2.1 hd (Or.inl h1) hdf G2
    · rw [if_neg h1] at G2
      by_cases h2 : hi0 < x.toInt
      · rw [List.getD_eq_getElem?_getD, List.getElem?_eq_none (by omega)] at G2
        exact lv_tableOut C.1 C.2.1 hd (Or.inr h2) hdf G2
      · have hlt : (x.toInt - lo).toNat < tg.length := by omega
        rw [List.getD_eq_getElem?_getD, List.getElem?_eq_getElem hlt, Option.getD_some] at G2
        refine lv_tableIn (off := (tg[(x.toInt - lo).toNat] : Int) - (pc : Int)) C.1 C.2.1 hd h1 h2 ?_ (by omega) G2
        rw [← Array.getElem?_toList, htg, List.getElem?_map, List.getElem?_eq_getElem hlt]
        rfl
  next => cases hi
theorem sv_acp {index : Nat} (hd : decode cc pc = .ok (.invokestatic index, 3)) (hlink : Cond.methodLink own index arraycopyName ∈ sm_wl) (hnat : Cond.native arraycopyName ∈ sm_wl) (hstat : Cond.static arraycopyName ∈ sm_wl) (hini : Cond.initialized "java/lang/System" ∈ sm_wl) : sn_V l D cA ad SK nm by_ mL rts cc own nL rt pc (sm_acp (pc + 3)) := by
  intro p e R s m args below meth c Q C f o hi
  obtain ⟨ls, st, h⟩ := f
  simp only [sm_acp] at hi
  split at hi
  next k dp b sp a st' =>
    split at hi
    next hkk =>
      obtain rfl := Option.some.inj hi
      obtain ⟨⟨ka, kb, hst⟩, h1, h2, h3, h4, h5⟩ := hkk
      intro G H locs la hP hS hL hNd
      refine va_copyi C.1 C.2.1 (C.2.2.1.trans hL.2.1.symm) C.2.2.2.1 (C.2.2.2.2.1 _ hlink) (C.2.2.2.2.1 _ hnat) (C.2.2.2.2.1 _ hstat) (C.2.2.2.2.1 _ hini) C.2.2.2.2.2.2.2.1 hP (sn_D C.2.2.2.2.2.2.2.2.2.2.2.1) hS a b 0 0 (ty := .int) (sn_hi ka (by omega)) (sn_hi kb (by omega)) rfl rfl rfl (Int32.not_lt.mpr h1) (Int32.not_lt.mpr h2) (Int32.not_lt.mpr h3) h4 h5 (fun i _ => rfl) C.2.2.2.2.2.2.2.2.2.1 (Nat.le_trans (Nat.add_le_add_right (sn_room ad st' 4 hst) _) (Nat.le_trans (by decide +kernel) C.2.2.2.2.2.2.2.2.2.2.1)) hd (fun H1 locs1 hP1 hD1 hS1 => G H1 locs1 la ?_ hS1 hL hNd)
      have e := sn_ws_set (cA := cA) (ad := ad) (h := h) (h' := sm_cp h a sp.toNatClampNeg b dp.toNatClampNeg k.toNatClampNeg) (i := b) (e := .inl (cA 0, sm_ln b, .inl (va_cpy (h.1 a) (h.1 b) sp.toNatClampNeg dp.toNatClampNeg k.toNatClampNeg))) (by
        rw [sn_cell_arr (by omega), sn_ar_i (by omega), kb]
        congr 4
        funext j
        simp [sm_cp]) (fun j _ hj => sn_cell_eq (by funext k; simp [sm_cp, hj]) rfl rfl)
      rw [e] at hP1
      exact hP1
    next => cases hi
  next => cases hi
theorem sn_blind {as : List Value} {h : sm_H} (hSK : sn_SKp ad SK) : FrameBlind (sn_Pc D cA ad SK as h) := fun a U g mk q => ⟨q.1, q.2.1, va_K.moved (u := U) (U := U.calling g mk a) (Vm.Alike.refl U.vm) q.2.2.1, hSK.2.1 U _ _ rfl q.2.2.2⟩
/-- behind a call of the small machine -/
theorem sn_after {p : Program} {e : Env} {R : Room} {s : State} {m : MethodId} {args : Array Value} {below : List Frame} {meth : Method} {c : Code} {Q : State → Prop} {H : Heap} {locs : List Loc} {la : Array Slot} {st0 : List Value} {rest : List Value} {r : sm_R} {a : Array Value} {ls : List Value} (hr : va_Run p l e R s m args below meth c H locs 0 0 0 0 (F0 m pc la st0) (rest.map (sn_tr ad)) (sn_Qc D cA ad r a) (sn_A ad)) (hS : va_S (sn_A ad) s.heap H locs) (hL : sn_L ad la nL ls) (hN : sn_nd ls) (h1 : r.1.length ≤ 1) (G : sn_G l D cA ad p e R s m args below meth c Q nL (pc + 3) (ls, r.1 ++ rest, r.2)) : W p l e R s m args below meth c H locs 0 0 Q (F0 m pc la st0) := by
  intro T hT X
  obtain ⟨v, st₀, t, T', L, h0, X', hLc, e1, e2, ⟨hv, hP1, hF⟩, st⟩ := hr T hT X
  have hS1 : va_S (sn_A ad) s.heap T'.heap (locs ++ L) := by
    refine ⟨?_, fun q hq hA => ?_, fun q hq => ?_⟩
    · have := hF.1
      rw [h0] at this
      rw [e1]
      exact Nat.le_trans hS.1 this
    · rw [e1, hF.2 q (by rw [h0]; exact Nat.lt_of_lt_of_le hq hS.1) hA, h0]
      exact hS.2.1 q hq hA
    · rcases List.mem_append.mp hq with z | z
      · exact hS.2.2 q z
      · exact hLc q z
  obtain ⟨t2, a1, b1⟩ := G T'.heap (locs ++ L) la (by rw [e1]; exact hP1) hS1 hL hN T' rfl X'
  refine ⟨t2, st t2 ?_, b1⟩
  have hst : v.toList ++ rest.map (sn_tr ad) = (r.1 ++ rest).map (sn_tr ad) := by
    obtain ⟨r1, r2⟩ := r
    have hv2 : v = r1.head?.map (sn_tr ad) := by
      have := hv
      exact Outcome.returned.inj this
    match r1, h1, hv2 with
    | [], _, hv2 => rw [hv2]; rfl
    | [x], _, hv2 => rw [hv2]; rfl
    | x :: y :: z, h1, _ => simp at h1
  show Steps p.tables e below (T'.setTop { F0 m pc la st0 with pc := pc + 3, stack := v.toList ++ rest.map (sn_tr ad) }) t2
  rw [hst]
  exact a1
theorem sn_take : ∀ (n : Nat) (st : List Value), st.map (sn_tr ad) = ((st.take n).reverse.map (sn_tr ad)).reverse ++ (st.drop n).map (sn_tr ad) := by
  intro n st
  rw [List.map_reverse, List.reverse_reverse, ← List.map_append, List.take_append_drop]
theorem sv_is {index y na : Nat} (hd : decode cc pc = .ok (.invokestatic index, 3)) (hcode : Cond.code (nm y) (by_ y) (mL y) (rts y) ∈ sm_wl) (hini : Cond.initialized (nm y).cls ∈ sm_wl) (hlink : Cond.methodLink own index (nm y) ∈ sm_wl) (hne : (nm y).cls ≠ "java/lang/invoke/MethodHandle" ∧ (nm y).cls ≠ "java/lang/invoke/VarHandle") (hnp : (parseMethodDescriptor (nm y).desc).map (fun d => d.parameters.length) = some na) (hstat : Cond.static (nm y) ∈ sm_wl) : sn_V l D cA ad SK nm by_ mL rts cc own nL rt pc (sm_sv y na (pc + 3)) := by
  intro p e R s m args below meth c Q C f o hi
  obtain ⟨ls, st, h⟩ := f
  simp only [sm_sv] at hi
  split at hi
  next hl =>
    obtain rfl := Option.some.inj hi
    intro r rm hc0 hs0 hfr hlo hr1 hM G H locs la hP hS hL hNd
    have hp : PreS s H (sn_Pc D cA ad SK (st.take na).reverse h) ((st.take na).reverse.map (sn_tr ad)) := ⟨sn_blind C.2.2.2.2.2.2.2.2.2.2.2.2, fun U hU hW => ⟨rfl, by rw [hU]; exact hP, va_K.moved hW.alike C.2.2.2.2.2.2.2.1, by rw [hU]; exact (C.2.2.2.2.2.2.2.2.2.2.2.2).1 s U H hW ((C.2.2.2.2.2.2.2.2.2.2.2.2).2.2 s s.heap H (fun q h1 h2 => hS.2.1 q h1 h2) C.2.2.2.2.2.2.2.2.1)⟩⟩
    refine sn_after (va_runS (rest := (st.drop na).map (sn_tr ad)) ⟨C.1, C.2.1, C.2.2.1, C.2.2.2.1, C.2.2.2.2.1⟩ hM ⟨callB_of na C.2.2.2.2.1 (sn_goodw hcode) rfl hc0 hs0 (C.2.2.2.2.1 _ hini) (C.2.2.2.2.1 _ hlink) ⟨hne.1, hne.2, hnp⟩ ⟨hfr, hlo⟩, C.2.2.2.2.1 _ hstat⟩ hp rfl (by simp; omega) hL.2.1 (sn_take na st) (lv_room (Nat.le_trans (sn_wdc ad _) hl.2)) hd ⟨Nat.zero_le _, Nat.zero_le _⟩) hS hL hNd hr1 G
  next => cases hi
theorem sv_iv {index y na ci : Nat} {T : u_T} {N : Nat} (hd : decode cc pc = .ok (.invokevirtual index, 3)) (hcode : Cond.code (nm y) (by_ y) (mL y) (rts y) ∈ sm_wl) (hini : Cond.initialized (nm y).cls ∈ sm_wl) (hlink : Cond.methodLink own index (nm y) ∈ sm_wl) (hne : (nm y).cls ≠ "java/lang/invoke/MethodHandle" ∧ (nm y).cls ≠ "java/lang/invoke/VarHandle") (hnp : (parseMethodDescriptor (nm y).desc).map (fun d => d.parameters.length) = some na) (hinst : Cond.instanceMethod (nm y) ∈ sm_wl) (hsel : Cond.selects (nm y).cls (nm y) (nm y) ∈ sm_wl) (hcl : sm_cls[ci]? = some ((nm y).cls, T, N)) (hci : ci < 80) : sn_V l D cA ad SK nm by_ mL rts cc own nL rt pc (sm_iv y ci na (pc + 3)) := by
  intro p e R s m args below meth c Q C f o hi
  obtain ⟨ls, st, h⟩ := f
  simp only [sm_iv] at hi
  split at hi
  next a ha =>
    split at hi
    next hl =>
      obtain rfl := Option.some.inj hi
      intro r rm hc0 hs0 hfr hlo hr1 hM G H locs la hP hS hL hNd
      have hlt : na < st.length := (List.getElem?_eq_some_iff.mp ha).1
      have hdrop : st.drop na = .ref a :: st.drop (na + 1) := by
        rw [List.drop_eq_getElem_cons hlt]
        congr 1
        exact (List.getElem?_eq_some_iff.mp ha).2
      have htk : (st.take (na + 1)).reverse = .ref a :: (st.take na).reverse := by
        rw [List.take_succ, ha, List.reverse_append]
        rfl
      have hp : PreV s H (nm y).cls (ad a) (sn_Pc D cA ad SK (st.take (na + 1)).reverse h) ((st.take na).reverse.map (sn_tr ad)) := ⟨sn_blind C.2.2.2.2.2.2.2.2.2.2.2.2, va_recv C.2.2.2.2.2.2.2.1 hP hcl (sn_ho hl.1 hci), fun U hU hW => ⟨by rw [htk]; rfl, by rw [hU]; exact hP, va_K.moved hW.alike C.2.2.2.2.2.2.2.1, by rw [hU]; exact (C.2.2.2.2.2.2.2.2.2.2.2.2).1 s U H hW ((C.2.2.2.2.2.2.2.2.2.2.2.2).2.2 s s.heap H (fun q h1 h2 => hS.2.1 q h1 h2) C.2.2.2.2.2.2.2.2.1)⟩⟩
      refine sn_after (va_runV (C := (nm y).cls) (b := ad a) (As := (st.take na).reverse.map (sn_tr ad)) (rest := (st.drop (na + 1)).map (sn_tr ad)) ⟨C.1, C.2.1, C.2.2.1, C.2.2.2.1, C.2.2.2.2.1⟩ hM ⟨callB_of na C.2.2.2.2.1 (sn_goodw hcode) rfl hc0 hs0 (C.2.2.2.2.1 _ hini) (C.2.2.2.2.1 _ hlink) ⟨hne.1, hne.2, hnp⟩ ⟨hfr, hlo⟩, C.2.2.2.2.1 _ hinst, C.2.2.2.2.1 _ hsel⟩ hp rfl (by simp; omega) hL.2.1 (by show st.map (sn_tr ad) = _; rw [sn_take na st, hdrop]; rfl) (lv_room (Nat.le_trans (sn_wdc ad _) hl.2)) hd ⟨Nat.zero_le _, Nat.zero_le _⟩) hS hL hNd hr1 G
    next => cases hi
  next => cases hi
theorem sv_ldcS {index k : Nat} {tx : String} (hd : decode cc pc = .ok (.ldc index, 2)) (hR : ∀ (s : State) (H : Heap), SK s H → vk_R own index tx (ad (1000 + k)) s) : sn_V l D cA ad SK nm by_ mL rts cc own nL rt pc (sm_push (.ref (1000 + k)) (pc + 2)) := by
  intro p e R s m args below meth c Q C f o hi
  obtain ⟨ls, st, h⟩ := f
  obtain rfl := Option.some.inj hi
  intro G H locs la hP hS hL hNd
  exact va_ldcS C.1 C.2.1 C.2.2.2.1 (hR s s.heap C.2.2.2.2.2.2.2.2.1) hd (G H locs la hP hS hL hNd)
end SNV2
