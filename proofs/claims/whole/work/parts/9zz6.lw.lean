/-! ===== the loop of the law, its beginning ===== -/
section LW
variable {l : Launch} {D : va_G} {cA : Nat → ClassId} {ad : Nat → Nat} {p : Program} {e : Env} {s : State} {m : MethodId} {below : List Frame} {meth : Method} {c : Code} {b L : Nat} {xs : Nat → Int32} {k pc : Nat} {st : List Value} {h : sm_H}
theorem lz_sw {j : Nat} {off : Int} {tgt : Nat} (C : lz_C D cA ad p s m meth c b L xs) (hj : j < 45) (ho : (#[195, 258, 281, 304, 337, 370, 403, 436, 469, 512, 535, 558, 581, 604, 637, 660, 693, 726, 769, 802, 825, 869, 902, 935, 968, 981, 1004, 1017, 1030, 1053, 1086, 1109, 1132, 1165, 1198, 1231, 1264, 1297, 1341, 1364, 1407, 1481, 1524, 1547, 1570] : Array Int)[j]? = some off) (ht : ((33 : Nat) : Int) + off = (tgt : Int)) (G : lz_G l D cA ad p e s m below meth c b k tgt [] h) : lz_G l D cA ad p e s m below meth c b k 33 [.int (nI j)] h := fun H locs la hP hS hl => by
  have e : (nI j).toInt = (j : Int) := nI_toInt (by omega)
  refine lv_tableIn C.1 C.2.1 dl_33 (by rw [e]; omega) (by rw [e]; omega) (off := off) (tgt := tgt) ?_ ht (G H locs la hP hS hl)
  rw [e, show ((j : Int) - 0).toNat = j by omega]
  exact ho
theorem lz_sd {j : Nat} (C : lz_C D cA ad p s m meth c b L xs) (hj : 45 ≤ j) (hj2 : j < 64) (G : lz_G l D cA ad p e s m below meth c b k 1626 [] h) : lz_G l D cA ad p e s m below meth c b k 33 [.int (nI j)] h := fun H locs la hP hS hl => by
  have e : (nI j).toInt = (j : Int) := nI_toInt (by omega)
  exact lv_tableOut C.1 C.2.1 dl_33 (Or.inr (by rw [e]; omega)) (tgt := 1626) (by decide) (G H locs la hP hS hl)
theorem lz_body (C : lz_C D cA ad p s m meth c b L xs) (hk : k + 6 ≤ L) {n : Nat} (hn : n ≤ 512) (J : JI n h) (G : ∀ h2 : sm_H, JI n h2 ∨ JI (n + 1) h2 → lz_G l D cA ad p e s m below meth c b k 1626 [] h2) : lz_G l D cA ad p e s m below meth c b k 27 [] h := by
  obtain ⟨j, hj, ej⟩ := lz_63 (xs k)
  intro H locs la hP hS hl
  refine lv_aload_n C.1 C.2.1 dl_27 rfl (lv_at hl 3 rfl) ?_
  refine lv_iload_n C.1 C.2.1 dl_28 rfl (lv_at hl 0 rfl) ?_
  refine lz_ld (k := k) (i := k) (h := h) C (by omega) dl_29 ?_ H locs la hP hS hl
  intro H locs la hP hS hl
  refine lv_bipush (v := 63) C.1 C.2.1 dl_30 (by decide) ?_
  refine lv_iand C.1 C.2.1 dl_32 ?_
  rw [ej]
  by_cases h45 : j < 45
  · have G : ∀ h2 : sm_H, JI (n + 1) h2 → lz_G l D cA ad p e s m below meth c b k 1626 [] h2 := fun h2 q => G h2 (Or.inr q)
    exact match j, h45 with
        | 0, _ => lz_sw (off := 195) (tgt := 228) C (by decide) rfl (by decide) (lc_0 C hk hn J G) H locs la hP hS hl
        | 1, _ => lz_sw (off := 258) (tgt := 291) C (by decide) rfl (by decide) (lc_1 C hk hn J G) H locs la hP hS hl
        | 2, _ => lz_sw (off := 281) (tgt := 314) C (by decide) rfl (by decide) (lc_2 C hk hn J G) H locs la hP hS hl
        | 3, _ => lz_sw (off := 304) (tgt := 337) C (by decide) rfl (by decide) (lc_3 C hk hn J G) H locs la hP hS hl
        | 4, _ => lz_sw (off := 337) (tgt := 370) C (by decide) rfl (by decide) (lc_4 C hk hn J G) H locs la hP hS hl
        | 5, _ => lz_sw (off := 370) (tgt := 403) C (by decide) rfl (by decide) (lc_5 C hk hn J G) H locs la hP hS hl
        | 6, _ => lz_sw (off := 403) (tgt := 436) C (by decide) rfl (by decide) (lc_6 C hk hn J G) H locs la hP hS hl
        | 7, _ => lz_sw (off := 436) (tgt := 469) C (by decide) rfl (by decide) (lc_7 C hk hn J G) H locs la hP hS hl
        | 8, _ => lz_sw (off := 469) (tgt := 502) C (by decide) rfl (by decide) (lc_8 C hk hn J G) H locs la hP hS hl
        | 9, _ => lz_sw (off := 512) (tgt := 545) C (by decide) rfl (by decide) (lc_9 C hk hn J G) H locs la hP hS hl
        | 10, _ => lz_sw (off := 535) (tgt := 568) C (by decide) rfl (by decide) (lc_10 C hk hn J G) H locs la hP hS hl
        | 11, _ => lz_sw (off := 558) (tgt := 591) C (by decide) rfl (by decide) (lc_11 C hk hn J G) H locs la hP hS hl
        | 12, _ => lz_sw (off := 581) (tgt := 614) C (by decide) rfl (by decide) (lc_12 C hk hn J G) H locs la hP hS hl
        | 13, _ => lz_sw (off := 604) (tgt := 637) C (by decide) rfl (by decide) (lc_13 C hk hn J G) H locs la hP hS hl
        | 14, _ => lz_sw (off := 637) (tgt := 670) C (by decide) rfl (by decide) (lc_14 C hk hn J G) H locs la hP hS hl
        | 15, _ => lz_sw (off := 660) (tgt := 693) C (by decide) rfl (by decide) (lc_15 C hk hn J G) H locs la hP hS hl
        | 16, _ => lz_sw (off := 693) (tgt := 726) C (by decide) rfl (by decide) (lc_16 C hk hn J G) H locs la hP hS hl
        | 17, _ => lz_sw (off := 726) (tgt := 759) C (by decide) rfl (by decide) (lc_17 C hk hn J G) H locs la hP hS hl
        | 18, _ => lz_sw (off := 769) (tgt := 802) C (by decide) rfl (by decide) (lc_18 C hk hn J G) H locs la hP hS hl
        | 19, _ => lz_sw (off := 802) (tgt := 835) C (by decide) rfl (by decide) (lc_19 C hk hn J G) H locs la hP hS hl
        | 20, _ => lz_sw (off := 825) (tgt := 858) C (by decide) rfl (by decide) (lc_20 C hk hn J G) H locs la hP hS hl
        | 21, _ => lz_sw (off := 869) (tgt := 902) C (by decide) rfl (by decide) (lc_21 C hk hn J G) H locs la hP hS hl
        | 22, _ => lz_sw (off := 902) (tgt := 935) C (by decide) rfl (by decide) (lc_22 C hk hn J G) H locs la hP hS hl
        | 23, _ => lz_sw (off := 935) (tgt := 968) C (by decide) rfl (by decide) (lc_23 C hk hn J G) H locs la hP hS hl
        | 24, _ => lz_sw (off := 968) (tgt := 1001) C (by decide) rfl (by decide) (lc_24 C hk hn J G) H locs la hP hS hl
        | 25, _ => lz_sw (off := 981) (tgt := 1014) C (by decide) rfl (by decide) (lc_25 C hk hn J G) H locs la hP hS hl
        | 26, _ => lz_sw (off := 1004) (tgt := 1037) C (by decide) rfl (by decide) (lc_26 C hk hn J G) H locs la hP hS hl
        | 27, _ => lz_sw (off := 1017) (tgt := 1050) C (by decide) rfl (by decide) (lc_27 C hk hn J G) H locs la hP hS hl
        | 28, _ => lz_sw (off := 1030) (tgt := 1063) C (by decide) rfl (by decide) (lc_28 C hk hn J G) H locs la hP hS hl
        | 29, _ => lz_sw (off := 1053) (tgt := 1086) C (by decide) rfl (by decide) (lc_29 C hk hn J G) H locs la hP hS hl
        | 30, _ => lz_sw (off := 1086) (tgt := 1119) C (by decide) rfl (by decide) (lc_30 C hk hn J G) H locs la hP hS hl
        | 31, _ => lz_sw (off := 1109) (tgt := 1142) C (by decide) rfl (by decide) (lc_31 C hk hn J G) H locs la hP hS hl
        | 32, _ => lz_sw (off := 1132) (tgt := 1165) C (by decide) rfl (by decide) (lc_32 C hk hn J G) H locs la hP hS hl
        | 33, _ => lz_sw (off := 1165) (tgt := 1198) C (by decide) rfl (by decide) (lc_33 C hk hn J G) H locs la hP hS hl
        | 34, _ => lz_sw (off := 1198) (tgt := 1231) C (by decide) rfl (by decide) (lc_34 C hk hn J G) H locs la hP hS hl
        | 35, _ => lz_sw (off := 1231) (tgt := 1264) C (by decide) rfl (by decide) (lc_35 C hk hn J G) H locs la hP hS hl
        | 36, _ => lz_sw (off := 1264) (tgt := 1297) C (by decide) rfl (by decide) (lc_36 C hk hn J G) H locs la hP hS hl
        | 37, _ => lz_sw (off := 1297) (tgt := 1330) C (by decide) rfl (by decide) (lc_37 C hk hn J G) H locs la hP hS hl
        | 38, _ => lz_sw (off := 1341) (tgt := 1374) C (by decide) rfl (by decide) (lc_38 C hk hn J G) H locs la hP hS hl
        | 39, _ => lz_sw (off := 1364) (tgt := 1397) C (by decide) rfl (by decide) (lc_39 C hk hn J G) H locs la hP hS hl
        | 40, _ => lz_sw (off := 1407) (tgt := 1440) C (by decide) rfl (by decide) (lc_40 C hk hn J G) H locs la hP hS hl
        | 41, _ => lz_sw (off := 1481) (tgt := 1514) C (by decide) rfl (by decide) (lc_41 C hk hn J G) H locs la hP hS hl
        | 42, _ => lz_sw (off := 1524) (tgt := 1557) C (by decide) rfl (by decide) (lc_42 C hk hn J G) H locs la hP hS hl
        | 43, _ => lz_sw (off := 1547) (tgt := 1580) C (by decide) rfl (by decide) (lc_43 C hk hn J G) H locs la hP hS hl
        | 44, _ => lz_sw (off := 1570) (tgt := 1603) C (by decide) rfl (by decide) (lc_44 C hk hn J G) H locs la hP hS hl
        | j + 45, h => absurd h (by omega)
  · exact lz_sd C (by omega) hj (G h (Or.inl J)) H locs la hP hS hl
theorem JI_mono {n : Nat} {h : sm_H} (J : JI n h) : JI (n + 1) h := by
  obtain ⟨G, W, L, B, B', T, M, n0, t, ln, f1, f2, JH, CH, hB, hC⟩ := J
  exact ⟨G, W, L, B, B', T, M, n0, t, ln, f1, f2, JH, CH, by omega, by omega⟩
theorem lz_sub {L : Nat} (hL : L ≤ 3072) : (nI L - nI 6).toInt = (L : Int) - 6 := by
  by_cases h : 6 ≤ L
  · obtain ⟨d, rfl⟩ : ∃ d, L = d + 6 := ⟨L - 6, by omega⟩
    rw [← nI_add, Int32.add_sub_cancel, nI_toInt (by omega)]
    omega
  · have h6 : L < 6 := by omega
    have : ∀ L : Nat, L < 6 → (nI L - nI 6).toInt = (L : Int) - 6 := by decide +kernel
    exact this L h6
theorem lz_head (C : lz_C D cA ad p s m meth c b L xs) (G : ∀ (H : Heap) (locs : List Loc) (la : Array Slot), va_P D sm_cls (sn_ws cA ad h) H → va_S (fun q => s.heap.size ≤ q) s.heap H locs → lv_has la 4 (lz_lv ad b (nI k)) → W p l e room_1 s m #[Value.ref b] below meth c H locs 600000 7302250 (lw_Z below #[Value.ref b] s) (F0 m 24 la [.int (nI L - nI 6), .int (nI k)])) : lz_G l D cA ad p e s m below meth c b k 18 [] h := by
  intro H locs la hP hS hl
  have hbl : b < s.heap.size := C.2.2.2.2.2.2.2.2.2.1
  refine lv_iload_n C.1 C.2.1 dl_18 rfl (lv_at hl 0 rfl) ?_
  refine lv_aload_n C.1 C.2.1 dl_19 rfl (lv_at hl 3 rfl) ?_
  refine va_slen C.1 C.2.1 C.2.2.2.2.2.2.2.2.1 hbl (Nat.not_le.mpr hbl) hS dl_20 ?_
  refine lv_bipush (v := nI 6) C.1 C.2.1 dl_21 (by decide) ?_
  refine lv_isub C.1 C.2.1 dl_23 ?_
  exact G H locs la hP hS hl
theorem lz_enter (C : lz_C D cA ad p s m meth c b L xs) (hL : k < 2 ^ 31) (hk : k + 6 ≤ L) (G : lz_G l D cA ad p e s m below meth c b k 27 [] h) : lz_G l D cA ad p e s m below meth c b k 18 [] h := by
  have hL3 : L ≤ 3072 := C.2.2.2.2.2.2.2.2.2.2
  refine lz_head C (fun H locs la hP hS hl => ?_)
  refine lv_icmp_gt (tgt := 1632) C.1 C.2.1 dl_24 (by decide) (fun q => ?_) (fun _ => G H locs la hP hS hl)
  have q2 := Int32.lt_iff_toInt_lt.mp q
  rw [lz_sub hL3, nI_toInt hL] at q2
  omega
theorem lz_exit (hr : meth.sig.returnType = ret) (hlo : meth.locks = false) (C : lz_C D cA ad p s m meth c b L xs) (hL : k < 2 ^ 31) (hk : L < k + 6) : lz_G l D cA ad p e s m below meth c b k 18 [] h := by
  have hL3 : L ≤ 3072 := C.2.2.2.2.2.2.2.2.2.2
  refine lz_head C (fun H locs la hP hS hl => ?_)
  refine lv_icmp_gt (tgt := 1632) C.1 C.2.1 dl_24 (by decide) (fun _ => ?_) (fun q => absurd (Int32.lt_iff_toInt_lt.mpr (by rw [lz_sub hL3, nI_toInt hL]; omega)) q)
  refine lv_iconst (v := 1) C.1 C.2.1 dl_1632 (by decide) ?_
  exact va_forget (fun q hq => hS.2.2 q hq) (lw_ret C.1 C.2.1 hr hlo dl_1633)
theorem lz_loop (hr : meth.sig.returnType = ret) (hlo : meth.locks = false) (C : lz_C D cA ad p s m meth c b L xs) : ∀ (d k n : Nat) (h : sm_H), L < k + 6 * d → k = 6 * n → n ≤ 512 → JI n h → lz_G l D cA ad p e s m below meth c b k 18 [] h
  | 0, k, n, h, hd, hkn, hn, J => by
    intro H locs la hP hS hl
    exact lz_exit hr hlo C (by omega) (by omega) H locs la hP hS hl
  | d + 1, k, n, h, hd, hkn, hn, J => by
    have hL : L ≤ 3072 := C.2.2.2.2.2.2.2.2.2.2
    by_cases hk : k + 6 ≤ L
    · have G : ∀ h2 : sm_H, JI n h2 ∨ JI (n + 1) h2 → lz_G l D cA ad p e s m below meth c b k 1626 [] h2 := by
        intro h2 hj H locs la hP hS hl
        have J2 : JI (n + 1) h2 := hj.elim JI_mono id
        refine lv_iinc (k := 0) (v := nI (k + 6)) (lv' := lz_lv ad b (nI (k + 6))) C.1 C.2.1 dl_1626 hl rfl (by rw [← nI_add]; rfl) (by decide) rfl (fun la hl => ?_)
        refine lv_goto (tgt := 18) C.1 C.2.1 dl_1629 (by decide) ?_
        exact lz_loop hr hlo C d (k + 6) (n + 1) h2 (by omega) (by omega) (by omega) J2 H locs la hP hS hl
      intro H locs la hP hS hl
      exact lz_enter C (by omega) hk (lz_body C hk hn J G) H locs la hP hS hl
    · intro H locs la hP hS hl
      exact lz_exit hr hlo C (by omega) (by omega) H locs la hP hS hl
end LW
theorem gz_ok : g_ok gz := ⟨by decide, fun i j _ => ⟨rfl, rfl, rfl⟩⟩
theorem whole_start {p : Program} {e : Env} {s : State} {m : MethodId} {below : List Frame} {meth : Method} {c : Code} (l : Launch) {b L : Nat} {xs : Nat → Int32} (hL : L ≤ 3072) (C0 : lw_At p s m meth c b L xs) : W p l e room_1 s m #[Value.ref b] below meth c s.heap [] 0 0 (lw_Z below #[Value.ref b] s) (entryFrame m ([Value.ref b] : List Value).toArray 4) := by
  obtain ⟨hx, hb, hr, hml, hown, hts, hX, hbl, hlocks, hgv⟩ := C0
  obtain ⟨D, cA, hK⟩ := ef_K hts
  obtain ⟨ad, had, hSK⟩ := ef_SK hts hgv
  have hw := ef_wl hts
  have hN := ef_N hts
  have C : g_C D cA ad s.heap.size p room_1 s m #[Value.ref b] meth c code R_law 4 false := ⟨hx, hb, hml, hown, hw, hK, (Nat.le_of_ble_eq_true rfl), (Nat.le_of_ble_eq_true rfl), had, Nat.le_refl _, hN, fun h => by cases h⟩
  have Z : lz_C D cA ad p s m meth c b L xs := ⟨hx, hb, hml, hown, hw, hK, hSK, had, hX, hbl, hL⟩
  have hl := lv_entry [Value.ref b] (n := 4) (Nat.le_of_ble_eq_true rfl)
  rw [lg_entry_eq]
  refine (?_ : g_G l D cA ad s.heap.size p e room_1 s m #[Value.ref b] below meth c (lw_Z below #[Value.ref b] s) 4 0 0 0 [(0, .ref b)] [] gz) s.heap [] _ gz_ok (fun k q h => by simp [g_ws, gz] at h) rfl va_S.rf hl
  refine gx_new (kk := 0) (ci := 11) (C0 := R_BB) (T := T_BB) (N := 16) C dl_0 rfl rfl in_BB t_BB ty_BB rfl lx_134 lx_135 mw_111 gf_BB kd_0 (by decide) (Nat.le_of_ble_eq_true rfl) (Nat.le_of_ble_eq_true rfl) ?_
  refine gq_dup C dl_3 rfl ?_
  refine gq_callI (o := 0) (d := 3) (mc := 168) (ms := 102417) (mL := 1) (y := ⟨"BackBridge", "<init>", "()V"⟩) (as := []) C dl_4 (k_BB_0 had rfl) lx_138 mw_111 lx_136 lx_137 rfl ⟨by decide +kernel, by decide +kernel⟩ (by decide +kernel) (Nat.le_of_ble_eq_true rfl) (Nat.le_of_ble_eq_true rfl) (Nat.le_of_ble_eq_true rfl) (Nat.le_of_ble_eq_true rfl) bb_k (Nat.le_of_ble_eq_true rfl) ?_
  intro H locs la z hP hz hS hl
  refine lv_astore_n (lv' := [(1, .ref (ad 0)), (0, .ref b)]) hx hb dl_7 rfl hl (by decide) rfl (fun la hl => ?_)
  refine (?_ : g_G l D cA ad s.heap.size p e room_1 s m #[Value.ref b] below meth c (lw_Z below #[Value.ref b] s) 4 169 102433 8 [(1, .ref (ad 0)), (0, .ref b)] [] g_bb) H locs la z hP hz hS hl
  refine gx_new (kk := 169) (ci := 12) (C0 := R_Model) (T := T_Model) (N := 34) C dl_8 bb_k rfl in_Model t_Model ty_Model rfl lx_1425 lx_1426 mw_123 gf_Model kd_169 (by decide) (Nat.le_of_ble_eq_true rfl) (Nat.le_of_ble_eq_true rfl) ?_
  refine gq_dup C dl_11 rfl ?_
  intro H locs la z hP hz hS hl
  refine g_sz had (Nat.le_refl _) z hP hz hS (fun hy => ?_)
  have hSK1 : sn_SK ad s H := (sn_SKok ad).2.2 s s.heap H (fun q h1 _ => hS.2.1 q h1 (Nat.not_le.mpr h1)) hSK
  refine lm_after (va_runI (As := []) (rest := [.ref (ad 169)]) ⟨hx, hb, hml, hown, hw⟩ (lm_met had) ⟨callB_of (mc := 17) (ms := 940387) 0 hw (sn_goodw lx_1429) rfl rfl rfl (hw _ mw_123) (hw _ lx_1427) ⟨by decide +kernel, by decide +kernel, by decide +kernel⟩ ⟨(Nat.le_of_ble_eq_true rfl), (Nat.le_of_ble_eq_true rfl)⟩, rfl, hw _ lx_1428⟩ ⟨lm_blind, fun U hU hW => ⟨rfl, ⟨z, by rw [hU]; exact hP, by rw [hU]; exact hy, va_K.moved hW.alike hK, hN.warm hW⟩, by rw [hU]; exact (sn_SKok ad).1 s U H hW hSK1⟩⟩ rfl rfl hl.1 rfl (lv_room (Nat.le_of_ble_eq_true rfl)) dl_12 ⟨(Nat.le_of_ble_eq_true rfl), (Nat.le_of_ble_eq_true rfl)⟩) hS (fun H locs h J hP hS => ?_)
  refine W.widen (k := 600000) (n := 7302250) (Nat.le_of_ble_eq_true rfl) (Nat.le_of_ble_eq_true rfl) ?_
  refine lv_astore_n (lv' := [(2, .ref (ad 169)), (1, .ref (ad 0)), (0, .ref b)]) hx hb dl_15 rfl hl (by decide) rfl (fun la hl => ?_)
  refine lv_iconst (v := nI 0) hx hb dl_16 (by decide) ?_
  refine lv_istore_n (lv' := lz_lv ad b (nI 0)) hx hb dl_17 rfl hl (by decide) rfl (fun la hl => ?_)
  exact lz_loop hr hlocks Z (L + 1) 0 0 h (by omega) rfl (by decide) J H locs la hP hS hl
