/-! ===== laws are read: the class, units and truths ===== -/
section CRU
variable {b : Nat → Nat} {n nt q k N : Nat} {h : sm_H}
theorem cp_pc : ∀ c, c < 221 → (if (nI c).toInt < 60 then 40 else [32, 28, 36].getD ((nI c).toInt - 60).toNat 40) = if c = 61 then 28 else if c = 60 then 32 else if c = 62 then 36 else 40 := by decide +kernel
theorem c_comparison {c : Nat} (hc : c < 221) : xc 68 [.int (nI c)] h = some ([.int (jI (opC c))], h) := by
  rw [en_68, b68_0, cp_pc c hc]
  unfold opC
  by_cases y1 : c = 61
  · rw [if_pos y1, if_pos y1, b68_28]; rfl
  · rw [if_neg y1, if_neg y1]
    by_cases y2 : c = 60
    · rw [if_pos y2, if_pos y2, b68_32]; rfl
    · rw [if_neg y2, if_neg y2]
      by_cases y3 : c = 62
      · rw [if_pos y3, if_pos y3, b68_36]; rfl
      · rw [if_neg y3, if_neg y3, b68_40]; rfl
theorem c_unit {D : Nat} {S U Tr : Nat → RR → Prop} (T : TKo (tK b n) (tV b n) nt) (hD : D ≤ 6) (hS : rdC b n nt q 69 D S) (hgS : grw nt S) (hU : D ≠ 6 → rdC b n nt q 67 (D + 1) U) (hgU : grw nt U) (hT : D ≠ 6 → rdC b n nt q 66 (D + 1) Tr) (hgT : grw nt Tr) : rdC b n nt q 67 D (UnR (tK b n) (6 - D) S U Tr) := fun k N h C => by
  have r1 := rk67 (D := D) (by omega)
  have r2 := rk69 (D := D) (by omega)
  have r3 := rk67 (D := D + 1) (by omega)
  have r4 := rk66 (D := D + 1) (by omega)
  have h900 := T.2.2.1
  have hq := C.2.2.1.2
  have hk := C.2.1.2
  have hNk := C.2.2.2.2
  have hKL := KL_lt _ (T.2.2.2.1 k)
  have k1 : 1 < sm_rk 67 [.ref 28, .int (nI D)] := by rw [r1]; omega
  have hr : sm_rk 69 [.ref 28, .int (nI D)] < sm_rk 67 [.ref 28, .int (nI D)] := by rw [r1]; exact Nat.lt_of_le_of_lt (Nat.le_of_eq r2) (by omega)
  generalize hdd : sm_rk 67 [.ref 28, .int (nI D)] = d at *
  rw [en_67, hdd, b67_0, C.2.1.1]
  simp (disch := omega) only [in_45, if_true, nI_clamp, C.kd]
  have deep : D = 6 → ∀ l2 : Int32, xe d 67 39 [.ref 28, .int (nI D), .int l2, .null, .null] [] h = some ([.int (rI (.inl (4, k)))], h) ∧ cOut h h nt q N (.inl (4, k)) := fun z l2 => by
    rw [b67_39, if_neg (by rw [nI_ltI (by omega) (by decide)]; omega), b67_45]
    exact ⟨rfl, ⟨by decide, by decide⟩, hk, C.2.1.1, ⟨N, by omega, C.2.2.2.1⟩, eqx.rf⟩
  unfold UnR
  by_cases z1 : tK b n k = 212
  · rw [if_pos (by rw [z1]), b67_15, b67_20, if_neg (by decide)]
    by_cases z4 : D = 6
    · obtain ⟨e2, o2⟩ := deep z4 (nI 1)
      exact ⟨.inl (4, k), h, by rw [if_pos z1, if_pos (by omega)], e2, o2⟩
    · obtain ⟨C2, E2⟩ := cSt_nx T C (show tK b n k ≠ 0 by omega)
      obtain ⟨r, h3, a3, e3, o3⟩ := hU z4 (k + 1) N _ C2
      have o3' := cOut_nx C E2 o3
      rw [b67_39, if_pos (by rw [nI_ltI (by omega) (by decide)]; omega), b67_47, C.2.1.1, nI_add, b67_57, if_neg (by decide), b67_61 (by rw [nI_add]; exact Nat.lt_of_le_of_lt (Nat.le_of_eq r3) (by omega)), nI_add, e3, bnd]
      simp only [app1, List.cons_append, List.nil_append]
      rw [b67_68, b67_78]
      rcases r with ⟨e, k'⟩ | ⟨k', cs⟩
      · have he := o3.1
        rw [show rI (.inl (e, k')) = nI e from rfl, if_neg (by rw [show (0 : Int32) = nI 0 from rfl, nI_eq (by omega) (by decide)]; omega), b67_83]
        exact ⟨.inl (e, k'), h3, by rw [if_pos z1, if_neg (by omega)]; exact ⟨_, a3, rfl⟩, rfl, o3'⟩
      · have hgr := hgU.1 _ _ _ a3
        have hk' := hgr.2.2 C2.2.1.2
        have C3 := cSt_ok C2 o3 hk' (by omega)
        obtain ⟨h4, e4, o4⟩ := c_add (o := 3006) (v := nI 1100) C3 (by omega) rfl
        rw [show rI (.inr (k', cs)) = nI 0 from rfl, if_pos (show nI 0 = 0 from rfl), b67_85, if_neg (by decide), b67_96 (show sm_rk 41 [.ref (sm_lw h3), .int (nI 1100)] < d from k1) (by rw [C3.2.2.1.1]; exact C3.isq), C3.2.2.1.1, e4, bnd]
        simp only [List.nil_append]
        rw [b67_106]
        exact ⟨.inr (k', cs ++ [3006]), h4, by rw [if_pos z1, if_neg (by omega)]; exact ⟨_, a3, rfl⟩, rfl, o4.1, cOk_app hq o3'.2 o4.2⟩
  · rw [if_neg (by rw [nI_eq (by omega) (by decide)]; exact z1), b67_19, b67_20, if_pos (show nI 0 = 0 from rfl), b67_25, C.2.1.1]
    simp (disch := omega) only [in_45, if_true, nI_clamp, C.kd]
    by_cases z2 : tK b n k = 91
    · rw [if_pos (by rw [z2])]
      by_cases z4 : D = 6
      · obtain ⟨e2, o2⟩ := deep z4 (nI 0)
        exact ⟨.inl (4, k), h, by rw [if_neg z1, if_pos z2, if_pos (by omega)], e2, o2⟩
      · obtain ⟨C2, E2⟩ := cSt_nx T C (show tK b n k ≠ 0 by omega)
        obtain ⟨r, h3, a3, e3, o3⟩ := hT z4 (k + 1) N _ C2
        have o3' := cOut_nx C E2 o3
        rw [b67_39, if_pos (by rw [nI_ltI (by omega) (by decide)]; omega), b67_47, C.2.1.1, nI_add, b67_57, if_pos (show nI 0 = 0 from rfl), b67_71 (by rw [nI_add]; exact Nat.lt_of_le_of_lt (Nat.le_of_eq r4) (by omega)), nI_add, e3, bnd]
        simp only [app1, List.cons_append, List.nil_append]
        rw [b67_78]
        rcases r with ⟨e, k'⟩ | ⟨k', cs⟩
        · have he := o3.1
          rw [show rI (.inl (e, k')) = nI e from rfl, if_neg (by rw [show (0 : Int32) = nI 0 from rfl, nI_eq (by omega) (by decide)]; omega), b67_83]
          exact ⟨.inl (e, k'), h3, by rw [if_neg z1, if_pos z2, if_neg (by omega)]; exact ⟨_, a3, rfl⟩, rfl, o3'⟩
        · have hgr := hgT.1 _ _ _ a3
          have C3 := cSt_ok C2 o3 (hgr.2.2 C2.2.1.2) (by omega)
          obtain ⟨h4, e4, o4⟩ := c_close (k0 := k) T C3 (show 93 < 221 by decide) (by decide) o3'
          rw [show rI (.inr (k', cs)) = nI 0 from rfl, if_pos (show nI 0 = 0 from rfl), b67_85, if_pos (show nI 0 = 0 from rfl), b67_89 k1, e4, bnd]
          simp only [app1, List.cons_append, List.nil_append]
          rw [b67_95]
          exact ⟨_, h4, by rw [if_neg z1, if_pos z2, if_neg (by omega)]; exact ⟨_, a3, rfl⟩, rfl, o4⟩
    · have hun : ∀ r', cmR (tK b n) S k r' → (if tK b n k = 212 then (if 6 - D = 0 then r' = .inl (4, k) else ∃ r0, U (k + 1) r0 ∧ r' = rpost [3006] r0) else if tK b n k = 91 then (if 6 - D = 0 then r' = .inl (4, k) else ∃ r0, Tr (k + 1) r0 ∧ r' = clB (tK b n) 93 r0) else cmR (tK b n) S k r') := fun r' hr' => by
        rw [if_neg z1, if_neg z2]; exact hr'
      obtain ⟨r, h2, a2, e2, o2⟩ := hS k N h C
      rw [if_neg (by rw [nI_eq (by omega) (by decide)]; exact z2), b67_108 hr, e2, bnd]
      simp only [app1, List.cons_append, List.nil_append]
      rw [b67_113]
      rcases r with ⟨e, k'⟩ | ⟨k', c⟩
      · have he := o2.1
        rw [show rI (.inl (e, k')) = nI e from rfl, if_neg (by rw [show (0 : Int32) = nI 0 from rfl, nI_eq (by omega) (by decide)]; omega), b67_118]
        exact ⟨.inl (e, k'), h2, hun _ ⟨_, a2, rfl⟩, rfl, o2⟩
      · have hgr := hgS.1 _ _ _ a2
        have hk' := hgr.2.2 hk
        have C2 := cSt_ok C o2 hk' (by omega)
        have hKL' := KL_lt _ (T.2.2.2.1 k')
        rw [show rI (.inr (k', c)) = nI 0 from rfl, if_pos (show nI 0 = 0 from rfl), b67_120 (show sm_rk 68 [.int (sm_gi h2 45 (sm_gi h2 28 4).toNatClampNeg)] < d from k1), C2.2.1.1]
        simp (disch := omega) only [in_45, if_true, nI_clamp, C2.kd]
        rw [c_comparison hKL', bnd]
        simp only [app1, List.cons_append, List.nil_append]
        rw [b67_132]
        cases w : opC (tK b n k') with
        | none =>
          rw [show jI none = -1 from rfl, if_pos rfl, b67_140]
          exact ⟨.inl (2, k'), h2, hun _ ⟨_, a2, by dsimp only; rw [w]⟩, rfl, ⟨by decide, by decide⟩, hk', C2.2.1.1, ⟨N + c.length, by omega, C2.2.2.2.1⟩, o2.2.2.2.wk sxCo_d⟩
        | some o =>
          have ho := opC_o w
          have hph : phi o < 2000 ∧ 1000 < phi o := by rcases ho with ⟨-, rfl⟩ | ⟨-, rfl⟩ | ⟨-, rfl⟩ <;> decide
          obtain ⟨C3, E3⟩ := cSt_nx T C2 (show tK b n k' ≠ 0 by omega)
          obtain ⟨r5, h5, a5, e5, o5⟩ := hS (k' + 1) (N + c.length) _ C3
          have o5' := cOut_app hq o2.2 (cOut_nx C2 E3 o5)
          rw [show jI (some o) = nI (phi o) from rfl, if_neg (by rw [nI_m1 (by omega)]; exact id), b67_142, C2.2.1.1, nI_add, b67_152 hr, e5, bnd]
          simp only [app1, List.cons_append, List.nil_append]
          have hcm : cmR (tK b n) S k (rpost [o] (rpre c r5)) := ⟨_, a2, by dsimp only; rw [w]; exact ⟨r5, a5, rfl⟩⟩
          rcases r5 with ⟨e, k2⟩ | ⟨k2, c2⟩
          · obtain ⟨M, hM, gM⟩ := o5.2.2.2.1
            have hlw5 : sm_lw h5 = q := o5.2.2.2.2.2.2.trans C3.2.2.1.1
            obtain ⟨h6, e6, g6, p6, E6⟩ := c_add_any (v := nI (phi o)) hq C.isq gM hM
            rw [b67_157 (show sm_rk 41 [.ref (sm_lw h5), .int (nI (phi o))] < d from k1) (by rw [hlw5]; exact C.isq), hlw5, e6, bnd]
            simp only [List.nil_append]
            rw [b67_167]
            exact ⟨_, h6, hun _ hcm, rfl, o5'.1, o5'.2.1, p6.trans o5'.2.2.1, g6, o5'.2.2.2.2.tr E6⟩
          · have hgr2 := hgS.1 _ _ _ a5
            have hk3 := hgr2.2.2 C3.2.1.2
            have C5 := cSt_ok C3 o5 hk3 (by omega)
            obtain ⟨h6, e6, o6⟩ := c_add (o := o) (v := nI (phi o)) C5 (by omega) rfl
            rw [b67_157 (show sm_rk 41 [.ref (sm_lw h5), .int (nI (phi o))] < d from k1) (by rw [C5.2.2.1.1]; exact C.isq), C5.2.2.1.1, e6, bnd]
            simp only [List.nil_append]
            rw [b67_167]
            exact ⟨_, h6, hun _ hcm, rfl, o6.1, cOk_app hq o5'.2 (by rw [List.length_append, ← Nat.add_assoc]; exact o6.2)⟩
theorem c_truth_loop {D d : Nat} {A : Nat → RR → Prop} (T : TKo (tK b n) (tV b n) nt) (hA : rdC b n nt q 67 D A) (hg : grw nt A) (hr : sm_rk 67 [.ref 28, .int (nI D)] < d) (h1 : 1 < d) : ∀ (m k N : Nat) (h : sm_H) (i : Nat) (t j : Bool) (l5 : Value), nt - k ≤ m → cSt h b n nt q k N → N + (tp1 3007 t).length + (tp1 3008 j).length ≤ k → 2 * i ≤ k → ∃ r h2, NsR (tK b n) A opA opO (tp1 3007 t) (tp1 3008 j) k r ∧ xe d 66 7 [.ref 28, .int (nI D), .int (nI (bit t)), .int (nI (bit j)), .int (nI i), l5] [] h = some ([.int (rI r)], h2) ∧ cOut h h2 nt q N r := fun m => by
  induction m with
  | zero =>
    intro k N h i t j l5 hm C hN hi
    have h900 := T.2.2.1
    have hk := C.2.1.2
    have hkn : k = nt := by omega
    obtain ⟨r, h2, a2, e2, o2⟩ := hA k N h C
    rcases r with ⟨e, k'⟩ | ⟨k', c⟩
    · have he := o2.1
      rw [b66_7, if_neg (by rw [nI_leI (by decide) (by omega)]; omega), b66_15 hr, e2, bnd]
      simp only [app1, List.cons_append, List.nil_append]
      rw [b66_20, show rI (.inl (e, k')) = nI e from rfl, if_neg (by rw [show (0 : Int32) = nI 0 from rfl, nI_eq (by omega) (by decide)]; omega), b66_27]
      exact ⟨.inl (e, k'), h2, NsR_bad a2, rfl, o2⟩
    · have hgr := hg.1 _ _ _ a2
      have := hgr.2.2 hk
      omega
  | succ m ih =>
    intro k N h i t j l5 hm C hN hi
    have h900 := T.2.2.1
    have hk := C.2.1.2
    have hq := C.2.2.1.2
    obtain ⟨r, h2, a2, e2, o2⟩ := hA k N h C
    rw [b66_7, if_neg (by rw [nI_leI (by decide) (by omega)]; omega), b66_15 hr, e2, bnd]
    simp only [app1, List.cons_append, List.nil_append]
    rw [b66_20]
    rcases r with ⟨e, k'⟩ | ⟨k', c⟩
    · have he := o2.1
      rw [show rI (.inl (e, k')) = nI e from rfl, if_neg (by rw [show (0 : Int32) = nI 0 from rfl, nI_eq (by omega) (by decide)]; omega), b66_27]
      exact ⟨.inl (e, k'), h2, NsR_bad a2, rfl, o2⟩
    · have hgr := hg.1 _ _ _ a2
      have hk' := hgr.2.2 hk
      have C2 := cSt_ok C o2 hk' (by omega)
      have hKL := KL_lt _ (T.2.2.2.1 k')
      rw [show rI (.inr (k', c)) = nI 0 from rfl, if_pos (show nI 0 = 0 from rfl)]
      obtain ⟨h3, e3, o3⟩ := c_addt (d := d) (D := D) (o := 3007) (t := t) (y := 66) (pa := 30) (pb := 44) (ls := [.ref 28, .int (nI D), .int (nI (bit t)), .int (nI (bit j)), .int (nI i), .int (nI 0)]) (by omega) C2 (by omega) (fun z => by rw [b66_30, if_pos (bit_0.mpr z)]) (fun z => by rw [b66_30, if_neg (fun y => by rw [bit_0.mp y] at z; cases z), b66_34 (show sm_rk 41 [.ref (sm_lw h2), .int (nI 1101)] < d from h1) (by rw [C2.2.2.1.1]; exact C2.isq), C2.2.2.1.1]; rfl)
      have C3 := cSt_ok C2 o3 hk' (by omega)
      have O3 := cOk_app hq o2.2 o3.2
      have hlen : (c ++ tp1 3007 t).length = c.length + (tp1 3007 t).length := List.length_append
      have g3 : sm_gi h3 28 4 = nI k' := o3.1
      rw [e3, b66_44, g3]
      simp (disch := omega) only [in_45, if_true, nI_clamp, C3.kd]
      by_cases z : tK b n k' = 211
      · obtain ⟨C4, E4⟩ := cSt_nx T C3 (by omega)
        obtain ⟨r', h5, a5, e5, o5⟩ := ih (k' + 1) _ _ (i + 1) true j (.int (nI 0)) (by omega) C4 (by show _ + 1 + _ ≤ _; omega) (by omega)
        rw [if_pos (by rw [z]), b66_59, b66_64, if_neg (by decide), b66_110, g3, nI_add, b66_120, nI_add]
        have o6 := cOut_nx C3 E4 o5
        refine ⟨rpre (c ++ tp1 3007 t) r', h5, NsR_op1 a2 (show opA (tK b n k') = some 3007 by unfold opA; rw [if_pos z]) a5, ?_, cOut_app hq O3 (by rw [hlen, ← Nat.add_assoc]; exact o6)⟩
        refine e5.trans ?_
        rcases r' with ⟨e, k2⟩ | ⟨k2, c2⟩ <;> rfl
      · have hT : opA (tK b n k') = none := by unfold opA; rw [if_neg z]
        rw [if_neg (by rw [nI_eq (by omega) (by decide)]; exact z), b66_63, b66_64, if_pos (show nI 0 = 0 from rfl)]
        obtain ⟨h4, e4, o4⟩ := c_addt (d := d) (D := D) (o := 3008) (t := j) (y := 66) (pa := 69) (pb := 83) (ls := [.ref 28, .int (nI D), .int (nI 0), .int (nI (bit j)), .int (nI i), .int (nI 0)]) (by omega) C3 (by omega) (fun z => by rw [b66_69, if_pos (bit_0.mpr z)]) (fun z => by rw [b66_69, if_neg (fun y => by rw [bit_0.mp y] at z; cases z), b66_73 (show sm_rk 41 [.ref (sm_lw h3), .int (nI 1102)] < d from h1) (by rw [C3.2.2.1.1]; exact C3.isq), C3.2.2.1.1]; rfl)
        have C4 := cSt_ok C3 o4 hk' (by omega)
        have O4 := cOk_app hq O3 (by rw [hlen, ← Nat.add_assoc]; exact o4.2)
        have hlen2 : (c ++ tp1 3007 t ++ tp1 3008 j).length = c.length + (tp1 3007 t).length + (tp1 3008 j).length := by rw [List.length_append, List.length_append]
        have g4 : sm_gi h4 28 4 = nI k' := o4.1
        rw [e4, b66_83, g4]
        simp (disch := omega) only [in_45, if_true, nI_clamp, C4.kd]
        by_cases y1 : tK b n k' = 210
        · obtain ⟨C5, E5⟩ := cSt_nx T C4 (by omega)
          obtain ⟨r', h6, a6, e6, o6⟩ := ih (k' + 1) _ _ (i + 1) false true (.int (nI 0)) (by omega) C5 (by show _ + 0 + 1 ≤ _; omega) (by omega)
          have o7 := cOut_nx C4 E5 o6
          rw [if_pos (by rw [y1]), b66_98, b66_103, if_neg (by decide), b66_110, g4, nI_add, b66_120, nI_add]
          refine ⟨rpre (c ++ tp1 3007 t ++ tp1 3008 j) r', h6, NsR_op2 a2 hT (show opO (tK b n k') = some 3008 by unfold opO; rw [if_pos y1]) (NsR_Ls a6), ?_, cOut_app hq O4 (by rw [hlen2, ← Nat.add_assoc, ← Nat.add_assoc]; exact o7)⟩
          refine e6.trans ?_
          rcases r' with ⟨e, k2⟩ | ⟨k2, c2⟩ <;> rfl
        · rw [if_neg (by rw [nI_eq (by omega) (by decide)]; exact y1), b66_102, b66_103, if_pos (show nI 0 = 0 from rfl), b66_108]
          exact ⟨.inr (k', c ++ tp1 3007 t ++ tp1 3008 j), h4, NsR_fin a2 hT (by unfold opO; rw [if_neg y1]), rfl, g4, O4⟩
theorem c_truth {D : Nat} {A : Nat → RR → Prop} (T : TKo (tK b n) (tV b n) nt) (hD : D ≤ 6) (hA : rdC b n nt q 67 D A) (hg : grw nt A) : rdC b n nt q 66 D (LsR (tK b n) (LsR (tK b n) A opA []) opO []) := fun k N h C => by
  have r1 := rk66 (D := D) (by omega)
  have r2 := rk67 (D := D) (by omega)
  have hr : sm_rk 67 [.ref 28, .int (nI D)] < sm_rk 66 [.ref 28, .int (nI D)] := by rw [r1]; exact Nat.lt_of_le_of_lt (Nat.le_of_eq r2) (by omega)
  obtain ⟨r, h2, a2, e2, o2⟩ := c_truth_loop T hA hg hr (by rw [r1]; omega) nt k N h 0 false false .null (by omega) C (by have := C.2.2.2.2; exact this) (by omega)
  rw [en_66, b66_0]
  exact ⟨r, h2, NsR_Ls a2, e2, o2⟩
theorem cSums (T : TKo (tK b n) (tV b n) nt) : ∀ d, d ≤ 6 → rdC b n nt q 69 (6 - d) (SmR (tK b n) (tV b n) d)
  | 0, _ => c_sum T (by decide) (c_atom (D := 6) (S := fun _ _ => False) T (by decide) (fun z => absurd rfl z) no_grw) (AtR_grw T no_grw)
  | d + 1, hd => by
    have ih := cSums T d (by omega)
    have hA := c_atom (D := 6 - (d + 1)) (S := SmR (tK b n) (tV b n) d) T (by omega) (fun _ => by rw [show 6 - (d + 1) + 1 = 6 - d by omega]; exact ih) (AtD_grw T d).1
    rw [show 6 - (6 - (d + 1)) = d + 1 by omega] at hA
    exact c_sum T (by omega) hA (AtR_grw (d := d + 1) T (AtD_grw T d).1)
theorem cUnits (T : TKo (tK b n) (tV b n) nt) : ∀ d, d ≤ 6 → rdC b n nt q 67 (6 - d) (UnD (tK b n) (tV b n) d)
  | 0, _ => c_unit (D := 6) (U := fun _ _ => False) (Tr := fun _ _ => False) T (by decide) (cSums T 0 (by omega)) (AtD_grw T 0).1 (fun z => absurd rfl z) no_grw (fun z => absurd rfl z) no_grw
  | d + 1, hd => by
    have ih := cUnits T d (by omega)
    have hgu := UnD_grw T d
    have hTr := c_truth T (by omega) ih hgu
    have := c_unit (D := 6 - (d + 1)) (U := UnD (tK b n) (tV b n) d) (Tr := TrD (tK b n) (tV b n) d) T (by omega) (cSums T (d + 1) hd) (AtD_grw T (d + 1)).1 (fun _ => by rw [show 6 - (d + 1) + 1 = 6 - d by omega]; exact ih) hgu (fun _ => by rw [show 6 - (d + 1) + 1 = 6 - d by omega]; exact hTr) (TrD_grw T d)
    rw [show 6 - (6 - (d + 1)) = d + 1 by omega] at this
    exact this
theorem cTruth0 (T : TKo (tK b n) (tV b n) nt) : rdC b n nt q 66 0 (TrD (tK b n) (tV b n) 6) := c_truth T (by decide) (cUnits T 6 (by omega)) (UnD_grw T 6)
theorem cSum0 (T : TKo (tK b n) (tV b n) nt) : rdC b n nt q 69 0 (SmR (tK b n) (tV b n) 6) := cSums T 6 (by omega)
end CRU
