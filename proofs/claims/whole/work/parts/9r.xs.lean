/-! ===== laws are read: the class, sums, units, truths ===== -/
def tp1 (o : Nat) (t : Bool) : List Nat := if t = true then [o] else []
def jp : Option Nat → List Nat
  | none => []
  | some o => [o]
def jI : Option Nat → Int32
  | none => -1
  | some o => nI (phi o)
section CRS
variable {b : Nat → Nat} {n nt q k N : Nat} {h : sm_H}
theorem c_addt {d D o : Nat} {t : Bool} {y pa pb : Nat} {ls : List Value} (hk : N + (tp1 o t).length ≤ k) (C : cSt h b n nt q k N) (h9 : k ≤ 900) (e0 : t = false → xe d y pa ls [] h = xe d y pb ls [] h) (e1 : t = true → xe d y pa ls [] h = (xc 41 [.ref q, .int (nI (phi o))] h).bind (fun r => xe d y pb ls (r.1 ++ []) r.2)) : ∃ h2, xe d y pa ls [] h = xe d y pb ls [] h2 ∧ cOut h h2 nt q N (.inr (k, tp1 o t)) := by
  cases t with
  | false => exact ⟨h, e0 rfl, C.2.1.1, cOk_nil C.2.2.2.1 eqx.rf C.2.2.1.2⟩
  | true =>
    have hk' : N + 1 ≤ k := hk
    obtain ⟨h2, e2, o2⟩ := c_add (o := o) (v := nI (phi o)) C (by omega) rfl
    refine ⟨h2, ?_, o2⟩
    rw [e1 rfl, e2, bnd]
    simp only [List.nil_append]
theorem c_sum_loop {D d : Nat} {A : Nat → RR → Prop} (T : TKo (tK b n) (tV b n) nt) (hA : rdC b n nt q 70 D A) (hg : grw nt A) (hr : sm_rk 70 [.ref 28, .int (nI D)] < d) (h1 : 1 < d) : ∀ (m k N : Nat) (h : sm_H) (i : Nat) (t : Bool) (j : Option Nat) (l5 : Value), nt - k ≤ m → cSt h b n nt q k N → N + (tp1 3002 t).length + (jp j).length ≤ k → 2 * i ≤ k → (∀ o, j = some o → o = 3000 ∨ o = 3001) → ∃ r h2, NsR (tK b n) A opT opS (tp1 3002 t) (jp j) k r ∧ xe d 69 7 [.ref 28, .int (nI D), .int (nI (bit t)), .int (jI j), .int (nI i), l5] [] h = some ([.int (rI r)], h2) ∧ cOut h h2 nt q N r := fun m => by
  induction m with
  | zero =>
    intro k N h i t j l5 hm C hN hi hj
    have h900 := T.2.2.1
    have hk := C.2.1.2
    have hkn : k = nt := by omega
    obtain ⟨r, h2, a2, e2, o2⟩ := hA k N h C
    rcases r with ⟨e, k'⟩ | ⟨k', c⟩
    · have he := o2.1
      rw [b69_7, if_neg (by rw [nI_leI (by decide) (by omega)]; omega), b69_15 hr, e2, bnd]
      simp only [app1, List.cons_append, List.nil_append]
      rw [b69_20, show rI (.inl (e, k')) = nI e from rfl, if_neg (by rw [show (0 : Int32) = nI 0 from rfl, nI_eq (by omega) (by decide)]; omega), b69_27]
      exact ⟨.inl (e, k'), h2, NsR_bad a2, rfl, o2⟩
    · have hgr := hg.1 _ _ _ a2
      have := hgr.2.2 hk
      omega
  | succ m ih =>
    intro k N h i t j l5 hm C hN hi hj
    have h900 := T.2.2.1
    have hk := C.2.1.2
    have hq := C.2.2.1.2
    obtain ⟨r, h2, a2, e2, o2⟩ := hA k N h C
    rw [b69_7, if_neg (by rw [nI_leI (by decide) (by omega)]; omega), b69_15 hr, e2, bnd]
    simp only [app1, List.cons_append, List.nil_append]
    rw [b69_20]
    rcases r with ⟨e, k'⟩ | ⟨k', c⟩
    · have he := o2.1
      rw [show rI (.inl (e, k')) = nI e from rfl, if_neg (by rw [show (0 : Int32) = nI 0 from rfl, nI_eq (by omega) (by decide)]; omega), b69_27]
      exact ⟨.inl (e, k'), h2, NsR_bad a2, rfl, o2⟩
    · have hgr := hg.1 _ _ _ a2
      have hk' := hgr.2.2 hk
      have C2 := cSt_ok C o2 hk' (by omega)
      have hKL := KL_lt _ (T.2.2.2.1 k')
      rw [show rI (.inr (k', c)) = nI 0 from rfl, if_pos (show nI 0 = 0 from rfl)]
      obtain ⟨h3, e3, o3⟩ := c_addt (d := d) (D := D) (o := 3002) (t := t) (y := 69) (pa := 30) (pb := 44) (ls := [.ref 28, .int (nI D), .int (nI (bit t)), .int (jI j), .int (nI i), .int (nI 0)]) (by omega) C2 (by omega) (fun z => by rw [b69_30, if_pos (bit_0.mpr z)]) (fun z => by rw [b69_30, if_neg (fun y => by rw [bit_0.mp y] at z; cases z), b69_34 (show sm_rk 41 [.ref (sm_lw h2), .int (nI 1108)] < d from h1) (by rw [C2.2.2.1.1]; exact C2.isq), C2.2.2.1.1]; rfl)
      have C3 := cSt_ok C2 o3 hk' (by omega)
      have O3 := cOk_app hq o2.2 o3.2
      have hlen : (c ++ tp1 3002 t).length = c.length + (tp1 3002 t).length := List.length_append
      have g3 : sm_gi h3 28 4 = nI k' := o3.1
      rw [e3, b69_44, g3]
      simp (disch := omega) only [in_45, if_true, nI_clamp, C3.kd]
      by_cases z : tK b n k' = 42
      · obtain ⟨C4, E4⟩ := cSt_nx T C3 (by omega)
        obtain ⟨r', h5, a5, e5, o5⟩ := ih (k' + 1) _ _ (i + 1) true j (.int (nI 0)) (by omega) C4 (by show _ + 1 + _ ≤ _; omega) (by omega) hj
        rw [if_pos (by rw [z]), b69_58, b69_63, if_neg (by decide), b69_130, g3, nI_add, b69_140, nI_add]
        have o6 := cOut_nx C3 E4 o5
        refine ⟨rpre (c ++ tp1 3002 t) r', h5, NsR_op1 a2 (show opT (tK b n k') = some 3002 by unfold opT; rw [if_pos z]) a5, ?_, cOut_app hq O3 (by rw [hlen, ← Nat.add_assoc]; exact o6)⟩
        refine e5.trans ?_
        rcases r' with ⟨e, k2⟩ | ⟨k2, c2⟩ <;> rfl
      · have hT : opT (tK b n k') = none := by unfold opT; rw [if_neg z]
        rw [if_neg (by rw [nI_eq (by omega) (by decide)]; exact z), b69_62, b69_63, if_pos (show nI 0 = 0 from rfl)]
        -- what waits is told
        have wait : ∃ h4, xe d 69 68 [.ref 28, .int (nI D), .int (nI 0), .int (jI j), .int (nI i), .int (nI 0)] [] h3 = xe d 69 81 [.ref 28, .int (nI D), .int (nI 0), .int (jI j), .int (nI i), .int (nI 0)] [] h4 ∧ cOut h3 h4 nt q (N + c.length + (tp1 3002 t).length) (.inr (k', jp j)) := by
          cases j with
          | none =>
            rw [b69_68, show jI none = -1 from rfl, if_pos rfl]
            exact ⟨h3, rfl, g3, cOk_nil C3.2.2.2.1 eqx.rf hq⟩
          | some o =>
            have hN' : N + (tp1 3002 t).length + 1 ≤ k := hN
            have ho := hj o rfl
            have hph : phi o < 2000 ∧ 1000 < phi o := by rcases ho with rfl | rfl <;> decide
            obtain ⟨h4, e4, o4⟩ := c_add (o := o) (v := nI (phi o)) C3 (by omega) rfl
            refine ⟨h4, ?_, o4⟩
            rw [b69_68, show jI (some o) = nI (phi o) from rfl, if_neg (by rw [nI_m1 (by omega)]; exact id), b69_73 (show sm_rk 41 [.ref (sm_lw h3), .int (nI (phi o))] < d from h1) (by rw [C3.2.2.1.1]; exact C3.isq), C3.2.2.1.1, e4, bnd]
            simp only [List.nil_append]
        obtain ⟨h4, e4, o4⟩ := wait
        have hjl : (jp j).length ≤ 1 := by cases j <;> exact Nat.le_of_ble_eq_true rfl
        have C4 := cSt_ok C3 o4 hk' (by omega)
        have O4 := cOk_app hq O3 (by rw [hlen, ← Nat.add_assoc]; exact o4.2)
        have hlen2 : (c ++ tp1 3002 t ++ jp j).length = c.length + (tp1 3002 t).length + (jp j).length := by rw [List.length_append, List.length_append]
        have g4 : sm_gi h4 28 4 = nI k' := o4.1
        rw [e4, b69_81, g4]
        simp (disch := omega) only [in_45, if_true, nI_clamp, C4.kd]
        have goon : ∀ o, (o = 3000 ∨ o = 3001) → opS (tK b n k') = some o → ∃ r h2, NsR (tK b n) A opT opS (tp1 3002 t) (jp j) k r ∧ xe d 69 130 [.ref 28, .int (nI D), .int (nI 0), .int (nI (phi o)), .int (nI i), .int (nI 0)] [] h4 = some ([.int (rI r)], h2) ∧ cOut h h2 nt q N r := fun o ho hop => by
          have hne : tK b n k' ≠ 0 := fun y => by rw [y] at hop; cases hop
          obtain ⟨C5, E5⟩ := cSt_nx T C4 hne
          obtain ⟨r', h6, a6, e6, o6⟩ := ih (k' + 1) _ _ (i + 1) false (some o) (.int (nI 0)) (by omega) C5 (by show _ + 0 + 1 ≤ _; omega) (by omega) (fun o' e => by cases e; exact ho)
          have o7 := cOut_nx C4 E5 o6
          rw [b69_130, g4, nI_add, b69_140, nI_add]
          refine ⟨rpre (c ++ tp1 3002 t ++ jp j) r', h6, NsR_op2 a2 hT hop (NsR_Ls a6), ?_, cOut_app hq O4 (by rw [hlen2, ← Nat.add_assoc, ← Nat.add_assoc]; exact o7)⟩
          refine e6.trans ?_
          rcases r' with ⟨e, k2⟩ | ⟨k2, c2⟩ <;> rfl
        by_cases y1 : tK b n k' = 43
        · rw [if_pos (by rw [y1]), b69_95, b69_122, if_neg (by decide)]
          exact goon 3000 (Or.inl rfl) (by unfold opS; rw [if_pos y1])
        · rw [if_neg (by rw [nI_eq (by omega) (by decide)]; exact y1), b69_101, g4]
          simp (disch := omega) only [in_45, if_true, nI_clamp, C4.kd]
          by_cases y2 : tK b n k' = 45
          · rw [if_pos (by rw [y2]), b69_115, b69_122, if_neg (by decide)]
            exact goon 3001 (Or.inr rfl) (by unfold opS; rw [if_neg y1, if_pos y2])
          · rw [if_neg (by rw [nI_eq (by omega) (by decide)]; exact y2), b69_121, b69_122, if_pos rfl, b69_128]
            exact ⟨.inr (k', c ++ tp1 3002 t ++ jp j), h4, NsR_fin a2 hT (by unfold opS; rw [if_neg y1, if_neg y2]), rfl, g4, O4⟩
theorem c_sum {D : Nat} {A : Nat → RR → Prop} (T : TKo (tK b n) (tV b n) nt) (hD : D ≤ 6) (hA : rdC b n nt q 70 D A) (hg : grw nt A) : rdC b n nt q 69 D (LsR (tK b n) (LsR (tK b n) A opT []) opS []) := fun k N h C => by
  have r1 := rk69 (D := D) (by omega)
  have r2 := rk70 (D := D) (by omega)
  have hr : sm_rk 70 [.ref 28, .int (nI D)] < sm_rk 69 [.ref 28, .int (nI D)] := by rw [r1]; exact Nat.lt_of_le_of_lt (Nat.le_of_eq r2) (by omega)
  obtain ⟨r, h2, a2, e2, o2⟩ := c_sum_loop T hA hg hr (by rw [r1]; omega) nt k N h 0 false none .null (by omega) C (by have := C.2.2.2.2; exact this) (by omega) (fun o e => by cases e)
  rw [en_69, b69_0]
  exact ⟨r, h2, NsR_Ls a2, e2, o2⟩
end CRS
