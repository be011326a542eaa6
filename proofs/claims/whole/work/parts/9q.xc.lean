/-! ===== laws are read: the class ===== -/
def rI : RR → Int32
  | .inl (e, _) => nI e
  | .inr _ => nI 0
def sxCo (q N : Nat) : Nat → Nat → Prop := fun c i => (c = 28 ∧ i = 4) ∨ (c = q ∧ i = 2) ∨ (c = q + 1 ∧ N ≤ i)
def sxCd (q : Nat) : Nat → Nat → Prop := fun c i => (c = 28 ∧ i = 4) ∨ (c = q ∧ i = 2) ∨ c = q + 1
def cOk (h h1 : sm_H) (q N : Nat) (c : List Nat) : Prop := sm_gi h1 q 2 = nI (N + c.length) ∧ (∀ j, j < c.length → sm_gi h1 (q + 1) (N + j) = nI (phi (c.getD j 0))) ∧ eqx (sxCo q N) h h1
def cOut (h h2 : sm_H) (nt q N : Nat) : RR → Prop
  | .inl (e, k') => (1 ≤ e ∧ e ≤ 4) ∧ k' ≤ nt ∧ sm_gi h2 28 4 = nI k' ∧ (∃ M, M ≤ 900 ∧ sm_gi h2 q 2 = nI M) ∧ eqx (sxCd q) h h2
  | .inr (k', c) => sm_gi h2 28 4 = nI k' ∧ cOk h h2 q N c
def cSt (h : sm_H) (b : Nat → Nat) (n nt q k N : Nat) : Prop := cTk h b n nt ∧ (sm_gi h 28 4 = nI k ∧ k ≤ nt) ∧ (sm_lw h = q ∧ (q = 39 ∨ q = 42)) ∧ sm_gi h q 2 = nI N ∧ N ≤ k
def rdC (b : Nat → Nat) (n nt q y D : Nat) (A : Nat → RR → Prop) : Prop := ∀ (k N : Nat) (h : sm_H), cSt h b n nt q k N → ∃ r h2, A k r ∧ xc y [.ref 28, .int (nI D)] h = some ([.int (rI r)], h2) ∧ cOut h h2 nt q N r
theorem sxCo_d {q N : Nat} : ∀ c i, sxCo q N c i → sxCd q c i := fun c i z => by unfold sxCo at z; unfold sxCd; omega
theorem sxCo_N {q N M : Nat} (h : N ≤ M) : ∀ c i, sxCo q M c i → sxCo q N c i := fun c i z => by unfold sxCo at z ⊢; omega
section CRD
variable {b : Nat → Nat} {n nt q k N : Nat} {h : sm_H}
theorem cSt.isq (S : cSt h b n nt q k N) : sm_isQ q := by
  rcases S.2.2.1.2 with rfl | rfl
  · unfold sm_isQ; exact kd_39
  · unfold sm_isQ; exact kd_42
theorem cSt.kd (S : cSt h b n nt q k N) : sm_gi h 45 k = nI (tK b n k) := (S.1.2 k S.2.1.2).1
theorem cSt_d {h2 : sm_H} {k' M : Nat} (S : cSt h b n nt q k N) (E : eqx (sxCd q) h h2) (g : sm_gi h2 28 4 = nI k') (hk : k' ≤ nt) (g2 : sm_gi h2 q 2 = nI M) (hM : M ≤ k') : cSt h2 b n nt q k' M := by
  have hq := S.2.2.1.2
  exact ⟨cTk_eqx S.1 E (fun c i z => by unfold sxCd at z; omega), ⟨g, hk⟩, ⟨E.2.2.trans S.2.2.1.1, hq⟩, g2, hM⟩
theorem cOk_app {h1 h2 : sm_H} {c1 c2 : List Nat} (hq : q = 39 ∨ q = 42) (a : cOk h h1 q N c1) (c : cOk h1 h2 q (N + c1.length) c2) : cOk h h2 q N (c1 ++ c2) := by
  refine ⟨?_, fun j hj => ?_, a.2.2.tr (c.2.2.wk (sxCo_N (by omega)))⟩
  · rw [c.1, List.length_append, Nat.add_assoc]
  · rw [List.length_append] at hj
    by_cases z : j < c1.length
    · rw [c.2.2.1 (q + 1) (N + j) (by unfold sxCo; omega), a.2.1 j z, List.getD_eq_getElem?_getD, List.getD_eq_getElem?_getD, List.getElem?_append_left z]
    · have := c.2.1 (j - c1.length) (by omega)
      rw [show N + c1.length + (j - c1.length) = N + j by omega] at this
      rw [this, List.getD_eq_getElem?_getD, List.getD_eq_getElem?_getD, List.getElem?_append_right (by omega)]
theorem cOut_app {h1 h2 : sm_H} {c1 : List Nat} {r : RR} (hq : q = 39 ∨ q = 42) (a : cOk h h1 q N c1) (c : cOut h1 h2 nt q (N + c1.length) r) : cOut h h2 nt q N (rpre c1 r) := by
  rcases r with ⟨e, k'⟩ | ⟨k', c2⟩
  · exact ⟨c.1, c.2.1, c.2.2.1, c.2.2.2.1, (a.2.2.wk sxCo_d).tr c.2.2.2.2⟩
  · exact ⟨c.1, cOk_app hq a c.2⟩
theorem cOk_nil {h1 : sm_H} (g : sm_gi h q 2 = nI N) (E : eqx (fun c i => c = 28 ∧ i = 4) h h1) (hq : q = 39 ∨ q = 42) : cOk h h1 q N [] := ⟨(E.1 q 2 (by omega)).trans g, fun j hj => absurd hj (by rw [List.length_nil]; omega), E.wk (fun c i z => Or.inl z)⟩
theorem cOut_nx {h1 h2 : sm_H} {r : RR} (S : cSt h b n nt q k N) (E : eqx (fun c i => c = 28 ∧ i = 4) h h1) (c : cOut h1 h2 nt q N r) : cOut h h2 nt q N r := by
  have := cOut_app S.2.2.1.2 (cOk_nil S.2.2.2.1 E S.2.2.1.2) (by rw [List.length_nil, Nat.add_zero]; exact c)
  rcases r with ⟨e, k'⟩ | ⟨k', c2⟩
  · exact this
  · exact this
theorem cSt_nx (T : TKo (tK b n) (tV b n) nt) (S : cSt h b n nt q k N) (hk : tK b n k ≠ 0) : cSt (sm_si h 28 4 (nI (k + 1))) b n nt q (k + 1) N ∧ eqx (fun c i => c = 28 ∧ i = 4) h (sm_si h 28 4 (nI (k + 1))) := by
  have E : eqx (fun c i => c = 28 ∧ i = 4) h (sm_si h 28 4 (nI (k + 1))) := eqx.rf.si ⟨rfl, rfl⟩
  have hq := S.2.2.1.2
  exact ⟨cSt_d S (E.wk (fun c i z => Or.inl z)) gi_same (T.s S.2.1.2 hk) ((E.1 q 2 (by omega)).trans S.2.2.2.1) (by have := S.2.2.2.2; omega), E⟩
theorem cSt_ok {h2 : sm_H} {k' : Nat} {c : List Nat} (S : cSt h b n nt q k N) (o : cOut h h2 nt q N (.inr (k', c))) (hk : k' ≤ nt) (hc : N + c.length ≤ k') : cSt h2 b n nt q k' (N + c.length) := cSt_d S (o.2.2.2.wk sxCo_d) o.1 hk o.2.1 hc
theorem c_add {v : Int32} {o : Nat} (S : cSt h b n nt q k N) (hN : N < 900) (hv : v = nI (phi o)) : ∃ h2, xc 41 [.ref q, .int v] h = some ([], h2) ∧ cOut h h2 nt q N (.inr (k, [o])) := by
  have hq := S.2.2.1.2
  have Q := S.isq
  have E : eqx (sxCo q N) h (sm_si (sm_si h (q + 1) N v) q 2 (nI (N + 1))) := (eqx.rf.si (by unfold sxCo; omega)).si (by unfold sxCo; omega)
  rw [en_41, b41_0 Q, S.2.2.2.1, if_neg (by rw [nI_leI (by decide) (by omega)]; omega), b41_10 Q, S.2.2.2.1]
  simp (disch := omega) only [in_q1 Q, if_true, nI_clamp]
  rw [b41_20 Q, gi_cell (by omega), S.2.2.2.1, nI_add, b41_30]
  refine ⟨_, rfl, ?_, gi_same, fun j hj => ?_, E⟩
  · rw [gi_cell (by omega), gi_cell (by omega)]; exact S.2.1.1
  · rw [List.length_singleton] at hj
    have : j = 0 := by omega
    subst this
    rw [gi_cell (by omega)]
    show sm_gi (sm_si h (q + 1) N v) (q + 1) N = nI (phi o)
    rw [gi_same, hv]
theorem c_add_any {v : Int32} {M : Nat} (hq : q = 39 ∨ q = 42) (Q : sm_isQ q) (g : sm_gi h q 2 = nI M) (hM : M ≤ 900) : ∃ h2, xc 41 [.ref q, .int v] h = some ([], h2) ∧ (∃ M', M' ≤ 900 ∧ sm_gi h2 q 2 = nI M') ∧ sm_gi h2 28 4 = sm_gi h 28 4 ∧ eqx (sxCd q) h h2 := by
  rw [en_41, b41_0 Q, g]
  by_cases z : 900 ≤ M
  · rw [if_pos (by rw [nI_leI (by decide) (by omega)]; exact z), b41_30]
    exact ⟨h, rfl, ⟨M, hM, g⟩, rfl, eqx.rf⟩
  · rw [if_neg (by rw [nI_leI (by decide) (by omega)]; exact z), b41_10 Q, g]
    simp (disch := omega) only [in_q1 Q, if_true, nI_clamp]
    rw [b41_20 Q, gi_cell (by omega), g, nI_add, b41_30]
    refine ⟨_, rfl, ⟨M + 1, by omega, gi_same⟩, ?_, (eqx.rf.si (by unfold sxCd; omega)).si (by unfold sxCd; omega)⟩
    rw [gi_cell (by omega), gi_cell (by omega)]
theorem c_take {c : Nat} (T : TKo (tK b n) (tV b n) nt) (hT : cTk h b n nt) (g : sm_gi h 28 4 = nI k) (hk : k ≤ nt) (hc : c < 221) : xc 56 [.ref 28, .int (nI c)] h = if tK b n k = c then some ([.int (nI 0)], sm_si h 28 4 (nI (k + 1))) else some ([.int (nI 2)], h) := by
  have h900 := T.2.2.1
  have hKL := KL_lt _ (T.2.2.2.1 k)
  rw [en_56, b56_0, g]
  simp (disch := omega) only [in_45, if_true, nI_clamp, (hT.2 k hk).1]
  by_cases z : tK b n k = c
  · rw [if_pos (by rw [z]), if_pos z, b56_15, g, nI_add, b56_25]
  · rw [if_neg (by rw [nI_eq (by omega) (by omega)]; exact z), if_neg z, b56_13]
/-- behind what is closed: the class -/
theorem c_close {c : Nat} {h0 : sm_H} {k0 k' : Nat} {cs : List Nat} (T : TKo (tK b n) (tV b n) nt) (S : cSt h b n nt q k' (N + cs.length)) (hc : c < 221) (h0c : c ≠ 0) (o : cOut h0 h nt q N (.inr (k', cs))) : ∃ h2, xc 56 [.ref 28, .int (nI c)] h = some ([.int (rI (clB (tK b n) c (.inr (k', cs))))], h2) ∧ cOut h0 h2 nt q N (clB (tK b n) c (.inr (k', cs))) := by
  have hq := S.2.2.1.2
  have h900 := T.2.2.1
  rw [c_take T S.1 S.2.1.1 S.2.1.2 hc]
  have hcl : clB (tK b n) c (.inr (k', cs)) = if tK b n k' = c then .inr (k' + 1, cs) else .inl (2, k') := rfl
  rw [hcl]
  by_cases z : tK b n k' = c
  · rw [if_pos z, if_pos z]
    obtain ⟨S2, E2⟩ := cSt_nx T S (by rw [z]; exact h0c)
    refine ⟨_, rfl, S2.2.1.1, ?_⟩
    have := cOk_app hq o.2 (cOk_nil S.2.2.2.1 E2 hq)
    rw [List.append_nil] at this
    exact this
  · rw [if_neg z, if_neg z]
    exact ⟨h, rfl, ⟨by decide, by decide⟩, S.2.1.2, S.2.1.1, ⟨N + cs.length, by have := S.2.2.2.2; have := S.2.1.2; omega, S.2.2.2.1⟩, o.2.2.2.wk sxCo_d⟩
theorem rkC {y D o : Nat} (e : sm_rkL.getD y (0, 0) = (2, o)) (h : y ≠ 267) (hD : D < 2 ^ 31) : sm_rk y [.ref 28, .int (nI D)] = 1 + 10 * (7 - D) + o := by
  unfold sm_rk
  rw [if_neg h, e]
  show 1 + 10 * (7 - (nI D).toNatClampNeg) + o = _
  rw [nI_clamp hD]
theorem rk66 {D : Nat} (hD : D < 2 ^ 31) : sm_rk 66 [.ref 28, .int (nI D)] = 1 + 10 * (7 - D) + 4 := rkC rfl (by decide) hD
theorem rk67 {D : Nat} (hD : D < 2 ^ 31) : sm_rk 67 [.ref 28, .int (nI D)] = 1 + 10 * (7 - D) + 3 := rkC rfl (by decide) hD
theorem rk69 {D : Nat} (hD : D < 2 ^ 31) : sm_rk 69 [.ref 28, .int (nI D)] = 1 + 10 * (7 - D) + 2 := rkC rfl (by decide) hD
theorem rk70 {D : Nat} (hD : D < 2 ^ 31) : sm_rk 70 [.ref 28, .int (nI D)] = 1 + 10 * (7 - D) + 1 := rkC rfl (by decide) hD
theorem phi_n {c : Nat} (h : c < 3000) : phi c = c := if_pos h
theorem c_atom {D : Nat} {S : Nat → RR → Prop} (T : TKo (tK b n) (tV b n) nt) (hD : D ≤ 6) (hS : D ≠ 6 → rdC b n nt q 69 (D + 1) S) (hgS : grw nt S) : rdC b n nt q 70 D (AtR (tK b n) (tV b n) (6 - D) S) := fun k N h C => by
  have r1 := rk70 (D := D) (by omega)
  have r2 := rk69 (D := D + 1) (by omega)
  have h900 := T.2.2.1
  have hq := C.2.2.1.2
  have hlw := C.2.2.1.1
  have Q := C.isq
  have hk := C.2.1.2
  have hNk := C.2.2.2.2
  have hKL := KL_lt _ (T.2.2.2.1 k)
  have k1 : 1 < sm_rk 70 [.ref 28, .int (nI D)] := by rw [r1]; omega
  generalize hdd : sm_rk 70 [.ref 28, .int (nI D)] = d at *
  have one : ∀ o v, v = nI (phi o) → tK b n k ≠ 0 → ∃ h2, xc 41 [.ref q, .int v] h = some ([], h2) ∧ sm_gi h2 28 4 = nI k ∧ cOut h (sm_si h2 28 4 (nI (k + 1))) nt q N (.inr (k + 1, [o])) := fun o v hv z => by
    have hk1 := T.s hk z
    obtain ⟨h2, e2, o2⟩ := c_add (o := o) C (by omega) hv
    have E : eqx (fun c i => c = 28 ∧ i = 4) h2 (sm_si h2 28 4 (nI (k + 1))) := eqx.rf.si ⟨rfl, rfl⟩
    refine ⟨h2, e2, o2.1, gi_same, ?_⟩
    have := cOk_app hq o2.2 (cOk_nil o2.2.1 E hq)
    rw [List.append_nil] at this
    exact this
  rw [en_70, hdd, b70_0, C.2.1.1]
  simp (disch := omega) only [in_45, if_true, nI_clamp, C.kd]
  unfold AtR
  by_cases z1 : tK b n k = 2
  · have gv := (C.1.2 k hk).2.2 z1
    obtain ⟨h2, e2, g2, o2⟩ := one (tV b n k) (nI (tV b n k)) (by rw [phi_n (by have := T.2.2.2.2 k z1; omega)]) (by omega)
    rw [if_pos (by rw [z1]), b70_15 (show sm_rk 41 [.ref (sm_lw h), .int (sm_gi h 46 (sm_gi h 28 4).toNatClampNeg)] < d from k1) (by rw [hlw]; exact Q), C.2.1.1, hlw]
    simp (disch := omega) only [in_46, if_true, nI_clamp, gv]
    rw [e2, bnd]
    simp only [List.nil_append]
    rw [b70_31, g2, nI_add, b70_41]
    exact ⟨.inr (k + 1, [tV b n k]), _, by rw [if_pos z1], rfl, o2⟩
  · rw [if_neg (by rw [nI_eq (by omega) (by decide)]; exact z1), b70_43]
    have at85 : ¬ (213 ≤ tK b n k ∧ tK b n k ≤ 219) → ∃ r h2, (if tK b n k = 2 then r = .inr (k + 1, [tV b n k]) else if 213 ≤ tK b n k ∧ tK b n k ≤ 219 then r = .inr (k + 1, [1000 + (tK b n k - 213)]) else if tK b n k = 40 then (if 6 - D = 0 then r = .inl (4, k) else ∃ r0, S (k + 1) r0 ∧ r = clB (tK b n) 41 r0) else r = .inl (2, k)) ∧ xe d 70 85 [.ref 28, .int (nI D), .int (nI (tK b n k)), .null] [] h = some ([.int (rI r)], h2) ∧ cOut h h2 nt q N r := fun z2 => by
      rw [b70_85]
      by_cases z3 : tK b n k = 40
      · rw [if_pos (by rw [z3]), b70_93]
        by_cases z4 : D = 6
        · rw [if_neg (by rw [nI_ltI (by omega) (by decide)]; omega), b70_99]
          exact ⟨.inl (4, k), h, by rw [if_neg z1, if_neg z2, if_pos z3, if_pos (by omega)], rfl, ⟨by decide, by decide⟩, hk, C.2.1.1, ⟨N, by omega, C.2.2.2.1⟩, eqx.rf⟩
        · obtain ⟨C2, E2⟩ := cSt_nx T C (show tK b n k ≠ 0 by omega)
          obtain ⟨r, h3, a3, e3, o3⟩ := hS z4 (k + 1) N _ C2
          have o3' := cOut_nx C E2 o3
          rw [if_pos (by rw [nI_ltI (by omega) (by decide)]; omega), b70_101, C.2.1.1, nI_add, b70_111 (by rw [nI_add]; exact Nat.lt_of_le_of_lt (Nat.le_of_eq r2) (by omega)), nI_add, e3, bnd]
          simp only [app1, List.cons_append, List.nil_append]
          rw [b70_118]
          have hat : ∀ r', r' = clB (tK b n) 41 r → (if tK b n k = 2 then r' = .inr (k + 1, [tV b n k]) else if 213 ≤ tK b n k ∧ tK b n k ≤ 219 then r' = .inr (k + 1, [1000 + (tK b n k - 213)]) else if tK b n k = 40 then (if 6 - D = 0 then r' = .inl (4, k) else ∃ r0, S (k + 1) r0 ∧ r' = clB (tK b n) 41 r0) else r' = .inl (2, k)) := fun r' hr' => by
            rw [if_neg z1, if_neg z2, if_pos z3, if_neg (by omega)]
            exact ⟨r, a3, hr'⟩
          rcases r with ⟨e, k'⟩ | ⟨k', cs⟩
          · have he := o3.1
            rw [show rI (.inl (e, k')) = nI e from rfl, if_neg (by rw [show (0 : Int32) = nI 0 from rfl, nI_eq (by omega) (by decide)]; omega), b70_123, b70_133]
            exact ⟨.inl (e, k'), h3, hat _ rfl, rfl, o3'⟩
          · have hgr := hgS.1 _ _ _ a3
            have C3 := cSt_ok C2 o3 (hgr.2.2 C2.2.1.2) (by omega)
            obtain ⟨h4, e4, o4⟩ := c_close (k0 := k) T C3 (show 41 < 221 by decide) (by decide) o3'
            rw [show rI (.inr (k', cs)) = nI 0 from rfl, if_pos (show nI 0 = 0 from rfl), b70_127 k1, e4, bnd]
            simp only [app1, List.cons_append, List.nil_append]
            rw [b70_133]
            exact ⟨_, h4, hat _ rfl, rfl, o4⟩
      · rw [if_neg (by rw [nI_eq (by omega) (by decide)]; exact z3), b70_91]
        exact ⟨.inl (2, k), h, by rw [if_neg z1, if_neg z2, if_neg z3], rfl, ⟨by decide, by decide⟩, hk, C.2.1.1, ⟨N, by omega, C.2.2.2.1⟩, eqx.rf⟩
    by_cases y1 : 213 ≤ tK b n k
    · rw [if_neg (by rw [nI_ltI (by omega) (by decide)]; omega), b70_50]
      by_cases y2 : tK b n k ≤ 219
      · obtain ⟨h2, e2, g2, o2⟩ := one (1000 + (tK b n k - 213)) (nI (1000 + (tK b n k - 213))) (by rw [phi_n (by omega)]) (by omega)
        rw [if_neg (by rw [nI_ltI (by decide) (by omega)]; omega), b70_57 (show sm_rk 41 [.ref (sm_lw h), .int ((nI 1000 + nI (tK b n k)) - nI 213)] < d from k1) (by rw [hlw]; exact Q), hlw, nI_add, pk_sub (show 213 ≤ 1000 + tK b n k by omega), show 1000 + tK b n k - 213 = 1000 + (tK b n k - 213) by omega, e2, bnd]
        simp only [List.nil_append]
        rw [b70_73, g2, nI_add, b70_83]
        exact ⟨.inr (k + 1, [1000 + (tK b n k - 213)]), _, by rw [if_neg z1, if_pos ⟨y1, y2⟩], rfl, o2⟩
      · rw [if_pos (by rw [nI_ltI (by decide) (by omega)]; omega)]
        exact at85 (by omega)
    · rw [if_pos (by rw [nI_ltI (by omega) (by decide)]; omega)]
      exact at85 (by omega)
end CRD
