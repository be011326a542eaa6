/-! ===== laws are read: the model ===== -/
def mR (h : sm_H) (b : Nat → Nat) (n k : Nat) : Prop := mBy h b n ∧ mAt h b n (psT b n k) ∧ sm_gi h 169 11 = nI 0
def flt (e c : Nat) : Nat := if c = 1 then 1 else e
def mBd (h : sm_H) (b : Nat → Nat) (n e k : Nat) : Prop := mBy h b n ∧ (1 ≤ e ∧ e ≤ 4) ∧ sm_gi h 169 11 = nI (flt e (tK b n k)) ∧ sm_gi h 169 12 = nI (psT b n k)
def sxRo (N : Nat) : Nat → Nat → Prop := fun c i => (c = 169 ∧ (i = 6 ∨ i = 7 ∨ i = 9 ∨ i = 10)) ∨ (c = 173 ∧ (i = 375 ∨ 376 + N ≤ i))
def sxRd : Nat → Nat → Prop := fun c i => (c = 169 ∧ (i = 6 ∨ i = 7 ∨ i = 9 ∨ i = 10 ∨ i = 11 ∨ i = 12)) ∨ (c = 173 ∧ 375 ≤ i)
def mOk (h h1 : sm_H) (N : Nat) (c : List Nat) : Prop := sm_gi h1 173 375 = nI (N + c.length) ∧ (∀ j, j < c.length → sm_gi h1 173 (376 + N + j) = nI (c.getD j 0)) ∧ eqx (sxRo N) h h1
def mOut (h h2 : sm_H) (b : Nat → Nat) (n N : Nat) : RR → Prop
  | .inl (e, k') => mBd h2 b n e k' ∧ eqx sxRd h h2
  | .inr (k', c) => mR h2 b n k' ∧ mOk h h2 N c
theorem sxN_Ro {N : Nat} : ∀ c i, sxNx c i → sxRo N c i := fun c i z => by unfold sxNx at z; unfold sxRo; omega
theorem sxRo_d {N : Nat} : ∀ c i, sxRo N c i → sxRd c i := fun c i z => by unfold sxRo at z; unfold sxRd; omega
theorem sxRo_N {N M : Nat} (h : N ≤ M) : ∀ c i, sxRo M c i → sxRo N c i := fun c i z => by unfold sxRo at z ⊢; omega
section MRD
variable {b : Nat → Nat} {n nt k N : Nat} {h : sm_H}
theorem mBd.d {e : Nat} (H : mBd h b n e k) : sm_gi h 169 11 ≠ 0 := by
  have := H.2.1
  intro z
  rw [H.2.2.1, show (0 : Int32) = nI 0 from rfl] at z
  unfold flt at z
  split at z
  · rw [nI_eq (by decide) (by decide)] at z; omega
  · rw [nI_eq (by omega) (by decide)] at z; omega
theorem mR_eqx {S : Nat → Nat → Prop} {h2 : sm_H} (H : mR h b n k) (E : eqx S h h2) (hS : ∀ c i, S c i → c ≠ 172 ∧ c ≠ 169) : mR h2 b n k := by
  have g : ∀ i, sm_gi h2 169 i = sm_gi h 169 i := fun i => E.1 169 i (fun z => (hS _ _ z).2 rfl)
  refine ⟨mBy_eqx H.1 E (fun c i z => ⟨(hS _ _ z).1, fun y => (hS _ _ z).2 y.1⟩), ?_, ?_⟩
  · unfold mAt
    rw [g 6, g 7, g 9, g 10]
    exact H.2.1
  · rw [g 11]; exact H.2.2
theorem mOk_N {h1 : sm_H} (E : eqx sxNx h h1) (g : sm_gi h 173 375 = nI N) : mOk h h1 N [] := ⟨(E.1 173 375 (by unfold sxNx; omega)).trans g, fun j hj => absurd hj (by rw [List.length_nil]; omega), E.wk sxN_Ro⟩
theorem mOk_rf (g : sm_gi h 173 375 = nI N) : mOk h h N [] := ⟨g, fun j hj => absurd hj (by rw [List.length_nil]; omega), eqx.rf⟩
theorem mOk_app {h1 h2 : sm_H} {c1 c2 : List Nat} (a : mOk h h1 N c1) (c : mOk h1 h2 (N + c1.length) c2) : mOk h h2 N (c1 ++ c2) := by
  refine ⟨?_, fun j hj => ?_, a.2.2.tr (c.2.2.wk (sxRo_N (by omega)))⟩
  · rw [c.1, List.length_append, Nat.add_assoc]
  · rw [List.length_append] at hj
    by_cases z : j < c1.length
    · rw [c.2.2.1 173 (376 + N + j) (by unfold sxRo; omega), a.2.1 j z, List.getD_eq_getElem?_getD, List.getD_eq_getElem?_getD, List.getElem?_append_left z]
    · have := c.2.1 (j - c1.length) (by omega)
      rw [show 376 + (N + c1.length) + (j - c1.length) = 376 + N + j by omega] at this
      rw [this, List.getD_eq_getElem?_getD, List.getD_eq_getElem?_getD, List.getElem?_append_right (by omega)]
theorem mOut_app {h1 h2 : sm_H} {c1 : List Nat} {r : RR} (a : mOk h h1 N c1) (c : mOut h1 h2 b n (N + c1.length) r) : mOut h h2 b n N (rpre c1 r) := by
  rcases r with ⟨e, k'⟩ | ⟨k', c2⟩
  · exact ⟨c.1, (a.2.2.wk sxRo_d).tr c.2⟩
  · exact ⟨c.1, mOk_app a c.2⟩
theorem mOut_N {h1 h2 : sm_H} {r : RR} (E : eqx sxNx h h1) (g : sm_gi h 173 375 = nI N) (c : mOut h1 h2 b n N r) : mOut h h2 b n N r := by
  have := mOut_app (mOk_N E g) (by rw [List.length_nil, Nat.add_zero]; exact c)
  rcases r with ⟨e, k'⟩ | ⟨k', c2⟩
  · exact this
  · exact this
theorem m_is_d {v : Int32} (hd : sm_gi h 169 11 ≠ 0) : xc 156 [.ref 169, .int v] h = some ([.int (nI 0)], h) := by
  rw [en_156, b156_0, if_neg hd, b156_19, b156_20, if_pos (or01_0.mpr trivial)]
theorem m_is {c v : Nat} (H : mR h b n k) (hc : c ∈ KL) (hv : mKd c = v) : xc 156 [.ref 169, .int (nI v)] h = some ([.int (bI (tK b n k = c))], h) := by
  have h1 : tK b n k ∈ KL := tkK_KL
  have l1 := mKd_lt _ h1
  have l2 := mKd_lt _ hc
  have g9 : sm_gi h 169 9 = nI (mKd (tK b n k)) := H.2.1.2.2.1
  rw [en_156, b156_0, H.2.2, if_pos (show nI 0 = 0 from rfl), b156_7, g9, ← hv]
  unfold bI
  by_cases z : tK b n k = c
  · rw [if_pos (by rw [z]), if_pos z, b156_15, b156_20, if_pos (or01_1.mpr trivial)]
  · rw [if_neg (fun y => z (mKd_inj _ h1 _ hc ((nI_eq (by omega) (by omega)).mp y))), if_neg z, b156_19, b156_20, if_pos (or01_0.mpr trivial)]
theorem m_nextR (H : mR h b n k) (hk : tK b n k ≠ 0) : ∃ h2, xc 154 [.ref 169] h = some ([], h2) ∧ mR h2 b n (k + 1) ∧ eqx sxNx h h2 := by
  have hp : psT b n k < n := by
    have := psT_le (b := b) (n := n) k
    have h2 : ¬ psT b n k = n := fun z => hk (tK_0.mpr z)
    omega
  have g7 := H.2.1.2.1
  rw [if_pos hp] at g7
  obtain ⟨h2, e2, A2, E2⟩ := m_next H.1 g7 (tkE_le hp).2
  refine ⟨h2, e2, ⟨mBy_N H.1 E2, ?_, (E2.1 169 11 (by unfold sxNx; omega)).trans H.2.2⟩, E2⟩
  rw [psT_s, if_pos hp]
  exact A2
theorem m_eats_d {v : Int32} (hd : sm_gi h 169 11 ≠ 0) : xc 157 [.ref 169, .int v] h = some ([.int (nI 0)], h) := by
  rw [en_157, b157_0, m_is_d hd, bnd]
  simp only [app1, List.cons_append, List.nil_append]
  rw [b157_5, if_pos (show nI 0 = 0 from rfl), b157_8]
theorem m_eats {c v : Nat} (H : mR h b n k) (hc : c ∈ KL) (h0 : c ≠ 0) (hv : mKd c = v) : (tK b n k = c ∧ ∃ h2, xc 157 [.ref 169, .int (nI v)] h = some ([.int (nI 1)], h2) ∧ mR h2 b n (k + 1) ∧ eqx sxNx h h2) ∨ (tK b n k ≠ c ∧ xc 157 [.ref 169, .int (nI v)] h = some ([.int (nI 0)], h)) := by
  rw [en_157, b157_0, m_is H hc hv, bnd]
  simp only [app1, List.cons_append, List.nil_append]
  rw [b157_5]
  by_cases z : tK b n k = c
  · obtain ⟨h2, e2, R2, E2⟩ := m_nextR H (by rw [z]; exact h0)
    refine Or.inl ⟨z, h2, ?_, R2, E2⟩
    rw [if_neg (by rw [bI_z]; exact fun y => y z), b157_10, e2, bnd]
    simp only [List.nil_append]
    rw [b157_14]
  · refine Or.inr ⟨z, ?_⟩
    rw [if_pos (by rw [bI_z]; exact z), b157_8]
theorem m_fails_d {v : Int32} (hd : sm_gi h 169 11 ≠ 0) : xc 155 [.ref 169, .int v] h = some ([], h) := by
  rw [en_155, b155_0, if_neg hd, b155_7]
theorem m_fails {e : Nat} (H : mR h b n k) (he : 1 ≤ e ∧ e ≤ 4) : ∃ h2, xc 155 [.ref 169, .int (nI e)] h = some ([], h2) ∧ mBd h2 b n e k ∧ eqx (fun c i => c = 169 ∧ (i = 11 ∨ i = 12)) h h2 := by
  have h1 : tK b n k ∈ KL := tkK_KL
  have l1 := mKd_lt _ h1
  have g9 : sm_gi h 169 9 = nI (mKd (tK b n k)) := H.2.1.2.2.1
  have fin : ∀ v, v = nI (flt e (tK b n k)) → ∃ h2, xe 1 155 23 [.ref 169, .int (nI e)] [.int v, .ref 169] h = some ([], h2) ∧ mBd h2 b n e k ∧ eqx (fun c i => c = 169 ∧ (i = 11 ∨ i = 12)) h h2 := fun v hv => by
    have E : eqx (fun c i => c = 169 ∧ (i = 11 ∨ i = 12)) h (sm_si (sm_si h 169 11 v) 169 12 (sm_gi h 169 6)) := (eqx.rf.si (by omega)).si (by omega)
    rw [b155_23, b155_26, gi_slot (by decide), b155_34]
    exact ⟨_, rfl, ⟨mBy_eqx H.1 E (fun c i z => by omega), he, (gi_slot (by decide)).trans (gi_same.trans hv), gi_same.trans H.2.1.1⟩, E⟩
  rw [en_155, b155_0, H.2.2, if_pos (show nI 0 = 0 from rfl), b155_8, g9]
  by_cases z : tK b n k = 1
  · rw [if_pos (by rw [z]; rfl), b155_18]
    exact fin _ (by unfold flt; rw [if_pos z])
  · rw [if_neg (show ¬ nI (mKd (tK b n k)) = nI 25 from fun y => z (mKd_inj _ h1 1 (by decide) ((nI_eq (by omega) (by decide)).mp y))), b155_22]
    exact fin _ (by unfold flt; rw [if_neg z])
theorem in_173 {n : Nat} (hn : n < 1276) : sm_in 173 (nI n) ↔ True := in_ln (by omega) (by rw [ln_173]; exact hn)
theorem m_codes_d {v : Int32} (hd : sm_gi h 169 11 ≠ 0) : xc 161 [.ref 169, .int v] h = some ([], h) := by
  rw [en_161, b161_0, if_neg hd, b161_7]
theorem m_codes {o : Nat} (H : mR h b n k) (g : sm_gi h 173 375 = nI N) (hN : N < 900) : ∃ h2, xc 161 [.ref 169, .int (nI o)] h = some ([], h2) ∧ mR h2 b n k ∧ mOk h h2 N [o] := by
  have E : eqx (fun c i => c = 173 ∧ (i = 375 ∨ i = 376 + N)) h (sm_si (sm_si h 173 (376 + N) (nI o)) 173 375 (nI (N + 1))) := (eqx.rf.si (by omega)).si (by omega)
  rw [en_161, b161_0, H.2.2, if_pos (show nI 0 = 0 from rfl), b161_8]
  simp (disch := omega) only [in_173, if_true, nI_clamp, g, nI_add]
  rw [b161_26]
  simp (disch := omega) only [in_173, if_true, nI_clamp]
  rw [gi_slot (by omega), g, nI_add, b161_38]
  refine ⟨_, rfl, mR_eqx H E (fun c i z => by omega), gi_same, fun j hj => ?_, E.wk (fun c i z => by unfold sxRo; omega)⟩
  rw [List.length_singleton] at hj
  have : j = 0 := by omega
  subst this
  rw [gi_slot (by omega), Nat.add_zero, gi_same]
  rfl
/-- what comes behind an item -/
def CtR (K : Nat → Nat) (A : Nat → RR → Prop) (op : Nat → Option Nat) (k : Nat) (r : RR) : Prop := (op (K k) = none ∧ r = .inr (k, [])) ∨ ∃ o, op (K k) = some o ∧ LsR K A op [o] (k + 1) r
theorem Ct_Ls {K : Nat → Nat} {A : Nat → RR → Prop} {op : Nat → Option Nat} {p c : List Nat} {k k' : Nat} {r : RR} (a : A k (.inr (k', c))) (h : CtR K A op k' r) : LsR K A op p k (rpre (c ++ p) r) := by
  rcases h with ⟨h1, rfl⟩ | ⟨o, h1, h2⟩
  · show LsR K A op p k (.inr (k', c ++ p ++ []))
    rw [List.append_nil]
    exact LsR_fin a h1
  · exact LsR_go a h1 h2
/-- a method of the model reads what A tells -/
def rdM (b : Nat → Nat) (n nt y D : Nat) (A : Nat → RR → Prop) : Prop := ∀ (k N : Nat) (h : sm_H), mR h b n k → sm_gi h 173 375 = nI N → N ≤ k → k ≤ nt → ∃ r h2, A k r ∧ xc y [.ref 169, .int (nI D)] h = some ([], h2) ∧ mOut h h2 b n N r
def ddM (y D : Nat) : Prop := ∀ h : sm_H, sm_gi h 169 11 ≠ 0 → xc y [.ref 169, .int (nI D)] h = some ([], h)
theorem rkA {y D o : Nat} (e : sm_rkL.getD y (0, 0) = (4, o)) (h : y ≠ 267) (hD : D < 2 ^ 31) : sm_rk y [.ref 169, .int (nI D)] = 3 + 10 * (7 - D) + o := by
  unfold sm_rk
  rw [if_neg h, e]
  show 3 + 10 * (7 - (nI D).toNatClampNeg) + o = _
  rw [nI_clamp hD]
theorem rk163 {D : Nat} (hD : D < 2 ^ 31) : sm_rk 163 [.ref 169, .int (nI D)] = 3 + 10 * (7 - D) + 1 := rkA rfl (by decide) hD
theorem rk164 {D : Nat} (hD : D < 2 ^ 31) : sm_rk 164 [.ref 169, .int (nI D)] = 3 + 10 * (7 - D) + 2 := rkA rfl (by decide) hD
theorem rk165 {D : Nat} (hD : D < 2 ^ 31) : sm_rk 165 [.ref 169, .int (nI D)] = 3 + 10 * (7 - D) + 3 := rkA rfl (by decide) hD
theorem rk166 {D : Nat} (hD : D < 2 ^ 31) : sm_rk 166 [.ref 169, .int (nI D)] = 3 + 10 * (7 - D) + 4 := rkA rfl (by decide) hD
theorem rk167 {D : Nat} (hD : D < 2 ^ 31) : sm_rk 167 [.ref 169, .int (nI D)] = 3 + 10 * (7 - D) + 5 := rkA rfl (by decide) hD
theorem rk168 {D : Nat} (hD : D < 2 ^ 31) : sm_rk 168 [.ref 169, .int (nI D)] = 3 + 10 * (7 - D) + 6 := rkA rfl (by decide) hD
theorem m_readTerm_d {D : Nat} (hD : D < 2 ^ 31) (hi : ddM 163 D) : ddM 164 D := fun h hd => by
  have r1 := rk164 hD
  have r2 := rk163 hD
  rw [en_164, b164_0 (by rw [r1]; exact Nat.lt_of_le_of_lt (Nat.le_of_eq r2) (by omega)), hi h hd, bnd]
  simp only [List.nil_append]
  rw [b164_5 (by rw [r1]; exact (show 3 < _ by omega)), m_eats_d hd, bnd]
  simp only [app1, List.cons_append, List.nil_append]
  rw [b164_11, if_pos (show nI 0 = 0 from rfl), b164_29]
theorem m_readTerm_loop {D d : Nat} {A : Nat → RR → Prop} (T : TKo (tK b n) (tV b n) nt) (hA : rdM b n nt 163 D A) (hAd : ddM 163 D) (hg : grw nt A) (hr : sm_rk 163 [.ref 169, .int (nI D)] < d) (h3 : 3 < d) : ∀ (m k N : Nat) (h : sm_H), nt - k ≤ m → mR h b n k → sm_gi h 173 375 = nI N → N ≤ k → k ≤ nt → ∃ r h2, CtR (tK b n) A opT k r ∧ xe d 164 5 [.ref 169, .int (nI D)] [] h = some ([], h2) ∧ mOut h h2 b n N r := fun m => by
  induction m with
  | zero =>
    intro k N h hm R g hN hk
    have : k = nt := by omega
    subst this
    have hz := T.1
    rcases m_eats R (c := 42) (v := 34) (by decide) (by decide) rfl with ⟨z, -⟩ | ⟨z, e1⟩
    · omega
    · rw [b164_5 h3, e1, bnd]
      simp only [app1, List.cons_append, List.nil_append]
      rw [b164_11, if_pos (show nI 0 = 0 from rfl), b164_29]
      exact ⟨.inr (k, []), h, Or.inl ⟨by unfold opT; rw [if_neg z], rfl⟩, rfl, R, mOk_rf g⟩
  | succ m ih =>
    intro k N h hm R g hN hk
    rw [b164_5 h3]
    rcases m_eats R (c := 42) (v := 34) (by decide) (by decide) rfl with ⟨z, h1, e1, R1, E1⟩ | ⟨z, e1⟩
    · have hk1 := T.s hk (by omega)
      have g1 : sm_gi h1 173 375 = nI N := (E1.1 173 375 (by unfold sxNx; omega)).trans g
      obtain ⟨r, h2, a2, e2, o2⟩ := hA (k + 1) N h1 R1 g1 (by omega) hk1
      rw [e1, bnd]
      simp only [app1, List.cons_append, List.nil_append]
      rw [b164_11, if_neg (by decide), b164_14 hr, e2, bnd]
      simp only [List.nil_append]
      have hop : opT (tK b n k) = some 3002 := by unfold opT; rw [if_pos z]
      rcases r with ⟨e, k'⟩ | ⟨k', c⟩
      · have hd := o2.1.d
        rw [b164_19 (Nat.lt_of_le_of_lt (show 1 ≤ 3 by decide) h3), m_codes_d hd, bnd]
        simp only [List.nil_append]
        rw [b164_26, b164_5 h3, m_eats_d hd, bnd]
        simp only [app1, List.cons_append, List.nil_append]
        rw [b164_11, if_pos (show nI 0 = 0 from rfl), b164_29]
        exact ⟨.inl (e, k'), h2, Or.inr ⟨_, hop, LsR_bad a2⟩, rfl, mOut_N E1 g o2⟩
      · have hgr := hg.1 _ _ _ a2
        have hk' := hgr.2.2 hk1
        have h900 := T.2.2.1
        obtain ⟨h4, e4, R4, O4⟩ := m_codes (o := 3002) o2.1 o2.2.1 (by omega)
        rw [b164_19 (Nat.lt_of_le_of_lt (show 1 ≤ 3 by decide) h3), e4, bnd]
        simp only [List.nil_append]
        rw [b164_26]
        have O5 := mOk_app o2.2 O4
        obtain ⟨r', h5, a5, e5, o5⟩ := ih k' (N + (c ++ [3002]).length) h4 (by omega) R4 O5.1 (by rw [List.length_append, List.length_singleton]; omega) hk'
        exact ⟨rpre (c ++ [3002]) r', h5, Or.inr ⟨_, hop, Ct_Ls a2 a5⟩, e5, mOut_N E1 g (mOut_app O5 o5)⟩
    · rw [e1, bnd]
      simp only [app1, List.cons_append, List.nil_append]
      rw [b164_11, if_pos (show nI 0 = 0 from rfl), b164_29]
      exact ⟨.inr (k, []), h, Or.inl ⟨by unfold opT; rw [if_neg z], rfl⟩, rfl, R, mOk_rf g⟩
theorem m_readTerm {D : Nat} {A : Nat → RR → Prop} (T : TKo (tK b n) (tV b n) nt) (hD : D < 2 ^ 31) (hA : rdM b n nt 163 D A) (hAd : ddM 163 D) (hg : grw nt A) : rdM b n nt 164 D (LsR (tK b n) A opT []) := fun k N h R g hN hk => by
  have r1 := rk164 hD
  have r2 := rk163 hD
  have hr : sm_rk 163 [.ref 169, .int (nI D)] < sm_rk 164 [.ref 169, .int (nI D)] := by rw [r1]; exact Nat.lt_of_le_of_lt (Nat.le_of_eq r2) (by omega)
  have h3 : 3 < sm_rk 164 [.ref 169, .int (nI D)] := by rw [r1]; omega
  obtain ⟨r, h2, a2, e2, o2⟩ := hA k N h R g hN hk
  rw [en_164, b164_0 hr, e2, bnd]
  simp only [List.nil_append]
  rcases r with ⟨e, k'⟩ | ⟨k', c⟩
  · have hd := o2.1.d
    rw [b164_5 h3, m_eats_d hd, bnd]
    simp only [app1, List.cons_append, List.nil_append]
    rw [b164_11, if_pos (show nI 0 = 0 from rfl), b164_29]
    exact ⟨.inl (e, k'), h2, LsR_bad a2, rfl, o2⟩
  · have hgr := hg.1 _ _ _ a2
    obtain ⟨r', h5, a5, e5, o5⟩ := m_readTerm_loop T hA hAd hg hr h3 nt k' (N + c.length) h2 (by omega) o2.1 o2.2.1 (by omega) (hgr.2.2 hk)
    have := Ct_Ls (p := []) a2 a5
    rw [List.append_nil] at this
    exact ⟨rpre c r', h5, this, e5, mOut_app o2.2 o5⟩
theorem m_readBoth_d {D : Nat} (hD : D < 2 ^ 31) (hi : ddM 166 D) : ddM 167 D := fun h hd => by
  have r1 := rk167 hD
  have r2 := rk166 hD
  rw [en_167, b167_0 (by rw [r1]; exact Nat.lt_of_le_of_lt (Nat.le_of_eq r2) (by omega)), hi h hd, bnd]
  simp only [List.nil_append]
  rw [b167_5 (by rw [r1]; exact (show 3 < _ by omega)), m_eats_d hd, bnd]
  simp only [app1, List.cons_append, List.nil_append]
  rw [b167_11, if_pos (show nI 0 = 0 from rfl), b167_29]
theorem m_readBoth_loop {D d : Nat} {A : Nat → RR → Prop} (T : TKo (tK b n) (tV b n) nt) (hA : rdM b n nt 166 D A) (hAd : ddM 166 D) (hg : grw nt A) (hr : sm_rk 166 [.ref 169, .int (nI D)] < d) (h3 : 3 < d) : ∀ (m k N : Nat) (h : sm_H), nt - k ≤ m → mR h b n k → sm_gi h 173 375 = nI N → N ≤ k → k ≤ nt → ∃ r h2, CtR (tK b n) A opA k r ∧ xe d 167 5 [.ref 169, .int (nI D)] [] h = some ([], h2) ∧ mOut h h2 b n N r := fun m => by
  induction m with
  | zero =>
    intro k N h hm R g hN hk
    have : k = nt := by omega
    subst this
    have hz := T.1
    rcases m_eats R (c := 211) (v := 17) (by decide) (by decide) rfl with ⟨z, -⟩ | ⟨z, e1⟩
    · omega
    · rw [b167_5 h3, e1, bnd]
      simp only [app1, List.cons_append, List.nil_append]
      rw [b167_11, if_pos (show nI 0 = 0 from rfl), b167_29]
      exact ⟨.inr (k, []), h, Or.inl ⟨by unfold opA; rw [if_neg z], rfl⟩, rfl, R, mOk_rf g⟩
  | succ m ih =>
    intro k N h hm R g hN hk
    rw [b167_5 h3]
    rcases m_eats R (c := 211) (v := 17) (by decide) (by decide) rfl with ⟨z, h1, e1, R1, E1⟩ | ⟨z, e1⟩
    · have hk1 := T.s hk (by omega)
      have g1 : sm_gi h1 173 375 = nI N := (E1.1 173 375 (by unfold sxNx; omega)).trans g
      obtain ⟨r, h2, a2, e2, o2⟩ := hA (k + 1) N h1 R1 g1 (by omega) hk1
      rw [e1, bnd]
      simp only [app1, List.cons_append, List.nil_append]
      rw [b167_11, if_neg (by decide), b167_14 hr, e2, bnd]
      simp only [List.nil_append]
      have hop : opA (tK b n k) = some 3007 := by unfold opA; rw [if_pos z]
      rcases r with ⟨e, k'⟩ | ⟨k', c⟩
      · have hd := o2.1.d
        rw [b167_19 (Nat.lt_of_le_of_lt (show 1 ≤ 3 by decide) h3), m_codes_d hd, bnd]
        simp only [List.nil_append]
        rw [b167_26, b167_5 h3, m_eats_d hd, bnd]
        simp only [app1, List.cons_append, List.nil_append]
        rw [b167_11, if_pos (show nI 0 = 0 from rfl), b167_29]
        exact ⟨.inl (e, k'), h2, Or.inr ⟨_, hop, LsR_bad a2⟩, rfl, mOut_N E1 g o2⟩
      · have hgr := hg.1 _ _ _ a2
        have hk' := hgr.2.2 hk1
        have h900 := T.2.2.1
        obtain ⟨h4, e4, R4, O4⟩ := m_codes (o := 3007) o2.1 o2.2.1 (by omega)
        rw [b167_19 (Nat.lt_of_le_of_lt (show 1 ≤ 3 by decide) h3), e4, bnd]
        simp only [List.nil_append]
        rw [b167_26]
        have O5 := mOk_app o2.2 O4
        obtain ⟨r', h5, a5, e5, o5⟩ := ih k' (N + (c ++ [3007]).length) h4 (by omega) R4 O5.1 (by rw [List.length_append, List.length_singleton]; omega) hk'
        exact ⟨rpre (c ++ [3007]) r', h5, Or.inr ⟨_, hop, Ct_Ls a2 a5⟩, e5, mOut_N E1 g (mOut_app O5 o5)⟩
    · rw [e1, bnd]
      simp only [app1, List.cons_append, List.nil_append]
      rw [b167_11, if_pos (show nI 0 = 0 from rfl), b167_29]
      exact ⟨.inr (k, []), h, Or.inl ⟨by unfold opA; rw [if_neg z], rfl⟩, rfl, R, mOk_rf g⟩
theorem m_readBoth {D : Nat} {A : Nat → RR → Prop} (T : TKo (tK b n) (tV b n) nt) (hD : D < 2 ^ 31) (hA : rdM b n nt 166 D A) (hAd : ddM 166 D) (hg : grw nt A) : rdM b n nt 167 D (LsR (tK b n) A opA []) := fun k N h R g hN hk => by
  have r1 := rk167 hD
  have r2 := rk166 hD
  have hr : sm_rk 166 [.ref 169, .int (nI D)] < sm_rk 167 [.ref 169, .int (nI D)] := by rw [r1]; exact Nat.lt_of_le_of_lt (Nat.le_of_eq r2) (by omega)
  have h3 : 3 < sm_rk 167 [.ref 169, .int (nI D)] := by rw [r1]; omega
  obtain ⟨r, h2, a2, e2, o2⟩ := hA k N h R g hN hk
  rw [en_167, b167_0 hr, e2, bnd]
  simp only [List.nil_append]
  rcases r with ⟨e, k'⟩ | ⟨k', c⟩
  · have hd := o2.1.d
    rw [b167_5 h3, m_eats_d hd, bnd]
    simp only [app1, List.cons_append, List.nil_append]
    rw [b167_11, if_pos (show nI 0 = 0 from rfl), b167_29]
    exact ⟨.inl (e, k'), h2, LsR_bad a2, rfl, o2⟩
  · have hgr := hg.1 _ _ _ a2
    obtain ⟨r', h5, a5, e5, o5⟩ := m_readBoth_loop T hA hAd hg hr h3 nt k' (N + c.length) h2 (by omega) o2.1 o2.2.1 (by omega) (hgr.2.2 hk)
    have := Ct_Ls (p := []) a2 a5
    rw [List.append_nil] at this
    exact ⟨rpre c r', h5, this, e5, mOut_app o2.2 o5⟩
theorem m_readTruth_d {D : Nat} (hD : D < 2 ^ 31) (hi : ddM 167 D) : ddM 168 D := fun h hd => by
  have r1 := rk168 hD
  have r2 := rk167 hD
  rw [en_168, b168_0 (by rw [r1]; exact Nat.lt_of_le_of_lt (Nat.le_of_eq r2) (by omega)), hi h hd, bnd]
  simp only [List.nil_append]
  rw [b168_5 (by rw [r1]; exact (show 3 < _ by omega)), m_eats_d hd, bnd]
  simp only [app1, List.cons_append, List.nil_append]
  rw [b168_11, if_pos (show nI 0 = 0 from rfl), b168_29]
theorem m_readTruth_loop {D d : Nat} {A : Nat → RR → Prop} (T : TKo (tK b n) (tV b n) nt) (hA : rdM b n nt 167 D A) (hAd : ddM 167 D) (hg : grw nt A) (hr : sm_rk 167 [.ref 169, .int (nI D)] < d) (h3 : 3 < d) : ∀ (m k N : Nat) (h : sm_H), nt - k ≤ m → mR h b n k → sm_gi h 173 375 = nI N → N ≤ k → k ≤ nt → ∃ r h2, CtR (tK b n) A opO k r ∧ xe d 168 5 [.ref 169, .int (nI D)] [] h = some ([], h2) ∧ mOut h h2 b n N r := fun m => by
  induction m with
  | zero =>
    intro k N h hm R g hN hk
    have : k = nt := by omega
    subst this
    have hz := T.1
    rcases m_eats R (c := 210) (v := 18) (by decide) (by decide) rfl with ⟨z, -⟩ | ⟨z, e1⟩
    · omega
    · rw [b168_5 h3, e1, bnd]
      simp only [app1, List.cons_append, List.nil_append]
      rw [b168_11, if_pos (show nI 0 = 0 from rfl), b168_29]
      exact ⟨.inr (k, []), h, Or.inl ⟨by unfold opO; rw [if_neg z], rfl⟩, rfl, R, mOk_rf g⟩
  | succ m ih =>
    intro k N h hm R g hN hk
    rw [b168_5 h3]
    rcases m_eats R (c := 210) (v := 18) (by decide) (by decide) rfl with ⟨z, h1, e1, R1, E1⟩ | ⟨z, e1⟩
    · have hk1 := T.s hk (by omega)
      have g1 : sm_gi h1 173 375 = nI N := (E1.1 173 375 (by unfold sxNx; omega)).trans g
      obtain ⟨r, h2, a2, e2, o2⟩ := hA (k + 1) N h1 R1 g1 (by omega) hk1
      rw [e1, bnd]
      simp only [app1, List.cons_append, List.nil_append]
      rw [b168_11, if_neg (by decide), b168_14 hr, e2, bnd]
      simp only [List.nil_append]
      have hop : opO (tK b n k) = some 3008 := by unfold opO; rw [if_pos z]
      rcases r with ⟨e, k'⟩ | ⟨k', c⟩
      · have hd := o2.1.d
        rw [b168_19 (Nat.lt_of_le_of_lt (show 1 ≤ 3 by decide) h3), m_codes_d hd, bnd]
        simp only [List.nil_append]
        rw [b168_26, b168_5 h3, m_eats_d hd, bnd]
        simp only [app1, List.cons_append, List.nil_append]
        rw [b168_11, if_pos (show nI 0 = 0 from rfl), b168_29]
        exact ⟨.inl (e, k'), h2, Or.inr ⟨_, hop, LsR_bad a2⟩, rfl, mOut_N E1 g o2⟩
      · have hgr := hg.1 _ _ _ a2
        have hk' := hgr.2.2 hk1
        have h900 := T.2.2.1
        obtain ⟨h4, e4, R4, O4⟩ := m_codes (o := 3008) o2.1 o2.2.1 (by omega)
        rw [b168_19 (Nat.lt_of_le_of_lt (show 1 ≤ 3 by decide) h3), e4, bnd]
        simp only [List.nil_append]
        rw [b168_26]
        have O5 := mOk_app o2.2 O4
        obtain ⟨r', h5, a5, e5, o5⟩ := ih k' (N + (c ++ [3008]).length) h4 (by omega) R4 O5.1 (by rw [List.length_append, List.length_singleton]; omega) hk'
        exact ⟨rpre (c ++ [3008]) r', h5, Or.inr ⟨_, hop, Ct_Ls a2 a5⟩, e5, mOut_N E1 g (mOut_app O5 o5)⟩
    · rw [e1, bnd]
      simp only [app1, List.cons_append, List.nil_append]
      rw [b168_11, if_pos (show nI 0 = 0 from rfl), b168_29]
      exact ⟨.inr (k, []), h, Or.inl ⟨by unfold opO; rw [if_neg z], rfl⟩, rfl, R, mOk_rf g⟩
theorem m_readTruth {D : Nat} {A : Nat → RR → Prop} (T : TKo (tK b n) (tV b n) nt) (hD : D < 2 ^ 31) (hA : rdM b n nt 167 D A) (hAd : ddM 167 D) (hg : grw nt A) : rdM b n nt 168 D (LsR (tK b n) A opO []) := fun k N h R g hN hk => by
  have r1 := rk168 hD
  have r2 := rk167 hD
  have hr : sm_rk 167 [.ref 169, .int (nI D)] < sm_rk 168 [.ref 169, .int (nI D)] := by rw [r1]; exact Nat.lt_of_le_of_lt (Nat.le_of_eq r2) (by omega)
  have h3 : 3 < sm_rk 168 [.ref 169, .int (nI D)] := by rw [r1]; omega
  obtain ⟨r, h2, a2, e2, o2⟩ := hA k N h R g hN hk
  rw [en_168, b168_0 hr, e2, bnd]
  simp only [List.nil_append]
  rcases r with ⟨e, k'⟩ | ⟨k', c⟩
  · have hd := o2.1.d
    rw [b168_5 h3, m_eats_d hd, bnd]
    simp only [app1, List.cons_append, List.nil_append]
    rw [b168_11, if_pos (show nI 0 = 0 from rfl), b168_29]
    exact ⟨.inl (e, k'), h2, LsR_bad a2, rfl, o2⟩
  · have hgr := hg.1 _ _ _ a2
    obtain ⟨r', h5, a5, e5, o5⟩ := m_readTruth_loop T hA hAd hg hr h3 nt k' (N + c.length) h2 (by omega) o2.1 o2.2.1 (by omega) (hgr.2.2 hk)
    have := Ct_Ls (p := []) a2 a5
    rw [List.append_nil] at this
    exact ⟨rpre c r', h5, this, e5, mOut_app o2.2 o5⟩
end MRD
