/-! ===== laws are read: the model, sums and units ===== -/
section MRE
variable {b : Nat → Nat} {n nt k N : Nat} {h : sm_H}
theorem m_readSum_d {D : Nat} (hD : D < 2 ^ 31) (hi : ddM 164 D) : ddM 165 D := fun h hd => by
  have r1 := rk165 hD
  have r2 := rk164 hD
  rw [en_165, b165_0 (by rw [r1]; exact Nat.lt_of_le_of_lt (Nat.le_of_eq r2) (by omega)), hi h hd, bnd]
  simp only [List.nil_append]
  rw [b165_5 (by rw [r1]; exact (show 1 < _ by omega)), m_is_d hd, bnd]
  simp only [app1, List.cons_append, List.nil_append]
  rw [b165_11, if_pos (show nI 0 = 0 from rfl), b165_14 (by rw [r1]; exact (show 1 < _ by omega)), m_is_d hd, bnd]
  simp only [app1, List.cons_append, List.nil_append]
  rw [b165_20, if_pos (show nI 0 = 0 from rfl), b165_59]
theorem m_readSum_end {D d : Nat} {l2 : Value} (h3 : 3 < d) (hd : sm_gi h 169 11 ≠ 0) : xe d 165 5 [.ref 169, .int (nI D), l2] [] h = some ([], h) := by
  rw [b165_5 (show 1 < d by omega), m_is_d hd, bnd]
  simp only [app1, List.cons_append, List.nil_append]
  rw [b165_11, if_pos (show nI 0 = 0 from rfl), b165_14 (show 1 < d by omega), m_is_d hd, bnd]
  simp only [app1, List.cons_append, List.nil_append]
  rw [b165_20, if_pos (show nI 0 = 0 from rfl), b165_59]
theorem opS_o {c o : Nat} (h : opS c = some o) : (c = 43 ∧ o = 3000) ∨ (c = 45 ∧ o = 3001) := by
  unfold opS at h
  split at h
  · cases h; omega
  · split at h <;> cases h; omega
/-- at the head of the sum's loop: is there a sign -/
theorem m_readSum_sign {D d : Nat} {l2 : Value} (R : mR h b n k) (h3 : 3 < d) : (opS (tK b n k) = none ∧ xe d 165 5 [.ref 169, .int (nI D), l2] [] h = some ([], h)) ∨ ∃ o, opS (tK b n k) = some o ∧ xe d 165 5 [.ref 169, .int (nI D), l2] [] h = xe d 165 41 [.ref 169, .int (nI D), l2] [.int (nI o)] h := by
  have g9 : sm_gi h 169 9 = nI (mKd (tK b n k)) := R.2.1.2.2.1
  rw [b165_5 (show 1 < d by omega), m_is R (c := 43) (v := 32) (by decide) rfl, bnd]
  simp only [app1, List.cons_append, List.nil_append]
  rw [b165_11]
  by_cases z : tK b n k = 43
  · rw [if_neg (by rw [bI_z]; exact fun y => y z), b165_23, g9, if_pos (by rw [z]; rfl), b165_32]
    exact Or.inr ⟨3000, by unfold opS; rw [if_pos z], rfl⟩
  · rw [if_pos (by rw [bI_z]; exact z), b165_14 (show 1 < d by omega), m_is R (c := 45) (v := 33) (by decide) rfl, bnd]
    simp only [app1, List.cons_append, List.nil_append]
    rw [b165_20]
    by_cases y : tK b n k = 45
    · rw [if_neg (by rw [bI_z]; exact fun x => x y), b165_23, g9, if_neg (by rw [y]; decide), b165_38]
      exact Or.inr ⟨3001, by unfold opS; rw [if_neg z, if_pos y], rfl⟩
    · rw [if_pos (by rw [bI_z]; exact y), b165_59]
      exact Or.inl ⟨by unfold opS; rw [if_neg z, if_neg y], rfl⟩
theorem m_readSum_loop {D d : Nat} {A : Nat → RR → Prop} (T : TKo (tK b n) (tV b n) nt) (hA : rdM b n nt 164 D A) (hg : grw nt A) (hr : sm_rk 164 [.ref 169, .int (nI D)] < d) (h3 : 3 < d) : ∀ (m k N : Nat) (h : sm_H) (l2 : Value), nt - k ≤ m → mR h b n k → sm_gi h 173 375 = nI N → N ≤ k → k ≤ nt → ∃ r h2, CtR (tK b n) A opS k r ∧ xe d 165 5 [.ref 169, .int (nI D), l2] [] h = some ([], h2) ∧ mOut h h2 b n N r := fun m => by
  induction m with
  | zero =>
    intro k N h l2 hm R g hN hk
    have : k = nt := by omega
    subst this
    have hz := T.1
    rcases m_readSum_sign (D := D) (l2 := l2) R h3 with ⟨z, e1⟩ | ⟨o, z, -⟩
    · exact ⟨.inr (k, []), h, Or.inl ⟨z, rfl⟩, e1, R, mOk_rf g⟩
    · rw [hz] at z; cases z
  | succ m ih =>
    intro k N h l2 hm R g hN hk
    rcases m_readSum_sign (D := D) (l2 := l2) R h3 with ⟨z, e1⟩ | ⟨o, z, e1⟩
    · exact ⟨.inr (k, []), h, Or.inl ⟨z, rfl⟩, e1, R, mOk_rf g⟩
    · have ho := opS_o z
      obtain ⟨h1, e2, R1, E1⟩ := m_nextR R (by omega)
      have hk1 := T.s hk (show tK b n k ≠ 0 by omega)
      have g1 : sm_gi h1 173 375 = nI N := (E1.1 173 375 (by unfold sxNx; omega)).trans g
      obtain ⟨r, h2, a2, e3, o2⟩ := hA (k + 1) N h1 R1 g1 (by omega) hk1
      rw [e1, b165_41 (show 2 < d by omega), e2, bnd]
      simp only [List.nil_append]
      rw [b165_46 hr, e3, bnd]
      simp only [List.nil_append]
      rcases r with ⟨e, k'⟩ | ⟨k', c⟩
      · have hd := o2.1.d
        rw [b165_51 (show 1 < d by omega), m_codes_d hd, bnd]
        simp only [List.nil_append]
        rw [b165_56, m_readSum_end h3 hd]
        exact ⟨.inl (e, k'), h2, Or.inr ⟨_, z, LsR_bad a2⟩, rfl, mOut_N E1 g o2⟩
      · have hgr := hg.1 _ _ _ a2
        have hk' := hgr.2.2 hk1
        have h900 := T.2.2.1
        obtain ⟨h4, e4, R4, O4⟩ := m_codes (o := o) o2.1 o2.2.1 (by omega)
        rw [b165_51 (show 1 < d by omega), e4, bnd]
        simp only [List.nil_append]
        rw [b165_56]
        have O5 := mOk_app o2.2 O4
        obtain ⟨r', h5, a5, e5, o5⟩ := ih k' (N + (c ++ [o]).length) h4 (.int (nI o)) (by omega) R4 O5.1 (by rw [List.length_append, List.length_singleton]; omega) hk'
        exact ⟨rpre (c ++ [o]) r', h5, Or.inr ⟨_, z, Ct_Ls a2 a5⟩, e5, mOut_N E1 g (mOut_app O5 o5)⟩
theorem m_readSum {D : Nat} {A : Nat → RR → Prop} (T : TKo (tK b n) (tV b n) nt) (hD : D < 2 ^ 31) (hA : rdM b n nt 164 D A) (hg : grw nt A) : rdM b n nt 165 D (LsR (tK b n) A opS []) := fun k N h R g hN hk => by
  have r1 := rk165 hD
  have r2 := rk164 hD
  have hr : sm_rk 164 [.ref 169, .int (nI D)] < sm_rk 165 [.ref 169, .int (nI D)] := by rw [r1]; exact Nat.lt_of_le_of_lt (Nat.le_of_eq r2) (by omega)
  have h3 : 3 < sm_rk 165 [.ref 169, .int (nI D)] := by rw [r1]; omega
  obtain ⟨r, h2, a2, e2, o2⟩ := hA k N h R g hN hk
  rw [en_165, b165_0 hr, e2, bnd]
  simp only [List.nil_append]
  rcases r with ⟨e, k'⟩ | ⟨k', c⟩
  · have hd := o2.1.d
    rw [m_readSum_end h3 hd]
    exact ⟨.inl (e, k'), h2, LsR_bad a2, rfl, o2⟩
  · have hgr := hg.1 _ _ _ a2
    obtain ⟨r', h5, a5, e5, o5⟩ := m_readSum_loop T hA hg hr h3 nt k' (N + c.length) h2 .null (by omega) o2.1 o2.2.1 (by omega) (hgr.2.2 hk)
    have := Ct_Ls (p := []) a2 a5
    rw [List.append_nil] at this
    exact ⟨rpre c r', h5, this, e5, mOut_app o2.2 o5⟩
theorem wo_pc : ∀ c, c ∈ KL → (if (nI (mKd c)).toInt < 2 then 91 else [88, 91, 91, 91, 91, 91, 78, 84, 91, 91, 91, 76, 80, 82, 86].getD ((nI (mKd c)).toInt - 2).toNat 91) = if 213 ≤ c ∧ c ≤ 219 then 76 + 2 * (c - 213) else 91 := by decide +kernel
theorem m_wordOf {c : Nat} (hc : c ∈ KL) : xc 160 [.ref 169, .int (nI (mKd c))] h = some ([.int (if 213 ≤ c ∧ c ≤ 219 then nI (c - 213) else -1)], h) := by
  rw [en_160, b160_0, wo_pc c hc]
  by_cases z : 213 ≤ c ∧ c ≤ 219
  · rw [if_pos z, if_pos z]
    rcases (show c = 213 ∨ c = 214 ∨ c = 215 ∨ c = 216 ∨ c = 217 ∨ c = 218 ∨ c = 219 by omega) with rfl | rfl | rfl | rfl | rfl | rfl | rfl
    · rw [show 76 + 2 * (213 - 213) = 76 from rfl, b160_76]
    · rw [show 76 + 2 * (214 - 213) = 78 from rfl, b160_78]
    · rw [show 76 + 2 * (215 - 213) = 80 from rfl, b160_80]
    · rw [show 76 + 2 * (216 - 213) = 82 from rfl, b160_82]
    · rw [show 76 + 2 * (217 - 213) = 84 from rfl, b160_84]
    · rw [show 76 + 2 * (218 - 213) = 86 from rfl, b160_86]
    · rw [show 76 + 2 * (219 - 213) = 88 from rfl, b160_88]
  · rw [if_neg z, if_neg z, b160_91]
theorem m_goesIn {D : Nat} (R : mR h b n k) (hk : tK b n k ≠ 0) (hD : D ≤ 6) : (D = 6 ∧ ∃ h2, xc 162 [.ref 169, .int (nI D)] h = some ([.int (nI 0)], h2) ∧ mBd h2 b n 4 k ∧ eqx (fun c i => c = 169 ∧ (i = 11 ∨ i = 12)) h h2) ∨ (D ≠ 6 ∧ ∃ h2, xc 162 [.ref 169, .int (nI D)] h = some ([.int (nI 1)], h2) ∧ mR h2 b n (k + 1) ∧ eqx sxNx h h2) := by
  rw [en_162, b162_0]
  by_cases z : D = 6
  · obtain ⟨h2, e2, B2, E2⟩ := m_fails (e := 4) R (by omega)
    refine Or.inl ⟨z, h2, ?_, B2, E2⟩
    rw [if_pos (by rw [z]), b162_6, e2, bnd]
    simp only [List.nil_append]
    rw [b162_11, if_neg B2.d, b162_22, if_neg B2.d, b162_33, b162_34, if_pos (or01_0.mpr trivial)]
  · obtain ⟨h2, e2, R2, E2⟩ := m_nextR R hk
    refine Or.inr ⟨z, h2, ?_, R2, E2⟩
    rw [if_neg (by rw [nI_eq (by omega) (by decide)]; exact z), b162_11, R.2.2, if_pos (show nI 0 = 0 from rfl), b162_18, e2, bnd]
    simp only [List.nil_append]
    rw [b162_22, R2.2.2, if_pos (show nI 0 = 0 from rfl), b162_29, b162_34, if_pos (or01_1.mpr trivial)]
theorem fl_d {h2 : sm_H} (E : eqx (fun c i => c = 169 ∧ (i = 11 ∨ i = 12)) h h2) : eqx sxRd h h2 := E.wk (fun c i z => by unfold sxRd; omega)
theorem m_readAtom_d {D : Nat} (hD : D < 2 ^ 31) : ddM 163 D := fun h hd => by
  have r1 := rk163 hD
  rw [en_163, b163_0 (by rw [r1]; exact (show 1 < _ by omega)), m_is_d hd, bnd]
  simp only [app1, List.cons_append, List.nil_append]
  rw [b163_6, if_pos (show nI 0 = 0 from rfl), b163_24, if_neg hd, b163_66 (by rw [r1]; exact (show 1 < _ by omega)), m_is_d hd, bnd]
  simp only [app1, List.cons_append, List.nil_append]
  rw [b163_72, if_pos (show nI 0 = 0 from rfl), b163_108 (by rw [r1]; exact (show 1 < _ by omega)), m_fails_d hd, bnd]
  simp only [List.nil_append]
  rw [b163_113]
/-- behind what is closed: the model -/
theorem m_close {c v : Nat} {r : RR} {h0 : sm_H} (hc : c ∈ KL) (h0c : c ≠ 0) (hv : mKd c = v) (o : mOut h0 h b n N r) : ∃ s h2, xc 157 [.ref 169, .int (nI v)] h = some ([.int (nI s)], h2) ∧ ((s = 1 ∧ mOut h0 h2 b n N (clB (tK b n) c r)) ∨ (s = 0 ∧ ∃ h3, xc 155 [.ref 169, .int (nI 2)] h2 = some ([], h3) ∧ mOut h0 h3 b n N (clB (tK b n) c r))) := by
  rcases r with ⟨e, k'⟩ | ⟨k', cs⟩
  · have hd := o.1.d
    exact ⟨0, h, m_eats_d hd, Or.inr ⟨rfl, h, m_fails_d hd, o⟩⟩
  · show ∃ s h2, _ ∧ ((s = 1 ∧ mOut h0 h2 b n N (if tK b n k' = c then .inr (k' + 1, cs) else .inl (2, k'))) ∨ (s = 0 ∧ ∃ h3, _ ∧ mOut h0 h3 b n N (if tK b n k' = c then .inr (k' + 1, cs) else .inl (2, k'))))
    rcases m_eats o.1 hc h0c hv with ⟨z, h2, e2, R2, E2⟩ | ⟨z, e2⟩
    · refine ⟨1, h2, e2, Or.inl ⟨rfl, ?_⟩⟩
      rw [if_pos z]
      have := mOk_app o.2 (mOk_N E2 o.2.1)
      rw [List.append_nil] at this
      exact ⟨R2, this⟩
    · obtain ⟨h3, e3, B3, E3⟩ := m_fails (e := 2) o.1 (by omega)
      refine ⟨0, h, e2, Or.inr ⟨rfl, h3, e3, ?_⟩⟩
      rw [if_neg z]
      exact ⟨B3, (o.2.2.2.wk sxRo_d).tr (fl_d E3)⟩
theorem m_readAtom {D : Nat} {S : Nat → RR → Prop} (T : TKo (tK b n) (tV b n) nt) (hD : D ≤ 6) (hS : D ≠ 6 → rdM b n nt 165 (D + 1) S) : rdM b n nt 163 D (AtR (tK b n) (tV b n) (6 - D) S) := fun k N h R g hN hk => by
  have r1 := rk163 (D := D) (by omega)
  have r2 := rk165 (D := D + 1) (by omega)
  have hKL : tK b n k ∈ KL := tkK_KL
  have h900 := T.2.2.1
  have g9 : sm_gi h 169 9 = nI (mKd (tK b n k)) := R.2.1.2.2.1
  have k1 : sm_rk 156 [.ref 169, .int (nI 23)] < sm_rk 163 [.ref 169, .int (nI D)] := by rw [r1]; exact (show 1 < _ by omega)
  have k3 : 3 < sm_rk 163 [.ref 169, .int (nI D)] := by rw [r1]; omega
  generalize hdd : sm_rk 163 [.ref 169, .int (nI D)] = d at *
  -- a code and the next token
  have one : ∀ o, tK b n k ≠ 0 → ∃ h2 h3, xc 161 [.ref 169, .int (nI o)] h = some ([], h2) ∧ xc 154 [.ref 169] h2 = some ([], h3) ∧ mOut h h3 b n N (.inr (k + 1, [o])) := fun o z => by
    have hk1 := T.s hk z
    obtain ⟨h2, e2, R2, O2⟩ := m_codes (o := o) R g (by omega)
    obtain ⟨h3, e3, R3, E3⟩ := m_nextR R2 z
    refine ⟨h2, h3, e2, e3, R3, ?_⟩
    have := mOk_app O2 (mOk_N E3 O2.1)
    rw [List.append_nil] at this
    exact this
  rw [en_163, hdd, b163_0 k1, m_is R (c := 2) (v := 23) (by decide) rfl, bnd]
  simp only [app1, List.cons_append, List.nil_append]
  rw [b163_6]
  unfold AtR
  by_cases z1 : tK b n k = 2
  · obtain ⟨h2, h3, e2, e3, o3⟩ := one (tV b n k) (by omega)
    have g10 : sm_gi h 169 10 = nI (tV b n k) := R.2.1.2.2.2 z1
    rw [if_neg (by rw [bI_z]; exact fun y => y z1), b163_9 (show sm_rk 161 [.ref 169, .int (sm_gi h 169 10)] < d from (show 1 < d by omega)), g10, e2, bnd]
    simp only [List.nil_append]
    rw [b163_17 (show 2 < d by omega), e3, bnd]
    simp only [List.nil_append]
    rw [b163_21, b163_113]
    exact ⟨_, h3, by rw [if_pos z1], rfl, o3⟩
  · rw [if_pos (by rw [bI_z]; exact z1), b163_24, R.2.2, if_pos (show nI 0 = 0 from rfl), b163_31 (show 1 < d by omega), g9, m_wordOf hKL, bnd]
    simp only [app1, List.cons_append, List.nil_append]
    rw [b163_39]
    by_cases z2 : 213 ≤ tK b n k ∧ tK b n k ≤ 219
    · obtain ⟨h2, h3, e2, e3, o3⟩ := one (1000 + (tK b n k - 213)) (by omega)
      rw [if_pos z2, if_neg (by rw [nI_m1 (by omega)]; exact id), b163_43 (show 1 < d by omega), g9, m_wordOf hKL, if_pos z2, bnd]
      simp only [app1, List.cons_append, List.nil_append]
      rw [b163_55 (show sm_rk 161 [.ref 169, .int (nI 1000 + nI (tK b n k - 213))] < d from (show 1 < d by omega)), nI_add, e2, bnd]
      simp only [List.nil_append]
      rw [b163_59 (show 2 < d by omega), e3, bnd]
      simp only [List.nil_append]
      rw [b163_63, b163_113]
      exact ⟨_, h3, by rw [if_neg z1, if_pos z2], rfl, o3⟩
    · rw [if_neg z2, if_pos rfl, b163_66 (show 1 < d by omega), m_is R (c := 40) (v := 35) (by decide) rfl, bnd]
      simp only [app1, List.cons_append, List.nil_append]
      rw [b163_72]
      by_cases z3 : tK b n k = 40
      · rw [if_neg (by rw [bI_z]; exact fun y => y z3), b163_75 k3]
        rcases m_goesIn R (by omega) hD with ⟨y, h2, e2, B2, E2⟩ | ⟨y, h2, e2, R2, E2⟩
        · rw [e2, bnd]
          simp only [app1, List.cons_append, List.nil_append]
          rw [b163_80, if_pos (show nI 0 = 0 from rfl), b163_83]
          exact ⟨.inl (4, k), h2, by rw [if_neg z1, if_neg z2, if_pos z3, if_pos (by omega)], rfl, B2, fl_d E2⟩
        · have hk1 := T.s hk (show tK b n k ≠ 0 by omega)
          have g2 : sm_gi h2 173 375 = nI N := (E2.1 173 375 (by unfold sxNx; omega)).trans g
          obtain ⟨r, h3, a3, e3, o3⟩ := hS y (k + 1) N h2 R2 g2 (by omega) hk1
          have o3' := mOut_N E2 g o3
          rw [e2, bnd]
          simp only [app1, List.cons_append, List.nil_append]
          rw [b163_80, if_neg (by decide), b163_84 (by rw [nI_add]; exact Nat.lt_of_le_of_lt (Nat.le_of_eq r2) (by omega)), nI_add, e3, bnd]
          simp only [List.nil_append]
          obtain ⟨s, h4, e4, o4⟩ := m_close (c := 41) (v := 36) (by decide) (by decide) rfl o3'
          rw [b163_91 k3, e4, bnd]
          simp only [app1, List.cons_append, List.nil_append]
          rw [b163_97]
          have hat : ∀ r', r' = clB (tK b n) 41 r → (if tK b n k = 2 then r' = .inr (k + 1, [tV b n k]) else if 213 ≤ tK b n k ∧ tK b n k ≤ 219 then r' = .inr (k + 1, [1000 + (tK b n k - 213)]) else if tK b n k = 40 then (if 6 - D = 0 then r' = .inl (4, k) else ∃ r0, S (k + 1) r0 ∧ r' = clB (tK b n) 41 r0) else r' = .inl (2, k)) := fun r' hr' => by
            rw [if_neg z1, if_neg z2, if_pos z3, if_neg (by omega)]
            exact ⟨r, a3, hr'⟩
          rcases o4 with ⟨rfl, o4⟩ | ⟨rfl, h5, e5, o5⟩
          · rw [if_neg (by decide), b163_113]
            exact ⟨_, h4, hat _ rfl, rfl, o4⟩
          · rw [if_pos (show nI 0 = 0 from rfl), b163_100 (show 1 < d by omega), e5, bnd]
            simp only [List.nil_append]
            rw [b163_105, b163_113]
            exact ⟨_, h5, hat _ rfl, rfl, o5⟩
      · obtain ⟨h2, e2, B2, E2⟩ := m_fails (e := 2) R (by omega)
        rw [if_pos (by rw [bI_z]; exact z3), b163_108 (show 1 < d by omega), e2, bnd]
        simp only [List.nil_append]
        rw [b163_113]
        exact ⟨.inl (2, k), h2, by rw [if_neg z1, if_neg z2, if_neg z3], rfl, B2, fl_d E2⟩
end MRE
