/-! ===== laws are read: the model, units and the whole ===== -/
section MRU
variable {b : Nat → Nat} {n nt k N : Nat} {h : sm_H}
theorem opC_o {c o : Nat} (h : opC c = some o) : (c = 61 ∧ o = 3003) ∨ (c = 60 ∧ o = 3004) ∨ (c = 62 ∧ o = 3005) := by
  unfold opC at h
  split at h
  · cases h; omega
  · split at h
    · cases h; omega
    · split at h <;> cases h; omega
theorem m_unit_sign {l1 : Int32} {d : Nat} (R : mR h b n k) (h3 : 3 < d) : (opC (tK b n k) = none ∧ xe d 166 78 [.ref 169, .int l1, .null] [] h = xe d 166 146 [.ref 169, .int l1, .int (nI 3005)] [] h) ∨ ∃ o, opC (tK b n k) = some o ∧ xe d 166 78 [.ref 169, .int l1, .null] [] h = xe d 166 139 [.ref 169, .int l1, .int (nI o)] [] h := by
  have i1 : 1 < d := by omega
  rw [b166_78 i1, m_is R (c := 61) (v := 39) (by decide) rfl, bnd]
  simp only [app1, List.cons_append, List.nil_append]
  rw [b166_84]
  by_cases z : tK b n k = 61
  · rw [if_neg (by rw [bI_z]; exact fun y => y z), b166_87, b166_111 i1, m_is R (c := 61) (v := 39) (by decide) rfl, bnd]
    simp only [app1, List.cons_append, List.nil_append]
    rw [b166_118, if_neg (by rw [bI_z]; exact fun y => y z)]
    exact Or.inr ⟨3003, by unfold opC; rw [if_pos z], rfl⟩
  · rw [if_pos (by rw [bI_z]; exact z), b166_93 i1, m_is R (c := 60) (v := 40) (by decide) rfl, bnd]
    simp only [app1, List.cons_append, List.nil_append]
    rw [b166_99]
    by_cases y : tK b n k = 60
    · rw [if_neg (by rw [bI_z]; exact fun x => x y), b166_102, b166_111 i1, m_is R (c := 61) (v := 39) (by decide) rfl, bnd]
      simp only [app1, List.cons_append, List.nil_append]
      rw [b166_118, if_pos (by rw [bI_z]; exact z), b166_121 i1, m_is R (c := 60) (v := 40) (by decide) rfl, bnd]
      simp only [app1, List.cons_append, List.nil_append]
      rw [b166_127, if_neg (by rw [bI_z]; exact fun x => x y)]
      exact Or.inr ⟨3004, by unfold opC; rw [if_neg z, if_pos y], rfl⟩
    · rw [if_pos (by rw [bI_z]; exact y), b166_108, b166_111 i1, m_is R (c := 61) (v := 39) (by decide) rfl, bnd]
      simp only [app1, List.cons_append, List.nil_append]
      rw [b166_118, if_pos (by rw [bI_z]; exact z), b166_121 i1, m_is R (c := 60) (v := 40) (by decide) rfl, bnd]
      simp only [app1, List.cons_append, List.nil_append]
      rw [b166_127, if_pos (by rw [bI_z]; exact y), b166_130 i1, m_is R (c := 62) (v := 41) (by decide) rfl, bnd]
      simp only [app1, List.cons_append, List.nil_append]
      rw [b166_136]
      by_cases x : tK b n k = 62
      · rw [if_neg (by rw [bI_z]; exact fun w => w x)]
        exact Or.inr ⟨3005, by unfold opC; rw [if_neg z, if_neg y, if_pos x], rfl⟩
      · rw [if_pos (by rw [bI_z]; exact x)]
        exact Or.inl ⟨by unfold opC; rw [if_neg z, if_neg y, if_neg x], rfl⟩
/-- behind a fault nothing more is done in a unit -/
theorem m_unit_dead {D d : Nat} (hS : ddM 165 D) (hr : sm_rk 165 [.ref 169, .int (nI D)] < d) (h3 : 3 < d) (hd : sm_gi h 169 11 ≠ 0) : xe d 166 78 [.ref 169, .int (nI D), .null] [] h = some ([], h) ∧ ∀ l2 : Int32, xe d 166 151 [.ref 169, .int (nI D), .int l2] [] h = some ([], h) := by
  have i1 : 1 < d := by omega
  have a : ∀ l2 : Int32, xe d 166 151 [.ref 169, .int (nI D), .int l2] [] h = some ([], h) := fun l2 => by
    rw [b166_151 hr, hS h hd, bnd]
    simp only [List.nil_append]
    rw [b166_156 i1, m_codes_d hd, bnd]
    simp only [List.nil_append]
    rw [b166_161]
  refine ⟨?_, a⟩
  rw [b166_78 i1, m_is_d hd, bnd]
  simp only [app1, List.cons_append, List.nil_append]
  rw [b166_84, if_pos (show nI 0 = 0 from rfl), b166_93 i1, m_is_d hd, bnd]
  simp only [app1, List.cons_append, List.nil_append]
  rw [b166_99, if_pos (show nI 0 = 0 from rfl), b166_108, b166_111 i1, m_is_d hd, bnd]
  simp only [app1, List.cons_append, List.nil_append]
  rw [b166_118, if_pos (show nI 0 = 0 from rfl), b166_121 i1, m_is_d hd, bnd]
  simp only [app1, List.cons_append, List.nil_append]
  rw [b166_127, if_pos (show nI 0 = 0 from rfl), b166_130 i1, m_is_d hd, bnd]
  simp only [app1, List.cons_append, List.nil_append]
  rw [b166_136, if_pos (show nI 0 = 0 from rfl), b166_146 i1, m_fails_d hd, bnd]
  simp only [List.nil_append]
  exact a _
theorem m_readUnit_d {D : Nat} (hD : D < 2 ^ 31) (hS : ddM 165 D) : ddM 166 D := fun h hd => by
  have r1 := rk166 hD
  have r2 := rk165 hD
  have hr : sm_rk 165 [.ref 169, .int (nI D)] < sm_rk 166 [.ref 169, .int (nI D)] := by rw [r1]; exact Nat.lt_of_le_of_lt (Nat.le_of_eq r2) (by omega)
  have h3 : 3 < sm_rk 166 [.ref 169, .int (nI D)] := by rw [r1]; omega
  rw [en_166, b166_0 (Nat.lt_of_le_of_lt (show 1 ≤ 3 by decide) h3), m_is_d hd, bnd]
  simp only [app1, List.cons_append, List.nil_append]
  rw [b166_6, if_pos (show nI 0 = 0 from rfl), b166_33 (Nat.lt_of_le_of_lt (show 1 ≤ 3 by decide) h3), m_is_d hd, bnd]
  simp only [app1, List.cons_append, List.nil_append]
  rw [b166_39, if_pos (show nI 0 = 0 from rfl), b166_73 hr, hS h hd, bnd]
  simp only [List.nil_append]
  exact (m_unit_dead hS hr h3 hd).1
theorem m_readUnit {D : Nat} {S U Tr : Nat → RR → Prop} (T : TKo (tK b n) (tV b n) nt) (hD : D ≤ 6) (hS : rdM b n nt 165 D S) (hSd : ddM 165 D) (hgS : grw nt S) (hU : D ≠ 6 → rdM b n nt 166 (D + 1) U) (hgU : grw nt U) (hT : D ≠ 6 → rdM b n nt 168 (D + 1) Tr) : rdM b n nt 166 D (UnR (tK b n) (6 - D) S U Tr) := fun k N h R g hN hk => by
  have r1 := rk166 (D := D) (by omega)
  have r2 := rk165 (D := D) (by omega)
  have r3 := rk166 (D := D + 1) (by omega)
  have r4 := rk168 (D := D + 1) (by omega)
  have h900 := T.2.2.1
  have hr : sm_rk 165 [.ref 169, .int (nI D)] < sm_rk 166 [.ref 169, .int (nI D)] := by rw [r1]; exact Nat.lt_of_le_of_lt (Nat.le_of_eq r2) (by omega)
  have k3 : 3 < sm_rk 166 [.ref 169, .int (nI D)] := by rw [r1]; omega
  generalize hdd : sm_rk 166 [.ref 169, .int (nI D)] = d at *
  have k1 : 1 < d := by omega
  rw [en_166, hdd, b166_0 k1, m_is R (c := 212) (v := 19) (by decide) rfl, bnd]
  simp only [app1, List.cons_append, List.nil_append]
  rw [b166_6]
  unfold UnR
  by_cases z1 : tK b n k = 212
  · have hk1 := T.s hk (show tK b n k ≠ 0 by omega)
    rw [if_neg (by rw [bI_z]; exact fun y => y z1), b166_9 k3]
    rcases m_goesIn R (by omega) hD with ⟨y, h2, e2, B2, E2⟩ | ⟨y, h2, e2, R2, E2⟩
    · rw [e2, bnd]
      simp only [app1, List.cons_append, List.nil_append]
      rw [b166_14, if_pos (show nI 0 = 0 from rfl), b166_17]
      exact ⟨.inl (4, k), h2, by rw [if_pos z1, if_pos (by omega)], rfl, B2, fl_d E2⟩
    · have g2 : sm_gi h2 173 375 = nI N := (E2.1 173 375 (by unfold sxNx; omega)).trans g
      obtain ⟨r, h3, a3, e3, o3⟩ := hU y (k + 1) N h2 R2 g2 (by omega) hk1
      rw [e2, bnd]
      simp only [app1, List.cons_append, List.nil_append]
      rw [b166_14, if_neg (by decide), b166_18 (by rw [nI_add]; exact Nat.lt_of_le_of_lt (Nat.le_of_eq r3) (by omega)), nI_add, e3, bnd]
      simp only [List.nil_append]
      rcases r with ⟨e, k'⟩ | ⟨k', c⟩
      · rw [b166_25 k1, m_codes_d o3.1.d, bnd]
        simp only [List.nil_append]
        rw [b166_32]
        exact ⟨.inl (e, k'), h3, by rw [if_pos z1, if_neg (by omega)]; exact ⟨_, a3, rfl⟩, rfl, mOut_N E2 g o3⟩
      · have hgr := hgU.1 _ _ _ a3
        have hk' := hgr.2.2 hk1
        obtain ⟨h4, e4, R4, O4⟩ := m_codes (o := 3006) o3.1 o3.2.1 (by omega)
        rw [b166_25 k1, e4, bnd]
        simp only [List.nil_append]
        rw [b166_32]
        exact ⟨.inr (k', c ++ [3006]), h4, by rw [if_pos z1, if_neg (by omega)]; exact ⟨_, a3, rfl⟩, rfl, mOut_N E2 g (r := .inr (k', c ++ [3006])) ⟨R4, mOk_app o3.2 O4⟩⟩
  · rw [if_pos (by rw [bI_z]; exact z1), b166_33 k1, m_is R (c := 91) (v := 37) (by decide) rfl, bnd]
    simp only [app1, List.cons_append, List.nil_append]
    rw [b166_39]
    by_cases z2 : tK b n k = 91
    · have hk1 := T.s hk (show tK b n k ≠ 0 by omega)
      rw [if_neg (by rw [bI_z]; exact fun y => y z2), b166_42 k3]
      rcases m_goesIn R (by omega) hD with ⟨y, h2, e2, B2, E2⟩ | ⟨y, h2, e2, R2, E2⟩
      · rw [e2, bnd]
        simp only [app1, List.cons_append, List.nil_append]
        rw [b166_47, if_pos (show nI 0 = 0 from rfl), b166_50]
        exact ⟨.inl (4, k), h2, by rw [if_neg z1, if_pos z2, if_pos (by omega)], rfl, B2, fl_d E2⟩
      · have g2 : sm_gi h2 173 375 = nI N := (E2.1 173 375 (by unfold sxNx; omega)).trans g
        obtain ⟨r, h3, a3, e3, o3⟩ := hT y (k + 1) N h2 R2 g2 (by omega) hk1
        have o3' := mOut_N E2 g o3
        rw [e2, bnd]
        simp only [app1, List.cons_append, List.nil_append]
        rw [b166_47, if_neg (by decide), b166_51 (by rw [nI_add]; exact Nat.lt_of_le_of_lt (Nat.le_of_eq r4) (by omega)), nI_add, e3, bnd]
        simp only [List.nil_append]
        obtain ⟨s, h4, e4, o4⟩ := m_close (c := 93) (v := 38) (by decide) (by decide) rfl o3'
        rw [b166_58 k3, e4, bnd]
        simp only [app1, List.cons_append, List.nil_append]
        rw [b166_64]
        rcases o4 with ⟨rfl, o4⟩ | ⟨rfl, h5, e5, o5⟩
        · rw [if_neg (by decide), b166_72]
          exact ⟨_, h4, by rw [if_neg z1, if_pos z2, if_neg (by omega)]; exact ⟨r, a3, rfl⟩, rfl, o4⟩
        · rw [if_pos (show nI 0 = 0 from rfl), b166_67 k1, e5, bnd]
          simp only [List.nil_append]
          rw [b166_72]
          exact ⟨_, h5, by rw [if_neg z1, if_pos z2, if_neg (by omega)]; exact ⟨r, a3, rfl⟩, rfl, o5⟩
    · obtain ⟨r, h2, a2, e2, o2⟩ := hS k N h R g hN hk
      rw [if_pos (by rw [bI_z]; exact z2), b166_73 hr, e2, bnd]
      simp only [List.nil_append]
      have hun : ∀ r', cmR (tK b n) S k r' → (if tK b n k = 212 then (if 6 - D = 0 then r' = .inl (4, k) else ∃ r0, U (k + 1) r0 ∧ r' = rpost [3006] r0) else if tK b n k = 91 then (if 6 - D = 0 then r' = .inl (4, k) else ∃ r0, Tr (k + 1) r0 ∧ r' = clB (tK b n) 93 r0) else cmR (tK b n) S k r') := fun r' hr' => by
        rw [if_neg z1, if_neg z2]; exact hr'
      rcases r with ⟨e, k'⟩ | ⟨k', c⟩
      · rw [(m_unit_dead hSd hr k3 o2.1.d).1]
        exact ⟨.inl (e, k'), h2, hun _ ⟨_, a2, rfl⟩, rfl, o2⟩
      · have hgr := hgS.1 _ _ _ a2
        have hk' := hgr.2.2 hk
        rcases m_unit_sign (l1 := nI D) o2.1 k3 with ⟨w, e3⟩ | ⟨o, w, e3⟩
        · obtain ⟨h4, e4, B4, E4⟩ := m_fails (e := 2) o2.1 (by omega)
          rw [e3, b166_146 k1, e4, bnd]
          simp only [List.nil_append]
          rw [(m_unit_dead hSd hr k3 B4.d).2]
          exact ⟨.inl (2, k'), h4, hun _ ⟨_, a2, by dsimp only; rw [w]⟩, rfl, B4, (o2.2.2.2.wk sxRo_d).tr (fl_d E4)⟩
        · have ho := opC_o w
          obtain ⟨h4, e4, R4, E4⟩ := m_nextR o2.1 (by omega)
          have hk2 := T.s hk' (show tK b n k' ≠ 0 by omega)
          have g4 : sm_gi h4 173 375 = nI (N + c.length) := (E4.1 173 375 (by unfold sxNx; omega)).trans o2.2.1
          obtain ⟨r5, h5, a5, e5, o5⟩ := hS (k' + 1) (N + c.length) h4 R4 g4 (by omega) hk2
          have o5' := mOut_app o2.2 (mOut_N E4 o2.2.1 o5)
          rw [e3, b166_139 (show 2 < d by omega), e4, bnd]
          simp only [List.nil_append]
          rw [b166_143, b166_151 hr, e5, bnd]
          simp only [List.nil_append]
          have hcm : cmR (tK b n) S k (rpost [o] (rpre c r5)) := ⟨_, a2, by dsimp only; rw [w]; exact ⟨r5, a5, rfl⟩⟩
          rcases r5 with ⟨e, k2⟩ | ⟨k2, c2⟩
          · rw [b166_156 k1, m_codes_d o5.1.d, bnd]
            simp only [List.nil_append]
            rw [b166_161]
            exact ⟨_, h5, hun _ hcm, rfl, o5'⟩
          · have hgr2 := hgS.1 _ _ _ a5
            have hk3 := hgr2.2.2 hk2
            obtain ⟨h6, e6, R6, O6⟩ := m_codes (o := o) o5'.1 o5'.2.1 (by rw [List.length_append]; omega)
            rw [b166_156 k1, e6, bnd]
            simp only [List.nil_append]
            rw [b166_161]
            exact ⟨_, h6, hun _ hcm, rfl, R6, mOk_app o5'.2 O6⟩
theorem mSum_d (D : Nat) (hD : D < 2 ^ 31) : ddM 165 D := m_readSum_d hD (m_readTerm_d hD (m_readAtom_d hD))
theorem mSums (T : TKo (tK b n) (tV b n) nt) : ∀ d, d ≤ 6 → rdM b n nt 165 (6 - d) (SmR (tK b n) (tV b n) d)
  | 0, _ => m_readSum T (by decide) (m_readTerm T (by decide) (m_readAtom (D := 6) (S := fun _ _ => False) T (by decide) (fun z => absurd rfl z)) (m_readAtom_d (by decide)) (AtR_grw T no_grw)) (Ls_grw T (AtR_grw T no_grw) rfl)
  | d + 1, hd => by
    have ih := mSums T d (by omega)
    have hA := m_readAtom (D := 6 - (d + 1)) (S := SmR (tK b n) (tV b n) d) T (by omega) (fun _ => by rw [show 6 - (d + 1) + 1 = 6 - d by omega]; exact ih)
    rw [show 6 - (6 - (d + 1)) = d + 1 by omega] at hA
    have hg := AtR_grw (d := d + 1) T (AtD_grw T d).1
    exact m_readSum T (by omega) (m_readTerm T (by omega) hA (m_readAtom_d (by omega)) hg) (Ls_grw T hg rfl)
theorem mUnits (T : TKo (tK b n) (tV b n) nt) : ∀ d, d ≤ 6 → rdM b n nt 166 (6 - d) (UnD (tK b n) (tV b n) d)
  | 0, _ => m_readUnit (D := 6) (U := fun _ _ => False) (Tr := fun _ _ => False) T (by decide) (mSums T 0 (by omega)) (mSum_d 6 (by decide)) (AtD_grw T 0).1 (fun z => absurd rfl z) no_grw (fun z => absurd rfl z)
  | d + 1, hd => by
    have ih := mUnits T d (by omega)
    have hgu := UnD_grw T d
    have hdd : ddM 166 (6 - d) := m_readUnit_d (by omega) (mSum_d _ (by omega))
    have hB := m_readBoth T (by omega) ih hdd hgu
    have hTr := m_readTruth T (by omega) hB (m_readBoth_d (by omega) hdd) (Ls_grw T hgu rfl)
    have := m_readUnit (D := 6 - (d + 1)) (U := UnD (tK b n) (tV b n) d) (Tr := TrD (tK b n) (tV b n) d) T (by omega) (mSums T (d + 1) hd) (mSum_d _ (by omega)) (AtD_grw T (d + 1)).1 (fun _ => by rw [show 6 - (d + 1) + 1 = 6 - d by omega]; exact ih) hgu (fun _ => by rw [show 6 - (d + 1) + 1 = 6 - d by omega]; exact hTr)
    rw [show 6 - (6 - (d + 1)) = d + 1 by omega] at this
    exact this
theorem mTruth (T : TKo (tK b n) (tV b n) nt) : rdM b n nt 168 0 (TrD (tK b n) (tV b n) 6) := by
  have ih := mUnits T 6 (by omega)
  have hgu := UnD_grw T 6
  have hdd : ddM 166 (6 - 6) := m_readUnit_d (by decide) (mSum_d _ (by decide))
  exact m_readTruth T (by decide) (m_readBoth T (by decide) ih hdd hgu) (m_readBoth_d (by decide) hdd) (Ls_grw T hgu rfl)
theorem mSum0 (T : TKo (tK b n) (tV b n) nt) : rdM b n nt 165 0 (SmR (tK b n) (tV b n) 6) := mSums T 6 (by omega)
end MRU
