/-! ===== every call of the law keeps the joint invariant, and both sides answer the same ===== -/
section JS
variable {n : Nat} {h : sm_H}
def J2 (n yc ym : Nat) (as : List Value) (h : sm_H) : Prop := ∃ (v : Int32) (h1 h2 : sm_H), xc yc (.ref 0 :: as) h = some ([.int v], h1) ∧ xc ym (.ref 169 :: as) h1 = some ([.int v], h2) ∧ JI (n + 1) h2
def J3 (n yc ym : Nat) (as : List Value) (h : sm_H) : Prop := ∃ (v : Int64) (h1 h2 : sm_H), xc yc (.ref 0 :: as) h = some ([.long v], h1) ∧ xc ym (.ref 169 :: as) h1 = some ([.long v], h2) ∧ JI (n + 1) h2
theorem JC_same {G : LG} {W : WG} {L : List WG} {B B' : Nat} {T : TG} {M : IG} {n0 : Nat} {t : Nat → Int32} {ln f1 f2 : Int32} {h : sm_H} {v : Int32} (J : JC h G W L B B' T M n0 t ln f1 f2) : JC (sm_si h 169 0 v) G W L B B' T M n0 t ln f1 f2 := JC_far J (S := sxLz) (Lz_th eqx.rf) (fun c i z => by unfold sxLz at z; omega)
theorem JM_same {G : LG} {W : WG} {L : List WG} {B : Nat} {T : TG} {M : IG} {n0 : Nat} {t : Nat → Int32} {ln f1 f2 : Int32} {h : sm_H} {v : Int32} (J : JM h G W L B T M n0 t ln f1 f2) : JM (sm_si h 169 0 v) G W L B T M n0 t ln f1 f2 := JM_Lz J (Lz_th eqx.rf)
theorem j_feed (hn : n ≤ 512) (J : JI n h) (a : Int32) (b : Int32) (c : Int32) (d : Int32) (e : Int32) : J2 n 101 149 [.int a, .int b, .int c, .int d, .int e] h := by
  obtain ⟨G, W, L, B, B', T, M, n0, t, ln, f1, f2, JH, CH, hB, hC⟩ := J
  obtain ⟨h1, e1, P1, X1⟩ := c_feed (a := a) (b := b) (c := c) (d := d) (e := e) CH.2.2.2.2.1
  have JM1 := JM_far JH X1 (fun c i z => by unfold sxFc at z; omega)
  have JC1 := JC_Fc CH X1 P1
  obtain ⟨h2, e2, P2, X2⟩ := m_feed (a := a) (b := b) (c := c) (d := d) (e := e) JM1.2.2.2.2.1
  exact ⟨_, h1, h2, e1, e2, _, _, _, _, _, _, _, _, _, _, _, _, JM_Fm JM1 X2 P2, JC_far JC1 X2 (fun c i z => by unfold sxFm at z; omega), by omega, by omega⟩
theorem j_land (hn : n ≤ 512) (J : JI n h) (a : Int32) : J2 n 103 176 [.int a] h := by
  obtain ⟨G, W, L, B, B', T, M, n0, t, ln, f1, f2, JH, CH, hB, hC⟩ := J
  rcases c_land (x := a) CH.1 CH.2.2.2.2.1 JH.2.2.2.2.1.2.2.1 with ⟨z, e1⟩ | ⟨m, hm, hx, r, h1, R1, e1, K1, k0, k7, k8, q, X1⟩
  · rcases m_land (x := a) JH.1 JH.2.2.2.2.1 with ⟨z', e2⟩ | ⟨m', hm', hx', _⟩
    · exact ⟨_, h, _, e1, e2, G, W, L, B, B', T, M, n0, t, ln, f1, f2, JM_same JH, JC_same CH, by omega, by omega⟩
    · exact absurd (by rw [hx']; exact isN_i (by omega) (by have := JH.2.2.2.2.1.2.1; omega)) z
  · have JM1 : JM h1 G W L B T M n0 t ln f1 f2 := JM_far (h := sm_sw h q) JH X1 (fun c i z => by unfold sxLc at z; omega)
    have hn9 : n0 ≤ 900 := JH.2.2.2.2.1.2.1
    rcases m_land (x := a) JM1.1 JM1.2.2.2.2.1 with ⟨z', _⟩ | ⟨m', hm', hx', r', h2, R2, e2, K2, k5, X2⟩
    · exact absurd (by rw [hx]; exact isN_i (by omega) (by omega)) z'
    · have em : m' = m := by
        have e := hx'.symm.trans hx
        exact (nI_eq (by omega) (by omega)).mp e
      subst em
      have er : r' = r := ldR_fnl R2 R1
      subst er
      have P1 : cTp h1 0 t := ⟨k0, by omega, fun j hj => absurd hj (by omega)⟩
      have P2 : mTp h2 0 t := ⟨k5, by omega, fun j hj => absurd hj (by omega), fun j hj => absurd hj (by omega)⟩
      refine ⟨_, h1, h2, e1, e2, ?_⟩
      rcases r' with ⟨e, k⟩ | ⟨k, D⟩
      · obtain ⟨g1, g2, g3⟩ := K2
        obtain ⟨c1, c2⟩ := K1
        have S2 : mS h2 G W L B := mS_row JM1.1 (fun k _ => g1 k) (X2.1 169 15 (by unfold sxLm; omega))
        exact ⟨G, W, L, B, B', T, M, 0, t, ln, _, _, JM_Lm JM1 X2 S2 (Nat.le_refl _) P2 ((g1 0).trans JM1.2.2.2.2.2.1) g2 g3, JC_far (JC_Lc (h := sm_sw h q) CH X1 c1 (Nat.le_refl _) P1 (c2.trans CH.2.2.2.2.2.1) k7 k8) X2 (fun c i z => by unfold sxLm at z; omega), by omega, by omega⟩
      · obtain ⟨_, g1, g2, g3, g4⟩ := K2
        obtain ⟨_, c1, c2⟩ := K1
        exact ⟨dG D, dW D, [], B, B', T, M, 0, t, _, _, _, JM_Lm JM1 X2 g1 (Nat.le_refl _) P2 g2 g3 g4, JC_far (JC_Lc (h := sm_sw h q) CH X1 c1 (Nat.le_refl _) P1 c2 k7 k8) X2 (fun c i z => by unfold sxLm at z; omega), by omega, by omega⟩
theorem j_fault (hn : n ≤ 512) (J : JI n h) (a : Int32) : J2 n 104 177 [.int a] h := by
  obtain ⟨G, W, L, B, B', T, M, n0, t, ln, f1, f2, JH, CH, hB, hC⟩ := J
  have e1 := c_fault (h := h) (x := a)
  have JM1 := JH
  have JC1 := CH
  have e2 := m_fault (h := h) (w := a)
  rw [JH.2.2.2.2.2.2.1, JH.2.2.2.2.2.2.2] at e2
  rw [CH.2.2.2.2.2.2.1, CH.2.2.2.2.2.2.2] at e1
  exact ⟨_, h, _, e1, e2, G, W, L, B, B', T, M, n0, t, ln, f1, f2, JM_same JM1, JC_same JC1, by omega, by omega⟩
theorem j_person (hn : n ≤ 512) (J : JI n h) (a : Int32) (b : Int32) : J2 n 105 193 [.int a, .int b] h := by
  obtain ⟨G, W, L, B, B', T, M, n0, t, ln, f1, f2, JH, CH, hB, hC⟩ := J
  have e1 := c_person (p := a) (w := b) CH.1
  have JM1 := JH
  have JC1 := CH
  obtain ⟨h2, e2, S2, X2⟩ := m_person (p := a) (w := b) JM1.1
  exact ⟨_, h, h2, e1, e2, _, _, _, _, _, _, _, _, _, _, _, _, JM_M JM1 X2 S2 (by omega), JC_far JC1 X2 (fun c i z => by unfold sxM at z; omega), by omega, by omega⟩
theorem j_road (hn : n ≤ 512) (J : JI n h) (a : Int32) (b : Int32) : J2 n 106 194 [.int a, .int b] h := by
  obtain ⟨G, W, L, B, B', T, M, n0, t, ln, f1, f2, JH, CH, hB, hC⟩ := J
  have e1 := c_road (r := a) (w := b) CH.1
  have JM1 := JH
  have JC1 := CH
  obtain ⟨h2, e2, S2, X2⟩ := m_road (r := a) (w := b) JM1.1
  exact ⟨_, h, h2, e1, e2, _, _, _, _, _, _, _, _, _, _, _, _, JM_M JM1 X2 S2 (by omega), JC_far JC1 X2 (fun c i z => by unfold sxM at z; omega), by omega, by omega⟩
theorem j_why (hn : n ≤ 512) (J : JI n h) (a : Int32) (b : Int32) : J2 n 107 195 [.int a, .int b] h := by
  obtain ⟨G, W, L, B, B', T, M, n0, t, ln, f1, f2, JH, CH, hB, hC⟩ := J
  obtain ⟨h1, e1, S1, X1⟩ := c_why (p := a) (r := b) CH.1
  have JM1 := JM_far JH X1 (fun c i z => by unfold sxQ at z; omega)
  have JC1 := JC_Q CH X1 S1 (by omega)
  obtain ⟨h2, e2, S2, X2⟩ := m_why (p := a) (r := b) JM1.1
  exact ⟨_, h1, h2, e1, e2, _, _, _, _, _, _, _, _, _, _, _, _, JM_M JM1 X2 S2 (by omega), JC_far JC1 X2 (fun c i z => by unfold sxM at z; omega), by omega, by omega⟩
theorem j_takes (hn : n ≤ 512) (J : JI n h) (a : Int32) (b : Int32) : J2 n 108 196 [.int a, .int b] h := by
  obtain ⟨G, W, L, B, B', T, M, n0, t, ln, f1, f2, JH, CH, hB, hC⟩ := J
  obtain ⟨h1, e1, S1, X1⟩ := c_takes (p := a) (r := b) CH.1
  have JM1 := JM_far JH X1 (fun c i z => by unfold sxQ at z; omega)
  have JC1 := JC_Q CH X1 S1 (by omega)
  obtain ⟨h2, e2, S2, X2⟩ := m_takes (p := a) (r := b) JM1.1
  exact ⟨_, h1, h2, e1, e2, _, _, _, _, _, _, _, _, _, _, _, _, JM_M JM1 X2 S2 (by omega), JC_far JC1 X2 (fun c i z => by unfold sxM at z; omega), by omega, by omega⟩
theorem j_go (hn : n ≤ 512) (J : JI n h) (a : Int32) (b : Int32) : J2 n 109 206 [.int a, .int b] h := by
  obtain ⟨G, W, L, B, B', T, M, n0, t, ln, f1, f2, JH, CH, hB, hC⟩ := J
  obtain ⟨h1, e1, S1, X1⟩ := c_go (p := a) (r := b) CH.1
  have JM1 := JM_far JH X1 (fun c i z => by unfold sxQ at z; omega)
  have JC1 := JC_Q CH X1 S1 (by omega)
  obtain ⟨h2, e2, S2, X2⟩ := m_go (p := a) (r := b) JM1.1
  exact ⟨_, h1, h2, e1, e2, _, _, _, _, _, _, _, _, _, _, _, _, JM_M JM1 X2 S2 (by omega), JC_far JC1 X2 (fun c i z => by unfold sxM at z; omega), by omega, by omega⟩
theorem j_give (hn : n ≤ 512) (J : JI n h) (a : Int32) (b : Int32) (c : Int32) : J2 n 110 207 [.int a, .int b, .int c] h := by
  obtain ⟨G, W, L, B, B', T, M, n0, t, ln, f1, f2, JH, CH, hB, hC⟩ := J
  obtain ⟨h1, e1, S1, X1⟩ := c_give (p := a) (q := b) (n := c) CH.1
  have JM1 := JM_far JH X1 (fun c i z => by unfold sxQ at z; omega)
  have JC1 := JC_Q CH X1 S1 (by omega)
  obtain ⟨h2, e2, S2, X2⟩ := m_give (p := a) (q := b) (n := c) JM1.1
  exact ⟨_, h1, h2, e1, e2, _, _, _, _, _, _, _, _, _, _, _, _, JM_M JM1 X2 S2 (by omega), JC_far JC1 X2 (fun c i z => by unfold sxM at z; omega), by omega, by omega⟩
theorem j_forge (hn : n ≤ 512) (J : JI n h) (a : Int32) : J2 n 111 208 [.int a] h := by
  obtain ⟨G, W, L, B, B', T, M, n0, t, ln, f1, f2, JH, CH, hB, hC⟩ := J
  obtain ⟨h1, e1, S1, X1⟩ := c_forge (p := a) CH.1
  have JM1 := JM_far JH X1 (fun c i z => by unfold sxQ at z; omega)
  have JC1 := JC_Q CH X1 S1 (by omega)
  obtain ⟨h2, e2, S2, X2⟩ := m_forge (p := a) JM1.1
  exact ⟨_, h1, h2, e1, e2, _, _, _, _, _, _, _, _, _, _, _, _, JM_M JM1 X2 S2 (by omega), JC_far JC1 X2 (fun c i z => by unfold sxM at z; omega), by omega, by omega⟩
theorem j_shut (hn : n ≤ 512) (J : JI n h) (a : Int32) : J2 n 112 209 [.int a] h := by
  obtain ⟨G, W, L, B, B', T, M, n0, t, ln, f1, f2, JH, CH, hB, hC⟩ := J
  obtain ⟨h1, e1, S1, X1⟩ := c_shut (r := a) CH.1
  have JM1 := JM_far JH X1 (fun c i z => by unfold sxQ at z; omega)
  have JC1 := JC_Q CH X1 S1 (by omega)
  obtain ⟨h2, e2, S2, X2⟩ := m_shut (r := a) JM1.1
  exact ⟨_, h1, h2, e1, e2, _, _, _, _, _, _, _, _, _, _, _, _, JM_M JM1 X2 S2 (by omega), JC_far JC1 X2 (fun c i z => by unfold sxM at z; omega), by omega, by omega⟩
theorem j_days (hn : n ≤ 512) (J : JI n h) (a : Int32) : J2 n 113 210 [.int a] h := by
  obtain ⟨G, W, L, B, B', T, M, n0, t, ln, f1, f2, JH, CH, hB, hC⟩ := J
  obtain ⟨h1, e1, S1, X1⟩ := c_days (n := a) CH.1
  have JM1 := JM_far JH X1 (fun c i z => by unfold sxQ at z; omega)
  have JC1 := JC_Q CH X1 S1 (by omega)
  obtain ⟨h2, e2, S2, X2⟩ := m_days (n := a) JM1.1
  exact ⟨_, h1, h2, e1, e2, _, _, _, _, _, _, _, _, _, _, _, _, JM_M JM1 X2 S2 (by omega), JC_far JC1 X2 (fun c i z => by unfold sxM at z; omega), by omega, by omega⟩
theorem j_undo (hn : n ≤ 512) (J : JI n h) (a : Int32) : J2 n 114 211 [.int a] h := by
  obtain ⟨G, W, L, B, B', T, M, n0, t, ln, f1, f2, JH, CH, hB, hC⟩ := J
  obtain ⟨h1, e1, S1, X1⟩ := c_undo (n := a) CH.1
  have JM1 := JM_far JH X1 (fun c i z => by unfold sxQ at z; omega)
  have JC1 := JC_Q CH X1 S1 (by omega)
  obtain ⟨h2, e2, S2, X2⟩ := m_undo (n := a) JM1.1
  exact ⟨_, h1, h2, e1, e2, _, _, _, _, _, _, _, _, _, _, _, _, JM_M JM1 X2 S2 (by omega), JC_far JC1 X2 (fun c i z => by unfold sxM at z; omega), by omega, by omega⟩
theorem j_judge (hn : n ≤ 512) (J : JI n h) (a : Int32) (b : Int32) : J2 n 115 217 [.int a, .int b] h := by
  obtain ⟨G, W, L, B, B', T, M, n0, t, ln, f1, f2, JH, CH, hB, hC⟩ := J
  obtain ⟨h1, e1, S1, X1⟩ := c_judge (t := a) (w := b) CH.1 CH.2.2.1
  have JM1 := JM_far JH X1 (fun c i z => by unfold sxQ at z; omega)
  have JC1 := JC_Q CH X1 S1 (by omega)
  obtain ⟨h2, e2, S2, T2, X2⟩ := m_judge (t := a) (w := b) JM1.1 JM1.2.2.1
  exact ⟨_, h1, h2, e1, e2, _, _, _, _, _, _, _, _, _, _, _, _, JM_M JM1 X2 S2 (by omega), JC_far JC1 X2 (fun c i z => by unfold sxM at z; omega), by omega, by omega⟩
theorem j_perform (hn : n ≤ 512) (J : JI n h) (a : Int32) : J2 n 116 218 [.int a] h := by
  obtain ⟨G, W, L, B, B', T, M, n0, t, ln, f1, f2, JH, CH, hB, hC⟩ := J
  obtain ⟨h1, e1, S1, X1⟩ := c_perform (t := a) CH.1 CH.2.2.1
  have JM1 := JM_far JH X1 (fun c i z => by unfold sxQ at z; omega)
  have JC1 := JC_Q CH X1 S1 (by omega)
  obtain ⟨h2, e2, S2, T2, X2⟩ := m_perform (t := a) JM1.1 JM1.2.2.1
  exact ⟨_, h1, h2, e1, e2, _, _, _, _, _, _, _, _, _, _, _, _, JM_M JM1 X2 S2 (by omega), JC_far JC1 X2 (fun c i z => by unfold sxM at z; omega), by omega, by omega⟩
theorem j_year (hn : n ≤ 512) (J : JI n h) (a : Int32) (b : Int32) : J2 n 117 221 [.int a, .int b] h := by
  obtain ⟨G, W, L, B, B', T, M, n0, t, ln, f1, f2, JH, CH, hB, hC⟩ := J
  obtain ⟨h1, e1, S1, X1⟩ := c_year (sd := a) (n := b) CH.1
  have JM1 := JM_far JH X1 (fun c i z => by unfold sxQ at z; omega)
  have JC1 := JC_Q CH X1 S1 (by omega)
  obtain ⟨h2, e2, S2, X2⟩ := m_year (sd := a) (n := b) JM1.1
  exact ⟨_, h1, h2, e1, e2, _, _, _, _, _, _, _, _, _, _, _, _, JM_M JM1 X2 S2 (by omega), JC_far JC1 X2 (fun c i z => by unfold sxM at z; omega), by omega, by omega⟩
theorem j_soonest (hn : n ≤ 512) (J : JI n h) (a : Int32) (b : Int32) : J2 n 118 237 [.int a, .int b] h := by
  obtain ⟨G, W, L, B, B', T, M, n0, t, ln, f1, f2, JH, CH, hB, hC⟩ := J
  obtain ⟨h1, e1, S1, I1, X1⟩ := c_soonest (p := a) (q := b) CH.1 CH.2.1 (by omega)
  have JM1 := JM_far JH X1 (fun c i z => by unfold sxW at z; omega)
  have JC1 := JC_W CH X1 S1 (by omega) I1
  obtain ⟨h2, e2, S2, Y2, X2⟩ := m_soonest (p := a) (q := b) JM1.1 CH.1.1.2.1 JM1.2.1
  exact ⟨_, h1, h2, e1, e2, _, _, _, _, _, _, _, _, _, _, _, _, JM_Z JM1 X2 S2 (by omega) Y2, JC_far JC1 X2 (fun c i z => by unfold sxZ at z; omega), by omega, by omega⟩
theorem j_way (hn : n ≤ 512) (J : JI n h) (a : Int32) (b : Int32) (c : Int32) : J2 n 119 238 [.int a, .int b, .int c] h := by
  obtain ⟨G, W, L, B, B', T, M, n0, t, ln, f1, f2, JH, CH, hB, hC⟩ := J
  obtain ⟨h1, e1, S1, I1, X1⟩ := c_way (p := a) (q := b) (i := c) CH.1 CH.2.1 (by omega)
  have JM1 := JM_far JH X1 (fun c i z => by unfold sxW at z; omega)
  have JC1 := JC_W CH X1 S1 (by omega) I1
  obtain ⟨h2, e2, S2, Y2, X2⟩ := m_way (p := a) (q := b) (i := c) JM1.1 CH.1.1.2.1 JM1.2.1
  exact ⟨_, h1, h2, e1, e2, _, _, _, _, _, _, _, _, _, _, _, _, JM_Z JM1 X2 S2 (by omega) Y2, JC_far JC1 X2 (fun c i z => by unfold sxZ at z; omega), by omega, by omega⟩
theorem j_left (hn : n ≤ 512) (J : JI n h) (a : Int32) (b : Int32) : J2 n 120 239 [.int a, .int b] h := by
  obtain ⟨G, W, L, B, B', T, M, n0, t, ln, f1, f2, JH, CH, hB, hC⟩ := J
  obtain ⟨h1, e1, S1, I1, X1⟩ := c_left (p := a) (q := b) CH.1 CH.2.1 (by omega)
  have JM1 := JM_far JH X1 (fun c i z => by unfold sxW at z; omega)
  have JC1 := JC_W CH X1 S1 (by omega) I1
  obtain ⟨h2, e2, S2, Y2, X2⟩ := m_left (p := a) (q := b) JM1.1 CH.1.1.2.1 JM1.2.1
  exact ⟨_, h1, h2, e1, e2, _, _, _, _, _, _, _, _, _, _, _, _, JM_Z JM1 X2 S2 (by omega) Y2, JC_far JC1 X2 (fun c i z => by unfold sxZ at z; omega), by omega, by omega⟩
theorem j_reach (hn : n ≤ 512) (J : JI n h) (a : Int32) : J2 n 121 240 [.int a] h := by
  obtain ⟨G, W, L, B, B', T, M, n0, t, ln, f1, f2, JH, CH, hB, hC⟩ := J
  obtain ⟨h1, e1, S1, I1, X1⟩ := c_reach (p := a) CH.1 CH.2.1 (by omega)
  have JM1 := JM_far JH X1 (fun c i z => by unfold sxW at z; omega)
  have JC1 := JC_W CH X1 S1 (by omega) I1
  obtain ⟨h2, e2, S2, Y2, X2⟩ := m_reach (p := a) JM1.1 CH.1.1.2.1 JM1.2.1
  exact ⟨_, h1, h2, e1, e2, _, _, _, _, _, _, _, _, _, _, _, _, JM_Z JM1 X2 S2 (by omega) Y2, JC_far JC1 X2 (fun c i z => by unfold sxZ at z; omega), by omega, by omega⟩
theorem j_ways (hn : n ≤ 512) (J : JI n h) (a : Int32) (b : Int32) (c : Int32) : J3 n 122 241 [.int a, .int b, .int c] h := by
  obtain ⟨G, W, L, B, B', T, M, n0, t, ln, f1, f2, JH, CH, hB, hC⟩ := J
  obtain ⟨h1, e1, S1, I1, X1⟩ := c_ways (p := a) (q := b) (n := c) CH.1 CH.2.1
  have JM1 := JM_far JH X1 (fun c i z => by unfold sxW at z; omega)
  have JC1 := JC_W CH X1 S1 (by omega) I1
  obtain ⟨h2, e2, S2, Y2, X2⟩ := m_ways (p := a) (q := b) (n := c) JM1.1 CH.1.1.2.1 JM1.2.1
  exact ⟨_, h1, h2, e1, e2, _, _, _, _, _, _, _, _, _, _, _, _, JM_Z JM1 X2 S2 (by omega) Y2, JC_far JC1 X2 (fun c i z => by unfold sxZ at z; omega), by omega, by omega⟩
theorem j_needed (hn : n ≤ 512) (J : JI n h) (a : Int32) (b : Int32) : J2 n 123 242 [.int a, .int b] h := by
  obtain ⟨G, W, L, B, B', T, M, n0, t, ln, f1, f2, JH, CH, hB, hC⟩ := J
  obtain ⟨h1, e1, S1, I1, X1⟩ := c_needed (p := a) (q := b) CH.1 CH.2.1 (by omega)
  have JM1 := JM_far JH X1 (fun c i z => by unfold sxW at z; omega)
  have JC1 := JC_W CH X1 S1 (by omega) I1
  obtain ⟨h2, e2, S2, Y2, X2⟩ := m_needed (p := a) (q := b) JM1.1 CH.1.1.2.1 JM1.2.1
  exact ⟨_, h1, h2, e1, e2, _, _, _, _, _, _, _, _, _, _, _, _, JM_Z JM1 X2 S2 (by omega) Y2, JC_far JC1 X2 (fun c i z => by unfold sxZ at z; omega), by omega, by omega⟩
theorem j_proofs (hn : n ≤ 512) (J : JI n h) (a : Int32) (b : Int32) : J2 n 124 243 [.int a, .int b] h := by
  obtain ⟨G, W, L, B, B', T, M, n0, t, ln, f1, f2, JH, CH, hB, hC⟩ := J
  obtain ⟨h1, e1, S1, I1, X1⟩ := c_proofs (p := a) (q := b) CH.1 CH.2.1 (by omega)
  have JM1 := JM_far JH X1 (fun c i z => by unfold sxW at z; omega)
  have JC1 := JC_W CH X1 S1 (by omega) I1
  obtain ⟨h2, e2, S2, Y2, X2⟩ := m_proofs (p := a) (q := b) JM1.1 CH.1.1.2.1 JM1.2.1
  exact ⟨_, h1, h2, e1, e2, _, _, _, _, _, _, _, _, _, _, _, _, JM_Z JM1 X2 S2 (by omega) Y2, JC_far JC1 X2 (fun c i z => by unfold sxZ at z; omega), by omega, by omega⟩
theorem j_waives (hn : n ≤ 512) (J : JI n h) (a : Int32) (b : Int32) : J2 n 125 244 [.int a, .int b] h := by
  obtain ⟨G, W, L, B, B', T, M, n0, t, ln, f1, f2, JH, CH, hB, hC⟩ := J
  obtain ⟨h1, e1, S1, I1, X1⟩ := c_waives (p := a) (q := b) CH.1 CH.2.1 (by omega)
  have JM1 := JM_far JH X1 (fun c i z => by unfold sxW at z; omega)
  have JC1 := JC_W CH X1 S1 (by omega) I1
  obtain ⟨h2, e2, S2, Y2, X2⟩ := m_waives (p := a) (q := b) JM1.1 CH.1.1.2.1 JM1.2.1
  exact ⟨_, h1, h2, e1, e2, _, _, _, _, _, _, _, _, _, _, _, _, JM_Z JM1 X2 S2 (by omega) Y2, JC_far JC1 X2 (fun c i z => by unfold sxZ at z; omega), by omega, by omega⟩
theorem j_inTime (hn : n ≤ 512) (J : JI n h)  : J2 n 126 248 [] h := by
  obtain ⟨G, W, L, B, B', T, M, n0, t, ln, f1, f2, JH, CH, hB, hC⟩ := J
  obtain ⟨h1, e1, S1, I1, X1⟩ := c_inTime  (by omega) (by omega) CH.1 CH.2.1
  have JM1 := JM_far JH X1 (fun c i z => by unfold sxW at z; omega)
  have JC1 := JC_W CH X1 S1 (by omega) I1
  obtain ⟨h2, e2, S2, Y2, X2⟩ := m_inTime  JM1.1 CH.1.1.2.1 JM1.2.1 (by omega)
  exact ⟨_, h1, h2, e1, e2, _, _, _, _, _, _, _, _, _, _, _, _, JM_Z JM1 X2 S2 (by omega) Y2, JC_far JC1 X2 (fun c i z => by unfold sxZ at z; omega), by omega, by omega⟩
theorem j_spare (hn : n ≤ 512) (J : JI n h) (a : Int32) : J2 n 127 249 [.int a] h := by
  obtain ⟨G, W, L, B, B', T, M, n0, t, ln, f1, f2, JH, CH, hB, hC⟩ := J
  obtain ⟨h1, e1, S1, I1, X1⟩ := c_spare (p := a) (by omega) (by omega) CH.1 CH.2.1
  have JM1 := JM_far JH X1 (fun c i z => by unfold sxW at z; omega)
  have JC1 := JC_W CH X1 S1 (by omega) I1
  obtain ⟨h2, e2, S2, Y2, X2⟩ := m_spare (p := a) JM1.1 CH.1.1.2.1 JM1.2.1 (by omega)
  exact ⟨_, h1, h2, e1, e2, _, _, _, _, _, _, _, _, _, _, _, _, JM_Z JM1 X2 S2 (by omega) Y2, JC_far JC1 X2 (fun c i z => by unfold sxZ at z; omega), by omega, by omega⟩
theorem j_helped (hn : n ≤ 512) (J : JI n h)  : J2 n 128 250 [] h := by
  obtain ⟨G, W, L, B, B', T, M, n0, t, ln, f1, f2, JH, CH, hB, hC⟩ := J
  obtain ⟨h1, e1, S1, I1, X1⟩ := c_helped  (by omega) (by omega) CH.1 CH.2.1
  have JM1 := JM_far JH X1 (fun c i z => by unfold sxW at z; omega)
  have JC1 := JC_W CH X1 S1 (by omega) I1
  obtain ⟨h2, e2, S2, Y2, X2⟩ := m_helped  JM1.1 CH.1.1.2.1 JM1.2.1 (by omega)
  exact ⟨_, h1, h2, e1, e2, _, _, _, _, _, _, _, _, _, _, _, _, JM_Z JM1 X2 S2 (by omega) Y2, JC_far JC1 X2 (fun c i z => by unfold sxZ at z; omega), by omega, by omega⟩
theorem j_worst (hn : n ≤ 512) (J : JI n h)  : J2 n 129 251 [] h := by
  obtain ⟨G, W, L, B, B', T, M, n0, t, ln, f1, f2, JH, CH, hB, hC⟩ := J
  obtain ⟨h1, e1, S1, I1, X1⟩ := c_worst  (by omega) (by omega) CH.1 CH.2.1
  have JM1 := JM_far JH X1 (fun c i z => by unfold sxW at z; omega)
  have JC1 := JC_W CH X1 S1 (by omega) I1
  obtain ⟨h2, e2, S2, Y2, X2⟩ := m_worst  JM1.1 CH.1.1.2.1 JM1.2.1 (by omega)
  exact ⟨_, h1, h2, e1, e2, _, _, _, _, _, _, _, _, _, _, _, _, JM_Z JM1 X2 S2 (by omega) Y2, JC_far JC1 X2 (fun c i z => by unfold sxZ at z; omega), by omega, by omega⟩
theorem j_loophole (hn : n ≤ 512) (J : JI n h) (a : Int32) : J2 n 130 253 [.int a] h := by
  obtain ⟨G, W, L, B, B', T, M, n0, t, ln, f1, f2, JH, CH, hB, hC⟩ := J
  obtain ⟨h1, e1, S1, I1, X1⟩ := c_loophole (p := a) CH.1 CH.2.1 (by omega)
  have JM1 := JM_far JH X1 (fun c i z => by unfold sxW at z; omega)
  have JC1 := JC_W CH X1 S1 (by omega) I1
  obtain ⟨h2, e2, S2, Y2, X2⟩ := m_loophole (p := a) JM1.1 CH.1.1.2.1 JM1.2.1
  exact ⟨_, h1, h2, e1, e2, _, _, _, _, _, _, _, _, _, _, _, _, JM_Z JM1 X2 S2 (by omega) Y2, JC_far JC1 X2 (fun c i z => by unfold sxZ at z; omega), by omega, by omega⟩
theorem j_loopWay (hn : n ≤ 512) (J : JI n h) (a : Int32) (b : Int32) : J2 n 131 254 [.int a, .int b] h := by
  obtain ⟨G, W, L, B, B', T, M, n0, t, ln, f1, f2, JH, CH, hB, hC⟩ := J
  obtain ⟨h1, e1, S1, I1, X1⟩ := c_loopWay (p := a) (i := b) CH.1 CH.2.1 (by omega)
  have JM1 := JM_far JH X1 (fun c i z => by unfold sxW at z; omega)
  have JC1 := JC_W CH X1 S1 (by omega) I1
  obtain ⟨h2, e2, S2, Y2, X2⟩ := m_loopWay (p := a) (i := b) JM1.1 CH.1.1.2.1 JM1.2.1
  exact ⟨_, h1, h2, e1, e2, _, _, _, _, _, _, _, _, _, _, _, _, JM_Z JM1 X2 S2 (by omega) Y2, JC_far JC1 X2 (fun c i z => by unfold sxZ at z; omega), by omega, by omega⟩
theorem j_round (hn : n ≤ 512) (J : JI n h) (a : Int32) : J2 n 132 255 [.int a] h := by
  obtain ⟨G, W, L, B, B', T, M, n0, t, ln, f1, f2, JH, CH, hB, hC⟩ := J
  obtain ⟨h1, e1, S1, I1, X1⟩ := c_round (p := a) CH.1 CH.2.1 (by omega)
  have JM1 := JM_far JH X1 (fun c i z => by unfold sxW at z; omega)
  have JC1 := JC_W CH X1 S1 (by omega) I1
  obtain ⟨h2, e2, S2, Y2, X2⟩ := m_round (p := a) JM1.1 CH.1.1.2.1 JM1.2.1
  exact ⟨_, h1, h2, e1, e2, _, _, _, _, _, _, _, _, _, _, _, _, JM_Z JM1 X2 S2 (by omega) Y2, JC_far JC1 X2 (fun c i z => by unfold sxZ at z; omega), by omega, by omega⟩
theorem j_crosses (hn : n ≤ 512) (J : JI n h) (a : Int32) : J2 n 133 256 [.int a] h := by
  obtain ⟨G, W, L, B, B', T, M, n0, t, ln, f1, f2, JH, CH, hB, hC⟩ := J
  obtain ⟨h1, e1, S1, I1, X1⟩ := c_crosses (p := a) CH.1 CH.2.1 (by omega)
  have JM1 := JM_far JH X1 (fun c i z => by unfold sxW at z; omega)
  have JC1 := JC_W CH X1 S1 (by omega) I1
  obtain ⟨h2, e2, S2, Y2, X2⟩ := m_crosses (p := a) JM1.1 CH.1.1.2.1 JM1.2.1
  exact ⟨_, h1, h2, e1, e2, _, _, _, _, _, _, _, _, _, _, _, _, JM_Z JM1 X2 S2 (by omega) Y2, JC_far JC1 X2 (fun c i z => by unfold sxZ at z; omega), by omega, by omega⟩
theorem j_meet (hn : n ≤ 512) (J : JI n h) (a : Int32) (b : Int32) : J2 n 134 258 [.int a, .int b] h := by
  obtain ⟨G, W, L, B, B', T, M, n0, t, ln, f1, f2, JH, CH, hB, hC⟩ := J
  obtain ⟨h1, e1, S1, I1, X1⟩ := c_meet (p := a) (q := b) CH.1 CH.2.1 (by omega)
  have JM1 := JM_far JH X1 (fun c i z => by unfold sxW at z; omega)
  have JC1 := JC_W CH X1 S1 (by omega) I1
  obtain ⟨h2, e2, S2, Y2, X2⟩ := m_meet (p := a) (q := b) JM1.1 CH.1.1.2.1 JM1.2.1
  exact ⟨_, h1, h2, e1, e2, _, _, _, _, _, _, _, _, _, _, _, _, JM_Z JM1 X2 S2 (by omega) Y2, JC_far JC1 X2 (fun c i z => by unfold sxZ at z; omega), by omega, by omega⟩
theorem j_meetAt (hn : n ≤ 512) (J : JI n h) (a : Int32) (b : Int32) : J2 n 135 259 [.int a, .int b] h := by
  obtain ⟨G, W, L, B, B', T, M, n0, t, ln, f1, f2, JH, CH, hB, hC⟩ := J
  obtain ⟨h1, e1, S1, I1, X1⟩ := c_meetAt (p := a) (q := b) CH.1 CH.2.1 (by omega)
  have JM1 := JM_far JH X1 (fun c i z => by unfold sxW at z; omega)
  have JC1 := JC_W CH X1 S1 (by omega) I1
  obtain ⟨h2, e2, S2, Y2, X2⟩ := m_meetAt (p := a) (q := b) JM1.1 CH.1.1.2.1 JM1.2.1
  exact ⟨_, h1, h2, e1, e2, _, _, _, _, _, _, _, _, _, _, _, _, JM_Z JM1 X2 S2 (by omega) Y2, JC_far JC1 X2 (fun c i z => by unfold sxZ at z; omega), by omega, by omega⟩
theorem j_shoes (hn : n ≤ 512) (J : JI n h) (a : Int32) (b : Int32) : J2 n 136 263 [.int a, .int b] h := by
  obtain ⟨G, W, L, B, B', T, M, n0, t, ln, f1, f2, JH, CH, hB, hC⟩ := J
  obtain ⟨h1, e1, S1, X1⟩ := c_shoes (t := a) (p := b) CH.1 CH.2.2.1
  have JM1 := JM_far JH X1 (fun c i z => by unfold sxPs at z; omega)
  have JC1 := JC_Ps CH X1 S1 (by omega)
  obtain ⟨h2, e2, X2⟩ := m_shoesZ (t := a) (p := b) JM1.1 JM1.2.2.1
  exact ⟨_, h1, h2, e1, e2, _, _, _, _, _, _, _, _, _, _, _, _, JM_Lz JM1 X2, JC_far JC1 X2 (fun c i z => by unfold sxLz at z; omega), by omega, by omega⟩
theorem j_sure (hn : n ≤ 512) (J : JI n h) (a : Int32) (b : Int32) : J2 n 137 264 [.int a, .int b] h := by
  obtain ⟨G, W, L, B, B', T, M, n0, t, ln, f1, f2, JH, CH, hB, hC⟩ := J
  obtain ⟨h1, e1, S1, X1⟩ := c_sure (t := a) (p := b) CH.1 CH.2.2.1
  have JM1 := JM_far JH X1 (fun c i z => by unfold sxPs at z; omega)
  have JC1 := JC_Ps CH X1 S1 (by omega)
  obtain ⟨h2, e2, X2⟩ := m_sureZ (t := a) (p := b) JM1.1 JM1.2.2.1
  exact ⟨_, h1, h2, e1, e2, _, _, _, _, _, _, _, _, _, _, _, _, JM_Lz JM1 X2, JC_far JC1 X2 (fun c i z => by unfold sxLz at z; omega), by omega, by omega⟩
theorem j_ask (hn : n ≤ 512) (J : JI n h) (a : Int32) (b : Int32) : J2 n 138 265 [.int a, .int b] h := by
  obtain ⟨G, W, L, B, B', T, M, n0, t, ln, f1, f2, JH, CH, hB, hC⟩ := J
  obtain ⟨h1, e1, S1, X1⟩ := c_ask (t := a) (p := b) CH.1 CH.2.2.1
  have JM1 := JM_far JH X1 (fun c i z => by unfold sxPs at z; omega)
  have JC1 := JC_Ps CH X1 S1 (by omega)
  obtain ⟨h2, e2, X2⟩ := m_askZ (t := a) (p := b) JM1.1 JM1.2.2.1
  exact ⟨_, h1, h2, e1, e2, _, _, _, _, _, _, _, _, _, _, _, _, JM_Lz JM1 X2, JC_far JC1 X2 (fun c i z => by unfold sxLz at z; omega), by omega, by omega⟩
theorem j_dry (hn : n ≤ 512) (J : JI n h) (a : Int32) (b : Int32) (c : Int32) : J3 n 139 269 [.int a, .int b, .int c] h := by
  obtain ⟨G, W, L, B, B', T, M, n0, t, ln, f1, f2, JH, CH, hB, hC⟩ := J
  obtain ⟨h1, e1, S1, I1, X1⟩ := c_dry (p := a) (q := b) (x := c) CH.1 CH.2.1 (by omega)
  have JM1 := JM_far JH X1 (fun c i z => by unfold sxW at z; omega)
  have JC1 := JC_W CH X1 S1 (by omega) I1
  obtain ⟨h2, e2, S2, Y2, X2⟩ := m_dry (p := a) (q := b) (x := c) JM1.1 CH.1.1.2.1 JM1.2.1
  exact ⟨_, h1, h2, e1, e2, _, _, _, _, _, _, _, _, _, _, _, _, JM_Z JM1 X2 S2 (by omega) Y2, JC_far JC1 X2 (fun c i z => by unfold sxZ at z; omega), by omega, by omega⟩
theorem j_safest (hn : n ≤ 512) (J : JI n h) (a : Int32) : J2 n 140 270 [.int a] h := by
  obtain ⟨G, W, L, B, B', T, M, n0, t, ln, f1, f2, JH, CH, hB, hC⟩ := J
  obtain ⟨h1, e1, S1, I1, X1⟩ := c_safest (p := a) CH.1 CH.2.1 (by omega)
  have JM1 := JM_far JH X1 (fun c i z => by unfold sxW at z; omega)
  have JC1 := JC_W CH X1 S1 (by omega) I1
  obtain ⟨h2, e2, S2, Y2, X2⟩ := m_safest (p := a) JM1.1 CH.1.1.2.1 JM1.2.1
  exact ⟨_, h1, h2, e1, e2, _, _, _, _, _, _, _, _, _, _, _, _, JM_Z JM1 X2 S2 (by omega) Y2, JC_far JC1 X2 (fun c i z => by unfold sxZ at z; omega), by omega, by omega⟩
theorem j_numbers (hn : n ≤ 512) (J : JI n h) (a : Int32) (b : Int32) (c : Int32) : J2 n 141 272 [.int a, .int b, .int c] h := by
  obtain ⟨G, W, L, B, B', T, M, n0, t, ln, f1, f2, JH, CH, hB, hC⟩ := J
  obtain ⟨h1, e1, T1, X1⟩ := c_numbers (t := a) (s := b) (n := c) CH.2.2.1
  have JM1 := JM_far JH X1 (fun c i z => by unfold sxTK at z; omega)
  have JC1 := JC_TK CH X1 T1
  obtain ⟨h2, e2, T2, X2⟩ := m_numbers (t := a) (s := b) (n := c) JM1.2.2.1
  exact ⟨_, h1, h2, e1, e2, _, _, _, _, _, _, _, _, _, _, _, _, JM_TM JM1 X2 T2, JC_far JC1 X2 (fun c i z => by unfold sxTM at z; omega), by omega, by omega⟩
theorem j_write (hn : n ≤ 512) (J : JI n h) (a : Int32) (b : Int32) (c : Int64) : J3 n 142 273 [.int a, .int b, .long c] h := by
  obtain ⟨G, W, L, B, B', T, M, n0, t, ln, f1, f2, JH, CH, hB, hC⟩ := J
  obtain ⟨h1, e1, T1, X1⟩ := c_write (t := a) (i := b) (v := c) CH.2.2.1
  have JM1 := JM_far JH X1 (fun c i z => by unfold sxTK at z; omega)
  have JC1 := JC_TK CH X1 T1
  obtain ⟨h2, e2, T2, X2⟩ := m_write (t := a) (i := b) (v := c) JM1.2.2.1
  exact ⟨_, h1, h2, e1, e2, _, _, _, _, _, _, _, _, _, _, _, _, JM_TM JM1 X2 T2, JC_far JC1 X2 (fun c i z => by unfold sxTM at z; omega), by omega, by omega⟩
theorem j_lists (hn : n ≤ 512) (J : JI n h) (a : Int32) (b : Int32) (c : Int32) : J2 n 143 274 [.int a, .int b, .int c] h := by
  obtain ⟨G, W, L, B, B', T, M, n0, t, ln, f1, f2, JH, CH, hB, hC⟩ := J
  obtain ⟨h1, e1, S1, I1, T1, X1⟩ := c_lists (t := a) (p := b) (f := c) CH.1 CH.2.1 (by omega) CH.2.2.1
  have JM1 := JM_far JH X1 (fun c i z => by unfold sxWT sxW sxTK at z; omega)
  have JC1 := JC_WT CH X1 S1 (by omega) I1 T1
  obtain ⟨h2, e2, S2, Y2, T2, X2⟩ := m_lists (t := a) (p := b) (f := c) JM1.1 CH.1.1.2.1 JM1.2.1 JM1.2.2.1
  exact ⟨_, h1, h2, e1, e2, _, _, _, _, _, _, _, _, _, _, _, _, JM_ZT JM1 X2 S2 (by omega) Y2 T2, JC_far JC1 X2 (fun c i z => by unfold sxZT sxZ sxTM at z; omega), by omega, by omega⟩
theorem j_image (hn : n ≤ 512) (J : JI n h) (a : Int32) : J2 n 144 275 [.int a] h := by
  obtain ⟨G, W, L, B, B', T, M, n0, t, ln, f1, f2, JH, CH, hB, hC⟩ := J
  obtain ⟨h1, e1, S1, I1, X1⟩ := c_image (i := a) CH.1 CH.2.2.2.1 CH.2.2.2.2.2.1
  have JM1 := JM_far JH X1 (fun c i z => by unfold sxIk at z; omega)
  have JC1 := JC_Ik CH X1 S1 (by omega) I1
  obtain ⟨h2, e2, S2, I2, X2⟩ := m_image (i := a) JM1.1 CH.1.1.2.1 JM1.2.2.2.1 JM1.2.2.2.2.2.1
  exact ⟨_, h1, h2, e1, e2, _, _, _, _, _, _, _, _, _, _, _, _, JM_I JM1 X2 S2 (by omega) I2, JC_far JC1 X2 (fun c i z => by unfold sxI at z; omega), by omega, by omega⟩
theorem j_restore (hn : n ≤ 512) (J : JI n h) (a : Int32) : J2 n 145 276 [.int a] h := by
  obtain ⟨G, W, L, B, B', T, M, n0, t, ln, f1, f2, JH, CH, hB, hC⟩ := J
  obtain ⟨h1, e1, S1, I1, l1, X1⟩ := c_restore (i := a) CH.1 CH.2.2.2.1 CH.2.2.2.2.2.1
  have JM1 := JM_far JH X1 (fun c i z => by unfold sxRk at z; omega)
  have JC1 := JC_Rk CH X1 S1 (by omega) I1 l1
  obtain ⟨h2, e2, S2, I2, l2, X2⟩ := m_restore (i := a) JM1.1 JM1.2.2.2.1 JM1.2.2.2.2.2.1
  exact ⟨_, h1, h2, e1, e2, _, _, _, _, _, _, _, _, _, _, _, _, JM_Re JM1 X2 S2 (by omega) I2 l2, JC_far JC1 X2 (fun c i z => by unfold sxRe at z; omega), by omega, by omega⟩
theorem j_count (hn : n ≤ 512) (J : JI n h) (a : Int32) : J2 n 146 279 [.int a] h := by
  obtain ⟨G, W, L, B, B', T, M, n0, t, ln, f1, f2, JH, CH, hB, hC⟩ := J
  have e1 := c_count (k := a) CH.1 CH.2.2.2.2.2.1 CH.2.2.2.2.1.1
  have JM1 := JH
  have JC1 := CH
  have e2 := m_count (k := a) JM1.1 JM1.2.2.2.2.2.1 JM1.2.2.2.2.1.1
  exact ⟨_, h, _, e1, e2, G, W, L, B, B', T, M, n0, t, ln, f1, f2, JM_same JM1, JC_same JC1, by omega, by omega⟩
end JS
