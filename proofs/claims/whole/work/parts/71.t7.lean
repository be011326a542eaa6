/-! ===== the class: a search, and what it answers ===== -/
/-- turns so far -/
def cI (h : sm_H) (B : Nat) : Prop := ∃ tn, tn ≤ B ∧ sm_gi h 104 12 = nI tn ∧ ∀ row, row < 10240 → ∃ j, sm_gi h 107 row = nI j ∧ j ≤ tn
theorem cI_eqx {S : Nat → Nat → Prop} {h h2 : sm_H} {B : Nat} (H : cI h B) (E : eqx S h h2) (hS : ∀ c i, S c i → c ≠ 107 ∧ ¬ (c = 104 ∧ i = 12)) : cI h2 B := by
  obtain ⟨tn, a, b, c⟩ := H
  exact ⟨tn, a, (E.1 104 12 (fun z => (hS _ _ z).2 ⟨rfl, rfl⟩)).trans b, fun row hr => by
    obtain ⟨j, d, e⟩ := c row hr
    exact ⟨j, (E.1 107 row (fun z => (hS _ _ z).1 rfl)).trans d, e⟩⟩
theorem cI.mono {h : sm_H} {B B' : Nat} (H : cI h B) (hB : B ≤ B') : cI h B' := by
  obtain ⟨tn, a, b⟩ := H
  exact ⟨tn, by omega, b⟩
/-- a search through -/
def FS (h : sm_H) (G : LG) (sh : Nat) (pl : Option Nat) (p : Nat) (ov : Bool) (x0 : XS) (D : Nat → Option (List Nat)) : Prop := TD G (stp G sh pl p ov) ov x0 D ∧ (∃ tn, cD h G tn D) ∧ (∀ w x, rn (stp G sh pl p ov) x0 w = some x → ∃ v, D (cdX x) = some v ∧ ¬ btr (gLon G) ov w v) ∧ (ov = false → cCM h (stp G sh pl p ov) x0 D ∧ EN h G (fun _ => True) D ∧ LN h G (stp G sh pl p ov) (fun _ _ => True) D)
theorem FS_eqx {S : Nat → Nat → Prop} {h h2 : sm_H} {G : LG} {sh p : Nat} {pl : Option Nat} {ov : Bool} {x0 : XS} {D : Nat → Option (List Nat)} (H : FS h G sh pl p ov x0 D) (E : eqx S h h2) (hS : ∀ c i, S c i → ¬ (105 ≤ c ∧ c ≤ 108) ∧ ¬ (c = 104 ∧ 12 ≤ i ∧ i ≤ 16)) : FS h2 G sh pl p ov x0 D := by
  obtain ⟨T, ⟨tn, C⟩, B, N⟩ := H
  refine ⟨T, ⟨tn, cD_eqx C E (fun c i z => by have := hS c i z; omega)⟩, B, fun z => ⟨cCM_eqx (N z).1 E (fun c i z => by have := hS c i z; omega), EN_cong (N z).2.1 (fun f => E.1 108 f (fun q => by have := hS _ _ q; omega)) (fun _ _ _ => Iff.rfl) (fun _ _ => rfl), LN_cong (N z).2.2 (fun i _ _ => E.1 104 i (fun q => by have := hS _ _ q; omega)) (fun _ _ _ _ _ => Iff.rfl)⟩⟩
def sxH : Nat → Nat → Prop := fun c i => c = 14 ∨ c = 17 ∨ c = 49 ∨ c = 50 ∨ (105 ≤ c ∧ c ≤ 108) ∨ (c = 104 ∧ 12 ≤ i ∧ i ≤ 16)
theorem rn_mask {G : LG} {sh p : Nat} {pl : Option Nat} {ov : Bool} (hw : wfG G) : ∀ (w : List Nat) (x y : XS), xM x < 2 ^ nbr G (gR G) → rn (stp G sh pl p ov) x w = some y → xM y < 2 ^ nbr G (gR G)
  | [], x, y, hx, h => by cases h; exact hx
  | r :: w, x, y, hx, h => by
    obtain ⟨z, h1, h2⟩ := Option.bind_eq_some_iff.mp h
    refine rn_mask hw w z y ?_ h2
    have hr := stp_r h1
    obtain ⟨t, -, -, rfl⟩ := stp_def h1
    show (if ov = true then xM x ||| bbit G r else 0) < _
    by_cases q : ov = true
    · rw [if_pos q]
      refine Nat.or_lt_two_pow hx ?_
      unfold bbit
      by_cases q2 : gBri G r = true
      · rw [if_pos q2]
        have := cntB_lt (gBri G) hr q2
        rw [← nbr_cnt, ← nbr_cnt] at this
        exact Nat.pow_lt_pow_right (by decide) this
      · rw [if_neg q2]; exact Nat.two_pow_pos _
    · rw [if_neg q]; exact Nat.two_pow_pos _
theorem c_spread {G : LG} {sh p mk B : Nat} {pl : Option Nat} {ov : Bool} {x0 : XS} {h : sm_H} (Q : cQ h G sh pl p ov mk x0) (hI : cI h B) (hB : B < 2 ^ 29) :
    ∃ D h2, xc 73 [.ref 104] h = some ([], h2) ∧ FS h2 G sh pl p ov x0 D ∧ cQ h2 G sh pl p ov mk x0 ∧ cI h2 (B + 1) ∧ eqx sxH h h2 := by
  obtain ⟨tn, htn, g12, hrows⟩ := hI
  have hw := Q.1.1
  have hx := Q.1.2.1
  have hN := hw.1.2
  have p6 := pow6 hN
  have ok0 := Q.2.2.1.1
  have hm0 := Q.2.2.1.2
  have emk := Q.2.2.2.2.2.2.2
  obtain ⟨o1, o2, o3, o4⟩ := ok0.b hw
  have hc0 := (cdX_lt hw ok0).2 hm0
  rw [en_73, b73_0, g12, nI_add, b73_10]
  generalize hh1 : sm_si h 104 12 (nI (tn + 1)) = h1
  have X1 : eqx sxH h h1 := by rw [← hh1]; exact eqx.rf.si (by unfold sxH; omega)
  obtain ⟨h2, e2, f2, X2⟩ := c_fill (a := 108) (v := -1) (h := h1) kd_108 ln_108 (by decide)
  rw [e2, bnd]
  simp only [List.nil_append]
  rw [b73_18, b73_23, b73_29]
  generalize hh3 : sm_si (sm_si (sm_si h2 104 14 (nI 0)) 104 15 (nI 1000000000)) 104 16 (-1) = h3
  have X3 : eqx sxG h2 h3 := by
    rw [← hh3]
    exact ((eqx.rf.si (by unfold sxG; omega)).si (by unfold sxG; omega)).si (by unfold sxG; omega)
  have X13 : eqx sxH h h3 := (X1.tr (X2.wk (fun c i z => by unfold sxH; omega))).tr (X3.wk (fun c i z => by unfold sxG at z; unfold sxH; omega))
  have cE3 : cE h3 G := cE_eqx (cE_eqx (cE_eqx Q.1 (S := fun c _ => c = 104) (by rw [← hh1]; exact eqx.si (S := fun c _ => c = 104) eqx.rf rfl) (fun c i z => by omega)) X2 (fun c i z => by omega)) X3 (fun c i z => by unfold sxG at z; omega)
  have Q3 : cQ h3 G sh pl p ov mk x0 := cQ_eqx Q cE3 X13 (fun c i z => by unfold sxH at z; omega)
  have g108 : ∀ f, f < 6 → sm_gi h3 108 f = -1 := fun f hf => (X3.1 108 f (by unfold sxG; omega)).trans (f2 f hf)
  have g14 : sm_gi h3 104 14 = nI 0 := by rw [← hh3, gi_slot (by decide), gi_slot (by decide), gi_same]
  have g15 : sm_gi h3 104 15 = nI 1000000000 := by rw [← hh3, gi_slot (by decide), gi_same]
  have g16 : sm_gi h3 104 16 = -1 := by rw [← hh3, gi_same]
  have D3 : cD h3 G (tn + 1) (fun _ => none) := by
    refine ⟨?_, by omega, fun row hr => ?_⟩
    · rw [X3.1 104 12 (by unfold sxG; omega), X2.1 104 12 (by omega), ← hh1, gi_same]
    · obtain ⟨j, a, b⟩ := hrows row hr
      refine ⟨j, ?_, by omega, fun z => by omega, fun _ _ _ => rfl⟩
      rw [X3.1 107 row (by unfold sxG; omega), X2.1 107 row (by omega), ← hh1, gi_cell (by decide)]
      exact a
  obtain ⟨b1, b2, b3, b4⟩ := Q3.2.2.2.1
  rw [b73_34, b2, b3, b4, c_state o3, bnd]
  simp only [app1, List.cons_append, List.nil_append]
  have hx0 : ((0, xB x0, xN x0, xF x0) : XS) = x0 := by
    obtain ⟨m1, m2, m3, m4⟩ := x0
    have : m1 = 0 := hm0
    rw [this]
    rfl
  rw [hx0, b73_50, pk_div (by omega) (by decide) (by decide)]
  obtain ⟨h4, e4, D4, g4, X4⟩ := c_openRow D3 (show cdX x0 / 6 < 10240 by omega)
  rw [e4, bnd]
  simp only [List.nil_append]
  rw [b73_59]
  simp (disch := omega) only [in_105, if_true, nI_clamp]
  generalize hh5 : sm_si h4 105 (cdX x0) (nI 0) = h5
  have X45 : eqx sxE h3 h5 := by
    rw [← hh5]
    exact (X4.wk (fun c i z => by unfold sxO at z; unfold sxE; omega)).si (by unfold sxE; omega)
  have cE5 : cE h5 G := cE_eqx cE3 X45 (fun c i z => by unfold sxE at z; omega)
  have Q5 : cQ h5 G sh pl p ov mk x0 := cQ_eqx Q3 cE5 X45 (fun c i z => by unfold sxE at z; omega)
  have D5 : cD h5 G (tn + 1) (upD (fun _ => none) (cdX x0) []) := by
    refine ⟨by rw [← hh5, gi_cell (by decide)]; exact D4.1, D4.2.1, fun row hr => ?_⟩
    obtain ⟨j, a, b, e, g⟩ := D4.2.2 row hr
    refine ⟨j, by rw [← hh5, gi_cell (by decide)]; exact a, b, fun z f hf => ?_, fun z f hf => ?_⟩
    · by_cases q : row * 6 + f = cdX x0
      · rw [q, upD_s, ← hh5, gi_same]; rfl
      · rw [upD_n q, ← hh5, gi_slot q]; exact e z f hf
    · rw [upD_n (fun q => z (by
        have h6 : row = cdX x0 / 6 := by omega
        rw [h6, g4, nI_eq (by omega) (by omega)] at a
        exact a.symm))]
  have dn : ∀ c w, upD (fun _ => none) (cdX x0) [] c = some w → c = cdX x0 ∧ w = [] := fun c w z => by
    by_cases q : c = cdX x0
    · subst q
      rw [upD_s] at z
      exact ⟨rfl, (Option.some.inj z).symm⟩
    · rw [upD_n q] at z; cases z
  have noset : ∀ c w, upD (fun _ => none) (cdX x0) [] c = some w → ¬ sett (cdX x0 / 6) 0 c := fun c w z s => by
    obtain ⟨q, -⟩ := dn c w z
    rcases s with s | ⟨-, s⟩
    · omega
    · rw [Nat.zero_div] at s; omega
  have nosn : ∀ (w : List Nat) (r : Nat), w ++ [r] ≠ [] := fun w r => by simp
  have L5 : LI h5 G sh pl p ov mk x0 (tn + 1) (cdX x0 / 6) 0 (upD (fun _ => none) (cdX x0) []) := by
    refine ⟨Q5, ⟨0, ⟨fun c w z => ?_, upD_s, fun c w r z => absurd (dn c _ z).2 (nosn w r)⟩, fun c w r x z => absurd (dn c _ z).2 (nosn w r), fun c w x r y z _ _ s => absurd s (noset c w z), fun c c' w w' _ _ s _ z => absurd s (noset c w z), fun c a s => ?_⟩, D5, fun _ => ⟨fun c w r x z => absurd (dn c _ z).2 (nosn w r), fun f hf => Or.inl ⟨?_, fun c w s _ z => noset c w z s⟩, ⟨0, by decide, ?_, fun r => ?_⟩, Or.inl ⟨?_, ?_, fun c r w x y i => absurd i.1 (noset c w i.2.1)⟩⟩⟩
    · obtain ⟨q1, q2⟩ := dn c w z
      exact ⟨x0, ok0, Or.inr hm0, q1.symm, by rw [q2]; rfl⟩
    · rcases s with s | ⟨-, s⟩
      · omega
      · rw [Nat.zero_div] at s; omega
    · rw [X45.1 108 f (by unfold sxE; omega)]; exact g108 f hf
    · rw [X45.1 104 14 (by unfold sxE; omega)]; exact g14
    · constructor
      · intro s; rw [Nat.zero_div] at s; omega
      · rintro ⟨c, w, x, y, i⟩
        exact absurd i.1 (noset c w i.2.1)
    · rw [X45.1 104 16 (by unfold sxE; omega)]; exact g16
    · rw [X45.1 104 15 (by unfold sxE; omega)]; exact g15
  -- the last row
  have hlast : ∃ last, last ≤ 10240 ∧ cdX x0 / 6 ≤ last ∧ xe 6 73 66 [.ref 104, .int (nI (cdX x0)), .null, .null, .null, .null, .null] [] h5 = xe 6 73 101 [.ref 104, .int (nI (cdX x0)), .int (nI last), .int (nI (cdX x0 / 6)), .null, .null, .null] [] h5 ∧ ∀ w x, rn (stp G sh pl p ov) x0 w = some x → cdX x / 6 < last := by
    rw [b73_66, Q5.2.2.2.2.2.2.1]
    rcases emk with ⟨z1, z2⟩ | ⟨z1, z2, z3, z4⟩
    · have key : ∀ w x, rn (stp G sh pl p ov) x0 w = some x → cdX x / 6 < 10 * 2 ^ gN G := fun w x hr => by
        obtain ⟨okx, mx⟩ := rn_ok hw hx _ _ _ ok0 (Or.inr hm0) hr
        obtain ⟨a1, a2, a3, a4⟩ := okx.b hw
        have h5 := (cdX_parts a2 a3 a4).2.2.2.2
        have hb := okx.2.1
        have : xM x = 0 := by
          rcases mx with q | q
          · rw [z1] at q; cases q
          · exact q
        rw [this] at h5
        omega
      have h0 := key [] x0 rfl
      refine ⟨10 * 2 ^ gN G, by omega, by omega, ?_, key⟩
      rw [z2, if_pos rfl, b73_74, show sm_gi h5 2 0 = nI (gN G) from cE5.2.2.1.1.1, pk_shlN (n := 10) (nI (gN G) &&& 31) (gN G) (s_l (gN G) (by omega)) (by omega), b73_95, pk_div (by omega) (by decide) (by decide)]
    · have key : ∀ w x, rn (stp G sh pl p ov) x0 w = some x → cdX x / 6 < mk * 640 := fun w x hr => by
        obtain ⟨okx, mx⟩ := rn_ok hw hx _ _ _ ok0 (Or.inr hm0) hr
        obtain ⟨a1, a2, a3, a4⟩ := okx.b hw
        have h5 := (cdX_parts a2 a3 a4).2.2.2.2
        have hb := rn_mask hw _ _ _ (by rw [hm0]; exact Nat.two_pow_pos _) hr
        rw [← z4] at hb
        omega
      have h0 := key [] x0 rfl
      refine ⟨mk * 640, by omega, by omega, ?_, key⟩
      rw [if_neg (by rw [nI_eq (by omega) (by decide)]; omega), b73_87, Q5.2.2.2.2.2.2.1, pk_mul, b73_95, pk_div (by omega) (by decide) (by decide)]
  obtain ⟨last, hl1, hl2, el, hl3⟩ := hlast
  rw [el]
  obtain ⟨D, h6, e6, V6, X6⟩ := c_rows (l1 := nI (cdX x0)) (h := h5) hl1 (last - cdX x0 / 6) (cdX x0 / 6) _ h5 .null .null .null (by omega) L5 eqx.rf
  rw [e6]
  obtain ⟨Q6, ⟨c6, I6⟩, D6, N6⟩ := V6
  have hall : ∀ c w, D c = some w → c / 6 < last := fun c w hd => by
    obtain ⟨x, -, -, hc, hr⟩ := I6.1.1 c w hd
    rw [← hc]
    exact hl3 w x hr
  have hset : ∀ c w, D c = some w → (True ↔ sett last 0 c) := fun c w hd => iff_of_true trivial (Or.inl (hall c w hd))
  refine ⟨D, h6, rfl, ⟨I6.1, ⟨tn + 1, D6⟩, fun w x hr => SI_best hw hx ok0 hm0 I6 hall w.length w x rfl hr, fun z => ⟨(N6 z).1, EN_cong (N6 z).2.1 (fun _ => rfl) hset (fun _ _ => rfl), LN_cong (N6 z).2.2 (fun _ _ _ => rfl) (fun c r w x y => ?_)⟩⟩, Q6, ⟨tn + 1, by omega, D6.1, fun row hr => ?_⟩, (X13.tr (X45.wk (fun c i z => by unfold sxE at z; unfold sxH; omega))).tr (X6.wk (fun c i z => by unfold sxF at z; unfold sxH; omega))⟩
  · constructor
    · rintro ⟨-, a⟩
      exact ⟨(hset c w a.1).mp trivial, a⟩
    · rintro ⟨-, a⟩
      exact ⟨trivial, a⟩
  · obtain ⟨j, a, b, -⟩ := D6.2.2 row hr
    exact ⟨j, a, b⟩
