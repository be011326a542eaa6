/-! ===== the class: states of a search, steps, the order of walks along the tree ===== -/
def cdX (x : XS) : Nat := ((xM x * 64 + xB x) * 10 + (9 - xN x)) * 6 + xF x
theorem cdX_parts {x : XS} (b : xB x < 64) (c : xN x ≤ 9) (d : xF x < 6) : cdX x % 6 = xF x ∧ cdX x / 6 % 10 = 9 - xN x ∧ cdX x / 60 % 64 = xB x ∧ cdX x / 3840 = xM x ∧ cdX x / 6 = (xM x * 64 + xB x) * 10 + (9 - xN x) := by
  unfold cdX
  omega
theorem cdX_lt {G : LG} {x : XS} (hw : wfG G) (ok : okX G x) : cdX x < 61440 ∧ (xM x = 0 → cdX x < 3840) := by
  obtain ⟨a, b, c, d⟩ := ok.b hw
  unfold cdX
  omega
theorem cdX_inj {G : LG} {x y : XS} (hw : wfG G) (ox : okX G x) (oy : okX G y) (e : cdX x = cdX y) : x = y := by
  obtain ⟨a, b, c, d⟩ := ox.b hw
  obtain ⟨a', b', c', d'⟩ := oy.b hw
  obtain ⟨p1, p2, p3, p4, -⟩ := cdX_parts b c d
  obtain ⟨q1, q2, q3, q4, -⟩ := cdX_parts b' c' d'
  obtain ⟨m1, m2, m3, m4⟩ := x
  obtain ⟨k1, k2, k3, k4⟩ := y
  rw [e] at p1 p2 p3 p4
  have e1 : m1 = k1 := p4.symm.trans q4
  have e2 : m2 = k2 := p3.symm.trans q3
  have e4 : m4 = k4 := p1.symm.trans q1
  have e3' : 9 - m3 = 9 - k3 := p2.symm.trans q2
  have c1 : m3 ≤ 9 := c
  have c2 : k3 ≤ 9 := c'
  have e3 : m3 = k3 := by omega
  rw [e1, e2, e3, e4]
/-- how a search is begun, in the class -/
def cQ (h : sm_H) (G : LG) (sh : Nat) (pl : Option Nat) (p : Nat) (ov : Bool) (mk : Nat) (x0 : XS) : Prop := cE h G ∧ p < gP G ∧ (okX G x0 ∧ xM x0 = 0) ∧ (sm_gi h 104 2 = nI p ∧ sm_gi h 104 3 = nI (xF x0) ∧ sm_gi h 104 4 = nI (xB x0) ∧ sm_gi h 104 5 = nI (xN x0)) ∧ (sm_gi h 104 6 = nI sh ∧ sh < 4096) ∧ (sm_gi h 104 7 = toI pl ∧ (∀ t, pl = some t → t < 12) ∧ (ov = true → pl = none)) ∧ sm_gi h 104 8 = nI mk ∧ ((ov = false ∧ mk = 1) ∨ (ov = true ∧ 1 < mk ∧ mk ≤ 16 ∧ mk = 2 ^ nbr G (gR G)))
theorem cQ_eqx {S : Nat → Nat → Prop} {h h2 : sm_H} {G : LG} {sh p mk : Nat} {pl : Option Nat} {ov : Bool} {x0 : XS} (H : cQ h G sh pl p ov mk x0) (hE : cE h2 G) (E : eqx S h h2) (hS : ∀ c i, S c i → ¬ (c = 104 ∧ 2 ≤ i ∧ i ≤ 8)) : cQ h2 G sh pl p ov mk x0 := by
  obtain ⟨-, a1, a2, ⟨b1, b2, b3, b4⟩, ⟨c1, c2⟩, ⟨d1, d2⟩, e1, e2⟩ := H
  have g : ∀ i, 2 ≤ i → i ≤ 8 → sm_gi h2 104 i = sm_gi h 104 i := fun i x y => E.1 104 i (fun z => hS _ _ z ⟨rfl, x, y⟩)
  exact ⟨hE, a1, a2, ⟨(g 2 (by omega) (by omega)).trans b1, (g 3 (by omega) (by omega)).trans b2, (g 4 (by omega) (by omega)).trans b3, (g 5 (by omega) (by omega)).trans b4⟩, ⟨(g 6 (by omega) (by omega)).trans c1, c2⟩, ⟨(g 7 (by omega) (by omega)).trans d1, d2⟩, (g 8 (by omega) (by omega)).trans e1, e2⟩
theorem c_state {m b n f : Nat} {h : sm_H} (hn : n ≤ 9) : xc 72 [.int (nI m), .int (nI b), .int (nI n), .int (nI f)] h = some ([.int (nI (cdX (m, b, n, f)))], h) := by
  rw [en_72, b72_0]
  simp only [pk_mul, nI_add]
  rw [pk_sub (by omega), pk_mul, nI_add]
  congr 4
  refine congrArg nI ?_
  show ((m * 64 + b) * 10 + 9 - n) * 6 + f = ((m * 64 + b) * 10 + (9 - n)) * 6 + f
  omega
def stI : Option XS → Int32
  | none => -1
  | some y => nI (cdX y)
theorem c_behind {G : LG} {sh p mk r : Nat} {pl : Option Nat} {ov : Bool} {x0 x : XS} {h : sm_H} (Q : cQ h G sh pl p ov mk x0) (ok : okX G x) (hm : ov = true ∨ xM x = 0) (hr : r < gR G) :
    ∃ h2, xc 77 [.ref 104, .int (nI (cdX x)), .int (nI r)] h = some ([.int (stI (stp G sh pl p ov x r))], h2) ∧ cE h2 G ∧ eqx sxP h h2 := by
  obtain ⟨⟨hw, hx, hG, hK⟩, hp, hx0, ⟨b1, b2, b3, b4⟩, ⟨c1, c2⟩, ⟨d1, d2, d3⟩, e1, e2⟩ := Q
  have hR := hw.2.1
  have hN := hw.1.2
  obtain ⟨o1, o2, o3, o4⟩ := ok.b hw
  obtain ⟨p1, p2, p3, p4, -⟩ := cdX_parts o2 o3 o4
  have hlt := (cdX_lt hw ok).1
  rw [en_77, b77_0, pk_rem (by omega) (by decide) (by decide), p1, c_across isD2 hG hw hr (by omega), bnd]
  simp only [app1, List.cons_append, List.nil_append]
  rw [b77_12]
  unfold stp
  cases ht : toF G r (xF x) with
  | none =>
    rw [show toI none = -1 from rfl, if_pos rfl, b77_30]
    refine ⟨h, ?_, ⟨hw, hx, hG, hK⟩, eqx.rf⟩
    rw [if_neg (fun z => by have := z.2; unfold whyF at this; rw [ht] at this; dsimp only at this; omega)]
    rfl
  | some t =>
    have htN := toF_lt hw hr ht
    rw [show toI (some t) = nI t from rfl, if_neg (by rw [nI_m1 (by omega)]; exact id), b77_18, c1, shr1 (by omega) (by omega)]
    by_cases hs : sh / 2 ^ r % 2 = 1
    · rw [if_pos (by rw [hs]), b77_30]
      refine ⟨h, ?_, ⟨hw, hx, hG, hK⟩, eqx.rf⟩
      rw [if_neg (fun z => by have := z.2; unfold whyF at this; rw [ht] at this; dsimp only at this; rw [if_pos hs] at this; omega)]
      rfl
    · rw [if_neg (by rw [nI_eq (by omega) (by decide)]; exact hs), b77_32, c_isBridge isD2 hG hw hr, bnd]
      simp only [app1, List.cons_append, List.nil_append]
      rw [pk_div (d := 6) (by omega) (by decide) (by decide), pk_rem (by omega) (by decide) (by decide), p2, pk_sub (show 9 - xN x ≤ 9 by omega), show 9 - (9 - xN x) = xN x by omega, pk_div (d := 60) (by omega) (by decide) (by decide), pk_rem (by omega) (by decide) (by decide), p3, pk_div (d := 3840) (by omega) (by decide) (by decide), p4, b77_71]
      -- the end
      have fin : ∀ (h2 : sm_H) (m' pr : Nat), pr ≤ xN x → cE h2 G → eqx sxP h h2 → ∃ h3, xe 4 77 139 [.ref 104, .int (nI (cdX x)), .int (nI r), .int (nI t), .int (nI (xN x)), .int (nI (xB x)), .int (nI m'), .int (nI pr)] [] h2 = some ([.int (nI (cdX (m', xB x ||| 2 ^ t, xN x - pr, t)))], h3) ∧ cE h3 G ∧ eqx sxP h h3 := by
        intro h2 m' pr hpr E2 X2
        rw [b77_139, shl1 (by omega), fa_or, pk_sub hpr, c_state (by omega), bnd]
        simp only [app1, List.cons_append, List.nil_append]
        rw [b77_156]
        exact ⟨h2, rfl, E2, X2⟩
      by_cases hb : gBri G r = true
      · rw [if_neg (by rw [bI_z]; exact fun z => z hb), b77_74, d1]
        by_cases hpl : pl = some r
        · rw [if_pos (by rw [hpl]; rfl)]
          have hov : ov = false := by
            cases ov with
            | false => rfl
            | true => have := d3 rfl; rw [hpl] at this; cases this
          have hm0 : xM x = 0 := by
            rcases hm with z | z
            · rw [hov] at z; cases z
            · exact z
          obtain ⟨h3, a, b, c⟩ := fin h (xM x) 0 (Nat.zero_le _) ⟨hw, hx, hG, hK⟩ eqx.rf
          refine ⟨h3, ?_, b, c⟩
          have hy : whyF G sh pl p r (xN x) (xB x) (xF x) = 0 := by
            unfold whyF; rw [ht]; dsimp only; rw [if_neg hs, if_pos (fun z => z.2 hpl)]
          refine a.trans ?_
          rw [if_pos ⟨hr, hy⟩]
          rw [if_neg (by rw [hov]; decide), if_neg (fun z => z.2 hpl), hm0]
          rfl
        · have hpl' : ¬ nI r = toI pl := by
            cases hq : pl with
            | none => rw [show toI none = -1 from rfl, nI_m1 (by omega)]; exact id
            | some t' =>
              have := d2 t' hq
              rw [show toI (some t') = nI t' from rfl, nI_eq (by omega) (by omega)]
              intro z
              exact hpl (by rw [hq, z])
          rw [if_neg hpl', b77_82, b1]
          obtain ⟨h2, e3, K2, X2⟩ := c_price (p := p) (r := r) (f := xF x) (t := t) (b := xB x) (pap := xN x) hG hw hx hK hp hr hb ht o2 o3
          have E2 : cE h2 G := ⟨hw, hx, cG_P hG X2, K2⟩
          rw [e3, bnd]
          simp only [app1, List.cons_append, List.nil_append]
          rw [b77_99]
          by_cases hl : letsB G p (xN x) (xB x) (xF x) t = false
          · rw [if_pos (prI_m1.mpr hl), b77_114]
            refine ⟨h2, ?_, E2, X2⟩
            rw [if_neg (fun z => by have := z.2; unfold whyF at this; rw [ht] at this; dsimp only at this; rw [if_neg hs, if_neg (fun z => z ⟨hb, hpl⟩), if_pos hl] at this; omega)]
            rfl
          · have hpr : prI G p (xN x) (xB x) (xF x) t = nI (tollN G p (xN x) (xB x) (xF x) t) := by unfold prI; rw [if_pos (ts_nf hl)]
            have htn := (tollI_N (G := G) (p := p) (pap := xN x) (b := xB x) (f := xF x) (t := t)).2
            rw [if_neg (fun z => hl (prI_m1.mp z)), hpr, b77_107]
            by_cases hq : tollN G p (xN x) (xB x) (xF x) t ≤ xN x
            · rw [if_pos (by rw [nI_leI htn (by omega)]; exact hq), b77_116]
              have g8 : sm_gi h2 104 8 = nI mk := (X2.1 104 8 (by unfold sxP; omega)).trans e1
              have hy : whyF G sh pl p r (xN x) (xB x) (xF x) = 0 := by
                unfold whyF; rw [ht]; dsimp only; rw [if_neg hs, if_neg (fun z => z ⟨hb, hpl⟩), if_neg hl, if_neg (by omega)]
              rw [g8, if_pos (show r < gR G ∧ whyF G sh pl p r (xN x) (xB x) (xF x) = 0 from ⟨hr, hy⟩)]
              rw [if_pos (show gBri G r = true ∧ pl ≠ some r from ⟨hb, hpl⟩)]
              rcases e2 with ⟨z1, z2⟩ | ⟨z1, z2, z3, z4⟩
              · have hm0 : xM x = 0 := by
                  rcases hm with z | z
                  · rw [z1] at z; cases z
                  · exact z
                rw [z2, if_pos (Int32.le_refl _), if_neg (by rw [z1]; decide)]
                obtain ⟨h3, a, b, c⟩ := fin h2 (xM x) _ hq E2 X2
                refine ⟨h3, ?_, b, c⟩
                rw [a, hm0]
                rfl
              · have hnb := nbr_lt4 hx hr hb
                rw [if_neg (by rw [nI_leI (by omega) (by decide)]; omega), if_pos z1, b77_124, c_bridgesBefore isD2 E2.2.2.1 hw (Nat.le_of_lt hr), bnd]
                simp only [app1, List.cons_append, List.nil_append]
                rw [b77_135, shl1 (by omega), fa_or]
                obtain ⟨h3, a, b, c⟩ := fin h2 (xM x ||| 2 ^ nbr G r) _ hq E2 X2
                refine ⟨h3, ?_, b, c⟩
                rw [a]
                unfold bbit
                rw [if_pos hb]
                rfl
            · rw [if_neg (by rw [nI_leI htn (by omega)]; exact hq), b77_114]
              refine ⟨h2, ?_, E2, X2⟩
              rw [if_neg (fun z => by have := z.2; unfold whyF at this; rw [ht] at this; dsimp only at this; rw [if_neg hs, if_neg (fun z => z ⟨hb, hpl⟩), if_neg hl, if_pos (by omega)] at this; omega)]
              rfl
      · rw [if_pos (by rw [bI_z]; exact hb)]
        obtain ⟨h3, a, b, c⟩ := fin h (xM x) 0 (Nat.zero_le _) ⟨hw, hx, hG, hK⟩ eqx.rf
        refine ⟨h3, ?_, b, c⟩
        have hy : whyF G sh pl p r (xN x) (xB x) (xF x) = 0 := by
          unfold whyF; rw [ht]; dsimp only; rw [if_neg hs, if_pos (fun z => hb z.1)]
        refine a.trans ?_
        rw [if_pos ⟨hr, hy⟩]
        rw [if_neg (fun z : gBri G r = true ∧ pl ≠ some r => hb z.1)]
        unfold bbit
        rw [if_neg hb, Nat.or_zero]
        have hmm : (if ov = true then xM x else 0) = xM x := by
          by_cases q : ov = true
          · rw [if_pos q]
          · rw [if_neg q]
            rcases hm with z | z
            · exact absurd z q
            · exact z.symm
        rw [hmm]
        rfl
/-! the tree of walks found so far, by the states' numbers -/
def TD (G : LG) (s : XS → Nat → Option XS) (ov : Bool) (x0 : XS) (D : Nat → Option (List Nat)) : Prop := (∀ c w, D c = some w → ∃ x, okX G x ∧ (ov = true ∨ xM x = 0) ∧ cdX x = c ∧ rn s x0 w = some x) ∧ D (cdX x0) = some [] ∧ ∀ c w r, D c = some (w ++ [r]) → ∃ x, rn s x0 w = some x ∧ D (cdX x) = some w
theorem snoc_or : ∀ w : List Nat, w = [] ∨ ∃ u r, w = u ++ [r]
  | [] => Or.inl rfl
  | a :: w => by
    rcases snoc_or w with h | ⟨u, r, h⟩
    · exact Or.inr ⟨[], a, by rw [h]; rfl⟩
    · exact Or.inr ⟨a :: u, r, by rw [h]; rfl⟩
section TREE
variable {G : LG} {sh p : Nat} {pl : Option Nat} {ov : Bool} {x0 : XS} {D : Nat → Option (List Nat)}
theorem TD_pre (T : TD G (stp G sh pl p ov) ov x0 D) : ∀ (n : Nat) (w : List Nat) (c : Nat), w.length = n → D c = some w → ∀ i, i ≤ n → ∃ x, rn (stp G sh pl p ov) x0 (w.take i) = some x ∧ D (cdX x) = some (w.take i)
  | 0, w, c, hl, hd, i, hi => by
    obtain ⟨x, -, -, hc, hr⟩ := T.1 c w hd
    have : w.take i = w := by rw [List.eq_nil_of_length_eq_zero hl]; simp
    rw [this]
    exact ⟨x, hr, by rw [hc]; exact hd⟩
  | n + 1, w, c, hl, hd, i, hi => by
    by_cases q : i = n + 1
    · obtain ⟨x, -, -, hc, hr⟩ := T.1 c w hd
      have : w.take i = w := List.take_of_length_le (by omega)
      rw [this]
      exact ⟨x, hr, by rw [hc]; exact hd⟩
    · rcases snoc_or w with z | ⟨u, r, z⟩
      · rw [z] at hl; simp at hl
      · subst z
        obtain ⟨x, hx1, hx2⟩ := T.2.2 c u r hd
        simp at hl
        rw [List.take_append_of_le_length (by omega)]
        exact TD_pre T n u (cdX x) (by omega) hx2 i (by omega)
theorem rn_dist (hw : wfG G) (hx : wfX G) {w : List Nat} {x y : XS} (ok : okX G x) (hm : ov = true ∨ xM x = 0) (h : rn (stp G sh pl p ov) x w = some y) (hdis : ∀ i j, i < j → j ≤ w.length → ∀ z, rn (stp G sh pl p ov) x (w.take i) = some z → rn (stp G sh pl p ov) x (w.take j) = some z → False) : w.length < 120 ∧ (ov = false → w.length < 96) := by
  have hex : ∀ i, ∃ z, rn (stp G sh pl p ov) x (w.take i) = some z ∧ rn (stp G sh pl p ov) z (w.drop i) = some y := fun i => by
    have h' := h
    rw [← List.take_append_drop i w, rn_app] at h'
    exact Option.bind_eq_some_iff.mp h'
  have hN := hw.1.2
  let f : Nat → Nat := fun i => lvX (hex i).choose * 6 + xF (hex i).choose
  have hinj : ∀ i j, i < j → j < w.length + 1 → f i ≠ f j := by
    intro i j hij hj e
    obtain ⟨a1, a2⟩ := (hex i).choose_spec
    obtain ⟨b1, b2⟩ := (hex j).choose_spec
    have e' : lvX (hex i).choose * 6 + xF (hex i).choose = lvX (hex j).choose * 6 + xF (hex j).choose := e
    generalize (hex i).choose = zi at a1 a2 e'
    generalize (hex j).choose = zj at b1 b2 e'
    have oki := rn_ok hw hx _ _ _ ok hm a1
    have okj := rn_ok hw hx _ _ _ ok hm b1
    have hmid : rn (stp G sh pl p ov) zi ((w.take j).drop i) = some zj := by
      have : rn (stp G sh pl p ov) x (w.take i ++ (w.take j).drop i) = some zj := by
        rw [show w.take i = (w.take j).take i by rw [List.take_take]; congr 1; omega, List.take_append_drop]
        exact b1
      rw [rn_app, a1] at this
      exact this
    have hf1 := oki.1.2.2.2
    have hf2 := okj.1.2.2.2
    have hlv := rn_lv hw hx _ _ _ oki.1 oki.2 hmid
    have : zi = zj := by
      rcases hlv with q | ⟨q1, q2, q3⟩
      · omega
      · have hl : lvX zj = lvX zi := by unfold lvX; rw [q1, q2, q3]
        have q4 : xF zj = xF zi := by omega
        obtain ⟨m1, m2, m3, m4⟩ := zi
        obtain ⟨k1, k2, k3, k4⟩ := zj
        have q1' : k1 = m1 := q1
        have q2' : k2 = m2 := q2
        have q3' : k3 = m3 := q3
        have q4' : k4 = m4 := q4
        rw [q1', q2', q3', q4']
    subst this
    exact hdis i j hij (by omega) zi a1 b1
  have hle : ∀ i, f i < 120 ∧ (ov = false → f i < 96) := fun i => by
    obtain ⟨a1, -⟩ := (hex i).choose_spec
    show lvX (hex i).choose * 6 + xF (hex i).choose < 120 ∧ (ov = false → lvX (hex i).choose * 6 + xF (hex i).choose < 96)
    generalize (hex i).choose = zi at a1
    obtain ⟨oki, hmi⟩ := rn_ok hw hx _ _ _ ok hm a1
    have c1 : pcnt (xM zi) 6 ≤ 4 := by
      have : ∀ m, m < 16 → pcnt m 6 ≤ 4 := by decide +kernel
      exact this _ oki.1
    have c2 := pcnt_le (xB zi) 6
    have c3 := oki.2.2.2
    refine ⟨by unfold lvX; omega, fun q => ?_⟩
    have : xM zi = 0 := by
      rcases hmi with z | z
      · rw [q] at z; cases z
      · exact z
    have c4 : pcnt (xM zi) 6 = 0 := by rw [this]; rfl
    unfold lvX; omega
  have hij : ∀ i j, i < w.length + 1 → j < w.length + 1 → f i = f j → i = j := fun i j hi hj e => by
    rcases Nat.lt_trichotomy i j with q | q | q
    · exact absurd e (hinj i j q hj)
    · exact q
    · exact absurd e.symm (hinj j i q hi)
  refine ⟨php 120 (w.length + 1) f (fun i hi => (hle i).1) hij, fun q => php 96 (w.length + 1) f (fun i hi => (hle i).2 q) hij⟩
theorem TD_len (hw : wfG G) (hx : wfX G) (ok : okX G x0) (hm : ov = true ∨ xM x0 = 0) (T : TD G (stp G sh pl p ov) ov x0 D) {c : Nat} {w : List Nat} (hd : D c = some w) : w.length < 120 ∧ (ov = false → w.length < 96) := by
  obtain ⟨y, -, -, -, hr⟩ := T.1 c w hd
  refine rn_dist hw hx ok hm hr (fun i j hij hj z a b => ?_)
  obtain ⟨x1, r1, d1⟩ := TD_pre T w.length w c rfl hd i (by omega)
  obtain ⟨x2, r2, d2⟩ := TD_pre T w.length w c rfl hd j hj
  rw [a] at r1
  rw [b] at r2
  cases r1
  cases r2
  rw [d1] at d2
  have := congrArg List.length (Option.some.inj d2)
  rw [List.length_take, List.length_take] at this
  omega
theorem TD_days (hw : wfG G) (hx : wfX G) (ok : okX G x0) (hm : ov = true ∨ xM x0 = 0) (T : TD G (stp G sh pl p ov) ov x0 D) {c : Nat} {w : List Nat} (hd : D c = some w) : dys (gLon G) w ≤ 2400 := by
  obtain ⟨y, -, -, -, hr⟩ := T.1 c w hd
  have := (TD_len hw hx ok hm T hd).1
  have := (rn_lon hw _ _ _ hr).2.1
  omega
end TREE
