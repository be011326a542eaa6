/-! ===== the class: what a search answers ===== -/
noncomputable def bW (G : LG) (sh : Nat) (pl : Option Nat) (p : Nat) (x0 : XS) (kd g : Nat) : Option (List Nat) := bst (gLon G) (gwk (stp G sh pl p false) (thK G kd g) (lpK G pl kd) x0)
def dyI (G : LG) : Option (List Nat) → Int32
  | none => -1
  | some w => nI (dys (gLon G) w)
theorem gw0 {G : LG} {sh p g : Nat} {pl : Option Nat} {ov : Bool} {x0 : XS} {w : List Nat} : gwk (stp G sh pl p ov) (thK G 0 g) (lpK G pl 0) x0 w ↔ ∃ y, rn (stp G sh pl p ov) x0 w = some y ∧ xF y = g := by
  rw [gwk_iff]
  constructor
  · rintro (⟨y, a, b⟩ | ⟨u, r, y, z, -, -, -, q⟩)
    · exact ⟨y, a, b.2.1⟩
    · exact absurd q.1 (by decide)
  · rintro ⟨y, a, b⟩
    exact Or.inl ⟨y, a, by decide, b, Or.inl rfl⟩
theorem gw1 {G : LG} {sh p g : Nat} {pl : Option Nat} {ov : Bool} {x0 : XS} {w : List Nat} : gwk (stp G sh pl p ov) (thK G 1 g) (lpK G pl 1) x0 w ↔ ∃ u r y z, w = u ++ [r] ∧ rn (stp G sh pl p ov) x0 u = some y ∧ stp G sh pl p ov y r = some z ∧ (gBri G r = true ∧ pl ≠ some r) ∧ ¬ xB y / 2 ^ xF z % 2 = 1 := by
  rw [gwk_iff]
  constructor
  · rintro (⟨y, a, b⟩ | ⟨u, r, y, z, a, b, c, q⟩)
    · exact absurd rfl b.1
    · exact ⟨u, r, y, z, a, b, c, q.2⟩
  · rintro ⟨u, r, y, z, a, b, c, q⟩
    exact Or.inr ⟨u, r, y, z, a, b, c, rfl, q⟩
section ANS
variable {G : LG} {sh p mk : Nat} {pl : Option Nat} {x0 : XS} {D : Nat → Option (List Nat)} {h : sm_H}
theorem nbt {u v : List Nat} (h : ¬ btr (gLon G) false u v) : ¬ wlt (gLon G) u v := fun z => h (Or.inr ⟨rfl, z⟩)
/-- of each place: none, or its best walk, and where it ends -/
theorem FS_end (hw : wfG G) (hx : wfX G) (ok0 : okX G x0) (hm0 : xM x0 = 0) (F : FS h G sh pl p false x0 D) {f : Nat} (hf : f < 6) : (sm_gi h 108 f = -1 ∧ bW G sh pl p x0 0 f = none) ∨ ∃ c w x, sm_gi h 108 f = nI c ∧ bW G sh pl p x0 0 f = some w ∧ D c = some w ∧ okX G x ∧ xM x = 0 ∧ cdX x = c ∧ rn (stp G sh pl p false) x0 w = some x ∧ xF x = f := by
  obtain ⟨T, ⟨tn, C⟩, B, N⟩ := F
  have cm : ∀ x, okX G x → cdX x % 6 = xF x := fun x ok => by
    obtain ⟨o1, o2, o3, o4⟩ := ok.b hw
    exact (cdX_parts o2 o3 o4).1
  have hit : ∀ v, gwk (stp G sh pl p false) (thK G 0 f) (lpK G pl 0) x0 v → ∃ c v', D c = some v' ∧ c % 6 = f ∧ ¬ wlt (gLon G) v v' := fun v hv => by
    obtain ⟨y, hy1, hy2⟩ := gw0.mp hv
    obtain ⟨v', hv1, hv2⟩ := B v y hy1
    have oky := (rn_ok hw hx _ _ _ ok0 (Or.inr hm0) hy1).1
    exact ⟨cdX y, v', hv1, (cm y oky).trans hy2, nbt hv2⟩
  unfold bW
  rcases (N rfl).2.1 f hf with ⟨a, b⟩ | ⟨c, w, a, -, e, g, k⟩
  · refine Or.inl ⟨a, bst_none (fun v hv => ?_)⟩
    obtain ⟨c, v', h1, h2, -⟩ := hit v hv
    exact b c v' trivial h2 h1
  · obtain ⟨x, okx, mx, hcx, hrx⟩ := T.1 c w g
    have mx0 : xM x = 0 := by
      rcases mx with q | q
      · cases q
      · exact q
    have hfx : xF x = f := by rw [← cm x okx, hcx]; exact e
    refine Or.inr ⟨c, w, x, a, bst_some ⟨gw0.mpr ⟨x, hrx, hfx⟩, fun v hv => ?_⟩, g, okx, mx0, hcx, hrx, hfx⟩
    obtain ⟨c', v', h1, h2, h3⟩ := hit v hv
    exact wlt_nt h3 (k c' v' trivial h2 h1)
theorem wlt_snoc (hw : wfG G) {u v : List Nat} {a b : XS} {r : Nat} (hu : rn (stp G sh pl p false) x0 u = some a) (hv : rn (stp G sh pl p false) x0 v = some b) (hn : ¬ wlt (gLon G) u v) : ¬ wlt (gLon G) (u ++ [r]) (v ++ [r]) := fun z => hn (by
  unfold wlt at z ⊢
  rw [dys_snoc, dys_snoc] at z
  rcases z with z | ⟨z, z2⟩
  · exact Or.inl (by omega)
  · have hd : dys (gLon G) u = dys (gLon G) v := by omega
    exact Or.inr ⟨hd, (llt_cut hw hu hv hd).mp z2⟩)
/-- the loophole: none, or its walk, and the state and road of its last step -/
theorem FS_loop (hw : wfG G) (hx : wfX G) (ok0 : okX G x0) (hm0 : xM x0 = 0) (hpl : pl = none) (F : FS h G sh pl p false x0 D) {g : Nat} : (sm_gi h 104 16 = -1 ∧ bW G sh pl p x0 1 g = none) ∨ ∃ c r w, sm_gi h 104 16 = nI (c * 12 + r) ∧ sm_gi h 104 15 = nI (dys (gLon G) (w ++ [r])) ∧ bW G sh pl p x0 1 g = some (w ++ [r]) ∧ D c = some w ∧ r < gR G := by
  obtain ⟨T, ⟨tn, C⟩, B, N⟩ := F
  have hit : ∀ v, gwk (stp G sh pl p false) (thK G 1 g) (lpK G pl 1) x0 v → ∃ c r w y z, itm G (stp G sh pl p false) (fun _ _ => True) D c r w y z ∧ ¬ xB y / 2 ^ xF z % 2 = 1 ∧ ¬ wlt (gLon G) v (w ++ [r]) := fun v hv => by
    obtain ⟨u, r, y, z, e1, e2, e3, e4, e5⟩ := gw1.mp hv
    obtain ⟨v', hv1, hv2⟩ := B u y e2
    have oky := (rn_ok hw hx _ _ _ ok0 (Or.inr hm0) e2).1
    obtain ⟨y2, ok2, -, hc2, hr2⟩ := T.1 _ _ hv1
    refine ⟨cdX y, r, v', y, z, ⟨trivial, hv1, oky, rfl, e3, e4.1⟩, e5, ?_⟩
    rw [e1]
    exact wlt_snoc hw e2 hr2 (nbt hv2)
  unfold bW
  rcases (N rfl).2.2.2 with ⟨a1, a2, a3⟩ | ⟨c, r, w, x, y, z1, z2, z3, z4, z5⟩
  · refine Or.inl ⟨a1, bst_none (fun v hv => ?_)⟩
    obtain ⟨c, r, w, y, z, h1, h2, -⟩ := hit v hv
    exact h2 (a3 c r w y z h1)
  · obtain ⟨-, h2, h3, h4, h5, h6⟩ := z1
    obtain ⟨x2, ok2, -, hc2, hr2⟩ := T.1 _ _ h2
    have hxx : x2 = x := cdX_inj hw ok2 h3 (hc2.trans h4.symm)
    subst hxx
    refine Or.inr ⟨c, r, w, z3, z4, bst_some ⟨gw1.mpr ⟨w, r, x2, y, rfl, hr2, h5, ⟨h6, by rw [hpl]; simp⟩, z2⟩, fun v hv => ?_⟩, h2, stp_r h5⟩
    obtain ⟨c', r', w', y', z', i1, i2, i3⟩ := hit v hv
    exact wlt_nt i3 (z5 c' r' w' y' z' i1 i2)
theorem c_daysTo (Q : cQ h G sh pl p false mk x0) (F : FS h G sh pl p false x0 D) {f : Nat} (hf : f < gN G) : xc 82 [.ref 104, .int (nI f)] h = some ([.int (dyI G (bW G sh pl p x0 0 f))], h) := by
  have hw := Q.1.1
  have hN := hw.1.2
  rw [en_82, b82_0]
  simp (disch := omega) only [in_108, if_true, nI_clamp]
  rcases FS_end hw Q.1.2.1 Q.2.2.1.1 Q.2.2.1.2 F (show f < 6 by omega) with ⟨a, b⟩ | ⟨c, w, x, a, b, e, okx, mx, hcx, -, -⟩
  · rw [a, b, if_pos rfl, b82_10, b82_25]
    rfl
  · have hc := (cdX_lt hw okx).1
    rw [hcx] at hc
    obtain ⟨tn, C⟩ := F.2.1
    rw [a, b, if_neg (by rw [nI_m1 (by omega)]; exact id), b82_14]
    simp (disch := omega) only [in_108, in_105, if_true, nI_clamp, a]
    rw [b82_25, (cD_get C hc e).1]
    rfl
noncomputable def pbI (G : LG) (sh : Nat) (pl : Option Nat) (p : Nat) (x0 : XS) (f : Nat) : Int32 := match bW G sh pl p x0 0 f with
  | none => -1
  | some w => match rn (stp G sh pl p false) x0 w with
    | none => -1
    | some y => nI (xN y)
theorem c_papersBehind (Q : cQ h G sh pl p false mk x0) (F : FS h G sh pl p false x0 D) {f : Nat} (hf : f < gN G) : xc 83 [.ref 104, .int (nI f)] h = some ([.int (pbI G sh pl p x0 f)], h) := by
  have hw := Q.1.1
  have hN := hw.1.2
  rw [en_83, b83_0]
  simp (disch := omega) only [in_108, if_true, nI_clamp]
  unfold pbI
  rcases FS_end hw Q.1.2.1 Q.2.2.1.1 Q.2.2.1.2 F (show f < 6 by omega) with ⟨a, b⟩ | ⟨c, w, x, a, b, e, okx, mx, hcx, hrx, -⟩
  · rw [a, b, if_pos rfl, b83_10, b83_29]
  · have hc := (cdX_lt hw okx).1
    rw [hcx] at hc
    obtain ⟨o1, o2, o3, o4⟩ := okx.b hw
    have h2 := (cdX_parts o2 o3 o4).2.1
    rw [hcx] at h2
    rw [a, b, if_neg (by rw [nI_m1 (by omega)]; exact id), b83_14]
    simp (disch := omega) only [in_108, if_true, nI_clamp, a]
    rw [b83_29, pk_div (by omega) (by decide) (by decide), pk_rem (by omega) (by decide) (by decide), h2, pk_sub (by omega), show 9 - (9 - xN x) = xN x by omega]
    rw [hrx]
theorem or_add {b k : Nat} (hb : b < 2 ^ k) : b ||| 2 ^ k = b + 2 ^ k := by
  have h := Nat.two_pow_add_eq_or_of_lt hb 1
  rw [Nat.mul_one] at h
  rw [Nat.or_comm, ← h, Nat.add_comm]
theorem bsN_uniq {f : Nat → Bool} {b : Nat} : ∀ (n : Nat), b < 2 ^ n → (∀ r, r < n → (b / 2 ^ r % 2 = 1 ↔ f r = true)) → b = bsN f n := by
  intro n hb hr
  apply Nat.eq_of_testBit_eq
  intro i
  have hl := bsN_lt f n
  by_cases q : i < n
  · have h1 := hr i q
    have h2 := bsN_bit f n i q
    rw [Nat.testBit_eq_decide_div_mod_eq, Nat.testBit_eq_decide_div_mod_eq]
    by_cases z : f i = true
    · rw [if_pos z] at h2
      rw [h2, h1.mpr z]
    · rw [if_neg z] at h2
      have : ¬ b / 2 ^ i % 2 = 1 := fun y => z (h1.mp y)
      rw [h2, show b / 2 ^ i % 2 = 0 by omega]
  · have hp : 2 ^ n ≤ 2 ^ i := Nat.pow_le_pow_right (by decide) (by omega)
    rw [Nat.testBit_lt_two_pow (by omega), Nat.testBit_lt_two_pow (by omega)]
theorem c_reached_loop (Q : cQ h G sh pl p false mk x0) (F : FS h G sh pl p false x0 D) : ∀ (m k : Nat), k + m = gN G → xe 1 84 4 [.ref 104, .int (nI (bsN (fun f => (bW G sh pl p x0 0 f).isSome) k)), .int (nI k)] [] h = some ([.int (nI (bsN (fun f => (bW G sh pl p x0 0 f).isSome) (gN G)))], h)
  | 0, k, e => by
    have : k = gN G := by omega
    subst this
    rw [b84_4, show sm_gi h 2 0 = nI (gN G) from Q.1.2.2.1.1.1, if_pos (Int32.le_refl _), b84_37]
  | m + 1, k, e => by
    have hw := Q.1.1
    have hN := hw.1.2
    have hb := bsN_lt (fun f => (bW G sh pl p x0 0 f).isSome) k
    rw [b84_4, show sm_gi h 2 0 = nI (gN G) from Q.1.2.2.1.1.1, if_neg (by rw [nI_leI (by omega) (by omega)]; omega), b84_15]
    simp (disch := omega) only [in_108, if_true, nI_clamp]
    have ih := c_reached_loop Q F m (k + 1) (by omega)
    rcases FS_end hw Q.1.2.1 Q.2.2.1.1 Q.2.2.1.2 F (show k < 6 by omega) with ⟨a, b⟩ | ⟨c, w, x, a, b, e', okx, mx, hcx, hrx, -⟩
    · rw [a, if_pos rfl, b84_31, nI_add]
      rw [show bsN (fun f => (bW G sh pl p x0 0 f).isSome) (k + 1) = bsN (fun f => (bW G sh pl p x0 0 f).isSome) k by
        show _ + (if (bW G sh pl p x0 0 k).isSome = true then 2 ^ k else 0) = _
        rw [b]; rfl] at ih
      exact ih
    · have hc := (cdX_lt hw okx).1
      rw [hcx] at hc
      rw [a, if_neg (by rw [nI_m1 (by omega)]; exact id), b84_25, b84_31, nI_add, shl1 (by omega), fa_or]
      rw [show bsN (fun f => (bW G sh pl p x0 0 f).isSome) (k + 1) = bsN (fun f => (bW G sh pl p x0 0 f).isSome) k ||| 2 ^ k by
        show _ + (if (bW G sh pl p x0 0 k).isSome = true then 2 ^ k else 0) = _
        rw [b, or_add hb]; rfl] at ih
      exact ih
theorem c_reached (Q : cQ h G sh pl p false mk x0) (F : FS h G sh pl p false x0 D) : xc 84 [.ref 104] h = some ([.int (nI (bsN (fun f => (bW G sh pl p x0 0 f).isSome) (gN G)))], h) := by
  rw [en_84, b84_0]
  exact c_reached_loop Q F (gN G) 0 (by omega)
theorem c_daysToLoophole (Q : cQ h G sh pl p false mk x0) (hpl : pl = none) (F : FS h G sh pl p false x0 D) {g : Nat} : xc 85 [.ref 104] h = some ([.int (dyI G (bW G sh pl p x0 1 g))], h) := by
  have hw := Q.1.1
  have hR := hw.2.1
  rw [en_85, b85_0]
  rcases FS_loop hw Q.1.2.1 Q.2.2.1.1 Q.2.2.1.2 hpl F (g := g) with ⟨a, b⟩ | ⟨c, r, w, a1, a2, b, e, hr⟩
  · rw [a, b, if_pos rfl, b85_8, b85_16]
    rfl
  · obtain ⟨x, okx, -, hcx, -⟩ := F.1.1 c w e
    have hc := (cdX_lt hw okx).1
    rw [hcx] at hc
    rw [a1, b, if_neg (by rw [nI_m1 (by omega)]; exact id), b85_12, b85_16, a2]
    rfl
/-- roads spelled: the last one first -/
def spl (h : sm_H) (w : List Nat) : Prop := sm_gi h 104 18 = nI w.length ∧ w.length ≤ 96 ∧ ∀ i, i < w.length → sm_gi h 109 (w.length - 1 - i) = nI (w.getD i 0)
def sxJ : Nat → Nat → Prop := fun c i => c = 109 ∨ (c = 104 ∧ i = 18)
theorem in_109 {n : Nat} (hn : n < 96) : sm_in 109 (nI n) ↔ True := in_ln (by omega) (by rw [ln_109]; exact hn)
theorem getD_snoc' {u : List Nat} {r j : Nat} (hj : j < u.length) : (u ++ [r]).getD j 0 = u.getD j 0 := by
  rw [List.getD_eq_getElem?_getD, List.getElem?_append_left hj, ← List.getD_eq_getElem?_getD]
theorem getD_last' {u : List Nat} {r : Nat} : (u ++ [r]).getD u.length 0 = r := by
  rw [List.getD_eq_getElem?_getD, List.getElem?_append_right (Nat.le_refl _), Nat.sub_self]; rfl
theorem c_spellBack_loop (Q : cQ h G sh pl p false mk x0) (F : FS h G sh pl p false x0 D) : ∀ (n : Nat) (u : List Nat) (c r i : Nat) (h1 : sm_H), u.length = n → D c = some u → r < 12 → i + n + 1 ≤ 96 → eqx sxJ h h1 →
    ∃ h2, xe 1 88 4 [.ref 104, .int (nI (c * 12 + r)), .int (nI 1), .int (nI i)] [] h1 = some ([], h2) ∧ sm_gi h2 104 18 = nI (i + n + 1) ∧ (∀ j, j ≤ n → sm_gi h2 109 (i + j) = nI ((u ++ [r]).getD (n - j) 0)) ∧ (∀ j, j < i → sm_gi h2 109 j = sm_gi h1 109 j) ∧ eqx sxJ h h2 := by
  have hw := Q.1.1
  have hx := Q.1.2.1
  have hR := hw.2.1
  intro n
  induction n with
  | zero =>
    intro u c r i h1 hl hd hr hi E
    have hu : u = [] := List.eq_nil_of_length_eq_zero hl
    obtain ⟨x, okx, -, hcx, hrx⟩ := F.1.1 c u hd
    have hc := (cdX_lt hw okx).1
    rw [hcx] at hc
    have F1 := FS_eqx F E (fun c i z => by unfold sxJ at z; omega)
    obtain ⟨tn, C⟩ := F1.2.1
    rw [b88_4, if_neg (by rw [nI_leI (by omega) (by omega)]; omega), b88_10, if_neg (by decide +kernel), b88_14]
    simp (disch := omega) only [in_109, if_true, nI_clamp]
    rw [pk_rem (by omega) (by decide) (by decide), show (c * 12 + r) % 12 = r by omega, b88_24, nI_add, b88_31, div12 (by omega) hr]
    simp (disch := omega) only [in_105, if_true, nI_clamp, gi_cell, (cD_get C hc hd).1]
    rw [hu, show dys (gLon G) [] = 0 from rfl, if_pos (show nI 0 ≤ 0 by decide +kernel), b88_47, b88_48, if_pos (by decide +kernel), b88_65, b88_66, nI_add, b88_4]
    have fin : (if nI 96 ≤ nI (i + 1) then xe 1 88 73 [.ref 104, .int (nI (c * 12 + r)), .int (nI 0), .int (nI (i + 1))] [] (sm_si (sm_si h1 109 i (nI r)) 104 18 (nI (i + 1))) else xe 1 88 10 [.ref 104, .int (nI (c * 12 + r)), .int (nI 0), .int (nI (i + 1))] [] (sm_si (sm_si h1 109 i (nI r)) 104 18 (nI (i + 1)))) = some ([], sm_si (sm_si h1 109 i (nI r)) 104 18 (nI (i + 1))) := by
      split
      · rw [b88_73]
      · rw [b88_10, if_pos (by decide +kernel), b88_73]
    rw [fin]
    refine ⟨_, rfl, gi_same, fun j hj => ?_, fun j hj => by rw [gi_cell (by decide), gi_slot (by omega)], (E.si (by unfold sxJ; omega)).si (by unfold sxJ; omega)⟩
    have : j = 0 := by omega
    subst this
    rw [gi_cell (by decide), Nat.add_zero, gi_same]
    rfl
  | succ n ih =>
    intro u c r i h1 hl hd hr hi E
    obtain ⟨x, okx, mx, hcx, hrx⟩ := F.1.1 c u hd
    have hc := (cdX_lt hw okx).2 (by rcases mx with q | q; cases q; exact q)
    rw [hcx] at hc
    have F1 := FS_eqx F E (fun c i z => by unfold sxJ at z; omega)
    obtain ⟨tn, C⟩ := F1.2.1
    rcases snoc_or u with z | ⟨u', r', z⟩
    · rw [z] at hl; cases hl
    · subst z
      simp at hl
      obtain ⟨x', hx1, hx2⟩ := F.1.2.2 c u' r' hd
      have hr' := (rn_lon hw _ _ _ hrx).2.2 r' (by simp)
      have hlr := hw.2.2.2.1 r' hr'
      have hdy := TD_days hw hx Q.2.2.1.1 (Or.inr Q.2.2.1.2) F.1 hd
      have hpos : dys (gLon G) (u' ++ [r']) ≠ 0 := by rw [dys_snoc]; omega
      rw [b88_4, if_neg (by rw [nI_leI (by omega) (by omega)]; omega), b88_10, if_neg (by decide +kernel), b88_14]
      simp (disch := omega) only [in_109, if_true, nI_clamp]
      rw [pk_rem (by omega) (by decide) (by decide), show (c * 12 + r) % 12 = r by omega, b88_24, nI_add, b88_31, div12 (by omega) hr]
      simp (disch := omega) only [in_105, if_true, nI_clamp, gi_cell, (cD_get C (show c < 61440 by omega) hd).1]
      rw [if_neg (by rw [nI_le0 (by omega)]; exact hpos), b88_43, b88_48, if_neg (by decide +kernel), b88_53, div12 (by omega) hr]
      simp (disch := omega) only [in_106, if_true, nI_clamp, gi_cell, (F1.2.2.2 rfl).1 c u' r' x' hd hx1]
      rw [b88_66, nI_add]
      obtain ⟨h2, e2, a2, b2, c2, E2⟩ := ih u' (cdX x') r' (i + 1) (sm_si (sm_si h1 109 i (nI r)) 104 18 (nI (i + 1))) hl hx2 (by omega) (by omega) ((E.si (by unfold sxJ; omega)).si (by unfold sxJ; omega))
      refine ⟨h2, e2, by rw [a2]; congr 1; omega, fun j hj => ?_, fun j hj => by rw [c2 j (by omega), gi_cell (by decide), gi_slot (by omega)], E2⟩
      cases j with
      | zero =>
        rw [Nat.add_zero, c2 i (by omega), gi_cell (by decide), gi_same, Nat.sub_zero]
        have hlen : (u' ++ [r']).length = n + 1 := by simp; omega
        rw [← hlen, getD_last']
      | succ j =>
        rw [show i + (j + 1) = i + 1 + j by omega, b2 j (by omega), show n + 1 - (j + 1) = n - j by omega]
        rw [getD_snoc' (u := u' ++ [r']) (by simp; omega)]
theorem c_spellBack (Q : cQ h G sh pl p false mk x0) (F : FS h G sh pl p false x0 D) {u : List Nat} {c r : Nat} {h1 : sm_H} (hd : D c = some u) (hr : r < 12) (E : eqx sxJ h h1) : ∃ h2, xc 88 [.ref 104, .int (nI (c * 12 + r))] h1 = some ([], h2) ∧ spl h2 (u ++ [r]) ∧ eqx sxJ h h2 := by
  have hl := (TD_len Q.1.1 Q.1.2.1 Q.2.2.1.1 (Or.inr Q.2.2.1.2) F.1 hd).2 rfl
  rw [en_88, b88_0]
  obtain ⟨h2, e2, a2, b2, -, E2⟩ := c_spellBack_loop Q F u.length u c r 0 h1 rfl hd hr (by omega) E
  refine ⟨h2, e2, ⟨by rw [a2]; simp, by simp; omega, fun i hi => ?_⟩, E2⟩
  simp at hi
  have := b2 (u.length - i) (by omega)
  rw [Nat.zero_add, show u.length - (u.length - i) = i by omega] at this
  rw [show (u ++ [r]).length - 1 - i = u.length - i by simp, this]
theorem c_spellTo (Q : cQ h G sh pl p false mk x0) (F : FS h G sh pl p false x0 D) {f : Nat} (hf : f < gN G) : ∃ h2, xc 86 [.ref 104, .int (nI f)] h = some ([], h2) ∧ spl h2 ((bW G sh pl p x0 0 f).getD []) ∧ eqx sxJ h h2 := by
  have hw := Q.1.1
  have hx := Q.1.2.1
  have hN := hw.1.2
  have hR := hw.2.1
  have E0 : eqx sxJ h (sm_si h 104 18 (nI 0)) := eqx.rf.si (by unfold sxJ; omega)
  have F0 := FS_eqx F E0 (fun c i z => by unfold sxJ at z; omega)
  have s0 : spl (sm_si h 104 18 (nI 0)) [] := ⟨gi_same, by decide, fun i hi => by simp at hi⟩
  rw [en_86, b86_0, b86_5]
  simp (disch := omega) only [in_108, if_true, nI_clamp]
  rcases FS_end hw hx Q.2.2.1.1 Q.2.2.1.2 F0 (show f < 6 by omega) with ⟨a, b⟩ | ⟨c, w, x, a, b, e, okx, mx, hcx, hrx, -⟩
  · rw [a, b, if_pos rfl, b86_44]
    exact ⟨_, rfl, s0, E0⟩
  · have hc := (cdX_lt hw okx).2 mx
    rw [hcx] at hc
    obtain ⟨tn, C⟩ := F0.2.1
    have hdy := TD_days hw hx Q.2.2.1.1 (Or.inr Q.2.2.1.2) F.1 e
    rw [a, b, if_neg (by rw [nI_m1 (by omega)]; exact id), b86_15]
    simp (disch := omega) only [in_108, in_105, if_true, nI_clamp, a, (cD_get C (show c < 61440 by omega) e).1]
    rcases snoc_or w with z | ⟨u, r, z⟩
    · rw [z, show dys (gLon G) [] = 0 from rfl, if_pos (show nI 0 ≤ 0 by decide +kernel), b86_44]
      exact ⟨_, rfl, s0, E0⟩
    · subst z
      have hr := (rn_lon hw _ _ _ hrx).2.2 r (by simp)
      have hlr := hw.2.2.2.1 r hr
      obtain ⟨x', hx1, hx2⟩ := F.1.2.2 c u r e
      rw [if_neg (by rw [nI_le0 (by omega), dys_snoc]; omega), b86_29]
      simp (disch := omega) only [in_108, in_106, if_true, nI_clamp, a, (F0.2.2.2 rfl).1 c u r x' e hx1]
      obtain ⟨h2, e2, S2, E2⟩ := c_spellBack Q F hx2 (show r < 12 by omega) E0
      rw [e2, bnd]
      simp only [List.nil_append]
      rw [b86_44]
      exact ⟨h2, rfl, S2, E2⟩
theorem c_spellLoophole (Q : cQ h G sh pl p false mk x0) (hpl : pl = none) (F : FS h G sh pl p false x0 D) {g : Nat} : ∃ h2, xc 87 [.ref 104] h = some ([], h2) ∧ spl h2 ((bW G sh pl p x0 1 g).getD []) ∧ eqx sxJ h h2 := by
  have hw := Q.1.1
  have hx := Q.1.2.1
  have hR := hw.2.1
  have E0 : eqx sxJ h (sm_si h 104 18 (nI 0)) := eqx.rf.si (by unfold sxJ; omega)
  have F0 := FS_eqx F E0 (fun c i z => by unfold sxJ at z; omega)
  have s0 : spl (sm_si h 104 18 (nI 0)) [] := ⟨gi_same, by decide, fun i hi => by simp at hi⟩
  rw [en_87, b87_0, b87_5]
  rcases FS_loop hw hx Q.2.2.1.1 Q.2.2.1.2 hpl F0 (g := g) with ⟨a, b⟩ | ⟨c, r, w, a1, a2, b, e, hr⟩
  · rw [a, b, if_pos rfl, b87_21]
    exact ⟨_, rfl, s0, E0⟩
  · obtain ⟨x, okx, -, hcx, -⟩ := F.1.1 c w e
    have hc := (cdX_lt hw okx).1
    rw [hcx] at hc
    rw [a1, b, if_neg (by rw [nI_m1 (by omega)]; exact id), b87_13, a1]
    obtain ⟨h2, e2, S2, E2⟩ := c_spellBack Q F e (show r < 12 by omega) E0
    rw [e2, bnd]
    simp only [List.nil_append]
    rw [b87_21]
    exact ⟨h2, rfl, S2, E2⟩
def wI (w : List Nat) (i : Int32) : Int32 := if isN i.toInt64 w.length then nI (w.getD (toN i) 0) else -1
theorem c_spelledRoad {w : List Nat} {i : Int32} (S : spl h w) : xc 89 [.ref 104, .int i] h = some ([.int (wI w i)], h) := by
  obtain ⟨a, b, c⟩ := S
  rw [en_89, b89_0]
  unfold wI
  have hi := isN_i32 (p := i) (P := w.length) (by omega)
  by_cases q : isN i.toInt64 w.length
  · rw [if_pos q, if_neg (Int32.not_lt.mpr (hi.mpr q).1), b89_4, a, if_pos (hi.mpr q).2, b89_16, a]
    obtain ⟨k, hk, rfl⟩ := isN_nI q (by omega)
    rw [sub1 (by omega), pk_sub (by omega)]
    simp (disch := omega) only [in_109, if_true, nI_clamp]
    rw [b89_29, c k hk, toN_nI (by omega)]
  · rw [if_neg q]
    by_cases q2 : i < 0
    · rw [if_pos q2, b89_12, b89_29]
    · rw [if_neg q2, b89_4, a, if_neg (fun z => q (hi.mp ⟨Int32.not_lt.mp q2, z⟩)), b89_12, b89_29]
end ANS
