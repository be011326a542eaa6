/-! ===== the model: the roads of the best walk ===== -/
theorem gwk_iff {s : XS → Nat → Option XS} {T : XS → Prop} {Lp : XS → Nat → XS → Prop} : ∀ (w : List Nat) (x : XS), gwk s T Lp x w ↔ ((∃ y, rn s x w = some y ∧ T y) ∨ ∃ u r y z, w = u ++ [r] ∧ rn s x u = some y ∧ s y r = some z ∧ Lp y r z)
  | [], x => by
    constructor
    · intro h; exact Or.inl ⟨x, rfl, h⟩
    · rintro (⟨y, h1, h2⟩ | ⟨u, r, y, z, h1, -⟩)
      · cases h1; exact h2
      · simp at h1
  | a :: w, x => by
    constructor
    · rintro ⟨y, hy, ⟨rfl, hl⟩ | hg⟩
      · exact Or.inr ⟨[], a, x, y, rfl, rfl, hy, hl⟩
      · rcases (gwk_iff w y).mp hg with ⟨z, h1, h2⟩ | ⟨u, r, z, z', h1, h2, h3, h4⟩
        · exact Or.inl ⟨z, by show (s x a).bind _ = _; rw [hy]; exact h1, h2⟩
        · exact Or.inr ⟨a :: u, r, z, z', by rw [h1]; rfl, by show (s x a).bind _ = _; rw [hy]; exact h2, h3, h4⟩
    · rintro (⟨y, h1, h2⟩ | ⟨u, r, y, z, h1, h2, h3, h4⟩)
      · obtain ⟨y', h3, h4⟩ := Option.bind_eq_some_iff.mp h1
        exact ⟨y', h3, Or.inr ((gwk_iff w y').mpr (Or.inl ⟨y, h4, h2⟩))⟩
      · cases u with
        | nil =>
          simp only [List.nil_append, List.cons.injEq] at h1
          obtain ⟨rfl, rfl⟩ := h1
          cases h2
          exact ⟨z, h3, Or.inl ⟨rfl, h4⟩⟩
        | cons b u =>
          simp only [List.cons_append, List.cons.injEq] at h1
          obtain ⟨rfl, rfl⟩ := h1
          obtain ⟨y', h5, h6⟩ := Option.bind_eq_some_iff.mp h2
          exact ⟨y', h5, Or.inr ((gwk_iff _ y').mpr (Or.inr ⟨u, r, y, z, rfl, h6, h3, h4⟩))⟩
section ROADS
variable {G : LG} {sh p n kd g : Nat} {pl : Option Nat} {ov : Bool} {K : Nat → XS} {x0 : XS} {st : Nat → Nat}
theorem gwk_rn {w : List Nat} {x : XS} (h : gwk (stp G sh pl p ov) (thK G kd g) (lpK G pl kd) x w) : ∃ y, rn (stp G sh pl p ov) x w = some y := by
  rcases (gwk_iff w x).mp h with ⟨y, h1, -⟩ | ⟨u, r, y, z, h1, h2, h3, -⟩
  · exact ⟨y, h1⟩
  · exact ⟨z, by rw [h1]; exact rn_snoc h2 h3⟩
theorem gwk_few (hw : wfG G) (hx : wfX G) {w : List Nat} {x : XS} (ok : okX G x) (hm : ov = true ∨ xM x = 0) (h : gwk (stp G sh pl p ov) (thK G kd g) (lpK G pl kd) x w) : ∃ v, gwk (stp G sh pl p ov) (thK G kd g) (lpK G pl kd) x v ∧ dys (gLon G) v ≤ 2420 := by
  rcases (gwk_iff w x).mp h with ⟨y, h1, h2⟩ | ⟨u, r, y, z, h1, h2, h3, h4⟩
  · obtain ⟨v, a, -, c⟩ := rn_few hw hx ok hm h1
    exact ⟨v, (gwk_iff v x).mpr (Or.inl ⟨y, a, h2⟩), by omega⟩
  · obtain ⟨v, a, -, c⟩ := rn_few hw hx ok hm h2
    refine ⟨v ++ [r], (gwk_iff _ x).mpr (Or.inr ⟨v, r, y, z, rfl, a, h3, h4⟩), ?_⟩
    rw [dys_snoc]
    have := hw.2.2.2.1 r (stp_r h3)
    omega
theorem SB_of {h : sm_H} (H : mN h G sh pl p ov n K x0) {k r : Nat} {y : XS} (hk : k < n) (hr : r < gR G) (hs : stp G sh pl p ov (K k) r = some y) : ∃ i, i < n ∧ K i = y ∧ SB G pl (stp G sh pl p ov) n K kd st k r (if lpK G pl kd (K k) r y then gLon G r else st i + gLon G r) := by
  have hc := H.2.2 k hk r hr
  unfold cmOK at hc
  rw [hs] at hc
  obtain ⟨i, hi, -, hKi⟩ := hc
  refine ⟨i, hi, hKi, ?_⟩
  unfold SB
  rw [hs]
  dsimp only
  by_cases q : lpK G pl kd (K k) r y
  · rw [if_pos q]; exact Or.inl ⟨q, rfl⟩
  · rw [if_neg q]; exact Or.inr ⟨q, i, hi, hKi, rfl⟩
theorem st_low {h : sm_H} (H : mN h G sh pl p ov n K x0) (J : stJ G pl (stp G sh pl p ov) n K kd g st) (F : stF G pl (stp G sh pl p ov) n K kd st) : ∀ (w : List Nat) (j : Nat), j < n → gwk (stp G sh pl p ov) (thK G kd g) (lpK G pl kd) (K j) w → st j ≤ dys (gLon G) w
  | [], j, hj, hg => by rw [(J j hj).2.1 hg]; exact Nat.zero_le _
  | r :: w, j, hj, hg => by
    obtain ⟨y, hy, hg⟩ := hg
    have hr := stp_r hy
    obtain ⟨i, hi, hKi, hsb⟩ := SB_of (kd := kd) (st := st) H hj hr hy
    have hle := F j hj r hr _ hsb
    show st j ≤ gLon G r + dys (gLon G) w
    by_cases q : lpK G pl kd (K j) r y
    · rw [if_pos q] at hle; omega
    · rw [if_neg q] at hle
      rcases hg with ⟨-, z⟩ | z
      · exact absurd z q
      · have := st_low H J F w i hi (by rw [hKi]; exact z)
        omega
/-- a walk comes where it would just when days are told, and they are its days at least -/
theorem st_zero {h : sm_H} (H : mN h G sh pl p ov n K x0) (J : stJ G pl (stp G sh pl p ov) n K kd g st) (F : stF G pl (stp G sh pl p ov) n K kd st) (hm : ov = true ∨ xM x0 = 0) : (st 0 < 268435456 → st 0 ≤ 2420) ∧ ((∃ w, gwk (stp G sh pl p ov) (thK G kd g) (lpK G pl kd) x0 w) ↔ st 0 < 268435456) := by
  have h0 := H.2.1.2.2.1
  have hK0 := H.2.1.2.2.2.1
  have key : (∃ w, gwk (stp G sh pl p ov) (thK G kd g) (lpK G pl kd) x0 w) → st 0 ≤ 2420 := by
    rintro ⟨w, hg⟩
    obtain ⟨v, a, b⟩ := gwk_few H.1.2.1 H.1.2.2.1 (by rw [← hK0]; exact H.2.1.2.1 0 h0) hm hg
    have := st_low H J F v 0 h0 (by rw [hK0]; exact a)
    omega
  have key2 : st 0 < 268435456 → ∃ w, gwk (stp G sh pl p ov) (thK G kd g) (lpK G pl kd) x0 w := fun q => by
    obtain ⟨w, a, -⟩ := (J 0 h0).2.2 q
    rw [hK0] at a
    exact ⟨w, a⟩
  exact ⟨fun q => key (key2 q), fun q => by have := key q; omega, key2⟩
theorem m_roads_find {i k : Nat} {h1 : sm_H} (H1 : mN h1 G sh pl p ov n K x0) (hkd : kd ≤ 2) (hk : k < n) (a : ∀ j, j < n → sm_gi h1 179 j = nI (st j)) (J : stJ G pl (stp G sh pl p ov) n K kd g st) (hex : ∃ r, r < gR G ∧ SB G pl (stp G sh pl p ov) n K kd st k r (st k)) : ∀ (m r : Nat), r + m = gR G → (∀ r', r' < r → ∀ v, SB G pl (stp G sh pl p ov) n K kd st k r' v → v ≠ st k) →
    ∃ r1, r1 < gR G ∧ SB G pl (stp G sh pl p ov) n K kd st k r1 (st k) ∧ (∀ r', r' < r1 → ∀ v, SB G pl (stp G sh pl p ov) n K kd st k r' v → v ≠ st k) ∧ xe 4 234 24 [.ref 169, .int (nI kd), .int (nI i), .int (nI k), .int (nI 0), .int (nI r)] [] h1 = xe 4 234 47 [.ref 169, .int (nI kd), .int (nI i), .int (nI k), .int (nI 0), .int (nI r1)] [] h1
  | 0, r, e, b => by
    obtain ⟨r0, h1, h2⟩ := hex
    exact absurd rfl (b r0 (by omega) _ h2)
  | m + 1, r, e, b => by
    have hn := H1.2.1.1.2.1
    obtain ⟨v, ev, hv⟩ := m_stillBy (r := r) H1 hk (by omega) a hkd
    have hlon : gLon G r ≤ 20 := by have := H1.1.2.1.2.2.2.1 r (by omega); omega
    have hvb : v < 2 ^ 31 := by
      have hv' := hv
      unfold SB at hv'
      cases hs : stp G sh pl p ov (K k) r with
      | none => rw [hs] at hv'; dsimp only at hv'; omega
      | some y =>
        rw [hs] at hv'
        rcases hv' with ⟨-, q⟩ | ⟨-, i, q1, q2, q3⟩
        · omega
        · have := (J i q1).1; omega
    have hjk := (J k hk).1
    by_cases q : v = st k
    · refine ⟨r, by omega, by rw [← q]; exact hv, b, ?_⟩
      rw [b234_24, ev, bnd]
      simp only [app1, List.cons_append, List.nil_append]
      rw [b234_32]
      simp (disch := omega) only [in_179, if_true, nI_clamp, a k hk]
      rw [if_pos (by rw [q])]
    · obtain ⟨r1, c1, c2, c3, c4⟩ := m_roads_find H1 hkd hk a J hex m (r + 1) (by omega) (fun r' h' v' hv' => by
        by_cases z : r' = r
        · subst z; rw [← SB_fun H1 hv hv']; exact q
        · exact b r' (by omega) v' hv')
      refine ⟨r1, c1, c2, c3, ?_⟩
      rw [b234_24, ev, bnd]
      simp only [app1, List.cons_append, List.nil_append]
      rw [b234_32]
      simp (disch := omega) only [in_179, if_true, nI_clamp, a k hk]
      rw [if_neg (by rw [nI_eq hvb (by omega)]; exact q), b234_41, nI_add]
      exact c4
def sxR : Nat → Nat → Prop := fun c i => c = 181 ∨ (c = 169 ∧ i = 27)
theorem mN_R {h h2 : sm_H} (H : mN h G sh pl p ov n K x0) (E : eqx sxR h h2) : mN h2 G sh pl p ov n K x0 := mN_eqx H E (fun c i z => by unfold sxR at z; omega)
theorem m_roads_fin {i k : Nat} {l4 : Int32} {l5 : Value} {h1 : sm_H} (H1 : mN h1 G sh pl p ov n K x0) (hk : k < n) : xe 4 234 96 [.ref 169, .int (nI kd), .int (nI i), .int (nI k), .int l4, l5] [] h1 = some ([.int (nI i)], sm_si h1 169 27 (nI (xN (K k)))) := by
  have hn := H1.2.1.1.2.1
  have hw := H1.1.2.1
  obtain ⟨b1, b2, b3, b4⟩ := (H1.2.1.2.1 k hk).b hw
  obtain ⟨c1, c2, c3, c4⟩ := sdX_parts b1 b2 b3
  have hsd := sdX_lt hw (H1.2.1.2.1 k hk)
  rw [b234_96]
  simp (disch := omega) only [in_177, if_true, nI_clamp, (H1.2.1.1.2.2.1 k hk).1]
  rw [pk_div (d := 1024) (by omega) (by decide) (by decide), pk_rem (by omega) (by decide) (by decide), c3, b234_113]
theorem dys_zero (hw : wfG G) {w : List Nat} {x y : XS} (h : rn (stp G sh pl p ov) x w = some y) (h0 : dys (gLon G) w = 0) : w = [] := by
  have := (rn_lon hw _ _ _ h).1
  exact List.eq_nil_of_length_eq_zero (by omega)
theorem m_roads_loop {h : sm_H} (H : mN h G sh pl p ov n K x0) (hkd : kd ≤ 2) (J : stJ G pl (stp G sh pl p ov) n K kd g st) (F : stF G pl (stp G sh pl p ov) n K kd st) : ∀ (N k i : Nat) (h1 : sm_H) (l5 : Value), st k ≤ N → k < n → st k < 268435456 → i + st k ≤ 2500 → (∀ j, j < n → sm_gi h1 179 j = nI (st j)) → eqx sxR h h1 →
    ∃ w k' h2, xe 4 234 7 [.ref 169, .int (nI kd), .int (nI i), .int (nI k), .int (nI 0), l5] [] h1 = some ([.int (nI (i + w.length))], h2) ∧ bes (gLon G) (gwk (stp G sh pl p ov) (thK G kd g) (lpK G pl kd) (K k)) w ∧ dys (gLon G) w = st k ∧ (∀ j, j < w.length → sm_gi h2 181 (i + j) = nI (w.getD j 0)) ∧ (∀ j, j < i → sm_gi h2 181 j = sm_gi h1 181 j) ∧ rn (stp G sh pl p ov) (K k) w = some (K k') ∧ k' < n ∧ sm_gi h2 169 27 = nI (xN (K k')) ∧ eqx sxR h h2 := by
  intro N
  induction N with
  | zero =>
    intro k i h1 l5 hN hk hfin hi a E
    have H1 := mN_R H E
    have hn := H1.2.1.1.2.1
    have h0 : st k = 0 := by omega
    obtain ⟨w, hg, hd⟩ := (J k hk).2.2 hfin
    obtain ⟨y, hy⟩ := gwk_rn hg
    have hwn := dys_zero H1.1.2.1 hy (by omega)
    subst hwn
    rw [b234_7, if_pos (by decide +kernel), b234_12]
    simp (disch := omega) only [in_179, if_true, nI_clamp, a k hk]
    rw [if_pos (by rw [h0]; decide +kernel), m_roads_fin H1 hk]
    refine ⟨[], k, _, rfl, ⟨hg, fun v hv z => ?_⟩, h0.symm, fun j hj => by simp at hj, fun j hj => gi_cell (by decide), rfl, hk, gi_same, E.si (by unfold sxR; omega)⟩
    rcases z with z | z
    · exact absurd z (Nat.not_lt_zero _)
    · cases v <;> exact z.2
  | succ N ih =>
    intro k i h1 l5 hN hk hfin hi a E
    have H1 := mN_R H E
    have hn := H1.2.1.1.2.1
    have hw := H1.1.2.1
    by_cases h0 : st k = 0
    · exact ih k i h1 l5 (by omega) hk hfin hi a E
    · rw [b234_7, if_pos (by decide +kernel), b234_12]
      simp (disch := omega) only [in_179, if_true, nI_clamp, a k hk]
      rw [if_neg (by rw [nI_le0 (by omega)]; exact h0), b234_21]
      -- there is a road by which the days are just these
      have sbw : ∀ r v, gwk (stp G sh pl p ov) (thK G kd g) (lpK G pl kd) (K k) (r :: v) → dys (gLon G) (r :: v) = st k → r < gR G ∧ SB G pl (stp G sh pl p ov) n K kd st k r (st k) := by
        intro r v hg hd
        have hg' := hg
        obtain ⟨y, hy, hgy⟩ := hg'
        have hr := stp_r hy
        obtain ⟨i', hi', hKi, hsb⟩ := SB_of (kd := kd) (st := st) H1 hk hr hy
        have hle := F k hk r hr _ hsb
        have hd' : gLon G r + dys (gLon G) v = st k := hd
        refine ⟨hr, ?_⟩
        by_cases q : lpK G pl kd (K k) r y
        · rw [if_pos q] at hle hsb
          rw [show st k = gLon G r by omega]; exact hsb
        · rw [if_neg q] at hle hsb
          rcases hgy with ⟨-, z⟩ | z
          · exact absurd z q
          · have := st_low H1 J F v i' hi' (by rw [hKi]; exact z)
            rw [show st k = st i' + gLon G r by omega]; exact hsb
      obtain ⟨w0, hg0, hd0⟩ := (J k hk).2.2 hfin
      have hex : ∃ r, r < gR G ∧ SB G pl (stp G sh pl p ov) n K kd st k r (st k) := by
        cases w0 with
        | nil => exact absurd hd0.symm h0
        | cons r v => exact ⟨r, sbw r v hg0 hd0⟩
      obtain ⟨r, hr, hsb, hleast, e1⟩ := m_roads_find (i := i) H1 hkd hk a J hex (gR G) 0 (by omega) (fun r' z => by omega)
      have hlon := hw.2.2.2.1 r hr
      have hR := hw.2.1
      rw [e1, b234_47]
      simp (disch := omega) only [in_181, if_true, nI_clamp]
      rw [b234_55, nI_add]
      have E2 : eqx sxR h (sm_si h1 181 i (nI r)) := E.si (by unfold sxR; omega)
      have H2 := mN_R H E2
      -- the step by r
      have hsb' := hsb
      unfold SB at hsb'
      cases hs : stp G sh pl p ov (K k) r with
      | none => rw [hs] at hsb'; dsimp only at hsb'; omega
      | some y =>
        rw [hs] at hsb'
        dsimp only at hsb'
        have hc := H2.2.2 k hk r hr
        unfold cmOK at hc
        rw [hs] at hc
        obtain ⟨k1, hk1, gk1, hKk1⟩ := hc
        have lead : ∀ (v : List Nat), gwk (stp G sh pl p ov) (thK G kd g) (lpK G pl kd) (K k) v → dys (gLon G) v = st k → ∃ r' v', v = r' :: v' ∧ r ≤ r' := by
          intro v hv hd
          cases v with
          | nil => exact absurd hd.symm h0
          | cons r' v' =>
            refine ⟨r', v', rfl, ?_⟩
            rcases Nat.lt_or_ge r' r with z | z
            · exact absurd rfl (hleast r' z _ (sbw r' v' hv hd).2)
            · exact z
        by_cases q : lpK G pl kd (K k) r y
        · -- the last step
          have hst : st k = gLon G r := by
            rcases hsb' with ⟨-, z⟩ | ⟨z, -⟩
            · exact z
            · exact absurd q z
          rw [if_pos (by rw [q.1]), b234_63, m_isLoop H2 hk hr hs, bnd]
          simp only [app1, List.cons_append, List.nil_append]
          rw [b234_70, if_neg (by rw [bI_z]; exact fun z => z q.2), b234_73, b234_78, pk_mul, nI_add]
          simp (disch := omega) only [in_180, if_true, nI_clamp]
          rw [gk1, b234_7, if_neg (by decide +kernel), m_roads_fin H2 hk1]
          refine ⟨[r], k1, _, rfl, ⟨⟨y, hs, Or.inl ⟨rfl, q⟩⟩, fun v hv z => ?_⟩, by rw [hst]; rfl, fun j hj => ?_, fun j hj => by rw [gi_cell (by decide), gi_slot (by omega)], by show (stp G sh pl p ov (K k) r).bind _ = _; rw [hs, hKk1]; rfl, hk1, gi_same, E2.si (by unfold sxR; omega)⟩
          · have hlow := st_low H1 J F v k hk hv
            have hdr : dys (gLon G) [r] = gLon G r := rfl
            rcases z with z | ⟨z, z2⟩
            · omega
            · obtain ⟨r', v', rfl, hrr⟩ := lead v hv (by omega)
              rcases z2 with z2 | ⟨z2, z3⟩
              · omega
              · cases v' <;> exact z3
          · simp at hj
            subst hj
            rw [gi_cell (by decide), Nat.add_zero, gi_same]; rfl
        · -- on to the next
          obtain ⟨i', hi', hKi', hst⟩ : ∃ i', i' < n ∧ K i' = y ∧ st k = st i' + gLon G r := by
            rcases hsb' with ⟨z, -⟩ | ⟨-, z⟩
            · exact absurd z q
            · exact z
          have hik : i' = k1 := mN_inj H1 hi' hk1 (hKi'.trans hKk1.symm)
          subst hik
          have cont : xe 4 234 77 [.ref 169, .int (nI kd), .int (nI (i + 1)), .int (nI k), .int (nI 0), .int (nI r)] [] (sm_si h1 181 i (nI r)) = xe 4 234 7 [.ref 169, .int (nI kd), .int (nI (i + 1)), .int (nI i'), .int (nI 0), .int (nI r)] [] (sm_si h1 181 i (nI r)) := by
            rw [b234_77, b234_78, pk_mul, nI_add]
            simp (disch := omega) only [in_180, if_true, nI_clamp]
            rw [gk1]
          have branch : (if nI kd = nI 1 then xe 4 234 63 [.ref 169, .int (nI kd), .int (nI (i + 1)), .int (nI k), .int (nI 0), .int (nI r)] [] (sm_si h1 181 i (nI r)) else xe 4 234 77 [.ref 169, .int (nI kd), .int (nI (i + 1)), .int (nI k), .int (nI 0), .int (nI r)] [] (sm_si h1 181 i (nI r))) = xe 4 234 77 [.ref 169, .int (nI kd), .int (nI (i + 1)), .int (nI k), .int (nI 0), .int (nI r)] [] (sm_si h1 181 i (nI r)) := by
            by_cases z : kd = 1
            · rw [if_pos (by rw [z]), b234_63, m_isLoop H2 hk hr hs, bnd]
              simp only [app1, List.cons_append, List.nil_append]
              rw [b234_70, if_pos (by rw [bI_z]; exact fun w => q ⟨z, w⟩)]
            · rw [if_neg (by rw [nI_eq (by omega) (by decide)]; exact z)]
          rw [branch, cont]
          obtain ⟨w, k', h3, e3, hb, hd, hroads, hold, hrn, hk', g27, E3⟩ := ih i' (i + 1) (sm_si h1 181 i (nI r)) (.int (nI r)) (by omega) hi' (by omega) (by omega) (fun j hj => by rw [gi_cell (by decide)]; exact a j hj) E2
          rw [hKi'] at hb hrn
          refine ⟨r :: w, k', h3, ?_, ⟨⟨y, hs, Or.inr hb.1⟩, fun v hv z => ?_⟩, ?_, fun j hj => ?_, fun j hj => ?_, ?_, hk', g27, E3⟩
          · rw [e3, show i + 1 + w.length = i + (r :: w).length by simp; omega]
          · have hlow := st_low H1 J F v k hk hv
            have hdr : dys (gLon G) (r :: w) = gLon G r + dys (gLon G) w := rfl
            rcases z with z | ⟨z, z2⟩
            · omega
            · obtain ⟨r', v', rfl, hrr⟩ := lead v hv (by omega)
              have hdv : dys (gLon G) (r' :: v') = gLon G r' + dys (gLon G) v' := rfl
              rcases z2 with z2 | ⟨z2, z3⟩
              · omega
              · subst z2
                obtain ⟨y', hy', hgy⟩ := hv
                rw [hs] at hy'
                cases hy'
                rcases hgy with ⟨-, z4⟩ | z4
                · exact absurd z4 q
                · exact hb.2 v' z4 (Or.inr ⟨by omega, z3⟩)
          · show gLon G r + dys (gLon G) w = st k
            omega
          · cases j with
            | zero => rw [Nat.add_zero, hold i (by omega), gi_same]; rfl
            | succ j =>
              simp at hj
              rw [show i + (j + 1) = i + 1 + j by omega, hroads j (by omega)]; rfl
          · rw [hold j (by omega), gi_slot (by omega)]
          · show (stp G sh pl p ov (K k) r).bind _ = _
            rw [hs]
            exact hrn
theorem m_laysRoads {h : sm_H} (H : mN h G sh pl p ov n K x0) (hkd : kd ≤ 2) (J : stJ G pl (stp G sh pl p ov) n K kd g st) (F : stF G pl (stp G sh pl p ov) n K kd st) (hm : ov = true ∨ xM x0 = 0) (a : ∀ j, j < n → sm_gi h 179 j = nI (st j)) (hfin : st 0 < 268435456) :
    ∃ w y h2, xc 234 [.ref 169, .int (nI kd)] h = some ([.int (nI w.length)], h2) ∧ bst (gLon G) (gwk (stp G sh pl p ov) (thK G kd g) (lpK G pl kd) x0) = some w ∧ dys (gLon G) w = st 0 ∧ w.length ≤ 2420 ∧ (∀ j, j < w.length → sm_gi h2 181 j = nI (w.getD j 0)) ∧ rn (stp G sh pl p ov) x0 w = some y ∧ sm_gi h2 169 27 = nI (xN y) ∧ mN h2 G sh pl p ov n K x0 ∧ eqx sxR h h2 := by
  have h0 := H.2.1.2.2.1
  have hK0 := H.2.1.2.2.2.1
  have hz := (st_zero H J F hm).1 hfin
  rw [en_234, b234_0]
  obtain ⟨w, k', h2, e2, hb, hd, hroads, -, hrn, hk', g27, E2⟩ := m_roads_loop H hkd J F (st 0) 0 0 h .null (Nat.le_refl _) h0 hfin (by omega) a eqx.rf
  rw [hK0] at hb hrn
  have hl := (rn_lon H.1.2.1 _ _ _ hrn).1
  refine ⟨w, K k', h2, by rw [e2, Nat.zero_add], bst_some hb, hd, by omega, fun j hj => ?_, hrn, g27, mN_R H E2, E2⟩
  have := hroads j hj
  rw [Nat.zero_add] at this
  exact this
end ROADS
