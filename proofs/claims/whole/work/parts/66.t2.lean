/-! ===== the class: rows opened, walks compared, states reached ===== -/
def dN (G : LG) : Option (List Nat) → Nat
  | none => 1000000000
  | some w => dys (gLon G) w
/-- days and turns of a search -/
def cD (h : sm_H) (G : LG) (tn : Nat) (D : Nat → Option (List Nat)) : Prop := sm_gi h 104 12 = nI tn ∧ tn < 2 ^ 30 ∧ ∀ row, row < 10240 → ∃ j, sm_gi h 107 row = nI j ∧ j ≤ tn ∧ (j = tn → ∀ f, f < 6 → sm_gi h 105 (row * 6 + f) = nI (dN G (D (row * 6 + f)))) ∧ (j ≠ tn → ∀ f, f < 6 → D (row * 6 + f) = none)
def cCM (h : sm_H) (s : XS → Nat → Option XS) (x0 : XS) (D : Nat → Option (List Nat)) : Prop := ∀ c w r x, D c = some (w ++ [r]) → rn s x0 w = some x → sm_gi h 106 c = nI (cdX x * 12 + r)
theorem cD_get {h : sm_H} {G : LG} {tn c : Nat} {D : Nat → Option (List Nat)} {w : List Nat} (H : cD h G tn D) (hc : c < 61440) (hd : D c = some w) : sm_gi h 105 c = nI (dys (gLon G) w) ∧ sm_gi h 107 (c / 6) = nI tn := by
  obtain ⟨j, a, b, e, g⟩ := H.2.2 (c / 6) (by omega)
  have hcc : c / 6 * 6 + c % 6 = c := by omega
  by_cases q : j = tn
  · have := e q (c % 6) (Nat.mod_lt _ (by decide))
    rw [hcc, hd] at this
    exact ⟨this, by rw [a, q]⟩
  · have := g q (c % 6) (Nat.mod_lt _ (by decide))
    rw [hcc, hd] at this
    cases this
theorem cD_eqx {S : Nat → Nat → Prop} {h h2 : sm_H} {G : LG} {tn : Nat} {D : Nat → Option (List Nat)} (H : cD h G tn D) (E : eqx S h h2) (hS : ∀ c i, S c i → c ≠ 105 ∧ c ≠ 107 ∧ ¬ (c = 104 ∧ i = 12)) : cD h2 G tn D :=
  ⟨(E.1 104 12 (fun z => (hS _ _ z).2.2 ⟨rfl, rfl⟩)).trans H.1, H.2.1, fun row hr => by
    obtain ⟨j, a, b, e, g⟩ := H.2.2 row hr
    exact ⟨j, (E.1 107 row (fun z => (hS _ _ z).2.1 rfl)).trans a, b, fun q f hf => (E.1 105 _ (fun z => (hS _ _ z).1 rfl)).trans (e q f hf), g⟩⟩
theorem cCM_eqx {S : Nat → Nat → Prop} {h h2 : sm_H} {s : XS → Nat → Option XS} {x0 : XS} {D : Nat → Option (List Nat)} (H : cCM h s x0 D) (E : eqx S h h2) (hS : ∀ c i, S c i → c ≠ 106) : cCM h2 s x0 D := fun c w r x a b => (E.1 106 c (fun z => hS _ _ z rfl)).trans (H c w r x a b)
theorem in_105 {n : Nat} (hn : n < 61440) : sm_in 105 (nI n) ↔ True := in_ln (by omega) (by rw [ln_105]; exact hn)
theorem in_106 {n : Nat} (hn : n < 3840) : sm_in 106 (nI n) ↔ True := in_ln (by omega) (by rw [ln_106]; exact hn)
theorem in_107 {n : Nat} (hn : n < 10240) : sm_in 107 (nI n) ↔ True := in_ln (by omega) (by rw [ln_107]; exact hn)
theorem in_108 {n : Nat} (hn : n < 6) : sm_in 108 (nI n) ↔ True := in_ln (by omega) (by rw [ln_108]; exact hn)
def sxO : Nat → Nat → Prop := fun c _ => c = 105 ∨ c = 107
theorem c_openRow_loop {row : Nat} {h : sm_H} (hr : row < 10240) : ∀ (m k : Nat) (h1 : sm_H), k + m = 6 → (∀ f, f < k → sm_gi h1 105 (row * 6 + f) = nI 1000000000) → (∀ c, (c < row * 6 ∨ row * 6 + 6 ≤ c) → sm_gi h1 105 c = sm_gi h 105 c) → (∀ i, sm_gi h1 107 i = sm_gi h 107 i) → eqx sxO h h1 →
    ∃ h2, xe 1 74 25 [.ref 104, .int (nI row), .int (nI k)] [] h1 = some ([], h2) ∧ (∀ f, f < 6 → sm_gi h2 105 (row * 6 + f) = nI 1000000000) ∧ (∀ c, (c < row * 6 ∨ row * 6 + 6 ≤ c) → sm_gi h2 105 c = sm_gi h 105 c) ∧ (∀ i, sm_gi h2 107 i = sm_gi h 107 i) ∧ eqx sxO h h2
  | 0, k, h1, e, a, b, c, E => by
    have : k = 6 := by omega
    subst this
    rw [b74_25, if_pos (Int32.le_refl _), b74_50]
    exact ⟨h1, rfl, a, b, c, E⟩
  | m + 1, k, h1, e, a, b, c, E => by
    rw [b74_25, if_neg (by rw [nI_leI (by omega) (by omega)]; omega), b74_31, pk_mul, nI_add]
    simp (disch := omega) only [in_105, if_true, nI_clamp]
    rw [b74_44, nI_add]
    refine c_openRow_loop hr m (k + 1) _ (by omega) (fun f hf => ?_) (fun c' hc => by rw [gi_slot (by omega)]; exact b c' hc) (fun i => by rw [gi_cell (by decide)]; exact c i) (E.si (Or.inl rfl))
    by_cases z : f = k
    · subst z; exact gi_same
    · rw [gi_slot (by omega)]; exact a f (by omega)
theorem c_openRow {G : LG} {tn row : Nat} {D : Nat → Option (List Nat)} {h : sm_H} (H : cD h G tn D) (hr : row < 10240) : ∃ h2, xc 74 [.ref 104, .int (nI row)] h = some ([], h2) ∧ cD h2 G tn D ∧ sm_gi h2 107 row = nI tn ∧ eqx sxO h h2 := by
  obtain ⟨j, a, b, e, g⟩ := H.2.2 row hr
  have htn := H.2.1
  rw [en_74, b74_0]
  simp (disch := omega) only [in_107, if_true, nI_clamp]
  rw [a, H.1]
  by_cases q : j = tn
  · subst q
    rw [if_pos rfl, b74_50]
    exact ⟨h, rfl, H, a, eqx.rf⟩
  · rw [if_neg (by rw [nI_eq (by omega) (by omega)]; exact q), b74_13]
    simp (disch := omega) only [in_107, if_true, nI_clamp]
    rw [H.1, b74_23]
    have E0 : eqx sxO h (sm_si h 107 row (nI tn)) := eqx.rf.si (Or.inr rfl)
    obtain ⟨h2, e2, a2, b2, c2, E2⟩ := c_openRow_loop (h := sm_si h 107 row (nI tn)) hr 6 0 (sm_si h 107 row (nI tn)) (by omega) (fun f hf => by omega) (fun _ _ => rfl) (fun _ => rfl) eqx.rf
    have E02 := E0.tr E2
    have g107 : sm_gi h2 107 row = nI tn := (c2 row).trans gi_same
    refine ⟨h2, e2, ⟨(E02.1 104 12 (by unfold sxO; omega)).trans H.1, H.2.1, fun row' hr' => ?_⟩, g107, E02⟩
    by_cases z : row' = row
    · subst z
      refine ⟨tn, g107, Nat.le_refl _, fun _ f hf => ?_, fun y => absurd rfl y⟩
      rw [a2 f hf, g q f hf]
      rfl
    · obtain ⟨j', a', b', e', g'⟩ := H.2.2 row' hr'
      refine ⟨j', by rw [c2, gi_slot z]; exact a', b', fun y f hf => ?_, g'⟩
      rw [b2 _ (by omega), gi_cell (by decide)]
      exact e' y f hf
theorem div12 {c r : Nat} (hc : c < 100000) (hr : r < 12) : nI (c * 12 + r) / nI 12 = nI c := by
  rw [pk_div (by omega) (by decide) (by decide), show (c * 12 + r) / 12 = c by omega]
theorem dys_mem_pos (G : LG) {r : Nat} : ∀ {v : List Nat}, r ∈ v → gLon G r ≤ dys (gLon G) v
  | a :: v, h => by
    show gLon G r ≤ gLon G a + dys (gLon G) v
    rcases List.mem_cons.mp h with z | z
    · subst z; omega
    · have := dys_mem_pos G z; omega
section AHEAD
variable {G : LG} {sh p tn : Nat} {pl : Option Nat} {x0 : XS} {D : Nat → Option (List Nat)} {h : sm_H}
theorem c_isAhead_loop (hw : wfG G) (hx : wfX G) (ok : okX G x0) (hm0 : xM x0 = 0) (T : TD G (stp G sh pl p false) false x0 D) (HD : cD h G tn D) (HC : cCM h (stp G sh pl p false) x0 D) {c : List Nat} {x y : Nat} {A B A' B' : List Nat} (hA : A = c ++ x :: A') (hB : B = c ++ y :: B') (hxy : x ≠ y) (hx12 : x < 12) (hy12 : y < 12) : ∀ (m i ca cb r q : Nat) (u v uA vB : List Nat), u.length + v.length ≤ m → i + m ≤ 191 → D ca = some u → D cb = some v → r < 12 → q < 12 → A = u ++ r :: uA → B = v ++ q :: vB → (∃ t, u = c ++ t) → (∃ t, v = c ++ t) →
    xe 1 79 2 [.ref 104, .int (nI (ca * 12 + r)), .int (nI (cb * 12 + q)), .int (nI i)] [] h = some ([.int (bI (x < y))], h) := by
  have hR := hw.2.1
  have nomid : ∀ (u v uA vB : List Nat) (r q : Nat), A = u ++ r :: uA → B = v ++ q :: vB → u = v → (∃ t, u = c ++ t) → r = x ∧ q = y := by
    intro u v uA vB r q e1 e2 e3 e4
    obtain ⟨t, ht⟩ := e4
    subst e3
    cases t with
    | nil =>
      rw [List.append_nil] at ht
      subst ht
      rw [hA] at e1
      rw [hB] at e2
      have a1 := List.append_cancel_left e1
      have a2 := List.append_cancel_left e2
      exact ⟨(List.cons.inj a1).1.symm, (List.cons.inj a2).1.symm⟩
    | cons z t =>
      exfalso
      rw [ht, hA, List.append_assoc] at e1
      rw [ht, hB, List.append_assoc] at e2
      have a1 := (List.cons.inj (List.append_cancel_left e1)).1
      have a2 := (List.cons.inj (List.append_cancel_left e2)).1
      exact hxy (a1.trans a2.symm)
  have cod : ∀ k w, D k = some w → k < 3840 := fun k w hk => by
    obtain ⟨z, oz, mz, cz, -⟩ := T.1 k w hk
    have := (cdX_lt hw oz).2 (by rcases mz with z | z; cases z; exact z)
    omega
  have fin : ∀ (i ca cb r q : Nat), ca < 3840 → cb < 3840 → r < 12 → q < 12 → r = x → q = y → xe 1 79 70 [.ref 104, .int (nI (ca * 12 + r)), .int (nI (cb * 12 + q)), .int (nI i)] [] h = some ([.int (bI (x < y))], h) := by
    intro i ca cb r q h1 h2 h3 h4 e1 e2
    subst e1
    subst e2
    rw [b79_70, pk_rem (by omega) (by decide) (by decide), pk_rem (by omega) (by decide) (by decide), show (ca * 12 + r) % 12 = r by omega, show (cb * 12 + q) % 12 = q by omega]
    simp only [b79_81, b79_85, b79_86, or01_0, or01_1, if_true]
    unfold bI
    by_cases z : r < q
    · rw [if_neg (by rw [nI_leI (by omega) (by omega)]; omega), if_pos z]
    · rw [if_pos (by rw [nI_leI (by omega) (by omega)]; omega), if_neg z]
  intro m
  induction m with
  | zero =>
    intro i ca cb r q u v uA vB hlen hi hca hcb hr hq e1 e2 pu pv
    have hu : u = [] := List.eq_nil_of_length_eq_zero (by omega)
    have hv : v = [] := List.eq_nil_of_length_eq_zero (by omega)
    have hca3 := cod ca u hca
    have hcb3 := cod cb v hcb
    have hab : ca = cb := by
      obtain ⟨z1, -, -, c1, r1⟩ := T.1 ca u hca
      obtain ⟨z2, -, -, c2, r2⟩ := T.1 cb v hcb
      rw [hu] at r1
      rw [hv] at r2
      cases r1
      cases r2
      omega
    obtain ⟨f1, f2⟩ := nomid u v uA vB r q e1 e2 (hu.trans hv.symm) pu
    rw [b79_2, if_neg (by rw [nI_leI (by omega) (by omega)]; omega), b79_9, pk_div (by omega) (by decide) (by decide), pk_div (by omega) (by decide) (by decide), show (ca * 12 + r) / 12 = ca by omega, show (cb * 12 + q) / 12 = cb by omega, if_pos (by rw [hab])]
    exact fin i ca cb r q hca3 hcb3 hr hq f1 f2
  | succ m ih =>
    intro i ca cb r q u v uA vB hlen hi hca hcb hr hq e1 e2 pu pv
    have hca3 := cod ca u hca
    have hcb3 := cod cb v hcb
    rw [b79_2, if_neg (by rw [nI_leI (by omega) (by omega)]; omega), b79_9, pk_div (by omega) (by decide) (by decide), pk_div (by omega) (by decide) (by decide), show (ca * 12 + r) / 12 = ca by omega, show (cb * 12 + q) / 12 = cb by omega]
    obtain ⟨z1, o1, m1, c1, r1⟩ := T.1 ca u hca
    obtain ⟨z2, o2, m2, c2, r2⟩ := T.1 cb v hcb
    by_cases hab : ca = cb
    · subst hab
      have huv : u = v := Option.some.inj (hca.symm.trans hcb)
      obtain ⟨f1, f2⟩ := nomid u v uA vB r q e1 e2 huv pu
      rw [if_pos rfl]
      exact fin i ca ca r q hca3 hcb3 hr hq f1 f2
    · rw [if_neg (by rw [nI_eq (by omega) (by omega)]; exact hab), b79_20, div12 (c := ca) (by omega) hr, div12 (c := cb) (by omega) hq]
      have da := TD_days hw hx ok (Or.inr hm0) T hca
      have db := TD_days hw hx ok (Or.inr hm0) T hcb
      simp (disch := omega) only [in_105, if_true, nI_clamp, (cD_get HD (show ca < 61440 by omega) hca).1, (cD_get HD (show cb < 61440 by omega) hcb).1]
      have huv : u ≠ v := fun z => hab (by
        rw [z, r2] at r1
        cases r1
        exact c1.symm.trans c2)
      obtain ⟨tu, htu⟩ := pu
      obtain ⟨tv, htv⟩ := pv
      have dpos : ∀ (w : List Nat) (e : XS) (k : Nat), rn (stp G sh pl p false) x0 w = some e → k ∈ w → 1 ≤ gLon G k := fun w e k hrn hk => by
        have := (rn_lon hw _ _ _ hrn).2.2 k hk
        have := hw.2.2.2.1 k this
        omega
      by_cases hlt : dys (gLon G) u < dys (gLon G) v
      · rw [if_pos (by rw [nI_ltI (by omega) (by omega)]; exact hlt), b79_54, div12 (c := cb) (by omega) hq]
        simp (disch := omega) only [in_106, if_true, nI_clamp]
        rcases snoc_or v with z | ⟨v', q', z⟩
        · rw [z] at hlt; exact absurd hlt (Nat.not_lt_zero _)
        · subst z
          obtain ⟨z3, hr3, hd3⟩ := T.2.2 cb v' q' hcb
          rw [HC cb v' q' z3 hcb hr3, b79_64, nI_add]
          have hq12 : q' < 12 := by
            have := (rn_lon hw _ _ _ r2).2.2 q' (by simp)
            omega
          refine ih (i + 1) ca (cdX z3) r q' u v' uA (q :: vB) (by simp at hlen; omega) (by omega) hca hd3 hr hq12 e1 (by rw [e2, List.append_assoc]; rfl) ⟨tu, htu⟩ ?_
          rcases snoc_or tv with y | ⟨tv', q2, y⟩
          · exfalso
            rw [y, List.append_nil] at htv
            rw [htu, htv, dys_app] at hlt
            omega
          · rw [y, ← List.append_assoc] at htv
            exact ⟨tv', (List.append_inj' htv rfl).1⟩
      · rw [if_neg (by rw [nI_ltI (by omega) (by omega)]; exact hlt), b79_41, div12 (c := ca) (by omega) hr]
        simp (disch := omega) only [in_106, if_true, nI_clamp]
        have hne : tu ≠ [] := fun z => by
          rw [z, List.append_nil] at htu
          cases tv with
          | nil => rw [List.append_nil] at htv; exact huv (htu.trans htv.symm)
          | cons k tv =>
            have h1 := dpos v z2 k r2 (by rw [htv]; simp)
            rw [htu, htv, dys_app] at hlt
            have : dys (gLon G) (k :: tv) = gLon G k + dys (gLon G) tv := rfl
            omega
        rcases snoc_or tu with z | ⟨tu', r', z⟩
        · exact absurd z hne
        · rw [z, ← List.append_assoc] at htu
          subst htu
          obtain ⟨z3, hr3, hd3⟩ := T.2.2 ca (c ++ tu') r' hca
          rw [HC ca (c ++ tu') r' z3 hca hr3, b79_64, nI_add]
          have hr12 : r' < 12 := by
            have := (rn_lon hw _ _ _ r1).2.2 r' (by simp)
            omega
          exact ih (i + 1) (cdX z3) cb r' q (c ++ tu') v (r :: uA) vB (by simp at hlen ⊢; omega) (by omega) hd3 hcb hr12 hq (by rw [e1, List.append_assoc]; rfl) e2 ⟨tu', rfl⟩ ⟨tv, htv⟩
theorem c_isAhead (hw : wfG G) (hx : wfX G) (ok : okX G x0) (hm0 : xM x0 = 0) (T : TD G (stp G sh pl p false) false x0 D) (HD : cD h G tn D) (HC : cCM h (stp G sh pl p false) x0 D) {ca cb r q : Nat} {u v : List Nat} (hca : D ca = some u) (hcb : D cb = some v) (hr : r < 12) (hq : q < 12) (hd : (dys (gLon G) u + gLon G r = dys (gLon G) v + gLon G q ∧ 1 ≤ gLon G r ∧ 1 ≤ gLon G q) ∨ dys (gLon G) u = dys (gLon G) v) :
    ∃ b : Int32, xc 79 [.ref 104, .int (nI (ca * 12 + r)), .int (nI (cb * 12 + q))] h = some ([.int b], h) ∧ (b = 0 ↔ ¬ llt (u ++ [r]) (v ++ [q])) := by
  have hR := hw.2.1
  obtain ⟨z1, o1, m1, c1, r1⟩ := T.1 ca u hca
  obtain ⟨z2, o2, m2, c2, r2⟩ := T.1 cb v hcb
  have lu := (TD_len hw hx ok (Or.inr hm0) T hca).2 rfl
  have lv := (TD_len hw hx ok (Or.inr hm0) T hcb).2 rfl
  have hca3 := (cdX_lt hw o1).2 (by rcases m1 with z | z; cases z; exact z)
  have hcb3 := (cdX_lt hw o2).2 (by rcases m2 with z | z; cases z; exact z)
  rw [c1] at hca3
  rw [c2] at hcb3
  have dpos : ∀ (w : List Nat) (e : XS) (k : Nat), rn (stp G sh pl p false) x0 w = some e → k ∈ w → 1 ≤ gLon G k ∧ k < 12 := fun w e k hrn hk => by
    have h1 := (rn_lon hw _ _ _ hrn).2.2 k hk
    have := hw.2.2.2.1 k h1
    omega
  -- one does not begin the other
  have nopre : ∀ (u v : List Nat) (r q : Nat) (t : List Nat) (e : XS), rn (stp G sh pl p false) x0 v = some e → ((dys (gLon G) u + gLon G r = dys (gLon G) v + gLon G q ∧ 1 ≤ gLon G r ∧ 1 ≤ gLon G q) ∨ dys (gLon G) u = dys (gLon G) v) → v ++ [q] = u ++ [r] ++ t → t = [] := by
    intro u v r q t e hrn hd he
    rcases snoc_or t with z | ⟨t', k, z⟩
    · exact z
    · exfalso
      rw [z, ← List.append_assoc] at he
      have hv := (List.append_inj' he rfl).1
      have h1 := (dpos v e r hrn (by rw [hv]; simp)).1
      have h2 : dys (gLon G) v = dys (gLon G) u + gLon G r + dys (gLon G) t' := by rw [hv, dys_app, dys_snoc]
      omega
  rw [en_79, b79_0]
  rcases lcp (u ++ [r]) (v ++ [q]) with ⟨c, x, y, A', B', e1, e2, hxy⟩ | ⟨t, e⟩ | ⟨t, e⟩
  · have pre : ∀ (u : List Nat) (r : Nat) (c : List Nat) (x : Nat) (A' : List Nat), u ++ [r] = c ++ x :: A' → ∃ t, u = c ++ t := by
      intro u r c x A' he
      rcases snoc_or (x :: A') with z | ⟨t, k, z⟩
      · cases z
      · rw [z, ← List.append_assoc] at he
        exact ⟨t, (List.append_inj' he rfl).1⟩
    have mem12 : ∀ (u : List Nat) (r : Nat) (c : List Nat) (x : Nat) (A' : List Nat) (e : XS), rn (stp G sh pl p false) x0 u = some e → r < 12 → u ++ [r] = c ++ x :: A' → x < 12 := by
      intro u r c x A' e hrn hr he
      have : x ∈ u ++ [r] := by rw [he]; simp
      rcases List.mem_append.mp this with z | z
      · exact (dpos u e x hrn z).2
      · rw [List.mem_singleton.mp z]; exact hr
    refine ⟨bI (x < y), ?_, ?_⟩
    · exact c_isAhead_loop hw hx ok hm0 T HD HC e1 e2 hxy (mem12 u r c x A' z1 r1 hr e1) (mem12 v q c y B' z2 r2 hq e2) 190 0 ca cb r q u v [] [] (by omega) (by omega) hca hcb hr hq rfl rfl (pre u r c x A' e1) (pre v q c y B' e2)
    · rw [bI_z, e1, e2, llt_pre]
      constructor
      · rintro h1 (h2 | ⟨h2, -⟩)
        · exact h1 h2
        · exact hxy h2
      · intro h1 h2
        exact h1 (Or.inl h2)
  · have hn := nopre u v r q t z2 r2 hd e
    rw [hn, List.append_nil] at e
    obtain ⟨e1, e2⟩ := List.append_inj' e rfl
    have hab : ca = cb := by
      rw [e1, r1] at r2
      cases r2
      omega
    have hrq : q = r := (List.cons.inj e2).1
    subst hab
    subst hrq
    refine ⟨nI 0, ?_, iff_of_true (by decide +kernel) (by rw [e1]; exact llt_irr _)⟩
    rw [b79_2, if_neg (by decide +kernel), b79_9, if_pos rfl, b79_70, if_pos (Int32.le_refl _)]
    simp only [b79_85, b79_86, or01_0, if_true]
  · have hd' : (dys (gLon G) v + gLon G q = dys (gLon G) u + gLon G r ∧ 1 ≤ gLon G q ∧ 1 ≤ gLon G r) ∨ dys (gLon G) v = dys (gLon G) u := by
      rcases hd with ⟨a, b, c⟩ | a
      · exact Or.inl ⟨a.symm, c, b⟩
      · exact Or.inr a.symm
    have hn := nopre v u q r t z1 r1 hd' e
    rw [hn, List.append_nil] at e
    obtain ⟨e1, e2⟩ := List.append_inj' e rfl
    have hab : ca = cb := by
      rw [← e1, r1] at r2
      cases r2
      omega
    have hrq : r = q := (List.cons.inj e2).1
    subst hab
    subst hrq
    refine ⟨nI 0, ?_, iff_of_true (by decide +kernel) (by rw [e1]; exact llt_irr _)⟩
    rw [b79_2, if_neg (by decide +kernel), b79_9, if_pos rfl, b79_70, if_pos (Int32.le_refl _)]
    simp only [b79_85, b79_86, or01_0, if_true]
end AHEAD
