/-! ===== the model: how many days are still to go ===== -/
abbrev lpK (G : LG) (pl : Option Nat) (kd : Nat) (x : XS) (r : Nat) (y : XS) : Prop := kd = 1 ∧ (gBri G r = true ∧ pl ≠ some r) ∧ ¬ xB x / 2 ^ xF y % 2 = 1
abbrev thK (G : LG) (kd g : Nat) (x : XS) : Prop := kd ≠ 1 ∧ xF x = g ∧ (kd = 0 ∨ pcnt (xM x) 12 = nbr G (gR G))
/-- a walk from x that comes where it would: by its end, or by its last step -/
def gwk (s : XS → Nat → Option XS) (T : XS → Prop) (Lp : XS → Nat → XS → Prop) : XS → List Nat → Prop
  | x, [] => T x
  | x, r :: w => ∃ y, s x r = some y ∧ ((w = [] ∧ Lp x r y) ∨ gwk s T Lp y w)
def mN (h : sm_H) (G : LG) (sh : Nat) (pl : Option Nat) (p : Nat) (ov : Bool) (n : Nat) (K : Nat → XS) (x0 : XS) : Prop := mC h G sh pl p ∧ mL h n K G (stp G sh pl p ov) x0 ∧ ∀ j, j < n → ∀ r, r < gR G → cmOK h n K (stp G sh pl p ov) j r
theorem mN_eqx {S : Nat → Nat → Prop} {h h2 : sm_H} {G : LG} {sh p n : Nat} {pl : Option Nat} {ov : Bool} {K : Nat → XS} {x0 : XS} (H : mN h G sh pl p ov n K x0) (E : eqx S h h2) (hS : ∀ c i, S c i → c ≠ 170 ∧ c ≠ 177 ∧ c ≠ 178 ∧ c ≠ 180 ∧ ¬ (c = 169 ∧ (i = 15 ∨ i = 25))) : mN h2 G sh pl p ov n K x0 :=
  ⟨mC_eqx H.1 E (fun c i z => by have := hS c i z; omega), mL_eqx H.2.1 E (fun c i z => by have := hS c i z; omega), fun j hj r hr => cmOK_mono (H.2.2 j hj r hr) hj (fun _ _ => rfl) (Nat.le_refl n) (E.1 180 _ (fun z => by have := hS _ _ z; omega))⟩
/-- days by a step, as told by what is still to go behind it -/
def SB (G : LG) (pl : Option Nat) (s : XS → Nat → Option XS) (n : Nat) (K : Nat → XS) (kd : Nat) (st : Nat → Nat) (k r v : Nat) : Prop := match s (K k) r with
  | none => v = 268435456
  | some y => (lpK G pl kd (K k) r y ∧ v = gLon G r) ∨ (¬ lpK G pl kd (K k) r y ∧ ∃ i, i < n ∧ K i = y ∧ v = st i + gLon G r)
section STILL
variable {G : LG} {sh p n kd : Nat} {pl : Option Nat} {ov : Bool} {K : Nat → XS} {x0 : XS}
theorem mN_inj {h : sm_H} (H : mN h G sh pl p ov n K x0) {i j : Nat} (hi : i < n) (hj : j < n) (e : K i = K j) : i = j := mV_inj H.2.1.1 hi hj (by rw [e])
theorem SB_fun {h : sm_H} {st : Nat → Nat} {k r v v' : Nat} (H : mN h G sh pl p ov n K x0) (a : SB G pl (stp G sh pl p ov) n K kd st k r v) (b : SB G pl (stp G sh pl p ov) n K kd st k r v') : v = v' := by
  unfold SB at a b
  cases hs : stp G sh pl p ov (K k) r with
  | none => rw [hs] at a b; exact a.trans b.symm
  | some y =>
    rw [hs] at a b
    rcases a with ⟨a1, a2⟩ | ⟨a1, i, a2, a3, a4⟩ <;> rcases b with ⟨b1, b2⟩ | ⟨b1, j, b2, b3, b4⟩
    · exact a2.trans b2.symm
    · exact absurd a1 b1
    · exact absurd b1 a1
    · have := mN_inj H a2 b2 (a3.trans b3.symm)
      subst this
      exact a4.trans b4.symm
theorem m_isLoop {k r : Nat} {y : XS} {h : sm_H} (H : mN h G sh pl p ov n K x0) (hk : k < n) (hr : r < gR G) (hs : stp G sh pl p ov (K k) r = some y) : xc 227 [.ref 169, .int (nI k), .int (nI r)] h = some ([.int (bI ((gBri G r = true ∧ pl ≠ some r) ∧ ¬ xB (K k) / 2 ^ xF y % 2 = 1))], h) := by
  obtain ⟨C, L, cm⟩ := H
  have hw := C.2.1
  have hR := hw.2.1
  have hN := hw.1.2
  have hn := L.1.2.1
  obtain ⟨b1, b2, b3, b4⟩ := (L.2.1 k hk).b hw
  obtain ⟨c1, c2, c3, c4⟩ := sdX_parts b1 b2 b3
  have hsd := sdX_lt hw (L.2.1 k hk)
  obtain ⟨t, ht, -, rfl⟩ := stp_def hs
  have htN := toF_lt hw hr ht
  have hc := cm k hk r hr
  unfold cmOK at hc
  rw [hs] at hc
  obtain ⟨i, hi, gi, -⟩ := hc
  rw [en_227, b227_0, m_isBridge' C.1 hw hr C.2.2.2.2.2.2.1 C.2.2.2.2.2.2.2, bnd]
  simp only [app1, List.cons_append, List.nil_append]
  rw [b227_5]
  by_cases q : gBri G r = true ∧ pl ≠ some r
  · rw [if_neg (by rw [bI_z]; exact fun z => z q), b227_8, pk_mul, nI_add]
    simp (disch := omega) only [in_180, if_true, nI_clamp]
    rw [gi, if_neg (by rw [nI_m1 (by omega)]; exact id), b227_23]
    simp (disch := omega) only [in_177, if_true, nI_clamp, (L.1.2.2.1 k hk).1]
    rw [en_226, b226_0, bnd]
    simp only [app1, List.cons_append, List.nil_append]
    rw [pk_div (d := 10240) (by omega) (by decide) (by decide), pk_div (d := 16) (by omega) (by decide) (by decide), pk_rem (by omega) (by decide) (by decide), c2, c4, b227_47, m_leads' C.1 hw hr (by omega), ht, bnd]
    simp only [app1, List.cons_append, List.nil_append, show toI (some t) = nI t from rfl]
    rw [b227_50, m_isIn (by omega) (by omega), bnd]
    simp only [app1, List.cons_append, List.nil_append]
    rw [b227_53]
    simp only [b227_56, b227_60, b227_61, or01_0, or01_1, if_true]
    show _ = some ([Value.int (bI ((gBri G r = true ∧ pl ≠ some r) ∧ ¬ xB (K k) / 2 ^ t % 2 = 1))], h)
    by_cases z : xB (K k) / 2 ^ t % 2 = 1
    · rw [if_neg (by rw [bI_z]; exact fun y => y z)]
      unfold bI
      rw [if_neg (fun y => y.2 z)]
    · rw [if_pos (by rw [bI_z]; exact z)]
      unfold bI
      rw [if_pos ⟨q, z⟩]
  · rw [if_pos (by rw [bI_z]; exact q)]
    simp only [b227_60, b227_61, or01_0, if_true]
    unfold bI
    rw [if_neg (fun z => q z.1)]
theorem m_stillBy {k r : Nat} {st : Nat → Nat} {h : sm_H} (H : mN h G sh pl p ov n K x0) (hk : k < n) (hr : r < gR G) (hst : ∀ j, j < n → sm_gi h 179 j = nI (st j)) (hkd : kd ≤ 2) : ∃ v, xc 228 [.ref 169, .int (nI k), .int (nI r), .int (nI kd)] h = some ([.int (nI v)], h) ∧ SB G pl (stp G sh pl p ov) n K kd st k r v := by
  obtain ⟨C, L, cm⟩ := H
  have hw := C.2.1
  have hR := hw.2.1
  have hn := L.1.2.1
  have hc := cm k hk r hr
  have hlon : sm_gi h 170 (34 + r) = nI (gLon G r) := (C.1.2.1 r hr).2.2.1
  rw [en_228, b228_0, pk_mul, nI_add]
  simp (disch := omega) only [in_180, if_true, nI_clamp]
  unfold cmOK at hc
  unfold SB
  cases hs : stp G sh pl p ov (K k) r with
  | none =>
    rw [hs] at hc
    dsimp only at hc ⊢
    rw [hc, if_pos rfl, b228_19]
    exact ⟨_, rfl, rfl⟩
  | some y =>
    rw [hs] at hc
    dsimp only at hc ⊢
    obtain ⟨i, hi, gi, hKi⟩ := hc
    rw [gi, if_neg (by rw [nI_m1 (by omega)]; exact id), b228_23]
    by_cases q : kd = 1
    · subst q
      rw [if_pos rfl, b228_28, m_isLoop ⟨C, L, cm⟩ hk hr hs, bnd]
      simp only [app1, List.cons_append, List.nil_append]
      rw [b228_34]
      by_cases z : (gBri G r = true ∧ pl ≠ some r) ∧ ¬ xB (K k) / 2 ^ xF y % 2 = 1
      · rw [if_neg (by rw [bI_z]; exact fun w => w z), b228_37]
        simp (disch := omega) only [nI_add, in_170, if_true, nI_clamp, hlon]
        exact ⟨_, rfl, Or.inl ⟨⟨rfl, z⟩, rfl⟩⟩
      · rw [if_pos (by rw [bI_z]; exact z), b228_47]
        simp (disch := omega) only [nI_add, in_170, in_179, if_true, nI_clamp, hlon, hst i hi]
        exact ⟨_, rfl, Or.inr ⟨fun w => z w.2, i, hi, hKi, rfl⟩⟩
    · rw [if_neg (by rw [nI_eq (by omega) (by decide)]; exact q), b228_47]
      simp (disch := omega) only [nI_add, in_170, in_179, if_true, nI_clamp, hlon, hst i hi]
      exact ⟨_, rfl, Or.inr ⟨fun w => q w.1, i, hi, hKi, rfl⟩⟩
theorem m_bridgesMany_loop {h : sm_H} (hG : mG (sm_gi h 170) G) (hw : wfG G) : ∀ (m k : Nat), k + m = gR G → xe 1 230 4 [.ref 169, .int (nI (nbr G k)), .int (nI k)] [] h = some ([.int (nI (nbr G (gR G)))], h)
  | 0, k, e => by
    have hR := hw.2.1
    have : k = gR G := by omega
    subst this
    rw [b230_4]
    simp (disch := omega) only [in_170, if_true, nI_clamp, hG.1.2.1]
    rw [if_pos (Int32.le_refl _), b230_32]
  | m + 1, k, e => by
    have hR := hw.2.1
    rw [b230_4]
    simp (disch := omega) only [in_170, if_true, nI_clamp, hG.1.2.1]
    rw [if_neg (by rw [nI_leI (by omega) (by omega)]; omega), b230_14]
    simp (disch := omega) only [nI_add, in_170, if_true, nI_clamp, (hG.2.1 k (by omega)).2.2.2.1]
    exact m_bridgesMany_loop hG hw m (k + 1) (by omega)
theorem m_bridgesMany {h : sm_H} (hG : mG (sm_gi h 170) G) (hw : wfG G) : xc 230 [.ref 169] h = some ([.int (nI (nbr G (gR G)))], h) := by
  rw [en_230, b230_0]
  exact m_bridgesMany_loop hG hw (gR G) 0 (by omega)
theorem m_isThere {g : Nat} {gI : Int32} {x : XS} {h : sm_H} (hG : mG (sm_gi h 170) G) (hw : wfG G) (hx : wfX G) (ok : okX G x) (hkd : kd ≤ 2) (hg : kd ≠ 1 → gI = nI g ∧ g < 2 ^ 31) : xc 229 [.ref 169, .int (nI (sdX x)), .int (nI kd), .int gI] h = some ([.int (bI (thK G kd g x))], h) := by
  obtain ⟨b1, b2, b3, b4⟩ := ok.b hw
  obtain ⟨c1, c2, c3, c4⟩ := sdX_parts b1 b2 b3
  have hsd := sdX_lt hw ok
  have h4 := hx.1
  rw [en_229, b229_0]
  by_cases q : kd = 1
  · subst q
    rw [if_pos rfl, b229_13]
    unfold bI
    rw [if_neg (fun z => z.1 rfl)]
  · obtain ⟨hg1, hg2⟩ := hg q
    rw [if_neg (by rw [nI_eq (by omega) (by decide)]; exact q), b229_5, en_226, b226_0, bnd]
    simp only [app1, List.cons_append, List.nil_append]
    rw [b229_9, pk_div (d := 10240) (by omega) (by decide) (by decide), c4, hg1]
    by_cases z : xF x = g
    · rw [if_pos (by rw [z]), b229_15]
      by_cases q0 : kd = 0
      · rw [if_pos (by rw [q0]; decide +kernel)]
        simp only [b229_33, b229_38, or01_1, if_true]
        unfold bI
        rw [if_pos ⟨q, z, Or.inl q0⟩]
      · rw [if_neg (by rw [nI_z (by omega)]; exact q0), b229_19, pk_rem (by omega) (by decide) (by decide), c1, m_bitsOf (by omega), bnd]
        simp only [app1, List.cons_append, List.nil_append]
        rw [b229_26, m_bridgesMany hG hw, bnd]
        simp only [app1, List.cons_append, List.nil_append]
        rw [b229_30]
        simp only [b229_33, b229_37, b229_38, or01_0, or01_1, if_true]
        have hp := pcnt_le (xM x) 12
        unfold bI
        by_cases w : pcnt (xM x) 12 = nbr G (gR G)
        · rw [if_pos (by rw [w]), if_pos ⟨q, z, Or.inr w⟩]
        · rw [if_neg (by rw [nI_eq (by omega) (by omega)]; exact w), if_neg (fun y => y.2.2.elim q0 w)]
    · rw [if_neg (by rw [nI_eq (by omega) hg2]; exact z), b229_13]
      unfold bI
      rw [if_neg (fun y => z y.2.1)]
/-- what is still to go, so far -/
def stJ (G : LG) (pl : Option Nat) (s : XS → Nat → Option XS) (n : Nat) (K : Nat → XS) (kd g : Nat) (st : Nat → Nat) : Prop := ∀ j, j < n → st j ≤ 268435456 ∧ (thK G kd g (K j) → st j = 0) ∧ (st j < 268435456 → ∃ w, gwk s (thK G kd g) (lpK G pl kd) (K j) w ∧ dys (gLon G) w = st j)
def sx179 : Nat → Nat → Prop := fun c _ => c = 179
theorem mN_179 {h h2 : sm_H} (H : mN h G sh pl p ov n K x0) (E : eqx sx179 h h2) : mN h2 G sh pl p ov n K x0 := mN_eqx H E (fun c i z => by unfold sx179 at z; omega)
theorem m_still_init {g : Nat} {gI : Int32} {h : sm_H} (H : mN h G sh pl p ov n K x0) (hkd : kd ≤ 2) (hg : kd ≠ 1 → gI = nI g ∧ g < 2 ^ 31) : ∀ (m k : Nat) (h1 : sm_H), k + m = n → (∀ j, j < k → sm_gi h1 179 j = nI (if thK G kd g (K j) then 0 else 268435456)) → eqx sx179 h h1 →
    ∃ h2, xe 4 231 2 [.ref 169, .int (nI kd), .int gI, .int (nI k), .null, .null, .null] [] h1 = xe 4 231 46 [.ref 169, .int (nI kd), .int gI, .int (nI 1), .null, .null, .null] [] h2 ∧ (∀ j, j < n → sm_gi h2 179 j = nI (if thK G kd g (K j) then 0 else 268435456)) ∧ eqx sx179 h h2
  | 0, k, h1, e, a, E => by
    have : k = n := by omega
    subst this
    have H1 := mN_179 H E
    rw [b231_2, H1.2.1.1.1, if_pos (Int32.le_refl _), b231_44]
    exact ⟨h1, rfl, a, E⟩
  | m + 1, k, h1, e, a, E => by
    have H1 := mN_179 H E
    have hn := H1.2.1.1.2.1
    have hw := H1.1.2.1
    rw [b231_2, H1.2.1.1.1, if_neg (by rw [nI_leI (by omega) (by omega)]; omega), b231_10]
    simp (disch := omega) only [in_177, if_true, nI_clamp, (H1.2.1.1.2.2.1 k (by omega)).1]
    rw [m_isThere (g := g) H1.1.1 hw H1.1.2.2.1 (H1.2.1.2.1 k (by omega)) hkd hg, bnd]
    simp only [app1, List.cons_append, List.nil_append]
    rw [b231_27]
    have step : ∀ v : Nat, v = (if thK G kd g (K k) then 0 else 268435456) → ∃ h2, xe 4 231 37 [.ref 169, .int (nI kd), .int gI, .int (nI k), .null, .null, .null] [.int (nI v), .int (nI k), .ref 179] h1 = xe 4 231 46 [.ref 169, .int (nI kd), .int gI, .int (nI 1), .null, .null, .null] [] h2 ∧ (∀ j, j < n → sm_gi h2 179 j = nI (if thK G kd g (K j) then 0 else 268435456)) ∧ eqx sx179 h h2 := by
      intro v hv
      rw [b231_37]
      simp (disch := omega) only [in_179, if_true, nI_clamp]
      rw [b231_38, nI_add]
      refine m_still_init H hkd hg m (k + 1) _ (by omega) (fun j hj => ?_) (E.si rfl)
      by_cases z : j = k
      · subst z; rw [gi_same, hv]
      · rw [gi_slot z]; exact a j (by omega)
    by_cases q : thK G kd g (K k)
    · rw [if_neg (by rw [bI_z]; exact fun z => z q), b231_30]
      exact step 0 (by rw [if_pos q])
    · rw [if_pos (by rw [bI_z]; exact q), b231_34]
      exact step 268435456 (by rw [if_neg q])
theorem pSum_cong {f f' : Nat → Nat} : ∀ n, (∀ j, j < n → f' j = f j) → pSum f' n = pSum f n
  | 0, _ => rfl
  | n + 1, h => by unfold pSum; rw [pSum_cong n (fun j hj => h j (by omega)), h n (by omega)]
theorem pSum_up {f : Nat → Nat} {k v : Nat} (hv : v < f k) : ∀ n, k < n → pSum (upN f k v) n < pSum f n
  | 0, h => by omega
  | n + 1, h => by
    unfold pSum
    by_cases q : k = n
    · subst q
      rw [upN_s, pSum_cong (f := f) (f' := upN f k v) k (fun j hj => upN_n (by omega))]
      omega
    · rw [upN_n (fun z => q z.symm)]
      have := pSum_up (f := f) hv n (by omega)
      omega
/-- nothing can be made less -/
def stF (G : LG) (pl : Option Nat) (s : XS → Nat → Option XS) (n : Nat) (K : Nat → XS) (kd : Nat) (st : Nat → Nat) : Prop := ∀ k, k < n → ∀ r, r < gR G → ∀ v, SB G pl s n K kd st k r v → st k ≤ v
theorem m_still_in {g k : Nat} {gI : Int32} {st0 : Nat → Nat} {h : sm_H} (H : mN h G sh pl p ov n K x0) (hkd : kd ≤ 2) (hk : k < n) : ∀ (m r : Nat) (mo : Nat) (st : Nat → Nat) (h1 : sm_H) (l6 : Value), r + m = gR G → mo ≤ 1 → (∀ j, j < n → sm_gi h1 179 j = nI (st j)) → stJ G pl (stp G sh pl p ov) n K kd g st → (mo = 0 → st = st0 ∧ ∀ k', k < k' → k' < n → ∀ r, r < gR G → ∀ v, SB G pl (stp G sh pl p ov) n K kd st k' r v → st k' ≤ v) → (mo = 0 → ∀ r', r' < r → ∀ v, SB G pl (stp G sh pl p ov) n K kd st k r' v → st k ≤ v) → (mo = 1 → pSum st n < pSum st0 n) → eqx sx179 h h1 →
    ∃ mo' st' h2 l5' l6', xe 4 231 68 [.ref 169, .int (nI kd), .int gI, .int (nI mo), .int (nI k), .int (nI r), l6] [] h1 = xe 4 231 60 [.ref 169, .int (nI kd), .int gI, .int (nI mo'), .int (nI k + -1), l5', l6'] [] h2 ∧ mo' ≤ 1 ∧ (∀ j, j < n → sm_gi h2 179 j = nI (st' j)) ∧ stJ G pl (stp G sh pl p ov) n K kd g st' ∧ (mo' = 0 → st' = st0 ∧ ∀ k', k ≤ k' → k' < n → ∀ r, r < gR G → ∀ v, SB G pl (stp G sh pl p ov) n K kd st' k' r v → st' k' ≤ v) ∧ (mo' = 1 → pSum st' n < pSum st0 n) ∧ eqx sx179 h h2
  | 0, r, mo, st, h1, l6, e, hmo, a, J, b, b2, c, E => by
    have H1 := mN_179 H E
    have hR := H1.1.2.1.2.1
    have : r = gR G := by omega
    subst this
    rw [b231_68]
    simp (disch := omega) only [in_170, if_true, nI_clamp, H1.1.1.1.2.1]
    rw [if_pos (Int32.le_refl _), b231_122]
    refine ⟨mo, st, h1, _, _, rfl, hmo, a, J, fun z => ⟨(b z).1, fun k' h1 h2 r hr v hv => ?_⟩, c, E⟩
    by_cases q : k' = k
    · subst q; exact b2 z r hr v hv
    · exact (b z).2 k' (by omega) h2 r hr v hv
  | m + 1, r, mo, st, h1, l6, e, hmo, a, J, b, b2, c, E => by
    have H1 := mN_179 H E
    have hR := H1.1.2.1.2.1
    have hn := H1.2.1.1.2.1
    rw [b231_68]
    simp (disch := omega) only [in_170, if_true, nI_clamp, H1.1.1.1.2.1]
    rw [if_neg (by rw [nI_leI (by omega) (by omega)]; omega), b231_79]
    obtain ⟨v, ev, hv⟩ := m_stillBy (r := r) H1 hk (by omega) a hkd
    rw [ev, bnd]
    simp only [app1, List.cons_append, List.nil_append]
    rw [b231_88]
    simp (disch := omega) only [in_179, if_true, nI_clamp, a k hk]
    have hlon : 1 ≤ gLon G r ∧ gLon G r ≤ 20 := by have := H1.1.2.1.2.2.2.1 r (by omega); omega
    have hvb : v < 2 ^ 31 := by
      unfold SB at hv
      cases hs : stp G sh pl p ov (K k) r with
      | none => rw [hs] at hv; dsimp only at hv; omega
      | some y =>
        rw [hs] at hv
        rcases hv with ⟨-, q⟩ | ⟨-, i, q1, q2, q3⟩
        · omega
        · have := (J i q1).1; omega
    have hjk := J k hk
    by_cases q : v < st k
    · rw [if_pos (by rw [nI_ltI hvb (by omega)]; exact q), b231_105]
      simp (disch := omega) only [in_179, if_true, nI_clamp]
      rw [b231_114, b231_116, nI_add]
      have hlt := pSum_up q n hk
      have J' : stJ G pl (stp G sh pl p ov) n K kd g (upN st k v) := fun j hj => by
        by_cases z : j = k
        · subst z
          rw [upN_s]
          refine ⟨by omega, fun w => by have := hjk.2.1 w; omega, fun _ => ?_⟩
          unfold SB at hv
          cases hs : stp G sh pl p ov (K j) r with
          | none => rw [hs] at hv; dsimp only at hv; omega
          | some y =>
            rw [hs] at hv
            rcases hv with ⟨q1, q2⟩ | ⟨q1, i, q2, q3, q4⟩
            · exact ⟨[r], ⟨y, hs, Or.inl ⟨rfl, q1⟩⟩, by rw [q2]; rfl⟩
            · obtain ⟨w, hw1, hw2⟩ := (J i q2).2.2 (by omega)
              refine ⟨r :: w, ⟨y, hs, Or.inr (by rw [← q3]; exact hw1)⟩, ?_⟩
              show gLon G r + dys (gLon G) w = v
              omega
        · rw [upN_n z]; exact J j hj
      refine m_still_in H hkd hk m (r + 1) 1 (upN st k v) _ _ (by omega) (Nat.le_refl 1) (fun j hj => ?_) J' (fun z => by omega) (fun z => by omega) (fun _ => ?_) (E.si rfl)
      · by_cases z : j = k
        · subst z; rw [gi_same, upN_s]
        · rw [gi_slot z, upN_n z]; exact a j hj
      · rcases (by omega : mo = 0 ∨ mo = 1) with z | z
        · rw [(b z).1] at hlt ⊢; exact hlt
        · have := c z; omega
    · rw [if_neg (by rw [nI_ltI hvb (by omega)]; exact q), b231_102, b231_116, nI_add]
      refine m_still_in H hkd hk m (r + 1) mo st h1 _ (by omega) hmo a J b (fun z r' h' v' hv' => ?_) c E
      by_cases z2 : r' = r
      · subst z2
        have := SB_fun H1 hv hv'
        omega
      · exact b2 z r' (by omega) v' hv'
theorem m_still_sweep {g : Nat} {gI : Int32} {st0 : Nat → Nat} {h : sm_H} (H : mN h G sh pl p ov n K x0) (hkd : kd ≤ 2) : ∀ (k mo : Nat) (st : Nat → Nat) (h1 : sm_H) (l5 l6 : Value), k ≤ n → mo ≤ 1 → (∀ j, j < n → sm_gi h1 179 j = nI (st j)) → stJ G pl (stp G sh pl p ov) n K kd g st → (mo = 0 → st = st0 ∧ ∀ k', k ≤ k' → k' < n → ∀ r, r < gR G → ∀ v, SB G pl (stp G sh pl p ov) n K kd st k' r v → st k' ≤ v) → (mo = 1 → pSum st n < pSum st0 n) → eqx sx179 h h1 →
    ∃ mo' st' h2 l4' l5' l6', xe 4 231 60 [.ref 169, .int (nI kd), .int gI, .int (nI mo), .int (nI k - nI 1), l5, l6] [] h1 = xe 4 231 46 [.ref 169, .int (nI kd), .int gI, .int (nI mo'), l4', l5', l6'] [] h2 ∧ mo' ≤ 1 ∧ (∀ j, j < n → sm_gi h2 179 j = nI (st' j)) ∧ stJ G pl (stp G sh pl p ov) n K kd g st' ∧ (mo' = 0 → stF G pl (stp G sh pl p ov) n K kd st') ∧ (mo' = 1 → pSum st' n < pSum st0 n) ∧ eqx sx179 h h2
  | 0, mo, st, h1, l5, l6, hk, hmo, a, J, b, c, E => by
    rw [b231_60, if_pos (by decide +kernel), b231_128]
    exact ⟨mo, st, h1, _, _, _, rfl, hmo, a, J, fun z k hk r hr v hv => (b z).2 k (Nat.zero_le _) hk r hr v hv, c, E⟩
  | k + 1, mo, st, h1, l5, l6, hk, hmo, a, J, b, c, E => by
    have H1 := mN_179 H E
    have hn := H1.2.1.1.2.1
    rw [sub1 (by omega), Nat.add_sub_cancel, b231_60, if_neg (by rw [nI_neg (by omega)]; exact id), b231_65]
    obtain ⟨mo', st', h2, a5, a6, e2, hmo2, a2, J2, b2, c2, E2⟩ := m_still_in (g := g) (gI := gI) (st0 := st0) H hkd (show k < n by omega) (gR G) 0 mo st h1 l6 (by omega) hmo a J (fun z => ⟨(b z).1, fun k' x y => (b z).2 k' (by omega) y⟩) (fun z r' hr' => by omega) c E
    rw [e2, show nI k + -1 = nI k - nI 1 from by
      rw [Int32.sub_eq_add_neg]; rfl]
    exact m_still_sweep H hkd k mo' st' h2 _ _ (by omega) hmo2 a2 J2 b2 c2 E2
theorem m_still_loop {g : Nat} {gI : Int32} {h : sm_H} (H : mN h G sh pl p ov n K x0) (hkd : kd ≤ 2) : ∀ (N mo : Nat) (st : Nat → Nat) (h1 : sm_H) (l4 l5 l6 : Value), pSum st n ≤ N → mo ≤ 1 → (∀ j, j < n → sm_gi h1 179 j = nI (st j)) → stJ G pl (stp G sh pl p ov) n K kd g st → (mo = 0 → stF G pl (stp G sh pl p ov) n K kd st) → eqx sx179 h h1 →
    ∃ st' h2 l4' l5' l6', xe 4 231 46 [.ref 169, .int (nI kd), .int gI, .int (nI mo), l4, l5, l6] [] h1 = xe 4 231 131 [.ref 169, .int (nI kd), .int gI, .int (nI 0), l4', l5', l6'] [] h2 ∧ (∀ j, j < n → sm_gi h2 179 j = nI (st' j)) ∧ stJ G pl (stp G sh pl p ov) n K kd g st' ∧ stF G pl (stp G sh pl p ov) n K kd st' ∧ eqx sx179 h h2 := by
  intro N
  induction N with
  | zero =>
    intro mo st h1 l4 l5 l6 hN hmo a J b E
    have H1 := mN_179 H E
    rw [b231_46]
    rcases (by omega : mo = 0 ∨ mo = 1) with z | z
    · subst z
      rw [if_pos (by decide +kernel)]
      exact ⟨st, h1, _, _, _, rfl, a, J, b rfl, E⟩
    · subst z
      rw [if_neg (by decide +kernel), b231_50, H1.2.1.1.1]
      obtain ⟨mo', st', h2, a4, a5, a6, e2, hmo2, a2, J2, b2, c2, E2⟩ := m_still_sweep (g := g) (gI := gI) (st0 := st) H hkd n 0 st h1 l5 l6 (Nat.le_refl n) (Nat.zero_le _) a J (fun _ => ⟨rfl, fun k' x y => by omega⟩) (fun z => by omega) E
      rw [e2]
      rcases (by omega : mo' = 0 ∨ mo' = 1) with z | z
      · subst z
        rw [b231_46, if_pos (by decide +kernel)]
        exact ⟨st', h2, _, _, _, rfl, a2, J2, b2 rfl, E2⟩
      · have := c2 z; omega
  | succ N ih =>
    intro mo st h1 l4 l5 l6 hN hmo a J b E
    have H1 := mN_179 H E
    rw [b231_46]
    rcases (by omega : mo = 0 ∨ mo = 1) with z | z
    · subst z
      rw [if_pos (by decide +kernel)]
      exact ⟨st, h1, _, _, _, rfl, a, J, b rfl, E⟩
    · subst z
      rw [if_neg (by decide +kernel), b231_50, H1.2.1.1.1]
      obtain ⟨mo', st', h2, a4, a5, a6, e2, hmo2, a2, J2, b2, c2, E2⟩ := m_still_sweep (g := g) (gI := gI) (st0 := st) H hkd n 0 st h1 l5 l6 (Nat.le_refl n) (Nat.zero_le _) a J (fun _ => ⟨rfl, fun k' x y => by omega⟩) (fun z => by omega) E
      rw [e2]
      rcases (by omega : mo' = 0 ∨ mo' = 1) with z | z
      · subst z
        rw [b231_46, if_pos (by decide +kernel)]
        exact ⟨st', h2, _, _, _, rfl, a2, J2, b2 rfl, E2⟩
      · exact ih mo' st' h2 _ _ _ (by have := c2 z; omega) hmo2 a2 J2 (fun y => by omega) E2
/-- laid: least days, by which no walk is shorter -/
theorem m_laysStill {g : Nat} {gI : Int32} {h : sm_H} (H : mN h G sh pl p ov n K x0) (hkd : kd ≤ 2) (hg : kd ≠ 1 → gI = nI g ∧ g < 2 ^ 31) :
    ∃ st h2, xc 231 [.ref 169, .int (nI kd), .int gI] h = some ([.int (if st 0 < 268435456 then nI (st 0) else -1)], h2) ∧ (∀ j, j < n → sm_gi h2 179 j = nI (st j)) ∧ stJ G pl (stp G sh pl p ov) n K kd g st ∧ stF G pl (stp G sh pl p ov) n K kd st ∧ mN h2 G sh pl p ov n K x0 ∧ eqx sx179 h h2 := by
  have h0 := H.2.1.2.2.1
  rw [en_231, b231_0]
  obtain ⟨h1, e1, a1, E1⟩ := m_still_init (g := g) (gI := gI) H hkd hg n 0 h (by omega) (fun j hj => by omega) eqx.rf
  rw [e1]
  have J1 : stJ G pl (stp G sh pl p ov) n K kd g (fun j => if thK G kd g (K j) then 0 else 268435456) := fun j hj => by
    dsimp only
    by_cases q : thK G kd g (K j)
    · rw [if_pos q]; exact ⟨by omega, fun _ => rfl, fun _ => ⟨[], q, rfl⟩⟩
    · rw [if_neg q]; exact ⟨Nat.le_refl _, fun z => absurd z q, fun z => by omega⟩
  obtain ⟨st, h2, a4, a5, a6, e2, a2, J2, F2, E2⟩ := m_still_loop (g := g) (gI := gI) H hkd _ 1 _ h1 .null .null .null (Nat.le_refl _) (Nat.le_refl _) a1 J1 (fun z => by omega) E1
  rw [e2, b231_131]
  have hj0 := (J2 0 h0).1
  simp (disch := omega) only [in_179, if_true, nI_clamp, a2 0 h0]
  refine ⟨st, h2, ?_, a2, J2, F2, mN_179 H E2, E2⟩
  by_cases q : st 0 < 268435456
  · rw [if_pos (by rw [nI_ltI (by omega) (by omega)]; exact q), if_pos q, b231_147]
    simp (disch := omega) only [in_179, if_true, nI_clamp, a2 0 h0]
    rw [b231_153]
  · rw [if_neg (by rw [nI_ltI (by omega) (by omega)]; exact q), if_neg q, b231_143, b231_153]
end STILL
