/-! ===== the model: where a search can stand ===== -/
def sdX (x : XS) : Nat := ((10 * xF x + xN x) * 64 + xB x) * 16 + xM x
theorem okX.b {G : LG} {x : XS} (hw : wfG G) (ok : okX G x) : xM x < 16 ∧ xB x < 64 ∧ xN x ≤ 9 ∧ xF x < 6 := by
  have hN := hw.1.2
  have p6 := pow6 hN
  obtain ⟨a, b, c, d⟩ := ok
  exact ⟨a, by omega, c, by omega⟩
theorem sdX_lt {G : LG} {x : XS} (hw : wfG G) (ok : okX G x) : sdX x < 61440 := by
  obtain ⟨a, b, c, d⟩ := ok.b hw
  unfold sdX
  omega
theorem sdX_parts {x : XS} (a : xM x < 16) (b : xB x < 64) (c : xN x ≤ 9) : sdX x % 16 = xM x ∧ sdX x / 16 % 64 = xB x ∧ sdX x / 1024 % 10 = xN x ∧ sdX x / 10240 = xF x := by
  unfold sdX
  omega
theorem sdX_inj {G : LG} {x y : XS} (hw : wfG G) (ox : okX G x) (oy : okX G y) (e : sdX x = sdX y) : x = y := by
  obtain ⟨a, b, c, d⟩ := ox.b hw
  obtain ⟨a', b', c', d'⟩ := oy.b hw
  obtain ⟨p1, p2, p3, p4⟩ := sdX_parts a b c
  obtain ⟨q1, q2, q3, q4⟩ := sdX_parts a' b' c'
  obtain ⟨m1, m2, m3, m4⟩ := x
  obtain ⟨k1, k2, k3, k4⟩ := y
  rw [e] at p1 p2 p3 p4
  have e1 : m1 = k1 := p1.symm.trans q1
  have e2 : m2 = k2 := p2.symm.trans q2
  have e3 : m3 = k3 := p3.symm.trans q3
  have e4 : m4 = k4 := p4.symm.trans q4
  rw [e1, e2, e3, e4]
/-- the rows of stands: n of them, each with its place -/
def mV (h : sm_H) (n : Nat) (K : Nat → Nat) : Prop := sm_gi h 169 25 = nI n ∧ n ≤ 61440 ∧ (∀ k, k < n → sm_gi h 177 k = nI (K k) ∧ K k < 61440 ∧ sm_gi h 178 (K k) = nI (k + 1)) ∧ ∀ c, c < 61440 → (∀ k, k < n → K k ≠ c) → sm_gi h 178 c = nI 0
def sxS : Nat → Nat → Prop := fun c i => c = 174 ∨ c = 175 ∨ c = 177 ∨ c = 178 ∨ c = 180 ∨ (c = 169 ∧ i = 25)
theorem sxL_S : ∀ c i, sxL c i → sxS c i := fun c i z => by unfold sxL at z; unfold sxS; omega
theorem mV_eqx {S : Nat → Nat → Prop} {h h2 : sm_H} {n : Nat} {K : Nat → Nat} (H : mV h n K) (E : eqx S h h2) (hS : ∀ c i, S c i → c ≠ 177 ∧ c ≠ 178 ∧ ¬ (c = 169 ∧ i = 25)) : mV h2 n K :=
  ⟨(E.1 169 25 (fun z => (hS _ _ z).2.2 ⟨rfl, rfl⟩)).trans H.1, H.2.1, fun k hk => ⟨(E.1 177 k (fun z => (hS _ _ z).1 rfl)).trans (H.2.2.1 k hk).1, (H.2.2.1 k hk).2.1, (E.1 178 _ (fun z => (hS _ _ z).2.1 rfl)).trans (H.2.2.1 k hk).2.2⟩, fun c hc q => (E.1 178 c (fun z => (hS _ _ z).2.1 rfl)).trans (H.2.2.2 c hc q)⟩
theorem mV_inj {h : sm_H} {n : Nat} {K : Nat → Nat} (H : mV h n K) {i j : Nat} (hi : i < n) (hj : j < n) (e : K i = K j) : i = j := by
  have a := (H.2.2.1 i hi).2.2
  have b := (H.2.2.1 j hj).2.2
  rw [e, b] at a
  have hn := H.2.1
  rw [nI_eq (by omega) (by omega)] at a
  omega
theorem in_177 {n : Nat} (hn : n < 61440) : sm_in 177 (nI n) ↔ True := in_ln (by omega) (by rw [ln_177]; exact hn)
theorem in_178 {n : Nat} (hn : n < 61440) : sm_in 178 (nI n) ↔ True := in_ln (by omega) (by rw [ln_178]; exact hn)
theorem in_179 {n : Nat} (hn : n < 61440) : sm_in 179 (nI n) ↔ True := in_ln (by omega) (by rw [ln_179]; exact hn)
theorem in_180 {n : Nat} (hn : n < 737280) : sm_in 180 (nI n) ↔ True := in_ln (by omega) (by rw [ln_180]; exact hn)
theorem in_181 {n : Nat} (hn : n < 4000) : sm_in 181 (nI n) ↔ True := in_ln (by omega) (by rw [ln_181]; exact hn)
def sxS1 : Nat → Nat → Prop := fun c i => c = 177 ∨ c = 178 ∨ (c = 169 ∧ i = 25)
theorem sxS1_S : ∀ c i, sxS1 c i → sxS c i := fun c i z => by unfold sxS1 at z; unfold sxS; omega
theorem m_addsStand {n c : Nat} {K : Nat → Nat} {h : sm_H} (H : mV h n K) (hc : c < 61440) :
    ∃ n' K' k h2, xc 223 [.ref 169, .int (nI c)] h = some ([.int (nI k)], h2) ∧ mV h2 n' K' ∧ k < n' ∧ K' k = c ∧ (∀ j, j < n → K' j = K j) ∧ ((n' = n ∧ K' = K) ∨ (n' = n + 1 ∧ K' n = c)) ∧ eqx sxS1 h h2 := by
  have hn := H.2.1
  rw [en_223, b223_0]
  simp (disch := omega) only [in_178, if_true, nI_clamp]
  by_cases q : ∃ k, k < n ∧ K k = c
  · obtain ⟨k, hk, rfl⟩ := q
    have hv := H.2.2.1 k hk
    rw [hv.2.2, if_neg (by rw [nI_z (by omega)]; omega), b223_39]
    simp (disch := omega) only [in_178, if_true, nI_clamp]
    rw [hv.2.2, sub1 (by omega), Nat.add_sub_cancel]
    exact ⟨n, K, k, h, rfl, H, hk, rfl, fun j _ => rfl, Or.inl ⟨rfl, rfl⟩, eqx.rf⟩
  · have q' : ∀ k, k < n → K k ≠ c := fun k hk e => q ⟨k, hk, e⟩
    have hlt : n < 61440 := by
      have := php 61440 (n + 1) (fun i => if i = n then c else K i) (fun i hi => by
        by_cases z : i = n
        · rw [if_pos z]; exact hc
        · rw [if_neg z]; exact (H.2.2.1 i (by omega)).2.1) (fun i j hi hj e => by
        by_cases z : i = n <;> by_cases z2 : j = n
        · omega
        · rw [if_pos z, if_neg z2] at e; exact absurd e.symm (q' j (by omega))
        · rw [if_neg z, if_pos z2] at e; exact absurd e (q' i (by omega))
        · rw [if_neg z, if_neg z2] at e; exact mV_inj H (by omega) (by omega) e)
      omega
    rw [H.2.2.2 c hc q', if_pos (by decide +kernel), b223_9, H.1]
    simp (disch := omega) only [in_177, if_true, nI_clamp]
    rw [b223_19, gi_cell (by decide), H.1, nI_add, b223_29]
    simp (disch := omega) only [in_178, if_true, nI_clamp]
    rw [gi_same, b223_39]
    simp (disch := omega) only [in_178, if_true, nI_clamp]
    rw [gi_same, sub1 (by omega), Nat.add_sub_cancel]
    have hKj : ∀ j, j < n → (fun i => if i = n then c else K i) j = K j := fun j hj => if_neg (by omega)
    have hKn : (fun i => if i = n then c else K i) n = c := if_pos rfl
    refine ⟨n + 1, fun i => if i = n then c else K i, n, _, rfl, ⟨?_, by omega, fun k hk => ?_, fun d hd hk => ?_⟩, by omega, hKn, hKj, Or.inr ⟨rfl, hKn⟩, ((eqx.rf.si (by unfold sxS1; omega)).si (by unfold sxS1; omega)).si (by unfold sxS1; omega)⟩
    · rw [gi_cell (by decide), gi_same]
    · by_cases z : k = n
      · subst z
        rw [hKn]
        exact ⟨by rw [gi_cell (by decide), gi_cell (by decide), gi_same], hc, gi_same⟩
      · have hv := H.2.2.1 k (by omega)
        rw [hKj k (by omega)]
        exact ⟨by rw [gi_cell (by decide), gi_cell (by decide), gi_slot z]; exact hv.1, hv.2.1, by rw [gi_slot (q' k (by omega)), gi_cell (by decide), gi_cell (by decide)]; exact hv.2.2⟩
    · have hdc : d ≠ c := fun z => hk n (by omega) (by rw [hKn, z])
      rw [gi_slot hdc, gi_cell (by decide), gi_cell (by decide)]
      exact H.2.2.2 d hd (fun k hk2 => by rw [← hKj k hk2]; exact hk k (by omega))
theorem m_bridgeBit_loop {G : LG} {r : Nat} {h : sm_H} (hG : mG (sm_gi h 170) G) (hw : wfG G) (hr : r < gR G) : ∀ (m k : Nat), k + m = r → xe 1 224 18 [.ref 169, .int (nI r), .int (nI (nbr G k)), .int (nI k)] [] h = some ([.int (nI 1 <<< (nI (nbr G r) &&& 31))], h)
  | 0, k, e => by
    have : k = r := by omega
    subst this
    rw [b224_18, if_pos (Int32.le_refl _), b224_41]
  | m + 1, k, e => by
    have hR := hw.2.1
    rw [b224_18, if_neg (by rw [nI_leI (by omega) (by omega)]; omega), b224_23]
    simp (disch := omega) only [nI_add, in_170, if_true, nI_clamp, (hG.2.1 k (by omega)).2.2.2.1]
    exact m_bridgeBit_loop hG hw hr m (k + 1) (by omega)
theorem m_bridgeBit {G : LG} {r : Nat} {h : sm_H} (hG : mG (sm_gi h 170) G) (hw : wfG G) (hx : wfX G) (hr : r < gR G) : xc 224 [.ref 169, .int (nI r)] h = some ([.int (nI (bbit G r))], h) := by
  have hR := hw.2.1
  rw [en_224, b224_0]
  simp (disch := omega) only [nI_add, in_170, if_true, nI_clamp, (hG.2.1 r hr).2.2.2.1]
  unfold bbit
  by_cases q : gBri G r = true
  · have := nbr_lt4 hx hr q
    rw [if_pos q, if_pos q, if_neg (by decide +kernel), b224_14]
    have e := m_bridgeBit_loop hG hw hr r 0 (by omega)
    rw [shl1 (by omega)] at e
    exact e
  · rw [if_neg q, if_neg q, if_pos (by decide +kernel), b224_12]
/-- what a search of the model needs -/
def mC (h : sm_H) (G : LG) (sh : Nat) (pl : Option Nat) (p : Nat) : Prop := mG (sm_gi h 170) G ∧ wfG G ∧ wfX G ∧ p < gP G ∧ sm_gi h 170 88 = nI sh ∧ sh < 4096 ∧ sm_gi h 169 15 = toI pl ∧ ∀ t, pl = some t → t < 12
theorem mC_eqx {S : Nat → Nat → Prop} {h h2 : sm_H} {G : LG} {sh p : Nat} {pl : Option Nat} (H : mC h G sh pl p) (E : eqx S h h2) (hS : ∀ c i, S c i → c ≠ 170 ∧ ¬ (c = 169 ∧ i = 15)) : mC h2 G sh pl p :=
  ⟨mG_eqx H.1 E (fun i z => (hS _ _ z).1 rfl), H.2.1, H.2.2.1, H.2.2.2.1, (E.1 170 88 (fun z => (hS _ _ z).1 rfl)).trans H.2.2.2.2.1, H.2.2.2.2.2.1, (E.1 169 15 (fun z => (hS _ _ z).2 ⟨rfl, rfl⟩)).trans H.2.2.2.2.2.2.1, H.2.2.2.2.2.2.2⟩
theorem mC_S {h h2 : sm_H} {G : LG} {sh p : Nat} {pl : Option Nat} (H : mC h G sh pl p) (E : eqx sxS h h2) : mC h2 G sh pl p := mC_eqx H E (fun c i z => by unfold sxS at z; omega)
/-- the steps from a stand are laid -/
def cmOK (h : sm_H) (n : Nat) (K : Nat → XS) (s : XS → Nat → Option XS) (k r : Nat) : Prop := match s (K k) r with
  | none => sm_gi h 180 (12 * k + r) = -1
  | some y => ∃ i, i < n ∧ sm_gi h 180 (12 * k + r) = nI i ∧ K i = y
theorem m_stand_stp {G : LG} {sh p k n : Nat} {pl : Option Nat} {ov : Bool} {pap : Int32} {K : Nat → XS} {r : Nat} {l11 l12 : Value} {h : sm_H} (C : mC h G sh pl p) (V : mV h n (fun j => sdX (K j))) (ok : ∀ j, j < n → okX G (K j)) (hk : k < n) (hr : r < gR G) :
    ∃ n' K' h2 l11' l12', xe 5 225 135 [.ref 169, .int (nI p), .int pap, .int (nI (if ov = true then 1 else 0)), .int (nI k), .int (nI (sdX (K k))), .int (nI (xM (K k))), .int (nI (xB (K k))), .int (nI (xN (K k))), .int (nI (xF (K k))), .int (nI r), l11, l12] [] h = xe 5 225 258 [.ref 169, .int (nI p), .int pap, .int (nI (if ov = true then 1 else 0)), .int (nI k), .int (nI (sdX (K k))), .int (nI (xM (K k))), .int (nI (xB (K k))), .int (nI (xN (K k))), .int (nI (xF (K k))), .int (nI r), l11', l12'] [] h2 ∧
      mV h2 n' (fun j => sdX (K' j)) ∧ (∀ j, j < n' → okX G (K' j)) ∧ n ≤ n' ∧ (∀ j, j < n → K' j = K j) ∧ (∀ j, n ≤ j → j < n' → stp G sh pl p ov (K k) r = some (K' j)) ∧ cmOK h2 n' K' (stp G sh pl p ov) k r ∧ eqx (fun c i => sxL c i ∨ sxS1 c i ∨ (c = 180 ∧ i = 12 * k + r)) h h2 := by
  have hw := C.2.1
  have hx := C.2.2.1
  have hR := hw.2.1
  have hP := hw.2.2.1
  have hN := hw.1.2
  have hn := V.2.1
  have hs12 := C.2.2.2.2.2.1
  obtain ⟨b1, b2, b3, b4⟩ := (ok k hk).b hw
  have hidx : 12 * k + r < 737280 := by omega
  rw [b225_135, pk_mul, nI_add]
  simp (disch := omega) only [in_180, if_true, nI_clamp]
  generalize hh0 : sm_si h 180 (12 * k + r) (-1) = h0
  have E0 : eqx (fun c i => c = 180 ∧ i = 12 * k + r) h h0 := by rw [← hh0]; exact eqx.rf.si ⟨rfl, rfl⟩
  have C0 : mC h0 G sh pl p := mC_eqx C E0 (fun c i z => by omega)
  have V0 : mV h0 n (fun j => sdX (K j)) := mV_eqx V E0 (fun c i z => by omega)
  have g0 : sm_gi h0 180 (12 * k + r) = -1 := by rw [← hh0]; exact gi_same
  rw [b225_149]
  obtain ⟨h1, e1, E1⟩ := m_whyRoad (sh := sh) (pl := pl) (pap := xN (K k)) (b := xB (K k)) (f := xF (K k)) C0.1 hw C0.2.2.2.1 hr (by omega) (by omega) (by omega) C0.2.2.2.2.1 (by omega) C0.2.2.2.2.2.2.1 C0.2.2.2.2.2.2.2
  rw [e1, bnd]
  simp only [app1, List.cons_append, List.nil_append]
  have C1 : mC h1 G sh pl p := mC_eqx C0 E1 (fun c i z => by unfold sxL at z; omega)
  have V1 : mV h1 n (fun j => sdX (K j)) := mV_eqx V0 E1 (fun c i z => by unfold sxL at z; omega)
  have g1 : sm_gi h1 180 (12 * k + r) = -1 := (E1.1 180 _ (by unfold sxL; omega)).trans g0
  have E01 : eqx (fun c i => sxL c i ∨ sxS1 c i ∨ (c = 180 ∧ i = 12 * k + r)) h h1 := (E0.wk (fun c i z => Or.inr (Or.inr z))).tr (E1.wk (fun c i z => Or.inl z))
  rw [b225_162]
  have hle := whyF_le (G := G) (sh := sh) (pl := pl) (p := p) (r := r) (pap := xN (K k)) (b := xB (K k)) (f := xF (K k))
  by_cases hy : whyF G sh pl p r (xN (K k)) (xB (K k)) (xF (K k)) = 0
  · obtain ⟨t, ht, -, hbr⟩ := whyF_ok hy
    have htN := toF_lt hw hr ht
    have hstp : stp G sh pl p ov (K k) r = some (if ov = true then xM (K k) ||| bbit G r else 0, xB (K k) ||| 2 ^ t, if gBri G r = true ∧ pl ≠ some r then xN (K k) - tollN G p (xN (K k)) (xB (K k)) (xF (K k)) t else xN (K k), t) := by
      unfold stp
      rw [if_pos ⟨hr, hy⟩, ht]
    have hoky := stp_ok hw hx (ok k hk) hstp
    rw [if_pos (by rw [hy]; decide +kernel), b225_168, m_leads' C1.1 hw hr (by omega), ht, bnd]
    simp only [app1, List.cons_append, List.nil_append, show toI (some t) = nI t from rfl]
    rw [b225_176, m_isBridge' C1.1 hw hr C1.2.2.2.2.2.2.1 C1.2.2.2.2.2.2.2, bnd]
    simp only [app1, List.cons_append, List.nil_append]
    rw [b225_184]
    -- papers left
    have left : ∃ h2, (if bI (gBri G r = true ∧ pl ≠ some r) = 0 then xe 5 225 206 [.ref 169, .int (nI p), .int pap, .int (nI (if ov = true then 1 else 0)), .int (nI k), .int (nI (sdX (K k))), .int (nI (xM (K k))), .int (nI (xB (K k))), .int (nI (xN (K k))), .int (nI (xF (K k))), .int (nI r), .int (nI t), l12] [] h1 else xe 5 225 187 [.ref 169, .int (nI p), .int pap, .int (nI (if ov = true then 1 else 0)), .int (nI k), .int (nI (sdX (K k))), .int (nI (xM (K k))), .int (nI (xB (K k))), .int (nI (xN (K k))), .int (nI (xF (K k))), .int (nI r), .int (nI t), l12] [] h1)
        = xe 5 225 208 [.ref 169, .int (nI p), .int pap, .int (nI (if ov = true then 1 else 0)), .int (nI k), .int (nI (sdX (K k))), .int (nI (xM (K k))), .int (nI (xB (K k))), .int (nI (xN (K k))), .int (nI (xF (K k))), .int (nI r), .int (nI t), l12] [.int (nI (if gBri G r = true ∧ pl ≠ some r then xN (K k) - tollN G p (xN (K k)) (xB (K k)) (xF (K k)) t else xN (K k)))] h2 ∧ eqx sxL h1 h2 := by
      by_cases q : gBri G r = true ∧ pl ≠ some r
      · rw [if_neg (by rw [bI_z]; exact fun z => z q), if_pos q, b225_187]
        obtain ⟨h2, e2, E2⟩ := m_takesOver (pap := xN (K k)) (b := xB (K k)) (f := xF (K k)) (t := t) C1.1 hw C1.2.2.2.1 (by omega) (by omega)
        rw [e2, bnd]
        simp only [app1, List.cons_append, List.nil_append]
        rw [b225_202, tollI_N.1, pk_sub (hbr q.1 q.2).2]
        exact ⟨h2, rfl, E2⟩
      · rw [if_pos (by rw [bI_z]; exact q), if_neg q, b225_206]
        exact ⟨h1, rfl, eqx.rf⟩
    obtain ⟨h2, e2, E2⟩ := left
    rw [e2]
    have C2 : mC h2 G sh pl p := mC_eqx C1 E2 (fun c i z => by unfold sxL at z; omega)
    have V2 : mV h2 n (fun j => sdX (K j)) := mV_eqx V1 E2 (fun c i z => by unfold sxL at z; omega)
    generalize hlf : (if gBri G r = true ∧ pl ≠ some r then xN (K k) - tollN G p (xN (K k)) (xB (K k)) (xF (K k)) t else xN (K k)) = lf at hstp hoky ⊢
    -- bridges gone over
    have over : xe 5 225 208 [.ref 169, .int (nI p), .int pap, .int (nI (if ov = true then 1 else 0)), .int (nI k), .int (nI (sdX (K k))), .int (nI (xM (K k))), .int (nI (xB (K k))), .int (nI (xN (K k))), .int (nI (xF (K k))), .int (nI r), .int (nI t), l12] [.int (nI lf)] h2
        = xe 5 225 251 [.ref 169, .int (nI p), .int pap, .int (nI (if ov = true then 1 else 0)), .int (nI k), .int (nI (sdX (K k))), .int (nI (xM (K k))), .int (nI (xB (K k))), .int (nI (xN (K k))), .int (nI (xF (K k))), .int (nI r), .int (nI t), .int (nI lf)] [.int (nI (if ov = true then xM (K k) ||| bbit G r else 0)), .int (nI (xB (K k) ||| 2 ^ t)), .int (nI lf), .int (nI t), .ref 169, .int (nI (12 * k + r)), .ref 180] h2 := by
      rw [b225_208, shl1 (by omega), fa_or, pk_mul, nI_add]
      by_cases q : ov = true
      · rw [if_pos q, if_pos q, if_neg (by decide +kernel), b225_238, m_bridgeBit C2.1 hw hx hr, bnd]
        simp only [app1, List.cons_append, List.nil_append]
        rw [b225_246, fa_or]
      · rw [if_neg q, if_neg q, if_pos (by decide +kernel), b225_250]
    rw [over, b225_251, en_222, b222_0, bnd]
    simp only [app1, List.cons_append, List.nil_append, pk_mul, nI_add]
    generalize hy0 : ((if ov = true then xM (K k) ||| bbit G r else 0, xB (K k) ||| 2 ^ t, lf, t) : XS) = y at hstp hoky
    have hsd : ((10 * t + lf) * 64 + (xB (K k) ||| 2 ^ t)) * 16 + (if ov = true then xM (K k) ||| bbit G r else 0) = sdX y := by rw [← hy0]; rfl
    rw [hsd, b225_254]
    obtain ⟨n', Kc, i, h3, e3, V3, hi, hKi, hKold, hnew, E3⟩ := m_addsStand V2 (sdX_lt hw hoky)
    rw [e3, bnd]
    simp only [app1, List.cons_append, List.nil_append]
    rw [b225_257]
    simp (disch := omega) only [in_180, if_true, nI_clamp]
    have hn' := V3.2.1
    have E4 : eqx (fun c i => c = 180 ∧ i = 12 * k + r) h3 (sm_si h3 180 (12 * k + r) (nI i)) := eqx.rf.si ⟨rfl, rfl⟩
    have Eall : eqx (fun c i => sxL c i ∨ sxS1 c i ∨ (c = 180 ∧ i = 12 * k + r)) h (sm_si h3 180 (12 * k + r) (nI i)) := ((E01.tr (E2.wk (fun c i z => Or.inl z))).tr (E3.wk (fun c i z => Or.inr (Or.inl z)))).tr (E4.wk (fun c i z => Or.inr (Or.inr z)))
    have V4 := mV_eqx V3 E4 (fun c i z => by omega)
    -- the stands as states
    have hK' : ∀ j, j < n' → Kc j = sdX ((fun j => if j < n then K j else y) j) := fun j hj => by
      dsimp only
      by_cases z : j < n
      · rw [if_pos z]; exact hKold j z
      · rw [if_neg z]
        rcases hnew with ⟨a, -⟩ | ⟨a, b⟩
        · omega
        · rw [show j = n by omega]; exact b
    have V5 : mV (sm_si h3 180 (12 * k + r) (nI i)) n' (fun j => sdX ((fun j => if j < n then K j else y) j)) :=
      ⟨V4.1, V4.2.1, fun j hj => by
        have := V4.2.2.1 j hj
        dsimp only
        rw [← hK' j hj]; exact this, fun c hc q => V4.2.2.2 c hc (fun j hj => by rw [hK' j hj]; exact q j hj)⟩
    refine ⟨n', fun j => if j < n then K j else y, _, _, _, rfl, V5, fun j hj => ?_, ?_, fun j hj => if_pos hj, fun j h1 h2 => ?_, ?_, Eall⟩
    · dsimp only
      by_cases z : j < n
      · rw [if_pos z]; exact ok j z
      · rw [if_neg z]; exact hoky
    · rcases hnew with ⟨a, -⟩ | ⟨a, -⟩ <;> omega
    · dsimp only
      rw [if_neg (by omega)]; exact hstp
    · unfold cmOK
      dsimp only
      rw [if_pos hk, hstp]
      refine ⟨i, hi, gi_same, ?_⟩
      have hlast := hK' i hi
      dsimp only at hlast
      rw [hKi] at hlast
      have oki : okX G (if i < n then K i else y) := by
        by_cases z : i < n
        · rw [if_pos z]; exact ok i z
        · rw [if_neg z]; exact hoky
      exact (sdX_inj hw hoky oki hlast).symm
  · rw [if_neg (by rw [nI_z (by omega)]; exact hy), b225_165]
    refine ⟨n, K, h1, l11, l12, rfl, V1, ok, Nat.le_refl n, fun j _ => rfl, fun j a b => by omega, ?_, E01⟩
    unfold cmOK
    have : stp G sh pl p ov (K k) r = none := by unfold stp; rw [if_neg (fun z => hy z.2)]
    rw [this]
    exact g1
