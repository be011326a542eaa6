/-! ===== the model: trays; judge, perform ===== -/
/-- trays: none, or the sort of its numbers and the numbers -/
abbrev TG : Type := Nat → Option (Nat × List Int64)
def mT (h : sm_H) (T : TG) : Prop := ∀ t, t < 4 → match T t with
  | none => sm_gi h 184 t = -1
  | some q => sm_gi h 184 t = nI q.1 ∧ q.1 ≤ 3 ∧ sm_gi h 185 t = nI q.2.length ∧ q.2.length ≤ 40 ∧ ∀ k, k < q.2.length → sm_gl h 186 (40 * t + k) = q.2.getD k 0
theorem mT_eqx {h h2 : sm_H} {T : TG} {S : Nat → Nat → Prop} (hT : mT h T) (E : eqx S h h2) (hS : ∀ c i, 184 ≤ c → c ≤ 186 → ¬ S c i) : mT h2 T := by
  intro t ht
  have := hT t ht
  cases hq : T t with
  | none => rw [hq] at this; show sm_gi h2 184 t = -1; rw [E.1 184 t (hS _ _ (by decide) (by decide))]; exact this
  | some q =>
    rw [hq] at this
    exact ⟨by rw [E.1 184 t (hS _ _ (by decide) (by decide))]; exact this.1, this.2.1, by rw [E.1 185 t (hS _ _ (by decide) (by decide))]; exact this.2.2.1, this.2.2.2.1, fun k hk => by rw [E.2.1 186 _ (hS _ _ (by decide) (by decide))]; exact this.2.2.2.2 k hk⟩
def trI (T : TG) (t : Int32) : Int32 := if isN t.toInt64 4 then (match T (toN t) with | none => -6 | some _ => nI 0) else -2
theorem isN_w {v : Int64} {P : Nat} (hP : P + 1 < 2 ^ 30) : (lN 0 ≤ v ∧ v ≤ lN P) ↔ isN v (P + 1) := by
  rw [Int64.le_iff_toInt_le, Int64.le_iff_toInt_le, lN_toInt (by omega), lN_toInt (by omega)]
  unfold isN
  omega
theorem m_noTray {h : sm_H} {T : TG} {t : Int32} (hT : mT h T) : xc 215 [.ref 169, .int t] h = some ([.int (trI T t)], h) := by
  rw [en_215, b215_0, m_within, bnd]
  simp only [app1, List.cons_append, List.nil_append]
  rw [b215_9, fa_litL 0, fa_litL 3, bI_congr (isN_w (by decide))]
  unfold trI
  by_cases h1 : isN t.toInt64 4
  · rw [if_neg (by rw [bI_z]; exact fun z => z h1), if_pos h1]
    obtain ⟨j, hj, rfl⟩ := isN_nI h1 (by omega)
    rw [toN_nI (by omega), b215_17]
    simp (disch := omega) only [in_184, if_true, nI_clamp]
    have := hT j hj
    cases hq : T j with
    | none =>
      rw [hq] at this
      rw [if_pos this]
      simp only [b215_27, b215_32, b215_33]
    | some q =>
      rw [hq] at this
      rw [if_neg (by rw [this.1, nI_m1 (by have := this.2.1; omega)]; exact id)]
      simp only [b215_27, b215_32, b215_33]
  · rw [if_pos (by rw [bI_z]; exact h1), if_neg h1]
    simp only [b215_12, b215_33]
def pSum (f : Nat → Nat) : Nat → Nat
  | 0 => 0
  | k + 1 => pSum f k + f k
theorem m_papersAll_loop {G : LG} {W : WG} {L : List WG} {B : Nat} {h : sm_H} (S : mS h G W L B) : ∀ (m k : Nat), k + m = gP G → xe 1 216 4 [.ref 169, .int (nI (pSum (wPap W) k)), .int (nI k)] [] h = some ([.int (nI (pSum (wPap W) (gP G)))], h)
  | 0, k, e => by
    have hP := S.1.2.2.1
    have hk : k = gP G := by omega
    subst hk
    rw [b216_4]
    simp (disch := omega) only [in_170, if_true, nI_clamp, S.2.1.1.2.2]
    rw [if_pos (Int32.le_refl _), b216_32]
  | m + 1, k, e => by
    have hP := S.1.2.2.1
    rw [b216_4]
    simp (disch := omega) only [in_170, if_true, nI_clamp, S.2.1.1.2.2]
    rw [if_neg (by rw [nI_leI (by omega) (by omega)]; omega), b216_14]
    simp (disch := omega) only [nI_add, in_170, if_true, nI_clamp]
    rw [show 102 + k = 88 + 14 + k by omega, S.2.2.1.2.2.2 k (by omega), nI_add]
    exact m_papersAll_loop S m (k + 1) (by omega)
theorem m_papersAll {G : LG} {W : WG} {L : List WG} {B : Nat} {h : sm_H} (S : mS h G W L B) : xc 216 [.ref 169] h = some ([.int (nI (pSum (wPap W) (gP G)))], h) := by
  rw [en_216, b216_0]
  exact m_papersAll_loop S (gP G) 0 (by omega)
theorem m_tells {G : LG} {W : WG} {L : List WG} {B t : Nat} {h : sm_H} {T : TG} {q : Nat × List Int64} (S : mS h G W L B) (hT : mT h T) (ht : t < 4) (hq : T t = some q) :
    ∃ h2, xc 214 [.ref 169, .int (nI t)] h = some ([.int (nI (tellF G W q.2).1)], h2) ∧ sm_gi h2 169 19 = nI (tellF G W q.2).2.1 ∧ mS h2 G (tellF G W q.2).2.2 L (B + 20 * q.2.length) ∧ eqx sxT h h2 := by
  have hm := hT t ht
  rw [hq] at hm
  rw [en_214, b214_0, b214_5]
  have E0 : eqx sxT h (sm_si h 169 19 (nI 0)) := eqx.rf.si (Or.inr ⟨rfl, rfl⟩)
  have S0 : mS (sm_si h 169 19 (nI 0)) G W L B := by
    refine mS_D S E0 ?_ S.2.2.2.1 (Nat.le_refl B)
    rw [show sm_gi (sm_si h 169 19 (nI 0)) 170 = sm_gi h 170 from funext fun i => gi_cell (by decide)]
    exact S.2.2.1
  obtain ⟨h2, e2, a2, b2, S2, E2⟩ := m_tells_loop (G := G) (L := L) (h := h) ht hm.2.2.2.1 hm.2.2.1 hm.2.2.2.2 q.2 0 B W (sm_si h 169 19 (nI 0)) (by omega) (fun j _ => by rw [Nat.zero_add]) S0 E0
  refine ⟨h2, by rw [e2, Nat.zero_add], ?_, S2, E2⟩
  by_cases z : q.2 = []
  · rw [b2 z, gi_same, z]; rfl
  · exact a2 z
theorem tellF_le {G : LG} : ∀ (vs : List Int64) (W : WG), (tellF G W vs).1 ≤ vs.length ∧ (tellF G W vs).2.1 ≤ 5 ∧ ((tellF G W vs).2.1 = 0 ↔ (tellF G W vs).1 = vs.length)
  | [], W => ⟨Nat.le_refl _, Nat.zero_le _, iff_of_true rfl rfl⟩
  | v :: vs, W => by
    unfold tellF
    by_cases h0 : whyV G W v = 0
    · rw [if_pos h0]
      obtain ⟨a, b, c⟩ := tellF_le vs (doV G W v)
      exact ⟨by simp; omega, b, by simp only [List.length_cons]; rw [c]; omega⟩
    · rw [if_neg h0]
      exact ⟨Nat.zero_le _, whyV_le, iff_of_false h0 (by simp)⟩
/-- perform -/
def dPerf (G : LG) (W : WG) (L : List WG) (T : TG) (t : Int32) : Int32 × WG × List WG := if isN t.toInt64 4 then (match T (toN t) with
  | none => (-6, W, L)
  | some q => (nI (tellF G W q.2).1, (tellF G W q.2).2.2, if (tellF G W q.2).1 = 0 then L else pushL L W)) else (-2, W, L)
theorem tellF_0 {G : LG} {W : WG} {vs : List Int64} (h : (tellF G W vs).1 = 0) : (tellF G W vs).2.2 = W := by
  cases vs with
  | nil => rfl
  | cons v vs =>
    unfold tellF at h ⊢
    by_cases h0 : whyV G W v = 0
    · rw [if_pos h0] at h; dsimp only at h; omega
    · rw [if_neg h0]
theorem eqx_T {h h1 h2 : sm_H} {h3 : sm_H} (E1 : eqx sxK h h1) (E2 : eqx sxT h1 h2) (E3 : eqx sxN h2 h3) : eqx sxM h h3 := ((E1.wk sxK_M).tr (E2.wk (fun c i q => by unfold sxT sxD at q; unfold sxM; omega))).tr (E3.wk sxN_M)
theorem m_perform {G : LG} {W : WG} {L : List WG} {B : Nat} {h : sm_H} {T : TG} {t : Int32} (S : mS h G W L B) (hT : mT h T) : ∃ h2, xc 218 [.ref 169, .int t] h = some ([.int (dPerf G W L T t).1], h2) ∧ mS h2 G (dPerf G W L T t).2.1 (dPerf G W L T t).2.2 (B + 800) ∧ mT h2 T ∧ eqx sxM h h2 := by
  rw [en_218, b218_0, b218_5]
  have S0 := mS_thrown (v := nI 0) S
  have hw := S0.1
  have hP := hw.2.2.1
  have T0 : mT (sm_si h 169 0 (nI 0)) T := mT_eqx hT (S := sxM) (eqx.rf.si (by unfold sxM; omega)) (fun c i a b => by unfold sxM; omega)
  rw [m_noTray T0, bnd]
  simp only [app1, List.cons_append, List.nil_append]
  rw [b218_10]
  unfold dPerf trI
  by_cases h1 : isN t.toInt64 4
  · rw [if_pos h1, if_pos h1]
    obtain ⟨j, hj, rfl⟩ := isN_nI h1 (by omega)
    rw [toN_nI (by omega)]
    cases hq : T j with
    | none =>
      dsimp only
      rw [if_neg (by decide +kernel), b218_15]
      exact ⟨_, rfl, S0.mono (by omega), T0, eqx_thrown eqx.rf⟩
    | some q =>
      dsimp only
      rw [if_pos (by decide +kernel), b218_17]
      have hm := hT j hj
      rw [hq] at hm
      obtain ⟨h2, e2, k2, E2⟩ := m_keeps (h := sm_si h 169 0 (nI 0))
      rw [e2, bnd]
      simp only [List.nil_append]
      have S2 := mS_keep S0 E2
      have T2 : mT h2 T := mT_eqx T0 E2 (fun c i a b => by unfold sxK; omega)
      obtain ⟨h3, e3, a3, S3, E3⟩ := m_tells S2 T2 hj hq
      rw [b218_21, e3, bnd]
      simp only [app1, List.cons_append, List.nil_append]
      rw [b218_26]
      have hle := (tellF_le q.2 W (G := G)).1
      have hlen := hm.2.2.2.1
      by_cases h0 : (tellF G W q.2).1 = 0
      · rw [if_pos (by rw [nI_le0 (by omega)]; exact h0), if_pos h0, b218_35]
        exact ⟨h3, rfl, S3.mono (by omega), mT_eqx T2 E3 (fun c i a b => by unfold sxT sxD; omega), eqx_thrown ((E2.wk sxK_M).tr (E3.wk (fun c i q => by unfold sxT sxD at q; unfold sxM; omega)))⟩
      · rw [if_neg (by rw [nI_le0 (by omega)]; exact h0), if_neg h0, b218_31]
        have hWk : mW (sm_gi h3 176) 0 (gP G) W := mW_cp (f := sm_gi (sm_si h 169 0 (nI 0)) 170) (o := 88) hP (fun i hi => by rw [Nat.zero_add, E3.1 176 i (by unfold sxT sxD; omega)]; exact k2 i hi) S0.2.2.1
        obtain ⟨h4, e4, P4, E4⟩ := m_notes hP S3.2.2.2.2.1 hWk
        rw [e4, bnd]
        simp only [List.nil_append]
        rw [b218_35]
        obtain ⟨b1, b2, b3, b4, b5, b6, b7⟩ := S3
        have e4' : ∀ i, (i < 114 ∨ 375 ≤ i) → sm_gi h4 170 i = sm_gi h3 170 i := fun i hi => E4.1 170 i (by unfold sxN; omega)
        refine ⟨h4, rfl, ⟨b1, mG_eq b1 (fun i hi => e4' i (by omega)) b2, mW_cp hP (fun i hi => e4' _ (by omega)) b3, b4.mono (by omega), P4, pushL_wf (fun j hj => (b6 j hj).mono (by omega)) (S0.2.2.2.1.mono (by omega)), by rw [E4.1 169 15 (by unfold sxN; omega)]; exact b7⟩, mT_eqx (mT_eqx T2 E3 (fun c i a b => by unfold sxT sxD; omega)) E4 (fun c i a b => by unfold sxN; omega), eqx_thrown (eqx_T E2 E3 E4)⟩
  · rw [if_neg h1, if_neg h1]
    rw [if_neg (by decide +kernel), b218_15]
    exact ⟨_, rfl, S0.mono (by omega), T0, eqx_thrown eqx.rf⟩
