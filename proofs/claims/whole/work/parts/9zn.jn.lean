/-! ===== the joint invariant ===== -/
def sxLz : Nat → Nat → Prop := fun c i => c = 174 ∨ c = 175 ∨ (c = 169 ∧ i = 0)
theorem Lz_th {h h2 : sm_H} {v : Int32} (E : eqx sxLz (sm_si h 169 0 v) h2) : eqx sxLz h h2 := (eqx.rf.si (Or.inr (Or.inr ⟨rfl, rfl⟩))).tr E
theorem sxL_z : ∀ c i, sxL c i → sxLz c i := fun c i z => by unfold sxL at z; unfold sxLz; omega
section JN
variable {G : LG} {W : WG} {L : List WG} {B B2 B' : Nat} {h h2 : sm_H} {T : TG} {M : IG} {n0 : Nat} {t : Nat → Int32} {ln f1 f2 : Int32}
theorem m_shoesZ {t p : Int32} (S : mS h G W L B) (hT : mT h T) : ∃ h2, xc 263 [.ref 169, .int t, .int p] h = some ([.int (aShoes G W T t p)], h2) ∧ eqx sxLz h h2 := by
  have S0 := mS_thrown (v := nI 0) S
  have hP := S.1.2.2.1
  have T0 : mT (sm_si h 169 0 (nI 0)) T := mT_eqx hT (S := fun c _ => c = 169) (eqx.si (S := fun c _ => c = 169) eqx.rf rfl) (fun c i a b z => by omega)
  rw [en_263, b263_0, b263_5, m_noAnswers S0 T0, bnd]
  simp only [app1, List.cons_append, List.nil_append]
  rw [b263_11]
  unfold aShoes
  by_cases z : nA G T t p = 0
  · rw [if_pos z, if_pos z, b263_18, z]
    obtain ⟨t, p, q, ht, hp, rfl, rfl, hq, -, -, ha⟩ := nA_z hP z
    rw [toN_nI (by omega), toN_nI (by omega), hq]
    obtain ⟨h2, e2, E2⟩ := m_shoes_loop (l3 := 0) (h := sm_si h 169 0 (nI 0)) ht hp hq ha (2 ^ gN G) 0 _ (by omega) S0 T0 eqx.rf
    exact ⟨h2, e2, Lz_th (E2.wk sxL_z)⟩
  · rw [if_neg z, if_neg z, b263_16]
    exact ⟨_, rfl, Lz_th eqx.rf⟩
theorem m_sureZ {t p : Int32} (S : mS h G W L B) (hT : mT h T) : ∃ h2, xc 264 [.ref 169, .int t, .int p] h = some ([.int (aSure G W T t p)], h2) ∧ eqx sxLz h h2 := by
  have S0 := mS_thrown (v := nI 0) S
  have hP := S.1.2.2.1
  have T0 : mT (sm_si h 169 0 (nI 0)) T := mT_eqx hT (S := fun c _ => c = 169) (eqx.si (S := fun c _ => c = 169) eqx.rf rfl) (fun c i a b z => by omega)
  rw [en_264, b264_0, b264_5, m_noAnswers S0 T0, bnd]
  simp only [app1, List.cons_append, List.nil_append]
  rw [b264_11]
  unfold aSure
  by_cases z : nA G T t p = 0
  · rw [if_pos z, if_pos z, b264_18, z]
    obtain ⟨t, p, q, ht, hp, rfl, rfl, hq, -, -, ha⟩ := nA_z hP z
    rw [toN_nI (by omega), toN_nI (by omega), hq]
    obtain ⟨h2, e2, E2⟩ := m_sure_loop (l3 := 0) (h := sm_si h 169 0 (nI 0)) ht hp hq ha (2 ^ gN G) 0 _ (by omega) S0 T0 eqx.rf
    exact ⟨h2, e2, Lz_th (E2.wk sxL_z)⟩
  · rw [if_neg z, if_neg z, b264_16]
    exact ⟨_, rfl, Lz_th eqx.rf⟩
theorem m_askZ {t p : Int32} (S : mS h G W L B) (hT : mT h T) : ∃ h2, xc 265 [.ref 169, .int t, .int p] h = some ([.int (aAsk G W T t p)], h2) ∧ eqx sxLz h h2 := by
  have S0 := mS_thrown (v := nI 0) S
  have hP := S.1.2.2.1
  have T0 : mT (sm_si h 169 0 (nI 0)) T := mT_eqx hT (S := fun c _ => c = 169) (eqx.si (S := fun c _ => c = 169) eqx.rf rfl) (fun c i a b z => by omega)
  rw [en_265, b265_0, b265_5, m_noAnswers S0 T0, bnd]
  simp only [app1, List.cons_append, List.nil_append]
  rw [b265_11]
  unfold aAsk
  by_cases z : nA G T t p = 0
  · rw [if_pos z, if_pos z, b265_18, z]
    obtain ⟨t, p, q, ht, hp, rfl, rfl, hq, -, -, ha⟩ := nA_z hP z
    rw [toN_nI (by omega), toN_nI (by omega), hq]
    obtain ⟨h2, e2, E2⟩ := m_ask_loop (l3 := 0) (h := sm_si h 169 0 (nI 0)) ht hp hq ha (10 * gR G) 0 _ .null .null .null (by omega) S0 T0 eqx.rf
    exact ⟨h2, e2, Lz_th (E2.wk sxL_z)⟩
  · rw [if_neg z, if_neg z, b265_16]
    exact ⟨_, rfl, Lz_th eqx.rf⟩

def JM (h : sm_H) (G : LG) (W : WG) (L : List WG) (B : Nat) (T : TG) (M : IG) (n0 : Nat) (t : Nat → Int32) (ln f1 f2 : Int32) : Prop := mS h G W L B ∧ mX h ∧ mT h T ∧ mIm h B M ∧ mTp h n0 t ∧ sm_gi h 170 0 = ln ∧ sm_gi h 169 13 = f1 ∧ sm_gi h 169 14 = f2
def JC (h : sm_H) (G : LG) (W : WG) (L : List WG) (B B' : Nat) (T : TG) (M : IG) (n0 : Nat) (t : Nat → Int32) (ln f1 f2 : Int32) : Prop := cS h G W L B ∧ cI h B' ∧ cT h T ∧ cIm h B M ∧ cTp h n0 t ∧ sm_gi h 2 1 = ln ∧ sm_gi h 28 7 = f1 ∧ sm_gi h 28 8 = f2
def JI (n : Nat) (h : sm_H) : Prop := ∃ G W L B B' T M n0 t ln f1 f2, JM h G W L B T M n0 t ln f1 f2 ∧ JC h G W L B B' T M n0 t ln f1 f2 ∧ B ≤ 1000 * n ∧ B' ≤ 100 * n
theorem mTp_eqx {S : Nat → Nat → Prop} (H : mTp h n0 t) (E : eqx S h h2) (hS : ∀ c i, S c i → c ≠ 172 ∧ ¬ (c = 169 ∧ i = 5)) : mTp h2 n0 t := ⟨(E.1 169 5 (fun z => (hS _ _ z).2 ⟨rfl, rfl⟩)).trans H.1, H.2.1, H.2.2.1, fun j hj => (E.1 172 j (fun z => (hS _ _ z).1 rfl)).trans (H.2.2.2 j hj)⟩
theorem cTp_eqx {S : Nat → Nat → Prop} (H : cTp h n0 t) (E : eqx S h h2) (hS : ∀ c i, S c i → c ≠ 1 ∧ ¬ (c = 0 ∧ i = 1)) : cTp h2 n0 t := ⟨(E.1 0 1 (fun z => (hS _ _ z).2 ⟨rfl, rfl⟩)).trans H.1, H.2.1, fun j hj => (E.1 1 j (fun z => (hS _ _ z).1 rfl)).trans (H.2.2 j hj)⟩
theorem mS_eqx {S : Nat → Nat → Prop} (H : mS h G W L B) (E : eqx S h h2) (hS : ∀ c i, S c i → ¬ (c = 170 ∧ i < 1276) ∧ ¬ (c = 169 ∧ i = 15)) : mS h2 G W L B := mS_row H (fun k hk => E.1 170 k (fun z => (hS _ _ z).1 ⟨rfl, hk⟩)) (E.1 169 15 (fun z => (hS _ _ z).2 ⟨rfl, rfl⟩))
theorem ln_eqx {S : Nat → Nat → Prop} {c i : Nat} {v : Int32} (H : sm_gi h c i = v) (E : eqx S h h2) (hS : ¬ S c i) : sm_gi h2 c i = v := (E.1 c i hS).trans H
theorem JM_far {S : Nat → Nat → Prop} (J : JM h G W L B T M n0 t ln f1 f2) (E : eqx S h h2) (hS : ∀ c i, S c i → c < 169) : JM h2 G W L B T M n0 t ln f1 f2 := by
  obtain ⟨a1, a2, a3, a4, a5, a6, a7, a8⟩ := J
  exact ⟨mS_eqx a1 E (fun c i z => by have := hS c i z; omega), mX_of a2 E (fun c i z => by have := hS c i z; omega), mT_eqx a3 E (fun c i p q z => by have := hS c i z; omega), mIm_eqx a4 E (fun c i z => by have := hS c i z; omega), mTp_eqx a5 E (fun c i z => by have := hS c i z; omega), ln_eqx a6 E (fun z => by have := hS _ _ z; omega), ln_eqx a7 E (fun z => by have := hS _ _ z; omega), ln_eqx a8 E (fun z => by have := hS _ _ z; omega)⟩
theorem JC_far {S : Nat → Nat → Prop} (J : JC h G W L B B' T M n0 t ln f1 f2) (E : eqx S h h2) (hS : ∀ c i, S c i → 169 ≤ c) : JC h2 G W L B B' T M n0 t ln f1 f2 := by
  obtain ⟨a1, a2, a3, a4, a5, a6, a7, a8⟩ := J
  exact ⟨cS_far a1 E (fun c i z => by have := hS c i z; omega), cI_eqx a2 E (fun c i z => by have := hS c i z; omega), cT_eqx a3 E (fun c i z => by have := hS c i z; omega), cIm_eqx a4 E (fun c i z => by have := hS c i z; omega), cTp_eqx a5 E (fun c i z => by have := hS c i z; omega), ln_eqx a6 E (fun z => by have := hS _ _ z; omega), ln_eqx a7 E (fun z => by have := hS _ _ z; omega), ln_eqx a8 E (fun z => by have := hS _ _ z; omega)⟩

theorem JM_M  {W2 : WG} {L2 : List WG}      (J : JM h G W L B T M n0 t ln f1 f2) (E : eqx sxM h h2) (b1 : mS h2 G W2 L2 B2) (hB : B ≤ B2) : JM h2 G W2 L2 B2 T M n0 t ln f1 f2 := by
  obtain ⟨a1, a2, a3, a4, a5, a6, a7, a8⟩ := J
  exact ⟨b1, mX_of a2 E (fun c i z => by unfold sxM at z; omega), mT_eqx a3 E (fun c i p q z => by unfold sxM at z; omega), mIm_mono (mIm_eqx a4 E (fun c i z => by unfold sxM at z; omega)) hB, mTp_eqx a5 E (fun c i z => by unfold sxM at z; omega), ln_eqx a6 E (fun z => by unfold sxM at z; omega), ln_eqx a7 E (fun z => by unfold sxM at z; omega), ln_eqx a8 E (fun z => by unfold sxM at z; omega)⟩
theorem JM_Z  {W2 : WG} {L2 : List WG}      (J : JM h G W L B T M n0 t ln f1 f2) (E : eqx sxZ h h2) (b1 : mS h2 G W2 L2 B2) (hB : B ≤ B2) (b2 : mX h2) : JM h2 G W2 L2 B2 T M n0 t ln f1 f2 := by
  obtain ⟨a1, a2, a3, a4, a5, a6, a7, a8⟩ := J
  exact ⟨b1, b2, mT_eqx a3 E (fun c i p q z => by unfold sxZ at z; omega), mIm_mono (mIm_eqx a4 E (fun c i z => by unfold sxZ at z; omega)) hB, mTp_eqx a5 E (fun c i z => by unfold sxZ at z; omega), ln_eqx a6 E (fun z => by unfold sxZ at z; omega), ln_eqx a7 E (fun z => by unfold sxZ at z; omega), ln_eqx a8 E (fun z => by unfold sxZ at z; omega)⟩
theorem JM_Lz         (J : JM h G W L B T M n0 t ln f1 f2) (E : eqx sxLz h h2)  : JM h2 G W L B T M n0 t ln f1 f2 := by
  obtain ⟨a1, a2, a3, a4, a5, a6, a7, a8⟩ := J
  exact ⟨mS_eqx a1 E (fun c i z => by unfold sxLz at z; omega), mX_of a2 E (fun c i z => by unfold sxLz at z; omega), mT_eqx a3 E (fun c i p q z => by unfold sxLz at z; omega), mIm_eqx a4 E (fun c i z => by unfold sxLz at z; omega), mTp_eqx a5 E (fun c i z => by unfold sxLz at z; omega), ln_eqx a6 E (fun z => by unfold sxLz at z; omega), ln_eqx a7 E (fun z => by unfold sxLz at z; omega), ln_eqx a8 E (fun z => by unfold sxLz at z; omega)⟩
theorem JM_TM    {T2 : TG}     (J : JM h G W L B T M n0 t ln f1 f2) (E : eqx sxTM h h2) (b3 : mT h2 T2) : JM h2 G W L B T2 M n0 t ln f1 f2 := by
  obtain ⟨a1, a2, a3, a4, a5, a6, a7, a8⟩ := J
  exact ⟨mS_eqx a1 E (fun c i z => by unfold sxTM at z; omega), mX_of a2 E (fun c i z => by unfold sxTM at z; omega), b3, mIm_eqx a4 E (fun c i z => by unfold sxTM at z; omega), mTp_eqx a5 E (fun c i z => by unfold sxTM at z; omega), ln_eqx a6 E (fun z => by unfold sxTM at z; omega), ln_eqx a7 E (fun z => by unfold sxTM at z; omega), ln_eqx a8 E (fun z => by unfold sxTM at z; omega)⟩
theorem JM_ZT  {W2 : WG} {L2 : List WG} {T2 : TG}     (J : JM h G W L B T M n0 t ln f1 f2) (E : eqx sxZT h h2) (b1 : mS h2 G W2 L2 B2) (hB : B ≤ B2) (b2 : mX h2) (b3 : mT h2 T2) : JM h2 G W2 L2 B2 T2 M n0 t ln f1 f2 := by
  obtain ⟨a1, a2, a3, a4, a5, a6, a7, a8⟩ := J
  exact ⟨b1, b2, b3, mIm_mono (mIm_eqx a4 E (fun c i z => by unfold sxZT sxZ sxTM at z; omega)) hB, mTp_eqx a5 E (fun c i z => by unfold sxZT sxZ sxTM at z; omega), ln_eqx a6 E (fun z => by unfold sxZT sxZ sxTM at z; omega), ln_eqx a7 E (fun z => by unfold sxZT sxZ sxTM at z; omega), ln_eqx a8 E (fun z => by unfold sxZT sxZ sxTM at z; omega)⟩
theorem JM_I  {W2 : WG} {L2 : List WG}  {M2 : IG}    (J : JM h G W L B T M n0 t ln f1 f2) (E : eqx sxI h h2) (b1 : mS h2 G W2 L2 B2) (hB : B ≤ B2) (b4 : mIm h2 B2 M2) : JM h2 G W2 L2 B2 T M2 n0 t ln f1 f2 := by
  obtain ⟨a1, a2, a3, a4, a5, a6, a7, a8⟩ := J
  exact ⟨b1, mX_of a2 E (fun c i z => by unfold sxI at z; omega), mT_eqx a3 E (fun c i p q z => by unfold sxI at z; omega), b4, mTp_eqx a5 E (fun c i z => by unfold sxI at z; omega), ln_eqx a6 E (fun z => by unfold sxI at z; omega), ln_eqx a7 E (fun z => by unfold sxI at z; omega), ln_eqx a8 E (fun z => by unfold sxI at z; omega)⟩
theorem JM_Re {G2 : LG} {W2 : WG} {L2 : List WG}  {M2 : IG}   {l2 : Int32} (J : JM h G W L B T M n0 t ln f1 f2) (E : eqx sxRe h h2) (b1 : mS h2 G2 W2 L2 B2) (hB : B ≤ B2) (b4 : mIm h2 B2 M2) (b6 : sm_gi h2 170 0 = l2) : JM h2 G2 W2 L2 B2 T M2 n0 t l2 f1 f2 := by
  obtain ⟨a1, a2, a3, a4, a5, a6, a7, a8⟩ := J
  exact ⟨b1, mX_of a2 E (fun c i z => by unfold sxRe at z; omega), mT_eqx a3 E (fun c i p q z => by unfold sxRe at z; omega), b4, mTp_eqx a5 E (fun c i z => by unfold sxRe at z; omega), b6, ln_eqx a7 E (fun z => by unfold sxRe at z; omega), ln_eqx a8 E (fun z => by unfold sxRe at z; omega)⟩
theorem JM_Fm      {n2 : Nat} {t2 : Nat → Int32}  (J : JM h G W L B T M n0 t ln f1 f2) (E : eqx sxFm h h2) (b5 : mTp h2 n2 t2) : JM h2 G W L B T M n2 t2 ln f1 f2 := by
  obtain ⟨a1, a2, a3, a4, a5, a6, a7, a8⟩ := J
  exact ⟨mS_eqx a1 E (fun c i z => by unfold sxFm at z; omega), mX_of a2 E (fun c i z => by unfold sxFm at z; omega), mT_eqx a3 E (fun c i p q z => by unfold sxFm at z; omega), mIm_eqx a4 E (fun c i z => by unfold sxFm at z; omega), b5, ln_eqx a6 E (fun z => by unfold sxFm at z; omega), ln_eqx a7 E (fun z => by unfold sxFm at z; omega), ln_eqx a8 E (fun z => by unfold sxFm at z; omega)⟩
theorem JM_Lm {G2 : LG} {W2 : WG} {L2 : List WG}   {n2 : Nat} {t2 : Nat → Int32} {l2 g1 g2 : Int32} (J : JM h G W L B T M n0 t ln f1 f2) (E : eqx sxLm h h2) (b1 : mS h2 G2 W2 L2 B2) (hB : B ≤ B2) (b5 : mTp h2 n2 t2) (b6 : sm_gi h2 170 0 = l2) (b7 : sm_gi h2 169 13 = g1) (b8 : sm_gi h2 169 14 = g2) : JM h2 G2 W2 L2 B2 T M n2 t2 l2 g1 g2 := by
  obtain ⟨a1, a2, a3, a4, a5, a6, a7, a8⟩ := J
  exact ⟨b1, mX_of a2 E (fun c i z => by unfold sxLm at z; omega), mT_eqx a3 E (fun c i p q z => by unfold sxLm at z; omega), mIm_mono (mIm_eqx a4 E (fun c i z => by unfold sxLm at z; omega)) hB, b5, b6, b7, b8⟩
theorem JC_Q  {W2 : WG} {L2 : List WG}      (J : JC h G W L B B' T M n0 t ln f1 f2) (E : eqx sxQ h h2) (b1 : cS h2 G W2 L2 B2) (hB : B ≤ B2) : JC h2 G W2 L2 B2 B' T M n0 t ln f1 f2 := by
  obtain ⟨a1, a2, a3, a4, a5, a6, a7, a8⟩ := J
  exact ⟨b1, cI_eqx a2 E (fun c i z => by unfold sxQ at z; omega), cT_eqx a3 E (fun c i z => by unfold sxQ at z; omega), cIm_mono (cIm_eqx a4 E (fun c i z => by unfold sxQ at z; omega)) hB, cTp_eqx a5 E (fun c i z => by unfold sxQ at z; omega), ln_eqx a6 E (fun z => by unfold sxQ at z; omega), ln_eqx a7 E (fun z => by unfold sxQ at z; omega), ln_eqx a8 E (fun z => by unfold sxQ at z; omega)⟩
theorem JC_W  {W2 : WG} {L2 : List WG}   {C2 : Nat}   (J : JC h G W L B B' T M n0 t ln f1 f2) (E : eqx sxW h h2) (b1 : cS h2 G W2 L2 B2) (hB : B ≤ B2) (b2 : cI h2 C2) : JC h2 G W2 L2 B2 C2 T M n0 t ln f1 f2 := by
  obtain ⟨a1, a2, a3, a4, a5, a6, a7, a8⟩ := J
  exact ⟨b1, b2, cT_eqx a3 E (fun c i z => by unfold sxW at z; omega), cIm_mono (cIm_eqx a4 E (fun c i z => by unfold sxW at z; omega)) hB, cTp_eqx a5 E (fun c i z => by unfold sxW at z; omega), ln_eqx a6 E (fun z => by unfold sxW at z; omega), ln_eqx a7 E (fun z => by unfold sxW at z; omega), ln_eqx a8 E (fun z => by unfold sxW at z; omega)⟩
theorem JC_Ps  {W2 : WG} {L2 : List WG}      (J : JC h G W L B B' T M n0 t ln f1 f2) (E : eqx sxPs h h2) (b1 : cS h2 G W2 L2 B2) (hB : B ≤ B2) : JC h2 G W2 L2 B2 B' T M n0 t ln f1 f2 := by
  obtain ⟨a1, a2, a3, a4, a5, a6, a7, a8⟩ := J
  exact ⟨b1, cI_eqx a2 E (fun c i z => by unfold sxPs at z; omega), cT_eqx a3 E (fun c i z => by unfold sxPs at z; omega), cIm_mono (cIm_eqx a4 E (fun c i z => by unfold sxPs at z; omega)) hB, cTp_eqx a5 E (fun c i z => by unfold sxPs at z; omega), ln_eqx a6 E (fun z => by unfold sxPs at z; omega), ln_eqx a7 E (fun z => by unfold sxPs at z; omega), ln_eqx a8 E (fun z => by unfold sxPs at z; omega)⟩
theorem JC_TK    {T2 : TG}     (J : JC h G W L B B' T M n0 t ln f1 f2) (E : eqx sxTK h h2) (b3 : cT h2 T2) : JC h2 G W L B B' T2 M n0 t ln f1 f2 := by
  obtain ⟨a1, a2, a3, a4, a5, a6, a7, a8⟩ := J
  exact ⟨cS_far a1 E (fun c i z => by unfold sxTK at z; omega), cI_eqx a2 E (fun c i z => by unfold sxTK at z; omega), b3, cIm_eqx a4 E (fun c i z => by unfold sxTK at z; omega), cTp_eqx a5 E (fun c i z => by unfold sxTK at z; omega), ln_eqx a6 E (fun z => by unfold sxTK at z; omega), ln_eqx a7 E (fun z => by unfold sxTK at z; omega), ln_eqx a8 E (fun z => by unfold sxTK at z; omega)⟩
theorem JC_WT  {W2 : WG} {L2 : List WG} {T2 : TG}  {C2 : Nat}   (J : JC h G W L B B' T M n0 t ln f1 f2) (E : eqx sxWT h h2) (b1 : cS h2 G W2 L2 B2) (hB : B ≤ B2) (b2 : cI h2 C2) (b3 : cT h2 T2) : JC h2 G W2 L2 B2 C2 T2 M n0 t ln f1 f2 := by
  obtain ⟨a1, a2, a3, a4, a5, a6, a7, a8⟩ := J
  exact ⟨b1, b2, b3, cIm_mono (cIm_eqx a4 E (fun c i z => by unfold sxWT sxW sxTK at z; omega)) hB, cTp_eqx a5 E (fun c i z => by unfold sxWT sxW sxTK at z; omega), ln_eqx a6 E (fun z => by unfold sxWT sxW sxTK at z; omega), ln_eqx a7 E (fun z => by unfold sxWT sxW sxTK at z; omega), ln_eqx a8 E (fun z => by unfold sxWT sxW sxTK at z; omega)⟩
theorem JC_Ik  {W2 : WG} {L2 : List WG}  {M2 : IG}    (J : JC h G W L B B' T M n0 t ln f1 f2) (E : eqx sxIk h h2) (b1 : cS h2 G W2 L2 B2) (hB : B ≤ B2) (b4 : cIm h2 B2 M2) : JC h2 G W2 L2 B2 B' T M2 n0 t ln f1 f2 := by
  obtain ⟨a1, a2, a3, a4, a5, a6, a7, a8⟩ := J
  exact ⟨b1, cI_eqx a2 E (fun c i z => by unfold sxIk at z; omega), cT_eqx a3 E (fun c i z => by unfold sxIk at z; omega), b4, cTp_eqx a5 E (fun c i z => by unfold sxIk at z; omega), ln_eqx a6 E (fun z => by unfold sxIk at z; omega), ln_eqx a7 E (fun z => by unfold sxIk at z; omega), ln_eqx a8 E (fun z => by unfold sxIk at z; omega)⟩
theorem JC_Rk {G2 : LG} {W2 : WG} {L2 : List WG}  {M2 : IG}   {l2 : Int32} (J : JC h G W L B B' T M n0 t ln f1 f2) (E : eqx sxRk h h2) (b1 : cS h2 G2 W2 L2 B2) (hB : B ≤ B2) (b4 : cIm h2 B2 M2) (b6 : sm_gi h2 2 1 = l2) : JC h2 G2 W2 L2 B2 B' T M2 n0 t l2 f1 f2 := by
  obtain ⟨a1, a2, a3, a4, a5, a6, a7, a8⟩ := J
  exact ⟨b1, cI_eqx a2 E (fun c i z => by unfold sxRk at z; omega), cT_eqx a3 E (fun c i z => by unfold sxRk at z; omega), b4, cTp_eqx a5 E (fun c i z => by unfold sxRk at z; omega), b6, ln_eqx a7 E (fun z => by unfold sxRk at z; omega), ln_eqx a8 E (fun z => by unfold sxRk at z; omega)⟩
theorem JC_Fc      {n2 : Nat} {t2 : Nat → Int32}  (J : JC h G W L B B' T M n0 t ln f1 f2) (E : eqx sxFc h h2) (b5 : cTp h2 n2 t2) : JC h2 G W L B B' T M n2 t2 ln f1 f2 := by
  obtain ⟨a1, a2, a3, a4, a5, a6, a7, a8⟩ := J
  exact ⟨cS_far a1 E (fun c i z => by unfold sxFc at z; omega), cI_eqx a2 E (fun c i z => by unfold sxFc at z; omega), cT_eqx a3 E (fun c i z => by unfold sxFc at z; omega), cIm_eqx a4 E (fun c i z => by unfold sxFc at z; omega), b5, ln_eqx a6 E (fun z => by unfold sxFc at z; omega), ln_eqx a7 E (fun z => by unfold sxFc at z; omega), ln_eqx a8 E (fun z => by unfold sxFc at z; omega)⟩
theorem JC_Lc {G2 : LG} {W2 : WG} {L2 : List WG}   {n2 : Nat} {t2 : Nat → Int32} {l2 g1 g2 : Int32} (J : JC h G W L B B' T M n0 t ln f1 f2) (E : eqx sxLc h h2) (b1 : cS h2 G2 W2 L2 B2) (hB : B ≤ B2) (b5 : cTp h2 n2 t2) (b6 : sm_gi h2 2 1 = l2) (b7 : sm_gi h2 28 7 = g1) (b8 : sm_gi h2 28 8 = g2) : JC h2 G2 W2 L2 B2 B' T M n2 t2 l2 g1 g2 := by
  obtain ⟨a1, a2, a3, a4, a5, a6, a7, a8⟩ := J
  exact ⟨b1, cI_eqx a2 E (fun c i z => by unfold sxLc at z; omega), cT_eqx a3 E (fun c i z => by unfold sxLc at z; omega), cIm_mono (cIm_eqx a4 E (fun c i z => by unfold sxLc at z; omega)) hB, b5, b6, b7, b8⟩
end JN
