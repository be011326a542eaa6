/-! ===== land: the model, the whole ===== -/
def tB (t : Nat → Int32) (j : Nat) : Nat := (t j).toNatClampNeg % 256
theorem tB_lt (t : Nat → Int32) : ∀ j, tB t j < 256 := fun j => Nat.mod_lt _ (by decide)
theorem tB_n {t : Nat → Int32} {n0 j : Nat} (h : byO t n0) (hj : j < n0) : t j = nI (tB t j) := by
  obtain ⟨c, hc, e⟩ := h j hj
  unfold tB
  rw [e, nI_clamp (by omega), Nat.mod_eq_of_lt hc]
def rdD (D : DG) (k : Nat) : Nat := bsN (fun p => decide (gGol (dG D) p = some (dA D p))) k
/-- the world as it is told, with the errands of k people looked at -/
def dWk (D : DG) (k : Nat) : WG := ((0, rdD D k), dA D, (fun _ => 0), (fun p => if p < gP (dG D) then dP D p else 0), fun p => 2 ^ dA D p ||| 2 ^ gBor (dG D) p)
def dW (D : DG) : WG := dWk D (gP (dG D))
theorem errW_s {D : DG} (W : dWf D) {k : Nat} (hk : k < gP (dG D)) : errW (dG D) (dWk D k) k = dWk D (k + 1) := by
  have h1 := (W.2.2 k hk).2.2
  unfold errW
  have e : rdD D (k + 1) = if decide (gGol (dG D) k = some (dA D k)) = true then rdD D k ||| 2 ^ k else rdD D k := bsN_step
  by_cases z : gGol (dG D) k = some (dA D k)
  · obtain ⟨v, hv, hb⟩ := h1 (by rw [z]; exact fun y => by cases y)
    rw [if_pos (show gGol (dG D) k = some (wAt (dWk D k) k) ∧ nI (wDay (dWk D k) k) ≤ gBy (dG D) k from ⟨z, by rw [hb, show wDay (dWk D k) k = 0 from rfl]; exact (nI_leI (by decide) (by omega)).mpr (Nat.zero_le _)⟩)]
    rw [if_pos (decide_eq_true z)] at e
    show ((0, rdD D k ||| 2 ^ k), (dWk D k).2) = ((0, rdD D (k + 1)), (dWk D k).2)
    rw [e]
  · rw [if_neg (show ¬ (gGol (dG D) k = some (wAt (dWk D k) k) ∧ nI (wDay (dWk D k) k) ≤ gBy (dG D) k) from fun y => z y.1)]
    rw [if_neg (fun y => z (of_decide_eq_true y))] at e
    show ((0, rdD D k), (dWk D k).2) = ((0, rdD D (k + 1)), (dWk D k).2)
    rw [e]
theorem dW_wf {D : DG} (W : dWf D) (B : Nat) : wfW (dG D) B (dW D) := by
  have hP := W.1.2.2.1
  have hN := W.1.1
  have h2 := bsN_lt (fun p => decide (gGol (dG D) p = some (dA D p))) (gP (dG D))
  refine ⟨(show 0 < 4096 by decide), Nat.lt_of_lt_of_le h2 (Nat.pow_le_pow_right (n := 2) (by decide) hP), fun p hp => ?_, fun p h1 _ => if_neg (by omega), fun p hp z => ?_⟩
  · obtain ⟨a, c, -⟩ := W.2.2 p hp
    refine ⟨a, Nat.zero_le _, ?_, Nat.or_lt_two_pow (Nat.pow_lt_pow_right (by decide) a) (Nat.pow_lt_pow_right (by decide) (W.1.2.2.2.2.1 p hp).1)⟩
    show (if p < gP (dG D) then dP D p else 0) ≤ 9
    rw [if_pos hp]; exact c
  · by_cases y : p < gP (dG D)
    · refine ⟨y, fun x => ?_⟩
      have z' : rdD D (gP (dG D)) / 2 ^ p % 2 = 1 := z
      unfold rdD at z'
      rw [bsN_bit _ _ p y, x] at z'
      exact absurd z' (by simp)
    · have z' : rdD D (gP (dG D)) / 2 ^ p % 2 = 1 := z
      unfold rdD at z'
      rw [Nat.div_eq_of_lt (Nat.lt_of_lt_of_le h2 (Nat.pow_le_pow_right (by decide) (by omega)))] at z'
      exact absurd z' (by decide)
section MLE
variable {G : LG} {W : WG} {L : List WG} {B : Nat} {h : sm_H}
noncomputable def ldI (b : Nat → Nat) (n : Nat) : SR DG → Int32
  | .inl (e, k) => -30 - nI (flt e (tK b n k))
  | .inr (_, D) => nI (dL D)
def sxLm : Nat → Nat → Prop := fun c i => (c = 169 ∧ (i = 0 ∨ (5 ≤ i ∧ i ≤ 14))) ∨ c = 173 ∨ c = 174 ∨ c = 175 ∨ (c = 170 ∧ i < 1276)
def ldM (h h2 : sm_H) (b : Nat → Nat) (n : Nat) (B : Nat) : SR DG → Prop
  | .inl (e, k) => (∀ i, sm_gi h2 170 i = sm_gi h 170 i) ∧ sm_gi h2 169 13 = nI (flt e (tK b n k)) ∧ sm_gi h2 169 14 = nI (psT b n k)
  | .inr (_, D) => dWf D ∧ mS h2 (dG D) (dW D) [] B ∧ sm_gi h2 170 0 = nI (dL D) ∧ sm_gi h2 169 13 = nI 0 ∧ sm_gi h2 169 14 = -1
theorem m_land_copy {l1 : Int32} {f : Nat → Int32} (hf : ∀ i, i < 1276 → sm_gi h 173 i = f i) : ∀ (m k : Nat) (h1 : sm_H), k + m = 1276 → (∀ i, i < k → sm_gi h1 170 i = f i) → eqx (fun c i => c = 170 ∧ i < 1276) h h1 → ∃ h2, xe 82 176 154 [.ref 169, .int l1, .int (nI k)] [] h1 = xe 82 176 179 [.ref 169, .int l1, .int (nI 1276)] [] h2 ∧ (∀ i, i < 1276 → sm_gi h2 170 i = f i) ∧ eqx (fun c i => c = 170 ∧ i < 1276) h h2
  | 0, k, h1, e, a, E => by
    have : k = 1276 := by omega
    subst this
    rw [b176_154, if_pos (Int32.le_refl _)]
    exact ⟨h1, rfl, a, E⟩
  | m + 1, k, h1, e, a, E => by
    have g : sm_gi h1 173 k = f k := (E.1 173 k (by omega)).trans (hf k (by omega))
    rw [b176_154, if_neg (by rw [nI_leI (by decide) (by omega)]; omega), b176_161]
    simp (disch := omega) only [in_173, in_170, if_true, nI_clamp, g]
    rw [b176_173, nI_add]
    refine m_land_copy hf m (k + 1) _ (by omega) (fun i hi => ?_) (E.si ⟨rfl, by omega⟩)
    by_cases z : i = k
    · rw [z, gi_same]
    · rw [gi_slot z]; exact a i (by omega)
theorem m_land_err {l1 : Int32} {D : DG} (Wf : dWf D) : ∀ (m k : Nat) (h1 : sm_H), k + m = gP (dG D) → mG (sm_gi h1 170) (dG D) → mW (sm_gi h1 170) 88 (gP (dG D)) (dWk D k) → eqx sxD h h1 → ∃ h2, xe 82 176 181 [.ref 169, .int l1, .int (nI k)] [] h1 = xe 82 176 202 [.ref 169, .int l1, .int (nI (gP (dG D)))] [] h2 ∧ mG (sm_gi h2 170) (dG D) ∧ mW (sm_gi h2 170) 88 (gP (dG D)) (dW D) ∧ eqx sxD h h2
  | 0, k, h1, e, a, w, E => by
    have : k = gP (dG D) := by omega
    subst this
    rw [b176_181]
    simp (disch := omega) only [in_170, if_true, nI_clamp, a.1.2.2]
    rw [if_pos (Int32.le_refl _)]
    exact ⟨h1, rfl, a, w, E⟩
  | m + 1, k, h1, e, a, w, E => by
    have hP := Wf.1.2.2.1
    have hN := Wf.1.1
    have hA := (Wf.2.2 k (by omega)).1
    obtain ⟨h2, e2, w2, E2⟩ := m_doesErrand (p := k) a Wf.1 w (show dA D k < 2 ^ 31 by omega) (by omega)
    rw [errW_s Wf (by omega)] at w2
    rw [b176_181]
    simp (disch := omega) only [in_170, if_true, nI_clamp, a.1.2.2]
    rw [if_neg (by rw [nI_leI (by omega) (by omega)]; omega), b176_191, e2, bnd]
    simp only [List.nil_append]
    rw [b176_196, nI_add]
    exact m_land_err Wf m (k + 1) h2 (by omega) (mG_D Wf.1 a E2) w2 (E.tr E2)
theorem mLw_law {f : Nat → Int32} {Lx Nc : Nat} {o : Option (List Nat)} (H : mLw f Lx Nc o) (hN : Nc ≤ 900) : mLaw f Lx o := by
  cases o with
  | none => exact H
  | some cs =>
    obtain ⟨h1, F, h2, h3, h4, h5⟩ := H
    exact ⟨h1, F, h2, h3, by omega, h5⟩
/-- the end of land: what was told is taken over -/
theorem m_land_take {l1 : Int32} {D : DG} {Nc : Nat} (Wf : dWf D) (hN : Nc ≤ 900) (M : mDr (sm_gi h 173) D Nc (gR (dG D)) (gP (dG D))) (g15 : sm_gi h 169 15 = -1) : ∃ h2, xe 82 176 152 [.ref 169, .int l1, .null] [] h = some ([.int (nI (dL D))], h2) ∧ mS h2 (dG D) (dW D) [] B ∧ sm_gi h2 170 0 = nI (dL D) ∧ eqx (fun c i => c = 174 ∨ c = 175 ∨ (c = 170 ∧ i < 1276)) h h2 := by
  have hP := Wf.1.2.2.1
  have hR := Wf.1.2.1
  obtain ⟨h1, e1, a1, E1⟩ := m_land_copy (l1 := l1) (f := sm_gi h 173) (fun i _ => rfl) 1276 0 h (by omega) (fun i hi => absurd hi (by omega)) eqx.rf
  have M1 : mDr (sm_gi h1 170) D Nc (gR (dG D)) (gP (dG D)) ∧ True := by
    refine ⟨?_, trivial⟩
    obtain ⟨⟨x1, x2, x3, x4, x5, x6, x7, x8⟩, C1, C2, P, Q1, U, L1, L2⟩ := M
    have F : ∀ i, i < 1276 → sm_gi h1 170 i = sm_gi h 173 i := a1
    refine ⟨⟨(F 0 (by omega)).trans x1, (F 1 (by omega)).trans x2, (F 2 (by omega)).trans x3, (F 3 (by omega)).trans x4, (F 88 (by omega)).trans x5, (F 89 (by omega)).trans x6, (F 114 (by omega)).trans x7, (F 375 (by omega)).trans x8⟩, fun r hr => ?_, fun r w1 w2 => ?_, fun p hp => ?_, fun p w1 w2 => ?_, fun p hp => (F _ (by omega)).trans (U p hp), mLw_ch (by decide) L1 (fun i z => F i (by omega)), mLw_ch (by decide) L2 (fun i z => F i (by omega))⟩
    · obtain ⟨y1, y2, y3, y4, y5⟩ := C1 r hr
      exact ⟨(F _ (by omega)).trans y1, (F _ (by omega)).trans y2, (F _ (by omega)).trans y3, (F _ (by omega)).trans y4, (F _ (by omega)).trans y5⟩
    · obtain ⟨y1, y2⟩ := C2 r w1 w2
      exact ⟨(F _ (by omega)).trans y1, (F _ (by omega)).trans y2⟩
    · obtain ⟨y1, y2, y3, y4, y5, y6⟩ := P p hp
      exact ⟨(F _ (by omega)).trans y1, (F _ (by omega)).trans y2, (F _ (by omega)).trans y3, (F _ (by omega)).trans y4, (F _ (by omega)).trans y5, (F _ (by omega)).trans y6⟩
    · obtain ⟨y1, y2, y3⟩ := Q1 p w1 w2
      exact ⟨(F _ (by omega)).trans y1, (F _ (by omega)).trans y2, (F _ (by omega)).trans y3⟩
  obtain ⟨⟨x1, x2, x3, x4, x5, x6, x7, x8⟩, C1, C2, P, Q1, U, L1, L2⟩ := M1.1
  have mg : mG (sm_gi h1 170) (dG D) := ⟨⟨x2, x3, x4⟩, C1, fun p hp => ⟨(P p hp).1, (P p hp).2.1, (P p hp).2.2.1⟩, mLw_law L1 hN, mLw_law L2 hN⟩
  have mw : mW (sm_gi h1 170) 88 (gP (dG D)) (dWk D 0) := by
    refine ⟨x5, x6, fun p hp => ⟨?_, ?_, ?_⟩, fun p hp => ?_⟩
    · exact (P p hp).2.2.2.1
    · exact U p (by omega)
    · exact (P p hp).2.2.2.2.2
    · show sm_gi h1 170 (88 + 14 + p) = nI (if p < gP (dG D) then dP D p else 0)
      by_cases z : p < gP (dG D)
      · rw [if_pos z]; exact (P p z).2.2.2.2.1
      · rw [if_neg z]; exact (Q1 p (by omega) hp).2.2
  obtain ⟨h2, e2, g2, w2, E2⟩ := m_land_err (h := h1) (l1 := l1) Wf (gP (dG D)) 0 h1 (by omega) mg mw eqx.rf
  have g0 : sm_gi h2 170 0 = nI (dL D) := (E2.1 170 0 (by unfold sxD; omega)).trans x1
  have g114 : sm_gi h2 170 114 = nI 0 := (E2.1 170 114 (by unfold sxD; omega)).trans x7
  have gg15 : sm_gi h2 169 15 = -1 := (E2.1 169 15 (by unfold sxD; omega)).trans ((E1.1 169 15 (by omega)).trans g15)
  refine ⟨h2, ?_, ⟨Wf.1, g2, w2, dW_wf Wf B, ⟨g114, by decide, fun j hj => absurd hj (Nat.not_lt_zero j)⟩, fun j hj => absurd hj (Nat.not_lt_zero j), gg15⟩, g0, (E1.wk (fun c i z => by omega)).tr (E2.wk (fun c i z => by unfold sxD at z; omega))⟩
  rw [b176_152, e1, b176_179, e2, b176_202]
  simp (disch := omega) only [in_170, if_true, nI_clamp, g0]
end MLE
