/-! ===== ask: the model ===== -/
def lsN (a l : Nat) : Nat := min l (a - l)
noncomputable def akS (G : LG) (W : WG) (p : Nat) (vs : List Int64) (r s : Nat) : Nat := lsN (cntB (fitB G W p vs) (2 ^ gN G)) (cntB (fun b => fitB G W p vs b && ltA G W p r s b) (2 ^ gN G))
noncomputable def akF (G : LG) (W : WG) (p : Nat) (vs : List Int64) : Nat → Option (Nat × Nat)
  | 0 => none
  | i + 1 => if i % 10 < 2 ∧ gBri G (i / 10) = true ∧ cntB (fitB G W p vs) (2 ^ gN G) ≠ 0 then (match akF G W p vs i with
    | none => some (akS G W p vs (i / 10) (i % 10), i)
    | some t => if t.1 < akS G W p vs (i / 10) (i % 10) then some (akS G W p vs (i / 10) (i % 10), i) else some t) else akF G W p vs i
theorem akF_succ {G : LG} {W : WG} {p : Nat} {vs : List Int64} {i : Nat} : akF G W p vs (i + 1) = if i % 10 < 2 ∧ gBri G (i / 10) = true ∧ cntB (fitB G W p vs) (2 ^ gN G) ≠ 0 then (match akF G W p vs i with
    | none => some (akS G W p vs (i / 10) (i % 10), i)
    | some t => if t.1 < akS G W p vs (i / 10) (i % 10) then some (akS G W p vs (i / 10) (i % 10), i) else some t) else akF G W p vs i := rfl
def akB : Option (Nat × Nat) → Int32
  | none => -1
  | some t => nI t.1
noncomputable def aAsk (G : LG) (W : WG) (T : TG) (t p : Int32) : Int32 := if nA G T t p = 0 then mpI (akF G W (toN p) ((T (toN t)).getD (0, [])).2 (10 * gR G)) else nA G T t p
theorem akS_le {G : LG} {W : WG} {p : Nat} {vs : List Int64} {r s : Nat} (hN : gN G ≤ 6) : akS G W p vs r s ≤ 64 := by
  have h1 := cntB_le (fitB G W p vs) (2 ^ gN G)
  have h2 := pow6 hN
  unfold akS lsN
  omega
theorem akF_b {G : LG} {W : WG} {p : Nat} {vs : List Int64} (hN : gN G ≤ 6) : ∀ i t, akF G W p vs i = some t → t.1 ≤ 64
  | 0, t, h => by cases h
  | i + 1, t, h => by
    rw [akF_succ] at h
    have hs := akS_le (W := W) (p := p) (vs := vs) (r := i / 10) (s := i % 10) hN
    split at h
    · cases hm : akF G W p vs i with
      | none => rw [hm] at h; cases h; exact hs
      | some u =>
        rw [hm] at h
        dsimp only at h
        split at h
        · cases h; exact hs
        · cases h; exact akF_b hN i t hm
    · exact akF_b hN i t h
theorem cnt_and_le (f g : Nat → Bool) : ∀ k, cntB (fun b => f b && g b) k ≤ cntB f k
  | 0 => Nat.le_refl _
  | k + 1 => by
    have := cnt_and_le f g k
    rw [cntB_succ, cntB_succ]
    cases f k <;> cases g k <;> simp <;> omega
section ASK
variable {G : LG} {W : WG} {L : List WG} {B : Nat} {h : sm_H} {T : TG}
theorem m_ask_in {t p r s : Nat} {l3 l4 l5 : Int32} {q : Nat × List Int64} (ht : t < 4) (hp : p < gP G) (hr : r < gR G) (hs : s < 2) (hq : T t = some q) (ha : ∀ k, k < q.2.length → ansO G (q.2.getD k 0)) : ∀ (m k : Nat) (h1 : sm_H), k + m = 2 ^ gN G → mS h1 G W L B → mT h1 T → eqx sxL h h1 → ∃ h2, xe 6 265 78 [.ref 169, .int (nI t), .int (nI p), .int l3, .int l4, .int l5, .int (nI (10 * r + s)), .int (nI (cntB (fun b => fitB G W p q.2 b && ltA G W p r s b) k)), .int (nI (cntB (fitB G W p q.2) k)), .int (nI k)] [] h1 = xe 6 265 144 [.ref 169, .int (nI t), .int (nI p), .int l3, .int l4, .int l5, .int (nI (10 * r + s)), .int (nI (cntB (fun b => fitB G W p q.2 b && ltA G W p r s b) (2 ^ gN G))), .int (nI (cntB (fitB G W p q.2) (2 ^ gN G))), .int (nI (2 ^ gN G))] [] h2 ∧ mS h2 G W L B ∧ mT h2 T ∧ eqx sxL h h2
  | 0, k, h1, e, S, hT, E => by
    have hN := S.1.1.2
    have h64 := pow6 hN
    have : k = 2 ^ gN G := by omega
    subst this
    rw [b265_78]
    simp (disch := omega) only [in_170, if_true, nI_clamp, S.2.1.1.1]
    rw [shl1 (by omega), if_pos (Int32.le_refl _)]
    exact ⟨h1, rfl, S, hT, E⟩
  | m + 1, k, h1, e, S, hT, E => by
    have hN := S.1.1.2
    have hR := S.1.2.1
    have h64 := pow6 hN
    rw [b265_78]
    simp (disch := omega) only [in_170, if_true, nI_clamp, S.2.1.1.1]
    obtain ⟨h2, e2, E2⟩ := m_fits (b := k) S hT ht hp (by omega) hq ha
    rw [shl1 (by omega), if_neg (by rw [nI_leI (by omega) (by omega)]; omega), b265_91, e2, bnd]
    simp only [app1, List.cons_append, List.nil_append]
    rw [b265_99]
    have S2 := mS_Z S (E2.wk sxL_Z')
    have T2 := mT_eqx hT E2 (fun c i a b z => by unfold sxL at z; omega)
    have ih := m_ask_in (l3 := l3) (l4 := l4) (l5 := l5) ht hp hr hs hq ha m (k + 1)
    rw [cntB_succ, cntB_succ] at ih
    by_cases z : fitB G W p q.2 k = true
    · rw [if_neg (by rw [bI_z]; exact fun y => y z), b265_105]
      obtain ⟨h3, e3, E3⟩ := m_isLet (b := k) S2 hp hr hs (by omega)
      rw [pk_rem (by omega) (by decide) (by decide), pk_div (by omega) (by decide) (by decide), show (10 * r + s) / 10 = r by omega, show (10 * r + s) % 10 = s by omega, e3, bnd]
      simp only [app1, List.cons_append, List.nil_append]
      have S3 := mS_Z S2 (E3.wk sxL_Z')
      have T3 := mT_eqx T2 E3 (fun c i a b z => by unfold sxL at z; omega)
      have ih3 := ih h3 (by omega) S3 T3 ((E.tr E2).tr E3)
      rw [if_pos z] at ih3
      rw [b265_127]
      by_cases y : ltA G W p r s k = true
      · rw [show (fitB G W p q.2 k && ltA G W p r s k) = true by rw [z, y]; rfl, if_pos rfl] at ih3
        rw [if_neg (by rw [bI_z]; exact fun x => x y), b265_130, b265_135, b265_138, nI_add, nI_add, nI_add]
        exact ih3
      · rw [show (fitB G W p q.2 k && ltA G W p r s k) = false by rw [z]; simpa using y, if_neg (by decide)] at ih3
        rw [if_pos (by rw [bI_z]; exact y), b265_134, b265_135, b265_138, nI_add, nI_add, nI_add]
        exact ih3
    · have ih2 := ih h2 (by omega) S2 T2 (E.tr E2)
      rw [if_neg z, show (fitB G W p q.2 k && ltA G W p r s k) = false by simp [z], if_neg (by decide)] at ih2
      rw [if_pos (by rw [bI_z]; exact z), b265_102, b265_138, nI_add]
      exact ih2
theorem m_ask_loop {t p : Nat} {l3 : Int32} {q : Nat × List Int64} (ht : t < 4) (hp : p < gP G) (hq : T t = some q) (ha : ∀ k, k < q.2.length → ansO G (q.2.getD k 0)) : ∀ (m i : Nat) (h1 : sm_H) (l7 l8 l9 : Value), i + m = 10 * gR G → mS h1 G W L B → mT h1 T → eqx sxL h h1 → ∃ h2, xe 6 265 27 [.ref 169, .int (nI t), .int (nI p), .int l3, .int (mpI (akF G W p q.2 i)), .int (akB (akF G W p q.2 i)), .int (nI i), l7, l8, l9] [] h1 = some ([.int (mpI (akF G W p q.2 (10 * gR G)))], h2) ∧ eqx sxL h h2
  | 0, i, h1, l7, l8, l9, e, S, hT, E => by
    have : i = 10 * gR G := by omega
    subst this
    rw [b265_27]
    simp (disch := omega) only [in_170, if_true, nI_clamp, S.2.1.1.2.1]
    rw [pk_mul, if_pos (Int32.le_refl _), b265_195]
    exact ⟨h1, rfl, E⟩
  | m + 1, i, h1, l7, l8, l9, e, S, hT, E => by
    have hN := S.1.1.2
    have hR := S.1.2.1
    have h64 := pow6 hN
    have ih := m_ask_loop (l3 := l3) ht hp hq ha m (i + 1)
    rw [akF_succ] at ih
    have hkb := akF_b (W := W) (p := p) (vs := q.2) hN i
    have hsl := akS_le (W := W) (p := p) (vs := q.2) (r := i / 10) (s := i % 10) hN
    rw [b265_27]
    simp (disch := omega) only [in_170, if_true, nI_clamp, S.2.1.1.2.1]
    rw [pk_mul, if_neg (by rw [nI_leI (by omega) (by omega)]; omega), b265_41, pk_rem (by omega) (by decide) (by decide)]
    by_cases z1 : i % 10 < 2
    · rw [if_neg (by rw [nI_ltI (by decide) (by omega)]; omega), b265_50, pk_div (by omega) (by decide) (by decide)]
      have gb : sm_gi h1 170 (46 + i / 10) = nI (if gBri G (i / 10) then 1 else 0) := (S.2.1.2.1 (i / 10) (by omega)).2.2.2.1
      simp (disch := omega) only [nI_add, in_170, if_true, nI_clamp, gb]
      by_cases z2 : gBri G (i / 10) = true
      · rw [if_pos z2, if_neg (by decide), b265_69]
        obtain ⟨h2, e2, S2, T2, E2⟩ := m_ask_in (h := h1) (l3 := l3) (l4 := mpI (akF G W p q.2 i)) (l5 := akB (akF G W p q.2 i)) (r := i / 10) (s := i % 10) ht hp (by omega) z1 hq ha (2 ^ gN G) 0 h1 (by omega) S hT eqx.rf
        rw [show 10 * (i / 10) + i % 10 = i by omega, show cntB (fun b => fitB G W p q.2 b && ltA G W p (i / 10) (i % 10) b) 0 = 0 from rfl, show cntB (fitB G W p q.2) 0 = 0 from rfl] at e2
        rw [e2, b265_144]
        have hle := cnt_and_le (fitB G W p q.2) (ltA G W p (i / 10) (i % 10)) (2 ^ gN G)
        have hal := cntB_le (fitB G W p q.2) (2 ^ gN G)
        have h164 : ∀ x, xe 6 265 164 [.ref 169, .int (nI t), .int (nI p), .int l3, .int (mpI (akF G W p q.2 i)), .int (akB (akF G W p q.2 i)), .int (nI i), .int (nI (cntB (fun b => fitB G W p q.2 b && ltA G W p (i / 10) (i % 10) b) (2 ^ gN G))), .int (nI (cntB (fitB G W p q.2) (2 ^ gN G))), .int (nI (2 ^ gN G))] [.int (nI (akS G W p q.2 (i / 10) (i % 10)))] h2 = x → (if nI (cntB (fitB G W p q.2) (2 ^ gN G) - cntB (fun b => fitB G W p q.2 b && ltA G W p (i / 10) (i % 10) b) (2 ^ gN G)) ≤ nI (cntB (fun b => fitB G W p q.2 b && ltA G W p (i / 10) (i % 10) b) (2 ^ gN G)) then xe 6 265 159 [.ref 169, .int (nI t), .int (nI p), .int l3, .int (mpI (akF G W p q.2 i)), .int (akB (akF G W p q.2 i)), .int (nI i), .int (nI (cntB (fun b => fitB G W p q.2 b && ltA G W p (i / 10) (i % 10) b) (2 ^ gN G))), .int (nI (cntB (fitB G W p q.2) (2 ^ gN G))), .int (nI (2 ^ gN G))] [] h2 else xe 6 265 154 [.ref 169, .int (nI t), .int (nI p), .int l3, .int (mpI (akF G W p q.2 i)), .int (akB (akF G W p q.2 i)), .int (nI i), .int (nI (cntB (fun b => fitB G W p q.2 b && ltA G W p (i / 10) (i % 10) b) (2 ^ gN G))), .int (nI (cntB (fitB G W p q.2) (2 ^ gN G))), .int (nI (2 ^ gN G))] [] h2) = x := fun x hx => by
          unfold akS lsN at hx
          by_cases y : (cntB (fitB G W p q.2) (2 ^ gN G) - cntB (fun b => fitB G W p q.2 b && ltA G W p (i / 10) (i % 10) b) (2 ^ gN G)) ≤ (cntB (fun b => fitB G W p q.2 b && ltA G W p (i / 10) (i % 10) b) (2 ^ gN G))
          · rw [Nat.min_eq_right y] at hx
            rw [if_pos (by rw [nI_leI (by omega) (by omega)]; exact y), b265_159, pk_sub hle]
            exact hx
          · rw [Nat.min_eq_left (by omega)] at hx
            rw [if_neg (by rw [nI_leI (by omega) (by omega)]; exact y), b265_154]
            exact hx
        rw [pk_sub hle, h164 _ rfl, b265_164]
        by_cases z3 : cntB (fitB G W p q.2) (2 ^ gN G) = 0
        · rw [if_neg (fun y => y.2.2 z3)] at ih
          rw [if_pos (by rw [z3]; rfl), b265_189, nI_add]
          exact ih h2 _ _ _ (by omega) S2 T2 (E.tr E2)
        · rw [if_pos ⟨z1, z2, z3⟩] at ih
          rw [if_neg (by rw [show (0 : Int32) = nI 0 from rfl, nI_eq (by omega) (by decide)]; exact z3), b265_171]
          cases hm : akF G W p q.2 i with
          | none =>
            rw [hm] at ih
            rw [if_pos (show akB none < nI (akS G W p q.2 (i / 10) (i % 10)) by show (-1 : Int32) < _; rw [Int32.lt_iff_toInt_lt, nI_toInt (by omega), show (-1 : Int32).toInt = -1 from rfl]; omega), b265_181, b265_189, nI_add]
            exact ih h2 _ _ _ (by omega) S2 T2 (E.tr E2)
          | some u =>
            have hu := hkb u hm
            rw [hm] at ih
            dsimp only at ih
            by_cases z4 : u.1 < akS G W p q.2 (i / 10) (i % 10)
            · rw [if_pos z4] at ih
              rw [if_pos (show akB (some u) < _ by show nI u.1 < _; rw [nI_ltI (by omega) (by omega)]; exact z4), b265_181, b265_189, nI_add]
              exact ih h2 _ _ _ (by omega) S2 T2 (E.tr E2)
            · rw [if_neg z4] at ih
              rw [if_neg (show ¬ akB (some u) < _ by show ¬ nI u.1 < _; rw [nI_ltI (by omega) (by omega)]; exact z4), b265_178, b265_189, nI_add]
              exact ih h2 _ _ _ (by omega) S2 T2 (E.tr E2)
      · rw [if_neg (fun y => z2 y.2.1)] at ih
        rw [if_neg z2, if_pos (by decide), b265_66, b265_189, nI_add]
        exact ih h1 _ _ _ (by omega) S hT E
    · rw [if_neg (fun y => z1 y.1)] at ih
      rw [if_pos (by rw [nI_ltI (by decide) (by omega)]; omega), b265_189, nI_add]
      exact ih h1 _ _ _ (by omega) S hT E
theorem m_ask {t p : Int32} (S : mS h G W L B) (hT : mT h T) : ∃ h2, xc 265 [.ref 169, .int t, .int p] h = some ([.int (aAsk G W T t p)], h2) ∧ eqx sxZ h h2 := by
  have S0 := mS_thrown (v := nI 0) S
  have hP := S.1.2.2.1
  have T0 : mT (sm_si h 169 0 (nI 0)) T := mT_eqx hT (S := fun c _ => c = 169) (eqx.si (S := fun c _ => c = 169) eqx.rf rfl) (fun c i a b z => by omega)
  rw [en_265, b265_0, b265_5, m_noAnswers S0 T0, bnd]
  simp only [app1, List.cons_append, List.nil_append]
  rw [b265_11]
  unfold aAsk
  by_cases z : nA G T t p = 0
  · rw [if_pos z, if_pos z, b265_18, z]
    obtain ⟨t, p, q, ht, hp, rfl, rfl, hq, -, -, ha⟩ := nA_z hP z
    rw [toN_nI (by omega), toN_nI (by omega), hq]
    obtain ⟨h2, e2, E2⟩ := m_ask_loop (l3 := 0) (h := sm_si h 169 0 (nI 0)) ht hp hq ha (10 * gR G) 0 _ .null .null .null (by omega) S0 T0 eqx.rf
    exact ⟨h2, e2, Z_thrown (E2.wk sxL_Z')⟩
  · rw [if_neg z, if_neg z, b265_16]
    exact ⟨_, rfl, Z_thrown eqx.rf⟩
end ASK
