/-! ===== THE SMALL MACHINE IS THE MACHINE: what its cells are in the heap; each instruction ===== -/
def sn_tr (ad : Nat → Nat) : Value → Value
  | .ref a => .ref (ad a)
  | v => v
def sn_fld (ad : Nat → Nat) (h : sm_H) (i k kind : Nat) : Value := if kind = 0 then .int (h.1 i k) else if kind = 1 then .long (h.2.1 i k) else if kind = 2 then .ref (ad (sm_rf i k)) else .ref (ad h.2.2)
def sn_fs (ad : Nat → Nat) (h : sm_H) (i : Nat) : List Value := (List.range (sm_fn (sm_kd i - 10))).map (fun k => sn_fld ad h i k (sm_fk (sm_kd i - 10) k))
def sn_ar (ad : Nat → Nat) (h : sm_H) (i : Nat) : vp_A := (sm_ln i, if sm_kd i < 3 then .inl (h.1 i) else if sm_kd i = 3 then .inr (.inl (h.2.1 i)) else .inr (.inr (.inr (.inr (fun j => some (ad (sm_rf i j)))))))
def sn_cell (cA : Nat → ClassId) (ad : Nat → Nat) (h : sm_H) (i : Nat) : va_E := if sm_kd i < 7 then .inl (cA (sm_kd i), sn_ar ad h i) else .inr (sm_kd i - 10, sn_fs ad h i)
def sn_ws (cA : Nat → ClassId) (ad : Nat → Nat) (h : sm_H) : va_W := (List.range sm_NC).map (fun i => (ad i, sn_cell cA ad h i))
def sn_A (ad : Nat → Nat) : Nat → Prop := fun q => ∃ i : Nat, i < sm_NC ∧ q = ad i
theorem sn_ws_at {cA : Nat → ClassId} {ad : Nat → Nat} {h : sm_H} {i : Nat} (hi : i < sm_NC) : (sn_ws cA ad h)[i]? = some (ad i, sn_cell cA ad h i) := by
  unfold sn_ws
  rw [List.getElem?_map, List.getElem?_range hi]
  rfl
theorem sn_ws_set {cA : Nat → ClassId} {ad : Nat → Nat} {h h' : sm_H} {i : Nat} {e : va_E} (he : sn_cell cA ad h' i = e) (ho : ∀ j : Nat, j < sm_NC → j ≠ i → sn_cell cA ad h' j = sn_cell cA ad h j) : (sn_ws cA ad h).set i (ad i, e) = sn_ws cA ad h' := by
  apply List.ext_getElem?
  intro j
  by_cases hj : j < sm_NC
  · rw [sn_ws_at hj]
    by_cases hji : j = i
    · subst hji
      rw [List.getElem?_set_self (by unfold sn_ws; simpa using hj), he]
    · rw [List.getElem?_set_ne (Ne.symm hji), sn_ws_at hj, ho j hj hji]
  · rw [List.getElem?_eq_none (by unfold sn_ws; simp; omega), List.getElem?_eq_none (by unfold sn_ws; simp; omega)]
theorem sn_D {cA : Nat → ClassId} {ad : Nat → Nat} {h : sm_H} (hinj : ∀ i j : Nat, i < sm_NC → j < sm_NC → ad i = ad j → i = j) : va_D (sn_A ad) (sn_ws cA ad h) := by
  have key : ∀ (k : Nat) (q : Nat × va_E), (sn_ws cA ad h)[k]? = some q → k < sm_NC ∧ q.1 = ad k := by
    intro k q hk
    have hl : k < sm_NC := by
      have := (List.getElem?_eq_some_iff.mp hk).1
      unfold sn_ws at this; simpa using this
    rw [sn_ws_at hl] at hk
    cases hk
    exact ⟨hl, rfl⟩
  refine ⟨fun i j x y hi hj hxy => ?_, fun k q hk => ?_⟩
  · obtain ⟨a1, a2⟩ := key i x hi
    obtain ⟨b1, b2⟩ := key j y hj
    exact hinj i j a1 b1 (by rw [← a2, ← b2]; exact hxy)
  · obtain ⟨a1, a2⟩ := key k q hk
    exact ⟨k, a1, a2⟩
/-- the locals that hold something -/
def sn_lvF (ad : Nat → Nat) : Nat → List Value → List (Nat × Value)
  | _, [] => []
  | i, v :: r => if v = .null then sn_lvF ad (i + 1) r else (i, sn_tr ad v) :: sn_lvF ad (i + 1) r
theorem sn_lvF_in {ad : Nat → Nat} : ∀ (ls : List Value) (b i : Nat) (v : Value), ls[i]? = some v → v ≠ .null → (b + i, sn_tr ad v) ∈ sn_lvF ad b ls
  | [], b, i, v, h, _ => by simp at h
  | a :: r, b, 0, v, h, hn => by
    simp at h
    subst h
    unfold sn_lvF
    rw [if_neg hn]
    exact List.mem_cons_self
  | a :: r, b, i + 1, v, h, hn => by
    rw [List.getElem?_cons_succ] at h
    have := sn_lvF_in (ad := ad) r (b + 1) i v h hn
    unfold sn_lvF
    rw [show b + (i + 1) = b + 1 + i by omega]
    split
    · exact this
    · exact List.mem_cons_of_mem _ this
theorem sn_lvF_of {ad : Nat → Nat} : ∀ (ls : List Value) (b : Nat) (q : Nat × Value), q ∈ sn_lvF ad b ls → ∃ (i : Nat) (v : Value), q = (b + i, sn_tr ad v) ∧ ls[i]? = some v ∧ v ≠ .null
  | [], b, q, h => by unfold sn_lvF at h; cases h
  | a :: r, b, q, h => by
    unfold sn_lvF at h
    split at h
    next hn =>
      obtain ⟨i, v, h1, h2, h3⟩ := sn_lvF_of r (b + 1) q h
      exact ⟨i + 1, v, by rw [h1, show b + 1 + i = b + (i + 1) by omega], by rw [List.getElem?_cons_succ]; exact h2, h3⟩
    next hn =>
      rcases List.mem_cons.mp h with h | h
      · exact ⟨0, a, by rw [h]; rfl, rfl, hn⟩
      · obtain ⟨i, v, h1, h2, h3⟩ := sn_lvF_of r (b + 1) q h
        exact ⟨i + 1, v, by rw [h1, show b + 1 + i = b + (i + 1) by omega], by rw [List.getElem?_cons_succ]; exact h2, h3⟩
def sn_L (ad : Nat → Nat) (la : Array Slot) (nL : Nat) (ls : List Value) : Prop := ls.length ≤ nL ∧ lv_has la nL (sn_lvF ad 0 ls)
theorem sn_L.at {ad : Nat → Nat} {la : Array Slot} {nL : Nat} {ls : List Value} (h : sn_L ad la nL ls) {i : Nat} {v : Value} (hv : ls[i]? = some v) (hn : v ≠ .null) : la[i]? = some (.val (sn_tr ad v)) := by
  have := h.2.2.2 (0 + i, sn_tr ad v) (sn_lvF_in ls 0 i v hv hn)
  simpa using this
theorem sm_s1_spec : ∀ (ls : List Value) (i : Nat) (v : Value) (ls' : List Value), sm_s1 ls i v = some ls' → i < ls.length ∧ ls'.length = ls.length ∧ ls'[i]? = some v ∧ (∀ j : Nat, j ≠ i → ls'[j]? = ls[j]?) ∧ ∀ (k : Nat) (u : Value), k + 1 = i → ls[k]? = some u → sm_isL u = false
  | [], i, v, ls', h => by cases i <;> (unfold sm_s1 at h; cases h)
  | a :: r, 0, v, ls', h => by
    unfold sm_s1 at h
    cases h
    refine ⟨by simp, by simp, rfl, fun j hj => ?_, fun k u hk => by omega⟩
    cases j with
    | zero => exact absurd rfl hj
    | succ j => rfl
  | a :: r, 1, v, ls', h => by
    unfold sm_s1 at h
    split at h
    next => cases h
    next hl =>
      split at h
      next => cases h
      next b r' =>
        cases h
        refine ⟨by simp, by simp, rfl, fun j hj => ?_, fun k u hk hu => ?_⟩
        · match j with
          | 0 => rfl
          | 1 => exact absurd rfl hj
          | j + 2 => rfl
        · have : k = 0 := by omega
          subst this
          cases hu
          simpa using hl
  | a :: r, n + 2, v, ls', h => by
    unfold sm_s1 at h
    obtain ⟨l1, h1, h2⟩ := Option.map_eq_some_iff.mp h
    subst h2
    obtain ⟨a1, a2, a3, a4, a5⟩ := sm_s1_spec r (n + 1) v l1 h1
    refine ⟨by simp; omega, by simp [a2], by rw [List.getElem?_cons_succ]; exact a3, fun j hj => ?_, fun k u hk hu => ?_⟩
    · cases j with
      | zero => rfl
      | succ j => rw [List.getElem?_cons_succ, List.getElem?_cons_succ]; exact a4 j (by omega)
    · cases k with
      | zero => omega
      | succ k => exact a5 k u (by omega) (by rw [List.getElem?_cons_succ] at hu; exact hu)
theorem sm_s2_spec : ∀ (ls : List Value) (i : Nat) (v : Value) (ls' : List Value), sm_s2 ls i v = some ls' → i + 1 < ls.length ∧ ls'.length = ls.length ∧ ls'[i]? = some v ∧ ls'[i + 1]? = some .null ∧ (∀ j : Nat, j ≠ i → j ≠ i + 1 → ls'[j]? = ls[j]?) ∧ ∀ (k : Nat) (u : Value), k + 1 = i → ls[k]? = some u → sm_isL u = false
  | [], i, v, ls', h => by cases i <;> (unfold sm_s2 at h; cases h)
  | a :: r, 0, v, ls', h => by
    unfold sm_s2 at h
    split at h
    next => cases h
    next b r' =>
      cases h
      refine ⟨by simp, by simp, rfl, rfl, fun j hj hj2 => ?_, fun k u hk => by omega⟩
      match j with
      | 0 => exact absurd rfl hj
      | 1 => exact absurd rfl hj2
      | j + 2 => rfl
  | a :: r, 1, v, ls', h => by
    unfold sm_s2 at h
    split at h
    next => cases h
    next hl =>
      split at h
      next => cases h
      next b r' =>
        split at h
        next => cases h
        next b' r'' =>
          cases h
          refine ⟨by simp, by simp, rfl, rfl, fun j hj hj2 => ?_, fun k u hk hu => ?_⟩
          · match j with
            | 0 => rfl
            | 1 => exact absurd rfl hj
            | 2 => exact absurd rfl hj2
            | j + 3 => rfl
          · have : k = 0 := by omega
            subst this
            cases hu
            simpa using hl
  | a :: r, n + 2, v, ls', h => by
    unfold sm_s2 at h
    obtain ⟨l1, h1, h2⟩ := Option.map_eq_some_iff.mp h
    subst h2
    obtain ⟨a1, a2, a3, a3', a4, a5⟩ := sm_s2_spec r (n + 1) v l1 h1
    refine ⟨by simp; omega, by simp [a2], by rw [List.getElem?_cons_succ]; exact a3, by rw [List.getElem?_cons_succ]; exact a3', fun j hj hj2 => ?_, fun k u hk hu => ?_⟩
    · cases j with
      | zero => rfl
      | succ j => rw [List.getElem?_cons_succ, List.getElem?_cons_succ]; exact a4 j (by omega) (by omega)
    · cases k with
      | zero => omega
      | succ k => exact a5 k u (by omega) (by rw [List.getElem?_cons_succ] at hu; exact hu)
theorem sn_cat {ad : Nat → Nat} (v : Value) (h : sm_isL v = false) (hd : ∀ b, v ≠ .double b) : (sn_tr ad v).category = 1 := by
  cases v <;> first | rfl | (simp [sm_isL] at h; done) | exact absurd rfl (hd _)
/-- no value of the small machine is a double -/
def sn_nd (ls : List Value) : Prop := ∀ (i : Nat) (b : UInt64), ls[i]? ≠ some (.double b)
theorem sn_L.st1 {ad : Nat → Nat} {la la' : Array Slot} {nL : Nat} {ls ls' : List Value} {i : Nat} {v : Value} (hL : sn_L ad la nL ls) (hs : sm_s1 ls i v = some ls') (hnd : sn_nd ls) (h : lv_has la' nL ((i, sn_tr ad v) :: (sn_lvF ad 0 ls).filter (fun q => !(q.1 == i) && !(q.1 + 1 == i && q.2.category == 2)))) : sn_L ad la' nL ls' := by
  obtain ⟨a1, a2, a3, a4, a5⟩ := sm_s1_spec ls i v ls' hs
  refine ⟨by rw [a2]; exact hL.1, h.1, h.2.1, fun q hq => ?_⟩
  obtain ⟨j, u, rfl, h2, h3⟩ := sn_lvF_of ls' 0 q hq
  rw [Nat.zero_add]
  by_cases hj : j = i
  · subst hj
    rw [a3] at h2
    cases h2
    exact h.2.2 _ List.mem_cons_self
  · rw [a4 j hj] at h2
    refine h.2.2 (j, sn_tr ad u) (List.mem_cons_of_mem _ (List.mem_filter.mpr ⟨by simpa using sn_lvF_in (ad := ad) ls 0 j u h2 h3, ?_⟩))
    have hc : j + 1 = i → (sn_tr ad u).category = 1 := fun e => sn_cat u (a5 j u e h2) (fun b hb => hnd j b (by rw [h2, hb]))
    by_cases e : j + 1 = i
    · simp [hj, hc e]
    · simp [hj, e]
theorem sn_L.st2 {ad : Nat → Nat} {la la' : Array Slot} {nL : Nat} {ls ls' : List Value} {i : Nat} {v : Value} (hL : sn_L ad la nL ls) (hs : sm_s2 ls i v = some ls') (hnd : sn_nd ls) (h : lv_has la' nL ((i, sn_tr ad v) :: (sn_lvF ad 0 ls).filter (fun q => !(q.1 == i) && (!(q.1 == i + 1) && !(q.1 + 1 == i && q.2.category == 2))))) : sn_L ad la' nL ls' := by
  obtain ⟨a1, a2, a3, a3', a4, a5⟩ := sm_s2_spec ls i v ls' hs
  refine ⟨by rw [a2]; exact hL.1, h.1, h.2.1, fun q hq => ?_⟩
  obtain ⟨j, u, rfl, h2, h3⟩ := sn_lvF_of ls' 0 q hq
  rw [Nat.zero_add]
  by_cases hj : j = i
  · subst hj
    rw [a3] at h2
    cases h2
    exact h.2.2 _ List.mem_cons_self
  · by_cases hj2 : j = i + 1
    · subst hj2
      rw [a3'] at h2
      cases h2
      exact absurd rfl h3
    · rw [a4 j hj hj2] at h2
      refine h.2.2 (j, sn_tr ad u) (List.mem_cons_of_mem _ (List.mem_filter.mpr ⟨by simpa using sn_lvF_in (ad := ad) ls 0 j u h2 h3, ?_⟩))
      have hc : j + 1 = i → (sn_tr ad u).category = 1 := fun e => sn_cat u (a5 j u e h2) (fun b hb => hnd j b (by rw [h2, hb]))
      by_cases e : j + 1 = i
      · simp [hj, hj2, hc e]
      · simp [hj, hj2, e]
theorem sm_s1_nd {ls ls' : List Value} {i : Nat} {v : Value} (hs : sm_s1 ls i v = some ls') (hnd : sn_nd ls) (hv : ∀ b, v ≠ .double b) : sn_nd ls' := by
  obtain ⟨a1, a2, a3, a4, a5⟩ := sm_s1_spec ls i v ls' hs
  intro j b h
  by_cases hj : j = i
  · subst hj; rw [a3] at h; exact hv b (Option.some.inj h)
  · rw [a4 j hj] at h; exact hnd j b h
theorem sm_s2_nd {ls ls' : List Value} {i : Nat} {v : Value} (hs : sm_s2 ls i v = some ls') (hnd : sn_nd ls) (hv : ∀ b, v ≠ .double b) : sn_nd ls' := by
  obtain ⟨a1, a2, a3, a3', a4, a5⟩ := sm_s2_spec ls i v ls' hs
  intro j b h
  by_cases hj : j = i
  · subst hj; rw [a3] at h; exact hv b (Option.some.inj h)
  · by_cases hj2 : j = i + 1
    · subst hj2; rw [a3'] at h; cases h
    · rw [a4 j hj hj2] at h; exact hnd j b h
