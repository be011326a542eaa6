/-! ===== a run of the small machine is a run of the machine ===== -/
def sn_rm (d : Nat) : Room := { frames := d + 1, cells := 0, slots := 0, locals := 40 * (d + 1) }
theorem sm_lo_spec (ad : Nat → Nat) : ∀ (as : List Value) (n b : Nat), sm_fit n as = true → (sm_lo n as).length = n ∧ sn_nd (sm_lo n as) ∧ (lg_sl (as.map (sn_tr ad))).length ≤ n ∧ sn_lvF ad b (sm_lo n as) = lv_args b (as.map (sn_tr ad))
  | [], n, b, _ => by
    refine ⟨by simp [sm_lo], fun i b h => ?_, by simp [lg_sl], ?_⟩
    · have := List.eq_of_mem_replicate (List.mem_of_getElem? h)
      cases this
    · show sn_lvF ad b (List.replicate n .null) = []
      induction n generalizing b with
      | zero => rfl
      | succ n ih => rw [List.replicate_succ]; unfold sn_lvF; rw [if_pos rfl]; exact ih (b + 1) (by simp [sm_fit])
  | v :: as, n, b, h => by
    have one : ∀ v : Value, sm_isL v = false → v ≠ .null → (∀ d, v ≠ .double d) → 1 ≤ n → sm_fit (n - 1) as = true → (sm_lo n (v :: as)).length = n ∧ sn_nd (sm_lo n (v :: as)) ∧ (lg_sl ((v :: as).map (sn_tr ad))).length ≤ n ∧ sn_lvF ad b (sm_lo n (v :: as)) = lv_args b ((v :: as).map (sn_tr ad)) := by
      intro v hv hn hd h1 h2
      obtain ⟨a1, a2, a3, a4⟩ := sm_lo_spec ad as (n - 1) (b + 1) h2
      have hc : (sn_tr ad v).category = 1 := sn_cat v hv hd
      have e : sm_lo n (v :: as) = v :: sm_lo (n - 1) as := by
        conv => lhs; unfold sm_lo
        rw [hv]; rfl
      refine ⟨by rw [e]; simp [a1]; omega, fun i b h => ?_, ?_, ?_⟩
      · rw [e] at h
        cases i with
        | zero => exact hd b (Option.some.inj h)
        | succ i => exact a2 i b h
      · simp only [List.map_cons, lg_sl, List.flatMap_cons, hc] at a3 ⊢
        simp at a3 ⊢
        omega
      · rw [e]
        conv => lhs; unfold sn_lvF
        rw [if_neg hn, a4]
        simp [lv_args, hc]
    match v, h with
    | .int x, h =>
      simp only [sm_fit, Bool.and_eq_true, decide_eq_true_eq] at h
      exact one (.int x) rfl (fun q => by cases q) (fun d q => by cases q) h.1 h.2
    | .ref x, h =>
      simp only [sm_fit, Bool.and_eq_true, decide_eq_true_eq] at h
      exact one (.ref x) rfl (fun q => by cases q) (fun d q => by cases q) h.1 h.2
    | .long x, h =>
      simp only [sm_fit, Bool.and_eq_true, decide_eq_true_eq] at h
      obtain ⟨a1, a2, a3, a4⟩ := sm_lo_spec ad as (n - 2) (b + 2) h.2
      have e : sm_lo n (.long x :: as) = .long x :: .null :: sm_lo (n - 2) as := by
        conv => lhs; unfold sm_lo
        rfl
      have hc : (sn_tr ad (.long x)).category = 2 := rfl
      refine ⟨by rw [e]; simp [a1]; omega, fun i b h => ?_, ?_, ?_⟩
      · rw [e] at h
        match i, h with
        | 0, h => cases h
        | 1, h => cases h
        | i + 2, h => exact a2 i b h
      · simp only [List.map_cons, lg_sl, List.flatMap_cons, hc] at a3 ⊢
        simp at a3 ⊢
        omega
      · rw [e]
        conv => lhs; unfold sn_lvF
        rw [if_neg (fun q => by cases q)]
        conv => lhs; unfold sn_lvF
        rw [if_pos rfl, a4]
        simp [lv_args, hc]
    | .null, h => simp [sm_fit] at h
    | .float x, h => simp [sm_fit] at h
    | .double x, h => simp [sm_fit] at h
    | .retAddr x, h => simp [sm_fit] at h
section SNM
variable {l : Launch} {D : va_G} {cA : Nat → ClassId} {ad : Nat → Nat} {SK : State → Heap → Prop} {nm : Nat → MethodName} {by_ : Nat → ByteArray} {mL : Nat → Nat} {rts : Nat → Option FieldType} {P : Nat → Nat → Option sm_I} {rk : Nat → List Value → Nat}
/-- what is asked of a program: its instructions are the machine's; names and sizes -/
def sn_Prog (l : Launch) (D : va_G) (cA : Nat → ClassId) (ad : Nat → Nat) (SK : State → Heap → Prop) (nm : Nat → MethodName) (by_ : Nat → ByteArray) (mL : Nat → Nat) (rts : Nat → Option FieldType) (P : Nat → Nat → Option sm_I) : Prop :=
  (∀ (y k : Nat) (i : sm_I), P y k = some i → sn_V l D cA ad SK nm by_ mL rts (by_ y) (nm y).cls (mL y) (rts y) k i ∧ plainName (nm y).cls = true ∧ mL y ≤ 20) ∧ (∀ i j : Nat, i < sm_NC → j < sm_NC → ad i = ad j → i = j) ∧ sn_SKp ad SK
theorem sn_met (hPr : sn_Prog l D cA ad SK nm by_ mL rts P) {y d : Nat} {as : List Value} {h : sm_H} {r : sm_R} (hpl : plainName (nm y).cls = true) (hfit : sm_fit (mL y) as = true)
    (hW : ∀ {p : Program} {e : Env} {s : State} {m : MethodId} {args : Array Value} {below : List Frame} {meth : Method} {c : Code} {Q : State → Prop}, sn_C D cA ad SK p (sn_rm d) s m args meth c (by_ y) (nm y).cls (mL y) (rts y) → Q = MQ below (sn_Qc D cA ad r) args s 0 0 (sn_A ad) → sn_G l D cA ad p e (sn_rm d) s m args below meth c Q (mL y) 0 (sm_lo (mL y) as, [], h)) :
    Met l (nm y) (sn_wd (nm y) (by_ y) (mL y) (rts y)) (sn_rm d) (sn_Pc D cA ad SK as h) (sn_Qc D cA ad r) 0 0 (sn_A ad) := by
  refine Met.ofW (cc := by_ y) (maxL := mL y) (ret := rts y) hpl rfl ?_
  intro p e s m args below meth c s₁ B hml hv
  obtain ⟨rfl, hP, hK, hSK⟩ := hv
  have hts := atoms_spec (ws := sn_wd (nm y) (by_ y) (mL y) (rts y)) B.pre
  have hown : s.vm.findClass (nm y).cls = some m.cls := findClass_of_methodNamed B.named
  have C : sn_C D cA ad SK p (sn_rm d) s m ((as.map (sn_tr ad)).toArray) meth c (by_ y) (nm y).cls (mL y) (rts y) := ⟨B.exec, B.bytes, hml, hown, fun w hw => hts w (List.mem_cons_of_mem _ hw), B.returns, B.notSynchronized, hK, hSK, by unfold sn_rm; simp, by unfold sn_rm; simp; omega, hPr.2.1, hPr.2.2⟩
  obtain ⟨a1, a2, a3, a4⟩ := sm_lo_spec ad as (mL y) 0 hfit
  have hl := lv_entry (as.map (sn_tr ad)) (n := mL y) a3
  rw [lg_entry_eq]
  exact hW C rfl s.heap [] _ hP va_S.rf ⟨by rw [a1]; exact Nat.le_refl _, by rw [a4]; exact hl⟩ a2
theorem sn_main (hPr : sn_Prog l D cA ad SK nm by_ mL rts P) : ∀ (n d y k : Nat) (f : sm_F) (r : sm_R), sm_ex P rk mL n d y k f = some r → r.1.length ≤ 1 ∧ (plainName (nm y).cls = true ∧ mL y ≤ 20) ∧ ∀ {p : Program} {e : Env} {s : State} {m : MethodId} {args : Array Value} {below : List Frame} {meth : Method} {c : Code} {Q : State → Prop}, sn_C D cA ad SK p (sn_rm d) s m args meth c (by_ y) (nm y).cls (mL y) (rts y) → Q = MQ below (sn_Qc D cA ad r) args s 0 0 (sn_A ad) → sn_G l D cA ad p e (sn_rm d) s m args below meth c Q (mL y) k f := by
  intro n
  induction n with
  | zero => intro d y k f r h; cases h
  | succ n ih =>
    intro d y k f r h
    rw [sm_ex] at h
    cases hp : P y k with
    | none => rw [hp] at h; cases h
    | some i =>
      rw [hp] at h
      dsimp only at h
      obtain ⟨V, hpl, hm20⟩ := hPr.1 y k i hp
      rcases hi : i f with _ | q | r' | ⟨y', as, k', f'⟩
      · rw [hi] at h; cases h
      · rw [hi] at h
        obtain ⟨i1, i2, i3⟩ := ih _ _ _ _ _ h
        refine ⟨i1, ⟨hpl, hm20⟩, ?_⟩
        intro p e s m args below meth c Q C hQ
        exact V C f _ hi (i3 C hQ)
      · rw [hi] at h
        dsimp only at h
        split at h
        next h1 =>
          cases h
          refine ⟨h1, ⟨hpl, hm20⟩, ?_⟩
          intro p e s m args below meth c Q C hQ
          exact V C f _ hi hQ
        next => cases h
      · rw [hi] at h
        dsimp only at h
        by_cases hd : rk y' as < d ∧ sm_fit (mL y') as = true
        · rw [if_pos hd] at h
          cases hc : sm_ex P rk mL n (rk y' as) y' 0 (sm_lo (mL y') as, [], f'.2.2) with
          | none => rw [hc] at h; cases h
          | some r1 =>
            rw [hc] at h
            obtain ⟨j1, j2, j3⟩ := ih _ _ _ _ _ hc
            obtain ⟨i1, i2, i3⟩ := ih _ _ _ _ _ h
            refine ⟨i1, ⟨hpl, hm20⟩, ?_⟩
            intro p e s m args below meth c Q C hQ
            have hm' : mL y' ≤ 20 := j2.2
            have hM := sn_met (d := rk y' as) hPr j2.1 hd.2 j3
            refine V C f _ hi r1 (sn_rm (rk y' as)) rfl rfl ?_ ?_ j1 hM (i3 C hQ)
            · unfold sn_rm; simp; omega
            · unfold sn_rm; simp; omega
        · rw [if_neg hd] at h; cases h
/-- a call of the small machine, as a contract -/
theorem sn_call (hPr : sn_Prog l D cA ad SK nm by_ mL rts P) {y : Nat} {as : List Value} {h : sm_H} {r : sm_R} (hc : sm_cl P rk mL y as h = some r) (hfit : sm_fit (mL y) as = true) : r.1.length ≤ 1 ∧ mL y ≤ 20 ∧ Met l (nm y) (sn_wd (nm y) (by_ y) (mL y) (rts y)) (sn_rm (rk y as)) (sn_Pc D cA ad SK as h) (sn_Qc D cA ad r) 0 0 (sn_A ad) := by
  obtain ⟨n, hn⟩ := (sm_ev_iff P rk mL).mp hc
  obtain ⟨j1, j2, j3⟩ := sn_main (rk := rk) hPr _ _ _ _ _ _ hn
  exact ⟨j1, j2.2, sn_met (d := rk y as) hPr j2.1 hfit j3⟩
end SNM
