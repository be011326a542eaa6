/-! ===== Math's methods too, by the method's own name; more room, for the JDK's String (the rows of 07, once more) ===== -/
theorem mt_ofW {l : Launch} {y : MethodName} {ws ws' : List Cond} {rm : Room} {Pc : Array Value → State → Prop} {Qc : Array Value → State → Outcome → State → Prop} {mc ms : Nat} {free : Addr → Prop} {cc : ByteArray} {maxL : Nat} {ret : Option FieldType}
    (hy : plainFor y = true) (hw : ws = Cond.code y cc maxL ret :: ws')
    (body : ∀ p e s m args below meth c s₁, BodyLoose p l y (headSpec ws rm) cc maxL ret e s m args below meth c s₁ → c.maxLocals = maxL → Pc args s →
      W p l e (headSpec ws rm).room s m args below meth c s.heap [] 0 0 (MQ below Qc args s mc ms free) (entryFrame m args maxL)) : Met l y ws rm Pc Qc mc ms free := by
  refine MetFree.of_bodyRF (code := cc) (maxLocals := maxL) (ret := ret) hy ?_ ?_
  · intro args s m h hn
    obtain ⟨meth, c, h1, h2, h3, h4, h5, h6, -, -⟩ := Cond.code_spec hn (atoms_spec (ws := ws) h _ (by rw [hw]; exact List.mem_cons_self))
    exact ⟨meth, c, h1, h2, h3, h4, h5, h6⟩
  · intro p e s m args below meth c s₁ B hml hP _ hst
    have hh0 : s₁.heap = s.heap := by rw [B.state]; rfl
    obtain ⟨t, a1, o, b1, b2, b3⟩ := body p e s m args below meth c s₁ B hml hP s₁ hh0 (Stand.of_body B)
    exact ⟨t, o, hst.trans a1, b1, b2, ⟨b3.1, b3.2⟩⟩
def sn_rmF (d : Nat) : Room := { frames := d + 8, cells := 0, slots := 0, locals := 40 * (d + 1) + 200 }
/-- as sn_V, where there is room for some frames more -/
def sn_VF (l : Launch) (D : va_G) (cA : Nat → ClassId) (ad : Nat → Nat) (SK : State → Heap → Prop) (nm : Nat → MethodName) (by_ : Nat → ByteArray) (mL : Nat → Nat) (rts : Nat → Option FieldType) (cc : ByteArray) (own : String) (nL : Nat) (rt : Option FieldType) (pc : Nat) (i : sm_I) : Prop :=
  ∀ {p : Program} {e : Env} {R : Room} {s : State} {m : MethodId} {args : Array Value} {below : List Frame} {meth : Method} {c : Code} {Q : State → Prop}, sn_C D cA ad SK p R s m args meth c cc own nL rt → 8 ≤ R.frames → 240 ≤ R.locals → ∀ (f : sm_F) (o : sm_O), i f = some o → match o with
    | .inl q => sn_G l D cA ad p e R s m args below meth c Q nL q.1 q.2 → sn_G l D cA ad p e R s m args below meth c Q nL pc f
    | .inr (.inl r) => Q = MQ below (sn_Qc D cA ad r) args s 0 0 (sn_A ad) → sn_G l D cA ad p e R s m args below meth c Q nL pc f
    | .inr (.inr (y', as, k', f')) => ∀ (r : sm_R) (rm : Room), rm.cells = 0 → rm.slots = 0 → rm.frames + 1 ≤ R.frames → 8 + (mL y' + 11) + rm.locals ≤ R.locals → r.1.length ≤ 1 → Met l (nm y') (sn_wd (nm y') (by_ y') (mL y') (rts y')) rm (sn_Pc D cA ad SK as f'.2.2) (sn_Qc D cA ad r) 0 0 (sn_A ad) → sn_G l D cA ad p e R s m args below meth c Q nL k' (f'.1, r.1 ++ f'.2.1, r.2) → sn_G l D cA ad p e R s m args below meth c Q nL pc f
theorem vF {l : Launch} {D : va_G} {cA : Nat → ClassId} {ad : Nat → Nat} {SK : State → Heap → Prop} {nm : Nat → MethodName} {by_ : Nat → ByteArray} {mL : Nat → Nat} {rts : Nat → Option FieldType} {cc : ByteArray} {own : String} {nL : Nat} {rt : Option FieldType} {pc : Nat} {i : sm_I} (V : sn_V l D cA ad SK nm by_ mL rts cc own nL rt pc i) : sn_VF l D cA ad SK nm by_ mL rts cc own nL rt pc i := by
  intro p e R s m args below meth c Q C _ _
  exact V C
section SNF
variable {l : Launch} {D : va_G} {cA : Nat → ClassId} {ad : Nat → Nat} {SK : State → Heap → Prop} {nm : Nat → MethodName} {by_ : Nat → ByteArray} {mL : Nat → Nat} {rts : Nat → Option FieldType} {P : Nat → Nat → Option sm_I} {rk : Nat → List Value → Nat}
/-- what is asked of a program: its instructions are the machine's; names and sizes -/
def sn_ProgF (l : Launch) (D : va_G) (cA : Nat → ClassId) (ad : Nat → Nat) (SK : State → Heap → Prop) (nm : Nat → MethodName) (by_ : Nat → ByteArray) (mL : Nat → Nat) (rts : Nat → Option FieldType) (P : Nat → Nat → Option sm_I) : Prop :=
  (∀ (y k : Nat) (i : sm_I), P y k = some i → sn_VF l D cA ad SK nm by_ mL rts (by_ y) (nm y).cls (mL y) (rts y) k i ∧ plainFor (nm y) = true ∧ mL y ≤ 20) ∧ (∀ i j : Nat, i < sm_NC → j < sm_NC → ad i = ad j → i = j) ∧ sn_SKp ad SK
theorem sn_metF (hPr : sn_ProgF l D cA ad SK nm by_ mL rts P) {y d : Nat} {as : List Value} {h : sm_H} {r : sm_R} (hpl : plainFor (nm y) = true) (hfit : sm_fit (mL y) as = true)
    (hW : ∀ {p : Program} {e : Env} {s : State} {m : MethodId} {args : Array Value} {below : List Frame} {meth : Method} {c : Code} {Q : State → Prop}, sn_C D cA ad SK p (sn_rmF d) s m args meth c (by_ y) (nm y).cls (mL y) (rts y) → Q = MQ below (sn_Qc D cA ad r) args s 0 0 (sn_A ad) → sn_G l D cA ad p e (sn_rmF d) s m args below meth c Q (mL y) 0 (sm_lo (mL y) as, [], h)) :
    Met l (nm y) (sn_wd (nm y) (by_ y) (mL y) (rts y)) (sn_rmF d) (sn_Pc D cA ad SK as h) (sn_Qc D cA ad r) 0 0 (sn_A ad) := by
  refine mt_ofW (cc := by_ y) (maxL := mL y) (ret := rts y) hpl rfl ?_
  intro p e s m args below meth c s₁ B hml hv
  obtain ⟨rfl, hP, hK, hSK⟩ := hv
  have hts := atoms_spec (ws := sn_wd (nm y) (by_ y) (mL y) (rts y)) B.pre
  have hown : s.vm.findClass (nm y).cls = some m.cls := findClass_of_methodNamed B.named
  have C : sn_C D cA ad SK p (sn_rmF d) s m ((as.map (sn_tr ad)).toArray) meth c (by_ y) (nm y).cls (mL y) (rts y) := ⟨B.exec, B.bytes, hml, hown, fun w hw => hts w (List.mem_cons_of_mem _ hw), B.returns, B.notSynchronized, hK, hSK, (show 1 ≤ d + 8 by omega), (show 40 ≤ 40 * (d + 1) + 200 by omega), hPr.2.1, hPr.2.2⟩
  obtain ⟨a1, a2, a3, a4⟩ := sm_lo_spec ad as (mL y) 0 hfit
  have hl := lv_entry (as.map (sn_tr ad)) (n := mL y) a3
  rw [lg_entry_eq]
  exact hW C rfl s.heap [] _ hP va_S.rf ⟨by rw [a1]; exact Nat.le_refl _, by rw [a4]; exact hl⟩ a2
theorem sn_mainF (hPr : sn_ProgF l D cA ad SK nm by_ mL rts P) : ∀ (n d y k : Nat) (f : sm_F) (r : sm_R), sm_ex P rk mL n d y k f = some r → r.1.length ≤ 1 ∧ (plainFor (nm y) = true ∧ mL y ≤ 20) ∧ ∀ {p : Program} {e : Env} {s : State} {m : MethodId} {args : Array Value} {below : List Frame} {meth : Method} {c : Code} {Q : State → Prop}, sn_C D cA ad SK p (sn_rmF d) s m args meth c (by_ y) (nm y).cls (mL y) (rts y) → Q = MQ below (sn_Qc D cA ad r) args s 0 0 (sn_A ad) → sn_G l D cA ad p e (sn_rmF d) s m args below meth c Q (mL y) k f := by
  intro n
  induction n with
  | zero => intro d y k f r h; cases h
  | succ n ih =>
    intro d y k f r h
    rw [sm_ex] at h
    cases hp : P y k with
    | none => rw [hp] at h; cases h
    | some i =>
      rw [hp] at h
      dsimp only at h
      obtain ⟨V, hpl, hm20⟩ := hPr.1 y k i hp
      rcases hi : i f with _ | q | r' | ⟨y', as, k', f'⟩
      · rw [hi] at h; cases h
      · rw [hi] at h
        obtain ⟨i1, i2, i3⟩ := ih _ _ _ _ _ h
        refine ⟨i1, ⟨hpl, hm20⟩, ?_⟩
        intro p e s m args below meth c Q C hQ
        exact V C (show 8 ≤ d + 8 by omega) (show 240 ≤ 40 * (d + 1) + 200 by omega) f _ hi (i3 C hQ)
      · rw [hi] at h
        dsimp only at h
        split at h
        next h1 =>
          cases h
          refine ⟨h1, ⟨hpl, hm20⟩, ?_⟩
          intro p e s m args below meth c Q C hQ
          exact V C (show 8 ≤ d + 8 by omega) (show 240 ≤ 40 * (d + 1) + 200 by omega) f _ hi hQ
        next => cases h
      · rw [hi] at h
        dsimp only at h
        by_cases hd : rk y' as < d ∧ sm_fit (mL y') as = true
        · rw [if_pos hd] at h
          cases hc : sm_ex P rk mL n (rk y' as) y' 0 (sm_lo (mL y') as, [], f'.2.2) with
          | none => rw [hc] at h; cases h
          | some r1 =>
            rw [hc] at h
            obtain ⟨j1, j2, j3⟩ := ih _ _ _ _ _ hc
            obtain ⟨i1, i2, i3⟩ := ih _ _ _ _ _ h
            refine ⟨i1, ⟨hpl, hm20⟩, ?_⟩
            intro p e s m args below meth c Q C hQ
            have hm' : mL y' ≤ 20 := j2.2
            have hM := sn_metF (d := rk y' as) hPr j2.1 hd.2 j3
            refine V C (show 8 ≤ d + 8 by omega) (show 240 ≤ 40 * (d + 1) + 200 by omega) f _ hi r1 (sn_rmF (rk y' as)) rfl rfl ?_ ?_ j1 hM (i3 C hQ)
            · unfold sn_rmF; simp; omega
            · unfold sn_rmF; simp; omega
        · rw [if_neg hd] at h; cases h
/-- a call of the small machine, as a contract -/
theorem sn_callF (hPr : sn_ProgF l D cA ad SK nm by_ mL rts P) {y : Nat} {as : List Value} {h : sm_H} {r : sm_R} (hc : sm_cl P rk mL y as h = some r) (hfit : sm_fit (mL y) as = true) : r.1.length ≤ 1 ∧ mL y ≤ 20 ∧ Met l (nm y) (sn_wd (nm y) (by_ y) (mL y) (rts y)) (sn_rmF (rk y as)) (sn_Pc D cA ad SK as h) (sn_Qc D cA ad r) 0 0 (sn_A ad) := by
  obtain ⟨n, hn⟩ := (sm_ev_iff P rk mL).mp hc
  obtain ⟨j1, j2, j3⟩ := sn_mainF (rk := rk) hPr _ _ _ _ _ _ hn
  exact ⟨j1, j2.2, sn_metF (d := rk y as) hPr j2.1 hfit j3⟩
end SNF

