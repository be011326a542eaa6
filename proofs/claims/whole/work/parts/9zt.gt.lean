/-! ===== a constructor's calls, its end, its contract ===== -/
section GT
variable {l : Launch} {D : va_G} {cA : Nat → ClassId} {ad : Nat → Nat} {b : Nat} {p : Program} {e : Env} {R : Room} {s : State} {m : MethodId} {args : Array Value} {below : List Frame} {meth : Method} {c : Code} {Q : State → Prop} {cc : ByteArray} {own : String} {nL cells slots pc : Nat} {lv : List (Nat × Value)} {st : List Value} {g g1 : gS} {ini : Bool}
theorem gq_callN {idx o d mc ms mL : Nat} {y : MethodName} {bytes : ByteArray} {as : List Value} (C : g_C D cA ad b p R s m args meth c cc own nL ini) (hd : decode cc pc = .ok (.invokespecial idx, 3)) (hM : Met l y (sn_wd y bytes mL none) (g_rm d mc ms) (g_Pc D cA ad b (.ref (ad o) :: as) g) (g_Qc D cA ad b g1) mc ms (fun q => b ≤ q)) (hcode : Cond.code y bytes mL none ∈ sm_wl) (hini : Cond.initialized y.cls ∈ sm_wl) (hlink : (own, idx, y) ∈ g_nw) (hinst : Cond.instanceMethod y ∈ sm_wl) (hy : y.name = "<init>") (hne : y.cls ≠ "java/lang/invoke/MethodHandle" ∧ y.cls ≠ "java/lang/invoke/VarHandle") (hnp : (parseMethodDescriptor y.desc).map (fun d => d.parameters.length) = some as.length) (hfr : d + 1 + 1 ≤ R.frames) (hlo : 8 + (mL + 11) + 40 * (d + 1) ≤ R.locals) (hcl : cells + mc ≤ R.cells) (hsl : slots + ms ≤ R.slots) (hg1 : g1.1 = g.1 + mc) (hst : (st.map fun v => v.category).sum ≤ 8) (G : g_G l D cA ad b p e R s m args below meth c Q nL (cells + mc) (slots + ms) (pc + 3) lv st g1) : g_G l D cA ad b p e R s m args below meth c Q nL cells slots pc lv (as.reverse ++ .ref (ad o) :: st) g := by
  intro H locs la z hP hz hS hl
  refine g_sz C.2.2.2.2.2.2.2.2.1 C.2.2.2.2.2.2.2.2.2.1 z hP hz hS (fun hy' => ?_)
  obtain ⟨hx, hb, hml, hown, hts, hK, -, -, had, hbs, hN, -⟩ := C
  exact gq_after (va_runIN (As := as) (rest := st) ⟨hx, hb, hml, hown, hts⟩ hM ⟨va_cnB (mc := mc) (ms := ms) as.length hts (sn_goodw hcode) rfl rfl rfl (hN.2.2.2 _ hlink) (hts _ hini) ⟨hne.1, hne.2, hnp⟩ ⟨hfr, hlo⟩, hy, hts _ hinst⟩ ⟨g_blind, fun U hU hW => ⟨rfl, z, by rw [hU]; exact hP, by rw [hU]; exact hy', va_K.moved hW.alike hK, hN.warm hW⟩⟩ rfl rfl hl.1 rfl (lv_room hst) hd ⟨hcl, hsl⟩) hS (by omega) hl G
theorem gq_callI {idx o d mc ms mL : Nat} {y : MethodName} {bytes : ByteArray} {as : List Value} (C : g_C D cA ad b p R s m args meth c cc own nL ini) (hd : decode cc pc = .ok (.invokespecial idx, 3)) (hM : Met l y (sn_wd y bytes mL none) (g_rm d mc ms) (g_Pc D cA ad b (.ref (ad o) :: as) g) (g_Qc D cA ad b g1) mc ms (fun q => b ≤ q)) (hcode : Cond.code y bytes mL none ∈ sm_wl) (hini : Cond.initialized y.cls ∈ sm_wl) (hlink : Cond.methodLink own idx y ∈ sm_wl) (hinst : Cond.instanceMethod y ∈ sm_wl) (hy : y.name = "<init>") (hne : y.cls ≠ "java/lang/invoke/MethodHandle" ∧ y.cls ≠ "java/lang/invoke/VarHandle") (hnp : (parseMethodDescriptor y.desc).map (fun d => d.parameters.length) = some as.length) (hfr : d + 1 + 1 ≤ R.frames) (hlo : 8 + (mL + 11) + 40 * (d + 1) ≤ R.locals) (hcl : cells + mc ≤ R.cells) (hsl : slots + ms ≤ R.slots) (hg1 : g1.1 = g.1 + mc) (hst : (st.map fun v => v.category).sum ≤ 8) (G : g_G l D cA ad b p e R s m args below meth c Q nL (cells + mc) (slots + ms) (pc + 3) lv st g1) : g_G l D cA ad b p e R s m args below meth c Q nL cells slots pc lv (as.reverse ++ .ref (ad o) :: st) g := by
  intro H locs la z hP hz hS hl
  refine g_sz C.2.2.2.2.2.2.2.2.1 C.2.2.2.2.2.2.2.2.2.1 z hP hz hS (fun hy' => ?_)
  obtain ⟨hx, hb, hml, hown, hts, hK, -, -, had, hbs, hN, -⟩ := C
  exact gq_after (va_runI (As := as) (rest := st) ⟨hx, hb, hml, hown, hts⟩ hM ⟨callB_of (mc := mc) (ms := ms) as.length hts (sn_goodw hcode) rfl rfl rfl (hts _ hini) (hts _ hlink) ⟨hne.1, hne.2, hnp⟩ ⟨hfr, hlo⟩, hy, hts _ hinst⟩ ⟨g_blind, fun U hU hW => ⟨rfl, z, by rw [hU]; exact hP, by rw [hU]; exact hy', va_K.moved hW.alike hK, hN.warm hW⟩⟩ rfl rfl hl.1 rfl (lv_room hst) hd ⟨hcl, hsl⟩) hS (by omega) hl G
theorem gq_ret (C : g_C D cA ad b p R s m args meth c cc own nL true) (hd : decode cc pc = .ok (.return_, 1)) (hQ : Q = MQ below (g_Qc D cA ad b g) args s cells slots (fun q => b ≤ q)) : g_G l D cA ad b p e R s m args below meth c Q nL cells slots pc lv [] g := by
  intro H locs la z hP hz hS hl
  refine g_sz C.2.2.2.2.2.2.2.2.1 C.2.2.2.2.2.2.2.2.2.1 z hP hz hS (fun hy' => ?_)
  subst hQ
  exact W.vret C.1 C.2.1 (C.2.2.2.2.2.2.2.2.2.2.2 rfl).2.1 (fun t ht hw => ⟨rfl, z, by rw [ht]; exact hP, by rw [ht]; exact hy', hS.F ht⟩) (fun q hq => hS.2.2 q hq) hd (C.2.2.2.2.2.2.2.2.2.2.2 rfl).2.2
theorem gq_met {y : MethodName} {bytes : ByteArray} {d mc ms mL : Nat} {as : List Value} (hpl : plainName y.cls = true) (hyi : y.name = "<init>") (had : ∀ i, i < 187 → ad i = b + i) (hlen : (lg_sl as).length ≤ mL)
    (hW : ∀ {p : Program} {e : Env} {s : State} {m : MethodId} {args : Array Value} {below : List Frame} {meth : Method} {c : Code} {Q : State → Prop}, g_C D cA ad b p (g_rm d mc ms) s m args meth c bytes y.cls mL true → Q = MQ below (g_Qc D cA ad b g1) args s mc ms (fun q => b ≤ q) → g_G l D cA ad b p e (g_rm d mc ms) s m args below meth c Q mL 0 0 0 (lv_args 0 as) [] g) :
    Met l y (sn_wd y bytes mL none) (g_rm d mc ms) (g_Pc D cA ad b as g) (g_Qc D cA ad b g1) mc ms (fun q => b ≤ q) := by
  refine Met.ofW (cc := bytes) (maxL := mL) (ret := none) hpl rfl ?_
  intro p e s m args below meth c s₁ B hml hv
  obtain ⟨rfl, hz, hP, hs, hK, hN⟩ := hv
  have hts := atoms_spec (ws := sn_wd y bytes mL none) B.pre
  have hown : s.vm.findClass y.cls = some m.cls := findClass_of_methodNamed B.named
  have hin : meth.name = "<init>" := ((name_of_methodNamed B.named B.method).1).trans hyi
  have C : g_C D cA ad b p (g_rm d mc ms) s m as.toArray meth c bytes y.cls mL true := ⟨B.exec, B.bytes, hml, hown, fun w hw => hts w (List.mem_cons_of_mem _ hw), hK, by unfold g_rm; simp, by unfold g_rm; simp; omega, had, by omega, hN, fun _ => ⟨hin, B.returns, B.notSynchronized⟩⟩
  have hl := lv_entry as (n := mL) hlen
  rw [lg_entry_eq]
  exact hW C rfl s.heap [] _ hz hP (by omega) va_S.rf hl
end GT
