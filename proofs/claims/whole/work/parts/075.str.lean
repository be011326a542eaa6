/-! ===== the String constants ===== -/
def sn_len : List Nat := sm_str.map List.length
def sn_byt : List (List Int32) := sm_str.map (fun l => l.map nI)
def sn_SK (ad : Nat → Nat) : State → Heap → Prop := fun U H => vk_S 22 sn_len sn_byt (fun k => ad (1000 + k)) (fun k => ad (1100 + k)) (sn_A ad) U H ∧ (∀ (k : Nat) (q : String × Nat × String × Nat), sm_strs[k]? = some q → vk_R q.1 q.2.1 q.2.2.1 (ad (1000 + q.2.2.2)) U) ∧ va_Z "java/lang/String" "COMPACT_STRINGS" "Z" (.int 1) (sn_A ad) U H ∧ va_Zq "jdk/internal/util/Preconditions" "SIOOBE_FORMATTER" "Ljava/util/function/BiFunction;" (sn_A ad) U H
theorem sn_SKok (ad : Nat → Nat) : sn_SKp ad (sn_SK ad) := by
  refine ⟨fun u U H hW h => ⟨h.1.moved hW.alike, fun k q hq => (h.2.1 k q hq).warm hW, h.2.2.1.moved hW.alike, h.2.2.2.moved hW.alike⟩, fun u U H e h => ⟨h.1.moved (by rw [e]; exact Vm.Alike.refl _), fun k q hq => (h.2.1 k q hq).same e, h.2.2.1.moved (by rw [e]; exact Vm.Alike.refl _), h.2.2.2.moved (by rw [e]; exact Vm.Alike.refl _)⟩, fun U H H1 hq h => ⟨h.1.kept hq, h.2.1, h.2.2.1.kept hq, h.2.2.2.kept hq⟩⟩
