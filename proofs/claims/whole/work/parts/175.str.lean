/-! ===== length, charAt, indexOf of String constants are the machine's ===== -/
section STRV
variable {l : Launch} {D : va_G} {cA : Nat → ClassId} {ad : Nat → Nat} {nm : Nat → MethodName} {by_ : Nat → ByteArray} {mL : Nat → Nat} {rts : Nat → Option FieldType} {cc : ByteArray} {own : String} {nL : Nat} {rt : Option FieldType} {pc : Nat}
theorem sv_slen {index : Nat} (hd : decode cc pc = .ok (.invokevirtual index, 3)) (hlink : Cond.methodLink own index ⟨"java/lang/String", "length", "()I"⟩ ∈ sm_wl) : sn_V l D cA ad (sn_SK ad) nm by_ mL rts cc own nL rt pc (sm_slen (pc + 3)) := by
  sorry
theorem sv_schr {index : Nat} (hd : decode cc pc = .ok (.invokevirtual index, 3)) (hlink : Cond.methodLink own index ⟨"java/lang/String", "charAt", "(I)C"⟩ ∈ sm_wl) : sn_V l D cA ad (sn_SK ad) nm by_ mL rts cc own nL rt pc (sm_schr (pc + 3)) := by
  sorry
theorem sv_sidx {index : Nat} (hd : decode cc pc = .ok (.invokevirtual index, 3)) (hlink : Cond.methodLink own index ⟨"java/lang/String", "indexOf", "(I)I"⟩ ∈ sm_wl) : sn_V l D cA ad (sn_SK ad) nm by_ mL rts cc own nL rt pc (sm_sidx (pc + 3)) := by
  sorry
end STRV
