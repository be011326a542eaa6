/-! ===== the JDK's String over constants (written by program) ===== -/
def sj_rm (d : Nat) : Room := { frames := d, cells := 0, slots := 0, locals := 40 * d }
def sj_Pc (ad : Nat → Nat) (as : List Value) : Array Value → State → Prop := va_Pc as (fun U => sn_SK ad U U.heap)
def sj_Qc (v : Option Value) : Array Value → State → Outcome → State → Prop := fun _ st oc t => oc = .returned v ∧ t.heap = st.heap
def sj_C (ad : Nat → Nat) (p : Program) (R : Room) (s : State) (m : MethodId) (args : Array Value) (meth : Method) (c : Code) (cc : ByteArray) (own : String) (nL : Nat) (rt : Option FieldType) : Prop := p.tables.exec = Jvm.exec ∧ c.code = cc ∧ c.maxLocals = nL ∧ s.vm.findClass own = some m.cls ∧ (∀ w ∈ sm_wl, w.before args s = true) ∧ meth.sig.returnType = rt ∧ meth.locks = false ∧ sn_SK ad s s.heap
theorem sj_blind {ad : Nat → Nat} {as : List Value} : FrameBlind (sj_Pc ad as) := fun a U g mk q => ⟨q.1, (sn_SKok ad).2.1 U _ _ rfl q.2⟩
theorem sj_len : ∀ i, i < 22 → sn_len.getD i 0 ≤ 200 := by decide +kernel
theorem sj_gd (l : List Nat) (k : Nat) (h : k < l.length) : l[k] = l.getD k 0 := by
  rw [List.getD_eq_getElem?_getD, List.getElem?_eq_getElem h]
  rfl
theorem sj_adr {a : Nat} (h1 : 1000 ≤ a) (h2 : a < 1000 + sm_str.length) : ∃ i : Nat, i < 22 ∧ a = 1000 + i := ⟨a - 1000, by have : sm_str.length = 22 := rfl; omega, by omega⟩
theorem sj_sub (i : Nat) : 1000 + i - 1000 = i := by omega
theorem sj_len2 : ∀ i, i < 22 → sn_len.getD i 0 = (sm_str.getD i []).length := by decide +kernel
theorem sj_pos : ∀ i, i < 22 → (0 : Int32) < nI (sn_len.getD i 0) := by decide +kernel
theorem sj_shr : ∀ i, i < 22 → ((Int32.ofNat (sn_len.getD i 0)) >>> ((0 : Int32) &&& 31)) = nI (sn_len.getD i 0) := by decide +kernel
theorem sj_byt : ∀ i, i < 22 → ∀ k, k < sn_len.getD i 0 → (sn_byt.getD i []).getD k 0 = nI ((sm_str.getD i []).getD k 0) ∧ (sm_str.getD i []).getD k 0 < 128 := by decide +kernel
theorem sj_nar : ∀ a, a < 128 → (((nI a) &&& 255).toUInt32 % 65536).toInt32 = nI a ∧ (((nI a).toUInt32 % 65536).toInt32) = nI a := by decide +kernel
theorem sj_chr (i : Nat) (hi : i < 22) (k : Nat) (hk : k < sn_len.getD i 0) : ((((sn_byt.getD i []).getD k 0) &&& 255).toUInt32 % 65536).toInt32 = nI ((sm_str.getD i []).getD k 0) ∧ narrow .char (.int (nI ((sm_str.getD i []).getD k 0))) = .int (nI ((sm_str.getD i []).getD k 0)) := by
  obtain ⟨h1, h2⟩ := sj_byt i hi k hk
  rw [h1]
  refine ⟨(sj_nar _ h2).1, ?_⟩
  show Value.int _ = _
  exact congrArg Value.int (sj_nar _ h2).2
set_option maxRecDepth 100000 in
theorem sj_cmp : ∀ a, a < 128 → ∀ n, n < 256 → (nI a = (nI n).toInt8.toInt32 ↔ a = n) := by decide +kernel
theorem sw_124 : (.initialized "java/lang/String" : Cond) ∈ sm_wl := sn_m (List.mem_of_getElem? (i := 124) (by decide +kernel)) rfl
theorem sw_125 : (.initialized "java/lang/StringLatin1" : Cond) ∈ sm_wl := sn_m (List.mem_of_getElem? (i := 125) (by decide +kernel)) rfl
theorem sw_126 : (.initialized "jdk/internal/util/Preconditions" : Cond) ∈ sm_wl := sn_m (List.mem_of_getElem? (i := 126) (by decide +kernel)) rfl
theorem sw_669 : (.instanceMethod ⟨"java/lang/String", "length", "()I"⟩ : Cond) ∈ sm_wl := sn_m (List.mem_of_getElem? (i := 669) (by decide +kernel)) rfl
theorem sw_670 : (.selects "java/lang/String" ⟨"java/lang/String", "length", "()I"⟩ ⟨"java/lang/String", "length", "()I"⟩ : Cond) ∈ sm_wl := sn_m (List.mem_of_getElem? (i := 670) (by decide +kernel)) rfl
set_option maxRecDepth 100000 in
theorem sw_671 : (.code ⟨"java/lang/String", "length", "()I"⟩ prog_19_method_54_code 1 (some .int) : Cond) ∈ sm_wl := sn_m (List.mem_of_getElem? (i := 671) (by rfl)) rfl
theorem sw_672 : (.methodLink "java/lang/String" 335 ⟨"java/lang/String", "coder", "()B"⟩ : Cond) ∈ sm_wl := sn_m (List.mem_of_getElem? (i := 672) (by decide +kernel)) rfl
theorem sw_673 : (.instanceMethod ⟨"java/lang/String", "coder", "()B"⟩ : Cond) ∈ sm_wl := sn_m (List.mem_of_getElem? (i := 673) (by decide +kernel)) rfl
theorem sw_674 : (.selects "java/lang/String" ⟨"java/lang/String", "coder", "()B"⟩ ⟨"java/lang/String", "coder", "()B"⟩ : Cond) ∈ sm_wl := sn_m (List.mem_of_getElem? (i := 674) (by decide +kernel)) rfl
set_option maxRecDepth 100000 in
theorem sw_675 : (.code ⟨"java/lang/String", "coder", "()B"⟩ prog_19_method_152_code 1 (some .byte) : Cond) ∈ sm_wl := sn_m (List.mem_of_getElem? (i := 675) (by rfl)) rfl
theorem sw_676 : (.fieldLink "java/lang/String" 38 "java/lang/String" "COMPACT_STRINGS" "Z" : Cond) ∈ sm_wl := sn_m (List.mem_of_getElem? (i := 676) (by decide +kernel)) rfl
theorem sw_679 : (.instanceMethod ⟨"java/lang/String", "charAt", "(I)C"⟩ : Cond) ∈ sm_wl := sn_m (List.mem_of_getElem? (i := 679) (by decide +kernel)) rfl
theorem sw_680 : (.selects "java/lang/String" ⟨"java/lang/String", "charAt", "(I)C"⟩ ⟨"java/lang/String", "charAt", "(I)C"⟩ : Cond) ∈ sm_wl := sn_m (List.mem_of_getElem? (i := 680) (by decide +kernel)) rfl
set_option maxRecDepth 100000 in
theorem sw_681 : (.code ⟨"java/lang/String", "charAt", "(I)C"⟩ prog_19_method_56_code 2 (some .char) : Cond) ∈ sm_wl := sn_m (List.mem_of_getElem? (i := 681) (by rfl)) rfl
theorem sw_682 : (.methodLink "java/lang/String" 492 ⟨"java/lang/String", "isLatin1", "()Z"⟩ : Cond) ∈ sm_wl := sn_m (List.mem_of_getElem? (i := 682) (by decide +kernel)) rfl
theorem sw_683 : (.instanceMethod ⟨"java/lang/String", "isLatin1", "()Z"⟩ : Cond) ∈ sm_wl := sn_m (List.mem_of_getElem? (i := 683) (by decide +kernel)) rfl
theorem sw_684 : (.selects "java/lang/String" ⟨"java/lang/String", "isLatin1", "()Z"⟩ ⟨"java/lang/String", "isLatin1", "()Z"⟩ : Cond) ∈ sm_wl := sn_m (List.mem_of_getElem? (i := 684) (by decide +kernel)) rfl
set_option maxRecDepth 100000 in
theorem sw_685 : (.code ⟨"java/lang/String", "isLatin1", "()Z"⟩ prog_19_method_154_code 1 (some .boolean) : Cond) ∈ sm_wl := sn_m (List.mem_of_getElem? (i := 685) (by rfl)) rfl
theorem sw_686 : (.methodLink "java/lang/String" 495 ⟨"java/lang/StringLatin1", "charAt", "([BI)C"⟩ : Cond) ∈ sm_wl := sn_m (List.mem_of_getElem? (i := 686) (by decide +kernel)) rfl
theorem sw_687 : (.static ⟨"java/lang/StringLatin1", "charAt", "([BI)C"⟩ : Cond) ∈ sm_wl := sn_m (List.mem_of_getElem? (i := 687) (by decide +kernel)) rfl
set_option maxRecDepth 100000 in
theorem sw_688 : (.code ⟨"java/lang/StringLatin1", "charAt", "([BI)C"⟩ prog_20_method_2_code 2 (some .char) : Cond) ∈ sm_wl := sn_m (List.mem_of_getElem? (i := 688) (by rfl)) rfl
theorem sw_689 : (.methodLink "java/lang/StringLatin1" 9 ⟨"java/lang/String", "checkIndex", "(II)V"⟩ : Cond) ∈ sm_wl := sn_m (List.mem_of_getElem? (i := 689) (by decide +kernel)) rfl
theorem sw_690 : (.static ⟨"java/lang/String", "checkIndex", "(II)V"⟩ : Cond) ∈ sm_wl := sn_m (List.mem_of_getElem? (i := 690) (by decide +kernel)) rfl
set_option maxRecDepth 100000 in
theorem sw_691 : (.code ⟨"java/lang/String", "checkIndex", "(II)V"⟩ prog_19_method_155_code 2 none : Cond) ∈ sm_wl := sn_m (List.mem_of_getElem? (i := 691) (by rfl)) rfl
theorem sw_692 : (.fieldLink "java/lang/String" 1053 "jdk/internal/util/Preconditions" "SIOOBE_FORMATTER" "Ljava/util/function/BiFunction;" : Cond) ∈ sm_wl := sn_m (List.mem_of_getElem? (i := 692) (by decide +kernel)) rfl
theorem sw_694 : (.methodLink "java/lang/String" 1059 ⟨"jdk/internal/util/Preconditions", "checkIndex", "(IILjava/util/function/BiFunction;)I"⟩ : Cond) ∈ sm_wl := sn_m (List.mem_of_getElem? (i := 694) (by decide +kernel)) rfl
theorem sw_695 : (.static ⟨"jdk/internal/util/Preconditions", "checkIndex", "(IILjava/util/function/BiFunction;)I"⟩ : Cond) ∈ sm_wl := sn_m (List.mem_of_getElem? (i := 695) (by decide +kernel)) rfl
set_option maxRecDepth 100000 in
theorem sw_696 : (.code ⟨"jdk/internal/util/Preconditions", "checkIndex", "(IILjava/util/function/BiFunction;)I"⟩ prog_24_method_11_code 3 (some .int) : Cond) ∈ sm_wl := sn_m (List.mem_of_getElem? (i := 696) (by rfl)) rfl
theorem sw_718 : (.instanceMethod ⟨"java/lang/String", "indexOf", "(I)I"⟩ : Cond) ∈ sm_wl := sn_m (List.mem_of_getElem? (i := 718) (by decide +kernel)) rfl
theorem sw_719 : (.selects "java/lang/String" ⟨"java/lang/String", "indexOf", "(I)I"⟩ ⟨"java/lang/String", "indexOf", "(I)I"⟩ : Cond) ∈ sm_wl := sn_m (List.mem_of_getElem? (i := 719) (by decide +kernel)) rfl
set_option maxRecDepth 100000 in
theorem sw_720 : (.code ⟨"java/lang/String", "indexOf", "(I)I"⟩ prog_19_method_79_code 2 (some .int) : Cond) ∈ sm_wl := sn_m (List.mem_of_getElem? (i := 720) (by rfl)) rfl
theorem sw_721 : (.methodLink "java/lang/String" 633 ⟨"java/lang/String", "indexOf", "(II)I"⟩ : Cond) ∈ sm_wl := sn_m (List.mem_of_getElem? (i := 721) (by decide +kernel)) rfl
theorem sw_722 : (.instanceMethod ⟨"java/lang/String", "indexOf", "(II)I"⟩ : Cond) ∈ sm_wl := sn_m (List.mem_of_getElem? (i := 722) (by decide +kernel)) rfl
theorem sw_723 : (.selects "java/lang/String" ⟨"java/lang/String", "indexOf", "(II)I"⟩ ⟨"java/lang/String", "indexOf", "(II)I"⟩ : Cond) ∈ sm_wl := sn_m (List.mem_of_getElem? (i := 723) (by decide +kernel)) rfl
set_option maxRecDepth 100000 in
theorem sw_724 : (.code ⟨"java/lang/String", "indexOf", "(II)I"⟩ prog_19_method_80_code 3 (some .int) : Cond) ∈ sm_wl := sn_m (List.mem_of_getElem? (i := 724) (by rfl)) rfl
theorem sw_725 : (.methodLink "java/lang/String" 505 ⟨"java/lang/String", "length", "()I"⟩ : Cond) ∈ sm_wl := sn_m (List.mem_of_getElem? (i := 725) (by decide +kernel)) rfl
theorem sw_726 : (.methodLink "java/lang/String" 637 ⟨"java/lang/StringLatin1", "indexOf", "([BIII)I"⟩ : Cond) ∈ sm_wl := sn_m (List.mem_of_getElem? (i := 726) (by decide +kernel)) rfl
theorem sw_727 : (.static ⟨"java/lang/StringLatin1", "indexOf", "([BIII)I"⟩ : Cond) ∈ sm_wl := sn_m (List.mem_of_getElem? (i := 727) (by decide +kernel)) rfl
set_option maxRecDepth 100000 in
theorem sw_728 : (.code ⟨"java/lang/StringLatin1", "indexOf", "([BIII)I"⟩ prog_20_method_22_code 4 (some .int) : Cond) ∈ sm_wl := sn_m (List.mem_of_getElem? (i := 728) (by rfl)) rfl
theorem sw_729 : (.methodLink "java/lang/StringLatin1" 88 ⟨"java/lang/StringLatin1", "canEncode", "(I)Z"⟩ : Cond) ∈ sm_wl := sn_m (List.mem_of_getElem? (i := 729) (by decide +kernel)) rfl
theorem sw_730 : (.static ⟨"java/lang/StringLatin1", "canEncode", "(I)Z"⟩ : Cond) ∈ sm_wl := sn_m (List.mem_of_getElem? (i := 730) (by decide +kernel)) rfl
set_option maxRecDepth 100000 in
theorem sw_731 : (.code ⟨"java/lang/StringLatin1", "canEncode", "(I)Z"⟩ prog_20_method_4_code 1 (some .boolean) : Cond) ∈ sm_wl := sn_m (List.mem_of_getElem? (i := 731) (by rfl)) rfl
theorem sw_732 : (.methodLink "java/lang/StringLatin1" 92 ⟨"java/lang/Math", "max", "(II)I"⟩ : Cond) ∈ sm_wl := sn_m (List.mem_of_getElem? (i := 732) (by decide +kernel)) rfl
theorem sw_735 : (.methodLink "java/lang/StringLatin1" 38 ⟨"java/lang/Math", "min", "(II)I"⟩ : Cond) ∈ sm_wl := sn_m (List.mem_of_getElem? (i := 735) (by decide +kernel)) rfl
theorem sw_738 : (.methodLink "java/lang/StringLatin1" 95 ⟨"java/lang/StringLatin1", "indexOfChar", "([BIII)I"⟩ : Cond) ∈ sm_wl := sn_m (List.mem_of_getElem? (i := 738) (by decide +kernel)) rfl
theorem sw_739 : (.static ⟨"java/lang/StringLatin1", "indexOfChar", "([BIII)I"⟩ : Cond) ∈ sm_wl := sn_m (List.mem_of_getElem? (i := 739) (by decide +kernel)) rfl
set_option maxRecDepth 100000 in
theorem sw_740 : (.code ⟨"java/lang/StringLatin1", "indexOfChar", "([BIII)I"⟩ prog_20_method_23_code 6 (some .int) : Cond) ∈ sm_wl := sn_m (List.mem_of_getElem? (i := 740) (by rfl)) rfl
theorem sw_2085 : (.fieldLink "java/lang/String" 9 "java/lang/String" "value" "[B" : Cond) ∈ sm_wl := sn_m (List.mem_of_getElem? (i := 2085) (by decide +kernel)) rfl
theorem sw_2086 : (.fieldLink "java/lang/String" 15 "java/lang/String" "coder" "B" : Cond) ∈ sm_wl := sn_m (List.mem_of_getElem? (i := 2086) (by decide +kernel)) rfl
theorem sd_coder_0 : decode prog_19_method_152_code 0 = .ok (.getstatic 38, 3) := by decide +kernel
theorem sd_coder_3 : decode prog_19_method_152_code 3 = .ok (.ifCond .eq 10, 3) := by decide +kernel
theorem sd_coder_6 : decode prog_19_method_152_code 6 = .ok (.aload_n 0, 1) := by decide +kernel
theorem sd_coder_7 : decode prog_19_method_152_code 7 = .ok (.getfield 15, 3) := by decide +kernel
theorem sd_coder_10 : decode prog_19_method_152_code 10 = .ok (.goto 4, 3) := by decide +kernel
theorem sd_coder_13 : decode prog_19_method_152_code 13 = .ok (.iconst 1, 1) := by decide +kernel
theorem sd_coder_14 : decode prog_19_method_152_code 14 = .ok (.ireturn, 1) := by decide +kernel
theorem sd_isLatin1_0 : decode prog_19_method_154_code 0 = .ok (.getstatic 38, 3) := by decide +kernel
theorem sd_isLatin1_3 : decode prog_19_method_154_code 3 = .ok (.ifCond .eq 14, 3) := by decide +kernel
theorem sd_isLatin1_6 : decode prog_19_method_154_code 6 = .ok (.aload_n 0, 1) := by decide +kernel
theorem sd_isLatin1_7 : decode prog_19_method_154_code 7 = .ok (.getfield 15, 3) := by decide +kernel
theorem sd_isLatin1_10 : decode prog_19_method_154_code 10 = .ok (.ifCond .ne 7, 3) := by decide +kernel
theorem sd_isLatin1_13 : decode prog_19_method_154_code 13 = .ok (.iconst 1, 1) := by decide +kernel
theorem sd_isLatin1_14 : decode prog_19_method_154_code 14 = .ok (.goto 4, 3) := by decide +kernel
theorem sd_isLatin1_17 : decode prog_19_method_154_code 17 = .ok (.iconst 0, 1) := by decide +kernel
theorem sd_isLatin1_18 : decode prog_19_method_154_code 18 = .ok (.ireturn, 1) := by decide +kernel
theorem sd_length_0 : decode prog_19_method_54_code 0 = .ok (.aload_n 0, 1) := by decide +kernel
theorem sd_length_1 : decode prog_19_method_54_code 1 = .ok (.getfield 9, 3) := by decide +kernel
theorem sd_length_4 : decode prog_19_method_54_code 4 = .ok (.arraylength, 1) := by decide +kernel
theorem sd_length_5 : decode prog_19_method_54_code 5 = .ok (.aload_n 0, 1) := by decide +kernel
theorem sd_length_6 : decode prog_19_method_54_code 6 = .ok (.invokevirtual 335, 3) := by decide +kernel
theorem sd_length_9 : decode prog_19_method_54_code 9 = .ok (.ishr, 1) := by decide +kernel
theorem sd_length_10 : decode prog_19_method_54_code 10 = .ok (.ireturn, 1) := by decide +kernel
theorem sd_pidx_0 : decode prog_24_method_11_code 0 = .ok (.iload_n 0, 1) := by decide +kernel
theorem sd_pidx_1 : decode prog_24_method_11_code 1 = .ok (.ifCond .lt 8, 3) := by decide +kernel
theorem sd_pidx_4 : decode prog_24_method_11_code 4 = .ok (.iload_n 0, 1) := by decide +kernel
theorem sd_pidx_5 : decode prog_24_method_11_code 5 = .ok (.iload_n 1, 1) := by decide +kernel
theorem sd_pidx_6 : decode prog_24_method_11_code 6 = .ok (.if_icmp .lt 10, 3) := by decide +kernel
theorem sd_pidx_9 : decode prog_24_method_11_code 9 = .ok (.aload_n 2, 1) := by decide +kernel
theorem sd_pidx_10 : decode prog_24_method_11_code 10 = .ok (.iload_n 0, 1) := by decide +kernel
theorem sd_pidx_11 : decode prog_24_method_11_code 11 = .ok (.iload_n 1, 1) := by decide +kernel
theorem sd_pidx_12 : decode prog_24_method_11_code 12 = .ok (.invokestatic 95, 3) := by decide +kernel
theorem sd_pidx_15 : decode prog_24_method_11_code 15 = .ok (.athrow, 1) := by decide +kernel
theorem sd_pidx_16 : decode prog_24_method_11_code 16 = .ok (.iload_n 0, 1) := by decide +kernel
theorem sd_pidx_17 : decode prog_24_method_11_code 17 = .ok (.ireturn, 1) := by decide +kernel
theorem sd_cidx_0 : decode prog_19_method_155_code 0 = .ok (.iload_n 0, 1) := by decide +kernel
theorem sd_cidx_1 : decode prog_19_method_155_code 1 = .ok (.iload_n 1, 1) := by decide +kernel
theorem sd_cidx_2 : decode prog_19_method_155_code 2 = .ok (.getstatic 1053, 3) := by decide +kernel
theorem sd_cidx_5 : decode prog_19_method_155_code 5 = .ok (.invokestatic 1059, 3) := by decide +kernel
theorem sd_cidx_8 : decode prog_19_method_155_code 8 = .ok (.pop, 1) := by decide +kernel
theorem sd_cidx_9 : decode prog_19_method_155_code 9 = .ok (.return_, 1) := by decide +kernel
theorem sd_lchr_0 : decode prog_20_method_2_code 0 = .ok (.iload_n 1, 1) := by decide +kernel
theorem sd_lchr_1 : decode prog_20_method_2_code 1 = .ok (.aload_n 0, 1) := by decide +kernel
theorem sd_lchr_2 : decode prog_20_method_2_code 2 = .ok (.arraylength, 1) := by decide +kernel
theorem sd_lchr_3 : decode prog_20_method_2_code 3 = .ok (.invokestatic 9, 3) := by decide +kernel
theorem sd_lchr_6 : decode prog_20_method_2_code 6 = .ok (.aload_n 0, 1) := by decide +kernel
theorem sd_lchr_7 : decode prog_20_method_2_code 7 = .ok (.iload_n 1, 1) := by decide +kernel
theorem sd_lchr_8 : decode prog_20_method_2_code 8 = .ok (.baload, 1) := by decide +kernel
theorem sd_lchr_9 : decode prog_20_method_2_code 9 = .ok (.sipush 255, 3) := by decide +kernel
theorem sd_lchr_12 : decode prog_20_method_2_code 12 = .ok (.iand, 1) := by decide +kernel
theorem sd_lchr_13 : decode prog_20_method_2_code 13 = .ok (.i2c, 1) := by decide +kernel
theorem sd_lchr_14 : decode prog_20_method_2_code 14 = .ok (.ireturn, 1) := by decide +kernel
theorem sd_chr_0 : decode prog_19_method_56_code 0 = .ok (.aload_n 0, 1) := by decide +kernel
theorem sd_chr_1 : decode prog_19_method_56_code 1 = .ok (.invokevirtual 492, 3) := by decide +kernel
theorem sd_chr_4 : decode prog_19_method_56_code 4 = .ok (.ifCond .eq 12, 3) := by decide +kernel
theorem sd_chr_7 : decode prog_19_method_56_code 7 = .ok (.aload_n 0, 1) := by decide +kernel
theorem sd_chr_8 : decode prog_19_method_56_code 8 = .ok (.getfield 9, 3) := by decide +kernel
theorem sd_chr_11 : decode prog_19_method_56_code 11 = .ok (.iload_n 1, 1) := by decide +kernel
theorem sd_chr_12 : decode prog_19_method_56_code 12 = .ok (.invokestatic 495, 3) := by decide +kernel
theorem sd_chr_15 : decode prog_19_method_56_code 15 = .ok (.ireturn, 1) := by decide +kernel
theorem sd_chr_16 : decode prog_19_method_56_code 16 = .ok (.aload_n 0, 1) := by decide +kernel
theorem sd_chr_17 : decode prog_19_method_56_code 17 = .ok (.getfield 9, 3) := by decide +kernel
theorem sd_chr_20 : decode prog_19_method_56_code 20 = .ok (.iload_n 1, 1) := by decide +kernel
theorem sd_chr_21 : decode prog_19_method_56_code 21 = .ok (.invokestatic 498, 3) := by decide +kernel
theorem sd_chr_24 : decode prog_19_method_56_code 24 = .ok (.ireturn, 1) := by decide +kernel
theorem sd_can_0 : decode prog_20_method_4_code 0 = .ok (.iload_n 0, 1) := by decide +kernel
theorem sd_can_1 : decode prog_20_method_4_code 1 = .ok (.ifCond .lt 14, 3) := by decide +kernel
theorem sd_can_4 : decode prog_20_method_4_code 4 = .ok (.iload_n 0, 1) := by decide +kernel
theorem sd_can_5 : decode prog_20_method_4_code 5 = .ok (.sipush 255, 3) := by decide +kernel
theorem sd_can_8 : decode prog_20_method_4_code 8 = .ok (.if_icmp .gt 7, 3) := by decide +kernel
theorem sd_can_11 : decode prog_20_method_4_code 11 = .ok (.iconst 1, 1) := by decide +kernel
theorem sd_can_12 : decode prog_20_method_4_code 12 = .ok (.goto 4, 3) := by decide +kernel
theorem sd_can_15 : decode prog_20_method_4_code 15 = .ok (.iconst 0, 1) := by decide +kernel
theorem sd_can_16 : decode prog_20_method_4_code 16 = .ok (.ireturn, 1) := by decide +kernel
theorem sd_max_0 : decode prog_18_method_65_code 0 = .ok (.iload_n 0, 1) := by decide +kernel
theorem sd_max_1 : decode prog_18_method_65_code 1 = .ok (.iload_n 1, 1) := by decide +kernel
theorem sd_max_2 : decode prog_18_method_65_code 2 = .ok (.if_icmp .lt 7, 3) := by decide +kernel
theorem sd_max_5 : decode prog_18_method_65_code 5 = .ok (.iload_n 0, 1) := by decide +kernel
theorem sd_max_6 : decode prog_18_method_65_code 6 = .ok (.goto 4, 3) := by decide +kernel
theorem sd_max_9 : decode prog_18_method_65_code 9 = .ok (.iload_n 1, 1) := by decide +kernel
theorem sd_max_10 : decode prog_18_method_65_code 10 = .ok (.ireturn, 1) := by decide +kernel
theorem sd_min_0 : decode prog_18_method_69_code 0 = .ok (.iload_n 0, 1) := by decide +kernel
theorem sd_min_1 : decode prog_18_method_69_code 1 = .ok (.iload_n 1, 1) := by decide +kernel
theorem sd_min_2 : decode prog_18_method_69_code 2 = .ok (.if_icmp .gt 7, 3) := by decide +kernel
theorem sd_min_5 : decode prog_18_method_69_code 5 = .ok (.iload_n 0, 1) := by decide +kernel
theorem sd_min_6 : decode prog_18_method_69_code 6 = .ok (.goto 4, 3) := by decide +kernel
theorem sd_min_9 : decode prog_18_method_69_code 9 = .ok (.iload_n 1, 1) := by decide +kernel
theorem sd_min_10 : decode prog_18_method_69_code 10 = .ok (.ireturn, 1) := by decide +kernel
theorem sd_ioc_0 : decode prog_20_method_23_code 0 = .ok (.iload_n 1, 1) := by decide +kernel
theorem sd_ioc_1 : decode prog_20_method_23_code 1 = .ok (.i2b, 1) := by decide +kernel
theorem sd_ioc_2 : decode prog_20_method_23_code 2 = .ok (.istore 4, 2) := by decide +kernel
theorem sd_ioc_4 : decode prog_20_method_23_code 4 = .ok (.iload_n 2, 1) := by decide +kernel
theorem sd_ioc_5 : decode prog_20_method_23_code 5 = .ok (.istore 5, 2) := by decide +kernel
theorem sd_ioc_7 : decode prog_20_method_23_code 7 = .ok (.iload 5, 2) := by decide +kernel
theorem sd_ioc_9 : decode prog_20_method_23_code 9 = .ok (.iload_n 3, 1) := by decide +kernel
theorem sd_ioc_10 : decode prog_20_method_23_code 10 = .ok (.if_icmp .ge 21, 3) := by decide +kernel
theorem sd_ioc_13 : decode prog_20_method_23_code 13 = .ok (.aload_n 0, 1) := by decide +kernel
theorem sd_ioc_14 : decode prog_20_method_23_code 14 = .ok (.iload 5, 2) := by decide +kernel
theorem sd_ioc_16 : decode prog_20_method_23_code 16 = .ok (.baload, 1) := by decide +kernel
theorem sd_ioc_17 : decode prog_20_method_23_code 17 = .ok (.iload 4, 2) := by decide +kernel
theorem sd_ioc_19 : decode prog_20_method_23_code 19 = .ok (.if_icmp .ne 6, 3) := by decide +kernel
theorem sd_ioc_22 : decode prog_20_method_23_code 22 = .ok (.iload 5, 2) := by decide +kernel
theorem sd_ioc_24 : decode prog_20_method_23_code 24 = .ok (.ireturn, 1) := by decide +kernel
theorem sd_ioc_25 : decode prog_20_method_23_code 25 = .ok (.iinc 5 1, 3) := by decide +kernel
theorem sd_ioc_28 : decode prog_20_method_23_code 28 = .ok (.goto (-21), 3) := by decide +kernel
theorem sd_ioc_31 : decode prog_20_method_23_code 31 = .ok (.iconst (-1), 1) := by decide +kernel
theorem sd_ioc_32 : decode prog_20_method_23_code 32 = .ok (.ireturn, 1) := by decide +kernel
theorem sd_lix_0 : decode prog_20_method_22_code 0 = .ok (.iload_n 1, 1) := by decide +kernel
theorem sd_lix_1 : decode prog_20_method_22_code 1 = .ok (.invokestatic 88, 3) := by decide +kernel
theorem sd_lix_4 : decode prog_20_method_22_code 4 = .ok (.ifCond .ne 5, 3) := by decide +kernel
theorem sd_lix_7 : decode prog_20_method_22_code 7 = .ok (.iconst (-1), 1) := by decide +kernel
theorem sd_lix_8 : decode prog_20_method_22_code 8 = .ok (.ireturn, 1) := by decide +kernel
theorem sd_lix_9 : decode prog_20_method_22_code 9 = .ok (.iload_n 2, 1) := by decide +kernel
theorem sd_lix_10 : decode prog_20_method_22_code 10 = .ok (.iconst 0, 1) := by decide +kernel
theorem sd_lix_11 : decode prog_20_method_22_code 11 = .ok (.invokestatic 92, 3) := by decide +kernel
theorem sd_lix_14 : decode prog_20_method_22_code 14 = .ok (.istore_n 2, 1) := by decide +kernel
theorem sd_lix_15 : decode prog_20_method_22_code 15 = .ok (.iload_n 3, 1) := by decide +kernel
theorem sd_lix_16 : decode prog_20_method_22_code 16 = .ok (.aload_n 0, 1) := by decide +kernel
theorem sd_lix_17 : decode prog_20_method_22_code 17 = .ok (.arraylength, 1) := by decide +kernel
theorem sd_lix_18 : decode prog_20_method_22_code 18 = .ok (.invokestatic 38, 3) := by decide +kernel
theorem sd_lix_21 : decode prog_20_method_22_code 21 = .ok (.istore_n 3, 1) := by decide +kernel
theorem sd_lix_22 : decode prog_20_method_22_code 22 = .ok (.iload_n 2, 1) := by decide +kernel
theorem sd_lix_23 : decode prog_20_method_22_code 23 = .ok (.iload_n 3, 1) := by decide +kernel
theorem sd_lix_24 : decode prog_20_method_22_code 24 = .ok (.if_icmp .lt 5, 3) := by decide +kernel
theorem sd_lix_27 : decode prog_20_method_22_code 27 = .ok (.iconst (-1), 1) := by decide +kernel
theorem sd_lix_28 : decode prog_20_method_22_code 28 = .ok (.ireturn, 1) := by decide +kernel
theorem sd_lix_29 : decode prog_20_method_22_code 29 = .ok (.aload_n 0, 1) := by decide +kernel
theorem sd_lix_30 : decode prog_20_method_22_code 30 = .ok (.iload_n 1, 1) := by decide +kernel
theorem sd_lix_31 : decode prog_20_method_22_code 31 = .ok (.iload_n 2, 1) := by decide +kernel
theorem sd_lix_32 : decode prog_20_method_22_code 32 = .ok (.iload_n 3, 1) := by decide +kernel
theorem sd_lix_33 : decode prog_20_method_22_code 33 = .ok (.invokestatic 95, 3) := by decide +kernel
theorem sd_lix_36 : decode prog_20_method_22_code 36 = .ok (.ireturn, 1) := by decide +kernel
theorem sd_ix2_0 : decode prog_19_method_80_code 0 = .ok (.aload_n 0, 1) := by decide +kernel
theorem sd_ix2_1 : decode prog_19_method_80_code 1 = .ok (.invokevirtual 492, 3) := by decide +kernel
theorem sd_ix2_4 : decode prog_19_method_80_code 4 = .ok (.ifCond .eq 19, 3) := by decide +kernel
theorem sd_ix2_7 : decode prog_19_method_80_code 7 = .ok (.aload_n 0, 1) := by decide +kernel
theorem sd_ix2_8 : decode prog_19_method_80_code 8 = .ok (.getfield 9, 3) := by decide +kernel
theorem sd_ix2_11 : decode prog_19_method_80_code 11 = .ok (.iload_n 1, 1) := by decide +kernel
theorem sd_ix2_12 : decode prog_19_method_80_code 12 = .ok (.iload_n 2, 1) := by decide +kernel
theorem sd_ix2_13 : decode prog_19_method_80_code 13 = .ok (.aload_n 0, 1) := by decide +kernel
theorem sd_ix2_14 : decode prog_19_method_80_code 14 = .ok (.invokevirtual 505, 3) := by decide +kernel
theorem sd_ix2_17 : decode prog_19_method_80_code 17 = .ok (.invokestatic 637, 3) := by decide +kernel
theorem sd_ix2_20 : decode prog_19_method_80_code 20 = .ok (.goto 16, 3) := by decide +kernel
theorem sd_ix2_23 : decode prog_19_method_80_code 23 = .ok (.aload_n 0, 1) := by decide +kernel
theorem sd_ix2_24 : decode prog_19_method_80_code 24 = .ok (.getfield 9, 3) := by decide +kernel
theorem sd_ix2_27 : decode prog_19_method_80_code 27 = .ok (.iload_n 1, 1) := by decide +kernel
theorem sd_ix2_28 : decode prog_19_method_80_code 28 = .ok (.iload_n 2, 1) := by decide +kernel
theorem sd_ix2_29 : decode prog_19_method_80_code 29 = .ok (.aload_n 0, 1) := by decide +kernel
theorem sd_ix2_30 : decode prog_19_method_80_code 30 = .ok (.invokevirtual 505, 3) := by decide +kernel
theorem sd_ix2_33 : decode prog_19_method_80_code 33 = .ok (.invokestatic 640, 3) := by decide +kernel
theorem sd_ix2_36 : decode prog_19_method_80_code 36 = .ok (.ireturn, 1) := by decide +kernel
theorem sd_ix1_0 : decode prog_19_method_79_code 0 = .ok (.aload_n 0, 1) := by decide +kernel
theorem sd_ix1_1 : decode prog_19_method_79_code 1 = .ok (.iload_n 1, 1) := by decide +kernel
theorem sd_ix1_2 : decode prog_19_method_79_code 2 = .ok (.iconst 0, 1) := by decide +kernel
theorem sd_ix1_3 : decode prog_19_method_79_code 3 = .ok (.invokevirtual 633, 3) := by decide +kernel
theorem sd_ix1_6 : decode prog_19_method_79_code 6 = .ok (.ireturn, 1) := by decide +kernel
theorem sp_coder : (parseMethodDescriptor "()B").map (fun d => d.parameters.length) = some 0 := by decide +kernel
theorem sp_isLatin1 : (parseMethodDescriptor "()Z").map (fun d => d.parameters.length) = some 0 := by decide +kernel
theorem sp_length : (parseMethodDescriptor "()I").map (fun d => d.parameters.length) = some 0 := by decide +kernel
theorem sp_pidx : (parseMethodDescriptor "(IILjava/util/function/BiFunction;)I").map (fun d => d.parameters.length) = some 3 := by decide +kernel
theorem sp_cidx : (parseMethodDescriptor "(II)V").map (fun d => d.parameters.length) = some 2 := by decide +kernel
theorem sp_lchr : (parseMethodDescriptor "([BI)C").map (fun d => d.parameters.length) = some 2 := by decide +kernel
theorem sp_chr : (parseMethodDescriptor "(I)C").map (fun d => d.parameters.length) = some 1 := by decide +kernel
theorem sp_can : (parseMethodDescriptor "(I)Z").map (fun d => d.parameters.length) = some 1 := by decide +kernel
theorem sp_max : (parseMethodDescriptor "(II)I").map (fun d => d.parameters.length) = some 2 := by decide +kernel
theorem sp_min : (parseMethodDescriptor "(II)I").map (fun d => d.parameters.length) = some 2 := by decide +kernel
theorem sp_ioc : (parseMethodDescriptor "([BIII)I").map (fun d => d.parameters.length) = some 4 := by decide +kernel
theorem sp_lix : (parseMethodDescriptor "([BIII)I").map (fun d => d.parameters.length) = some 4 := by decide +kernel
theorem sp_ix2 : (parseMethodDescriptor "(II)I").map (fun d => d.parameters.length) = some 2 := by decide +kernel
theorem sp_ix1 : (parseMethodDescriptor "(I)I").map (fun d => d.parameters.length) = some 1 := by decide +kernel
theorem sj_nat {x : Int32} (h : 0 ≤ x) : ∃ k : Fin (2 ^ 31), x = nI k.val := by
  have h0 : (0 : Int) ≤ x.toInt := by simpa using Int32.le_iff_toInt_le.mp h
  have h1 := Int32.toInt_lt x
  refine ⟨⟨x.toInt.toNat, by omega⟩, ?_⟩
  apply Int32.toInt_inj.mp
  show x.toInt = (nI x.toInt.toNat).toInt
  rw [nI_toInt (by omega)]
  omega
section SJ
variable {l : Launch} {ad : Nat → Nat}
theorem sj_met {y : MethodName} {bytes : ByteArray} {mL d : Nat} {rt : Option FieldType} {as : List Value} {v : Option Value} (hpl : plainFor y = true) (hlen : (lg_sl as).length ≤ mL)
    (hW : ∀ {p : Program} {e : Env} {s : State} {m : MethodId} {args : Array Value} {below : List Frame} {meth : Method} {c : Code} {Q : State → Prop}, sj_C ad p (sj_rm d) s m args meth c bytes y.cls mL rt → Q = MQ below (sj_Qc v) args s 0 0 (fun _ => False) → ∀ la : Array Slot, lv_has la mL (lv_args 0 as) → W p l e (sj_rm d) s m args below meth c s.heap [] 0 0 Q (F0 m 0 la [])) :
    Met l y (sn_wd y bytes mL rt) (sj_rm d) (sj_Pc ad as) (sj_Qc v) 0 0 (fun _ => False) := by
  refine mt_ofW (cc := bytes) (maxL := mL) (ret := rt) hpl rfl ?_
  intro p e s m args below meth c s₁ B hml hv
  obtain ⟨rfl, hSK⟩ := hv
  have hts := atoms_spec (ws := sn_wd y bytes mL rt) B.pre
  have hown : s.vm.findClass y.cls = some m.cls := findClass_of_methodNamed B.named
  have hl := lv_entry as (n := mL) hlen
  rw [lg_entry_eq]
  exact hW ⟨B.exec, B.bytes, hml, hown, fun w hw => hts w (List.mem_cons_of_mem _ hw), B.returns, B.notSynchronized, hSK⟩ rfl _ hl
section SJC
variable {p : Program} {e : Env} {R : Room} {s : State} {m : MethodId} {args : Array Value} {below : List Frame} {meth : Method} {c : Code} {Q : State → Prop} {H : Heap} {locs : List Loc} {cells slots pc : Nat} {la : Array Slot}
theorem sj_after {st0 rest : List Value} {a : Array Value} {v : Option Value} (hr : va_Run p l e R s m args below meth c H locs cells slots 0 0 (F0 m pc la st0) rest (sj_Qc v a) (fun _ => False)) (kk : W p l e R s m args below meth c H locs cells slots Q (F0 m (pc + 3) la (v.toList ++ rest))) : W p l e R s m args below meth c H locs cells slots Q (F0 m pc la st0) := by
  intro T hT X
  obtain ⟨v', st₀, t, T', L, h0, X', hLc, e1, e2, ⟨hv, hh⟩, st⟩ := hr T hT X
  have hL : L = [] := List.eq_nil_iff_forall_not_mem.mpr (fun q hq => hLc q hq)
  subst hL
  obtain ⟨t2, a1, b1⟩ := kk T' (by rw [e1, hh, h0]) (by simpa using X')
  refine ⟨t2, st t2 ?_, b1⟩
  have hv2 : v' = v := Outcome.returned.inj hv
  rw [hv2]
  exact a1
theorem sj_callS {cc : ByteArray} {own : String} {nL : Nat} {rt : Option FieldType} {y : MethodName} {bytes : ByteArray} {mL' d' idx : Nat} {rt' : Option FieldType} {as st : List Value} {v : Option Value} (C : sj_C ad p R s m args meth c cc own nL rt) (hd : decode cc pc = .ok (.invokestatic idx, 3)) (hM : Met l y (sn_wd y bytes mL' rt') (sj_rm d') (sj_Pc ad as) (sj_Qc v) 0 0 (fun _ => False)) (hcode : Cond.code y bytes mL' rt' ∈ sm_wl) (hini : Cond.initialized y.cls ∈ sm_wl) (hlink : Cond.methodLink own idx y ∈ sm_wl) (hstat : Cond.static y ∈ sm_wl) (hne : y.cls ≠ "java/lang/invoke/MethodHandle" ∧ y.cls ≠ "java/lang/invoke/VarHandle") (hnp : (parseMethodDescriptor y.desc).map (fun d => d.parameters.length) = some as.length) (hfr : d' + 1 ≤ R.frames) (hlo : 8 + (mL' + 11) + 40 * d' ≤ R.locals) (hla : la.size = nL) (hst : (st.map fun v => v.category).sum ≤ 8) (kk : W p l e R s m args below meth c s.heap [] 0 0 Q (F0 m (pc + 3) la (v.toList ++ st))) : W p l e R s m args below meth c s.heap [] 0 0 Q (F0 m pc la (as.reverse ++ st)) := by
  refine sj_after (va_runS (As := as) (rest := st) ⟨C.1, C.2.1, C.2.2.1, C.2.2.2.1, C.2.2.2.2.1⟩ hM ⟨callB_of as.length C.2.2.2.2.1 (sn_goodw hcode) rfl rfl rfl (C.2.2.2.2.1 _ hini) (C.2.2.2.2.1 _ hlink) ⟨hne.1, hne.2, hnp⟩ ⟨hfr, hlo⟩, C.2.2.2.2.1 _ hstat⟩ ⟨sj_blind, fun U hU hW => ⟨rfl, by show sn_SK ad U U.heap; rw [hU]; exact (sn_SKok ad).1 s U s.heap hW C.2.2.2.2.2.2.2⟩⟩ rfl rfl hla rfl (lv_room hst) hd ⟨Nat.zero_le _, Nat.zero_le _⟩) kk
theorem sj_callV {cc : ByteArray} {own : String} {nL : Nat} {rt : Option FieldType} {y : MethodName} {bytes : ByteArray} {mL' d' idx : Nat} {rt' : Option FieldType} {as st : List Value} {v : Option Value} {i : Nat} (hi : i < 22) (C : sj_C ad p R s m args meth c cc own nL rt) (hd : decode cc pc = .ok (.invokevirtual idx, 3)) (hM : Met l y (sn_wd y bytes mL' rt') (sj_rm d') (sj_Pc ad (.ref (ad (1000 + i)) :: as)) (sj_Qc v) 0 0 (fun _ => False)) (hcode : Cond.code y bytes mL' rt' ∈ sm_wl) (hini : Cond.initialized y.cls ∈ sm_wl) (hlink : Cond.methodLink own idx y ∈ sm_wl) (hinst : Cond.instanceMethod y ∈ sm_wl) (hsel : Cond.selects "java/lang/String" y y ∈ sm_wl) (hne : y.cls ≠ "java/lang/invoke/MethodHandle" ∧ y.cls ≠ "java/lang/invoke/VarHandle") (hnp : (parseMethodDescriptor y.desc).map (fun d => d.parameters.length) = some as.length) (hfr : d' + 1 ≤ R.frames) (hlo : 8 + (mL' + 11) + 40 * d' ≤ R.locals) (hla : la.size = nL) (hst : (st.map fun v => v.category).sum ≤ 8) (kk : W p l e R s m args below meth c s.heap [] 0 0 Q (F0 m (pc + 3) la (v.toList ++ st))) : W p l e R s m args below meth c s.heap [] 0 0 Q (F0 m pc la (as.reverse ++ .ref (ad (1000 + i)) :: st)) := by
  refine sj_after (va_runV (C := "java/lang/String") (b := ad (1000 + i)) (As := as) (rest := st) ⟨C.1, C.2.1, C.2.2.1, C.2.2.2.1, C.2.2.2.2.1⟩ hM ⟨callB_of as.length C.2.2.2.2.1 (sn_goodw hcode) rfl rfl rfl (C.2.2.2.2.1 _ hini) (C.2.2.2.2.1 _ hlink) ⟨hne.1, hne.2, hnp⟩ ⟨hfr, hlo⟩, C.2.2.2.2.1 _ hinst, C.2.2.2.2.1 _ hsel⟩ ⟨sj_blind, vk_recv (adK := fun k => ad (1000 + k)) (adV := fun k => ad (1100 + k)) (i := i) C.2.2.2.2.2.2.2.1 hi va_S.rf, fun U hU hW => ⟨rfl, by show sn_SK ad U U.heap; rw [hU]; exact (sn_SKok ad).1 s U s.heap hW C.2.2.2.2.2.2.2⟩⟩ rfl rfl hla rfl (lv_room hst) hd ⟨Nat.zero_le _, Nat.zero_le _⟩) kk
end SJC
theorem sc_coder {i : Nat} (hi : i < 22) : Met l ⟨"java/lang/String", "coder", "()B"⟩ (sn_wd ⟨"java/lang/String", "coder", "()B"⟩ prog_19_method_152_code 1 (some .byte)) (sj_rm 0) (sj_Pc ad [(.ref (ad (1000 + i)))]) (sj_Qc (some (.int 0))) 0 0 (fun _ => False) :=
  sj_met (by decide +kernel) (Nat.le_of_ble_eq_true rfl) (fun C hQ la hl => by
    subst hQ
    refine va_gets C.1 C.2.1 C.2.2.2.2.2.2.2.2.2.1 va_S.rf C.2.2.2.1 (C.2.2.2.2.1 _ sw_676) (fun _ q => q) sd_coder_0 ?_
    refine lv_if_eq (tgt := 13) C.1 C.2.1 sd_coder_3 (by decide) (fun h => absurd h (by decide)) (fun _ => ?_)
    refine lv_aload_n C.1 C.2.1 sd_coder_6 rfl (lv_at hl 0 rfl) ?_
    refine vk_getf C.1 C.2.1 (C.2.2.2.2.2.2.2.1.1 i hi).2.1 va_S.rf C.2.2.2.1 (C.2.2.2.2.1 _ sw_2086) (fun _ q => q) sd_coder_7 ?_
    refine lv_goto (tgt := 14) C.1 C.2.1 sd_coder_10 (by decide) ?_
    exact W.zret C.1 C.2.1 C.2.2.2.2.2.1 rfl (fun t ht hw => ⟨rfl, ht⟩) (fun q hq => (by cases hq)) sd_coder_14 C.2.2.2.2.2.2.1)
theorem sc_isLatin1 {i : Nat} (hi : i < 22) : Met l ⟨"java/lang/String", "isLatin1", "()Z"⟩ (sn_wd ⟨"java/lang/String", "isLatin1", "()Z"⟩ prog_19_method_154_code 1 (some .boolean)) (sj_rm 0) (sj_Pc ad [(.ref (ad (1000 + i)))]) (sj_Qc (some (.int 1))) 0 0 (fun _ => False) :=
  sj_met (by decide +kernel) (Nat.le_of_ble_eq_true rfl) (fun C hQ la hl => by
    subst hQ
    refine va_gets C.1 C.2.1 C.2.2.2.2.2.2.2.2.2.1 va_S.rf C.2.2.2.1 (C.2.2.2.2.1 _ sw_676) (fun _ q => q) sd_isLatin1_0 ?_
    refine lv_if_eq (tgt := 17) C.1 C.2.1 sd_isLatin1_3 (by decide) (fun h => absurd h (by decide)) (fun _ => ?_)
    refine lv_aload_n C.1 C.2.1 sd_isLatin1_6 rfl (lv_at hl 0 rfl) ?_
    refine vk_getf C.1 C.2.1 (C.2.2.2.2.2.2.2.1.1 i hi).2.1 va_S.rf C.2.2.2.1 (C.2.2.2.2.1 _ sw_2086) (fun _ q => q) sd_isLatin1_7 ?_
    refine lv_if_ne (tgt := 17) C.1 C.2.1 sd_isLatin1_10 (by decide) (fun h => absurd rfl h) (fun _ => ?_)
    refine lv_iconst (v := 1) C.1 C.2.1 sd_isLatin1_13 (by decide) ?_
    refine lv_goto (tgt := 18) C.1 C.2.1 sd_isLatin1_14 (by decide) ?_
    exact W.zret C.1 C.2.1 C.2.2.2.2.2.1 rfl (fun t ht hw => ⟨rfl, ht⟩) (fun q hq => (by cases hq)) sd_isLatin1_18 C.2.2.2.2.2.2.1)
theorem sc_length {i : Nat} (hi : i < 22) : Met l ⟨"java/lang/String", "length", "()I"⟩ (sn_wd ⟨"java/lang/String", "length", "()I"⟩ prog_19_method_54_code 1 (some .int)) (sj_rm 1) (sj_Pc ad [(.ref (ad (1000 + i)))]) (sj_Qc (some (.int (nI (sn_len.getD i 0))))) 0 0 (fun _ => False) :=
  sj_met (by decide +kernel) (Nat.le_of_ble_eq_true rfl) (fun C hQ la hl => by
    subst hQ
    refine lv_aload_n C.1 C.2.1 sd_length_0 rfl (lv_at hl 0 rfl) ?_
    refine vk_getf C.1 C.2.1 (C.2.2.2.2.2.2.2.1.1 i hi).2.2.1 va_S.rf C.2.2.2.1 (C.2.2.2.2.1 _ sw_2085) (fun _ q => q) sd_length_1 ?_
    refine va_tlen C.1 C.2.1 (C.2.2.2.2.2.2.2.1.1 i hi).2.2.2 va_S.rf rfl sd_length_4 ?_
    refine lv_aload_n C.1 C.2.1 sd_length_5 rfl (lv_at hl 0 rfl) ?_
    refine sj_callV (y := ⟨"java/lang/String", "coder", "()B"⟩) (bytes := prog_19_method_152_code) (mL' := 1) (rt' := (some .byte)) (d' := 0) (as := []) (st := [.int (nI (sn_len.getD i 0))]) hi C sd_length_6 (sc_coder hi) sw_675 sw_124 sw_672 sw_673 sw_674 ⟨by decide, by decide⟩ sp_coder (Nat.le_of_ble_eq_true rfl) (Nat.le_of_ble_eq_true rfl) hl.1 (Nat.le_of_ble_eq_true rfl) ?_
    refine lv_ishr C.1 C.2.1 sd_length_9 ?_
    rw [show (nI (sn_len.getD i 0) >>> ((0 : Int32) &&& 31)) = nI (sn_len.getD i 0) from sj_shr i hi]
    exact W.zret C.1 C.2.1 C.2.2.2.2.2.1 rfl (fun t ht hw => ⟨rfl, ht⟩) (fun q hq => (by cases hq)) sd_length_10 C.2.2.2.2.2.2.1)
theorem sc_pidx {x n : Int32} {q : Nat} (h0 : ¬ x < 0) (h1 : x < n) : Met l ⟨"jdk/internal/util/Preconditions", "checkIndex", "(IILjava/util/function/BiFunction;)I"⟩ (sn_wd ⟨"jdk/internal/util/Preconditions", "checkIndex", "(IILjava/util/function/BiFunction;)I"⟩ prog_24_method_11_code 3 (some .int)) (sj_rm 0) (sj_Pc ad [.int x, .int n, .ref q]) (sj_Qc (some (.int x))) 0 0 (fun _ => False) :=
  sj_met (by decide +kernel) (Nat.le_of_ble_eq_true rfl) (fun C hQ la hl => by
    subst hQ
    refine lv_iload_n C.1 C.2.1 sd_pidx_0 rfl (lv_at hl 0 rfl) ?_
    refine lv_if_lt (tgt := 9) C.1 C.2.1 sd_pidx_1 (by decide) (fun h => absurd h h0) (fun _ => ?_)
    refine lv_iload_n C.1 C.2.1 sd_pidx_4 rfl (lv_at hl 0 rfl) ?_
    refine lv_iload_n C.1 C.2.1 sd_pidx_5 rfl (lv_at hl 1 rfl) ?_
    refine lv_icmp_lt (tgt := 16) C.1 C.2.1 sd_pidx_6 (by decide) (fun _ => ?_) (fun h => absurd h1 h)
    refine lv_iload_n C.1 C.2.1 sd_pidx_16 rfl (lv_at hl 0 rfl) ?_
    exact W.zret C.1 C.2.1 C.2.2.2.2.2.1 rfl (fun t ht hw => ⟨rfl, ht⟩) (fun q hq => (by cases hq)) sd_pidx_17 C.2.2.2.2.2.2.1)
theorem sc_pidxN {x n : Int32} (h0 : ¬ x < 0) (h1 : x < n) : Met l ⟨"jdk/internal/util/Preconditions", "checkIndex", "(IILjava/util/function/BiFunction;)I"⟩ (sn_wd ⟨"jdk/internal/util/Preconditions", "checkIndex", "(IILjava/util/function/BiFunction;)I"⟩ prog_24_method_11_code 3 (some .int)) (sj_rm 0) (sj_Pc ad [.int x, .int n, .null]) (sj_Qc (some (.int x))) 0 0 (fun _ => False) :=
  sj_met (by decide +kernel) (Nat.le_of_ble_eq_true rfl) (fun C hQ la hl => by
    subst hQ
    refine lv_iload_n C.1 C.2.1 sd_pidx_0 rfl (lv_at hl 0 rfl) ?_
    refine lv_if_lt (tgt := 9) C.1 C.2.1 sd_pidx_1 (by decide) (fun h => absurd h h0) (fun _ => ?_)
    refine lv_iload_n C.1 C.2.1 sd_pidx_4 rfl (lv_at hl 0 rfl) ?_
    refine lv_iload_n C.1 C.2.1 sd_pidx_5 rfl (lv_at hl 1 rfl) ?_
    refine lv_icmp_lt (tgt := 16) C.1 C.2.1 sd_pidx_6 (by decide) (fun _ => ?_) (fun h => absurd h1 h)
    refine lv_iload_n C.1 C.2.1 sd_pidx_16 rfl (lv_at hl 0 rfl) ?_
    exact W.zret C.1 C.2.1 C.2.2.2.2.2.1 rfl (fun t ht hw => ⟨rfl, ht⟩) (fun q hq => (by cases hq)) sd_pidx_17 C.2.2.2.2.2.2.1)
theorem sc_cidx {x n : Int32} (h0 : ¬ x < 0) (h1 : x < n) : Met l ⟨"java/lang/String", "checkIndex", "(II)V"⟩ (sn_wd ⟨"java/lang/String", "checkIndex", "(II)V"⟩ prog_19_method_155_code 2 none) (sj_rm 1) (sj_Pc ad [.int x, .int n]) (sj_Qc none) 0 0 (fun _ => False) :=
  sj_met (by decide +kernel) (Nat.le_of_ble_eq_true rfl) (fun C hQ la hl => by
    subst hQ
    refine lv_iload_n C.1 C.2.1 sd_cidx_0 rfl (lv_at hl 0 rfl) ?_
    refine lv_iload_n C.1 C.2.1 sd_cidx_1 rfl (lv_at hl 1 rfl) ?_
    rcases C.2.2.2.2.2.2.2.2.2.2 with hq | ⟨q, hq⟩
    · refine va_gets C.1 C.2.1 hq va_S.rf C.2.2.2.1 (C.2.2.2.2.1 _ sw_692) (fun _ q => q) sd_cidx_2 ?_
      refine sj_callS (y := ⟨"jdk/internal/util/Preconditions", "checkIndex", "(IILjava/util/function/BiFunction;)I"⟩) (bytes := prog_24_method_11_code) (mL' := 3) (rt' := (some .int)) (d' := 0) (as := [.int x, .int n, .null]) (st := []) C sd_cidx_5 (sc_pidxN h0 h1) sw_696 sw_126 sw_694 sw_695 ⟨by decide, by decide⟩ sp_pidx (Nat.le_of_ble_eq_true rfl) (Nat.le_of_ble_eq_true rfl) hl.1 (Nat.le_of_ble_eq_true rfl) ?_
      refine lv_pop C.1 C.2.1 sd_cidx_8 rfl ?_
      exact W.vret C.1 C.2.1 C.2.2.2.2.2.1 (fun t ht hw => ⟨rfl, ht⟩) (fun q hq => (by cases hq)) sd_cidx_9 C.2.2.2.2.2.2.1
    · refine va_gets C.1 C.2.1 hq va_S.rf C.2.2.2.1 (C.2.2.2.2.1 _ sw_692) (fun _ q => q) sd_cidx_2 ?_
      refine sj_callS (y := ⟨"jdk/internal/util/Preconditions", "checkIndex", "(IILjava/util/function/BiFunction;)I"⟩) (bytes := prog_24_method_11_code) (mL' := 3) (rt' := (some .int)) (d' := 0) (as := [.int x, .int n, .ref q]) (st := []) C sd_cidx_5 (sc_pidx (q := q) h0 h1) sw_696 sw_126 sw_694 sw_695 ⟨by decide, by decide⟩ sp_pidx (Nat.le_of_ble_eq_true rfl) (Nat.le_of_ble_eq_true rfl) hl.1 (Nat.le_of_ble_eq_true rfl) ?_
      refine lv_pop C.1 C.2.1 sd_cidx_8 rfl ?_
      exact W.vret C.1 C.2.1 C.2.2.2.2.2.1 (fun t ht hw => ⟨rfl, ht⟩) (fun q hq => (by cases hq)) sd_cidx_9 C.2.2.2.2.2.2.1)
theorem sc_lchr {i k : Nat} (hi : i < 22) (hk : k < sn_len.getD i 0) : Met l ⟨"java/lang/StringLatin1", "charAt", "([BI)C"⟩ (sn_wd ⟨"java/lang/StringLatin1", "charAt", "([BI)C"⟩ prog_20_method_2_code 2 (some .char)) (sj_rm 2) (sj_Pc ad [(.ref (ad (1100 + i))), .int (nI k)]) (sj_Qc (some (.int (nI ((sm_str.getD i []).getD k 0))))) 0 0 (fun _ => False) :=
  sj_met (by decide +kernel) (Nat.le_of_ble_eq_true rfl) (fun C hQ la hl => by
    subst hQ
    refine lv_iload_n C.1 C.2.1 sd_lchr_0 rfl (lv_at hl 1 rfl) ?_
    refine lv_aload_n C.1 C.2.1 sd_lchr_1 rfl (lv_at hl 0 rfl) ?_
    refine va_tlen C.1 C.2.1 (C.2.2.2.2.2.2.2.1.1 i hi).2.2.2 va_S.rf rfl sd_lchr_2 ?_
    refine sj_callS (y := ⟨"java/lang/String", "checkIndex", "(II)V"⟩) (bytes := prog_19_method_155_code) (mL' := 2) (rt' := none) (d' := 1) (as := [.int (nI k), .int (nI (sn_len.getD i 0))]) (st := []) C sd_lchr_3 (sc_cidx (nI_pos (by have := sj_len i hi; omega)) (nI_lt hk (by have := sj_len i hi; omega))) sw_691 sw_124 sw_689 sw_690 ⟨by decide, by decide⟩ sp_cidx (Nat.le_of_ble_eq_true rfl) (Nat.le_of_ble_eq_true rfl) hl.1 (Nat.le_of_ble_eq_true rfl) ?_
    refine lv_aload_n C.1 C.2.1 sd_lchr_6 rfl (lv_at hl 0 rfl) ?_
    refine lv_iload_n C.1 C.2.1 sd_lchr_7 rfl (lv_at hl 1 rfl) ?_
    refine va_tb C.1 C.2.1 (C.2.2.2.2.2.2.2.1.1 i hi).2.2.2 va_S.rf (vp_in_nI hk (by have := sj_len i hi; omega)) rfl sd_lchr_8 ?_
    refine lv_sipush (v := 255) C.1 C.2.1 sd_lchr_9 (by decide) ?_
    refine lv_iand C.1 C.2.1 sd_lchr_12 ?_
    refine lv_i2c (v := (nI ((sm_str.getD i []).getD k 0))) C.1 C.2.1 sd_lchr_13 (by rw [nI_clamp (by have := sj_len i hi; omega)]; exact (sj_chr i hi k hk).1) ?_
    exact W.zret C.1 C.2.1 C.2.2.2.2.2.1 (sj_chr i hi k hk).2 (fun t ht hw => ⟨rfl, ht⟩) (fun q hq => (by cases hq)) sd_lchr_14 C.2.2.2.2.2.2.1)
theorem sc_chr {i k : Nat} (hi : i < 22) (hk : k < sn_len.getD i 0) : Met l ⟨"java/lang/String", "charAt", "(I)C"⟩ (sn_wd ⟨"java/lang/String", "charAt", "(I)C"⟩ prog_19_method_56_code 2 (some .char)) (sj_rm 3) (sj_Pc ad [(.ref (ad (1000 + i))), .int (nI k)]) (sj_Qc (some (.int (nI ((sm_str.getD i []).getD k 0))))) 0 0 (fun _ => False) :=
  sj_met (by decide +kernel) (Nat.le_of_ble_eq_true rfl) (fun C hQ la hl => by
    subst hQ
    refine lv_aload_n C.1 C.2.1 sd_chr_0 rfl (lv_at hl 0 rfl) ?_
    refine sj_callV (y := ⟨"java/lang/String", "isLatin1", "()Z"⟩) (bytes := prog_19_method_154_code) (mL' := 1) (rt' := (some .boolean)) (d' := 0) (as := []) (st := []) hi C sd_chr_1 (sc_isLatin1 hi) sw_685 sw_124 sw_682 sw_683 sw_684 ⟨by decide, by decide⟩ sp_isLatin1 (Nat.le_of_ble_eq_true rfl) (Nat.le_of_ble_eq_true rfl) hl.1 (Nat.le_of_ble_eq_true rfl) ?_
    refine lv_if_eq (tgt := 16) C.1 C.2.1 sd_chr_4 (by decide) (fun h => absurd h (by decide)) (fun _ => ?_)
    refine lv_aload_n C.1 C.2.1 sd_chr_7 rfl (lv_at hl 0 rfl) ?_
    refine vk_getf C.1 C.2.1 (C.2.2.2.2.2.2.2.1.1 i hi).2.2.1 va_S.rf C.2.2.2.1 (C.2.2.2.2.1 _ sw_2085) (fun _ q => q) sd_chr_8 ?_
    refine lv_iload_n C.1 C.2.1 sd_chr_11 rfl (lv_at hl 1 rfl) ?_
    refine sj_callS (y := ⟨"java/lang/StringLatin1", "charAt", "([BI)C"⟩) (bytes := prog_20_method_2_code) (mL' := 2) (rt' := (some .char)) (d' := 2) (as := [(.ref (ad (1100 + i))), .int (nI k)]) (st := []) C sd_chr_12 (sc_lchr hi hk) sw_688 sw_125 sw_686 sw_687 ⟨by decide, by decide⟩ sp_lchr (Nat.le_of_ble_eq_true rfl) (Nat.le_of_ble_eq_true rfl) hl.1 (Nat.le_of_ble_eq_true rfl) ?_
    exact W.zret C.1 C.2.1 C.2.2.2.2.2.1 (sj_chr i hi k hk).2 (fun t ht hw => ⟨rfl, ht⟩) (fun q hq => (by cases hq)) sd_chr_15 C.2.2.2.2.2.2.1)
theorem sc_can {n : Nat} (hn : n < 256) : Met l ⟨"java/lang/StringLatin1", "canEncode", "(I)Z"⟩ (sn_wd ⟨"java/lang/StringLatin1", "canEncode", "(I)Z"⟩ prog_20_method_4_code 1 (some .boolean)) (sj_rm 0) (sj_Pc ad [.int (nI n)]) (sj_Qc (some (.int 1))) 0 0 (fun _ => False) :=
  sj_met (by decide +kernel) (Nat.le_of_ble_eq_true rfl) (fun C hQ la hl => by
    subst hQ
    refine lv_iload_n C.1 C.2.1 sd_can_0 rfl (lv_at hl 0 rfl) ?_
    refine lv_if_lt (tgt := 15) C.1 C.2.1 sd_can_1 (by decide) (fun h => absurd h (nI_pos (by omega))) (fun _ => ?_)
    refine lv_iload_n C.1 C.2.1 sd_can_4 rfl (lv_at hl 0 rfl) ?_
    refine lv_sipush (v := nI 255) C.1 C.2.1 sd_can_5 (by decide) ?_
    refine lv_icmp_gt (tgt := 15) C.1 C.2.1 sd_can_8 (by decide) (fun h => absurd h (nI_nlt (by omega) (by omega))) (fun _ => ?_)
    refine lv_iconst (v := 1) C.1 C.2.1 sd_can_11 (by decide) ?_
    refine lv_goto (tgt := 16) C.1 C.2.1 sd_can_12 (by decide) ?_
    exact W.zret C.1 C.2.1 C.2.2.2.2.2.1 rfl (fun t ht hw => ⟨rfl, ht⟩) (fun q hq => (by cases hq)) sd_can_16 C.2.2.2.2.2.2.1)
theorem sc_max {x : Int32} : Met l ⟨"java/lang/Math", "max", "(II)I"⟩ (sn_wd ⟨"java/lang/Math", "max", "(II)I"⟩ prog_18_method_65_code 2 (some .int)) (sj_rm 0) (sj_Pc ad [.int x, .int x]) (sj_Qc (some (.int x))) 0 0 (fun _ => False) :=
  sj_met (by decide +kernel) (Nat.le_of_ble_eq_true rfl) (fun C hQ la hl => by
    subst hQ
    refine lv_iload_n C.1 C.2.1 sd_max_0 rfl (lv_at hl 0 rfl) ?_
    refine lv_iload_n C.1 C.2.1 sd_max_1 rfl (lv_at hl 1 rfl) ?_
    refine lv_icmp_lt (tgt := 9) C.1 C.2.1 sd_max_2 (by decide) (fun h => absurd h Int32.lt_irrefl) (fun _ => ?_)
    refine lv_iload_n C.1 C.2.1 sd_max_5 rfl (lv_at hl 0 rfl) ?_
    refine lv_goto (tgt := 10) C.1 C.2.1 sd_max_6 (by decide) ?_
    exact W.zret C.1 C.2.1 C.2.2.2.2.2.1 rfl (fun t ht hw => ⟨rfl, ht⟩) (fun q hq => (by cases hq)) sd_max_10 C.2.2.2.2.2.2.1)
theorem sc_min {x : Int32} : Met l ⟨"java/lang/Math", "min", "(II)I"⟩ (sn_wd ⟨"java/lang/Math", "min", "(II)I"⟩ prog_18_method_69_code 2 (some .int)) (sj_rm 0) (sj_Pc ad [.int x, .int x]) (sj_Qc (some (.int x))) 0 0 (fun _ => False) :=
  sj_met (by decide +kernel) (Nat.le_of_ble_eq_true rfl) (fun C hQ la hl => by
    subst hQ
    refine lv_iload_n C.1 C.2.1 sd_min_0 rfl (lv_at hl 0 rfl) ?_
    refine lv_iload_n C.1 C.2.1 sd_min_1 rfl (lv_at hl 1 rfl) ?_
    refine lv_icmp_gt (tgt := 9) C.1 C.2.1 sd_min_2 (by decide) (fun h => absurd h Int32.lt_irrefl) (fun _ => ?_)
    refine lv_iload_n C.1 C.2.1 sd_min_5 rfl (lv_at hl 0 rfl) ?_
    refine lv_goto (tgt := 10) C.1 C.2.1 sd_min_6 (by decide) ?_
    exact W.zret C.1 C.2.1 C.2.2.2.2.2.1 rfl (fun t ht hw => ⟨rfl, ht⟩) (fun q hq => (by cases hq)) sd_min_10 C.2.2.2.2.2.2.1)
theorem sc_ioc_loop {p : Program} {e : Env} {R : Room} {s : State} {m : MethodId} {args : Array Value} {below : List Frame} {meth : Method} {c : Code} {i n : Nat} (hi : i < 22) (hn : n < 256) (C : sj_C ad p R s m args meth c prog_20_method_23_code "java/lang/StringLatin1" 6 (some .int)) : ∀ (r k : Nat) (la : Array Slot), k + r = sn_len.getD i 0 → lv_has la 6 [(5, .int (nI k)), (4, .int (nI n).toInt8.toInt32), (0, (.ref (ad (1100 + i)))), (1, .int (nI n)), (2, .int 0), (3, .int (nI (sn_len.getD i 0)))] → W p l e R s m args below meth c s.heap [] 0 0 (MQ below (sj_Qc (some (.int (sm_fidx n ((sm_str.getD i []).drop k) k)))) args s 0 0 (fun _ => False)) (F0 m 7 la [])
  | 0, k, la, e0, hl => by
    have hle : (sm_str.getD i []).length ≤ k := by rw [← (sj_len2 i hi)]; omega
    rw [List.drop_eq_nil_of_le hle]
    refine lv_iload C.1 C.2.1 sd_ioc_7 (lv_at hl 0 rfl) ?_
    refine lv_iload_n C.1 C.2.1 sd_ioc_9 rfl (lv_at hl 5 rfl) ?_
    refine lv_icmp_ge (tgt := 31) C.1 C.2.1 sd_ioc_10 (by decide) (fun _ => ?_) (fun h => absurd (nI_le (by omega) (by have := sj_len i hi; omega)) h)
    refine lv_iconst (v := -1) C.1 C.2.1 sd_ioc_31 (by decide) ?_
    exact W.zret C.1 C.2.1 C.2.2.2.2.2.1 rfl (fun t ht hw => ⟨rfl, ht⟩) (fun q hq => (by cases hq)) sd_ioc_32 C.2.2.2.2.2.2.1
  | r + 1, k, la, e0, hl => by
    have hk : k < sn_len.getD i 0 := by omega
    have hL := sj_len i hi
    have hlt : k < (sm_str.getD i []).length := by rw [← (sj_len2 i hi)]; omega
    refine lv_iload C.1 C.2.1 sd_ioc_7 (lv_at hl 0 rfl) ?_
    refine lv_iload_n C.1 C.2.1 sd_ioc_9 rfl (lv_at hl 5 rfl) ?_
    refine lv_icmp_ge (tgt := 31) C.1 C.2.1 sd_ioc_10 (by decide) (fun h => absurd h (nI_ge hk (by omega))) (fun _ => ?_)
    refine lv_aload_n C.1 C.2.1 sd_ioc_13 rfl (lv_at hl 2 rfl) ?_
    refine lv_iload C.1 C.2.1 sd_ioc_14 (lv_at hl 0 rfl) ?_
    refine va_tb C.1 C.2.1 (C.2.2.2.2.2.2.2.1.1 i hi).2.2.2 va_S.rf (vp_in_nI hk (by omega)) rfl sd_ioc_16 ?_
    refine lv_iload C.1 C.2.1 sd_ioc_17 (lv_at hl 1 rfl) ?_
    have hb : (sn_byt.getD i []).getD (nI k).toNatClampNeg 0 = nI ((sm_str.getD i []).getD k 0) := by rw [nI_clamp (by omega)]; exact (sj_byt i hi k hk).1
    have hd : (sm_str.getD i []).drop k = (sm_str.getD i []).getD k 0 :: (sm_str.getD i []).drop (k + 1) := by
      rw [List.drop_eq_getElem_cons hlt]
      congr 1
      exact sj_gd _ _ hlt
    have hcmp := sj_cmp _ (sj_byt i hi k hk).2 n hn
    refine lv_icmp_ne (tgt := 25) C.1 C.2.1 sd_ioc_19 (by decide) (fun h => ?_) (fun h => ?_)
    · have hne : ¬ (sm_str.getD i []).getD k 0 = n := fun z => h (hb.trans (hcmp.mpr z))
      refine lv_iinc (k := 0) (v := nI (k + 1)) (lv' := [(5, .int (nI (k + 1))), (4, .int (nI n).toInt8.toInt32), (0, (.ref (ad (1100 + i)))), (1, .int (nI n)), (2, .int 0), (3, .int (nI (sn_len.getD i 0)))]) C.1 C.2.1 sd_ioc_25 hl rfl (by rw [nI_succ]; rfl) (by decide) rfl (fun la' hl' => ?_)
      refine lv_goto (tgt := 7) C.1 C.2.1 sd_ioc_28 (by decide) ?_
      have g := sc_ioc_loop (e := e) (below := below) hi hn C r (k + 1) la' (by omega) hl'
      rw [hd]
      show W p l e R s m args below meth c s.heap [] 0 0 (MQ below (sj_Qc (some (.int (if (sm_str.getD i []).getD k 0 = n then nI k else sm_fidx n ((sm_str.getD i []).drop (k + 1)) (k + 1))))) args s 0 0 (fun _ => False)) (F0 m 7 la' [])
      rw [if_neg hne]
      exact g
    · have he : (sm_str.getD i []).getD k 0 = n := hcmp.mp (hb.symm.trans h)
      refine lv_iload C.1 C.2.1 sd_ioc_22 (lv_at hl 0 rfl) ?_
      rw [hd]
      show W p l e R s m args below meth c s.heap [] 0 0 (MQ below (sj_Qc (some (.int (if (sm_str.getD i []).getD k 0 = n then nI k else sm_fidx n ((sm_str.getD i []).drop (k + 1)) (k + 1))))) args s 0 0 (fun _ => False)) (F0 m 24 la [.int (nI k)])
      rw [if_pos he]
      exact W.zret C.1 C.2.1 C.2.2.2.2.2.1 rfl (fun t ht hw => ⟨rfl, ht⟩) (fun q hq => (by cases hq)) sd_ioc_24 C.2.2.2.2.2.2.1
theorem sc_ioc {i n : Nat} (hi : i < 22) (hn : n < 256) : Met l ⟨"java/lang/StringLatin1", "indexOfChar", "([BIII)I"⟩ (sn_wd ⟨"java/lang/StringLatin1", "indexOfChar", "([BIII)I"⟩ prog_20_method_23_code 6 (some .int)) (sj_rm 0) (sj_Pc ad [(.ref (ad (1100 + i))), .int (nI n), .int 0, .int (nI (sn_len.getD i 0))]) (sj_Qc (some (.int (sm_fidx n (sm_str.getD i []) 0)))) 0 0 (fun _ => False) :=
  sj_met (by decide +kernel) (Nat.le_of_ble_eq_true rfl) (fun C hQ la hl => by
    subst hQ
    refine lv_iload_n C.1 C.2.1 sd_ioc_0 rfl (lv_at hl 1 rfl) ?_
    refine lv_i2b (v := (nI n).toInt8.toInt32) C.1 C.2.1 sd_ioc_1 rfl ?_
    refine lv_istore (lv' := [(4, .int (nI n).toInt8.toInt32), (0, (.ref (ad (1100 + i)))), (1, .int (nI n)), (2, .int 0), (3, .int (nI (sn_len.getD i 0)))]) C.1 C.2.1 sd_ioc_2 hl (by decide) rfl (fun la hl => ?_)
    refine lv_iload_n C.1 C.2.1 sd_ioc_4 rfl (lv_at hl 3 rfl) ?_
    refine lv_istore (lv' := [(5, .int 0), (4, .int (nI n).toInt8.toInt32), (0, (.ref (ad (1100 + i)))), (1, .int (nI n)), (2, .int 0), (3, .int (nI (sn_len.getD i 0)))]) C.1 C.2.1 sd_ioc_5 hl (by decide) rfl (fun la hl => ?_)
    exact sc_ioc_loop hi hn C (sn_len.getD i 0) 0 la (by omega) hl)
theorem sc_lix {i n : Nat} (hi : i < 22) (hn : n < 256) : Met l ⟨"java/lang/StringLatin1", "indexOf", "([BIII)I"⟩ (sn_wd ⟨"java/lang/StringLatin1", "indexOf", "([BIII)I"⟩ prog_20_method_22_code 4 (some .int)) (sj_rm 1) (sj_Pc ad [(.ref (ad (1100 + i))), .int (nI n), .int 0, .int (nI (sn_len.getD i 0))]) (sj_Qc (some (.int (sm_fidx n (sm_str.getD i []) 0)))) 0 0 (fun _ => False) :=
  sj_met (by decide +kernel) (Nat.le_of_ble_eq_true rfl) (fun C hQ la hl => by
    subst hQ
    refine lv_iload_n C.1 C.2.1 sd_lix_0 rfl (lv_at hl 1 rfl) ?_
    refine sj_callS (y := ⟨"java/lang/StringLatin1", "canEncode", "(I)Z"⟩) (bytes := prog_20_method_4_code) (mL' := 1) (rt' := (some .boolean)) (d' := 0) (as := [.int (nI n)]) (st := []) C sd_lix_1 (sc_can hn) sw_731 sw_125 sw_729 sw_730 ⟨by decide, by decide⟩ sp_can (Nat.le_of_ble_eq_true rfl) (Nat.le_of_ble_eq_true rfl) hl.1 (Nat.le_of_ble_eq_true rfl) ?_
    refine lv_if_ne (tgt := 9) C.1 C.2.1 sd_lix_4 (by decide) (fun _ => ?_) (fun h => absurd h (by decide))
    refine lv_iload_n C.1 C.2.1 sd_lix_9 rfl (lv_at hl 2 rfl) ?_
    refine lv_iconst (v := 0) C.1 C.2.1 sd_lix_10 (by decide) ?_
    refine sj_callS (y := ⟨"java/lang/Math", "max", "(II)I"⟩) (bytes := prog_18_method_65_code) (mL' := 2) (rt' := (some .int)) (d' := 0) (as := [.int 0, .int 0]) (st := []) C sd_lix_11 (sc_max) mw_734 mw_128 sw_732 mw_733 ⟨by decide, by decide⟩ sp_max (Nat.le_of_ble_eq_true rfl) (Nat.le_of_ble_eq_true rfl) hl.1 (Nat.le_of_ble_eq_true rfl) ?_
    refine lv_istore_n (lv' := [(2, .int 0), (0, (.ref (ad (1100 + i)))), (1, .int (nI n)), (3, .int (nI (sn_len.getD i 0)))]) C.1 C.2.1 sd_lix_14 rfl hl (by decide) rfl (fun la hl => ?_)
    refine lv_iload_n C.1 C.2.1 sd_lix_15 rfl (lv_at hl 3 rfl) ?_
    refine lv_aload_n C.1 C.2.1 sd_lix_16 rfl (lv_at hl 1 rfl) ?_
    refine va_tlen C.1 C.2.1 (C.2.2.2.2.2.2.2.1.1 i hi).2.2.2 va_S.rf rfl sd_lix_17 ?_
    refine sj_callS (y := ⟨"java/lang/Math", "min", "(II)I"⟩) (bytes := prog_18_method_69_code) (mL' := 2) (rt' := (some .int)) (d' := 0) (as := [.int (nI (sn_len.getD i 0)), .int (nI (sn_len.getD i 0))]) (st := []) C sd_lix_18 (sc_min) mw_737 mw_128 sw_735 mw_736 ⟨by decide, by decide⟩ sp_min (Nat.le_of_ble_eq_true rfl) (Nat.le_of_ble_eq_true rfl) hl.1 (Nat.le_of_ble_eq_true rfl) ?_
    refine lv_istore_n (lv' := [(3, .int (nI (sn_len.getD i 0))), (2, .int 0), (0, (.ref (ad (1100 + i)))), (1, .int (nI n))]) C.1 C.2.1 sd_lix_21 rfl hl (by decide) rfl (fun la hl => ?_)
    refine lv_iload_n C.1 C.2.1 sd_lix_22 rfl (lv_at hl 1 rfl) ?_
    refine lv_iload_n C.1 C.2.1 sd_lix_23 rfl (lv_at hl 0 rfl) ?_
    refine lv_icmp_lt (tgt := 29) C.1 C.2.1 sd_lix_24 (by decide) (fun _ => ?_) (fun h => absurd (sj_pos i hi) h)
    refine lv_aload_n C.1 C.2.1 sd_lix_29 rfl (lv_at hl 2 rfl) ?_
    refine lv_iload_n C.1 C.2.1 sd_lix_30 rfl (lv_at hl 3 rfl) ?_
    refine lv_iload_n C.1 C.2.1 sd_lix_31 rfl (lv_at hl 1 rfl) ?_
    refine lv_iload_n C.1 C.2.1 sd_lix_32 rfl (lv_at hl 0 rfl) ?_
    refine sj_callS (y := ⟨"java/lang/StringLatin1", "indexOfChar", "([BIII)I"⟩) (bytes := prog_20_method_23_code) (mL' := 6) (rt' := (some .int)) (d' := 0) (as := [(.ref (ad (1100 + i))), .int (nI n), .int 0, .int (nI (sn_len.getD i 0))]) (st := []) C sd_lix_33 (sc_ioc hi hn) sw_740 sw_125 sw_738 sw_739 ⟨by decide, by decide⟩ sp_ioc (Nat.le_of_ble_eq_true rfl) (Nat.le_of_ble_eq_true rfl) hl.1 (Nat.le_of_ble_eq_true rfl) ?_
    exact W.zret C.1 C.2.1 C.2.2.2.2.2.1 rfl (fun t ht hw => ⟨rfl, ht⟩) (fun q hq => (by cases hq)) sd_lix_36 C.2.2.2.2.2.2.1)
theorem sc_ix2 {i n : Nat} (hi : i < 22) (hn : n < 256) : Met l ⟨"java/lang/String", "indexOf", "(II)I"⟩ (sn_wd ⟨"java/lang/String", "indexOf", "(II)I"⟩ prog_19_method_80_code 3 (some .int)) (sj_rm 2) (sj_Pc ad [(.ref (ad (1000 + i))), .int (nI n), .int 0]) (sj_Qc (some (.int (sm_fidx n (sm_str.getD i []) 0)))) 0 0 (fun _ => False) :=
  sj_met (by decide +kernel) (Nat.le_of_ble_eq_true rfl) (fun C hQ la hl => by
    subst hQ
    refine lv_aload_n C.1 C.2.1 sd_ix2_0 rfl (lv_at hl 0 rfl) ?_
    refine sj_callV (y := ⟨"java/lang/String", "isLatin1", "()Z"⟩) (bytes := prog_19_method_154_code) (mL' := 1) (rt' := (some .boolean)) (d' := 0) (as := []) (st := []) hi C sd_ix2_1 (sc_isLatin1 hi) sw_685 sw_124 sw_682 sw_683 sw_684 ⟨by decide, by decide⟩ sp_isLatin1 (Nat.le_of_ble_eq_true rfl) (Nat.le_of_ble_eq_true rfl) hl.1 (Nat.le_of_ble_eq_true rfl) ?_
    refine lv_if_eq (tgt := 23) C.1 C.2.1 sd_ix2_4 (by decide) (fun h => absurd h (by decide)) (fun _ => ?_)
    refine lv_aload_n C.1 C.2.1 sd_ix2_7 rfl (lv_at hl 0 rfl) ?_
    refine vk_getf C.1 C.2.1 (C.2.2.2.2.2.2.2.1.1 i hi).2.2.1 va_S.rf C.2.2.2.1 (C.2.2.2.2.1 _ sw_2085) (fun _ q => q) sd_ix2_8 ?_
    refine lv_iload_n C.1 C.2.1 sd_ix2_11 rfl (lv_at hl 1 rfl) ?_
    refine lv_iload_n C.1 C.2.1 sd_ix2_12 rfl (lv_at hl 2 rfl) ?_
    refine lv_aload_n C.1 C.2.1 sd_ix2_13 rfl (lv_at hl 0 rfl) ?_
    refine sj_callV (y := ⟨"java/lang/String", "length", "()I"⟩) (bytes := prog_19_method_54_code) (mL' := 1) (rt' := (some .int)) (d' := 1) (as := []) (st := [.int 0, .int (nI n), (.ref (ad (1100 + i)))]) hi C sd_ix2_14 (sc_length hi) sw_671 sw_124 sw_725 sw_669 sw_670 ⟨by decide, by decide⟩ sp_length (Nat.le_of_ble_eq_true rfl) (Nat.le_of_ble_eq_true rfl) hl.1 (Nat.le_of_ble_eq_true rfl) ?_
    refine sj_callS (y := ⟨"java/lang/StringLatin1", "indexOf", "([BIII)I"⟩) (bytes := prog_20_method_22_code) (mL' := 4) (rt' := (some .int)) (d' := 1) (as := [(.ref (ad (1100 + i))), .int (nI n), .int 0, .int (nI (sn_len.getD i 0))]) (st := []) C sd_ix2_17 (sc_lix hi hn) sw_728 sw_125 sw_726 sw_727 ⟨by decide, by decide⟩ sp_lix (Nat.le_of_ble_eq_true rfl) (Nat.le_of_ble_eq_true rfl) hl.1 (Nat.le_of_ble_eq_true rfl) ?_
    refine lv_goto (tgt := 36) C.1 C.2.1 sd_ix2_20 (by decide) ?_
    exact W.zret C.1 C.2.1 C.2.2.2.2.2.1 rfl (fun t ht hw => ⟨rfl, ht⟩) (fun q hq => (by cases hq)) sd_ix2_36 C.2.2.2.2.2.2.1)
theorem sc_ix1 {i n : Nat} (hi : i < 22) (hn : n < 256) : Met l ⟨"java/lang/String", "indexOf", "(I)I"⟩ (sn_wd ⟨"java/lang/String", "indexOf", "(I)I"⟩ prog_19_method_79_code 2 (some .int)) (sj_rm 3) (sj_Pc ad [(.ref (ad (1000 + i))), .int (nI n)]) (sj_Qc (some (.int (sm_fidx n (sm_str.getD i []) 0)))) 0 0 (fun _ => False) :=
  sj_met (by decide +kernel) (Nat.le_of_ble_eq_true rfl) (fun C hQ la hl => by
    subst hQ
    refine lv_aload_n C.1 C.2.1 sd_ix1_0 rfl (lv_at hl 0 rfl) ?_
    refine lv_iload_n C.1 C.2.1 sd_ix1_1 rfl (lv_at hl 1 rfl) ?_
    refine lv_iconst (v := 0) C.1 C.2.1 sd_ix1_2 (by decide) ?_
    refine sj_callV (y := ⟨"java/lang/String", "indexOf", "(II)I"⟩) (bytes := prog_19_method_80_code) (mL' := 3) (rt' := (some .int)) (d' := 2) (as := [.int (nI n), .int 0]) (st := []) hi C sd_ix1_3 (sc_ix2 hi hn) sw_724 sw_124 sw_721 sw_722 sw_723 ⟨by decide, by decide⟩ sp_ix2 (Nat.le_of_ble_eq_true rfl) (Nat.le_of_ble_eq_true rfl) hl.1 (Nat.le_of_ble_eq_true rfl) ?_
    exact W.zret C.1 C.2.1 C.2.2.2.2.2.1 rfl (fun t ht hw => ⟨rfl, ht⟩) (fun q hq => (by cases hq)) sd_ix1_6 C.2.2.2.2.2.2.1)
section SVF
variable {D : va_G} {cA : Nat → ClassId} {nm : Nat → MethodName} {by_ : Nat → ByteArray} {mL : Nat → Nat} {rts : Nat → Option FieldType} {cc : ByteArray} {own : String} {nL : Nat} {rt : Option FieldType} {pc : Nat}
theorem sj_in {p : Program} {e : Env} {R : Room} {s : State} {m : MethodId} {args : Array Value} {below : List Frame} {meth : Method} {c : Code} {Q : State → Prop} {y : MethodName} {bytes : ByteArray} {mL' d' idx i : Nat} {rt' : Option FieldType} {as st : List Value} {v : Int32} {H : Heap} {locs : List Loc} {la : Array Slot} (C : sn_C D cA ad (sn_SK ad) p R s m args meth c cc own nL rt) (h8 : 8 ≤ R.frames) (h240 : 240 ≤ R.locals) (hS : va_S (sn_A ad) s.heap H locs) (hi : i < 22) (hd : decode cc pc = .ok (.invokevirtual idx, 3)) (hM : Met l y (sn_wd y bytes mL' rt') (sj_rm d') (sj_Pc ad (.ref (ad (1000 + i)) :: as)) (sj_Qc (some (.int v))) 0 0 (fun _ => False)) (hcode : Cond.code y bytes mL' rt' ∈ sm_wl) (hini : Cond.initialized y.cls ∈ sm_wl) (hlink : Cond.methodLink own idx y ∈ sm_wl) (hinst : Cond.instanceMethod y ∈ sm_wl) (hsel : Cond.selects "java/lang/String" y y ∈ sm_wl) (hne : y.cls ≠ "java/lang/invoke/MethodHandle" ∧ y.cls ≠ "java/lang/invoke/VarHandle") (hnp : (parseMethodDescriptor y.desc).map (fun d => d.parameters.length) = some as.length) (hd4 : d' ≤ 4) (hm : mL' ≤ 6) (hla : la.size = nL) (hst : (st.map fun v => v.category).sum ≤ 8) (kk : W p l e R s m args below meth c H locs 0 0 Q (F0 m (pc + 3) la (.int v :: st))) : W p l e R s m args below meth c H locs 0 0 Q (F0 m pc la (as.reverse ++ .ref (ad (1000 + i)) :: st)) := by
  have hSK := C.2.2.2.2.2.2.2.2.1
  have hts := C.2.2.2.2.1
  exact sj_after (va_runV (C := "java/lang/String") (b := ad (1000 + i)) (As := as) (rest := st) ⟨C.1, C.2.1, C.2.2.1, C.2.2.2.1, hts⟩ hM ⟨callB_of as.length hts (sn_goodw hcode) rfl rfl rfl (hts _ hini) (hts _ hlink) ⟨hne.1, hne.2, hnp⟩ ⟨by show d' + 1 ≤ R.frames; omega, by show 8 + (mL' + 11) + 40 * d' ≤ R.locals; omega⟩, hts _ hinst, hts _ hsel⟩ ⟨sj_blind, vk_recv (adK := fun k => ad (1000 + k)) (adV := fun k => ad (1100 + k)) (i := i) hSK.1 hi hS, fun U hU hW => ⟨rfl, by show sn_SK ad U U.heap; rw [hU]; exact (sn_SKok ad).1 s U H hW ((sn_SKok ad).2.2 s s.heap H (fun q h1 h2 => hS.2.1 q h1 h2) hSK)⟩⟩ rfl rfl hla rfl (lv_room hst) hd ⟨Nat.zero_le _, Nat.zero_le _⟩) kk
theorem sj_cat : ∀ (st : List Value), st.length ≤ 4 → ((st.map (sn_tr ad)).map fun v => v.category).sum ≤ 8 := by
  intro st h
  have hc : ∀ v : Value, v.category ≤ 2 := fun v => by cases v <;> exact Nat.le_of_ble_eq_true rfl
  have g : ∀ l : List Value, (l.map fun v => v.category).sum ≤ 2 * l.length := by
    intro l
    induction l with
    | nil => exact Nat.le_refl _
    | cons a r ih => simp only [List.map_cons, List.sum_cons, List.length_cons]; have := hc a; omega
  have := g (st.map (sn_tr ad))
  simp at this ⊢
  omega
theorem svF_slen {index : Nat} (hd : decode cc pc = .ok (.invokevirtual index, 3)) (hlink : Cond.methodLink own index ⟨"java/lang/String", "length", "()I"⟩ ∈ sm_wl) : sn_VF l D cA ad (sn_SK ad) nm by_ mL rts cc own nL rt pc (sm_slen (pc + 3)) := by
  intro p e R s m args below meth c Q C h8 h240 f o hi
  obtain ⟨ls, st, h⟩ := f
  simp only [sm_slen] at hi
  split at hi
  next a st' =>
    split at hi
    next hc =>
      obtain rfl := Option.some.inj hi
      intro G H locs la hP hS hL hN
      obtain ⟨i, hi', rfl⟩ := sj_adr (a := a) hc.1 hc.2.1
      have G' := G H locs la hP hS hL hN
      rw [sj_sub i] at G'
      rw [← sj_len2 i hi'] at G'
      exact sj_in C h8 h240 hS hi' (as := []) (st := st'.map (sn_tr ad)) hd (sc_length hi') sw_671 sw_124 hlink sw_669 sw_670 ⟨by decide, by decide⟩ sp_length (by decide) (by decide) hL.2.1 (sj_cat st' hc.2.2) G'
    next => cases hi
  next => cases hi
theorem svF_schr {index : Nat} (hd : decode cc pc = .ok (.invokevirtual index, 3)) (hlink : Cond.methodLink own index ⟨"java/lang/String", "charAt", "(I)C"⟩ ∈ sm_wl) : sn_VF l D cA ad (sn_SK ad) nm by_ mL rts cc own nL rt pc (sm_schr (pc + 3)) := by
  intro p e R s m args below meth c Q C h8 h240 f o hi
  obtain ⟨ls, st, h⟩ := f
  simp only [sm_schr] at hi
  split at hi
  next x a st' =>
    split at hi
    next hc =>
      obtain rfl := Option.some.inj hi
      intro G H locs la hP hS hL hN
      obtain ⟨⟨c1, c2, c3⟩, c4, c5⟩ := hc
      obtain ⟨i, hi', rfl⟩ := sj_adr (a := a) c1 c2
      have G' := G H locs la hP hS hL hN
      rw [sj_sub i] at G' c5
      obtain ⟨k, rfl⟩ := sj_nat c4
      have hk2 : (nI (k : Nat)).toNatClampNeg = k.val := nI_clamp k.2
      rw [hk2] at G' c5
      rw [← sj_len2 i hi'] at c5
      exact sj_in C h8 h240 hS hi' (as := [.int (nI k)]) (st := st'.map (sn_tr ad)) hd (sc_chr hi' c5) sw_681 sw_124 hlink sw_679 sw_680 ⟨by decide, by decide⟩ sp_chr (by decide) (by decide) hL.2.1 (sj_cat st' c3) G'
    next => cases hi
  next => cases hi
theorem svF_sidx {index : Nat} (hd : decode cc pc = .ok (.invokevirtual index, 3)) (hlink : Cond.methodLink own index ⟨"java/lang/String", "indexOf", "(I)I"⟩ ∈ sm_wl) : sn_VF l D cA ad (sn_SK ad) nm by_ mL rts cc own nL rt pc (sm_sidx (pc + 3)) := by
  intro p e R s m args below meth c Q C h8 h240 f o hi
  obtain ⟨ls, st, h⟩ := f
  simp only [sm_sidx] at hi
  split at hi
  next x a st' =>
    split at hi
    next hc =>
      obtain rfl := Option.some.inj hi
      intro G H locs la hP hS hL hN
      obtain ⟨⟨c1, c2, c3⟩, c4, c5⟩ := hc
      obtain ⟨i, hi', rfl⟩ := sj_adr (a := a) c1 c2
      have G' := G H locs la hP hS hL hN
      rw [sj_sub i] at G'
      obtain ⟨k, rfl⟩ := sj_nat c4
      have hk2 : (nI (k : Nat)).toNatClampNeg = k.val := nI_clamp k.2
      rw [hk2] at G' c5
      exact sj_in C h8 h240 hS hi' (as := [.int (nI k)]) (st := st'.map (sn_tr ad)) hd (sc_ix1 hi' c5) sw_720 sw_124 hlink sw_718 sw_719 ⟨by decide, by decide⟩ sp_ix1 (by decide) (by decide) hL.2.1 (sj_cat st' c3) G'
    next => cases hi
  next => cases hi
end SVF
end SJ
