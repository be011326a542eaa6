/-! ===== the model's constructor; the rows of the law (written by program) ===== -/
theorem lx_134 : (.classLink "BackBridgeLaw" 7 "BackBridge" : Cond) ∈ sm_wl := sn_m (List.mem_of_getElem? (i := 134) (by decide +kernel)) rfl
theorem lx_135 : (.instantiable "BackBridge" 16 : Cond) ∈ sm_wl := sn_m (List.mem_of_getElem? (i := 135) (by decide +kernel)) rfl
theorem lx_136 : (.methodLink "BackBridgeLaw" 9 ⟨"BackBridge", "<init>", "()V"⟩ : Cond) ∈ sm_wl := sn_m (List.mem_of_getElem? (i := 136) (by decide +kernel)) rfl
theorem lx_137 : (.instanceMethod ⟨"BackBridge", "<init>", "()V"⟩ : Cond) ∈ sm_wl := sn_m (List.mem_of_getElem? (i := 137) (by decide +kernel)) rfl
set_option maxRecDepth 100000 in
theorem lx_138 : (.code ⟨"BackBridge", "<init>", "()V"⟩ prog_1_method_1_code 1 none : Cond) ∈ sm_wl := sn_m (List.mem_of_getElem? (i := 138) (by rfl)) rfl
theorem lx_616 : (.methodLink "BackBridgeLaw" 13 ⟨"BackBridge", "feed", "(IIIII)I"⟩ : Cond) ∈ sm_wl := sn_m (List.mem_of_getElem? (i := 616) (by decide +kernel)) rfl
theorem lx_617 : (.instanceMethod ⟨"BackBridge", "feed", "(IIIII)I"⟩ : Cond) ∈ sm_wl := sn_m (List.mem_of_getElem? (i := 617) (by decide +kernel)) rfl
theorem lx_618 : (.selects "BackBridge" ⟨"BackBridge", "feed", "(IIIII)I"⟩ ⟨"BackBridge", "feed", "(IIIII)I"⟩ : Cond) ∈ sm_wl := sn_m (List.mem_of_getElem? (i := 618) (by decide +kernel)) rfl
theorem lx_624 : (.methodLink "BackBridgeLaw" 18 ⟨"BackBridge", "land", "(I)I"⟩ : Cond) ∈ sm_wl := sn_m (List.mem_of_getElem? (i := 624) (by decide +kernel)) rfl
theorem lx_625 : (.instanceMethod ⟨"BackBridge", "land", "(I)I"⟩ : Cond) ∈ sm_wl := sn_m (List.mem_of_getElem? (i := 625) (by decide +kernel)) rfl
theorem lx_626 : (.selects "BackBridge" ⟨"BackBridge", "land", "(I)I"⟩ ⟨"BackBridge", "land", "(I)I"⟩ : Cond) ∈ sm_wl := sn_m (List.mem_of_getElem? (i := 626) (by decide +kernel)) rfl
theorem lx_881 : (.methodLink "BackBridgeLaw" 23 ⟨"BackBridge", "fault", "(I)I"⟩ : Cond) ∈ sm_wl := sn_m (List.mem_of_getElem? (i := 881) (by decide +kernel)) rfl
theorem lx_882 : (.instanceMethod ⟨"BackBridge", "fault", "(I)I"⟩ : Cond) ∈ sm_wl := sn_m (List.mem_of_getElem? (i := 882) (by decide +kernel)) rfl
theorem lx_883 : (.selects "BackBridge" ⟨"BackBridge", "fault", "(I)I"⟩ ⟨"BackBridge", "fault", "(I)I"⟩ : Cond) ∈ sm_wl := sn_m (List.mem_of_getElem? (i := 883) (by decide +kernel)) rfl
theorem lx_885 : (.methodLink "BackBridgeLaw" 27 ⟨"BackBridge", "person", "(II)I"⟩ : Cond) ∈ sm_wl := sn_m (List.mem_of_getElem? (i := 885) (by decide +kernel)) rfl
theorem lx_886 : (.instanceMethod ⟨"BackBridge", "person", "(II)I"⟩ : Cond) ∈ sm_wl := sn_m (List.mem_of_getElem? (i := 886) (by decide +kernel)) rfl
theorem lx_887 : (.selects "BackBridge" ⟨"BackBridge", "person", "(II)I"⟩ ⟨"BackBridge", "person", "(II)I"⟩ : Cond) ∈ sm_wl := sn_m (List.mem_of_getElem? (i := 887) (by decide +kernel)) rfl
theorem lx_893 : (.methodLink "BackBridgeLaw" 32 ⟨"BackBridge", "road", "(II)I"⟩ : Cond) ∈ sm_wl := sn_m (List.mem_of_getElem? (i := 893) (by decide +kernel)) rfl
theorem lx_894 : (.instanceMethod ⟨"BackBridge", "road", "(II)I"⟩ : Cond) ∈ sm_wl := sn_m (List.mem_of_getElem? (i := 894) (by decide +kernel)) rfl
theorem lx_895 : (.selects "BackBridge" ⟨"BackBridge", "road", "(II)I"⟩ ⟨"BackBridge", "road", "(II)I"⟩ : Cond) ∈ sm_wl := sn_m (List.mem_of_getElem? (i := 895) (by decide +kernel)) rfl
theorem lx_901 : (.methodLink "BackBridgeLaw" 36 ⟨"BackBridge", "why", "(II)I"⟩ : Cond) ∈ sm_wl := sn_m (List.mem_of_getElem? (i := 901) (by decide +kernel)) rfl
theorem lx_902 : (.instanceMethod ⟨"BackBridge", "why", "(II)I"⟩ : Cond) ∈ sm_wl := sn_m (List.mem_of_getElem? (i := 902) (by decide +kernel)) rfl
theorem lx_903 : (.selects "BackBridge" ⟨"BackBridge", "why", "(II)I"⟩ ⟨"BackBridge", "why", "(II)I"⟩ : Cond) ∈ sm_wl := sn_m (List.mem_of_getElem? (i := 903) (by decide +kernel)) rfl
theorem lx_944 : (.methodLink "BackBridgeLaw" 40 ⟨"BackBridge", "takes", "(II)I"⟩ : Cond) ∈ sm_wl := sn_m (List.mem_of_getElem? (i := 944) (by decide +kernel)) rfl
theorem lx_945 : (.instanceMethod ⟨"BackBridge", "takes", "(II)I"⟩ : Cond) ∈ sm_wl := sn_m (List.mem_of_getElem? (i := 945) (by decide +kernel)) rfl
theorem lx_946 : (.selects "BackBridge" ⟨"BackBridge", "takes", "(II)I"⟩ ⟨"BackBridge", "takes", "(II)I"⟩ : Cond) ∈ sm_wl := sn_m (List.mem_of_getElem? (i := 946) (by decide +kernel)) rfl
theorem lx_954 : (.methodLink "BackBridgeLaw" 44 ⟨"BackBridge", "go", "(II)I"⟩ : Cond) ∈ sm_wl := sn_m (List.mem_of_getElem? (i := 954) (by decide +kernel)) rfl
theorem lx_955 : (.instanceMethod ⟨"BackBridge", "go", "(II)I"⟩ : Cond) ∈ sm_wl := sn_m (List.mem_of_getElem? (i := 955) (by decide +kernel)) rfl
theorem lx_956 : (.selects "BackBridge" ⟨"BackBridge", "go", "(II)I"⟩ ⟨"BackBridge", "go", "(II)I"⟩ : Cond) ∈ sm_wl := sn_m (List.mem_of_getElem? (i := 956) (by decide +kernel)) rfl
theorem lx_974 : (.methodLink "BackBridgeLaw" 48 ⟨"BackBridge", "give", "(III)I"⟩ : Cond) ∈ sm_wl := sn_m (List.mem_of_getElem? (i := 974) (by decide +kernel)) rfl
theorem lx_975 : (.instanceMethod ⟨"BackBridge", "give", "(III)I"⟩ : Cond) ∈ sm_wl := sn_m (List.mem_of_getElem? (i := 975) (by decide +kernel)) rfl
theorem lx_976 : (.selects "BackBridge" ⟨"BackBridge", "give", "(III)I"⟩ ⟨"BackBridge", "give", "(III)I"⟩ : Cond) ∈ sm_wl := sn_m (List.mem_of_getElem? (i := 976) (by decide +kernel)) rfl
theorem lx_982 : (.methodLink "BackBridgeLaw" 53 ⟨"BackBridge", "forge", "(I)I"⟩ : Cond) ∈ sm_wl := sn_m (List.mem_of_getElem? (i := 982) (by decide +kernel)) rfl
theorem lx_983 : (.instanceMethod ⟨"BackBridge", "forge", "(I)I"⟩ : Cond) ∈ sm_wl := sn_m (List.mem_of_getElem? (i := 983) (by decide +kernel)) rfl
theorem lx_984 : (.selects "BackBridge" ⟨"BackBridge", "forge", "(I)I"⟩ ⟨"BackBridge", "forge", "(I)I"⟩ : Cond) ∈ sm_wl := sn_m (List.mem_of_getElem? (i := 984) (by decide +kernel)) rfl
theorem lx_990 : (.methodLink "BackBridgeLaw" 57 ⟨"BackBridge", "shut", "(I)I"⟩ : Cond) ∈ sm_wl := sn_m (List.mem_of_getElem? (i := 990) (by decide +kernel)) rfl
theorem lx_991 : (.instanceMethod ⟨"BackBridge", "shut", "(I)I"⟩ : Cond) ∈ sm_wl := sn_m (List.mem_of_getElem? (i := 991) (by decide +kernel)) rfl
theorem lx_992 : (.selects "BackBridge" ⟨"BackBridge", "shut", "(I)I"⟩ ⟨"BackBridge", "shut", "(I)I"⟩ : Cond) ∈ sm_wl := sn_m (List.mem_of_getElem? (i := 992) (by decide +kernel)) rfl
theorem lx_998 : (.methodLink "BackBridgeLaw" 61 ⟨"BackBridge", "days", "(I)I"⟩ : Cond) ∈ sm_wl := sn_m (List.mem_of_getElem? (i := 998) (by decide +kernel)) rfl
theorem lx_999 : (.instanceMethod ⟨"BackBridge", "days", "(I)I"⟩ : Cond) ∈ sm_wl := sn_m (List.mem_of_getElem? (i := 999) (by decide +kernel)) rfl
theorem lx_1000 : (.selects "BackBridge" ⟨"BackBridge", "days", "(I)I"⟩ ⟨"BackBridge", "days", "(I)I"⟩ : Cond) ∈ sm_wl := sn_m (List.mem_of_getElem? (i := 1000) (by decide +kernel)) rfl
theorem lx_1006 : (.methodLink "BackBridgeLaw" 65 ⟨"BackBridge", "undo", "(I)I"⟩ : Cond) ∈ sm_wl := sn_m (List.mem_of_getElem? (i := 1006) (by decide +kernel)) rfl
theorem lx_1007 : (.instanceMethod ⟨"BackBridge", "undo", "(I)I"⟩ : Cond) ∈ sm_wl := sn_m (List.mem_of_getElem? (i := 1007) (by decide +kernel)) rfl
theorem lx_1008 : (.selects "BackBridge" ⟨"BackBridge", "undo", "(I)I"⟩ ⟨"BackBridge", "undo", "(I)I"⟩ : Cond) ∈ sm_wl := sn_m (List.mem_of_getElem? (i := 1008) (by decide +kernel)) rfl
theorem lx_1014 : (.methodLink "BackBridgeLaw" 69 ⟨"BackBridge", "judge", "(II)I"⟩ : Cond) ∈ sm_wl := sn_m (List.mem_of_getElem? (i := 1014) (by decide +kernel)) rfl
theorem lx_1015 : (.instanceMethod ⟨"BackBridge", "judge", "(II)I"⟩ : Cond) ∈ sm_wl := sn_m (List.mem_of_getElem? (i := 1015) (by decide +kernel)) rfl
theorem lx_1016 : (.selects "BackBridge" ⟨"BackBridge", "judge", "(II)I"⟩ ⟨"BackBridge", "judge", "(II)I"⟩ : Cond) ∈ sm_wl := sn_m (List.mem_of_getElem? (i := 1016) (by decide +kernel)) rfl
theorem lx_1045 : (.methodLink "BackBridgeLaw" 73 ⟨"BackBridge", "perform", "(I)I"⟩ : Cond) ∈ sm_wl := sn_m (List.mem_of_getElem? (i := 1045) (by decide +kernel)) rfl
theorem lx_1046 : (.instanceMethod ⟨"BackBridge", "perform", "(I)I"⟩ : Cond) ∈ sm_wl := sn_m (List.mem_of_getElem? (i := 1046) (by decide +kernel)) rfl
theorem lx_1047 : (.selects "BackBridge" ⟨"BackBridge", "perform", "(I)I"⟩ ⟨"BackBridge", "perform", "(I)I"⟩ : Cond) ∈ sm_wl := sn_m (List.mem_of_getElem? (i := 1047) (by decide +kernel)) rfl
theorem lx_1049 : (.methodLink "BackBridgeLaw" 77 ⟨"BackBridge", "year", "(II)I"⟩ : Cond) ∈ sm_wl := sn_m (List.mem_of_getElem? (i := 1049) (by decide +kernel)) rfl
theorem lx_1050 : (.instanceMethod ⟨"BackBridge", "year", "(II)I"⟩ : Cond) ∈ sm_wl := sn_m (List.mem_of_getElem? (i := 1050) (by decide +kernel)) rfl
theorem lx_1051 : (.selects "BackBridge" ⟨"BackBridge", "year", "(II)I"⟩ ⟨"BackBridge", "year", "(II)I"⟩ : Cond) ∈ sm_wl := sn_m (List.mem_of_getElem? (i := 1051) (by decide +kernel)) rfl
theorem lx_1067 : (.methodLink "BackBridgeLaw" 81 ⟨"BackBridge", "soonest", "(II)I"⟩ : Cond) ∈ sm_wl := sn_m (List.mem_of_getElem? (i := 1067) (by decide +kernel)) rfl
theorem lx_1068 : (.instanceMethod ⟨"BackBridge", "soonest", "(II)I"⟩ : Cond) ∈ sm_wl := sn_m (List.mem_of_getElem? (i := 1068) (by decide +kernel)) rfl
theorem lx_1069 : (.selects "BackBridge" ⟨"BackBridge", "soonest", "(II)I"⟩ ⟨"BackBridge", "soonest", "(II)I"⟩ : Cond) ∈ sm_wl := sn_m (List.mem_of_getElem? (i := 1069) (by decide +kernel)) rfl
theorem lx_1132 : (.methodLink "BackBridgeLaw" 85 ⟨"BackBridge", "way", "(III)I"⟩ : Cond) ∈ sm_wl := sn_m (List.mem_of_getElem? (i := 1132) (by decide +kernel)) rfl
theorem lx_1133 : (.instanceMethod ⟨"BackBridge", "way", "(III)I"⟩ : Cond) ∈ sm_wl := sn_m (List.mem_of_getElem? (i := 1133) (by decide +kernel)) rfl
theorem lx_1134 : (.selects "BackBridge" ⟨"BackBridge", "way", "(III)I"⟩ ⟨"BackBridge", "way", "(III)I"⟩ : Cond) ∈ sm_wl := sn_m (List.mem_of_getElem? (i := 1134) (by decide +kernel)) rfl
theorem lx_1148 : (.methodLink "BackBridgeLaw" 89 ⟨"BackBridge", "left", "(II)I"⟩ : Cond) ∈ sm_wl := sn_m (List.mem_of_getElem? (i := 1148) (by decide +kernel)) rfl
theorem lx_1149 : (.instanceMethod ⟨"BackBridge", "left", "(II)I"⟩ : Cond) ∈ sm_wl := sn_m (List.mem_of_getElem? (i := 1149) (by decide +kernel)) rfl
theorem lx_1150 : (.selects "BackBridge" ⟨"BackBridge", "left", "(II)I"⟩ ⟨"BackBridge", "left", "(II)I"⟩ : Cond) ∈ sm_wl := sn_m (List.mem_of_getElem? (i := 1150) (by decide +kernel)) rfl
theorem lx_1156 : (.methodLink "BackBridgeLaw" 93 ⟨"BackBridge", "reach", "(I)I"⟩ : Cond) ∈ sm_wl := sn_m (List.mem_of_getElem? (i := 1156) (by decide +kernel)) rfl
theorem lx_1157 : (.instanceMethod ⟨"BackBridge", "reach", "(I)I"⟩ : Cond) ∈ sm_wl := sn_m (List.mem_of_getElem? (i := 1157) (by decide +kernel)) rfl
theorem lx_1158 : (.selects "BackBridge" ⟨"BackBridge", "reach", "(I)I"⟩ ⟨"BackBridge", "reach", "(I)I"⟩ : Cond) ∈ sm_wl := sn_m (List.mem_of_getElem? (i := 1158) (by decide +kernel)) rfl
theorem lx_1164 : (.methodLink "BackBridgeLaw" 97 ⟨"BackBridge", "ways", "(III)J"⟩ : Cond) ∈ sm_wl := sn_m (List.mem_of_getElem? (i := 1164) (by decide +kernel)) rfl
theorem lx_1165 : (.instanceMethod ⟨"BackBridge", "ways", "(III)J"⟩ : Cond) ∈ sm_wl := sn_m (List.mem_of_getElem? (i := 1165) (by decide +kernel)) rfl
theorem lx_1166 : (.selects "BackBridge" ⟨"BackBridge", "ways", "(III)J"⟩ ⟨"BackBridge", "ways", "(III)J"⟩ : Cond) ∈ sm_wl := sn_m (List.mem_of_getElem? (i := 1166) (by decide +kernel)) rfl
theorem lx_1182 : (.methodLink "BackBridgeLaw" 102 ⟨"BackBridge", "needed", "(II)I"⟩ : Cond) ∈ sm_wl := sn_m (List.mem_of_getElem? (i := 1182) (by decide +kernel)) rfl
theorem lx_1183 : (.instanceMethod ⟨"BackBridge", "needed", "(II)I"⟩ : Cond) ∈ sm_wl := sn_m (List.mem_of_getElem? (i := 1183) (by decide +kernel)) rfl
theorem lx_1184 : (.selects "BackBridge" ⟨"BackBridge", "needed", "(II)I"⟩ ⟨"BackBridge", "needed", "(II)I"⟩ : Cond) ∈ sm_wl := sn_m (List.mem_of_getElem? (i := 1184) (by decide +kernel)) rfl
theorem lx_1197 : (.methodLink "BackBridgeLaw" 106 ⟨"BackBridge", "proofs", "(II)I"⟩ : Cond) ∈ sm_wl := sn_m (List.mem_of_getElem? (i := 1197) (by decide +kernel)) rfl
theorem lx_1198 : (.instanceMethod ⟨"BackBridge", "proofs", "(II)I"⟩ : Cond) ∈ sm_wl := sn_m (List.mem_of_getElem? (i := 1198) (by decide +kernel)) rfl
theorem lx_1199 : (.selects "BackBridge" ⟨"BackBridge", "proofs", "(II)I"⟩ ⟨"BackBridge", "proofs", "(II)I"⟩ : Cond) ∈ sm_wl := sn_m (List.mem_of_getElem? (i := 1199) (by decide +kernel)) rfl
theorem lx_1205 : (.methodLink "BackBridgeLaw" 110 ⟨"BackBridge", "waives", "(II)I"⟩ : Cond) ∈ sm_wl := sn_m (List.mem_of_getElem? (i := 1205) (by decide +kernel)) rfl
theorem lx_1206 : (.instanceMethod ⟨"BackBridge", "waives", "(II)I"⟩ : Cond) ∈ sm_wl := sn_m (List.mem_of_getElem? (i := 1206) (by decide +kernel)) rfl
theorem lx_1207 : (.selects "BackBridge" ⟨"BackBridge", "waives", "(II)I"⟩ ⟨"BackBridge", "waives", "(II)I"⟩ : Cond) ∈ sm_wl := sn_m (List.mem_of_getElem? (i := 1207) (by decide +kernel)) rfl
theorem lx_1214 : (.methodLink "BackBridgeLaw" 114 ⟨"BackBridge", "inTime", "()I"⟩ : Cond) ∈ sm_wl := sn_m (List.mem_of_getElem? (i := 1214) (by decide +kernel)) rfl
theorem lx_1215 : (.instanceMethod ⟨"BackBridge", "inTime", "()I"⟩ : Cond) ∈ sm_wl := sn_m (List.mem_of_getElem? (i := 1215) (by decide +kernel)) rfl
theorem lx_1216 : (.selects "BackBridge" ⟨"BackBridge", "inTime", "()I"⟩ ⟨"BackBridge", "inTime", "()I"⟩ : Cond) ∈ sm_wl := sn_m (List.mem_of_getElem? (i := 1216) (by decide +kernel)) rfl
theorem lx_1232 : (.methodLink "BackBridgeLaw" 119 ⟨"BackBridge", "spare", "(I)I"⟩ : Cond) ∈ sm_wl := sn_m (List.mem_of_getElem? (i := 1232) (by decide +kernel)) rfl
theorem lx_1233 : (.instanceMethod ⟨"BackBridge", "spare", "(I)I"⟩ : Cond) ∈ sm_wl := sn_m (List.mem_of_getElem? (i := 1233) (by decide +kernel)) rfl
theorem lx_1234 : (.selects "BackBridge" ⟨"BackBridge", "spare", "(I)I"⟩ ⟨"BackBridge", "spare", "(I)I"⟩ : Cond) ∈ sm_wl := sn_m (List.mem_of_getElem? (i := 1234) (by decide +kernel)) rfl
theorem lx_1238 : (.methodLink "BackBridgeLaw" 123 ⟨"BackBridge", "helped", "()I"⟩ : Cond) ∈ sm_wl := sn_m (List.mem_of_getElem? (i := 1238) (by decide +kernel)) rfl
theorem lx_1239 : (.instanceMethod ⟨"BackBridge", "helped", "()I"⟩ : Cond) ∈ sm_wl := sn_m (List.mem_of_getElem? (i := 1239) (by decide +kernel)) rfl
theorem lx_1240 : (.selects "BackBridge" ⟨"BackBridge", "helped", "()I"⟩ ⟨"BackBridge", "helped", "()I"⟩ : Cond) ∈ sm_wl := sn_m (List.mem_of_getElem? (i := 1240) (by decide +kernel)) rfl
theorem lx_1246 : (.methodLink "BackBridgeLaw" 127 ⟨"BackBridge", "worst", "()I"⟩ : Cond) ∈ sm_wl := sn_m (List.mem_of_getElem? (i := 1246) (by decide +kernel)) rfl
theorem lx_1247 : (.instanceMethod ⟨"BackBridge", "worst", "()I"⟩ : Cond) ∈ sm_wl := sn_m (List.mem_of_getElem? (i := 1247) (by decide +kernel)) rfl
theorem lx_1248 : (.selects "BackBridge" ⟨"BackBridge", "worst", "()I"⟩ ⟨"BackBridge", "worst", "()I"⟩ : Cond) ∈ sm_wl := sn_m (List.mem_of_getElem? (i := 1248) (by decide +kernel)) rfl
theorem lx_1259 : (.methodLink "BackBridgeLaw" 131 ⟨"BackBridge", "loophole", "(I)I"⟩ : Cond) ∈ sm_wl := sn_m (List.mem_of_getElem? (i := 1259) (by decide +kernel)) rfl
theorem lx_1260 : (.instanceMethod ⟨"BackBridge", "loophole", "(I)I"⟩ : Cond) ∈ sm_wl := sn_m (List.mem_of_getElem? (i := 1260) (by decide +kernel)) rfl
theorem lx_1261 : (.selects "BackBridge" ⟨"BackBridge", "loophole", "(I)I"⟩ ⟨"BackBridge", "loophole", "(I)I"⟩ : Cond) ∈ sm_wl := sn_m (List.mem_of_getElem? (i := 1261) (by decide +kernel)) rfl
theorem lx_1267 : (.methodLink "BackBridgeLaw" 135 ⟨"BackBridge", "loopWay", "(II)I"⟩ : Cond) ∈ sm_wl := sn_m (List.mem_of_getElem? (i := 1267) (by decide +kernel)) rfl
theorem lx_1268 : (.instanceMethod ⟨"BackBridge", "loopWay", "(II)I"⟩ : Cond) ∈ sm_wl := sn_m (List.mem_of_getElem? (i := 1268) (by decide +kernel)) rfl
theorem lx_1269 : (.selects "BackBridge" ⟨"BackBridge", "loopWay", "(II)I"⟩ ⟨"BackBridge", "loopWay", "(II)I"⟩ : Cond) ∈ sm_wl := sn_m (List.mem_of_getElem? (i := 1269) (by decide +kernel)) rfl
theorem lx_1275 : (.methodLink "BackBridgeLaw" 139 ⟨"BackBridge", "round", "(I)I"⟩ : Cond) ∈ sm_wl := sn_m (List.mem_of_getElem? (i := 1275) (by decide +kernel)) rfl
theorem lx_1276 : (.instanceMethod ⟨"BackBridge", "round", "(I)I"⟩ : Cond) ∈ sm_wl := sn_m (List.mem_of_getElem? (i := 1276) (by decide +kernel)) rfl
theorem lx_1277 : (.selects "BackBridge" ⟨"BackBridge", "round", "(I)I"⟩ ⟨"BackBridge", "round", "(I)I"⟩ : Cond) ∈ sm_wl := sn_m (List.mem_of_getElem? (i := 1277) (by decide +kernel)) rfl
theorem lx_1286 : (.methodLink "BackBridgeLaw" 143 ⟨"BackBridge", "crosses", "(I)I"⟩ : Cond) ∈ sm_wl := sn_m (List.mem_of_getElem? (i := 1286) (by decide +kernel)) rfl
theorem lx_1287 : (.instanceMethod ⟨"BackBridge", "crosses", "(I)I"⟩ : Cond) ∈ sm_wl := sn_m (List.mem_of_getElem? (i := 1287) (by decide +kernel)) rfl
theorem lx_1288 : (.selects "BackBridge" ⟨"BackBridge", "crosses", "(I)I"⟩ ⟨"BackBridge", "crosses", "(I)I"⟩ : Cond) ∈ sm_wl := sn_m (List.mem_of_getElem? (i := 1288) (by decide +kernel)) rfl
theorem lx_1290 : (.methodLink "BackBridgeLaw" 147 ⟨"BackBridge", "meet", "(II)I"⟩ : Cond) ∈ sm_wl := sn_m (List.mem_of_getElem? (i := 1290) (by decide +kernel)) rfl
theorem lx_1291 : (.instanceMethod ⟨"BackBridge", "meet", "(II)I"⟩ : Cond) ∈ sm_wl := sn_m (List.mem_of_getElem? (i := 1291) (by decide +kernel)) rfl
theorem lx_1292 : (.selects "BackBridge" ⟨"BackBridge", "meet", "(II)I"⟩ ⟨"BackBridge", "meet", "(II)I"⟩ : Cond) ∈ sm_wl := sn_m (List.mem_of_getElem? (i := 1292) (by decide +kernel)) rfl
theorem lx_1299 : (.methodLink "BackBridgeLaw" 151 ⟨"BackBridge", "meetAt", "(II)I"⟩ : Cond) ∈ sm_wl := sn_m (List.mem_of_getElem? (i := 1299) (by decide +kernel)) rfl
theorem lx_1300 : (.instanceMethod ⟨"BackBridge", "meetAt", "(II)I"⟩ : Cond) ∈ sm_wl := sn_m (List.mem_of_getElem? (i := 1300) (by decide +kernel)) rfl
theorem lx_1301 : (.selects "BackBridge" ⟨"BackBridge", "meetAt", "(II)I"⟩ ⟨"BackBridge", "meetAt", "(II)I"⟩ : Cond) ∈ sm_wl := sn_m (List.mem_of_getElem? (i := 1301) (by decide +kernel)) rfl
theorem lx_1303 : (.methodLink "BackBridgeLaw" 155 ⟨"BackBridge", "shoes", "(II)I"⟩ : Cond) ∈ sm_wl := sn_m (List.mem_of_getElem? (i := 1303) (by decide +kernel)) rfl
theorem lx_1304 : (.instanceMethod ⟨"BackBridge", "shoes", "(II)I"⟩ : Cond) ∈ sm_wl := sn_m (List.mem_of_getElem? (i := 1304) (by decide +kernel)) rfl
theorem lx_1305 : (.selects "BackBridge" ⟨"BackBridge", "shoes", "(II)I"⟩ ⟨"BackBridge", "shoes", "(II)I"⟩ : Cond) ∈ sm_wl := sn_m (List.mem_of_getElem? (i := 1305) (by decide +kernel)) rfl
theorem lx_1338 : (.methodLink "BackBridgeLaw" 159 ⟨"BackBridge", "sure", "(II)I"⟩ : Cond) ∈ sm_wl := sn_m (List.mem_of_getElem? (i := 1338) (by decide +kernel)) rfl
theorem lx_1339 : (.instanceMethod ⟨"BackBridge", "sure", "(II)I"⟩ : Cond) ∈ sm_wl := sn_m (List.mem_of_getElem? (i := 1339) (by decide +kernel)) rfl
theorem lx_1340 : (.selects "BackBridge" ⟨"BackBridge", "sure", "(II)I"⟩ ⟨"BackBridge", "sure", "(II)I"⟩ : Cond) ∈ sm_wl := sn_m (List.mem_of_getElem? (i := 1340) (by decide +kernel)) rfl
theorem lx_1346 : (.methodLink "BackBridgeLaw" 163 ⟨"BackBridge", "ask", "(II)I"⟩ : Cond) ∈ sm_wl := sn_m (List.mem_of_getElem? (i := 1346) (by decide +kernel)) rfl
theorem lx_1347 : (.instanceMethod ⟨"BackBridge", "ask", "(II)I"⟩ : Cond) ∈ sm_wl := sn_m (List.mem_of_getElem? (i := 1347) (by decide +kernel)) rfl
theorem lx_1348 : (.selects "BackBridge" ⟨"BackBridge", "ask", "(II)I"⟩ ⟨"BackBridge", "ask", "(II)I"⟩ : Cond) ∈ sm_wl := sn_m (List.mem_of_getElem? (i := 1348) (by decide +kernel)) rfl
theorem lx_1356 : (.methodLink "BackBridgeLaw" 167 ⟨"BackBridge", "dry", "(III)J"⟩ : Cond) ∈ sm_wl := sn_m (List.mem_of_getElem? (i := 1356) (by decide +kernel)) rfl
theorem lx_1357 : (.instanceMethod ⟨"BackBridge", "dry", "(III)J"⟩ : Cond) ∈ sm_wl := sn_m (List.mem_of_getElem? (i := 1357) (by decide +kernel)) rfl
theorem lx_1358 : (.selects "BackBridge" ⟨"BackBridge", "dry", "(III)J"⟩ ⟨"BackBridge", "dry", "(III)J"⟩ : Cond) ∈ sm_wl := sn_m (List.mem_of_getElem? (i := 1358) (by decide +kernel)) rfl
theorem lx_1372 : (.methodLink "BackBridgeLaw" 171 ⟨"BackBridge", "safest", "(I)I"⟩ : Cond) ∈ sm_wl := sn_m (List.mem_of_getElem? (i := 1372) (by decide +kernel)) rfl
theorem lx_1373 : (.instanceMethod ⟨"BackBridge", "safest", "(I)I"⟩ : Cond) ∈ sm_wl := sn_m (List.mem_of_getElem? (i := 1373) (by decide +kernel)) rfl
theorem lx_1374 : (.selects "BackBridge" ⟨"BackBridge", "safest", "(I)I"⟩ ⟨"BackBridge", "safest", "(I)I"⟩ : Cond) ∈ sm_wl := sn_m (List.mem_of_getElem? (i := 1374) (by decide +kernel)) rfl
theorem lx_1384 : (.methodLink "BackBridgeLaw" 175 ⟨"BackBridge", "numbers", "(III)I"⟩ : Cond) ∈ sm_wl := sn_m (List.mem_of_getElem? (i := 1384) (by decide +kernel)) rfl
theorem lx_1385 : (.instanceMethod ⟨"BackBridge", "numbers", "(III)I"⟩ : Cond) ∈ sm_wl := sn_m (List.mem_of_getElem? (i := 1385) (by decide +kernel)) rfl
theorem lx_1386 : (.selects "BackBridge" ⟨"BackBridge", "numbers", "(III)I"⟩ ⟨"BackBridge", "numbers", "(III)I"⟩ : Cond) ∈ sm_wl := sn_m (List.mem_of_getElem? (i := 1386) (by decide +kernel)) rfl
theorem lx_1393 : (.methodLink "BackBridgeLaw" 181 ⟨"BackBridge", "write", "(IIJ)J"⟩ : Cond) ∈ sm_wl := sn_m (List.mem_of_getElem? (i := 1393) (by decide +kernel)) rfl
theorem lx_1394 : (.instanceMethod ⟨"BackBridge", "write", "(IIJ)J"⟩ : Cond) ∈ sm_wl := sn_m (List.mem_of_getElem? (i := 1394) (by decide +kernel)) rfl
theorem lx_1395 : (.selects "BackBridge" ⟨"BackBridge", "write", "(IIJ)J"⟩ ⟨"BackBridge", "write", "(IIJ)J"⟩ : Cond) ∈ sm_wl := sn_m (List.mem_of_getElem? (i := 1395) (by decide +kernel)) rfl
theorem lx_1403 : (.methodLink "BackBridgeLaw" 186 ⟨"BackBridge", "lists", "(III)I"⟩ : Cond) ∈ sm_wl := sn_m (List.mem_of_getElem? (i := 1403) (by decide +kernel)) rfl
theorem lx_1404 : (.instanceMethod ⟨"BackBridge", "lists", "(III)I"⟩ : Cond) ∈ sm_wl := sn_m (List.mem_of_getElem? (i := 1404) (by decide +kernel)) rfl
theorem lx_1405 : (.selects "BackBridge" ⟨"BackBridge", "lists", "(III)I"⟩ ⟨"BackBridge", "lists", "(III)I"⟩ : Cond) ∈ sm_wl := sn_m (List.mem_of_getElem? (i := 1405) (by decide +kernel)) rfl
theorem lx_1408 : (.methodLink "BackBridgeLaw" 190 ⟨"BackBridge", "image", "(I)I"⟩ : Cond) ∈ sm_wl := sn_m (List.mem_of_getElem? (i := 1408) (by decide +kernel)) rfl
theorem lx_1409 : (.instanceMethod ⟨"BackBridge", "image", "(I)I"⟩ : Cond) ∈ sm_wl := sn_m (List.mem_of_getElem? (i := 1409) (by decide +kernel)) rfl
theorem lx_1410 : (.selects "BackBridge" ⟨"BackBridge", "image", "(I)I"⟩ ⟨"BackBridge", "image", "(I)I"⟩ : Cond) ∈ sm_wl := sn_m (List.mem_of_getElem? (i := 1410) (by decide +kernel)) rfl
theorem lx_1412 : (.methodLink "BackBridgeLaw" 194 ⟨"BackBridge", "restore", "(I)I"⟩ : Cond) ∈ sm_wl := sn_m (List.mem_of_getElem? (i := 1412) (by decide +kernel)) rfl
theorem lx_1413 : (.instanceMethod ⟨"BackBridge", "restore", "(I)I"⟩ : Cond) ∈ sm_wl := sn_m (List.mem_of_getElem? (i := 1413) (by decide +kernel)) rfl
theorem lx_1414 : (.selects "BackBridge" ⟨"BackBridge", "restore", "(I)I"⟩ ⟨"BackBridge", "restore", "(I)I"⟩ : Cond) ∈ sm_wl := sn_m (List.mem_of_getElem? (i := 1414) (by decide +kernel)) rfl
theorem lx_1416 : (.methodLink "BackBridgeLaw" 198 ⟨"BackBridge", "count", "(I)I"⟩ : Cond) ∈ sm_wl := sn_m (List.mem_of_getElem? (i := 1416) (by decide +kernel)) rfl
theorem lx_1417 : (.instanceMethod ⟨"BackBridge", "count", "(I)I"⟩ : Cond) ∈ sm_wl := sn_m (List.mem_of_getElem? (i := 1417) (by decide +kernel)) rfl
theorem lx_1418 : (.selects "BackBridge" ⟨"BackBridge", "count", "(I)I"⟩ ⟨"BackBridge", "count", "(I)I"⟩ : Cond) ∈ sm_wl := sn_m (List.mem_of_getElem? (i := 1418) (by decide +kernel)) rfl
theorem lx_1425 : (.classLink "BackBridgeLaw" 10 "BackBridgeModel" : Cond) ∈ sm_wl := sn_m (List.mem_of_getElem? (i := 1425) (by decide +kernel)) rfl
theorem lx_1426 : (.instantiable "BackBridgeModel" 34 : Cond) ∈ sm_wl := sn_m (List.mem_of_getElem? (i := 1426) (by decide +kernel)) rfl
theorem lx_1427 : (.methodLink "BackBridgeLaw" 12 ⟨"BackBridgeModel", "<init>", "()V"⟩ : Cond) ∈ sm_wl := sn_m (List.mem_of_getElem? (i := 1427) (by decide +kernel)) rfl
theorem lx_1428 : (.instanceMethod ⟨"BackBridgeModel", "<init>", "()V"⟩ : Cond) ∈ sm_wl := sn_m (List.mem_of_getElem? (i := 1428) (by decide +kernel)) rfl
set_option maxRecDepth 100000 in
theorem lx_1429 : (.code ⟨"BackBridgeModel", "<init>", "()V"⟩ prog_14_method_3_code 1 none : Cond) ∈ sm_wl := sn_m (List.mem_of_getElem? (i := 1429) (by rfl)) rfl
theorem lx_1540 : (.methodLink "BackBridgeLaw" 17 ⟨"BackBridgeModel", "feed", "(IIIII)I"⟩ : Cond) ∈ sm_wl := sn_m (List.mem_of_getElem? (i := 1540) (by decide +kernel)) rfl
theorem lx_1541 : (.instanceMethod ⟨"BackBridgeModel", "feed", "(IIIII)I"⟩ : Cond) ∈ sm_wl := sn_m (List.mem_of_getElem? (i := 1541) (by decide +kernel)) rfl
theorem lx_1542 : (.selects "BackBridgeModel" ⟨"BackBridgeModel", "feed", "(IIIII)I"⟩ ⟨"BackBridgeModel", "feed", "(IIIII)I"⟩ : Cond) ∈ sm_wl := sn_m (List.mem_of_getElem? (i := 1542) (by decide +kernel)) rfl
theorem lx_1544 : (.methodLink "BackBridgeLaw" 22 ⟨"BackBridgeModel", "land", "(I)I"⟩ : Cond) ∈ sm_wl := sn_m (List.mem_of_getElem? (i := 1544) (by decide +kernel)) rfl
theorem lx_1545 : (.instanceMethod ⟨"BackBridgeModel", "land", "(I)I"⟩ : Cond) ∈ sm_wl := sn_m (List.mem_of_getElem? (i := 1545) (by decide +kernel)) rfl
theorem lx_1546 : (.selects "BackBridgeModel" ⟨"BackBridgeModel", "land", "(I)I"⟩ ⟨"BackBridgeModel", "land", "(I)I"⟩ : Cond) ∈ sm_wl := sn_m (List.mem_of_getElem? (i := 1546) (by decide +kernel)) rfl
theorem lx_1657 : (.methodLink "BackBridgeLaw" 26 ⟨"BackBridgeModel", "fault", "(I)I"⟩ : Cond) ∈ sm_wl := sn_m (List.mem_of_getElem? (i := 1657) (by decide +kernel)) rfl
theorem lx_1658 : (.instanceMethod ⟨"BackBridgeModel", "fault", "(I)I"⟩ : Cond) ∈ sm_wl := sn_m (List.mem_of_getElem? (i := 1658) (by decide +kernel)) rfl
theorem lx_1659 : (.selects "BackBridgeModel" ⟨"BackBridgeModel", "fault", "(I)I"⟩ ⟨"BackBridgeModel", "fault", "(I)I"⟩ : Cond) ∈ sm_wl := sn_m (List.mem_of_getElem? (i := 1659) (by decide +kernel)) rfl
theorem lx_1661 : (.methodLink "BackBridgeLaw" 31 ⟨"BackBridgeModel", "person", "(II)I"⟩ : Cond) ∈ sm_wl := sn_m (List.mem_of_getElem? (i := 1661) (by decide +kernel)) rfl
theorem lx_1662 : (.instanceMethod ⟨"BackBridgeModel", "person", "(II)I"⟩ : Cond) ∈ sm_wl := sn_m (List.mem_of_getElem? (i := 1662) (by decide +kernel)) rfl
theorem lx_1663 : (.selects "BackBridgeModel" ⟨"BackBridgeModel", "person", "(II)I"⟩ ⟨"BackBridgeModel", "person", "(II)I"⟩ : Cond) ∈ sm_wl := sn_m (List.mem_of_getElem? (i := 1663) (by decide +kernel)) rfl
theorem lx_1672 : (.methodLink "BackBridgeLaw" 35 ⟨"BackBridgeModel", "road", "(II)I"⟩ : Cond) ∈ sm_wl := sn_m (List.mem_of_getElem? (i := 1672) (by decide +kernel)) rfl
theorem lx_1673 : (.instanceMethod ⟨"BackBridgeModel", "road", "(II)I"⟩ : Cond) ∈ sm_wl := sn_m (List.mem_of_getElem? (i := 1673) (by decide +kernel)) rfl
theorem lx_1674 : (.selects "BackBridgeModel" ⟨"BackBridgeModel", "road", "(II)I"⟩ ⟨"BackBridgeModel", "road", "(II)I"⟩ : Cond) ∈ sm_wl := sn_m (List.mem_of_getElem? (i := 1674) (by decide +kernel)) rfl
theorem lx_1681 : (.methodLink "BackBridgeLaw" 39 ⟨"BackBridgeModel", "why", "(II)I"⟩ : Cond) ∈ sm_wl := sn_m (List.mem_of_getElem? (i := 1681) (by decide +kernel)) rfl
theorem lx_1682 : (.instanceMethod ⟨"BackBridgeModel", "why", "(II)I"⟩ : Cond) ∈ sm_wl := sn_m (List.mem_of_getElem? (i := 1682) (by decide +kernel)) rfl
theorem lx_1683 : (.selects "BackBridgeModel" ⟨"BackBridgeModel", "why", "(II)I"⟩ ⟨"BackBridgeModel", "why", "(II)I"⟩ : Cond) ∈ sm_wl := sn_m (List.mem_of_getElem? (i := 1683) (by decide +kernel)) rfl
theorem lx_1721 : (.methodLink "BackBridgeLaw" 43 ⟨"BackBridgeModel", "takes", "(II)I"⟩ : Cond) ∈ sm_wl := sn_m (List.mem_of_getElem? (i := 1721) (by decide +kernel)) rfl
theorem lx_1722 : (.instanceMethod ⟨"BackBridgeModel", "takes", "(II)I"⟩ : Cond) ∈ sm_wl := sn_m (List.mem_of_getElem? (i := 1722) (by decide +kernel)) rfl
theorem lx_1723 : (.selects "BackBridgeModel" ⟨"BackBridgeModel", "takes", "(II)I"⟩ ⟨"BackBridgeModel", "takes", "(II)I"⟩ : Cond) ∈ sm_wl := sn_m (List.mem_of_getElem? (i := 1723) (by decide +kernel)) rfl
theorem lx_1729 : (.methodLink "BackBridgeLaw" 47 ⟨"BackBridgeModel", "go", "(II)I"⟩ : Cond) ∈ sm_wl := sn_m (List.mem_of_getElem? (i := 1729) (by decide +kernel)) rfl
theorem lx_1730 : (.instanceMethod ⟨"BackBridgeModel", "go", "(II)I"⟩ : Cond) ∈ sm_wl := sn_m (List.mem_of_getElem? (i := 1730) (by decide +kernel)) rfl
theorem lx_1731 : (.selects "BackBridgeModel" ⟨"BackBridgeModel", "go", "(II)I"⟩ ⟨"BackBridgeModel", "go", "(II)I"⟩ : Cond) ∈ sm_wl := sn_m (List.mem_of_getElem? (i := 1731) (by decide +kernel)) rfl
theorem lx_1745 : (.methodLink "BackBridgeLaw" 52 ⟨"BackBridgeModel", "give", "(III)I"⟩ : Cond) ∈ sm_wl := sn_m (List.mem_of_getElem? (i := 1745) (by decide +kernel)) rfl
theorem lx_1746 : (.instanceMethod ⟨"BackBridgeModel", "give", "(III)I"⟩ : Cond) ∈ sm_wl := sn_m (List.mem_of_getElem? (i := 1746) (by decide +kernel)) rfl
theorem lx_1747 : (.selects "BackBridgeModel" ⟨"BackBridgeModel", "give", "(III)I"⟩ ⟨"BackBridgeModel", "give", "(III)I"⟩ : Cond) ∈ sm_wl := sn_m (List.mem_of_getElem? (i := 1747) (by decide +kernel)) rfl
theorem lx_1762 : (.methodLink "BackBridgeLaw" 56 ⟨"BackBridgeModel", "forge", "(I)I"⟩ : Cond) ∈ sm_wl := sn_m (List.mem_of_getElem? (i := 1762) (by decide +kernel)) rfl
theorem lx_1763 : (.instanceMethod ⟨"BackBridgeModel", "forge", "(I)I"⟩ : Cond) ∈ sm_wl := sn_m (List.mem_of_getElem? (i := 1763) (by decide +kernel)) rfl
theorem lx_1764 : (.selects "BackBridgeModel" ⟨"BackBridgeModel", "forge", "(I)I"⟩ ⟨"BackBridgeModel", "forge", "(I)I"⟩ : Cond) ∈ sm_wl := sn_m (List.mem_of_getElem? (i := 1764) (by decide +kernel)) rfl
theorem lx_1774 : (.methodLink "BackBridgeLaw" 60 ⟨"BackBridgeModel", "shut", "(I)I"⟩ : Cond) ∈ sm_wl := sn_m (List.mem_of_getElem? (i := 1774) (by decide +kernel)) rfl
theorem lx_1775 : (.instanceMethod ⟨"BackBridgeModel", "shut", "(I)I"⟩ : Cond) ∈ sm_wl := sn_m (List.mem_of_getElem? (i := 1775) (by decide +kernel)) rfl
theorem lx_1776 : (.selects "BackBridgeModel" ⟨"BackBridgeModel", "shut", "(I)I"⟩ ⟨"BackBridgeModel", "shut", "(I)I"⟩ : Cond) ∈ sm_wl := sn_m (List.mem_of_getElem? (i := 1776) (by decide +kernel)) rfl
theorem lx_1778 : (.methodLink "BackBridgeLaw" 64 ⟨"BackBridgeModel", "days", "(I)I"⟩ : Cond) ∈ sm_wl := sn_m (List.mem_of_getElem? (i := 1778) (by decide +kernel)) rfl
theorem lx_1779 : (.instanceMethod ⟨"BackBridgeModel", "days", "(I)I"⟩ : Cond) ∈ sm_wl := sn_m (List.mem_of_getElem? (i := 1779) (by decide +kernel)) rfl
theorem lx_1780 : (.selects "BackBridgeModel" ⟨"BackBridgeModel", "days", "(I)I"⟩ ⟨"BackBridgeModel", "days", "(I)I"⟩ : Cond) ∈ sm_wl := sn_m (List.mem_of_getElem? (i := 1780) (by decide +kernel)) rfl
theorem lx_1787 : (.methodLink "BackBridgeLaw" 68 ⟨"BackBridgeModel", "undo", "(I)I"⟩ : Cond) ∈ sm_wl := sn_m (List.mem_of_getElem? (i := 1787) (by decide +kernel)) rfl
theorem lx_1788 : (.instanceMethod ⟨"BackBridgeModel", "undo", "(I)I"⟩ : Cond) ∈ sm_wl := sn_m (List.mem_of_getElem? (i := 1788) (by decide +kernel)) rfl
theorem lx_1789 : (.selects "BackBridgeModel" ⟨"BackBridgeModel", "undo", "(I)I"⟩ ⟨"BackBridgeModel", "undo", "(I)I"⟩ : Cond) ∈ sm_wl := sn_m (List.mem_of_getElem? (i := 1789) (by decide +kernel)) rfl
theorem lx_1792 : (.methodLink "BackBridgeLaw" 72 ⟨"BackBridgeModel", "judge", "(II)I"⟩ : Cond) ∈ sm_wl := sn_m (List.mem_of_getElem? (i := 1792) (by decide +kernel)) rfl
theorem lx_1793 : (.instanceMethod ⟨"BackBridgeModel", "judge", "(II)I"⟩ : Cond) ∈ sm_wl := sn_m (List.mem_of_getElem? (i := 1793) (by decide +kernel)) rfl
theorem lx_1794 : (.selects "BackBridgeModel" ⟨"BackBridgeModel", "judge", "(II)I"⟩ ⟨"BackBridgeModel", "judge", "(II)I"⟩ : Cond) ∈ sm_wl := sn_m (List.mem_of_getElem? (i := 1794) (by decide +kernel)) rfl
theorem lx_1830 : (.methodLink "BackBridgeLaw" 76 ⟨"BackBridgeModel", "perform", "(I)I"⟩ : Cond) ∈ sm_wl := sn_m (List.mem_of_getElem? (i := 1830) (by decide +kernel)) rfl
theorem lx_1831 : (.instanceMethod ⟨"BackBridgeModel", "perform", "(I)I"⟩ : Cond) ∈ sm_wl := sn_m (List.mem_of_getElem? (i := 1831) (by decide +kernel)) rfl
theorem lx_1832 : (.selects "BackBridgeModel" ⟨"BackBridgeModel", "perform", "(I)I"⟩ ⟨"BackBridgeModel", "perform", "(I)I"⟩ : Cond) ∈ sm_wl := sn_m (List.mem_of_getElem? (i := 1832) (by decide +kernel)) rfl
theorem lx_1834 : (.methodLink "BackBridgeLaw" 80 ⟨"BackBridgeModel", "year", "(II)I"⟩ : Cond) ∈ sm_wl := sn_m (List.mem_of_getElem? (i := 1834) (by decide +kernel)) rfl
theorem lx_1835 : (.instanceMethod ⟨"BackBridgeModel", "year", "(II)I"⟩ : Cond) ∈ sm_wl := sn_m (List.mem_of_getElem? (i := 1835) (by decide +kernel)) rfl
theorem lx_1836 : (.selects "BackBridgeModel" ⟨"BackBridgeModel", "year", "(II)I"⟩ ⟨"BackBridgeModel", "year", "(II)I"⟩ : Cond) ∈ sm_wl := sn_m (List.mem_of_getElem? (i := 1836) (by decide +kernel)) rfl
theorem lx_1848 : (.methodLink "BackBridgeLaw" 84 ⟨"BackBridgeModel", "soonest", "(II)I"⟩ : Cond) ∈ sm_wl := sn_m (List.mem_of_getElem? (i := 1848) (by decide +kernel)) rfl
theorem lx_1849 : (.instanceMethod ⟨"BackBridgeModel", "soonest", "(II)I"⟩ : Cond) ∈ sm_wl := sn_m (List.mem_of_getElem? (i := 1849) (by decide +kernel)) rfl
theorem lx_1850 : (.selects "BackBridgeModel" ⟨"BackBridgeModel", "soonest", "(II)I"⟩ ⟨"BackBridgeModel", "soonest", "(II)I"⟩ : Cond) ∈ sm_wl := sn_m (List.mem_of_getElem? (i := 1850) (by decide +kernel)) rfl
theorem lx_1907 : (.methodLink "BackBridgeLaw" 88 ⟨"BackBridgeModel", "way", "(III)I"⟩ : Cond) ∈ sm_wl := sn_m (List.mem_of_getElem? (i := 1907) (by decide +kernel)) rfl
theorem lx_1908 : (.instanceMethod ⟨"BackBridgeModel", "way", "(III)I"⟩ : Cond) ∈ sm_wl := sn_m (List.mem_of_getElem? (i := 1908) (by decide +kernel)) rfl
theorem lx_1909 : (.selects "BackBridgeModel" ⟨"BackBridgeModel", "way", "(III)I"⟩ ⟨"BackBridgeModel", "way", "(III)I"⟩ : Cond) ∈ sm_wl := sn_m (List.mem_of_getElem? (i := 1909) (by decide +kernel)) rfl
theorem lx_1919 : (.methodLink "BackBridgeLaw" 92 ⟨"BackBridgeModel", "left", "(II)I"⟩ : Cond) ∈ sm_wl := sn_m (List.mem_of_getElem? (i := 1919) (by decide +kernel)) rfl
theorem lx_1920 : (.instanceMethod ⟨"BackBridgeModel", "left", "(II)I"⟩ : Cond) ∈ sm_wl := sn_m (List.mem_of_getElem? (i := 1920) (by decide +kernel)) rfl
theorem lx_1921 : (.selects "BackBridgeModel" ⟨"BackBridgeModel", "left", "(II)I"⟩ ⟨"BackBridgeModel", "left", "(II)I"⟩ : Cond) ∈ sm_wl := sn_m (List.mem_of_getElem? (i := 1921) (by decide +kernel)) rfl
theorem lx_1923 : (.methodLink "BackBridgeLaw" 96 ⟨"BackBridgeModel", "reach", "(I)I"⟩ : Cond) ∈ sm_wl := sn_m (List.mem_of_getElem? (i := 1923) (by decide +kernel)) rfl
theorem lx_1924 : (.instanceMethod ⟨"BackBridgeModel", "reach", "(I)I"⟩ : Cond) ∈ sm_wl := sn_m (List.mem_of_getElem? (i := 1924) (by decide +kernel)) rfl
theorem lx_1925 : (.selects "BackBridgeModel" ⟨"BackBridgeModel", "reach", "(I)I"⟩ ⟨"BackBridgeModel", "reach", "(I)I"⟩ : Cond) ∈ sm_wl := sn_m (List.mem_of_getElem? (i := 1925) (by decide +kernel)) rfl
theorem lx_1927 : (.methodLink "BackBridgeLaw" 101 ⟨"BackBridgeModel", "ways", "(III)J"⟩ : Cond) ∈ sm_wl := sn_m (List.mem_of_getElem? (i := 1927) (by decide +kernel)) rfl
theorem lx_1928 : (.instanceMethod ⟨"BackBridgeModel", "ways", "(III)J"⟩ : Cond) ∈ sm_wl := sn_m (List.mem_of_getElem? (i := 1928) (by decide +kernel)) rfl
theorem lx_1929 : (.selects "BackBridgeModel" ⟨"BackBridgeModel", "ways", "(III)J"⟩ ⟨"BackBridgeModel", "ways", "(III)J"⟩ : Cond) ∈ sm_wl := sn_m (List.mem_of_getElem? (i := 1929) (by decide +kernel)) rfl
theorem lx_1933 : (.methodLink "BackBridgeLaw" 105 ⟨"BackBridgeModel", "needed", "(II)I"⟩ : Cond) ∈ sm_wl := sn_m (List.mem_of_getElem? (i := 1933) (by decide +kernel)) rfl
theorem lx_1934 : (.instanceMethod ⟨"BackBridgeModel", "needed", "(II)I"⟩ : Cond) ∈ sm_wl := sn_m (List.mem_of_getElem? (i := 1934) (by decide +kernel)) rfl
theorem lx_1935 : (.selects "BackBridgeModel" ⟨"BackBridgeModel", "needed", "(II)I"⟩ ⟨"BackBridgeModel", "needed", "(II)I"⟩ : Cond) ∈ sm_wl := sn_m (List.mem_of_getElem? (i := 1935) (by decide +kernel)) rfl
theorem lx_1937 : (.methodLink "BackBridgeLaw" 109 ⟨"BackBridgeModel", "proofs", "(II)I"⟩ : Cond) ∈ sm_wl := sn_m (List.mem_of_getElem? (i := 1937) (by decide +kernel)) rfl
theorem lx_1938 : (.instanceMethod ⟨"BackBridgeModel", "proofs", "(II)I"⟩ : Cond) ∈ sm_wl := sn_m (List.mem_of_getElem? (i := 1938) (by decide +kernel)) rfl
theorem lx_1939 : (.selects "BackBridgeModel" ⟨"BackBridgeModel", "proofs", "(II)I"⟩ ⟨"BackBridgeModel", "proofs", "(II)I"⟩ : Cond) ∈ sm_wl := sn_m (List.mem_of_getElem? (i := 1939) (by decide +kernel)) rfl
theorem lx_1941 : (.methodLink "BackBridgeLaw" 113 ⟨"BackBridgeModel", "waives", "(II)I"⟩ : Cond) ∈ sm_wl := sn_m (List.mem_of_getElem? (i := 1941) (by decide +kernel)) rfl
theorem lx_1942 : (.instanceMethod ⟨"BackBridgeModel", "waives", "(II)I"⟩ : Cond) ∈ sm_wl := sn_m (List.mem_of_getElem? (i := 1942) (by decide +kernel)) rfl
theorem lx_1943 : (.selects "BackBridgeModel" ⟨"BackBridgeModel", "waives", "(II)I"⟩ ⟨"BackBridgeModel", "waives", "(II)I"⟩ : Cond) ∈ sm_wl := sn_m (List.mem_of_getElem? (i := 1943) (by decide +kernel)) rfl
theorem lx_1945 : (.methodLink "BackBridgeLaw" 118 ⟨"BackBridgeModel", "inTime", "()I"⟩ : Cond) ∈ sm_wl := sn_m (List.mem_of_getElem? (i := 1945) (by decide +kernel)) rfl
theorem lx_1946 : (.instanceMethod ⟨"BackBridgeModel", "inTime", "()I"⟩ : Cond) ∈ sm_wl := sn_m (List.mem_of_getElem? (i := 1946) (by decide +kernel)) rfl
theorem lx_1947 : (.selects "BackBridgeModel" ⟨"BackBridgeModel", "inTime", "()I"⟩ ⟨"BackBridgeModel", "inTime", "()I"⟩ : Cond) ∈ sm_wl := sn_m (List.mem_of_getElem? (i := 1947) (by decide +kernel)) rfl
theorem lx_1961 : (.methodLink "BackBridgeLaw" 122 ⟨"BackBridgeModel", "spare", "(I)I"⟩ : Cond) ∈ sm_wl := sn_m (List.mem_of_getElem? (i := 1961) (by decide +kernel)) rfl
theorem lx_1962 : (.instanceMethod ⟨"BackBridgeModel", "spare", "(I)I"⟩ : Cond) ∈ sm_wl := sn_m (List.mem_of_getElem? (i := 1962) (by decide +kernel)) rfl
theorem lx_1963 : (.selects "BackBridgeModel" ⟨"BackBridgeModel", "spare", "(I)I"⟩ ⟨"BackBridgeModel", "spare", "(I)I"⟩ : Cond) ∈ sm_wl := sn_m (List.mem_of_getElem? (i := 1963) (by decide +kernel)) rfl
theorem lx_1965 : (.methodLink "BackBridgeLaw" 126 ⟨"BackBridgeModel", "helped", "()I"⟩ : Cond) ∈ sm_wl := sn_m (List.mem_of_getElem? (i := 1965) (by decide +kernel)) rfl
theorem lx_1966 : (.instanceMethod ⟨"BackBridgeModel", "helped", "()I"⟩ : Cond) ∈ sm_wl := sn_m (List.mem_of_getElem? (i := 1966) (by decide +kernel)) rfl
theorem lx_1967 : (.selects "BackBridgeModel" ⟨"BackBridgeModel", "helped", "()I"⟩ ⟨"BackBridgeModel", "helped", "()I"⟩ : Cond) ∈ sm_wl := sn_m (List.mem_of_getElem? (i := 1967) (by decide +kernel)) rfl
theorem lx_1969 : (.methodLink "BackBridgeLaw" 130 ⟨"BackBridgeModel", "worst", "()I"⟩ : Cond) ∈ sm_wl := sn_m (List.mem_of_getElem? (i := 1969) (by decide +kernel)) rfl
theorem lx_1970 : (.instanceMethod ⟨"BackBridgeModel", "worst", "()I"⟩ : Cond) ∈ sm_wl := sn_m (List.mem_of_getElem? (i := 1970) (by decide +kernel)) rfl
theorem lx_1971 : (.selects "BackBridgeModel" ⟨"BackBridgeModel", "worst", "()I"⟩ ⟨"BackBridgeModel", "worst", "()I"⟩ : Cond) ∈ sm_wl := sn_m (List.mem_of_getElem? (i := 1971) (by decide +kernel)) rfl
theorem lx_1973 : (.methodLink "BackBridgeLaw" 134 ⟨"BackBridgeModel", "loophole", "(I)I"⟩ : Cond) ∈ sm_wl := sn_m (List.mem_of_getElem? (i := 1973) (by decide +kernel)) rfl
theorem lx_1974 : (.instanceMethod ⟨"BackBridgeModel", "loophole", "(I)I"⟩ : Cond) ∈ sm_wl := sn_m (List.mem_of_getElem? (i := 1974) (by decide +kernel)) rfl
theorem lx_1975 : (.selects "BackBridgeModel" ⟨"BackBridgeModel", "loophole", "(I)I"⟩ ⟨"BackBridgeModel", "loophole", "(I)I"⟩ : Cond) ∈ sm_wl := sn_m (List.mem_of_getElem? (i := 1975) (by decide +kernel)) rfl
theorem lx_1981 : (.methodLink "BackBridgeLaw" 138 ⟨"BackBridgeModel", "loopWay", "(II)I"⟩ : Cond) ∈ sm_wl := sn_m (List.mem_of_getElem? (i := 1981) (by decide +kernel)) rfl
theorem lx_1982 : (.instanceMethod ⟨"BackBridgeModel", "loopWay", "(II)I"⟩ : Cond) ∈ sm_wl := sn_m (List.mem_of_getElem? (i := 1982) (by decide +kernel)) rfl
theorem lx_1983 : (.selects "BackBridgeModel" ⟨"BackBridgeModel", "loopWay", "(II)I"⟩ ⟨"BackBridgeModel", "loopWay", "(II)I"⟩ : Cond) ∈ sm_wl := sn_m (List.mem_of_getElem? (i := 1983) (by decide +kernel)) rfl
theorem lx_1985 : (.methodLink "BackBridgeLaw" 142 ⟨"BackBridgeModel", "round", "(I)I"⟩ : Cond) ∈ sm_wl := sn_m (List.mem_of_getElem? (i := 1985) (by decide +kernel)) rfl
theorem lx_1986 : (.instanceMethod ⟨"BackBridgeModel", "round", "(I)I"⟩ : Cond) ∈ sm_wl := sn_m (List.mem_of_getElem? (i := 1986) (by decide +kernel)) rfl
theorem lx_1987 : (.selects "BackBridgeModel" ⟨"BackBridgeModel", "round", "(I)I"⟩ ⟨"BackBridgeModel", "round", "(I)I"⟩ : Cond) ∈ sm_wl := sn_m (List.mem_of_getElem? (i := 1987) (by decide +kernel)) rfl
theorem lx_1989 : (.methodLink "BackBridgeLaw" 146 ⟨"BackBridgeModel", "crosses", "(I)I"⟩ : Cond) ∈ sm_wl := sn_m (List.mem_of_getElem? (i := 1989) (by decide +kernel)) rfl
theorem lx_1990 : (.instanceMethod ⟨"BackBridgeModel", "crosses", "(I)I"⟩ : Cond) ∈ sm_wl := sn_m (List.mem_of_getElem? (i := 1990) (by decide +kernel)) rfl
theorem lx_1991 : (.selects "BackBridgeModel" ⟨"BackBridgeModel", "crosses", "(I)I"⟩ ⟨"BackBridgeModel", "crosses", "(I)I"⟩ : Cond) ∈ sm_wl := sn_m (List.mem_of_getElem? (i := 1991) (by decide +kernel)) rfl
theorem lx_1993 : (.methodLink "BackBridgeLaw" 150 ⟨"BackBridgeModel", "meet", "(II)I"⟩ : Cond) ∈ sm_wl := sn_m (List.mem_of_getElem? (i := 1993) (by decide +kernel)) rfl
theorem lx_1994 : (.instanceMethod ⟨"BackBridgeModel", "meet", "(II)I"⟩ : Cond) ∈ sm_wl := sn_m (List.mem_of_getElem? (i := 1994) (by decide +kernel)) rfl
theorem lx_1995 : (.selects "BackBridgeModel" ⟨"BackBridgeModel", "meet", "(II)I"⟩ ⟨"BackBridgeModel", "meet", "(II)I"⟩ : Cond) ∈ sm_wl := sn_m (List.mem_of_getElem? (i := 1995) (by decide +kernel)) rfl
theorem lx_2001 : (.methodLink "BackBridgeLaw" 154 ⟨"BackBridgeModel", "meetAt", "(II)I"⟩ : Cond) ∈ sm_wl := sn_m (List.mem_of_getElem? (i := 2001) (by decide +kernel)) rfl
theorem lx_2002 : (.instanceMethod ⟨"BackBridgeModel", "meetAt", "(II)I"⟩ : Cond) ∈ sm_wl := sn_m (List.mem_of_getElem? (i := 2002) (by decide +kernel)) rfl
theorem lx_2003 : (.selects "BackBridgeModel" ⟨"BackBridgeModel", "meetAt", "(II)I"⟩ ⟨"BackBridgeModel", "meetAt", "(II)I"⟩ : Cond) ∈ sm_wl := sn_m (List.mem_of_getElem? (i := 2003) (by decide +kernel)) rfl
theorem lx_2005 : (.methodLink "BackBridgeLaw" 158 ⟨"BackBridgeModel", "shoes", "(II)I"⟩ : Cond) ∈ sm_wl := sn_m (List.mem_of_getElem? (i := 2005) (by decide +kernel)) rfl
theorem lx_2006 : (.instanceMethod ⟨"BackBridgeModel", "shoes", "(II)I"⟩ : Cond) ∈ sm_wl := sn_m (List.mem_of_getElem? (i := 2006) (by decide +kernel)) rfl
theorem lx_2007 : (.selects "BackBridgeModel" ⟨"BackBridgeModel", "shoes", "(II)I"⟩ ⟨"BackBridgeModel", "shoes", "(II)I"⟩ : Cond) ∈ sm_wl := sn_m (List.mem_of_getElem? (i := 2007) (by decide +kernel)) rfl
theorem lx_2022 : (.methodLink "BackBridgeLaw" 162 ⟨"BackBridgeModel", "sure", "(II)I"⟩ : Cond) ∈ sm_wl := sn_m (List.mem_of_getElem? (i := 2022) (by decide +kernel)) rfl
theorem lx_2023 : (.instanceMethod ⟨"BackBridgeModel", "sure", "(II)I"⟩ : Cond) ∈ sm_wl := sn_m (List.mem_of_getElem? (i := 2023) (by decide +kernel)) rfl
theorem lx_2024 : (.selects "BackBridgeModel" ⟨"BackBridgeModel", "sure", "(II)I"⟩ ⟨"BackBridgeModel", "sure", "(II)I"⟩ : Cond) ∈ sm_wl := sn_m (List.mem_of_getElem? (i := 2024) (by decide +kernel)) rfl
theorem lx_2026 : (.methodLink "BackBridgeLaw" 166 ⟨"BackBridgeModel", "ask", "(II)I"⟩ : Cond) ∈ sm_wl := sn_m (List.mem_of_getElem? (i := 2026) (by decide +kernel)) rfl
theorem lx_2027 : (.instanceMethod ⟨"BackBridgeModel", "ask", "(II)I"⟩ : Cond) ∈ sm_wl := sn_m (List.mem_of_getElem? (i := 2027) (by decide +kernel)) rfl
theorem lx_2028 : (.selects "BackBridgeModel" ⟨"BackBridgeModel", "ask", "(II)I"⟩ ⟨"BackBridgeModel", "ask", "(II)I"⟩ : Cond) ∈ sm_wl := sn_m (List.mem_of_getElem? (i := 2028) (by decide +kernel)) rfl
theorem lx_2030 : (.methodLink "BackBridgeLaw" 170 ⟨"BackBridgeModel", "dry", "(III)J"⟩ : Cond) ∈ sm_wl := sn_m (List.mem_of_getElem? (i := 2030) (by decide +kernel)) rfl
theorem lx_2031 : (.instanceMethod ⟨"BackBridgeModel", "dry", "(III)J"⟩ : Cond) ∈ sm_wl := sn_m (List.mem_of_getElem? (i := 2031) (by decide +kernel)) rfl
theorem lx_2032 : (.selects "BackBridgeModel" ⟨"BackBridgeModel", "dry", "(III)J"⟩ ⟨"BackBridgeModel", "dry", "(III)J"⟩ : Cond) ∈ sm_wl := sn_m (List.mem_of_getElem? (i := 2032) (by decide +kernel)) rfl
theorem lx_2044 : (.methodLink "BackBridgeLaw" 174 ⟨"BackBridgeModel", "safest", "(I)I"⟩ : Cond) ∈ sm_wl := sn_m (List.mem_of_getElem? (i := 2044) (by decide +kernel)) rfl
theorem lx_2045 : (.instanceMethod ⟨"BackBridgeModel", "safest", "(I)I"⟩ : Cond) ∈ sm_wl := sn_m (List.mem_of_getElem? (i := 2045) (by decide +kernel)) rfl
theorem lx_2046 : (.selects "BackBridgeModel" ⟨"BackBridgeModel", "safest", "(I)I"⟩ ⟨"BackBridgeModel", "safest", "(I)I"⟩ : Cond) ∈ sm_wl := sn_m (List.mem_of_getElem? (i := 2046) (by decide +kernel)) rfl
theorem lx_2048 : (.methodLink "BackBridgeLaw" 178 ⟨"BackBridgeModel", "numbers", "(III)I"⟩ : Cond) ∈ sm_wl := sn_m (List.mem_of_getElem? (i := 2048) (by decide +kernel)) rfl
theorem lx_2049 : (.instanceMethod ⟨"BackBridgeModel", "numbers", "(III)I"⟩ : Cond) ∈ sm_wl := sn_m (List.mem_of_getElem? (i := 2049) (by decide +kernel)) rfl
theorem lx_2050 : (.selects "BackBridgeModel" ⟨"BackBridgeModel", "numbers", "(III)I"⟩ ⟨"BackBridgeModel", "numbers", "(III)I"⟩ : Cond) ∈ sm_wl := sn_m (List.mem_of_getElem? (i := 2050) (by decide +kernel)) rfl
theorem lx_2052 : (.methodLink "BackBridgeLaw" 185 ⟨"BackBridgeModel", "write", "(IIJ)J"⟩ : Cond) ∈ sm_wl := sn_m (List.mem_of_getElem? (i := 2052) (by decide +kernel)) rfl
theorem lx_2053 : (.instanceMethod ⟨"BackBridgeModel", "write", "(IIJ)J"⟩ : Cond) ∈ sm_wl := sn_m (List.mem_of_getElem? (i := 2053) (by decide +kernel)) rfl
theorem lx_2054 : (.selects "BackBridgeModel" ⟨"BackBridgeModel", "write", "(IIJ)J"⟩ ⟨"BackBridgeModel", "write", "(IIJ)J"⟩ : Cond) ∈ sm_wl := sn_m (List.mem_of_getElem? (i := 2054) (by decide +kernel)) rfl
theorem lx_2060 : (.methodLink "BackBridgeLaw" 189 ⟨"BackBridgeModel", "lists", "(III)I"⟩ : Cond) ∈ sm_wl := sn_m (List.mem_of_getElem? (i := 2060) (by decide +kernel)) rfl
theorem lx_2061 : (.instanceMethod ⟨"BackBridgeModel", "lists", "(III)I"⟩ : Cond) ∈ sm_wl := sn_m (List.mem_of_getElem? (i := 2061) (by decide +kernel)) rfl
theorem lx_2062 : (.selects "BackBridgeModel" ⟨"BackBridgeModel", "lists", "(III)I"⟩ ⟨"BackBridgeModel", "lists", "(III)I"⟩ : Cond) ∈ sm_wl := sn_m (List.mem_of_getElem? (i := 2062) (by decide +kernel)) rfl
theorem lx_2064 : (.methodLink "BackBridgeLaw" 193 ⟨"BackBridgeModel", "image", "(I)I"⟩ : Cond) ∈ sm_wl := sn_m (List.mem_of_getElem? (i := 2064) (by decide +kernel)) rfl
theorem lx_2065 : (.instanceMethod ⟨"BackBridgeModel", "image", "(I)I"⟩ : Cond) ∈ sm_wl := sn_m (List.mem_of_getElem? (i := 2065) (by decide +kernel)) rfl
theorem lx_2066 : (.selects "BackBridgeModel" ⟨"BackBridgeModel", "image", "(I)I"⟩ ⟨"BackBridgeModel", "image", "(I)I"⟩ : Cond) ∈ sm_wl := sn_m (List.mem_of_getElem? (i := 2066) (by decide +kernel)) rfl
theorem lx_2068 : (.methodLink "BackBridgeLaw" 197 ⟨"BackBridgeModel", "restore", "(I)I"⟩ : Cond) ∈ sm_wl := sn_m (List.mem_of_getElem? (i := 2068) (by decide +kernel)) rfl
theorem lx_2069 : (.instanceMethod ⟨"BackBridgeModel", "restore", "(I)I"⟩ : Cond) ∈ sm_wl := sn_m (List.mem_of_getElem? (i := 2069) (by decide +kernel)) rfl
theorem lx_2070 : (.selects "BackBridgeModel" ⟨"BackBridgeModel", "restore", "(I)I"⟩ ⟨"BackBridgeModel", "restore", "(I)I"⟩ : Cond) ∈ sm_wl := sn_m (List.mem_of_getElem? (i := 2070) (by decide +kernel)) rfl
theorem lx_2072 : (.methodLink "BackBridgeLaw" 201 ⟨"BackBridgeModel", "count", "(I)I"⟩ : Cond) ∈ sm_wl := sn_m (List.mem_of_getElem? (i := 2072) (by decide +kernel)) rfl
theorem lx_2073 : (.instanceMethod ⟨"BackBridgeModel", "count", "(I)I"⟩ : Cond) ∈ sm_wl := sn_m (List.mem_of_getElem? (i := 2073) (by decide +kernel)) rfl
theorem lx_2074 : (.selects "BackBridgeModel" ⟨"BackBridgeModel", "count", "(I)I"⟩ ⟨"BackBridgeModel", "count", "(I)I"⟩ : Cond) ∈ sm_wl := sn_m (List.mem_of_getElem? (i := 2074) (by decide +kernel)) rfl
theorem lx_2084 : (.constantLong "BackBridgeLaw" 179 (4294967295) : Cond) ∈ sm_wl := sn_m (List.mem_of_getElem? (i := 2084) (by decide +kernel)) rfl
section LM
variable {l : Launch} {D : va_G} {cA : Nat → ClassId} {ad : Nat → Nat} {b : Nat}
/-- behind a call of the small machine, with any cells that may change -/
theorem lq_after {p : Program} {e : Env} {R : Room} {s : State} {m : MethodId} {args : Array Value} {below : List Frame} {meth : Method} {c : Code} {Q : State → Prop} {H : Heap} {locs : List Loc} {la : Array Slot} {st0 rest : List Value} {r : sm_R} {a : Array Value} {A : Nat → Prop} {cells slots pc : Nat} (hA : ∀ q, sn_A ad q → A q) (hr : va_Run p l e R s m args below meth c H locs cells slots 0 0 (F0 m pc la st0) rest (sn_Qc D cA ad r a) (sn_A ad)) (hS : va_S A s.heap H locs) (G : ∀ (H1 : Heap) (locs1 : List Loc), va_P D sm_cls (sn_ws cA ad r.2) H1 → va_S A s.heap H1 locs1 → W p l e R s m args below meth c H1 locs1 cells slots Q (F0 m (pc + 3) la ((r.1.head?.map (sn_tr ad)).toList ++ rest))) : W p l e R s m args below meth c H locs cells slots Q (F0 m pc la st0) := by
  intro T hT X
  obtain ⟨v, st₀, t, T', L, h0, X', hLc, e1, e2, ⟨hv, hP1, hF⟩, st⟩ := hr T hT X
  have hS1 : va_S A s.heap T'.heap (locs ++ L) := by
    refine ⟨?_, fun q hq hn => ?_, fun q hq => ?_⟩
    · have := hF.1
      rw [h0] at this
      rw [e1]
      exact Nat.le_trans hS.1 this
    · rw [e1, hF.2 q (by rw [h0]; exact Nat.lt_of_lt_of_le hq hS.1) (fun z => hn (hA q z)), h0]
      exact hS.2.1 q hq hn
    · rcases List.mem_append.mp hq with z | z
      · exact hS.2.2 q z
      · exact hA _ (hLc q z)
  obtain ⟨t2, a1, b1⟩ := G T'.heap (locs ++ L) (by rw [e1]; exact hP1) hS1 T' rfl X'
  refine ⟨t2, st t2 ?_, b1⟩
  have hv2 : v = r.1.head?.map (sn_tr ad) := Outcome.returned.inj hv
  show Steps p.tables e below (T'.setTop { F0 m pc la st0 with pc := pc + 3, stack := v.toList ++ rest }) t2
  rw [hv2]
  exact a1
theorem lq_inj (had : ∀ i, i < 187 → ad i = b + i) : ∀ i j : Nat, i < sm_NC → j < sm_NC → ad i = ad j → i = j := fun i j hi hj e => by
  rw [had i hi, had j hj] at e
  omega
theorem lq_A (had : ∀ i, i < 187 → ad i = b + i) : ∀ q, sn_A ad q → b ≤ q := fun q hq => by
  obtain ⟨i, hi, e⟩ := hq
  rw [had i hi] at e
  omega
def lm_rm : Room := { frames := 20, cells := 17, slots := 940387, locals := 400 }
def lm_Pc (D : va_G) (cA : Nat → ClassId) (ad : Nat → Nat) (b : Nat) (g : gS) : Array Value → State → Prop := va_Pc [.ref (ad 169)] (fun U => (g_ok g ∧ va_P D sm_cls (g_ws cA ad g) U.heap ∧ U.heap.size = b + g.1 ∧ va_K D sm_cls (sm_tys cA) U ∧ g_N U) ∧ sn_SK ad U U.heap)
def lm_Qc (D : va_G) (cA : Nat → ClassId) (ad : Nat → Nat) (b : Nat) : Array Value → State → Outcome → State → Prop := fun _ st oc t => oc = .returned none ∧ (∃ h : sm_H, JI 0 h ∧ va_P D sm_cls (sn_ws cA ad h) t.heap) ∧ va_F (fun q => b ≤ q) st t
theorem lm_blind {g : gS} : FrameBlind (lm_Pc D cA ad b g) := fun a U g mk q => ⟨q.1, ⟨q.2.1.1, q.2.1.2.1, q.2.1.2.2.1, va_K.moved (u := U) (U := U.calling g mk a) (Vm.Alike.refl U.vm) q.2.1.2.2.2.1, g_N.same (u := U) (U := U.calling g mk a) rfl q.2.1.2.2.2.2⟩, (sn_SKok ad).2.1 U _ _ rfl q.2.2⟩
theorem lm_k : (g_s g_bb 1).1 = 170 := by rw [show (g_s g_bb 1).1 = g_bb.1 + 1 from rfl, bb_k]
theorem lm_met (had : ∀ i, i < 187 → ad i = b + i) : Met l ⟨"BackBridgeModel", "<init>", "()V"⟩ (sn_wd ⟨"BackBridgeModel", "<init>", "()V"⟩ prog_14_method_3_code 1 none) lm_rm (lm_Pc D cA ad b (g_s g_bb 1)) (lm_Qc D cA ad b) 17 940387 (fun q => b ≤ q) := by
  refine Met.ofW (cc := prog_14_method_3_code) (maxL := 1) (ret := none) (by decide +kernel) rfl ?_
  intro p e s m args below meth c s₁ B hml hv
  obtain ⟨rfl, ⟨hz, hP, hs, hK, hN⟩, hSK⟩ := hv
  have hts := atoms_spec (ws := sn_wd ⟨"BackBridgeModel", "<init>", "()V"⟩ prog_14_method_3_code 1 none) B.pre
  have hown : s.vm.findClass "BackBridgeModel" = some m.cls := findClass_of_methodNamed B.named
  have hin : meth.name = "<init>" := (name_of_methodNamed B.named B.method).1
  have hbs : b ≤ s.heap.size := by omega
  have C : g_C D cA ad b p lm_rm s m ([.ref (ad 169)] : List Value).toArray meth c prog_14_method_3_code "BackBridgeModel" 1 true := ⟨B.exec, B.bytes, hml, hown, fun w hw => hts w (List.mem_cons_of_mem _ hw), hK, (Nat.le_of_ble_eq_true rfl), (Nat.le_of_ble_eq_true rfl), had, hbs, hN, fun _ => ⟨hin, B.returns, B.notSynchronized⟩⟩
  have hl := lv_entry [.ref (ad 169)] (n := 1) (Nat.le_of_ble_eq_true rfl)
  rw [lg_entry_eq]
  refine k_Model_169 lm_k (Nat.le_refl _) (Nat.le_refl _) C ?_ s.heap [] _ hz hP (by omega) va_S.rf hl
  refine gq_aload C gd_Model_171 rfl 0 rfl ?_
  refine gq_getr (ci := 12) (C0 := R_Model) (T := T_Model) (N := 34) (k := 1) (a := 169) (v := 170) C gd_Model_172 rfl in_Model rfl (by decide) mw_1437 kd_169 (by decide) (show 169 < g_fin.1 by rw [fin_k]; decide) rfl ?_
  intro H locs la z hP hy hS hl
  have hP0 : va_P D sm_cls (sn_ws cA ad h0) H := fin_to hP
  obtain ⟨h2, e2, a2, E2⟩ := m_plain0 (h := h0)
  have hM := (sn_callF (l := l) (D := D) (cA := cA) (pa_prog (lq_inj had)) (show sm_cl sm_P sm_rk sm_mL 148 [.ref 170] h0 = some ([], h2) from e2) rfl).2.2
  have hSK1 : sn_SK ad s H := (sn_SKok ad).2.2 s s.heap H (fun q h1 hn => hS.2.1 q h1 (fun hb => hn ⟨q - b, by show q - b < 187; rw [hs, lm_k] at h1; omega, by rw [had _ (by rw [hs, lm_k] at h1; omega)]; omega⟩)) hSK
  refine lq_after (A := fun q => b ≤ q) (lq_A had) (va_runS (As := [.ref (ad 170)]) (rest := []) ⟨C.1, C.2.1, C.2.2.1, C.2.2.2.1, C.2.2.2.2.1⟩ hM ⟨callB_of 1 C.2.2.2.2.1 (sn_goodw mw_1435) rfl rfl rfl (C.2.2.2.2.1 _ mw_123) (C.2.2.2.2.1 _ mw_1433) ⟨by decide +kernel, by decide +kernel, by decide +kernel⟩ ⟨(Nat.le_of_ble_eq_true rfl), (Nat.le_of_ble_eq_true rfl)⟩, C.2.2.2.2.1 _ mw_1434⟩ ⟨sn_blind (sn_SKok ad), fun U hU hW => ⟨rfl, by rw [hU]; exact hP0, va_K.moved hW.alike hK, by rw [hU]; exact (sn_SKok ad).1 s U H hW hSK1⟩⟩ rfl rfl hl.1 rfl (lv_room (Nat.le_of_ble_eq_true rfl)) gd_Model_175 ⟨(Nat.le_of_ble_eq_true rfl), (Nat.le_of_ble_eq_true rfl)⟩) hS (fun H1 locs1 hP1 hS1 => ?_)
  exact W.vret C.1 C.2.1 B.returns (fun t ht hw => ⟨rfl, ⟨h2, JI_init a2 E2, by rw [ht]; exact hP1⟩, hS1.F ht⟩) (fun q hq => hS1.2.2 q hq) gd_Model_178 B.notSynchronized
theorem lm_after {p : Program} {e : Env} {R : Room} {s : State} {m : MethodId} {args : Array Value} {below : List Frame} {meth : Method} {c : Code} {Q : State → Prop} {H : Heap} {locs : List Loc} {la : Array Slot} {st0 rest : List Value} {a : Array Value} {cells slots mc ms pc : Nat} (hr : va_Run p l e R s m args below meth c H locs cells slots mc ms (F0 m pc la st0) rest (lm_Qc D cA ad b a) (fun q => b ≤ q)) (hS : va_S (fun q => b ≤ q) s.heap H locs) (G : ∀ (H1 : Heap) (locs1 : List Loc) (h : sm_H), JI 0 h → va_P D sm_cls (sn_ws cA ad h) H1 → va_S (fun q => b ≤ q) s.heap H1 locs1 → W p l e R s m args below meth c H1 locs1 (cells + mc) (slots + ms) Q (F0 m (pc + 3) la rest)) : W p l e R s m args below meth c H locs cells slots Q (F0 m pc la st0) := by
  intro T hT X
  obtain ⟨v, st₀, t, T', L, h0, X', hLc, e1, e2, ⟨hv, ⟨h, J, hP1⟩, hF⟩, st⟩ := hr T hT X
  have hS1 : va_S (fun q => b ≤ q) s.heap T'.heap (locs ++ L) := by
    refine ⟨?_, fun q hq hn => ?_, fun q hq => ?_⟩
    · have := hF.1
      rw [h0] at this
      rw [e1]
      exact Nat.le_trans hS.1 this
    · rw [e1, hF.2 q (by rw [h0]; exact Nat.lt_of_lt_of_le hq hS.1) hn, h0]
      exact hS.2.1 q hq hn
    · rcases List.mem_append.mp hq with z | z
      · exact hS.2.2 q z
      · exact hLc q z
  obtain ⟨t2, a1, b1⟩ := G T'.heap (locs ++ L) h J (by rw [e1]; exact hP1) hS1 T' rfl X'
  refine ⟨t2, st t2 ?_, b1⟩
  have hv2 : v = none := Outcome.returned.inj hv
  subst hv2
  exact a1
end LM
section LZ
variable {l : Launch} {D : va_G} {cA : Nat → ClassId} {ad : Nat → Nat} {p : Program} {e : Env} {s : State} {m : MethodId} {below : List Frame} {meth : Method} {c : Code} {b L : Nat} {xs : Nat → Int32} {k pc : Nat} {st : List Value} {h : sm_H}
def lz_lv (ad : Nat → Nat) (b : Nat) (x : Int32) : List (Nat × Value) := [(3, .int x), (2, .ref (ad 169)), (1, .ref (ad 0)), (0, .ref b)]
def lz_C (D : va_G) (cA : Nat → ClassId) (ad : Nat → Nat) (p : Program) (s : State) (m : MethodId) (meth : Method) (c : Code) (b L : Nat) (xs : Nat → Int32) : Prop :=
  p.tables.exec = Jvm.exec ∧ c.code = code ∧ c.maxLocals = 4 ∧ s.vm.findClass R_law = some m.cls ∧ (∀ w ∈ sm_wl, w.before #[Value.ref b] s = true) ∧ va_K D sm_cls (sm_tys cA) s ∧ sn_SK ad s s.heap ∧ (∀ i, i < 187 → ad i = s.heap.size + i) ∧ va_X b L xs s s.heap ∧ b < s.heap.size ∧ L ≤ 3072
def lz_G (l : Launch) (D : va_G) (cA : Nat → ClassId) (ad : Nat → Nat) (p : Program) (e : Env) (s : State) (m : MethodId) (below : List Frame) (meth : Method) (c : Code) (b k pc : Nat) (st : List Value) (h : sm_H) : Prop :=
  ∀ (H : Heap) (locs : List Loc) (la : Array Slot), va_P D sm_cls (sn_ws cA ad h) H → va_S (fun q => s.heap.size ≤ q) s.heap H locs → lv_has la 4 (lz_lv ad b (nI k)) → W p l e room_1 s m #[Value.ref b] below meth c H locs 600000 7302250 (lw_Z below #[Value.ref b] s) (F0 m pc la st)
theorem lz_x (C : lz_C D cA ad p s m meth c b L xs) (hd : decode code pc = .ok (.aload_n 1, 1)) (G : lz_G l D cA ad p e s m below meth c b k (pc + 1) (.ref (ad 0) :: st) h) : lz_G l D cA ad p e s m below meth c b k pc st h := fun H locs la hP hS hl => lv_aload_n C.1 C.2.1 hd rfl (lv_at hl 2 rfl) (G H locs la hP hS hl)
theorem lz_m (C : lz_C D cA ad p s m meth c b L xs) (hd : decode code pc = .ok (.aload_n 2, 1)) (G : lz_G l D cA ad p e s m below meth c b k (pc + 1) (.ref (ad 169) :: st) h) : lz_G l D cA ad p e s m below meth c b k pc st h := fun H locs la hP hS hl => lv_aload_n C.1 C.2.1 hd rfl (lv_at hl 1 rfl) (G H locs la hP hS hl)
theorem lz_ld {i : Nat} (C : lz_C D cA ad p s m meth c b L xs) (hi : i < L) (hd : decode code pc = .ok (.iaload, 1)) (G : lz_G l D cA ad p e s m below meth c b k (pc + 1) (.int (xs i) :: st) h) : lz_G l D cA ad p e s m below meth c b k pc (.int (nI i) :: .ref b :: st) h := fun H locs la hP hS hl => by
  have hL : L ≤ 3072 := C.2.2.2.2.2.2.2.2.2.2
  have hbl : b < s.heap.size := C.2.2.2.2.2.2.2.2.2.1
  refine va_sld C.1 C.2.1 C.2.2.2.2.2.2.2.2.1 hbl (Nat.not_le.mpr hbl) hS (i := nI i) (vp_in_nI hi (by omega)) hd ?_
  rw [nI_clamp (by omega)]
  exact G H locs la hP hS hl
theorem lz_arg {j : Nat} {n : Int} (C : lz_C D cA ad p s m meth c b L xs) (hk : k + 6 ≤ L) (hj : j < 6) (hn : Int32.ofInt n = nI j) (d0 : decode code pc = .ok (.aload_n 0, 1)) (d1 : decode code (pc + 1) = .ok (.iload_n 3, 1)) (d2 : decode code (pc + 2) = .ok (.iconst n, 1)) (d3 : decode code (pc + 3) = .ok (.iadd, 1)) (d4 : decode code (pc + 4) = .ok (.iaload, 1)) (G : lz_G l D cA ad p e s m below meth c b k (pc + 5) (.int (xs (k + j)) :: st) h) : lz_G l D cA ad p e s m below meth c b k pc st h := fun H locs la hP hS hl => by
  refine lv_aload_n C.1 C.2.1 d0 rfl (lv_at hl 3 rfl) ?_
  refine lv_iload_n C.1 C.2.1 d1 rfl (lv_at hl 0 rfl) ?_
  refine lv_iconst (v := nI j) C.1 C.2.1 d2 hn ?_
  refine lv_iadd C.1 C.2.1 d3 ?_
  rw [nI_add]
  exact lz_ld (pc := pc + 4) C (by omega) d4 G H locs la hP hS hl
theorem lz_call {y a ci idx N : Nat} {T : u_T} {as : List Value} {v : Value} {h1 : sm_H} (C : lz_C D cA ad p s m meth c b L xs) (hd : decode code pc = .ok (.invokevirtual idx, 3)) (hc : xc y (.ref a :: as) h = some ([v], h1)) (hfit : sm_fit (sm_mL y) (.ref a :: as) = true) (hcode : Cond.code (sm_nm y) (sm_by y) (sm_mL y) (sm_rt y) ∈ sm_wl) (hini : Cond.initialized (sm_nm y).cls ∈ sm_wl) (hlink : Cond.methodLink R_law idx (sm_nm y) ∈ sm_wl) (hne : (sm_nm y).cls ≠ "java/lang/invoke/MethodHandle" ∧ (sm_nm y).cls ≠ "java/lang/invoke/VarHandle") (hnp : (parseMethodDescriptor (sm_nm y).desc).map (fun d => d.parameters.length) = some as.length) (hinst : Cond.instanceMethod (sm_nm y) ∈ sm_wl) (hsel : Cond.selects (sm_nm y).cls (sm_nm y) (sm_nm y) ∈ sm_wl) (hcl : sm_cls[ci]? = some ((sm_nm y).cls, T, N)) (hkd : sm_kd a = 10 + ci) (hci : ci < 80) (hmap : as.map (sn_tr ad) = as) (hv : sn_tr ad v = v) (hrk : sm_rk y (.ref a :: as) ≤ 1000) (hst : (st.map fun v => v.category).sum ≤ 8) (G : lz_G l D cA ad p e s m below meth c b k (pc + 3) (v :: st) h1) : lz_G l D cA ad p e s m below meth c b k pc (as.reverse ++ .ref (ad a) :: st) h := by
  intro H locs la hP hS hl
  have had := C.2.2.2.2.2.2.2.1
  have hK := C.2.2.2.2.2.1
  have hts := C.2.2.2.2.1
  obtain ⟨-, hm20, hM⟩ := sn_callF (l := l) (D := D) (cA := cA) (pa_prog (lq_inj had)) (show sm_cl sm_P sm_rk sm_mL y (.ref a :: as) h = some ([v], h1) from hc) hfit
  have hSK1 : sn_SK ad s H := (sn_SKok ad).2.2 s s.heap H (fun q h1 _ => hS.2.1 q h1 (Nat.not_le.mpr h1)) C.2.2.2.2.2.2.1
  have hp : PreV s H (sm_nm y).cls (ad a) (sn_Pc D cA ad (sn_SK ad) (.ref a :: as) h) as := ⟨sn_blind (sn_SKok ad), va_recv hK hP hcl (sn_ho hkd hci), fun U hU hW => ⟨by show _ = (Value.ref (ad a) :: as.map (sn_tr ad)).toArray; rw [hmap], by rw [hU]; exact hP, va_K.moved hW.alike hK, by rw [hU]; exact (sn_SKok ad).1 s U H hW hSK1⟩⟩
  refine lq_after (A := fun q => s.heap.size ≤ q) (lq_A had) (va_runV (C := (sm_nm y).cls) (b := ad a) (As := as) (rest := st) ⟨C.1, C.2.1, C.2.2.1, C.2.2.2.1, hts⟩ hM ⟨callB_of as.length hts (sn_goodw hcode) rfl rfl rfl (hts _ hini) (hts _ hlink) ⟨hne.1, hne.2, hnp⟩ ⟨?_, ?_⟩, hts _ hinst, hts _ hsel⟩ hp rfl rfl hl.1 rfl (lv_room hst) hd ⟨Nat.le_refl _, Nat.le_refl _⟩) hS (fun H1 locs1 hP1 hS1 => ?_)
  · show sm_rk y (.ref a :: as) + 8 + 1 ≤ 2048
    omega
  · show 8 + (sm_mL y + 11) + (40 * (sm_rk y (.ref a :: as) + 1) + 200) ≤ 84000
    omega
  · have g := G H1 locs1 la hP1 hS1 hl
    show W p l e room_1 s m #[Value.ref b] below meth c H1 locs1 600000 7302250 (lw_Z below #[Value.ref b] s) (F0 m (pc + 3) la (sn_tr ad v :: st))
    rw [hv]
    exact g
theorem lz_eq {v : Int32} {off : Int} {tgt : Nat} (C : lz_C D cA ad p s m meth c b L xs) (hd : decode code pc = .ok (.if_icmp .eq off, 3)) (ht : (pc : Int) + off = (tgt : Int)) (G : lz_G l D cA ad p e s m below meth c b k tgt st h) : lz_G l D cA ad p e s m below meth c b k pc (.int v :: .int v :: st) h := fun H locs la hP hS hl => lv_icmp_eq C.1 C.2.1 hd ht (fun _ => G H locs la hP hS hl) (fun n => absurd rfl n)
theorem lz_leq {v : Int64} {off : Int} {tgt : Nat} (C : lz_C D cA ad p s m meth c b L xs) (hd : decode code pc = .ok (.lcmp, 1)) (hd1 : decode code (pc + 1) = .ok (.ifCond .eq off, 3)) (ht : ((pc + 1 : Nat) : Int) + off = (tgt : Int)) (G : lz_G l D cA ad p e s m below meth c b k tgt st h) : lz_G l D cA ad p e s m below meth c b k pc (.long v :: .long v :: st) h := fun H locs la hP hS hl => by
  refine W.lcmp C.1 C.2.1 hd ?_
  exact lv_if_eq C.1 C.2.1 hd1 ht (fun _ => G H locs la hP hS hl) (fun n => absurd ((lg_cmp_eq v v).mpr rfl) n)
def lz_w (x y : Int32) : Int64 := (x.toInt64 <<< ((32 : Int32).toInt64 &&& 63)) ||| (y.toInt64 &&& 4294967295)
theorem lz_long1 {x : Int32} (C : lz_C D cA ad p s m meth c b L xs) (d0 : decode code pc = .ok (.i2l, 1)) (d1 : decode code (pc + 1) = .ok (.bipush 32, 2)) (d2 : decode code (pc + 3) = .ok (.lshl, 1)) (G : lz_G l D cA ad p e s m below meth c b k (pc + 4) (.long (x.toInt64 <<< ((32 : Int32).toInt64 &&& 63)) :: st) h) : lz_G l D cA ad p e s m below meth c b k pc (.int x :: st) h := fun H locs la hP hS hl => by
  refine lv_i2l C.1 C.2.1 d0 rfl ?_
  refine lv_bipush (v := 32) C.1 C.2.1 d1 (by decide) ?_
  refine lv_lshl C.1 C.2.1 d2 rfl ?_
  exact G H locs la hP hS hl
theorem lz_long2 {x : Int32} {z : Int64} (C : lz_C D cA ad p s m meth c b L xs) (d0 : decode code pc = .ok (.i2l, 1)) (d1 : decode code (pc + 1) = .ok (.ldc2_w 179, 3)) (d2 : decode code (pc + 4) = .ok (.land, 1)) (d3 : decode code (pc + 5) = .ok (.lor, 1)) (G : lz_G l D cA ad p e s m below meth c b k (pc + 6) (.long (z ||| (x.toInt64 &&& 4294967295)) :: st) h) : lz_G l D cA ad p e s m below meth c b k pc (.int x :: .long z :: st) h := fun H locs la hP hS hl => by
  refine lv_i2l C.1 C.2.1 d0 rfl ?_
  refine lv_ldc2 C.1 C.2.1 C.2.2.2.1 (C.2.2.2.2.1 _ lx_2084) d1 ?_
  refine lv_land C.1 C.2.1 d2 ?_
  refine lv_lor C.1 C.2.1 d3 ?_
  exact G H locs la hP hS hl
theorem lz_63 (x : Int32) : ∃ j : Nat, j < 64 ∧ x &&& 63 = nI j := by
  refine ⟨(x &&& 63).toBitVec.toNat, ?_, ?_⟩
  · rw [show (x &&& 63).toBitVec = x.toBitVec &&& (nI 63).toBitVec from rfl, BitVec.toNat_and]
    exact Nat.lt_of_le_of_lt Nat.and_le_right (by decide)
  · apply Int32.toBitVec_inj.mp
    apply BitVec.eq_of_toNat_eq
    show _ = (BitVec.ofNat 32 _).toNat
    rw [BitVec.toNat_ofNat, Nat.mod_eq_of_lt (BitVec.isLt _)]
end LZ
