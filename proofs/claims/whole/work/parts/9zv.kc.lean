/-! ===== the constructors (written by program) ===== -/
section KC
variable {l : Launch} {D : va_G} {cA : Nat → ClassId} {ad : Nat → Nat} {b : Nat}
def e_Law_12 (g : gS) : gS := (g_r (g_s (g_r (g_s g 1) 12 0 13) 1) 12 1 14)
theorem k_Law_12 (had : ∀ i, i < 187 → ad i = b + i) {g : gS} (hg : g.1 = 13) : Met l ⟨"BackBridge$Law", "<init>", "()V"⟩ (sn_wd ⟨"BackBridge$Law", "<init>", "()V"⟩ prog_6_method_1_code 1 none) (g_rm 0 2 964) (g_Pc D cA ad b [.ref (ad 12)] g) (g_Qc D cA ad b (e_Law_12 g)) 2 964 (fun q => b ≤ q) :=
  gq_met (by decide +kernel) rfl had (Nat.le_of_ble_eq_true rfl) (fun C hQ => by
    refine gq_aload C gd_Law_0 rfl 0 rfl ?_
    refine gq_oinit C gd_Law_1 gw_153 gw_140 gw_141 (Nat.le_of_ble_eq_true rfl) ?_
    refine gq_aload C gd_Law_4 rfl 0 rfl ?_
    refine gq_sipush (v := (900)) C gd_Law_5 (by decide) ?_
    refine gx_newa (kk := 13) (t := 0) (N := 900) (ty := .int) C gd_Law_8 (g_k (a := g.1) (n := 0) rfl (by omega)) rfl gw_168 rfl (by decide) (fun h => h) rfl (by decide) (by decide) kd_13 ln_13 (by decide) (Nat.le_of_ble_eq_true rfl) (Nat.le_of_ble_eq_true rfl) (Nat.le_of_ble_eq_true rfl) ?_
    refine gq_putF (ci := 4) (C0 := R_Law) (T := T_Law) (N := 3) (k := 0) (a := 12) (v := 13) C gd_Law_10 rfl in_Law t_Law ty_Law n_Law rfl (by decide) mw_154 rfl rfl rfl rfl rfl kd_12 rfl (g_lt (a := g.1) (n := 1) (c := 12) rfl (by omega)) ?_
    refine gq_aload C gd_Law_13 rfl 0 rfl ?_
    refine gq_bipush (v := (64)) C gd_Law_14 (by decide) ?_
    refine gx_newa (kk := 14) (t := 0) (N := 64) (ty := .int) C gd_Law_16 (g_k (a := g.1) (n := 1) rfl (by omega)) rfl gw_168 rfl (by decide) (fun h => h) rfl (by decide) (by decide) kd_14 ln_14 (by decide) (Nat.le_of_ble_eq_true rfl) (Nat.le_of_ble_eq_true rfl) (Nat.le_of_ble_eq_true rfl) ?_
    refine gq_putF (ci := 4) (C0 := R_Law) (T := T_Law) (N := 3) (k := 1) (a := 12) (v := 14) C gd_Law_18 rfl in_Law t_Law ty_Law n_Law rfl (by decide) mw_155 rfl rfl rfl rfl rfl kd_12 rfl (g_lt (a := g.1) (n := 2) (c := 12) rfl (by omega)) ?_
    exact gq_ret C gd_Law_21 hQ)
def e_Law_15 (g : gS) : gS := (g_r (g_s (g_r (g_s g 1) 15 0 16) 1) 15 1 17)
theorem k_Law_15 (had : ∀ i, i < 187 → ad i = b + i) {g : gS} (hg : g.1 = 16) : Met l ⟨"BackBridge$Law", "<init>", "()V"⟩ (sn_wd ⟨"BackBridge$Law", "<init>", "()V"⟩ prog_6_method_1_code 1 none) (g_rm 0 2 964) (g_Pc D cA ad b [.ref (ad 15)] g) (g_Qc D cA ad b (e_Law_15 g)) 2 964 (fun q => b ≤ q) :=
  gq_met (by decide +kernel) rfl had (Nat.le_of_ble_eq_true rfl) (fun C hQ => by
    refine gq_aload C gd_Law_0 rfl 0 rfl ?_
    refine gq_oinit C gd_Law_1 gw_153 gw_140 gw_141 (Nat.le_of_ble_eq_true rfl) ?_
    refine gq_aload C gd_Law_4 rfl 0 rfl ?_
    refine gq_sipush (v := (900)) C gd_Law_5 (by decide) ?_
    refine gx_newa (kk := 16) (t := 0) (N := 900) (ty := .int) C gd_Law_8 (g_k (a := g.1) (n := 0) rfl (by omega)) rfl gw_168 rfl (by decide) (fun h => h) rfl (by decide) (by decide) kd_16 ln_16 (by decide) (Nat.le_of_ble_eq_true rfl) (Nat.le_of_ble_eq_true rfl) (Nat.le_of_ble_eq_true rfl) ?_
    refine gq_putF (ci := 4) (C0 := R_Law) (T := T_Law) (N := 3) (k := 0) (a := 15) (v := 16) C gd_Law_10 rfl in_Law t_Law ty_Law n_Law rfl (by decide) mw_154 rfl rfl rfl rfl rfl kd_15 rfl (g_lt (a := g.1) (n := 1) (c := 15) rfl (by omega)) ?_
    refine gq_aload C gd_Law_13 rfl 0 rfl ?_
    refine gq_bipush (v := (64)) C gd_Law_14 (by decide) ?_
    refine gx_newa (kk := 17) (t := 0) (N := 64) (ty := .int) C gd_Law_16 (g_k (a := g.1) (n := 1) rfl (by omega)) rfl gw_168 rfl (by decide) (fun h => h) rfl (by decide) (by decide) kd_17 ln_17 (by decide) (Nat.le_of_ble_eq_true rfl) (Nat.le_of_ble_eq_true rfl) (Nat.le_of_ble_eq_true rfl) ?_
    refine gq_putF (ci := 4) (C0 := R_Law) (T := T_Law) (N := 3) (k := 1) (a := 15) (v := 17) C gd_Law_18 rfl in_Law t_Law ty_Law n_Law rfl (by decide) mw_155 rfl rfl rfl rfl rfl kd_15 rfl (g_lt (a := g.1) (n := 2) (c := 15) rfl (by omega)) ?_
    exact gq_ret C gd_Law_21 hQ)
def e_Land_2 (g : gS) : gS := (g_r (e_Law_15 (g_s (g_r (e_Law_12 (g_s (g_r (g_s (g_r (g_s (g_r (g_s (g_r (g_s (g_r (g_s (g_r (g_s (g_r (g_s (g_r (g_s (g_r (g_s (g_i g 2 0 (2)) 1) 2 5 3) 1) 2 6 4) 1) 2 7 5) 1) 2 8 6) 1) 2 9 7) 1) 2 10 8) 1) 2 11 9) 1) 2 12 10) 1) 2 13 11) 1)) 2 14 12) 1)) 2 15 15)
theorem k_Land_2 (had : ∀ i, i < 187 → ad i = b + i) {g : gS} (hg : g.1 = 3) : Met l ⟨"BackBridge$Land", "<init>", "()V"⟩ (sn_wd ⟨"BackBridge$Land", "<init>", "()V"⟩ prog_5_method_1_code 1 none) (g_rm 1 15 2012) (g_Pc D cA ad b [.ref (ad 2)] g) (g_Qc D cA ad b (e_Land_2 g)) 15 2012 (fun q => b ≤ q) :=
  gq_met (by decide +kernel) rfl had (Nat.le_of_ble_eq_true rfl) (fun C hQ => by
    refine gq_aload C gd_Land_0 rfl 0 rfl ?_
    refine gq_oinit C gd_Land_1 gw_147 gw_140 gw_141 (Nat.le_of_ble_eq_true rfl) ?_
    refine gq_aload C gd_Land_4 rfl 0 rfl ?_
    refine gq_iconst (v := (2)) C gd_Land_5 (by decide) ?_
    refine gq_puti (ci := 3) (C0 := R_Land) (T := T_Land) (N := 16) (k := 0) (a := 2) (v := (2)) C gd_Land_6 rfl in_Land t_Land ty_Land n_Land rfl (by decide) mw_169 rfl rfl kd_2 rfl (g_lt (a := g.1) (n := 0) (c := 2) rfl (by omega)) ?_
    refine gq_aload C gd_Land_9 rfl 0 rfl ?_
    refine gq_bipush (v := (12)) C gd_Land_10 (by decide) ?_
    refine gx_newa (kk := 3) (t := 0) (N := 12) (ty := .int) C gd_Land_12 (g_k (a := g.1) (n := 0) rfl (by omega)) rfl gw_168 rfl (by decide) (fun h => h) rfl (by decide) (by decide) kd_3 ln_3 (by decide) (Nat.le_of_ble_eq_true rfl) (Nat.le_of_ble_eq_true rfl) (Nat.le_of_ble_eq_true rfl) ?_
    refine gq_putF (ci := 3) (C0 := R_Land) (T := T_Land) (N := 16) (k := 5) (a := 2) (v := 3) C gd_Land_14 rfl in_Land t_Land ty_Land n_Land rfl (by decide) mw_194 rfl rfl rfl rfl rfl kd_2 rfl (g_lt (a := g.1) (n := 1) (c := 2) rfl (by omega)) ?_
    refine gq_aload C gd_Land_17 rfl 0 rfl ?_
    refine gq_bipush (v := (12)) C gd_Land_18 (by decide) ?_
    refine gx_newa (kk := 4) (t := 0) (N := 12) (ty := .int) C gd_Land_20 (g_k (a := g.1) (n := 1) rfl (by omega)) rfl gw_168 rfl (by decide) (fun h => h) rfl (by decide) (by decide) kd_4 ln_4 (by decide) (Nat.le_of_ble_eq_true rfl) (Nat.le_of_ble_eq_true rfl) (Nat.le_of_ble_eq_true rfl) ?_
    refine gq_putF (ci := 3) (C0 := R_Land) (T := T_Land) (N := 16) (k := 6) (a := 2) (v := 4) C gd_Land_22 rfl in_Land t_Land ty_Land n_Land rfl (by decide) mw_199 rfl rfl rfl rfl rfl kd_2 rfl (g_lt (a := g.1) (n := 2) (c := 2) rfl (by omega)) ?_
    refine gq_aload C gd_Land_25 rfl 0 rfl ?_
    refine gq_bipush (v := (12)) C gd_Land_26 (by decide) ?_
    refine gx_newa (kk := 5) (t := 0) (N := 12) (ty := .int) C gd_Land_28 (g_k (a := g.1) (n := 2) rfl (by omega)) rfl gw_168 rfl (by decide) (fun h => h) rfl (by decide) (by decide) kd_5 ln_5 (by decide) (Nat.le_of_ble_eq_true rfl) (Nat.le_of_ble_eq_true rfl) (Nat.le_of_ble_eq_true rfl) ?_
    refine gq_putF (ci := 3) (C0 := R_Land) (T := T_Land) (N := 16) (k := 7) (a := 2) (v := 5) C gd_Land_30 rfl in_Land t_Land ty_Land n_Land rfl (by decide) mw_204 rfl rfl rfl rfl rfl kd_2 rfl (g_lt (a := g.1) (n := 3) (c := 2) rfl (by omega)) ?_
    refine gq_aload C gd_Land_33 rfl 0 rfl ?_
    refine gq_bipush (v := (12)) C gd_Land_34 (by decide) ?_
    refine gx_newa (kk := 6) (t := 0) (N := 12) (ty := .int) C gd_Land_36 (g_k (a := g.1) (n := 3) rfl (by omega)) rfl gw_168 rfl (by decide) (fun h => h) rfl (by decide) (by decide) kd_6 ln_6 (by decide) (Nat.le_of_ble_eq_true rfl) (Nat.le_of_ble_eq_true rfl) (Nat.le_of_ble_eq_true rfl) ?_
    refine gq_putF (ci := 3) (C0 := R_Land) (T := T_Land) (N := 16) (k := 8) (a := 2) (v := 6) C gd_Land_38 rfl in_Land t_Land ty_Land n_Land rfl (by decide) mw_209 rfl rfl rfl rfl rfl kd_2 rfl (g_lt (a := g.1) (n := 4) (c := 2) rfl (by omega)) ?_
    refine gq_aload C gd_Land_41 rfl 0 rfl ?_
    refine gq_bipush (v := (6)) C gd_Land_42 (by decide) ?_
    refine gx_newa (kk := 7) (t := 0) (N := 6) (ty := .int) C gd_Land_44 (g_k (a := g.1) (n := 4) rfl (by omega)) rfl gw_168 rfl (by decide) (fun h => h) rfl (by decide) (by decide) kd_7 ln_7 (by decide) (Nat.le_of_ble_eq_true rfl) (Nat.le_of_ble_eq_true rfl) (Nat.le_of_ble_eq_true rfl) ?_
    refine gq_putF (ci := 3) (C0 := R_Land) (T := T_Land) (N := 16) (k := 9) (a := 2) (v := 7) C gd_Land_46 rfl in_Land t_Land ty_Land n_Land rfl (by decide) mw_213 rfl rfl rfl rfl rfl kd_2 rfl (g_lt (a := g.1) (n := 5) (c := 2) rfl (by omega)) ?_
    refine gq_aload C gd_Land_49 rfl 0 rfl ?_
    refine gq_bipush (v := (6)) C gd_Land_50 (by decide) ?_
    refine gx_newa (kk := 8) (t := 0) (N := 6) (ty := .int) C gd_Land_52 (g_k (a := g.1) (n := 5) rfl (by omega)) rfl gw_168 rfl (by decide) (fun h => h) rfl (by decide) (by decide) kd_8 ln_8 (by decide) (Nat.le_of_ble_eq_true rfl) (Nat.le_of_ble_eq_true rfl) (Nat.le_of_ble_eq_true rfl) ?_
    refine gq_putF (ci := 3) (C0 := R_Land) (T := T_Land) (N := 16) (k := 10) (a := 2) (v := 8) C gd_Land_54 rfl in_Land t_Land ty_Land n_Land rfl (by decide) mw_216 rfl rfl rfl rfl rfl kd_2 rfl (g_lt (a := g.1) (n := 6) (c := 2) rfl (by omega)) ?_
    refine gq_aload C gd_Land_57 rfl 0 rfl ?_
    refine gq_bipush (v := (6)) C gd_Land_58 (by decide) ?_
    refine gx_newa (kk := 9) (t := 0) (N := 6) (ty := .int) C gd_Land_60 (g_k (a := g.1) (n := 6) rfl (by omega)) rfl gw_168 rfl (by decide) (fun h => h) rfl (by decide) (by decide) kd_9 ln_9 (by decide) (Nat.le_of_ble_eq_true rfl) (Nat.le_of_ble_eq_true rfl) (Nat.le_of_ble_eq_true rfl) ?_
    refine gq_putF (ci := 3) (C0 := R_Land) (T := T_Land) (N := 16) (k := 11) (a := 2) (v := 9) C gd_Land_62 rfl in_Land t_Land ty_Land n_Land rfl (by decide) mw_222 rfl rfl rfl rfl rfl kd_2 rfl (g_lt (a := g.1) (n := 7) (c := 2) rfl (by omega)) ?_
    refine gq_aload C gd_Land_65 rfl 0 rfl ?_
    refine gq_bipush (v := (6)) C gd_Land_66 (by decide) ?_
    refine gx_newa (kk := 10) (t := 0) (N := 6) (ty := .int) C gd_Land_68 (g_k (a := g.1) (n := 7) rfl (by omega)) rfl gw_168 rfl (by decide) (fun h => h) rfl (by decide) (by decide) kd_10 ln_10 (by decide) (Nat.le_of_ble_eq_true rfl) (Nat.le_of_ble_eq_true rfl) (Nat.le_of_ble_eq_true rfl) ?_
    refine gq_putF (ci := 3) (C0 := R_Land) (T := T_Land) (N := 16) (k := 12) (a := 2) (v := 10) C gd_Land_70 rfl in_Land t_Land ty_Land n_Land rfl (by decide) mw_225 rfl rfl rfl rfl rfl kd_2 rfl (g_lt (a := g.1) (n := 8) (c := 2) rfl (by omega)) ?_
    refine gq_aload C gd_Land_73 rfl 0 rfl ?_
    refine gq_bipush (v := (6)) C gd_Land_74 (by decide) ?_
    refine gx_newa (kk := 11) (t := 0) (N := 6) (ty := .int) C gd_Land_76 (g_k (a := g.1) (n := 8) rfl (by omega)) rfl gw_168 rfl (by decide) (fun h => h) rfl (by decide) (by decide) kd_11 ln_11 (by decide) (Nat.le_of_ble_eq_true rfl) (Nat.le_of_ble_eq_true rfl) (Nat.le_of_ble_eq_true rfl) ?_
    refine gq_putF (ci := 3) (C0 := R_Land) (T := T_Land) (N := 16) (k := 13) (a := 2) (v := 11) C gd_Land_78 rfl in_Land t_Land ty_Land n_Land rfl (by decide) mw_231 rfl rfl rfl rfl rfl kd_2 rfl (g_lt (a := g.1) (n := 9) (c := 2) rfl (by omega)) ?_
    refine gq_aload C gd_Land_81 rfl 0 rfl ?_
    refine gx_new (kk := 12) (ci := 4) (C0 := R_Law) (T := T_Law) (N := 3) C gd_Land_82 (g_k (a := g.1) (n := 9) rfl (by omega)) rfl in_Law t_Law ty_Law rfl gw_148 gw_149 mw_113 gf_Law kd_12 (by decide) (Nat.le_of_ble_eq_true rfl) (Nat.le_of_ble_eq_true rfl) ?_
    refine gq_dup C gd_Land_85 rfl ?_
    refine gq_callN (o := 12) (d := 0) (mc := 2) (ms := 964) (mL := 1) (as := []) (st := [.ref (ad 12), .ref (ad 2)]) C gd_Land_86 (k_Law_12 had (g_k (a := g.1) (n := 10) rfl (by omega))) gw_152 mw_113 (List.mem_of_getElem? (i := 5) rfl) gw_151 rfl ⟨by decide, by decide⟩ gp_0 (Nat.le_of_ble_eq_true rfl) (Nat.le_of_ble_eq_true rfl) (Nat.le_of_ble_eq_true rfl) (Nat.le_of_ble_eq_true rfl) rfl (Nat.le_of_ble_eq_true rfl) ?_
    refine gq_putF (ci := 3) (C0 := R_Land) (T := T_Land) (N := 16) (k := 14) (a := 2) (v := 12) C gd_Land_89 rfl in_Land t_Land ty_Land n_Land rfl (by decide) mw_236 rfl rfl rfl rfl rfl kd_2 rfl (g_lt (a := g.1) (n := 12) (c := 2) rfl (by omega)) ?_
    refine gq_aload C gd_Land_92 rfl 0 rfl ?_
    refine gx_new (kk := 15) (ci := 4) (C0 := R_Law) (T := T_Law) (N := 3) C gd_Land_93 (g_k (a := g.1) (n := 12) rfl (by omega)) rfl in_Law t_Law ty_Law rfl gw_148 gw_149 mw_113 gf_Law kd_15 (by decide) (Nat.le_of_ble_eq_true rfl) (Nat.le_of_ble_eq_true rfl) ?_
    refine gq_dup C gd_Land_96 rfl ?_
    refine gq_callN (o := 15) (d := 0) (mc := 2) (ms := 964) (mL := 1) (as := []) (st := [.ref (ad 15), .ref (ad 2)]) C gd_Land_97 (k_Law_15 had (g_k (a := g.1) (n := 13) rfl (by omega))) gw_152 mw_113 (List.mem_of_getElem? (i := 5) rfl) gw_151 rfl ⟨by decide, by decide⟩ gp_0 (Nat.le_of_ble_eq_true rfl) (Nat.le_of_ble_eq_true rfl) (Nat.le_of_ble_eq_true rfl) (Nat.le_of_ble_eq_true rfl) rfl (Nat.le_of_ble_eq_true rfl) ?_
    refine gq_putF (ci := 3) (C0 := R_Land) (T := T_Land) (N := 16) (k := 15) (a := 2) (v := 15) C gd_Land_100 rfl in_Land t_Land ty_Land n_Land rfl (by decide) mw_240 rfl rfl rfl rfl rfl kd_2 rfl (g_lt (a := g.1) (n := 15) (c := 2) rfl (by omega)) ?_
    exact gq_ret C gd_Land_103 hQ)
def e_World_18 (g : gS) : gS := (g_r (g_s (g_r (g_s (g_r (g_s (g_r (g_s g 1) 18 0 19) 1) 18 1 20) 1) 18 2 21) 1) 18 3 22)
theorem k_World_18 (had : ∀ i, i < 187 → ad i = b + i) {g : gS} (hg : g.1 = 19) : Met l ⟨"BackBridge$World", "<init>", "()V"⟩ (sn_wd ⟨"BackBridge$World", "<init>", "()V"⟩ prog_12_method_1_code 1 none) (g_rm 0 4 24) (g_Pc D cA ad b [.ref (ad 18)] g) (g_Qc D cA ad b (e_World_18 g)) 4 24 (fun q => b ≤ q) :=
  gq_met (by decide +kernel) rfl had (Nat.le_of_ble_eq_true rfl) (fun C hQ => by
    refine gq_aload C gd_World_0 rfl 0 rfl ?_
    refine gq_oinit C gd_World_1 gw_280 gw_140 gw_141 (Nat.le_of_ble_eq_true rfl) ?_
    refine gq_aload C gd_World_4 rfl 0 rfl ?_
    refine gq_bipush (v := (6)) C gd_World_5 (by decide) ?_
    refine gx_newa (kk := 19) (t := 0) (N := 6) (ty := .int) C gd_World_7 (g_k (a := g.1) (n := 0) rfl (by omega)) rfl gw_168 rfl (by decide) (fun h => h) rfl (by decide) (by decide) kd_19 ln_19 (by decide) (Nat.le_of_ble_eq_true rfl) (Nat.le_of_ble_eq_true rfl) (Nat.le_of_ble_eq_true rfl) ?_
    refine gq_putF (ci := 10) (C0 := R_World) (T := T_World) (N := 6) (k := 0) (a := 18) (v := 19) C gd_World_9 rfl in_World t_World ty_World n_World rfl (by decide) mw_281 rfl rfl rfl rfl rfl kd_18 rfl (g_lt (a := g.1) (n := 1) (c := 18) rfl (by omega)) ?_
    refine gq_aload C gd_World_12 rfl 0 rfl ?_
    refine gq_bipush (v := (6)) C gd_World_13 (by decide) ?_
    refine gx_newa (kk := 20) (t := 0) (N := 6) (ty := .int) C gd_World_15 (g_k (a := g.1) (n := 1) rfl (by omega)) rfl gw_168 rfl (by decide) (fun h => h) rfl (by decide) (by decide) kd_20 ln_20 (by decide) (Nat.le_of_ble_eq_true rfl) (Nat.le_of_ble_eq_true rfl) (Nat.le_of_ble_eq_true rfl) ?_
    refine gq_putF (ci := 10) (C0 := R_World) (T := T_World) (N := 6) (k := 1) (a := 18) (v := 20) C gd_World_17 rfl in_World t_World ty_World n_World rfl (by decide) mw_286 rfl rfl rfl rfl rfl kd_18 rfl (g_lt (a := g.1) (n := 2) (c := 18) rfl (by omega)) ?_
    refine gq_aload C gd_World_20 rfl 0 rfl ?_
    refine gq_bipush (v := (6)) C gd_World_21 (by decide) ?_
    refine gx_newa (kk := 21) (t := 0) (N := 6) (ty := .int) C gd_World_23 (g_k (a := g.1) (n := 2) rfl (by omega)) rfl gw_168 rfl (by decide) (fun h => h) rfl (by decide) (by decide) kd_21 ln_21 (by decide) (Nat.le_of_ble_eq_true rfl) (Nat.le_of_ble_eq_true rfl) (Nat.le_of_ble_eq_true rfl) ?_
    refine gq_putF (ci := 10) (C0 := R_World) (T := T_World) (N := 6) (k := 2) (a := 18) (v := 21) C gd_World_25 rfl in_World t_World ty_World n_World rfl (by decide) mw_290 rfl rfl rfl rfl rfl kd_18 rfl (g_lt (a := g.1) (n := 3) (c := 18) rfl (by omega)) ?_
    refine gq_aload C gd_World_28 rfl 0 rfl ?_
    refine gq_bipush (v := (6)) C gd_World_29 (by decide) ?_
    refine gx_newa (kk := 22) (t := 0) (N := 6) (ty := .int) C gd_World_31 (g_k (a := g.1) (n := 3) rfl (by omega)) rfl gw_168 rfl (by decide) (fun h => h) rfl (by decide) (by decide) kd_22 ln_22 (by decide) (Nat.le_of_ble_eq_true rfl) (Nat.le_of_ble_eq_true rfl) (Nat.le_of_ble_eq_true rfl) ?_
    refine gq_putF (ci := 10) (C0 := R_World) (T := T_World) (N := 6) (k := 3) (a := 18) (v := 22) C gd_World_33 rfl in_World t_World ty_World n_World rfl (by decide) mw_296 rfl rfl rfl rfl rfl kd_18 rfl (g_lt (a := g.1) (n := 4) (c := 18) rfl (by omega)) ?_
    exact gq_ret C gd_World_36 hQ)
def e_World_23 (g : gS) : gS := (g_r (g_s (g_r (g_s (g_r (g_s (g_r (g_s g 1) 23 0 24) 1) 23 1 25) 1) 23 2 26) 1) 23 3 27)
theorem k_World_23 (had : ∀ i, i < 187 → ad i = b + i) {g : gS} (hg : g.1 = 24) : Met l ⟨"BackBridge$World", "<init>", "()V"⟩ (sn_wd ⟨"BackBridge$World", "<init>", "()V"⟩ prog_12_method_1_code 1 none) (g_rm 0 4 24) (g_Pc D cA ad b [.ref (ad 23)] g) (g_Qc D cA ad b (e_World_23 g)) 4 24 (fun q => b ≤ q) :=
  gq_met (by decide +kernel) rfl had (Nat.le_of_ble_eq_true rfl) (fun C hQ => by
    refine gq_aload C gd_World_0 rfl 0 rfl ?_
    refine gq_oinit C gd_World_1 gw_280 gw_140 gw_141 (Nat.le_of_ble_eq_true rfl) ?_
    refine gq_aload C gd_World_4 rfl 0 rfl ?_
    refine gq_bipush (v := (6)) C gd_World_5 (by decide) ?_
    refine gx_newa (kk := 24) (t := 0) (N := 6) (ty := .int) C gd_World_7 (g_k (a := g.1) (n := 0) rfl (by omega)) rfl gw_168 rfl (by decide) (fun h => h) rfl (by decide) (by decide) kd_24 ln_24 (by decide) (Nat.le_of_ble_eq_true rfl) (Nat.le_of_ble_eq_true rfl) (Nat.le_of_ble_eq_true rfl) ?_
    refine gq_putF (ci := 10) (C0 := R_World) (T := T_World) (N := 6) (k := 0) (a := 23) (v := 24) C gd_World_9 rfl in_World t_World ty_World n_World rfl (by decide) mw_281 rfl rfl rfl rfl rfl kd_23 rfl (g_lt (a := g.1) (n := 1) (c := 23) rfl (by omega)) ?_
    refine gq_aload C gd_World_12 rfl 0 rfl ?_
    refine gq_bipush (v := (6)) C gd_World_13 (by decide) ?_
    refine gx_newa (kk := 25) (t := 0) (N := 6) (ty := .int) C gd_World_15 (g_k (a := g.1) (n := 1) rfl (by omega)) rfl gw_168 rfl (by decide) (fun h => h) rfl (by decide) (by decide) kd_25 ln_25 (by decide) (Nat.le_of_ble_eq_true rfl) (Nat.le_of_ble_eq_true rfl) (Nat.le_of_ble_eq_true rfl) ?_
    refine gq_putF (ci := 10) (C0 := R_World) (T := T_World) (N := 6) (k := 1) (a := 23) (v := 25) C gd_World_17 rfl in_World t_World ty_World n_World rfl (by decide) mw_286 rfl rfl rfl rfl rfl kd_23 rfl (g_lt (a := g.1) (n := 2) (c := 23) rfl (by omega)) ?_
    refine gq_aload C gd_World_20 rfl 0 rfl ?_
    refine gq_bipush (v := (6)) C gd_World_21 (by decide) ?_
    refine gx_newa (kk := 26) (t := 0) (N := 6) (ty := .int) C gd_World_23 (g_k (a := g.1) (n := 2) rfl (by omega)) rfl gw_168 rfl (by decide) (fun h => h) rfl (by decide) (by decide) kd_26 ln_26 (by decide) (Nat.le_of_ble_eq_true rfl) (Nat.le_of_ble_eq_true rfl) (Nat.le_of_ble_eq_true rfl) ?_
    refine gq_putF (ci := 10) (C0 := R_World) (T := T_World) (N := 6) (k := 2) (a := 23) (v := 26) C gd_World_25 rfl in_World t_World ty_World n_World rfl (by decide) mw_290 rfl rfl rfl rfl rfl kd_23 rfl (g_lt (a := g.1) (n := 3) (c := 23) rfl (by omega)) ?_
    refine gq_aload C gd_World_28 rfl 0 rfl ?_
    refine gq_bipush (v := (6)) C gd_World_29 (by decide) ?_
    refine gx_newa (kk := 27) (t := 0) (N := 6) (ty := .int) C gd_World_31 (g_k (a := g.1) (n := 3) rfl (by omega)) rfl gw_168 rfl (by decide) (fun h => h) rfl (by decide) (by decide) kd_27 ln_27 (by decide) (Nat.le_of_ble_eq_true rfl) (Nat.le_of_ble_eq_true rfl) (Nat.le_of_ble_eq_true rfl) ?_
    refine gq_putF (ci := 10) (C0 := R_World) (T := T_World) (N := 6) (k := 3) (a := 23) (v := 27) C gd_World_33 rfl in_World t_World ty_World n_World rfl (by decide) mw_296 rfl rfl rfl rfl rfl kd_23 rfl (g_lt (a := g.1) (n := 4) (c := 23) rfl (by omega)) ?_
    exact gq_ret C gd_World_36 hQ)
def e_Law_39 (g : gS) : gS := (g_r (g_s (g_r (g_s g 1) 39 0 40) 1) 39 1 41)
theorem k_Law_39 (had : ∀ i, i < 187 → ad i = b + i) {g : gS} (hg : g.1 = 40) : Met l ⟨"BackBridge$Law", "<init>", "()V"⟩ (sn_wd ⟨"BackBridge$Law", "<init>", "()V"⟩ prog_6_method_1_code 1 none) (g_rm 0 2 964) (g_Pc D cA ad b [.ref (ad 39)] g) (g_Qc D cA ad b (e_Law_39 g)) 2 964 (fun q => b ≤ q) :=
  gq_met (by decide +kernel) rfl had (Nat.le_of_ble_eq_true rfl) (fun C hQ => by
    refine gq_aload C gd_Law_0 rfl 0 rfl ?_
    refine gq_oinit C gd_Law_1 gw_153 gw_140 gw_141 (Nat.le_of_ble_eq_true rfl) ?_
    refine gq_aload C gd_Law_4 rfl 0 rfl ?_
    refine gq_sipush (v := (900)) C gd_Law_5 (by decide) ?_
    refine gx_newa (kk := 40) (t := 0) (N := 900) (ty := .int) C gd_Law_8 (g_k (a := g.1) (n := 0) rfl (by omega)) rfl gw_168 rfl (by decide) (fun h => h) rfl (by decide) (by decide) kd_40 ln_40 (by decide) (Nat.le_of_ble_eq_true rfl) (Nat.le_of_ble_eq_true rfl) (Nat.le_of_ble_eq_true rfl) ?_
    refine gq_putF (ci := 4) (C0 := R_Law) (T := T_Law) (N := 3) (k := 0) (a := 39) (v := 40) C gd_Law_10 rfl in_Law t_Law ty_Law n_Law rfl (by decide) mw_154 rfl rfl rfl rfl rfl kd_39 rfl (g_lt (a := g.1) (n := 1) (c := 39) rfl (by omega)) ?_
    refine gq_aload C gd_Law_13 rfl 0 rfl ?_
    refine gq_bipush (v := (64)) C gd_Law_14 (by decide) ?_
    refine gx_newa (kk := 41) (t := 0) (N := 64) (ty := .int) C gd_Law_16 (g_k (a := g.1) (n := 1) rfl (by omega)) rfl gw_168 rfl (by decide) (fun h => h) rfl (by decide) (by decide) kd_41 ln_41 (by decide) (Nat.le_of_ble_eq_true rfl) (Nat.le_of_ble_eq_true rfl) (Nat.le_of_ble_eq_true rfl) ?_
    refine gq_putF (ci := 4) (C0 := R_Law) (T := T_Law) (N := 3) (k := 1) (a := 39) (v := 41) C gd_Law_18 rfl in_Law t_Law ty_Law n_Law rfl (by decide) mw_155 rfl rfl rfl rfl rfl kd_39 rfl (g_lt (a := g.1) (n := 2) (c := 39) rfl (by omega)) ?_
    exact gq_ret C gd_Law_21 hQ)
def e_Law_42 (g : gS) : gS := (g_r (g_s (g_r (g_s g 1) 42 0 43) 1) 42 1 44)
theorem k_Law_42 (had : ∀ i, i < 187 → ad i = b + i) {g : gS} (hg : g.1 = 43) : Met l ⟨"BackBridge$Law", "<init>", "()V"⟩ (sn_wd ⟨"BackBridge$Law", "<init>", "()V"⟩ prog_6_method_1_code 1 none) (g_rm 0 2 964) (g_Pc D cA ad b [.ref (ad 42)] g) (g_Qc D cA ad b (e_Law_42 g)) 2 964 (fun q => b ≤ q) :=
  gq_met (by decide +kernel) rfl had (Nat.le_of_ble_eq_true rfl) (fun C hQ => by
    refine gq_aload C gd_Law_0 rfl 0 rfl ?_
    refine gq_oinit C gd_Law_1 gw_153 gw_140 gw_141 (Nat.le_of_ble_eq_true rfl) ?_
    refine gq_aload C gd_Law_4 rfl 0 rfl ?_
    refine gq_sipush (v := (900)) C gd_Law_5 (by decide) ?_
    refine gx_newa (kk := 43) (t := 0) (N := 900) (ty := .int) C gd_Law_8 (g_k (a := g.1) (n := 0) rfl (by omega)) rfl gw_168 rfl (by decide) (fun h => h) rfl (by decide) (by decide) kd_43 ln_43 (by decide) (Nat.le_of_ble_eq_true rfl) (Nat.le_of_ble_eq_true rfl) (Nat.le_of_ble_eq_true rfl) ?_
    refine gq_putF (ci := 4) (C0 := R_Law) (T := T_Law) (N := 3) (k := 0) (a := 42) (v := 43) C gd_Law_10 rfl in_Law t_Law ty_Law n_Law rfl (by decide) mw_154 rfl rfl rfl rfl rfl kd_42 rfl (g_lt (a := g.1) (n := 1) (c := 42) rfl (by omega)) ?_
    refine gq_aload C gd_Law_13 rfl 0 rfl ?_
    refine gq_bipush (v := (64)) C gd_Law_14 (by decide) ?_
    refine gx_newa (kk := 44) (t := 0) (N := 64) (ty := .int) C gd_Law_16 (g_k (a := g.1) (n := 1) rfl (by omega)) rfl gw_168 rfl (by decide) (fun h => h) rfl (by decide) (by decide) kd_44 ln_44 (by decide) (Nat.le_of_ble_eq_true rfl) (Nat.le_of_ble_eq_true rfl) (Nat.le_of_ble_eq_true rfl) ?_
    refine gq_putF (ci := 4) (C0 := R_Law) (T := T_Law) (N := 3) (k := 1) (a := 42) (v := 44) C gd_Law_18 rfl in_Law t_Law ty_Law n_Law rfl (by decide) mw_155 rfl rfl rfl rfl rfl kd_42 rfl (g_lt (a := g.1) (n := 2) (c := 42) rfl (by omega)) ?_
    exact gq_ret C gd_Law_21 hQ)
def e_Land_29 (g : gS) : gS := (g_r (e_Law_42 (g_s (g_r (e_Law_39 (g_s (g_r (g_s (g_r (g_s (g_r (g_s (g_r (g_s (g_r (g_s (g_r (g_s (g_r (g_s (g_r (g_s (g_r (g_s (g_i g 29 0 (2)) 1) 29 5 30) 1) 29 6 31) 1) 29 7 32) 1) 29 8 33) 1) 29 9 34) 1) 29 10 35) 1) 29 11 36) 1) 29 12 37) 1) 29 13 38) 1)) 29 14 39) 1)) 29 15 42)
theorem k_Land_29 (had : ∀ i, i < 187 → ad i = b + i) {g : gS} (hg : g.1 = 30) : Met l ⟨"BackBridge$Land", "<init>", "()V"⟩ (sn_wd ⟨"BackBridge$Land", "<init>", "()V"⟩ prog_5_method_1_code 1 none) (g_rm 1 15 2012) (g_Pc D cA ad b [.ref (ad 29)] g) (g_Qc D cA ad b (e_Land_29 g)) 15 2012 (fun q => b ≤ q) :=
  gq_met (by decide +kernel) rfl had (Nat.le_of_ble_eq_true rfl) (fun C hQ => by
    refine gq_aload C gd_Land_0 rfl 0 rfl ?_
    refine gq_oinit C gd_Land_1 gw_147 gw_140 gw_141 (Nat.le_of_ble_eq_true rfl) ?_
    refine gq_aload C gd_Land_4 rfl 0 rfl ?_
    refine gq_iconst (v := (2)) C gd_Land_5 (by decide) ?_
    refine gq_puti (ci := 3) (C0 := R_Land) (T := T_Land) (N := 16) (k := 0) (a := 29) (v := (2)) C gd_Land_6 rfl in_Land t_Land ty_Land n_Land rfl (by decide) mw_169 rfl rfl kd_29 rfl (g_lt (a := g.1) (n := 0) (c := 29) rfl (by omega)) ?_
    refine gq_aload C gd_Land_9 rfl 0 rfl ?_
    refine gq_bipush (v := (12)) C gd_Land_10 (by decide) ?_
    refine gx_newa (kk := 30) (t := 0) (N := 12) (ty := .int) C gd_Land_12 (g_k (a := g.1) (n := 0) rfl (by omega)) rfl gw_168 rfl (by decide) (fun h => h) rfl (by decide) (by decide) kd_30 ln_30 (by decide) (Nat.le_of_ble_eq_true rfl) (Nat.le_of_ble_eq_true rfl) (Nat.le_of_ble_eq_true rfl) ?_
    refine gq_putF (ci := 3) (C0 := R_Land) (T := T_Land) (N := 16) (k := 5) (a := 29) (v := 30) C gd_Land_14 rfl in_Land t_Land ty_Land n_Land rfl (by decide) mw_194 rfl rfl rfl rfl rfl kd_29 rfl (g_lt (a := g.1) (n := 1) (c := 29) rfl (by omega)) ?_
    refine gq_aload C gd_Land_17 rfl 0 rfl ?_
    refine gq_bipush (v := (12)) C gd_Land_18 (by decide) ?_
    refine gx_newa (kk := 31) (t := 0) (N := 12) (ty := .int) C gd_Land_20 (g_k (a := g.1) (n := 1) rfl (by omega)) rfl gw_168 rfl (by decide) (fun h => h) rfl (by decide) (by decide) kd_31 ln_31 (by decide) (Nat.le_of_ble_eq_true rfl) (Nat.le_of_ble_eq_true rfl) (Nat.le_of_ble_eq_true rfl) ?_
    refine gq_putF (ci := 3) (C0 := R_Land) (T := T_Land) (N := 16) (k := 6) (a := 29) (v := 31) C gd_Land_22 rfl in_Land t_Land ty_Land n_Land rfl (by decide) mw_199 rfl rfl rfl rfl rfl kd_29 rfl (g_lt (a := g.1) (n := 2) (c := 29) rfl (by omega)) ?_
    refine gq_aload C gd_Land_25 rfl 0 rfl ?_
    refine gq_bipush (v := (12)) C gd_Land_26 (by decide) ?_
    refine gx_newa (kk := 32) (t := 0) (N := 12) (ty := .int) C gd_Land_28 (g_k (a := g.1) (n := 2) rfl (by omega)) rfl gw_168 rfl (by decide) (fun h => h) rfl (by decide) (by decide) kd_32 ln_32 (by decide) (Nat.le_of_ble_eq_true rfl) (Nat.le_of_ble_eq_true rfl) (Nat.le_of_ble_eq_true rfl) ?_
    refine gq_putF (ci := 3) (C0 := R_Land) (T := T_Land) (N := 16) (k := 7) (a := 29) (v := 32) C gd_Land_30 rfl in_Land t_Land ty_Land n_Land rfl (by decide) mw_204 rfl rfl rfl rfl rfl kd_29 rfl (g_lt (a := g.1) (n := 3) (c := 29) rfl (by omega)) ?_
    refine gq_aload C gd_Land_33 rfl 0 rfl ?_
    refine gq_bipush (v := (12)) C gd_Land_34 (by decide) ?_
    refine gx_newa (kk := 33) (t := 0) (N := 12) (ty := .int) C gd_Land_36 (g_k (a := g.1) (n := 3) rfl (by omega)) rfl gw_168 rfl (by decide) (fun h => h) rfl (by decide) (by decide) kd_33 ln_33 (by decide) (Nat.le_of_ble_eq_true rfl) (Nat.le_of_ble_eq_true rfl) (Nat.le_of_ble_eq_true rfl) ?_
    refine gq_putF (ci := 3) (C0 := R_Land) (T := T_Land) (N := 16) (k := 8) (a := 29) (v := 33) C gd_Land_38 rfl in_Land t_Land ty_Land n_Land rfl (by decide) mw_209 rfl rfl rfl rfl rfl kd_29 rfl (g_lt (a := g.1) (n := 4) (c := 29) rfl (by omega)) ?_
    refine gq_aload C gd_Land_41 rfl 0 rfl ?_
    refine gq_bipush (v := (6)) C gd_Land_42 (by decide) ?_
    refine gx_newa (kk := 34) (t := 0) (N := 6) (ty := .int) C gd_Land_44 (g_k (a := g.1) (n := 4) rfl (by omega)) rfl gw_168 rfl (by decide) (fun h => h) rfl (by decide) (by decide) kd_34 ln_34 (by decide) (Nat.le_of_ble_eq_true rfl) (Nat.le_of_ble_eq_true rfl) (Nat.le_of_ble_eq_true rfl) ?_
    refine gq_putF (ci := 3) (C0 := R_Land) (T := T_Land) (N := 16) (k := 9) (a := 29) (v := 34) C gd_Land_46 rfl in_Land t_Land ty_Land n_Land rfl (by decide) mw_213 rfl rfl rfl rfl rfl kd_29 rfl (g_lt (a := g.1) (n := 5) (c := 29) rfl (by omega)) ?_
    refine gq_aload C gd_Land_49 rfl 0 rfl ?_
    refine gq_bipush (v := (6)) C gd_Land_50 (by decide) ?_
    refine gx_newa (kk := 35) (t := 0) (N := 6) (ty := .int) C gd_Land_52 (g_k (a := g.1) (n := 5) rfl (by omega)) rfl gw_168 rfl (by decide) (fun h => h) rfl (by decide) (by decide) kd_35 ln_35 (by decide) (Nat.le_of_ble_eq_true rfl) (Nat.le_of_ble_eq_true rfl) (Nat.le_of_ble_eq_true rfl) ?_
    refine gq_putF (ci := 3) (C0 := R_Land) (T := T_Land) (N := 16) (k := 10) (a := 29) (v := 35) C gd_Land_54 rfl in_Land t_Land ty_Land n_Land rfl (by decide) mw_216 rfl rfl rfl rfl rfl kd_29 rfl (g_lt (a := g.1) (n := 6) (c := 29) rfl (by omega)) ?_
    refine gq_aload C gd_Land_57 rfl 0 rfl ?_
    refine gq_bipush (v := (6)) C gd_Land_58 (by decide) ?_
    refine gx_newa (kk := 36) (t := 0) (N := 6) (ty := .int) C gd_Land_60 (g_k (a := g.1) (n := 6) rfl (by omega)) rfl gw_168 rfl (by decide) (fun h => h) rfl (by decide) (by decide) kd_36 ln_36 (by decide) (Nat.le_of_ble_eq_true rfl) (Nat.le_of_ble_eq_true rfl) (Nat.le_of_ble_eq_true rfl) ?_
    refine gq_putF (ci := 3) (C0 := R_Land) (T := T_Land) (N := 16) (k := 11) (a := 29) (v := 36) C gd_Land_62 rfl in_Land t_Land ty_Land n_Land rfl (by decide) mw_222 rfl rfl rfl rfl rfl kd_29 rfl (g_lt (a := g.1) (n := 7) (c := 29) rfl (by omega)) ?_
    refine gq_aload C gd_Land_65 rfl 0 rfl ?_
    refine gq_bipush (v := (6)) C gd_Land_66 (by decide) ?_
    refine gx_newa (kk := 37) (t := 0) (N := 6) (ty := .int) C gd_Land_68 (g_k (a := g.1) (n := 7) rfl (by omega)) rfl gw_168 rfl (by decide) (fun h => h) rfl (by decide) (by decide) kd_37 ln_37 (by decide) (Nat.le_of_ble_eq_true rfl) (Nat.le_of_ble_eq_true rfl) (Nat.le_of_ble_eq_true rfl) ?_
    refine gq_putF (ci := 3) (C0 := R_Land) (T := T_Land) (N := 16) (k := 12) (a := 29) (v := 37) C gd_Land_70 rfl in_Land t_Land ty_Land n_Land rfl (by decide) mw_225 rfl rfl rfl rfl rfl kd_29 rfl (g_lt (a := g.1) (n := 8) (c := 29) rfl (by omega)) ?_
    refine gq_aload C gd_Land_73 rfl 0 rfl ?_
    refine gq_bipush (v := (6)) C gd_Land_74 (by decide) ?_
    refine gx_newa (kk := 38) (t := 0) (N := 6) (ty := .int) C gd_Land_76 (g_k (a := g.1) (n := 8) rfl (by omega)) rfl gw_168 rfl (by decide) (fun h => h) rfl (by decide) (by decide) kd_38 ln_38 (by decide) (Nat.le_of_ble_eq_true rfl) (Nat.le_of_ble_eq_true rfl) (Nat.le_of_ble_eq_true rfl) ?_
    refine gq_putF (ci := 3) (C0 := R_Land) (T := T_Land) (N := 16) (k := 13) (a := 29) (v := 38) C gd_Land_78 rfl in_Land t_Land ty_Land n_Land rfl (by decide) mw_231 rfl rfl rfl rfl rfl kd_29 rfl (g_lt (a := g.1) (n := 9) (c := 29) rfl (by omega)) ?_
    refine gq_aload C gd_Land_81 rfl 0 rfl ?_
    refine gx_new (kk := 39) (ci := 4) (C0 := R_Law) (T := T_Law) (N := 3) C gd_Land_82 (g_k (a := g.1) (n := 9) rfl (by omega)) rfl in_Law t_Law ty_Law rfl gw_148 gw_149 mw_113 gf_Law kd_39 (by decide) (Nat.le_of_ble_eq_true rfl) (Nat.le_of_ble_eq_true rfl) ?_
    refine gq_dup C gd_Land_85 rfl ?_
    refine gq_callN (o := 39) (d := 0) (mc := 2) (ms := 964) (mL := 1) (as := []) (st := [.ref (ad 39), .ref (ad 29)]) C gd_Land_86 (k_Law_39 had (g_k (a := g.1) (n := 10) rfl (by omega))) gw_152 mw_113 (List.mem_of_getElem? (i := 5) rfl) gw_151 rfl ⟨by decide, by decide⟩ gp_0 (Nat.le_of_ble_eq_true rfl) (Nat.le_of_ble_eq_true rfl) (Nat.le_of_ble_eq_true rfl) (Nat.le_of_ble_eq_true rfl) rfl (Nat.le_of_ble_eq_true rfl) ?_
    refine gq_putF (ci := 3) (C0 := R_Land) (T := T_Land) (N := 16) (k := 14) (a := 29) (v := 39) C gd_Land_89 rfl in_Land t_Land ty_Land n_Land rfl (by decide) mw_236 rfl rfl rfl rfl rfl kd_29 rfl (g_lt (a := g.1) (n := 12) (c := 29) rfl (by omega)) ?_
    refine gq_aload C gd_Land_92 rfl 0 rfl ?_
    refine gx_new (kk := 42) (ci := 4) (C0 := R_Law) (T := T_Law) (N := 3) C gd_Land_93 (g_k (a := g.1) (n := 12) rfl (by omega)) rfl in_Law t_Law ty_Law rfl gw_148 gw_149 mw_113 gf_Law kd_42 (by decide) (Nat.le_of_ble_eq_true rfl) (Nat.le_of_ble_eq_true rfl) ?_
    refine gq_dup C gd_Land_96 rfl ?_
    refine gq_callN (o := 42) (d := 0) (mc := 2) (ms := 964) (mL := 1) (as := []) (st := [.ref (ad 42), .ref (ad 29)]) C gd_Land_97 (k_Law_42 had (g_k (a := g.1) (n := 13) rfl (by omega))) gw_152 mw_113 (List.mem_of_getElem? (i := 5) rfl) gw_151 rfl ⟨by decide, by decide⟩ gp_0 (Nat.le_of_ble_eq_true rfl) (Nat.le_of_ble_eq_true rfl) (Nat.le_of_ble_eq_true rfl) (Nat.le_of_ble_eq_true rfl) rfl (Nat.le_of_ble_eq_true rfl) ?_
    refine gq_putF (ci := 3) (C0 := R_Land) (T := T_Land) (N := 16) (k := 15) (a := 29) (v := 42) C gd_Land_100 rfl in_Land t_Land ty_Land n_Land rfl (by decide) mw_240 rfl rfl rfl rfl rfl kd_29 rfl (g_lt (a := g.1) (n := 15) (c := 29) rfl (by omega)) ?_
    exact gq_ret C gd_Land_103 hQ)
def e_Reader_28 (g : gS) : gS := (g_r (g_i (g_r (g_s (g_r (g_s (g_r (g_s (g_r (e_Land_29 (g_s g 1)) 28 0 29) 1) 28 1 45) 1) 28 2 46) 1) 28 3 47) 28 8 (-1)) 28 6 42)
theorem k_Reader_28 (had : ∀ i, i < 187 → ad i = b + i) {g : gS} (hg : g.1 = 29) : Met l ⟨"BackBridge$Reader", "<init>", "()V"⟩ (sn_wd ⟨"BackBridge$Reader", "<init>", "()V"⟩ prog_9_method_1_code 1 none) (g_rm 2 19 4731) (g_Pc D cA ad b [.ref (ad 28)] g) (g_Qc D cA ad b (e_Reader_28 g)) 19 4731 (fun q => b ≤ q) :=
  gq_met (by decide +kernel) rfl had (Nat.le_of_ble_eq_true rfl) (fun C hQ => by
    refine gq_aload C gd_Reader_0 rfl 0 rfl ?_
    refine gq_oinit C gd_Reader_1 gw_327 gw_140 gw_141 (Nat.le_of_ble_eq_true rfl) ?_
    refine gq_aload C gd_Reader_4 rfl 0 rfl ?_
    refine gx_new (kk := 29) (ci := 3) (C0 := R_Land) (T := T_Land) (N := 16) C gd_Reader_5 (g_k (a := g.1) (n := 0) rfl (by omega)) rfl in_Land t_Land ty_Land rfl gw_328 gw_143 mw_112 gf_Land kd_29 (by decide) (Nat.le_of_ble_eq_true rfl) (Nat.le_of_ble_eq_true rfl) ?_
    refine gq_dup C gd_Reader_8 rfl ?_
    refine gq_callN (o := 29) (d := 1) (mc := 15) (ms := 2012) (mL := 1) (as := []) (st := [.ref (ad 29), .ref (ad 28)]) C gd_Reader_9 (k_Land_29 had (g_k (a := g.1) (n := 1) rfl (by omega))) gw_146 mw_112 (List.mem_of_getElem? (i := 4) rfl) gw_145 rfl ⟨by decide, by decide⟩ gp_0 (Nat.le_of_ble_eq_true rfl) (Nat.le_of_ble_eq_true rfl) (Nat.le_of_ble_eq_true rfl) (Nat.le_of_ble_eq_true rfl) rfl (Nat.le_of_ble_eq_true rfl) ?_
    refine gq_putF (ci := 7) (C0 := R_Reader) (T := T_Reader) (N := 9) (k := 0) (a := 28) (v := 29) C gd_Reader_12 rfl in_Reader t_Reader ty_Reader n_Reader rfl (by decide) mw_330 rfl rfl rfl rfl rfl kd_28 rfl (g_lt (a := g.1) (n := 16) (c := 28) rfl (by omega)) ?_
    refine gq_aload C gd_Reader_15 rfl 0 rfl ?_
    refine gq_sipush (v := (901)) C gd_Reader_16 (by decide) ?_
    refine gx_newa (kk := 45) (t := 0) (N := 901) (ty := .int) C gd_Reader_19 (g_k (a := g.1) (n := 16) rfl (by omega)) rfl gw_168 rfl (by decide) (fun h => h) rfl (by decide) (by decide) kd_45 ln_45 (by decide) (Nat.le_of_ble_eq_true rfl) (Nat.le_of_ble_eq_true rfl) (Nat.le_of_ble_eq_true rfl) ?_
    refine gq_putF (ci := 7) (C0 := R_Reader) (T := T_Reader) (N := 9) (k := 1) (a := 28) (v := 45) C gd_Reader_21 rfl in_Reader t_Reader ty_Reader n_Reader rfl (by decide) mw_332 rfl rfl rfl rfl rfl kd_28 rfl (g_lt (a := g.1) (n := 17) (c := 28) rfl (by omega)) ?_
    refine gq_aload C gd_Reader_24 rfl 0 rfl ?_
    refine gq_sipush (v := (901)) C gd_Reader_25 (by decide) ?_
    refine gx_newa (kk := 46) (t := 0) (N := 901) (ty := .int) C gd_Reader_28 (g_k (a := g.1) (n := 17) rfl (by omega)) rfl gw_168 rfl (by decide) (fun h => h) rfl (by decide) (by decide) kd_46 ln_46 (by decide) (Nat.le_of_ble_eq_true rfl) (Nat.le_of_ble_eq_true rfl) (Nat.le_of_ble_eq_true rfl) ?_
    refine gq_putF (ci := 7) (C0 := R_Reader) (T := T_Reader) (N := 9) (k := 2) (a := 28) (v := 46) C gd_Reader_30 rfl in_Reader t_Reader ty_Reader n_Reader rfl (by decide) mw_333 rfl rfl rfl rfl rfl kd_28 rfl (g_lt (a := g.1) (n := 18) (c := 28) rfl (by omega)) ?_
    refine gq_aload C gd_Reader_33 rfl 0 rfl ?_
    refine gq_sipush (v := (901)) C gd_Reader_34 (by decide) ?_
    refine gx_newa (kk := 47) (t := 0) (N := 901) (ty := .int) C gd_Reader_37 (g_k (a := g.1) (n := 18) rfl (by omega)) rfl gw_168 rfl (by decide) (fun h => h) rfl (by decide) (by decide) kd_47 ln_47 (by decide) (Nat.le_of_ble_eq_true rfl) (Nat.le_of_ble_eq_true rfl) (Nat.le_of_ble_eq_true rfl) ?_
    refine gq_putF (ci := 7) (C0 := R_Reader) (T := T_Reader) (N := 9) (k := 3) (a := 28) (v := 47) C gd_Reader_39 rfl in_Reader t_Reader ty_Reader n_Reader rfl (by decide) mw_334 rfl rfl rfl rfl rfl kd_28 rfl (g_lt (a := g.1) (n := 19) (c := 28) rfl (by omega)) ?_
    refine gq_aload C gd_Reader_42 rfl 0 rfl ?_
    refine gq_iconst (v := (-1)) C gd_Reader_43 (by decide) ?_
    refine gq_puti (ci := 7) (C0 := R_Reader) (T := T_Reader) (N := 9) (k := 8) (a := 28) (v := (-1)) C gd_Reader_44 rfl in_Reader t_Reader ty_Reader n_Reader rfl (by decide) mw_340 rfl rfl kd_28 rfl (g_lt (a := g.1) (n := 19) (c := 28) rfl (by omega)) ?_
    refine gq_aload C gd_Reader_47 rfl 0 rfl ?_
    refine gq_aload C gd_Reader_48 rfl 0 rfl ?_
    refine gq_getr (ci := 7) (C0 := R_Reader) (T := T_Reader) (N := 9) (k := 0) (a := 28) (v := 29) C gd_Reader_49 rfl in_Reader rfl (by decide) mw_330 kd_28 (by decide) (g_lt (a := g.1) (n := 19) (c := 28) rfl (by omega)) rfl ?_
    refine gq_getr (ci := 3) (C0 := R_Land) (T := T_Land) (N := 16) (k := 15) (a := 29) (v := 42) C gd_Reader_52 rfl in_Land rfl (by decide) mw_239 kd_29 (by decide) (g_lt (a := g.1) (n := 19) (c := 29) rfl (by omega)) rfl ?_
    refine gq_putR (ci := 7) (C0 := R_Reader) (T := T_Reader) (N := 9) (k := 6) (a := 28) (v := 42) C gd_Reader_55 rfl in_Reader t_Reader ty_Reader n_Reader rfl (by decide) mw_337 rfl rfl rfl rfl kd_28 (by decide) (g_lt (a := g.1) (n := 19) (c := 28) rfl (by omega)) ?_
    exact gq_ret C gd_Reader_58 hQ)
def e_Laws_48 (g : gS) : gS := (g_r (g_r (g_s (g_r (g_s g 1) 48 1 49) 1) 48 2 50) 48 0 2)
theorem k_Laws_48 (had : ∀ i, i < 187 → ad i = b + i) {g : gS} (hg : g.1 = 49) : Met l ⟨"BackBridge$Laws", "<init>", "(LBackBridge$Land;)V"⟩ (sn_wd ⟨"BackBridge$Laws", "<init>", "(LBackBridge$Land;)V"⟩ prog_7_method_1_code 2 none) (g_rm 0 2 6727) (g_Pc D cA ad b [.ref (ad 48), .ref (ad 2)] g) (g_Qc D cA ad b (e_Laws_48 g)) 2 6727 (fun q => b ≤ q) :=
  gq_met (by decide +kernel) rfl had (Nat.le_of_ble_eq_true rfl) (fun C hQ => by
    refine gq_aload C gd_Laws_0 rfl 0 rfl ?_
    refine gq_oinit C gd_Laws_1 gw_366 gw_140 gw_141 (Nat.le_of_ble_eq_true rfl) ?_
    refine gq_aload C gd_Laws_4 rfl 0 rfl ?_
    refine gq_bipush (v := (7)) C gd_Laws_5 (by decide) ?_
    refine gx_newa (kk := 49) (t := 0) (N := 7) (ty := .int) C gd_Laws_7 (g_k (a := g.1) (n := 0) rfl (by omega)) rfl gw_168 rfl (by decide) (fun h => h) rfl (by decide) (by decide) kd_49 ln_49 (by decide) (Nat.le_of_ble_eq_true rfl) (Nat.le_of_ble_eq_true rfl) (Nat.le_of_ble_eq_true rfl) ?_
    refine gq_putF (ci := 5) (C0 := R_Laws) (T := T_Laws) (N := 3) (k := 1) (a := 48) (v := 49) C gd_Laws_9 rfl in_Laws t_Laws ty_Laws n_Laws rfl (by decide) mw_368 rfl rfl rfl rfl rfl kd_48 rfl (g_lt (a := g.1) (n := 1) (c := 48) rfl (by omega)) ?_
    refine gq_aload C gd_Laws_12 rfl 0 rfl ?_
    refine gq_sipush (v := (6720)) C gd_Laws_13 (by decide) ?_
    refine gx_newa (kk := 50) (t := 0) (N := 6720) (ty := .int) C gd_Laws_16 (g_k (a := g.1) (n := 1) rfl (by omega)) rfl gw_168 rfl (by decide) (fun h => h) rfl (by decide) (by decide) kd_50 ln_50 (by decide) (Nat.le_of_ble_eq_true rfl) (Nat.le_of_ble_eq_true rfl) (Nat.le_of_ble_eq_true rfl) ?_
    refine gq_putF (ci := 5) (C0 := R_Laws) (T := T_Laws) (N := 3) (k := 2) (a := 48) (v := 50) C gd_Laws_18 rfl in_Laws t_Laws ty_Laws n_Laws rfl (by decide) mw_369 rfl rfl rfl rfl rfl kd_48 rfl (g_lt (a := g.1) (n := 2) (c := 48) rfl (by omega)) ?_
    refine gq_aload C gd_Laws_21 rfl 0 rfl ?_
    refine gq_aload C gd_Laws_22 rfl 1 rfl ?_
    refine gq_putF (ci := 5) (C0 := R_Laws) (T := T_Laws) (N := 3) (k := 0) (a := 48) (v := 2) C gd_Laws_23 rfl in_Laws t_Laws ty_Laws n_Laws rfl (by decide) mw_367 rfl rfl rfl rfl rfl kd_48 rfl (g_lt (a := g.1) (n := 2) (c := 48) rfl (by omega)) ?_
    exact gq_ret C gd_Laws_26 hQ)
def e_Deeds_51 (g : gS) : gS := (g_r (g_r g 51 0 2) 51 1 48)
theorem k_Deeds_51 (had : ∀ i, i < 187 → ad i = b + i) {g : gS} (hg : g.1 = 52) : Met l ⟨"BackBridge$Deeds", "<init>", "(LBackBridge$Land;LBackBridge$Laws;)V"⟩ (sn_wd ⟨"BackBridge$Deeds", "<init>", "(LBackBridge$Land;LBackBridge$Laws;)V"⟩ prog_4_method_1_code 3 none) (g_rm 0 0 0) (g_Pc D cA ad b [.ref (ad 51), .ref (ad 2), .ref (ad 48)] g) (g_Qc D cA ad b (e_Deeds_51 g)) 0 0 (fun q => b ≤ q) :=
  gq_met (by decide +kernel) rfl had (Nat.le_of_ble_eq_true rfl) (fun C hQ => by
    refine gq_aload C gd_Deeds_0 rfl 0 rfl ?_
    refine gq_oinit C gd_Deeds_1 gw_382 gw_140 gw_141 (Nat.le_of_ble_eq_true rfl) ?_
    refine gq_aload C gd_Deeds_4 rfl 0 rfl ?_
    refine gq_aload C gd_Deeds_5 rfl 1 rfl ?_
    refine gq_putF (ci := 2) (C0 := R_Deeds) (T := T_Deeds) (N := 4) (k := 0) (a := 51) (v := 2) C gd_Deeds_6 rfl in_Deeds t_Deeds ty_Deeds n_Deeds rfl (by decide) mw_383 rfl rfl rfl rfl rfl kd_51 rfl (g_lt (a := g.1) (n := 0) (c := 51) rfl (by omega)) ?_
    refine gq_aload C gd_Deeds_9 rfl 0 rfl ?_
    refine gq_aload C gd_Deeds_10 rfl 2 rfl ?_
    refine gq_putF (ci := 2) (C0 := R_Deeds) (T := T_Deeds) (N := 4) (k := 1) (a := 51) (v := 48) C gd_Deeds_11 rfl in_Deeds t_Deeds ty_Deeds n_Deeds rfl (by decide) mw_384 rfl rfl rfl rfl rfl kd_51 rfl (g_lt (a := g.1) (n := 0) (c := 51) rfl (by omega)) ?_
    exact gq_ret C gd_Deeds_14 hQ)
def e_World_54 (g : gS) : gS := (g_r (g_s (g_r (g_s (g_r (g_s (g_r (g_s g 1) 54 0 55) 1) 54 1 56) 1) 54 2 57) 1) 54 3 58)
theorem k_World_54 (had : ∀ i, i < 187 → ad i = b + i) {g : gS} (hg : g.1 = 55) : Met l ⟨"BackBridge$World", "<init>", "()V"⟩ (sn_wd ⟨"BackBridge$World", "<init>", "()V"⟩ prog_12_method_1_code 1 none) (g_rm 0 4 24) (g_Pc D cA ad b [.ref (ad 54)] g) (g_Qc D cA ad b (e_World_54 g)) 4 24 (fun q => b ≤ q) :=
  gq_met (by decide +kernel) rfl had (Nat.le_of_ble_eq_true rfl) (fun C hQ => by
    refine gq_aload C gd_World_0 rfl 0 rfl ?_
    refine gq_oinit C gd_World_1 gw_280 gw_140 gw_141 (Nat.le_of_ble_eq_true rfl) ?_
    refine gq_aload C gd_World_4 rfl 0 rfl ?_
    refine gq_bipush (v := (6)) C gd_World_5 (by decide) ?_
    refine gx_newa (kk := 55) (t := 0) (N := 6) (ty := .int) C gd_World_7 (g_k (a := g.1) (n := 0) rfl (by omega)) rfl gw_168 rfl (by decide) (fun h => h) rfl (by decide) (by decide) kd_55 ln_55 (by decide) (Nat.le_of_ble_eq_true rfl) (Nat.le_of_ble_eq_true rfl) (Nat.le_of_ble_eq_true rfl) ?_
    refine gq_putF (ci := 10) (C0 := R_World) (T := T_World) (N := 6) (k := 0) (a := 54) (v := 55) C gd_World_9 rfl in_World t_World ty_World n_World rfl (by decide) mw_281 rfl rfl rfl rfl rfl kd_54 rfl (g_lt (a := g.1) (n := 1) (c := 54) rfl (by omega)) ?_
    refine gq_aload C gd_World_12 rfl 0 rfl ?_
    refine gq_bipush (v := (6)) C gd_World_13 (by decide) ?_
    refine gx_newa (kk := 56) (t := 0) (N := 6) (ty := .int) C gd_World_15 (g_k (a := g.1) (n := 1) rfl (by omega)) rfl gw_168 rfl (by decide) (fun h => h) rfl (by decide) (by decide) kd_56 ln_56 (by decide) (Nat.le_of_ble_eq_true rfl) (Nat.le_of_ble_eq_true rfl) (Nat.le_of_ble_eq_true rfl) ?_
    refine gq_putF (ci := 10) (C0 := R_World) (T := T_World) (N := 6) (k := 1) (a := 54) (v := 56) C gd_World_17 rfl in_World t_World ty_World n_World rfl (by decide) mw_286 rfl rfl rfl rfl rfl kd_54 rfl (g_lt (a := g.1) (n := 2) (c := 54) rfl (by omega)) ?_
    refine gq_aload C gd_World_20 rfl 0 rfl ?_
    refine gq_bipush (v := (6)) C gd_World_21 (by decide) ?_
    refine gx_newa (kk := 57) (t := 0) (N := 6) (ty := .int) C gd_World_23 (g_k (a := g.1) (n := 2) rfl (by omega)) rfl gw_168 rfl (by decide) (fun h => h) rfl (by decide) (by decide) kd_57 ln_57 (by decide) (Nat.le_of_ble_eq_true rfl) (Nat.le_of_ble_eq_true rfl) (Nat.le_of_ble_eq_true rfl) ?_
    refine gq_putF (ci := 10) (C0 := R_World) (T := T_World) (N := 6) (k := 2) (a := 54) (v := 57) C gd_World_25 rfl in_World t_World ty_World n_World rfl (by decide) mw_290 rfl rfl rfl rfl rfl kd_54 rfl (g_lt (a := g.1) (n := 3) (c := 54) rfl (by omega)) ?_
    refine gq_aload C gd_World_28 rfl 0 rfl ?_
    refine gq_bipush (v := (6)) C gd_World_29 (by decide) ?_
    refine gx_newa (kk := 58) (t := 0) (N := 6) (ty := .int) C gd_World_31 (g_k (a := g.1) (n := 3) rfl (by omega)) rfl gw_168 rfl (by decide) (fun h => h) rfl (by decide) (by decide) kd_58 ln_58 (by decide) (Nat.le_of_ble_eq_true rfl) (Nat.le_of_ble_eq_true rfl) (Nat.le_of_ble_eq_true rfl) ?_
    refine gq_putF (ci := 10) (C0 := R_World) (T := T_World) (N := 6) (k := 3) (a := 54) (v := 58) C gd_World_33 rfl in_World t_World ty_World n_World rfl (by decide) mw_296 rfl rfl rfl rfl rfl kd_54 rfl (g_lt (a := g.1) (n := 4) (c := 54) rfl (by omega)) ?_
    exact gq_ret C gd_World_36 hQ)
def e_World_59 (g : gS) : gS := (g_r (g_s (g_r (g_s (g_r (g_s (g_r (g_s g 1) 59 0 60) 1) 59 1 61) 1) 59 2 62) 1) 59 3 63)
theorem k_World_59 (had : ∀ i, i < 187 → ad i = b + i) {g : gS} (hg : g.1 = 60) : Met l ⟨"BackBridge$World", "<init>", "()V"⟩ (sn_wd ⟨"BackBridge$World", "<init>", "()V"⟩ prog_12_method_1_code 1 none) (g_rm 0 4 24) (g_Pc D cA ad b [.ref (ad 59)] g) (g_Qc D cA ad b (e_World_59 g)) 4 24 (fun q => b ≤ q) :=
  gq_met (by decide +kernel) rfl had (Nat.le_of_ble_eq_true rfl) (fun C hQ => by
    refine gq_aload C gd_World_0 rfl 0 rfl ?_
    refine gq_oinit C gd_World_1 gw_280 gw_140 gw_141 (Nat.le_of_ble_eq_true rfl) ?_
    refine gq_aload C gd_World_4 rfl 0 rfl ?_
    refine gq_bipush (v := (6)) C gd_World_5 (by decide) ?_
    refine gx_newa (kk := 60) (t := 0) (N := 6) (ty := .int) C gd_World_7 (g_k (a := g.1) (n := 0) rfl (by omega)) rfl gw_168 rfl (by decide) (fun h => h) rfl (by decide) (by decide) kd_60 ln_60 (by decide) (Nat.le_of_ble_eq_true rfl) (Nat.le_of_ble_eq_true rfl) (Nat.le_of_ble_eq_true rfl) ?_
    refine gq_putF (ci := 10) (C0 := R_World) (T := T_World) (N := 6) (k := 0) (a := 59) (v := 60) C gd_World_9 rfl in_World t_World ty_World n_World rfl (by decide) mw_281 rfl rfl rfl rfl rfl kd_59 rfl (g_lt (a := g.1) (n := 1) (c := 59) rfl (by omega)) ?_
    refine gq_aload C gd_World_12 rfl 0 rfl ?_
    refine gq_bipush (v := (6)) C gd_World_13 (by decide) ?_
    refine gx_newa (kk := 61) (t := 0) (N := 6) (ty := .int) C gd_World_15 (g_k (a := g.1) (n := 1) rfl (by omega)) rfl gw_168 rfl (by decide) (fun h => h) rfl (by decide) (by decide) kd_61 ln_61 (by decide) (Nat.le_of_ble_eq_true rfl) (Nat.le_of_ble_eq_true rfl) (Nat.le_of_ble_eq_true rfl) ?_
    refine gq_putF (ci := 10) (C0 := R_World) (T := T_World) (N := 6) (k := 1) (a := 59) (v := 61) C gd_World_17 rfl in_World t_World ty_World n_World rfl (by decide) mw_286 rfl rfl rfl rfl rfl kd_59 rfl (g_lt (a := g.1) (n := 2) (c := 59) rfl (by omega)) ?_
    refine gq_aload C gd_World_20 rfl 0 rfl ?_
    refine gq_bipush (v := (6)) C gd_World_21 (by decide) ?_
    refine gx_newa (kk := 62) (t := 0) (N := 6) (ty := .int) C gd_World_23 (g_k (a := g.1) (n := 2) rfl (by omega)) rfl gw_168 rfl (by decide) (fun h => h) rfl (by decide) (by decide) kd_62 ln_62 (by decide) (Nat.le_of_ble_eq_true rfl) (Nat.le_of_ble_eq_true rfl) (Nat.le_of_ble_eq_true rfl) ?_
    refine gq_putF (ci := 10) (C0 := R_World) (T := T_World) (N := 6) (k := 2) (a := 59) (v := 62) C gd_World_25 rfl in_World t_World ty_World n_World rfl (by decide) mw_290 rfl rfl rfl rfl rfl kd_59 rfl (g_lt (a := g.1) (n := 3) (c := 59) rfl (by omega)) ?_
    refine gq_aload C gd_World_28 rfl 0 rfl ?_
    refine gq_bipush (v := (6)) C gd_World_29 (by decide) ?_
    refine gx_newa (kk := 63) (t := 0) (N := 6) (ty := .int) C gd_World_31 (g_k (a := g.1) (n := 3) rfl (by omega)) rfl gw_168 rfl (by decide) (fun h => h) rfl (by decide) (by decide) kd_63 ln_63 (by decide) (Nat.le_of_ble_eq_true rfl) (Nat.le_of_ble_eq_true rfl) (Nat.le_of_ble_eq_true rfl) ?_
    refine gq_putF (ci := 10) (C0 := R_World) (T := T_World) (N := 6) (k := 3) (a := 59) (v := 63) C gd_World_33 rfl in_World t_World ty_World n_World rfl (by decide) mw_296 rfl rfl rfl rfl rfl kd_59 rfl (g_lt (a := g.1) (n := 4) (c := 59) rfl (by omega)) ?_
    exact gq_ret C gd_World_36 hQ)
def e_World_64 (g : gS) : gS := (g_r (g_s (g_r (g_s (g_r (g_s (g_r (g_s g 1) 64 0 65) 1) 64 1 66) 1) 64 2 67) 1) 64 3 68)
theorem k_World_64 (had : ∀ i, i < 187 → ad i = b + i) {g : gS} (hg : g.1 = 65) : Met l ⟨"BackBridge$World", "<init>", "()V"⟩ (sn_wd ⟨"BackBridge$World", "<init>", "()V"⟩ prog_12_method_1_code 1 none) (g_rm 0 4 24) (g_Pc D cA ad b [.ref (ad 64)] g) (g_Qc D cA ad b (e_World_64 g)) 4 24 (fun q => b ≤ q) :=
  gq_met (by decide +kernel) rfl had (Nat.le_of_ble_eq_true rfl) (fun C hQ => by
    refine gq_aload C gd_World_0 rfl 0 rfl ?_
    refine gq_oinit C gd_World_1 gw_280 gw_140 gw_141 (Nat.le_of_ble_eq_true rfl) ?_
    refine gq_aload C gd_World_4 rfl 0 rfl ?_
    refine gq_bipush (v := (6)) C gd_World_5 (by decide) ?_
    refine gx_newa (kk := 65) (t := 0) (N := 6) (ty := .int) C gd_World_7 (g_k (a := g.1) (n := 0) rfl (by omega)) rfl gw_168 rfl (by decide) (fun h => h) rfl (by decide) (by decide) kd_65 ln_65 (by decide) (Nat.le_of_ble_eq_true rfl) (Nat.le_of_ble_eq_true rfl) (Nat.le_of_ble_eq_true rfl) ?_
    refine gq_putF (ci := 10) (C0 := R_World) (T := T_World) (N := 6) (k := 0) (a := 64) (v := 65) C gd_World_9 rfl in_World t_World ty_World n_World rfl (by decide) mw_281 rfl rfl rfl rfl rfl kd_64 rfl (g_lt (a := g.1) (n := 1) (c := 64) rfl (by omega)) ?_
    refine gq_aload C gd_World_12 rfl 0 rfl ?_
    refine gq_bipush (v := (6)) C gd_World_13 (by decide) ?_
    refine gx_newa (kk := 66) (t := 0) (N := 6) (ty := .int) C gd_World_15 (g_k (a := g.1) (n := 1) rfl (by omega)) rfl gw_168 rfl (by decide) (fun h => h) rfl (by decide) (by decide) kd_66 ln_66 (by decide) (Nat.le_of_ble_eq_true rfl) (Nat.le_of_ble_eq_true rfl) (Nat.le_of_ble_eq_true rfl) ?_
    refine gq_putF (ci := 10) (C0 := R_World) (T := T_World) (N := 6) (k := 1) (a := 64) (v := 66) C gd_World_17 rfl in_World t_World ty_World n_World rfl (by decide) mw_286 rfl rfl rfl rfl rfl kd_64 rfl (g_lt (a := g.1) (n := 2) (c := 64) rfl (by omega)) ?_
    refine gq_aload C gd_World_20 rfl 0 rfl ?_
    refine gq_bipush (v := (6)) C gd_World_21 (by decide) ?_
    refine gx_newa (kk := 67) (t := 0) (N := 6) (ty := .int) C gd_World_23 (g_k (a := g.1) (n := 2) rfl (by omega)) rfl gw_168 rfl (by decide) (fun h => h) rfl (by decide) (by decide) kd_67 ln_67 (by decide) (Nat.le_of_ble_eq_true rfl) (Nat.le_of_ble_eq_true rfl) (Nat.le_of_ble_eq_true rfl) ?_
    refine gq_putF (ci := 10) (C0 := R_World) (T := T_World) (N := 6) (k := 2) (a := 64) (v := 67) C gd_World_25 rfl in_World t_World ty_World n_World rfl (by decide) mw_290 rfl rfl rfl rfl rfl kd_64 rfl (g_lt (a := g.1) (n := 3) (c := 64) rfl (by omega)) ?_
    refine gq_aload C gd_World_28 rfl 0 rfl ?_
    refine gq_bipush (v := (6)) C gd_World_29 (by decide) ?_
    refine gx_newa (kk := 68) (t := 0) (N := 6) (ty := .int) C gd_World_31 (g_k (a := g.1) (n := 3) rfl (by omega)) rfl gw_168 rfl (by decide) (fun h => h) rfl (by decide) (by decide) kd_68 ln_68 (by decide) (Nat.le_of_ble_eq_true rfl) (Nat.le_of_ble_eq_true rfl) (Nat.le_of_ble_eq_true rfl) ?_
    refine gq_putF (ci := 10) (C0 := R_World) (T := T_World) (N := 6) (k := 3) (a := 64) (v := 68) C gd_World_33 rfl in_World t_World ty_World n_World rfl (by decide) mw_296 rfl rfl rfl rfl rfl kd_64 rfl (g_lt (a := g.1) (n := 4) (c := 64) rfl (by omega)) ?_
    exact gq_ret C gd_World_36 hQ)
def e_World_69 (g : gS) : gS := (g_r (g_s (g_r (g_s (g_r (g_s (g_r (g_s g 1) 69 0 70) 1) 69 1 71) 1) 69 2 72) 1) 69 3 73)
theorem k_World_69 (had : ∀ i, i < 187 → ad i = b + i) {g : gS} (hg : g.1 = 70) : Met l ⟨"BackBridge$World", "<init>", "()V"⟩ (sn_wd ⟨"BackBridge$World", "<init>", "()V"⟩ prog_12_method_1_code 1 none) (g_rm 0 4 24) (g_Pc D cA ad b [.ref (ad 69)] g) (g_Qc D cA ad b (e_World_69 g)) 4 24 (fun q => b ≤ q) :=
  gq_met (by decide +kernel) rfl had (Nat.le_of_ble_eq_true rfl) (fun C hQ => by
    refine gq_aload C gd_World_0 rfl 0 rfl ?_
    refine gq_oinit C gd_World_1 gw_280 gw_140 gw_141 (Nat.le_of_ble_eq_true rfl) ?_
    refine gq_aload C gd_World_4 rfl 0 rfl ?_
    refine gq_bipush (v := (6)) C gd_World_5 (by decide) ?_
    refine gx_newa (kk := 70) (t := 0) (N := 6) (ty := .int) C gd_World_7 (g_k (a := g.1) (n := 0) rfl (by omega)) rfl gw_168 rfl (by decide) (fun h => h) rfl (by decide) (by decide) kd_70 ln_70 (by decide) (Nat.le_of_ble_eq_true rfl) (Nat.le_of_ble_eq_true rfl) (Nat.le_of_ble_eq_true rfl) ?_
    refine gq_putF (ci := 10) (C0 := R_World) (T := T_World) (N := 6) (k := 0) (a := 69) (v := 70) C gd_World_9 rfl in_World t_World ty_World n_World rfl (by decide) mw_281 rfl rfl rfl rfl rfl kd_69 rfl (g_lt (a := g.1) (n := 1) (c := 69) rfl (by omega)) ?_
    refine gq_aload C gd_World_12 rfl 0 rfl ?_
    refine gq_bipush (v := (6)) C gd_World_13 (by decide) ?_
    refine gx_newa (kk := 71) (t := 0) (N := 6) (ty := .int) C gd_World_15 (g_k (a := g.1) (n := 1) rfl (by omega)) rfl gw_168 rfl (by decide) (fun h => h) rfl (by decide) (by decide) kd_71 ln_71 (by decide) (Nat.le_of_ble_eq_true rfl) (Nat.le_of_ble_eq_true rfl) (Nat.le_of_ble_eq_true rfl) ?_
    refine gq_putF (ci := 10) (C0 := R_World) (T := T_World) (N := 6) (k := 1) (a := 69) (v := 71) C gd_World_17 rfl in_World t_World ty_World n_World rfl (by decide) mw_286 rfl rfl rfl rfl rfl kd_69 rfl (g_lt (a := g.1) (n := 2) (c := 69) rfl (by omega)) ?_
    refine gq_aload C gd_World_20 rfl 0 rfl ?_
    refine gq_bipush (v := (6)) C gd_World_21 (by decide) ?_
    refine gx_newa (kk := 72) (t := 0) (N := 6) (ty := .int) C gd_World_23 (g_k (a := g.1) (n := 2) rfl (by omega)) rfl gw_168 rfl (by decide) (fun h => h) rfl (by decide) (by decide) kd_72 ln_72 (by decide) (Nat.le_of_ble_eq_true rfl) (Nat.le_of_ble_eq_true rfl) (Nat.le_of_ble_eq_true rfl) ?_
    refine gq_putF (ci := 10) (C0 := R_World) (T := T_World) (N := 6) (k := 2) (a := 69) (v := 72) C gd_World_25 rfl in_World t_World ty_World n_World rfl (by decide) mw_290 rfl rfl rfl rfl rfl kd_69 rfl (g_lt (a := g.1) (n := 3) (c := 69) rfl (by omega)) ?_
    refine gq_aload C gd_World_28 rfl 0 rfl ?_
    refine gq_bipush (v := (6)) C gd_World_29 (by decide) ?_
    refine gx_newa (kk := 73) (t := 0) (N := 6) (ty := .int) C gd_World_31 (g_k (a := g.1) (n := 3) rfl (by omega)) rfl gw_168 rfl (by decide) (fun h => h) rfl (by decide) (by decide) kd_73 ln_73 (by decide) (Nat.le_of_ble_eq_true rfl) (Nat.le_of_ble_eq_true rfl) (Nat.le_of_ble_eq_true rfl) ?_
    refine gq_putF (ci := 10) (C0 := R_World) (T := T_World) (N := 6) (k := 3) (a := 69) (v := 73) C gd_World_33 rfl in_World t_World ty_World n_World rfl (by decide) mw_296 rfl rfl rfl rfl rfl kd_69 rfl (g_lt (a := g.1) (n := 4) (c := 69) rfl (by omega)) ?_
    exact gq_ret C gd_World_36 hQ)
def e_World_74 (g : gS) : gS := (g_r (g_s (g_r (g_s (g_r (g_s (g_r (g_s g 1) 74 0 75) 1) 74 1 76) 1) 74 2 77) 1) 74 3 78)
theorem k_World_74 (had : ∀ i, i < 187 → ad i = b + i) {g : gS} (hg : g.1 = 75) : Met l ⟨"BackBridge$World", "<init>", "()V"⟩ (sn_wd ⟨"BackBridge$World", "<init>", "()V"⟩ prog_12_method_1_code 1 none) (g_rm 0 4 24) (g_Pc D cA ad b [.ref (ad 74)] g) (g_Qc D cA ad b (e_World_74 g)) 4 24 (fun q => b ≤ q) :=
  gq_met (by decide +kernel) rfl had (Nat.le_of_ble_eq_true rfl) (fun C hQ => by
    refine gq_aload C gd_World_0 rfl 0 rfl ?_
    refine gq_oinit C gd_World_1 gw_280 gw_140 gw_141 (Nat.le_of_ble_eq_true rfl) ?_
    refine gq_aload C gd_World_4 rfl 0 rfl ?_
    refine gq_bipush (v := (6)) C gd_World_5 (by decide) ?_
    refine gx_newa (kk := 75) (t := 0) (N := 6) (ty := .int) C gd_World_7 (g_k (a := g.1) (n := 0) rfl (by omega)) rfl gw_168 rfl (by decide) (fun h => h) rfl (by decide) (by decide) kd_75 ln_75 (by decide) (Nat.le_of_ble_eq_true rfl) (Nat.le_of_ble_eq_true rfl) (Nat.le_of_ble_eq_true rfl) ?_
    refine gq_putF (ci := 10) (C0 := R_World) (T := T_World) (N := 6) (k := 0) (a := 74) (v := 75) C gd_World_9 rfl in_World t_World ty_World n_World rfl (by decide) mw_281 rfl rfl rfl rfl rfl kd_74 rfl (g_lt (a := g.1) (n := 1) (c := 74) rfl (by omega)) ?_
    refine gq_aload C gd_World_12 rfl 0 rfl ?_
    refine gq_bipush (v := (6)) C gd_World_13 (by decide) ?_
    refine gx_newa (kk := 76) (t := 0) (N := 6) (ty := .int) C gd_World_15 (g_k (a := g.1) (n := 1) rfl (by omega)) rfl gw_168 rfl (by decide) (fun h => h) rfl (by decide) (by decide) kd_76 ln_76 (by decide) (Nat.le_of_ble_eq_true rfl) (Nat.le_of_ble_eq_true rfl) (Nat.le_of_ble_eq_true rfl) ?_
    refine gq_putF (ci := 10) (C0 := R_World) (T := T_World) (N := 6) (k := 1) (a := 74) (v := 76) C gd_World_17 rfl in_World t_World ty_World n_World rfl (by decide) mw_286 rfl rfl rfl rfl rfl kd_74 rfl (g_lt (a := g.1) (n := 2) (c := 74) rfl (by omega)) ?_
    refine gq_aload C gd_World_20 rfl 0 rfl ?_
    refine gq_bipush (v := (6)) C gd_World_21 (by decide) ?_
    refine gx_newa (kk := 77) (t := 0) (N := 6) (ty := .int) C gd_World_23 (g_k (a := g.1) (n := 2) rfl (by omega)) rfl gw_168 rfl (by decide) (fun h => h) rfl (by decide) (by decide) kd_77 ln_77 (by decide) (Nat.le_of_ble_eq_true rfl) (Nat.le_of_ble_eq_true rfl) (Nat.le_of_ble_eq_true rfl) ?_
    refine gq_putF (ci := 10) (C0 := R_World) (T := T_World) (N := 6) (k := 2) (a := 74) (v := 77) C gd_World_25 rfl in_World t_World ty_World n_World rfl (by decide) mw_290 rfl rfl rfl rfl rfl kd_74 rfl (g_lt (a := g.1) (n := 3) (c := 74) rfl (by omega)) ?_
    refine gq_aload C gd_World_28 rfl 0 rfl ?_
    refine gq_bipush (v := (6)) C gd_World_29 (by decide) ?_
    refine gx_newa (kk := 78) (t := 0) (N := 6) (ty := .int) C gd_World_31 (g_k (a := g.1) (n := 3) rfl (by omega)) rfl gw_168 rfl (by decide) (fun h => h) rfl (by decide) (by decide) kd_78 ln_78 (by decide) (Nat.le_of_ble_eq_true rfl) (Nat.le_of_ble_eq_true rfl) (Nat.le_of_ble_eq_true rfl) ?_
    refine gq_putF (ci := 10) (C0 := R_World) (T := T_World) (N := 6) (k := 3) (a := 74) (v := 78) C gd_World_33 rfl in_World t_World ty_World n_World rfl (by decide) mw_296 rfl rfl rfl rfl rfl kd_74 rfl (g_lt (a := g.1) (n := 4) (c := 74) rfl (by omega)) ?_
    exact gq_ret C gd_World_36 hQ)
def e_World_79 (g : gS) : gS := (g_r (g_s (g_r (g_s (g_r (g_s (g_r (g_s g 1) 79 0 80) 1) 79 1 81) 1) 79 2 82) 1) 79 3 83)
theorem k_World_79 (had : ∀ i, i < 187 → ad i = b + i) {g : gS} (hg : g.1 = 80) : Met l ⟨"BackBridge$World", "<init>", "()V"⟩ (sn_wd ⟨"BackBridge$World", "<init>", "()V"⟩ prog_12_method_1_code 1 none) (g_rm 0 4 24) (g_Pc D cA ad b [.ref (ad 79)] g) (g_Qc D cA ad b (e_World_79 g)) 4 24 (fun q => b ≤ q) :=
  gq_met (by decide +kernel) rfl had (Nat.le_of_ble_eq_true rfl) (fun C hQ => by
    refine gq_aload C gd_World_0 rfl 0 rfl ?_
    refine gq_oinit C gd_World_1 gw_280 gw_140 gw_141 (Nat.le_of_ble_eq_true rfl) ?_
    refine gq_aload C gd_World_4 rfl 0 rfl ?_
    refine gq_bipush (v := (6)) C gd_World_5 (by decide) ?_
    refine gx_newa (kk := 80) (t := 0) (N := 6) (ty := .int) C gd_World_7 (g_k (a := g.1) (n := 0) rfl (by omega)) rfl gw_168 rfl (by decide) (fun h => h) rfl (by decide) (by decide) kd_80 ln_80 (by decide) (Nat.le_of_ble_eq_true rfl) (Nat.le_of_ble_eq_true rfl) (Nat.le_of_ble_eq_true rfl) ?_
    refine gq_putF (ci := 10) (C0 := R_World) (T := T_World) (N := 6) (k := 0) (a := 79) (v := 80) C gd_World_9 rfl in_World t_World ty_World n_World rfl (by decide) mw_281 rfl rfl rfl rfl rfl kd_79 rfl (g_lt (a := g.1) (n := 1) (c := 79) rfl (by omega)) ?_
    refine gq_aload C gd_World_12 rfl 0 rfl ?_
    refine gq_bipush (v := (6)) C gd_World_13 (by decide) ?_
    refine gx_newa (kk := 81) (t := 0) (N := 6) (ty := .int) C gd_World_15 (g_k (a := g.1) (n := 1) rfl (by omega)) rfl gw_168 rfl (by decide) (fun h => h) rfl (by decide) (by decide) kd_81 ln_81 (by decide) (Nat.le_of_ble_eq_true rfl) (Nat.le_of_ble_eq_true rfl) (Nat.le_of_ble_eq_true rfl) ?_
    refine gq_putF (ci := 10) (C0 := R_World) (T := T_World) (N := 6) (k := 1) (a := 79) (v := 81) C gd_World_17 rfl in_World t_World ty_World n_World rfl (by decide) mw_286 rfl rfl rfl rfl rfl kd_79 rfl (g_lt (a := g.1) (n := 2) (c := 79) rfl (by omega)) ?_
    refine gq_aload C gd_World_20 rfl 0 rfl ?_
    refine gq_bipush (v := (6)) C gd_World_21 (by decide) ?_
    refine gx_newa (kk := 82) (t := 0) (N := 6) (ty := .int) C gd_World_23 (g_k (a := g.1) (n := 2) rfl (by omega)) rfl gw_168 rfl (by decide) (fun h => h) rfl (by decide) (by decide) kd_82 ln_82 (by decide) (Nat.le_of_ble_eq_true rfl) (Nat.le_of_ble_eq_true rfl) (Nat.le_of_ble_eq_true rfl) ?_
    refine gq_putF (ci := 10) (C0 := R_World) (T := T_World) (N := 6) (k := 2) (a := 79) (v := 82) C gd_World_25 rfl in_World t_World ty_World n_World rfl (by decide) mw_290 rfl rfl rfl rfl rfl kd_79 rfl (g_lt (a := g.1) (n := 3) (c := 79) rfl (by omega)) ?_
    refine gq_aload C gd_World_28 rfl 0 rfl ?_
    refine gq_bipush (v := (6)) C gd_World_29 (by decide) ?_
    refine gx_newa (kk := 83) (t := 0) (N := 6) (ty := .int) C gd_World_31 (g_k (a := g.1) (n := 3) rfl (by omega)) rfl gw_168 rfl (by decide) (fun h => h) rfl (by decide) (by decide) kd_83 ln_83 (by decide) (Nat.le_of_ble_eq_true rfl) (Nat.le_of_ble_eq_true rfl) (Nat.le_of_ble_eq_true rfl) ?_
    refine gq_putF (ci := 10) (C0 := R_World) (T := T_World) (N := 6) (k := 3) (a := 79) (v := 83) C gd_World_33 rfl in_World t_World ty_World n_World rfl (by decide) mw_296 rfl rfl rfl rfl rfl kd_79 rfl (g_lt (a := g.1) (n := 4) (c := 79) rfl (by omega)) ?_
    exact gq_ret C gd_World_36 hQ)
def e_World_84 (g : gS) : gS := (g_r (g_s (g_r (g_s (g_r (g_s (g_r (g_s g 1) 84 0 85) 1) 84 1 86) 1) 84 2 87) 1) 84 3 88)
theorem k_World_84 (had : ∀ i, i < 187 → ad i = b + i) {g : gS} (hg : g.1 = 85) : Met l ⟨"BackBridge$World", "<init>", "()V"⟩ (sn_wd ⟨"BackBridge$World", "<init>", "()V"⟩ prog_12_method_1_code 1 none) (g_rm 0 4 24) (g_Pc D cA ad b [.ref (ad 84)] g) (g_Qc D cA ad b (e_World_84 g)) 4 24 (fun q => b ≤ q) :=
  gq_met (by decide +kernel) rfl had (Nat.le_of_ble_eq_true rfl) (fun C hQ => by
    refine gq_aload C gd_World_0 rfl 0 rfl ?_
    refine gq_oinit C gd_World_1 gw_280 gw_140 gw_141 (Nat.le_of_ble_eq_true rfl) ?_
    refine gq_aload C gd_World_4 rfl 0 rfl ?_
    refine gq_bipush (v := (6)) C gd_World_5 (by decide) ?_
    refine gx_newa (kk := 85) (t := 0) (N := 6) (ty := .int) C gd_World_7 (g_k (a := g.1) (n := 0) rfl (by omega)) rfl gw_168 rfl (by decide) (fun h => h) rfl (by decide) (by decide) kd_85 ln_85 (by decide) (Nat.le_of_ble_eq_true rfl) (Nat.le_of_ble_eq_true rfl) (Nat.le_of_ble_eq_true rfl) ?_
    refine gq_putF (ci := 10) (C0 := R_World) (T := T_World) (N := 6) (k := 0) (a := 84) (v := 85) C gd_World_9 rfl in_World t_World ty_World n_World rfl (by decide) mw_281 rfl rfl rfl rfl rfl kd_84 rfl (g_lt (a := g.1) (n := 1) (c := 84) rfl (by omega)) ?_
    refine gq_aload C gd_World_12 rfl 0 rfl ?_
    refine gq_bipush (v := (6)) C gd_World_13 (by decide) ?_
    refine gx_newa (kk := 86) (t := 0) (N := 6) (ty := .int) C gd_World_15 (g_k (a := g.1) (n := 1) rfl (by omega)) rfl gw_168 rfl (by decide) (fun h => h) rfl (by decide) (by decide) kd_86 ln_86 (by decide) (Nat.le_of_ble_eq_true rfl) (Nat.le_of_ble_eq_true rfl) (Nat.le_of_ble_eq_true rfl) ?_
    refine gq_putF (ci := 10) (C0 := R_World) (T := T_World) (N := 6) (k := 1) (a := 84) (v := 86) C gd_World_17 rfl in_World t_World ty_World n_World rfl (by decide) mw_286 rfl rfl rfl rfl rfl kd_84 rfl (g_lt (a := g.1) (n := 2) (c := 84) rfl (by omega)) ?_
    refine gq_aload C gd_World_20 rfl 0 rfl ?_
    refine gq_bipush (v := (6)) C gd_World_21 (by decide) ?_
    refine gx_newa (kk := 87) (t := 0) (N := 6) (ty := .int) C gd_World_23 (g_k (a := g.1) (n := 2) rfl (by omega)) rfl gw_168 rfl (by decide) (fun h => h) rfl (by decide) (by decide) kd_87 ln_87 (by decide) (Nat.le_of_ble_eq_true rfl) (Nat.le_of_ble_eq_true rfl) (Nat.le_of_ble_eq_true rfl) ?_
    refine gq_putF (ci := 10) (C0 := R_World) (T := T_World) (N := 6) (k := 2) (a := 84) (v := 87) C gd_World_25 rfl in_World t_World ty_World n_World rfl (by decide) mw_290 rfl rfl rfl rfl rfl kd_84 rfl (g_lt (a := g.1) (n := 3) (c := 84) rfl (by omega)) ?_
    refine gq_aload C gd_World_28 rfl 0 rfl ?_
    refine gq_bipush (v := (6)) C gd_World_29 (by decide) ?_
    refine gx_newa (kk := 88) (t := 0) (N := 6) (ty := .int) C gd_World_31 (g_k (a := g.1) (n := 3) rfl (by omega)) rfl gw_168 rfl (by decide) (fun h => h) rfl (by decide) (by decide) kd_88 ln_88 (by decide) (Nat.le_of_ble_eq_true rfl) (Nat.le_of_ble_eq_true rfl) (Nat.le_of_ble_eq_true rfl) ?_
    refine gq_putF (ci := 10) (C0 := R_World) (T := T_World) (N := 6) (k := 3) (a := 84) (v := 88) C gd_World_33 rfl in_World t_World ty_World n_World rfl (by decide) mw_296 rfl rfl rfl rfl rfl kd_84 rfl (g_lt (a := g.1) (n := 4) (c := 84) rfl (by omega)) ?_
    exact gq_ret C gd_World_36 hQ)
def e_World_89 (g : gS) : gS := (g_r (g_s (g_r (g_s (g_r (g_s (g_r (g_s g 1) 89 0 90) 1) 89 1 91) 1) 89 2 92) 1) 89 3 93)
theorem k_World_89 (had : ∀ i, i < 187 → ad i = b + i) {g : gS} (hg : g.1 = 90) : Met l ⟨"BackBridge$World", "<init>", "()V"⟩ (sn_wd ⟨"BackBridge$World", "<init>", "()V"⟩ prog_12_method_1_code 1 none) (g_rm 0 4 24) (g_Pc D cA ad b [.ref (ad 89)] g) (g_Qc D cA ad b (e_World_89 g)) 4 24 (fun q => b ≤ q) :=
  gq_met (by decide +kernel) rfl had (Nat.le_of_ble_eq_true rfl) (fun C hQ => by
    refine gq_aload C gd_World_0 rfl 0 rfl ?_
    refine gq_oinit C gd_World_1 gw_280 gw_140 gw_141 (Nat.le_of_ble_eq_true rfl) ?_
    refine gq_aload C gd_World_4 rfl 0 rfl ?_
    refine gq_bipush (v := (6)) C gd_World_5 (by decide) ?_
    refine gx_newa (kk := 90) (t := 0) (N := 6) (ty := .int) C gd_World_7 (g_k (a := g.1) (n := 0) rfl (by omega)) rfl gw_168 rfl (by decide) (fun h => h) rfl (by decide) (by decide) kd_90 ln_90 (by decide) (Nat.le_of_ble_eq_true rfl) (Nat.le_of_ble_eq_true rfl) (Nat.le_of_ble_eq_true rfl) ?_
    refine gq_putF (ci := 10) (C0 := R_World) (T := T_World) (N := 6) (k := 0) (a := 89) (v := 90) C gd_World_9 rfl in_World t_World ty_World n_World rfl (by decide) mw_281 rfl rfl rfl rfl rfl kd_89 rfl (g_lt (a := g.1) (n := 1) (c := 89) rfl (by omega)) ?_
    refine gq_aload C gd_World_12 rfl 0 rfl ?_
    refine gq_bipush (v := (6)) C gd_World_13 (by decide) ?_
    refine gx_newa (kk := 91) (t := 0) (N := 6) (ty := .int) C gd_World_15 (g_k (a := g.1) (n := 1) rfl (by omega)) rfl gw_168 rfl (by decide) (fun h => h) rfl (by decide) (by decide) kd_91 ln_91 (by decide) (Nat.le_of_ble_eq_true rfl) (Nat.le_of_ble_eq_true rfl) (Nat.le_of_ble_eq_true rfl) ?_
    refine gq_putF (ci := 10) (C0 := R_World) (T := T_World) (N := 6) (k := 1) (a := 89) (v := 91) C gd_World_17 rfl in_World t_World ty_World n_World rfl (by decide) mw_286 rfl rfl rfl rfl rfl kd_89 rfl (g_lt (a := g.1) (n := 2) (c := 89) rfl (by omega)) ?_
    refine gq_aload C gd_World_20 rfl 0 rfl ?_
    refine gq_bipush (v := (6)) C gd_World_21 (by decide) ?_
    refine gx_newa (kk := 92) (t := 0) (N := 6) (ty := .int) C gd_World_23 (g_k (a := g.1) (n := 2) rfl (by omega)) rfl gw_168 rfl (by decide) (fun h => h) rfl (by decide) (by decide) kd_92 ln_92 (by decide) (Nat.le_of_ble_eq_true rfl) (Nat.le_of_ble_eq_true rfl) (Nat.le_of_ble_eq_true rfl) ?_
    refine gq_putF (ci := 10) (C0 := R_World) (T := T_World) (N := 6) (k := 2) (a := 89) (v := 92) C gd_World_25 rfl in_World t_World ty_World n_World rfl (by decide) mw_290 rfl rfl rfl rfl rfl kd_89 rfl (g_lt (a := g.1) (n := 3) (c := 89) rfl (by omega)) ?_
    refine gq_aload C gd_World_28 rfl 0 rfl ?_
    refine gq_bipush (v := (6)) C gd_World_29 (by decide) ?_
    refine gx_newa (kk := 93) (t := 0) (N := 6) (ty := .int) C gd_World_31 (g_k (a := g.1) (n := 3) rfl (by omega)) rfl gw_168 rfl (by decide) (fun h => h) rfl (by decide) (by decide) kd_93 ln_93 (by decide) (Nat.le_of_ble_eq_true rfl) (Nat.le_of_ble_eq_true rfl) (Nat.le_of_ble_eq_true rfl) ?_
    refine gq_putF (ci := 10) (C0 := R_World) (T := T_World) (N := 6) (k := 3) (a := 89) (v := 93) C gd_World_33 rfl in_World t_World ty_World n_World rfl (by decide) mw_296 rfl rfl rfl rfl rfl kd_89 rfl (g_lt (a := g.1) (n := 4) (c := 89) rfl (by omega)) ?_
    exact gq_ret C gd_World_36 hQ)
def e_World_94 (g : gS) : gS := (g_r (g_s (g_r (g_s (g_r (g_s (g_r (g_s g 1) 94 0 95) 1) 94 1 96) 1) 94 2 97) 1) 94 3 98)
theorem k_World_94 (had : ∀ i, i < 187 → ad i = b + i) {g : gS} (hg : g.1 = 95) : Met l ⟨"BackBridge$World", "<init>", "()V"⟩ (sn_wd ⟨"BackBridge$World", "<init>", "()V"⟩ prog_12_method_1_code 1 none) (g_rm 0 4 24) (g_Pc D cA ad b [.ref (ad 94)] g) (g_Qc D cA ad b (e_World_94 g)) 4 24 (fun q => b ≤ q) :=
  gq_met (by decide +kernel) rfl had (Nat.le_of_ble_eq_true rfl) (fun C hQ => by
    refine gq_aload C gd_World_0 rfl 0 rfl ?_
    refine gq_oinit C gd_World_1 gw_280 gw_140 gw_141 (Nat.le_of_ble_eq_true rfl) ?_
    refine gq_aload C gd_World_4 rfl 0 rfl ?_
    refine gq_bipush (v := (6)) C gd_World_5 (by decide) ?_
    refine gx_newa (kk := 95) (t := 0) (N := 6) (ty := .int) C gd_World_7 (g_k (a := g.1) (n := 0) rfl (by omega)) rfl gw_168 rfl (by decide) (fun h => h) rfl (by decide) (by decide) kd_95 ln_95 (by decide) (Nat.le_of_ble_eq_true rfl) (Nat.le_of_ble_eq_true rfl) (Nat.le_of_ble_eq_true rfl) ?_
    refine gq_putF (ci := 10) (C0 := R_World) (T := T_World) (N := 6) (k := 0) (a := 94) (v := 95) C gd_World_9 rfl in_World t_World ty_World n_World rfl (by decide) mw_281 rfl rfl rfl rfl rfl kd_94 rfl (g_lt (a := g.1) (n := 1) (c := 94) rfl (by omega)) ?_
    refine gq_aload C gd_World_12 rfl 0 rfl ?_
    refine gq_bipush (v := (6)) C gd_World_13 (by decide) ?_
    refine gx_newa (kk := 96) (t := 0) (N := 6) (ty := .int) C gd_World_15 (g_k (a := g.1) (n := 1) rfl (by omega)) rfl gw_168 rfl (by decide) (fun h => h) rfl (by decide) (by decide) kd_96 ln_96 (by decide) (Nat.le_of_ble_eq_true rfl) (Nat.le_of_ble_eq_true rfl) (Nat.le_of_ble_eq_true rfl) ?_
    refine gq_putF (ci := 10) (C0 := R_World) (T := T_World) (N := 6) (k := 1) (a := 94) (v := 96) C gd_World_17 rfl in_World t_World ty_World n_World rfl (by decide) mw_286 rfl rfl rfl rfl rfl kd_94 rfl (g_lt (a := g.1) (n := 2) (c := 94) rfl (by omega)) ?_
    refine gq_aload C gd_World_20 rfl 0 rfl ?_
    refine gq_bipush (v := (6)) C gd_World_21 (by decide) ?_
    refine gx_newa (kk := 97) (t := 0) (N := 6) (ty := .int) C gd_World_23 (g_k (a := g.1) (n := 2) rfl (by omega)) rfl gw_168 rfl (by decide) (fun h => h) rfl (by decide) (by decide) kd_97 ln_97 (by decide) (Nat.le_of_ble_eq_true rfl) (Nat.le_of_ble_eq_true rfl) (Nat.le_of_ble_eq_true rfl) ?_
    refine gq_putF (ci := 10) (C0 := R_World) (T := T_World) (N := 6) (k := 2) (a := 94) (v := 97) C gd_World_25 rfl in_World t_World ty_World n_World rfl (by decide) mw_290 rfl rfl rfl rfl rfl kd_94 rfl (g_lt (a := g.1) (n := 3) (c := 94) rfl (by omega)) ?_
    refine gq_aload C gd_World_28 rfl 0 rfl ?_
    refine gq_bipush (v := (6)) C gd_World_29 (by decide) ?_
    refine gx_newa (kk := 98) (t := 0) (N := 6) (ty := .int) C gd_World_31 (g_k (a := g.1) (n := 3) rfl (by omega)) rfl gw_168 rfl (by decide) (fun h => h) rfl (by decide) (by decide) kd_98 ln_98 (by decide) (Nat.le_of_ble_eq_true rfl) (Nat.le_of_ble_eq_true rfl) (Nat.le_of_ble_eq_true rfl) ?_
    refine gq_putF (ci := 10) (C0 := R_World) (T := T_World) (N := 6) (k := 3) (a := 94) (v := 98) C gd_World_33 rfl in_World t_World ty_World n_World rfl (by decide) mw_296 rfl rfl rfl rfl rfl kd_94 rfl (g_lt (a := g.1) (n := 4) (c := 94) rfl (by omega)) ?_
    exact gq_ret C gd_World_36 hQ)
def e_World_99 (g : gS) : gS := (g_r (g_s (g_r (g_s (g_r (g_s (g_r (g_s g 1) 99 0 100) 1) 99 1 101) 1) 99 2 102) 1) 99 3 103)
theorem k_World_99 (had : ∀ i, i < 187 → ad i = b + i) {g : gS} (hg : g.1 = 100) : Met l ⟨"BackBridge$World", "<init>", "()V"⟩ (sn_wd ⟨"BackBridge$World", "<init>", "()V"⟩ prog_12_method_1_code 1 none) (g_rm 0 4 24) (g_Pc D cA ad b [.ref (ad 99)] g) (g_Qc D cA ad b (e_World_99 g)) 4 24 (fun q => b ≤ q) :=
  gq_met (by decide +kernel) rfl had (Nat.le_of_ble_eq_true rfl) (fun C hQ => by
    refine gq_aload C gd_World_0 rfl 0 rfl ?_
    refine gq_oinit C gd_World_1 gw_280 gw_140 gw_141 (Nat.le_of_ble_eq_true rfl) ?_
    refine gq_aload C gd_World_4 rfl 0 rfl ?_
    refine gq_bipush (v := (6)) C gd_World_5 (by decide) ?_
    refine gx_newa (kk := 100) (t := 0) (N := 6) (ty := .int) C gd_World_7 (g_k (a := g.1) (n := 0) rfl (by omega)) rfl gw_168 rfl (by decide) (fun h => h) rfl (by decide) (by decide) kd_100 ln_100 (by decide) (Nat.le_of_ble_eq_true rfl) (Nat.le_of_ble_eq_true rfl) (Nat.le_of_ble_eq_true rfl) ?_
    refine gq_putF (ci := 10) (C0 := R_World) (T := T_World) (N := 6) (k := 0) (a := 99) (v := 100) C gd_World_9 rfl in_World t_World ty_World n_World rfl (by decide) mw_281 rfl rfl rfl rfl rfl kd_99 rfl (g_lt (a := g.1) (n := 1) (c := 99) rfl (by omega)) ?_
    refine gq_aload C gd_World_12 rfl 0 rfl ?_
    refine gq_bipush (v := (6)) C gd_World_13 (by decide) ?_
    refine gx_newa (kk := 101) (t := 0) (N := 6) (ty := .int) C gd_World_15 (g_k (a := g.1) (n := 1) rfl (by omega)) rfl gw_168 rfl (by decide) (fun h => h) rfl (by decide) (by decide) kd_101 ln_101 (by decide) (Nat.le_of_ble_eq_true rfl) (Nat.le_of_ble_eq_true rfl) (Nat.le_of_ble_eq_true rfl) ?_
    refine gq_putF (ci := 10) (C0 := R_World) (T := T_World) (N := 6) (k := 1) (a := 99) (v := 101) C gd_World_17 rfl in_World t_World ty_World n_World rfl (by decide) mw_286 rfl rfl rfl rfl rfl kd_99 rfl (g_lt (a := g.1) (n := 2) (c := 99) rfl (by omega)) ?_
    refine gq_aload C gd_World_20 rfl 0 rfl ?_
    refine gq_bipush (v := (6)) C gd_World_21 (by decide) ?_
    refine gx_newa (kk := 102) (t := 0) (N := 6) (ty := .int) C gd_World_23 (g_k (a := g.1) (n := 2) rfl (by omega)) rfl gw_168 rfl (by decide) (fun h => h) rfl (by decide) (by decide) kd_102 ln_102 (by decide) (Nat.le_of_ble_eq_true rfl) (Nat.le_of_ble_eq_true rfl) (Nat.le_of_ble_eq_true rfl) ?_
    refine gq_putF (ci := 10) (C0 := R_World) (T := T_World) (N := 6) (k := 2) (a := 99) (v := 102) C gd_World_25 rfl in_World t_World ty_World n_World rfl (by decide) mw_290 rfl rfl rfl rfl rfl kd_99 rfl (g_lt (a := g.1) (n := 3) (c := 99) rfl (by omega)) ?_
    refine gq_aload C gd_World_28 rfl 0 rfl ?_
    refine gq_bipush (v := (6)) C gd_World_29 (by decide) ?_
    refine gx_newa (kk := 103) (t := 0) (N := 6) (ty := .int) C gd_World_31 (g_k (a := g.1) (n := 3) rfl (by omega)) rfl gw_168 rfl (by decide) (fun h => h) rfl (by decide) (by decide) kd_103 ln_103 (by decide) (Nat.le_of_ble_eq_true rfl) (Nat.le_of_ble_eq_true rfl) (Nat.le_of_ble_eq_true rfl) ?_
    refine gq_putF (ci := 10) (C0 := R_World) (T := T_World) (N := 6) (k := 3) (a := 99) (v := 103) C gd_World_33 rfl in_World t_World ty_World n_World rfl (by decide) mw_296 rfl rfl rfl rfl rfl kd_99 rfl (g_lt (a := g.1) (n := 4) (c := 99) rfl (by omega)) ?_
    exact gq_ret C gd_World_36 hQ)
def e_Past_52 (g : gS) : gS := (g_r (e_World_99 (g_s (g_r (e_World_94 (g_s (g_r (e_World_89 (g_s (g_r (e_World_84 (g_s (g_r (e_World_79 (g_s (g_r (e_World_74 (g_s (g_r (e_World_69 (g_s (g_r (e_World_64 (g_s (g_r (e_World_59 (g_s (g_r (e_World_54 (g_s (g_r (g_s g 1) 52 0 53) 1)) 53 0 54) 1)) 53 1 59) 1)) 53 2 64) 1)) 53 3 69) 1)) 53 4 74) 1)) 53 5 79) 1)) 53 6 84) 1)) 53 7 89) 1)) 53 8 94) 1)) 53 9 99)
theorem k_Past_52 (had : ∀ i, i < 187 → ad i = b + i) {g : gS} (hg : g.1 = 53) : Met l ⟨"BackBridge$Past", "<init>", "()V"⟩ (sn_wd ⟨"BackBridge$Past", "<init>", "()V"⟩ prog_8_method_1_code 2 none) (g_rm 1 51 310) (g_Pc D cA ad b [.ref (ad 52)] g) (g_Qc D cA ad b (e_Past_52 g)) 51 310 (fun q => b ≤ q) :=
  gq_met (by decide +kernel) rfl had (Nat.le_of_ble_eq_true rfl) (fun C hQ => by
    refine gq_aload C gd_Past_0 rfl 0 rfl ?_
    refine gq_oinit C gd_Past_1 gw_402 gw_140 gw_141 (Nat.le_of_ble_eq_true rfl) ?_
    refine gq_aload C gd_Past_4 rfl 0 rfl ?_
    refine gq_bipush (v := (10)) C gd_Past_5 (by decide) ?_
    refine gx_newq (kk := 53) (t := 4) (N := 10) (C0 := "BackBridge$World") C gd_Past_7 (g_k (a := g.1) (n := 0) rfl (by omega)) gw_403 (C.2.2.2.2.2.2.2.2.2.2.1.1) rfl (by decide) (by decide) (by decide) kd_53 ln_53 (by decide) (Nat.le_of_ble_eq_true rfl) (Nat.le_of_ble_eq_true rfl) (Nat.le_of_ble_eq_true rfl) ?_
    refine gq_putF (ci := 6) (C0 := R_Past) (T := T_Past) (N := 3) (k := 0) (a := 52) (v := 53) C gd_Past_10 rfl in_Past t_Past ty_Past n_Past rfl (by decide) mw_406 rfl rfl rfl rfl rfl kd_52 rfl (g_lt (a := g.1) (n := 1) (c := 52) rfl (by omega)) ?_
    refine gq_iconst (v := (0)) C gd_Past_13 (by decide) ?_
    refine gq_istore (lv' := [(1, .int (0)), (0, .ref (ad 52))]) C gd_Past_14 rfl (by decide) rfl ?_
    refine gq_iload C gd_Past_15 rfl 0 rfl ?_
    refine gq_bipush (v := (10)) C gd_Past_16 (by decide) ?_
    refine gq_ge_f (tgt := 40) C gd_Past_18 (by decide) (by decide) ?_
    refine gq_aload C gd_Past_21 rfl 1 rfl ?_
    refine gq_getr (ci := 6) (C0 := R_Past) (T := T_Past) (N := 3) (k := 0) (a := 52) (v := 53) C gd_Past_22 rfl in_Past rfl (by decide) mw_406 kd_52 (by decide) (g_lt (a := g.1) (n := 1) (c := 52) rfl (by omega)) rfl ?_
    refine gq_iload C gd_Past_25 rfl 0 rfl ?_
    refine gx_new (kk := 54) (ci := 10) (C0 := R_World) (T := T_World) (N := 6) C gd_Past_26 (g_k (a := g.1) (n := 1) rfl (by omega)) rfl in_World t_World ty_World rfl gw_403 gw_276 mw_114 gf_World kd_54 (by decide) (Nat.le_of_ble_eq_true rfl) (Nat.le_of_ble_eq_true rfl) ?_
    refine gq_dup C gd_Past_29 rfl ?_
    refine gq_callN (o := 54) (d := 0) (mc := 4) (ms := 24) (mL := 1) (as := []) (st := [.ref (ad 54), .int (0), .ref (ad 53)]) C gd_Past_30 (k_World_54 had (g_k (a := g.1) (n := 2) rfl (by omega))) gw_279 mw_114 (List.mem_of_getElem? (i := 3) rfl) gw_278 rfl ⟨by decide, by decide⟩ gp_0 (Nat.le_of_ble_eq_true rfl) (Nat.le_of_ble_eq_true rfl) (Nat.le_of_ble_eq_true rfl) (Nat.le_of_ble_eq_true rfl) rfl (Nat.le_of_ble_eq_true rfl) ?_
    refine gq_aast (a := 53) (o := 54) (t := 4) (ci := 10) (n := 0) (C0 := "BackBridge$World") (T := T_World) (N := 6) C gd_Past_33 rfl (by decide) rfl kd_53 (g_lt (a := g.1) (n := 6) (c := 53) rfl (by omega)) kd_54 (g_lt (a := g.1) (n := 6) (c := 54) rfl (by omega)) (by decide) (by rw [ln_53]; unfold vp_in; decide) ?_
    refine gq_iinc (k := 0) (x := (0)) (v := (1)) (lv' := [(1, .int (1)), (0, .ref (ad 52))]) C gd_Past_34 rfl (by decide) (by decide) rfl ?_
    refine gq_goto (tgt := 15) C gd_Past_37 (by decide) ?_
    refine gq_iload C gd_Past_15 rfl 0 rfl ?_
    refine gq_bipush (v := (10)) C gd_Past_16 (by decide) ?_
    refine gq_ge_f (tgt := 40) C gd_Past_18 (by decide) (by decide) ?_
    refine gq_aload C gd_Past_21 rfl 1 rfl ?_
    refine gq_getr (ci := 6) (C0 := R_Past) (T := T_Past) (N := 3) (k := 0) (a := 52) (v := 53) C gd_Past_22 rfl in_Past rfl (by decide) mw_406 kd_52 (by decide) (g_lt (a := g.1) (n := 6) (c := 52) rfl (by omega)) rfl ?_
    refine gq_iload C gd_Past_25 rfl 0 rfl ?_
    refine gx_new (kk := 59) (ci := 10) (C0 := R_World) (T := T_World) (N := 6) C gd_Past_26 (g_k (a := g.1) (n := 6) rfl (by omega)) rfl in_World t_World ty_World rfl gw_403 gw_276 mw_114 gf_World kd_59 (by decide) (Nat.le_of_ble_eq_true rfl) (Nat.le_of_ble_eq_true rfl) ?_
    refine gq_dup C gd_Past_29 rfl ?_
    refine gq_callN (o := 59) (d := 0) (mc := 4) (ms := 24) (mL := 1) (as := []) (st := [.ref (ad 59), .int (1), .ref (ad 53)]) C gd_Past_30 (k_World_59 had (g_k (a := g.1) (n := 7) rfl (by omega))) gw_279 mw_114 (List.mem_of_getElem? (i := 3) rfl) gw_278 rfl ⟨by decide, by decide⟩ gp_0 (Nat.le_of_ble_eq_true rfl) (Nat.le_of_ble_eq_true rfl) (Nat.le_of_ble_eq_true rfl) (Nat.le_of_ble_eq_true rfl) rfl (Nat.le_of_ble_eq_true rfl) ?_
    refine gq_aast (a := 53) (o := 59) (t := 4) (ci := 10) (n := 1) (C0 := "BackBridge$World") (T := T_World) (N := 6) C gd_Past_33 rfl (by decide) rfl kd_53 (g_lt (a := g.1) (n := 11) (c := 53) rfl (by omega)) kd_59 (g_lt (a := g.1) (n := 11) (c := 59) rfl (by omega)) (by decide) (by rw [ln_53]; unfold vp_in; decide) ?_
    refine gq_iinc (k := 0) (x := (1)) (v := (2)) (lv' := [(1, .int (2)), (0, .ref (ad 52))]) C gd_Past_34 rfl (by decide) (by decide) rfl ?_
    refine gq_goto (tgt := 15) C gd_Past_37 (by decide) ?_
    refine gq_iload C gd_Past_15 rfl 0 rfl ?_
    refine gq_bipush (v := (10)) C gd_Past_16 (by decide) ?_
    refine gq_ge_f (tgt := 40) C gd_Past_18 (by decide) (by decide) ?_
    refine gq_aload C gd_Past_21 rfl 1 rfl ?_
    refine gq_getr (ci := 6) (C0 := R_Past) (T := T_Past) (N := 3) (k := 0) (a := 52) (v := 53) C gd_Past_22 rfl in_Past rfl (by decide) mw_406 kd_52 (by decide) (g_lt (a := g.1) (n := 11) (c := 52) rfl (by omega)) rfl ?_
    refine gq_iload C gd_Past_25 rfl 0 rfl ?_
    refine gx_new (kk := 64) (ci := 10) (C0 := R_World) (T := T_World) (N := 6) C gd_Past_26 (g_k (a := g.1) (n := 11) rfl (by omega)) rfl in_World t_World ty_World rfl gw_403 gw_276 mw_114 gf_World kd_64 (by decide) (Nat.le_of_ble_eq_true rfl) (Nat.le_of_ble_eq_true rfl) ?_
    refine gq_dup C gd_Past_29 rfl ?_
    refine gq_callN (o := 64) (d := 0) (mc := 4) (ms := 24) (mL := 1) (as := []) (st := [.ref (ad 64), .int (2), .ref (ad 53)]) C gd_Past_30 (k_World_64 had (g_k (a := g.1) (n := 12) rfl (by omega))) gw_279 mw_114 (List.mem_of_getElem? (i := 3) rfl) gw_278 rfl ⟨by decide, by decide⟩ gp_0 (Nat.le_of_ble_eq_true rfl) (Nat.le_of_ble_eq_true rfl) (Nat.le_of_ble_eq_true rfl) (Nat.le_of_ble_eq_true rfl) rfl (Nat.le_of_ble_eq_true rfl) ?_
    refine gq_aast (a := 53) (o := 64) (t := 4) (ci := 10) (n := 2) (C0 := "BackBridge$World") (T := T_World) (N := 6) C gd_Past_33 rfl (by decide) rfl kd_53 (g_lt (a := g.1) (n := 16) (c := 53) rfl (by omega)) kd_64 (g_lt (a := g.1) (n := 16) (c := 64) rfl (by omega)) (by decide) (by rw [ln_53]; unfold vp_in; decide) ?_
    refine gq_iinc (k := 0) (x := (2)) (v := (3)) (lv' := [(1, .int (3)), (0, .ref (ad 52))]) C gd_Past_34 rfl (by decide) (by decide) rfl ?_
    refine gq_goto (tgt := 15) C gd_Past_37 (by decide) ?_
    refine gq_iload C gd_Past_15 rfl 0 rfl ?_
    refine gq_bipush (v := (10)) C gd_Past_16 (by decide) ?_
    refine gq_ge_f (tgt := 40) C gd_Past_18 (by decide) (by decide) ?_
    refine gq_aload C gd_Past_21 rfl 1 rfl ?_
    refine gq_getr (ci := 6) (C0 := R_Past) (T := T_Past) (N := 3) (k := 0) (a := 52) (v := 53) C gd_Past_22 rfl in_Past rfl (by decide) mw_406 kd_52 (by decide) (g_lt (a := g.1) (n := 16) (c := 52) rfl (by omega)) rfl ?_
    refine gq_iload C gd_Past_25 rfl 0 rfl ?_
    refine gx_new (kk := 69) (ci := 10) (C0 := R_World) (T := T_World) (N := 6) C gd_Past_26 (g_k (a := g.1) (n := 16) rfl (by omega)) rfl in_World t_World ty_World rfl gw_403 gw_276 mw_114 gf_World kd_69 (by decide) (Nat.le_of_ble_eq_true rfl) (Nat.le_of_ble_eq_true rfl) ?_
    refine gq_dup C gd_Past_29 rfl ?_
    refine gq_callN (o := 69) (d := 0) (mc := 4) (ms := 24) (mL := 1) (as := []) (st := [.ref (ad 69), .int (3), .ref (ad 53)]) C gd_Past_30 (k_World_69 had (g_k (a := g.1) (n := 17) rfl (by omega))) gw_279 mw_114 (List.mem_of_getElem? (i := 3) rfl) gw_278 rfl ⟨by decide, by decide⟩ gp_0 (Nat.le_of_ble_eq_true rfl) (Nat.le_of_ble_eq_true rfl) (Nat.le_of_ble_eq_true rfl) (Nat.le_of_ble_eq_true rfl) rfl (Nat.le_of_ble_eq_true rfl) ?_
    refine gq_aast (a := 53) (o := 69) (t := 4) (ci := 10) (n := 3) (C0 := "BackBridge$World") (T := T_World) (N := 6) C gd_Past_33 rfl (by decide) rfl kd_53 (g_lt (a := g.1) (n := 21) (c := 53) rfl (by omega)) kd_69 (g_lt (a := g.1) (n := 21) (c := 69) rfl (by omega)) (by decide) (by rw [ln_53]; unfold vp_in; decide) ?_
    refine gq_iinc (k := 0) (x := (3)) (v := (4)) (lv' := [(1, .int (4)), (0, .ref (ad 52))]) C gd_Past_34 rfl (by decide) (by decide) rfl ?_
    refine gq_goto (tgt := 15) C gd_Past_37 (by decide) ?_
    refine gq_iload C gd_Past_15 rfl 0 rfl ?_
    refine gq_bipush (v := (10)) C gd_Past_16 (by decide) ?_
    refine gq_ge_f (tgt := 40) C gd_Past_18 (by decide) (by decide) ?_
    refine gq_aload C gd_Past_21 rfl 1 rfl ?_
    refine gq_getr (ci := 6) (C0 := R_Past) (T := T_Past) (N := 3) (k := 0) (a := 52) (v := 53) C gd_Past_22 rfl in_Past rfl (by decide) mw_406 kd_52 (by decide) (g_lt (a := g.1) (n := 21) (c := 52) rfl (by omega)) rfl ?_
    refine gq_iload C gd_Past_25 rfl 0 rfl ?_
    refine gx_new (kk := 74) (ci := 10) (C0 := R_World) (T := T_World) (N := 6) C gd_Past_26 (g_k (a := g.1) (n := 21) rfl (by omega)) rfl in_World t_World ty_World rfl gw_403 gw_276 mw_114 gf_World kd_74 (by decide) (Nat.le_of_ble_eq_true rfl) (Nat.le_of_ble_eq_true rfl) ?_
    refine gq_dup C gd_Past_29 rfl ?_
    refine gq_callN (o := 74) (d := 0) (mc := 4) (ms := 24) (mL := 1) (as := []) (st := [.ref (ad 74), .int (4), .ref (ad 53)]) C gd_Past_30 (k_World_74 had (g_k (a := g.1) (n := 22) rfl (by omega))) gw_279 mw_114 (List.mem_of_getElem? (i := 3) rfl) gw_278 rfl ⟨by decide, by decide⟩ gp_0 (Nat.le_of_ble_eq_true rfl) (Nat.le_of_ble_eq_true rfl) (Nat.le_of_ble_eq_true rfl) (Nat.le_of_ble_eq_true rfl) rfl (Nat.le_of_ble_eq_true rfl) ?_
    refine gq_aast (a := 53) (o := 74) (t := 4) (ci := 10) (n := 4) (C0 := "BackBridge$World") (T := T_World) (N := 6) C gd_Past_33 rfl (by decide) rfl kd_53 (g_lt (a := g.1) (n := 26) (c := 53) rfl (by omega)) kd_74 (g_lt (a := g.1) (n := 26) (c := 74) rfl (by omega)) (by decide) (by rw [ln_53]; unfold vp_in; decide) ?_
    refine gq_iinc (k := 0) (x := (4)) (v := (5)) (lv' := [(1, .int (5)), (0, .ref (ad 52))]) C gd_Past_34 rfl (by decide) (by decide) rfl ?_
    refine gq_goto (tgt := 15) C gd_Past_37 (by decide) ?_
    refine gq_iload C gd_Past_15 rfl 0 rfl ?_
    refine gq_bipush (v := (10)) C gd_Past_16 (by decide) ?_
    refine gq_ge_f (tgt := 40) C gd_Past_18 (by decide) (by decide) ?_
    refine gq_aload C gd_Past_21 rfl 1 rfl ?_
    refine gq_getr (ci := 6) (C0 := R_Past) (T := T_Past) (N := 3) (k := 0) (a := 52) (v := 53) C gd_Past_22 rfl in_Past rfl (by decide) mw_406 kd_52 (by decide) (g_lt (a := g.1) (n := 26) (c := 52) rfl (by omega)) rfl ?_
    refine gq_iload C gd_Past_25 rfl 0 rfl ?_
    refine gx_new (kk := 79) (ci := 10) (C0 := R_World) (T := T_World) (N := 6) C gd_Past_26 (g_k (a := g.1) (n := 26) rfl (by omega)) rfl in_World t_World ty_World rfl gw_403 gw_276 mw_114 gf_World kd_79 (by decide) (Nat.le_of_ble_eq_true rfl) (Nat.le_of_ble_eq_true rfl) ?_
    refine gq_dup C gd_Past_29 rfl ?_
    refine gq_callN (o := 79) (d := 0) (mc := 4) (ms := 24) (mL := 1) (as := []) (st := [.ref (ad 79), .int (5), .ref (ad 53)]) C gd_Past_30 (k_World_79 had (g_k (a := g.1) (n := 27) rfl (by omega))) gw_279 mw_114 (List.mem_of_getElem? (i := 3) rfl) gw_278 rfl ⟨by decide, by decide⟩ gp_0 (Nat.le_of_ble_eq_true rfl) (Nat.le_of_ble_eq_true rfl) (Nat.le_of_ble_eq_true rfl) (Nat.le_of_ble_eq_true rfl) rfl (Nat.le_of_ble_eq_true rfl) ?_
    refine gq_aast (a := 53) (o := 79) (t := 4) (ci := 10) (n := 5) (C0 := "BackBridge$World") (T := T_World) (N := 6) C gd_Past_33 rfl (by decide) rfl kd_53 (g_lt (a := g.1) (n := 31) (c := 53) rfl (by omega)) kd_79 (g_lt (a := g.1) (n := 31) (c := 79) rfl (by omega)) (by decide) (by rw [ln_53]; unfold vp_in; decide) ?_
    refine gq_iinc (k := 0) (x := (5)) (v := (6)) (lv' := [(1, .int (6)), (0, .ref (ad 52))]) C gd_Past_34 rfl (by decide) (by decide) rfl ?_
    refine gq_goto (tgt := 15) C gd_Past_37 (by decide) ?_
    refine gq_iload C gd_Past_15 rfl 0 rfl ?_
    refine gq_bipush (v := (10)) C gd_Past_16 (by decide) ?_
    refine gq_ge_f (tgt := 40) C gd_Past_18 (by decide) (by decide) ?_
    refine gq_aload C gd_Past_21 rfl 1 rfl ?_
    refine gq_getr (ci := 6) (C0 := R_Past) (T := T_Past) (N := 3) (k := 0) (a := 52) (v := 53) C gd_Past_22 rfl in_Past rfl (by decide) mw_406 kd_52 (by decide) (g_lt (a := g.1) (n := 31) (c := 52) rfl (by omega)) rfl ?_
    refine gq_iload C gd_Past_25 rfl 0 rfl ?_
    refine gx_new (kk := 84) (ci := 10) (C0 := R_World) (T := T_World) (N := 6) C gd_Past_26 (g_k (a := g.1) (n := 31) rfl (by omega)) rfl in_World t_World ty_World rfl gw_403 gw_276 mw_114 gf_World kd_84 (by decide) (Nat.le_of_ble_eq_true rfl) (Nat.le_of_ble_eq_true rfl) ?_
    refine gq_dup C gd_Past_29 rfl ?_
    refine gq_callN (o := 84) (d := 0) (mc := 4) (ms := 24) (mL := 1) (as := []) (st := [.ref (ad 84), .int (6), .ref (ad 53)]) C gd_Past_30 (k_World_84 had (g_k (a := g.1) (n := 32) rfl (by omega))) gw_279 mw_114 (List.mem_of_getElem? (i := 3) rfl) gw_278 rfl ⟨by decide, by decide⟩ gp_0 (Nat.le_of_ble_eq_true rfl) (Nat.le_of_ble_eq_true rfl) (Nat.le_of_ble_eq_true rfl) (Nat.le_of_ble_eq_true rfl) rfl (Nat.le_of_ble_eq_true rfl) ?_
    refine gq_aast (a := 53) (o := 84) (t := 4) (ci := 10) (n := 6) (C0 := "BackBridge$World") (T := T_World) (N := 6) C gd_Past_33 rfl (by decide) rfl kd_53 (g_lt (a := g.1) (n := 36) (c := 53) rfl (by omega)) kd_84 (g_lt (a := g.1) (n := 36) (c := 84) rfl (by omega)) (by decide) (by rw [ln_53]; unfold vp_in; decide) ?_
    refine gq_iinc (k := 0) (x := (6)) (v := (7)) (lv' := [(1, .int (7)), (0, .ref (ad 52))]) C gd_Past_34 rfl (by decide) (by decide) rfl ?_
    refine gq_goto (tgt := 15) C gd_Past_37 (by decide) ?_
    refine gq_iload C gd_Past_15 rfl 0 rfl ?_
    refine gq_bipush (v := (10)) C gd_Past_16 (by decide) ?_
    refine gq_ge_f (tgt := 40) C gd_Past_18 (by decide) (by decide) ?_
    refine gq_aload C gd_Past_21 rfl 1 rfl ?_
    refine gq_getr (ci := 6) (C0 := R_Past) (T := T_Past) (N := 3) (k := 0) (a := 52) (v := 53) C gd_Past_22 rfl in_Past rfl (by decide) mw_406 kd_52 (by decide) (g_lt (a := g.1) (n := 36) (c := 52) rfl (by omega)) rfl ?_
    refine gq_iload C gd_Past_25 rfl 0 rfl ?_
    refine gx_new (kk := 89) (ci := 10) (C0 := R_World) (T := T_World) (N := 6) C gd_Past_26 (g_k (a := g.1) (n := 36) rfl (by omega)) rfl in_World t_World ty_World rfl gw_403 gw_276 mw_114 gf_World kd_89 (by decide) (Nat.le_of_ble_eq_true rfl) (Nat.le_of_ble_eq_true rfl) ?_
    refine gq_dup C gd_Past_29 rfl ?_
    refine gq_callN (o := 89) (d := 0) (mc := 4) (ms := 24) (mL := 1) (as := []) (st := [.ref (ad 89), .int (7), .ref (ad 53)]) C gd_Past_30 (k_World_89 had (g_k (a := g.1) (n := 37) rfl (by omega))) gw_279 mw_114 (List.mem_of_getElem? (i := 3) rfl) gw_278 rfl ⟨by decide, by decide⟩ gp_0 (Nat.le_of_ble_eq_true rfl) (Nat.le_of_ble_eq_true rfl) (Nat.le_of_ble_eq_true rfl) (Nat.le_of_ble_eq_true rfl) rfl (Nat.le_of_ble_eq_true rfl) ?_
    refine gq_aast (a := 53) (o := 89) (t := 4) (ci := 10) (n := 7) (C0 := "BackBridge$World") (T := T_World) (N := 6) C gd_Past_33 rfl (by decide) rfl kd_53 (g_lt (a := g.1) (n := 41) (c := 53) rfl (by omega)) kd_89 (g_lt (a := g.1) (n := 41) (c := 89) rfl (by omega)) (by decide) (by rw [ln_53]; unfold vp_in; decide) ?_
    refine gq_iinc (k := 0) (x := (7)) (v := (8)) (lv' := [(1, .int (8)), (0, .ref (ad 52))]) C gd_Past_34 rfl (by decide) (by decide) rfl ?_
    refine gq_goto (tgt := 15) C gd_Past_37 (by decide) ?_
    refine gq_iload C gd_Past_15 rfl 0 rfl ?_
    refine gq_bipush (v := (10)) C gd_Past_16 (by decide) ?_
    refine gq_ge_f (tgt := 40) C gd_Past_18 (by decide) (by decide) ?_
    refine gq_aload C gd_Past_21 rfl 1 rfl ?_
    refine gq_getr (ci := 6) (C0 := R_Past) (T := T_Past) (N := 3) (k := 0) (a := 52) (v := 53) C gd_Past_22 rfl in_Past rfl (by decide) mw_406 kd_52 (by decide) (g_lt (a := g.1) (n := 41) (c := 52) rfl (by omega)) rfl ?_
    refine gq_iload C gd_Past_25 rfl 0 rfl ?_
    refine gx_new (kk := 94) (ci := 10) (C0 := R_World) (T := T_World) (N := 6) C gd_Past_26 (g_k (a := g.1) (n := 41) rfl (by omega)) rfl in_World t_World ty_World rfl gw_403 gw_276 mw_114 gf_World kd_94 (by decide) (Nat.le_of_ble_eq_true rfl) (Nat.le_of_ble_eq_true rfl) ?_
    refine gq_dup C gd_Past_29 rfl ?_
    refine gq_callN (o := 94) (d := 0) (mc := 4) (ms := 24) (mL := 1) (as := []) (st := [.ref (ad 94), .int (8), .ref (ad 53)]) C gd_Past_30 (k_World_94 had (g_k (a := g.1) (n := 42) rfl (by omega))) gw_279 mw_114 (List.mem_of_getElem? (i := 3) rfl) gw_278 rfl ⟨by decide, by decide⟩ gp_0 (Nat.le_of_ble_eq_true rfl) (Nat.le_of_ble_eq_true rfl) (Nat.le_of_ble_eq_true rfl) (Nat.le_of_ble_eq_true rfl) rfl (Nat.le_of_ble_eq_true rfl) ?_
    refine gq_aast (a := 53) (o := 94) (t := 4) (ci := 10) (n := 8) (C0 := "BackBridge$World") (T := T_World) (N := 6) C gd_Past_33 rfl (by decide) rfl kd_53 (g_lt (a := g.1) (n := 46) (c := 53) rfl (by omega)) kd_94 (g_lt (a := g.1) (n := 46) (c := 94) rfl (by omega)) (by decide) (by rw [ln_53]; unfold vp_in; decide) ?_
    refine gq_iinc (k := 0) (x := (8)) (v := (9)) (lv' := [(1, .int (9)), (0, .ref (ad 52))]) C gd_Past_34 rfl (by decide) (by decide) rfl ?_
    refine gq_goto (tgt := 15) C gd_Past_37 (by decide) ?_
    refine gq_iload C gd_Past_15 rfl 0 rfl ?_
    refine gq_bipush (v := (10)) C gd_Past_16 (by decide) ?_
    refine gq_ge_f (tgt := 40) C gd_Past_18 (by decide) (by decide) ?_
    refine gq_aload C gd_Past_21 rfl 1 rfl ?_
    refine gq_getr (ci := 6) (C0 := R_Past) (T := T_Past) (N := 3) (k := 0) (a := 52) (v := 53) C gd_Past_22 rfl in_Past rfl (by decide) mw_406 kd_52 (by decide) (g_lt (a := g.1) (n := 46) (c := 52) rfl (by omega)) rfl ?_
    refine gq_iload C gd_Past_25 rfl 0 rfl ?_
    refine gx_new (kk := 99) (ci := 10) (C0 := R_World) (T := T_World) (N := 6) C gd_Past_26 (g_k (a := g.1) (n := 46) rfl (by omega)) rfl in_World t_World ty_World rfl gw_403 gw_276 mw_114 gf_World kd_99 (by decide) (Nat.le_of_ble_eq_true rfl) (Nat.le_of_ble_eq_true rfl) ?_
    refine gq_dup C gd_Past_29 rfl ?_
    refine gq_callN (o := 99) (d := 0) (mc := 4) (ms := 24) (mL := 1) (as := []) (st := [.ref (ad 99), .int (9), .ref (ad 53)]) C gd_Past_30 (k_World_99 had (g_k (a := g.1) (n := 47) rfl (by omega))) gw_279 mw_114 (List.mem_of_getElem? (i := 3) rfl) gw_278 rfl ⟨by decide, by decide⟩ gp_0 (Nat.le_of_ble_eq_true rfl) (Nat.le_of_ble_eq_true rfl) (Nat.le_of_ble_eq_true rfl) (Nat.le_of_ble_eq_true rfl) rfl (Nat.le_of_ble_eq_true rfl) ?_
    refine gq_aast (a := 53) (o := 99) (t := 4) (ci := 10) (n := 9) (C0 := "BackBridge$World") (T := T_World) (N := 6) C gd_Past_33 rfl (by decide) rfl kd_53 (g_lt (a := g.1) (n := 51) (c := 53) rfl (by omega)) kd_99 (g_lt (a := g.1) (n := 51) (c := 99) rfl (by omega)) (by decide) (by rw [ln_53]; unfold vp_in; decide) ?_
    refine gq_iinc (k := 0) (x := (9)) (v := (10)) (lv' := [(1, .int (10)), (0, .ref (ad 52))]) C gd_Past_34 rfl (by decide) (by decide) rfl ?_
    refine gq_goto (tgt := 15) C gd_Past_37 (by decide) ?_
    refine gq_iload C gd_Past_15 rfl 0 rfl ?_
    refine gq_bipush (v := (10)) C gd_Past_16 (by decide) ?_
    refine gq_ge_t (tgt := 40) C gd_Past_18 (by decide) (by decide) ?_
    exact gq_ret C gd_Past_40 hQ)
def e_Search_104 (g : gS) : gS := (g_r (g_r (g_r (g_m (g_r (g_s (g_r (g_s (g_r (g_s (g_r (g_s (g_r (g_s g 1) 104 9 105) 1) 104 10 106) 1) 104 11 107) 1) 104 13 108) 1) 104 17 109) 2) 104 19 110) 104 0 2) 104 1 48)
theorem k_Search_104 (had : ∀ i, i < 187 → ad i = b + i) {g : gS} (hg : g.1 = 105) : Met l ⟨"BackBridge$Search", "<init>", "(LBackBridge$Land;LBackBridge$Laws;)V"⟩ (sn_wd ⟨"BackBridge$Search", "<init>", "(LBackBridge$Land;LBackBridge$Laws;)V"⟩ prog_10_method_1_code 3 none) (g_rm 0 8 83304) (g_Pc D cA ad b [.ref (ad 104), .ref (ad 2), .ref (ad 48)] g) (g_Qc D cA ad b (e_Search_104 g)) 8 83304 (fun q => b ≤ q) :=
  gq_met (by decide +kernel) rfl had (Nat.le_of_ble_eq_true rfl) (fun C hQ => by
    refine gq_aload C gd_Search_0 rfl 0 rfl ?_
    refine gq_oinit C gd_Search_1 gw_422 gw_140 gw_141 (Nat.le_of_ble_eq_true rfl) ?_
    refine gq_aload C gd_Search_4 rfl 0 rfl ?_
    refine gq_ldc (v := (61440)) C gd_Search_5 gw_423 ?_
    refine gx_newa (kk := 105) (t := 0) (N := 61440) (ty := .int) C gd_Search_7 (g_k (a := g.1) (n := 0) rfl (by omega)) rfl gw_168 rfl (by decide) (fun h => h) rfl (by decide) (by decide) kd_105 ln_105 (by decide) (Nat.le_of_ble_eq_true rfl) (Nat.le_of_ble_eq_true rfl) (Nat.le_of_ble_eq_true rfl) ?_
    refine gq_putF (ci := 8) (C0 := R_Search) (T := T_Search) (N := 20) (k := 9) (a := 104) (v := 105) C gd_Search_9 rfl in_Search t_Search ty_Search n_Search rfl (by decide) mw_438 rfl rfl rfl rfl rfl kd_104 rfl (g_lt (a := g.1) (n := 1) (c := 104) rfl (by omega)) ?_
    refine gq_aload C gd_Search_12 rfl 0 rfl ?_
    refine gq_sipush (v := (3840)) C gd_Search_13 (by decide) ?_
    refine gx_newa (kk := 106) (t := 0) (N := 3840) (ty := .int) C gd_Search_16 (g_k (a := g.1) (n := 1) rfl (by omega)) rfl gw_168 rfl (by decide) (fun h => h) rfl (by decide) (by decide) kd_106 ln_106 (by decide) (Nat.le_of_ble_eq_true rfl) (Nat.le_of_ble_eq_true rfl) (Nat.le_of_ble_eq_true rfl) ?_
    refine gq_putF (ci := 8) (C0 := R_Search) (T := T_Search) (N := 20) (k := 10) (a := 104) (v := 106) C gd_Search_18 rfl in_Search t_Search ty_Search n_Search rfl (by decide) mw_439 rfl rfl rfl rfl rfl kd_104 rfl (g_lt (a := g.1) (n := 2) (c := 104) rfl (by omega)) ?_
    refine gq_aload C gd_Search_21 rfl 0 rfl ?_
    refine gq_sipush (v := (10240)) C gd_Search_22 (by decide) ?_
    refine gx_newa (kk := 107) (t := 0) (N := 10240) (ty := .int) C gd_Search_25 (g_k (a := g.1) (n := 2) rfl (by omega)) rfl gw_168 rfl (by decide) (fun h => h) rfl (by decide) (by decide) kd_107 ln_107 (by decide) (Nat.le_of_ble_eq_true rfl) (Nat.le_of_ble_eq_true rfl) (Nat.le_of_ble_eq_true rfl) ?_
    refine gq_putF (ci := 8) (C0 := R_Search) (T := T_Search) (N := 20) (k := 11) (a := 104) (v := 107) C gd_Search_27 rfl in_Search t_Search ty_Search n_Search rfl (by decide) mw_440 rfl rfl rfl rfl rfl kd_104 rfl (g_lt (a := g.1) (n := 3) (c := 104) rfl (by omega)) ?_
    refine gq_aload C gd_Search_30 rfl 0 rfl ?_
    refine gq_bipush (v := (6)) C gd_Search_31 (by decide) ?_
    refine gx_newa (kk := 108) (t := 0) (N := 6) (ty := .int) C gd_Search_33 (g_k (a := g.1) (n := 3) rfl (by omega)) rfl gw_168 rfl (by decide) (fun h => h) rfl (by decide) (by decide) kd_108 ln_108 (by decide) (Nat.le_of_ble_eq_true rfl) (Nat.le_of_ble_eq_true rfl) (Nat.le_of_ble_eq_true rfl) ?_
    refine gq_putF (ci := 8) (C0 := R_Search) (T := T_Search) (N := 20) (k := 13) (a := 104) (v := 108) C gd_Search_35 rfl in_Search t_Search ty_Search n_Search rfl (by decide) mw_442 rfl rfl rfl rfl rfl kd_104 rfl (g_lt (a := g.1) (n := 4) (c := 104) rfl (by omega)) ?_
    refine gq_aload C gd_Search_38 rfl 0 rfl ?_
    refine gq_bipush (v := (96)) C gd_Search_39 (by decide) ?_
    refine gx_newa (kk := 109) (t := 0) (N := 96) (ty := .int) C gd_Search_41 (g_k (a := g.1) (n := 4) rfl (by omega)) rfl gw_168 rfl (by decide) (fun h => h) rfl (by decide) (by decide) kd_109 ln_109 (by decide) (Nat.le_of_ble_eq_true rfl) (Nat.le_of_ble_eq_true rfl) (Nat.le_of_ble_eq_true rfl) ?_
    refine gq_putF (ci := 8) (C0 := R_Search) (T := T_Search) (N := 20) (k := 17) (a := 104) (v := 109) C gd_Search_43 rfl in_Search t_Search ty_Search n_Search rfl (by decide) mw_447 rfl rfl rfl rfl rfl kd_104 rfl (g_lt (a := g.1) (n := 5) (c := 104) rfl (by omega)) ?_
    refine gq_aload C gd_Search_46 rfl 0 rfl ?_
    refine gq_iconst (v := (2)) C gd_Search_47 (by decide) ?_
    refine gq_sipush (v := (3840)) C gd_Search_48 (by decide) ?_
    refine gx_multi (kk := 110) (N0 := 2) (N1 := 3840) C gd_Search_51 (g_k (a := g.1) (n := 5) rfl (by omega)) gw_424 (by decide) (by decide) (by decide) (by decide) (by decide) kd_110 ln_110 (fun j hj => by match j, hj with | 0, _ => exact ⟨kd_111, ln_111⟩ | 1, _ => exact ⟨kd_112, ln_112⟩ | j + 2, h => exact absurd h (by omega)) (by decide) (Nat.le_of_ble_eq_true rfl) (Nat.le_of_ble_eq_true rfl) (Nat.le_of_ble_eq_true rfl) (Nat.le_of_ble_eq_true rfl) ?_
    refine gq_putF (ci := 8) (C0 := R_Search) (T := T_Search) (N := 20) (k := 19) (a := 104) (v := 110) C gd_Search_55 rfl in_Search t_Search ty_Search n_Search rfl (by decide) mw_450 rfl rfl rfl rfl rfl kd_104 rfl (g_lt (a := g.1) (n := 8) (c := 104) rfl (by omega)) ?_
    refine gq_aload C gd_Search_58 rfl 0 rfl ?_
    refine gq_aload C gd_Search_59 rfl 1 rfl ?_
    refine gq_putF (ci := 8) (C0 := R_Search) (T := T_Search) (N := 20) (k := 0) (a := 104) (v := 2) C gd_Search_60 rfl in_Search t_Search ty_Search n_Search rfl (by decide) mw_426 rfl rfl rfl rfl rfl kd_104 rfl (g_lt (a := g.1) (n := 8) (c := 104) rfl (by omega)) ?_
    refine gq_aload C gd_Search_63 rfl 0 rfl ?_
    refine gq_aload C gd_Search_64 rfl 2 rfl ?_
    refine gq_putF (ci := 8) (C0 := R_Search) (T := T_Search) (N := 20) (k := 1) (a := 104) (v := 48) C gd_Search_65 rfl in_Search t_Search ty_Search n_Search rfl (by decide) mw_427 rfl rfl rfl rfl rfl kd_104 rfl (g_lt (a := g.1) (n := 8) (c := 104) rfl (by omega)) ?_
    exact gq_ret C gd_Search_68 hQ)
def e_Choices_113 (g : gS) : gS := (g_r (g_r (g_r (g_r (g_s (g_r (g_s g 1) 113 3 114) 1) 113 4 115) 113 0 2) 113 1 18) 113 2 104)
theorem k_Choices_113 (had : ∀ i, i < 187 → ad i = b + i) {g : gS} (hg : g.1 = 114) : Met l ⟨"BackBridge$Choices", "<init>", "(LBackBridge$Land;LBackBridge$World;LBackBridge$Search;)V"⟩ (sn_wd ⟨"BackBridge$Choices", "<init>", "(LBackBridge$Land;LBackBridge$World;LBackBridge$Search;)V"⟩ prog_3_method_1_code 4 none) (g_rm 0 2 12) (g_Pc D cA ad b [.ref (ad 113), .ref (ad 2), .ref (ad 18), .ref (ad 104)] g) (g_Qc D cA ad b (e_Choices_113 g)) 2 12 (fun q => b ≤ q) :=
  gq_met (by decide +kernel) rfl had (Nat.le_of_ble_eq_true rfl) (fun C hQ => by
    refine gq_aload C gd_Choices_0 rfl 0 rfl ?_
    refine gq_oinit C gd_Choices_1 gw_498 gw_140 gw_141 (Nat.le_of_ble_eq_true rfl) ?_
    refine gq_aload C gd_Choices_4 rfl 0 rfl ?_
    refine gq_bipush (v := (6)) C gd_Choices_5 (by decide) ?_
    refine gx_newa (kk := 114) (t := 0) (N := 6) (ty := .int) C gd_Choices_7 (g_k (a := g.1) (n := 0) rfl (by omega)) rfl gw_168 rfl (by decide) (fun h => h) rfl (by decide) (by decide) kd_114 ln_114 (by decide) (Nat.le_of_ble_eq_true rfl) (Nat.le_of_ble_eq_true rfl) (Nat.le_of_ble_eq_true rfl) ?_
    refine gq_putF (ci := 1) (C0 := R_Choices) (T := T_Choices) (N := 7) (k := 3) (a := 113) (v := 114) C gd_Choices_9 rfl in_Choices t_Choices ty_Choices n_Choices rfl (by decide) mw_502 rfl rfl rfl rfl rfl kd_113 rfl (g_lt (a := g.1) (n := 1) (c := 113) rfl (by omega)) ?_
    refine gq_aload C gd_Choices_12 rfl 0 rfl ?_
    refine gq_bipush (v := (6)) C gd_Choices_13 (by decide) ?_
    refine gx_newa (kk := 115) (t := 0) (N := 6) (ty := .int) C gd_Choices_15 (g_k (a := g.1) (n := 1) rfl (by omega)) rfl gw_168 rfl (by decide) (fun h => h) rfl (by decide) (by decide) kd_115 ln_115 (by decide) (Nat.le_of_ble_eq_true rfl) (Nat.le_of_ble_eq_true rfl) (Nat.le_of_ble_eq_true rfl) ?_
    refine gq_putF (ci := 1) (C0 := R_Choices) (T := T_Choices) (N := 7) (k := 4) (a := 113) (v := 115) C gd_Choices_17 rfl in_Choices t_Choices ty_Choices n_Choices rfl (by decide) mw_503 rfl rfl rfl rfl rfl kd_113 rfl (g_lt (a := g.1) (n := 2) (c := 113) rfl (by omega)) ?_
    refine gq_aload C gd_Choices_20 rfl 0 rfl ?_
    refine gq_aload C gd_Choices_21 rfl 1 rfl ?_
    refine gq_putF (ci := 1) (C0 := R_Choices) (T := T_Choices) (N := 7) (k := 0) (a := 113) (v := 2) C gd_Choices_22 rfl in_Choices t_Choices ty_Choices n_Choices rfl (by decide) mw_499 rfl rfl rfl rfl rfl kd_113 rfl (g_lt (a := g.1) (n := 2) (c := 113) rfl (by omega)) ?_
    refine gq_aload C gd_Choices_25 rfl 0 rfl ?_
    refine gq_aload C gd_Choices_26 rfl 2 rfl ?_
    refine gq_putF (ci := 1) (C0 := R_Choices) (T := T_Choices) (N := 7) (k := 1) (a := 113) (v := 18) C gd_Choices_27 rfl in_Choices t_Choices ty_Choices n_Choices rfl (by decide) mw_500 rfl rfl rfl rfl rfl kd_113 rfl (g_lt (a := g.1) (n := 2) (c := 113) rfl (by omega)) ?_
    refine gq_aload C gd_Choices_30 rfl 0 rfl ?_
    refine gq_aload C gd_Choices_31 rfl 3 rfl ?_
    refine gq_putF (ci := 1) (C0 := R_Choices) (T := T_Choices) (N := 7) (k := 2) (a := 113) (v := 104) C gd_Choices_32 rfl in_Choices t_Choices ty_Choices n_Choices rfl (by decide) mw_501 rfl rfl rfl rfl rfl kd_113 rfl (g_lt (a := g.1) (n := 2) (c := 113) rfl (by omega)) ?_
    exact gq_ret C gd_Choices_35 hQ)
def e_Trays_116 (g : gS) : gS := (g_r (g_s (g_r (g_i (g_i (g_i (g_i (g_s (g_r (g_m g 4) 116 0 117) 1) 122 0 (-1)) 122 1 (-1)) 122 2 (-1)) 122 3 (-1)) 116 1 122) 1) 116 2 123)
theorem k_Trays_116 (had : ∀ i, i < 187 → ad i = b + i) {g : gS} (hg : g.1 = 117) : Met l ⟨"BackBridge$Trays", "<init>", "()V"⟩ (sn_wd ⟨"BackBridge$Trays", "<init>", "()V"⟩ prog_11_method_1_code 1 none) (g_rm 0 7 172) (g_Pc D cA ad b [.ref (ad 116)] g) (g_Qc D cA ad b (e_Trays_116 g)) 7 172 (fun q => b ≤ q) :=
  gq_met (by decide +kernel) rfl had (Nat.le_of_ble_eq_true rfl) (fun C hQ => by
    refine gq_aload C gd_Trays_0 rfl 0 rfl ?_
    refine gq_oinit C gd_Trays_1 gw_528 gw_140 gw_141 (Nat.le_of_ble_eq_true rfl) ?_
    refine gq_aload C gd_Trays_4 rfl 0 rfl ?_
    refine gq_iconst (v := (4)) C gd_Trays_5 (by decide) ?_
    refine gq_bipush (v := (40)) C gd_Trays_6 (by decide) ?_
    refine gx_multi (kk := 117) (N0 := 4) (N1 := 40) C gd_Trays_8 (g_k (a := g.1) (n := 0) rfl (by omega)) gw_529 (by decide) (by decide) (by decide) (by decide) (by decide) kd_117 ln_117 (fun j hj => by match j, hj with | 0, _ => exact ⟨kd_118, ln_118⟩ | 1, _ => exact ⟨kd_119, ln_119⟩ | 2, _ => exact ⟨kd_120, ln_120⟩ | 3, _ => exact ⟨kd_121, ln_121⟩ | j + 4, h => exact absurd h (by omega)) (by decide) (Nat.le_of_ble_eq_true rfl) (Nat.le_of_ble_eq_true rfl) (Nat.le_of_ble_eq_true rfl) (Nat.le_of_ble_eq_true rfl) ?_
    refine gq_putF (ci := 9) (C0 := R_Trays) (T := T_Trays) (N := 3) (k := 0) (a := 116) (v := 117) C gd_Trays_12 rfl in_Trays t_Trays ty_Trays n_Trays rfl (by decide) mw_530 rfl rfl rfl rfl rfl kd_116 rfl (g_lt (a := g.1) (n := 5) (c := 116) rfl (by omega)) ?_
    refine gq_aload C gd_Trays_15 rfl 0 rfl ?_
    refine gq_iconst (v := (4)) C gd_Trays_16 (by decide) ?_
    refine gx_newa (kk := 122) (t := 0) (N := 4) (ty := .int) C gd_Trays_17 (g_k (a := g.1) (n := 5) rfl (by omega)) rfl gw_168 rfl (by decide) (fun h => h) rfl (by decide) (by decide) kd_122 ln_122 (by decide) (Nat.le_of_ble_eq_true rfl) (Nat.le_of_ble_eq_true rfl) (Nat.le_of_ble_eq_true rfl) ?_
    refine gq_dup C gd_Trays_19 rfl ?_
    refine gq_iconst (v := (0)) C gd_Trays_20 (by decide) ?_
    refine gq_iconst (v := (-1)) C gd_Trays_21 (by decide) ?_
    refine gq_iast (a := 122) (n := 0) C gd_Trays_22 kd_122 (g_lt (a := g.1) (n := 6) (c := 122) rfl (by omega)) (by decide) (by rw [ln_122]; unfold vp_in; decide) ?_
    refine gq_dup C gd_Trays_23 rfl ?_
    refine gq_iconst (v := (1)) C gd_Trays_24 (by decide) ?_
    refine gq_iconst (v := (-1)) C gd_Trays_25 (by decide) ?_
    refine gq_iast (a := 122) (n := 1) C gd_Trays_26 kd_122 (g_lt (a := g.1) (n := 6) (c := 122) rfl (by omega)) (by decide) (by rw [ln_122]; unfold vp_in; decide) ?_
    refine gq_dup C gd_Trays_27 rfl ?_
    refine gq_iconst (v := (2)) C gd_Trays_28 (by decide) ?_
    refine gq_iconst (v := (-1)) C gd_Trays_29 (by decide) ?_
    refine gq_iast (a := 122) (n := 2) C gd_Trays_30 kd_122 (g_lt (a := g.1) (n := 6) (c := 122) rfl (by omega)) (by decide) (by rw [ln_122]; unfold vp_in; decide) ?_
    refine gq_dup C gd_Trays_31 rfl ?_
    refine gq_iconst (v := (3)) C gd_Trays_32 (by decide) ?_
    refine gq_iconst (v := (-1)) C gd_Trays_33 (by decide) ?_
    refine gq_iast (a := 122) (n := 3) C gd_Trays_34 kd_122 (g_lt (a := g.1) (n := 6) (c := 122) rfl (by omega)) (by decide) (by rw [ln_122]; unfold vp_in; decide) ?_
    refine gq_putF (ci := 9) (C0 := R_Trays) (T := T_Trays) (N := 3) (k := 1) (a := 116) (v := 122) C gd_Trays_35 rfl in_Trays t_Trays ty_Trays n_Trays rfl (by decide) mw_534 rfl rfl rfl rfl rfl kd_116 rfl (g_lt (a := g.1) (n := 6) (c := 116) rfl (by omega)) ?_
    refine gq_aload C gd_Trays_38 rfl 0 rfl ?_
    refine gq_iconst (v := (4)) C gd_Trays_39 (by decide) ?_
    refine gx_newa (kk := 123) (t := 0) (N := 4) (ty := .int) C gd_Trays_40 (g_k (a := g.1) (n := 6) rfl (by omega)) rfl gw_168 rfl (by decide) (fun h => h) rfl (by decide) (by decide) kd_123 ln_123 (by decide) (Nat.le_of_ble_eq_true rfl) (Nat.le_of_ble_eq_true rfl) (Nat.le_of_ble_eq_true rfl) ?_
    refine gq_putF (ci := 9) (C0 := R_Trays) (T := T_Trays) (N := 3) (k := 2) (a := 116) (v := 123) C gd_Trays_42 rfl in_Trays t_Trays ty_Trays n_Trays rfl (by decide) mw_538 rfl rfl rfl rfl rfl kd_116 rfl (g_lt (a := g.1) (n := 7) (c := 116) rfl (by omega)) ?_
    exact gq_ret C gd_Trays_45 hQ)
def e_Answers_124 (g : gS) : gS := (g_r (g_r (g_r g 124 0 2) 124 1 18) 124 2 48)
theorem k_Answers_124 (had : ∀ i, i < 187 → ad i = b + i) {g : gS} (hg : g.1 = 125) : Met l ⟨"BackBridge$Answers", "<init>", "(LBackBridge$Land;LBackBridge$World;LBackBridge$Laws;)V"⟩ (sn_wd ⟨"BackBridge$Answers", "<init>", "(LBackBridge$Land;LBackBridge$World;LBackBridge$Laws;)V"⟩ prog_2_method_1_code 4 none) (g_rm 0 0 0) (g_Pc D cA ad b [.ref (ad 124), .ref (ad 2), .ref (ad 18), .ref (ad 48)] g) (g_Qc D cA ad b (e_Answers_124 g)) 0 0 (fun q => b ≤ q) :=
  gq_met (by decide +kernel) rfl had (Nat.le_of_ble_eq_true rfl) (fun C hQ => by
    refine gq_aload C gd_Answers_0 rfl 0 rfl ?_
    refine gq_oinit C gd_Answers_1 gw_551 gw_140 gw_141 (Nat.le_of_ble_eq_true rfl) ?_
    refine gq_aload C gd_Answers_4 rfl 0 rfl ?_
    refine gq_aload C gd_Answers_5 rfl 1 rfl ?_
    refine gq_putF (ci := 0) (C0 := R_Answers) (T := T_Answers) (N := 4) (k := 0) (a := 124) (v := 2) C gd_Answers_6 rfl in_Answers t_Answers ty_Answers n_Answers rfl (by decide) mw_552 rfl rfl rfl rfl rfl kd_124 rfl (g_lt (a := g.1) (n := 0) (c := 124) rfl (by omega)) ?_
    refine gq_aload C gd_Answers_9 rfl 0 rfl ?_
    refine gq_aload C gd_Answers_10 rfl 2 rfl ?_
    refine gq_putF (ci := 0) (C0 := R_Answers) (T := T_Answers) (N := 4) (k := 1) (a := 124) (v := 18) C gd_Answers_11 rfl in_Answers t_Answers ty_Answers n_Answers rfl (by decide) mw_553 rfl rfl rfl rfl rfl kd_124 rfl (g_lt (a := g.1) (n := 0) (c := 124) rfl (by omega)) ?_
    refine gq_aload C gd_Answers_14 rfl 0 rfl ?_
    refine gq_aload C gd_Answers_15 rfl 3 rfl ?_
    refine gq_putF (ci := 0) (C0 := R_Answers) (T := T_Answers) (N := 4) (k := 2) (a := 124) (v := 48) C gd_Answers_16 rfl in_Answers t_Answers ty_Answers n_Answers rfl (by decide) mw_554 rfl rfl rfl rfl rfl kd_124 rfl (g_lt (a := g.1) (n := 0) (c := 124) rfl (by omega)) ?_
    exact gq_ret C gd_Answers_19 hQ)
def e_Law_136 (g : gS) : gS := (g_r (g_s (g_r (g_s g 1) 136 0 137) 1) 136 1 138)
theorem k_Law_136 (had : ∀ i, i < 187 → ad i = b + i) {g : gS} (hg : g.1 = 137) : Met l ⟨"BackBridge$Law", "<init>", "()V"⟩ (sn_wd ⟨"BackBridge$Law", "<init>", "()V"⟩ prog_6_method_1_code 1 none) (g_rm 0 2 964) (g_Pc D cA ad b [.ref (ad 136)] g) (g_Qc D cA ad b (e_Law_136 g)) 2 964 (fun q => b ≤ q) :=
  gq_met (by decide +kernel) rfl had (Nat.le_of_ble_eq_true rfl) (fun C hQ => by
    refine gq_aload C gd_Law_0 rfl 0 rfl ?_
    refine gq_oinit C gd_Law_1 gw_153 gw_140 gw_141 (Nat.le_of_ble_eq_true rfl) ?_
    refine gq_aload C gd_Law_4 rfl 0 rfl ?_
    refine gq_sipush (v := (900)) C gd_Law_5 (by decide) ?_
    refine gx_newa (kk := 137) (t := 0) (N := 900) (ty := .int) C gd_Law_8 (g_k (a := g.1) (n := 0) rfl (by omega)) rfl gw_168 rfl (by decide) (fun h => h) rfl (by decide) (by decide) kd_137 ln_137 (by decide) (Nat.le_of_ble_eq_true rfl) (Nat.le_of_ble_eq_true rfl) (Nat.le_of_ble_eq_true rfl) ?_
    refine gq_putF (ci := 4) (C0 := R_Law) (T := T_Law) (N := 3) (k := 0) (a := 136) (v := 137) C gd_Law_10 rfl in_Law t_Law ty_Law n_Law rfl (by decide) mw_154 rfl rfl rfl rfl rfl kd_136 rfl (g_lt (a := g.1) (n := 1) (c := 136) rfl (by omega)) ?_
    refine gq_aload C gd_Law_13 rfl 0 rfl ?_
    refine gq_bipush (v := (64)) C gd_Law_14 (by decide) ?_
    refine gx_newa (kk := 138) (t := 0) (N := 64) (ty := .int) C gd_Law_16 (g_k (a := g.1) (n := 1) rfl (by omega)) rfl gw_168 rfl (by decide) (fun h => h) rfl (by decide) (by decide) kd_138 ln_138 (by decide) (Nat.le_of_ble_eq_true rfl) (Nat.le_of_ble_eq_true rfl) (Nat.le_of_ble_eq_true rfl) ?_
    refine gq_putF (ci := 4) (C0 := R_Law) (T := T_Law) (N := 3) (k := 1) (a := 136) (v := 138) C gd_Law_18 rfl in_Law t_Law ty_Law n_Law rfl (by decide) mw_155 rfl rfl rfl rfl rfl kd_136 rfl (g_lt (a := g.1) (n := 2) (c := 136) rfl (by omega)) ?_
    exact gq_ret C gd_Law_21 hQ)
def e_Law_139 (g : gS) : gS := (g_r (g_s (g_r (g_s g 1) 139 0 140) 1) 139 1 141)
theorem k_Law_139 (had : ∀ i, i < 187 → ad i = b + i) {g : gS} (hg : g.1 = 140) : Met l ⟨"BackBridge$Law", "<init>", "()V"⟩ (sn_wd ⟨"BackBridge$Law", "<init>", "()V"⟩ prog_6_method_1_code 1 none) (g_rm 0 2 964) (g_Pc D cA ad b [.ref (ad 139)] g) (g_Qc D cA ad b (e_Law_139 g)) 2 964 (fun q => b ≤ q) :=
  gq_met (by decide +kernel) rfl had (Nat.le_of_ble_eq_true rfl) (fun C hQ => by
    refine gq_aload C gd_Law_0 rfl 0 rfl ?_
    refine gq_oinit C gd_Law_1 gw_153 gw_140 gw_141 (Nat.le_of_ble_eq_true rfl) ?_
    refine gq_aload C gd_Law_4 rfl 0 rfl ?_
    refine gq_sipush (v := (900)) C gd_Law_5 (by decide) ?_
    refine gx_newa (kk := 140) (t := 0) (N := 900) (ty := .int) C gd_Law_8 (g_k (a := g.1) (n := 0) rfl (by omega)) rfl gw_168 rfl (by decide) (fun h => h) rfl (by decide) (by decide) kd_140 ln_140 (by decide) (Nat.le_of_ble_eq_true rfl) (Nat.le_of_ble_eq_true rfl) (Nat.le_of_ble_eq_true rfl) ?_
    refine gq_putF (ci := 4) (C0 := R_Law) (T := T_Law) (N := 3) (k := 0) (a := 139) (v := 140) C gd_Law_10 rfl in_Law t_Law ty_Law n_Law rfl (by decide) mw_154 rfl rfl rfl rfl rfl kd_139 rfl (g_lt (a := g.1) (n := 1) (c := 139) rfl (by omega)) ?_
    refine gq_aload C gd_Law_13 rfl 0 rfl ?_
    refine gq_bipush (v := (64)) C gd_Law_14 (by decide) ?_
    refine gx_newa (kk := 141) (t := 0) (N := 64) (ty := .int) C gd_Law_16 (g_k (a := g.1) (n := 1) rfl (by omega)) rfl gw_168 rfl (by decide) (fun h => h) rfl (by decide) (by decide) kd_141 ln_141 (by decide) (Nat.le_of_ble_eq_true rfl) (Nat.le_of_ble_eq_true rfl) (Nat.le_of_ble_eq_true rfl) ?_
    refine gq_putF (ci := 4) (C0 := R_Law) (T := T_Law) (N := 3) (k := 1) (a := 139) (v := 141) C gd_Law_18 rfl in_Law t_Law ty_Law n_Law rfl (by decide) mw_155 rfl rfl rfl rfl rfl kd_139 rfl (g_lt (a := g.1) (n := 2) (c := 139) rfl (by omega)) ?_
    exact gq_ret C gd_Law_21 hQ)
def e_Land_126 (g : gS) : gS := (g_r (e_Law_139 (g_s (g_r (e_Law_136 (g_s (g_r (g_s (g_r (g_s (g_r (g_s (g_r (g_s (g_r (g_s (g_r (g_s (g_r (g_s (g_r (g_s (g_r (g_s (g_i g 126 0 (2)) 1) 126 5 127) 1) 126 6 128) 1) 126 7 129) 1) 126 8 130) 1) 126 9 131) 1) 126 10 132) 1) 126 11 133) 1) 126 12 134) 1) 126 13 135) 1)) 126 14 136) 1)) 126 15 139)
theorem k_Land_126 (had : ∀ i, i < 187 → ad i = b + i) {g : gS} (hg : g.1 = 127) : Met l ⟨"BackBridge$Land", "<init>", "()V"⟩ (sn_wd ⟨"BackBridge$Land", "<init>", "()V"⟩ prog_5_method_1_code 1 none) (g_rm 1 15 2012) (g_Pc D cA ad b [.ref (ad 126)] g) (g_Qc D cA ad b (e_Land_126 g)) 15 2012 (fun q => b ≤ q) :=
  gq_met (by decide +kernel) rfl had (Nat.le_of_ble_eq_true rfl) (fun C hQ => by
    refine gq_aload C gd_Land_0 rfl 0 rfl ?_
    refine gq_oinit C gd_Land_1 gw_147 gw_140 gw_141 (Nat.le_of_ble_eq_true rfl) ?_
    refine gq_aload C gd_Land_4 rfl 0 rfl ?_
    refine gq_iconst (v := (2)) C gd_Land_5 (by decide) ?_
    refine gq_puti (ci := 3) (C0 := R_Land) (T := T_Land) (N := 16) (k := 0) (a := 126) (v := (2)) C gd_Land_6 rfl in_Land t_Land ty_Land n_Land rfl (by decide) mw_169 rfl rfl kd_126 rfl (g_lt (a := g.1) (n := 0) (c := 126) rfl (by omega)) ?_
    refine gq_aload C gd_Land_9 rfl 0 rfl ?_
    refine gq_bipush (v := (12)) C gd_Land_10 (by decide) ?_
    refine gx_newa (kk := 127) (t := 0) (N := 12) (ty := .int) C gd_Land_12 (g_k (a := g.1) (n := 0) rfl (by omega)) rfl gw_168 rfl (by decide) (fun h => h) rfl (by decide) (by decide) kd_127 ln_127 (by decide) (Nat.le_of_ble_eq_true rfl) (Nat.le_of_ble_eq_true rfl) (Nat.le_of_ble_eq_true rfl) ?_
    refine gq_putF (ci := 3) (C0 := R_Land) (T := T_Land) (N := 16) (k := 5) (a := 126) (v := 127) C gd_Land_14 rfl in_Land t_Land ty_Land n_Land rfl (by decide) mw_194 rfl rfl rfl rfl rfl kd_126 rfl (g_lt (a := g.1) (n := 1) (c := 126) rfl (by omega)) ?_
    refine gq_aload C gd_Land_17 rfl 0 rfl ?_
    refine gq_bipush (v := (12)) C gd_Land_18 (by decide) ?_
    refine gx_newa (kk := 128) (t := 0) (N := 12) (ty := .int) C gd_Land_20 (g_k (a := g.1) (n := 1) rfl (by omega)) rfl gw_168 rfl (by decide) (fun h => h) rfl (by decide) (by decide) kd_128 ln_128 (by decide) (Nat.le_of_ble_eq_true rfl) (Nat.le_of_ble_eq_true rfl) (Nat.le_of_ble_eq_true rfl) ?_
    refine gq_putF (ci := 3) (C0 := R_Land) (T := T_Land) (N := 16) (k := 6) (a := 126) (v := 128) C gd_Land_22 rfl in_Land t_Land ty_Land n_Land rfl (by decide) mw_199 rfl rfl rfl rfl rfl kd_126 rfl (g_lt (a := g.1) (n := 2) (c := 126) rfl (by omega)) ?_
    refine gq_aload C gd_Land_25 rfl 0 rfl ?_
    refine gq_bipush (v := (12)) C gd_Land_26 (by decide) ?_
    refine gx_newa (kk := 129) (t := 0) (N := 12) (ty := .int) C gd_Land_28 (g_k (a := g.1) (n := 2) rfl (by omega)) rfl gw_168 rfl (by decide) (fun h => h) rfl (by decide) (by decide) kd_129 ln_129 (by decide) (Nat.le_of_ble_eq_true rfl) (Nat.le_of_ble_eq_true rfl) (Nat.le_of_ble_eq_true rfl) ?_
    refine gq_putF (ci := 3) (C0 := R_Land) (T := T_Land) (N := 16) (k := 7) (a := 126) (v := 129) C gd_Land_30 rfl in_Land t_Land ty_Land n_Land rfl (by decide) mw_204 rfl rfl rfl rfl rfl kd_126 rfl (g_lt (a := g.1) (n := 3) (c := 126) rfl (by omega)) ?_
    refine gq_aload C gd_Land_33 rfl 0 rfl ?_
    refine gq_bipush (v := (12)) C gd_Land_34 (by decide) ?_
    refine gx_newa (kk := 130) (t := 0) (N := 12) (ty := .int) C gd_Land_36 (g_k (a := g.1) (n := 3) rfl (by omega)) rfl gw_168 rfl (by decide) (fun h => h) rfl (by decide) (by decide) kd_130 ln_130 (by decide) (Nat.le_of_ble_eq_true rfl) (Nat.le_of_ble_eq_true rfl) (Nat.le_of_ble_eq_true rfl) ?_
    refine gq_putF (ci := 3) (C0 := R_Land) (T := T_Land) (N := 16) (k := 8) (a := 126) (v := 130) C gd_Land_38 rfl in_Land t_Land ty_Land n_Land rfl (by decide) mw_209 rfl rfl rfl rfl rfl kd_126 rfl (g_lt (a := g.1) (n := 4) (c := 126) rfl (by omega)) ?_
    refine gq_aload C gd_Land_41 rfl 0 rfl ?_
    refine gq_bipush (v := (6)) C gd_Land_42 (by decide) ?_
    refine gx_newa (kk := 131) (t := 0) (N := 6) (ty := .int) C gd_Land_44 (g_k (a := g.1) (n := 4) rfl (by omega)) rfl gw_168 rfl (by decide) (fun h => h) rfl (by decide) (by decide) kd_131 ln_131 (by decide) (Nat.le_of_ble_eq_true rfl) (Nat.le_of_ble_eq_true rfl) (Nat.le_of_ble_eq_true rfl) ?_
    refine gq_putF (ci := 3) (C0 := R_Land) (T := T_Land) (N := 16) (k := 9) (a := 126) (v := 131) C gd_Land_46 rfl in_Land t_Land ty_Land n_Land rfl (by decide) mw_213 rfl rfl rfl rfl rfl kd_126 rfl (g_lt (a := g.1) (n := 5) (c := 126) rfl (by omega)) ?_
    refine gq_aload C gd_Land_49 rfl 0 rfl ?_
    refine gq_bipush (v := (6)) C gd_Land_50 (by decide) ?_
    refine gx_newa (kk := 132) (t := 0) (N := 6) (ty := .int) C gd_Land_52 (g_k (a := g.1) (n := 5) rfl (by omega)) rfl gw_168 rfl (by decide) (fun h => h) rfl (by decide) (by decide) kd_132 ln_132 (by decide) (Nat.le_of_ble_eq_true rfl) (Nat.le_of_ble_eq_true rfl) (Nat.le_of_ble_eq_true rfl) ?_
    refine gq_putF (ci := 3) (C0 := R_Land) (T := T_Land) (N := 16) (k := 10) (a := 126) (v := 132) C gd_Land_54 rfl in_Land t_Land ty_Land n_Land rfl (by decide) mw_216 rfl rfl rfl rfl rfl kd_126 rfl (g_lt (a := g.1) (n := 6) (c := 126) rfl (by omega)) ?_
    refine gq_aload C gd_Land_57 rfl 0 rfl ?_
    refine gq_bipush (v := (6)) C gd_Land_58 (by decide) ?_
    refine gx_newa (kk := 133) (t := 0) (N := 6) (ty := .int) C gd_Land_60 (g_k (a := g.1) (n := 6) rfl (by omega)) rfl gw_168 rfl (by decide) (fun h => h) rfl (by decide) (by decide) kd_133 ln_133 (by decide) (Nat.le_of_ble_eq_true rfl) (Nat.le_of_ble_eq_true rfl) (Nat.le_of_ble_eq_true rfl) ?_
    refine gq_putF (ci := 3) (C0 := R_Land) (T := T_Land) (N := 16) (k := 11) (a := 126) (v := 133) C gd_Land_62 rfl in_Land t_Land ty_Land n_Land rfl (by decide) mw_222 rfl rfl rfl rfl rfl kd_126 rfl (g_lt (a := g.1) (n := 7) (c := 126) rfl (by omega)) ?_
    refine gq_aload C gd_Land_65 rfl 0 rfl ?_
    refine gq_bipush (v := (6)) C gd_Land_66 (by decide) ?_
    refine gx_newa (kk := 134) (t := 0) (N := 6) (ty := .int) C gd_Land_68 (g_k (a := g.1) (n := 7) rfl (by omega)) rfl gw_168 rfl (by decide) (fun h => h) rfl (by decide) (by decide) kd_134 ln_134 (by decide) (Nat.le_of_ble_eq_true rfl) (Nat.le_of_ble_eq_true rfl) (Nat.le_of_ble_eq_true rfl) ?_
    refine gq_putF (ci := 3) (C0 := R_Land) (T := T_Land) (N := 16) (k := 12) (a := 126) (v := 134) C gd_Land_70 rfl in_Land t_Land ty_Land n_Land rfl (by decide) mw_225 rfl rfl rfl rfl rfl kd_126 rfl (g_lt (a := g.1) (n := 8) (c := 126) rfl (by omega)) ?_
    refine gq_aload C gd_Land_73 rfl 0 rfl ?_
    refine gq_bipush (v := (6)) C gd_Land_74 (by decide) ?_
    refine gx_newa (kk := 135) (t := 0) (N := 6) (ty := .int) C gd_Land_76 (g_k (a := g.1) (n := 8) rfl (by omega)) rfl gw_168 rfl (by decide) (fun h => h) rfl (by decide) (by decide) kd_135 ln_135 (by decide) (Nat.le_of_ble_eq_true rfl) (Nat.le_of_ble_eq_true rfl) (Nat.le_of_ble_eq_true rfl) ?_
    refine gq_putF (ci := 3) (C0 := R_Land) (T := T_Land) (N := 16) (k := 13) (a := 126) (v := 135) C gd_Land_78 rfl in_Land t_Land ty_Land n_Land rfl (by decide) mw_231 rfl rfl rfl rfl rfl kd_126 rfl (g_lt (a := g.1) (n := 9) (c := 126) rfl (by omega)) ?_
    refine gq_aload C gd_Land_81 rfl 0 rfl ?_
    refine gx_new (kk := 136) (ci := 4) (C0 := R_Law) (T := T_Law) (N := 3) C gd_Land_82 (g_k (a := g.1) (n := 9) rfl (by omega)) rfl in_Law t_Law ty_Law rfl gw_148 gw_149 mw_113 gf_Law kd_136 (by decide) (Nat.le_of_ble_eq_true rfl) (Nat.le_of_ble_eq_true rfl) ?_
    refine gq_dup C gd_Land_85 rfl ?_
    refine gq_callN (o := 136) (d := 0) (mc := 2) (ms := 964) (mL := 1) (as := []) (st := [.ref (ad 136), .ref (ad 126)]) C gd_Land_86 (k_Law_136 had (g_k (a := g.1) (n := 10) rfl (by omega))) gw_152 mw_113 (List.mem_of_getElem? (i := 5) rfl) gw_151 rfl ⟨by decide, by decide⟩ gp_0 (Nat.le_of_ble_eq_true rfl) (Nat.le_of_ble_eq_true rfl) (Nat.le_of_ble_eq_true rfl) (Nat.le_of_ble_eq_true rfl) rfl (Nat.le_of_ble_eq_true rfl) ?_
    refine gq_putF (ci := 3) (C0 := R_Land) (T := T_Land) (N := 16) (k := 14) (a := 126) (v := 136) C gd_Land_89 rfl in_Land t_Land ty_Land n_Land rfl (by decide) mw_236 rfl rfl rfl rfl rfl kd_126 rfl (g_lt (a := g.1) (n := 12) (c := 126) rfl (by omega)) ?_
    refine gq_aload C gd_Land_92 rfl 0 rfl ?_
    refine gx_new (kk := 139) (ci := 4) (C0 := R_Law) (T := T_Law) (N := 3) C gd_Land_93 (g_k (a := g.1) (n := 12) rfl (by omega)) rfl in_Law t_Law ty_Law rfl gw_148 gw_149 mw_113 gf_Law kd_139 (by decide) (Nat.le_of_ble_eq_true rfl) (Nat.le_of_ble_eq_true rfl) ?_
    refine gq_dup C gd_Land_96 rfl ?_
    refine gq_callN (o := 139) (d := 0) (mc := 2) (ms := 964) (mL := 1) (as := []) (st := [.ref (ad 139), .ref (ad 126)]) C gd_Land_97 (k_Law_139 had (g_k (a := g.1) (n := 13) rfl (by omega))) gw_152 mw_113 (List.mem_of_getElem? (i := 5) rfl) gw_151 rfl ⟨by decide, by decide⟩ gp_0 (Nat.le_of_ble_eq_true rfl) (Nat.le_of_ble_eq_true rfl) (Nat.le_of_ble_eq_true rfl) (Nat.le_of_ble_eq_true rfl) rfl (Nat.le_of_ble_eq_true rfl) ?_
    refine gq_putF (ci := 3) (C0 := R_Land) (T := T_Land) (N := 16) (k := 15) (a := 126) (v := 139) C gd_Land_100 rfl in_Land t_Land ty_Land n_Land rfl (by decide) mw_240 rfl rfl rfl rfl rfl kd_126 rfl (g_lt (a := g.1) (n := 15) (c := 126) rfl (by omega)) ?_
    exact gq_ret C gd_Land_103 hQ)
def e_Law_152 (g : gS) : gS := (g_r (g_s (g_r (g_s g 1) 152 0 153) 1) 152 1 154)
theorem k_Law_152 (had : ∀ i, i < 187 → ad i = b + i) {g : gS} (hg : g.1 = 153) : Met l ⟨"BackBridge$Law", "<init>", "()V"⟩ (sn_wd ⟨"BackBridge$Law", "<init>", "()V"⟩ prog_6_method_1_code 1 none) (g_rm 0 2 964) (g_Pc D cA ad b [.ref (ad 152)] g) (g_Qc D cA ad b (e_Law_152 g)) 2 964 (fun q => b ≤ q) :=
  gq_met (by decide +kernel) rfl had (Nat.le_of_ble_eq_true rfl) (fun C hQ => by
    refine gq_aload C gd_Law_0 rfl 0 rfl ?_
    refine gq_oinit C gd_Law_1 gw_153 gw_140 gw_141 (Nat.le_of_ble_eq_true rfl) ?_
    refine gq_aload C gd_Law_4 rfl 0 rfl ?_
    refine gq_sipush (v := (900)) C gd_Law_5 (by decide) ?_
    refine gx_newa (kk := 153) (t := 0) (N := 900) (ty := .int) C gd_Law_8 (g_k (a := g.1) (n := 0) rfl (by omega)) rfl gw_168 rfl (by decide) (fun h => h) rfl (by decide) (by decide) kd_153 ln_153 (by decide) (Nat.le_of_ble_eq_true rfl) (Nat.le_of_ble_eq_true rfl) (Nat.le_of_ble_eq_true rfl) ?_
    refine gq_putF (ci := 4) (C0 := R_Law) (T := T_Law) (N := 3) (k := 0) (a := 152) (v := 153) C gd_Law_10 rfl in_Law t_Law ty_Law n_Law rfl (by decide) mw_154 rfl rfl rfl rfl rfl kd_152 rfl (g_lt (a := g.1) (n := 1) (c := 152) rfl (by omega)) ?_
    refine gq_aload C gd_Law_13 rfl 0 rfl ?_
    refine gq_bipush (v := (64)) C gd_Law_14 (by decide) ?_
    refine gx_newa (kk := 154) (t := 0) (N := 64) (ty := .int) C gd_Law_16 (g_k (a := g.1) (n := 1) rfl (by omega)) rfl gw_168 rfl (by decide) (fun h => h) rfl (by decide) (by decide) kd_154 ln_154 (by decide) (Nat.le_of_ble_eq_true rfl) (Nat.le_of_ble_eq_true rfl) (Nat.le_of_ble_eq_true rfl) ?_
    refine gq_putF (ci := 4) (C0 := R_Law) (T := T_Law) (N := 3) (k := 1) (a := 152) (v := 154) C gd_Law_18 rfl in_Law t_Law ty_Law n_Law rfl (by decide) mw_155 rfl rfl rfl rfl rfl kd_152 rfl (g_lt (a := g.1) (n := 2) (c := 152) rfl (by omega)) ?_
    exact gq_ret C gd_Law_21 hQ)
def e_Law_155 (g : gS) : gS := (g_r (g_s (g_r (g_s g 1) 155 0 156) 1) 155 1 157)
theorem k_Law_155 (had : ∀ i, i < 187 → ad i = b + i) {g : gS} (hg : g.1 = 156) : Met l ⟨"BackBridge$Law", "<init>", "()V"⟩ (sn_wd ⟨"BackBridge$Law", "<init>", "()V"⟩ prog_6_method_1_code 1 none) (g_rm 0 2 964) (g_Pc D cA ad b [.ref (ad 155)] g) (g_Qc D cA ad b (e_Law_155 g)) 2 964 (fun q => b ≤ q) :=
  gq_met (by decide +kernel) rfl had (Nat.le_of_ble_eq_true rfl) (fun C hQ => by
    refine gq_aload C gd_Law_0 rfl 0 rfl ?_
    refine gq_oinit C gd_Law_1 gw_153 gw_140 gw_141 (Nat.le_of_ble_eq_true rfl) ?_
    refine gq_aload C gd_Law_4 rfl 0 rfl ?_
    refine gq_sipush (v := (900)) C gd_Law_5 (by decide) ?_
    refine gx_newa (kk := 156) (t := 0) (N := 900) (ty := .int) C gd_Law_8 (g_k (a := g.1) (n := 0) rfl (by omega)) rfl gw_168 rfl (by decide) (fun h => h) rfl (by decide) (by decide) kd_156 ln_156 (by decide) (Nat.le_of_ble_eq_true rfl) (Nat.le_of_ble_eq_true rfl) (Nat.le_of_ble_eq_true rfl) ?_
    refine gq_putF (ci := 4) (C0 := R_Law) (T := T_Law) (N := 3) (k := 0) (a := 155) (v := 156) C gd_Law_10 rfl in_Law t_Law ty_Law n_Law rfl (by decide) mw_154 rfl rfl rfl rfl rfl kd_155 rfl (g_lt (a := g.1) (n := 1) (c := 155) rfl (by omega)) ?_
    refine gq_aload C gd_Law_13 rfl 0 rfl ?_
    refine gq_bipush (v := (64)) C gd_Law_14 (by decide) ?_
    refine gx_newa (kk := 157) (t := 0) (N := 64) (ty := .int) C gd_Law_16 (g_k (a := g.1) (n := 1) rfl (by omega)) rfl gw_168 rfl (by decide) (fun h => h) rfl (by decide) (by decide) kd_157 ln_157 (by decide) (Nat.le_of_ble_eq_true rfl) (Nat.le_of_ble_eq_true rfl) (Nat.le_of_ble_eq_true rfl) ?_
    refine gq_putF (ci := 4) (C0 := R_Law) (T := T_Law) (N := 3) (k := 1) (a := 155) (v := 157) C gd_Law_18 rfl in_Law t_Law ty_Law n_Law rfl (by decide) mw_155 rfl rfl rfl rfl rfl kd_155 rfl (g_lt (a := g.1) (n := 2) (c := 155) rfl (by omega)) ?_
    exact gq_ret C gd_Law_21 hQ)
def e_Land_142 (g : gS) : gS := (g_r (e_Law_155 (g_s (g_r (e_Law_152 (g_s (g_r (g_s (g_r (g_s (g_r (g_s (g_r (g_s (g_r (g_s (g_r (g_s (g_r (g_s (g_r (g_s (g_r (g_s (g_i g 142 0 (2)) 1) 142 5 143) 1) 142 6 144) 1) 142 7 145) 1) 142 8 146) 1) 142 9 147) 1) 142 10 148) 1) 142 11 149) 1) 142 12 150) 1) 142 13 151) 1)) 142 14 152) 1)) 142 15 155)
theorem k_Land_142 (had : ∀ i, i < 187 → ad i = b + i) {g : gS} (hg : g.1 = 143) : Met l ⟨"BackBridge$Land", "<init>", "()V"⟩ (sn_wd ⟨"BackBridge$Land", "<init>", "()V"⟩ prog_5_method_1_code 1 none) (g_rm 1 15 2012) (g_Pc D cA ad b [.ref (ad 142)] g) (g_Qc D cA ad b (e_Land_142 g)) 15 2012 (fun q => b ≤ q) :=
  gq_met (by decide +kernel) rfl had (Nat.le_of_ble_eq_true rfl) (fun C hQ => by
    refine gq_aload C gd_Land_0 rfl 0 rfl ?_
    refine gq_oinit C gd_Land_1 gw_147 gw_140 gw_141 (Nat.le_of_ble_eq_true rfl) ?_
    refine gq_aload C gd_Land_4 rfl 0 rfl ?_
    refine gq_iconst (v := (2)) C gd_Land_5 (by decide) ?_
    refine gq_puti (ci := 3) (C0 := R_Land) (T := T_Land) (N := 16) (k := 0) (a := 142) (v := (2)) C gd_Land_6 rfl in_Land t_Land ty_Land n_Land rfl (by decide) mw_169 rfl rfl kd_142 rfl (g_lt (a := g.1) (n := 0) (c := 142) rfl (by omega)) ?_
    refine gq_aload C gd_Land_9 rfl 0 rfl ?_
    refine gq_bipush (v := (12)) C gd_Land_10 (by decide) ?_
    refine gx_newa (kk := 143) (t := 0) (N := 12) (ty := .int) C gd_Land_12 (g_k (a := g.1) (n := 0) rfl (by omega)) rfl gw_168 rfl (by decide) (fun h => h) rfl (by decide) (by decide) kd_143 ln_143 (by decide) (Nat.le_of_ble_eq_true rfl) (Nat.le_of_ble_eq_true rfl) (Nat.le_of_ble_eq_true rfl) ?_
    refine gq_putF (ci := 3) (C0 := R_Land) (T := T_Land) (N := 16) (k := 5) (a := 142) (v := 143) C gd_Land_14 rfl in_Land t_Land ty_Land n_Land rfl (by decide) mw_194 rfl rfl rfl rfl rfl kd_142 rfl (g_lt (a := g.1) (n := 1) (c := 142) rfl (by omega)) ?_
    refine gq_aload C gd_Land_17 rfl 0 rfl ?_
    refine gq_bipush (v := (12)) C gd_Land_18 (by decide) ?_
    refine gx_newa (kk := 144) (t := 0) (N := 12) (ty := .int) C gd_Land_20 (g_k (a := g.1) (n := 1) rfl (by omega)) rfl gw_168 rfl (by decide) (fun h => h) rfl (by decide) (by decide) kd_144 ln_144 (by decide) (Nat.le_of_ble_eq_true rfl) (Nat.le_of_ble_eq_true rfl) (Nat.le_of_ble_eq_true rfl) ?_
    refine gq_putF (ci := 3) (C0 := R_Land) (T := T_Land) (N := 16) (k := 6) (a := 142) (v := 144) C gd_Land_22 rfl in_Land t_Land ty_Land n_Land rfl (by decide) mw_199 rfl rfl rfl rfl rfl kd_142 rfl (g_lt (a := g.1) (n := 2) (c := 142) rfl (by omega)) ?_
    refine gq_aload C gd_Land_25 rfl 0 rfl ?_
    refine gq_bipush (v := (12)) C gd_Land_26 (by decide) ?_
    refine gx_newa (kk := 145) (t := 0) (N := 12) (ty := .int) C gd_Land_28 (g_k (a := g.1) (n := 2) rfl (by omega)) rfl gw_168 rfl (by decide) (fun h => h) rfl (by decide) (by decide) kd_145 ln_145 (by decide) (Nat.le_of_ble_eq_true rfl) (Nat.le_of_ble_eq_true rfl) (Nat.le_of_ble_eq_true rfl) ?_
    refine gq_putF (ci := 3) (C0 := R_Land) (T := T_Land) (N := 16) (k := 7) (a := 142) (v := 145) C gd_Land_30 rfl in_Land t_Land ty_Land n_Land rfl (by decide) mw_204 rfl rfl rfl rfl rfl kd_142 rfl (g_lt (a := g.1) (n := 3) (c := 142) rfl (by omega)) ?_
    refine gq_aload C gd_Land_33 rfl 0 rfl ?_
    refine gq_bipush (v := (12)) C gd_Land_34 (by decide) ?_
    refine gx_newa (kk := 146) (t := 0) (N := 12) (ty := .int) C gd_Land_36 (g_k (a := g.1) (n := 3) rfl (by omega)) rfl gw_168 rfl (by decide) (fun h => h) rfl (by decide) (by decide) kd_146 ln_146 (by decide) (Nat.le_of_ble_eq_true rfl) (Nat.le_of_ble_eq_true rfl) (Nat.le_of_ble_eq_true rfl) ?_
    refine gq_putF (ci := 3) (C0 := R_Land) (T := T_Land) (N := 16) (k := 8) (a := 142) (v := 146) C gd_Land_38 rfl in_Land t_Land ty_Land n_Land rfl (by decide) mw_209 rfl rfl rfl rfl rfl kd_142 rfl (g_lt (a := g.1) (n := 4) (c := 142) rfl (by omega)) ?_
    refine gq_aload C gd_Land_41 rfl 0 rfl ?_
    refine gq_bipush (v := (6)) C gd_Land_42 (by decide) ?_
    refine gx_newa (kk := 147) (t := 0) (N := 6) (ty := .int) C gd_Land_44 (g_k (a := g.1) (n := 4) rfl (by omega)) rfl gw_168 rfl (by decide) (fun h => h) rfl (by decide) (by decide) kd_147 ln_147 (by decide) (Nat.le_of_ble_eq_true rfl) (Nat.le_of_ble_eq_true rfl) (Nat.le_of_ble_eq_true rfl) ?_
    refine gq_putF (ci := 3) (C0 := R_Land) (T := T_Land) (N := 16) (k := 9) (a := 142) (v := 147) C gd_Land_46 rfl in_Land t_Land ty_Land n_Land rfl (by decide) mw_213 rfl rfl rfl rfl rfl kd_142 rfl (g_lt (a := g.1) (n := 5) (c := 142) rfl (by omega)) ?_
    refine gq_aload C gd_Land_49 rfl 0 rfl ?_
    refine gq_bipush (v := (6)) C gd_Land_50 (by decide) ?_
    refine gx_newa (kk := 148) (t := 0) (N := 6) (ty := .int) C gd_Land_52 (g_k (a := g.1) (n := 5) rfl (by omega)) rfl gw_168 rfl (by decide) (fun h => h) rfl (by decide) (by decide) kd_148 ln_148 (by decide) (Nat.le_of_ble_eq_true rfl) (Nat.le_of_ble_eq_true rfl) (Nat.le_of_ble_eq_true rfl) ?_
    refine gq_putF (ci := 3) (C0 := R_Land) (T := T_Land) (N := 16) (k := 10) (a := 142) (v := 148) C gd_Land_54 rfl in_Land t_Land ty_Land n_Land rfl (by decide) mw_216 rfl rfl rfl rfl rfl kd_142 rfl (g_lt (a := g.1) (n := 6) (c := 142) rfl (by omega)) ?_
    refine gq_aload C gd_Land_57 rfl 0 rfl ?_
    refine gq_bipush (v := (6)) C gd_Land_58 (by decide) ?_
    refine gx_newa (kk := 149) (t := 0) (N := 6) (ty := .int) C gd_Land_60 (g_k (a := g.1) (n := 6) rfl (by omega)) rfl gw_168 rfl (by decide) (fun h => h) rfl (by decide) (by decide) kd_149 ln_149 (by decide) (Nat.le_of_ble_eq_true rfl) (Nat.le_of_ble_eq_true rfl) (Nat.le_of_ble_eq_true rfl) ?_
    refine gq_putF (ci := 3) (C0 := R_Land) (T := T_Land) (N := 16) (k := 11) (a := 142) (v := 149) C gd_Land_62 rfl in_Land t_Land ty_Land n_Land rfl (by decide) mw_222 rfl rfl rfl rfl rfl kd_142 rfl (g_lt (a := g.1) (n := 7) (c := 142) rfl (by omega)) ?_
    refine gq_aload C gd_Land_65 rfl 0 rfl ?_
    refine gq_bipush (v := (6)) C gd_Land_66 (by decide) ?_
    refine gx_newa (kk := 150) (t := 0) (N := 6) (ty := .int) C gd_Land_68 (g_k (a := g.1) (n := 7) rfl (by omega)) rfl gw_168 rfl (by decide) (fun h => h) rfl (by decide) (by decide) kd_150 ln_150 (by decide) (Nat.le_of_ble_eq_true rfl) (Nat.le_of_ble_eq_true rfl) (Nat.le_of_ble_eq_true rfl) ?_
    refine gq_putF (ci := 3) (C0 := R_Land) (T := T_Land) (N := 16) (k := 12) (a := 142) (v := 150) C gd_Land_70 rfl in_Land t_Land ty_Land n_Land rfl (by decide) mw_225 rfl rfl rfl rfl rfl kd_142 rfl (g_lt (a := g.1) (n := 8) (c := 142) rfl (by omega)) ?_
    refine gq_aload C gd_Land_73 rfl 0 rfl ?_
    refine gq_bipush (v := (6)) C gd_Land_74 (by decide) ?_
    refine gx_newa (kk := 151) (t := 0) (N := 6) (ty := .int) C gd_Land_76 (g_k (a := g.1) (n := 8) rfl (by omega)) rfl gw_168 rfl (by decide) (fun h => h) rfl (by decide) (by decide) kd_151 ln_151 (by decide) (Nat.le_of_ble_eq_true rfl) (Nat.le_of_ble_eq_true rfl) (Nat.le_of_ble_eq_true rfl) ?_
    refine gq_putF (ci := 3) (C0 := R_Land) (T := T_Land) (N := 16) (k := 13) (a := 142) (v := 151) C gd_Land_78 rfl in_Land t_Land ty_Land n_Land rfl (by decide) mw_231 rfl rfl rfl rfl rfl kd_142 rfl (g_lt (a := g.1) (n := 9) (c := 142) rfl (by omega)) ?_
    refine gq_aload C gd_Land_81 rfl 0 rfl ?_
    refine gx_new (kk := 152) (ci := 4) (C0 := R_Law) (T := T_Law) (N := 3) C gd_Land_82 (g_k (a := g.1) (n := 9) rfl (by omega)) rfl in_Law t_Law ty_Law rfl gw_148 gw_149 mw_113 gf_Law kd_152 (by decide) (Nat.le_of_ble_eq_true rfl) (Nat.le_of_ble_eq_true rfl) ?_
    refine gq_dup C gd_Land_85 rfl ?_
    refine gq_callN (o := 152) (d := 0) (mc := 2) (ms := 964) (mL := 1) (as := []) (st := [.ref (ad 152), .ref (ad 142)]) C gd_Land_86 (k_Law_152 had (g_k (a := g.1) (n := 10) rfl (by omega))) gw_152 mw_113 (List.mem_of_getElem? (i := 5) rfl) gw_151 rfl ⟨by decide, by decide⟩ gp_0 (Nat.le_of_ble_eq_true rfl) (Nat.le_of_ble_eq_true rfl) (Nat.le_of_ble_eq_true rfl) (Nat.le_of_ble_eq_true rfl) rfl (Nat.le_of_ble_eq_true rfl) ?_
    refine gq_putF (ci := 3) (C0 := R_Land) (T := T_Land) (N := 16) (k := 14) (a := 142) (v := 152) C gd_Land_89 rfl in_Land t_Land ty_Land n_Land rfl (by decide) mw_236 rfl rfl rfl rfl rfl kd_142 rfl (g_lt (a := g.1) (n := 12) (c := 142) rfl (by omega)) ?_
    refine gq_aload C gd_Land_92 rfl 0 rfl ?_
    refine gx_new (kk := 155) (ci := 4) (C0 := R_Law) (T := T_Law) (N := 3) C gd_Land_93 (g_k (a := g.1) (n := 12) rfl (by omega)) rfl in_Law t_Law ty_Law rfl gw_148 gw_149 mw_113 gf_Law kd_155 (by decide) (Nat.le_of_ble_eq_true rfl) (Nat.le_of_ble_eq_true rfl) ?_
    refine gq_dup C gd_Land_96 rfl ?_
    refine gq_callN (o := 155) (d := 0) (mc := 2) (ms := 964) (mL := 1) (as := []) (st := [.ref (ad 155), .ref (ad 142)]) C gd_Land_97 (k_Law_155 had (g_k (a := g.1) (n := 13) rfl (by omega))) gw_152 mw_113 (List.mem_of_getElem? (i := 5) rfl) gw_151 rfl ⟨by decide, by decide⟩ gp_0 (Nat.le_of_ble_eq_true rfl) (Nat.le_of_ble_eq_true rfl) (Nat.le_of_ble_eq_true rfl) (Nat.le_of_ble_eq_true rfl) rfl (Nat.le_of_ble_eq_true rfl) ?_
    refine gq_putF (ci := 3) (C0 := R_Land) (T := T_Land) (N := 16) (k := 15) (a := 142) (v := 155) C gd_Land_100 rfl in_Land t_Land ty_Land n_Land rfl (by decide) mw_240 rfl rfl rfl rfl rfl kd_142 rfl (g_lt (a := g.1) (n := 15) (c := 142) rfl (by omega)) ?_
    exact gq_ret C gd_Land_103 hQ)
def e_World_159 (g : gS) : gS := (g_r (g_s (g_r (g_s (g_r (g_s (g_r (g_s g 1) 159 0 160) 1) 159 1 161) 1) 159 2 162) 1) 159 3 163)
theorem k_World_159 (had : ∀ i, i < 187 → ad i = b + i) {g : gS} (hg : g.1 = 160) : Met l ⟨"BackBridge$World", "<init>", "()V"⟩ (sn_wd ⟨"BackBridge$World", "<init>", "()V"⟩ prog_12_method_1_code 1 none) (g_rm 0 4 24) (g_Pc D cA ad b [.ref (ad 159)] g) (g_Qc D cA ad b (e_World_159 g)) 4 24 (fun q => b ≤ q) :=
  gq_met (by decide +kernel) rfl had (Nat.le_of_ble_eq_true rfl) (fun C hQ => by
    refine gq_aload C gd_World_0 rfl 0 rfl ?_
    refine gq_oinit C gd_World_1 gw_280 gw_140 gw_141 (Nat.le_of_ble_eq_true rfl) ?_
    refine gq_aload C gd_World_4 rfl 0 rfl ?_
    refine gq_bipush (v := (6)) C gd_World_5 (by decide) ?_
    refine gx_newa (kk := 160) (t := 0) (N := 6) (ty := .int) C gd_World_7 (g_k (a := g.1) (n := 0) rfl (by omega)) rfl gw_168 rfl (by decide) (fun h => h) rfl (by decide) (by decide) kd_160 ln_160 (by decide) (Nat.le_of_ble_eq_true rfl) (Nat.le_of_ble_eq_true rfl) (Nat.le_of_ble_eq_true rfl) ?_
    refine gq_putF (ci := 10) (C0 := R_World) (T := T_World) (N := 6) (k := 0) (a := 159) (v := 160) C gd_World_9 rfl in_World t_World ty_World n_World rfl (by decide) mw_281 rfl rfl rfl rfl rfl kd_159 rfl (g_lt (a := g.1) (n := 1) (c := 159) rfl (by omega)) ?_
    refine gq_aload C gd_World_12 rfl 0 rfl ?_
    refine gq_bipush (v := (6)) C gd_World_13 (by decide) ?_
    refine gx_newa (kk := 161) (t := 0) (N := 6) (ty := .int) C gd_World_15 (g_k (a := g.1) (n := 1) rfl (by omega)) rfl gw_168 rfl (by decide) (fun h => h) rfl (by decide) (by decide) kd_161 ln_161 (by decide) (Nat.le_of_ble_eq_true rfl) (Nat.le_of_ble_eq_true rfl) (Nat.le_of_ble_eq_true rfl) ?_
    refine gq_putF (ci := 10) (C0 := R_World) (T := T_World) (N := 6) (k := 1) (a := 159) (v := 161) C gd_World_17 rfl in_World t_World ty_World n_World rfl (by decide) mw_286 rfl rfl rfl rfl rfl kd_159 rfl (g_lt (a := g.1) (n := 2) (c := 159) rfl (by omega)) ?_
    refine gq_aload C gd_World_20 rfl 0 rfl ?_
    refine gq_bipush (v := (6)) C gd_World_21 (by decide) ?_
    refine gx_newa (kk := 162) (t := 0) (N := 6) (ty := .int) C gd_World_23 (g_k (a := g.1) (n := 2) rfl (by omega)) rfl gw_168 rfl (by decide) (fun h => h) rfl (by decide) (by decide) kd_162 ln_162 (by decide) (Nat.le_of_ble_eq_true rfl) (Nat.le_of_ble_eq_true rfl) (Nat.le_of_ble_eq_true rfl) ?_
    refine gq_putF (ci := 10) (C0 := R_World) (T := T_World) (N := 6) (k := 2) (a := 159) (v := 162) C gd_World_25 rfl in_World t_World ty_World n_World rfl (by decide) mw_290 rfl rfl rfl rfl rfl kd_159 rfl (g_lt (a := g.1) (n := 3) (c := 159) rfl (by omega)) ?_
    refine gq_aload C gd_World_28 rfl 0 rfl ?_
    refine gq_bipush (v := (6)) C gd_World_29 (by decide) ?_
    refine gx_newa (kk := 163) (t := 0) (N := 6) (ty := .int) C gd_World_31 (g_k (a := g.1) (n := 3) rfl (by omega)) rfl gw_168 rfl (by decide) (fun h => h) rfl (by decide) (by decide) kd_163 ln_163 (by decide) (Nat.le_of_ble_eq_true rfl) (Nat.le_of_ble_eq_true rfl) (Nat.le_of_ble_eq_true rfl) ?_
    refine gq_putF (ci := 10) (C0 := R_World) (T := T_World) (N := 6) (k := 3) (a := 159) (v := 163) C gd_World_33 rfl in_World t_World ty_World n_World rfl (by decide) mw_296 rfl rfl rfl rfl rfl kd_159 rfl (g_lt (a := g.1) (n := 4) (c := 159) rfl (by omega)) ?_
    exact gq_ret C gd_World_36 hQ)
def e_World_164 (g : gS) : gS := (g_r (g_s (g_r (g_s (g_r (g_s (g_r (g_s g 1) 164 0 165) 1) 164 1 166) 1) 164 2 167) 1) 164 3 168)
theorem k_World_164 (had : ∀ i, i < 187 → ad i = b + i) {g : gS} (hg : g.1 = 165) : Met l ⟨"BackBridge$World", "<init>", "()V"⟩ (sn_wd ⟨"BackBridge$World", "<init>", "()V"⟩ prog_12_method_1_code 1 none) (g_rm 0 4 24) (g_Pc D cA ad b [.ref (ad 164)] g) (g_Qc D cA ad b (e_World_164 g)) 4 24 (fun q => b ≤ q) :=
  gq_met (by decide +kernel) rfl had (Nat.le_of_ble_eq_true rfl) (fun C hQ => by
    refine gq_aload C gd_World_0 rfl 0 rfl ?_
    refine gq_oinit C gd_World_1 gw_280 gw_140 gw_141 (Nat.le_of_ble_eq_true rfl) ?_
    refine gq_aload C gd_World_4 rfl 0 rfl ?_
    refine gq_bipush (v := (6)) C gd_World_5 (by decide) ?_
    refine gx_newa (kk := 165) (t := 0) (N := 6) (ty := .int) C gd_World_7 (g_k (a := g.1) (n := 0) rfl (by omega)) rfl gw_168 rfl (by decide) (fun h => h) rfl (by decide) (by decide) kd_165 ln_165 (by decide) (Nat.le_of_ble_eq_true rfl) (Nat.le_of_ble_eq_true rfl) (Nat.le_of_ble_eq_true rfl) ?_
    refine gq_putF (ci := 10) (C0 := R_World) (T := T_World) (N := 6) (k := 0) (a := 164) (v := 165) C gd_World_9 rfl in_World t_World ty_World n_World rfl (by decide) mw_281 rfl rfl rfl rfl rfl kd_164 rfl (g_lt (a := g.1) (n := 1) (c := 164) rfl (by omega)) ?_
    refine gq_aload C gd_World_12 rfl 0 rfl ?_
    refine gq_bipush (v := (6)) C gd_World_13 (by decide) ?_
    refine gx_newa (kk := 166) (t := 0) (N := 6) (ty := .int) C gd_World_15 (g_k (a := g.1) (n := 1) rfl (by omega)) rfl gw_168 rfl (by decide) (fun h => h) rfl (by decide) (by decide) kd_166 ln_166 (by decide) (Nat.le_of_ble_eq_true rfl) (Nat.le_of_ble_eq_true rfl) (Nat.le_of_ble_eq_true rfl) ?_
    refine gq_putF (ci := 10) (C0 := R_World) (T := T_World) (N := 6) (k := 1) (a := 164) (v := 166) C gd_World_17 rfl in_World t_World ty_World n_World rfl (by decide) mw_286 rfl rfl rfl rfl rfl kd_164 rfl (g_lt (a := g.1) (n := 2) (c := 164) rfl (by omega)) ?_
    refine gq_aload C gd_World_20 rfl 0 rfl ?_
    refine gq_bipush (v := (6)) C gd_World_21 (by decide) ?_
    refine gx_newa (kk := 167) (t := 0) (N := 6) (ty := .int) C gd_World_23 (g_k (a := g.1) (n := 2) rfl (by omega)) rfl gw_168 rfl (by decide) (fun h => h) rfl (by decide) (by decide) kd_167 ln_167 (by decide) (Nat.le_of_ble_eq_true rfl) (Nat.le_of_ble_eq_true rfl) (Nat.le_of_ble_eq_true rfl) ?_
    refine gq_putF (ci := 10) (C0 := R_World) (T := T_World) (N := 6) (k := 2) (a := 164) (v := 167) C gd_World_25 rfl in_World t_World ty_World n_World rfl (by decide) mw_290 rfl rfl rfl rfl rfl kd_164 rfl (g_lt (a := g.1) (n := 3) (c := 164) rfl (by omega)) ?_
    refine gq_aload C gd_World_28 rfl 0 rfl ?_
    refine gq_bipush (v := (6)) C gd_World_29 (by decide) ?_
    refine gx_newa (kk := 168) (t := 0) (N := 6) (ty := .int) C gd_World_31 (g_k (a := g.1) (n := 3) rfl (by omega)) rfl gw_168 rfl (by decide) (fun h => h) rfl (by decide) (by decide) kd_168 ln_168 (by decide) (Nat.le_of_ble_eq_true rfl) (Nat.le_of_ble_eq_true rfl) (Nat.le_of_ble_eq_true rfl) ?_
    refine gq_putF (ci := 10) (C0 := R_World) (T := T_World) (N := 6) (k := 3) (a := 164) (v := 168) C gd_World_33 rfl in_World t_World ty_World n_World rfl (by decide) mw_296 rfl rfl rfl rfl rfl kd_164 rfl (g_lt (a := g.1) (n := 4) (c := 164) rfl (by omega)) ?_
    exact gq_ret C gd_World_36 hQ)
def e_BB_0 (g : gS) : gS := (g_r (g_r (e_World_164 (g_s (g_r (e_World_159 (g_s (g_s (g_r (g_r (e_Land_142 (g_s (g_r (e_Land_126 (g_s (g_s (g_r (e_Answers_124 (g_s (g_r (e_Trays_116 (g_s (g_r (e_Choices_113 (g_s (g_r (e_Search_104 (g_s (g_r (e_Past_52 (g_s (g_r (e_Deeds_51 (g_s (g_r (e_Laws_48 (g_s (g_r (e_Reader_28 (g_s (g_r (e_World_23 (g_s (g_r (e_World_18 (g_s (g_r (e_Land_2 (g_s (g_r (g_s g 1) 0 0 1) 1)) 0 2 2) 1)) 0 3 18) 1)) 0 4 23) 1)) 0 5 28) 1)) 0 6 48) 1)) 0 7 51) 1)) 0 8 52) 1)) 0 9 104) 1)) 0 10 113) 1)) 0 11 116) 1)) 0 12 124) 1) 1)) 125 0 126) 1)) 125 1 142) 0 13 125) 1) 1)) 158 0 159) 1)) 158 1 164) 0 14 158)
set_option maxRecDepth 100000 in
theorem k_BB_0 (had : ∀ i, i < 187 → ad i = b + i) {g : gS} (hg : g.1 = 1) : Met l ⟨"BackBridge", "<init>", "()V"⟩ (sn_wd ⟨"BackBridge", "<init>", "()V"⟩ prog_1_method_1_code 1 none) (g_rm 3 168 102417) (g_Pc D cA ad b [.ref (ad 0)] g) (g_Qc D cA ad b (e_BB_0 g)) 168 102417 (fun q => b ≤ q) :=
  gq_met (by decide +kernel) rfl had (Nat.le_of_ble_eq_true rfl) (fun C hQ => by
    refine gq_aload C gd_BB_0 rfl 0 rfl ?_
    refine gq_oinit C gd_BB_1 gw_139 gw_140 gw_141 (Nat.le_of_ble_eq_true rfl) ?_
    refine gq_aload C gd_BB_4 rfl 0 rfl ?_
    refine gq_sipush (v := (900)) C gd_BB_5 (by decide) ?_
    refine gx_newa (kk := 1) (t := 1) (N := 900) (ty := .byte) C gd_BB_8 (g_k (a := g.1) (n := 0) rfl (by omega)) rfl gw_167 rfl (by decide) (fun h => h) rfl (by decide) (by decide) kd_1 ln_1 (by decide) (Nat.le_of_ble_eq_true rfl) (Nat.le_of_ble_eq_true rfl) (Nat.le_of_ble_eq_true rfl) ?_
    refine gq_putF (ci := 11) (C0 := R_BB) (T := T_BB) (N := 16) (k := 0) (a := 0) (v := 1) C gd_BB_10 rfl in_BB t_BB ty_BB n_BB rfl (by decide) mw_567 rfl rfl rfl rfl rfl kd_0 rfl (g_lt (a := g.1) (n := 1) (c := 0) rfl (by omega)) ?_
    refine gq_aload C gd_BB_13 rfl 0 rfl ?_
    refine gx_new (kk := 2) (ci := 3) (C0 := R_Land) (T := T_Land) (N := 16) C gd_BB_14 (g_k (a := g.1) (n := 1) rfl (by omega)) rfl in_Land t_Land ty_Land rfl gw_142 gw_143 mw_112 gf_Land kd_2 (by decide) (Nat.le_of_ble_eq_true rfl) (Nat.le_of_ble_eq_true rfl) ?_
    refine gq_dup C gd_BB_17 rfl ?_
    refine gq_callN (o := 2) (d := 1) (mc := 15) (ms := 2012) (mL := 1) (as := []) (st := [.ref (ad 2), .ref (ad 0)]) C gd_BB_18 (k_Land_2 had (g_k (a := g.1) (n := 2) rfl (by omega))) gw_146 mw_112 (List.mem_of_getElem? (i := 0) rfl) gw_145 rfl ⟨by decide, by decide⟩ gp_0 (Nat.le_of_ble_eq_true rfl) (Nat.le_of_ble_eq_true rfl) (Nat.le_of_ble_eq_true rfl) (Nat.le_of_ble_eq_true rfl) rfl (Nat.le_of_ble_eq_true rfl) ?_
    refine gq_putF (ci := 11) (C0 := R_BB) (T := T_BB) (N := 16) (k := 2) (a := 0) (v := 2) C gd_BB_21 rfl in_BB t_BB ty_BB n_BB rfl (by decide) mw_569 rfl rfl rfl rfl rfl kd_0 rfl (g_lt (a := g.1) (n := 17) (c := 0) rfl (by omega)) ?_
    refine gq_aload C gd_BB_24 rfl 0 rfl ?_
    refine gx_new (kk := 18) (ci := 10) (C0 := R_World) (T := T_World) (N := 6) C gd_BB_25 (g_k (a := g.1) (n := 17) rfl (by omega)) rfl in_World t_World ty_World rfl gw_275 gw_276 mw_114 gf_World kd_18 (by decide) (Nat.le_of_ble_eq_true rfl) (Nat.le_of_ble_eq_true rfl) ?_
    refine gq_dup C gd_BB_28 rfl ?_
    refine gq_callN (o := 18) (d := 0) (mc := 4) (ms := 24) (mL := 1) (as := []) (st := [.ref (ad 18), .ref (ad 0)]) C gd_BB_29 (k_World_18 had (g_k (a := g.1) (n := 18) rfl (by omega))) gw_279 mw_114 (List.mem_of_getElem? (i := 1) rfl) gw_278 rfl ⟨by decide, by decide⟩ gp_0 (Nat.le_of_ble_eq_true rfl) (Nat.le_of_ble_eq_true rfl) (Nat.le_of_ble_eq_true rfl) (Nat.le_of_ble_eq_true rfl) rfl (Nat.le_of_ble_eq_true rfl) ?_
    refine gq_putF (ci := 11) (C0 := R_BB) (T := T_BB) (N := 16) (k := 3) (a := 0) (v := 18) C gd_BB_32 rfl in_BB t_BB ty_BB n_BB rfl (by decide) mw_570 rfl rfl rfl rfl rfl kd_0 rfl (g_lt (a := g.1) (n := 22) (c := 0) rfl (by omega)) ?_
    refine gq_aload C gd_BB_35 rfl 0 rfl ?_
    refine gx_new (kk := 23) (ci := 10) (C0 := R_World) (T := T_World) (N := 6) C gd_BB_36 (g_k (a := g.1) (n := 22) rfl (by omega)) rfl in_World t_World ty_World rfl gw_275 gw_276 mw_114 gf_World kd_23 (by decide) (Nat.le_of_ble_eq_true rfl) (Nat.le_of_ble_eq_true rfl) ?_
    refine gq_dup C gd_BB_39 rfl ?_
    refine gq_callN (o := 23) (d := 0) (mc := 4) (ms := 24) (mL := 1) (as := []) (st := [.ref (ad 23), .ref (ad 0)]) C gd_BB_40 (k_World_23 had (g_k (a := g.1) (n := 23) rfl (by omega))) gw_279 mw_114 (List.mem_of_getElem? (i := 1) rfl) gw_278 rfl ⟨by decide, by decide⟩ gp_0 (Nat.le_of_ble_eq_true rfl) (Nat.le_of_ble_eq_true rfl) (Nat.le_of_ble_eq_true rfl) (Nat.le_of_ble_eq_true rfl) rfl (Nat.le_of_ble_eq_true rfl) ?_
    refine gq_putF (ci := 11) (C0 := R_BB) (T := T_BB) (N := 16) (k := 4) (a := 0) (v := 23) C gd_BB_43 rfl in_BB t_BB ty_BB n_BB rfl (by decide) mw_571 rfl rfl rfl rfl rfl kd_0 rfl (g_lt (a := g.1) (n := 27) (c := 0) rfl (by omega)) ?_
    refine gq_aload C gd_BB_46 rfl 0 rfl ?_
    refine gx_new (kk := 28) (ci := 7) (C0 := R_Reader) (T := T_Reader) (N := 9) C gd_BB_47 (g_k (a := g.1) (n := 27) rfl (by omega)) rfl in_Reader t_Reader ty_Reader rfl gw_322 gw_323 mw_115 gf_Reader kd_28 (by decide) (Nat.le_of_ble_eq_true rfl) (Nat.le_of_ble_eq_true rfl) ?_
    refine gq_dup C gd_BB_50 rfl ?_
    refine gq_callI (o := 28) (d := 2) (mc := 19) (ms := 4731) (mL := 1) (as := []) (st := [.ref (ad 28), .ref (ad 0)]) C gd_BB_51 (k_Reader_28 had (g_k (a := g.1) (n := 28) rfl (by omega))) gw_326 mw_115 gw_324 gw_325 rfl ⟨by decide, by decide⟩ gp_0 (Nat.le_of_ble_eq_true rfl) (Nat.le_of_ble_eq_true rfl) (Nat.le_of_ble_eq_true rfl) (Nat.le_of_ble_eq_true rfl) rfl (Nat.le_of_ble_eq_true rfl) ?_
    refine gq_putF (ci := 11) (C0 := R_BB) (T := T_BB) (N := 16) (k := 5) (a := 0) (v := 28) C gd_BB_54 rfl in_BB t_BB ty_BB n_BB rfl (by decide) mw_572 rfl rfl rfl rfl rfl kd_0 rfl (g_lt (a := g.1) (n := 47) (c := 0) rfl (by omega)) ?_
    refine gq_aload C gd_BB_57 rfl 0 rfl ?_
    refine gx_new (kk := 48) (ci := 5) (C0 := R_Laws) (T := T_Laws) (N := 3) C gd_BB_58 (g_k (a := g.1) (n := 47) rfl (by omega)) rfl in_Laws t_Laws ty_Laws rfl gw_361 gw_362 mw_116 gf_Laws kd_48 (by decide) (Nat.le_of_ble_eq_true rfl) (Nat.le_of_ble_eq_true rfl) ?_
    refine gq_dup C gd_BB_61 rfl ?_
    refine gq_aload C gd_BB_62 rfl 0 rfl ?_
    refine gq_getr (ci := 11) (C0 := R_BB) (T := T_BB) (N := 16) (k := 2) (a := 0) (v := 2) C gd_BB_63 rfl in_BB rfl (by decide) mw_569 kd_0 (by decide) (g_lt (a := g.1) (n := 48) (c := 0) rfl (by omega)) rfl ?_
    refine gq_callI (o := 48) (d := 0) (mc := 2) (ms := 6727) (mL := 2) (as := [.ref (ad 2)]) (st := [.ref (ad 48), .ref (ad 0)]) C gd_BB_66 (k_Laws_48 had (g_k (a := g.1) (n := 48) rfl (by omega))) gw_365 mw_116 gw_363 gw_364 rfl ⟨by decide, by decide⟩ gp_Land (Nat.le_of_ble_eq_true rfl) (Nat.le_of_ble_eq_true rfl) (Nat.le_of_ble_eq_true rfl) (Nat.le_of_ble_eq_true rfl) rfl (Nat.le_of_ble_eq_true rfl) ?_
    refine gq_putF (ci := 11) (C0 := R_BB) (T := T_BB) (N := 16) (k := 6) (a := 0) (v := 48) C gd_BB_69 rfl in_BB t_BB ty_BB n_BB rfl (by decide) mw_573 rfl rfl rfl rfl rfl kd_0 rfl (g_lt (a := g.1) (n := 50) (c := 0) rfl (by omega)) ?_
    refine gq_aload C gd_BB_72 rfl 0 rfl ?_
    refine gx_new (kk := 51) (ci := 2) (C0 := R_Deeds) (T := T_Deeds) (N := 4) C gd_BB_73 (g_k (a := g.1) (n := 50) rfl (by omega)) rfl in_Deeds t_Deeds ty_Deeds rfl gw_377 gw_378 mw_117 gf_Deeds kd_51 (by decide) (Nat.le_of_ble_eq_true rfl) (Nat.le_of_ble_eq_true rfl) ?_
    refine gq_dup C gd_BB_76 rfl ?_
    refine gq_aload C gd_BB_77 rfl 0 rfl ?_
    refine gq_getr (ci := 11) (C0 := R_BB) (T := T_BB) (N := 16) (k := 2) (a := 0) (v := 2) C gd_BB_78 rfl in_BB rfl (by decide) mw_569 kd_0 (by decide) (g_lt (a := g.1) (n := 51) (c := 0) rfl (by omega)) rfl ?_
    refine gq_aload C gd_BB_81 rfl 0 rfl ?_
    refine gq_getr (ci := 11) (C0 := R_BB) (T := T_BB) (N := 16) (k := 6) (a := 0) (v := 48) C gd_BB_82 rfl in_BB rfl (by decide) mw_573 kd_0 (by decide) (g_lt (a := g.1) (n := 51) (c := 0) rfl (by omega)) rfl ?_
    refine gq_callI (o := 51) (d := 0) (mc := 0) (ms := 0) (mL := 3) (as := [.ref (ad 2), .ref (ad 48)]) (st := [.ref (ad 51), .ref (ad 0)]) C gd_BB_85 (k_Deeds_51 had (g_k (a := g.1) (n := 51) rfl (by omega))) gw_381 mw_117 gw_379 gw_380 rfl ⟨by decide, by decide⟩ gp_LandLaws (Nat.le_of_ble_eq_true rfl) (Nat.le_of_ble_eq_true rfl) (Nat.le_of_ble_eq_true rfl) (Nat.le_of_ble_eq_true rfl) rfl (Nat.le_of_ble_eq_true rfl) ?_
    refine gq_putF (ci := 11) (C0 := R_BB) (T := T_BB) (N := 16) (k := 7) (a := 0) (v := 51) C gd_BB_88 rfl in_BB t_BB ty_BB n_BB rfl (by decide) mw_574 rfl rfl rfl rfl rfl kd_0 rfl (g_lt (a := g.1) (n := 51) (c := 0) rfl (by omega)) ?_
    refine gq_aload C gd_BB_91 rfl 0 rfl ?_
    refine gx_new (kk := 52) (ci := 6) (C0 := R_Past) (T := T_Past) (N := 3) C gd_BB_92 (g_k (a := g.1) (n := 51) rfl (by omega)) rfl in_Past t_Past ty_Past rfl gw_397 gw_398 mw_118 gf_Past kd_52 (by decide) (Nat.le_of_ble_eq_true rfl) (Nat.le_of_ble_eq_true rfl) ?_
    refine gq_dup C gd_BB_95 rfl ?_
    refine gq_callI (o := 52) (d := 1) (mc := 51) (ms := 310) (mL := 2) (as := []) (st := [.ref (ad 52), .ref (ad 0)]) C gd_BB_96 (k_Past_52 had (g_k (a := g.1) (n := 52) rfl (by omega))) gw_401 mw_118 gw_399 gw_400 rfl ⟨by decide, by decide⟩ gp_0 (Nat.le_of_ble_eq_true rfl) (Nat.le_of_ble_eq_true rfl) (Nat.le_of_ble_eq_true rfl) (Nat.le_of_ble_eq_true rfl) rfl (Nat.le_of_ble_eq_true rfl) ?_
    refine gq_putF (ci := 11) (C0 := R_BB) (T := T_BB) (N := 16) (k := 8) (a := 0) (v := 52) C gd_BB_99 rfl in_BB t_BB ty_BB n_BB rfl (by decide) mw_575 rfl rfl rfl rfl rfl kd_0 rfl (g_lt (a := g.1) (n := 103) (c := 0) rfl (by omega)) ?_
    refine gq_aload C gd_BB_102 rfl 0 rfl ?_
    refine gx_new (kk := 104) (ci := 8) (C0 := R_Search) (T := T_Search) (N := 20) C gd_BB_103 (g_k (a := g.1) (n := 103) rfl (by omega)) rfl in_Search t_Search ty_Search rfl gw_417 gw_418 mw_119 gf_Search kd_104 (by decide) (Nat.le_of_ble_eq_true rfl) (Nat.le_of_ble_eq_true rfl) ?_
    refine gq_dup C gd_BB_106 rfl ?_
    refine gq_aload C gd_BB_107 rfl 0 rfl ?_
    refine gq_getr (ci := 11) (C0 := R_BB) (T := T_BB) (N := 16) (k := 2) (a := 0) (v := 2) C gd_BB_108 rfl in_BB rfl (by decide) mw_569 kd_0 (by decide) (g_lt (a := g.1) (n := 104) (c := 0) rfl (by omega)) rfl ?_
    refine gq_aload C gd_BB_111 rfl 0 rfl ?_
    refine gq_getr (ci := 11) (C0 := R_BB) (T := T_BB) (N := 16) (k := 6) (a := 0) (v := 48) C gd_BB_112 rfl in_BB rfl (by decide) mw_573 kd_0 (by decide) (g_lt (a := g.1) (n := 104) (c := 0) rfl (by omega)) rfl ?_
    refine gq_callI (o := 104) (d := 0) (mc := 8) (ms := 83304) (mL := 3) (as := [.ref (ad 2), .ref (ad 48)]) (st := [.ref (ad 104), .ref (ad 0)]) C gd_BB_115 (k_Search_104 had (g_k (a := g.1) (n := 104) rfl (by omega))) gw_421 mw_119 gw_419 gw_420 rfl ⟨by decide, by decide⟩ gp_LandLaws (Nat.le_of_ble_eq_true rfl) (Nat.le_of_ble_eq_true rfl) (Nat.le_of_ble_eq_true rfl) (Nat.le_of_ble_eq_true rfl) rfl (Nat.le_of_ble_eq_true rfl) ?_
    refine gq_putF (ci := 11) (C0 := R_BB) (T := T_BB) (N := 16) (k := 9) (a := 0) (v := 104) C gd_BB_118 rfl in_BB t_BB ty_BB n_BB rfl (by decide) mw_576 rfl rfl rfl rfl rfl kd_0 rfl (g_lt (a := g.1) (n := 112) (c := 0) rfl (by omega)) ?_
    refine gq_aload C gd_BB_121 rfl 0 rfl ?_
    refine gx_new (kk := 113) (ci := 1) (C0 := R_Choices) (T := T_Choices) (N := 7) C gd_BB_122 (g_k (a := g.1) (n := 112) rfl (by omega)) rfl in_Choices t_Choices ty_Choices rfl gw_493 gw_494 mw_120 gf_Choices kd_113 (by decide) (Nat.le_of_ble_eq_true rfl) (Nat.le_of_ble_eq_true rfl) ?_
    refine gq_dup C gd_BB_125 rfl ?_
    refine gq_aload C gd_BB_126 rfl 0 rfl ?_
    refine gq_getr (ci := 11) (C0 := R_BB) (T := T_BB) (N := 16) (k := 2) (a := 0) (v := 2) C gd_BB_127 rfl in_BB rfl (by decide) mw_569 kd_0 (by decide) (g_lt (a := g.1) (n := 113) (c := 0) rfl (by omega)) rfl ?_
    refine gq_aload C gd_BB_130 rfl 0 rfl ?_
    refine gq_getr (ci := 11) (C0 := R_BB) (T := T_BB) (N := 16) (k := 3) (a := 0) (v := 18) C gd_BB_131 rfl in_BB rfl (by decide) mw_570 kd_0 (by decide) (g_lt (a := g.1) (n := 113) (c := 0) rfl (by omega)) rfl ?_
    refine gq_aload C gd_BB_134 rfl 0 rfl ?_
    refine gq_getr (ci := 11) (C0 := R_BB) (T := T_BB) (N := 16) (k := 9) (a := 0) (v := 104) C gd_BB_135 rfl in_BB rfl (by decide) mw_576 kd_0 (by decide) (g_lt (a := g.1) (n := 113) (c := 0) rfl (by omega)) rfl ?_
    refine gq_callI (o := 113) (d := 0) (mc := 2) (ms := 12) (mL := 4) (as := [.ref (ad 2), .ref (ad 18), .ref (ad 104)]) (st := [.ref (ad 113), .ref (ad 0)]) C gd_BB_138 (k_Choices_113 had (g_k (a := g.1) (n := 113) rfl (by omega))) gw_497 mw_120 gw_495 gw_496 rfl ⟨by decide, by decide⟩ gp_LandWorldSearch (Nat.le_of_ble_eq_true rfl) (Nat.le_of_ble_eq_true rfl) (Nat.le_of_ble_eq_true rfl) (Nat.le_of_ble_eq_true rfl) rfl (Nat.le_of_ble_eq_true rfl) ?_
    refine gq_putF (ci := 11) (C0 := R_BB) (T := T_BB) (N := 16) (k := 10) (a := 0) (v := 113) C gd_BB_141 rfl in_BB t_BB ty_BB n_BB rfl (by decide) mw_577 rfl rfl rfl rfl rfl kd_0 rfl (g_lt (a := g.1) (n := 115) (c := 0) rfl (by omega)) ?_
    refine gq_aload C gd_BB_144 rfl 0 rfl ?_
    refine gx_new (kk := 116) (ci := 9) (C0 := R_Trays) (T := T_Trays) (N := 3) C gd_BB_145 (g_k (a := g.1) (n := 115) rfl (by omega)) rfl in_Trays t_Trays ty_Trays rfl gw_523 gw_524 mw_121 gf_Trays kd_116 (by decide) (Nat.le_of_ble_eq_true rfl) (Nat.le_of_ble_eq_true rfl) ?_
    refine gq_dup C gd_BB_148 rfl ?_
    refine gq_callN (o := 116) (d := 0) (mc := 7) (ms := 172) (mL := 1) (as := []) (st := [.ref (ad 116), .ref (ad 0)]) C gd_BB_149 (k_Trays_116 had (g_k (a := g.1) (n := 116) rfl (by omega))) gw_527 mw_121 (List.mem_of_getElem? (i := 2) rfl) gw_526 rfl ⟨by decide, by decide⟩ gp_0 (Nat.le_of_ble_eq_true rfl) (Nat.le_of_ble_eq_true rfl) (Nat.le_of_ble_eq_true rfl) (Nat.le_of_ble_eq_true rfl) rfl (Nat.le_of_ble_eq_true rfl) ?_
    refine gq_putF (ci := 11) (C0 := R_BB) (T := T_BB) (N := 16) (k := 11) (a := 0) (v := 116) C gd_BB_152 rfl in_BB t_BB ty_BB n_BB rfl (by decide) mw_578 rfl rfl rfl rfl rfl kd_0 rfl (g_lt (a := g.1) (n := 123) (c := 0) rfl (by omega)) ?_
    refine gq_aload C gd_BB_155 rfl 0 rfl ?_
    refine gx_new (kk := 124) (ci := 0) (C0 := R_Answers) (T := T_Answers) (N := 4) C gd_BB_156 (g_k (a := g.1) (n := 123) rfl (by omega)) rfl in_Answers t_Answers ty_Answers rfl gw_546 gw_547 mw_122 gf_Answers kd_124 (by decide) (Nat.le_of_ble_eq_true rfl) (Nat.le_of_ble_eq_true rfl) ?_
    refine gq_dup C gd_BB_159 rfl ?_
    refine gq_aload C gd_BB_160 rfl 0 rfl ?_
    refine gq_getr (ci := 11) (C0 := R_BB) (T := T_BB) (N := 16) (k := 2) (a := 0) (v := 2) C gd_BB_161 rfl in_BB rfl (by decide) mw_569 kd_0 (by decide) (g_lt (a := g.1) (n := 124) (c := 0) rfl (by omega)) rfl ?_
    refine gq_aload C gd_BB_164 rfl 0 rfl ?_
    refine gq_getr (ci := 11) (C0 := R_BB) (T := T_BB) (N := 16) (k := 3) (a := 0) (v := 18) C gd_BB_165 rfl in_BB rfl (by decide) mw_570 kd_0 (by decide) (g_lt (a := g.1) (n := 124) (c := 0) rfl (by omega)) rfl ?_
    refine gq_aload C gd_BB_168 rfl 0 rfl ?_
    refine gq_getr (ci := 11) (C0 := R_BB) (T := T_BB) (N := 16) (k := 6) (a := 0) (v := 48) C gd_BB_169 rfl in_BB rfl (by decide) mw_573 kd_0 (by decide) (g_lt (a := g.1) (n := 124) (c := 0) rfl (by omega)) rfl ?_
    refine gq_callI (o := 124) (d := 0) (mc := 0) (ms := 0) (mL := 4) (as := [.ref (ad 2), .ref (ad 18), .ref (ad 48)]) (st := [.ref (ad 124), .ref (ad 0)]) C gd_BB_172 (k_Answers_124 had (g_k (a := g.1) (n := 124) rfl (by omega))) gw_550 mw_122 gw_548 gw_549 rfl ⟨by decide, by decide⟩ gp_LandWorldLaws (Nat.le_of_ble_eq_true rfl) (Nat.le_of_ble_eq_true rfl) (Nat.le_of_ble_eq_true rfl) (Nat.le_of_ble_eq_true rfl) rfl (Nat.le_of_ble_eq_true rfl) ?_
    refine gq_putF (ci := 11) (C0 := R_BB) (T := T_BB) (N := 16) (k := 12) (a := 0) (v := 124) C gd_BB_175 rfl in_BB t_BB ty_BB n_BB rfl (by decide) mw_579 rfl rfl rfl rfl rfl kd_0 rfl (g_lt (a := g.1) (n := 124) (c := 0) rfl (by omega)) ?_
    refine gq_aload C gd_BB_178 rfl 0 rfl ?_
    refine gq_iconst (v := (2)) C gd_BB_179 (by decide) ?_
    refine gx_newq (kk := 125) (t := 5) (N := 2) (C0 := "BackBridge$Land") C gd_BB_180 (g_k (a := g.1) (n := 124) rfl (by omega)) gw_142 (C.2.2.2.2.2.2.2.2.2.2.1.2.1) rfl (by decide) (by decide) (by decide) kd_125 ln_125 (by decide) (Nat.le_of_ble_eq_true rfl) (Nat.le_of_ble_eq_true rfl) (Nat.le_of_ble_eq_true rfl) ?_
    refine gq_dup C gd_BB_183 rfl ?_
    refine gq_iconst (v := (0)) C gd_BB_184 (by decide) ?_
    refine gx_new (kk := 126) (ci := 3) (C0 := R_Land) (T := T_Land) (N := 16) C gd_BB_185 (g_k (a := g.1) (n := 125) rfl (by omega)) rfl in_Land t_Land ty_Land rfl gw_142 gw_143 mw_112 gf_Land kd_126 (by decide) (Nat.le_of_ble_eq_true rfl) (Nat.le_of_ble_eq_true rfl) ?_
    refine gq_dup C gd_BB_188 rfl ?_
    refine gq_callN (o := 126) (d := 1) (mc := 15) (ms := 2012) (mL := 1) (as := []) (st := [.ref (ad 126), .int (0), .ref (ad 125), .ref (ad 125), .ref (ad 0)]) C gd_BB_189 (k_Land_126 had (g_k (a := g.1) (n := 126) rfl (by omega))) gw_146 mw_112 (List.mem_of_getElem? (i := 0) rfl) gw_145 rfl ⟨by decide, by decide⟩ gp_0 (Nat.le_of_ble_eq_true rfl) (Nat.le_of_ble_eq_true rfl) (Nat.le_of_ble_eq_true rfl) (Nat.le_of_ble_eq_true rfl) rfl (Nat.le_of_ble_eq_true rfl) ?_
    refine gq_aast (a := 125) (o := 126) (t := 5) (ci := 3) (n := 0) (C0 := "BackBridge$Land") (T := T_Land) (N := 16) C gd_BB_192 rfl (by decide) rfl kd_125 (g_lt (a := g.1) (n := 141) (c := 125) rfl (by omega)) kd_126 (g_lt (a := g.1) (n := 141) (c := 126) rfl (by omega)) (by decide) (by rw [ln_125]; unfold vp_in; decide) ?_
    refine gq_dup C gd_BB_193 rfl ?_
    refine gq_iconst (v := (1)) C gd_BB_194 (by decide) ?_
    refine gx_new (kk := 142) (ci := 3) (C0 := R_Land) (T := T_Land) (N := 16) C gd_BB_195 (g_k (a := g.1) (n := 141) rfl (by omega)) rfl in_Land t_Land ty_Land rfl gw_142 gw_143 mw_112 gf_Land kd_142 (by decide) (Nat.le_of_ble_eq_true rfl) (Nat.le_of_ble_eq_true rfl) ?_
    refine gq_dup C gd_BB_198 rfl ?_
    refine gq_callN (o := 142) (d := 1) (mc := 15) (ms := 2012) (mL := 1) (as := []) (st := [.ref (ad 142), .int (1), .ref (ad 125), .ref (ad 125), .ref (ad 0)]) C gd_BB_199 (k_Land_142 had (g_k (a := g.1) (n := 142) rfl (by omega))) gw_146 mw_112 (List.mem_of_getElem? (i := 0) rfl) gw_145 rfl ⟨by decide, by decide⟩ gp_0 (Nat.le_of_ble_eq_true rfl) (Nat.le_of_ble_eq_true rfl) (Nat.le_of_ble_eq_true rfl) (Nat.le_of_ble_eq_true rfl) rfl (Nat.le_of_ble_eq_true rfl) ?_
    refine gq_aast (a := 125) (o := 142) (t := 5) (ci := 3) (n := 1) (C0 := "BackBridge$Land") (T := T_Land) (N := 16) C gd_BB_202 rfl (by decide) rfl kd_125 (g_lt (a := g.1) (n := 157) (c := 125) rfl (by omega)) kd_142 (g_lt (a := g.1) (n := 157) (c := 142) rfl (by omega)) (by decide) (by rw [ln_125]; unfold vp_in; decide) ?_
    refine gq_putF (ci := 11) (C0 := R_BB) (T := T_BB) (N := 16) (k := 13) (a := 0) (v := 125) C gd_BB_203 rfl in_BB t_BB ty_BB n_BB rfl (by decide) mw_580 rfl rfl rfl rfl rfl kd_0 rfl (g_lt (a := g.1) (n := 157) (c := 0) rfl (by omega)) ?_
    refine gq_aload C gd_BB_206 rfl 0 rfl ?_
    refine gq_iconst (v := (2)) C gd_BB_207 (by decide) ?_
    refine gx_newq (kk := 158) (t := 4) (N := 2) (C0 := "BackBridge$World") C gd_BB_208 (g_k (a := g.1) (n := 157) rfl (by omega)) gw_275 (C.2.2.2.2.2.2.2.2.2.2.1.1) rfl (by decide) (by decide) (by decide) kd_158 ln_158 (by decide) (Nat.le_of_ble_eq_true rfl) (Nat.le_of_ble_eq_true rfl) (Nat.le_of_ble_eq_true rfl) ?_
    refine gq_dup C gd_BB_211 rfl ?_
    refine gq_iconst (v := (0)) C gd_BB_212 (by decide) ?_
    refine gx_new (kk := 159) (ci := 10) (C0 := R_World) (T := T_World) (N := 6) C gd_BB_213 (g_k (a := g.1) (n := 158) rfl (by omega)) rfl in_World t_World ty_World rfl gw_275 gw_276 mw_114 gf_World kd_159 (by decide) (Nat.le_of_ble_eq_true rfl) (Nat.le_of_ble_eq_true rfl) ?_
    refine gq_dup C gd_BB_216 rfl ?_
    refine gq_callN (o := 159) (d := 0) (mc := 4) (ms := 24) (mL := 1) (as := []) (st := [.ref (ad 159), .int (0), .ref (ad 158), .ref (ad 158), .ref (ad 0)]) C gd_BB_217 (k_World_159 had (g_k (a := g.1) (n := 159) rfl (by omega))) gw_279 mw_114 (List.mem_of_getElem? (i := 1) rfl) gw_278 rfl ⟨by decide, by decide⟩ gp_0 (Nat.le_of_ble_eq_true rfl) (Nat.le_of_ble_eq_true rfl) (Nat.le_of_ble_eq_true rfl) (Nat.le_of_ble_eq_true rfl) rfl (Nat.le_of_ble_eq_true rfl) ?_
    refine gq_aast (a := 158) (o := 159) (t := 4) (ci := 10) (n := 0) (C0 := "BackBridge$World") (T := T_World) (N := 6) C gd_BB_220 rfl (by decide) rfl kd_158 (g_lt (a := g.1) (n := 163) (c := 158) rfl (by omega)) kd_159 (g_lt (a := g.1) (n := 163) (c := 159) rfl (by omega)) (by decide) (by rw [ln_158]; unfold vp_in; decide) ?_
    refine gq_dup C gd_BB_221 rfl ?_
    refine gq_iconst (v := (1)) C gd_BB_222 (by decide) ?_
    refine gx_new (kk := 164) (ci := 10) (C0 := R_World) (T := T_World) (N := 6) C gd_BB_223 (g_k (a := g.1) (n := 163) rfl (by omega)) rfl in_World t_World ty_World rfl gw_275 gw_276 mw_114 gf_World kd_164 (by decide) (Nat.le_of_ble_eq_true rfl) (Nat.le_of_ble_eq_true rfl) ?_
    refine gq_dup C gd_BB_226 rfl ?_
    refine gq_callN (o := 164) (d := 0) (mc := 4) (ms := 24) (mL := 1) (as := []) (st := [.ref (ad 164), .int (1), .ref (ad 158), .ref (ad 158), .ref (ad 0)]) C gd_BB_227 (k_World_164 had (g_k (a := g.1) (n := 164) rfl (by omega))) gw_279 mw_114 (List.mem_of_getElem? (i := 1) rfl) gw_278 rfl ⟨by decide, by decide⟩ gp_0 (Nat.le_of_ble_eq_true rfl) (Nat.le_of_ble_eq_true rfl) (Nat.le_of_ble_eq_true rfl) (Nat.le_of_ble_eq_true rfl) rfl (Nat.le_of_ble_eq_true rfl) ?_
    refine gq_aast (a := 158) (o := 164) (t := 4) (ci := 10) (n := 1) (C0 := "BackBridge$World") (T := T_World) (N := 6) C gd_BB_230 rfl (by decide) rfl kd_158 (g_lt (a := g.1) (n := 168) (c := 158) rfl (by omega)) kd_164 (g_lt (a := g.1) (n := 168) (c := 164) rfl (by omega)) (by decide) (by rw [ln_158]; unfold vp_in; decide) ?_
    refine gq_putF (ci := 11) (C0 := R_BB) (T := T_BB) (N := 16) (k := 14) (a := 0) (v := 158) C gd_BB_231 rfl in_BB t_BB ty_BB n_BB rfl (by decide) mw_581 rfl rfl rfl rfl rfl kd_0 rfl (g_lt (a := g.1) (n := 168) (c := 0) rfl (by omega)) ?_
    exact gq_ret C gd_BB_234 hQ)
def e_Model_169 (g : gS) : gS := (g_r (g_s (g_r (g_s (g_r (g_i (g_i (g_i (g_i (g_s (g_r (g_s (g_r (g_s (g_r (g_s (g_r (g_s (g_r (g_s (g_r (g_s (g_r (g_s (g_r (g_s (g_r (g_s (g_r (g_s (g_i (g_i (g_r (g_s (g_r (g_s (g_r (g_s (g_r (g_s g 1) 169 1 170) 1) 169 2 171) 1) 169 3 172) 1) 169 4 173) 169 14 (-1)) 169 15 (-1)) 1) 169 16 174) 1) 169 17 175) 1) 169 18 176) 1) 169 21 177) 1) 169 22 178) 1) 169 23 179) 1) 169 24 180) 1) 169 26 181) 1) 169 28 182) 1) 169 29 183) 1) 184 0 (-1)) 184 1 (-1)) 184 2 (-1)) 184 3 (-1)) 169 31 184) 1) 169 32 185) 1) 169 33 186)
theorem k_Model_169 {p : Program} {e : Env} {R : Room} {s : State} {m : MethodId} {args : Array Value} {below : List Frame} {meth : Method} {c : Code} {Q : State → Prop} {g : gS} (hg : g.1 = 170) (hRc : 17 ≤ R.cells) (hRs : 940387 ≤ R.slots) (C : g_C D cA ad b p R s m args meth c prog_14_method_3_code "BackBridgeModel" 1 true) (G : g_G l D cA ad b p e R s m args below meth c Q 1 17 940387 171 [(0, .ref (ad 169))] [] (e_Model_169 g)) : g_G l D cA ad b p e R s m args below meth c Q 1 0 0 0 [(0, .ref (ad 169))] [] g := by
  refine gq_aload C gd_Model_0 rfl 0 rfl ?_
  refine gq_oinit C gd_Model_1 gw_1430 gw_140 gw_141 (Nat.le_of_ble_eq_true rfl) ?_
  refine gq_aload C gd_Model_4 rfl 0 rfl ?_
  refine gq_sipush (v := (3828)) C gd_Model_5 (by decide) ?_
  refine gx_newa (kk := 170) (t := 0) (N := 3828) (ty := .int) C gd_Model_8 (g_k (a := g.1) (n := 0) rfl (by omega)) rfl gw_168 rfl (by decide) (fun h => h) rfl (by decide) (by decide) kd_170 ln_170 (by decide) (Nat.le_of_ble_eq_true rfl) (Nat.le_trans (Nat.le_of_ble_eq_true rfl) hRc) (Nat.le_trans (Nat.le_of_ble_eq_true rfl) hRs) ?_
  refine gq_putF (ci := 12) (C0 := R_Model) (T := T_Model) (N := 34) (k := 1) (a := 169) (v := 170) C gd_Model_10 rfl in_Model t_Model ty_Model n_Model rfl (by decide) mw_1437 rfl rfl rfl rfl rfl kd_169 rfl (g_lt (a := g.1) (n := 1) (c := 169) rfl (by omega)) ?_
  refine gq_aload C gd_Model_13 rfl 0 rfl ?_
  refine gq_iconst (v := (2)) C gd_Model_14 (by decide) ?_
  refine gx_newa (kk := 171) (t := 2) (N := 2) (ty := .boolean) C gd_Model_15 (g_k (a := g.1) (n := 1) rfl (by omega)) rfl gw_1539 rfl (by decide) (fun h => h) rfl (by decide) (by decide) kd_171 ln_171 (by decide) (Nat.le_of_ble_eq_true rfl) (Nat.le_trans (Nat.le_of_ble_eq_true rfl) hRc) (Nat.le_trans (Nat.le_of_ble_eq_true rfl) hRs) ?_
  refine gq_putF (ci := 12) (C0 := R_Model) (T := T_Model) (N := 34) (k := 2) (a := 169) (v := 171) C gd_Model_17 rfl in_Model t_Model ty_Model n_Model rfl (by decide) mw_1438 rfl rfl rfl rfl rfl kd_169 rfl (g_lt (a := g.1) (n := 2) (c := 169) rfl (by omega)) ?_
  refine gq_aload C gd_Model_20 rfl 0 rfl ?_
  refine gq_sipush (v := (900)) C gd_Model_21 (by decide) ?_
  refine gx_newa (kk := 172) (t := 0) (N := 900) (ty := .int) C gd_Model_24 (g_k (a := g.1) (n := 2) rfl (by omega)) rfl gw_168 rfl (by decide) (fun h => h) rfl (by decide) (by decide) kd_172 ln_172 (by decide) (Nat.le_of_ble_eq_true rfl) (Nat.le_trans (Nat.le_of_ble_eq_true rfl) hRc) (Nat.le_trans (Nat.le_of_ble_eq_true rfl) hRs) ?_
  refine gq_putF (ci := 12) (C0 := R_Model) (T := T_Model) (N := 34) (k := 3) (a := 169) (v := 172) C gd_Model_26 rfl in_Model t_Model ty_Model n_Model rfl (by decide) mw_1439 rfl rfl rfl rfl rfl kd_169 rfl (g_lt (a := g.1) (n := 3) (c := 169) rfl (by omega)) ?_
  refine gq_aload C gd_Model_29 rfl 0 rfl ?_
  refine gq_sipush (v := (1276)) C gd_Model_30 (by decide) ?_
  refine gx_newa (kk := 173) (t := 0) (N := 1276) (ty := .int) C gd_Model_33 (g_k (a := g.1) (n := 3) rfl (by omega)) rfl gw_168 rfl (by decide) (fun h => h) rfl (by decide) (by decide) kd_173 ln_173 (by decide) (Nat.le_of_ble_eq_true rfl) (Nat.le_trans (Nat.le_of_ble_eq_true rfl) hRc) (Nat.le_trans (Nat.le_of_ble_eq_true rfl) hRs) ?_
  refine gq_putF (ci := 12) (C0 := R_Model) (T := T_Model) (N := 34) (k := 4) (a := 169) (v := 173) C gd_Model_35 rfl in_Model t_Model ty_Model n_Model rfl (by decide) mw_1440 rfl rfl rfl rfl rfl kd_169 rfl (g_lt (a := g.1) (n := 4) (c := 169) rfl (by omega)) ?_
  refine gq_aload C gd_Model_38 rfl 0 rfl ?_
  refine gq_iconst (v := (-1)) C gd_Model_39 (by decide) ?_
  refine gq_puti (ci := 12) (C0 := R_Model) (T := T_Model) (N := 34) (k := 14) (a := 169) (v := (-1)) C gd_Model_40 rfl in_Model t_Model ty_Model n_Model rfl (by decide) mw_1450 rfl rfl kd_169 rfl (g_lt (a := g.1) (n := 4) (c := 169) rfl (by omega)) ?_
  refine gq_aload C gd_Model_43 rfl 0 rfl ?_
  refine gq_iconst (v := (-1)) C gd_Model_44 (by decide) ?_
  refine gq_puti (ci := 12) (C0 := R_Model) (T := T_Model) (N := 34) (k := 15) (a := 169) (v := (-1)) C gd_Model_45 rfl in_Model t_Model ty_Model n_Model rfl (by decide) mw_1451 rfl rfl kd_169 rfl (g_lt (a := g.1) (n := 4) (c := 169) rfl (by omega)) ?_
  refine gq_aload C gd_Model_48 rfl 0 rfl ?_
  refine gq_sipush (v := (900)) C gd_Model_49 (by decide) ?_
  refine gx_newa (kk := 174) (t := 0) (N := 900) (ty := .int) C gd_Model_52 (g_k (a := g.1) (n := 4) rfl (by omega)) rfl gw_168 rfl (by decide) (fun h => h) rfl (by decide) (by decide) kd_174 ln_174 (by decide) (Nat.le_of_ble_eq_true rfl) (Nat.le_trans (Nat.le_of_ble_eq_true rfl) hRc) (Nat.le_trans (Nat.le_of_ble_eq_true rfl) hRs) ?_
  refine gq_putF (ci := 12) (C0 := R_Model) (T := T_Model) (N := 34) (k := 16) (a := 169) (v := 174) C gd_Model_54 rfl in_Model t_Model ty_Model n_Model rfl (by decide) mw_1452 rfl rfl rfl rfl rfl kd_169 rfl (g_lt (a := g.1) (n := 5) (c := 169) rfl (by omega)) ?_
  refine gq_aload C gd_Model_57 rfl 0 rfl ?_
  refine gq_bipush (v := (7)) C gd_Model_58 (by decide) ?_
  refine gx_newa (kk := 175) (t := 0) (N := 7) (ty := .int) C gd_Model_60 (g_k (a := g.1) (n := 5) rfl (by omega)) rfl gw_168 rfl (by decide) (fun h => h) rfl (by decide) (by decide) kd_175 ln_175 (by decide) (Nat.le_of_ble_eq_true rfl) (Nat.le_trans (Nat.le_of_ble_eq_true rfl) hRc) (Nat.le_trans (Nat.le_of_ble_eq_true rfl) hRs) ?_
  refine gq_putF (ci := 12) (C0 := R_Model) (T := T_Model) (N := 34) (k := 17) (a := 169) (v := 175) C gd_Model_62 rfl in_Model t_Model ty_Model n_Model rfl (by decide) mw_1453 rfl rfl rfl rfl rfl kd_169 rfl (g_lt (a := g.1) (n := 6) (c := 169) rfl (by omega)) ?_
  refine gq_aload C gd_Model_65 rfl 0 rfl ?_
  refine gq_bipush (v := (26)) C gd_Model_66 (by decide) ?_
  refine gx_newa (kk := 176) (t := 0) (N := 26) (ty := .int) C gd_Model_68 (g_k (a := g.1) (n := 6) rfl (by omega)) rfl gw_168 rfl (by decide) (fun h => h) rfl (by decide) (by decide) kd_176 ln_176 (by decide) (Nat.le_of_ble_eq_true rfl) (Nat.le_trans (Nat.le_of_ble_eq_true rfl) hRc) (Nat.le_trans (Nat.le_of_ble_eq_true rfl) hRs) ?_
  refine gq_putF (ci := 12) (C0 := R_Model) (T := T_Model) (N := 34) (k := 18) (a := 169) (v := 176) C gd_Model_70 rfl in_Model t_Model ty_Model n_Model rfl (by decide) mw_1454 rfl rfl rfl rfl rfl kd_169 rfl (g_lt (a := g.1) (n := 7) (c := 169) rfl (by omega)) ?_
  refine gq_aload C gd_Model_73 rfl 0 rfl ?_
  refine gq_ldc (v := (61440)) C gd_Model_74 gw_1431 ?_
  refine gx_newa (kk := 177) (t := 0) (N := 61440) (ty := .int) C gd_Model_76 (g_k (a := g.1) (n := 7) rfl (by omega)) rfl gw_168 rfl (by decide) (fun h => h) rfl (by decide) (by decide) kd_177 ln_177 (by decide) (Nat.le_of_ble_eq_true rfl) (Nat.le_trans (Nat.le_of_ble_eq_true rfl) hRc) (Nat.le_trans (Nat.le_of_ble_eq_true rfl) hRs) ?_
  refine gq_putF (ci := 12) (C0 := R_Model) (T := T_Model) (N := 34) (k := 21) (a := 169) (v := 177) C gd_Model_78 rfl in_Model t_Model ty_Model n_Model rfl (by decide) mw_1457 rfl rfl rfl rfl rfl kd_169 rfl (g_lt (a := g.1) (n := 8) (c := 169) rfl (by omega)) ?_
  refine gq_aload C gd_Model_81 rfl 0 rfl ?_
  refine gq_ldc (v := (61440)) C gd_Model_82 gw_1431 ?_
  refine gx_newa (kk := 178) (t := 0) (N := 61440) (ty := .int) C gd_Model_84 (g_k (a := g.1) (n := 8) rfl (by omega)) rfl gw_168 rfl (by decide) (fun h => h) rfl (by decide) (by decide) kd_178 ln_178 (by decide) (Nat.le_of_ble_eq_true rfl) (Nat.le_trans (Nat.le_of_ble_eq_true rfl) hRc) (Nat.le_trans (Nat.le_of_ble_eq_true rfl) hRs) ?_
  refine gq_putF (ci := 12) (C0 := R_Model) (T := T_Model) (N := 34) (k := 22) (a := 169) (v := 178) C gd_Model_86 rfl in_Model t_Model ty_Model n_Model rfl (by decide) mw_1458 rfl rfl rfl rfl rfl kd_169 rfl (g_lt (a := g.1) (n := 9) (c := 169) rfl (by omega)) ?_
  refine gq_aload C gd_Model_89 rfl 0 rfl ?_
  refine gq_ldc (v := (61440)) C gd_Model_90 gw_1431 ?_
  refine gx_newa (kk := 179) (t := 0) (N := 61440) (ty := .int) C gd_Model_92 (g_k (a := g.1) (n := 9) rfl (by omega)) rfl gw_168 rfl (by decide) (fun h => h) rfl (by decide) (by decide) kd_179 ln_179 (by decide) (Nat.le_of_ble_eq_true rfl) (Nat.le_trans (Nat.le_of_ble_eq_true rfl) hRc) (Nat.le_trans (Nat.le_of_ble_eq_true rfl) hRs) ?_
  refine gq_putF (ci := 12) (C0 := R_Model) (T := T_Model) (N := 34) (k := 23) (a := 169) (v := 179) C gd_Model_94 rfl in_Model t_Model ty_Model n_Model rfl (by decide) mw_1459 rfl rfl rfl rfl rfl kd_169 rfl (g_lt (a := g.1) (n := 10) (c := 169) rfl (by omega)) ?_
  refine gq_aload C gd_Model_97 rfl 0 rfl ?_
  refine gq_ldc (v := (737280)) C gd_Model_98 gw_1432 ?_
  refine gx_newa (kk := 180) (t := 0) (N := 737280) (ty := .int) C gd_Model_100 (g_k (a := g.1) (n := 10) rfl (by omega)) rfl gw_168 rfl (by decide) (fun h => h) rfl (by decide) (by decide) kd_180 ln_180 (by decide) (Nat.le_of_ble_eq_true rfl) (Nat.le_trans (Nat.le_of_ble_eq_true rfl) hRc) (Nat.le_trans (Nat.le_of_ble_eq_true rfl) hRs) ?_
  refine gq_putF (ci := 12) (C0 := R_Model) (T := T_Model) (N := 34) (k := 24) (a := 169) (v := 180) C gd_Model_102 rfl in_Model t_Model ty_Model n_Model rfl (by decide) mw_1460 rfl rfl rfl rfl rfl kd_169 rfl (g_lt (a := g.1) (n := 11) (c := 169) rfl (by omega)) ?_
  refine gq_aload C gd_Model_105 rfl 0 rfl ?_
  refine gq_sipush (v := (4000)) C gd_Model_106 (by decide) ?_
  refine gx_newa (kk := 181) (t := 0) (N := 4000) (ty := .int) C gd_Model_109 (g_k (a := g.1) (n := 11) rfl (by omega)) rfl gw_168 rfl (by decide) (fun h => h) rfl (by decide) (by decide) kd_181 ln_181 (by decide) (Nat.le_of_ble_eq_true rfl) (Nat.le_trans (Nat.le_of_ble_eq_true rfl) hRc) (Nat.le_trans (Nat.le_of_ble_eq_true rfl) hRs) ?_
  refine gq_putF (ci := 12) (C0 := R_Model) (T := T_Model) (N := 34) (k := 26) (a := 169) (v := 181) C gd_Model_111 rfl in_Model t_Model ty_Model n_Model rfl (by decide) mw_1462 rfl rfl rfl rfl rfl kd_169 rfl (g_lt (a := g.1) (n := 12) (c := 169) rfl (by omega)) ?_
  refine gq_aload C gd_Model_114 rfl 0 rfl ?_
  refine gq_sipush (v := (3840)) C gd_Model_115 (by decide) ?_
  refine gx_newa (kk := 182) (t := 3) (N := 3840) (ty := .long) C gd_Model_118 (g_k (a := g.1) (n := 12) rfl (by omega)) rfl gw_492 rfl (by decide) (fun h => h) rfl (by decide) (by decide) kd_182 ln_182 (by decide) (Nat.le_of_ble_eq_true rfl) (Nat.le_trans (Nat.le_of_ble_eq_true rfl) hRc) (Nat.le_trans (Nat.le_of_ble_eq_true rfl) hRs) ?_
  refine gq_putF (ci := 12) (C0 := R_Model) (T := T_Model) (N := 34) (k := 28) (a := 169) (v := 182) C gd_Model_120 rfl in_Model t_Model ty_Model n_Model rfl (by decide) mw_1464 rfl rfl rfl rfl rfl kd_169 rfl (g_lt (a := g.1) (n := 13) (c := 169) rfl (by omega)) ?_
  refine gq_aload C gd_Model_123 rfl 0 rfl ?_
  refine gq_sipush (v := (3840)) C gd_Model_124 (by decide) ?_
  refine gx_newa (kk := 183) (t := 3) (N := 3840) (ty := .long) C gd_Model_127 (g_k (a := g.1) (n := 13) rfl (by omega)) rfl gw_492 rfl (by decide) (fun h => h) rfl (by decide) (by decide) kd_183 ln_183 (by decide) (Nat.le_of_ble_eq_true rfl) (Nat.le_trans (Nat.le_of_ble_eq_true rfl) hRc) (Nat.le_trans (Nat.le_of_ble_eq_true rfl) hRs) ?_
  refine gq_putF (ci := 12) (C0 := R_Model) (T := T_Model) (N := 34) (k := 29) (a := 169) (v := 183) C gd_Model_129 rfl in_Model t_Model ty_Model n_Model rfl (by decide) mw_1465 rfl rfl rfl rfl rfl kd_169 rfl (g_lt (a := g.1) (n := 14) (c := 169) rfl (by omega)) ?_
  refine gq_aload C gd_Model_132 rfl 0 rfl ?_
  refine gq_iconst (v := (4)) C gd_Model_133 (by decide) ?_
  refine gx_newa (kk := 184) (t := 0) (N := 4) (ty := .int) C gd_Model_134 (g_k (a := g.1) (n := 14) rfl (by omega)) rfl gw_168 rfl (by decide) (fun h => h) rfl (by decide) (by decide) kd_184 ln_184 (by decide) (Nat.le_of_ble_eq_true rfl) (Nat.le_trans (Nat.le_of_ble_eq_true rfl) hRc) (Nat.le_trans (Nat.le_of_ble_eq_true rfl) hRs) ?_
  refine gq_dup C gd_Model_136 rfl ?_
  refine gq_iconst (v := (0)) C gd_Model_137 (by decide) ?_
  refine gq_iconst (v := (-1)) C gd_Model_138 (by decide) ?_
  refine gq_iast (a := 184) (n := 0) C gd_Model_139 kd_184 (g_lt (a := g.1) (n := 15) (c := 184) rfl (by omega)) (by decide) (by rw [ln_184]; unfold vp_in; decide) ?_
  refine gq_dup C gd_Model_140 rfl ?_
  refine gq_iconst (v := (1)) C gd_Model_141 (by decide) ?_
  refine gq_iconst (v := (-1)) C gd_Model_142 (by decide) ?_
  refine gq_iast (a := 184) (n := 1) C gd_Model_143 kd_184 (g_lt (a := g.1) (n := 15) (c := 184) rfl (by omega)) (by decide) (by rw [ln_184]; unfold vp_in; decide) ?_
  refine gq_dup C gd_Model_144 rfl ?_
  refine gq_iconst (v := (2)) C gd_Model_145 (by decide) ?_
  refine gq_iconst (v := (-1)) C gd_Model_146 (by decide) ?_
  refine gq_iast (a := 184) (n := 2) C gd_Model_147 kd_184 (g_lt (a := g.1) (n := 15) (c := 184) rfl (by omega)) (by decide) (by rw [ln_184]; unfold vp_in; decide) ?_
  refine gq_dup C gd_Model_148 rfl ?_
  refine gq_iconst (v := (3)) C gd_Model_149 (by decide) ?_
  refine gq_iconst (v := (-1)) C gd_Model_150 (by decide) ?_
  refine gq_iast (a := 184) (n := 3) C gd_Model_151 kd_184 (g_lt (a := g.1) (n := 15) (c := 184) rfl (by omega)) (by decide) (by rw [ln_184]; unfold vp_in; decide) ?_
  refine gq_putF (ci := 12) (C0 := R_Model) (T := T_Model) (N := 34) (k := 31) (a := 169) (v := 184) C gd_Model_152 rfl in_Model t_Model ty_Model n_Model rfl (by decide) mw_1467 rfl rfl rfl rfl rfl kd_169 rfl (g_lt (a := g.1) (n := 15) (c := 169) rfl (by omega)) ?_
  refine gq_aload C gd_Model_155 rfl 0 rfl ?_
  refine gq_iconst (v := (4)) C gd_Model_156 (by decide) ?_
  refine gx_newa (kk := 185) (t := 0) (N := 4) (ty := .int) C gd_Model_157 (g_k (a := g.1) (n := 15) rfl (by omega)) rfl gw_168 rfl (by decide) (fun h => h) rfl (by decide) (by decide) kd_185 ln_185 (by decide) (Nat.le_of_ble_eq_true rfl) (Nat.le_trans (Nat.le_of_ble_eq_true rfl) hRc) (Nat.le_trans (Nat.le_of_ble_eq_true rfl) hRs) ?_
  refine gq_putF (ci := 12) (C0 := R_Model) (T := T_Model) (N := 34) (k := 32) (a := 169) (v := 185) C gd_Model_159 rfl in_Model t_Model ty_Model n_Model rfl (by decide) mw_1468 rfl rfl rfl rfl rfl kd_169 rfl (g_lt (a := g.1) (n := 16) (c := 169) rfl (by omega)) ?_
  refine gq_aload C gd_Model_162 rfl 0 rfl ?_
  refine gq_sipush (v := (160)) C gd_Model_163 (by decide) ?_
  refine gx_newa (kk := 186) (t := 3) (N := 160) (ty := .long) C gd_Model_166 (g_k (a := g.1) (n := 16) rfl (by omega)) rfl gw_492 rfl (by decide) (fun h => h) rfl (by decide) (by decide) kd_186 ln_186 (by decide) (Nat.le_of_ble_eq_true rfl) (Nat.le_trans (Nat.le_of_ble_eq_true rfl) hRc) (Nat.le_trans (Nat.le_of_ble_eq_true rfl) hRs) ?_
  refine gq_putF (ci := 12) (C0 := R_Model) (T := T_Model) (N := 34) (k := 33) (a := 169) (v := 186) C gd_Model_168 rfl in_Model t_Model ty_Model n_Model rfl (by decide) mw_1469 rfl rfl rfl rfl rfl kd_169 rfl (g_lt (a := g.1) (n := 17) (c := 169) rfl (by omega)) ?_
  exact G
end KC
