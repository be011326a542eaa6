/-! ===== tokens: the class ===== -/
def sgB (c : Nat) : Int32 := (nI c).toInt8.toInt32
theorem sgB_all : ∀ c, c < 256 → (c < 128 → sgB c = nI c) ∧ (128 ≤ c → sgB c < 0) := by decide +kernel
theorem sg_lt {c d : Nat} (hc : c < 256) (hd : d < 2 ^ 31) : sgB c < nI d ↔ (128 ≤ c ∨ c < d) := by
  have := sgB_all c hc
  by_cases z : c < 128
  · rw [this.1 z, nI_ltI (by omega) hd]; omega
  · have h2 := this.2 (by omega)
    rw [Int32.lt_iff_toInt_lt, show (0 : Int32).toInt = 0 from rfl] at h2
    rw [Int32.lt_iff_toInt_lt, nI_toInt hd]; omega
theorem sg_le {c d : Nat} (hc : c < 256) (hd : d < 2 ^ 31) : sgB c ≤ nI d ↔ (128 ≤ c ∨ c ≤ d) := by
  have := sgB_all c hc
  by_cases z : c < 128
  · rw [this.1 z, nI_leI (by omega) hd]; omega
  · have h2 := this.2 (by omega)
    rw [Int32.lt_iff_toInt_lt, show (0 : Int32).toInt = 0 from rfl] at h2
    rw [Int32.le_iff_toInt_le, nI_toInt hd]; omega
theorem sg_eq {c d : Nat} (hc : c < 256) (hd : d < 128) : sgB c = nI d ↔ c = d := by
  have := sgB_all c hc
  by_cases z : c < 128
  · rw [this.1 z, nI_eq (by omega) (by omega)]
  · have h2 := this.2 (by omega)
    rw [Int32.lt_iff_toInt_lt, show (0 : Int32).toInt = 0 from rfl] at h2
    refine ⟨fun y => ?_, fun y => by omega⟩
    rw [y, nI_toInt (by omega)] at h2
    omega
def cBy (h : sm_H) (b : Nat → Nat) (n : Nat) : Prop := (∀ j, j < n → sm_gi h 1 j = sgB (b j)) ∧ n ≤ 900 ∧ ∀ j, b j < 256
theorem cBy_eqx {S : Nat → Nat → Prop} {h h2 : sm_H} {b : Nat → Nat} {n : Nat} (H : cBy h b n) (E : eqx S h h2) (hS : ∀ c i, S c i → c ≠ 1) : cBy h2 b n := ⟨fun j hj => (E.1 1 j (fun z => hS _ _ z rfl)).trans (H.1 j hj), H.2⟩
section CLX
variable {b : Nat → Nat} {n : Nat} {h : sm_H}
def bit (x : Bool) : Nat := if x = true then 1 else 0
theorem bit_0 {x : Bool} : nI (bit x) = 0 ↔ x = false := by cases x <;> decide
theorem c_bt_loop {i : Nat} {dF sF : Bool} (H : cBy h b n) : ∀ (m j : Nat), j + m = n → xe 1 52 50 [.ref 1, .int (nI n), .int (nI i), .int (nI (bit dF)), .int (nI (bit sF)), .int (nI j)] [] h = some ([.int (nI (whl (fun j => (dF && isDg (b j)) || (sF && isSm (b j))) m j))], h)
  | 0, j, e => by
    have hn := H.2.1
    have : j = n := by omega
    subst this
    rw [b52_50, if_pos (Int32.le_refl _), b52_107]
    rfl
  | m + 1, j, e => by
    have hn := H.2.1
    have hb := H.2.2 j
    have ih := c_bt_loop (i := i) (dF := dF) (sF := sF) H m (j + 1) (by omega)
    rw [whl_s]
    have g1 := H.1 j (by omega)
    have go : ((dF && isDg (b j)) || (sF && isSm (b j))) = true → xe 1 52 101 [.ref 1, .int (nI n), .int (nI i), .int (nI (bit dF)), .int (nI (bit sF)), .int (nI j)] [] h = some ([.int (nI (if ((dF && isDg (b j)) || (sF && isSm (b j))) = true then whl (fun j => (dF && isDg (b j)) || (sF && isSm (b j))) m (j + 1) else j))], h) := fun z => by
      rw [b52_101, nI_add, if_pos z]
      exact ih
    have no : ((dF && isDg (b j)) || (sF && isSm (b j))) ≠ true → xe 1 52 107 [.ref 1, .int (nI n), .int (nI i), .int (nI (bit dF)), .int (nI (bit sF)), .int (nI j)] [] h = some ([.int (nI (if ((dF && isDg (b j)) || (sF && isSm (b j))) = true then whl (fun j => (dF && isDg (b j)) || (sF && isSm (b j))) m (j + 1) else j))], h) := fun z => by
      rw [b52_107, if_neg z]
    have at78 : (dF && isDg (b j)) = false → xe 1 52 78 [.ref 1, .int (nI n), .int (nI i), .int (nI (bit dF)), .int (nI (bit sF)), .int (nI j)] [] h = some ([.int (nI (if ((dF && isDg (b j)) || (sF && isSm (b j))) = true then whl (fun j => (dF && isDg (b j)) || (sF && isSm (b j))) m (j + 1) else j))], h) := fun z => by
      rw [b52_78]
      by_cases s1 : sF = false
      · rw [if_pos (bit_0.mpr s1)]
        exact no (by rw [z, s1, Bool.false_and]; decide)
      · have s2 : sF = true := by cases sF <;> simp_all
        rw [if_neg (fun y => s1 (bit_0.mp y)), b52_83]
        simp (disch := omega) only [in_1, if_true, nI_clamp, g1]
        by_cases y1 : 97 ≤ b j ∧ b j < 128
        · rw [if_neg (by rw [sg_lt hb (by decide)]; omega), b52_92]
          simp (disch := omega) only [in_1, if_true, nI_clamp, g1]
          by_cases y2 : b j ≤ 122
          · rw [if_neg (by rw [Int32.not_lt, sg_le hb (by decide)]; omega)]
            exact go (by rw [s2, isSm_iff.mpr ⟨y1.1, y2⟩, z]; rfl)
          · rw [if_pos (by rw [← Int32.not_le, sg_le hb (by decide)]; omega)]
            exact no (by rw [z, Bool.false_or, s2, Bool.true_and]; exact fun x => by rw [isSm_iff] at x; omega)
        · rw [if_pos (by rw [sg_lt hb (by decide)]; omega)]
          exact no (by rw [z, Bool.false_or, s2, Bool.true_and]; exact fun x => by rw [isSm_iff] at x; omega)
    rw [b52_50, if_neg (by rw [nI_leI (by omega) (by omega)]; omega), b52_56]
    by_cases d1 : dF = false
    · rw [if_pos (bit_0.mpr d1)]
      exact at78 (by rw [d1]; rfl)
    · have d2 : dF = true := by cases dF <;> simp_all
      rw [if_neg (fun y => d1 (bit_0.mp y)), b52_60]
      simp (disch := omega) only [in_1, if_true, nI_clamp, g1]
      by_cases y1 : 48 ≤ b j ∧ b j < 128
      · rw [if_neg (by rw [sg_lt hb (by decide)]; omega), b52_69]
        simp (disch := omega) only [in_1, if_true, nI_clamp, g1]
        by_cases y2 : b j ≤ 57
        · rw [if_pos (by rw [sg_le hb (by decide)]; omega)]
          exact go (by rw [d2, isDg_iff.mpr ⟨y1.1, y2⟩]; rfl)
        · rw [if_neg (by rw [sg_le hb (by decide)]; omega)]
          exact at78 (by rw [d2, Bool.true_and]; exact Bool.eq_false_iff.mpr (fun x => by rw [isDg_iff] at x; omega))
      · rw [if_pos (by rw [sg_lt hb (by decide)]; omega)]
        exact at78 (by rw [d2, Bool.true_and]; exact Bool.eq_false_iff.mpr (fun x => by rw [isDg_iff] at x; omega))
theorem whl_no : ∀ m i, whl (fun _ => false) m i = i
  | 0, _ => rfl
  | _ + 1, _ => rfl
theorem bt_tkE {i : Nat} : whl (fun j => (isDg (b i) && isDg (b j)) || (isSm (b i) && isSm (b j))) (n - (i + 1)) (i + 1) = tkE b n i := by
  unfold tkE
  by_cases s : isSm (b i) = true
  · have d : isDg (b i) = false := Bool.eq_false_iff.mpr (fun x => by rw [isDg_iff] at x; rw [isSm_iff] at s; omega)
    rw [if_pos s]
    congr 1
    funext j
    rw [s, d, Bool.false_and, Bool.true_and, Bool.false_or]
  · have s' : isSm (b i) = false := Bool.eq_false_iff.mpr s
    rw [if_neg s]
    by_cases d : isDg (b i) = true
    · rw [if_pos d]
      congr 1
      funext j
      rw [s', d, Bool.false_and, Bool.true_and, Bool.or_false]
    · have d' : isDg (b i) = false := Bool.eq_false_iff.mpr d
      rw [if_neg d]
      rw [show (fun j => (isDg (b i) && isDg (b j)) || (isSm (b i) && isSm (b j))) = fun _ => false from funext fun j => by rw [s', d', Bool.false_and, Bool.false_and]; rfl]
      exact whl_no _ _
theorem c_behindToken {i : Nat} (H : cBy h b n) (hi : i < n) : xc 52 [.ref 1, .int (nI n), .int (nI i)] h = some ([.int (nI (tkE b n i))], h) := by
  have hn := H.2.1
  have hb := H.2.2 i
  have g1 := H.1 i hi
  have fin := c_bt_loop (i := i) (dF := isDg (b i)) (sF := isSm (b i)) H (n - (i + 1)) (i + 1) (by omega)
  rw [bt_tkE] at fin
  have at43 : ∀ dF sF : Bool, isDg (b i) = dF → isSm (b i) = sF → xe 1 52 43 [.ref 1, .int (nI n), .int (nI i), .int (nI (bit dF)), .null, .null] [.int (nI (bit sF))] h = some ([.int (nI (tkE b n i))], h) := fun dF sF d s => by
    rw [b52_43, nI_add, ← d, ← s]
    exact fin
  have at21 : ∀ dF : Bool, isDg (b i) = dF → xe 1 52 21 [.ref 1, .int (nI n), .int (nI i), .null, .null, .null] [.int (nI (bit dF))] h = some ([.int (nI (tkE b n i))], h) := fun dF d => by
    rw [b52_21]
    simp (disch := omega) only [in_1, if_true, nI_clamp, g1]
    by_cases y1 : 97 ≤ b i ∧ b i < 128
    · rw [if_neg (by rw [sg_lt hb (by decide)]; omega), b52_30]
      simp (disch := omega) only [in_1, if_true, nI_clamp, g1]
      by_cases y2 : b i ≤ 122
      · rw [if_neg (by rw [Int32.not_lt, sg_le hb (by decide)]; omega), b52_38]
        exact at43 dF true d (isSm_iff.mpr ⟨y1.1, y2⟩)
      · rw [if_pos (by rw [← Int32.not_le, sg_le hb (by decide)]; omega), b52_42]
        exact at43 dF false d (Bool.eq_false_iff.mpr (fun x => by rw [isSm_iff] at x; omega))
    · rw [if_pos (by rw [sg_lt hb (by decide)]; omega), b52_42]
      exact at43 dF false d (Bool.eq_false_iff.mpr (fun x => by rw [isSm_iff] at x; omega))
  rw [en_52, b52_0]
  simp (disch := omega) only [in_1, if_true, nI_clamp, g1]
  by_cases y1 : 48 ≤ b i ∧ b i < 128
  · rw [if_neg (by rw [sg_lt hb (by decide)]; omega), b52_8]
    simp (disch := omega) only [in_1, if_true, nI_clamp, g1]
    by_cases y2 : b i ≤ 57
    · rw [if_neg (by rw [Int32.not_lt, sg_le hb (by decide)]; omega), b52_16]
      exact at21 true (isDg_iff.mpr ⟨y1.1, y2⟩)
    · rw [if_pos (by rw [← Int32.not_le, sg_le hb (by decide)]; omega), b52_20]
      exact at21 false (Bool.eq_false_iff.mpr (fun x => by rw [isDg_iff] at x; omega))
  · rw [if_pos (by rw [sg_lt hb (by decide)]; omega), b52_20]
    exact at21 false (Bool.eq_false_iff.mpr (fun x => by rw [isDg_iff] at x; omega))
theorem c_num_loop {i e : Nat} (H : cBy h b n) (hi : i ≤ e) (he : e ≤ n) (dg : ∀ j, i ≤ j → j < e → isDg (b j) = true) : ∀ (m d : Nat), d + m = min 3 (e - i) → xe 1 53 5 [.ref 1, .int (nI i), .int (nI e), .int (nI (nV b i d)), .int (nI (i + d))] [] h = some ([.int (nI (nV b i (min 3 (e - i))))], h)
  | 0, d, q => by
    have hn := H.2.1
    have : d = min 3 (e - i) := by omega
    rw [b53_5]
    by_cases z : e ≤ i + d
    · rw [if_pos (by rw [nI_leI (by omega) (by omega)]; exact z), b53_38, ← this]
    · rw [if_neg (by rw [nI_leI (by omega) (by omega)]; exact z), b53_11, nI_add, if_pos (by rw [nI_leI (by omega) (by omega)]; omega), b53_38, ← this]
  | m + 1, d, q => by
    have hn := H.2.1
    have hd := dg (i + d) (by omega) (by omega)
    have hd' := isDg_iff.mp hd
    have g1 := H.1 (i + d) (by omega)
    rw [(sgB_all _ (by omega)).1 (by omega)] at g1
    have ih := c_num_loop H hi he dg m (d + 1) (by omega)
    have hv := nV_le (b := b) (i := i) d (fun j hj => dg (i + j) (by omega) (by omega))
    have hp : 10 ^ d ≤ 10 ^ 2 := Nat.pow_le_pow_right (by decide) (by omega)
    rw [b53_5, if_neg (by rw [nI_leI (by omega) (by omega)]; omega), b53_11, nI_add, if_neg (by rw [nI_leI (by omega) (by omega)]; omega), b53_19]
    simp (disch := omega) only [in_1, if_true, nI_clamp, g1]
    rw [pk_mul, nI_add, pk_sub (show 48 ≤ nV b i d * 10 + b (i + d) by omega), nI_add, show nV b i d * 10 + b (i + d) - 48 = nV b i (d + 1) by rw [nV_s]; omega]
    exact ih
theorem c_numberIn {i e : Nat} (H : cBy h b n) (hi : i ≤ e) (he : e ≤ n) (dg : ∀ j, i ≤ j → j < e → isDg (b j) = true) : xc 53 [.ref 1, .int (nI i), .int (nI e)] h = some ([.int (nI (nV b i (min 3 (e - i))))], h) := by
  rw [en_53, b53_0]
  exact c_num_loop H hi he dg (min 3 (e - i)) 0 (by omega)
theorem wd_pc : ∀ k, k < 20 → (if (nI (200 + k)).toInt < 200 then 149 else [92, 95, 98, 101, 104, 107, 110, 113, 116, 119, 122, 125, 128, 131, 134, 137, 140, 143, 146].getD ((nI (200 + k)).toInt - 200).toNat 149) = 92 + 3 * k := by decide +kernel
theorem c_word : ∀ k, k < 20 → xc 55 [.int (nI (200 + k))] h = some ([.ref (1000 + k)], h) := fun k hk => by
  rw [en_55, b55_0, wd_pc k hk]
  match k, hk with
  | 0, _ => rw [show 92 + 3 * 0 = 92 from rfl, b55_92]
  | 1, _ => rw [show 92 + 3 * 1 = 95 from rfl, b55_95]
  | 2, _ => rw [show 92 + 3 * 2 = 98 from rfl, b55_98]
  | 3, _ => rw [show 92 + 3 * 3 = 101 from rfl, b55_101]
  | 4, _ => rw [show 92 + 3 * 4 = 104 from rfl, b55_104]
  | 5, _ => rw [show 92 + 3 * 5 = 107 from rfl, b55_107]
  | 6, _ => rw [show 92 + 3 * 6 = 110 from rfl, b55_110]
  | 7, _ => rw [show 92 + 3 * 7 = 113 from rfl, b55_113]
  | 8, _ => rw [show 92 + 3 * 8 = 116 from rfl, b55_116]
  | 9, _ => rw [show 92 + 3 * 9 = 119 from rfl, b55_119]
  | 10, _ => rw [show 92 + 3 * 10 = 122 from rfl, b55_122]
  | 11, _ => rw [show 92 + 3 * 11 = 125 from rfl, b55_125]
  | 12, _ => rw [show 92 + 3 * 12 = 128 from rfl, b55_128]
  | 13, _ => rw [show 92 + 3 * 13 = 131 from rfl, b55_131]
  | 14, _ => rw [show 92 + 3 * 14 = 134 from rfl, b55_134]
  | 15, _ => rw [show 92 + 3 * 15 = 137 from rfl, b55_137]
  | 16, _ => rw [show 92 + 3 * 16 = 140 from rfl, b55_140]
  | 17, _ => rw [show 92 + 3 * 17 = 143 from rfl, b55_143]
  | 18, _ => rw [show 92 + 3 * 18 = 146 from rfl, b55_146]
  | 19, _ => rw [show 92 + 3 * 19 = 149 from rfl, b55_149]
  | k + 20, h => exact absurd h (by omega)
theorem wd_c : ∀ k, k < 20 → (wd k).length ≤ 6 ∧ ∀ j, j < (wd k).length → (wd k).getD j 0 < 128 := by decide +kernel
theorem str_ln : 20 < sm_str.length := by decide +kernel
theorem c_wi_in {i e k : Nat} {c : Int32} (H : cBy h b n) (he : e ≤ n) (hi : i ≤ e) (hk : k < 20) (hl : e - i = (wd k).length) : ∀ (m j : Nat), j + m = (wd k).length → (∀ u, u < j → b (i + u) = (wd k).getD u 0) → ∃ l6, xe 2 54 38 [.ref 1, .int (nI i), .int (nI e), .int c, .ref (1000 + k), .int (nI 1), .int (nI j)] [] h = xe 2 54 82 [.ref 1, .int (nI i), .int (nI e), .int c, .ref (1000 + k), .int (nI (@ite _ (isW b i e k) (Classical.propDecidable _) 1 0)), .int l6] [] h
  | 0, j, q, a => by
    have hn := H.2.1
    have hw := wd_c k hk
    have hs := str_ln
    have : j = (wd k).length := by omega
    have yes : isW b i e k := ⟨hl, fun u hu => a u (by omega)⟩
    refine ⟨nI j, ?_⟩
    rw [b54_38, if_neg (by decide), b54_43 ⟨by omega, by omega⟩, show sm_str.getD (1000 + k - 1000) [] = wd k by rw [Nat.add_sub_cancel_left]; rfl, b54_50, if_pos (by rw [nI_leI (by omega) (by omega)]; omega), if_pos yes]
  | m + 1, j, q, a => by
    have hn := H.2.1
    have hw := wd_c k hk
    have hs := str_ln
    have hj := hw.2 j (by omega)
    have g1 := H.1 (i + j) (by omega)
    have hb := H.2.2 (i + j)
    rw [b54_38, if_neg (by decide), b54_43 ⟨by omega, by omega⟩, show sm_str.getD (1000 + k - 1000) [] = wd k by rw [Nat.add_sub_cancel_left]; rfl, b54_50, if_neg (by rw [nI_leI (by omega) (by omega)]; omega), b54_53 ⟨by omega, by omega⟩, show sm_str.getD (1000 + k - 1000) [] = wd k by rw [Nat.add_sub_cancel_left]; rfl, nI_clamp (by omega), if_pos ⟨nn_le (by omega), by omega⟩, b54_60, nI_add]
    simp (disch := omega) only [in_1, if_true, nI_clamp, g1]
    by_cases z : b (i + j) = (wd k).getD j 0
    · rw [if_pos ((sg_eq hb hj).mpr z).symm, b54_69, b54_74, nI_add]
      refine c_wi_in H he hi hk hl m (j + 1) (by omega) (fun u hu => ?_)
      by_cases y : u = j
      · rw [y]; exact z
      · exact a u (by omega)
    · have no : ¬ isW b i e k := fun y => z (y.2 j (by omega))
      rw [if_neg (fun y => z ((sg_eq hb hj).mp y.symm)), b54_73, b54_74, b54_38, if_pos (show nI 0 = 0 from rfl), if_neg no]
      exact ⟨_, rfl⟩
theorem c_wi_loop {i e : Nat} (H : cBy h b n) (he : e ≤ n) (hi : i ≤ e) : ∀ (m k : Nat) (l4 l5 l6 : Value), k + m = 20 → xe 2 54 4 [.ref 1, .int (nI i), .int (nI e), .int (nI (200 + k)), l4, l5, l6] [] h = some ([.int (nI (fW b i e m k))], h)
  | 0, k, l4, l5, l6, q => by
    have : k = 20 := by omega
    subst this
    rw [b54_4, if_pos (Int32.le_refl _), b54_95]
    rfl
  | m + 1, k, l4, l5, l6, q => by
    have hn := H.2.1
    have hk : k < 20 := by omega
    have hw := wd_c k hk
    have hs := str_ln
    have fin : ∀ l6, xe 2 54 82 [.ref 1, .int (nI i), .int (nI e), .int (nI (200 + k)), .ref (1000 + k), .int (nI (@ite _ (isW b i e k) (Classical.propDecidable _) 1 0)), .int l6] [] h = some ([.int (nI (fW b i e (m + 1) k))], h) := fun l6 => by
      have ih := fun l6 => c_wi_loop H he hi m (k + 1) (.ref (1000 + k)) (.int (nI 0)) (.int l6) (by omega)
      show _ = some ([Value.int (nI (@ite _ (isW b i e k) (Classical.propDecidable _) (200 + k) (fW b i e m (k + 1))))], h)
      rw [b54_82]
      by_cases z : isW b i e k
      · rw [if_pos z, if_pos z, if_neg (by decide), b54_87]
      · rw [if_neg z, if_neg z, if_pos (show nI 0 = 0 from rfl), b54_89, nI_add, show 200 + k + 1 = 200 + (k + 1) by omega]
        exact ih _
    rw [b54_4, if_neg (by rw [nI_leI (by omega) (by omega)]; omega), b54_11, c_word k hk, bnd]
    simp only [app1, List.cons_append, List.nil_append]
    rw [b54_15 ⟨by omega, by omega⟩, show sm_str.getD (1000 + k - 1000) [] = wd k by rw [Nat.add_sub_cancel_left]; rfl, b54_22, pk_sub hi]
    by_cases z : (wd k).length = e - i
    · rw [if_pos (by rw [z]), b54_28, b54_33]
      obtain ⟨l6', e6⟩ := c_wi_in (c := nI (200 + k)) H he hi hk z.symm (wd k).length 0 (by omega) (fun u hu => absurd hu (by omega))
      rw [e6]
      exact fin _
    · have no : ¬ isW b i e k := fun y => z y.1.symm
      have := fin (nI 0)
      rw [if_neg no] at this
      rw [if_neg (by rw [nI_eq (by omega) (by omega)]; exact z), b54_32, b54_33, b54_38, if_pos (show nI 0 = 0 from rfl)]
      exact this
theorem c_wordIn {i e : Nat} (H : cBy h b n) (he : e ≤ n) (hi : i ≤ e) : xc 54 [.ref 1, .int (nI i), .int (nI e)] h = some ([.int (nI (fW b i e 20 0))], h) := by
  rw [en_54, b54_0]
  exact c_wi_loop H he hi 20 0 .null .null .null (by omega)
end CLX
