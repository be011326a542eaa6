/-! ===== runs of the program, instruction by instruction ===== -/
noncomputable def xe (d y k : Nat) (ls st : List Value) (h : sm_H) : Option sm_R := sm_ev sm_P sm_rk sm_mL d y k ls st h
noncomputable def xc (y : Nat) (as : List Value) (h : sm_H) : Option sm_R := sm_cl sm_P sm_rk sm_mL y as h
def sm_lw (h : sm_H) : Nat := h.2.2
theorem sm_Pk {y k : Nat} {t : List (Nat × sm_I)} {i : sm_I} (hy : sm_tab y = t) (hk : sm_lk t k = some i) : sm_P y k = some i := by unfold sm_P; rw [hy]; exact hk
theorem xif {c : Prop} [Decidable c] {a b : Option sm_R} (h : c → a = b) : (if c then a else none) = (if c then b else none) := by
  by_cases q : c
  · rw [if_pos q, if_pos q]; exact h q
  · rw [if_neg q, if_neg q]
theorem xif2 {c : Prop} [Decidable c] {a b a' b' : Option sm_R} (h : c → a = a') (h2 : ¬ c → b = b') : (if c then a else b) = (if c then a' else b') := by
  by_cases q : c
  · rw [if_pos q, if_pos q]; exact h q
  · rw [if_neg q, if_neg q]; exact h2 q
theorem xifn {c : Prop} [Decidable c] {a b : Option sm_R} (h : ¬ c → a = b) : (if c then none else a) = (if c then none else b) := by
  by_cases q : c
  · rw [if_pos q, if_pos q]
  · rw [if_neg q, if_neg q]; exact h q
section XE
variable {d y k n : Nat} {ls st : List Value} {h : sm_H}
theorem xe_nx {i : sm_I} {k' : Nat} {ls' st' : List Value} {h' : sm_H} (hp : sm_P y k = some i) (hi : i (ls, st, h) = some (.inl (k', ls', st', h'))) : xe d y k ls st h = xe d y k' ls' st' h' := sm_ev_nx sm_P sm_rk sm_mL hp hi
theorem xe_g {i : sm_I} {c : Prop} [Decidable c] {k' : Nat} {ls' st' : List Value} {h' : sm_H} (hp : sm_P y k = some i) (hi : i (ls, st, h) = if c then some (.inl (k', ls', st', h')) else none) : xe d y k ls st h = if c then xe d y k' ls' st' h' else none := by
  by_cases q : c
  · rw [if_pos q]; rw [if_pos q] at hi; exact xe_nx hp hi
  · rw [if_neg q]; rw [if_neg q] at hi; exact sm_ev_no sm_P sm_rk sm_mL hp hi
theorem xe_gn {i : sm_I} {c : Prop} [Decidable c] {k' : Nat} {ls' st' : List Value} {h' : sm_H} (hp : sm_P y k = some i) (hi : i (ls, st, h) = if c then none else some (.inl (k', ls', st', h'))) : xe d y k ls st h = if c then none else xe d y k' ls' st' h' := by
  by_cases q : c
  · rw [if_pos q]; rw [if_pos q] at hi; exact sm_ev_no sm_P sm_rk sm_mL hp hi
  · rw [if_neg q]; rw [if_neg q] at hi; exact xe_nx hp hi
theorem xe_rt {i : sm_I} {r : sm_R} (hp : sm_P y k = some i) (hi : i (ls, st, h) = some (.inr (.inl r))) (hr : r.1.length ≤ 1) : xe d y k ls st h = some r := sm_ev_rt sm_P sm_rk sm_mL hp hi hr
theorem xe_ca {i : sm_I} {y' k' : Nat} {as ls' st' : List Value} {h' : sm_H} (hp : sm_P y k = some i) (hi : i (ls, st, h) = some (.inr (.inr (y', as, k', ls', st', h')))) (hd : sm_rk y' as < d) (hf : sm_fit (sm_mL y') as = true) : xe d y k ls st h = (xc y' as h').bind (fun r => xe d y k' ls' (r.1 ++ st') r.2) := sm_ev_ca sm_P sm_rk sm_mL hp hi ⟨hd, hf⟩
theorem x_push {v : Value} (hp : sm_P y k = some (sm_push v n)) : xe d y k ls st h = xe d y n ls (v :: st) h := xe_nx hp rfl
theorem x_ldi {i : Nat} {x : Int32} (hp : sm_P y k = some (sm_ldi i n)) (hv : ls[i]? = some (.int x)) : xe d y k ls st h = xe d y n ls (.int x :: st) h := xe_nx hp (by simp only [sm_ldi, hv])
theorem x_ldl {i : Nat} {x : Int64} (hp : sm_P y k = some (sm_ldl i n)) (hv : ls[i]? = some (.long x)) : xe d y k ls st h = xe d y n ls (.long x :: st) h := xe_nx hp (by simp only [sm_ldl, hv])
theorem x_lda {i : Nat} {x : Nat} (hp : sm_P y k = some (sm_lda i n)) (hv : ls[i]? = some (.ref x)) : xe d y k ls st h = xe d y n ls (.ref x :: st) h := xe_nx hp (by simp only [sm_lda, hv])
theorem x_sti {i : Nat} {x : Int32} {ls' : List Value} (hp : sm_P y k = some (sm_sti i n)) (hs : sm_s1 ls i (.int x) = some ls') : xe d y k ls (.int x :: st) h = xe d y n ls' st h := xe_nx hp (by simp only [sm_sti, hs, Option.map_some])
theorem x_stl {i : Nat} {x : Int64} {ls' : List Value} (hp : sm_P y k = some (sm_stl i n)) (hs : sm_s2 ls i (.long x) = some ls') : xe d y k ls (.long x :: st) h = xe d y n ls' st h := xe_nx hp (by simp only [sm_stl, hs, Option.map_some])
theorem x_sta {i : Nat} {x : Nat} {ls' : List Value} (hp : sm_P y k = some (sm_sta i n)) (hs : sm_s1 ls i (.ref x) = some ls') : xe d y k ls (.ref x :: st) h = xe d y n ls' st h := xe_nx hp (by simp only [sm_sta, hs, Option.map_some])
theorem x_inc {i : Nat} {c x : Int32} {ls' : List Value} (hp : sm_P y k = some (sm_inc i c n)) (hv : ls[i]? = some (.int x)) (hs : sm_s1 ls i (.int (x + c)) = some ls') : xe d y k ls st h = xe d y n ls' st h := xe_nx hp (by simp only [sm_inc, hv, hs, Option.map_some])
theorem x_bin {g : Int32 → Int32 → Int32} {a b : Int32} (hp : sm_P y k = some (sm_bin g n)) : xe d y k ls (.int b :: .int a :: st) h = xe d y n ls (.int (g a b) :: st) h := xe_nx hp rfl
theorem x_lbin {g : Int64 → Int64 → Int64} {a b : Int64} (hp : sm_P y k = some (sm_lbin g n)) : xe d y k ls (.long b :: .long a :: st) h = xe d y n ls (.long (g a b) :: st) h := xe_nx hp rfl
theorem x_lsh {g : Int64 → Int32 → Int64} {a : Int64} {b : Int32} (hp : sm_P y k = some (sm_lsh g n)) : xe d y k ls (.int b :: .long a :: st) h = xe d y n ls (.long (g a b) :: st) h := xe_nx hp rfl
theorem x_idiv {a b : Int32} (hp : sm_P y k = some (sm_idiv n)) : xe d y k ls (.int b :: .int a :: st) h = if b = 0 then none else xe d y n ls (.int (a / b) :: st) h := xe_gn hp rfl
theorem x_irem {a b : Int32} (hp : sm_P y k = some (sm_irem n)) : xe d y k ls (.int b :: .int a :: st) h = if b = 0 then none else xe d y n ls (.int (a - a / b * b) :: st) h := xe_gn hp rfl
theorem x_ldiv {a b : Int64} (hp : sm_P y k = some (sm_ldiv n)) : xe d y k ls (.long b :: .long a :: st) h = if b = 0 then none else xe d y n ls (.long (a / b) :: st) h := xe_gn hp rfl
theorem x_lrem {a b : Int64} (hp : sm_P y k = some (sm_lrem n)) : xe d y k ls (.long b :: .long a :: st) h = if b = 0 then none else xe d y n ls (.long (a - a / b * b) :: st) h := xe_gn hp rfl
theorem x_ii {g : Int32 → Int32} {a : Int32} (hp : sm_P y k = some (sm_ii g n)) : xe d y k ls (.int a :: st) h = xe d y n ls (.int (g a) :: st) h := xe_nx hp rfl
theorem x_i2l {a : Int32} (hp : sm_P y k = some (sm_i2l n)) : xe d y k ls (.int a :: st) h = xe d y n ls (.long a.toInt64 :: st) h := xe_nx hp rfl
theorem x_l2i {a : Int64} (hp : sm_P y k = some (sm_l2i n)) : xe d y k ls (.long a :: st) h = xe d y n ls (.int a.toInt32 :: st) h := xe_nx hp rfl
theorem x_lcmp {a b : Int64} (hp : sm_P y k = some (sm_lcmp n)) : xe d y k ls (.long b :: .long a :: st) h = xe d y n ls (.int (lg_cmp a b) :: st) h := xe_nx hp rfl
theorem x_dupi {a : Int32} (hp : sm_P y k = some (sm_dup n)) : xe d y k ls (.int a :: st) h = xe d y n ls (.int a :: .int a :: st) h := xe_nx hp rfl
theorem x_dupa {a : Nat} (hp : sm_P y k = some (sm_dup n)) : xe d y k ls (.ref a :: st) h = xe d y n ls (.ref a :: .ref a :: st) h := xe_nx hp rfl
theorem x_dup2 {a : Int32} {b : Nat} (hp : sm_P y k = some (sm_dup2 n)) : xe d y k ls (.int a :: .ref b :: st) h = xe d y n ls (.int a :: .ref b :: .int a :: .ref b :: st) h := xe_nx hp rfl
theorem x_dup2l {a : Int64} (hp : sm_P y k = some (sm_dup2 n)) : xe d y k ls (.long a :: st) h = xe d y n ls (.long a :: .long a :: st) h := xe_nx hp rfl
theorem x_popi {a : Int32} (hp : sm_P y k = some (sm_pop n)) : xe d y k ls (.int a :: st) h = xe d y n ls st h := xe_nx hp rfl
theorem x_popa {a : Nat} (hp : sm_P y k = some (sm_pop n)) : xe d y k ls (.ref a :: st) h = xe d y n ls st h := xe_nx hp rfl
theorem x_if {g : Int32 → Prop} {hg : ∀ x, Decidable (g x)} {t : Nat} {a : Int32} (hp : sm_P y k = some (sm_if (fun x => @decide (g x) (hg x)) t n)) : xe d y k ls (.int a :: st) h = @ite _ (g a) (hg a) (xe d y t ls st h) (xe d y n ls st h) := by
  refine (xe_nx hp rfl).trans ?_
  by_cases q : g a
  · rw [if_pos q, if_pos (decide_eq_true q)]
  · rw [if_neg q, if_neg (fun z => q (of_decide_eq_true z))]
theorem x_ifne {t : Nat} {a : Int32} (hp : sm_P y k = some (sm_if (fun x => decide (¬ x = 0)) t n)) : xe d y k ls (.int a :: st) h = if a = 0 then xe d y n ls st h else xe d y t ls st h := by
  refine (x_if (g := fun x => ¬ x = 0) hp).trans ?_
  by_cases q : a = 0
  · rw [if_pos q, if_neg (fun z => z q)]
  · rw [if_neg q, if_pos q]
theorem x_ic {g : Int32 → Int32 → Prop} {hg : ∀ x y, Decidable (g x y)} {t : Nat} {a b : Int32} (hp : sm_P y k = some (sm_ic (fun x y => @decide (g x y) (hg x y)) t n)) : xe d y k ls (.int b :: .int a :: st) h = @ite _ (g a b) (hg a b) (xe d y t ls st h) (xe d y n ls st h) := by
  refine (xe_nx hp rfl).trans ?_
  by_cases q : g a b
  · rw [if_pos q, if_pos (decide_eq_true q)]
  · rw [if_neg q, if_neg (fun z => q (of_decide_eq_true z))]
theorem x_icne {t : Nat} {a b : Int32} (hp : sm_P y k = some (sm_ic (fun x y => decide (¬ x = y)) t n)) : xe d y k ls (.int b :: .int a :: st) h = if a = b then xe d y n ls st h else xe d y t ls st h := by
  refine (x_ic (g := fun x y => ¬ x = y) hp).trans ?_
  by_cases q : a = b
  · rw [if_pos q, if_neg (fun z => z q)]
  · rw [if_neg q, if_pos q]
theorem x_go (hp : sm_P y k = some (sm_go n)) : xe d y k ls st h = xe d y n ls st h := xe_nx hp rfl
theorem x_gfi {ci i a : Nat} (hp : sm_P y k = some (sm_gfi ci i n)) (hk : sm_kd a = 10 + ci) : xe d y k ls (.ref a :: st) h = xe d y n ls (.int (sm_gi h a i) :: st) h := (xe_g hp rfl).trans (if_pos hk)
theorem x_gfl {ci i a : Nat} (hp : sm_P y k = some (sm_gfl ci i n)) (hk : sm_kd a = 10 + ci) : xe d y k ls (.ref a :: st) h = xe d y n ls (.long (sm_gl h a i) :: st) h := (xe_g hp rfl).trans (if_pos hk)
theorem x_gfr {ci i a b : Nat} (hp : sm_P y k = some (sm_gfr ci i n)) (hk : sm_kd a = 10 + ci) (hr : sm_rf a i = b) : xe d y k ls (.ref a :: st) h = xe d y n ls (.ref b :: st) h := by
  rw [← hr]
  exact (xe_g hp rfl).trans (if_pos hk)
theorem x_gfw {ci i a : Nat} (hp : sm_P y k = some (sm_gfw ci i n)) (hk : sm_kd a = 10 + ci) : xe d y k ls (.ref a :: st) h = xe d y n ls (.ref (sm_lw h) :: st) h := (xe_g hp rfl).trans (if_pos hk)
theorem x_pfi {ci i a : Nat} {x : Int32} (hp : sm_P y k = some (sm_pfi ci i n)) (hk : sm_kd a = 10 + ci) : xe d y k ls (.int x :: .ref a :: st) h = xe d y n ls st (sm_si h a i x) := (xe_g hp rfl).trans (if_pos hk)
theorem x_pfl {ci i a : Nat} {x : Int64} (hp : sm_P y k = some (sm_pfl ci i n)) (hk : sm_kd a = 10 + ci) : xe d y k ls (.long x :: .ref a :: st) h = xe d y n ls st (sm_sl h a i x) := (xe_g hp rfl).trans (if_pos hk)
theorem x_pfw {ci i a x : Nat} (hp : sm_P y k = some (sm_pfw ci i n)) (hk : sm_kd a = 10 + ci) (hx : sm_kd x = 10 + sm_lawC) : xe d y k ls (.ref x :: .ref a :: st) h = xe d y n ls st (sm_sw h x) := (xe_g hp rfl).trans (if_pos ⟨hk, hx⟩)
theorem x_and {p q : Prop} [Decidable p] [Decidable q] {a b : Option sm_R} (hp : p) : (if p ∧ q then a else b) = if q then a else b := by
  by_cases z : q
  · rw [if_pos ⟨hp, z⟩, if_pos z]
  · rw [if_neg (fun w => z w.2), if_neg z]
theorem x_al {t a : Nat} {i : Int32} (hp : sm_P y k = some (sm_al t n)) (hk : sm_kd a = t) : xe d y k ls (.int i :: .ref a :: st) h = if sm_in a i then xe d y n ls (.int (sm_gi h a i.toNatClampNeg) :: st) h else none := (xe_g hp rfl).trans (x_and hk)
theorem x_all {a : Nat} {i : Int32} (hp : sm_P y k = some (sm_all n)) (hk : sm_kd a = 3) : xe d y k ls (.int i :: .ref a :: st) h = if sm_in a i then xe d y n ls (.long (sm_gl h a i.toNatClampNeg) :: st) h else none := (xe_g hp rfl).trans (x_and hk)
theorem x_ala {a : Nat} {i : Int32} (hp : sm_P y k = some (sm_ala n)) (hk : 4 ≤ sm_kd a ∧ sm_kd a < 7) : xe d y k ls (.int i :: .ref a :: st) h = if sm_in a i then xe d y n ls (.ref (sm_rf a i.toNatClampNeg) :: st) h else none := (xe_g hp rfl).trans (x_and hk)
theorem x_as {t a : Nat} {g : Int32 → Int32} {i x : Int32} (hp : sm_P y k = some (sm_as t g n)) (hk : sm_kd a = t) : xe d y k ls (.int x :: .int i :: .ref a :: st) h = if sm_in a i then xe d y n ls st (sm_si h a i.toNatClampNeg (g x)) else none := (xe_g hp rfl).trans (x_and hk)
theorem x_asl {a : Nat} {i : Int32} {x : Int64} (hp : sm_P y k = some (sm_asl n)) (hk : sm_kd a = 3) : xe d y k ls (.long x :: .int i :: .ref a :: st) h = if sm_in a i then xe d y n ls st (sm_sl h a i.toNatClampNeg x) else none := (xe_g hp rfl).trans (x_and hk)
theorem x_len {a : Nat} (hp : sm_P y k = some (sm_len n)) (hk : sm_kd a < 7) : xe d y k ls (.ref a :: st) h = xe d y n ls (.int (nI (sm_ln a)) :: st) h := (xe_g hp rfl).trans (if_pos hk)
theorem x_r0 (hp : sm_P y k = some sm_r0) : xe d y k ls [] h = some ([], h) := xe_rt hp rfl (by simp)
theorem x_ri {x : Int32} (hp : sm_P y k = some sm_ri) : xe d y k ls [.int x] h = some ([.int x], h) := xe_rt hp rfl (by simp)
theorem x_rl {x : Int64} (hp : sm_P y k = some sm_rl) : xe d y k ls [.long x] h = some ([.long x], h) := xe_rt hp rfl (by simp)
theorem x_ra {x : Nat} (hp : sm_P y k = some sm_ra) : xe d y k ls [.ref x] h = some ([.ref x], h) := xe_rt hp rfl (by simp)
theorem x_rz {x : Int32} (hp : sm_P y k = some sm_rz) : xe d y k ls [.int x] h = if x = 0 ∨ x = 1 then some ([.int x], h) else none := by
  by_cases q : x = 0 ∨ x = 1
  · rw [if_pos q]
    exact xe_rt hp (by simp only [sm_rz, if_pos q]) (by simp)
  · rw [if_neg q]
    exact sm_ev_no sm_P sm_rk sm_mL hp (by simp only [sm_rz, if_neg q])
theorem x_ts {lo : Int} {tg : List Nat} {df : Nat} {x : Int32} (hp : sm_P y k = some (sm_ts lo tg df)) : xe d y k ls (.int x :: st) h = xe d y (if x.toInt < lo then df else tg.getD (x.toInt - lo).toNat df) ls st h := xe_nx hp rfl
theorem x_acp {a b : Nat} {sp dp c : Int32} (hp : sm_P y k = some (sm_acp n)) (hk : sm_kd a = 0 ∧ sm_kd b = 0 ∧ st.length ≤ 4) : xe d y k ls (.int c :: .int dp :: .ref b :: .int sp :: .ref a :: st) h = if 0 ≤ sp ∧ 0 ≤ dp ∧ 0 ≤ c ∧ sp.toNatClampNeg + c.toNatClampNeg ≤ sm_ln a ∧ dp.toNatClampNeg + c.toNatClampNeg ≤ sm_ln b then xe d y n ls st (sm_cp h a sp.toNatClampNeg b dp.toNatClampNeg c.toNatClampNeg) else none := (xe_g hp rfl).trans (x_and hk)
theorem x_slen {a : Nat} (hp : sm_P y k = some (sm_slen n)) (hk : 1000 ≤ a ∧ a < 1000 + sm_str.length ∧ st.length ≤ 4) : xe d y k ls (.ref a :: st) h = xe d y n ls (.int (nI (sm_str.getD (a - 1000) []).length) :: st) h := (xe_g hp rfl).trans (if_pos hk)
theorem x_schr {a : Nat} {i : Int32} (hp : sm_P y k = some (sm_schr n)) (hk : 1000 ≤ a ∧ a < 1000 + sm_str.length ∧ st.length ≤ 4) : xe d y k ls (.int i :: .ref a :: st) h = if 0 ≤ i ∧ i.toNatClampNeg < (sm_str.getD (a - 1000) []).length then xe d y n ls (.int (nI ((sm_str.getD (a - 1000) []).getD i.toNatClampNeg 0)) :: st) h else none := (xe_g hp rfl).trans (x_and hk)
theorem x_sidx {a : Nat} {x : Int32} (hp : sm_P y k = some (sm_sidx n)) (hk : 1000 ≤ a ∧ a < 1000 + sm_str.length ∧ st.length ≤ 4) : xe d y k ls (.int x :: .ref a :: st) h = if 0 ≤ x ∧ x.toNatClampNeg < 256 then xe d y n ls (.int (sm_fidx x.toNatClampNeg (sm_str.getD (a - 1000) []) 0) :: st) h else none := (xe_g hp rfl).trans (x_and hk)
theorem x_sv {y' na : Nat} {as st' : List Value} (hp : sm_P y k = some (sm_sv y' na n)) (hl : na ≤ st.length ∧ sm_wd (st.drop na) ≤ 8) (ha : (st.take na).reverse = as) (hs : st.drop na = st') (hd : sm_rk y' as < d) (hf : sm_fit (sm_mL y') as = true) : xe d y k ls st h = (xc y' as h).bind (fun r => xe d y n ls (r.1 ++ st') r.2) := by
  subst ha; subst hs
  exact xe_ca hp (by simp only [sm_sv, if_pos hl]) hd hf
theorem x_iv {y' ci na a : Nat} {as st' : List Value} (hp : sm_P y k = some (sm_iv y' ci na n)) (hr : st[na]? = some (.ref a)) (hk : sm_kd a = 10 + ci) (hl : sm_wd (st.drop (na + 1)) ≤ 8) (ha : (st.take (na + 1)).reverse = as) (hs : st.drop (na + 1) = st') (hd : sm_rk y' as < d) (hf : sm_fit (sm_mL y') as = true) : xe d y k ls st h = (xc y' as h).bind (fun r => xe d y n ls (r.1 ++ st') r.2) := by
  subst ha; subst hs
  exact xe_ca hp (by simp only [sm_iv, hr, if_pos (And.intro hk hl)]) hd hf
end XE
