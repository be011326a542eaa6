/-! ===== isAnswer: the class ===== -/
section CIA
variable {G : LG} {h : sm_H}
theorem c_isAnswer {v : Int64} (hE : cE h G) : xc 1 [.ref 124, .long v] h = some ([.int (@bI (ansO G v) (Classical.propDecidable _))], h) := by
  have hR := hE.1.2.1
  rw [en_1, b1_0]
  by_cases y0 : v < 0
  · have no : ¬ ansO G v := fun ⟨n, hn, e, _⟩ => by
      rw [e, show (0 : Int64) = lN 0 from rfl, l_lt (by omega) (by decide)] at y0
      omega
    rw [if_pos (by rw [lg_cmp_lt]; exact y0), b1_23]
    unfold bI
    rw [if_neg no]
  · obtain ⟨n, hn, rfl⟩ := pos_l y0
    have uniq : ∀ n', n' < 100 * gR G → lN n = lN n' → n' = n := fun n' hn' e => ((l_eq hn (by omega)).mp e).symm
    rw [if_neg (by rw [lg_cmp_lt]; exact y0), b1_6, show sm_gi h 2 2 = nI (gR G) from hE.2.2.1.1.2.1, nI_l (by omega), show (100 : Int64) = lN 100 from rfl, lN_mul]
    by_cases y1 : n < 100 * gR G
    · rw [if_pos (by rw [lg_cmp_lt, l_lt hn (by omega)]; exact y1), b1_25, show (10 : Int64) = lN 10 from rfl, l_rem hn (by decide) (by decide)]
      by_cases y4 : n % 10 < 2
      · rw [if_neg (by rw [lg_cmp_ge, show (2 : Int64) = lN 2 from rfl, l_le (by decide) (by omega)]; omega), b1_37, show (10 : Int64) = lN 10 from rfl, l_div hn (by decide) (by decide), l_rem (by omega) (by decide) (by decide)]
        by_cases y3 : n / 10 % 10 < 2
        · rw [if_neg (by rw [lg_cmp_ge, show (2 : Int64) = lN 2 from rfl, l_le (by decide) (by omega)]; omega), b1_53, show (100 : Int64) = lN 100 from rfl, l_div hn (by decide) (by decide), lN_i, c_isBridge isD2 hE.2.2.1 hE.1 (show n / 100 < gR G by omega), bnd]
          simp only [app1, List.cons_append, List.nil_append]
          rw [b1_66]
          by_cases y2 : gBri G (n / 100) = true
          · have yes : ansO G (lN n) := ⟨n, y1, rfl, y2, y3, y4⟩
            rw [if_neg (by rw [bI_z]; exact fun z => z y2), b1_69, b1_74, if_pos (or01_1.mpr trivial)]
            unfold bI
            rw [if_pos yes]
          · have no : ¬ ansO G (lN n) := fun ⟨n', hn', e, e3, _, _⟩ => y2 (by rw [uniq n' hn' e] at e3; exact e3)
            rw [if_pos (by rw [bI_z]; exact y2), b1_73, b1_74, if_pos (or01_0.mpr trivial)]
            unfold bI
            rw [if_neg no]
        · have no : ¬ ansO G (lN n) := fun ⟨n', hn', e, _, e4, _⟩ => y3 (by rw [uniq n' hn' e] at e4; exact e4)
          rw [if_pos (by rw [lg_cmp_ge, show (2 : Int64) = lN 2 from rfl, l_le (by decide) (by omega)]; omega), b1_73, b1_74, if_pos (or01_0.mpr trivial)]
          unfold bI
          rw [if_neg no]
      · have no : ¬ ansO G (lN n) := fun ⟨n', hn', e, _, _, e5⟩ => y4 (by rw [uniq n' hn' e] at e5; exact e5)
        rw [if_pos (by rw [lg_cmp_ge, show (2 : Int64) = lN 2 from rfl, l_le (by decide) (by omega)]; omega), b1_73, b1_74, if_pos (or01_0.mpr trivial)]
        unfold bI
        rw [if_neg no]
    · have no : ¬ ansO G (lN n) := fun ⟨n', hn', e, _⟩ => by
        have := uniq n' hn' e
        omega
      rw [if_neg (by rw [lg_cmp_lt, l_lt hn (by omega)]; exact y1), b1_23]
      unfold bI
      rw [if_neg no]
end CIA
