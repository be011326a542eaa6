/-! ===== worlds, lands, laws: where their cells lie; the tables by number (written by program) ===== -/
def sm_isW (w : Nat) : Prop := sm_kd w = 10 + 10
theorem sm_isW.kd {w : Nat} (h : sm_isW w) : sm_kd w = 10 + 10 := h
theorem sm_isW.rf0 {w : Nat} (h : sm_isW w) : sm_rf w 0 = w + 1 := (by decide +kernel : ∀ w, w < sm_NC → sm_kd w = 10 + 10 → sm_rf w 0 = w + 1) w (sm_kd_lt (by rw [h.kd]; decide)) h
theorem sm_isW.rf1 {w : Nat} (h : sm_isW w) : sm_rf w 1 = w + 2 := (by decide +kernel : ∀ w, w < sm_NC → sm_kd w = 10 + 10 → sm_rf w 1 = w + 2) w (sm_kd_lt (by rw [h.kd]; decide)) h
theorem sm_isW.rf2 {w : Nat} (h : sm_isW w) : sm_rf w 2 = w + 3 := (by decide +kernel : ∀ w, w < sm_NC → sm_kd w = 10 + 10 → sm_rf w 2 = w + 3) w (sm_kd_lt (by rw [h.kd]; decide)) h
theorem sm_isW.rf3 {w : Nat} (h : sm_isW w) : sm_rf w 3 = w + 4 := (by decide +kernel : ∀ w, w < sm_NC → sm_kd w = 10 + 10 → sm_rf w 3 = w + 4) w (sm_kd_lt (by rw [h.kd]; decide)) h
theorem sm_isW.kd1 {w : Nat} (h : sm_isW w) : sm_kd (w + 1) = 0 := (by decide +kernel : ∀ w, w < sm_NC → sm_kd w = 10 + 10 → sm_kd (w + 1) = 0) w (sm_kd_lt (by rw [h.kd]; decide)) h
theorem sm_isW.kd2 {w : Nat} (h : sm_isW w) : sm_kd (w + 2) = 0 := (by decide +kernel : ∀ w, w < sm_NC → sm_kd w = 10 + 10 → sm_kd (w + 2) = 0) w (sm_kd_lt (by rw [h.kd]; decide)) h
theorem sm_isW.kd3 {w : Nat} (h : sm_isW w) : sm_kd (w + 3) = 0 := (by decide +kernel : ∀ w, w < sm_NC → sm_kd w = 10 + 10 → sm_kd (w + 3) = 0) w (sm_kd_lt (by rw [h.kd]; decide)) h
theorem sm_isW.kd4 {w : Nat} (h : sm_isW w) : sm_kd (w + 4) = 0 := (by decide +kernel : ∀ w, w < sm_NC → sm_kd w = 10 + 10 → sm_kd (w + 4) = 0) w (sm_kd_lt (by rw [h.kd]; decide)) h
theorem sm_isW.ln1 {w : Nat} (h : sm_isW w) : sm_ln (w + 1) = 6 := (by decide +kernel : ∀ w, w < sm_NC → sm_kd w = 10 + 10 → sm_ln (w + 1) = 6) w (sm_kd_lt (by rw [h.kd]; decide)) h
theorem sm_isW.ln2 {w : Nat} (h : sm_isW w) : sm_ln (w + 2) = 6 := (by decide +kernel : ∀ w, w < sm_NC → sm_kd w = 10 + 10 → sm_ln (w + 2) = 6) w (sm_kd_lt (by rw [h.kd]; decide)) h
theorem sm_isW.ln3 {w : Nat} (h : sm_isW w) : sm_ln (w + 3) = 6 := (by decide +kernel : ∀ w, w < sm_NC → sm_kd w = 10 + 10 → sm_ln (w + 3) = 6) w (sm_kd_lt (by rw [h.kd]; decide)) h
theorem sm_isW.ln4 {w : Nat} (h : sm_isW w) : sm_ln (w + 4) = 6 := (by decide +kernel : ∀ w, w < sm_NC → sm_kd w = 10 + 10 → sm_ln (w + 4) = 6) w (sm_kd_lt (by rw [h.kd]; decide)) h
def sm_isD (w : Nat) : Prop := sm_kd w = 10 + 3
theorem sm_isD.kd {w : Nat} (h : sm_isD w) : sm_kd w = 10 + 3 := h
theorem sm_isD.rf5 {w : Nat} (h : sm_isD w) : sm_rf w 5 = w + 1 := (by decide +kernel : ∀ w, w < sm_NC → sm_kd w = 10 + 3 → sm_rf w 5 = w + 1) w (sm_kd_lt (by rw [h.kd]; decide)) h
theorem sm_isD.rf6 {w : Nat} (h : sm_isD w) : sm_rf w 6 = w + 2 := (by decide +kernel : ∀ w, w < sm_NC → sm_kd w = 10 + 3 → sm_rf w 6 = w + 2) w (sm_kd_lt (by rw [h.kd]; decide)) h
theorem sm_isD.rf7 {w : Nat} (h : sm_isD w) : sm_rf w 7 = w + 3 := (by decide +kernel : ∀ w, w < sm_NC → sm_kd w = 10 + 3 → sm_rf w 7 = w + 3) w (sm_kd_lt (by rw [h.kd]; decide)) h
theorem sm_isD.rf8 {w : Nat} (h : sm_isD w) : sm_rf w 8 = w + 4 := (by decide +kernel : ∀ w, w < sm_NC → sm_kd w = 10 + 3 → sm_rf w 8 = w + 4) w (sm_kd_lt (by rw [h.kd]; decide)) h
theorem sm_isD.rf9 {w : Nat} (h : sm_isD w) : sm_rf w 9 = w + 5 := (by decide +kernel : ∀ w, w < sm_NC → sm_kd w = 10 + 3 → sm_rf w 9 = w + 5) w (sm_kd_lt (by rw [h.kd]; decide)) h
theorem sm_isD.rf10 {w : Nat} (h : sm_isD w) : sm_rf w 10 = w + 6 := (by decide +kernel : ∀ w, w < sm_NC → sm_kd w = 10 + 3 → sm_rf w 10 = w + 6) w (sm_kd_lt (by rw [h.kd]; decide)) h
theorem sm_isD.rf11 {w : Nat} (h : sm_isD w) : sm_rf w 11 = w + 7 := (by decide +kernel : ∀ w, w < sm_NC → sm_kd w = 10 + 3 → sm_rf w 11 = w + 7) w (sm_kd_lt (by rw [h.kd]; decide)) h
theorem sm_isD.rf12 {w : Nat} (h : sm_isD w) : sm_rf w 12 = w + 8 := (by decide +kernel : ∀ w, w < sm_NC → sm_kd w = 10 + 3 → sm_rf w 12 = w + 8) w (sm_kd_lt (by rw [h.kd]; decide)) h
theorem sm_isD.rf13 {w : Nat} (h : sm_isD w) : sm_rf w 13 = w + 9 := (by decide +kernel : ∀ w, w < sm_NC → sm_kd w = 10 + 3 → sm_rf w 13 = w + 9) w (sm_kd_lt (by rw [h.kd]; decide)) h
theorem sm_isD.rf14 {w : Nat} (h : sm_isD w) : sm_rf w 14 = w + 10 := (by decide +kernel : ∀ w, w < sm_NC → sm_kd w = 10 + 3 → sm_rf w 14 = w + 10) w (sm_kd_lt (by rw [h.kd]; decide)) h
theorem sm_isD.rf15 {w : Nat} (h : sm_isD w) : sm_rf w 15 = w + 13 := (by decide +kernel : ∀ w, w < sm_NC → sm_kd w = 10 + 3 → sm_rf w 15 = w + 13) w (sm_kd_lt (by rw [h.kd]; decide)) h
theorem sm_isD.kd1 {w : Nat} (h : sm_isD w) : sm_kd (w + 1) = 0 := (by decide +kernel : ∀ w, w < sm_NC → sm_kd w = 10 + 3 → sm_kd (w + 1) = 0) w (sm_kd_lt (by rw [h.kd]; decide)) h
theorem sm_isD.kd2 {w : Nat} (h : sm_isD w) : sm_kd (w + 2) = 0 := (by decide +kernel : ∀ w, w < sm_NC → sm_kd w = 10 + 3 → sm_kd (w + 2) = 0) w (sm_kd_lt (by rw [h.kd]; decide)) h
theorem sm_isD.kd3 {w : Nat} (h : sm_isD w) : sm_kd (w + 3) = 0 := (by decide +kernel : ∀ w, w < sm_NC → sm_kd w = 10 + 3 → sm_kd (w + 3) = 0) w (sm_kd_lt (by rw [h.kd]; decide)) h
theorem sm_isD.kd4 {w : Nat} (h : sm_isD w) : sm_kd (w + 4) = 0 := (by decide +kernel : ∀ w, w < sm_NC → sm_kd w = 10 + 3 → sm_kd (w + 4) = 0) w (sm_kd_lt (by rw [h.kd]; decide)) h
theorem sm_isD.kd5 {w : Nat} (h : sm_isD w) : sm_kd (w + 5) = 0 := (by decide +kernel : ∀ w, w < sm_NC → sm_kd w = 10 + 3 → sm_kd (w + 5) = 0) w (sm_kd_lt (by rw [h.kd]; decide)) h
theorem sm_isD.kd6 {w : Nat} (h : sm_isD w) : sm_kd (w + 6) = 0 := (by decide +kernel : ∀ w, w < sm_NC → sm_kd w = 10 + 3 → sm_kd (w + 6) = 0) w (sm_kd_lt (by rw [h.kd]; decide)) h
theorem sm_isD.kd7 {w : Nat} (h : sm_isD w) : sm_kd (w + 7) = 0 := (by decide +kernel : ∀ w, w < sm_NC → sm_kd w = 10 + 3 → sm_kd (w + 7) = 0) w (sm_kd_lt (by rw [h.kd]; decide)) h
theorem sm_isD.kd8 {w : Nat} (h : sm_isD w) : sm_kd (w + 8) = 0 := (by decide +kernel : ∀ w, w < sm_NC → sm_kd w = 10 + 3 → sm_kd (w + 8) = 0) w (sm_kd_lt (by rw [h.kd]; decide)) h
theorem sm_isD.kd9 {w : Nat} (h : sm_isD w) : sm_kd (w + 9) = 0 := (by decide +kernel : ∀ w, w < sm_NC → sm_kd w = 10 + 3 → sm_kd (w + 9) = 0) w (sm_kd_lt (by rw [h.kd]; decide)) h
theorem sm_isD.ln1 {w : Nat} (h : sm_isD w) : sm_ln (w + 1) = 12 := (by decide +kernel : ∀ w, w < sm_NC → sm_kd w = 10 + 3 → sm_ln (w + 1) = 12) w (sm_kd_lt (by rw [h.kd]; decide)) h
theorem sm_isD.ln2 {w : Nat} (h : sm_isD w) : sm_ln (w + 2) = 12 := (by decide +kernel : ∀ w, w < sm_NC → sm_kd w = 10 + 3 → sm_ln (w + 2) = 12) w (sm_kd_lt (by rw [h.kd]; decide)) h
theorem sm_isD.ln3 {w : Nat} (h : sm_isD w) : sm_ln (w + 3) = 12 := (by decide +kernel : ∀ w, w < sm_NC → sm_kd w = 10 + 3 → sm_ln (w + 3) = 12) w (sm_kd_lt (by rw [h.kd]; decide)) h
theorem sm_isD.ln4 {w : Nat} (h : sm_isD w) : sm_ln (w + 4) = 12 := (by decide +kernel : ∀ w, w < sm_NC → sm_kd w = 10 + 3 → sm_ln (w + 4) = 12) w (sm_kd_lt (by rw [h.kd]; decide)) h
theorem sm_isD.ln5 {w : Nat} (h : sm_isD w) : sm_ln (w + 5) = 6 := (by decide +kernel : ∀ w, w < sm_NC → sm_kd w = 10 + 3 → sm_ln (w + 5) = 6) w (sm_kd_lt (by rw [h.kd]; decide)) h
theorem sm_isD.ln6 {w : Nat} (h : sm_isD w) : sm_ln (w + 6) = 6 := (by decide +kernel : ∀ w, w < sm_NC → sm_kd w = 10 + 3 → sm_ln (w + 6) = 6) w (sm_kd_lt (by rw [h.kd]; decide)) h
theorem sm_isD.ln7 {w : Nat} (h : sm_isD w) : sm_ln (w + 7) = 6 := (by decide +kernel : ∀ w, w < sm_NC → sm_kd w = 10 + 3 → sm_ln (w + 7) = 6) w (sm_kd_lt (by rw [h.kd]; decide)) h
theorem sm_isD.ln8 {w : Nat} (h : sm_isD w) : sm_ln (w + 8) = 6 := (by decide +kernel : ∀ w, w < sm_NC → sm_kd w = 10 + 3 → sm_ln (w + 8) = 6) w (sm_kd_lt (by rw [h.kd]; decide)) h
theorem sm_isD.ln9 {w : Nat} (h : sm_isD w) : sm_ln (w + 9) = 6 := (by decide +kernel : ∀ w, w < sm_NC → sm_kd w = 10 + 3 → sm_ln (w + 9) = 6) w (sm_kd_lt (by rw [h.kd]; decide)) h
theorem sm_isD.q10 {w : Nat} (h : sm_isD w) : sm_kd (w + 10) = 10 + 4 := (by decide +kernel : ∀ w, w < sm_NC → sm_kd w = 10 + 3 → sm_kd (w + 10) = 10 + 4) w (sm_kd_lt (by rw [h.kd]; decide)) h
theorem sm_isD.q13 {w : Nat} (h : sm_isD w) : sm_kd (w + 13) = 10 + 4 := (by decide +kernel : ∀ w, w < sm_NC → sm_kd w = 10 + 3 → sm_kd (w + 13) = 10 + 4) w (sm_kd_lt (by rw [h.kd]; decide)) h
def sm_isQ (w : Nat) : Prop := sm_kd w = 10 + 4
theorem sm_isQ.kd {w : Nat} (h : sm_isQ w) : sm_kd w = 10 + 4 := h
theorem sm_isQ.rf0 {w : Nat} (h : sm_isQ w) : sm_rf w 0 = w + 1 := (by decide +kernel : ∀ w, w < sm_NC → sm_kd w = 10 + 4 → sm_rf w 0 = w + 1) w (sm_kd_lt (by rw [h.kd]; decide)) h
theorem sm_isQ.rf1 {w : Nat} (h : sm_isQ w) : sm_rf w 1 = w + 2 := (by decide +kernel : ∀ w, w < sm_NC → sm_kd w = 10 + 4 → sm_rf w 1 = w + 2) w (sm_kd_lt (by rw [h.kd]; decide)) h
theorem sm_isQ.kd1 {w : Nat} (h : sm_isQ w) : sm_kd (w + 1) = 0 := (by decide +kernel : ∀ w, w < sm_NC → sm_kd w = 10 + 4 → sm_kd (w + 1) = 0) w (sm_kd_lt (by rw [h.kd]; decide)) h
theorem sm_isQ.kd2 {w : Nat} (h : sm_isQ w) : sm_kd (w + 2) = 0 := (by decide +kernel : ∀ w, w < sm_NC → sm_kd w = 10 + 4 → sm_kd (w + 2) = 0) w (sm_kd_lt (by rw [h.kd]; decide)) h
theorem sm_isQ.ln1 {w : Nat} (h : sm_isQ w) : sm_ln (w + 1) = 900 := (by decide +kernel : ∀ w, w < sm_NC → sm_kd w = 10 + 4 → sm_ln (w + 1) = 900) w (sm_kd_lt (by rw [h.kd]; decide)) h
theorem sm_isQ.ln2 {w : Nat} (h : sm_isQ w) : sm_ln (w + 2) = 64 := (by decide +kernel : ∀ w, w < sm_NC → sm_kd w = 10 + 4 → sm_ln (w + 2) = 64) w (sm_kd_lt (by rw [h.kd]; decide)) h
def sm_lk2 : List (Nat × sm_I) → Nat → Option sm_I
  | [], _ => none
  | q :: r, k => match Nat.beq q.1 k with
    | true => some q.2
    | false => sm_lk2 r k
theorem sm_lk2_eq : ∀ (l : List (Nat × sm_I)) (k : Nat), sm_lk2 l k = sm_lk l k
  | [], _ => rfl
  | q :: r, k => by
    unfold sm_lk2 sm_lk
    cases hb : Nat.beq q.1 k with
    | true => rw [if_pos (Nat.eq_of_beq_eq_true hb)]
    | false => rw [if_neg (Nat.ne_of_beq_eq_false hb)]; exact sm_lk2_eq r k
theorem sm_Pk2 {y k : Nat} {t : List (Nat × sm_I)} {i : sm_I} (hy : sm_tab y = t) (hk : sm_lk2 t k = some i) : sm_P y k = some i := by unfold sm_P; rw [hy, ← sm_lk2_eq]; exact hk
theorem rkl {a b c : Nat} (h : a = b) (h2 : b < c) : a < c := h ▸ h2

theorem rk_0 (as : List Value) : sm_rk 0 as = 5 := rfl
theorem rk_1 (as : List Value) : sm_rk 1 as = 2 := rfl
theorem rk_2 (as : List Value) : sm_rk 2 as = 1 := rfl
theorem rk_3 (as : List Value) : sm_rk 3 as = 4 := rfl
theorem rk_4 (as : List Value) : sm_rk 4 as = 1 := rfl
theorem rk_5 (as : List Value) : sm_rk 5 as = 5 := rfl
theorem rk_6 (as : List Value) : sm_rk 6 as = 7 := rfl
theorem rk_7 (as : List Value) : sm_rk 7 as = 8 := rfl
theorem rk_8 (as : List Value) : sm_rk 8 as = 7 := rfl
theorem rk_9 (as : List Value) : sm_rk 9 as = 8 := rfl
theorem rk_10 (as : List Value) : sm_rk 10 as = 1 := rfl
theorem rk_11 (as : List Value) : sm_rk 11 as = 2 := rfl
theorem rk_12 (as : List Value) : sm_rk 12 as = 7 := rfl
theorem rk_13 (as : List Value) : sm_rk 13 as = 8 := rfl
theorem rk_14 (as : List Value) : sm_rk 14 as = 8 := rfl
theorem rk_15 (as : List Value) : sm_rk 15 as = 7 := rfl
theorem rk_16 (as : List Value) : sm_rk 16 as = 8 := rfl
theorem rk_17 (as : List Value) : sm_rk 17 as = 4 := rfl
theorem rk_18 (as : List Value) : sm_rk 18 as = 1 := rfl
theorem rk_19 (as : List Value) : sm_rk 19 as = 5 := rfl
theorem rk_20 (as : List Value) : sm_rk 20 as = 4 := rfl
theorem rk_21 (as : List Value) : sm_rk 21 as = 5 := rfl
theorem rk_22 (as : List Value) : sm_rk 22 as = 2 := rfl
theorem rk_23 (as : List Value) : sm_rk 23 as = 2 := rfl
theorem rk_24 (as : List Value) : sm_rk 24 as = 2 := rfl
theorem rk_25 (as : List Value) : sm_rk 25 as = 1 := rfl
theorem rk_26 (as : List Value) : sm_rk 26 as = 6 := rfl
theorem rk_27 (as : List Value) : sm_rk 27 as = 7 := rfl
theorem rk_28 (as : List Value) : sm_rk 28 as = 2 := rfl
theorem rk_29 (as : List Value) : sm_rk 29 as = 3 := rfl
theorem rk_30 (as : List Value) : sm_rk 30 as = 7 := rfl
theorem rk_31 (as : List Value) : sm_rk 31 as = 1 := rfl
theorem rk_32 (as : List Value) : sm_rk 32 as = 2 := rfl
theorem rk_33 (as : List Value) : sm_rk 33 as = 1 := rfl
theorem rk_34 (as : List Value) : sm_rk 34 as = 1 := rfl
theorem rk_35 (as : List Value) : sm_rk 35 as = 1 := rfl
theorem rk_36 (as : List Value) : sm_rk 36 as = 1 := rfl
theorem rk_37 (as : List Value) : sm_rk 37 as = 2 := rfl
theorem rk_38 (as : List Value) : sm_rk 38 as = 1 := rfl
theorem rk_39 (as : List Value) : sm_rk 39 as = 1 := rfl
theorem rk_40 (as : List Value) : sm_rk 40 as = 1 := rfl
theorem rk_41 (as : List Value) : sm_rk 41 as = 1 := rfl
theorem rk_42 (as : List Value) : sm_rk 42 as = 2 := rfl
theorem rk_43 (as : List Value) : sm_rk 43 as = 2 := rfl
theorem rk_44 (as : List Value) : sm_rk 44 as = 3 := rfl
theorem rk_45 (as : List Value) : sm_rk 45 as = 3 := rfl
theorem rk_46 (as : List Value) : sm_rk 46 as = 2 := rfl
theorem rk_47 (as : List Value) : sm_rk 47 as = 1 := rfl
theorem rk_48 (as : List Value) : sm_rk 48 as = 2 := rfl
theorem rk_49 (as : List Value) : sm_rk 49 as = 2 := rfl
theorem rk_50 (as : List Value) : sm_rk 50 as = 77 := rfl
theorem rk_51 (as : List Value) : sm_rk 51 as = 3 := rfl
theorem rk_52 (as : List Value) : sm_rk 52 as = 1 := rfl
theorem rk_53 (as : List Value) : sm_rk 53 as = 1 := rfl
theorem rk_54 (as : List Value) : sm_rk 54 as = 2 := rfl
theorem rk_55 (as : List Value) : sm_rk 55 as = 1 := rfl
theorem rk_56 (as : List Value) : sm_rk 56 as = 1 := rfl
theorem rk_57 (as : List Value) : sm_rk 57 as = 1 := rfl
theorem rk_58 (as : List Value) : sm_rk 58 as = 2 := rfl
theorem rk_59 (as : List Value) : sm_rk 59 as = 2 := rfl
theorem rk_60 (as : List Value) : sm_rk 60 as = 76 := rfl
theorem rk_61 (as : List Value) : sm_rk 61 as = 3 := rfl
theorem rk_62 (as : List Value) : sm_rk 62 as = 2 := rfl
theorem rk_63 (as : List Value) : sm_rk 63 as = 4 := rfl
theorem rk_64 (as : List Value) : sm_rk 64 as = 3 := rfl
theorem rk_65 (as : List Value) : sm_rk 65 as = 2 := rfl
theorem rk_68 (as : List Value) : sm_rk 68 as = 1 := rfl
theorem rk_71 (as : List Value) : sm_rk 71 as = 1 := rfl
theorem rk_72 (as : List Value) : sm_rk 72 as = 1 := rfl
theorem rk_73 (as : List Value) : sm_rk 73 as = 6 := rfl
theorem rk_74 (as : List Value) : sm_rk 74 as = 1 := rfl
theorem rk_75 (as : List Value) : sm_rk 75 as = 1 := rfl
theorem rk_76 (as : List Value) : sm_rk 76 as = 5 := rfl
theorem rk_77 (as : List Value) : sm_rk 77 as = 4 := rfl
theorem rk_78 (as : List Value) : sm_rk 78 as = 2 := rfl
theorem rk_79 (as : List Value) : sm_rk 79 as = 1 := rfl
theorem rk_80 (as : List Value) : sm_rk 80 as = 2 := rfl
theorem rk_81 (as : List Value) : sm_rk 81 as = 2 := rfl
theorem rk_82 (as : List Value) : sm_rk 82 as = 1 := rfl
theorem rk_83 (as : List Value) : sm_rk 83 as = 1 := rfl
theorem rk_84 (as : List Value) : sm_rk 84 as = 1 := rfl
theorem rk_85 (as : List Value) : sm_rk 85 as = 1 := rfl
theorem rk_86 (as : List Value) : sm_rk 86 as = 2 := rfl
theorem rk_87 (as : List Value) : sm_rk 87 as = 2 := rfl
theorem rk_88 (as : List Value) : sm_rk 88 as = 1 := rfl
theorem rk_89 (as : List Value) : sm_rk 89 as = 1 := rfl
theorem rk_90 (as : List Value) : sm_rk 90 as = 3 := rfl
theorem rk_91 (as : List Value) : sm_rk 91 as = 7 := rfl
theorem rk_92 (as : List Value) : sm_rk 92 as = 6 := rfl
theorem rk_93 (as : List Value) : sm_rk 93 as = 5 := rfl
theorem rk_94 (as : List Value) : sm_rk 94 as = 1 := rfl
theorem rk_95 (as : List Value) : sm_rk 95 as = 1 := rfl
theorem rk_96 (as : List Value) : sm_rk 96 as = 2 := rfl
theorem rk_97 (as : List Value) : sm_rk 97 as = 1 := rfl
theorem rk_98 (as : List Value) : sm_rk 98 as = 2 := rfl
theorem rk_99 (as : List Value) : sm_rk 99 as = 1 := rfl
theorem rk_100 (as : List Value) : sm_rk 100 as = 1 := rfl
theorem rk_101 (as : List Value) : sm_rk 101 as = 2 := rfl
theorem rk_102 (as : List Value) : sm_rk 102 as = 1 := rfl
theorem rk_103 (as : List Value) : sm_rk 103 as = 78 := rfl
theorem rk_104 (as : List Value) : sm_rk 104 as = 1 := rfl
theorem rk_105 (as : List Value) : sm_rk 105 as = 2 := rfl
theorem rk_106 (as : List Value) : sm_rk 106 as = 2 := rfl
theorem rk_107 (as : List Value) : sm_rk 107 as = 5 := rfl
theorem rk_108 (as : List Value) : sm_rk 108 as = 4 := rfl
theorem rk_109 (as : List Value) : sm_rk 109 as = 6 := rfl
theorem rk_110 (as : List Value) : sm_rk 110 as = 3 := rfl
theorem rk_111 (as : List Value) : sm_rk 111 as = 3 := rfl
theorem rk_112 (as : List Value) : sm_rk 112 as = 3 := rfl
theorem rk_113 (as : List Value) : sm_rk 113 as = 3 := rfl
theorem rk_114 (as : List Value) : sm_rk 114 as = 3 := rfl
theorem rk_115 (as : List Value) : sm_rk 115 as = 8 := rfl
theorem rk_116 (as : List Value) : sm_rk 116 as = 8 := rfl
theorem rk_117 (as : List Value) : sm_rk 117 as = 8 := rfl
theorem rk_118 (as : List Value) : sm_rk 118 as = 8 := rfl
theorem rk_119 (as : List Value) : sm_rk 119 as = 8 := rfl
theorem rk_120 (as : List Value) : sm_rk 120 as = 8 := rfl
theorem rk_121 (as : List Value) : sm_rk 121 as = 8 := rfl
theorem rk_122 (as : List Value) : sm_rk 122 as = 7 := rfl
theorem rk_123 (as : List Value) : sm_rk 123 as = 9 := rfl
theorem rk_124 (as : List Value) : sm_rk 124 as = 8 := rfl
theorem rk_125 (as : List Value) : sm_rk 125 as = 9 := rfl
theorem rk_126 (as : List Value) : sm_rk 126 as = 8 := rfl
theorem rk_127 (as : List Value) : sm_rk 127 as = 8 := rfl
theorem rk_128 (as : List Value) : sm_rk 128 as = 9 := rfl
theorem rk_129 (as : List Value) : sm_rk 129 as = 9 := rfl
theorem rk_130 (as : List Value) : sm_rk 130 as = 8 := rfl
theorem rk_131 (as : List Value) : sm_rk 131 as = 8 := rfl
theorem rk_132 (as : List Value) : sm_rk 132 as = 8 := rfl
theorem rk_133 (as : List Value) : sm_rk 133 as = 8 := rfl
theorem rk_134 (as : List Value) : sm_rk 134 as = 9 := rfl
theorem rk_135 (as : List Value) : sm_rk 135 as = 9 := rfl
theorem rk_136 (as : List Value) : sm_rk 136 as = 6 := rfl
theorem rk_137 (as : List Value) : sm_rk 137 as = 6 := rfl
theorem rk_138 (as : List Value) : sm_rk 138 as = 6 := rfl
theorem rk_139 (as : List Value) : sm_rk 139 as = 8 := rfl
theorem rk_140 (as : List Value) : sm_rk 140 as = 8 := rfl
theorem rk_141 (as : List Value) : sm_rk 141 as = 3 := rfl
theorem rk_142 (as : List Value) : sm_rk 142 as = 2 := rfl
theorem rk_143 (as : List Value) : sm_rk 143 as = 8 := rfl
theorem rk_144 (as : List Value) : sm_rk 144 as = 3 := rfl
theorem rk_145 (as : List Value) : sm_rk 145 as = 3 := rfl
theorem rk_146 (as : List Value) : sm_rk 146 as = 2 := rfl
theorem rk_147 (as : List Value) : sm_rk 147 as = 1 := rfl
theorem rk_148 (as : List Value) : sm_rk 148 as = 1 := rfl
theorem rk_149 (as : List Value) : sm_rk 149 as = 1 := rfl
theorem rk_150 (as : List Value) : sm_rk 150 as = 1 := rfl
theorem rk_151 (as : List Value) : sm_rk 151 as = 1 := rfl
theorem rk_152 (as : List Value) : sm_rk 152 as = 1 := rfl
theorem rk_153 (as : List Value) : sm_rk 153 as = 1 := rfl
theorem rk_154 (as : List Value) : sm_rk 154 as = 2 := rfl
theorem rk_155 (as : List Value) : sm_rk 155 as = 1 := rfl
theorem rk_156 (as : List Value) : sm_rk 156 as = 1 := rfl
theorem rk_157 (as : List Value) : sm_rk 157 as = 3 := rfl
theorem rk_158 (as : List Value) : sm_rk 158 as = 3 := rfl
theorem rk_159 (as : List Value) : sm_rk 159 as = 1 := rfl
theorem rk_160 (as : List Value) : sm_rk 160 as = 1 := rfl
theorem rk_161 (as : List Value) : sm_rk 161 as = 1 := rfl
theorem rk_162 (as : List Value) : sm_rk 162 as = 3 := rfl
theorem rk_169 (as : List Value) : sm_rk 169 as = 1 := rfl
theorem rk_170 (as : List Value) : sm_rk 170 as = 4 := rfl
theorem rk_171 (as : List Value) : sm_rk 171 as = 4 := rfl
theorem rk_172 (as : List Value) : sm_rk 172 as = 5 := rfl
theorem rk_173 (as : List Value) : sm_rk 173 as = 80 := rfl
theorem rk_174 (as : List Value) : sm_rk 174 as = 81 := rfl
theorem rk_175 (as : List Value) : sm_rk 175 as = 4 := rfl
theorem rk_176 (as : List Value) : sm_rk 176 as = 82 := rfl
theorem rk_177 (as : List Value) : sm_rk 177 as = 1 := rfl
theorem rk_178 (as : List Value) : sm_rk 178 as = 2 := rfl
theorem rk_179 (as : List Value) : sm_rk 179 as = 2 := rfl
theorem rk_180 (as : List Value) : sm_rk 180 as = 2 := rfl
theorem rk_181 (as : List Value) : sm_rk 181 as = 3 := rfl
theorem rk_182 (as : List Value) : sm_rk 182 as = 1 := rfl
theorem rk_183 (as : List Value) : sm_rk 183 as = 1 := rfl
theorem rk_184 (as : List Value) : sm_rk 184 as = 1 := rfl
theorem rk_185 (as : List Value) : sm_rk 185 as = 1 := rfl
theorem rk_186 (as : List Value) : sm_rk 186 as = 1 := rfl
theorem rk_187 (as : List Value) : sm_rk 187 as = 2 := rfl
theorem rk_188 (as : List Value) : sm_rk 188 as = 3 := rfl
theorem rk_189 (as : List Value) : sm_rk 189 as = 3 := rfl
theorem rk_190 (as : List Value) : sm_rk 190 as = 4 := rfl
theorem rk_191 (as : List Value) : sm_rk 191 as = 5 := rfl
theorem rk_192 (as : List Value) : sm_rk 192 as = 4 := rfl
theorem rk_193 (as : List Value) : sm_rk 193 as = 3 := rfl
theorem rk_194 (as : List Value) : sm_rk 194 as = 3 := rfl
theorem rk_195 (as : List Value) : sm_rk 195 as = 6 := rfl
theorem rk_196 (as : List Value) : sm_rk 196 as = 5 := rfl
theorem rk_197 (as : List Value) : sm_rk 197 as = 1 := rfl
theorem rk_198 (as : List Value) : sm_rk 198 as = 1 := rfl
theorem rk_199 (as : List Value) : sm_rk 199 as = 1 := rfl
theorem rk_200 (as : List Value) : sm_rk 200 as = 5 := rfl
theorem rk_201 (as : List Value) : sm_rk 201 as = 4 := rfl
theorem rk_202 (as : List Value) : sm_rk 202 as = 1 := rfl
theorem rk_203 (as : List Value) : sm_rk 203 as = 3 := rfl
theorem rk_204 (as : List Value) : sm_rk 204 as = 1 := rfl
theorem rk_205 (as : List Value) : sm_rk 205 as = 1 := rfl
theorem rk_206 (as : List Value) : sm_rk 206 as = 6 := rfl
theorem rk_207 (as : List Value) : sm_rk 207 as = 5 := rfl
theorem rk_208 (as : List Value) : sm_rk 208 as = 4 := rfl
theorem rk_209 (as : List Value) : sm_rk 209 as = 3 := rfl
theorem rk_210 (as : List Value) : sm_rk 210 as = 2 := rfl
theorem rk_211 (as : List Value) : sm_rk 211 as = 2 := rfl
theorem rk_212 (as : List Value) : sm_rk 212 as = 6 := rfl
theorem rk_213 (as : List Value) : sm_rk 213 as = 6 := rfl
theorem rk_214 (as : List Value) : sm_rk 214 as = 7 := rfl
theorem rk_215 (as : List Value) : sm_rk 215 as = 2 := rfl
theorem rk_216 (as : List Value) : sm_rk 216 as = 1 := rfl
theorem rk_217 (as : List Value) : sm_rk 217 as = 8 := rfl
theorem rk_218 (as : List Value) : sm_rk 218 as = 8 := rfl
theorem rk_219 (as : List Value) : sm_rk 219 as = 1 := rfl
theorem rk_220 (as : List Value) : sm_rk 220 as = 2 := rfl
theorem rk_221 (as : List Value) : sm_rk 221 as = 7 := rfl
theorem rk_222 (as : List Value) : sm_rk 222 as = 1 := rfl
theorem rk_223 (as : List Value) : sm_rk 223 as = 1 := rfl
theorem rk_224 (as : List Value) : sm_rk 224 as = 1 := rfl
theorem rk_225 (as : List Value) : sm_rk 225 as = 5 := rfl
theorem rk_226 (as : List Value) : sm_rk 226 as = 1 := rfl
theorem rk_227 (as : List Value) : sm_rk 227 as = 2 := rfl
theorem rk_228 (as : List Value) : sm_rk 228 as = 3 := rfl
theorem rk_229 (as : List Value) : sm_rk 229 as = 2 := rfl
theorem rk_230 (as : List Value) : sm_rk 230 as = 1 := rfl
theorem rk_231 (as : List Value) : sm_rk 231 as = 4 := rfl
theorem rk_232 (as : List Value) : sm_rk 232 as = 6 := rfl
theorem rk_233 (as : List Value) : sm_rk 233 as = 7 := rfl
theorem rk_234 (as : List Value) : sm_rk 234 as = 4 := rfl
theorem rk_235 (as : List Value) : sm_rk 235 as = 8 := rfl
theorem rk_236 (as : List Value) : sm_rk 236 as = 3 := rfl
theorem rk_237 (as : List Value) : sm_rk 237 as = 8 := rfl
theorem rk_238 (as : List Value) : sm_rk 238 as = 9 := rfl
theorem rk_239 (as : List Value) : sm_rk 239 as = 9 := rfl
theorem rk_240 (as : List Value) : sm_rk 240 as = 6 := rfl
theorem rk_241 (as : List Value) : sm_rk 241 as = 6 := rfl
theorem rk_242 (as : List Value) : sm_rk 242 as = 8 := rfl
theorem rk_243 (as : List Value) : sm_rk 243 as = 7 := rfl
theorem rk_244 (as : List Value) : sm_rk 244 as = 8 := rfl
theorem rk_245 (as : List Value) : sm_rk 245 as = 1 := rfl
theorem rk_246 (as : List Value) : sm_rk 246 as = 7 := rfl
theorem rk_247 (as : List Value) : sm_rk 247 as = 8 := rfl
theorem rk_248 (as : List Value) : sm_rk 248 as = 9 := rfl
theorem rk_249 (as : List Value) : sm_rk 249 as = 8 := rfl
theorem rk_250 (as : List Value) : sm_rk 250 as = 8 := rfl
theorem rk_251 (as : List Value) : sm_rk 251 as = 9 := rfl
theorem rk_252 (as : List Value) : sm_rk 252 as = 6 := rfl
theorem rk_253 (as : List Value) : sm_rk 253 as = 7 := rfl
theorem rk_254 (as : List Value) : sm_rk 254 as = 7 := rfl
theorem rk_255 (as : List Value) : sm_rk 255 as = 6 := rfl
theorem rk_256 (as : List Value) : sm_rk 256 as = 6 := rfl
theorem rk_257 (as : List Value) : sm_rk 257 as = 8 := rfl
theorem rk_258 (as : List Value) : sm_rk 258 as = 9 := rfl
theorem rk_259 (as : List Value) : sm_rk 259 as = 9 := rfl
theorem rk_260 (as : List Value) : sm_rk 260 as = 3 := rfl
theorem rk_261 (as : List Value) : sm_rk 261 as = 4 := rfl
theorem rk_262 (as : List Value) : sm_rk 262 as = 5 := rfl
theorem rk_263 (as : List Value) : sm_rk 263 as = 6 := rfl
theorem rk_264 (as : List Value) : sm_rk 264 as = 6 := rfl
theorem rk_265 (as : List Value) : sm_rk 265 as = 6 := rfl
theorem rk_266 (as : List Value) : sm_rk 266 as = 1 := rfl
theorem rk_268 (as : List Value) : sm_rk 268 as = 2 := rfl
theorem rk_269 (as : List Value) : sm_rk 269 as = 301 := rfl
theorem rk_270 (as : List Value) : sm_rk 270 as = 9 := rfl
theorem rk_271 (as : List Value) : sm_rk 271 as = 1 := rfl
theorem rk_272 (as : List Value) : sm_rk 272 as = 2 := rfl
theorem rk_273 (as : List Value) : sm_rk 273 as = 3 := rfl
theorem rk_274 (as : List Value) : sm_rk 274 as = 9 := rfl
theorem rk_275 (as : List Value) : sm_rk 275 as = 2 := rfl
theorem rk_276 (as : List Value) : sm_rk 276 as = 2 := rfl
theorem rk_277 (as : List Value) : sm_rk 277 as = 1 := rfl
theorem rk_278 (as : List Value) : sm_rk 278 as = 2 := rfl
theorem rk_279 (as : List Value) : sm_rk 279 as = 3 := rfl
theorem rk_280 (as : List Value) : sm_rk 280 as = 1 := rfl
theorem rk_281 (as : List Value) : sm_rk 281 as = 1 := rfl
theorem rk_282 (as : List Value) : sm_rk 282 as = 1 := rfl
theorem rk_283 (as : List Value) : sm_rk 283 as = 1 := rfl
theorem rk_284 (as : List Value) : sm_rk 284 as = 1 := rfl
theorem rk_285 (as : List Value) : sm_rk 285 as = 1 := rfl
theorem rk_286 (as : List Value) : sm_rk 286 as = 1 := rfl
theorem rk_287 (as : List Value) : sm_rk 287 as = 1 := rfl
theorem tb_0 : sm_tab 0 = pt_0 := rfl
theorem tb_1 : sm_tab 1 = pt_1 := rfl
theorem tb_2 : sm_tab 2 = pt_2 := rfl
theorem tb_3 : sm_tab 3 = pt_3 := rfl
theorem tb_4 : sm_tab 4 = pt_4 := rfl
theorem tb_5 : sm_tab 5 = pt_5 := rfl
theorem tb_6 : sm_tab 6 = pt_6 := rfl
theorem tb_7 : sm_tab 7 = pt_7 := rfl
theorem tb_8 : sm_tab 8 = pt_8 := rfl
theorem tb_9 : sm_tab 9 = pt_9 := rfl
theorem tb_10 : sm_tab 10 = pt_10 := rfl
theorem tb_11 : sm_tab 11 = pt_11 := rfl
theorem tb_12 : sm_tab 12 = pt_12 := rfl
theorem tb_13 : sm_tab 13 = pt_13 := rfl
theorem tb_14 : sm_tab 14 = pt_14 := rfl
theorem tb_15 : sm_tab 15 = pt_15 := rfl
theorem tb_16 : sm_tab 16 = pt_16 := rfl
theorem tb_17 : sm_tab 17 = pt_17 := rfl
theorem tb_18 : sm_tab 18 = pt_18 := rfl
theorem tb_19 : sm_tab 19 = pt_19 := rfl
theorem tb_20 : sm_tab 20 = pt_20 := rfl
theorem tb_21 : sm_tab 21 = pt_21 := rfl
theorem tb_22 : sm_tab 22 = pt_22 := rfl
theorem tb_23 : sm_tab 23 = pt_23 := rfl
theorem tb_24 : sm_tab 24 = pt_24 := rfl
theorem tb_25 : sm_tab 25 = pt_25 := rfl
theorem tb_26 : sm_tab 26 = pt_26 := rfl
theorem tb_27 : sm_tab 27 = pt_27 := rfl
theorem tb_28 : sm_tab 28 = pt_28 := rfl
theorem tb_29 : sm_tab 29 = pt_29 := rfl
theorem tb_30 : sm_tab 30 = pt_30 := rfl
theorem tb_31 : sm_tab 31 = pt_31 := rfl
theorem tb_32 : sm_tab 32 = pt_32 := rfl
theorem tb_33 : sm_tab 33 = pt_33 := rfl
theorem tb_34 : sm_tab 34 = pt_34 := rfl
theorem tb_35 : sm_tab 35 = pt_35 := rfl
theorem tb_36 : sm_tab 36 = pt_36 := rfl
theorem tb_37 : sm_tab 37 = pt_37 := rfl
theorem tb_38 : sm_tab 38 = pt_38 := rfl
theorem tb_39 : sm_tab 39 = pt_39 := rfl
theorem tb_40 : sm_tab 40 = pt_40 := rfl
theorem tb_41 : sm_tab 41 = pt_41 := rfl
theorem tb_42 : sm_tab 42 = pt_42 := rfl
theorem tb_43 : sm_tab 43 = pt_43 := rfl
theorem tb_44 : sm_tab 44 = pt_44 := rfl
theorem tb_45 : sm_tab 45 = pt_45 := rfl
theorem tb_46 : sm_tab 46 = pt_46 := rfl
theorem tb_47 : sm_tab 47 = pt_47 := rfl
theorem tb_48 : sm_tab 48 = pt_48 := rfl
theorem tb_49 : sm_tab 49 = pt_49 := rfl
theorem tb_50 : sm_tab 50 = pt_50 := rfl
theorem tb_51 : sm_tab 51 = pt_51 := rfl
theorem tb_52 : sm_tab 52 = pt_52 := rfl
theorem tb_53 : sm_tab 53 = pt_53 := rfl
theorem tb_54 : sm_tab 54 = pt_54 := rfl
theorem tb_55 : sm_tab 55 = pt_55 := rfl
theorem tb_56 : sm_tab 56 = pt_56 := rfl
theorem tb_57 : sm_tab 57 = pt_57 := rfl
theorem tb_58 : sm_tab 58 = pt_58 := rfl
theorem tb_59 : sm_tab 59 = pt_59 := rfl
theorem tb_60 : sm_tab 60 = pt_60 := rfl
theorem tb_61 : sm_tab 61 = pt_61 := rfl
theorem tb_62 : sm_tab 62 = pt_62 := rfl
theorem tb_63 : sm_tab 63 = pt_63 := rfl
theorem tb_64 : sm_tab 64 = pt_64 := rfl
theorem tb_65 : sm_tab 65 = pt_65 := rfl
theorem tb_66 : sm_tab 66 = pt_66 := rfl
theorem tb_67 : sm_tab 67 = pt_67 := rfl
theorem tb_68 : sm_tab 68 = pt_68 := rfl
theorem tb_69 : sm_tab 69 = pt_69 := rfl
theorem tb_70 : sm_tab 70 = pt_70 := rfl
theorem tb_71 : sm_tab 71 = pt_71 := rfl
theorem tb_72 : sm_tab 72 = pt_72 := rfl
theorem tb_73 : sm_tab 73 = pt_73 := rfl
theorem tb_74 : sm_tab 74 = pt_74 := rfl
theorem tb_75 : sm_tab 75 = pt_75 := rfl
theorem tb_76 : sm_tab 76 = pt_76 := rfl
theorem tb_77 : sm_tab 77 = pt_77 := rfl
theorem tb_78 : sm_tab 78 = pt_78 := rfl
theorem tb_79 : sm_tab 79 = pt_79 := rfl
theorem tb_80 : sm_tab 80 = pt_80 := rfl
theorem tb_81 : sm_tab 81 = pt_81 := rfl
theorem tb_82 : sm_tab 82 = pt_82 := rfl
theorem tb_83 : sm_tab 83 = pt_83 := rfl
theorem tb_84 : sm_tab 84 = pt_84 := rfl
theorem tb_85 : sm_tab 85 = pt_85 := rfl
theorem tb_86 : sm_tab 86 = pt_86 := rfl
theorem tb_87 : sm_tab 87 = pt_87 := rfl
theorem tb_88 : sm_tab 88 = pt_88 := rfl
theorem tb_89 : sm_tab 89 = pt_89 := rfl
theorem tb_90 : sm_tab 90 = pt_90 := rfl
theorem tb_91 : sm_tab 91 = pt_91 := rfl
theorem tb_92 : sm_tab 92 = pt_92 := rfl
theorem tb_93 : sm_tab 93 = pt_93 := rfl
theorem tb_94 : sm_tab 94 = pt_94 := rfl
theorem tb_95 : sm_tab 95 = pt_95 := rfl
theorem tb_96 : sm_tab 96 = pt_96 := rfl
theorem tb_97 : sm_tab 97 = pt_97 := rfl
theorem tb_98 : sm_tab 98 = pt_98 := rfl
theorem tb_99 : sm_tab 99 = pt_99 := rfl
theorem tb_100 : sm_tab 100 = pt_100 := rfl
theorem tb_101 : sm_tab 101 = pt_101 := rfl
theorem tb_102 : sm_tab 102 = pt_102 := rfl
theorem tb_103 : sm_tab 103 = pt_103 := rfl
theorem tb_104 : sm_tab 104 = pt_104 := rfl
theorem tb_105 : sm_tab 105 = pt_105 := rfl
theorem tb_106 : sm_tab 106 = pt_106 := rfl
theorem tb_107 : sm_tab 107 = pt_107 := rfl
theorem tb_108 : sm_tab 108 = pt_108 := rfl
theorem tb_109 : sm_tab 109 = pt_109 := rfl
theorem tb_110 : sm_tab 110 = pt_110 := rfl
theorem tb_111 : sm_tab 111 = pt_111 := rfl
theorem tb_112 : sm_tab 112 = pt_112 := rfl
theorem tb_113 : sm_tab 113 = pt_113 := rfl
theorem tb_114 : sm_tab 114 = pt_114 := rfl
theorem tb_115 : sm_tab 115 = pt_115 := rfl
theorem tb_116 : sm_tab 116 = pt_116 := rfl
theorem tb_117 : sm_tab 117 = pt_117 := rfl
theorem tb_118 : sm_tab 118 = pt_118 := rfl
theorem tb_119 : sm_tab 119 = pt_119 := rfl
theorem tb_120 : sm_tab 120 = pt_120 := rfl
theorem tb_121 : sm_tab 121 = pt_121 := rfl
theorem tb_122 : sm_tab 122 = pt_122 := rfl
theorem tb_123 : sm_tab 123 = pt_123 := rfl
theorem tb_124 : sm_tab 124 = pt_124 := rfl
theorem tb_125 : sm_tab 125 = pt_125 := rfl
theorem tb_126 : sm_tab 126 = pt_126 := rfl
theorem tb_127 : sm_tab 127 = pt_127 := rfl
theorem tb_128 : sm_tab 128 = pt_128 := rfl
theorem tb_129 : sm_tab 129 = pt_129 := rfl
theorem tb_130 : sm_tab 130 = pt_130 := rfl
theorem tb_131 : sm_tab 131 = pt_131 := rfl
theorem tb_132 : sm_tab 132 = pt_132 := rfl
theorem tb_133 : sm_tab 133 = pt_133 := rfl
theorem tb_134 : sm_tab 134 = pt_134 := rfl
theorem tb_135 : sm_tab 135 = pt_135 := rfl
theorem tb_136 : sm_tab 136 = pt_136 := rfl
theorem tb_137 : sm_tab 137 = pt_137 := rfl
theorem tb_138 : sm_tab 138 = pt_138 := rfl
theorem tb_139 : sm_tab 139 = pt_139 := rfl
theorem tb_140 : sm_tab 140 = pt_140 := rfl
theorem tb_141 : sm_tab 141 = pt_141 := rfl
theorem tb_142 : sm_tab 142 = pt_142 := rfl
theorem tb_143 : sm_tab 143 = pt_143 := rfl
theorem tb_144 : sm_tab 144 = pt_144 := rfl
theorem tb_145 : sm_tab 145 = pt_145 := rfl
theorem tb_146 : sm_tab 146 = pt_146 := rfl
theorem tb_147 : sm_tab 147 = pt_147 := rfl
theorem tb_148 : sm_tab 148 = pt_148 := rfl
theorem tb_149 : sm_tab 149 = pt_149 := rfl
theorem tb_150 : sm_tab 150 = pt_150 := rfl
theorem tb_151 : sm_tab 151 = pt_151 := rfl
theorem tb_152 : sm_tab 152 = pt_152 := rfl
theorem tb_153 : sm_tab 153 = pt_153 := rfl
theorem tb_154 : sm_tab 154 = pt_154 := rfl
theorem tb_155 : sm_tab 155 = pt_155 := rfl
theorem tb_156 : sm_tab 156 = pt_156 := rfl
theorem tb_157 : sm_tab 157 = pt_157 := rfl
theorem tb_158 : sm_tab 158 = pt_158 := rfl
theorem tb_159 : sm_tab 159 = pt_159 := rfl
theorem tb_160 : sm_tab 160 = pt_160 := rfl
theorem tb_161 : sm_tab 161 = pt_161 := rfl
theorem tb_162 : sm_tab 162 = pt_162 := rfl
theorem tb_163 : sm_tab 163 = pt_163 := rfl
theorem tb_164 : sm_tab 164 = pt_164 := rfl
theorem tb_165 : sm_tab 165 = pt_165 := rfl
theorem tb_166 : sm_tab 166 = pt_166 := rfl
theorem tb_167 : sm_tab 167 = pt_167 := rfl
theorem tb_168 : sm_tab 168 = pt_168 := rfl
theorem tb_169 : sm_tab 169 = pt_169 := rfl
theorem tb_170 : sm_tab 170 = pt_170 := rfl
theorem tb_171 : sm_tab 171 = pt_171 := rfl
theorem tb_172 : sm_tab 172 = pt_172 := rfl
theorem tb_173 : sm_tab 173 = pt_173 := rfl
theorem tb_174 : sm_tab 174 = pt_174 := rfl
theorem tb_175 : sm_tab 175 = pt_175 := rfl
theorem tb_176 : sm_tab 176 = pt_176 := rfl
theorem tb_177 : sm_tab 177 = pt_177 := rfl
theorem tb_178 : sm_tab 178 = pt_178 := rfl
theorem tb_179 : sm_tab 179 = pt_179 := rfl
theorem tb_180 : sm_tab 180 = pt_180 := rfl
theorem tb_181 : sm_tab 181 = pt_181 := rfl
theorem tb_182 : sm_tab 182 = pt_182 := rfl
theorem tb_183 : sm_tab 183 = pt_183 := rfl
theorem tb_184 : sm_tab 184 = pt_184 := rfl
theorem tb_185 : sm_tab 185 = pt_185 := rfl
theorem tb_186 : sm_tab 186 = pt_186 := rfl
theorem tb_187 : sm_tab 187 = pt_187 := rfl
theorem tb_188 : sm_tab 188 = pt_188 := rfl
theorem tb_189 : sm_tab 189 = pt_189 := rfl
theorem tb_190 : sm_tab 190 = pt_190 := rfl
theorem tb_191 : sm_tab 191 = pt_191 := rfl
theorem tb_192 : sm_tab 192 = pt_192 := rfl
theorem tb_193 : sm_tab 193 = pt_193 := rfl
theorem tb_194 : sm_tab 194 = pt_194 := rfl
theorem tb_195 : sm_tab 195 = pt_195 := rfl
theorem tb_196 : sm_tab 196 = pt_196 := rfl
theorem tb_197 : sm_tab 197 = pt_197 := rfl
theorem tb_198 : sm_tab 198 = pt_198 := rfl
theorem tb_199 : sm_tab 199 = pt_199 := rfl
theorem tb_200 : sm_tab 200 = pt_200 := rfl
theorem tb_201 : sm_tab 201 = pt_201 := rfl
theorem tb_202 : sm_tab 202 = pt_202 := rfl
theorem tb_203 : sm_tab 203 = pt_203 := rfl
theorem tb_204 : sm_tab 204 = pt_204 := rfl
theorem tb_205 : sm_tab 205 = pt_205 := rfl
theorem tb_206 : sm_tab 206 = pt_206 := rfl
theorem tb_207 : sm_tab 207 = pt_207 := rfl
theorem tb_208 : sm_tab 208 = pt_208 := rfl
theorem tb_209 : sm_tab 209 = pt_209 := rfl
theorem tb_210 : sm_tab 210 = pt_210 := rfl
theorem tb_211 : sm_tab 211 = pt_211 := rfl
theorem tb_212 : sm_tab 212 = pt_212 := rfl
theorem tb_213 : sm_tab 213 = pt_213 := rfl
theorem tb_214 : sm_tab 214 = pt_214 := rfl
theorem tb_215 : sm_tab 215 = pt_215 := rfl
theorem tb_216 : sm_tab 216 = pt_216 := rfl
theorem tb_217 : sm_tab 217 = pt_217 := rfl
theorem tb_218 : sm_tab 218 = pt_218 := rfl
theorem tb_219 : sm_tab 219 = pt_219 := rfl
theorem tb_220 : sm_tab 220 = pt_220 := rfl
theorem tb_221 : sm_tab 221 = pt_221 := rfl
theorem tb_222 : sm_tab 222 = pt_222 := rfl
theorem tb_223 : sm_tab 223 = pt_223 := rfl
theorem tb_224 : sm_tab 224 = pt_224 := rfl
theorem tb_225 : sm_tab 225 = pt_225 := rfl
theorem tb_226 : sm_tab 226 = pt_226 := rfl
theorem tb_227 : sm_tab 227 = pt_227 := rfl
theorem tb_228 : sm_tab 228 = pt_228 := rfl
theorem tb_229 : sm_tab 229 = pt_229 := rfl
theorem tb_230 : sm_tab 230 = pt_230 := rfl
theorem tb_231 : sm_tab 231 = pt_231 := rfl
theorem tb_232 : sm_tab 232 = pt_232 := rfl
theorem tb_233 : sm_tab 233 = pt_233 := rfl
theorem tb_234 : sm_tab 234 = pt_234 := rfl
theorem tb_235 : sm_tab 235 = pt_235 := rfl
theorem tb_236 : sm_tab 236 = pt_236 := rfl
theorem tb_237 : sm_tab 237 = pt_237 := rfl
theorem tb_238 : sm_tab 238 = pt_238 := rfl
theorem tb_239 : sm_tab 239 = pt_239 := rfl
theorem tb_240 : sm_tab 240 = pt_240 := rfl
theorem tb_241 : sm_tab 241 = pt_241 := rfl
theorem tb_242 : sm_tab 242 = pt_242 := rfl
theorem tb_243 : sm_tab 243 = pt_243 := rfl
theorem tb_244 : sm_tab 244 = pt_244 := rfl
theorem tb_245 : sm_tab 245 = pt_245 := rfl
theorem tb_246 : sm_tab 246 = pt_246 := rfl
theorem tb_247 : sm_tab 247 = pt_247 := rfl
theorem tb_248 : sm_tab 248 = pt_248 := rfl
theorem tb_249 : sm_tab 249 = pt_249 := rfl
theorem tb_250 : sm_tab 250 = pt_250 := rfl
theorem tb_251 : sm_tab 251 = pt_251 := rfl
theorem tb_252 : sm_tab 252 = pt_252 := rfl
theorem tb_253 : sm_tab 253 = pt_253 := rfl
theorem tb_254 : sm_tab 254 = pt_254 := rfl
theorem tb_255 : sm_tab 255 = pt_255 := rfl
theorem tb_256 : sm_tab 256 = pt_256 := rfl
theorem tb_257 : sm_tab 257 = pt_257 := rfl
theorem tb_258 : sm_tab 258 = pt_258 := rfl
theorem tb_259 : sm_tab 259 = pt_259 := rfl
theorem tb_260 : sm_tab 260 = pt_260 := rfl
theorem tb_261 : sm_tab 261 = pt_261 := rfl
theorem tb_262 : sm_tab 262 = pt_262 := rfl
theorem tb_263 : sm_tab 263 = pt_263 := rfl
theorem tb_264 : sm_tab 264 = pt_264 := rfl
theorem tb_265 : sm_tab 265 = pt_265 := rfl
theorem tb_266 : sm_tab 266 = pt_266 := rfl
theorem tb_267 : sm_tab 267 = pt_267 := rfl
theorem tb_268 : sm_tab 268 = pt_268 := rfl
theorem tb_269 : sm_tab 269 = pt_269 := rfl
theorem tb_270 : sm_tab 270 = pt_270 := rfl
theorem tb_271 : sm_tab 271 = pt_271 := rfl
theorem tb_272 : sm_tab 272 = pt_272 := rfl
theorem tb_273 : sm_tab 273 = pt_273 := rfl
theorem tb_274 : sm_tab 274 = pt_274 := rfl
theorem tb_275 : sm_tab 275 = pt_275 := rfl
theorem tb_276 : sm_tab 276 = pt_276 := rfl
theorem tb_277 : sm_tab 277 = pt_277 := rfl
theorem tb_278 : sm_tab 278 = pt_278 := rfl
theorem tb_279 : sm_tab 279 = pt_279 := rfl
theorem tb_280 : sm_tab 280 = pt_280 := rfl
theorem tb_281 : sm_tab 281 = pt_281 := rfl
theorem tb_282 : sm_tab 282 = pt_282 := rfl
theorem tb_283 : sm_tab 283 = pt_283 := rfl
theorem tb_284 : sm_tab 284 = pt_284 := rfl
theorem tb_285 : sm_tab 285 = pt_285 := rfl
theorem tb_286 : sm_tab 286 = pt_286 := rfl
theorem tb_287 : sm_tab 287 = pt_287 := rfl
