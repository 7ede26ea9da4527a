/-! PURE: the way to a lamp -/
theorem abs_size : ∀ a, a < 15 → ∀ b, b < 15 → xAbs (nI a - nI b) = (if 0 ≤ nI b - nI a then nI b - nI a else -(nI b - nI a)) := by decide +kernel
def sWay (H L : Int32) : Int32 := xAbs ((L - L / 14 * 14) - (H - H / 14 * 14)) + xAbs (L / 14 - H / 14)
theorem way9_eq {a b : Nat} {M : xMem} (ha : a ≤ 196) (hb : b ≤ 196) : g9_way (nI a) (nI b) M = some (sWay (nI a) (nI b), M) := by
  have e1 : nI a / 14 = nI (a / 14) := pk_div (by omega) (by decide) (by decide)
  have e2 : nI b / 14 = nI (b / 14) := pk_div (by omega) (by decide) (by decide)
  have r1 : nI a - nI (a / 14) * 14 = nI (a % 14) := by rw [← e1]; exact pk_rem (by omega) (by decide) (by decide)
  have r2 : nI b - nI (b / 14) * 14 = nI (b % 14) := by rw [← e2]; exact pk_rem (by omega) (by decide) (by decide)
  unfold g9_way sWay
  rw [e1, e2, r1, r2, abs_size (b % 14) (by omega) (a % 14) (by omega), abs_size (b / 14) (by omega) (a / 14) (by omega)]
  unfold g9_size
  by_cases c1 : 0 ≤ nI (a % 14) - nI (b % 14)
  · rw [if_pos c1, if_pos c1]
    by_cases c2 : 0 ≤ nI (a / 14) - nI (b / 14)
    · simp only [Option.bind_some, if_pos c2]
    · simp only [Option.bind_some, if_neg c2]
  · rw [if_neg c1, if_neg c1]
    by_cases c2 : 0 ≤ nI (a / 14) - nI (b / 14)
    · simp only [Option.bind_some, if_pos c2]
    · simp only [Option.bind_some, if_neg c2]
def sqL (R : Nat → Int32) (l : Nat) : Int32 := if 12 ≤ l then R (274 + (l - 12)) else R (208 + l)
def kdL (R : Nat → Int32) (l : Nat) : Int32 := if 12 ≤ l then 5 else R (220 + l)
theorem sqOf_in {p l : Nat} {M : xMem} (hl : l < 18) : g6_squareOfLamp p (nI l) M = some (sqL (M p) l, M) := by
  unfold g6_squareOfLamp sqL
  by_cases c : 12 ≤ l
  · simp (disch := omega) only [↓reduceIte, mset_eq, i_lt0, i_cl, i_ll, i_lr, i_tl, i_tr, i_el, i_er, i_le, i_lt, i_eq, i_al, i_ar, i_sr, i_sl, i_ml, i_mr, i_dr, i_cll, nI_add, pk_mul, i_sub, nle_f, nle_t, nlt_f, nlt_t, neq_f, if_true, if_false, ite_true, ite_false, false_or, or_false, true_or, or_true, or_self, not_false_eq_true, not_true_eq_false, Option.bind_some, Nat.zero_add, Nat.add_zero]
  · simp (disch := omega) only [↓reduceIte, mset_eq, i_lt0, i_cl, i_ll, i_lr, i_tl, i_tr, i_el, i_er, i_le, i_lt, i_eq, i_al, i_ar, i_sr, i_sl, i_ml, i_mr, i_dr, i_cll, nI_add, pk_mul, i_sub, nle_f, nle_t, nlt_f, nlt_t, neq_f, if_true, if_false, ite_true, ite_false, false_or, or_false, true_or, or_true, or_self, not_false_eq_true, not_true_eq_false, Option.bind_some, Nat.zero_add, Nat.add_zero]
theorem kdOf_in {p l : Nat} {M : xMem} (hl : l < 18) : g6_kindOfLamp p (nI l) M = some (kdL (M p) l, M) := by
  unfold g6_kindOfLamp kdL
  by_cases c : 12 ≤ l
  · simp (disch := omega) only [↓reduceIte, mset_eq, i_lt0, i_cl, i_ll, i_lr, i_tl, i_tr, i_el, i_er, i_le, i_lt, i_eq, i_al, i_ar, i_sr, i_sl, i_ml, i_mr, i_dr, i_cll, nI_add, pk_mul, i_sub, nle_f, nle_t, nlt_f, nlt_t, neq_f, if_true, if_false, ite_true, ite_false, false_or, or_false, true_or, or_true, or_self, not_false_eq_true, not_true_eq_false, Option.bind_some, Nat.zero_add, Nat.add_zero]
  · simp (disch := omega) only [↓reduceIte, mset_eq, i_lt0, i_cl, i_ll, i_lr, i_tl, i_tr, i_el, i_er, i_le, i_lt, i_eq, i_al, i_ar, i_sr, i_sl, i_ml, i_mr, i_dr, i_cll, nI_add, pk_mul, i_sub, nle_f, nle_t, nlt_f, nlt_t, neq_f, if_true, if_false, ite_true, ite_false, false_or, or_false, true_or, or_true, or_self, not_false_eq_true, not_true_eq_false, Option.bind_some, Nat.zero_add, Nat.add_zero]
theorem lampAt9 {l : Nat} {M : xMem} (hl : l < 18) : g9_lampAt (nI l) M = some (sqL (M 7) l, M) := by
  unfold g9_lampAt sqL
  by_cases c : 12 ≤ l
  · simp (disch := omega) only [↓reduceIte, mset_eq, i_lt0, i_cl, i_ll, i_lr, i_tl, i_tr, i_el, i_er, i_le, i_lt, i_eq, i_al, i_ar, i_sr, i_sl, i_ml, i_mr, i_dr, i_cll, nI_add, pk_mul, i_sub, nle_f, nle_t, nlt_f, nlt_t, neq_f, if_true, if_false, ite_true, ite_false, false_or, or_false, true_or, or_true, or_self, not_false_eq_true, not_true_eq_false, Option.bind_some, Nat.zero_add, Nat.add_zero]
    rw [show 274 + l - 12 = 274 + (l - 12) by omega]
  · simp (disch := omega) only [↓reduceIte, mset_eq, i_lt0, i_cl, i_ll, i_lr, i_tl, i_tr, i_el, i_er, i_le, i_lt, i_eq, i_al, i_ar, i_sr, i_sl, i_ml, i_mr, i_dr, i_cll, nI_add, pk_mul, i_sub, nle_f, nle_t, nlt_f, nlt_t, neq_f, if_true, if_false, ite_true, ite_false, false_or, or_false, true_or, or_true, or_self, not_false_eq_true, not_true_eq_false, Option.bind_some, Nat.zero_add, Nat.add_zero]
theorem kind9 {l : Nat} {M : xMem} (hl : l < 18) : g9_kindOf (nI l) M = some (kdL (M 7) l, M) := by
  unfold g9_kindOf kdL
  by_cases c : 12 ≤ l
  · simp (disch := omega) only [↓reduceIte, mset_eq, i_lt0, i_cl, i_ll, i_lr, i_tl, i_tr, i_el, i_er, i_le, i_lt, i_eq, i_al, i_ar, i_sr, i_sl, i_ml, i_mr, i_dr, i_cll, nI_add, pk_mul, i_sub, nle_f, nle_t, nlt_f, nlt_t, neq_f, if_true, if_false, ite_true, ite_false, false_or, or_false, true_or, or_true, or_self, not_false_eq_true, not_true_eq_false, Option.bind_some, Nat.zero_add, Nat.add_zero]
  · simp (disch := omega) only [↓reduceIte, mset_eq, i_lt0, i_cl, i_ll, i_lr, i_tl, i_tr, i_el, i_er, i_le, i_lt, i_eq, i_al, i_ar, i_sr, i_sl, i_ml, i_mr, i_dr, i_cll, nI_add, pk_mul, i_sub, nle_f, nle_t, nlt_f, nlt_t, neq_f, if_true, if_false, ite_true, ite_false, false_or, or_false, true_or, or_true, or_self, not_false_eq_true, not_true_eq_false, Option.bind_some, Nat.zero_add, Nat.add_zero]
