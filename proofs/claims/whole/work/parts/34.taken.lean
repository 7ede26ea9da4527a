/-! PURE: taken squares, other small reads -/
def anyU (f : Nat → Bool) : Nat → Nat → Bool
  | 0, _ => false
  | d + 1, k => f k || anyU f d (k + 1)
def sLampOn (R : Nat → Int32) (x : Int32) (l : Nat) : Bool := decide (R (196 + l) ≠ 0) && decide (R (208 + l) = x)
def sHerdOn (R : Nat → Int32) (x : Int32) (h : Nat) : Bool := sOn R h && decide (R (274 + h) = x)
def sTaken (R : Nat → Int32) (x : Int32) : Bool := anyU (sLampOn R x) 12 0 || anyU (sHerdOn R x) 6 0
theorem stands_in {p l : Nat} {M : xMem} (hl : l < 12) : g2_stands p (nI l) M = some (b2i (M p (196 + l) ≠ 0), M) := by
  unfold g2_stands
  simp (disch := omega) only [mset_eq, i_lt0, i_cl, i_ll, i_lr, i_tl, i_tr, i_el, i_er, i_le, i_lt, i_eq, i_al, i_ar, i_sr, i_sl, i_ml, i_mr, i_dr, i_cll, nI_add, pk_mul, i_sub, nle_f, nle_t, nlt_f, nlt_t, neq_f, if_true, if_false, ite_true, ite_false, false_or, or_false, true_or, or_true, or_self, not_false_eq_true, not_true_eq_false, Option.bind_some, Nat.zero_add, Nat.add_zero]
  by_cases c : M p (196 + l) = 0 <;> simp [c, b2i]
theorem stands_lo {p : Nat} {a : Int32} {M : xMem} (h : a < 0) : g2_stands p a M = some (0, M) := by unfold g2_stands; rw [if_pos h]
theorem stands_hi {p : Nat} {a : Int32} {M : xMem} (h : nI 12 ≤ a) : g2_stands p a M = some (0, M) := by
  unfold g2_stands; rw [if_neg (i_ge (by omega) h), if_pos (show (12 : Int32) ≤ a from h)]
theorem lamp9_in {l : Nat} {M : xMem} (ok : RowOk (M 7)) (hl : l < 12) : g9_isLamp (nI l) M = some (b2i (M 7 (196 + l) ≠ 0), M) := by
  unfold g9_isLamp
  simp (disch := omega) only [mset_eq, i_lt0, i_cl, i_ll, i_lr, i_tl, i_tr, i_el, i_er, i_le, i_lt, i_eq, i_al, i_ar, i_sr, i_sl, i_ml, i_mr, i_dr, i_cll, nI_add, pk_mul, i_sub, nle_f, nle_t, nlt_f, nlt_t, neq_f, if_true, if_false, ite_true, ite_false, false_or, or_false, true_or, or_true, or_self, not_false_eq_true, not_true_eq_false, Option.bind_some, Nat.zero_add, Nat.add_zero]
  rcases ok.there hl with c | c <;> simp [c, b2i]
theorem lamp9_lo {a : Int32} {M : xMem} (h : a < 0) : g9_isLamp a M = some (0, M) := by unfold g9_isLamp; rw [if_pos h]
theorem lamp9_hi {a : Int32} {M : xMem} (h : nI 12 ≤ a) : g9_isLamp a M = some (0, M) := by
  unfold g9_isLamp; rw [if_neg (i_ge (by omega) h), if_pos (show (12 : Int32) ≤ a from h)]
theorem taken_b42 {p : Nat} {M : xMem} {x : Int32} : ∀ (d k n : Nat), k + d = 6 → d < n → g6_isTaken_b42 p n x (nI k) M = some (b2i (anyU (sHerdOn (M p) x) d k), M)
  | 0, k, n + 1, hk, hn => by
    obtain rfl : k = 6 := by omega
    unfold g6_isTaken_b42
    simp (disch := omega) only [mset_eq, i_lt0, i_cl, i_ll, i_lr, i_tl, i_tr, i_el, i_er, i_le, i_lt, i_eq, i_al, i_ar, i_sr, i_sl, i_ml, i_mr, i_dr, i_cll, nI_add, pk_mul, i_sub, nle_f, nle_t, nlt_f, nlt_t, neq_f, if_true, if_false, ite_true, ite_false, false_or, or_false, true_or, or_true, or_self, not_false_eq_true, not_true_eq_false, Option.bind_some, Nat.zero_add, Nat.add_zero]
    rfl
  | d + 1, k, n + 1, hk, hn => by
    have ih := taken_b42 (p := p) (M := M) (x := x) d (k + 1) n (by omega) (by omega)
    unfold g6_isTaken_b42 g6_isTaken_b74
    rw [on_in (show k < 6 by omega)]
    simp (disch := omega) only [mset_eq, i_lt0, i_cl, i_ll, i_lr, i_tl, i_tr, i_el, i_er, i_le, i_lt, i_eq, i_al, i_ar, i_sr, i_sl, i_ml, i_mr, i_dr, i_cll, nI_add, pk_mul, i_sub, nle_f, nle_t, nlt_f, nlt_t, neq_f, if_true, if_false, ite_true, ite_false, false_or, or_false, true_or, or_true, or_self, not_false_eq_true, not_true_eq_false, Option.bind_some, Nat.zero_add, Nat.add_zero, b2i_0]
    rw [ih]
    rw [anyU.eq_2 (sHerdOn (M p) x)]
    unfold sHerdOn
    by_cases c : sOn (M p) k = true
    · by_cases c2 : M p (274 + k) = x
      · simp [c, c2, b2i]
      · simp [c, c2, b2i]
    · simp [c, b2i]
theorem taken_b2 {p : Nat} {M : xMem} {x : Int32} : ∀ (d k n : Nat), k + d = 12 → d < n → g6_isTaken_b2 p n x (nI k) M = some (b2i (anyU (sLampOn (M p) x) d k || anyU (sHerdOn (M p) x) 6 0), M)
  | 0, k, n + 1, hk, hn => by
    obtain rfl : k = 12 := by omega
    unfold g6_isTaken_b2
    simp (disch := omega) only [mset_eq, i_lt0, i_cl, i_ll, i_lr, i_tl, i_tr, i_el, i_er, i_le, i_lt, i_eq, i_al, i_ar, i_sr, i_sl, i_ml, i_mr, i_dr, i_cll, nI_add, pk_mul, i_sub, nle_f, nle_t, nlt_f, nlt_t, neq_f, if_true, if_false, ite_true, ite_false, false_or, or_false, true_or, or_true, or_self, not_false_eq_true, not_true_eq_false, Option.bind_some, Nat.zero_add, Nat.add_zero]
    exact taken_b42 6 0 5000 rfl (by omega)
  | d + 1, k, n + 1, hk, hn => by
    have ih := taken_b2 (p := p) (M := M) (x := x) d (k + 1) n (by omega) (by omega)
    unfold g6_isTaken_b2 g6_isTaken_b34
    rw [stands_in (show k < 12 by omega)]
    simp (disch := omega) only [mset_eq, i_lt0, i_cl, i_ll, i_lr, i_tl, i_tr, i_el, i_er, i_le, i_lt, i_eq, i_al, i_ar, i_sr, i_sl, i_ml, i_mr, i_dr, i_cll, nI_add, pk_mul, i_sub, nle_f, nle_t, nlt_f, nlt_t, neq_f, if_true, if_false, ite_true, ite_false, false_or, or_false, true_or, or_true, or_self, not_false_eq_true, not_true_eq_false, Option.bind_some, Nat.zero_add, Nat.add_zero, b2i_0]
    rw [ih, anyU.eq_2 (sLampOn (M p) x)]
    unfold sLampOn
    by_cases c : M p (196 + k) = 0
    · simp [c, b2i]
    · by_cases c2 : M p (208 + k) = x
      · simp [c, c2, b2i]
      · simp [c, c2, b2i]
theorem taken_eq {p : Nat} {M : xMem} {x : Int32} : g6_isTaken p x M = some (b2i (sTaken (M p) x), M) := taken_b2 12 0 5000 rfl (by omega)
theorem taken9_b42 {M : xMem} (ok : RowOk (M 7)) {x : Int32} : ∀ (d k n : Nat), k + d = 6 → d < n → g9_isTaken_b46 n x (nI k) M = some (b2i (anyU (sHerdOn (M 7) x) d k), M)
  | 0, k, n + 1, hk, hn => by
    obtain rfl : k = 6 := by omega
    unfold g9_isTaken_b46
    simp (disch := omega) only [mset_eq, i_lt0, i_cl, i_ll, i_lr, i_tl, i_tr, i_el, i_er, i_le, i_lt, i_eq, i_al, i_ar, i_sr, i_sl, i_ml, i_mr, i_dr, i_cll, nI_add, pk_mul, i_sub, nle_f, nle_t, nlt_f, nlt_t, neq_f, if_true, if_false, ite_true, ite_false, false_or, or_false, true_or, or_true, or_self, not_false_eq_true, not_true_eq_false, Option.bind_some, Nat.zero_add, Nat.add_zero]
    rfl
  | d + 1, k, n + 1, hk, hn => by
    have ih := taken9_b42 (M := M) ok (x := x) d (k + 1) n (by omega) (by omega)
    unfold g9_isTaken_b46 g9_isTaken_b76
    rw [on9_in ok (show k < 6 by omega)]
    simp (disch := omega) only [mset_eq, i_lt0, i_cl, i_ll, i_lr, i_tl, i_tr, i_el, i_er, i_le, i_lt, i_eq, i_al, i_ar, i_sr, i_sl, i_ml, i_mr, i_dr, i_cll, nI_add, pk_mul, i_sub, nle_f, nle_t, nlt_f, nlt_t, neq_f, if_true, if_false, ite_true, ite_false, false_or, or_false, true_or, or_true, or_self, not_false_eq_true, not_true_eq_false, Option.bind_some, Nat.zero_add, Nat.add_zero, b2i_0]
    rw [ih]
    rw [anyU.eq_2 (sHerdOn (M 7) x)]
    unfold sHerdOn
    by_cases c : sOn (M 7) k = true
    · by_cases c2 : M 7 (274 + k) = x
      · simp [c, c2, b2i]
      · simp [c, c2, b2i]
    · simp [c, b2i]
theorem taken9_b2 {M : xMem} (ok : RowOk (M 7)) {x : Int32} : ∀ (d k n : Nat), k + d = 12 → d < n → g9_isTaken_b2 n x (nI k) M = some (b2i (anyU (sLampOn (M 7) x) d k || anyU (sHerdOn (M 7) x) 6 0), M)
  | 0, k, n + 1, hk, hn => by
    obtain rfl : k = 12 := by omega
    unfold g9_isTaken_b2
    simp (disch := omega) only [mset_eq, i_lt0, i_cl, i_ll, i_lr, i_tl, i_tr, i_el, i_er, i_le, i_lt, i_eq, i_al, i_ar, i_sr, i_sl, i_ml, i_mr, i_dr, i_cll, nI_add, pk_mul, i_sub, nle_f, nle_t, nlt_f, nlt_t, neq_f, if_true, if_false, ite_true, ite_false, false_or, or_false, true_or, or_true, or_self, not_false_eq_true, not_true_eq_false, Option.bind_some, Nat.zero_add, Nat.add_zero]
    exact taken9_b42 ok 6 0 5000 rfl (by omega)
  | d + 1, k, n + 1, hk, hn => by
    have ih := taken9_b2 (M := M) ok (x := x) d (k + 1) n (by omega) (by omega)
    unfold g9_isTaken_b2 g9_isTaken_b38
    simp (disch := omega) only [mset_eq, i_lt0, i_cl, i_ll, i_lr, i_tl, i_tr, i_el, i_er, i_le, i_lt, i_eq, i_al, i_ar, i_sr, i_sl, i_ml, i_mr, i_dr, i_cll, nI_add, pk_mul, i_sub, nle_f, nle_t, nlt_f, nlt_t, neq_f, if_true, if_false, ite_true, ite_false, false_or, or_false, true_or, or_true, or_self, not_false_eq_true, not_true_eq_false, Option.bind_some, Nat.zero_add, Nat.add_zero]
    rw [ih, anyU.eq_2 (sLampOn (M 7) x)]
    unfold sLampOn
    rcases ok.there (show k < 12 by omega) with c | c
    · simp [c, b2i]
    · by_cases c2 : M 7 (208 + k) = x
      · simp [c, c2, b2i]
      · simp [c, c2, b2i]
theorem taken9_eq {M : xMem} (ok : RowOk (M 7)) {x : Int32} : g9_isTaken x M = some (b2i (sTaken (M 7) x), M) := taken9_b2 ok 12 0 5000 rfl (by omega)
theorem rock9_in {q : Nat} {M : xMem} (hq : q < 331) : g9_isRock (nI q) M = some (b2i (M 7 q = 3), M) := by
  unfold g9_isRock
  simp (disch := omega) only [mset_eq, i_lt0, i_cl, i_ll, i_lr, i_tl, i_tr, i_el, i_er, i_le, i_lt, i_eq, i_al, i_ar, i_sr, i_sl, i_ml, i_mr, i_dr, i_cll, nI_add, pk_mul, i_sub, nle_f, nle_t, nlt_f, nlt_t, neq_f, if_true, if_false, ite_true, ite_false, false_or, or_false, true_or, or_true, or_self, not_false_eq_true, not_true_eq_false, Option.bind_some, Nat.zero_add, Nat.add_zero]
  by_cases c : M 7 q = 3 <;> simp [c, b2i]
theorem sortAt_in {p q : Nat} {M : xMem} (hq : q < 196) : g6_sortAt p (nI q) M = some (M p q, M) := by
  unfold g6_sortAt
  simp (disch := omega) only [mset_eq, i_lt0, i_cl, i_ll, i_lr, i_tl, i_tr, i_el, i_er, i_le, i_lt, i_eq, i_al, i_ar, i_sr, i_sl, i_ml, i_mr, i_dr, i_cll, nI_add, pk_mul, i_sub, nle_f, nle_t, nlt_f, nlt_t, neq_f, if_true, if_false, ite_true, ite_false, false_or, or_false, true_or, or_true, or_self, not_false_eq_true, not_true_eq_false, Option.bind_some, Nat.zero_add, Nat.add_zero]
theorem sortAt_196 {p : Nat} {M : xMem} : g6_sortAt p (nI 196) M = some (3, M) := by
  unfold g6_sortAt
  simp (disch := omega) only [mset_eq, i_lt0, i_cl, i_ll, i_lr, i_tl, i_tr, i_el, i_er, i_le, i_lt, i_eq, i_al, i_ar, i_sr, i_sl, i_ml, i_mr, i_dr, i_cll, nI_add, pk_mul, i_sub, nle_f, nle_t, nlt_f, nlt_t, neq_f, if_true, if_false, ite_true, ite_false, false_or, or_false, true_or, or_true, or_self, not_false_eq_true, not_true_eq_false, Option.bind_some, Nat.zero_add, Nat.add_zero]
def sClouded (R : Nat → Int32) : Bool := decide ((R 329 >>> (R 328 &&& 31)) &&& 1 = 1)
theorem clouded_eq {p : Nat} {M : xMem} : g6_isClouded p M = some (b2i (sClouded (M p)), M) := by
  unfold g6_isClouded sClouded
  by_cases c : (M p 329 >>> (M p 328 &&& 31)) &&& 1 = 1 <;> simp [c, b2i]
theorem has9_eq {x k : Int32} {M : xMem} : g9_has x k M = some (b2i ((x >>> (k &&& 31)) &&& 1 = 1), M) := by
  unfold g9_has
  by_cases c : (x >>> (k &&& 31)) &&& 1 = 1 <;> simp [c, b2i]
theorem clouded9_eq {M : xMem} : g9_isClouded M = some (b2i (sClouded (M 7)), M) := by
  unfold g9_isClouded sClouded
  rw [has9_eq]
  by_cases c : (M 7 329 >>> (M 7 328 &&& 31)) &&& 1 = 1 <;> simp [c, b2i]
theorem in9_eq {x a b : Int32} {M : xMem} : g9_in x a b M = some (b2i (a ≤ x ∧ x ≤ b), M) := by
  unfold g9_in
  by_cases c : x < a
  · have : ¬ a ≤ x := by intro q; have := (fa_lt' _ _).mp c; have := (fa_le' _ _).mp q; omega
    simp [c, this, b2i]
  · have h1 : a ≤ x := (fa_le' _ _).mpr (by have : ¬ x.toInt < a.toInt := fun q => c ((fa_lt' _ _).mpr q); omega)
    by_cases c2 : b < x
    · have : ¬ x ≤ b := by intro q; have := (fa_lt' _ _).mp c2; have := (fa_le' _ _).mp q; omega
      simp [c, c2, h1, this, b2i]
    · have h2 : x ≤ b := (fa_le' _ _).mpr (by have : ¬ b.toInt < x.toInt := fun q => c2 ((fa_lt' _ _).mpr q); omega)
      simp [c, c2, h1, h2, b2i]
