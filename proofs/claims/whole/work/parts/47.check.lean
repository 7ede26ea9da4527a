/-! PURE: check -/
theorem num_same (a b c d : Int32) : ((((a <<< ((24 : Int32) &&& 31)) ||| (b <<< ((16 : Int32) &&& 31))) ||| (c <<< ((8 : Int32) &&& 31))) ||| d) =
    (((((((0 : Int32) <<< ((8 : Int32) &&& 31)) ||| a) <<< ((8 : Int32) &&& 31)) ||| b) <<< ((8 : Int32) &&& 31) ||| c) <<< ((8 : Int32) &&& 31)) ||| d := by
  have h : ∀ x : Int32, x <<< ((8 : Int32) &&& 31) = x <<< (8 : Int32) := fun _ => rfl
  apply Int32.toBitVec_inj.mp
  ext i hi
  simp
  have e1 : (i - 8 < 8) = (i < 16) := propext (by omega)
  have e2 : (i - (8 + 8) < 8) = (i < 24) := propext (by omega)
  simp only [Nat.sub_sub, e1, e2]
  by_cases h1 : i < 8
  · have h2 : i < 16 := by omega
    have h3 : i < 24 := by omega
    simp [h1, h2, h3]
  · by_cases h2 : i < 16
    · have h3 : i < 24 := by omega
      simp [h1, h2, h3]
    · by_cases h3 : i < 24
      · simp [h1, h2, h3]
      · simp [h1, h2, h3, Bool.or_assoc]
def tNum (T : Nat → Int32) (x : Nat) : Int32 := ((((T (4 * x) <<< ((24 : Int32) &&& 31)) ||| (T (4 * x + 1) <<< ((16 : Int32) &&& 31))) ||| (T (4 * x + 2) <<< ((8 : Int32) &&& 31))) ||| T (4 * x + 3))
theorem byteAt_in {k : Nat} {M : xMem} (hk : k < 260) : g7_byteAt (nI k) M = some (M 120 k, M) := by
  unfold g7_byteAt
  simp (disch := omega) only [↓reduceIte, mset_eq, i_lt0, i_cl, i_ll, i_lr, i_tl, i_tr, i_el, i_er, i_le, i_lt, i_eq, i_al, i_ar, i_sr, i_sl, i_ml, i_mr, i_dr, i_cll, nI_add, pk_mul, i_sub, nle_f, nle_t, nlt_f, nlt_t, neq_f, if_true, if_false, ite_true, ite_false, false_or, or_false, true_or, or_true, or_self, not_false_eq_true, not_true_eq_false, Option.bind_some, Nat.zero_add, Nat.add_zero]
theorem numberAt_eq {x : Nat} {M : xMem} (hx : x < 65) : g7_numberAt (nI (4 * x)) M = some (tNum (M 120) x, M) := by
  unfold g7_numberAt
  simp (disch := omega) only [↓reduceIte, mset_eq, i_lt0, i_cl, i_ll, i_lr, i_tl, i_tr, i_el, i_er, i_le, i_lt, i_eq, i_al, i_ar, i_sr, i_sl, i_ml, i_mr, i_dr, i_cll, nI_add, pk_mul, i_sub, nle_f, nle_t, nlt_f, nlt_t, neq_f, if_true, if_false, ite_true, ite_false, false_or, or_false, true_or, or_true, or_self, not_false_eq_true, not_true_eq_false, Option.bind_some, Nat.zero_add, Nat.add_zero, byteAt_in]
  rfl
theorem tapeNumber_eq {x : Nat} {M : xMem} (hx : x < 65) {T : Nat → Int32} (hT : ∀ i, i < 260 → T i = M 163 i &&& 255) : g9_tapeNumber (nI x) M = some (tNum T x, M) := by
  unfold g9_tapeNumber
  rw [show (5000 : Nat) = 4995 + 1 + 1 + 1 + 1 + 1 by rfl, i_ml]
  rw [show (OfNat.ofNat 4 * x : Nat) = 4 * x from rfl]
  unfold tNum
  rw [num_same]
  rw [hT (4 * x) (by omega), hT (4 * x + 1) (by omega), hT (4 * x + 2) (by omega), hT (4 * x + 3) (by omega)]
  have go : ∀ {n k : Nat} {v : Int32}, 4 * x ≤ k → k < 4 * x + 4 → g9_tapeNumber_b6 (n + 1) (nI x) v (nI k) M = g9_tapeNumber_b6 n (nI x) ((v <<< ((8 : Int32) &&& 31)) ||| (M 163 k &&& 255)) (nI (k + 1)) M := fun {n k v} h1 h2 => by
    rw [g9_tapeNumber_b6]
    simp (disch := omega) only [↓reduceIte, mset_eq, i_lt0, i_cl, i_ll, i_lr, i_tl, i_tr, i_el, i_er, i_le, i_lt, i_eq, i_al, i_ar, i_sr, i_sl, i_ml, i_mr, i_dr, i_cll, nI_add, pk_mul, i_sub, nle_f, nle_t, nlt_f, nlt_t, neq_f, if_true, if_false, ite_true, ite_false, false_or, or_false, true_or, or_true, or_self, not_false_eq_true, not_true_eq_false, Option.bind_some, Nat.zero_add, Nat.add_zero]
  rw [go (by omega) (by omega), go (by omega) (by omega), go (by omega) (by omega), go (by omega) (by omega), g9_tapeNumber_b6]
  simp (disch := omega) only [↓reduceIte, mset_eq, i_lt0, i_cl, i_ll, i_lr, i_tl, i_tr, i_el, i_er, i_le, i_lt, i_eq, i_al, i_ar, i_sr, i_sl, i_ml, i_mr, i_dr, i_cll, nI_add, pk_mul, i_sub, nle_f, nle_t, nlt_f, nlt_t, neq_f, if_true, if_false, ite_true, ite_false, false_or, or_false, true_or, or_true, or_self, not_false_eq_true, not_true_eq_false, Option.bind_some, Nat.zero_add, Nat.add_zero]
def sOwn (R : Nat → Int32) (h : Nat) : Int32 := if R (268 + h) = 0 then 0 else R (280 + h)
def sChk (R T : Nat → Int32) : Nat → Nat → Int32
  | 0, _ => -1
  | d + 1, k => if tNum T k = sOwn R k then sChk R T d (k + 1) else nI k
theorem chk_b {M : xMem} {m : Nat} (hm : m ≤ 6) : ∀ (d k n : Nat), k + d = m → d < n → g8_check_b36 n (nI m) (nI k) M = some (sChk (M 0) (M 120) d k, M)
  | 0, k, n + 1, hk, hn => by
    obtain rfl : k = m := by omega
    rw [g8_check_b36]
    simp (disch := omega) only [↓reduceIte, mset_eq, i_lt0, i_cl, i_ll, i_lr, i_tl, i_tr, i_el, i_er, i_le, i_lt, i_eq, i_al, i_ar, i_sr, i_sl, i_ml, i_mr, i_dr, i_cll, nI_add, pk_mul, i_sub, nle_f, nle_t, nlt_f, nlt_t, neq_f, if_true, if_false, ite_true, ite_false, false_or, or_false, true_or, or_true, or_self, not_false_eq_true, not_true_eq_false, Option.bind_some, Nat.zero_add, Nat.add_zero]
    rfl
  | d + 1, k, n + 1, hk, hn => by
    have ih := chk_b (M := M) hm d (k + 1) n (by omega) (by omega)
    rw [g8_check_b36]
    unfold g8_check_b77
    rw [told_in (show k < 6 by omega)]
    simp (disch := omega) only [↓reduceIte, mset_eq, i_lt0, i_cl, i_ll, i_lr, i_tl, i_tr, i_el, i_er, i_le, i_lt, i_eq, i_al, i_ar, i_sr, i_sl, i_ml, i_mr, i_dr, i_cll, nI_add, pk_mul, i_sub, nle_f, nle_t, nlt_f, nlt_t, neq_f, if_true, if_false, ite_true, ite_false, false_or, or_false, true_or, or_true, or_self, not_false_eq_true, not_true_eq_false, Option.bind_some, Nat.zero_add, Nat.add_zero, b2i_0, numberAt_eq, sChk, ih, sOwn]
    by_cases c : M 0 (268 + k) = 0
    · simp only [c, ne_eq, not_true_eq_false, not_false_eq_true, if_true]
      by_cases c2 : tNum (M 120) k = 0
      · rw [if_pos c2, if_pos c2]
      · rw [if_neg c2, if_neg c2]
    · simp only [c, ne_eq, not_true_eq_false, not_false_eq_true, if_false]
      by_cases c2 : tNum (M 120) k = M 0 (280 + k)
      · rw [if_pos c2, if_pos c2]
      · rw [if_neg c2, if_neg c2]
theorem chk9_b {M : xMem} {T : Nat → Int32} (hT : ∀ i, i < 260 → T i = M 163 i &&& 255) (ok : RowOk (M 7)) {m : Nat} (hm : m ≤ 6) : ∀ (d k n : Nat), k + d = m → d < n → g9_check_b30 n (nI m) (nI k) M = some (sChk (M 7) T d k, M)
  | 0, k, n + 1, hk, hn => by
    obtain rfl : k = m := by omega
    rw [g9_check_b30]
    simp (disch := omega) only [↓reduceIte, mset_eq, i_lt0, i_cl, i_ll, i_lr, i_tl, i_tr, i_el, i_er, i_le, i_lt, i_eq, i_al, i_ar, i_sr, i_sl, i_ml, i_mr, i_dr, i_cll, nI_add, pk_mul, i_sub, nle_f, nle_t, nlt_f, nlt_t, neq_f, if_true, if_false, ite_true, ite_false, false_or, or_false, true_or, or_true, or_self, not_false_eq_true, not_true_eq_false, Option.bind_some, Nat.zero_add, Nat.add_zero]
    rfl
  | d + 1, k, n + 1, hk, hn => by
    have ih := chk9_b (M := M) hT ok hm d (k + 1) n (by omega) (by omega)
    rw [g9_check_b30]
    unfold g9_check_b62
    rw [tapeNumber_eq (show k < 65 by omega) hT]
    simp (disch := omega) only [↓reduceIte, mset_eq, i_lt0, i_cl, i_ll, i_lr, i_tl, i_tr, i_el, i_er, i_le, i_lt, i_eq, i_al, i_ar, i_sr, i_sl, i_ml, i_mr, i_dr, i_cll, nI_add, pk_mul, i_sub, nle_f, nle_t, nlt_f, nlt_t, neq_f, if_true, if_false, ite_true, ite_false, false_or, or_false, true_or, or_true, or_self, not_false_eq_true, not_true_eq_false, Option.bind_some, Nat.zero_add, Nat.add_zero, told9_in ok, b2i_0, sChk, ih, sOwn]
    by_cases c : M 7 (268 + k) = 0
    · simp only [c, ne_eq, not_true_eq_false, not_false_eq_true, if_true]
      by_cases c2 : tNum T k = 0
      · rw [if_pos c2, if_pos c2]
      · rw [if_neg c2, if_neg c2]
    · simp only [c, ne_eq, not_true_eq_false, not_false_eq_true, if_false]
      by_cases c2 : tNum T k = M 7 (280 + k)
      · rw [if_pos c2, if_pos c2]
      · rw [if_neg c2, if_neg c2]
