/-! PURE: reads of the reference's row -/
theorem told9_in {h : Nat} {M : xMem} (ok : RowOk (M 7)) (hh : h < 6) : g9_isTold (nI h) M = some (b2i (M 7 (268 + h) ≠ 0), M) := by
  unfold g9_isTold
  simp (disch := omega) only [mset_eq, i_lt0, i_cl, i_ll, i_lr, i_tl, i_tr, i_el, i_er, i_le, i_lt, i_eq, i_al, i_ar, i_sr, i_sl, i_ml, i_mr, i_dr, i_cll, nI_add, pk_mul, i_sub, nle_f, nle_t, nlt_f, nlt_t, neq_f, if_true, if_false, ite_true, ite_false, false_or, or_false, true_or, or_true, or_self, not_false_eq_true, not_true_eq_false, Option.bind_some, Nat.zero_add, Nat.add_zero]
  rcases ok.told hh with c | c <;> simp [c, b2i]
theorem told9_lo {a : Int32} {M : xMem} (h : a < 0) : g9_isTold a M = some (0, M) := by unfold g9_isTold; rw [if_pos h]
theorem told9_hi {a : Int32} {M : xMem} (h : nI 6 ≤ a) : g9_isTold a M = some (0, M) := by
  unfold g9_isTold; rw [if_neg (i_ge (by omega) h), if_pos (show (6 : Int32) ≤ a from h)]
theorem sq196 {R : Nat → Int32} (ok : RowOk R) {h : Nat} (hh : h < 6) : (196 ≤ R (274 + h)) = (R (274 + h) = 196) := by
  obtain ⟨j, hj, e⟩ := ok.sq hh
  rw [e]
  simp (disch := omega) only [mset_eq, i_lt0, i_cl, i_ll, i_lr, i_tl, i_tr, i_el, i_er, i_le, i_lt, i_eq, i_al, i_ar, i_sr, i_sl, i_ml, i_mr, i_dr, i_cll, nI_add, pk_mul, i_sub, nle_f, nle_t, nlt_f, nlt_t, neq_f, if_true, if_false, ite_true, ite_false, false_or, or_false, true_or, or_true, or_self, not_false_eq_true, not_true_eq_false, Option.bind_some, Nat.zero_add, Nat.add_zero]
  exact propext (by omega)
theorem on9_in {h : Nat} {M : xMem} (ok : RowOk (M 7)) (hh : h < 6) : g9_isOn (nI h) M = some (b2i (sOn (M 7) h), M) := by
  unfold g9_isOn
  rw [told9_in ok hh]
  simp (disch := omega) only [mset_eq, i_lt0, i_cl, i_ll, i_lr, i_tl, i_tr, i_el, i_er, i_le, i_lt, i_eq, i_al, i_ar, i_sr, i_sl, i_ml, i_mr, i_dr, i_cll, nI_add, pk_mul, i_sub, nle_f, nle_t, nlt_f, nlt_t, neq_f, if_true, if_false, ite_true, ite_false, false_or, or_false, true_or, or_true, or_self, not_false_eq_true, not_true_eq_false, Option.bind_some, Nat.zero_add, Nat.add_zero, b2i_0, sq196 ok hh]
  by_cases c1 : M 7 (268 + h) = 0
  · simp [c1, b2i, sOn]
  by_cases c2 : M 7 (280 + h) ≤ 0
  · simp [c1, c2, b2i, sOn]
  by_cases c3 : M 7 (274 + h) = 196
  · simp [c1, c2, c3, b2i, sOn]
  · simp [c1, c2, c3, b2i, sOn]
theorem on9_lo {a : Int32} {M : xMem} (h : a < 0) : g9_isOn a M = some (0, M) := by
  unfold g9_isOn; rw [told9_lo h]; rfl
theorem on9_hi {a : Int32} {M : xMem} (h : nI 6 ≤ a) : g9_isOn a M = some (0, M) := by
  unfold g9_isOn; rw [told9_hi h]; rfl
theorem living9_b {M : xMem} (ok : RowOk (M 7)) : ∀ (d k n : Nat), k + d = 6 → d < n → g9_living_b4 n (sumF (sLive (M 7)) k) (nI k) M = some (sLiving (M 7), M)
  | 0, k, n + 1, hk, hn => by
    obtain rfl : k = 6 := by omega
    unfold g9_living_b4
    simp (disch := omega) only [mset_eq, i_lt0, i_cl, i_ll, i_lr, i_tl, i_tr, i_el, i_er, i_le, i_lt, i_eq, i_al, i_ar, i_sr, i_sl, i_ml, i_mr, i_dr, i_cll, nI_add, pk_mul, i_sub, nle_f, nle_t, nlt_f, nlt_t, neq_f, if_true, if_false, ite_true, ite_false, false_or, or_false, true_or, or_true, or_self, not_false_eq_true, not_true_eq_false, Option.bind_some, Nat.zero_add, Nat.add_zero]
    rfl
  | d + 1, k, n + 1, hk, hn => by
    have ih := living9_b (M := M) ok d (k + 1) n (by omega) (by omega)
    unfold g9_living_b4 g9_living_b33
    rw [told9_in ok (show k < 6 by omega)]
    simp (disch := omega) only [mset_eq, i_lt0, i_cl, i_ll, i_lr, i_tl, i_tr, i_el, i_er, i_le, i_lt, i_eq, i_al, i_ar, i_sr, i_sl, i_ml, i_mr, i_dr, i_cll, nI_add, pk_mul, i_sub, nle_f, nle_t, nlt_f, nlt_t, neq_f, if_true, if_false, ite_true, ite_false, false_or, or_false, true_or, or_true, or_self, not_false_eq_true, not_true_eq_false, Option.bind_some, Nat.zero_add, Nat.add_zero, b2i_0]
    have e : sumF (sLive (M 7)) (k + 1) = sumF (sLive (M 7)) k + sLive (M 7) k := rfl
    rw [← ih, e]
    unfold sLive
    by_cases c : M 7 (268 + k) = 0
    · simp [c]
    · simp [c]
theorem living9_eq {M : xMem} (ok : RowOk (M 7)) : g9_living M = some (sLiving (M 7), M) := living9_b ok 6 0 5000 rfl (by omega)
theorem through9_b {M : xMem} (ok : RowOk (M 7)) : ∀ (d k n : Nat), k + d = 6 → d < n → g9_through_b4 n (sumF (sThro (M 7)) k) (nI k) M = some (sThrough (M 7), M)
  | 0, k, n + 1, hk, hn => by
    obtain rfl : k = 6 := by omega
    unfold g9_through_b4
    simp (disch := omega) only [mset_eq, i_lt0, i_cl, i_ll, i_lr, i_tl, i_tr, i_el, i_er, i_le, i_lt, i_eq, i_al, i_ar, i_sr, i_sl, i_ml, i_mr, i_dr, i_cll, nI_add, pk_mul, i_sub, nle_f, nle_t, nlt_f, nlt_t, neq_f, if_true, if_false, ite_true, ite_false, false_or, or_false, true_or, or_true, or_self, not_false_eq_true, not_true_eq_false, Option.bind_some, Nat.zero_add, Nat.add_zero]
    rfl
  | d + 1, k, n + 1, hk, hn => by
    have ih := through9_b (M := M) ok d (k + 1) n (by omega) (by omega)
    unfold g9_through_b4 g9_through_b48 g9_through_b49
    rw [told9_in ok (show k < 6 by omega)]
    simp (disch := omega) only [mset_eq, i_lt0, i_cl, i_ll, i_lr, i_tl, i_tr, i_el, i_er, i_le, i_lt, i_eq, i_al, i_ar, i_sr, i_sl, i_ml, i_mr, i_dr, i_cll, nI_add, pk_mul, i_sub, nle_f, nle_t, nlt_f, nlt_t, neq_f, if_true, if_false, ite_true, ite_false, false_or, or_false, true_or, or_true, or_self, not_false_eq_true, not_true_eq_false, Option.bind_some, Nat.zero_add, Nat.add_zero, b2i_0]
    have e : sumF (sThro (M 7)) (k + 1) = sumF (sThro (M 7)) k + sThro (M 7) k := rfl
    rw [← ih, e]
    unfold sThro
    by_cases c : M 7 (268 + k) = 0
    · simp [c]
    · by_cases c2 : M 7 (274 + k) = 196
      · simp [c, c2]
      · simp [c, c2]
theorem through9_eq {M : xMem} (ok : RowOk (M 7)) : g9_through M = some (sThrough (M 7), M) := through9_b ok 6 0 5000 rfl (by omega)
theorem herdBits9_b0 {M : xMem} (ok : RowOk (M 7)) : ∀ (d k n : Nat), k + d = 6 → d < n → g9_herdBits_b4 n 0 (orF (sToldB (M 7)) k) (nI k) M = some (orF (sToldB (M 7)) 6, M)
  | 0, k, n + 1, hk, hn => by
    obtain rfl : k = 6 := by omega
    unfold g9_herdBits_b4
    simp (disch := omega) only [mset_eq, i_lt0, i_cl, i_ll, i_lr, i_tl, i_tr, i_el, i_er, i_le, i_lt, i_eq, i_al, i_ar, i_sr, i_sl, i_ml, i_mr, i_dr, i_cll, nI_add, pk_mul, i_sub, nle_f, nle_t, nlt_f, nlt_t, neq_f, if_true, if_false, ite_true, ite_false, false_or, or_false, true_or, or_true, or_self, not_false_eq_true, not_true_eq_false, Option.bind_some, Nat.zero_add, Nat.add_zero]
  | d + 1, k, n + 1, hk, hn => by
    have ih := herdBits9_b0 (M := M) ok d (k + 1) n (by omega) (by omega)
    unfold g9_herdBits_b4 g9_herdBits_b33 g9_herdBits_b39
    rw [told9_in ok (show k < 6 by omega)]
    simp (disch := omega) only [mset_eq, i_lt0, i_cl, i_ll, i_lr, i_tl, i_tr, i_el, i_er, i_le, i_lt, i_eq, i_al, i_ar, i_sr, i_sl, i_ml, i_mr, i_dr, i_cll, nI_add, pk_mul, i_sub, nle_f, nle_t, nlt_f, nlt_t, neq_f, if_true, if_false, ite_true, ite_false, false_or, or_false, true_or, or_true, or_self, not_false_eq_true, not_true_eq_false, Option.bind_some, Nat.zero_add, Nat.add_zero, b2i_0]
    have e : orF (sToldB (M 7)) (k + 1) = orF (sToldB (M 7)) k ||| sToldB (M 7) k := rfl
    rw [← ih, e]
    unfold sToldB sBit
    by_cases c : M 7 (268 + k) = 0
    · simp [c]
    · simp [c]
theorem herdBits9_b1 {M : xMem} (ok : RowOk (M 7)) : ∀ (d k n : Nat), k + d = 6 → d < n → g9_herdBits_b4 n 1 (orF (sOnB (M 7)) k) (nI k) M = some (orF (sOnB (M 7)) 6, M)
  | 0, k, n + 1, hk, hn => by
    obtain rfl : k = 6 := by omega
    unfold g9_herdBits_b4
    simp (disch := omega) only [mset_eq, i_lt0, i_cl, i_ll, i_lr, i_tl, i_tr, i_el, i_er, i_le, i_lt, i_eq, i_al, i_ar, i_sr, i_sl, i_ml, i_mr, i_dr, i_cll, nI_add, pk_mul, i_sub, nle_f, nle_t, nlt_f, nlt_t, neq_f, if_true, if_false, ite_true, ite_false, false_or, or_false, true_or, or_true, or_self, not_false_eq_true, not_true_eq_false, Option.bind_some, Nat.zero_add, Nat.add_zero]
  | d + 1, k, n + 1, hk, hn => by
    have ih := herdBits9_b1 (M := M) ok d (k + 1) n (by omega) (by omega)
    unfold g9_herdBits_b4 g9_herdBits_b33 g9_herdBits_b39
    rw [on9_in ok (show k < 6 by omega)]
    simp (disch := omega) only [mset_eq, i_lt0, i_cl, i_ll, i_lr, i_tl, i_tr, i_el, i_er, i_le, i_lt, i_eq, i_al, i_ar, i_sr, i_sl, i_ml, i_mr, i_dr, i_cll, nI_add, pk_mul, i_sub, nle_f, nle_t, nlt_f, nlt_t, neq_f, if_true, if_false, ite_true, ite_false, false_or, or_false, true_or, or_true, or_self, not_false_eq_true, not_true_eq_false, Option.bind_some, Nat.zero_add, Nat.add_zero, b2i_0]
    rw [if_neg (show ¬ (1 : Int32) = 0 by decide)]
    have e : orF (sOnB (M 7)) (k + 1) = orF (sOnB (M 7)) k ||| sOnB (M 7) k := rfl
    rw [← ih, e]
    unfold sOnB sBit
    by_cases c : sOn (M 7) k = true
    · simp [c]
    · simp [c]
theorem herdBits9_0 {M : xMem} (ok : RowOk (M 7)) : g9_herdBits 0 M = some (orF (sToldB (M 7)) 6, M) := herdBits9_b0 ok 6 0 5000 rfl (by omega)
theorem herdBits9_1 {M : xMem} (ok : RowOk (M 7)) : g9_herdBits 1 M = some (orF (sOnB (M 7)) 6, M) := herdBits9_b1 ok 6 0 5000 rfl (by omega)
/-- lit: an inn, a stray, a herd's fire -/
def sLit (R : Nat → Int32) (l : Nat) : Bool :=
  if 12 ≤ l then sOn R (l - 12) && decide (R (298 + (l - 12)) ≠ 0)
  else decide (R (196 + l) ≠ 0) && (if 9 ≤ l then decide (R (256 + l) ≠ 0) else decide (0 < R (232 + l)) || decide (0 < R (244 + l)))
theorem le0_lt {R : Nat → Int32} (ok : RowOk R) {l : Nat} (hl : l < 12) : (R (244 + l) ≤ 0) = ¬ (0 < R (244 + l)) := by
  obtain ⟨j, hj, e⟩ := ok.dog hl
  rw [e]
  simp (disch := omega) only [mset_eq, i_lt0, i_cl, i_ll, i_lr, i_tl, i_tr, i_el, i_er, i_le, i_lt, i_eq, i_al, i_ar, i_sr, i_sl, i_ml, i_mr, i_dr, i_cll, nI_add, pk_mul, i_sub, nle_f, nle_t, nlt_f, nlt_t, neq_f, if_true, if_false, ite_true, ite_false, false_or, or_false, true_or, or_true, or_self, not_false_eq_true, not_true_eq_false, Option.bind_some, Nat.zero_add, Nat.add_zero]
  exact propext (by omega)
theorem b2i_ck {c : Bool} {α : Type} {x y : α} : (if b2i (c = true) = 0 ∨ b2i (c = true) = 1 then x else y) = x := by
  cases c <;> rfl
theorem lamp_lit {p l : Nat} {M : xMem} (ok : RowOk (M p)) (hl : l < 12) : g2_isLit p (nI l) M = some (b2i (sLit (M p) l), M) := by
  unfold g2_isLit g2_isLit_b45
  simp (disch := omega) only [mset_eq, i_lt0, i_cl, i_ll, i_lr, i_tl, i_tr, i_el, i_er, i_le, i_lt, i_eq, i_al, i_ar, i_sr, i_sl, i_ml, i_mr, i_dr, i_cll, nI_add, pk_mul, i_sub, nle_f, nle_t, nlt_f, nlt_t, neq_f, if_true, if_false, ite_true, ite_false, false_or, or_false, true_or, or_true, or_self, not_false_eq_true, not_true_eq_false, Option.bind_some, Nat.zero_add, Nat.add_zero, le0_lt ok hl]
  unfold sLit
  simp (disch := omega) only [mset_eq, i_lt0, i_cl, i_ll, i_lr, i_tl, i_tr, i_el, i_er, i_le, i_lt, i_eq, i_al, i_ar, i_sr, i_sl, i_ml, i_mr, i_dr, i_cll, nI_add, pk_mul, i_sub, nle_f, nle_t, nlt_f, nlt_t, neq_f, if_true, if_false, ite_true, ite_false, false_or, or_false, true_or, or_true, or_self, not_false_eq_true, not_true_eq_false, Option.bind_some, Nat.zero_add, Nat.add_zero]
  rcases ok.there hl with c1 | c1
  · simp [c1, b2i]
  by_cases h9 : 9 ≤ l
  · rcases ok.stray hl with c2 | c2 <;> simp [c1, c2, h9, b2i]
  · by_cases c2 : 0 < M p (232 + l)
    · simp [c1, c2, h9, b2i]
    · by_cases c3 : 0 < M p (244 + l)
      · simp [c1, c2, c3, h9, b2i]
      · simp [c1, c2, c3, h9, b2i]
theorem lit_in {p l : Nat} {M : xMem} (ok : RowOk (M p)) (hl : l < 18) : g6_isLit p (nI l) M = some (b2i (sLit (M p) l), M) := by
  unfold g6_isLit
  by_cases h : 12 ≤ l
  · simp (disch := omega) only [mset_eq, i_lt0, i_cl, i_ll, i_lr, i_tl, i_tr, i_el, i_er, i_le, i_lt, i_eq, i_al, i_ar, i_sr, i_sl, i_ml, i_mr, i_dr, i_cll, nI_add, pk_mul, i_sub, nle_f, nle_t, nlt_f, nlt_t, neq_f, if_true, if_false, ite_true, ite_false, false_or, or_false, true_or, or_true, or_self, not_false_eq_true, not_true_eq_false, Option.bind_some, Nat.zero_add, Nat.add_zero]
    rw [on_in (show l - 12 < 6 by omega)]
    simp (disch := omega) only [mset_eq, i_lt0, i_cl, i_ll, i_lr, i_tl, i_tr, i_el, i_er, i_le, i_lt, i_eq, i_al, i_ar, i_sr, i_sl, i_ml, i_mr, i_dr, i_cll, nI_add, pk_mul, i_sub, nle_f, nle_t, nlt_f, nlt_t, neq_f, if_true, if_false, ite_true, ite_false, false_or, or_false, true_or, or_true, or_self, not_false_eq_true, not_true_eq_false, Option.bind_some, Nat.zero_add, Nat.add_zero, b2i_0]
    unfold sLit
    simp (disch := omega) only [mset_eq, i_lt0, i_cl, i_ll, i_lr, i_tl, i_tr, i_el, i_er, i_le, i_lt, i_eq, i_al, i_ar, i_sr, i_sl, i_ml, i_mr, i_dr, i_cll, nI_add, pk_mul, i_sub, nle_f, nle_t, nlt_f, nlt_t, neq_f, if_true, if_false, ite_true, ite_false, false_or, or_false, true_or, or_true, or_self, not_false_eq_true, not_true_eq_false, Option.bind_some, Nat.zero_add, Nat.add_zero]
    by_cases c : sOn (M p) (l - 12) = true
    · rcases ok.fire (show l - 12 < 6 by omega) with c2 | c2 <;> simp [c, c2, b2i]
    · simp [c, b2i]
  · simp (disch := omega) only [mset_eq, i_lt0, i_cl, i_ll, i_lr, i_tl, i_tr, i_el, i_er, i_le, i_lt, i_eq, i_al, i_ar, i_sr, i_sl, i_ml, i_mr, i_dr, i_cll, nI_add, pk_mul, i_sub, nle_f, nle_t, nlt_f, nlt_t, neq_f, if_true, if_false, ite_true, ite_false, false_or, or_false, true_or, or_true, or_self, not_false_eq_true, not_true_eq_false, Option.bind_some, Nat.zero_add, Nat.add_zero]
    rw [lamp_lit ok (by omega)]
    simp (disch := omega) only [mset_eq, i_lt0, i_cl, i_ll, i_lr, i_tl, i_tr, i_el, i_er, i_le, i_lt, i_eq, i_al, i_ar, i_sr, i_sl, i_ml, i_mr, i_dr, i_cll, nI_add, pk_mul, i_sub, nle_f, nle_t, nlt_f, nlt_t, neq_f, if_true, if_false, ite_true, ite_false, false_or, or_false, true_or, or_true, or_self, not_false_eq_true, not_true_eq_false, Option.bind_some, Nat.zero_add, Nat.add_zero, b2i_ck]
theorem lit9_in {l : Nat} {M : xMem} (ok : RowOk (M 7)) (hl : l < 18) : g9_isLit (nI l) M = some (b2i (sLit (M 7) l), M) := by
  unfold g9_isLit g9_isLit_b94
  by_cases h : 12 ≤ l
  · simp (disch := omega) only [mset_eq, i_lt0, i_cl, i_ll, i_lr, i_tl, i_tr, i_el, i_er, i_le, i_lt, i_eq, i_al, i_ar, i_sr, i_sl, i_ml, i_mr, i_dr, i_cll, nI_add, pk_mul, i_sub, nle_f, nle_t, nlt_f, nlt_t, neq_f, if_true, if_false, ite_true, ite_false, false_or, or_false, true_or, or_true, or_self, not_false_eq_true, not_true_eq_false, Option.bind_some, Nat.zero_add, Nat.add_zero]
    rw [on9_in ok (show l - 12 < 6 by omega)]
    simp (disch := omega) only [mset_eq, i_lt0, i_cl, i_ll, i_lr, i_tl, i_tr, i_el, i_er, i_le, i_lt, i_eq, i_al, i_ar, i_sr, i_sl, i_ml, i_mr, i_dr, i_cll, nI_add, pk_mul, i_sub, nle_f, nle_t, nlt_f, nlt_t, neq_f, if_true, if_false, ite_true, ite_false, false_or, or_false, true_or, or_true, or_self, not_false_eq_true, not_true_eq_false, Option.bind_some, Nat.zero_add, Nat.add_zero, b2i_0]
    unfold sLit
    simp (disch := omega) only [mset_eq, i_lt0, i_cl, i_ll, i_lr, i_tl, i_tr, i_el, i_er, i_le, i_lt, i_eq, i_al, i_ar, i_sr, i_sl, i_ml, i_mr, i_dr, i_cll, nI_add, pk_mul, i_sub, nle_f, nle_t, nlt_f, nlt_t, neq_f, if_true, if_false, ite_true, ite_false, false_or, or_false, true_or, or_true, or_self, not_false_eq_true, not_true_eq_false, Option.bind_some, Nat.zero_add, Nat.add_zero]
    rw [show 298 + l - 12 = 298 + (l - 12) by omega]
    by_cases c : sOn (M 7) (l - 12) = true
    · rcases ok.fire (show l - 12 < 6 by omega) with c2 | c2 <;> simp [c, c2, b2i]
    · simp [c, b2i]
  · simp (disch := omega) only [mset_eq, i_lt0, i_cl, i_ll, i_lr, i_tl, i_tr, i_el, i_er, i_le, i_lt, i_eq, i_al, i_ar, i_sr, i_sl, i_ml, i_mr, i_dr, i_cll, nI_add, pk_mul, i_sub, nle_f, nle_t, nlt_f, nlt_t, neq_f, if_true, if_false, ite_true, ite_false, false_or, or_false, true_or, or_true, or_self, not_false_eq_true, not_true_eq_false, Option.bind_some, Nat.zero_add, Nat.add_zero]
    unfold sLit
    simp (disch := omega) only [mset_eq, i_lt0, i_cl, i_ll, i_lr, i_tl, i_tr, i_el, i_er, i_le, i_lt, i_eq, i_al, i_ar, i_sr, i_sl, i_ml, i_mr, i_dr, i_cll, nI_add, pk_mul, i_sub, nle_f, nle_t, nlt_f, nlt_t, neq_f, if_true, if_false, ite_true, ite_false, false_or, or_false, true_or, or_true, or_self, not_false_eq_true, not_true_eq_false, Option.bind_some, Nat.zero_add, Nat.add_zero]
    rcases ok.there (show l < 12 by omega) with c1 | c1
    · simp [c1, b2i]
    by_cases h9 : 9 ≤ l
    · rw [ok.paid0 h9 (by omega), ok.dog0 h9 (by omega)]
      rcases ok.stray (show l < 12 by omega) with c2 | c2 <;> simp [c1, c2, h9, b2i]
    · rw [ok.stray0 (show l < 9 by omega)]
      by_cases c2 : 0 < M 7 (232 + l)
      · simp [c1, c2, h9, b2i]
      · by_cases c3 : 0 < M 7 (244 + l)
        · simp [c1, c2, c3, h9, b2i]
        · simp [c1, c2, c3, h9, b2i]
def sLitB (R : Nat → Int32) (l : Nat) : Int32 := sBit (sLit R l) l
theorem litBits_b {p : Nat} {M : xMem} (ok : RowOk (M p)) : ∀ (d k n : Nat), k + d = 18 → d < n → g6_litBits_b4 p n (orF (sLitB (M p)) k) (nI k) M = some (orF (sLitB (M p)) 18, M)
  | 0, k, n + 1, hk, hn => by
    obtain rfl : k = 18 := by omega
    unfold g6_litBits_b4
    simp (disch := omega) only [mset_eq, i_lt0, i_cl, i_ll, i_lr, i_tl, i_tr, i_el, i_er, i_le, i_lt, i_eq, i_al, i_ar, i_sr, i_sl, i_ml, i_mr, i_dr, i_cll, nI_add, pk_mul, i_sub, nle_f, nle_t, nlt_f, nlt_t, neq_f, if_true, if_false, ite_true, ite_false, false_or, or_false, true_or, or_true, or_self, not_false_eq_true, not_true_eq_false, Option.bind_some, Nat.zero_add, Nat.add_zero]
  | d + 1, k, n + 1, hk, hn => by
    have ih := litBits_b (p := p) (M := M) ok d (k + 1) n (by omega) (by omega)
    unfold g6_litBits_b4 g6_litBits_b26
    rw [lit_in ok (show k < 18 by omega)]
    simp (disch := omega) only [mset_eq, i_lt0, i_cl, i_ll, i_lr, i_tl, i_tr, i_el, i_er, i_le, i_lt, i_eq, i_al, i_ar, i_sr, i_sl, i_ml, i_mr, i_dr, i_cll, nI_add, pk_mul, i_sub, nle_f, nle_t, nlt_f, nlt_t, neq_f, if_true, if_false, ite_true, ite_false, false_or, or_false, true_or, or_true, or_self, not_false_eq_true, not_true_eq_false, Option.bind_some, Nat.zero_add, Nat.add_zero, b2i_0]
    have e : orF (sLitB (M p)) (k + 1) = orF (sLitB (M p)) k ||| sLitB (M p) k := rfl
    rw [← ih, e]
    unfold sLitB sBit
    by_cases c : sLit (M p) k = true
    · simp [c]
    · simp [c]
theorem litBits_eq {p : Nat} {M : xMem} (ok : RowOk (M p)) : g6_litBits p M = some (orF (sLitB (M p)) 18, M) := litBits_b (p := p) ok 18 0 5000 rfl (by omega)
theorem litBits9_b {M : xMem} (ok : RowOk (M 7)) : ∀ (d k n : Nat), k + d = 18 → d < n → g9_litBits_b4 n (orF (sLitB (M 7)) k) (nI k) M = some (orF (sLitB (M 7)) 18, M)
  | 0, k, n + 1, hk, hn => by
    obtain rfl : k = 18 := by omega
    unfold g9_litBits_b4
    simp (disch := omega) only [mset_eq, i_lt0, i_cl, i_ll, i_lr, i_tl, i_tr, i_el, i_er, i_le, i_lt, i_eq, i_al, i_ar, i_sr, i_sl, i_ml, i_mr, i_dr, i_cll, nI_add, pk_mul, i_sub, nle_f, nle_t, nlt_f, nlt_t, neq_f, if_true, if_false, ite_true, ite_false, false_or, or_false, true_or, or_true, or_self, not_false_eq_true, not_true_eq_false, Option.bind_some, Nat.zero_add, Nat.add_zero]
  | d + 1, k, n + 1, hk, hn => by
    have ih := litBits9_b (M := M) ok d (k + 1) n (by omega) (by omega)
    unfold g9_litBits_b4 g9_litBits_b24
    rw [lit9_in ok (show k < 18 by omega)]
    simp (disch := omega) only [mset_eq, i_lt0, i_cl, i_ll, i_lr, i_tl, i_tr, i_el, i_er, i_le, i_lt, i_eq, i_al, i_ar, i_sr, i_sl, i_ml, i_mr, i_dr, i_cll, nI_add, pk_mul, i_sub, nle_f, nle_t, nlt_f, nlt_t, neq_f, if_true, if_false, ite_true, ite_false, false_or, or_false, true_or, or_true, or_self, not_false_eq_true, not_true_eq_false, Option.bind_some, Nat.zero_add, Nat.add_zero, b2i_0]
    have e : orF (sLitB (M 7)) (k + 1) = orF (sLitB (M 7)) k ||| sLitB (M 7) k := rfl
    rw [← ih, e]
    unfold sLitB sBit
    by_cases c : sLit (M 7) k = true
    · simp [c]
    · simp [c]
theorem litBits9_eq {M : xMem} (ok : RowOk (M 7)) : g9_litBits M = some (orF (sLitB (M 7)) 18, M) := litBits9_b ok 18 0 5000 rfl (by omega)
