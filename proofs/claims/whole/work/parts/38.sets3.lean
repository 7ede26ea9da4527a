/-! PURE: dog, ground, inn, stray, herd -/
theorem z10 : (1 : Int32) = 0 ↔ False := by decide
theorem z01 : (0 : Int32) = 1 ↔ False := by decide
theorem pair_dog (a b : Int32) : Pair (g8_dog a b) (g9_dog a b) := by
  intro M I
  unfold g8_dog g9_dog g8_isInnThere
  rw [in8_9, inn9_cases]
  rcases in_cases a 0 8 0 8 with h | ⟨l, -, hl, rfl, h⟩
  · refine ⟨0, M, M, ?_, by rw [h]; rfl, I⟩
    by_cases h9 : (9 : Int32) ≤ a
    · rw [if_pos h9]; rfl
    · have hn : a < 0 := by
        rcases i3 a (n := 9) (by omega) with q | q | ⟨j, hj, rfl⟩
        · exact q
        · exact absurd q h9
        · exfalso
          have := h M
          unfold g9_in at this
          simp (disch := omega) only [mset_eq, i_lt0, i_cl, i_ll, i_lr, i_tl, i_tr, i_el, i_er, i_le, i_lt, i_eq, i_al, i_ar, i_sr, i_sl, i_ml, i_mr, i_dr, i_cll, nI_add, pk_mul, i_sub, nle_f, nle_t, nlt_f, nlt_t, neq_f, if_true, if_false, ite_true, ite_false, false_or, or_false, true_or, or_true, or_self, not_false_eq_true, not_true_eq_false, Option.bind_some, Nat.zero_add, Nat.add_zero] at this
          cases this
      rw [if_neg h9, stands_lo hn]; rfl
  · simp (disch := omega) only [mset_eq, i_lt0, i_cl, i_ll, i_lr, i_tl, i_tr, i_el, i_er, i_le, i_lt, i_eq, i_al, i_ar, i_sr, i_sl, i_ml, i_mr, i_dr, i_cll, nI_add, pk_mul, i_sub, nle_f, nle_t, nlt_f, nlt_t, neq_f, if_true, if_false, ite_true, ite_false, false_or, or_false, true_or, or_true, or_self, not_false_eq_true, not_true_eq_false, Option.bind_some, Nat.zero_add, Nat.add_zero]
    rcases stands_cases (nI l) I with ⟨h1, h2⟩ | ⟨l', hl', e, -, h1, h2⟩
    · refine ⟨0, M, M, ?_, ?_, I⟩
      · simp (disch := omega) only [h1, mset_eq, i_lt0, i_cl, i_ll, i_lr, i_tl, i_tr, i_el, i_er, i_le, i_lt, i_eq, i_al, i_ar, i_sr, i_sl, i_ml, i_mr, i_dr, i_cll, nI_add, pk_mul, i_sub, nle_f, nle_t, nlt_f, nlt_t, neq_f, if_true, if_false, ite_true, ite_false, false_or, or_false, true_or, or_true, or_self, not_false_eq_true, not_true_eq_false, Option.bind_some, Nat.zero_add, Nat.add_zero]
      · simp (disch := omega) only [h, h2, z10, mset_eq, i_lt0, i_cl, i_ll, i_lr, i_tl, i_tr, i_el, i_er, i_le, i_lt, i_eq, i_al, i_ar, i_sr, i_sl, i_ml, i_mr, i_dr, i_cll, nI_add, pk_mul, i_sub, nle_f, nle_t, nlt_f, nlt_t, neq_f, if_true, if_false, ite_true, ite_false, false_or, or_false, true_or, or_true, or_self, not_false_eq_true, not_true_eq_false, Option.bind_some, Nat.zero_add, Nat.add_zero]
    · rcases in_cases b 0 99 0 99 with h' | ⟨j, -, hj, rfl, h'⟩
      · refine ⟨0, M, M, ?_, ?_, I⟩
        · simp (disch := omega) only [h1, h', z10, mset_eq, i_lt0, i_cl, i_ll, i_lr, i_tl, i_tr, i_el, i_er, i_le, i_lt, i_eq, i_al, i_ar, i_sr, i_sl, i_ml, i_mr, i_dr, i_cll, nI_add, pk_mul, i_sub, nle_f, nle_t, nlt_f, nlt_t, neq_f, if_true, if_false, ite_true, ite_false, false_or, or_false, true_or, or_true, or_self, not_false_eq_true, not_true_eq_false, Option.bind_some, Nat.zero_add, Nat.add_zero]
        · simp (disch := omega) only [h, h2, h', z10, mset_eq, i_lt0, i_cl, i_ll, i_lr, i_tl, i_tr, i_el, i_er, i_le, i_lt, i_eq, i_al, i_ar, i_sr, i_sl, i_ml, i_mr, i_dr, i_cll, nI_add, pk_mul, i_sub, nle_f, nle_t, nlt_f, nlt_t, neq_f, if_true, if_false, ite_true, ite_false, false_or, or_false, true_or, or_true, or_self, not_false_eq_true, not_true_eq_false, Option.bind_some, Nat.zero_add, Nat.add_zero]
      · refine ⟨1, upM M 0 (244 + l) (nI j), upM (upM M 0 (244 + l) (nI j)) 7 (244 + l) (nI j), ?_, ?_, I.up2 (by omega) (ok_le (bd_dog l (by omega)) hj)⟩
        · simp (disch := omega) only [h1, h', z10, mset_eq, i_lt0, i_cl, i_ll, i_lr, i_tl, i_tr, i_el, i_er, i_le, i_lt, i_eq, i_al, i_ar, i_sr, i_sl, i_ml, i_mr, i_dr, i_cll, nI_add, pk_mul, i_sub, nle_f, nle_t, nlt_f, nlt_t, neq_f, if_true, if_false, ite_true, ite_false, false_or, or_false, true_or, or_true, or_self, not_false_eq_true, not_true_eq_false, Option.bind_some, Nat.zero_add, Nat.add_zero]
        · have h3 := lamp9_of0 (N := upM M 0 (244 + l) (nI j)) (up_b (show (7 : Nat) ≠ 0 by decide)) _ h2
          simp (disch := omega) only [h, h3, h', z10, mset_eq, i_lt0, i_cl, i_ll, i_lr, i_tl, i_tr, i_el, i_er, i_le, i_lt, i_eq, i_al, i_ar, i_sr, i_sl, i_ml, i_mr, i_dr, i_cll, nI_add, pk_mul, i_sub, nle_f, nle_t, nlt_f, nlt_t, neq_f, if_true, if_false, ite_true, ite_false, false_or, or_false, true_or, or_true, or_self, not_false_eq_true, not_true_eq_false, Option.bind_some, Nat.zero_add, Nat.add_zero]
theorem pair_ground (a b s : Int32) : Pair (g8_ground a b s) (g9_ground a b s) := by
  intro M I
  unfold g8_ground g9_ground g8_ground_b46 g9_ground_b37
  rw [in8_9, sq8_9]
  rcases isIn_cases a b with h | ⟨i, j, hi, hj, rfl, rfl, h⟩
  · exact ⟨0, M, M, by rw [h]; rfl, by rw [h]; rfl, I⟩
  rcases in_cases s 0 3 0 3 with h' | ⟨k, -, hk, rfl, h'⟩
  · refine ⟨0, M, M, ?_, ?_, I⟩ <;> simp (disch := omega) only [h, h', z10, mset_eq, i_lt0, i_cl, i_ll, i_lr, i_tl, i_tr, i_el, i_er, i_le, i_lt, i_eq, i_al, i_ar, i_sr, i_sl, i_ml, i_mr, i_dr, i_cll, nI_add, pk_mul, i_sub, nle_f, nle_t, nlt_f, nlt_t, neq_f, if_true, if_false, ite_true, ite_false, false_or, or_false, true_or, or_true, or_self, not_false_eq_true, not_true_eq_false, Option.bind_some, Nat.zero_add, Nat.add_zero]
  by_cases c : k = 3 ∧ sTaken (M 0) (nI (14 * j + i)) = true
  · obtain ⟨rfl, c⟩ := c
    refine ⟨0, M, M, ?_, ?_, I⟩
    · simp (disch := omega) only [h, h', z10, mset_eq, i_lt0, i_cl, i_ll, i_lr, i_tl, i_tr, i_el, i_er, i_le, i_lt, i_eq, i_al, i_ar, i_sr, i_sl, i_ml, i_mr, i_dr, i_cll, nI_add, pk_mul, i_sub, nle_f, nle_t, nlt_f, nlt_t, neq_f, if_true, if_false, ite_true, ite_false, false_or, or_false, true_or, or_true, or_self, not_false_eq_true, not_true_eq_false, Option.bind_some, Nat.zero_add, Nat.add_zero, taken_eq, c, b2i_0, i_er]
    · simp (disch := omega) only [h, h', z10, mset_eq, i_lt0, i_cl, i_ll, i_lr, i_tl, i_tr, i_el, i_er, i_le, i_lt, i_eq, i_al, i_ar, i_sr, i_sl, i_ml, i_mr, i_dr, i_cll, nI_add, pk_mul, i_sub, nle_f, nle_t, nlt_f, nlt_t, neq_f, if_true, if_false, ite_true, ite_false, false_or, or_false, true_or, or_true, or_self, not_false_eq_true, not_true_eq_false, Option.bind_some, Nat.zero_add, Nat.add_zero, taken9_eq I.ok7, I.eq7, c, b2i_0, i_er]
  · refine ⟨1, upM M 0 (14 * j + i) (nI k), upM (upM M 0 (14 * j + i) (nI k)) 7 (14 * j + i) (nI k), ?_, ?_, I.up2 (by omega) (ok_le (bd_sort (by omega)) hk)⟩
    · simp (disch := omega) only [h, h', z10, mset_eq, i_lt0, i_cl, i_ll, i_lr, i_tl, i_tr, i_el, i_er, i_le, i_lt, i_eq, i_al, i_ar, i_sr, i_sl, i_ml, i_mr, i_dr, i_cll, nI_add, pk_mul, i_sub, nle_f, nle_t, nlt_f, nlt_t, neq_f, if_true, if_false, ite_true, ite_false, false_or, or_false, true_or, or_true, or_self, not_false_eq_true, not_true_eq_false, Option.bind_some, Nat.zero_add, Nat.add_zero, taken_eq, b2i_0]
      by_cases c3 : k = 3
      · have c4 : ¬ sTaken (M 0) (nI (14 * j + i)) = true := fun q => c ⟨c3, q⟩
        rw [if_pos c3, if_pos c4]
      · rw [if_neg c3]
    · have I7 : (upM M 0 (14 * j + i) (nI k)) 7 = M 0 := (up_b (show (7 : Nat) ≠ 0 by decide)).trans I.eq7
      have ok7 : RowOk ((upM M 0 (14 * j + i) (nI k)) 7) := by rw [I7]; exact I.ok
      simp (disch := omega) only [h, h', z10, mset_eq, i_lt0, i_cl, i_ll, i_lr, i_tl, i_tr, i_el, i_er, i_le, i_lt, i_eq, i_al, i_ar, i_sr, i_sl, i_ml, i_mr, i_dr, i_cll, nI_add, pk_mul, i_sub, nle_f, nle_t, nlt_f, nlt_t, neq_f, if_true, if_false, ite_true, ite_false, false_or, or_false, true_or, or_true, or_self, not_false_eq_true, not_true_eq_false, Option.bind_some, Nat.zero_add, Nat.add_zero, taken9_eq ok7, I7, b2i_0]
      by_cases c3 : k = 3
      · have c4 : ¬ sTaken (M 0) (nI (14 * j + i)) = true := fun q => c ⟨c3, q⟩
        rw [if_pos c3, if_pos c4]
      · rw [if_neg c3]
/-- the six places of a lamp -/
def lampU (l q k : Nat) (s : Int32) : List (Nat × Int32) := [(196 + l, 1), (208 + l, nI q), (220 + l, nI k), (232 + l, 0), (244 + l, 0), (256 + l, s)]
theorem mem6 {α : Type} {P : α → Prop} {a b c d e f : α} (ha : P a) (hb : P b) (hc : P c) (hd : P d) (he : P e) (hf : P f) : ∀ q ∈ [a, b, c, d, e, f], P q := by
  intro q hq
  simp only [List.mem_cons, List.not_mem_nil, or_false] at hq
  rcases hq with rfl | rfl | rfl | rfl | rfl | rfl <;> assumption
theorem bd_paid' {l : Nat} (hl : l < 12) : ∃ m, bd (232 + l) = some m := by
  by_cases h : l < 9
  · exact ⟨99, bd_paid l h⟩
  · exact ⟨0, bd_paid0 l hl (by omega)⟩
theorem bd_dog' {l : Nat} (hl : l < 12) : ∃ m, bd (244 + l) = some m := by
  by_cases h : l < 9
  · exact ⟨99, bd_dog l h⟩
  · exact ⟨0, bd_dog0 l hl (by omega)⟩
theorem lampU_ok {l q k : Nat} {s : Int32} (hl : l < 12) (hq : q < 196) (hk : k ≤ 4) (hs : s = 0 ∨ (9 ≤ l ∧ s = 1)) : ∀ p ∈ lampU l q k s, p.1 < 331 ∧ okU p := by
  obtain ⟨m1, e1⟩ := bd_paid' hl
  obtain ⟨m2, e2⟩ := bd_dog' hl
  refine mem6 ⟨by simp only; omega, okU_mk (v := 1) (bd_there l hl) (by omega)⟩ ⟨by simp only; omega, okU_mk (bd_lsq l hl) (by omega)⟩ ⟨by simp only; omega, okU_mk (bd_kind l hl) hk⟩
    ⟨by simp only; omega, okU_mk (v := 0) e1 (by omega)⟩ ⟨by simp only; omega, okU_mk (v := 0) e2 (by omega)⟩ ⟨by simp only; omega, ?_⟩
  rcases hs with rfl | ⟨h9, rfl⟩
  · by_cases h : l < 9
    · exact okU_mk (v := 0) (bd_str0 l h) (by omega)
    · exact okU_mk (v := 0) (bd_str l hl (by omega)) (by omega)
  · exact okU_mk (v := 1) (bd_str l hl h9) (by omega)
theorem lamp_pair {l : Nat} (hl : l < 12) (a b k s : Int32) (hs : s = 0 ∨ (9 ≤ l ∧ s = 1)) : Pair (g8_setLamp (nI l) a b k s) (g9_putsLamp (nI l) a b k s) ∧ ∀ M r N, Inv M → g8_setLamp (nI l) a b k s M = some (r, N) → r = 0 ∨ r = 1 := by
  have hs' : s = 0 ∨ s = 1 := hs.imp id And.right
  have hin : ∀ M, g9_in (nI l) 0 11 M = some (1, M) := fun M => by
    unfold g9_in
    simp (disch := omega) only [mset_eq, i_lt0, i_cl, i_ll, i_lr, i_tl, i_tr, i_el, i_er, i_le, i_lt, i_eq, i_al, i_ar, i_sr, i_sl, i_ml, i_mr, i_dr, i_cll, nI_add, pk_mul, i_sub, nle_f, nle_t, nlt_f, nlt_t, neq_f, if_true, if_false, ite_true, ite_false, false_or, or_false, true_or, or_true, or_self, not_false_eq_true, not_true_eq_false, Option.bind_some, Nat.zero_add, Nat.add_zero]
  have key : ∀ M, Inv M → ∃ r M1 N, (r = 0 ∨ r = 1) ∧ g8_setLamp (nI l) a b k s M = some (r, M1) ∧ g9_putsLamp (nI l) a b k s M1 = some (r, N) ∧ Inv N := by
    intro M I
    unfold g8_setLamp g9_putsLamp
    rw [in8_9, sq8_9]
    rcases isIn_cases a b with h | ⟨i, j, hi, hj, rfl, rfl, h⟩
    · refine ⟨0, M, M, Or.inl rfl, ?_, ?_, I⟩ <;> simp (disch := omega) only [hin, h, z10, mset_eq, i_lt0, i_cl, i_ll, i_lr, i_tl, i_tr, i_el, i_er, i_le, i_lt, i_eq, i_al, i_ar, i_sr, i_sl, i_ml, i_mr, i_dr, i_cll, nI_add, pk_mul, i_sub, nle_f, nle_t, nlt_f, nlt_t, neq_f, if_true, if_false, ite_true, ite_false, false_or, or_false, true_or, or_true, or_self, not_false_eq_true, not_true_eq_false, Option.bind_some, Nat.zero_add, Nat.add_zero]
    rcases in_cases k 0 4 0 4 with h' | ⟨k, -, hk, rfl, h'⟩
    · refine ⟨0, M, M, Or.inl rfl, ?_, ?_, I⟩ <;> simp (disch := omega) only [hin, h, h', z10, mset_eq, i_lt0, i_cl, i_ll, i_lr, i_tl, i_tr, i_el, i_er, i_le, i_lt, i_eq, i_al, i_ar, i_sr, i_sl, i_ml, i_mr, i_dr, i_cll, nI_add, pk_mul, i_sub, nle_f, nle_t, nlt_f, nlt_t, neq_f, if_true, if_false, ite_true, ite_false, false_or, or_false, true_or, or_true, or_self, not_false_eq_true, not_true_eq_false, Option.bind_some, Nat.zero_add, Nat.add_zero]
    by_cases c : M 0 (14 * j + i) = 3
    · refine ⟨0, M, M, Or.inl rfl, ?_, ?_, I⟩
      · simp (disch := omega) only [hin, h, h', z10, mset_eq, i_lt0, i_cl, i_ll, i_lr, i_tl, i_tr, i_el, i_er, i_le, i_lt, i_eq, i_al, i_ar, i_sr, i_sl, i_ml, i_mr, i_dr, i_cll, nI_add, pk_mul, i_sub, nle_f, nle_t, nlt_f, nlt_t, neq_f, if_true, if_false, ite_true, ite_false, false_or, or_false, true_or, or_true, or_self, not_false_eq_true, not_true_eq_false, Option.bind_some, Nat.zero_add, Nat.add_zero, sortAt_in, c]
      · simp (disch := omega) only [hin, h, h', z10, mset_eq, i_lt0, i_cl, i_ll, i_lr, i_tl, i_tr, i_el, i_er, i_le, i_lt, i_eq, i_al, i_ar, i_sr, i_sl, i_ml, i_mr, i_dr, i_cll, nI_add, pk_mul, i_sub, nle_f, nle_t, nlt_f, nlt_t, neq_f, if_true, if_false, ite_true, ite_false, false_or, or_false, true_or, or_true, or_self, not_false_eq_true, not_true_eq_false, Option.bind_some, Nat.zero_add, Nat.add_zero, rock9_in, I.eq7, c, b2i_0]
    · refine ⟨1, upL M 0 (lampU l (14 * j + i) k s), upL (upL M 0 (lampU l (14 * j + i) k s)) 7 (lampU l (14 * j + i) k s), Or.inr rfl, ?_, ?_, I.upL _ (lampU_ok hl (by omega) hk hs)⟩
      · simp (disch := omega) only [hin, h, h', z10, mset_eq, i_lt0, i_cl, i_ll, i_lr, i_tl, i_tr, i_el, i_er, i_le, i_lt, i_eq, i_al, i_ar, i_sr, i_sl, i_ml, i_mr, i_dr, i_cll, nI_add, pk_mul, i_sub, nle_f, nle_t, nlt_f, nlt_t, neq_f, if_true, if_false, ite_true, ite_false, false_or, or_false, true_or, or_true, or_self, not_false_eq_true, not_true_eq_false, Option.bind_some, Nat.zero_add, Nat.add_zero, sortAt_in, c, hs']
        rfl
      · have I7 : (upL M 0 (lampU l (14 * j + i) k s)) 7 = M 0 := (upL_b (show (7 : Nat) ≠ 0 by decide) _ _).trans I.eq7
        simp (disch := omega) only [hin, h, h', z10, mset_eq, i_lt0, i_cl, i_ll, i_lr, i_tl, i_tr, i_el, i_er, i_le, i_lt, i_eq, i_al, i_ar, i_sr, i_sl, i_ml, i_mr, i_dr, i_cll, nI_add, pk_mul, i_sub, nle_f, nle_t, nlt_f, nlt_t, neq_f, if_true, if_false, ite_true, ite_false, false_or, or_false, true_or, or_true, or_self, not_false_eq_true, not_true_eq_false, Option.bind_some, Nat.zero_add, Nat.add_zero, rock9_in, I7, c, b2i_0]
        rfl
  refine ⟨fun M I => ?_, fun M r N I e => ?_⟩
  · obtain ⟨r, M1, N, -, h⟩ := key M I
    exact ⟨r, M1, N, h⟩
  · obtain ⟨r', M1, N', hr, h, -⟩ := key M I
    rw [h] at e
    injection e with e
    injection e with e
    exact e ▸ hr
