/-! PURE: the calls that set one thing -/
theorem in8_9 : g8_isIn = g9_in := rfl
theorem sq8_9 : g8_isSquare = g9_isIn := rfl
theorem b2i_F : b2i False = 0 := rfl
theorem in_cases (x lo hi : Int32) (a b : Nat) (e1 : lo = nI a := by rfl) (e2 : hi = nI b := by rfl) (ha : a < 2147483648 := by omega) (hb : b < 2147483648 := by omega) :
    (∀ M, g9_in x lo hi M = some (0, M)) ∨ ∃ j : Nat, a ≤ j ∧ j ≤ b ∧ x = nI j ∧ ∀ M, g9_in x lo hi M = some (1, M) := by
  by_cases c : lo ≤ x ∧ x ≤ hi
  · refine Or.inr ?_
    have h0 : ¬ x < 0 := i_ge ha (e1 ▸ c.1)
    obtain ⟨j, hj, e⟩ := nI_of h0
    have hj' : j < 2147483648 := hj
    subst e1; subst e2; subst e
    refine ⟨j, (i_le ha hj').mp c.1, (i_le hj' hb).mp c.2, rfl, fun M => ?_⟩
    rw [in9_eq, b2i_t c]
  · exact Or.inl fun M => by rw [in9_eq, b2i_f c]
theorem isIn_cases (x y : Int32) : (∀ M, g9_isIn x y M = some (0, M)) ∨ ∃ i j : Nat, i < 14 ∧ j < 14 ∧ x = nI i ∧ y = nI j ∧ ∀ M, g9_isIn x y M = some (1, M) := by
  rcases i3 x (n := 14) (by omega) with h | h | ⟨i, hi, rfl⟩
  · exact Or.inl fun M => by unfold g9_isIn; rw [if_pos h]
  · exact Or.inl fun M => by unfold g9_isIn; rw [if_neg (i_ge (by omega) h), if_pos (show (14 : Int32) ≤ x from h)]
  rcases i3 y (n := 14) (by omega) with h | h | ⟨j, hj, rfl⟩
  · refine Or.inl fun M => ?_
    unfold g9_isIn
    simp (disch := omega) only [mset_eq, i_lt0, i_cl, i_ll, i_lr, i_tl, i_tr, i_el, i_er, i_le, i_lt, i_eq, i_al, i_ar, i_sr, i_sl, i_ml, i_mr, i_dr, i_cll, nI_add, pk_mul, i_sub, nle_f, nle_t, nlt_f, nlt_t, neq_f, if_true, if_false, ite_true, ite_false, false_or, or_false, true_or, or_true, or_self, not_false_eq_true, not_true_eq_false, Option.bind_some, Nat.zero_add, Nat.add_zero]
    rw [if_pos h]
  · refine Or.inl fun M => ?_
    unfold g9_isIn
    simp (disch := omega) only [mset_eq, i_lt0, i_cl, i_ll, i_lr, i_tl, i_tr, i_el, i_er, i_le, i_lt, i_eq, i_al, i_ar, i_sr, i_sl, i_ml, i_mr, i_dr, i_cll, nI_add, pk_mul, i_sub, nle_f, nle_t, nlt_f, nlt_t, neq_f, if_true, if_false, ite_true, ite_false, false_or, or_false, true_or, or_true, or_self, not_false_eq_true, not_true_eq_false, Option.bind_some, Nat.zero_add, Nat.add_zero]
    rw [if_neg (i_ge (by omega) h), if_pos (show (14 : Int32) ≤ y from h)]
  · refine Or.inr ⟨i, j, hi, hj, rfl, rfl, fun M => ?_⟩
    unfold g9_isIn
    simp (disch := omega) only [mset_eq, i_lt0, i_cl, i_ll, i_lr, i_tl, i_tr, i_el, i_er, i_le, i_lt, i_eq, i_al, i_ar, i_sr, i_sl, i_ml, i_mr, i_dr, i_cll, nI_add, pk_mul, i_sub, nle_f, nle_t, nlt_f, nlt_t, neq_f, if_true, if_false, ite_true, ite_false, false_or, or_false, true_or, or_true, or_self, not_false_eq_true, not_true_eq_false, Option.bind_some, Nat.zero_add, Nat.add_zero]
theorem told_cases (a : Int32) {M : xMem} (I : Inv M) : (g1_isTold 0 a M = some (0, M) ∧ g9_isTold a M = some (0, M)) ∨
    ∃ h : Nat, h < 6 ∧ a = nI h ∧ M 0 (268 + h) = 1 ∧ g1_isTold 0 a M = some (1, M) ∧ g9_isTold a M = some (1, M) := by
  rcases i3 a (n := 6) (by omega) with h | h | ⟨h, hh, rfl⟩
  · exact Or.inl ⟨told_lo h, told9_lo h⟩
  · exact Or.inl ⟨told_hi h, told9_hi h⟩
  · rw [told_in hh, told9_in I.ok7 hh, I.eq7]
    rcases I.ok.told hh with c | c
    · exact Or.inl (by simp [c, b2i])
    · exact Or.inr ⟨h, hh, rfl, c, by simp [c, b2i]⟩
theorem stands_cases (a : Int32) {M : xMem} (I : Inv M) : (g2_stands 0 a M = some (0, M) ∧ g9_isLamp a M = some (0, M)) ∨
    ∃ l : Nat, l < 12 ∧ a = nI l ∧ M 0 (196 + l) = 1 ∧ g2_stands 0 a M = some (1, M) ∧ g9_isLamp a M = some (1, M) := by
  rcases i3 a (n := 12) (by omega) with h | h | ⟨h, hh, rfl⟩
  · exact Or.inl ⟨stands_lo h, lamp9_lo h⟩
  · exact Or.inl ⟨stands_hi h, lamp9_hi h⟩
  · rw [stands_in hh, lamp9_in I.ok7 hh, I.eq7]
    rcases I.ok.there hh with c | c
    · exact Or.inl (by simp [c, b2i])
    · exact Or.inr ⟨h, hh, rfl, c, by simp [c, b2i]⟩
theorem ok_le {k : Nat} {v : Nat} {m : Nat} (hb : bd k = some m) (hv : v ≤ m) : ∀ m', bd k = some m' → ∃ j, j ≤ m' ∧ nI v = nI j := by
  intro m' h
  rw [hb] at h
  injection h with h
  exact ⟨v, h ▸ hv, rfl⟩
theorem pair_clouds (a : Int32) : Pair (g8_clouds a) (g9_clouds a) := by
  intro M I
  unfold g8_clouds g9_clouds
  rw [in8_9]
  rcases in_cases a 0 255 0 255 with h | ⟨j, -, hj, rfl, h⟩
  · exact ⟨0, M, M, by rw [h]; rfl, by rw [h]; rfl, I⟩
  · exact ⟨1, upM M 0 329 (nI j), upM (upM M 0 329 (nI j)) 7 329 (nI j), by rw [h]; rfl, by rw [h]; rfl, I.up2 (by omega) (ok_le (m := 255) rfl hj)⟩
theorem pair_seed (a : Int32) : Pair (g8_seed a) (g9_seed a) := by
  intro M I
  unfold g8_seed g9_seed
  rw [in8_9]
  rcases in_cases a 0 65535 0 65535 with h | ⟨j, -, hj, rfl, h⟩
  · exact ⟨0, M, M, by rw [h]; rfl, by rw [h]; rfl, I⟩
  · exact ⟨1, upM M 0 330 (nI j), upM (upM M 0 330 (nI j)) 7 330 (nI j), by rw [h]; rfl, by rw [h]; rfl, I.up2 (by omega) (ok_le (m := 65535) rfl hj)⟩
theorem drover9_cases (x : Int32) : g9_isDrover x = g9_in x 0 3 := by
  funext M
  rcases i3 x (n := 4) (by omega) with h | h | ⟨j, hj, rfl⟩
  · unfold g9_isDrover g9_in; rw [if_pos h, if_pos h]
  · unfold g9_isDrover g9_in
    have h3 : (3 : Int32) < x := (fa_lt' _ _).mpr (by
      have := (fa_le' _ _).mp h
      rw [nI_toInt (by omega)] at this
      have e : (3 : Int32).toInt = 3 := rfl
      omega)
    rw [if_neg (i_ge (by omega) h), if_pos (show (4 : Int32) ≤ x from h), if_neg (i_ge (by omega) h), if_pos h3]
  · unfold g9_isDrover g9_in
    simp (disch := omega) only [mset_eq, i_lt0, i_cl, i_ll, i_lr, i_tl, i_tr, i_el, i_er, i_le, i_lt, i_eq, i_al, i_ar, i_sr, i_sl, i_ml, i_mr, i_dr, i_cll, nI_add, pk_mul, i_sub, nle_f, nle_t, nlt_f, nlt_t, neq_f, if_true, if_false, ite_true, ite_false, false_or, or_false, true_or, or_true, or_self, not_false_eq_true, not_true_eq_false, Option.bind_some, Nat.zero_add, Nat.add_zero]
theorem pair_drover (a b : Int32) : Pair (g8_drover a b) (g9_drover a b) := by
  intro M I
  unfold g8_drover g9_drover
  rw [in8_9, drover9_cases]
  rcases in_cases a 0 3 0 3 with h | ⟨i, -, hi, rfl, h⟩
  · exact ⟨0, M, M, by rw [h]; rfl, by rw [h]; rfl, I⟩
  rcases in_cases b 0 9999 0 9999 with h' | ⟨j, -, hj, rfl, h'⟩
  · refine ⟨0, M, M, ?_, ?_, I⟩ <;> · simp (disch := omega) only [h, h', mset_eq, i_lt0, i_cl, i_ll, i_lr, i_tl, i_tr, i_el, i_er, i_le, i_lt, i_eq, i_al, i_ar, i_sr, i_sl, i_ml, i_mr, i_dr, i_cll, nI_add, pk_mul, i_sub, nle_f, nle_t, nlt_f, nlt_t, neq_f, if_true, if_false, ite_true, ite_false, false_or, or_false, true_or, or_true, or_self, not_false_eq_true, not_true_eq_false, Option.bind_some, Nat.zero_add, Nat.add_zero]; rfl
  · refine ⟨1, upM M 0 (304 + i) (nI j), upM (upM M 0 (304 + i) (nI j)) 7 (304 + i) (nI j), ?_, ?_, I.up2 (by omega) (ok_le (m := 9999) (bd_coin i (by omega)) hj)⟩ <;>
    · simp (disch := omega) only [h, h', mset_eq, i_lt0, i_cl, i_ll, i_lr, i_tl, i_tr, i_el, i_er, i_le, i_lt, i_eq, i_al, i_ar, i_sr, i_sl, i_ml, i_mr, i_dr, i_cll, nI_add, pk_mul, i_sub, nle_f, nle_t, nlt_f, nlt_t, neq_f, if_true, if_false, ite_true, ite_false, false_or, or_false, true_or, or_true, or_self, not_false_eq_true, not_true_eq_false, Option.bind_some, Nat.zero_add, Nat.add_zero]; rfl
