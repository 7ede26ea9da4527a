/-! PURE: check, the call -/
theorem pair_check (a : Int32) : Pair (g8_check a) (g9_check a) := by
  intro M I
  obtain ⟨t, ht, h1, h2, h3⟩ := I.tape
  unfold g8_check g9_check
  rw [in8_9]
  rcases in_cases a 0 6 0 6 with h | ⟨m, -, hm, rfl, h⟩
  · exact ⟨-2, M, M, by rw [b0 (h M)], by rw [b0 (h M)], I⟩
  · by_cases c : 4 * m ≤ t
    · have c' : m ≤ t / 4 := by omega
      have hT : ∀ i, i < 260 → M 120 i = (upM (upM M 121 0 0) 164 0 0) 163 i &&& 255 := fun i hi => by
        rw [up_b (by decide), up_b (by decide)]; exact h3 i hi
      have h7 : (upM (upM M 121 0 0) 164 0 0) 7 = M 0 := by rw [up_b (by decide), up_b (by decide)]; exact I.eq7
      refine ⟨sChk (M 0) (M 120) m 0, upM M 121 0 0, upM (upM M 121 0 0) 164 0 0, ?_, ?_, ?_⟩
      · rw [b1 (h M)]
        simp (disch := omega) only [h1, ↓reduceIte, mset_eq, i_lt0, i_cl, i_ll, i_lr, i_tl, i_tr, i_el, i_er, i_le, i_lt, i_eq, i_al, i_ar, i_sr, i_sl, i_ml, i_mr, i_dr, i_cll, nI_add, pk_mul, i_sub, nle_f, nle_t, nlt_f, nlt_t, neq_f, if_true, if_false, ite_true, ite_false, false_or, or_false, true_or, or_true, or_self, not_false_eq_true, not_true_eq_false, Option.bind_some, Nat.zero_add, Nat.add_zero]
        have := chk_b (M := upM M 121 0 0) hm m 0 5000 (by omega) (by omega)
        rw [up_b (show (0 : Nat) ≠ 121 by decide), up_b (show (120 : Nat) ≠ 121 by decide)] at this
        exact this
      · rw [b1 (h _)]
        simp (disch := omega) only [up_b (show (164 : Nat) ≠ 121 by decide), h2, ↓reduceIte, mset_eq, i_lt0, i_cl, i_ll, i_lr, i_tl, i_tr, i_el, i_er, i_le, i_lt, i_eq, i_al, i_ar, i_sr, i_sl, i_ml, i_mr, i_dr, i_cll, nI_add, pk_mul, i_sub, nle_f, nle_t, nlt_f, nlt_t, neq_f, if_true, if_false, ite_true, ite_false, false_or, or_false, true_or, or_true, or_self, not_false_eq_true, not_true_eq_false, Option.bind_some, Nat.zero_add, Nat.add_zero]
        have := chk9_b (M := upM (upM M 121 0 0) 164 0 0) (T := M 120) hT (by rw [h7]; exact I.ok) hm m 0 5000 (by omega) (by omega)
        rw [h7] at this
        exact this
      · have k : ∀ b, b ≠ 121 → b ≠ 164 → (upM (upM M 121 0 0) 164 0 0) b = M b := fun b p q => by rw [up_b q, up_b p]
        refine ⟨by rw [h7, k 0 (by decide) (by decide)], by rw [k 0 (by decide) (by decide)]; exact I.ok, (I.z.up (Or.inr (by decide))).up (Or.inr (by decide)), I.kept.fr fun b hb => ?_, ⟨0, by omega, ?_, up_s, fun i hi => ?_⟩, I.law.fr fun b hb => ?_⟩
        · have h0 : b ≠ 121 ∧ b ≠ 164 := by revert b; decide
          exact k b h0.1 h0.2
        · rw [up_b (show (121 : Nat) ≠ 164 by decide), up_s]; rfl
        · rw [k 120 (by decide) (by decide)]; exact hT i hi
        · have h0 : b ≠ 121 ∧ b ≠ 164 := by revert b; decide
          exact k b h0.1 h0.2
    · have c' : ¬ m ≤ t / 4 := by omega
      refine ⟨-2, M, M, ?_, ?_, I⟩
      · rw [b1 (h M)]
        simp (disch := omega) only [h1, ↓reduceIte, mset_eq, i_lt0, i_cl, i_ll, i_lr, i_tl, i_tr, i_el, i_er, i_le, i_lt, i_eq, i_al, i_ar, i_sr, i_sl, i_ml, i_mr, i_dr, i_cll, nI_add, pk_mul, i_sub, nle_f, nle_t, nlt_f, nlt_t, neq_f, if_true, if_false, ite_true, ite_false, false_or, or_false, true_or, or_true, or_self, not_false_eq_true, not_true_eq_false, Option.bind_some, Nat.zero_add, Nat.add_zero]
      · rw [b1 (h M)]
        simp (disch := omega) only [h2, ↓reduceIte, mset_eq, i_lt0, i_cl, i_ll, i_lr, i_tl, i_tr, i_el, i_er, i_le, i_lt, i_eq, i_al, i_ar, i_sr, i_sl, i_ml, i_mr, i_dr, i_cll, nI_add, pk_mul, i_sub, nle_f, nle_t, nlt_f, nlt_t, neq_f, if_true, if_false, ite_true, ite_false, false_or, or_false, true_or, or_true, or_self, not_false_eq_true, not_true_eq_false, Option.bind_some, Nat.zero_add, Nat.add_zero]
