/-! PURE: price, pay -/
theorem beer9_eq {l : Nat} {M : xMem} (hl : l < 12) {v : (Nat → Int32) → Int32} (vc : Cong15 v) (hB : ∀ N, lawM M N → ∃ N', g9_byLaw (lawCh 6) ((xTab 0).getD 6 0) ((xTab 1).getD 6 0) N = some (v (N 186), N') ∧ Off [185] N N') :
    ∃ K, g9_priceOf (nI l) M = some (v (lBeer (M 7) l), K) ∧ Off [186, 185] M K := by
  unfold g9_priceOf
  obtain ⟨K, e, o, hz⟩ := feels_eq (M := M)
  rw [bs e]
  have kp : K 7 = M 7 := o 7 (by decide)
  have r : ∀ {N : xMem} {i : Nat} {x : Int32}, (upM N 186 i x) 7 = N 7 := up_b (by decide)
  simp (disch := omega) only [↓reduceIte, mset_eq, i_lt0, i_cl, i_ll, i_lr, i_tl, i_tr, i_el, i_er, i_le, i_lt, i_eq, i_al, i_ar, i_sr, i_sl, i_ml, i_mr, i_dr, i_cll, nI_add, pk_mul, i_sub, nle_f, nle_t, nlt_f, nlt_t, neq_f, if_true, if_false, ite_true, ite_false, false_or, or_false, true_or, or_true, or_self, not_false_eq_true, not_true_eq_false, Option.bind_some, Nat.zero_add, Nat.add_zero, r, kp]
  obtain ⟨N', e3, o3⟩ := hB (upM (upM (upM K 186 11 (nI l)) 186 12 (M 7 (220 + l))) 186 14 (M 7 (232 + l))) (lawM.off' (((o.up' (by decide)).up' (by decide)).up' (by decide)) (by decide))
  refine ⟨N', ?_, ((((o.up' (by decide)).up' (by decide)).up' (by decide)).mono (by decide)).tr (o3.mono (by decide))⟩
  have e4 : g9_byLaw 98 0 999 (upM (upM (upM K 186 11 (nI l)) 186 12 (M 7 (220 + l))) 186 14 (M 7 (232 + l))) = some (v ((upM (upM (upM K 186 11 (nI l)) 186 12 (M 7 (220 + l))) 186 14 (M 7 (232 + l))) 186), N') := e3
  rw [bs e4]
  have hv : v ((upM (upM (upM K 186 11 (nI l)) 186 12 (M 7 (220 + l))) 186 14 (M 7 (232 + l))) 186) = v (lBeer (M 7) l) := vc _ _ fun i hi => by
    unfold lBeer
    by_cases c1 : i = 14
    · subst c1; rw [up_s, if_pos rfl]
    rw [up_i c1, if_neg c1]
    by_cases c2 : i = 12
    · subst c2; rw [up_s, if_pos rfl]
    rw [up_i c2, if_neg c2]
    by_cases c3 : i = 11
    · subst c3; rw [up_s, if_pos rfl]
    rw [up_i c3, if_neg c3]
    exact hz i hi
  rw [hv]
theorem beer_both {l : Nat} {M : xMem} (I : Inv M) (hl : l < 12) (ht : M 0 (196 + l) = 1) : ∃ j : Nat, j ≤ 999 ∧
    (∃ K, g0_beer 0 (nI l) M = some (nI j, K) ∧ Off [101, 27, 28, 29] M K) ∧
    ∀ N, N 7 = M 7 → lawM M N → ∃ K, g9_priceOf (nI l) N = some (nI j, K) ∧ Off [186, 185] N K := by
  obtain ⟨v, vc, vb, hA, hB⟩ := ask_eq I.law (a := 6) (by decide)
  obtain ⟨K, e, o⟩ := beer_eq I.ok (by decide) hl ht vc hA
  obtain ⟨b1', b2'⟩ := vb (lBeer (M 0) l)
  have h0 : ¬ v (lBeer (M 0) l) < 0 := i_ge (n := 0) (by decide) b1'
  obtain ⟨j, hj, ej⟩ := nI_of h0
  rw [ej] at b2' e
  have hj' : j < 2147483648 := hj
  refine ⟨j, (i_le hj' (show 999 < 2147483648 by decide)).mp b2', ⟨K, e, o⟩, fun N h7 hN => ?_⟩
  obtain ⟨K', e', o'⟩ := beer9_eq (M := N) hl vc (fun N' hN' => hB N' (fun b hb => (hN' b hb).trans (hN b hb)))
  rw [h7, I.eq7, ej] at e'
  exact ⟨K', e', o'⟩
/-- class: an inn that stands -/
theorem innThere_cases (a : Int32) {M : xMem} (I : Inv M) : (g8_isInnThere a M = some (0, M) ∧ (g9_isInn a M = some (0, M) ∨ (g9_isInn a M = some (1, M) ∧ g9_isLamp a M = some (0, M)))) ∨
    ∃ l : Nat, l < 9 ∧ a = nI l ∧ M 0 (196 + l) = 1 ∧ g8_isInnThere a M = some (1, M) ∧ (∀ N, g9_isInn a N = some (1, N)) ∧ g9_isLamp a M = some (1, M) := by
  unfold g8_isInnThere
  rw [inn9_cases]
  rcases in_cases a 0 8 0 8 with h | ⟨l, -, hl, rfl, h⟩
  · refine Or.inl ⟨?_, Or.inl (h M)⟩
    by_cases h9 : (9 : Int32) ≤ a
    · rw [if_pos h9]
    · have hn : a < 0 := by
        rcases i3 a (n := 9) (by omega) with q | q | ⟨j, hj, rfl⟩
        · exact q
        · exact absurd q h9
        · exfalso
          have := h M
          unfold g9_in at this
          simp (disch := omega) only [↓reduceIte, mset_eq, i_lt0, i_cl, i_ll, i_lr, i_tl, i_tr, i_el, i_er, i_le, i_lt, i_eq, i_al, i_ar, i_sr, i_sl, i_ml, i_mr, i_dr, i_cll, nI_add, pk_mul, i_sub, nle_f, nle_t, nlt_f, nlt_t, neq_f, if_true, if_false, ite_true, ite_false, false_or, or_false, true_or, or_true, or_self, not_false_eq_true, not_true_eq_false, Option.bind_some, Nat.zero_add, Nat.add_zero] at this
          cases this
      rw [if_neg h9, stands_lo hn]; rfl
  · simp (disch := omega) only [↓reduceIte, mset_eq, i_lt0, i_cl, i_ll, i_lr, i_tl, i_tr, i_el, i_er, i_le, i_lt, i_eq, i_al, i_ar, i_sr, i_sl, i_ml, i_mr, i_dr, i_cll, nI_add, pk_mul, i_sub, nle_f, nle_t, nlt_f, nlt_t, neq_f, if_true, if_false, ite_true, ite_false, false_or, or_false, true_or, or_true, or_self, not_false_eq_true, not_true_eq_false, Option.bind_some, Nat.zero_add, Nat.add_zero]
    rcases stands_cases (nI l) I with ⟨h1, h2⟩ | ⟨l', hl', e, ht, h1, h2⟩
    · refine Or.inl ⟨?_, Or.inr ⟨h M, h2⟩⟩
      simp (disch := omega) only [h1, ↓reduceIte, mset_eq, i_lt0, i_cl, i_ll, i_lr, i_tl, i_tr, i_el, i_er, i_le, i_lt, i_eq, i_al, i_ar, i_sr, i_sl, i_ml, i_mr, i_dr, i_cll, nI_add, pk_mul, i_sub, nle_f, nle_t, nlt_f, nlt_t, neq_f, if_true, if_false, ite_true, ite_false, false_or, or_false, true_or, or_true, or_self, not_false_eq_true, not_true_eq_false, Option.bind_some, Nat.zero_add, Nat.add_zero]
    · refine Or.inr ⟨l, by omega, rfl, ?_, ?_, h, h2⟩
      · have := (nI_eq (by omega) (by omega)).mp e
        rw [this]; exact ht
      · simp (disch := omega) only [h1, z10, ↓reduceIte, mset_eq, i_lt0, i_cl, i_ll, i_lr, i_tl, i_tr, i_el, i_er, i_le, i_lt, i_eq, i_al, i_ar, i_sr, i_sl, i_ml, i_mr, i_dr, i_cll, nI_add, pk_mul, i_sub, nle_f, nle_t, nlt_f, nlt_t, neq_f, if_true, if_false, ite_true, ite_false, false_or, or_false, true_or, or_true, or_self, not_false_eq_true, not_true_eq_false, Option.bind_some, Nat.zero_add, Nat.add_zero]
theorem pair_price (a : Int32) : Pair (g8_price a) (g9_price a) := by
  intro M I
  unfold g8_price g9_price
  rcases innThere_cases a I with ⟨h1, h2 | ⟨h2, h3⟩⟩ | ⟨l, hl, rfl, ht, h1, h2, h3⟩
  · exact ⟨-1, M, M, by rw [b0 h1], by rw [b0 h2], I⟩
  · exact ⟨-1, M, M, by rw [b0 h1], by rw [b1 h2, b0 h3], I⟩
  · obtain ⟨j, hj, ⟨K, e, o⟩, H⟩ := beer_both I (by omega) ht
    have o7 : K 7 = M 7 := o 7 (by decide)
    obtain ⟨K', e', o'⟩ := H K o7 (lawM.off' o (by decide))
    refine ⟨nI j, K, K', ?_, ?_, ?_⟩
    · rw [b1 h1, bs e]
    · rw [b1 (h2 K), b1 (lamp9_of0 o7 _ h3), bs e']
    · exact (I.off o (by decide)).off o' (by decide)
