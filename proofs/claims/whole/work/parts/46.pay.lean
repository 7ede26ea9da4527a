/-! PURE: pay -/
theorem Inv.ups {M K M1 K' : xMem} (I : Inv M) (l : List (Nat × Int32)) (h : ∀ q ∈ l, q.1 < 331 ∧ okU q) {S T : List Nat} (o : Off S M K) (hS : ∀ b ∈ S, 10 ≤ b ∧ b ∉ PB) (e : M1 = _root_.Jvm.Pilot.CStarHerdsLaw_law_r6328_6f8902.upL K 0 l)
    (o' : Off T M1 K') (hT : ∀ b ∈ T, 10 ≤ b ∧ b ∉ PB) : Inv (_root_.Jvm.Pilot.CStarHerdsLaw_law_r6328_6f8902.upL K' 7 l) := by
  subst e
  have h1 : ∀ q ∈ l, q.1 < 331 := fun q hq => (h q hq).1
  have f : ∀ b, b < 10 → K b = M b := fun b hb => o b fun q => by have := (hS b q).1; omega
  have f' : ∀ b, b < 10 → K' b = (_root_.Jvm.Pilot.CStarHerdsLaw_law_r6328_6f8902.upL K 0 l) b := fun b hb => o' b fun q => by have := (hT b q).1; omega
  refine I.fr ?_ ?_ (upL_z l _ ((upL_z l _ (I.z.of f) h1).of f') h1) ?_
  · rw [upL_row, upL_b (show (0 : Nat) ≠ 7 by decide), f' 7 (by decide), f' 0 (by decide), upL_b (show (7 : Nat) ≠ 0 by decide), upL_row, f 7 (by decide), f 0 (by decide), I.eq7]
  · rw [upL_b (show (0 : Nat) ≠ 7 by decide), f' 0 (by decide), upL_row, f 0 (by decide)]
    exact udL_ok l _ I.ok fun q hq => (h q hq).2
  · intro b hb
    have h0 : b ≠ 0 ∧ b ≠ 7 := by revert b; decide
    rw [upL_b h0.2, o' b (fun q => (hT b q).2 hb), upL_b h0.1, o b (fun q => (hS b q).2 hb)]
theorem pair_pay (a b c : Int32) : Pair (g8_pay a b c) (g9_pay a b c) := by
  intro M I
  unfold g8_pay g9_pay
  rw [in8_9, drover9_cases]
  rcases in_cases a 0 3 0 3 with h1 | ⟨d, -, hd, rfl, h1⟩
  · exact ⟨-1, M, M, by rw [b0 (h1 M)], by rw [b0 (h1 M)], I⟩
  rcases innThere_cases b I with ⟨h2, h3 | ⟨h3, h4⟩⟩ | ⟨l, hl, rfl, ht, h2, h3, h4⟩
  · exact ⟨-1, M, M, by rw [b1 (h1 M), b0 h2], by rw [b1 (h1 M), b0 h3], I⟩
  · exact ⟨-1, M, M, by rw [b1 (h1 M), b0 h2], by rw [b1 (h1 M), b1 h3, b0 h4], I⟩
  rcases in_cases c 1 9 1 9 with h5 | ⟨k, hk1, hk, rfl, h5⟩
  · exact ⟨-1, M, M, by rw [b1 (h1 M), b1 h2, b0 (h5 M)], by rw [b1 (h1 M), b1 (h3 M), b1 h4, b0 (h5 M)], I⟩
  obtain ⟨j, hj, ⟨K, e, o⟩, H⟩ := beer_both I (show l < 12 by omega) ht
  have o7 : K 7 = M 0 := (o 7 (by decide)).trans I.eq7
  have o0 : K 0 = M 0 := o 0 (by decide)
  obtain ⟨u, hu, eu⟩ := I.ok.coin (show d < 4 by omega)
  obtain ⟨q, hq, eq⟩ := I.ok.paid (show l < 12 by omega)
  have hjk : j * k ≤ 999 * 9 := Nat.mul_le_mul hj hk
  have cls : ∀ r M1, (if j * k ≤ u then (if q + k ≤ 99 then r = nI (j * k) ∧ M1 = upL K 0 [(304 + d, nI (u - j * k)), (232 + l, nI (q + k))] else r = -3 ∧ M1 = K) else r = -2 ∧ M1 = K) →
      (Option.bind (g9_in (nI d) 0 3 M) fun q1 => if q1.1 = 0 then some ((-1 : Int32), q1.2) else Option.bind (g8_isInnThere (nI l) q1.2) fun q4 => if q4.1 = 0 then some ((-1 : Int32), q4.2) else Option.bind (g9_in (nI k) 1 9 q4.2) fun q7 => if q7.1 = 0 then some ((-1 : Int32), q7.2) else
        Option.bind (g0_beer 0 (nI l) q7.2) fun q10 => if (nI d) < 0 ∨ 4 ≤ (nI d).toNatClampNeg then none else if ((q10.1) * (nI k)) ≤ (q10.2 0 (304 + (nI d).toNatClampNeg)) then
          (if (nI l) < 0 ∨ 12 ≤ (nI l).toNatClampNeg then none else if ((q10.2 0 (232 + (nI l).toNatClampNeg)) + (nI k)) ≤ (99 : Int32) then
            (mset (upM q10.2 0 (304 + (nI d).toNatClampNeg) ((q10.2 0 (304 + (nI d).toNatClampNeg)) - ((q10.1) * (nI k)))) fun M16 =>
              mset (upM M16 0 (232 + (nI l).toNatClampNeg) ((M16 0 (232 + (nI l).toNatClampNeg)) + (nI k))) fun M17 => some ((q10.1) * (nI k), M17))
            else (some ((-3 : Int32), q10.2))) else (some ((-2 : Int32), q10.2))) = some (r, M1) := by
    intro r M1 hr
    rw [b1 (h1 M), b1 h2, b1 (h5 M), bs e]
    have up1 : ∀ x, (upM K 0 (304 + d) x) 0 (232 + l) = nI q := fun x => by rw [up_i (by omega), o0, eq]
    simp (disch := omega) only [↓reduceIte, mset_eq, i_lt0, i_cl, i_ll, i_lr, i_tl, i_tr, i_el, i_er, i_le, i_lt, i_eq, i_al, i_ar, i_sr, i_sl, i_ml, i_mr, i_dr, i_cll, nI_add, pk_mul, i_sub, nle_f, nle_t, nlt_f, nlt_t, neq_f, if_true, if_false, ite_true, ite_false, false_or, or_false, true_or, or_true, or_self, not_false_eq_true, not_true_eq_false, Option.bind_some, Nat.zero_add, Nat.add_zero, o0, eu, eq, up1]
    by_cases c1 : j * k ≤ u
    · rw [if_pos c1] at hr ⊢
      by_cases c2 : q + k ≤ 99
      · rw [if_pos c2] at hr ⊢
        obtain ⟨rfl, rfl⟩ := hr
        rfl
      · rw [if_neg c2] at hr ⊢
        obtain ⟨rfl, rfl⟩ := hr
        rfl
    · rw [if_neg c1] at hr ⊢
      obtain ⟨rfl, rfl⟩ := hr
      rfl
  have r7 : ∀ M1 : xMem, M1 7 = M 0 → lawM M M1 → ∃ K', Off [186, 185] M1 K' ∧ ∀ r N, (if j * k ≤ u then (if q + k ≤ 99 then r = nI (j * k) ∧ N = upL K' 7 [(304 + d, nI (u - j * k)), (232 + l, nI (q + k))] else r = -3 ∧ N = K') else r = -2 ∧ N = K') → g9_pay (nI d) (nI l) (nI k) M1 = some (r, N) := by
    intro M1 h7 hL
    obtain ⟨K', e', o'⟩ := H M1 (h7.trans I.eq7.symm) hL
    refine ⟨K', o', fun r N hr => ?_⟩
    have k7 : K' 7 = M 0 := (o' 7 (by decide)).trans h7
    unfold g9_pay
    rw [drover9_cases, b1 (h1 M1), b1 (h3 M1), b1 (lamp9_of0 (h7.trans I.eq7.symm) _ h4), b1 (h5 M1), bs e']
    have up1 : ∀ x, (upM K' 7 (304 + d) x) 7 (232 + l) = nI q := fun x => by rw [up_i (by omega), k7, eq]
    simp (disch := omega) only [↓reduceIte, mset_eq, i_lt0, i_cl, i_ll, i_lr, i_tl, i_tr, i_el, i_er, i_le, i_lt, i_eq, i_al, i_ar, i_sr, i_sl, i_ml, i_mr, i_dr, i_cll, nI_add, pk_mul, i_sub, nle_f, nle_t, nlt_f, nlt_t, neq_f, if_true, if_false, ite_true, ite_false, false_or, or_false, true_or, or_true, or_self, not_false_eq_true, not_true_eq_false, Option.bind_some, Nat.zero_add, Nat.add_zero, k7, eu, eq, up1]
    by_cases c1 : j * k ≤ u
    · rw [if_pos c1] at hr ⊢
      by_cases c2 : q + k ≤ 99
      · rw [if_pos c2] at hr ⊢
        obtain ⟨rfl, rfl⟩ := hr
        rfl
      · rw [if_neg c2] at hr ⊢
        obtain ⟨rfl, rfl⟩ := hr
        rfl
    · rw [if_neg c1] at hr ⊢
      obtain ⟨rfl, rfl⟩ := hr
      rfl
  have ref : ∀ M1 : xMem, M1 7 = M 0 → lawM M M1 → ∃ K', Off [186, 185] M1 K' ∧ ∀ r N, (if j * k ≤ u then (if q + k ≤ 99 then r = nI (j * k) ∧ N = upL K' 7 [(304 + d, nI (u - j * k)), (232 + l, nI (q + k))] else r = -3 ∧ N = K') else r = -2 ∧ N = K') → g9_pay (nI d) (nI l) (nI k) M1 = some (r, N) := r7
  unfold g9_pay at ref
  rw [drover9_cases] at ref
  by_cases c1 : j * k ≤ u
  · by_cases c2 : q + k ≤ 99
    · obtain ⟨K', o', hr⟩ := ref (upL K 0 [(304 + d, nI (u - j * k)), (232 + l, nI (q + k))]) ((upL_b (show (7 : Nat) ≠ 0 by decide) _ _).trans o7) (fun b hb => by
        rw [upL_b (by revert b; decide)]
        exact o b (by revert b; decide))
      refine ⟨nI (j * k), _, _, cls _ _ (by rw [if_pos c1, if_pos c2]; exact ⟨rfl, rfl⟩), hr _ _ (by rw [if_pos c1, if_pos c2]; exact ⟨rfl, rfl⟩), I.ups _ ?_ o (by decide) rfl o' (by decide)⟩
      intro p hp
      simp only [List.mem_cons, List.not_mem_nil, or_false] at hp
      rcases hp with rfl | rfl
      · exact ⟨by simp only; omega, okU_mk (bd_coin d (by omega)) (by omega)⟩
      · exact ⟨by simp only; omega, okU_mk (bd_paid l hl) c2⟩
    · obtain ⟨K', o', hr⟩ := ref K o7 (lawM.off' o (by decide))
      exact ⟨-3, K, K', cls _ _ (by rw [if_pos c1, if_neg c2]; exact ⟨rfl, rfl⟩), hr _ _ (by rw [if_pos c1, if_neg c2]; exact ⟨rfl, rfl⟩), (I.off o (by decide)).off o' (by decide)⟩
  · obtain ⟨K', o', hr⟩ := ref K o7 (lawM.off' o (by decide))
    exact ⟨-2, K, K', cls _ _ (by rw [if_neg c1]; exact ⟨rfl, rfl⟩), hr _ _ (by rw [if_neg c1]; exact ⟨rfl, rfl⟩), (I.off o (by decide)).off o' (by decide)⟩
