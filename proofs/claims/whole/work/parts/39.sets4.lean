/-! PURE: inn, stray, herd, and the plain reads -/
theorem pair_inn (a b c d : Int32) : Pair (g8_inn a b c d) (g9_inn a b c d) := by
  intro M I
  unfold g8_inn g9_inn
  rw [in8_9, inn9_cases]
  rcases in_cases a 0 8 0 8 with h | ⟨l, -, hl, rfl, h⟩
  · refine ⟨0, M, M, ?_, ?_, I⟩ <;> simp (disch := omega) only [h, ↓reduceIte, mset_eq, i_lt0, i_cl, i_ll, i_lr, i_tl, i_tr, i_el, i_er, i_le, i_lt, i_eq, i_al, i_ar, i_sr, i_sl, i_ml, i_mr, i_dr, i_cll, nI_add, pk_mul, i_sub, nle_f, nle_t, nlt_f, nlt_t, neq_f, if_true, if_false, ite_true, ite_false, false_or, or_false, true_or, or_true, or_self, not_false_eq_true, not_true_eq_false, Option.bind_some, Nat.zero_add, Nat.add_zero]
  · obtain ⟨p1, p2⟩ := lamp_pair (show l < 12 by omega) b c d 0 (Or.inl rfl)
    obtain ⟨r, M1, N, h1, h2, J⟩ := p1 M I
    have hr := p2 M r M1 I h1
    refine ⟨r, M1, N, ?_, ?_, J⟩
    · simp (disch := omega) only [h, h1, hr, z10, ↓reduceIte, mset_eq, i_lt0, i_cl, i_ll, i_lr, i_tl, i_tr, i_el, i_er, i_le, i_lt, i_eq, i_al, i_ar, i_sr, i_sl, i_ml, i_mr, i_dr, i_cll, nI_add, pk_mul, i_sub, nle_f, nle_t, nlt_f, nlt_t, neq_f, if_true, if_false, ite_true, ite_false, false_or, or_false, true_or, or_true, or_self, not_false_eq_true, not_true_eq_false, Option.bind_some, Nat.zero_add, Nat.add_zero]
    · simp (disch := omega) only [h, z10, ↓reduceIte, mset_eq, i_lt0, i_cl, i_ll, i_lr, i_tl, i_tr, i_el, i_er, i_le, i_lt, i_eq, i_al, i_ar, i_sr, i_sl, i_ml, i_mr, i_dr, i_cll, nI_add, pk_mul, i_sub, nle_f, nle_t, nlt_f, nlt_t, neq_f, if_true, if_false, ite_true, ite_false, false_or, or_false, true_or, or_true, or_self, not_false_eq_true, not_true_eq_false, Option.bind_some, Nat.zero_add, Nat.add_zero]
      have h3 : g9_in (nI l) 0 8 M1 = some (1, M1) := h M1
      simp (disch := omega) only [h3, h2, z10, ↓reduceIte, mset_eq, i_lt0, i_cl, i_ll, i_lr, i_tl, i_tr, i_el, i_er, i_le, i_lt, i_eq, i_al, i_ar, i_sr, i_sl, i_ml, i_mr, i_dr, i_cll, nI_add, pk_mul, i_sub, nle_f, nle_t, nlt_f, nlt_t, neq_f, if_true, if_false, ite_true, ite_false, false_or, or_false, true_or, or_true, or_self, not_false_eq_true, not_true_eq_false, Option.bind_some, Nat.zero_add, Nat.add_zero]
      rcases hr with rfl | rfl <;> rfl
theorem pair_stray (a b c d s : Int32) (hs : s = 0 ∨ s = 1) : Pair (g8_stray a b c d s) (g9_stray a b c d s) := by
  intro M I
  unfold g8_stray g9_stray g9_stray_b27
  rw [in8_9]
  rcases in_cases a 9 11 9 11 with h | ⟨l, hl9, hl, rfl, h⟩
  · refine ⟨0, M, M, ?_, ?_, I⟩ <;> simp (disch := omega) only [h, ↓reduceIte, mset_eq, i_lt0, i_cl, i_ll, i_lr, i_tl, i_tr, i_el, i_er, i_le, i_lt, i_eq, i_al, i_ar, i_sr, i_sl, i_ml, i_mr, i_dr, i_cll, nI_add, pk_mul, i_sub, nle_f, nle_t, nlt_f, nlt_t, neq_f, if_true, if_false, ite_true, ite_false, false_or, or_false, true_or, or_true, or_self, not_false_eq_true, not_true_eq_false, Option.bind_some, Nat.zero_add, Nat.add_zero]
  · obtain ⟨p1, p2⟩ := lamp_pair (show l < 12 by omega) b c d s (hs.imp id fun q => ⟨hl9, q⟩)
    obtain ⟨r, M1, N, h1, h2, J⟩ := p1 M I
    have hr := p2 M r M1 I h1
    refine ⟨r, M1, N, ?_, ?_, J⟩
    · simp (disch := omega) only [h, h1, hr, z10, ↓reduceIte, mset_eq, i_lt0, i_cl, i_ll, i_lr, i_tl, i_tr, i_el, i_er, i_le, i_lt, i_eq, i_al, i_ar, i_sr, i_sl, i_ml, i_mr, i_dr, i_cll, nI_add, pk_mul, i_sub, nle_f, nle_t, nlt_f, nlt_t, neq_f, if_true, if_false, ite_true, ite_false, false_or, or_false, true_or, or_true, or_self, not_false_eq_true, not_true_eq_false, Option.bind_some, Nat.zero_add, Nat.add_zero]
    · have h3 : g9_in (nI l) 9 11 M1 = some (1, M1) := h M1
      rcases hs with rfl | rfl <;> simp (disch := omega) only [h3, h2, z10, ↓reduceIte, mset_eq, i_lt0, i_cl, i_ll, i_lr, i_tl, i_tr, i_el, i_er, i_le, i_lt, i_eq, i_al, i_ar, i_sr, i_sl, i_ml, i_mr, i_dr, i_cll, nI_add, pk_mul, i_sub, nle_f, nle_t, nlt_f, nlt_t, neq_f, if_true, if_false, ite_true, ite_false, false_or, or_false, true_or, or_true, or_self, not_false_eq_true, not_true_eq_false, Option.bind_some, Nat.zero_add, Nat.add_zero] <;> rcases hr with rfl | rfl <;> rfl
def herdU (l q : Nat) (k t e : Nat) : List (Nat × Int32) := [(268 + l, 1), (274 + l, nI q), (280 + l, nI k), (286 + l, nI t), (292 + l, nI e), (298 + l, 0)]
theorem herdU_ok {l q k t e : Nat} (hl : l < 6) (hq : q < 196) (hk : k ≤ 999) (ht : t ≤ 99) (he : e ≤ 99) : ∀ p ∈ herdU l q k t e, p.1 < 331 ∧ okU p :=
  mem6 ⟨by simp only; omega, okU_mk (v := 1) (bd_told l hl) (by omega)⟩ ⟨by simp only; omega, okU_mk (bd_sq l hl) (by omega)⟩ ⟨by simp only; omega, okU_mk (bd_cat l hl) hk⟩
    ⟨by simp only; omega, okU_mk (bd_thi l hl) ht⟩ ⟨by simp only; omega, okU_mk (bd_fear l hl) he⟩ ⟨by simp only; omega, okU_mk (v := 0) (bd_fire l hl) (by omega)⟩
theorem b0 {α : Type} {o : Option (Int32 × xMem)} {M : xMem} (h : o = some (0, M)) {f g : Int32 × xMem → Option α} : Option.bind o (fun q => if q.1 = 0 then f q else g q) = f (0, M) := by
  rw [h]; rfl
theorem b1 {α : Type} {o : Option (Int32 × xMem)} {M : xMem} (h : o = some (1, M)) {f g : Int32 × xMem → Option α} : Option.bind o (fun q => if q.1 = 0 then f q else g q) = g (1, M) := by
  rw [h]; rfl
theorem bs {α β : Type} {o : Option α} {a : α} (h : o = some a) {f : α → Option β} : Option.bind o f = f a := by
  rw [h]; rfl
theorem pair_herd (a b c d e f : Int32) : Pair (g8_herd a b c d e f) (g9_herd a b c d e f) := by
  intro M I
  unfold g8_herd g9_herd
  rw [in8_9, sq8_9]
  rcases in_cases a 0 5 0 5 with h1 | ⟨l, -, hl, rfl, h1⟩
  · exact ⟨0, M, M, by rw [b0 (h1 M)], by rw [b0 (h1 M)], I⟩
  rcases isIn_cases b c with h2 | ⟨i, j, hi, hj, rfl, rfl, h2⟩
  · exact ⟨0, M, M, by rw [b1 (h1 M), b0 (h2 M)], by rw [b1 (h1 M), b0 (h2 M)], I⟩
  rcases in_cases d 0 999 0 999 with h3 | ⟨k, -, hk, rfl, h3⟩
  · exact ⟨0, M, M, by rw [b1 (h1 M), b1 (h2 M), b0 (h3 M)], by rw [b1 (h1 M), b1 (h2 M), b0 (h3 M)], I⟩
  rcases in_cases e 0 99 0 99 with h4 | ⟨t, -, ht, rfl, h4⟩
  · exact ⟨0, M, M, by rw [b1 (h1 M), b1 (h2 M), b1 (h3 M), b0 (h4 M)], by rw [b1 (h1 M), b1 (h2 M), b1 (h3 M), b0 (h4 M)], I⟩
  rcases in_cases f 0 99 0 99 with h5 | ⟨u, -, hu, rfl, h5⟩
  · exact ⟨0, M, M, by rw [b1 (h1 M), b1 (h2 M), b1 (h3 M), b1 (h4 M), b0 (h5 M)], by rw [b1 (h1 M), b1 (h2 M), b1 (h3 M), b1 (h4 M), b0 (h5 M)], I⟩
  by_cases cc : M 0 (14 * j + i) = 3
  · refine ⟨0, M, M, ?_, ?_, I⟩
    · rw [b1 (h1 M), b1 (h2 M), b1 (h3 M), b1 (h4 M), b1 (h5 M)]
      simp (disch := omega) only [↓reduceIte, mset_eq, i_lt0, i_cl, i_ll, i_lr, i_tl, i_tr, i_el, i_er, i_le, i_lt, i_eq, i_al, i_ar, i_sr, i_sl, i_ml, i_mr, i_dr, i_cll, nI_add, pk_mul, i_sub, nle_f, nle_t, nlt_f, nlt_t, neq_f, if_true, if_false, ite_true, ite_false, false_or, or_false, true_or, or_true, or_self, not_false_eq_true, not_true_eq_false, Option.bind_some, Nat.zero_add, Nat.add_zero, sortAt_in, cc]
    · rw [b1 (h1 M), b1 (h2 M), b1 (h3 M), b1 (h4 M), b1 (h5 M)]
      simp (disch := omega) only [↓reduceIte, mset_eq, i_lt0, i_cl, i_ll, i_lr, i_tl, i_tr, i_el, i_er, i_le, i_lt, i_eq, i_al, i_ar, i_sr, i_sl, i_ml, i_mr, i_dr, i_cll, nI_add, pk_mul, i_sub, nle_f, nle_t, nlt_f, nlt_t, neq_f, if_true, if_false, ite_true, ite_false, false_or, or_false, true_or, or_true, or_self, not_false_eq_true, not_true_eq_false, Option.bind_some, Nat.zero_add, Nat.add_zero, rock9_in, I.eq7, cc, b2i_0]
  · refine ⟨1, upL M 0 (herdU l (14 * j + i) k t u), upL (upL M 0 (herdU l (14 * j + i) k t u)) 7 (herdU l (14 * j + i) k t u), ?_, ?_, I.upL _ (herdU_ok (by omega) (by omega) hk ht hu)⟩
    · rw [b1 (h1 M), b1 (h2 M), b1 (h3 M), b1 (h4 M), b1 (h5 M)]
      simp (disch := omega) only [↓reduceIte, mset_eq, i_lt0, i_cl, i_ll, i_lr, i_tl, i_tr, i_el, i_er, i_le, i_lt, i_eq, i_al, i_ar, i_sr, i_sl, i_ml, i_mr, i_dr, i_cll, nI_add, pk_mul, i_sub, nle_f, nle_t, nlt_f, nlt_t, neq_f, if_true, if_false, ite_true, ite_false, false_or, or_false, true_or, or_true, or_self, not_false_eq_true, not_true_eq_false, Option.bind_some, Nat.zero_add, Nat.add_zero, sortAt_in, cc]
      rfl
    · have I7 : (upL M 0 (herdU l (14 * j + i) k t u)) 7 = M 0 := (upL_b (show (7 : Nat) ≠ 0 by decide) _ _).trans I.eq7
      rw [b1 (h1 _), b1 (h2 _), b1 (h3 _), b1 (h4 _), b1 (h5 _)]
      simp (disch := omega) only [↓reduceIte, mset_eq, i_lt0, i_cl, i_ll, i_lr, i_tl, i_tr, i_el, i_er, i_le, i_lt, i_eq, i_al, i_ar, i_sr, i_sl, i_ml, i_mr, i_dr, i_cll, nI_add, pk_mul, i_sub, nle_f, nle_t, nlt_f, nlt_t, neq_f, if_true, if_false, ite_true, ite_false, false_or, or_false, true_or, or_true, or_self, not_false_eq_true, not_true_eq_false, Option.bind_some, Nat.zero_add, Nat.add_zero, rock9_in, I7, cc, b2i_0]
      rfl
theorem pair_led (a : Int32) : Pair (g8_led a) (g9_led a) := by
  intro M I
  unfold g8_led g9_led
  rw [in8_9]
  rcases in_cases a 0 18 0 18 with h | ⟨l, -, hl, rfl, h⟩
  · refine ⟨-1, M, M, ?_, ?_, I⟩ <;> simp (disch := omega) only [h, ↓reduceIte, mset_eq, i_lt0, i_cl, i_ll, i_lr, i_tl, i_tr, i_el, i_er, i_le, i_lt, i_eq, i_al, i_ar, i_sr, i_sl, i_ml, i_mr, i_dr, i_cll, nI_add, pk_mul, i_sub, nle_f, nle_t, nlt_f, nlt_t, neq_f, if_true, if_false, ite_true, ite_false, false_or, or_false, true_or, or_true, or_self, not_false_eq_true, not_true_eq_false, Option.bind_some, Nat.zero_add, Nat.add_zero]
  · refine ⟨M 0 (308 + l), M, M, ?_, ?_, I⟩ <;> simp (disch := omega) only [h, z10, I.eq7, ↓reduceIte, mset_eq, i_lt0, i_cl, i_ll, i_lr, i_tl, i_tr, i_el, i_er, i_le, i_lt, i_eq, i_al, i_ar, i_sr, i_sl, i_ml, i_mr, i_dr, i_cll, nI_add, pk_mul, i_sub, nle_f, nle_t, nlt_f, nlt_t, neq_f, if_true, if_false, ite_true, ite_false, false_or, or_false, true_or, or_true, or_self, not_false_eq_true, not_true_eq_false, Option.bind_some, Nat.zero_add, Nat.add_zero]
theorem on_same (h : Nat) (hh : h < 6) {M : xMem} (I : Inv M) : g1_isOn 0 (nI h) M = some (b2i (sOn (M 0) h), M) ∧ g9_isOn (nI h) M = some (b2i (sOn (M 0) h), M) :=
  ⟨on_in hh, by rw [on9_in I.ok7 hh, I.eq7]⟩
theorem pair_herdIs (a b : Int32) : Pair (g8_herdIs a b) (g9_herdIs a b) := by
  refine Pair.same fun M I => ?_
  unfold g8_herdIs g9_herdIs g1_tell
  rcases told_cases a I with ⟨h1, h2⟩ | ⟨h, hh, rfl, -, h1, h2⟩
  · exact ⟨-1, by rw [h1]; rfl, by rw [h2]; rfl⟩
  · obtain ⟨o1, o2⟩ := on_same h hh I
    rw [b1 h1, b1 h1, b1 h2]
    by_cases c0 : b = 0
    · subst c0; exact ⟨M 0 (274 + h), by simp (disch := omega) only [↓reduceIte, mset_eq, i_lt0, i_cl, i_ll, i_lr, i_tl, i_tr, i_el, i_er, i_le, i_lt, i_eq, i_al, i_ar, i_sr, i_sl, i_ml, i_mr, i_dr, i_cll, nI_add, pk_mul, i_sub, nle_f, nle_t, nlt_f, nlt_t, neq_f, if_true, if_false, ite_true, ite_false, false_or, or_false, true_or, or_true, or_self, not_false_eq_true, not_true_eq_false, Option.bind_some, Nat.zero_add, Nat.add_zero], by simp (disch := omega) only [I.eq7, ↓reduceIte, mset_eq, i_lt0, i_cl, i_ll, i_lr, i_tl, i_tr, i_el, i_er, i_le, i_lt, i_eq, i_al, i_ar, i_sr, i_sl, i_ml, i_mr, i_dr, i_cll, nI_add, pk_mul, i_sub, nle_f, nle_t, nlt_f, nlt_t, neq_f, if_true, if_false, ite_true, ite_false, false_or, or_false, true_or, or_true, or_self, not_false_eq_true, not_true_eq_false, Option.bind_some, Nat.zero_add, Nat.add_zero]⟩
    by_cases c1 : b = 1
    · subst c1; exact ⟨M 0 (280 + h), by simp (disch := omega) only [z10, ↓reduceIte, mset_eq, i_lt0, i_cl, i_ll, i_lr, i_tl, i_tr, i_el, i_er, i_le, i_lt, i_eq, i_al, i_ar, i_sr, i_sl, i_ml, i_mr, i_dr, i_cll, nI_add, pk_mul, i_sub, nle_f, nle_t, nlt_f, nlt_t, neq_f, if_true, if_false, ite_true, ite_false, false_or, or_false, true_or, or_true, or_self, not_false_eq_true, not_true_eq_false, Option.bind_some, Nat.zero_add, Nat.add_zero], by simp (disch := omega) only [z10, I.eq7, ↓reduceIte, mset_eq, i_lt0, i_cl, i_ll, i_lr, i_tl, i_tr, i_el, i_er, i_le, i_lt, i_eq, i_al, i_ar, i_sr, i_sl, i_ml, i_mr, i_dr, i_cll, nI_add, pk_mul, i_sub, nle_f, nle_t, nlt_f, nlt_t, neq_f, if_true, if_false, ite_true, ite_false, false_or, or_false, true_or, or_true, or_self, not_false_eq_true, not_true_eq_false, Option.bind_some, Nat.zero_add, Nat.add_zero]⟩
    by_cases c2 : b = 2
    · subst c2; exact ⟨M 0 (286 + h), by simp (disch := omega) only [c0, c1, ↓reduceIte, mset_eq, i_lt0, i_cl, i_ll, i_lr, i_tl, i_tr, i_el, i_er, i_le, i_lt, i_eq, i_al, i_ar, i_sr, i_sl, i_ml, i_mr, i_dr, i_cll, nI_add, pk_mul, i_sub, nle_f, nle_t, nlt_f, nlt_t, neq_f, if_true, if_false, ite_true, ite_false, false_or, or_false, true_or, or_true, or_self, not_false_eq_true, not_true_eq_false, Option.bind_some, Nat.zero_add, Nat.add_zero], by simp (disch := omega) only [c0, c1, I.eq7, ↓reduceIte, mset_eq, i_lt0, i_cl, i_ll, i_lr, i_tl, i_tr, i_el, i_er, i_le, i_lt, i_eq, i_al, i_ar, i_sr, i_sl, i_ml, i_mr, i_dr, i_cll, nI_add, pk_mul, i_sub, nle_f, nle_t, nlt_f, nlt_t, neq_f, if_true, if_false, ite_true, ite_false, false_or, or_false, true_or, or_true, or_self, not_false_eq_true, not_true_eq_false, Option.bind_some, Nat.zero_add, Nat.add_zero]⟩
    by_cases c3 : b = 3
    · subst c3; exact ⟨M 0 (292 + h), by simp (disch := omega) only [c0, c1, c2, ↓reduceIte, mset_eq, i_lt0, i_cl, i_ll, i_lr, i_tl, i_tr, i_el, i_er, i_le, i_lt, i_eq, i_al, i_ar, i_sr, i_sl, i_ml, i_mr, i_dr, i_cll, nI_add, pk_mul, i_sub, nle_f, nle_t, nlt_f, nlt_t, neq_f, if_true, if_false, ite_true, ite_false, false_or, or_false, true_or, or_true, or_self, not_false_eq_true, not_true_eq_false, Option.bind_some, Nat.zero_add, Nat.add_zero], by simp (disch := omega) only [c0, c1, c2, I.eq7, ↓reduceIte, mset_eq, i_lt0, i_cl, i_ll, i_lr, i_tl, i_tr, i_el, i_er, i_le, i_lt, i_eq, i_al, i_ar, i_sr, i_sl, i_ml, i_mr, i_dr, i_cll, nI_add, pk_mul, i_sub, nle_f, nle_t, nlt_f, nlt_t, neq_f, if_true, if_false, ite_true, ite_false, false_or, or_false, true_or, or_true, or_self, not_false_eq_true, not_true_eq_false, Option.bind_some, Nat.zero_add, Nat.add_zero]⟩
    by_cases c4 : b = 4
    · subst c4
      rcases I.ok.fire hh with c | c
      · exact ⟨0, by simp (disch := omega) only [c0, c1, c2, c3, c, ↓reduceIte, mset_eq, i_lt0, i_cl, i_ll, i_lr, i_tl, i_tr, i_el, i_er, i_le, i_lt, i_eq, i_al, i_ar, i_sr, i_sl, i_ml, i_mr, i_dr, i_cll, nI_add, pk_mul, i_sub, nle_f, nle_t, nlt_f, nlt_t, neq_f, if_true, if_false, ite_true, ite_false, false_or, or_false, true_or, or_true, or_self, not_false_eq_true, not_true_eq_false, Option.bind_some, Nat.zero_add, Nat.add_zero], by simp (disch := omega) only [c0, c1, c2, c3, c, I.eq7, ↓reduceIte, mset_eq, i_lt0, i_cl, i_ll, i_lr, i_tl, i_tr, i_el, i_er, i_le, i_lt, i_eq, i_al, i_ar, i_sr, i_sl, i_ml, i_mr, i_dr, i_cll, nI_add, pk_mul, i_sub, nle_f, nle_t, nlt_f, nlt_t, neq_f, if_true, if_false, ite_true, ite_false, false_or, or_false, true_or, or_true, or_self, not_false_eq_true, not_true_eq_false, Option.bind_some, Nat.zero_add, Nat.add_zero]⟩
      · exact ⟨1, by simp (disch := omega) only [c0, c1, c2, c3, c, z10, ↓reduceIte, mset_eq, i_lt0, i_cl, i_ll, i_lr, i_tl, i_tr, i_el, i_er, i_le, i_lt, i_eq, i_al, i_ar, i_sr, i_sl, i_ml, i_mr, i_dr, i_cll, nI_add, pk_mul, i_sub, nle_f, nle_t, nlt_f, nlt_t, neq_f, if_true, if_false, ite_true, ite_false, false_or, or_false, true_or, or_true, or_self, not_false_eq_true, not_true_eq_false, Option.bind_some, Nat.zero_add, Nat.add_zero], by simp (disch := omega) only [c0, c1, c2, c3, c, I.eq7, ↓reduceIte, mset_eq, i_lt0, i_cl, i_ll, i_lr, i_tl, i_tr, i_el, i_er, i_le, i_lt, i_eq, i_al, i_ar, i_sr, i_sl, i_ml, i_mr, i_dr, i_cll, nI_add, pk_mul, i_sub, nle_f, nle_t, nlt_f, nlt_t, neq_f, if_true, if_false, ite_true, ite_false, false_or, or_false, true_or, or_true, or_self, not_false_eq_true, not_true_eq_false, Option.bind_some, Nat.zero_add, Nat.add_zero]⟩
    by_cases c5 : b = 5
    · subst c5
      by_cases c : sOn (M 0) h = true
      · rw [b2i_t c] at o1 o2
        exact ⟨1, by simp (disch := omega) only [c0, c1, c2, c3, c4, o1, z10, ↓reduceIte, mset_eq, i_lt0, i_cl, i_ll, i_lr, i_tl, i_tr, i_el, i_er, i_le, i_lt, i_eq, i_al, i_ar, i_sr, i_sl, i_ml, i_mr, i_dr, i_cll, nI_add, pk_mul, i_sub, nle_f, nle_t, nlt_f, nlt_t, neq_f, if_true, if_false, ite_true, ite_false, false_or, or_false, true_or, or_true, or_self, not_false_eq_true, not_true_eq_false, Option.bind_some, Nat.zero_add, Nat.add_zero], by simp (disch := omega) only [c0, c1, c2, c3, c4, o2, z10, ↓reduceIte, mset_eq, i_lt0, i_cl, i_ll, i_lr, i_tl, i_tr, i_el, i_er, i_le, i_lt, i_eq, i_al, i_ar, i_sr, i_sl, i_ml, i_mr, i_dr, i_cll, nI_add, pk_mul, i_sub, nle_f, nle_t, nlt_f, nlt_t, neq_f, if_true, if_false, ite_true, ite_false, false_or, or_false, true_or, or_true, or_self, not_false_eq_true, not_true_eq_false, Option.bind_some, Nat.zero_add, Nat.add_zero]⟩
      · rw [b2i_f c] at o1 o2
        exact ⟨0, by simp (disch := omega) only [c0, c1, c2, c3, c4, o1, ↓reduceIte, mset_eq, i_lt0, i_cl, i_ll, i_lr, i_tl, i_tr, i_el, i_er, i_le, i_lt, i_eq, i_al, i_ar, i_sr, i_sl, i_ml, i_mr, i_dr, i_cll, nI_add, pk_mul, i_sub, nle_f, nle_t, nlt_f, nlt_t, neq_f, if_true, if_false, ite_true, ite_false, false_or, or_false, true_or, or_true, or_self, not_false_eq_true, not_true_eq_false, Option.bind_some, Nat.zero_add, Nat.add_zero], by simp (disch := omega) only [c0, c1, c2, c3, c4, o2, ↓reduceIte, mset_eq, i_lt0, i_cl, i_ll, i_lr, i_tl, i_tr, i_el, i_er, i_le, i_lt, i_eq, i_al, i_ar, i_sr, i_sl, i_ml, i_mr, i_dr, i_cll, nI_add, pk_mul, i_sub, nle_f, nle_t, nlt_f, nlt_t, neq_f, if_true, if_false, ite_true, ite_false, false_or, or_false, true_or, or_true, or_self, not_false_eq_true, not_true_eq_false, Option.bind_some, Nat.zero_add, Nat.add_zero]⟩
    exact ⟨-1, by simp only [c0, c1, c2, c3, c4, c5, ↓reduceIte, Option.bind_some], by simp only [c0, c1, c2, c3, c4, c5, ↓reduceIte]⟩
theorem pair_lampIs (a b : Int32) : Pair (g8_lampIs a b) (g9_lampIs a b) := by
  refine Pair.same fun M I => ?_
  unfold g8_lampIs g9_lampIs g9_lampIs_b17 g2_tell
  rcases stands_cases a I with ⟨h1, h2⟩ | ⟨l, hl, rfl, -, h1, h2⟩
  · exact ⟨-1, by rw [h1]; rfl, by rw [h2]; rfl⟩
  · simp (disch := omega) only [h1, h2, z10, I.eq7, ↓reduceIte, mset_eq, i_lt0, i_cl, i_ll, i_lr, i_tl, i_tr, i_el, i_er, i_le, i_lt, i_eq, i_al, i_ar, i_sr, i_sl, i_ml, i_mr, i_dr, i_cll, nI_add, pk_mul, i_sub, nle_f, nle_t, nlt_f, nlt_t, neq_f, if_true, if_false, ite_true, ite_false, false_or, or_false, true_or, or_true, or_self, not_false_eq_true, not_true_eq_false, Option.bind_some, Nat.zero_add, Nat.add_zero]
    rcases in_cases b 0 3 0 3 with h' | ⟨k, -, hk, rfl, h'⟩
    · have n0 : ¬ b = 0 := by rintro rfl; have := h' M; unfold g9_in at this; simp at this
      have n1 : ¬ b = 1 := by rintro rfl; have := h' M; unfold g9_in at this; simp at this
      have n2 : ¬ b = 2 := by rintro rfl; have := h' M; unfold g9_in at this; simp at this
      have n3 : ¬ b = 3 := by rintro rfl; have := h' M; unfold g9_in at this; simp at this
      exact ⟨-1, by simp only [n0, n1, n2, n3, if_false, Option.bind_some], by simp only [h', if_true, Option.bind_some]⟩
    · rcases (show k = 0 ∨ k = 1 ∨ k = 2 ∨ k = 3 by omega) with rfl | rfl | rfl | rfl
      · exact ⟨M 0 (208 + l), by simp (disch := omega) only [↓reduceIte, mset_eq, i_lt0, i_cl, i_ll, i_lr, i_tl, i_tr, i_el, i_er, i_le, i_lt, i_eq, i_al, i_ar, i_sr, i_sl, i_ml, i_mr, i_dr, i_cll, nI_add, pk_mul, i_sub, nle_f, nle_t, nlt_f, nlt_t, neq_f, if_true, if_false, ite_true, ite_false, false_or, or_false, true_or, or_true, or_self, not_false_eq_true, not_true_eq_false, Option.bind_some, Nat.zero_add, Nat.add_zero], by simp (disch := omega) only [h', z10, I.eq7, Nat.mul_zero, Nat.reduceMul, Nat.reduceAdd, ↓reduceIte, mset_eq, i_lt0, i_cl, i_ll, i_lr, i_tl, i_tr, i_el, i_er, i_le, i_lt, i_eq, i_al, i_ar, i_sr, i_sl, i_ml, i_mr, i_dr, i_cll, nI_add, pk_mul, i_sub, nle_f, nle_t, nlt_f, nlt_t, neq_f, if_true, if_false, ite_true, ite_false, false_or, or_false, true_or, or_true, or_self, not_false_eq_true, not_true_eq_false, Option.bind_some, Nat.zero_add, Nat.add_zero]⟩
      · exact ⟨M 0 (220 + l), by simp (disch := omega) only [↓reduceIte, mset_eq, i_lt0, i_cl, i_ll, i_lr, i_tl, i_tr, i_el, i_er, i_le, i_lt, i_eq, i_al, i_ar, i_sr, i_sl, i_ml, i_mr, i_dr, i_cll, nI_add, pk_mul, i_sub, nle_f, nle_t, nlt_f, nlt_t, neq_f, if_true, if_false, ite_true, ite_false, false_or, or_false, true_or, or_true, or_self, not_false_eq_true, not_true_eq_false, Option.bind_some, Nat.zero_add, Nat.add_zero], by simp (disch := omega) only [h', z10, I.eq7, Nat.mul_zero, Nat.reduceMul, Nat.reduceAdd, ↓reduceIte, mset_eq, i_lt0, i_cl, i_ll, i_lr, i_tl, i_tr, i_el, i_er, i_le, i_lt, i_eq, i_al, i_ar, i_sr, i_sl, i_ml, i_mr, i_dr, i_cll, nI_add, pk_mul, i_sub, nle_f, nle_t, nlt_f, nlt_t, neq_f, if_true, if_false, ite_true, ite_false, false_or, or_false, true_or, or_true, or_self, not_false_eq_true, not_true_eq_false, Option.bind_some, Nat.zero_add, Nat.add_zero]⟩
      · exact ⟨M 0 (232 + l), by simp (disch := omega) only [↓reduceIte, mset_eq, i_lt0, i_cl, i_ll, i_lr, i_tl, i_tr, i_el, i_er, i_le, i_lt, i_eq, i_al, i_ar, i_sr, i_sl, i_ml, i_mr, i_dr, i_cll, nI_add, pk_mul, i_sub, nle_f, nle_t, nlt_f, nlt_t, neq_f, if_true, if_false, ite_true, ite_false, false_or, or_false, true_or, or_true, or_self, not_false_eq_true, not_true_eq_false, Option.bind_some, Nat.zero_add, Nat.add_zero], by simp (disch := omega) only [h', z10, I.eq7, Nat.mul_zero, Nat.reduceMul, Nat.reduceAdd, ↓reduceIte, mset_eq, i_lt0, i_cl, i_ll, i_lr, i_tl, i_tr, i_el, i_er, i_le, i_lt, i_eq, i_al, i_ar, i_sr, i_sl, i_ml, i_mr, i_dr, i_cll, nI_add, pk_mul, i_sub, nle_f, nle_t, nlt_f, nlt_t, neq_f, if_true, if_false, ite_true, ite_false, false_or, or_false, true_or, or_true, or_self, not_false_eq_true, not_true_eq_false, Option.bind_some, Nat.zero_add, Nat.add_zero]⟩
      · exact ⟨M 0 (244 + l), by simp (disch := omega) only [↓reduceIte, mset_eq, i_lt0, i_cl, i_ll, i_lr, i_tl, i_tr, i_el, i_er, i_le, i_lt, i_eq, i_al, i_ar, i_sr, i_sl, i_ml, i_mr, i_dr, i_cll, nI_add, pk_mul, i_sub, nle_f, nle_t, nlt_f, nlt_t, neq_f, if_true, if_false, ite_true, ite_false, false_or, or_false, true_or, or_true, or_self, not_false_eq_true, not_true_eq_false, Option.bind_some, Nat.zero_add, Nat.add_zero], by simp (disch := omega) only [h', z10, I.eq7, Nat.mul_zero, Nat.reduceMul, Nat.reduceAdd, ↓reduceIte, mset_eq, i_lt0, i_cl, i_ll, i_lr, i_tl, i_tr, i_el, i_er, i_le, i_lt, i_eq, i_al, i_ar, i_sr, i_sl, i_ml, i_mr, i_dr, i_cll, nI_add, pk_mul, i_sub, nle_f, nle_t, nlt_f, nlt_t, neq_f, if_true, if_false, ite_true, ite_false, false_or, or_false, true_or, or_true, or_self, not_false_eq_true, not_true_eq_false, Option.bind_some, Nat.zero_add, Nat.add_zero]⟩
