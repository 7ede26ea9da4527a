/-! PURE: count, keep, undo -/
theorem law_n {M : xMem} (I : Inv M) : M 26 0 = M 173 0 := by
  obtain ⟨n, -, h1, h2, -⟩ := I.law
  rw [h1, h2]
theorem tape_n {M : xMem} (I : Inv M) : M 121 0 = M 164 0 := by
  obtain ⟨t, -, h1, h2, -⟩ := I.tape
  rw [h1, h2]
theorem pair_count (a : Int32) : Pair (g8_count a) (g9_count a) := by
  refine Pair.same fun M I => ?_
  unfold g8_count g9_count
  rw [in8_9]
  rcases in_cases a 10 13 10 13 with h1 | ⟨j, hj, hj', rfl, h1⟩
  · rw [b0 (h1 M)]
    rcases in_cases a 100 295 100 295 with h2 | ⟨j, hj, hj', rfl, h2⟩
    · rw [b0 (h2 M)]
      by_cases c0 : a = 0
      · subst c0; exact ⟨M 0 327, by simp only [↓reduceIte], by simp only [↓reduceIte, I.eq7]⟩
      by_cases c1 : a = 1
      · subst c1; exact ⟨M 0 328, by simp only [c0, ↓reduceIte], by simp only [c0, ↓reduceIte, I.eq7]⟩
      by_cases c2 : a = 2
      · subst c2; exact ⟨M 0 329, by simp only [c0, c1, ↓reduceIte], by simp only [c0, c1, ↓reduceIte, I.eq7]⟩
      by_cases c3 : a = 3
      · subst c3; exact ⟨M 26 0, by simp only [c0, c1, c2, ↓reduceIte], by simp only [c0, c1, c2, ↓reduceIte, law_n I]⟩
      by_cases c4 : a = 4
      · subst c4; exact ⟨M 121 0, by simp only [c0, c1, c2, c3, ↓reduceIte], by simp only [c0, c1, c2, c3, ↓reduceIte, tape_n I]⟩
      by_cases c5 : a = 5
      · subst c5; exact ⟨M 0 330, by simp only [c0, c1, c2, c3, c4, ↓reduceIte], by simp only [c0, c1, c2, c3, c4, ↓reduceIte, I.eq7]⟩
      by_cases c6 : a = 6
      · subst c6
        refine ⟨orF (sToldB (M 0)) 6, ?_, ?_⟩
        rotate_left
        · simp only [c0, c1, c2, c3, c4, c5, ↓reduceIte]
          rw [bs (herdBits9_0 I.ok7), I.eq7]
        · simp only [c0, c1, c2, c3, c4, c5, ↓reduceIte]
          rw [bs toldBits_eq]
      by_cases c7 : a = 7
      · subst c7
        refine ⟨orF (sOnB (M 0)) 6, ?_, ?_⟩
        rotate_left
        · simp only [c0, c1, c2, c3, c4, c5, c6, ↓reduceIte]
          rw [bs (herdBits9_1 I.ok7), I.eq7]
        · simp only [c0, c1, c2, c3, c4, c5, c6, ↓reduceIte]
          rw [bs onBits_eq]
      by_cases c8 : a = 8
      · subst c8
        refine ⟨orF (sLitB (M 0)) 18, ?_, ?_⟩
        rotate_left
        · simp only [c0, c1, c2, c3, c4, c5, c6, c7, ↓reduceIte]
          rw [bs (litBits9_eq I.ok7), I.eq7]
        · simp only [c0, c1, c2, c3, c4, c5, c6, c7, ↓reduceIte]
          rw [bs (litBits_eq I.ok)]
      by_cases c9 : a = 9
      · subst c9
        refine ⟨sLiving (M 0), ?_, ?_⟩
        rotate_left
        · simp only [c0, c1, c2, c3, c4, c5, c6, c7, c8, ↓reduceIte]
          rw [bs (living9_eq I.ok7), I.eq7]
        · simp only [c0, c1, c2, c3, c4, c5, c6, c7, c8, ↓reduceIte]
          rw [bs living_eq]
      refine ⟨-1, ?_, ?_⟩
      · simp only [c0, c1, c2, c3, c4, c5, c6, c7, c8, c9, ↓reduceIte]
      · simp only [c0, c1, c2, c3, c4, c5, c6, c7, c8, c9, ↓reduceIte]
        rw [b0 (h1 M), b0 (h2 M)]
    · rw [b1 (h2 M)]
      refine ⟨M 0 (j - 100), ?_, ?_⟩
      · simp (disch := omega) only [↓reduceIte, mset_eq, i_lt0, i_cl, i_ll, i_lr, i_tl, i_tr, i_el, i_er, i_le, i_lt, i_eq, i_al, i_ar, i_sr, i_sl, i_ml, i_mr, i_dr, i_cll, nI_add, pk_mul, i_sub, nle_f, nle_t, nlt_f, nlt_t, neq_f, if_true, if_false, ite_true, ite_false, false_or, or_false, true_or, or_true, or_self, not_false_eq_true, not_true_eq_false, Option.bind_some, Nat.zero_add, Nat.add_zero]
      · simp (disch := omega) only [i_er, neq_f, ↓reduceIte]
        rw [b0 (h1 M), b1 (h2 M)]
        simp (disch := omega) only [I.eq7, ↓reduceIte, mset_eq, i_lt0, i_cl, i_ll, i_lr, i_tl, i_tr, i_el, i_er, i_le, i_lt, i_eq, i_al, i_ar, i_sr, i_sl, i_ml, i_mr, i_dr, i_cll, nI_add, pk_mul, i_sub, nle_f, nle_t, nlt_f, nlt_t, neq_f, if_true, if_false, ite_true, ite_false, false_or, or_false, true_or, or_true, or_self, not_false_eq_true, not_true_eq_false, Option.bind_some, Nat.zero_add, Nat.add_zero]
  · rw [b1 (h1 M)]
    refine ⟨M 0 (304 + (j - 10)), ?_, ?_⟩
    · simp (disch := omega) only [↓reduceIte, mset_eq, i_lt0, i_cl, i_ll, i_lr, i_tl, i_tr, i_el, i_er, i_le, i_lt, i_eq, i_al, i_ar, i_sr, i_sl, i_ml, i_mr, i_dr, i_cll, nI_add, pk_mul, i_sub, nle_f, nle_t, nlt_f, nlt_t, neq_f, if_true, if_false, ite_true, ite_false, false_or, or_false, true_or, or_true, or_self, not_false_eq_true, not_true_eq_false, Option.bind_some, Nat.zero_add, Nat.add_zero]
    · simp (disch := omega) only [i_er, neq_f, ↓reduceIte]
      rw [b1 (h1 M)]
      simp (disch := omega) only [I.eq7, ↓reduceIte, mset_eq, i_lt0, i_cl, i_ll, i_lr, i_tl, i_tr, i_el, i_er, i_le, i_lt, i_eq, i_al, i_ar, i_sr, i_sl, i_ml, i_mr, i_dr, i_cll, nI_add, pk_mul, i_sub, nle_f, nle_t, nlt_f, nlt_t, neq_f, if_true, if_false, ite_true, ite_false, false_or, or_false, true_or, or_true, or_self, not_false_eq_true, not_true_eq_false, Option.bind_some, Nat.zero_add, Nat.add_zero]
      rw [show 304 + j - 10 = 304 + (j - 10) by omega]
theorem pair_lit (a : Int32) : Pair (g8_lit a) (g9_lit a) := by
  refine Pair.same fun M I => ?_
  unfold g8_lit g9_lit g8_lit_b33 g9_lit_b22
  have lit : ∀ l, l < 18 → ∃ r, (Option.bind (g6_isLit 0 (nI l) M) fun q7 => if q7.1 = 0 then some ((0 : Int32), q7.2) else some ((1 : Int32), q7.2)) = some (r, M) ∧ (Option.bind (g9_isLit (nI l) M) fun q7 => if q7.1 = 0 then some ((0 : Int32), q7.2) else some ((1 : Int32), q7.2)) = some (r, M) := by
    intro l hl
    rw [bs (lit_in I.ok hl), bs (lit9_in I.ok7 hl), I.eq7]
    by_cases c : sLit (M 0) l = true
    · exact ⟨1, by rw [b2i_t c]; rfl, by rw [b2i_t c]; rfl⟩
    · exact ⟨0, by rw [b2i_f c]; rfl, by rw [b2i_f c]; rfl⟩
  rcases stands_cases a I with ⟨h1, h2⟩ | ⟨l, hl, rfl, -, h1, h2⟩
  · rw [b0 h1]
    by_cases c : a < 12
    · rw [if_pos c, bs h2]
      have ht : g1_isTold 0 (a - 12) M = some (0, M) := by
        rcases i3 (a - 12) (n := 6) (by omega) with q | q | ⟨j, hj, e⟩
        · exact told_lo q
        · exact told_hi q
        · exfalso
          have ea : a = nI (12 + j) := by
            have : a = (a - 12) + 12 := by rw [Int32.sub_add_cancel]
            rw [this, e]
            exact (nI_add j 12).trans (by rw [Nat.add_comm])
          rw [ea] at c
          simp (disch := omega) only [↓reduceIte, mset_eq, i_lt0, i_cl, i_ll, i_lr, i_tl, i_tr, i_el, i_er, i_le, i_lt, i_eq, i_al, i_ar, i_sr, i_sl, i_ml, i_mr, i_dr, i_cll, nI_add, pk_mul, i_sub, nle_f, nle_t, nlt_f, nlt_t, neq_f, if_true, if_false, ite_true, ite_false, false_or, or_false, true_or, or_true, or_self, not_false_eq_true, not_true_eq_false, Option.bind_some, Nat.zero_add, Nat.add_zero] at c
      rw [b0 ht]
      exact ⟨-1, rfl, rfl⟩
    · rw [if_neg c]
      rcases told_cases (a - 12) I with ⟨t1, t2⟩ | ⟨h, hh, e, -, t1, t2⟩
      · rw [b0 t1, bs t2]; exact ⟨-1, rfl, rfl⟩
      · rw [b1 t1, bs t2]
        have ea : a = nI (12 + h) := by
          have : a = (a - 12) + 12 := by rw [Int32.sub_add_cancel]
          rw [this, e]
          exact (nI_add h 12).trans (by rw [Nat.add_comm])
        rw [ea]
        obtain ⟨r, l1, l2⟩ := lit (12 + h) (by omega)
        exact ⟨r, l1, l2⟩
  · rw [b1 h1]
    have hl' : nI l < nI 12 := nI_lt hl (by omega)
    rw [if_pos (show nI l < 12 from hl'), bs h2]
    obtain ⟨r, l1, l2⟩ := lit l (by omega)
    exact ⟨r, l1, l2⟩
theorem row_ext {R S : Nat → Int32} (h : ∀ j, j < 331 → R j = S j) (h2 : ∀ j, 331 ≤ j → R j = 0) (h3 : ∀ j, 331 ≤ j → S j = 0) : R = S := by
  funext j
  by_cases c : j < 331
  · exact h j c
  · rw [h2 j (by omega), h3 j (by omega)]
theorem cp_in {M : xMem} {b o n b0 o0 j : Nat} (h : o ≤ j ∧ j < o + n) : cpM M b o n b0 o0 b j = M b0 (o0 + (j - o)) := if_pos ⟨rfl, h⟩
theorem cp_out {M : xMem} {b o n b0 o0 j : Nat} (h : ¬ (o ≤ j ∧ j < o + n)) : cpM M b o n b0 o0 b j = M b j := if_neg fun q => h q.2
theorem cp_b {M : xMem} {b c o n b0 o0 : Nat} (h : c ≠ b) : cpM M b o n b0 o0 c = M c := by
  funext j
  exact if_neg fun q => h q.1
/-- copying a segment of row q into row p, and what is already alike stays -/
def Cpd (M N : xMem) (p q : Nat) (S : Nat → Prop) : Prop := (∀ b, b ≠ p → N b = M b) ∧ (∀ j, S j → N p j = M q j) ∧ (∀ j, ¬ S j → N p j = M p j)
theorem Cpd.cp {M N : xMem} {p q : Nat} {S : Nat → Prop} (h : Cpd M N p q S) (hpq : q ≠ p) {o n : Nat} : Cpd M (cpM N p o n q o) p q (fun j => S j ∨ (o ≤ j ∧ j < o + n)) := by
  obtain ⟨h1, h2, h3⟩ := h
  refine ⟨fun b hb => (cp_b hb).trans (h1 b hb), fun j hj => ?_, fun j hj => ?_⟩
  · by_cases c : o ≤ j ∧ j < o + n
    · rw [cp_in c, h1 q hpq, show o + (j - o) = j by omega]
    · rw [cp_out c]
      exact h2 j (hj.resolve_right c)
  · rw [cp_out fun q => hj (Or.inr q)]
    exact h3 j fun q => hj (Or.inl q)
theorem Cpd.up {M N : xMem} {p q : Nat} {S : Nat → Prop} (h : Cpd M N p q S) (hpq : q ≠ p) {i : Nat} : Cpd M (upM N p i (N q i)) p q (fun j => S j ∨ j = i) := by
  obtain ⟨h1, h2, h3⟩ := h
  refine ⟨fun b hb => (up_b hb).trans (h1 b hb), fun j hj => ?_, fun j hj => ?_⟩
  · by_cases c : j = i
    · subst c; rw [up_s, h1 q hpq]
    · rw [up_i c]
      exact h2 j (hj.resolve_right c)
  · rw [up_i fun q => hj (Or.inr q)]
    exact h3 j fun q => hj (Or.inl q)
theorem Cpd.rf {M : xMem} {p q : Nat} : Cpd M M p q (fun _ => False) := ⟨fun _ _ => rfl, fun _ h => h.elim, fun _ _ => rfl⟩
