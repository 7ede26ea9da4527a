/-! PURE: letters and facts -/
theorem fill_b {M : xMem} : ∀ (d k n : Nat) (N : xMem), k + d = 15 → d < n → Off [101] M N → (∀ i, i < k → N 101 i = 0) → ∃ K, gJ7_fill_53178_28_b5 n 0 (nI k) (nI 15) N = some K ∧ Off [101] M K ∧ ∀ i, i < 15 → K 101 i = 0
  | 0, k, n + 1, N, hk, hn, o, h => by
    obtain rfl : k = 15 := by omega
    unfold gJ7_fill_53178_28_b5
    simp (disch := omega) only [↓reduceIte, mset_eq, i_lt0, i_cl, i_ll, i_lr, i_tl, i_tr, i_el, i_er, i_le, i_lt, i_eq, i_al, i_ar, i_sr, i_sl, i_ml, i_mr, i_dr, i_cll, nI_add, pk_mul, i_sub, nle_f, nle_t, nlt_f, nlt_t, neq_f, if_true, if_false, ite_true, ite_false, false_or, or_false, true_or, or_true, or_self, not_false_eq_true, not_true_eq_false, Option.bind_some, Nat.zero_add, Nat.add_zero]
    exact ⟨N, rfl, o, h⟩
  | d + 1, k, n + 1, N, hk, hn, o, h => by
    unfold gJ7_fill_53178_28_b5
    simp (disch := omega) only [↓reduceIte, mset_eq, i_lt0, i_cl, i_ll, i_lr, i_tl, i_tr, i_el, i_er, i_le, i_lt, i_eq, i_al, i_ar, i_sr, i_sl, i_ml, i_mr, i_dr, i_cll, nI_add, pk_mul, i_sub, nle_f, nle_t, nlt_f, nlt_t, neq_f, if_true, if_false, ite_true, ite_false, false_or, or_false, true_or, or_true, or_self, not_false_eq_true, not_true_eq_false, Option.bind_some, Nat.zero_add, Nat.add_zero]
    refine fill_b d (k + 1) n _ (by omega) (by omega) (o.up' (by decide)) fun i hi => ?_
    by_cases c : i = k
    · subst c; exact up_s
    · rw [up_i c]; exact h i (by omega)
def lTime (h t : Int32) (i : Nat) : Int32 := if i = 1 then t else if i = 0 then h else 0
theorem feels_b {M : xMem} : ∀ (d k n : Nat) (N : xMem), k + d = 15 → d < n → Off [186] M N → (∀ i, i < k → N 186 i = 0) → ∃ K, g9_feels_b2 n (nI k) N = some K ∧ Off [186] M K ∧ ∀ i, i < 15 → K 186 i = lTime (M 7 328) (M 7 327) i
  | 0, k, n + 1, N, hk, hn, o, h => by
    obtain rfl : k = 15 := by omega
    unfold g9_feels_b2
    simp (disch := omega) only [↓reduceIte, mset_eq, i_lt0, i_cl, i_ll, i_lr, i_tl, i_tr, i_el, i_er, i_le, i_lt, i_eq, i_al, i_ar, i_sr, i_sl, i_ml, i_mr, i_dr, i_cll, nI_add, pk_mul, i_sub, nle_f, nle_t, nlt_f, nlt_t, neq_f, if_true, if_false, ite_true, ite_false, false_or, or_false, true_or, or_true, or_self, not_false_eq_true, not_true_eq_false, Option.bind_some, Nat.zero_add, Nat.add_zero]
    refine ⟨_, rfl, (o.up' (by decide)).up' (by decide), fun i hi => ?_⟩
    rw [up_b (show (7 : Nat) ≠ 186 by decide), o 7 (by decide)]
    unfold lTime
    by_cases c1 : i = 1
    · subst c1; rw [up_s, if_pos rfl]
    · rw [up_i c1, if_neg c1]
      by_cases c0 : i = 0
      · subst c0; rw [up_s, if_pos rfl]
      · rw [up_i c0, if_neg c0]; exact h i hi
  | d + 1, k, n + 1, N, hk, hn, o, h => by
    unfold g9_feels_b2
    simp (disch := omega) only [↓reduceIte, mset_eq, i_lt0, i_cl, i_ll, i_lr, i_tl, i_tr, i_el, i_er, i_le, i_lt, i_eq, i_al, i_ar, i_sr, i_sl, i_ml, i_mr, i_dr, i_cll, nI_add, pk_mul, i_sub, nle_f, nle_t, nlt_f, nlt_t, neq_f, if_true, if_false, ite_true, ite_false, false_or, or_false, true_or, or_true, or_self, not_false_eq_true, not_true_eq_false, Option.bind_some, Nat.zero_add, Nat.add_zero]
    refine feels_b d (k + 1) n _ (by omega) (by omega) (o.up' (by decide)) fun i hi => ?_
    by_cases c : i = k
    · subst c; exact up_s
    · rw [up_i c]; exact h i (by omega)
theorem feels_eq {M : xMem} : ∃ K, g9_feels M = some K ∧ Off [186] M K ∧ ∀ i, i < 15 → K 186 i = lTime (M 7 328) (M 7 327) i :=
  feels_b 15 0 5000 M rfl (by omega) Off.rf fun i hi => absurd hi (by omega)
theorem fill_eq {M : xMem} : ∃ K, gJ7_fill_53178_28 0 M = some K ∧ Off [101] M K ∧ ∀ i, i < 15 → K 101 i = 0 :=
  fill_b 15 0 5000 M rfl (by omega) Off.rf fun i hi => absurd hi (by omega)
theorem tellTime_eq {p : Nat} {M : xMem} {h : Int32} (hp : p < 10) : ∃ K, g0_tellTime p h M = some K ∧ Off [101] M K ∧ ∀ i, i < 15 → K 101 i = lTime h (M p 327) i := by
  unfold g0_tellTime
  obtain ⟨K, e, o, hz⟩ := fill_eq (M := M)
  rw [bs e]
  simp only [mset_eq]
  refine ⟨_, rfl, (o.up' (by decide)).up' (by decide), fun i hi => ?_⟩
  rw [up_b (show p ≠ 101 by omega), o p (by simp; omega)]
  unfold lTime
  by_cases c1 : i = 1
  · subst c1; rw [up_s, if_pos rfl]
  · rw [up_i c1, if_neg c1]
    by_cases c0 : i = 0
    · subst c0; rw [up_s, if_pos rfl]
    · rw [up_i c0, if_neg c0]; exact hz i hi
/-- the price of a beer -/
def lBeer (R : Nat → Int32) (l : Nat) (i : Nat) : Int32 := if i = 14 then R (232 + l) else if i = 12 then R (220 + l) else if i = 11 then nI l else lTime (R 328) (R 327) i
theorem max0 {x : Int32} (h : ∃ j, j ≤ 99 ∧ x = nI j) : xMax x 0 = x := by
  obtain ⟨j, hj, rfl⟩ := h
  unfold xMax
  rw [if_neg]
  intro q
  exact nI_pos (show j < 2 ^ 31 by omega) q
theorem lawC.off' {S : List Nat} {M N : xMem} (o : Off S M N) (h : ∀ b ∈ [20, 21, 22, 23, 24, 25, 26], b ∉ S) : lawC M N := fun b hb => o b (h b hb)
theorem lawM.off' {S : List Nat} {M N : xMem} (o : Off S M N) (h : ∀ b ∈ [180, 181, 182, 183, 184, 173], b ∉ S) : lawM M N := fun b hb => o b (h b hb)
theorem beer_eq {p l : Nat} {M : xMem} (ok : RowOk (M p)) (hp : p < 10) (hl : l < 12) (ht : M p (196 + l) = 1) {v : (Nat → Int32) → Int32} (vc : Cong15 v) (hA : ∀ N, lawC M N → ∃ N', g3_ask (nI 6) N = some (v (N 101), N') ∧ Off [27, 28, 29] N N') :
    ∃ K, g0_beer p (nI l) M = some (v (lBeer (M p) l), K) ∧ Off [101, 27, 28, 29] M K := by
  unfold g0_beer
  obtain ⟨K, e, o, hz⟩ := tellTime_eq (M := M) (h := M p 328) hp
  rw [bs e]
  have kp : K p = M p := o p (by simp; omega)
  have hne : p ≠ 101 := by omega
  have r1 : (upM K 101 11 (nI l)) p = M p := by rw [up_b hne, kp]
  have r2 : (upM (upM K 101 11 (nI l)) 101 12 (M p (220 + l))) p = M p := by rw [up_b hne, r1]
  have e1 : g6_kindOfLamp p (nI l) (upM K 101 11 (nI l)) = some (M p (220 + l), upM K 101 11 (nI l)) := by
    unfold g6_kindOfLamp
    simp (disch := omega) only [↓reduceIte, mset_eq, i_lt0, i_cl, i_ll, i_lr, i_tl, i_tr, i_el, i_er, i_le, i_lt, i_eq, i_al, i_ar, i_sr, i_sl, i_ml, i_mr, i_dr, i_cll, nI_add, pk_mul, i_sub, nle_f, nle_t, nlt_f, nlt_t, neq_f, if_true, if_false, ite_true, ite_false, false_or, or_false, true_or, or_true, or_self, not_false_eq_true, not_true_eq_false, Option.bind_some, Nat.zero_add, Nat.add_zero, r1]
  have e2 : ∀ N : xMem, N p = M p → g2_tell p (nI l) 2 N = some (M p (232 + l), N) := fun N hN => by
    unfold g2_tell
    have h1 : g2_stands p (nI l) N = some (1, N) := by rw [stands_in hl, hN, b2i_t (by rw [ht]; decide)]
    rw [b1 h1, if_neg (by decide), if_neg (by decide), if_pos rfl]
    simp (disch := omega) only [↓reduceIte, mset_eq, i_lt0, i_cl, i_ll, i_lr, i_tl, i_tr, i_el, i_er, i_le, i_lt, i_eq, i_al, i_ar, i_sr, i_sl, i_ml, i_mr, i_dr, i_cll, nI_add, pk_mul, i_sub, nle_f, nle_t, nlt_f, nlt_t, neq_f, if_true, if_false, ite_true, ite_false, false_or, or_false, true_or, or_true, or_self, not_false_eq_true, not_true_eq_false, Option.bind_some, Nat.zero_add, Nat.add_zero, hN]
  simp only [mset_eq]
  rw [bs e1, bs (e2 _ r2)]
  obtain ⟨N', e3, o3⟩ := hA (upM (upM (upM K 101 11 (nI l)) 101 12 (M p (220 + l))) 101 14 (xMax (M p (232 + l)) 0)) (lawC.off' (((o.up' (by decide)).up' (by decide)).up' (by decide)) (by decide))
  refine ⟨N', ?_, ((((o.up' (by decide)).up' (by decide)).up' (by decide)).mono (by decide)).tr (o3.mono (by decide))⟩
  show Option.bind (g3_ask (nI 6) _) _ = _
  rw [bs e3, max0 (ok.paid hl)]
  have hv : v ((upM (upM (upM K 101 11 (nI l)) 101 12 (M p (220 + l))) 101 14 (M p (232 + l))) 101) = v (lBeer (M p) l) := vc _ _ fun i hi => by
    unfold lBeer
    by_cases c1 : i = 14
    · subst c1; rw [up_s, if_pos rfl]
    rw [up_i c1, if_neg c1]
    by_cases c2 : i = 12
    · subst c2; rw [up_s, if_pos rfl]
    rw [up_i c2, if_neg c2]
    by_cases c3 : i = 11
    · subst c3; rw [up_s, if_pos rfl]
    rw [up_i c3, if_neg c3]
    exact hz i hi
  rw [hv]
