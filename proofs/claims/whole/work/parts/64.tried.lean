/-! PURE: tried -/
theorem cp155 {M : xMem} (z : Z10 M) : ∃ N, g9_begins M = some N ∧ N 8 = M 7 ∧ (∀ b, b ≠ 8 → N b = M b) ∧ Z10 N := by
  obtain ⟨N, e, h⟩ := cps155_156 z
  exact ⟨N, by unfold g9_begins; rw [bs e], h⟩
theorem cp156 {M : xMem} (z : Z10 M) : ∃ N, g9_again M = some N ∧ N 7 = M 8 ∧ (∀ b, b ≠ 7 → N b = M b) ∧ Z10 N := by
  obtain ⟨N, e, h⟩ := cps156_155 z
  exact ⟨N, by unfold g9_again; rw [bs e], h⟩
/-- rows are well where they were -/
theorem Z10.row {M N : xMem} (z : Z10 M) {S : List Nat} (o : Off S M N) (hz : ∀ b ∈ S, b < 10 → RowOk (N b)) : Z10 N := fun b hb j hj => by
  by_cases c : b ∈ S
  · exact (hz b c hb).out hj
  · rw [o b c]; exact z b hb j hj
/-- the reference tries hours and comes back -/
theorem runs_back {n : Nat} (hn : n < 4000) {B : xMem} {V : Nat → (Nat → Int32) → Int32} (L : LawV B V) {M : xMem} (lb : lawM B M) (ok : RowOk (M 7)) (z : Z10 M) :
    ∃ K, (Option.bind (g9_begins M) fun q => g9_runs (nI n) q) = some ((sRun V n (M 7) 0).2, K) ∧ K 7 = (sRun V n (M 7) 0).1 ∧ K 8 = M 7 ∧ Off [7, 8, 185, 186] M K ∧ Z10 K := by
  obtain ⟨K1, e1, a1, f1, z1⟩ := cp155 z
  have k7 : K1 7 = M 7 := f1 7 (by decide)
  obtain ⟨K, e, r, o⟩ := runs9_eq (n := n) (M := K1) hn L (lb.tr (fun b hb => f1 b (by revert b; decide))) (by rw [k7]; exact ok)
  rw [k7] at e r
  refine ⟨K, by rw [bs e1, e], r, by rw [o 8 (by decide), a1], fun b hb => ?_, z1.row o fun b hb h10 => ?_⟩
  · rw [o b (fun q => hb (by revert q; unfold TT; simp; omega)), f1 b (fun q => hb (by rw [q]; decide))]
  · have : b = 7 := by revert b; decide
    subst this
    rw [r]
    exact sRun_ok L.vb n _ 0 ok
theorem div10_in {a : Int32} : (∀ M, g9_in (a / 10) 1 4 M = some (0, M) ∧ g9_in a 10 49 M = some (0, M)) ∨ ∃ j : Nat, 10 ≤ j ∧ j ≤ 49 ∧ a = nI j ∧ a / 10 = nI (j / 10) ∧ a - a / 10 * 10 = nI (j % 10) ∧ ∀ M, g9_in (a / 10) 1 4 M = some (1, M) ∧ g9_in a 10 49 M = some (1, M) := by
  rcases in_cases a 10 49 10 49 with h | ⟨j, h1, h2, rfl, h⟩
  · refine Or.inl fun M => ⟨?_, h M⟩
    rw [in9_eq]
    refine congrArg some (congrArg (·, M) (b2i_f fun q => ?_))
    have hM := h M
    rw [in9_eq] at hM
    injection hM with hM
    injection hM with hM
    have n1 : ¬ (10 ≤ a ∧ a ≤ 49) := fun q => by rw [b2i_t q] at hM; exact absurd hM (by decide)
    by_cases c : a < 0
    · have d1 := (fa_le' _ _).mp q.1
      have d2 := (fa_lt' _ _).mp c
      have d3 : (a / 10).toInt = (a.toInt.tdiv 10) := by
        rw [Int32.toInt_div_of_ne_right a 10 (by decide)]
        rfl
      rw [d3] at d1
      have d4 : (1 : Int32).toInt = 1 := rfl
      have d5 : (0 : Int32).toInt = 0 := rfl
      rw [d4] at d1
      rw [d5] at d2
      have d6 : a.toInt.tdiv 10 ≤ 0 := by
        obtain ⟨n, hn⟩ : ∃ n : Nat, a.toInt = -(n : Int) := ⟨a.toInt.natAbs, by omega⟩
        rw [hn, Int.neg_tdiv]
        have : (0 : Int) ≤ (n : Int).tdiv 10 := Int.tdiv_nonneg (by omega) (by omega)
        omega
      omega
    · obtain ⟨j, hj, rfl⟩ := nI_of c
      rw [show nI j / 10 = nI (j / 10) from pk_div (by omega) (by decide) (by decide)] at q
      have q1 : 1 ≤ j / 10 := (nI_leI (a := 1) (by omega) (by omega)).mp q.1
      have q2 : j / 10 ≤ 4 := (nI_leI (b := 4) (by omega) (by omega)).mp q.2
      exact n1 ⟨(nI_leI (a := 10) (by omega) (by omega)).mpr (by omega), (nI_leI (b := 49) (by omega) (by omega)).mpr (by omega)⟩
  · have e1 : nI j / 10 = nI (j / 10) := pk_div (by omega) (by decide) (by decide)
    refine Or.inr ⟨j, h1, h2, rfl, e1, pk_rem (by omega) (by decide) (by decide), fun M => ⟨?_, h M⟩⟩
    rw [e1, in9_eq, b2i_t]
    exact ⟨(nI_leI (a := 1) (by omega) (by omega)).mpr (by omega), (nI_leI (b := 4) (by omega) (by omega)).mpr (by omega)⟩
theorem isTold1 {p h : Nat} {M : xMem} (hh : h < 6) (t : M p (268 + h) = 1) : g1_isTold p (nI h) M = some (1, M) := by
  rw [told_in hh, b2i_t (by rw [t]; decide)]
/-- what is asked of a trial -/
theorem tried_ask (a : Int32) {M : xMem} (I : Inv M) :
    (g8_isTriedAsked a M = some (0, M) ∧ (∀ x N, N 7 = M 7 → g9_tried x a N = g9_tried_b27 x a 0 N) ∧ ∀ N, g9_in a 0 2 N = some (0, N)) ∨
    (g8_isTriedAsked a M = some (1, M) ∧ (∃ j : Nat, j ≤ 2 ∧ a = nI j ∧ ∀ N, g9_in a 0 2 N = some (1, N)) ∧ ∀ x N, N 7 = M 7 → g9_tried x a N = g9_tried_b27 x a 0 N) ∨
    (g8_isTriedAsked a M = some (1, M) ∧ (∃ j : Nat, 10 ≤ j ∧ j ≤ 49 ∧ j % 10 < 6 ∧ a = nI j ∧ a / 10 = nI (j / 10) ∧ a - a / 10 * 10 = nI (j % 10) ∧ M 0 (268 + j % 10) = 1) ∧ (∀ N, g9_in a 0 2 N = some (0, N)) ∧ ∀ x N, N 7 = M 7 → g9_tried x a N = g9_tried_b27 x a 1 N) := by
  unfold g8_isTriedAsked g8_isTriedAsked_b38 g9_tried g9_tried_b26
  rw [in8_9]
  rcases in_cases a 0 2 0 2 with h | ⟨j, -, hj, rfl, h⟩
  · rw [b0 (h M)]
    rcases div10_in (a := a) with h2 | ⟨j, hj1, hj2, rfl, e1, e2, h2⟩
    · exact Or.inl ⟨by rw [b0 (h2 M).1], fun x N hN => by rw [b0 (h2 N).2], h⟩
    · rw [b1 (h2 M).1]
      rcases told_cases (nI j - nI j / 10 * 10) I with ⟨t1, t2⟩ | ⟨i, hi, ei, hone, t1, t2⟩
      · refine Or.inl ⟨by rw [b0 t1], fun x N hN => ?_, h⟩
        rw [b1 (h2 N).2, b0 (told9_of0 hN _ t2)]
      · have ej : j % 10 = i := (nI_eq (by omega) (by omega)).mp (e2.symm.trans ei)
        refine Or.inr (Or.inr ⟨by rw [b1 t1], ⟨j, hj1, hj2, by omega, rfl, e1, e2, by rw [ej]; exact hone⟩, h, fun x N hN => ?_⟩)
        rw [b1 (h2 N).2, b1 (told9_of0 hN _ t2)]
  · refine Or.inr (Or.inl ⟨by rw [b1 (h M)], ⟨j, hj, rfl, h⟩, fun x N hN => ?_⟩)
    rcases div10_in (a := nI j) with h2 | ⟨i, hi1, hi2, ei, -⟩
    · rw [b0 (h2 N).2]
    · have := (nI_eq (by omega) (by omega)).mp ei
      omega
theorem pair_tried (a b : Int32) : Pair (g8_tried a b) (g9_tried a b) := by
  intro M I
  unfold g8_tried
  rw [in8_9]
  have none' : ∀ s, (∀ N, g9_in a 1 24 N = some (0, N)) → g9_tried_b27 a b s M = some (-1, M) := fun s h => by
    unfold g9_tried_b27
    rw [b0 (h M)]
  rcases in_cases a 1 24 1 24 with h | ⟨n, -, hn, rfl, h⟩
  · refine ⟨-1, M, M, by rw [b0 (h M)], ?_, I⟩
    rcases tried_ask b I with ⟨-, h2, -⟩ | ⟨-, -, h2⟩ | ⟨-, -, -, h2⟩
    · rw [h2 a M rfl, none' _ h]
    · rw [h2 a M rfl, none' _ h]
    · rw [h2 a M rfl, none' _ h]
  obtain ⟨V, L⟩ := lawV_of I.law
  obtain ⟨K1, e1, a1, f1, z1⟩ := become_eq (M := M) (p := 1) (q := 0) (by decide) (by decide) (by decide) I.ok I.z
  obtain ⟨K, e, r, o, -⟩ := runs_eq (p := 1) (n := n) (M := K1) (by decide) (by omega) L (fun b hb => f1 b (by revert b; decide)) (by rw [a1]; exact I.ok)
  rw [a1] at e r
  have oK : Off (SS 1) M K := fun b hb => by
    rw [o b hb]
    exact f1 b (fun q => hb (by rw [q]; decide))
  have k7 : K 7 = M 0 := (oK 7 (by decide)).trans I.eq7
  have ok' := sRun_ok L.vb n (M 0) 0 I.ok
  have zK : Z10 K := I.z.row oK fun b hb h10 => by
    have : b = 1 := by revert b; decide
    subst this
    rw [r]; exact ok'
  obtain ⟨K', e', r', r8, o', z'⟩ := runs_back (n := n) (M := K) (by omega) L (lawM.off' oK (by decide)) (by rw [k7]; exact I.ok) zK
  rw [k7] at e' r' r8
  obtain ⟨K2, e2, a2, f2, z2⟩ := cp156 z'
  have J : Inv K2 := by
    refine I.fr ?_ ?_ z2 fun b hb => ?_
    · rw [a2, r8, f2 0 (by decide), o' 0 (by decide), oK 0 (by decide)]
    · rw [f2 0 (by decide), o' 0 (by decide), oK 0 (by decide)]; exact I.ok
    · rw [f2 b (by revert b; decide), o' b (by revert b; decide), oK b (by revert b; decide)]
  have b174 : ∀ x, g9_tried_b174 x K' = some (x, K2) := fun x => by unfold g9_tried_b174; rw [bs e2]
  have ok7 : RowOk (K' 7) := by rw [r']; exact ok'
  have b53 : g9_tried_b53 (nI n) b K = (Option.bind (Option.bind (g9_begins K) fun q => g9_runs (nI n) q) fun q16 => if b = 0 then g9_tried_b174 q16.1 q16.2 else if b = 1 then (Option.bind (g9_living q16.2) fun q30 => g9_tried_b174 q30.1 q30.2) else if b = 2 then (Option.bind (g9_through q16.2) fun q28 => g9_tried_b174 q28.1 q28.2) else
      (if (20 : Int32) ≤ b then (if (30 : Int32) ≤ b then (if (40 : Int32) ≤ b then (if ((292 : Int32) + (b - b / 10 * 10)) < 0 ∨ 331 ≤ ((292 : Int32) + (b - b / 10 * 10)).toNatClampNeg then none else g9_tried_b174 (q16.2 7 ((292 : Int32) + (b - b / 10 * 10)).toNatClampNeg) q16.2) else (if ((286 : Int32) + (b - b / 10 * 10)) < 0 ∨ 331 ≤ ((286 : Int32) + (b - b / 10 * 10)).toNatClampNeg then none else g9_tried_b174 (q16.2 7 ((286 : Int32) + (b - b / 10 * 10)).toNatClampNeg) q16.2)) else (if ((274 : Int32) + (b - b / 10 * 10)) < 0 ∨ 331 ≤ ((274 : Int32) + (b - b / 10 * 10)).toNatClampNeg then none else g9_tried_b174 (q16.2 7 ((274 : Int32) + (b - b / 10 * 10)).toNatClampNeg) q16.2)) else (if ((280 : Int32) + (b - b / 10 * 10)) < 0 ∨ 331 ≤ ((280 : Int32) + (b - b / 10 * 10)).toNatClampNeg then none else g9_tried_b174 (q16.2 7 ((280 : Int32) + (b - b / 10 * 10)).toNatClampNeg) q16.2))) := by
    unfold g9_tried_b53
    cases g9_begins K <;> rfl
  rw [bs e'] at b53
  dsimp only at b53
  have hb7 : ∀ {x : Int32}, g9_tried_b27 (nI n) b x K = if x = 0 then (Option.bind (g9_in b 0 2 K) fun q => if q.1 = 0 then some (-1, q.2) else g9_tried_b53 (nI n) b q.2) else Option.bind (g9_in b 0 2 K) fun q => g9_tried_b53 (nI n) b q.2 := by
    intro x
    unfold g9_tried_b27
    rw [b1 (h K)]
    by_cases c : x = 0
    · rw [if_pos c]
      simp only [if_pos c]
    · rw [if_neg c]
      simp only [if_neg c, ite_self]
  rw [b1 (h M)]
  rcases tried_ask b I with ⟨h1, h2, h3⟩ | ⟨h1, ⟨j, hj, rfl, h3⟩, h2⟩ | ⟨h1, ⟨j, j1, j2, j6, rfl, d1, d2, t⟩, h3, h2⟩
  · refine ⟨-1, M, M, by rw [b0 h1], ?_, I⟩
    rw [h2 _ _ rfl]
    unfold g9_tried_b27
    rw [b1 (h M), b0 (h3 M)]
    rfl
  · have h9 : g9_tried (nI n) (nI j) K = g9_tried_b53 (nI n) (nI j) K := by
      rw [h2 _ _ (oK 7 (by decide)), hb7, if_pos rfl, b1 (h3 K)]
    rw [b1 h1, bs e1, bs e]
    suffices H : ∃ r, _ = some (r, K) ∧ g9_tried (nI n) (nI j) K = some (r, K2) from by
      obtain ⟨r, x, y⟩ := H
      exact ⟨r, K, K2, x, y, J⟩
    rw [h9, b53]
    rcases (show j = 0 ∨ j = 1 ∨ j = 2 by omega) with rfl | rfl | rfl
    · exact ⟨_, by rw [if_pos nI_0], by rw [if_pos nI_0, b174]⟩
    · refine ⟨sLiving (sRun V n (M 0) 0).1, ?_, ?_⟩
      · rw [if_neg (by decide), if_pos (by decide)]
        dsimp only
        rw [bs living_eq, r]
      · rw [if_neg (by decide), if_pos (by decide), bs (living9_eq ok7), r', b174]
    · refine ⟨sThrough (sRun V n (M 0) 0).1, ?_, ?_⟩
      · rw [if_neg (by decide), if_neg (by decide), if_pos (by decide)]
        dsimp only
        rw [bs through_eq, r]
      · rw [if_neg (by decide), if_neg (by decide), if_pos (by decide), bs (through9_eq ok7), r', b174]
  · have h9 : g9_tried (nI n) (nI j) K = g9_tried_b53 (nI n) (nI j) K := by
      rw [h2 _ _ (oK 7 (by decide)), hb7, if_neg (by decide), bs (h3 K)]
    rw [b1 h1, bs e1, bs e]
    suffices H : ∃ r, _ = some (r, K) ∧ g9_tried (nI n) (nI j) K = some (r, K2) from by
      obtain ⟨r, x, y⟩ := H
      exact ⟨r, K, K2, x, y, J⟩
    rw [h9, b53, d2, d1]
    have c0 : ¬ nI j = 0 := fun q => by have := (nI_eq (b := 0) (by omega) (by omega)).mp q; omega
    have c1 : ¬ nI j = 1 := fun q => by have := (nI_eq (b := 1) (by omega) (by omega)).mp q; omega
    have c2 : ¬ nI j = 2 := fun q => by have := (nI_eq (b := 2) (by omega) (by omega)).mp q; omega
    simp only [if_neg c0, if_neg c1, if_neg c2]
    have tK : g1_isTold 1 (nI (j % 10)) K = some (1, K) := isTold1 j6 (by rw [r, sRun_n (by omega), t])
    have tl : ∀ s, g8_tried_b118 (nI (j % 10)) s K = Option.bind (g1_tell 1 (nI (j % 10)) s K) fun q => some (q.1, q.2) := fun s => rfl
    unfold g1_tell at tl
    simp only [tl, b1 tK]
    rcases (show j / 10 = 1 ∨ j / 10 = 2 ∨ j / 10 = 3 ∨ j / 10 = 4 by omega) with q | q | q | q <;> rw [q]
    · refine ⟨(sRun V n (M 0) 0).1 (280 + j % 10), ?_, ?_⟩
      · simp (disch := omega) only [↓reduceIte, mset_eq, i_lt0, i_cl, i_ll, i_lr, i_tl, i_tr, i_el, i_er, i_le, i_lt, i_eq, i_al, i_ar, i_sr, i_sl, i_ml, i_mr, i_dr, i_cll, nI_add, pk_mul, i_sub, nle_f, nle_t, nlt_f, nlt_t, neq_f, if_true, if_false, ite_true, ite_false, false_or, or_false, true_or, or_true, or_self, not_false_eq_true, not_true_eq_false, Option.bind_some, Nat.zero_add, Nat.add_zero, i_kk, r]
      · simp (disch := omega) only [↓reduceIte, mset_eq, i_lt0, i_cl, i_ll, i_lr, i_tl, i_tr, i_el, i_er, i_le, i_lt, i_eq, i_al, i_ar, i_sr, i_sl, i_ml, i_mr, i_dr, i_cll, nI_add, pk_mul, i_sub, nle_f, nle_t, nlt_f, nlt_t, neq_f, if_true, if_false, ite_true, ite_false, false_or, or_false, true_or, or_true, or_self, not_false_eq_true, not_true_eq_false, Option.bind_some, Nat.zero_add, Nat.add_zero, r', b174]
    · refine ⟨(sRun V n (M 0) 0).1 (274 + j % 10), ?_, ?_⟩
      · simp (disch := omega) only [↓reduceIte, mset_eq, i_lt0, i_cl, i_ll, i_lr, i_tl, i_tr, i_el, i_er, i_le, i_lt, i_eq, i_al, i_ar, i_sr, i_sl, i_ml, i_mr, i_dr, i_cll, nI_add, pk_mul, i_sub, nle_f, nle_t, nlt_f, nlt_t, neq_f, if_true, if_false, ite_true, ite_false, false_or, or_false, true_or, or_true, or_self, not_false_eq_true, not_true_eq_false, Option.bind_some, Nat.zero_add, Nat.add_zero, i_kk, r]
      · simp (disch := omega) only [↓reduceIte, mset_eq, i_lt0, i_cl, i_ll, i_lr, i_tl, i_tr, i_el, i_er, i_le, i_lt, i_eq, i_al, i_ar, i_sr, i_sl, i_ml, i_mr, i_dr, i_cll, nI_add, pk_mul, i_sub, nle_f, nle_t, nlt_f, nlt_t, neq_f, if_true, if_false, ite_true, ite_false, false_or, or_false, true_or, or_true, or_self, not_false_eq_true, not_true_eq_false, Option.bind_some, Nat.zero_add, Nat.add_zero, r', b174]
    · refine ⟨(sRun V n (M 0) 0).1 (286 + j % 10), ?_, ?_⟩
      · simp (disch := omega) only [↓reduceIte, mset_eq, i_lt0, i_cl, i_ll, i_lr, i_tl, i_tr, i_el, i_er, i_le, i_lt, i_eq, i_al, i_ar, i_sr, i_sl, i_ml, i_mr, i_dr, i_cll, nI_add, pk_mul, i_sub, nle_f, nle_t, nlt_f, nlt_t, neq_f, if_true, if_false, ite_true, ite_false, false_or, or_false, true_or, or_true, or_self, not_false_eq_true, not_true_eq_false, Option.bind_some, Nat.zero_add, Nat.add_zero, i_kk, r]
      · simp (disch := omega) only [↓reduceIte, mset_eq, i_lt0, i_cl, i_ll, i_lr, i_tl, i_tr, i_el, i_er, i_le, i_lt, i_eq, i_al, i_ar, i_sr, i_sl, i_ml, i_mr, i_dr, i_cll, nI_add, pk_mul, i_sub, nle_f, nle_t, nlt_f, nlt_t, neq_f, if_true, if_false, ite_true, ite_false, false_or, or_false, true_or, or_true, or_self, not_false_eq_true, not_true_eq_false, Option.bind_some, Nat.zero_add, Nat.add_zero, r', b174]
    · refine ⟨(sRun V n (M 0) 0).1 (292 + j % 10), ?_, ?_⟩
      · simp (disch := omega) only [↓reduceIte, mset_eq, i_lt0, i_cl, i_ll, i_lr, i_tl, i_tr, i_el, i_er, i_le, i_lt, i_eq, i_al, i_ar, i_sr, i_sl, i_ml, i_mr, i_dr, i_cll, nI_add, pk_mul, i_sub, nle_f, nle_t, nlt_f, nlt_t, neq_f, if_true, if_false, ite_true, ite_false, false_or, or_false, true_or, or_true, or_self, not_false_eq_true, not_true_eq_false, Option.bind_some, Nat.zero_add, Nat.add_zero, i_kk, r]
      · simp (disch := omega) only [↓reduceIte, mset_eq, i_lt0, i_cl, i_ll, i_lr, i_tl, i_tr, i_el, i_er, i_le, i_lt, i_eq, i_al, i_ar, i_sr, i_sl, i_ml, i_mr, i_dr, i_cll, nI_add, pk_mul, i_sub, nle_f, nle_t, nlt_f, nlt_t, neq_f, if_true, if_false, ite_true, ite_false, false_or, or_false, true_or, or_true, or_self, not_false_eq_true, not_true_eq_false, Option.bind_some, Nat.zero_add, Nat.add_zero, r', b174]
