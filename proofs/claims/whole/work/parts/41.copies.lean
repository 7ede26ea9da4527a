/-! PURE: copying rows; keep, undo -/
theorem become2 {M N : xMem} {p q : Nat} {S : Nat → Prop} (h : Cpd M N p q S) (hpq : q ≠ p) (ok : RowOk (M q)) : ∃ K, g2_become p q N = some K ∧ Cpd M K p q (fun j => S j ∨ (196 ≤ j ∧ j < 268)) := by
  unfold g2_become
  have hq : ∀ {K : xMem} {T : Nat → Prop}, Cpd M K p q T → K q = M q := fun hK => hK.1 q hpq
  have o1 : ∀ {K : xMem}, K q = M q → ok01 K q 196 12 := fun e i hi => by rw [e]; exact ok.there hi
  have o2 : ∀ {K : xMem}, K q = M q → ok01 K q 256 12 := fun e i hi => by rw [e]; exact ok.stray hi
  have h1 := h.cp hpq (o := 196) (n := 12)
  have h2 := h1.cp hpq (o := 208) (n := 12)
  have h3 := h2.cp hpq (o := 220) (n := 12)
  have h4 := h3.cp hpq (o := 232) (n := 12)
  have h5 := h4.cp hpq (o := 244) (n := 12)
  have h6 := h5.cp hpq (o := 256) (n := 12)
  rw [if_pos (o1 (hq h))]
  simp only [mset_eq]
  rw [if_pos (o2 (hq h5))]
  refine ⟨_, rfl, h6.1, fun j hj => h6.2.1 j ?_, fun j hj => h6.2.2 j ?_⟩
  · rcases hj with a | a
    · exact Or.inl (Or.inl (Or.inl (Or.inl (Or.inl (Or.inl a)))))
    · omega
  · rintro ((((((a | a) | a) | a) | a) | a) | a)
    · exact hj (Or.inl a)
    all_goals exact hj (Or.inr (by omega))
theorem become1 {M N : xMem} {p q : Nat} {S : Nat → Prop} (h : Cpd M N p q S) (hpq : q ≠ p) (ok : RowOk (M q)) : ∃ K, g1_become p q N = some K ∧ Cpd M K p q (fun j => S j ∨ (268 ≤ j ∧ j < 304)) := by
  unfold g1_become
  have hq : ∀ {K : xMem} {T : Nat → Prop}, Cpd M K p q T → K q = M q := fun hK => hK.1 q hpq
  have o1 : ∀ {K : xMem}, K q = M q → ok01 K q 268 6 := fun e i hi => by rw [e]; exact ok.told hi
  have o2 : ∀ {K : xMem}, K q = M q → ok01 K q 298 6 := fun e i hi => by rw [e]; exact ok.fire hi
  have h1 := h.cp hpq (o := 268) (n := 6)
  have h2 := h1.cp hpq (o := 274) (n := 6)
  have h3 := h2.cp hpq (o := 280) (n := 6)
  have h4 := h3.cp hpq (o := 286) (n := 6)
  have h5 := h4.cp hpq (o := 292) (n := 6)
  have h6 := h5.cp hpq (o := 298) (n := 6)
  rw [if_pos (o1 (hq h))]
  simp only [mset_eq]
  rw [if_pos (o2 (hq h5))]
  refine ⟨_, rfl, h6.1, fun j hj => h6.2.1 j ?_, fun j hj => h6.2.2 j ?_⟩
  · rcases hj with a | a
    · exact Or.inl (Or.inl (Or.inl (Or.inl (Or.inl (Or.inl a)))))
    · omega
  · rintro ((((((a | a) | a) | a) | a) | a) | a)
    · exact hj (Or.inl a)
    all_goals exact hj (Or.inr (by omega))
theorem become_eq {M : xMem} {p q : Nat} (hpq : q ≠ p) (hp : p < 10) (hq : q < 10) (ok : RowOk (M q)) (z : Z10 M) : ∃ N, g6_become p q M = some N ∧ N p = M q ∧ (∀ b, b ≠ p → N b = M b) ∧ Z10 N := by
  unfold g6_become
  simp only [mset_eq]
  have h1 := (Cpd.rf (M := M) (p := p) (q := q)).cp hpq (o := 0) (n := 196)
  obtain ⟨K2, e2, h2⟩ := become2 h1 hpq ok
  obtain ⟨K4, e4, h4⟩ := become1 h2 hpq ok
  rw [bs e2, bs e4]
  have h5 := h4.cp hpq (o := 304) (n := 4)
  have h6 := h5.cp hpq (o := 308) (n := 19)
  have h7 := h6.up hpq (i := 327)
  have h8 := h7.up hpq (i := 328)
  have h9 := h8.up hpq (i := 329)
  have h10 := h9.up hpq (i := 330)
  refine ⟨_, rfl, ?_, h10.1, ?_⟩
  · funext j
    by_cases c : j < 331
    · refine h10.2.1 j ?_
      omega
    · refine (h10.2.2 j ?_).trans ?_
      · intro x; simp only [false_or] at x; omega
      · rw [z p hp j (by omega), z q hq j (by omega)]
  · intro b hb j hj
    by_cases e : b = p
    · subst e
      refine (h10.2.2 j ?_).trans ?_
      · intro x; simp only [false_or] at x; omega
      · exact z b hb j hj
    · rw [h10.1 b e]
      exact z b hb j hj
theorem cps155_157_b {M : xMem} : ∀ (d k n : Nat) (N : xMem), k + d = 331 → d < n → Cpd M N 9 7 (fun j => j < k) → ∃ K, g9_copies_155_157_b2 n (nI k) N = some K ∧ Cpd M K 9 7 (fun j => j < 331)
  | 0, k, n + 1, N, hk, hn, h => by
    obtain rfl : k = 331 := by omega
    unfold g9_copies_155_157_b2
    simp (disch := omega) only [↓reduceIte, mset_eq, i_lt0, i_cl, i_ll, i_lr, i_tl, i_tr, i_el, i_er, i_le, i_lt, i_eq, i_al, i_ar, i_sr, i_sl, i_ml, i_mr, i_dr, i_cll, nI_add, pk_mul, i_sub, nle_f, nle_t, nlt_f, nlt_t, neq_f, if_true, if_false, ite_true, ite_false, false_or, or_false, true_or, or_true, or_self, not_false_eq_true, not_true_eq_false, Option.bind_some, Nat.zero_add, Nat.add_zero]
    exact ⟨N, rfl, h⟩
  | d + 1, k, n + 1, N, hk, hn, h => by
    unfold g9_copies_155_157_b2
    simp (disch := omega) only [↓reduceIte, mset_eq, i_lt0, i_cl, i_ll, i_lr, i_tl, i_tr, i_el, i_er, i_le, i_lt, i_eq, i_al, i_ar, i_sr, i_sl, i_ml, i_mr, i_dr, i_cll, nI_add, pk_mul, i_sub, nle_f, nle_t, nlt_f, nlt_t, neq_f, if_true, if_false, ite_true, ite_false, false_or, or_false, true_or, or_true, or_self, not_false_eq_true, not_true_eq_false, Option.bind_some, Nat.zero_add, Nat.add_zero]
    refine cps155_157_b d (k + 1) n _ (by omega) (by omega) ?_
    have h2 := h.up (show 7 ≠ 9 by decide) (i := k)
    refine ⟨h2.1, fun j hj => h2.2.1 j (by omega), fun j hj => h2.2.2 j (by omega)⟩
theorem cps155_157 {M : xMem} (z : Z10 M) : ∃ N, g9_copies_155_157 M = some N ∧ N 9 = M 7 ∧ (∀ b, b ≠ 9 → N b = M b) ∧ Z10 N := by
  obtain ⟨K, e, h1, h2, h3⟩ := cps155_157_b (M := M) 331 0 5000 M rfl (by omega) ⟨fun _ _ => rfl, fun j hj => absurd hj (by omega), fun _ _ => rfl⟩
  refine ⟨K, e, ?_, h1, ?_⟩
  · funext j
    by_cases c : j < 331
    · exact h2 j c
    · rw [h3 j c, z 9 (by decide) j (by omega), z 7 (by decide) j (by omega)]
  · intro b hb j hj
    by_cases e : b = 9
    · subst e
      rw [h3 j (by omega)]
      exact z 9 hb j hj
    · rw [h1 b e]
      exact z b hb j hj
theorem cps157_155_b {M : xMem} : ∀ (d k n : Nat) (N : xMem), k + d = 331 → d < n → Cpd M N 7 9 (fun j => j < k) → ∃ K, g9_copies_157_155_b2 n (nI k) N = some K ∧ Cpd M K 7 9 (fun j => j < 331)
  | 0, k, n + 1, N, hk, hn, h => by
    obtain rfl : k = 331 := by omega
    unfold g9_copies_157_155_b2
    simp (disch := omega) only [↓reduceIte, mset_eq, i_lt0, i_cl, i_ll, i_lr, i_tl, i_tr, i_el, i_er, i_le, i_lt, i_eq, i_al, i_ar, i_sr, i_sl, i_ml, i_mr, i_dr, i_cll, nI_add, pk_mul, i_sub, nle_f, nle_t, nlt_f, nlt_t, neq_f, if_true, if_false, ite_true, ite_false, false_or, or_false, true_or, or_true, or_self, not_false_eq_true, not_true_eq_false, Option.bind_some, Nat.zero_add, Nat.add_zero]
    exact ⟨N, rfl, h⟩
  | d + 1, k, n + 1, N, hk, hn, h => by
    unfold g9_copies_157_155_b2
    simp (disch := omega) only [↓reduceIte, mset_eq, i_lt0, i_cl, i_ll, i_lr, i_tl, i_tr, i_el, i_er, i_le, i_lt, i_eq, i_al, i_ar, i_sr, i_sl, i_ml, i_mr, i_dr, i_cll, nI_add, pk_mul, i_sub, nle_f, nle_t, nlt_f, nlt_t, neq_f, if_true, if_false, ite_true, ite_false, false_or, or_false, true_or, or_true, or_self, not_false_eq_true, not_true_eq_false, Option.bind_some, Nat.zero_add, Nat.add_zero]
    refine cps157_155_b d (k + 1) n _ (by omega) (by omega) ?_
    have h2 := h.up (show 9 ≠ 7 by decide) (i := k)
    refine ⟨h2.1, fun j hj => h2.2.1 j (by omega), fun j hj => h2.2.2 j (by omega)⟩
theorem cps157_155 {M : xMem} (z : Z10 M) : ∃ N, g9_copies_157_155 M = some N ∧ N 7 = M 9 ∧ (∀ b, b ≠ 7 → N b = M b) ∧ Z10 N := by
  obtain ⟨K, e, h1, h2, h3⟩ := cps157_155_b (M := M) 331 0 5000 M rfl (by omega) ⟨fun _ _ => rfl, fun j hj => absurd hj (by omega), fun _ _ => rfl⟩
  refine ⟨K, e, ?_, h1, ?_⟩
  · funext j
    by_cases c : j < 331
    · exact h2 j c
    · rw [h3 j c, z 7 (by decide) j (by omega), z 9 (by decide) j (by omega)]
  · intro b hb j hj
    by_cases e : b = 7
    · subst e
      rw [h3 j (by omega)]
      exact z 7 hb j hj
    · rw [h1 b e]
      exact z b hb j hj
theorem cps155_156_b {M : xMem} : ∀ (d k n : Nat) (N : xMem), k + d = 331 → d < n → Cpd M N 8 7 (fun j => j < k) → ∃ K, g9_copies_155_156_b2 n (nI k) N = some K ∧ Cpd M K 8 7 (fun j => j < 331)
  | 0, k, n + 1, N, hk, hn, h => by
    obtain rfl : k = 331 := by omega
    unfold g9_copies_155_156_b2
    simp (disch := omega) only [↓reduceIte, mset_eq, i_lt0, i_cl, i_ll, i_lr, i_tl, i_tr, i_el, i_er, i_le, i_lt, i_eq, i_al, i_ar, i_sr, i_sl, i_ml, i_mr, i_dr, i_cll, nI_add, pk_mul, i_sub, nle_f, nle_t, nlt_f, nlt_t, neq_f, if_true, if_false, ite_true, ite_false, false_or, or_false, true_or, or_true, or_self, not_false_eq_true, not_true_eq_false, Option.bind_some, Nat.zero_add, Nat.add_zero]
    exact ⟨N, rfl, h⟩
  | d + 1, k, n + 1, N, hk, hn, h => by
    unfold g9_copies_155_156_b2
    simp (disch := omega) only [↓reduceIte, mset_eq, i_lt0, i_cl, i_ll, i_lr, i_tl, i_tr, i_el, i_er, i_le, i_lt, i_eq, i_al, i_ar, i_sr, i_sl, i_ml, i_mr, i_dr, i_cll, nI_add, pk_mul, i_sub, nle_f, nle_t, nlt_f, nlt_t, neq_f, if_true, if_false, ite_true, ite_false, false_or, or_false, true_or, or_true, or_self, not_false_eq_true, not_true_eq_false, Option.bind_some, Nat.zero_add, Nat.add_zero]
    refine cps155_156_b d (k + 1) n _ (by omega) (by omega) ?_
    have h2 := h.up (show 7 ≠ 8 by decide) (i := k)
    refine ⟨h2.1, fun j hj => h2.2.1 j (by omega), fun j hj => h2.2.2 j (by omega)⟩
theorem cps155_156 {M : xMem} (z : Z10 M) : ∃ N, g9_copies_155_156 M = some N ∧ N 8 = M 7 ∧ (∀ b, b ≠ 8 → N b = M b) ∧ Z10 N := by
  obtain ⟨K, e, h1, h2, h3⟩ := cps155_156_b (M := M) 331 0 5000 M rfl (by omega) ⟨fun _ _ => rfl, fun j hj => absurd hj (by omega), fun _ _ => rfl⟩
  refine ⟨K, e, ?_, h1, ?_⟩
  · funext j
    by_cases c : j < 331
    · exact h2 j c
    · rw [h3 j c, z 8 (by decide) j (by omega), z 7 (by decide) j (by omega)]
  · intro b hb j hj
    by_cases e : b = 8
    · subst e
      rw [h3 j (by omega)]
      exact z 8 hb j hj
    · rw [h1 b e]
      exact z b hb j hj
theorem cps156_155_b {M : xMem} : ∀ (d k n : Nat) (N : xMem), k + d = 331 → d < n → Cpd M N 7 8 (fun j => j < k) → ∃ K, g9_copies_156_155_b2 n (nI k) N = some K ∧ Cpd M K 7 8 (fun j => j < 331)
  | 0, k, n + 1, N, hk, hn, h => by
    obtain rfl : k = 331 := by omega
    unfold g9_copies_156_155_b2
    simp (disch := omega) only [↓reduceIte, mset_eq, i_lt0, i_cl, i_ll, i_lr, i_tl, i_tr, i_el, i_er, i_le, i_lt, i_eq, i_al, i_ar, i_sr, i_sl, i_ml, i_mr, i_dr, i_cll, nI_add, pk_mul, i_sub, nle_f, nle_t, nlt_f, nlt_t, neq_f, if_true, if_false, ite_true, ite_false, false_or, or_false, true_or, or_true, or_self, not_false_eq_true, not_true_eq_false, Option.bind_some, Nat.zero_add, Nat.add_zero]
    exact ⟨N, rfl, h⟩
  | d + 1, k, n + 1, N, hk, hn, h => by
    unfold g9_copies_156_155_b2
    simp (disch := omega) only [↓reduceIte, mset_eq, i_lt0, i_cl, i_ll, i_lr, i_tl, i_tr, i_el, i_er, i_le, i_lt, i_eq, i_al, i_ar, i_sr, i_sl, i_ml, i_mr, i_dr, i_cll, nI_add, pk_mul, i_sub, nle_f, nle_t, nlt_f, nlt_t, neq_f, if_true, if_false, ite_true, ite_false, false_or, or_false, true_or, or_true, or_self, not_false_eq_true, not_true_eq_false, Option.bind_some, Nat.zero_add, Nat.add_zero]
    refine cps156_155_b d (k + 1) n _ (by omega) (by omega) ?_
    have h2 := h.up (show 8 ≠ 7 by decide) (i := k)
    refine ⟨h2.1, fun j hj => h2.2.1 j (by omega), fun j hj => h2.2.2 j (by omega)⟩
theorem cps156_155 {M : xMem} (z : Z10 M) : ∃ N, g9_copies_156_155 M = some N ∧ N 7 = M 8 ∧ (∀ b, b ≠ 7 → N b = M b) ∧ Z10 N := by
  obtain ⟨K, e, h1, h2, h3⟩ := cps156_155_b (M := M) 331 0 5000 M rfl (by omega) ⟨fun _ _ => rfl, fun j hj => absurd hj (by omega), fun _ _ => rfl⟩
  refine ⟨K, e, ?_, h1, ?_⟩
  · funext j
    by_cases c : j < 331
    · exact h2 j c
    · rw [h3 j c, z 7 (by decide) j (by omega), z 8 (by decide) j (by omega)]
  · intro b hb j hj
    by_cases e : b = 7
    · subst e
      rw [h3 j (by omega)]
      exact z 7 hb j hj
    · rw [h1 b e]
      exact z b hb j hj
theorem pair_keep : Pair g8_keep g9_keep := by
  intro M I
  unfold g8_keep g9_keep
  obtain ⟨N1, e1, a1, f1, z1⟩ := become_eq (M := M) (p := 6) (q := 0) (by decide) (by decide) (by decide) I.ok I.z
  rw [bs e1]
  simp only [mset_eq]
  rw [bs living_eq]
  have q7 : (upM (upM N1 157 0 1) 196 0 1) 7 = M 0 := by rw [up_b (by decide), up_b (by decide), f1 7 (by decide), I.eq7]
  have q0 : (upM (upM N1 157 0 1) 196 0 1) 0 = M 0 := by rw [up_b (by decide), up_b (by decide), f1 0 (by decide)]
  obtain ⟨N2, e2, a2, f2, z2⟩ := cps155_157 (M := upM (upM N1 157 0 1) 196 0 1) ((z1.up (Or.inr (by decide))).up (Or.inr (by decide)))
  have r7 : N2 7 = M 0 := by rw [f2 7 (by decide), q7]
  have r0 : N2 0 = M 0 := by rw [f2 0 (by decide), q0]
  refine ⟨sLiving (M 0), upM N1 157 0 1, N2, ?_, ?_, ?_⟩
  · rw [up_b (show (0 : Nat) ≠ 157 by decide), f1 0 (by decide)]
  · show Option.bind (g9_copies_155_157 (upM (upM N1 157 0 1) 196 0 1)) _ = _
    rw [bs e2, bs (living9_eq (by rw [r7]; exact I.ok)), r7]
  · refine ⟨by rw [r7, r0], by rw [r0]; exact I.ok, z2, Or.inr ⟨?_, ?_, ?_, ?_⟩, I.tape.fr ?_, I.law.fr ?_⟩
    · rw [f2 157 (by decide), up_b (by decide), up_s]
    · rw [f2 196 (by decide), up_s]
    · rw [a2, q7, f2 6 (by decide), up_b (by decide), up_b (by decide), a1]
    · rw [f2 6 (by decide), up_b (by decide), up_b (by decide), a1]; exact I.ok
    · intro b hb
      have h0 : b ≠ 9 ∧ b ≠ 196 ∧ b ≠ 157 ∧ b ≠ 6 := by revert b; decide
      rw [f2 b h0.1, up_b h0.2.1, up_b h0.2.2.1, f1 b h0.2.2.2]
    · intro b hb
      have h0 : b ≠ 9 ∧ b ≠ 196 ∧ b ≠ 157 ∧ b ≠ 6 := by revert b; decide
      rw [f2 b h0.1, up_b h0.2.1, up_b h0.2.2.1, f1 b h0.2.2.2]
theorem pair_undo : Pair g8_undo g9_undo := by
  intro M I
  unfold g8_undo g9_undo
  rcases I.kept with ⟨k1, k2⟩ | ⟨k1, k2, k3, k4⟩
  · exact ⟨0, M, M, by rw [if_pos k1], by rw [if_pos k2], I⟩
  · obtain ⟨N1, e1, a1, f1, z1⟩ := become_eq (M := M) (p := 0) (q := 6) (by decide) (by decide) (by decide) k4 I.z
    obtain ⟨N2, e2, a2, f2, z2⟩ := cps157_155 (M := N1) z1
    refine ⟨1, N1, N2, ?_, ?_, ?_⟩
    · rw [if_neg (by rw [k1]; decide), bs e1]
    · rw [if_neg (by rw [f1 196 (by decide), k2]; decide), bs e2]
    · refine I.fr ?_ ?_ z2 ?_
      · rw [a2, f1 9 (by decide), k3, f2 0 (by decide), a1]
      · rw [f2 0 (by decide), a1]; exact k4
      · intro b hb
        have h0 : b ≠ 7 ∧ b ≠ 0 := by revert b; decide
        rw [f2 b h0.1, f1 b h0.2]
