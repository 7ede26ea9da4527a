/-! PURE: pull, the call -/
theorem on_cases (a : Int32) {M : xMem} (I : Inv M) : (g1_isOn 0 a M = some (0, M) ∧ g9_isOn a M = some (0, M)) ∨
    ∃ h q : Nat, h < 6 ∧ q < 196 ∧ a = nI h ∧ sOn (M 0) h = true ∧ M 0 (274 + h) = nI q ∧ g1_isOn 0 a M = some (1, M) ∧ g9_isOn a M = some (1, M) := by
  rcases i3 a (n := 6) (by omega) with h | h | ⟨h, hh, rfl⟩
  · exact Or.inl ⟨on_lo h, on9_lo h⟩
  · exact Or.inl ⟨on_hi h, on9_hi h⟩
  · obtain ⟨o1, o2⟩ := on_same h hh I
    by_cases c : sOn (M 0) h = true
    · obtain ⟨q, hq, e⟩ := I.ok.sq hh
      rw [b2i_t c] at o1 o2
      refine Or.inr ⟨h, q, hh, ?_, rfl, c, e, o1, o2⟩
      have c' := c
      unfold sOn at c'
      simp only [Bool.and_eq_true, decide_eq_true_eq] at c'
      have : ¬ q = 196 := fun x => c'.2 (by rw [e, x]; rfl)
      omega
    · rw [b2i_f c] at o1 o2
      exact Or.inl ⟨o1, o2⟩
theorem on9_of0 {a : Int32} {M N : xMem} (I : Inv M) (h : N 7 = M 7) (e : g9_isOn a M = some (1, M)) : g9_isOn a N = some (1, N) := by
  have ok : RowOk (N 7) := by rw [h]; exact I.ok7
  rcases i3 a (n := 6) (by omega) with q | q | ⟨j, hj, rfl⟩
  · rw [on9_lo q] at e; cases e
  · rw [on9_hi q] at e; cases e
  · rw [on9_in I.ok7 hj] at e
    rw [on9_in ok hj, h]
    injection e with e
    injection e with e
    rw [e]
theorem there_cases (a : Int32) {M : xMem} (I : Inv M) : (g6_isThere 0 a M = some (0, M) ∧ ∀ x, g9_pull x a M = g9_pull_b22 x a 0 M) ∨
    ∃ l : Nat, l < 18 ∧ a = nI l ∧ g6_isThere 0 a M = some (1, M) ∧ ∀ N, N 7 = M 7 → ∀ x, g9_pull x a N = g9_pull_b22 x a 1 N := by
  unfold g6_isThere g9_pull
  by_cases c : (12 : Int32) ≤ a
  · have c' : ¬ a < 12 := by
      intro q
      have := (fa_lt' _ _).mp q
      have := (fa_le' _ _).mp c
      omega
    rw [if_pos c]
    simp only [if_neg c']
    rcases on_cases (a - 12) I with ⟨h1, h2⟩ | ⟨h, q, hh, -, e, -, -, h1, h2⟩
    · exact Or.inl ⟨by rw [bs h1]; rfl, fun x => by rw [bs h2]⟩
    · have ea : a = nI (12 + h) := by
        have : a = (a - 12) + 12 := by rw [Int32.sub_add_cancel]
        rw [this, e]
        exact (nI_add h 12).trans (by rw [Nat.add_comm])
      exact Or.inr ⟨12 + h, by omega, ea, by rw [bs h1]; rfl, fun N hN x => by rw [bs (on9_of0 I hN h2)]⟩
  · have c' : a < 12 := by
      apply (fa_lt' _ _).mpr
      have : ¬ (12 : Int32).toInt ≤ a.toInt := fun q => c ((fa_le' _ _).mpr q)
      omega
    rw [if_neg c]
    simp only [if_pos c']
    rcases stands_cases a I with ⟨h1, h2⟩ | ⟨l, hl, rfl, -, h1, h2⟩
    · exact Or.inl ⟨by rw [bs h1]; rfl, fun x => by rw [bs h2]⟩
    · exact Or.inr ⟨l, by omega, rfl, by rw [bs h1]; rfl, fun N hN x => by rw [bs (lamp9_of0 hN _ h2)]⟩
theorem pair_pull (a b : Int32) : Pair (g8_pull a b) (g9_pull a b) := by
  intro M I
  unfold g8_pull
  rcases on_cases a I with ⟨h1, h2⟩ | ⟨h, q, hh, hq, rfl, -, eq, h1, h2⟩
  · refine ⟨-1, M, M, by rw [b0 h1], ?_, I⟩
    rcases there_cases b I with ⟨-, h4⟩ | ⟨l, hl, rfl, -, h4⟩
    · rw [h4]; rfl
    · rw [h4 M rfl]
      unfold g9_pull_b22
      rw [if_neg (by decide), b0 h2]
      rfl
  rcases there_cases b I with ⟨h3, h4⟩ | ⟨l, hl, rfl, h3, h4⟩
  · exact ⟨-1, M, M, by rw [b1 h1, b0 h3], by rw [h4]; rfl, I⟩
  by_cases c : nI l = 12 + nI h
  · refine ⟨-1, M, M, by rw [b1 h1, b1 h3, if_pos c], ?_, I⟩
    rw [h4 M rfl]
    unfold g9_pull_b22
    rw [if_neg (by decide), b1 h2, if_pos c]
    rfl
  · obtain ⟨v, vc, -, hA, hB⟩ := ask_eq I.law (a := 0) (by decide)
    obtain ⟨K, e, o⟩ := pull_eq (l := l) (by decide) hh hl hq eq vc hA
    have o7 : K 7 = M 7 := o 7 (by decide)
    have k7 : K 7 = M 0 := o7.trans I.eq7
    obtain ⟨K', e', o'⟩ := pull9_eq (M := K) (l := l) (by rw [k7]; exact I.ok) hh hl hq (by rw [k7]; exact eq) vc (fun N hN => hB N (fun b hb => (hN b hb).trans (o b (by revert b; decide))))
    refine ⟨v (lPull (M 0) h l), K, K', ?_, ?_, (I.off o (by decide)).off o' (by decide)⟩
    · rw [b1 h1, b1 h3, if_neg c, bs e]
    · rw [h4 K o7]
      unfold g9_pull_b22
      rw [if_neg (by decide), b1 (on9_of0 I o7 h2), if_neg c, bs e', k7]
