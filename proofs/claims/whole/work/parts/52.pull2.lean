/-! PURE: pull, the call -/
theorem on_cases (a : Int32) {M : xMem} (I : Inv M) : (g1_isOn 0 a M = some (0, M) ∧ g9_isOn a M = some (0, M)) ∨
    ∃ h q : Nat, h < 6 ∧ q < 196 ∧ a = nI h ∧ sOn (M 0) h = true ∧ M 0 (274 + h) = nI q ∧ g1_isOn 0 a M = some (1, M) ∧ g9_isOn a M = some (1, M) := by
  rcases i3 a (n := 6) (by omega) with h | h | ⟨h, hh, rfl⟩
  · exact Or.inl ⟨on_lo h, on9_lo h⟩
  · exact Or.inl ⟨on_hi h, on9_hi h⟩
  · obtain ⟨o1, o2⟩ := on_same h hh I
    by_cases c : sOn (M 0) h = true
    · obtain ⟨q, hq, e⟩ := I.ok.sq hh
      rw [b2i_t c] at o1 o2
      refine Or.inr ⟨h, q, hh, ?_, rfl, c, e, o1, o2⟩
      have c' := c
      unfold sOn at c'
      simp only [Bool.and_eq_true, decide_eq_true_eq] at c'
      have : ¬ q = 196 := fun x => c'.2 (by rw [e, x]; rfl)
      omega
    · rw [b2i_f c] at o1 o2
      exact Or.inl ⟨o1, o2⟩
theorem there_cases (a : Int32) {M : xMem} (I : Inv M) : (g6_isThere 0 a M = some (0, M) ∧ ∀ x, g9_pull x a M = g9_pull_b22 x a 0 M) ∨
    ∃ l : Nat, l < 18 ∧ a = nI l ∧ g6_isThere 0 a M = some (1, M) ∧ ∀ x, g9_pull x a M = g9_pull_b22 x a 1 M := by
  unfold g6_isThere g9_pull
  by_cases c : (12 : Int32) ≤ a
  · have c' : ¬ a < 12 := by
      intro q
      have := (fa_lt' _ _).mp q
      have := (fa_le' _ _).mp c
      omega
    rw [if_pos c]
    simp only [if_neg c']
    rcases on_cases (a - 12) I with ⟨h1, h2⟩ | ⟨h, q, hh, -, e, -, -, h1, h2⟩
    · exact Or.inl ⟨by rw [bs h1]; rfl, fun x => by rw [bs h2]⟩
    · have ea : a = nI (12 + h) := by
        have : a = (a - 12) + 12 := by rw [Int32.sub_add_cancel]
        rw [this, e]
        exact (nI_add h 12).trans (by rw [Nat.add_comm])
      exact Or.inr ⟨12 + h, by omega, ea, by rw [bs h1]; rfl, fun x => by rw [bs h2]⟩
  · have c' : a < 12 := by
      apply (fa_lt' _ _).mpr
      have : ¬ (12 : Int32).toInt ≤ a.toInt := fun q => c ((fa_le' _ _).mpr q)
      omega
    rw [if_neg c]
    simp only [if_pos c']
    rcases stands_cases a I with ⟨h1, h2⟩ | ⟨l, hl, rfl, -, h1, h2⟩
    · exact Or.inl ⟨by rw [bs h1]; rfl, fun x => by rw [bs h2]⟩
    · exact Or.inr ⟨l, by omega, rfl, by rw [bs h1]; rfl, fun x => by rw [bs h2]⟩
theorem on9_of0 {a : Int32} {M N : xMem} (I : Inv M) (h : N 7 = M 7) (e : g9_isOn a M = some (1, M)) : g9_isOn a N = some (1, N) := by
  have ok : RowOk (N 7) := by rw [h]; exact I.ok7
  rcases i3 a (n := 6) (by omega) with q | q | ⟨j, hj, rfl⟩
  · rw [on9_lo q] at e; cases e
  · rw [on9_hi q] at e; cases e
  · rw [on9_in I.ok7 hj] at e
    rw [on9_in ok hj, h]
    injection e with e
    injection e with e
    rw [e]
