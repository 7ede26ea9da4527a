/-! PURE: the class's small methods on a plain p, in the words of its row -/
theorem fa_lt' (a b : Int32) : a < b ↔ a.toInt < b.toInt := Int32.lt_iff_toInt_lt
theorem fa_le' (a b : Int32) : a ≤ b ↔ a.toInt ≤ b.toInt := Int32.le_iff_toInt_le
theorem i_ge {x : Int32} {n : Nat} (hn : n < 2147483648) (h : nI n ≤ x) : ¬ x < 0 := by
  intro q
  have h1 := (fa_lt' x 0).mp q
  have h2 := (fa_le' (nI n) x).mp h
  rw [nI_toInt hn] at h2
  have h0 : (0 : Int32).toInt = 0 := rfl
  omega
theorem told_in {p h : Nat} {M : xMem} (hh : h < 6) : g1_isTold p (nI h) M = some (b2i (M p (268 + h) ≠ 0), M) := by
  unfold g1_isTold
  simp (disch := omega) only [i_lt0, i_ll, i_cl, if_false, false_or]
  rw [if_neg (by omega), if_neg (by omega)]
  by_cases c : M p (268 + h) = 0 <;> simp [c, b2i]
theorem told_lo {p : Nat} {a : Int32} {M : xMem} (h : a < 0) : g1_isTold p a M = some (0, M) := by unfold g1_isTold; rw [if_pos h]
theorem told_hi {p : Nat} {a : Int32} {M : xMem} (h : nI 6 ≤ a) : g1_isTold p a M = some (0, M) := by
  unfold g1_isTold; rw [if_neg (i_ge (by omega) h), if_pos (show (6 : Int32) ≤ a from h)]
def sOn (R : Nat → Int32) (h : Nat) : Bool := decide (R (268 + h) ≠ 0) && decide (¬ R (280 + h) ≤ 0) && decide (R (274 + h) ≠ 196)
theorem on_in {p h : Nat} {M : xMem} (hh : h < 6) : g1_isOn p (nI h) M = some (b2i (sOn (M p) h), M) := by
  unfold g1_isOn
  simp (disch := omega) only [i_lt0, i_ll, i_cl, if_false, false_or]
  rw [if_neg (by omega), if_neg (by omega)]
  by_cases c1 : M p (268 + h) = 0
  · simp [c1, b2i, sOn]
  by_cases c2 : M p (280 + h) ≤ 0
  · simp [c1, c2, b2i, sOn]
  by_cases c3 : M p (274 + h) = 196
  · simp [c1, c2, c3, b2i, sOn]
  · simp [c1, c2, c3, b2i, sOn]
theorem on_lo {p : Nat} {a : Int32} {M : xMem} (h : a < 0) : g1_isOn p a M = some (0, M) := by unfold g1_isOn; rw [if_pos h]
theorem on_hi {p : Nat} {a : Int32} {M : xMem} (h : nI 6 ≤ a) : g1_isOn p a M = some (0, M) := by
  unfold g1_isOn; rw [if_neg (i_ge (by omega) h), if_pos (show (6 : Int32) ≤ a from h)]
