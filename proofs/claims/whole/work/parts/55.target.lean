/-! PURE: target -/
theorem goal_eq {p h q : Nat} (hp : p < 10) {M : xMem} (ok : RowOk (M p)) (hh : h < 6) (hq : q < 196) (eq : M p (274 + h) = nI q) {v : (Nat → Int32) → Int32} (vc : Cong15 v)
    (hA : ∀ N, lawC M N → ∃ N', g3_ask (nI 0) N = some (v (N 101), N') ∧ Off [27, 28, 29] N N') :
    ∃ K, g0_goalOf p (nI h) M = some (sGoal v (M p) h 18 0 (-1) 0, K) ∧ Off [101, 102, 27, 28, 29] M K ∧ K 102 0 = M 102 0 ||| sSeen (M p) h 18 0 := by
  unfold g0_goalOf
  rw [bs clouded_eq]
  have e13 : ∃ K, g0_goalOf_b13 p (nI h) (sReach (M p)) M = some (sGoal v (M p) h 18 0 (-1) 0, K) ∧ Off [101, 102, 27, 28, 29] M K ∧ K 102 0 = M 102 0 ||| sSeen (M p) h 18 0 := by
    unfold g0_goalOf_b13
    obtain ⟨K, e, o, hz⟩ := tellHerd_eq (r := 0) hp hh hq eq
    rw [bs e]
    rw [← o 102 (by decide)]
    exact goal_b hp ok hh hq eq vc hA 18 0 5000 (-1) 0 K rfl (by omega) (by decide) (o p (by simp; omega)) (o.mono (by decide)) fun i hi _ => hz i hi
  unfold sReach at e13
  by_cases c : sClouded (M p) = true
  · rw [if_pos c] at e13
    rw [if_neg (by rw [b2i_t c]; exact fun x => (z10.mp x).elim)]
    exact e13
  · rw [if_neg c] at e13
    rw [if_pos (b2i_f c)]
    exact e13
theorem pair_target (a : Int32) : Pair (g8_target a) (g9_target a) := by
  intro M I
  unfold g8_target g9_target
  rcases on_cases a I with ⟨h1, h2⟩ | ⟨h, q, hh, hq, rfl, -, eq, h1, h2⟩
  · exact ⟨-1, M, M, by rw [b0 h1], by rw [b0 h2], I⟩
  · obtain ⟨v, vc, -, hA, hB⟩ := ask_eq I.law (a := 0) (by decide)
    obtain ⟨K, e, o, -⟩ := goal_eq (by decide) I.ok hh hq eq vc hA
    have o7 : K 7 = M 7 := o 7 (by decide)
    obtain ⟨K', e', o'⟩ := goal9_b (R := M 0) I.ok (M := K) hh hq eq vc (fun N hN => hB N (fun b hb => (hN b hb).trans (o b (by revert b; decide)))) 18 0 5000 (-1) 0 K rfl (by omega) (o7.trans I.eq7) Off.rf
    have e'' : g9_targetOf (nI h) K = some (sGoal v (M 0) h 18 0 (-1) 0, K') := e'
    by_cases c : sGoal v (M 0) h 18 0 (-1) 0 = -1
    · refine ⟨-2, K, K', ?_, ?_, (I.off o (by decide)).off o' (by decide)⟩
      · rw [b1 h1, bs e, if_pos c]
      · rw [b1 (on9_of0 I o7 h2), bs e'', if_pos c]
    · refine ⟨sGoal v (M 0) h 18 0 (-1) 0, K, K', ?_, ?_, (I.off o (by decide)).off o' (by decide)⟩
      · rw [b1 h1, bs e, if_neg c]
      · rw [b1 (on9_of0 I o7 h2), bs e'', if_neg c]
