/-! PURE: the goal of a herd, the reference's -/
def sReach (R : Nat → Int32) : Int32 := if sClouded R = true then 3 else 6
/-- does l draw h, and how much -/
def sDraws (v : (Nat → Int32) → Int32) (R : Nat → Int32) (h l : Nat) (best : Int32) : Bool :=
  decide (l ≠ 12 + h) && (sLit R l && (decide (sWay (R (274 + h)) (sqL R l) ≤ sReach R) && decide (best < v (lPull R h l))))
def sGoal (v : (Nat → Int32) → Int32) (R : Nat → Int32) (h : Nat) : Nat → Nat → Int32 → Int32 → Int32
  | 0, _, g, _ => g
  | d + 1, k, g, best => if sDraws v R h k best = true then sGoal v R h d (k + 1) (nI k) (v (lPull R h k)) else sGoal v R h d (k + 1) g best
theorem goal9_b {R : Nat → Int32} (ok : RowOk R) {M : xMem} {h q : Nat} (hh : h < 6) (hq : q < 196) (eq : R (274 + h) = nI q) {v : (Nat → Int32) → Int32} (vc : Cong15 v)
    (hB : ∀ N, lawM M N → ∃ N', g9_byLaw (lawCh 0) ((xTab 0).getD 0 0) ((xTab 1).getD 0 0) N = some (v (N 186), N') ∧ Off [185] N N') :
    ∀ (d k n : Nat) (g best : Int32) (N : xMem), k + d = 18 → d < n → N 7 = R → Off [186, 185] M N → ∃ K, g9_targetOf_b7 n (nI h) g best (nI k) N = some (sGoal v R h d k g best, K) ∧ Off [186, 185] M K
  | 0, k, n + 1, g, best, N, hk, hn, h7, o => by
    obtain rfl : k = 18 := by omega
    refine ⟨N, ?_, o⟩
    rw [g9_targetOf_b7]
    simp (disch := omega) only [↓reduceIte, mset_eq, i_lt0, i_cl, i_ll, i_lr, i_tl, i_tr, i_el, i_er, i_le, i_lt, i_eq, i_al, i_ar, i_sr, i_sl, i_ml, i_mr, i_dr, i_cll, nI_add, pk_mul, i_sub, nle_f, nle_t, nlt_f, nlt_t, neq_f, if_true, if_false, ite_true, ite_false, false_or, or_false, true_or, or_true, or_self, not_false_eq_true, not_true_eq_false, Option.bind_some, Nat.zero_add, Nat.add_zero]
    rfl
  | d + 1, k, n + 1, g, best, N, hk, hn, h7, o => by
    have ih := fun g b (K : xMem) (a : K 7 = R) (c : Off [186, 185] M K) => goal9_b ok hh hq eq vc hB d (k + 1) n g b K (by omega) (by omega) a c
    have ok7 : RowOk (N 7) := by rw [h7]; exact ok
    rw [g9_targetOf_b7]
    unfold sGoal sDraws g9_targetOf_b94
    simp (disch := omega) only [↓reduceIte, i_ll, nle_f, i_al, i_eq, nI_1]
    by_cases c1 : k = 12 + h
    · rw [if_pos c1]
      simpa [c1] using ih g best N h7 o
    rw [if_neg c1, bs (lit9_in ok7 (by omega))]
    simp only [b2i_0, h7]
    by_cases c2 : sLit R k = true
    · rw [if_neg (fun x => x c2)]
      obtain ⟨s, hs, es⟩ := sqL_le ok (show k < 18 by omega)
      simp (disch := omega) only [↓reduceIte, i_lt0, i_cl, nle_f, or_self]
      rw [bs (lampAt9 (by omega))]
      simp only [h7, eq, es]
      rw [bs (way9_eq (by omega) hs), bs clouded9_eq]
      have e64 : ∀ r : Int32, r = sReach R → ∃ K, g9_targetOf_b64 (g9_targetOf_b7 n) (nI h) g best (nI k) (sWay (nI q) (nI s)) r N = some (if (decide (k ≠ 12 + h) && (true && (decide (sWay (nI q) (nI s) ≤ sReach R) && decide (best < v (lPull R h k))))) = true then sGoal v R h d (k + 1) (nI k) (v (lPull R h k)) else sGoal v R h d (k + 1) g best, K) ∧ Off [186, 185] M K := by
        rintro r rfl
        unfold g9_targetOf_b64 g9_targetOf_b94
        simp only [nI_1]
        by_cases c3 : sWay (nI q) (nI s) ≤ sReach R
        · rw [if_pos c3]
          obtain ⟨K, e, o'⟩ := pull9_eq (M := N) (l := k) ok7 hh (by omega) hq (by rw [h7]; exact eq) vc (fun N' hN' => hB N' (fun b hb => (hN' b hb).trans (o b (by revert b; decide))))
          rw [bs e, h7]
          by_cases c4 : best < v (lPull R h k)
          · simpa [c1, c3, c4] using ih _ _ K ((o' 7 (by decide)).trans h7) (o.tr o')
          · simpa [c1, c3, c4] using ih _ _ K ((o' 7 (by decide)).trans h7) (o.tr o')
        · rw [if_neg c3]
          simpa [c1, c3] using ih g best N h7 o
      simp only [b2i_0, h7, c2]
      by_cases c5 : sClouded R = true
      · rw [if_neg (fun x => x c5)]
        exact e64 3 (by unfold sReach; rw [if_pos c5])
      · rw [if_pos c5]
        exact e64 6 (by unfold sReach; rw [if_neg c5])
    · rw [if_pos c2]
      simpa [c2] using ih g best N h7 o
