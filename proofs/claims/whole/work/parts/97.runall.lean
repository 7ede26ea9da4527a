/-! PURE: every script -/
theorem pstep {f g : xMem → Option (Int32 × xMem)} (P : Pair f g) {M : xMem} (I : Inv M) (k : xMem → Option (Int32 × xMem)) : ∃ N, Inv N ∧ (Option.bind (f M) fun q7 => Option.bind (g q7.2) fun q9 => if q7.1 = q9.1 then k q9.2 else some ((0 : Int32), q9.2)) = k N := by
  obtain ⟨r, M1, N, h1, h2, h3⟩ := P M I
  refine ⟨N, h3, ?_⟩
  rw [bs h1]
  dsimp only
  rw [bs h2]
  exact if_pos rfl
theorem run_all {L : Nat} {xs : Nat → Int32} (hL : L ≤ 3584) : ∀ (n x : Nat) (M : xMem), x ≤ L → L < x + 7 * n → Inv M → ∃ N, gL_law_b18 L xs n (nI x) M = some (1, N) := by
  intro n
  induction n with
  | zero => intro x M hx hn I; omega
  | succ n ih =>
    intro x M hx hn I
    have e7 : (Int32.ofNat L - 7 < nI x) ↔ L < x + 7 := by
      rw [Int32.lt_iff_toInt_lt, Int32.toInt_sub, show (Int32.ofNat L).toInt = L from Int32.toInt_ofNat_of_lt (by omega), show (7 : Int32).toInt = 7 from rfl, show (nI x).toInt = x from Int32.toInt_ofNat_of_lt (by omega), Int.bmod_eq_of_le (by omega) (by omega)]
      omega
    rw [gL_law_b18]
    by_cases hend : L < x + 7
    · rw [if_pos (e7.mpr hend)]
      exact ⟨M, rfl⟩
    rw [if_neg fun r => hend (e7.mp r)]
    have go : ∀ N, Inv N → ∃ N', gL_law_b1377 L xs (gL_law_b18 L xs n) (nI x) N = some (1, N') := fun N J => by
      unfold gL_law_b1377
      rw [show nI x + 7 = nI (x + 7) from nI_add x 7]
      exact ih (x + 7) N (by omega) (by omega) J
    have bnd : ∀ j : Nat, j < 7 → ¬ (nI x + nI j < 0 ∨ L ≤ (nI x + nI j).toNatClampNeg) := fun j hj r => by
      rw [nI_add, i_cl (by omega)] at r
      rcases r with r | r
      · exact nI_pos (by omega) r
      · omega
    have b0 : ¬ (nI x < 0 ∨ L ≤ (nI x).toNatClampNeg) := fun r => by
      rw [i_cl (by omega)] at r
      rcases r with r | r
      · exact nI_pos (by omega) r
      · omega
    have b1 : ¬ (nI x + (1 : Int32) < 0 ∨ L ≤ (nI x + (1 : Int32)).toNatClampNeg) := bnd 1 (by decide)
    have b2 : ¬ (nI x + (2 : Int32) < 0 ∨ L ≤ (nI x + (2 : Int32)).toNatClampNeg) := bnd 2 (by decide)
    have b3 : ¬ (nI x + (3 : Int32) < 0 ∨ L ≤ (nI x + (3 : Int32)).toNatClampNeg) := bnd 3 (by decide)
    have b4 : ¬ (nI x + (4 : Int32) < 0 ∨ L ≤ (nI x + (4 : Int32)).toNatClampNeg) := bnd 4 (by decide)
    have b5 : ¬ (nI x + (5 : Int32) < 0 ∨ L ≤ (nI x + (5 : Int32)).toNatClampNeg) := bnd 5 (by decide)
    have b6 : ¬ (nI x + (6 : Int32) < 0 ∨ L ≤ (nI x + (6 : Int32)).toNatClampNeg) := bnd 6 (by decide)
    rw [if_neg b0]
    generalize xs (nI x).toNatClampNeg &&& 63 = v
    by_cases c0 : v = (0 : Int32)
    · rw [if_pos c0]
      rw [if_neg b1, if_neg b2, if_neg b3]
      obtain ⟨N, J, e⟩ := pstep (pair_ground (xs (nI x + (1 : Int32)).toNatClampNeg) (xs (nI x + (2 : Int32)).toNatClampNeg) (xs (nI x + (3 : Int32)).toNatClampNeg)) I (gL_law_b1377 L xs (gL_law_b18 L xs n) (nI x))
      rw [e]
      exact go N J
    rw [if_neg c0]
    by_cases c1 : v = (1 : Int32)
    · rw [if_pos c1]
      rw [if_neg b1, if_neg b2, if_neg b3, if_neg b4]
      obtain ⟨N, J, e⟩ := pstep (pair_inn (xs (nI x + (1 : Int32)).toNatClampNeg) (xs (nI x + (2 : Int32)).toNatClampNeg) (xs (nI x + (3 : Int32)).toNatClampNeg) (xs (nI x + (4 : Int32)).toNatClampNeg)) I (gL_law_b1377 L xs (gL_law_b18 L xs n) (nI x))
      rw [e]
      exact go N J
    rw [if_neg c1]
    by_cases c2 : v = (2 : Int32)
    · rw [if_pos c2]
      rw [if_neg b1, if_neg b2, if_neg b3, if_neg b4, if_neg b5]
      by_cases cz : xs (nI x + (5 : Int32)).toNatClampNeg = 0
      · rw [if_pos cz]
        unfold gL_law_b318 gL_law_b355
        simp only [if_neg b1, if_neg b2, if_neg b3, if_neg b4, if_neg b5, if_pos cz]
        obtain ⟨N, J, e⟩ := pstep (pair_stray (xs (nI x + (1 : Int32)).toNatClampNeg) (xs (nI x + (2 : Int32)).toNatClampNeg) (xs (nI x + (3 : Int32)).toNatClampNeg) (xs (nI x + (4 : Int32)).toNatClampNeg) 0 (Or.inl rfl)) I (gL_law_b1377 L xs (gL_law_b18 L xs n) (nI x))
        rw [e]
        exact go N J
      · rw [if_neg cz]
        unfold gL_law_b318 gL_law_b355
        simp only [if_neg b1, if_neg b2, if_neg b3, if_neg b4, if_neg b5, if_neg cz]
        obtain ⟨N, J, e⟩ := pstep (pair_stray (xs (nI x + (1 : Int32)).toNatClampNeg) (xs (nI x + (2 : Int32)).toNatClampNeg) (xs (nI x + (3 : Int32)).toNatClampNeg) (xs (nI x + (4 : Int32)).toNatClampNeg) 1 (Or.inr rfl)) I (gL_law_b1377 L xs (gL_law_b18 L xs n) (nI x))
        rw [e]
        exact go N J
    rw [if_neg c2]
    by_cases c3 : v = (3 : Int32)
    · rw [if_pos c3]
      rw [if_neg b1]
      obtain ⟨N, J, e⟩ := pstep (pair_gone (xs (nI x + (1 : Int32)).toNatClampNeg)) I (gL_law_b1377 L xs (gL_law_b18 L xs n) (nI x))
      rw [e]
      exact go N J
    rw [if_neg c3]
    by_cases c4 : v = (4 : Int32)
    · rw [if_pos c4]
      rw [if_neg b1, if_neg b2]
      obtain ⟨N, J, e⟩ := pstep (pair_dog (xs (nI x + (1 : Int32)).toNatClampNeg) (xs (nI x + (2 : Int32)).toNatClampNeg)) I (gL_law_b1377 L xs (gL_law_b18 L xs n) (nI x))
      rw [e]
      exact go N J
    rw [if_neg c4]
    by_cases c5 : v = (5 : Int32)
    · rw [if_pos c5]
      rw [if_neg b1, if_neg b2, if_neg b3, if_neg b4, if_neg b5, if_neg b6]
      obtain ⟨N, J, e⟩ := pstep (pair_herd (xs (nI x + (1 : Int32)).toNatClampNeg) (xs (nI x + (2 : Int32)).toNatClampNeg) (xs (nI x + (3 : Int32)).toNatClampNeg) (xs (nI x + (4 : Int32)).toNatClampNeg) (xs (nI x + (5 : Int32)).toNatClampNeg) (xs (nI x + (6 : Int32)).toNatClampNeg)) I (gL_law_b1377 L xs (gL_law_b18 L xs n) (nI x))
      rw [e]
      exact go N J
    rw [if_neg c5]
    by_cases c6 : v = (6 : Int32)
    · rw [if_pos c6]
      rw [if_neg b1, if_neg b2]
      by_cases cz : xs (nI x + (2 : Int32)).toNatClampNeg = 0
      · rw [if_pos cz]
        unfold gL_law_b513 gL_law_b535
        simp only [if_neg b1, if_neg b2, if_pos cz]
        obtain ⟨N, J, e⟩ := pstep (pair_fire (xs (nI x + (1 : Int32)).toNatClampNeg) 0 (Or.inl rfl)) I (gL_law_b1377 L xs (gL_law_b18 L xs n) (nI x))
        rw [e]
        exact go N J
      · rw [if_neg cz]
        unfold gL_law_b513 gL_law_b535
        simp only [if_neg b1, if_neg b2, if_neg cz]
        obtain ⟨N, J, e⟩ := pstep (pair_fire (xs (nI x + (1 : Int32)).toNatClampNeg) 1 (Or.inr rfl)) I (gL_law_b1377 L xs (gL_law_b18 L xs n) (nI x))
        rw [e]
        exact go N J
    rw [if_neg c6]
    by_cases c7 : v = (7 : Int32)
    · rw [if_pos c7]
      rw [if_neg b1, if_neg b2]
      obtain ⟨N, J, e⟩ := pstep (pair_drover (xs (nI x + (1 : Int32)).toNatClampNeg) (xs (nI x + (2 : Int32)).toNatClampNeg)) I (gL_law_b1377 L xs (gL_law_b18 L xs n) (nI x))
      rw [e]
      exact go N J
    rw [if_neg c7]
    by_cases c8 : v = (8 : Int32)
    · rw [if_pos c8]
      rw [if_neg b1, if_neg b2, if_neg b3, if_neg b4, if_neg b5]
      obtain ⟨N, J, e⟩ := pstep (pair_feed (xs (nI x + (1 : Int32)).toNatClampNeg) (xs (nI x + (2 : Int32)).toNatClampNeg) (xs (nI x + (3 : Int32)).toNatClampNeg) (xs (nI x + (4 : Int32)).toNatClampNeg) (xs (nI x + (5 : Int32)).toNatClampNeg)) I (gL_law_b1377 L xs (gL_law_b18 L xs n) (nI x))
      rw [e]
      exact go N J
    rw [if_neg c8]
    by_cases c9 : v = (9 : Int32)
    · rw [if_pos c9]
      rw [if_neg b1]
      obtain ⟨N, J, e⟩ := pstep (pair_law (xs (nI x + (1 : Int32)).toNatClampNeg)) I (gL_law_b1377 L xs (gL_law_b18 L xs n) (nI x))
      rw [e]
      exact go N J
    rw [if_neg c9]
    by_cases c10 : v = (10 : Int32)
    · rw [if_pos c10]
      rw [if_neg b1]
      obtain ⟨N, J, e⟩ := pstep (pair_price (xs (nI x + (1 : Int32)).toNatClampNeg)) I (gL_law_b1377 L xs (gL_law_b18 L xs n) (nI x))
      rw [e]
      exact go N J
    rw [if_neg c10]
    by_cases c11 : v = (11 : Int32)
    · rw [if_pos c11]
      rw [if_neg b1, if_neg b2, if_neg b3]
      obtain ⟨N, J, e⟩ := pstep (pair_pay (xs (nI x + (1 : Int32)).toNatClampNeg) (xs (nI x + (2 : Int32)).toNatClampNeg) (xs (nI x + (3 : Int32)).toNatClampNeg)) I (gL_law_b1377 L xs (gL_law_b18 L xs n) (nI x))
      rw [e]
      exact go N J
    rw [if_neg c11]
    by_cases c12 : v = (12 : Int32)
    · rw [if_pos c12]
      rw [if_neg b1]
      obtain ⟨N, J, e⟩ := pstep (pair_clouds (xs (nI x + (1 : Int32)).toNatClampNeg)) I (gL_law_b1377 L xs (gL_law_b18 L xs n) (nI x))
      rw [e]
      exact go N J
    rw [if_neg c12]
    by_cases c13 : v = (13 : Int32)
    · rw [if_pos c13]
      rw [if_neg b1]
      obtain ⟨N, J, e⟩ := pstep (pair_lit (xs (nI x + (1 : Int32)).toNatClampNeg)) I (gL_law_b1377 L xs (gL_law_b18 L xs n) (nI x))
      rw [e]
      exact go N J
    rw [if_neg c13]
    by_cases c14 : v = (14 : Int32)
    · rw [if_pos c14]
      rw [if_neg b1, if_neg b2]
      obtain ⟨N, J, e⟩ := pstep (pair_pull (xs (nI x + (1 : Int32)).toNatClampNeg) (xs (nI x + (2 : Int32)).toNatClampNeg)) I (gL_law_b1377 L xs (gL_law_b18 L xs n) (nI x))
      rw [e]
      exact go N J
    rw [if_neg c14]
    by_cases c15 : v = (15 : Int32)
    · rw [if_pos c15]
      rw [if_neg b1]
      obtain ⟨N, J, e⟩ := pstep (pair_target (xs (nI x + (1 : Int32)).toNatClampNeg)) I (gL_law_b1377 L xs (gL_law_b18 L xs n) (nI x))
      rw [e]
      exact go N J
    rw [if_neg c15]
    by_cases c16 : v = (16 : Int32)
    · rw [if_pos c16]
      rw [if_neg b1]
      obtain ⟨N, J, e⟩ := pstep (pair_hours (xs (nI x + (1 : Int32)).toNatClampNeg)) I (gL_law_b1377 L xs (gL_law_b18 L xs n) (nI x))
      rw [e]
      exact go N J
    rw [if_neg c16]
    by_cases c17 : v = (17 : Int32)
    · rw [if_pos c17]
      rw [if_neg b1]
      obtain ⟨N, J, e⟩ := pstep (pair_hour (xs (nI x + (1 : Int32)).toNatClampNeg)) I (gL_law_b1377 L xs (gL_law_b18 L xs n) (nI x))
      rw [e]
      exact go N J
    rw [if_neg c17]
    by_cases c18 : v = (18 : Int32)
    · rw [if_pos c18]
      rw [if_neg b1, if_neg b2]
      obtain ⟨N, J, e⟩ := pstep (pair_tried (xs (nI x + (1 : Int32)).toNatClampNeg) (xs (nI x + (2 : Int32)).toNatClampNeg)) I (gL_law_b1377 L xs (gL_law_b18 L xs n) (nI x))
      rw [e]
      exact go N J
    rw [if_neg c18]
    by_cases c19 : v = (19 : Int32)
    · rw [if_pos c19]
      rw [if_neg b1, if_neg b2]
      obtain ⟨N, J, e⟩ := pstep (pair_herdIs (xs (nI x + (1 : Int32)).toNatClampNeg) (xs (nI x + (2 : Int32)).toNatClampNeg)) I (gL_law_b1377 L xs (gL_law_b18 L xs n) (nI x))
      rw [e]
      exact go N J
    rw [if_neg c19]
    by_cases c20 : v = (20 : Int32)
    · rw [if_pos c20]
      rw [if_neg b1, if_neg b2]
      obtain ⟨N, J, e⟩ := pstep (pair_lampIs (xs (nI x + (1 : Int32)).toNatClampNeg) (xs (nI x + (2 : Int32)).toNatClampNeg)) I (gL_law_b1377 L xs (gL_law_b18 L xs n) (nI x))
      rw [e]
      exact go N J
    rw [if_neg c20]
    by_cases c21 : v = (21 : Int32)
    · rw [if_pos c21]
      rw [if_neg b1]
      obtain ⟨N, J, e⟩ := pstep (pair_led (xs (nI x + (1 : Int32)).toNatClampNeg)) I (gL_law_b1377 L xs (gL_law_b18 L xs n) (nI x))
      rw [e]
      exact go N J
    rw [if_neg c21]
    by_cases c22 : v = (22 : Int32)
    · rw [if_pos c22]
      rw [if_neg b1, if_neg b2]
      obtain ⟨N, J, e⟩ := pstep (pair_plan (xs (nI x + (1 : Int32)).toNatClampNeg) (xs (nI x + (2 : Int32)).toNatClampNeg)) I (gL_law_b1377 L xs (gL_law_b18 L xs n) (nI x))
      rw [e]
      exact go N J
    rw [if_neg c22]
    by_cases c23 : v = (23 : Int32)
    · rw [if_pos c23]
      rw [if_neg b1]
      obtain ⟨N, J, e⟩ := pstep (pair_safe (xs (nI x + (1 : Int32)).toNatClampNeg)) I (gL_law_b1377 L xs (gL_law_b18 L xs n) (nI x))
      rw [e]
      exact go N J
    rw [if_neg c23]
    by_cases c24 : v = (24 : Int32)
    · rw [if_pos c24]
      rw [if_neg b1, if_neg b2]
      obtain ⟨N, J, e⟩ := pstep (pair_place (xs (nI x + (1 : Int32)).toNatClampNeg) (xs (nI x + (2 : Int32)).toNatClampNeg)) I (gL_law_b1377 L xs (gL_law_b18 L xs n) (nI x))
      rw [e]
      exact go N J
    rw [if_neg c24]
    by_cases c25 : v = (25 : Int32)
    · rw [if_pos c25]
      rw [if_neg b1, if_neg b2, if_neg b3, if_neg b4]
      obtain ⟨N, J, e⟩ := pstep (pair_prices (xs (nI x + (1 : Int32)).toNatClampNeg) (xs (nI x + (2 : Int32)).toNatClampNeg) (xs (nI x + (3 : Int32)).toNatClampNeg) (xs (nI x + (4 : Int32)).toNatClampNeg)) I (gL_law_b1377 L xs (gL_law_b18 L xs n) (nI x))
      rw [e]
      exact go N J
    rw [if_neg c25]
    by_cases c26 : v = (26 : Int32)
    · rw [if_pos c26]
      rw [if_neg b1, if_neg b2]
      obtain ⟨N, J, e⟩ := pstep (pair_whoLit (xs (nI x + (1 : Int32)).toNatClampNeg) (xs (nI x + (2 : Int32)).toNatClampNeg)) I (gL_law_b1377 L xs (gL_law_b18 L xs n) (nI x))
      rw [e]
      exact go N J
    rw [if_neg c26]
    by_cases c27 : v = (27 : Int32)
    · rw [if_pos c27]
      rw [if_neg b1, if_neg b2, if_neg b3, if_neg b4]
      obtain ⟨N, J, e⟩ := pstep (pair_where (xs (nI x + (1 : Int32)).toNatClampNeg) (xs (nI x + (2 : Int32)).toNatClampNeg) (xs (nI x + (3 : Int32)).toNatClampNeg) (xs (nI x + (4 : Int32)).toNatClampNeg)) I (gL_law_b1377 L xs (gL_law_b18 L xs n) (nI x))
      rw [e]
      exact go N J
    rw [if_neg c27]
    by_cases c28 : v = (28 : Int32)
    · rw [if_pos c28]
      rw [if_neg b1, if_neg b2, if_neg b3]
      obtain ⟨N, J, e⟩ := pstep (pair_odds (xs (nI x + (1 : Int32)).toNatClampNeg) (xs (nI x + (2 : Int32)).toNatClampNeg) (xs (nI x + (3 : Int32)).toNatClampNeg)) I (gL_law_b1377 L xs (gL_law_b18 L xs n) (nI x))
      rw [e]
      exact go N J
    rw [if_neg c28]
    by_cases c29 : v = (29 : Int32)
    · rw [if_pos c29]
      rw [if_neg b1]
      obtain ⟨N, J, e⟩ := pstep (pair_seed (xs (nI x + (1 : Int32)).toNatClampNeg)) I (gL_law_b1377 L xs (gL_law_b18 L xs n) (nI x))
      rw [e]
      exact go N J
    rw [if_neg c29]
    by_cases c30 : v = (30 : Int32)
    · rw [if_pos c30]
      obtain ⟨N, J, e⟩ := pstep (pair_clouded ) I (gL_law_b1377 L xs (gL_law_b18 L xs n) (nI x))
      rw [e]
      exact go N J
    rw [if_neg c30]
    by_cases c31 : v = (31 : Int32)
    · rw [if_pos c31]
      obtain ⟨N, J, e⟩ := pstep (pair_keep ) I (gL_law_b1377 L xs (gL_law_b18 L xs n) (nI x))
      rw [e]
      exact go N J
    rw [if_neg c31]
    by_cases c32 : v = (32 : Int32)
    · rw [if_pos c32]
      obtain ⟨N, J, e⟩ := pstep (pair_undo ) I (gL_law_b1377 L xs (gL_law_b18 L xs n) (nI x))
      rw [e]
      exact go N J
    rw [if_neg c32]
    by_cases c33 : v = (33 : Int32)
    · rw [if_pos c33]
      rw [if_neg b1]
      obtain ⟨N, J, e⟩ := pstep (pair_check (xs (nI x + (1 : Int32)).toNatClampNeg)) I (gL_law_b1377 L xs (gL_law_b18 L xs n) (nI x))
      rw [e]
      exact go N J
    rw [if_neg c33]
    by_cases c34 : v = (34 : Int32)
    · rw [if_pos c34]
      rw [if_neg b1]
      obtain ⟨N, J, e⟩ := pstep (pair_count (xs (nI x + (1 : Int32)).toNatClampNeg)) I (gL_law_b1377 L xs (gL_law_b18 L xs n) (nI x))
      rw [e]
      exact go N J
    rw [if_neg c34]
    exact go M I
