/-! PURE: the tape -/
theorem sx8 (x : Int32) : ((x.toInt8.toInt32).toInt8.toInt32).toBitVec.toNat % 2 ^ 8 = x.toBitVec.toNat % 2^8 := by
  apply Nat.eq_of_testBit_eq
  intro i
  rw [Nat.testBit_mod_two_pow, Nat.testBit_mod_two_pow]
  by_cases h : i < 8
  · have h2 : i < 32 := by omega
    simp only [h, decide_true, Bool.true_and, BitVec.testBit_toNat]
    simp [BitVec.getElem_signExtend, h, h2]
  · simp [h]
theorem toInt_nat (x : Int32) : x.toInt = if 2 * x.toBitVec.toNat < 4294967296 then (x.toBitVec.toNat : Int) else (x.toBitVec.toNat : Int) - 4294967296 := by
  rw [← Int32.toInt_toBitVec, BitVec.toInt_eq_toNat_cond]; rfl
theorem shr_nat (x s : Int32) (k : Nat) (hs : (s.toBitVec.smod 32).toNat = k) (hk : k = 24 ∨ k = 16 ∨ k = 8 ∨ k = 0) : (x >>> s).toBitVec.toNat % 2 ^ 8 = x.toBitVec.toNat / 2^k % 2^8 := by
  have h := pk_shr x s k hs
  rw [toInt_nat, toInt_nat, Int.shiftRight_eq_div_pow] at h
  have h1 : (x >>> s).toBitVec.toNat < 4294967296 := (x >>> s).toBitVec.isLt
  have h2 : x.toBitVec.toNat < 4294967296 := x.toBitVec.isLt
  generalize (x >>> s).toBitVec.toNat = u at *
  generalize x.toBitVec.toNat = v at *
  rcases hk with rfl | rfl | rfl | rfl <;> simp only [Nat.reducePow, Int.reducePow] at h ⊢ <;> split at h <;> split at h <;> omega
def bt (a s : Int32) : Int32 := ((a.toUInt32 >>> (s.toUInt32 &&& Int32.toUInt32 31)).toInt32) &&& (255 : Int32)
theorem bt_same (a : Int32) (s : Int32) (hs : s = 24 ∨ s = 16 ∨ s = 8 ∨ s = 0) : ((a >>> (s &&& 31)).toInt8.toInt32).toInt8.toInt32 &&& 255 = bt a s := by
  unfold bt
  rw [pk_and (m := 255) _ 8 (by decide), pk_and (m := 255) _ 8 (by decide), sx8]
  congr 1
  rcases hs with rfl | rfl | rfl | rfl
  · rw [pk_ushr _ _ 24 (by decide), shr_nat _ _ 24 (by decide) (by decide)]
  · rw [pk_ushr _ _ 16 (by decide), shr_nat _ _ 16 (by decide) (by decide)]
  · rw [pk_ushr _ _ 8 (by decide), shr_nat _ _ 8 (by decide) (by decide)]
  · rw [pk_ushr _ _ 0 (by decide), shr_nat _ _ 0 (by decide) (by decide)]
theorem add_one {n t : Nat} {a x : Int32} {M : xMem} (h : M 121 0 = nI t) (ht : t < 260) (h0 : ¬ x < 0) : g7_add_b3 (n + 1) a x M = g7_add_b3 n a (x + -8) (upM (upM M 120 t (bt a x)) 121 0 (nI (t + 1))) := by
  rw [g7_add_b3, if_neg h0, h]
  simp (disch := omega) only [↓reduceIte, mset_eq, i_lt0, i_cl, i_ll, i_lr, i_tl, i_tr, i_el, i_er, i_le, i_lt, i_eq, i_al, i_ar, i_sr, i_sl, i_ml, i_mr, i_dr, i_cll, nI_add, pk_mul, i_sub, nle_f, nle_t, nlt_f, nlt_t, neq_f, if_true, if_false, ite_true, ite_false, false_or, or_false, true_or, or_true, or_self, not_false_eq_true, not_true_eq_false, Option.bind_some, Nat.zero_add, Nat.add_zero, up_b (show (121 : Nat) ≠ 120 by decide), h]
  rfl
theorem add_eq {a : Int32} {t : Nat} {M : xMem} (h : M 121 0 = nI t) (ht : t + 4 ≤ 260) : ∃ N, g7_add a M = some N ∧ N 121 0 = nI (t + 4) ∧ (∀ b, b ≠ 120 → b ≠ 121 → N b = M b) ∧
    ∀ i, N 120 i = if i = t + 3 then bt a 0 else if i = t + 2 then bt a 8 else if i = t + 1 then bt a 16 else if i = t then bt a 24 else M 120 i := by
  unfold g7_add
  rw [show (5000 : Nat) = 4995 + 1 + 1 + 1 + 1 + 1 by rfl, add_one h (by omega) (by decide), add_one up_s (by omega) (by decide), add_one up_s (by omega) (by decide), add_one up_s (by omega) (by decide),
    g7_add_b3, if_pos (by decide)]
  refine ⟨_, rfl, up_s, fun b h1 h2 => ?_, fun i => ?_⟩
  · simp only [up_b h1, up_b h2]
  · simp only [upM]
    simp only [show ¬ ((120 : Nat) = 121 ∧ i = 0) by simp, if_false, true_and]
    try rfl
def tyb (a : Int32) (k : Nat) : Int32 := ((a >>> (nI (8 * k) &&& 31)).toInt8.toInt32).toInt8.toInt32
theorem types_s {n t k : Nat} {a : Int32} {M : xMem} (h : M 164 0 = nI t) (ht : t < 260) (hk : k < 3) : g9_types_b2 (n + 1) a (nI (k + 1)) M = g9_types_b2 n a (nI k) (upM (upM M 163 t (tyb a (k + 1))) 164 0 (nI (t + 1))) := by
  rw [g9_types_b2, h]
  simp (disch := omega) only [↓reduceIte, mset_eq, i_lt0, i_cl, i_ll, i_lr, i_tl, i_tr, i_el, i_er, i_le, i_lt, i_eq, i_al, i_ar, i_sr, i_sl, i_ml, i_mr, i_dr, i_cll, nI_add, pk_mul, i_sub, nle_f, nle_t, nlt_f, nlt_t, neq_f, if_true, if_false, ite_true, ite_false, false_or, or_false, true_or, or_true, or_self, not_false_eq_true, not_true_eq_false, Option.bind_some, Nat.zero_add, Nat.add_zero, up_b (show (164 : Nat) ≠ 163 by decide), h, pk_m1]
  rfl
theorem types_0 {n t : Nat} {a : Int32} {M : xMem} (h : M 164 0 = nI t) (ht : t < 260) : g9_types_b2 (n + 1 + 1) a (nI 0) M = some (upM (upM M 163 t (tyb a 0)) 164 0 (nI (t + 1))) := by
  rw [g9_types_b2, h]
  simp (disch := omega) only [↓reduceIte, mset_eq, i_lt0, i_cl, i_ll, i_lr, i_tl, i_tr, i_el, i_er, i_le, i_lt, i_eq, i_al, i_ar, i_sr, i_sl, i_ml, i_mr, i_dr, i_cll, nI_add, pk_mul, i_sub, nle_f, nle_t, nlt_f, nlt_t, neq_f, if_true, if_false, ite_true, ite_false, false_or, or_false, true_or, or_true, or_self, not_false_eq_true, not_true_eq_false, Option.bind_some, Nat.zero_add, Nat.add_zero, up_b (show (164 : Nat) ≠ 163 by decide), h]
  rw [g9_types_b2, if_pos (by decide)]
  rfl
theorem tyb_bt (a : Int32) (k : Nat) (s : Int32) (hs : s = 24 ∨ s = 16 ∨ s = 8 ∨ s = 0) (hk : nI (8 * k) = s) : tyb a k &&& 255 = bt a s := by
  unfold tyb
  rw [hk]
  exact bt_same a s hs
theorem types_eq {a : Int32} {t : Nat} {M : xMem} (h : M 164 0 = nI t) (ht : t + 4 ≤ 260) : ∃ N, g9_types a M = some N ∧ N 164 0 = nI (t + 4) ∧ (∀ b, b ≠ 163 → b ≠ 164 → N b = M b) ∧
    ∀ i, N 163 i &&& 255 = if i = t + 3 then bt a 0 else if i = t + 2 then bt a 8 else if i = t + 1 then bt a 16 else if i = t then bt a 24 else M 163 i &&& 255 := by
  unfold g9_types
  rw [show (5000 : Nat) = 4995 + 1 + 1 + 1 + 1 + 1 by rfl]
  show ∃ N, g9_types_b2 (4995 + 1 + 1 + 1 + 1 + 1) a (nI (2 + 1)) M = some N ∧ _
  rw [types_s h (by omega) (by omega), show nI 2 = nI (1 + 1) by rfl, types_s up_s (by omega) (by omega), show nI 1 = nI (0 + 1) by rfl, types_s up_s (by omega) (by omega), types_0 up_s (by omega)]
  refine ⟨_, rfl, up_s, fun b h1 h2 => ?_, fun i => ?_⟩
  · simp only [up_b h1, up_b h2]
  · simp only [upM]
    simp only [show ¬ ((163 : Nat) = 164 ∧ i = 0) by simp, if_false, true_and]
    rw [← tyb_bt a 3 24 (by decide) rfl, ← tyb_bt a 2 16 (by decide) rfl, ← tyb_bt a 1 8 (by decide) rfl, ← tyb_bt a 0 0 (by decide) rfl]
    split
    · rfl
    split
    · rfl
    split
    · rfl
    split <;> rfl
theorem pair_feed (a b c d e : Int32) : Pair (g8_feed a b c d e) (g9_feed a b c d e) := by
  intro M I
  obtain ⟨t, ht, h1, h2, h3⟩ := I.tape
  unfold g8_feed g9_feed
  rw [h1]
  by_cases c0 : t + 20 ≤ 260
  · have hc : nI t + 20 ≤ 260 := by
      show nI t + nI 20 ≤ nI 260
      rw [nI_add]
      exact nI_le c0 (by omega)
    rw [if_pos hc]
    obtain ⟨A1, ea1, na1, fa1, xa1⟩ := add_eq (a := a) h1 (by omega)
    obtain ⟨A2, ea2, na2, fa2, xa2⟩ := add_eq (a := b) na1 (by omega)
    obtain ⟨A3, ea3, na3, fa3, xa3⟩ := add_eq (a := c) na2 (by omega)
    obtain ⟨A4, ea4, na4, fa4, xa4⟩ := add_eq (a := d) na3 (by omega)
    obtain ⟨A5, ea5, na5, fa5, xa5⟩ := add_eq (a := e) na4 (by omega)
    have f : ∀ b, b ≠ 120 → b ≠ 121 → A5 b = M b := fun b p q => by rw [fa5 b p q, fa4 b p q, fa3 b p q, fa2 b p q, fa1 b p q]
    have h2' : A5 164 0 = nI t := by rw [f 164 (by decide) (by decide), h2]
    obtain ⟨B1, eb1, nb1, fb1, xb1⟩ := types_eq (a := a) h2' (by omega)
    obtain ⟨B2, eb2, nb2, fb2, xb2⟩ := types_eq (a := b) nb1 (by omega)
    obtain ⟨B3, eb3, nb3, fb3, xb3⟩ := types_eq (a := c) nb2 (by omega)
    obtain ⟨B4, eb4, nb4, fb4, xb4⟩ := types_eq (a := d) nb3 (by omega)
    obtain ⟨B5, eb5, nb5, fb5, xb5⟩ := types_eq (a := e) nb4 (by omega)
    have g : ∀ b, b ≠ 163 → b ≠ 164 → B5 b = A5 b := fun b p q => by rw [fb5 b p q, fb4 b p q, fb3 b p q, fb2 b p q, fb1 b p q]
    refine ⟨nI (t + 4 + 4 + 4 + 4 + 4), A5, B5, ?_, ?_, ?_⟩
    · rw [bs ea1, bs ea2, bs ea3, bs ea4, bs ea5, na5]
    · rw [h2', if_pos hc, bs eb1, bs eb2, bs eb3, bs eb4, bs eb5, nb5]
    · have k : ∀ b, b ≠ 120 → b ≠ 121 → b ≠ 163 → b ≠ 164 → B5 b = M b := fun b p q r s => by rw [g b r s, f b p q]
      refine ⟨by rw [k 7 (by decide) (by decide) (by decide) (by decide), k 0 (by decide) (by decide) (by decide) (by decide)]; exact I.eq7, by rw [k 0 (by decide) (by decide) (by decide) (by decide)]; exact I.ok,
        I.z.of fun b hb => k b (by omega) (by omega) (by omega) (by omega), I.kept.fr fun b hb => ?_, ⟨t + 4 + 4 + 4 + 4 + 4, by omega, ?_, nb5, fun i hi => ?_⟩, I.law.fr fun b hb => ?_⟩
      · have h0 : b ≠ 120 ∧ b ≠ 121 ∧ b ≠ 163 ∧ b ≠ 164 := by revert b; decide
        exact k b h0.1 h0.2.1 h0.2.2.1 h0.2.2.2
      · rw [g 121 (by decide) (by decide), na5]
      · rw [g 120 (by decide) (by decide), xb5, xb4, xb3, xb2, xb1, xa5, xa4, xa3, xa2, xa1, f 163 (by decide) (by decide), h3 i hi]
      · have h0 : b ≠ 120 ∧ b ≠ 121 ∧ b ≠ 163 ∧ b ≠ 164 := by revert b; decide
        exact k b h0.1 h0.2.1 h0.2.2.1 h0.2.2.2
  · have hc : ¬ nI t + 20 ≤ 260 := by
      show ¬ nI t + nI 20 ≤ nI 260
      rw [nI_add]
      exact fun q => c0 ((nI_leI (by omega) (by omega)).mp q)
    exact ⟨-1, M, M, by rw [if_neg hc], by rw [h2, if_neg hc], I⟩
