/-! PURE: what the law says -/
def clv (lo hi x : Int32) : Int32 := xMax lo (xMin hi x)
theorem clv_ref {lo hi x : Int32} (h : lo ≤ hi) : (if lo ≤ x then (if x ≤ hi then x else hi) else lo) = clv lo hi x := by
  unfold clv xMax xMin
  have h' := (fa_le' _ _).mp h
  by_cases c1 : x < hi
  · rw [if_pos c1]
    have d1 := (fa_lt' _ _).mp c1
    have e1 : x ≤ hi := (fa_le' _ _).mpr (by omega)
    rw [if_pos e1]
    by_cases c2 : lo < x
    · have d2 := (fa_lt' _ _).mp c2
      rw [if_pos c2, if_pos ((fa_le' _ _).mpr (by omega))]
    · rw [if_neg c2]
      by_cases c3 : lo ≤ x
      · rw [if_pos c3]
        apply Int32.toInt_inj.mp
        have d3 := (fa_le' _ _).mp c3
        have d4 : ¬ lo.toInt < x.toInt := fun q => c2 ((fa_lt' _ _).mpr q)
        omega
      · rw [if_neg c3]
  · rw [if_neg c1]
    have d1 : ¬ x.toInt < hi.toInt := fun q => c1 ((fa_lt' _ _).mpr q)
    have e1 : lo ≤ x := (fa_le' _ _).mpr (by omega)
    have e2 : (if x ≤ hi then x else hi) = hi := by
      by_cases c3 : x ≤ hi
      · rw [if_pos c3]
        apply Int32.toInt_inj.mp
        have d3 := (fa_le' _ _).mp c3
        omega
      · rw [if_neg c3]
    rw [if_pos e1, e2]
    by_cases c2 : lo < hi
    · rw [if_pos c2]
    · rw [if_neg c2]
      apply Int32.toInt_inj.mp
      have d4 : ¬ lo.toInt < hi.toInt := fun q => c2 ((fa_lt' _ _).mpr q)
      omega
theorem tab_le : ∀ k, k < 8 → (xTab 0).getD k 0 ≤ (xTab 1).getD k 0 := by decide
theorem tab_0 : ∀ k, k < 8 → (xTab 0).getD k 0 ≤ 0 ∧ 0 ≤ (xTab 1).getD k 0 := by decide
theorem clv_bd {lo hi x : Int32} (h : lo ≤ hi) : lo ≤ clv lo hi x ∧ clv lo hi x ≤ hi := by
  have h' := (fa_le' _ _).mp h
  rw [← clv_ref h]
  by_cases c1 : lo ≤ x
  · rw [if_pos c1]
    by_cases c2 : x ≤ hi
    · rw [if_pos c2]; exact ⟨c1, c2⟩
    · rw [if_neg c2]; exact ⟨h, (fa_le' _ _).mpr (by omega)⟩
  · rw [if_neg c1]; exact ⟨(fa_le' _ _).mpr (by omega), h⟩
theorem lawCh_inj : ∀ a, a < 8 → ∀ k, k < 8 → (lawCh k = lawCh a ↔ k = a) := by decide
def Cong15 {α : Type} (v : (Nat → Int32) → α) : Prop := ∀ F F' : Nat → Int32, (∀ i, i < 15 → F i = F' i) → v F = v F'
def lawC (M N : xMem) : Prop := ∀ b ∈ [20, 21, 22, 23, 24, 25, 26], N b = M b
def lawM (M N : xMem) : Prop := ∀ b ∈ [180, 181, 182, 183, 184, 173], N b = M b
theorem lawC.off {M N K : xMem} (h : lawC M N) (o : Off [27, 28, 29] N K) : lawC M K := fun b hb => (o b (by revert b; decide)).trans (h b hb)
theorem lawM.off {M N K : xMem} (h : lawM M N) (o : Off [185] N K) : lawM M K := fun b hb => (o b (by revert b; decide)).trans (h b hb)
theorem ask_go {M : xMem} (L : LawRel M) {a : Nat} (ha : a < 8) : ∃ n : Nat, n ≤ 16 ∧ ∀ d c : Nat, c + d = n → ∃ v : (Nat → Int32) → Int32, (Cong15 v ∧ ∀ F, (xTab 0).getD a 0 ≤ v F ∧ v F ≤ (xTab 1).getD a 0) ∧
    (∀ N fuel, lawC M N → d < fuel → ∃ N', g3_ask_b24 fuel (nI a) (nI c) N = some (v (N 101), N') ∧ Off [27, 28, 29] N N') ∧
    (∀ N fuel, lawM M N → d < fuel → ∃ N', g9_byLaw_b3 fuel (lawCh a) ((xTab 0).getD a 0) ((xTab 1).getD a 0) (nI c) N = some (v (N 186), N') ∧ Off [185] N N') := by
  obtain ⟨n, hn, h26, h173, H⟩ := L
  refine ⟨n, hn, fun d => ?_⟩
  induction d with
  | zero =>
    intro c hc
    obtain rfl : c = n := by omega
    refine ⟨fun _ => 0, ⟨fun _ _ _ => rfl, fun _ => tab_0 a ha⟩, fun N fuel hN hf => ?_, fun N fuel hN hf => ?_⟩
    · obtain ⟨f, rfl⟩ : ∃ f, fuel = f + 1 := ⟨fuel - 1, by omega⟩
      refine ⟨N, ?_, Off.rf⟩
      rw [g3_ask_b24, hN 26 (by decide), h26]
      simp (disch := omega) only [↓reduceIte, mset_eq, i_lt0, i_cl, i_ll, i_lr, i_tl, i_tr, i_el, i_er, i_le, i_lt, i_eq, i_al, i_ar, i_sr, i_sl, i_ml, i_mr, i_dr, i_cll, nI_add, pk_mul, i_sub, nle_f, nle_t, nlt_f, nlt_t, neq_f, if_true, if_false, ite_true, ite_false, false_or, or_false, true_or, or_true, or_self, not_false_eq_true, not_true_eq_false, Option.bind_some, Nat.zero_add, Nat.add_zero]
    · obtain ⟨f, rfl⟩ : ∃ f, fuel = f + 1 := ⟨fuel - 1, by omega⟩
      refine ⟨N, ?_, Off.rf⟩
      rw [g9_byLaw_b3, hN 173 (by decide), h173]
      simp (disch := omega) only [↓reduceIte, mset_eq, i_lt0, i_cl, i_ll, i_lr, i_tl, i_tr, i_el, i_er, i_le, i_lt, i_eq, i_al, i_ar, i_sr, i_sl, i_ml, i_mr, i_dr, i_cll, nI_add, pk_mul, i_sub, nle_f, nle_t, nlt_f, nlt_t, neq_f, if_true, if_false, ite_true, ite_false, false_or, or_false, true_or, or_true, or_self, not_false_eq_true, not_true_eq_false, Option.bind_some, Nat.zero_add, Nat.add_zero]
  | succ d ih =>
    intro c hc
    obtain ⟨v, ⟨vc, vb⟩, hA, hB⟩ := ih (c + 1) (by omega)
    obtain ⟨⟨k, hk, hk1, hk2⟩, W, A, HC, HR, HV⟩ := H c (by omega)
    by_cases e : k = a
    · subst e
      refine ⟨fun F => if W F = true then clv ((xTab 0).getD k 0) ((xTab 1).getD k 0) (A F) else v F, ⟨fun F F' hF => ?_, fun F => ?_⟩, fun N fuel hN hf => ?_, fun N fuel hN hf => ?_⟩
      · simp only [(HV F F' hF).1, (HV F F' hF).2, vc F F' hF]
      · by_cases c : W F = true
        · simp only [if_pos c]
          exact clv_bd (tab_le k hk)
        · simp only [if_neg c]
          exact vb F
      · obtain ⟨f, rfl⟩ : ∃ f, fuel = f + 1 := ⟨fuel - 1, by omega⟩
        obtain ⟨⟨r, K, e1, o1, w1⟩, -⟩ := HC N (hN 20 (by decide)) (hN 21 (by decide)) (hN 22 (by decide))
        have hK := hN.off o1
        obtain ⟨-, ⟨r2, K2, e2, o2, w2⟩⟩ := HC K (hK 20 (by decide)) (hK 21 (by decide)) (hK 22 (by decide))
        have l1 : K 101 = N 101 := o1 101 (by decide)
        obtain ⟨N', e3, o3⟩ := hA K f hK (by omega)
        rw [l1] at e3 w2
        rw [g3_ask_b24, hN 26 (by decide), h26]
        simp (disch := omega) only [↓reduceIte, i_le, i_ll, i_cl, nle_f, i_lt0, or_self]
        rw [hN 23 (by decide), hk1, if_pos rfl, hN 25 (by decide), bs e1]
        unfold g3_ask_b112
        simp only [nI_1]
        by_cases z1 : r = 0
        · rw [if_pos z1, if_neg (fun q => (w1.mp q).1 z1)]
          exact ⟨N', e3, o1.tr o3⟩
        rw [if_neg z1]
        by_cases z2 : K 28 0 = 0
        · rw [if_pos z2, if_neg (fun q => (w1.mp q).2 z2)]
          exact ⟨N', e3, o1.tr o3⟩
        rw [if_neg z2, if_pos (w1.mpr ⟨z1, z2⟩), hK 24 (by decide), bs e2, w2]
        refine ⟨K2, ?_, o1.tr o2⟩
        unfold g3_ask_b91
        simp (disch := omega) only [↓reduceIte, i_cl, nle_f, i_lt0, or_self]
        by_cases z3 : r2 = 0
        · rw [if_pos z3, if_pos z3]; rfl
        · rw [if_neg z3, if_neg z3]; rfl
      · obtain ⟨f, rfl⟩ : ∃ f, fuel = f + 1 := ⟨fuel - 1, by omega⟩
        obtain ⟨⟨r, K, e1, o1, w1⟩, -⟩ := HR N (hN 180 (by decide))
        have hK := hN.off o1
        obtain ⟨-, ⟨K2, e2, o2⟩⟩ := HR K (hK 180 (by decide))
        have l1 : K 186 = N 186 := o1 186 (by decide)
        obtain ⟨N', e3, o3⟩ := hB K f hK (by omega)
        rw [l1] at e3 e2
        rw [g9_byLaw_b3, hN 173 (by decide), h173]
        simp (disch := omega) only [↓reduceIte, i_le, i_ll, i_cl, nle_f, i_lt0, or_self]
        rw [hN 181 (by decide), hk2, if_pos rfl, hN 183 (by decide), hN 184 (by decide), bs e1]
        unfold g9_byLaw_b91
        simp only [nI_1]
        by_cases z1 : r = 1
        · rw [if_pos z1, if_pos (w1.mpr z1), hK 182 (by decide), hK 183 (by decide), bs e2]
          refine ⟨K2, ?_, o1.tr o2⟩
          rw [← clv_ref (tab_le k hk)]
          by_cases z2 : (xTab 0).getD k 0 ≤ A (N 186)
          · rw [if_pos z2, if_pos z2]
            by_cases z3 : A (N 186) ≤ (xTab 1).getD k 0
            · rw [if_pos z3, if_pos z3]
            · rw [if_neg z3, if_neg z3]
          · rw [if_neg z2, if_neg z2]
        · rw [if_neg z1, if_neg (fun q => z1 (w1.mp q))]
          exact ⟨N', e3, o1.tr o3⟩
    · refine ⟨v, ⟨vc, vb⟩, fun N fuel hN hf => ?_, fun N fuel hN hf => ?_⟩
      · obtain ⟨f, rfl⟩ : ∃ f, fuel = f + 1 := ⟨fuel - 1, by omega⟩
        obtain ⟨N', e3, o3⟩ := hA N f hN (by omega)
        refine ⟨N', ?_, o3⟩
        rw [← e3, g3_ask_b24, hN 26 (by decide), h26]
        simp (disch := omega) only [↓reduceIte, i_le, i_ll, i_cl, nle_f, i_lt0, or_self]
        rw [hN 23 (by decide), hk1, if_neg (fun q => e ((nI_eq (by omega) (by omega)).mp q))]
        unfold g3_ask_b112
        simp only [nI_1]
      · obtain ⟨f, rfl⟩ : ∃ f, fuel = f + 1 := ⟨fuel - 1, by omega⟩
        obtain ⟨N', e3, o3⟩ := hB N f hN (by omega)
        refine ⟨N', ?_, o3⟩
        rw [← e3, g9_byLaw_b3, hN 173 (by decide), h173]
        simp (disch := omega) only [↓reduceIte, i_le, i_ll, i_cl, nle_f, i_lt0, or_self]
        rw [hN 181 (by decide), hk2, if_neg (fun q => e ((lawCh_inj a ha k hk).mp q))]
        unfold g9_byLaw_b91
        simp only [nI_1]
theorem ask_eq {M : xMem} (L : LawRel M) {a : Nat} (ha : a < 8) : ∃ v : (Nat → Int32) → Int32, Cong15 v ∧ (∀ F, (xTab 0).getD a 0 ≤ v F ∧ v F ≤ (xTab 1).getD a 0) ∧
    (∀ N, lawC M N → ∃ N', g3_ask (nI a) N = some (v (N 101), N') ∧ Off [27, 28, 29] N N') ∧
    (∀ N, lawM M N → ∃ N', g9_byLaw (lawCh a) ((xTab 0).getD a 0) ((xTab 1).getD a 0) N = some (v (N 186), N') ∧ Off [185] N N') := by
  obtain ⟨n, hn, H⟩ := ask_go L ha
  obtain ⟨v, ⟨vc, vb⟩, hA, hB⟩ := H n 0 (by omega)
  refine ⟨v, vc, vb, fun N hN => ?_, fun N hN => ?_⟩
  · obtain ⟨N', e, o⟩ := hA N 5000 hN (by omega)
    refine ⟨N', ?_, o⟩
    unfold g3_ask
    simp (disch := omega) only [↓reduceIte, mset_eq, i_lt0, i_cl, i_ll, i_lr, i_tl, i_tr, i_el, i_er, i_le, i_lt, i_eq, i_al, i_ar, i_sr, i_sl, i_ml, i_mr, i_dr, i_cll, nI_add, pk_mul, i_sub, nle_f, nle_t, nlt_f, nlt_t, neq_f, if_true, if_false, ite_true, ite_false, false_or, or_false, true_or, or_true, or_self, not_false_eq_true, not_true_eq_false, Option.bind_some, Nat.zero_add, Nat.add_zero]
    exact e
  · exact hB N 5000 hN (by omega)
