/-! PURE: the calls that set many things -/
def upL (M : xMem) (b : Nat) : List (Nat × Int32) → xMem
  | [] => M
  | q :: l => upL (upM M b q.1 q.2) b l
def udL (R : Nat → Int32) : List (Nat × Int32) → Nat → Int32
  | [] => R
  | q :: l => udL (upd R q.1 q.2) l
theorem upL_b {b c : Nat} (h : c ≠ b) : ∀ (l : List (Nat × Int32)) (M : xMem), upL M b l c = M c
  | [], M => rfl
  | q :: l, M => by
    show upL (upM M b q.1 q.2) b l c = M c
    rw [upL_b h l, up_b h]
theorem upL_row {b : Nat} : ∀ (l : List (Nat × Int32)) (M : xMem), upL M b l b = udL (M b) l
  | [], M => rfl
  | q :: l, M => by
    show upL (upM M b q.1 q.2) b l b = udL (upd (M b) q.1 q.2) l
    rw [upL_row l, up_row]
theorem upL_z {b : Nat} : ∀ (l : List (Nat × Int32)) (M : xMem), Z10 M → (∀ q ∈ l, q.1 < 331) → Z10 (upL M b l)
  | [], M, z, _ => z
  | q :: l, M, z, h => upL_z l _ (z.up (Or.inl (h q (List.mem_cons_self ..)))) fun p hp => h p (List.mem_cons_of_mem _ hp)
def okU (q : Nat × Int32) : Prop := ∀ m, bd q.1 = some m → ∃ j, j ≤ m ∧ q.2 = nI j
theorem udL_ok : ∀ (l : List (Nat × Int32)) (R : Nat → Int32), RowOk R → (∀ q ∈ l, okU q) → RowOk (udL R l)
  | [], R, ok, _ => ok
  | q :: l, R, ok, h => udL_ok l _ (ok.upd (h q (List.mem_cons_self ..))) fun p hp => h p (List.mem_cons_of_mem _ hp)
theorem Inv.upL {M : xMem} (I : Inv M) (l : List (Nat × Int32)) (h : ∀ q ∈ l, q.1 < 331 ∧ okU q) : Inv (upL (upL M 0 l) 7 l) := by
  have h1 : ∀ q ∈ l, q.1 < 331 := fun q hq => (h q hq).1
  refine I.fr ?_ ?_ (upL_z l _ (upL_z l _ I.z h1) h1) ?_
  · rw [upL_row, upL_b (show (0 : Nat) ≠ 7 by decide), upL_b (show (7 : Nat) ≠ 0 by decide), upL_row, I.eq7]
  · rw [upL_b (show (0 : Nat) ≠ 7 by decide), upL_row]
    exact udL_ok l _ I.ok fun q hq => (h q hq).2
  · intro b hb
    have h0 : b ≠ 0 ∧ b ≠ 7 := by revert b; decide
    rw [upL_b h0.2, upL_b h0.1]
theorem okU_mk {k v m : Nat} (hb : bd k = some m) (hv : v ≤ m) : okU (k, nI v) := ok_le hb hv
theorem bd_sq0 {k : Nat} (h : k < 196) : bd k = some 3 := bd_sort h
theorem pair_gone (a : Int32) : Pair (g8_gone a) (g9_gone a) := by
  intro M I
  unfold g8_gone g9_gone
  rcases stands_cases a I with ⟨h1, h2⟩ | ⟨l, hl, rfl, -, h1, h2⟩
  · exact ⟨0, M, M, by rw [h1]; rfl, by rw [h2]; rfl, I⟩
  · refine ⟨1, upM M 0 (196 + l) 0, upM (upM M 0 (196 + l) 0) 7 (196 + l) 0, ?_, ?_, I.up2 (by omega) (ok_le (v := 0) (m := 1) (bd_there l hl) (by omega))⟩
    · simp (disch := omega) only [h1, mset_eq, i_lt0, i_cl, i_ll, i_lr, i_tl, i_tr, i_el, i_er, i_le, i_lt, i_eq, i_al, i_ar, i_sr, i_sl, i_ml, i_mr, i_dr, i_cll, nI_add, pk_mul, i_sub, nle_f, nle_t, nlt_f, nlt_t, neq_f, if_true, if_false, ite_true, ite_false, false_or, or_false, true_or, or_true, or_self, not_false_eq_true, not_true_eq_false, Option.bind_some, Nat.zero_add, Nat.add_zero]; rfl
    · have h3 : g9_isLamp (nI l) (upM M 0 (196 + l) 0) = some (1, upM M 0 (196 + l) 0) := by
        have h4 := h2
        unfold g9_isLamp at h4 ⊢
        simp (disch := omega) only [mset_eq, i_lt0, i_cl, i_ll, i_lr, i_tl, i_tr, i_el, i_er, i_le, i_lt, i_eq, i_al, i_ar, i_sr, i_sl, i_ml, i_mr, i_dr, i_cll, nI_add, pk_mul, i_sub, nle_f, nle_t, nlt_f, nlt_t, neq_f, if_true, if_false, ite_true, ite_false, false_or, or_false, true_or, or_true, or_self, not_false_eq_true, not_true_eq_false, Option.bind_some, Nat.zero_add, Nat.add_zero, up_b (show (7 : Nat) ≠ 0 by decide)] at h4 ⊢
        by_cases c : M 7 (196 + l) = 1
        · simp [c]
        · simp [c] at h4
      simp (disch := omega) only [h3, mset_eq, i_lt0, i_cl, i_ll, i_lr, i_tl, i_tr, i_el, i_er, i_le, i_lt, i_eq, i_al, i_ar, i_sr, i_sl, i_ml, i_mr, i_dr, i_cll, nI_add, pk_mul, i_sub, nle_f, nle_t, nlt_f, nlt_t, neq_f, if_true, if_false, ite_true, ite_false, false_or, or_false, true_or, or_true, or_self, not_false_eq_true, not_true_eq_false, Option.bind_some, Nat.zero_add, Nat.add_zero]; rfl
theorem told9_of0 {a : Int32} {M N : xMem} (h : N 7 = M 7) : ∀ r, g9_isTold a M = some (r, M) → g9_isTold a N = some (r, N) := by
  intro r
  unfold g9_isTold
  rw [h]
  split
  · intro e; injection e with e; injection e with e; rw [e]
  split
  · intro e; injection e with e; injection e with e; rw [e]
  split
  · intro e; cases e
  split
  · intro e; injection e with e; injection e with e; rw [e]
  · intro e; injection e with e; injection e with e; rw [e]
theorem lamp9_of0 {a : Int32} {M N : xMem} (h : N 7 = M 7) : ∀ r, g9_isLamp a M = some (r, M) → g9_isLamp a N = some (r, N) := by
  intro r
  unfold g9_isLamp
  rw [h]
  split
  · intro e; injection e with e; injection e with e; rw [e]
  split
  · intro e; injection e with e; injection e with e; rw [e]
  split
  · intro e; cases e
  split
  · intro e; injection e with e; injection e with e; rw [e]
  · intro e; injection e with e; injection e with e; rw [e]
theorem pair_fire (a b : Int32) (hb : b = 0 ∨ b = 1) : Pair (g8_fire a b) (g9_fire a b) := by
  intro M I
  unfold g8_fire g9_fire g9_fire_b27 g9_fire_b51
  rcases told_cases a I with ⟨h1, h2⟩ | ⟨h, hh, rfl, -, h1, h2⟩
  · exact ⟨0, M, M, by rw [h1]; rfl, by rw [h2]; rfl, I⟩
  · have e1 : (1 : Int32) = 0 ↔ False := by decide
    have e2 : (0 : Int32) = 1 ↔ False := by decide
    by_cases c : M 0 (298 + h) = b
    · refine ⟨0, M, M, ?_, ?_, I⟩
      · simp (disch := omega) only [h1, mset_eq, i_lt0, i_cl, i_ll, i_lr, i_tl, i_tr, i_el, i_er, i_le, i_lt, i_eq, i_al, i_ar, i_sr, i_sl, i_ml, i_mr, i_dr, i_cll, nI_add, pk_mul, i_sub, nle_f, nle_t, nlt_f, nlt_t, neq_f, if_true, if_false, ite_true, ite_false, false_or, or_false, true_or, or_true, or_self, not_false_eq_true, not_true_eq_false, Option.bind_some, Nat.zero_add, Nat.add_zero, e1, c]
      · simp (disch := omega) only [h2, mset_eq, i_lt0, i_cl, i_ll, i_lr, i_tl, i_tr, i_el, i_er, i_le, i_lt, i_eq, i_al, i_ar, i_sr, i_sl, i_ml, i_mr, i_dr, i_cll, nI_add, pk_mul, i_sub, nle_f, nle_t, nlt_f, nlt_t, neq_f, if_true, if_false, ite_true, ite_false, false_or, or_false, true_or, or_true, or_self, not_false_eq_true, not_true_eq_false, Option.bind_some, Nat.zero_add, Nat.add_zero, e1, I.eq7, c]
        rcases hb with rfl | rfl <;> simp
    · refine ⟨1, upM M 0 (298 + h) b, upM (upM M 0 (298 + h) b) 7 (298 + h) b, ?_, ?_, I.up2 (by omega) (by
        rcases hb with rfl | rfl
        · exact ok_le (v := 0) (bd_fire h hh) (by omega)
        · exact ok_le (v := 1) (bd_fire h hh) (by omega))⟩
      · simp (disch := omega) only [h1, mset_eq, i_lt0, i_cl, i_ll, i_lr, i_tl, i_tr, i_el, i_er, i_le, i_lt, i_eq, i_al, i_ar, i_sr, i_sl, i_ml, i_mr, i_dr, i_cll, nI_add, pk_mul, i_sub, nle_f, nle_t, nlt_f, nlt_t, neq_f, if_true, if_false, ite_true, ite_false, false_or, or_false, true_or, or_true, or_self, not_false_eq_true, not_true_eq_false, Option.bind_some, Nat.zero_add, Nat.add_zero, e1, c, hb]
      · have h3 := told9_of0 (N := upM M 0 (298 + h) b) (up_b (show (7 : Nat) ≠ 0 by decide)) _ h2
        simp (disch := omega) only [h3, mset_eq, i_lt0, i_cl, i_ll, i_lr, i_tl, i_tr, i_el, i_er, i_le, i_lt, i_eq, i_al, i_ar, i_sr, i_sl, i_ml, i_mr, i_dr, i_cll, nI_add, pk_mul, i_sub, nle_f, nle_t, nlt_f, nlt_t, neq_f, if_true, if_false, ite_true, ite_false, false_or, or_false, true_or, or_true, or_self, not_false_eq_true, not_true_eq_false, Option.bind_some, Nat.zero_add, Nat.add_zero, e1, up_b (show (7 : Nat) ≠ 0 by decide), I.eq7]
        rcases hb with rfl | rfl <;> rcases I.ok.fire hh with c' | c' <;> simp [c'] at c ⊢
theorem inn9_cases (x : Int32) : g9_isInn x = g9_in x 0 8 := by
  funext M
  rcases i3 x (n := 9) (by omega) with h | h | ⟨j, hj, rfl⟩
  · unfold g9_isInn g9_in; rw [if_pos h, if_pos h]
  · unfold g9_isInn g9_in
    have h3 : (8 : Int32) < x := (fa_lt' _ _).mpr (by
      have := (fa_le' _ _).mp h
      rw [nI_toInt (by omega)] at this
      have e : (8 : Int32).toInt = 8 := rfl
      omega)
    rw [if_neg (i_ge (by omega) h), if_pos (show (9 : Int32) ≤ x from h), if_neg (i_ge (by omega) h), if_pos h3]
  · unfold g9_isInn g9_in
    simp (disch := omega) only [mset_eq, i_lt0, i_cl, i_ll, i_lr, i_tl, i_tr, i_el, i_er, i_le, i_lt, i_eq, i_al, i_ar, i_sr, i_sl, i_ml, i_mr, i_dr, i_cll, nI_add, pk_mul, i_sub, nle_f, nle_t, nlt_f, nlt_t, neq_f, if_true, if_false, ite_true, ite_false, false_or, or_false, true_or, or_true, or_self, not_false_eq_true, not_true_eq_false, Option.bind_some, Nat.zero_add, Nat.add_zero]
