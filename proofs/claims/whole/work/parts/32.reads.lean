/-! PURE: reads of a row, class and reference -/
theorem nle_f {a b : Nat} (h : b < a) : (a ≤ b) = False := eq_false (by omega)
theorem nle_t {a b : Nat} (h : a ≤ b) : (a ≤ b) = True := eq_true h
theorem nlt_f {a b : Nat} (h : b ≤ a) : (a < b) = False := eq_false (by omega)
theorem nlt_t {a b : Nat} (h : a < b) : (a < b) = True := eq_true h
theorem neq_f {a b : Nat} (h : a ≠ b) : (a = b) = False := eq_false h
theorem ne1 {x : Int32} (h : x = 0 ∨ x = 1) : (x = 1) = ¬ (x = 0) := by
  rcases h with rfl | rfl <;> decide
theorem bind_id {α β : Type} {o : Option α} {a : α} (h : o = some a) (f : α → Option β) : Option.bind o f = f a := by rw [h]; rfl
/-- sums and bit sets over the first n numbers -/
def sumF (f : Nat → Int32) : Nat → Int32
  | 0 => 0
  | n + 1 => sumF f n + f n
def orF (f : Nat → Int32) : Nat → Int32
  | 0 => 0
  | n + 1 => orF f n ||| f n
def sLive (R : Nat → Int32) (h : Nat) : Int32 := if R (268 + h) = 0 then 0 else R (280 + h)
def sThro (R : Nat → Int32) (h : Nat) : Int32 := if R (268 + h) = 0 then 0 else if R (274 + h) = 196 then R (280 + h) else 0
def sLiving (R : Nat → Int32) : Int32 := sumF (sLive R) 6
def sThrough (R : Nat → Int32) : Int32 := sumF (sThro R) 6
theorem living_b {p : Nat} {M : xMem} : ∀ (d k n : Nat), k + d = 6 → d < n → g1_living_b4 p n (sumF (sLive (M p)) k) (nI k) M = some (sLiving (M p), M)
  | 0, k, n + 1, hk, hn => by
    obtain rfl : k = 6 := by omega
    unfold g1_living_b4
    simp (disch := omega) only [mset_eq, i_lt0, i_cl, i_ll, i_lr, i_tl, i_tr, i_el, i_er, i_le, i_lt, i_eq, i_al, i_ar, i_sr, i_sl, i_ml, i_mr, i_dr, i_cll, nI_add, pk_mul, i_sub, nle_f, nle_t, nlt_f, nlt_t, neq_f, if_true, if_false, ite_true, ite_false, false_or, or_false, true_or, or_true, or_self, not_false_eq_true, not_true_eq_false, Option.bind_some, Nat.zero_add, Nat.add_zero]
    rfl
  | d + 1, k, n + 1, hk, hn => by
    have ih := living_b (p := p) (M := M) d (k + 1) n (by omega) (by omega)
    unfold g1_living_b4 g1_living_b30
    simp (disch := omega) only [mset_eq, i_lt0, i_cl, i_ll, i_lr, i_tl, i_tr, i_el, i_er, i_le, i_lt, i_eq, i_al, i_ar, i_sr, i_sl, i_ml, i_mr, i_dr, i_cll, nI_add, pk_mul, i_sub, nle_f, nle_t, nlt_f, nlt_t, neq_f, if_true, if_false, ite_true, ite_false, false_or, or_false, true_or, or_true, or_self, not_false_eq_true, not_true_eq_false, Option.bind_some, Nat.zero_add, Nat.add_zero]
    have e : sumF (sLive (M p)) (k + 1) = sumF (sLive (M p)) k + sLive (M p) k := rfl
    rw [← ih, e]
    by_cases c : M p (268 + k) = 0
    · rw [if_pos c, show sLive (M p) k = 0 from if_pos c]
    · rw [if_neg c, show sLive (M p) k = M p (280 + k) from if_neg c]
theorem living_eq {p : Nat} {M : xMem} : g1_living p M = some (sLiving (M p), M) := living_b (p := p) 6 0 5000 rfl (by omega)
theorem through_b {p : Nat} {M : xMem} : ∀ (d k n : Nat), k + d = 6 → d < n → g1_livingThrough_b4 p n (sumF (sThro (M p)) k) (nI k) M = some (sThrough (M p), M)
  | 0, k, n + 1, hk, hn => by
    obtain rfl : k = 6 := by omega
    unfold g1_livingThrough_b4
    simp (disch := omega) only [mset_eq, i_lt0, i_cl, i_ll, i_lr, i_tl, i_tr, i_el, i_er, i_le, i_lt, i_eq, i_al, i_ar, i_sr, i_sl, i_ml, i_mr, i_dr, i_cll, nI_add, pk_mul, i_sub, nle_f, nle_t, nlt_f, nlt_t, neq_f, if_true, if_false, ite_true, ite_false, false_or, or_false, true_or, or_true, or_self, not_false_eq_true, not_true_eq_false, Option.bind_some, Nat.zero_add, Nat.add_zero]
    rfl
  | d + 1, k, n + 1, hk, hn => by
    have ih := through_b (p := p) (M := M) d (k + 1) n (by omega) (by omega)
    unfold g1_livingThrough_b4 g1_livingThrough_b41 g1_livingThrough_b42
    simp (disch := omega) only [mset_eq, i_lt0, i_cl, i_ll, i_lr, i_tl, i_tr, i_el, i_er, i_le, i_lt, i_eq, i_al, i_ar, i_sr, i_sl, i_ml, i_mr, i_dr, i_cll, nI_add, pk_mul, i_sub, nle_f, nle_t, nlt_f, nlt_t, neq_f, if_true, if_false, ite_true, ite_false, false_or, or_false, true_or, or_true, or_self, not_false_eq_true, not_true_eq_false, Option.bind_some, Nat.zero_add, Nat.add_zero]
    have e : sumF (sThro (M p)) (k + 1) = sumF (sThro (M p)) k + sThro (M p) k := rfl
    rw [← ih, e]
    unfold sThro
    by_cases c : M p (268 + k) = 0
    · simp only [if_pos c]
    · by_cases c2 : M p (274 + k) = 196
      · simp only [if_neg c, if_pos c2]
      · simp only [if_neg c, if_neg c2]
theorem through_eq {p : Nat} {M : xMem} : g1_livingThrough p M = some (sThrough (M p), M) := through_b (p := p) 6 0 5000 rfl (by omega)
def sBit (c : Bool) (k : Nat) : Int32 := if c then (1 : Int32) <<< (nI k &&& 31) else 0
def sToldB (R : Nat → Int32) (h : Nat) : Int32 := sBit (decide (R (268 + h) ≠ 0)) h
def sOnB (R : Nat → Int32) (h : Nat) : Int32 := sBit (sOn R h) h
theorem toldBits_b {p : Nat} {M : xMem} : ∀ (d k n : Nat), k + d = 6 → d < n → g1_toldBits_b4 p n (orF (sToldB (M p)) k) (nI k) M = some (orF (sToldB (M p)) 6, M)
  | 0, k, n + 1, hk, hn => by
    obtain rfl : k = 6 := by omega
    unfold g1_toldBits_b4
    simp (disch := omega) only [mset_eq, i_lt0, i_cl, i_ll, i_lr, i_tl, i_tr, i_el, i_er, i_le, i_lt, i_eq, i_al, i_ar, i_sr, i_sl, i_ml, i_mr, i_dr, i_cll, nI_add, pk_mul, i_sub, nle_f, nle_t, nlt_f, nlt_t, neq_f, if_true, if_false, ite_true, ite_false, false_or, or_false, true_or, or_true, or_self, not_false_eq_true, not_true_eq_false, Option.bind_some, Nat.zero_add, Nat.add_zero]
  | d + 1, k, n + 1, hk, hn => by
    have ih := toldBits_b (p := p) (M := M) d (k + 1) n (by omega) (by omega)
    unfold g1_toldBits_b4 g1_toldBits_b27
    simp (disch := omega) only [mset_eq, i_lt0, i_cl, i_ll, i_lr, i_tl, i_tr, i_el, i_er, i_le, i_lt, i_eq, i_al, i_ar, i_sr, i_sl, i_ml, i_mr, i_dr, i_cll, nI_add, pk_mul, i_sub, nle_f, nle_t, nlt_f, nlt_t, neq_f, if_true, if_false, ite_true, ite_false, false_or, or_false, true_or, or_true, or_self, not_false_eq_true, not_true_eq_false, Option.bind_some, Nat.zero_add, Nat.add_zero]
    have e : orF (sToldB (M p)) (k + 1) = orF (sToldB (M p)) k ||| sToldB (M p) k := rfl
    rw [← ih, e]
    unfold sToldB sBit
    by_cases c : M p (268 + k) = 0
    · simp [c]
    · simp [c]
theorem toldBits_eq {p : Nat} {M : xMem} : g1_toldBits p M = some (orF (sToldB (M p)) 6, M) := toldBits_b (p := p) 6 0 5000 rfl (by omega)
theorem onBits_b {p : Nat} {M : xMem} : ∀ (d k n : Nat), k + d = 6 → d < n → g1_onBits_b4 p n (orF (sOnB (M p)) k) (nI k) M = some (orF (sOnB (M p)) 6, M)
  | 0, k, n + 1, hk, hn => by
    obtain rfl : k = 6 := by omega
    unfold g1_onBits_b4
    simp (disch := omega) only [mset_eq, i_lt0, i_cl, i_ll, i_lr, i_tl, i_tr, i_el, i_er, i_le, i_lt, i_eq, i_al, i_ar, i_sr, i_sl, i_ml, i_mr, i_dr, i_cll, nI_add, pk_mul, i_sub, nle_f, nle_t, nlt_f, nlt_t, neq_f, if_true, if_false, ite_true, ite_false, false_or, or_false, true_or, or_true, or_self, not_false_eq_true, not_true_eq_false, Option.bind_some, Nat.zero_add, Nat.add_zero]
  | d + 1, k, n + 1, hk, hn => by
    have ih := onBits_b (p := p) (M := M) d (k + 1) n (by omega) (by omega)
    unfold g1_onBits_b4 g1_onBits_b26
    rw [on_in (show k < 6 by omega)]
    simp (disch := omega) only [mset_eq, i_lt0, i_cl, i_ll, i_lr, i_tl, i_tr, i_el, i_er, i_le, i_lt, i_eq, i_al, i_ar, i_sr, i_sl, i_ml, i_mr, i_dr, i_cll, nI_add, pk_mul, i_sub, nle_f, nle_t, nlt_f, nlt_t, neq_f, if_true, if_false, ite_true, ite_false, false_or, or_false, true_or, or_true, or_self, not_false_eq_true, not_true_eq_false, Option.bind_some, Nat.zero_add, Nat.add_zero, b2i_0]
    have e : orF (sOnB (M p)) (k + 1) = orF (sOnB (M p)) k ||| sOnB (M p) k := rfl
    rw [← ih, e]
    unfold sOnB sBit
    by_cases c : sOn (M p) k = true
    · simp [c]
    · simp [c]
theorem onBits_eq {p : Nat} {M : xMem} : g1_onBits p M = some (orF (sOnB (M p)) 6, M) := onBits_b (p := p) 6 0 5000 rfl (by omega)
