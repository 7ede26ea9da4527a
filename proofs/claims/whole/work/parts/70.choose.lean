/-! PURE: the choices -/
def sUnlit (R : Nat → Int32) (l : Nat) : Bool := decide (R (196 + l) ≠ 0) && !sLit R l
def uN (R : Nat → Int32) : Nat → Nat
  | 0 => 0
  | k + 1 => uN R k + (if sUnlit R k = true then 1 else 0)
theorem uN_le {R : Nat → Int32} : ∀ k, uN R k ≤ k
  | 0 => Nat.le_refl _
  | k + 1 => by
    have := uN_le (R := R) k
    unfold uN
    split <;> omega
/-- the lamps among the first k that are chosen: so many first inns, and strays if asked -/
def inCh (R : Nat → Int32) (most : Nat) (str : Bool) (l : Nat) : Prop := if l < 9 then sUnlit R l = true ∧ uN R l < most else l < 12 ∧ str = true ∧ R (196 + l) ≠ 0
/-- n choices, in their order, of the lamps below k that hold P -/
def Chs (P : Nat → Prop) (k n : Nat) (ch : Nat → Nat) (N : xMem) : Prop :=
  n ≤ 9 ∧ N 135 0 = nI n ∧ (∀ b, b < n → N 134 b = nI (ch b) ∧ ch b < k) ∧ (∀ i j, i < j → j < n → ch i < ch j) ∧ ∀ l, l < k → ((∃ b, b < n ∧ ch b = l) ↔ P l)
theorem Chs.fr {P : Nat → Prop} {k n : Nat} {ch : Nat → Nat} {N K : xMem} (h : Chs P k n ch N) (h1 : K 134 = N 134) (h2 : K 135 = N 135) : Chs P k n ch K := by
  unfold Chs
  rw [h1, h2]
  exact h
theorem Chs.skip {P : Nat → Prop} {k n : Nat} {ch : Nat → Nat} {N : xMem} (h : Chs P k n ch N) (hp : ¬ P k) : Chs P (k + 1) n ch N := by
  obtain ⟨h1, h2, h3, h4, h5⟩ := h
  refine ⟨h1, h2, fun b hb => ⟨(h3 b hb).1, by have := (h3 b hb).2; omega⟩, h4, fun l hl => ?_⟩
  by_cases c : l < k
  · exact h5 l c
  · obtain rfl : l = k := by omega
    refine ⟨fun ⟨b, hb, e⟩ => ?_, fun q => absurd q hp⟩
    have := (h3 b hb).2
    omega
theorem Chs.take {P : Nat → Prop} {k n : Nat} {ch : Nat → Nat} {N K : xMem} (h : Chs P k n ch N) (hp : P k) (hn : n < 9) (e1 : K 135 0 = nI (n + 1)) (e2 : K 134 n = nI k) (e3 : ∀ b, b < n → K 134 b = N 134 b) :
    Chs P (k + 1) (n + 1) (fun b => if b = n then k else ch b) K := by
  obtain ⟨h1, h2, h3, h4, h5⟩ := h
  refine ⟨by omega, e1, fun b hb => ?_, fun i j hij hj => ?_, fun l hl => ?_⟩
  · dsimp only
    by_cases c : b = n
    · subst c
      rw [if_pos rfl]
      exact ⟨e2, by omega⟩
    · rw [if_neg c, e3 b (by omega)]
      have := h3 b (by omega)
      exact ⟨this.1, by omega⟩
  · dsimp only
    rw [if_neg (show i ≠ n by omega)]
    by_cases c : j = n
    · rw [if_pos c]
      exact (h3 i (by omega)).2
    · rw [if_neg c]
      exact h4 i j hij (by omega)
  · by_cases c : l < k
    · rw [← h5 l c]
      constructor
      · rintro ⟨b, hb, e⟩
        dsimp only at e
        by_cases q : b = n
        · rw [if_pos q] at e; omega
        · rw [if_neg q] at e
          exact ⟨b, by omega, e⟩
      · rintro ⟨b, hb, e⟩
        exact ⟨b, by omega, by dsimp only; rw [if_neg (show b ≠ n by omega)]; exact e⟩
    · obtain rfl : l = k := by omega
      exact ⟨fun _ => hp, fun _ => ⟨n, by omega, if_pos rfl⟩⟩
theorem unlit_split {R : Nat → Int32} {l : Nat} : sUnlit R l = true ↔ R (196 + l) ≠ 0 ∧ ¬ sLit R l = true := by
  unfold sUnlit
  simp
theorem lampLit_in {l : Nat} {N : xMem} (ok : RowOk (N 0)) (hl : l < 12) : g2_isLit 0 (nI l) N = some (b2i (sLit (N 0) l = true), N) := lamp_lit ok hl
theorem chooseInns_b {R : Nat → Int32} (ok : RowOk R) {most : Nat} (hm : most ≤ 9) {str : Bool} {M : xMem} : ∀ (d k f n : Nat) (ch : Nat → Nat) (N : xMem), k + d = 9 → d < f → N 0 = R → Chs (inCh R most str) k n ch N → n = min (uN R k) most → Off [134, 135] M N →
    ∃ n ch K, g5_chooseInns_b2 f (nI most) (nI k) N = some K ∧ Chs (inCh R most str) 9 n ch K ∧ n ≤ most ∧ Off [134, 135] M K
  | 0, k, f + 1, n, ch, N, hk, hf, h0, C, hn, o => by
    obtain rfl : k = 9 := by omega
    unfold g5_chooseInns_b2
    rw [if_pos (by decide)]
    exact ⟨n, ch, N, rfl, C, by omega, o⟩
  | d + 1, k, f + 1, n, ch, N, hk, hf, h0, C, hn, o => by
    unfold g5_chooseInns_b2 g5_chooseInns_b76
    have okN : RowOk (N 0) := by rw [h0]; exact ok
    simp (disch := omega) only [↓reduceIte, i_ll, nle_f, nI_1]
    rw [C.2.1]
    by_cases c1 : most ≤ n
    · rw [if_pos ((nI_leI (by omega) (by omega)).mpr c1)]
      -- no inn beyond is chosen
      have mono : ∀ j i, uN R i ≤ uN R (i + j) := fun j => by
        induction j with
        | zero => intro i; exact Nat.le_refl _
        | succ j ih =>
          intro i
          have := ih i
          show uN R i ≤ uN R (i + j) + _
          omega
      have up : ∀ e, k + e ≤ 9 → Chs (inCh R most str) (k + e) n ch N := fun e => by
        induction e with
        | zero => intro _; exact C
        | succ e ih =>
          intro he
          refine (ih (by omega)).skip ?_
          unfold inCh
          rw [if_pos (by omega)]
          rintro ⟨-, q⟩
          have := mono e k
          omega
      have := up (9 - k) (by omega)
      rw [show k + (9 - k) = 9 by omega] at this
      exact ⟨n, ch, N, rfl, this, by omega, o⟩
    rw [if_neg (fun q => c1 ((nI_leI (by omega) (by omega)).mp q)), bs (stands_in (by omega))]
    simp only [b2i_0, h0]
    have hu : uN R k < most := by omega
    by_cases c2 : R (196 + k) = 0
    · rw [if_pos (fun q => q c2)]
      have nu : ¬ sUnlit R k = true := fun q => (unlit_split.mp q).1 c2
      exact chooseInns_b ok hm d (k + 1) f n ch N (by omega) (by omega) h0 (C.skip (by unfold inCh; rw [if_pos (by omega)]; exact fun q => nu q.1)) (by unfold uN; rw [if_neg nu]; exact hn) o
    rw [if_neg (fun q => q c2), bs (lampLit_in okN (by omega))]
    simp only [b2i_0, h0]
    by_cases c3 : sLit R k = true
    · rw [if_neg (fun q => q c3)]
      have nu : ¬ sUnlit R k = true := fun q => (unlit_split.mp q).2 c3
      exact chooseInns_b ok hm d (k + 1) f n ch N (by omega) (by omega) h0 (C.skip (by unfold inCh; rw [if_pos (by omega)]; exact fun q => nu q.1)) (by unfold uN; rw [if_neg nu]; exact hn) o
    rw [if_pos c3, C.2.1]
    have yu : sUnlit R k = true := unlit_split.mpr ⟨c2, c3⟩
    have h9 : n < 9 := by omega
    simp (disch := omega) only [↓reduceIte, i_ll, nle_f, i_lt0, i_cl, or_self, mset_eq, nI_1, up_b (show (135 : Nat) ≠ 134 by decide), C.2.1]
    refine chooseInns_b ok hm d (k + 1) f (n + 1) _ _ (by omega) (by omega) (by rw [up_b (by decide), up_b (by decide), h0]) (C.take (by unfold inCh; rw [if_pos (by omega)]; exact ⟨yu, hu⟩) h9 up_s ?_ ?_) (by unfold uN; rw [if_pos yu]; omega) ((o.up' (by decide)).up' (by decide))
    · rw [up_b (by decide), up_s]
    · intro b hb
      rw [up_b (by decide), up_i (by omega)]
theorem chooseStr_b {R : Nat → Int32} (ok : RowOk R) {most : Nat} (hm : most ≤ 6) {M : xMem} : ∀ (d k f n : Nat) (ch : Nat → Nat) (N : xMem), k + d = 12 → d < 4 → d < f → N 0 = R → Chs (inCh R most true) k n ch N → n + 9 ≤ most + k → Off [134, 135] M N →
    ∃ n ch K, g5_chooseStrays_b3 f (nI k) N = some K ∧ Chs (inCh R most true) 12 n ch K ∧ Off [134, 135] M K
  | 0, k, f + 1, n, ch, N, hk, h4, hf, h0, C, hn, o => by
    obtain rfl : k = 12 := by omega
    unfold g5_chooseStrays_b3
    rw [if_pos (by decide)]
    exact ⟨n, ch, N, rfl, C, o⟩
  | d + 1, k, f + 1, n, ch, N, hk, h4, hf, h0, C, hn, o => by
    unfold g5_chooseStrays_b3 g5_chooseStrays_b55
    simp (disch := omega) only [↓reduceIte, i_ll, nle_f, nI_1]
    rw [bs (stands_in (by omega))]
    simp only [b2i_0, h0]
    by_cases c2 : R (196 + k) = 0
    · rw [if_pos (fun q => q c2)]
      exact chooseStr_b ok hm d (k + 1) f n ch N (by omega) (by omega) (by omega) h0 (C.skip (by unfold inCh; rw [if_neg (by omega)]; exact fun q => q.2.2 c2)) (by omega) o
    rw [if_neg (fun q => q c2), C.2.1]
    have h9 : n < 9 := by omega
    simp (disch := omega) only [↓reduceIte, i_ll, nle_f, i_lt0, i_cl, or_self, mset_eq, nI_1, up_b (show (135 : Nat) ≠ 134 by decide), C.2.1]
    refine chooseStr_b ok hm d (k + 1) f (n + 1) _ _ (by omega) (by omega) (by omega) (by rw [up_b (by decide), up_b (by decide), h0]) (C.take (by unfold inCh; rw [if_neg (by omega)]; exact ⟨by omega, rfl, c2⟩) h9 up_s ?_ ?_) (by omega) ((o.up' (by decide)).up' (by decide))
    · rw [up_b (by decide), up_s]
    · intro b hb
      rw [up_b (by decide), up_i (by omega)]
theorem chs_0 {P : Nat → Prop} {N : xMem} (h : N 135 0 = 0) : Chs P 0 0 (fun _ => 0) N :=
  ⟨by omega, h, fun b hb => absurd hb (by omega), fun i j _ hj => absurd hj (by omega), fun l hl => absurd hl (by omega)⟩
theorem Chs.nine {R : Nat → Int32} {most n : Nat} {ch : Nat → Nat} {N : xMem} (h : Chs (inCh R most false) 9 n ch N) : Chs (inCh R most false) 12 n ch N := by
  have h2 := ((h.skip (by unfold inCh; rw [if_neg (by omega)]; simp)).skip (by unfold inCh; rw [if_neg (by omega)]; simp)).skip (by unfold inCh; rw [if_neg (by omega)]; simp)
  exact h2
/-- the rows of sets -/
def rLit (R : Nat → Int32) (c : Nat) (t : Bool) : Nat → Int32 := if c < 9 then (if t = true then upd R (244 + c) (xMax (R (244 + c)) 1) else R) else upd R (256 + c) (if t = true then 1 else 0)
def rSet (R : Nat → Int32) (ch : Nat → Nat) (s : Nat) : Nat → Nat → Int32
  | 0 => R
  | b + 1 => rLit (rSet R ch s b) (ch b) (s.testBit b)
theorem rLit_ok {R : Nat → Int32} (ok : RowOk R) {c : Nat} (hc : c < 12) {t : Bool} : RowOk (rLit R c t) := by
  unfold rLit
  split
  · split
    · obtain ⟨j, -, hj, e⟩ := max1 (ok.dog hc)
      rw [e]
      exact ok.upd (ok_le (bd_dog c (by omega)) hj)
    · exact ok
  · split
    · exact ok.upd (ok_le (v := 1) (bd_str c hc (by omega)) (by omega))
    · exact ok.upd (ok_le (v := 0) (bd_str c hc (by omega)) (by omega))
theorem rLit_n {R : Nat → Int32} {c k : Nat} {t : Bool} (hk : k ≠ 244 + c ∧ k ≠ 256 + c) : rLit R c t k = R k := by
  unfold rLit
  split
  · split
    · exact ud_n hk.1
    · rfl
  · exact ud_n hk.2
theorem rSet_ok {R : Nat → Int32} (ok : RowOk R) {ch : Nat → Nat} {s : Nat} : ∀ n, (∀ b, b < n → ch b < 12) → RowOk (rSet R ch s n)
  | 0, _ => ok
  | n + 1, h => rLit_ok (rSet_ok ok n fun b hb => h b (by omega)) (h n (by omega))
theorem rSet_n {R : Nat → Int32} {ch : Nat → Nat} {s k : Nat} : ∀ n, (∀ b, b < n → k ≠ 244 + ch b ∧ k ≠ 256 + ch b) → rSet R ch s n k = R k
  | 0, _ => rfl
  | n + 1, h => by
    unfold rSet
    rw [rLit_n (h n (by omega)), rSet_n n fun b hb => h b (by omega)]
theorem rLit_lit {R : Nat → Int32} (ok : RowOk R) {c : Nat} (hc : c < 12) {t : Bool} (th : R (196 + c) ≠ 0) (un : c < 9 → ¬ sLit R c = true) : sLit (rLit R c t) c = t := by
  unfold sLit
  rw [if_neg (by omega), rLit_n (by omega), decide_eq_true th, Bool.true_and]
  by_cases h9 : 9 ≤ c
  · rw [if_pos h9]
    unfold rLit
    rw [if_neg (by omega), ud_s]
    cases t <;> decide
  · rw [if_neg h9]
    obtain ⟨j, hj, hj2, ej⟩ := max1 (ok.dog hc)
    unfold rLit
    rw [if_pos (by omega)]
    have un' := un (by omega)
    unfold sLit at un'
    rw [if_neg (by omega), if_neg h9, decide_eq_true th, Bool.true_and] at un'
    cases t
    · rw [if_neg (by decide)]
      cases q : (decide (0 < R (232 + c)) || decide (0 < R (244 + c)))
      · rfl
      · exact absurd q un'
    · rw [if_pos rfl, ud_s, ej, decide_eq_true (pos_1 hj (by omega)), Bool.or_true]
theorem rLit_other {R : Nat → Int32} {c l : Nat} {t : Bool} (hl : l < 12) (h : l ≠ c) (hc : c < 12) : sLit (rLit R c t) l = sLit R l :=
  sLit_off hl (rLit_n (by omega)) (rLit_n (by omega)) (rLit_n (by omega)) (rLit_n (by omega))
/-- which lamps are lit by a set -/
theorem rSet_lit {R : Nat → Int32} (ok : RowOk R) {ch : Nat → Nat} {s l : Nat} (hl : l < 12) : ∀ n, (∀ b, b < n → ch b < 12) → (∀ i j, i < j → j < n → ch i < ch j) → (∀ b, b < n → R (196 + ch b) ≠ 0 ∧ (ch b < 9 → ¬ sLit R (ch b) = true)) →
    (∀ b, b < n → ch b = l → sLit (rSet R ch s n) l = s.testBit b) ∧ ((∀ b, b < n → ch b ≠ l) → sLit (rSet R ch s n) l = sLit R l)
  | 0, _, _, _ => ⟨fun b hb => absurd hb (by omega), fun _ => rfl⟩
  | n + 1, h1, h2, h3 => by
    obtain ⟨i1, i2⟩ := rSet_lit ok hl n (fun b hb => h1 b (by omega)) (fun i j a b => h2 i j a (by omega)) (fun b hb => h3 b (by omega))
    unfold rSet
    by_cases c : ch n = l
    · refine ⟨fun b hb e => ?_, fun q => absurd c (q n (by omega))⟩
      have hbn : b = n := by
        rcases Nat.lt_or_ge b n with q | q
        · have := h2 b n q (by omega)
          omega
        · omega
      subst hbn
      subst c
      have no : ∀ b', b' < b → ch b' ≠ ch b := fun b' q e => by have := h2 b' b q (by omega); omega
      refine rLit_lit (rSet_ok ok b fun b' q => h1 b' (by omega)) hl ?_ ?_
      · rw [rSet_n b fun b' q => ?_]
        · exact (h3 b (by omega)).1
        · have := h1 b' (by omega)
          omega
      · intro q
        rw [i2 no]
        exact (h3 b (by omega)).2 q
    · have e := rLit_other (R := rSet R ch s n) (t := s.testBit n) hl (fun q => c q.symm) (h1 n (by omega))
      refine ⟨fun b hb q => ?_, fun q => ?_⟩
      · rw [e]
        refine i1 b ?_ q
        rcases Nat.lt_or_ge b n with r | r
        · exact r
        · have : b = n := by omega
          exact absurd (this ▸ q) c
      · rw [e]
        exact i2 fun b hb => q b (by omega)
