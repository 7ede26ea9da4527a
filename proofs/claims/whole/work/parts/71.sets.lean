/-! PURE: a set, by the class and by the reference -/
def rF (R : Nat → Int32) (m : Nat) (str : Bool) (k : Nat) : Int32 :=
  if (232 ≤ k ∧ k < 241) ∧ m.testBit (k - 232) = true then 1 else if str = true ∧ 265 ≤ k ∧ k < 268 then (if m.testBit (k - 256) = true then 1 else 0) else R k
theorem rF_n {R : Nat → Int32} {m k : Nat} {str : Bool} (h : k < 232 ∨ (241 ≤ k ∧ k < 265) ∨ 268 ≤ k) : rF R m str k = R k := by
  unfold rF
  rw [if_neg (by omega), if_neg (by omega)]
theorem rF_ok {R : Nat → Int32} (ok : RowOk R) {m : Nat} {str : Bool} : RowOk (rF R m str) := by
  intro k b hb
  unfold rF
  by_cases c1 : (232 ≤ k ∧ k < 241) ∧ m.testBit (k - 232) = true
  · rw [if_pos c1]
    have := bd_paid (k - 232) (by omega)
    rw [show 232 + (k - 232) = k by omega, hb] at this
    injection this with this
    exact ⟨1, by omega, rfl⟩
  rw [if_neg c1]
  by_cases c2 : str = true ∧ 265 ≤ k ∧ k < 268
  · rw [if_pos c2]
    have := bd_str (k - 256) (by omega) (by omega)
    rw [show 256 + (k - 256) = k by omega, hb] at this
    injection this with this
    split
    · exact ⟨1, by omega, rfl⟩
    · exact ⟨0, by omega, rfl⟩
  · rw [if_neg c2]
    exact ok k b hb
theorem rF_inn {R : Nat → Int32} {m l : Nat} {str : Bool} (hl : l < 9) (th : R (196 + l) ≠ 0) : sLit (rF R m str) l = (m.testBit l || sLit R l) := by
  unfold sLit
  rw [if_neg (show ¬ 12 ≤ l by omega), if_neg (show ¬ 12 ≤ l by omega), if_neg (show ¬ 9 ≤ l by omega), if_neg (show ¬ 9 ≤ l by omega), rF_n (by omega), rF_n (show 244 + l < 232 ∨ (241 ≤ 244 + l ∧ 244 + l < 265) ∨ 268 ≤ 244 + l by omega), decide_eq_true th, Bool.true_and, Bool.true_and]
  unfold rF
  rw [show 232 + l - 232 = l by omega]
  by_cases c : m.testBit l = true
  · rw [if_pos ⟨by omega, c⟩, c, decide_eq_true (by decide : (0 : Int32) < 1), Bool.true_or, Bool.true_or]
  · rw [if_neg (fun q => c q.2), if_neg (by omega)]
    cases q : m.testBit l
    · rw [Bool.false_or]
    · exact absurd q c
theorem rF_str {R : Nat → Int32} {m l : Nat} (h9 : 9 ≤ l) (hl : l < 12) : sLit (rF R m true) l = (decide (R (196 + l) ≠ 0) && m.testBit l) := by
  unfold sLit
  rw [if_neg (by omega), if_pos h9, rF_n (by omega)]
  unfold rF
  rw [if_neg (by omega), if_pos ⟨rfl, by omega, by omega⟩, show 256 + l - 256 = l by omega]
  cases m.testBit l <;> rfl
theorem lit_n {R : Nat → Int32} {l : Nat} (hl : l < 12) (th : R (196 + l) = 0) : sLit R l = false := by
  unfold sLit
  rw [if_neg (by omega), th]
  rfl
theorem Chs.lt {R : Nat → Int32} {most : Nat} {n : Nat} {str : Bool} {ch : Nat → Nat} {N : xMem} (C : Chs (inCh R most str) 12 n ch N) : ∀ b, b < n → ch b < 12 := fun b hb => (C.2.2.1 b hb).2
theorem Chs.mon {R : Nat → Int32} {most : Nat} {n : Nat} {str : Bool} {ch : Nat → Nat} {N : xMem} (C : Chs (inCh R most str) 12 n ch N) : ∀ i j, i < j → j < n → ch i < ch j := C.2.2.2.1
theorem Chs.of {R : Nat → Int32} {most : Nat} {n : Nat} {str : Bool} {ch : Nat → Nat} {N : xMem} (C : Chs (inCh R most str) 12 n ch N) : ∀ b, b < n → R (196 + ch b) ≠ 0 ∧ (ch b < 9 → ¬ sLit R (ch b) = true) := fun b hb => by
  have h := (C.2.2.2.2 (ch b) (Chs.lt C b hb)).mp ⟨b, hb, rfl⟩
  unfold inCh at h
  by_cases c : ch b < 9
  · rw [if_pos c] at h
    have := unlit_split.mp h.1
    exact ⟨this.1, fun _ => this.2⟩
  · rw [if_neg c] at h
    exact ⟨h.2.2, fun q => absurd q c⟩
theorem spr_at {R : Nat → Int32} {most : Nat} {n : Nat} {str : Bool} {ch : Nat → Nat} {N : xMem} (C : Chs (inCh R most str) 12 n ch N) {s b : Nat} (hb : b < n) : (spr ch s n).testBit (ch b) = s.testBit b := by
  cases q : s.testBit b
  · cases r : (spr ch s n).testBit (ch b)
    · rfl
    · obtain ⟨i, hi, e, hs⟩ := (spr_bit n).mp r
      have : i = b := by
        rcases Nat.lt_trichotomy i b with x | x | x
        · have := Chs.mon C i b x hb; omega
        · exact x
        · have := Chs.mon C b i x hi; omega
      rw [this, q] at hs
      cases hs
  · exact (spr_bit n).mpr ⟨b, hb, rfl, q⟩
theorem set_lit {R : Nat → Int32} (ok : RowOk R) {most : Nat} {n : Nat} {str : Bool} {ch : Nat → Nat} {N : xMem} (C : Chs (inCh R most str) 12 n ch N) {s l : Nat} (hl : l < 12) : sLit (rF R (spr ch s n) str) l = sLit (rSet R ch s n) l := by
  obtain ⟨h1, h2⟩ := rSet_lit ok (s := s) hl n (Chs.lt C) (Chs.mon C) (Chs.of C)
  by_cases c : ∃ b, b < n ∧ ch b = l
  · obtain ⟨b, hb, e⟩ := c
    have hbit := spr_at C (s := s) hb
    have hof := Chs.of C b hb
    have hin := (C.2.2.2.2 l hl).mp ⟨b, hb, e⟩
    rw [h1 b hb e]
    rw [e] at hbit hof
    by_cases c9 : l < 9
    · rw [rF_inn c9 hof.1, hbit]
      cases q : sLit R l
      · rw [Bool.or_false]
      · exact absurd q (hof.2 c9)
    · unfold inCh at hin
      rw [if_neg c9] at hin
      rw [hin.2.1, rF_str (by omega) hl, decide_eq_true hof.1, Bool.true_and, hbit]
  · rw [h2 fun b hb e => c ⟨b, hb, e⟩]
    have hbit : (spr ch s n).testBit l = false := by
      cases r : (spr ch s n).testBit l
      · rfl
      · obtain ⟨i, hi, e, -⟩ := (spr_bit n).mp r
        exact absurd ⟨i, hi, e⟩ c
    by_cases th : R (196 + l) = 0
    · rw [lit_n hl th, lit_n hl (by rw [rF_n (by omega), th])]
    by_cases c9 : l < 9
    · rw [rF_inn c9 th, hbit, Bool.false_or]
    · cases str
      · exact sLit_off hl (rF_n (by omega)) (by unfold rF; rw [if_neg (by omega), if_neg (by simp)]) (rF_n (by omega)) (by unfold rF; rw [if_neg (by omega), if_neg (by simp)])
      · exfalso
        refine c ((C.2.2.2.2 l hl).mpr ?_)
        unfold inCh
        rw [if_neg c9]
        exact ⟨hl, rfl, th⟩
theorem rF_pat {R : Nat → Int32} {most : Nat} {n : Nat} {str : Bool} {ch : Nat → Nat} {N : xMem} (C : Chs (inCh R most str) 12 n ch N) {m s : Nat} : rF R m str = pat (rF R m str) (rSet R ch s n) := pat_of fun k hk => by
  rw [rF_n (by omega), rSet_n n fun b hb => ?_]
  have := Chs.lt C b hb
  omega
/-- what comes of a set, also of one that differs in what did not matter -/
theorem set_out {R : Nat → Int32} (ok : RowOk R) {most : Nat} {n : Nat} {str : Bool} {ch : Nat → Nat} {N : xMem} (C : Chs (inCh R most str) 12 n ch N) {V : Nat → (Nat → Int32) → Int32} (L : VB V) {u hrs s o : Nat} (eu : R 328 = nI u) (hu : u + hrs ≤ 8) {A : Nat → Prop} (hA : ∀ l, l < 12 → bitOf (sSeenR V hrs (rSet R ch s n)) l = true → A l) (hb : ∀ b, b < n → A (ch b) → o.testBit b = s.testBit b) :
    ∀ k, k < 232 ∨ 268 ≤ k → (sRun V hrs (rF R (spr ch o n) str) 0).1 k = (sRun V hrs (rSet R ch s n) 0).1 k := by
  have e := rF_pat C (m := spr ch o n) (s := s)
  have lit : LitEq A (rF R (spr ch o n) str) (rSet R ch s n) := fun l hl ha => by
    rw [← e, set_lit ok C hl]
    obtain ⟨h1, h2⟩ := rSet_lit ok (s := s) hl n (Chs.lt C) (Chs.mon C) (Chs.of C)
    obtain ⟨g1, g2⟩ := rSet_lit ok (s := o) hl n (Chs.lt C) (Chs.mon C) (Chs.of C)
    by_cases c : ∃ b, b < n ∧ ch b = l
    · obtain ⟨b, hb', e'⟩ := c
      rw [h1 b hb' e', g1 b hb' e']
      exact hb b hb' (by rw [e']; exact ha)
    · rw [h2 fun b hb' e' => c ⟨b, hb', e'⟩, g2 fun b hb' e' => c ⟨b, hb', e'⟩]
  have u2 : rSet R ch s n 328 = nI u := by
    rw [rSet_n n fun b hb' => ?_, eu]
    have := Chs.lt C b hb'
    omega
  have h := run_pat L (X := rF R (spr ch o n) str) (A := A) hrs u (rSet R ch s n) 0 hu u2 (rSet_ok ok n (Chs.lt C)) lit hA
  rw [← e] at h
  exact h.2
theorem pow_le : ∀ n, n ≤ 9 → 2 ^ n ≤ 512 := by decide
theorem shl_pow : ∀ n, n ≤ 9 → (1 : Int32) <<< (nI n &&& 31) = nI (2 ^ n) := by decide +kernel
theorem isSet_eq {n s : Nat} {N : xMem} (hn : n ≤ 9) (e : N 135 0 = nI n) (hs : s < 100000) : g5_isSet (nI s) N = some (b2i (s < 2 ^ n), N) := by
  have h := pow_le n hn
  unfold g5_isSet
  rw [e, shl_pow n hn]
  by_cases c : s < 2 ^ n
  · simp (disch := omega) only [↓reduceIte, i_lt0, i_ll, nle_f, i_le, b2i_t c]
  · rw [b2i_f c]
    simp (disch := omega) only [↓reduceIte, i_lt0, i_ll, i_le, nle_t (show 2 ^ n ≤ s by omega)]
    by_cases c2 : 512 ≤ s
    · rw [if_pos c2]
    · rw [if_neg c2]
theorem bitSet {s b : Nat} (hs : s < 2147483648) (hb : b < 31) : ((nI s >>> (nI b &&& 31)) &&& 1) = if s.testBit b = true then 1 else 0 := by
  rw [shr1 hb, bitOf_nI hs (by omega)]
/-- the class's row of a set -/
theorem lightSet_b {R : Nat → Int32} {most n s : Nat} {str : Bool} {ch : Nat → Nat} (hs : s < 512) {M : xMem} : ∀ (d b f : Nat) (N : xMem), b + d = n → d < f → Chs (inCh R most str) 12 n ch N → N 1 = rSet R ch s b → Off [1, 102] M N →
    ∃ K, g5_lightSet_b13 f (nI s) (nI b) N = some K ∧ K 1 = rSet R ch s n ∧ K 102 0 = 0 ∧ Off [1, 102] M K
  | 0, b, f + 1, N, hk, hf, C, h1, o => by
    obtain rfl : b = n := by omega
    unfold g5_lightSet_b13 g5_lightSet_b66
    rw [C.2.1, if_pos ((nI_leI (by have := C.1; omega) (by have := C.1; omega)).mpr (Nat.le_refl _))]
    simp only [mset_eq]
    exact ⟨_, rfl, by rw [up_b (by decide), h1], up_s, o.up' (by decide)⟩
  | d + 1, b, f + 1, N, hk, hf, C, h1, o => by
    have hn := C.1
    have hc := (C.2.2.1 b (by omega))
    unfold g5_lightSet_b13 g5_lightSet_b57
    rw [C.2.1, if_neg (fun q => by have := (nI_leI (by omega) (by omega)).mp q; omega), bitSet (by omega) (by omega)]
    simp (disch := omega) only [↓reduceIte, i_ll, nle_f, i_lt0, i_cl, or_self, nI_1, hc.1]
    have go : ∀ K, K 1 = rSet R ch s (b + 1) → Off [1] N K → ∃ K', g5_lightSet_b13 f (nI s) (nI (b + 1)) K = some K' ∧ K' 1 = rSet R ch s n ∧ K' 102 0 = 0 ∧ Off [1, 102] M K' := fun K r oK =>
      lightSet_b hs d (b + 1) f K (by omega) (by omega) (C.fr (oK 134 (by decide)) (oK 135 (by decide))) r (o.tr (oK.mono (by decide)))
    have hr : rSet R ch s (b + 1) = rLit (rSet R ch s b) (ch b) (s.testBit b) := rfl
    cases q : s.testBit b
    · rw [if_neg (by decide)]
      rw [q] at hr
      by_cases c9 : ch b < 9
      · rw [bs (light_inn0 c9)]
        refine go N ?_ Off.rf
        rw [hr, h1]
        unfold rLit
        rw [if_pos c9, if_neg (by decide)]
      · rw [bs (light_str (s := 0) (by omega) hc.2 (Or.inl rfl))]
        refine go _ ?_ (Off.up (by decide))
        rw [hr, up_row, h1]
        unfold rLit
        rw [if_neg c9, if_neg (by decide)]
    · rw [if_pos (by decide)]
      rw [q] at hr
      by_cases c9 : ch b < 9
      · rw [bs (light_inn c9)]
        refine go _ ?_ (Off.up (by decide))
        rw [hr, up_row, h1]
        unfold rLit
        rw [if_pos c9, if_pos rfl]
      · rw [bs (light_str (s := 1) (by omega) hc.2 (Or.inr rfl))]
        refine go _ ?_ (Off.up (by decide))
        rw [hr, up_row, h1]
        unfold rLit
        rw [if_neg c9, if_pos rfl]
theorem lightSet_eq {R : Nat → Int32} (ok : RowOk R) {most n s : Nat} {str : Bool} {ch : Nat → Nat} (hs : s < 512) {N : xMem} (C : Chs (inCh R most str) 12 n ch N) (h0 : N 0 = R) (z : Z10 N) :
    ∃ K, g5_lightSet (nI s) N = some K ∧ K 1 = rSet R ch s n ∧ K 102 0 = 0 ∧ Off [1, 102] N K ∧ Z10 K := by
  unfold g5_lightSet
  obtain ⟨K1, e1, r1, o1, z1⟩ := become1_0 h0 ok z
  rw [bs e1]
  obtain ⟨K, e, r, t, o⟩ := lightSet_b hs (M := K1) n 0 5000 K1 (by omega) (by have := C.1; omega) (C.fr (o1 134 (by decide)) (o1 135 (by decide))) r1 Off.rf
  exact ⟨K, e, r, t, (o1.mono (by decide)).tr o, z1.row o fun b hb h10 => by
    have : b = 1 := by revert b; decide
    subst this
    rw [r]
    exact rSet_ok ok n (Chs.lt C)⟩
/-- notes of a set -/
def notBit (asked : Int32) (ch : Nat → Nat) (s o n : Nat) : Prop := ∀ b, b < n → bitOf asked (ch b) = true → o.testBit b = s.testBit b
theorem note_lo {n : Nat} {ch : Nat → Nat} {P : Nat → Prop} {out : Int32} {s : Nat} {N : xMem} (C : Chs P 12 n ch N) : ∀ (d b f : Nat) (x : Int32), b + d = n → d < f → (∀ i, i < 32 → bitOf x i = (decide (i < b) && bitOf (N 102 0) (ch i))) →
    ∃ x', g5_note_b5 f (nI s) out x (nI b) N = g5_note_b56 5000 (nI s) out x' (nI s) N ∧ ∀ i, i < 32 → bitOf x' i = (decide (i < n) && bitOf (N 102 0) (ch i))
  | 0, b, f + 1, x, hk, hf, hx => by
    obtain rfl : b = n := by omega
    unfold g5_note_b5 g5_note_b53
    rw [C.2.1, if_pos ((nI_leI (by have := C.1; omega) (by have := C.1; omega)).mpr (Nat.le_refl _))]
    exact ⟨x, rfl, hx⟩
  | d + 1, b, f + 1, x, hk, hf, hx => by
    have hn := C.1
    have hc := (C.2.2.1 b (by omega))
    unfold g5_note_b5
    rw [C.2.1, if_neg (fun q => by have := (nI_leI (by omega) (by omega)).mp q; omega)]
    simp (disch := omega) only [↓reduceIte, i_ll, nle_f, i_lt0, i_cl, or_self, nI_1, hc.1]
    rw [shr1 (show ch b < 31 by omega)]
    refine note_lo C d (b + 1) f _ (by omega) (by omega) fun i hi => ?_
    rw [bitOf_or, hx i hi]
    by_cases q : bitOf (N 102 0) (ch b) = true
    · rw [if_pos q, bit_up b (by omega) i hi]
      by_cases c1 : b = i
      · subst c1
        simp [q]
      · by_cases c2 : i < b
        · simp [c1, c2, show i < b + 1 by omega]
        · simp [c1, c2, show ¬ i < b + 1 by omega]
    · rw [if_neg q, bit_up0 b (by omega), bitOf_0, Bool.or_false]
      by_cases c1 : b = i
      · subst c1
        have q' : bitOf (N 102 0) (ch b) = false := by
          cases r : bitOf (N 102 0) (ch b)
          · rfl
          · exact absurd r q
        rw [q', Bool.and_false, Bool.and_false]
      · by_cases c2 : i < b
        · simp [c2, show i < b + 1 by omega]
        · simp [c2, show ¬ i < b + 1 by omega]
theorem note_hi {n : Nat} (hn : n ≤ 9) {x out : Int32} {s : Nat} (hs : s < 512) {Q : Nat → Prop} (hQ : ∀ o, o < 2 ^ n → (((nI o ^^^ nI s) &&& x) = 0 ↔ Q o)) {M : xMem} : ∀ (d o f : Nat) (N : xMem), o + d = 2 ^ n → d < f → N 135 0 = nI n → Off [136] M N →
    ∃ K, g5_note_b56 f (nI s) out x (nI o) N = some K ∧ (∀ i, i < 2 ^ n → (o ≤ i ∧ Q i → K 136 i = out) ∧ (¬ (o ≤ i ∧ Q i) → K 136 i = N 136 i)) ∧ (∀ i, 2 ^ n ≤ i → K 136 i = N 136 i) ∧ Off [136] M K
  | 0, o, f + 1, N, hk, hf, e, oo => by
    have h := pow_le n hn
    obtain rfl : o = 2 ^ n := by omega
    refine ⟨N, ?_, fun i hi => ⟨fun q => absurd q.1 (by omega), fun _ => rfl⟩, fun _ _ => rfl, oo⟩
    unfold g5_note_b56
    by_cases c : 512 ≤ 2 ^ n
    · rw [if_pos (show (512 : Int32) ≤ nI (2 ^ n) from (nI_leI (a := 512) (by omega) (by omega)).mpr c)]
    · rw [if_neg (show ¬ (512 : Int32) ≤ nI (2 ^ n) from fun q => c ((nI_leI (a := 512) (by omega) (by omega)).mp q)), bs (isSet_eq hn e (by omega)), b2i_f (by omega), if_pos rfl]
  | d + 1, o, f + 1, N, hk, hf, e, oo => by
    have h := pow_le n hn
    unfold g5_note_b56 g5_note_b90
    simp (disch := omega) only [↓reduceIte, i_ll, nle_f]
    rw [bs (isSet_eq hn e (by omega)), b2i_t (show o < 2 ^ n by omega), if_neg (show ¬ (1 : Int32) = 0 by decide)]
    simp (disch := omega) only [↓reduceIte, i_lt0, i_cl, nle_f, or_self, mset_eq, nI_1]
    by_cases c : ((nI o ^^^ nI s) &&& x) = 0
    · rw [if_pos c]
      have hq := (hQ o (by omega)).mp c
      obtain ⟨K, e1, k1, k2, oK⟩ := note_hi hn hs hQ (x := x) (out := out) (M := M) d (o + 1) f (upM N 136 o out) (by omega) (by omega) (by rw [up_b (by decide), e]) (oo.up' (by decide))
      refine ⟨K, e1, fun i hi => ?_, fun i hi => ?_, oK⟩
      · have k := k1 i hi
        by_cases ci : i = o
        · subst ci
          refine ⟨fun _ => ?_, fun q => absurd ⟨Nat.le_refl _, hq⟩ q⟩
          rw [k.2 (by omega), up_s]
        · refine ⟨fun q => k.1 ⟨by omega, q.2⟩, fun q => ?_⟩
          rw [k.2 (fun r => q ⟨by omega, r.2⟩), up_i ci]
      · rw [k2 i hi, up_i (by omega)]
    · rw [if_neg c]
      have hq : ¬ Q o := fun q => c ((hQ o (by omega)).mpr q)
      obtain ⟨K, e1, k1, k2, oK⟩ := note_hi hn hs hQ (x := x) (out := out) (M := M) d (o + 1) f N (by omega) (by omega) e oo
      refine ⟨K, e1, fun i hi => ?_, k2, oK⟩
      have k := k1 i hi
      by_cases ci : i = o
      · subst ci
        exact ⟨fun q => absurd q.2 hq, fun _ => k.2 (by omega)⟩
      · exact ⟨fun q => k.1 ⟨by omega, q.2⟩, fun q => k.2 (fun r => q ⟨by omega, r.2⟩)⟩
theorem note_eq {n : Nat} {ch : Nat → Nat} {P : Nat → Prop} {out : Int32} {s : Nat} {N : xMem} (C : Chs P 12 n ch N) (hs : s < 2 ^ n) :
    ∃ K, g5_note (nI s) out N = some K ∧ (∀ i, i < 2 ^ n → (s ≤ i ∧ notBit (N 102 0) ch s i n → K 136 i = out) ∧ (¬ (s ≤ i ∧ notBit (N 102 0) ch s i n) → K 136 i = N 136 i)) ∧ (∀ i, 2 ^ n ≤ i → K 136 i = N 136 i) ∧ Off [136] N K := by
  have hn := C.1
  have h := pow_le n hn
  unfold g5_note
  obtain ⟨x, e, hx⟩ := note_lo (out := out) (s := s) C n 0 5000 0 (by omega) (by omega) (fun i hi => by rw [bitOf_0, decide_eq_false (by omega), Bool.false_and])
  have e' : g5_note_b5 5000 (nI s) out 0 0 N = _ := e
  rw [e']
  refine note_hi hn (by omega) (Q := fun o => notBit (N 102 0) ch s o n) (fun o ho => ?_) (2 ^ n - s) s 5000 N (by omega) (by omega) C.2.1 Off.rf
  constructor
  · intro q b hb hk
    have t : bitOf ((nI o ^^^ nI s) &&& x) b = false := by rw [q]; exact bitOf_0
    rw [bitOf_and, bitOf_xor, hx b (by omega), decide_eq_true hb, hk, bitOf_nI (by omega) (by omega), bitOf_nI (by omega) (by omega)] at t
    cases a1 : o.testBit b <;> cases a2 : s.testBit b <;> rw [a1, a2] at t <;> first | rfl | cases t
  · intro q
    refine bit_ext fun i hi => ?_
    rw [bitOf_and, bitOf_xor, hx i hi, bitOf_nI (by omega) hi, bitOf_nI (by omega) hi, bitOf_0]
    by_cases c : i < n
    · by_cases c2 : bitOf (N 102 0) (ch i) = true
      · rw [q i c c2]
        cases s.testBit i <;> rfl
      · have c2' : bitOf (N 102 0) (ch i) = false := by
          cases r : bitOf (N 102 0) (ch i)
          · rfl
          · exact absurd r c2
        rw [c2', Bool.and_false, Bool.and_false]
    · rw [decide_eq_false c, Bool.false_and, Bool.and_false]
