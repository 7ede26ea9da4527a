/-! PURE: sets as bits -/
theorem bitOf_and {x y : Int32} {l : Nat} : bitOf (x &&& y) l = (bitOf x l && bitOf y l) := by
  unfold bitOf
  rw [Int32.toBitVec_and, BitVec.getLsbD_and]
theorem bitOf_xor {x y : Int32} {l : Nat} : bitOf (x ^^^ y) l = (bitOf x l != bitOf y l) := by
  unfold bitOf
  rw [Int32.toBitVec_xor, BitVec.getLsbD_xor]
theorem bitOf_m1 : ∀ l, l < 32 → bitOf (-1) l = true := by decide +kernel
theorem bitOf_0 {l : Nat} : bitOf 0 l = false := by
  unfold bitOf
  rw [Int32.toBitVec_zero, BitVec.getLsbD_zero]
theorem bit_ext {x y : Int32} (h : ∀ l, l < 32 → bitOf x l = bitOf y l) : x = y := by
  apply Int32.toBitVec_inj.mp
  apply BitVec.eq_of_getLsbD_eq
  intro i hi
  exact h i hi
theorem bitOf_hi {x : Int32} {l : Nat} (h : 32 ≤ l) : bitOf x l = false := by
  unfold bitOf
  exact BitVec.getLsbD_of_ge _ _ h
theorem bitOf_nI {n : Nat} (hn : n < 2147483648) {l : Nat} (hl : l < 32) : bitOf (nI n) l = n.testBit l := by
  unfold bitOf
  have e : (nI n).toBitVec = BitVec.ofNat 32 n := rfl
  rw [e, BitVec.getLsbD_ofNat, decide_eq_true hl, Bool.true_and]
theorem bit1 (b : Bool) : (if b = true then (1 : Int32) else 0).toBitVec.toNat % 2 = b.toNat := by cases b <;> decide
theorem shr1 {x : Int32} {k : Nat} (hk : k < 31) : (x >>> (nI k &&& 31)) &&& 1 = if bitOf x k = true then 1 else 0 := by
  have e1 : (nI k &&& 31) = nI k := by
    have : ∀ k, k < 31 → nI k &&& 31 = nI k := by decide +kernel
    exact this k hk
  have e2 : ((nI k).toBitVec.smod 32).toNat = k := by
    have : ∀ k, k < 31 → ((nI k).toBitVec.smod 32).toNat = k := by decide +kernel
    exact this k hk
  have h := pk_shr x (nI k) k e2
  rw [toInt_nat, toInt_nat, Int.shiftRight_eq_div_pow] at h
  have h1 : (x >>> nI k).toBitVec.toNat < 4294967296 := (x >>> nI k).toBitVec.isLt
  have h2 : x.toBitVec.toNat < 4294967296 := x.toBitVec.isLt
  rw [e1]
  have e3 : (x >>> nI k) &&& 1 = nI ((x >>> nI k).toBitVec.toNat % 2 ^ 1) := pk_and (m := 1) _ 1 (by decide)
  have e4 : bitOf x k = decide (x.toBitVec.toNat / 2 ^ k % 2 = 1) := by
    unfold bitOf
    show x.toBitVec.toNat.testBit k = _
    rw [Nat.testBit_eq_decide_div_mod_eq]
  have e5 : (x >>> nI k).toBitVec.toNat % 2 = x.toBitVec.toNat / 2 ^ k % 2 := by
    have h3 := Int.shiftRight_eq_div_pow
    rcases (show k = 0 ∨ k = 1 ∨ k = 2 ∨ k = 3 ∨ k = 4 ∨ k = 5 ∨ k = 6 ∨ k = 7 ∨ k = 8 ∨ k = 9 ∨ k = 10 ∨ k = 11 ∨ k = 12 ∨ k = 13 ∨ k = 14 ∨ k = 15 ∨ k = 16 ∨ k = 17 ∨ k = 18 ∨ k = 19 ∨ k = 20 ∨ k = 21 ∨ k = 22 ∨ k = 23 ∨ k = 24 ∨ k = 25 ∨ k = 26 ∨ k = 27 ∨ k = 28 ∨ k = 29 ∨ k = 30 by omega) with rfl | rfl | rfl | rfl | rfl | rfl | rfl | rfl | rfl | rfl | rfl | rfl | rfl | rfl | rfl | rfl | rfl | rfl | rfl | rfl | rfl | rfl | rfl | rfl | rfl | rfl | rfl | rfl | rfl | rfl | rfl <;>
    · simp only [Nat.reducePow, Int.reducePow] at h ⊢
      split at h <;> split at h <;> omega
  rw [e3, Nat.pow_one, e5, e4]
  by_cases c : x.toBitVec.toNat / 2 ^ k % 2 = 1
  · rw [c, if_pos (by simp)]; rfl
  · rw [show x.toBitVec.toNat / 2 ^ k % 2 = 0 by omega, if_neg (by simp)]; rfl
theorem has9_bit {x : Int32} {k : Nat} (hk : k < 31) {M : xMem} : g9_has x (nI k) M = some (b2i (bitOf x k = true), M) := by
  rw [has9_eq, shr1 hk]
  by_cases c : bitOf x k = true
  · rw [if_pos c, b2i_t c, b2i_t rfl]
  · rw [if_neg c, b2i_f c, b2i_f (by decide)]
/-- a set within a set -/
theorem sub9 {m : Nat} (hm : m < 2147483648) {x : Int32} : ((nI m &&& (x ^^^ (-1 : Int32))) = 0) = ∀ l, l < 32 → m.testBit l = true → bitOf x l = true := by
  refine propext ⟨fun h l hl c => ?_, fun h => bit_ext fun l hl => ?_⟩
  · have e : bitOf (nI m &&& (x ^^^ (-1 : Int32))) l = false := by rw [h]; exact bitOf_0
    rw [bitOf_and, bitOf_xor, bitOf_m1 l hl, bitOf_nI hm hl, c] at e
    cases q : bitOf x l
    · rw [q] at e; cases e
    · rfl
  · rw [bitOf_and, bitOf_xor, bitOf_m1 l hl, bitOf_nI hm hl, bitOf_0]
    cases q : m.testBit l
    · rfl
    · rw [h l hl q]; rfl
theorem bit_up : ∀ k, k < 18 → ∀ l, l < 32 → bitOf ((1 : Int32) <<< (nI k &&& 31)) l = decide (k = l) := by decide +kernel
theorem bit_up0 : ∀ k, k < 18 → (0 : Int32) <<< (nI k &&& 31) = 0 := by decide +kernel
/-- loops over numbers -/
def loopN {σ : Type} (f : Nat → σ → σ) : Nat → Nat → σ → σ
  | 0, _, s => s
  | d + 1, k, s => loopN f d (k + 1) (f k s)
theorem loopN_cat {σ : Type} {f : Nat → σ → σ} : ∀ (a b k : Nat) (s : σ), loopN f (a + b) k s = loopN f b (k + a) (loopN f a k s)
  | 0, b, k, s => by rw [Nat.zero_add, loopN]; rfl
  | a + 1, b, k, s => by
    rw [show a + 1 + b = (a + b) + 1 by omega, loopN, loopN_cat a b (k + 1), loopN, show k + 1 + a = k + (a + 1) by omega]
theorem loopN_congr {σ : Type} {f g : Nat → σ → σ} : ∀ (d k : Nat) (s : σ), (∀ i, k ≤ i → i < k + d → ∀ s, f i s = g i s) → loopN f d k s = loopN g d k s
  | 0, _, _, _ => rfl
  | d + 1, k, s, h => by
    unfold loopN
    rw [h k (by omega) (by omega), loopN_congr d (k + 1) _ fun i a b => h i (by omega) (by omega)]
theorem loopN_shift {σ : Type} {f : Nat → σ → σ} {c : Nat} : ∀ (d k : Nat) (s : σ), loopN f d (k + c) s = loopN (fun i => f (i + c)) d k s
  | 0, _, _ => rfl
  | d + 1, k, s => by
    unfold loopN
    rw [show k + c + 1 = (k + 1) + c by omega, loopN_shift d (k + 1)]
theorem loopN_id {σ : Type} {f : Nat → σ → σ} : ∀ (d k : Nat) (s : σ), (∀ i, k ≤ i → i < k + d → ∀ s, f i s = s) → loopN f d k s = s
  | 0, _, _, _ => rfl
  | d + 1, k, s, h => by
    unfold loopN
    rw [h k (by omega) (by omega), loopN_id d (k + 1) _ fun i a b => h i (by omega) (by omega)]
/-- the lamps of a set of choices -/
def spr (ch : Nat → Nat) (s : Nat) : Nat → Nat
  | 0 => 0
  | b + 1 => spr ch s b ||| (if s.testBit b = true then 2 ^ ch b else 0)
theorem spr_bit {ch : Nat → Nat} {s l : Nat} : ∀ n, ((spr ch s n).testBit l = true ↔ ∃ b, b < n ∧ ch b = l ∧ s.testBit b = true)
  | 0 => by
    unfold spr
    rw [Nat.zero_testBit]
    exact ⟨fun h => (by cases h), fun ⟨b, hb, _⟩ => absurd hb (by omega)⟩
  | n + 1 => by
    unfold spr
    rw [Nat.testBit_or, Bool.or_eq_true, spr_bit n]
    constructor
    · rintro (⟨b, hb, h1, h2⟩ | h)
      · exact ⟨b, by omega, h1, h2⟩
      · by_cases c : s.testBit n = true
        · rw [if_pos c, Nat.testBit_two_pow, decide_eq_true_eq] at h
          exact ⟨n, by omega, h, c⟩
        · rw [if_neg c, Nat.zero_testBit] at h
          cases h
    · rintro ⟨b, hb, h1, h2⟩
      by_cases c : b = n
      · subst c
        refine Or.inr ?_
        rw [if_pos h2, h1, Nat.testBit_two_pow_self]
      · exact Or.inl ⟨b, by omega, h1, h2⟩
theorem spr_congr {ch : Nat → Nat} {s t : Nat} : ∀ n, (∀ b, b < n → s.testBit b = t.testBit b) → spr ch s n = spr ch t n
  | 0, _ => rfl
  | n + 1, h => by
    unfold spr
    rw [spr_congr n (fun b hb => h b (by omega)), h n (by omega)]
theorem spr_lt {ch : Nat → Nat} {s N : Nat} : ∀ n, (∀ b, b < n → ch b < N) → spr ch s n < 2 ^ N
  | 0, _ => Nat.pow_pos (by omega)
  | n + 1, h => by
    unfold spr
    refine Nat.or_lt_two_pow (spr_lt n fun b hb => h b (by omega)) ?_
    split
    · exact Nat.pow_lt_pow_right (by omega) (h n (by omega))
    · exact Nat.pow_pos (by omega)
theorem or_add {m n : Nat} (h : m < 2 ^ n) : m + 2 ^ n = m ||| 2 ^ n := by
  have := Nat.two_pow_add_eq_or_of_lt (i := n) h 1
  rw [Nat.mul_one] at this
  rw [Nat.add_comm, this, Nat.or_comm]
theorem tb_lt {m n : Nat} (h : m < 2 ^ n) : m.testBit n = false := Nat.testBit_lt_two_pow h
/-- masks within the choices, in their order, are the sets of choices in theirs -/
theorem enum_eq {σ : Type} {ch : Nat → Nat} : ∀ (N n : Nat) (f : Nat → σ → σ) (sub : Nat → Prop) (dec : DecidablePred sub) (s : σ), (∀ b, b < n → ch b < N) → (∀ i j, i < j → j < n → ch i < ch j) →
    (∀ m, m < 2 ^ N → (sub m ↔ ∀ l, m.testBit l = true → ∃ b, b < n ∧ ch b = l)) → loopN (fun m s => if sub m then f m s else s) (2 ^ N) 0 s = loopN (fun i s => f (spr ch i n) s) (2 ^ n) 0 s
  | 0, n, f, sub, dec, s, h1, h2, h3 => by
    have hn : n = 0 := by
      rcases Nat.eq_zero_or_pos n with h | h
      · exact h
      · exact absurd (h1 0 h) (by omega)
    subst hn
    have c : sub 0 := (h3 0 (by decide)).mpr fun l hl => by rw [Nat.zero_testBit] at hl; cases hl
    show (if sub 0 then f 0 s else s) = f (spr ch 0 0) s
    rw [if_pos c]; rfl
  | N + 1, n, f, sub, dec, s, h1, h2, h3 => by
    have hp : 2 ^ (N + 1) = 2 ^ N + 2 ^ N := by rw [Nat.pow_succ]; omega
    have lo : ∀ m, m < 2 ^ N → ∀ l, m.testBit l = true → l < N := fun m hm l hl => by
      by_cases c : l < N
      · exact c
      · have : 2 ^ N ≤ 2 ^ l := Nat.pow_le_pow_right (by omega) (by omega)
        rw [tb_lt (show m < 2 ^ l by omega)] at hl
        cases hl
    rw [hp, loopN_cat, Nat.zero_add, show (2 ^ N : Nat) = 0 + 2 ^ N by omega, loopN_shift, Nat.zero_add]
    by_cases c : ∃ b, b < n ∧ ch b = N
    · obtain ⟨b, hb, eb⟩ := c
      have hbn : b + 1 = n := by
        by_cases q : b + 1 < n
        · have := h2 b (b + 1) (by omega) q
          have := h1 (b + 1) q
          omega
        · omega
      subst hbn
      have g1 : ∀ i, i < b → ch i < N := fun i hi => by have := h2 i b hi (by omega); omega
      have g2 : ∀ i j, i < j → j < b → ch i < ch j := fun i j a c => h2 i j a (by omega)
      rw [enum_eq N b f sub dec s g1 g2 ?_, enum_eq N b (fun m => f (m + 2 ^ N)) (fun m => sub (m + 2 ^ N)) (fun m => dec (m + 2 ^ N)) _ g1 g2 ?_]
      · have hq : 2 ^ (b + 1) = 2 ^ b + 2 ^ b := by rw [Nat.pow_succ]; omega
        rw [hq, loopN_cat, Nat.zero_add]
        have e1 : loopN (fun i s => f (spr ch i b) s) (2 ^ b) 0 s = loopN (fun i s => f (spr ch i (b + 1)) s) (2 ^ b) 0 s := loopN_congr _ _ _ fun i _ hi s => by
          show f (spr ch i b) s = f (spr ch i b ||| _) s
          rw [if_neg (by rw [tb_lt (by omega)]; decide), Nat.or_zero]
        rw [e1]
        generalize loopN (fun i s => f (spr ch i (b + 1)) s) (2 ^ b) 0 s = s1
        have e2 : loopN (fun i s => f (spr ch i (b + 1)) s) (2 ^ b) (2 ^ b) s1 = loopN (fun i s => f (spr ch (i + 2 ^ b) (b + 1)) s) (2 ^ b) 0 s1 := by
          have := loopN_shift (f := fun i s => f (spr ch i (b + 1)) s) (c := 2 ^ b) (2 ^ b) 0 s1
          rw [Nat.zero_add] at this
          exact this
        rw [e2]
        refine loopN_congr _ _ _ fun i _ hi s => ?_
        have hi' : i < 2 ^ b := by omega
        have e3 : spr ch (i + 2 ^ b) (b + 1) = spr ch i b + 2 ^ N := by
          show spr ch (i + 2 ^ b) b ||| (if (i + 2 ^ b).testBit b = true then 2 ^ ch b else 0) = _
          have t : (i + 2 ^ b).testBit b = true := by
            rw [or_add hi', Nat.testBit_or, Nat.testBit_two_pow_self, Bool.or_true]
          rw [if_pos t, eb, or_add (spr_lt b g1)]
          congr 1
          refine spr_congr b fun k hk => ?_
          rw [or_add hi', Nat.testBit_or, Nat.testBit_two_pow, decide_eq_false (by omega), Bool.or_false]
        rw [e3]
      · intro m hm
        rw [h3 (m + 2 ^ N) (by omega), or_add hm]
        constructor
        · intro H l hl
          obtain ⟨k, hk, ek⟩ := H l (by rw [Nat.testBit_or, hl, Bool.true_or])
          refine ⟨k, ?_, ek⟩
          have := lo m hm l hl
          have : k ≠ b := fun q => by rw [q] at ek; omega
          omega
        · intro H l hl
          rw [Nat.testBit_or, Bool.or_eq_true, Nat.testBit_two_pow, decide_eq_true_eq] at hl
          rcases hl with hl | hl
          · obtain ⟨k, hk, ek⟩ := H l hl
            exact ⟨k, by omega, ek⟩
          · exact ⟨b, by omega, by omega⟩
      · intro m hm
        rw [h3 m (by omega)]
        constructor
        · intro H l hl
          obtain ⟨k, hk, ek⟩ := H l hl
          refine ⟨k, ?_, ek⟩
          have := lo m hm l hl
          have : k ≠ b := fun q => by rw [q] at ek; omega
          omega
        · intro H l hl
          obtain ⟨k, hk, ek⟩ := H l hl
          exact ⟨k, by omega, ek⟩
    · have g1 : ∀ i, i < n → ch i < N := fun i hi => by
        have := h1 i hi
        have : ch i ≠ N := fun q => c ⟨i, hi, q⟩
        omega
      rw [enum_eq N n f sub dec s g1 h2 fun m hm => h3 m (by omega)]
      refine loopN_id _ _ _ fun i _ hi s => ?_
      rw [if_neg]
      intro q
      obtain ⟨k, hk, ek⟩ := (h3 (i + 2 ^ N) (by omega)).mp q N (by rw [or_add (by omega), Nat.testBit_or, Nat.testBit_two_pow_self, Bool.or_true])
      exact c ⟨k, hk, ek⟩
