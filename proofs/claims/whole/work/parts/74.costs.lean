/-! PURE: costs of sets -/
def cst (P : Nat → Int32) (m : Nat) : Int32 := sumF (fun i => if m.testBit i = true then P i else 0) 9
theorem sumF_congr {f g : Nat → Int32} : ∀ k, (∀ i, i < k → f i = g i) → sumF f k = sumF g k
  | 0, _ => rfl
  | k + 1, h => by
    unfold sumF
    rw [sumF_congr k fun i hi => h i (by omega), h k (by omega)]
theorem sumF_one {f g : Nat → Int32} {j : Nat} {x : Int32} (hj : f j = g j + x) : ∀ k, j < k → (∀ i, i < k → i ≠ j → f i = g i) → sumF f k = sumF g k + x
  | k + 1, hk, h => by
    unfold sumF
    by_cases c : j = k
    · subst c
      rw [sumF_congr j fun i hi => h i (by omega) (by omega), hj, Int32.add_assoc]
    · rw [sumF_one hj k (by omega) fun i hi q => h i (by omega) q, h k (by omega) (fun q => c q.symm), Int32.add_assoc, Int32.add_comm x, ← Int32.add_assoc]
theorem cst_congr {P Q : Nat → Int32} {m : Nat} (h : ∀ i, i < 9 → m.testBit i = true → P i = Q i) : cst P m = cst Q m := sumF_congr 9 fun i hi => by
  split
  · rename_i c; exact h i hi c
  · rfl
theorem costs9_b {m : Nat} (hm : m < 512) {N : xMem} : ∀ (d k f : Nat), k + d = 9 → d < f → g9_costs_b4 f (nI m) (sumF (fun i => if m.testBit i = true then N 188 i else 0) k) (nI k) N = some (cst (N 188) m, N)
  | 0, k, f + 1, hk, hf => by
    obtain rfl : k = 9 := by omega
    unfold g9_costs_b4
    rw [if_pos (by decide)]
    rfl
  | d + 1, k, f + 1, hk, hf => by
    have ih := costs9_b hm (N := N) d (k + 1) f (by omega) (by omega)
    have e : sumF (fun i => if m.testBit i = true then N 188 i else 0) (k + 1) = sumF (fun i => if m.testBit i = true then N 188 i else 0) k + (if m.testBit k = true then N 188 k else 0) := rfl
    unfold g9_costs_b4 g9_costs_b29
    simp (disch := omega) only [↓reduceIte, i_ll, nle_f, nI_1]
    rw [bs (has9_bit (by omega)), bitOf_nI (by omega) (by omega), ← ih, e]
    simp only [b2i_0]
    by_cases c : m.testBit k = true
    · rw [if_neg (fun q => q c), if_pos c]
      simp (disch := omega) only [↓reduceIte, i_lt0, i_cl, nle_f, or_self]
    · rw [if_pos c, if_neg c]
theorem costs9_eq {m : Nat} (hm : m < 512) {N : xMem} : g9_costs (nI m) N = some (cst (N 188) m, N) := costs9_b hm 9 0 5000 rfl (by omega)
/-- trailing zeros -/
def sh (x k : Int32) : Int32 := (x.toUInt32 >>> (k.toUInt32 &&& Int32.toUInt32 31)).toInt32
def tz74 (x y : Int32) : Int32 := y + sh x 1
def tz62 (x y : Int32) : Int32 := if x ≤ 4 then tz74 x y else tz74 (sh x 2) (y + 2)
def tz49 (x y : Int32) : Int32 := if x ≤ 16 then tz62 x y else tz62 (sh x 4) (y + 4)
def tz34 (x y : Int32) : Int32 := if x ≤ 256 then tz49 x y else tz49 (sh x 8) (y + 8)
def tzI (a : Int32) : Int32 := if 0 < ((a ^^^ (-1 : Int32)) &&& (a - 1)) then (if ((a ^^^ (-1 : Int32)) &&& (a - 1)) ≤ 65536 then tz34 ((a ^^^ (-1 : Int32)) &&& (a - 1)) 1 else tz34 (sh ((a ^^^ (-1 : Int32)) &&& (a - 1)) 16) (1 + 16)) else ((a ^^^ (-1 : Int32)) &&& (a - 1)) &&& 32
theorem tz74_eq {x y : Int32} {M : xMem} : gJ6_numberOfTrailingZeros_0f7a4_b74 x y M = some (tz74 x y, M) := rfl
theorem tz62_eq {x y : Int32} {M : xMem} : gJ6_numberOfTrailingZeros_0f7a4_b62 x y M = some (tz62 x y, M) := by
  unfold gJ6_numberOfTrailingZeros_0f7a4_b62 tz62
  split <;> exact tz74_eq
theorem tz49_eq {x y : Int32} {M : xMem} : gJ6_numberOfTrailingZeros_0f7a4_b49 x y M = some (tz49 x y, M) := by
  unfold gJ6_numberOfTrailingZeros_0f7a4_b49 tz49
  split <;> exact tz62_eq
theorem tz34_eq {x y : Int32} {M : xMem} : gJ6_numberOfTrailingZeros_0f7a4_b34 x y M = some (tz34 x y, M) := by
  unfold gJ6_numberOfTrailingZeros_0f7a4_b34 tz34
  split <;> exact tz49_eq
theorem tzI_eq {a : Int32} {M : xMem} : gJ6_numberOfTrailingZeros_0f7a4 a M = some (tzI a, M) := by
  unfold gJ6_numberOfTrailingZeros_0f7a4 tzI
  split
  · split <;> exact tz34_eq
  · rfl
def tzN (s : Nat) : Nat := if s % 2 = 1 then 0 else if s / 2 % 2 = 1 then 1 else if s / 4 % 2 = 1 then 2 else if s / 8 % 2 = 1 then 3 else if s / 16 % 2 = 1 then 4 else if s / 32 % 2 = 1 then 5 else if s / 64 % 2 = 1 then 6 else if s / 128 % 2 = 1 then 7 else 8
theorem tz_facts : ∀ s, s < 512 → 0 < s → tzI (nI s) = nI (tzN s) ∧ tzN s < 9 ∧ s.testBit (tzN s) = true ∧ (nI s &&& (nI s - 1)) = nI (s &&& (s - 1)) ∧ s &&& (s - 1) < s ∧ ∀ b, b < 9 → (s &&& (s - 1)).testBit b = (s.testBit b && !decide (b = tzN s)) := by decide +kernel
theorem cst_0 {P : Nat → Int32} : cst P 0 = 0 := by
  have h : ∀ k, sumF (fun i => if (0 : Nat).testBit i = true then P i else 0) k = 0 := fun k => by
    induction k with
    | zero => rfl
    | succ k ih =>
      unfold sumF
      rw [ih, Nat.zero_testBit, if_neg (by decide)]; rfl
  exact h 9
theorem spr_0 {ch : Nat → Nat} : ∀ n, spr ch 0 n = 0
  | 0 => rfl
  | n + 1 => by
    unfold spr
    rw [spr_0 n, Nat.zero_testBit, if_neg (by decide), Nat.or_zero]
theorem cst_step {R : Nat → Int32} {most : Nat} {n : Nat} {str : Bool} {ch : Nat → Nat} {N : xMem} (C : Chs (inCh R most str) 12 n ch N) {P : Nat → Int32} (h9 : ∀ b, b < n → ch b < 9) {s : Nat} (h0 : 0 < s) (hs : s < 2 ^ n) : tzN s < n ∧ cst P (spr ch s n) = cst P (spr ch (s &&& (s - 1)) n) + P (ch (tzN s)) := by
  have h := pow_le n C.1
  obtain ⟨-, t9, tb, -, lt, bits⟩ := tz_facts s (by omega) h0
  have tn : tzN s < n := by
    rcases Nat.lt_or_ge (tzN s) n with q | q
    · exact q
    · have : 2 ^ n ≤ 2 ^ tzN s := Nat.pow_le_pow_right (by omega) q
      rw [tb_lt (show s < 2 ^ tzN s by omega)] at tb
      cases tb
  refine ⟨tn, sumF_one (j := ch (tzN s)) ?_ 9 (h9 _ tn) fun i hi hij => ?_⟩
  · rw [spr_at C tn, spr_at C tn, tb, bits _ t9, tb, if_pos rfl, if_neg (by simp), Int32.zero_add]
  · have : (spr ch s n).testBit i = (spr ch (s &&& (s - 1)) n).testBit i := by
      by_cases c : ∃ b, b < n ∧ ch b = i
      · obtain ⟨b, hb, e⟩ := c
        subst e
        have hn := C.1
        rw [spr_at C hb, spr_at C hb, bits b (by omega), decide_eq_false (fun q => hij (by rw [q]))]
        simp
      · have z : ∀ t, (spr ch t n).testBit i = false := fun t => by
          cases r : (spr ch t n).testBit i
          · rfl
          · obtain ⟨b, hb, e, -⟩ := (spr_bit n).mp r
            exact absurd ⟨b, hb, e⟩ c
        rw [z, z]
    rw [this]
theorem costOf_in {n s : Nat} {N : xMem} (hn : n ≤ 9) (e : N 135 0 = nI n) (hs : s < 2 ^ n) : g5_costOf (nI s) N = some (N 137 s, N) := by
  have h := pow_le n hn
  unfold g5_costOf
  rw [bs (isSet_eq hn e (by omega)), b2i_t hs, if_neg (show ¬ (1 : Int32) = 0 by decide)]
  simp (disch := omega) only [↓reduceIte, i_lt0, i_cl, nle_f, or_self]
theorem cameOf_in {n s : Nat} {N : xMem} (hn : n ≤ 9) (e : N 135 0 = nI n) (hs : s < 2 ^ n) : g5_cameOf (nI s) N = some (N 136 s, N) := by
  have h := pow_le n hn
  unfold g5_cameOf
  rw [bs (isSet_eq hn e (by omega)), b2i_t hs, if_neg (show ¬ (1 : Int32) = 0 by decide)]
  simp (disch := omega) only [↓reduceIte, i_lt0, i_cl, nle_f, or_self]
theorem fillCosts_b {R : Nat → Int32} {most n : Nat} {str : Bool} {ch : Nat → Nat} (h9 : ∀ b, b < n → ch b < 9) {P : Nat → Int32} {M : xMem} : ∀ (d s f : Nat) (N : xMem), s + d = 2 ^ n → d < f → 0 < s → Chs (inCh R most str) 12 n ch N → N 138 = P → (∀ i, i < s → N 137 i = cst P (spr ch i n)) → Off [137] M N →
    ∃ K, g5_fillCosts_b9 f (nI s) N = some K ∧ (∀ i, i < 2 ^ n → K 137 i = cst P (spr ch i n)) ∧ Off [137] M K
  | 0, s, f + 1, N, hk, hf, h0, C, hP, hc, o => by
    have h := pow_le n C.1
    obtain rfl : s = 2 ^ n := by omega
    refine ⟨N, ?_, hc, o⟩
    unfold g5_fillCosts_b9
    by_cases c : 512 ≤ 2 ^ n
    · rw [if_pos (show (512 : Int32) ≤ nI (2 ^ n) from (nI_leI (a := 512) (by omega) (by omega)).mpr c)]
    · rw [if_neg (show ¬ (512 : Int32) ≤ nI (2 ^ n) from fun q => c ((nI_leI (a := 512) (by omega) (by omega)).mp q)), bs (isSet_eq C.1 C.2.1 (by omega)), b2i_f (by omega), if_pos rfl]
  | d + 1, s, f + 1, N, hk, hf, h0, C, hP, hc, o => by
    have h := pow_le n C.1
    have hn := C.1
    obtain ⟨t1, t9, tb, t4, lt, bits⟩ := tz_facts s (by omega) h0
    obtain ⟨tn, st⟩ := cst_step C (P := P) h9 h0 (by omega)
    have hch := (C.2.2.1 _ tn).1
    unfold g5_fillCosts_b9 g5_fillCosts_b54 g5_fillCosts_b88 g5_fillCosts_b89
    simp (disch := omega) only [↓reduceIte, i_ll, nle_f]
    rw [bs (isSet_eq C.1 C.2.1 (by omega)), b2i_t (show s < 2 ^ n by omega), if_neg (show ¬ (1 : Int32) = 0 by decide), bs tzI_eq]
    simp (disch := omega) only [↓reduceIte, t1, t4, i_ll, nle_f, i_lt0, i_cl, or_self, hch]
    have e2 := costOf_in (s := s &&& (s - 1)) C.1 C.2.1 (by omega)
    have hlt := h9 _ tn
    rw [bs e2]
    simp (disch := omega) only [↓reduceIte, i_ll, nle_f, i_lt0, i_cl, or_self, mset_eq, nI_1]
    rw [hc _ (by omega), hP]
    have o2 : Off [137] N (upM N 137 s (cst P (spr ch (s &&& (s - 1)) n) + P (ch (tzN s)))) := Off.up (by decide)
    refine fillCosts_b h9 d (s + 1) f _ (by omega) (by omega) (by omega) (C.fr (o2 134 (by decide)) (o2 135 (by decide))) (by rw [o2 138 (by decide), hP]) (fun i hi => ?_) (o.tr o2)
    by_cases c : i = s
    · subst c
      rw [up_s, st]
    · rw [up_i c]
      exact hc i (by omega)
theorem fillCosts_eq {R : Nat → Int32} {most n : Nat} {str : Bool} {ch : Nat → Nat} (h9 : ∀ b, b < n → ch b < 9) {N : xMem} (C : Chs (inCh R most str) 12 n ch N) :
    ∃ K, g5_fillCosts N = some K ∧ (∀ i, i < 2 ^ n → K 137 i = cst (N 138) (spr ch i n)) ∧ Off [137] N K := by
  have h := pow_le n C.1
  have hp : 0 < 2 ^ n := Nat.pow_pos (by omega)
  unfold g5_fillCosts
  simp only [mset_eq]
  have o2 : Off [137] N (upM N 137 0 0) := Off.up (by decide)
  obtain ⟨K, e, k, o⟩ := fillCosts_b h9 (P := N 138) (M := upM N 137 0 0) (2 ^ n - 1) 1 5000 (upM N 137 0 0) (by omega) (by omega) (by omega) (C.fr (o2 134 (by decide)) (o2 135 (by decide))) (o2 138 (by decide)) (fun i hi => by
    obtain rfl : i = 0 := by omega
    rw [up_s, spr_0, cst_0]) Off.rf
  exact ⟨K, e, k, o2.tr o⟩
theorem takeBeers_b {B : xMem} {V : Nat → (Nat → Int32) → Int32} (L : LawV B V) {R : Nat → Int32} (ok : RowOk R) (o1 : ∀ i, i < 9 → R (196 + i) = 0 ∨ R (196 + i) = 1) {n : Nat} {ch : Nat → Nat} {M : xMem} :
    ∀ (d k f : Nat) (N : xMem), k + d = 9 → d < f → N 0 = R → lawC B N → Chs (inCh R 9 false) 12 n ch N → (∀ i, i < k → R (196 + i) ≠ 0 → N 138 i = sPrice V R i) → Off [101, 27, 28, 29, 137, 138] M N →
      ∃ K, g5_takeBeers_b2 f (nI k) N = some K ∧ (∀ i, i < 9 → R (196 + i) ≠ 0 → K 138 i = sPrice V R i) ∧ (∀ i, i < 2 ^ n → K 137 i = cst (K 138) (spr ch i n)) ∧ Off [101, 27, 28, 29, 137, 138] M K
  | 0, k, f + 1, N, hk, hf, h0, lb, C, hp, o => by
    obtain rfl : k = 9 := by omega
    unfold g5_takeBeers_b2
    rw [if_pos (by decide)]
    have h9 : ∀ b, b < n → ch b < 9 := fun b hb => by
      have hb' := (C.2.2.1 b hb).2
      have := (C.2.2.2.2 _ hb').mp ⟨b, hb, rfl⟩
      unfold inCh at this
      by_cases c : ch b < 9
      · exact c
      · rw [if_neg c] at this
        exact absurd this.2.1 (by decide)
    obtain ⟨K, e, k1, oK⟩ := fillCosts_eq h9 C
    rw [bs e]
    refine ⟨K, rfl, fun i hi q => by rw [oK 138 (by decide)]; exact hp i hi q, fun i hi => by rw [k1 i hi, oK 138 (by decide)], o.tr (oK.mono (by decide))⟩
  | d + 1, k, f + 1, N, hk, hf, h0, lb, C, hp, o => by
    unfold g5_takeBeers_b2 g5_takeBeers_b43
    simp (disch := omega) only [↓reduceIte, i_ll, nle_f]
    rw [bs (stands_in (by omega))]
    simp only [b2i_0, h0]
    have go : ∀ (K : xMem) (x : Int32), Off [101, 27, 28, 29] N K → (R (196 + k) ≠ 0 → x = sPrice V R k) → ∃ K', g5_takeBeers_b2 f (nI (k + 1)) (upM K 138 k x) = some K' ∧ (∀ i, i < 9 → R (196 + i) ≠ 0 → K' 138 i = sPrice V R i) ∧ (∀ i, i < 2 ^ n → K' 137 i = cst (K' 138) (spr ch i n)) ∧ Off [101, 27, 28, 29, 137, 138] M K' := fun K x oK hx => by
      have o2 : Off [101, 27, 28, 29, 137, 138] N (upM K 138 k x) := (oK.mono (by decide)).up' (by decide)
      refine takeBeers_b L ok o1 d (k + 1) f _ (by omega) (by omega) (by rw [o2 0 (by decide), h0]) (lb.tr (lawC.off' o2 (by decide))) (C.fr (o2 134 (by decide)) (o2 135 (by decide))) (fun i hi q => ?_) (o.tr o2)
      by_cases c : i = k
      · subst c
        rw [up_s]
        exact hx q
      · rw [up_i c, oK 138 (by decide)]
        exact hp i (by omega) q
    by_cases c : R (196 + k) = 0
    · rw [if_pos (fun q => q c)]
      simp (disch := omega) only [↓reduceIte, i_lt0, i_cl, nle_f, or_self, mset_eq, nI_1]
      exact go N 0 Off.rf fun q => absurd c q
    · rw [if_neg (fun q => q c)]
      obtain ⟨vc, -, hA, -⟩ := L 6 (by decide)
      have th : N 0 (196 + k) = 1 := by
        rw [h0]
        exact (o1 k (by omega)).resolve_left c
      obtain ⟨K, e, oK⟩ := beer_eq (p := 0) (M := N) (l := k) (by rw [h0]; exact ok) (by decide) (by omega) th vc (fun N' hN' => hA N' (lb.tr hN'))
      rw [h0] at e
      rw [bs e]
      simp (disch := omega) only [↓reduceIte, i_lt0, i_cl, nle_f, or_self, mset_eq, nI_1]
      exact go K _ oK fun _ => rfl
theorem takeBeers_eq {B : xMem} {V : Nat → (Nat → Int32) → Int32} (L : LawV B V) {R : Nat → Int32} (ok : RowOk R) {n : Nat} {ch : Nat → Nat} {N : xMem} (h0 : N 0 = R) (lb : lawC B N) (C : Chs (inCh R 9 false) 12 n ch N) :
    ∃ K, g5_takeBeers N = some K ∧ (∀ i, i < 9 → R (196 + i) ≠ 0 → K 138 i = sPrice V R i) ∧ (∀ i, i < 2 ^ n → K 137 i = cst (K 138) (spr ch i n)) ∧ Off [101, 27, 28, 29, 137, 138] N K :=
  takeBeers_b L ok (fun i hi => ok.there (by omega)) 9 0 5000 N rfl (by omega) h0 lb C (fun i hi => absurd hi (by omega)) Off.rf
