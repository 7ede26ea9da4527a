/-! PURE: odds -/
def sumK (f : Nat → Nat) : Nat → Nat → Nat
  | 0, _ => 0
  | d + 1, k => f k + sumK f d (k + 1)
theorem sumK_add {f g : Nat → Nat} : ∀ (d k : Nat), sumK (fun i => f i + g i) d k = sumK f d k + sumK g d k
  | 0, _ => rfl
  | d + 1, k => by
    unfold sumK
    rw [sumK_add d (k + 1)]
    omega
theorem sumK_0 : ∀ (d k : Nat), sumK (fun _ => 0) d k = 0
  | 0, _ => rfl
  | d + 1, k => by
    unfold sumK
    rw [sumK_0 d (k + 1)]
theorem sumK_swap {f : Nat → Nat → Nat} {m l : Nat} : ∀ (d k : Nat), sumK (fun i => sumK (fun j => f i j) m l) d k = sumK (fun j => sumK (fun i => f i j) d k) m l
  | 0, _ => (sumK_0 m l).symm
  | d + 1, k => by
    show sumK (fun j => f k j) m l + sumK (fun i => sumK (fun j => f i j) m l) d (k + 1) = sumK (fun j => f k j + sumK (fun i => f i j) d (k + 1)) m l
    rw [sumK_swap d (k + 1), sumK_add]
theorem sumK_cat {f : Nat → Nat} : ∀ (a b k : Nat), sumK f (a + b) k = sumK f a k + sumK f b (k + a)
  | 0, b, k => by rw [Nat.zero_add, sumK, Nat.zero_add]; rfl
  | a + 1, b, k => by
    rw [show a + 1 + b = (a + b) + 1 by omega, sumK, sumK, sumK_cat a b (k + 1), show k + 1 + a = k + (a + 1) by omega]
    omega
theorem sumK_congr {f g : Nat → Nat} : ∀ (d k : Nat), (∀ i, k ≤ i → i < k + d → f i = g i) → sumK f d k = sumK g d k
  | 0, _, _ => rfl
  | d + 1, k, h => by
    unfold sumK
    rw [h k (by omega) (by omega), sumK_congr d (k + 1) (fun i h1 h2 => h i (by omega) (by omega))]
theorem sumK_shift {f : Nat → Nat} {c : Nat} : ∀ (d k : Nat), sumK f d (k + c) = sumK (fun i => f (i + c)) d k
  | 0, _ => rfl
  | d + 1, k => by
    unfold sumK
    rw [show k + c + 1 = (k + 1) + c by omega, sumK_shift d (k + 1)]
/-- tens -/
theorem sumK_ten {f : Nat → Nat} : ∀ (m k : Nat), sumK f (10 * m) (10 * k) = sumK (fun c => sumK (fun d => f (10 * c + d)) 10 0) m k
  | 0, _ => rfl
  | m + 1, k => by
    rw [show 10 * (m + 1) = 10 + 10 * m by omega, sumK_cat, show 10 * k + 10 = 10 * (k + 1) by omega, sumK_ten m (k + 1)]
    show _ = sumK (fun d => f (10 * k + d)) 10 0 + _
    rw [show 10 * k = 0 + 10 * k by omega, sumK_shift 10 0]
    congr 1
    exact sumK_congr 10 0 fun i _ _ => by rw [Nat.add_comm, Nat.zero_add]
theorem sumK_le {f : Nat → Nat} {m : Nat} : ∀ (d k : Nat), (∀ i, f i ≤ m) → sumK f d k ≤ d * m
  | 0, _, _ => by rw [Nat.zero_mul]; exact Nat.le_refl _
  | d + 1, k, h => by
    have h1 := sumK_le d (k + 1) h
    have h2 := h k
    unfold sumK
    rw [Nat.succ_mul]
    omega
def sIs (x : Int32) (R : Nat → Int32) : Nat := if sLiving R < x then 0 else 1
/-- over all draws, the first one outermost -/
def sAll (V : Nat → (Nat → Int32) → Int32) (x : Int32) : Nat → (Nat → Int32) → Nat
  | 0, R => sIs x R
  | n + 1, R => sumK (fun d => sAll V x n (sPass V R d).1) 10 0
/-- the draws of a code -/
def sCode (V : Nat → (Nat → Int32) → Int32) : Nat → Nat → (Nat → Int32) → Nat → Int32
  | 0, _, R => R
  | n + 1, c, R => sCode V n (c / 10) (sPass V R (c % 10)).1
theorem sAll_code {V : Nat → (Nat → Int32) → Int32} {x : Int32} : ∀ (n : Nat) (R : Nat → Int32), sumK (fun c => sIs x (sCode V n c R)) (10 ^ n) 0 = sAll V x n R
  | 0, R => by
    show sIs x R + 0 = sIs x R
    omega
  | n + 1, R => by
    have h := sumK_ten (f := fun c => sIs x (sCode V (n + 1) c R)) (10 ^ n) 0
    rw [Nat.mul_zero] at h
    rw [Nat.pow_succ, Nat.mul_comm, h, sumK_swap]
    unfold sAll
    refine sumK_congr 10 0 fun d _ hd => ?_
    rw [← sAll_code n]
    refine sumK_congr _ 0 fun c _ _ => ?_
    have e : sCode V (n + 1) (10 * c + d) R = sCode V n c (sPass V R d).1 := by
      show sCode V n ((10 * c + d) / 10) (sPass V R ((10 * c + d) % 10)).1 = _
      rw [show (10 * c + d) / 10 = c by omega, show (10 * c + d) % 10 = d by omega]
    rw [e]
theorem sAll_le {V : Nat → (Nat → Int32) → Int32} {x : Int32} : ∀ (n : Nat) (R : Nat → Int32), sAll V x n R ≤ 10 ^ n
  | 0, R => by
    unfold sAll sIs
    split <;> decide
  | n + 1, R => by
    unfold sAll
    rw [Nat.pow_succ, Nat.mul_comm]
    exact sumK_le 10 0 fun i => sAll_le n _
/-- the blocks behind a drawn plain -/
def SD (p : Nat) (b : Nat) : Prop := (2 + p < b ∧ b < 6) ∨ b = 101 ∨ b = 102 ∨ b = 27 ∨ b = 28 ∨ b = 29
def OffP (S : Nat → Prop) (M N : xMem) : Prop := ∀ b, ¬ S b → N b = M b
theorem behind_loop {B : xMem} {V : Nat → (Nat → Int32) → Int32} (L : LawV B V) {x : Int32} {n p j : Nat} (hn : n ≤ 3) (hp : p < n) (hj : p + 1 + j = n) {F : Int32 → Int32 → Int32 → xMem → Option (Int32 × xMem)} {R : Nat → Int32} (ok : RowOk R)
    (HF : ∀ N, lawC B N → RowOk (N (2 + (p + 1))) → Z10 N → ∃ K, F (nI (p + 1)) (nI n) x N = some (nI (sAll V x j (N (2 + (p + 1)))), K) ∧ Z10 K ∧ OffP (SD (p + 1)) N K) {M : xMem} :
    ∀ (d k f a : Nat) (N : xMem), k + d = 10 → d < f → lawC B N → N (2 + p) = R → Z10 N → OffP (SD p) M N →
      ∃ K, g5_countBehind_b59 F f (nI p) (nI n) x (nI a) (nI k) N = some (nI (a + sumK (fun d => sAll V x j (sPass V R d).1) d k), K) ∧ Z10 K ∧ OffP (SD p) M K
  | 0, k, f + 1, a, N, hk, hf, lb, h2, z, o => by
    obtain rfl : k = 10 := by omega
    unfold g5_countBehind_b59
    rw [if_pos (by decide)]
    exact ⟨N, rfl, z, o⟩
  | d + 1, k, f + 1, a, N, hk, hf, lb, h2, z, o => by
    unfold g5_countBehind_b59
    simp (disch := omega) only [↓reduceIte, i_ll, nle_f, nI_1, i_lt0, i_cl, or_self]
    obtain ⟨K1, e1, a1, f1, z1⟩ := become_eq (M := N) (p := 2 + (p + 1)) (q := 2 + p) (by omega) (by omega) (by omega) (by rw [h2]; exact ok) z
    rw [bs e1]
    have lb1 : lawC B K1 := lb.tr (fun b hb => f1 b (by simp at hb; omega))
    obtain ⟨K2, e2, r2, o2, -⟩ := pass_eq (p := 2 + (p + 1)) (d := k) (by omega) (by omega) L lb1 (by rw [a1, h2]; exact ok)
    rw [a1, h2] at e2 r2
    rw [bs e2]
    have ok2 : RowOk (K2 (2 + (p + 1))) := by rw [r2]; exact sPass_ok L.vb ok
    have lb2 : lawC B K2 := lb1.tr (lc (by omega) o2)
    have z2 : Z10 K2 := z1.row o2 fun b hb h10 => by
      rw [ss_mem] at hb
      have : b = 2 + (p + 1) := by omega
      rw [this]; exact ok2
    obtain ⟨K3, e3, z3, o3⟩ := HF K2 lb2 ok2 z2
    rw [bs e3]
    have o13 : OffP (SD p) N K3 := fun b hb => by
      have q : b ≠ 2 + (p + 1) ∧ ¬ SD (p + 1) b ∧ b ≠ 101 ∧ b ≠ 102 ∧ b ≠ 27 ∧ b ≠ 28 ∧ b ≠ 29 := by
        unfold SD at hb ⊢
        omega
      rw [o3 b q.2.1, o2 b (by rw [ss_mem]; omega), f1 b q.1]
    obtain ⟨K, e, zK, oK⟩ := behind_loop L hn hp hj ok HF (M := M) d (k + 1) f (a + sAll V x j (K2 (2 + (p + 1)))) K3 (by omega) (by omega) (lb.tr fun b hb => o13 b (by unfold SD; simp at hb; omega)) (by rw [o13 (2 + p) (by unfold SD; omega), h2]) z3 (fun b hb => by rw [o13 b hb, o b hb])
    refine ⟨K, ?_, zK, oK⟩
    dsimp only
    rw [nI_add, e, r2]
    show _ = some (nI (a + (sAll V x j (sPass V R k).1 + sumK _ d (k + 1))), K)
    rw [Nat.add_assoc]
theorem behind_eq {B : xMem} {V : Nat → (Nat → Int32) → Int32} (L : LawV B V) {x : Int32} {n : Nat} (hn : n ≤ 3) :
    ∀ (j p f : Nat), p + j = n → j < f → ∀ N, lawC B N → RowOk (N (2 + p)) → Z10 N → ∃ K, g5_countBehind_rec f (nI p) (nI n) x N = some (nI (sAll V x j (N (2 + p))), K) ∧ Z10 K ∧ OffP (SD p) N K
  | 0, p, f + 1, hj, hf, N, lb, ok, z => by
    obtain rfl : p = n := by omega
    unfold g5_countBehind_rec g5_countBehind g5_countBehind_b31
    simp (disch := omega) only [↓reduceIte, i_lt0, i_tr, nlt_t, i_cl, nle_f, or_self]
    rw [if_pos ((nI_leI (by omega) (by omega)).mpr (Nat.le_refl _)), bs living_eq]
    refine ⟨N, ?_, z, fun _ _ => rfl⟩
    unfold sAll sIs
    by_cases c : sLiving (N (2 + p)) < x
    · rw [if_pos c, if_pos c]; rfl
    · rw [if_neg c, if_neg c]; rfl
  | j + 1, p, f + 1, hj, hf, N, lb, ok, z => by
    unfold g5_countBehind_rec g5_countBehind
    simp (disch := omega) only [↓reduceIte, i_lt0, i_tr, nlt_t, nlt_f, nI_1]
    rw [if_neg (fun q => by have := (nI_leI (by omega) (by omega)).mp q; omega)]
    obtain ⟨K, e, zK, oK⟩ := behind_loop L (x := x) hn (show p < n by omega) (show p + 1 + j = n by omega) (F := g5_countBehind_rec f) ok (fun N a b c => behind_eq L hn j (p + 1) f (by omega) (by omega) N a b c) (M := N) 10 0 5000 0 N rfl (by omega) lb rfl z (fun _ _ => rfl)
    refine ⟨K, ?_, zK, oK⟩
    have e' : g5_countBehind_b59 (g5_countBehind_rec f) 5000 (nI p) (nI n) x 0 0 N = some (nI (0 + sumK (fun d => sAll V x j (sPass V (N (2 + p)) d).1) 10 0), K) := e
    rw [Nat.zero_add] at e'
    exact e'
/-- one code of the reference -/
theorem code9_b {B : xMem} {V : Nat → (Nat → Int32) → Int32} (L : LawV B V) {x w all : Int32} {n a c : Nat} (hn : n ≤ 3) (ha : a < 100000) {F : Int32 → Int32 → Int32 → Int32 → Int32 → Int32 → xMem → Option (Int32 × xMem)} {M : xMem} :
    ∀ (d k f y : Nat) (N : xMem), k + d = n → d < f → y < 100000 → lawM B N → RowOk (N 7) → Z10 N → Off S7 M N →
      ∃ K, g9_odds_b84 F f (nI n) x w all (nI a) (nI c) (nI y) (nI k) N = F (nI n) x w all (nI (a + sIs x (sCode V d y (N 7)))) (nI (c + 1)) K ∧ Z10 K ∧ Off S7 M K ∧ K 8 = N 8
  | 0, k, f + 1, y, N, hk, hf, hy, lb, ok, z, o => by
    obtain rfl : k = n := by omega
    unfold g9_odds_b84 g9_odds_b128
    rw [if_pos ((nI_leI (by omega) (by omega)).mpr (Nat.le_refl _)), bs (living9_eq ok)]
    refine ⟨N, ?_, z, o, rfl⟩
    unfold sCode sIs
    by_cases cc : sLiving (N 7) < x
    · simp only [if_pos cc, nI_1, Int32.add_zero, Nat.add_zero]
    · simp only [if_neg cc, nI_1]
  | d + 1, k, f + 1, y, N, hk, hf, hy, lb, ok, z, o => by
    unfold g9_odds_b84
    rw [if_neg (fun q => by have := (nI_leI (by omega) (by omega)).mp q; omega)]
    rw [show nI y - nI y / 10 * 10 = nI (y % 10) from pk_rem (by omega) (by decide) (by decide), show nI y / 10 = nI (y / 10) from pk_div (by omega) (by decide) (by decide), nI_1]
    obtain ⟨K1, e1, r1, o1⟩ := pass9_eq (d := y % 10) (M := N) (by omega) L lb ok
    rw [bs e1]
    have ok1 : RowOk (K1 7) := by rw [r1]; exact sPass_ok L.vb ok
    have z1 : Z10 K1 := z.row o1 fun b hb h10 => by
      have : b = 7 := by revert b; decide
      rw [this]; exact ok1
    obtain ⟨K, e, zK, oK, h8⟩ := code9_b L hn ha (x := x) (w := w) (all := all) (c := c) (F := F) (M := M) d (k + 1) f (y / 10) K1 (by omega) (by omega) (by omega) (lb.tr (lm o1)) ok1 z1 (o.tr (s7_tt o1))
    refine ⟨K, ?_, zK, oK, by rw [h8, o1 8 (by decide)]⟩
    rw [e, r1]
    rfl
theorem odds9_b {B : xMem} {V : Nat → (Nat → Int32) → Int32} (L : LawV B V) {x w : Int32} {n : Nat} (hn : n ≤ 3) {R : Nat → Int32} (ok : RowOk R) {T : Nat} (hT : T ≤ 1000) {M : xMem} :
    ∀ (d c f a : Nat) (N : xMem), c + d = T → d < f → a ≤ c → lawM B N → N 8 = R → Z10 N → Off S7 M N →
      ∃ K, g9_odds_b66 f (nI n) x w (nI T) (nI a) (nI c) N = (Option.bind (g9_gcd (nI (a + sumK (fun c => sIs x (sCode V n c R)) d c)) (nI T) K) fun q17 => if w = 0 then (if q17.1 = 0 then none else some (nI (a + sumK (fun c => sIs x (sCode V n c R)) d c) / q17.1, q17.2)) else (if q17.1 = 0 then none else some (nI T / q17.1, q17.2))) ∧ K 7 = R ∧ Z10 K ∧ Off S7 M K
  | 0, c, f + 1, a, N, hc, hf, ha, lb, h8, z, o => by
    obtain rfl : c = T := by omega
    unfold g9_odds_b66
    rw [if_pos ((nI_leI (by omega) (by omega)).mpr (Nat.le_refl _))]
    obtain ⟨K, e, r, r8, oK, zK⟩ := again_eq h8 z
    rw [bs e]
    exact ⟨K, rfl, r, zK, o.tr (oK.mono (by decide))⟩
  | d + 1, c, f + 1, a, N, hc, hf, ha, lb, h8, z, o => by
    unfold g9_odds_b66
    rw [if_neg (fun q => by have := (nI_leI (by omega) (by omega)).mp q; omega)]
    obtain ⟨K1, e1, r1, r18, o1, z1⟩ := again_eq h8 z
    rw [bs e1]
    obtain ⟨K2, e2, z2, o2, h28⟩ := code9_b L (x := x) (w := w) (all := nI T) (a := a) (c := c) hn (by omega) (F := g9_odds_b66 f) (M := M) n 0 5000 c K1 (by omega) (by omega) (by omega) (lb.tr (lawM.off' o1 (by decide))) (by rw [r1]; exact ok) z1 (o.tr (o1.mono (by decide)))
    have e2' : g9_odds_b84 (g9_odds_b66 f) 5000 (nI n) x w (nI T) (nI a) (nI c) (nI c) 0 K1 = _ := e2
    rw [e2', r1]
    have hs : sIs x (sCode V n c R) ≤ 1 := by unfold sIs; split <;> omega
    have lb2 : lawM B K2 := by
      have q1 : Off S7 M K1 := o.tr (o1.mono (by decide))
      intro b hb
      have q : b ∉ S7 := by revert b; decide
      have e1 := o2 b q
      have e0 := o b q
      rw [e1, ← e0]
      exact lb b hb
    obtain ⟨K, e, r, zK, oK⟩ := odds9_b L (x := x) (w := w) hn ok hT (M := M) d (c + 1) f (a + sIs x (sCode V n c R)) K2 (by omega) (by omega) (by omega) lb2 (by rw [h28, r18]) z2 o2
    refine ⟨K, ?_, r, zK, oK⟩
    rw [e, Nat.add_assoc]
    rfl
/-- common divisors -/
theorem gcd9_b {M : xMem} : ∀ (f a b : Nat), b < f → a < 2147483648 → b < 2147483648 → g9_gcd_b4 f (nI a) (nI b) M = some (nI (Nat.gcd a b), M)
  | f + 1, a, b, hf, ha, hb => by
    unfold g9_gcd_b4
    by_cases c : b = 0
    · subst c
      rw [if_pos nI_0, Nat.gcd_zero_right]
    · have c' : ¬ nI b = 0 := nI_ne0 (by omega) hb
      have hm : a % b < b := Nat.mod_lt _ (by omega)
      rw [if_neg c', if_neg c', show nI a - nI a / nI b * nI b = nI (a % b) from pk_rem ha (by omega) hb, gcd9_b f b (a % b) (by omega) hb (by omega), Nat.gcd_comm a b, Nat.gcd_rec b a, Nat.gcd_comm b]
theorem gcd_b {M : xMem} : ∀ (j k f a b : Nat), b < 2 ^ j → k + 2 * j + 1 ≤ 100 → 2 * j + 1 < f → a < 2147483648 → b < 2147483648 → g8_commonDivisor_b7 f (nI a) (nI b) (nI k) M = some (nI (Nat.gcd a b), M)
  | 0, k, f + 1, a, b, hb, hk, hf, h1, h2 => by
    have c : b = 0 := by omega
    subst c
    unfold g8_commonDivisor_b7
    rw [if_neg (fun q => by have := (nI_leI (a := 100) (by omega) (by omega)).mp q; omega), if_pos nI_0, Nat.gcd_zero_right]
  | j + 1, k, f + 1 + 1, a, b, hb, hk, hf, h1, h2 => by
    rw [g8_commonDivisor_b7, if_neg (fun q => by have := (nI_leI (a := 100) (by omega) (by omega)).mp q; omega)]
    by_cases c : b = 0
    · subst c
      rw [if_pos nI_0, Nat.gcd_zero_right]
    have c' : ¬ nI b = 0 := nI_ne0 (by omega) h2
    have hm : a % b < b := Nat.mod_lt _ (by omega)
    rw [if_neg c', if_neg c', show nI a - nI a / nI b * nI b = nI (a % b) from pk_rem h1 (by omega) h2, nI_1]
    have g1 : Nat.gcd a b = Nat.gcd b (a % b) := by rw [Nat.gcd_comm a b, Nat.gcd_rec b a, Nat.gcd_comm b]
    rw [g1]
    generalize a % b = r at hm ⊢
    rw [g8_commonDivisor_b7, if_neg (fun q => by have := (nI_leI (a := 100) (by omega) (by omega)).mp q; omega)]
    by_cases d : r = 0
    · subst d
      rw [if_pos nI_0, Nat.gcd_zero_right]
    have d' : ¬ nI r = 0 := nI_ne0 (by omega) (by omega)
    have hm2 : b % r < r := Nat.mod_lt _ (by omega)
    have hm3 : 2 * (b % r) < b := by
      have e := Nat.div_add_mod b r
      have : 1 ≤ b / r := Nat.div_pos (by omega) (by omega)
      have : r * 1 ≤ r * (b / r) := Nat.mul_le_mul_left r this
      omega
    rw [if_neg d', if_neg d', show nI b - nI b / nI r * nI r = nI (b % r) from pk_rem h2 (by omega) (by omega), nI_1]
    have g2 : Nat.gcd b r = Nat.gcd r (b % r) := by rw [Nat.gcd_comm b r, Nat.gcd_rec r b, Nat.gcd_comm r]
    rw [g2]
    exact gcd_b j (k + 1 + 1) f r (b % r) (by rw [Nat.pow_succ] at hb; omega) (by omega) (by omega) (by omega) (by omega)
theorem odds_end {M : xMem} {a T : Nat} {w : Int32} (ha : a ≤ 1000) (h0 : 0 < T) (hT : T ≤ 1000) : ∃ r, g8_odds_b65 w (nI a) (nI T) M = some (r, M) ∧ ∀ K, (Option.bind (g9_gcd (nI a) (nI T) K) fun q17 => if w = 0 then (if q17.1 = 0 then none else some (nI a / q17.1, q17.2)) else (if q17.1 = 0 then none else some (nI T / q17.1, q17.2))) = some (r, K) := by
  have hg : 0 < Nat.gcd a T := Nat.gcd_pos_of_pos_right a h0
  have hg2 : Nat.gcd a T ≤ T := Nat.gcd_le_right a h0
  have e1 : g8_commonDivisor (nI a) (nI T) M = some (nI (Nat.gcd a T), M) := by
    unfold g8_commonDivisor
    exact gcd_b 10 0 5000 a T (by omega) (by omega) (by omega) (by omega) (by omega)
  have e2 : ∀ K, g9_gcd (nI a) (nI T) K = some (nI (Nat.gcd a T), K) := fun K => gcd9_b 5000 a T (by omega) (by omega) (by omega)
  have c : ¬ nI (Nat.gcd a T) = 0 := nI_ne0 hg (by omega)
  unfold g8_odds_b65 g8_odds_b94
  by_cases c2 : w = 0
  · refine ⟨nI a / nI (Nat.gcd a T), ?_, fun K => ?_⟩
    · rw [bs e1]
      simp only [if_neg c, if_pos c2]
    · rw [bs (e2 K)]
      simp only [if_neg c, if_pos c2]
  · refine ⟨nI T / nI (Nat.gcd a T), ?_, fun K => ?_⟩
    · rw [bs e1]
      simp only [if_neg c, if_neg c2]
    · rw [bs (e2 K)]
      simp only [if_neg c, if_neg c2]
theorem pair_odds (a b w : Int32) : Pair (g8_odds a b w) (g9_odds a b w) := by
  intro M I
  unfold g8_odds g9_odds
  rw [in8_9]
  rcases in_cases a 1 3 1 3 with h1 | ⟨n, hn1, hn3, rfl, h1⟩
  · exact ⟨-1, M, M, by rw [b0 (h1 M)], by rw [b0 (h1 M)], I⟩
  rcases in_cases b 0 9999 0 9999 with h2 | ⟨x, -, hx, rfl, h2⟩
  · exact ⟨-1, M, M, by rw [b1 (h1 M), b0 (h2 M)], by rw [b1 (h1 M), b0 (h2 M)], I⟩
  rcases in_cases w 0 1 0 1 with h3 | ⟨t, -, ht, rfl, h3⟩
  · exact ⟨-1, M, M, by rw [b1 (h1 M), b1 (h2 M), b0 (h3 M)], by rw [b1 (h1 M), b1 (h2 M), b0 (h3 M)], I⟩
  obtain ⟨V, L⟩ := lawV_of I.law
  obtain ⟨K1, e1, a1, f1, z1⟩ := become_eq (M := M) (p := 2) (q := 0) (by decide) (by decide) (by decide) I.ok I.z
  obtain ⟨K, e, zK, oK⟩ := behind_eq L (x := nI x) hn3 n 0 10 (by omega) (by omega) K1 (fun b hb => f1 b (by simp at hb; omega)) (by rw [a1]; exact I.ok) z1
  have e' : g5_countBehind_rec 10 0 (nI n) (nI x) K1 = some (nI (sAll V (nI x) n (K1 2)), K) := e
  rw [a1] at e'
  have ec : g5_countDraws (nI n) (nI x) M = some (nI (sAll V (nI x) n (M 0)), K) := by
    unfold g5_countDraws
    rw [bs e1, bs e']
  have oM : ∀ b, ¬ (2 ≤ b ∧ b < 6) → b ≠ 101 → b ≠ 102 → b ≠ 27 → b ≠ 28 → b ≠ 29 → K b = M b := fun b q1 q2 q3 q4 q5 q6 => by
    rw [oK b (by unfold SD; omega), f1 b (by omega)]
  have k7 : K 7 = M 7 := oM 7 (by omega) (by omega) (by omega) (by omega) (by omega) (by omega)
  obtain ⟨K2, e2, r2, f2, z2⟩ := cp155 zK
  have hA := sAll_le (V := V) (x := nI x) n (M 0)
  have hp : 10 ^ n ≤ 1000 ∧ 0 < 10 ^ n := by
    rcases (show n = 1 ∨ n = 2 ∨ n = 3 by omega) with rfl | rfl | rfl <;> decide
  have oM2 : Off (S7 ++ [2, 3, 4, 5, 101, 102, 27, 28, 29]) M K2 := fun b hb => by
    have q : b ≠ 8 ∧ ¬ (2 ≤ b ∧ b < 6) ∧ b ≠ 101 ∧ b ≠ 102 ∧ b ≠ 27 ∧ b ≠ 28 ∧ b ≠ 29 := by
      unfold S7 at hb
      simp at hb
      omega
    rw [f2 b q.1, oM b q.2.1 q.2.2.1 q.2.2.2.1 q.2.2.2.2.1 q.2.2.2.2.2.1 q.2.2.2.2.2.2]
  obtain ⟨K3, e3, r3, z3, o3⟩ := odds9_b L (x := nI x) (w := nI t) hn3 I.ok hp.1 (M := K2) (10 ^ n) 0 5000 0 K2 (by omega) (by omega) (by omega) (lawM.off' oM2 (by decide)) (by rw [r2, k7, I.eq7]) z2 Off.rf
  rw [Nat.zero_add, sAll_code] at e3
  obtain ⟨T, hT⟩ : ∃ T, T = 10 ^ n := ⟨_, rfl⟩
  rw [← hT] at e3 hp hA
  have e3' : g9_odds_b66 5000 (nI n) (nI x) (nI t) (nI T) 0 0 K2 = _ := e3
  have hnT : (n = 1 ∧ T = 10) ∨ (n = 2 ∧ T = 100) ∨ (n = 3 ∧ T = 1000) := by
    rcases (show n = 1 ∨ n = 2 ∨ n = 3 by omega) with rfl | rfl | rfl
    · exact Or.inl ⟨rfl, hT⟩
    · exact Or.inr (Or.inl ⟨rfl, hT⟩)
    · exact Or.inr (Or.inr ⟨rfl, hT⟩)
  clear hT
  obtain ⟨r, c1, c2⟩ := odds_end (M := K) (a := sAll V (nI x) n (M 0)) (T := T) (w := nI t) (by omega) hp.2 hp.1
  rw [c2] at e3'
  have oM3 : Off (S7 ++ [2, 3, 4, 5, 101, 102, 27, 28, 29]) M K3 := fun b hb => by
    rw [o3 b (fun q => hb (List.mem_append_left _ q)), oM2 b hb]
  refine ⟨r, K, K3, ?_, ?_, ?_⟩
  · rw [b1 (h1 M), b1 (h2 M), b1 (h3 M), bs ec]
    rcases hnT with ⟨rfl, rfl⟩ | ⟨rfl, rfl⟩ | ⟨rfl, rfl⟩
    · rw [if_pos (show nI 1 = 1 from rfl)]
      exact c1
    · rw [if_neg (by decide), if_pos (show nI 2 = 2 from rfl)]
      exact c1
    · rw [if_neg (by decide), if_neg (by decide)]
      exact c1
  · rw [b1 (h1 K), b1 (h2 K), b1 (h3 K), bs e2]
    unfold g9_odds_b58
    rcases hnT with ⟨rfl, rfl⟩ | ⟨rfl, rfl⟩ | ⟨rfl, rfl⟩
    · rw [if_pos (show nI 1 = 1 from rfl)]
      exact e3'
    · rw [if_neg (by decide), if_pos (show nI 2 = 2 from rfl)]
      exact e3'
    · rw [if_neg (by decide), if_neg (by decide)]
      exact e3'
  · exact I.fr (by rw [r3, oM3 0 (by decide)]) (by rw [oM3 0 (by decide)]; exact I.ok) z3 fun b hb => oM3 b (by revert b; decide)
