/-! PURE: prices -/
def Pt (p : Nat → Int32) (i j two : Nat) : Nat → Int32 := upd (upd p i (nI (two / 5 + 1))) j (nI (two % 5 + 1))
/-- what the two gain -/
def G0 (O p : Nat → Int32) (coins : Int32) (ch : Nat → Nat) (n i j two : Nat) : Int32 := if (spr ch (plC O (Pt p i j two) coins ch n) n).testBit i = true then nI (two / 5 + 1) else 0
def G1 (O p : Nat → Int32) (coins : Int32) (ch : Nat → Nat) (n i j two : Nat) : Int32 := if (spr ch (plC O (Pt p i j two) coins ch n) n).testBit j = true then nI (two % 5 + 1) else 0
theorem div5 {two : Nat} (h : two < 25) : nI two / 5 + 1 = nI (two / 5 + 1) := by
  rw [show nI two / 5 = nI (two / 5) from pk_div (by omega) (by decide) (by decide), nI_1]
theorem rem5 {two : Nat} (h : two < 25) : nI two - nI two / 5 * 5 = nI (two % 5) := pk_rem (by omega) (by decide) (by decide)
theorem mul01 {b : Bool} {x : Int32} : (if b = true then (1 : Int32) else 0) * x = if b = true then x else 0 := by
  cases b
  · rw [if_neg (by decide), if_neg (by decide), Int32.zero_mul]
  · rw [if_pos rfl, if_pos rfl, Int32.one_mul]
/-- prices of the others alike -/
def Alike (R p Q : Nat → Int32) (i j : Nat) : Prop := ∀ a, a < 9 → sUnlit R a = true → a ≠ i → a ≠ j → Q a = p a
theorem alike_pt {R p Q : Nat → Int32} {i j two : Nat} (h : Alike R p Q i j) : ∀ a, a < 9 → sUnlit R a = true → Pt Q i j two a = Pt p i j two a := fun a ha hu => by
  unfold Pt upd
  by_cases c1 : a = j
  · rw [if_pos c1, if_pos c1]
  rw [if_neg c1, if_neg c1]
  by_cases c2 : a = i
  · rw [if_pos c2, if_pos c2]
  · rw [if_neg c2, if_neg c2]
    exact h a ha hu c2 c1
theorem Alike.pt {R p Q : Nat → Int32} {i j two : Nat} (h : Alike R p Q i j) : Alike R p (Pt Q i j two) i j := fun a ha hu c1 c2 => by
  unfold Pt
  rw [ud_n c2, ud_n c1]
  exact h a ha hu c1 c2
theorem gains_b {R p O : Nat → Int32} {coins : Int32} {n i j : Nat} {ch : Nat → Nat} (hi : i < 9) (hj : j < 9) (hij : i ≠ j) {M : xMem} :
    ∀ (d k f : Nat) (N : xMem), k + d = 25 → d < f → Chs (inCh R 9 false) 12 n ch N → (∀ s, s < 2 ^ n → N 136 s = O (spr ch s n)) → Alike R p (N 138) i j → (∀ t, t < k → N 139 t = G0 O p coins ch n i j t ∧ N 140 t = G1 O p coins ch n i j t) → Off [137, 138, 139, 140] M N →
      ∃ K, g5_fillGains_b24 f (nI i) (nI j) coins (nI k) N = some K ∧ (∀ t, t < 25 → K 139 t = G0 O p coins ch n i j t ∧ K 140 t = G1 O p coins ch n i j t) ∧ Off [137, 138, 139, 140] M K
  | 0, k, f + 1, N, hk, hf, C, hO, A, hg, o => by
    obtain rfl : k = 25 := by omega
    unfold g5_fillGains_b24
    rw [if_pos (by decide)]
    exact ⟨N, rfl, hg, o⟩
  | d + 1, k, f + 1, N, hk, hf, C, hO, A, hg, o => by
    obtain ⟨h9, -⟩ := chs9 C
    have hn := pow_le n C.1
    unfold g5_fillGains_b24
    simp (disch := omega) only [↓reduceIte, i_ll, nle_f, nI_1, i_lt0, i_cl, or_self, mset_eq, div5, rem5]
    have r1 : (upM (upM N 138 i (nI (k / 5 + 1))) 138 j (nI (k % 5 + 1))) 138 = Pt (N 138) i j k := by rw [up_row, up_row]; rfl
    have o1 : Off [137, 138] N (upM (upM N 138 i (nI (k / 5 + 1))) 138 j (nI (k % 5 + 1))) := (Off.up (by decide)).up' (by decide)
    generalize upM (upM N 138 i (nI (k / 5 + 1))) 138 j (nI (k % 5 + 1)) = N1 at r1 o1 ⊢
    have C1 := C.fr (o1 134 (by decide)) (o1 135 (by decide))
    obtain ⟨K2, e2, c2, o2⟩ := fillCosts_eq h9 C1
    rw [bs e2]
    have C2 := C1.fr (o2 134 (by decide)) (o2 135 (by decide))
    have o12 : Off [137, 138] N K2 := o1.tr (o2.mono (by decide))
    have r2 : K2 138 = Pt (N 138) i j k := by rw [o2 138 (by decide), r1]
    have pl := planBy_eq C.1 (O := fun s => O (spr ch s n)) (C := fun s => cst (N1 138) (spr ch s n)) (coins := coins) C2.2.1 (fun s hs => by rw [o12 136 (by decide)]; exact hO s hs) c2
    have pl' : g5_planBy coins K2 = some (nI (plC O (N1 138) coins ch n), K2) := pl
    rw [r1, plC_congr C (alike_pt A)] at pl'
    have lt := plC_lt (O := O) (P := Pt p i j k) (coins := coins) (ch := ch) (n := n)
    rw [bs pl']
    have hs12 : spr ch (plC O (Pt p i j k) coins ch n) n < 2 ^ 12 := spr_lt n (Chs.lt C)
    dsimp only
    rw [bs (lampsOf_eq (by omega) C2)]
    dsimp only
    rw [bitSet (by omega) (by omega), bitSet (by omega) (by omega), mul01, mul01, r2]
    have v1 : Pt (N 138) i j k i = nI (k / 5 + 1) := by unfold Pt; rw [ud_n hij, ud_s]
    have v2 : (upM K2 139 k (if (spr ch (plC O (Pt p i j k) coins ch n) n).testBit i = true then Pt (N 138) i j k i else 0)) 138 j = nI (k % 5 + 1) := by
      rw [up_b (by decide), r2]
      unfold Pt
      rw [ud_s]
    rw [v2, v1]
    have o3 : Off [137, 138, 139, 140] N (upM (upM K2 139 k (if (spr ch (plC O (Pt p i j k) coins ch n) n).testBit i = true then nI (k / 5 + 1) else 0)) 140 k (if (spr ch (plC O (Pt p i j k) coins ch n) n).testBit j = true then nI (k % 5 + 1) else 0)) := ((o12.mono (by decide)).up' (by decide)).up' (by decide)
    refine gains_b hi hj hij d (k + 1) f _ (by omega) (by omega) (C.fr (o3 134 (by decide)) (o3 135 (by decide))) (fun s hs => by rw [o3 136 (by decide)]; exact hO s hs) ?_ (fun t ht => ?_) (o.tr o3)
    · rw [up_b (by decide), up_b (by decide), r2]
      exact A.pt
    · by_cases c : t = k
      · subst c
        refine ⟨?_, up_s⟩
        rw [up_b (by decide), up_s]
        rfl
      · rw [up_b (show (139 : Nat) ≠ 140 by decide), up_i c, up_i c, up_b (show (140 : Nat) ≠ 139 by decide), o12 139 (by decide), o12 140 (by decide)]
        exact hg t (by omega)
theorem gains9_b {R p O : Nat → Int32} {coins : Int32} (hco : 0 ≤ coins) {n i j : Nat} {ch : Nat → Nat} (hi : i < 9) (hj : j < 9) (hij : i ≠ j) {N0 : xMem} (C : Chs (inCh R 9 false) 12 n ch N0) (h0 : ∃ j : Nat, j < 100000 ∧ O 0 = nI j) {M : xMem} :
    ∀ (d k f : Nat) (N : xMem), k + d = 25 → d < f → (∀ l, l < 32 → bitOf (N 189 0) l = (decide (l < 9) && sUnlit R l)) → (∀ a, a < 512 → subB R a → N 187 a = O a) → Alike R p (N 188) i j → (∀ t, t < k → N 193 t = G0 O p coins ch n i j t ∧ N 194 t = G1 O p coins ch n i j t) → Off [188, 190, 191, 192, 193, 194] M N →
      ∃ K, g9_laysGains_b3 f (nI i) (nI j) coins (nI k) N = some K ∧ (∀ t, t < 25 → K 193 t = G0 O p coins ch n i j t ∧ K 194 t = G1 O p coins ch n i j t) ∧ Off [188, 190, 191, 192, 193, 194] M K
  | 0, k, f + 1, N, hk, hf, hx, hO, A, hg, o => by
    obtain rfl : k = 25 := by omega
    unfold g9_laysGains_b3
    rw [if_pos (by decide)]
    exact ⟨N, rfl, hg, o⟩
  | d + 1, k, f + 1, N, hk, hf, hx, hO, A, hg, o => by
    unfold g9_laysGains_b3 g9_laysGains_b66 g9_laysGains_b94
    simp (disch := omega) only [↓reduceIte, i_ll, nle_f, nI_1, i_lt0, i_cl, or_self, mset_eq, div5, rem5]
    have r1 : (upM (upM N 188 i (nI (k / 5 + 1))) 188 j (nI (k % 5 + 1))) 188 = Pt (N 188) i j k := by rw [up_row, up_row]; rfl
    have o1 : Off [188] N (upM (upM N 188 i (nI (k / 5 + 1))) 188 j (nI (k % 5 + 1))) := (Off.up (by decide)).up' (by decide)
    generalize upM (upM N 188 i (nI (k / 5 + 1))) 188 j (nI (k % 5 + 1)) = N1 at r1 o1 ⊢
    obtain ⟨K2, e2, -, -, p2, o2⟩ := laysPlan_eq (R := R) (O := O) hco C (N := N1) (by rw [o1 189 (by decide)]; exact hx) (by rw [o1 187 (by decide)]; exact hO) h0
    rw [r1, plC_congr C (alike_pt A)] at p2
    have lt := plC_lt (O := O) (P := Pt p i j k) (coins := coins) (ch := ch) (n := n)
    have hs12 : spr ch (plC O (Pt p i j k) coins ch n) n < 2 ^ 12 := spr_lt n (Chs.lt C)
    rw [bs e2, p2]
    rw [bs (has9_bit (by omega)), bitOf_nI (by omega) (by omega)]
    simp only [b2i_0]
    have r2 : K2 188 = Pt (N 188) i j k := by rw [o2 188 (by decide), r1]
    have v1 : K2 188 i = nI (k / 5 + 1) := by rw [r2]; unfold Pt; rw [ud_n hij, ud_s]
    have v2 : K2 188 j = nI (k % 5 + 1) := by rw [r2]; unfold Pt; rw [ud_s]
    have o12 : Off [188, 190, 191, 192] N K2 := (o1.mono (by decide)).tr (o2.mono (by decide))
    have fin : ∀ x y, x = G0 O p coins ch n i j k → y = G1 O p coins ch n i j k → ∃ K, g9_laysGains_b3 f (nI i) (nI j) coins (nI (k + 1)) (upM (upM K2 193 k x) 194 k y) = some K ∧ (∀ t, t < 25 → K 193 t = G0 O p coins ch n i j t ∧ K 194 t = G1 O p coins ch n i j t) ∧ Off [188, 190, 191, 192, 193, 194] M K := fun x y hx' hy' => by
      have o3 : Off [188, 190, 191, 192, 193, 194] N (upM (upM K2 193 k x) 194 k y) := ((o12.mono (by decide)).up' (by decide)).up' (by decide)
      refine gains9_b hco hi hj hij C h0 d (k + 1) f _ (by omega) (by omega) (by rw [o3 189 (by decide)]; exact hx) (by rw [o3 187 (by decide)]; exact hO) ?_ (fun t ht => ?_) (o.tr o3)
      · rw [up_b (by decide), up_b (by decide), r2]
        exact A.pt
      · by_cases c : t = k
        · subst c
          refine ⟨?_, ?_⟩
          · rw [up_b (by decide), up_s, hx']
          · rw [up_s, hy']
        · rw [up_b (show (193 : Nat) ≠ 194 by decide), up_i c, up_i c, up_b (show (194 : Nat) ≠ 193 by decide), o12 193 (by decide), o12 194 (by decide)]
          exact hg t (by omega)
    have second : ∀ x, x = G0 O p coins ch n i j k → ∃ K, (Option.bind (g9_has ((upM K2 193 k x) 190 0) (nI j) (upM K2 193 k x)) fun q13 => if q13.1 = 0 then g9_laysGains_b3 f (nI i) (nI j) coins (nI (k + 1)) (upM q13.2 194 k 0) else g9_laysGains_b3 f (nI i) (nI j) coins (nI (k + 1)) (upM q13.2 194 k (q13.2 188 j))) = some K ∧ (∀ t, t < 25 → K 193 t = G0 O p coins ch n i j t ∧ K 194 t = G1 O p coins ch n i j t) ∧ Off [188, 190, 191, 192, 193, 194] M K := fun x hx' => by
      rw [up_b (show (190 : Nat) ≠ 193 by decide), p2, bs (has9_bit (by omega)), bitOf_nI (by omega) (by omega)]
      simp only [b2i_0]
      by_cases c : (spr ch (plC O (Pt p i j k) coins ch n) n).testBit j = true
      · rw [if_neg (fun q => q c), up_b (show (188 : Nat) ≠ 193 by decide), v2]
        exact fin _ _ hx' (if_pos c).symm
      · rw [if_pos c]
        exact fin _ _ hx' (if_neg c).symm
    by_cases c : (spr ch (plC O (Pt p i j k) coins ch n) n).testBit i = true
    · rw [if_neg (fun q => q c), v1]
      exact second _ (if_pos c).symm
    · rw [if_pos c]
      exact second _ (if_neg c).symm
/-- neither gains more by another price of its own -/
def rsP (A B : Nat → Int32) (two : Nat) : Nat → Nat → Bool
  | 0, _ => true
  | d + 1, k => (decide (A (5 * k + two % 5) ≤ A two) && decide (B (two / 5 * 5 + k) ≤ B two)) && rsP A B two d (k + 1)
theorem le_nlt {a b : Int32} : (a ≤ b) = ¬ b < a := propext ⟨fun q r => by
    have a1 := (fa_lt' _ _).mp r
    have a2 := (fa_le' _ _).mp q
    omega, fun q => (fa_le' _ _).mpr (by
    have : ¬ b.toInt < a.toInt := fun r => q ((fa_lt' _ _).mpr r)
    omega)⟩
theorem rests9_b {A B : Nat → Int32} {two : Nat} (ht : two < 25) {N : xMem} (hA : ∀ t, t < 25 → N 193 t = A t) (hB : ∀ t, t < 25 → N 194 t = B t) : ∀ (d k f : Nat), k + d = 5 → d < f →
    g9_rests_b2 f (nI two) (nI k) N = some (b2i (rsP A B two d k = true), N)
  | 0, k, f + 1, hk, hf => by
    obtain rfl : k = 5 := by omega
    unfold g9_rests_b2
    rw [if_pos (by decide)]
    rfl
  | d + 1, k, f + 1, hk, hf => by
    have ih := rests9_b ht hA hB d (k + 1) f (by omega) (by omega)
    have d1 : nI two / 5 = nI (two / 5) := pk_div (by omega) (by decide) (by decide)
    have r1 : nI two - nI (two / 5 * 5) = nI (two % 5) := by rw [i_sub (by omega), show two - two / 5 * 5 = two % 5 by omega]
    unfold g9_rests_b2 rsP
    simp (disch := omega) only [↓reduceIte, i_ll, nle_f, nI_1, i_lt0, i_cl, or_self, d1, r1, i_ml, i_mr, nI_add]
    rw [hA two ht, hA _ (by omega), hB two ht, hB _ (by omega)]
    by_cases c1 : A two < A (5 * k + two % 5)
    · rw [if_pos c1, decide_eq_false (by rw [le_nlt]; exact fun q => q c1), Bool.false_and, Bool.false_and]; rfl
    · rw [if_neg c1, decide_eq_true (by rw [le_nlt]; exact c1), Bool.true_and]
      by_cases c2 : B (two / 5 * 5 + k) ≤ B two
      · rw [if_pos c2, decide_eq_true c2, Bool.true_and, ih]
      · rw [if_neg c2, decide_eq_false c2, Bool.false_and]; rfl
theorem flag {a b c : Bool} : ((if a = true then (1 : Int32) else 0) &&& (if b = true then 1 else 0)) &&& (if c = true then 1 else 0) = if (a && (b && c)) = true then 1 else 0 := by
  cases a <;> cases b <;> cases c <;> decide
theorem rest_b {A B : Nat → Int32} {two : Nat} (ht : two < 25) {k6 : Int32 → xMem → Option xMem} {N : xMem} (hA : ∀ t, t < 25 → N 139 t = A t) (hB : ∀ t, t < 25 → N 140 t = B t) : ∀ (d k f : Nat) (a : Bool), k + d = 5 → d < f →
    g5_findRest_b16 k6 f (nI two) (if a = true then 1 else 0) (nI k) N = if (a && rsP A B two d k) = true then (Option.bind (g5_found (nI two) N) fun q6 => k6 (nI (two + 1)) q6) else k6 (nI (two + 1)) N
  | 0, k, f + 1, a, hk, hf => by
    obtain rfl : k = 5 := by omega
    unfold g5_findRest_b16 g5_findRest_b94 rsP
    rw [if_pos (by decide), nI_1]
    cases a
    · rw [if_pos (by decide), if_neg (by decide)]
    · rw [if_neg (by decide), if_pos (by decide)]
  | d + 1, k, f + 1, a, hk, hf => by
    have ih := fun a => rest_b ht (k6 := k6) hA hB d (k + 1) f a (by omega) (by omega)
    have d1 : nI two / 5 = nI (two / 5) := pk_div (by omega) (by decide) (by decide)
    have r1 : nI two - nI (two / 5 * 5) = nI (two % 5) := by rw [i_sub (by omega), show two - two / 5 * 5 = two % 5 by omega]
    have s1 : nI two - nI (two % 5) = nI (two / 5 * 5) := by rw [i_sub (by omega), show two - two % 5 = two / 5 * 5 by omega]
    unfold g5_findRest_b16 g5_findRest_b48 g5_findRest_b77 rsP
    simp (disch := omega) only [↓reduceIte, i_ll, nle_f, nI_1, i_lt0, i_cl, or_self, d1, r1, s1, i_ml, i_mr, nI_add]
    rw [hA two ht, hA _ (by omega), hB two ht, hB _ (by omega)]
    have e1 : ∀ b c : Bool, g5_findRest_b16 k6 f (nI two) (((if a = true then (1 : Int32) else 0) &&& (if b = true then 1 else 0)) &&& (if c = true then 1 else 0)) (nI (k + 1)) N = if ((a && (b && c)) && rsP A B two d (k + 1)) = true then (Option.bind (g5_found (nI two) N) fun q6 => k6 (nI (two + 1)) q6) else k6 (nI (two + 1)) N := fun b c => by
      rw [flag]
      exact ih _
    by_cases c1 : A two < A (5 * k + two % 5)
    · rw [if_pos c1, decide_eq_false (show ¬ A (5 * k + two % 5) ≤ A two by rw [le_nlt]; exact fun q => q c1)]
      by_cases c2 : B two < B (two / 5 * 5 + k)
      · rw [if_pos c2, decide_eq_false (show ¬ B (two / 5 * 5 + k) ≤ B two by rw [le_nlt]; exact fun q => q c2)]
        have := e1 false false
        rw [Bool.and_assoc] at this
        exact this
      · rw [if_neg c2, decide_eq_true (show B (two / 5 * 5 + k) ≤ B two by rw [le_nlt]; exact c2)]
        have := e1 false true
        rw [Bool.and_assoc] at this
        exact this
    · rw [if_neg c1, decide_eq_true (show A (5 * k + two % 5) ≤ A two by rw [le_nlt]; exact c1)]
      by_cases c2 : B two < B (two / 5 * 5 + k)
      · rw [if_pos c2, decide_eq_false (show ¬ B (two / 5 * 5 + k) ≤ B two by rw [le_nlt]; exact fun q => q c2)]
        have := e1 true false
        rw [Bool.and_assoc] at this
        exact this
      · rw [if_neg c2, decide_eq_true (show B (two / 5 * 5 + k) ≤ B two by rw [le_nlt]; exact c2)]
        have := e1 true true
        rw [Bool.and_assoc] at this
        exact this
theorem rests_b {A B : Nat → Int32} {M : xMem} : ∀ (d k f m : Nat) (g : Int32) (N : xMem), k + d = 25 → d < f → m ≤ k → (∀ t, t < 25 → N 139 t = A t) → (∀ t, t < 25 → N 140 t = B t) → N 141 0 = nI m → N 142 0 = g → Off [141, 142] M N →
    ∃ K, g5_findRest_b6 f (nI k) N = some K ∧ K 141 0 = nI (sCnt (fun t => rsP A B t 5 0) d k m g).1 ∧ K 142 0 = (sCnt (fun t => rsP A B t 5 0) d k m g).2 ∧ Off [141, 142] M K
  | 0, k, f + 1, m, g, N, hk, hf, hm, hA, hB, h1, h2, o => by
    obtain rfl : k = 25 := by omega
    unfold g5_findRest_b6
    rw [if_pos (by decide)]
    exact ⟨N, rfl, h1, h2, o⟩
  | d + 1, k, f + 1, m, g, N, hk, hf, hm, hA, hB, h1, h2, o => by
    unfold g5_findRest_b6 sCnt
    have e := rest_b (A := A) (B := B) (two := k) (k6 := g5_findRest_b6 f) (by omega) hA hB 5 0 5000 true rfl (by omega)
    have e' : g5_findRest_b16 (g5_findRest_b6 f) 5000 (nI k) 1 0 N = if (true && rsP A B k 5 0) = true then (Option.bind (g5_found (nI k) N) fun q6 => g5_findRest_b6 f (nI (k + 1)) q6) else g5_findRest_b6 f (nI (k + 1)) N := e
    rw [Bool.true_and] at e'
    simp (disch := omega) only [↓reduceIte, i_ll, nle_f]
    rw [e']
    by_cases c : rsP A B k 5 0 = true
    · rw [if_pos c, if_pos c]
      obtain ⟨K4, e4, a4, b4, o4⟩ := found_eq (x := nI k) (m := m) (by omega) h1 h2
      rw [bs e4]
      exact rests_b d (k + 1) f (m + 1) _ K4 (by omega) (by omega) (by omega) (fun t ht => by rw [o4 139 (by decide)]; exact hA t ht) (fun t ht => by rw [o4 140 (by decide)]; exact hB t ht) a4 b4 (o.tr o4)
    · rw [if_neg c, if_neg c]
      exact rests_b d (k + 1) f m g N (by omega) (by omega) (by omega) hA hB h1 h2 o
def ansP (w : Int32) (m : Nat) (f : Int32) : Int32 := if w = 0 then nI m else if m = 0 then -2 else if w = 1 then f / 5 + 1 else (f - f / 5 * 5) + 1
theorem prices9_b {A B : Nat → Int32} {w : Int32} {N : xMem} (hA : ∀ t, t < 25 → N 193 t = A t) (hB : ∀ t, t < 25 → N 194 t = B t) : ∀ (d k f m : Nat) (g : Int32), k + d = 25 → d < f → m ≤ k → (m = 0 ↔ g = -1) →
    g9_prices_b65 f w (nI m) g (nI k) N = some (ansP w (sCnt (fun t => rsP A B t 5 0) d k m g).1 (sCnt (fun t => rsP A B t 5 0) d k m g).2, N)
  | 0, k, f + 1, m, g, hk, hf, hm, hg => by
    obtain rfl : k = 25 := by omega
    unfold g9_prices_b65 ansP sCnt
    rw [if_pos (by decide)]
    dsimp only
    by_cases c : w = 0
    · rw [if_pos c, if_pos c]
    rw [if_neg c, if_neg c]
    by_cases c1 : m = 0
    · rw [if_pos (hg.mp c1), if_pos c1]
    rw [if_neg (fun q => c1 (hg.mpr q)), if_neg c1]
    by_cases c2 : w = 1
    · rw [if_pos c2, if_pos c2]
    · rw [if_neg c2, if_neg c2]
  | d + 1, k, f + 1, m, g, hk, hf, hm, hg => by
    have r := rests9_b (A := A) (B := B) (two := k) (by omega) hA hB 5 0 5000 rfl (by omega)
    have r' : g9_rests (nI k) N = some (b2i (rsP A B k 5 0 = true), N) := r
    unfold g9_prices_b65 g9_prices_b97 g9_prices_b105 sCnt
    simp (disch := omega) only [↓reduceIte, i_ll, nle_f, nI_1]
    rw [bs r']
    simp only [b2i_0]
    by_cases c : rsP A B k 5 0 = true
    · rw [if_neg (fun q => q c), if_pos c]
      by_cases c1 : m = 0
      · rw [if_pos (hg.mp c1), if_pos c1]
        exact prices9_b hA hB d (k + 1) f (m + 1) (nI k) (by omega) (by omega) (by omega) ⟨fun q => absurd q (by omega), fun q => absurd q (nI_m1 (by omega))⟩
      · rw [if_neg (fun q => c1 (hg.mpr q)), if_neg c1]
        exact prices9_b hA hB d (k + 1) f (m + 1) g (by omega) (by omega) (by omega) ⟨fun q => absurd q (by omega), fun q => absurd (hg.mpr q) c1⟩
    · rw [if_pos c, if_neg c]
      exact prices9_b hA hB d (k + 1) f m g (by omega) (by omega) (by omega) hg
/-- an inn that is there and not lit -/
theorem unlit_cases (a : Int32) {M : xMem} (I : Inv M) : (g8_isInnThere a M = some (0, M) ∧ g9_isUnlit a M = some (0, M)) ∨
    (g8_isInnThere a M = some (1, M) ∧ ∃ i : Nat, i < 9 ∧ a = nI i ∧ g6_isLit 0 a M = some (1, M) ∧ ∀ N, N 7 = M 7 → g9_isUnlit a N = some (0, N)) ∨
    (g8_isInnThere a M = some (1, M) ∧ ∃ i : Nat, i < 9 ∧ a = nI i ∧ g6_isLit 0 a M = some (0, M) ∧ sUnlit (M 0) i = true ∧ ∀ N, N 7 = M 7 → g9_isUnlit a N = some (1, N)) := by
  unfold g9_isUnlit
  rcases innThere_cases a I with ⟨h1, h2 | ⟨h2, h3⟩⟩ | ⟨i, hi, rfl, ht, h1, h2, h3⟩
  · exact Or.inl ⟨h1, by rw [b0 h2]⟩
  · exact Or.inl ⟨h1, by rw [b1 h2, b0 h3]⟩
  · have l8 := lit_in (p := 0) (l := i) I.ok (by omega)
    have l9 : ∀ N, N 7 = M 7 → g9_isLit (nI i) N = some (b2i (sLit (M 0) i = true), N) := fun N hN => by
      rw [lit9_in (by rw [hN]; exact I.ok7) (by omega), hN, I.eq7]
    by_cases c : sLit (M 0) i = true
    · refine Or.inr (Or.inl ⟨h1, i, hi, rfl, by rw [l8, b2i_t c], fun N hN => ?_⟩)
      have l9' := l9 N hN
      rw [b2i_t c] at l9'
      rw [b1 (h2 N), b1 (lamp9_of0 hN _ h3), b1 l9']
    · refine Or.inr (Or.inr ⟨h1, i, hi, rfl, by rw [l8, b2i_f c], unlit_split.mpr ⟨by rw [ht]; decide, c⟩, fun N hN => ?_⟩)
      have l9' := l9 N hN
      rw [b2i_f c] at l9'
      rw [b1 (h2 N), b1 (lamp9_of0 hN _ h3), b0 l9']
theorem pair_prices (a b c w : Int32) : Pair (g8_prices a b c w) (g9_prices a b c w) := by
  intro M I
  unfold g8_prices g9_prices
  rw [in8_9]
  rcases unlit_cases a I with ⟨h1, h1'⟩ | ⟨h1, i, hi, ei, l1, h1'⟩ | ⟨h1, i, hi, ei, l1, u1, h1'⟩
  · exact ⟨-3, M, M, by rw [b0 h1], by rw [b0 h1'], I⟩
  · refine ⟨-3, M, M, ?_, by rw [b0 (h1' M rfl)], I⟩
    rcases unlit_cases b I with ⟨h2, -⟩ | ⟨h2, -⟩ | ⟨h2, -⟩
    · rw [b1 h1, b0 h2]
    · rw [b1 h1, b1 h2]
      by_cases e : a = b
      · rw [if_pos e]
      · rw [if_neg e, b1 l1]
    · rw [b1 h1, b1 h2]
      by_cases e : a = b
      · rw [if_pos e]
      · rw [if_neg e, b1 l1]
  rcases unlit_cases b I with ⟨h2, h2'⟩ | ⟨h2, j, hj, ej, l2, h2'⟩ | ⟨h2, j, hj, ej, l2, u2, h2'⟩
  · exact ⟨-3, M, M, by rw [b1 h1, b0 h2], by rw [b1 (h1' M rfl), b0 h2'], I⟩
  · refine ⟨-3, M, M, ?_, by rw [b1 (h1' M rfl), b0 (h2' M rfl)], I⟩
    rw [b1 h1, b1 h2]
    by_cases e : a = b
    · rw [if_pos e]
    · rw [if_neg e, b0 l1, b1 l2]
  by_cases e : a = b
  · exact ⟨-3, M, M, by rw [b1 h1, b1 h2, if_pos e], by rw [b1 (h1' M rfl), b1 (h2' M rfl), if_pos e], I⟩
  rcases in_cases c 0 9999 0 9999 with h3 | ⟨co, -, hco, rfl, h3⟩
  · exact ⟨-3, M, M, by rw [b1 h1, b1 h2, if_neg e, b0 l1, b0 l2, b0 (h3 M)], by rw [b1 (h1' M rfl), b1 (h2' M rfl), if_neg e, b0 (h3 M)], I⟩
  rcases in_cases w 0 2 0 2 with h4 | ⟨t, -, ht, rfl, h4⟩
  · exact ⟨-3, M, M, by rw [b1 h1, b1 h2, if_neg e, b0 l1, b0 l2, b1 (h3 M), b0 (h4 M)], by rw [b1 (h1' M rfl), b1 (h2' M rfl), if_neg e, b1 (h3 M), b0 (h4 M)], I⟩
  have hij : i ≠ j := fun q => e (by rw [ei, ej, q])
  obtain ⟨V, u, n, ch, K1, K2, -, vb, hu, e1, e2, o2, z2, C, hO, hp, hc, H9⟩ := both_weigh I
  have A8 : Alike (M 0) (sPrice V (M 0)) (K2 138) i j := fun a ha q _ _ => hp a ha (unlit_there q)
  obtain ⟨K3, e3, g3, o3⟩ := gains_b (R := M 0) (p := sPrice V (M 0)) (O := sOut V (M 0) u) (coins := nI co) hi hj hij (M := K2) 25 0 5000 K2 rfl (by omega) C hO A8 (fun t ht => absurd ht (by omega)) Off.rf
  have in8 : ∀ x : Nat, x < 9 → ∀ N, g9_in (nI x) 0 8 N = some (1, N) := fun x hx N => by
    unfold g9_in
    simp (disch := omega) only [↓reduceIte, mset_eq, i_lt0, i_cl, i_ll, i_lr, i_tl, i_tr, i_el, i_er, i_le, i_lt, i_eq, i_al, i_ar, i_sr, i_sl, i_ml, i_mr, i_dr, i_cll, nI_add, pk_mul, i_sub, nle_f, nle_t, nlt_f, nlt_t, neq_f, if_true, if_false, ite_true, ite_false, false_or, or_false, true_or, or_true, or_self, not_false_eq_true, not_true_eq_false, Option.bind_some, Nat.zero_add, Nat.add_zero]
  have e3' : g5_fillGains a b (nI co) K2 = some K3 := by
    unfold g5_fillGains
    rw [in8_9, ei, ej, b1 (in8 i hi K2), b1 (in8 j hj K2)]
    exact e3
  obtain ⟨K4, e4, a1, a2, -, -, o4⟩ := clearFound_eq (N := K3)
  obtain ⟨K5, e5, k1, k2, o5⟩ := rests_b (A := fun t => G0 (sOut V (M 0) u) (sPrice V (M 0)) (nI co) ch n i j t) (B := fun t => G1 (sOut V (M 0) u) (sPrice V (M 0)) (nI co) ch n i j t) (M := K4) 25 0 5000 0 (-1) K4 rfl (by omega) (by omega) (fun t ht => by rw [o4 139 (by decide)]; exact (g3 t ht).1) (fun t ht => by rw [o4 140 (by decide)]; exact (g3 t ht).2) a1 a2 Off.rf
  have e5' : g5_findRest K3 = some K5 := by
    unfold g5_findRest
    rw [bs e4]
    exact e5
  have o25 : Off SW K2 K5 := ((o3.mono (by decide)).tr (o4.mono (by decide))).tr (o5.mono (by decide))
  have oM5 := o2.tr o25
  have z5 : Z10 K5 := z2.of fun b hb => by rw [o5 b (by simp; omega), o4 b (by simp; omega), o3 b (by simp; omega)]
  obtain ⟨K6, e6, k67, hx, hp9, hO9, z6, o6⟩ := H9 K5 oM5 z5
  obtain ⟨j0, hj0, ej0⟩ := sOut_nat vb I.ok (u := u) (m := 0)
  have A9 : Alike (M 0) (sPrice V (M 0)) (K6 188) i j := fun a ha q _ _ => hp9 a ha q
  obtain ⟨K7, e7, g7, o7⟩ := gains9_b (R := M 0) (p := sPrice V (M 0)) (O := sOut V (M 0) u) (coins := nI co) (i_0le (by omega)) hi hj hij C ⟨j0, by omega, ej0⟩ (M := K6) 25 0 5000 K6 rfl (by omega) hx hO9 A9 (fun t ht => absurd ht (by omega)) Off.rf
  have e7' : g9_laysGains a b (nI co) K6 = some K7 := by
    unfold g9_laysGains
    rw [ei, ej]
    exact e7
  have e8 := prices9_b (A := fun t => G0 (sOut V (M 0) u) (sPrice V (M 0)) (nI co) ch n i j t) (B := fun t => G1 (sOut V (M 0) u) (sPrice V (M 0)) (nI co) ch n i j t) (w := nI t) (N := K7) (fun t ht => (g7 t ht).1) (fun t ht => (g7 t ht).2) 25 0 5000 0 (-1) rfl (by omega) (by omega) ⟨fun _ => rfl, fun _ => rfl⟩
  have e8' : g9_prices_b65 5000 (nI t) 0 (-1) 0 K7 = _ := e8
  have le := sCnt_le (P := fun t => rsP (fun t => G0 (sOut V (M 0) u) (sPrice V (M 0)) (nI co) ch n i j t) (fun t => G1 (sOut V (M 0) u) (sPrice V (M 0)) (nI co) ch n i j t) t 5 0) 25 0 0 (-1)
  have k57 : K5 7 = M 7 := oM5 7 (by decide)
  have J : Inv K7 := I.trials oM5 (by decide) (o6.tr (o7.mono (by decide))) (by decide) (by rw [o7 7 (by decide), k67]) (z6.of fun b hb => o7 b (by simp; omega))
  refine ⟨_, K5, K7, ?_, by rw [b1 (h1' K5 k57), b1 (h2' K5 k57), if_neg e, b1 (h3 K5), b1 (h4 K5), bs e6, bs e7', e8'], J⟩
  rw [b1 h1, b1 h2, if_neg e, b0 l1, b0 l2, b1 (h3 M), b1 (h4 M), bs e1, bs e2, bs e3', bs e5', k1, k2]
  unfold ansP
  by_cases c0 : nI t = 0
  · rw [if_pos c0, if_pos c0]
  rw [if_neg c0, if_neg c0]
  generalize sCnt (fun t => rsP (fun t => G0 (sOut V (M 0) u) (sPrice V (M 0)) (nI co) ch n i j t) (fun t => G1 (sOut V (M 0) u) (sPrice V (M 0)) (nI co) ch n i j t) t 5 0) 25 0 0 (-1) = x at le ⊢
  by_cases c1 : x.1 = 0
  · rw [if_pos (by rw [c1]; exact nI_0), if_pos c1]
  rw [if_neg (nI_ne0 (by omega) (by omega)), if_neg c1]
  by_cases c2 : nI t = 1
  · rw [if_pos c2, if_pos c2]
  · rw [if_neg c2, if_neg c2]
