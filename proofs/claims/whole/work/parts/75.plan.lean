/-! PURE: plan -/
theorem lampsOf_b {R : Nat → Int32} {most n s : Nat} {str : Bool} {ch : Nat → Nat} (hs : s < 512) {N : xMem} (C : Chs (inCh R most str) 12 n ch N) : ∀ (d b f : Nat), b + d = n → d < f → g5_lampsOf_b4 f (nI s) (nI (spr ch s b)) (nI b) N = some (nI (spr ch s n), N)
  | 0, b, f + 1, hk, hf => by
    obtain rfl : b = n := by omega
    unfold g5_lampsOf_b4
    rw [C.2.1, if_pos ((nI_leI (by have := C.1; omega) (by have := C.1; omega)).mpr (Nat.le_refl _))]
  | d + 1, b, f + 1, hk, hf => by
    have hn := C.1
    have hc := C.2.2.1 b (by omega)
    have ih := lampsOf_b hs C d (b + 1) f (by omega) (by omega)
    unfold g5_lampsOf_b4
    rw [C.2.1, if_neg (fun q => by have := (nI_leI (by omega) (by omega)).mp q; omega), bitSet (by omega) (by omega)]
    simp (disch := omega) only [↓reduceIte, i_ll, nle_f, i_lt0, i_cl, or_self, nI_1, hc.1]
    have h1 : spr ch s b < 2 ^ 12 := spr_lt b fun i hi => (C.2.2.1 i (by omega)).2
    have h2 : spr ch s (b + 1) < 2 ^ 12 := spr_lt (b + 1) fun i hi => (C.2.2.1 i (by omega)).2
    have e : nI (spr ch s b) ||| ((if s.testBit b = true then (1 : Int32) else 0) <<< (nI (ch b) &&& 31)) = nI (spr ch s (b + 1)) := by
      refine bit_ext fun l hl => ?_
      rw [bitOf_or, bitOf_nI (by omega) hl, bitOf_nI (by omega) hl]
      show _ = (spr ch s b ||| _).testBit l
      rw [Nat.testBit_or]
      by_cases c : s.testBit b = true
      · rw [if_pos c, if_pos c, bit_up _ (by omega) l hl, Nat.testBit_two_pow]
      · rw [if_neg c, if_neg c, bit_up0 _ (by omega), bitOf_0, Nat.zero_testBit]
    rw [e]
    exact ih
theorem lampsOf_eq {R : Nat → Int32} {most n s : Nat} {str : Bool} {ch : Nat → Nat} (hs : s < 512) {N : xMem} (C : Chs (inCh R most str) 12 n ch N) : g5_lampsOf (nI s) N = some (nI (spr ch s n), N) :=
  lampsOf_b hs C n 0 5000 (by omega) (by have := C.1; omega)
/-- the better of two -/
abbrev btr (O C : Nat → Int32) (coins : Int32) (s c : Nat) : Prop := C s ≤ coins ∧ (O c < O s ∨ (O s = O c ∧ C s < C c))
def stC (O C : Nat → Int32) (coins : Int32) (s c : Nat) : Nat := if btr O C coins s c then s else c
theorem stC_lt {O C : Nat → Int32} {coins : Int32} {T : Nat} : ∀ (d k c : Nat), k + d ≤ T → c < T → loopN (stC O C coins) d k c < T
  | 0, _, _, _, hc => hc
  | d + 1, k, c, hk, hc => by
    unfold loopN
    refine stC_lt d (k + 1) _ (by omega) ?_
    unfold stC
    split <;> omega
theorem planBy_b {n : Nat} (hn : n ≤ 9) {O C : Nat → Int32} {coins : Int32} {N : xMem} (e : N 135 0 = nI n) (hO : ∀ s, s < 2 ^ n → N 136 s = O s) (hC : ∀ s, s < 2 ^ n → N 137 s = C s) : ∀ (d s f c : Nat), s + d = 2 ^ n → d < f → c < 2 ^ n →
    g5_planBy_b4 f coins (nI c) (nI s) N = some (nI (loopN (stC O C coins) d s c), N)
  | 0, s, f + 1, c, hk, hf, hc => by
    have h := pow_le n hn
    obtain rfl : s = 2 ^ n := by omega
    unfold g5_planBy_b4
    by_cases c : 512 ≤ 2 ^ n
    · rw [if_pos (show (512 : Int32) ≤ nI (2 ^ n) from (nI_leI (a := 512) (by omega) (by omega)).mpr c)]
      rfl
    · rw [if_neg (show ¬ (512 : Int32) ≤ nI (2 ^ n) from fun q => c ((nI_leI (a := 512) (by omega) (by omega)).mp q)), bs (isSet_eq hn e (by omega)), b2i_f (by omega), if_pos rfl]
      rfl
  | d + 1, s, f + 1, c, hk, hf, hc => by
    have h := pow_le n hn
    have ih := fun c hc => planBy_b hn e hO hC (coins := coins) d (s + 1) f c (by omega) (by omega) hc
    unfold g5_planBy_b4 g5_planBy_b61 g5_planBy_b65 g5_planBy_b66 g5_planBy_b85 loopN
    simp (disch := omega) only [↓reduceIte, i_ll, nle_f]
    rw [bs (isSet_eq hn e (by omega)), b2i_t (show s < 2 ^ n by omega), if_neg (show ¬ (1 : Int32) = 0 by decide)]
    simp (disch := omega) only [↓reduceIte, i_lt0, i_cl, nle_f, or_self, nI_1]
    rw [bs (cameOf_in hn e hc), bs (cameOf_in hn e hc), bs (costOf_in hn e hc)]
    simp only [hO s (by omega), hC s (by omega), hO c hc, hC c hc]
    have nlt : ∀ {a b : Int32}, ¬ a < b → b ≤ a := fun q => (fa_le' _ _).mpr (by
      have : ¬ _ := fun r => q ((fa_lt' _ _).mpr r)
      omega)
    have lnt : ∀ {a b : Int32}, a < b → ¬ b ≤ a := fun q r => by
      have a1 := (fa_lt' _ _).mp q
      have a2 := (fa_le' _ _).mp r
      omega
    have nle : ∀ {a b : Int32}, ¬ a ≤ b → b < a := fun q => (fa_lt' _ _).mpr (by
      have : ¬ _ := fun r => q ((fa_le' _ _).mpr r)
      omega)
    by_cases c0 : coins < C s
    · have nb : ¬ btr O C coins s c := fun q => lnt c0 q.1
      have es : stC O C coins s c = c := if_neg nb
      rw [es, if_pos c0, if_pos c0, ih c hc]
      simp only [ite_self]
    · rw [if_neg c0, if_neg c0]
      simp only [↓reduceIte, z10]
      by_cases c1 : O c < O s
      · have yb : btr O C coins s c := ⟨nlt c0, Or.inl c1⟩
        have es : stC O C coins s c = s := if_pos yb
        rw [if_pos c1, es, ih s (by omega)]
      · rw [if_neg c1]
        by_cases c2 : O s = O c
        · rw [if_pos c2]
          by_cases c3 : C c ≤ C s
          · have nb : ¬ btr O C coins s c := fun q => q.2.elim c1 fun r => lnt r.2 c3
            have es : stC O C coins s c = c := if_neg nb
            rw [if_pos c3, es, ih c hc]
          · have yb : btr O C coins s c := ⟨nlt c0, Or.inr ⟨c2, nle c3⟩⟩
            have es : stC O C coins s c = s := if_pos yb
            rw [if_neg c3, es, ih s (by omega)]
        · have nb : ¬ btr O C coins s c := fun q => q.2.elim c1 fun r => c2 r.1
          have es : stC O C coins s c = c := if_neg nb
          rw [if_neg c2, es, ih c hc]
theorem planBy_eq {n : Nat} (hn : n ≤ 9) {O C : Nat → Int32} {coins : Int32} {N : xMem} (e : N 135 0 = nI n) (hO : ∀ s, s < 2 ^ n → N 136 s = O s) (hC : ∀ s, s < 2 ^ n → N 137 s = C s) :
    g5_planBy coins N = some (nI (loopN (stC O C coins) (2 ^ n - 1) 1 0), N) := by
  have h := pow_le n hn
  have hp : 0 < 2 ^ n := Nat.pow_pos (by omega)
  exact planBy_b hn e hO hC (2 ^ n - 1) 1 5000 0 (by omega) (by omega) hp
/-- the reference's plan -/
abbrev St3 : Type := Int32 × Int32 × Int32
def gP (O C : Nat → Int32) (coins : Int32) (m : Nat) (st : St3) : St3 := if C m ≤ coins ∧ (st.1 < O m ∨ (O m = st.1 ∧ C m < st.2.1)) then (O m, C m, nI m) else st
theorem laysPlan_b {R : Nat → Int32} {O P : Nat → Int32} {coins x : Int32} (hx : ∀ l, l < 32 → bitOf x l = (decide (l < 9) && sUnlit R l)) {M : xMem} :
    ∀ (d m f : Nat) (N : xMem), m + d = 512 → d < f → N 189 0 = x → N 188 = P → (∀ i, i < 512 → subB R i → N 187 i = O i) → Off [190, 191, 192] M N →
      ∃ K, g9_laysPlan_b7 f coins (nI m) N = some K ∧ (K 192 0, K 191 0, K 190 0) = loopN (fun m st => @ite St3 (subB R m) (Classical.propDecidable (subB R m)) (gP O (cst P) coins m st) st) d m (N 192 0, N 191 0, N 190 0) ∧ Off [190, 191, 192] M K
  | 0, m, f + 1, N, hk, hf, h9, hP, hO, o => by
    obtain rfl : m = 512 := by omega
    unfold g9_laysPlan_b7
    rw [if_pos (by decide)]
    exact ⟨N, rfl, rfl, o⟩
  | d + 1, m, f + 1, N, hk, hf, h9, hP, hO, o => by
    have ih := fun K a b c e => laysPlan_b hx (O := O) (P := P) (coins := coins) (M := M) d (m + 1) f K (by omega) (by omega) a b c e
    unfold g9_laysPlan_b7 g9_laysPlan_b76 g9_laysPlan_b96 loopN
    have hc : ((nI m &&& (N 189 0 ^^^ (-1 : Int32))) = 0) = subB R m := by rw [h9, sub_eq hx (show m < 512 by omega)]
    simp (disch := omega) only [↓reduceIte, i_ll, nle_f, nI_1, i_lt0, i_cl, or_self, mset_eq]
    by_cases c : subB R m
    · rw [if_pos (hc.mpr c), if_pos c, bs (costs9_eq (by omega))]
      simp only [hO m (by omega) c, hP]
      have skip : ∀ st, gP O (cst P) coins m st = st → st = (N 192 0, N 191 0, N 190 0) → ∃ K, g9_laysPlan_b7 f coins (nI (m + 1)) N = some K ∧ (K 192 0, K 191 0, K 190 0) = loopN (fun m st => @ite St3 (subB R m) (Classical.propDecidable (subB R m)) (gP O (cst P) coins m st) st) d (m + 1) (gP O (cst P) coins m (N 192 0, N 191 0, N 190 0)) ∧ Off [190, 191, 192] M K := fun st h1 h2 => by
        subst h2
        rw [h1]
        exact ih N h9 hP hO o
      have take : gP O (cst P) coins m (N 192 0, N 191 0, N 190 0) = (O m, cst P m, nI m) → ∃ K, g9_laysPlan_b7 f coins (nI (m + 1)) (upM (upM (upM N 192 0 (O m)) 191 0 (cst P m)) 190 0 (nI m)) = some K ∧ (K 192 0, K 191 0, K 190 0) = loopN (fun m st => @ite St3 (subB R m) (Classical.propDecidable (subB R m)) (gP O (cst P) coins m st) st) d (m + 1) (gP O (cst P) coins m (N 192 0, N 191 0, N 190 0)) ∧ Off [190, 191, 192] M K := fun h1 => by
        rw [h1]
        have o2 : Off [190, 191, 192] N (upM (upM (upM N 192 0 (O m)) 191 0 (cst P m)) 190 0 (nI m)) := ((Off.up (by decide)).up' (by decide)).up' (by decide)
        have := ih (upM (upM (upM N 192 0 (O m)) 191 0 (cst P m)) 190 0 (nI m)) (by rw [o2 189 (by decide), h9]) (by rw [o2 188 (by decide), hP]) (fun i hi q => by rw [o2 187 (by decide)]; exact hO i hi q) (o.tr o2)
        rw [up_s, up_b (show (191 : Nat) ≠ 190 by decide), up_s, up_b (show (192 : Nat) ≠ 190 by decide), up_b (show (192 : Nat) ≠ 191 by decide), up_s] at this
        exact this
      have lnt : ∀ {a b : Int32}, a < b → ¬ b ≤ a := fun q r => by
        have a1 := (fa_lt' _ _).mp q
        have a2 := (fa_le' _ _).mp r
        omega
      have nlt : ∀ {a b : Int32}, ¬ a < b → b ≤ a := fun q => (fa_le' _ _).mpr (by
        have : ¬ _ := fun r => q ((fa_lt' _ _).mpr r)
        omega)
      by_cases c0 : coins < cst P m
      · rw [if_pos c0]
        exact skip _ (if_neg fun q => lnt c0 q.1) rfl
      rw [if_neg c0]
      by_cases c1 : O m < N 192 0
      · rw [if_pos c1]
        refine skip _ (if_neg fun q => q.2.elim (fun r => ?_) fun r => ?_) rfl
        · have a1 := (fa_lt' _ _).mp c1
          have a2 := (fa_lt' _ _).mp r
          dsimp only at a2
          omega
        · have a1 := (fa_lt' _ _).mp c1
          have := congrArg Int32.toInt r.1
          dsimp only at this
          omega
      rw [if_neg c1]
      by_cases c2 : O m = N 192 0
      · rw [if_pos c2]
        by_cases c3 : cst P m < N 191 0
        · rw [if_pos c3]
          exact take (if_pos ⟨nlt c0, Or.inr ⟨c2, c3⟩⟩)
        · rw [if_neg c3]
          refine skip _ (if_neg fun q => q.2.elim (fun r => ?_) fun r => c3 r.2) rfl
          have a2 := (fa_lt' _ _).mp r
          dsimp only at a2
          rw [c2] at a2
          omega
      · rw [if_neg c2]
        refine take (if_pos ⟨nlt c0, Or.inl ?_⟩)
        refine (fa_lt' _ _).mpr ?_
        have a1 : ¬ (O m).toInt < (N 192 0).toInt := fun r => c1 ((fa_lt' _ _).mpr r)
        have a2 : ¬ (O m).toInt = (N 192 0).toInt := fun r => c2 (Int32.toInt_inj.mp r)
        dsimp only
        omega
    · rw [if_neg (fun q => c (hc.mp q)), if_neg c]
      exact ih N h9 hP hO o
/-- both go one way -/
theorem plan_walk {O C : Nat → Int32} {coins : Int32} {ch : Nat → Nat} {n : Nat} : ∀ (d k c : Nat), loopN (fun i st => gP O C coins (spr ch i n) st) d k (O (spr ch c n), C (spr ch c n), nI (spr ch c n)) =
    (O (spr ch (loopN (stC (fun s => O (spr ch s n)) (fun s => C (spr ch s n)) coins) d k c) n), C (spr ch (loopN (stC (fun s => O (spr ch s n)) (fun s => C (spr ch s n)) coins) d k c) n), nI (spr ch (loopN (stC (fun s => O (spr ch s n)) (fun s => C (spr ch s n)) coins) d k c) n))
  | 0, _, _ => rfl
  | d + 1, k, c => by
    unfold loopN
    have e : gP O C coins (spr ch k n) (O (spr ch c n), C (spr ch c n), nI (spr ch c n)) = (O (spr ch (stC (fun s => O (spr ch s n)) (fun s => C (spr ch s n)) coins k c) n), C (spr ch (stC (fun s => O (spr ch s n)) (fun s => C (spr ch s n)) coins k c) n), nI (spr ch (stC (fun s => O (spr ch s n)) (fun s => C (spr ch s n)) coins k c) n)) := by
      by_cases q : btr (fun s => O (spr ch s n)) (fun s => C (spr ch s n)) coins k c
      · have s1 : stC (fun s => O (spr ch s n)) (fun s => C (spr ch s n)) coins k c = k := if_pos q
        rw [s1]
        exact if_pos q
      · have s1 : stC (fun s => O (spr ch s n)) (fun s => C (spr ch s n)) coins k c = c := if_neg q
        rw [s1]
        exact if_neg q
    rw [e]
    exact plan_walk d (k + 1) _
theorem chs9 {R : Nat → Int32} {n : Nat} {ch : Nat → Nat} {N : xMem} (C : Chs (inCh R 9 false) 12 n ch N) : (∀ b, b < n → ch b < 9) ∧ ∀ m, m < 2 ^ 9 → (subB R m ↔ ∀ l, m.testBit l = true → ∃ b, b < n ∧ ch b = l) := by
  have h9 : ∀ b, b < n → ch b < 9 := fun b hb => by
    have hb' := (C.2.2.1 b hb).2
    have := (C.2.2.2.2 _ hb').mp ⟨b, hb, rfl⟩
    unfold inCh at this
    by_cases c : ch b < 9
    · exact c
    · rw [if_neg c] at this
      exact absurd this.2.1 (by decide)
  refine ⟨h9, fun m hm => ⟨fun h l hl => ?_, fun h l hl => ?_⟩⟩
  · obtain ⟨c1, c2⟩ := h l hl
    refine (C.2.2.2.2 l (by omega)).mpr ?_
    unfold inCh
    rw [if_pos c1]
    have := uN_le (R := R) l
    exact ⟨c2, by omega⟩
  · obtain ⟨b, hb, e⟩ := h l hl
    have hl9 : l < 9 := by rw [← e]; exact h9 b hb
    have := (C.2.2.2.2 l (by omega)).mp ⟨b, hb, e⟩
    unfold inCh at this
    rw [if_pos hl9] at this
    exact ⟨hl9, this.1⟩
/-- the set of the plan, among the choices -/
def plC (O P : Nat → Int32) (coins : Int32) (ch : Nat → Nat) (n : Nat) : Nat := loopN (stC (fun s => O (spr ch s n)) (fun s => cst P (spr ch s n)) coins) (2 ^ n - 1) 1 0
theorem plC_lt {O P : Nat → Int32} {coins : Int32} {ch : Nat → Nat} {n : Nat} : plC O P coins ch n < 2 ^ n := by
  have hp : 0 < 2 ^ n := Nat.pow_pos (by omega)
  exact stC_lt (2 ^ n - 1) 1 0 (by omega) hp
theorem laysPlan_eq {R : Nat → Int32} {O : Nat → Int32} {coins : Int32} (hco : 0 ≤ coins) {n : Nat} {ch : Nat → Nat} {N0 : xMem} (C : Chs (inCh R 9 false) 12 n ch N0) {N : xMem} (hx : ∀ l, l < 32 → bitOf (N 189 0) l = (decide (l < 9) && sUnlit R l)) (hO : ∀ i, i < 512 → subB R i → N 187 i = O i) (h0 : ∃ j : Nat, j < 100000 ∧ O 0 = nI j) :
    ∃ K, g9_laysPlan coins N = some K ∧ K 192 0 = O (spr ch (plC O (N 188) coins ch n) n) ∧ K 191 0 = cst (N 188) (spr ch (plC O (N 188) coins ch n) n) ∧ K 190 0 = nI (spr ch (plC O (N 188) coins ch n) n) ∧ Off [190, 191, 192] N K := by
  unfold g9_laysPlan
  rw [mset_eq]
  have o1 : Off [190, 191, 192] N (upM N 192 0 (-1)) := Off.up (by decide)
  obtain ⟨K, e, st, o⟩ := laysPlan_b (R := R) (O := O) (P := N 188) (coins := coins) (x := N 189 0) hx (M := upM N 192 0 (-1)) 512 0 5000 (upM N 192 0 (-1)) rfl (by omega) (by rw [o1 189 (by decide)]) (o1 188 (by decide)) (fun i hi q => by rw [o1 187 (by decide)]; exact hO i hi q) Off.rf
  obtain ⟨h9, hsub⟩ := chs9 C
  have hen := enum_eq 9 n (gP O (cst (N 188)) coins) (subB R) (fun _ => Classical.propDecidable _) ((upM N 192 0 (-1)) 192 0, (upM N 192 0 (-1)) 191 0, (upM N 192 0 (-1)) 190 0) h9 (Chs.mon C) hsub
  rw [show (2 : Nat) ^ 9 = 512 by decide] at hen
  have st' : (K 192 0, K 191 0, K 190 0) = loopN (fun i s => gP O (cst (N 188)) coins (spr ch i n) s) (2 ^ n) 0 ((upM N 192 0 (-1)) 192 0, (upM N 192 0 (-1)) 191 0, (upM N 192 0 (-1)) 190 0) := st.trans hen
  have hp : 0 < 2 ^ n := Nat.pow_pos (by omega)
  have first : gP O (cst (N 188)) coins (spr ch 0 n) ((upM N 192 0 (-1)) 192 0, (upM N 192 0 (-1)) 191 0, (upM N 192 0 (-1)) 190 0) = (O (spr ch 0 n), cst (N 188) (spr ch 0 n), nI (spr ch 0 n)) := by
    obtain ⟨j, hj, ej⟩ := h0
    refine if_pos ⟨?_, Or.inl ?_⟩
    · rw [spr_0, cst_0]; exact hco
    · rw [spr_0, ej, up_s]
      refine (fa_lt' _ _).mpr ?_
      dsimp only
      rw [nI_toInt (by omega)]
      have : (-1 : Int32).toInt = -1 := by decide
      omega
  rw [show (2 ^ n : Nat) = (2 ^ n - 1) + 1 by omega, loopN, first, plan_walk] at st'
  injection st' with s1 s2
  injection s2 with s2 s3
  exact ⟨K, e, s1, s2, s3, o1.tr o⟩
theorem cst_pl {P Q : Nat → Int32} {R : Nat → Int32} {n : Nat} {ch : Nat → Nat} {N : xMem} (C : Chs (inCh R 9 false) 12 n ch N) (h : ∀ i, i < 9 → sUnlit R i = true → P i = Q i) (s : Nat) : cst P (spr ch s n) = cst Q (spr ch s n) := by
  refine cst_congr fun i hi hb => ?_
  obtain ⟨b, hb', e, -⟩ := (spr_bit n).mp hb
  have := (C.2.2.2.2 i (by omega)).mp ⟨b, hb', e⟩
  unfold inCh at this
  rw [if_pos hi] at this
  exact h i hi this.1
theorem plC_congr {O P Q : Nat → Int32} {coins : Int32} {R : Nat → Int32} {n : Nat} {ch : Nat → Nat} {N : xMem} (C : Chs (inCh R 9 false) 12 n ch N) (h : ∀ i, i < 9 → sUnlit R i = true → P i = Q i) : plC O P coins ch n = plC O Q coins ch n := by
  unfold plC
  have : (fun s => cst P (spr ch s n)) = fun s => cst Q (spr ch s n) := funext fun s => cst_pl C h s
  rw [this]
/-- what both hold before they plan -/
theorem both_weigh {M : xMem} (I : Inv M) : ∃ (V : Nat → (Nat → Int32) → Int32) (u n : Nat) (ch : Nat → Nat) (K1 K2 K3 : xMem), VB V ∧ u < 8 ∧ g5_weighSets M = some K1 ∧ g5_takeBeers K1 = some K2 ∧ Off SW M K2 ∧ Z10 K2 ∧ Chs (inCh (M 0) 9 false) 12 n ch K2 ∧
    (∀ s, s < 2 ^ n → K2 136 s = sOut V (M 0) u (spr ch s n)) ∧ (∀ i, i < 9 → M 0 (196 + i) ≠ 0 → K2 138 i = sPrice V (M 0) i) ∧ (∀ s, s < 2 ^ n → K2 137 s = cst (K2 138) (spr ch s n)) ∧
    (∀ N, Off SW M N → Z10 N → ∃ K3, g9_laysLiving N = some K3 ∧ K3 7 = M 0 ∧ (∀ l, l < 32 → bitOf (K3 189 0) l = (decide (l < 9) && sUnlit (M 0) l)) ∧ (∀ i, i < 9 → sUnlit (M 0) i = true → K3 188 i = sPrice V (M 0) i) ∧ (∀ i, i < 512 → subB (M 0) i → K3 187 i = sOut V (M 0) u i) ∧ Z10 K3 ∧ Off SR N K3) := by
  obtain ⟨V, L⟩ := lawV_of I.law
  obtain ⟨u, hu, eu⟩ := I.ok.hour
  obtain ⟨n, ch, K1, e1, k1, k0, C1, z1, o1⟩ := weigh_eq L I.ok (u := u) (by omega) eu (N := M) rfl I.z (fun _ _ => rfl)
  obtain ⟨K2, e2, p2, c2, o2⟩ := takeBeers_eq L I.ok k0 (sw_lc o1) C1
  refine ⟨V, u, n, ch, K1, K2, M, L.vb, by omega, e1, e2, o1.tr (o2.mono (by decide)), z1.of fun b hb => o2 b (by simp; omega), C1.fr (o2 134 (by decide)) (o2 135 (by decide)), fun s hs => by rw [o2 136 (by decide)]; exact k1 s hs, p2, c2, fun N oN zN => ?_⟩
  exact lays_eq L I.ok (by omega) eu (by rw [oN 7 (by decide), I.eq7]) zN (lawM.off' oN (by decide))
theorem i_0le {j : Nat} (h : j < 2147483648) : (0 : Int32) ≤ nI j := nI_pos' h
theorem unlit_there {R : Nat → Int32} {i : Nat} (h : sUnlit R i = true) : R (196 + i) ≠ 0 := (unlit_split.mp h).1
theorem pair_plan (a w : Int32) : Pair (g8_plan a w) (g9_plan a w) := by
  intro M I
  unfold g8_plan g9_plan
  rw [in8_9]
  rcases in_cases a 0 9999 0 9999 with h1 | ⟨co, -, hco, rfl, h1⟩
  · exact ⟨-1, M, M, by rw [b0 (h1 M)], by rw [b0 (h1 M)], I⟩
  rcases in_cases w 0 2 0 2 with h2 | ⟨t, -, ht, rfl, h2⟩
  · exact ⟨-1, M, M, by rw [b1 (h1 M), b0 (h2 M)], by rw [b1 (h1 M), b0 (h2 M)], I⟩
  obtain ⟨V, u, n, ch, K1, K2, -, vb, hu, e1, e2, o2, z2, C, hO, hp, hc, H9⟩ := both_weigh I
  obtain ⟨K3, e3, k37, hx, hp9, hO9, z3, o3⟩ := H9 K2 o2 z2
  obtain ⟨j0, hj0, ej0⟩ := sOut_nat vb I.ok (u := u) (m := 0)
  obtain ⟨K4, e4, r1, r2, r3, o4⟩ := laysPlan_eq (R := M 0) (O := sOut V (M 0) u) (coins := nI co) (i_0le (by omega)) C (N := K3) hx hO9 ⟨j0, by omega, ej0⟩
  have hP : ∀ i, i < 9 → sUnlit (M 0) i = true → K3 188 i = K2 138 i := fun i hi q => by rw [hp9 i hi q, hp i hi (unlit_there q)]
  rw [plC_congr C hP] at r1 r2 r3
  rw [cst_pl C hP] at r2
  have pl := planBy_eq C.1 (O := fun s => sOut V (M 0) u (spr ch s n)) (C := fun s => cst (K2 138) (spr ch s n)) (coins := nI co) C.2.1 hO hc
  have hn := pow_le n C.1
  have plt := plC_lt (O := sOut V (M 0) u) (P := K2 138) (coins := nI co) (ch := ch) (n := n)
  have pl' : g5_planBy (nI co) K2 = some (nI (plC (sOut V (M 0) u) (K2 138) (nI co) ch n), K2) := pl
  generalize plC (sOut V (M 0) u) (K2 138) (nI co) ch n = c at *
  have oo : Off SR K2 K4 := o3.tr (o4.mono (by decide))
  have J : Inv K4 := I.trials o2 (by decide) oo (by decide) (by rw [o4 7 (by decide), k37]) (z3.of fun b hb => o4 b (by simp; omega))
  rcases (show t = 0 ∨ t = 1 ∨ t = 2 by omega) with rfl | rfl | rfl
  · refine ⟨nI (spr ch c n), K2, K4, ?_, ?_, J⟩
    · rw [b1 (h1 M), b1 (h2 M), bs e1, bs e2, bs pl', if_pos nI_0]
      dsimp only
      rw [bs (lampsOf_eq (by omega) C)]
    · rw [b1 (h1 K2), b1 (h2 K2), bs e3, bs e4, if_pos nI_0, r3]
  · refine ⟨cst (K2 138) (spr ch c n), K2, K4, ?_, ?_, J⟩
    · rw [b1 (h1 M), b1 (h2 M), bs e1, bs e2, bs pl', if_neg (by decide), if_pos (show nI 1 = 1 from rfl)]
      dsimp only
      rw [bs (costOf_in C.1 C.2.1 plt), hc c plt]
    · rw [b1 (h1 K2), b1 (h2 K2), bs e3, bs e4, if_neg (by decide), if_pos (show nI 1 = 1 from rfl), r2]
  · refine ⟨sOut V (M 0) u (spr ch c n), K2, K4, ?_, ?_, J⟩
    · rw [b1 (h1 M), b1 (h2 M), bs e1, bs e2, bs pl', if_neg (by decide), if_neg (by decide)]
      dsimp only
      rw [bs (cameOf_in C.1 C.2.1 plt), hO c plt]
    · rw [b1 (h1 K2), b1 (h2 K2), bs e3, bs e4, if_neg (by decide), if_neg (by decide), r1]
