/-! PURE: safe -/
def encO : Option Nat → Int32
  | none => -1
  | some c => nI c
def stS (O C : Nat → Int32) (lv : Int32) (s : Nat) (st : Option Nat) : Option Nat :=
  if O s = lv then (match st with
    | none => some s
    | some c => if C s < C c then some s else some c) else st
theorem isSet_m1 {N : xMem} : g5_isSet (-1) N = some (0, N) := by
  unfold g5_isSet
  rw [if_pos (by decide)]
def ltO (T : Nat) : Option Nat → Prop
  | none => True
  | some c => c < T
theorem stS_lt {O C : Nat → Int32} {lv : Int32} {T s : Nat} {st : Option Nat} (hs : s < T) (h : ltO T st) : ltO T (stS O C lv s st) := by
  unfold stS
  split
  · cases st with
    | none => exact hs
    | some c =>
      dsimp only
      split
      · exact hs
      · exact h
  · exact h
theorem stS_loop {O C : Nat → Int32} {lv : Int32} {T : Nat} : ∀ (d k : Nat) (st : Option Nat), k + d ≤ T → ltO T st → ltO T (loopN (stS O C lv) d k st)
  | 0, _, _, _, h => h
  | d + 1, k, st, hk, h => stS_loop d (k + 1) _ (by omega) (stS_lt (by omega) h)
theorem safe_b {n : Nat} (hn : n ≤ 9) {O C : Nat → Int32} {lv : Int32} {N : xMem} (e : N 135 0 = nI n) (hO : ∀ s, s < 2 ^ n → N 136 s = O s) (hC : ∀ s, s < 2 ^ n → N 137 s = C s) : ∀ (d s f : Nat) (st : Option Nat), s + d = 2 ^ n → d < f → ltO (2 ^ n) st →
    g5_safeSet_b15 f lv (encO st) (nI s) N = some (encO (loopN (stS O C lv) d s st), N)
  | 0, s, f + 1, st, hk, hf, hc => by
    have h := pow_le n hn
    obtain rfl : s = 2 ^ n := by omega
    unfold g5_safeSet_b15
    by_cases c : 512 ≤ 2 ^ n
    · rw [if_pos (show (512 : Int32) ≤ nI (2 ^ n) from (nI_leI (a := 512) (by omega) (by omega)).mpr c)]
      rfl
    · rw [if_neg (show ¬ (512 : Int32) ≤ nI (2 ^ n) from fun q => c ((nI_leI (a := 512) (by omega) (by omega)).mp q)), bs (isSet_eq hn e (by omega)), b2i_f (by omega), if_pos rfl]
      rfl
  | d + 1, s, f + 1, st, hk, hf, hc => by
    have h := pow_le n hn
    have ih := fun st hc => safe_b hn e hO hC (lv := lv) d (s + 1) f st (by omega) (by omega) hc
    unfold g5_safeSet_b15 g5_safeSet_b62 g5_safeSet_b64 loopN
    simp (disch := omega) only [↓reduceIte, i_ll, nle_f]
    rw [bs (isSet_eq hn e (by omega)), b2i_t (show s < 2 ^ n by omega), if_neg (show ¬ (1 : Int32) = 0 by decide)]
    simp (disch := omega) only [↓reduceIte, i_lt0, i_cl, nle_f, or_self, nI_1, hO, hC]
    have hl := stS_lt (O := O) (C := C) (lv := lv) (show s < 2 ^ n by omega) hc
    by_cases c1 : O s = lv
    · rw [if_pos c1]
      cases st with
      | none =>
        have es : stS O C lv s none = some s := if_pos c1
        rw [es] at hl ⊢
        show Option.bind (g5_isSet (-1) N) _ = _
        rw [bs isSet_m1, if_pos rfl]
        exact ih (some s) hl
      | some c =>
        have hc' : c < 2 ^ n := hc
        have es : stS O C lv s (some c) = if C s < C c then some s else some c := if_pos c1
        rw [es] at hl ⊢
        show Option.bind (g5_isSet (nI c) N) _ = _
        rw [bs (isSet_eq hn e (by omega)), b2i_t hc', if_neg (show ¬ (1 : Int32) = 0 by decide)]
        show Option.bind (g5_costOf (nI c) N) _ = _
        rw [bs (costOf_in hn e hc'), hC c hc']
        simp only [hC s (show s < 2 ^ n by omega)]
        by_cases c2 : C c ≤ C s
        · have c3 : ¬ C s < C c := fun q => by
            have a1 := (fa_lt' _ _).mp q
            have a2 := (fa_le' _ _).mp c2
            omega
          rw [if_neg c3] at hl ⊢
          rw [if_pos c2]
          exact ih (some c) hl
        · have c3 : C s < C c := (fa_lt' _ _).mpr (by
            have : ¬ (C c).toInt ≤ (C s).toInt := fun q => c2 ((fa_le' _ _).mpr q)
            omega)
          rw [if_pos c3] at hl ⊢
          rw [if_neg c2]
          exact ih (some s) hl
    · have es : stS O C lv s st = st := if_neg c1
      rw [es, if_neg c1]
      exact ih st hc
def ansS (C : Nat → Int32) (w : Int32) : Option Nat → Int32
  | none => -2
  | some m => if w = 0 then nI m else C m
theorem safe9_b {R : Nat → Int32} (ok : RowOk R) {O P : Nat → Int32} {w : Int32} {N : xMem} (h7 : N 7 = R) (hx : ∀ l, l < 32 → bitOf (N 189 0) l = (decide (l < 9) && sUnlit R l)) (hP : N 188 = P) (hO : ∀ i, i < 512 → subB R i → N 187 i = O i) :
    ∀ (d m f : Nat) (st : Option Nat), m + d = 512 → d < f → ltO 512 st →
      g9_safe_b19 f w (encO st) (nI m) N = some (ansS (cst P) w (loopN (fun m st => @ite (Option Nat) (subB R m) (Classical.propDecidable (subB R m)) (stS O (cst P) (sLiving R) m st) st) d m st), N)
  | 0, m, f + 1, st, hk, hf, hl => by
    obtain rfl : m = 512 := by omega
    unfold g9_safe_b19
    rw [if_pos (by decide)]
    cases st with
    | none => rfl
    | some c =>
      have hc : c < 512 := hl
      show (if nI c = -1 then _ else _) = _
      rw [if_neg (nI_m1 (by omega))]
      show _ = some (if w = 0 then nI c else cst P c, N)
      by_cases c0 : w = 0
      · rw [if_pos c0, if_pos c0]; rfl
      · rw [if_neg c0, if_neg c0]
        show Option.bind (g9_costs (nI c) N) _ = _
        rw [bs (costs9_eq hc), hP]
  | d + 1, m, f + 1, st, hk, hf, hl => by
    have ih := fun st hc => safe9_b ok h7 hx hP hO (w := w) d (m + 1) f st (by omega) (by omega) hc
    have ok7 : RowOk (N 7) := by rw [h7]; exact ok
    unfold g9_safe_b19 g9_safe_b68 g9_safe_b70 loopN
    have hc : ((nI m &&& (N 189 0 ^^^ (-1 : Int32))) = 0) = subB R m := sub_eq hx (show m < 512 by omega)
    simp (disch := omega) only [↓reduceIte, i_ll, nle_f, nI_1, i_lt0, i_cl, or_self]
    by_cases c : subB R m
    · rw [if_pos (hc.mpr c), if_pos c, bs (living9_eq ok7), h7, hO m (by omega) c]
      have hl' := stS_lt (O := O) (C := cst P) (lv := sLiving R) (show m < 512 by omega) hl
      dsimp only
      by_cases c1 : O m = sLiving R
      · rw [if_pos c1]
        cases st with
        | none =>
          have es : stS O (cst P) (sLiving R) m none = some m := if_pos c1
          rw [es] at hl' ⊢
          show (if (-1 : Int32) = -1 then _ else _) = _
          rw [if_pos rfl]
          exact ih (some m) hl'
        | some b =>
          have hb : b < 512 := hl
          have es : stS O (cst P) (sLiving R) m (some b) = if cst P m < cst P b then some m else some b := if_pos c1
          rw [es] at hl' ⊢
          show (if nI b = -1 then _ else _) = _
          rw [if_neg (nI_m1 (by omega)), bs (costs9_eq (by omega))]
          show Option.bind (g9_costs (nI b) N) _ = _
          rw [bs (costs9_eq hb), hP]
          by_cases c2 : cst P b ≤ cst P m
          · have c3 : ¬ cst P m < cst P b := fun q => by
              have a1 := (fa_lt' _ _).mp q
              have a2 := (fa_le' _ _).mp c2
              omega
            rw [if_neg c3] at hl' ⊢
            rw [if_pos c2]
            exact ih (some b) hl'
          · have c3 : cst P m < cst P b := (fa_lt' _ _).mpr (by
              have : ¬ (cst P b).toInt ≤ (cst P m).toInt := fun q => c2 ((fa_le' _ _).mpr q)
              omega)
            rw [if_pos c3] at hl' ⊢
            rw [if_neg c2]
            exact ih (some m) hl'
      · have es : stS O (cst P) (sLiving R) m st = st := if_neg c1
        rw [es, if_neg c1]
        exact ih st hl
    · rw [if_neg (fun q => c (hc.mp q)), if_neg c]
      exact ih st hl
theorem safe_walk {O C : Nat → Int32} {lv : Int32} {ch : Nat → Nat} {n : Nat} : ∀ (d k : Nat) (st : Option Nat), loopN (fun i st => stS O C lv (spr ch i n) st) d k (st.map fun s => spr ch s n) = (loopN (stS (fun s => O (spr ch s n)) (fun s => C (spr ch s n)) lv) d k st).map fun s => spr ch s n
  | 0, _, _ => rfl
  | d + 1, k, st => by
    unfold loopN
    have e : stS O C lv (spr ch k n) (st.map fun s => spr ch s n) = (stS (fun s => O (spr ch s n)) (fun s => C (spr ch s n)) lv k st).map fun s => spr ch s n := by
      unfold stS
      by_cases q : O (spr ch k n) = lv
      · rw [if_pos q, if_pos q]
        cases st with
        | none => rfl
        | some c =>
          dsimp only [Option.map]
          split <;> rfl
      · rw [if_neg q, if_neg q]
    rw [e]
    exact safe_walk d (k + 1) _
theorem pair_safe (w : Int32) : Pair (g8_safe w) (g9_safe w) := by
  intro M I
  unfold g8_safe g9_safe
  rw [in8_9]
  rcases in_cases w 0 1 0 1 with h2 | ⟨t, -, ht, rfl, h2⟩
  · exact ⟨-1, M, M, by rw [b0 (h2 M)], by rw [b0 (h2 M)], I⟩
  obtain ⟨V, u, n, ch, K1, K2, -, vb, hu, e1, e2, o2, z2, C, hO, hp, hc, H9⟩ := both_weigh I
  obtain ⟨K3, e3, k37, hx, hp9, hO9, z3, o3⟩ := H9 K2 o2 z2
  have hn := pow_le n C.1
  obtain ⟨h9, hsub⟩ := chs9 C
  have r9 := safe9_b (R := M 0) I.ok (O := sOut V (M 0) u) (P := K3 188) (w := nI t) (N := K3) k37 hx rfl hO9 512 0 5000 none rfl (by omega) trivial
  have hen := enum_eq 9 n (stS (sOut V (M 0) u) (cst (K3 188)) (sLiving (M 0))) (subB (M 0)) (fun _ => Classical.propDecidable _) none h9 (Chs.mon C) hsub
  rw [show (2 : Nat) ^ 9 = 512 by decide] at hen
  have hw := safe_walk (O := sOut V (M 0) u) (C := cst (K3 188)) (lv := sLiving (M 0)) (ch := ch) (n := n) (2 ^ n) 0 none
  have hP : ∀ i, i < 9 → sUnlit (M 0) i = true → K3 188 i = K2 138 i := fun i hi q => by rw [hp9 i hi q, hp i hi (unlit_there q)]
  have hcc : (fun s => cst (K3 188) (spr ch s n)) = fun s => cst (K2 138) (spr ch s n) := funext fun s => cst_pl C hP s
  have r9' : g9_safe_b19 5000 (nI t) (-1) 0 K3 = some (ansS (cst (K3 188)) (nI t) ((loopN (stS (fun s => sOut V (M 0) u (spr ch s n)) (fun s => cst (K2 138) (spr ch s n)) (sLiving (M 0))) (2 ^ n) 0 none).map fun s => spr ch s n), K3) := by
    rw [← hcc, ← hw]
    refine r9.trans ?_
    rw [hen]
    rfl
  have r8 := safe_b C.1 (O := fun s => sOut V (M 0) u (spr ch s n)) (C := fun s => cst (K2 138) (spr ch s n)) (lv := sLiving (M 0)) C.2.1 hO hc (2 ^ n) 0 5000 none (by omega) (by omega) trivial
  have lt := stS_loop (O := fun s => sOut V (M 0) u (spr ch s n)) (C := fun s => cst (K2 138) (spr ch s n)) (lv := sLiving (M 0)) (T := 2 ^ n) (2 ^ n) 0 none (by omega) trivial
  generalize loopN (stS (fun s => sOut V (M 0) u (spr ch s n)) (fun s => cst (K2 138) (spr ch s n)) (sLiving (M 0))) (2 ^ n) 0 none = st at r8 r9' lt
  have r8' : g5_safeSet K2 = some (encO st, K2) := by
    unfold g5_safeSet
    rw [bs living_eq, show K2 0 = M 0 from o2 0 (by decide)]
    exact r8
  have J : Inv K3 := I.trials o2 (by decide) o3 (by decide) k37 z3
  cases st with
  | none =>
    refine ⟨-2, K2, K3, ?_, ?_, J⟩
    · rw [b1 (h2 M), bs e1, bs e2, bs r8']
      show Option.bind (g5_isSet (-1) K2) _ = _
      rw [bs isSet_m1, if_pos rfl]
    · rw [b1 (h2 K2), bs e3, r9']
      rfl
  | some c =>
    have hc' : c < 2 ^ n := lt
    have s8 : g5_isSet (nI c) K2 = some (1, K2) := by rw [isSet_eq C.1 C.2.1 (by omega), b2i_t hc']
    rcases (show t = 0 ∨ t = 1 by omega) with rfl | rfl
    · refine ⟨nI (spr ch c n), K2, K3, ?_, ?_, J⟩
      · rw [b1 (h2 M), bs e1, bs e2, bs r8']
        show Option.bind (g5_isSet (nI c) K2) _ = _
        rw [bs s8, if_neg (show ¬ (1 : Int32) = 0 by decide), if_pos nI_0]
        show Option.bind (g5_lampsOf (nI c) K2) _ = _
        rw [bs (lampsOf_eq (by omega) C)]
      · rw [b1 (h2 K2), bs e3, r9']
        show some ((if nI 0 = 0 then nI (spr ch c n) else cst (K3 188) (spr ch c n)), K3) = _
        rw [if_pos nI_0]
    · refine ⟨cst (K2 138) (spr ch c n), K2, K3, ?_, ?_, J⟩
      · rw [b1 (h2 M), bs e1, bs e2, bs r8']
        show Option.bind (g5_isSet (nI c) K2) _ = _
        rw [bs s8, if_neg (show ¬ (1 : Int32) = 0 by decide), if_neg (by decide)]
        show Option.bind (g5_costOf (nI c) K2) _ = _
        rw [bs (costOf_in C.1 C.2.1 hc'), hc c hc']
      · rw [b1 (h2 K2), bs e3, r9']
        show some ((if nI 1 = 0 then nI (spr ch c n) else cst (K3 188) (spr ch c n)), K3) = _
        rw [if_neg (by decide), cst_pl C hP]
