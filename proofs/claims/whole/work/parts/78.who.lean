/-! PURE: who lit -/
def popI (a : Int32) : Int32 :=
  let x1 := a - (sh a 1 &&& 1431655765)
  let x2 := (x1 &&& 858993459) + (sh x1 2 &&& 858993459)
  let x3 := (x2 + sh x2 4) &&& 252645135
  let x4 := x3 + sh x3 8
  let x5 := x4 + sh x4 16
  x5 &&& 63
theorem pop_eq {a : Int32} {M : xMem} : gJ6_bitCount_0f7a4 a M = some (popI a, M) := rfl
def b2n (b : Bool) : Nat := if b = true then 1 else 0
theorem pop6 : ∀ a b c d e f : Bool, popI ((((((0 ||| sBit a 0) ||| sBit b 1) ||| sBit c 2) ||| sBit d 3) ||| sBit e 4) ||| sBit f 5) = nI (((((b2n a + b2n b) + b2n c) + b2n d) + b2n e) + b2n f) := by
  intro a b c d e f
  cases a <;> cases b <;> cases c <;> cases d <;> cases e <;> cases f <;> decide +kernel
/-- herds that are on among the first k -/
def onN (R : Nat → Int32) : Nat → Nat
  | 0 => 0
  | k + 1 => onN R k + b2n (sOn R k)
theorem onN_le {R : Nat → Int32} : ∀ k, onN R k ≤ k
  | 0 => Nat.le_refl _
  | k + 1 => by
    have := onN_le (R := R) k
    unfold onN b2n
    split <;> omega
theorem onN_mono {R : Nat → Int32} {k : Nat} : onN R k ≤ onN R (k + 1) := Nat.le_add_right _ _
theorem pop_on {R : Nat → Int32} : popI (orF (sOnB R) 6) = nI (onN R 6) := by
  have h := pop6 (sOn R 0) (sOn R 1) (sOn R 2) (sOn R 3) (sOn R 4) (sOn R 5)
  have e : onN R 6 = ((((b2n (sOn R 0) + b2n (sOn R 1)) + b2n (sOn R 2)) + b2n (sOn R 3)) + b2n (sOn R 4)) + b2n (sOn R 5) := by
    simp only [onN, Nat.zero_add]
  rw [e]
  exact h
/-- do the herds stand as told -/
def seenOf (R' : Nat → Int32) (h : Nat) : Int32 := if sOn R' h = true then R' (274 + h) else 255
def asS (R : Nat → Int32) (T : Nat → Int32) (R' : Nat → Int32) : Nat → Nat → Bool
  | 0, _ => true
  | d + 1, h => (!sOn R h || decide (T (onN R h) = seenOf R' h)) && asS R T R' d (h + 1)
theorem asS_pat {R T R1 R2 : Nat → Int32} (e : ∀ k, k < 232 ∨ 268 ≤ k → R1 k = R2 k) : ∀ d h, asS R T R1 d h = asS R T R2 d h
  | 0, _ => rfl
  | d + 1, h => by
    unfold asS seenOf
    rw [asS_pat e d (h + 1), on_pat e, e _ (by omega)]
theorem asSeen_b {R T : Nat → Int32} {N : xMem} (h0 : N 0 = R) (hT : N 120 = T) : ∀ (d h f : Nat), h + d = 6 → d < f → g5_isAsSeen_b4 f (nI (onN R h)) (nI h) N = some (b2i (asS R T (N 1) d h = true), N)
  | 0, h, f + 1, hk, hf => by
    obtain rfl : h = 6 := by omega
    unfold g5_isAsSeen_b4
    rw [if_pos (by decide)]
    rfl
  | d + 1, h, f + 1, hk, hf => by
    have ih := asSeen_b h0 hT d (h + 1) f (by omega) (by omega)
    have hle := onN_le (R := R) h
    unfold g5_isAsSeen_b4 g5_isAsSeen_b56 g5_isAsSeen_b73 asS
    simp (disch := omega) only [↓reduceIte, i_ll, nle_f, nI_1]
    rw [bs (on_in (by omega))]
    simp only [b2i_0, h0]
    by_cases c : sOn R h = true
    · rw [if_neg (fun q => q c), bs (on_in (by omega))]
      have e : onN R (h + 1) = onN R h + 1 := by
        show onN R h + b2n (sOn R h) = _
        rw [c]; rfl
      rw [e] at ih
      have fin : (Option.bind (g7_byteAt (nI (onN R h)) N) fun q9 => if q9.1 = seenOf (N 1) h then g5_isAsSeen_b4 f (nI (onN R h + 1)) (nI (h + 1)) q9.2 else some (0, q9.2)) = some (b2i (((!sOn R h || decide (T (onN R h) = seenOf (N 1) h)) && asS R T (N 1) d (h + 1)) = true), N) := by
        rw [bs (byteAt_in (by omega)), hT, c]
        by_cases c2 : T (onN R h) = seenOf (N 1) h
        · rw [if_pos c2, ih, decide_eq_true c2]
          simp
        · rw [if_neg c2, decide_eq_false c2]
          simp [b2i]
      unfold seenOf at fin ⊢
      simp only [b2i_0]
      by_cases c1 : sOn (N 1) h = true
      · rw [if_neg (fun q => q c1)]
        simp only [if_pos c1] at fin ⊢
        simp (disch := omega) only [↓reduceIte, i_lt0, i_cl, nle_f, or_self]
        exact fin
      · rw [if_pos c1]
        simp only [if_neg c1] at fin ⊢
        exact fin
    · have e : onN R (h + 1) = onN R h := by
        show onN R h + b2n (sOn R h) = _
        cases q : sOn R h
        · rfl
        · exact absurd q c
      rw [if_pos c]
      rw [e] at ih
      rw [ih]
      cases q : sOn R h
      · simp
      · exact absurd q c
theorem asSeen_eq {R T : Nat → Int32} {N : xMem} (h0 : N 0 = R) (hT : N 120 = T) : g5_isAsSeen N = some (b2i (asS R T (N 1) 6 0 = true), N) := asSeen_b h0 hT 6 0 5000 rfl (by omega)
/-- what comes of a set: as told or not -/
def sWho (V : Nat → (Nat → Int32) → Int32) (R T : Nat → Int32) (hrs m : Nat) : Int32 := b2i (asS R T (sRun V hrs (rF R m true) 0).1 6 0 = true)
/-- how many, the first, all -/
abbrev StW : Type := Nat × Int32 × Int32
def gW (out : Nat → Int32) (m : Nat) (st : StW) : StW := if out m = 1 then (st.1 + 1, if st.1 = 0 then nI m else st.2.1, if st.1 = 0 then nI m else st.2.2 &&& nI m) else st
theorem gW_le {out : Nat → Int32} {g : Nat → Nat} : ∀ (d k : Nat) (st : StW), (loopN (fun i st => gW out (g i) st) d k st).1 ≤ st.1 + d
  | 0, _, _ => Nat.le_refl _
  | d + 1, k, st => by
    have h := gW_le (out := out) (g := g) d (k + 1) (gW out (g k) st)
    have : (gW out (g k) st).1 ≤ st.1 + 1 := by
      unfold gW
      split
      · exact Nat.le_refl _
      · omega
    unfold loopN
    omega
/-- the first found sweeps away what stood there -/
theorem gW_pos {out : Nat → Int32} {g : Nat → Nat} : ∀ (d k : Nat) (st : StW), 0 < st.1 → 0 < (loopN (fun i st => gW out (g i) st) d k st).1
  | 0, _, _, h => h
  | d + 1, k, st, h => by
    unfold loopN
    refine gW_pos d (k + 1) _ ?_
    unfold gW
    split
    · exact Nat.succ_pos _
    · exact h
theorem gW_0 {out : Nat → Int32} {g : Nat → Nat} : ∀ (d k : Nat) (a b a' b' : Int32), (loopN (fun i st => gW out (g i) st) d k (0, a, b)).1 = (loopN (fun i st => gW out (g i) st) d k (0, a', b')).1 ∧
    ((loopN (fun i st => gW out (g i) st) d k (0, a, b)).1 ≠ 0 → loopN (fun i st => gW out (g i) st) d k (0, a, b) = loopN (fun i st => gW out (g i) st) d k (0, a', b'))
  | 0, _, _, _, _, _ => ⟨rfl, fun h => absurd rfl h⟩
  | d + 1, k, a, b, a', b' => by
    unfold loopN
    by_cases c : out (g k) = 1
    · have e1 : gW out (g k) (0, a, b) = (1, nI (g k), nI (g k)) := if_pos c
      have e2 : gW out (g k) (0, a', b') = (1, nI (g k), nI (g k)) := if_pos c
      rw [e1, e2]
      exact ⟨rfl, fun _ => rfl⟩
    · have e1 : gW out (g k) (0, a, b) = (0, a, b) := if_neg c
      have e2 : gW out (g k) (0, a', b') = (0, a', b') := if_neg c
      rw [e1, e2]
      exact gW_0 d (k + 1) a b a' b'
theorem match_b {B : xMem} {V : Nat → (Nat → Int32) → Int32} (L : LawV B V) {R T : Nat → Int32} (ok : RowOk R) {u hrs : Nat} (hu : u + hrs ≤ 8) (eu : R 328 = nI u) {n : Nat} {ch : Nat → Nat} {M : xMem} (hT : M 120 = T) :
    ∀ (d s f : Nat) (N : xMem) (st : StW), s + d = 2 ^ n → d < f → N 0 = R → Z10 N → lawC B N → Chs (inCh R 5 true) 12 n ch N → CameA (fun o => sWho V R T hrs (spr ch o n)) n s N → Off SW M N → N 141 0 = nI st.1 → N 142 0 = st.2.1 → N 143 0 = st.2.2 → st.1 ≤ s →
      ∃ K, g5_matchSets_b28 f (nI hrs) (nI s) N = some K ∧ K 141 0 = nI (loopN (fun i st => gW (sWho V R T hrs) (spr ch i n) st) d s st).1 ∧ K 142 0 = (loopN (fun i st => gW (sWho V R T hrs) (spr ch i n) st) d s st).2.1 ∧ K 143 0 = (loopN (fun i st => gW (sWho V R T hrs) (spr ch i n) st) d s st).2.2 ∧ Z10 K ∧ Off SW M K
  | 0, s, f + 1, N, st, hk, hf, h0, z, lb, C, W, o, a1, a2, a3, hst => by
    have h := pow_le n C.1
    obtain rfl : s = 2 ^ n := by omega
    refine ⟨N, ?_, a1, a2, a3, z, o⟩
    unfold g5_matchSets_b28
    by_cases c : 512 ≤ 2 ^ n
    · rw [if_pos (show (512 : Int32) ≤ nI (2 ^ n) from (nI_leI (a := 512) (by omega) (by omega)).mpr c)]
    · rw [if_neg (show ¬ (512 : Int32) ≤ nI (2 ^ n) from fun q => c ((nI_leI (a := 512) (by omega) (by omega)).mp q)), bs (isSet_eq C.1 C.2.1 (by omega)), b2i_f (by omega), if_pos rfl]
  | d + 1, s, f + 1, N, st, hk, hf, h0, z, lb, C, W, o, a1, a2, a3, hst => by
    have h := pow_le n C.1
    have hout : ∀ o, sWho V R T hrs o = 0 ∨ sWho V R T hrs o = 1 := fun o => by
      have := b2i_01 (c := asS R T (sRun V hrs (rF R o true) 0).1 6 0 = true)
      exact of_eq_true this
    -- the set's own turn, once it is known what comes of it
    have turn : ∀ K : xMem, K 0 = R → Z10 K → lawC B K → Chs (inCh R 5 true) 12 n ch K → CameA (fun o => sWho V R T hrs (spr ch o n)) n (s + 1) K → Off SW M K → K 141 0 = nI st.1 → K 142 0 = st.2.1 → K 143 0 = st.2.2 →
        ∃ K', g5_matchSets_b89 (g5_matchSets_b28 f) (nI hrs) (nI s) K = some K' ∧ K' 141 0 = nI (loopN (fun i st => gW (sWho V R T hrs) (spr ch i n) st) (d + 1) s st).1 ∧ K' 142 0 = (loopN (fun i st => gW (sWho V R T hrs) (spr ch i n) st) (d + 1) s st).2.1 ∧ K' 143 0 = (loopN (fun i st => gW (sWho V R T hrs) (spr ch i n) st) (d + 1) s st).2.2 ∧ Z10 K' ∧ Off SW M K' := by
      intro K k0 kz klb kC kW ko k1 k2 k3
      unfold g5_matchSets_b89 g5_matchSets_b125 g5_matchSets_b137 loopN
      have hW : K 136 s = sWho V R T hrs (spr ch s n) := kW.2 s (by omega)
      simp (disch := omega) only [↓reduceIte, i_lt0, i_cl, nle_f, or_self, nI_1, hW]
      by_cases c : sWho V R T hrs (spr ch s n) = 1
      · have eg : gW (sWho V R T hrs) (spr ch s n) st = (st.1 + 1, if st.1 = 0 then nI (spr ch s n) else st.2.1, if st.1 = 0 then nI (spr ch s n) else st.2.2 &&& nI (spr ch s n)) := if_pos c
        rw [if_pos c, eg]
        have fin : ∀ x, x = (if st.1 = 0 then nI (spr ch s n) else st.2.2 &&& nI (spr ch s n)) → ∃ K', (mset (upM K 143 0 x) fun M32 => Option.bind (g5_lampsOf (nI s) M32) fun q33 => Option.bind (g5_found q33.1 q33.2) fun q35 => g5_matchSets_b28 f (nI hrs) (nI (s + 1)) q35) = some K' ∧ K' 141 0 = nI (loopN (fun i st => gW (sWho V R T hrs) (spr ch i n) st) d (s + 1) (st.1 + 1, if st.1 = 0 then nI (spr ch s n) else st.2.1, if st.1 = 0 then nI (spr ch s n) else st.2.2 &&& nI (spr ch s n))).1 ∧ K' 142 0 = (loopN (fun i st => gW (sWho V R T hrs) (spr ch i n) st) d (s + 1) (st.1 + 1, if st.1 = 0 then nI (spr ch s n) else st.2.1, if st.1 = 0 then nI (spr ch s n) else st.2.2 &&& nI (spr ch s n))).2.1 ∧ K' 143 0 = (loopN (fun i st => gW (sWho V R T hrs) (spr ch i n) st) d (s + 1) (st.1 + 1, if st.1 = 0 then nI (spr ch s n) else st.2.1, if st.1 = 0 then nI (spr ch s n) else st.2.2 &&& nI (spr ch s n))).2.2 ∧ Z10 K' ∧ Off SW M K' := by
          intro x hx
          rw [mset_eq]
          have o1 : Off [143] K (upM K 143 0 x) := Off.up (by decide)
          have t3 : (upM K 143 0 x) 143 0 = x := up_s
          generalize upM K 143 0 x = K1 at o1 t3 ⊢
          have C1 := kC.fr (o1 134 (by decide)) (o1 135 (by decide))
          rw [bs (lampsOf_eq (by omega) C1)]
          obtain ⟨K2, e2, f1, f2, o2⟩ := found_eq (x := nI (spr ch s n)) (m := st.1) (N := K1) (by omega) (by rw [o1 141 (by decide), k1]) (by rw [o1 142 (by decide), k2])
          rw [bs e2]
          have o12 : Off [141, 142, 143] K K2 := (o1.mono (by decide)).tr (o2.mono (by decide))
          exact match_b L ok hu eu hT d (s + 1) f K2 _ (by omega) (by omega) (by rw [o12 0 (by decide), k0]) (kz.of fun b hb => o12 b (by simp; omega)) (klb.tr (lawC.off' o12 (by decide))) (kC.fr (o12 134 (by decide)) (o12 135 (by decide))) (kW.fr (o12 136 (by decide))) (ko.tr (o12.mono (by decide))) f1 f2 (by rw [o2 143 (by decide), t3, hx]) (by dsimp only; omega)
        rw [k1]
        by_cases c0 : st.1 = 0
        · have q0 : nI st.1 = 0 := by rw [c0]; exact nI_0
          rw [if_pos q0, bs (lampsOf_eq (by omega) kC)]
          exact fin _ (by rw [if_pos c0])
        · rw [if_neg (nI_ne0 (by omega) (by omega)), bs (lampsOf_eq (by omega) kC), k3]
          exact fin _ (by rw [if_neg c0])
      · have eg : gW (sWho V R T hrs) (spr ch s n) st = st := if_neg c
        rw [if_neg c, eg]
        exact match_b L ok hu eu hT d (s + 1) f K st (by omega) (by omega) k0 kz klb kC kW ko k1 k2 k3 (by omega)
    unfold g5_matchSets_b28 g5_matchSets_b86
    simp (disch := omega) only [↓reduceIte, i_ll, nle_f]
    rw [bs (isSet_eq C.1 C.2.1 (by omega)), b2i_t (show s < 2 ^ n by omega), if_neg (show ¬ (1 : Int32) = 0 by decide)]
    simp (disch := omega) only [↓reduceIte, i_lt0, i_cl, nle_f, or_self]
    by_cases c : N 136 s = -1
    · rw [if_pos c]
      obtain ⟨K1, K2, e1, k0, ⟨x, e2⟩, r2, s2, o2, z2⟩ := try_set L ok (s := s) (hrs := hrs) (by omega) (by omega) C h0 z lb
      have C2 : Chs (inCh R 5 true) 12 n ch K2 := C.fr (o2 134 (by decide)) (o2 135 (by decide))
      have so : ∀ i, notBit (K2 102 0) ch s i n → sWho V R T hrs (spr ch i n) = b2i (asS R T (sRun V hrs (rSet R ch s n) 0).1 6 0 = true) := fun i hi => by
        unfold sWho
        rw [asS_pat (set_out ok C L.vb (hrs := hrs) eu hu (A := fun l => bitOf (K2 102 0) l = true) (fun l _ q => by rw [s2]; exact q) hi)]
      have h02 : K2 0 = R := by rw [o2 0 (by decide), h0]
      have hT2 : K2 120 = T := by rw [o2 120 (by decide), o 120 (by decide), hT]
      have sn : g5_isAsSeen K2 = some (sWho V R T hrs (spr ch s n), K2) := by
        rw [asSeen_eq h02 hT2, r2, so s fun _ _ _ => rfl]
      obtain ⟨K3, e3, W3, o3⟩ := came_note C2 (show s < 2 ^ n by omega) (W.fr (o2 136 (by decide))) (fun i _ hi => by rw [so i hi, so s fun _ _ _ => rfl])
      have o23 : Off SW N K3 := (o2.mono (by decide)).tr (o3.mono (by decide))
      have t := turn K3 (by rw [o3 0 (by decide), h02]) (z2.of fun b hb => o3 b (by simp; omega)) (lb.tr (sw_lc o23)) (C2.fr (o3 134 (by decide)) (o3 135 (by decide))) W3 (o.tr o23) (by rw [o3 141 (by decide), o2 141 (by decide), a1]) (by rw [o3 142 (by decide), o2 142 (by decide), a2]) (by rw [o3 143 (by decide), o2 143 (by decide), a3])
      rw [bs e1, bs e2, bs sn]
      dsimp only
      rcases hout (spr ch s n) with q | q
      · rw [q] at e3
        rw [q, if_pos rfl, bs e3]
        exact t
      · rw [q] at e3
        rw [q, if_neg (show ¬ (1 : Int32) = 0 by decide), bs e3]
        exact t
    · rw [if_neg c]
      exact turn N h0 z lb C (W.next (by omega) c) o a1 a2 a3
theorem match_eq {B : xMem} {V : Nat → (Nat → Int32) → Int32} (L : LawV B V) {R : Nat → Int32} (ok : RowOk R) {u hrs : Nat} (hu : u + hrs ≤ 8) (eu : R 328 = nI u) {N : xMem} (h0 : N 0 = R) (z : Z10 N) (lb : lawC B N) :
    ∃ n ch K, g5_matchSets (nI hrs) N = some K ∧ (∃ K2, Chs (inCh R 5 true) 12 n ch K2) ∧ K 141 0 = nI (loopN (fun i st => gW (sWho V R (N 120) hrs) (spr ch i n) st) (2 ^ n) 0 (0, -1, 0)).1 ∧ K 142 0 = (loopN (fun i st => gW (sWho V R (N 120) hrs) (spr ch i n) st) (2 ^ n) 0 (0, -1, 0)).2.1 ∧ K 143 0 = (loopN (fun i st => gW (sWho V R (N 120) hrs) (spr ch i n) st) (2 ^ n) 0 (0, -1, 0)).2.2 ∧ Z10 K ∧ Off SW N K := by
  unfold g5_matchSets
  rw [mset_eq]
  have a0 : (upM N 135 0 0) 0 = R := by rw [up_b (by decide), h0]
  obtain ⟨n1, ch1, K1, e1, C1, hn1, o1⟩ := chooseInns_b ok (most := 5) (by omega) (str := true) (M := upM N 135 0 0) 9 0 5000 0 (fun _ => 0) (upM N 135 0 0) rfl (by omega) a0 (chs_0 up_s) (by rw [uN]; rfl) Off.rf
  have e1' : g5_chooseInns 5 (upM N 135 0 0) = some K1 := e1
  obtain ⟨n, ch, K2, e2, C2, o2⟩ := chooseStr_b ok (most := 5) (by omega) (M := K1) 3 9 5000 n1 ch1 K1 rfl (by omega) (by omega) (by rw [o1 0 (by decide), a0]) C1 (by omega) Off.rf
  have e2' : g5_chooseStrays K1 = some K2 := e2
  obtain ⟨K3, e3, o3, f3⟩ := fill136_eq (M := K2)
  obtain ⟨K4, e4, b1', b2', b3', -, o4⟩ := clearFound_eq (N := K3)
  rw [bs e1', bs e2', bs e3, bs e4]
  have C4 := (C2.fr (o3 134 (by decide)) (o3 135 (by decide))).fr (o4 134 (by decide)) (o4 135 (by decide))
  have h9 := pow_le n C4.1
  have o04 : Off [134, 135, 136, 141, 142, 143, 144] N K4 := ((((Off.up (by decide)).tr (o1.mono (by decide))).tr (o2.mono (by decide))).tr (o3.mono (by decide))).tr (o4.mono (by decide))
  obtain ⟨K, e, k1, k2, k3, kz, ko⟩ := match_b L ok hu eu (T := N 120) (n := n) (ch := ch) (M := N) rfl (2 ^ n) 0 5000 K4 (0, -1, 0) (by omega) (by omega) (by rw [o04 0 (by decide), h0]) (z.of fun b hb => o04 b (by simp; omega)) (lb.tr (lawC.off' o04 (by decide))) C4 ⟨fun o ho => Or.inl (by rw [o4 136 (by decide)]; exact f3 o (by omega)), fun o ho => absurd ho (by omega)⟩ (o04.mono (by decide)) b1' b2' b3' (Nat.le_refl _)
  exact ⟨n, ch, K, e, ⟨K4, C4⟩, k1, k2, k3, kz, ko⟩
