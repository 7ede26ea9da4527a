/-! PURE: who lit, the reference's; whoLit -/
/-- strays told -/
def rQ (R : Nat → Int32) (m k j : Nat) : Int32 := if 265 ≤ j ∧ j < 256 + k then (if m.testBit (j - 256) = true then 1 else 0) else R j
theorem rQ_9 {R : Nat → Int32} {m : Nat} : rQ R m 9 = R := by
  funext j
  unfold rQ
  rw [if_neg (by omega)]
theorem rQ_12 {R : Nat → Int32} {m : Nat} : rQ (rF R m false) m 12 = rF R m true := by
  funext j
  unfold rQ rF
  by_cases c1 : (232 ≤ j ∧ j < 241) ∧ m.testBit (j - 232) = true
  · rw [if_neg (by omega), if_pos c1, if_pos c1]
  · rw [if_neg c1, if_neg c1]
    by_cases c2 : 265 ≤ j ∧ j < 268
    · rw [if_pos c2]
      exact (if_pos (⟨rfl, c2.1, c2.2⟩ : true = true ∧ 265 ≤ j ∧ j < 268)).symm
    · rw [if_neg c2, if_neg (by simp), if_neg (fun q => c2 q.2)]
theorem rQ_s {R : Nat → Int32} {m k : Nat} (hk : 9 ≤ k) : upd (rQ R m k) (256 + k) (if m.testBit k = true then 1 else 0) = rQ R m (k + 1) := by
  funext j
  unfold upd rQ
  by_cases c : j = 256 + k
  · subst c
    rw [if_pos (rfl : 256 + k = 256 + k), show 256 + k - 256 = k by omega]
    exact (if_pos (⟨by omega, by omega⟩ : 265 ≤ 256 + k ∧ 256 + k < 256 + (k + 1))).symm
  · rw [if_neg c]
    by_cases c2 : 265 ≤ j ∧ j < 256 + k
    · rw [if_pos c2]
      exact (if_pos (⟨c2.1, by omega⟩ : 265 ≤ j ∧ j < 256 + (k + 1))).symm
    · rw [if_neg c2, if_neg (by omega)]
theorem comes83 {R T : Nat → Int32} {N : xMem} (ok : RowOk (N 7)) (hT : ∀ h, h < 6 → N 195 h = if sOn R h = true then T (onN R h) else -1) (hm : ∀ i, T i ≠ -1) : ∀ (d h f : Nat), h + d = 6 → d < f → g9_comesSo_b83 f (nI h) N = some (b2i (asS R T (N 7) d h = true), N)
  | 0, h, f + 1, hk, hf => by
    obtain rfl : h = 6 := by omega
    unfold g9_comesSo_b83
    rw [if_pos (by decide)]
    rfl
  | d + 1, h, f + 1, hk, hf => by
    have ih := comes83 ok hT hm d (h + 1) f (by omega) (by omega)
    unfold g9_comesSo_b83 g9_comesSo_b129 g9_comesSo_b134 asS
    simp (disch := omega) only [↓reduceIte, i_ll, nle_f, nI_1, i_lt0, i_cl, i_al, or_self, hT h (by omega)]
    by_cases c : sOn R h = true
    · rw [if_pos c, if_neg (hm _), bs (on9_in ok (by omega))]
      simp only [b2i_0]
      have fin : (if T (onN R h) = seenOf (N 7) h then g9_comesSo_b83 f (nI (h + 1)) N else some (0, N)) = some (b2i (((!sOn R h || decide (T (onN R h) = seenOf (N 7) h)) && asS R T (N 7) d (h + 1)) = true), N) := by
        rw [c]
        by_cases c2 : T (onN R h) = seenOf (N 7) h
        · rw [if_pos c2, ih, decide_eq_true c2]
          simp
        · rw [if_neg c2, decide_eq_false c2]
          simp [b2i]
      unfold seenOf at fin ⊢
      by_cases c1 : sOn (N 7) h = true
      · rw [if_neg (fun q => q c1)]
        simp only [if_pos c1] at fin ⊢
        exact fin
      · rw [if_pos c1]
        simp only [if_neg c1] at fin ⊢
        exact fin
    · rw [if_neg c, if_pos rfl, ih]
      cases q : sOn R h
      · simp
      · exact absurd q c
theorem comes40 {B : xMem} {V : Nat → (Nat → Int32) → Int32} (L : LawV B V) {R T : Nat → Int32} (ok : RowOk R) {hrs m : Nat} (hh : hrs < 4000) (hm : m < 4096) (hT1 : ∀ i, T i ≠ -1) {M : xMem} (hT : ∀ h, h < 6 → M 195 h = if sOn R h = true then T (onN R h) else -1) :
    ∀ (d k f : Nat) (N : xMem), k + d = 12 → 9 ≤ k → d < f → N 7 = rQ (rF R m false) m k → lawM B N → Off TT M N →
      ∃ K, g9_comesSo_b40 f (nI hrs) (nI m) (nI k) N = some (sWho V R T hrs m, K) ∧ RowOk (K 7) ∧ Off TT M K
  | 0, k, f + 1, N, hk, h9, hf, h7, lb, o => by
    obtain rfl : k = 12 := by omega
    unfold g9_comesSo_b40
    rw [if_pos (by decide)]
    rw [rQ_12] at h7
    have okF : RowOk (rF R m true) := rF_ok ok
    obtain ⟨K, e, r, oK⟩ := runs9_eq (n := hrs) (M := N) hh L lb (by rw [h7]; exact okF)
    rw [h7] at e r
    have ok7 : RowOk (K 7) := by rw [r]; exact sRun_ok L.vb _ _ 0 okF
    have e2 := comes83 (R := R) (T := T) (N := K) ok7 (fun h hh => by rw [oK 195 (by decide), o 195 (by decide)]; exact hT h hh) hT1 6 0 5000 rfl (by omega)
    have e2' : g9_comesSo_b83 5000 0 K = _ := e2
    rw [bs e]
    refine ⟨K, ?_, ok7, o.tr oK⟩
    dsimp only
    rw [e2', r]
    rfl
  | d + 1, k, f + 1, N, hk, h9, hf, h7, lb, o => by
    unfold g9_comesSo_b40 g9_comesSo_b68
    simp (disch := omega) only [↓reduceIte, i_ll, nle_f, nI_1]
    rw [bs (has9_bit (by omega)), bitOf_nI (by omega) (by omega)]
    simp (disch := omega) only [↓reduceIte, b2i_0, i_lt0, i_cl, i_al, nle_f, or_self, mset_eq]
    have go : ∀ x, x = (if m.testBit k = true then (1 : Int32) else 0) → ∃ K, g9_comesSo_b40 f (nI hrs) (nI m) (nI (k + 1)) (upM N 7 (256 + k) x) = some (sWho V R T hrs m, K) ∧ RowOk (K 7) ∧ Off TT M K := fun x hx =>
      comes40 L ok hh hm hT1 hT d (k + 1) f _ (by omega) (by omega) (by omega) (by rw [up_row, h7, hx]; exact rQ_s h9) (lb.tr (lm (tt_7 (Off.up (by decide))))) (o.up' (by decide))
    by_cases c : m.testBit k = true
    · rw [if_neg (fun q => q c)]
      exact go 1 (if_pos c).symm
    · rw [if_pos c]
      exact go 0 (if_neg c).symm
theorem comes6 {B : xMem} {V : Nat → (Nat → Int32) → Int32} (L : LawV B V) {R T : Nat → Int32} (ok : RowOk R) {hrs m : Nat} (hh : hrs < 4000) (hm : m < 4096) (hT1 : ∀ i, T i ≠ -1) {M : xMem} (hT : ∀ h, h < 6 → M 195 h = if sOn R h = true then T (onN R h) else -1) :
    ∀ (d k f : Nat) (N : xMem), k + d = 9 → d < f → N 7 = rP R m k → lawM B N → Off TT M N →
      ∃ K, g9_comesSo_b6 f (nI hrs) (nI m) (nI k) N = some (sWho V R T hrs m, K) ∧ RowOk (K 7) ∧ Off TT M K
  | 0, k, f + 1, N, hk, hf, h7, lb, o => by
    obtain rfl : k = 9 := by omega
    unfold g9_comesSo_b6
    rw [if_pos (by decide)]
    exact comes40 L ok hh hm hT1 hT 3 9 5000 N rfl (by omega) (by omega) (by rw [rQ_9, h7, rP_9]) lb o
  | d + 1, k, f + 1, N, hk, hf, h7, lb, o => by
    unfold g9_comesSo_b6 g9_comesSo_b31
    simp (disch := omega) only [↓reduceIte, i_ll, nle_f, nI_1]
    rw [bs (has9_bit (by omega)), bitOf_nI (by omega) (by omega)]
    simp only [b2i_0]
    by_cases c : m.testBit k = true
    · rw [if_neg (fun q => q c)]
      simp (disch := omega) only [↓reduceIte, i_lt0, i_cl, i_al, nle_f, or_self, mset_eq]
      exact comes6 L ok hh hm hT1 hT d (k + 1) f _ (by omega) (by omega) (by rw [up_row, h7]; exact rP_s.1 c) (lb.tr (lm (tt_7 (Off.up (by decide))))) (o.up' (by decide))
    · rw [if_pos c]
      exact comes6 L ok hh hm hT1 hT d (k + 1) f N (by omega) (by omega) (by rw [h7]; exact rP_s.2 c) lb o
theorem comes_eq {B : xMem} {V : Nat → (Nat → Int32) → Int32} (L : LawV B V) {R T : Nat → Int32} (ok : RowOk R) {hrs m : Nat} (hh : hrs < 4000) (hm : m < 4096) (hT1 : ∀ i, T i ≠ -1) {N : xMem} (hT : ∀ h, h < 6 → N 195 h = if sOn R h = true then T (onN R h) else -1) (h8 : N 8 = R) (z : Z10 N) (lb : lawM B N) :
    ∃ K, g9_comesSo (nI hrs) (nI m) N = some (sWho V R T hrs m, K) ∧ K 8 = R ∧ Z10 K ∧ Off TT N K := by
  unfold g9_comesSo
  obtain ⟨K1, e1, r1, r18, o1, z1⟩ := again_eq h8 z
  rw [bs e1]
  obtain ⟨K, e, ok7, o⟩ := comes6 L ok hh hm hT1 (M := K1) (fun h hh => by rw [o1 195 (by decide)]; exact hT h hh) 9 0 5000 K1 rfl (by omega) (by rw [r1, rP_0]) (lb.tr (lawM.off' o1 (by decide))) Off.rf
  refine ⟨K, e, by rw [o 8 (by decide), r18], z1.row o fun b hb h10 => ?_, (tt_7 o1).tr o⟩
  have : b = 7 := by revert b; decide
  subst this
  exact ok7
/-- the lamps of which nothing is known -/
def subW (R : Nat → Int32) (m : Nat) : Prop := ∀ l, m.testBit l = true → l < 12 ∧ inCh R 5 true l
theorem subW_eq {R : Nat → Int32} {x : Int32} (hx : ∀ l, l < 32 → (bitOf x l = true ↔ l < 12 ∧ inCh R 5 true l)) {m : Nat} (hm : m < 4096) : ((nI m &&& (x ^^^ (-1 : Int32))) = 0) = subW R m := by
  rw [sub9 (by omega)]
  refine propext ⟨fun h l hl => ?_, fun h l hl c => (hx l hl).mpr (h l c)⟩
  by_cases c : l < 32
  · exact (hx l c).mp (h l c hl)
  · have : 2 ^ 32 ≤ 2 ^ l := Nat.pow_le_pow_right (by omega) (by omega)
    rw [tb_lt (show m < 2 ^ l by omega)] at hl
    cases hl
theorem unknown_b {R : Nat → Int32} (ok : RowOk R) {N : xMem} (h7 : N 7 = R) : ∀ (d k f c : Nat) (x : Int32), k + d = 12 → d < f → (∀ l, l < 32 → (bitOf x l = true ↔ l < k ∧ inCh R 5 true l)) → (k ≤ 9 → c = min (uN R k) 5) → c ≤ 5 →
    ∃ x', g9_unknown_b6 f x (nI c) (nI k) N = some (x', N) ∧ ∀ l, l < 32 → (bitOf x' l = true ↔ l < 12 ∧ inCh R 5 true l)
  | 0, k, f + 1, c, x, hk, hf, hx, hc, hc5 => by
    obtain rfl : k = 12 := by omega
    unfold g9_unknown_b6
    rw [if_pos (by decide)]
    exact ⟨x, rfl, hx⟩
  | d + 1, k, f + 1, c, x, hk, hf, hx, hc, hc5 => by
    have ok7 : RowOk (N 7) := by rw [h7]; exact ok
    have skip : ∀ c', ¬ inCh R 5 true k → (k + 1 ≤ 9 → c' = min (uN R (k + 1)) 5) → c' ≤ 5 → ∃ x', g9_unknown_b6 f x (nI c') (nI (k + 1)) N = some (x', N) ∧ ∀ l, l < 32 → (bitOf x' l = true ↔ l < 12 ∧ inCh R 5 true l) := fun c' hp hc' h5 =>
      unknown_b ok h7 d (k + 1) f c' x (by omega) (by omega) (fun l hl => by
        rw [hx l hl]
        constructor
        · rintro ⟨a, b⟩
          exact ⟨by omega, b⟩
        · rintro ⟨a, b⟩
          refine ⟨?_, b⟩
          have : l ≠ k := fun q => hp (q ▸ b)
          omega) hc' h5
    have take : ∀ c', inCh R 5 true k → (k + 1 ≤ 9 → c' = min (uN R (k + 1)) 5) → c' ≤ 5 → ∃ x', g9_unknown_b6 f (x ||| (1 : Int32) <<< (nI k &&& 31)) (nI c') (nI (k + 1)) N = some (x', N) ∧ ∀ l, l < 32 → (bitOf x' l = true ↔ l < 12 ∧ inCh R 5 true l) := fun c' hp hc' h5 =>
      unknown_b ok h7 d (k + 1) f c' _ (by omega) (by omega) (fun l hl => by
        rw [bitOf_or, Bool.or_eq_true, hx l hl, bit_up k (by omega) l hl, decide_eq_true_eq]
        constructor
        · rintro (⟨a, b⟩ | q)
          · exact ⟨by omega, b⟩
          · exact ⟨by omega, q ▸ hp⟩
        · rintro ⟨a, b⟩
          by_cases q : k = l
          · exact Or.inr q
          · exact Or.inl ⟨by omega, b⟩) hc' h5
    unfold g9_unknown_b6 g9_unknown_b42 g9_unknown_b60 g9_unknown_b62
    simp (disch := omega) only [↓reduceIte, i_ll, nle_f, nI_1]
    rw [bs (lamp9_in ok7 (by omega))]
    simp only [b2i_0, h7]
    by_cases c1 : R (196 + k) = 0
    · rw [if_pos (fun q => q c1)]
      have nu : ¬ sUnlit R k = true := fun q => (unlit_split.mp q).1 c1
      refine skip c ?_ (fun q => ?_) hc5
      · unfold inCh
        by_cases c9 : k < 9
        · rw [if_pos c9]; exact fun q => nu q.1
        · rw [if_neg c9]; exact fun q => q.2.2 c1
      · unfold uN
        rw [if_neg nu]
        exact hc (by omega)
    rw [if_neg (fun q => q c1)]
    by_cases c9 : 9 ≤ k
    · rw [if_pos c9, if_pos c9]
      have p : inCh R 5 true k := by
        unfold inCh
        rw [if_neg (by omega)]
        exact ⟨by omega, rfl, c1⟩
      have e0 : nI c + 0 = nI c := Int32.add_zero _
      rw [e0]
      exact take c p (fun q => absurd q (by omega)) hc5
    rw [if_neg c9, bs (lit9_in ok7 (by omega))]
    simp only [b2i_0, h7, if_neg c9]
    by_cases c2 : sLit R k = true
    · rw [if_neg (fun q => q c2)]
      have nu : ¬ sUnlit R k = true := fun q => (unlit_split.mp q).2 c2
      refine skip c ?_ (fun q => ?_) hc5
      · unfold inCh
        rw [if_pos (by omega)]; exact fun q => nu q.1
      · unfold uN
        rw [if_neg nu]
        exact hc (by omega)
    rw [if_pos c2]
    have yu : sUnlit R k = true := unlit_split.mpr ⟨c1, c2⟩
    have hc' := hc (by omega)
    by_cases c5 : c = 5
    · rw [if_pos (by rw [c5]; rfl)]
      refine skip c ?_ (fun q => ?_) hc5
      · unfold inCh
        rw [if_pos (by omega)]
        rintro ⟨-, q⟩
        omega
      · unfold uN
        rw [if_pos yu]
        omega
    · rw [if_neg (show ¬ nI c = 5 from fun q => c5 ((nI_eq (b := 5) (by omega) (by omega)).mp q))]
      refine take (c + 1) ?_ (fun q => ?_) (by omega)
      · unfold inCh
        rw [if_pos (by omega)]
        exact ⟨yu, by omega⟩
      · unfold uN
        rw [if_pos yu]
        omega
def ansW (w : Int32) (st : StW) : Int32 := if w = 0 then nI st.1 else if st.1 = 0 then -2 else if w = 1 then st.2.1 else st.2.2
theorem and4095 {m : Nat} (hm : m < 4096) : (4095 : Int32) &&& nI m = nI m := by
  refine bit_ext fun l hl => ?_
  have h : (4095 : Int32) = nI 4095 := rfl
  rw [bitOf_and, h, bitOf_nI (by omega) hl, bitOf_nI (by omega) hl, show 4095 = 2 ^ 12 - 1 by decide, Nat.testBit_two_pow_sub_one]
  by_cases c : l < 12
  · rw [decide_eq_true c, Bool.true_and]
  · have : 2 ^ 12 ≤ 2 ^ l := Nat.pow_le_pow_right (by omega) (by omega)
    rw [tb_lt (show m < 2 ^ l by omega), Bool.and_false]
theorem who9_b {B : xMem} {V : Nat → (Nat → Int32) → Int32} (L : LawV B V) {R T : Nat → Int32} (ok : RowOk R) {hrs : Nat} (hh : hrs < 4000) (hT1 : ∀ i, T i ≠ -1) {x w : Int32} (hx : ∀ l, l < 32 → (bitOf x l = true ↔ l < 12 ∧ inCh R 5 true l)) {M : xMem} (hT : ∀ h, h < 6 → M 195 h = if sOn R h = true then T (onN R h) else -1) :
    ∀ (d m f : Nat) (st : StW) (N : xMem), m + d = 4096 → d < f → st.1 ≤ m → (st.1 = 0 → st.2.2 = 4095) → N 8 = R → Z10 N → lawM B N → Off S7 M N →
      ∃ K, g9_whoLit_b165 f (nI hrs) w x (nI st.1) st.2.1 st.2.2 (nI m) N = some (ansW w (loopN (fun m st => @ite StW (subW R m) (Classical.propDecidable (subW R m)) (gW (sWho V R T hrs) m st) st) d m st), K) ∧ K 7 = R ∧ Z10 K ∧ Off S7 M K
  | 0, m, f + 1, st, N, hk, hf, hm, ha, h8, z, lb, o => by
    obtain rfl : m = 4096 := by omega
    unfold g9_whoLit_b165
    rw [if_pos (by decide)]
    obtain ⟨K, e, r, r8, oK, zK⟩ := again_eq h8 z
    rw [bs e]
    refine ⟨K, ?_, r, zK, o.tr (oK.mono (by decide))⟩
    show _ = some (ansW w st, K)
    unfold ansW
    by_cases c : w = 0
    · rw [if_pos c, if_pos c]
    rw [if_neg c, if_neg c]
    by_cases c1 : st.1 = 0
    · rw [if_pos (by rw [c1]; exact nI_0), if_pos c1]
    rw [if_neg (nI_ne0 (by omega) (by omega)), if_neg c1]
    by_cases c2 : w = 1
    · rw [if_pos c2, if_pos c2]
    · rw [if_neg c2, if_neg c2]
  | d + 1, m, f + 1, st, N, hk, hf, hm, ha, h8, z, lb, o => by
    have ih := fun st K a1 a2 a3 a4 a5 a6 => who9_b L ok hh hT1 (w := w) hx hT d (m + 1) f st K (by omega) (by omega) a1 a2 a3 a4 a5 a6
    unfold g9_whoLit_b165 g9_whoLit_b208 g9_whoLit_b223 loopN
    have hc : ((nI m &&& (x ^^^ (-1 : Int32))) = 0) = subW R m := subW_eq hx (by omega)
    simp (disch := omega) only [↓reduceIte, i_ll, nle_f, nI_1]
    by_cases c : subW R m
    · rw [if_pos (hc.mpr c), if_pos c]
      obtain ⟨K1, e1, k8, z1, o1⟩ := comes_eq L ok (hrs := hrs) (m := m) hh (by omega) hT1 (N := N) (fun h hh => by rw [o 195 (by decide)]; exact hT h hh) h8 z lb
      rw [bs e1]
      have lb1 := lb.tr (lm o1)
      have o1' : Off S7 M K1 := o.tr (s7_tt o1)
      dsimp only
      by_cases c0 : sWho V R T hrs m = 0
      · have eg : gW (sWho V R T hrs) m st = st := if_neg (by rw [c0]; decide)
        rw [if_pos c0, eg]
        exact ih st K1 (by omega) ha k8 z1 lb1 o1'
      · have c1 : sWho V R T hrs m = 1 := by
          have := of_eq_true (b2i_01 (c := asS R T (sRun V hrs (rF R m true) 0).1 6 0 = true))
          exact this.resolve_left c0
        have eg : gW (sWho V R T hrs) m st = (st.1 + 1, if st.1 = 0 then nI m else st.2.1, if st.1 = 0 then nI m else st.2.2 &&& nI m) := if_pos c1
        rw [if_neg c0, eg]
        by_cases c2 : st.1 = 0
        · rw [if_pos c2, if_pos c2, if_pos (by rw [c2]; exact nI_0), ha c2, and4095 (by omega)]
          exact ih (st.1 + 1, nI m, nI m) K1 (by dsimp only; omega) (fun q => absurd q (by dsimp only; omega)) k8 z1 lb1 o1'
        · rw [if_neg c2, if_neg c2, if_neg (nI_ne0 (by omega) (by omega))]
          exact ih (st.1 + 1, st.2.1, st.2.2 &&& nI m) K1 (by dsimp only; omega) (fun q => absurd q (by dsimp only; omega)) k8 z1 lb1 o1'
    · rw [if_neg (fun q => c (hc.mp q)), if_neg c]
      exact ih st N (by omega) ha h8 z lb o
/-- herds counted, squares told -/
theorem who5_b {R : Nat → Int32} (ok : RowOk R) {x w : Int32} {N : xMem} (h7 : N 7 = R) : ∀ (d h f : Nat), h + d = 6 → d < f → g9_whoLit_b5 f x w (nI (onN R h)) (nI h) N =
    (Option.bind (g9_areWithin x N) fun q2 => if q2.1 = 0 then some (-1, q2.2) else Option.bind (g9_in w 0 2 q2.2) fun q5 => if q5.1 = 0 then some (-1, q5.2) else if nI (onN R 6) = 0 then some (-1, q5.2) else if nI (onN R 6) ≤ q5.2 164 0 then g9_whoLit_b77 5000 x w 0 0 (upM q5.2 164 0 0) else some (-1, q5.2))
  | 0, h, f + 1, hk, hf => by
    obtain rfl : h = 6 := by omega
    unfold g9_whoLit_b5
    rw [if_pos (by decide)]
    rfl
  | d + 1, h, f + 1, hk, hf => by
    have ih := who5_b ok (x := x) (w := w) h7 d (h + 1) f (by omega) (by omega)
    have ok7 : RowOk (N 7) := by rw [h7]; exact ok
    unfold g9_whoLit_b5 g9_whoLit_b27
    simp (disch := omega) only [↓reduceIte, i_ll, nle_f]
    rw [bs (on9_in ok7 (by omega)), ← ih]
    simp only [b2i_0, h7, nI_1]
    have e : onN R (h + 1) = onN R h + b2n (sOn R h) := rfl
    rw [e]
    by_cases c : sOn R h = true
    · rw [if_neg (fun q => q c), c]
      rfl
    · rw [if_pos c]
      cases q : sOn R h
      · have : nI (onN R h) + 0 = nI (onN R h) := Int32.add_zero _
        rw [this]; rfl
      · exact absurd q c
theorem who77_b {R T : Nat → Int32} (ok : RowOk R) {x w : Int32} {M : xMem} (hT : ∀ i, i < 260 → M 163 i &&& 255 = T i) : ∀ (d h f : Nat) (N : xMem), h + d = 6 → d < f → N 7 = R → (∀ i, i < h → N 195 i = if sOn R i = true then T (onN R i) else -1) → Off [195] M N →
    ∃ K, g9_whoLit_b77 f x w (nI (onN R h)) (nI h) N = (Option.bind (g9_unknown K) fun q15 => Option.bind (g9_begins q15.2) fun q17 => g9_whoLit_b165 5000 x w q15.1 0 (-2) 4095 0 q17) ∧ (∀ i, i < 6 → K 195 i = if sOn R i = true then T (onN R i) else -1) ∧ Off [195] M K
  | 0, h, f + 1, N, hk, hf, h7, ht, o => by
    obtain rfl : h = 6 := by omega
    refine ⟨N, ?_, ht, o⟩
    unfold g9_whoLit_b77
    rw [if_pos (by decide)]
  | d + 1, h, f + 1, N, hk, hf, h7, ht, o => by
    have hle := onN_le (R := R) h
    have e : onN R (h + 1) = onN R h + b2n (sOn R h) := rfl
    have go : ∀ v, v = (if sOn R h = true then T (onN R h) else -1) → ∃ K, g9_whoLit_b77 f x w (nI (onN R (h + 1))) (nI (h + 1)) (upM N 195 h v) = (Option.bind (g9_unknown K) fun q15 => Option.bind (g9_begins q15.2) fun q17 => g9_whoLit_b165 5000 x w q15.1 0 (-2) 4095 0 q17) ∧ (∀ i, i < 6 → K 195 i = if sOn R i = true then T (onN R i) else -1) ∧ Off [195] M K := fun v hv =>
      who77_b ok hT d (h + 1) f _ (by omega) (by omega) (by rw [up_b (by decide), h7]) (fun i hi => by
        by_cases c : i = h
        · subst c
          rw [up_s, hv]
        · rw [up_i c]
          exact ht i (by omega)) (o.up' (by decide))
    have ok7 : RowOk (N 7) := by rw [h7]; exact ok
    unfold g9_whoLit_b77 g9_whoLit_b114 g9_whoLit_b131
    simp (disch := omega) only [↓reduceIte, i_ll, nle_f]
    rw [bs (on9_in ok7 (by omega))]
    simp (disch := omega) only [↓reduceIte, b2i_0, h7, nI_1, i_lt0, i_cl, nle_f, or_self, mset_eq]
    have on2 : ∀ v, g9_isOn (nI h) (upM N 195 h v) = some (b2i (sOn R h = true), upM N 195 h v) := fun v => by
      rw [on9_in (by rw [up_b (by decide)]; exact ok7) (by omega), up_b (by decide), h7]
    by_cases c : sOn R h = true
    · rw [if_neg (fun q => q c), o 163 (by decide), hT _ (by omega), bs (on2 _)]
      simp only [b2i_0]
      rw [if_neg (fun q => q c)]
      rw [e, c] at go
      exact go _ (by rw [if_pos rfl])
    · rw [if_pos c, bs (on2 _)]
      simp only [b2i_0]
      rw [if_pos c]
      have c' : sOn R h = false := by
        cases q : sOn R h
        · rfl
        · exact absurd q c
      have e0 : nI (onN R h) + 0 = nI (onN R h) := Int32.add_zero _
      rw [e0]
      rw [e, c'] at go
      exact go _ (by rw [if_neg (by decide)])
theorem pair_whoLit (a w : Int32) : Pair (g8_whoLit a w) (g9_whoLit a w) := by
  intro M I
  have e5 : ∀ N, N 7 = M 7 → g9_whoLit a w N = _ := fun N hN => by
    have := who5_b (R := M 0) I.ok (x := a) (w := w) (N := N) (hN.trans I.eq7) 6 0 5000 rfl (by omega)
    exact this
  have hpop : (Option.bind (g1_onBits 0 M) fun q1 => gJ6_bitCount_0f7a4 q1.1 q1.2) = some (nI (onN (M 0) 6), M) := by
    rw [bs onBits_eq, pop_eq, pop_on]
  have h8 : g8_whoLit a w M = (Option.bind (g8_isLeft a M) fun q5 => if q5.1 = 0 then some (-1, q5.2) else Option.bind (g9_in w 0 2 q5.2) fun q8 => if q8.1 = 0 then some (-1, q8.2) else if nI (onN (M 0) 6) = 0 then some (-1, q8.2) else if nI (onN (M 0) 6) ≤ q8.2 121 0 then (Option.bind (g5_matchSets a q8.2) fun q13 => if w = 0 then some ((upM q13 121 0 0) 141 0, upM q13 121 0 0) else if (upM q13 121 0 0) 141 0 = 0 then some (-2, upM q13 121 0 0) else if w = 1 then some ((upM q13 121 0 0) 142 0, upM q13 121 0 0) else some ((upM q13 121 0 0) 143 0, upM q13 121 0 0)) else some (-1, q8.2)) := by
    unfold g8_whoLit
    rw [bs onBits_eq]
    show Option.bind (gJ6_bitCount_0f7a4 (orF (sOnB (M 0)) 6) M) _ = _
    rw [bs pop_eq, pop_on, in8_9]
    rfl
  rw [h8]
  rcases left_cases a I with ⟨l1, l1'⟩ | ⟨hrs, u, hn1, hun, rfl, eu, l1, l1'⟩
  · exact ⟨-1, M, M, by rw [b0 l1], by rw [e5 M rfl, b0 (l1' M rfl)], I⟩
  rcases in_cases w 0 2 0 2 with h2 | ⟨t, -, ht, rfl, h2⟩
  · exact ⟨-1, M, M, by rw [b1 l1, b0 (h2 M)], by rw [e5 M rfl, b1 (l1' M rfl), b0 (h2 M)], I⟩
  by_cases c0 : nI (onN (M 0) 6) = 0
  · exact ⟨-1, M, M, by rw [b1 l1, b1 (h2 M), if_pos c0], by rw [e5 M rfl, b1 (l1' M rfl), b1 (h2 M), if_pos c0], I⟩
  have tn := tape_n I
  by_cases c1 : nI (onN (M 0) 6) ≤ M 121 0
  · obtain ⟨V, L⟩ := lawV_of I.law
    obtain ⟨n, ch, K, e, ⟨Kc, C⟩, k1, k2, k3, kz, ko⟩ := match_eq L I.ok hun eu (N := M) rfl I.z (fun _ _ => rfl)
    obtain ⟨tt, htt, t1, t2, tb⟩ := I.tape
    have o1 : Off (121 :: SW) M (upM K 121 0 0) := (ko.mono (fun b hb => List.mem_cons_of_mem _ hb)).up' (by simp)
    have k141 : (upM K 121 0 0) 141 0 = K 141 0 := by rw [up_b (by decide)]
    have k142 : (upM K 121 0 0) 142 0 = K 142 0 := by rw [up_b (by decide)]
    have k143 : (upM K 121 0 0) 143 0 = K 143 0 := by rw [up_b (by decide)]
    have z1 : Z10 (upM K 121 0 0) := kz.up (Or.inr (by decide))
    have t121 : (upM K 121 0 0) 121 0 = 0 := up_s
    have hm : (Option.bind (g5_matchSets (nI hrs) M) fun q13 => if nI t = 0 then some ((upM q13 121 0 0) 141 0, upM q13 121 0 0) else if (upM q13 121 0 0) 141 0 = 0 then some (-2, upM q13 121 0 0) else if nI t = 1 then some ((upM q13 121 0 0) 142 0, upM q13 121 0 0) else some ((upM q13 121 0 0) 143 0, upM q13 121 0 0)) = some (ansW (nI t) (loopN (fun i st => gW (sWho V (M 0) (M 120) hrs) (spr ch i n) st) (2 ^ n) 0 (0, -1, 0)), upM K 121 0 0) := by
      rw [bs e, k141, k142, k143, k1, k2, k3]
      unfold ansW
      have le := gW_le (out := sWho V (M 0) (M 120) hrs) (g := fun i => spr ch i n) (2 ^ n) 0 (0, -1, 0)
      have hn := pow_le n C.1
      generalize loopN (fun i st => gW (sWho V (M 0) (M 120) hrs) (spr ch i n) st) (2 ^ n) 0 (0, -1, 0) = st at le ⊢
      by_cases c : nI t = 0
      · rw [if_pos c, if_pos c]
      rw [if_neg c, if_neg c]
      by_cases c1 : st.1 = 0
      · rw [if_pos (by rw [c1]; exact nI_0), if_pos c1]
      rw [if_neg (nI_ne0 (by omega) (by dsimp only at le; omega)), if_neg c1]
      by_cases c2 : nI t = 1
      · rw [if_pos c2, if_pos c2]
      · rw [if_neg c2, if_neg c2]
    generalize upM K 121 0 0 = K1 at o1 z1 t121 hm
    -- the reference
    have k7 : K1 7 = M 7 := o1 7 (by decide)
    have k164 : K1 164 0 = M 164 0 := by rw [o1 164 (by decide)]
    have o2 : Off [164] K1 (upM K1 164 0 0) := Off.up (by decide)
    have t164 : (upM K1 164 0 0) 164 0 = 0 := up_s
    have z2 : Z10 (upM K1 164 0 0) := z1.up (Or.inr (by decide))
    have r9 : g9_whoLit (nI hrs) (nI t) K1 = g9_whoLit_b77 5000 (nI hrs) (nI t) 0 0 (upM K1 164 0 0) := by
      rw [e5 K1 k7, b1 (l1' K1 k7), b1 (h2 K1), if_neg c0]
      exact if_pos (show nI (onN (M 0) 6) ≤ K1 164 0 by rw [k164, ← tn]; exact c1)
    generalize upM K1 164 0 0 = K2 at o2 t164 z2 r9
    have hT : ∀ i, i < 260 → K2 163 i &&& 255 = M 120 i := fun i hi => by rw [o2 163 (by decide), o1 163 (by decide)]; exact (tb i hi).symm
    obtain ⟨K3, e3, h195, o3⟩ := who77_b (R := M 0) (T := fun i => if i < 260 then M 120 i else 0) I.ok (x := nI hrs) (w := nI t) (M := K2) (fun i hi => by rw [if_pos hi]; exact hT i hi) 6 0 5000 K2 rfl (by omega) (by rw [o2 7 (by decide), k7, I.eq7]) (fun i hi => absurd hi (by omega)) Off.rf
    have e3' : g9_whoLit_b77 5000 (nI hrs) (nI t) 0 0 K2 = _ := e3
    have k37 : K3 7 = M 0 := by rw [o3 7 (by decide), o2 7 (by decide), k7, I.eq7]
    obtain ⟨x, e4, hx⟩ := unknown_b (R := M 0) I.ok (N := K3) k37 12 0 5000 0 0 rfl (by omega) (fun l hl => by rw [bitOf_0]; exact ⟨fun q => (by cases q), fun q => absurd q.1 (by omega)⟩) (fun _ => by rw [uN]; rfl) (by omega)
    have e4' : g9_unknown K3 = some (x, K3) := e4
    have z3 : Z10 K3 := z2.of fun b hb => o3 b (by simp; omega)
    obtain ⟨K5, e5', r8, f5, z5⟩ := cp155 z3
    have b255 : ∀ i, (if i < 260 then M 120 i else 0) ≠ -1 := fun i => by
      split
      · rename_i hi
        have hb := tb i hi
        rw [hb, pk_and (m := 255) _ 8 (by decide)]
        exact nI_m1 (by omega)
      · decide
    have oM5 : Off (8 :: 195 :: 164 :: 121 :: SW) M K5 := fun b hb => by
      simp only [List.mem_cons, not_or] at hb
      rw [f5 b hb.1, o3 b (by simpa using hb.2.1), o2 b (by simpa using hb.2.2.1), o1 b (by simpa using hb.2.2.2)]
    obtain ⟨K6, e6, k67, z6, o6⟩ := who9_b L (R := M 0) (T := fun i => if i < 260 then M 120 i else 0) I.ok (hrs := hrs) (by omega) b255 (w := nI t) hx (M := K5) (fun h hh => by rw [f5 195 (by decide)]; exact h195 h hh) 4096 0 5000 (0, -2, 4095) K5 rfl (by omega) (by dsimp only; omega) (fun _ => rfl) (by rw [r8, k37]) z5 (lawM.off' oM5 (by decide)) Off.rf
    have e6' : g9_whoLit_b165 5000 (nI hrs) (nI t) x 0 (-2) 4095 0 K5 = _ := e6
    have hsub : ∀ m, m < 2 ^ 12 → (subW (M 0) m ↔ ∀ l, m.testBit l = true → ∃ b, b < n ∧ ch b = l) := fun m hm => by
      constructor
      · intro h l hl
        obtain ⟨a1, a2⟩ := h l hl
        exact (C.2.2.2.2 l a1).mpr a2
      · intro h l hl
        obtain ⟨b, hb, e⟩ := h l hl
        have hl12 : l < 12 := by rw [← e]; exact Chs.lt C b hb
        exact ⟨hl12, (C.2.2.2.2 l hl12).mp ⟨b, hb, e⟩⟩
    have hen := enum_eq 12 n (gW (sWho V (M 0) (fun i => if i < 260 then M 120 i else 0) hrs)) (subW (M 0)) (fun _ => Classical.propDecidable _) ((0, -2, 4095) : StW) (Chs.lt C) (Chs.mon C) hsub
    rw [show (2 : Nat) ^ 12 = 4096 by decide] at hen
    have hasS : ∀ R' d h, h + d ≤ 6 → asS (M 0) (fun i => if i < 260 then M 120 i else 0) R' d h = asS (M 0) (M 120) R' d h := fun R' d => by
      induction d with
      | zero => intro h _; rfl
      | succ d ih =>
        intro h hh
        unfold asS
        have := onN_le (R := M 0) h
        rw [ih (h + 1) (by omega), if_pos (show onN (M 0) h < 260 by omega)]
    have hw : sWho V (M 0) (fun i => if i < 260 then M 120 i else 0) hrs = sWho V (M 0) (M 120) hrs := funext fun m => by
      unfold sWho
      rw [hasS _ 6 0 (by omega)]
    rw [hw] at hen e6'
    have eqA : ansW (nI t) (loopN (fun i st => gW (sWho V (M 0) (M 120) hrs) (spr ch i n) st) (2 ^ n) 0 (0, -2, 4095)) = ansW (nI t) (loopN (fun i st => gW (sWho V (M 0) (M 120) hrs) (spr ch i n) st) (2 ^ n) 0 (0, -1, 0)) := by
      obtain ⟨p1, p2⟩ := gW_0 (out := sWho V (M 0) (M 120) hrs) (g := fun i => spr ch i n) (2 ^ n) 0 (-2) 4095 (-1) 0
      unfold ansW
      by_cases c : nI t = 0
      · rw [if_pos c, if_pos c, p1]
      rw [if_neg c, if_neg c]
      by_cases c2 : (loopN (fun i st => gW (sWho V (M 0) (M 120) hrs) (spr ch i n) st) (2 ^ n) 0 (0, -2, 4095)).1 = 0
      · rw [if_pos c2, if_pos (p1 ▸ c2)]
      · rw [p2 c2]
    have K60 : K6 0 = M 0 := by rw [o6 0 (by decide), oM5 0 (by decide)]
    refine ⟨ansW (nI t) (loopN (fun i st => gW (sWho V (M 0) (M 120) hrs) (spr ch i n) st) (2 ^ n) 0 (0, -1, 0)), K1, K6, ?_, ?_, ?_⟩
    · rw [b1 l1, b1 (h2 M), if_neg c0]
      dsimp only
      rw [if_pos c1]
      exact hm
    · rw [r9, e3', bs e4']
      dsimp only
      rw [bs e5', e6', ← eqA, ← hen]
    · have oM6 : ∀ b ∈ PB, b ≠ 121 → b ≠ 164 → K6 b = M b := fun b hb q1 q2 => by
        have hq : b ∉ S7 ∧ b ≠ 8 ∧ b ≠ 195 ∧ b ∉ SW := by revert b; decide
        rw [o6 b hq.1, oM5 b (by simp only [List.mem_cons, not_or]; exact ⟨hq.2.1, hq.2.2.1, q2, q1, hq.2.2.2⟩)]
      have t6 : K6 121 0 = 0 := by rw [o6 121 (by decide), f5 121 (by decide), o3 121 (by decide), o2 121 (by decide), t121]
      have s6 : K6 164 0 = 0 := by rw [o6 164 (by decide), f5 164 (by decide), o3 164 (by decide), t164]
      refine ⟨by rw [k67, K60], by rw [K60]; exact I.ok, z6, I.kept.fr fun b hb => ?_, ⟨0, by omega, t6, s6, fun i hi => ?_⟩, I.law.fr fun b hb => ?_⟩
      · exact oM6 b (by revert b; decide) (by revert b; decide) (by revert b; decide)
      · rw [oM6 120 (by decide) (by decide) (by decide), oM6 163 (by decide) (by decide) (by decide)]
        exact tb i hi
      · exact oM6 b (by revert b; decide) (by revert b; decide) (by revert b; decide)
  · refine ⟨-1, M, M, by rw [b1 l1, b1 (h2 M), if_neg c0]; dsimp only; rw [if_neg c1], ?_, I⟩
    rw [e5 M rfl, b1 (l1' M rfl), b1 (h2 M), if_neg c0]
    exact if_neg (show ¬ nI (onN (M 0) 6) ≤ M 164 0 by rw [← tn]; exact c1)
