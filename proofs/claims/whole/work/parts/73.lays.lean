/-! PURE: the reference weighs sets -/
def SR : List Nat := [7, 8, 185, 186, 187, 188, 189, 190, 191, 192, 193, 194, 195]
theorem sr_lm {N K : xMem} (o : Off SR N K) : lawM N K := lawM.off' o (by decide)
/-- the row of a set, so far -/
def rP (R : Nat → Int32) (m k j : Nat) : Int32 := if (232 ≤ j ∧ j < 232 + k) ∧ m.testBit (j - 232) = true then 1 else R j
theorem rP_9 {R : Nat → Int32} {m : Nat} : rP R m 9 = rF R m false := by
  funext j
  unfold rP rF
  by_cases c : (232 ≤ j ∧ j < 232 + 9) ∧ m.testBit (j - 232) = true
  · rw [if_pos c, if_pos ⟨by omega, c.2⟩]
  · rw [if_neg c, if_neg (fun q => c ⟨by omega, q.2⟩), if_neg (by simp)]
theorem rP_s {R : Nat → Int32} {m k : Nat} : (m.testBit k = true → upd (rP R m k) (232 + k) 1 = rP R m (k + 1)) ∧ (¬ m.testBit k = true → rP R m k = rP R m (k + 1)) := by
  refine ⟨fun h => ?_, fun h => ?_⟩
  · funext j
    unfold upd rP
    by_cases c : j = 232 + k
    · subst c
      rw [if_pos rfl, if_pos ⟨by omega, by rw [show 232 + k - 232 = k by omega]; exact h⟩]
    · rw [if_neg c]
      by_cases c2 : (232 ≤ j ∧ j < 232 + k) ∧ m.testBit (j - 232) = true
      · rw [if_pos c2, if_pos ⟨by omega, c2.2⟩]
      · rw [if_neg c2, if_neg (fun q => c2 ⟨by omega, q.2⟩)]
  · funext j
    unfold rP
    by_cases c : j = 232 + k
    · subst c
      rw [if_neg (by omega), if_neg (fun q => h (by have := q.2; rw [show 232 + k - 232 = k by omega] at this; exact this))]
    · by_cases c2 : (232 ≤ j ∧ j < 232 + k) ∧ m.testBit (j - 232) = true
      · rw [if_pos c2, if_pos ⟨by omega, c2.2⟩]
      · rw [if_neg c2, if_neg (fun q => c2 ⟨by omega, q.2⟩)]
theorem livingWith_b {B : xMem} {V : Nat → (Nat → Int32) → Int32} (L : LawV B V) {R : Nat → Int32} (ok : RowOk R) {u m : Nat} (hu : u < 8) (eu : R 328 = nI u) (hm : m < 512) {M : xMem} :
    ∀ (d k f : Nat) (N : xMem), k + d = 9 → d < f → N 7 = rP R m k → lawM B N → Off TT M N →
      ∃ K, g9_livingWith_b6 f (nI m) (nI k) N = some (sOut V R u m, K) ∧ RowOk (K 7) ∧ Off TT M K
  | 0, k, f + 1, N, hk, hf, h7, lb, o => by
    obtain rfl : k = 9 := by omega
    unfold g9_livingWith_b6
    rw [if_pos (by decide)]
    rw [rP_9] at h7
    have okF : RowOk (rF R m false) := rF_ok ok
    rw [hoursLeft_eq hu (by rw [h7, rF_n (by omega), eu])]
    obtain ⟨K, e, r, oK⟩ := runs9_eq (n := 8 - u) (M := N) (by omega) L lb (by rw [h7]; exact okF)
    rw [h7] at e r
    have ok7 : RowOk (K 7) := by rw [r]; exact sRun_ok L.vb _ _ 0 okF
    rw [bs e, bs (living9_eq ok7), r]
    exact ⟨K, rfl, ok7, o.tr oK⟩
  | d + 1, k, f + 1, N, hk, hf, h7, lb, o => by
    unfold g9_livingWith_b6 g9_livingWith_b31
    simp (disch := omega) only [↓reduceIte, i_ll, nle_f, nI_1]
    rw [bs (has9_bit (by omega)), bitOf_nI (by omega) (by omega)]
    simp only [b2i_0]
    by_cases c : m.testBit k = true
    · rw [if_neg (fun q => q c)]
      simp (disch := omega) only [↓reduceIte, i_lt0, i_cl, i_al, nle_f, or_self, mset_eq]
      exact livingWith_b L ok hu eu hm d (k + 1) f _ (by omega) (by omega) (by rw [up_row, h7]; exact rP_s.1 c) (lb.tr (lm (tt_7 (Off.up (by decide))))) (o.up' (by decide))
    · rw [if_pos c]
      exact livingWith_b L ok hu eu hm d (k + 1) f N (by omega) (by omega) (by rw [h7]; exact rP_s.2 c) lb o
theorem rP_0 {R : Nat → Int32} {m : Nat} : rP R m 0 = R := by
  funext j
  unfold rP
  rw [if_neg (by omega)]
theorem livingWith_eq {B : xMem} {V : Nat → (Nat → Int32) → Int32} (L : LawV B V) {R : Nat → Int32} (ok : RowOk R) {u m : Nat} (hu : u < 8) (eu : R 328 = nI u) (hm : m < 512) {N : xMem} (h8 : N 8 = R) (z : Z10 N) (lb : lawM B N) :
    ∃ K, g9_livingWith (nI m) N = some (sOut V R u m, K) ∧ K 8 = R ∧ Z10 K ∧ Off TT N K := by
  unfold g9_livingWith
  obtain ⟨K1, e1, r1, r18, o1, z1⟩ := again_eq h8 z
  rw [bs e1]
  obtain ⟨K, e, ok7, o⟩ := livingWith_b L ok hu eu hm (M := K1) 9 0 5000 K1 rfl (by omega) (by rw [r1, rP_0]) (lb.tr (lawM.off' o1 (by decide))) Off.rf
  refine ⟨K, e, by rw [o 8 (by decide), r18], z1.row o fun b hb h10 => ?_, (tt_7 o1).tr o⟩
  have : b = 7 := by revert b; decide
  subst this
  exact ok7
def canB (R : Nat → Int32) (l : Nat) : Prop := l < 9 ∧ sUnlit R l = true
def subB (R : Nat → Int32) (m : Nat) : Prop := ∀ l, m.testBit l = true → canB R l
theorem sub_eq {R : Nat → Int32} {x : Int32} (hx : ∀ l, l < 32 → bitOf x l = (decide (l < 9) && sUnlit R l)) {m : Nat} (hm : m < 512) : ((nI m &&& (x ^^^ (-1 : Int32))) = 0) = subB R m := by
  rw [sub9 (by omega)]
  refine propext ⟨fun h l hl => ?_, fun h l hl c => ?_⟩
  · by_cases c : l < 32
    · have := h l c hl
      rw [hx l c, Bool.and_eq_true, decide_eq_true_eq] at this
      exact this
    · have : 2 ^ 32 ≤ 2 ^ l := Nat.pow_le_pow_right (by omega) (by omega)
      rw [tb_lt (show m < 2 ^ l by omega)] at hl
      cases hl
  · rw [hx l hl, Bool.and_eq_true, decide_eq_true_eq]
    exact h l c
theorem lays_hi {B : xMem} {V : Nat → (Nat → Int32) → Int32} (L : LawV B V) {R : Nat → Int32} (ok : RowOk R) {u : Nat} (hu : u < 8) (eu : R 328 = nI u) {M : xMem} (hx : ∀ l, l < 32 → bitOf (M 189 0) l = (decide (l < 9) && sUnlit R l)) :
    ∀ (d m f : Nat) (N : xMem), m + d = 512 → d < f → N 8 = R → Z10 N → lawM B N → (∀ i, i < m → subB R i → N 187 i = sOut V R u i) → Off [7, 8, 185, 186, 187] M N →
      ∃ K, g9_laysLiving_b67 f (nI m) N = some K ∧ K 7 = R ∧ K 8 = R ∧ (∀ i, i < 512 → subB R i → K 187 i = sOut V R u i) ∧ Z10 K ∧ Off [7, 8, 185, 186, 187] M K
  | 0, m, f + 1, N, hk, hf, h8, z, lb, hs, o => by
    obtain rfl : m = 512 := by omega
    unfold g9_laysLiving_b67
    rw [if_pos (by decide)]
    obtain ⟨K1, e1, r1, r18, o1, z1⟩ := again_eq h8 z
    rw [bs e1]
    exact ⟨K1, rfl, r1, r18, fun i hi q => by rw [o1 187 (by decide)]; exact hs i hi q, z1, o.tr (o1.mono (by decide))⟩
  | d + 1, m, f + 1, N, hk, hf, h8, z, lb, hs, o => by
    unfold g9_laysLiving_b67 g9_laysLiving_b96
    have h189 : N 189 0 = M 189 0 := by rw [o 189 (by decide)]
    have hc : ((nI m &&& (N 189 0 ^^^ (-1 : Int32))) = 0) = subB R m := by rw [h189, sub_eq hx (show m < 512 by omega)]
    simp (disch := omega) only [↓reduceIte, i_ll, nle_f, nI_1]
    by_cases c : subB R m
    · rw [if_pos (hc.mpr c)]
      obtain ⟨K1, e1, k8, z1, o1⟩ := livingWith_eq L ok hu eu (m := m) (by omega) h8 z lb
      rw [bs e1]
      simp (disch := omega) only [↓reduceIte, i_lt0, i_cl, nle_f, or_self, mset_eq]
      have o2 : Off [7, 8, 185, 186, 187] N (upM K1 187 m (sOut V R u m)) := (o1.mono (by decide)).up' (by decide)
      refine lays_hi L ok hu eu hx d (m + 1) f _ (by omega) (by omega) (by rw [up_b (by decide), k8]) (z1.up (Or.inr (by decide))) (lb.tr (lawM.off' o2 (by decide))) (fun i hi q => ?_) (o.tr o2)
      by_cases ci : i = m
      · subst ci; exact up_s
      · rw [up_i ci, o1 187 (by decide)]
        exact hs i (by omega) q
    · rw [if_neg (fun q => c (hc.mp q))]
      refine lays_hi L ok hu eu hx d (m + 1) f N (by omega) (by omega) h8 z lb (fun i hi q => ?_) o
      by_cases ci : i = m
      · subst ci; exact absurd q c
      · exact hs i (by omega) q
def sPrice (V : Nat → (Nat → Int32) → Int32) (R : Nat → Int32) (l : Nat) : Int32 := V 6 (lBeer R l)
theorem lays_lo {B : xMem} {V : Nat → (Nat → Int32) → Int32} (L : LawV B V) {R : Nat → Int32} (ok : RowOk R) {M : xMem} :
    ∀ (d k f : Nat) (N : xMem), k + d = 9 → d < f → N 7 = R → lawM B N → (∀ l, l < 32 → bitOf (N 189 0) l = (decide (l < k) && sUnlit R l)) → (∀ i, i < k → sUnlit R i = true → N 188 i = sPrice V R i) → Off [185, 186, 188, 189] M N →
      ∃ K, g9_laysLiving_b11 f (nI k) N = g9_laysLiving_b67 5000 0 K ∧ (∀ l, l < 32 → bitOf (K 189 0) l = (decide (l < 9) && sUnlit R l)) ∧ (∀ i, i < 9 → sUnlit R i = true → K 188 i = sPrice V R i) ∧ Off [185, 186, 188, 189] M K
  | 0, k, f + 1, N, hk, hf, h7, lb, hx, hp, o => by
    obtain rfl : k = 9 := by omega
    unfold g9_laysLiving_b11
    rw [if_pos (by decide)]
    exact ⟨N, rfl, hx, hp, o⟩
  | d + 1, k, f + 1, N, hk, hf, h7, lb, hx, hp, o => by
    unfold g9_laysLiving_b11 g9_laysLiving_b59
    have ok7 : RowOk (N 7) := by rw [h7]; exact ok
    have skip : ¬ sUnlit R k = true → ∃ K, g9_laysLiving_b11 f (nI (k + 1)) N = g9_laysLiving_b67 5000 0 K ∧ (∀ l, l < 32 → bitOf (K 189 0) l = (decide (l < 9) && sUnlit R l)) ∧ (∀ i, i < 9 → sUnlit R i = true → K 188 i = sPrice V R i) ∧ Off [185, 186, 188, 189] M K := fun nu => by
      refine lays_lo L ok d (k + 1) f N (by omega) (by omega) h7 lb (fun l hl => ?_) (fun i hi q => ?_) o
      · rw [hx l hl]
        by_cases c : l = k
        · subst c
          have : sUnlit R l = false := by
            cases r : sUnlit R l
            · rfl
            · exact absurd r nu
          rw [this, Bool.and_false, Bool.and_false]
        · rw [decide_eq_decide.mpr (show l < k ↔ l < k + 1 by omega)]
      · by_cases c : i = k
        · subst c; exact absurd q nu
        · exact hp i (by omega) q
    simp (disch := omega) only [↓reduceIte, i_ll, nle_f, nI_1]
    rw [bs (lamp9_in ok7 (by omega))]
    simp only [b2i_0, h7]
    by_cases c1 : R (196 + k) = 0
    · rw [if_pos (fun q => q c1)]
      exact skip fun q => (unlit_split.mp q).1 c1
    rw [if_neg (fun q => q c1), bs (lit9_in ok7 (by omega))]
    simp only [b2i_0, h7]
    by_cases c2 : sLit R k = true
    · rw [if_neg (fun q => q c2)]
      exact skip fun q => (unlit_split.mp q).2 c2
    rw [if_pos c2]
    have yu : sUnlit R k = true := unlit_split.mpr ⟨c1, c2⟩
    simp only [mset_eq]
    obtain ⟨vc, -, -, hB⟩ := L 6 (by decide)
    obtain ⟨K1, e1, o1⟩ := beer9_eq (M := upM N 189 0 (N 189 0 ||| (1 : Int32) <<< (nI k &&& 31))) (l := k) (by omega) vc (fun N' hN' => hB N' ((lb.tr (lawM.off' (S := [189]) (Off.up (by decide)) (by decide))).tr hN'))
    have p7 : (upM N 189 0 (N 189 0 ||| (1 : Int32) <<< (nI k &&& 31))) 7 = R := by rw [up_b (by decide), h7]
    rw [p7] at e1
    rw [bs e1]
    simp (disch := omega) only [↓reduceIte, i_lt0, i_cl, nle_f, or_self]
    have o2 : Off [185, 186, 188, 189] N (upM K1 188 k (V 6 (lBeer R k))) := ((Off.up (by decide)).tr (o1.mono (by decide))).up' (by decide)
    refine lays_lo L ok d (k + 1) f _ (by omega) (by omega) (by rw [o2 7 (by decide), h7]) (lb.tr (lawM.off' o2 (by decide))) (fun l hl => ?_) (fun i hi q => ?_) (o.tr o2)
    · rw [up_b (by decide), o1 189 (by decide), up_s, bitOf_or, hx l hl, bit_up k (by omega) l hl]
      by_cases c : l = k
      · subst c
        rw [yu]
        simp
      · rw [decide_eq_false (show ¬ k = l by omega), Bool.or_false, decide_eq_decide.mpr (show l < k ↔ l < k + 1 by omega)]
    · by_cases c : i = k
      · subst c; exact up_s
      · rw [up_i c, o1 188 (by decide), up_b (by decide)]
        exact hp i (by omega) q
theorem lays_eq {B : xMem} {V : Nat → (Nat → Int32) → Int32} (L : LawV B V) {R : Nat → Int32} (ok : RowOk R) {u : Nat} (hu : u < 8) (eu : R 328 = nI u) {N : xMem} (h7 : N 7 = R) (z : Z10 N) (lb : lawM B N) :
    ∃ K, g9_laysLiving N = some K ∧ K 7 = R ∧ (∀ l, l < 32 → bitOf (K 189 0) l = (decide (l < 9) && sUnlit R l)) ∧ (∀ i, i < 9 → sUnlit R i = true → K 188 i = sPrice V R i) ∧ (∀ i, i < 512 → subB R i → K 187 i = sOut V R u i) ∧ Z10 K ∧ Off SR N K := by
  unfold g9_laysLiving
  obtain ⟨K1, e1, r1, f1, z1⟩ := cp155 z
  rw [bs e1]
  simp only [mset_eq]
  have o1 : Off [8, 189] N (upM K1 189 0 0) := fun b hb => by
    rw [up_b (fun q => hb (by rw [q]; decide)), f1 b (fun q => hb (by rw [q]; decide))]
  have k7 : (upM K1 189 0 0) 7 = R := by rw [up_b (by decide), f1 7 (by decide), h7]
  have k8 : (upM K1 189 0 0) 8 = R := by rw [up_b (by decide), r1, h7]
  have z2 : Z10 (upM K1 189 0 0) := z1.up (Or.inr (by decide))
  have x0 : (upM K1 189 0 0) 189 0 = 0 := up_s
  generalize upM K1 189 0 0 = K2 at o1 k7 k8 z2 x0 ⊢
  have lb2 := lb.tr (lawM.off' o1 (by decide))
  obtain ⟨K3, e3, hx, hp, o3⟩ := lays_lo L ok (M := K2) 9 0 5000 K2 rfl (by omega) k7 lb2 (fun l hl => by rw [x0, bitOf_0, decide_eq_false (by omega), Bool.false_and]) (fun i hi => absurd hi (by omega)) Off.rf
  have e3' : g9_laysLiving_b11 5000 0 K2 = _ := e3
  rw [e3']
  obtain ⟨K, e, r7, r8, hs, zK, o⟩ := lays_hi L ok hu eu hx 512 0 5000 K3 rfl (by omega) (by rw [o3 8 (by decide), k8]) (z2.of fun b hb => o3 b (by simp; omega)) (lb2.tr (lawM.off' o3 (by decide))) (fun i hi => absurd hi (by omega)) Off.rf
  refine ⟨K, e, r7, fun l hl => by rw [o 189 (by decide)]; exact hx l hl, fun i hi q => by rw [o 188 (by decide)]; exact hp i hi q, hs, zK, ((o1.mono (by decide)).tr (o3.mono (by decide))).tr (o.mono (by decide))⟩
