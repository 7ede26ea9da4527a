/-! PURE: the class reads sums -/
def sgI (T : Nat → Nat) (n p : Nat) : Int32 := if p < n then nI (T p) else -1
def COk (T : Nat → Nat) (n : Nat) (M : xMem) (p s : Nat) : Prop := M 112 0 = nI p ∧ M 114 0 = sgI T n p ∧ M 113 0 = nI n ∧ M 32 0 = nI s ∧ ∀ i, i < 260 → M 120 i = nI (T i)
def Txt (T : Nat → Nat) (n : Nat) : Prop := n ≤ 240 ∧ ∀ i, T i ≤ 255
def CB : List Nat := [30, 31, 32, 112, 114, 115]
def cop (o : Nat) : Nat := if o ≤ 1 then o + 1 else if o ≤ 9 then o + 4 else if o = 10 then 3 else if o = 11 then 5 else 4
def carg (sh : Nat) (i : Ins) : Nat := if 11 ≤ i.1 then i.2 + sh else i.2
/-- the code stands there -/
def WrL (P Q : Nat → Int32) (sh : Nat) : Nat → List Ins → Prop
  | _, [] => True
  | s, i :: l => P s = nI (cop i.1) ∧ Q s = nI (carg sh i) ∧ WrL P Q sh (s + 1) l
theorem WrL_app {P Q : Nat → Int32} {sh : Nat} : ∀ (l1 l2 : List Ins) (s : Nat), WrL P Q sh s (l1 ++ l2) ↔ WrL P Q sh s l1 ∧ WrL P Q sh (s + l1.length) l2
  | [], l2, s => ⟨fun h => ⟨trivial, h⟩, fun h => h.2⟩
  | i :: l1, l2, s => by
    have ih := WrL_app (P := P) (Q := Q) (sh := sh) l1 l2 (s + 1)
    show (_ ∧ _ ∧ WrL P Q sh (s + 1) (l1 ++ l2)) ↔ (_ ∧ _ ∧ WrL P Q sh (s + 1) l1) ∧ WrL P Q sh (s + (l1.length + 1)) l2
    rw [ih, show s + 1 + l1.length = s + (l1.length + 1) by omega]
    exact ⟨fun ⟨a, b, c, d⟩ => ⟨⟨a, b, c⟩, d⟩, fun ⟨⟨a, b, c⟩, d⟩ => ⟨a, b, c, d⟩⟩
theorem WrL_fr {P Q P' Q' : Nat → Int32} {sh : Nat} : ∀ (l : List Ins) (s : Nat), WrL P Q sh s l → (∀ i, s ≤ i → i < s + l.length → P' i = P i ∧ Q' i = Q i) → WrL P' Q' sh s l
  | [], _, _, _ => trivial
  | i :: l, s, h, e => by
    have e0 := e s (Nat.le_refl _) (by simp)
    refine ⟨e0.1.trans h.1, e0.2.trans h.2.1, WrL_fr l (s + 1) h.2.2 fun j h1 h2 => e j (by omega) (by simp; omega)⟩
theorem goTo_eq {T : Nat → Nat} {n p : Nat} (hT : Txt T n) {M : xMem} (hp : p ≤ 241) (h3 : M 113 0 = nI n) (ht : ∀ i, i < 260 → M 120 i = nI (T i)) : ∃ K, g4_goTo (nI p) M = some K ∧ K 112 0 = nI p ∧ K 114 0 = sgI T n p ∧ Off [112, 114] M K := by
  have hn := hT.1
  unfold g4_goTo g4_goTo_b37 g4_goTo_b38
  simp (disch := omega) only [↓reduceIte, mset_eq, i_lt0, i_ll, i_cl, or_self, nle_f]
  rw [up_b (show (113 : Nat) ≠ 112 by decide), h3]
  unfold sgI
  by_cases c : p < n
  · rw [if_neg (fun q => by have := (nI_leI (by omega) (by omega)).mp q; omega), if_pos c, up_b (show (120 : Nat) ≠ 112 by decide), ht p (by omega)]
    exact ⟨_, rfl, by rw [up_b (by decide), up_s], up_s, (Off.up (by decide)).up' (by decide)⟩
  · rw [if_pos ((nI_leI (by omega) (by omega)).mpr (by omega)), if_neg c]
    exact ⟨_, rfl, by rw [up_b (by decide), up_s], up_s, (Off.up (by decide)).up' (by decide)⟩
theorem COk.go {T : Nat → Nat} {n p s : Nat} (hT : Txt T n) {M : xMem} (h : COk T n M p s) (hp : p < n) : ∃ K, g4_goTo (M 112 0 + 1) M = some K ∧ COk T n K (p + 1) s ∧ Off [112, 114] M K := by
  have hn := hT.1
  obtain ⟨h1, h2, h3, h4, h5⟩ := h
  rw [h1, nI_1]
  obtain ⟨K, e, k1, k2, o⟩ := goTo_eq hT (p := p + 1) (M := M) (by omega) h3 h5
  exact ⟨K, e, ⟨k1, k2, by rw [o 113 (by decide), h3], by rw [o 32 (by decide), h4], fun i hi => by rw [o 120 (by decide)]; exact h5 i hi⟩, o⟩
theorem COk.fail {T : Nat → Nat} {n p s k : Nat} {M : xMem} (h : COk T n M p s) : ∃ K, g4_fail (nI k) M = some (0, K) ∧ K 115 0 = flt k p ∧ Off [115] M K := by
  unfold g4_fail
  rw [mset_eq, h.1]
  exact ⟨_, rfl, up_s, Off.up (by decide)⟩
theorem COk.add {T : Nat → Nat} {n p s : Nat} {o v : Int32} {M : xMem} (h : COk T n M p s) (hs : s < 240) : ∃ K, g3_add o v M = some (nI s, K) ∧ COk T n K p (s + 1) ∧ K 30 = upd (M 30) s o ∧ K 31 = upd (M 31) s v ∧ Off [30, 31, 32] M K := by
  obtain ⟨h1, h2, h3, h4, h5⟩ := h
  unfold g3_add
  rw [h4]
  simp (disch := omega) only [↓reduceIte, mset_eq, i_lt0, i_tr, nlt_t, nlt_f, i_cl, or_self, nle_f, up_b (show (32 : Nat) ≠ 30 by decide), up_b (show (32 : Nat) ≠ 31 by decide), h4, up_s]
  have oo : Off [30, 31, 32] M (upM (upM (upM M 30 s o) 31 s v) 32 0 (nI s + 1)) := ((Off.up (by decide)).up' (by decide)).up' (by decide)
  refine ⟨_, by rw [nI_1, nI_pred], ⟨by rw [oo 112 (by decide), h1], by rw [oo 114 (by decide), h2], by rw [oo 113 (by decide), h3], by rw [up_s, nI_1], fun i hi => by rw [oo 120 (by decide)]; exact h5 i hi⟩, ?_, ?_, oo⟩
  · rw [up_b (by decide), up_b (by decide), up_row]
  · rw [up_b (by decide), up_row, up_b (by decide)]
theorem add1 {P Q P' Q' : Nat → Int32} {sh s : Nat} {i : Ins} {o v : Int32} (h1 : P' = upd P s o) (h2 : Q' = upd Q s v) (ho : o = nI (cop i.1)) (hv : v = nI (carg sh i)) : WrL P' Q' sh s [i] := by
  refine ⟨?_, ?_, trivial⟩
  · rw [h1, ud_s, ho]
  · rw [h2, ud_s, hv]
/-- what a reading comes to -/
def CRes (T : Nat → Nat) (n sh : Nat) (M : xMem) (s : Nat) (r : RR (Nat × List Ins)) (g : Option (Int32 × xMem)) : Prop :=
  (∃ f K, r = .inl f ∧ g = some (0, K) ∧ K 115 0 = f ∧ Off CB M K) ∨
  ∃ q K, r = .inr q ∧ g = some (1, K) ∧ COk T n K q.1 (s + q.2.length) ∧ WrL (K 30) (K 31) sh s q.2 ∧ (∀ i, i < s → K 30 i = M 30 i ∧ K 31 i = M 31 i) ∧ Off CB M K
theorem CRes.err {T : Nat → Nat} {n sh : Nat} {M K : xMem} {s : Nat} {r : RR (Nat × List Ins)} {f : Int32} {g : Option (Int32 × xMem)} (h1 : r = .inl f) (h2 : g = some (0, K)) (h3 : K 115 0 = f) (h4 : Off CB M K) : CRes T n sh M s r g := Or.inl ⟨f, K, h1, h2, h3, h4⟩
/-- signs -/
theorem sgI_nI {T : Nat → Nat} {n p : Nat} (h : p < n) : sgI T n p = nI (T p) := if_pos h
theorem sgI_m1 {T : Nat → Nat} {n p : Nat} (h : ¬ p < n) : sgI T n p = -1 := if_neg h
theorem sg_is {T : Nat → Nat} {n p c : Nat} (hT : Txt T n) (hc : c < 256) : (sgI T n p = nI c) = (isC T n p c = true) := by
  unfold isC
  by_cases h : p < n
  · have := hT.2 p
    rw [sgI_nI h, decide_eq_true h, Bool.true_and, decide_eq_true_eq]
    exact propext (nI_eq (by omega) (by omega))
  · rw [sgI_m1 h, decide_eq_false h, Bool.false_and]
    refine propext ⟨fun e => absurd e.symm (nI_m1 (by omega)), fun e => by cases e⟩
theorem sg_dig {T : Nat → Nat} {n p : Nat} (hT : Txt T n) : (dig T n p = true → ¬ sgI T n p < 48 ∧ ¬ (57 : Int32) < sgI T n p ∧ sgI T n p = nI (T p) ∧ 48 ≤ T p) ∧ (¬ dig T n p = true → sgI T n p < 48 ∨ (¬ sgI T n p < 48 ∧ (57 : Int32) < sgI T n p)) := by
  constructor
  · intro h
    obtain ⟨h1, h2, h3⟩ := dig_lt h
    rw [sgI_nI h1]
    refine ⟨fun q => ?_, fun q => ?_, rfl, h2⟩
    · have := (nI_ltI (b := 48) (by omega) (by omega)).mp q; omega
    · have := (nI_ltI (a := 57) (by omega) (by omega)).mp q; omega
  · intro h
    by_cases hp : p < n
    · have := hT.2 p
      rw [sgI_nI hp]
      by_cases c : T p < 48
      · exact Or.inl ((nI_ltI (b := 48) (by omega) (by omega)).mpr c)
      · refine Or.inr ⟨fun q => c ((nI_ltI (b := 48) (by omega) (by omega)).mp q), (nI_ltI (a := 57) (by omega) (by omega)).mpr ?_⟩
        rcases Nat.lt_or_ge 57 (T p) with q | q
        · exact q
        · exact absurd (by unfold dig; simp; exact ⟨hp, by omega, q⟩) h
    · rw [sgI_m1 hp]
      exact Or.inl (by decide)
theorem num_b {T : Nat → Nat} {n sh : Nat} (hT : Txt T n) {s : Nat} {M : xMem} : ∀ (k p x f : Nat) (N : xMem), k < f → k ≤ 5 → COk T n N p s → s < 240 → Off [112, 114] M N →
    match pNum T n k p x with
    | .inl e => ∃ K, g4_readNumber_b4 f (nI x) (nI (5 - k)) N = some (0, K) ∧ K 115 0 = e ∧ Off CB M K
    | .inr q => ∃ K, g4_readNumber_b4 f (nI x) (nI (5 - k)) N = some (1, K) ∧ COk T n K q.1 (s + 1) ∧ K 30 = upd (M 30) s 1 ∧ K 31 = upd (M 31) s (nI q.2) ∧ Off CB M K
  | 0, p, x, f + 1, N, hf, hk, h, hs, o => by
    unfold pNum g4_readNumber_b4 g4_readNumber_b62
    rw [h.2.1]
    by_cases c : dig T n p = true
    · obtain ⟨d1, d2, -, -⟩ := (sg_dig hT).1 c
      rw [if_pos c, if_neg d1, if_neg d2, if_neg (by decide)]
      obtain ⟨K, e, e2, oK⟩ := h.fail (k := 2)
      have e' : g4_fail 2 N = some (0, K) := e
      rw [bs e', if_pos (Or.inl rfl)]
      exact ⟨K, rfl, e2, (o.mono (by decide)).tr (oK.mono (by decide))⟩
    · rw [if_neg c]
      obtain ⟨K, e, ck, r1, r2, oK⟩ := h.add (o := 1) (v := nI x) hs
      refine ⟨K, ?_, ck, by rw [r1, o 30 (by decide)], by rw [r2, o 31 (by decide)], (o.mono (by decide)).tr (oK.mono (by decide))⟩
      rcases (sg_dig hT).2 c with d | ⟨d1, d2⟩
      · rw [if_pos d, bs e]
      · rw [if_neg d1, if_pos d2, bs e]
  | k + 1, p, x, f + 1, N, hf, hk, h, hs, o => by
    unfold pNum
    by_cases c : dig T n p = true
    · obtain ⟨d1, d2, d3, d4⟩ := (sg_dig hT).1 c
      obtain ⟨p1, -, -⟩ := dig_lt c
      obtain ⟨K, e, ck, oK⟩ := h.go hT p1
      have ih := num_b (sh := sh) hT (M := M) k (p + 1) (10 * x + (T p - 48)) f K (by omega) (by omega) ck hs (o.tr oK)
      rw [if_pos c]
      have e3 : ((10 : Int32) * nI x + N 114 0) - 48 = nI (10 * x + (T p - 48)) := by
        rw [h.2.1, d3, show (10 : Int32) = nI 10 from rfl, pk_mul, nI_add, show (48 : Int32) = nI 48 from rfl, i_sub (by omega), show 10 * x + T p - 48 = 10 * x + (T p - 48) by omega]
      have e4 : nI (5 - (k + 1)) + 1 = nI (5 - k) := by rw [nI_1, show 5 - (k + 1) + 1 = 5 - k by omega]
      have eg : g4_readNumber_b4 (f + 1) (nI x) (nI (5 - (k + 1))) N = g4_readNumber_b4 f (nI (10 * x + (T p - 48))) (nI (5 - k)) K := by
        rw [g4_readNumber_b4, if_neg (by rw [h.2.1]; exact d1), if_neg (by rw [h.2.1]; exact d2), if_pos (show nI (5 - (k + 1)) < 5 from (nI_ltI (a := 5 - (k + 1)) (b := 5) (by omega) (by omega)).mpr (by omega)), bs e, e3, e4]
      rw [eg]
      exact ih
    · rw [if_neg c]
      unfold g4_readNumber_b4 g4_readNumber_b62
      obtain ⟨K, e, ck, r1, r2, oK⟩ := h.add (o := 1) (v := nI x) hs
      refine ⟨K, ?_, ck, by rw [r1, o 30 (by decide)], by rw [r2, o 31 (by decide)], (o.mono (by decide)).tr (oK.mono (by decide))⟩
      rw [h.2.1]
      rcases (sg_dig hT).2 c with d | ⟨d1, d2⟩
      · rw [if_pos d, bs e]
      · rw [if_neg d1, if_pos d2, bs e]
/-- letters by their place in a string -/
def idx11 : Nat → Int32 → Int32 → Int32 → Option Int32
  | 0, _, _, _ => none
  | n + 1, x3, x4, x5 => if x3 ≤ x5 then some (-1) else if x5 < 0 ∨ 15 ≤ x5.toNatClampNeg then none else if ((xStrB.getD 1 []).getD x5.toNatClampNeg 0) = x4 then some x5 else idx11 n x3 x4 (x5 + 1)
theorem idx11_eq {M : xMem} : ∀ (f : Nat) (a b c : Int32), gJ1_indexOfChar_4cfef_1021_b7 f a b c M = (idx11 f a b c).map fun x => (x, M)
  | 0, _, _, _ => rfl
  | f + 1, a, b, c => by
    unfold gJ1_indexOfChar_4cfef_1021_b7 idx11
    by_cases c1 : a ≤ c
    · rw [if_pos c1, if_pos c1]; rfl
    rw [if_neg c1, if_neg c1]
    by_cases c2 : c < 0 ∨ 15 ≤ c.toNatClampNeg
    · rw [if_pos c2, if_pos c2]; rfl
    rw [if_neg c2, if_neg c2]
    by_cases c3 : ((xStrB.getD 1 []).getD c.toNatClampNeg 0) = b
    · rw [if_pos c3, if_pos c3]; rfl
    · rw [if_neg c3, if_neg c3]
      exact idx11_eq f a b (c + 1)
def ansI (m k : Nat) : Int32 := if k < m then nI k else -1
theorem idx11_all : ∀ b, b < 256 → idx11 20 15 ((((nI b).toUInt32 % 65536).toInt32).toInt8.toInt32) 0 = some (ansI 15 (letN b)) ∧ ((nI b).toUInt32 % 65536).toInt32 = nI b := by decide +kernel
theorem idx11_more : ∀ (f g : Nat) (a b c x : Int32), idx11 f a b c = some x → f ≤ g → idx11 g a b c = some x
  | 0, _, _, _, _, _, h, _ => by cases h
  | f + 1, 0, _, _, _, _, _, h => absurd h (by omega)
  | f + 1, g + 1, a, b, c, x, h, hg => by
    unfold idx11 at h ⊢
    by_cases c1 : a ≤ c
    · rw [if_pos c1] at h ⊢; exact h
    rw [if_neg c1] at h ⊢
    by_cases c2 : c < 0 ∨ 15 ≤ c.toNatClampNeg
    · rw [if_pos c2] at h; cases h
    rw [if_neg c2] at h ⊢
    by_cases c3 : ((xStrB.getD 1 []).getD c.toNatClampNeg 0) = b
    · rw [if_pos c3] at h ⊢; exact h
    · rw [if_neg c3] at h ⊢
      exact idx11_more f g a b (c + 1) x h (by omega)
theorem place11 {T : Nat → Nat} {n p s : Nat} (hT : Txt T n) {M : xMem} (h : COk T n M p s) : g4_placeIn_1011 M = some (if p < n then ansI 15 (letN (T p)) else -1, M) := by
  unfold g4_placeIn_1011
  rw [h.2.1]
  by_cases c : p < n
  · have hb := hT.2 p
    obtain ⟨i1, i2⟩ := idx11_all (T p) (by omega)
    rw [sgI_nI c, if_neg (nI_m1 (by omega)), if_pos c]
    have e : gJ0_indexOf_0f7a4__1011 (((nI (T p)).toUInt32 % 65536).toInt32) M = some (ansI 15 (letN (T p)), M) := by
      unfold gJ0_indexOf_0f7a4__1011 gJ0_indexOf_7cf53__1011 gJ0_isLatin1_aae02_1011 gJ0_length_8abf5_1011 gJ0_coder_7d493_1011 gJ1_indexOf_4cfef_1021 gJ1_canEncode_9a6ad_ gJ1_indexOfChar_4cfef_1021
      have j1 := idx11_more 20 5000 _ _ _ _ i1 (by omega)
      rw [i2] at j1 ⊢
      have hc1 : ¬ nI (T p) < 0 := nI_pos (by omega)
      have hc2 : ¬ (255 : Int32) < nI (T p) := fun q => by
        have := (nI_ltI (a := 255) (by omega) (by omega)).mp q
        omega
      have m1 : xMax 0 0 = 0 := by decide
      have m2 : ∀ x : Int32, x = (15 : Int32) >>> ((0 : Int32) &&& 31) → xMin x 15 = 15 := fun x hx => by rw [hx]; decide
      simp only [Option.bind_some, if_neg hc1, if_neg hc2, z10, if_false]
      rw [m1, m2 _ rfl, if_pos (by decide), idx11_eq, j1]
      rfl
    rw [bs e]
  · rw [sgI_m1 c, if_pos rfl, if_neg c]
