/-! PURE: the class reads the law -/
def idx10 : Nat → Int32 → Int32 → Int32 → Option Int32
  | 0, _, _, _ => none
  | n + 1, x3, x4, x5 => if x3 ≤ x5 then some (-1) else if x5 < 0 ∨ 8 ≤ x5.toNatClampNeg then none else if ((xStrB.getD 0 []).getD x5.toNatClampNeg 0) = x4 then some x5 else idx10 n x3 x4 (x5 + 1)
theorem idx10_eq {M : xMem} : ∀ (f : Nat) (a b c : Int32), gJ1_indexOfChar_4cfef_1020_b7 f a b c M = (idx10 f a b c).map fun x => (x, M)
  | 0, _, _, _ => rfl
  | f + 1, a, b, c => by
    unfold gJ1_indexOfChar_4cfef_1020_b7 idx10
    by_cases c1 : a ≤ c
    · rw [if_pos c1, if_pos c1]; rfl
    rw [if_neg c1, if_neg c1]
    by_cases c2 : c < 0 ∨ 8 ≤ c.toNatClampNeg
    · rw [if_pos c2, if_pos c2]; rfl
    rw [if_neg c2, if_neg c2]
    by_cases c3 : ((xStrB.getD 0 []).getD c.toNatClampNeg 0) = b
    · rw [if_pos c3, if_pos c3]; rfl
    · rw [if_neg c3, if_neg c3]
      exact idx10_eq f a b (c + 1)
theorem idx10_all : ∀ b, b < 256 → idx10 20 8 ((((nI b).toUInt32 % 65536).toInt32).toInt8.toInt32) 0 = some (ansI 8 (clsN b)) ∧ ((nI b).toUInt32 % 65536).toInt32 = nI b := by decide +kernel
theorem idx10_more : ∀ (f g : Nat) (a b c x : Int32), idx10 f a b c = some x → f ≤ g → idx10 g a b c = some x
  | 0, _, _, _, _, _, h, _ => by cases h
  | f + 1, 0, _, _, _, _, _, h => absurd h (by omega)
  | f + 1, g + 1, a, b, c, x, h, hg => by
    unfold idx10 at h ⊢
    by_cases c1 : a ≤ c
    · rw [if_pos c1] at h ⊢; exact h
    rw [if_neg c1] at h ⊢
    by_cases c2 : c < 0 ∨ 8 ≤ c.toNatClampNeg
    · rw [if_pos c2] at h; cases h
    rw [if_neg c2] at h ⊢
    by_cases c3 : ((xStrB.getD 0 []).getD c.toNatClampNeg 0) = b
    · rw [if_pos c3] at h ⊢; exact h
    · rw [if_neg c3] at h ⊢
      exact idx10_more f g a b (c + 1) x h (by omega)
theorem place10 {T : Nat → Nat} {n p s : Nat} (hT : Txt T n) {M : xMem} (h : COk T n M p s) : g4_placeIn_1010 M = some (if p < n then ansI 8 (clsN (T p)) else -1, M) := by
  unfold g4_placeIn_1010
  rw [h.2.1]
  by_cases c : p < n
  · have hb := hT.2 p
    obtain ⟨i1, i2⟩ := idx10_all (T p) (by omega)
    rw [sgI_nI c, if_neg (nI_m1 (by omega)), if_pos c]
    have e : gJ0_indexOf_0f7a4__1010 (((nI (T p)).toUInt32 % 65536).toInt32) M = some (ansI 8 (clsN (T p)), M) := by
      unfold gJ0_indexOf_0f7a4__1010 gJ0_indexOf_7cf53__1010 gJ0_isLatin1_aae02_1010 gJ0_length_8abf5_1010 gJ0_coder_7d493_1010 gJ1_indexOf_4cfef_1020 gJ1_canEncode_9a6ad_ gJ1_indexOfChar_4cfef_1020
      have j1 := idx10_more 20 5000 _ _ _ _ i1 (by omega)
      rw [i2] at j1 ⊢
      have hc1 : ¬ nI (T p) < 0 := nI_pos (by omega)
      have hc2 : ¬ (255 : Int32) < nI (T p) := fun q => by
        have := (nI_ltI (a := 255) (by omega) (by omega)).mp q
        omega
      have m1 : xMax 0 0 = 0 := by decide
      have m2 : ∀ x : Int32, x = (8 : Int32) >>> ((0 : Int32) &&& 31) → xMin x 8 = 8 := fun x hx => by rw [hx]; decide
      simp only [Option.bind_some, if_neg hc1, if_neg hc2, z10, if_false]
      rw [m1, m2 _ rfl, if_pos (by decide), idx10_eq, j1]
      rfl
    rw [bs e]
  · rw [sgI_m1 c, if_pos rfl, if_neg c]
def CD : List Nat := [30, 31, 32, 112, 114, 115, 33, 34, 35, 36]
theorem cd_cb {M K : xMem} (o : Off CB M K) : Off CD M K := o.mono (by decide)
/-- a clause, as the class keeps it -/
def ClsAt (K : xMem) (i c : Nat) (q : Cla) : Prop :=
  K 33 i = nI q.1 ∧ K 34 i = nI (c + 2 * i) ∧ K 35 i = nI (c + 2 * i + q.2.1.length + 1) ∧ WrL (K 30) (K 31) 0 (c + 2 * i) q.2.1 ∧ K 30 (c + 2 * i + q.2.1.length) = 0 ∧ WrL (K 30) (K 31) (2 * i + 1) (c + 2 * i + q.2.1.length + 1) q.2.2 ∧ K 30 (c + 2 * i + q.2.1.length + 1 + q.2.2.length) = 0
def LawCls (K : xMem) : Nat → Nat → List Cla → Prop
  | _, _, [] => True
  | i, c, q :: r => ClsAt K i c q ∧ LawCls K (i + 1) (c + q.2.1.length + q.2.2.length) r
theorem ccla_ok {T : Nat → Nat} {n : Nat} (hT : Txt T n) {M : xMem} {p s k c : Nat} (h : COk T n M p s) (h36 : M 36 0 = nI k) (hk : k ≤ 16) (hsc : s = c + 2 * k) (hs : s ≤ p) (hp : p ≤ n) :
    (∃ e K, pCla T n k p c = .inl e ∧ g4_readClause M = some (0, K) ∧ K 115 0 = e ∧ Off CD M K) ∨
    ∃ q K, pCla T n k p c = .inr q ∧ g4_readClause M = some (1, K) ∧ COk T n K q.1 (s + q.2.2.1.length + q.2.2.2.length + 2) ∧ K 36 0 = nI (k + 1) ∧ k < 16 ∧ q.2.1 < 8 ∧ ClsAt K k c q.2 ∧ (∀ i, i < s → K 30 i = M 30 i ∧ K 31 i = M 31 i) ∧ (∀ i, i < k → K 33 i = M 33 i ∧ K 34 i = M 34 i ∧ K 35 i = M 35 i) ∧ s + q.2.2.1.length + q.2.2.2.length + 2 ≤ q.1 ∧ q.1 ≤ n ∧ Off CD M K := by
  have hn := hT.1
  unfold pCla g4_readClause
  rw [bs (place10 hT h)]
  by_cases c2 : p < n ∧ clsN (T p) < 8
  · have e8 : ansI 8 (clsN (T p)) = nI (clsN (T p)) := if_pos c2.2
    rw [if_pos c2]
    simp only [if_pos c2.1, e8]
    rw [if_neg (nI_m1 (by omega)), h36]
    by_cases c3 : k = 16
    · subst c3
      rw [if_pos rfl, if_neg (show ¬ nI 16 < 16 by decide)]
      obtain ⟨K, e, e2, oK⟩ := h.fail' (k := 4) (a := 4) rfl
      rw [bs e, if_pos (Or.inl rfl)]
      exact Or.inl ⟨_, K, rfl, rfl, e2, cd_cb oK⟩
    rw [if_neg c3, if_pos (show nI k < 16 from (nI_ltI (b := 16) (by omega) (by omega)).mpr (by omega))]
    obtain ⟨K1, g1, ck1, o1⟩ := h.go hT c2.1
    rw [bs g1]
    have hA := pSum_adv (T := T) (n := n) (d := 6) (p + 1)
    rcases csum_ok (sh := 0) hT (show 6 ≤ 6 by omega) K1 (p + 1) s ck1 (by omega) (by omega) with ⟨fl, K2, e1, e2, e3, e4⟩ | ⟨q, K2, e1, e2, e3, e4, e5, e6⟩
    · have e2' : g4_readSum (g4_readFactor_rec 20) 0 K1 = some (0, K2) := e2
      rw [bs e2', if_pos rfl, e1]
      exact Or.inl ⟨_, K2, rfl, rfl, e3, cd_cb ((cb_go o1).tr e4)⟩
    have e2' : g4_readSum (g4_readFactor_rec 20) 0 K1 = some (1, K2) := e2
    rw [e1] at hA
    obtain ⟨a1, a2, a3, a4⟩ := hA
    rw [bs e2', if_neg (show ¬ (1 : Int32) = 0 by decide), e1]
    dsimp only
    obtain ⟨K3, g3, ck3, r1, r2, o3⟩ := e3.add (o := 0) (v := 0) (by omega)
    rw [bs g3]
    have oc3 : Off CB M K3 := ((cb_go o1).tr e6).tr (o3.mono (by decide))
    rcases (take_ok hT (c := 40) (by omega) ck3).symm with ⟨t1, K4, t2, t3, t4⟩ | ⟨t1, K4, t2, t3, t4⟩
    · have t2' : g4_take 40 K3 = some (0, K4) := t2
      dsimp only
      rw [bs t2', if_pos rfl, if_neg t1]
      exact Or.inl ⟨_, K4, rfl, rfl, t3, cd_cb (oc3.tr (t4.mono (by decide)))⟩
    have t2' : g4_take 40 K3 = some (1, K4) := t2
    dsimp only
    rw [bs t2', if_neg (show ¬ (1 : Int32) = 0 by decide), if_pos t1]
    have ht := (isC_lt t1).1
    have hB := pCho_adv (T := T) (n := n) (d := 5) (q.1 + 1) (c + q.2.length)
    have oc4 : Off CB M K4 := oc3.tr (cb_go t4)
    rcases cchoice_ok (sh := 2 * k + 1) hT K4 (q.1 + 1) (s + q.2.length + 1) (c + q.2.length) t3 (by omega) (by omega) (by omega) with ⟨fl, K5, f1, f2, f3, f4⟩ | ⟨r, K5, f1, f2, f3, f4, f5, f6⟩
    · rw [bs f2, if_pos rfl, f1]
      exact Or.inl ⟨_, K5, rfl, rfl, f3, cd_cb (oc4.tr f4)⟩
    rw [f1] at hB
    obtain ⟨b1', b2', b3', b4'⟩ := hB
    rw [bs f2, if_neg (show ¬ (1 : Int32) = 0 by decide), f1]
    dsimp only
    have oc5 : Off CB M K5 := oc4.tr f6
    rcases (take_ok hT (c := 41) (by omega) f3).symm with ⟨u1, K6, u2, u3, u4⟩ | ⟨u1, K6, u2, u3, u4⟩
    · have u2' : g4_take 41 K5 = some (0, K6) := u2
      rw [bs u2', if_pos rfl, if_neg u1]
      exact Or.inl ⟨_, K6, rfl, rfl, u3, cd_cb (oc5.tr (u4.mono (by decide)))⟩
    have u2' : g4_take 41 K5 = some (1, K6) := u2
    rw [bs u2', if_neg (show ¬ (1 : Int32) = 0 by decide), if_pos u1]
    have hu := (isC_lt u1).1
    dsimp only
    obtain ⟨K7, g7, ck7, v1, v2, o7⟩ := u3.add (o := 0) (v := 0) (by omega)
    rw [bs g7]
    have oc7 : Off CB M K7 := (oc5.tr (cb_go u4)).tr (o7.mono (by decide))
    have h36' : K7 36 0 = nI k := by rw [oc7 36 (by decide), h36]
    have s1 : K1 32 0 = nI s := ck1.2.2.2.1
    have s2 : K3 32 0 = nI (s + q.2.length + 1) := ck3.2.2.2.1
    dsimp only
    have ga : ∃ K8, g3_addClause (nI (clsN (T p))) (K1 32 0) (K3 32 0) K7 = some K8 ∧ K8 33 = upd (K7 33) k (nI (clsN (T p))) ∧ K8 34 = upd (K7 34) k (nI s) ∧ K8 35 = upd (K7 35) k (nI (s + q.2.length + 1)) ∧ K8 36 0 = nI (k + 1) ∧ Off [33, 34, 35, 36] K7 K8 := by
      unfold g3_addClause
      rw [h36', s1, s2]
      have x1 : ¬ nI k < 0 := nI_pos (by omega)
      have x2 : ¬ (16 : Int32) ≤ nI k := fun q => by have := (nI_leI (a := 16) (by omega) (by omega)).mp q; omega
      have x3 : ¬ (nI k < 0 ∨ 16 ≤ (nI k).toNatClampNeg) := nI_in (by omega) (by omega)
      rw [if_neg x1, if_neg x2, if_neg x3, mset_eq]
      have y1 : (upM K7 33 (nI k).toNatClampNeg (nI (clsN (T p)))) 36 0 = nI k := by rw [up_b (by decide), h36']
      rw [y1, if_neg x3, mset_eq]
      have y2 : (upM (upM K7 33 (nI k).toNatClampNeg (nI (clsN (T p)))) 34 (nI k).toNatClampNeg (nI s)) 36 0 = nI k := by rw [up_b (by decide), y1]
      rw [y2, if_neg x3, mset_eq, mset_eq]
      have y3 : (upM (upM (upM K7 33 (nI k).toNatClampNeg (nI (clsN (T p)))) 34 (nI k).toNatClampNeg (nI s)) 35 (nI k).toNatClampNeg (nI (s + q.2.length + 1))) 36 0 = nI k := by rw [up_b (by decide), y2]
      rw [y3, nI_1, i_cl (by omega)]
      refine ⟨_, rfl, ?_, ?_, ?_, up_s, (((Off.up (by decide)).up' (by decide)).up' (by decide)).up' (by decide)⟩
      · rw [up_b (by decide), up_b (by decide), up_b (by decide), up_row]
      · rw [up_b (by decide), up_b (by decide), up_row, up_b (by decide)]
      · rw [up_b (by decide), up_row, up_b (by decide), up_b (by decide)]
    obtain ⟨K8, g8, w1, w2, w3, w4, o8⟩ := ga
    rw [bs g8]
    have e30 : K8 30 = K7 30 := o8 30 (by decide)
    have e31 : K8 31 = K7 31 := o8 31 (by decide)
    -- from each stage on, what lies below stays
    have b67 : ∀ i, i < s + q.2.length + 1 + r.2.length → K7 30 i = K5 30 i ∧ K7 31 i = K5 31 i := fun i hi => by
      rw [v1, v2, ud_n (by omega), ud_n (by omega), u4 30 (by decide), u4 31 (by decide)]
      exact ⟨rfl, rfl⟩
    have b37 : ∀ i, i < s + q.2.length + 1 → K7 30 i = K3 30 i ∧ K7 31 i = K3 31 i := fun i hi => by
      obtain ⟨x, y⟩ := b67 i (by omega)
      obtain ⟨x', y'⟩ := f5 i hi
      rw [x, y, x', y', t4 30 (by decide), t4 31 (by decide)]
      exact ⟨rfl, rfl⟩
    have b27 : ∀ i, i < s + q.2.length → K7 30 i = K2 30 i ∧ K7 31 i = K2 31 i := fun i hi => by
      obtain ⟨x, y⟩ := b37 i (by omega)
      rw [x, y, r1, r2, ud_n (by omega), ud_n (by omega)]
      exact ⟨rfl, rfl⟩
    refine Or.inr ⟨_, K8, rfl, rfl, ?_, w4, by omega, c2.2, ⟨?_, ?_, ?_, ?_, ?_, ?_, ?_⟩, fun i hi => ?_, fun i hi => ?_, by dsimp only; omega, by dsimp only; omega, (cd_cb oc7).tr (o8.mono (by decide))⟩
    · have := ck7.fr o8 (by decide)
      dsimp only
      rw [show s + q.2.length + r.2.length + 2 = s + q.2.length + 1 + r.2.length + 1 by omega]
      exact this
    · rw [w1, ud_s]
    · rw [w2, ud_s, hsc]
    · rw [w3, ud_s, hsc]
    · rw [e30, e31, ← hsc]
      exact WrL_fr _ _ e4 fun i h1 h2 => b27 i h2
    · dsimp only
      rw [e30, ← hsc, (b37 _ (by omega)).1, r1, ud_s]
    · rw [e30, e31, ← hsc]
      exact WrL_fr _ _ f4 fun i h1 h2 => b67 i h2
    · dsimp only
      rw [e30, ← hsc, v1, ud_s]
    · rw [e30, e31]
      obtain ⟨x, y⟩ := b27 i (by omega)
      obtain ⟨x', y'⟩ := e5 i hi
      rw [x, y, x', y', o1 30 (by decide), o1 31 (by decide)]
      exact ⟨rfl, rfl⟩
    · rw [w1, w2, w3, ud_n (by omega), ud_n (by omega), ud_n (by omega), oc7 33 (by decide), oc7 34 (by decide), oc7 35 (by decide)]
      exact ⟨rfl, rfl, rfl⟩
  · have em : (if p < n then ansI 8 (clsN (T p)) else -1) = -1 := by
      by_cases q : p < n
      · rw [if_pos q]
        exact if_neg fun r => c2 ⟨q, r⟩
      · exact if_neg q
    rw [if_neg c2]
    simp only [em]
    rw [if_pos trivial]
    obtain ⟨K, e, e2, oK⟩ := h.fail' (k := 1) (a := 1) rfl
    rw [bs e, if_pos (Or.inl rfl)]
    exact Or.inl ⟨_, K, rfl, rfl, e2, cd_cb oK⟩
theorem ClsAt.fr {M K : xMem} {i c s : Nat} {q : Cla} (h : ClsAt M i c q) (hs : c + 2 * i + q.2.1.length + q.2.2.length + 2 ≤ s) (h1 : ∀ j, j < s → K 30 j = M 30 j ∧ K 31 j = M 31 j) (h2 : K 33 i = M 33 i ∧ K 34 i = M 34 i ∧ K 35 i = M 35 i) : ClsAt K i c q := by
  obtain ⟨a1, a2, a3, a4, a5, a6, a7⟩ := h
  exact ⟨h2.1.trans a1, h2.2.1.trans a2, h2.2.2.trans a3, WrL_fr _ _ a4 fun j _ hj => h1 j (by omega), by rw [(h1 _ (by omega)).1, a5], WrL_fr _ _ a6 fun j _ hj => h1 j (by omega), by rw [(h1 _ (by omega)).1, a7]⟩
theorem end_none {T : Nat → Nat} {n p : Nat} (hT : Txt T n) : (sgI T n p = -1) = (n ≤ p) := by
  by_cases c : p < n
  · rw [sgI_nI c]
    have := hT.2 p
    exact propext ⟨fun e => absurd e (nI_m1 (by omega)), fun e => absurd e (by omega)⟩
  · rw [sgI_m1 c]
    exact propext ⟨fun _ => by omega, fun _ => rfl⟩
def totL : List Cla → Nat
  | [] => 0
  | x :: r => x.2.1.length + x.2.2.length + 2 + totL r
theorem claw_b {T : Nat → Nat} {n : Nat} (hT : Txt T n) : ∀ (g k p s c f : Nat) (M : xMem), k + g = 17 → 0 < g → g < f → COk T n M p s → M 36 0 = nI k → s = c + 2 * k → s ≤ p → p ≤ n →
    (∃ e K, pLaw T n g k p c = .inl e ∧ g4_read_b24 f (nI k) M = some (e, K) ∧ Off CD M K) ∨
    ∃ q K, pLaw T n g k p c = .inr q ∧ g4_read_b24 f (nI k) M = some (nI (k + q.length), K) ∧ 0 < q.length ∧ k + q.length ≤ 16 ∧ K 36 0 = nI (k + q.length) ∧ LawCls K k c q ∧ (∀ x ∈ q, x.1 < 8) ∧ (∃ z, z ≤ 240 ∧ K 32 0 = nI z ∧ z = s + totL q) ∧ (∀ i, i < s → K 30 i = M 30 i ∧ K 31 i = M 31 i) ∧ (∀ i, i < k → K 33 i = M 33 i ∧ K 34 i = M 34 i ∧ K 35 i = M 35 i) ∧ Off CD M K
  | g + 1, k, p, s, c, f + 1, M, hkg, h0, hf, h, h36, hsc, hs, hp => by
    have hn := hT.1
    unfold pLaw g4_read_b24
    rw [if_neg (show ¬ (16 : Int32) < nI k from fun q => by have := (nI_ltI (a := 16) (by omega) (by omega)).mp q; omega)]
    rcases ccla_ok hT h h36 (by omega) hsc hs hp with ⟨e, K, e1, e2, e3, e4⟩ | ⟨q, K, e1, e2, e3, e4, e5, el, e6, e7, e8, e9, e10, e11⟩
    · rw [bs e2, if_pos rfl, e1]
      dsimp only
      rw [e3]
      exact Or.inl ⟨_, K, rfl, rfl, e4⟩
    · rw [bs e2, if_neg (show ¬ (1 : Int32) = 0 by decide), e1]
      dsimp only
      have z := e3.2.1
      by_cases c1 : n ≤ q.1
      · rw [if_pos c1, if_pos (z.trans ((end_none hT).mpr c1)), e4]
        exact Or.inr ⟨[q.2], K, rfl, rfl, Nat.zero_lt_one, by simp; omega, e4, ⟨e6, trivial⟩, fun x hx => by simp at hx; rw [hx]; exact el, ⟨_, by omega, e3.2.2.2.1, by show _ = s + (q.2.2.1.length + q.2.2.2.length + 2 + 0); omega⟩, e7, e8, e11⟩
      rw [if_neg c1, if_neg (fun r => c1 ((end_none hT).mp (z.symm.trans r)))]
      rcases take_ok hT (c := 59) (by omega) e3 with ⟨t1, K2, t2, t3, t4⟩ | ⟨t1, K2, t2, t3, t4⟩
      · have t2' : g4_take 59 K = some (1, K2) := t2
        rw [bs t2', if_neg (show ¬ (1 : Int32) = 0 by decide), if_pos t1, nI_1]
        have hlt := (isC_lt t1).1
        have oc : Off CD M K2 := e11.tr (t4.mono (by decide))
        rcases claw_b hT g (k + 1) (q.1 + 1) (s + q.2.2.1.length + q.2.2.2.length + 2) (c + q.2.2.1.length + q.2.2.2.length) f K2 (by omega) (by omega) (by omega) t3 (by rw [t4 36 (by decide), e4]) (by omega) (by omega) (by omega) with ⟨e, K3, f1, f2, f3⟩ | ⟨r, K3, f1, f2, f3, f4, f5, f6, fl, f7, f8, f9, f10⟩
        · rw [f1]
          exact Or.inl ⟨_, K3, rfl, f2, oc.tr f3⟩
        · rw [f1]
          have hl : (q.2 :: r).length = r.length + 1 := rfl
          refine Or.inr ⟨q.2 :: r, K3, rfl, by rw [hl, show k + (r.length + 1) = k + 1 + r.length by omega]; exact f2, by omega, by rw [hl]; omega, by rw [hl, show k + (r.length + 1) = k + 1 + r.length by omega]; exact f5, ⟨?_, f6⟩, ?_, f7.imp fun z hz => ⟨hz.1, hz.2.1, by rw [hz.2.2]; show _ = s + (q.2.2.1.length + q.2.2.2.length + 2 + totL r); omega⟩, fun i hi => ?_, fun i hi => ?_, oc.tr f10⟩
          · have e6' : ClsAt K2 k c q.2 := e6.fr (s := s + q.2.2.1.length + q.2.2.2.length + 2) (by omega) (fun j _ => by rw [t4 30 (by decide), t4 31 (by decide)]; exact ⟨rfl, rfl⟩) (by rw [t4 33 (by decide), t4 34 (by decide), t4 35 (by decide)]; exact ⟨rfl, rfl, rfl⟩)
            exact e6'.fr (s := s + q.2.2.1.length + q.2.2.2.length + 2) (by omega) f8 (f9 k (by omega))
          · intro x hx
            rcases List.mem_cons.mp hx with hx | hx
            · rw [hx]; exact el
            · exact fl x hx
          · obtain ⟨x, y⟩ := f8 i (by omega)
            rw [x, y, t4 30 (by decide), t4 31 (by decide)]
            exact e7 i hi
          · obtain ⟨x, y, w⟩ := f9 i (by omega)
            rw [x, y, w, t4 33 (by decide), t4 34 (by decide), t4 35 (by decide)]
            exact e8 i hi
      · have t2' : g4_take 59 K = some (0, K2) := t2
        rw [bs t2', if_pos rfl, if_neg t1]
        dsimp only
        rw [t3]
        exact Or.inl ⟨_, K2, rfl, rfl, e11.tr (t4.mono (by decide))⟩
theorem claw_eq {T : Nat → Nat} {n : Nat} (hT : Txt T n) {M : xMem} (ht : ∀ i, i < 260 → M 120 i = nI (T i)) :
    (∃ e K, pLaw T n 17 0 0 0 = .inl e ∧ g4_read (nI n) M = some (e, K) ∧ Off (113 :: CD) M K) ∨
    ∃ q K, pLaw T n 17 0 0 0 = .inr q ∧ g4_read (nI n) M = some (nI q.length, K) ∧ 0 < q.length ∧ q.length ≤ 16 ∧ K 36 0 = nI q.length ∧ LawCls K 0 0 q ∧ (∀ x ∈ q, x.1 < 8) ∧ (∃ z, z ≤ 240 ∧ K 32 0 = nI z ∧ z = 0 + totL q) ∧ Off (113 :: CD) M K := by
  have hn := hT.1
  unfold g4_read g3_clear
  rw [mset_eq, mset_eq]
  show (∃ e K, _ ∧ (mset (upM (upM (upM M 32 0 0) 36 0 0) 113 0 (nI n)) fun M3 => Option.bind (g4_goTo 0 M3) fun q4 => mset (upM q4 115 0 0) fun M6 => g4_read_b24 5000 0 M6) = _ ∧ _) ∨ ∃ q K, _ ∧ (mset (upM (upM (upM M 32 0 0) 36 0 0) 113 0 (nI n)) fun M3 => Option.bind (g4_goTo 0 M3) fun q4 => mset (upM q4 115 0 0) fun M6 => g4_read_b24 5000 0 M6) = _ ∧ _
  rw [mset_eq]
  have o1 : Off [32, 36, 113] M (upM (upM (upM M 32 0 0) 36 0 0) 113 0 (nI n)) := ((Off.up (by decide)).up' (by decide)).up' (by decide)
  have x32 : (upM (upM (upM M 32 0 0) 36 0 0) 113 0 (nI n)) 32 0 = nI 0 := by rw [up_b (by decide), up_b (by decide), up_s]; rfl
  have x36 : (upM (upM (upM M 32 0 0) 36 0 0) 113 0 (nI n)) 36 0 = nI 0 := by rw [up_b (by decide), up_s]; rfl
  have x113 : (upM (upM (upM M 32 0 0) 36 0 0) 113 0 (nI n)) 113 0 = nI n := up_s
  generalize upM (upM (upM M 32 0 0) 36 0 0) 113 0 (nI n) = K1 at o1 x32 x36 x113 ⊢
  have t1 : ∀ i, i < 260 → K1 120 i = nI (T i) := fun i hi => by rw [o1 120 (by decide)]; exact ht i hi
  obtain ⟨K2, g2, y1, y2, o2⟩ := goTo_eq hT (p := 0) (M := K1) (by omega) x113 t1
  have g2' : g4_goTo 0 K1 = some K2 := g2
  rw [bs g2', mset_eq]
  have o3 : Off [115] K2 (upM K2 115 0 0) := Off.up (by decide)
  generalize upM K2 115 0 0 = K3 at o3 ⊢
  have oM : Off (113 :: CD) M K3 := ((o1.mono (by decide)).tr (o2.mono (by decide))).tr (o3.mono (by decide))
  have ck : COk T n K3 0 0 := ⟨by rw [o3 112 (by decide), y1], by rw [o3 114 (by decide), y2], by rw [o3 113 (by decide), o2 113 (by decide), x113], by rw [o3 32 (by decide), o2 32 (by decide), x32], fun i hi => by rw [o3 120 (by decide), o2 120 (by decide)]; exact t1 i hi⟩
  rcases claw_b hT 17 0 0 0 0 5000 K3 rfl (by omega) (by omega) ck (by rw [o3 36 (by decide), o2 36 (by decide), x36]) (by omega) (by omega) (by omega) with ⟨e, K, e1, e2, e3⟩ | ⟨q, K, e1, e2, e3, e4, e5, e6, el, e7, -, -, e8⟩
  · exact Or.inl ⟨e, K, e1, e2, oM.tr (e3.mono (by decide))⟩
  · rw [Nat.zero_add] at e2 e4 e5
    exact Or.inr ⟨q, K, e1, e2, e3, e4, e5, e6, el, e7, oM.tr (e8.mono (by decide))⟩
