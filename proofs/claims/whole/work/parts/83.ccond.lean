/-! PURE: the class reads conditions -/
theorem cmpN_cases {T : Nat → Nat} {n p : Nat} (hT : Txt T n) : (cmpN T n p = 7 ∧ sgI T n p = 60) ∨ (cmpN T n p = 8 ∧ sgI T n p ≠ 60 ∧ sgI T n p = 62) ∨ (cmpN T n p = 9 ∧ sgI T n p ≠ 60 ∧ sgI T n p ≠ 62 ∧ sgI T n p = 61) ∨ (cmpN T n p = 0 ∧ sgI T n p ≠ 60 ∧ sgI T n p ≠ 62 ∧ sgI T n p ≠ 61) := by
  have a1 := sg_is (p := p) hT (c := 60) (by omega)
  have a2 := sg_is (p := p) hT (c := 62) (by omega)
  have a3 := sg_is (p := p) hT (c := 61) (by omega)
  unfold cmpN
  by_cases c1 : isC T n p 60 = true
  · rw [if_pos c1]; exact Or.inl ⟨rfl, a1.mpr c1⟩
  by_cases c2 : isC T n p 62 = true
  · rw [if_neg c1, if_pos c2]; exact Or.inr (Or.inl ⟨rfl, fun q => c1 (a1.mp q), a2.mpr c2⟩)
  by_cases c3 : isC T n p 61 = true
  · rw [if_neg c1, if_neg c2, if_pos c3]; exact Or.inr (Or.inr (Or.inl ⟨rfl, fun q => c1 (a1.mp q), fun q => c2 (a2.mp q), a3.mpr c3⟩))
  · rw [if_neg c1, if_neg c2, if_neg c3]; exact Or.inr (Or.inr (Or.inr ⟨rfl, fun q => c1 (a1.mp q), fun q => c2 (a2.mp q), fun q => c3 (a3.mp q)⟩))
theorem COk.fail' {T : Nat → Nat} {n p s : Nat} {k : Nat} {a : Int32} (ha : a = nI k) {M : xMem} (h : COk T n M p s) : ∃ K, g4_fail a M = some (0, K) ∧ K 115 0 = flt k p ∧ Off CB M K := by
  subst ha
  obtain ⟨K, e, e2, o⟩ := h.fail (k := k)
  exact ⟨K, e, e2, o.mono (by decide)⟩
theorem ccmp_ok {T : Nat → Nat} {n sh : Nat} (hT : Txt T n) {d : Nat} (hd : d ≤ 6) : RdOk T n sh (g4_readComparison (nI (6 - d))) (pCmp T n d) := by
  intro M p s h hs hp
  have hn := hT.1
  unfold pCmp g4_readComparison g4_readComparison_b53
  have hA := pSum_adv (T := T) (n := n) (d := d) p
  rcases csum_ok (sh := sh) hT hd M p s h hs hp with ⟨fl, K, e1, e2, e3, e4⟩ | ⟨q, K, e1, e2, e3, e4, e5, e6⟩
  · rw [bs e2, if_pos rfl, e1]
    exact CRes.err rfl rfl e3 e4
  rw [e1] at hA
  obtain ⟨a1, a2, a3, a4⟩ := hA
  rw [bs e2, if_neg (show ¬ (1 : Int32) = 0 by decide), e1]
  dsimp only
  have z := e3.2.1
  have go : ∀ o', cmpN T n q.1 = o' → o' ≠ 0 → 7 ≤ o' → o' ≤ 9 → CRes T n sh M s (if cmpN T n q.1 = 0 then .inl (flt 1 q.1) else (match pSum T n d (q.1 + 1) with
      | .inl f => .inl f
      | .inr r => .inr (r.1, q.2 ++ r.2 ++ [(cmpN T n q.1, 0)]))) (Option.bind (g4_goTo (K 112 0 + 1) K) fun q8 => Option.bind (g4_readSum (g4_readFactor_rec 20) (nI (6 - d)) q8) fun q10 => if q10.1 = 0 then some (0, q10.2) else Option.bind (g3_add (nI (o' + 4)) 0 q10.2) fun q13 => some (1, q13.2)) := by
    intro o' h1 h2 h3 h4
    have hq := cmpN_lt (show cmpN T n q.1 ≠ 0 by rw [h1]; exact h2)
    obtain ⟨K2, g2, ck2, o2⟩ := e3.go hT hq
    rw [bs g2, h1, if_neg h2]
    have hB := pSum_adv (T := T) (n := n) (d := d) (q.1 + 1)
    rcases csum_ok (sh := sh) hT hd K2 (q.1 + 1) (s + q.2.length) ck2 (by omega) (by omega) with ⟨fl, K3, f1, f2, f3, f4⟩ | ⟨r, K3, f1, f2, f3, f4, f5, f6⟩
    · rw [bs f2, if_pos rfl, f1]
      exact CRes.err rfl rfl f3 ((e6.tr (cb_go o2)).tr f4)
    rw [f1] at hB
    obtain ⟨b1', b2', b3', b4'⟩ := hB
    rw [bs f2, if_neg (show ¬ (1 : Int32) = 0 by decide), f1]
    dsimp only
    obtain ⟨K4, g4, ck4, r1, r2, o4⟩ := f3.add (o := nI (o' + 4)) (v := 0) (by omega)
    rw [bs g4]
    have hl : (q.2 ++ r.2 ++ [(o', 0)]).length = q.2.length + r.2.length + 1 := by simp only [List.length_append, List.length_cons, List.length_nil]
    refine Or.inr ⟨_, K4, rfl, rfl, by dsimp only; rw [hl, show s + (q.2.length + r.2.length + 1) = s + q.2.length + r.2.length + 1 by omega]; exact ck4, ?_, fun i hi => ?_, ((e6.tr (cb_go o2)).tr f6).tr (o4.mono (by decide))⟩
    · rw [List.append_assoc, WrL_app, WrL_app]
      refine ⟨WrL_fr _ _ e4 fun i h1 h2 => ?_, WrL_fr _ _ f4 fun i h1 h2 => ?_, add1 r1 r2 (by rw [cop_ar (by dsimp only; omega) (by dsimp only; omega)]) (by rw [carg_0 (by dsimp only; omega)]; rfl)⟩
      · rw [r1, r2, ud_n (by omega), ud_n (by omega)]
        obtain ⟨x, y⟩ := f5 i (by omega)
        rw [x, y, o2 30 (by decide), o2 31 (by decide)]
        exact ⟨rfl, rfl⟩
      · rw [r1, r2, ud_n (by omega), ud_n (by omega)]
        exact ⟨rfl, rfl⟩
    · rw [r1, r2, ud_n (by omega), ud_n (by omega)]
      obtain ⟨x, y⟩ := f5 i (by omega)
      rw [x, y, o2 30 (by decide), o2 31 (by decide)]
      exact e5 i hi
  rcases cmpN_cases (p := q.1) hT with ⟨m1, m2⟩ | ⟨m1, m2, m3⟩ | ⟨m1, m2, m3, m4⟩ | ⟨m1, m2, m3, m4⟩
  · rw [if_pos (z.trans m2), if_neg (show ¬ (11 : Int32) = 0 by decide)]
    exact go 7 m1 (by decide) (by decide) (by decide)
  · rw [if_neg (fun r => m2 (z.symm.trans r)), if_pos (z.trans m3), if_neg (show ¬ (12 : Int32) = 0 by decide)]
    exact go 8 m1 (by decide) (by decide) (by decide)
  · rw [if_neg (fun r => m2 (z.symm.trans r)), if_neg (fun r => m3 (z.symm.trans r)), if_pos (z.trans m4), if_neg (show ¬ (13 : Int32) = 0 by decide)]
    exact go 9 m1 (by decide) (by decide) (by decide)
  · rw [if_neg (fun r => m2 (z.symm.trans r)), if_neg (fun r => m3 (z.symm.trans r)), if_neg (fun r => m4 (z.symm.trans r)), if_pos (rfl : (0 : Int32) = 0), m1, if_pos rfl]
    obtain ⟨K2, g2, f2, o2⟩ := e3.fail' (k := 1) (a := 1) rfl
    rw [bs g2, if_pos (Or.inl rfl)]
    exact CRes.err rfl rfl f2 (e6.tr o2)
/-- readings of conditions: where their code begins, in both numberings -/
def RdC (T : Nat → Nat) (n sh : Nat) (rd : xMem → Option (Int32 × xMem)) (sp : Nat → Nat → RR (Nat × List Ins)) : Prop :=
  ∀ M p s c, COk T n M p s → s = c + sh → s ≤ p → p ≤ n → CRes T n sh M s (sp p c) (rd M)
def encJ : Option Nat → Int32
  | none => -1
  | some j => nI j
theorem aim_eq {T : Nat → Nat} {n p s : Nat} {M : xMem} (h : COk T n M p s) (j : Option Nat) (hj : ∀ i, j = some i → i < 240) : ∃ K, g3_aim (encJ j) M = some K ∧ COk T n K p s ∧ K 30 = M 30 ∧ (∀ i, (j ≠ some i → K 31 i = M 31 i) ∧ (j = some i → K 31 i = nI s)) ∧ Off [31] M K := by
  unfold g3_aim
  cases j with
  | none =>
    rw [if_pos (show encJ none < 0 by decide)]
    exact ⟨M, rfl, h, rfl, fun i => ⟨fun _ => rfl, fun q => by cases q⟩, Off.rf⟩
  | some j =>
    have hj' := hj j rfl
    show ∃ K, (if nI j < 0 then some M else if (240 : Int32) ≤ nI j then some M else if nI j < 0 ∨ 240 ≤ (nI j).toNatClampNeg then none else mset (upM M 31 (nI j).toNatClampNeg (M 32 0)) fun M4 => some M4) = some K ∧ _
    simp (disch := omega) only [↓reduceIte, mset_eq, i_lt0, i_ll, i_cl, or_self, nle_f]
    have o : Off [31] M (upM M 31 j (M 32 0)) := Off.up (by decide)
    refine ⟨_, rfl, h.fr o (by decide), up_b (by decide), fun i => ⟨fun q => up_i (fun e => q (by rw [e])), fun q => ?_⟩, o⟩
    injection q with q
    subst q
    rw [up_s, h.2.2.2.1]
theorem part_b {T : Nat → Nat} {n sh : Nat} (hT : Txt T n) {rF : Int32 → xMem → Option (Int32 × xMem)} {o : Nat} {pc : Nat → Nat → RR (Nat × List Ins)} (H : RdC T n sh (rF (nI o)) pc) (ha : ∀ p c, Adv n p (pc p c)) : ∀ (k p s c f : Nat) (j : Option Nat) (N : xMem), k ≤ 240 → k < f → (∀ i, j = some i → i < s) → COk T n N p s → s = c + sh → s ≤ p → p ≤ n →
    (∃ e K, pJmp T n 38 11 pc k p c = .inl e ∧ g4_readPart_b4 rF f (nI o) (encJ j) (nI (240 - k)) N = some (0, K) ∧ K 115 0 = e ∧ Off CB N K) ∨
    ∃ q K, pJmp T n 38 11 pc k p c = .inr q ∧ g4_readPart_b4 rF f (nI o) (encJ j) (nI (240 - k)) N = some (1, K) ∧ COk T n K q.1 (s + q.2.1.length) ∧ WrL (K 30) (K 31) sh s q.2.1 ∧ (∀ i, i < s → K 30 i = N 30 i ∧ (j ≠ some i → K 31 i = N 31 i) ∧ (j = some i → K 31 i = nI (s + q.2.2))) ∧ Off CB N K
  | 0, p, s, c, f + 1, j, N, hk, hf, hj, h, hc, hs, hp => by
    unfold pJmp g4_readPart_b4
    rw [if_pos (show (240 : Int32) ≤ nI (240 - 0) by decide)]
    obtain ⟨K, e, e2, oK⟩ := h.fail' (k := 1) (a := 1) rfl
    rw [bs e, if_pos (Or.inl rfl)]
    exact Or.inl ⟨_, K, rfl, rfl, e2, oK⟩
  | k + 1, p, s, c, f + 1, j, N, hk, hf, hj, h, hc, hs, hp => by
    have hn := hT.1
    have c240 : ¬ (240 : Int32) ≤ nI (240 - (k + 1)) := fun q => by
      have := (nI_leI (a := 240) (b := 240 - (k + 1)) (by omega) (by omega)).mp q
      omega
    unfold pJmp g4_readPart_b4
    rw [if_neg c240]
    have hA := ha p c
    rcases H N p s c h hc hs hp with ⟨fl, K, e1, e2, e3, e4⟩ | ⟨q, K, e1, e2, e3, e4, e5, e6⟩
    · rw [bs e2, if_pos rfl, e1]
      exact Or.inl ⟨_, K, rfl, rfl, e3, e4⟩
    rw [e1] at hA
    obtain ⟨a1, a2, a3, a4⟩ := hA
    rw [bs e2, if_neg (show ¬ (1 : Int32) = 0 by decide), e1]
    dsimp only
    obtain ⟨K2, f1, ck2, k30, k31, o2⟩ := aim_eq e3 j (fun i hi => by have := hj i hi; omega)
    have oc2 : Off CB N K2 := e6.tr (o2.mono (by decide))
    rw [bs f1, ck2.2.1]
    have w2 : WrL (K2 30) (K2 31) sh s q.2 := WrL_fr _ _ e4 fun i h1 h2 => ⟨by rw [k30], (k31 i).1 fun r => by have := hj i r; omega⟩
    have keep2 : ∀ i, i < s → K2 30 i = N 30 i ∧ (j ≠ some i → K2 31 i = N 31 i) ∧ (j = some i → K2 31 i = nI (s + q.2.length)) := fun i hi => by
      obtain ⟨x, y⟩ := e5 i hi
      exact ⟨by rw [k30, x], fun r => by rw [(k31 i).1 r, y], fun r => (k31 i).2 r⟩
    by_cases c1 : isC T n q.1 38 = true
    · rw [if_pos c1, if_pos (show sgI T n q.1 = 38 from (sg_is hT (c := 38) (by omega)).mpr c1)]
      have hq := (isC_lt c1).1
      obtain ⟨K3, g3, ck3, o3⟩ := ck2.go hT hq
      rw [bs g3]
      obtain ⟨K4, g4, ck4, r1, r2, o4⟩ := ck3.add (o := 5) (v := 0) (by omega)
      rw [bs g4]
      have e240 : nI (240 - (k + 1)) + 1 = nI (240 - k) := by rw [nI_1, show 240 - (k + 1) + 1 = 240 - k by omega]
      rw [e240]
      have k4 : ∀ i, i < s + q.2.length → K4 30 i = K2 30 i ∧ K4 31 i = K2 31 i := fun i hi => by
        rw [r1, r2, ud_n (by omega), ud_n (by omega), o3 30 (by decide), o3 31 (by decide)]
        exact ⟨rfl, rfl⟩
      have oc4 : Off CB N K4 := (oc2.tr (cb_go o3)).tr (o4.mono (by decide))
      rcases part_b hT H ha k (q.1 + 1) (s + q.2.length + 1) (c + q.2.length + 1) f (some (s + q.2.length)) K4 (by omega) (by omega) (fun i hi => by injection hi with hi; omega) ck4 (by omega) (by omega) (by omega) with ⟨e, K5, i1, i2, i3, i4⟩ | ⟨r, K5, i1, i2, i3, i4, i5, i6⟩
      · have i2' : g4_readPart_b4 rF f (nI o) (nI (s + q.2.length)) (nI (240 - k)) K4 = some (0, K5) := i2
        dsimp only
        rw [i1, i2']
        exact Or.inl ⟨_, K5, rfl, rfl, i3, oc4.tr i4⟩
      · have i2' : g4_readPart_b4 rF f (nI o) (nI (s + q.2.length)) (nI (240 - k)) K4 = some (1, K5) := i2
        dsimp only
        rw [i1, i2']
        refine Or.inr ⟨_, K5, rfl, rfl, ?_, ?_, fun i hi => ?_, oc4.tr i6⟩
        · have hl : (q.2 ++ (11, c + q.2.length + 1 + r.2.2) :: r.2.1).length = q.2.length + (r.2.1.length + 1) := by simp
          dsimp only
          rw [hl, show s + (q.2.length + (r.2.1.length + 1)) = s + q.2.length + 1 + r.2.1.length by omega]
          exact i3
        · dsimp only
          rw [WrL_app]
          obtain ⟨x, y, z⟩ := i5 (s + q.2.length) (by omega)
          refine ⟨WrL_fr _ _ w2 fun i h1 h2 => ?_, ?_, ?_, i4⟩
          · obtain ⟨x', y', -⟩ := i5 i (by omega)
            rw [x', y' (fun e => by injection e with e; omega)]
            exact k4 i h2
          · rw [x, r1, ud_s]; rfl
          · rw [z rfl]
            show nI (s + q.2.length + 1 + r.2.2) = nI (carg sh (11, c + q.2.length + 1 + r.2.2))
            have : carg sh (11, c + q.2.length + 1 + r.2.2) = c + q.2.length + 1 + r.2.2 + sh := if_pos (show (11 : Nat) ≤ 11 by omega)
            rw [this]
            congr 1
            omega
        · obtain ⟨x', y', -⟩ := i5 i (by omega)
          rw [x', y' (fun e => by injection e with e; omega)]
          obtain ⟨x, y⟩ := k4 i (by omega)
          rw [x, y]
          exact keep2 i hi
    · rw [if_neg c1, if_neg (show ¬ sgI T n q.1 = 38 from fun r => c1 ((sg_is hT (c := 38) (by omega)).mp r))]
      exact Or.inr ⟨_, K2, rfl, rfl, ck2, w2, keep2, oc2⟩
theorem choice_b {T : Nat → Nat} {n sh : Nat} (hT : Txt T n) {rF : Int32 → xMem → Option (Int32 × xMem)} {o : Nat} {pc : Nat → Nat → RR (Nat × List Ins)} (H : RdC T n sh (g4_readPart rF (nI o)) pc) (ha : ∀ p c, Adv n p (pc p c)) : ∀ (k p s c f : Nat) (j : Option Nat) (N : xMem), k ≤ 240 → k < f → (∀ i, j = some i → i < s) → COk T n N p s → s = c + sh → s ≤ p → p ≤ n →
    (∃ e K, pJmp T n 124 12 pc k p c = .inl e ∧ g4_readChoice_b4 rF f (nI o) (encJ j) (nI (240 - k)) N = some (0, K) ∧ K 115 0 = e ∧ Off CB N K) ∨
    ∃ q K, pJmp T n 124 12 pc k p c = .inr q ∧ g4_readChoice_b4 rF f (nI o) (encJ j) (nI (240 - k)) N = some (1, K) ∧ COk T n K q.1 (s + q.2.1.length) ∧ WrL (K 30) (K 31) sh s q.2.1 ∧ (∀ i, i < s → K 30 i = N 30 i ∧ (j ≠ some i → K 31 i = N 31 i) ∧ (j = some i → K 31 i = nI (s + q.2.2))) ∧ Off CB N K
  | 0, p, s, c, f + 1, j, N, hk, hf, hj, h, hc, hs, hp => by
    unfold pJmp g4_readChoice_b4
    rw [if_pos (show (240 : Int32) ≤ nI (240 - 0) by decide)]
    obtain ⟨K, e, e2, oK⟩ := h.fail' (k := 1) (a := 1) rfl
    rw [bs e, if_pos (Or.inl rfl)]
    exact Or.inl ⟨_, K, rfl, rfl, e2, oK⟩
  | k + 1, p, s, c, f + 1, j, N, hk, hf, hj, h, hc, hs, hp => by
    have hn := hT.1
    have c240 : ¬ (240 : Int32) ≤ nI (240 - (k + 1)) := fun q => by
      have := (nI_leI (a := 240) (b := 240 - (k + 1)) (by omega) (by omega)).mp q
      omega
    unfold pJmp g4_readChoice_b4
    rw [if_neg c240]
    have hA := ha p c
    rcases H N p s c h hc hs hp with ⟨fl, K, e1, e2, e3, e4⟩ | ⟨q, K, e1, e2, e3, e4, e5, e6⟩
    · rw [bs e2, if_pos rfl, e1]
      exact Or.inl ⟨_, K, rfl, rfl, e3, e4⟩
    rw [e1] at hA
    obtain ⟨a1, a2, a3, a4⟩ := hA
    rw [bs e2, if_neg (show ¬ (1 : Int32) = 0 by decide), e1]
    dsimp only
    obtain ⟨K2, f1, ck2, k30, k31, o2⟩ := aim_eq e3 j (fun i hi => by have := hj i hi; omega)
    have oc2 : Off CB N K2 := e6.tr (o2.mono (by decide))
    rw [bs f1, ck2.2.1]
    have w2 : WrL (K2 30) (K2 31) sh s q.2 := WrL_fr _ _ e4 fun i h1 h2 => ⟨by rw [k30], (k31 i).1 fun r => by have := hj i r; omega⟩
    have keep2 : ∀ i, i < s → K2 30 i = N 30 i ∧ (j ≠ some i → K2 31 i = N 31 i) ∧ (j = some i → K2 31 i = nI (s + q.2.length)) := fun i hi => by
      obtain ⟨x, y⟩ := e5 i hi
      exact ⟨by rw [k30, x], fun r => by rw [(k31 i).1 r, y], fun r => (k31 i).2 r⟩
    by_cases c1 : isC T n q.1 124 = true
    · rw [if_pos c1, if_pos (show sgI T n q.1 = 124 from (sg_is hT (c := 124) (by omega)).mpr c1)]
      have hq := (isC_lt c1).1
      obtain ⟨K3, g3, ck3, o3⟩ := ck2.go hT hq
      rw [bs g3]
      obtain ⟨K4, g4, ck4, r1, r2, o4⟩ := ck3.add (o := 4) (v := 0) (by omega)
      rw [bs g4]
      have e240 : nI (240 - (k + 1)) + 1 = nI (240 - k) := by rw [nI_1, show 240 - (k + 1) + 1 = 240 - k by omega]
      rw [e240]
      have k4 : ∀ i, i < s + q.2.length → K4 30 i = K2 30 i ∧ K4 31 i = K2 31 i := fun i hi => by
        rw [r1, r2, ud_n (by omega), ud_n (by omega), o3 30 (by decide), o3 31 (by decide)]
        exact ⟨rfl, rfl⟩
      have oc4 : Off CB N K4 := (oc2.tr (cb_go o3)).tr (o4.mono (by decide))
      rcases choice_b hT H ha k (q.1 + 1) (s + q.2.length + 1) (c + q.2.length + 1) f (some (s + q.2.length)) K4 (by omega) (by omega) (fun i hi => by injection hi with hi; omega) ck4 (by omega) (by omega) (by omega) with ⟨e, K5, i1, i2, i3, i4⟩ | ⟨r, K5, i1, i2, i3, i4, i5, i6⟩
      · have i2' : g4_readChoice_b4 rF f (nI o) (nI (s + q.2.length)) (nI (240 - k)) K4 = some (0, K5) := i2
        dsimp only
        rw [i1, i2']
        exact Or.inl ⟨_, K5, rfl, rfl, i3, oc4.tr i4⟩
      · have i2' : g4_readChoice_b4 rF f (nI o) (nI (s + q.2.length)) (nI (240 - k)) K4 = some (1, K5) := i2
        dsimp only
        rw [i1, i2']
        refine Or.inr ⟨_, K5, rfl, rfl, ?_, ?_, fun i hi => ?_, oc4.tr i6⟩
        · have hl : (q.2 ++ (12, c + q.2.length + 1 + r.2.2) :: r.2.1).length = q.2.length + (r.2.1.length + 1) := by simp
          dsimp only
          rw [hl, show s + (q.2.length + (r.2.1.length + 1)) = s + q.2.length + 1 + r.2.1.length by omega]
          exact i3
        · dsimp only
          rw [WrL_app]
          obtain ⟨x, y, z⟩ := i5 (s + q.2.length) (by omega)
          refine ⟨WrL_fr _ _ w2 fun i h1 h2 => ?_, ?_, ?_, i4⟩
          · obtain ⟨x', y', -⟩ := i5 i (by omega)
            rw [x', y' (fun e => by injection e with e; omega)]
            exact k4 i h2
          · rw [x, r1, ud_s]; rfl
          · rw [z rfl]
            show nI (s + q.2.length + 1 + r.2.2) = nI (carg sh (12, c + q.2.length + 1 + r.2.2))
            have : carg sh (12, c + q.2.length + 1 + r.2.2) = c + q.2.length + 1 + r.2.2 + sh := if_pos (show (11 : Nat) ≤ 12 by omega)
            rw [this]
            congr 1
            omega
        · obtain ⟨x', y', -⟩ := i5 i (by omega)
          rw [x', y' (fun e => by injection e with e; omega)]
          obtain ⟨x, y⟩ := k4 i (by omega)
          rw [x, y]
          exact keep2 i hi
    · rw [if_neg c1, if_neg (show ¬ sgI T n q.1 = 124 from fun r => c1 ((sg_is hT (c := 124) (by omega)).mp r))]
      exact Or.inr ⟨_, K2, rfl, rfl, ck2, w2, keep2, oc2⟩
theorem drop_ok {T : Nat → Nat} {n sh s : Nat} {N : xMem} {r : RR (Nat × List Ins × Nat)} {g : Option (Int32 × xMem)} (h : (∃ e K, r = .inl e ∧ g = some (0, K) ∧ K 115 0 = e ∧ Off CB N K) ∨
    ∃ q K, r = .inr q ∧ g = some (1, K) ∧ COk T n K q.1 (s + q.2.1.length) ∧ WrL (K 30) (K 31) sh s q.2.1 ∧ (∀ i, i < s → K 30 i = N 30 i ∧ ((none : Option Nat) ≠ some i → K 31 i = N 31 i) ∧ ((none : Option Nat) = some i → K 31 i = nI (s + q.2.2))) ∧ Off CB N K) : CRes T n sh N s (dropL r) g := by
  rcases h with ⟨e, K, h1, h2, h3, h4⟩ | ⟨q, K, h1, h2, h3, h4, h5, h6⟩
  · subst h1
    exact CRes.err rfl h2 h3 h4
  · subst h1
    exact Or.inr ⟨_, K, rfl, h2, h3, h4, fun i hi => ⟨(h5 i hi).1, (h5 i hi).2.1 (fun e => by cases e)⟩, h6⟩
theorem cpart_ok {T : Nat → Nat} {n sh : Nat} (hT : Txt T n) {rF : Int32 → xMem → Option (Int32 × xMem)} {o : Nat} {pc : Nat → Nat → RR (Nat × List Ins)} (H : RdC T n sh (rF (nI o)) pc) (ha : ∀ p c, Adv n p (pc p c)) : RdC T n sh (g4_readPart rF (nI o)) (pPart T n pc) :=
  fun M p s c h hc hs hp => drop_ok (part_b hT H ha 240 p s c 5000 none M (by omega) (by omega) (fun i e => by cases e) h hc hs hp)
theorem ccho_ok {T : Nat → Nat} {n sh : Nat} (hT : Txt T n) {rF : Int32 → xMem → Option (Int32 × xMem)} {o : Nat} {pc : Nat → Nat → RR (Nat × List Ins)} (H : RdC T n sh (rF (nI o)) pc) (ha : ∀ p c, Adv n p (pc p c)) : RdC T n sh (g4_readChoice rF (nI o)) (pChoO T n pc) :=
  fun M p s c h hc hs hp => drop_ok (choice_b hT (cpart_ok hT H ha) (pPart_adv ha) 240 p s c 5000 none M (by omega) (by omega) (fun i e => by cases e) h hc hs hp)
theorem piece_one {T : Nat → Nat} {n sh : Nat} (hT : Txt T n) {d : Nat} (hd : d ≤ 6) {rF : Int32 → xMem → Option (Int32 × xMem)} {inner : Option (Nat → Nat → RR (Nat × List Ins))} (h0 : d = 0 → inner = none) (h1 : ∀ e, d = e + 1 → inner = some (pPieD T n e) ∧ RdC T n sh (rF (nI (6 - e))) (pPieD T n e)) : RdC T n sh (g4_readPiece rF (nI (6 - d))) (pPie T n d inner) := by
  intro M p s c h hc hs hp
  have hn := hT.1
  unfold pPie g4_readPiece
  rw [h.2.1]
  -- ! or (
  have H24 : ∀ b : Bool, (isC T n p (if b = true then 33 else 40) = true) → sgI T n p = (if b = true then 33 else 40) → CRes T n sh M s (if b = true then pNot inner p c else pPar T n inner p c) (g4_readPiece_b24 rF (nI (6 - d)) M) := by
    intro b hb hsg
    have hlt := (isC_lt hb).1
    unfold g4_readPiece_b24 g4_readPiece_b50
    cases d with
    | zero =>
      rw [h0 rfl, if_neg (show ¬ nI (6 - 0) < 6 by decide)]
      obtain ⟨K, e, e2, oK⟩ := h.fail' (k := 5) (a := 5) rfl
      rw [bs e, if_pos (Or.inl rfl)]
      cases b
      · exact CRes.err rfl rfl e2 oK
      · exact CRes.err rfl rfl e2 oK
    | succ e =>
      obtain ⟨hi, hr⟩ := h1 e rfl
      rw [hi, if_pos (show nI (6 - (e + 1)) < 6 from (nI_ltI (a := 6 - (e + 1)) (b := 6) (by omega) (by omega)).mpr (by omega)), h.2.1, hsg]
      obtain ⟨K, g1, ck, o1⟩ := h.go hT hlt
      have e6 : nI (6 - (e + 1)) + 1 = nI (6 - e) := by rw [nI_1, show 6 - (e + 1) + 1 = 6 - e by omega]
      rw [e6]
      cases b
      · rw [if_neg (show ¬ (if false = true then (33 : Int32) else 40) = 33 by decide), bs g1, if_pos (rfl : (0 : Int32) = 0)]
        rcases ccho_ok hT hr (pPieD_adv e) K (p + 1) s c ck hc (by omega) (by omega) with ⟨fl, K2, e1, e2, e3, e4⟩ | ⟨q, K2, e1, e2, e3, e4, e5, e6'⟩
        · rw [bs e2, if_pos rfl]
          refine CRes.err ?_ rfl e3 ((cb_go o1).tr e4)
          show pPar T n (some (pPieD T n e)) p c = _
          unfold pPar
          dsimp only
          rw [e1]
        · rw [bs e2, if_neg (show ¬ (1 : Int32) = 0 by decide)]
          have es : (if false = true then pNot (some (pPieD T n e)) p c else pPar T n (some (pPieD T n e)) p c) = if isC T n q.1 41 = true then .inr (q.1 + 1, q.2) else .inl (flt 1 q.1) := by
            show pPar T n (some (pPieD T n e)) p c = _
            unfold pPar
            dsimp only
            rw [e1]
          rw [es]
          dsimp only
          rcases take_ok hT (c := 41) (by omega) e3 with ⟨t1, K3, t2, t3, t4⟩ | ⟨t1, K3, t2, t3, t4⟩
          · have t2' : g4_take 41 K2 = some (1, K3) := t2
            rw [bs t2', if_neg (show ¬ (1 : Int32) = 0 by decide), if_pos t1]
            refine Or.inr ⟨_, K3, rfl, rfl, t3, WrL_fr _ _ e4 fun i _ _ => by rw [t4 30 (by decide), t4 31 (by decide)]; exact ⟨rfl, rfl⟩, fun i hi => ?_, ((cb_go o1).tr e6').tr (cb_go t4)⟩
            rw [t4 30 (by decide), t4 31 (by decide)]
            obtain ⟨a, b⟩ := e5 i hi
            rw [a, b, o1 30 (by decide), o1 31 (by decide)]
            exact ⟨rfl, rfl⟩
          · have t2' : g4_take 41 K2 = some (0, K3) := t2
            rw [bs t2', if_pos rfl, if_neg t1]
            exact CRes.err rfl rfl t3 (((cb_go o1).tr e6').tr (t4.mono (by decide)))
      · rw [if_pos (show (if true = true then (33 : Int32) else 40) = 33 by decide), bs g1, if_neg (show ¬ (1 : Int32) = 0 by decide)]
        have hA := pPieD_adv (T := T) (n := n) e (p + 1) c
        rcases hr K (p + 1) s c ck hc (by omega) (by omega) with ⟨fl, K2, e1, e2, e3, e4⟩ | ⟨q, K2, e1, e2, e3, e4, e5, e6'⟩
        · rw [bs e2, if_pos rfl]
          refine CRes.err ?_ rfl e3 ((cb_go o1).tr e4)
          show pNot (some (pPieD T n e)) p c = _
          unfold pNot
          dsimp only
          rw [e1]
        · rw [e1] at hA
          obtain ⟨a1, a2, a3, a4⟩ := hA
          rw [bs e2, if_neg (show ¬ (1 : Int32) = 0 by decide)]
          dsimp only
          obtain ⟨K3, g3, ck3, r1, r2, o3⟩ := e3.add (o := 3) (v := 0) (by omega)
          rw [bs g3]
          have hl : (q.2 ++ [((10, 0) : Ins)]).length = q.2.length + 1 := by simp
          refine Or.inr ⟨(q.1, q.2 ++ [(10, 0)]), K3, ?_, rfl, ?_, ?_, fun i hi => ?_, ((cb_go o1).tr e6').tr (o3.mono (by decide))⟩
          · show pNot (some (pPieD T n e)) p c = _
            unfold pNot
            dsimp only
            rw [e1]
          · dsimp only
            rw [hl, ← Nat.add_assoc]
            exact ck3
          · refine (WrL_app _ _ _).mpr ⟨WrL_fr _ _ e4 fun i h1 h2 => ?_, add1 r1 r2 rfl rfl⟩
            rw [r1, r2, ud_n (by omega), ud_n (by omega)]
            exact ⟨rfl, rfl⟩
          · rw [r1, r2, ud_n (by omega), ud_n (by omega)]
            obtain ⟨a, b⟩ := e5 i hi
            rw [a, b, o1 30 (by decide), o1 31 (by decide)]
            exact ⟨rfl, rfl⟩
  by_cases c1 : isC T n p 33 = true
  · have q1 : sgI T n p = 33 := (sg_is hT (c := 33) (by omega)).mpr c1
    rw [if_pos q1, if_pos c1]
    exact H24 true c1 q1
  have q1 : ¬ sgI T n p = 33 := fun r => c1 ((sg_is hT (c := 33) (by omega)).mp r)
  rw [if_neg q1, if_neg c1]
  by_cases c2 : isC T n p 40 = true
  · have q2 : sgI T n p = 40 := (sg_is hT (c := 40) (by omega)).mpr c2
    rw [if_pos q2, if_pos c2]
    exact H24 false c2 q2
  have q2 : ¬ sgI T n p = 40 := fun r => c2 ((sg_is hT (c := 40) (by omega)).mp r)
  rw [if_neg q2, if_neg c2]
  rcases ccmp_ok hT hd M p s h hs hp with ⟨fl, K2, e1, e2, e3, e4⟩ | ⟨q, K2, e1, e2, e3, e4, e5, e6'⟩
  · rw [bs e2, if_pos (Or.inl rfl)]
    exact CRes.err e1 rfl e3 e4
  · rw [bs e2, if_pos (Or.inr rfl)]
    exact Or.inr ⟨q, K2, e1, rfl, e3, e4, e5, e6'⟩
theorem cpie_ok {T : Nat → Nat} {n sh : Nat} (hT : Txt T n) : ∀ (d f : Nat), d < f → d ≤ 6 → RdC T n sh (g4_readPiece_rec f (nI (6 - d))) (pPieD T n d)
  | 0, f + 1, hf, hd => piece_one (rF := g4_readPiece_rec f) hT hd (fun _ => rfl) (fun e h => absurd h (by omega))
  | d + 1, f + 1, hf, hd => piece_one (rF := g4_readPiece_rec f) hT hd (fun h => absurd h (by omega)) (fun e h => by
      have : e = d := by omega
      subst this
      exact ⟨rfl, cpie_ok hT e f (by omega) (by omega)⟩)
theorem cchoice_ok {T : Nat → Nat} {n sh : Nat} (hT : Txt T n) : RdC T n sh (g4_readChoice (g4_readPiece_rec 20) 1) (pCho T n 5) := ccho_ok hT (o := 1) (cpie_ok hT 5 20 (by omega) (by omega)) (pPieD_adv 5)
