/-! PURE: the class reads terms, sums, factors, comparisons -/
def RdOk (T : Nat → Nat) (n sh : Nat) (rd : xMem → Option (Int32 × xMem)) (sp : Nat → RR (Nat × List Ins)) : Prop :=
  ∀ M p s, COk T n M p s → s ≤ p → p ≤ n → CRes T n sh M s (sp p) (rd M)
def opc (op : Nat) : Nat := if op = 0 then 0 else op + 4
theorem COk.fr {T : Nat → Nat} {n p s : Nat} {M K : xMem} (h : COk T n M p s) {S : List Nat} (o : Off S M K) (hS : ∀ b ∈ [112, 114, 113, 32, 120], b ∉ S) : COk T n K p s := by
  obtain ⟨h1, h2, h3, h4, h5⟩ := h
  have e : ∀ b ∈ [112, 114, 113, 32, 120], K b = M b := fun b hb => o b (hS b hb)
  exact ⟨by rw [e 112 (by decide), h1], by rw [e 114 (by decide), h2], by rw [e 113 (by decide), h3], by rw [e 32 (by decide), h4], fun i hi => by rw [e 120 (by decide)]; exact h5 i hi⟩
theorem cop_ar {op : Nat} (h : 2 ≤ op) (h2 : op ≤ 9) : cop op = op + 4 := by
  unfold cop
  rw [if_neg (by omega), if_pos h2]
theorem carg_0 {sh : Nat} {i : Ins} (h : i.1 < 11) : carg sh i = i.2 := if_neg (by omega)
theorem mulN_cases {T : Nat → Nat} {n p : Nat} (hT : Txt T n) : (mulN T n p = 4 ∧ sgI T n p = 42) ∨ (mulN T n p = 5 ∧ sgI T n p ≠ 42 ∧ sgI T n p = 47) ∨ (mulN T n p = 6 ∧ sgI T n p ≠ 42 ∧ sgI T n p ≠ 47 ∧ sgI T n p = 37) ∨ (mulN T n p = 0 ∧ sgI T n p ≠ 42 ∧ sgI T n p ≠ 47 ∧ sgI T n p ≠ 37) := by
  have a1 := sg_is (p := p) hT (c := 42) (by omega)
  have a2 := sg_is (p := p) hT (c := 47) (by omega)
  have a3 := sg_is (p := p) hT (c := 37) (by omega)
  unfold mulN
  by_cases c1 : isC T n p 42 = true
  · rw [if_pos c1]; exact Or.inl ⟨rfl, a1.mpr c1⟩
  by_cases c2 : isC T n p 47 = true
  · rw [if_neg c1, if_pos c2]; exact Or.inr (Or.inl ⟨rfl, fun q => c1 (a1.mp q), a2.mpr c2⟩)
  by_cases c3 : isC T n p 37 = true
  · rw [if_neg c1, if_neg c2, if_pos c3]; exact Or.inr (Or.inr (Or.inl ⟨rfl, fun q => c1 (a1.mp q), fun q => c2 (a2.mp q), a3.mpr c3⟩))
  · rw [if_neg c1, if_neg c2, if_neg c3]; exact Or.inr (Or.inr (Or.inr ⟨rfl, fun q => c1 (a1.mp q), fun q => c2 (a2.mp q), fun q => c3 (a3.mp q)⟩))
theorem addN_cases {T : Nat → Nat} {n p : Nat} (hT : Txt T n) : (addN T n p = 2 ∧ sgI T n p = 43) ∨ (addN T n p = 3 ∧ sgI T n p ≠ 43 ∧ sgI T n p = 45) ∨ (addN T n p = 0 ∧ sgI T n p ≠ 43 ∧ sgI T n p ≠ 45) := by
  have a1 := sg_is (p := p) hT (c := 43) (by omega)
  have a2 := sg_is (p := p) hT (c := 45) (by omega)
  unfold addN
  by_cases c1 : isC T n p 43 = true
  · rw [if_pos c1]; exact Or.inl ⟨rfl, a1.mpr c1⟩
  by_cases c2 : isC T n p 45 = true
  · rw [if_neg c1, if_pos c2]; exact Or.inr (Or.inl ⟨rfl, fun q => c1 (a1.mp q), a2.mpr c2⟩)
  · rw [if_neg c1, if_neg c2]; exact Or.inr (Or.inr ⟨rfl, fun q => c1 (a1.mp q), fun q => c2 (a2.mp q)⟩)
/-- a right part and, if there is one, the sign before it -/
theorem part_op {T : Nat → Nat} {n sh : Nat} (hT : Txt T n) {M K : xMem} {s op : Nat} {q : Nat × List Ins} {p : Nat} (ho : op = 0 ∨ (2 ≤ op ∧ op ≤ 9)) (ha : p + q.2.length ≤ q.1 ∧ p < q.1 ∧ q.1 ≤ n) (hs : s + (if op = 0 then 0 else 1) ≤ p) (c : COk T n K q.1 (s + q.2.length)) (w : WrL (K 30) (K 31) sh s q.2) (h : ∀ i, i < s → K 30 i = M 30 i ∧ K 31 i = M 31 i) (o : Off CB M K) {α : Type} (F : xMem → Option α) :
    ∃ K2, (if nI (opc op) = 0 then F K else Option.bind (g3_add (nI (opc op)) 0 K) fun q9 => F q9.2) = F K2 ∧ COk T n K2 q.1 (s + (if op = 0 then q.2 else q.2 ++ [(op, 0)]).length) ∧ WrL (K2 30) (K2 31) sh s (if op = 0 then q.2 else q.2 ++ [(op, 0)]) ∧ (∀ i, i < s → K2 30 i = M 30 i ∧ K2 31 i = M 31 i) ∧ Off CB M K2 ∧ s + (if op = 0 then q.2 else q.2 ++ [(op, 0)]).length ≤ q.1 := by
  have hn := hT.1
  by_cases c0 : op = 0
  · subst c0
    rw [if_pos rfl] at hs ⊢
    exact ⟨K, if_pos rfl, c, w, h, o, by omega⟩
  · rw [if_neg c0] at hs ⊢
    have ho' := ho.resolve_left c0
    have e1 : opc op = op + 4 := if_neg c0
    rw [e1, if_neg (nI_ne0 (by omega) (by omega))]
    obtain ⟨K2, e, ck, r1, r2, o2⟩ := c.add (o := nI (op + 4)) (v := 0) (by omega)
    rw [bs e]
    have hl : (q.2 ++ [(op, 0)]).length = q.2.length + 1 := by simp
    rw [hl]
    refine ⟨K2, rfl, by rw [← Nat.add_assoc]; exact ck, (WrL_app _ _ _).mpr ⟨WrL_fr _ _ w fun i h1 h2 => ?_, add1 r1 r2 (by rw [cop_ar ho'.1 ho'.2]) (by rw [carg_0 (by dsimp only; omega)]; rfl)⟩, fun i hi => ?_, o.tr (o2.mono (by decide)), by omega⟩
    · rw [r1, r2, ud_n (by omega), ud_n (by omega)]; exact ⟨rfl, rfl⟩
    · rw [r1, r2, ud_n (by omega), ud_n (by omega)]; exact h i hi
theorem cb_go {M K : xMem} (o : Off [112, 114] M K) : Off CB M K := o.mono (by decide)
theorem go_keep {M K : xMem} {s : Nat} (o : Off [112, 114] M K) : ∀ i, i < s → K 30 i = M 30 i ∧ K 31 i = M 31 i := fun i _ => by rw [o 30 (by decide), o 31 (by decide)]; exact ⟨rfl, rfl⟩
def preL (l : List Ins) : RR (Nat × List Ins) → RR (Nat × List Ins)
  | .inl f => .inl f
  | .inr q => .inr (q.1, l ++ q.2)
theorem CRes.later {T : Nat → Nat} {n sh : Nat} {M K : xMem} {s s' : Nat} {l : List Ins} {r : RR (Nat × List Ins)} {g : Option (Int32 × xMem)} (w : WrL (K 30) (K 31) sh s l) (hk : ∀ i, i < s → K 30 i = M 30 i ∧ K 31 i = M 31 i) (o : Off CB M K) (hs : s' = s + l.length) (h : CRes T n sh K s' r g) :
    CRes T n sh M s (preL l r) g := by
  subst hs
  rcases h with ⟨f, K', e1, e2, e3, e4⟩ | ⟨q, K', e1, e2, e3, e4, e5, e6⟩
  · subst e1
    exact Or.inl ⟨f, K', rfl, e2, e3, o.tr e4⟩
  · subst e1
    refine Or.inr ⟨(q.1, l ++ q.2), K', rfl, e2, ?_, (WrL_app _ _ _).mpr ⟨WrL_fr _ _ w fun i h1 h2 => e5 i (by omega), e4⟩, fun i hi => ?_, o.tr e6⟩
    · dsimp only
      rw [List.length_append, ← Nat.add_assoc]
      exact e3
    · obtain ⟨a, b⟩ := e5 i (by omega)
      obtain ⟨c, d⟩ := hk i hi
      exact ⟨a.trans c, b.trans d⟩
theorem term_b {T : Nat → Nat} {n sh : Nat} (hT : Txt T n) {rF : Int32 → xMem → Option (Int32 × xMem)} {o : Nat} {fac : Nat → RR (Nat × List Ins)} (H : RdOk T n sh (rF (nI o)) fac) (ha : ∀ p, Adv n p (fac p)) : ∀ (k op p f s : Nat) (N : xMem), k ≤ 240 → k < f → (op = 0 ∨ (2 ≤ op ∧ op ≤ 9)) → COk T n N p s → s + (if op = 0 then 0 else 1) ≤ p → p ≤ n →
    CRes T n sh N s (pRun T n (mulN T n) fac k op p) (g4_readTerm_b4 rF f (nI o) (nI (opc op)) (nI (240 - k)) N)
  | 0, op, p, f + 1, s, N, hk, hf, ho, h, hs, hp => by
    unfold pRun g4_readTerm_b4
    rw [if_pos (show (240 : Int32) ≤ nI (240 - 0) by decide)]
    obtain ⟨K, e, e2, oK⟩ := h.fail (k := 1)
    have e' : g4_fail 1 N = some (0, K) := e
    rw [bs e', if_pos (Or.inl rfl)]
    exact CRes.err rfl rfl e2 (oK.mono (by decide))
  | k + 1, op, p, f + 1, s, N, hk, hf, ho, h, hs, hp => by
    have hn := hT.1
    have c240 : ¬ (240 : Int32) ≤ nI (240 - (k + 1)) := fun q => by
      have := (nI_leI (a := 240) (b := 240 - (k + 1)) (by omega) (by omega)).mp q
      omega
    unfold pRun g4_readTerm_b4 g4_readTerm_b35 g4_readTerm_b78
    rw [if_neg c240]
    rcases H N p s h (by split at hs <;> omega) hp with ⟨fl, K, e1, e2, e3, e4⟩ | ⟨q, K, e1, e2, e3, e4, e5, e6⟩
    · rw [bs e2, if_pos rfl, e1]
      exact CRes.err rfl rfl e3 e4
    · have hadv := ha p
      rw [e1] at hadv
      obtain ⟨a1, a2, a3, a4⟩ := hadv
      rw [bs e2, if_neg (show ¬ (1 : Int32) = 0 by decide), e1]
      dsimp only
      obtain ⟨K2, f1, ck, w, hk2, o2, hl⟩ := part_op hT (sh := sh) (M := N) (K := K) (s := s) (op := op) (q := q) (p := p) ho ⟨a1, a2, a3⟩ hs e3 e4 e5 e6 (fun M => if M 114 0 = 42 then (if (8 : Int32) = 0 then some ((1 : Int32), M) else Option.bind (g4_goTo (M 112 0 + 1) M) fun q15 => g4_readTerm_b4 rF f (nI o) 8 (nI (240 - (k + 1)) + 1) q15) else if M 114 0 = 47 then (if (9 : Int32) = 0 then some ((1 : Int32), M) else Option.bind (g4_goTo (M 112 0 + 1) M) fun q15 => g4_readTerm_b4 rF f (nI o) 9 (nI (240 - (k + 1)) + 1) q15) else if M 114 0 = 37 then (if (10 : Int32) = 0 then some ((1 : Int32), M) else Option.bind (g4_goTo (M 112 0 + 1) M) fun q15 => g4_readTerm_b4 rF f (nI o) 10 (nI (240 - (k + 1)) + 1) q15) else (if (0 : Int32) = 0 then some ((1 : Int32), M) else Option.bind (g4_goTo (M 112 0 + 1) M) fun q15 => g4_readTerm_b4 rF f (nI o) 0 (nI (240 - (k + 1)) + 1) q15))
      refine Eq.mpr (congrArg (CRes T n sh N s _) f1) ?_
      have e240 : nI (240 - (k + 1)) + 1 = nI (240 - k) := by rw [nI_1, show 240 - (k + 1) + 1 = 240 - k by omega]
      rw [ck.2.1, e240]
      have go : ∀ o', mulN T n q.1 = o' → o' ≠ 0 → 2 ≤ o' → o' ≤ 9 → CRes T n sh N s (if mulN T n q.1 = 0 then .inr (q.1, if op = 0 then q.2 else q.2 ++ [(op, 0)]) else (match pRun T n (mulN T n) fac k (mulN T n q.1) (q.1 + 1) with
          | .inl f => .inl f
          | .inr r => .inr (r.1, (if op = 0 then q.2 else q.2 ++ [(op, 0)]) ++ r.2))) (Option.bind (g4_goTo (K2 112 0 + 1) K2) fun q15 => g4_readTerm_b4 rF f (nI o) (nI (o' + 4)) (nI (240 - k)) q15) := by
        intro o' h1 h2 h3 h4
        have hq := mulN_lt (show mulN T n q.1 ≠ 0 by rw [h1]; exact h2)
        obtain ⟨K3, g3, ck3, o3⟩ := ck.go hT hq
        rw [bs g3, h1, if_neg h2]
        have ih := term_b hT H ha k o' (q.1 + 1) f (s + (if op = 0 then q.2 else q.2 ++ [(op, 0)]).length) K3 (by omega) (by omega) (Or.inr ⟨h3, h4⟩) ck3 (by rw [if_neg h2]; omega) (by omega)
        have eo : opc o' = o' + 4 := if_neg h2
        rw [eo] at ih
        exact CRes.later (WrL_fr _ _ w fun i _ _ => by rw [o3 30 (by decide), o3 31 (by decide)]; exact ⟨rfl, rfl⟩) (fun i hi => by rw [o3 30 (by decide), o3 31 (by decide)]; exact hk2 i hi) (o2.tr (cb_go o3)) rfl ih
      rcases mulN_cases (p := q.1) hT with ⟨m1, m2⟩ | ⟨m1, m2, m3⟩ | ⟨m1, m2, m3, m4⟩ | ⟨m1, m2, m3, m4⟩
      · rw [if_pos m2, if_neg (show ¬ (8 : Int32) = 0 by decide)]
        exact go 4 m1 (by decide) (by decide) (by decide)
      · rw [if_neg m2, if_pos m3, if_neg (show ¬ (9 : Int32) = 0 by decide)]
        exact go 5 m1 (by decide) (by decide) (by decide)
      · rw [if_neg m2, if_neg m3, if_pos m4, if_neg (show ¬ (10 : Int32) = 0 by decide)]
        exact go 6 m1 (by decide) (by decide) (by decide)
      · rw [if_neg m2, if_neg m3, if_neg m4, if_pos (rfl : (0 : Int32) = 0), m1, if_pos rfl]
        exact Or.inr ⟨_, K2, rfl, rfl, ck, w, hk2, o2⟩
theorem sum_b {T : Nat → Nat} {n sh : Nat} (hT : Txt T n) {rF : Int32 → xMem → Option (Int32 × xMem)} {o : Nat} {fac : Nat → RR (Nat × List Ins)} (H : RdOk T n sh (g4_readTerm rF (nI o)) fac) (ha : ∀ p, Adv n p (fac p)) : ∀ (k op p f s : Nat) (N : xMem), k ≤ 240 → k < f → (op = 0 ∨ (2 ≤ op ∧ op ≤ 9)) → COk T n N p s → s + (if op = 0 then 0 else 1) ≤ p → p ≤ n →
    CRes T n sh N s (pRun T n (addN T n) fac k op p) (g4_readSum_b4 rF f (nI o) (nI (opc op)) (nI (240 - k)) N)
  | 0, op, p, f + 1, s, N, hk, hf, ho, h, hs, hp => by
    unfold pRun g4_readSum_b4
    rw [if_pos (show (240 : Int32) ≤ nI (240 - 0) by decide)]
    obtain ⟨K, e, e2, oK⟩ := h.fail (k := 1)
    have e' : g4_fail 1 N = some (0, K) := e
    rw [bs e', if_pos (Or.inl rfl)]
    exact CRes.err rfl rfl e2 (oK.mono (by decide))
  | k + 1, op, p, f + 1, s, N, hk, hf, ho, h, hs, hp => by
    have hn := hT.1
    have c240 : ¬ (240 : Int32) ≤ nI (240 - (k + 1)) := fun q => by
      have := (nI_leI (a := 240) (b := 240 - (k + 1)) (by omega) (by omega)).mp q
      omega
    unfold pRun g4_readSum_b4 g4_readSum_b35 g4_readSum_b64
    rw [if_neg c240]
    rcases H N p s h (by split at hs <;> omega) hp with ⟨fl, K, e1, e2, e3, e4⟩ | ⟨q, K, e1, e2, e3, e4, e5, e6⟩
    · rw [bs e2, if_pos rfl, e1]
      exact CRes.err rfl rfl e3 e4
    · have hadv := ha p
      rw [e1] at hadv
      obtain ⟨a1, a2, a3, a4⟩ := hadv
      rw [bs e2, if_neg (show ¬ (1 : Int32) = 0 by decide), e1]
      dsimp only
      obtain ⟨K2, f1, ck, w, hk2, o2, hl⟩ := part_op hT (sh := sh) (M := N) (K := K) (s := s) (op := op) (q := q) (p := p) ho ⟨a1, a2, a3⟩ hs e3 e4 e5 e6 (fun M => if M 114 0 = 43 then (if (6 : Int32) = 0 then some ((1 : Int32), M) else Option.bind (g4_goTo (M 112 0 + 1) M) fun q15 => g4_readSum_b4 rF f (nI o) 6 (nI (240 - (k + 1)) + 1) q15) else if M 114 0 = 45 then (if (7 : Int32) = 0 then some ((1 : Int32), M) else Option.bind (g4_goTo (M 112 0 + 1) M) fun q15 => g4_readSum_b4 rF f (nI o) 7 (nI (240 - (k + 1)) + 1) q15) else (if (0 : Int32) = 0 then some ((1 : Int32), M) else Option.bind (g4_goTo (M 112 0 + 1) M) fun q15 => g4_readSum_b4 rF f (nI o) 0 (nI (240 - (k + 1)) + 1) q15))
      refine Eq.mpr (congrArg (CRes T n sh N s _) f1) ?_
      have e240 : nI (240 - (k + 1)) + 1 = nI (240 - k) := by rw [nI_1, show 240 - (k + 1) + 1 = 240 - k by omega]
      rw [ck.2.1, e240]
      have go : ∀ o', addN T n q.1 = o' → o' ≠ 0 → 2 ≤ o' → o' ≤ 9 → CRes T n sh N s (if addN T n q.1 = 0 then .inr (q.1, if op = 0 then q.2 else q.2 ++ [(op, 0)]) else (match pRun T n (addN T n) fac k (addN T n q.1) (q.1 + 1) with
          | .inl f => .inl f
          | .inr r => .inr (r.1, (if op = 0 then q.2 else q.2 ++ [(op, 0)]) ++ r.2))) (Option.bind (g4_goTo (K2 112 0 + 1) K2) fun q15 => g4_readSum_b4 rF f (nI o) (nI (o' + 4)) (nI (240 - k)) q15) := by
        intro o' h1 h2 h3 h4
        have hq := addN_lt (show addN T n q.1 ≠ 0 by rw [h1]; exact h2)
        obtain ⟨K3, g3, ck3, o3⟩ := ck.go hT hq
        rw [bs g3, h1, if_neg h2]
        have ih := sum_b hT H ha k o' (q.1 + 1) f (s + (if op = 0 then q.2 else q.2 ++ [(op, 0)]).length) K3 (by omega) (by omega) (Or.inr ⟨h3, h4⟩) ck3 (by rw [if_neg h2]; omega) (by omega)
        have eo : opc o' = o' + 4 := if_neg h2
        rw [eo] at ih
        exact CRes.later (WrL_fr _ _ w fun i _ _ => by rw [o3 30 (by decide), o3 31 (by decide)]; exact ⟨rfl, rfl⟩) (fun i hi => by rw [o3 30 (by decide), o3 31 (by decide)]; exact hk2 i hi) (o2.tr (cb_go o3)) rfl ih
      rcases addN_cases (p := q.1) hT with ⟨m1, m2⟩ | ⟨m1, m2, m3⟩ | ⟨m1, m2, m3⟩
      · rw [if_pos m2, if_neg (show ¬ (6 : Int32) = 0 by decide)]
        exact go 2 m1 (by decide) (by decide) (by decide)
      · rw [if_neg m2, if_pos m3, if_neg (show ¬ (7 : Int32) = 0 by decide)]
        exact go 3 m1 (by decide) (by decide) (by decide)
      · rw [if_neg m2, if_neg m3, if_pos (rfl : (0 : Int32) = 0), m1, if_pos rfl]
        exact Or.inr ⟨_, K2, rfl, rfl, ck, w, hk2, o2⟩
theorem sumO_ok {T : Nat → Nat} {n sh : Nat} (hT : Txt T n) {rF : Int32 → xMem → Option (Int32 × xMem)} {o : Nat} {fac : Nat → RR (Nat × List Ins)} (H : RdOk T n sh (rF (nI o)) fac) (ha : ∀ p, Adv n p (fac p)) : RdOk T n sh (g4_readSum rF (nI o)) (pSumO T n fac) := by
  have HT : RdOk T n sh (g4_readTerm rF (nI o)) (pTerm T n fac) := fun M p s h hs hp => term_b hT H ha 240 0 p 5000 s M (by omega) (by omega) (Or.inl rfl) h (by rw [if_pos rfl]; omega) hp
  exact fun M p s h hs hp => sum_b hT HT (pTerm_adv ha) 240 0 p 5000 s M (by omega) (by omega) (Or.inl rfl) h (by rw [if_pos rfl]; omega) hp
theorem take_ok {T : Nat → Nat} {n p s c : Nat} (hT : Txt T n) (hc : c < 256) {M : xMem} (h : COk T n M p s) : (isC T n p c = true ∧ ∃ K, g4_take (nI c) M = some (1, K) ∧ COk T n K (p + 1) s ∧ Off [112, 114] M K) ∨ (¬ isC T n p c = true ∧ ∃ K, g4_take (nI c) M = some (0, K) ∧ K 115 0 = flt 1 p ∧ Off [115] M K) := by
  unfold g4_take
  rw [h.2.1]
  by_cases q : isC T n p c = true
  · refine Or.inl ⟨q, ?_⟩
    rw [if_pos ((sg_is hT hc).mpr q)]
    obtain ⟨K, e, ck, o⟩ := h.go hT (isC_lt q).1
    exact ⟨K, by rw [bs e], ck, o⟩
  · refine Or.inr ⟨q, ?_⟩
    rw [if_neg (fun r => q ((sg_is hT hc).mp r))]
    obtain ⟨K, e, e2, o⟩ := h.fail (k := 1)
    have e' : g4_fail 1 M = some (0, K) := e
    exact ⟨K, by rw [bs e', if_pos (Or.inl rfl)], e2, o⟩
theorem fac_ok {T : Nat → Nat} {n sh : Nat} (hT : Txt T n) : ∀ (d f : Nat), d < f → d ≤ 6 → RdOk T n sh (g4_readFactor_rec f (nI (6 - d))) (pFacD T n d) := by
  -- one factor, by what stands in brackets
  have one : ∀ (d : Nat) (rF : Int32 → xMem → Option (Int32 × xMem)) (br : Option (Nat → RR (Nat × List Ins))), d ≤ 6 → (d = 0 → br = none) → (∀ e, d = e + 1 → br = some (pSumO T n (pFacD T n e)) ∧ RdOk T n sh (g4_readSum rF (nI (6 - e))) (pSumO T n (pFacD T n e))) → RdOk T n sh (g4_readFactor rF (nI (6 - d))) (pFac T n br) := by
    intro d rF br hd h0 h1 M p s h hs hp
    have hn := hT.1
    have H23 : ¬ dig T n p = true → CRes T n sh M s (pFac T n br p) (g4_readFactor_b23 rF (nI (6 - d)) M) := by
      intro nd
      unfold pFac g4_readFactor_b23
      rw [if_neg nd, h.2.1]
      by_cases c : isC T n p 91 = true
      · rw [if_pos (show sgI T n p = 91 from (sg_is hT (c := 91) (by omega)).mpr c), if_pos c]
        cases d with
        | zero =>
          rw [h0 rfl, if_neg (show ¬ nI (6 - 0) < 6 by decide)]
          obtain ⟨K, e, e2, oK⟩ := h.fail (k := 5)
          have e' : g4_fail 5 M = some (0, K) := e
          rw [bs e', if_pos (Or.inl rfl)]
          exact CRes.err rfl rfl e2 (oK.mono (by decide))
        | succ e =>
          obtain ⟨hb, hr⟩ := h1 e rfl
          rw [hb, if_pos (show nI (6 - (e + 1)) < 6 from (nI_ltI (a := 6 - (e + 1)) (b := 6) (by omega) (by omega)).mpr (by omega))]
          obtain ⟨K, g1, ck, o1⟩ := h.go hT (isC_lt c).1
          have e6 : nI (6 - (e + 1)) + 1 = nI (6 - e) := by rw [nI_1, show 6 - (e + 1) + 1 = 6 - e by omega]
          have hlt := (isC_lt c).1
          rw [bs g1, e6]
          dsimp only
          rcases hr K (p + 1) s ck (by omega) (by omega) with ⟨fl, K2, e1, e2, e3, e4⟩ | ⟨q, K2, e1, e2, e3, e4, e5, e6'⟩
          · rw [bs e2, if_pos rfl, e1]
            exact CRes.err rfl rfl e3 ((cb_go o1).tr e4)
          · rw [bs e2, if_neg (show ¬ (1 : Int32) = 0 by decide), e1]
            dsimp only
            rcases take_ok hT (c := 93) (by omega) e3 with ⟨t1, K3, t2, t3, t4⟩ | ⟨t1, K3, t2, t3, t4⟩
            · have t2' : g4_take 93 K2 = some (1, K3) := t2
              rw [bs t2', if_neg (show ¬ (1 : Int32) = 0 by decide), if_pos t1]
              refine Or.inr ⟨_, K3, rfl, rfl, t3, WrL_fr _ _ e4 fun i _ _ => by rw [t4 30 (by decide), t4 31 (by decide)]; exact ⟨rfl, rfl⟩, fun i hi => ?_, ((cb_go o1).tr e6').tr (cb_go t4)⟩
              rw [t4 30 (by decide), t4 31 (by decide)]
              obtain ⟨a, b⟩ := e5 i hi
              rw [a, b, o1 30 (by decide), o1 31 (by decide)]
              exact ⟨rfl, rfl⟩
            · have t2' : g4_take 93 K2 = some (0, K3) := t2
              rw [bs t2', if_pos rfl, if_neg t1]
              exact CRes.err rfl rfl t3 (((cb_go o1).tr e6').tr (t4.mono (by decide)))
      · rw [if_neg (show ¬ sgI T n p = 91 from fun q => c ((sg_is hT (c := 91) (by omega)).mp q)), if_neg c, bs (place11 hT h)]
        by_cases c2 : p < n ∧ letN (T p) < 15
        · have e15 : ansI 15 (letN (T p)) = nI (letN (T p)) := if_pos c2.2
          rw [if_pos c2]
          simp only [if_pos c2.1, e15]
          rw [if_neg (nI_m1 (by omega))]
          obtain ⟨K, g1, ck, o1⟩ := h.go hT c2.1
          rw [bs g1]
          obtain ⟨K2, g2, ck2, r1, r2, o2⟩ := ck.add (o := 2) (v := nI (letN (T p))) (by omega)
          rw [bs g2]
          refine Or.inr ⟨_, K2, rfl, rfl, ck2, add1 r1 r2 rfl rfl, fun i hi => ?_, (cb_go o1).tr (o2.mono (by decide))⟩
          rw [r1, r2, ud_n (by omega), ud_n (by omega), o1 30 (by decide), o1 31 (by decide)]
          exact ⟨rfl, rfl⟩
        · have em : (if p < n then ansI 15 (letN (T p)) else -1) = -1 := by
            by_cases q : p < n
            · rw [if_pos q]
              exact if_neg fun r => c2 ⟨q, r⟩
            · exact if_neg q
          rw [if_neg c2]
          simp only [em]
          rw [if_pos trivial]
          obtain ⟨K, e, e2, oK⟩ := h.fail (k := 1)
          have e' : g4_fail 1 M = some (0, K) := e
          rw [bs e', if_pos (Or.inl rfl)]
          exact CRes.err rfl rfl e2 (oK.mono (by decide))
    unfold g4_readFactor
    by_cases c : dig T n p = true
    · obtain ⟨d1, d2, -, -⟩ := (sg_dig hT).1 c
      rw [h.2.1, if_neg d1, if_neg d2]
      have hb := num_b (sh := sh) hT (s := s) (M := M) 5 p 0 5000 M (by omega) (by omega) h (by have := (dig_lt c).1; omega) Off.rf
      unfold pFac
      rw [if_pos c]
      cases hc : pNum T n 5 p 0 with
      | inl e =>
        rw [hc] at hb
        obtain ⟨K, b1, b2, b3⟩ := hb
        have b1' : g4_readNumber M = some (0, K) := b1
        rw [bs b1', if_pos (Or.inl rfl)]
        exact CRes.err rfl rfl b2 b3
      | inr q =>
        rw [hc] at hb
        obtain ⟨K, b1, b2, b3, b4, b5⟩ := hb
        have b1' : g4_readNumber M = some (1, K) := b1
        rw [bs b1', if_pos (Or.inr rfl)]
        refine Or.inr ⟨(q.1, [(0, q.2)]), K, rfl, rfl, b2, add1 b3 b4 rfl rfl, fun i hi => ?_, b5⟩
        rw [b3, b4, ud_n (by omega), ud_n (by omega)]
        exact ⟨rfl, rfl⟩
    · rw [h.2.1]
      rcases (sg_dig hT).2 c with q | ⟨q1, q2⟩
      · rw [if_pos q]; exact H23 c
      · rw [if_neg q1, if_pos q2]; exact H23 c
  intro d
  induction d with
  | zero =>
    intro f hf hd
    obtain ⟨f, rfl⟩ : ∃ g, f = g + 1 := ⟨f - 1, by omega⟩
    exact one 0 (g4_readFactor_rec f) none (by omega) (fun _ => rfl) (fun e h => absurd h (by omega))
  | succ d ih =>
    intro f hf hd
    obtain ⟨f, rfl⟩ : ∃ g, f = g + 1 := ⟨f - 1, by omega⟩
    refine one (d + 1) (g4_readFactor_rec f) (some (pSumO T n (pFacD T n d))) hd (fun h => absurd h (by omega)) fun e h => ?_
    have : e = d := by omega
    subst this
    exact ⟨rfl, sumO_ok hT (ih f (by omega) (by omega)) (pFacD_adv e)⟩
theorem csum_ok {T : Nat → Nat} {n sh : Nat} (hT : Txt T n) {d : Nat} (hd : d ≤ 6) : RdOk T n sh (g4_readSum (g4_readFactor_rec 20) (nI (6 - d))) (pSum T n d) := sumO_ok hT (fac_ok hT d 20 (by omega) hd) (pFacD_adv d)
