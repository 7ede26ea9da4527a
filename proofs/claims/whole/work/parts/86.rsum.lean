/-! PURE: the reference's sums, against the reading from the left -/
def FS (j f b : Nat) (M : xMem) : Option (Int32 × xMem) := Option.bind (g9_readsFactor_b0 j M) fun q => if q.1 = 0 then some (0, q.2) else g9_readsSum_b14 f (nI b) q.2
/-- up to signs that still wait -/
def PRes (T : Nat → Nat) (n b lo : Nat) (M : xMem) (o c : Nat) (w : List Ins) (S : Nat → Prop) (r : RR (Nat × List Ins)) (g : Option (Int32 × xMem)) : Prop :=
  (∃ e K, r = .inl e ∧ g = some (0, K) ∧ K 167 0 = e ∧ Off RB M K) ∨
  ∃ (q : Nat × List Ins) (f' : Nat) (K : xMem) (O l0 : List Ins), r = .inr q ∧ q.2 = l0 ++ O ∧ arith O lo ∧ g = g9_readsSum_b14 f' (nI b) K ∧ ROk T n K q.1 o (c + l0.length) (O ++ w) ∧ (O ++ w).length ≤ q.1 ∧ RdL (K 174) c l0 ∧ (∀ i, i < c → K 174 i = M 174 i) ∧ Off RB M K ∧ 300 ≤ f' + q.1 ∧ S q.1
theorem PRes.later {T : Nat → Nat} {n b lo : Nat} {M K : xMem} {o c c' : Nat} {w l : List Ins} {S : Nat → Prop} {r : RR (Nat × List Ins)} {g : Option (Int32 × xMem)} (hl : RdL (K 174) c l) (hk : ∀ i, i < c → K 174 i = M 174 i) (oo : Off RB M K) (hc : c' = c + l.length) (h : PRes T n b lo K o c' w S r g) : PRes T n b lo M o c w S (preL l r) g := by
  subst hc
  rcases h with ⟨e, K', h1, h2, h3, h4⟩ | ⟨q, f', K', O, l0, h1, h2, h3, h4, h5, h6, h7, h8, h9, h10, h11⟩
  · subst h1
    exact Or.inl ⟨e, K', rfl, h2, h3, oo.tr h4⟩
  · subst h1
    refine Or.inr ⟨(q.1, l ++ q.2), f', K', O, l ++ l0, rfl, by dsimp only; rw [h2, List.append_assoc], h3, h4, ?_, h6, (RdL_app _ _ _).mpr ⟨RdL_fr _ _ hl fun i _ hi => h8 i hi, h7⟩, fun i hi => by rw [h8 i (by omega), hk i hi], oo.tr h9, h10, h11⟩
    rw [List.length_append, ← Nat.add_assoc]
    exact h5
def HFac (T : Nat → Nat) (n b o : Nat) (fac : Nat → RR (Nat × List Ins)) : Prop := ∀ (p c : Nat) (w : List Ins) (j f : Nat) (M : xMem), ROk T n M p o c w → c ≤ p → w.length ≤ p → p ≤ n → b ≤ w.length → 300 ≤ j + p → 300 ≤ f + p →
  (∃ e K, fac p = .inl e ∧ FS j f b M = some (0, K) ∧ K 167 0 = e ∧ Off RB M K) ∨
  ∃ q f' K, fac p = .inr q ∧ FS j f b M = g9_readsSum_b14 f' (nI b) K ∧ ROk T n K q.1 o (c + q.2.length) w ∧ RdL (K 174) c q.2 ∧ (∀ i, i < c → K 174 i = M 174 i) ∧ Off RB M K ∧ 300 ≤ f' + q.1
def clean (w : List Ins) (lo : Nat) : Prop := ∀ i w', w = i :: w' → ¬ (lo ≤ i.1 ∧ i.1 ≤ 6)
def opL (op : Nat) : List Ins := if op = 0 then [] else [(op, 0)]
theorem opL_len {op : Nat} : (opL op).length = if op = 0 then 0 else 1 := by
  unfold opL
  split <;> rfl
theorem opL_app {op : Nat} {l : List Ins} : (if op = 0 then l else l ++ [(op, 0)]) = l ++ opL op := by
  unfold opL
  split
  · rw [List.append_nil]
  · rfl
/-- a sign: what waits is noted, the sign waits, a factor comes -/
theorem sign_step {T : Nat → Nat} {n b o p c f s : Nat} (hT : Txt T n) {all : Bool} {O w : List Ins} {M : xMem} (h : ROk T n M p o c (O ++ w)) (hp : p < n) (hs : s ≠ 0 ∧ 2 ≤ s ∧ s ≤ 6) (hall : all = decide (s < 4)) (hsg : (if addN T n p ≠ 0 then nI (addN T n p) else if mulN T n p ≠ 0 then nI (mulN T n p) else -1) = nI s) (ha : arith O (if all = true then 2 else 4)) (hw : clean w (if all = true then 2 else 4)) (hl : (O ++ w).length ≤ p) (hc : c + O.length ≤ p) :
    ∃ K, g9_readsSum_b14 (f + 1) (nI b) M = FS 5000 f b K ∧ ROk T n K (p + 1) o (c + O.length) ((s, 0) :: w) ∧ RdL (K 174) c O ∧ (∀ i, i < c → K 174 i = M 174 i) ∧ Off RB M K := by
  have hn := hT.1
  have he := here_eq hT h (by omega)
  have hs' := sumSign_eq (p := p) hT (M := M)
  rw [hsg] at hs'
  obtain ⟨K1, e1, k1, k2, k3, k4⟩ := closes_b (all := all) O w c 5000 M (by omega) ha (by omega) (by omega) h hw
  have e1' : g9_closesSums (if all = true then 1 else 0) M = some K1 := e1
  have wl : w.length ≤ 250 := by simp at hl; omega
  have pu := k1.push (i := (s, 0)) (v := (1048576 : Int32) * nI s) ⟨by dsimp only; omega, show (0:Nat) < 1048576 by decide⟩ (by
    unfold pk U
    rw [show (1048576 : Int32) = nI 1048576 from rfl, pk_mul]; rfl)
  have o2 : Off [175, 170] K1 (upM (upM K1 175 w.length ((1048576 : Int32) * nI s)) 170 0 (K1 170 0 + 1)) := (Off.up (by decide)).up' (by decide)
  have h170 : K1 170 0 = nI w.length := k1.2.2.2.2.1
  refine ⟨upM (upM (upM K1 175 w.length ((1048576 : Int32) * nI s)) 170 0 (K1 170 0 + 1)) 165 0 ((upM (upM K1 175 w.length ((1048576 : Int32) * nI s)) 170 0 (K1 170 0 + 1)) 165 0 + 1), ?_, pu.step, ?_, fun i hi => ?_, ?_⟩
  · have b38 : ∀ a : Int32, a = (if all = true then 1 else 0) → g9_readsSum_b38 (g9_readsSum_b14 f) (nI b) (nI s) a M = FS 5000 f b (upM (upM (upM K1 175 w.length ((1048576 : Int32) * nI s)) 170 0 (K1 170 0 + 1)) 165 0 ((upM (upM K1 175 w.length ((1048576 : Int32) * nI s)) 170 0 (K1 170 0 + 1)) 165 0 + 1)) := by
      intro a ha
      subst ha
      unfold g9_readsSum_b38 g9_readsSum_b163
      rw [bs e1', h170]
      simp (disch := omega) only [↓reduceIte, i_lt0, i_cl, nle_f, or_self, mset_eq]
      rw [up_b (show (170 : Nat) ≠ 175 by decide), h170]
      rfl
    rw [g9_readsSum_b14, bs he]
    dsimp only
    rw [bs hs']
    dsimp only
    rw [if_neg (nI_m1 (by omega))]
    cases all
    · have : ¬ s < 4 := of_decide_eq_false hall.symm
      rw [if_pos (show (4 : Int32) ≤ nI s from (nI_leI (a := 4) (by omega) (by omega)).mpr (by omega))]
      exact b38 0 (by rw [if_neg (by decide)])
    · have : s < 4 := of_decide_eq_true hall.symm
      rw [if_neg (show ¬ (4 : Int32) ≤ nI s from fun q => by have := (nI_leI (a := 4) (by omega) (by omega)).mp q; omega)]
      exact b38 1 (by rw [if_pos rfl])
  · rw [up_b (by decide), o2 174 (by decide)]; exact k2
  · rw [up_b (by decide), o2 174 (by decide)]; exact k3 i hi
  · exact ((k4.mono (by decide)).tr (o2.mono (by decide))).up' (by decide)
theorem rterm_b {T : Nat → Nat} {n b o : Nat} (hT : Txt T n) {fac : Nat → RR (Nat × List Ins)} (H : HFac T n b o fac) (hadv : ∀ p, Adv n p (fac p)) : ∀ (k op p c : Nat) (w : List Ins) (j f : Nat) (M : xMem), 480 ≤ p + 2 * k → (op = 0 ∨ (4 ≤ op ∧ op ≤ 6)) → ROk T n M p o c (opL op ++ w) → clean w 4 → c + (opL op).length ≤ p → (opL op ++ w).length ≤ p → p ≤ n → b ≤ w.length → 300 ≤ j + p → 300 ≤ f + p →
    PRes T n b 4 M o c w (fun p => mulN T n p = 0) (pRun T n (mulN T n) fac k op p) (FS j f b M)
  | 0, op, p, c, w, j, f, M, hk, ho, h, hw, hc, hl, hp, hb, hj, hf => absurd hp (by have := hT.1; omega)
  | k + 1, op, p, c, w, j, f, M, hk, ho, h, hw, hc, hl, hp, hb, hj, hf => by
    have hn := hT.1
    have hA := hadv p
    unfold pRun
    have hlo := opL_len (op := op)
    have hll : (opL op ++ w).length = (opL op).length + w.length := List.length_append
    rcases H p c (opL op ++ w) j f M h (by omega) hl hp (by omega) hj hf with ⟨e, K, e1, e2, e3, e4⟩ | ⟨q, f1, K, e1, e2, e3, e4, e5, e6, e7⟩
    · rw [e1]
      exact Or.inl ⟨e, K, rfl, e2, e3, e4⟩
    rw [e1] at hA ⊢
    obtain ⟨a1, a2, a3, a4⟩ := hA
    dsimp only
    rw [opL_app]
    by_cases c1 : mulN T n q.1 = 0
    · rw [if_pos c1]
      refine Or.inr ⟨_, f1, K, opL op, q.2, rfl, rfl, ?_, e2, e3, by omega, e4, e5, e6, e7, c1⟩
      intro x hx
      unfold opL at hx
      by_cases c0 : op = 0
      · rw [if_pos c0] at hx; cases hx
      · rw [if_neg c0] at hx
        have := ho.resolve_left c0
        simp at hx
        rw [hx]
        exact ⟨this.1, this.2, rfl⟩
    · rw [if_neg c1]
      have hq := mulN_lt c1
      have hm : mulN T n q.1 = 4 ∨ mulN T n q.1 = 5 ∨ mulN T n q.1 = 6 := by
        rcases mulN_cases (p := q.1) hT with ⟨m, _⟩ | ⟨m, _⟩ | ⟨m, _⟩ | ⟨m, _⟩
        · exact Or.inl m
        · exact Or.inr (Or.inl m)
        · exact Or.inr (Or.inr m)
        · exact absurd m c1
      have had : addN T n q.1 = 0 := by
        rcases addN_cases (p := q.1) hT with ⟨_, m2⟩ | ⟨_, _, m3⟩ | ⟨m1, _⟩
        · exfalso
          rcases mulN_cases (p := q.1) hT with ⟨_, k2⟩ | ⟨_, _, k3⟩ | ⟨_, _, _, k4⟩ | ⟨k1, _⟩
          · rw [m2] at k2; exact absurd k2 (by decide)
          · rw [m2] at k3; exact absurd k3 (by decide)
          · rw [m2] at k4; exact absurd k4 (by decide)
          · exact c1 k1
        · exfalso
          rcases mulN_cases (p := q.1) hT with ⟨_, k2⟩ | ⟨_, _, k3⟩ | ⟨_, _, _, k4⟩ | ⟨k1, _⟩
          · rw [m3] at k2; exact absurd k2 (by decide)
          · rw [m3] at k3; exact absurd k3 (by decide)
          · rw [m3] at k4; exact absurd k4 (by decide)
          · exact c1 k1
        · exact m1
      obtain ⟨f2, rfl⟩ : ∃ f2, f1 = f2 + 1 := ⟨f1 - 1, by omega⟩
      obtain ⟨K2, g1, r1, r2, r3, r4⟩ := sign_step (b := b) (f := f2) (s := mulN T n q.1) (all := false) hT e3 hq ⟨c1, by omega, by omega⟩ (by rw [decide_eq_false (by omega)]) (by rw [if_neg (fun x => x had), if_pos c1]) (by
        intro x hx
        rw [if_neg (by decide)]
        unfold opL at hx
        by_cases c0 : op = 0
        · rw [if_pos c0] at hx; cases hx
        · rw [if_neg c0] at hx
          have := ho.resolve_left c0
          simp at hx
          rw [hx]
          exact ⟨this.1, this.2, rfl⟩) (by rw [if_neg (by decide)]; exact hw) (by omega) (by omega)
      have eo : opL (mulN T n q.1) = [(mulN T n q.1, 0)] := if_neg c1
      have ih := rterm_b hT H hadv k (mulN T n q.1) (q.1 + 1) (c + q.2.length + (opL op).length) w 5000 f2 K2 (by omega) (Or.inr ⟨by omega, by omega⟩) (by rw [eo]; exact r1) hw (by rw [eo]; show _ + 1 ≤ _; omega) (by rw [eo]; show w.length + 1 ≤ _; omega) (by omega) hb (by omega) (by omega)
      rw [e2, g1]
      exact PRes.later (l := q.2 ++ opL op) ((RdL_app _ _ _).mpr ⟨RdL_fr _ _ e4 fun i _ hi => r3 i hi, r2⟩) (fun i hi => by rw [r3 i (by omega), e5 i hi]) (e6.tr r4) (by rw [List.length_append, Nat.add_assoc]) ih
theorem rsum_b {T : Nat → Nat} {n b o : Nat} (hT : Txt T n) {fac : Nat → RR (Nat × List Ins)} (H : HFac T n b o fac) (hadv : ∀ p, Adv n p (fac p)) : ∀ (k op p c : Nat) (w : List Ins) (j f : Nat) (M : xMem), 480 ≤ p + 2 * k → (op = 0 ∨ (2 ≤ op ∧ op ≤ 3)) → ROk T n M p o c (opL op ++ w) → clean w 2 → c + (opL op).length ≤ p → (opL op ++ w).length ≤ p → p ≤ n → b ≤ w.length → 300 ≤ j + p → 300 ≤ f + p →
    PRes T n b 2 M o c w (fun p => mulN T n p = 0 ∧ addN T n p = 0) (pRun T n (addN T n) (pTerm T n fac) k op p) (FS j f b M)
  | 0, op, p, c, w, j, f, M, hk, ho, h, hw, hc, hl, hp, hb, hj, hf => absurd hp (by have := hT.1; omega)
  | k + 1, op, p, c, w, j, f, M, hk, ho, h, hw, hc, hl, hp, hb, hj, hf => by
    have hn := hT.1
    have hA := pTerm_adv (T := T) hadv p
    unfold pRun
    have hlo := opL_len (op := op)
    have hll : (opL op ++ w).length = (opL op).length + w.length := List.length_append
    have cl4 : clean (opL op ++ w) 4 := by
      intro i w' e
      unfold opL at e
      by_cases c0 : op = 0
      · rw [if_pos c0] at e
        have := hw i w' e
        omega
      · rw [if_neg c0] at e
        injection e with e _
        rw [← e]
        have := ho.resolve_left c0
        dsimp only
        omega
    have ht := rterm_b hT H hadv 240 0 p c (opL op ++ w) j f M (by omega) (Or.inl rfl) h cl4 (by show c + 0 ≤ p; omega) hl hp (by omega) hj hf
    have ht' : PRes T n b 4 M o c (opL op ++ w) (fun p => mulN T n p = 0) (pTerm T n fac p) (FS j f b M) := ht
    rcases ht' with ⟨e, K, e1, e2, e3, e4⟩ | ⟨q, f1, K, O, l0, e1, el, ea, e2, e3, elen, e4, e5, e6, e7, em⟩
    · rw [e1]
      exact Or.inl ⟨e, K, rfl, e2, e3, e4⟩
    rw [e1] at hA ⊢
    obtain ⟨a1, a2, a3, a4⟩ := hA
    dsimp only
    rw [opL_app]
    have arO : arith (O ++ opL op) 2 := by
      intro x hx
      rcases List.mem_append.mp hx with hx | hx
      · obtain ⟨x1, x2, x3⟩ := ea x hx
        exact ⟨by omega, x2, x3⟩
      · unfold opL at hx
        by_cases c0 : op = 0
        · rw [if_pos c0] at hx; cases hx
        · rw [if_neg c0] at hx
          have := ho.resolve_left c0
          simp at hx
          rw [hx]
          exact ⟨this.1, by dsimp only; omega, rfl⟩
    have e3' : ROk T n K q.1 o (c + l0.length) ((O ++ opL op) ++ w) := by rw [List.append_assoc]; exact e3
    have elen' : ((O ++ opL op) ++ w).length ≤ q.1 := by rw [List.append_assoc]; exact elen
    have hq2 : q.2.length = l0.length + O.length := by rw [el, List.length_append]
    by_cases c1 : addN T n q.1 = 0
    · rw [if_pos c1]
      exact Or.inr ⟨_, f1, K, O ++ opL op, l0, rfl, by dsimp only; rw [el, List.append_assoc], arO, e2, e3', elen', e4, e5, e6, e7, em, c1⟩
    · rw [if_neg c1]
      have hq := addN_lt c1
      have hm : addN T n q.1 = 2 ∨ addN T n q.1 = 3 := by
        rcases addN_cases (p := q.1) hT with ⟨m, _⟩ | ⟨m, _⟩ | ⟨m, _⟩
        · exact Or.inl m
        · exact Or.inr m
        · exact absurd m c1
      obtain ⟨f2, rfl⟩ : ∃ f2, f1 = f2 + 1 := ⟨f1 - 1, by omega⟩
      have hal : (O ++ opL op).length = O.length + (opL op).length := List.length_append
      obtain ⟨K2, g1, r1, r2, r3, r4⟩ := sign_step (b := b) (f := f2) (s := addN T n q.1) (all := true) hT e3' hq ⟨c1, by omega, by omega⟩ (by rw [decide_eq_true (by omega)]) (by rw [if_pos c1]) (by rw [if_pos rfl]; exact arO) (by rw [if_pos rfl]; exact hw) elen' (by omega)
      have eo : opL (addN T n q.1) = [(addN T n q.1, 0)] := if_neg c1
      have wl : ((O ++ opL op) ++ w).length = (O ++ opL op).length + w.length := List.length_append
      have ih := rsum_b hT H hadv k (addN T n q.1) (q.1 + 1) (c + l0.length + (O ++ opL op).length) w 5000 f2 K2 (by omega) (Or.inr ⟨by omega, by omega⟩) (by rw [eo]; exact r1) hw (by rw [eo]; show _ + 1 ≤ _; omega) (by rw [eo]; show w.length + 1 ≤ _; omega) (by omega) hb (by omega) (by omega)
      rw [e2, g1]
      have := PRes.later (l := l0 ++ (O ++ opL op)) ((RdL_app _ _ _).mpr ⟨RdL_fr _ _ e4 fun i _ hi => r3 i hi, r2⟩) (fun i hi => by rw [r3 i (by omega), e5 i hi]) (e6.tr r4) (by rw [List.length_append (as := l0), Nat.add_assoc]) ih
      rw [el, List.append_assoc]
      exact this
/-- the end of what a sum could go on with -/
theorem no_sign {T : Nat → Nat} {n p : Nat} (hT : Txt T n) (h : mulN T n p = 0 ∧ addN T n p = 0) {M : xMem} : g9_sumSign (sgI T n p) M = some (-1, M) := by
  rw [sumSign_eq hT, if_neg (fun x => x h.2), if_neg (fun x => x h.1)]
theorem sum_of_fac {T : Nat → Nat} {n b o : Nat} (hT : Txt T n) {fac : Nat → RR (Nat × List Ins)} (H : HFac T n b o fac) (hadv : ∀ p, Adv n p (fac p)) {p c : Nat} {w : List Ins} {j f : Nat} {M : xMem} (h : ROk T n M p o c w) (hw : clean w 2) (hc : c ≤ p) (hl : w.length ≤ p) (hp : p ≤ n) (hb : b ≤ w.length) (hj : 300 ≤ j + p) (hf : 300 ≤ f + p) : PRes T n b 2 M o c w (fun p => mulN T n p = 0 ∧ addN T n p = 0) (pSumO T n fac p) (FS j f b M) :=
  rsum_b hT H hadv 240 0 p c w j f M (by omega) (Or.inl rfl) h hw hc hl hp hb hj hf
theorem pNum_small {T : Nat → Nat} {n : Nat} : ∀ (k p x : Nat), (match pNum T n k p x with
    | .inl _ => True
    | .inr q => q.2 < (x + 1) * 10 ^ k)
  | 0, p, x => by
    unfold pNum
    by_cases c : dig T n p = true
    · rw [if_pos c]; trivial
    · rw [if_neg c]; show x < (x + 1) * 1; omega
  | k + 1, p, x => by
    unfold pNum
    by_cases c : dig T n p = true
    · rw [if_pos c]
      have ih := pNum_small (T := T) (n := n) k (p + 1) (10 * x + (T p - 48))
      have hd := dig_lt c
      cases h' : pNum T n k (p + 1) (10 * x + (T p - 48)) with
      | inl f => trivial
      | inr q =>
        rw [h'] at ih
        have ih' : q.2 < (10 * x + (T p - 48) + 1) * 10 ^ k := ih
        show q.2 < (x + 1) * 10 ^ (k + 1)
        have h1 : 10 * x + (T p - 48) + 1 ≤ (x + 1) * 10 := by omega
        have h2 := Nat.mul_le_mul_right (10 ^ k) h1
        rw [Nat.pow_succ, Nat.mul_comm (10 ^ k) 10, ← Nat.mul_assoc]
        omega
    · rw [if_neg c]
      show x < (x + 1) * 10 ^ (k + 1)
      have : 1 ≤ 10 ^ (k + 1) := Nat.one_le_pow _ _ (by omega)
      have := Nat.mul_le_mul_left (x + 1) this
      omega
theorem rfac_b {T : Nat → Nat} {n b : Nat} (hT : Txt T n) : ∀ d o, o + d = 6 → HFac T n b o (pFacD T n d) := by
  have one : ∀ (d o : Nat) (br : Option (Nat → RR (Nat × List Ins))), o + d = 6 → (d = 0 → br = none) → (∀ e, d = e + 1 → br = some (pSumO T n (pFacD T n e)) ∧ HFac T n b (o + 1) (pFacD T n e)) → HFac T n b o (pFac T n br) := by
    intro d o br hod h0 h1 p c w j f M h hc hl hp hb hj hf
    have hn := hT.1
    have he := here_eq hT h hp
    obtain ⟨j, rfl⟩ : ∃ j', j = j' + 1 := ⟨j - 1, by omega⟩
    unfold FS pFac
    by_cases c1 : dig T n p = true
    · have hlt := (dig_lt c1).1
      have n91 : ¬ sgI T n p = 91 := by
        obtain ⟨-, d2, -, -⟩ := (sg_dig hT).1 c1
        exact fun q => d2 (by rw [q]; decide)
      rw [if_pos c1, g9_readsFactor_b0, bs he]
      dsimp only
      rw [if_neg n91, bs (isDigit_eq hT h hp), b2i_t c1, if_neg (show ¬ (1 : Int32) = 0 by decide)]
      have o0 : Off [172] M (upM M 172 0 0) := Off.up (by decide)
      have hN := rnum_b hT (q0 := p) hp (M := M) 5 p 0 5000 (upM M 172 0 0) (by omega) (by omega) hp (h.fr o0 (by decide)) up_s (o0.mono (by decide))
      have hS := pNum_small (T := T) (n := n) 5 p 0
      cases hc1 : pNum T n 5 p 0 with
      | inl e =>
        rw [hc1] at hN
        obtain ⟨K, b1, b2, b3⟩ := hN
        have b1' : g9_readsNumber M = some (0, K) := by unfold g9_readsNumber; rw [mset_eq, h.1]; exact b1
        refine Or.inl ⟨e, K, rfl, ?_, b2, b3⟩
        show Option.bind (Option.bind (g9_readsNumber M) _) _ = _
        rw [bs b1', if_pos rfl]; rfl
      | inr q =>
        rw [hc1] at hN hS
        have hS' : q.2 < (0 + 1) * 10 ^ 5 := hS
        obtain ⟨K, b1, b2, b3, b4⟩ := hN
        have b1' : g9_readsNumber M = some (1, K) := by unfold g9_readsNumber; rw [mset_eq, h.1]; exact b1
        obtain ⟨K2, n1, n2, n3, n4⟩ := notes_eq b2 (show c < 260 by omega) (0, q.2) (a := 0) (b := K 172 0) rfl b3
        have hq1 := pNum_adv (T := T) (n := n) 5 p 0 hp
        rw [hc1] at hq1
        refine Or.inr ⟨(q.1, [(0, q.2)]), f, K2, rfl, ?_, n2, ⟨by rw [n3, ud_s], trivial⟩, fun i hi => by rw [n3, ud_n (by omega), b4 174 (by decide)], (b4.mono (by decide)).tr (n4.mono (by decide)), by have : p ≤ q.1 := hq1.1; dsimp only; omega⟩
        show Option.bind (Option.bind (g9_readsNumber M) _) _ = _
        rw [bs b1', if_neg (show ¬ (1 : Int32) = 0 by decide)]
        show Option.bind (Option.bind (g9_notes 0 (K 172 0) K) _) _ = _
        rw [bs n1]
        rfl
    rw [if_neg c1]
    by_cases c2 : isC T n p 91 = true
    · have q91 : sgI T n p = 91 := (sg_is hT (c := 91) (by omega)).mpr c2
      have hlt := (isC_lt c2).1
      rw [if_pos c2, g9_readsFactor_b0, bs he]
      dsimp only
      rw [if_pos q91]
      unfold g9_opens
      rw [h.2.2.1]
      cases d with
      | zero =>
        have : o = 6 := by omega
        subst this
        rw [h0 rfl, if_pos (show nI 6 = 6 from rfl)]
        obtain ⟨K, e, e2, o2⟩ := h.wrong (k := 5) (a := 5) rfl
        refine Or.inl ⟨_, K, rfl, ?_, e2, o2⟩
        rw [bs e, if_pos (Or.inl rfl)]
        rfl
      | succ e =>
        obtain ⟨hbr, hfe⟩ := h1 e rfl
        rw [hbr, if_neg (show ¬ nI o = 6 from fun r => by have := (nI_eq (b := 6) (by omega) (by omega)).mp r; omega)]
        dsimp only
        -- the bracket waits
        have p1 := h.opn (o' := o + 1) (v := nI o + 1) (nI_1 o)
        have h170 : (upM M 168 0 (nI o + 1)) 170 0 = nI w.length := p1.2.2.2.2.1
        have p2 := p1.push (i := (14, 0)) (v := (1048576 : Int32) * 14) ⟨by decide, by decide⟩ (by unfold pk U; decide)
        have p3 := p2.step
        have hm : (mset (upM M 168 0 (nI o + 1)) fun M2 => if M2 170 0 < 0 ∨ 260 ≤ (M2 170 0).toNatClampNeg then none else mset (upM M2 175 (M2 170 0).toNatClampNeg ((1048576 : Int32) * 14)) fun M4 => mset (upM M4 170 0 (M4 170 0 + 1)) fun M5 => mset (upM M5 165 0 (M5 165 0 + 1)) fun M6 => (some ((1 : Int32), M6) : Option (Int32 × xMem))) = some (1, upM (upM (upM (upM M 168 0 (nI o + 1)) 175 w.length ((1048576 : Int32) * 14)) 170 0 ((upM M 168 0 (nI o + 1)) 170 0 + 1)) 165 0 ((upM (upM (upM M 168 0 (nI o + 1)) 175 w.length ((1048576 : Int32) * 14)) 170 0 ((upM M 168 0 (nI o + 1)) 170 0 + 1)) 165 0 + 1)) := by
          rw [mset_eq, h170]
          simp (disch := omega) only [↓reduceIte, i_lt0, i_cl, nle_f, or_self, mset_eq]
          rw [up_b (show (170 : Nat) ≠ 175 by decide), h170]
        have oc : Off RB M (upM (upM (upM (upM M 168 0 (nI o + 1)) 175 w.length ((1048576 : Int32) * 14)) 170 0 ((upM M 168 0 (nI o + 1)) 170 0 + 1)) 165 0 ((upM (upM (upM M 168 0 (nI o + 1)) 175 w.length ((1048576 : Int32) * 14)) 170 0 ((upM M 168 0 (nI o + 1)) 170 0 + 1)) 165 0 + 1)) := (((Off.up (by decide)).up' (by decide)).up' (by decide)).up' (by decide)
        have o174 : (upM (upM (upM (upM M 168 0 (nI o + 1)) 175 w.length ((1048576 : Int32) * 14)) 170 0 ((upM M 168 0 (nI o + 1)) 170 0 + 1)) 165 0 ((upM (upM (upM M 168 0 (nI o + 1)) 175 w.length ((1048576 : Int32) * 14)) 170 0 ((upM M 168 0 (nI o + 1)) 170 0 + 1)) 165 0 + 1)) 174 = M 174 := by rw [up_b (by decide), up_b (by decide), up_b (by decide), up_b (by decide)]
        have hg : (Option.bind (Option.bind (mset (upM M 168 0 (nI o + 1)) fun M2 => if M2 170 0 < 0 ∨ 260 ≤ (M2 170 0).toNatClampNeg then none else mset (upM M2 175 (M2 170 0).toNatClampNeg ((1048576 : Int32) * 14)) fun M4 => mset (upM M4 170 0 (M4 170 0 + 1)) fun M5 => mset (upM M5 165 0 (M5 165 0 + 1)) fun M6 => (some ((1 : Int32), M6) : Option (Int32 × xMem))) fun q23 => if q23.1 = 0 then some (0, q23.2) else g9_readsFactor_b0 j q23.2) fun q => if q.1 = 0 then some (0, q.2) else g9_readsSum_b14 f (nI b) q.2) = FS j f b (upM (upM (upM (upM M 168 0 (nI o + 1)) 175 w.length ((1048576 : Int32) * 14)) 170 0 ((upM M 168 0 (nI o + 1)) 170 0 + 1)) 165 0 ((upM (upM (upM M 168 0 (nI o + 1)) 175 w.length ((1048576 : Int32) * 14)) 170 0 ((upM M 168 0 (nI o + 1)) 170 0 + 1)) 165 0 + 1)) := by
          rw [hm]
          rfl
        rw [hg]
        generalize upM (upM (upM (upM M 168 0 (nI o + 1)) 175 w.length ((1048576 : Int32) * 14)) 170 0 ((upM M 168 0 (nI o + 1)) 170 0 + 1)) 165 0 ((upM (upM (upM M 168 0 (nI o + 1)) 175 w.length ((1048576 : Int32) * 14)) 170 0 ((upM M 168 0 (nI o + 1)) 170 0 + 1)) 165 0 + 1) = M1 at p3 oc o174
        have hs := sum_of_fac (j := j) (f := f) hT hfe (pFacD_adv e) p3 (fun i w' e => by injection e with e _; rw [← e]; decide) (by omega) (by show w.length + 1 ≤ _; omega) (by omega) (by show b ≤ w.length + 1; omega) (by omega) (by omega)
        rcases hs with ⟨e', K, e1, e2, e3, e4⟩ | ⟨q, f1, K, O, l0, e1, el, ea, e2, e3, elen, e4, e5, e6, e7, em⟩
        · rw [e1]
          exact Or.inl ⟨e', K, rfl, e2, e3, oc.tr e4⟩
        rw [e1]
        dsimp only
        have hA := pSumO_adv (T := T) (pFacD_adv (T := T) (n := n) e) (p + 1)
        rw [e1] at hA
        obtain ⟨a1, a2, a3, a4⟩ := hA
        have hq2 : q.2.length = l0.length + O.length := by rw [el, List.length_append]
        obtain ⟨f2, rfl⟩ : ∃ f2, f1 = f2 + 1 := ⟨f1 - 1, by omega⟩
        have he2 := here_eq hT e3 a3
        have wl : (O ++ (14, 0) :: w).length = O.length + (w.length + 1) := by rw [List.length_append]; rfl
        have hopen : g9_hasOpenSum (nI b) K = some (1, K) := hasOpen_1 e3 (by omega) (j := w.length) (by omega) (opAt_mid O (14, 0) w) (w.length - b) b 5000 (by omega) (by omega)
        by_cases c3 : isC T n q.1 93 = true
        · have q93 : sgI T n q.1 = 93 := (sg_is hT (c := 93) (by omega)).mpr c3
          obtain ⟨K2, g1, r1, r2, r3, r4⟩ := closes_b (all := true) O ((14, 0) :: w) (c + l0.length) 5000 K (by omega) (by rw [if_pos rfl]; exact ea) (by omega) (by omega) e3 (fun i w' e => by rw [if_pos rfl]; injection e with e _; rw [← e]; decide)
          have g1' : g9_closesSums 1 K = some K2 := g1
          have s1 := r1.pop
          have s2 := s1.opn (o' := o) (v := (upM K2 170 0 (K2 170 0 - 1)) 168 0 - 1) (by rw [s1.2.2.1]; exact nI_pred o)
          have s3 := s2.step
          have hlt3 := (isC_lt c3).1
          refine Or.inr ⟨(q.1 + 1, q.2), f2, upM (upM (upM K2 170 0 (K2 170 0 - 1)) 168 0 ((upM K2 170 0 (K2 170 0 - 1)) 168 0 - 1)) 165 0 ((upM (upM K2 170 0 (K2 170 0 - 1)) 168 0 ((upM K2 170 0 (K2 170 0 - 1)) 168 0 - 1)) 165 0 + 1), by rw [if_pos c3], ?_, ?_, ?_, fun i hi => ?_, ?_, by dsimp only; omega⟩
          · rw [e2, g9_readsSum_b14, bs he2]
            dsimp only
            rw [bs (no_sign hT em)]
            dsimp only
            rw [if_pos rfl, bs he2]
            dsimp only
            rw [if_pos q93, bs hopen, if_neg (show ¬ (1 : Int32) = 0 by decide)]
            dsimp only
            rw [bs g1', mset_eq, mset_eq, mset_eq]
            rfl
          · dsimp only
            rw [hq2, ← Nat.add_assoc]
            exact s3
          · rw [up_b (by decide), up_b (by decide), up_b (by decide)]
            dsimp only
            rw [el]
            exact (RdL_app _ _ _).mpr ⟨RdL_fr _ _ e4 fun i _ hi => r3 i hi, r2⟩
          · rw [up_b (by decide), up_b (by decide), up_b (by decide), r3 i (by omega), e5 i hi, o174]
          · exact ((((oc.tr e6).tr (r4.mono (by decide))).up' (by decide)).up' (by decide)).up' (by decide)
        · have q93 : ¬ sgI T n q.1 = 93 := fun r => c3 ((sg_is hT (c := 93) (by omega)).mp r)
          obtain ⟨K2, g1, g2, g3⟩ := e3.wrong (k := 1) (a := 1) rfl
          refine Or.inl ⟨_, K2, by rw [if_neg c3], ?_, g2, (oc.tr e6).tr g3⟩
          rw [e2, g9_readsSum_b14, bs he2]
          dsimp only
          rw [bs (no_sign hT em)]
          dsimp only
          rw [if_pos rfl, bs he2]
          dsimp only
          rw [if_neg q93]
          unfold g9_readsSum_b138
          rw [bs hopen, if_neg (show ¬ (1 : Int32) = 0 by decide)]
          dsimp only
          rw [bs g1, if_pos (Or.inl rfl)]
    · have q91 : ¬ sgI T n p = 91 := fun r => c2 ((sg_is hT (c := 91) (by omega)).mp r)
      rw [if_neg c2, g9_readsFactor_b0, bs he]
      dsimp only
      rw [if_neg q91, bs (isDigit_eq hT h hp), b2i_f c1, if_pos rfl]
      show (∃ e K, _ ∧ Option.bind (Option.bind (g9_here M) _) _ = _ ∧ _) ∨ _
      rw [bs he]
      show (∃ e K, _ ∧ Option.bind (Option.bind (g9_factOf (sgI T n p) M) _) _ = _ ∧ _) ∨ _
      rw [bs (factSg hT)]
      by_cases c3 : p < n ∧ letN (T p) < 15
      · have e15 : (if p < n then ansI 15 (letN (T p)) else -1) = nI (letN (T p)) := by rw [if_pos c3.1]; exact if_pos c3.2
        rw [if_pos c3, e15]
        dsimp only
        rw [if_neg (nI_m1 (by omega))]
        obtain ⟨K, n1, n2, n3, n4⟩ := notes_eq h (show c < 260 by omega) (1, letN (T p)) (a := 1) (b := nI (letN (T p))) rfl rfl
        have s3 := n2.step
        refine Or.inr ⟨(p + 1, [(1, letN (T p))]), f, upM K 165 0 (K 165 0 + 1), rfl, ?_, s3, ⟨by rw [up_b (by decide), n3, ud_s], trivial⟩, fun i hi => by rw [up_b (by decide), n3, ud_n (by omega)], (n4.mono (by decide)).up' (by decide), by dsimp only; omega⟩
        rw [bs n1, mset_eq]
        rfl
      · have em : (if p < n then ansI 15 (letN (T p)) else -1) = -1 := by
          by_cases q : p < n
          · rw [if_pos q]
            exact if_neg fun r => c3 ⟨q, r⟩
          · exact if_neg q
        rw [if_neg c3, em]
        dsimp only
        rw [if_pos rfl]
        obtain ⟨K, e, e2, o2⟩ := h.wrong (k := 1) (a := 1) rfl
        refine Or.inl ⟨_, K, rfl, ?_, e2, o2⟩
        rw [bs e, if_pos (Or.inl rfl)]
        rfl
  intro d
  induction d with
  | zero =>
    intro o ho
    exact one 0 o none ho (fun _ => rfl) (fun e h => absurd h (by omega))
  | succ d ih =>
    intro o ho
    refine one (d + 1) o (some (pSumO T n (pFacD T n d))) ho (fun h => absurd h (by omega)) fun e h => ?_
    have : e = d := by omega
    subst this
    exact ⟨rfl, ih (o + 1) (by omega)⟩
/-- a whole sum -/
theorem rsum_ok {T : Nat → Nat} {n o d : Nat} (hT : Txt T n) (hod : o + d = 6) {p c : Nat} {w : List Ins} {M : xMem} (h : ROk T n M p o c w) (hw : clean w 2) (hc : c ≤ p) (hl : w.length ≤ p) (hp : p ≤ n) :
    (∃ e K, pSum T n d p = .inl e ∧ g9_readsSum M = some (0, K) ∧ K 167 0 = e ∧ Off RB M K) ∨
    ∃ q K, pSum T n d p = .inr q ∧ g9_readsSum M = some (1, K) ∧ ROk T n K q.1 o (c + q.2.length) w ∧ RdL (K 174) c q.2 ∧ (∀ i, i < c → K 174 i = M 174 i) ∧ Off RB M K := by
  have hn := hT.1
  have hs := sum_of_fac (b := w.length) (j := 5000) (f := 5000) hT (rfac_b hT d o hod) (pFacD_adv d) h hw hc hl hp (Nat.le_refl _) (by omega) (by omega)
  have e0 : g9_readsSum M = FS 5000 5000 w.length M := by
    unfold g9_readsSum FS
    rw [h.2.2.2.2.1]
    rfl
  rw [e0]
  have hA := pSum_adv (T := T) (n := n) (d := d) p
  unfold pSum at hA ⊢
  rcases hs with ⟨e, K, e1, e2, e3, e4⟩ | ⟨q, f1, K, O, l0, e1, el, ea, e2, e3, elen, e4, e5, e6, e7, em⟩
  · exact Or.inl ⟨e, K, e1, e2, e3, e4⟩
  rw [e1] at hA
  obtain ⟨a1, a2, a3, a4⟩ := hA
  have hq2 : q.2.length = l0.length + O.length := by rw [el, List.length_append]
  obtain ⟨f2, rfl⟩ : ∃ f2, f1 = f2 + 1 := ⟨f1 - 1, by omega⟩
  have he2 := here_eq hT e3 a3
  have hopen : g9_hasOpenSum (nI w.length) K = some (0, K) := hasOpen_0 e3 (by omega) O.length w.length 5000 (by rw [List.length_append]; omega) (by omega) fun i h1 h2 => by
    obtain ⟨x, hx, e⟩ := opAt_app O w i h1 h2
    have := ea x hx
    rw [e]
    omega
  have wl : (O ++ w).length = O.length + w.length := List.length_append
  obtain ⟨K2, g1, r1, r2, r3, r4⟩ := closes_b (all := true) O w (c + l0.length) 5000 K (by omega) (by rw [if_pos rfl]; exact ea) (by omega) (by omega) e3 (by rw [if_pos rfl]; exact hw)
  have g1' : g9_closesSums 1 K = some K2 := g1
  have b138 : g9_readsSum_b138 (nI w.length) K = some (1, K2) := by
    unfold g9_readsSum_b138
    rw [bs hopen, if_pos rfl, bs g1']
  refine Or.inr ⟨q, K2, e1, ?_, by rw [hq2, ← Nat.add_assoc]; exact r1, ?_, fun i hi => by rw [r3 i (by omega), e5 i hi], e6.tr (r4.mono (by decide))⟩
  · rw [e2, g9_readsSum_b14, bs he2]
    dsimp only
    rw [bs (no_sign hT em)]
    dsimp only
    rw [if_pos rfl, bs he2]
    dsimp only
    by_cases c3 : sgI T n q.1 = 93
    · rw [if_pos c3, bs hopen, if_pos rfl]
      exact b138
    · rw [if_neg c3]
      exact b138
  · rw [el]
    exact (RdL_app _ _ _).mpr ⟨RdL_fr _ _ e4 fun i _ hi => r3 i hi, r2⟩
