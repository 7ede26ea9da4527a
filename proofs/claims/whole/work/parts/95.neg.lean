/-! PURE: faults are below 0 -/
def Neg {α : Type} (r : RR α) : Prop := match r with
  | .inl e => e ≤ 0
  | .inr _ => True
theorem flt_neg0 : ∀ k, k < 6 → ∀ p, p < 260 → flt k p ≤ 0 := by decide +kernel
theorem flt_neg {n k p : Nat} (hn : n ≤ 240) (hk : k < 6) (hp : p ≤ n) : flt k p ≤ 0 := flt_neg0 k hk p (by omega)
theorem ng_num {T : Nat → Nat} {n : Nat} (hn : n ≤ 240) : ∀ (k p x : Nat), p ≤ n → Neg (pNum T n k p x)
  | 0, p, x, hp => by
    unfold pNum
    by_cases c : dig T n p = true
    · rw [if_pos c]; exact flt_neg hn (by decide) hp
    · rw [if_neg c]; trivial
  | k + 1, p, x, hp => by
    unfold pNum
    by_cases c : dig T n p = true
    · rw [if_pos c]
      have := (dig_lt c).1
      exact ng_num hn k (p + 1) _ (by omega)
    · rw [if_neg c]; trivial
theorem ng_fac {T : Nat → Nat} {n : Nat} (hn : n ≤ 240) {br : Option (Nat → RR (Nat × List Ins))} (hb : ∀ s, br = some s → ∀ p, p ≤ n → Neg (s p)) (ha : ∀ s, br = some s → ∀ p, Adv n p (s p)) (p : Nat) (hp : p ≤ n) : Neg (pFac T n br p) := by
  unfold pFac
  by_cases c1 : dig T n p = true
  · rw [if_pos c1]
    have h := ng_num (T := T) hn 5 p 0 hp
    cases h' : pNum T n 5 p 0 with
    | inl f => rw [h'] at h; exact h
    | inr q => trivial
  rw [if_neg c1]
  by_cases c2 : isC T n p 91 = true
  · rw [if_pos c2]
    have hlt := (isC_lt c2).1
    cases br with
    | none => exact flt_neg hn (by decide) hp
    | some s =>
      have h := hb s rfl (p + 1) (by omega)
      have h2 := ha s rfl (p + 1)
      dsimp only
      cases h' : s (p + 1) with
      | inl f => rw [h'] at h; exact h
      | inr q =>
        rw [h'] at h2
        obtain ⟨-, -, a3, -⟩ := h2
        dsimp only
        by_cases c3 : isC T n q.1 93 = true
        · rw [if_pos c3]; trivial
        · rw [if_neg c3]; exact flt_neg hn (by decide) a3
  rw [if_neg c2]
  by_cases c3 : p < n ∧ letN (T p) < 15
  · rw [if_pos c3]; trivial
  · rw [if_neg c3]; exact flt_neg hn (by decide) hp
theorem ng_run {T : Nat → Nat} {n : Nat} (hn : n ≤ 240) {sg : Nat → Nat} {fac : Nat → RR (Nat × List Ins)} (hsg : ∀ p, sg p ≠ 0 → p < n) (hf : ∀ p, p ≤ n → Neg (fac p)) (ha : ∀ p, Adv n p (fac p)) : ∀ (k op p : Nat), p ≤ n → Neg (pRun T n sg fac k op p)
  | 0, op, p, hp => by unfold pRun; exact flt_neg hn (by decide) hp
  | k + 1, op, p, hp => by
    unfold pRun
    have h := hf p hp
    have h2 := ha p
    cases h' : fac p with
    | inl f => rw [h'] at h; exact h
    | inr q =>
      rw [h'] at h2
      dsimp only
      by_cases c1 : sg q.1 = 0
      · rw [if_pos c1]; trivial
      · rw [if_neg c1]
        have hlt := hsg _ c1
        have ih := ng_run (T := T) hn hsg hf ha k (sg q.1) (q.1 + 1) (by omega)
        cases h3 : pRun T n sg fac k (sg q.1) (q.1 + 1) with
        | inl f => rw [h3] at ih; exact ih
        | inr r => trivial
theorem ng_sumO {T : Nat → Nat} {n : Nat} (hn : n ≤ 240) {fac : Nat → RR (Nat × List Ins)} (hf : ∀ p, p ≤ n → Neg (fac p)) (ha : ∀ p, Adv n p (fac p)) (p : Nat) (hp : p ≤ n) : Neg (pSumO T n fac p) := by
  unfold pSumO
  refine ng_run hn (fun _ h => addN_lt h) (fun p hp => ?_) (pTerm_adv (T := T) ha) 240 0 p hp
  unfold pTerm
  exact ng_run hn (fun _ h => mulN_lt h) hf ha 240 0 p hp
theorem ng_facD {T : Nat → Nat} {n : Nat} (hn : n ≤ 240) : ∀ d p, p ≤ n → Neg (pFacD T n d p)
  | 0, p, hp => ng_fac hn (fun s e => by cases e) (fun s e => by cases e) p hp
  | d + 1, p, hp => ng_fac hn (fun s e p hp => by
      injection e with e
      rw [← e]
      exact ng_sumO hn (ng_facD hn d) (pFacD_adv d) p hp) (fun s e p => by
      injection e with e
      rw [← e]
      exact pSumO_adv (T := T) (pFacD_adv d) p) p hp
theorem ng_sum {T : Nat → Nat} {n d : Nat} (hn : n ≤ 240) (p : Nat) (hp : p ≤ n) : Neg (pSum T n d p) := ng_sumO hn (ng_facD hn d) (pFacD_adv d) p hp
theorem ng_cmp {T : Nat → Nat} {n d : Nat} (hn : n ≤ 240) (p : Nat) (hp : p ≤ n) : Neg (pCmp T n d p) := by
  unfold pCmp
  have h := ng_sum (T := T) (d := d) hn p hp
  have h2 := pSum_adv (T := T) (n := n) (d := d) p
  cases h' : pSum T n d p with
  | inl f => rw [h'] at h; exact h
  | inr q =>
    rw [h'] at h2
    obtain ⟨-, -, a3, -⟩ := h2
    dsimp only
    by_cases c : cmpN T n q.1 = 0
    · rw [if_pos c]; exact flt_neg hn (by decide) a3
    · rw [if_neg c]
      have hlt := cmpN_lt c
      have h3 := ng_sum (T := T) (d := d) hn (q.1 + 1) (by omega)
      cases h4 : pSum T n d (q.1 + 1) with
      | inl f => rw [h4] at h3; exact h3
      | inr r => trivial
theorem ng_jmp {T : Nat → Nat} {n ch op : Nat} (hn : n ≤ 240) {pc : Nat → Nat → RR (Nat × List Ins)} (hf : ∀ p c, p ≤ n → Neg (pc p c)) : ∀ (k p c : Nat), p ≤ n → Neg (pJmp T n ch op pc k p c)
  | 0, p, c, hp => by unfold pJmp; exact flt_neg hn (by decide) hp
  | k + 1, p, c, hp => by
    unfold pJmp
    have h := hf p c hp
    cases h' : pc p c with
    | inl f => rw [h'] at h; exact h
    | inr q =>
      dsimp only
      by_cases c1 : isC T n q.1 ch = true
      · rw [if_pos c1]
        have hlt := (isC_lt c1).1
        have ih := ng_jmp (T := T) (ch := ch) (op := op) hn hf k (q.1 + 1) (c + q.2.length + 1) (by omega)
        cases h3 : pJmp T n ch op pc k (q.1 + 1) (c + q.2.length + 1) with
        | inl f => rw [h3] at ih; exact ih
        | inr r => trivial
      · rw [if_neg c1]; trivial
theorem ng_drop {r : RR (Nat × List Ins × Nat)} (h : Neg r) : Neg (dropL r) := by
  cases r with
  | inl f => exact h
  | inr q => trivial
theorem ng_choO {T : Nat → Nat} {n : Nat} (hn : n ≤ 240) {pc : Nat → Nat → RR (Nat × List Ins)} (hf : ∀ p c, p ≤ n → Neg (pc p c)) (p c : Nat) (hp : p ≤ n) : Neg (pChoO T n pc p c) := by
  unfold pChoO
  refine ng_drop (ng_jmp hn (fun p c hp => ?_) 240 p c hp)
  unfold pPart
  exact ng_drop (ng_jmp hn hf 240 p c hp)
theorem ng_pie {T : Nat → Nat} {n d : Nat} (hn : n ≤ 240) {inner : Option (Nat → Nat → RR (Nat × List Ins))} (hb : ∀ s, inner = some s → ∀ p c, p ≤ n → Neg (s p c)) (ha : ∀ s, inner = some s → ∀ p c, Adv n p (s p c)) (p c : Nat) (hp : p ≤ n) : Neg (pPie T n d inner p c) := by
  unfold pPie pNot pPar
  by_cases c1 : isC T n p 33 = true
  · rw [if_pos c1]
    have hlt := (isC_lt c1).1
    cases inner with
    | none => exact flt_neg hn (by decide) hp
    | some s =>
      have h := hb s rfl (p + 1) c (by omega)
      dsimp only
      cases h' : s (p + 1) c with
      | inl f => rw [h'] at h; exact h
      | inr q => trivial
  rw [if_neg c1]
  by_cases c2 : isC T n p 40 = true
  · rw [if_pos c2]
    have hlt := (isC_lt c2).1
    cases inner with
    | none => exact flt_neg hn (by decide) hp
    | some s =>
      have h := ng_choO (T := T) hn (hb s rfl) (p + 1) c (by omega)
      have h2 := pChoO_adv (T := T) (ha s rfl) (p + 1) c
      dsimp only
      cases h' : pChoO T n s (p + 1) c with
      | inl f => rw [h'] at h; exact h
      | inr q =>
        rw [h'] at h2
        obtain ⟨-, -, a3, -⟩ := h2
        dsimp only
        by_cases c3 : isC T n q.1 41 = true
        · rw [if_pos c3]; trivial
        · rw [if_neg c3]; exact flt_neg hn (by decide) a3
  · rw [if_neg c2]
    exact ng_cmp hn p hp
theorem ng_pieD {T : Nat → Nat} {n : Nat} (hn : n ≤ 240) : ∀ d p c, p ≤ n → Neg (pPieD T n d p c)
  | 0, p, c, hp => ng_pie hn (fun s h => by cases h) (fun s h => by cases h) p c hp
  | d + 1, p, c, hp => ng_pie hn (fun s h p c hp => by injection h with h; rw [← h]; exact ng_pieD hn d p c hp) (fun s h p c => by injection h with h; rw [← h]; exact pPieD_adv d p c) p c hp
theorem ng_cho {T : Nat → Nat} {n d : Nat} (hn : n ≤ 240) (p c : Nat) (hp : p ≤ n) : Neg (pCho T n d p c) := ng_choO hn (ng_pieD hn d) p c hp
theorem ng_cla {T : Nat → Nat} {n k p c : Nat} (hn : n ≤ 240) (hp : p ≤ n) : Neg (pCla T n k p c) ∧ (match pCla T n k p c with
    | .inl _ => True
    | .inr q => q.1 ≤ n) := by
  unfold pCla
  by_cases c1 : p < n ∧ clsN (T p) < 8
  · rw [if_pos c1]
    by_cases c2 : k = 16
    · rw [if_pos c2]; exact ⟨flt_neg hn (by decide) hp, trivial⟩
    rw [if_neg c2]
    have h := ng_sum (T := T) (d := 6) hn (p + 1) (by omega)
    have h2 := pSum_adv (T := T) (n := n) (d := 6) (p + 1)
    cases e1 : pSum T n 6 (p + 1) with
    | inl f => rw [e1] at h; exact ⟨h, trivial⟩
    | inr q =>
      rw [e1] at h2
      obtain ⟨-, -, a3, -⟩ := h2
      dsimp only
      by_cases c3 : isC T n q.1 40 = true
      · rw [if_pos c3]
        have hlt := (isC_lt c3).1
        have h3 := ng_cho (T := T) (d := 5) hn (q.1 + 1) (c + q.2.length) (by omega)
        have h4 := pCho_adv (T := T) (n := n) (d := 5) (q.1 + 1) (c + q.2.length)
        cases e2 : pCho T n 5 (q.1 + 1) (c + q.2.length) with
        | inl f => rw [e2] at h3; exact ⟨h3, trivial⟩
        | inr r =>
          rw [e2] at h4
          obtain ⟨-, -, b3, -⟩ := h4
          dsimp only
          by_cases c4 : isC T n r.1 41 = true
          · rw [if_pos c4]
            have := (isC_lt c4).1
            exact ⟨trivial, by dsimp only; omega⟩
          · rw [if_neg c4]; exact ⟨flt_neg hn (by decide) b3, trivial⟩
      · rw [if_neg c3]; exact ⟨flt_neg hn (by decide) a3, trivial⟩
  · rw [if_neg c1]; exact ⟨flt_neg hn (by decide) hp, trivial⟩
theorem ng_law {T : Nat → Nat} {n : Nat} (hn : n ≤ 240) : ∀ (f k p c : Nat), p ≤ n → Neg (pLaw T n f k p c)
  | 0, k, p, c, hp => by unfold pLaw; exact flt_neg hn (by decide) hp
  | f + 1, k, p, c, hp => by
    unfold pLaw
    have h := ng_cla (T := T) (k := k) (c := c) hn hp
    cases h' : pCla T n k p c with
    | inl f => rw [h'] at h; exact h.1
    | inr q =>
      rw [h'] at h
      have hq : q.1 ≤ n := h.2
      dsimp only
      by_cases c1 : n ≤ q.1
      · rw [if_pos c1]; trivial
      rw [if_neg c1]
      by_cases c2 : isC T n q.1 59 = true
      · rw [if_pos c2]
        have hlt := (isC_lt c2).1
        have ih := ng_law (T := T) hn f (k + 1) (q.1 + 1) (c + q.2.2.1.length + q.2.2.2.length) (by omega)
        cases h2 : pLaw T n f (k + 1) (q.1 + 1) (c + q.2.2.1.length + q.2.2.2.length) with
        | inl f => rw [h2] at ih; exact ih
        | inr r => trivial
      · rw [if_neg c2]; exact flt_neg hn (by decide) hq
