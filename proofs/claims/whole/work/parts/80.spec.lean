/-! PURE: the text of the law, read from the left -/
abbrev Ins : Type := Nat × Nat
abbrev RR (α : Type) : Type := Int32 ⊕ α
def flt (k p : Nat) : Int32 := (-1000 : Int32) * nI k - nI p
def dig (T : Nat → Nat) (n p : Nat) : Bool := decide (p < n) && (decide (48 ≤ T p) && decide (T p ≤ 57))
def isC (T : Nat → Nat) (n p c : Nat) : Bool := decide (p < n) && decide (T p = c)
def letN (b : Nat) : Nat :=
  if b = 117 then 0 else if b = 118 then 1 else if b = 104 then 2 else if b = 110 then 3 else if b = 116 then 4 else if b = 101 then 5 else if b = 120 then 6 else if b = 121 then 7 else if b = 103 then 8 else if b = 99 then 9
  else if b = 114 then 10 else if b = 108 then 11 else if b = 107 then 12 else if b = 100 then 13 else if b = 112 then 14 else 15
def clsN (b : Nat) : Nat := if b = 97 then 0 else if b = 122 then 1 else if b = 115 then 2 else if b = 119 then 3 else if b = 120 then 4 else if b = 102 then 5 else if b = 98 then 6 else if b = 113 then 7 else 8
def mulN (T : Nat → Nat) (n p : Nat) : Nat := if isC T n p 42 = true then 4 else if isC T n p 47 = true then 5 else if isC T n p 37 = true then 6 else 0
def addN (T : Nat → Nat) (n p : Nat) : Nat := if isC T n p 43 = true then 2 else if isC T n p 45 = true then 3 else 0
def cmpN (T : Nat → Nat) (n p : Nat) : Nat := if isC T n p 60 = true then 7 else if isC T n p 62 = true then 8 else if isC T n p 61 = true then 9 else 0
def pNum (T : Nat → Nat) (n : Nat) : Nat → Nat → Nat → RR (Nat × Nat)
  | 0, p, x => if dig T n p = true then .inl (flt 2 p) else .inr (p, x)
  | k + 1, p, x => if dig T n p = true then pNum T n k (p + 1) (10 * x + (T p - 48)) else .inr (p, x)
def pFac (T : Nat → Nat) (n : Nat) (br : Option (Nat → RR (Nat × List Ins))) (p : Nat) : RR (Nat × List Ins) :=
  if dig T n p = true then (match pNum T n 5 p 0 with
    | .inl f => .inl f
    | .inr q => .inr (q.1, [(0, q.2)]))
  else if isC T n p 91 = true then (match br with
    | none => .inl (flt 5 p)
    | some sum => match sum (p + 1) with
      | .inl f => .inl f
      | .inr q => if isC T n q.1 93 = true then .inr (q.1 + 1, q.2) else .inl (flt 1 q.1))
  else if p < n ∧ letN (T p) < 15 then .inr (p + 1, [(1, letN (T p))]) else .inl (flt 1 p)
/-- a run of parts with signs between: the sign goes behind its right part -/
def pRun (T : Nat → Nat) (n : Nat) (sg : Nat → Nat) (fac : Nat → RR (Nat × List Ins)) : Nat → Nat → Nat → RR (Nat × List Ins)
  | 0, _, p => .inl (flt 1 p)
  | k + 1, op, p => match fac p with
    | .inl f => .inl f
    | .inr q => if sg q.1 = 0 then .inr (q.1, if op = 0 then q.2 else q.2 ++ [(op, 0)]) else (match pRun T n sg fac k (sg q.1) (q.1 + 1) with
      | .inl f => .inl f
      | .inr r => .inr (r.1, (if op = 0 then q.2 else q.2 ++ [(op, 0)]) ++ r.2))
def pTerm (T : Nat → Nat) (n : Nat) (fac : Nat → RR (Nat × List Ins)) (p : Nat) : RR (Nat × List Ins) := pRun T n (mulN T n) fac 240 0 p
def pSumO (T : Nat → Nat) (n : Nat) (fac : Nat → RR (Nat × List Ins)) (p : Nat) : RR (Nat × List Ins) := pRun T n (addN T n) (pTerm T n fac) 240 0 p
def pFacD (T : Nat → Nat) (n : Nat) : Nat → Nat → RR (Nat × List Ins)
  | 0 => pFac T n none
  | d + 1 => pFac T n (some (pSumO T n (pFacD T n d)))
def pSum (T : Nat → Nat) (n d : Nat) : Nat → RR (Nat × List Ins) := pSumO T n (pFacD T n d)
def pCmp (T : Nat → Nat) (n d p : Nat) : RR (Nat × List Ins) :=
  match pSum T n d p with
  | .inl f => .inl f
  | .inr q => if cmpN T n q.1 = 0 then .inl (flt 1 q.1) else (match pSum T n d (q.1 + 1) with
    | .inl f => .inl f
    | .inr r => .inr (r.1, q.2 ++ r.2 ++ [(cmpN T n q.1, 0)]))
/-- pieces with & or parts with | between; the jump ends behind the next one; the length of the first -/
def pJmp (T : Nat → Nat) (n ch op : Nat) (pc : Nat → Nat → RR (Nat × List Ins)) : Nat → Nat → Nat → RR (Nat × List Ins × Nat)
  | 0, p, _ => .inl (flt 1 p)
  | k + 1, p, c => match pc p c with
    | .inl f => .inl f
    | .inr q => if isC T n q.1 ch = true then (match pJmp T n ch op pc k (q.1 + 1) (c + q.2.length + 1) with
      | .inl f => .inl f
      | .inr r => .inr (r.1, q.2 ++ (op, c + q.2.length + 1 + r.2.2) :: r.2.1, q.2.length)) else .inr (q.1, q.2, q.2.length)
def dropL (r : RR (Nat × List Ins × Nat)) : RR (Nat × List Ins) := match r with
  | .inl f => .inl f
  | .inr q => .inr (q.1, q.2.1)
def pPart (T : Nat → Nat) (n : Nat) (pc : Nat → Nat → RR (Nat × List Ins)) (p c : Nat) : RR (Nat × List Ins) := dropL (pJmp T n 38 11 pc 240 p c)
def pChoO (T : Nat → Nat) (n : Nat) (pc : Nat → Nat → RR (Nat × List Ins)) (p c : Nat) : RR (Nat × List Ins) := dropL (pJmp T n 124 12 (pPart T n pc) 240 p c)
def pNot (inner : Option (Nat → Nat → RR (Nat × List Ins))) (p c : Nat) : RR (Nat × List Ins) := match inner with
  | none => .inl (flt 5 p)
  | some pc => match pc (p + 1) c with
    | .inl f => .inl f
    | .inr q => .inr (q.1, q.2 ++ [(10, 0)])
def pPar (T : Nat → Nat) (n : Nat) (inner : Option (Nat → Nat → RR (Nat × List Ins))) (p c : Nat) : RR (Nat × List Ins) := match inner with
  | none => .inl (flt 5 p)
  | some pc => match pChoO T n pc (p + 1) c with
    | .inl f => .inl f
    | .inr q => if isC T n q.1 41 = true then .inr (q.1 + 1, q.2) else .inl (flt 1 q.1)
def pPie (T : Nat → Nat) (n d : Nat) (inner : Option (Nat → Nat → RR (Nat × List Ins))) (p c : Nat) : RR (Nat × List Ins) :=
  if isC T n p 33 = true then pNot inner p c
  else if isC T n p 40 = true then pPar T n inner p c
  else pCmp T n d p
def pPieD (T : Nat → Nat) (n : Nat) : Nat → Nat → Nat → RR (Nat × List Ins)
  | 0 => pPie T n 0 none
  | d + 1 => pPie T n (d + 1) (some (pPieD T n d))
def pCho (T : Nat → Nat) (n d : Nat) : Nat → Nat → RR (Nat × List Ins) := pChoO T n (pPieD T n d)
/-- a clause: its letter, its E, its C -/
def pCla (T : Nat → Nat) (n k p c : Nat) : RR (Nat × (Nat × List Ins × List Ins)) :=
  if p < n ∧ clsN (T p) < 8 then (if k = 16 then .inl (flt 4 p) else (match pSum T n 6 (p + 1) with
    | .inl f => .inl f
    | .inr q => if isC T n q.1 40 = true then (match pCho T n 5 (q.1 + 1) (c + q.2.length) with
      | .inl f => .inl f
      | .inr r => if isC T n r.1 41 = true then .inr (r.1 + 1, (clsN (T p), q.2, r.2)) else .inl (flt 1 r.1)) else .inl (flt 1 q.1)))
  else .inl (flt 1 p)
abbrev Cla : Type := Nat × List Ins × List Ins
def pLaw (T : Nat → Nat) (n : Nat) : Nat → Nat → Nat → Nat → RR (List Cla)
  | 0, _, p, _ => .inl (flt 1 p)
  | f + 1, k, p, c => match pCla T n k p c with
    | .inl f => .inl f
    | .inr q => if n ≤ q.1 then .inr [q.2] else if isC T n q.1 59 = true then (match pLaw T n f (k + 1) (q.1 + 1) (c + q.2.2.1.length + q.2.2.2.length) with
      | .inl f => .inl f
      | .inr r => .inr (q.2 :: r)) else .inl (flt 1 q.1)
/-! what is read is no shorter than what it becomes -/
def Adv (n p : Nat) (r : RR (Nat × List Ins)) : Prop := match r with
  | .inl _ => True
  | .inr q => p + q.2.length ≤ q.1 ∧ p < q.1 ∧ q.1 ≤ n ∧ 0 < q.2.length
theorem pNum_adv {T : Nat → Nat} {n : Nat} : ∀ (k p x : Nat), p ≤ n → match pNum T n k p x with
    | .inl _ => True
    | .inr q => p ≤ q.1 ∧ q.1 ≤ n
  | 0, p, x, h => by
    unfold pNum
    by_cases c : dig T n p = true
    · rw [if_pos c]; trivial
    · rw [if_neg c]; exact ⟨Nat.le_refl _, h⟩
  | k + 1, p, x, h => by
    unfold pNum
    by_cases c : dig T n p = true
    · rw [if_pos c]
      have hp : p < n := by
        unfold dig at c
        simp only [Bool.and_eq_true, decide_eq_true_eq] at c
        exact c.1
      have ih := pNum_adv (T := T) (n := n) k (p + 1) (10 * x + (T p - 48)) (by omega)
      cases h' : pNum T n k (p + 1) (10 * x + (T p - 48)) with
      | inl f => trivial
      | inr q =>
        rw [h'] at ih
        show p ≤ q.1 ∧ q.1 ≤ n
        have i1 : p + 1 ≤ q.1 ∧ q.1 ≤ n := ih
        exact ⟨by omega, i1.2⟩
    · rw [if_neg c]; exact ⟨Nat.le_refl _, h⟩
theorem isC_lt {T : Nat → Nat} {n p c : Nat} (h : isC T n p c = true) : p < n ∧ T p = c := by
  unfold isC at h
  simp only [Bool.and_eq_true, decide_eq_true_eq] at h
  exact h
theorem dig_lt {T : Nat → Nat} {n p : Nat} (h : dig T n p = true) : p < n ∧ 48 ≤ T p ∧ T p ≤ 57 := by
  unfold dig at h
  simp only [Bool.and_eq_true, decide_eq_true_eq] at h
  exact ⟨h.1, h.2.1, h.2.2⟩
theorem pFac_adv {T : Nat → Nat} {n : Nat} {br : Option (Nat → RR (Nat × List Ins))} (hb : ∀ s, br = some s → ∀ p, Adv n p (s p)) (p : Nat) : Adv n p (pFac T n br p) := by
  unfold pFac
  by_cases c : dig T n p = true
  · rw [if_pos c]
    have hp := (dig_lt c).1
    have h1 : pNum T n 5 p 0 = pNum T n 4 (p + 1) (10 * 0 + (T p - 48)) := by
      rw [pNum, if_pos c]
    have h2 := pNum_adv (T := T) (n := n) 4 (p + 1) (10 * 0 + (T p - 48)) (by omega)
    rw [h1]
    cases h' : pNum T n 4 (p + 1) (10 * 0 + (T p - 48)) with
    | inl f => trivial
    | inr q =>
      rw [h'] at h2
      refine ⟨?_, ?_, h2.2, ?_⟩
      · have := h2.1; simp; omega
      · have := h2.1; dsimp only; omega
      · simp
  rw [if_neg c]
  by_cases c2 : isC T n p 91 = true
  · rw [if_pos c2]
    cases br with
    | none => trivial
    | some s =>
      have h := hb s rfl (p + 1)
      dsimp only
      cases h' : s (p + 1) with
      | inl f => trivial
      | inr q =>
        rw [h'] at h
        dsimp only
        by_cases c3 : isC T n q.1 93 = true
        · rw [if_pos c3]
          have := (isC_lt c3).1
          obtain ⟨a1, a2, a3, a4⟩ := h
          exact ⟨by dsimp only; omega, by dsimp only; omega, by dsimp only; omega, a4⟩
        · rw [if_neg c3]; trivial
  rw [if_neg c2]
  by_cases c3 : p < n ∧ letN (T p) < 15
  · rw [if_pos c3]
    exact ⟨by simp, by dsimp only; omega, by dsimp only; omega, by simp⟩
  · rw [if_neg c3]; trivial
theorem pRun_adv {T : Nat → Nat} {n : Nat} {sg : Nat → Nat} (hsg : ∀ p, sg p ≠ 0 → p < n) {fac : Nat → RR (Nat × List Ins)} (hf : ∀ p, Adv n p (fac p)) : ∀ (k op p : Nat), match pRun T n sg fac k op p with
    | .inl _ => True
    | .inr q => p + q.2.length ≤ q.1 + (if op = 0 then 0 else 1) ∧ p < q.1 ∧ q.1 ≤ n ∧ 0 < q.2.length
  | 0, op, p => by unfold pRun; trivial
  | k + 1, op, p => by
    unfold pRun
    have h := hf p
    cases h' : fac p with
    | inl f => trivial
    | inr q =>
      rw [h'] at h
      obtain ⟨a1, a2, a3, a4⟩ := h
      dsimp only
      have hl : (if op = 0 then q.2 else q.2 ++ [(op, 0)]).length = q.2.length + (if op = 0 then 0 else 1) := by
        split
        · rfl
        · simp
      by_cases c : sg q.1 = 0
      · rw [if_pos c]
        dsimp only
        rw [hl]
        exact ⟨by omega, a2, a3, by omega⟩
      · rw [if_neg c]
        have hq := hsg q.1 c
        have ih := pRun_adv (T := T) hsg hf k (sg q.1) (q.1 + 1)
        cases h2 : pRun T n sg fac k (sg q.1) (q.1 + 1) with
        | inl f => trivial
        | inr r =>
          rw [h2] at ih
          rw [if_neg c] at ih
          obtain ⟨b1, b2, b3, b4⟩ := ih
          dsimp only
          rw [List.length_append, hl]
          exact ⟨by omega, by omega, b3, by omega⟩
theorem mulN_lt {T : Nat → Nat} {n p : Nat} (h : mulN T n p ≠ 0) : p < n := by
  unfold mulN at h
  by_cases c1 : isC T n p 42 = true
  · exact (isC_lt c1).1
  by_cases c2 : isC T n p 47 = true
  · exact (isC_lt c2).1
  by_cases c3 : isC T n p 37 = true
  · exact (isC_lt c3).1
  · rw [if_neg c1, if_neg c2, if_neg c3] at h
    exact absurd rfl h
theorem addN_lt {T : Nat → Nat} {n p : Nat} (h : addN T n p ≠ 0) : p < n := by
  unfold addN at h
  by_cases c1 : isC T n p 43 = true
  · exact (isC_lt c1).1
  by_cases c2 : isC T n p 45 = true
  · exact (isC_lt c2).1
  · rw [if_neg c1, if_neg c2] at h
    exact absurd rfl h
theorem cmpN_lt {T : Nat → Nat} {n p : Nat} (h : cmpN T n p ≠ 0) : p < n := by
  unfold cmpN at h
  by_cases c1 : isC T n p 60 = true
  · exact (isC_lt c1).1
  by_cases c2 : isC T n p 62 = true
  · exact (isC_lt c2).1
  by_cases c3 : isC T n p 61 = true
  · exact (isC_lt c3).1
  · rw [if_neg c1, if_neg c2, if_neg c3] at h
    exact absurd rfl h
theorem run_0 {T : Nat → Nat} {n : Nat} {sg : Nat → Nat} (hsg : ∀ p, sg p ≠ 0 → p < n) {fac : Nat → RR (Nat × List Ins)} (hf : ∀ p, Adv n p (fac p)) (p : Nat) : Adv n p (pRun T n sg fac 240 0 p) := by
  have h := pRun_adv (T := T) hsg hf 240 0 p
  unfold Adv
  cases h' : pRun T n sg fac 240 0 p with
  | inl f => trivial
  | inr q => rw [h'] at h; exact h
theorem pTerm_adv {T : Nat → Nat} {n : Nat} {fac : Nat → RR (Nat × List Ins)} (hf : ∀ p, Adv n p (fac p)) (p : Nat) : Adv n p (pTerm T n fac p) := run_0 (fun _ h => mulN_lt h) hf p
theorem pSumO_adv {T : Nat → Nat} {n : Nat} {fac : Nat → RR (Nat × List Ins)} (hf : ∀ p, Adv n p (fac p)) (p : Nat) : Adv n p (pSumO T n fac p) := run_0 (fun _ h => addN_lt h) (pTerm_adv hf) p
theorem pFacD_adv {T : Nat → Nat} {n : Nat} : ∀ d p, Adv n p (pFacD T n d p)
  | 0, p => pFac_adv (fun s h => by cases h) p
  | d + 1, p => pFac_adv (fun s h => by injection h with h; rw [← h]; exact pSumO_adv (pFacD_adv d)) p
theorem pSum_adv {T : Nat → Nat} {n d : Nat} (p : Nat) : Adv n p (pSum T n d p) := pSumO_adv (pFacD_adv d) p
theorem pCmp_adv {T : Nat → Nat} {n d : Nat} (p : Nat) : Adv n p (pCmp T n d p) := by
  unfold pCmp
  have h := pSum_adv (T := T) (n := n) (d := d) p
  cases h1 : pSum T n d p with
  | inl f => trivial
  | inr q =>
    rw [h1] at h
    dsimp only
    by_cases c : cmpN T n q.1 = 0
    · rw [if_pos c]; trivial
    · rw [if_neg c]
      have hq := cmpN_lt c
      have h2 := pSum_adv (T := T) (n := n) (d := d) (q.1 + 1)
      cases h3 : pSum T n d (q.1 + 1) with
      | inl f => trivial
      | inr r =>
        rw [h3] at h2
        obtain ⟨a1, a2, a3, a4⟩ := h
        obtain ⟨b1, b2, b3, b4⟩ := h2
        refine ⟨?_, ?_, b3, ?_⟩
        · simp only [List.length_append, List.length_cons, List.length_nil]; omega
        · dsimp only; omega
        · simp only [List.length_append, List.length_cons, List.length_nil]; omega
theorem pJmp_adv {T : Nat → Nat} {n ch op : Nat} {pc : Nat → Nat → RR (Nat × List Ins)} (hf : ∀ p c, Adv n p (pc p c)) : ∀ (k p c : Nat), match pJmp T n ch op pc k p c with
    | .inl _ => True
    | .inr q => p + q.2.1.length ≤ q.1 ∧ p < q.1 ∧ q.1 ≤ n ∧ 0 < q.2.2 ∧ q.2.2 ≤ q.2.1.length
  | 0, p, c => by unfold pJmp; trivial
  | k + 1, p, c => by
    unfold pJmp
    have h := hf p c
    cases h' : pc p c with
    | inl f => trivial
    | inr q =>
      rw [h'] at h
      obtain ⟨a1, a2, a3, a4⟩ := h
      dsimp only
      by_cases c1 : isC T n q.1 ch = true
      · rw [if_pos c1]
        have hq := (isC_lt c1).1
        have ih := pJmp_adv (T := T) (ch := ch) (op := op) hf k (q.1 + 1) (c + q.2.length + 1)
        cases h2 : pJmp T n ch op pc k (q.1 + 1) (c + q.2.length + 1) with
        | inl f => trivial
        | inr r =>
          rw [h2] at ih
          obtain ⟨b1, b2, b3, b4, b5⟩ := ih
          dsimp only
          simp only [List.length_append, List.length_cons]
          exact ⟨by omega, by omega, b3, a4, by omega⟩
      · rw [if_neg c1]
        exact ⟨a1, a2, a3, a4, Nat.le_refl _⟩
theorem drop_adv {n p : Nat} {r : RR (Nat × List Ins × Nat)} (h : match r with
    | .inl _ => True
    | .inr q => p + q.2.1.length ≤ q.1 ∧ p < q.1 ∧ q.1 ≤ n ∧ 0 < q.2.2 ∧ q.2.2 ≤ q.2.1.length) : Adv n p (dropL r) := by
  cases r with
  | inl f => trivial
  | inr q => exact ⟨h.1, h.2.1, h.2.2.1, by have := h.2.2.2; dsimp only; omega⟩
theorem pPart_adv {T : Nat → Nat} {n : Nat} {pc : Nat → Nat → RR (Nat × List Ins)} (hf : ∀ p c, Adv n p (pc p c)) (p c : Nat) : Adv n p (pPart T n pc p c) := drop_adv (pJmp_adv hf 240 p c)
theorem pChoO_adv {T : Nat → Nat} {n : Nat} {pc : Nat → Nat → RR (Nat × List Ins)} (hf : ∀ p c, Adv n p (pc p c)) (p c : Nat) : Adv n p (pChoO T n pc p c) := drop_adv (pJmp_adv (pPart_adv hf) 240 p c)
theorem pPie_adv {T : Nat → Nat} {n d : Nat} {inner : Option (Nat → Nat → RR (Nat × List Ins))} (hb : ∀ s, inner = some s → ∀ p c, Adv n p (s p c)) (p c : Nat) : Adv n p (pPie T n d inner p c) := by
  unfold pPie pNot pPar
  by_cases c1 : isC T n p 33 = true
  · rw [if_pos c1]
    have hp := (isC_lt c1).1
    cases inner with
    | none => trivial
    | some s =>
      have h := hb s rfl (p + 1) c
      dsimp only
      cases h' : s (p + 1) c with
      | inl f => trivial
      | inr q =>
        rw [h'] at h
        obtain ⟨a1, a2, a3, a4⟩ := h
        refine ⟨?_, ?_, a3, ?_⟩
        · simp only [List.length_append, List.length_cons, List.length_nil]; omega
        · dsimp only; omega
        · simp only [List.length_append, List.length_cons, List.length_nil]; omega
  rw [if_neg c1]
  by_cases c2 : isC T n p 40 = true
  · rw [if_pos c2]
    cases inner with
    | none => trivial
    | some s =>
      have h := pChoO_adv (T := T) (hb s rfl) (p + 1) c
      dsimp only
      cases h' : pChoO T n s (p + 1) c with
      | inl f => trivial
      | inr q =>
        rw [h'] at h
        dsimp only
        by_cases c3 : isC T n q.1 41 = true
        · rw [if_pos c3]
          have := (isC_lt c3).1
          obtain ⟨a1, a2, a3, a4⟩ := h
          exact ⟨by dsimp only; omega, by dsimp only; omega, by dsimp only; omega, a4⟩
        · rw [if_neg c3]; trivial
  · rw [if_neg c2]
    exact pCmp_adv p
theorem pPieD_adv {T : Nat → Nat} {n : Nat} : ∀ d p c, Adv n p (pPieD T n d p c)
  | 0, p, c => pPie_adv (fun s h => by cases h) p c
  | d + 1, p, c => pPie_adv (fun s h => by injection h with h; rw [← h]; exact pPieD_adv d) p c
theorem pCho_adv {T : Nat → Nat} {n d : Nat} (p c : Nat) : Adv n p (pCho T n d p c) := pChoO_adv (pPieD_adv d) p c
