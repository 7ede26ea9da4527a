/-! PURE: what is read can be run: heights of the stack, and jumps forward -/
def okI (m : Nat → Nat) (e x : Nat) (i : Ins) : Prop :=
  (i.2 < 1048576 ∨ i.2 ≤ e) ∧
  ((i.1 ≤ 1 ∧ m x < 64 ∧ m (x + 1) = m x + 1 ∧ (i.1 = 1 → i.2 < 15)) ∨
  (2 ≤ i.1 ∧ i.1 ≤ 6 ∧ 2 ≤ m x ∧ m x ≤ 64 ∧ m (x + 1) + 1 = m x) ∨
  (7 ≤ i.1 ∧ i.1 ≤ 9 ∧ m x = 2 ∧ m (x + 1) = 100) ∨
  (i.1 = 10 ∧ m x = 100 ∧ m (x + 1) = 100) ∨
  ((i.1 = 11 ∨ i.1 = 12) ∧ m x = 100 ∧ m (x + 1) = 0 ∧ x < i.2 ∧ i.2 ≤ e ∧ m i.2 = 100))
def TYm (m : Nat → Nat) (e : Nat) : Nat → List Ins → Prop
  | _, [] => True
  | x, i :: l => okI m e x i ∧ TYm m e (x + 1) l
theorem okI.fr {m m' : Nat → Nat} {e e' x : Nat} {i : Ins} (h : okI m e x i) (hx : x + 1 ≤ e) (he : e ≤ e') (hm : ∀ y, x ≤ y → y ≤ e → m' y = m y) : okI m' e' x i := by
  obtain ⟨h0, h⟩ := h
  refine ⟨h0.imp id fun r => Nat.le_trans r he, ?_⟩
  rw [hm x (by omega) (by omega), hm (x + 1) (by omega) (by omega)]
  rcases h with h | h | h | h | ⟨h1, h2, h3, h4, h5, h6⟩
  · exact Or.inl h
  · exact Or.inr (Or.inl h)
  · exact Or.inr (Or.inr (Or.inl h))
  · exact Or.inr (Or.inr (Or.inr (Or.inl h)))
  · exact Or.inr (Or.inr (Or.inr (Or.inr ⟨h1, h2, h3, h4, by omega, by rw [hm _ (by omega) h5]; exact h6⟩)))
theorem TYm.fr {m m' : Nat → Nat} {e e' : Nat} : ∀ (l : List Ins) (x : Nat), TYm m e x l → x + l.length ≤ e → e ≤ e' → (∀ y, x ≤ y → y ≤ e → m' y = m y) → TYm m' e' x l
  | [], _, _, _, _, _ => trivial
  | i :: l, x, h, hx, he, hm => by
    have hl : (i :: l).length = l.length + 1 := rfl
    exact ⟨h.1.fr (by omega) he hm, TYm.fr l (x + 1) h.2 (by omega) he fun y h1 h2 => hm y (by omega) h2⟩
theorem TYm_app {m : Nat → Nat} {e : Nat} : ∀ (l1 l2 : List Ins) (x : Nat), TYm m e x l1 → TYm m e (x + l1.length) l2 → TYm m e x (l1 ++ l2)
  | [], _, _, _, h => h
  | i :: l1, l2, x, h, h' => ⟨h.1, TYm_app l1 l2 (x + 1) h.2 (by
      have hl : (i :: l1).length = l1.length + 1 := rfl
      rw [hl, ← Nat.add_assoc, Nat.add_right_comm] at h'
      exact h')⟩
/-- from height a to height b; 100: a truth; k: where the first piece ends -/
def TY (l : List Ins) (c a b : Nat) : Prop := ∃ m : Nat → Nat, m c = a ∧ m (c + l.length) = b ∧ TYm m (c + l.length) c l
theorem TY.app {l1 l2 : List Ins} {c a b d : Nat} (h1 : TY l1 c a b) (h2 : TY l2 (c + l1.length) b d) : TY (l1 ++ l2) c a d := by
  obtain ⟨m1, a1, a2, a3⟩ := h1
  obtain ⟨m2, b1, b2, b3⟩ := h2
  have hl : (l1 ++ l2).length = l1.length + l2.length := List.length_append
  have k1 : ∀ y, c ≤ y → y ≤ c + l1.length → (if y < c + l1.length then m1 y else m2 y) = m1 y := fun y _ h => by
    by_cases q : y < c + l1.length
    · rw [if_pos q]
    · rw [if_neg q, show y = c + l1.length by omega, b1, a2]
  have k2 : ∀ y, c + l1.length ≤ y → (if y < c + l1.length then m1 y else m2 y) = m2 y := fun y h => if_neg (by omega)
  refine ⟨fun y => if y < c + l1.length then m1 y else m2 y, ?_, ?_, ?_⟩
  · dsimp only
    rw [k1 c (by omega) (by omega), a1]
  · dsimp only
    rw [hl, ← Nat.add_assoc, k2 _ (by omega), b2]
  · rw [hl, ← Nat.add_assoc]
    exact TYm_app _ _ _ (a3.fr l1 c (Nat.le_refl _) (by omega) k1) (b3.fr l2 _ (Nat.le_refl _) (Nat.le_refl _) fun y h _ => k2 y h)
theorem TY.one {i : Ins} {c a b : Nat} (h : okI (fun y => if y = c then a else b) (c + 1) c i) : TY [i] c a b := by
  refine ⟨fun y => if y = c then a else b, if_pos rfl, if_neg ?_, h, trivial⟩
  show ¬ c + 1 = c
  omega
theorem ty_push {i : Ins} {c h : Nat} (h0 : i.2 < 1048576) (h1 : i.1 ≤ 1) (h2 : i.1 = 1 → i.2 < 15) (h3 : h < 64) : TY [i] c h (h + 1) := TY.one ⟨Or.inl h0, Or.inl ⟨h1, by dsimp only; rw [if_pos rfl]; exact h3, by dsimp only; rw [if_pos rfl, if_neg (by omega)], h2⟩⟩
theorem ty_sign {op c h : Nat} (h1 : 2 ≤ op ∧ op ≤ 6) (h3 : h + 2 ≤ 64) : TY [(op, 0)] c (h + 2) (h + 1) := TY.one ⟨Or.inl (show (0 : Nat) < 1048576 by decide), Or.inr (Or.inl ⟨h1.1, h1.2, by dsimp only; rw [if_pos rfl]; omega, by dsimp only; rw [if_pos rfl]; omega, by dsimp only; rw [if_pos rfl, if_neg (by omega)]⟩)⟩
theorem ty_cmp {op c : Nat} (h1 : 7 ≤ op ∧ op ≤ 9) : TY [(op, 0)] c 2 100 := TY.one ⟨Or.inl (show (0 : Nat) < 1048576 by decide), Or.inr (Or.inr (Or.inl ⟨h1.1, h1.2, by dsimp only; rw [if_pos rfl], by dsimp only; rw [if_neg (by omega)]⟩))⟩
theorem ty_not {c : Nat} : TY [(10, 0)] c 100 100 := TY.one ⟨Or.inl (show (0 : Nat) < 1048576 by decide), Or.inr (Or.inr (Or.inr (Or.inl ⟨rfl, by dsimp only; rw [if_pos rfl], by dsimp only; rw [if_neg (by omega)]⟩)))⟩
def TYr (r : RR (Nat × List Ins)) (c a b : Nat) : Prop := match r with
  | .inl _ => True
  | .inr q => TY q.2 c a b
theorem ty_run {T : Nat → Nat} {n h : Nat} {sg : Nat → Nat} {fac : Nat → RR (Nat × List Ins)} (hsg : ∀ p, sg p ≠ 0 → 2 ≤ sg p ∧ sg p ≤ 6) (hh : h + 2 ≤ 64) (hf : ∀ p c h', h ≤ h' → h' ≤ h + 1 → TYr (fac p) c h' (h' + 1)) : ∀ (k op p c : Nat), (op = 0 ∨ (2 ≤ op ∧ op ≤ 6)) → TYr (pRun T n sg fac k op p) c (if op = 0 then h else h + 1) (h + 1)
  | 0, op, p, c, ho => by unfold pRun; trivial
  | k + 1, op, p, c, ho => by
    unfold pRun
    have hF := hf p c (if op = 0 then h else h + 1) (by split <;> omega) (by split <;> omega)
    cases h' : fac p with
    | inl f => trivial
    | inr q =>
      rw [h'] at hF
      have hF' : TY q.2 c (if op = 0 then h else h + 1) ((if op = 0 then h else h + 1) + 1) := hF
      dsimp only
      have h1 : TY (if op = 0 then q.2 else q.2 ++ [(op, 0)]) c (if op = 0 then h else h + 1) (h + 1) := by
        by_cases c0 : op = 0
        · rw [if_pos c0] at hF' ⊢
          rw [if_pos c0]
          exact hF'
        · rw [if_neg c0] at hF' ⊢
          rw [if_neg c0]
          exact hF'.app (ty_sign (ho.resolve_left c0) hh)
      by_cases c1 : sg q.1 = 0
      · rw [if_pos c1]
        exact h1
      · rw [if_neg c1]
        have ih := ty_run (T := T) (n := n) hsg hh hf k (sg q.1) (q.1 + 1) (c + (if op = 0 then q.2 else q.2 ++ [(op, 0)]).length) (Or.inr (hsg _ c1))
        rw [if_neg c1] at ih
        cases h2 : pRun T n sg fac k (sg q.1) (q.1 + 1) with
        | inl f => trivial
        | inr r =>
          rw [h2] at ih
          exact h1.app ih
theorem mulN_rg {T : Nat → Nat} {n p : Nat} (h : mulN T n p ≠ 0) : 2 ≤ mulN T n p ∧ mulN T n p ≤ 6 := by
  unfold mulN at h ⊢
  split
  · decide
  split
  · decide
  split
  · decide
  · rename_i a b c
    rw [if_neg a, if_neg b, if_neg c] at h
    exact absurd rfl h
theorem addN_rg {T : Nat → Nat} {n p : Nat} (h : addN T n p ≠ 0) : 2 ≤ addN T n p ∧ addN T n p ≤ 6 := by
  unfold addN at h ⊢
  split
  · decide
  split
  · decide
  · rename_i a b
    rw [if_neg a, if_neg b] at h
    exact absurd rfl h
theorem ty_sumO {T : Nat → Nat} {n h : Nat} {fac : Nat → RR (Nat × List Ins)} (hh : h + 3 ≤ 64) (hf : ∀ p c h', h ≤ h' → h' ≤ h + 2 → TYr (fac p) c h' (h' + 1)) (p c : Nat) : TYr (pSumO T n fac p) c h (h + 1) := by
  unfold pSumO
  refine ty_run (h := h) (fun _ => addN_rg) (by omega) (fun p c h' h1 h2 => ?_) 240 0 p c (Or.inl rfl)
  unfold pTerm
  exact ty_run (h := h') (fun _ => mulN_rg) (by omega) (fun p c h'' h3 h4 => hf p c h'' (by omega) (by omega)) 240 0 p c (Or.inl rfl)
theorem ty_fac {T : Nat → Nat} {n h : Nat} {br : Option (Nat → RR (Nat × List Ins))} (hh : h < 64) (hb : ∀ s, br = some s → ∀ p c, TYr (s p) c h (h + 1)) (p c : Nat) : TYr (pFac T n br p) c h (h + 1) := by
  unfold pFac
  by_cases c1 : dig T n p = true
  · rw [if_pos c1]
    have hS := pNum_small (T := T) (n := n) 5 p 0
    cases h' : pNum T n 5 p 0 with
    | inl f => trivial
    | inr q =>
      rw [h'] at hS
      have hS' : q.2 < (0 + 1) * 10 ^ 5 := hS
      exact ty_push (by dsimp only; omega) (by dsimp only; omega) (fun r => absurd r Nat.zero_ne_one) hh
  rw [if_neg c1]
  by_cases c2 : isC T n p 91 = true
  · rw [if_pos c2]
    cases br with
    | none => trivial
    | some s =>
      have hs := hb s rfl (p + 1) c
      dsimp only
      cases h' : s (p + 1) with
      | inl f => trivial
      | inr q =>
        rw [h'] at hs
        dsimp only
        by_cases c3 : isC T n q.1 93 = true
        · rw [if_pos c3]; exact hs
        · rw [if_neg c3]; trivial
  rw [if_neg c2]
  by_cases c3 : p < n ∧ letN (T p) < 15
  · rw [if_pos c3]
    exact ty_push (by dsimp only; omega) (by dsimp only; omega) (fun _ => c3.2) hh
  · rw [if_neg c3]; trivial
theorem ty_facD {T : Nat → Nat} {n : Nat} : ∀ d h p c, h + 2 * d ≤ 60 → TYr (pFacD T n d p) c h (h + 1)
  | 0, h, p, c, hh => ty_fac (by omega) (fun s e => by cases e) p c
  | d + 1, h, p, c, hh => ty_fac (by omega) (fun s e p c => by
      injection e with e
      rw [← e]
      exact ty_sumO (by omega) (fun p c h' h1 h2 => ty_facD d h' p c (by omega)) p c) p c
theorem ty_sum {T : Nat → Nat} {n d h : Nat} (hd : d ≤ 6) (hh : h ≤ 1) (p c : Nat) : TYr (pSum T n d p) c h (h + 1) := ty_sumO (by omega) (fun p c h' h1 h2 => ty_facD d h' p c (by omega)) p c
theorem ty_pcmp {T : Nat → Nat} {n d : Nat} (hd : d ≤ 6) (p c : Nat) : TYr (pCmp T n d p) c 0 100 := by
  unfold pCmp
  have h1 := ty_sum (T := T) (n := n) hd (Nat.zero_le 1) p c
  cases e1 : pSum T n d p with
  | inl f => trivial
  | inr q =>
    rw [e1] at h1
    dsimp only
    by_cases c0 : cmpN T n q.1 = 0
    · rw [if_pos c0]; trivial
    · rw [if_neg c0]
      have h2 := ty_sum (T := T) (n := n) hd (Nat.le_refl 1) (q.1 + 1) (c + q.2.length)
      cases e2 : pSum T n d (q.1 + 1) with
      | inl f => trivial
      | inr r =>
        rw [e2] at h2
        have h1' : TY q.2 c 0 1 := h1
        have h2' : TY r.2 (c + q.2.length) 1 2 := h2
        exact (h1'.app h2').app (ty_cmp (by rcases cmpN_ops (T := T) (n := n) (p := q.1) with x | x | x | x <;> omega))
theorem ty_jmp {T : Nat → Nat} {n ch op : Nat} {pc : Nat → Nat → RR (Nat × List Ins)} (hop : op = 11 ∨ op = 12) (hf : ∀ p c, TYr (pc p c) c 0 100) : ∀ (k p c : Nat), match pJmp T n ch op pc k p c with
    | .inl _ => True
    | .inr q => ∃ m : Nat → Nat, m c = 0 ∧ m (c + q.2.2) = 100 ∧ m (c + q.2.1.length) = 100 ∧ TYm m (c + q.2.1.length) c q.2.1 ∧ q.2.2 ≤ q.2.1.length
  | 0, p, c => by unfold pJmp; trivial
  | k + 1, p, c => by
    unfold pJmp
    have h := hf p c
    cases h' : pc p c with
    | inl f => trivial
    | inr q =>
      rw [h'] at h
      obtain ⟨m1, a1, a2, a3⟩ := h
      dsimp only
      by_cases c1 : isC T n q.1 ch = true
      · rw [if_pos c1]
        have ih := ty_jmp (T := T) (n := n) (ch := ch) hop hf k (q.1 + 1) (c + q.2.length + 1)
        cases h2 : pJmp T n ch op pc k (q.1 + 1) (c + q.2.length + 1) with
        | inl f => trivial
        | inr r =>
          rw [h2] at ih
          dsimp only at ih ⊢
          have hl : (q.2 ++ (op, c + q.2.length + 1 + r.2.2) :: r.2.1).length = q.2.length + (r.2.1.length + 1) := by rw [List.length_append]; rfl
          rw [hl]
          obtain ⟨m2, b1, b2, b3, b4, b5⟩ := ih
          have k1 : ∀ y, c ≤ y → y ≤ c + q.2.length → (if y ≤ c + q.2.length then m1 y else m2 y) = m1 y := fun y _ h => if_pos h
          have k2 : ∀ y, c + q.2.length + 1 ≤ y → (if y ≤ c + q.2.length then m1 y else m2 y) = m2 y := fun y h => if_neg (by omega)
          refine ⟨fun y => if y ≤ c + q.2.length then m1 y else m2 y, ?_, ?_, ?_, ?_, by omega⟩
          · dsimp only; rw [k1 c (by omega) (by omega), a1]
          · dsimp only; rw [k1 _ (by omega) (by omega), a2]
          · dsimp only
            rw [show c + (q.2.length + (r.2.1.length + 1)) = c + q.2.length + 1 + r.2.1.length by omega, k2 _ (by omega), b3]
          · rw [show c + (q.2.length + (r.2.1.length + 1)) = c + q.2.length + 1 + r.2.1.length by omega]
            refine TYm_app _ _ _ (a3.fr q.2 c (Nat.le_refl _) (by omega) k1) ⟨⟨Or.inr (by dsimp only; omega), Or.inr (Or.inr (Or.inr (Or.inr ⟨hop, ?_, ?_, ?_, ?_, ?_⟩)))⟩, b4.fr r.2.1 _ (Nat.le_refl _) (Nat.le_refl _) fun y h _ => k2 y h⟩
            · dsimp only; rw [k1 _ (by omega) (by omega), a2]
            · dsimp only; rw [k2 _ (by omega), b1]
            · dsimp only; omega
            · dsimp only; omega
            · dsimp only; rw [k2 _ (by omega), b2]
      · rw [if_neg c1]
        exact ⟨m1, a1, a2, a2, a3, Nat.le_refl _⟩
theorem ty_drop {r : RR (Nat × List Ins × Nat)} {c : Nat} (h : match r with
    | .inl _ => True
    | .inr q => ∃ m : Nat → Nat, m c = 0 ∧ m (c + q.2.2) = 100 ∧ m (c + q.2.1.length) = 100 ∧ TYm m (c + q.2.1.length) c q.2.1 ∧ q.2.2 ≤ q.2.1.length) : TYr (dropL r) c 0 100 := by
  cases r with
  | inl f => trivial
  | inr q =>
    obtain ⟨m, b1, b2, b3, b4, b5⟩ := h
    exact ⟨m, b1, b3, b4⟩
theorem ty_choO {T : Nat → Nat} {n : Nat} {pc : Nat → Nat → RR (Nat × List Ins)} (hf : ∀ p c, TYr (pc p c) c 0 100) (p c : Nat) : TYr (pChoO T n pc p c) c 0 100 := by
  unfold pChoO
  refine ty_drop (ty_jmp (Or.inr rfl) (fun p c => ?_) 240 p c)
  unfold pPart
  exact ty_drop (ty_jmp (Or.inl rfl) hf 240 p c)
theorem ty_pie {T : Nat → Nat} {n d : Nat} {inner : Option (Nat → Nat → RR (Nat × List Ins))} (hd : d ≤ 6) (hb : ∀ s, inner = some s → ∀ p c, TYr (s p c) c 0 100) (p c : Nat) : TYr (pPie T n d inner p c) c 0 100 := by
  unfold pPie pNot pPar
  by_cases c1 : isC T n p 33 = true
  · rw [if_pos c1]
    cases inner with
    | none => trivial
    | some s =>
      have h := hb s rfl (p + 1) c
      dsimp only
      cases h' : s (p + 1) c with
      | inl f => trivial
      | inr q =>
        rw [h'] at h
        exact TY.app h ty_not
  rw [if_neg c1]
  by_cases c2 : isC T n p 40 = true
  · rw [if_pos c2]
    cases inner with
    | none => trivial
    | some s =>
      have h := ty_choO (T := T) (n := n) (hb s rfl) (p + 1) c
      dsimp only
      cases h' : pChoO T n s (p + 1) c with
      | inl f => trivial
      | inr q =>
        rw [h'] at h
        dsimp only
        by_cases c3 : isC T n q.1 41 = true
        · rw [if_pos c3]; exact h
        · rw [if_neg c3]; trivial
  · rw [if_neg c2]
    exact ty_pcmp hd p c
theorem ty_pieD {T : Nat → Nat} {n : Nat} : ∀ d p c, d ≤ 6 → TYr (pPieD T n d p c) c 0 100
  | 0, p, c, hd => ty_pie hd (fun s h => by cases h) p c
  | d + 1, p, c, hd => ty_pie hd (fun s h p c => by injection h with h; rw [← h]; exact ty_pieD d p c (by omega)) p c
theorem ty_cho {T : Nat → Nat} {n : Nat} (p c : Nat) : TYr (pCho T n 5 p c) c 0 100 := ty_choO (fun p c => ty_pieD 5 p c (by omega)) p c
/-- a sum has no jumps -/
def O6 (r : RR (Nat × List Ins)) : Prop := match r with
  | .inl _ => True
  | .inr q => ∀ x ∈ q.2, x.1 ≤ 6
theorem o6_run {T : Nat → Nat} {n : Nat} {sg : Nat → Nat} {fac : Nat → RR (Nat × List Ins)} (hsg : ∀ p, sg p ≠ 0 → 2 ≤ sg p ∧ sg p ≤ 6) (hf : ∀ p, O6 (fac p)) : ∀ (k op p : Nat), op ≤ 6 → O6 (pRun T n sg fac k op p)
  | 0, op, p, ho => by unfold pRun; trivial
  | k + 1, op, p, ho => by
    unfold pRun
    have hF := hf p
    cases h' : fac p with
    | inl f => trivial
    | inr q =>
      rw [h'] at hF
      dsimp only
      have h1 : ∀ x ∈ (if op = 0 then q.2 else q.2 ++ [(op, 0)]), x.1 ≤ 6 := by
        intro x hx
        by_cases c0 : op = 0
        · rw [if_pos c0] at hx; exact hF x hx
        · rw [if_neg c0] at hx
          rcases List.mem_append.mp hx with hx | hx
          · exact hF x hx
          · have : x = (op, 0) := by simpa using hx
            rw [this]; exact ho
      by_cases c1 : sg q.1 = 0
      · rw [if_pos c1]; exact h1
      · rw [if_neg c1]
        have ih := o6_run (T := T) (n := n) hsg hf k (sg q.1) (q.1 + 1) (hsg _ c1).2
        cases h2 : pRun T n sg fac k (sg q.1) (q.1 + 1) with
        | inl f => trivial
        | inr r =>
          rw [h2] at ih
          intro x hx
          rcases List.mem_append.mp hx with hx | hx
          · exact h1 x hx
          · exact ih x hx
theorem o6_sumO {T : Nat → Nat} {n : Nat} {fac : Nat → RR (Nat × List Ins)} (hf : ∀ p, O6 (fac p)) (p : Nat) : O6 (pSumO T n fac p) := by
  unfold pSumO
  refine o6_run (fun _ => addN_rg) (fun p => ?_) 240 0 p (by decide)
  unfold pTerm
  exact o6_run (fun _ => mulN_rg) hf 240 0 p (by decide)
theorem o6_fac {T : Nat → Nat} {n : Nat} {br : Option (Nat → RR (Nat × List Ins))} (hb : ∀ s, br = some s → ∀ p, O6 (s p)) (p : Nat) : O6 (pFac T n br p) := by
  unfold pFac
  by_cases c1 : dig T n p = true
  · rw [if_pos c1]
    cases h' : pNum T n 5 p 0 with
    | inl f => trivial
    | inr q =>
      intro x hx
      have : x = (0, q.2) := by simpa using hx
      rw [this]; exact Nat.zero_le 6
  rw [if_neg c1]
  by_cases c2 : isC T n p 91 = true
  · rw [if_pos c2]
    cases br with
    | none => trivial
    | some s =>
      have hs := hb s rfl (p + 1)
      dsimp only
      cases h' : s (p + 1) with
      | inl f => trivial
      | inr q =>
        rw [h'] at hs
        dsimp only
        by_cases c3 : isC T n q.1 93 = true
        · rw [if_pos c3]; exact hs
        · rw [if_neg c3]; trivial
  rw [if_neg c2]
  by_cases c3 : p < n ∧ letN (T p) < 15
  · rw [if_pos c3]
    intro x hx
    have : x = (1, letN (T p)) := by simpa using hx
    rw [this]; exact Nat.le_of_ble_eq_true rfl
  · rw [if_neg c3]; trivial
theorem o6_facD {T : Nat → Nat} {n : Nat} : ∀ d p, O6 (pFacD T n d p)
  | 0, p => o6_fac (fun s e => by cases e) p
  | d + 1, p => o6_fac (fun s e p => by
      injection e with e
      rw [← e]
      exact o6_sumO (o6_facD d) p) p
theorem o6_sum {T : Nat → Nat} {n d : Nat} (p : Nat) : O6 (pSum T n d p) := o6_sumO (o6_facD d) p
def TyLaw : Nat → List Cla → Prop
  | _, [] => True
  | c, x :: r => (TY x.2.1 c 0 1 ∧ ∀ y ∈ x.2.1, y.1 ≤ 6) ∧ TY x.2.2 (c + x.2.1.length) 0 100 ∧ TyLaw (c + x.2.1.length + x.2.2.length) r
theorem ty_cla {T : Nat → Nat} {n k p c : Nat} : match pCla T n k p c with
    | .inl _ => True
    | .inr q => (TY q.2.2.1 c 0 1 ∧ ∀ y ∈ q.2.2.1, y.1 ≤ 6) ∧ TY q.2.2.2 (c + q.2.2.1.length) 0 100 := by
  unfold pCla
  by_cases c1 : p < n ∧ clsN (T p) < 8
  · rw [if_pos c1]
    by_cases c2 : k = 16
    · rw [if_pos c2]; trivial
    rw [if_neg c2]
    have h1 := ty_sum (T := T) (n := n) (Nat.le_refl 6) (Nat.zero_le 1) (p + 1) c
    have o1 := o6_sum (T := T) (n := n) (d := 6) (p + 1)
    cases e1 : pSum T n 6 (p + 1) with
    | inl f => trivial
    | inr q =>
      rw [e1] at h1 o1
      dsimp only
      by_cases c3 : isC T n q.1 40 = true
      · rw [if_pos c3]
        have h2 := ty_cho (T := T) (n := n) (q.1 + 1) (c + q.2.length)
        cases e2 : pCho T n 5 (q.1 + 1) (c + q.2.length) with
        | inl f => trivial
        | inr r =>
          rw [e2] at h2
          dsimp only
          by_cases c4 : isC T n r.1 41 = true
          · rw [if_pos c4]; exact ⟨⟨h1, o1⟩, h2⟩
          · rw [if_neg c4]; trivial
      · rw [if_neg c3]; trivial
  · rw [if_neg c1]; trivial
theorem ty_law {T : Nat → Nat} {n : Nat} : ∀ (f k p c : Nat), match pLaw T n f k p c with
    | .inl _ => True
    | .inr q => TyLaw c q
  | 0, k, p, c => by unfold pLaw; trivial
  | f + 1, k, p, c => by
    unfold pLaw
    have h := ty_cla (T := T) (n := n) (k := k) (p := p) (c := c)
    cases h' : pCla T n k p c with
    | inl f => trivial
    | inr q =>
      rw [h'] at h
      dsimp only
      by_cases c1 : n ≤ q.1
      · rw [if_pos c1]; exact ⟨h.1, h.2, trivial⟩
      rw [if_neg c1]
      by_cases c2 : isC T n q.1 59 = true
      · rw [if_pos c2]
        have ih := ty_law (T := T) (n := n) f (k + 1) (q.1 + 1) (c + q.2.2.1.length + q.2.2.2.length)
        cases h2 : pLaw T n f (k + 1) (q.1 + 1) (c + q.2.2.1.length + q.2.2.2.length) with
        | inl f => trivial
        | inr r =>
          rw [h2] at ih
          exact ⟨h.1, h.2, ih⟩
      · rw [if_neg c2]; trivial
