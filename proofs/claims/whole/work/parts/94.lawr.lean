/-! PURE: a law read by both is one law -/
def codeAt (l : List Ins) (c : Nat) : Nat → Ins := fun x => l.getD (x - c) (0, 0)
theorem codeAt_0 {i : Ins} {l : List Ins} {c : Nat} : codeAt (i :: l) c c = i := by
  unfold codeAt
  rw [Nat.sub_self]
  rfl
theorem codeAt_s {i : Ins} {l : List Ins} {c x : Nat} (h : c < x) : codeAt (i :: l) c x = codeAt l (c + 1) x := by
  unfold codeAt
  rw [show x - c = (x - (c + 1)) + 1 by omega]
  rfl
theorem codeAt_R {P : Nat → Int32} : ∀ (l : List Ins) (c : Nat), RdL P c l → CodeR P (codeAt l c) c (c + l.length)
  | [], c, _ => fun x h1 h2 => absurd h2 (by show ¬ x < c + 0; omega)
  | i :: l, c, h => fun x h1 h2 => by
    have hl : (i :: l).length = l.length + 1 := rfl
    by_cases q : x = c
    · subst q; rw [codeAt_0]; exact h.1
    · rw [codeAt_s (by omega)]
      exact codeAt_R l (c + 1) h.2 x (by omega) (by omega)
theorem codeAt_T {m : Nat → Nat} {e : Nat} : ∀ (l : List Ins) (c : Nat), TYm m e c l → ∀ x, c ≤ x → x < c + l.length → okI m e x (codeAt l c x)
  | [], c, _ => fun x h1 h2 => absurd h2 (by show ¬ x < c + 0; omega)
  | i :: l, c, h => fun x h1 h2 => by
    have hl : (i :: l).length = l.length + 1 := rfl
    by_cases q : x = c
    · subst q; rw [codeAt_0]; exact h.1
    · rw [codeAt_s (by omega)]
      exact codeAt_T l (c + 1) h.2 x (by omega) (by omega)
theorem codeAt_C {P Q : Nat → Int32} {sh : Nat} : ∀ (l : List Ins) (c : Nat), WrL P Q sh (c + sh) l → ∀ x, c ≤ x → x < c + l.length → P (x + sh) = nI (cop (codeAt l c x).1) ∧ Q (x + sh) = nI (carg sh (codeAt l c x))
  | [], c, _ => fun x h1 h2 => absurd h2 (by show ¬ x < c + 0; omega)
  | i :: l, c, h => fun x h1 h2 => by
    have hl : (i :: l).length = l.length + 1 := rfl
    by_cases q : x = c
    · subst q; rw [codeAt_0]; exact ⟨h.1, h.2.1⟩
    · rw [codeAt_s (by omega)]
      exact codeAt_C l (c + 1) (by rw [Nat.add_right_comm]; exact h.2.2) x (by omega) (by omega)
theorem TYm_15 {m : Nat → Nat} {e : Nat} : ∀ (l : List Ins) (c j : Nat), TYm m e c l → (l.getD j (0, 0)).1 = 1 → (l.getD j (0, 0)).2 < 15
  | [], _, _, _, h => absurd (show (0 : Nat) = 1 from h) (by decide)
  | i :: l, c, 0, h, q => by
    have q' : i.1 = 1 := q
    obtain ⟨-, h1⟩ := h.1
    rcases h1 with ⟨_, _, _, a⟩ | ⟨a, _⟩ | ⟨a, _⟩ | ⟨a, _⟩ | ⟨a | a, _⟩
    · exact a q'
    all_goals omega
  | i :: l, c, j + 1, h, q => TYm_15 l (c + 1) j h.2 q
theorem WrL_sh {P Q : Nat → Int32} {sh : Nat} : ∀ (l : List Ins) (s : Nat), WrL P Q 0 s l → (∀ x ∈ l, x.1 ≤ 6) → WrL P Q sh s l
  | [], _, _, _ => trivial
  | i :: l, s, h, h6 => by
    have hi := h6 i (List.mem_cons_self ..)
    refine ⟨h.1, ?_, WrL_sh l (s + 1) h.2.2 fun x hx => h6 x (List.mem_cons_of_mem _ hx)⟩
    rw [h.2.1]
    unfold carg
    rw [if_neg (by omega), if_neg (by omega)]
def evC (l : List Ins) (c : Nat) (F : Nat → Int32) : Option Int32 := ev F (codeAt l c) (c + l.length) 300 c []
theorem evC_cg {l : List Ins} {c a b : Nat} (h : TY l c a b) {F F' : Nat → Int32} (hf : ∀ i, i < 15 → F i = F' i) : evC l c F = evC l c F' := by
  obtain ⟨m, _, _, h3⟩ := h
  exact ev_cg hf (fun x _ q => TYm_15 l c (x - c) h3 q) 300 c []
theorem run_cls {l : List Ins} {c sh z b : Nat} (ht : TY l c 0 b) (hb : b = 1 ∨ b = 100) (hz : z ≤ 240) (he : c + l.length + sh < z) {N : xMem} {a : Int32} (ha : a = nI (c + sh)) (h22 : N 22 0 = nI z) (hw : WrL (N 20) (N 21) sh (c + sh) l) (hend : N 20 (c + l.length + sh) = 0) : ∃ r K, g3_run a N = some (r, K) ∧ Off [27, 28, 29] N K ∧ ClRes b r K (evC l c (N 101)) := by
  obtain ⟨m, m1, m2, m3⟩ := ht
  subst ha
  unfold g3_run
  rw [mset_eq, mset_eq]
  have hx : xMax (nI (c + sh)) 0 = nI (c + sh) := if_neg (nI_pos (by omega))
  rw [hx]
  have oo : Off [27, 28, 29] N (upM (upM N 28 0 0) 29 0 0) := (Off.up (by decide)).up' (by decide)
  obtain ⟨r, K, e1, e2, e3⟩ := cls_run (code := codeAt l c) (m := m) (c := c) (e := c + l.length) (b := b) (sh := sh) (z := z) (fun x h1 h2 => codeAt_T l c m3 x h1 h2) he hz m2 hb 300 c 5000 [] 0 (upM (upM N 28 0 0) 29 0 0) (by omega) (by omega) (Nat.le_refl _) (by omega) (by rw [oo 20 (by decide), oo 21 (by decide)]; exact ⟨codeAt_C l c hw, hend⟩) (by rw [oo 22 (by decide), h22]) (Or.inl ⟨by omega, by rw [m1]; rfl, rfl, trivial⟩)
  rw [oo 101 (by decide)] at e3
  exact ⟨r, K, e1, oo.tr e2, e3⟩
theorem run_ref {l : List Ins} {c b : Nat} (ht : TY l c 0 b) (hb : b = 1 ∨ b = 100) (he : c + l.length ≤ 240) {N : xMem} {a a2 : Int32} (ha : a = nI c) (ha2 : a2 = nI (c + l.length)) (hr : RdL (N 180) c l) : ∃ K, g9_comesTo a a2 N = some ((evC l c (N 186)).getD 0, K) ∧ Off [185] N K := by
  obtain ⟨m, m1, m2, m3⟩ := ht
  subst ha ha2
  unfold g9_comesTo
  have h0 : (260 : Int32) * (nI c / 260) = 0 := by
    rw [show nI c / 260 = nI (c / 260) from pk_div (by omega) (by decide) (by decide), show c / 260 = 0 by omega]
    rfl
  rw [h0]
  exact ref_run (code := codeAt l c) (m := m) (c := c) (e := c + l.length) (b := b) (fun x h1 h2 => codeAt_T l c m3 x h1 h2) he m2 hb 300 c 5000 [] N (by omega) (by omega) (Nat.le_refl _) (by omega) (codeAt_R l c hr) (Or.inl ⟨by omega, by rw [m1]; rfl⟩) trivial
theorem law_get {K : xMem} {P L A B C : Nat → Int32} {z : Nat} : ∀ (q : List Cla) (i c : Nat), LawCls K i c q → LawRef P L A B C i c q → TyLaw c q → c + 2 * i + totL q ≤ z → ∀ j, j < q.length → ∃ c' x, x ∈ q ∧ ClsAt K (i + j) c' x ∧ ClsR P L A B C (i + j) c' x ∧ (TY x.2.1 c' 0 1 ∧ ∀ y ∈ x.2.1, y.1 ≤ 6) ∧ TY x.2.2 (c' + x.2.1.length) 0 100 ∧ c' + 2 * (i + j) + x.2.1.length + x.2.2.length + 2 ≤ z
  | [], _, _, _, _, _, _, j, hj => absurd hj (by show ¬ j < 0; omega)
  | x :: r, i, c, h1, h2, h3, hz, 0, hj => ⟨c, x, List.mem_cons_self .., h1.1, h2.1, h3.1, h3.2.1, by
      have ht : totL (x :: r) = x.2.1.length + x.2.2.length + 2 + totL r := rfl
      omega⟩
  | x :: r, i, c, h1, h2, h3, hz, j + 1, hj => by
    have ht : totL (x :: r) = x.2.1.length + x.2.2.length + 2 + totL r := rfl
    have hl : (x :: r).length = r.length + 1 := rfl
    obtain ⟨c', y, a1, a2, a3, a4, a5, a6⟩ := law_get (z := z) r (i + 1) (c + x.2.1.length + x.2.2.length) h1.2 h2.2 h3.2.2 (by omega) j (by omega)
    have e : i + 1 + j = i + (j + 1) := by omega
    rw [e] at a2 a3 a6
    exact ⟨c', y, List.mem_cons_of_mem _ a1, a2, a3, a4, a5, a6⟩
theorem law_rel {K : xMem} {q : List Cla} {z : Nat} {c20 c21 c22 c23 c24 c25 c26 r180 r181 r182 r183 r184 r173 : Nat → Int32} (hq : q.length ≤ 16) (h26 : c26 0 = nI q.length) (h173 : r173 0 = nI q.length) (h22 : c22 0 = nI z) (hz : z ≤ 240) (hzt : z = 0 + totL q)
    (hc : LawCls K 0 0 q) (hr : LawRef r180 r181 r182 r183 r184 0 0 q) (ht : TyLaw 0 q) (h8 : ∀ x ∈ q, x.1 < 8)
    (b20 : ∀ i, i < 240 → c20 i = K 30 i) (b21 : ∀ i, i < 240 → c21 i = K 31 i) (b23 : ∀ i, i < 16 → c23 i = K 33 i) (b24 : ∀ i, i < 16 → c24 i = K 34 i) (b25 : ∀ i, i < 16 → c25 i = K 35 i) :
    LawR c20 c21 c22 c23 c24 c25 c26 r180 r181 r182 r183 r184 r173 := by
  refine ⟨q.length, hq, h26, h173, fun j hj => ?_⟩
  obtain ⟨c, x, a1, a2, a3, ⟨a4, ao⟩, a5, a6⟩ := law_get (z := z) q 0 0 hc hr ht (by omega) j hj
  rw [Nat.zero_add] at a2 a3 a6
  obtain ⟨k1, k2, k3, k4, k5, k6, k7⟩ := a2
  obtain ⟨l1, l2, l3, l4, l5, l6⟩ := a3
  refine ⟨⟨x.1, h8 x a1, by rw [b23 j (by omega), k1], l1⟩, fun F => decide (evC x.2.2 (c + x.2.1.length) F = some 1), fun F => (evC x.2.1 c F).getD 0, fun N n20 n21 n22 => ⟨?_, ?_⟩, fun N n180 => ⟨?_, ?_⟩, fun F F' hf => ⟨?_, ?_⟩⟩
  · obtain ⟨r, K', e1, e2, e3⟩ := run_cls (sh := 2 * j + 1) (z := z) (b := 100) a5 (Or.inr rfl) hz (by omega) (N := N) (a := c25 j) (by rw [b25 j (by omega), k3]; congr 1; omega) (by rw [n22, h22]) (by
      rw [n20, n21, show c + x.2.1.length + (2 * j + 1) = c + 2 * j + x.2.1.length + 1 by omega]
      exact WrL_fr _ _ k6 fun i h1 h2 => ⟨b20 i (by omega), b21 i (by omega)⟩) (by rw [n20, b20 _ (by omega), show c + x.2.1.length + x.2.2.length + (2 * j + 1) = c + 2 * j + x.2.1.length + 1 + x.2.2.length by omega, k7])
    refine ⟨r, K', e1, e2, ?_⟩
    dsimp only
    cases hv : evC x.2.2 (c + x.2.1.length) (N 101) with
    | none =>
      rw [hv] at e3
      have e3' : r = 0 := e3
      simp [e3']
    | some v =>
      rw [hv] at e3
      obtain ⟨f1, -, f3⟩ := e3
      obtain ⟨f4, f5⟩ := f3 rfl
      rw [f1, f4]
      rcases f5 with f5 | f5 <;> rw [f5] <;> decide
  · obtain ⟨r, K', e1, e2, e3⟩ := run_cls (sh := 2 * j) (z := z) (b := 1) a4 (Or.inl rfl) hz (by omega) (N := N) (a := c24 j) (by rw [b24 j (by omega), k2]) (by rw [n22, h22]) (by
      rw [n20, n21]
      exact WrL_fr _ _ (WrL_sh _ _ k4 ao) fun i h1 h2 => ⟨b20 i (by omega), b21 i (by omega)⟩) (by rw [n20, b20 _ (by omega), show c + x.2.1.length + 2 * j = c + 2 * j + x.2.1.length by omega, k5])
    refine ⟨r, K', e1, e2, ?_⟩
    dsimp only
    cases hv : evC x.2.1 c (N 101) with
    | none =>
      rw [hv] at e3
      have e3' : r = 0 := e3
      rw [if_pos e3']
      rfl
    | some v =>
      rw [hv] at e3
      obtain ⟨f1, f2, -⟩ := e3
      rw [if_neg (show ¬ r = 0 by rw [f1]; decide), f2 rfl]
      rfl
  · obtain ⟨K', e1, e2⟩ := run_ref a5 (Or.inr rfl) (by omega) (N := N) (a := r183 j) (a2 := r184 j) l3 l4 (by rw [n180]; exact l6)
    refine ⟨_, K', e1, e2, ?_⟩
    dsimp only
    cases hv : evC x.2.2 (c + x.2.1.length) (N 186) with
    | none => decide
    | some v =>
      show decide (some v = some 1) = true ↔ v = 1
      simp
  · obtain ⟨K', e1, e2⟩ := run_ref a4 (Or.inl rfl) (by omega) (N := N) (a := r182 j) (a2 := r183 j) l2 l3 (by rw [n180]; exact l5)
    exact ⟨K', e1, e2⟩
  · dsimp only
    rw [evC_cg a5 hf]
  · dsimp only
    rw [evC_cg a4 hf]
