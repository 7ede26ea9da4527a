/-! PURE: what is lost, thirst, fear -/
def LawV (B : xMem) (V : Nat → (Nat → Int32) → Int32) : Prop := ∀ a, a < 8 → Cong15 (V a) ∧ (∀ F, (xTab 0).getD a 0 ≤ V a F ∧ V a F ≤ (xTab 1).getD a 0) ∧
    (∀ N, lawC B N → ∃ N', g3_ask (nI a) N = some (V a (N 101), N') ∧ Off [27, 28, 29] N N') ∧
    (∀ N, lawM B N → ∃ N', g9_byLaw (lawCh a) ((xTab 0).getD a 0) ((xTab 1).getD a 0) N = some (V a (N 186), N') ∧ Off [185] N N')
theorem lawV_of {M : xMem} (L : LawRel M) : ∃ V, LawV M V := by
  refine ⟨fun a => if h : a < 8 then (ask_eq L h).choose else fun _ => 0, fun a ha => ?_⟩
  simp only [dif_pos ha]
  exact (ask_eq L ha).choose_spec
theorem lawC.tr {A B C : xMem} (h : lawC A B) (g : lawC B C) : lawC A C := fun b hb => (g b hb).trans (h b hb)
theorem lawM.tr {A B C : xMem} (h : lawM A B) (g : lawM B C) : lawM A C := fun b hb => (g b hb).trans (h b hb)
/-- the law's values lie in their bounds -/
def VB (V : Nat → (Nat → Int32) → Int32) : Prop := ∀ a, a < 8 → Cong15 (V a) ∧ ∀ F, (xTab 0).getD a 0 ≤ V a F ∧ V a F ≤ (xTab 1).getD a 0
theorem LawV.vb {B : xMem} {V : Nat → (Nat → Int32) → Int32} (L : LawV B V) : VB V := fun a ha => ⟨(L a ha).1, (L a ha).2.1⟩
theorem VB.nat {V : Nat → (Nat → Int32) → Int32} (L : VB V) {a m : Nat} (ha : a < 8) (h0 : (xTab 0).getD a 0 = 0) (h1 : (xTab 1).getD a 0 = nI m) (hm : m < 2147483648) (F : Nat → Int32) : ∃ j, j ≤ m ∧ V a F = nI j := by
  obtain ⟨l, u⟩ := (L a ha).2 F
  rw [h0] at l
  rw [h1] at u
  obtain ⟨j, hj, e⟩ := nI_of (i_ge (n := 0) (by omega) l)
  rw [e] at u
  exact ⟨j, (nI_leI hj hm).mp u, e⟩
theorem askOf_eq {p h q a : Nat} {r : Int32} {B M : xMem} {V : Nat → (Nat → Int32) → Int32} (L : LawV B V) (lb : lawC B M) (hp : p < 10) (hh : h < 6) (hq : q < 196) (eq : M p (274 + h) = nI q) (ha : a < 8) :
    ∃ K, g0_askOf p (nI h) (nI a) r M = some (V a (lHerd (M p) h r), K) ∧ Off [101, 27, 28, 29] M K := by
  unfold g0_askOf
  obtain ⟨K, e, o, hz⟩ := tellHerd_eq (r := r) hp hh hq eq
  obtain ⟨vc, -, hA, -⟩ := L a ha
  obtain ⟨K', e', o'⟩ := hA K (lb.tr (lawC.off' o (by decide)))
  exact ⟨K', by rw [bs e, bs e', vc _ _ hz], (o.mono (by decide)).tr (o'.mono (by decide))⟩
theorem ask9_eq {h q a : Nat} {r : Int32} {B M : xMem} {V : Nat → (Nat → Int32) → Int32} (L : LawV B V) (lb : lawM B M) (hh : h < 6) (hq : q < 196) (eq : M 7 (274 + h) = nI q) (ha : a < 8) :
    ∃ K K', g9_feelsHerd (nI h) r M = some K ∧ Off [186] M K ∧ g9_byLaw (lawCh a) ((xTab 0).getD a 0) ((xTab 1).getD a 0) K = some (V a (lHerd (M 7) h r), K') ∧ Off [186, 185] M K' := by
  obtain ⟨K, e, o, hz⟩ := feelsHerd_eq (r := r) hh hq eq
  obtain ⟨vc, -, -, hB⟩ := L a ha
  obtain ⟨K', e', o'⟩ := hB K (lb.tr (lawM.off' o (by decide)))
  exact ⟨K, K', e, o, by rw [e', vc _ _ hz], (o.mono (by decide)).tr (o'.mono (by decide))⟩
/-- so many of a herd are lost -/
def sLose (R : Nat → Int32) (h : Nat) (n : Int32) : Int32 := xMin n (R (280 + h))
def sLost (R : Nat → Int32) (h : Nat) (n : Int32) : Nat → Int32 := upd R (280 + h) (R (280 + h) - sLose R h n)
def ledAt (g : Int32) : Nat := if g = -1 then 326 else 308 + g.toNatClampNeg
def sLed (R : Nat → Int32) (g l : Int32) : Nat → Int32 := upd R (ledAt g) (R (ledAt g) + l)
def GoalOk (g : Int32) : Prop := g = -1 ∨ ∃ l : Nat, l < 18 ∧ g = nI l
theorem ledAt_lt {g : Int32} (hg : GoalOk g) : 308 ≤ ledAt g ∧ ledAt g < 327 := by
  unfold ledAt
  rcases hg with rfl | ⟨l, hl, rfl⟩
  · rw [if_pos rfl]; omega
  · have : ¬ nI l = -1 := fun e => by
      have h1 := nI_pos (n := l) (by omega)
      rw [e] at h1
      exact h1 (by decide)
    rw [if_neg this, i_cl (by omega)]
    omega
theorem sGoal_ok {v : (Nat → Int32) → Int32} {R : Nat → Int32} {h : Nat} : ∀ (d k : Nat) (g b : Int32), k + d = 18 → GoalOk g → GoalOk (sGoal v R h d k g b)
  | 0, _, g, _, _, hg => hg
  | d + 1, k, g, b, hk, hg => by
    unfold sGoal
    split
    · exact sGoal_ok d (k + 1) _ _ (by omega) (Or.inr ⟨k, by omega, rfl⟩)
    · exact sGoal_ok d (k + 1) _ _ (by omega) hg
theorem lose_eq {p h : Nat} {n : Int32} {M : xMem} (hh : h < 6) : ∃ K, g0_lose p (nI h) n M = some (sLose (M p) h n, K) ∧ K p = sLost (M p) h n ∧ Off [p] M K := by
  unfold g0_lose
  simp (disch := omega) only [↓reduceIte, i_lt0, i_cl, nle_f, or_self, mset_eq]
  exact ⟨_, rfl, up_row, Off.up (by simp)⟩
theorem min9_eq {a b : Int32} {M : xMem} : g9_min a b M = some (xMin a b, M) := by
  unfold g9_min xMin
  by_cases c : b ≤ a
  · rw [if_pos c]
    by_cases c2 : b < a
    · rw [if_pos c2]
    · rw [if_neg c2]
      have : a = b := Int32.toInt_inj.mp (by
        have h1 := (fa_le' _ _).mp c
        have h2 : ¬ b.toInt < a.toInt := fun q => c2 ((fa_lt' _ _).mpr q)
        omega)
      rw [this]
  · rw [if_neg c]
    have c2 : ¬ b < a := fun q => c ((fa_le' _ _).mpr (by have := (fa_lt' _ _).mp q; omega))
    rw [if_neg c2]
theorem sLed_of {R : Nat → Int32} {k : Nat} {v l g : Int32} (hk : ledAt g ≠ k) : upd (upd R k v) (ledAt g) (R (ledAt g) + l) = sLed (upd R k v) g l := by
  unfold sLed
  rw [ud_n hk]
theorem lose9_eq {h : Nat} {n g : Int32} {M : xMem} (hh : h < 6) (hg : GoalOk g) : ∃ K, g9_loses (nI h) n g M = some (sLose (M 7) h n, K) ∧ K 7 = sLed (sLost (M 7) h n) g (sLose (M 7) h n) ∧ Off [7] M K := by
  unfold g9_loses g9_loses_b50
  have hl := ledAt_lt hg
  simp (disch := omega) only [↓reduceIte, i_lt0, i_cl, i_al, nle_f, or_self, mset_eq]
  rw [bs min9_eq]
  refine ⟨upM (upM M 7 (280 + h) (M 7 (280 + h) - sLose (M 7) h n)) 7 (ledAt g) (M 7 (ledAt g) + sLose (M 7) h n), ?_, ?_, (Off.up (by simp)).up' (by simp)⟩
  · show (if g = -1 then _ else _) = _
    rcases hg with rfl | ⟨l, hl', rfl⟩
    · rw [if_pos rfl, if_neg (by decide)]
      have e : ((308 : Int32) + 18).toNatClampNeg = 326 := by decide
      have e2 : ledAt (-1) = 326 := rfl
      rw [e, e2, up_i (by omega)]
      rfl
    · have nn : ¬ nI l = -1 := fun e => by
        have h1 := nI_pos (n := l) (by omega)
        rw [e] at h1
        exact h1 (by decide)
      have e2 : ledAt (nI l) = 308 + l := by
        unfold ledAt
        rw [if_neg nn, i_cl (by omega)]
      rw [if_neg nn, e2]
      simp (disch := omega) only [↓reduceIte, i_lt0, i_cl, i_al, nle_f, or_self]
      rw [up_i (by omega)]
      rfl
  · rw [up_row, up_row]
    exact sLed_of (by omega)
/-- what the led do not touch -/
theorem sLed_n {R : Nat → Int32} {g l : Int32} (hg : GoalOk g) {k : Nat} (hk : k < 308 ∨ 327 ≤ k) : sLed R g l k = R k := by
  have := ledAt_lt hg
  exact ud_n (by omega)
theorem lHerd_eq {R R' : Nat → Int32} {h q : Nat} {r : Int32} (hh : h < 6) (hq : q < 196) (eq : R (274 + h) = nI q) (hR : ∀ k, k < 308 ∨ 327 ≤ k → R' k = R k) : lHerd R' h r = lHerd R h r := by
  funext i
  unfold lHerd lTime sClouded
  rw [hR (274 + h) (by omega), hR (292 + h) (by omega), hR (286 + h) (by omega), hR (280 + h) (by omega), hR 328 (by omega), hR 327 (by omega), hR 329 (by omega), eq, i_cl (by omega), hR q (by omega)]
theorem sLed_upd {R : Nat → Int32} {g l v : Int32} (hg : GoalOk g) {k : Nat} (hk : k < 308 ∨ 327 ≤ k) : upd (sLed R g l) k v = sLed (upd R k v) g l := by
  have := ledAt_lt hg
  unfold sLed
  rw [ud_n (show ledAt g ≠ k by omega)]
  funext j
  unfold upd
  by_cases c1 : j = k
  · subst c1
    rw [if_pos rfl, if_neg (by omega), if_pos rfl]
  · rw [if_neg c1]
    by_cases c2 : j = ledAt g
    · rw [if_pos c2, if_pos c2]
    · rw [if_neg c2, if_neg c2, if_neg c1]
theorem sLed_0 {R : Nat → Int32} {g : Int32} : sLed R g 0 = R := by
  unfold sLed
  rw [Int32.add_zero, ud_id]
theorem sLed_add {R : Nat → Int32} {g a b : Int32} : sLed (sLed R g a) g b = sLed R g (a + b) := by
  unfold sLed
  rw [ud_s, Int32.add_assoc]
  funext j
  unfold upd
  by_cases c : j = ledAt g
  · rw [if_pos c, if_pos c]
  · rw [if_neg c, if_neg c, if_neg c]
/-- the stages of an hour -/
def sSort (R : Nat → Int32) (h : Nat) : Int32 := R (R (274 + h)).toNatClampNeg
def sBog (V : Nat → (Nat → Int32) → Int32) (R : Nat → Int32) (h d : Nat) : (Nat → Int32) × Int32 :=
  if sSort R h = 1 then (sLost R h (V 2 (lHerd R h (nI d))), sLose R h (V 2 (lHerd R h (nI d)))) else (R, 0)
def sDry (V : Nat → (Nat → Int32) → Int32) (R : Nat → Int32) (h d : Nat) : Nat → Int32 :=
  upd R (286 + h) (if sSort R h = 2 then 0 else xMin (R (286 + h) + V 3 (lHerd R h (nI d))) 99)
def sDie (V : Nat → (Nat → Int32) → Int32) (R : Nat → Int32) (h d : Nat) : (Nat → Int32) × Int32 :=
  if R (286 + h) = 99 then (sLost R h (V 4 (lHerd R h (nI d))), sLose R h (V 4 (lHerd R h (nI d)))) else (R, 0)
def sScare (V : Nat → (Nat → Int32) → Int32) (R : Nat → Int32) (h d : Nat) : Nat → Int32 := upd R (292 + h) (xMax 0 (xMin 99 (R (292 + h) + V 5 (lHerd R h (nI d)))))
def sGoB (R : Nat → Int32) (h : Nat) (g : Int32) : (Nat → Int32) × Int32 := if g = -1 then (sOnward R h, -1) else (sFollow R h (sqL R g.toNatClampNeg), g)
def sGo (V : Nat → (Nat → Int32) → Int32) (R : Nat → Int32) (h d : Nat) : (Nat → Int32) × Int32 :=
  if R (292 + h) < 50 then sGoB R h (sGoal (V 0) R h 18 0 (-1) 0) else if V 1 (lHerd R h (nI d)) ≤ nI d then sGoB R h (sGoal (V 0) R h 18 0 (-1) 0) else (sStamp R h d, -1)
def sBear (V : Nat → (Nat → Int32) → Int32) (R : Nat → Int32) (g : Int32) (h d : Nat) : (Nat → Int32) × Int32 :=
  if sOn R h = true then (sLed (sScare V (sDie V (sDry V (sBog V R h d).1 h d) h d).1 h d) g ((sBog V R h d).2 + (sDie V (sDry V (sBog V R h d).1 h d) h d).2), (sBog V R h d).2 + (sDie V (sDry V (sBog V R h d).1 h d) h d).2)
  else (R, 0)
def sMove (V : Nat → (Nat → Int32) → Int32) (R : Nat → Int32) (h d : Nat) : (Nat → Int32) × Int32 := sBear V (sGo V R h d).1 (sGo V R h d).2 h d
theorem sGo_goal {V : Nat → (Nat → Int32) → Int32} {R : Nat → Int32} {h d : Nat} : GoalOk (sGo V R h d).2 := by
  have h0 : GoalOk (sGoal (V 0) R h 18 0 (-1) 0) := sGoal_ok 18 0 (-1) 0 rfl (Or.inl rfl)
  have h1 : GoalOk (sGoB R h (sGoal (V 0) R h 18 0 (-1) 0)).2 := by
    unfold sGoB
    split
    · exact Or.inl rfl
    · exact h0
  unfold sGo
  split
  · exact h1
  split
  · exact h1
  · exact Or.inl rfl
