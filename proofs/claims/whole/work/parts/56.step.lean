/-! PURE: steps, class and reference -/
def sX (R : Nat → Int32) (h : Nat) : Int32 := R (274 + h) - R (274 + h) / 14 * 14
def sY (R : Nat → Int32) (h : Nat) : Int32 := R (274 + h) / 14
def sTo (R : Nat → Int32) (h : Nat) (a b : Int32) : Int32 := 14 * (sY R h + b) + (sX R h + a)
def inB (x y : Int32) : Bool := decide (0 ≤ x ∧ x < 14 ∧ 0 ≤ y ∧ y < 14)
abbrev inP (x y : Int32) : Prop := inB x y = true
theorem inP_m {x y : Int32} (h : 0 ≤ x ∧ x < 14 ∧ 0 ≤ y ∧ y < 14) : inP x y := decide_eq_true h
theorem inP_e {x y : Int32} (h : inP x y) : 0 ≤ x ∧ x < 14 ∧ 0 ≤ y ∧ y < 14 := of_decide_eq_true h
theorem isIn_eq {x y : Int32} {M : xMem} : g9_isIn x y M = some (b2i (inP x y), M) := by
  have n1 : ∀ a b : Int32, a < b → ¬ b ≤ a := fun a b c q => by
    have := (fa_lt' _ _).mp c
    have := (fa_le' _ _).mp q
    omega
  have n2 : ∀ a b : Int32, ¬ a < b → b ≤ a := fun a b c => (fa_le' _ _).mpr (by
    have : ¬ a.toInt < b.toInt := fun q => c ((fa_lt' _ _).mpr q)
    omega)
  have n3 : ∀ a b : Int32, ¬ a ≤ b → b < a := fun a b c => (fa_lt' _ _).mpr (by
    have : ¬ a.toInt ≤ b.toInt := fun q => c ((fa_le' _ _).mpr q)
    omega)
  unfold g9_isIn
  by_cases c1 : x < 0
  · rw [if_pos c1, b2i_f (fun q => n1 _ _ c1 (inP_e q).1)]
  rw [if_neg c1]
  by_cases c2 : (14 : Int32) ≤ x
  · rw [if_pos c2, b2i_f (fun q => n1 _ _ (inP_e q).2.1 c2)]
  rw [if_neg c2]
  by_cases c3 : y < 0
  · rw [if_pos c3, b2i_f (fun q => n1 _ _ c3 (inP_e q).2.2.1)]
  rw [if_neg c3]
  by_cases c4 : (14 : Int32) ≤ y
  · rw [if_pos c4, b2i_f (fun q => n1 _ _ (inP_e q).2.2.2 c4)]
  rw [if_neg c4, b2i_t (inP_m ⟨n2 _ _ c1, n3 _ _ c2, n2 _ _ c3, n3 _ _ c4⟩)]
theorem inP_nat {x y : Int32} (h : inP x y) : ∃ i j : Nat, i < 14 ∧ j < 14 ∧ x = nI i ∧ y = nI j := by
  obtain ⟨h1, h2, h3, h4⟩ := inP_e h
  have h1' : ¬ x < 0 := i_ge (n := 0) (by omega) h1
  have h3' : ¬ y < 0 := i_ge (n := 0) (by omega) h3
  obtain ⟨i, hi, rfl⟩ := nI_of h1'
  obtain ⟨j, hj, rfl⟩ := nI_of h3'
  exact ⟨i, j, (nI_ltI hi (by omega)).mp h2, (nI_ltI hj (by omega)).mp h4, rfl, rfl⟩
def sCan (R : Nat → Int32) (h : Nat) (a b : Int32) : Bool := decide (inP (sX R h + a) (sY R h + b)) && decide (R (sTo R h a b).toNatClampNeg ≠ 3)
def sStep (R : Nat → Int32) (h : Nat) (a b : Int32) : Nat → Int32 := if sCan R h a b = true then upd R (274 + h) (sTo R h a b) else R
theorem sTo_nat {R : Nat → Int32} {h : Nat} {a b : Int32} (c : inP (sX R h + a) (sY R h + b)) : ∃ q : Nat, q < 196 ∧ sTo R h a b = nI q := by
  obtain ⟨i, j, hi, hj, e1, e2⟩ := inP_nat c
  refine ⟨14 * j + i, by omega, ?_⟩
  unfold sTo
  rw [e1, e2, show (14 : Int32) = nI 14 from rfl, pk_mul, nI_add]
theorem sStep_ok {R : Nat → Int32} (ok : RowOk R) {h : Nat} (hh : h < 6) {a b : Int32} : RowOk (sStep R h a b) := by
  unfold sStep
  by_cases c : sCan R h a b = true
  · rw [if_pos c]
    unfold sCan at c
    simp only [Bool.and_eq_true, decide_eq_true_eq] at c
    obtain ⟨q, hq, e⟩ := sTo_nat c.1
    rw [e]
    exact ok.upd (ok_le (bd_sq h hh) (by omega))
  · rw [if_neg c]; exact ok
theorem step_eq {p h : Nat} {a b : Int32} {M : xMem} (hh : h < 6) : ∃ K, g0_step p (nI h) a b M = some (b2i (sCan (M p) h a b = true), K) ∧ K p = sStep (M p) h a b ∧ Off [p] M K := by
  unfold g0_step
  simp (disch := omega) only [↓reduceIte, i_lt0, i_cl, nle_f, or_self, sq8_9]
  show ∃ K, Option.bind (g9_isIn (sX (M p) h + a) (sY (M p) h + b) M) _ = _ ∧ _
  rw [bs isIn_eq]
  simp only [b2i_0]
  by_cases c : inP (sX (M p) h + a) (sY (M p) h + b)
  · rw [if_neg (fun x => x c)]
    obtain ⟨q, hq, e⟩ := sTo_nat c
    show ∃ K, Option.bind (g6_sortAt p (sTo (M p) h a b) M) (fun q5 => if q5.1 = 3 then some (0, q5.2) else mset (upM q5.2 p (274 + h) (sTo (M p) h a b)) fun M8 => some (1, M8)) = _ ∧ _
    rw [e, bs (sortAt_in hq)]
    by_cases c2 : M p q = 3
    · have c3 : ¬ sCan (M p) h a b = true := by
        unfold sCan
        rw [e, i_cl (by omega)]
        simp [c2]
      refine ⟨M, ?_, ?_, Off.rf⟩
      · rw [if_pos c2, b2i_f c3]
      · unfold sStep
        rw [if_neg c3]
    · have c3 : sCan (M p) h a b = true := by
        unfold sCan
        rw [e, i_cl (by omega)]
        simp [c2, c]
      refine ⟨upM M p (274 + h) (nI q), ?_, ?_, Off.up (by simp)⟩
      · rw [if_neg c2, b2i_t c3]; rfl
      · unfold sStep
        rw [if_pos c3, up_row, e]
  · have c3 : ¬ sCan (M p) h a b = true := by
      unfold sCan
      simp [c]
    refine ⟨M, ?_, ?_, Off.rf⟩
    · rw [if_pos c, b2i_f c3]
    · unfold sStep
      rw [if_neg c3]
theorem step9_eq {h : Nat} {a b : Int32} {M : xMem} (hh : h < 6) : ∃ K, g9_steps (nI h) a b M = some (b2i (sCan (M 7) h a b = true), K) ∧ K 7 = sStep (M 7) h a b ∧ Off [7] M K := by
  unfold g9_steps
  simp (disch := omega) only [↓reduceIte, i_lt0, i_cl, i_al, nle_f, or_self]
  show ∃ K, Option.bind (g9_isIn (sX (M 7) h + a) (sY (M 7) h + b) M) _ = _ ∧ _
  rw [bs isIn_eq]
  simp only [b2i_0]
  by_cases c : inP (sX (M 7) h + a) (sY (M 7) h + b)
  · rw [if_neg (fun x => x c)]
    obtain ⟨q, hq, e⟩ := sTo_nat c
    show ∃ K, Option.bind (g9_isRock (sTo (M 7) h a b) M) (fun q5 => if q5.1 = 0 then mset (upM q5.2 7 (274 + h) (sTo (M 7) h a b)) fun M8 => some (1, M8) else some (0, q5.2)) = _ ∧ _
    rw [e, bs (rock9_in (by omega))]
    simp only [b2i_0]
    by_cases c2 : M 7 q = 3
    · have c3 : ¬ sCan (M 7) h a b = true := by
        unfold sCan
        rw [e, i_cl (by omega)]
        simp [c2]
      refine ⟨M, ?_, ?_, Off.rf⟩
      · rw [if_neg (fun x => x c2), b2i_f c3]
      · unfold sStep
        rw [if_neg c3]
    · have c3 : sCan (M 7) h a b = true := by
        unfold sCan
        rw [e, i_cl (by omega)]
        simp [c2, c]
      refine ⟨upM M 7 (274 + h) (nI q), ?_, ?_, Off.up (by simp)⟩
      · rw [if_pos c2, b2i_t c3]; rfl
      · unfold sStep
        rw [if_pos c3, up_row, e]
  · have c3 : ¬ sCan (M 7) h a b = true := by
      unfold sCan
      simp [c]
    refine ⟨M, ?_, ?_, Off.rf⟩
    · rw [if_pos c, b2i_f c3]
    · unfold sStep
      rw [if_neg c3]
/-- stampedes: twice one square -/
def dX (d : Nat) : Int32 := (xTab 2).getD (d % 4) 0
def dY (d : Nat) : Int32 := (xTab 3).getD (d % 4) 0
def sStamp (R : Nat → Int32) (h d : Nat) : Nat → Int32 := sStep (sStep R h (dX d) (dY d)) h (dX d) (dY d)
theorem and3 : ∀ d, d < 10 → nI d &&& 3 = nI (d % 4) := by decide +kernel
theorem rem4 : ∀ d, d < 10 → nI d - nI d / 4 * 4 = nI (d % 4) := by decide +kernel
theorem stampede_eq {p h d : Nat} {M : xMem} (hh : h < 6) (hd : d < 10) : ∃ K, g0_stampede p (nI h) (nI d) M = some K ∧ K p = sStamp (M p) h d ∧ Off [p] M K := by
  unfold g0_stampede
  rw [and3 d hd, show (5000 : Nat) = 4997 + 1 + 1 + 1 from rfl]
  have hm : d % 4 < 4 := Nat.mod_lt _ (by omega)
  obtain ⟨K1, e1, r1, o1⟩ := step_eq (p := p) (M := M) (a := dX d) (b := dY d) hh
  obtain ⟨K2, e2, r2, o2⟩ := step_eq (p := p) (M := K1) (a := dX d) (b := dY d) hh
  unfold dX dY at e1 e2
  refine ⟨K2, ?_, ?_, o1.tr o2⟩
  · rw [g0_stampede_b8]
    simp (disch := omega) only [↓reduceIte, i_lt0, i_cl, nle_f, or_self]
    rw [if_neg (by decide), bs e1, g0_stampede_b8]
    simp (disch := omega) only [↓reduceIte, i_lt0, i_cl, nle_f, or_self]
    rw [if_neg (by decide), bs e2, g0_stampede_b8, if_pos (by decide)]
  · unfold sStamp
    rw [r2, r1]
theorem stampede9_eq {h d : Nat} {M : xMem} (hh : h < 6) (hd : d < 10) : ∃ K, g9_stampedes (nI h) (nI d) M = some K ∧ K 7 = sStamp (M 7) h d ∧ Off [7] M K := by
  unfold g9_stampedes
  rw [rem4 d hd, show (5000 : Nat) = 4997 + 1 + 1 + 1 from rfl]
  have hm : d % 4 < 4 := Nat.mod_lt _ (by omega)
  have go : ∀ (n : Nat) (x : Int32) (N : xMem), ¬ (2 : Int32) ≤ x → ∃ r K, g9_steps (nI h) (dX d) (dY d) N = some (r, K) ∧ K 7 = sStep (N 7) h (dX d) (dY d) ∧ Off [7] N K ∧ g9_stampedes_b7 (n + 1) (nI h) (nI (d % 4)) x N = g9_stampedes_b7 n (nI h) (nI (d % 4)) (x + 1) K := by
    intro n x N hx
    obtain ⟨K1, e1, r1, o1⟩ := step9_eq (M := N) (a := dX d) (b := dY d) hh
    refine ⟨_, K1, e1, r1, o1, ?_⟩
    rw [g9_stampedes_b7, if_neg hx]
    unfold g9_stampedes_b34 g9_stampedes_b52
    unfold dX dY at e1
    rcases (show d % 4 = 0 ∨ d % 4 = 1 ∨ d % 4 = 2 ∨ d % 4 = 3 by omega) with q | q | q | q <;> rw [q] at e1 ⊢
    · rw [if_neg (by decide), if_neg (by decide), if_pos (by decide)]
      exact bs e1
    · rw [if_pos (by decide), if_neg (by decide), if_neg (by decide)]
      exact bs e1
    · rw [if_neg (by decide), if_neg (by decide), if_neg (by decide), if_pos (by decide)]
      exact bs e1
    · rw [if_neg (by decide), if_pos (by decide), if_neg (by decide), if_neg (by decide)]
      exact bs e1
  obtain ⟨_, K1, -, r1, o1, f1⟩ := go (4997 + 1 + 1) 0 M (by decide)
  obtain ⟨_, K2, -, r2, o2, f2⟩ := go (4997 + 1) (0 + 1) K1 (by decide)
  refine ⟨K2, ?_, ?_, o1.tr o2⟩
  · rw [f1, f2, g9_stampedes_b7, if_pos (by decide)]
  · unfold sStamp
    rw [r2, r1]
theorem sStamp_ok {R : Nat → Int32} (ok : RowOk R) {h d : Nat} (hh : h < 6) : RowOk (sStamp R h d) := sStep_ok (sStep_ok ok hh) hh
/-- without a target -/
def sOnward (R : Nat → Int32) (h : Nat) : Nat → Int32 := if sY R h = 13 then upd R (274 + h) 196 else sStep R h 0 1
theorem goOn_eq {p h : Nat} {M : xMem} (hh : h < 6) : ∃ K, g0_goOn p (nI h) M = some K ∧ K p = sOnward (M p) h ∧ Off [p] M K := by
  unfold g0_goOn sOnward
  simp (disch := omega) only [↓reduceIte, i_lt0, i_cl, nle_f, or_self, mset_eq]
  by_cases c : M p (274 + h) / 14 = 13
  · rw [if_pos c, if_pos (show sY (M p) h = 13 from c)]
    exact ⟨_, rfl, up_row, Off.up (by simp)⟩
  · rw [if_neg c, if_neg (show ¬ sY (M p) h = 13 from c)]
    obtain ⟨K1, e1, r1, o1⟩ := step_eq (p := p) (M := M) (a := 0) (b := 1) hh
    exact ⟨K1, by rw [bs e1], r1, o1⟩
theorem goOn9_eq {h : Nat} {M : xMem} (hh : h < 6) : ∃ K, g9_goesOn (nI h) M = some K ∧ K 7 = sOnward (M 7) h ∧ Off [7] M K := by
  unfold g9_goesOn sOnward
  simp (disch := omega) only [↓reduceIte, i_lt0, i_cl, i_al, nle_f, or_self, mset_eq]
  by_cases c : M 7 (274 + h) / 14 = 13
  · rw [if_pos c, if_pos (show sY (M 7) h = 13 from c)]
    exact ⟨_, rfl, up_row, Off.up (by simp)⟩
  · rw [if_neg c, if_neg (show ¬ sY (M 7) h = 13 from c)]
    obtain ⟨K1, e1, r1, o1⟩ := step9_eq (M := M) (a := 0) (b := 1) hh
    exact ⟨K1, by rw [bs e1], r1, o1⟩
theorem sOnward_ok {R : Nat → Int32} (ok : RowOk R) {h : Nat} (hh : h < 6) : RowOk (sOnward R h) := by
  unfold sOnward
  split
  · exact ok.upd (ok_le (v := 196) (bd_sq h hh) (by omega))
  · exact sStep_ok ok hh
/-- towards a square -/
def sgn (x : Int32) : Int32 := if x ≤ 0 then (if 0 ≤ x then 0 else -1) else 1
def sFollow (R : Nat → Int32) (h : Nat) (t : Int32) : Nat → Int32 :=
  let x := (t - t / 14 * 14) - sX R h
  let y := t / 14 - sY R h
  if x = 0 ∧ y = 0 then R
  else if xAbs x < xAbs y then (if sCan R h 0 (sgn y) = true ∨ x = 0 then sStep R h 0 (sgn y) else sStep (sStep R h 0 (sgn y)) h (sgn x) 0)
  else (if sCan R h (sgn x) 0 = true ∨ y = 0 then sStep R h (sgn x) 0 else sStep (sStep R h (sgn x) 0) h 0 (sgn y))
theorem cmp_eq {x : Int32} {M : xMem} : gJ6_compare_7cf53 x 0 M = some (sgn x, M) := by
  unfold gJ6_compare_7cf53 sgn
  by_cases c : 0 ≤ x
  · rw [if_pos c]
    by_cases c2 : x = 0
    · subst c2; rfl
    · have c3 : ¬ x ≤ 0 := fun q => c2 (Int32.toInt_inj.mp (by
        have h1 := (fa_le' _ _).mp c
        have h2 := (fa_le' _ _).mp q
        omega))
      rw [if_neg c2, if_neg c3]
  · have c3 : x ≤ 0 := (fa_le' _ _).mpr (by
      have : ¬ (0 : Int32).toInt ≤ x.toInt := fun q => c ((fa_le' _ _).mpr q)
      omega)
    rw [if_neg c, if_pos c3, if_neg c]
theorem sign9_eq {x : Int32} {M : xMem} : g9_sign x M = some (sgn x, M) := by
  unfold g9_sign sgn
  by_cases c : x ≤ 0
  · rw [if_pos c, if_pos c]
    by_cases c2 : 0 ≤ x
    · rw [if_pos c2, if_pos c2]
    · rw [if_neg c2, if_neg c2]
  · rw [if_neg c, if_neg c]
theorem size9_eq {x : Int32} {M : xMem} : g9_size x M = some (xAbs x, M) := by
  unfold g9_size xAbs
  by_cases c : 0 ≤ x
  · rw [if_pos c, if_pos c]
  · rw [if_neg c, if_neg c, Int32.zero_sub]
theorem sgn_0 {x : Int32} (h : sgn x = 0) : x = 0 := by
  unfold sgn at h
  by_cases c : x ≤ 0
  · rw [if_pos c] at h
    by_cases c2 : 0 ≤ x
    · exact Int32.toInt_inj.mp (by
        have h1 := (fa_le' _ _).mp c
        have h2 := (fa_le' _ _).mp c2
        omega)
    · rw [if_neg c2] at h; exact absurd h (by decide)
  · rw [if_neg c] at h; exact absurd h (by decide)
theorem follow_eq {p h : Nat} {t : Int32} {M : xMem} (hh : h < 6) : ∃ K, g0_follow p (nI h) t M = some K ∧ K p = sFollow (M p) h t ∧ Off [p] M K := by
  unfold g0_follow
  simp (disch := omega) only [↓reduceIte, i_lt0, i_cl, nle_f, or_self]
  rw [bs cmp_eq, bs cmp_eq]
  show ∃ K, (if (t - t / 14 * 14) - sX (M p) h = 0 then (if t / 14 - sY (M p) h = 0 then some M else g0_follow_b62 p (nI h) ((t - t / 14 * 14) - sX (M p) h) (t / 14 - sY (M p) h) (sgn ((t - t / 14 * 14) - sX (M p) h)) (sgn (t / 14 - sY (M p) h)) M) else g0_follow_b62 p (nI h) ((t - t / 14 * 14) - sX (M p) h) (t / 14 - sY (M p) h) (sgn ((t - t / 14 * 14) - sX (M p) h)) (sgn (t / 14 - sY (M p) h)) M) = _ ∧ _
  unfold sFollow
  generalize (t - t / 14 * 14) - sX (M p) h = x
  generalize t / 14 - sY (M p) h = y
  simp only
  by_cases c0 : x = 0 ∧ y = 0
  · rw [if_pos c0.1, if_pos c0.2, if_pos c0]
    exact ⟨M, rfl, rfl, Off.rf⟩
  have hc : (if x = 0 then (if y = 0 then some M else g0_follow_b62 p (nI h) x y (sgn x) (sgn y) M) else g0_follow_b62 p (nI h) x y (sgn x) (sgn y) M) = g0_follow_b62 p (nI h) x y (sgn x) (sgn y) M := by
    by_cases c1 : x = 0
    · rw [if_pos c1, if_neg (fun q => c0 ⟨c1, q⟩)]
    · rw [if_neg c1]
  rw [hc, if_neg c0]
  unfold g0_follow_b62
  by_cases c1 : xAbs x < xAbs y
  · rw [if_pos c1, if_pos c1]
    obtain ⟨K1, e1, r1, o1⟩ := step_eq (p := p) (M := M) (a := 0) (b := sgn y) hh
    rw [bs e1]
    simp only [b2i_0]
    by_cases c2 : sCan (M p) h 0 (sgn y) = true
    · rw [if_neg (fun q => q c2), if_pos (Or.inl c2)]
      exact ⟨K1, rfl, r1, o1⟩
    rw [if_pos c2]
    by_cases c3 : x = 0
    · rw [if_pos c3, if_pos (Or.inr c3)]
      exact ⟨K1, rfl, r1, o1⟩
    · rw [if_neg c3, if_neg (fun q => q.elim c2 c3)]
      obtain ⟨K2, e2, r2, o2⟩ := step_eq (p := p) (M := K1) (a := sgn x) (b := 0) hh
      exact ⟨K2, by rw [bs e2], by rw [r2, r1], o1.tr o2⟩
  · rw [if_neg c1, if_neg c1]
    obtain ⟨K1, e1, r1, o1⟩ := step_eq (p := p) (M := M) (a := sgn x) (b := 0) hh
    rw [bs e1]
    simp only [b2i_0]
    by_cases c2 : sCan (M p) h (sgn x) 0 = true
    · rw [if_neg (fun q => q c2), if_pos (Or.inl c2)]
      exact ⟨K1, rfl, r1, o1⟩
    rw [if_pos c2]
    by_cases c3 : y = 0
    · rw [if_pos c3, if_pos (Or.inr c3)]
      exact ⟨K1, rfl, r1, o1⟩
    · rw [if_neg c3, if_neg (fun q => q.elim c2 c3)]
      obtain ⟨K2, e2, r2, o2⟩ := step_eq (p := p) (M := K1) (a := 0) (b := sgn y) hh
      exact ⟨K2, by rw [bs e2], by rw [r2, r1], o1.tr o2⟩
theorem follow9_eq {h : Nat} {t : Int32} {M : xMem} (hh : h < 6) : ∃ K, g9_goesTo (nI h) t M = some K ∧ K 7 = sFollow (M 7) h t ∧ Off [7] M K := by
  unfold g9_goesTo
  simp (disch := omega) only [↓reduceIte, i_lt0, i_cl, i_al, nle_f, or_self]
  show ∃ K, (if (t - t / 14 * 14) - sX (M 7) h = 0 then (if t / 14 - sY (M 7) h = 0 then some M else g9_goesTo_b49 (nI h) ((t - t / 14 * 14) - sX (M 7) h) (t / 14 - sY (M 7) h) M) else g9_goesTo_b49 (nI h) ((t - t / 14 * 14) - sX (M 7) h) (t / 14 - sY (M 7) h) M) = _ ∧ _
  unfold sFollow
  generalize (t - t / 14 * 14) - sX (M 7) h = x
  generalize t / 14 - sY (M 7) h = y
  simp only
  by_cases c0 : x = 0 ∧ y = 0
  · rw [if_pos c0.1, if_pos c0.2, if_pos c0]
    exact ⟨M, rfl, rfl, Off.rf⟩
  have hc : (if x = 0 then (if y = 0 then some M else g9_goesTo_b49 (nI h) x y M) else g9_goesTo_b49 (nI h) x y M) = g9_goesTo_b49 (nI h) x y M := by
    by_cases c1 : x = 0
    · rw [if_pos c1, if_neg (fun q => c0 ⟨c1, q⟩)]
    · rw [if_neg c1]
  rw [hc, if_neg c0]
  unfold g9_goesTo_b49
  rw [bs size9_eq, bs size9_eq]
  by_cases c1 : xAbs x < xAbs y
  · rw [if_pos c1, if_pos c1]
    unfold g9_goesTo_b66 g9_goesTo_b104 g9_goesTo_b126
    rw [if_pos rfl, bs sign9_eq]
    obtain ⟨K1, e1, r1, o1⟩ := step9_eq (M := M) (a := 0) (b := sgn y) hh
    rw [bs e1]
    simp only [b2i_0]
    by_cases c2 : sCan (M 7) h 0 (sgn y) = true
    · rw [if_neg (fun q => q c2), if_pos (Or.inl c2)]
      exact ⟨K1, rfl, r1, o1⟩
    rw [if_pos c2, if_pos trivial, if_pos trivial]
    by_cases c3 : x = 0
    · rw [if_pos c3, if_pos (Or.inr c3)]
      exact ⟨K1, rfl, r1, o1⟩
    · rw [if_neg c3, if_neg (fun q => q.elim c2 c3), bs sign9_eq]
      obtain ⟨K2, e2, r2, o2⟩ := step9_eq (M := K1) (a := sgn x) (b := 0) hh
      exact ⟨K2, by rw [bs e2], by rw [r2, r1], o1.tr o2⟩
  · rw [if_neg c1, if_neg c1]
    unfold g9_goesTo_b66 g9_goesTo_b104 g9_goesTo_b126
    rw [if_neg (by decide), bs sign9_eq]
    obtain ⟨K1, e1, r1, o1⟩ := step9_eq (M := M) (a := sgn x) (b := 0) hh
    rw [bs e1]
    simp only [b2i_0]
    by_cases c2 : sCan (M 7) h (sgn x) 0 = true
    · rw [if_neg (fun q => q c2), if_pos (Or.inl c2)]
      exact ⟨K1, rfl, r1, o1⟩
    rw [if_pos c2, if_neg (by decide)]
    by_cases c3 : y = 0
    · rw [if_pos c3, if_pos (Or.inr c3), if_neg (by decide)]
      exact ⟨K1, rfl, r1, o1⟩
    · rw [if_neg c3, if_neg (fun q => q.elim c2 c3), bs sign9_eq]
      obtain ⟨K2, e2, r2, o2⟩ := step9_eq (M := K1) (a := 0) (b := sgn y) hh
      exact ⟨K2, by rw [bs e2, if_neg (by decide)], by rw [r2, r1], o1.tr o2⟩
theorem sFollow_ok {R : Nat → Int32} (ok : RowOk R) {h : Nat} (hh : h < 6) {t : Int32} : RowOk (sFollow R h t) := by
  unfold sFollow
  simp only
  split
  · exact ok
  split
  · split
    · exact sStep_ok ok hh
    · exact sStep_ok (sStep_ok ok hh) hh
  · split
    · exact sStep_ok ok hh
    · exact sStep_ok (sStep_ok ok hh) hh
/-- a step changes a square alone -/
theorem sStep_off {R : Nat → Int32} {h k : Nat} {a b : Int32} (hk : k ≠ 274 + h) : sStep R h a b k = R k := by
  unfold sStep
  split
  · exact ud_n hk
  · rfl
