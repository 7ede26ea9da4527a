/-! PURE: an hour of a herd, the class's -/
theorem min_nat {a b : Nat} (ha : a < 2147483648) (hb : b < 2147483648) : xMin (nI a) (nI b) = nI (min a b) := by
  unfold xMin
  by_cases c : b < a
  · rw [if_pos ((nI_ltI hb ha).mpr c), Nat.min_eq_right (by omega)]
  · rw [if_neg (fun q => c ((nI_ltI hb ha).mp q)), Nat.min_eq_left (by omega)]
theorem sLose_nat {R : Nat → Int32} (ok : RowOk R) {h : Nat} (hh : h < 6) {n : Int32} (hn : ∃ j, j ≤ 99 ∧ n = nI j) : ∃ c j, c ≤ 999 ∧ j ≤ 99 ∧ j ≤ c ∧ R (280 + h) = nI c ∧ sLose R h n = nI j := by
  obtain ⟨j, hj, rfl⟩ := hn
  obtain ⟨c, hc, e⟩ := ok.cattle hh
  exact ⟨c, min j c, hc, by omega, by omega, e, by unfold sLose; rw [e, min_nat (by omega) (by omega)]⟩
theorem sLost_ok {R : Nat → Int32} (ok : RowOk R) {h : Nat} (hh : h < 6) {n : Int32} (hn : ∃ j, j ≤ 99 ∧ n = nI j) : RowOk (sLost R h n) := by
  obtain ⟨c, j, hc, hj, hjc, e1, e2⟩ := sLose_nat ok hh hn
  unfold sLost
  rw [e1, e2, i_sub hjc]
  exact ok.upd (ok_le (bd_cat h hh) (by omega))
theorem clv_nat {m : Nat} (hm : m < 2147483648) (x : Int32) : ∃ j, j ≤ m ∧ clv 0 (nI m) x = nI j := by
  obtain ⟨l, u⟩ := clv_bd (lo := 0) (hi := nI m) (x := x) (nI_pos' hm)
  obtain ⟨j, hj, e⟩ := nI_of (i_ge (n := 0) (by omega) l)
  rw [e] at u
  exact ⟨j, (nI_leI hj hm).mp u, e⟩
theorem sBog_ok {V : Nat → (Nat → Int32) → Int32} (L : VB V) {R : Nat → Int32} (ok : RowOk R) {h : Nat} {d : Nat} (hh : h < 6) : RowOk (sBog V R h d).1 := by
  unfold sBog
  split
  · exact sLost_ok ok hh (L.nat (a := 2) (m := 99) (by decide) rfl rfl (by omega) _)
  · exact ok
theorem dry_nat {V : Nat → (Nat → Int32) → Int32} (L : VB V) {R : Nat → Int32} (ok : RowOk R) {h : Nat} {d : Nat} (hh : h < 6) : ∃ j, j ≤ 99 ∧ (if sSort R h = 2 then 0 else xMin (R (286 + h) + V 3 (lHerd R h (nI d))) 99) = nI j := by
  split
  · exact ⟨0, by omega, rfl⟩
  · obtain ⟨t, ht, e⟩ := ok.thirst hh
    obtain ⟨w, hw, e2⟩ := L.nat (a := 3) (m := 99) (by decide) rfl rfl (by omega) (lHerd R h (nI d))
    rw [e, e2, nI_add]
    exact ⟨min (t + w) 99, by omega, min_nat (a := t + w) (b := 99) (by omega) (by omega)⟩
theorem sDry_ok {V : Nat → (Nat → Int32) → Int32} (L : VB V) {R : Nat → Int32} (ok : RowOk R) {h : Nat} {d : Nat} (hh : h < 6) : RowOk (sDry V R h d) := by
  obtain ⟨j, hj, e⟩ := dry_nat (d := d) L ok hh
  unfold sDry
  rw [e]
  exact ok.upd (ok_le (bd_thi h hh) hj)
theorem sDie_ok {V : Nat → (Nat → Int32) → Int32} (L : VB V) {R : Nat → Int32} (ok : RowOk R) {h : Nat} {d : Nat} (hh : h < 6) : RowOk (sDie V R h d).1 := by
  unfold sDie
  split
  · exact sLost_ok ok hh (L.nat (a := 4) (m := 99) (by decide) rfl rfl (by omega) _)
  · exact ok
theorem sScare_ok {V : Nat → (Nat → Int32) → Int32} {R : Nat → Int32} (ok : RowOk R) {h : Nat} {d : Nat} (hh : h < 6) : RowOk (sScare V R h d) := by
  obtain ⟨j, hj, e⟩ := clv_nat (m := 99) (by omega) (R (292 + h) + V 5 (lHerd R h (nI d)))
  unfold sScare
  rw [show xMax 0 (xMin 99 (R (292 + h) + V 5 (lHerd R h (nI d)))) = nI j from e]
  exact ok.upd (ok_le (bd_fear h hh) hj)
theorem sGo_ok {V : Nat → (Nat → Int32) → Int32} {R : Nat → Int32} (ok : RowOk R) {h : Nat} {d : Nat} (hh : h < 6) : RowOk (sGo V R h d).1 := by
  have h1 : ∀ g, RowOk (sGoB R h g).1 := fun g => by
    unfold sGoB
    split
    · exact sOnward_ok ok hh
    · exact sFollow_ok ok hh
  unfold sGo
  split
  · exact h1 _
  split
  · exact h1 _
  · exact sStamp_ok ok hh
theorem sLed_ok {R : Nat → Int32} (ok : RowOk R) {g l : Int32} (hg : GoalOk g) : RowOk (sLed R g l) := by
  have hl := ledAt_lt hg
  refine ok.upd fun m e => ?_
  have e2 := bd_led (ledAt g - 308) (by omega)
  rw [show 308 + (ledAt g - 308) = ledAt g by omega] at e2
  rw [e2] at e
  cases e
theorem sBear_ok {V : Nat → (Nat → Int32) → Int32} (L : VB V) {R : Nat → Int32} (ok : RowOk R) {h d : Nat} (hh : h < 6) {g : Int32} (hg : GoalOk g) : RowOk (sBear V R g h d).1 := by
  unfold sBear
  split
  · exact sLed_ok (sScare_ok (sDie_ok L (sDry_ok L (sBog_ok L ok hh) hh) hh) hh) hg
  · exact ok
theorem sMove_ok {V : Nat → (Nat → Int32) → Int32} (L : VB V) {R : Nat → Int32} (ok : RowOk R) {h d : Nat} (hh : h < 6) : RowOk (sMove V R h d).1 := sBear_ok L (sGo_ok ok hh) hh sGo_goal
theorem sBog_sq {V : Nat → (Nat → Int32) → Int32} {R : Nat → Int32} {h d : Nat} (hh : h < 6) : (sBog V R h d).1 (274 + h) = R (274 + h) := by
  unfold sBog
  split
  · exact ud_n (by omega)
  · rfl
theorem sBog_sort {V : Nat → (Nat → Int32) → Int32} {R : Nat → Int32} {h d q : Nat} (hh : h < 6) (hq : q < 196) (eq : R (274 + h) = nI q) : sSort (sBog V R h d).1 h = sSort R h := by
  unfold sSort
  rw [sBog_sq hh, eq, i_cl (by omega)]
  unfold sBog
  split
  · exact ud_n (by omega)
  · rfl
theorem sDry_sq {V : Nat → (Nat → Int32) → Int32} {R : Nat → Int32} {h d : Nat} (hh : h < 6) : (sDry V R h d) (274 + h) = R (274 + h) := ud_n (by omega)
theorem sDie_sq {V : Nat → (Nat → Int32) → Int32} {R : Nat → Int32} {h d : Nat} (hh : h < 6) : (sDie V R h d).1 (274 + h) = R (274 + h) := by
  unfold sDie
  split
  · exact ud_n (by omega)
  · rfl
/-- the blocks of an hour -/
def SS (p : Nat) : List Nat := [p, 101, 102, 27, 28, 29]
theorem ss_mem {p b : Nat} : b ∈ SS p ↔ b = p ∨ b = 101 ∨ b = 102 ∨ b = 27 ∨ b = 28 ∨ b = 29 := by
  unfold SS
  simp
theorem lc {p : Nat} (hp : p < 10) {N K : xMem} (o : Off (SS p) N K) : lawC N K := fun b hb => o b (by
  rw [ss_mem]
  simp at hb
  omega)
theorem ss_p {p : Nat} {N K : xMem} (o : Off [p] N K) : Off (SS p) N K := fun b hb => o b (by
  rw [ss_mem] at hb
  simp
  omega)
theorem ss_a {p : Nat} {N K : xMem} (o : Off [101, 27, 28, 29] N K) : Off (SS p) N K := fun b hb => o b (by
  rw [ss_mem] at hb
  simp
  omega)
theorem ss_g {p : Nat} {N K : xMem} (o : Off [101, 102, 27, 28, 29] N K) : Off (SS p) N K := fun b hb => o b (by
  rw [ss_mem] at hb
  simp
  omega)
theorem b205_eq {p : Nat} {h : Nat} {d : Nat} (hp : p < 10) (hh : h < 6) {B : xMem} {V : Nat → (Nat → Int32) → Int32} (L : LawV B V) {N : xMem} {q : Nat} {g x : Int32} (hg : GoalOk g) (lb : lawC B N) (hq : q < 196) (eq : N p (274 + h) = nI q) :
    ∃ K, g0_moveHerd_b205 p (nI h) (nI d) g x N = some (x, K) ∧ K p = sLed (sScare V (N p) h d) g x ∧ Off (SS p) N K ∧ K 102 = N 102 := by
  unfold g0_moveHerd_b205 g0_moveHerd_b262 g0_moveHerd_b264
  obtain ⟨K, e, o⟩ := askOf_eq (r := nI d) (a := 5) L lb hp hh hq eq (by decide)
  have e' : g0_askOf p (nI h) 5 (nI d) N = some (V 5 (lHerd (N p) h (nI d)), K) := e
  have kp : K p = N p := o p (by simp; omega)
  simp (disch := omega) only [↓reduceIte, i_lt0, i_cl, nle_f, or_self, mset_eq]
  rw [bs e']
  have hl := ledAt_lt hg
  refine ⟨upM (upM K p (292 + h) (xMax 0 (xMin 99 (N p (292 + h) + V 5 (lHerd (N p) h (nI d)))))) p (ledAt g) (N p (ledAt g) + x), ?_, ?_, (ss_a o).up' (by rw [ss_mem]; simp) |>.up' (by rw [ss_mem]; simp), ?_⟩
  · rcases hg with rfl | ⟨l, hl', rfl⟩
    · rw [if_pos (by decide), if_neg (by decide)]
      have e : (18 : Int32).toNatClampNeg = 18 := by decide
      have e2 : ledAt (-1) = 326 := rfl
      rw [e, e2, up_i (by omega)]
      simp only [kp]
    · have nn : ¬ nI l = -1 := fun e => by
        have h1 := nI_pos (n := l) (by omega)
        rw [e] at h1
        exact h1 (by decide)
      have e2 : ledAt (nI l) = 308 + l := by
        unfold ledAt
        rw [if_neg nn, i_cl (by omega)]
      rw [e2]
      simp (disch := omega) only [↓reduceIte, i_lt0, i_cl, i_ll, nle_f, or_self]
      rw [up_i (by omega), kp]
  · rw [up_row, up_row, kp]
    exact sLed_of (by omega)
  · rw [up_b (by omega), up_b (by omega)]
    exact o 102 (by decide)
theorem b157_eq {p : Nat} {h : Nat} {d : Nat} (hp : p < 10) (hh : h < 6) {B : xMem} {V : Nat → (Nat → Int32) → Int32} (L : LawV B V) {N : xMem} {q : Nat} {g x s : Int32} (hg : GoalOk g) (lb : lawC B N) (hq : q < 196) (eq : N p (274 + h) = nI q) :
    ∃ K, g0_moveHerd_b157 p (nI h) (nI d) g x s N = some (x + (sDie V (upd (N p) (286 + h) (xMin s 99)) h d).2, K) ∧
      K p = sLed (sScare V (sDie V (upd (N p) (286 + h) (xMin s 99)) h d).1 h d) g (x + (sDie V (upd (N p) (286 + h) (xMin s 99)) h d).2) ∧ Off (SS p) N K ∧ K 102 = N 102 := by
  unfold g0_moveHerd_b157
  simp (disch := omega) only [↓reduceIte, i_lt0, i_cl, nle_f, or_self, mset_eq]
  have o1 : Off (SS p) N (upM N p (286 + h) (xMin s 99)) := ss_p (Off.up (by simp))
  have r1 : (upM N p (286 + h) (xMin s 99)) p = upd (N p) (286 + h) (xMin s 99) := up_row
  have t1 : (upM N p (286 + h) (xMin s 99)) 102 = N 102 := up_b (by omega)
  have q1 : (upM N p (286 + h) (xMin s 99)) p (274 + h) = nI q := by rw [up_i (by omega), eq]
  rw [r1]
  rw [← r1]
  generalize upM N p (286 + h) (xMin s 99) = N1 at o1 r1 t1 q1 ⊢
  have lb1 := lb.tr (lc hp o1)
  by_cases c : N1 p (286 + h) = 99
  · rw [if_pos c]
    obtain ⟨K, e, o⟩ := askOf_eq (r := nI d) (a := 4) L lb1 hp hh hq q1 (by decide)
    have e' : g0_askOf p (nI h) 4 (nI d) N1 = some (V 4 (lHerd (N1 p) h (nI d)), K) := e
    have kp : K p = N1 p := o p (by simp; omega)
    rw [bs e']
    obtain ⟨K2, e2, r2, o2⟩ := lose_eq (p := p) (M := K) (n := V 4 (lHerd (N1 p) h (nI d))) hh
    rw [bs e2]
    obtain ⟨K3, e3, r3, o3, t3⟩ := b205_eq (d := d) (N := K2) (q := q) (g := g) (x := x + sLose (K p) h (V 4 (lHerd (N1 p) h (nI d)))) hp hh L hg ((lb1.tr (lc hp (ss_a o))).tr (lc hp (ss_p o2))) hq (by rw [r2, kp]; unfold sLost; rw [ud_n (by omega), q1])
    have d1 : sDie V (N1 p) h d = (sLost (N1 p) h (V 4 (lHerd (N1 p) h (nI d))), sLose (N1 p) h (V 4 (lHerd (N1 p) h (nI d)))) := by
      unfold sDie
      rw [if_pos c]
    rw [d1]
    rw [kp] at e3 r3
    rw [r2, kp] at r3
    refine ⟨K3, ?_, r3, ((o1.tr (ss_a o)).tr (ss_p o2)).tr o3, ?_⟩
    · rw [kp]; exact e3
    · rw [t3, o2 102 (by simp; omega), o 102 (by decide), t1]
  · rw [if_neg c]
    have d1 : sDie V (N1 p) h d = (N1 p, 0) := by
      unfold sDie
      rw [if_neg c]
    rw [d1]
    simp only [Int32.add_zero]
    obtain ⟨K3, e3, r3, o3, t3⟩ := b205_eq (d := d) (N := N1) (q := q) (g := g) (x := x) hp hh L hg lb1 hq q1
    exact ⟨K3, e3, r3, o1.tr o3, t3.trans t1⟩
theorem b131_eq {p : Nat} {h : Nat} {d : Nat} (hp : p < 10) (hh : h < 6) {B : xMem} {V : Nat → (Nat → Int32) → Int32} (L : LawV B V) {N : xMem} {q : Nat} {g x : Int32} (hg : GoalOk g) (lb : lawC B N) (hq : q < 196) (eq : N p (274 + h) = nI q) :
    ∃ K, g0_moveHerd_b131 p (nI h) (nI d) g x (sSort (N p) h) N = some (x + (sDie V (sDry V (N p) h d) h d).2, K) ∧
      K p = sLed (sScare V (sDie V (sDry V (N p) h d) h d).1 h d) g (x + (sDie V (sDry V (N p) h d) h d).2) ∧ Off (SS p) N K ∧ K 102 = N 102 := by
  unfold g0_moveHerd_b131
  by_cases c : sSort (N p) h = 2
  · rw [if_pos c]
    have d1 : sDry V (N p) h d = upd (N p) (286 + h) (xMin 0 99) := by
      unfold sDry
      rw [if_pos c]
      rfl
    rw [d1]
    exact b157_eq (d := d) hp hh L hg lb hq eq
  · rw [if_neg c]
    simp (disch := omega) only [↓reduceIte, i_lt0, i_cl, nle_f, or_self]
    obtain ⟨K, e, o⟩ := askOf_eq (r := nI d) (a := 3) L lb hp hh hq eq (by decide)
    have e' : g0_askOf p (nI h) 3 (nI d) N = some (V 3 (lHerd (N p) h (nI d)), K) := e
    have kp : K p = N p := o p (by simp; omega)
    rw [bs e']
    have d1 : sDry V (N p) h d = upd (K p) (286 + h) (xMin (N p (286 + h) + V 3 (lHerd (N p) h (nI d))) 99) := by
      unfold sDry
      rw [if_neg c, kp]
    rw [d1]
    obtain ⟨K3, e3, r3, o3, t3⟩ := b157_eq (d := d) (N := K) (q := q) (g := g) (x := x) (s := N p (286 + h) + V 3 (lHerd (N p) h (nI d))) hp hh L hg (lb.tr (lc hp (ss_a o))) hq (by rw [kp, eq])
    exact ⟨K3, e3, r3, (ss_a o).tr o3, t3.trans (o 102 (by decide))⟩
theorem bear_eq {p : Nat} {h : Nat} {d : Nat} (hp : p < 10) (hh : h < 6) {B : xMem} {V : Nat → (Nat → Int32) → Int32} (L : LawV B V) {N : xMem} {g : Int32} (hg : GoalOk g) (lb : lawC B N) (ok : RowOk (N p)) :
    ∃ K, g0_moveHerd_b78 p (nI h) (nI d) g N = some ((sBear V (N p) g h d).2, K) ∧ K p = (sBear V (N p) g h d).1 ∧ Off (SS p) N K ∧ K 102 = N 102 := by
  unfold g0_moveHerd_b78 sBear
  rw [bs (on_in hh)]
  simp only [b2i_0]
  by_cases c : sOn (N p) h = true
  · obtain ⟨q, hq, eq⟩ : ∃ q, q < 196 ∧ N p (274 + h) = nI q := by
      obtain ⟨q, hq, eq⟩ := ok.sq hh
      refine ⟨q, ?_, eq⟩
      unfold sOn at c
      simp only [Bool.and_eq_true, decide_eq_true_eq] at c
      have : ¬ q = 196 := fun x => c.2 (by rw [eq, x]; rfl)
      omega
    rw [if_neg (fun x => x c), if_pos c]
    have es : g6_sortAt p (N p (274 + h)) N = some (sSort (N p) h, N) := by
      unfold sSort
      rw [eq, i_cl (by omega)]
      exact sortAt_in hq
    simp (disch := omega) only [↓reduceIte, i_lt0, i_cl, nle_f, or_self]
    rw [bs es]
    by_cases c1 : sSort (N p) h = 1
    · rw [if_pos c1]
      obtain ⟨K, e, o⟩ := askOf_eq (r := nI d) (a := 2) L lb hp hh hq eq (by decide)
      have e' : g0_askOf p (nI h) 2 (nI d) N = some (V 2 (lHerd (N p) h (nI d)), K) := e
      have kp : K p = N p := o p (by simp; omega)
      rw [bs e']
      obtain ⟨K2, e2, r2, o2⟩ := lose_eq (p := p) (M := K) (n := V 2 (lHerd (N p) h (nI d))) hh
      rw [bs e2]
      have hb : sBog V (N p) h d = (K2 p, sLose (K p) h (V 2 (lHerd (N p) h (nI d)))) := by
        unfold sBog
        rw [if_pos c1, r2, kp]
      have hs : sSort (K2 p) h = sSort (N p) h := by
        have := sBog_sort (V := V) (d := d) hh hq eq
        rw [hb] at this
        exact this
      obtain ⟨K3, e3, r3, o3, t3⟩ := b131_eq (d := d) (N := K2) (q := q) (g := g) (x := sLose (K p) h (V 2 (lHerd (N p) h (nI d)))) hp hh L hg ((lb.tr (lc hp (ss_a o))).tr (lc hp (ss_p o2))) hq (by rw [r2, kp]; unfold sLost; rw [ud_n (by omega), eq])
      rw [hs] at e3
      rw [hb, Int32.zero_add]
      exact ⟨K3, e3, r3, ((ss_a o).tr (ss_p o2)).tr o3, by rw [t3, o2 102 (by simp; omega), o 102 (by decide)]⟩
    · rw [if_neg c1]
      have hb : sBog V (N p) h d = (N p, 0) := by
        unfold sBog
        rw [if_neg c1]
      rw [hb]
      exact b131_eq (d := d) hp hh L hg lb hq eq
  · rw [if_pos c, if_neg c]
    exact ⟨N, rfl, rfl, Off.rf, rfl⟩
theorem move_eq {p : Nat} {h : Nat} {d : Nat} (hp : p < 10) (hh : h < 6) (hd : d < 10) {B : xMem} {V : Nat → (Nat → Int32) → Int32} (L : LawV B V) {M : xMem} (lb : lawC B M) (ok : RowOk (M p)) (on : sOn (M p) h = true) :
    ∃ K, g0_moveHerd p (nI h) (nI d) M = some ((sMove V (M p) h d).2, K) ∧ K p = (sMove V (M p) h d).1 ∧ Off (SS p) M K ∧ K 102 0 = M 102 0 ||| sSeen (M p) h 18 0 := by
  obtain ⟨q, hq, eq⟩ : ∃ q, q < 196 ∧ M p (274 + h) = nI q := by
    obtain ⟨q, hq, eq⟩ := ok.sq hh
    refine ⟨q, ?_, eq⟩
    unfold sOn at on
    simp only [Bool.and_eq_true, decide_eq_true_eq] at on
    have : ¬ q = 196 := fun x => on.2 (by rw [eq, x]; rfl)
    omega
  obtain ⟨vc, -, hA, -⟩ := L 0 (by decide)
  obtain ⟨K, e, o, s⟩ := goal_eq (v := V 0) hp ok hh hq eq vc (fun N hN => hA N (lb.tr hN))
  have kp : K p = M p := o p (by simp; omega)
  have gok : GoalOk (sGoal (V 0) (M p) h 18 0 (-1) 0) := sGoal_ok 18 0 (-1) 0 rfl (Or.inl rfl)
  have og : Off (SS p) M K := ss_g o
  unfold g0_moveHerd sMove
  rw [bs e]
  simp (disch := omega) only [↓reduceIte, i_lt0, i_cl, nle_f, or_self, kp]
  have hB : ∀ N : xMem, N p = M p → Off (SS p) M N → N 102 0 = M 102 0 ||| sSeen (M p) h 18 0 → sGo V (M p) h d = sGoB (M p) h (sGoal (V 0) (M p) h 18 0 (-1) 0) →
      ∃ K, g0_moveHerd_b51 p (nI h) (nI d) (sGoal (V 0) (M p) h 18 0 (-1) 0) N = some ((sBear V (sGo V (M p) h d).1 (sGo V (M p) h d).2 h d).2, K) ∧ K p = (sBear V (sGo V (M p) h d).1 (sGo V (M p) h d).2 h d).1 ∧ Off (SS p) M K ∧ K 102 0 = M 102 0 ||| sSeen (M p) h 18 0 := by
    intro N hN oN sN hg
    rw [hg]
    unfold g0_moveHerd_b51 sGoB
    by_cases c : sGoal (V 0) (M p) h 18 0 (-1) 0 = -1
    · rw [if_pos c, if_pos c]
      obtain ⟨K1, e1, r1, o1⟩ := goOn_eq (p := p) (M := N) hh
      rw [bs e1, c]
      obtain ⟨K2, e2, r2, o2, t2⟩ := bear_eq (d := d) (N := K1) hp hh L (Or.inl rfl : GoalOk (-1)) ((lb.tr (lc hp oN)).tr (lc hp (ss_p o1))) (by rw [r1, hN]; exact sOnward_ok ok hh)
      rw [r1, hN] at e2 r2
      exact ⟨K2, e2, r2, (oN.tr (ss_p o1)).tr o2, by rw [t2, o1 102 (by simp; omega), sN]⟩
    · rw [if_neg c, if_neg c]
      rcases gok with g1 | ⟨l, hl, g1⟩
      · exact absurd g1 c
      rw [g1, i_cl (by omega), bs (sqOf_in hl), hN]
      obtain ⟨K1, e1, r1, o1⟩ := follow_eq (p := p) (M := N) (t := sqL (M p) l) hh
      rw [bs e1]
      obtain ⟨K2, e2, r2, o2, t2⟩ := bear_eq (d := d) (N := K1) hp hh L (Or.inr ⟨l, hl, rfl⟩ : GoalOk (nI l)) ((lb.tr (lc hp oN)).tr (lc hp (ss_p o1))) (by rw [r1, hN]; exact sFollow_ok ok hh)
      rw [r1, hN] at e2 r2
      exact ⟨K2, e2, r2, (oN.tr (ss_p o1)).tr o2, by rw [t2, o1 102 (by simp; omega), sN]⟩
  by_cases c1 : M p (292 + h) < 50
  · rw [if_pos c1]
    exact hB K kp og s (by unfold sGo; rw [if_pos c1])
  · rw [if_neg c1]
    obtain ⟨K1, e1, o1⟩ := askOf_eq (r := nI d) (a := 1) L (lb.tr (lc hp og)) hp hh hq (by rw [kp, eq]) (by decide)
    have e1' : g0_askOf p (nI h) 1 (nI d) K = some (V 1 (lHerd (K p) h (nI d)), K1) := e1
    have k1p : K1 p = M p := (o1 p (by simp; omega)).trans kp
    have s1 : K1 102 0 = M 102 0 ||| sSeen (M p) h 18 0 := by rw [o1 102 (by decide)]; exact s
    rw [bs e1', kp]
    by_cases c2 : V 1 (lHerd (M p) h (nI d)) ≤ nI d
    · rw [if_pos c2]
      exact hB K1 k1p (og.tr (ss_a o1)) s1 (by unfold sGo; rw [if_neg c1, if_pos c2])
    · rw [if_neg c2]
      have hg : sGo V (M p) h d = (sStamp (M p) h d, -1) := by unfold sGo; rw [if_neg c1, if_neg c2]
      rw [hg]
      obtain ⟨K2, e2, r2, o2⟩ := stampede_eq (p := p) (M := K1) hh hd
      rw [bs e2]
      obtain ⟨K3, e3, r3, o3, t3⟩ := bear_eq (d := d) (N := K2) hp hh L (Or.inl rfl : GoalOk (-1)) (((lb.tr (lc hp og)).tr (lc hp (ss_a o1))).tr (lc hp (ss_p o2))) (by rw [r2, k1p]; exact sStamp_ok ok hh)
      rw [r2, k1p] at e3 r3
      exact ⟨K3, e3, r3, ((og.tr (ss_a o1)).tr (ss_p o2)).tr o3, by rw [t3, o2 102 (by simp; omega), s1]⟩
