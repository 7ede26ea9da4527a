/-! PURE: what lamps' nights and lights matter for -/
def pat (X R : Nat → Int32) (k : Nat) : Int32 := if 232 ≤ k ∧ k < 268 then X k else R k
theorem pat_n {X R : Nat → Int32} {k : Nat} (h : k < 232 ∨ 268 ≤ k) : pat X R k = R k := if_neg (by omega)
theorem pat_upd {X R : Nat → Int32} {k : Nat} {v : Int32} (h : k < 232 ∨ 268 ≤ k) : upd (pat X R) k v = pat X (upd R k v) := by
  funext j
  unfold upd pat
  dsimp only
  by_cases c : j = k
  · subst c
    rw [if_pos rfl, if_neg (by omega), if_pos rfl]
  · rw [if_neg c, if_neg c]
theorem pat_of {R R' : Nat → Int32} (h : ∀ k, k < 232 ∨ 268 ≤ k → R' k = R k) : R' = pat R' R := by
  funext k
  unfold pat
  split
  · rfl
  · exact h k (by omega)
theorem pat_sX {X : Nat → Int32} {R : Nat → Int32} {h : Nat} (hh : h < 6) : sX (pat X R) h = sX R h := by unfold sX; rw [pat_n (by omega)]
theorem pat_sY {X : Nat → Int32} {R : Nat → Int32} {h : Nat} (hh : h < 6) : sY (pat X R) h = sY R h := by unfold sY; rw [pat_n (by omega)]
theorem pat_sTo {X : Nat → Int32} {R : Nat → Int32} {h : Nat} (hh : h < 6) {a b : Int32} : sTo (pat X R) h a b = sTo R h a b := by unfold sTo; rw [pat_sX hh, pat_sY hh]
theorem pat_sCan {X : Nat → Int32} {R : Nat → Int32} {h : Nat} (hh : h < 6) {a b : Int32} : sCan (pat X R) h a b = sCan R h a b := by
  unfold sCan
  rw [pat_sX hh, pat_sY hh, pat_sTo hh]
  by_cases c : inP (sX R h + a) (sY R h + b)
  · obtain ⟨q, hq, e⟩ := sTo_nat c
    rw [e, i_cl (by omega), pat_n (by omega)]
  · simp [c]
theorem pat_step {X : Nat → Int32} {R : Nat → Int32} {h : Nat} (hh : h < 6) {a b : Int32} : sStep (pat X R) h a b = pat X (sStep R h a b) := by
  unfold sStep
  rw [pat_sCan hh, pat_sTo hh]
  by_cases c : sCan R h a b = true
  · rw [if_pos c, if_pos c, pat_upd (by omega)]
  · rw [if_neg c, if_neg c]
theorem pat_stamp {X : Nat → Int32} {R : Nat → Int32} {h : Nat} (hh : h < 6) {d : Nat} : sStamp (pat X R) h d = pat X (sStamp R h d) := by
  unfold sStamp
  rw [pat_step hh, pat_step hh]
theorem pat_onward {X : Nat → Int32} {R : Nat → Int32} {h : Nat} (hh : h < 6) : sOnward (pat X R) h = pat X (sOnward R h) := by
  unfold sOnward
  rw [pat_sY hh]
  by_cases c : sY R h = 13
  · rw [if_pos c, if_pos c, pat_upd (by omega)]
  · rw [if_neg c, if_neg c, pat_step hh]
theorem pat_follow {X : Nat → Int32} {R : Nat → Int32} {h : Nat} (hh : h < 6) {t : Int32} : sFollow (pat X R) h t = pat X (sFollow R h t) := by
  unfold sFollow
  simp only [pat_sX hh, pat_sY hh, pat_sCan hh, pat_step hh]
  generalize (t - t / 14 * 14) - sX R h = x
  generalize t / 14 - sY R h = y
  by_cases c1 : x = 0 ∧ y = 0
  · rw [if_pos c1, if_pos c1]
  rw [if_neg c1, if_neg c1]
  by_cases c2 : xAbs x < xAbs y
  · rw [if_pos c2, if_pos c2]
    by_cases c3 : sCan R h 0 (sgn y) = true ∨ x = 0
    · rw [if_pos c3, if_pos c3]
    · rw [if_neg c3, if_neg c3]
  · rw [if_neg c2, if_neg c2]
    by_cases c3 : sCan R h (sgn x) 0 = true ∨ y = 0
    · rw [if_pos c3, if_pos c3]
    · rw [if_neg c3, if_neg c3]
theorem pat_lose {X : Nat → Int32} {R : Nat → Int32} {h : Nat} (hh : h < 6) {n : Int32} : sLose (pat X R) h n = sLose R h n := by unfold sLose; rw [pat_n (by omega)]
theorem pat_lost {X : Nat → Int32} {R : Nat → Int32} {h : Nat} (hh : h < 6) {n : Int32} : sLost (pat X R) h n = pat X (sLost R h n) := by
  unfold sLost
  rw [pat_lose hh, pat_n (by omega), pat_upd (by omega)]
theorem pat_on {X : Nat → Int32} {R : Nat → Int32} {h : Nat} (hh : h < 6) : sOn (pat X R) h = sOn R h := by
  unfold sOn
  rw [pat_n (by omega), pat_n (by omega), pat_n (by omega)]
theorem pat_sort {X : Nat → Int32} {R : Nat → Int32} {h : Nat} (hh : h < 6) {q : Nat} (hq : q < 196) (eq : R (274 + h) = nI q) : sSort (pat X R) h = sSort R h := by
  unfold sSort
  rw [pat_n (show 274 + h < 232 ∨ 268 ≤ 274 + h by omega), eq, i_cl (by omega), pat_n (by omega)]
theorem pat_clouded {X : Nat → Int32} {R : Nat → Int32} : sClouded (pat X R) = sClouded R := by
  unfold sClouded
  rw [pat_n (by omega), pat_n (by omega)]
theorem pat_lHerd {X : Nat → Int32} {R : Nat → Int32} {h : Nat} (hh : h < 6) {q : Nat} {r : Int32} (hq : q < 196) (eq : R (274 + h) = nI q) : lHerd (pat X R) h r = lHerd R h r := by
  funext i
  unfold lHerd lTime
  rw [pat_clouded, pat_n (show 274 + h < 232 ∨ 268 ≤ 274 + h by omega), pat_n (show 292 + h < 232 ∨ 268 ≤ 292 + h by omega), pat_n (show 286 + h < 232 ∨ 268 ≤ 286 + h by omega), pat_n (show 280 + h < 232 ∨ 268 ≤ 280 + h by omega), pat_n (show 328 < 232 ∨ 268 ≤ 328 by omega), pat_n (show 327 < 232 ∨ 268 ≤ 327 by omega), eq, i_cl (by omega), pat_n (show q < 232 ∨ 268 ≤ q by omega)]
theorem pat_bog {X : Nat → Int32} {R : Nat → Int32} {h : Nat} (hh : h < 6) {V : Nat → (Nat → Int32) → Int32} {d q : Nat} (hq : q < 196) (eq : R (274 + h) = nI q) : sBog V (pat X R) h d = (pat X (sBog V R h d).1, (sBog V R h d).2) := by
  unfold sBog
  rw [pat_sort hh hq eq, pat_lHerd hh hq eq]
  by_cases c : sSort R h = 1
  · rw [if_pos c, if_pos c, pat_lost hh, pat_lose hh]
  · rw [if_neg c, if_neg c]
theorem pat_dry {X : Nat → Int32} {R : Nat → Int32} {h : Nat} (hh : h < 6) {V : Nat → (Nat → Int32) → Int32} {d q : Nat} (hq : q < 196) (eq : R (274 + h) = nI q) : sDry V (pat X R) h d = pat X (sDry V R h d) := by
  unfold sDry
  rw [pat_sort hh hq eq, pat_lHerd hh hq eq, pat_n (by omega), pat_upd (by omega)]
theorem pat_die {X : Nat → Int32} {R : Nat → Int32} {h : Nat} (hh : h < 6) {V : Nat → (Nat → Int32) → Int32} {d q : Nat} (hq : q < 196) (eq : R (274 + h) = nI q) : sDie V (pat X R) h d = (pat X (sDie V R h d).1, (sDie V R h d).2) := by
  unfold sDie
  rw [pat_lHerd hh hq eq, pat_n (by omega)]
  by_cases c : R (286 + h) = 99
  · rw [if_pos c, if_pos c, pat_lost hh, pat_lose hh]
  · rw [if_neg c, if_neg c]
theorem pat_scare {X : Nat → Int32} {R : Nat → Int32} {h : Nat} (hh : h < 6) {V : Nat → (Nat → Int32) → Int32} {d q : Nat} (hq : q < 196) (eq : R (274 + h) = nI q) : sScare V (pat X R) h d = pat X (sScare V R h d) := by
  unfold sScare
  rw [pat_lHerd hh hq eq, pat_n (by omega), pat_upd (by omega)]
theorem pat_led {X : Nat → Int32} {R : Nat → Int32} {g l : Int32} (hg : GoalOk g) : sLed (pat X R) g l = pat X (sLed R g l) := by
  have := ledAt_lt hg
  unfold sLed
  rw [pat_n (by omega), pat_upd (by omega)]
theorem sOn_q {R : Nat → Int32} {h : Nat} (hh : h < 6) (ok : RowOk R) (on : sOn R h = true) : ∃ q, q < 196 ∧ R (274 + h) = nI q := by
  obtain ⟨q, hq, eq⟩ := ok.sq hh
  refine ⟨q, ?_, eq⟩
  unfold sOn at on
  simp only [Bool.and_eq_true, decide_eq_true_eq] at on
  have : ¬ q = 196 := fun x => on.2 (by rw [eq, x]; rfl)
  omega
theorem pat_bear {X : Nat → Int32} {R : Nat → Int32} {h : Nat} (hh : h < 6) {V : Nat → (Nat → Int32) → Int32} {d : Nat} (ok : RowOk R) {g : Int32} (hg : GoalOk g) : sBear V (pat X R) g h d = (pat X (sBear V R g h d).1, (sBear V R g h d).2) := by
  unfold sBear
  rw [pat_on hh]
  by_cases c : sOn R h = true
  · obtain ⟨q, hq, eq⟩ := sOn_q hh ok c
    have q1 : (sBog V R h d).1 (274 + h) = nI q := (sBog_sq hh).trans eq
    have q2 : sDry V (sBog V R h d).1 h d (274 + h) = nI q := (sDry_sq hh).trans q1
    have q3 : (sDie V (sDry V (sBog V R h d).1 h d) h d).1 (274 + h) = nI q := (sDie_sq hh).trans q2
    rw [if_pos c, if_pos c, pat_bog hh hq eq]
    simp only
    rw [pat_dry hh hq q1, pat_die hh hq q2]
    simp only
    rw [pat_scare hh hq q3, pat_led hg]
  · rw [if_neg c, if_neg c]
/-- the bits of a set -/
def bitOf (x : Int32) (l : Nat) : Bool := x.toBitVec.getLsbD l
theorem bitOf_or {x y : Int32} {l : Nat} : bitOf (x ||| y) l = (bitOf x l || bitOf y l) := by
  unfold bitOf
  rw [Int32.toBitVec_or, BitVec.getLsbD_or]
theorem bitOf_one : ∀ k, k < 18 → ∀ l, l < 18 → bitOf ((1 : Int32) <<< (nI k &&& 31)) l = decide (k = l) := by decide +kernel
def LitEq (A : Nat → Prop) (X R : Nat → Int32) : Prop := ∀ l, l < 12 → A l → sLit (pat X R) l = sLit R l
theorem sLit_off {R R' : Nat → Int32} {l : Nat} (hl : l < 12) (h1 : R' (196 + l) = R (196 + l)) (h2 : R' (232 + l) = R (232 + l)) (h3 : R' (244 + l) = R (244 + l)) (h4 : R' (256 + l) = R (256 + l)) : sLit R' l = sLit R l := by
  unfold sLit
  rw [if_neg (show ¬ 12 ≤ l by omega), if_neg (show ¬ 12 ≤ l by omega), h1, h2, h3, h4]
/-- what an hour does not touch -/
theorem sStep_n {R : Nat → Int32} {h k : Nat} {a b : Int32} (hh : h < 6) (hk : k < 274 ∨ 280 ≤ k) : sStep R h a b k = R k := sStep_off (by omega)
theorem sGo_n {V : Nat → (Nat → Int32) → Int32} {R : Nat → Int32} {h d k : Nat} (hh : h < 6) (hk : k < 274 ∨ 280 ≤ k) : (sGo V R h d).1 k = R k := by
  have h1 : ∀ g, (sGoB R h g).1 k = R k := fun g => by
    unfold sGoB
    split
    · unfold sOnward
      split
      · exact ud_n (by omega)
      · exact sStep_n hh hk
    · unfold sFollow
      simp only
      split
      · rfl
      split
      · split
        · exact sStep_n hh hk
        · rw [sStep_n hh hk, sStep_n hh hk]
      · split
        · exact sStep_n hh hk
        · rw [sStep_n hh hk, sStep_n hh hk]
  unfold sGo
  split
  · exact h1 _
  split
  · exact h1 _
  · simp only [sStamp, sStep_n hh hk]
theorem sBear_n {V : Nat → (Nat → Int32) → Int32} {R : Nat → Int32} {h d k : Nat} {g : Int32} (hg : GoalOk g) (hh : h < 6) (hk : k < 280 ∨ (298 ≤ k ∧ k < 308) ∨ 327 ≤ k) : (sBear V R g h d).1 k = R k := by
  have hl := ledAt_lt hg
  have c1 : (sBog V R h d).1 k = R k := by
    unfold sBog
    split
    · exact ud_n (by omega)
    · rfl
  have c2 : ∀ R : Nat → Int32, sDry V R h d k = R k := fun R => ud_n (by omega)
  have c3 : ∀ R : Nat → Int32, (sDie V R h d).1 k = R k := fun R => by
    unfold sDie
    split
    · exact ud_n (by omega)
    · rfl
  have c4 : ∀ R : Nat → Int32, sScare V R h d k = R k := fun R => ud_n (by omega)
  unfold sBear
  split
  · simp only
    unfold sLed
    rw [ud_n (by omega), c4, c3, c2, c1]
  · rfl
theorem sMove_n {V : Nat → (Nat → Int32) → Int32} {R : Nat → Int32} {h d k : Nat} (hh : h < 6) (hk : k < 274 ∨ (298 ≤ k ∧ k < 308) ∨ 327 ≤ k) : (sMove V R h d).1 k = R k := by
  unfold sMove
  rw [sBear_n sGo_goal hh (by omega), sGo_n hh (by omega)]
theorem sHerds_n {V : Nat → (Nat → Int32) → Int32} {d k : Nat} (hk : k < 274 ∨ (298 ≤ k ∧ k < 308) ∨ 327 ≤ k) : ∀ (n h : Nat) (R : Nat → Int32) (l : Int32), h + n = 6 → (sHerds V d n h R l).1 k = R k
  | 0, _, _, _, _ => rfl
  | n + 1, h, R, l, hn => by
    unfold sHerds
    split
    · rw [sHerds_n hk n (h + 1) _ _ (by omega), sMove_n (by omega) hk]
    · exact sHerds_n hk n (h + 1) _ _ (by omega)
theorem sEnd_n {R : Nat → Int32} {k : Nat} (hk : k < 232 ∨ (268 ≤ k ∧ k < 327) ∨ k = 330) : sEnd R k = R k := by
  unfold sEnd
  split
  · exact ud_n (by omega)
  · unfold nightF
    rw [if_neg (by omega), ud_n (by omega), ud_n (by omega), ud_n (by omega)]
theorem sPass_n {V : Nat → (Nat → Int32) → Int32} {R : Nat → Int32} {d k : Nat} (hk : k < 232 ∨ (268 ≤ k ∧ k < 274) ∨ (298 ≤ k ∧ k < 308) ∨ k = 330) : (sPass V R d).1 k = R k := by
  unfold sPass
  simp only
  rw [sEnd_n (by omega), sHerds_n (by omega) 6 0 R 0 rfl]
theorem sRun_n {V : Nat → (Nat → Int32) → Int32} {k : Nat} (hk : k < 232 ∨ (268 ≤ k ∧ k < 274) ∨ (298 ≤ k ∧ k < 308)) : ∀ (n : Nat) (R : Nat → Int32) (l : Int32), (sRun V n R l).1 k = R k
  | 0, _, _ => rfl
  | n + 1, R, l => by
    unfold sRun
    rw [sRun_n hk n, sPass_n (by omega)]
    exact ud_n (by omega)
/-- the goal by other lights, where those that matter are alike -/
theorem goal_pat {v : (Nat → Int32) → Int32} {X R : Nat → Int32} {A : Nat → Prop} (lit : LitEq A X R) {h q : Nat} (hh : h < 6) (hq : q < 196) (eq : R (274 + h) = nI q) :
    ∀ (d k : Nat) (g b : Int32), k + d = 18 → (∀ l, l < 12 → bitOf (sSeen R h d k) l = true → A l) → sGoal v (pat X R) h d k g b = sGoal v R h d k g b
  | 0, _, _, _, _, _ => rfl
  | d + 1, k, g, b, hk, hA => by
    have sq : sqL (pat X R) k = sqL R k := by
      unfold sqL
      split
      · exact pat_n (by omega)
      · exact pat_n (by omega)
    have kd : kdL (pat X R) k = kdL R k := by
      unfold kdL
      split
      · rfl
      · exact pat_n (by omega)
    have lp : lPull (pat X R) h k = lPull R h k := by
      funext i
      unfold lPull
      rw [sq, kd, pat_lHerd hh hq eq, pat_n (by omega)]
    have re : sReach (pat X R) = sReach R := by
      unfold sReach
      rw [pat_clouded]
    have hs : ∀ l, l < 12 → bitOf (sSeen R h d (k + 1)) l = true → A l := fun l hl c => hA l hl (by
      rw [sSeen, bitOf_or, c, Bool.or_true])
    have dr : sDraws v (pat X R) h k b = sDraws v R h k b := by
      unfold sDraws
      rw [sq, lp, re, pat_n (show 274 + h < 232 ∨ 268 ≤ 274 + h by omega)]
      by_cases c1 : k = 12 + h
      · simp [c1]
      by_cases c2 : sWay (R (274 + h)) (sqL R k) ≤ sReach R
      · by_cases c12 : 12 ≤ k
        · have e : sLit (pat X R) k = sLit R k := by
            unfold sLit
            rw [if_pos c12, if_pos c12, pat_on (by omega), pat_n (by omega)]
          rw [e]
        · by_cases c3 : sThere R k = true
          · have hk12 : k < 12 := by omega
            rw [lit k hk12 (hA k hk12 (by
              rw [sSeen, bitOf_or, sSeenB, if_pos ⟨c1, c3, c2⟩, bitOf_one k (by omega) k (by omega)]
              simp))]
          · have t1 : ¬ sLit R k = true := fun x => c3 (lit_there x)
            have t2 : ¬ sLit (pat X R) k = true := fun x => c3 (by
              have := lit_there x
              unfold sThere at this ⊢
              rw [if_neg c12] at this ⊢
              rw [pat_n (by omega)] at this
              exact this)
            simp [t1, t2]
      · simp [c2]
    unfold sGoal
    rw [dr, lp]
    split
    · exact goal_pat lit hh hq eq d (k + 1) _ _ (by omega) hs
    · exact goal_pat lit hh hq eq d (k + 1) _ _ (by omega) hs
