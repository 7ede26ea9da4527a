/-! PURE: hours by other lights -/
theorem LitEq.off {A : Nat → Prop} {X R R' : Nat → Int32} (h : LitEq A X R) (e : ∀ k, 196 ≤ k → k < 268 → R' k = R k) : LitEq A X R' := fun l hl hA => by
  have h1 : sLit R' l = sLit R l := sLit_off hl (e _ (by omega) (by omega)) (e _ (by omega) (by omega)) (e _ (by omega) (by omega)) (e _ (by omega) (by omega))
  have h2 : sLit (pat X R') l = sLit (pat X R) l := by
    refine sLit_off hl ?_ ?_ ?_ ?_
    · rw [pat_n (by omega), pat_n (by omega), e _ (by omega) (by omega)]
    all_goals unfold pat; rw [if_pos (by omega), if_pos (by omega)]
  rw [h1, h2]
  exact h l hl hA
theorem move_pat {V : Nat → (Nat → Int32) → Int32} {X R : Nat → Int32} {A : Nat → Prop} (ok : RowOk R) (lit : LitEq A X R) {h d : Nat} (hh : h < 6) (on : sOn R h = true) (hA : ∀ l, l < 12 → bitOf (sSeen R h 18 0) l = true → A l) :
    sMove V (pat X R) h d = (pat X (sMove V R h d).1, (sMove V R h d).2) := by
  obtain ⟨q, hq, eq⟩ := sOn_q hh ok on
  have g := goal_pat (v := V 0) lit hh hq eq 18 0 (-1) 0 rfl hA
  have gb : ∀ g, sGoB (pat X R) h g = (pat X (sGoB R h g).1, (sGoB R h g).2) := fun g => by
    unfold sGoB
    by_cases c : g = -1
    · rw [if_pos c, if_pos c, pat_onward hh]
    · rw [if_neg c, if_neg c]
      have sq : ∀ k, sqL (pat X R) k = sqL R k := fun k => by
        unfold sqL
        split
        · exact pat_n (by omega)
        · by_cases c2 : k < 12
          · exact pat_n (by omega)
          · exact absurd c2 (by omega)
      rw [sq, pat_follow hh]
  have go : sGo V (pat X R) h d = (pat X (sGo V R h d).1, (sGo V R h d).2) := by
    unfold sGo
    rw [g, gb, pat_n (by omega), pat_lHerd hh hq eq]
    by_cases c1 : R (292 + h) < 50
    · rw [if_pos c1, if_pos c1]
    rw [if_neg c1, if_neg c1]
    by_cases c2 : V 1 (lHerd R h (nI d)) ≤ nI d
    · rw [if_pos c2, if_pos c2]
    · rw [if_neg c2, if_neg c2, pat_stamp hh]
  unfold sMove
  rw [go]
  exact pat_bear hh (sGo_ok ok hh) sGo_goal
theorem herds_pat {V : Nat → (Nat → Int32) → Int32} (L : VB V) {X : Nat → Int32} {A : Nat → Prop} {d : Nat} : ∀ (n h : Nat) (R : Nat → Int32) (l : Int32), h + n = 6 → RowOk R → LitEq A X R → (∀ l, l < 12 → bitOf (sSeenH V d n h R) l = true → A l) →
    sHerds V d n h (pat X R) l = (pat X (sHerds V d n h R l).1, (sHerds V d n h R l).2)
  | 0, _, _, _, _, _, _, _ => rfl
  | n + 1, h, R, l, hn, ok, lit, hA => by
    unfold sSeenH at hA
    unfold sHerds
    rw [pat_on (by omega)]
    by_cases c : sOn R h = true
    · rw [if_pos c] at hA
      rw [if_pos c, if_pos c, move_pat (A := A) ok lit (by omega) c (fun l hl e => hA l hl (by rw [bitOf_or, e, Bool.true_or]))]
      exact herds_pat L n (h + 1) _ _ (by omega) (sMove_ok L ok (by omega)) (lit.off fun k h1 h2 => sMove_n (by omega) (by omega)) (fun l hl e => hA l hl (by rw [bitOf_or, e, Bool.or_true]))
    · rw [if_neg c] at hA
      rw [if_neg c, if_neg c]
      exact herds_pat L n (h + 1) _ _ (by omega) ok lit hA
theorem end_pat {X R : Nat → Int32} (hu : R 328 + 1 < 8) : sEnd (pat X R) = pat X (sEnd R) := by
  unfold sEnd
  rw [pat_n (by omega), if_pos hu, if_pos hu, pat_upd (by omega)]
theorem end_pat' {X R : Nat → Int32} {k : Nat} (hk : k < 232 ∨ 268 ≤ k) : sEnd (pat X R) k = sEnd R k := by
  unfold sEnd
  rw [pat_n (show 328 < 232 ∨ 268 ≤ 328 by omega)]
  split
  · rw [pat_upd (by omega), pat_n hk]
  · unfold nightF
    rw [if_neg (by omega), if_neg (by omega), pat_n (show 327 < 232 ∨ 268 ≤ 327 by omega), pat_upd (by omega), pat_upd (by omega), pat_upd (by omega), pat_n hk]
theorem drawn_pat {X R : Nat → Int32} : sDrawn (pat X R) = pat X (sDrawn R) ∧ sLot (pat X R) = sLot R := by
  have : sLot (pat X R) = sLot R := by
    unfold sLot
    rw [pat_n (by omega)]
  refine ⟨?_, this⟩
  unfold sDrawn
  rw [this, pat_upd (by omega)]
theorem sPass_hour {V : Nat → (Nat → Int32) → Int32} {R : Nat → Int32} {d u : Nat} (hu : u < 7) (e : R 328 = nI u) : (sPass V R d).1 328 = nI (u + 1) ∧ (sHerds V d 6 0 R 0).1 328 + 1 < 8 ∧ ∀ k, 196 ≤ k → k < 268 → (sPass V R d).1 k = R k := by
  have e2 : (sHerds V d 6 0 R 0).1 328 = nI u := by rw [sHerds_n (by omega) 6 0 R 0 rfl, e]
  have c : nI u + 1 < 8 := by
    rw [nI_1]
    exact nI_lt (b := 8) (by omega) (by omega)
  unfold sPass sEnd
  rw [e2, if_pos c]
  dsimp only
  refine ⟨by rw [ud_s, nI_1], c, fun k h1 h2 => ?_⟩
  rw [ud_n (by omega), sHerds_n (by omega) 6 0 R 0 rfl]
theorem run_pat {V : Nat → (Nat → Int32) → Int32} (L : VB V) {X : Nat → Int32} {A : Nat → Prop} : ∀ (n u : Nat) (R : Nat → Int32) (l : Int32), u + n ≤ 8 → R 328 = nI u → RowOk R → LitEq A X R → (∀ l, l < 12 → bitOf (sSeenR V n R) l = true → A l) →
    (sRun V n (pat X R) l).2 = (sRun V n R l).2 ∧ ∀ k, k < 232 ∨ 268 ≤ k → (sRun V n (pat X R) l).1 k = (sRun V n R l).1 k
  | 0, _, _, _, _, _, _, _, _ => ⟨rfl, fun _ hk => pat_n hk⟩
  | n + 1, u, R, l, hn, eu, ok, lit, hA => by
    unfold sSeenR at hA
    unfold sRun
    have okd := sDrawn_ok ok
    have litd : LitEq A X (sDrawn R) := lit.off fun k h1 h2 => ud_n (by omega)
    have hs := herds_pat L (A := A) (d := sLot R % 10) 6 0 (sDrawn R) 0 rfl okd litd (fun l hl e => hA l hl (by rw [bitOf_or, e, Bool.true_or]))
    have hp : sPass V (sDrawn (pat X R)) (sLot (pat X R) % 10) = (sEnd (pat X (sHerds V (sLot R % 10) 6 0 (sDrawn R) 0).1), (sPass V (sDrawn R) (sLot R % 10)).2) := by
      rw [drawn_pat.1, drawn_pat.2]
      unfold sPass
      rw [hs]
    have ed : sDrawn R 328 = nI u := by
      unfold sDrawn
      rw [ud_n (by omega), eu]
    rw [hp]
    simp only
    by_cases c : u < 7
    · obtain ⟨p1, p2, p3⟩ := sPass_hour (V := V) (d := sLot R % 10) c ed
      rw [end_pat p2]
      exact run_pat L n (u + 1) _ _ (by omega) p1 (sPass_ok L okd) (litd.off p3) (fun l hl e => hA l hl (by
        have e' : bitOf (sSeenR V n (sPass V (sDrawn R) (sLot R % 10)).1) l = true := e
        rw [bitOf_or, e', Bool.or_true]))
    · obtain rfl : n = 0 := by omega
      unfold sRun
      refine ⟨rfl, fun k hk => ?_⟩
      unfold sPass
      exact end_pat' hk
/-- what is told of a row behind some hours -/
theorem living_pat {R R' : Nat → Int32} (h : ∀ k, k < 232 ∨ 268 ≤ k → R' k = R k) : sLiving R' = sLiving R := by
  unfold sLiving sumF sumF sumF sumF sumF sumF sumF sLive
  simp only [h 268 (by omega), h (268 + 1) (by omega), h (268 + 2) (by omega), h (268 + 3) (by omega), h (268 + 4) (by omega), h (268 + 5) (by omega), h 280 (by omega), h (280 + 0) (by omega), h (268 + 0) (by omega), h (280 + 1) (by omega), h (280 + 2) (by omega), h (280 + 3) (by omega), h (280 + 4) (by omega), h (280 + 5) (by omega)]
theorem on_pat {R R' : Nat → Int32} (h : ∀ k, k < 232 ∨ 268 ≤ k → R' k = R k) {i : Nat} : sOn R' i = sOn R i := by
  unfold sOn
  rw [h _ (by omega), h _ (by omega), h _ (by omega)]
