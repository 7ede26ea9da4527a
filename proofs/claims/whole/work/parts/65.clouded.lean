/-! PURE: clouded -/
def sCloud (v : (Nat → Int32) → Int32) (R : Nat → Int32) (u : Nat) : Nat → Int32 :=
  if v (lTime (nI u) (R 327)) ≤ nI (sLot R % 10) then upd (sDrawn R) 329 (R 329 &&& (((1 : Int32) <<< (nI u &&& 31)) ^^^ (-1 : Int32)))
  else upd (sDrawn R) 329 (R 329 ||| ((1 : Int32) <<< (nI u &&& 31)))
def sClouds (v : (Nat → Int32) → Int32) : Nat → Nat → (Nat → Int32) → Nat → Int32
  | 0, _, R => R
  | n + 1, u, R => sClouds v n (u + 1) (sCloud v R u)
theorem bits_u : ∀ c, c < 256 → ∀ u, u < 8 → (∃ j, j ≤ 255 ∧ nI c &&& (((1 : Int32) <<< (nI u &&& 31)) ^^^ (-1 : Int32)) = nI j) ∧ (∃ j, j ≤ 255 ∧ nI c ||| ((1 : Int32) <<< (nI u &&& 31)) = nI j) ∧
    (nI c &&& (((1 : Int32) <<< (nI u &&& 31)) ^^^ (-1 : Int32))) ||| ((1 : Int32) <<< (nI u &&& 31)) = nI c ||| ((1 : Int32) <<< (nI u &&& 31)) := by
  have key : ∀ c, c < 256 → ∀ u, u < 8 → ((nI c &&& (((1 : Int32) <<< (nI u &&& 31)) ^^^ (-1 : Int32))).toNatClampNeg ≤ 255 ∧ nI (nI c &&& (((1 : Int32) <<< (nI u &&& 31)) ^^^ (-1 : Int32))).toNatClampNeg = nI c &&& (((1 : Int32) <<< (nI u &&& 31)) ^^^ (-1 : Int32))) ∧ ((nI c ||| ((1 : Int32) <<< (nI u &&& 31))).toNatClampNeg ≤ 255 ∧ nI (nI c ||| ((1 : Int32) <<< (nI u &&& 31))).toNatClampNeg = nI c ||| ((1 : Int32) <<< (nI u &&& 31))) ∧
    (nI c &&& (((1 : Int32) <<< (nI u &&& 31)) ^^^ (-1 : Int32))) ||| ((1 : Int32) <<< (nI u &&& 31)) = nI c ||| ((1 : Int32) <<< (nI u &&& 31)) := by decide +kernel
  intro c hc u hu
  obtain ⟨⟨a1, a2⟩, ⟨b1, b2⟩, e⟩ := key c hc u hu
  exact ⟨⟨_, a1, a2.symm⟩, ⟨_, b1, b2.symm⟩, e⟩
theorem sCloud_ok {v : (Nat → Int32) → Int32} {R : Nat → Int32} (ok : RowOk R) {u : Nat} (hu : u < 8) : RowOk (sCloud v R u) := by
  obtain ⟨c, hc, e⟩ := ok.clouds
  obtain ⟨⟨j1, h1, e1⟩, ⟨j2, h2, e2⟩, -⟩ := bits_u c (by omega) u hu
  unfold sCloud
  split
  · rw [e, e1]
    exact (sDrawn_ok ok).upd (ok_le (m := 255) rfl h1)
  · rw [e, e2]
    exact (sDrawn_ok ok).upd (ok_le (m := 255) rfl h2)
theorem sDrawn_327 {R : Nat → Int32} : sDrawn R 327 = R 327 := ud_n (by decide)
theorem sDrawn_329 {R : Nat → Int32} : sDrawn R 329 = R 329 := ud_n (by decide)
theorem lTime_0 {h h' t : Int32} {K : Nat → Int32} (hz : ∀ i, i < 15 → K i = lTime h t i) : ∀ i, i < 15 → upd K 0 h' i = lTime h' t i := fun i hi => by
  unfold upd
  by_cases c : i = 0
  · subst c
    rfl
  · rw [if_neg c, hz i hi]
    unfold lTime
    rw [if_neg c, if_neg c]
theorem clouded_b {B : xMem} {V : Nat → (Nat → Int32) → Int32} (L : LawV B V) : ∀ (n u f : Nat) (N : xMem), u + n = 8 → n < f → lawC B N → RowOk (N 0) →
    ∃ K, g8_clouded_b8 f (nI u) N = some ((sClouds (V 7) n u (N 0)) 329, K) ∧ K 0 = sClouds (V 7) n u (N 0) ∧ Off (SS 0) N K
  | 0, u, f + 1, N, hk, hn, lb, ok => by
    obtain rfl : u = 8 := by omega
    unfold g8_clouded_b8
    rw [if_pos (by decide)]
    exact ⟨N, rfl, rfl, Off.rf⟩
  | n + 1, u, f + 1, N, hk, hn, lb, ok => by
    unfold g8_clouded_b8 g8_clouded_b70 sClouds
    simp (disch := omega) only [↓reduceIte, i_ll, nle_f]
    rw [bs (draw_eq ok)]
    simp only [mset_eq, nI_1]
    have r1 : (upM N 0 330 (nI (sLot (N 0)))) 0 = sDrawn (N 0) := up_row
    have o1 : Off (SS 0) N (upM N 0 330 (nI (sLot (N 0)))) := ss_p (Off.up (by simp))
    generalize upM N 0 330 (nI (sLot (N 0))) = N1 at r1 o1 ⊢
    generalize hX : N1 0 329 &&& (((1 : Int32) <<< (nI u &&& 31)) ^^^ (-1 : Int32)) = X
    have r2 : (upM N1 0 329 X) 0 = upd (sDrawn (N 0)) 329 X := by rw [up_row, r1]
    have o2 : Off (SS 0) N (upM N1 0 329 X) := o1.up' (by decide)
    generalize upM N1 0 329 X = N2 at r2 o2 ⊢
    obtain ⟨K3, e3, o3, z3⟩ := tellTime_eq (p := 0) (M := N2) (h := nI u) (by decide)
    obtain ⟨vc, -, hA, -⟩ := L 7 (by decide)
    have o23 : Off (SS 0) N K3 := o2.tr (o3.mono (by decide))
    obtain ⟨K4, e4, o4⟩ := hA K3 (lb.tr (lc (by decide) o23))
    have e5 : g0_cloudTenths 0 (nI u) N2 = some (V 7 (lTime (nI u) (N 0 327)), K4) := by
      unfold g0_cloudTenths
      have e4' : g3_ask 7 K3 = some (V 7 (K3 101), K4) := e4
      have t : N2 0 327 = N 0 327 := by rw [r2, ud_n (by decide), sDrawn_327]
      rw [bs e3, bs e4', vc _ _ z3, t]
    rw [bs e5]
    have o4' : Off (SS 0) N K4 := o23.tr (o4.mono (by decide))
    have r4 : K4 0 = upd (sDrawn (N 0)) 329 X := by rw [o4 0 (by decide), o3 0 (by decide), r2]
    have hX' : X = N 0 329 &&& (((1 : Int32) <<< (nI u &&& 31)) ^^^ (-1 : Int32)) := by rw [← hX, r1, sDrawn_329]
    have okc := sCloud_ok (v := V 7) ok (show u < 8 by omega)
    dsimp only
    by_cases c : V 7 (lTime (nI u) (N 0 327)) ≤ nI (sLot (N 0) % 10)
    · rw [if_pos c]
      have r : K4 0 = sCloud (V 7) (N 0) u := by
        unfold sCloud
        rw [if_pos c, r4, hX']
      obtain ⟨K, e, rK, oK⟩ := clouded_b L n (u + 1) f K4 (by omega) (by omega) (lb.tr (lc (by decide) o4')) (by rw [r]; exact okc)
      rw [r] at e rK
      exact ⟨K, e, rK, o4'.tr oK⟩
    · rw [if_neg c]
      have r : (upM K4 0 329 (K4 0 329 ||| ((1 : Int32) <<< (nI u &&& 31)))) 0 = sCloud (V 7) (N 0) u := by
        obtain ⟨c', hc', ec'⟩ := ok.clouds
        have := (bits_u c' (by omega) u (by omega)).2.2
        rw [← ec'] at this
        unfold sCloud
        rw [if_neg c, up_row, r4, ud_s, hX', this]
        funext j
        unfold upd
        by_cases q : j = 329
        · rw [if_pos q, if_pos q]
        · rw [if_neg q, if_neg q, if_neg q]
      have o5 : Off (SS 0) N (upM K4 0 329 (K4 0 329 ||| ((1 : Int32) <<< (nI u &&& 31)))) := o4'.up' (by decide)
      generalize upM K4 0 329 (K4 0 329 ||| ((1 : Int32) <<< (nI u &&& 31))) = K5 at r o5 ⊢
      obtain ⟨K, e, rK, oK⟩ := clouded_b L n (u + 1) f K5 (by omega) (by omega) (lb.tr (lc (by decide) o5)) (by rw [r]; exact okc)
      rw [r] at e rK
      exact ⟨K, e, rK, o5.tr oK⟩
theorem clouded9_b {B : xMem} {V : Nat → (Nat → Int32) → Int32} (L : LawV B V) : ∀ (n u f : Nat) (N : xMem), u + n = 8 → n < f → lawM B N → RowOk (N 7) →
    ∃ K, g9_clouded_b9 f (nI u) N = some ((sClouds (V 7) n u (N 7)) 329, K) ∧ K 7 = sClouds (V 7) n u (N 7) ∧ Off TT N K
  | 0, u, f + 1, N, hk, hn, lb, ok => by
    obtain rfl : u = 8 := by omega
    unfold g9_clouded_b9
    rw [if_pos (by decide)]
    exact ⟨N, rfl, rfl, Off.rf⟩
  | n + 1, u, f + 1, N, hk, hn, lb, ok => by
    unfold g9_clouded_b9 g9_clouded_b80 sClouds
    simp (disch := omega) only [↓reduceIte, i_ll, nle_f]
    rw [bs (draw9_eq ok)]
    have r1 : (upM N 7 330 (nI (sLot (N 7)))) 7 = sDrawn (N 7) := up_row
    have o1 : Off TT N (upM N 7 330 (nI (sLot (N 7)))) := tt_7 (Off.up (by simp))
    generalize upM N 7 330 (nI (sLot (N 7))) = N1 at r1 o1 ⊢
    dsimp only
    obtain ⟨K2, e2, o2, z2⟩ := feels_eq (M := N1)
    rw [bs e2]
    simp only [mset_eq, nI_1]
    have t2 : (upM K2 186 0 (nI u)) 186 = upd (K2 186) 0 (nI u) := up_row
    have o3 : Off TT N (upM K2 186 0 (nI u)) := (o1.tr (tt_f o2)).up' (by decide)
    have r3 : (upM K2 186 0 (nI u)) 7 = sDrawn (N 7) := by rw [up_b (by decide), o2 7 (by decide), r1]
    generalize upM K2 186 0 (nI u) = K3 at t2 o3 r3 ⊢
    obtain ⟨vc, -, -, hB⟩ := L 7 (by decide)
    obtain ⟨K4, e4, o4⟩ := hB K3 (lb.tr (lm o3))
    have e4' : g9_byLaw 113 0 10 K3 = some (V 7 (lTime (nI u) (N 7 327)), K4) := by
      have e4'' : g9_byLaw 113 0 10 K3 = some (V 7 (K3 186), K4) := e4
      have t : N1 7 327 = N 7 327 := by rw [r1, sDrawn_327]
      rw [e4'', t2, vc _ _ (lTime_0 z2), t]
    rw [bs e4']
    have o4' : Off TT N K4 := o3.tr (o4.mono (by decide))
    have r4 : K4 7 = sDrawn (N 7) := (o4 7 (by decide)).trans r3
    have okc := sCloud_ok (v := V 7) ok (show u < 8 by omega)
    dsimp only
    have i329 : (329 : Int32).toNatClampNeg = 329 := by decide
    have go : ∀ x, upd (sDrawn (N 7)) 329 x = sCloud (V 7) (N 7) u → ∃ K, g9_clouded_b9 f (nI (u + 1)) (upM K4 7 (329 : Int32).toNatClampNeg x) = some ((sClouds (V 7) n (u + 1) (sCloud (V 7) (N 7) u)) 329, K) ∧ K 7 = sClouds (V 7) n (u + 1) (sCloud (V 7) (N 7) u) ∧ Off TT N K := fun x hx => by
      rw [i329]
      have r5 : (upM K4 7 329 x) 7 = sCloud (V 7) (N 7) u := by rw [up_row, r4, hx]
      have o5 : Off TT N (upM K4 7 329 x) := o4'.up' (by decide)
      generalize upM K4 7 329 x = K5 at r5 o5 ⊢
      obtain ⟨K, e, rK, oK⟩ := clouded9_b L n (u + 1) f K5 (by omega) (by omega) (lb.tr (lm o5)) (by rw [r5]; exact okc)
      rw [r5] at e rK
      exact ⟨K, e, rK, o5.tr oK⟩
    have c329 : K4 7 329 = N 7 329 := by rw [r4, sDrawn_329]
    by_cases c : V 7 (lTime (nI u) (N 7 327)) ≤ nI (sLot (N 7) % 10)
    · rw [if_pos c, if_neg (by decide)]
      exact go _ (by unfold sCloud; rw [if_pos c, c329])
    · rw [if_neg c, if_neg (by decide)]
      exact go _ (by unfold sCloud; rw [if_neg c, c329])
theorem sClouds_ok {v : (Nat → Int32) → Int32} : ∀ (n u : Nat) (R : Nat → Int32), u + n = 8 → RowOk R → RowOk (sClouds v n u R)
  | 0, _, _, _, ok => ok
  | n + 1, u, R, h, ok => sClouds_ok n (u + 1) _ (by omega) (sCloud_ok ok (by omega))
theorem pair_clouded : Pair g8_clouded g9_clouded := by
  intro M I
  unfold g8_clouded g9_clouded
  obtain ⟨V, L⟩ := lawV_of I.law
  obtain ⟨u, hu, eu⟩ := I.ok.hour
  obtain ⟨K, e, r, o⟩ := clouded_b L (8 - u) u 5000 M (by omega) (by omega) (fun _ _ => rfl) I.ok
  have k7 : K 7 = M 0 := (o 7 (by decide)).trans I.eq7
  obtain ⟨K', e', r', o'⟩ := clouded9_b L (8 - u) u 5000 K (by omega) (by omega) (lawM.off' o (by decide)) (by rw [k7]; exact I.ok)
  rw [k7] at e' r'
  refine ⟨_, K, K', by rw [eu, e], by rw [k7, eu, e'], ?_⟩
  have ok' := sClouds_ok (v := V 7) (8 - u) u (M 0) (by omega) I.ok
  have r0 : K' 0 = sClouds (V 7) (8 - u) u (M 0) := (o' 0 (by decide)).trans r
  refine I.rows (S := SS 0 ++ TT) (fun b hb => ?_) (by decide) (fun b hb h10 => ?_) (by rw [r', r0]) (by rw [r0]; exact ok')
  · rw [o' b (fun q => hb (List.mem_append_right _ q)), o b (fun q => hb (List.mem_append_left _ q))]
  · have : b = 0 ∨ b = 7 := by revert b; decide
    rcases this with rfl | rfl
    · rw [r0]; exact ok'
    · rw [r']; exact ok'
