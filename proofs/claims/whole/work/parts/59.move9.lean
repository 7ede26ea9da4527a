/-! PURE: an hour of a herd, the reference's -/
theorem held9_eq {x : Int32} {m : Nat} (hm : m < 2147483648) {M : xMem} : g9_held x (nI m) M = some (clv 0 (nI m) x, M) := by
  rw [← clv_ref (nI_pos' hm)]
  unfold g9_held
  by_cases c : 0 ≤ x
  · rw [if_pos c, if_pos c]
    by_cases c2 : x ≤ nI m
    · rw [if_pos c2, if_pos c2]
    · rw [if_neg c2, if_neg c2]
  · rw [if_neg c, if_neg c]
theorem clv_min {a m : Nat} (ha : a < 2147483648) (hm : m < 2147483648) : clv 0 (nI m) (nI a) = xMin (nI a) (nI m) := by
  rw [min_nat ha hm]
  unfold clv
  rw [min_nat hm ha, Nat.min_comm]
  unfold xMax
  by_cases c : (0 : Int32) < nI (min a m)
  · rw [if_pos c]
  · rw [if_neg c]
    have h1 := nI_pos' (n := min a m) (by omega)
    exact Int32.toInt_inj.mp (by
      have a1 := (fa_le' _ _).mp h1
      have a2 : ¬ (0 : Int32).toInt < (nI (min a m)).toInt := fun q => c ((fa_lt' _ _).mpr q)
      omega)
def TT : List Nat := [7, 185, 186]
theorem lm {N K : xMem} (o : Off TT N K) : lawM N K := lawM.off' o (by decide)
theorem tt_7 {N K : xMem} (o : Off [7] N K) : Off TT N K := o.mono (by decide)
theorem tt_a {N K : xMem} (o : Off [186, 185] N K) : Off TT N K := o.mono (by decide)
theorem tt_f {N K : xMem} (o : Off [186] N K) : Off TT N K := o.mono (by decide)
theorem b134_eq {h : Nat} {d : Nat} (hh : h < 6) {B : xMem} {V : Nat → (Nat → Int32) → Int32} (L : LawV B V) {N : xMem} {q : Nat} {x : Int32} (lb : lawM B N) (hq : q < 196) (eq : N 7 (274 + h) = nI q) :
    ∃ K, g9_herdGoes_b134 (nI h) (nI d) x N = some (x, K) ∧ K 7 = sScare V (N 7) h d ∧ Off TT N K := by
  unfold g9_herdGoes_b134
  obtain ⟨K, K', e, o, e', o'⟩ := ask9_eq (r := nI d) (a := 5) L lb hh hq eq (by decide)
  have e2 : g9_byLaw 102 (-99) 99 K = some (V 5 (lHerd (N 7) h (nI d)), K') := e'
  have k7 : K 7 = N 7 := o 7 (by decide)
  have k7' : K' 7 = N 7 := o' 7 (by decide)
  rw [bs e]
  simp (disch := omega) only [↓reduceIte, i_lt0, i_cl, i_al, nle_f, or_self, mset_eq, k7]
  have e3 : g9_held (N 7 (292 + h) + V 5 (lHerd (N 7) h (nI d))) 99 K' = some (clv 0 99 (N 7 (292 + h) + V 5 (lHerd (N 7) h (nI d))), K') := held9_eq (m := 99) (by omega)
  rw [bs e2]
  rw [bs e3]
  refine ⟨_, rfl, ?_, (tt_a o').up' (by decide)⟩
  rw [up_row]
  dsimp only
  rw [k7']
  rfl
theorem sinksB_eq {h : Nat} {d : Nat} (hh : h < 6) {B : xMem} {V : Nat → (Nat → Int32) → Int32} (L : LawV B V) {N : xMem} {q : Nat} {R : Nat → Int32} {g l x : Int32} (hg : GoalOk g) (ok : RowOk R) (h7 : N 7 = sLed R g l) (lb : lawM B N) (hq : q < 196) (eq : R (274 + h) = nI q) :
    ∃ K, g9_sinks_b51 (nI h) (nI d) (sSort R h) x N = some (x, K) ∧ K 7 = sLed (sDry V R h d) g l ∧ Off TT N K := by
  unfold g9_sinks_b51 g9_sinks_b101
  have eq7 : N 7 (274 + h) = nI q := by rw [h7, sLed_n hg (by omega), eq]
  have hl : lHerd (N 7) h (nI d) = lHerd R h (nI d) := lHerd_eq hh hq eq (fun k hk => by rw [h7, sLed_n hg hk])
  obtain ⟨K, K', e, o, e', o'⟩ := ask9_eq (r := nI d) (a := 3) L lb hh hq eq7 (by decide)
  rw [hl] at e'
  have e2 : g9_byLaw 119 0 99 K = some (V 3 (lHerd R h (nI d)), K') := e'
  have k7 : K 7 = N 7 := o 7 (by decide)
  have k7' : K' 7 = N 7 := o' 7 (by decide)
  rw [bs e]
  by_cases c : sSort R h = 2
  · rw [if_pos c]
    simp (disch := omega) only [↓reduceIte, i_lt0, i_cl, i_al, nle_f, or_self, mset_eq]
    refine ⟨_, rfl, ?_, (tt_f o).up' (by decide)⟩
    unfold sDry
    rw [if_pos c, up_row, k7, h7, sLed_upd hg (by omega)]
  · rw [if_neg c]
    obtain ⟨t, ht, et⟩ := ok.thirst hh
    obtain ⟨w, hw, ew⟩ := L.vb.nat (a := 3) (m := 99) (by decide) rfl rfl (by omega) (lHerd R h (nI d))
    have e3 : g9_held (N 7 (286 + h) + V 3 (lHerd R h (nI d))) 99 K' = some (xMin (R (286 + h) + V 3 (lHerd R h (nI d))) 99, K') := by
      rw [h7, sLed_n hg (by omega), et, ew, nI_add]
      have := clv_min (a := t + w) (m := 99) (by omega) (by omega)
      rw [show xMin (nI (t + w)) 99 = xMin (nI (t + w)) (nI 99) from rfl, ← this]
      exact held9_eq (m := 99) (by omega)
    simp (disch := omega) only [↓reduceIte, i_lt0, i_cl, i_al, nle_f, or_self, mset_eq, k7]
    rw [bs e2, bs e3]
    refine ⟨_, rfl, ?_, (tt_a o').up' (by decide)⟩
    unfold sDry
    rw [if_neg c, up_row]
    dsimp only
    rw [k7', h7, sLed_upd hg (by omega)]
theorem sinks_eq {h : Nat} {d : Nat} (hh : h < 6) {B : xMem} {V : Nat → (Nat → Int32) → Int32} (L : LawV B V) {N : xMem} {q : Nat} {g : Int32} (hg : GoalOk g) (ok : RowOk (N 7)) (lb : lawM B N) (hq : q < 196) (eq : N 7 (274 + h) = nI q) :
    ∃ K, g9_sinks (nI h) (nI d) g N = some ((sBog V (N 7) h d).2, K) ∧ K 7 = sLed (sDry V (sBog V (N 7) h d).1 h d) g (sBog V (N 7) h d).2 ∧ Off TT N K := by
  unfold g9_sinks
  simp (disch := omega) only [↓reduceIte, i_lt0, i_cl, i_al, nle_f, or_self, eq, Nat.zero_add]
  have es : N 7 q = sSort (N 7) h := by unfold sSort; rw [eq, i_cl (by omega)]
  rw [es]
  by_cases c1 : sSort (N 7) h = 1
  · rw [if_pos c1]
    obtain ⟨K, K', e, o, e', o'⟩ := ask9_eq (r := nI d) (a := 2) L lb hh hq eq (by decide)
    have e2 : g9_byLaw 115 0 99 K = some (V 2 (lHerd (N 7) h (nI d)), K') := e'
    have k7' : K' 7 = N 7 := o' 7 (by decide)
    rw [bs e, bs e2]
    obtain ⟨K3, e3, r3, o3⟩ := lose9_eq (M := K') (n := V 2 (lHerd (N 7) h (nI d))) hh hg
    rw [bs e3]
    rw [k7'] at r3 ⊢
    have hb : sBog V (N 7) h d = (sLost (N 7) h (V 2 (lHerd (N 7) h (nI d))), sLose (N 7) h (V 2 (lHerd (N 7) h (nI d)))) := by
      unfold sBog
      rw [if_pos c1]
    have hs := sBog_sort (V := V) (d := d) hh hq eq
    have okb := sBog_ok (d := d) L.vb ok hh
    have sq := sBog_sq (V := V) (R := N 7) (d := d) hh
    rw [hb] at hs okb sq ⊢
    rw [← hs]
    obtain ⟨K4, e4, r4, o4⟩ := sinksB_eq (d := d) (x := sLose (N 7) h (V 2 (lHerd (N 7) h (nI d)))) hh L hg okb r3 ((lb.tr (lm (tt_a o'))).tr (lm (tt_7 o3))) hq (by rw [sq, eq])
    exact ⟨K4, e4, r4, ((tt_a o').tr (tt_7 o3)).tr o4⟩
  · rw [if_neg c1]
    have hb : sBog V (N 7) h d = (N 7, 0) := by
      unfold sBog
      rw [if_neg c1]
    rw [hb]
    exact sinksB_eq (d := d) (x := 0) hh L hg ok sLed_0.symm lb hq eq
theorem bear9_eq {h : Nat} {d : Nat} (hh : h < 6) {B : xMem} {V : Nat → (Nat → Int32) → Int32} (L : LawV B V) {N : xMem} {g : Int32} (hg : GoalOk g) (lb : lawM B N) (ok : RowOk (N 7)) :
    ∃ K, g9_herdGoes_b74 (nI h) (nI d) g N = some ((sBear V (N 7) g h d).2, K) ∧ K 7 = (sBear V (N 7) g h d).1 ∧ Off TT N K := by
  unfold g9_herdGoes_b74 sBear
  rw [bs (on9_in ok hh)]
  simp only [b2i_0]
  by_cases c : sOn (N 7) h = true
  · obtain ⟨q, hq, eq⟩ : ∃ q, q < 196 ∧ N 7 (274 + h) = nI q := by
      obtain ⟨q, hq, eq⟩ := ok.sq hh
      refine ⟨q, ?_, eq⟩
      unfold sOn at c
      simp only [Bool.and_eq_true, decide_eq_true_eq] at c
      have : ¬ q = 196 := fun x => c.2 (by rw [eq, x]; rfl)
      omega
    rw [if_neg (fun x => x c), if_pos c]
    obtain ⟨K1, e1, r1, o1⟩ := sinks_eq (d := d) hh L hg ok lb hq eq
    rw [bs e1]
    have okb := sBog_ok (d := d) L.vb ok hh
    have sqb := sBog_sq (V := V) (R := N 7) (d := d) hh
    generalize hbb : sBog V (N 7) h d = b at *
    have okc := sDry_ok (d := d) L.vb okb hh
    have sqc : sDry V b.1 h d (274 + h) = nI q := by rw [sDry_sq hh, sqb, eq]
    generalize hcc : sDry V b.1 h d = C at *
    simp (disch := omega) only [↓reduceIte, i_lt0, i_cl, i_al, nle_f, or_self]
    have th : K1 7 (286 + h) = C (286 + h) := by rw [r1, sLed_n hg (by omega)]
    have lb1 := lb.tr (lm o1)
    rw [th]
    by_cases c2 : C (286 + h) = 99
    · rw [if_pos c2]
      have eq7 : K1 7 (274 + h) = nI q := by rw [r1, sLed_n hg (by omega), sqc]
      have hl : lHerd (K1 7) h (nI d) = lHerd C h (nI d) := lHerd_eq hh hq sqc (fun k hk => by rw [r1, sLed_n hg hk])
      obtain ⟨K, K', e, o, e', o'⟩ := ask9_eq (r := nI d) (a := 4) L lb1 hh hq eq7 (by decide)
      rw [hl] at e'
      have e2 : g9_byLaw 120 0 99 K = some (V 4 (lHerd C h (nI d)), K') := e'
      have k7' : K' 7 = K1 7 := o' 7 (by decide)
      rw [bs e, bs e2]
      obtain ⟨K3, e3, r3, o3⟩ := lose9_eq (M := K') (n := V 4 (lHerd C h (nI d))) hh hg
      rw [bs e3]
      have hd1 : sDie V C h d = (sLost C h (V 4 (lHerd C h (nI d))), sLose C h (V 4 (lHerd C h (nI d)))) := by
        unfold sDie
        rw [if_pos c2]
      have hlose : sLose (K' 7) h (V 4 (lHerd C h (nI d))) = sLose C h (V 4 (lHerd C h (nI d))) := by
        unfold sLose
        rw [k7', r1, sLed_n hg (by omega)]
      have hlost : sLost (K' 7) h (V 4 (lHerd C h (nI d))) = sLed (sLost C h (V 4 (lHerd C h (nI d)))) g b.2 := by
        unfold sLost
        rw [hlose, k7', r1, sLed_n hg (by omega), sLed_upd hg (by omega)]
      rw [hlost, hlose, sLed_add] at r3
      rw [hlose]
      have sqd := sDie_sq (V := V) (R := C) (d := d) hh
      rw [hd1] at sqd ⊢
      dsimp only at sqd ⊢
      have eq3 : K3 7 (274 + h) = nI q := by rw [r3, sLed_n hg (by omega), sqd, sqc]
      obtain ⟨K4, e4, r4, o4⟩ := b134_eq (d := d) (x := b.2 + sLose C h (V 4 (lHerd C h (nI d)))) hh L ((lb1.tr (lm (tt_a o'))).tr (lm (tt_7 o3))) hq eq3
      refine ⟨K4, e4, ?_, ((o1.tr (tt_a o')).tr (tt_7 o3)).tr o4⟩
      rw [r4, r3]
      unfold sScare
      rw [sLed_n hg (by omega), lHerd_eq hh hq (sqd.trans sqc) (fun k hk => sLed_n hg hk), sLed_upd hg (by omega)]
    · rw [if_neg c2]
      have hd1 : sDie V C h d = (C, 0) := by
        unfold sDie
        rw [if_neg c2]
      rw [hd1, Int32.add_zero]
      have eq3 : K1 7 (274 + h) = nI q := by rw [r1, sLed_n hg (by omega), sqc]
      obtain ⟨K4, e4, r4, o4⟩ := b134_eq (d := d) (x := b.2) hh L lb1 hq eq3
      refine ⟨K4, e4, ?_, o1.tr o4⟩
      rw [r4, r1]
      unfold sScare
      rw [sLed_n hg (by omega), lHerd_eq hh hq sqc (fun k hk => sLed_n hg hk), sLed_upd hg (by omega)]
  · rw [if_pos c, if_neg c]
    exact ⟨N, rfl, rfl, Off.rf⟩
theorem move9_eq {h : Nat} {d : Nat} (hh : h < 6) (hd : d < 10) {B : xMem} {V : Nat → (Nat → Int32) → Int32} (L : LawV B V) {M : xMem} (lb : lawM B M) (ok : RowOk (M 7)) (on : sOn (M 7) h = true) :
    ∃ K, g9_herdGoes (nI h) (nI d) M = some ((sMove V (M 7) h d).2, K) ∧ K 7 = (sMove V (M 7) h d).1 ∧ Off TT M K := by
  obtain ⟨q, hq, eq⟩ : ∃ q, q < 196 ∧ M 7 (274 + h) = nI q := by
    obtain ⟨q, hq, eq⟩ := ok.sq hh
    refine ⟨q, ?_, eq⟩
    unfold sOn at on
    simp only [Bool.and_eq_true, decide_eq_true_eq] at on
    have : ¬ q = 196 := fun x => on.2 (by rw [eq, x]; rfl)
    omega
  obtain ⟨vc, -, -, hB⟩ := L 0 (by decide)
  obtain ⟨K, e, o⟩ := goal9_b (v := V 0) ok (M := M) hh hq eq vc (fun N hN => hB N (lb.tr hN)) 18 0 5000 (-1) 0 M rfl (by omega) rfl Off.rf
  have e0 : g9_targetOf (nI h) M = some (sGoal (V 0) (M 7) h 18 0 (-1) 0, K) := e
  have k7 : K 7 = M 7 := o 7 (by decide)
  have gok : GoalOk (sGoal (V 0) (M 7) h 18 0 (-1) 0) := sGoal_ok 18 0 (-1) 0 rfl (Or.inl rfl)
  unfold g9_herdGoes sMove
  rw [bs e0]
  obtain ⟨K1, K1', e1, o1, e1', o1'⟩ := ask9_eq (r := nI d) (a := 1) L (lb.tr (lm (tt_a o))) hh hq (by rw [k7, eq]) (by decide)
  have k17 : K1 7 = M 7 := (o1 7 (by decide)).trans k7
  rw [bs e1]
  simp (disch := omega) only [↓reduceIte, i_lt0, i_cl, i_al, nle_f, or_self, k17]
  have hB : ∀ N : xMem, N 7 = M 7 → Off TT M N → sGo V (M 7) h d = sGoB (M 7) h (sGoal (V 0) (M 7) h 18 0 (-1) 0) →
      ∃ K, g9_herdGoes_b51 (nI h) (nI d) (sGoal (V 0) (M 7) h 18 0 (-1) 0) N = some ((sBear V (sGo V (M 7) h d).1 (sGo V (M 7) h d).2 h d).2, K) ∧ K 7 = (sBear V (sGo V (M 7) h d).1 (sGo V (M 7) h d).2 h d).1 ∧ Off TT M K := by
    intro N hN oN hg
    rw [hg]
    unfold g9_herdGoes_b51 sGoB
    by_cases c : sGoal (V 0) (M 7) h 18 0 (-1) 0 = -1
    · rw [if_pos c, if_pos c]
      obtain ⟨K1, e1, r1, o1⟩ := goOn9_eq (M := N) hh
      rw [bs e1, c]
      obtain ⟨K2, e2, r2, o2⟩ := bear9_eq (d := d) (N := K1) hh L (Or.inl rfl : GoalOk (-1)) ((lb.tr (lm oN)).tr (lm (tt_7 o1))) (by rw [r1, hN]; exact sOnward_ok ok hh)
      rw [r1, hN] at e2 r2
      exact ⟨K2, e2, r2, (oN.tr (tt_7 o1)).tr o2⟩
    · rw [if_neg c, if_neg c]
      rcases gok with g1 | ⟨l, hl, g1⟩
      · exact absurd g1 c
      rw [g1, i_cl (by omega), bs (lampAt9 hl), hN]
      obtain ⟨K1, e1, r1, o1⟩ := follow9_eq (M := N) (t := sqL (M 7) l) hh
      rw [bs e1]
      obtain ⟨K2, e2, r2, o2⟩ := bear9_eq (d := d) (N := K1) hh L (Or.inr ⟨l, hl, rfl⟩ : GoalOk (nI l)) ((lb.tr (lm oN)).tr (lm (tt_7 o1))) (by rw [r1, hN]; exact sFollow_ok ok hh)
      rw [r1, hN] at e2 r2
      exact ⟨K2, e2, r2, (oN.tr (tt_7 o1)).tr o2⟩
  by_cases c1 : M 7 (292 + h) < 50
  · rw [if_pos c1]
    exact hB K1 k17 ((tt_a o).tr (tt_f o1)) (by unfold sGo; rw [if_pos c1])
  · rw [if_neg c1]
    rw [k7] at e1'
    have e2 : g9_byLaw 122 0 10 K1 = some (V 1 (lHerd (M 7) h (nI d)), K1') := e1'
    have k1p : K1' 7 = M 7 := (o1' 7 (by decide)).trans k7
    rw [bs e2]
    by_cases c2 : V 1 (lHerd (M 7) h (nI d)) ≤ nI d
    · rw [if_pos c2]
      exact hB K1' k1p ((tt_a o).tr (tt_a o1')) (by unfold sGo; rw [if_neg c1, if_pos c2])
    · rw [if_neg c2]
      have hg : sGo V (M 7) h d = (sStamp (M 7) h d, -1) := by unfold sGo; rw [if_neg c1, if_neg c2]
      rw [hg]
      obtain ⟨K2, e2, r2, o2⟩ := stampede9_eq (M := K1') hh hd
      rw [bs e2]
      obtain ⟨K3, e3, r3, o3⟩ := bear9_eq (d := d) (N := K2) hh L (Or.inl rfl : GoalOk (-1)) (((lb.tr (lm (tt_a o))).tr (lm (tt_a o1'))).tr (lm (tt_7 o2))) (by rw [r2, k1p]; exact sStamp_ok ok hh)
      rw [r2, k1p] at e3 r3
      exact ⟨K3, e3, r3, (((tt_a o).tr (tt_a o1')).tr (tt_7 o2)).tr o3⟩
