-- 14.herds
def g8_ground_b46 (x3 x4 : Int32) (M : xMem) : Option (Int32 × xMem) :=
if x4 < 0 ∨ 196 ≤ x4.toNatClampNeg then none else
mset (upM M 0 x4.toNatClampNeg x3) fun M12 =>
some ((1 : Int32), M12)
set_option maxHeartbeats 4000000 in
set_option maxRecDepth 20000 in
theorem v8_ground_b46 {G : xG} (hC : xC G cX8_ground 5 RX8 2) {R : Int32 × xMem} (hR : xRZ G cX8_ground 5 R) (x3 x4 : Int32) (M : xMem) (h : g8_ground_b46 x3 x4 M = some R) : V G 5 46 [(0, .inr 0), (3, .inl x3), (4, .inl x4)] [] M := by
  unfold g8_ground_b46 at h
  refine V.aload_n (r := 47) hC 0 dX8_ground_46 rfl rfl ?_
  refine V.getR (k' := 2) (j := 1) (r := 50) hC xcl_8 sh_0 fl_RX8_20 dX8_ground_47 (by decide) rfl rfl ?_
  refine V.getR (k' := 3) (j := 0) (r := 53) hC xcl_6 sh_2 fl_RX8_67 dX8_ground_50 (by decide) rfl rfl ?_
  refine V.iload (r := 55) hC 2 dX8_ground_53 rfl rfl ?_
  refine V.iload_n (r := 56) hC 1 dX8_ground_55 rfl rfl ?_
  by_cases c11 : x4 < 0 ∨ 196 ≤ x4.toNatClampNeg
  · rw [if_pos c11] at h; cases h
  rw [if_neg c11] at h
  rw [mset_eq] at h
  refine V.iast (t := x4.toNatClampNeg) (r := 57) hC sh_3 dX8_ground_56 c11 (Nat.zero_add _) rfl ?_
  generalize upM M 0 x4.toNatClampNeg x3 = M12 at h ⊢
  refine V.iconst (r := 58) hC dX8_ground_57 ki_1 rfl ?_
  cases h
  exact hR _ _ (Or.inr rfl) dX8_ground_58
def g8_ground (a0 a1 a2 : Int32) (M : xMem) : Option (Int32 × xMem) :=
Option.bind (g8_isSquare a0 a1 M) fun q1 =>
if (q1.1) = 0 then
(some ((0 : Int32), q1.2))
else
(Option.bind (g8_isIn a2 (0 : Int32) (3 : Int32) q1.2) fun q4 =>
if (q4.1) = 0 then
(some ((0 : Int32), q4.2))
else
(if a2 = (3 : Int32) then
(Option.bind (g6_isTaken 0 (((14 : Int32) * a1) + a0) q4.2) fun q8 =>
if (q8.1) = 0 then
(g8_ground_b46 a2 (((14 : Int32) * a1) + a0) q8.2)
else
(some ((0 : Int32), q8.2)))
else
(g8_ground_b46 a2 (((14 : Int32) * a1) + a0) q4.2)))
set_option maxHeartbeats 4000000 in
set_option maxRecDepth 20000 in
theorem v8_ground {G : xG} (hC : xC G cX8_ground 5 RX8 2) {R : Int32 × xMem} (hR : xRZ G cX8_ground 5 R) {a0 a1 a2 : Int32} {M : xMem} (h : g8_ground a0 a1 a2 M = some R) : V G 5 0 [(0, .inr 0), (1, .inl a0), (2, .inl a1), (3, .inl a2)] [] M := by
  unfold g8_ground at h
  refine V.iload_n (r := 1) hC 1 dX8_ground_0 rfl rfl ?_
  refine V.iload_n (r := 2) hC 2 dX8_ground_1 rfl rfl ?_
  obtain ⟨q1, hq2, h⟩ := Option.bind_eq_some_iff.mp h
  try dsimp only at h
  refine V.invSi (as := [.inl a0, .inl a1]) (st := []) (r := 5) hC (met8_isSquare hq2) ys_X8_isSquare ml_RX8_55 dX8_ground_2 (by decide) rfl rfl rfl rfl ?_
  refine V.if_eq (tgt := 17) (r := 8) hC dX8_ground_5 (by decide) rfl (fun c3 => ?_) (fun c3 => ?_)
  · rw [if_pos c3] at h
    refine V.iconst (r := 18) hC dX8_ground_17 ki_0 rfl ?_
    cases h
    exact hR _ _ (Or.inl rfl) dX8_ground_18
  · rw [if_neg c3] at h
    refine V.iload_n (r := 9) hC 3 dX8_ground_8 rfl rfl ?_
    refine V.iconst (r := 10) hC dX8_ground_9 ki_0 rfl ?_
    refine V.iconst (r := 11) hC dX8_ground_10 ki_3 rfl ?_
    obtain ⟨q4, hq5, h⟩ := Option.bind_eq_some_iff.mp h
    try dsimp only at h
    refine V.invSi (as := [.inl a2, .inl (0 : Int32), .inl (3 : Int32)]) (st := []) (r := 14) hC (met8_isIn hq5) ys_X8_isIn ml_RX8_59 dX8_ground_11 (by decide) rfl rfl rfl rfl ?_
    refine V.if_ne (tgt := 19) (r := 17) hC dX8_ground_14 (by decide) rfl (fun c6 => ?_) (fun c6 => ?_)
    · rw [if_neg c6] at h
      refine V.bipush (r := 21) hC dX8_ground_19 kb_14 rfl ?_
      refine V.iload_n (r := 22) hC 2 dX8_ground_21 rfl rfl ?_
      refine V.imul (r := 23) hC dX8_ground_22 rfl ?_
      refine V.iload_n (r := 24) hC 1 dX8_ground_23 rfl rfl ?_
      refine V.iadd (r := 25) hC dX8_ground_24 rfl ?_
      refine V.ist (lv' := [(0, .inr 0), (1, .inl a0), (2, .inl a1), (3, .inl a2), (4, .inl (((14 : Int32) * a1) + a0))]) (r := 27) hC dX8_ground_25 rfl rfl rfl ?_
      refine V.iload_n (r := 28) hC 3 dX8_ground_27 rfl rfl ?_
      refine V.iconst (r := 29) hC dX8_ground_28 ki_3 rfl ?_
      refine V.icmp_ne (tgt := 46) (r := 32) hC dX8_ground_29 (by decide) rfl (fun c7 => ?_) (fun c7 => ?_)
      · rw [if_neg c7] at h
        refine V.pick (lv' := [(0, .inr 0), (3, .inl a2), (4, .inl (((14 : Int32) * a1) + a0))]) [0, 3, 4] rfl ?_
        exact v8_ground_b46  hC hR  _ _ _ h
      · rw [if_pos c7] at h
        refine V.aload_n (r := 33) hC 0 dX8_ground_32 rfl rfl ?_
        refine V.getR (k' := 2) (j := 1) (r := 36) hC xcl_8 sh_0 fl_RX8_20 dX8_ground_33 (by decide) rfl rfl ?_
        refine V.iload (r := 38) hC 4 dX8_ground_36 rfl rfl ?_
        obtain ⟨q8, hq9, h⟩ := Option.bind_eq_some_iff.mp h
        try dsimp only at h
        refine V.invVi (as := [.inl (((14 : Int32) * a1) + a0)]) (st := []) (r := 41) hC (met6_isTaken (by decide) hq9) yv_X6_isTaken ml_RX8_63 sh_2 rfl rfl dX8_ground_38 (by decide) rfl rfl rfl rfl ?_
        refine V.if_eq (tgt := 46) (r := 44) hC dX8_ground_41 (by decide) rfl (fun c10 => ?_) (fun c10 => ?_)
        · rw [if_pos c10] at h
          refine V.pick (lv' := [(0, .inr 0), (3, .inl a2), (4, .inl (((14 : Int32) * a1) + a0))]) [0, 3, 4] rfl ?_
          exact v8_ground_b46  hC hR  _ _ _ h
        · rw [if_neg c10] at h
          refine V.iconst (r := 45) hC dX8_ground_44 ki_0 rfl ?_
          cases h
          exact hR _ _ (Or.inl rfl) dX8_ground_45
    · rw [if_pos c6] at h
      refine V.iconst (r := 18) hC dX8_ground_17 ki_0 rfl ?_
      cases h
      exact hR _ _ (Or.inl rfl) dX8_ground_18
theorem met8_ground {R : Int32 × xMem} {a0 a1 a2 : Int32} {M : xMem} (h : g8_ground a0 a1 a2 M = some R) : xMet yX8_ground cX8_ground 5 (some .boolean) 2 [.inr 0, .inl a0, .inl a1, .inl a2] M (some R.1) R.2 := xMet.ofZ (by decide +kernel) (Nat.le_of_ble_eq_true rfl) fun _ hC hR => v8_ground  hC hR h
def g8_setLamp (a0 a1 a2 a3 a4 : Int32) (M : xMem) : Option (Int32 × xMem) :=
Option.bind (g8_isIn a0 (0 : Int32) (11 : Int32) M) fun q1 =>
if (q1.1) = 0 then
(some ((0 : Int32), q1.2))
else
(Option.bind (g8_isSquare a1 a2 q1.2) fun q4 =>
if (q4.1) = 0 then
(some ((0 : Int32), q4.2))
else
(Option.bind (g8_isIn a3 (0 : Int32) (4 : Int32) q4.2) fun q7 =>
if (q7.1) = 0 then
(some ((0 : Int32), q7.2))
else
(Option.bind (g6_sortAt 0 (((14 : Int32) * a2) + a1) q7.2) fun q10 =>
if (q10.1) = (3 : Int32) then
(some ((0 : Int32), q10.2))
else
(if a0 < 0 ∨ 12 ≤ a0.toNatClampNeg then none else
mset (upM q10.2 0 (196 + a0.toNatClampNeg) (1 : Int32)) fun M14 =>
mset (upM M14 0 (208 + a0.toNatClampNeg) (((14 : Int32) * a2) + a1)) fun M15 =>
mset (upM M15 0 (220 + a0.toNatClampNeg) a3) fun M16 =>
mset (upM M16 0 (232 + a0.toNatClampNeg) (0 : Int32)) fun M17 =>
mset (upM M17 0 (244 + a0.toNatClampNeg) (0 : Int32)) fun M18 =>
if a4 = 0 ∨ a4 = 1 then
mset (upM M18 0 (256 + a0.toNatClampNeg) a4) fun M20 =>
some ((1 : Int32), M20)
else none))))
set_option maxHeartbeats 4000000 in
set_option maxRecDepth 20000 in
theorem v8_setLamp {G : xG} (hC : xC G cX8_setLamp 7 RX8 1) {R : Int32 × xMem} (hR : xRZ G cX8_setLamp 7 R) {a0 a1 a2 a3 a4 : Int32} {M : xMem} (h : g8_setLamp a0 a1 a2 a3 a4 M = some R) : V G 7 0 [(0, .inr 0), (1, .inl a0), (2, .inl a1), (3, .inl a2), (4, .inl a3), (5, .inl a4)] [] M := by
  unfold g8_setLamp at h
  refine V.iload_n (r := 1) hC 1 dX8_setLamp_0 rfl rfl ?_
  refine V.iconst (r := 2) hC dX8_setLamp_1 ki_0 rfl ?_
  refine V.bipush (r := 4) hC dX8_setLamp_2 kb_11 rfl ?_
  obtain ⟨q1, hq2, h⟩ := Option.bind_eq_some_iff.mp h
  try dsimp only at h
  refine V.invSi (as := [.inl a0, .inl (0 : Int32), .inl (11 : Int32)]) (st := []) (r := 7) hC (met8_isIn hq2) ys_X8_isIn ml_RX8_59 dX8_setLamp_4 (by decide) rfl rfl rfl rfl ?_
  refine V.if_eq (tgt := 28) (r := 10) hC dX8_setLamp_7 (by decide) rfl (fun c3 => ?_) (fun c3 => ?_)
  · rw [if_pos c3] at h
    refine V.iconst (r := 29) hC dX8_setLamp_28 ki_0 rfl ?_
    cases h
    exact hR _ _ (Or.inl rfl) dX8_setLamp_29
  · rw [if_neg c3] at h
    refine V.iload_n (r := 11) hC 2 dX8_setLamp_10 rfl rfl ?_
    refine V.iload_n (r := 12) hC 3 dX8_setLamp_11 rfl rfl ?_
    obtain ⟨q4, hq5, h⟩ := Option.bind_eq_some_iff.mp h
    try dsimp only at h
    refine V.invSi (as := [.inl a1, .inl a2]) (st := []) (r := 15) hC (met8_isSquare hq5) ys_X8_isSquare ml_RX8_55 dX8_setLamp_12 (by decide) rfl rfl rfl rfl ?_
    refine V.if_eq (tgt := 28) (r := 18) hC dX8_setLamp_15 (by decide) rfl (fun c6 => ?_) (fun c6 => ?_)
    · rw [if_pos c6] at h
      refine V.iconst (r := 29) hC dX8_setLamp_28 ki_0 rfl ?_
      cases h
      exact hR _ _ (Or.inl rfl) dX8_setLamp_29
    · rw [if_neg c6] at h
      refine V.iload (r := 20) hC 4 dX8_setLamp_18 rfl rfl ?_
      refine V.iconst (r := 21) hC dX8_setLamp_20 ki_0 rfl ?_
      refine V.iconst (r := 22) hC dX8_setLamp_21 ki_4 rfl ?_
      obtain ⟨q7, hq8, h⟩ := Option.bind_eq_some_iff.mp h
      try dsimp only at h
      refine V.invSi (as := [.inl a3, .inl (0 : Int32), .inl (4 : Int32)]) (st := []) (r := 25) hC (met8_isIn hq8) ys_X8_isIn ml_RX8_59 dX8_setLamp_22 (by decide) rfl rfl rfl rfl ?_
      refine V.if_ne (tgt := 30) (r := 28) hC dX8_setLamp_25 (by decide) rfl (fun c9 => ?_) (fun c9 => ?_)
      · rw [if_neg c9] at h
        refine V.aload_n (r := 31) hC 0 dX8_setLamp_30 rfl rfl ?_
        refine V.getR (k' := 2) (j := 1) (r := 34) hC xcl_8 sh_0 fl_RX8_20 dX8_setLamp_31 (by decide) rfl rfl ?_
        refine V.bipush (r := 36) hC dX8_setLamp_34 kb_14 rfl ?_
        refine V.iload_n (r := 37) hC 3 dX8_setLamp_36 rfl rfl ?_
        refine V.imul (r := 38) hC dX8_setLamp_37 rfl ?_
        refine V.iload_n (r := 39) hC 2 dX8_setLamp_38 rfl rfl ?_
        refine V.iadd (r := 40) hC dX8_setLamp_39 rfl ?_
        obtain ⟨q10, hq11, h⟩ := Option.bind_eq_some_iff.mp h
        try dsimp only at h
        refine V.invVi (as := [.inl (((14 : Int32) * a2) + a1)]) (st := []) (r := 43) hC (met6_sortAt (by decide) hq11) yv_X6_sortAt ml_RX8_94 sh_2 rfl rfl dX8_setLamp_40 (by decide) rfl rfl rfl rfl ?_
        refine V.iconst (r := 44) hC dX8_setLamp_43 ki_3 rfl ?_
        refine V.icmp_ne (tgt := 49) (r := 47) hC dX8_setLamp_44 (by decide) rfl (fun c12 => ?_) (fun c12 => ?_)
        · rw [if_neg c12] at h
          refine V.aload_n (r := 50) hC 0 dX8_setLamp_49 rfl rfl ?_
          refine V.getR (k' := 2) (j := 1) (r := 53) hC xcl_8 sh_0 fl_RX8_20 dX8_setLamp_50 (by decide) rfl rfl ?_
          refine V.getR (k' := 4) (j := 1) (r := 56) hC xcl_6 sh_2 fl_RX8_75 dX8_setLamp_53 (by decide) rfl rfl ?_
          refine V.ast (lv' := [(0, .inr 0), (1, .inl a0), (2, .inl a1), (3, .inl a2), (4, .inl a3), (5, .inl a4), (6, .inr 4)]) (r := 58) hC dX8_setLamp_56 rfl rfl rfl ?_
          refine V.aload (r := 60) hC 6 dX8_setLamp_58 rfl rfl ?_
          refine V.getR (k' := 5) (j := 0) (r := 63) hC xcl_2 sh_4 fl_RX8_84 dX8_setLamp_60 (by decide) rfl rfl ?_
          refine V.iload_n (r := 64) hC 1 dX8_setLamp_63 rfl rfl ?_
          refine V.iconst (r := 65) hC dX8_setLamp_64 ki_1 rfl ?_
          by_cases c13 : a0 < 0 ∨ 12 ≤ a0.toNatClampNeg
          · rw [if_pos c13] at h; cases h
          rw [if_neg c13] at h
          rw [mset_eq] at h
          refine V.zast (t := (196 + a0.toNatClampNeg)) (r := 66) hC sh_5 dX8_setLamp_65 c13 (Or.inr rfl) rfl rfl ?_
          generalize upM q10.2 0 (196 + a0.toNatClampNeg) (1 : Int32) = M14 at h ⊢
          refine V.aload (r := 68) hC 6 dX8_setLamp_66 rfl rfl ?_
          refine V.getR (k' := 6) (j := 1) (r := 71) hC xcl_2 sh_4 fl_RX8_304 dX8_setLamp_68 (by decide) rfl rfl ?_
          refine V.iload_n (r := 72) hC 1 dX8_setLamp_71 rfl rfl ?_
          refine V.bipush (r := 74) hC dX8_setLamp_72 kb_14 rfl ?_
          refine V.iload_n (r := 75) hC 3 dX8_setLamp_74 rfl rfl ?_
          refine V.imul (r := 76) hC dX8_setLamp_75 rfl ?_
          refine V.iload_n (r := 77) hC 2 dX8_setLamp_76 rfl rfl ?_
          refine V.iadd (r := 78) hC dX8_setLamp_77 rfl ?_
          rw [mset_eq] at h
          refine V.iast (t := (208 + a0.toNatClampNeg)) (r := 79) hC sh_6 dX8_setLamp_78 c13 rfl rfl ?_
          generalize upM M14 0 (208 + a0.toNatClampNeg) (((14 : Int32) * a2) + a1) = M15 at h ⊢
          refine V.aload (r := 81) hC 6 dX8_setLamp_79 rfl rfl ?_
          refine V.getR (k' := 7) (j := 2) (r := 84) hC xcl_2 sh_4 fl_RX8_305 dX8_setLamp_81 (by decide) rfl rfl ?_
          refine V.iload_n (r := 85) hC 1 dX8_setLamp_84 rfl rfl ?_
          refine V.iload (r := 87) hC 4 dX8_setLamp_85 rfl rfl ?_
          rw [mset_eq] at h
          refine V.iast (t := (220 + a0.toNatClampNeg)) (r := 88) hC sh_7 dX8_setLamp_87 c13 rfl rfl ?_
          generalize upM M15 0 (220 + a0.toNatClampNeg) a3 = M16 at h ⊢
          refine V.aload (r := 90) hC 6 dX8_setLamp_88 rfl rfl ?_
          refine V.getR (k' := 8) (j := 3) (r := 93) hC xcl_2 sh_4 fl_RX8_154 dX8_setLamp_90 (by decide) rfl rfl ?_
          refine V.iload_n (r := 94) hC 1 dX8_setLamp_93 rfl rfl ?_
          refine V.iconst (r := 95) hC dX8_setLamp_94 ki_0 rfl ?_
          rw [mset_eq] at h
          refine V.iast (t := (232 + a0.toNatClampNeg)) (r := 96) hC sh_8 dX8_setLamp_95 c13 rfl rfl ?_
          generalize upM M16 0 (232 + a0.toNatClampNeg) (0 : Int32) = M17 at h ⊢
          refine V.aload (r := 98) hC 6 dX8_setLamp_96 rfl rfl ?_
          refine V.getR (k' := 9) (j := 4) (r := 101) hC xcl_2 sh_4 fl_RX8_91 dX8_setLamp_98 (by decide) rfl rfl ?_
          refine V.iload_n (r := 102) hC 1 dX8_setLamp_101 rfl rfl ?_
          refine V.iconst (r := 103) hC dX8_setLamp_102 ki_0 rfl ?_
          rw [mset_eq] at h
          refine V.iast (t := (244 + a0.toNatClampNeg)) (r := 104) hC sh_9 dX8_setLamp_103 c13 rfl rfl ?_
          generalize upM M17 0 (244 + a0.toNatClampNeg) (0 : Int32) = M18 at h ⊢
          refine V.aload (r := 106) hC 6 dX8_setLamp_104 rfl rfl ?_
          refine V.getR (k' := 10) (j := 5) (r := 109) hC xcl_2 sh_4 fl_RX8_308 dX8_setLamp_106 (by decide) rfl rfl ?_
          refine V.iload_n (r := 110) hC 1 dX8_setLamp_109 rfl rfl ?_
          refine V.iload (r := 112) hC 5 dX8_setLamp_110 rfl rfl ?_
          by_cases c19 : ¬ (a4 = 0 ∨ a4 = 1)
          · rw [if_neg c19] at h; cases h
          replace c19 := Classical.not_not.mp c19
          rw [if_pos c19] at h
          rw [mset_eq] at h
          refine V.zast (t := (256 + a0.toNatClampNeg)) (r := 113) hC sh_10 dX8_setLamp_112 c13 c19 rfl rfl ?_
          generalize upM M18 0 (256 + a0.toNatClampNeg) a4 = M20 at h ⊢
          refine V.iconst (r := 114) hC dX8_setLamp_113 ki_1 rfl ?_
          cases h
          exact hR _ _ (Or.inr rfl) dX8_setLamp_114
        · rw [if_pos c12] at h
          refine V.iconst (r := 48) hC dX8_setLamp_47 ki_0 rfl ?_
          cases h
          exact hR _ _ (Or.inl rfl) dX8_setLamp_48
      · rw [if_pos c9] at h
        refine V.iconst (r := 29) hC dX8_setLamp_28 ki_0 rfl ?_
        cases h
        exact hR _ _ (Or.inl rfl) dX8_setLamp_29
theorem met8_setLamp {R : Int32 × xMem} {a0 a1 a2 a3 a4 : Int32} {M : xMem} (h : g8_setLamp a0 a1 a2 a3 a4 M = some R) : xMet yX8_setLamp cX8_setLamp 7 (some .boolean) 1 [.inr 0, .inl a0, .inl a1, .inl a2, .inl a3, .inl a4] M (some R.1) R.2 := xMet.ofZ (by decide +kernel) (Nat.le_of_ble_eq_true rfl) fun _ hC hR => v8_setLamp  hC hR h
def g8_inn (a0 a1 a2 a3 : Int32) (M : xMem) : Option (Int32 × xMem) :=
Option.bind (g8_isIn a0 (0 : Int32) (8 : Int32) M) fun q1 =>
if (q1.1) = 0 then
(some ((0 : Int32), q1.2))
else
(Option.bind (g8_setLamp a0 a1 a2 a3 (0 : Int32) q1.2) fun q4 =>
if (q4.1) = 0 ∨ (q4.1) = 1 then
some (q4.1, q4.2)
else none)
set_option maxHeartbeats 4000000 in
set_option maxRecDepth 20000 in
theorem v8_inn {G : xG} (hC : xC G cX8_inn 5 RX8 2) {R : Int32 × xMem} (hR : xRZ G cX8_inn 5 R) {a0 a1 a2 a3 : Int32} {M : xMem} (h : g8_inn a0 a1 a2 a3 M = some R) : V G 5 0 [(0, .inr 0), (1, .inl a0), (2, .inl a1), (3, .inl a2), (4, .inl a3)] [] M := by
  unfold g8_inn at h
  refine V.iload_n (r := 1) hC 1 dX8_inn_0 rfl rfl ?_
  refine V.iconst (r := 2) hC dX8_inn_1 ki_0 rfl ?_
  refine V.bipush (r := 4) hC dX8_inn_2 kb_8 rfl ?_
  obtain ⟨q1, hq2, h⟩ := Option.bind_eq_some_iff.mp h
  try dsimp only at h
  refine V.invSi (as := [.inl a0, .inl (0 : Int32), .inl (8 : Int32)]) (st := []) (r := 7) hC (met8_isIn hq2) ys_X8_isIn ml_RX8_59 dX8_inn_4 (by decide) rfl rfl rfl rfl ?_
  refine V.if_ne (tgt := 12) (r := 10) hC dX8_inn_7 (by decide) rfl (fun c3 => ?_) (fun c3 => ?_)
  · rw [if_neg c3] at h
    refine V.aload_n (r := 13) hC 0 dX8_inn_12 rfl rfl ?_
    refine V.iload_n (r := 14) hC 1 dX8_inn_13 rfl rfl ?_
    refine V.iload_n (r := 15) hC 2 dX8_inn_14 rfl rfl ?_
    refine V.iload_n (r := 16) hC 3 dX8_inn_15 rfl rfl ?_
    refine V.iload (r := 18) hC 4 dX8_inn_16 rfl rfl ?_
    refine V.iconst (r := 19) hC dX8_inn_18 ki_0 rfl ?_
    obtain ⟨q4, hq5, h⟩ := Option.bind_eq_some_iff.mp h
    try dsimp only at h
    refine V.invVi (as := [.inl a0, .inl a1, .inl a2, .inl a3, .inl (0 : Int32)]) (st := []) (r := 22) hC (met8_setLamp hq5) yv_X8_setLamp ml_RX8_71 sh_0 rfl rfl dX8_inn_19 (by decide) rfl rfl rfl rfl ?_
    by_cases c6 : ¬ ((q4.1) = 0 ∨ (q4.1) = 1)
    · rw [if_neg c6] at h; cases h
    replace c6 := Classical.not_not.mp c6
    rw [if_pos c6] at h
    cases h
    exact hR _ _ c6 dX8_inn_22
  · rw [if_pos c3] at h
    refine V.iconst (r := 11) hC dX8_inn_10 ki_0 rfl ?_
    cases h
    exact hR _ _ (Or.inl rfl) dX8_inn_11
theorem met8_inn {R : Int32 × xMem} {a0 a1 a2 a3 : Int32} {M : xMem} (h : g8_inn a0 a1 a2 a3 M = some R) : xMet yX8_inn cX8_inn 5 (some .boolean) 2 [.inr 0, .inl a0, .inl a1, .inl a2, .inl a3] M (some R.1) R.2 := xMet.ofZ (by decide +kernel) (Nat.le_of_ble_eq_true rfl) fun _ hC hR => v8_inn  hC hR h
def g8_stray (a0 a1 a2 a3 a4 : Int32) (M : xMem) : Option (Int32 × xMem) :=
Option.bind (g8_isIn a0 (9 : Int32) (11 : Int32) M) fun q1 =>
if (q1.1) = 0 then
(some ((0 : Int32), q1.2))
else
(Option.bind (g8_setLamp a0 a1 a2 a3 a4 q1.2) fun q4 =>
if (q4.1) = 0 ∨ (q4.1) = 1 then
some (q4.1, q4.2)
else none)
set_option maxHeartbeats 4000000 in
set_option maxRecDepth 20000 in
theorem v8_stray {G : xG} (hC : xC G cX8_stray 6 RX8 2) {R : Int32 × xMem} (hR : xRZ G cX8_stray 6 R) {a0 a1 a2 a3 a4 : Int32} {M : xMem} (h : g8_stray a0 a1 a2 a3 a4 M = some R) : V G 6 0 [(0, .inr 0), (1, .inl a0), (2, .inl a1), (3, .inl a2), (4, .inl a3), (5, .inl a4)] [] M := by
  unfold g8_stray at h
  refine V.iload_n (r := 1) hC 1 dX8_stray_0 rfl rfl ?_
  refine V.bipush (r := 3) hC dX8_stray_1 kb_9 rfl ?_
  refine V.bipush (r := 5) hC dX8_stray_3 kb_11 rfl ?_
  obtain ⟨q1, hq2, h⟩ := Option.bind_eq_some_iff.mp h
  try dsimp only at h
  refine V.invSi (as := [.inl a0, .inl (9 : Int32), .inl (11 : Int32)]) (st := []) (r := 8) hC (met8_isIn hq2) ys_X8_isIn ml_RX8_59 dX8_stray_5 (by decide) rfl rfl rfl rfl ?_
  refine V.if_ne (tgt := 13) (r := 11) hC dX8_stray_8 (by decide) rfl (fun c3 => ?_) (fun c3 => ?_)
  · rw [if_neg c3] at h
    refine V.aload_n (r := 14) hC 0 dX8_stray_13 rfl rfl ?_
    refine V.iload_n (r := 15) hC 1 dX8_stray_14 rfl rfl ?_
    refine V.iload_n (r := 16) hC 2 dX8_stray_15 rfl rfl ?_
    refine V.iload_n (r := 17) hC 3 dX8_stray_16 rfl rfl ?_
    refine V.iload (r := 19) hC 4 dX8_stray_17 rfl rfl ?_
    refine V.iload (r := 21) hC 5 dX8_stray_19 rfl rfl ?_
    obtain ⟨q4, hq5, h⟩ := Option.bind_eq_some_iff.mp h
    try dsimp only at h
    refine V.invVi (as := [.inl a0, .inl a1, .inl a2, .inl a3, .inl a4]) (st := []) (r := 24) hC (met8_setLamp hq5) yv_X8_setLamp ml_RX8_71 sh_0 rfl rfl dX8_stray_21 (by decide) rfl rfl rfl rfl ?_
    by_cases c6 : ¬ ((q4.1) = 0 ∨ (q4.1) = 1)
    · rw [if_neg c6] at h; cases h
    replace c6 := Classical.not_not.mp c6
    rw [if_pos c6] at h
    cases h
    exact hR _ _ c6 dX8_stray_24
  · rw [if_pos c3] at h
    refine V.iconst (r := 12) hC dX8_stray_11 ki_0 rfl ?_
    cases h
    exact hR _ _ (Or.inl rfl) dX8_stray_12
theorem met8_stray {R : Int32 × xMem} {a0 a1 a2 a3 a4 : Int32} {M : xMem} (h : g8_stray a0 a1 a2 a3 a4 M = some R) : xMet yX8_stray cX8_stray 6 (some .boolean) 2 [.inr 0, .inl a0, .inl a1, .inl a2, .inl a3, .inl a4] M (some R.1) R.2 := xMet.ofZ (by decide +kernel) (Nat.le_of_ble_eq_true rfl) fun _ hC hR => v8_stray  hC hR h
def g8_gone (a0 : Int32) (M : xMem) : Option (Int32 × xMem) :=
Option.bind (g2_stands 0 a0 M) fun q1 =>
if (q1.1) = 0 then
(some ((0 : Int32), q1.2))
else
(if a0 < 0 ∨ 12 ≤ a0.toNatClampNeg then none else
mset (upM q1.2 0 (196 + a0.toNatClampNeg) (0 : Int32)) fun M5 =>
some ((1 : Int32), M5))
set_option maxHeartbeats 4000000 in
set_option maxRecDepth 20000 in
theorem v8_gone {G : xG} (hC : xC G cX8_gone 2 RX8 1) {R : Int32 × xMem} (hR : xRZ G cX8_gone 2 R) {a0 : Int32} {M : xMem} (h : g8_gone a0 M = some R) : V G 2 0 [(0, .inr 0), (1, .inl a0)] [] M := by
  unfold g8_gone at h
  refine V.aload_n (r := 1) hC 0 dX8_gone_0 rfl rfl ?_
  refine V.getR (k' := 2) (j := 1) (r := 4) hC xcl_8 sh_0 fl_RX8_20 dX8_gone_1 (by decide) rfl rfl ?_
  refine V.getR (k' := 4) (j := 1) (r := 7) hC xcl_6 sh_2 fl_RX8_75 dX8_gone_4 (by decide) rfl rfl ?_
  refine V.iload_n (r := 8) hC 1 dX8_gone_7 rfl rfl ?_
  obtain ⟨q1, hq2, h⟩ := Option.bind_eq_some_iff.mp h
  try dsimp only at h
  refine V.invVi (as := [.inl a0]) (st := []) (r := 11) hC (met2_stands (by decide) hq2) yv_X2_stands ml_RX8_79 sh_4 rfl rfl dX8_gone_8 (by decide) rfl rfl rfl rfl ?_
  refine V.if_ne (tgt := 16) (r := 14) hC dX8_gone_11 (by decide) rfl (fun c3 => ?_) (fun c3 => ?_)
  · rw [if_neg c3] at h
    refine V.aload_n (r := 17) hC 0 dX8_gone_16 rfl rfl ?_
    refine V.getR (k' := 2) (j := 1) (r := 20) hC xcl_8 sh_0 fl_RX8_20 dX8_gone_17 (by decide) rfl rfl ?_
    refine V.getR (k' := 4) (j := 1) (r := 23) hC xcl_6 sh_2 fl_RX8_75 dX8_gone_20 (by decide) rfl rfl ?_
    refine V.getR (k' := 5) (j := 0) (r := 26) hC xcl_2 sh_4 fl_RX8_84 dX8_gone_23 (by decide) rfl rfl ?_
    refine V.iload_n (r := 27) hC 1 dX8_gone_26 rfl rfl ?_
    refine V.iconst (r := 28) hC dX8_gone_27 ki_0 rfl ?_
    by_cases c4 : a0 < 0 ∨ 12 ≤ a0.toNatClampNeg
    · rw [if_pos c4] at h; cases h
    rw [if_neg c4] at h
    rw [mset_eq] at h
    refine V.zast (t := (196 + a0.toNatClampNeg)) (r := 29) hC sh_5 dX8_gone_28 c4 (Or.inl rfl) rfl rfl ?_
    generalize upM q1.2 0 (196 + a0.toNatClampNeg) (0 : Int32) = M5 at h ⊢
    refine V.iconst (r := 30) hC dX8_gone_29 ki_1 rfl ?_
    cases h
    exact hR _ _ (Or.inr rfl) dX8_gone_30
  · rw [if_pos c3] at h
    refine V.iconst (r := 15) hC dX8_gone_14 ki_0 rfl ?_
    cases h
    exact hR _ _ (Or.inl rfl) dX8_gone_15
theorem met8_gone {R : Int32 × xMem} {a0 : Int32} {M : xMem} (h : g8_gone a0 M = some R) : xMet yX8_gone cX8_gone 2 (some .boolean) 1 [.inr 0, .inl a0] M (some R.1) R.2 := xMet.ofZ (by decide +kernel) (Nat.le_of_ble_eq_true rfl) fun _ hC hR => v8_gone  hC hR h
def g8_isInnThere (a0 : Int32) (M : xMem) : Option (Int32 × xMem) :=
if (9 : Int32) ≤ a0 then
(some ((0 : Int32), M))
else
(Option.bind (g2_stands 0 a0 M) fun q2 =>
if (q2.1) = 0 then
(some ((0 : Int32), q2.2))
else
(some ((1 : Int32), q2.2)))
set_option maxHeartbeats 4000000 in
set_option maxRecDepth 20000 in
theorem v8_isInnThere {G : xG} (hC : xC G cX8_isInnThere 2 RX8 1) {R : Int32 × xMem} (hR : xRZ G cX8_isInnThere 2 R) {a0 : Int32} {M : xMem} (h : g8_isInnThere a0 M = some R) : V G 2 0 [(0, .inr 0), (1, .inl a0)] [] M := by
  unfold g8_isInnThere at h
  refine V.iload_n (r := 1) hC 1 dX8_isInnThere_0 rfl rfl ?_
  refine V.bipush (r := 3) hC dX8_isInnThere_1 kb_9 rfl ?_
  refine V.icmp_ge (tgt := 24) (r := 6) hC dX8_isInnThere_3 (by decide) rfl (fun c1 => ?_) (fun c1 => ?_)
  · rw [if_pos c1] at h
    refine V.iconst (r := 25) hC dX8_isInnThere_24 ki_0 rfl ?_
    cases h
    exact hR _ _ (Or.inl rfl) dX8_isInnThere_25
  · rw [if_neg c1] at h
    refine V.aload_n (r := 7) hC 0 dX8_isInnThere_6 rfl rfl ?_
    refine V.getR (k' := 2) (j := 1) (r := 10) hC xcl_8 sh_0 fl_RX8_20 dX8_isInnThere_7 (by decide) rfl rfl ?_
    refine V.getR (k' := 4) (j := 1) (r := 13) hC xcl_6 sh_2 fl_RX8_75 dX8_isInnThere_10 (by decide) rfl rfl ?_
    refine V.iload_n (r := 14) hC 1 dX8_isInnThere_13 rfl rfl ?_
    obtain ⟨q2, hq3, h⟩ := Option.bind_eq_some_iff.mp h
    try dsimp only at h
    refine V.invVi (as := [.inl a0]) (st := []) (r := 17) hC (met2_stands (by decide) hq3) yv_X2_stands ml_RX8_79 sh_4 rfl rfl dX8_isInnThere_14 (by decide) rfl rfl rfl rfl ?_
    refine V.if_eq (tgt := 24) (r := 20) hC dX8_isInnThere_17 (by decide) rfl (fun c4 => ?_) (fun c4 => ?_)
    · rw [if_pos c4] at h
      refine V.iconst (r := 25) hC dX8_isInnThere_24 ki_0 rfl ?_
      cases h
      exact hR _ _ (Or.inl rfl) dX8_isInnThere_25
    · rw [if_neg c4] at h
      refine V.iconst (r := 21) hC dX8_isInnThere_20 ki_1 rfl ?_
      refine V.goto (tgt := 25) hC dX8_isInnThere_21 (by decide) ?_
      cases h
      exact hR _ _ (Or.inr rfl) dX8_isInnThere_25
theorem met8_isInnThere {R : Int32 × xMem} {a0 : Int32} {M : xMem} (h : g8_isInnThere a0 M = some R) : xMet yX8_isInnThere cX8_isInnThere 2 (some .boolean) 1 [.inr 0, .inl a0] M (some R.1) R.2 := xMet.ofZ (by decide +kernel) (Nat.le_of_ble_eq_true rfl) fun _ hC hR => v8_isInnThere  hC hR h
def g8_dog (a0 a1 : Int32) (M : xMem) : Option (Int32 × xMem) :=
Option.bind (g8_isInnThere a0 M) fun q1 =>
if (q1.1) = 0 then
(some ((0 : Int32), q1.2))
else
(Option.bind (g8_isIn a1 (0 : Int32) (99 : Int32) q1.2) fun q4 =>
if (q4.1) = 0 then
(some ((0 : Int32), q4.2))
else
(if a0 < 0 ∨ 12 ≤ a0.toNatClampNeg then none else
mset (upM q4.2 0 (244 + a0.toNatClampNeg) a1) fun M8 =>
some ((1 : Int32), M8)))
set_option maxHeartbeats 4000000 in
set_option maxRecDepth 20000 in
theorem v8_dog {G : xG} (hC : xC G cX8_dog 3 RX8 2) {R : Int32 × xMem} (hR : xRZ G cX8_dog 3 R) {a0 a1 : Int32} {M : xMem} (h : g8_dog a0 a1 M = some R) : V G 3 0 [(0, .inr 0), (1, .inl a0), (2, .inl a1)] [] M := by
  unfold g8_dog at h
  refine V.aload_n (r := 1) hC 0 dX8_dog_0 rfl rfl ?_
  refine V.iload_n (r := 2) hC 1 dX8_dog_1 rfl rfl ?_
  obtain ⟨q1, hq2, h⟩ := Option.bind_eq_some_iff.mp h
  try dsimp only at h
  refine V.invVi (as := [.inl a0]) (st := []) (r := 5) hC (met8_isInnThere hq2) yv_X8_isInnThere ml_RX8_88 sh_0 rfl rfl dX8_dog_2 (by decide) rfl rfl rfl rfl ?_
  refine V.if_eq (tgt := 18) (r := 8) hC dX8_dog_5 (by decide) rfl (fun c3 => ?_) (fun c3 => ?_)
  · rw [if_pos c3] at h
    refine V.iconst (r := 19) hC dX8_dog_18 ki_0 rfl ?_
    cases h
    exact hR _ _ (Or.inl rfl) dX8_dog_19
  · rw [if_neg c3] at h
    refine V.iload_n (r := 9) hC 2 dX8_dog_8 rfl rfl ?_
    refine V.iconst (r := 10) hC dX8_dog_9 ki_0 rfl ?_
    refine V.bipush (r := 12) hC dX8_dog_10 kb_99 rfl ?_
    obtain ⟨q4, hq5, h⟩ := Option.bind_eq_some_iff.mp h
    try dsimp only at h
    refine V.invSi (as := [.inl a1, .inl (0 : Int32), .inl (99 : Int32)]) (st := []) (r := 15) hC (met8_isIn hq5) ys_X8_isIn ml_RX8_59 dX8_dog_12 (by decide) rfl rfl rfl rfl ?_
    refine V.if_ne (tgt := 20) (r := 18) hC dX8_dog_15 (by decide) rfl (fun c6 => ?_) (fun c6 => ?_)
    · rw [if_neg c6] at h
      refine V.aload_n (r := 21) hC 0 dX8_dog_20 rfl rfl ?_
      refine V.getR (k' := 2) (j := 1) (r := 24) hC xcl_8 sh_0 fl_RX8_20 dX8_dog_21 (by decide) rfl rfl ?_
      refine V.getR (k' := 4) (j := 1) (r := 27) hC xcl_6 sh_2 fl_RX8_75 dX8_dog_24 (by decide) rfl rfl ?_
      refine V.getR (k' := 9) (j := 4) (r := 30) hC xcl_2 sh_4 fl_RX8_91 dX8_dog_27 (by decide) rfl rfl ?_
      refine V.iload_n (r := 31) hC 1 dX8_dog_30 rfl rfl ?_
      refine V.iload_n (r := 32) hC 2 dX8_dog_31 rfl rfl ?_
      by_cases c7 : a0 < 0 ∨ 12 ≤ a0.toNatClampNeg
      · rw [if_pos c7] at h; cases h
      rw [if_neg c7] at h
      rw [mset_eq] at h
      refine V.iast (t := (244 + a0.toNatClampNeg)) (r := 33) hC sh_9 dX8_dog_32 c7 rfl rfl ?_
      generalize upM q4.2 0 (244 + a0.toNatClampNeg) a1 = M8 at h ⊢
      refine V.iconst (r := 34) hC dX8_dog_33 ki_1 rfl ?_
      cases h
      exact hR _ _ (Or.inr rfl) dX8_dog_34
    · rw [if_pos c6] at h
      refine V.iconst (r := 19) hC dX8_dog_18 ki_0 rfl ?_
      cases h
      exact hR _ _ (Or.inl rfl) dX8_dog_19
theorem met8_dog {R : Int32 × xMem} {a0 a1 : Int32} {M : xMem} (h : g8_dog a0 a1 M = some R) : xMet yX8_dog cX8_dog 3 (some .boolean) 2 [.inr 0, .inl a0, .inl a1] M (some R.1) R.2 := xMet.ofZ (by decide +kernel) (Nat.le_of_ble_eq_true rfl) fun _ hC hR => v8_dog  hC hR h
def g8_herd (a0 a1 a2 a3 a4 a5 : Int32) (M : xMem) : Option (Int32 × xMem) :=
Option.bind (g8_isIn a0 (0 : Int32) (5 : Int32) M) fun q1 =>
if (q1.1) = 0 then
(some ((0 : Int32), q1.2))
else
(Option.bind (g8_isSquare a1 a2 q1.2) fun q4 =>
if (q4.1) = 0 then
(some ((0 : Int32), q4.2))
else
(Option.bind (g8_isIn a3 (0 : Int32) (999 : Int32) q4.2) fun q7 =>
if (q7.1) = 0 then
(some ((0 : Int32), q7.2))
else
(Option.bind (g8_isIn a4 (0 : Int32) (99 : Int32) q7.2) fun q10 =>
if (q10.1) = 0 then
(some ((0 : Int32), q10.2))
else
(Option.bind (g8_isIn a5 (0 : Int32) (99 : Int32) q10.2) fun q13 =>
if (q13.1) = 0 then
(some ((0 : Int32), q13.2))
else
(Option.bind (g6_sortAt 0 (((14 : Int32) * a2) + a1) q13.2) fun q16 =>
if (q16.1) = (3 : Int32) then
(some ((0 : Int32), q16.2))
else
(if a0 < 0 ∨ 6 ≤ a0.toNatClampNeg then none else
mset (upM q16.2 0 (268 + a0.toNatClampNeg) (1 : Int32)) fun M20 =>
mset (upM M20 0 (274 + a0.toNatClampNeg) (((14 : Int32) * a2) + a1)) fun M21 =>
mset (upM M21 0 (280 + a0.toNatClampNeg) a3) fun M22 =>
mset (upM M22 0 (286 + a0.toNatClampNeg) a4) fun M23 =>
mset (upM M23 0 (292 + a0.toNatClampNeg) a5) fun M24 =>
mset (upM M24 0 (298 + a0.toNatClampNeg) (0 : Int32)) fun M25 =>
some ((1 : Int32), M25)))))))
set_option maxHeartbeats 4000000 in
set_option maxRecDepth 20000 in
theorem v8_herd {G : xG} (hC : xC G cX8_herd 8 RX8 1) {R : Int32 × xMem} (hR : xRZ G cX8_herd 8 R) {a0 a1 a2 a3 a4 a5 : Int32} {M : xMem} (h : g8_herd a0 a1 a2 a3 a4 a5 M = some R) : V G 8 0 [(0, .inr 0), (1, .inl a0), (2, .inl a1), (3, .inl a2), (4, .inl a3), (5, .inl a4), (6, .inl a5)] [] M := by
  unfold g8_herd at h
  refine V.iload_n (r := 1) hC 1 dX8_herd_0 rfl rfl ?_
  refine V.iconst (r := 2) hC dX8_herd_1 ki_0 rfl ?_
  refine V.iconst (r := 3) hC dX8_herd_2 ki_5 rfl ?_
  obtain ⟨q1, hq2, h⟩ := Option.bind_eq_some_iff.mp h
  try dsimp only at h
  refine V.invSi (as := [.inl a0, .inl (0 : Int32), .inl (5 : Int32)]) (st := []) (r := 6) hC (met8_isIn hq2) ys_X8_isIn ml_RX8_59 dX8_herd_3 (by decide) rfl rfl rfl rfl ?_
  refine V.if_eq (tgt := 29) (r := 9) hC dX8_herd_6 (by decide) rfl (fun c3 => ?_) (fun c3 => ?_)
  · rw [if_pos c3] at h
    refine V.iconst (r := 30) hC dX8_herd_29 ki_0 rfl ?_
    cases h
    exact hR _ _ (Or.inl rfl) dX8_herd_30
  · rw [if_neg c3] at h
    refine V.iload_n (r := 10) hC 2 dX8_herd_9 rfl rfl ?_
    refine V.iload_n (r := 11) hC 3 dX8_herd_10 rfl rfl ?_
    obtain ⟨q4, hq5, h⟩ := Option.bind_eq_some_iff.mp h
    try dsimp only at h
    refine V.invSi (as := [.inl a1, .inl a2]) (st := []) (r := 14) hC (met8_isSquare hq5) ys_X8_isSquare ml_RX8_55 dX8_herd_11 (by decide) rfl rfl rfl rfl ?_
    refine V.if_eq (tgt := 29) (r := 17) hC dX8_herd_14 (by decide) rfl (fun c6 => ?_) (fun c6 => ?_)
    · rw [if_pos c6] at h
      refine V.iconst (r := 30) hC dX8_herd_29 ki_0 rfl ?_
      cases h
      exact hR _ _ (Or.inl rfl) dX8_herd_30
    · rw [if_neg c6] at h
      refine V.iload (r := 19) hC 4 dX8_herd_17 rfl rfl ?_
      refine V.iconst (r := 20) hC dX8_herd_19 ki_0 rfl ?_
      refine V.sipush (r := 23) hC dX8_herd_20 ks_999 rfl ?_
      obtain ⟨q7, hq8, h⟩ := Option.bind_eq_some_iff.mp h
      try dsimp only at h
      refine V.invSi (as := [.inl a3, .inl (0 : Int32), .inl (999 : Int32)]) (st := []) (r := 26) hC (met8_isIn hq8) ys_X8_isIn ml_RX8_59 dX8_herd_23 (by decide) rfl rfl rfl rfl ?_
      refine V.if_ne (tgt := 31) (r := 29) hC dX8_herd_26 (by decide) rfl (fun c9 => ?_) (fun c9 => ?_)
      · rw [if_neg c9] at h
        refine V.iload (r := 33) hC 5 dX8_herd_31 rfl rfl ?_
        refine V.iconst (r := 34) hC dX8_herd_33 ki_0 rfl ?_
        refine V.bipush (r := 36) hC dX8_herd_34 kb_99 rfl ?_
        obtain ⟨q10, hq11, h⟩ := Option.bind_eq_some_iff.mp h
        try dsimp only at h
        refine V.invSi (as := [.inl a4, .inl (0 : Int32), .inl (99 : Int32)]) (st := []) (r := 39) hC (met8_isIn hq11) ys_X8_isIn ml_RX8_59 dX8_herd_36 (by decide) rfl rfl rfl rfl ?_
        refine V.if_eq (tgt := 70) (r := 42) hC dX8_herd_39 (by decide) rfl (fun c12 => ?_) (fun c12 => ?_)
        · rw [if_pos c12] at h
          refine V.iconst (r := 71) hC dX8_herd_70 ki_0 rfl ?_
          cases h
          exact hR _ _ (Or.inl rfl) dX8_herd_71
        · rw [if_neg c12] at h
          refine V.iload (r := 44) hC 6 dX8_herd_42 rfl rfl ?_
          refine V.iconst (r := 45) hC dX8_herd_44 ki_0 rfl ?_
          refine V.bipush (r := 47) hC dX8_herd_45 kb_99 rfl ?_
          obtain ⟨q13, hq14, h⟩ := Option.bind_eq_some_iff.mp h
          try dsimp only at h
          refine V.invSi (as := [.inl a5, .inl (0 : Int32), .inl (99 : Int32)]) (st := []) (r := 50) hC (met8_isIn hq14) ys_X8_isIn ml_RX8_59 dX8_herd_47 (by decide) rfl rfl rfl rfl ?_
          refine V.if_eq (tgt := 70) (r := 53) hC dX8_herd_50 (by decide) rfl (fun c15 => ?_) (fun c15 => ?_)
          · rw [if_pos c15] at h
            refine V.iconst (r := 71) hC dX8_herd_70 ki_0 rfl ?_
            cases h
            exact hR _ _ (Or.inl rfl) dX8_herd_71
          · rw [if_neg c15] at h
            refine V.aload_n (r := 54) hC 0 dX8_herd_53 rfl rfl ?_
            refine V.getR (k' := 2) (j := 1) (r := 57) hC xcl_8 sh_0 fl_RX8_20 dX8_herd_54 (by decide) rfl rfl ?_
            refine V.bipush (r := 59) hC dX8_herd_57 kb_14 rfl ?_
            refine V.iload_n (r := 60) hC 3 dX8_herd_59 rfl rfl ?_
            refine V.imul (r := 61) hC dX8_herd_60 rfl ?_
            refine V.iload_n (r := 62) hC 2 dX8_herd_61 rfl rfl ?_
            refine V.iadd (r := 63) hC dX8_herd_62 rfl ?_
            obtain ⟨q16, hq17, h⟩ := Option.bind_eq_some_iff.mp h
            try dsimp only at h
            refine V.invVi (as := [.inl (((14 : Int32) * a2) + a1)]) (st := []) (r := 66) hC (met6_sortAt (by decide) hq17) yv_X6_sortAt ml_RX8_94 sh_2 rfl rfl dX8_herd_63 (by decide) rfl rfl rfl rfl ?_
            refine V.iconst (r := 67) hC dX8_herd_66 ki_3 rfl ?_
            refine V.icmp_ne (tgt := 72) (r := 70) hC dX8_herd_67 (by decide) rfl (fun c18 => ?_) (fun c18 => ?_)
            · rw [if_neg c18] at h
              refine V.aload_n (r := 73) hC 0 dX8_herd_72 rfl rfl ?_
              refine V.getR (k' := 2) (j := 1) (r := 76) hC xcl_8 sh_0 fl_RX8_20 dX8_herd_73 (by decide) rfl rfl ?_
              refine V.getR (k' := 11) (j := 2) (r := 79) hC xcl_6 sh_2 fl_RX8_98 dX8_herd_76 (by decide) rfl rfl ?_
              refine V.ast (lv' := [(0, .inr 0), (1, .inl a0), (2, .inl a1), (3, .inl a2), (4, .inl a3), (5, .inl a4), (6, .inl a5), (7, .inr 11)]) (r := 81) hC dX8_herd_79 rfl rfl rfl ?_
              refine V.aload (r := 83) hC 7 dX8_herd_81 rfl rfl ?_
              refine V.getR (k' := 12) (j := 0) (r := 86) hC xcl_1 sh_11 fl_RX8_102 dX8_herd_83 (by decide) rfl rfl ?_
              refine V.iload_n (r := 87) hC 1 dX8_herd_86 rfl rfl ?_
              refine V.iconst (r := 88) hC dX8_herd_87 ki_1 rfl ?_
              by_cases c19 : a0 < 0 ∨ 6 ≤ a0.toNatClampNeg
              · rw [if_pos c19] at h; cases h
              rw [if_neg c19] at h
              rw [mset_eq] at h
              refine V.zast (t := (268 + a0.toNatClampNeg)) (r := 89) hC sh_12 dX8_herd_88 c19 (Or.inr rfl) rfl rfl ?_
              generalize upM q16.2 0 (268 + a0.toNatClampNeg) (1 : Int32) = M20 at h ⊢
              refine V.aload (r := 91) hC 7 dX8_herd_89 rfl rfl ?_
              refine V.getR (k' := 13) (j := 1) (r := 94) hC xcl_1 sh_11 fl_RX8_107 dX8_herd_91 (by decide) rfl rfl ?_
              refine V.iload_n (r := 95) hC 1 dX8_herd_94 rfl rfl ?_
              refine V.bipush (r := 97) hC dX8_herd_95 kb_14 rfl ?_
              refine V.iload_n (r := 98) hC 3 dX8_herd_97 rfl rfl ?_
              refine V.imul (r := 99) hC dX8_herd_98 rfl ?_
              refine V.iload_n (r := 100) hC 2 dX8_herd_99 rfl rfl ?_
              refine V.iadd (r := 101) hC dX8_herd_100 rfl ?_
              rw [mset_eq] at h
              refine V.iast (t := (274 + a0.toNatClampNeg)) (r := 102) hC sh_13 dX8_herd_101 c19 rfl rfl ?_
              generalize upM M20 0 (274 + a0.toNatClampNeg) (((14 : Int32) * a2) + a1) = M21 at h ⊢
              refine V.aload (r := 104) hC 7 dX8_herd_102 rfl rfl ?_
              refine V.getR (k' := 14) (j := 2) (r := 107) hC xcl_1 sh_11 fl_RX8_110 dX8_herd_104 (by decide) rfl rfl ?_
              refine V.iload_n (r := 108) hC 1 dX8_herd_107 rfl rfl ?_
              refine V.iload (r := 110) hC 4 dX8_herd_108 rfl rfl ?_
              rw [mset_eq] at h
              refine V.iast (t := (280 + a0.toNatClampNeg)) (r := 111) hC sh_14 dX8_herd_110 c19 rfl rfl ?_
              generalize upM M21 0 (280 + a0.toNatClampNeg) a3 = M22 at h ⊢
              refine V.aload (r := 113) hC 7 dX8_herd_111 rfl rfl ?_
              refine V.getR (k' := 15) (j := 3) (r := 116) hC xcl_1 sh_11 fl_RX8_113 dX8_herd_113 (by decide) rfl rfl ?_
              refine V.iload_n (r := 117) hC 1 dX8_herd_116 rfl rfl ?_
              refine V.iload (r := 119) hC 5 dX8_herd_117 rfl rfl ?_
              rw [mset_eq] at h
              refine V.iast (t := (286 + a0.toNatClampNeg)) (r := 120) hC sh_15 dX8_herd_119 c19 rfl rfl ?_
              generalize upM M22 0 (286 + a0.toNatClampNeg) a4 = M23 at h ⊢
              refine V.aload (r := 122) hC 7 dX8_herd_120 rfl rfl ?_
              refine V.getR (k' := 16) (j := 4) (r := 125) hC xcl_1 sh_11 fl_RX8_116 dX8_herd_122 (by decide) rfl rfl ?_
              refine V.iload_n (r := 126) hC 1 dX8_herd_125 rfl rfl ?_
              refine V.iload (r := 128) hC 6 dX8_herd_126 rfl rfl ?_
              rw [mset_eq] at h
              refine V.iast (t := (292 + a0.toNatClampNeg)) (r := 129) hC sh_16 dX8_herd_128 c19 rfl rfl ?_
              generalize upM M23 0 (292 + a0.toNatClampNeg) a5 = M24 at h ⊢
              refine V.aload (r := 131) hC 7 dX8_herd_129 rfl rfl ?_
              refine V.getR (k' := 17) (j := 5) (r := 134) hC xcl_1 sh_11 fl_RX8_119 dX8_herd_131 (by decide) rfl rfl ?_
              refine V.iload_n (r := 135) hC 1 dX8_herd_134 rfl rfl ?_
              refine V.iconst (r := 136) hC dX8_herd_135 ki_0 rfl ?_
              rw [mset_eq] at h
              refine V.zast (t := (298 + a0.toNatClampNeg)) (r := 137) hC sh_17 dX8_herd_136 c19 (Or.inl rfl) rfl rfl ?_
              generalize upM M24 0 (298 + a0.toNatClampNeg) (0 : Int32) = M25 at h ⊢
              refine V.iconst (r := 138) hC dX8_herd_137 ki_1 rfl ?_
              cases h
              exact hR _ _ (Or.inr rfl) dX8_herd_138
            · rw [if_pos c18] at h
              refine V.iconst (r := 71) hC dX8_herd_70 ki_0 rfl ?_
              cases h
              exact hR _ _ (Or.inl rfl) dX8_herd_71
      · rw [if_pos c9] at h
        refine V.iconst (r := 30) hC dX8_herd_29 ki_0 rfl ?_
        cases h
        exact hR _ _ (Or.inl rfl) dX8_herd_30
theorem met8_herd {R : Int32 × xMem} {a0 a1 a2 a3 a4 a5 : Int32} {M : xMem} (h : g8_herd a0 a1 a2 a3 a4 a5 M = some R) : xMet yX8_herd cX8_herd 8 (some .boolean) 1 [.inr 0, .inl a0, .inl a1, .inl a2, .inl a3, .inl a4, .inl a5] M (some R.1) R.2 := xMet.ofZ (by decide +kernel) (Nat.le_of_ble_eq_true rfl) fun _ hC hR => v8_herd  hC hR h
def g8_fire (a0 a1 : Int32) (M : xMem) : Option (Int32 × xMem) :=
Option.bind (g1_isTold 0 a0 M) fun q1 =>
if (q1.1) = 0 then
(some ((0 : Int32), q1.2))
else
(if a0 < 0 ∨ 6 ≤ a0.toNatClampNeg then none else
if (q1.2 0 (298 + a0.toNatClampNeg)) = a1 then
(some ((0 : Int32), q1.2))
else
(if a1 = 0 ∨ a1 = 1 then
mset (upM q1.2 0 (298 + a0.toNatClampNeg) a1) fun M7 =>
some ((1 : Int32), M7)
else none))
set_option maxHeartbeats 4000000 in
set_option maxRecDepth 20000 in
theorem v8_fire {G : xG} (hC : xC G cX8_fire 3 RX8 1) {R : Int32 × xMem} (hR : xRZ G cX8_fire 3 R) {a0 a1 : Int32} {M : xMem} (h : g8_fire a0 a1 M = some R) : V G 3 0 [(0, .inr 0), (1, .inl a0), (2, .inl a1)] [] M := by
  unfold g8_fire at h
  refine V.aload_n (r := 1) hC 0 dX8_fire_0 rfl rfl ?_
  refine V.getR (k' := 2) (j := 1) (r := 4) hC xcl_8 sh_0 fl_RX8_20 dX8_fire_1 (by decide) rfl rfl ?_
  refine V.getR (k' := 11) (j := 2) (r := 7) hC xcl_6 sh_2 fl_RX8_98 dX8_fire_4 (by decide) rfl rfl ?_
  refine V.iload_n (r := 8) hC 1 dX8_fire_7 rfl rfl ?_
  obtain ⟨q1, hq2, h⟩ := Option.bind_eq_some_iff.mp h
  try dsimp only at h
  refine V.invVi (as := [.inl a0]) (st := []) (r := 11) hC (met1_isTold (by decide) hq2) yv_X1_isTold ml_RX8_122 sh_11 rfl rfl dX8_fire_8 (by decide) rfl rfl rfl rfl ?_
  refine V.if_eq (tgt := 30) (r := 14) hC dX8_fire_11 (by decide) rfl (fun c3 => ?_) (fun c3 => ?_)
  · rw [if_pos c3] at h
    refine V.iconst (r := 31) hC dX8_fire_30 ki_0 rfl ?_
    cases h
    exact hR _ _ (Or.inl rfl) dX8_fire_31
  · rw [if_neg c3] at h
    refine V.aload_n (r := 15) hC 0 dX8_fire_14 rfl rfl ?_
    refine V.getR (k' := 2) (j := 1) (r := 18) hC xcl_8 sh_0 fl_RX8_20 dX8_fire_15 (by decide) rfl rfl ?_
    refine V.getR (k' := 11) (j := 2) (r := 21) hC xcl_6 sh_2 fl_RX8_98 dX8_fire_18 (by decide) rfl rfl ?_
    refine V.getR (k' := 17) (j := 5) (r := 24) hC xcl_1 sh_11 fl_RX8_119 dX8_fire_21 (by decide) rfl rfl ?_
    refine V.iload_n (r := 25) hC 1 dX8_fire_24 rfl rfl ?_
    by_cases c4 : a0 < 0 ∨ 6 ≤ a0.toNatClampNeg
    · rw [if_pos c4] at h; cases h
    rw [if_neg c4] at h
    refine V.zald (t := (298 + a0.toNatClampNeg)) (r := 26) hC sh_17 dX8_fire_25 c4 rfl rfl ?_
    refine V.iload_n (r := 27) hC 2 dX8_fire_26 rfl rfl ?_
    refine V.icmp_ne (tgt := 32) (r := 30) hC dX8_fire_27 (by decide) rfl (fun c5 => ?_) (fun c5 => ?_)
    · rw [if_neg c5] at h
      refine V.aload_n (r := 33) hC 0 dX8_fire_32 rfl rfl ?_
      refine V.getR (k' := 2) (j := 1) (r := 36) hC xcl_8 sh_0 fl_RX8_20 dX8_fire_33 (by decide) rfl rfl ?_
      refine V.getR (k' := 11) (j := 2) (r := 39) hC xcl_6 sh_2 fl_RX8_98 dX8_fire_36 (by decide) rfl rfl ?_
      refine V.getR (k' := 17) (j := 5) (r := 42) hC xcl_1 sh_11 fl_RX8_119 dX8_fire_39 (by decide) rfl rfl ?_
      refine V.iload_n (r := 43) hC 1 dX8_fire_42 rfl rfl ?_
      refine V.iload_n (r := 44) hC 2 dX8_fire_43 rfl rfl ?_
      by_cases c6 : ¬ (a1 = 0 ∨ a1 = 1)
      · rw [if_neg c6] at h; cases h
      replace c6 := Classical.not_not.mp c6
      rw [if_pos c6] at h
      rw [mset_eq] at h
      refine V.zast (t := (298 + a0.toNatClampNeg)) (r := 45) hC sh_17 dX8_fire_44 c4 c6 rfl rfl ?_
      generalize upM q1.2 0 (298 + a0.toNatClampNeg) a1 = M7 at h ⊢
      refine V.iconst (r := 46) hC dX8_fire_45 ki_1 rfl ?_
      cases h
      exact hR _ _ (Or.inr rfl) dX8_fire_46
    · rw [if_pos c5] at h
      refine V.iconst (r := 31) hC dX8_fire_30 ki_0 rfl ?_
      cases h
      exact hR _ _ (Or.inl rfl) dX8_fire_31
theorem met8_fire {R : Int32 × xMem} {a0 a1 : Int32} {M : xMem} (h : g8_fire a0 a1 M = some R) : xMet yX8_fire cX8_fire 3 (some .boolean) 1 [.inr 0, .inl a0, .inl a1] M (some R.1) R.2 := xMet.ofZ (by decide +kernel) (Nat.le_of_ble_eq_true rfl) fun _ hC hR => v8_fire  hC hR h
def g8_drover (a0 a1 : Int32) (M : xMem) : Option (Int32 × xMem) :=
Option.bind (g8_isIn a0 (0 : Int32) (3 : Int32) M) fun q1 =>
if (q1.1) = 0 then
(some ((0 : Int32), q1.2))
else
(Option.bind (g8_isIn a1 (0 : Int32) (9999 : Int32) q1.2) fun q4 =>
if (q4.1) = 0 then
(some ((0 : Int32), q4.2))
else
(if a0 < 0 ∨ 4 ≤ a0.toNatClampNeg then none else
mset (upM q4.2 0 (304 + a0.toNatClampNeg) a1) fun M8 =>
some ((1 : Int32), M8)))
set_option maxHeartbeats 4000000 in
set_option maxRecDepth 20000 in
theorem v8_drover {G : xG} (hC : xC G cX8_drover 3 RX8 1) {R : Int32 × xMem} (hR : xRZ G cX8_drover 3 R) {a0 a1 : Int32} {M : xMem} (h : g8_drover a0 a1 M = some R) : V G 3 0 [(0, .inr 0), (1, .inl a0), (2, .inl a1)] [] M := by
  unfold g8_drover at h
  refine V.iload_n (r := 1) hC 1 dX8_drover_0 rfl rfl ?_
  refine V.iconst (r := 2) hC dX8_drover_1 ki_0 rfl ?_
  refine V.iconst (r := 3) hC dX8_drover_2 ki_3 rfl ?_
  obtain ⟨q1, hq2, h⟩ := Option.bind_eq_some_iff.mp h
  try dsimp only at h
  refine V.invSi (as := [.inl a0, .inl (0 : Int32), .inl (3 : Int32)]) (st := []) (r := 6) hC (met8_isIn hq2) ys_X8_isIn ml_RX8_59 dX8_drover_3 (by decide) rfl rfl rfl rfl ?_
  refine V.if_eq (tgt := 20) (r := 9) hC dX8_drover_6 (by decide) rfl (fun c3 => ?_) (fun c3 => ?_)
  · rw [if_pos c3] at h
    refine V.iconst (r := 21) hC dX8_drover_20 ki_0 rfl ?_
    cases h
    exact hR _ _ (Or.inl rfl) dX8_drover_21
  · rw [if_neg c3] at h
    refine V.iload_n (r := 10) hC 2 dX8_drover_9 rfl rfl ?_
    refine V.iconst (r := 11) hC dX8_drover_10 ki_0 rfl ?_
    refine V.sipush (r := 14) hC dX8_drover_11 ks_9999 rfl ?_
    obtain ⟨q4, hq5, h⟩ := Option.bind_eq_some_iff.mp h
    try dsimp only at h
    refine V.invSi (as := [.inl a1, .inl (0 : Int32), .inl (9999 : Int32)]) (st := []) (r := 17) hC (met8_isIn hq5) ys_X8_isIn ml_RX8_59 dX8_drover_14 (by decide) rfl rfl rfl rfl ?_
    refine V.if_ne (tgt := 22) (r := 20) hC dX8_drover_17 (by decide) rfl (fun c6 => ?_) (fun c6 => ?_)
    · rw [if_neg c6] at h
      refine V.aload_n (r := 23) hC 0 dX8_drover_22 rfl rfl ?_
      refine V.getR (k' := 2) (j := 1) (r := 26) hC xcl_8 sh_0 fl_RX8_20 dX8_drover_23 (by decide) rfl rfl ?_
      refine V.getR (k' := 18) (j := 3) (r := 29) hC xcl_6 sh_2 fl_RX8_125 dX8_drover_26 (by decide) rfl rfl ?_
      refine V.iload_n (r := 30) hC 1 dX8_drover_29 rfl rfl ?_
      refine V.iload_n (r := 31) hC 2 dX8_drover_30 rfl rfl ?_
      by_cases c7 : a0 < 0 ∨ 4 ≤ a0.toNatClampNeg
      · rw [if_pos c7] at h; cases h
      rw [if_neg c7] at h
      rw [mset_eq] at h
      refine V.iast (t := (304 + a0.toNatClampNeg)) (r := 32) hC sh_18 dX8_drover_31 c7 rfl rfl ?_
      generalize upM q4.2 0 (304 + a0.toNatClampNeg) a1 = M8 at h ⊢
      refine V.iconst (r := 33) hC dX8_drover_32 ki_1 rfl ?_
      cases h
      exact hR _ _ (Or.inr rfl) dX8_drover_33
    · rw [if_pos c6] at h
      refine V.iconst (r := 21) hC dX8_drover_20 ki_0 rfl ?_
      cases h
      exact hR _ _ (Or.inl rfl) dX8_drover_21
theorem met8_drover {R : Int32 × xMem} {a0 a1 : Int32} {M : xMem} (h : g8_drover a0 a1 M = some R) : xMet yX8_drover cX8_drover 3 (some .boolean) 1 [.inr 0, .inl a0, .inl a1] M (some R.1) R.2 := xMet.ofZ (by decide +kernel) (Nat.le_of_ble_eq_true rfl) fun _ hC hR => v8_drover  hC hR h
def g8_feed (a0 a1 a2 a3 a4 : Int32) (M : xMem) : Option (Int32 × xMem) :=
if ((M 121 0) + (20 : Int32)) ≤ (260 : Int32) then
(Option.bind (g7_add a0 M) fun q2 =>
Option.bind (g7_add a1 q2) fun q4 =>
Option.bind (g7_add a2 q4) fun q6 =>
Option.bind (g7_add a3 q6) fun q8 =>
Option.bind (g7_add a4 q8) fun q10 =>
some (q10 121 0, q10))
else
(some ((-1 : Int32), M))
set_option maxHeartbeats 4000000 in
set_option maxRecDepth 20000 in
theorem v8_feed {G : xG} (hC : xC G cX8_feed 6 RX8 1) {R : Int32 × xMem} (hR : xRI G cX8_feed 6 R) {a0 a1 a2 a3 a4 : Int32} {M : xMem} (h : g8_feed a0 a1 a2 a3 a4 M = some R) : V G 6 0 [(0, .inr 0), (1, .inl a0), (2, .inl a1), (3, .inl a2), (4, .inl a3), (5, .inl a4)] [] M := by
  unfold g8_feed at h
  refine V.aload_n (r := 1) hC 0 dX8_feed_0 rfl rfl ?_
  refine V.getR (k' := 127) (j := 5) (r := 4) hC xcl_8 sh_0 fl_RX8_44 dX8_feed_1 (by decide) rfl rfl ?_
  refine V.getI (b := 121) (i := 0) (j := 1) (r := 7) hC xcl_7 sh_127 fl_RX8_128 dX8_feed_4 (by decide) rfl rfl ?_
  refine V.bipush (r := 9) hC dX8_feed_7 kb_20 rfl ?_
  refine V.iadd (r := 10) hC dX8_feed_9 rfl ?_
  refine V.sipush (r := 13) hC dX8_feed_10 ks_260 rfl ?_
  refine V.icmp_le (tgt := 18) (r := 16) hC dX8_feed_13 (by decide) rfl (fun c1 => ?_) (fun c1 => ?_)
  · rw [if_pos c1] at h
    refine V.aload_n (r := 19) hC 0 dX8_feed_18 rfl rfl ?_
    refine V.getR (k' := 127) (j := 5) (r := 22) hC xcl_8 sh_0 fl_RX8_44 dX8_feed_19 (by decide) rfl rfl ?_
    refine V.iload_n (r := 23) hC 1 dX8_feed_22 rfl rfl ?_
    obtain ⟨q2, hq3, h⟩ := Option.bind_eq_some_iff.mp h
    try dsimp only at h
    refine V.invVv (as := [.inl a0]) (st := []) (r := 26) hC (met7_add hq3) yv_X7_add ml_RX8_134 sh_127 rfl rfl dX8_feed_23 (by decide) rfl rfl rfl rfl ?_
    refine V.aload_n (r := 27) hC 0 dX8_feed_26 rfl rfl ?_
    refine V.getR (k' := 127) (j := 5) (r := 30) hC xcl_8 sh_0 fl_RX8_44 dX8_feed_27 (by decide) rfl rfl ?_
    refine V.iload_n (r := 31) hC 2 dX8_feed_30 rfl rfl ?_
    obtain ⟨q4, hq5, h⟩ := Option.bind_eq_some_iff.mp h
    try dsimp only at h
    refine V.invVv (as := [.inl a1]) (st := []) (r := 34) hC (met7_add hq5) yv_X7_add ml_RX8_134 sh_127 rfl rfl dX8_feed_31 (by decide) rfl rfl rfl rfl ?_
    refine V.aload_n (r := 35) hC 0 dX8_feed_34 rfl rfl ?_
    refine V.getR (k' := 127) (j := 5) (r := 38) hC xcl_8 sh_0 fl_RX8_44 dX8_feed_35 (by decide) rfl rfl ?_
    refine V.iload_n (r := 39) hC 3 dX8_feed_38 rfl rfl ?_
    obtain ⟨q6, hq7, h⟩ := Option.bind_eq_some_iff.mp h
    try dsimp only at h
    refine V.invVv (as := [.inl a2]) (st := []) (r := 42) hC (met7_add hq7) yv_X7_add ml_RX8_134 sh_127 rfl rfl dX8_feed_39 (by decide) rfl rfl rfl rfl ?_
    refine V.aload_n (r := 43) hC 0 dX8_feed_42 rfl rfl ?_
    refine V.getR (k' := 127) (j := 5) (r := 46) hC xcl_8 sh_0 fl_RX8_44 dX8_feed_43 (by decide) rfl rfl ?_
    refine V.iload (r := 48) hC 4 dX8_feed_46 rfl rfl ?_
    obtain ⟨q8, hq9, h⟩ := Option.bind_eq_some_iff.mp h
    try dsimp only at h
    refine V.invVv (as := [.inl a3]) (st := []) (r := 51) hC (met7_add hq9) yv_X7_add ml_RX8_134 sh_127 rfl rfl dX8_feed_48 (by decide) rfl rfl rfl rfl ?_
    refine V.aload_n (r := 52) hC 0 dX8_feed_51 rfl rfl ?_
    refine V.getR (k' := 127) (j := 5) (r := 55) hC xcl_8 sh_0 fl_RX8_44 dX8_feed_52 (by decide) rfl rfl ?_
    refine V.iload (r := 57) hC 5 dX8_feed_55 rfl rfl ?_
    obtain ⟨q10, hq11, h⟩ := Option.bind_eq_some_iff.mp h
    try dsimp only at h
    refine V.invVv (as := [.inl a4]) (st := []) (r := 60) hC (met7_add hq11) yv_X7_add ml_RX8_134 sh_127 rfl rfl dX8_feed_57 (by decide) rfl rfl rfl rfl ?_
    refine V.aload_n (r := 61) hC 0 dX8_feed_60 rfl rfl ?_
    refine V.getR (k' := 127) (j := 5) (r := 64) hC xcl_8 sh_0 fl_RX8_44 dX8_feed_61 (by decide) rfl rfl ?_
    refine V.getI (b := 121) (i := 0) (j := 1) (r := 67) hC xcl_7 sh_127 fl_RX8_128 dX8_feed_64 (by decide) rfl rfl ?_
    cases h
    exact hR _ _ dX8_feed_67
  · rw [if_neg c1] at h
    refine V.iconst (r := 17) hC dX8_feed_16 ki_m1 rfl ?_
    cases h
    exact hR _ _ dX8_feed_17
theorem met8_feed {R : Int32 × xMem} {a0 a1 a2 a3 a4 : Int32} {M : xMem} (h : g8_feed a0 a1 a2 a3 a4 M = some R) : xMet yX8_feed cX8_feed 6 (some .int) 1 [.inr 0, .inl a0, .inl a1, .inl a2, .inl a3, .inl a4] M (some R.1) R.2 := xMet.ofI (by decide +kernel) (Nat.le_of_ble_eq_true rfl) fun _ hC hR => v8_feed  hC hR h
def g8_law (a0 : Int32) (M : xMem) : Option (Int32 × xMem) :=
Option.bind (g8_isIn a0 (1 : Int32) (240 : Int32) M) fun q1 =>
if (q1.1) = 0 then
(some ((-1 : Int32), q1.2))
else
(if a0 ≤ (q1.2 121 0) then
(Option.bind (g4_read a0 q1.2) fun q5 =>
mset (upM q5.2 121 0 (0 : Int32)) fun M7 =>
if (q5.1) ≤ 0 then
(some (q5.1, M7))
else
(Option.bind (g3_become M7) fun q9 =>
some (q5.1, q9)))
else
(some ((-1 : Int32), q1.2)))
set_option maxHeartbeats 4000000 in
set_option maxRecDepth 20000 in
theorem v8_law {G : xG} (hC : xC G cX8_law 3 RX8 166) {R : Int32 × xMem} (hR : xRI G cX8_law 3 R) {a0 : Int32} {M : xMem} (h : g8_law a0 M = some R) : V G 3 0 [(0, .inr 0), (1, .inl a0)] [] M := by
  unfold g8_law at h
  refine V.iload_n (r := 1) hC 1 dX8_law_0 rfl rfl ?_
  refine V.iconst (r := 2) hC dX8_law_1 ki_1 rfl ?_
  refine V.sipush (r := 5) hC dX8_law_2 ks_240 rfl ?_
  obtain ⟨q1, hq2, h⟩ := Option.bind_eq_some_iff.mp h
  try dsimp only at h
  refine V.invSi (as := [.inl a0, .inl (1 : Int32), .inl (240 : Int32)]) (st := []) (r := 8) hC (met8_isIn hq2) ys_X8_isIn ml_RX8_59 dX8_law_5 (by decide) rfl rfl rfl rfl ?_
  refine V.if_eq (tgt := 22) (r := 11) hC dX8_law_8 (by decide) rfl (fun c3 => ?_) (fun c3 => ?_)
  · rw [if_pos c3] at h
    refine V.iconst (r := 23) hC dX8_law_22 ki_m1 rfl ?_
    cases h
    exact hR _ _ dX8_law_23
  · rw [if_neg c3] at h
    refine V.aload_n (r := 12) hC 0 dX8_law_11 rfl rfl ?_
    refine V.getR (k' := 127) (j := 5) (r := 15) hC xcl_8 sh_0 fl_RX8_44 dX8_law_12 (by decide) rfl rfl ?_
    refine V.getI (b := 121) (i := 0) (j := 1) (r := 18) hC xcl_7 sh_127 fl_RX8_128 dX8_law_15 (by decide) rfl rfl ?_
    refine V.iload_n (r := 19) hC 1 dX8_law_18 rfl rfl ?_
    refine V.icmp_ge (tgt := 24) (r := 22) hC dX8_law_19 (by decide) rfl (fun c4 => ?_) (fun c4 => ?_)
    · rw [if_pos c4] at h
      refine V.aload_n (r := 25) hC 0 dX8_law_24 rfl rfl ?_
      refine V.getR (k' := 126) (j := 4) (r := 28) hC xcl_8 sh_0 fl_RX8_36 dX8_law_25 (by decide) rfl rfl ?_
      refine V.iload_n (r := 29) hC 1 dX8_law_28 rfl rfl ?_
      obtain ⟨q5, hq6, h⟩ := Option.bind_eq_some_iff.mp h
      try dsimp only at h
      refine V.invVi (as := [.inl a0]) (st := []) (r := 32) hC (met4_read hq6) yv_X4_read ml_RX8_138 sh_126 rfl rfl dX8_law_29 (by decide) rfl rfl rfl rfl ?_
      refine V.ist_n (lv' := [(0, .inr 0), (1, .inl a0), (2, .inl (q5.1))]) (r := 33) hC dX8_law_32 rfl rfl rfl ?_
      refine V.aload_n (r := 34) hC 0 dX8_law_33 rfl rfl ?_
      refine V.getR (k' := 127) (j := 5) (r := 37) hC xcl_8 sh_0 fl_RX8_44 dX8_law_34 (by decide) rfl rfl ?_
      refine V.iconst (r := 38) hC dX8_law_37 ki_0 rfl ?_
      rw [mset_eq] at h
      refine V.putI (b := 121) (i := 0) (j := 1) (ty := .int) (r := 41) hC xcl_7 xcp_7 sh_127 fl_RX8_128 dX8_law_38 (by decide) rfl rfl (by decide +kernel) rfl rfl rfl ?_
      generalize upM q5.2 121 0 (0 : Int32) = M7 at h ⊢
      refine V.iload_n (r := 42) hC 2 dX8_law_41 rfl rfl ?_
      refine V.if_le (tgt := 59) (r := 45) hC dX8_law_42 (by decide) rfl (fun c8 => ?_) (fun c8 => ?_)
      · rw [if_pos c8] at h
        refine V.iload_n (r := 60) hC 2 dX8_law_59 rfl rfl ?_
        cases h
        exact hR _ _ dX8_law_60
      · rw [if_neg c8] at h
        refine V.aload_n (r := 46) hC 0 dX8_law_45 rfl rfl ?_
        refine V.getR (k' := 21) (j := 3) (r := 49) hC xcl_8 sh_0 fl_RX8_32 dX8_law_46 (by decide) rfl rfl ?_
        refine V.aload_n (r := 50) hC 0 dX8_law_49 rfl rfl ?_
        refine V.getR (k' := 126) (j := 4) (r := 53) hC xcl_8 sh_0 fl_RX8_36 dX8_law_50 (by decide) rfl rfl ?_
        refine V.getR (k' := 129) (j := 1) (r := 56) hC xcl_4 sh_126 fl_RX8_141 dX8_law_53 (by decide) rfl rfl ?_
        obtain ⟨q9, hq10, h⟩ := Option.bind_eq_some_iff.mp h
        try dsimp only at h
        refine V.invVv (as := [.inr 129]) (st := []) (r := 59) hC (met3_become hq10) yv_X3_become ml_RX8_144 sh_21 rfl rfl dX8_law_56 (by decide) rfl rfl rfl rfl ?_
        refine V.iload_n (r := 60) hC 2 dX8_law_59 rfl rfl ?_
        cases h
        exact hR _ _ dX8_law_60
    · rw [if_neg c4] at h
      refine V.iconst (r := 23) hC dX8_law_22 ki_m1 rfl ?_
      cases h
      exact hR _ _ dX8_law_23
theorem met8_law {R : Int32 × xMem} {a0 : Int32} {M : xMem} (h : g8_law a0 M = some R) : xMet yX8_law cX8_law 3 (some .int) 166 [.inr 0, .inl a0] M (some R.1) R.2 := xMet.ofI (by decide +kernel) (Nat.le_of_ble_eq_true rfl) fun _ hC hR => v8_law  hC hR h
def g8_price (a0 : Int32) (M : xMem) : Option (Int32 × xMem) :=
Option.bind (g8_isInnThere a0 M) fun q1 =>
if (q1.1) = 0 then
(some ((-1 : Int32), q1.2))
else
(Option.bind (g0_beer 0 a0 q1.2) fun q4 =>
some (q4.1, q4.2))
set_option maxHeartbeats 4000000 in
set_option maxRecDepth 20000 in
theorem v8_price {G : xG} (hC : xC G cX8_price 2 RX8 4) {R : Int32 × xMem} (hR : xRI G cX8_price 2 R) {a0 : Int32} {M : xMem} (h : g8_price a0 M = some R) : V G 2 0 [(0, .inr 0), (1, .inl a0)] [] M := by
  unfold g8_price at h
  refine V.aload_n (r := 1) hC 0 dX8_price_0 rfl rfl ?_
  refine V.iload_n (r := 2) hC 1 dX8_price_1 rfl rfl ?_
  obtain ⟨q1, hq2, h⟩ := Option.bind_eq_some_iff.mp h
  try dsimp only at h
  refine V.invVi (as := [.inl a0]) (st := []) (r := 5) hC (met8_isInnThere hq2) yv_X8_isInnThere ml_RX8_88 sh_0 rfl rfl dX8_price_2 (by decide) rfl rfl rfl rfl ?_
  refine V.if_eq (tgt := 23) (r := 8) hC dX8_price_5 (by decide) rfl (fun c3 => ?_) (fun c3 => ?_)
  · rw [if_pos c3] at h
    refine V.iconst (r := 24) hC dX8_price_23 ki_m1 rfl ?_
    cases h
    exact hR _ _ dX8_price_24
  · rw [if_neg c3] at h
    refine V.aload_n (r := 9) hC 0 dX8_price_8 rfl rfl ?_
    refine V.getR (k' := 20) (j := 2) (r := 12) hC xcl_8 sh_0 fl_RX8_25 dX8_price_9 (by decide) rfl rfl ?_
    refine V.aload_n (r := 13) hC 0 dX8_price_12 rfl rfl ?_
    refine V.getR (k' := 2) (j := 1) (r := 16) hC xcl_8 sh_0 fl_RX8_20 dX8_price_13 (by decide) rfl rfl ?_
    refine V.iload_n (r := 17) hC 1 dX8_price_16 rfl rfl ?_
    obtain ⟨q4, hq5, h⟩ := Option.bind_eq_some_iff.mp h
    try dsimp only at h
    refine V.invVi (as := [.inr 2, .inl a0]) (st := []) (r := 20) hC (met0_beer (by decide) hq5) yv_X0_beer ml_RX8_150 sh_20 rfl rfl dX8_price_17 (by decide) rfl rfl rfl rfl ?_
    refine V.goto (tgt := 24) hC dX8_price_20 (by decide) ?_
    cases h
    exact hR _ _ dX8_price_24
theorem met8_price {R : Int32 × xMem} {a0 : Int32} {M : xMem} (h : g8_price a0 M = some R) : xMet yX8_price cX8_price 2 (some .int) 4 [.inr 0, .inl a0] M (some R.1) R.2 := xMet.ofI (by decide +kernel) (Nat.le_of_ble_eq_true rfl) fun _ hC hR => v8_price  hC hR h
def g8_pay (a0 a1 a2 : Int32) (M : xMem) : Option (Int32 × xMem) :=
Option.bind (g8_isIn a0 (0 : Int32) (3 : Int32) M) fun q1 =>
if (q1.1) = 0 then
(some ((-1 : Int32), q1.2))
else
(Option.bind (g8_isInnThere a1 q1.2) fun q4 =>
if (q4.1) = 0 then
(some ((-1 : Int32), q4.2))
else
(Option.bind (g8_isIn a2 (1 : Int32) (9 : Int32) q4.2) fun q7 =>
if (q7.1) = 0 then
(some ((-1 : Int32), q7.2))
else
(Option.bind (g0_beer 0 a1 q7.2) fun q10 =>
if a0 < 0 ∨ 4 ≤ a0.toNatClampNeg then none else
if ((q10.1) * a2) ≤ (q10.2 0 (304 + a0.toNatClampNeg)) then
(if a1 < 0 ∨ 12 ≤ a1.toNatClampNeg then none else
if ((q10.2 0 (232 + a1.toNatClampNeg)) + a2) ≤ (99 : Int32) then
(mset (upM q10.2 0 (304 + a0.toNatClampNeg) ((q10.2 0 (304 + a0.toNatClampNeg)) - ((q10.1) * a2))) fun M16 =>
mset (upM M16 0 (232 + a1.toNatClampNeg) ((M16 0 (232 + a1.toNatClampNeg)) + a2)) fun M17 =>
some ((q10.1) * a2, M17))
else
(some ((-3 : Int32), q10.2)))
else
(some ((-2 : Int32), q10.2)))))
set_option maxHeartbeats 4000000 in
set_option maxRecDepth 20000 in
theorem v8_pay {G : xG} (hC : xC G cX8_pay 5 RX8 4) {R : Int32 × xMem} (hR : xRI G cX8_pay 5 R) {a0 a1 a2 : Int32} {M : xMem} (h : g8_pay a0 a1 a2 M = some R) : V G 5 0 [(0, .inr 0), (1, .inl a0), (2, .inl a1), (3, .inl a2)] [] M := by
  unfold g8_pay at h
  refine V.iload_n (r := 1) hC 1 dX8_pay_0 rfl rfl ?_
  refine V.iconst (r := 2) hC dX8_pay_1 ki_0 rfl ?_
  refine V.iconst (r := 3) hC dX8_pay_2 ki_3 rfl ?_
  obtain ⟨q1, hq2, h⟩ := Option.bind_eq_some_iff.mp h
  try dsimp only at h
  refine V.invSi (as := [.inl a0, .inl (0 : Int32), .inl (3 : Int32)]) (st := []) (r := 6) hC (met8_isIn hq2) ys_X8_isIn ml_RX8_59 dX8_pay_3 (by decide) rfl rfl rfl rfl ?_
  refine V.if_eq (tgt := 27) (r := 9) hC dX8_pay_6 (by decide) rfl (fun c3 => ?_) (fun c3 => ?_)
  · rw [if_pos c3] at h
    refine V.iconst (r := 28) hC dX8_pay_27 ki_m1 rfl ?_
    cases h
    exact hR _ _ dX8_pay_28
  · rw [if_neg c3] at h
    refine V.aload_n (r := 10) hC 0 dX8_pay_9 rfl rfl ?_
    refine V.iload_n (r := 11) hC 2 dX8_pay_10 rfl rfl ?_
    obtain ⟨q4, hq5, h⟩ := Option.bind_eq_some_iff.mp h
    try dsimp only at h
    refine V.invVi (as := [.inl a1]) (st := []) (r := 14) hC (met8_isInnThere hq5) yv_X8_isInnThere ml_RX8_88 sh_0 rfl rfl dX8_pay_11 (by decide) rfl rfl rfl rfl ?_
    refine V.if_eq (tgt := 27) (r := 17) hC dX8_pay_14 (by decide) rfl (fun c6 => ?_) (fun c6 => ?_)
    · rw [if_pos c6] at h
      refine V.iconst (r := 28) hC dX8_pay_27 ki_m1 rfl ?_
      cases h
      exact hR _ _ dX8_pay_28
    · rw [if_neg c6] at h
      refine V.iload_n (r := 18) hC 3 dX8_pay_17 rfl rfl ?_
      refine V.iconst (r := 19) hC dX8_pay_18 ki_1 rfl ?_
      refine V.bipush (r := 21) hC dX8_pay_19 kb_9 rfl ?_
      obtain ⟨q7, hq8, h⟩ := Option.bind_eq_some_iff.mp h
      try dsimp only at h
      refine V.invSi (as := [.inl a2, .inl (1 : Int32), .inl (9 : Int32)]) (st := []) (r := 24) hC (met8_isIn hq8) ys_X8_isIn ml_RX8_59 dX8_pay_21 (by decide) rfl rfl rfl rfl ?_
      refine V.if_ne (tgt := 29) (r := 27) hC dX8_pay_24 (by decide) rfl (fun c9 => ?_) (fun c9 => ?_)
      · rw [if_neg c9] at h
        refine V.aload_n (r := 30) hC 0 dX8_pay_29 rfl rfl ?_
        refine V.getR (k' := 20) (j := 2) (r := 33) hC xcl_8 sh_0 fl_RX8_25 dX8_pay_30 (by decide) rfl rfl ?_
        refine V.aload_n (r := 34) hC 0 dX8_pay_33 rfl rfl ?_
        refine V.getR (k' := 2) (j := 1) (r := 37) hC xcl_8 sh_0 fl_RX8_20 dX8_pay_34 (by decide) rfl rfl ?_
        refine V.iload_n (r := 38) hC 2 dX8_pay_37 rfl rfl ?_
        obtain ⟨q10, hq11, h⟩ := Option.bind_eq_some_iff.mp h
        try dsimp only at h
        refine V.invVi (as := [.inr 2, .inl a1]) (st := []) (r := 41) hC (met0_beer (by decide) hq11) yv_X0_beer ml_RX8_150 sh_20 rfl rfl dX8_pay_38 (by decide) rfl rfl rfl rfl ?_
        refine V.iload_n (r := 42) hC 3 dX8_pay_41 rfl rfl ?_
        refine V.imul (r := 43) hC dX8_pay_42 rfl ?_
        refine V.ist (lv' := [(0, .inr 0), (1, .inl a0), (2, .inl a1), (3, .inl a2), (4, .inl ((q10.1) * a2))]) (r := 45) hC dX8_pay_43 rfl rfl rfl ?_
        refine V.aload_n (r := 46) hC 0 dX8_pay_45 rfl rfl ?_
        refine V.getR (k' := 2) (j := 1) (r := 49) hC xcl_8 sh_0 fl_RX8_20 dX8_pay_46 (by decide) rfl rfl ?_
        refine V.getR (k' := 18) (j := 3) (r := 52) hC xcl_6 sh_2 fl_RX8_125 dX8_pay_49 (by decide) rfl rfl ?_
        refine V.iload_n (r := 53) hC 1 dX8_pay_52 rfl rfl ?_
        by_cases c12 : a0 < 0 ∨ 4 ≤ a0.toNatClampNeg
        · rw [if_pos c12] at h; cases h
        rw [if_neg c12] at h
        refine V.iald (t := (304 + a0.toNatClampNeg)) (r := 54) hC sh_18 dX8_pay_53 c12 rfl rfl ?_
        refine V.iload (r := 56) hC 4 dX8_pay_54 rfl rfl ?_
        refine V.icmp_ge (tgt := 62) (r := 59) hC dX8_pay_56 (by decide) rfl (fun c13 => ?_) (fun c13 => ?_)
        · rw [if_pos c13] at h
          refine V.aload_n (r := 63) hC 0 dX8_pay_62 rfl rfl ?_
          refine V.getR (k' := 2) (j := 1) (r := 66) hC xcl_8 sh_0 fl_RX8_20 dX8_pay_63 (by decide) rfl rfl ?_
          refine V.getR (k' := 4) (j := 1) (r := 69) hC xcl_6 sh_2 fl_RX8_75 dX8_pay_66 (by decide) rfl rfl ?_
          refine V.getR (k' := 8) (j := 3) (r := 72) hC xcl_2 sh_4 fl_RX8_154 dX8_pay_69 (by decide) rfl rfl ?_
          refine V.iload_n (r := 73) hC 2 dX8_pay_72 rfl rfl ?_
          by_cases c14 : a1 < 0 ∨ 12 ≤ a1.toNatClampNeg
          · rw [if_pos c14] at h; cases h
          rw [if_neg c14] at h
          refine V.iald (t := (232 + a1.toNatClampNeg)) (r := 74) hC sh_8 dX8_pay_73 c14 rfl rfl ?_
          refine V.iload_n (r := 75) hC 3 dX8_pay_74 rfl rfl ?_
          refine V.iadd (r := 76) hC dX8_pay_75 rfl ?_
          refine V.bipush (r := 78) hC dX8_pay_76 kb_99 rfl ?_
          refine V.icmp_le (tgt := 84) (r := 81) hC dX8_pay_78 (by decide) rfl (fun c15 => ?_) (fun c15 => ?_)
          · rw [if_pos c15] at h
            refine V.aload_n (r := 85) hC 0 dX8_pay_84 rfl rfl ?_
            refine V.getR (k' := 2) (j := 1) (r := 88) hC xcl_8 sh_0 fl_RX8_20 dX8_pay_85 (by decide) rfl rfl ?_
            refine V.getR (k' := 18) (j := 3) (r := 91) hC xcl_6 sh_2 fl_RX8_125 dX8_pay_88 (by decide) rfl rfl ?_
            refine V.iload_n (r := 92) hC 1 dX8_pay_91 rfl rfl ?_
            refine V.dup2 (r := 93) hC dX8_pay_92 rfl ?_
            refine V.iald (t := (304 + a0.toNatClampNeg)) (r := 94) hC sh_18 dX8_pay_93 c12 rfl rfl ?_
            refine V.iload (r := 96) hC 4 dX8_pay_94 rfl rfl ?_
            refine V.isub (r := 97) hC dX8_pay_96 rfl ?_
            rw [mset_eq] at h
            refine V.iast (t := (304 + a0.toNatClampNeg)) (r := 98) hC sh_18 dX8_pay_97 c12 rfl rfl ?_
            generalize upM q10.2 0 (304 + a0.toNatClampNeg) ((q10.2 0 (304 + a0.toNatClampNeg)) - ((q10.1) * a2)) = M16 at h ⊢
            refine V.aload_n (r := 99) hC 0 dX8_pay_98 rfl rfl ?_
            refine V.getR (k' := 2) (j := 1) (r := 102) hC xcl_8 sh_0 fl_RX8_20 dX8_pay_99 (by decide) rfl rfl ?_
            refine V.getR (k' := 4) (j := 1) (r := 105) hC xcl_6 sh_2 fl_RX8_75 dX8_pay_102 (by decide) rfl rfl ?_
            refine V.getR (k' := 8) (j := 3) (r := 108) hC xcl_2 sh_4 fl_RX8_154 dX8_pay_105 (by decide) rfl rfl ?_
            refine V.iload_n (r := 109) hC 2 dX8_pay_108 rfl rfl ?_
            refine V.dup2 (r := 110) hC dX8_pay_109 rfl ?_
            refine V.iald (t := (232 + a1.toNatClampNeg)) (r := 111) hC sh_8 dX8_pay_110 c14 rfl rfl ?_
            refine V.iload_n (r := 112) hC 3 dX8_pay_111 rfl rfl ?_
            refine V.iadd (r := 113) hC dX8_pay_112 rfl ?_
            rw [mset_eq] at h
            refine V.iast (t := (232 + a1.toNatClampNeg)) (r := 114) hC sh_8 dX8_pay_113 c14 rfl rfl ?_
            generalize upM M16 0 (232 + a1.toNatClampNeg) ((M16 0 (232 + a1.toNatClampNeg)) + a2) = M17 at h ⊢
            refine V.iload (r := 116) hC 4 dX8_pay_114 rfl rfl ?_
            cases h
            exact hR _ _ dX8_pay_116
          · rw [if_neg c15] at h
            refine V.bipush (r := 83) hC dX8_pay_81 kb_m3 rfl ?_
            cases h
            exact hR _ _ dX8_pay_83
        · rw [if_neg c13] at h
          refine V.bipush (r := 61) hC dX8_pay_59 kb_m2 rfl ?_
          cases h
          exact hR _ _ dX8_pay_61
      · rw [if_pos c9] at h
        refine V.iconst (r := 28) hC dX8_pay_27 ki_m1 rfl ?_
        cases h
        exact hR _ _ dX8_pay_28
theorem met8_pay {R : Int32 × xMem} {a0 a1 a2 : Int32} {M : xMem} (h : g8_pay a0 a1 a2 M = some R) : xMet yX8_pay cX8_pay 5 (some .int) 4 [.inr 0, .inl a0, .inl a1, .inl a2] M (some R.1) R.2 := xMet.ofI (by decide +kernel) (Nat.le_of_ble_eq_true rfl) fun _ hC hR => v8_pay  hC hR h
def g8_clouds (a0 : Int32) (M : xMem) : Option (Int32 × xMem) :=
Option.bind (g8_isIn a0 (0 : Int32) (255 : Int32) M) fun q1 =>
if (q1.1) = 0 then
(some ((0 : Int32), q1.2))
else
(mset (upM q1.2 0 329 a0) fun M4 =>
some ((1 : Int32), M4))
set_option maxHeartbeats 4000000 in
set_option maxRecDepth 20000 in
theorem v8_clouds {G : xG} (hC : xC G cX8_clouds 2 RX8 1) {R : Int32 × xMem} (hR : xRZ G cX8_clouds 2 R) {a0 : Int32} {M : xMem} (h : g8_clouds a0 M = some R) : V G 2 0 [(0, .inr 0), (1, .inl a0)] [] M := by
  unfold g8_clouds at h
  refine V.iload_n (r := 1) hC 1 dX8_clouds_0 rfl rfl ?_
  refine V.iconst (r := 2) hC dX8_clouds_1 ki_0 rfl ?_
  refine V.sipush (r := 5) hC dX8_clouds_2 ks_255 rfl ?_
  obtain ⟨q1, hq2, h⟩ := Option.bind_eq_some_iff.mp h
  try dsimp only at h
  refine V.invSi (as := [.inl a0, .inl (0 : Int32), .inl (255 : Int32)]) (st := []) (r := 8) hC (met8_isIn hq2) ys_X8_isIn ml_RX8_59 dX8_clouds_5 (by decide) rfl rfl rfl rfl ?_
  refine V.if_ne (tgt := 13) (r := 11) hC dX8_clouds_8 (by decide) rfl (fun c3 => ?_) (fun c3 => ?_)
  · rw [if_neg c3] at h
    refine V.aload_n (r := 14) hC 0 dX8_clouds_13 rfl rfl ?_
    refine V.getR (k' := 2) (j := 1) (r := 17) hC xcl_8 sh_0 fl_RX8_20 dX8_clouds_14 (by decide) rfl rfl ?_
    refine V.iload_n (r := 18) hC 1 dX8_clouds_17 rfl rfl ?_
    rw [mset_eq] at h
    refine V.putI (b := 0) (i := 329) (j := 7) (ty := .int) (r := 21) hC xcl_6 xcp_6 sh_2 fl_RX8_157 dX8_clouds_18 (by decide) rfl rfl (by decide +kernel) rfl rfl rfl ?_
    generalize upM q1.2 0 329 a0 = M4 at h ⊢
    refine V.iconst (r := 22) hC dX8_clouds_21 ki_1 rfl ?_
    cases h
    exact hR _ _ (Or.inr rfl) dX8_clouds_22
  · rw [if_pos c3] at h
    refine V.iconst (r := 12) hC dX8_clouds_11 ki_0 rfl ?_
    cases h
    exact hR _ _ (Or.inl rfl) dX8_clouds_12
theorem met8_clouds {R : Int32 × xMem} {a0 : Int32} {M : xMem} (h : g8_clouds a0 M = some R) : xMet yX8_clouds cX8_clouds 2 (some .boolean) 1 [.inr 0, .inl a0] M (some R.1) R.2 := xMet.ofZ (by decide +kernel) (Nat.le_of_ble_eq_true rfl) fun _ hC hR => v8_clouds  hC hR h
def g8_lit_b33 (x1 : Int32) (M : xMem) : Option (Int32 × xMem) :=
Option.bind (g6_isLit 0 x1 M) fun q7 =>
if (q7.1) = 0 then
(some ((0 : Int32), q7.2))
else
(some ((1 : Int32), q7.2))
set_option maxHeartbeats 4000000 in
set_option maxRecDepth 20000 in
theorem v8_lit_b33 {G : xG} (hC : xC G cX8_lit 2 RX8 2) {R : Int32 × xMem} (hR : xRI G cX8_lit 2 R) (x1 : Int32) (M : xMem) (h : g8_lit_b33 x1 M = some R) : V G 2 33 [(0, .inr 0), (1, .inl x1)] [] M := by
  unfold g8_lit_b33 at h
  refine V.aload_n (r := 34) hC 0 dX8_lit_33 rfl rfl ?_
  refine V.getR (k' := 2) (j := 1) (r := 37) hC xcl_8 sh_0 fl_RX8_20 dX8_lit_34 (by decide) rfl rfl ?_
  refine V.iload_n (r := 38) hC 1 dX8_lit_37 rfl rfl ?_
  obtain ⟨q7, hq8, h⟩ := Option.bind_eq_some_iff.mp h
  try dsimp only at h
  refine V.invVi (as := [.inl x1]) (st := []) (r := 41) hC (met6_isLit (by decide) hq8) yv_X6_isLit ml_RX8_160 sh_2 rfl rfl dX8_lit_38 (by decide) rfl rfl rfl rfl ?_
  refine V.if_eq (tgt := 48) (r := 44) hC dX8_lit_41 (by decide) rfl (fun c9 => ?_) (fun c9 => ?_)
  · rw [if_pos c9] at h
    refine V.iconst (r := 49) hC dX8_lit_48 ki_0 rfl ?_
    cases h
    exact hR _ _ dX8_lit_49
  · rw [if_neg c9] at h
    refine V.iconst (r := 45) hC dX8_lit_44 ki_1 rfl ?_
    refine V.goto (tgt := 49) hC dX8_lit_45 (by decide) ?_
    cases h
    exact hR _ _ dX8_lit_49
def g8_lit (a0 : Int32) (M : xMem) : Option (Int32 × xMem) :=
Option.bind (g2_stands 0 a0 M) fun q1 =>
if (q1.1) = 0 then
(Option.bind (g1_isTold 0 (a0 - (12 : Int32)) q1.2) fun q4 =>
if (q4.1) = 0 then
(some ((-1 : Int32), q4.2))
else
(g8_lit_b33 a0 q4.2))
else
(g8_lit_b33 a0 q1.2)
set_option maxHeartbeats 4000000 in
set_option maxRecDepth 20000 in
theorem v8_lit {G : xG} (hC : xC G cX8_lit 2 RX8 2) {R : Int32 × xMem} (hR : xRI G cX8_lit 2 R) {a0 : Int32} {M : xMem} (h : g8_lit a0 M = some R) : V G 2 0 [(0, .inr 0), (1, .inl a0)] [] M := by
  unfold g8_lit at h
  refine V.aload_n (r := 1) hC 0 dX8_lit_0 rfl rfl ?_
  refine V.getR (k' := 2) (j := 1) (r := 4) hC xcl_8 sh_0 fl_RX8_20 dX8_lit_1 (by decide) rfl rfl ?_
  refine V.getR (k' := 4) (j := 1) (r := 7) hC xcl_6 sh_2 fl_RX8_75 dX8_lit_4 (by decide) rfl rfl ?_
  refine V.iload_n (r := 8) hC 1 dX8_lit_7 rfl rfl ?_
  obtain ⟨q1, hq2, h⟩ := Option.bind_eq_some_iff.mp h
  try dsimp only at h
  refine V.invVi (as := [.inl a0]) (st := []) (r := 11) hC (met2_stands (by decide) hq2) yv_X2_stands ml_RX8_79 sh_4 rfl rfl dX8_lit_8 (by decide) rfl rfl rfl rfl ?_
  refine V.if_ne (tgt := 33) (r := 14) hC dX8_lit_11 (by decide) rfl (fun c3 => ?_) (fun c3 => ?_)
  · rw [if_neg c3] at h
    exact v8_lit_b33  hC hR  _ _ h
  · rw [if_pos c3] at h
    refine V.aload_n (r := 15) hC 0 dX8_lit_14 rfl rfl ?_
    refine V.getR (k' := 2) (j := 1) (r := 18) hC xcl_8 sh_0 fl_RX8_20 dX8_lit_15 (by decide) rfl rfl ?_
    refine V.getR (k' := 11) (j := 2) (r := 21) hC xcl_6 sh_2 fl_RX8_98 dX8_lit_18 (by decide) rfl rfl ?_
    refine V.iload_n (r := 22) hC 1 dX8_lit_21 rfl rfl ?_
    refine V.bipush (r := 24) hC dX8_lit_22 kb_12 rfl ?_
    refine V.isub (r := 25) hC dX8_lit_24 rfl ?_
    obtain ⟨q4, hq5, h⟩ := Option.bind_eq_some_iff.mp h
    try dsimp only at h
    refine V.invVi (as := [.inl (a0 - (12 : Int32))]) (st := []) (r := 28) hC (met1_isTold (by decide) hq5) yv_X1_isTold ml_RX8_122 sh_11 rfl rfl dX8_lit_25 (by decide) rfl rfl rfl rfl ?_
    refine V.if_ne (tgt := 33) (r := 31) hC dX8_lit_28 (by decide) rfl (fun c6 => ?_) (fun c6 => ?_)
    · rw [if_neg c6] at h
      exact v8_lit_b33  hC hR  _ _ h
    · rw [if_pos c6] at h
      refine V.iconst (r := 32) hC dX8_lit_31 ki_m1 rfl ?_
      cases h
      exact hR _ _ dX8_lit_32
theorem met8_lit {R : Int32 × xMem} {a0 : Int32} {M : xMem} (h : g8_lit a0 M = some R) : xMet yX8_lit cX8_lit 2 (some .int) 2 [.inr 0, .inl a0] M (some R.1) R.2 := xMet.ofI (by decide +kernel) (Nat.le_of_ble_eq_true rfl) fun _ hC hR => v8_lit  hC hR h
def g8_pull (a0 a1 : Int32) (M : xMem) : Option (Int32 × xMem) :=
Option.bind (g1_isOn 0 a0 M) fun q1 =>
if (q1.1) = 0 then
(some ((-1 : Int32), q1.2))
else
(Option.bind (g6_isThere 0 a1 q1.2) fun q4 =>
if (q4.1) = 0 then
(some ((-1 : Int32), q4.2))
else
(if a1 = ((12 : Int32) + a0) then
(some ((-1 : Int32), q4.2))
else
(Option.bind (g0_pullOf 0 a0 a1 q4.2) fun q8 =>
some (q8.1, q8.2))))
set_option maxHeartbeats 4000000 in
set_option maxRecDepth 20000 in
theorem v8_pull {G : xG} (hC : xC G cX8_pull 3 RX8 4) {R : Int32 × xMem} (hR : xRI G cX8_pull 3 R) {a0 a1 : Int32} {M : xMem} (h : g8_pull a0 a1 M = some R) : V G 3 0 [(0, .inr 0), (1, .inl a0), (2, .inl a1)] [] M := by
  unfold g8_pull at h
  refine V.aload_n (r := 1) hC 0 dX8_pull_0 rfl rfl ?_
  refine V.getR (k' := 2) (j := 1) (r := 4) hC xcl_8 sh_0 fl_RX8_20 dX8_pull_1 (by decide) rfl rfl ?_
  refine V.getR (k' := 11) (j := 2) (r := 7) hC xcl_6 sh_2 fl_RX8_98 dX8_pull_4 (by decide) rfl rfl ?_
  refine V.iload_n (r := 8) hC 1 dX8_pull_7 rfl rfl ?_
  obtain ⟨q1, hq2, h⟩ := Option.bind_eq_some_iff.mp h
  try dsimp only at h
  refine V.invVi (as := [.inl a0]) (st := []) (r := 11) hC (met1_isOn (by decide) hq2) yv_X1_isOn ml_RX8_163 sh_11 rfl rfl dX8_pull_8 (by decide) rfl rfl rfl rfl ?_
  refine V.if_eq (tgt := 33) (r := 14) hC dX8_pull_11 (by decide) rfl (fun c3 => ?_) (fun c3 => ?_)
  · rw [if_pos c3] at h
    refine V.iconst (r := 34) hC dX8_pull_33 ki_m1 rfl ?_
    cases h
    exact hR _ _ dX8_pull_34
  · rw [if_neg c3] at h
    refine V.aload_n (r := 15) hC 0 dX8_pull_14 rfl rfl ?_
    refine V.getR (k' := 2) (j := 1) (r := 18) hC xcl_8 sh_0 fl_RX8_20 dX8_pull_15 (by decide) rfl rfl ?_
    refine V.iload_n (r := 19) hC 2 dX8_pull_18 rfl rfl ?_
    obtain ⟨q4, hq5, h⟩ := Option.bind_eq_some_iff.mp h
    try dsimp only at h
    refine V.invVi (as := [.inl a1]) (st := []) (r := 22) hC (met6_isThere (by decide) hq5) yv_X6_isThere ml_RX8_166 sh_2 rfl rfl dX8_pull_19 (by decide) rfl rfl rfl rfl ?_
    refine V.if_eq (tgt := 33) (r := 25) hC dX8_pull_22 (by decide) rfl (fun c6 => ?_) (fun c6 => ?_)
    · rw [if_pos c6] at h
      refine V.iconst (r := 34) hC dX8_pull_33 ki_m1 rfl ?_
      cases h
      exact hR _ _ dX8_pull_34
    · rw [if_neg c6] at h
      refine V.iload_n (r := 26) hC 2 dX8_pull_25 rfl rfl ?_
      refine V.bipush (r := 28) hC dX8_pull_26 kb_12 rfl ?_
      refine V.iload_n (r := 29) hC 1 dX8_pull_28 rfl rfl ?_
      refine V.iadd (r := 30) hC dX8_pull_29 rfl ?_
      refine V.icmp_ne (tgt := 35) (r := 33) hC dX8_pull_30 (by decide) rfl (fun c7 => ?_) (fun c7 => ?_)
      · rw [if_neg c7] at h
        refine V.aload_n (r := 36) hC 0 dX8_pull_35 rfl rfl ?_
        refine V.getR (k' := 20) (j := 2) (r := 39) hC xcl_8 sh_0 fl_RX8_25 dX8_pull_36 (by decide) rfl rfl ?_
        refine V.aload_n (r := 40) hC 0 dX8_pull_39 rfl rfl ?_
        refine V.getR (k' := 2) (j := 1) (r := 43) hC xcl_8 sh_0 fl_RX8_20 dX8_pull_40 (by decide) rfl rfl ?_
        refine V.iload_n (r := 44) hC 1 dX8_pull_43 rfl rfl ?_
        refine V.iload_n (r := 45) hC 2 dX8_pull_44 rfl rfl ?_
        obtain ⟨q8, hq9, h⟩ := Option.bind_eq_some_iff.mp h
        try dsimp only at h
        refine V.invVi (as := [.inr 2, .inl a0, .inl a1]) (st := []) (r := 48) hC (met0_pullOf (by decide) hq9) yv_X0_pullOf ml_RX8_169 sh_20 rfl rfl dX8_pull_45 (by decide) rfl rfl rfl rfl ?_
        cases h
        exact hR _ _ dX8_pull_48
      · rw [if_pos c7] at h
        refine V.iconst (r := 34) hC dX8_pull_33 ki_m1 rfl ?_
        cases h
        exact hR _ _ dX8_pull_34
theorem met8_pull {R : Int32 × xMem} {a0 a1 : Int32} {M : xMem} (h : g8_pull a0 a1 M = some R) : xMet yX8_pull cX8_pull 3 (some .int) 4 [.inr 0, .inl a0, .inl a1] M (some R.1) R.2 := xMet.ofI (by decide +kernel) (Nat.le_of_ble_eq_true rfl) fun _ hC hR => v8_pull  hC hR h
def g8_target (a0 : Int32) (M : xMem) : Option (Int32 × xMem) :=
Option.bind (g1_isOn 0 a0 M) fun q1 =>
if (q1.1) = 0 then
(some ((-1 : Int32), q1.2))
else
(Option.bind (g0_goalOf 0 a0 q1.2) fun q4 =>
if (q4.1) = (-1 : Int32) then
(some ((-2 : Int32), q4.2))
else
(some (q4.1, q4.2)))
set_option maxHeartbeats 4000000 in
set_option maxRecDepth 20000 in
theorem v8_target {G : xG} (hC : xC G cX8_target 3 RX8 4) {R : Int32 × xMem} (hR : xRI G cX8_target 3 R) {a0 : Int32} {M : xMem} (h : g8_target a0 M = some R) : V G 3 0 [(0, .inr 0), (1, .inl a0)] [] M := by
  unfold g8_target at h
  refine V.aload_n (r := 1) hC 0 dX8_target_0 rfl rfl ?_
  refine V.getR (k' := 2) (j := 1) (r := 4) hC xcl_8 sh_0 fl_RX8_20 dX8_target_1 (by decide) rfl rfl ?_
  refine V.getR (k' := 11) (j := 2) (r := 7) hC xcl_6 sh_2 fl_RX8_98 dX8_target_4 (by decide) rfl rfl ?_
  refine V.iload_n (r := 8) hC 1 dX8_target_7 rfl rfl ?_
  obtain ⟨q1, hq2, h⟩ := Option.bind_eq_some_iff.mp h
  try dsimp only at h
  refine V.invVi (as := [.inl a0]) (st := []) (r := 11) hC (met1_isOn (by decide) hq2) yv_X1_isOn ml_RX8_163 sh_11 rfl rfl dX8_target_8 (by decide) rfl rfl rfl rfl ?_
  refine V.if_ne (tgt := 16) (r := 14) hC dX8_target_11 (by decide) rfl (fun c3 => ?_) (fun c3 => ?_)
  · rw [if_neg c3] at h
    refine V.aload_n (r := 17) hC 0 dX8_target_16 rfl rfl ?_
    refine V.getR (k' := 20) (j := 2) (r := 20) hC xcl_8 sh_0 fl_RX8_25 dX8_target_17 (by decide) rfl rfl ?_
    refine V.aload_n (r := 21) hC 0 dX8_target_20 rfl rfl ?_
    refine V.getR (k' := 2) (j := 1) (r := 24) hC xcl_8 sh_0 fl_RX8_20 dX8_target_21 (by decide) rfl rfl ?_
    refine V.iload_n (r := 25) hC 1 dX8_target_24 rfl rfl ?_
    obtain ⟨q4, hq5, h⟩ := Option.bind_eq_some_iff.mp h
    try dsimp only at h
    refine V.invVi (as := [.inr 2, .inl a0]) (st := []) (r := 28) hC (met0_goalOf (by decide) hq5) yv_X0_goalOf ml_RX8_173 sh_20 rfl rfl dX8_target_25 (by decide) rfl rfl rfl rfl ?_
    refine V.ist_n (lv' := [(0, .inr 0), (1, .inl a0), (2, .inl (q4.1))]) (r := 29) hC dX8_target_28 rfl rfl rfl ?_
    refine V.iload_n (r := 30) hC 2 dX8_target_29 rfl rfl ?_
    refine V.iconst (r := 31) hC dX8_target_30 ki_m1 rfl ?_
    refine V.icmp_ne (tgt := 39) (r := 34) hC dX8_target_31 (by decide) rfl (fun c6 => ?_) (fun c6 => ?_)
    · rw [if_neg c6] at h
      refine V.iload_n (r := 40) hC 2 dX8_target_39 rfl rfl ?_
      cases h
      exact hR _ _ dX8_target_40
    · rw [if_pos c6] at h
      refine V.bipush (r := 36) hC dX8_target_34 kb_m2 rfl ?_
      refine V.goto (tgt := 40) hC dX8_target_36 (by decide) ?_
      cases h
      exact hR _ _ dX8_target_40
  · rw [if_pos c3] at h
    refine V.iconst (r := 15) hC dX8_target_14 ki_m1 rfl ?_
    cases h
    exact hR _ _ dX8_target_15
theorem met8_target {R : Int32 × xMem} {a0 : Int32} {M : xMem} (h : g8_target a0 M = some R) : xMet yX8_target cX8_target 3 (some .int) 4 [.inr 0, .inl a0] M (some R.1) R.2 := xMet.ofI (by decide +kernel) (Nat.le_of_ble_eq_true rfl) fun _ hC hR => v8_target  hC hR h
def g8_hours (a0 : Int32) (M : xMem) : Option (Int32 × xMem) :=
Option.bind (g8_isIn a0 (1 : Int32) (24 : Int32) M) fun q1 =>
if (q1.1) = 0 then
(some ((-1 : Int32), q1.2))
else
(Option.bind (g0_passHours 0 a0 q1.2) fun q4 =>
some (q4.1, q4.2))
set_option maxHeartbeats 4000000 in
set_option maxRecDepth 20000 in
theorem v8_hours {G : xG} (hC : xC G cX8_hours 2 RX8 7) {R : Int32 × xMem} (hR : xRI G cX8_hours 2 R) {a0 : Int32} {M : xMem} (h : g8_hours a0 M = some R) : V G 2 0 [(0, .inr 0), (1, .inl a0)] [] M := by
  unfold g8_hours at h
  refine V.iload_n (r := 1) hC 1 dX8_hours_0 rfl rfl ?_
  refine V.iconst (r := 2) hC dX8_hours_1 ki_1 rfl ?_
  refine V.bipush (r := 4) hC dX8_hours_2 kb_24 rfl ?_
  obtain ⟨q1, hq2, h⟩ := Option.bind_eq_some_iff.mp h
  try dsimp only at h
  refine V.invSi (as := [.inl a0, .inl (1 : Int32), .inl (24 : Int32)]) (st := []) (r := 7) hC (met8_isIn hq2) ys_X8_isIn ml_RX8_59 dX8_hours_4 (by decide) rfl rfl rfl rfl ?_
  refine V.if_eq (tgt := 25) (r := 10) hC dX8_hours_7 (by decide) rfl (fun c3 => ?_) (fun c3 => ?_)
  · rw [if_pos c3] at h
    refine V.iconst (r := 26) hC dX8_hours_25 ki_m1 rfl ?_
    cases h
    exact hR _ _ dX8_hours_26
  · rw [if_neg c3] at h
    refine V.aload_n (r := 11) hC 0 dX8_hours_10 rfl rfl ?_
    refine V.getR (k' := 20) (j := 2) (r := 14) hC xcl_8 sh_0 fl_RX8_25 dX8_hours_11 (by decide) rfl rfl ?_
    refine V.aload_n (r := 15) hC 0 dX8_hours_14 rfl rfl ?_
    refine V.getR (k' := 2) (j := 1) (r := 18) hC xcl_8 sh_0 fl_RX8_20 dX8_hours_15 (by decide) rfl rfl ?_
    refine V.iload_n (r := 19) hC 1 dX8_hours_18 rfl rfl ?_
    obtain ⟨q4, hq5, h⟩ := Option.bind_eq_some_iff.mp h
    try dsimp only at h
    refine V.invVi (as := [.inr 2, .inl a0]) (st := []) (r := 22) hC (met0_passHours (by decide) hq5) yv_X0_passHours ml_RX8_176 sh_20 rfl rfl dX8_hours_19 (by decide) rfl rfl rfl rfl ?_
    refine V.goto (tgt := 26) hC dX8_hours_22 (by decide) ?_
    cases h
    exact hR _ _ dX8_hours_26
theorem met8_hours {R : Int32 × xMem} {a0 : Int32} {M : xMem} (h : g8_hours a0 M = some R) : xMet yX8_hours cX8_hours 2 (some .int) 7 [.inr 0, .inl a0] M (some R.1) R.2 := xMet.ofI (by decide +kernel) (Nat.le_of_ble_eq_true rfl) fun _ hC hR => v8_hours  hC hR h
def g8_hour (a0 : Int32) (M : xMem) : Option (Int32 × xMem) :=
Option.bind (g8_isIn a0 (0 : Int32) (9 : Int32) M) fun q1 =>
if (q1.1) = 0 then
(some ((-1 : Int32), q1.2))
else
(Option.bind (g0_passHour 0 a0 q1.2) fun q4 =>
some (q4.1, q4.2))
set_option maxHeartbeats 4000000 in
set_option maxRecDepth 20000 in
theorem v8_hour {G : xG} (hC : xC G cX8_hour 2 RX8 6) {R : Int32 × xMem} (hR : xRI G cX8_hour 2 R) {a0 : Int32} {M : xMem} (h : g8_hour a0 M = some R) : V G 2 0 [(0, .inr 0), (1, .inl a0)] [] M := by
  unfold g8_hour at h
  refine V.iload_n (r := 1) hC 1 dX8_hour_0 rfl rfl ?_
  refine V.iconst (r := 2) hC dX8_hour_1 ki_0 rfl ?_
  refine V.bipush (r := 4) hC dX8_hour_2 kb_9 rfl ?_
  obtain ⟨q1, hq2, h⟩ := Option.bind_eq_some_iff.mp h
  try dsimp only at h
  refine V.invSi (as := [.inl a0, .inl (0 : Int32), .inl (9 : Int32)]) (st := []) (r := 7) hC (met8_isIn hq2) ys_X8_isIn ml_RX8_59 dX8_hour_4 (by decide) rfl rfl rfl rfl ?_
  refine V.if_eq (tgt := 25) (r := 10) hC dX8_hour_7 (by decide) rfl (fun c3 => ?_) (fun c3 => ?_)
  · rw [if_pos c3] at h
    refine V.iconst (r := 26) hC dX8_hour_25 ki_m1 rfl ?_
    cases h
    exact hR _ _ dX8_hour_26
  · rw [if_neg c3] at h
    refine V.aload_n (r := 11) hC 0 dX8_hour_10 rfl rfl ?_
    refine V.getR (k' := 20) (j := 2) (r := 14) hC xcl_8 sh_0 fl_RX8_25 dX8_hour_11 (by decide) rfl rfl ?_
    refine V.aload_n (r := 15) hC 0 dX8_hour_14 rfl rfl ?_
    refine V.getR (k' := 2) (j := 1) (r := 18) hC xcl_8 sh_0 fl_RX8_20 dX8_hour_15 (by decide) rfl rfl ?_
    refine V.iload_n (r := 19) hC 1 dX8_hour_18 rfl rfl ?_
    obtain ⟨q4, hq5, h⟩ := Option.bind_eq_some_iff.mp h
    try dsimp only at h
    refine V.invVi (as := [.inr 2, .inl a0]) (st := []) (r := 22) hC (met0_passHour (by decide) hq5) yv_X0_passHour ml_RX8_179 sh_20 rfl rfl dX8_hour_19 (by decide) rfl rfl rfl rfl ?_
    refine V.goto (tgt := 26) hC dX8_hour_22 (by decide) ?_
    cases h
    exact hR _ _ dX8_hour_26
theorem met8_hour {R : Int32 × xMem} {a0 : Int32} {M : xMem} (h : g8_hour a0 M = some R) : xMet yX8_hour cX8_hour 2 (some .int) 6 [.inr 0, .inl a0] M (some R.1) R.2 := xMet.ofI (by decide +kernel) (Nat.le_of_ble_eq_true rfl) fun _ hC hR => v8_hour  hC hR h
def g8_isTriedAsked_b38 (M : xMem) : Option (Int32 × xMem) :=
some ((1 : Int32), M)
set_option maxHeartbeats 4000000 in
set_option maxRecDepth 20000 in
theorem v8_isTriedAsked_b38 {G : xG} (hC : xC G cX8_isTriedAsked 2 RX8 1) {R : Int32 × xMem} (hR : xRZ G cX8_isTriedAsked 2 R) (M : xMem) (h : g8_isTriedAsked_b38 M = some R) : V G 2 38 [] [] M := by
  unfold g8_isTriedAsked_b38 at h
  refine V.iconst (r := 39) hC dX8_isTriedAsked_38 ki_1 rfl ?_
  refine V.goto (tgt := 43) hC dX8_isTriedAsked_39 (by decide) ?_
  cases h
  exact hR _ _ (Or.inr rfl) dX8_isTriedAsked_43
def g8_isTriedAsked (a0 : Int32) (M : xMem) : Option (Int32 × xMem) :=
Option.bind (g8_isIn a0 (0 : Int32) (2 : Int32) M) fun q1 =>
if (q1.1) = 0 then
(Option.bind (g8_isIn (a0 / (10 : Int32)) (1 : Int32) (4 : Int32) q1.2) fun q4 =>
if (q4.1) = 0 then
(some ((0 : Int32), q4.2))
else
(Option.bind (g1_isTold 0 (a0 - a0 / (10 : Int32) * (10 : Int32)) q4.2) fun q7 =>
if (q7.1) = 0 then
(some ((0 : Int32), q7.2))
else
(g8_isTriedAsked_b38 q7.2)))
else
(g8_isTriedAsked_b38 q1.2)
set_option maxHeartbeats 4000000 in
set_option maxRecDepth 20000 in
theorem v8_isTriedAsked {G : xG} (hC : xC G cX8_isTriedAsked 2 RX8 1) {R : Int32 × xMem} (hR : xRZ G cX8_isTriedAsked 2 R) {a0 : Int32} {M : xMem} (h : g8_isTriedAsked a0 M = some R) : V G 2 0 [(0, .inr 0), (1, .inl a0)] [] M := by
  unfold g8_isTriedAsked at h
  refine V.iload_n (r := 1) hC 1 dX8_isTriedAsked_0 rfl rfl ?_
  refine V.iconst (r := 2) hC dX8_isTriedAsked_1 ki_0 rfl ?_
  refine V.iconst (r := 3) hC dX8_isTriedAsked_2 ki_2 rfl ?_
  obtain ⟨q1, hq2, h⟩ := Option.bind_eq_some_iff.mp h
  try dsimp only at h
  refine V.invSi (as := [.inl a0, .inl (0 : Int32), .inl (2 : Int32)]) (st := []) (r := 6) hC (met8_isIn hq2) ys_X8_isIn ml_RX8_59 dX8_isTriedAsked_3 (by decide) rfl rfl rfl rfl ?_
  refine V.if_ne (tgt := 38) (r := 9) hC dX8_isTriedAsked_6 (by decide) rfl (fun c3 => ?_) (fun c3 => ?_)
  · rw [if_neg c3] at h
    refine V.pick (lv' := []) [] rfl ?_
    exact v8_isTriedAsked_b38  hC hR  _ h
  · rw [if_pos c3] at h
    refine V.iload_n (r := 10) hC 1 dX8_isTriedAsked_9 rfl rfl ?_
    refine V.bipush (r := 12) hC dX8_isTriedAsked_10 kb_10 rfl ?_
    refine V.idiv (r := 13) hC dX8_isTriedAsked_12 (by decide) rfl ?_
    refine V.iconst (r := 14) hC dX8_isTriedAsked_13 ki_1 rfl ?_
    refine V.iconst (r := 15) hC dX8_isTriedAsked_14 ki_4 rfl ?_
    obtain ⟨q4, hq5, h⟩ := Option.bind_eq_some_iff.mp h
    try dsimp only at h
    refine V.invSi (as := [.inl (a0 / (10 : Int32)), .inl (1 : Int32), .inl (4 : Int32)]) (st := []) (r := 18) hC (met8_isIn hq5) ys_X8_isIn ml_RX8_59 dX8_isTriedAsked_15 (by decide) rfl rfl rfl rfl ?_
    refine V.if_eq (tgt := 42) (r := 21) hC dX8_isTriedAsked_18 (by decide) rfl (fun c6 => ?_) (fun c6 => ?_)
    · rw [if_pos c6] at h
      refine V.iconst (r := 43) hC dX8_isTriedAsked_42 ki_0 rfl ?_
      cases h
      exact hR _ _ (Or.inl rfl) dX8_isTriedAsked_43
    · rw [if_neg c6] at h
      refine V.aload_n (r := 22) hC 0 dX8_isTriedAsked_21 rfl rfl ?_
      refine V.getR (k' := 2) (j := 1) (r := 25) hC xcl_8 sh_0 fl_RX8_20 dX8_isTriedAsked_22 (by decide) rfl rfl ?_
      refine V.getR (k' := 11) (j := 2) (r := 28) hC xcl_6 sh_2 fl_RX8_98 dX8_isTriedAsked_25 (by decide) rfl rfl ?_
      refine V.iload_n (r := 29) hC 1 dX8_isTriedAsked_28 rfl rfl ?_
      refine V.bipush (r := 31) hC dX8_isTriedAsked_29 kb_10 rfl ?_
      refine V.irem (r := 32) hC dX8_isTriedAsked_31 (by decide) rfl ?_
      obtain ⟨q7, hq8, h⟩ := Option.bind_eq_some_iff.mp h
      try dsimp only at h
      refine V.invVi (as := [.inl (a0 - a0 / (10 : Int32) * (10 : Int32))]) (st := []) (r := 35) hC (met1_isTold (by decide) hq8) yv_X1_isTold ml_RX8_122 sh_11 rfl rfl dX8_isTriedAsked_32 (by decide) rfl rfl rfl rfl ?_
      refine V.if_eq (tgt := 42) (r := 38) hC dX8_isTriedAsked_35 (by decide) rfl (fun c9 => ?_) (fun c9 => ?_)
      · rw [if_pos c9] at h
        refine V.iconst (r := 43) hC dX8_isTriedAsked_42 ki_0 rfl ?_
        cases h
        exact hR _ _ (Or.inl rfl) dX8_isTriedAsked_43
      · rw [if_neg c9] at h
        refine V.pick (lv' := []) [] rfl ?_
        exact v8_isTriedAsked_b38  hC hR  _ h
theorem met8_isTriedAsked {R : Int32 × xMem} {a0 : Int32} {M : xMem} (h : g8_isTriedAsked a0 M = some R) : xMet yX8_isTriedAsked cX8_isTriedAsked 2 (some .boolean) 1 [.inr 0, .inl a0] M (some R.1) R.2 := xMet.ofZ (by decide +kernel) (Nat.le_of_ble_eq_true rfl) fun _ hC hR => v8_isTriedAsked  hC hR h
def g8_tried_b118 (s1 s2 : Int32) (M : xMem) : Option (Int32 × xMem) :=
Option.bind (g1_tell 1 s1 s2 M) fun q20 =>
some (q20.1, q20.2)
set_option maxHeartbeats 4000000 in
set_option maxRecDepth 20000 in
theorem v8_tried_b118 {G : xG} (hC : xC G cX8_tried 5 RX8 7) {R : Int32 × xMem} (hR : xRI G cX8_tried 5 R) (s1 s2 : Int32) (M : xMem) (h : g8_tried_b118 s1 s2 M = some R) : V G 5 118 [] [.inl s2, .inl s1, .inr 38] M := by
  unfold g8_tried_b118 at h
  obtain ⟨q20, hq21, h⟩ := Option.bind_eq_some_iff.mp h
  try dsimp only at h
  refine V.invVi (as := [.inl s1, .inl s2]) (st := []) (r := 121) hC (met1_tell (by decide) hq21) yv_X1_tell ml_RX8_198 sh_38 rfl rfl dX8_tried_118 (by decide) rfl rfl rfl rfl ?_
  cases h
  exact hR _ _ dX8_tried_121
def g8_tried (a0 a1 : Int32) (M : xMem) : Option (Int32 × xMem) :=
Option.bind (g8_isIn a0 (1 : Int32) (24 : Int32) M) fun q1 =>
if (q1.1) = 0 then
(some ((-1 : Int32), q1.2))
else
(Option.bind (g8_isTriedAsked a1 q1.2) fun q4 =>
if (q4.1) = 0 then
(some ((-1 : Int32), q4.2))
else
(Option.bind (g6_become 1 0 q4.2) fun q7 =>
Option.bind (g0_passHours 1 a0 q7) fun q9 =>
if a1 = 0 then
(some (q9.1, q9.2))
else
(if a1 = (1 : Int32) then
(Option.bind (g1_living 1 q9.2) fun q18 =>
some (q18.1, q18.2))
else
(if a1 = (2 : Int32) then
(Option.bind (g1_livingThrough 1 q9.2) fun q16 =>
some (q16.1, q16.2))
else
(if (a1 / (10 : Int32)) = (1 : Int32) then
(g8_tried_b118 (a1 - a1 / (10 : Int32) * (10 : Int32)) (1 : Int32) q9.2)
else
(if (a1 / (10 : Int32)) = (2 : Int32) then
(g8_tried_b118 (a1 - a1 / (10 : Int32) * (10 : Int32)) (0 : Int32) q9.2)
else
(g8_tried_b118 (a1 - a1 / (10 : Int32) * (10 : Int32)) ((a1 / (10 : Int32)) - (1 : Int32)) q9.2)))))))
set_option maxHeartbeats 4000000 in
set_option maxRecDepth 20000 in
theorem v8_tried {G : xG} (hC : xC G cX8_tried 5 RX8 7) {R : Int32 × xMem} (hR : xRI G cX8_tried 5 R) {a0 a1 : Int32} {M : xMem} (h : g8_tried a0 a1 M = some R) : V G 5 0 [(0, .inr 0), (1, .inl a0), (2, .inl a1)] [] M := by
  unfold g8_tried at h
  refine V.iload_n (r := 1) hC 1 dX8_tried_0 rfl rfl ?_
  refine V.iconst (r := 2) hC dX8_tried_1 ki_1 rfl ?_
  refine V.bipush (r := 4) hC dX8_tried_2 kb_24 rfl ?_
  obtain ⟨q1, hq2, h⟩ := Option.bind_eq_some_iff.mp h
  try dsimp only at h
  refine V.invSi (as := [.inl a0, .inl (1 : Int32), .inl (24 : Int32)]) (st := []) (r := 7) hC (met8_isIn hq2) ys_X8_isIn ml_RX8_59 dX8_tried_4 (by decide) rfl rfl rfl rfl ?_
  refine V.if_eq (tgt := 18) (r := 10) hC dX8_tried_7 (by decide) rfl (fun c3 => ?_) (fun c3 => ?_)
  · rw [if_pos c3] at h
    refine V.iconst (r := 19) hC dX8_tried_18 ki_m1 rfl ?_
    cases h
    exact hR _ _ dX8_tried_19
  · rw [if_neg c3] at h
    refine V.aload_n (r := 11) hC 0 dX8_tried_10 rfl rfl ?_
    refine V.iload_n (r := 12) hC 2 dX8_tried_11 rfl rfl ?_
    obtain ⟨q4, hq5, h⟩ := Option.bind_eq_some_iff.mp h
    try dsimp only at h
    refine V.invVi (as := [.inl a1]) (st := []) (r := 15) hC (met8_isTriedAsked hq5) yv_X8_isTriedAsked ml_RX8_182 sh_0 rfl rfl dX8_tried_12 (by decide) rfl rfl rfl rfl ?_
    refine V.if_ne (tgt := 20) (r := 18) hC dX8_tried_15 (by decide) rfl (fun c6 => ?_) (fun c6 => ?_)
    · rw [if_neg c6] at h
      refine V.aload_n (r := 21) hC 0 dX8_tried_20 rfl rfl ?_
      refine V.getR (k' := 1) (j := 0) (r := 24) hC xcl_8 sh_0 fl_RX8_10 dX8_tried_21 (by decide) rfl rfl ?_
      refine V.getR (k' := 29) (j := 2) (r := 27) hC xcl_5 sh_1 fl_RX8_185 dX8_tried_24 (by decide) rfl rfl ?_
      refine V.ast_n (lv' := [(0, .inr 0), (1, .inl a0), (2, .inl a1), (3, .inr 29)]) (r := 28) hC dX8_tried_27 rfl rfl rfl ?_
      refine V.aload_n (r := 29) hC 3 dX8_tried_28 rfl rfl ?_
      refine V.aload_n (r := 30) hC 0 dX8_tried_29 rfl rfl ?_
      refine V.getR (k' := 2) (j := 1) (r := 33) hC xcl_8 sh_0 fl_RX8_20 dX8_tried_30 (by decide) rfl rfl ?_
      obtain ⟨q7, hq8, h⟩ := Option.bind_eq_some_iff.mp h
      try dsimp only at h
      refine V.invVv (as := [.inr 2]) (st := []) (r := 36) hC (met6_become (by decide) (by decide) hq8) yv_X6_become ml_RX8_188 sh_29 rfl rfl dX8_tried_33 (by decide) rfl rfl rfl rfl ?_
      refine V.aload_n (r := 37) hC 0 dX8_tried_36 rfl rfl ?_
      refine V.getR (k' := 20) (j := 2) (r := 40) hC xcl_8 sh_0 fl_RX8_25 dX8_tried_37 (by decide) rfl rfl ?_
      refine V.aload_n (r := 41) hC 3 dX8_tried_40 rfl rfl ?_
      refine V.iload_n (r := 42) hC 1 dX8_tried_41 rfl rfl ?_
      obtain ⟨q9, hq10, h⟩ := Option.bind_eq_some_iff.mp h
      try dsimp only at h
      refine V.invVi (as := [.inr 29, .inl a0]) (st := []) (r := 45) hC (met0_passHours (by decide) hq10) yv_X0_passHours ml_RX8_176 sh_20 rfl rfl dX8_tried_42 (by decide) rfl rfl rfl rfl ?_
      refine V.ist (lv' := [(0, .inr 0), (1, .inl a0), (2, .inl a1), (3, .inr 29), (4, .inl (q9.1))]) (r := 47) hC dX8_tried_45 rfl rfl rfl ?_
      refine V.iload_n (r := 48) hC 2 dX8_tried_47 rfl rfl ?_
      refine V.if_ne (tgt := 54) (r := 51) hC dX8_tried_48 (by decide) rfl (fun c11 => ?_) (fun c11 => ?_)
      · rw [if_neg c11] at h
        refine V.iload_n (r := 55) hC 2 dX8_tried_54 rfl rfl ?_
        refine V.iconst (r := 56) hC dX8_tried_55 ki_1 rfl ?_
        refine V.icmp_ne (tgt := 67) (r := 59) hC dX8_tried_56 (by decide) rfl (fun c12 => ?_) (fun c12 => ?_)
        · rw [if_neg c12] at h
          refine V.iload_n (r := 68) hC 2 dX8_tried_67 rfl rfl ?_
          refine V.iconst (r := 69) hC dX8_tried_68 ki_2 rfl ?_
          refine V.icmp_ne (tgt := 80) (r := 72) hC dX8_tried_69 (by decide) rfl (fun c13 => ?_) (fun c13 => ?_)
          · rw [if_neg c13] at h
            refine V.aload_n (r := 81) hC 3 dX8_tried_80 rfl rfl ?_
            refine V.getR (k' := 38) (j := 2) (r := 84) hC xcl_6 sh_29 fl_RX8_98 dX8_tried_81 (by decide) rfl rfl ?_
            refine V.iload_n (r := 85) hC 2 dX8_tried_84 rfl rfl ?_
            refine V.bipush (r := 87) hC dX8_tried_85 kb_10 rfl ?_
            refine V.irem (r := 88) hC dX8_tried_87 (by decide) rfl ?_
            refine V.iload_n (r := 89) hC 2 dX8_tried_88 rfl rfl ?_
            refine V.bipush (r := 91) hC dX8_tried_89 kb_10 rfl ?_
            refine V.idiv (r := 92) hC dX8_tried_91 (by decide) rfl ?_
            refine V.iconst (r := 93) hC dX8_tried_92 ki_1 rfl ?_
            refine V.icmp_ne (tgt := 100) (r := 96) hC dX8_tried_93 (by decide) rfl (fun c14 => ?_) (fun c14 => ?_)
            · rw [if_neg c14] at h
              refine V.iload_n (r := 101) hC 2 dX8_tried_100 rfl rfl ?_
              refine V.bipush (r := 103) hC dX8_tried_101 kb_10 rfl ?_
              refine V.idiv (r := 104) hC dX8_tried_103 (by decide) rfl ?_
              refine V.iconst (r := 105) hC dX8_tried_104 ki_2 rfl ?_
              refine V.icmp_ne (tgt := 112) (r := 108) hC dX8_tried_105 (by decide) rfl (fun c15 => ?_) (fun c15 => ?_)
              · rw [if_neg c15] at h
                refine V.iload_n (r := 113) hC 2 dX8_tried_112 rfl rfl ?_
                refine V.bipush (r := 115) hC dX8_tried_113 kb_10 rfl ?_
                refine V.idiv (r := 116) hC dX8_tried_115 (by decide) rfl ?_
                refine V.iconst (r := 117) hC dX8_tried_116 ki_1 rfl ?_
                refine V.isub (r := 118) hC dX8_tried_117 rfl ?_
                refine V.pick (lv' := []) [] rfl ?_
                exact v8_tried_b118  hC hR  _ _ _ h
              · rw [if_pos c15] at h
                refine V.iconst (r := 109) hC dX8_tried_108 ki_0 rfl ?_
                refine V.goto (tgt := 118) hC dX8_tried_109 (by decide) ?_
                refine V.pick (lv' := []) [] rfl ?_
                exact v8_tried_b118  hC hR  _ _ _ h
            · rw [if_pos c14] at h
              refine V.iconst (r := 97) hC dX8_tried_96 ki_1 rfl ?_
              refine V.goto (tgt := 118) hC dX8_tried_97 (by decide) ?_
              refine V.pick (lv' := []) [] rfl ?_
              exact v8_tried_b118  hC hR  _ _ _ h
          · rw [if_pos c13] at h
            refine V.aload_n (r := 73) hC 3 dX8_tried_72 rfl rfl ?_
            refine V.getR (k' := 38) (j := 2) (r := 76) hC xcl_6 sh_29 fl_RX8_98 dX8_tried_73 (by decide) rfl rfl ?_
            obtain ⟨q16, hq17, h⟩ := Option.bind_eq_some_iff.mp h
            try dsimp only at h
            refine V.invVi (as := []) (st := []) (r := 79) hC (met1_livingThrough (by decide) hq17) yv_X1_livingThrough ml_RX8_195 sh_38 rfl rfl dX8_tried_76 (by decide) rfl rfl rfl rfl ?_
            cases h
            exact hR _ _ dX8_tried_79
        · rw [if_pos c12] at h
          refine V.aload_n (r := 60) hC 3 dX8_tried_59 rfl rfl ?_
          refine V.getR (k' := 38) (j := 2) (r := 63) hC xcl_6 sh_29 fl_RX8_98 dX8_tried_60 (by decide) rfl rfl ?_
          obtain ⟨q18, hq19, h⟩ := Option.bind_eq_some_iff.mp h
          try dsimp only at h
          refine V.invVi (as := []) (st := []) (r := 66) hC (met1_living (by decide) hq19) yv_X1_living ml_RX8_191 sh_38 rfl rfl dX8_tried_63 (by decide) rfl rfl rfl rfl ?_
          cases h
          exact hR _ _ dX8_tried_66
      · rw [if_pos c11] at h
        refine V.iload (r := 53) hC 4 dX8_tried_51 rfl rfl ?_
        cases h
        exact hR _ _ dX8_tried_53
    · rw [if_pos c6] at h
      refine V.iconst (r := 19) hC dX8_tried_18 ki_m1 rfl ?_
      cases h
      exact hR _ _ dX8_tried_19
theorem met8_tried {R : Int32 × xMem} {a0 a1 : Int32} {M : xMem} (h : g8_tried a0 a1 M = some R) : xMet yX8_tried cX8_tried 5 (some .int) 7 [.inr 0, .inl a0, .inl a1] M (some R.1) R.2 := xMet.ofI (by decide +kernel) (Nat.le_of_ble_eq_true rfl) fun _ hC hR => v8_tried  hC hR h
def g8_herdIs (a0 a1 : Int32) (M : xMem) : Option (Int32 × xMem) :=
Option.bind (g1_isTold 0 a0 M) fun q1 =>
if (q1.1) = 0 then
(some ((-1 : Int32), q1.2))
else
(Option.bind (g1_tell 0 a0 a1 q1.2) fun q4 =>
some (q4.1, q4.2))
set_option maxHeartbeats 4000000 in
set_option maxRecDepth 20000 in
theorem v8_herdIs {G : xG} (hC : xC G cX8_herdIs 3 RX8 2) {R : Int32 × xMem} (hR : xRI G cX8_herdIs 3 R) {a0 a1 : Int32} {M : xMem} (h : g8_herdIs a0 a1 M = some R) : V G 3 0 [(0, .inr 0), (1, .inl a0), (2, .inl a1)] [] M := by
  unfold g8_herdIs at h
  refine V.aload_n (r := 1) hC 0 dX8_herdIs_0 rfl rfl ?_
  refine V.getR (k' := 2) (j := 1) (r := 4) hC xcl_8 sh_0 fl_RX8_20 dX8_herdIs_1 (by decide) rfl rfl ?_
  refine V.getR (k' := 11) (j := 2) (r := 7) hC xcl_6 sh_2 fl_RX8_98 dX8_herdIs_4 (by decide) rfl rfl ?_
  refine V.iload_n (r := 8) hC 1 dX8_herdIs_7 rfl rfl ?_
  obtain ⟨q1, hq2, h⟩ := Option.bind_eq_some_iff.mp h
  try dsimp only at h
  refine V.invVi (as := [.inl a0]) (st := []) (r := 11) hC (met1_isTold (by decide) hq2) yv_X1_isTold ml_RX8_122 sh_11 rfl rfl dX8_herdIs_8 (by decide) rfl rfl rfl rfl ?_
  refine V.if_eq (tgt := 29) (r := 14) hC dX8_herdIs_11 (by decide) rfl (fun c3 => ?_) (fun c3 => ?_)
  · rw [if_pos c3] at h
    refine V.iconst (r := 30) hC dX8_herdIs_29 ki_m1 rfl ?_
    cases h
    exact hR _ _ dX8_herdIs_30
  · rw [if_neg c3] at h
    refine V.aload_n (r := 15) hC 0 dX8_herdIs_14 rfl rfl ?_
    refine V.getR (k' := 2) (j := 1) (r := 18) hC xcl_8 sh_0 fl_RX8_20 dX8_herdIs_15 (by decide) rfl rfl ?_
    refine V.getR (k' := 11) (j := 2) (r := 21) hC xcl_6 sh_2 fl_RX8_98 dX8_herdIs_18 (by decide) rfl rfl ?_
    refine V.iload_n (r := 22) hC 1 dX8_herdIs_21 rfl rfl ?_
    refine V.iload_n (r := 23) hC 2 dX8_herdIs_22 rfl rfl ?_
    obtain ⟨q4, hq5, h⟩ := Option.bind_eq_some_iff.mp h
    try dsimp only at h
    refine V.invVi (as := [.inl a0, .inl a1]) (st := []) (r := 26) hC (met1_tell (by decide) hq5) yv_X1_tell ml_RX8_198 sh_11 rfl rfl dX8_herdIs_23 (by decide) rfl rfl rfl rfl ?_
    refine V.goto (tgt := 30) hC dX8_herdIs_26 (by decide) ?_
    cases h
    exact hR _ _ dX8_herdIs_30
theorem met8_herdIs {R : Int32 × xMem} {a0 a1 : Int32} {M : xMem} (h : g8_herdIs a0 a1 M = some R) : xMet yX8_herdIs cX8_herdIs 3 (some .int) 2 [.inr 0, .inl a0, .inl a1] M (some R.1) R.2 := xMet.ofI (by decide +kernel) (Nat.le_of_ble_eq_true rfl) fun _ hC hR => v8_herdIs  hC hR h
def g8_lampIs (a0 a1 : Int32) (M : xMem) : Option (Int32 × xMem) :=
Option.bind (g2_stands 0 a0 M) fun q1 =>
if (q1.1) = 0 then
(some ((-1 : Int32), q1.2))
else
(Option.bind (g2_tell 0 a0 a1 q1.2) fun q4 =>
some (q4.1, q4.2))
set_option maxHeartbeats 4000000 in
set_option maxRecDepth 20000 in
theorem v8_lampIs {G : xG} (hC : xC G cX8_lampIs 3 RX8 2) {R : Int32 × xMem} (hR : xRI G cX8_lampIs 3 R) {a0 a1 : Int32} {M : xMem} (h : g8_lampIs a0 a1 M = some R) : V G 3 0 [(0, .inr 0), (1, .inl a0), (2, .inl a1)] [] M := by
  unfold g8_lampIs at h
  refine V.aload_n (r := 1) hC 0 dX8_lampIs_0 rfl rfl ?_
  refine V.getR (k' := 2) (j := 1) (r := 4) hC xcl_8 sh_0 fl_RX8_20 dX8_lampIs_1 (by decide) rfl rfl ?_
  refine V.getR (k' := 4) (j := 1) (r := 7) hC xcl_6 sh_2 fl_RX8_75 dX8_lampIs_4 (by decide) rfl rfl ?_
  refine V.iload_n (r := 8) hC 1 dX8_lampIs_7 rfl rfl ?_
  obtain ⟨q1, hq2, h⟩ := Option.bind_eq_some_iff.mp h
  try dsimp only at h
  refine V.invVi (as := [.inl a0]) (st := []) (r := 11) hC (met2_stands (by decide) hq2) yv_X2_stands ml_RX8_79 sh_4 rfl rfl dX8_lampIs_8 (by decide) rfl rfl rfl rfl ?_
  refine V.if_eq (tgt := 29) (r := 14) hC dX8_lampIs_11 (by decide) rfl (fun c3 => ?_) (fun c3 => ?_)
  · rw [if_pos c3] at h
    refine V.iconst (r := 30) hC dX8_lampIs_29 ki_m1 rfl ?_
    cases h
    exact hR _ _ dX8_lampIs_30
  · rw [if_neg c3] at h
    refine V.aload_n (r := 15) hC 0 dX8_lampIs_14 rfl rfl ?_
    refine V.getR (k' := 2) (j := 1) (r := 18) hC xcl_8 sh_0 fl_RX8_20 dX8_lampIs_15 (by decide) rfl rfl ?_
    refine V.getR (k' := 4) (j := 1) (r := 21) hC xcl_6 sh_2 fl_RX8_75 dX8_lampIs_18 (by decide) rfl rfl ?_
    refine V.iload_n (r := 22) hC 1 dX8_lampIs_21 rfl rfl ?_
    refine V.iload_n (r := 23) hC 2 dX8_lampIs_22 rfl rfl ?_
    obtain ⟨q4, hq5, h⟩ := Option.bind_eq_some_iff.mp h
    try dsimp only at h
    refine V.invVi (as := [.inl a0, .inl a1]) (st := []) (r := 26) hC (met2_tell (by decide) hq5) yv_X2_tell ml_RX8_202 sh_4 rfl rfl dX8_lampIs_23 (by decide) rfl rfl rfl rfl ?_
    refine V.goto (tgt := 30) hC dX8_lampIs_26 (by decide) ?_
    cases h
    exact hR _ _ dX8_lampIs_30
theorem met8_lampIs {R : Int32 × xMem} {a0 a1 : Int32} {M : xMem} (h : g8_lampIs a0 a1 M = some R) : xMet yX8_lampIs cX8_lampIs 3 (some .int) 2 [.inr 0, .inl a0, .inl a1] M (some R.1) R.2 := xMet.ofI (by decide +kernel) (Nat.le_of_ble_eq_true rfl) fun _ hC hR => v8_lampIs  hC hR h
def g8_led (a0 : Int32) (M : xMem) : Option (Int32 × xMem) :=
Option.bind (g8_isIn a0 (0 : Int32) (18 : Int32) M) fun q1 =>
if (q1.1) = 0 then
(some ((-1 : Int32), q1.2))
else
(if a0 < 0 ∨ 19 ≤ a0.toNatClampNeg then none else
some (q1.2 0 (308 + a0.toNatClampNeg), q1.2))
set_option maxHeartbeats 4000000 in
set_option maxRecDepth 20000 in
theorem v8_led {G : xG} (hC : xC G cX8_led 2 RX8 1) {R : Int32 × xMem} (hR : xRI G cX8_led 2 R) {a0 : Int32} {M : xMem} (h : g8_led a0 M = some R) : V G 2 0 [(0, .inr 0), (1, .inl a0)] [] M := by
  unfold g8_led at h
  refine V.iload_n (r := 1) hC 1 dX8_led_0 rfl rfl ?_
  refine V.iconst (r := 2) hC dX8_led_1 ki_0 rfl ?_
  refine V.bipush (r := 4) hC dX8_led_2 kb_18 rfl ?_
  obtain ⟨q1, hq2, h⟩ := Option.bind_eq_some_iff.mp h
  try dsimp only at h
  refine V.invSi (as := [.inl a0, .inl (0 : Int32), .inl (18 : Int32)]) (st := []) (r := 7) hC (met8_isIn hq2) ys_X8_isIn ml_RX8_59 dX8_led_4 (by decide) rfl rfl rfl rfl ?_
  refine V.if_eq (tgt := 22) (r := 10) hC dX8_led_7 (by decide) rfl (fun c3 => ?_) (fun c3 => ?_)
  · rw [if_pos c3] at h
    refine V.iconst (r := 23) hC dX8_led_22 ki_m1 rfl ?_
    cases h
    exact hR _ _ dX8_led_23
  · rw [if_neg c3] at h
    refine V.aload_n (r := 11) hC 0 dX8_led_10 rfl rfl ?_
    refine V.getR (k' := 2) (j := 1) (r := 14) hC xcl_8 sh_0 fl_RX8_20 dX8_led_11 (by decide) rfl rfl ?_
    refine V.getR (k' := 19) (j := 4) (r := 17) hC xcl_6 sh_2 fl_RX8_203 dX8_led_14 (by decide) rfl rfl ?_
    refine V.iload_n (r := 18) hC 1 dX8_led_17 rfl rfl ?_
    by_cases c4 : a0 < 0 ∨ 19 ≤ a0.toNatClampNeg
    · rw [if_pos c4] at h; cases h
    rw [if_neg c4] at h
    refine V.iald (t := (308 + a0.toNatClampNeg)) (r := 19) hC sh_19 dX8_led_18 c4 rfl rfl ?_
    refine V.goto (tgt := 23) hC dX8_led_19 (by decide) ?_
    cases h
    exact hR _ _ dX8_led_23
theorem met8_led {R : Int32 × xMem} {a0 : Int32} {M : xMem} (h : g8_led a0 M = some R) : xMet yX8_led cX8_led 2 (some .int) 1 [.inr 0, .inl a0] M (some R.1) R.2 := xMet.ofI (by decide +kernel) (Nat.le_of_ble_eq_true rfl) fun _ hC hR => v8_led  hC hR h
def g8_plan (a0 a1 : Int32) (M : xMem) : Option (Int32 × xMem) :=
Option.bind (g8_isIn a0 (0 : Int32) (9999 : Int32) M) fun q1 =>
if (q1.1) = 0 then
(some ((-1 : Int32), q1.2))
else
(Option.bind (g8_isIn a1 (0 : Int32) (2 : Int32) q1.2) fun q4 =>
if (q4.1) = 0 then
(some ((-1 : Int32), q4.2))
else
(Option.bind (g5_weighSets q4.2) fun q7 =>
Option.bind (g5_takeBeers q7) fun q9 =>
Option.bind (g5_planBy a0 q9) fun q11 =>
if a1 = 0 then
(Option.bind (g5_lampsOf (q11.1) q11.2) fun q19 =>
some (q19.1, q19.2))
else
(if a1 = (1 : Int32) then
(Option.bind (g5_costOf (q11.1) q11.2) fun q17 =>
some (q17.1, q17.2))
else
(Option.bind (g5_cameOf (q11.1) q11.2) fun q15 =>
some (q15.1, q15.2)))))
set_option maxHeartbeats 4000000 in
set_option maxRecDepth 20000 in
theorem v8_plan {G : xG} (hC : xC G cX8_plan 4 RX8 8) {R : Int32 × xMem} (hR : xRI G cX8_plan 4 R) {a0 a1 : Int32} {M : xMem} (h : g8_plan a0 a1 M = some R) : V G 4 0 [(0, .inr 0), (1, .inl a0), (2, .inl a1)] [] M := by
  unfold g8_plan at h
  refine V.iload_n (r := 1) hC 1 dX8_plan_0 rfl rfl ?_
  refine V.iconst (r := 2) hC dX8_plan_1 ki_0 rfl ?_
  refine V.sipush (r := 5) hC dX8_plan_2 ks_9999 rfl ?_
  obtain ⟨q1, hq2, h⟩ := Option.bind_eq_some_iff.mp h
  try dsimp only at h
  refine V.invSi (as := [.inl a0, .inl (0 : Int32), .inl (9999 : Int32)]) (st := []) (r := 8) hC (met8_isIn hq2) ys_X8_isIn ml_RX8_59 dX8_plan_5 (by decide) rfl rfl rfl rfl ?_
  refine V.if_eq (tgt := 20) (r := 11) hC dX8_plan_8 (by decide) rfl (fun c3 => ?_) (fun c3 => ?_)
  · rw [if_pos c3] at h
    refine V.iconst (r := 21) hC dX8_plan_20 ki_m1 rfl ?_
    cases h
    exact hR _ _ dX8_plan_21
  · rw [if_neg c3] at h
    refine V.iload_n (r := 12) hC 2 dX8_plan_11 rfl rfl ?_
    refine V.iconst (r := 13) hC dX8_plan_12 ki_0 rfl ?_
    refine V.iconst (r := 14) hC dX8_plan_13 ki_2 rfl ?_
    obtain ⟨q4, hq5, h⟩ := Option.bind_eq_some_iff.mp h
    try dsimp only at h
    refine V.invSi (as := [.inl a1, .inl (0 : Int32), .inl (2 : Int32)]) (st := []) (r := 17) hC (met8_isIn hq5) ys_X8_isIn ml_RX8_59 dX8_plan_14 (by decide) rfl rfl rfl rfl ?_
    refine V.if_ne (tgt := 22) (r := 20) hC dX8_plan_17 (by decide) rfl (fun c6 => ?_) (fun c6 => ?_)
    · rw [if_neg c6] at h
      refine V.aload_n (r := 23) hC 0 dX8_plan_22 rfl rfl ?_
      refine V.getR (k' := 1) (j := 0) (r := 26) hC xcl_8 sh_0 fl_RX8_10 dX8_plan_23 (by decide) rfl rfl ?_
      obtain ⟨q7, hq8, h⟩ := Option.bind_eq_some_iff.mp h
      try dsimp only at h
      refine V.invVv (as := []) (st := []) (r := 29) hC (met5_weighSets hq8) yv_X5_weighSets ml_RX8_206 sh_1 rfl rfl dX8_plan_26 (by decide) rfl rfl rfl rfl ?_
      refine V.aload_n (r := 30) hC 0 dX8_plan_29 rfl rfl ?_
      refine V.getR (k' := 1) (j := 0) (r := 33) hC xcl_8 sh_0 fl_RX8_10 dX8_plan_30 (by decide) rfl rfl ?_
      obtain ⟨q9, hq10, h⟩ := Option.bind_eq_some_iff.mp h
      try dsimp only at h
      refine V.invVv (as := []) (st := []) (r := 36) hC (met5_takeBeers hq10) yv_X5_takeBeers ml_RX8_209 sh_1 rfl rfl dX8_plan_33 (by decide) rfl rfl rfl rfl ?_
      refine V.aload_n (r := 37) hC 0 dX8_plan_36 rfl rfl ?_
      refine V.getR (k' := 1) (j := 0) (r := 40) hC xcl_8 sh_0 fl_RX8_10 dX8_plan_37 (by decide) rfl rfl ?_
      refine V.iload_n (r := 41) hC 1 dX8_plan_40 rfl rfl ?_
      obtain ⟨q11, hq12, h⟩ := Option.bind_eq_some_iff.mp h
      try dsimp only at h
      refine V.invVi (as := [.inl a0]) (st := []) (r := 44) hC (met5_planBy hq12) yv_X5_planBy ml_RX8_212 sh_1 rfl rfl dX8_plan_41 (by decide) rfl rfl rfl rfl ?_
      refine V.ist_n (lv' := [(0, .inr 0), (1, .inl a0), (2, .inl a1), (3, .inl (q11.1))]) (r := 45) hC dX8_plan_44 rfl rfl rfl ?_
      refine V.iload_n (r := 46) hC 2 dX8_plan_45 rfl rfl ?_
      refine V.if_ne (tgt := 58) (r := 49) hC dX8_plan_46 (by decide) rfl (fun c13 => ?_) (fun c13 => ?_)
      · rw [if_neg c13] at h
        refine V.iload_n (r := 59) hC 2 dX8_plan_58 rfl rfl ?_
        refine V.iconst (r := 60) hC dX8_plan_59 ki_1 rfl ?_
        refine V.icmp_ne (tgt := 74) (r := 63) hC dX8_plan_60 (by decide) rfl (fun c14 => ?_) (fun c14 => ?_)
        · rw [if_neg c14] at h
          refine V.aload_n (r := 75) hC 0 dX8_plan_74 rfl rfl ?_
          refine V.getR (k' := 1) (j := 0) (r := 78) hC xcl_8 sh_0 fl_RX8_10 dX8_plan_75 (by decide) rfl rfl ?_
          refine V.iload_n (r := 79) hC 3 dX8_plan_78 rfl rfl ?_
          obtain ⟨q15, hq16, h⟩ := Option.bind_eq_some_iff.mp h
          try dsimp only at h
          refine V.invVi (as := [.inl (q11.1)]) (st := []) (r := 82) hC (met5_cameOf hq16) yv_X5_cameOf ml_RX8_221 sh_1 rfl rfl dX8_plan_79 (by decide) rfl rfl rfl rfl ?_
          cases h
          exact hR _ _ dX8_plan_82
        · rw [if_pos c14] at h
          refine V.aload_n (r := 64) hC 0 dX8_plan_63 rfl rfl ?_
          refine V.getR (k' := 1) (j := 0) (r := 67) hC xcl_8 sh_0 fl_RX8_10 dX8_plan_64 (by decide) rfl rfl ?_
          refine V.iload_n (r := 68) hC 3 dX8_plan_67 rfl rfl ?_
          obtain ⟨q17, hq18, h⟩ := Option.bind_eq_some_iff.mp h
          try dsimp only at h
          refine V.invVi (as := [.inl (q11.1)]) (st := []) (r := 71) hC (met5_costOf hq18) yv_X5_costOf ml_RX8_218 sh_1 rfl rfl dX8_plan_68 (by decide) rfl rfl rfl rfl ?_
          refine V.goto (tgt := 82) hC dX8_plan_71 (by decide) ?_
          cases h
          exact hR _ _ dX8_plan_82
      · rw [if_pos c13] at h
        refine V.aload_n (r := 50) hC 0 dX8_plan_49 rfl rfl ?_
        refine V.getR (k' := 1) (j := 0) (r := 53) hC xcl_8 sh_0 fl_RX8_10 dX8_plan_50 (by decide) rfl rfl ?_
        refine V.iload_n (r := 54) hC 3 dX8_plan_53 rfl rfl ?_
        obtain ⟨q19, hq20, h⟩ := Option.bind_eq_some_iff.mp h
        try dsimp only at h
        refine V.invVi (as := [.inl (q11.1)]) (st := []) (r := 57) hC (met5_lampsOf hq20) yv_X5_lampsOf ml_RX8_215 sh_1 rfl rfl dX8_plan_54 (by decide) rfl rfl rfl rfl ?_
        cases h
        exact hR _ _ dX8_plan_57
    · rw [if_pos c6] at h
      refine V.iconst (r := 21) hC dX8_plan_20 ki_m1 rfl ?_
      cases h
      exact hR _ _ dX8_plan_21
theorem met8_plan {R : Int32 × xMem} {a0 a1 : Int32} {M : xMem} (h : g8_plan a0 a1 M = some R) : xMet yX8_plan cX8_plan 4 (some .int) 8 [.inr 0, .inl a0, .inl a1] M (some R.1) R.2 := xMet.ofI (by decide +kernel) (Nat.le_of_ble_eq_true rfl) fun _ hC hR => v8_plan  hC hR h
def g8_safe (a0 : Int32) (M : xMem) : Option (Int32 × xMem) :=
Option.bind (g8_isIn a0 (0 : Int32) (1 : Int32) M) fun q1 =>
if (q1.1) = 0 then
(some ((-1 : Int32), q1.2))
else
(Option.bind (g5_weighSets q1.2) fun q4 =>
Option.bind (g5_takeBeers q4) fun q6 =>
Option.bind (g5_safeSet q6) fun q8 =>
Option.bind (g5_isSet (q8.1) q8.2) fun q10 =>
if (q10.1) = 0 then
(some ((-2 : Int32), q10.2))
else
(if a0 = 0 then
(Option.bind (g5_lampsOf (q8.1) q10.2) fun q16 =>
some (q16.1, q16.2))
else
(Option.bind (g5_costOf (q8.1) q10.2) fun q14 =>
some (q14.1, q14.2))))
set_option maxHeartbeats 4000000 in
set_option maxRecDepth 20000 in
theorem v8_safe {G : xG} (hC : xC G cX8_safe 3 RX8 8) {R : Int32 × xMem} (hR : xRI G cX8_safe 3 R) {a0 : Int32} {M : xMem} (h : g8_safe a0 M = some R) : V G 3 0 [(0, .inr 0), (1, .inl a0)] [] M := by
  unfold g8_safe at h
  refine V.iload_n (r := 1) hC 1 dX8_safe_0 rfl rfl ?_
  refine V.iconst (r := 2) hC dX8_safe_1 ki_0 rfl ?_
  refine V.iconst (r := 3) hC dX8_safe_2 ki_1 rfl ?_
  obtain ⟨q1, hq2, h⟩ := Option.bind_eq_some_iff.mp h
  try dsimp only at h
  refine V.invSi (as := [.inl a0, .inl (0 : Int32), .inl (1 : Int32)]) (st := []) (r := 6) hC (met8_isIn hq2) ys_X8_isIn ml_RX8_59 dX8_safe_3 (by decide) rfl rfl rfl rfl ?_
  refine V.if_ne (tgt := 11) (r := 9) hC dX8_safe_6 (by decide) rfl (fun c3 => ?_) (fun c3 => ?_)
  · rw [if_neg c3] at h
    refine V.aload_n (r := 12) hC 0 dX8_safe_11 rfl rfl ?_
    refine V.getR (k' := 1) (j := 0) (r := 15) hC xcl_8 sh_0 fl_RX8_10 dX8_safe_12 (by decide) rfl rfl ?_
    obtain ⟨q4, hq5, h⟩ := Option.bind_eq_some_iff.mp h
    try dsimp only at h
    refine V.invVv (as := []) (st := []) (r := 18) hC (met5_weighSets hq5) yv_X5_weighSets ml_RX8_206 sh_1 rfl rfl dX8_safe_15 (by decide) rfl rfl rfl rfl ?_
    refine V.aload_n (r := 19) hC 0 dX8_safe_18 rfl rfl ?_
    refine V.getR (k' := 1) (j := 0) (r := 22) hC xcl_8 sh_0 fl_RX8_10 dX8_safe_19 (by decide) rfl rfl ?_
    obtain ⟨q6, hq7, h⟩ := Option.bind_eq_some_iff.mp h
    try dsimp only at h
    refine V.invVv (as := []) (st := []) (r := 25) hC (met5_takeBeers hq7) yv_X5_takeBeers ml_RX8_209 sh_1 rfl rfl dX8_safe_22 (by decide) rfl rfl rfl rfl ?_
    refine V.aload_n (r := 26) hC 0 dX8_safe_25 rfl rfl ?_
    refine V.getR (k' := 1) (j := 0) (r := 29) hC xcl_8 sh_0 fl_RX8_10 dX8_safe_26 (by decide) rfl rfl ?_
    obtain ⟨q8, hq9, h⟩ := Option.bind_eq_some_iff.mp h
    try dsimp only at h
    refine V.invVi (as := []) (st := []) (r := 32) hC (met5_safeSet hq9) yv_X5_safeSet ml_RX8_224 sh_1 rfl rfl dX8_safe_29 (by decide) rfl rfl rfl rfl ?_
    refine V.ist_n (lv' := [(0, .inr 0), (1, .inl a0), (2, .inl (q8.1))]) (r := 33) hC dX8_safe_32 rfl rfl rfl ?_
    refine V.aload_n (r := 34) hC 0 dX8_safe_33 rfl rfl ?_
    refine V.getR (k' := 1) (j := 0) (r := 37) hC xcl_8 sh_0 fl_RX8_10 dX8_safe_34 (by decide) rfl rfl ?_
    refine V.iload_n (r := 38) hC 2 dX8_safe_37 rfl rfl ?_
    obtain ⟨q10, hq11, h⟩ := Option.bind_eq_some_iff.mp h
    try dsimp only at h
    refine V.invVi (as := [.inl (q8.1)]) (st := []) (r := 41) hC (met5_isSet hq11) yv_X5_isSet ml_RX8_227 sh_1 rfl rfl dX8_safe_38 (by decide) rfl rfl rfl rfl ?_
    refine V.if_ne (tgt := 47) (r := 44) hC dX8_safe_41 (by decide) rfl (fun c12 => ?_) (fun c12 => ?_)
    · rw [if_neg c12] at h
      refine V.iload_n (r := 48) hC 1 dX8_safe_47 rfl rfl ?_
      refine V.if_ne (tgt := 62) (r := 51) hC dX8_safe_48 (by decide) rfl (fun c13 => ?_) (fun c13 => ?_)
      · rw [if_neg c13] at h
        refine V.aload_n (r := 63) hC 0 dX8_safe_62 rfl rfl ?_
        refine V.getR (k' := 1) (j := 0) (r := 66) hC xcl_8 sh_0 fl_RX8_10 dX8_safe_63 (by decide) rfl rfl ?_
        refine V.iload_n (r := 67) hC 2 dX8_safe_66 rfl rfl ?_
        obtain ⟨q14, hq15, h⟩ := Option.bind_eq_some_iff.mp h
        try dsimp only at h
        refine V.invVi (as := [.inl (q8.1)]) (st := []) (r := 70) hC (met5_costOf hq15) yv_X5_costOf ml_RX8_218 sh_1 rfl rfl dX8_safe_67 (by decide) rfl rfl rfl rfl ?_
        cases h
        exact hR _ _ dX8_safe_70
      · rw [if_pos c13] at h
        refine V.aload_n (r := 52) hC 0 dX8_safe_51 rfl rfl ?_
        refine V.getR (k' := 1) (j := 0) (r := 55) hC xcl_8 sh_0 fl_RX8_10 dX8_safe_52 (by decide) rfl rfl ?_
        refine V.iload_n (r := 56) hC 2 dX8_safe_55 rfl rfl ?_
        obtain ⟨q16, hq17, h⟩ := Option.bind_eq_some_iff.mp h
        try dsimp only at h
        refine V.invVi (as := [.inl (q8.1)]) (st := []) (r := 59) hC (met5_lampsOf hq17) yv_X5_lampsOf ml_RX8_215 sh_1 rfl rfl dX8_safe_56 (by decide) rfl rfl rfl rfl ?_
        refine V.goto (tgt := 70) hC dX8_safe_59 (by decide) ?_
        cases h
        exact hR _ _ dX8_safe_70
    · rw [if_pos c12] at h
      refine V.bipush (r := 46) hC dX8_safe_44 kb_m2 rfl ?_
      cases h
      exact hR _ _ dX8_safe_46
  · rw [if_pos c3] at h
    refine V.iconst (r := 10) hC dX8_safe_9 ki_m1 rfl ?_
    cases h
    exact hR _ _ dX8_safe_10
theorem met8_safe {R : Int32 × xMem} {a0 : Int32} {M : xMem} (h : g8_safe a0 M = some R) : xMet yX8_safe cX8_safe 3 (some .int) 8 [.inr 0, .inl a0] M (some R.1) R.2 := xMet.ofI (by decide +kernel) (Nat.le_of_ble_eq_true rfl) fun _ hC hR => v8_safe  hC hR h
def g8_place (a0 a1 : Int32) (M : xMem) : Option (Int32 × xMem) :=
Option.bind (g8_isInnThere a0 M) fun q1 =>
if (q1.1) = 0 then
(some ((-1 : Int32), q1.2))
else
(Option.bind (g8_isIn a1 (0 : Int32) (1 : Int32) q1.2) fun q4 =>
if (q4.1) = 0 then
(some ((-1 : Int32), q4.2))
else
(Option.bind (g5_findPlace a0 q4.2) fun q7 =>
if a1 = 0 then
(some (q7 142 0, q7))
else
(some (q7 144 0, q7))))
set_option maxHeartbeats 4000000 in
set_option maxRecDepth 20000 in
theorem v8_place {G : xG} (hC : xC G cX8_place 3 RX8 8) {R : Int32 × xMem} (hR : xRI G cX8_place 3 R) {a0 a1 : Int32} {M : xMem} (h : g8_place a0 a1 M = some R) : V G 3 0 [(0, .inr 0), (1, .inl a0), (2, .inl a1)] [] M := by
  unfold g8_place at h
  refine V.aload_n (r := 1) hC 0 dX8_place_0 rfl rfl ?_
  refine V.iload_n (r := 2) hC 1 dX8_place_1 rfl rfl ?_
  obtain ⟨q1, hq2, h⟩ := Option.bind_eq_some_iff.mp h
  try dsimp only at h
  refine V.invVi (as := [.inl a0]) (st := []) (r := 5) hC (met8_isInnThere hq2) yv_X8_isInnThere ml_RX8_88 sh_0 rfl rfl dX8_place_2 (by decide) rfl rfl rfl rfl ?_
  refine V.if_eq (tgt := 17) (r := 8) hC dX8_place_5 (by decide) rfl (fun c3 => ?_) (fun c3 => ?_)
  · rw [if_pos c3] at h
    refine V.iconst (r := 18) hC dX8_place_17 ki_m1 rfl ?_
    cases h
    exact hR _ _ dX8_place_18
  · rw [if_neg c3] at h
    refine V.iload_n (r := 9) hC 2 dX8_place_8 rfl rfl ?_
    refine V.iconst (r := 10) hC dX8_place_9 ki_0 rfl ?_
    refine V.iconst (r := 11) hC dX8_place_10 ki_1 rfl ?_
    obtain ⟨q4, hq5, h⟩ := Option.bind_eq_some_iff.mp h
    try dsimp only at h
    refine V.invSi (as := [.inl a1, .inl (0 : Int32), .inl (1 : Int32)]) (st := []) (r := 14) hC (met8_isIn hq5) ys_X8_isIn ml_RX8_59 dX8_place_11 (by decide) rfl rfl rfl rfl ?_
    refine V.if_ne (tgt := 19) (r := 17) hC dX8_place_14 (by decide) rfl (fun c6 => ?_) (fun c6 => ?_)
    · rw [if_neg c6] at h
      refine V.aload_n (r := 20) hC 0 dX8_place_19 rfl rfl ?_
      refine V.getR (k' := 1) (j := 0) (r := 23) hC xcl_8 sh_0 fl_RX8_10 dX8_place_20 (by decide) rfl rfl ?_
      refine V.iload_n (r := 24) hC 1 dX8_place_23 rfl rfl ?_
      obtain ⟨q7, hq8, h⟩ := Option.bind_eq_some_iff.mp h
      try dsimp only at h
      refine V.invVv (as := [.inl a0]) (st := []) (r := 27) hC (met5_findPlace hq8) yv_X5_findPlace ml_RX8_230 sh_1 rfl rfl dX8_place_24 (by decide) rfl rfl rfl rfl ?_
      refine V.iload_n (r := 28) hC 2 dX8_place_27 rfl rfl ?_
      refine V.if_ne (tgt := 41) (r := 31) hC dX8_place_28 (by decide) rfl (fun c9 => ?_) (fun c9 => ?_)
      · rw [if_neg c9] at h
        refine V.aload_n (r := 42) hC 0 dX8_place_41 rfl rfl ?_
        refine V.getR (k' := 1) (j := 0) (r := 45) hC xcl_8 sh_0 fl_RX8_10 dX8_place_42 (by decide) rfl rfl ?_
        refine V.getI (b := 144) (i := 0) (j := 14) (r := 48) hC xcl_5 sh_1 fl_RX8_236 dX8_place_45 (by decide) rfl rfl ?_
        cases h
        exact hR _ _ dX8_place_48
      · rw [if_pos c9] at h
        refine V.aload_n (r := 32) hC 0 dX8_place_31 rfl rfl ?_
        refine V.getR (k' := 1) (j := 0) (r := 35) hC xcl_8 sh_0 fl_RX8_10 dX8_place_32 (by decide) rfl rfl ?_
        refine V.getI (b := 142) (i := 0) (j := 12) (r := 38) hC xcl_5 sh_1 fl_RX8_233 dX8_place_35 (by decide) rfl rfl ?_
        refine V.goto (tgt := 48) hC dX8_place_38 (by decide) ?_
        cases h
        exact hR _ _ dX8_place_48
    · rw [if_pos c6] at h
      refine V.iconst (r := 18) hC dX8_place_17 ki_m1 rfl ?_
      cases h
      exact hR _ _ dX8_place_18
theorem met8_place {R : Int32 × xMem} {a0 a1 : Int32} {M : xMem} (h : g8_place a0 a1 M = some R) : xMet yX8_place cX8_place 3 (some .int) 8 [.inr 0, .inl a0, .inl a1] M (some R.1) R.2 := xMet.ofI (by decide +kernel) (Nat.le_of_ble_eq_true rfl) fun _ hC hR => v8_place  hC hR h
def g8_prices (a0 a1 a2 a3 : Int32) (M : xMem) : Option (Int32 × xMem) :=
Option.bind (g8_isInnThere a0 M) fun q1 =>
if (q1.1) = 0 then
(some ((-3 : Int32), q1.2))
else
(Option.bind (g8_isInnThere a1 q1.2) fun q4 =>
if (q4.1) = 0 then
(some ((-3 : Int32), q4.2))
else
(if a0 = a1 then
(some ((-3 : Int32), q4.2))
else
(Option.bind (g6_isLit 0 a0 q4.2) fun q8 =>
if (q8.1) = 0 then
(Option.bind (g6_isLit 0 a1 q8.2) fun q11 =>
if (q11.1) = 0 then
(Option.bind (g8_isIn a2 (0 : Int32) (9999 : Int32) q11.2) fun q14 =>
if (q14.1) = 0 then
(some ((-3 : Int32), q14.2))
else
(Option.bind (g8_isIn a3 (0 : Int32) (2 : Int32) q14.2) fun q17 =>
if (q17.1) = 0 then
(some ((-3 : Int32), q17.2))
else
(Option.bind (g5_weighSets q17.2) fun q20 =>
Option.bind (g5_takeBeers q20) fun q22 =>
Option.bind (g5_fillGains a0 a1 a2 q22) fun q24 =>
Option.bind (g5_findRest q24) fun q26 =>
if a3 = 0 then
(some (q26 141 0, q26))
else
(if (q26 141 0) = 0 then
(some ((-2 : Int32), q26))
else
(if a3 = (1 : Int32) then
(some (((q26 142 0) / (5 : Int32)) + (1 : Int32), q26))
else
(some (((q26 142 0) - (q26 142 0) / (5 : Int32) * (5 : Int32)) + (1 : Int32), q26)))))))
else
(some ((-3 : Int32), q11.2)))
else
(some ((-3 : Int32), q8.2)))))
set_option maxHeartbeats 4000000 in
set_option maxRecDepth 20000 in
theorem v8_prices {G : xG} (hC : xC G cX8_prices 5 RX8 8) {R : Int32 × xMem} (hR : xRI G cX8_prices 5 R) {a0 a1 a2 a3 : Int32} {M : xMem} (h : g8_prices a0 a1 a2 a3 M = some R) : V G 5 0 [(0, .inr 0), (1, .inl a0), (2, .inl a1), (3, .inl a2), (4, .inl a3)] [] M := by
  unfold g8_prices at h
  refine V.aload_n (r := 1) hC 0 dX8_prices_0 rfl rfl ?_
  refine V.iload_n (r := 2) hC 1 dX8_prices_1 rfl rfl ?_
  obtain ⟨q1, hq2, h⟩ := Option.bind_eq_some_iff.mp h
  try dsimp only at h
  refine V.invVi (as := [.inl a0]) (st := []) (r := 5) hC (met8_isInnThere hq2) yv_X8_isInnThere ml_RX8_88 sh_0 rfl rfl dX8_prices_2 (by decide) rfl rfl rfl rfl ?_
  refine V.if_eq (tgt := 43) (r := 8) hC dX8_prices_5 (by decide) rfl (fun c3 => ?_) (fun c3 => ?_)
  · rw [if_pos c3] at h
    refine V.bipush (r := 45) hC dX8_prices_43 kb_m3 rfl ?_
    cases h
    exact hR _ _ dX8_prices_45
  · rw [if_neg c3] at h
    refine V.aload_n (r := 9) hC 0 dX8_prices_8 rfl rfl ?_
    refine V.iload_n (r := 10) hC 2 dX8_prices_9 rfl rfl ?_
    obtain ⟨q4, hq5, h⟩ := Option.bind_eq_some_iff.mp h
    try dsimp only at h
    refine V.invVi (as := [.inl a1]) (st := []) (r := 13) hC (met8_isInnThere hq5) yv_X8_isInnThere ml_RX8_88 sh_0 rfl rfl dX8_prices_10 (by decide) rfl rfl rfl rfl ?_
    refine V.if_eq (tgt := 43) (r := 16) hC dX8_prices_13 (by decide) rfl (fun c6 => ?_) (fun c6 => ?_)
    · rw [if_pos c6] at h
      refine V.bipush (r := 45) hC dX8_prices_43 kb_m3 rfl ?_
      cases h
      exact hR _ _ dX8_prices_45
    · rw [if_neg c6] at h
      refine V.iload_n (r := 17) hC 1 dX8_prices_16 rfl rfl ?_
      refine V.iload_n (r := 18) hC 2 dX8_prices_17 rfl rfl ?_
      refine V.icmp_eq (tgt := 43) (r := 21) hC dX8_prices_18 (by decide) rfl (fun c7 => ?_) (fun c7 => ?_)
      · rw [if_pos c7] at h
        refine V.bipush (r := 45) hC dX8_prices_43 kb_m3 rfl ?_
        cases h
        exact hR _ _ dX8_prices_45
      · rw [if_neg c7] at h
        refine V.aload_n (r := 22) hC 0 dX8_prices_21 rfl rfl ?_
        refine V.getR (k' := 2) (j := 1) (r := 25) hC xcl_8 sh_0 fl_RX8_20 dX8_prices_22 (by decide) rfl rfl ?_
        refine V.iload_n (r := 26) hC 1 dX8_prices_25 rfl rfl ?_
        obtain ⟨q8, hq9, h⟩ := Option.bind_eq_some_iff.mp h
        try dsimp only at h
        refine V.invVi (as := [.inl a0]) (st := []) (r := 29) hC (met6_isLit (by decide) hq9) yv_X6_isLit ml_RX8_160 sh_2 rfl rfl dX8_prices_26 (by decide) rfl rfl rfl rfl ?_
        refine V.if_ne (tgt := 43) (r := 32) hC dX8_prices_29 (by decide) rfl (fun c10 => ?_) (fun c10 => ?_)
        · rw [if_neg c10] at h
          refine V.bipush (r := 45) hC dX8_prices_43 kb_m3 rfl ?_
          cases h
          exact hR _ _ dX8_prices_45
        · rw [if_pos c10] at h
          refine V.aload_n (r := 33) hC 0 dX8_prices_32 rfl rfl ?_
          refine V.getR (k' := 2) (j := 1) (r := 36) hC xcl_8 sh_0 fl_RX8_20 dX8_prices_33 (by decide) rfl rfl ?_
          refine V.iload_n (r := 37) hC 2 dX8_prices_36 rfl rfl ?_
          obtain ⟨q11, hq12, h⟩ := Option.bind_eq_some_iff.mp h
          try dsimp only at h
          refine V.invVi (as := [.inl a1]) (st := []) (r := 40) hC (met6_isLit (by decide) hq12) yv_X6_isLit ml_RX8_160 sh_2 rfl rfl dX8_prices_37 (by decide) rfl rfl rfl rfl ?_
          refine V.if_eq (tgt := 46) (r := 43) hC dX8_prices_40 (by decide) rfl (fun c13 => ?_) (fun c13 => ?_)
          · rw [if_pos c13] at h
            refine V.iload_n (r := 47) hC 3 dX8_prices_46 rfl rfl ?_
            refine V.iconst (r := 48) hC dX8_prices_47 ki_0 rfl ?_
            refine V.sipush (r := 51) hC dX8_prices_48 ks_9999 rfl ?_
            obtain ⟨q14, hq15, h⟩ := Option.bind_eq_some_iff.mp h
            try dsimp only at h
            refine V.invSi (as := [.inl a2, .inl (0 : Int32), .inl (9999 : Int32)]) (st := []) (r := 54) hC (met8_isIn hq15) ys_X8_isIn ml_RX8_59 dX8_prices_51 (by decide) rfl rfl rfl rfl ?_
            refine V.if_eq (tgt := 67) (r := 57) hC dX8_prices_54 (by decide) rfl (fun c16 => ?_) (fun c16 => ?_)
            · rw [if_pos c16] at h
              refine V.bipush (r := 69) hC dX8_prices_67 kb_m3 rfl ?_
              cases h
              exact hR _ _ dX8_prices_69
            · rw [if_neg c16] at h
              refine V.iload (r := 59) hC 4 dX8_prices_57 rfl rfl ?_
              refine V.iconst (r := 60) hC dX8_prices_59 ki_0 rfl ?_
              refine V.iconst (r := 61) hC dX8_prices_60 ki_2 rfl ?_
              obtain ⟨q17, hq18, h⟩ := Option.bind_eq_some_iff.mp h
              try dsimp only at h
              refine V.invSi (as := [.inl a3, .inl (0 : Int32), .inl (2 : Int32)]) (st := []) (r := 64) hC (met8_isIn hq18) ys_X8_isIn ml_RX8_59 dX8_prices_61 (by decide) rfl rfl rfl rfl ?_
              refine V.if_ne (tgt := 70) (r := 67) hC dX8_prices_64 (by decide) rfl (fun c19 => ?_) (fun c19 => ?_)
              · rw [if_neg c19] at h
                refine V.aload_n (r := 71) hC 0 dX8_prices_70 rfl rfl ?_
                refine V.getR (k' := 1) (j := 0) (r := 74) hC xcl_8 sh_0 fl_RX8_10 dX8_prices_71 (by decide) rfl rfl ?_
                obtain ⟨q20, hq21, h⟩ := Option.bind_eq_some_iff.mp h
                try dsimp only at h
                refine V.invVv (as := []) (st := []) (r := 77) hC (met5_weighSets hq21) yv_X5_weighSets ml_RX8_206 sh_1 rfl rfl dX8_prices_74 (by decide) rfl rfl rfl rfl ?_
                refine V.aload_n (r := 78) hC 0 dX8_prices_77 rfl rfl ?_
                refine V.getR (k' := 1) (j := 0) (r := 81) hC xcl_8 sh_0 fl_RX8_10 dX8_prices_78 (by decide) rfl rfl ?_
                obtain ⟨q22, hq23, h⟩ := Option.bind_eq_some_iff.mp h
                try dsimp only at h
                refine V.invVv (as := []) (st := []) (r := 84) hC (met5_takeBeers hq23) yv_X5_takeBeers ml_RX8_209 sh_1 rfl rfl dX8_prices_81 (by decide) rfl rfl rfl rfl ?_
                refine V.aload_n (r := 85) hC 0 dX8_prices_84 rfl rfl ?_
                refine V.getR (k' := 1) (j := 0) (r := 88) hC xcl_8 sh_0 fl_RX8_10 dX8_prices_85 (by decide) rfl rfl ?_
                refine V.iload_n (r := 89) hC 1 dX8_prices_88 rfl rfl ?_
                refine V.iload_n (r := 90) hC 2 dX8_prices_89 rfl rfl ?_
                refine V.iload_n (r := 91) hC 3 dX8_prices_90 rfl rfl ?_
                obtain ⟨q24, hq25, h⟩ := Option.bind_eq_some_iff.mp h
                try dsimp only at h
                refine V.invVv (as := [.inl a0, .inl a1, .inl a2]) (st := []) (r := 94) hC (met5_fillGains hq25) yv_X5_fillGains ml_RX8_239 sh_1 rfl rfl dX8_prices_91 (by decide) rfl rfl rfl rfl ?_
                refine V.aload_n (r := 95) hC 0 dX8_prices_94 rfl rfl ?_
                refine V.getR (k' := 1) (j := 0) (r := 98) hC xcl_8 sh_0 fl_RX8_10 dX8_prices_95 (by decide) rfl rfl ?_
                obtain ⟨q26, hq27, h⟩ := Option.bind_eq_some_iff.mp h
                try dsimp only at h
                refine V.invVv (as := []) (st := []) (r := 101) hC (met5_findRest hq27) yv_X5_findRest ml_RX8_243 sh_1 rfl rfl dX8_prices_98 (by decide) rfl rfl rfl rfl ?_
                refine V.iload (r := 103) hC 4 dX8_prices_101 rfl rfl ?_
                refine V.if_ne (tgt := 114) (r := 106) hC dX8_prices_103 (by decide) rfl (fun c28 => ?_) (fun c28 => ?_)
                · rw [if_neg c28] at h
                  refine V.aload_n (r := 115) hC 0 dX8_prices_114 rfl rfl ?_
                  refine V.getR (k' := 1) (j := 0) (r := 118) hC xcl_8 sh_0 fl_RX8_10 dX8_prices_115 (by decide) rfl rfl ?_
                  refine V.getI (b := 141) (i := 0) (j := 11) (r := 121) hC xcl_5 sh_1 fl_RX8_246 dX8_prices_118 (by decide) rfl rfl ?_
                  refine V.if_ne (tgt := 127) (r := 124) hC dX8_prices_121 (by decide) rfl (fun c29 => ?_) (fun c29 => ?_)
                  · rw [if_neg c29] at h
                    refine V.iload (r := 129) hC 4 dX8_prices_127 rfl rfl ?_
                    refine V.iconst (r := 130) hC dX8_prices_129 ki_1 rfl ?_
                    refine V.icmp_ne (tgt := 147) (r := 133) hC dX8_prices_130 (by decide) rfl (fun c30 => ?_) (fun c30 => ?_)
                    · rw [if_neg c30] at h
                      refine V.aload_n (r := 148) hC 0 dX8_prices_147 rfl rfl ?_
                      refine V.getR (k' := 1) (j := 0) (r := 151) hC xcl_8 sh_0 fl_RX8_10 dX8_prices_148 (by decide) rfl rfl ?_
                      refine V.getI (b := 142) (i := 0) (j := 12) (r := 154) hC xcl_5 sh_1 fl_RX8_233 dX8_prices_151 (by decide) rfl rfl ?_
                      refine V.iconst (r := 155) hC dX8_prices_154 ki_5 rfl ?_
                      refine V.irem (r := 156) hC dX8_prices_155 (by decide) rfl ?_
                      refine V.iconst (r := 157) hC dX8_prices_156 ki_1 rfl ?_
                      refine V.iadd (r := 158) hC dX8_prices_157 rfl ?_
                      cases h
                      exact hR _ _ dX8_prices_158
                    · rw [if_pos c30] at h
                      refine V.aload_n (r := 134) hC 0 dX8_prices_133 rfl rfl ?_
                      refine V.getR (k' := 1) (j := 0) (r := 137) hC xcl_8 sh_0 fl_RX8_10 dX8_prices_134 (by decide) rfl rfl ?_
                      refine V.getI (b := 142) (i := 0) (j := 12) (r := 140) hC xcl_5 sh_1 fl_RX8_233 dX8_prices_137 (by decide) rfl rfl ?_
                      refine V.iconst (r := 141) hC dX8_prices_140 ki_5 rfl ?_
                      refine V.idiv (r := 142) hC dX8_prices_141 (by decide) rfl ?_
                      refine V.iconst (r := 143) hC dX8_prices_142 ki_1 rfl ?_
                      refine V.iadd (r := 144) hC dX8_prices_143 rfl ?_
                      refine V.goto (tgt := 158) hC dX8_prices_144 (by decide) ?_
                      cases h
                      exact hR _ _ dX8_prices_158
                  · rw [if_pos c29] at h
                    refine V.bipush (r := 126) hC dX8_prices_124 kb_m2 rfl ?_
                    cases h
                    exact hR _ _ dX8_prices_126
                · rw [if_pos c28] at h
                  refine V.aload_n (r := 107) hC 0 dX8_prices_106 rfl rfl ?_
                  refine V.getR (k' := 1) (j := 0) (r := 110) hC xcl_8 sh_0 fl_RX8_10 dX8_prices_107 (by decide) rfl rfl ?_
                  refine V.getI (b := 141) (i := 0) (j := 11) (r := 113) hC xcl_5 sh_1 fl_RX8_246 dX8_prices_110 (by decide) rfl rfl ?_
                  cases h
                  exact hR _ _ dX8_prices_113
              · rw [if_pos c19] at h
                refine V.bipush (r := 69) hC dX8_prices_67 kb_m3 rfl ?_
                cases h
                exact hR _ _ dX8_prices_69
          · rw [if_neg c13] at h
            refine V.bipush (r := 45) hC dX8_prices_43 kb_m3 rfl ?_
            cases h
            exact hR _ _ dX8_prices_45
theorem met8_prices {R : Int32 × xMem} {a0 a1 a2 a3 : Int32} {M : xMem} (h : g8_prices a0 a1 a2 a3 M = some R) : xMet yX8_prices cX8_prices 5 (some .int) 8 [.inr 0, .inl a0, .inl a1, .inl a2, .inl a3] M (some R.1) R.2 := xMet.ofI (by decide +kernel) (Nat.le_of_ble_eq_true rfl) fun _ hC hR => v8_prices  hC hR h
def gJ6_bitCount_0f7a4 (a0 : Int32) (M : xMem) : Option (Int32 × xMem) :=
some ((((((((a0 - (((a0.toUInt32 >>> ((1 : Int32).toUInt32 &&& Int32.toUInt32 31)).toInt32) &&& (1431655765 : Int32))) &&& (858993459 : Int32)) + ((((a0 - (((a0.toUInt32 >>> ((1 : Int32).toUInt32 &&& Int32.toUInt32 31)).toInt32) &&& (1431655765 : Int32))).toUInt32 >>> ((2 : Int32).toUInt32 &&& Int32.toUInt32 31)).toInt32) &&& (858993459 : Int32))) + (((((a0 - (((a0.toUInt32 >>> ((1 : Int32).toUInt32 &&& Int32.toUInt32 31)).toInt32) &&& (1431655765 : Int32))) &&& (858993459 : Int32)) + ((((a0 - (((a0.toUInt32 >>> ((1 : Int32).toUInt32 &&& Int32.toUInt32 31)).toInt32) &&& (1431655765 : Int32))).toUInt32 >>> ((2 : Int32).toUInt32 &&& Int32.toUInt32 31)).toInt32) &&& (858993459 : Int32))).toUInt32 >>> ((4 : Int32).toUInt32 &&& Int32.toUInt32 31)).toInt32)) &&& (252645135 : Int32)) + (((((((a0 - (((a0.toUInt32 >>> ((1 : Int32).toUInt32 &&& Int32.toUInt32 31)).toInt32) &&& (1431655765 : Int32))) &&& (858993459 : Int32)) + ((((a0 - (((a0.toUInt32 >>> ((1 : Int32).toUInt32 &&& Int32.toUInt32 31)).toInt32) &&& (1431655765 : Int32))).toUInt32 >>> ((2 : Int32).toUInt32 &&& Int32.toUInt32 31)).toInt32) &&& (858993459 : Int32))) + (((((a0 - (((a0.toUInt32 >>> ((1 : Int32).toUInt32 &&& Int32.toUInt32 31)).toInt32) &&& (1431655765 : Int32))) &&& (858993459 : Int32)) + ((((a0 - (((a0.toUInt32 >>> ((1 : Int32).toUInt32 &&& Int32.toUInt32 31)).toInt32) &&& (1431655765 : Int32))).toUInt32 >>> ((2 : Int32).toUInt32 &&& Int32.toUInt32 31)).toInt32) &&& (858993459 : Int32))).toUInt32 >>> ((4 : Int32).toUInt32 &&& Int32.toUInt32 31)).toInt32)) &&& (252645135 : Int32)).toUInt32 >>> ((8 : Int32).toUInt32 &&& Int32.toUInt32 31)).toInt32)) + ((((((((a0 - (((a0.toUInt32 >>> ((1 : Int32).toUInt32 &&& Int32.toUInt32 31)).toInt32) &&& (1431655765 : Int32))) &&& (858993459 : Int32)) + ((((a0 - (((a0.toUInt32 >>> ((1 : Int32).toUInt32 &&& Int32.toUInt32 31)).toInt32) &&& (1431655765 : Int32))).toUInt32 >>> ((2 : Int32).toUInt32 &&& Int32.toUInt32 31)).toInt32) &&& (858993459 : Int32))) + (((((a0 - (((a0.toUInt32 >>> ((1 : Int32).toUInt32 &&& Int32.toUInt32 31)).toInt32) &&& (1431655765 : Int32))) &&& (858993459 : Int32)) + ((((a0 - (((a0.toUInt32 >>> ((1 : Int32).toUInt32 &&& Int32.toUInt32 31)).toInt32) &&& (1431655765 : Int32))).toUInt32 >>> ((2 : Int32).toUInt32 &&& Int32.toUInt32 31)).toInt32) &&& (858993459 : Int32))).toUInt32 >>> ((4 : Int32).toUInt32 &&& Int32.toUInt32 31)).toInt32)) &&& (252645135 : Int32)) + (((((((a0 - (((a0.toUInt32 >>> ((1 : Int32).toUInt32 &&& Int32.toUInt32 31)).toInt32) &&& (1431655765 : Int32))) &&& (858993459 : Int32)) + ((((a0 - (((a0.toUInt32 >>> ((1 : Int32).toUInt32 &&& Int32.toUInt32 31)).toInt32) &&& (1431655765 : Int32))).toUInt32 >>> ((2 : Int32).toUInt32 &&& Int32.toUInt32 31)).toInt32) &&& (858993459 : Int32))) + (((((a0 - (((a0.toUInt32 >>> ((1 : Int32).toUInt32 &&& Int32.toUInt32 31)).toInt32) &&& (1431655765 : Int32))) &&& (858993459 : Int32)) + ((((a0 - (((a0.toUInt32 >>> ((1 : Int32).toUInt32 &&& Int32.toUInt32 31)).toInt32) &&& (1431655765 : Int32))).toUInt32 >>> ((2 : Int32).toUInt32 &&& Int32.toUInt32 31)).toInt32) &&& (858993459 : Int32))).toUInt32 >>> ((4 : Int32).toUInt32 &&& Int32.toUInt32 31)).toInt32)) &&& (252645135 : Int32)).toUInt32 >>> ((8 : Int32).toUInt32 &&& Int32.toUInt32 31)).toInt32)).toUInt32 >>> ((16 : Int32).toUInt32 &&& Int32.toUInt32 31)).toInt32)) &&& (63 : Int32), M)
set_option maxHeartbeats 4000000 in
set_option maxRecDepth 20000 in
theorem vJ6_bitCount_0f7a4 {G : xG} (hC : xC G cJ6_bitCount_0f7a4 1 RJ6 0) {R : Int32 × xMem} (hR : xRI G cJ6_bitCount_0f7a4 1 R) {a0 : Int32} {M : xMem} (h : gJ6_bitCount_0f7a4 a0 M = some R) : V G 1 0 [(0, .inl a0)] [] M := by
  unfold gJ6_bitCount_0f7a4 at h
  refine V.iload_n (r := 1) hC 0 dJ6_bitCount_0f7a4_0 rfl rfl ?_
  refine V.iload_n (r := 2) hC 0 dJ6_bitCount_0f7a4_1 rfl rfl ?_
  refine V.iconst (r := 3) hC dJ6_bitCount_0f7a4_2 ki_1 rfl ?_
  refine V.iushr (r := 4) hC dJ6_bitCount_0f7a4_3 rfl ?_
  refine V.ldcw (r := 7) hC dJ6_bitCount_0f7a4_4 co_RJ6_265 rfl ?_
  refine V.iand (r := 8) hC dJ6_bitCount_0f7a4_7 rfl ?_
  refine V.isub (r := 9) hC dJ6_bitCount_0f7a4_8 rfl ?_
  refine V.ist_n (lv' := [(0, .inl (a0 - (((a0.toUInt32 >>> ((1 : Int32).toUInt32 &&& Int32.toUInt32 31)).toInt32) &&& (1431655765 : Int32))))]) (r := 10) hC dJ6_bitCount_0f7a4_9 rfl rfl rfl ?_
  refine V.iload_n (r := 11) hC 0 dJ6_bitCount_0f7a4_10 rfl rfl ?_
  refine V.ldcw (r := 14) hC dJ6_bitCount_0f7a4_11 co_RJ6_266 rfl ?_
  refine V.iand (r := 15) hC dJ6_bitCount_0f7a4_14 rfl ?_
  refine V.iload_n (r := 16) hC 0 dJ6_bitCount_0f7a4_15 rfl rfl ?_
  refine V.iconst (r := 17) hC dJ6_bitCount_0f7a4_16 ki_2 rfl ?_
  refine V.iushr (r := 18) hC dJ6_bitCount_0f7a4_17 rfl ?_
  refine V.ldcw (r := 21) hC dJ6_bitCount_0f7a4_18 co_RJ6_266 rfl ?_
  refine V.iand (r := 22) hC dJ6_bitCount_0f7a4_21 rfl ?_
  refine V.iadd (r := 23) hC dJ6_bitCount_0f7a4_22 rfl ?_
  refine V.ist_n (lv' := [(0, .inl (((a0 - (((a0.toUInt32 >>> ((1 : Int32).toUInt32 &&& Int32.toUInt32 31)).toInt32) &&& (1431655765 : Int32))) &&& (858993459 : Int32)) + ((((a0 - (((a0.toUInt32 >>> ((1 : Int32).toUInt32 &&& Int32.toUInt32 31)).toInt32) &&& (1431655765 : Int32))).toUInt32 >>> ((2 : Int32).toUInt32 &&& Int32.toUInt32 31)).toInt32) &&& (858993459 : Int32))))]) (r := 24) hC dJ6_bitCount_0f7a4_23 rfl rfl rfl ?_
  refine V.iload_n (r := 25) hC 0 dJ6_bitCount_0f7a4_24 rfl rfl ?_
  refine V.iload_n (r := 26) hC 0 dJ6_bitCount_0f7a4_25 rfl rfl ?_
  refine V.iconst (r := 27) hC dJ6_bitCount_0f7a4_26 ki_4 rfl ?_
  refine V.iushr (r := 28) hC dJ6_bitCount_0f7a4_27 rfl ?_
  refine V.iadd (r := 29) hC dJ6_bitCount_0f7a4_28 rfl ?_
  refine V.ldcw (r := 32) hC dJ6_bitCount_0f7a4_29 co_RJ6_267 rfl ?_
  refine V.iand (r := 33) hC dJ6_bitCount_0f7a4_32 rfl ?_
  refine V.ist_n (lv' := [(0, .inl (((((a0 - (((a0.toUInt32 >>> ((1 : Int32).toUInt32 &&& Int32.toUInt32 31)).toInt32) &&& (1431655765 : Int32))) &&& (858993459 : Int32)) + ((((a0 - (((a0.toUInt32 >>> ((1 : Int32).toUInt32 &&& Int32.toUInt32 31)).toInt32) &&& (1431655765 : Int32))).toUInt32 >>> ((2 : Int32).toUInt32 &&& Int32.toUInt32 31)).toInt32) &&& (858993459 : Int32))) + (((((a0 - (((a0.toUInt32 >>> ((1 : Int32).toUInt32 &&& Int32.toUInt32 31)).toInt32) &&& (1431655765 : Int32))) &&& (858993459 : Int32)) + ((((a0 - (((a0.toUInt32 >>> ((1 : Int32).toUInt32 &&& Int32.toUInt32 31)).toInt32) &&& (1431655765 : Int32))).toUInt32 >>> ((2 : Int32).toUInt32 &&& Int32.toUInt32 31)).toInt32) &&& (858993459 : Int32))).toUInt32 >>> ((4 : Int32).toUInt32 &&& Int32.toUInt32 31)).toInt32)) &&& (252645135 : Int32)))]) (r := 34) hC dJ6_bitCount_0f7a4_33 rfl rfl rfl ?_
  refine V.iload_n (r := 35) hC 0 dJ6_bitCount_0f7a4_34 rfl rfl ?_
  refine V.iload_n (r := 36) hC 0 dJ6_bitCount_0f7a4_35 rfl rfl ?_
  refine V.bipush (r := 38) hC dJ6_bitCount_0f7a4_36 kb_8 rfl ?_
  refine V.iushr (r := 39) hC dJ6_bitCount_0f7a4_38 rfl ?_
  refine V.iadd (r := 40) hC dJ6_bitCount_0f7a4_39 rfl ?_
  refine V.ist_n (lv' := [(0, .inl ((((((a0 - (((a0.toUInt32 >>> ((1 : Int32).toUInt32 &&& Int32.toUInt32 31)).toInt32) &&& (1431655765 : Int32))) &&& (858993459 : Int32)) + ((((a0 - (((a0.toUInt32 >>> ((1 : Int32).toUInt32 &&& Int32.toUInt32 31)).toInt32) &&& (1431655765 : Int32))).toUInt32 >>> ((2 : Int32).toUInt32 &&& Int32.toUInt32 31)).toInt32) &&& (858993459 : Int32))) + (((((a0 - (((a0.toUInt32 >>> ((1 : Int32).toUInt32 &&& Int32.toUInt32 31)).toInt32) &&& (1431655765 : Int32))) &&& (858993459 : Int32)) + ((((a0 - (((a0.toUInt32 >>> ((1 : Int32).toUInt32 &&& Int32.toUInt32 31)).toInt32) &&& (1431655765 : Int32))).toUInt32 >>> ((2 : Int32).toUInt32 &&& Int32.toUInt32 31)).toInt32) &&& (858993459 : Int32))).toUInt32 >>> ((4 : Int32).toUInt32 &&& Int32.toUInt32 31)).toInt32)) &&& (252645135 : Int32)) + (((((((a0 - (((a0.toUInt32 >>> ((1 : Int32).toUInt32 &&& Int32.toUInt32 31)).toInt32) &&& (1431655765 : Int32))) &&& (858993459 : Int32)) + ((((a0 - (((a0.toUInt32 >>> ((1 : Int32).toUInt32 &&& Int32.toUInt32 31)).toInt32) &&& (1431655765 : Int32))).toUInt32 >>> ((2 : Int32).toUInt32 &&& Int32.toUInt32 31)).toInt32) &&& (858993459 : Int32))) + (((((a0 - (((a0.toUInt32 >>> ((1 : Int32).toUInt32 &&& Int32.toUInt32 31)).toInt32) &&& (1431655765 : Int32))) &&& (858993459 : Int32)) + ((((a0 - (((a0.toUInt32 >>> ((1 : Int32).toUInt32 &&& Int32.toUInt32 31)).toInt32) &&& (1431655765 : Int32))).toUInt32 >>> ((2 : Int32).toUInt32 &&& Int32.toUInt32 31)).toInt32) &&& (858993459 : Int32))).toUInt32 >>> ((4 : Int32).toUInt32 &&& Int32.toUInt32 31)).toInt32)) &&& (252645135 : Int32)).toUInt32 >>> ((8 : Int32).toUInt32 &&& Int32.toUInt32 31)).toInt32)))]) (r := 41) hC dJ6_bitCount_0f7a4_40 rfl rfl rfl ?_
  refine V.iload_n (r := 42) hC 0 dJ6_bitCount_0f7a4_41 rfl rfl ?_
  refine V.iload_n (r := 43) hC 0 dJ6_bitCount_0f7a4_42 rfl rfl ?_
  refine V.bipush (r := 45) hC dJ6_bitCount_0f7a4_43 kb_16 rfl ?_
  refine V.iushr (r := 46) hC dJ6_bitCount_0f7a4_45 rfl ?_
  refine V.iadd (r := 47) hC dJ6_bitCount_0f7a4_46 rfl ?_
  refine V.ist_n (lv' := [(0, .inl (((((((a0 - (((a0.toUInt32 >>> ((1 : Int32).toUInt32 &&& Int32.toUInt32 31)).toInt32) &&& (1431655765 : Int32))) &&& (858993459 : Int32)) + ((((a0 - (((a0.toUInt32 >>> ((1 : Int32).toUInt32 &&& Int32.toUInt32 31)).toInt32) &&& (1431655765 : Int32))).toUInt32 >>> ((2 : Int32).toUInt32 &&& Int32.toUInt32 31)).toInt32) &&& (858993459 : Int32))) + (((((a0 - (((a0.toUInt32 >>> ((1 : Int32).toUInt32 &&& Int32.toUInt32 31)).toInt32) &&& (1431655765 : Int32))) &&& (858993459 : Int32)) + ((((a0 - (((a0.toUInt32 >>> ((1 : Int32).toUInt32 &&& Int32.toUInt32 31)).toInt32) &&& (1431655765 : Int32))).toUInt32 >>> ((2 : Int32).toUInt32 &&& Int32.toUInt32 31)).toInt32) &&& (858993459 : Int32))).toUInt32 >>> ((4 : Int32).toUInt32 &&& Int32.toUInt32 31)).toInt32)) &&& (252645135 : Int32)) + (((((((a0 - (((a0.toUInt32 >>> ((1 : Int32).toUInt32 &&& Int32.toUInt32 31)).toInt32) &&& (1431655765 : Int32))) &&& (858993459 : Int32)) + ((((a0 - (((a0.toUInt32 >>> ((1 : Int32).toUInt32 &&& Int32.toUInt32 31)).toInt32) &&& (1431655765 : Int32))).toUInt32 >>> ((2 : Int32).toUInt32 &&& Int32.toUInt32 31)).toInt32) &&& (858993459 : Int32))) + (((((a0 - (((a0.toUInt32 >>> ((1 : Int32).toUInt32 &&& Int32.toUInt32 31)).toInt32) &&& (1431655765 : Int32))) &&& (858993459 : Int32)) + ((((a0 - (((a0.toUInt32 >>> ((1 : Int32).toUInt32 &&& Int32.toUInt32 31)).toInt32) &&& (1431655765 : Int32))).toUInt32 >>> ((2 : Int32).toUInt32 &&& Int32.toUInt32 31)).toInt32) &&& (858993459 : Int32))).toUInt32 >>> ((4 : Int32).toUInt32 &&& Int32.toUInt32 31)).toInt32)) &&& (252645135 : Int32)).toUInt32 >>> ((8 : Int32).toUInt32 &&& Int32.toUInt32 31)).toInt32)) + ((((((((a0 - (((a0.toUInt32 >>> ((1 : Int32).toUInt32 &&& Int32.toUInt32 31)).toInt32) &&& (1431655765 : Int32))) &&& (858993459 : Int32)) + ((((a0 - (((a0.toUInt32 >>> ((1 : Int32).toUInt32 &&& Int32.toUInt32 31)).toInt32) &&& (1431655765 : Int32))).toUInt32 >>> ((2 : Int32).toUInt32 &&& Int32.toUInt32 31)).toInt32) &&& (858993459 : Int32))) + (((((a0 - (((a0.toUInt32 >>> ((1 : Int32).toUInt32 &&& Int32.toUInt32 31)).toInt32) &&& (1431655765 : Int32))) &&& (858993459 : Int32)) + ((((a0 - (((a0.toUInt32 >>> ((1 : Int32).toUInt32 &&& Int32.toUInt32 31)).toInt32) &&& (1431655765 : Int32))).toUInt32 >>> ((2 : Int32).toUInt32 &&& Int32.toUInt32 31)).toInt32) &&& (858993459 : Int32))).toUInt32 >>> ((4 : Int32).toUInt32 &&& Int32.toUInt32 31)).toInt32)) &&& (252645135 : Int32)) + (((((((a0 - (((a0.toUInt32 >>> ((1 : Int32).toUInt32 &&& Int32.toUInt32 31)).toInt32) &&& (1431655765 : Int32))) &&& (858993459 : Int32)) + ((((a0 - (((a0.toUInt32 >>> ((1 : Int32).toUInt32 &&& Int32.toUInt32 31)).toInt32) &&& (1431655765 : Int32))).toUInt32 >>> ((2 : Int32).toUInt32 &&& Int32.toUInt32 31)).toInt32) &&& (858993459 : Int32))) + (((((a0 - (((a0.toUInt32 >>> ((1 : Int32).toUInt32 &&& Int32.toUInt32 31)).toInt32) &&& (1431655765 : Int32))) &&& (858993459 : Int32)) + ((((a0 - (((a0.toUInt32 >>> ((1 : Int32).toUInt32 &&& Int32.toUInt32 31)).toInt32) &&& (1431655765 : Int32))).toUInt32 >>> ((2 : Int32).toUInt32 &&& Int32.toUInt32 31)).toInt32) &&& (858993459 : Int32))).toUInt32 >>> ((4 : Int32).toUInt32 &&& Int32.toUInt32 31)).toInt32)) &&& (252645135 : Int32)).toUInt32 >>> ((8 : Int32).toUInt32 &&& Int32.toUInt32 31)).toInt32)).toUInt32 >>> ((16 : Int32).toUInt32 &&& Int32.toUInt32 31)).toInt32)))]) (r := 48) hC dJ6_bitCount_0f7a4_47 rfl rfl rfl ?_
  refine V.iload_n (r := 49) hC 0 dJ6_bitCount_0f7a4_48 rfl rfl ?_
  refine V.bipush (r := 51) hC dJ6_bitCount_0f7a4_49 kb_63 rfl ?_
  refine V.iand (r := 52) hC dJ6_bitCount_0f7a4_51 rfl ?_
  cases h
  exact hR _ _ dJ6_bitCount_0f7a4_52
theorem metJ6_bitCount_0f7a4 {R : Int32 × xMem} {a0 : Int32} {M : xMem} (h : gJ6_bitCount_0f7a4 a0 M = some R) : xMet yJ6_bitCount_0f7a4 cJ6_bitCount_0f7a4 1 (some .int) 0 [.inl a0] M (some R.1) R.2 := xMet.ofI (by decide +kernel) (Nat.le_of_ble_eq_true rfl) fun _ hC hR => vJ6_bitCount_0f7a4  hC hR h
def g8_isLeft (a0 : Int32) (M : xMem) : Option (Int32 × xMem) :=
Option.bind (g8_isIn a0 (1 : Int32) (8 : Int32) M) fun q1 =>
if (q1.1) = 0 then
(some ((0 : Int32), q1.2))
else
(if (8 : Int32) < ((q1.2 0 328) + a0) then
(some ((0 : Int32), q1.2))
else
(some ((1 : Int32), q1.2)))
set_option maxHeartbeats 4000000 in
set_option maxRecDepth 20000 in
theorem v8_isLeft {G : xG} (hC : xC G cX8_isLeft 2 RX8 1) {R : Int32 × xMem} (hR : xRZ G cX8_isLeft 2 R) {a0 : Int32} {M : xMem} (h : g8_isLeft a0 M = some R) : V G 2 0 [(0, .inr 0), (1, .inl a0)] [] M := by
  unfold g8_isLeft at h
  refine V.iload_n (r := 1) hC 1 dX8_isLeft_0 rfl rfl ?_
  refine V.iconst (r := 2) hC dX8_isLeft_1 ki_1 rfl ?_
  refine V.bipush (r := 4) hC dX8_isLeft_2 kb_8 rfl ?_
  obtain ⟨q1, hq2, h⟩ := Option.bind_eq_some_iff.mp h
  try dsimp only at h
  refine V.invSi (as := [.inl a0, .inl (1 : Int32), .inl (8 : Int32)]) (st := []) (r := 7) hC (met8_isIn hq2) ys_X8_isIn ml_RX8_59 dX8_isLeft_4 (by decide) rfl rfl rfl rfl ?_
  refine V.if_eq (tgt := 28) (r := 10) hC dX8_isLeft_7 (by decide) rfl (fun c3 => ?_) (fun c3 => ?_)
  · rw [if_pos c3] at h
    refine V.iconst (r := 29) hC dX8_isLeft_28 ki_0 rfl ?_
    cases h
    exact hR _ _ (Or.inl rfl) dX8_isLeft_29
  · rw [if_neg c3] at h
    refine V.aload_n (r := 11) hC 0 dX8_isLeft_10 rfl rfl ?_
    refine V.getR (k' := 2) (j := 1) (r := 14) hC xcl_8 sh_0 fl_RX8_20 dX8_isLeft_11 (by decide) rfl rfl ?_
    refine V.getI (b := 0) (i := 328) (j := 6) (r := 17) hC xcl_6 sh_2 fl_RX8_280 dX8_isLeft_14 (by decide) rfl rfl ?_
    refine V.iload_n (r := 18) hC 1 dX8_isLeft_17 rfl rfl ?_
    refine V.iadd (r := 19) hC dX8_isLeft_18 rfl ?_
    refine V.bipush (r := 21) hC dX8_isLeft_19 kb_8 rfl ?_
    refine V.icmp_gt (tgt := 28) (r := 24) hC dX8_isLeft_21 (by decide) rfl (fun c4 => ?_) (fun c4 => ?_)
    · rw [if_pos c4] at h
      refine V.iconst (r := 29) hC dX8_isLeft_28 ki_0 rfl ?_
      cases h
      exact hR _ _ (Or.inl rfl) dX8_isLeft_29
    · rw [if_neg c4] at h
      refine V.iconst (r := 25) hC dX8_isLeft_24 ki_1 rfl ?_
      refine V.goto (tgt := 29) hC dX8_isLeft_25 (by decide) ?_
      cases h
      exact hR _ _ (Or.inr rfl) dX8_isLeft_29
theorem met8_isLeft {R : Int32 × xMem} {a0 : Int32} {M : xMem} (h : g8_isLeft a0 M = some R) : xMet yX8_isLeft cX8_isLeft 2 (some .boolean) 1 [.inr 0, .inl a0] M (some R.1) R.2 := xMet.ofZ (by decide +kernel) (Nat.le_of_ble_eq_true rfl) fun _ hC hR => v8_isLeft  hC hR h
def g8_whoLit (a0 a1 : Int32) (M : xMem) : Option (Int32 × xMem) :=
Option.bind (g1_onBits 0 M) fun q1 =>
Option.bind (gJ6_bitCount_0f7a4 (q1.1) q1.2) fun q3 =>
Option.bind (g8_isLeft a0 q3.2) fun q5 =>
if (q5.1) = 0 then
(some ((-1 : Int32), q5.2))
else
(Option.bind (g8_isIn a1 (0 : Int32) (2 : Int32) q5.2) fun q8 =>
if (q8.1) = 0 then
(some ((-1 : Int32), q8.2))
else
(if (q3.1) = 0 then
(some ((-1 : Int32), q8.2))
else
(if (q3.1) ≤ (q8.2 121 0) then
(Option.bind (g5_matchSets a0 q8.2) fun q13 =>
mset (upM q13 121 0 (0 : Int32)) fun M15 =>
if a1 = 0 then
(some (M15 141 0, M15))
else
(if (M15 141 0) = 0 then
(some ((-2 : Int32), M15))
else
(if a1 = (1 : Int32) then
(some (M15 142 0, M15))
else
(some (M15 143 0, M15)))))
else
(some ((-1 : Int32), q8.2)))))
set_option maxHeartbeats 4000000 in
set_option maxRecDepth 20000 in
theorem v8_whoLit {G : xG} (hC : xC G cX8_whoLit 4 RX8 8) {R : Int32 × xMem} (hR : xRI G cX8_whoLit 4 R) {a0 a1 : Int32} {M : xMem} (h : g8_whoLit a0 a1 M = some R) : V G 4 0 [(0, .inr 0), (1, .inl a0), (2, .inl a1)] [] M := by
  unfold g8_whoLit at h
  refine V.aload_n (r := 1) hC 0 dX8_whoLit_0 rfl rfl ?_
  refine V.getR (k' := 2) (j := 1) (r := 4) hC xcl_8 sh_0 fl_RX8_20 dX8_whoLit_1 (by decide) rfl rfl ?_
  refine V.getR (k' := 11) (j := 2) (r := 7) hC xcl_6 sh_2 fl_RX8_98 dX8_whoLit_4 (by decide) rfl rfl ?_
  obtain ⟨q1, hq2, h⟩ := Option.bind_eq_some_iff.mp h
  try dsimp only at h
  refine V.invVi (as := []) (st := []) (r := 10) hC (met1_onBits (by decide) hq2) yv_X1_onBits ml_RX8_249 sh_11 rfl rfl dX8_whoLit_7 (by decide) rfl rfl rfl rfl ?_
  obtain ⟨q3, hq4, h⟩ := Option.bind_eq_some_iff.mp h
  try dsimp only at h
  refine V.invSi (as := [.inl (q1.1)]) (st := []) (r := 13) hC (metJ6_bitCount_0f7a4 hq4) ys_J6_bitCount_0f7a4 ml_RX8_252 dX8_whoLit_10 (by decide) rfl rfl rfl rfl ?_
  refine V.ist_n (lv' := [(0, .inr 0), (1, .inl a0), (2, .inl a1), (3, .inl (q3.1))]) (r := 14) hC dX8_whoLit_13 rfl rfl rfl ?_
  refine V.aload_n (r := 15) hC 0 dX8_whoLit_14 rfl rfl ?_
  refine V.iload_n (r := 16) hC 1 dX8_whoLit_15 rfl rfl ?_
  obtain ⟨q5, hq6, h⟩ := Option.bind_eq_some_iff.mp h
  try dsimp only at h
  refine V.invVi (as := [.inl a0]) (st := []) (r := 19) hC (met8_isLeft hq6) yv_X8_isLeft ml_RX8_257 sh_0 rfl rfl dX8_whoLit_16 (by decide) rfl rfl rfl rfl ?_
  refine V.if_eq (tgt := 46) (r := 22) hC dX8_whoLit_19 (by decide) rfl (fun c7 => ?_) (fun c7 => ?_)
  · rw [if_pos c7] at h
    refine V.iconst (r := 47) hC dX8_whoLit_46 ki_m1 rfl ?_
    cases h
    exact hR _ _ dX8_whoLit_47
  · rw [if_neg c7] at h
    refine V.iload_n (r := 23) hC 2 dX8_whoLit_22 rfl rfl ?_
    refine V.iconst (r := 24) hC dX8_whoLit_23 ki_0 rfl ?_
    refine V.iconst (r := 25) hC dX8_whoLit_24 ki_2 rfl ?_
    obtain ⟨q8, hq9, h⟩ := Option.bind_eq_some_iff.mp h
    try dsimp only at h
    refine V.invSi (as := [.inl a1, .inl (0 : Int32), .inl (2 : Int32)]) (st := []) (r := 28) hC (met8_isIn hq9) ys_X8_isIn ml_RX8_59 dX8_whoLit_25 (by decide) rfl rfl rfl rfl ?_
    refine V.if_eq (tgt := 46) (r := 31) hC dX8_whoLit_28 (by decide) rfl (fun c10 => ?_) (fun c10 => ?_)
    · rw [if_pos c10] at h
      refine V.iconst (r := 47) hC dX8_whoLit_46 ki_m1 rfl ?_
      cases h
      exact hR _ _ dX8_whoLit_47
    · rw [if_neg c10] at h
      refine V.iload_n (r := 32) hC 3 dX8_whoLit_31 rfl rfl ?_
      refine V.if_eq (tgt := 46) (r := 35) hC dX8_whoLit_32 (by decide) rfl (fun c11 => ?_) (fun c11 => ?_)
      · rw [if_pos c11] at h
        refine V.iconst (r := 47) hC dX8_whoLit_46 ki_m1 rfl ?_
        cases h
        exact hR _ _ dX8_whoLit_47
      · rw [if_neg c11] at h
        refine V.aload_n (r := 36) hC 0 dX8_whoLit_35 rfl rfl ?_
        refine V.getR (k' := 127) (j := 5) (r := 39) hC xcl_8 sh_0 fl_RX8_44 dX8_whoLit_36 (by decide) rfl rfl ?_
        refine V.getI (b := 121) (i := 0) (j := 1) (r := 42) hC xcl_7 sh_127 fl_RX8_128 dX8_whoLit_39 (by decide) rfl rfl ?_
        refine V.iload_n (r := 43) hC 3 dX8_whoLit_42 rfl rfl ?_
        refine V.icmp_ge (tgt := 48) (r := 46) hC dX8_whoLit_43 (by decide) rfl (fun c12 => ?_) (fun c12 => ?_)
        · rw [if_pos c12] at h
          refine V.aload_n (r := 49) hC 0 dX8_whoLit_48 rfl rfl ?_
          refine V.getR (k' := 1) (j := 0) (r := 52) hC xcl_8 sh_0 fl_RX8_10 dX8_whoLit_49 (by decide) rfl rfl ?_
          refine V.iload_n (r := 53) hC 1 dX8_whoLit_52 rfl rfl ?_
          refine V.aload_n (r := 54) hC 0 dX8_whoLit_53 rfl rfl ?_
          refine V.getR (k' := 127) (j := 5) (r := 57) hC xcl_8 sh_0 fl_RX8_44 dX8_whoLit_54 (by decide) rfl rfl ?_
          obtain ⟨q13, hq14, h⟩ := Option.bind_eq_some_iff.mp h
          try dsimp only at h
          refine V.invVv (as := [.inl a0, .inr 127]) (st := []) (r := 60) hC (met5_matchSets hq14) yv_X5_matchSets ml_RX8_260 sh_1 rfl rfl dX8_whoLit_57 (by decide) rfl rfl rfl rfl ?_
          refine V.aload_n (r := 61) hC 0 dX8_whoLit_60 rfl rfl ?_
          refine V.getR (k' := 127) (j := 5) (r := 64) hC xcl_8 sh_0 fl_RX8_44 dX8_whoLit_61 (by decide) rfl rfl ?_
          refine V.iconst (r := 65) hC dX8_whoLit_64 ki_0 rfl ?_
          rw [mset_eq] at h
          refine V.putI (b := 121) (i := 0) (j := 1) (ty := .int) (r := 68) hC xcl_7 xcp_7 sh_127 fl_RX8_128 dX8_whoLit_65 (by decide) rfl rfl (by decide +kernel) rfl rfl rfl ?_
          generalize upM q13 121 0 (0 : Int32) = M15 at h ⊢
          refine V.iload_n (r := 69) hC 2 dX8_whoLit_68 rfl rfl ?_
          refine V.if_ne (tgt := 80) (r := 72) hC dX8_whoLit_69 (by decide) rfl (fun c16 => ?_) (fun c16 => ?_)
          · rw [if_neg c16] at h
            refine V.aload_n (r := 81) hC 0 dX8_whoLit_80 rfl rfl ?_
            refine V.getR (k' := 1) (j := 0) (r := 84) hC xcl_8 sh_0 fl_RX8_10 dX8_whoLit_81 (by decide) rfl rfl ?_
            refine V.getI (b := 141) (i := 0) (j := 11) (r := 87) hC xcl_5 sh_1 fl_RX8_246 dX8_whoLit_84 (by decide) rfl rfl ?_
            refine V.if_ne (tgt := 93) (r := 90) hC dX8_whoLit_87 (by decide) rfl (fun c17 => ?_) (fun c17 => ?_)
            · rw [if_neg c17] at h
              refine V.iload_n (r := 94) hC 2 dX8_whoLit_93 rfl rfl ?_
              refine V.iconst (r := 95) hC dX8_whoLit_94 ki_1 rfl ?_
              refine V.icmp_ne (tgt := 108) (r := 98) hC dX8_whoLit_95 (by decide) rfl (fun c18 => ?_) (fun c18 => ?_)
              · rw [if_neg c18] at h
                refine V.aload_n (r := 109) hC 0 dX8_whoLit_108 rfl rfl ?_
                refine V.getR (k' := 1) (j := 0) (r := 112) hC xcl_8 sh_0 fl_RX8_10 dX8_whoLit_109 (by decide) rfl rfl ?_
                refine V.getI (b := 143) (i := 0) (j := 13) (r := 115) hC xcl_5 sh_1 fl_RX8_264 dX8_whoLit_112 (by decide) rfl rfl ?_
                cases h
                exact hR _ _ dX8_whoLit_115
              · rw [if_pos c18] at h
                refine V.aload_n (r := 99) hC 0 dX8_whoLit_98 rfl rfl ?_
                refine V.getR (k' := 1) (j := 0) (r := 102) hC xcl_8 sh_0 fl_RX8_10 dX8_whoLit_99 (by decide) rfl rfl ?_
                refine V.getI (b := 142) (i := 0) (j := 12) (r := 105) hC xcl_5 sh_1 fl_RX8_233 dX8_whoLit_102 (by decide) rfl rfl ?_
                refine V.goto (tgt := 115) hC dX8_whoLit_105 (by decide) ?_
                cases h
                exact hR _ _ dX8_whoLit_115
            · rw [if_pos c17] at h
              refine V.bipush (r := 92) hC dX8_whoLit_90 kb_m2 rfl ?_
              cases h
              exact hR _ _ dX8_whoLit_92
          · rw [if_pos c16] at h
            refine V.aload_n (r := 73) hC 0 dX8_whoLit_72 rfl rfl ?_
            refine V.getR (k' := 1) (j := 0) (r := 76) hC xcl_8 sh_0 fl_RX8_10 dX8_whoLit_73 (by decide) rfl rfl ?_
            refine V.getI (b := 141) (i := 0) (j := 11) (r := 79) hC xcl_5 sh_1 fl_RX8_246 dX8_whoLit_76 (by decide) rfl rfl ?_
            cases h
            exact hR _ _ dX8_whoLit_79
        · rw [if_neg c12] at h
          refine V.iconst (r := 47) hC dX8_whoLit_46 ki_m1 rfl ?_
          cases h
          exact hR _ _ dX8_whoLit_47
theorem met8_whoLit {R : Int32 × xMem} {a0 a1 : Int32} {M : xMem} (h : g8_whoLit a0 a1 M = some R) : xMet yX8_whoLit cX8_whoLit 4 (some .int) 8 [.inr 0, .inl a0, .inl a1] M (some R.1) R.2 := xMet.ofI (by decide +kernel) (Nat.le_of_ble_eq_true rfl) fun _ hC hR => v8_whoLit  hC hR h
def g8_where (a0 a1 a2 a3 : Int32) (M : xMem) : Option (Int32 × xMem) :=
Option.bind (g1_isOn 0 a0 M) fun q1 =>
if (q1.1) = 0 then
(some ((-1 : Int32), q1.2))
else
(Option.bind (g8_isLeft a1 q1.2) fun q4 =>
if (q4.1) = 0 then
(some ((-1 : Int32), q4.2))
else
(Option.bind (g8_isIn a2 (0 : Int32) (195 : Int32) q4.2) fun q7 =>
if (q7.1) = 0 then
(some ((-1 : Int32), q7.2))
else
(Option.bind (g8_isIn a3 (0 : Int32) (1 : Int32) q7.2) fun q10 =>
if (q10.1) = 0 then
(some ((-1 : Int32), q10.2))
else
(Option.bind (g5_findWhere a0 a1 a2 q10.2) fun q13 =>
if a3 = 0 then
(some (q13 141 0, q13))
else
(if (q13 141 0) = 0 then
(some ((-2 : Int32), q13))
else
(some (q13 142 0, q13)))))))
set_option maxHeartbeats 4000000 in
set_option maxRecDepth 20000 in
theorem v8_where {G : xG} (hC : xC G cX8_where 5 RX8 8) {R : Int32 × xMem} (hR : xRI G cX8_where 5 R) {a0 a1 a2 a3 : Int32} {M : xMem} (h : g8_where a0 a1 a2 a3 M = some R) : V G 5 0 [(0, .inr 0), (1, .inl a0), (2, .inl a1), (3, .inl a2), (4, .inl a3)] [] M := by
  unfold g8_where at h
  refine V.aload_n (r := 1) hC 0 dX8_where_0 rfl rfl ?_
  refine V.getR (k' := 2) (j := 1) (r := 4) hC xcl_8 sh_0 fl_RX8_20 dX8_where_1 (by decide) rfl rfl ?_
  refine V.getR (k' := 11) (j := 2) (r := 7) hC xcl_6 sh_2 fl_RX8_98 dX8_where_4 (by decide) rfl rfl ?_
  refine V.iload_n (r := 8) hC 1 dX8_where_7 rfl rfl ?_
  obtain ⟨q1, hq2, h⟩ := Option.bind_eq_some_iff.mp h
  try dsimp only at h
  refine V.invVi (as := [.inl a0]) (st := []) (r := 11) hC (met1_isOn (by decide) hq2) yv_X1_isOn ml_RX8_163 sh_11 rfl rfl dX8_where_8 (by decide) rfl rfl rfl rfl ?_
  refine V.if_eq (tgt := 43) (r := 14) hC dX8_where_11 (by decide) rfl (fun c3 => ?_) (fun c3 => ?_)
  · rw [if_pos c3] at h
    refine V.iconst (r := 44) hC dX8_where_43 ki_m1 rfl ?_
    cases h
    exact hR _ _ dX8_where_44
  · rw [if_neg c3] at h
    refine V.aload_n (r := 15) hC 0 dX8_where_14 rfl rfl ?_
    refine V.iload_n (r := 16) hC 2 dX8_where_15 rfl rfl ?_
    obtain ⟨q4, hq5, h⟩ := Option.bind_eq_some_iff.mp h
    try dsimp only at h
    refine V.invVi (as := [.inl a1]) (st := []) (r := 19) hC (met8_isLeft hq5) yv_X8_isLeft ml_RX8_257 sh_0 rfl rfl dX8_where_16 (by decide) rfl rfl rfl rfl ?_
    refine V.if_eq (tgt := 43) (r := 22) hC dX8_where_19 (by decide) rfl (fun c6 => ?_) (fun c6 => ?_)
    · rw [if_pos c6] at h
      refine V.iconst (r := 44) hC dX8_where_43 ki_m1 rfl ?_
      cases h
      exact hR _ _ dX8_where_44
    · rw [if_neg c6] at h
      refine V.iload_n (r := 23) hC 3 dX8_where_22 rfl rfl ?_
      refine V.iconst (r := 24) hC dX8_where_23 ki_0 rfl ?_
      refine V.sipush (r := 27) hC dX8_where_24 ks_195 rfl ?_
      obtain ⟨q7, hq8, h⟩ := Option.bind_eq_some_iff.mp h
      try dsimp only at h
      refine V.invSi (as := [.inl a2, .inl (0 : Int32), .inl (195 : Int32)]) (st := []) (r := 30) hC (met8_isIn hq8) ys_X8_isIn ml_RX8_59 dX8_where_27 (by decide) rfl rfl rfl rfl ?_
      refine V.if_eq (tgt := 43) (r := 33) hC dX8_where_30 (by decide) rfl (fun c9 => ?_) (fun c9 => ?_)
      · rw [if_pos c9] at h
        refine V.iconst (r := 44) hC dX8_where_43 ki_m1 rfl ?_
        cases h
        exact hR _ _ dX8_where_44
      · rw [if_neg c9] at h
        refine V.iload (r := 35) hC 4 dX8_where_33 rfl rfl ?_
        refine V.iconst (r := 36) hC dX8_where_35 ki_0 rfl ?_
        refine V.iconst (r := 37) hC dX8_where_36 ki_1 rfl ?_
        obtain ⟨q10, hq11, h⟩ := Option.bind_eq_some_iff.mp h
        try dsimp only at h
        refine V.invSi (as := [.inl a3, .inl (0 : Int32), .inl (1 : Int32)]) (st := []) (r := 40) hC (met8_isIn hq11) ys_X8_isIn ml_RX8_59 dX8_where_37 (by decide) rfl rfl rfl rfl ?_
        refine V.if_ne (tgt := 45) (r := 43) hC dX8_where_40 (by decide) rfl (fun c12 => ?_) (fun c12 => ?_)
        · rw [if_neg c12] at h
          refine V.aload_n (r := 46) hC 0 dX8_where_45 rfl rfl ?_
          refine V.getR (k' := 1) (j := 0) (r := 49) hC xcl_8 sh_0 fl_RX8_10 dX8_where_46 (by decide) rfl rfl ?_
          refine V.iload_n (r := 50) hC 1 dX8_where_49 rfl rfl ?_
          refine V.iload_n (r := 51) hC 2 dX8_where_50 rfl rfl ?_
          refine V.iload_n (r := 52) hC 3 dX8_where_51 rfl rfl ?_
          obtain ⟨q13, hq14, h⟩ := Option.bind_eq_some_iff.mp h
          try dsimp only at h
          refine V.invVv (as := [.inl a0, .inl a1, .inl a2]) (st := []) (r := 55) hC (met5_findWhere hq14) yv_X5_findWhere ml_RX8_267 sh_1 rfl rfl dX8_where_52 (by decide) rfl rfl rfl rfl ?_
          refine V.iload (r := 57) hC 4 dX8_where_55 rfl rfl ?_
          refine V.if_ne (tgt := 68) (r := 60) hC dX8_where_57 (by decide) rfl (fun c15 => ?_) (fun c15 => ?_)
          · rw [if_neg c15] at h
            refine V.aload_n (r := 69) hC 0 dX8_where_68 rfl rfl ?_
            refine V.getR (k' := 1) (j := 0) (r := 72) hC xcl_8 sh_0 fl_RX8_10 dX8_where_69 (by decide) rfl rfl ?_
            refine V.getI (b := 141) (i := 0) (j := 11) (r := 75) hC xcl_5 sh_1 fl_RX8_246 dX8_where_72 (by decide) rfl rfl ?_
            refine V.if_ne (tgt := 83) (r := 78) hC dX8_where_75 (by decide) rfl (fun c16 => ?_) (fun c16 => ?_)
            · rw [if_neg c16] at h
              refine V.aload_n (r := 84) hC 0 dX8_where_83 rfl rfl ?_
              refine V.getR (k' := 1) (j := 0) (r := 87) hC xcl_8 sh_0 fl_RX8_10 dX8_where_84 (by decide) rfl rfl ?_
              refine V.getI (b := 142) (i := 0) (j := 12) (r := 90) hC xcl_5 sh_1 fl_RX8_233 dX8_where_87 (by decide) rfl rfl ?_
              cases h
              exact hR _ _ dX8_where_90
            · rw [if_pos c16] at h
              refine V.bipush (r := 80) hC dX8_where_78 kb_m2 rfl ?_
              refine V.goto (tgt := 90) hC dX8_where_80 (by decide) ?_
              cases h
              exact hR _ _ dX8_where_90
          · rw [if_pos c15] at h
            refine V.aload_n (r := 61) hC 0 dX8_where_60 rfl rfl ?_
            refine V.getR (k' := 1) (j := 0) (r := 64) hC xcl_8 sh_0 fl_RX8_10 dX8_where_61 (by decide) rfl rfl ?_
            refine V.getI (b := 141) (i := 0) (j := 11) (r := 67) hC xcl_5 sh_1 fl_RX8_246 dX8_where_64 (by decide) rfl rfl ?_
            cases h
            exact hR _ _ dX8_where_67
        · rw [if_pos c12] at h
          refine V.iconst (r := 44) hC dX8_where_43 ki_m1 rfl ?_
          cases h
          exact hR _ _ dX8_where_44
theorem met8_where {R : Int32 × xMem} {a0 a1 a2 a3 : Int32} {M : xMem} (h : g8_where a0 a1 a2 a3 M = some R) : xMet yX8_where cX8_where 5 (some .int) 8 [.inr 0, .inl a0, .inl a1, .inl a2, .inl a3] M (some R.1) R.2 := xMet.ofI (by decide +kernel) (Nat.le_of_ble_eq_true rfl) fun _ hC hR => v8_where  hC hR h
def g8_commonDivisor_b7 : Nat → Int32 → Int32 → Int32 → xMem → Option (Int32 × xMem)
  | 0, _, _, _, _ => none
  | n + 1, x2, x3, x4, M => 
    (if (100 : Int32) ≤ x4 then
    (some (x2, M))
    else
    (if x3 = 0 then
    (some (x2, M))
    else
    (if x3 = 0 then none else
    g8_commonDivisor_b7 n x3 (x2 - x2 / x3 * x3) (x4 + (1 : Int32)) M)))
set_option maxHeartbeats 4000000 in
set_option maxRecDepth 20000 in
theorem v8_commonDivisor_b7 {G : xG} (hC : xC G cX8_commonDivisor 6 RX8 0) {R : Int32 × xMem} (hR : xRI G cX8_commonDivisor 6 R) : ∀ (n : Nat) (x2 x3 x4 : Int32) (M : xMem), g8_commonDivisor_b7 n x2 x3 x4 M = some R → V G 6 7 [(2, .inl x2), (3, .inl x3), (4, .inl x4)] [] M := by
  intro n
  induction n with
  | zero => intro x2 x3 x4 M h; rw [g8_commonDivisor_b7] at h; cases h
  | succ n ih =>
    intro x2 x3 x4 M h
    rw [g8_commonDivisor_b7] at h
    refine V.iload (r := 9) hC 2 dX8_commonDivisor_7 rfl rfl ?_
    refine V.bipush (r := 11) hC dX8_commonDivisor_9 kb_100 rfl ?_
    refine V.icmp_ge (tgt := 34) (r := 14) hC dX8_commonDivisor_11 (by decide) rfl (fun c1 => ?_) (fun c1 => ?_)
    · rw [if_pos c1] at h
      refine V.iload_n (r := 35) hC 0 dX8_commonDivisor_34 rfl rfl ?_
      cases h
      exact hR _ _ dX8_commonDivisor_35
    · rw [if_neg c1] at h
      refine V.iload_n (r := 15) hC 1 dX8_commonDivisor_14 rfl rfl ?_
      refine V.if_eq (tgt := 34) (r := 18) hC dX8_commonDivisor_15 (by decide) rfl (fun c2 => ?_) (fun c2 => ?_)
      · rw [if_pos c2] at h
        refine V.iload_n (r := 35) hC 0 dX8_commonDivisor_34 rfl rfl ?_
        cases h
        exact hR _ _ dX8_commonDivisor_35
      · rw [if_neg c2] at h
        refine V.iload_n (r := 19) hC 0 dX8_commonDivisor_18 rfl rfl ?_
        refine V.iload_n (r := 20) hC 1 dX8_commonDivisor_19 rfl rfl ?_
        by_cases c3 : x3 = 0
        · rw [if_pos c3] at h; cases h
        rw [if_neg c3] at h
        refine V.irem (r := 21) hC dX8_commonDivisor_20 c3 rfl ?_
        refine V.ist (lv' := [(2, .inl x2), (3, .inl x3), (4, .inl x4), (5, .inl (x2 - x2 / x3 * x3))]) (r := 23) hC dX8_commonDivisor_21 rfl rfl rfl ?_
        refine V.iload_n (r := 24) hC 1 dX8_commonDivisor_23 rfl rfl ?_
        refine V.ist_n (lv' := [(2, .inl x3), (3, .inl x3), (4, .inl x4), (5, .inl (x2 - x2 / x3 * x3))]) (r := 25) hC dX8_commonDivisor_24 rfl rfl rfl ?_
        refine V.iload (r := 27) hC 3 dX8_commonDivisor_25 rfl rfl ?_
        refine V.ist_n (lv' := [(2, .inl x3), (3, .inl (x2 - x2 / x3 * x3)), (4, .inl x4), (5, .inl (x2 - x2 / x3 * x3))]) (r := 28) hC dX8_commonDivisor_27 rfl rfl rfl ?_
        refine V.inc (lv' := [(2, .inl x3), (3, .inl (x2 - x2 / x3 * x3)), (4, .inl (x4 + (1 : Int32))), (5, .inl (x2 - x2 / x3 * x3))]) (r := 31) hC 2 dX8_commonDivisor_28 rfl ki_1 rfl rfl rfl ?_
        refine V.goto (tgt := 7) hC dX8_commonDivisor_31 (by decide) ?_
        refine V.pick (lv' := [(2, .inl x3), (3, .inl (x2 - x2 / x3 * x3)), (4, .inl (x4 + (1 : Int32)))]) [0, 1, 2] rfl ?_
        exact ih _ _ _ _ h
def g8_commonDivisor (a0 a1 : Int32) (M : xMem) : Option (Int32 × xMem) :=
g8_commonDivisor_b7 5000 a0 a1 (0 : Int32) M
set_option maxHeartbeats 4000000 in
set_option maxRecDepth 20000 in
theorem v8_commonDivisor {G : xG} (hC : xC G cX8_commonDivisor 6 RX8 0) {R : Int32 × xMem} (hR : xRI G cX8_commonDivisor 6 R) {a0 a1 : Int32} {M : xMem} (h : g8_commonDivisor a0 a1 M = some R) : V G 6 0 [(0, .inl a0), (1, .inl a1)] [] M := by
  unfold g8_commonDivisor at h
  refine V.iload_n (r := 1) hC 0 dX8_commonDivisor_0 rfl rfl ?_
  refine V.ist_n (lv' := [(0, .inl a0), (1, .inl a1), (2, .inl a0)]) (r := 2) hC dX8_commonDivisor_1 rfl rfl rfl ?_
  refine V.iload_n (r := 3) hC 1 dX8_commonDivisor_2 rfl rfl ?_
  refine V.ist_n (lv' := [(0, .inl a0), (1, .inl a1), (2, .inl a0), (3, .inl a1)]) (r := 4) hC dX8_commonDivisor_3 rfl rfl rfl ?_
  refine V.iconst (r := 5) hC dX8_commonDivisor_4 ki_0 rfl ?_
  refine V.ist (lv' := [(0, .inl a0), (1, .inl a1), (2, .inl a0), (3, .inl a1), (4, .inl (0 : Int32))]) (r := 7) hC dX8_commonDivisor_5 rfl rfl rfl ?_
  refine V.pick (lv' := [(2, .inl a0), (3, .inl a1), (4, .inl (0 : Int32))]) [2, 3, 4] rfl ?_
  exact v8_commonDivisor_b7  hC hR  5000 _ _ _ _ h
theorem met8_commonDivisor {R : Int32 × xMem} {a0 a1 : Int32} {M : xMem} (h : g8_commonDivisor a0 a1 M = some R) : xMet yX8_commonDivisor cX8_commonDivisor 6 (some .int) 0 [.inl a0, .inl a1] M (some R.1) R.2 := xMet.ofI (by decide +kernel) (Nat.le_of_ble_eq_true rfl) fun _ hC hR => v8_commonDivisor  hC hR h
def g8_odds_b94 (x6 s0 : Int32) (M : xMem) : Option (Int32 × xMem) :=
if x6 = 0 then none else
some (s0 / x6, M)
set_option maxHeartbeats 4000000 in
set_option maxRecDepth 20000 in
theorem v8_odds_b94 {G : xG} (hC : xC G cX8_odds 7 RX8 26) {R : Int32 × xMem} (hR : xRI G cX8_odds 7 R) (x6 s0 : Int32) (M : xMem) (h : g8_odds_b94 x6 s0 M = some R) : V G 7 94 [(6, .inl x6)] [.inl s0] M := by
  unfold g8_odds_b94 at h
  refine V.iload (r := 96) hC 0 dX8_odds_94 rfl rfl ?_
  by_cases c18 : x6 = 0
  · rw [if_pos c18] at h; cases h
  rw [if_neg c18] at h
  refine V.idiv (r := 97) hC dX8_odds_96 c18 rfl ?_
  cases h
  exact hR _ _ dX8_odds_97
def g8_odds_b65 (x3 x4 s0 : Int32) (M : xMem) : Option (Int32 × xMem) :=
Option.bind (g8_commonDivisor x4 s0 M) fun q14 =>
if (q14.1) = 0 then
(some ((-1 : Int32), q14.2))
else
(if x3 = 0 then
(g8_odds_b94 (q14.1) x4 q14.2)
else
(g8_odds_b94 (q14.1) s0 q14.2))
set_option maxHeartbeats 4000000 in
set_option maxRecDepth 20000 in
theorem v8_odds_b65 {G : xG} (hC : xC G cX8_odds 7 RX8 26) {R : Int32 × xMem} (hR : xRI G cX8_odds 7 R) (x3 x4 s0 : Int32) (M : xMem) (h : g8_odds_b65 x3 x4 s0 M = some R) : V G 7 65 [(3, .inl x3), (4, .inl x4)] [.inl s0] M := by
  unfold g8_odds_b65 at h
  refine V.ist (lv' := [(3, .inl x3), (4, .inl x4), (5, .inl s0)]) (r := 67) hC dX8_odds_65 rfl rfl rfl ?_
  refine V.iload (r := 69) hC 1 dX8_odds_67 rfl rfl ?_
  refine V.iload (r := 71) hC 2 dX8_odds_69 rfl rfl ?_
  obtain ⟨q14, hq15, h⟩ := Option.bind_eq_some_iff.mp h
  try dsimp only at h
  refine V.invSi (as := [.inl x4, .inl s0]) (st := []) (r := 74) hC (met8_commonDivisor hq15) ys_X8_commonDivisor ml_RX8_273 dX8_odds_71 (by decide) rfl rfl rfl rfl ?_
  refine V.ist (lv' := [(3, .inl x3), (4, .inl x4), (5, .inl s0), (6, .inl (q14.1))]) (r := 76) hC dX8_odds_74 rfl rfl rfl ?_
  refine V.iload (r := 78) hC 3 dX8_odds_76 rfl rfl ?_
  refine V.if_ne (tgt := 83) (r := 81) hC dX8_odds_78 (by decide) rfl (fun c16 => ?_) (fun c16 => ?_)
  · rw [if_neg c16] at h
    refine V.iload_n (r := 84) hC 0 dX8_odds_83 rfl rfl ?_
    refine V.if_ne (tgt := 92) (r := 87) hC dX8_odds_84 (by decide) rfl (fun c17 => ?_) (fun c17 => ?_)
    · rw [if_neg c17] at h
      refine V.iload (r := 94) hC 2 dX8_odds_92 rfl rfl ?_
      refine V.pick (lv' := [(6, .inl (q14.1))]) [3] rfl ?_
      exact v8_odds_b94  hC hR  _ _ _ h
    · rw [if_pos c17] at h
      refine V.iload (r := 89) hC 1 dX8_odds_87 rfl rfl ?_
      refine V.goto (tgt := 94) hC dX8_odds_89 (by decide) ?_
      refine V.pick (lv' := [(6, .inl (q14.1))]) [3] rfl ?_
      exact v8_odds_b94  hC hR  _ _ _ h
  · rw [if_pos c16] at h
    refine V.iconst (r := 82) hC dX8_odds_81 ki_m1 rfl ?_
    cases h
    exact hR _ _ dX8_odds_82
def g8_odds (a0 a1 a2 : Int32) (M : xMem) : Option (Int32 × xMem) :=
Option.bind (g8_isIn a0 (1 : Int32) (3 : Int32) M) fun q1 =>
if (q1.1) = 0 then
(some ((-1 : Int32), q1.2))
else
(Option.bind (g8_isIn a1 (0 : Int32) (9999 : Int32) q1.2) fun q4 =>
if (q4.1) = 0 then
(some ((-1 : Int32), q4.2))
else
(Option.bind (g8_isIn a2 (0 : Int32) (1 : Int32) q4.2) fun q7 =>
if (q7.1) = 0 then
(some ((-1 : Int32), q7.2))
else
(Option.bind (g5_countDraws a0 a1 q7.2) fun q10 =>
if a0 = (1 : Int32) then
(g8_odds_b65 a2 (q10.1) (10 : Int32) q10.2)
else
(if a0 = (2 : Int32) then
(g8_odds_b65 a2 (q10.1) (100 : Int32) q10.2)
else
(g8_odds_b65 a2 (q10.1) (1000 : Int32) q10.2)))))
set_option maxHeartbeats 4000000 in
set_option maxRecDepth 20000 in
theorem v8_odds {G : xG} (hC : xC G cX8_odds 7 RX8 26) {R : Int32 × xMem} (hR : xRI G cX8_odds 7 R) {a0 a1 a2 : Int32} {M : xMem} (h : g8_odds a0 a1 a2 M = some R) : V G 7 0 [(0, .inr 0), (1, .inl a0), (2, .inl a1), (3, .inl a2)] [] M := by
  unfold g8_odds at h
  refine V.iload_n (r := 1) hC 1 dX8_odds_0 rfl rfl ?_
  refine V.iconst (r := 2) hC dX8_odds_1 ki_1 rfl ?_
  refine V.iconst (r := 3) hC dX8_odds_2 ki_3 rfl ?_
  obtain ⟨q1, hq2, h⟩ := Option.bind_eq_some_iff.mp h
  try dsimp only at h
  refine V.invSi (as := [.inl a0, .inl (1 : Int32), .inl (3 : Int32)]) (st := []) (r := 6) hC (met8_isIn hq2) ys_X8_isIn ml_RX8_59 dX8_odds_3 (by decide) rfl rfl rfl rfl ?_
  refine V.if_eq (tgt := 29) (r := 9) hC dX8_odds_6 (by decide) rfl (fun c3 => ?_) (fun c3 => ?_)
  · rw [if_pos c3] at h
    refine V.iconst (r := 30) hC dX8_odds_29 ki_m1 rfl ?_
    cases h
    exact hR _ _ dX8_odds_30
  · rw [if_neg c3] at h
    refine V.iload_n (r := 10) hC 2 dX8_odds_9 rfl rfl ?_
    refine V.iconst (r := 11) hC dX8_odds_10 ki_0 rfl ?_
    refine V.sipush (r := 14) hC dX8_odds_11 ks_9999 rfl ?_
    obtain ⟨q4, hq5, h⟩ := Option.bind_eq_some_iff.mp h
    try dsimp only at h
    refine V.invSi (as := [.inl a1, .inl (0 : Int32), .inl (9999 : Int32)]) (st := []) (r := 17) hC (met8_isIn hq5) ys_X8_isIn ml_RX8_59 dX8_odds_14 (by decide) rfl rfl rfl rfl ?_
    refine V.if_eq (tgt := 29) (r := 20) hC dX8_odds_17 (by decide) rfl (fun c6 => ?_) (fun c6 => ?_)
    · rw [if_pos c6] at h
      refine V.iconst (r := 30) hC dX8_odds_29 ki_m1 rfl ?_
      cases h
      exact hR _ _ dX8_odds_30
    · rw [if_neg c6] at h
      refine V.iload_n (r := 21) hC 3 dX8_odds_20 rfl rfl ?_
      refine V.iconst (r := 22) hC dX8_odds_21 ki_0 rfl ?_
      refine V.iconst (r := 23) hC dX8_odds_22 ki_1 rfl ?_
      obtain ⟨q7, hq8, h⟩ := Option.bind_eq_some_iff.mp h
      try dsimp only at h
      refine V.invSi (as := [.inl a2, .inl (0 : Int32), .inl (1 : Int32)]) (st := []) (r := 26) hC (met8_isIn hq8) ys_X8_isIn ml_RX8_59 dX8_odds_23 (by decide) rfl rfl rfl rfl ?_
      refine V.if_ne (tgt := 31) (r := 29) hC dX8_odds_26 (by decide) rfl (fun c9 => ?_) (fun c9 => ?_)
      · rw [if_neg c9] at h
        refine V.aload_n (r := 32) hC 0 dX8_odds_31 rfl rfl ?_
        refine V.getR (k' := 1) (j := 0) (r := 35) hC xcl_8 sh_0 fl_RX8_10 dX8_odds_32 (by decide) rfl rfl ?_
        refine V.iload_n (r := 36) hC 1 dX8_odds_35 rfl rfl ?_
        refine V.iload_n (r := 37) hC 2 dX8_odds_36 rfl rfl ?_
        obtain ⟨q10, hq11, h⟩ := Option.bind_eq_some_iff.mp h
        try dsimp only at h
        refine V.invVi (as := [.inl a0, .inl a1]) (st := []) (r := 40) hC (met5_countDraws hq11) yv_X5_countDraws ml_RX8_270 sh_1 rfl rfl dX8_odds_37 (by decide) rfl rfl rfl rfl ?_
        refine V.ist (lv' := [(0, .inr 0), (1, .inl a0), (2, .inl a1), (3, .inl a2), (4, .inl (q10.1))]) (r := 42) hC dX8_odds_40 rfl rfl rfl ?_
        refine V.iload_n (r := 43) hC 1 dX8_odds_42 rfl rfl ?_
        refine V.iconst (r := 44) hC dX8_odds_43 ki_1 rfl ?_
        refine V.icmp_ne (tgt := 52) (r := 47) hC dX8_odds_44 (by decide) rfl (fun c12 => ?_) (fun c12 => ?_)
        · rw [if_neg c12] at h
          refine V.iload_n (r := 53) hC 1 dX8_odds_52 rfl rfl ?_
          refine V.iconst (r := 54) hC dX8_odds_53 ki_2 rfl ?_
          refine V.icmp_ne (tgt := 62) (r := 57) hC dX8_odds_54 (by decide) rfl (fun c13 => ?_) (fun c13 => ?_)
          · rw [if_neg c13] at h
            refine V.sipush (r := 65) hC dX8_odds_62 ks_1000 rfl ?_
            refine V.pick (lv' := [(3, .inl a2), (4, .inl (q10.1))]) [3, 4] rfl ?_
            exact v8_odds_b65  hC hR  _ _ _ _ h
          · rw [if_pos c13] at h
            refine V.bipush (r := 59) hC dX8_odds_57 kb_100 rfl ?_
            refine V.goto (tgt := 65) hC dX8_odds_59 (by decide) ?_
            refine V.pick (lv' := [(3, .inl a2), (4, .inl (q10.1))]) [3, 4] rfl ?_
            exact v8_odds_b65  hC hR  _ _ _ _ h
        · rw [if_pos c12] at h
          refine V.bipush (r := 49) hC dX8_odds_47 kb_10 rfl ?_
          refine V.goto (tgt := 65) hC dX8_odds_49 (by decide) ?_
          refine V.pick (lv' := [(3, .inl a2), (4, .inl (q10.1))]) [3, 4] rfl ?_
          exact v8_odds_b65  hC hR  _ _ _ _ h
      · rw [if_pos c9] at h
        refine V.iconst (r := 30) hC dX8_odds_29 ki_m1 rfl ?_
        cases h
        exact hR _ _ dX8_odds_30
theorem met8_odds {R : Int32 × xMem} {a0 a1 a2 : Int32} {M : xMem} (h : g8_odds a0 a1 a2 M = some R) : xMet yX8_odds cX8_odds 7 (some .int) 26 [.inr 0, .inl a0, .inl a1, .inl a2] M (some R.1) R.2 := xMet.ofI (by decide +kernel) (Nat.le_of_ble_eq_true rfl) fun _ hC hR => v8_odds  hC hR h
def g8_seed (a0 : Int32) (M : xMem) : Option (Int32 × xMem) :=
Option.bind (g8_isIn a0 (0 : Int32) (65535 : Int32) M) fun q1 =>
if (q1.1) = 0 then
(some ((0 : Int32), q1.2))
else
(mset (upM q1.2 0 330 a0) fun M4 =>
some ((1 : Int32), M4))
set_option maxHeartbeats 4000000 in
set_option maxRecDepth 20000 in
theorem v8_seed {G : xG} (hC : xC G cX8_seed 2 RX8 1) {R : Int32 × xMem} (hR : xRZ G cX8_seed 2 R) {a0 : Int32} {M : xMem} (h : g8_seed a0 M = some R) : V G 2 0 [(0, .inr 0), (1, .inl a0)] [] M := by
  unfold g8_seed at h
  refine V.iload_n (r := 1) hC 1 dX8_seed_0 rfl rfl ?_
  refine V.iconst (r := 2) hC dX8_seed_1 ki_0 rfl ?_
  refine V.ldcw (r := 5) hC dX8_seed_2 co_RX8_276 rfl ?_
  obtain ⟨q1, hq2, h⟩ := Option.bind_eq_some_iff.mp h
  try dsimp only at h
  refine V.invSi (as := [.inl a0, .inl (0 : Int32), .inl (65535 : Int32)]) (st := []) (r := 8) hC (met8_isIn hq2) ys_X8_isIn ml_RX8_59 dX8_seed_5 (by decide) rfl rfl rfl rfl ?_
  refine V.if_ne (tgt := 13) (r := 11) hC dX8_seed_8 (by decide) rfl (fun c3 => ?_) (fun c3 => ?_)
  · rw [if_neg c3] at h
    refine V.aload_n (r := 14) hC 0 dX8_seed_13 rfl rfl ?_
    refine V.getR (k' := 2) (j := 1) (r := 17) hC xcl_8 sh_0 fl_RX8_20 dX8_seed_14 (by decide) rfl rfl ?_
    refine V.iload_n (r := 18) hC 1 dX8_seed_17 rfl rfl ?_
    rw [mset_eq] at h
    refine V.putI (b := 0) (i := 330) (j := 8) (ty := .int) (r := 21) hC xcl_6 xcp_6 sh_2 fl_RX8_277 dX8_seed_18 (by decide) rfl rfl (by decide +kernel) rfl rfl rfl ?_
    generalize upM q1.2 0 330 a0 = M4 at h ⊢
    refine V.iconst (r := 22) hC dX8_seed_21 ki_1 rfl ?_
    cases h
    exact hR _ _ (Or.inr rfl) dX8_seed_22
  · rw [if_pos c3] at h
    refine V.iconst (r := 12) hC dX8_seed_11 ki_0 rfl ?_
    cases h
    exact hR _ _ (Or.inl rfl) dX8_seed_12
theorem met8_seed {R : Int32 × xMem} {a0 : Int32} {M : xMem} (h : g8_seed a0 M = some R) : xMet yX8_seed cX8_seed 2 (some .boolean) 1 [.inr 0, .inl a0] M (some R.1) R.2 := xMet.ofZ (by decide +kernel) (Nat.le_of_ble_eq_true rfl) fun _ hC hR => v8_seed  hC hR h
def g8_clouded_b70 (k8 : Int32 → xMem → Option (Int32 × xMem)) (x1 : Int32) (M : xMem) : Option (Int32 × xMem) :=
k8 (x1 + (1 : Int32)) M
set_option maxHeartbeats 4000000 in
set_option maxRecDepth 20000 in
theorem v8_clouded_b70 {G : xG} (hC : xC G cX8_clouded 4 RX8 4) {R : Int32 × xMem} (hR : xRI G cX8_clouded 4 R) {k8 : Int32 → xMem → Option (Int32 × xMem)} (hk8 : ∀ (y1 : Int32) (N : xMem), k8 y1 N = some R → V G 4 8 [(0, .inr 0), (1, .inl y1)] [] N) (x1 : Int32) (M : xMem) (h : g8_clouded_b70 k8 x1 M = some R) : V G 4 70 [(0, .inr 0), (1, .inl x1)] [] M := by
  unfold g8_clouded_b70 at h
  refine V.inc (lv' := [(0, .inr 0), (1, .inl (x1 + (1 : Int32)))]) (r := 73) hC 1 dX8_clouded_70 rfl ki_1 rfl rfl rfl ?_
  refine V.goto (tgt := 8) hC dX8_clouded_73 (by decide) ?_
  exact hk8 _ _ h
def g8_clouded_b8 : Nat → Int32 → xMem → Option (Int32 × xMem)
  | 0, _, _ => none
  | n + 1, x1, M => 
    (if (8 : Int32) ≤ x1 then
    (some (M 0 329, M))
    else
    (Option.bind (g6_draw 0 M) fun q2 =>
    mset (upM q2.2 0 329 ((q2.2 0 329) &&& (((1 : Int32) <<< (x1 &&& 31)) ^^^ (-1 : Int32)))) fun M4 =>
    Option.bind (g0_cloudTenths 0 x1 M4) fun q5 =>
    if (q5.1) ≤ (q2.1) then
    (g8_clouded_b70 (g8_clouded_b8 n) x1 q5.2)
    else
    (mset (upM q5.2 0 329 ((q5.2 0 329) ||| ((1 : Int32) <<< (x1 &&& 31)))) fun M8 =>
    g8_clouded_b70 (g8_clouded_b8 n) x1 M8)))
set_option maxHeartbeats 4000000 in
set_option maxRecDepth 20000 in
theorem v8_clouded_b8 {G : xG} (hC : xC G cX8_clouded 4 RX8 4) {R : Int32 × xMem} (hR : xRI G cX8_clouded 4 R) : ∀ (n : Nat) (x1 : Int32) (M : xMem), g8_clouded_b8 n x1 M = some R → V G 4 8 [(0, .inr 0), (1, .inl x1)] [] M := by
  intro n
  induction n with
  | zero => intro x1 M h; rw [g8_clouded_b8] at h; cases h
  | succ n ih =>
    intro x1 M h
    rw [g8_clouded_b8] at h
    refine V.iload_n (r := 9) hC 1 dX8_clouded_8 rfl rfl ?_
    refine V.bipush (r := 11) hC dX8_clouded_9 kb_8 rfl ?_
    refine V.icmp_ge (tgt := 76) (r := 14) hC dX8_clouded_11 (by decide) rfl (fun c1 => ?_) (fun c1 => ?_)
    · rw [if_pos c1] at h
      refine V.aload_n (r := 77) hC 0 dX8_clouded_76 rfl rfl ?_
      refine V.getR (k' := 2) (j := 1) (r := 80) hC xcl_8 sh_0 fl_RX8_20 dX8_clouded_77 (by decide) rfl rfl ?_
      refine V.getI (b := 0) (i := 329) (j := 7) (r := 83) hC xcl_6 sh_2 fl_RX8_157 dX8_clouded_80 (by decide) rfl rfl ?_
      cases h
      exact hR _ _ dX8_clouded_83
    · rw [if_neg c1] at h
      refine V.aload_n (r := 15) hC 0 dX8_clouded_14 rfl rfl ?_
      refine V.getR (k' := 2) (j := 1) (r := 18) hC xcl_8 sh_0 fl_RX8_20 dX8_clouded_15 (by decide) rfl rfl ?_
      obtain ⟨q2, hq3, h⟩ := Option.bind_eq_some_iff.mp h
      try dsimp only at h
      refine V.invVi (as := []) (st := []) (r := 21) hC (met6_draw (by decide) hq3) yv_X6_draw ml_RX8_283 sh_2 rfl rfl dX8_clouded_18 (by decide) rfl rfl rfl rfl ?_
      refine V.ist_n (lv' := [(0, .inr 0), (1, .inl x1), (2, .inl (q2.1))]) (r := 22) hC dX8_clouded_21 rfl rfl rfl ?_
      refine V.iconst (r := 23) hC dX8_clouded_22 ki_1 rfl ?_
      refine V.iload_n (r := 24) hC 1 dX8_clouded_23 rfl rfl ?_
      refine V.ishl (r := 25) hC dX8_clouded_24 rfl ?_
      refine V.ist_n (lv' := [(0, .inr 0), (1, .inl x1), (2, .inl (q2.1)), (3, .inl ((1 : Int32) <<< (x1 &&& 31)))]) (r := 26) hC dX8_clouded_25 rfl rfl rfl ?_
      refine V.aload_n (r := 27) hC 0 dX8_clouded_26 rfl rfl ?_
      refine V.getR (k' := 2) (j := 1) (r := 30) hC xcl_8 sh_0 fl_RX8_20 dX8_clouded_27 (by decide) rfl rfl ?_
      refine V.dup (r := 31) hC dX8_clouded_30 rfl ?_
      refine V.getI (b := 0) (i := 329) (j := 7) (r := 34) hC xcl_6 sh_2 fl_RX8_157 dX8_clouded_31 (by decide) rfl rfl ?_
      refine V.iload_n (r := 35) hC 3 dX8_clouded_34 rfl rfl ?_
      refine V.iconst (r := 36) hC dX8_clouded_35 ki_m1 rfl ?_
      refine V.ixor (r := 37) hC dX8_clouded_36 rfl ?_
      refine V.iand (r := 38) hC dX8_clouded_37 rfl ?_
      rw [mset_eq] at h
      refine V.putI (b := 0) (i := 329) (j := 7) (ty := .int) (r := 41) hC xcl_6 xcp_6 sh_2 fl_RX8_157 dX8_clouded_38 (by decide) rfl rfl (by decide +kernel) rfl rfl rfl ?_
      generalize upM q2.2 0 329 ((q2.2 0 329) &&& (((1 : Int32) <<< (x1 &&& 31)) ^^^ (-1 : Int32))) = M4 at h ⊢
      refine V.iload_n (r := 42) hC 2 dX8_clouded_41 rfl rfl ?_
      refine V.aload_n (r := 43) hC 0 dX8_clouded_42 rfl rfl ?_
      refine V.getR (k' := 20) (j := 2) (r := 46) hC xcl_8 sh_0 fl_RX8_25 dX8_clouded_43 (by decide) rfl rfl ?_
      refine V.aload_n (r := 47) hC 0 dX8_clouded_46 rfl rfl ?_
      refine V.getR (k' := 2) (j := 1) (r := 50) hC xcl_8 sh_0 fl_RX8_20 dX8_clouded_47 (by decide) rfl rfl ?_
      refine V.iload_n (r := 51) hC 1 dX8_clouded_50 rfl rfl ?_
      obtain ⟨q5, hq6, h⟩ := Option.bind_eq_some_iff.mp h
      try dsimp only at h
      refine V.invVi (as := [.inr 2, .inl x1]) (st := [.inl (q2.1)]) (r := 54) hC (met0_cloudTenths (by decide) hq6) yv_X0_cloudTenths ml_RX8_286 sh_20 rfl rfl dX8_clouded_51 (by decide) rfl rfl rfl rfl ?_
      refine V.icmp_ge (tgt := 70) (r := 57) hC dX8_clouded_54 (by decide) rfl (fun c7 => ?_) (fun c7 => ?_)
      · rw [if_pos c7] at h
        refine V.pick (lv' := [(0, .inr 0), (1, .inl x1)]) [0, 1] rfl ?_
        exact v8_clouded_b70  hC hR ih _ _ h
      · rw [if_neg c7] at h
        refine V.aload_n (r := 58) hC 0 dX8_clouded_57 rfl rfl ?_
        refine V.getR (k' := 2) (j := 1) (r := 61) hC xcl_8 sh_0 fl_RX8_20 dX8_clouded_58 (by decide) rfl rfl ?_
        refine V.dup (r := 62) hC dX8_clouded_61 rfl ?_
        refine V.getI (b := 0) (i := 329) (j := 7) (r := 65) hC xcl_6 sh_2 fl_RX8_157 dX8_clouded_62 (by decide) rfl rfl ?_
        refine V.iload_n (r := 66) hC 3 dX8_clouded_65 rfl rfl ?_
        refine V.ior (r := 67) hC dX8_clouded_66 rfl ?_
        rw [mset_eq] at h
        refine V.putI (b := 0) (i := 329) (j := 7) (ty := .int) (r := 70) hC xcl_6 xcp_6 sh_2 fl_RX8_157 dX8_clouded_67 (by decide) rfl rfl (by decide +kernel) rfl rfl rfl ?_
        generalize upM q5.2 0 329 ((q5.2 0 329) ||| ((1 : Int32) <<< (x1 &&& 31))) = M8 at h ⊢
        refine V.pick (lv' := [(0, .inr 0), (1, .inl x1)]) [0, 1] rfl ?_
        exact v8_clouded_b70  hC hR ih _ _ h
def g8_clouded (M : xMem) : Option (Int32 × xMem) :=
g8_clouded_b8 5000 (M 0 328) M
set_option maxHeartbeats 4000000 in
set_option maxRecDepth 20000 in
theorem v8_clouded {G : xG} (hC : xC G cX8_clouded 4 RX8 4) {R : Int32 × xMem} (hR : xRI G cX8_clouded 4 R) {M : xMem} (h : g8_clouded M = some R) : V G 4 0 [(0, .inr 0)] [] M := by
  unfold g8_clouded at h
  refine V.aload_n (r := 1) hC 0 dX8_clouded_0 rfl rfl ?_
  refine V.getR (k' := 2) (j := 1) (r := 4) hC xcl_8 sh_0 fl_RX8_20 dX8_clouded_1 (by decide) rfl rfl ?_
  refine V.getI (b := 0) (i := 328) (j := 6) (r := 7) hC xcl_6 sh_2 fl_RX8_280 dX8_clouded_4 (by decide) rfl rfl ?_
  refine V.ist_n (lv' := [(0, .inr 0), (1, .inl (M 0 328))]) (r := 8) hC dX8_clouded_7 rfl rfl rfl ?_
  exact v8_clouded_b8  hC hR  5000 _ _ h
theorem met8_clouded {R : Int32 × xMem} {M : xMem} (h : g8_clouded M = some R) : xMet yX8_clouded cX8_clouded 4 (some .int) 4 [.inr 0] M (some R.1) R.2 := xMet.ofI (by decide +kernel) (Nat.le_of_ble_eq_true rfl) fun _ hC hR => v8_clouded  hC hR h
def g8_keep (M : xMem) : Option (Int32 × xMem) :=
Option.bind (g6_become 6 0 M) fun q1 =>
mset (upM q1 157 0 (1 : Int32)) fun M3 =>
Option.bind (g1_living 0 M3) fun q4 =>
some (q4.1, q4.2)
set_option maxHeartbeats 4000000 in
set_option maxRecDepth 20000 in
theorem v8_keep {G : xG} (hC : xC G cX8_keep 1 RX8 3) {R : Int32 × xMem} (hR : xRI G cX8_keep 1 R) {M : xMem} (h : g8_keep M = some R) : V G 1 0 [(0, .inr 0)] [] M := by
  unfold g8_keep at h
  refine V.aload_n (r := 1) hC 0 dX8_keep_0 rfl rfl ?_
  refine V.getR (k' := 136) (j := 6) (r := 4) hC xcl_8 sh_0 fl_RX8_48 dX8_keep_1 (by decide) rfl rfl ?_
  refine V.aload_n (r := 5) hC 0 dX8_keep_4 rfl rfl ?_
  refine V.getR (k' := 2) (j := 1) (r := 8) hC xcl_8 sh_0 fl_RX8_20 dX8_keep_5 (by decide) rfl rfl ?_
  obtain ⟨q1, hq2, h⟩ := Option.bind_eq_some_iff.mp h
  try dsimp only at h
  refine V.invVv (as := [.inr 2]) (st := []) (r := 11) hC (met6_become (by decide) (by decide) hq2) yv_X6_become ml_RX8_188 sh_136 rfl rfl dX8_keep_8 (by decide) rfl rfl rfl rfl ?_
  refine V.aload_n (r := 12) hC 0 dX8_keep_11 rfl rfl ?_
  refine V.iconst (r := 13) hC dX8_keep_12 ki_1 rfl ?_
  rw [mset_eq] at h
  refine V.putI (b := 157) (i := 0) (j := 7) (ty := .boolean) (r := 16) hC xcl_8 xcp_8 sh_0 fl_RX8_51 dX8_keep_13 (by decide) rfl rfl (by decide +kernel) (x01n (Or.inr rfl)) (x01f (Or.inr rfl)) rfl ?_
  generalize upM q1 157 0 (1 : Int32) = M3 at h ⊢
  refine V.aload_n (r := 17) hC 0 dX8_keep_16 rfl rfl ?_
  refine V.getR (k' := 2) (j := 1) (r := 20) hC xcl_8 sh_0 fl_RX8_20 dX8_keep_17 (by decide) rfl rfl ?_
  refine V.getR (k' := 11) (j := 2) (r := 23) hC xcl_6 sh_2 fl_RX8_98 dX8_keep_20 (by decide) rfl rfl ?_
  obtain ⟨q4, hq5, h⟩ := Option.bind_eq_some_iff.mp h
  try dsimp only at h
  refine V.invVi (as := []) (st := []) (r := 26) hC (met1_living (by decide) hq5) yv_X1_living ml_RX8_191 sh_11 rfl rfl dX8_keep_23 (by decide) rfl rfl rfl rfl ?_
  cases h
  exact hR _ _ dX8_keep_26
theorem met8_keep {R : Int32 × xMem} {M : xMem} (h : g8_keep M = some R) : xMet yX8_keep cX8_keep 1 (some .int) 3 [.inr 0] M (some R.1) R.2 := xMet.ofI (by decide +kernel) (Nat.le_of_ble_eq_true rfl) fun _ hC hR => v8_keep  hC hR h
def g8_undo (M : xMem) : Option (Int32 × xMem) :=
if (M 157 0) = 0 then
(some ((0 : Int32), M))
else
(Option.bind (g6_become 0 6 M) fun q2 =>
some ((1 : Int32), q2))
set_option maxHeartbeats 4000000 in
set_option maxRecDepth 20000 in
theorem v8_undo {G : xG} (hC : xC G cX8_undo 1 RX8 3) {R : Int32 × xMem} (hR : xRZ G cX8_undo 1 R) {M : xMem} (h : g8_undo M = some R) : V G 1 0 [(0, .inr 0)] [] M := by
  unfold g8_undo at h
  refine V.aload_n (r := 1) hC 0 dX8_undo_0 rfl rfl ?_
  refine V.getI (b := 157) (i := 0) (j := 7) (r := 4) hC xcl_8 sh_0 fl_RX8_51 dX8_undo_1 (by decide) rfl rfl ?_
  refine V.if_ne (tgt := 9) (r := 7) hC dX8_undo_4 (by decide) rfl (fun c1 => ?_) (fun c1 => ?_)
  · rw [if_neg c1] at h
    refine V.aload_n (r := 10) hC 0 dX8_undo_9 rfl rfl ?_
    refine V.getR (k' := 2) (j := 1) (r := 13) hC xcl_8 sh_0 fl_RX8_20 dX8_undo_10 (by decide) rfl rfl ?_
    refine V.aload_n (r := 14) hC 0 dX8_undo_13 rfl rfl ?_
    refine V.getR (k' := 136) (j := 6) (r := 17) hC xcl_8 sh_0 fl_RX8_48 dX8_undo_14 (by decide) rfl rfl ?_
    obtain ⟨q2, hq3, h⟩ := Option.bind_eq_some_iff.mp h
    try dsimp only at h
    refine V.invVv (as := [.inr 136]) (st := []) (r := 20) hC (met6_become (by decide) (by decide) hq3) yv_X6_become ml_RX8_188 sh_2 rfl rfl dX8_undo_17 (by decide) rfl rfl rfl rfl ?_
    refine V.iconst (r := 21) hC dX8_undo_20 ki_1 rfl ?_
    cases h
    exact hR _ _ (Or.inr rfl) dX8_undo_21
  · rw [if_pos c1] at h
    refine V.iconst (r := 8) hC dX8_undo_7 ki_0 rfl ?_
    cases h
    exact hR _ _ (Or.inl rfl) dX8_undo_8
theorem met8_undo {R : Int32 × xMem} {M : xMem} (h : g8_undo M = some R) : xMet yX8_undo cX8_undo 1 (some .boolean) 3 [.inr 0] M (some R.1) R.2 := xMet.ofZ (by decide +kernel) (Nat.le_of_ble_eq_true rfl) fun _ hC hR => v8_undo  hC hR h
def g8_check_b77 (k36 : Int32 → Int32 → xMem → Option (Int32 × xMem)) (x1 x2 s0 : Int32) (M : xMem) : Option (Int32 × xMem) :=
Option.bind (g7_numberAt ((4 : Int32) * x2) M) fun q12 =>
if (q12.1) = s0 then
(k36 x1 (x2 + (1 : Int32)) q12.2)
else
(some (x2, q12.2))
set_option maxHeartbeats 4000000 in
set_option maxRecDepth 20000 in
theorem v8_check_b77 {G : xG} (hC : xC G cX8_check 4 RX8 2) {R : Int32 × xMem} (hR : xRI G cX8_check 4 R) {k36 : Int32 → Int32 → xMem → Option (Int32 × xMem)} (hk36 : ∀ (y1 y2 : Int32) (N : xMem), k36 y1 y2 N = some R → V G 4 36 [(0, .inr 0), (1, .inl y1), (2, .inl y2)] [] N) (x1 x2 s0 : Int32) (M : xMem) (h : g8_check_b77 k36 x1 x2 s0 M = some R) : V G 4 77 [(0, .inr 0), (1, .inl x1), (2, .inl x2)] [.inl s0] M := by
  unfold g8_check_b77 at h
  refine V.ist_n (lv' := [(0, .inr 0), (1, .inl x1), (2, .inl x2), (3, .inl s0)]) (r := 78) hC dX8_check_77 rfl rfl rfl ?_
  refine V.aload_n (r := 79) hC 0 dX8_check_78 rfl rfl ?_
  refine V.getR (k' := 127) (j := 5) (r := 82) hC xcl_8 sh_0 fl_RX8_44 dX8_check_79 (by decide) rfl rfl ?_
  refine V.iconst (r := 83) hC dX8_check_82 ki_4 rfl ?_
  refine V.iload_n (r := 84) hC 2 dX8_check_83 rfl rfl ?_
  refine V.imul (r := 85) hC dX8_check_84 rfl ?_
  obtain ⟨q12, hq13, h⟩ := Option.bind_eq_some_iff.mp h
  try dsimp only at h
  refine V.invVi (as := [.inl ((4 : Int32) * x2)]) (st := []) (r := 88) hC (met7_numberAt hq13) yv_X7_numberAt ml_RX8_289 sh_127 rfl rfl dX8_check_85 (by decide) rfl rfl rfl rfl ?_
  refine V.iload_n (r := 89) hC 3 dX8_check_88 rfl rfl ?_
  refine V.icmp_eq (tgt := 94) (r := 92) hC dX8_check_89 (by decide) rfl (fun c14 => ?_) (fun c14 => ?_)
  · rw [if_pos c14] at h
    refine V.inc (lv' := [(0, .inr 0), (1, .inl x1), (2, .inl (x2 + (1 : Int32))), (3, .inl s0)]) (r := 97) hC 2 dX8_check_94 rfl ki_1 rfl rfl rfl ?_
    refine V.goto (tgt := 36) hC dX8_check_97 (by decide) ?_
    refine V.pick (lv' := [(0, .inr 0), (1, .inl x1), (2, .inl (x2 + (1 : Int32)))]) [0, 1, 2] rfl ?_
    exact hk36 _ _ _ h
  · rw [if_neg c14] at h
    refine V.iload_n (r := 93) hC 2 dX8_check_92 rfl rfl ?_
    cases h
    exact hR _ _ dX8_check_93
def g8_check_b36 : Nat → Int32 → Int32 → xMem → Option (Int32 × xMem)
  | 0, _, _, _ => none
  | n + 1, x1, x2, M => 
    (if x1 ≤ x2 then
    (some ((-1 : Int32), M))
    else
    (if (6 : Int32) ≤ x2 then
    (some ((-1 : Int32), M))
    else
    (Option.bind (g1_isTold 0 x2 M) fun q8 =>
    if (q8.1) = 0 then
    (g8_check_b77 (g8_check_b36 n) x1 x2 (0 : Int32) q8.2)
    else
    (if x2 < 0 ∨ 6 ≤ x2.toNatClampNeg then none else
    g8_check_b77 (g8_check_b36 n) x1 x2 (q8.2 0 (280 + x2.toNatClampNeg)) q8.2))))
set_option maxHeartbeats 4000000 in
set_option maxRecDepth 20000 in
theorem v8_check_b36 {G : xG} (hC : xC G cX8_check 4 RX8 2) {R : Int32 × xMem} (hR : xRI G cX8_check 4 R) : ∀ (n : Nat) (x1 x2 : Int32) (M : xMem), g8_check_b36 n x1 x2 M = some R → V G 4 36 [(0, .inr 0), (1, .inl x1), (2, .inl x2)] [] M := by
  intro n
  induction n with
  | zero => intro x1 x2 M h; rw [g8_check_b36] at h; cases h
  | succ n ih =>
    intro x1 x2 M h
    rw [g8_check_b36] at h
    refine V.iload_n (r := 37) hC 2 dX8_check_36 rfl rfl ?_
    refine V.iload_n (r := 38) hC 1 dX8_check_37 rfl rfl ?_
    refine V.icmp_ge (tgt := 100) (r := 41) hC dX8_check_38 (by decide) rfl (fun c6 => ?_) (fun c6 => ?_)
    · rw [if_pos c6] at h
      refine V.iconst (r := 101) hC dX8_check_100 ki_m1 rfl ?_
      cases h
      exact hR _ _ dX8_check_101
    · rw [if_neg c6] at h
      refine V.iload_n (r := 42) hC 2 dX8_check_41 rfl rfl ?_
      refine V.bipush (r := 44) hC dX8_check_42 kb_6 rfl ?_
      refine V.icmp_ge (tgt := 100) (r := 47) hC dX8_check_44 (by decide) rfl (fun c7 => ?_) (fun c7 => ?_)
      · rw [if_pos c7] at h
        refine V.iconst (r := 101) hC dX8_check_100 ki_m1 rfl ?_
        cases h
        exact hR _ _ dX8_check_101
      · rw [if_neg c7] at h
        refine V.aload_n (r := 48) hC 0 dX8_check_47 rfl rfl ?_
        refine V.getR (k' := 2) (j := 1) (r := 51) hC xcl_8 sh_0 fl_RX8_20 dX8_check_48 (by decide) rfl rfl ?_
        refine V.getR (k' := 11) (j := 2) (r := 54) hC xcl_6 sh_2 fl_RX8_98 dX8_check_51 (by decide) rfl rfl ?_
        refine V.iload_n (r := 55) hC 2 dX8_check_54 rfl rfl ?_
        obtain ⟨q8, hq9, h⟩ := Option.bind_eq_some_iff.mp h
        try dsimp only at h
        refine V.invVi (as := [.inl x2]) (st := []) (r := 58) hC (met1_isTold (by decide) hq9) yv_X1_isTold ml_RX8_122 sh_11 rfl rfl dX8_check_55 (by decide) rfl rfl rfl rfl ?_
        refine V.if_eq (tgt := 76) (r := 61) hC dX8_check_58 (by decide) rfl (fun c10 => ?_) (fun c10 => ?_)
        · rw [if_pos c10] at h
          refine V.iconst (r := 77) hC dX8_check_76 ki_0 rfl ?_
          exact v8_check_b77  hC hR ih _ _ _ _ h
        · rw [if_neg c10] at h
          refine V.aload_n (r := 62) hC 0 dX8_check_61 rfl rfl ?_
          refine V.getR (k' := 2) (j := 1) (r := 65) hC xcl_8 sh_0 fl_RX8_20 dX8_check_62 (by decide) rfl rfl ?_
          refine V.getR (k' := 11) (j := 2) (r := 68) hC xcl_6 sh_2 fl_RX8_98 dX8_check_65 (by decide) rfl rfl ?_
          refine V.getR (k' := 14) (j := 2) (r := 71) hC xcl_1 sh_11 fl_RX8_110 dX8_check_68 (by decide) rfl rfl ?_
          refine V.iload_n (r := 72) hC 2 dX8_check_71 rfl rfl ?_
          by_cases c11 : x2 < 0 ∨ 6 ≤ x2.toNatClampNeg
          · rw [if_pos c11] at h; cases h
          rw [if_neg c11] at h
          refine V.iald (t := (280 + x2.toNatClampNeg)) (r := 73) hC sh_14 dX8_check_72 c11 rfl rfl ?_
          refine V.goto (tgt := 77) hC dX8_check_73 (by decide) ?_
          exact v8_check_b77  hC hR ih _ _ _ _ h
def g8_check (a0 : Int32) (M : xMem) : Option (Int32 × xMem) :=
Option.bind (g8_isIn a0 (0 : Int32) (6 : Int32) M) fun q1 =>
if (q1.1) = 0 then
(some ((-2 : Int32), q1.2))
else
(if ((4 : Int32) * a0) ≤ (q1.2 121 0) then
(mset (upM q1.2 121 0 (0 : Int32)) fun M5 =>
g8_check_b36 5000 a0 (0 : Int32) M5)
else
(some ((-2 : Int32), q1.2)))
set_option maxHeartbeats 4000000 in
set_option maxRecDepth 20000 in
theorem v8_check {G : xG} (hC : xC G cX8_check 4 RX8 2) {R : Int32 × xMem} (hR : xRI G cX8_check 4 R) {a0 : Int32} {M : xMem} (h : g8_check a0 M = some R) : V G 4 0 [(0, .inr 0), (1, .inl a0)] [] M := by
  unfold g8_check at h
  refine V.iload_n (r := 1) hC 1 dX8_check_0 rfl rfl ?_
  refine V.iconst (r := 2) hC dX8_check_1 ki_0 rfl ?_
  refine V.bipush (r := 4) hC dX8_check_2 kb_6 rfl ?_
  obtain ⟨q1, hq2, h⟩ := Option.bind_eq_some_iff.mp h
  try dsimp only at h
  refine V.invSi (as := [.inl a0, .inl (0 : Int32), .inl (6 : Int32)]) (st := []) (r := 7) hC (met8_isIn hq2) ys_X8_isIn ml_RX8_59 dX8_check_4 (by decide) rfl rfl rfl rfl ?_
  refine V.if_eq (tgt := 23) (r := 10) hC dX8_check_7 (by decide) rfl (fun c3 => ?_) (fun c3 => ?_)
  · rw [if_pos c3] at h
    refine V.bipush (r := 25) hC dX8_check_23 kb_m2 rfl ?_
    cases h
    exact hR _ _ dX8_check_25
  · rw [if_neg c3] at h
    refine V.aload_n (r := 11) hC 0 dX8_check_10 rfl rfl ?_
    refine V.getR (k' := 127) (j := 5) (r := 14) hC xcl_8 sh_0 fl_RX8_44 dX8_check_11 (by decide) rfl rfl ?_
    refine V.getI (b := 121) (i := 0) (j := 1) (r := 17) hC xcl_7 sh_127 fl_RX8_128 dX8_check_14 (by decide) rfl rfl ?_
    refine V.iconst (r := 18) hC dX8_check_17 ki_4 rfl ?_
    refine V.iload_n (r := 19) hC 1 dX8_check_18 rfl rfl ?_
    refine V.imul (r := 20) hC dX8_check_19 rfl ?_
    refine V.icmp_ge (tgt := 26) (r := 23) hC dX8_check_20 (by decide) rfl (fun c4 => ?_) (fun c4 => ?_)
    · rw [if_pos c4] at h
      refine V.aload_n (r := 27) hC 0 dX8_check_26 rfl rfl ?_
      refine V.getR (k' := 127) (j := 5) (r := 30) hC xcl_8 sh_0 fl_RX8_44 dX8_check_27 (by decide) rfl rfl ?_
      refine V.iconst (r := 31) hC dX8_check_30 ki_0 rfl ?_
      rw [mset_eq] at h
      refine V.putI (b := 121) (i := 0) (j := 1) (ty := .int) (r := 34) hC xcl_7 xcp_7 sh_127 fl_RX8_128 dX8_check_31 (by decide) rfl rfl (by decide +kernel) rfl rfl rfl ?_
      generalize upM q1.2 121 0 (0 : Int32) = M5 at h ⊢
      refine V.iconst (r := 35) hC dX8_check_34 ki_0 rfl ?_
      refine V.ist_n (lv' := [(0, .inr 0), (1, .inl a0), (2, .inl (0 : Int32))]) (r := 36) hC dX8_check_35 rfl rfl rfl ?_
      exact v8_check_b36  hC hR  5000 _ _ _ h
    · rw [if_neg c4] at h
      refine V.bipush (r := 25) hC dX8_check_23 kb_m2 rfl ?_
      cases h
      exact hR _ _ dX8_check_25
theorem met8_check {R : Int32 × xMem} {a0 : Int32} {M : xMem} (h : g8_check a0 M = some R) : xMet yX8_check cX8_check 4 (some .int) 2 [.inr 0, .inl a0] M (some R.1) R.2 := xMet.ofI (by decide +kernel) (Nat.le_of_ble_eq_true rfl) fun _ hC hR => v8_check  hC hR h
def g8_count (a0 : Int32) (M : xMem) : Option (Int32 × xMem) :=
Option.bind (g8_isIn a0 (10 : Int32) (13 : Int32) M) fun q1 =>
if (q1.1) = 0 then
(Option.bind (g8_isIn a0 (100 : Int32) (295 : Int32) q1.2) fun q4 =>
if (q4.1) = 0 then
(if a0 = (0 : Int32) then
(some (q4.2 0 327, q4.2))
else
if a0 = (1 : Int32) then
(some (q4.2 0 328, q4.2))
else
if a0 = (2 : Int32) then
(some (q4.2 0 329, q4.2))
else
if a0 = (3 : Int32) then
(some (q4.2 26 0, q4.2))
else
if a0 = (4 : Int32) then
(some (q4.2 121 0, q4.2))
else
if a0 = (5 : Int32) then
(some (q4.2 0 330, q4.2))
else
if a0 = (6 : Int32) then
(Option.bind (g1_toldBits 0 q4.2) fun q14 =>
some (q14.1, q14.2))
else
if a0 = (7 : Int32) then
(Option.bind (g1_onBits 0 q4.2) fun q17 =>
some (q17.1, q17.2))
else
if a0 = (8 : Int32) then
(Option.bind (g6_litBits 0 q4.2) fun q20 =>
some (q20.1, q20.2))
else
if a0 = (9 : Int32) then
(Option.bind (g1_living 0 q4.2) fun q23 =>
some (q23.1, q23.2))
else
(some ((-1 : Int32), q4.2)))
else
(if (a0 - (100 : Int32)) < 0 ∨ 196 ≤ (a0 - (100 : Int32)).toNatClampNeg then none else
some (q4.2 0 (a0 - (100 : Int32)).toNatClampNeg, q4.2)))
else
(if (a0 - (10 : Int32)) < 0 ∨ 4 ≤ (a0 - (10 : Int32)).toNatClampNeg then none else
some (q1.2 0 (304 + (a0 - (10 : Int32)).toNatClampNeg), q1.2))
set_option maxHeartbeats 4000000 in
set_option maxRecDepth 20000 in
theorem v8_count {G : xG} (hC : xC G cX8_count 2 RX8 3) {R : Int32 × xMem} (hR : xRI G cX8_count 2 R) {a0 : Int32} {M : xMem} (h : g8_count a0 M = some R) : V G 2 0 [(0, .inr 0), (1, .inl a0)] [] M := by
  unfold g8_count at h
  refine V.iload_n (r := 1) hC 1 dX8_count_0 rfl rfl ?_
  refine V.bipush (r := 3) hC dX8_count_1 kb_10 rfl ?_
  refine V.bipush (r := 5) hC dX8_count_3 kb_13 rfl ?_
  obtain ⟨q1, hq2, h⟩ := Option.bind_eq_some_iff.mp h
  try dsimp only at h
  refine V.invSi (as := [.inl a0, .inl (10 : Int32), .inl (13 : Int32)]) (st := []) (r := 8) hC (met8_isIn hq2) ys_X8_isIn ml_RX8_59 dX8_count_5 (by decide) rfl rfl rfl rfl ?_
  refine V.if_eq (tgt := 24) (r := 11) hC dX8_count_8 (by decide) rfl (fun c3 => ?_) (fun c3 => ?_)
  · rw [if_pos c3] at h
    refine V.iload_n (r := 25) hC 1 dX8_count_24 rfl rfl ?_
    refine V.bipush (r := 27) hC dX8_count_25 kb_100 rfl ?_
    refine V.sipush (r := 30) hC dX8_count_27 ks_295 rfl ?_
    obtain ⟨q4, hq5, h⟩ := Option.bind_eq_some_iff.mp h
    try dsimp only at h
    refine V.invSi (as := [.inl a0, .inl (100 : Int32), .inl (295 : Int32)]) (st := []) (r := 33) hC (met8_isIn hq5) ys_X8_isIn ml_RX8_59 dX8_count_30 (by decide) rfl rfl rfl rfl ?_
    refine V.if_eq (tgt := 49) (r := 36) hC dX8_count_33 (by decide) rfl (fun c6 => ?_) (fun c6 => ?_)
    · rw [if_pos c6] at h
      refine V.iload_n (r := 50) hC 1 dX8_count_49 rfl rfl ?_
      by_cases c7 : a0 = (0 : Int32)
      · rw [if_pos c7] at h
        refine V.tabIn (off := 54) (tgt := 104) hC dX8_count_50 c7 (by decide) (by decide) (by decide) (by decide) ?_
        refine V.aload_n (r := 105) hC 0 dX8_count_104 rfl rfl ?_
        refine V.getR (k' := 2) (j := 1) (r := 108) hC xcl_8 sh_0 fl_RX8_20 dX8_count_105 (by decide) rfl rfl ?_
        refine V.getI (b := 0) (i := 327) (j := 5) (r := 111) hC xcl_6 sh_2 fl_RX8_292 dX8_count_108 (by decide) rfl rfl ?_
        cases h
        exact hR _ _ dX8_count_111
      rw [if_neg c7] at h
      by_cases c8 : a0 = (1 : Int32)
      · rw [if_pos c8] at h
        refine V.tabIn (off := 62) (tgt := 112) hC dX8_count_50 c8 (by decide) (by decide) (by decide) (by decide) ?_
        refine V.aload_n (r := 113) hC 0 dX8_count_112 rfl rfl ?_
        refine V.getR (k' := 2) (j := 1) (r := 116) hC xcl_8 sh_0 fl_RX8_20 dX8_count_113 (by decide) rfl rfl ?_
        refine V.getI (b := 0) (i := 328) (j := 6) (r := 119) hC xcl_6 sh_2 fl_RX8_280 dX8_count_116 (by decide) rfl rfl ?_
        cases h
        exact hR _ _ dX8_count_119
      rw [if_neg c8] at h
      by_cases c9 : a0 = (2 : Int32)
      · rw [if_pos c9] at h
        refine V.tabIn (off := 70) (tgt := 120) hC dX8_count_50 c9 (by decide) (by decide) (by decide) (by decide) ?_
        refine V.aload_n (r := 121) hC 0 dX8_count_120 rfl rfl ?_
        refine V.getR (k' := 2) (j := 1) (r := 124) hC xcl_8 sh_0 fl_RX8_20 dX8_count_121 (by decide) rfl rfl ?_
        refine V.getI (b := 0) (i := 329) (j := 7) (r := 127) hC xcl_6 sh_2 fl_RX8_157 dX8_count_124 (by decide) rfl rfl ?_
        cases h
        exact hR _ _ dX8_count_127
      rw [if_neg c9] at h
      by_cases c10 : a0 = (3 : Int32)
      · rw [if_pos c10] at h
        refine V.tabIn (off := 78) (tgt := 128) hC dX8_count_50 c10 (by decide) (by decide) (by decide) (by decide) ?_
        refine V.aload_n (r := 129) hC 0 dX8_count_128 rfl rfl ?_
        refine V.getR (k' := 21) (j := 3) (r := 132) hC xcl_8 sh_0 fl_RX8_32 dX8_count_129 (by decide) rfl rfl ?_
        refine V.getI (b := 26) (i := 0) (j := 6) (r := 135) hC xcl_3 sh_21 fl_RX8_295 dX8_count_132 (by decide) rfl rfl ?_
        cases h
        exact hR _ _ dX8_count_135
      rw [if_neg c10] at h
      by_cases c11 : a0 = (4 : Int32)
      · rw [if_pos c11] at h
        refine V.tabIn (off := 86) (tgt := 136) hC dX8_count_50 c11 (by decide) (by decide) (by decide) (by decide) ?_
        refine V.aload_n (r := 137) hC 0 dX8_count_136 rfl rfl ?_
        refine V.getR (k' := 127) (j := 5) (r := 140) hC xcl_8 sh_0 fl_RX8_44 dX8_count_137 (by decide) rfl rfl ?_
        refine V.getI (b := 121) (i := 0) (j := 1) (r := 143) hC xcl_7 sh_127 fl_RX8_128 dX8_count_140 (by decide) rfl rfl ?_
        cases h
        exact hR _ _ dX8_count_143
      rw [if_neg c11] at h
      by_cases c12 : a0 = (5 : Int32)
      · rw [if_pos c12] at h
        refine V.tabIn (off := 94) (tgt := 144) hC dX8_count_50 c12 (by decide) (by decide) (by decide) (by decide) ?_
        refine V.aload_n (r := 145) hC 0 dX8_count_144 rfl rfl ?_
        refine V.getR (k' := 2) (j := 1) (r := 148) hC xcl_8 sh_0 fl_RX8_20 dX8_count_145 (by decide) rfl rfl ?_
        refine V.getI (b := 0) (i := 330) (j := 8) (r := 151) hC xcl_6 sh_2 fl_RX8_277 dX8_count_148 (by decide) rfl rfl ?_
        cases h
        exact hR _ _ dX8_count_151
      rw [if_neg c12] at h
      by_cases c13 : a0 = (6 : Int32)
      · rw [if_pos c13] at h
        refine V.tabIn (off := 102) (tgt := 152) hC dX8_count_50 c13 (by decide) (by decide) (by decide) (by decide) ?_
        refine V.aload_n (r := 153) hC 0 dX8_count_152 rfl rfl ?_
        refine V.getR (k' := 2) (j := 1) (r := 156) hC xcl_8 sh_0 fl_RX8_20 dX8_count_153 (by decide) rfl rfl ?_
        refine V.getR (k' := 11) (j := 2) (r := 159) hC xcl_6 sh_2 fl_RX8_98 dX8_count_156 (by decide) rfl rfl ?_
        obtain ⟨q14, hq15, h⟩ := Option.bind_eq_some_iff.mp h
        try dsimp only at h
        refine V.invVi (as := []) (st := []) (r := 162) hC (met1_toldBits (by decide) hq15) yv_X1_toldBits ml_RX8_298 sh_11 rfl rfl dX8_count_159 (by decide) rfl rfl rfl rfl ?_
        cases h
        exact hR _ _ dX8_count_162
      rw [if_neg c13] at h
      by_cases c16 : a0 = (7 : Int32)
      · rw [if_pos c16] at h
        refine V.tabIn (off := 113) (tgt := 163) hC dX8_count_50 c16 (by decide) (by decide) (by decide) (by decide) ?_
        refine V.aload_n (r := 164) hC 0 dX8_count_163 rfl rfl ?_
        refine V.getR (k' := 2) (j := 1) (r := 167) hC xcl_8 sh_0 fl_RX8_20 dX8_count_164 (by decide) rfl rfl ?_
        refine V.getR (k' := 11) (j := 2) (r := 170) hC xcl_6 sh_2 fl_RX8_98 dX8_count_167 (by decide) rfl rfl ?_
        obtain ⟨q17, hq18, h⟩ := Option.bind_eq_some_iff.mp h
        try dsimp only at h
        refine V.invVi (as := []) (st := []) (r := 173) hC (met1_onBits (by decide) hq18) yv_X1_onBits ml_RX8_249 sh_11 rfl rfl dX8_count_170 (by decide) rfl rfl rfl rfl ?_
        cases h
        exact hR _ _ dX8_count_173
      rw [if_neg c16] at h
      by_cases c19 : a0 = (8 : Int32)
      · rw [if_pos c19] at h
        refine V.tabIn (off := 124) (tgt := 174) hC dX8_count_50 c19 (by decide) (by decide) (by decide) (by decide) ?_
        refine V.aload_n (r := 175) hC 0 dX8_count_174 rfl rfl ?_
        refine V.getR (k' := 2) (j := 1) (r := 178) hC xcl_8 sh_0 fl_RX8_20 dX8_count_175 (by decide) rfl rfl ?_
        obtain ⟨q20, hq21, h⟩ := Option.bind_eq_some_iff.mp h
        try dsimp only at h
        refine V.invVi (as := []) (st := []) (r := 181) hC (met6_litBits (by decide) hq21) yv_X6_litBits ml_RX8_301 sh_2 rfl rfl dX8_count_178 (by decide) rfl rfl rfl rfl ?_
        cases h
        exact hR _ _ dX8_count_181
      rw [if_neg c19] at h
      by_cases c22 : a0 = (9 : Int32)
      · rw [if_pos c22] at h
        refine V.tabIn (off := 132) (tgt := 182) hC dX8_count_50 c22 (by decide) (by decide) (by decide) (by decide) ?_
        refine V.aload_n (r := 183) hC 0 dX8_count_182 rfl rfl ?_
        refine V.getR (k' := 2) (j := 1) (r := 186) hC xcl_8 sh_0 fl_RX8_20 dX8_count_183 (by decide) rfl rfl ?_
        refine V.getR (k' := 11) (j := 2) (r := 189) hC xcl_6 sh_2 fl_RX8_98 dX8_count_186 (by decide) rfl rfl ?_
        obtain ⟨q23, hq24, h⟩ := Option.bind_eq_some_iff.mp h
        try dsimp only at h
        refine V.invVi (as := []) (st := []) (r := 192) hC (met1_living (by decide) hq24) yv_X1_living ml_RX8_191 sh_11 rfl rfl dX8_count_189 (by decide) rfl rfl rfl rfl ?_
        cases h
        exact hR _ _ dX8_count_192
      rw [if_neg c22] at h
      refine V.tabOut (tgt := 193) hC dX8_count_50 (by have e0 := lv_neT c7 (show ((0 : Int32)).toInt = 0 by decide); have e1 := lv_neT c8 (show ((1 : Int32)).toInt = 1 by decide); have e2 := lv_neT c9 (show ((2 : Int32)).toInt = 2 by decide); have e3 := lv_neT c10 (show ((3 : Int32)).toInt = 3 by decide); have e4 := lv_neT c11 (show ((4 : Int32)).toInt = 4 by decide); have e5 := lv_neT c12 (show ((5 : Int32)).toInt = 5 by decide); have e6 := lv_neT c13 (show ((6 : Int32)).toInt = 6 by decide); have e7 := lv_neT c16 (show ((7 : Int32)).toInt = 7 by decide); have e8 := lv_neT c19 (show ((8 : Int32)).toInt = 8 by decide); have e9 := lv_neT c22 (show ((9 : Int32)).toInt = 9 by decide); omega) (by decide) ?_
      refine V.iconst (r := 194) hC dX8_count_193 ki_m1 rfl ?_
      cases h
      exact hR _ _ dX8_count_194
    · rw [if_neg c6] at h
      refine V.aload_n (r := 37) hC 0 dX8_count_36 rfl rfl ?_
      refine V.getR (k' := 2) (j := 1) (r := 40) hC xcl_8 sh_0 fl_RX8_20 dX8_count_37 (by decide) rfl rfl ?_
      refine V.getR (k' := 3) (j := 0) (r := 43) hC xcl_6 sh_2 fl_RX8_67 dX8_count_40 (by decide) rfl rfl ?_
      refine V.iload_n (r := 44) hC 1 dX8_count_43 rfl rfl ?_
      refine V.bipush (r := 46) hC dX8_count_44 kb_100 rfl ?_
      refine V.isub (r := 47) hC dX8_count_46 rfl ?_
      by_cases c25 : (a0 - (100 : Int32)) < 0 ∨ 196 ≤ (a0 - (100 : Int32)).toNatClampNeg
      · rw [if_pos c25] at h; cases h
      rw [if_neg c25] at h
      refine V.iald (t := (a0 - (100 : Int32)).toNatClampNeg) (r := 48) hC sh_3 dX8_count_47 c25 (Nat.zero_add _) rfl ?_
      cases h
      exact hR _ _ dX8_count_48
  · rw [if_neg c3] at h
    refine V.aload_n (r := 12) hC 0 dX8_count_11 rfl rfl ?_
    refine V.getR (k' := 2) (j := 1) (r := 15) hC xcl_8 sh_0 fl_RX8_20 dX8_count_12 (by decide) rfl rfl ?_
    refine V.getR (k' := 18) (j := 3) (r := 18) hC xcl_6 sh_2 fl_RX8_125 dX8_count_15 (by decide) rfl rfl ?_
    refine V.iload_n (r := 19) hC 1 dX8_count_18 rfl rfl ?_
    refine V.bipush (r := 21) hC dX8_count_19 kb_10 rfl ?_
    refine V.isub (r := 22) hC dX8_count_21 rfl ?_
    by_cases c26 : (a0 - (10 : Int32)) < 0 ∨ 4 ≤ (a0 - (10 : Int32)).toNatClampNeg
    · rw [if_pos c26] at h; cases h
    rw [if_neg c26] at h
    refine V.iald (t := (304 + (a0 - (10 : Int32)).toNatClampNeg)) (r := 23) hC sh_18 dX8_count_22 c26 rfl rfl ?_
    cases h
    exact hR _ _ dX8_count_23
theorem met8_count {R : Int32 × xMem} {a0 : Int32} {M : xMem} (h : g8_count a0 M = some R) : xMet yX8_count cX8_count 2 (some .int) 3 [.inr 0, .inl a0] M (some R.1) R.2 := xMet.ofI (by decide +kernel) (Nat.le_of_ble_eq_true rfl) fun _ hC hR => v8_count  hC hR h
