-- 13.outlook
def g5_countBehind_b31 (rF : Int32 → Int32 → Int32 → xMem → Option (Int32 × xMem)) (x1 x3 : Int32) (M : xMem) : Option (Int32 × xMem) :=
if x1 < 0 ∨ 4 ≤ x1.toNatClampNeg then none else
Option.bind (g1_living (2 + x1.toNatClampNeg) M) fun q15 =>
if (q15.1) < x3 then
(some ((0 : Int32), q15.2))
else
(some ((1 : Int32), q15.2))
set_option maxHeartbeats 4000000 in
set_option maxRecDepth 20000 in
theorem v5_countBehind_b31 {G : xG} {rF : Int32 → Int32 → Int32 → xMem → Option (Int32 × xMem)} {dF : Nat} (hrF : ∀ (a b c : Int32) (N : xMem) (Q : Int32 × xMem), rF a b c N = some Q → xMet yX5_countBehind cX5_countBehind 6 (some .int) dF [.inr 1, .inl a, .inl b, .inl c] N (some Q.1) Q.2) (hdF : 12 ≤ dF) (hC : xC G cX5_countBehind 6 RX5 (dF + 1)) {R : Int32 × xMem} (hR : xRI G cX5_countBehind 6 R) (x1 x3 : Int32) (M : xMem) (h : g5_countBehind_b31 rF x1 x3 M = some R) : V G 6 31 [(0, .inr 1), (1, .inl x1), (3, .inl x3)] [] M := by
  unfold g5_countBehind_b31 at h
  refine V.aload_n (r := 32) hC 0 dX5_countBehind_31 rfl rfl ?_
  refine V.getR (k' := 47) (j := 3) (r := 35) hC xcl_5 sh_1 fl_RX5_28 dX5_countBehind_32 (by decide) rfl rfl ?_
  refine V.iload_n (r := 36) hC 1 dX5_countBehind_35 rfl rfl ?_
  by_cases c14 : x1 < 0 ∨ 4 ≤ x1.toNatClampNeg
  · rw [if_pos c14] at h; cases h
  rw [if_neg c14] at h
  refine V.aald (k' := plc (2 + x1.toNatClampNeg) + 0) (r := 37) hC sh_47 dX5_countBehind_36 c14 (xdrawn c14) rfl ?_
  refine V.getR (k' := plc (2 + x1.toNatClampNeg) + 9) (j := 2) (r := 40) hC xcl_6 (shp_0 _ (xdrawn7 c14)) fl_RX5_92 dX5_countBehind_37 (by decide) rfl rfl ?_
  obtain ⟨q15, hq16, h⟩ := Option.bind_eq_some_iff.mp h
  try dsimp only at h
  refine V.invVi (as := []) (st := []) (r := 43) hC (met1_living (xdrawn7 c14) hq16) yv_X1_living ml_RX5_96 (shp_9 _ (xdrawn7 c14)) rfl rfl dX5_countBehind_40 (by omega) rfl rfl rfl rfl ?_
  refine V.iload_n (r := 44) hC 2 dX5_countBehind_43 rfl rfl ?_
  refine V.icmp_lt (tgt := 51) (r := 47) hC dX5_countBehind_44 (by decide) rfl (fun c17 => ?_) (fun c17 => ?_)
  · rw [if_pos c17] at h
    refine V.iconst (r := 52) hC dX5_countBehind_51 ki_0 rfl ?_
    cases h
    exact hR _ _ dX5_countBehind_52
  · rw [if_neg c17] at h
    refine V.iconst (r := 48) hC dX5_countBehind_47 ki_1 rfl ?_
    refine V.goto (tgt := 52) hC dX5_countBehind_48 (by decide) ?_
    cases h
    exact hR _ _ dX5_countBehind_52
def g5_countBehind_b59 (rF : Int32 → Int32 → Int32 → xMem → Option (Int32 × xMem)) : Nat → Int32 → Int32 → Int32 → Int32 → Int32 → xMem → Option (Int32 × xMem)
  | 0, _, _, _, _, _, _ => none
  | n + 1, x1, x2, x3, x4, x5, M => 
    (if (10 : Int32) ≤ x5 then
    (some (x4, M))
    else
    (if (x1 + (1 : Int32)) < 0 ∨ 4 ≤ (x1 + (1 : Int32)).toNatClampNeg then none else
    if x1 < 0 ∨ 4 ≤ x1.toNatClampNeg then none else
    Option.bind (g6_become (2 + (x1 + (1 : Int32)).toNatClampNeg) (2 + x1.toNatClampNeg) M) fun q8 =>
    Option.bind (g0_passHour (2 + (x1 + (1 : Int32)).toNatClampNeg) x5 q8) fun q10 =>
    Option.bind (rF (x1 + (1 : Int32)) x2 x3 q10.2) fun q12 =>
    g5_countBehind_b59 rF n x1 x2 x3 (x4 + (q12.1)) (x5 + (1 : Int32)) q12.2))
set_option maxHeartbeats 4000000 in
set_option maxRecDepth 20000 in
theorem v5_countBehind_b59 {G : xG} {rF : Int32 → Int32 → Int32 → xMem → Option (Int32 × xMem)} {dF : Nat} (hrF : ∀ (a b c : Int32) (N : xMem) (Q : Int32 × xMem), rF a b c N = some Q → xMet yX5_countBehind cX5_countBehind 6 (some .int) dF [.inr 1, .inl a, .inl b, .inl c] N (some Q.1) Q.2) (hdF : 12 ≤ dF) (hC : xC G cX5_countBehind 6 RX5 (dF + 1)) {R : Int32 × xMem} (hR : xRI G cX5_countBehind 6 R) : ∀ (n : Nat) (x1 x2 x3 x4 x5 : Int32) (M : xMem), g5_countBehind_b59 rF n x1 x2 x3 x4 x5 M = some R → V G 6 59 [(0, .inr 1), (1, .inl x1), (2, .inl x2), (3, .inl x3), (4, .inl x4), (5, .inl x5)] [] M := by
  intro n
  induction n with
  | zero => intro x1 x2 x3 x4 x5 M h; rw [g5_countBehind_b59] at h; cases h
  | succ n ih =>
    intro x1 x2 x3 x4 x5 M h
    rw [g5_countBehind_b59] at h
    refine V.iload (r := 61) hC 5 dX5_countBehind_59 rfl rfl ?_
    refine V.bipush (r := 63) hC dX5_countBehind_61 kb_10 rfl ?_
    refine V.icmp_ge (tgt := 121) (r := 66) hC dX5_countBehind_63 (by decide) rfl (fun c5 => ?_) (fun c5 => ?_)
    · rw [if_pos c5] at h
      refine V.iload (r := 123) hC 4 dX5_countBehind_121 rfl rfl ?_
      cases h
      exact hR _ _ dX5_countBehind_123
    · rw [if_neg c5] at h
      refine V.aload_n (r := 67) hC 0 dX5_countBehind_66 rfl rfl ?_
      refine V.getR (k' := 47) (j := 3) (r := 70) hC xcl_5 sh_1 fl_RX5_28 dX5_countBehind_67 (by decide) rfl rfl ?_
      refine V.iload_n (r := 71) hC 1 dX5_countBehind_70 rfl rfl ?_
      refine V.iconst (r := 72) hC dX5_countBehind_71 ki_1 rfl ?_
      refine V.iadd (r := 73) hC dX5_countBehind_72 rfl ?_
      by_cases c6 : (x1 + (1 : Int32)) < 0 ∨ 4 ≤ (x1 + (1 : Int32)).toNatClampNeg
      · rw [if_pos c6] at h; cases h
      rw [if_neg c6] at h
      refine V.aald (k' := plc (2 + (x1 + (1 : Int32)).toNatClampNeg) + 0) (r := 74) hC sh_47 dX5_countBehind_73 c6 (xdrawn c6) rfl ?_
      refine V.aload_n (r := 75) hC 0 dX5_countBehind_74 rfl rfl ?_
      refine V.getR (k' := 47) (j := 3) (r := 78) hC xcl_5 sh_1 fl_RX5_28 dX5_countBehind_75 (by decide) rfl rfl ?_
      refine V.iload_n (r := 79) hC 1 dX5_countBehind_78 rfl rfl ?_
      by_cases c7 : x1 < 0 ∨ 4 ≤ x1.toNatClampNeg
      · rw [if_pos c7] at h; cases h
      rw [if_neg c7] at h
      refine V.aald (k' := plc (2 + x1.toNatClampNeg) + 0) (r := 80) hC sh_47 dX5_countBehind_79 c7 (xdrawn c7) rfl ?_
      obtain ⟨q8, hq9, h⟩ := Option.bind_eq_some_iff.mp h
      try dsimp only at h
      refine V.invVv (as := [.inr (plc (2 + x1.toNatClampNeg) + 0)]) (st := []) (r := 83) hC (met6_become (xdrawn7 c6) (xdrawn7 c7) hq9) yv_X6_become ml_RX5_134 (shp_0 _ (xdrawn7 c6)) rfl rfl dX5_countBehind_80 (by omega) rfl rfl rfl rfl ?_
      refine V.aload_n (r := 84) hC 0 dX5_countBehind_83 rfl rfl ?_
      refine V.getR (k' := 20) (j := 1) (r := 87) hC xcl_5 sh_1 fl_RX5_21 dX5_countBehind_84 (by decide) rfl rfl ?_
      refine V.aload_n (r := 88) hC 0 dX5_countBehind_87 rfl rfl ?_
      refine V.getR (k' := 47) (j := 3) (r := 91) hC xcl_5 sh_1 fl_RX5_28 dX5_countBehind_88 (by decide) rfl rfl ?_
      refine V.iload_n (r := 92) hC 1 dX5_countBehind_91 rfl rfl ?_
      refine V.iconst (r := 93) hC dX5_countBehind_92 ki_1 rfl ?_
      refine V.iadd (r := 94) hC dX5_countBehind_93 rfl ?_
      refine V.aald (k' := plc (2 + (x1 + (1 : Int32)).toNatClampNeg) + 0) (r := 95) hC sh_47 dX5_countBehind_94 c6 (xdrawn c6) rfl ?_
      refine V.iload (r := 97) hC 5 dX5_countBehind_95 rfl rfl ?_
      obtain ⟨q10, hq11, h⟩ := Option.bind_eq_some_iff.mp h
      try dsimp only at h
      refine V.invVi (as := [.inr (plc (2 + (x1 + (1 : Int32)).toNatClampNeg) + 0), .inl x5]) (st := []) (r := 100) hC (met0_passHour (xdrawn7 c6) hq11) yv_X0_passHour ml_RX5_188 sh_20 rfl rfl dX5_countBehind_97 (by omega) rfl rfl rfl rfl ?_
      refine V.pop (r := 101) hC dX5_countBehind_100 rfl ?_
      refine V.iload (r := 103) hC 4 dX5_countBehind_101 rfl rfl ?_
      refine V.aload_n (r := 104) hC 0 dX5_countBehind_103 rfl rfl ?_
      refine V.iload_n (r := 105) hC 1 dX5_countBehind_104 rfl rfl ?_
      refine V.iconst (r := 106) hC dX5_countBehind_105 ki_1 rfl ?_
      refine V.iadd (r := 107) hC dX5_countBehind_106 rfl ?_
      refine V.iload_n (r := 108) hC 2 dX5_countBehind_107 rfl rfl ?_
      refine V.iload_n (r := 109) hC 3 dX5_countBehind_108 rfl rfl ?_
      obtain ⟨q12, hq13, h⟩ := Option.bind_eq_some_iff.mp h
      try dsimp only at h
      refine V.invVi (as := [.inl (x1 + (1 : Int32)), .inl x2, .inl x3]) (st := [.inl x4]) (r := 112) hC (hrF _ _ _ _ _ hq13) yv_X5_countBehind ml_RX5_184 sh_1 rfl rfl dX5_countBehind_109 (by omega) rfl rfl rfl rfl ?_
      refine V.iadd (r := 113) hC dX5_countBehind_112 rfl ?_
      refine V.ist (lv' := [(0, .inr 1), (1, .inl x1), (2, .inl x2), (3, .inl x3), (4, .inl (x4 + (q12.1))), (5, .inl x5)]) (r := 115) hC dX5_countBehind_113 rfl rfl rfl ?_
      refine V.inc (lv' := [(0, .inr 1), (1, .inl x1), (2, .inl x2), (3, .inl x3), (4, .inl (x4 + (q12.1))), (5, .inl (x5 + (1 : Int32)))]) (r := 118) hC 5 dX5_countBehind_115 rfl ki_1 rfl rfl rfl ?_
      refine V.goto (tgt := 59) hC dX5_countBehind_118 (by decide) ?_
      exact ih _ _ _ _ _ _ h
def g5_countBehind (rF : Int32 → Int32 → Int32 → xMem → Option (Int32 × xMem)) (a0 a1 a2 : Int32) (M : xMem) : Option (Int32 × xMem) :=
if a0 < 0 then
(some ((0 : Int32), M))
else
(if a0 < (4 : Int32) then
(if a1 ≤ a0 then
(g5_countBehind_b31 rF a0 a2 M)
else
(if (a0 + (1 : Int32)) < (4 : Int32) then
(g5_countBehind_b59 rF 5000 a0 a1 a2 (0 : Int32) (0 : Int32) M)
else
(g5_countBehind_b31 rF a0 a2 M)))
else
(some ((0 : Int32), M)))
set_option maxHeartbeats 4000000 in
set_option maxRecDepth 20000 in
theorem v5_countBehind {G : xG} {rF : Int32 → Int32 → Int32 → xMem → Option (Int32 × xMem)} {dF : Nat} (hrF : ∀ (a b c : Int32) (N : xMem) (Q : Int32 × xMem), rF a b c N = some Q → xMet yX5_countBehind cX5_countBehind 6 (some .int) dF [.inr 1, .inl a, .inl b, .inl c] N (some Q.1) Q.2) (hdF : 12 ≤ dF) (hC : xC G cX5_countBehind 6 RX5 (dF + 1)) {R : Int32 × xMem} (hR : xRI G cX5_countBehind 6 R) {a0 a1 a2 : Int32} {M : xMem} (h : g5_countBehind rF a0 a1 a2 M = some R) : V G 6 0 [(0, .inr 1), (1, .inl a0), (2, .inl a1), (3, .inl a2)] [] M := by
  unfold g5_countBehind at h
  refine V.iload_n (r := 1) hC 1 dX5_countBehind_0 rfl rfl ?_
  refine V.if_lt (tgt := 13) (r := 4) hC dX5_countBehind_1 (by decide) rfl (fun c1 => ?_) (fun c1 => ?_)
  · rw [if_pos c1] at h
    refine V.iconst (r := 14) hC dX5_countBehind_13 ki_0 rfl ?_
    cases h
    exact hR _ _ dX5_countBehind_14
  · rw [if_neg c1] at h
    refine V.iload_n (r := 5) hC 1 dX5_countBehind_4 rfl rfl ?_
    refine V.aload_n (r := 6) hC 0 dX5_countBehind_5 rfl rfl ?_
    refine V.getR (k' := 47) (j := 3) (r := 9) hC xcl_5 sh_1 fl_RX5_28 dX5_countBehind_6 (by decide) rfl rfl ?_
    refine V.alenq (v := (4 : Int32)) (r := 10) hC sh_47 dX5_countBehind_9 (by decide) rfl ?_
    refine V.icmp_lt (tgt := 15) (r := 13) hC dX5_countBehind_10 (by decide) rfl (fun c2 => ?_) (fun c2 => ?_)
    · rw [if_pos c2] at h
      refine V.iload_n (r := 16) hC 1 dX5_countBehind_15 rfl rfl ?_
      refine V.iload_n (r := 17) hC 2 dX5_countBehind_16 rfl rfl ?_
      refine V.icmp_ge (tgt := 31) (r := 20) hC dX5_countBehind_17 (by decide) rfl (fun c3 => ?_) (fun c3 => ?_)
      · rw [if_pos c3] at h
        refine V.pick (lv' := [(0, .inr 1), (1, .inl a0), (3, .inl a2)]) [0, 1, 3] rfl ?_
        exact v5_countBehind_b31 hrF hdF hC hR  _ _ _ h
      · rw [if_neg c3] at h
        refine V.iload_n (r := 21) hC 1 dX5_countBehind_20 rfl rfl ?_
        refine V.iconst (r := 22) hC dX5_countBehind_21 ki_1 rfl ?_
        refine V.iadd (r := 23) hC dX5_countBehind_22 rfl ?_
        refine V.aload_n (r := 24) hC 0 dX5_countBehind_23 rfl rfl ?_
        refine V.getR (k' := 47) (j := 3) (r := 27) hC xcl_5 sh_1 fl_RX5_28 dX5_countBehind_24 (by decide) rfl rfl ?_
        refine V.alenq (v := (4 : Int32)) (r := 28) hC sh_47 dX5_countBehind_27 (by decide) rfl ?_
        refine V.icmp_lt (tgt := 53) (r := 31) hC dX5_countBehind_28 (by decide) rfl (fun c4 => ?_) (fun c4 => ?_)
        · rw [if_pos c4] at h
          refine V.iconst (r := 54) hC dX5_countBehind_53 ki_0 rfl ?_
          refine V.ist (lv' := [(0, .inr 1), (1, .inl a0), (2, .inl a1), (3, .inl a2), (4, .inl (0 : Int32))]) (r := 56) hC dX5_countBehind_54 rfl rfl rfl ?_
          refine V.iconst (r := 57) hC dX5_countBehind_56 ki_0 rfl ?_
          refine V.ist (lv' := [(0, .inr 1), (1, .inl a0), (2, .inl a1), (3, .inl a2), (4, .inl (0 : Int32)), (5, .inl (0 : Int32))]) (r := 59) hC dX5_countBehind_57 rfl rfl rfl ?_
          exact v5_countBehind_b59 hrF hdF hC hR  5000 _ _ _ _ _ _ h
        · rw [if_neg c4] at h
          refine V.pick (lv' := [(0, .inr 1), (1, .inl a0), (3, .inl a2)]) [0, 1, 3] rfl ?_
          exact v5_countBehind_b31 hrF hdF hC hR  _ _ _ h
    · rw [if_neg c2] at h
      refine V.iconst (r := 14) hC dX5_countBehind_13 ki_0 rfl ?_
      cases h
      exact hR _ _ dX5_countBehind_14
theorem met5_countBehind {rF : Int32 → Int32 → Int32 → xMem → Option (Int32 × xMem)} {dF : Nat} (hrF : ∀ (a b c : Int32) (N : xMem) (Q : Int32 × xMem), rF a b c N = some Q → xMet yX5_countBehind cX5_countBehind 6 (some .int) dF [.inr 1, .inl a, .inl b, .inl c] N (some Q.1) Q.2) (hdF : 12 ≤ dF) {R : Int32 × xMem} {a0 a1 a2 : Int32} {M : xMem} (h : g5_countBehind rF a0 a1 a2 M = some R) : xMet yX5_countBehind cX5_countBehind 6 (some .int) ((dF + 1)) [.inr 1, .inl a0, .inl a1, .inl a2] M (some R.1) R.2 := xMet.ofI (by decide +kernel) (Nat.le_of_ble_eq_true rfl) fun _ hC hR => v5_countBehind hrF hdF hC hR h
def g5_countBehind_rec : Nat → Int32 → Int32 → Int32 → xMem → Option (Int32 × xMem)
  | 0, _, _, _, _ => none
  | n + 1, a0, a1, a2, M => g5_countBehind (g5_countBehind_rec n) a0 a1 a2 M
theorem met5_countBehind_rec (n d : Nat) : 12 + 1 * n = d → ∀ (a0 a1 a2 : Int32) (M : xMem) (R : Int32 × xMem), g5_countBehind_rec n a0 a1 a2 M = some R → xMet yX5_countBehind cX5_countBehind 6 (some .int) d [.inr 1, .inl a0, .inl a1, .inl a2] M (some R.1) R.2 := by
  induction n generalizing d with
  | zero => intro hd a0 a1 a2 M R h; rw [g5_countBehind_rec] at h; cases h
  | succ n ih =>
    intro hd a0 a1 a2 M R h
    rw [g5_countBehind_rec] at h
    have e : d = (12 + 1 * n) + 1 := by omega
    subst e
    exact met5_countBehind (ih _ rfl) (by omega) h
def g5_chooseInns_b76 (k2 : Int32 → Int32 → xMem → Option (xMem)) (x1 x2 : Int32) (M : xMem) : Option (xMem) :=
k2 x1 (x2 + (1 : Int32)) M
set_option maxHeartbeats 4000000 in
set_option maxRecDepth 20000 in
theorem v5_chooseInns_b76 {G : xG} (hC : xC G cX5_chooseInns 3 RX5 1) {R : xMem} (hR : xRV G cX5_chooseInns 3 R) {k2 : Int32 → Int32 → xMem → Option (xMem)} (hk2 : ∀ (y1 y2 : Int32) (N : xMem), k2 y1 y2 N = some R → V G 3 2 [(0, .inr 1), (1, .inl y1), (2, .inl y2)] [] N) (x1 x2 : Int32) (M : xMem) (h : g5_chooseInns_b76 k2 x1 x2 M = some R) : V G 3 76 [(0, .inr 1), (1, .inl x1), (2, .inl x2)] [] M := by
  unfold g5_chooseInns_b76 at h
  refine V.inc (lv' := [(0, .inr 1), (1, .inl x1), (2, .inl (x2 + (1 : Int32)))]) (r := 79) hC 2 dX5_chooseInns_76 rfl ki_1 rfl rfl rfl ?_
  refine V.goto (tgt := 2) hC dX5_chooseInns_79 (by decide) ?_
  exact hk2 _ _ _ h
def g5_chooseInns_b2 : Nat → Int32 → Int32 → xMem → Option (xMem)
  | 0, _, _, _ => none
  | n + 1, x1, x2, M => 
    (if (9 : Int32) ≤ x2 then
    (some M)
    else
    (if x1 ≤ (M 135 0) then
    (some M)
    else
    (Option.bind (g2_stands 0 x2 M) fun q3 =>
    if (q3.1) = 0 then
    (g5_chooseInns_b76 (g5_chooseInns_b2 n) x1 x2 q3.2)
    else
    (Option.bind (g2_isLit 0 x2 q3.2) fun q6 =>
    if (q6.1) = 0 then
    (if (9 : Int32) ≤ (q6.2 135 0) then
    (g5_chooseInns_b76 (g5_chooseInns_b2 n) x1 x2 q6.2)
    else
    (if (q6.2 135 0) < 0 ∨ 9 ≤ (q6.2 135 0).toNatClampNeg then none else
    mset (upM q6.2 134 (q6.2 135 0).toNatClampNeg x2) fun M11 =>
    mset (upM M11 135 0 ((M11 135 0) + (1 : Int32))) fun M12 =>
    g5_chooseInns_b76 (g5_chooseInns_b2 n) x1 x2 M12))
    else
    (g5_chooseInns_b76 (g5_chooseInns_b2 n) x1 x2 q6.2)))))
set_option maxHeartbeats 4000000 in
set_option maxRecDepth 20000 in
theorem v5_chooseInns_b2 {G : xG} (hC : xC G cX5_chooseInns 3 RX5 1) {R : xMem} (hR : xRV G cX5_chooseInns 3 R) : ∀ (n : Nat) (x1 x2 : Int32) (M : xMem), g5_chooseInns_b2 n x1 x2 M = some R → V G 3 2 [(0, .inr 1), (1, .inl x1), (2, .inl x2)] [] M := by
  intro n
  induction n with
  | zero => intro x1 x2 M h; rw [g5_chooseInns_b2] at h; cases h
  | succ n ih =>
    intro x1 x2 M h
    rw [g5_chooseInns_b2] at h
    refine V.iload_n (r := 3) hC 2 dX5_chooseInns_2 rfl rfl ?_
    refine V.bipush (r := 5) hC dX5_chooseInns_3 kb_9 rfl ?_
    refine V.icmp_ge (tgt := 82) (r := 8) hC dX5_chooseInns_5 (by decide) rfl (fun c1 => ?_) (fun c1 => ?_)
    · rw [if_pos c1] at h
      cases h
      exact hR _ _ dX5_chooseInns_82
    · rw [if_neg c1] at h
      refine V.aload_n (r := 9) hC 0 dX5_chooseInns_8 rfl rfl ?_
      refine V.getI (b := 135) (i := 0) (j := 5) (r := 12) hC xcl_5 sh_1 fl_RX5_36 dX5_chooseInns_9 (by decide) rfl rfl ?_
      refine V.iload_n (r := 13) hC 1 dX5_chooseInns_12 rfl rfl ?_
      refine V.icmp_ge (tgt := 82) (r := 16) hC dX5_chooseInns_13 (by decide) rfl (fun c2 => ?_) (fun c2 => ?_)
      · rw [if_pos c2] at h
        cases h
        exact hR _ _ dX5_chooseInns_82
      · rw [if_neg c2] at h
        refine V.aload_n (r := 17) hC 0 dX5_chooseInns_16 rfl rfl ?_
        refine V.getR (k' := 2) (j := 0) (r := 20) hC xcl_5 sh_1 fl_RX5_12 dX5_chooseInns_17 (by decide) rfl rfl ?_
        refine V.getR (k' := 4) (j := 1) (r := 23) hC xcl_6 sh_2 fl_RX5_122 dX5_chooseInns_20 (by decide) rfl rfl ?_
        refine V.iload_n (r := 24) hC 2 dX5_chooseInns_23 rfl rfl ?_
        obtain ⟨q3, hq4, h⟩ := Option.bind_eq_some_iff.mp h
        try dsimp only at h
        refine V.invVi (as := [.inl x2]) (st := []) (r := 27) hC (met2_stands (by decide) hq4) yv_X2_stands ml_RX5_126 sh_4 rfl rfl dX5_chooseInns_24 (by decide) rfl rfl rfl rfl ?_
        refine V.if_eq (tgt := 76) (r := 30) hC dX5_chooseInns_27 (by decide) rfl (fun c5 => ?_) (fun c5 => ?_)
        · rw [if_pos c5] at h
          exact v5_chooseInns_b76  hC hR ih _ _ _ h
        · rw [if_neg c5] at h
          refine V.aload_n (r := 31) hC 0 dX5_chooseInns_30 rfl rfl ?_
          refine V.getR (k' := 2) (j := 0) (r := 34) hC xcl_5 sh_1 fl_RX5_12 dX5_chooseInns_31 (by decide) rfl rfl ?_
          refine V.getR (k' := 4) (j := 1) (r := 37) hC xcl_6 sh_2 fl_RX5_122 dX5_chooseInns_34 (by decide) rfl rfl ?_
          refine V.iload_n (r := 38) hC 2 dX5_chooseInns_37 rfl rfl ?_
          obtain ⟨q6, hq7, h⟩ := Option.bind_eq_some_iff.mp h
          try dsimp only at h
          refine V.invVi (as := [.inl x2]) (st := []) (r := 41) hC (met2_isLit (by decide) hq7) yv_X2_isLit ml_RX5_131 sh_4 rfl rfl dX5_chooseInns_38 (by decide) rfl rfl rfl rfl ?_
          refine V.if_ne (tgt := 76) (r := 44) hC dX5_chooseInns_41 (by decide) rfl (fun c8 => ?_) (fun c8 => ?_)
          · rw [if_neg c8] at h
            exact v5_chooseInns_b76  hC hR ih _ _ _ h
          · rw [if_pos c8] at h
            refine V.aload_n (r := 45) hC 0 dX5_chooseInns_44 rfl rfl ?_
            refine V.getI (b := 135) (i := 0) (j := 5) (r := 48) hC xcl_5 sh_1 fl_RX5_36 dX5_chooseInns_45 (by decide) rfl rfl ?_
            refine V.aload_n (r := 49) hC 0 dX5_chooseInns_48 rfl rfl ?_
            refine V.getR (k' := 120) (j := 4) (r := 52) hC xcl_5 sh_1 fl_RX5_32 dX5_chooseInns_49 (by decide) rfl rfl ?_
            refine V.alen (v := (9 : Int32)) (r := 53) hC sh_120 (by decide) dX5_chooseInns_52 (by decide) rfl ?_
            refine V.icmp_ge (tgt := 76) (r := 56) hC dX5_chooseInns_53 (by decide) rfl (fun c9 => ?_) (fun c9 => ?_)
            · rw [if_pos c9] at h
              exact v5_chooseInns_b76  hC hR ih _ _ _ h
            · rw [if_neg c9] at h
              refine V.aload_n (r := 57) hC 0 dX5_chooseInns_56 rfl rfl ?_
              refine V.getR (k' := 120) (j := 4) (r := 60) hC xcl_5 sh_1 fl_RX5_32 dX5_chooseInns_57 (by decide) rfl rfl ?_
              refine V.aload_n (r := 61) hC 0 dX5_chooseInns_60 rfl rfl ?_
              refine V.getI (b := 135) (i := 0) (j := 5) (r := 64) hC xcl_5 sh_1 fl_RX5_36 dX5_chooseInns_61 (by decide) rfl rfl ?_
              refine V.iload_n (r := 65) hC 2 dX5_chooseInns_64 rfl rfl ?_
              by_cases c10 : (q6.2 135 0) < 0 ∨ 9 ≤ (q6.2 135 0).toNatClampNeg
              · rw [if_pos c10] at h; cases h
              rw [if_neg c10] at h
              rw [mset_eq] at h
              refine V.iast (t := (q6.2 135 0).toNatClampNeg) (r := 66) hC sh_120 dX5_chooseInns_65 c10 (Nat.zero_add _) rfl ?_
              generalize upM q6.2 134 (q6.2 135 0).toNatClampNeg x2 = M11 at h ⊢
              refine V.aload_n (r := 67) hC 0 dX5_chooseInns_66 rfl rfl ?_
              refine V.dup (r := 68) hC dX5_chooseInns_67 rfl ?_
              refine V.getI (b := 135) (i := 0) (j := 5) (r := 71) hC xcl_5 sh_1 fl_RX5_36 dX5_chooseInns_68 (by decide) rfl rfl ?_
              refine V.iconst (r := 72) hC dX5_chooseInns_71 ki_1 rfl ?_
              refine V.iadd (r := 73) hC dX5_chooseInns_72 rfl ?_
              rw [mset_eq] at h
              refine V.putI (b := 135) (i := 0) (j := 5) (ty := .int) (r := 76) hC xcl_5 xcp_5 sh_1 fl_RX5_36 dX5_chooseInns_73 (by decide) rfl rfl (by decide +kernel) rfl rfl rfl ?_
              generalize upM M11 135 0 ((M11 135 0) + (1 : Int32)) = M12 at h ⊢
              exact v5_chooseInns_b76  hC hR ih _ _ _ h
def g5_chooseInns (a0 : Int32) (M : xMem) : Option (xMem) :=
g5_chooseInns_b2 5000 a0 (0 : Int32) M
set_option maxHeartbeats 4000000 in
set_option maxRecDepth 20000 in
theorem v5_chooseInns {G : xG} (hC : xC G cX5_chooseInns 3 RX5 1) {R : xMem} (hR : xRV G cX5_chooseInns 3 R) {a0 : Int32} {M : xMem} (h : g5_chooseInns a0 M = some R) : V G 3 0 [(0, .inr 1), (1, .inl a0)] [] M := by
  unfold g5_chooseInns at h
  refine V.iconst (r := 1) hC dX5_chooseInns_0 ki_0 rfl ?_
  refine V.ist_n (lv' := [(0, .inr 1), (1, .inl a0), (2, .inl (0 : Int32))]) (r := 2) hC dX5_chooseInns_1 rfl rfl rfl ?_
  exact v5_chooseInns_b2  hC hR  5000 _ _ _ h
theorem met5_chooseInns {R : xMem} {a0 : Int32} {M : xMem} (h : g5_chooseInns a0 M = some R) : xMet yX5_chooseInns cX5_chooseInns 3 none 1 [.inr 1, .inl a0] M none R := xMet.ofV (by decide +kernel) (Nat.le_of_ble_eq_true rfl) fun _ hC hR => v5_chooseInns  hC hR h
def gJ7_fill_53178_121_b5 : Nat → Int32 → Int32 → Int32 → xMem → Option (xMem)
  | 0, _, _, _, _ => none
  | n + 1, x1, x2, x3, M => 
    (if x3 ≤ x2 then
    (some M)
    else
    (if x2 < 0 ∨ 512 ≤ x2.toNatClampNeg then none else
    mset (upM M 136 x2.toNatClampNeg x1) fun M3 =>
    gJ7_fill_53178_121_b5 n x1 (x2 + (1 : Int32)) x3 M3))
set_option maxHeartbeats 4000000 in
set_option maxRecDepth 20000 in
theorem vJ7_fill_53178_121_b5 {G : xG} (hC : xC G cJ7_fill_53178 4 RJ7 0) {R : xMem} (hR : xRV G cJ7_fill_53178 4 R) : ∀ (n : Nat) (x1 x2 x3 : Int32) (M : xMem), gJ7_fill_53178_121_b5 n x1 x2 x3 M = some R → V G 4 5 [(0, .inr 121), (1, .inl x1), (2, .inl x2), (3, .inl x3)] [] M := by
  intro n
  induction n with
  | zero => intro x1 x2 x3 M h; rw [gJ7_fill_53178_121_b5] at h; cases h
  | succ n ih =>
    intro x1 x2 x3 M h
    rw [gJ7_fill_53178_121_b5] at h
    refine V.iload_n (r := 6) hC 2 dJ7_fill_53178_5 rfl rfl ?_
    refine V.iload_n (r := 7) hC 3 dJ7_fill_53178_6 rfl rfl ?_
    refine V.icmp_ge (tgt := 20) (r := 10) hC dJ7_fill_53178_7 (by decide) rfl (fun c1 => ?_) (fun c1 => ?_)
    · rw [if_pos c1] at h
      cases h
      exact hR _ _ dJ7_fill_53178_20
    · rw [if_neg c1] at h
      refine V.aload_n (r := 11) hC 0 dJ7_fill_53178_10 rfl rfl ?_
      refine V.iload_n (r := 12) hC 2 dJ7_fill_53178_11 rfl rfl ?_
      refine V.iload_n (r := 13) hC 1 dJ7_fill_53178_12 rfl rfl ?_
      by_cases c2 : x2 < 0 ∨ 512 ≤ x2.toNatClampNeg
      · rw [if_pos c2] at h; cases h
      rw [if_neg c2] at h
      rw [mset_eq] at h
      refine V.iast (t := x2.toNatClampNeg) (r := 14) hC sh_121 dJ7_fill_53178_13 c2 (Nat.zero_add _) rfl ?_
      generalize upM M 136 x2.toNatClampNeg x1 = M3 at h ⊢
      refine V.inc (lv' := [(0, .inr 121), (1, .inl x1), (2, .inl (x2 + (1 : Int32))), (3, .inl x3)]) (r := 17) hC 2 dJ7_fill_53178_14 rfl ki_1 rfl rfl rfl ?_
      refine V.goto (tgt := 5) hC dJ7_fill_53178_17 (by decide) ?_
      exact ih _ _ _ _ h
def gJ7_fill_53178_121 (a1 : Int32) (M : xMem) : Option (xMem) :=
gJ7_fill_53178_121_b5 5000 a1 (0 : Int32) (512 : Int32) M
set_option maxHeartbeats 4000000 in
set_option maxRecDepth 20000 in
theorem vJ7_fill_53178_121 {G : xG} (hC : xC G cJ7_fill_53178 4 RJ7 0) {R : xMem} (hR : xRV G cJ7_fill_53178 4 R) {a1 : Int32} {M : xMem} (h : gJ7_fill_53178_121 a1 M = some R) : V G 4 0 [(0, .inr 121), (1, .inl a1)] [] M := by
  unfold gJ7_fill_53178_121 at h
  refine V.iconst (r := 1) hC dJ7_fill_53178_0 ki_0 rfl ?_
  refine V.ist_n (lv' := [(0, .inr 121), (1, .inl a1), (2, .inl (0 : Int32))]) (r := 2) hC dJ7_fill_53178_1 rfl rfl rfl ?_
  refine V.aload_n (r := 3) hC 0 dJ7_fill_53178_2 rfl rfl ?_
  refine V.alen (v := (512 : Int32)) (r := 4) hC sh_121 (by decide) dJ7_fill_53178_3 (by decide) rfl ?_
  refine V.ist_n (lv' := [(0, .inr 121), (1, .inl a1), (2, .inl (0 : Int32)), (3, .inl (512 : Int32))]) (r := 5) hC dJ7_fill_53178_4 rfl rfl rfl ?_
  exact vJ7_fill_53178_121_b5  hC hR  5000 _ _ _ _ h
theorem metJ7_fill_53178_121 {R : xMem} {a1 : Int32} {M : xMem} (h : gJ7_fill_53178_121 a1 M = some R) : xMet yJ7_fill_53178 cJ7_fill_53178 4 none 0 [.inr 121, .inl a1] M none R := xMet.ofV (by decide +kernel) (Nat.le_of_ble_eq_true rfl) fun _ hC hR => vJ7_fill_53178_121  hC hR h
def g5_isSet (a0 : Int32) (M : xMem) : Option (Int32 × xMem) :=
if a0 < 0 then
(some ((0 : Int32), M))
else
(if (512 : Int32) ≤ a0 then
(some ((0 : Int32), M))
else
(if ((1 : Int32) <<< ((M 135 0) &&& 31)) ≤ a0 then
(some ((0 : Int32), M))
else
(some ((1 : Int32), M))))
set_option maxHeartbeats 4000000 in
set_option maxRecDepth 20000 in
theorem v5_isSet {G : xG} (hC : xC G cX5_isSet 2 RX5 0) {R : Int32 × xMem} (hR : xRZ G cX5_isSet 2 R) {a0 : Int32} {M : xMem} (h : g5_isSet a0 M = some R) : V G 2 0 [(0, .inr 1), (1, .inl a0)] [] M := by
  unfold g5_isSet at h
  refine V.iload_n (r := 1) hC 1 dX5_isSet_0 rfl rfl ?_
  refine V.if_lt (tgt := 25) (r := 4) hC dX5_isSet_1 (by decide) rfl (fun c1 => ?_) (fun c1 => ?_)
  · rw [if_pos c1] at h
    refine V.iconst (r := 26) hC dX5_isSet_25 ki_0 rfl ?_
    cases h
    exact hR _ _ (Or.inl rfl) dX5_isSet_26
  · rw [if_neg c1] at h
    refine V.iload_n (r := 5) hC 1 dX5_isSet_4 rfl rfl ?_
    refine V.sipush (r := 8) hC dX5_isSet_5 ks_512 rfl ?_
    refine V.icmp_ge (tgt := 25) (r := 11) hC dX5_isSet_8 (by decide) rfl (fun c2 => ?_) (fun c2 => ?_)
    · rw [if_pos c2] at h
      refine V.iconst (r := 26) hC dX5_isSet_25 ki_0 rfl ?_
      cases h
      exact hR _ _ (Or.inl rfl) dX5_isSet_26
    · rw [if_neg c2] at h
      refine V.iload_n (r := 12) hC 1 dX5_isSet_11 rfl rfl ?_
      refine V.iconst (r := 13) hC dX5_isSet_12 ki_1 rfl ?_
      refine V.aload_n (r := 14) hC 0 dX5_isSet_13 rfl rfl ?_
      refine V.getI (b := 135) (i := 0) (j := 5) (r := 17) hC xcl_5 sh_1 fl_RX5_36 dX5_isSet_14 (by decide) rfl rfl ?_
      refine V.ishl (r := 18) hC dX5_isSet_17 rfl ?_
      refine V.icmp_ge (tgt := 25) (r := 21) hC dX5_isSet_18 (by decide) rfl (fun c3 => ?_) (fun c3 => ?_)
      · rw [if_pos c3] at h
        refine V.iconst (r := 26) hC dX5_isSet_25 ki_0 rfl ?_
        cases h
        exact hR _ _ (Or.inl rfl) dX5_isSet_26
      · rw [if_neg c3] at h
        refine V.iconst (r := 22) hC dX5_isSet_21 ki_1 rfl ?_
        refine V.goto (tgt := 26) hC dX5_isSet_22 (by decide) ?_
        cases h
        exact hR _ _ (Or.inr rfl) dX5_isSet_26
theorem met5_isSet {R : Int32 × xMem} {a0 : Int32} {M : xMem} (h : g5_isSet a0 M = some R) : xMet yX5_isSet cX5_isSet 2 (some .boolean) 0 [.inr 1, .inl a0] M (some R.1) R.2 := xMet.ofZ (by decide +kernel) (Nat.le_of_ble_eq_true rfl) fun _ hC hR => v5_isSet  hC hR h
def g5_lightSet_b57 (k13 : Int32 → Int32 → xMem → Option (xMem)) (x1 x2 s1 s2 : Int32) (M : xMem) : Option (xMem) :=
Option.bind (g2_light 1 s1 s2 M) fun q7 =>
k13 x1 (x2 + (1 : Int32)) q7
set_option maxHeartbeats 4000000 in
set_option maxRecDepth 20000 in
theorem v5_lightSet_b57 {G : xG} (hC : xC G cX5_lightSet 3 RX5 3) {R : xMem} (hR : xRV G cX5_lightSet 3 R) {k13 : Int32 → Int32 → xMem → Option (xMem)} (hk13 : ∀ (y1 y2 : Int32) (N : xMem), k13 y1 y2 N = some R → V G 3 13 [(0, .inr 1), (1, .inl y1), (2, .inl y2)] [] N) (x1 x2 s1 s2 : Int32) (M : xMem) (h : g5_lightSet_b57 k13 x1 x2 s1 s2 M = some R) : V G 3 57 [(0, .inr 1), (1, .inl x1), (2, .inl x2)] [.inl s2, .inl s1, .inr 31] M := by
  unfold g5_lightSet_b57 at h
  obtain ⟨q7, hq8, h⟩ := Option.bind_eq_some_iff.mp h
  try dsimp only at h
  refine V.invVv (as := [.inl s1, .inl s2]) (st := []) (r := 60) hC (met2_light (by decide) hq8) yv_X2_light ml_RX5_138 sh_31 rfl rfl dX5_lightSet_57 (by decide) rfl rfl rfl rfl ?_
  refine V.inc (lv' := [(0, .inr 1), (1, .inl x1), (2, .inl (x2 + (1 : Int32)))]) (r := 63) hC 2 dX5_lightSet_60 rfl ki_1 rfl rfl rfl ?_
  refine V.goto (tgt := 13) hC dX5_lightSet_63 (by decide) ?_
  exact hk13 _ _ _ h
def g5_lightSet_b66 (M : xMem) : Option (xMem) :=
mset (upM M 102 0 (0 : Int32)) fun M9 =>
some M9
set_option maxHeartbeats 4000000 in
set_option maxRecDepth 20000 in
theorem v5_lightSet_b66 {G : xG} (hC : xC G cX5_lightSet 3 RX5 3) {R : xMem} (hR : xRV G cX5_lightSet 3 R) (M : xMem) (h : g5_lightSet_b66 M = some R) : V G 3 66 [(0, .inr 1)] [] M := by
  unfold g5_lightSet_b66 at h
  refine V.aload_n (r := 67) hC 0 dX5_lightSet_66 rfl rfl ?_
  refine V.getR (k' := 20) (j := 1) (r := 70) hC xcl_5 sh_1 fl_RX5_21 dX5_lightSet_67 (by decide) rfl rfl ?_
  refine V.iconst (r := 71) hC dX5_lightSet_70 ki_0 rfl ?_
  rw [mset_eq] at h
  refine V.putI (b := 102) (i := 0) (j := 2) (ty := .int) (r := 74) hC xcl_0 xcp_0 sh_20 fl_RX5_142 dX5_lightSet_71 (by decide) rfl rfl (by decide +kernel) rfl rfl rfl ?_
  generalize upM M 102 0 (0 : Int32) = M9 at h ⊢
  cases h
  exact hR _ _ dX5_lightSet_74
def g5_lightSet_b13 : Nat → Int32 → Int32 → xMem → Option (xMem)
  | 0, _, _, _ => none
  | n + 1, x1, x2, M => 
    (if (M 135 0) ≤ x2 then
    (g5_lightSet_b66 M)
    else
    (if (9 : Int32) ≤ x2 then
    (g5_lightSet_b66 M)
    else
    (if x2 < 0 ∨ 9 ≤ x2.toNatClampNeg then none else
    if ((x1 >>> (x2 &&& 31)) &&& (1 : Int32)) = (1 : Int32) then
    (g5_lightSet_b57 (g5_lightSet_b13 n) x1 x2 (M 134 x2.toNatClampNeg) (1 : Int32) M)
    else
    (g5_lightSet_b57 (g5_lightSet_b13 n) x1 x2 (M 134 x2.toNatClampNeg) (0 : Int32) M))))
set_option maxHeartbeats 4000000 in
set_option maxRecDepth 20000 in
theorem v5_lightSet_b13 {G : xG} (hC : xC G cX5_lightSet 3 RX5 3) {R : xMem} (hR : xRV G cX5_lightSet 3 R) : ∀ (n : Nat) (x1 x2 : Int32) (M : xMem), g5_lightSet_b13 n x1 x2 M = some R → V G 3 13 [(0, .inr 1), (1, .inl x1), (2, .inl x2)] [] M := by
  intro n
  induction n with
  | zero => intro x1 x2 M h; rw [g5_lightSet_b13] at h; cases h
  | succ n ih =>
    intro x1 x2 M h
    rw [g5_lightSet_b13] at h
    refine V.iload_n (r := 14) hC 2 dX5_lightSet_13 rfl rfl ?_
    refine V.aload_n (r := 15) hC 0 dX5_lightSet_14 rfl rfl ?_
    refine V.getI (b := 135) (i := 0) (j := 5) (r := 18) hC xcl_5 sh_1 fl_RX5_36 dX5_lightSet_15 (by decide) rfl rfl ?_
    refine V.icmp_ge (tgt := 66) (r := 21) hC dX5_lightSet_18 (by decide) rfl (fun c3 => ?_) (fun c3 => ?_)
    · rw [if_pos c3] at h
      refine V.pick (lv' := [(0, .inr 1)]) [0] rfl ?_
      exact v5_lightSet_b66  hC hR  _ h
    · rw [if_neg c3] at h
      refine V.iload_n (r := 22) hC 2 dX5_lightSet_21 rfl rfl ?_
      refine V.aload_n (r := 23) hC 0 dX5_lightSet_22 rfl rfl ?_
      refine V.getR (k' := 120) (j := 4) (r := 26) hC xcl_5 sh_1 fl_RX5_32 dX5_lightSet_23 (by decide) rfl rfl ?_
      refine V.alen (v := (9 : Int32)) (r := 27) hC sh_120 (by decide) dX5_lightSet_26 (by decide) rfl ?_
      refine V.icmp_ge (tgt := 66) (r := 30) hC dX5_lightSet_27 (by decide) rfl (fun c4 => ?_) (fun c4 => ?_)
      · rw [if_pos c4] at h
        refine V.pick (lv' := [(0, .inr 1)]) [0] rfl ?_
        exact v5_lightSet_b66  hC hR  _ h
      · rw [if_neg c4] at h
        refine V.aload_n (r := 31) hC 0 dX5_lightSet_30 rfl rfl ?_
        refine V.getR (k' := 29) (j := 2) (r := 34) hC xcl_5 sh_1 fl_RX5_25 dX5_lightSet_31 (by decide) rfl rfl ?_
        refine V.getR (k' := 31) (j := 1) (r := 37) hC xcl_6 sh_29 fl_RX5_122 dX5_lightSet_34 (by decide) rfl rfl ?_
        refine V.aload_n (r := 38) hC 0 dX5_lightSet_37 rfl rfl ?_
        refine V.getR (k' := 120) (j := 4) (r := 41) hC xcl_5 sh_1 fl_RX5_32 dX5_lightSet_38 (by decide) rfl rfl ?_
        refine V.iload_n (r := 42) hC 2 dX5_lightSet_41 rfl rfl ?_
        by_cases c5 : x2 < 0 ∨ 9 ≤ x2.toNatClampNeg
        · rw [if_pos c5] at h; cases h
        rw [if_neg c5] at h
        refine V.iald (t := x2.toNatClampNeg) (r := 43) hC sh_120 dX5_lightSet_42 c5 (Nat.zero_add _) rfl ?_
        refine V.iload_n (r := 44) hC 1 dX5_lightSet_43 rfl rfl ?_
        refine V.iload_n (r := 45) hC 2 dX5_lightSet_44 rfl rfl ?_
        refine V.ishr (r := 46) hC dX5_lightSet_45 rfl ?_
        refine V.iconst (r := 47) hC dX5_lightSet_46 ki_1 rfl ?_
        refine V.iand (r := 48) hC dX5_lightSet_47 rfl ?_
        refine V.iconst (r := 49) hC dX5_lightSet_48 ki_1 rfl ?_
        refine V.icmp_ne (tgt := 56) (r := 52) hC dX5_lightSet_49 (by decide) rfl (fun c6 => ?_) (fun c6 => ?_)
        · rw [if_neg c6] at h
          refine V.iconst (r := 57) hC dX5_lightSet_56 ki_0 rfl ?_
          exact v5_lightSet_b57  hC hR ih _ _ _ _ _ h
        · rw [if_pos c6] at h
          refine V.iconst (r := 53) hC dX5_lightSet_52 ki_1 rfl ?_
          refine V.goto (tgt := 57) hC dX5_lightSet_53 (by decide) ?_
          exact v5_lightSet_b57  hC hR ih _ _ _ _ _ h
def g5_lightSet (a0 : Int32) (M : xMem) : Option (xMem) :=
Option.bind (g6_become 1 0 M) fun q1 =>
g5_lightSet_b13 5000 a0 (0 : Int32) q1
set_option maxHeartbeats 4000000 in
set_option maxRecDepth 20000 in
theorem v5_lightSet {G : xG} (hC : xC G cX5_lightSet 3 RX5 3) {R : xMem} (hR : xRV G cX5_lightSet 3 R) {a0 : Int32} {M : xMem} (h : g5_lightSet a0 M = some R) : V G 3 0 [(0, .inr 1), (1, .inl a0)] [] M := by
  unfold g5_lightSet at h
  refine V.aload_n (r := 1) hC 0 dX5_lightSet_0 rfl rfl ?_
  refine V.getR (k' := 29) (j := 2) (r := 4) hC xcl_5 sh_1 fl_RX5_25 dX5_lightSet_1 (by decide) rfl rfl ?_
  refine V.aload_n (r := 5) hC 0 dX5_lightSet_4 rfl rfl ?_
  refine V.getR (k' := 2) (j := 0) (r := 8) hC xcl_5 sh_1 fl_RX5_12 dX5_lightSet_5 (by decide) rfl rfl ?_
  obtain ⟨q1, hq2, h⟩ := Option.bind_eq_some_iff.mp h
  try dsimp only at h
  refine V.invVv (as := [.inr 2]) (st := []) (r := 11) hC (met6_become (by decide) (by decide) hq2) yv_X6_become ml_RX5_134 sh_29 rfl rfl dX5_lightSet_8 (by decide) rfl rfl rfl rfl ?_
  refine V.iconst (r := 12) hC dX5_lightSet_11 ki_0 rfl ?_
  refine V.ist_n (lv' := [(0, .inr 1), (1, .inl a0), (2, .inl (0 : Int32))]) (r := 13) hC dX5_lightSet_12 rfl rfl rfl ?_
  exact v5_lightSet_b13  hC hR  5000 _ _ _ h
theorem met5_lightSet {R : xMem} {a0 : Int32} {M : xMem} (h : g5_lightSet a0 M = some R) : xMet yX5_lightSet cX5_lightSet 3 none 3 [.inr 1, .inl a0] M none R := xMet.ofV (by decide +kernel) (Nat.le_of_ble_eq_true rfl) fun _ hC hR => v5_lightSet  hC hR h
def g5_note_b90 (k56 : Int32 → Int32 → Int32 → Int32 → xMem → Option (xMem)) (x1 x2 x3 x4 : Int32) (M : xMem) : Option (xMem) :=
k56 x1 x2 x3 (x4 + (1 : Int32)) M
set_option maxHeartbeats 4000000 in
set_option maxRecDepth 20000 in
theorem v5_note_b90 {G : xG} (hC : xC G cX5_note 5 RX5 1) {R : xMem} (hR : xRV G cX5_note 5 R) {k56 : Int32 → Int32 → Int32 → Int32 → xMem → Option (xMem)} (hk56 : ∀ (y1 y2 y3 y4 : Int32) (N : xMem), k56 y1 y2 y3 y4 N = some R → V G 5 56 [(0, .inr 1), (1, .inl y1), (2, .inl y2), (3, .inl y3), (4, .inl y4)] [] N) (x1 x2 x3 x4 : Int32) (M : xMem) (h : g5_note_b90 k56 x1 x2 x3 x4 M = some R) : V G 5 90 [(0, .inr 1), (1, .inl x1), (2, .inl x2), (3, .inl x3), (4, .inl x4)] [] M := by
  unfold g5_note_b90 at h
  refine V.inc (lv' := [(0, .inr 1), (1, .inl x1), (2, .inl x2), (3, .inl x3), (4, .inl (x4 + (1 : Int32)))]) (r := 93) hC 4 dX5_note_90 rfl ki_1 rfl rfl rfl ?_
  refine V.goto (tgt := 56) hC dX5_note_93 (by decide) ?_
  exact hk56 _ _ _ _ _ h
def g5_note_b56 : Nat → Int32 → Int32 → Int32 → Int32 → xMem → Option (xMem)
  | 0, _, _, _, _, _ => none
  | n + 1, x1, x2, x3, x4, M => 
    (if (512 : Int32) ≤ x4 then
    (some M)
    else
    (Option.bind (g5_isSet x4 M) fun q5 =>
    if (q5.1) = 0 then
    (some q5.2)
    else
    (if ((x4 ^^^ x1) &&& x3) = 0 then
    (if x4 < 0 ∨ 512 ≤ x4.toNatClampNeg then none else
    mset (upM q5.2 136 x4.toNatClampNeg x2) fun M10 =>
    g5_note_b90 (g5_note_b56 n) x1 x2 x3 x4 M10)
    else
    (g5_note_b90 (g5_note_b56 n) x1 x2 x3 x4 q5.2))))
set_option maxHeartbeats 4000000 in
set_option maxRecDepth 20000 in
theorem v5_note_b56 {G : xG} (hC : xC G cX5_note 5 RX5 1) {R : xMem} (hR : xRV G cX5_note 5 R) : ∀ (n : Nat) (x1 x2 x3 x4 : Int32) (M : xMem), g5_note_b56 n x1 x2 x3 x4 M = some R → V G 5 56 [(0, .inr 1), (1, .inl x1), (2, .inl x2), (3, .inl x3), (4, .inl x4)] [] M := by
  intro n
  induction n with
  | zero => intro x1 x2 x3 x4 M h; rw [g5_note_b56] at h; cases h
  | succ n ih =>
    intro x1 x2 x3 x4 M h
    rw [g5_note_b56] at h
    refine V.iload (r := 58) hC 4 dX5_note_56 rfl rfl ?_
    refine V.sipush (r := 61) hC dX5_note_58 ks_512 rfl ?_
    refine V.icmp_ge (tgt := 96) (r := 64) hC dX5_note_61 (by decide) rfl (fun c4 => ?_) (fun c4 => ?_)
    · rw [if_pos c4] at h
      cases h
      exact hR _ _ dX5_note_96
    · rw [if_neg c4] at h
      refine V.aload_n (r := 65) hC 0 dX5_note_64 rfl rfl ?_
      refine V.iload (r := 67) hC 4 dX5_note_65 rfl rfl ?_
      obtain ⟨q5, hq6, h⟩ := Option.bind_eq_some_iff.mp h
      try dsimp only at h
      refine V.invVi (as := [.inl x4]) (st := []) (r := 70) hC (met5_isSet hq6) yv_X5_isSet ml_RX5_77 sh_1 rfl rfl dX5_note_67 (by decide) rfl rfl rfl rfl ?_
      refine V.if_eq (tgt := 96) (r := 73) hC dX5_note_70 (by decide) rfl (fun c7 => ?_) (fun c7 => ?_)
      · rw [if_pos c7] at h
        cases h
        exact hR _ _ dX5_note_96
      · rw [if_neg c7] at h
        refine V.iload (r := 75) hC 4 dX5_note_73 rfl rfl ?_
        refine V.iload_n (r := 76) hC 1 dX5_note_75 rfl rfl ?_
        refine V.ixor (r := 77) hC dX5_note_76 rfl ?_
        refine V.iload_n (r := 78) hC 3 dX5_note_77 rfl rfl ?_
        refine V.iand (r := 79) hC dX5_note_78 rfl ?_
        refine V.if_ne (tgt := 90) (r := 82) hC dX5_note_79 (by decide) rfl (fun c8 => ?_) (fun c8 => ?_)
        · rw [if_neg c8] at h
          exact v5_note_b90  hC hR ih _ _ _ _ _ h
        · rw [if_pos c8] at h
          refine V.aload_n (r := 83) hC 0 dX5_note_82 rfl rfl ?_
          refine V.getR (k' := 121) (j := 6) (r := 86) hC xcl_5 sh_1 fl_RX5_40 dX5_note_83 (by decide) rfl rfl ?_
          refine V.iload (r := 88) hC 4 dX5_note_86 rfl rfl ?_
          refine V.iload_n (r := 89) hC 2 dX5_note_88 rfl rfl ?_
          by_cases c9 : x4 < 0 ∨ 512 ≤ x4.toNatClampNeg
          · rw [if_pos c9] at h; cases h
          rw [if_neg c9] at h
          rw [mset_eq] at h
          refine V.iast (t := x4.toNatClampNeg) (r := 90) hC sh_121 dX5_note_89 c9 (Nat.zero_add _) rfl ?_
          generalize upM q5.2 136 x4.toNatClampNeg x2 = M10 at h ⊢
          exact v5_note_b90  hC hR ih _ _ _ _ _ h
def g5_note_b53 (x1 x2 x3 : Int32) (M : xMem) : Option (xMem) :=
g5_note_b56 5000 x1 x2 x3 x1 M
set_option maxHeartbeats 4000000 in
set_option maxRecDepth 20000 in
theorem v5_note_b53 {G : xG} (hC : xC G cX5_note 5 RX5 1) {R : xMem} (hR : xRV G cX5_note 5 R) (x1 x2 x3 : Int32) (M : xMem) (h : g5_note_b53 x1 x2 x3 M = some R) : V G 5 53 [(0, .inr 1), (1, .inl x1), (2, .inl x2), (3, .inl x3)] [] M := by
  unfold g5_note_b53 at h
  refine V.iload_n (r := 54) hC 1 dX5_note_53 rfl rfl ?_
  refine V.ist (lv' := [(0, .inr 1), (1, .inl x1), (2, .inl x2), (3, .inl x3), (4, .inl x1)]) (r := 56) hC dX5_note_54 rfl rfl rfl ?_
  exact v5_note_b56  hC hR  5000 _ _ _ _ _ h
def g5_note_b5 : Nat → Int32 → Int32 → Int32 → Int32 → xMem → Option (xMem)
  | 0, _, _, _, _, _ => none
  | n + 1, x1, x2, x3, x4, M => 
    (if (M 135 0) ≤ x4 then
    (g5_note_b53 x1 x2 x3 M)
    else
    (if (9 : Int32) ≤ x4 then
    (g5_note_b53 x1 x2 x3 M)
    else
    (if x4 < 0 ∨ 9 ≤ x4.toNatClampNeg then none else
    g5_note_b5 n x1 x2 (x3 ||| ((((M 102 0) >>> ((M 134 x4.toNatClampNeg) &&& 31)) &&& (1 : Int32)) <<< (x4 &&& 31))) (x4 + (1 : Int32)) M)))
set_option maxHeartbeats 4000000 in
set_option maxRecDepth 20000 in
theorem v5_note_b5 {G : xG} (hC : xC G cX5_note 5 RX5 1) {R : xMem} (hR : xRV G cX5_note 5 R) : ∀ (n : Nat) (x1 x2 x3 x4 : Int32) (M : xMem), g5_note_b5 n x1 x2 x3 x4 M = some R → V G 5 5 [(0, .inr 1), (1, .inl x1), (2, .inl x2), (3, .inl x3), (4, .inl x4)] [] M := by
  intro n
  induction n with
  | zero => intro x1 x2 x3 x4 M h; rw [g5_note_b5] at h; cases h
  | succ n ih =>
    intro x1 x2 x3 x4 M h
    rw [g5_note_b5] at h
    refine V.iload (r := 7) hC 4 dX5_note_5 rfl rfl ?_
    refine V.aload_n (r := 8) hC 0 dX5_note_7 rfl rfl ?_
    refine V.getI (b := 135) (i := 0) (j := 5) (r := 11) hC xcl_5 sh_1 fl_RX5_36 dX5_note_8 (by decide) rfl rfl ?_
    refine V.icmp_ge (tgt := 53) (r := 14) hC dX5_note_11 (by decide) rfl (fun c1 => ?_) (fun c1 => ?_)
    · rw [if_pos c1] at h
      refine V.pick (lv' := [(0, .inr 1), (1, .inl x1), (2, .inl x2), (3, .inl x3)]) [0, 1, 2, 3] rfl ?_
      exact v5_note_b53  hC hR  _ _ _ _ h
    · rw [if_neg c1] at h
      refine V.iload (r := 16) hC 4 dX5_note_14 rfl rfl ?_
      refine V.aload_n (r := 17) hC 0 dX5_note_16 rfl rfl ?_
      refine V.getR (k' := 120) (j := 4) (r := 20) hC xcl_5 sh_1 fl_RX5_32 dX5_note_17 (by decide) rfl rfl ?_
      refine V.alen (v := (9 : Int32)) (r := 21) hC sh_120 (by decide) dX5_note_20 (by decide) rfl ?_
      refine V.icmp_ge (tgt := 53) (r := 24) hC dX5_note_21 (by decide) rfl (fun c2 => ?_) (fun c2 => ?_)
      · rw [if_pos c2] at h
        refine V.pick (lv' := [(0, .inr 1), (1, .inl x1), (2, .inl x2), (3, .inl x3)]) [0, 1, 2, 3] rfl ?_
        exact v5_note_b53  hC hR  _ _ _ _ h
      · rw [if_neg c2] at h
        refine V.iload_n (r := 25) hC 3 dX5_note_24 rfl rfl ?_
        refine V.aload_n (r := 26) hC 0 dX5_note_25 rfl rfl ?_
        refine V.getR (k' := 20) (j := 1) (r := 29) hC xcl_5 sh_1 fl_RX5_21 dX5_note_26 (by decide) rfl rfl ?_
        refine V.getI (b := 102) (i := 0) (j := 2) (r := 32) hC xcl_0 sh_20 fl_RX5_142 dX5_note_29 (by decide) rfl rfl ?_
        refine V.aload_n (r := 33) hC 0 dX5_note_32 rfl rfl ?_
        refine V.getR (k' := 120) (j := 4) (r := 36) hC xcl_5 sh_1 fl_RX5_32 dX5_note_33 (by decide) rfl rfl ?_
        refine V.iload (r := 38) hC 4 dX5_note_36 rfl rfl ?_
        by_cases c3 : x4 < 0 ∨ 9 ≤ x4.toNatClampNeg
        · rw [if_pos c3] at h; cases h
        rw [if_neg c3] at h
        refine V.iald (t := x4.toNatClampNeg) (r := 39) hC sh_120 dX5_note_38 c3 (Nat.zero_add _) rfl ?_
        refine V.ishr (r := 40) hC dX5_note_39 rfl ?_
        refine V.iconst (r := 41) hC dX5_note_40 ki_1 rfl ?_
        refine V.iand (r := 42) hC dX5_note_41 rfl ?_
        refine V.iload (r := 44) hC 4 dX5_note_42 rfl rfl ?_
        refine V.ishl (r := 45) hC dX5_note_44 rfl ?_
        refine V.ior (r := 46) hC dX5_note_45 rfl ?_
        refine V.ist_n (lv' := [(0, .inr 1), (1, .inl x1), (2, .inl x2), (3, .inl (x3 ||| ((((M 102 0) >>> ((M 134 x4.toNatClampNeg) &&& 31)) &&& (1 : Int32)) <<< (x4 &&& 31)))), (4, .inl x4)]) (r := 47) hC dX5_note_46 rfl rfl rfl ?_
        refine V.inc (lv' := [(0, .inr 1), (1, .inl x1), (2, .inl x2), (3, .inl (x3 ||| ((((M 102 0) >>> ((M 134 x4.toNatClampNeg) &&& 31)) &&& (1 : Int32)) <<< (x4 &&& 31)))), (4, .inl (x4 + (1 : Int32)))]) (r := 50) hC 4 dX5_note_47 rfl ki_1 rfl rfl rfl ?_
        refine V.goto (tgt := 5) hC dX5_note_50 (by decide) ?_
        exact ih _ _ _ _ _ h
def g5_note (a0 a1 : Int32) (M : xMem) : Option (xMem) :=
g5_note_b5 5000 a0 a1 (0 : Int32) (0 : Int32) M
set_option maxHeartbeats 4000000 in
set_option maxRecDepth 20000 in
theorem v5_note {G : xG} (hC : xC G cX5_note 5 RX5 1) {R : xMem} (hR : xRV G cX5_note 5 R) {a0 a1 : Int32} {M : xMem} (h : g5_note a0 a1 M = some R) : V G 5 0 [(0, .inr 1), (1, .inl a0), (2, .inl a1)] [] M := by
  unfold g5_note at h
  refine V.iconst (r := 1) hC dX5_note_0 ki_0 rfl ?_
  refine V.ist_n (lv' := [(0, .inr 1), (1, .inl a0), (2, .inl a1), (3, .inl (0 : Int32))]) (r := 2) hC dX5_note_1 rfl rfl rfl ?_
  refine V.iconst (r := 3) hC dX5_note_2 ki_0 rfl ?_
  refine V.ist (lv' := [(0, .inr 1), (1, .inl a0), (2, .inl a1), (3, .inl (0 : Int32)), (4, .inl (0 : Int32))]) (r := 5) hC dX5_note_3 rfl rfl rfl ?_
  exact v5_note_b5  hC hR  5000 _ _ _ _ _ h
theorem met5_note {R : xMem} {a0 a1 : Int32} {M : xMem} (h : g5_note a0 a1 M = some R) : xMet yX5_note cX5_note 5 none 1 [.inr 1, .inl a0, .inl a1] M none R := xMet.ofV (by decide +kernel) (Nat.le_of_ble_eq_true rfl) fun _ hC hR => v5_note  hC hR h
def g5_weighSets_b85 (k21 : Int32 → xMem → Option (xMem)) (x1 : Int32) (M : xMem) : Option (xMem) :=
k21 (x1 + (1 : Int32)) M
set_option maxHeartbeats 4000000 in
set_option maxRecDepth 20000 in
theorem v5_weighSets_b85 {G : xG} (hC : xC G cX5_weighSets 2 RX5 7) {R : xMem} (hR : xRV G cX5_weighSets 2 R) {k21 : Int32 → xMem → Option (xMem)} (hk21 : ∀ (y1 : Int32) (N : xMem), k21 y1 N = some R → V G 2 21 [(0, .inr 1), (1, .inl y1)] [] N) (x1 : Int32) (M : xMem) (h : g5_weighSets_b85 k21 x1 M = some R) : V G 2 85 [(0, .inr 1), (1, .inl x1)] [] M := by
  unfold g5_weighSets_b85 at h
  refine V.inc (lv' := [(0, .inr 1), (1, .inl (x1 + (1 : Int32)))]) (r := 88) hC 1 dX5_weighSets_85 rfl ki_1 rfl rfl rfl ?_
  refine V.goto (tgt := 21) hC dX5_weighSets_88 (by decide) ?_
  exact hk21 _ _ h
def g5_weighSets_b21 : Nat → Int32 → xMem → Option (xMem)
  | 0, _, _ => none
  | n + 1, x1, M => 
    (if (512 : Int32) ≤ x1 then
    (some M)
    else
    (Option.bind (g5_isSet x1 M) fun q7 =>
    if (q7.1) = 0 then
    (some q7.2)
    else
    (if x1 < 0 ∨ 512 ≤ x1.toNatClampNeg then none else
    if (q7.2 136 x1.toNatClampNeg) = (-1 : Int32) then
    (Option.bind (g5_lightSet x1 q7.2) fun q12 =>
    Option.bind (g6_hoursLeft 0 q12) fun q14 =>
    Option.bind (g0_passHours 1 (q14.1) q14.2) fun q16 =>
    Option.bind (g1_living 1 q16.2) fun q18 =>
    Option.bind (g5_note x1 (q18.1) q18.2) fun q20 =>
    g5_weighSets_b85 (g5_weighSets_b21 n) x1 q20)
    else
    (g5_weighSets_b85 (g5_weighSets_b21 n) x1 q7.2))))
set_option maxHeartbeats 4000000 in
set_option maxRecDepth 20000 in
theorem v5_weighSets_b21 {G : xG} (hC : xC G cX5_weighSets 2 RX5 7) {R : xMem} (hR : xRV G cX5_weighSets 2 R) : ∀ (n : Nat) (x1 : Int32) (M : xMem), g5_weighSets_b21 n x1 M = some R → V G 2 21 [(0, .inr 1), (1, .inl x1)] [] M := by
  intro n
  induction n with
  | zero => intro x1 M h; rw [g5_weighSets_b21] at h; cases h
  | succ n ih =>
    intro x1 M h
    rw [g5_weighSets_b21] at h
    refine V.iload_n (r := 22) hC 1 dX5_weighSets_21 rfl rfl ?_
    refine V.sipush (r := 25) hC dX5_weighSets_22 ks_512 rfl ?_
    refine V.icmp_ge (tgt := 91) (r := 28) hC dX5_weighSets_25 (by decide) rfl (fun c6 => ?_) (fun c6 => ?_)
    · rw [if_pos c6] at h
      cases h
      exact hR _ _ dX5_weighSets_91
    · rw [if_neg c6] at h
      refine V.aload_n (r := 29) hC 0 dX5_weighSets_28 rfl rfl ?_
      refine V.iload_n (r := 30) hC 1 dX5_weighSets_29 rfl rfl ?_
      obtain ⟨q7, hq8, h⟩ := Option.bind_eq_some_iff.mp h
      try dsimp only at h
      refine V.invVi (as := [.inl x1]) (st := []) (r := 33) hC (met5_isSet hq8) yv_X5_isSet ml_RX5_77 sh_1 rfl rfl dX5_weighSets_30 (by decide) rfl rfl rfl rfl ?_
      refine V.if_eq (tgt := 91) (r := 36) hC dX5_weighSets_33 (by decide) rfl (fun c9 => ?_) (fun c9 => ?_)
      · rw [if_pos c9] at h
        cases h
        exact hR _ _ dX5_weighSets_91
      · rw [if_neg c9] at h
        refine V.aload_n (r := 37) hC 0 dX5_weighSets_36 rfl rfl ?_
        refine V.getR (k' := 121) (j := 6) (r := 40) hC xcl_5 sh_1 fl_RX5_40 dX5_weighSets_37 (by decide) rfl rfl ?_
        refine V.iload_n (r := 41) hC 1 dX5_weighSets_40 rfl rfl ?_
        by_cases c10 : x1 < 0 ∨ 512 ≤ x1.toNatClampNeg
        · rw [if_pos c10] at h; cases h
        rw [if_neg c10] at h
        refine V.iald (t := x1.toNatClampNeg) (r := 42) hC sh_121 dX5_weighSets_41 c10 (Nat.zero_add _) rfl ?_
        refine V.iconst (r := 43) hC dX5_weighSets_42 ki_m1 rfl ?_
        refine V.icmp_ne (tgt := 85) (r := 46) hC dX5_weighSets_43 (by decide) rfl (fun c11 => ?_) (fun c11 => ?_)
        · rw [if_neg c11] at h
          exact v5_weighSets_b85  hC hR ih _ _ h
        · rw [if_pos c11] at h
          refine V.aload_n (r := 47) hC 0 dX5_weighSets_46 rfl rfl ?_
          refine V.iload_n (r := 48) hC 1 dX5_weighSets_47 rfl rfl ?_
          obtain ⟨q12, hq13, h⟩ := Option.bind_eq_some_iff.mp h
          try dsimp only at h
          refine V.invVv (as := [.inl x1]) (st := []) (r := 51) hC (met5_lightSet hq13) yv_X5_lightSet ml_RX5_81 sh_1 rfl rfl dX5_weighSets_48 (by decide) rfl rfl rfl rfl ?_
          refine V.aload_n (r := 52) hC 0 dX5_weighSets_51 rfl rfl ?_
          refine V.getR (k' := 20) (j := 1) (r := 55) hC xcl_5 sh_1 fl_RX5_21 dX5_weighSets_52 (by decide) rfl rfl ?_
          refine V.aload_n (r := 56) hC 0 dX5_weighSets_55 rfl rfl ?_
          refine V.getR (k' := 29) (j := 2) (r := 59) hC xcl_5 sh_1 fl_RX5_25 dX5_weighSets_56 (by decide) rfl rfl ?_
          refine V.aload_n (r := 60) hC 0 dX5_weighSets_59 rfl rfl ?_
          refine V.getR (k' := 2) (j := 0) (r := 63) hC xcl_5 sh_1 fl_RX5_12 dX5_weighSets_60 (by decide) rfl rfl ?_
          obtain ⟨q14, hq15, h⟩ := Option.bind_eq_some_iff.mp h
          try dsimp only at h
          refine V.invVi (as := []) (st := [.inr 29, .inr 20]) (r := 66) hC (met6_hoursLeft (by decide) hq15) yv_X6_hoursLeft ml_RX5_84 sh_2 rfl rfl dX5_weighSets_63 (by decide) rfl rfl rfl rfl ?_
          obtain ⟨q16, hq17, h⟩ := Option.bind_eq_some_iff.mp h
          try dsimp only at h
          refine V.invVi (as := [.inr 29, .inl (q14.1)]) (st := []) (r := 69) hC (met0_passHours (by decide) hq17) yv_X0_passHours ml_RX5_88 sh_20 rfl rfl dX5_weighSets_66 (by decide) rfl rfl rfl rfl ?_
          refine V.pop (r := 70) hC dX5_weighSets_69 rfl ?_
          refine V.aload_n (r := 71) hC 0 dX5_weighSets_70 rfl rfl ?_
          refine V.iload_n (r := 72) hC 1 dX5_weighSets_71 rfl rfl ?_
          refine V.aload_n (r := 73) hC 0 dX5_weighSets_72 rfl rfl ?_
          refine V.getR (k' := 29) (j := 2) (r := 76) hC xcl_5 sh_1 fl_RX5_25 dX5_weighSets_73 (by decide) rfl rfl ?_
          refine V.getR (k' := 38) (j := 2) (r := 79) hC xcl_6 sh_29 fl_RX5_92 dX5_weighSets_76 (by decide) rfl rfl ?_
          obtain ⟨q18, hq19, h⟩ := Option.bind_eq_some_iff.mp h
          try dsimp only at h
          refine V.invVi (as := []) (st := [.inl x1, .inr 1]) (r := 82) hC (met1_living (by decide) hq19) yv_X1_living ml_RX5_96 sh_38 rfl rfl dX5_weighSets_79 (by decide) rfl rfl rfl rfl ?_
          obtain ⟨q20, hq21, h⟩ := Option.bind_eq_some_iff.mp h
          try dsimp only at h
          refine V.invVv (as := [.inl x1, .inl (q18.1)]) (st := []) (r := 85) hC (met5_note hq21) yv_X5_note ml_RX5_101 sh_1 rfl rfl dX5_weighSets_82 (by decide) rfl rfl rfl rfl ?_
          exact v5_weighSets_b85  hC hR ih _ _ h
def g5_weighSets (M : xMem) : Option (xMem) :=
mset (upM M 135 0 (0 : Int32)) fun M1 =>
Option.bind (g5_chooseInns (9 : Int32) M1) fun q2 =>
Option.bind (gJ7_fill_53178_121 (-1 : Int32) q2) fun q4 =>
g5_weighSets_b21 5000 (0 : Int32) q4
set_option maxHeartbeats 4000000 in
set_option maxRecDepth 20000 in
theorem v5_weighSets {G : xG} (hC : xC G cX5_weighSets 2 RX5 7) {R : xMem} (hR : xRV G cX5_weighSets 2 R) {M : xMem} (h : g5_weighSets M = some R) : V G 2 0 [(0, .inr 1)] [] M := by
  unfold g5_weighSets at h
  refine V.aload_n (r := 1) hC 0 dX5_weighSets_0 rfl rfl ?_
  refine V.iconst (r := 2) hC dX5_weighSets_1 ki_0 rfl ?_
  rw [mset_eq] at h
  refine V.putI (b := 135) (i := 0) (j := 5) (ty := .int) (r := 5) hC xcl_5 xcp_5 sh_1 fl_RX5_36 dX5_weighSets_2 (by decide) rfl rfl (by decide +kernel) rfl rfl rfl ?_
  generalize upM M 135 0 (0 : Int32) = M1 at h ⊢
  refine V.aload_n (r := 6) hC 0 dX5_weighSets_5 rfl rfl ?_
  refine V.bipush (r := 8) hC dX5_weighSets_6 kb_9 rfl ?_
  obtain ⟨q2, hq3, h⟩ := Option.bind_eq_some_iff.mp h
  try dsimp only at h
  refine V.invVv (as := [.inl (9 : Int32)]) (st := []) (r := 11) hC (met5_chooseInns hq3) yv_X5_chooseInns ml_RX5_67 sh_1 rfl rfl dX5_weighSets_8 (by decide) rfl rfl rfl rfl ?_
  refine V.aload_n (r := 12) hC 0 dX5_weighSets_11 rfl rfl ?_
  refine V.getR (k' := 121) (j := 6) (r := 15) hC xcl_5 sh_1 fl_RX5_40 dX5_weighSets_12 (by decide) rfl rfl ?_
  refine V.iconst (r := 16) hC dX5_weighSets_15 ki_m1 rfl ?_
  obtain ⟨q4, hq5, h⟩ := Option.bind_eq_some_iff.mp h
  try dsimp only at h
  refine V.invSv (as := [.inr 121, .inl (-1 : Int32)]) (st := []) (r := 19) hC (metJ7_fill_53178_121 hq5) ys_J7_fill_53178 ml_RX5_71 dX5_weighSets_16 (by decide) rfl rfl rfl rfl ?_
  refine V.iconst (r := 20) hC dX5_weighSets_19 ki_0 rfl ?_
  refine V.ist_n (lv' := [(0, .inr 1), (1, .inl (0 : Int32))]) (r := 21) hC dX5_weighSets_20 rfl rfl rfl ?_
  exact v5_weighSets_b21  hC hR  5000 _ _ h
theorem met5_weighSets {R : xMem} {M : xMem} (h : g5_weighSets M = some R) : xMet yX5_weighSets cX5_weighSets 2 none 7 [.inr 1] M none R := xMet.ofV (by decide +kernel) (Nat.le_of_ble_eq_true rfl) fun _ hC hR => v5_weighSets  hC hR h
def g5_chooseStrays_b55 (k3 : Int32 → xMem → Option (xMem)) (x1 : Int32) (M : xMem) : Option (xMem) :=
k3 (x1 + (1 : Int32)) M
set_option maxHeartbeats 4000000 in
set_option maxRecDepth 20000 in
theorem v5_chooseStrays_b55 {G : xG} (hC : xC G cX5_chooseStrays 2 RX5 1) {R : xMem} (hR : xRV G cX5_chooseStrays 2 R) {k3 : Int32 → xMem → Option (xMem)} (hk3 : ∀ (y1 : Int32) (N : xMem), k3 y1 N = some R → V G 2 3 [(0, .inr 1), (1, .inl y1)] [] N) (x1 : Int32) (M : xMem) (h : g5_chooseStrays_b55 k3 x1 M = some R) : V G 2 55 [(0, .inr 1), (1, .inl x1)] [] M := by
  unfold g5_chooseStrays_b55 at h
  refine V.inc (lv' := [(0, .inr 1), (1, .inl (x1 + (1 : Int32)))]) (r := 58) hC 1 dX5_chooseStrays_55 rfl ki_1 rfl rfl rfl ?_
  refine V.goto (tgt := 3) hC dX5_chooseStrays_58 (by decide) ?_
  exact hk3 _ _ h
def g5_chooseStrays_b3 : Nat → Int32 → xMem → Option (xMem)
  | 0, _, _ => none
  | n + 1, x1, M => 
    (if (12 : Int32) ≤ x1 then
    (some M)
    else
    (Option.bind (g2_stands 0 x1 M) fun q2 =>
    if (q2.1) = 0 then
    (g5_chooseStrays_b55 (g5_chooseStrays_b3 n) x1 q2.2)
    else
    (if (9 : Int32) ≤ (q2.2 135 0) then
    (g5_chooseStrays_b55 (g5_chooseStrays_b3 n) x1 q2.2)
    else
    (if (q2.2 135 0) < 0 ∨ 9 ≤ (q2.2 135 0).toNatClampNeg then none else
    mset (upM q2.2 134 (q2.2 135 0).toNatClampNeg x1) fun M7 =>
    mset (upM M7 135 0 ((M7 135 0) + (1 : Int32))) fun M8 =>
    g5_chooseStrays_b55 (g5_chooseStrays_b3 n) x1 M8))))
set_option maxHeartbeats 4000000 in
set_option maxRecDepth 20000 in
theorem v5_chooseStrays_b3 {G : xG} (hC : xC G cX5_chooseStrays 2 RX5 1) {R : xMem} (hR : xRV G cX5_chooseStrays 2 R) : ∀ (n : Nat) (x1 : Int32) (M : xMem), g5_chooseStrays_b3 n x1 M = some R → V G 2 3 [(0, .inr 1), (1, .inl x1)] [] M := by
  intro n
  induction n with
  | zero => intro x1 M h; rw [g5_chooseStrays_b3] at h; cases h
  | succ n ih =>
    intro x1 M h
    rw [g5_chooseStrays_b3] at h
    refine V.iload_n (r := 4) hC 1 dX5_chooseStrays_3 rfl rfl ?_
    refine V.bipush (r := 6) hC dX5_chooseStrays_4 kb_12 rfl ?_
    refine V.icmp_ge (tgt := 61) (r := 9) hC dX5_chooseStrays_6 (by decide) rfl (fun c1 => ?_) (fun c1 => ?_)
    · rw [if_pos c1] at h
      cases h
      exact hR _ _ dX5_chooseStrays_61
    · rw [if_neg c1] at h
      refine V.aload_n (r := 10) hC 0 dX5_chooseStrays_9 rfl rfl ?_
      refine V.getR (k' := 2) (j := 0) (r := 13) hC xcl_5 sh_1 fl_RX5_12 dX5_chooseStrays_10 (by decide) rfl rfl ?_
      refine V.getR (k' := 4) (j := 1) (r := 16) hC xcl_6 sh_2 fl_RX5_122 dX5_chooseStrays_13 (by decide) rfl rfl ?_
      refine V.iload_n (r := 17) hC 1 dX5_chooseStrays_16 rfl rfl ?_
      obtain ⟨q2, hq3, h⟩ := Option.bind_eq_some_iff.mp h
      try dsimp only at h
      refine V.invVi (as := [.inl x1]) (st := []) (r := 20) hC (met2_stands (by decide) hq3) yv_X2_stands ml_RX5_126 sh_4 rfl rfl dX5_chooseStrays_17 (by decide) rfl rfl rfl rfl ?_
      refine V.if_eq (tgt := 55) (r := 23) hC dX5_chooseStrays_20 (by decide) rfl (fun c4 => ?_) (fun c4 => ?_)
      · rw [if_pos c4] at h
        exact v5_chooseStrays_b55  hC hR ih _ _ h
      · rw [if_neg c4] at h
        refine V.aload_n (r := 24) hC 0 dX5_chooseStrays_23 rfl rfl ?_
        refine V.getI (b := 135) (i := 0) (j := 5) (r := 27) hC xcl_5 sh_1 fl_RX5_36 dX5_chooseStrays_24 (by decide) rfl rfl ?_
        refine V.aload_n (r := 28) hC 0 dX5_chooseStrays_27 rfl rfl ?_
        refine V.getR (k' := 120) (j := 4) (r := 31) hC xcl_5 sh_1 fl_RX5_32 dX5_chooseStrays_28 (by decide) rfl rfl ?_
        refine V.alen (v := (9 : Int32)) (r := 32) hC sh_120 (by decide) dX5_chooseStrays_31 (by decide) rfl ?_
        refine V.icmp_ge (tgt := 55) (r := 35) hC dX5_chooseStrays_32 (by decide) rfl (fun c5 => ?_) (fun c5 => ?_)
        · rw [if_pos c5] at h
          exact v5_chooseStrays_b55  hC hR ih _ _ h
        · rw [if_neg c5] at h
          refine V.aload_n (r := 36) hC 0 dX5_chooseStrays_35 rfl rfl ?_
          refine V.getR (k' := 120) (j := 4) (r := 39) hC xcl_5 sh_1 fl_RX5_32 dX5_chooseStrays_36 (by decide) rfl rfl ?_
          refine V.aload_n (r := 40) hC 0 dX5_chooseStrays_39 rfl rfl ?_
          refine V.getI (b := 135) (i := 0) (j := 5) (r := 43) hC xcl_5 sh_1 fl_RX5_36 dX5_chooseStrays_40 (by decide) rfl rfl ?_
          refine V.iload_n (r := 44) hC 1 dX5_chooseStrays_43 rfl rfl ?_
          by_cases c6 : (q2.2 135 0) < 0 ∨ 9 ≤ (q2.2 135 0).toNatClampNeg
          · rw [if_pos c6] at h; cases h
          rw [if_neg c6] at h
          rw [mset_eq] at h
          refine V.iast (t := (q2.2 135 0).toNatClampNeg) (r := 45) hC sh_120 dX5_chooseStrays_44 c6 (Nat.zero_add _) rfl ?_
          generalize upM q2.2 134 (q2.2 135 0).toNatClampNeg x1 = M7 at h ⊢
          refine V.aload_n (r := 46) hC 0 dX5_chooseStrays_45 rfl rfl ?_
          refine V.dup (r := 47) hC dX5_chooseStrays_46 rfl ?_
          refine V.getI (b := 135) (i := 0) (j := 5) (r := 50) hC xcl_5 sh_1 fl_RX5_36 dX5_chooseStrays_47 (by decide) rfl rfl ?_
          refine V.iconst (r := 51) hC dX5_chooseStrays_50 ki_1 rfl ?_
          refine V.iadd (r := 52) hC dX5_chooseStrays_51 rfl ?_
          rw [mset_eq] at h
          refine V.putI (b := 135) (i := 0) (j := 5) (ty := .int) (r := 55) hC xcl_5 xcp_5 sh_1 fl_RX5_36 dX5_chooseStrays_52 (by decide) rfl rfl (by decide +kernel) rfl rfl rfl ?_
          generalize upM M7 135 0 ((M7 135 0) + (1 : Int32)) = M8 at h ⊢
          exact v5_chooseStrays_b55  hC hR ih _ _ h
def g5_chooseStrays (M : xMem) : Option (xMem) :=
g5_chooseStrays_b3 5000 (9 : Int32) M
set_option maxHeartbeats 4000000 in
set_option maxRecDepth 20000 in
theorem v5_chooseStrays {G : xG} (hC : xC G cX5_chooseStrays 2 RX5 1) {R : xMem} (hR : xRV G cX5_chooseStrays 2 R) {M : xMem} (h : g5_chooseStrays M = some R) : V G 2 0 [(0, .inr 1)] [] M := by
  unfold g5_chooseStrays at h
  refine V.bipush (r := 2) hC dX5_chooseStrays_0 kb_9 rfl ?_
  refine V.ist_n (lv' := [(0, .inr 1), (1, .inl (9 : Int32))]) (r := 3) hC dX5_chooseStrays_2 rfl rfl rfl ?_
  exact v5_chooseStrays_b3  hC hR  5000 _ _ h
theorem met5_chooseStrays {R : xMem} {M : xMem} (h : g5_chooseStrays M = some R) : xMet yX5_chooseStrays cX5_chooseStrays 2 none 1 [.inr 1] M none R := xMet.ofV (by decide +kernel) (Nat.le_of_ble_eq_true rfl) fun _ hC hR => v5_chooseStrays  hC hR h
def g5_clearFound (M : xMem) : Option (xMem) :=
mset (upM M 141 0 (0 : Int32)) fun M1 =>
mset (upM M1 142 0 (-1 : Int32)) fun M2 =>
mset (upM M2 143 0 (0 : Int32)) fun M3 =>
mset (upM M3 144 0 (-1 : Int32)) fun M4 =>
some M4
set_option maxHeartbeats 4000000 in
set_option maxRecDepth 20000 in
theorem v5_clearFound {G : xG} (hC : xC G cX5_clearFound 1 RX5 0) {R : xMem} (hR : xRV G cX5_clearFound 1 R) {M : xMem} (h : g5_clearFound M = some R) : V G 1 0 [(0, .inr 1)] [] M := by
  unfold g5_clearFound at h
  refine V.aload_n (r := 1) hC 0 dX5_clearFound_0 rfl rfl ?_
  refine V.iconst (r := 2) hC dX5_clearFound_1 ki_0 rfl ?_
  rw [mset_eq] at h
  refine V.putI (b := 141) (i := 0) (j := 11) (ty := .int) (r := 5) hC xcl_5 xcp_5 sh_1 fl_RX5_55 dX5_clearFound_2 (by decide) rfl rfl (by decide +kernel) rfl rfl rfl ?_
  generalize upM M 141 0 (0 : Int32) = M1 at h ⊢
  refine V.aload_n (r := 6) hC 0 dX5_clearFound_5 rfl rfl ?_
  refine V.iconst (r := 7) hC dX5_clearFound_6 ki_m1 rfl ?_
  rw [mset_eq] at h
  refine V.putI (b := 142) (i := 0) (j := 12) (ty := .int) (r := 10) hC xcl_5 xcp_5 sh_1 fl_RX5_58 dX5_clearFound_7 (by decide) rfl rfl (by decide +kernel) rfl rfl rfl ?_
  generalize upM M1 142 0 (-1 : Int32) = M2 at h ⊢
  refine V.aload_n (r := 11) hC 0 dX5_clearFound_10 rfl rfl ?_
  refine V.iconst (r := 12) hC dX5_clearFound_11 ki_0 rfl ?_
  rw [mset_eq] at h
  refine V.putI (b := 143) (i := 0) (j := 13) (ty := .int) (r := 15) hC xcl_5 xcp_5 sh_1 fl_RX5_61 dX5_clearFound_12 (by decide) rfl rfl (by decide +kernel) rfl rfl rfl ?_
  generalize upM M2 143 0 (0 : Int32) = M3 at h ⊢
  refine V.aload_n (r := 16) hC 0 dX5_clearFound_15 rfl rfl ?_
  refine V.iconst (r := 17) hC dX5_clearFound_16 ki_m1 rfl ?_
  rw [mset_eq] at h
  refine V.putI (b := 144) (i := 0) (j := 14) (ty := .int) (r := 20) hC xcl_5 xcp_5 sh_1 fl_RX5_64 dX5_clearFound_17 (by decide) rfl rfl (by decide +kernel) rfl rfl rfl ?_
  generalize upM M3 144 0 (-1 : Int32) = M4 at h ⊢
  cases h
  exact hR _ _ dX5_clearFound_20
theorem met5_clearFound {R : xMem} {M : xMem} (h : g5_clearFound M = some R) : xMet yX5_clearFound cX5_clearFound 1 none 0 [.inr 1] M none R := xMet.ofV (by decide +kernel) (Nat.le_of_ble_eq_true rfl) fun _ hC hR => v5_clearFound  hC hR h
def g5_isAsSeen_b73 (k4 : Int32 → Int32 → xMem → Option (Int32 × xMem)) (x2 x3 : Int32) (M : xMem) : Option (Int32 × xMem) :=
k4 x2 (x3 + (1 : Int32)) M
set_option maxHeartbeats 4000000 in
set_option maxRecDepth 20000 in
theorem v5_isAsSeen_b73 {G : xG} (hC : xC G cX5_isAsSeen 5 RX5 1) {R : Int32 × xMem} (hR : xRZ G cX5_isAsSeen 5 R) {k4 : Int32 → Int32 → xMem → Option (Int32 × xMem)} (hk4 : ∀ (y2 y3 : Int32) (N : xMem), k4 y2 y3 N = some R → V G 5 4 [(0, .inr 1), (1, .inr 127), (2, .inl y2), (3, .inl y3)] [] N) (x2 x3 : Int32) (M : xMem) (h : g5_isAsSeen_b73 k4 x2 x3 M = some R) : V G 5 73 [(0, .inr 1), (1, .inr 127), (2, .inl x2), (3, .inl x3)] [] M := by
  unfold g5_isAsSeen_b73 at h
  refine V.inc (lv' := [(0, .inr 1), (1, .inr 127), (2, .inl x2), (3, .inl (x3 + (1 : Int32)))]) (r := 76) hC 3 dX5_isAsSeen_73 rfl ki_1 rfl rfl rfl ?_
  refine V.goto (tgt := 4) hC dX5_isAsSeen_76 (by decide) ?_
  exact hk4 _ _ _ h
def g5_isAsSeen_b56 (k4 : Int32 → Int32 → xMem → Option (Int32 × xMem)) (x2 x3 s0 : Int32) (M : xMem) : Option (Int32 × xMem) :=
Option.bind (g7_byteAt x2 M) fun q9 =>
if (q9.1) = s0 then
(g5_isAsSeen_b73 k4 (x2 + (1 : Int32)) x3 q9.2)
else
(some ((0 : Int32), q9.2))
set_option maxHeartbeats 4000000 in
set_option maxRecDepth 20000 in
theorem v5_isAsSeen_b56 {G : xG} (hC : xC G cX5_isAsSeen 5 RX5 1) {R : Int32 × xMem} (hR : xRZ G cX5_isAsSeen 5 R) {k4 : Int32 → Int32 → xMem → Option (Int32 × xMem)} (hk4 : ∀ (y2 y3 : Int32) (N : xMem), k4 y2 y3 N = some R → V G 5 4 [(0, .inr 1), (1, .inr 127), (2, .inl y2), (3, .inl y3)] [] N) (x2 x3 s0 : Int32) (M : xMem) (h : g5_isAsSeen_b56 k4 x2 x3 s0 M = some R) : V G 5 56 [(0, .inr 1), (1, .inr 127), (2, .inl x2), (3, .inl x3)] [.inl s0] M := by
  unfold g5_isAsSeen_b56 at h
  refine V.ist (lv' := [(0, .inr 1), (1, .inr 127), (2, .inl x2), (3, .inl x3), (4, .inl s0)]) (r := 58) hC dX5_isAsSeen_56 rfl rfl rfl ?_
  refine V.aload_n (r := 59) hC 1 dX5_isAsSeen_58 rfl rfl ?_
  refine V.iload_n (r := 60) hC 2 dX5_isAsSeen_59 rfl rfl ?_
  obtain ⟨q9, hq10, h⟩ := Option.bind_eq_some_iff.mp h
  try dsimp only at h
  refine V.invVi (as := [.inl x2]) (st := []) (r := 63) hC (met7_byteAt hq10) yv_X7_byteAt ml_RX5_151 sh_127 rfl rfl dX5_isAsSeen_60 (by decide) rfl rfl rfl rfl ?_
  refine V.iload (r := 65) hC 4 dX5_isAsSeen_63 rfl rfl ?_
  refine V.icmp_eq (tgt := 70) (r := 68) hC dX5_isAsSeen_65 (by decide) rfl (fun c11 => ?_) (fun c11 => ?_)
  · rw [if_pos c11] at h
    refine V.inc (lv' := [(0, .inr 1), (1, .inr 127), (2, .inl (x2 + (1 : Int32))), (3, .inl x3), (4, .inl s0)]) (r := 73) hC 2 dX5_isAsSeen_70 rfl ki_1 rfl rfl rfl ?_
    refine V.pick (lv' := [(0, .inr 1), (1, .inr 127), (2, .inl (x2 + (1 : Int32))), (3, .inl x3)]) [0, 1, 2, 3] rfl ?_
    exact v5_isAsSeen_b73  hC hR hk4 _ _ _ h
  · rw [if_neg c11] at h
    refine V.iconst (r := 69) hC dX5_isAsSeen_68 ki_0 rfl ?_
    cases h
    exact hR _ _ (Or.inl rfl) dX5_isAsSeen_69
def g5_isAsSeen_b4 : Nat → Int32 → Int32 → xMem → Option (Int32 × xMem)
  | 0, _, _, _ => none
  | n + 1, x2, x3, M => 
    (if (6 : Int32) ≤ x3 then
    (some ((1 : Int32), M))
    else
    (Option.bind (g1_isOn 0 x3 M) fun q2 =>
    if (q2.1) = 0 then
    (g5_isAsSeen_b73 (g5_isAsSeen_b4 n) x2 x3 q2.2)
    else
    (Option.bind (g1_isOn 1 x3 q2.2) fun q5 =>
    if (q5.1) = 0 then
    (g5_isAsSeen_b56 (g5_isAsSeen_b4 n) x2 x3 (255 : Int32) q5.2)
    else
    (if x3 < 0 ∨ 6 ≤ x3.toNatClampNeg then none else
    g5_isAsSeen_b56 (g5_isAsSeen_b4 n) x2 x3 (q5.2 1 (274 + x3.toNatClampNeg)) q5.2))))
set_option maxHeartbeats 4000000 in
set_option maxRecDepth 20000 in
theorem v5_isAsSeen_b4 {G : xG} (hC : xC G cX5_isAsSeen 5 RX5 1) {R : Int32 × xMem} (hR : xRZ G cX5_isAsSeen 5 R) : ∀ (n : Nat) (x2 x3 : Int32) (M : xMem), g5_isAsSeen_b4 n x2 x3 M = some R → V G 5 4 [(0, .inr 1), (1, .inr 127), (2, .inl x2), (3, .inl x3)] [] M := by
  intro n
  induction n with
  | zero => intro x2 x3 M h; rw [g5_isAsSeen_b4] at h; cases h
  | succ n ih =>
    intro x2 x3 M h
    rw [g5_isAsSeen_b4] at h
    refine V.iload_n (r := 5) hC 3 dX5_isAsSeen_4 rfl rfl ?_
    refine V.bipush (r := 7) hC dX5_isAsSeen_5 kb_6 rfl ?_
    refine V.icmp_ge (tgt := 79) (r := 10) hC dX5_isAsSeen_7 (by decide) rfl (fun c1 => ?_) (fun c1 => ?_)
    · rw [if_pos c1] at h
      refine V.iconst (r := 80) hC dX5_isAsSeen_79 ki_1 rfl ?_
      cases h
      exact hR _ _ (Or.inr rfl) dX5_isAsSeen_80
    · rw [if_neg c1] at h
      refine V.aload_n (r := 11) hC 0 dX5_isAsSeen_10 rfl rfl ?_
      refine V.getR (k' := 2) (j := 0) (r := 14) hC xcl_5 sh_1 fl_RX5_12 dX5_isAsSeen_11 (by decide) rfl rfl ?_
      refine V.getR (k' := 11) (j := 2) (r := 17) hC xcl_6 sh_2 fl_RX5_92 dX5_isAsSeen_14 (by decide) rfl rfl ?_
      refine V.iload_n (r := 18) hC 3 dX5_isAsSeen_17 rfl rfl ?_
      obtain ⟨q2, hq3, h⟩ := Option.bind_eq_some_iff.mp h
      try dsimp only at h
      refine V.invVi (as := [.inl x3]) (st := []) (r := 21) hC (met1_isOn (by decide) hq3) yv_X1_isOn ml_RX5_145 sh_11 rfl rfl dX5_isAsSeen_18 (by decide) rfl rfl rfl rfl ?_
      refine V.if_eq (tgt := 73) (r := 24) hC dX5_isAsSeen_21 (by decide) rfl (fun c4 => ?_) (fun c4 => ?_)
      · rw [if_pos c4] at h
        exact v5_isAsSeen_b73  hC hR ih _ _ _ h
      · rw [if_neg c4] at h
        refine V.aload_n (r := 25) hC 0 dX5_isAsSeen_24 rfl rfl ?_
        refine V.getR (k' := 29) (j := 2) (r := 28) hC xcl_5 sh_1 fl_RX5_25 dX5_isAsSeen_25 (by decide) rfl rfl ?_
        refine V.getR (k' := 38) (j := 2) (r := 31) hC xcl_6 sh_29 fl_RX5_92 dX5_isAsSeen_28 (by decide) rfl rfl ?_
        refine V.iload_n (r := 32) hC 3 dX5_isAsSeen_31 rfl rfl ?_
        obtain ⟨q5, hq6, h⟩ := Option.bind_eq_some_iff.mp h
        try dsimp only at h
        refine V.invVi (as := [.inl x3]) (st := []) (r := 35) hC (met1_isOn (by decide) hq6) yv_X1_isOn ml_RX5_145 sh_38 rfl rfl dX5_isAsSeen_32 (by decide) rfl rfl rfl rfl ?_
        refine V.if_eq (tgt := 53) (r := 38) hC dX5_isAsSeen_35 (by decide) rfl (fun c7 => ?_) (fun c7 => ?_)
        · rw [if_pos c7] at h
          refine V.sipush (r := 56) hC dX5_isAsSeen_53 ks_255 rfl ?_
          exact v5_isAsSeen_b56  hC hR ih _ _ _ _ h
        · rw [if_neg c7] at h
          refine V.aload_n (r := 39) hC 0 dX5_isAsSeen_38 rfl rfl ?_
          refine V.getR (k' := 29) (j := 2) (r := 42) hC xcl_5 sh_1 fl_RX5_25 dX5_isAsSeen_39 (by decide) rfl rfl ?_
          refine V.getR (k' := 38) (j := 2) (r := 45) hC xcl_6 sh_29 fl_RX5_92 dX5_isAsSeen_42 (by decide) rfl rfl ?_
          refine V.getR (k' := 40) (j := 1) (r := 48) hC xcl_1 sh_38 fl_RX5_148 dX5_isAsSeen_45 (by decide) rfl rfl ?_
          refine V.iload_n (r := 49) hC 3 dX5_isAsSeen_48 rfl rfl ?_
          by_cases c8 : x3 < 0 ∨ 6 ≤ x3.toNatClampNeg
          · rw [if_pos c8] at h; cases h
          rw [if_neg c8] at h
          refine V.iald (t := (274 + x3.toNatClampNeg)) (r := 50) hC sh_40 dX5_isAsSeen_49 c8 rfl rfl ?_
          refine V.goto (tgt := 56) hC dX5_isAsSeen_50 (by decide) ?_
          exact v5_isAsSeen_b56  hC hR ih _ _ _ _ h
def g5_isAsSeen (M : xMem) : Option (Int32 × xMem) :=
g5_isAsSeen_b4 5000 (0 : Int32) (0 : Int32) M
set_option maxHeartbeats 4000000 in
set_option maxRecDepth 20000 in
theorem v5_isAsSeen {G : xG} (hC : xC G cX5_isAsSeen 5 RX5 1) {R : Int32 × xMem} (hR : xRZ G cX5_isAsSeen 5 R) {M : xMem} (h : g5_isAsSeen M = some R) : V G 5 0 [(0, .inr 1), (1, .inr 127)] [] M := by
  unfold g5_isAsSeen at h
  refine V.iconst (r := 1) hC dX5_isAsSeen_0 ki_0 rfl ?_
  refine V.ist_n (lv' := [(0, .inr 1), (1, .inr 127), (2, .inl (0 : Int32))]) (r := 2) hC dX5_isAsSeen_1 rfl rfl rfl ?_
  refine V.iconst (r := 3) hC dX5_isAsSeen_2 ki_0 rfl ?_
  refine V.ist_n (lv' := [(0, .inr 1), (1, .inr 127), (2, .inl (0 : Int32)), (3, .inl (0 : Int32))]) (r := 4) hC dX5_isAsSeen_3 rfl rfl rfl ?_
  exact v5_isAsSeen_b4  hC hR  5000 _ _ _ h
theorem met5_isAsSeen {R : Int32 × xMem} {M : xMem} (h : g5_isAsSeen M = some R) : xMet yX5_isAsSeen cX5_isAsSeen 5 (some .boolean) 1 [.inr 1, .inr 127] M (some R.1) R.2 := xMet.ofZ (by decide +kernel) (Nat.le_of_ble_eq_true rfl) fun _ hC hR => v5_isAsSeen  hC hR h
def g5_lampsOf_b4 : Nat → Int32 → Int32 → Int32 → xMem → Option (Int32 × xMem)
  | 0, _, _, _, _ => none
  | n + 1, x1, x2, x3, M => 
    (if (M 135 0) ≤ x3 then
    (some (x2, M))
    else
    (if (9 : Int32) ≤ x3 then
    (some (x2, M))
    else
    (if x3 < 0 ∨ 9 ≤ x3.toNatClampNeg then none else
    g5_lampsOf_b4 n x1 (x2 ||| (((x1 >>> (x3 &&& 31)) &&& (1 : Int32)) <<< ((M 134 x3.toNatClampNeg) &&& 31))) (x3 + (1 : Int32)) M)))
set_option maxHeartbeats 4000000 in
set_option maxRecDepth 20000 in
theorem v5_lampsOf_b4 {G : xG} (hC : xC G cX5_lampsOf 4 RX5 0) {R : Int32 × xMem} (hR : xRI G cX5_lampsOf 4 R) : ∀ (n : Nat) (x1 x2 x3 : Int32) (M : xMem), g5_lampsOf_b4 n x1 x2 x3 M = some R → V G 4 4 [(0, .inr 1), (1, .inl x1), (2, .inl x2), (3, .inl x3)] [] M := by
  intro n
  induction n with
  | zero => intro x1 x2 x3 M h; rw [g5_lampsOf_b4] at h; cases h
  | succ n ih =>
    intro x1 x2 x3 M h
    rw [g5_lampsOf_b4] at h
    refine V.iload_n (r := 5) hC 3 dX5_lampsOf_4 rfl rfl ?_
    refine V.aload_n (r := 6) hC 0 dX5_lampsOf_5 rfl rfl ?_
    refine V.getI (b := 135) (i := 0) (j := 5) (r := 9) hC xcl_5 sh_1 fl_RX5_36 dX5_lampsOf_6 (by decide) rfl rfl ?_
    refine V.icmp_ge (tgt := 42) (r := 12) hC dX5_lampsOf_9 (by decide) rfl (fun c1 => ?_) (fun c1 => ?_)
    · rw [if_pos c1] at h
      refine V.iload_n (r := 43) hC 2 dX5_lampsOf_42 rfl rfl ?_
      cases h
      exact hR _ _ dX5_lampsOf_43
    · rw [if_neg c1] at h
      refine V.iload_n (r := 13) hC 3 dX5_lampsOf_12 rfl rfl ?_
      refine V.aload_n (r := 14) hC 0 dX5_lampsOf_13 rfl rfl ?_
      refine V.getR (k' := 120) (j := 4) (r := 17) hC xcl_5 sh_1 fl_RX5_32 dX5_lampsOf_14 (by decide) rfl rfl ?_
      refine V.alen (v := (9 : Int32)) (r := 18) hC sh_120 (by decide) dX5_lampsOf_17 (by decide) rfl ?_
      refine V.icmp_ge (tgt := 42) (r := 21) hC dX5_lampsOf_18 (by decide) rfl (fun c2 => ?_) (fun c2 => ?_)
      · rw [if_pos c2] at h
        refine V.iload_n (r := 43) hC 2 dX5_lampsOf_42 rfl rfl ?_
        cases h
        exact hR _ _ dX5_lampsOf_43
      · rw [if_neg c2] at h
        refine V.iload_n (r := 22) hC 2 dX5_lampsOf_21 rfl rfl ?_
        refine V.iload_n (r := 23) hC 1 dX5_lampsOf_22 rfl rfl ?_
        refine V.iload_n (r := 24) hC 3 dX5_lampsOf_23 rfl rfl ?_
        refine V.ishr (r := 25) hC dX5_lampsOf_24 rfl ?_
        refine V.iconst (r := 26) hC dX5_lampsOf_25 ki_1 rfl ?_
        refine V.iand (r := 27) hC dX5_lampsOf_26 rfl ?_
        refine V.aload_n (r := 28) hC 0 dX5_lampsOf_27 rfl rfl ?_
        refine V.getR (k' := 120) (j := 4) (r := 31) hC xcl_5 sh_1 fl_RX5_32 dX5_lampsOf_28 (by decide) rfl rfl ?_
        refine V.iload_n (r := 32) hC 3 dX5_lampsOf_31 rfl rfl ?_
        by_cases c3 : x3 < 0 ∨ 9 ≤ x3.toNatClampNeg
        · rw [if_pos c3] at h; cases h
        rw [if_neg c3] at h
        refine V.iald (t := x3.toNatClampNeg) (r := 33) hC sh_120 dX5_lampsOf_32 c3 (Nat.zero_add _) rfl ?_
        refine V.ishl (r := 34) hC dX5_lampsOf_33 rfl ?_
        refine V.ior (r := 35) hC dX5_lampsOf_34 rfl ?_
        refine V.ist_n (lv' := [(0, .inr 1), (1, .inl x1), (2, .inl (x2 ||| (((x1 >>> (x3 &&& 31)) &&& (1 : Int32)) <<< ((M 134 x3.toNatClampNeg) &&& 31)))), (3, .inl x3)]) (r := 36) hC dX5_lampsOf_35 rfl rfl rfl ?_
        refine V.inc (lv' := [(0, .inr 1), (1, .inl x1), (2, .inl (x2 ||| (((x1 >>> (x3 &&& 31)) &&& (1 : Int32)) <<< ((M 134 x3.toNatClampNeg) &&& 31)))), (3, .inl (x3 + (1 : Int32)))]) (r := 39) hC 3 dX5_lampsOf_36 rfl ki_1 rfl rfl rfl ?_
        refine V.goto (tgt := 4) hC dX5_lampsOf_39 (by decide) ?_
        exact ih _ _ _ _ h
def g5_lampsOf (a0 : Int32) (M : xMem) : Option (Int32 × xMem) :=
g5_lampsOf_b4 5000 a0 (0 : Int32) (0 : Int32) M
set_option maxHeartbeats 4000000 in
set_option maxRecDepth 20000 in
theorem v5_lampsOf {G : xG} (hC : xC G cX5_lampsOf 4 RX5 0) {R : Int32 × xMem} (hR : xRI G cX5_lampsOf 4 R) {a0 : Int32} {M : xMem} (h : g5_lampsOf a0 M = some R) : V G 4 0 [(0, .inr 1), (1, .inl a0)] [] M := by
  unfold g5_lampsOf at h
  refine V.iconst (r := 1) hC dX5_lampsOf_0 ki_0 rfl ?_
  refine V.ist_n (lv' := [(0, .inr 1), (1, .inl a0), (2, .inl (0 : Int32))]) (r := 2) hC dX5_lampsOf_1 rfl rfl rfl ?_
  refine V.iconst (r := 3) hC dX5_lampsOf_2 ki_0 rfl ?_
  refine V.ist_n (lv' := [(0, .inr 1), (1, .inl a0), (2, .inl (0 : Int32)), (3, .inl (0 : Int32))]) (r := 4) hC dX5_lampsOf_3 rfl rfl rfl ?_
  exact v5_lampsOf_b4  hC hR  5000 _ _ _ _ h
theorem met5_lampsOf {R : Int32 × xMem} {a0 : Int32} {M : xMem} (h : g5_lampsOf a0 M = some R) : xMet yX5_lampsOf cX5_lampsOf 4 (some .int) 0 [.inr 1, .inl a0] M (some R.1) R.2 := xMet.ofI (by decide +kernel) (Nat.le_of_ble_eq_true rfl) fun _ hC hR => v5_lampsOf  hC hR h
def g5_found_b16 (s1 : Int32) (M : xMem) : Option (xMem) :=
mset (upM M 142 0 s1) fun M2 =>
mset (upM M2 141 0 ((M2 141 0) + (1 : Int32))) fun M3 =>
some M3
set_option maxHeartbeats 4000000 in
set_option maxRecDepth 20000 in
theorem v5_found_b16 {G : xG} (hC : xC G cX5_found 2 RX5 0) {R : xMem} (hR : xRV G cX5_found 2 R) (s1 : Int32) (M : xMem) (h : g5_found_b16 s1 M = some R) : V G 2 16 [(0, .inr 1)] [.inl s1, .inr 1] M := by
  unfold g5_found_b16 at h
  rw [mset_eq] at h
  refine V.putI (b := 142) (i := 0) (j := 12) (ty := .int) (r := 19) hC xcl_5 xcp_5 sh_1 fl_RX5_58 dX5_found_16 (by decide) rfl rfl (by decide +kernel) rfl rfl rfl ?_
  generalize upM M 142 0 s1 = M2 at h ⊢
  refine V.aload_n (r := 20) hC 0 dX5_found_19 rfl rfl ?_
  refine V.dup (r := 21) hC dX5_found_20 rfl ?_
  refine V.getI (b := 141) (i := 0) (j := 11) (r := 24) hC xcl_5 sh_1 fl_RX5_55 dX5_found_21 (by decide) rfl rfl ?_
  refine V.iconst (r := 25) hC dX5_found_24 ki_1 rfl ?_
  refine V.iadd (r := 26) hC dX5_found_25 rfl ?_
  rw [mset_eq] at h
  refine V.putI (b := 141) (i := 0) (j := 11) (ty := .int) (r := 29) hC xcl_5 xcp_5 sh_1 fl_RX5_55 dX5_found_26 (by decide) rfl rfl (by decide +kernel) rfl rfl rfl ?_
  generalize upM M2 141 0 ((M2 141 0) + (1 : Int32)) = M3 at h ⊢
  cases h
  exact hR _ _ dX5_found_29
def g5_found (a0 : Int32) (M : xMem) : Option (xMem) :=
if (M 141 0) = 0 then
(g5_found_b16 a0 M)
else
(g5_found_b16 (M 142 0) M)
set_option maxHeartbeats 4000000 in
set_option maxRecDepth 20000 in
theorem v5_found {G : xG} (hC : xC G cX5_found 2 RX5 0) {R : xMem} (hR : xRV G cX5_found 2 R) {a0 : Int32} {M : xMem} (h : g5_found a0 M = some R) : V G 2 0 [(0, .inr 1), (1, .inl a0)] [] M := by
  unfold g5_found at h
  refine V.aload_n (r := 1) hC 0 dX5_found_0 rfl rfl ?_
  refine V.aload_n (r := 2) hC 0 dX5_found_1 rfl rfl ?_
  refine V.getI (b := 141) (i := 0) (j := 11) (r := 5) hC xcl_5 sh_1 fl_RX5_55 dX5_found_2 (by decide) rfl rfl ?_
  refine V.if_ne (tgt := 12) (r := 8) hC dX5_found_5 (by decide) rfl (fun c1 => ?_) (fun c1 => ?_)
  · rw [if_neg c1] at h
    refine V.aload_n (r := 13) hC 0 dX5_found_12 rfl rfl ?_
    refine V.getI (b := 142) (i := 0) (j := 12) (r := 16) hC xcl_5 sh_1 fl_RX5_58 dX5_found_13 (by decide) rfl rfl ?_
    refine V.pick (lv' := [(0, .inr 1)]) [0] rfl ?_
    exact v5_found_b16  hC hR  _ _ h
  · rw [if_pos c1] at h
    refine V.iload_n (r := 9) hC 1 dX5_found_8 rfl rfl ?_
    refine V.goto (tgt := 16) hC dX5_found_9 (by decide) ?_
    refine V.pick (lv' := [(0, .inr 1)]) [0] rfl ?_
    exact v5_found_b16  hC hR  _ _ h
theorem met5_found {R : xMem} {a0 : Int32} {M : xMem} (h : g5_found a0 M = some R) : xMet yX5_found cX5_found 2 none 0 [.inr 1, .inl a0] M none R := xMet.ofV (by decide +kernel) (Nat.le_of_ble_eq_true rfl) fun _ hC hR => v5_found  hC hR h
def g5_matchSets_b137 (k28 : Int32 → Int32 → xMem → Option (xMem)) (x1 x3 : Int32) (M : xMem) : Option (xMem) :=
k28 x1 (x3 + (1 : Int32)) M
set_option maxHeartbeats 4000000 in
set_option maxRecDepth 20000 in
theorem v5_matchSets_b137 {G : xG} (hC : xC G cX5_matchSets 4 RX5 7) {R : xMem} (hR : xRV G cX5_matchSets 4 R) {k28 : Int32 → Int32 → xMem → Option (xMem)} (hk28 : ∀ (y1 y3 : Int32) (N : xMem), k28 y1 y3 N = some R → V G 4 28 [(0, .inr 1), (1, .inl y1), (2, .inr 127), (3, .inl y3)] [] N) (x1 x3 : Int32) (M : xMem) (h : g5_matchSets_b137 k28 x1 x3 M = some R) : V G 4 137 [(0, .inr 1), (1, .inl x1), (2, .inr 127), (3, .inl x3)] [] M := by
  unfold g5_matchSets_b137 at h
  refine V.inc (lv' := [(0, .inr 1), (1, .inl x1), (2, .inr 127), (3, .inl (x3 + (1 : Int32)))]) (r := 140) hC 3 dX5_matchSets_137 rfl ki_1 rfl rfl rfl ?_
  refine V.goto (tgt := 28) hC dX5_matchSets_140 (by decide) ?_
  exact hk28 _ _ _ h
def g5_matchSets_b125 (k28 : Int32 → Int32 → xMem → Option (xMem)) (x1 x3 s1 : Int32) (M : xMem) : Option (xMem) :=
mset (upM M 143 0 s1) fun M32 =>
Option.bind (g5_lampsOf x3 M32) fun q33 =>
Option.bind (g5_found (q33.1) q33.2) fun q35 =>
g5_matchSets_b137 k28 x1 x3 q35
set_option maxHeartbeats 4000000 in
set_option maxRecDepth 20000 in
theorem v5_matchSets_b125 {G : xG} (hC : xC G cX5_matchSets 4 RX5 7) {R : xMem} (hR : xRV G cX5_matchSets 4 R) {k28 : Int32 → Int32 → xMem → Option (xMem)} (hk28 : ∀ (y1 y3 : Int32) (N : xMem), k28 y1 y3 N = some R → V G 4 28 [(0, .inr 1), (1, .inl y1), (2, .inr 127), (3, .inl y3)] [] N) (x1 x3 s1 : Int32) (M : xMem) (h : g5_matchSets_b125 k28 x1 x3 s1 M = some R) : V G 4 125 [(0, .inr 1), (1, .inl x1), (2, .inr 127), (3, .inl x3)] [.inl s1, .inr 1] M := by
  unfold g5_matchSets_b125 at h
  rw [mset_eq] at h
  refine V.putI (b := 143) (i := 0) (j := 13) (ty := .int) (r := 128) hC xcl_5 xcp_5 sh_1 fl_RX5_61 dX5_matchSets_125 (by decide) rfl rfl (by decide +kernel) rfl rfl rfl ?_
  generalize upM M 143 0 s1 = M32 at h ⊢
  refine V.aload_n (r := 129) hC 0 dX5_matchSets_128 rfl rfl ?_
  refine V.aload_n (r := 130) hC 0 dX5_matchSets_129 rfl rfl ?_
  refine V.iload_n (r := 131) hC 3 dX5_matchSets_130 rfl rfl ?_
  obtain ⟨q33, hq34, h⟩ := Option.bind_eq_some_iff.mp h
  try dsimp only at h
  refine V.invVi (as := [.inl x3]) (st := [.inr 1]) (r := 134) hC (met5_lampsOf hq34) yv_X5_lampsOf ml_RX5_115 sh_1 rfl rfl dX5_matchSets_131 (by decide) rfl rfl rfl rfl ?_
  obtain ⟨q35, hq36, h⟩ := Option.bind_eq_some_iff.mp h
  try dsimp only at h
  refine V.invVv (as := [.inl (q33.1)]) (st := []) (r := 137) hC (met5_found hq36) yv_X5_found ml_RX5_119 sh_1 rfl rfl dX5_matchSets_134 (by decide) rfl rfl rfl rfl ?_
  exact v5_matchSets_b137  hC hR hk28 _ _ _ h
def g5_matchSets_b89 (k28 : Int32 → Int32 → xMem → Option (xMem)) (x1 x3 : Int32) (M : xMem) : Option (xMem) :=
if x3 < 0 ∨ 512 ≤ x3.toNatClampNeg then none else
if (M 136 x3.toNatClampNeg) = (1 : Int32) then
(if (M 141 0) = 0 then
(Option.bind (g5_lampsOf x3 M) fun q30 =>
g5_matchSets_b125 k28 x1 x3 (q30.1) q30.2)
else
(Option.bind (g5_lampsOf x3 M) fun q28 =>
g5_matchSets_b125 k28 x1 x3 ((M 143 0) &&& (q28.1)) q28.2))
else
(g5_matchSets_b137 k28 x1 x3 M)
set_option maxHeartbeats 4000000 in
set_option maxRecDepth 20000 in
theorem v5_matchSets_b89 {G : xG} (hC : xC G cX5_matchSets 4 RX5 7) {R : xMem} (hR : xRV G cX5_matchSets 4 R) {k28 : Int32 → Int32 → xMem → Option (xMem)} (hk28 : ∀ (y1 y3 : Int32) (N : xMem), k28 y1 y3 N = some R → V G 4 28 [(0, .inr 1), (1, .inl y1), (2, .inr 127), (3, .inl y3)] [] N) (x1 x3 : Int32) (M : xMem) (h : g5_matchSets_b89 k28 x1 x3 M = some R) : V G 4 89 [(0, .inr 1), (1, .inl x1), (2, .inr 127), (3, .inl x3)] [] M := by
  unfold g5_matchSets_b89 at h
  refine V.aload_n (r := 90) hC 0 dX5_matchSets_89 rfl rfl ?_
  refine V.getR (k' := 121) (j := 6) (r := 93) hC xcl_5 sh_1 fl_RX5_40 dX5_matchSets_90 (by decide) rfl rfl ?_
  refine V.iload_n (r := 94) hC 3 dX5_matchSets_93 rfl rfl ?_
  by_cases c25 : x3 < 0 ∨ 512 ≤ x3.toNatClampNeg
  · rw [if_pos c25] at h; cases h
  rw [if_neg c25] at h
  refine V.iald (t := x3.toNatClampNeg) (r := 95) hC sh_121 dX5_matchSets_94 c25 (Nat.zero_add _) rfl ?_
  refine V.iconst (r := 96) hC dX5_matchSets_95 ki_1 rfl ?_
  refine V.icmp_ne (tgt := 137) (r := 99) hC dX5_matchSets_96 (by decide) rfl (fun c26 => ?_) (fun c26 => ?_)
  · rw [if_neg c26] at h
    exact v5_matchSets_b137  hC hR hk28 _ _ _ h
  · rw [if_pos c26] at h
    refine V.aload_n (r := 100) hC 0 dX5_matchSets_99 rfl rfl ?_
    refine V.aload_n (r := 101) hC 0 dX5_matchSets_100 rfl rfl ?_
    refine V.getI (b := 141) (i := 0) (j := 11) (r := 104) hC xcl_5 sh_1 fl_RX5_55 dX5_matchSets_101 (by decide) rfl rfl ?_
    refine V.if_ne (tgt := 115) (r := 107) hC dX5_matchSets_104 (by decide) rfl (fun c27 => ?_) (fun c27 => ?_)
    · rw [if_neg c27] at h
      refine V.aload_n (r := 116) hC 0 dX5_matchSets_115 rfl rfl ?_
      refine V.getI (b := 143) (i := 0) (j := 13) (r := 119) hC xcl_5 sh_1 fl_RX5_61 dX5_matchSets_116 (by decide) rfl rfl ?_
      refine V.aload_n (r := 120) hC 0 dX5_matchSets_119 rfl rfl ?_
      refine V.iload_n (r := 121) hC 3 dX5_matchSets_120 rfl rfl ?_
      obtain ⟨q28, hq29, h⟩ := Option.bind_eq_some_iff.mp h
      try dsimp only at h
      refine V.invVi (as := [.inl x3]) (st := [.inl (M 143 0), .inr 1]) (r := 124) hC (met5_lampsOf hq29) yv_X5_lampsOf ml_RX5_115 sh_1 rfl rfl dX5_matchSets_121 (by decide) rfl rfl rfl rfl ?_
      refine V.iand (r := 125) hC dX5_matchSets_124 rfl ?_
      exact v5_matchSets_b125  hC hR hk28 _ _ _ _ h
    · rw [if_pos c27] at h
      refine V.aload_n (r := 108) hC 0 dX5_matchSets_107 rfl rfl ?_
      refine V.iload_n (r := 109) hC 3 dX5_matchSets_108 rfl rfl ?_
      obtain ⟨q30, hq31, h⟩ := Option.bind_eq_some_iff.mp h
      try dsimp only at h
      refine V.invVi (as := [.inl x3]) (st := [.inr 1]) (r := 112) hC (met5_lampsOf hq31) yv_X5_lampsOf ml_RX5_115 sh_1 rfl rfl dX5_matchSets_109 (by decide) rfl rfl rfl rfl ?_
      refine V.goto (tgt := 125) hC dX5_matchSets_112 (by decide) ?_
      exact v5_matchSets_b125  hC hR hk28 _ _ _ _ h
def g5_matchSets_b86 (k28 : Int32 → Int32 → xMem → Option (xMem)) (x1 x3 s1 s2 : Int32) (M : xMem) : Option (xMem) :=
Option.bind (g5_note s1 s2 M) fun q23 =>
g5_matchSets_b89 k28 x1 x3 q23
set_option maxHeartbeats 4000000 in
set_option maxRecDepth 20000 in
theorem v5_matchSets_b86 {G : xG} (hC : xC G cX5_matchSets 4 RX5 7) {R : xMem} (hR : xRV G cX5_matchSets 4 R) {k28 : Int32 → Int32 → xMem → Option (xMem)} (hk28 : ∀ (y1 y3 : Int32) (N : xMem), k28 y1 y3 N = some R → V G 4 28 [(0, .inr 1), (1, .inl y1), (2, .inr 127), (3, .inl y3)] [] N) (x1 x3 s1 s2 : Int32) (M : xMem) (h : g5_matchSets_b86 k28 x1 x3 s1 s2 M = some R) : V G 4 86 [(0, .inr 1), (1, .inl x1), (2, .inr 127), (3, .inl x3)] [.inl s2, .inl s1, .inr 1] M := by
  unfold g5_matchSets_b86 at h
  obtain ⟨q23, hq24, h⟩ := Option.bind_eq_some_iff.mp h
  try dsimp only at h
  refine V.invVv (as := [.inl s1, .inl s2]) (st := []) (r := 89) hC (met5_note hq24) yv_X5_note ml_RX5_101 sh_1 rfl rfl dX5_matchSets_86 (by decide) rfl rfl rfl rfl ?_
  exact v5_matchSets_b89  hC hR hk28 _ _ _ h
def g5_matchSets_b28 : Nat → Int32 → Int32 → xMem → Option (xMem)
  | 0, _, _, _ => none
  | n + 1, x1, x3, M => 
    (if (512 : Int32) ≤ x3 then
    (some M)
    else
    (Option.bind (g5_isSet x3 M) fun q11 =>
    if (q11.1) = 0 then
    (some q11.2)
    else
    (if x3 < 0 ∨ 512 ≤ x3.toNatClampNeg then none else
    if (q11.2 136 x3.toNatClampNeg) = (-1 : Int32) then
    (Option.bind (g5_lightSet x3 q11.2) fun q16 =>
    Option.bind (g0_passHours 1 x1 q16) fun q18 =>
    Option.bind (g5_isAsSeen q18.2) fun q20 =>
    if (q20.1) = 0 then
    (g5_matchSets_b86 (g5_matchSets_b28 n) x1 x3 x3 (0 : Int32) q20.2)
    else
    (g5_matchSets_b86 (g5_matchSets_b28 n) x1 x3 x3 (1 : Int32) q20.2))
    else
    (g5_matchSets_b89 (g5_matchSets_b28 n) x1 x3 q11.2))))
set_option maxHeartbeats 4000000 in
set_option maxRecDepth 20000 in
theorem v5_matchSets_b28 {G : xG} (hC : xC G cX5_matchSets 4 RX5 7) {R : xMem} (hR : xRV G cX5_matchSets 4 R) : ∀ (n : Nat) (x1 x3 : Int32) (M : xMem), g5_matchSets_b28 n x1 x3 M = some R → V G 4 28 [(0, .inr 1), (1, .inl x1), (2, .inr 127), (3, .inl x3)] [] M := by
  intro n
  induction n with
  | zero => intro x1 x3 M h; rw [g5_matchSets_b28] at h; cases h
  | succ n ih =>
    intro x1 x3 M h
    rw [g5_matchSets_b28] at h
    refine V.iload_n (r := 29) hC 3 dX5_matchSets_28 rfl rfl ?_
    refine V.sipush (r := 32) hC dX5_matchSets_29 ks_512 rfl ?_
    refine V.icmp_ge (tgt := 143) (r := 35) hC dX5_matchSets_32 (by decide) rfl (fun c10 => ?_) (fun c10 => ?_)
    · rw [if_pos c10] at h
      cases h
      exact hR _ _ dX5_matchSets_143
    · rw [if_neg c10] at h
      refine V.aload_n (r := 36) hC 0 dX5_matchSets_35 rfl rfl ?_
      refine V.iload_n (r := 37) hC 3 dX5_matchSets_36 rfl rfl ?_
      obtain ⟨q11, hq12, h⟩ := Option.bind_eq_some_iff.mp h
      try dsimp only at h
      refine V.invVi (as := [.inl x3]) (st := []) (r := 40) hC (met5_isSet hq12) yv_X5_isSet ml_RX5_77 sh_1 rfl rfl dX5_matchSets_37 (by decide) rfl rfl rfl rfl ?_
      refine V.if_eq (tgt := 143) (r := 43) hC dX5_matchSets_40 (by decide) rfl (fun c13 => ?_) (fun c13 => ?_)
      · rw [if_pos c13] at h
        cases h
        exact hR _ _ dX5_matchSets_143
      · rw [if_neg c13] at h
        refine V.aload_n (r := 44) hC 0 dX5_matchSets_43 rfl rfl ?_
        refine V.getR (k' := 121) (j := 6) (r := 47) hC xcl_5 sh_1 fl_RX5_40 dX5_matchSets_44 (by decide) rfl rfl ?_
        refine V.iload_n (r := 48) hC 3 dX5_matchSets_47 rfl rfl ?_
        by_cases c14 : x3 < 0 ∨ 512 ≤ x3.toNatClampNeg
        · rw [if_pos c14] at h; cases h
        rw [if_neg c14] at h
        refine V.iald (t := x3.toNatClampNeg) (r := 49) hC sh_121 dX5_matchSets_48 c14 (Nat.zero_add _) rfl ?_
        refine V.iconst (r := 50) hC dX5_matchSets_49 ki_m1 rfl ?_
        refine V.icmp_ne (tgt := 89) (r := 53) hC dX5_matchSets_50 (by decide) rfl (fun c15 => ?_) (fun c15 => ?_)
        · rw [if_neg c15] at h
          exact v5_matchSets_b89  hC hR ih _ _ _ h
        · rw [if_pos c15] at h
          refine V.aload_n (r := 54) hC 0 dX5_matchSets_53 rfl rfl ?_
          refine V.iload_n (r := 55) hC 3 dX5_matchSets_54 rfl rfl ?_
          obtain ⟨q16, hq17, h⟩ := Option.bind_eq_some_iff.mp h
          try dsimp only at h
          refine V.invVv (as := [.inl x3]) (st := []) (r := 58) hC (met5_lightSet hq17) yv_X5_lightSet ml_RX5_81 sh_1 rfl rfl dX5_matchSets_55 (by decide) rfl rfl rfl rfl ?_
          refine V.aload_n (r := 59) hC 0 dX5_matchSets_58 rfl rfl ?_
          refine V.getR (k' := 20) (j := 1) (r := 62) hC xcl_5 sh_1 fl_RX5_21 dX5_matchSets_59 (by decide) rfl rfl ?_
          refine V.aload_n (r := 63) hC 0 dX5_matchSets_62 rfl rfl ?_
          refine V.getR (k' := 29) (j := 2) (r := 66) hC xcl_5 sh_1 fl_RX5_25 dX5_matchSets_63 (by decide) rfl rfl ?_
          refine V.iload_n (r := 67) hC 1 dX5_matchSets_66 rfl rfl ?_
          obtain ⟨q18, hq19, h⟩ := Option.bind_eq_some_iff.mp h
          try dsimp only at h
          refine V.invVi (as := [.inr 29, .inl x1]) (st := []) (r := 70) hC (met0_passHours (by decide) hq19) yv_X0_passHours ml_RX5_88 sh_20 rfl rfl dX5_matchSets_67 (by decide) rfl rfl rfl rfl ?_
          refine V.pop (r := 71) hC dX5_matchSets_70 rfl ?_
          refine V.aload_n (r := 72) hC 0 dX5_matchSets_71 rfl rfl ?_
          refine V.iload_n (r := 73) hC 3 dX5_matchSets_72 rfl rfl ?_
          refine V.aload_n (r := 74) hC 0 dX5_matchSets_73 rfl rfl ?_
          refine V.aload_n (r := 75) hC 2 dX5_matchSets_74 rfl rfl ?_
          obtain ⟨q20, hq21, h⟩ := Option.bind_eq_some_iff.mp h
          try dsimp only at h
          refine V.invVi (as := [.inr 127]) (st := [.inl x3, .inr 1]) (r := 78) hC (met5_isAsSeen hq21) yv_X5_isAsSeen ml_RX5_111 sh_1 rfl rfl dX5_matchSets_75 (by decide) rfl rfl rfl rfl ?_
          refine V.if_eq (tgt := 85) (r := 81) hC dX5_matchSets_78 (by decide) rfl (fun c22 => ?_) (fun c22 => ?_)
          · rw [if_pos c22] at h
            refine V.iconst (r := 86) hC dX5_matchSets_85 ki_0 rfl ?_
            exact v5_matchSets_b86  hC hR ih _ _ _ _ _ h
          · rw [if_neg c22] at h
            refine V.iconst (r := 82) hC dX5_matchSets_81 ki_1 rfl ?_
            refine V.goto (tgt := 86) hC dX5_matchSets_82 (by decide) ?_
            exact v5_matchSets_b86  hC hR ih _ _ _ _ _ h
def g5_matchSets (a0 : Int32) (M : xMem) : Option (xMem) :=
mset (upM M 135 0 (0 : Int32)) fun M1 =>
Option.bind (g5_chooseInns (5 : Int32) M1) fun q2 =>
Option.bind (g5_chooseStrays q2) fun q4 =>
Option.bind (gJ7_fill_53178_121 (-1 : Int32) q4) fun q6 =>
Option.bind (g5_clearFound q6) fun q8 =>
g5_matchSets_b28 5000 a0 (0 : Int32) q8
set_option maxHeartbeats 4000000 in
set_option maxRecDepth 20000 in
theorem v5_matchSets {G : xG} (hC : xC G cX5_matchSets 4 RX5 7) {R : xMem} (hR : xRV G cX5_matchSets 4 R) {a0 : Int32} {M : xMem} (h : g5_matchSets a0 M = some R) : V G 4 0 [(0, .inr 1), (1, .inl a0), (2, .inr 127)] [] M := by
  unfold g5_matchSets at h
  refine V.aload_n (r := 1) hC 0 dX5_matchSets_0 rfl rfl ?_
  refine V.iconst (r := 2) hC dX5_matchSets_1 ki_0 rfl ?_
  rw [mset_eq] at h
  refine V.putI (b := 135) (i := 0) (j := 5) (ty := .int) (r := 5) hC xcl_5 xcp_5 sh_1 fl_RX5_36 dX5_matchSets_2 (by decide) rfl rfl (by decide +kernel) rfl rfl rfl ?_
  generalize upM M 135 0 (0 : Int32) = M1 at h ⊢
  refine V.aload_n (r := 6) hC 0 dX5_matchSets_5 rfl rfl ?_
  refine V.iconst (r := 7) hC dX5_matchSets_6 ki_5 rfl ?_
  obtain ⟨q2, hq3, h⟩ := Option.bind_eq_some_iff.mp h
  try dsimp only at h
  refine V.invVv (as := [.inl (5 : Int32)]) (st := []) (r := 10) hC (met5_chooseInns hq3) yv_X5_chooseInns ml_RX5_67 sh_1 rfl rfl dX5_matchSets_7 (by decide) rfl rfl rfl rfl ?_
  refine V.aload_n (r := 11) hC 0 dX5_matchSets_10 rfl rfl ?_
  obtain ⟨q4, hq5, h⟩ := Option.bind_eq_some_iff.mp h
  try dsimp only at h
  refine V.invVv (as := []) (st := []) (r := 14) hC (met5_chooseStrays hq5) yv_X5_chooseStrays ml_RX5_105 sh_1 rfl rfl dX5_matchSets_11 (by decide) rfl rfl rfl rfl ?_
  refine V.aload_n (r := 15) hC 0 dX5_matchSets_14 rfl rfl ?_
  refine V.getR (k' := 121) (j := 6) (r := 18) hC xcl_5 sh_1 fl_RX5_40 dX5_matchSets_15 (by decide) rfl rfl ?_
  refine V.iconst (r := 19) hC dX5_matchSets_18 ki_m1 rfl ?_
  obtain ⟨q6, hq7, h⟩ := Option.bind_eq_some_iff.mp h
  try dsimp only at h
  refine V.invSv (as := [.inr 121, .inl (-1 : Int32)]) (st := []) (r := 22) hC (metJ7_fill_53178_121 hq7) ys_J7_fill_53178 ml_RX5_71 dX5_matchSets_19 (by decide) rfl rfl rfl rfl ?_
  refine V.aload_n (r := 23) hC 0 dX5_matchSets_22 rfl rfl ?_
  obtain ⟨q8, hq9, h⟩ := Option.bind_eq_some_iff.mp h
  try dsimp only at h
  refine V.invVv (as := []) (st := []) (r := 26) hC (met5_clearFound hq9) yv_X5_clearFound ml_RX5_108 sh_1 rfl rfl dX5_matchSets_23 (by decide) rfl rfl rfl rfl ?_
  refine V.iconst (r := 27) hC dX5_matchSets_26 ki_0 rfl ?_
  refine V.ist_n (lv' := [(0, .inr 1), (1, .inl a0), (2, .inr 127), (3, .inl (0 : Int32))]) (r := 28) hC dX5_matchSets_27 rfl rfl rfl ?_
  exact v5_matchSets_b28  hC hR  5000 _ _ _ h
theorem met5_matchSets {R : xMem} {a0 : Int32} {M : xMem} (h : g5_matchSets a0 M = some R) : xMet yX5_matchSets cX5_matchSets 4 none 7 [.inr 1, .inl a0, .inr 127] M none R := xMet.ofV (by decide +kernel) (Nat.le_of_ble_eq_true rfl) fun _ hC hR => v5_matchSets  hC hR h
def g5_cameOf (a0 : Int32) (M : xMem) : Option (Int32 × xMem) :=
Option.bind (g5_isSet a0 M) fun q1 =>
if (q1.1) = 0 then
(some ((-1 : Int32), q1.2))
else
(if a0 < 0 ∨ 512 ≤ a0.toNatClampNeg then none else
some (q1.2 136 a0.toNatClampNeg, q1.2))
set_option maxHeartbeats 4000000 in
set_option maxRecDepth 20000 in
theorem v5_cameOf {G : xG} (hC : xC G cX5_cameOf 2 RX5 1) {R : Int32 × xMem} (hR : xRI G cX5_cameOf 2 R) {a0 : Int32} {M : xMem} (h : g5_cameOf a0 M = some R) : V G 2 0 [(0, .inr 1), (1, .inl a0)] [] M := by
  unfold g5_cameOf at h
  refine V.aload_n (r := 1) hC 0 dX5_cameOf_0 rfl rfl ?_
  refine V.iload_n (r := 2) hC 1 dX5_cameOf_1 rfl rfl ?_
  obtain ⟨q1, hq2, h⟩ := Option.bind_eq_some_iff.mp h
  try dsimp only at h
  refine V.invVi (as := [.inl a0]) (st := []) (r := 5) hC (met5_isSet hq2) yv_X5_isSet ml_RX5_77 sh_1 rfl rfl dX5_cameOf_2 (by decide) rfl rfl rfl rfl ?_
  refine V.if_eq (tgt := 17) (r := 8) hC dX5_cameOf_5 (by decide) rfl (fun c3 => ?_) (fun c3 => ?_)
  · rw [if_pos c3] at h
    refine V.iconst (r := 18) hC dX5_cameOf_17 ki_m1 rfl ?_
    cases h
    exact hR _ _ dX5_cameOf_18
  · rw [if_neg c3] at h
    refine V.aload_n (r := 9) hC 0 dX5_cameOf_8 rfl rfl ?_
    refine V.getR (k' := 121) (j := 6) (r := 12) hC xcl_5 sh_1 fl_RX5_40 dX5_cameOf_9 (by decide) rfl rfl ?_
    refine V.iload_n (r := 13) hC 1 dX5_cameOf_12 rfl rfl ?_
    by_cases c4 : a0 < 0 ∨ 512 ≤ a0.toNatClampNeg
    · rw [if_pos c4] at h; cases h
    rw [if_neg c4] at h
    refine V.iald (t := a0.toNatClampNeg) (r := 14) hC sh_121 dX5_cameOf_13 c4 (Nat.zero_add _) rfl ?_
    refine V.goto (tgt := 18) hC dX5_cameOf_14 (by decide) ?_
    cases h
    exact hR _ _ dX5_cameOf_18
theorem met5_cameOf {R : Int32 × xMem} {a0 : Int32} {M : xMem} (h : g5_cameOf a0 M = some R) : xMet yX5_cameOf cX5_cameOf 2 (some .int) 1 [.inr 1, .inl a0] M (some R.1) R.2 := xMet.ofI (by decide +kernel) (Nat.le_of_ble_eq_true rfl) fun _ hC hR => v5_cameOf  hC hR h
def g5_costOf (a0 : Int32) (M : xMem) : Option (Int32 × xMem) :=
Option.bind (g5_isSet a0 M) fun q1 =>
if (q1.1) = 0 then
(some ((0 : Int32), q1.2))
else
(if a0 < 0 ∨ 512 ≤ a0.toNatClampNeg then none else
some (q1.2 137 a0.toNatClampNeg, q1.2))
set_option maxHeartbeats 4000000 in
set_option maxRecDepth 20000 in
theorem v5_costOf {G : xG} (hC : xC G cX5_costOf 2 RX5 1) {R : Int32 × xMem} (hR : xRI G cX5_costOf 2 R) {a0 : Int32} {M : xMem} (h : g5_costOf a0 M = some R) : V G 2 0 [(0, .inr 1), (1, .inl a0)] [] M := by
  unfold g5_costOf at h
  refine V.aload_n (r := 1) hC 0 dX5_costOf_0 rfl rfl ?_
  refine V.iload_n (r := 2) hC 1 dX5_costOf_1 rfl rfl ?_
  obtain ⟨q1, hq2, h⟩ := Option.bind_eq_some_iff.mp h
  try dsimp only at h
  refine V.invVi (as := [.inl a0]) (st := []) (r := 5) hC (met5_isSet hq2) yv_X5_isSet ml_RX5_77 sh_1 rfl rfl dX5_costOf_2 (by decide) rfl rfl rfl rfl ?_
  refine V.if_eq (tgt := 17) (r := 8) hC dX5_costOf_5 (by decide) rfl (fun c3 => ?_) (fun c3 => ?_)
  · rw [if_pos c3] at h
    refine V.iconst (r := 18) hC dX5_costOf_17 ki_0 rfl ?_
    cases h
    exact hR _ _ dX5_costOf_18
  · rw [if_neg c3] at h
    refine V.aload_n (r := 9) hC 0 dX5_costOf_8 rfl rfl ?_
    refine V.getR (k' := 122) (j := 7) (r := 12) hC xcl_5 sh_1 fl_RX5_43 dX5_costOf_9 (by decide) rfl rfl ?_
    refine V.iload_n (r := 13) hC 1 dX5_costOf_12 rfl rfl ?_
    by_cases c4 : a0 < 0 ∨ 512 ≤ a0.toNatClampNeg
    · rw [if_pos c4] at h; cases h
    rw [if_neg c4] at h
    refine V.iald (t := a0.toNatClampNeg) (r := 14) hC sh_122 dX5_costOf_13 c4 (Nat.zero_add _) rfl ?_
    refine V.goto (tgt := 18) hC dX5_costOf_14 (by decide) ?_
    cases h
    exact hR _ _ dX5_costOf_18
theorem met5_costOf {R : Int32 × xMem} {a0 : Int32} {M : xMem} (h : g5_costOf a0 M = some R) : xMet yX5_costOf cX5_costOf 2 (some .int) 1 [.inr 1, .inl a0] M (some R.1) R.2 := xMet.ofI (by decide +kernel) (Nat.le_of_ble_eq_true rfl) fun _ hC hR => v5_costOf  hC hR h
def gJ6_numberOfTrailingZeros_0f7a4_b74 (x0 x1 : Int32) (M : xMem) : Option (Int32 × xMem) :=
some (x1 + ((x0.toUInt32 >>> ((1 : Int32).toUInt32 &&& Int32.toUInt32 31)).toInt32), M)
set_option maxHeartbeats 4000000 in
set_option maxRecDepth 20000 in
theorem vJ6_numberOfTrailingZeros_0f7a4_b74 {G : xG} (hC : xC G cJ6_numberOfTrailingZeros_0f7a4 2 RJ6 0) {R : Int32 × xMem} (hR : xRI G cJ6_numberOfTrailingZeros_0f7a4 2 R) (x0 x1 : Int32) (M : xMem) (h : gJ6_numberOfTrailingZeros_0f7a4_b74 x0 x1 M = some R) : V G 2 74 [(0, .inl x0), (1, .inl x1)] [] M := by
  unfold gJ6_numberOfTrailingZeros_0f7a4_b74 at h
  refine V.iload_n (r := 75) hC 1 dJ6_numberOfTrailingZeros_0f7a4_74 rfl rfl ?_
  refine V.iload_n (r := 76) hC 0 dJ6_numberOfTrailingZeros_0f7a4_75 rfl rfl ?_
  refine V.iconst (r := 77) hC dJ6_numberOfTrailingZeros_0f7a4_76 ki_1 rfl ?_
  refine V.iushr (r := 78) hC dJ6_numberOfTrailingZeros_0f7a4_77 rfl ?_
  refine V.iadd (r := 79) hC dJ6_numberOfTrailingZeros_0f7a4_78 rfl ?_
  cases h
  exact hR _ _ dJ6_numberOfTrailingZeros_0f7a4_79
def gJ6_numberOfTrailingZeros_0f7a4_b62 (x0 x1 : Int32) (M : xMem) : Option (Int32 × xMem) :=
if x0 ≤ (4 : Int32) then
(gJ6_numberOfTrailingZeros_0f7a4_b74 x0 x1 M)
else
(gJ6_numberOfTrailingZeros_0f7a4_b74 ((x0.toUInt32 >>> ((2 : Int32).toUInt32 &&& Int32.toUInt32 31)).toInt32) (x1 + (2 : Int32)) M)
set_option maxHeartbeats 4000000 in
set_option maxRecDepth 20000 in
theorem vJ6_numberOfTrailingZeros_0f7a4_b62 {G : xG} (hC : xC G cJ6_numberOfTrailingZeros_0f7a4 2 RJ6 0) {R : Int32 × xMem} (hR : xRI G cJ6_numberOfTrailingZeros_0f7a4 2 R) (x0 x1 : Int32) (M : xMem) (h : gJ6_numberOfTrailingZeros_0f7a4_b62 x0 x1 M = some R) : V G 2 62 [(0, .inl x0), (1, .inl x1)] [] M := by
  unfold gJ6_numberOfTrailingZeros_0f7a4_b62 at h
  refine V.iload_n (r := 63) hC 0 dJ6_numberOfTrailingZeros_0f7a4_62 rfl rfl ?_
  refine V.iconst (r := 64) hC dJ6_numberOfTrailingZeros_0f7a4_63 ki_4 rfl ?_
  refine V.icmp_le (tgt := 74) (r := 67) hC dJ6_numberOfTrailingZeros_0f7a4_64 (by decide) rfl (fun c5 => ?_) (fun c5 => ?_)
  · rw [if_pos c5] at h
    exact vJ6_numberOfTrailingZeros_0f7a4_b74  hC hR  _ _ _ h
  · rw [if_neg c5] at h
    refine V.inc (lv' := [(0, .inl x0), (1, .inl (x1 + (2 : Int32)))]) (r := 70) hC 1 dJ6_numberOfTrailingZeros_0f7a4_67 rfl ki_2 rfl rfl rfl ?_
    refine V.iload_n (r := 71) hC 0 dJ6_numberOfTrailingZeros_0f7a4_70 rfl rfl ?_
    refine V.iconst (r := 72) hC dJ6_numberOfTrailingZeros_0f7a4_71 ki_2 rfl ?_
    refine V.iushr (r := 73) hC dJ6_numberOfTrailingZeros_0f7a4_72 rfl ?_
    refine V.ist_n (lv' := [(0, .inl ((x0.toUInt32 >>> ((2 : Int32).toUInt32 &&& Int32.toUInt32 31)).toInt32)), (1, .inl (x1 + (2 : Int32)))]) (r := 74) hC dJ6_numberOfTrailingZeros_0f7a4_73 rfl rfl rfl ?_
    exact vJ6_numberOfTrailingZeros_0f7a4_b74  hC hR  _ _ _ h
def gJ6_numberOfTrailingZeros_0f7a4_b49 (x0 x1 : Int32) (M : xMem) : Option (Int32 × xMem) :=
if x0 ≤ (16 : Int32) then
(gJ6_numberOfTrailingZeros_0f7a4_b62 x0 x1 M)
else
(gJ6_numberOfTrailingZeros_0f7a4_b62 ((x0.toUInt32 >>> ((4 : Int32).toUInt32 &&& Int32.toUInt32 31)).toInt32) (x1 + (4 : Int32)) M)
set_option maxHeartbeats 4000000 in
set_option maxRecDepth 20000 in
theorem vJ6_numberOfTrailingZeros_0f7a4_b49 {G : xG} (hC : xC G cJ6_numberOfTrailingZeros_0f7a4 2 RJ6 0) {R : Int32 × xMem} (hR : xRI G cJ6_numberOfTrailingZeros_0f7a4 2 R) (x0 x1 : Int32) (M : xMem) (h : gJ6_numberOfTrailingZeros_0f7a4_b49 x0 x1 M = some R) : V G 2 49 [(0, .inl x0), (1, .inl x1)] [] M := by
  unfold gJ6_numberOfTrailingZeros_0f7a4_b49 at h
  refine V.iload_n (r := 50) hC 0 dJ6_numberOfTrailingZeros_0f7a4_49 rfl rfl ?_
  refine V.bipush (r := 52) hC dJ6_numberOfTrailingZeros_0f7a4_50 kb_16 rfl ?_
  refine V.icmp_le (tgt := 62) (r := 55) hC dJ6_numberOfTrailingZeros_0f7a4_52 (by decide) rfl (fun c4 => ?_) (fun c4 => ?_)
  · rw [if_pos c4] at h
    exact vJ6_numberOfTrailingZeros_0f7a4_b62  hC hR  _ _ _ h
  · rw [if_neg c4] at h
    refine V.inc (lv' := [(0, .inl x0), (1, .inl (x1 + (4 : Int32)))]) (r := 58) hC 1 dJ6_numberOfTrailingZeros_0f7a4_55 rfl ki_4 rfl rfl rfl ?_
    refine V.iload_n (r := 59) hC 0 dJ6_numberOfTrailingZeros_0f7a4_58 rfl rfl ?_
    refine V.iconst (r := 60) hC dJ6_numberOfTrailingZeros_0f7a4_59 ki_4 rfl ?_
    refine V.iushr (r := 61) hC dJ6_numberOfTrailingZeros_0f7a4_60 rfl ?_
    refine V.ist_n (lv' := [(0, .inl ((x0.toUInt32 >>> ((4 : Int32).toUInt32 &&& Int32.toUInt32 31)).toInt32)), (1, .inl (x1 + (4 : Int32)))]) (r := 62) hC dJ6_numberOfTrailingZeros_0f7a4_61 rfl rfl rfl ?_
    exact vJ6_numberOfTrailingZeros_0f7a4_b62  hC hR  _ _ _ h
def gJ6_numberOfTrailingZeros_0f7a4_b34 (x0 x1 : Int32) (M : xMem) : Option (Int32 × xMem) :=
if x0 ≤ (256 : Int32) then
(gJ6_numberOfTrailingZeros_0f7a4_b49 x0 x1 M)
else
(gJ6_numberOfTrailingZeros_0f7a4_b49 ((x0.toUInt32 >>> ((8 : Int32).toUInt32 &&& Int32.toUInt32 31)).toInt32) (x1 + (8 : Int32)) M)
set_option maxHeartbeats 4000000 in
set_option maxRecDepth 20000 in
theorem vJ6_numberOfTrailingZeros_0f7a4_b34 {G : xG} (hC : xC G cJ6_numberOfTrailingZeros_0f7a4 2 RJ6 0) {R : Int32 × xMem} (hR : xRI G cJ6_numberOfTrailingZeros_0f7a4 2 R) (x0 x1 : Int32) (M : xMem) (h : gJ6_numberOfTrailingZeros_0f7a4_b34 x0 x1 M = some R) : V G 2 34 [(0, .inl x0), (1, .inl x1)] [] M := by
  unfold gJ6_numberOfTrailingZeros_0f7a4_b34 at h
  refine V.iload_n (r := 35) hC 0 dJ6_numberOfTrailingZeros_0f7a4_34 rfl rfl ?_
  refine V.sipush (r := 38) hC dJ6_numberOfTrailingZeros_0f7a4_35 ks_256 rfl ?_
  refine V.icmp_le (tgt := 49) (r := 41) hC dJ6_numberOfTrailingZeros_0f7a4_38 (by decide) rfl (fun c3 => ?_) (fun c3 => ?_)
  · rw [if_pos c3] at h
    exact vJ6_numberOfTrailingZeros_0f7a4_b49  hC hR  _ _ _ h
  · rw [if_neg c3] at h
    refine V.inc (lv' := [(0, .inl x0), (1, .inl (x1 + (8 : Int32)))]) (r := 44) hC 1 dJ6_numberOfTrailingZeros_0f7a4_41 rfl ki_8 rfl rfl rfl ?_
    refine V.iload_n (r := 45) hC 0 dJ6_numberOfTrailingZeros_0f7a4_44 rfl rfl ?_
    refine V.bipush (r := 47) hC dJ6_numberOfTrailingZeros_0f7a4_45 kb_8 rfl ?_
    refine V.iushr (r := 48) hC dJ6_numberOfTrailingZeros_0f7a4_47 rfl ?_
    refine V.ist_n (lv' := [(0, .inl ((x0.toUInt32 >>> ((8 : Int32).toUInt32 &&& Int32.toUInt32 31)).toInt32)), (1, .inl (x1 + (8 : Int32)))]) (r := 49) hC dJ6_numberOfTrailingZeros_0f7a4_48 rfl rfl rfl ?_
    exact vJ6_numberOfTrailingZeros_0f7a4_b49  hC hR  _ _ _ h
def gJ6_numberOfTrailingZeros_0f7a4 (a0 : Int32) (M : xMem) : Option (Int32 × xMem) :=
if 0 < ((a0 ^^^ (-1 : Int32)) &&& (a0 - (1 : Int32))) then
(if ((a0 ^^^ (-1 : Int32)) &&& (a0 - (1 : Int32))) ≤ (65536 : Int32) then
(gJ6_numberOfTrailingZeros_0f7a4_b34 ((a0 ^^^ (-1 : Int32)) &&& (a0 - (1 : Int32))) (1 : Int32) M)
else
(gJ6_numberOfTrailingZeros_0f7a4_b34 ((((a0 ^^^ (-1 : Int32)) &&& (a0 - (1 : Int32))).toUInt32 >>> ((16 : Int32).toUInt32 &&& Int32.toUInt32 31)).toInt32) ((1 : Int32) + (16 : Int32)) M))
else
(some (((a0 ^^^ (-1 : Int32)) &&& (a0 - (1 : Int32))) &&& (32 : Int32), M))
set_option maxHeartbeats 4000000 in
set_option maxRecDepth 20000 in
theorem vJ6_numberOfTrailingZeros_0f7a4 {G : xG} (hC : xC G cJ6_numberOfTrailingZeros_0f7a4 2 RJ6 0) {R : Int32 × xMem} (hR : xRI G cJ6_numberOfTrailingZeros_0f7a4 2 R) {a0 : Int32} {M : xMem} (h : gJ6_numberOfTrailingZeros_0f7a4 a0 M = some R) : V G 2 0 [(0, .inl a0)] [] M := by
  unfold gJ6_numberOfTrailingZeros_0f7a4 at h
  refine V.iload_n (r := 1) hC 0 dJ6_numberOfTrailingZeros_0f7a4_0 rfl rfl ?_
  refine V.iconst (r := 2) hC dJ6_numberOfTrailingZeros_0f7a4_1 ki_m1 rfl ?_
  refine V.ixor (r := 3) hC dJ6_numberOfTrailingZeros_0f7a4_2 rfl ?_
  refine V.iload_n (r := 4) hC 0 dJ6_numberOfTrailingZeros_0f7a4_3 rfl rfl ?_
  refine V.iconst (r := 5) hC dJ6_numberOfTrailingZeros_0f7a4_4 ki_1 rfl ?_
  refine V.isub (r := 6) hC dJ6_numberOfTrailingZeros_0f7a4_5 rfl ?_
  refine V.iand (r := 7) hC dJ6_numberOfTrailingZeros_0f7a4_6 rfl ?_
  refine V.ist_n (lv' := [(0, .inl ((a0 ^^^ (-1 : Int32)) &&& (a0 - (1 : Int32))))]) (r := 8) hC dJ6_numberOfTrailingZeros_0f7a4_7 rfl rfl rfl ?_
  refine V.iload_n (r := 9) hC 0 dJ6_numberOfTrailingZeros_0f7a4_8 rfl rfl ?_
  refine V.if_gt (tgt := 17) (r := 12) hC dJ6_numberOfTrailingZeros_0f7a4_9 (by decide) rfl (fun c1 => ?_) (fun c1 => ?_)
  · rw [if_pos c1] at h
    refine V.iconst (r := 18) hC dJ6_numberOfTrailingZeros_0f7a4_17 ki_1 rfl ?_
    refine V.ist_n (lv' := [(0, .inl ((a0 ^^^ (-1 : Int32)) &&& (a0 - (1 : Int32)))), (1, .inl (1 : Int32))]) (r := 19) hC dJ6_numberOfTrailingZeros_0f7a4_18 rfl rfl rfl ?_
    refine V.iload_n (r := 20) hC 0 dJ6_numberOfTrailingZeros_0f7a4_19 rfl rfl ?_
    refine V.ldcw (r := 23) hC dJ6_numberOfTrailingZeros_0f7a4_20 co_RJ6_264 rfl ?_
    refine V.icmp_le (tgt := 34) (r := 26) hC dJ6_numberOfTrailingZeros_0f7a4_23 (by decide) rfl (fun c2 => ?_) (fun c2 => ?_)
    · rw [if_pos c2] at h
      exact vJ6_numberOfTrailingZeros_0f7a4_b34  hC hR  _ _ _ h
    · rw [if_neg c2] at h
      refine V.inc (lv' := [(0, .inl ((a0 ^^^ (-1 : Int32)) &&& (a0 - (1 : Int32)))), (1, .inl ((1 : Int32) + (16 : Int32)))]) (r := 29) hC 1 dJ6_numberOfTrailingZeros_0f7a4_26 rfl ki_16 rfl rfl rfl ?_
      refine V.iload_n (r := 30) hC 0 dJ6_numberOfTrailingZeros_0f7a4_29 rfl rfl ?_
      refine V.bipush (r := 32) hC dJ6_numberOfTrailingZeros_0f7a4_30 kb_16 rfl ?_
      refine V.iushr (r := 33) hC dJ6_numberOfTrailingZeros_0f7a4_32 rfl ?_
      refine V.ist_n (lv' := [(0, .inl ((((a0 ^^^ (-1 : Int32)) &&& (a0 - (1 : Int32))).toUInt32 >>> ((16 : Int32).toUInt32 &&& Int32.toUInt32 31)).toInt32)), (1, .inl ((1 : Int32) + (16 : Int32)))]) (r := 34) hC dJ6_numberOfTrailingZeros_0f7a4_33 rfl rfl rfl ?_
      exact vJ6_numberOfTrailingZeros_0f7a4_b34  hC hR  _ _ _ h
  · rw [if_neg c1] at h
    refine V.iload_n (r := 13) hC 0 dJ6_numberOfTrailingZeros_0f7a4_12 rfl rfl ?_
    refine V.bipush (r := 15) hC dJ6_numberOfTrailingZeros_0f7a4_13 kb_32 rfl ?_
    refine V.iand (r := 16) hC dJ6_numberOfTrailingZeros_0f7a4_15 rfl ?_
    cases h
    exact hR _ _ dJ6_numberOfTrailingZeros_0f7a4_16
theorem metJ6_numberOfTrailingZeros_0f7a4 {R : Int32 × xMem} {a0 : Int32} {M : xMem} (h : gJ6_numberOfTrailingZeros_0f7a4 a0 M = some R) : xMet yJ6_numberOfTrailingZeros_0f7a4 cJ6_numberOfTrailingZeros_0f7a4 2 (some .int) 0 [.inl a0] M (some R.1) R.2 := xMet.ofI (by decide +kernel) (Nat.le_of_ble_eq_true rfl) fun _ hC hR => vJ6_numberOfTrailingZeros_0f7a4  hC hR h
def g5_fillCosts_b89 (k9 : Int32 → xMem → Option (xMem)) (x1 s1 s2 s3 : Int32) (M : xMem) : Option (xMem) :=
if s1 < 0 ∨ 512 ≤ s1.toNatClampNeg then none else
mset (upM M 137 s1.toNatClampNeg (s2 + s3)) fun M16 =>
k9 (x1 + (1 : Int32)) M16
set_option maxHeartbeats 4000000 in
set_option maxRecDepth 20000 in
theorem v5_fillCosts_b89 {G : xG} (hC : xC G cX5_fillCosts 5 RX5 2) {R : xMem} (hR : xRV G cX5_fillCosts 5 R) {k9 : Int32 → xMem → Option (xMem)} (hk9 : ∀ (y1 : Int32) (N : xMem), k9 y1 N = some R → V G 5 9 [(0, .inr 1), (1, .inl y1)] [] N) (x1 s1 s2 s3 : Int32) (M : xMem) (h : g5_fillCosts_b89 k9 x1 s1 s2 s3 M = some R) : V G 5 89 [(0, .inr 1), (1, .inl x1)] [.inl s3, .inl s2, .inl s1, .inr 122] M := by
  unfold g5_fillCosts_b89 at h
  refine V.iadd (r := 90) hC dX5_fillCosts_89 rfl ?_
  by_cases c15 : s1 < 0 ∨ 512 ≤ s1.toNatClampNeg
  · rw [if_pos c15] at h; cases h
  rw [if_neg c15] at h
  rw [mset_eq] at h
  refine V.iast (t := s1.toNatClampNeg) (r := 91) hC sh_122 dX5_fillCosts_90 c15 (Nat.zero_add _) rfl ?_
  generalize upM M 137 s1.toNatClampNeg (s2 + s3) = M16 at h ⊢
  refine V.inc (lv' := [(0, .inr 1), (1, .inl (x1 + (1 : Int32)))]) (r := 94) hC 1 dX5_fillCosts_91 rfl ki_1 rfl rfl rfl ?_
  refine V.goto (tgt := 9) hC dX5_fillCosts_94 (by decide) ?_
  exact hk9 _ _ h
def g5_fillCosts_b88 (k9 : Int32 → xMem → Option (xMem)) (x1 s1 s2 : Int32) (M : xMem) : Option (xMem) :=
g5_fillCosts_b89 k9 x1 s1 s2 (0 : Int32) M
set_option maxHeartbeats 4000000 in
set_option maxRecDepth 20000 in
theorem v5_fillCosts_b88 {G : xG} (hC : xC G cX5_fillCosts 5 RX5 2) {R : xMem} (hR : xRV G cX5_fillCosts 5 R) {k9 : Int32 → xMem → Option (xMem)} (hk9 : ∀ (y1 : Int32) (N : xMem), k9 y1 N = some R → V G 5 9 [(0, .inr 1), (1, .inl y1)] [] N) (x1 s1 s2 : Int32) (M : xMem) (h : g5_fillCosts_b88 k9 x1 s1 s2 M = some R) : V G 5 88 [(0, .inr 1), (1, .inl x1)] [.inl s2, .inl s1, .inr 122] M := by
  unfold g5_fillCosts_b88 at h
  refine V.iconst (r := 89) hC dX5_fillCosts_88 ki_0 rfl ?_
  exact v5_fillCosts_b89  hC hR hk9 _ _ _ _ _ h
def g5_fillCosts_b54 (k9 : Int32 → xMem → Option (xMem)) (x1 x3 s0 : Int32) (M : xMem) : Option (xMem) :=
Option.bind (g5_costOf x3 M) fun q10 =>
if s0 < 0 then
(g5_fillCosts_b88 k9 x1 x1 (q10.1) q10.2)
else
(if (9 : Int32) ≤ s0 then
(g5_fillCosts_b88 k9 x1 x1 (q10.1) q10.2)
else
(if s0 < 0 ∨ 9 ≤ s0.toNatClampNeg then none else
g5_fillCosts_b89 k9 x1 x1 (q10.1) (q10.2 138 s0.toNatClampNeg) q10.2))
set_option maxHeartbeats 4000000 in
set_option maxRecDepth 20000 in
theorem v5_fillCosts_b54 {G : xG} (hC : xC G cX5_fillCosts 5 RX5 2) {R : xMem} (hR : xRV G cX5_fillCosts 5 R) {k9 : Int32 → xMem → Option (xMem)} (hk9 : ∀ (y1 : Int32) (N : xMem), k9 y1 N = some R → V G 5 9 [(0, .inr 1), (1, .inl y1)] [] N) (x1 x3 s0 : Int32) (M : xMem) (h : g5_fillCosts_b54 k9 x1 x3 s0 M = some R) : V G 5 54 [(0, .inr 1), (1, .inl x1), (3, .inl x3)] [.inl s0] M := by
  unfold g5_fillCosts_b54 at h
  refine V.ist (lv' := [(0, .inr 1), (1, .inl x1), (3, .inl x3), (4, .inl s0)]) (r := 56) hC dX5_fillCosts_54 rfl rfl rfl ?_
  refine V.aload_n (r := 57) hC 0 dX5_fillCosts_56 rfl rfl ?_
  refine V.getR (k' := 122) (j := 7) (r := 60) hC xcl_5 sh_1 fl_RX5_43 dX5_fillCosts_57 (by decide) rfl rfl ?_
  refine V.iload_n (r := 61) hC 1 dX5_fillCosts_60 rfl rfl ?_
  refine V.aload_n (r := 62) hC 0 dX5_fillCosts_61 rfl rfl ?_
  refine V.iload_n (r := 63) hC 2 dX5_fillCosts_62 rfl rfl ?_
  obtain ⟨q10, hq11, h⟩ := Option.bind_eq_some_iff.mp h
  try dsimp only at h
  refine V.invVi (as := [.inl x3]) (st := [.inl x1, .inr 122]) (r := 66) hC (met5_costOf hq11) yv_X5_costOf ml_RX5_167 sh_1 rfl rfl dX5_fillCosts_63 (by decide) rfl rfl rfl rfl ?_
  refine V.iload (r := 68) hC 3 dX5_fillCosts_66 rfl rfl ?_
  refine V.if_lt (tgt := 88) (r := 71) hC dX5_fillCosts_68 (by decide) rfl (fun c12 => ?_) (fun c12 => ?_)
  · rw [if_pos c12] at h
    refine V.pick (lv' := [(0, .inr 1), (1, .inl x1)]) [0, 1] rfl ?_
    exact v5_fillCosts_b88  hC hR hk9 _ _ _ _ h
  · rw [if_neg c12] at h
    refine V.iload (r := 73) hC 3 dX5_fillCosts_71 rfl rfl ?_
    refine V.bipush (r := 75) hC dX5_fillCosts_73 kb_9 rfl ?_
    refine V.icmp_ge (tgt := 88) (r := 78) hC dX5_fillCosts_75 (by decide) rfl (fun c13 => ?_) (fun c13 => ?_)
    · rw [if_pos c13] at h
      refine V.pick (lv' := [(0, .inr 1), (1, .inl x1)]) [0, 1] rfl ?_
      exact v5_fillCosts_b88  hC hR hk9 _ _ _ _ h
    · rw [if_neg c13] at h
      refine V.aload_n (r := 79) hC 0 dX5_fillCosts_78 rfl rfl ?_
      refine V.getR (k' := 123) (j := 8) (r := 82) hC xcl_5 sh_1 fl_RX5_46 dX5_fillCosts_79 (by decide) rfl rfl ?_
      refine V.iload (r := 84) hC 3 dX5_fillCosts_82 rfl rfl ?_
      by_cases c14 : s0 < 0 ∨ 9 ≤ s0.toNatClampNeg
      · rw [if_pos c14] at h; cases h
      rw [if_neg c14] at h
      refine V.iald (t := s0.toNatClampNeg) (r := 85) hC sh_123 dX5_fillCosts_84 c14 (Nat.zero_add _) rfl ?_
      refine V.goto (tgt := 89) hC dX5_fillCosts_85 (by decide) ?_
      refine V.pick (lv' := [(0, .inr 1), (1, .inl x1)]) [0, 1] rfl ?_
      exact v5_fillCosts_b89  hC hR hk9 _ _ _ _ _ h
def g5_fillCosts_b9 : Nat → Int32 → xMem → Option (xMem)
  | 0, _, _ => none
  | n + 1, x1, M => 
    (if (512 : Int32) ≤ x1 then
    (some M)
    else
    (Option.bind (g5_isSet x1 M) fun q3 =>
    if (q3.1) = 0 then
    (some q3.2)
    else
    (Option.bind (gJ6_numberOfTrailingZeros_0f7a4 x1 q3.2) fun q6 =>
    if (9 : Int32) ≤ (q6.1) then
    (g5_fillCosts_b54 (g5_fillCosts_b9 n) x1 (x1 &&& (x1 - (1 : Int32))) (-1 : Int32) q6.2)
    else
    (if (q6.1) < 0 ∨ 9 ≤ (q6.1).toNatClampNeg then none else
    g5_fillCosts_b54 (g5_fillCosts_b9 n) x1 (x1 &&& (x1 - (1 : Int32))) (q6.2 134 (q6.1).toNatClampNeg) q6.2))))
set_option maxHeartbeats 4000000 in
set_option maxRecDepth 20000 in
theorem v5_fillCosts_b9 {G : xG} (hC : xC G cX5_fillCosts 5 RX5 2) {R : xMem} (hR : xRV G cX5_fillCosts 5 R) : ∀ (n : Nat) (x1 : Int32) (M : xMem), g5_fillCosts_b9 n x1 M = some R → V G 5 9 [(0, .inr 1), (1, .inl x1)] [] M := by
  intro n
  induction n with
  | zero => intro x1 M h; rw [g5_fillCosts_b9] at h; cases h
  | succ n ih =>
    intro x1 M h
    rw [g5_fillCosts_b9] at h
    refine V.iload_n (r := 10) hC 1 dX5_fillCosts_9 rfl rfl ?_
    refine V.sipush (r := 13) hC dX5_fillCosts_10 ks_512 rfl ?_
    refine V.icmp_ge (tgt := 97) (r := 16) hC dX5_fillCosts_13 (by decide) rfl (fun c2 => ?_) (fun c2 => ?_)
    · rw [if_pos c2] at h
      cases h
      exact hR _ _ dX5_fillCosts_97
    · rw [if_neg c2] at h
      refine V.aload_n (r := 17) hC 0 dX5_fillCosts_16 rfl rfl ?_
      refine V.iload_n (r := 18) hC 1 dX5_fillCosts_17 rfl rfl ?_
      obtain ⟨q3, hq4, h⟩ := Option.bind_eq_some_iff.mp h
      try dsimp only at h
      refine V.invVi (as := [.inl x1]) (st := []) (r := 21) hC (met5_isSet hq4) yv_X5_isSet ml_RX5_77 sh_1 rfl rfl dX5_fillCosts_18 (by decide) rfl rfl rfl rfl ?_
      refine V.if_eq (tgt := 97) (r := 24) hC dX5_fillCosts_21 (by decide) rfl (fun c5 => ?_) (fun c5 => ?_)
      · rw [if_pos c5] at h
        cases h
        exact hR _ _ dX5_fillCosts_97
      · rw [if_neg c5] at h
        refine V.iload_n (r := 25) hC 1 dX5_fillCosts_24 rfl rfl ?_
        obtain ⟨q6, hq7, h⟩ := Option.bind_eq_some_iff.mp h
        try dsimp only at h
        refine V.invSi (as := [.inl x1]) (st := []) (r := 28) hC (metJ6_numberOfTrailingZeros_0f7a4 hq7) ys_J6_numberOfTrailingZeros_0f7a4 ml_RX5_162 dX5_fillCosts_25 (by decide) rfl rfl rfl rfl ?_
        refine V.ist_n (lv' := [(0, .inr 1), (1, .inl x1), (2, .inl (q6.1))]) (r := 29) hC dX5_fillCosts_28 rfl rfl rfl ?_
        refine V.iload_n (r := 30) hC 1 dX5_fillCosts_29 rfl rfl ?_
        refine V.iload_n (r := 31) hC 1 dX5_fillCosts_30 rfl rfl ?_
        refine V.iconst (r := 32) hC dX5_fillCosts_31 ki_1 rfl ?_
        refine V.isub (r := 33) hC dX5_fillCosts_32 rfl ?_
        refine V.iand (r := 34) hC dX5_fillCosts_33 rfl ?_
        refine V.ist_n (lv' := [(0, .inr 1), (1, .inl x1), (2, .inl (q6.1)), (3, .inl (x1 &&& (x1 - (1 : Int32))))]) (r := 35) hC dX5_fillCosts_34 rfl rfl rfl ?_
        refine V.iload_n (r := 36) hC 2 dX5_fillCosts_35 rfl rfl ?_
        refine V.aload_n (r := 37) hC 0 dX5_fillCosts_36 rfl rfl ?_
        refine V.getR (k' := 120) (j := 4) (r := 40) hC xcl_5 sh_1 fl_RX5_32 dX5_fillCosts_37 (by decide) rfl rfl ?_
        refine V.alen (v := (9 : Int32)) (r := 41) hC sh_120 (by decide) dX5_fillCosts_40 (by decide) rfl ?_
        refine V.icmp_ge (tgt := 53) (r := 44) hC dX5_fillCosts_41 (by decide) rfl (fun c8 => ?_) (fun c8 => ?_)
        · rw [if_pos c8] at h
          refine V.iconst (r := 54) hC dX5_fillCosts_53 ki_m1 rfl ?_
          refine V.pick (lv' := [(0, .inr 1), (1, .inl x1), (3, .inl (x1 &&& (x1 - (1 : Int32))))]) [0, 1, 3] rfl ?_
          exact v5_fillCosts_b54  hC hR ih _ _ _ _ h
        · rw [if_neg c8] at h
          refine V.aload_n (r := 45) hC 0 dX5_fillCosts_44 rfl rfl ?_
          refine V.getR (k' := 120) (j := 4) (r := 48) hC xcl_5 sh_1 fl_RX5_32 dX5_fillCosts_45 (by decide) rfl rfl ?_
          refine V.iload_n (r := 49) hC 2 dX5_fillCosts_48 rfl rfl ?_
          by_cases c9 : (q6.1) < 0 ∨ 9 ≤ (q6.1).toNatClampNeg
          · rw [if_pos c9] at h; cases h
          rw [if_neg c9] at h
          refine V.iald (t := (q6.1).toNatClampNeg) (r := 50) hC sh_120 dX5_fillCosts_49 c9 (Nat.zero_add _) rfl ?_
          refine V.goto (tgt := 54) hC dX5_fillCosts_50 (by decide) ?_
          refine V.pick (lv' := [(0, .inr 1), (1, .inl x1), (3, .inl (x1 &&& (x1 - (1 : Int32))))]) [0, 1, 3] rfl ?_
          exact v5_fillCosts_b54  hC hR ih _ _ _ _ h
def g5_fillCosts (M : xMem) : Option (xMem) :=
mset (upM M 137 0 (0 : Int32)) fun M1 =>
g5_fillCosts_b9 5000 (1 : Int32) M1
set_option maxHeartbeats 4000000 in
set_option maxRecDepth 20000 in
theorem v5_fillCosts {G : xG} (hC : xC G cX5_fillCosts 5 RX5 2) {R : xMem} (hR : xRV G cX5_fillCosts 5 R) {M : xMem} (h : g5_fillCosts M = some R) : V G 5 0 [(0, .inr 1)] [] M := by
  unfold g5_fillCosts at h
  refine V.aload_n (r := 1) hC 0 dX5_fillCosts_0 rfl rfl ?_
  refine V.getR (k' := 122) (j := 7) (r := 4) hC xcl_5 sh_1 fl_RX5_43 dX5_fillCosts_1 (by decide) rfl rfl ?_
  refine V.iconst (r := 5) hC dX5_fillCosts_4 ki_0 rfl ?_
  refine V.iconst (r := 6) hC dX5_fillCosts_5 ki_0 rfl ?_
  rw [mset_eq] at h
  refine V.iast (t := 0) (r := 7) hC sh_122 dX5_fillCosts_6 (by decide) (by decide) rfl ?_
  generalize upM M 137 0 (0 : Int32) = M1 at h ⊢
  refine V.iconst (r := 8) hC dX5_fillCosts_7 ki_1 rfl ?_
  refine V.ist_n (lv' := [(0, .inr 1), (1, .inl (1 : Int32))]) (r := 9) hC dX5_fillCosts_8 rfl rfl rfl ?_
  exact v5_fillCosts_b9  hC hR  5000 _ _ h
theorem met5_fillCosts {R : xMem} {M : xMem} (h : g5_fillCosts M = some R) : xMet yX5_fillCosts cX5_fillCosts 5 none 2 [.inr 1] M none R := xMet.ofV (by decide +kernel) (Nat.le_of_ble_eq_true rfl) fun _ hC hR => v5_fillCosts  hC hR h
def g5_takeBeers_b43 (k2 : Int32 → xMem → Option (xMem)) (x1 s1 s2 : Int32) (M : xMem) : Option (xMem) :=
if s1 < 0 ∨ 9 ≤ s1.toNatClampNeg then none else
mset (upM M 138 s1.toNatClampNeg s2) fun M10 =>
k2 (x1 + (1 : Int32)) M10
set_option maxHeartbeats 4000000 in
set_option maxRecDepth 20000 in
theorem v5_takeBeers_b43 {G : xG} (hC : xC G cX5_takeBeers 2 RX5 4) {R : xMem} (hR : xRV G cX5_takeBeers 2 R) {k2 : Int32 → xMem → Option (xMem)} (hk2 : ∀ (y1 : Int32) (N : xMem), k2 y1 N = some R → V G 2 2 [(0, .inr 1), (1, .inl y1)] [] N) (x1 s1 s2 : Int32) (M : xMem) (h : g5_takeBeers_b43 k2 x1 s1 s2 M = some R) : V G 2 43 [(0, .inr 1), (1, .inl x1)] [.inl s2, .inl s1, .inr 123] M := by
  unfold g5_takeBeers_b43 at h
  by_cases c9 : s1 < 0 ∨ 9 ≤ s1.toNatClampNeg
  · rw [if_pos c9] at h; cases h
  rw [if_neg c9] at h
  rw [mset_eq] at h
  refine V.iast (t := s1.toNatClampNeg) (r := 44) hC sh_123 dX5_takeBeers_43 c9 (Nat.zero_add _) rfl ?_
  generalize upM M 138 s1.toNatClampNeg s2 = M10 at h ⊢
  refine V.inc (lv' := [(0, .inr 1), (1, .inl (x1 + (1 : Int32)))]) (r := 47) hC 1 dX5_takeBeers_44 rfl ki_1 rfl rfl rfl ?_
  refine V.goto (tgt := 2) hC dX5_takeBeers_47 (by decide) ?_
  exact hk2 _ _ h
def g5_takeBeers_b2 : Nat → Int32 → xMem → Option (xMem)
  | 0, _, _ => none
  | n + 1, x1, M => 
    (if (9 : Int32) ≤ x1 then
    (Option.bind (g5_fillCosts M) fun q2 =>
    some q2)
    else
    (Option.bind (g2_stands 0 x1 M) fun q4 =>
    if (q4.1) = 0 then
    (g5_takeBeers_b43 (g5_takeBeers_b2 n) x1 x1 (0 : Int32) q4.2)
    else
    (Option.bind (g0_beer 0 x1 q4.2) fun q7 =>
    g5_takeBeers_b43 (g5_takeBeers_b2 n) x1 x1 (q7.1) q7.2)))
set_option maxHeartbeats 4000000 in
set_option maxRecDepth 20000 in
theorem v5_takeBeers_b2 {G : xG} (hC : xC G cX5_takeBeers 2 RX5 4) {R : xMem} (hR : xRV G cX5_takeBeers 2 R) : ∀ (n : Nat) (x1 : Int32) (M : xMem), g5_takeBeers_b2 n x1 M = some R → V G 2 2 [(0, .inr 1), (1, .inl x1)] [] M := by
  intro n
  induction n with
  | zero => intro x1 M h; rw [g5_takeBeers_b2] at h; cases h
  | succ n ih =>
    intro x1 M h
    rw [g5_takeBeers_b2] at h
    refine V.iload_n (r := 3) hC 1 dX5_takeBeers_2 rfl rfl ?_
    refine V.bipush (r := 5) hC dX5_takeBeers_3 kb_9 rfl ?_
    refine V.icmp_ge (tgt := 50) (r := 8) hC dX5_takeBeers_5 (by decide) rfl (fun c1 => ?_) (fun c1 => ?_)
    · rw [if_pos c1] at h
      refine V.aload_n (r := 51) hC 0 dX5_takeBeers_50 rfl rfl ?_
      obtain ⟨q2, hq3, h⟩ := Option.bind_eq_some_iff.mp h
      try dsimp only at h
      refine V.invVv (as := []) (st := []) (r := 54) hC (met5_fillCosts hq3) yv_X5_fillCosts ml_RX5_159 sh_1 rfl rfl dX5_takeBeers_51 (by decide) rfl rfl rfl rfl ?_
      cases h
      exact hR _ _ dX5_takeBeers_54
    · rw [if_neg c1] at h
      refine V.aload_n (r := 9) hC 0 dX5_takeBeers_8 rfl rfl ?_
      refine V.getR (k' := 123) (j := 8) (r := 12) hC xcl_5 sh_1 fl_RX5_46 dX5_takeBeers_9 (by decide) rfl rfl ?_
      refine V.iload_n (r := 13) hC 1 dX5_takeBeers_12 rfl rfl ?_
      refine V.aload_n (r := 14) hC 0 dX5_takeBeers_13 rfl rfl ?_
      refine V.getR (k' := 2) (j := 0) (r := 17) hC xcl_5 sh_1 fl_RX5_12 dX5_takeBeers_14 (by decide) rfl rfl ?_
      refine V.getR (k' := 4) (j := 1) (r := 20) hC xcl_6 sh_2 fl_RX5_122 dX5_takeBeers_17 (by decide) rfl rfl ?_
      refine V.iload_n (r := 21) hC 1 dX5_takeBeers_20 rfl rfl ?_
      obtain ⟨q4, hq5, h⟩ := Option.bind_eq_some_iff.mp h
      try dsimp only at h
      refine V.invVi (as := [.inl x1]) (st := [.inl x1, .inr 123]) (r := 24) hC (met2_stands (by decide) hq5) yv_X2_stands ml_RX5_126 sh_4 rfl rfl dX5_takeBeers_21 (by decide) rfl rfl rfl rfl ?_
      refine V.if_eq (tgt := 42) (r := 27) hC dX5_takeBeers_24 (by decide) rfl (fun c6 => ?_) (fun c6 => ?_)
      · rw [if_pos c6] at h
        refine V.iconst (r := 43) hC dX5_takeBeers_42 ki_0 rfl ?_
        exact v5_takeBeers_b43  hC hR ih _ _ _ _ h
      · rw [if_neg c6] at h
        refine V.aload_n (r := 28) hC 0 dX5_takeBeers_27 rfl rfl ?_
        refine V.getR (k' := 20) (j := 1) (r := 31) hC xcl_5 sh_1 fl_RX5_21 dX5_takeBeers_28 (by decide) rfl rfl ?_
        refine V.aload_n (r := 32) hC 0 dX5_takeBeers_31 rfl rfl ?_
        refine V.getR (k' := 2) (j := 0) (r := 35) hC xcl_5 sh_1 fl_RX5_12 dX5_takeBeers_32 (by decide) rfl rfl ?_
        refine V.iload_n (r := 36) hC 1 dX5_takeBeers_35 rfl rfl ?_
        obtain ⟨q7, hq8, h⟩ := Option.bind_eq_some_iff.mp h
        try dsimp only at h
        refine V.invVi (as := [.inr 2, .inl x1]) (st := [.inl x1, .inr 123]) (r := 39) hC (met0_beer (by decide) hq8) yv_X0_beer ml_RX5_156 sh_20 rfl rfl dX5_takeBeers_36 (by decide) rfl rfl rfl rfl ?_
        refine V.goto (tgt := 43) hC dX5_takeBeers_39 (by decide) ?_
        exact v5_takeBeers_b43  hC hR ih _ _ _ _ h
def g5_takeBeers (M : xMem) : Option (xMem) :=
g5_takeBeers_b2 5000 (0 : Int32) M
set_option maxHeartbeats 4000000 in
set_option maxRecDepth 20000 in
theorem v5_takeBeers {G : xG} (hC : xC G cX5_takeBeers 2 RX5 4) {R : xMem} (hR : xRV G cX5_takeBeers 2 R) {M : xMem} (h : g5_takeBeers M = some R) : V G 2 0 [(0, .inr 1)] [] M := by
  unfold g5_takeBeers at h
  refine V.iconst (r := 1) hC dX5_takeBeers_0 ki_0 rfl ?_
  refine V.ist_n (lv' := [(0, .inr 1), (1, .inl (0 : Int32))]) (r := 2) hC dX5_takeBeers_1 rfl rfl rfl ?_
  exact v5_takeBeers_b2  hC hR  5000 _ _ h
theorem met5_takeBeers {R : xMem} {M : xMem} (h : g5_takeBeers M = some R) : xMet yX5_takeBeers cX5_takeBeers 2 none 4 [.inr 1] M none R := xMet.ofV (by decide +kernel) (Nat.le_of_ble_eq_true rfl) fun _ hC hR => v5_takeBeers  hC hR h
def g5_planBy_b85 (k4 : Int32 → Int32 → Int32 → xMem → Option (Int32 × xMem)) (x1 x2 x3 : Int32) (M : xMem) : Option (Int32 × xMem) :=
k4 x1 x2 (x3 + (1 : Int32)) M
set_option maxHeartbeats 4000000 in
set_option maxRecDepth 20000 in
theorem v5_planBy_b85 {G : xG} (hC : xC G cX5_planBy 5 RX5 2) {R : Int32 × xMem} (hR : xRI G cX5_planBy 5 R) {k4 : Int32 → Int32 → Int32 → xMem → Option (Int32 × xMem)} (hk4 : ∀ (y1 y2 y3 : Int32) (N : xMem), k4 y1 y2 y3 N = some R → V G 5 4 [(0, .inr 1), (1, .inl y1), (2, .inl y2), (3, .inl y3)] [] N) (x1 x2 x3 : Int32) (M : xMem) (h : g5_planBy_b85 k4 x1 x2 x3 M = some R) : V G 5 85 [(0, .inr 1), (1, .inl x1), (2, .inl x2), (3, .inl x3)] [] M := by
  unfold g5_planBy_b85 at h
  refine V.inc (lv' := [(0, .inr 1), (1, .inl x1), (2, .inl x2), (3, .inl (x3 + (1 : Int32)))]) (r := 88) hC 3 dX5_planBy_85 rfl ki_1 rfl rfl rfl ?_
  refine V.goto (tgt := 4) hC dX5_planBy_88 (by decide) ?_
  exact hk4 _ _ _ _ h
def g5_planBy_b66 (k4 : Int32 → Int32 → Int32 → xMem → Option (Int32 × xMem)) (x1 x2 x3 s0 : Int32) (M : xMem) : Option (Int32 × xMem) :=
if x3 < 0 ∨ 512 ≤ x3.toNatClampNeg then none else
if x1 < (M 137 x3.toNatClampNeg) then
(g5_planBy_b85 k4 x1 x2 x3 M)
else
(if s0 = 0 then
(g5_planBy_b85 k4 x1 x2 x3 M)
else
(g5_planBy_b85 k4 x1 x3 x3 M))
set_option maxHeartbeats 4000000 in
set_option maxRecDepth 20000 in
theorem v5_planBy_b66 {G : xG} (hC : xC G cX5_planBy 5 RX5 2) {R : Int32 × xMem} (hR : xRI G cX5_planBy 5 R) {k4 : Int32 → Int32 → Int32 → xMem → Option (Int32 × xMem)} (hk4 : ∀ (y1 y2 y3 : Int32) (N : xMem), k4 y1 y2 y3 N = some R → V G 5 4 [(0, .inr 1), (1, .inl y1), (2, .inl y2), (3, .inl y3)] [] N) (x1 x2 x3 s0 : Int32) (M : xMem) (h : g5_planBy_b66 k4 x1 x2 x3 s0 M = some R) : V G 5 66 [(0, .inr 1), (1, .inl x1), (2, .inl x2), (3, .inl x3)] [.inl s0] M := by
  unfold g5_planBy_b66 at h
  refine V.ist (lv' := [(0, .inr 1), (1, .inl x1), (2, .inl x2), (3, .inl x3), (4, .inl s0)]) (r := 68) hC dX5_planBy_66 rfl rfl rfl ?_
  refine V.aload_n (r := 69) hC 0 dX5_planBy_68 rfl rfl ?_
  refine V.getR (k' := 122) (j := 7) (r := 72) hC xcl_5 sh_1 fl_RX5_43 dX5_planBy_69 (by decide) rfl rfl ?_
  refine V.iload_n (r := 73) hC 3 dX5_planBy_72 rfl rfl ?_
  by_cases c15 : x3 < 0 ∨ 512 ≤ x3.toNatClampNeg
  · rw [if_pos c15] at h; cases h
  rw [if_neg c15] at h
  refine V.iald (t := x3.toNatClampNeg) (r := 74) hC sh_122 dX5_planBy_73 c15 (Nat.zero_add _) rfl ?_
  refine V.iload_n (r := 75) hC 1 dX5_planBy_74 rfl rfl ?_
  refine V.icmp_gt (tgt := 85) (r := 78) hC dX5_planBy_75 (by decide) rfl (fun c16 => ?_) (fun c16 => ?_)
  · rw [if_pos c16] at h
    refine V.pick (lv' := [(0, .inr 1), (1, .inl x1), (2, .inl x2), (3, .inl x3)]) [0, 1, 2, 3] rfl ?_
    exact v5_planBy_b85  hC hR hk4 _ _ _ _ h
  · rw [if_neg c16] at h
    refine V.iload (r := 80) hC 4 dX5_planBy_78 rfl rfl ?_
    refine V.if_eq (tgt := 85) (r := 83) hC dX5_planBy_80 (by decide) rfl (fun c17 => ?_) (fun c17 => ?_)
    · rw [if_pos c17] at h
      refine V.pick (lv' := [(0, .inr 1), (1, .inl x1), (2, .inl x2), (3, .inl x3)]) [0, 1, 2, 3] rfl ?_
      exact v5_planBy_b85  hC hR hk4 _ _ _ _ h
    · rw [if_neg c17] at h
      refine V.iload_n (r := 84) hC 3 dX5_planBy_83 rfl rfl ?_
      refine V.ist_n (lv' := [(0, .inr 1), (1, .inl x1), (2, .inl x3), (3, .inl x3), (4, .inl s0)]) (r := 85) hC dX5_planBy_84 rfl rfl rfl ?_
      refine V.pick (lv' := [(0, .inr 1), (1, .inl x1), (2, .inl x3), (3, .inl x3)]) [0, 1, 2, 3] rfl ?_
      exact v5_planBy_b85  hC hR hk4 _ _ _ _ h
def g5_planBy_b61 (k4 : Int32 → Int32 → Int32 → xMem → Option (Int32 × xMem)) (x1 x2 x3 : Int32) (M : xMem) : Option (Int32 × xMem) :=
g5_planBy_b66 k4 x1 x2 x3 (1 : Int32) M
set_option maxHeartbeats 4000000 in
set_option maxRecDepth 20000 in
theorem v5_planBy_b61 {G : xG} (hC : xC G cX5_planBy 5 RX5 2) {R : Int32 × xMem} (hR : xRI G cX5_planBy 5 R) {k4 : Int32 → Int32 → Int32 → xMem → Option (Int32 × xMem)} (hk4 : ∀ (y1 y2 y3 : Int32) (N : xMem), k4 y1 y2 y3 N = some R → V G 5 4 [(0, .inr 1), (1, .inl y1), (2, .inl y2), (3, .inl y3)] [] N) (x1 x2 x3 : Int32) (M : xMem) (h : g5_planBy_b61 k4 x1 x2 x3 M = some R) : V G 5 61 [(0, .inr 1), (1, .inl x1), (2, .inl x2), (3, .inl x3)] [] M := by
  unfold g5_planBy_b61 at h
  refine V.iconst (r := 62) hC dX5_planBy_61 ki_1 rfl ?_
  refine V.goto (tgt := 66) hC dX5_planBy_62 (by decide) ?_
  exact v5_planBy_b66  hC hR hk4 _ _ _ _ _ h
def g5_planBy_b65 (k4 : Int32 → Int32 → Int32 → xMem → Option (Int32 × xMem)) (x1 x2 x3 : Int32) (M : xMem) : Option (Int32 × xMem) :=
g5_planBy_b66 k4 x1 x2 x3 (0 : Int32) M
set_option maxHeartbeats 4000000 in
set_option maxRecDepth 20000 in
theorem v5_planBy_b65 {G : xG} (hC : xC G cX5_planBy 5 RX5 2) {R : Int32 × xMem} (hR : xRI G cX5_planBy 5 R) {k4 : Int32 → Int32 → Int32 → xMem → Option (Int32 × xMem)} (hk4 : ∀ (y1 y2 y3 : Int32) (N : xMem), k4 y1 y2 y3 N = some R → V G 5 4 [(0, .inr 1), (1, .inl y1), (2, .inl y2), (3, .inl y3)] [] N) (x1 x2 x3 : Int32) (M : xMem) (h : g5_planBy_b65 k4 x1 x2 x3 M = some R) : V G 5 65 [(0, .inr 1), (1, .inl x1), (2, .inl x2), (3, .inl x3)] [] M := by
  unfold g5_planBy_b65 at h
  refine V.iconst (r := 66) hC dX5_planBy_65 ki_0 rfl ?_
  exact v5_planBy_b66  hC hR hk4 _ _ _ _ _ h
def g5_planBy_b4 : Nat → Int32 → Int32 → Int32 → xMem → Option (Int32 × xMem)
  | 0, _, _, _, _ => none
  | n + 1, x1, x2, x3, M => 
    (if (512 : Int32) ≤ x3 then
    (some (x2, M))
    else
    (Option.bind (g5_isSet x3 M) fun q2 =>
    if (q2.1) = 0 then
    (some (x2, q2.2))
    else
    (if x3 < 0 ∨ 512 ≤ x3.toNatClampNeg then none else
    Option.bind (g5_cameOf x2 q2.2) fun q6 =>
    if (q6.1) < (q2.2 136 x3.toNatClampNeg) then
    (g5_planBy_b61 (g5_planBy_b4 n) x1 x2 x3 q6.2)
    else
    (Option.bind (g5_cameOf x2 q6.2) fun q9 =>
    if (q6.2 136 x3.toNatClampNeg) = (q9.1) then
    (Option.bind (g5_costOf x2 q9.2) fun q12 =>
    if (q12.1) ≤ (q9.2 137 x3.toNatClampNeg) then
    (g5_planBy_b65 (g5_planBy_b4 n) x1 x2 x3 q12.2)
    else
    (g5_planBy_b61 (g5_planBy_b4 n) x1 x2 x3 q12.2))
    else
    (g5_planBy_b65 (g5_planBy_b4 n) x1 x2 x3 q9.2)))))
set_option maxHeartbeats 4000000 in
set_option maxRecDepth 20000 in
theorem v5_planBy_b4 {G : xG} (hC : xC G cX5_planBy 5 RX5 2) {R : Int32 × xMem} (hR : xRI G cX5_planBy 5 R) : ∀ (n : Nat) (x1 x2 x3 : Int32) (M : xMem), g5_planBy_b4 n x1 x2 x3 M = some R → V G 5 4 [(0, .inr 1), (1, .inl x1), (2, .inl x2), (3, .inl x3)] [] M := by
  intro n
  induction n with
  | zero => intro x1 x2 x3 M h; rw [g5_planBy_b4] at h; cases h
  | succ n ih =>
    intro x1 x2 x3 M h
    rw [g5_planBy_b4] at h
    refine V.iload_n (r := 5) hC 3 dX5_planBy_4 rfl rfl ?_
    refine V.sipush (r := 8) hC dX5_planBy_5 ks_512 rfl ?_
    refine V.icmp_ge (tgt := 91) (r := 11) hC dX5_planBy_8 (by decide) rfl (fun c1 => ?_) (fun c1 => ?_)
    · rw [if_pos c1] at h
      refine V.iload_n (r := 92) hC 2 dX5_planBy_91 rfl rfl ?_
      cases h
      exact hR _ _ dX5_planBy_92
    · rw [if_neg c1] at h
      refine V.aload_n (r := 12) hC 0 dX5_planBy_11 rfl rfl ?_
      refine V.iload_n (r := 13) hC 3 dX5_planBy_12 rfl rfl ?_
      obtain ⟨q2, hq3, h⟩ := Option.bind_eq_some_iff.mp h
      try dsimp only at h
      refine V.invVi (as := [.inl x3]) (st := []) (r := 16) hC (met5_isSet hq3) yv_X5_isSet ml_RX5_77 sh_1 rfl rfl dX5_planBy_13 (by decide) rfl rfl rfl rfl ?_
      refine V.if_eq (tgt := 91) (r := 19) hC dX5_planBy_16 (by decide) rfl (fun c4 => ?_) (fun c4 => ?_)
      · rw [if_pos c4] at h
        refine V.iload_n (r := 92) hC 2 dX5_planBy_91 rfl rfl ?_
        cases h
        exact hR _ _ dX5_planBy_92
      · rw [if_neg c4] at h
        refine V.aload_n (r := 20) hC 0 dX5_planBy_19 rfl rfl ?_
        refine V.getR (k' := 121) (j := 6) (r := 23) hC xcl_5 sh_1 fl_RX5_40 dX5_planBy_20 (by decide) rfl rfl ?_
        refine V.iload_n (r := 24) hC 3 dX5_planBy_23 rfl rfl ?_
        by_cases c5 : x3 < 0 ∨ 512 ≤ x3.toNatClampNeg
        · rw [if_pos c5] at h; cases h
        rw [if_neg c5] at h
        refine V.iald (t := x3.toNatClampNeg) (r := 25) hC sh_121 dX5_planBy_24 c5 (Nat.zero_add _) rfl ?_
        refine V.aload_n (r := 26) hC 0 dX5_planBy_25 rfl rfl ?_
        refine V.iload_n (r := 27) hC 2 dX5_planBy_26 rfl rfl ?_
        obtain ⟨q6, hq7, h⟩ := Option.bind_eq_some_iff.mp h
        try dsimp only at h
        refine V.invVi (as := [.inl x2]) (st := [.inl (q2.2 136 x3.toNatClampNeg)]) (r := 30) hC (met5_cameOf hq7) yv_X5_cameOf ml_RX5_170 sh_1 rfl rfl dX5_planBy_27 (by decide) rfl rfl rfl rfl ?_
        refine V.icmp_gt (tgt := 61) (r := 33) hC dX5_planBy_30 (by decide) rfl (fun c8 => ?_) (fun c8 => ?_)
        · rw [if_pos c8] at h
          exact v5_planBy_b61  hC hR ih _ _ _ _ h
        · rw [if_neg c8] at h
          refine V.aload_n (r := 34) hC 0 dX5_planBy_33 rfl rfl ?_
          refine V.getR (k' := 121) (j := 6) (r := 37) hC xcl_5 sh_1 fl_RX5_40 dX5_planBy_34 (by decide) rfl rfl ?_
          refine V.iload_n (r := 38) hC 3 dX5_planBy_37 rfl rfl ?_
          refine V.iald (t := x3.toNatClampNeg) (r := 39) hC sh_121 dX5_planBy_38 c5 (Nat.zero_add _) rfl ?_
          refine V.aload_n (r := 40) hC 0 dX5_planBy_39 rfl rfl ?_
          refine V.iload_n (r := 41) hC 2 dX5_planBy_40 rfl rfl ?_
          obtain ⟨q9, hq10, h⟩ := Option.bind_eq_some_iff.mp h
          try dsimp only at h
          refine V.invVi (as := [.inl x2]) (st := [.inl (q6.2 136 x3.toNatClampNeg)]) (r := 44) hC (met5_cameOf hq10) yv_X5_cameOf ml_RX5_170 sh_1 rfl rfl dX5_planBy_41 (by decide) rfl rfl rfl rfl ?_
          refine V.icmp_ne (tgt := 65) (r := 47) hC dX5_planBy_44 (by decide) rfl (fun c11 => ?_) (fun c11 => ?_)
          · rw [if_neg c11] at h
            exact v5_planBy_b65  hC hR ih _ _ _ _ h
          · rw [if_pos c11] at h
            refine V.aload_n (r := 48) hC 0 dX5_planBy_47 rfl rfl ?_
            refine V.getR (k' := 122) (j := 7) (r := 51) hC xcl_5 sh_1 fl_RX5_43 dX5_planBy_48 (by decide) rfl rfl ?_
            refine V.iload_n (r := 52) hC 3 dX5_planBy_51 rfl rfl ?_
            refine V.iald (t := x3.toNatClampNeg) (r := 53) hC sh_122 dX5_planBy_52 c5 (Nat.zero_add _) rfl ?_
            refine V.aload_n (r := 54) hC 0 dX5_planBy_53 rfl rfl ?_
            refine V.iload_n (r := 55) hC 2 dX5_planBy_54 rfl rfl ?_
            obtain ⟨q12, hq13, h⟩ := Option.bind_eq_some_iff.mp h
            try dsimp only at h
            refine V.invVi (as := [.inl x2]) (st := [.inl (q9.2 137 x3.toNatClampNeg)]) (r := 58) hC (met5_costOf hq13) yv_X5_costOf ml_RX5_167 sh_1 rfl rfl dX5_planBy_55 (by decide) rfl rfl rfl rfl ?_
            refine V.icmp_ge (tgt := 65) (r := 61) hC dX5_planBy_58 (by decide) rfl (fun c14 => ?_) (fun c14 => ?_)
            · rw [if_pos c14] at h
              exact v5_planBy_b65  hC hR ih _ _ _ _ h
            · rw [if_neg c14] at h
              exact v5_planBy_b61  hC hR ih _ _ _ _ h
def g5_planBy (a0 : Int32) (M : xMem) : Option (Int32 × xMem) :=
g5_planBy_b4 5000 a0 (0 : Int32) (1 : Int32) M
set_option maxHeartbeats 4000000 in
set_option maxRecDepth 20000 in
theorem v5_planBy {G : xG} (hC : xC G cX5_planBy 5 RX5 2) {R : Int32 × xMem} (hR : xRI G cX5_planBy 5 R) {a0 : Int32} {M : xMem} (h : g5_planBy a0 M = some R) : V G 5 0 [(0, .inr 1), (1, .inl a0)] [] M := by
  unfold g5_planBy at h
  refine V.iconst (r := 1) hC dX5_planBy_0 ki_0 rfl ?_
  refine V.ist_n (lv' := [(0, .inr 1), (1, .inl a0), (2, .inl (0 : Int32))]) (r := 2) hC dX5_planBy_1 rfl rfl rfl ?_
  refine V.iconst (r := 3) hC dX5_planBy_2 ki_1 rfl ?_
  refine V.ist_n (lv' := [(0, .inr 1), (1, .inl a0), (2, .inl (0 : Int32)), (3, .inl (1 : Int32))]) (r := 4) hC dX5_planBy_3 rfl rfl rfl ?_
  exact v5_planBy_b4  hC hR  5000 _ _ _ _ h
theorem met5_planBy {R : Int32 × xMem} {a0 : Int32} {M : xMem} (h : g5_planBy a0 M = some R) : xMet yX5_planBy cX5_planBy 5 (some .int) 2 [.inr 1, .inl a0] M (some R.1) R.2 := xMet.ofI (by decide +kernel) (Nat.le_of_ble_eq_true rfl) fun _ hC hR => v5_planBy  hC hR h
def g5_safeSet_b64 (k15 : Int32 → Int32 → Int32 → xMem → Option (Int32 × xMem)) (x1 x2 x3 : Int32) (M : xMem) : Option (Int32 × xMem) :=
k15 x1 x2 (x3 + (1 : Int32)) M
set_option maxHeartbeats 4000000 in
set_option maxRecDepth 20000 in
theorem v5_safeSet_b64 {G : xG} (hC : xC G cX5_safeSet 4 RX5 2) {R : Int32 × xMem} (hR : xRI G cX5_safeSet 4 R) {k15 : Int32 → Int32 → Int32 → xMem → Option (Int32 × xMem)} (hk15 : ∀ (y1 y2 y3 : Int32) (N : xMem), k15 y1 y2 y3 N = some R → V G 4 15 [(0, .inr 1), (1, .inl y1), (2, .inl y2), (3, .inl y3)] [] N) (x1 x2 x3 : Int32) (M : xMem) (h : g5_safeSet_b64 k15 x1 x2 x3 M = some R) : V G 4 64 [(0, .inr 1), (1, .inl x1), (2, .inl x2), (3, .inl x3)] [] M := by
  unfold g5_safeSet_b64 at h
  refine V.inc (lv' := [(0, .inr 1), (1, .inl x1), (2, .inl x2), (3, .inl (x3 + (1 : Int32)))]) (r := 67) hC 3 dX5_safeSet_64 rfl ki_1 rfl rfl rfl ?_
  refine V.goto (tgt := 15) hC dX5_safeSet_67 (by decide) ?_
  exact hk15 _ _ _ _ h
def g5_safeSet_b62 (k15 : Int32 → Int32 → Int32 → xMem → Option (Int32 × xMem)) (x1 x3 : Int32) (M : xMem) : Option (Int32 × xMem) :=
g5_safeSet_b64 k15 x1 x3 x3 M
set_option maxHeartbeats 4000000 in
set_option maxRecDepth 20000 in
theorem v5_safeSet_b62 {G : xG} (hC : xC G cX5_safeSet 4 RX5 2) {R : Int32 × xMem} (hR : xRI G cX5_safeSet 4 R) {k15 : Int32 → Int32 → Int32 → xMem → Option (Int32 × xMem)} (hk15 : ∀ (y1 y2 y3 : Int32) (N : xMem), k15 y1 y2 y3 N = some R → V G 4 15 [(0, .inr 1), (1, .inl y1), (2, .inl y2), (3, .inl y3)] [] N) (x1 x3 : Int32) (M : xMem) (h : g5_safeSet_b62 k15 x1 x3 M = some R) : V G 4 62 [(0, .inr 1), (1, .inl x1), (3, .inl x3)] [] M := by
  unfold g5_safeSet_b62 at h
  refine V.iload_n (r := 63) hC 2 dX5_safeSet_62 rfl rfl ?_
  refine V.ist_n (lv' := [(0, .inr 1), (1, .inl x1), (2, .inl x3), (3, .inl x3)]) (r := 64) hC dX5_safeSet_63 rfl rfl rfl ?_
  exact v5_safeSet_b64  hC hR hk15 _ _ _ _ h
def g5_safeSet_b15 : Nat → Int32 → Int32 → Int32 → xMem → Option (Int32 × xMem)
  | 0, _, _, _, _ => none
  | n + 1, x1, x2, x3, M => 
    (if (512 : Int32) ≤ x3 then
    (some (x2, M))
    else
    (Option.bind (g5_isSet x3 M) fun q4 =>
    if (q4.1) = 0 then
    (some (x2, q4.2))
    else
    (if x3 < 0 ∨ 512 ≤ x3.toNatClampNeg then none else
    if (q4.2 136 x3.toNatClampNeg) = x1 then
    (Option.bind (g5_isSet x2 q4.2) fun q9 =>
    if (q9.1) = 0 then
    (g5_safeSet_b62 (g5_safeSet_b15 n) x1 x3 q9.2)
    else
    (Option.bind (g5_costOf x2 q9.2) fun q12 =>
    if (q12.1) ≤ (q9.2 137 x3.toNatClampNeg) then
    (g5_safeSet_b64 (g5_safeSet_b15 n) x1 x2 x3 q12.2)
    else
    (g5_safeSet_b62 (g5_safeSet_b15 n) x1 x3 q12.2)))
    else
    (g5_safeSet_b64 (g5_safeSet_b15 n) x1 x2 x3 q4.2))))
set_option maxHeartbeats 4000000 in
set_option maxRecDepth 20000 in
theorem v5_safeSet_b15 {G : xG} (hC : xC G cX5_safeSet 4 RX5 2) {R : Int32 × xMem} (hR : xRI G cX5_safeSet 4 R) : ∀ (n : Nat) (x1 x2 x3 : Int32) (M : xMem), g5_safeSet_b15 n x1 x2 x3 M = some R → V G 4 15 [(0, .inr 1), (1, .inl x1), (2, .inl x2), (3, .inl x3)] [] M := by
  intro n
  induction n with
  | zero => intro x1 x2 x3 M h; rw [g5_safeSet_b15] at h; cases h
  | succ n ih =>
    intro x1 x2 x3 M h
    rw [g5_safeSet_b15] at h
    refine V.iload_n (r := 16) hC 3 dX5_safeSet_15 rfl rfl ?_
    refine V.sipush (r := 19) hC dX5_safeSet_16 ks_512 rfl ?_
    refine V.icmp_ge (tgt := 70) (r := 22) hC dX5_safeSet_19 (by decide) rfl (fun c3 => ?_) (fun c3 => ?_)
    · rw [if_pos c3] at h
      refine V.iload_n (r := 71) hC 2 dX5_safeSet_70 rfl rfl ?_
      cases h
      exact hR _ _ dX5_safeSet_71
    · rw [if_neg c3] at h
      refine V.aload_n (r := 23) hC 0 dX5_safeSet_22 rfl rfl ?_
      refine V.iload_n (r := 24) hC 3 dX5_safeSet_23 rfl rfl ?_
      obtain ⟨q4, hq5, h⟩ := Option.bind_eq_some_iff.mp h
      try dsimp only at h
      refine V.invVi (as := [.inl x3]) (st := []) (r := 27) hC (met5_isSet hq5) yv_X5_isSet ml_RX5_77 sh_1 rfl rfl dX5_safeSet_24 (by decide) rfl rfl rfl rfl ?_
      refine V.if_eq (tgt := 70) (r := 30) hC dX5_safeSet_27 (by decide) rfl (fun c6 => ?_) (fun c6 => ?_)
      · rw [if_pos c6] at h
        refine V.iload_n (r := 71) hC 2 dX5_safeSet_70 rfl rfl ?_
        cases h
        exact hR _ _ dX5_safeSet_71
      · rw [if_neg c6] at h
        refine V.aload_n (r := 31) hC 0 dX5_safeSet_30 rfl rfl ?_
        refine V.getR (k' := 121) (j := 6) (r := 34) hC xcl_5 sh_1 fl_RX5_40 dX5_safeSet_31 (by decide) rfl rfl ?_
        refine V.iload_n (r := 35) hC 3 dX5_safeSet_34 rfl rfl ?_
        by_cases c7 : x3 < 0 ∨ 512 ≤ x3.toNatClampNeg
        · rw [if_pos c7] at h; cases h
        rw [if_neg c7] at h
        refine V.iald (t := x3.toNatClampNeg) (r := 36) hC sh_121 dX5_safeSet_35 c7 (Nat.zero_add _) rfl ?_
        refine V.iload_n (r := 37) hC 1 dX5_safeSet_36 rfl rfl ?_
        refine V.icmp_ne (tgt := 64) (r := 40) hC dX5_safeSet_37 (by decide) rfl (fun c8 => ?_) (fun c8 => ?_)
        · rw [if_neg c8] at h
          exact v5_safeSet_b64  hC hR ih _ _ _ _ h
        · rw [if_pos c8] at h
          refine V.aload_n (r := 41) hC 0 dX5_safeSet_40 rfl rfl ?_
          refine V.iload_n (r := 42) hC 2 dX5_safeSet_41 rfl rfl ?_
          obtain ⟨q9, hq10, h⟩ := Option.bind_eq_some_iff.mp h
          try dsimp only at h
          refine V.invVi (as := [.inl x2]) (st := []) (r := 45) hC (met5_isSet hq10) yv_X5_isSet ml_RX5_77 sh_1 rfl rfl dX5_safeSet_42 (by decide) rfl rfl rfl rfl ?_
          refine V.if_eq (tgt := 62) (r := 48) hC dX5_safeSet_45 (by decide) rfl (fun c11 => ?_) (fun c11 => ?_)
          · rw [if_pos c11] at h
            refine V.pick (lv' := [(0, .inr 1), (1, .inl x1), (3, .inl x3)]) [0, 1, 3] rfl ?_
            exact v5_safeSet_b62  hC hR ih _ _ _ h
          · rw [if_neg c11] at h
            refine V.aload_n (r := 49) hC 0 dX5_safeSet_48 rfl rfl ?_
            refine V.getR (k' := 122) (j := 7) (r := 52) hC xcl_5 sh_1 fl_RX5_43 dX5_safeSet_49 (by decide) rfl rfl ?_
            refine V.iload_n (r := 53) hC 3 dX5_safeSet_52 rfl rfl ?_
            refine V.iald (t := x3.toNatClampNeg) (r := 54) hC sh_122 dX5_safeSet_53 c7 (Nat.zero_add _) rfl ?_
            refine V.aload_n (r := 55) hC 0 dX5_safeSet_54 rfl rfl ?_
            refine V.iload_n (r := 56) hC 2 dX5_safeSet_55 rfl rfl ?_
            obtain ⟨q12, hq13, h⟩ := Option.bind_eq_some_iff.mp h
            try dsimp only at h
            refine V.invVi (as := [.inl x2]) (st := [.inl (q9.2 137 x3.toNatClampNeg)]) (r := 59) hC (met5_costOf hq13) yv_X5_costOf ml_RX5_167 sh_1 rfl rfl dX5_safeSet_56 (by decide) rfl rfl rfl rfl ?_
            refine V.icmp_ge (tgt := 64) (r := 62) hC dX5_safeSet_59 (by decide) rfl (fun c14 => ?_) (fun c14 => ?_)
            · rw [if_pos c14] at h
              exact v5_safeSet_b64  hC hR ih _ _ _ _ h
            · rw [if_neg c14] at h
              refine V.pick (lv' := [(0, .inr 1), (1, .inl x1), (3, .inl x3)]) [0, 1, 3] rfl ?_
              exact v5_safeSet_b62  hC hR ih _ _ _ h
def g5_safeSet (M : xMem) : Option (Int32 × xMem) :=
Option.bind (g1_living 0 M) fun q1 =>
g5_safeSet_b15 5000 (q1.1) (-1 : Int32) (0 : Int32) q1.2
set_option maxHeartbeats 4000000 in
set_option maxRecDepth 20000 in
theorem v5_safeSet {G : xG} (hC : xC G cX5_safeSet 4 RX5 2) {R : Int32 × xMem} (hR : xRI G cX5_safeSet 4 R) {M : xMem} (h : g5_safeSet M = some R) : V G 4 0 [(0, .inr 1)] [] M := by
  unfold g5_safeSet at h
  refine V.aload_n (r := 1) hC 0 dX5_safeSet_0 rfl rfl ?_
  refine V.getR (k' := 2) (j := 0) (r := 4) hC xcl_5 sh_1 fl_RX5_12 dX5_safeSet_1 (by decide) rfl rfl ?_
  refine V.getR (k' := 11) (j := 2) (r := 7) hC xcl_6 sh_2 fl_RX5_92 dX5_safeSet_4 (by decide) rfl rfl ?_
  obtain ⟨q1, hq2, h⟩ := Option.bind_eq_some_iff.mp h
  try dsimp only at h
  refine V.invVi (as := []) (st := []) (r := 10) hC (met1_living (by decide) hq2) yv_X1_living ml_RX5_96 sh_11 rfl rfl dX5_safeSet_7 (by decide) rfl rfl rfl rfl ?_
  refine V.ist_n (lv' := [(0, .inr 1), (1, .inl (q1.1))]) (r := 11) hC dX5_safeSet_10 rfl rfl rfl ?_
  refine V.iconst (r := 12) hC dX5_safeSet_11 ki_m1 rfl ?_
  refine V.ist_n (lv' := [(0, .inr 1), (1, .inl (q1.1)), (2, .inl (-1 : Int32))]) (r := 13) hC dX5_safeSet_12 rfl rfl rfl ?_
  refine V.iconst (r := 14) hC dX5_safeSet_13 ki_0 rfl ?_
  refine V.ist_n (lv' := [(0, .inr 1), (1, .inl (q1.1)), (2, .inl (-1 : Int32)), (3, .inl (0 : Int32))]) (r := 15) hC dX5_safeSet_14 rfl rfl rfl ?_
  exact v5_safeSet_b15  hC hR  5000 _ _ _ _ h
theorem met5_safeSet {R : Int32 × xMem} {M : xMem} (h : g5_safeSet M = some R) : xMet yX5_safeSet cX5_safeSet 4 (some .int) 2 [.inr 1] M (some R.1) R.2 := xMet.ofI (by decide +kernel) (Nat.le_of_ble_eq_true rfl) fun _ hC hR => v5_safeSet  hC hR h
def g8_isIn (a0 a1 a2 : Int32) (M : xMem) : Option (Int32 × xMem) :=
if a0 < a1 then
(some ((0 : Int32), M))
else
(if a2 < a0 then
(some ((0 : Int32), M))
else
(some ((1 : Int32), M)))
set_option maxHeartbeats 4000000 in
set_option maxRecDepth 20000 in
theorem v8_isIn {G : xG} (hC : xC G cX8_isIn 3 RX8 0) {R : Int32 × xMem} (hR : xRZ G cX8_isIn 3 R) {a0 a1 a2 : Int32} {M : xMem} (h : g8_isIn a0 a1 a2 M = some R) : V G 3 0 [(0, .inl a0), (1, .inl a1), (2, .inl a2)] [] M := by
  unfold g8_isIn at h
  refine V.iload_n (r := 1) hC 0 dX8_isIn_0 rfl rfl ?_
  refine V.iload_n (r := 2) hC 1 dX8_isIn_1 rfl rfl ?_
  refine V.icmp_lt (tgt := 14) (r := 5) hC dX8_isIn_2 (by decide) rfl (fun c1 => ?_) (fun c1 => ?_)
  · rw [if_pos c1] at h
    refine V.iconst (r := 15) hC dX8_isIn_14 ki_0 rfl ?_
    cases h
    exact hR _ _ (Or.inl rfl) dX8_isIn_15
  · rw [if_neg c1] at h
    refine V.iload_n (r := 6) hC 0 dX8_isIn_5 rfl rfl ?_
    refine V.iload_n (r := 7) hC 2 dX8_isIn_6 rfl rfl ?_
    refine V.icmp_gt (tgt := 14) (r := 10) hC dX8_isIn_7 (by decide) rfl (fun c2 => ?_) (fun c2 => ?_)
    · rw [if_pos c2] at h
      refine V.iconst (r := 15) hC dX8_isIn_14 ki_0 rfl ?_
      cases h
      exact hR _ _ (Or.inl rfl) dX8_isIn_15
    · rw [if_neg c2] at h
      refine V.iconst (r := 11) hC dX8_isIn_10 ki_1 rfl ?_
      refine V.goto (tgt := 15) hC dX8_isIn_11 (by decide) ?_
      cases h
      exact hR _ _ (Or.inr rfl) dX8_isIn_15
theorem met8_isIn {R : Int32 × xMem} {a0 a1 a2 : Int32} {M : xMem} (h : g8_isIn a0 a1 a2 M = some R) : xMet yX8_isIn cX8_isIn 3 (some .boolean) 0 [.inl a0, .inl a1, .inl a2] M (some R.1) R.2 := xMet.ofZ (by decide +kernel) (Nat.le_of_ble_eq_true rfl) fun _ hC hR => v8_isIn  hC hR h
def g5_fillGains_b24 : Nat → Int32 → Int32 → Int32 → Int32 → xMem → Option (xMem)
  | 0, _, _, _, _, _ => none
  | n + 1, x1, x2, x3, x4, M => 
    (if (25 : Int32) ≤ x4 then
    (some M)
    else
    (if x1 < 0 ∨ 9 ≤ x1.toNatClampNeg then none else
    mset (upM M 138 x1.toNatClampNeg ((x4 / (5 : Int32)) + (1 : Int32))) fun M9 =>
    if x2 < 0 ∨ 9 ≤ x2.toNatClampNeg then none else
    mset (upM M9 138 x2.toNatClampNeg ((x4 - x4 / (5 : Int32) * (5 : Int32)) + (1 : Int32))) fun M11 =>
    Option.bind (g5_fillCosts M11) fun q12 =>
    Option.bind (g5_planBy x3 q12) fun q14 =>
    Option.bind (g5_lampsOf (q14.1) q14.2) fun q16 =>
    if x4 < 0 ∨ 25 ≤ x4.toNatClampNeg then none else
    mset (upM q16.2 139 x4.toNatClampNeg ((((q16.1) >>> (x1 &&& 31)) &&& (1 : Int32)) * (q16.2 138 x1.toNatClampNeg))) fun M19 =>
    mset (upM M19 140 x4.toNatClampNeg ((((q16.1) >>> (x2 &&& 31)) &&& (1 : Int32)) * (M19 138 x2.toNatClampNeg))) fun M20 =>
    g5_fillGains_b24 n x1 x2 x3 (x4 + (1 : Int32)) M20))
set_option maxHeartbeats 4000000 in
set_option maxRecDepth 20000 in
theorem v5_fillGains_b24 {G : xG} (hC : xC G cX5_fillGains 6 RX5 3) {R : xMem} (hR : xRV G cX5_fillGains 6 R) : ∀ (n : Nat) (x1 x2 x3 x4 : Int32) (M : xMem), g5_fillGains_b24 n x1 x2 x3 x4 M = some R → V G 6 24 [(0, .inr 1), (1, .inl x1), (2, .inl x2), (3, .inl x3), (4, .inl x4)] [] M := by
  intro n
  induction n with
  | zero => intro x1 x2 x3 x4 M h; rw [g5_fillGains_b24] at h; cases h
  | succ n ih =>
    intro x1 x2 x3 x4 M h
    rw [g5_fillGains_b24] at h
    refine V.iload (r := 26) hC 4 dX5_fillGains_24 rfl rfl ?_
    refine V.bipush (r := 28) hC dX5_fillGains_26 kb_25 rfl ?_
    refine V.icmp_ge (tgt := 116) (r := 31) hC dX5_fillGains_28 (by decide) rfl (fun c7 => ?_) (fun c7 => ?_)
    · rw [if_pos c7] at h
      cases h
      exact hR _ _ dX5_fillGains_116
    · rw [if_neg c7] at h
      refine V.aload_n (r := 32) hC 0 dX5_fillGains_31 rfl rfl ?_
      refine V.getR (k' := 123) (j := 8) (r := 35) hC xcl_5 sh_1 fl_RX5_46 dX5_fillGains_32 (by decide) rfl rfl ?_
      refine V.iload_n (r := 36) hC 1 dX5_fillGains_35 rfl rfl ?_
      refine V.iload (r := 38) hC 4 dX5_fillGains_36 rfl rfl ?_
      refine V.iconst (r := 39) hC dX5_fillGains_38 ki_5 rfl ?_
      refine V.idiv (r := 40) hC dX5_fillGains_39 (by decide) rfl ?_
      refine V.iconst (r := 41) hC dX5_fillGains_40 ki_1 rfl ?_
      refine V.iadd (r := 42) hC dX5_fillGains_41 rfl ?_
      by_cases c8 : x1 < 0 ∨ 9 ≤ x1.toNatClampNeg
      · rw [if_pos c8] at h; cases h
      rw [if_neg c8] at h
      rw [mset_eq] at h
      refine V.iast (t := x1.toNatClampNeg) (r := 43) hC sh_123 dX5_fillGains_42 c8 (Nat.zero_add _) rfl ?_
      generalize upM M 138 x1.toNatClampNeg ((x4 / (5 : Int32)) + (1 : Int32)) = M9 at h ⊢
      refine V.aload_n (r := 44) hC 0 dX5_fillGains_43 rfl rfl ?_
      refine V.getR (k' := 123) (j := 8) (r := 47) hC xcl_5 sh_1 fl_RX5_46 dX5_fillGains_44 (by decide) rfl rfl ?_
      refine V.iload_n (r := 48) hC 2 dX5_fillGains_47 rfl rfl ?_
      refine V.iload (r := 50) hC 4 dX5_fillGains_48 rfl rfl ?_
      refine V.iconst (r := 51) hC dX5_fillGains_50 ki_5 rfl ?_
      refine V.irem (r := 52) hC dX5_fillGains_51 (by decide) rfl ?_
      refine V.iconst (r := 53) hC dX5_fillGains_52 ki_1 rfl ?_
      refine V.iadd (r := 54) hC dX5_fillGains_53 rfl ?_
      by_cases c10 : x2 < 0 ∨ 9 ≤ x2.toNatClampNeg
      · rw [if_pos c10] at h; cases h
      rw [if_neg c10] at h
      rw [mset_eq] at h
      refine V.iast (t := x2.toNatClampNeg) (r := 55) hC sh_123 dX5_fillGains_54 c10 (Nat.zero_add _) rfl ?_
      generalize upM M9 138 x2.toNatClampNeg ((x4 - x4 / (5 : Int32) * (5 : Int32)) + (1 : Int32)) = M11 at h ⊢
      refine V.aload_n (r := 56) hC 0 dX5_fillGains_55 rfl rfl ?_
      obtain ⟨q12, hq13, h⟩ := Option.bind_eq_some_iff.mp h
      try dsimp only at h
      refine V.invVv (as := []) (st := []) (r := 59) hC (met5_fillCosts hq13) yv_X5_fillCosts ml_RX5_159 sh_1 rfl rfl dX5_fillGains_56 (by decide) rfl rfl rfl rfl ?_
      refine V.aload_n (r := 60) hC 0 dX5_fillGains_59 rfl rfl ?_
      refine V.aload_n (r := 61) hC 0 dX5_fillGains_60 rfl rfl ?_
      refine V.iload_n (r := 62) hC 3 dX5_fillGains_61 rfl rfl ?_
      obtain ⟨q14, hq15, h⟩ := Option.bind_eq_some_iff.mp h
      try dsimp only at h
      refine V.invVi (as := [.inl x3]) (st := [.inr 1]) (r := 65) hC (met5_planBy hq15) yv_X5_planBy ml_RX5_177 sh_1 rfl rfl dX5_fillGains_62 (by decide) rfl rfl rfl rfl ?_
      obtain ⟨q16, hq17, h⟩ := Option.bind_eq_some_iff.mp h
      try dsimp only at h
      refine V.invVi (as := [.inl (q14.1)]) (st := []) (r := 68) hC (met5_lampsOf hq17) yv_X5_lampsOf ml_RX5_115 sh_1 rfl rfl dX5_fillGains_65 (by decide) rfl rfl rfl rfl ?_
      refine V.ist (lv' := [(0, .inr 1), (1, .inl x1), (2, .inl x2), (3, .inl x3), (4, .inl x4), (5, .inl (q16.1))]) (r := 70) hC dX5_fillGains_68 rfl rfl rfl ?_
      refine V.aload_n (r := 71) hC 0 dX5_fillGains_70 rfl rfl ?_
      refine V.getR (k' := 124) (j := 9) (r := 74) hC xcl_5 sh_1 fl_RX5_49 dX5_fillGains_71 (by decide) rfl rfl ?_
      refine V.iload (r := 76) hC 4 dX5_fillGains_74 rfl rfl ?_
      refine V.iload (r := 78) hC 5 dX5_fillGains_76 rfl rfl ?_
      refine V.iload_n (r := 79) hC 1 dX5_fillGains_78 rfl rfl ?_
      refine V.ishr (r := 80) hC dX5_fillGains_79 rfl ?_
      refine V.iconst (r := 81) hC dX5_fillGains_80 ki_1 rfl ?_
      refine V.iand (r := 82) hC dX5_fillGains_81 rfl ?_
      refine V.aload_n (r := 83) hC 0 dX5_fillGains_82 rfl rfl ?_
      refine V.getR (k' := 123) (j := 8) (r := 86) hC xcl_5 sh_1 fl_RX5_46 dX5_fillGains_83 (by decide) rfl rfl ?_
      refine V.iload_n (r := 87) hC 1 dX5_fillGains_86 rfl rfl ?_
      refine V.iald (t := x1.toNatClampNeg) (r := 88) hC sh_123 dX5_fillGains_87 c8 (Nat.zero_add _) rfl ?_
      refine V.imul (r := 89) hC dX5_fillGains_88 rfl ?_
      by_cases c18 : x4 < 0 ∨ 25 ≤ x4.toNatClampNeg
      · rw [if_pos c18] at h; cases h
      rw [if_neg c18] at h
      rw [mset_eq] at h
      refine V.iast (t := x4.toNatClampNeg) (r := 90) hC sh_124 dX5_fillGains_89 c18 (Nat.zero_add _) rfl ?_
      generalize upM q16.2 139 x4.toNatClampNeg ((((q16.1) >>> (x1 &&& 31)) &&& (1 : Int32)) * (q16.2 138 x1.toNatClampNeg)) = M19 at h ⊢
      refine V.aload_n (r := 91) hC 0 dX5_fillGains_90 rfl rfl ?_
      refine V.getR (k' := 125) (j := 10) (r := 94) hC xcl_5 sh_1 fl_RX5_52 dX5_fillGains_91 (by decide) rfl rfl ?_
      refine V.iload (r := 96) hC 4 dX5_fillGains_94 rfl rfl ?_
      refine V.iload (r := 98) hC 5 dX5_fillGains_96 rfl rfl ?_
      refine V.iload_n (r := 99) hC 2 dX5_fillGains_98 rfl rfl ?_
      refine V.ishr (r := 100) hC dX5_fillGains_99 rfl ?_
      refine V.iconst (r := 101) hC dX5_fillGains_100 ki_1 rfl ?_
      refine V.iand (r := 102) hC dX5_fillGains_101 rfl ?_
      refine V.aload_n (r := 103) hC 0 dX5_fillGains_102 rfl rfl ?_
      refine V.getR (k' := 123) (j := 8) (r := 106) hC xcl_5 sh_1 fl_RX5_46 dX5_fillGains_103 (by decide) rfl rfl ?_
      refine V.iload_n (r := 107) hC 2 dX5_fillGains_106 rfl rfl ?_
      refine V.iald (t := x2.toNatClampNeg) (r := 108) hC sh_123 dX5_fillGains_107 c10 (Nat.zero_add _) rfl ?_
      refine V.imul (r := 109) hC dX5_fillGains_108 rfl ?_
      rw [mset_eq] at h
      refine V.iast (t := x4.toNatClampNeg) (r := 110) hC sh_125 dX5_fillGains_109 c18 (Nat.zero_add _) rfl ?_
      generalize upM M19 140 x4.toNatClampNeg ((((q16.1) >>> (x2 &&& 31)) &&& (1 : Int32)) * (M19 138 x2.toNatClampNeg)) = M20 at h ⊢
      refine V.inc (lv' := [(0, .inr 1), (1, .inl x1), (2, .inl x2), (3, .inl x3), (4, .inl (x4 + (1 : Int32))), (5, .inl (q16.1))]) (r := 113) hC 4 dX5_fillGains_110 rfl ki_1 rfl rfl rfl ?_
      refine V.goto (tgt := 24) hC dX5_fillGains_113 (by decide) ?_
      refine V.pick (lv' := [(0, .inr 1), (1, .inl x1), (2, .inl x2), (3, .inl x3), (4, .inl (x4 + (1 : Int32)))]) [0, 1, 2, 3, 4] rfl ?_
      exact ih _ _ _ _ _ h
def g5_fillGains (a0 a1 a2 : Int32) (M : xMem) : Option (xMem) :=
Option.bind (g8_isIn a0 (0 : Int32) (8 : Int32) M) fun q1 =>
if (q1.1) = 0 then
(some q1.2)
else
(Option.bind (g8_isIn a1 (0 : Int32) (8 : Int32) q1.2) fun q4 =>
if (q4.1) = 0 then
(some q4.2)
else
(g5_fillGains_b24 5000 a0 a1 a2 (0 : Int32) q4.2))
set_option maxHeartbeats 4000000 in
set_option maxRecDepth 20000 in
theorem v5_fillGains {G : xG} (hC : xC G cX5_fillGains 6 RX5 3) {R : xMem} (hR : xRV G cX5_fillGains 6 R) {a0 a1 a2 : Int32} {M : xMem} (h : g5_fillGains a0 a1 a2 M = some R) : V G 6 0 [(0, .inr 1), (1, .inl a0), (2, .inl a1), (3, .inl a2)] [] M := by
  unfold g5_fillGains at h
  refine V.iload_n (r := 1) hC 1 dX5_fillGains_0 rfl rfl ?_
  refine V.iconst (r := 2) hC dX5_fillGains_1 ki_0 rfl ?_
  refine V.bipush (r := 4) hC dX5_fillGains_2 kb_8 rfl ?_
  obtain ⟨q1, hq2, h⟩ := Option.bind_eq_some_iff.mp h
  try dsimp only at h
  refine V.invSi (as := [.inl a0, .inl (0 : Int32), .inl (8 : Int32)]) (st := []) (r := 7) hC (met8_isIn hq2) ys_X8_isIn ml_RX5_173 dX5_fillGains_4 (by decide) rfl rfl rfl rfl ?_
  refine V.if_eq (tgt := 20) (r := 10) hC dX5_fillGains_7 (by decide) rfl (fun c3 => ?_) (fun c3 => ?_)
  · rw [if_pos c3] at h
    cases h
    exact hR _ _ dX5_fillGains_20
  · rw [if_neg c3] at h
    refine V.iload_n (r := 11) hC 2 dX5_fillGains_10 rfl rfl ?_
    refine V.iconst (r := 12) hC dX5_fillGains_11 ki_0 rfl ?_
    refine V.bipush (r := 14) hC dX5_fillGains_12 kb_8 rfl ?_
    obtain ⟨q4, hq5, h⟩ := Option.bind_eq_some_iff.mp h
    try dsimp only at h
    refine V.invSi (as := [.inl a1, .inl (0 : Int32), .inl (8 : Int32)]) (st := []) (r := 17) hC (met8_isIn hq5) ys_X8_isIn ml_RX5_173 dX5_fillGains_14 (by decide) rfl rfl rfl rfl ?_
    refine V.if_ne (tgt := 21) (r := 20) hC dX5_fillGains_17 (by decide) rfl (fun c6 => ?_) (fun c6 => ?_)
    · rw [if_neg c6] at h
      refine V.iconst (r := 22) hC dX5_fillGains_21 ki_0 rfl ?_
      refine V.ist (lv' := [(0, .inr 1), (1, .inl a0), (2, .inl a1), (3, .inl a2), (4, .inl (0 : Int32))]) (r := 24) hC dX5_fillGains_22 rfl rfl rfl ?_
      exact v5_fillGains_b24  hC hR  5000 _ _ _ _ _ h
    · rw [if_pos c6] at h
      cases h
      exact hR _ _ dX5_fillGains_20
theorem met5_fillGains {R : xMem} {a0 a1 a2 : Int32} {M : xMem} (h : g5_fillGains a0 a1 a2 M = some R) : xMet yX5_fillGains cX5_fillGains 6 none 3 [.inr 1, .inl a0, .inl a1, .inl a2] M none R := xMet.ofV (by decide +kernel) (Nat.le_of_ble_eq_true rfl) fun _ hC hR => v5_fillGains  hC hR h
def g5_findRest_b77 (k6 : Int32 → xMem → Option (xMem)) (k16 : Int32 → Int32 → Int32 → xMem → Option (xMem)) (x1 x3 s0 s1 : Int32) (M : xMem) : Option (xMem) :=
k16 x1 (s0 &&& s1) (x3 + (1 : Int32)) M
set_option maxHeartbeats 4000000 in
set_option maxRecDepth 20000 in
theorem v5_findRest_b77 {G : xG} (hC : xC G cX5_findRest 4 RX5 1) {R : xMem} (hR : xRV G cX5_findRest 4 R) {k6 : Int32 → xMem → Option (xMem)} (hk6 : ∀ (y1 : Int32) (N : xMem), k6 y1 N = some R → V G 4 6 [(0, .inr 1), (1, .inl y1)] [] N) {k16 : Int32 → Int32 → Int32 → xMem → Option (xMem)} (hk16 : ∀ (y1 y2 y3 : Int32) (N : xMem), k16 y1 y2 y3 N = some R → V G 4 16 [(0, .inr 1), (1, .inl y1), (2, .inl y2), (3, .inl y3)] [] N) (x1 x3 s0 s1 : Int32) (M : xMem) (h : g5_findRest_b77 k6 k16 x1 x3 s0 s1 M = some R) : V G 4 77 [(0, .inr 1), (1, .inl x1), (3, .inl x3)] [.inl s1, .inl s0] M := by
  unfold g5_findRest_b77 at h
  refine V.iand (r := 78) hC dX5_findRest_77 rfl ?_
  refine V.ist_n (lv' := [(0, .inr 1), (1, .inl x1), (2, .inl (s0 &&& s1)), (3, .inl x3)]) (r := 79) hC dX5_findRest_78 rfl rfl rfl ?_
  refine V.inc (lv' := [(0, .inr 1), (1, .inl x1), (2, .inl (s0 &&& s1)), (3, .inl (x3 + (1 : Int32)))]) (r := 82) hC 3 dX5_findRest_79 rfl ki_1 rfl rfl rfl ?_
  refine V.goto (tgt := 16) hC dX5_findRest_82 (by decide) ?_
  exact hk16 _ _ _ _ h
def g5_findRest_b48 (k6 : Int32 → xMem → Option (xMem)) (k16 : Int32 → Int32 → Int32 → xMem → Option (xMem)) (x1 x3 s0 s1 : Int32) (M : xMem) : Option (xMem) :=
if ((x1 - (x1 - x1 / (5 : Int32) * (5 : Int32))) + x3) < 0 ∨ 25 ≤ ((x1 - (x1 - x1 / (5 : Int32) * (5 : Int32))) + x3).toNatClampNeg then none else
if x1 < 0 ∨ 25 ≤ x1.toNatClampNeg then none else
if (M 140 x1.toNatClampNeg) < (M 140 ((x1 - (x1 - x1 / (5 : Int32) * (5 : Int32))) + x3).toNatClampNeg) then
(g5_findRest_b77 k6 k16 x1 x3 (s0 &&& s1) (0 : Int32) M)
else
(g5_findRest_b77 k6 k16 x1 x3 (s0 &&& s1) (1 : Int32) M)
set_option maxHeartbeats 4000000 in
set_option maxRecDepth 20000 in
theorem v5_findRest_b48 {G : xG} (hC : xC G cX5_findRest 4 RX5 1) {R : xMem} (hR : xRV G cX5_findRest 4 R) {k6 : Int32 → xMem → Option (xMem)} (hk6 : ∀ (y1 : Int32) (N : xMem), k6 y1 N = some R → V G 4 6 [(0, .inr 1), (1, .inl y1)] [] N) {k16 : Int32 → Int32 → Int32 → xMem → Option (xMem)} (hk16 : ∀ (y1 y2 y3 : Int32) (N : xMem), k16 y1 y2 y3 N = some R → V G 4 16 [(0, .inr 1), (1, .inl y1), (2, .inl y2), (3, .inl y3)] [] N) (x1 x3 s0 s1 : Int32) (M : xMem) (h : g5_findRest_b48 k6 k16 x1 x3 s0 s1 M = some R) : V G 4 48 [(0, .inr 1), (1, .inl x1), (3, .inl x3)] [.inl s1, .inl s0] M := by
  unfold g5_findRest_b48 at h
  refine V.iand (r := 49) hC dX5_findRest_48 rfl ?_
  refine V.ist_n (lv' := [(0, .inr 1), (1, .inl x1), (2, .inl (s0 &&& s1)), (3, .inl x3)]) (r := 50) hC dX5_findRest_49 rfl rfl rfl ?_
  refine V.iload_n (r := 51) hC 2 dX5_findRest_50 rfl rfl ?_
  refine V.aload_n (r := 52) hC 0 dX5_findRest_51 rfl rfl ?_
  refine V.getR (k' := 125) (j := 10) (r := 55) hC xcl_5 sh_1 fl_RX5_52 dX5_findRest_52 (by decide) rfl rfl ?_
  refine V.iload_n (r := 56) hC 1 dX5_findRest_55 rfl rfl ?_
  refine V.iload_n (r := 57) hC 1 dX5_findRest_56 rfl rfl ?_
  refine V.iconst (r := 58) hC dX5_findRest_57 ki_5 rfl ?_
  refine V.irem (r := 59) hC dX5_findRest_58 (by decide) rfl ?_
  refine V.isub (r := 60) hC dX5_findRest_59 rfl ?_
  refine V.iload_n (r := 61) hC 3 dX5_findRest_60 rfl rfl ?_
  refine V.iadd (r := 62) hC dX5_findRest_61 rfl ?_
  by_cases c11 : ((x1 - (x1 - x1 / (5 : Int32) * (5 : Int32))) + x3) < 0 ∨ 25 ≤ ((x1 - (x1 - x1 / (5 : Int32) * (5 : Int32))) + x3).toNatClampNeg
  · rw [if_pos c11] at h; cases h
  rw [if_neg c11] at h
  refine V.iald (t := ((x1 - (x1 - x1 / (5 : Int32) * (5 : Int32))) + x3).toNatClampNeg) (r := 63) hC sh_125 dX5_findRest_62 c11 (Nat.zero_add _) rfl ?_
  refine V.aload_n (r := 64) hC 0 dX5_findRest_63 rfl rfl ?_
  refine V.getR (k' := 125) (j := 10) (r := 67) hC xcl_5 sh_1 fl_RX5_52 dX5_findRest_64 (by decide) rfl rfl ?_
  refine V.iload_n (r := 68) hC 1 dX5_findRest_67 rfl rfl ?_
  by_cases c12 : x1 < 0 ∨ 25 ≤ x1.toNatClampNeg
  · rw [if_pos c12] at h; cases h
  rw [if_neg c12] at h
  refine V.iald (t := x1.toNatClampNeg) (r := 69) hC sh_125 dX5_findRest_68 c12 (Nat.zero_add _) rfl ?_
  refine V.icmp_gt (tgt := 76) (r := 72) hC dX5_findRest_69 (by decide) rfl (fun c13 => ?_) (fun c13 => ?_)
  · rw [if_pos c13] at h
    refine V.iconst (r := 77) hC dX5_findRest_76 ki_0 rfl ?_
    refine V.pick (lv' := [(0, .inr 1), (1, .inl x1), (3, .inl x3)]) [0, 1, 3] rfl ?_
    exact v5_findRest_b77  hC hR hk6 hk16 _ _ _ _ _ h
  · rw [if_neg c13] at h
    refine V.iconst (r := 73) hC dX5_findRest_72 ki_1 rfl ?_
    refine V.goto (tgt := 77) hC dX5_findRest_73 (by decide) ?_
    refine V.pick (lv' := [(0, .inr 1), (1, .inl x1), (3, .inl x3)]) [0, 1, 3] rfl ?_
    exact v5_findRest_b77  hC hR hk6 hk16 _ _ _ _ _ h
def g5_findRest_b94 (k6 : Int32 → xMem → Option (xMem)) (x1 : Int32) (M : xMem) : Option (xMem) :=
k6 (x1 + (1 : Int32)) M
set_option maxHeartbeats 4000000 in
set_option maxRecDepth 20000 in
theorem v5_findRest_b94 {G : xG} (hC : xC G cX5_findRest 4 RX5 1) {R : xMem} (hR : xRV G cX5_findRest 4 R) {k6 : Int32 → xMem → Option (xMem)} (hk6 : ∀ (y1 : Int32) (N : xMem), k6 y1 N = some R → V G 4 6 [(0, .inr 1), (1, .inl y1)] [] N) (x1 : Int32) (M : xMem) (h : g5_findRest_b94 k6 x1 M = some R) : V G 4 94 [(0, .inr 1), (1, .inl x1)] [] M := by
  unfold g5_findRest_b94 at h
  refine V.inc (lv' := [(0, .inr 1), (1, .inl (x1 + (1 : Int32)))]) (r := 97) hC 1 dX5_findRest_94 rfl ki_1 rfl rfl rfl ?_
  refine V.goto (tgt := 6) hC dX5_findRest_97 (by decide) ?_
  exact hk6 _ _ h
def g5_findRest_b16 (k6 : Int32 → xMem → Option (xMem)) : Nat → Int32 → Int32 → Int32 → xMem → Option (xMem)
  | 0, _, _, _, _ => none
  | n + 1, x1, x2, x3, M => 
    (if (5 : Int32) ≤ x3 then
    (if x2 = 0 then
    (g5_findRest_b94 k6 x1 M)
    else
    (Option.bind (g5_found x1 M) fun q6 =>
    g5_findRest_b94 k6 x1 q6))
    else
    (if (((5 : Int32) * x3) + (x1 - x1 / (5 : Int32) * (5 : Int32))) < 0 ∨ 25 ≤ (((5 : Int32) * x3) + (x1 - x1 / (5 : Int32) * (5 : Int32))).toNatClampNeg then none else
    if x1 < 0 ∨ 25 ≤ x1.toNatClampNeg then none else
    if (M 139 x1.toNatClampNeg) < (M 139 (((5 : Int32) * x3) + (x1 - x1 / (5 : Int32) * (5 : Int32))).toNatClampNeg) then
    (g5_findRest_b48 k6 (g5_findRest_b16 k6 n) x1 x3 x2 (0 : Int32) M)
    else
    (g5_findRest_b48 k6 (g5_findRest_b16 k6 n) x1 x3 x2 (1 : Int32) M)))
set_option maxHeartbeats 4000000 in
set_option maxRecDepth 20000 in
theorem v5_findRest_b16 {G : xG} (hC : xC G cX5_findRest 4 RX5 1) {R : xMem} (hR : xRV G cX5_findRest 4 R) {k6 : Int32 → xMem → Option (xMem)} (hk6 : ∀ (y1 : Int32) (N : xMem), k6 y1 N = some R → V G 4 6 [(0, .inr 1), (1, .inl y1)] [] N) : ∀ (n : Nat) (x1 x2 x3 : Int32) (M : xMem), g5_findRest_b16 k6 n x1 x2 x3 M = some R → V G 4 16 [(0, .inr 1), (1, .inl x1), (2, .inl x2), (3, .inl x3)] [] M := by
  intro n
  induction n with
  | zero => intro x1 x2 x3 M h; rw [g5_findRest_b16] at h; cases h
  | succ n ih =>
    intro x1 x2 x3 M h
    rw [g5_findRest_b16] at h
    refine V.iload_n (r := 17) hC 3 dX5_findRest_16 rfl rfl ?_
    refine V.iconst (r := 18) hC dX5_findRest_17 ki_5 rfl ?_
    refine V.icmp_ge (tgt := 85) (r := 21) hC dX5_findRest_18 (by decide) rfl (fun c4 => ?_) (fun c4 => ?_)
    · rw [if_pos c4] at h
      refine V.iload_n (r := 86) hC 2 dX5_findRest_85 rfl rfl ?_
      refine V.if_eq (tgt := 94) (r := 89) hC dX5_findRest_86 (by decide) rfl (fun c5 => ?_) (fun c5 => ?_)
      · rw [if_pos c5] at h
        refine V.pick (lv' := [(0, .inr 1), (1, .inl x1)]) [0, 1] rfl ?_
        exact v5_findRest_b94  hC hR hk6 _ _ h
      · rw [if_neg c5] at h
        refine V.aload_n (r := 90) hC 0 dX5_findRest_89 rfl rfl ?_
        refine V.iload_n (r := 91) hC 1 dX5_findRest_90 rfl rfl ?_
        obtain ⟨q6, hq7, h⟩ := Option.bind_eq_some_iff.mp h
        try dsimp only at h
        refine V.invVv (as := [.inl x1]) (st := []) (r := 94) hC (met5_found hq7) yv_X5_found ml_RX5_119 sh_1 rfl rfl dX5_findRest_91 (by decide) rfl rfl rfl rfl ?_
        refine V.pick (lv' := [(0, .inr 1), (1, .inl x1)]) [0, 1] rfl ?_
        exact v5_findRest_b94  hC hR hk6 _ _ h
    · rw [if_neg c4] at h
      refine V.iload_n (r := 22) hC 2 dX5_findRest_21 rfl rfl ?_
      refine V.aload_n (r := 23) hC 0 dX5_findRest_22 rfl rfl ?_
      refine V.getR (k' := 124) (j := 9) (r := 26) hC xcl_5 sh_1 fl_RX5_49 dX5_findRest_23 (by decide) rfl rfl ?_
      refine V.iconst (r := 27) hC dX5_findRest_26 ki_5 rfl ?_
      refine V.iload_n (r := 28) hC 3 dX5_findRest_27 rfl rfl ?_
      refine V.imul (r := 29) hC dX5_findRest_28 rfl ?_
      refine V.iload_n (r := 30) hC 1 dX5_findRest_29 rfl rfl ?_
      refine V.iconst (r := 31) hC dX5_findRest_30 ki_5 rfl ?_
      refine V.irem (r := 32) hC dX5_findRest_31 (by decide) rfl ?_
      refine V.iadd (r := 33) hC dX5_findRest_32 rfl ?_
      by_cases c8 : (((5 : Int32) * x3) + (x1 - x1 / (5 : Int32) * (5 : Int32))) < 0 ∨ 25 ≤ (((5 : Int32) * x3) + (x1 - x1 / (5 : Int32) * (5 : Int32))).toNatClampNeg
      · rw [if_pos c8] at h; cases h
      rw [if_neg c8] at h
      refine V.iald (t := (((5 : Int32) * x3) + (x1 - x1 / (5 : Int32) * (5 : Int32))).toNatClampNeg) (r := 34) hC sh_124 dX5_findRest_33 c8 (Nat.zero_add _) rfl ?_
      refine V.aload_n (r := 35) hC 0 dX5_findRest_34 rfl rfl ?_
      refine V.getR (k' := 124) (j := 9) (r := 38) hC xcl_5 sh_1 fl_RX5_49 dX5_findRest_35 (by decide) rfl rfl ?_
      refine V.iload_n (r := 39) hC 1 dX5_findRest_38 rfl rfl ?_
      by_cases c9 : x1 < 0 ∨ 25 ≤ x1.toNatClampNeg
      · rw [if_pos c9] at h; cases h
      rw [if_neg c9] at h
      refine V.iald (t := x1.toNatClampNeg) (r := 40) hC sh_124 dX5_findRest_39 c9 (Nat.zero_add _) rfl ?_
      refine V.icmp_gt (tgt := 47) (r := 43) hC dX5_findRest_40 (by decide) rfl (fun c10 => ?_) (fun c10 => ?_)
      · rw [if_pos c10] at h
        refine V.iconst (r := 48) hC dX5_findRest_47 ki_0 rfl ?_
        refine V.pick (lv' := [(0, .inr 1), (1, .inl x1), (3, .inl x3)]) [0, 1, 3] rfl ?_
        exact v5_findRest_b48  hC hR hk6 ih _ _ _ _ _ h
      · rw [if_neg c10] at h
        refine V.iconst (r := 44) hC dX5_findRest_43 ki_1 rfl ?_
        refine V.goto (tgt := 48) hC dX5_findRest_44 (by decide) ?_
        refine V.pick (lv' := [(0, .inr 1), (1, .inl x1), (3, .inl x3)]) [0, 1, 3] rfl ?_
        exact v5_findRest_b48  hC hR hk6 ih _ _ _ _ _ h
def g5_findRest_b6 : Nat → Int32 → xMem → Option (xMem)
  | 0, _, _ => none
  | n + 1, x1, M => 
    (if (25 : Int32) ≤ x1 then
    (some M)
    else
    (g5_findRest_b16 (g5_findRest_b6 n) 5000 x1 (1 : Int32) (0 : Int32) M))
set_option maxHeartbeats 4000000 in
set_option maxRecDepth 20000 in
theorem v5_findRest_b6 {G : xG} (hC : xC G cX5_findRest 4 RX5 1) {R : xMem} (hR : xRV G cX5_findRest 4 R) : ∀ (n : Nat) (x1 : Int32) (M : xMem), g5_findRest_b6 n x1 M = some R → V G 4 6 [(0, .inr 1), (1, .inl x1)] [] M := by
  intro n
  induction n with
  | zero => intro x1 M h; rw [g5_findRest_b6] at h; cases h
  | succ n ih =>
    intro x1 M h
    rw [g5_findRest_b6] at h
    refine V.iload_n (r := 7) hC 1 dX5_findRest_6 rfl rfl ?_
    refine V.bipush (r := 9) hC dX5_findRest_7 kb_25 rfl ?_
    refine V.icmp_ge (tgt := 100) (r := 12) hC dX5_findRest_9 (by decide) rfl (fun c3 => ?_) (fun c3 => ?_)
    · rw [if_pos c3] at h
      cases h
      exact hR _ _ dX5_findRest_100
    · rw [if_neg c3] at h
      refine V.iconst (r := 13) hC dX5_findRest_12 ki_1 rfl ?_
      refine V.ist_n (lv' := [(0, .inr 1), (1, .inl x1), (2, .inl (1 : Int32))]) (r := 14) hC dX5_findRest_13 rfl rfl rfl ?_
      refine V.iconst (r := 15) hC dX5_findRest_14 ki_0 rfl ?_
      refine V.ist_n (lv' := [(0, .inr 1), (1, .inl x1), (2, .inl (1 : Int32)), (3, .inl (0 : Int32))]) (r := 16) hC dX5_findRest_15 rfl rfl rfl ?_
      exact v5_findRest_b16  hC hR ih 5000 _ _ _ _ h
def g5_findRest (M : xMem) : Option (xMem) :=
Option.bind (g5_clearFound M) fun q1 =>
g5_findRest_b6 5000 (0 : Int32) q1
set_option maxHeartbeats 4000000 in
set_option maxRecDepth 20000 in
theorem v5_findRest {G : xG} (hC : xC G cX5_findRest 4 RX5 1) {R : xMem} (hR : xRV G cX5_findRest 4 R) {M : xMem} (h : g5_findRest M = some R) : V G 4 0 [(0, .inr 1)] [] M := by
  unfold g5_findRest at h
  refine V.aload_n (r := 1) hC 0 dX5_findRest_0 rfl rfl ?_
  obtain ⟨q1, hq2, h⟩ := Option.bind_eq_some_iff.mp h
  try dsimp only at h
  refine V.invVv (as := []) (st := []) (r := 4) hC (met5_clearFound hq2) yv_X5_clearFound ml_RX5_108 sh_1 rfl rfl dX5_findRest_1 (by decide) rfl rfl rfl rfl ?_
  refine V.iconst (r := 5) hC dX5_findRest_4 ki_0 rfl ?_
  refine V.ist_n (lv' := [(0, .inr 1), (1, .inl (0 : Int32))]) (r := 6) hC dX5_findRest_5 rfl rfl rfl ?_
  exact v5_findRest_b6  hC hR  5000 _ _ h
theorem met5_findRest {R : xMem} {M : xMem} (h : g5_findRest M = some R) : xMet yX5_findRest cX5_findRest 4 none 1 [.inr 1] M none R := xMet.ofV (by decide +kernel) (Nat.le_of_ble_eq_true rfl) fun _ hC hR => v5_findRest  hC hR h
def g5_findPlace_b133 (k6 : Int32 → Int32 → xMem → Option (xMem)) (x1 x2 : Int32) (M : xMem) : Option (xMem) :=
k6 x1 (x2 + (1 : Int32)) M
set_option maxHeartbeats 4000000 in
set_option maxRecDepth 20000 in
theorem v5_findPlace_b133 {G : xG} (hC : xC G cX5_findPlace 3 RX5 7) {R : xMem} (hR : xRV G cX5_findPlace 3 R) {k6 : Int32 → Int32 → xMem → Option (xMem)} (hk6 : ∀ (y1 y2 : Int32) (N : xMem), k6 y1 y2 N = some R → V G 3 6 [(0, .inr 1), (1, .inl y1), (2, .inl y2)] [] N) (x1 x2 : Int32) (M : xMem) (h : g5_findPlace_b133 k6 x1 x2 M = some R) : V G 3 133 [(0, .inr 1), (1, .inl x1), (2, .inl x2)] [] M := by
  unfold g5_findPlace_b133 at h
  refine V.inc (lv' := [(0, .inr 1), (1, .inl x1), (2, .inl (x2 + (1 : Int32)))]) (r := 136) hC 2 dX5_findPlace_133 rfl ki_1 rfl rfl rfl ?_
  refine V.goto (tgt := 6) hC dX5_findPlace_136 (by decide) ?_
  exact hk6 _ _ _ h
def g5_findPlace_b6 : Nat → Int32 → Int32 → xMem → Option (xMem)
  | 0, _, _, _ => none
  | n + 1, x1, x2, M => 
    (if (196 : Int32) ≤ x2 then
    (some M)
    else
    (Option.bind (g6_sortAt 0 x2 M) fun q4 =>
    if (q4.1) = (3 : Int32) then
    (g5_findPlace_b133 (g5_findPlace_b6 n) x1 x2 q4.2)
    else
    (Option.bind (g2_stands 0 x1 q4.2) fun q7 =>
    if (q7.1) = 0 then
    (g5_findPlace_b133 (g5_findPlace_b6 n) x1 x2 q7.2)
    else
    (Option.bind (g6_become 1 0 q7.2) fun q10 =>
    Option.bind (g2_light 1 x1 (1 : Int32) q10) fun q12 =>
    if x1 < 0 ∨ 12 ≤ x1.toNatClampNeg then none else
    mset (upM q12 1 (208 + x1.toNatClampNeg) x2) fun M15 =>
    Option.bind (g6_hoursLeft 0 M15) fun q16 =>
    Option.bind (g0_passHours 1 (q16.1) q16.2) fun q18 =>
    Option.bind (g1_living 1 q18.2) fun q20 =>
    if (q20.1) ≤ (q20.2 144 0) then
    (g5_findPlace_b133 (g5_findPlace_b6 n) x1 x2 q20.2)
    else
    (Option.bind (g1_living 1 q20.2) fun q23 =>
    mset (upM q23.2 144 0 (q23.1)) fun M25 =>
    mset (upM M25 142 0 x2) fun M26 =>
    g5_findPlace_b133 (g5_findPlace_b6 n) x1 x2 M26)))))
set_option maxHeartbeats 4000000 in
set_option maxRecDepth 20000 in
theorem v5_findPlace_b6 {G : xG} (hC : xC G cX5_findPlace 3 RX5 7) {R : xMem} (hR : xRV G cX5_findPlace 3 R) : ∀ (n : Nat) (x1 x2 : Int32) (M : xMem), g5_findPlace_b6 n x1 x2 M = some R → V G 3 6 [(0, .inr 1), (1, .inl x1), (2, .inl x2)] [] M := by
  intro n
  induction n with
  | zero => intro x1 x2 M h; rw [g5_findPlace_b6] at h; cases h
  | succ n ih =>
    intro x1 x2 M h
    rw [g5_findPlace_b6] at h
    refine V.iload_n (r := 7) hC 2 dX5_findPlace_6 rfl rfl ?_
    refine V.sipush (r := 10) hC dX5_findPlace_7 ks_196 rfl ?_
    refine V.icmp_ge (tgt := 139) (r := 13) hC dX5_findPlace_10 (by decide) rfl (fun c3 => ?_) (fun c3 => ?_)
    · rw [if_pos c3] at h
      cases h
      exact hR _ _ dX5_findPlace_139
    · rw [if_neg c3] at h
      refine V.aload_n (r := 14) hC 0 dX5_findPlace_13 rfl rfl ?_
      refine V.getR (k' := 2) (j := 0) (r := 17) hC xcl_5 sh_1 fl_RX5_12 dX5_findPlace_14 (by decide) rfl rfl ?_
      refine V.iload_n (r := 18) hC 2 dX5_findPlace_17 rfl rfl ?_
      obtain ⟨q4, hq5, h⟩ := Option.bind_eq_some_iff.mp h
      try dsimp only at h
      refine V.invVi (as := [.inl x2]) (st := []) (r := 21) hC (met6_sortAt (by decide) hq5) yv_X6_sortAt ml_RX5_180 sh_2 rfl rfl dX5_findPlace_18 (by decide) rfl rfl rfl rfl ?_
      refine V.iconst (r := 22) hC dX5_findPlace_21 ki_3 rfl ?_
      refine V.icmp_eq (tgt := 133) (r := 25) hC dX5_findPlace_22 (by decide) rfl (fun c6 => ?_) (fun c6 => ?_)
      · rw [if_pos c6] at h
        exact v5_findPlace_b133  hC hR ih _ _ _ h
      · rw [if_neg c6] at h
        refine V.aload_n (r := 26) hC 0 dX5_findPlace_25 rfl rfl ?_
        refine V.getR (k' := 2) (j := 0) (r := 29) hC xcl_5 sh_1 fl_RX5_12 dX5_findPlace_26 (by decide) rfl rfl ?_
        refine V.getR (k' := 4) (j := 1) (r := 32) hC xcl_6 sh_2 fl_RX5_122 dX5_findPlace_29 (by decide) rfl rfl ?_
        refine V.iload_n (r := 33) hC 1 dX5_findPlace_32 rfl rfl ?_
        obtain ⟨q7, hq8, h⟩ := Option.bind_eq_some_iff.mp h
        try dsimp only at h
        refine V.invVi (as := [.inl x1]) (st := []) (r := 36) hC (met2_stands (by decide) hq8) yv_X2_stands ml_RX5_126 sh_4 rfl rfl dX5_findPlace_33 (by decide) rfl rfl rfl rfl ?_
        refine V.if_ne (tgt := 42) (r := 39) hC dX5_findPlace_36 (by decide) rfl (fun c9 => ?_) (fun c9 => ?_)
        · rw [if_neg c9] at h
          refine V.aload_n (r := 43) hC 0 dX5_findPlace_42 rfl rfl ?_
          refine V.getR (k' := 29) (j := 2) (r := 46) hC xcl_5 sh_1 fl_RX5_25 dX5_findPlace_43 (by decide) rfl rfl ?_
          refine V.aload_n (r := 47) hC 0 dX5_findPlace_46 rfl rfl ?_
          refine V.getR (k' := 2) (j := 0) (r := 50) hC xcl_5 sh_1 fl_RX5_12 dX5_findPlace_47 (by decide) rfl rfl ?_
          obtain ⟨q10, hq11, h⟩ := Option.bind_eq_some_iff.mp h
          try dsimp only at h
          refine V.invVv (as := [.inr 2]) (st := []) (r := 53) hC (met6_become (by decide) (by decide) hq11) yv_X6_become ml_RX5_134 sh_29 rfl rfl dX5_findPlace_50 (by decide) rfl rfl rfl rfl ?_
          refine V.aload_n (r := 54) hC 0 dX5_findPlace_53 rfl rfl ?_
          refine V.getR (k' := 29) (j := 2) (r := 57) hC xcl_5 sh_1 fl_RX5_25 dX5_findPlace_54 (by decide) rfl rfl ?_
          refine V.getR (k' := 31) (j := 1) (r := 60) hC xcl_6 sh_29 fl_RX5_122 dX5_findPlace_57 (by decide) rfl rfl ?_
          refine V.iload_n (r := 61) hC 1 dX5_findPlace_60 rfl rfl ?_
          refine V.iconst (r := 62) hC dX5_findPlace_61 ki_1 rfl ?_
          obtain ⟨q12, hq13, h⟩ := Option.bind_eq_some_iff.mp h
          try dsimp only at h
          refine V.invVv (as := [.inl x1, .inl (1 : Int32)]) (st := []) (r := 65) hC (met2_light (by decide) hq13) yv_X2_light ml_RX5_138 sh_31 rfl rfl dX5_findPlace_62 (by decide) rfl rfl rfl rfl ?_
          refine V.aload_n (r := 66) hC 0 dX5_findPlace_65 rfl rfl ?_
          refine V.getR (k' := 29) (j := 2) (r := 69) hC xcl_5 sh_1 fl_RX5_25 dX5_findPlace_66 (by decide) rfl rfl ?_
          refine V.getR (k' := 31) (j := 1) (r := 72) hC xcl_6 sh_29 fl_RX5_122 dX5_findPlace_69 (by decide) rfl rfl ?_
          refine V.getR (k' := 33) (j := 1) (r := 75) hC xcl_2 sh_31 fl_RX5_183 dX5_findPlace_72 (by decide) rfl rfl ?_
          refine V.iload_n (r := 76) hC 1 dX5_findPlace_75 rfl rfl ?_
          refine V.iload_n (r := 77) hC 2 dX5_findPlace_76 rfl rfl ?_
          by_cases c14 : x1 < 0 ∨ 12 ≤ x1.toNatClampNeg
          · rw [if_pos c14] at h; cases h
          rw [if_neg c14] at h
          rw [mset_eq] at h
          refine V.iast (t := (208 + x1.toNatClampNeg)) (r := 78) hC sh_33 dX5_findPlace_77 c14 rfl rfl ?_
          generalize upM q12 1 (208 + x1.toNatClampNeg) x2 = M15 at h ⊢
          refine V.aload_n (r := 79) hC 0 dX5_findPlace_78 rfl rfl ?_
          refine V.getR (k' := 20) (j := 1) (r := 82) hC xcl_5 sh_1 fl_RX5_21 dX5_findPlace_79 (by decide) rfl rfl ?_
          refine V.aload_n (r := 83) hC 0 dX5_findPlace_82 rfl rfl ?_
          refine V.getR (k' := 29) (j := 2) (r := 86) hC xcl_5 sh_1 fl_RX5_25 dX5_findPlace_83 (by decide) rfl rfl ?_
          refine V.aload_n (r := 87) hC 0 dX5_findPlace_86 rfl rfl ?_
          refine V.getR (k' := 2) (j := 0) (r := 90) hC xcl_5 sh_1 fl_RX5_12 dX5_findPlace_87 (by decide) rfl rfl ?_
          obtain ⟨q16, hq17, h⟩ := Option.bind_eq_some_iff.mp h
          try dsimp only at h
          refine V.invVi (as := []) (st := [.inr 29, .inr 20]) (r := 93) hC (met6_hoursLeft (by decide) hq17) yv_X6_hoursLeft ml_RX5_84 sh_2 rfl rfl dX5_findPlace_90 (by decide) rfl rfl rfl rfl ?_
          obtain ⟨q18, hq19, h⟩ := Option.bind_eq_some_iff.mp h
          try dsimp only at h
          refine V.invVi (as := [.inr 29, .inl (q16.1)]) (st := []) (r := 96) hC (met0_passHours (by decide) hq19) yv_X0_passHours ml_RX5_88 sh_20 rfl rfl dX5_findPlace_93 (by decide) rfl rfl rfl rfl ?_
          refine V.pop (r := 97) hC dX5_findPlace_96 rfl ?_
          refine V.aload_n (r := 98) hC 0 dX5_findPlace_97 rfl rfl ?_
          refine V.getR (k' := 29) (j := 2) (r := 101) hC xcl_5 sh_1 fl_RX5_25 dX5_findPlace_98 (by decide) rfl rfl ?_
          refine V.getR (k' := 38) (j := 2) (r := 104) hC xcl_6 sh_29 fl_RX5_92 dX5_findPlace_101 (by decide) rfl rfl ?_
          obtain ⟨q20, hq21, h⟩ := Option.bind_eq_some_iff.mp h
          try dsimp only at h
          refine V.invVi (as := []) (st := []) (r := 107) hC (met1_living (by decide) hq21) yv_X1_living ml_RX5_96 sh_38 rfl rfl dX5_findPlace_104 (by decide) rfl rfl rfl rfl ?_
          refine V.aload_n (r := 108) hC 0 dX5_findPlace_107 rfl rfl ?_
          refine V.getI (b := 144) (i := 0) (j := 14) (r := 111) hC xcl_5 sh_1 fl_RX5_64 dX5_findPlace_108 (by decide) rfl rfl ?_
          refine V.icmp_le (tgt := 133) (r := 114) hC dX5_findPlace_111 (by decide) rfl (fun c22 => ?_) (fun c22 => ?_)
          · rw [if_pos c22] at h
            exact v5_findPlace_b133  hC hR ih _ _ _ h
          · rw [if_neg c22] at h
            refine V.aload_n (r := 115) hC 0 dX5_findPlace_114 rfl rfl ?_
            refine V.aload_n (r := 116) hC 0 dX5_findPlace_115 rfl rfl ?_
            refine V.getR (k' := 29) (j := 2) (r := 119) hC xcl_5 sh_1 fl_RX5_25 dX5_findPlace_116 (by decide) rfl rfl ?_
            refine V.getR (k' := 38) (j := 2) (r := 122) hC xcl_6 sh_29 fl_RX5_92 dX5_findPlace_119 (by decide) rfl rfl ?_
            obtain ⟨q23, hq24, h⟩ := Option.bind_eq_some_iff.mp h
            try dsimp only at h
            refine V.invVi (as := []) (st := [.inr 1]) (r := 125) hC (met1_living (by decide) hq24) yv_X1_living ml_RX5_96 sh_38 rfl rfl dX5_findPlace_122 (by decide) rfl rfl rfl rfl ?_
            rw [mset_eq] at h
            refine V.putI (b := 144) (i := 0) (j := 14) (ty := .int) (r := 128) hC xcl_5 xcp_5 sh_1 fl_RX5_64 dX5_findPlace_125 (by decide) rfl rfl (by decide +kernel) rfl rfl rfl ?_
            generalize upM q23.2 144 0 (q23.1) = M25 at h ⊢
            refine V.aload_n (r := 129) hC 0 dX5_findPlace_128 rfl rfl ?_
            refine V.iload_n (r := 130) hC 2 dX5_findPlace_129 rfl rfl ?_
            rw [mset_eq] at h
            refine V.putI (b := 142) (i := 0) (j := 12) (ty := .int) (r := 133) hC xcl_5 xcp_5 sh_1 fl_RX5_58 dX5_findPlace_130 (by decide) rfl rfl (by decide +kernel) rfl rfl rfl ?_
            generalize upM M25 142 0 x2 = M26 at h ⊢
            exact v5_findPlace_b133  hC hR ih _ _ _ h
        · rw [if_pos c9] at h
          refine V.goto (tgt := 133) hC dX5_findPlace_39 (by decide) ?_
          exact v5_findPlace_b133  hC hR ih _ _ _ h
def g5_findPlace (a0 : Int32) (M : xMem) : Option (xMem) :=
Option.bind (g5_clearFound M) fun q1 =>
g5_findPlace_b6 5000 a0 (0 : Int32) q1
set_option maxHeartbeats 4000000 in
set_option maxRecDepth 20000 in
theorem v5_findPlace {G : xG} (hC : xC G cX5_findPlace 3 RX5 7) {R : xMem} (hR : xRV G cX5_findPlace 3 R) {a0 : Int32} {M : xMem} (h : g5_findPlace a0 M = some R) : V G 3 0 [(0, .inr 1), (1, .inl a0)] [] M := by
  unfold g5_findPlace at h
  refine V.aload_n (r := 1) hC 0 dX5_findPlace_0 rfl rfl ?_
  obtain ⟨q1, hq2, h⟩ := Option.bind_eq_some_iff.mp h
  try dsimp only at h
  refine V.invVv (as := []) (st := []) (r := 4) hC (met5_clearFound hq2) yv_X5_clearFound ml_RX5_108 sh_1 rfl rfl dX5_findPlace_1 (by decide) rfl rfl rfl rfl ?_
  refine V.iconst (r := 5) hC dX5_findPlace_4 ki_0 rfl ?_
  refine V.ist_n (lv' := [(0, .inr 1), (1, .inl a0), (2, .inl (0 : Int32))]) (r := 6) hC dX5_findPlace_5 rfl rfl rfl ?_
  exact v5_findPlace_b6  hC hR  5000 _ _ _ h
theorem met5_findPlace {R : xMem} {a0 : Int32} {M : xMem} (h : g5_findPlace a0 M = some R) : xMet yX5_findPlace cX5_findPlace 3 none 7 [.inr 1, .inl a0] M none R := xMet.ofV (by decide +kernel) (Nat.le_of_ble_eq_true rfl) fun _ hC hR => v5_findPlace  hC hR h
def g5_findWhere_b119 (k7 : Int32 → Int32 → Int32 → Int32 → xMem → Option (xMem)) (x1 x2 x3 x4 : Int32) (M : xMem) : Option (xMem) :=
k7 x1 x2 x3 (x4 + (1 : Int32)) M
set_option maxHeartbeats 4000000 in
set_option maxRecDepth 20000 in
theorem v5_findWhere_b119 {G : xG} (hC : xC G cX5_findWhere 5 RX5 7) {R : xMem} (hR : xRV G cX5_findWhere 5 R) {k7 : Int32 → Int32 → Int32 → Int32 → xMem → Option (xMem)} (hk7 : ∀ (y1 y2 y3 y4 : Int32) (N : xMem), k7 y1 y2 y3 y4 N = some R → V G 5 7 [(0, .inr 1), (1, .inl y1), (2, .inl y2), (3, .inl y3), (4, .inl y4)] [] N) (x1 x2 x3 x4 : Int32) (M : xMem) (h : g5_findWhere_b119 k7 x1 x2 x3 x4 M = some R) : V G 5 119 [(0, .inr 1), (1, .inl x1), (2, .inl x2), (3, .inl x3), (4, .inl x4)] [] M := by
  unfold g5_findWhere_b119 at h
  refine V.inc (lv' := [(0, .inr 1), (1, .inl x1), (2, .inl x2), (3, .inl x3), (4, .inl (x4 + (1 : Int32)))]) (r := 122) hC 4 dX5_findWhere_119 rfl ki_1 rfl rfl rfl ?_
  refine V.goto (tgt := 7) hC dX5_findWhere_122 (by decide) ?_
  exact hk7 _ _ _ _ _ h
def g5_findWhere_b7 : Nat → Int32 → Int32 → Int32 → Int32 → xMem → Option (xMem)
  | 0, _, _, _, _, _ => none
  | n + 1, x1, x2, x3, x4, M => 
    (if (196 : Int32) ≤ x4 then
    (some M)
    else
    (Option.bind (g6_sortAt 0 x4 M) fun q4 =>
    if (q4.1) = (3 : Int32) then
    (g5_findWhere_b119 (g5_findWhere_b7 n) x1 x2 x3 x4 q4.2)
    else
    (Option.bind (g1_isOn 0 x1 q4.2) fun q7 =>
    if (q7.1) = 0 then
    (g5_findWhere_b119 (g5_findWhere_b7 n) x1 x2 x3 x4 q7.2)
    else
    (Option.bind (g6_become 1 0 q7.2) fun q10 =>
    if x1 < 0 ∨ 6 ≤ x1.toNatClampNeg then none else
    mset (upM q10 1 (274 + x1.toNatClampNeg) x4) fun M13 =>
    Option.bind (g0_passHours 1 x2 M13) fun q14 =>
    Option.bind (g1_isOn 1 x1 q14.2) fun q16 =>
    if (q16.1) = 0 then
    (g5_findWhere_b119 (g5_findWhere_b7 n) x1 x2 x3 x4 q16.2)
    else
    (if (q16.2 1 (274 + x1.toNatClampNeg)) = x3 then
    (Option.bind (g5_found x4 q16.2) fun q20 =>
    g5_findWhere_b119 (g5_findWhere_b7 n) x1 x2 x3 x4 q20)
    else
    (g5_findWhere_b119 (g5_findWhere_b7 n) x1 x2 x3 x4 q16.2))))))
set_option maxHeartbeats 4000000 in
set_option maxRecDepth 20000 in
theorem v5_findWhere_b7 {G : xG} (hC : xC G cX5_findWhere 5 RX5 7) {R : xMem} (hR : xRV G cX5_findWhere 5 R) : ∀ (n : Nat) (x1 x2 x3 x4 : Int32) (M : xMem), g5_findWhere_b7 n x1 x2 x3 x4 M = some R → V G 5 7 [(0, .inr 1), (1, .inl x1), (2, .inl x2), (3, .inl x3), (4, .inl x4)] [] M := by
  intro n
  induction n with
  | zero => intro x1 x2 x3 x4 M h; rw [g5_findWhere_b7] at h; cases h
  | succ n ih =>
    intro x1 x2 x3 x4 M h
    rw [g5_findWhere_b7] at h
    refine V.iload (r := 9) hC 4 dX5_findWhere_7 rfl rfl ?_
    refine V.sipush (r := 12) hC dX5_findWhere_9 ks_196 rfl ?_
    refine V.icmp_ge (tgt := 125) (r := 15) hC dX5_findWhere_12 (by decide) rfl (fun c3 => ?_) (fun c3 => ?_)
    · rw [if_pos c3] at h
      cases h
      exact hR _ _ dX5_findWhere_125
    · rw [if_neg c3] at h
      refine V.aload_n (r := 16) hC 0 dX5_findWhere_15 rfl rfl ?_
      refine V.getR (k' := 2) (j := 0) (r := 19) hC xcl_5 sh_1 fl_RX5_12 dX5_findWhere_16 (by decide) rfl rfl ?_
      refine V.iload (r := 21) hC 4 dX5_findWhere_19 rfl rfl ?_
      obtain ⟨q4, hq5, h⟩ := Option.bind_eq_some_iff.mp h
      try dsimp only at h
      refine V.invVi (as := [.inl x4]) (st := []) (r := 24) hC (met6_sortAt (by decide) hq5) yv_X6_sortAt ml_RX5_180 sh_2 rfl rfl dX5_findWhere_21 (by decide) rfl rfl rfl rfl ?_
      refine V.iconst (r := 25) hC dX5_findWhere_24 ki_3 rfl ?_
      refine V.icmp_eq (tgt := 119) (r := 28) hC dX5_findWhere_25 (by decide) rfl (fun c6 => ?_) (fun c6 => ?_)
      · rw [if_pos c6] at h
        exact v5_findWhere_b119  hC hR ih _ _ _ _ _ h
      · rw [if_neg c6] at h
        refine V.aload_n (r := 29) hC 0 dX5_findWhere_28 rfl rfl ?_
        refine V.getR (k' := 2) (j := 0) (r := 32) hC xcl_5 sh_1 fl_RX5_12 dX5_findWhere_29 (by decide) rfl rfl ?_
        refine V.getR (k' := 11) (j := 2) (r := 35) hC xcl_6 sh_2 fl_RX5_92 dX5_findWhere_32 (by decide) rfl rfl ?_
        refine V.iload_n (r := 36) hC 1 dX5_findWhere_35 rfl rfl ?_
        obtain ⟨q7, hq8, h⟩ := Option.bind_eq_some_iff.mp h
        try dsimp only at h
        refine V.invVi (as := [.inl x1]) (st := []) (r := 39) hC (met1_isOn (by decide) hq8) yv_X1_isOn ml_RX5_145 sh_11 rfl rfl dX5_findWhere_36 (by decide) rfl rfl rfl rfl ?_
        refine V.if_ne (tgt := 45) (r := 42) hC dX5_findWhere_39 (by decide) rfl (fun c9 => ?_) (fun c9 => ?_)
        · rw [if_neg c9] at h
          refine V.aload_n (r := 46) hC 0 dX5_findWhere_45 rfl rfl ?_
          refine V.getR (k' := 29) (j := 2) (r := 49) hC xcl_5 sh_1 fl_RX5_25 dX5_findWhere_46 (by decide) rfl rfl ?_
          refine V.aload_n (r := 50) hC 0 dX5_findWhere_49 rfl rfl ?_
          refine V.getR (k' := 2) (j := 0) (r := 53) hC xcl_5 sh_1 fl_RX5_12 dX5_findWhere_50 (by decide) rfl rfl ?_
          obtain ⟨q10, hq11, h⟩ := Option.bind_eq_some_iff.mp h
          try dsimp only at h
          refine V.invVv (as := [.inr 2]) (st := []) (r := 56) hC (met6_become (by decide) (by decide) hq11) yv_X6_become ml_RX5_134 sh_29 rfl rfl dX5_findWhere_53 (by decide) rfl rfl rfl rfl ?_
          refine V.aload_n (r := 57) hC 0 dX5_findWhere_56 rfl rfl ?_
          refine V.getR (k' := 29) (j := 2) (r := 60) hC xcl_5 sh_1 fl_RX5_25 dX5_findWhere_57 (by decide) rfl rfl ?_
          refine V.getR (k' := 38) (j := 2) (r := 63) hC xcl_6 sh_29 fl_RX5_92 dX5_findWhere_60 (by decide) rfl rfl ?_
          refine V.getR (k' := 40) (j := 1) (r := 66) hC xcl_1 sh_38 fl_RX5_148 dX5_findWhere_63 (by decide) rfl rfl ?_
          refine V.iload_n (r := 67) hC 1 dX5_findWhere_66 rfl rfl ?_
          refine V.iload (r := 69) hC 4 dX5_findWhere_67 rfl rfl ?_
          by_cases c12 : x1 < 0 ∨ 6 ≤ x1.toNatClampNeg
          · rw [if_pos c12] at h; cases h
          rw [if_neg c12] at h
          rw [mset_eq] at h
          refine V.iast (t := (274 + x1.toNatClampNeg)) (r := 70) hC sh_40 dX5_findWhere_69 c12 rfl rfl ?_
          generalize upM q10 1 (274 + x1.toNatClampNeg) x4 = M13 at h ⊢
          refine V.aload_n (r := 71) hC 0 dX5_findWhere_70 rfl rfl ?_
          refine V.getR (k' := 20) (j := 1) (r := 74) hC xcl_5 sh_1 fl_RX5_21 dX5_findWhere_71 (by decide) rfl rfl ?_
          refine V.aload_n (r := 75) hC 0 dX5_findWhere_74 rfl rfl ?_
          refine V.getR (k' := 29) (j := 2) (r := 78) hC xcl_5 sh_1 fl_RX5_25 dX5_findWhere_75 (by decide) rfl rfl ?_
          refine V.iload_n (r := 79) hC 2 dX5_findWhere_78 rfl rfl ?_
          obtain ⟨q14, hq15, h⟩ := Option.bind_eq_some_iff.mp h
          try dsimp only at h
          refine V.invVi (as := [.inr 29, .inl x2]) (st := []) (r := 82) hC (met0_passHours (by decide) hq15) yv_X0_passHours ml_RX5_88 sh_20 rfl rfl dX5_findWhere_79 (by decide) rfl rfl rfl rfl ?_
          refine V.pop (r := 83) hC dX5_findWhere_82 rfl ?_
          refine V.aload_n (r := 84) hC 0 dX5_findWhere_83 rfl rfl ?_
          refine V.getR (k' := 29) (j := 2) (r := 87) hC xcl_5 sh_1 fl_RX5_25 dX5_findWhere_84 (by decide) rfl rfl ?_
          refine V.getR (k' := 38) (j := 2) (r := 90) hC xcl_6 sh_29 fl_RX5_92 dX5_findWhere_87 (by decide) rfl rfl ?_
          refine V.iload_n (r := 91) hC 1 dX5_findWhere_90 rfl rfl ?_
          obtain ⟨q16, hq17, h⟩ := Option.bind_eq_some_iff.mp h
          try dsimp only at h
          refine V.invVi (as := [.inl x1]) (st := []) (r := 94) hC (met1_isOn (by decide) hq17) yv_X1_isOn ml_RX5_145 sh_38 rfl rfl dX5_findWhere_91 (by decide) rfl rfl rfl rfl ?_
          refine V.if_eq (tgt := 119) (r := 97) hC dX5_findWhere_94 (by decide) rfl (fun c18 => ?_) (fun c18 => ?_)
          · rw [if_pos c18] at h
            exact v5_findWhere_b119  hC hR ih _ _ _ _ _ h
          · rw [if_neg c18] at h
            refine V.aload_n (r := 98) hC 0 dX5_findWhere_97 rfl rfl ?_
            refine V.getR (k' := 29) (j := 2) (r := 101) hC xcl_5 sh_1 fl_RX5_25 dX5_findWhere_98 (by decide) rfl rfl ?_
            refine V.getR (k' := 38) (j := 2) (r := 104) hC xcl_6 sh_29 fl_RX5_92 dX5_findWhere_101 (by decide) rfl rfl ?_
            refine V.getR (k' := 40) (j := 1) (r := 107) hC xcl_1 sh_38 fl_RX5_148 dX5_findWhere_104 (by decide) rfl rfl ?_
            refine V.iload_n (r := 108) hC 1 dX5_findWhere_107 rfl rfl ?_
            refine V.iald (t := (274 + x1.toNatClampNeg)) (r := 109) hC sh_40 dX5_findWhere_108 c12 rfl rfl ?_
            refine V.iload_n (r := 110) hC 3 dX5_findWhere_109 rfl rfl ?_
            refine V.icmp_ne (tgt := 119) (r := 113) hC dX5_findWhere_110 (by decide) rfl (fun c19 => ?_) (fun c19 => ?_)
            · rw [if_neg c19] at h
              exact v5_findWhere_b119  hC hR ih _ _ _ _ _ h
            · rw [if_pos c19] at h
              refine V.aload_n (r := 114) hC 0 dX5_findWhere_113 rfl rfl ?_
              refine V.iload (r := 116) hC 4 dX5_findWhere_114 rfl rfl ?_
              obtain ⟨q20, hq21, h⟩ := Option.bind_eq_some_iff.mp h
              try dsimp only at h
              refine V.invVv (as := [.inl x4]) (st := []) (r := 119) hC (met5_found hq21) yv_X5_found ml_RX5_119 sh_1 rfl rfl dX5_findWhere_116 (by decide) rfl rfl rfl rfl ?_
              exact v5_findWhere_b119  hC hR ih _ _ _ _ _ h
        · rw [if_pos c9] at h
          refine V.goto (tgt := 119) hC dX5_findWhere_42 (by decide) ?_
          exact v5_findWhere_b119  hC hR ih _ _ _ _ _ h
def g5_findWhere (a0 a1 a2 : Int32) (M : xMem) : Option (xMem) :=
Option.bind (g5_clearFound M) fun q1 =>
g5_findWhere_b7 5000 a0 a1 a2 (0 : Int32) q1
set_option maxHeartbeats 4000000 in
set_option maxRecDepth 20000 in
theorem v5_findWhere {G : xG} (hC : xC G cX5_findWhere 5 RX5 7) {R : xMem} (hR : xRV G cX5_findWhere 5 R) {a0 a1 a2 : Int32} {M : xMem} (h : g5_findWhere a0 a1 a2 M = some R) : V G 5 0 [(0, .inr 1), (1, .inl a0), (2, .inl a1), (3, .inl a2)] [] M := by
  unfold g5_findWhere at h
  refine V.aload_n (r := 1) hC 0 dX5_findWhere_0 rfl rfl ?_
  obtain ⟨q1, hq2, h⟩ := Option.bind_eq_some_iff.mp h
  try dsimp only at h
  refine V.invVv (as := []) (st := []) (r := 4) hC (met5_clearFound hq2) yv_X5_clearFound ml_RX5_108 sh_1 rfl rfl dX5_findWhere_1 (by decide) rfl rfl rfl rfl ?_
  refine V.iconst (r := 5) hC dX5_findWhere_4 ki_0 rfl ?_
  refine V.ist (lv' := [(0, .inr 1), (1, .inl a0), (2, .inl a1), (3, .inl a2), (4, .inl (0 : Int32))]) (r := 7) hC dX5_findWhere_5 rfl rfl rfl ?_
  exact v5_findWhere_b7  hC hR  5000 _ _ _ _ _ h
theorem met5_findWhere {R : xMem} {a0 a1 a2 : Int32} {M : xMem} (h : g5_findWhere a0 a1 a2 M = some R) : xMet yX5_findWhere cX5_findWhere 5 none 7 [.inr 1, .inl a0, .inl a1, .inl a2] M none R := xMet.ofV (by decide +kernel) (Nat.le_of_ble_eq_true rfl) fun _ hC hR => v5_findWhere  hC hR h
def g5_countDraws (a0 a1 : Int32) (M : xMem) : Option (Int32 × xMem) :=
Option.bind (g6_become 2 0 M) fun q1 =>
Option.bind (g5_countBehind_rec 10 (0 : Int32) a0 a1 q1) fun q3 =>
some (q3.1, q3.2)
set_option maxHeartbeats 4000000 in
set_option maxRecDepth 20000 in
theorem v5_countDraws {G : xG} (hC : xC G cX5_countDraws 3 RX5 25) {R : Int32 × xMem} (hR : xRI G cX5_countDraws 3 R) {a0 a1 : Int32} {M : xMem} (h : g5_countDraws a0 a1 M = some R) : V G 3 0 [(0, .inr 1), (1, .inl a0), (2, .inl a1)] [] M := by
  unfold g5_countDraws at h
  refine V.aload_n (r := 1) hC 0 dX5_countDraws_0 rfl rfl ?_
  refine V.getR (k' := 47) (j := 3) (r := 4) hC xcl_5 sh_1 fl_RX5_28 dX5_countDraws_1 (by decide) rfl rfl ?_
  refine V.iconst (r := 5) hC dX5_countDraws_4 ki_0 rfl ?_
  refine V.aald (k' := 48) (r := 6) hC sh_47 dX5_countDraws_5 (by decide) rfl rfl ?_
  refine V.aload_n (r := 7) hC 0 dX5_countDraws_6 rfl rfl ?_
  refine V.getR (k' := 2) (j := 0) (r := 10) hC xcl_5 sh_1 fl_RX5_12 dX5_countDraws_7 (by decide) rfl rfl ?_
  obtain ⟨q1, hq2, h⟩ := Option.bind_eq_some_iff.mp h
  try dsimp only at h
  refine V.invVv (as := [.inr 2]) (st := []) (r := 13) hC (met6_become (by decide) (by decide) hq2) yv_X6_become ml_RX5_134 sh_48 rfl rfl dX5_countDraws_10 (by decide) rfl rfl rfl rfl ?_
  refine V.aload_n (r := 14) hC 0 dX5_countDraws_13 rfl rfl ?_
  refine V.iconst (r := 15) hC dX5_countDraws_14 ki_0 rfl ?_
  refine V.iload_n (r := 16) hC 1 dX5_countDraws_15 rfl rfl ?_
  refine V.iload_n (r := 17) hC 2 dX5_countDraws_16 rfl rfl ?_
  obtain ⟨q3, hq4, h⟩ := Option.bind_eq_some_iff.mp h
  try dsimp only at h
  refine V.invVi (as := [.inl (0 : Int32), .inl a0, .inl a1]) (st := []) (r := 20) hC (met5_countBehind_rec 10 22 rfl _ _ _ _ _ hq4) yv_X5_countBehind ml_RX5_184 sh_1 rfl rfl dX5_countDraws_17 (by decide) rfl rfl rfl rfl ?_
  cases h
  exact hR _ _ dX5_countDraws_20
theorem met5_countDraws {R : Int32 × xMem} {a0 a1 : Int32} {M : xMem} (h : g5_countDraws a0 a1 M = some R) : xMet yX5_countDraws cX5_countDraws 3 (some .int) 25 [.inr 1, .inl a0, .inl a1] M (some R.1) R.2 := xMet.ofI (by decide +kernel) (Nat.le_of_ble_eq_true rfl) fun _ hC hR => v5_countDraws  hC hR h
