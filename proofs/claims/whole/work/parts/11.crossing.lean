-- 11.crossing
def gJ7_fill_53178_28_b5 : Nat → Int32 → Int32 → Int32 → xMem → Option (xMem)
  | 0, _, _, _, _ => none
  | n + 1, x1, x2, x3, M => 
    (if x3 ≤ x2 then
    (some M)
    else
    (if x2 < 0 ∨ 15 ≤ x2.toNatClampNeg then none else
    mset (upM M 101 x2.toNatClampNeg x1) fun M3 =>
    gJ7_fill_53178_28_b5 n x1 (x2 + (1 : Int32)) x3 M3))
set_option maxHeartbeats 4000000 in
set_option maxRecDepth 20000 in
theorem vJ7_fill_53178_28_b5 {G : xG} (hC : xC G cJ7_fill_53178 4 RJ7 0) {R : xMem} (hR : xRV G cJ7_fill_53178 4 R) : ∀ (n : Nat) (x1 x2 x3 : Int32) (M : xMem), gJ7_fill_53178_28_b5 n x1 x2 x3 M = some R → V G 4 5 [(0, .inr 28), (1, .inl x1), (2, .inl x2), (3, .inl x3)] [] M := by
  intro n
  induction n with
  | zero => intro x1 x2 x3 M h; rw [gJ7_fill_53178_28_b5] at h; cases h
  | succ n ih =>
    intro x1 x2 x3 M h
    rw [gJ7_fill_53178_28_b5] at h
    refine V.iload_n (r := 6) hC 2 dJ7_fill_53178_5 rfl rfl ?_
    refine V.iload_n (r := 7) hC 3 dJ7_fill_53178_6 rfl rfl ?_
    refine V.icmp_ge (tgt := 20) (r := 10) hC dJ7_fill_53178_7 (by decide) rfl (fun c1 => ?_) (fun c1 => ?_)
    · rw [if_pos c1] at h
      cases h
      exact hR _ _ dJ7_fill_53178_20
    · rw [if_neg c1] at h
      refine V.aload_n (r := 11) hC 0 dJ7_fill_53178_10 rfl rfl ?_
      refine V.iload_n (r := 12) hC 2 dJ7_fill_53178_11 rfl rfl ?_
      refine V.iload_n (r := 13) hC 1 dJ7_fill_53178_12 rfl rfl ?_
      by_cases c2 : x2 < 0 ∨ 15 ≤ x2.toNatClampNeg
      · rw [if_pos c2] at h; cases h
      rw [if_neg c2] at h
      rw [mset_eq] at h
      refine V.iast (t := x2.toNatClampNeg) (r := 14) hC sh_28 dJ7_fill_53178_13 c2 (Nat.zero_add _) rfl ?_
      generalize upM M 101 x2.toNatClampNeg x1 = M3 at h ⊢
      refine V.inc (lv' := [(0, .inr 28), (1, .inl x1), (2, .inl (x2 + (1 : Int32))), (3, .inl x3)]) (r := 17) hC 2 dJ7_fill_53178_14 rfl ki_1 rfl rfl rfl ?_
      refine V.goto (tgt := 5) hC dJ7_fill_53178_17 (by decide) ?_
      exact ih _ _ _ _ h
def gJ7_fill_53178_28 (a1 : Int32) (M : xMem) : Option (xMem) :=
gJ7_fill_53178_28_b5 5000 a1 (0 : Int32) (15 : Int32) M
set_option maxHeartbeats 4000000 in
set_option maxRecDepth 20000 in
theorem vJ7_fill_53178_28 {G : xG} (hC : xC G cJ7_fill_53178 4 RJ7 0) {R : xMem} (hR : xRV G cJ7_fill_53178 4 R) {a1 : Int32} {M : xMem} (h : gJ7_fill_53178_28 a1 M = some R) : V G 4 0 [(0, .inr 28), (1, .inl a1)] [] M := by
  unfold gJ7_fill_53178_28 at h
  refine V.iconst (r := 1) hC dJ7_fill_53178_0 ki_0 rfl ?_
  refine V.ist_n (lv' := [(0, .inr 28), (1, .inl a1), (2, .inl (0 : Int32))]) (r := 2) hC dJ7_fill_53178_1 rfl rfl rfl ?_
  refine V.aload_n (r := 3) hC 0 dJ7_fill_53178_2 rfl rfl ?_
  refine V.alen (v := (15 : Int32)) (r := 4) hC sh_28 (by decide) dJ7_fill_53178_3 (by decide) rfl ?_
  refine V.ist_n (lv' := [(0, .inr 28), (1, .inl a1), (2, .inl (0 : Int32)), (3, .inl (15 : Int32))]) (r := 5) hC dJ7_fill_53178_4 rfl rfl rfl ?_
  exact vJ7_fill_53178_28_b5  hC hR  5000 _ _ _ _ h
theorem metJ7_fill_53178_28 {R : xMem} {a1 : Int32} {M : xMem} (h : gJ7_fill_53178_28 a1 M = some R) : xMet yJ7_fill_53178 cJ7_fill_53178 4 none 0 [.inr 28, .inl a1] M none R := xMet.ofV (by decide +kernel) (Nat.le_of_ble_eq_true rfl) fun _ hC hR => vJ7_fill_53178_28  hC hR h
def g0_tellTime (p : Nat) (a1 : Int32) (M : xMem) : Option (xMem) :=
Option.bind (gJ7_fill_53178_28 (0 : Int32) M) fun q1 =>
mset (upM q1 101 0 a1) fun M3 =>
mset (upM M3 101 1 (M3 p 327)) fun M4 =>
some M4
set_option maxHeartbeats 4000000 in
set_option maxRecDepth 20000 in
theorem v0_tellTime {G : xG} {p : Nat} (hp : p < 7) (hC : xC G cX0_tellTime 3 RX0 1) {R : xMem} (hR : xRV G cX0_tellTime 3 R) {a1 : Int32} {M : xMem} (h : g0_tellTime p a1 M = some R) : V G 3 0 [(0, .inr 20), (1, .inr (plc p + 0)), (2, .inl a1)] [] M := by
  unfold g0_tellTime at h
  refine V.aload_n (r := 1) hC 0 dX0_tellTime_0 rfl rfl ?_
  refine V.getR (k' := 28) (j := 1) (r := 4) hC xcl_0 sh_20 fl_RX0_18 dX0_tellTime_1 (by decide) rfl rfl ?_
  refine V.iconst (r := 5) hC dX0_tellTime_4 ki_0 rfl ?_
  obtain ⟨q1, hq2, h⟩ := Option.bind_eq_some_iff.mp h
  try dsimp only at h
  refine V.invSv (as := [.inr 28, .inl (0 : Int32)]) (st := []) (r := 8) hC (metJ7_fill_53178_28 hq2) ys_J7_fill_53178 ml_RX0_166 dX0_tellTime_5 (by decide) rfl rfl rfl rfl ?_
  refine V.aload_n (r := 9) hC 0 dX0_tellTime_8 rfl rfl ?_
  refine V.getR (k' := 28) (j := 1) (r := 12) hC xcl_0 sh_20 fl_RX0_18 dX0_tellTime_9 (by decide) rfl rfl ?_
  refine V.iconst (r := 13) hC dX0_tellTime_12 ki_0 rfl ?_
  refine V.iload_n (r := 14) hC 2 dX0_tellTime_13 rfl rfl ?_
  rw [mset_eq] at h
  refine V.iast (t := 0) (r := 15) hC sh_28 dX0_tellTime_14 (by decide) (by decide) rfl ?_
  generalize upM q1 101 0 a1 = M3 at h ⊢
  refine V.aload_n (r := 16) hC 0 dX0_tellTime_15 rfl rfl ?_
  refine V.getR (k' := 28) (j := 1) (r := 19) hC xcl_0 sh_20 fl_RX0_18 dX0_tellTime_16 (by decide) rfl rfl ?_
  refine V.iconst (r := 20) hC dX0_tellTime_19 ki_1 rfl ?_
  refine V.aload_n (r := 21) hC 1 dX0_tellTime_20 rfl rfl ?_
  refine V.getI (b := p) (i := 327) (j := 5) (r := 24) hC xcl_6 (shp_0 _ hp) fl_RX0_172 dX0_tellTime_21 (by decide) rfl rfl ?_
  rw [mset_eq] at h
  refine V.iast (t := 1) (r := 25) hC sh_28 dX0_tellTime_24 (by decide) (by decide) rfl ?_
  generalize upM M3 101 1 (M3 p 327) = M4 at h ⊢
  cases h
  exact hR _ _ dX0_tellTime_25
theorem met0_tellTime {p : Nat} (hp : p < 7) {R : xMem} {a1 : Int32} {M : xMem} (h : g0_tellTime p a1 M = some R) : xMet yX0_tellTime cX0_tellTime 3 none 1 [.inr 20, .inr (plc p + 0), .inl a1] M none R := xMet.ofV (by decide +kernel) (Nat.le_of_ble_eq_true rfl) fun _ hC hR => v0_tellTime hp hC hR h
def g0_tellHerd_b125 (p : Nat) (x3 s1 s2 : Int32) (M : xMem) : Option (xMem) :=
if s1 < 0 ∨ 15 ≤ s1.toNatClampNeg then none else
mset (upM M 101 s1.toNatClampNeg s2) fun M17 =>
mset (upM M17 101 10 x3) fun M18 =>
some M18
set_option maxHeartbeats 4000000 in
set_option maxRecDepth 20000 in
theorem v0_tellHerd_b125 {G : xG} {p : Nat} (hp : p < 7) (hC : xC G cX0_tellHerd 6 RX0 2) {R : xMem} (hR : xRV G cX0_tellHerd 6 R) (x3 s1 s2 : Int32) (M : xMem) (h : g0_tellHerd_b125 p x3 s1 s2 M = some R) : V G 6 125 [(0, .inr 20), (3, .inl x3)] [.inl s2, .inl s1, .inr 28] M := by
  unfold g0_tellHerd_b125 at h
  by_cases c16 : s1 < 0 ∨ 15 ≤ s1.toNatClampNeg
  · rw [if_pos c16] at h; cases h
  rw [if_neg c16] at h
  rw [mset_eq] at h
  refine V.iast (t := s1.toNatClampNeg) (r := 126) hC sh_28 dX0_tellHerd_125 c16 (Nat.zero_add _) rfl ?_
  generalize upM M 101 s1.toNatClampNeg s2 = M17 at h ⊢
  refine V.aload_n (r := 127) hC 0 dX0_tellHerd_126 rfl rfl ?_
  refine V.getR (k' := 28) (j := 1) (r := 130) hC xcl_0 sh_20 fl_RX0_18 dX0_tellHerd_127 (by decide) rfl rfl ?_
  refine V.bipush (r := 132) hC dX0_tellHerd_130 kb_10 rfl ?_
  refine V.iload_n (r := 133) hC 1 dX0_tellHerd_132 rfl rfl ?_
  rw [mset_eq] at h
  refine V.iast (t := 10) (r := 134) hC sh_28 dX0_tellHerd_133 (by decide) (by decide) rfl ?_
  generalize upM M17 101 10 x3 = M18 at h ⊢
  cases h
  exact hR _ _ dX0_tellHerd_134
def g0_tellHerd (p : Nat) (a1 a2 : Int32) (M : xMem) : Option (xMem) :=
if a1 < 0 ∨ 6 ≤ a1.toNatClampNeg then none else
Option.bind (g0_tellTime p (M p 328) M) fun q2 =>
mset (upM q2 101 2 a1) fun M4 =>
mset (upM M4 101 3 (M4 p (280 + a1.toNatClampNeg))) fun M5 =>
mset (upM M5 101 4 (M5 p (286 + a1.toNatClampNeg))) fun M6 =>
mset (upM M6 101 5 (M6 p (292 + a1.toNatClampNeg))) fun M7 =>
mset (upM M7 101 6 ((M p (274 + a1.toNatClampNeg)) - (M p (274 + a1.toNatClampNeg)) / (14 : Int32) * (14 : Int32))) fun M8 =>
mset (upM M8 101 7 ((M p (274 + a1.toNatClampNeg)) / (14 : Int32))) fun M9 =>
Option.bind (g6_sortAt p (M p (274 + a1.toNatClampNeg)) M9) fun q10 =>
mset (upM q10.2 101 8 (q10.1)) fun M12 =>
Option.bind (g6_isClouded p M12) fun q13 =>
if (q13.1) = 0 then
(g0_tellHerd_b125 p a2 (9 : Int32) (0 : Int32) q13.2)
else
(g0_tellHerd_b125 p a2 (9 : Int32) (1 : Int32) q13.2)
set_option maxHeartbeats 4000000 in
set_option maxRecDepth 20000 in
theorem v0_tellHerd {G : xG} {p : Nat} (hp : p < 7) (hC : xC G cX0_tellHerd 6 RX0 2) {R : xMem} (hR : xRV G cX0_tellHerd 6 R) {a1 a2 : Int32} {M : xMem} (h : g0_tellHerd p a1 a2 M = some R) : V G 6 0 [(0, .inr 20), (1, .inr (plc p + 0)), (2, .inl a1), (3, .inl a2)] [] M := by
  unfold g0_tellHerd at h
  refine V.aload_n (r := 1) hC 1 dX0_tellHerd_0 rfl rfl ?_
  refine V.getR (k' := plc p + 9) (j := 2) (r := 4) hC xcl_6 (shp_0 _ hp) fl_RX0_36 dX0_tellHerd_1 (by decide) rfl rfl ?_
  refine V.ast (lv' := [(0, .inr 20), (1, .inr (plc p + 0)), (2, .inl a1), (3, .inl a2), (4, .inr (plc p + 9))]) (r := 6) hC dX0_tellHerd_4 rfl rfl rfl ?_
  refine V.aload (r := 8) hC 4 dX0_tellHerd_6 rfl rfl ?_
  refine V.getR (k' := plc p + 11) (j := 1) (r := 11) hC xcl_1 (shp_9 _ hp) fl_RX0_78 dX0_tellHerd_8 (by decide) rfl rfl ?_
  refine V.iload_n (r := 12) hC 2 dX0_tellHerd_11 rfl rfl ?_
  by_cases c1 : a1 < 0 ∨ 6 ≤ a1.toNatClampNeg
  · rw [if_pos c1] at h; cases h
  rw [if_neg c1] at h
  refine V.iald (t := (274 + a1.toNatClampNeg)) (r := 13) hC (shp_11 _ hp) dX0_tellHerd_12 c1 rfl rfl ?_
  refine V.ist (lv' := [(0, .inr 20), (1, .inr (plc p + 0)), (2, .inl a1), (3, .inl a2), (4, .inr (plc p + 9)), (5, .inl (M p (274 + a1.toNatClampNeg)))]) (r := 15) hC dX0_tellHerd_13 rfl rfl rfl ?_
  refine V.aload_n (r := 16) hC 0 dX0_tellHerd_15 rfl rfl ?_
  refine V.aload_n (r := 17) hC 1 dX0_tellHerd_16 rfl rfl ?_
  refine V.aload_n (r := 18) hC 1 dX0_tellHerd_17 rfl rfl ?_
  refine V.getI (b := p) (i := 328) (j := 6) (r := 21) hC xcl_6 (shp_0 _ hp) fl_RX0_148 dX0_tellHerd_18 (by decide) rfl rfl ?_
  obtain ⟨q2, hq3, h⟩ := Option.bind_eq_some_iff.mp h
  try dsimp only at h
  refine V.invVv (as := [.inr (plc p + 0), .inl (M p 328)]) (st := []) (r := 24) hC (met0_tellTime hp hq3) yv_X0_tellTime ml_RX0_151 sh_20 rfl rfl dX0_tellHerd_21 (by decide) rfl rfl rfl rfl ?_
  refine V.aload_n (r := 25) hC 0 dX0_tellHerd_24 rfl rfl ?_
  refine V.getR (k' := 28) (j := 1) (r := 28) hC xcl_0 sh_20 fl_RX0_18 dX0_tellHerd_25 (by decide) rfl rfl ?_
  refine V.iconst (r := 29) hC dX0_tellHerd_28 ki_2 rfl ?_
  refine V.iload_n (r := 30) hC 2 dX0_tellHerd_29 rfl rfl ?_
  rw [mset_eq] at h
  refine V.iast (t := 2) (r := 31) hC sh_28 dX0_tellHerd_30 (by decide) (by decide) rfl ?_
  generalize upM q2 101 2 a1 = M4 at h ⊢
  refine V.aload_n (r := 32) hC 0 dX0_tellHerd_31 rfl rfl ?_
  refine V.getR (k' := 28) (j := 1) (r := 35) hC xcl_0 sh_20 fl_RX0_18 dX0_tellHerd_32 (by decide) rfl rfl ?_
  refine V.iconst (r := 36) hC dX0_tellHerd_35 ki_3 rfl ?_
  refine V.aload (r := 38) hC 4 dX0_tellHerd_36 rfl rfl ?_
  refine V.getR (k' := plc p + 12) (j := 2) (r := 41) hC xcl_1 (shp_9 _ hp) fl_RX0_103 dX0_tellHerd_38 (by decide) rfl rfl ?_
  refine V.iload_n (r := 42) hC 2 dX0_tellHerd_41 rfl rfl ?_
  refine V.iald (t := (280 + a1.toNatClampNeg)) (r := 43) hC (shp_12 _ hp) dX0_tellHerd_42 c1 rfl rfl ?_
  rw [mset_eq] at h
  refine V.iast (t := 3) (r := 44) hC sh_28 dX0_tellHerd_43 (by decide) (by decide) rfl ?_
  generalize upM M4 101 3 (M4 p (280 + a1.toNatClampNeg)) = M5 at h ⊢
  refine V.aload_n (r := 45) hC 0 dX0_tellHerd_44 rfl rfl ?_
  refine V.getR (k' := 28) (j := 1) (r := 48) hC xcl_0 sh_20 fl_RX0_18 dX0_tellHerd_45 (by decide) rfl rfl ?_
  refine V.iconst (r := 49) hC dX0_tellHerd_48 ki_4 rfl ?_
  refine V.aload (r := 51) hC 4 dX0_tellHerd_49 rfl rfl ?_
  refine V.getR (k' := plc p + 13) (j := 3) (r := 54) hC xcl_1 (shp_9 _ hp) fl_RX0_88 dX0_tellHerd_51 (by decide) rfl rfl ?_
  refine V.iload_n (r := 55) hC 2 dX0_tellHerd_54 rfl rfl ?_
  refine V.iald (t := (286 + a1.toNatClampNeg)) (r := 56) hC (shp_13 _ hp) dX0_tellHerd_55 c1 rfl rfl ?_
  rw [mset_eq] at h
  refine V.iast (t := 4) (r := 57) hC sh_28 dX0_tellHerd_56 (by decide) (by decide) rfl ?_
  generalize upM M5 101 4 (M5 p (286 + a1.toNatClampNeg)) = M6 at h ⊢
  refine V.aload_n (r := 58) hC 0 dX0_tellHerd_57 rfl rfl ?_
  refine V.getR (k' := 28) (j := 1) (r := 61) hC xcl_0 sh_20 fl_RX0_18 dX0_tellHerd_58 (by decide) rfl rfl ?_
  refine V.iconst (r := 62) hC dX0_tellHerd_61 ki_5 rfl ?_
  refine V.aload (r := 64) hC 4 dX0_tellHerd_62 rfl rfl ?_
  refine V.getR (k' := plc p + 14) (j := 4) (r := 67) hC xcl_1 (shp_9 _ hp) fl_RX0_56 dX0_tellHerd_64 (by decide) rfl rfl ?_
  refine V.iload_n (r := 68) hC 2 dX0_tellHerd_67 rfl rfl ?_
  refine V.iald (t := (292 + a1.toNatClampNeg)) (r := 69) hC (shp_14 _ hp) dX0_tellHerd_68 c1 rfl rfl ?_
  rw [mset_eq] at h
  refine V.iast (t := 5) (r := 70) hC sh_28 dX0_tellHerd_69 (by decide) (by decide) rfl ?_
  generalize upM M6 101 5 (M6 p (292 + a1.toNatClampNeg)) = M7 at h ⊢
  refine V.aload_n (r := 71) hC 0 dX0_tellHerd_70 rfl rfl ?_
  refine V.getR (k' := 28) (j := 1) (r := 74) hC xcl_0 sh_20 fl_RX0_18 dX0_tellHerd_71 (by decide) rfl rfl ?_
  refine V.bipush (r := 76) hC dX0_tellHerd_74 kb_6 rfl ?_
  refine V.iload (r := 78) hC 5 dX0_tellHerd_76 rfl rfl ?_
  refine V.bipush (r := 80) hC dX0_tellHerd_78 kb_14 rfl ?_
  refine V.irem (r := 81) hC dX0_tellHerd_80 (by decide) rfl ?_
  rw [mset_eq] at h
  refine V.iast (t := 6) (r := 82) hC sh_28 dX0_tellHerd_81 (by decide) (by decide) rfl ?_
  generalize upM M7 101 6 ((M p (274 + a1.toNatClampNeg)) - (M p (274 + a1.toNatClampNeg)) / (14 : Int32) * (14 : Int32)) = M8 at h ⊢
  refine V.aload_n (r := 83) hC 0 dX0_tellHerd_82 rfl rfl ?_
  refine V.getR (k' := 28) (j := 1) (r := 86) hC xcl_0 sh_20 fl_RX0_18 dX0_tellHerd_83 (by decide) rfl rfl ?_
  refine V.bipush (r := 88) hC dX0_tellHerd_86 kb_7 rfl ?_
  refine V.iload (r := 90) hC 5 dX0_tellHerd_88 rfl rfl ?_
  refine V.bipush (r := 92) hC dX0_tellHerd_90 kb_14 rfl ?_
  refine V.idiv (r := 93) hC dX0_tellHerd_92 (by decide) rfl ?_
  rw [mset_eq] at h
  refine V.iast (t := 7) (r := 94) hC sh_28 dX0_tellHerd_93 (by decide) (by decide) rfl ?_
  generalize upM M8 101 7 ((M p (274 + a1.toNatClampNeg)) / (14 : Int32)) = M9 at h ⊢
  refine V.aload_n (r := 95) hC 0 dX0_tellHerd_94 rfl rfl ?_
  refine V.getR (k' := 28) (j := 1) (r := 98) hC xcl_0 sh_20 fl_RX0_18 dX0_tellHerd_95 (by decide) rfl rfl ?_
  refine V.bipush (r := 100) hC dX0_tellHerd_98 kb_8 rfl ?_
  refine V.aload_n (r := 101) hC 1 dX0_tellHerd_100 rfl rfl ?_
  refine V.iload (r := 103) hC 5 dX0_tellHerd_101 rfl rfl ?_
  obtain ⟨q10, hq11, h⟩ := Option.bind_eq_some_iff.mp h
  try dsimp only at h
  refine V.invVi (as := [.inl (M p (274 + a1.toNatClampNeg))]) (st := [.inl (8 : Int32), .inr 28]) (r := 106) hC (met6_sortAt hp hq11) yv_X6_sortAt ml_RX0_81 (shp_0 _ hp) rfl rfl dX0_tellHerd_103 (by decide) rfl rfl rfl rfl ?_
  rw [mset_eq] at h
  refine V.iast (t := 8) (r := 107) hC sh_28 dX0_tellHerd_106 (by decide) (by decide) rfl ?_
  generalize upM q10.2 101 8 (q10.1) = M12 at h ⊢
  refine V.aload_n (r := 108) hC 0 dX0_tellHerd_107 rfl rfl ?_
  refine V.getR (k' := 28) (j := 1) (r := 111) hC xcl_0 sh_20 fl_RX0_18 dX0_tellHerd_108 (by decide) rfl rfl ?_
  refine V.bipush (r := 113) hC dX0_tellHerd_111 kb_9 rfl ?_
  refine V.aload_n (r := 114) hC 1 dX0_tellHerd_113 rfl rfl ?_
  obtain ⟨q13, hq14, h⟩ := Option.bind_eq_some_iff.mp h
  try dsimp only at h
  refine V.invVi (as := []) (st := [.inl (9 : Int32), .inr 28]) (r := 117) hC (met6_isClouded hp hq14) yv_X6_isClouded ml_RX0_128 (shp_0 _ hp) rfl rfl dX0_tellHerd_114 (by decide) rfl rfl rfl rfl ?_
  refine V.if_eq (tgt := 124) (r := 120) hC dX0_tellHerd_117 (by decide) rfl (fun c15 => ?_) (fun c15 => ?_)
  · rw [if_pos c15] at h
    refine V.iconst (r := 125) hC dX0_tellHerd_124 ki_0 rfl ?_
    refine V.pick (lv' := [(0, .inr 20), (3, .inl a2)]) [0, 3] rfl ?_
    exact v0_tellHerd_b125 hp hC hR  _ _ _ _ h
  · rw [if_neg c15] at h
    refine V.iconst (r := 121) hC dX0_tellHerd_120 ki_1 rfl ?_
    refine V.goto (tgt := 125) hC dX0_tellHerd_121 (by decide) ?_
    refine V.pick (lv' := [(0, .inr 20), (3, .inl a2)]) [0, 3] rfl ?_
    exact v0_tellHerd_b125 hp hC hR  _ _ _ _ h
theorem met0_tellHerd {p : Nat} (hp : p < 7) {R : xMem} {a1 a2 : Int32} {M : xMem} (h : g0_tellHerd p a1 a2 M = some R) : xMet yX0_tellHerd cX0_tellHerd 6 none 2 [.inr 20, .inr (plc p + 0), .inl a1, .inl a2] M none R := xMet.ofV (by decide +kernel) (Nat.le_of_ble_eq_true rfl) fun _ hC hR => v0_tellHerd hp hC hR h
def g0_tellLamp (p : Nat) (a1 a2 : Int32) (M : xMem) : Option (xMem) :=
if a1 < 0 ∨ 6 ≤ a1.toNatClampNeg then none else
Option.bind (g6_squareOfLamp p a2 M) fun q2 =>
mset (upM q2.2 101 11 a2) fun M4 =>
Option.bind (g6_kindOfLamp p a2 M4) fun q5 =>
mset (upM q5.2 101 12 (q5.1)) fun M7 =>
mset (upM M7 101 13 ((xAbs (((q2.1) - (q2.1) / (14 : Int32) * (14 : Int32)) - ((M p (274 + a1.toNatClampNeg)) - (M p (274 + a1.toNatClampNeg)) / (14 : Int32) * (14 : Int32)))) + (xAbs (((q2.1) / (14 : Int32)) - ((M p (274 + a1.toNatClampNeg)) / (14 : Int32)))))) fun M8 =>
some M8
set_option maxHeartbeats 4000000 in
set_option maxRecDepth 20000 in
theorem v0_tellLamp {G : xG} {p : Nat} (hp : p < 7) (hC : xC G cX0_tellLamp 6 RX0 1) {R : xMem} (hR : xRV G cX0_tellLamp 6 R) {a1 a2 : Int32} {M : xMem} (h : g0_tellLamp p a1 a2 M = some R) : V G 6 0 [(0, .inr 20), (1, .inr (plc p + 0)), (2, .inl a1), (3, .inl a2)] [] M := by
  unfold g0_tellLamp at h
  refine V.aload_n (r := 1) hC 1 dX0_tellLamp_0 rfl rfl ?_
  refine V.getR (k' := plc p + 9) (j := 2) (r := 4) hC xcl_6 (shp_0 _ hp) fl_RX0_36 dX0_tellLamp_1 (by decide) rfl rfl ?_
  refine V.getR (k' := plc p + 11) (j := 1) (r := 7) hC xcl_1 (shp_9 _ hp) fl_RX0_78 dX0_tellLamp_4 (by decide) rfl rfl ?_
  refine V.iload_n (r := 8) hC 2 dX0_tellLamp_7 rfl rfl ?_
  by_cases c1 : a1 < 0 ∨ 6 ≤ a1.toNatClampNeg
  · rw [if_pos c1] at h; cases h
  rw [if_neg c1] at h
  refine V.iald (t := (274 + a1.toNatClampNeg)) (r := 9) hC (shp_11 _ hp) dX0_tellLamp_8 c1 rfl rfl ?_
  refine V.ist (lv' := [(0, .inr 20), (1, .inr (plc p + 0)), (2, .inl a1), (3, .inl a2), (4, .inl (M p (274 + a1.toNatClampNeg)))]) (r := 11) hC dX0_tellLamp_9 rfl rfl rfl ?_
  refine V.aload_n (r := 12) hC 1 dX0_tellLamp_11 rfl rfl ?_
  refine V.iload_n (r := 13) hC 3 dX0_tellLamp_12 rfl rfl ?_
  obtain ⟨q2, hq3, h⟩ := Option.bind_eq_some_iff.mp h
  try dsimp only at h
  refine V.invVi (as := [.inl a2]) (st := []) (r := 16) hC (met6_squareOfLamp hp hq3) yv_X6_squareOfLamp ml_RX0_67 (shp_0 _ hp) rfl rfl dX0_tellLamp_13 (by decide) rfl rfl rfl rfl ?_
  refine V.ist (lv' := [(0, .inr 20), (1, .inr (plc p + 0)), (2, .inl a1), (3, .inl a2), (4, .inl (M p (274 + a1.toNatClampNeg))), (5, .inl (q2.1))]) (r := 18) hC dX0_tellLamp_16 rfl rfl rfl ?_
  refine V.aload_n (r := 19) hC 0 dX0_tellLamp_18 rfl rfl ?_
  refine V.getR (k' := 28) (j := 1) (r := 22) hC xcl_0 sh_20 fl_RX0_18 dX0_tellLamp_19 (by decide) rfl rfl ?_
  refine V.bipush (r := 24) hC dX0_tellLamp_22 kb_11 rfl ?_
  refine V.iload_n (r := 25) hC 3 dX0_tellLamp_24 rfl rfl ?_
  rw [mset_eq] at h
  refine V.iast (t := 11) (r := 26) hC sh_28 dX0_tellLamp_25 (by decide) (by decide) rfl ?_
  generalize upM q2.2 101 11 a2 = M4 at h ⊢
  refine V.aload_n (r := 27) hC 0 dX0_tellLamp_26 rfl rfl ?_
  refine V.getR (k' := 28) (j := 1) (r := 30) hC xcl_0 sh_20 fl_RX0_18 dX0_tellLamp_27 (by decide) rfl rfl ?_
  refine V.bipush (r := 32) hC dX0_tellLamp_30 kb_12 rfl ?_
  refine V.aload_n (r := 33) hC 1 dX0_tellLamp_32 rfl rfl ?_
  refine V.iload_n (r := 34) hC 3 dX0_tellLamp_33 rfl rfl ?_
  obtain ⟨q5, hq6, h⟩ := Option.bind_eq_some_iff.mp h
  try dsimp only at h
  refine V.invVi (as := [.inl a2]) (st := [.inl (12 : Int32), .inr 28]) (r := 37) hC (met6_kindOfLamp hp hq6) yv_X6_kindOfLamp ml_RX0_154 (shp_0 _ hp) rfl rfl dX0_tellLamp_34 (by decide) rfl rfl rfl rfl ?_
  rw [mset_eq] at h
  refine V.iast (t := 12) (r := 38) hC sh_28 dX0_tellLamp_37 (by decide) (by decide) rfl ?_
  generalize upM q5.2 101 12 (q5.1) = M7 at h ⊢
  refine V.aload_n (r := 39) hC 0 dX0_tellLamp_38 rfl rfl ?_
  refine V.getR (k' := 28) (j := 1) (r := 42) hC xcl_0 sh_20 fl_RX0_18 dX0_tellLamp_39 (by decide) rfl rfl ?_
  refine V.bipush (r := 44) hC dX0_tellLamp_42 kb_13 rfl ?_
  refine V.iload (r := 46) hC 5 dX0_tellLamp_44 rfl rfl ?_
  refine V.bipush (r := 48) hC dX0_tellLamp_46 kb_14 rfl ?_
  refine V.irem (r := 49) hC dX0_tellLamp_48 (by decide) rfl ?_
  refine V.iload (r := 51) hC 4 dX0_tellLamp_49 rfl rfl ?_
  refine V.bipush (r := 53) hC dX0_tellLamp_51 kb_14 rfl ?_
  refine V.irem (r := 54) hC dX0_tellLamp_53 (by decide) rfl ?_
  refine V.isub (r := 55) hC dX0_tellLamp_54 rfl ?_
  refine V.mabs (r := 58) hC jw_RX0_121 (by decide) (Nat.le_of_ble_eq_true rfl) dX0_tellLamp_55 rfl ?_
  refine V.iload (r := 60) hC 5 dX0_tellLamp_58 rfl rfl ?_
  refine V.bipush (r := 62) hC dX0_tellLamp_60 kb_14 rfl ?_
  refine V.idiv (r := 63) hC dX0_tellLamp_62 (by decide) rfl ?_
  refine V.iload (r := 65) hC 4 dX0_tellLamp_63 rfl rfl ?_
  refine V.bipush (r := 67) hC dX0_tellLamp_65 kb_14 rfl ?_
  refine V.idiv (r := 68) hC dX0_tellLamp_67 (by decide) rfl ?_
  refine V.isub (r := 69) hC dX0_tellLamp_68 rfl ?_
  refine V.mabs (r := 72) hC jw_RX0_121 (by decide) (Nat.le_of_ble_eq_true rfl) dX0_tellLamp_69 rfl ?_
  refine V.iadd (r := 73) hC dX0_tellLamp_72 rfl ?_
  rw [mset_eq] at h
  refine V.iast (t := 13) (r := 74) hC sh_28 dX0_tellLamp_73 (by decide) (by decide) rfl ?_
  generalize upM M7 101 13 ((xAbs (((q2.1) - (q2.1) / (14 : Int32) * (14 : Int32)) - ((M p (274 + a1.toNatClampNeg)) - (M p (274 + a1.toNatClampNeg)) / (14 : Int32) * (14 : Int32)))) + (xAbs (((q2.1) / (14 : Int32)) - ((M p (274 + a1.toNatClampNeg)) / (14 : Int32))))) = M8 at h ⊢
  cases h
  exact hR _ _ dX0_tellLamp_74
theorem met0_tellLamp {p : Nat} (hp : p < 7) {R : xMem} {a1 a2 : Int32} {M : xMem} (h : g0_tellLamp p a1 a2 M = some R) : xMet yX0_tellLamp cX0_tellLamp 6 none 1 [.inr 20, .inr (plc p + 0), .inl a1, .inl a2] M none R := xMet.ofV (by decide +kernel) (Nat.le_of_ble_eq_true rfl) fun _ hC hR => v0_tellLamp hp hC hR h
def g0_goalOf_b135 (p : Nat) (k30 : Int32 → Int32 → Int32 → Int32 → Int32 → xMem → Option (Int32 × xMem)) (x2 x3 x4 x5 x6 : Int32) (M : xMem) : Option (Int32 × xMem) :=
k30 x2 x3 x4 x5 (x6 + (1 : Int32)) M
set_option maxHeartbeats 4000000 in
set_option maxRecDepth 20000 in
theorem v0_goalOf_b135 {G : xG} {p : Nat} (hp : p < 7) (hC : xC G cX0_goalOf 8 RX0 3) {R : Int32 × xMem} (hR : xRI G cX0_goalOf 8 R) {k30 : Int32 → Int32 → Int32 → Int32 → Int32 → xMem → Option (Int32 × xMem)} (hk30 : ∀ (y2 y3 y4 y5 y6 : Int32) (N : xMem), k30 y2 y3 y4 y5 y6 N = some R → V G 8 30 [(0, .inr 20), (1, .inr (plc p + 0)), (2, .inl y2), (3, .inl y3), (4, .inl y4), (5, .inl y5), (6, .inl y6)] [] N) (x2 x3 x4 x5 x6 : Int32) (M : xMem) (h : g0_goalOf_b135 p k30 x2 x3 x4 x5 x6 M = some R) : V G 8 135 [(0, .inr 20), (1, .inr (plc p + 0)), (2, .inl x2), (3, .inl x3), (4, .inl x4), (5, .inl x5), (6, .inl x6)] [] M := by
  unfold g0_goalOf_b135 at h
  refine V.inc (lv' := [(0, .inr 20), (1, .inr (plc p + 0)), (2, .inl x2), (3, .inl x3), (4, .inl x4), (5, .inl x5), (6, .inl (x6 + (1 : Int32)))]) (r := 138) hC 6 dX0_goalOf_135 rfl ki_1 rfl rfl rfl ?_
  refine V.goto (tgt := 30) hC dX0_goalOf_138 (by decide) ?_
  exact hk30 _ _ _ _ _ _ h
def g0_goalOf_b118 (p : Nat) (k30 : Int32 → Int32 → Int32 → Int32 → Int32 → xMem → Option (Int32 × xMem)) (x2 x3 x4 x5 x6 s0 : Int32) (M : xMem) : Option (Int32 × xMem) :=
if s0 ≤ x5 then
(g0_goalOf_b135 p k30 x2 x3 x4 x5 x6 M)
else
(g0_goalOf_b135 p k30 x2 x3 x6 s0 x6 M)
set_option maxHeartbeats 4000000 in
set_option maxRecDepth 20000 in
theorem v0_goalOf_b118 {G : xG} {p : Nat} (hp : p < 7) (hC : xC G cX0_goalOf 8 RX0 3) {R : Int32 × xMem} (hR : xRI G cX0_goalOf 8 R) {k30 : Int32 → Int32 → Int32 → Int32 → Int32 → xMem → Option (Int32 × xMem)} (hk30 : ∀ (y2 y3 y4 y5 y6 : Int32) (N : xMem), k30 y2 y3 y4 y5 y6 N = some R → V G 8 30 [(0, .inr 20), (1, .inr (plc p + 0)), (2, .inl y2), (3, .inl y3), (4, .inl y4), (5, .inl y5), (6, .inl y6)] [] N) (x2 x3 x4 x5 x6 s0 : Int32) (M : xMem) (h : g0_goalOf_b118 p k30 x2 x3 x4 x5 x6 s0 M = some R) : V G 8 118 [(0, .inr 20), (1, .inr (plc p + 0)), (2, .inl x2), (3, .inl x3), (4, .inl x4), (5, .inl x5), (6, .inl x6)] [.inl s0] M := by
  unfold g0_goalOf_b118 at h
  refine V.ist (lv' := [(0, .inr 20), (1, .inr (plc p + 0)), (2, .inl x2), (3, .inl x3), (4, .inl x4), (5, .inl x5), (6, .inl x6), (7, .inl s0)]) (r := 120) hC dX0_goalOf_118 rfl rfl rfl ?_
  refine V.iload (r := 122) hC 7 dX0_goalOf_120 rfl rfl ?_
  refine V.iload (r := 124) hC 5 dX0_goalOf_122 rfl rfl ?_
  refine V.icmp_le (tgt := 135) (r := 127) hC dX0_goalOf_124 (by decide) rfl (fun c20 => ?_) (fun c20 => ?_)
  · rw [if_pos c20] at h
    refine V.pick (lv' := [(0, .inr 20), (1, .inr (plc p + 0)), (2, .inl x2), (3, .inl x3), (4, .inl x4), (5, .inl x5), (6, .inl x6)]) [0, 1, 2, 3, 4, 5, 6] rfl ?_
    exact v0_goalOf_b135 hp hC hR hk30 _ _ _ _ _ _ h
  · rw [if_neg c20] at h
    refine V.iload (r := 129) hC 7 dX0_goalOf_127 rfl rfl ?_
    refine V.ist (lv' := [(0, .inr 20), (1, .inr (plc p + 0)), (2, .inl x2), (3, .inl x3), (4, .inl x4), (5, .inl s0), (6, .inl x6), (7, .inl s0)]) (r := 131) hC dX0_goalOf_129 rfl rfl rfl ?_
    refine V.iload (r := 133) hC 6 dX0_goalOf_131 rfl rfl ?_
    refine V.ist (lv' := [(0, .inr 20), (1, .inr (plc p + 0)), (2, .inl x2), (3, .inl x3), (4, .inl x6), (5, .inl s0), (6, .inl x6), (7, .inl s0)]) (r := 135) hC dX0_goalOf_133 rfl rfl rfl ?_
    refine V.pick (lv' := [(0, .inr 20), (1, .inr (plc p + 0)), (2, .inl x2), (3, .inl x3), (4, .inl x6), (5, .inl s0), (6, .inl x6)]) [0, 1, 2, 3, 4, 5, 6] rfl ?_
    exact v0_goalOf_b135 hp hC hR hk30 _ _ _ _ _ _ h
def g0_goalOf_b30 (p : Nat) : Nat → Int32 → Int32 → Int32 → Int32 → Int32 → xMem → Option (Int32 × xMem)
  | 0, _, _, _, _, _, _ => none
  | n + 1, x2, x3, x4, x5, x6, M => 
    (if (18 : Int32) ≤ x6 then
    (some (x4, M))
    else
    (if x6 = ((12 : Int32) + x2) then
    (g0_goalOf_b135 p (g0_goalOf_b30 p n) x2 x3 x4 x5 x6 M)
    else
    (Option.bind (g6_isThere p x6 M) fun q8 =>
    if (q8.1) = 0 then
    (g0_goalOf_b135 p (g0_goalOf_b30 p n) x2 x3 x4 x5 x6 q8.2)
    else
    (Option.bind (g0_tellLamp p x2 x6 q8.2) fun q11 =>
    if (q11 101 13) ≤ x3 then
    (mset (upM q11 102 0 ((q11 102 0) ||| ((1 : Int32) <<< (x6 &&& 31)))) fun M14 =>
    Option.bind (g6_isLit p x6 M14) fun q15 =>
    if (q15.1) = 0 then
    (g0_goalOf_b118 p (g0_goalOf_b30 p n) x2 x3 x4 x5 x6 (0 : Int32) q15.2)
    else
    (Option.bind (g3_ask (0 : Int32) q15.2) fun q18 =>
    g0_goalOf_b118 p (g0_goalOf_b30 p n) x2 x3 x4 x5 x6 (q18.1) q18.2))
    else
    (g0_goalOf_b135 p (g0_goalOf_b30 p n) x2 x3 x4 x5 x6 q11)))))
set_option maxHeartbeats 4000000 in
set_option maxRecDepth 20000 in
theorem v0_goalOf_b30 {G : xG} {p : Nat} (hp : p < 7) (hC : xC G cX0_goalOf 8 RX0 3) {R : Int32 × xMem} (hR : xRI G cX0_goalOf 8 R) : ∀ (n : Nat) (x2 x3 x4 x5 x6 : Int32) (M : xMem), g0_goalOf_b30 p n x2 x3 x4 x5 x6 M = some R → V G 8 30 [(0, .inr 20), (1, .inr (plc p + 0)), (2, .inl x2), (3, .inl x3), (4, .inl x4), (5, .inl x5), (6, .inl x6)] [] M := by
  intro n
  induction n with
  | zero => intro x2 x3 x4 x5 x6 M h; rw [g0_goalOf_b30] at h; cases h
  | succ n ih =>
    intro x2 x3 x4 x5 x6 M h
    rw [g0_goalOf_b30] at h
    refine V.iload (r := 32) hC 6 dX0_goalOf_30 rfl rfl ?_
    refine V.bipush (r := 34) hC dX0_goalOf_32 kb_18 rfl ?_
    refine V.icmp_ge (tgt := 141) (r := 37) hC dX0_goalOf_34 (by decide) rfl (fun c6 => ?_) (fun c6 => ?_)
    · rw [if_pos c6] at h
      refine V.iload (r := 143) hC 4 dX0_goalOf_141 rfl rfl ?_
      cases h
      exact hR _ _ dX0_goalOf_143
    · rw [if_neg c6] at h
      refine V.iload (r := 39) hC 6 dX0_goalOf_37 rfl rfl ?_
      refine V.bipush (r := 41) hC dX0_goalOf_39 kb_12 rfl ?_
      refine V.iload_n (r := 42) hC 2 dX0_goalOf_41 rfl rfl ?_
      refine V.iadd (r := 43) hC dX0_goalOf_42 rfl ?_
      refine V.icmp_eq (tgt := 135) (r := 46) hC dX0_goalOf_43 (by decide) rfl (fun c7 => ?_) (fun c7 => ?_)
      · rw [if_pos c7] at h
        exact v0_goalOf_b135 hp hC hR ih _ _ _ _ _ _ h
      · rw [if_neg c7] at h
        refine V.aload_n (r := 47) hC 1 dX0_goalOf_46 rfl rfl ?_
        refine V.iload (r := 49) hC 6 dX0_goalOf_47 rfl rfl ?_
        obtain ⟨q8, hq9, h⟩ := Option.bind_eq_some_iff.mp h
        try dsimp only at h
        refine V.invVi (as := [.inl x6]) (st := []) (r := 52) hC (met6_isThere hp hq9) yv_X6_isThere ml_RX0_135 (shp_0 _ hp) rfl rfl dX0_goalOf_49 (by decide) rfl rfl rfl rfl ?_
        refine V.if_ne (tgt := 58) (r := 55) hC dX0_goalOf_52 (by decide) rfl (fun c10 => ?_) (fun c10 => ?_)
        · rw [if_neg c10] at h
          refine V.aload_n (r := 59) hC 0 dX0_goalOf_58 rfl rfl ?_
          refine V.aload_n (r := 60) hC 1 dX0_goalOf_59 rfl rfl ?_
          refine V.iload_n (r := 61) hC 2 dX0_goalOf_60 rfl rfl ?_
          refine V.iload (r := 63) hC 6 dX0_goalOf_61 rfl rfl ?_
          obtain ⟨q11, hq12, h⟩ := Option.bind_eq_some_iff.mp h
          try dsimp only at h
          refine V.invVv (as := [.inr (plc p + 0), .inl x2, .inl x6]) (st := []) (r := 66) hC (met0_tellLamp hp hq12) yv_X0_tellLamp ml_RX0_138 sh_20 rfl rfl dX0_goalOf_63 (by decide) rfl rfl rfl rfl ?_
          refine V.aload_n (r := 67) hC 0 dX0_goalOf_66 rfl rfl ?_
          refine V.getR (k' := 28) (j := 1) (r := 70) hC xcl_0 sh_20 fl_RX0_18 dX0_goalOf_67 (by decide) rfl rfl ?_
          refine V.bipush (r := 72) hC dX0_goalOf_70 kb_13 rfl ?_
          refine V.iald (t := 13) (r := 73) hC sh_28 dX0_goalOf_72 (by decide) (by decide) rfl ?_
          refine V.iload_n (r := 74) hC 3 dX0_goalOf_73 rfl rfl ?_
          refine V.icmp_le (tgt := 80) (r := 77) hC dX0_goalOf_74 (by decide) rfl (fun c13 => ?_) (fun c13 => ?_)
          · rw [if_pos c13] at h
            refine V.aload_n (r := 81) hC 0 dX0_goalOf_80 rfl rfl ?_
            refine V.dup (r := 82) hC dX0_goalOf_81 rfl ?_
            refine V.getI (b := 102) (i := 0) (j := 2) (r := 85) hC xcl_0 sh_20 fl_RX0_22 dX0_goalOf_82 (by decide) rfl rfl ?_
            refine V.iconst (r := 86) hC dX0_goalOf_85 ki_1 rfl ?_
            refine V.iload (r := 88) hC 6 dX0_goalOf_86 rfl rfl ?_
            refine V.ishl (r := 89) hC dX0_goalOf_88 rfl ?_
            refine V.ior (r := 90) hC dX0_goalOf_89 rfl ?_
            rw [mset_eq] at h
            refine V.putI (b := 102) (i := 0) (j := 2) (ty := .int) (r := 93) hC xcl_0 xcp_0 sh_20 fl_RX0_22 dX0_goalOf_90 (by decide) rfl rfl (by decide +kernel) rfl rfl rfl ?_
            generalize upM q11 102 0 ((q11 102 0) ||| ((1 : Int32) <<< (x6 &&& 31))) = M14 at h ⊢
            refine V.aload_n (r := 94) hC 1 dX0_goalOf_93 rfl rfl ?_
            refine V.iload (r := 96) hC 6 dX0_goalOf_94 rfl rfl ?_
            obtain ⟨q15, hq16, h⟩ := Option.bind_eq_some_iff.mp h
            try dsimp only at h
            refine V.invVi (as := [.inl x6]) (st := []) (r := 99) hC (met6_isLit hp hq16) yv_X6_isLit ml_RX0_141 (shp_0 _ hp) rfl rfl dX0_goalOf_96 (by decide) rfl rfl rfl rfl ?_
            refine V.if_eq (tgt := 117) (r := 102) hC dX0_goalOf_99 (by decide) rfl (fun c17 => ?_) (fun c17 => ?_)
            · rw [if_pos c17] at h
              refine V.iconst (r := 118) hC dX0_goalOf_117 ki_0 rfl ?_
              exact v0_goalOf_b118 hp hC hR ih _ _ _ _ _ _ _ h
            · rw [if_neg c17] at h
              refine V.aload_n (r := 103) hC 0 dX0_goalOf_102 rfl rfl ?_
              refine V.getR (k' := 21) (j := 0) (r := 106) hC xcl_0 sh_20 fl_RX0_12 dX0_goalOf_103 (by decide) rfl rfl ?_
              refine V.iconst (r := 107) hC dX0_goalOf_106 ki_0 rfl ?_
              refine V.aload_n (r := 108) hC 0 dX0_goalOf_107 rfl rfl ?_
              refine V.getR (k' := 28) (j := 1) (r := 111) hC xcl_0 sh_20 fl_RX0_18 dX0_goalOf_108 (by decide) rfl rfl ?_
              obtain ⟨q18, hq19, h⟩ := Option.bind_eq_some_iff.mp h
              try dsimp only at h
              refine V.invVi (as := [.inl (0 : Int32), .inr 28]) (st := []) (r := 114) hC (met3_ask hq19) yv_X3_ask ml_RX0_144 sh_21 rfl rfl dX0_goalOf_111 (by decide) rfl rfl rfl rfl ?_
              refine V.goto (tgt := 118) hC dX0_goalOf_114 (by decide) ?_
              exact v0_goalOf_b118 hp hC hR ih _ _ _ _ _ _ _ h
          · rw [if_neg c13] at h
            refine V.goto (tgt := 135) hC dX0_goalOf_77 (by decide) ?_
            exact v0_goalOf_b135 hp hC hR ih _ _ _ _ _ _ h
        · rw [if_pos c10] at h
          refine V.goto (tgt := 135) hC dX0_goalOf_55 (by decide) ?_
          exact v0_goalOf_b135 hp hC hR ih _ _ _ _ _ _ h
def g0_goalOf_b13 (p : Nat) (x2 s0 : Int32) (M : xMem) : Option (Int32 × xMem) :=
Option.bind (g0_tellHerd p x2 (0 : Int32) M) fun q4 =>
g0_goalOf_b30 p 5000 x2 s0 (-1 : Int32) (0 : Int32) (0 : Int32) q4
set_option maxHeartbeats 4000000 in
set_option maxRecDepth 20000 in
theorem v0_goalOf_b13 {G : xG} {p : Nat} (hp : p < 7) (hC : xC G cX0_goalOf 8 RX0 3) {R : Int32 × xMem} (hR : xRI G cX0_goalOf 8 R) (x2 s0 : Int32) (M : xMem) (h : g0_goalOf_b13 p x2 s0 M = some R) : V G 8 13 [(0, .inr 20), (1, .inr (plc p + 0)), (2, .inl x2)] [.inl s0] M := by
  unfold g0_goalOf_b13 at h
  refine V.ist_n (lv' := [(0, .inr 20), (1, .inr (plc p + 0)), (2, .inl x2), (3, .inl s0)]) (r := 14) hC dX0_goalOf_13 rfl rfl rfl ?_
  refine V.iconst (r := 15) hC dX0_goalOf_14 ki_m1 rfl ?_
  refine V.ist (lv' := [(0, .inr 20), (1, .inr (plc p + 0)), (2, .inl x2), (3, .inl s0), (4, .inl (-1 : Int32))]) (r := 17) hC dX0_goalOf_15 rfl rfl rfl ?_
  refine V.iconst (r := 18) hC dX0_goalOf_17 ki_0 rfl ?_
  refine V.ist (lv' := [(0, .inr 20), (1, .inr (plc p + 0)), (2, .inl x2), (3, .inl s0), (4, .inl (-1 : Int32)), (5, .inl (0 : Int32))]) (r := 20) hC dX0_goalOf_18 rfl rfl rfl ?_
  refine V.aload_n (r := 21) hC 0 dX0_goalOf_20 rfl rfl ?_
  refine V.aload_n (r := 22) hC 1 dX0_goalOf_21 rfl rfl ?_
  refine V.iload_n (r := 23) hC 2 dX0_goalOf_22 rfl rfl ?_
  refine V.iconst (r := 24) hC dX0_goalOf_23 ki_0 rfl ?_
  obtain ⟨q4, hq5, h⟩ := Option.bind_eq_some_iff.mp h
  try dsimp only at h
  refine V.invVv (as := [.inr (plc p + 0), .inl x2, .inl (0 : Int32)]) (st := []) (r := 27) hC (met0_tellHerd hp hq5) yv_X0_tellHerd ml_RX0_132 sh_20 rfl rfl dX0_goalOf_24 (by decide) rfl rfl rfl rfl ?_
  refine V.iconst (r := 28) hC dX0_goalOf_27 ki_0 rfl ?_
  refine V.ist (lv' := [(0, .inr 20), (1, .inr (plc p + 0)), (2, .inl x2), (3, .inl s0), (4, .inl (-1 : Int32)), (5, .inl (0 : Int32)), (6, .inl (0 : Int32))]) (r := 30) hC dX0_goalOf_28 rfl rfl rfl ?_
  exact v0_goalOf_b30 hp hC hR  5000 _ _ _ _ _ _ h
def g0_goalOf (p : Nat) (a1 : Int32) (M : xMem) : Option (Int32 × xMem) :=
Option.bind (g6_isClouded p M) fun q1 =>
if (q1.1) = 0 then
(g0_goalOf_b13 p a1 (6 : Int32) q1.2)
else
(g0_goalOf_b13 p a1 (3 : Int32) q1.2)
set_option maxHeartbeats 4000000 in
set_option maxRecDepth 20000 in
theorem v0_goalOf {G : xG} {p : Nat} (hp : p < 7) (hC : xC G cX0_goalOf 8 RX0 3) {R : Int32 × xMem} (hR : xRI G cX0_goalOf 8 R) {a1 : Int32} {M : xMem} (h : g0_goalOf p a1 M = some R) : V G 8 0 [(0, .inr 20), (1, .inr (plc p + 0)), (2, .inl a1)] [] M := by
  unfold g0_goalOf at h
  refine V.aload_n (r := 1) hC 1 dX0_goalOf_0 rfl rfl ?_
  obtain ⟨q1, hq2, h⟩ := Option.bind_eq_some_iff.mp h
  try dsimp only at h
  refine V.invVi (as := []) (st := []) (r := 4) hC (met6_isClouded hp hq2) yv_X6_isClouded ml_RX0_128 (shp_0 _ hp) rfl rfl dX0_goalOf_1 (by decide) rfl rfl rfl rfl ?_
  refine V.if_eq (tgt := 11) (r := 7) hC dX0_goalOf_4 (by decide) rfl (fun c3 => ?_) (fun c3 => ?_)
  · rw [if_pos c3] at h
    refine V.bipush (r := 13) hC dX0_goalOf_11 kb_6 rfl ?_
    exact v0_goalOf_b13 hp hC hR  _ _ _ h
  · rw [if_neg c3] at h
    refine V.iconst (r := 8) hC dX0_goalOf_7 ki_3 rfl ?_
    refine V.goto (tgt := 13) hC dX0_goalOf_8 (by decide) ?_
    exact v0_goalOf_b13 hp hC hR  _ _ _ h
theorem met0_goalOf {p : Nat} (hp : p < 7) {R : Int32 × xMem} {a1 : Int32} {M : xMem} (h : g0_goalOf p a1 M = some R) : xMet yX0_goalOf cX0_goalOf 8 (some .int) 3 [.inr 20, .inr (plc p + 0), .inl a1] M (some R.1) R.2 := xMet.ofI (by decide +kernel) (Nat.le_of_ble_eq_true rfl) fun _ hC hR => v0_goalOf hp hC hR h
def g0_askOf (p : Nat) (a1 a2 a3 : Int32) (M : xMem) : Option (Int32 × xMem) :=
Option.bind (g0_tellHerd p a1 a3 M) fun q1 =>
Option.bind (g3_ask a2 q1) fun q3 =>
some (q3.1, q3.2)
set_option maxHeartbeats 4000000 in
set_option maxRecDepth 20000 in
theorem v0_askOf {G : xG} {p : Nat} (hp : p < 7) (hC : xC G cX0_askOf 5 RX0 3) {R : Int32 × xMem} (hR : xRI G cX0_askOf 5 R) {a1 a2 a3 : Int32} {M : xMem} (h : g0_askOf p a1 a2 a3 M = some R) : V G 5 0 [(0, .inr 20), (1, .inr (plc p + 0)), (2, .inl a1), (3, .inl a2), (4, .inl a3)] [] M := by
  unfold g0_askOf at h
  refine V.aload_n (r := 1) hC 0 dX0_askOf_0 rfl rfl ?_
  refine V.aload_n (r := 2) hC 1 dX0_askOf_1 rfl rfl ?_
  refine V.iload_n (r := 3) hC 2 dX0_askOf_2 rfl rfl ?_
  refine V.iload (r := 5) hC 4 dX0_askOf_3 rfl rfl ?_
  obtain ⟨q1, hq2, h⟩ := Option.bind_eq_some_iff.mp h
  try dsimp only at h
  refine V.invVv (as := [.inr (plc p + 0), .inl a1, .inl a3]) (st := []) (r := 8) hC (met0_tellHerd hp hq2) yv_X0_tellHerd ml_RX0_132 sh_20 rfl rfl dX0_askOf_5 (by decide) rfl rfl rfl rfl ?_
  refine V.aload_n (r := 9) hC 0 dX0_askOf_8 rfl rfl ?_
  refine V.getR (k' := 21) (j := 0) (r := 12) hC xcl_0 sh_20 fl_RX0_12 dX0_askOf_9 (by decide) rfl rfl ?_
  refine V.iload_n (r := 13) hC 3 dX0_askOf_12 rfl rfl ?_
  refine V.aload_n (r := 14) hC 0 dX0_askOf_13 rfl rfl ?_
  refine V.getR (k' := 28) (j := 1) (r := 17) hC xcl_0 sh_20 fl_RX0_18 dX0_askOf_14 (by decide) rfl rfl ?_
  obtain ⟨q3, hq4, h⟩ := Option.bind_eq_some_iff.mp h
  try dsimp only at h
  refine V.invVi (as := [.inl a2, .inr 28]) (st := []) (r := 20) hC (met3_ask hq4) yv_X3_ask ml_RX0_144 sh_21 rfl rfl dX0_askOf_17 (by decide) rfl rfl rfl rfl ?_
  cases h
  exact hR _ _ dX0_askOf_20
theorem met0_askOf {p : Nat} (hp : p < 7) {R : Int32 × xMem} {a1 a2 a3 : Int32} {M : xMem} (h : g0_askOf p a1 a2 a3 M = some R) : xMet yX0_askOf cX0_askOf 5 (some .int) 3 [.inr 20, .inr (plc p + 0), .inl a1, .inl a2, .inl a3] M (some R.1) R.2 := xMet.ofI (by decide +kernel) (Nat.le_of_ble_eq_true rfl) fun _ hC hR => v0_askOf hp hC hR h
def g8_isSquare (a0 a1 : Int32) (M : xMem) : Option (Int32 × xMem) :=
if a0 < 0 then
(some ((0 : Int32), M))
else
(if (14 : Int32) ≤ a0 then
(some ((0 : Int32), M))
else
(if a1 < 0 then
(some ((0 : Int32), M))
else
(if (14 : Int32) ≤ a1 then
(some ((0 : Int32), M))
else
(some ((1 : Int32), M)))))
set_option maxHeartbeats 4000000 in
set_option maxRecDepth 20000 in
theorem v8_isSquare {G : xG} (hC : xC G cX8_isSquare 2 RX8 0) {R : Int32 × xMem} (hR : xRZ G cX8_isSquare 2 R) {a0 a1 : Int32} {M : xMem} (h : g8_isSquare a0 a1 M = some R) : V G 2 0 [(0, .inl a0), (1, .inl a1)] [] M := by
  unfold g8_isSquare at h
  refine V.iload_n (r := 1) hC 0 dX8_isSquare_0 rfl rfl ?_
  refine V.if_lt (tgt := 24) (r := 4) hC dX8_isSquare_1 (by decide) rfl (fun c1 => ?_) (fun c1 => ?_)
  · rw [if_pos c1] at h
    refine V.iconst (r := 25) hC dX8_isSquare_24 ki_0 rfl ?_
    cases h
    exact hR _ _ (Or.inl rfl) dX8_isSquare_25
  · rw [if_neg c1] at h
    refine V.iload_n (r := 5) hC 0 dX8_isSquare_4 rfl rfl ?_
    refine V.bipush (r := 7) hC dX8_isSquare_5 kb_14 rfl ?_
    refine V.icmp_ge (tgt := 24) (r := 10) hC dX8_isSquare_7 (by decide) rfl (fun c2 => ?_) (fun c2 => ?_)
    · rw [if_pos c2] at h
      refine V.iconst (r := 25) hC dX8_isSquare_24 ki_0 rfl ?_
      cases h
      exact hR _ _ (Or.inl rfl) dX8_isSquare_25
    · rw [if_neg c2] at h
      refine V.iload_n (r := 11) hC 1 dX8_isSquare_10 rfl rfl ?_
      refine V.if_lt (tgt := 24) (r := 14) hC dX8_isSquare_11 (by decide) rfl (fun c3 => ?_) (fun c3 => ?_)
      · rw [if_pos c3] at h
        refine V.iconst (r := 25) hC dX8_isSquare_24 ki_0 rfl ?_
        cases h
        exact hR _ _ (Or.inl rfl) dX8_isSquare_25
      · rw [if_neg c3] at h
        refine V.iload_n (r := 15) hC 1 dX8_isSquare_14 rfl rfl ?_
        refine V.bipush (r := 17) hC dX8_isSquare_15 kb_14 rfl ?_
        refine V.icmp_ge (tgt := 24) (r := 20) hC dX8_isSquare_17 (by decide) rfl (fun c4 => ?_) (fun c4 => ?_)
        · rw [if_pos c4] at h
          refine V.iconst (r := 25) hC dX8_isSquare_24 ki_0 rfl ?_
          cases h
          exact hR _ _ (Or.inl rfl) dX8_isSquare_25
        · rw [if_neg c4] at h
          refine V.iconst (r := 21) hC dX8_isSquare_20 ki_1 rfl ?_
          refine V.goto (tgt := 25) hC dX8_isSquare_21 (by decide) ?_
          cases h
          exact hR _ _ (Or.inr rfl) dX8_isSquare_25
theorem met8_isSquare {R : Int32 × xMem} {a0 a1 : Int32} {M : xMem} (h : g8_isSquare a0 a1 M = some R) : xMet yX8_isSquare cX8_isSquare 2 (some .boolean) 0 [.inl a0, .inl a1] M (some R.1) R.2 := xMet.ofZ (by decide +kernel) (Nat.le_of_ble_eq_true rfl) fun _ hC hR => v8_isSquare  hC hR h
def g0_step (p : Nat) (a1 a2 a3 : Int32) (M : xMem) : Option (Int32 × xMem) :=
if a1 < 0 ∨ 6 ≤ a1.toNatClampNeg then none else
Option.bind (g8_isSquare (((M p (274 + a1.toNatClampNeg)) - (M p (274 + a1.toNatClampNeg)) / (14 : Int32) * (14 : Int32)) + a2) (((M p (274 + a1.toNatClampNeg)) / (14 : Int32)) + a3) M) fun q2 =>
if (q2.1) = 0 then
(some ((0 : Int32), q2.2))
else
(Option.bind (g6_sortAt p (((14 : Int32) * (((M p (274 + a1.toNatClampNeg)) / (14 : Int32)) + a3)) + (((M p (274 + a1.toNatClampNeg)) - (M p (274 + a1.toNatClampNeg)) / (14 : Int32) * (14 : Int32)) + a2)) q2.2) fun q5 =>
if (q5.1) = (3 : Int32) then
(some ((0 : Int32), q5.2))
else
(mset (upM q5.2 p (274 + a1.toNatClampNeg) (((14 : Int32) * (((M p (274 + a1.toNatClampNeg)) / (14 : Int32)) + a3)) + (((M p (274 + a1.toNatClampNeg)) - (M p (274 + a1.toNatClampNeg)) / (14 : Int32) * (14 : Int32)) + a2))) fun M8 =>
some ((1 : Int32), M8)))
set_option maxHeartbeats 4000000 in
set_option maxRecDepth 20000 in
theorem v0_step {G : xG} {p : Nat} (hp : p < 7) (hC : xC G cX0_step 7 RX0 1) {R : Int32 × xMem} (hR : xRZ G cX0_step 7 R) {a1 a2 a3 : Int32} {M : xMem} (h : g0_step p a1 a2 a3 M = some R) : V G 7 0 [(0, .inr 20), (1, .inr (plc p + 0)), (2, .inl a1), (3, .inl a2), (4, .inl a3)] [] M := by
  unfold g0_step at h
  refine V.aload_n (r := 1) hC 1 dX0_step_0 rfl rfl ?_
  refine V.getR (k' := plc p + 9) (j := 2) (r := 4) hC xcl_6 (shp_0 _ hp) fl_RX0_36 dX0_step_1 (by decide) rfl rfl ?_
  refine V.getR (k' := plc p + 11) (j := 1) (r := 7) hC xcl_1 (shp_9 _ hp) fl_RX0_78 dX0_step_4 (by decide) rfl rfl ?_
  refine V.iload_n (r := 8) hC 2 dX0_step_7 rfl rfl ?_
  by_cases c1 : a1 < 0 ∨ 6 ≤ a1.toNatClampNeg
  · rw [if_pos c1] at h; cases h
  rw [if_neg c1] at h
  refine V.iald (t := (274 + a1.toNatClampNeg)) (r := 9) hC (shp_11 _ hp) dX0_step_8 c1 rfl rfl ?_
  refine V.bipush (r := 11) hC dX0_step_9 kb_14 rfl ?_
  refine V.irem (r := 12) hC dX0_step_11 (by decide) rfl ?_
  refine V.iload_n (r := 13) hC 3 dX0_step_12 rfl rfl ?_
  refine V.iadd (r := 14) hC dX0_step_13 rfl ?_
  refine V.ist (lv' := [(0, .inr 20), (1, .inr (plc p + 0)), (2, .inl a1), (3, .inl a2), (4, .inl a3), (5, .inl (((M p (274 + a1.toNatClampNeg)) - (M p (274 + a1.toNatClampNeg)) / (14 : Int32) * (14 : Int32)) + a2))]) (r := 16) hC dX0_step_14 rfl rfl rfl ?_
  refine V.aload_n (r := 17) hC 1 dX0_step_16 rfl rfl ?_
  refine V.getR (k' := plc p + 9) (j := 2) (r := 20) hC xcl_6 (shp_0 _ hp) fl_RX0_36 dX0_step_17 (by decide) rfl rfl ?_
  refine V.getR (k' := plc p + 11) (j := 1) (r := 23) hC xcl_1 (shp_9 _ hp) fl_RX0_78 dX0_step_20 (by decide) rfl rfl ?_
  refine V.iload_n (r := 24) hC 2 dX0_step_23 rfl rfl ?_
  refine V.iald (t := (274 + a1.toNatClampNeg)) (r := 25) hC (shp_11 _ hp) dX0_step_24 c1 rfl rfl ?_
  refine V.bipush (r := 27) hC dX0_step_25 kb_14 rfl ?_
  refine V.idiv (r := 28) hC dX0_step_27 (by decide) rfl ?_
  refine V.iload (r := 30) hC 4 dX0_step_28 rfl rfl ?_
  refine V.iadd (r := 31) hC dX0_step_30 rfl ?_
  refine V.ist (lv' := [(0, .inr 20), (1, .inr (plc p + 0)), (2, .inl a1), (3, .inl a2), (4, .inl a3), (5, .inl (((M p (274 + a1.toNatClampNeg)) - (M p (274 + a1.toNatClampNeg)) / (14 : Int32) * (14 : Int32)) + a2)), (6, .inl (((M p (274 + a1.toNatClampNeg)) / (14 : Int32)) + a3))]) (r := 33) hC dX0_step_31 rfl rfl rfl ?_
  refine V.iload (r := 35) hC 5 dX0_step_33 rfl rfl ?_
  refine V.iload (r := 37) hC 6 dX0_step_35 rfl rfl ?_
  obtain ⟨q2, hq3, h⟩ := Option.bind_eq_some_iff.mp h
  try dsimp only at h
  refine V.invSi (as := [.inl (((M p (274 + a1.toNatClampNeg)) - (M p (274 + a1.toNatClampNeg)) / (14 : Int32) * (14 : Int32)) + a2), .inl (((M p (274 + a1.toNatClampNeg)) / (14 : Int32)) + a3)]) (st := []) (r := 40) hC (met8_isSquare hq3) ys_X8_isSquare ml_RX0_124 dX0_step_37 (by decide) rfl rfl rfl rfl ?_
  refine V.if_eq (tgt := 59) (r := 43) hC dX0_step_40 (by decide) rfl (fun c4 => ?_) (fun c4 => ?_)
  · rw [if_pos c4] at h
    refine V.iconst (r := 60) hC dX0_step_59 ki_0 rfl ?_
    cases h
    exact hR _ _ (Or.inl rfl) dX0_step_60
  · rw [if_neg c4] at h
    refine V.aload_n (r := 44) hC 1 dX0_step_43 rfl rfl ?_
    refine V.bipush (r := 46) hC dX0_step_44 kb_14 rfl ?_
    refine V.iload (r := 48) hC 6 dX0_step_46 rfl rfl ?_
    refine V.imul (r := 49) hC dX0_step_48 rfl ?_
    refine V.iload (r := 51) hC 5 dX0_step_49 rfl rfl ?_
    refine V.iadd (r := 52) hC dX0_step_51 rfl ?_
    obtain ⟨q5, hq6, h⟩ := Option.bind_eq_some_iff.mp h
    try dsimp only at h
    refine V.invVi (as := [.inl (((14 : Int32) * (((M p (274 + a1.toNatClampNeg)) / (14 : Int32)) + a3)) + (((M p (274 + a1.toNatClampNeg)) - (M p (274 + a1.toNatClampNeg)) / (14 : Int32) * (14 : Int32)) + a2))]) (st := []) (r := 55) hC (met6_sortAt hp hq6) yv_X6_sortAt ml_RX0_81 (shp_0 _ hp) rfl rfl dX0_step_52 (by decide) rfl rfl rfl rfl ?_
    refine V.iconst (r := 56) hC dX0_step_55 ki_3 rfl ?_
    refine V.icmp_ne (tgt := 61) (r := 59) hC dX0_step_56 (by decide) rfl (fun c7 => ?_) (fun c7 => ?_)
    · rw [if_neg c7] at h
      refine V.aload_n (r := 62) hC 1 dX0_step_61 rfl rfl ?_
      refine V.getR (k' := plc p + 9) (j := 2) (r := 65) hC xcl_6 (shp_0 _ hp) fl_RX0_36 dX0_step_62 (by decide) rfl rfl ?_
      refine V.getR (k' := plc p + 11) (j := 1) (r := 68) hC xcl_1 (shp_9 _ hp) fl_RX0_78 dX0_step_65 (by decide) rfl rfl ?_
      refine V.iload_n (r := 69) hC 2 dX0_step_68 rfl rfl ?_
      refine V.bipush (r := 71) hC dX0_step_69 kb_14 rfl ?_
      refine V.iload (r := 73) hC 6 dX0_step_71 rfl rfl ?_
      refine V.imul (r := 74) hC dX0_step_73 rfl ?_
      refine V.iload (r := 76) hC 5 dX0_step_74 rfl rfl ?_
      refine V.iadd (r := 77) hC dX0_step_76 rfl ?_
      rw [mset_eq] at h
      refine V.iast (t := (274 + a1.toNatClampNeg)) (r := 78) hC (shp_11 _ hp) dX0_step_77 c1 rfl rfl ?_
      generalize upM q5.2 p (274 + a1.toNatClampNeg) (((14 : Int32) * (((M p (274 + a1.toNatClampNeg)) / (14 : Int32)) + a3)) + (((M p (274 + a1.toNatClampNeg)) - (M p (274 + a1.toNatClampNeg)) / (14 : Int32) * (14 : Int32)) + a2)) = M8 at h ⊢
      refine V.iconst (r := 79) hC dX0_step_78 ki_1 rfl ?_
      cases h
      exact hR _ _ (Or.inr rfl) dX0_step_79
    · rw [if_pos c7] at h
      refine V.iconst (r := 60) hC dX0_step_59 ki_0 rfl ?_
      cases h
      exact hR _ _ (Or.inl rfl) dX0_step_60
theorem met0_step {p : Nat} (hp : p < 7) {R : Int32 × xMem} {a1 a2 a3 : Int32} {M : xMem} (h : g0_step p a1 a2 a3 M = some R) : xMet yX0_step cX0_step 7 (some .boolean) 1 [.inr 20, .inr (plc p + 0), .inl a1, .inl a2, .inl a3] M (some R.1) R.2 := xMet.ofZ (by decide +kernel) (Nat.le_of_ble_eq_true rfl) fun _ hC hR => v0_step hp hC hR h
def g0_stampede_b8 (p : Nat) : Nat → Int32 → Int32 → Int32 → xMem → Option (xMem)
  | 0, _, _, _, _ => none
  | n + 1, x2, x4, x5, M => 
    (if (2 : Int32) ≤ x5 then
    (some M)
    else
    (if x4 < 0 ∨ 4 ≤ x4.toNatClampNeg then none else
    Option.bind (g0_step p x2 ((xTab 2).getD x4.toNatClampNeg 0) ((xTab 3).getD x4.toNatClampNeg 0) M) fun q3 =>
    g0_stampede_b8 p n x2 x4 (x5 + (1 : Int32)) q3.2))
set_option maxHeartbeats 4000000 in
set_option maxRecDepth 20000 in
theorem v0_stampede_b8 {G : xG} {p : Nat} (hp : p < 7) (hC : xC G cX0_stampede 6 RX0 2) {R : xMem} (hR : xRV G cX0_stampede 6 R) : ∀ (n : Nat) (x2 x4 x5 : Int32) (M : xMem), g0_stampede_b8 p n x2 x4 x5 M = some R → V G 6 8 [(0, .inr 20), (1, .inr (plc p + 0)), (2, .inl x2), (4, .inl x4), (5, .inl x5)] [] M := by
  intro n
  induction n with
  | zero => intro x2 x4 x5 M h; rw [g0_stampede_b8] at h; cases h
  | succ n ih =>
    intro x2 x4 x5 M h
    rw [g0_stampede_b8] at h
    refine V.iload (r := 10) hC 4 dX0_stampede_8 rfl rfl ?_
    refine V.iconst (r := 11) hC dX0_stampede_10 ki_2 rfl ?_
    refine V.icmp_ge (tgt := 39) (r := 14) hC dX0_stampede_11 (by decide) rfl (fun c1 => ?_) (fun c1 => ?_)
    · rw [if_pos c1] at h
      cases h
      exact hR _ _ dX0_stampede_39
    · rw [if_neg c1] at h
      refine V.aload_n (r := 15) hC 0 dX0_stampede_14 rfl rfl ?_
      refine V.aload_n (r := 16) hC 1 dX0_stampede_15 rfl rfl ?_
      refine V.iload_n (r := 17) hC 2 dX0_stampede_16 rfl rfl ?_
      refine V.gets (j := 2) (r := 20) hC (by decide) gs_RX0_106 dX0_stampede_17 rfl ?_
      refine V.iload (r := 22) hC 3 dX0_stampede_20 rfl rfl ?_
      by_cases c2 : x4 < 0 ∨ 4 ≤ x4.toNatClampNeg
      · rw [if_pos c2] at h; cases h
      rw [if_neg c2] at h
      refine V.iaks (j := 2) (r := 23) hC (by decide) rfl dX0_stampede_22 c2 rfl ?_
      refine V.gets (j := 3) (r := 26) hC (by decide) gs_RX0_109 dX0_stampede_23 rfl ?_
      refine V.iload (r := 28) hC 3 dX0_stampede_26 rfl rfl ?_
      refine V.iaks (j := 3) (r := 29) hC (by decide) rfl dX0_stampede_28 c2 rfl ?_
      obtain ⟨q3, hq4, h⟩ := Option.bind_eq_some_iff.mp h
      try dsimp only at h
      refine V.invVi (as := [.inr (plc p + 0), .inl x2, .inl ((xTab 2).getD x4.toNatClampNeg 0), .inl ((xTab 3).getD x4.toNatClampNeg 0)]) (st := []) (r := 32) hC (met0_step hp hq4) yv_X0_step ml_RX0_112 sh_20 rfl rfl dX0_stampede_29 (by decide) rfl rfl rfl rfl ?_
      refine V.pop (r := 33) hC dX0_stampede_32 rfl ?_
      refine V.inc (lv' := [(0, .inr 20), (1, .inr (plc p + 0)), (2, .inl x2), (4, .inl x4), (5, .inl (x5 + (1 : Int32)))]) (r := 36) hC 4 dX0_stampede_33 rfl ki_1 rfl rfl rfl ?_
      refine V.goto (tgt := 8) hC dX0_stampede_36 (by decide) ?_
      exact ih _ _ _ _ h
def g0_stampede (p : Nat) (a1 a2 : Int32) (M : xMem) : Option (xMem) :=
g0_stampede_b8 p 5000 a1 (a2 &&& (3 : Int32)) (0 : Int32) M
set_option maxHeartbeats 4000000 in
set_option maxRecDepth 20000 in
theorem v0_stampede {G : xG} {p : Nat} (hp : p < 7) (hC : xC G cX0_stampede 6 RX0 2) {R : xMem} (hR : xRV G cX0_stampede 6 R) {a1 a2 : Int32} {M : xMem} (h : g0_stampede p a1 a2 M = some R) : V G 6 0 [(0, .inr 20), (1, .inr (plc p + 0)), (2, .inl a1), (3, .inl a2)] [] M := by
  unfold g0_stampede at h
  refine V.iload_n (r := 1) hC 3 dX0_stampede_0 rfl rfl ?_
  refine V.iconst (r := 2) hC dX0_stampede_1 ki_3 rfl ?_
  refine V.iand (r := 3) hC dX0_stampede_2 rfl ?_
  refine V.ist (lv' := [(0, .inr 20), (1, .inr (plc p + 0)), (2, .inl a1), (3, .inl a2), (4, .inl (a2 &&& (3 : Int32)))]) (r := 5) hC dX0_stampede_3 rfl rfl rfl ?_
  refine V.iconst (r := 6) hC dX0_stampede_5 ki_0 rfl ?_
  refine V.ist (lv' := [(0, .inr 20), (1, .inr (plc p + 0)), (2, .inl a1), (3, .inl a2), (4, .inl (a2 &&& (3 : Int32))), (5, .inl (0 : Int32))]) (r := 8) hC dX0_stampede_6 rfl rfl rfl ?_
  refine V.pick (lv' := [(0, .inr 20), (1, .inr (plc p + 0)), (2, .inl a1), (4, .inl (a2 &&& (3 : Int32))), (5, .inl (0 : Int32))]) [0, 1, 2, 4, 5] rfl ?_
  exact v0_stampede_b8 hp hC hR  5000 _ _ _ _ h
theorem met0_stampede {p : Nat} (hp : p < 7) {R : xMem} {a1 a2 : Int32} {M : xMem} (h : g0_stampede p a1 a2 M = some R) : xMet yX0_stampede cX0_stampede 6 none 2 [.inr 20, .inr (plc p + 0), .inl a1, .inl a2] M none R := xMet.ofV (by decide +kernel) (Nat.le_of_ble_eq_true rfl) fun _ hC hR => v0_stampede hp hC hR h
def g0_lose (p : Nat) (a1 a2 : Int32) (M : xMem) : Option (Int32 × xMem) :=
if a1 < 0 ∨ 6 ≤ a1.toNatClampNeg then none else
mset (upM M p (280 + a1.toNatClampNeg) ((M p (280 + a1.toNatClampNeg)) - (xMin a2 (M p (280 + a1.toNatClampNeg))))) fun M2 =>
some (xMin a2 (M p (280 + a1.toNatClampNeg)), M2)
set_option maxHeartbeats 4000000 in
set_option maxRecDepth 20000 in
theorem v0_lose {G : xG} {p : Nat} (hp : p < 7) (hC : xC G cX0_lose 5 RX0 1) {R : Int32 × xMem} (hR : xRI G cX0_lose 5 R) {a1 a2 : Int32} {M : xMem} (h : g0_lose p a1 a2 M = some R) : V G 5 0 [(0, .inr 20), (1, .inr (plc p + 9)), (2, .inl a1), (3, .inl a2)] [] M := by
  unfold g0_lose at h
  refine V.iload_n (r := 1) hC 3 dX0_lose_0 rfl rfl ?_
  refine V.aload_n (r := 2) hC 1 dX0_lose_1 rfl rfl ?_
  refine V.getR (k' := plc p + 12) (j := 2) (r := 5) hC xcl_1 (shp_9 _ hp) fl_RX0_103 dX0_lose_2 (by decide) rfl rfl ?_
  refine V.iload_n (r := 6) hC 2 dX0_lose_5 rfl rfl ?_
  by_cases c1 : a1 < 0 ∨ 6 ≤ a1.toNatClampNeg
  · rw [if_pos c1] at h; cases h
  rw [if_neg c1] at h
  refine V.iald (t := (280 + a1.toNatClampNeg)) (r := 7) hC (shp_12 _ hp) dX0_lose_6 c1 rfl rfl ?_
  refine V.mmin (r := 10) hC jw_RX0_91 (by decide) (Nat.le_of_ble_eq_true rfl) dX0_lose_7 rfl ?_
  refine V.ist (lv' := [(0, .inr 20), (1, .inr (plc p + 9)), (2, .inl a1), (3, .inl a2), (4, .inl (xMin a2 (M p (280 + a1.toNatClampNeg))))]) (r := 12) hC dX0_lose_10 rfl rfl rfl ?_
  refine V.aload_n (r := 13) hC 1 dX0_lose_12 rfl rfl ?_
  refine V.getR (k' := plc p + 12) (j := 2) (r := 16) hC xcl_1 (shp_9 _ hp) fl_RX0_103 dX0_lose_13 (by decide) rfl rfl ?_
  refine V.iload_n (r := 17) hC 2 dX0_lose_16 rfl rfl ?_
  refine V.dup2 (r := 18) hC dX0_lose_17 rfl ?_
  refine V.iald (t := (280 + a1.toNatClampNeg)) (r := 19) hC (shp_12 _ hp) dX0_lose_18 c1 rfl rfl ?_
  refine V.iload (r := 21) hC 4 dX0_lose_19 rfl rfl ?_
  refine V.isub (r := 22) hC dX0_lose_21 rfl ?_
  rw [mset_eq] at h
  refine V.iast (t := (280 + a1.toNatClampNeg)) (r := 23) hC (shp_12 _ hp) dX0_lose_22 c1 rfl rfl ?_
  generalize upM M p (280 + a1.toNatClampNeg) ((M p (280 + a1.toNatClampNeg)) - (xMin a2 (M p (280 + a1.toNatClampNeg)))) = M2 at h ⊢
  refine V.iload (r := 25) hC 4 dX0_lose_23 rfl rfl ?_
  cases h
  exact hR _ _ dX0_lose_25
theorem met0_lose {p : Nat} (hp : p < 7) {R : Int32 × xMem} {a1 a2 : Int32} {M : xMem} (h : g0_lose p a1 a2 M = some R) : xMet yX0_lose cX0_lose 5 (some .int) 1 [.inr 20, .inr (plc p + 9), .inl a1, .inl a2] M (some R.1) R.2 := xMet.ofI (by decide +kernel) (Nat.le_of_ble_eq_true rfl) fun _ hC hR => v0_lose hp hC hR h
def g0_goOn (p : Nat) (a1 : Int32) (M : xMem) : Option (xMem) :=
if a1 < 0 ∨ 6 ≤ a1.toNatClampNeg then none else
if ((M p (274 + a1.toNatClampNeg)) / (14 : Int32)) = (13 : Int32) then
(mset (upM M p (274 + a1.toNatClampNeg) (196 : Int32)) fun M5 =>
some M5)
else
(Option.bind (g0_step p a1 (0 : Int32) (1 : Int32) M) fun q3 =>
some q3.2)
set_option maxHeartbeats 4000000 in
set_option maxRecDepth 20000 in
theorem v0_goOn {G : xG} {p : Nat} (hp : p < 7) (hC : xC G cX0_goOn 3 RX0 2) {R : xMem} (hR : xRV G cX0_goOn 3 R) {a1 : Int32} {M : xMem} (h : g0_goOn p a1 M = some R) : V G 3 0 [(0, .inr 20), (1, .inr (plc p + 0)), (2, .inl a1)] [] M := by
  unfold g0_goOn at h
  refine V.aload_n (r := 1) hC 1 dX0_goOn_0 rfl rfl ?_
  refine V.getR (k' := plc p + 9) (j := 2) (r := 4) hC xcl_6 (shp_0 _ hp) fl_RX0_36 dX0_goOn_1 (by decide) rfl rfl ?_
  refine V.getR (k' := plc p + 11) (j := 1) (r := 7) hC xcl_1 (shp_9 _ hp) fl_RX0_78 dX0_goOn_4 (by decide) rfl rfl ?_
  refine V.iload_n (r := 8) hC 2 dX0_goOn_7 rfl rfl ?_
  by_cases c1 : a1 < 0 ∨ 6 ≤ a1.toNatClampNeg
  · rw [if_pos c1] at h; cases h
  rw [if_neg c1] at h
  refine V.iald (t := (274 + a1.toNatClampNeg)) (r := 9) hC (shp_11 _ hp) dX0_goOn_8 c1 rfl rfl ?_
  refine V.bipush (r := 11) hC dX0_goOn_9 kb_14 rfl ?_
  refine V.idiv (r := 12) hC dX0_goOn_11 (by decide) rfl ?_
  refine V.bipush (r := 14) hC dX0_goOn_12 kb_13 rfl ?_
  refine V.icmp_ne (tgt := 32) (r := 17) hC dX0_goOn_14 (by decide) rfl (fun c2 => ?_) (fun c2 => ?_)
  · rw [if_neg c2] at h
    refine V.aload_n (r := 33) hC 0 dX0_goOn_32 rfl rfl ?_
    refine V.aload_n (r := 34) hC 1 dX0_goOn_33 rfl rfl ?_
    refine V.iload_n (r := 35) hC 2 dX0_goOn_34 rfl rfl ?_
    refine V.iconst (r := 36) hC dX0_goOn_35 ki_0 rfl ?_
    refine V.iconst (r := 37) hC dX0_goOn_36 ki_1 rfl ?_
    obtain ⟨q3, hq4, h⟩ := Option.bind_eq_some_iff.mp h
    try dsimp only at h
    refine V.invVi (as := [.inr (plc p + 0), .inl a1, .inl (0 : Int32), .inl (1 : Int32)]) (st := []) (r := 40) hC (met0_step hp hq4) yv_X0_step ml_RX0_112 sh_20 rfl rfl dX0_goOn_37 (by decide) rfl rfl rfl rfl ?_
    refine V.pop (r := 41) hC dX0_goOn_40 rfl ?_
    cases h
    exact hR _ _ dX0_goOn_41
  · rw [if_pos c2] at h
    refine V.aload_n (r := 18) hC 1 dX0_goOn_17 rfl rfl ?_
    refine V.getR (k' := plc p + 9) (j := 2) (r := 21) hC xcl_6 (shp_0 _ hp) fl_RX0_36 dX0_goOn_18 (by decide) rfl rfl ?_
    refine V.getR (k' := plc p + 11) (j := 1) (r := 24) hC xcl_1 (shp_9 _ hp) fl_RX0_78 dX0_goOn_21 (by decide) rfl rfl ?_
    refine V.iload_n (r := 25) hC 2 dX0_goOn_24 rfl rfl ?_
    refine V.sipush (r := 28) hC dX0_goOn_25 ks_196 rfl ?_
    rw [mset_eq] at h
    refine V.iast (t := (274 + a1.toNatClampNeg)) (r := 29) hC (shp_11 _ hp) dX0_goOn_28 c1 rfl rfl ?_
    generalize upM M p (274 + a1.toNatClampNeg) (196 : Int32) = M5 at h ⊢
    refine V.goto (tgt := 41) hC dX0_goOn_29 (by decide) ?_
    cases h
    exact hR _ _ dX0_goOn_41
theorem met0_goOn {p : Nat} (hp : p < 7) {R : xMem} {a1 : Int32} {M : xMem} (h : g0_goOn p a1 M = some R) : xMet yX0_goOn cX0_goOn 3 none 2 [.inr 20, .inr (plc p + 0), .inl a1] M none R := xMet.ofV (by decide +kernel) (Nat.le_of_ble_eq_true rfl) fun _ hC hR => v0_goOn hp hC hR h
def gJ6_compare_7cf53 (a0 a1 : Int32) (M : xMem) : Option (Int32 × xMem) :=
if a1 ≤ a0 then
(if a0 = a1 then
(some ((0 : Int32), M))
else
(some ((1 : Int32), M)))
else
(some ((-1 : Int32), M))
set_option maxHeartbeats 4000000 in
set_option maxRecDepth 20000 in
theorem vJ6_compare_7cf53 {G : xG} (hC : xC G cJ6_compare_7cf53 2 RJ6 0) {R : Int32 × xMem} (hR : xRI G cJ6_compare_7cf53 2 R) {a0 a1 : Int32} {M : xMem} (h : gJ6_compare_7cf53 a0 a1 M = some R) : V G 2 0 [(0, .inl a0), (1, .inl a1)] [] M := by
  unfold gJ6_compare_7cf53 at h
  refine V.iload_n (r := 1) hC 0 dJ6_compare_7cf53_0 rfl rfl ?_
  refine V.iload_n (r := 2) hC 1 dJ6_compare_7cf53_1 rfl rfl ?_
  refine V.icmp_ge (tgt := 9) (r := 5) hC dJ6_compare_7cf53_2 (by decide) rfl (fun c1 => ?_) (fun c1 => ?_)
  · rw [if_pos c1] at h
    refine V.iload_n (r := 10) hC 0 dJ6_compare_7cf53_9 rfl rfl ?_
    refine V.iload_n (r := 11) hC 1 dJ6_compare_7cf53_10 rfl rfl ?_
    refine V.icmp_ne (tgt := 18) (r := 14) hC dJ6_compare_7cf53_11 (by decide) rfl (fun c2 => ?_) (fun c2 => ?_)
    · rw [if_neg c2] at h
      refine V.iconst (r := 19) hC dJ6_compare_7cf53_18 ki_1 rfl ?_
      cases h
      exact hR _ _ dJ6_compare_7cf53_19
    · rw [if_pos c2] at h
      refine V.iconst (r := 15) hC dJ6_compare_7cf53_14 ki_0 rfl ?_
      refine V.goto (tgt := 19) hC dJ6_compare_7cf53_15 (by decide) ?_
      cases h
      exact hR _ _ dJ6_compare_7cf53_19
  · rw [if_neg c1] at h
    refine V.iconst (r := 6) hC dJ6_compare_7cf53_5 ki_m1 rfl ?_
    refine V.goto (tgt := 19) hC dJ6_compare_7cf53_6 (by decide) ?_
    cases h
    exact hR _ _ dJ6_compare_7cf53_19
theorem metJ6_compare_7cf53 {R : Int32 × xMem} {a0 a1 : Int32} {M : xMem} (h : gJ6_compare_7cf53 a0 a1 M = some R) : xMet yJ6_compare_7cf53 cJ6_compare_7cf53 2 (some .int) 0 [.inl a0, .inl a1] M (some R.1) R.2 := xMet.ofI (by decide +kernel) (Nat.le_of_ble_eq_true rfl) fun _ hC hR => vJ6_compare_7cf53  hC hR h
def g0_follow_b62 (p : Nat) (x2 x5 x6 x7 x8 : Int32) (M : xMem) : Option (xMem) :=
if (xAbs x5) < (xAbs x6) then
(Option.bind (g0_step p x2 (0 : Int32) x8 M) fun q9 =>
if (q9.1) = 0 then
(if x5 = 0 then
(some q9.2)
else
(Option.bind (g0_step p x2 x7 (0 : Int32) q9.2) fun q13 =>
some q13.2))
else
(some q9.2))
else
(Option.bind (g0_step p x2 x7 (0 : Int32) M) fun q15 =>
if (q15.1) = 0 then
(if x6 = 0 then
(some q15.2)
else
(Option.bind (g0_step p x2 (0 : Int32) x8 q15.2) fun q19 =>
some q19.2))
else
(some q15.2))
set_option maxHeartbeats 4000000 in
set_option maxRecDepth 20000 in
theorem v0_follow_b62 {G : xG} {p : Nat} (hp : p < 7) (hC : xC G cX0_follow 9 RX0 2) {R : xMem} (hR : xRV G cX0_follow 9 R) (x2 x5 x6 x7 x8 : Int32) (M : xMem) (h : g0_follow_b62 p x2 x5 x6 x7 x8 M = some R) : V G 9 62 [(0, .inr 20), (1, .inr (plc p + 0)), (2, .inl x2), (5, .inl x5), (6, .inl x6), (7, .inl x7), (8, .inl x8)] [] M := by
  unfold g0_follow_b62 at h
  refine V.iload (r := 64) hC 3 dX0_follow_62 rfl rfl ?_
  refine V.mabs (r := 67) hC jw_RX0_121 (by decide) (Nat.le_of_ble_eq_true rfl) dX0_follow_64 rfl ?_
  refine V.iload (r := 69) hC 4 dX0_follow_67 rfl rfl ?_
  refine V.mabs (r := 72) hC jw_RX0_121 (by decide) (Nat.le_of_ble_eq_true rfl) dX0_follow_69 rfl ?_
  refine V.icmp_lt (tgt := 105) (r := 75) hC dX0_follow_72 (by decide) rfl (fun c8 => ?_) (fun c8 => ?_)
  · rw [if_pos c8] at h
    refine V.aload_n (r := 106) hC 0 dX0_follow_105 rfl rfl ?_
    refine V.aload_n (r := 107) hC 1 dX0_follow_106 rfl rfl ?_
    refine V.iload_n (r := 108) hC 2 dX0_follow_107 rfl rfl ?_
    refine V.iconst (r := 109) hC dX0_follow_108 ki_0 rfl ?_
    refine V.iload (r := 111) hC 6 dX0_follow_109 rfl rfl ?_
    obtain ⟨q9, hq10, h⟩ := Option.bind_eq_some_iff.mp h
    try dsimp only at h
    refine V.invVi (as := [.inr (plc p + 0), .inl x2, .inl (0 : Int32), .inl x8]) (st := []) (r := 114) hC (met0_step hp hq10) yv_X0_step ml_RX0_112 sh_20 rfl rfl dX0_follow_111 (by decide) rfl rfl rfl rfl ?_
    refine V.if_ne (tgt := 132) (r := 117) hC dX0_follow_114 (by decide) rfl (fun c11 => ?_) (fun c11 => ?_)
    · rw [if_neg c11] at h
      cases h
      exact hR _ _ dX0_follow_132
    · rw [if_pos c11] at h
      refine V.iload (r := 119) hC 3 dX0_follow_117 rfl rfl ?_
      refine V.if_eq (tgt := 132) (r := 122) hC dX0_follow_119 (by decide) rfl (fun c12 => ?_) (fun c12 => ?_)
      · rw [if_pos c12] at h
        cases h
        exact hR _ _ dX0_follow_132
      · rw [if_neg c12] at h
        refine V.aload_n (r := 123) hC 0 dX0_follow_122 rfl rfl ?_
        refine V.aload_n (r := 124) hC 1 dX0_follow_123 rfl rfl ?_
        refine V.iload_n (r := 125) hC 2 dX0_follow_124 rfl rfl ?_
        refine V.iload (r := 127) hC 5 dX0_follow_125 rfl rfl ?_
        refine V.iconst (r := 128) hC dX0_follow_127 ki_0 rfl ?_
        obtain ⟨q13, hq14, h⟩ := Option.bind_eq_some_iff.mp h
        try dsimp only at h
        refine V.invVi (as := [.inr (plc p + 0), .inl x2, .inl x7, .inl (0 : Int32)]) (st := []) (r := 131) hC (met0_step hp hq14) yv_X0_step ml_RX0_112 sh_20 rfl rfl dX0_follow_128 (by decide) rfl rfl rfl rfl ?_
        refine V.pop (r := 132) hC dX0_follow_131 rfl ?_
        cases h
        exact hR _ _ dX0_follow_132
  · rw [if_neg c8] at h
    refine V.aload_n (r := 76) hC 0 dX0_follow_75 rfl rfl ?_
    refine V.aload_n (r := 77) hC 1 dX0_follow_76 rfl rfl ?_
    refine V.iload_n (r := 78) hC 2 dX0_follow_77 rfl rfl ?_
    refine V.iload (r := 80) hC 5 dX0_follow_78 rfl rfl ?_
    refine V.iconst (r := 81) hC dX0_follow_80 ki_0 rfl ?_
    obtain ⟨q15, hq16, h⟩ := Option.bind_eq_some_iff.mp h
    try dsimp only at h
    refine V.invVi (as := [.inr (plc p + 0), .inl x2, .inl x7, .inl (0 : Int32)]) (st := []) (r := 84) hC (met0_step hp hq16) yv_X0_step ml_RX0_112 sh_20 rfl rfl dX0_follow_81 (by decide) rfl rfl rfl rfl ?_
    refine V.if_ne (tgt := 132) (r := 87) hC dX0_follow_84 (by decide) rfl (fun c17 => ?_) (fun c17 => ?_)
    · rw [if_neg c17] at h
      cases h
      exact hR _ _ dX0_follow_132
    · rw [if_pos c17] at h
      refine V.iload (r := 89) hC 4 dX0_follow_87 rfl rfl ?_
      refine V.if_eq (tgt := 132) (r := 92) hC dX0_follow_89 (by decide) rfl (fun c18 => ?_) (fun c18 => ?_)
      · rw [if_pos c18] at h
        cases h
        exact hR _ _ dX0_follow_132
      · rw [if_neg c18] at h
        refine V.aload_n (r := 93) hC 0 dX0_follow_92 rfl rfl ?_
        refine V.aload_n (r := 94) hC 1 dX0_follow_93 rfl rfl ?_
        refine V.iload_n (r := 95) hC 2 dX0_follow_94 rfl rfl ?_
        refine V.iconst (r := 96) hC dX0_follow_95 ki_0 rfl ?_
        refine V.iload (r := 98) hC 6 dX0_follow_96 rfl rfl ?_
        obtain ⟨q19, hq20, h⟩ := Option.bind_eq_some_iff.mp h
        try dsimp only at h
        refine V.invVi (as := [.inr (plc p + 0), .inl x2, .inl (0 : Int32), .inl x8]) (st := []) (r := 101) hC (met0_step hp hq20) yv_X0_step ml_RX0_112 sh_20 rfl rfl dX0_follow_98 (by decide) rfl rfl rfl rfl ?_
        refine V.pop (r := 102) hC dX0_follow_101 rfl ?_
        refine V.goto (tgt := 132) hC dX0_follow_102 (by decide) ?_
        cases h
        exact hR _ _ dX0_follow_132
def g0_follow (p : Nat) (a1 a2 : Int32) (M : xMem) : Option (xMem) :=
if a1 < 0 ∨ 6 ≤ a1.toNatClampNeg then none else
Option.bind (gJ6_compare_7cf53 ((a2 - a2 / (14 : Int32) * (14 : Int32)) - ((M p (274 + a1.toNatClampNeg)) - (M p (274 + a1.toNatClampNeg)) / (14 : Int32) * (14 : Int32))) (0 : Int32) M) fun q2 =>
Option.bind (gJ6_compare_7cf53 ((a2 / (14 : Int32)) - ((M p (274 + a1.toNatClampNeg)) / (14 : Int32))) (0 : Int32) q2.2) fun q4 =>
if ((a2 - a2 / (14 : Int32) * (14 : Int32)) - ((M p (274 + a1.toNatClampNeg)) - (M p (274 + a1.toNatClampNeg)) / (14 : Int32) * (14 : Int32))) = 0 then
(if ((a2 / (14 : Int32)) - ((M p (274 + a1.toNatClampNeg)) / (14 : Int32))) = 0 then
(some q4.2)
else
(g0_follow_b62 p a1 ((a2 - a2 / (14 : Int32) * (14 : Int32)) - ((M p (274 + a1.toNatClampNeg)) - (M p (274 + a1.toNatClampNeg)) / (14 : Int32) * (14 : Int32))) ((a2 / (14 : Int32)) - ((M p (274 + a1.toNatClampNeg)) / (14 : Int32))) (q2.1) (q4.1) q4.2))
else
(g0_follow_b62 p a1 ((a2 - a2 / (14 : Int32) * (14 : Int32)) - ((M p (274 + a1.toNatClampNeg)) - (M p (274 + a1.toNatClampNeg)) / (14 : Int32) * (14 : Int32))) ((a2 / (14 : Int32)) - ((M p (274 + a1.toNatClampNeg)) / (14 : Int32))) (q2.1) (q4.1) q4.2)
set_option maxHeartbeats 4000000 in
set_option maxRecDepth 20000 in
theorem v0_follow {G : xG} {p : Nat} (hp : p < 7) (hC : xC G cX0_follow 9 RX0 2) {R : xMem} (hR : xRV G cX0_follow 9 R) {a1 a2 : Int32} {M : xMem} (h : g0_follow p a1 a2 M = some R) : V G 9 0 [(0, .inr 20), (1, .inr (plc p + 0)), (2, .inl a1), (3, .inl a2)] [] M := by
  unfold g0_follow at h
  refine V.aload_n (r := 1) hC 1 dX0_follow_0 rfl rfl ?_
  refine V.getR (k' := plc p + 9) (j := 2) (r := 4) hC xcl_6 (shp_0 _ hp) fl_RX0_36 dX0_follow_1 (by decide) rfl rfl ?_
  refine V.getR (k' := plc p + 11) (j := 1) (r := 7) hC xcl_1 (shp_9 _ hp) fl_RX0_78 dX0_follow_4 (by decide) rfl rfl ?_
  refine V.iload_n (r := 8) hC 2 dX0_follow_7 rfl rfl ?_
  by_cases c1 : a1 < 0 ∨ 6 ≤ a1.toNatClampNeg
  · rw [if_pos c1] at h; cases h
  rw [if_neg c1] at h
  refine V.iald (t := (274 + a1.toNatClampNeg)) (r := 9) hC (shp_11 _ hp) dX0_follow_8 c1 rfl rfl ?_
  refine V.ist (lv' := [(0, .inr 20), (1, .inr (plc p + 0)), (2, .inl a1), (3, .inl a2), (4, .inl (M p (274 + a1.toNatClampNeg)))]) (r := 11) hC dX0_follow_9 rfl rfl rfl ?_
  refine V.iload_n (r := 12) hC 3 dX0_follow_11 rfl rfl ?_
  refine V.bipush (r := 14) hC dX0_follow_12 kb_14 rfl ?_
  refine V.irem (r := 15) hC dX0_follow_14 (by decide) rfl ?_
  refine V.iload (r := 17) hC 4 dX0_follow_15 rfl rfl ?_
  refine V.bipush (r := 19) hC dX0_follow_17 kb_14 rfl ?_
  refine V.irem (r := 20) hC dX0_follow_19 (by decide) rfl ?_
  refine V.isub (r := 21) hC dX0_follow_20 rfl ?_
  refine V.ist (lv' := [(0, .inr 20), (1, .inr (plc p + 0)), (2, .inl a1), (3, .inl a2), (4, .inl (M p (274 + a1.toNatClampNeg))), (5, .inl ((a2 - a2 / (14 : Int32) * (14 : Int32)) - ((M p (274 + a1.toNatClampNeg)) - (M p (274 + a1.toNatClampNeg)) / (14 : Int32) * (14 : Int32))))]) (r := 23) hC dX0_follow_21 rfl rfl rfl ?_
  refine V.iload_n (r := 24) hC 3 dX0_follow_23 rfl rfl ?_
  refine V.bipush (r := 26) hC dX0_follow_24 kb_14 rfl ?_
  refine V.idiv (r := 27) hC dX0_follow_26 (by decide) rfl ?_
  refine V.iload (r := 29) hC 4 dX0_follow_27 rfl rfl ?_
  refine V.bipush (r := 31) hC dX0_follow_29 kb_14 rfl ?_
  refine V.idiv (r := 32) hC dX0_follow_31 (by decide) rfl ?_
  refine V.isub (r := 33) hC dX0_follow_32 rfl ?_
  refine V.ist (lv' := [(0, .inr 20), (1, .inr (plc p + 0)), (2, .inl a1), (3, .inl a2), (4, .inl (M p (274 + a1.toNatClampNeg))), (5, .inl ((a2 - a2 / (14 : Int32) * (14 : Int32)) - ((M p (274 + a1.toNatClampNeg)) - (M p (274 + a1.toNatClampNeg)) / (14 : Int32) * (14 : Int32)))), (6, .inl ((a2 / (14 : Int32)) - ((M p (274 + a1.toNatClampNeg)) / (14 : Int32))))]) (r := 35) hC dX0_follow_33 rfl rfl rfl ?_
  refine V.iload (r := 37) hC 5 dX0_follow_35 rfl rfl ?_
  refine V.iconst (r := 38) hC dX0_follow_37 ki_0 rfl ?_
  obtain ⟨q2, hq3, h⟩ := Option.bind_eq_some_iff.mp h
  try dsimp only at h
  refine V.invSi (as := [.inl ((a2 - a2 / (14 : Int32) * (14 : Int32)) - ((M p (274 + a1.toNatClampNeg)) - (M p (274 + a1.toNatClampNeg)) / (14 : Int32) * (14 : Int32))), .inl (0 : Int32)]) (st := []) (r := 41) hC (metJ6_compare_7cf53 hq3) ys_J6_compare_7cf53 ml_RX0_116 dX0_follow_38 (by decide) rfl rfl rfl rfl ?_
  refine V.ist (lv' := [(0, .inr 20), (1, .inr (plc p + 0)), (2, .inl a1), (3, .inl a2), (4, .inl (M p (274 + a1.toNatClampNeg))), (5, .inl ((a2 - a2 / (14 : Int32) * (14 : Int32)) - ((M p (274 + a1.toNatClampNeg)) - (M p (274 + a1.toNatClampNeg)) / (14 : Int32) * (14 : Int32)))), (6, .inl ((a2 / (14 : Int32)) - ((M p (274 + a1.toNatClampNeg)) / (14 : Int32)))), (7, .inl (q2.1))]) (r := 43) hC dX0_follow_41 rfl rfl rfl ?_
  refine V.iload (r := 45) hC 6 dX0_follow_43 rfl rfl ?_
  refine V.iconst (r := 46) hC dX0_follow_45 ki_0 rfl ?_
  obtain ⟨q4, hq5, h⟩ := Option.bind_eq_some_iff.mp h
  try dsimp only at h
  refine V.invSi (as := [.inl ((a2 / (14 : Int32)) - ((M p (274 + a1.toNatClampNeg)) / (14 : Int32))), .inl (0 : Int32)]) (st := []) (r := 49) hC (metJ6_compare_7cf53 hq5) ys_J6_compare_7cf53 ml_RX0_116 dX0_follow_46 (by decide) rfl rfl rfl rfl ?_
  refine V.ist (lv' := [(0, .inr 20), (1, .inr (plc p + 0)), (2, .inl a1), (3, .inl a2), (4, .inl (M p (274 + a1.toNatClampNeg))), (5, .inl ((a2 - a2 / (14 : Int32) * (14 : Int32)) - ((M p (274 + a1.toNatClampNeg)) - (M p (274 + a1.toNatClampNeg)) / (14 : Int32) * (14 : Int32)))), (6, .inl ((a2 / (14 : Int32)) - ((M p (274 + a1.toNatClampNeg)) / (14 : Int32)))), (7, .inl (q2.1)), (8, .inl (q4.1))]) (r := 51) hC dX0_follow_49 rfl rfl rfl ?_
  refine V.iload (r := 53) hC 5 dX0_follow_51 rfl rfl ?_
  refine V.if_ne (tgt := 62) (r := 56) hC dX0_follow_53 (by decide) rfl (fun c6 => ?_) (fun c6 => ?_)
  · rw [if_neg c6] at h
    refine V.pick (lv' := [(0, .inr 20), (1, .inr (plc p + 0)), (2, .inl a1), (5, .inl ((a2 - a2 / (14 : Int32) * (14 : Int32)) - ((M p (274 + a1.toNatClampNeg)) - (M p (274 + a1.toNatClampNeg)) / (14 : Int32) * (14 : Int32)))), (6, .inl ((a2 / (14 : Int32)) - ((M p (274 + a1.toNatClampNeg)) / (14 : Int32)))), (7, .inl (q2.1)), (8, .inl (q4.1))]) [0, 1, 2, 5, 6, 7, 8] rfl ?_
    exact v0_follow_b62 hp hC hR  _ _ _ _ _ _ h
  · rw [if_pos c6] at h
    refine V.iload (r := 58) hC 6 dX0_follow_56 rfl rfl ?_
    refine V.if_ne (tgt := 62) (r := 61) hC dX0_follow_58 (by decide) rfl (fun c7 => ?_) (fun c7 => ?_)
    · rw [if_neg c7] at h
      refine V.pick (lv' := [(0, .inr 20), (1, .inr (plc p + 0)), (2, .inl a1), (5, .inl ((a2 - a2 / (14 : Int32) * (14 : Int32)) - ((M p (274 + a1.toNatClampNeg)) - (M p (274 + a1.toNatClampNeg)) / (14 : Int32) * (14 : Int32)))), (6, .inl ((a2 / (14 : Int32)) - ((M p (274 + a1.toNatClampNeg)) / (14 : Int32)))), (7, .inl (q2.1)), (8, .inl (q4.1))]) [0, 1, 2, 5, 6, 7, 8] rfl ?_
      exact v0_follow_b62 hp hC hR  _ _ _ _ _ _ h
    · rw [if_pos c7] at h
      cases h
      exact hR _ _ dX0_follow_61
theorem met0_follow {p : Nat} (hp : p < 7) {R : xMem} {a1 a2 : Int32} {M : xMem} (h : g0_follow p a1 a2 M = some R) : xMet yX0_follow cX0_follow 9 none 2 [.inr 20, .inr (plc p + 0), .inl a1, .inl a2] M none R := xMet.ofV (by decide +kernel) (Nat.le_of_ble_eq_true rfl) fun _ hC hR => v0_follow hp hC hR h
def g0_moveHerd_b264 (p : Nat) (x6 s1 : Int32) (M : xMem) : Option (Int32 × xMem) :=
if s1 < 0 ∨ 19 ≤ s1.toNatClampNeg then none else
mset (upM M p (308 + s1.toNatClampNeg) ((M p (308 + s1.toNatClampNeg)) + x6)) fun M39 =>
some (x6, M39)
set_option maxHeartbeats 4000000 in
set_option maxRecDepth 20000 in
theorem v0_moveHerd_b264 {G : xG} {p : Nat} (hp : p < 7) (hC : xC G cX0_moveHerd 10 RX0 4) {R : Int32 × xMem} (hR : xRI G cX0_moveHerd 10 R) (x6 s1 : Int32) (M : xMem) (h : g0_moveHerd_b264 p x6 s1 M = some R) : V G 10 264 [(6, .inl x6)] [.inl s1, .inr (plc p + 17)] M := by
  unfold g0_moveHerd_b264 at h
  refine V.dup2 (r := 265) hC dX0_moveHerd_264 rfl ?_
  by_cases c38 : s1 < 0 ∨ 19 ≤ s1.toNatClampNeg
  · rw [if_pos c38] at h; cases h
  rw [if_neg c38] at h
  refine V.iald (t := (308 + s1.toNatClampNeg)) (r := 266) hC (shp_17 _ hp) dX0_moveHerd_265 c38 rfl rfl ?_
  refine V.iload (r := 268) hC 0 dX0_moveHerd_266 rfl rfl ?_
  refine V.iadd (r := 269) hC dX0_moveHerd_268 rfl ?_
  rw [mset_eq] at h
  refine V.iast (t := (308 + s1.toNatClampNeg)) (r := 270) hC (shp_17 _ hp) dX0_moveHerd_269 c38 rfl rfl ?_
  generalize upM M p (308 + s1.toNatClampNeg) ((M p (308 + s1.toNatClampNeg)) + x6) = M39 at h ⊢
  refine V.iload (r := 272) hC 0 dX0_moveHerd_270 rfl rfl ?_
  cases h
  exact hR _ _ dX0_moveHerd_272
def g0_moveHerd_b262 (p : Nat) (x6 : Int32) (M : xMem) : Option (Int32 × xMem) :=
g0_moveHerd_b264 p x6 (18 : Int32) M
set_option maxHeartbeats 4000000 in
set_option maxRecDepth 20000 in
theorem v0_moveHerd_b262 {G : xG} {p : Nat} (hp : p < 7) (hC : xC G cX0_moveHerd 10 RX0 4) {R : Int32 × xMem} (hR : xRI G cX0_moveHerd 10 R) (x6 : Int32) (M : xMem) (h : g0_moveHerd_b262 p x6 M = some R) : V G 10 262 [(6, .inl x6)] [.inr (plc p + 17)] M := by
  unfold g0_moveHerd_b262 at h
  refine V.bipush (r := 264) hC dX0_moveHerd_262 kb_18 rfl ?_
  exact v0_moveHerd_b264 hp hC hR  _ _ _ h
def g0_moveHerd_b205 (p : Nat) (x2 x3 x5 x6 : Int32) (M : xMem) : Option (Int32 × xMem) :=
if x2 < 0 ∨ 6 ≤ x2.toNatClampNeg then none else
Option.bind (g0_askOf p x2 (5 : Int32) x3 M) fun q33 =>
mset (upM q33.2 p (292 + x2.toNatClampNeg) (xMax (0 : Int32) (xMin (99 : Int32) ((M p (292 + x2.toNatClampNeg)) + (q33.1))))) fun M35 =>
if x5 < 0 then
(g0_moveHerd_b262 p x6 M35)
else
(if (18 : Int32) ≤ x5 then
(g0_moveHerd_b262 p x6 M35)
else
(g0_moveHerd_b264 p x6 x5 M35))
set_option maxHeartbeats 4000000 in
set_option maxRecDepth 20000 in
theorem v0_moveHerd_b205 {G : xG} {p : Nat} (hp : p < 7) (hC : xC G cX0_moveHerd 10 RX0 4) {R : Int32 × xMem} (hR : xRI G cX0_moveHerd 10 R) (x2 x3 x5 x6 : Int32) (M : xMem) (h : g0_moveHerd_b205 p x2 x3 x5 x6 M = some R) : V G 10 205 [(0, .inr 20), (1, .inr (plc p + 0)), (2, .inl x2), (3, .inl x3), (4, .inr (plc p + 9)), (5, .inl x5), (6, .inl x6)] [] M := by
  unfold g0_moveHerd_b205 at h
  refine V.aload (r := 207) hC 4 dX0_moveHerd_205 rfl rfl ?_
  refine V.getR (k' := plc p + 14) (j := 4) (r := 210) hC xcl_1 (shp_9 _ hp) fl_RX0_56 dX0_moveHerd_207 (by decide) rfl rfl ?_
  refine V.iload_n (r := 211) hC 2 dX0_moveHerd_210 rfl rfl ?_
  by_cases c32 : x2 < 0 ∨ 6 ≤ x2.toNatClampNeg
  · rw [if_pos c32] at h; cases h
  rw [if_neg c32] at h
  refine V.iald (t := (292 + x2.toNatClampNeg)) (r := 212) hC (shp_14 _ hp) dX0_moveHerd_211 c32 rfl rfl ?_
  refine V.aload_n (r := 213) hC 0 dX0_moveHerd_212 rfl rfl ?_
  refine V.aload_n (r := 214) hC 1 dX0_moveHerd_213 rfl rfl ?_
  refine V.iload_n (r := 215) hC 2 dX0_moveHerd_214 rfl rfl ?_
  refine V.iconst (r := 216) hC dX0_moveHerd_215 ki_5 rfl ?_
  refine V.iload_n (r := 217) hC 3 dX0_moveHerd_216 rfl rfl ?_
  obtain ⟨q33, hq34, h⟩ := Option.bind_eq_some_iff.mp h
  try dsimp only at h
  refine V.invVi (as := [.inr (plc p + 0), .inl x2, .inl (5 : Int32), .inl x3]) (st := [.inl (M p (292 + x2.toNatClampNeg))]) (r := 220) hC (met0_askOf hp hq34) yv_X0_askOf ml_RX0_59 sh_20 rfl rfl dX0_moveHerd_217 (by decide) rfl rfl rfl rfl ?_
  refine V.iadd (r := 221) hC dX0_moveHerd_220 rfl ?_
  refine V.ist (lv' := [(0, .inr 20), (1, .inr (plc p + 0)), (2, .inl x2), (3, .inl x3), (4, .inr (plc p + 9)), (5, .inl x5), (6, .inl x6), (9, .inl ((M p (292 + x2.toNatClampNeg)) + (q33.1)))]) (r := 223) hC dX0_moveHerd_221 rfl rfl rfl ?_
  refine V.aload (r := 225) hC 4 dX0_moveHerd_223 rfl rfl ?_
  refine V.getR (k' := plc p + 14) (j := 4) (r := 228) hC xcl_1 (shp_9 _ hp) fl_RX0_56 dX0_moveHerd_225 (by decide) rfl rfl ?_
  refine V.iload_n (r := 229) hC 2 dX0_moveHerd_228 rfl rfl ?_
  refine V.iconst (r := 230) hC dX0_moveHerd_229 ki_0 rfl ?_
  refine V.bipush (r := 232) hC dX0_moveHerd_230 kb_99 rfl ?_
  refine V.iload (r := 234) hC 7 dX0_moveHerd_232 rfl rfl ?_
  refine V.mmin (r := 237) hC jw_RX0_91 (by decide) (Nat.le_of_ble_eq_true rfl) dX0_moveHerd_234 rfl ?_
  refine V.mmax (r := 240) hC jw_RX0_97 (by decide) (Nat.le_of_ble_eq_true rfl) dX0_moveHerd_237 rfl ?_
  rw [mset_eq] at h
  refine V.iast (t := (292 + x2.toNatClampNeg)) (r := 241) hC (shp_14 _ hp) dX0_moveHerd_240 c32 rfl rfl ?_
  generalize upM q33.2 p (292 + x2.toNatClampNeg) (xMax (0 : Int32) (xMin (99 : Int32) ((M p (292 + x2.toNatClampNeg)) + (q33.1)))) = M35 at h ⊢
  refine V.aload_n (r := 242) hC 1 dX0_moveHerd_241 rfl rfl ?_
  refine V.getR (k' := plc p + 17) (j := 4) (r := 245) hC xcl_6 (shp_0 _ hp) fl_RX0_100 dX0_moveHerd_242 (by decide) rfl rfl ?_
  refine V.iload (r := 247) hC 5 dX0_moveHerd_245 rfl rfl ?_
  refine V.if_lt (tgt := 262) (r := 250) hC dX0_moveHerd_247 (by decide) rfl (fun c36 => ?_) (fun c36 => ?_)
  · rw [if_pos c36] at h
    refine V.pick (lv' := [(6, .inl x6)]) [6] rfl ?_
    exact v0_moveHerd_b262 hp hC hR  _ _ h
  · rw [if_neg c36] at h
    refine V.iload (r := 252) hC 5 dX0_moveHerd_250 rfl rfl ?_
    refine V.bipush (r := 254) hC dX0_moveHerd_252 kb_18 rfl ?_
    refine V.icmp_ge (tgt := 262) (r := 257) hC dX0_moveHerd_254 (by decide) rfl (fun c37 => ?_) (fun c37 => ?_)
    · rw [if_pos c37] at h
      refine V.pick (lv' := [(6, .inl x6)]) [6] rfl ?_
      exact v0_moveHerd_b262 hp hC hR  _ _ h
    · rw [if_neg c37] at h
      refine V.iload (r := 259) hC 5 dX0_moveHerd_257 rfl rfl ?_
      refine V.goto (tgt := 264) hC dX0_moveHerd_259 (by decide) ?_
      refine V.pick (lv' := [(6, .inl x6)]) [6] rfl ?_
      exact v0_moveHerd_b264 hp hC hR  _ _ _ h
def g0_moveHerd_b157 (p : Nat) (x2 x3 x5 x6 s0 : Int32) (M : xMem) : Option (Int32 × xMem) :=
if x2 < 0 ∨ 6 ≤ x2.toNatClampNeg then none else
mset (upM M p (286 + x2.toNatClampNeg) (xMin s0 (99 : Int32))) fun M26 =>
if (M26 p (286 + x2.toNatClampNeg)) = (99 : Int32) then
(Option.bind (g0_askOf p x2 (4 : Int32) x3 M26) fun q28 =>
Option.bind (g0_lose p x2 (q28.1) q28.2) fun q30 =>
g0_moveHerd_b205 p x2 x3 x5 (x6 + (q30.1)) q30.2)
else
(g0_moveHerd_b205 p x2 x3 x5 x6 M26)
set_option maxHeartbeats 4000000 in
set_option maxRecDepth 20000 in
theorem v0_moveHerd_b157 {G : xG} {p : Nat} (hp : p < 7) (hC : xC G cX0_moveHerd 10 RX0 4) {R : Int32 × xMem} (hR : xRI G cX0_moveHerd 10 R) (x2 x3 x5 x6 s0 : Int32) (M : xMem) (h : g0_moveHerd_b157 p x2 x3 x5 x6 s0 M = some R) : V G 10 157 [(0, .inr 20), (1, .inr (plc p + 0)), (2, .inl x2), (3, .inl x3), (4, .inr (plc p + 9)), (5, .inl x5), (6, .inl x6)] [.inl s0] M := by
  unfold g0_moveHerd_b157 at h
  refine V.ist (lv' := [(0, .inr 20), (1, .inr (plc p + 0)), (2, .inl x2), (3, .inl x3), (4, .inr (plc p + 9)), (5, .inl x5), (6, .inl x6), (8, .inl s0)]) (r := 159) hC dX0_moveHerd_157 rfl rfl rfl ?_
  refine V.aload (r := 161) hC 4 dX0_moveHerd_159 rfl rfl ?_
  refine V.getR (k' := plc p + 13) (j := 3) (r := 164) hC xcl_1 (shp_9 _ hp) fl_RX0_88 dX0_moveHerd_161 (by decide) rfl rfl ?_
  refine V.iload_n (r := 165) hC 2 dX0_moveHerd_164 rfl rfl ?_
  refine V.iload (r := 167) hC 7 dX0_moveHerd_165 rfl rfl ?_
  refine V.bipush (r := 169) hC dX0_moveHerd_167 kb_99 rfl ?_
  refine V.mmin (r := 172) hC jw_RX0_91 (by decide) (Nat.le_of_ble_eq_true rfl) dX0_moveHerd_169 rfl ?_
  by_cases c25 : x2 < 0 ∨ 6 ≤ x2.toNatClampNeg
  · rw [if_pos c25] at h; cases h
  rw [if_neg c25] at h
  rw [mset_eq] at h
  refine V.iast (t := (286 + x2.toNatClampNeg)) (r := 173) hC (shp_13 _ hp) dX0_moveHerd_172 c25 rfl rfl ?_
  generalize upM M p (286 + x2.toNatClampNeg) (xMin s0 (99 : Int32)) = M26 at h ⊢
  refine V.aload (r := 175) hC 4 dX0_moveHerd_173 rfl rfl ?_
  refine V.getR (k' := plc p + 13) (j := 3) (r := 178) hC xcl_1 (shp_9 _ hp) fl_RX0_88 dX0_moveHerd_175 (by decide) rfl rfl ?_
  refine V.iload_n (r := 179) hC 2 dX0_moveHerd_178 rfl rfl ?_
  refine V.iald (t := (286 + x2.toNatClampNeg)) (r := 180) hC (shp_13 _ hp) dX0_moveHerd_179 c25 rfl rfl ?_
  refine V.bipush (r := 182) hC dX0_moveHerd_180 kb_99 rfl ?_
  refine V.icmp_ne (tgt := 205) (r := 185) hC dX0_moveHerd_182 (by decide) rfl (fun c27 => ?_) (fun c27 => ?_)
  · rw [if_neg c27] at h
    refine V.pick (lv' := [(0, .inr 20), (1, .inr (plc p + 0)), (2, .inl x2), (3, .inl x3), (4, .inr (plc p + 9)), (5, .inl x5), (6, .inl x6)]) [0, 1, 2, 3, 4, 5, 6] rfl ?_
    exact v0_moveHerd_b205 hp hC hR  _ _ _ _ _ h
  · rw [if_pos c27] at h
    refine V.iload (r := 187) hC 6 dX0_moveHerd_185 rfl rfl ?_
    refine V.aload_n (r := 188) hC 0 dX0_moveHerd_187 rfl rfl ?_
    refine V.aload (r := 190) hC 4 dX0_moveHerd_188 rfl rfl ?_
    refine V.iload_n (r := 191) hC 2 dX0_moveHerd_190 rfl rfl ?_
    refine V.aload_n (r := 192) hC 0 dX0_moveHerd_191 rfl rfl ?_
    refine V.aload_n (r := 193) hC 1 dX0_moveHerd_192 rfl rfl ?_
    refine V.iload_n (r := 194) hC 2 dX0_moveHerd_193 rfl rfl ?_
    refine V.iconst (r := 195) hC dX0_moveHerd_194 ki_4 rfl ?_
    refine V.iload_n (r := 196) hC 3 dX0_moveHerd_195 rfl rfl ?_
    obtain ⟨q28, hq29, h⟩ := Option.bind_eq_some_iff.mp h
    try dsimp only at h
    refine V.invVi (as := [.inr (plc p + 0), .inl x2, .inl (4 : Int32), .inl x3]) (st := [.inl x2, .inr (plc p + 9), .inr 20, .inl x6]) (r := 199) hC (met0_askOf hp hq29) yv_X0_askOf ml_RX0_59 sh_20 rfl rfl dX0_moveHerd_196 (by decide) rfl rfl rfl rfl ?_
    obtain ⟨q30, hq31, h⟩ := Option.bind_eq_some_iff.mp h
    try dsimp only at h
    refine V.invVi (as := [.inr (plc p + 9), .inl x2, .inl (q28.1)]) (st := [.inl x6]) (r := 202) hC (met0_lose hp hq31) yv_X0_lose ml_RX0_84 sh_20 rfl rfl dX0_moveHerd_199 (by decide) rfl rfl rfl rfl ?_
    refine V.iadd (r := 203) hC dX0_moveHerd_202 rfl ?_
    refine V.ist (lv' := [(0, .inr 20), (1, .inr (plc p + 0)), (2, .inl x2), (3, .inl x3), (4, .inr (plc p + 9)), (5, .inl x5), (6, .inl (x6 + (q30.1))), (8, .inl s0)]) (r := 205) hC dX0_moveHerd_203 rfl rfl rfl ?_
    refine V.pick (lv' := [(0, .inr 20), (1, .inr (plc p + 0)), (2, .inl x2), (3, .inl x3), (4, .inr (plc p + 9)), (5, .inl x5), (6, .inl (x6 + (q30.1)))]) [0, 1, 2, 3, 4, 5, 6] rfl ?_
    exact v0_moveHerd_b205 hp hC hR  _ _ _ _ _ h
def g0_moveHerd_b131 (p : Nat) (x2 x3 x5 x6 x7 : Int32) (M : xMem) : Option (Int32 × xMem) :=
if x7 = (2 : Int32) then
(g0_moveHerd_b157 p x2 x3 x5 x6 (0 : Int32) M)
else
(if x2 < 0 ∨ 6 ≤ x2.toNatClampNeg then none else
Option.bind (g0_askOf p x2 (3 : Int32) x3 M) fun q23 =>
g0_moveHerd_b157 p x2 x3 x5 x6 ((M p (286 + x2.toNatClampNeg)) + (q23.1)) q23.2)
set_option maxHeartbeats 4000000 in
set_option maxRecDepth 20000 in
theorem v0_moveHerd_b131 {G : xG} {p : Nat} (hp : p < 7) (hC : xC G cX0_moveHerd 10 RX0 4) {R : Int32 × xMem} (hR : xRI G cX0_moveHerd 10 R) (x2 x3 x5 x6 x7 : Int32) (M : xMem) (h : g0_moveHerd_b131 p x2 x3 x5 x6 x7 M = some R) : V G 10 131 [(0, .inr 20), (1, .inr (plc p + 0)), (2, .inl x2), (3, .inl x3), (4, .inr (plc p + 9)), (5, .inl x5), (6, .inl x6), (7, .inl x7)] [] M := by
  unfold g0_moveHerd_b131 at h
  refine V.iload (r := 133) hC 7 dX0_moveHerd_131 rfl rfl ?_
  refine V.iconst (r := 134) hC dX0_moveHerd_133 ki_2 rfl ?_
  refine V.icmp_ne (tgt := 141) (r := 137) hC dX0_moveHerd_134 (by decide) rfl (fun c21 => ?_) (fun c21 => ?_)
  · rw [if_neg c21] at h
    refine V.aload (r := 143) hC 4 dX0_moveHerd_141 rfl rfl ?_
    refine V.getR (k' := plc p + 13) (j := 3) (r := 146) hC xcl_1 (shp_9 _ hp) fl_RX0_88 dX0_moveHerd_143 (by decide) rfl rfl ?_
    refine V.iload_n (r := 147) hC 2 dX0_moveHerd_146 rfl rfl ?_
    by_cases c22 : x2 < 0 ∨ 6 ≤ x2.toNatClampNeg
    · rw [if_pos c22] at h; cases h
    rw [if_neg c22] at h
    refine V.iald (t := (286 + x2.toNatClampNeg)) (r := 148) hC (shp_13 _ hp) dX0_moveHerd_147 c22 rfl rfl ?_
    refine V.aload_n (r := 149) hC 0 dX0_moveHerd_148 rfl rfl ?_
    refine V.aload_n (r := 150) hC 1 dX0_moveHerd_149 rfl rfl ?_
    refine V.iload_n (r := 151) hC 2 dX0_moveHerd_150 rfl rfl ?_
    refine V.iconst (r := 152) hC dX0_moveHerd_151 ki_3 rfl ?_
    refine V.iload_n (r := 153) hC 3 dX0_moveHerd_152 rfl rfl ?_
    obtain ⟨q23, hq24, h⟩ := Option.bind_eq_some_iff.mp h
    try dsimp only at h
    refine V.invVi (as := [.inr (plc p + 0), .inl x2, .inl (3 : Int32), .inl x3]) (st := [.inl (M p (286 + x2.toNatClampNeg))]) (r := 156) hC (met0_askOf hp hq24) yv_X0_askOf ml_RX0_59 sh_20 rfl rfl dX0_moveHerd_153 (by decide) rfl rfl rfl rfl ?_
    refine V.iadd (r := 157) hC dX0_moveHerd_156 rfl ?_
    refine V.pick (lv' := [(0, .inr 20), (1, .inr (plc p + 0)), (2, .inl x2), (3, .inl x3), (4, .inr (plc p + 9)), (5, .inl x5), (6, .inl x6)]) [0, 1, 2, 3, 4, 5, 6] rfl ?_
    exact v0_moveHerd_b157 hp hC hR  _ _ _ _ _ _ h
  · rw [if_pos c21] at h
    refine V.iconst (r := 138) hC dX0_moveHerd_137 ki_0 rfl ?_
    refine V.goto (tgt := 157) hC dX0_moveHerd_138 (by decide) ?_
    refine V.pick (lv' := [(0, .inr 20), (1, .inr (plc p + 0)), (2, .inl x2), (3, .inl x3), (4, .inr (plc p + 9)), (5, .inl x5), (6, .inl x6)]) [0, 1, 2, 3, 4, 5, 6] rfl ?_
    exact v0_moveHerd_b157 hp hC hR  _ _ _ _ _ _ h
def g0_moveHerd_b78 (p : Nat) (x2 x3 x5 : Int32) (M : xMem) : Option (Int32 × xMem) :=
Option.bind (g1_isOn p x2 M) fun q10 =>
if (q10.1) = 0 then
(some ((0 : Int32), q10.2))
else
(if x2 < 0 ∨ 6 ≤ x2.toNatClampNeg then none else
Option.bind (g6_sortAt p (q10.2 p (274 + x2.toNatClampNeg)) q10.2) fun q14 =>
if (q14.1) = (1 : Int32) then
(Option.bind (g0_askOf p x2 (2 : Int32) x3 q14.2) fun q17 =>
Option.bind (g0_lose p x2 (q17.1) q17.2) fun q19 =>
g0_moveHerd_b131 p x2 x3 x5 ((0 : Int32) + (q19.1)) (q14.1) q19.2)
else
(g0_moveHerd_b131 p x2 x3 x5 (0 : Int32) (q14.1) q14.2))
set_option maxHeartbeats 4000000 in
set_option maxRecDepth 20000 in
theorem v0_moveHerd_b78 {G : xG} {p : Nat} (hp : p < 7) (hC : xC G cX0_moveHerd 10 RX0 4) {R : Int32 × xMem} (hR : xRI G cX0_moveHerd 10 R) (x2 x3 x5 : Int32) (M : xMem) (h : g0_moveHerd_b78 p x2 x3 x5 M = some R) : V G 10 78 [(0, .inr 20), (1, .inr (plc p + 0)), (2, .inl x2), (3, .inl x3), (4, .inr (plc p + 9)), (5, .inl x5)] [] M := by
  unfold g0_moveHerd_b78 at h
  refine V.aload (r := 80) hC 4 dX0_moveHerd_78 rfl rfl ?_
  refine V.iload_n (r := 81) hC 2 dX0_moveHerd_80 rfl rfl ?_
  obtain ⟨q10, hq11, h⟩ := Option.bind_eq_some_iff.mp h
  try dsimp only at h
  refine V.invVi (as := [.inl x2]) (st := []) (r := 84) hC (met1_isOn hp hq11) yv_X1_isOn ml_RX0_40 (shp_9 _ hp) rfl rfl dX0_moveHerd_81 (by decide) rfl rfl rfl rfl ?_
  refine V.if_ne (tgt := 89) (r := 87) hC dX0_moveHerd_84 (by decide) rfl (fun c12 => ?_) (fun c12 => ?_)
  · rw [if_neg c12] at h
    refine V.iconst (r := 90) hC dX0_moveHerd_89 ki_0 rfl ?_
    refine V.ist (lv' := [(0, .inr 20), (1, .inr (plc p + 0)), (2, .inl x2), (3, .inl x3), (4, .inr (plc p + 9)), (5, .inl x5), (6, .inl (0 : Int32))]) (r := 92) hC dX0_moveHerd_90 rfl rfl rfl ?_
    refine V.aload_n (r := 93) hC 1 dX0_moveHerd_92 rfl rfl ?_
    refine V.aload (r := 95) hC 4 dX0_moveHerd_93 rfl rfl ?_
    refine V.getR (k' := plc p + 11) (j := 1) (r := 98) hC xcl_1 (shp_9 _ hp) fl_RX0_78 dX0_moveHerd_95 (by decide) rfl rfl ?_
    refine V.iload_n (r := 99) hC 2 dX0_moveHerd_98 rfl rfl ?_
    by_cases c13 : x2 < 0 ∨ 6 ≤ x2.toNatClampNeg
    · rw [if_pos c13] at h; cases h
    rw [if_neg c13] at h
    refine V.iald (t := (274 + x2.toNatClampNeg)) (r := 100) hC (shp_11 _ hp) dX0_moveHerd_99 c13 rfl rfl ?_
    obtain ⟨q14, hq15, h⟩ := Option.bind_eq_some_iff.mp h
    try dsimp only at h
    refine V.invVi (as := [.inl (q10.2 p (274 + x2.toNatClampNeg))]) (st := []) (r := 103) hC (met6_sortAt hp hq15) yv_X6_sortAt ml_RX0_81 (shp_0 _ hp) rfl rfl dX0_moveHerd_100 (by decide) rfl rfl rfl rfl ?_
    refine V.ist (lv' := [(0, .inr 20), (1, .inr (plc p + 0)), (2, .inl x2), (3, .inl x3), (4, .inr (plc p + 9)), (5, .inl x5), (6, .inl (0 : Int32)), (7, .inl (q14.1))]) (r := 105) hC dX0_moveHerd_103 rfl rfl rfl ?_
    refine V.iload (r := 107) hC 7 dX0_moveHerd_105 rfl rfl ?_
    refine V.iconst (r := 108) hC dX0_moveHerd_107 ki_1 rfl ?_
    refine V.icmp_ne (tgt := 131) (r := 111) hC dX0_moveHerd_108 (by decide) rfl (fun c16 => ?_) (fun c16 => ?_)
    · rw [if_neg c16] at h
      exact v0_moveHerd_b131 hp hC hR  _ _ _ _ _ _ h
    · rw [if_pos c16] at h
      refine V.iload (r := 113) hC 6 dX0_moveHerd_111 rfl rfl ?_
      refine V.aload_n (r := 114) hC 0 dX0_moveHerd_113 rfl rfl ?_
      refine V.aload (r := 116) hC 4 dX0_moveHerd_114 rfl rfl ?_
      refine V.iload_n (r := 117) hC 2 dX0_moveHerd_116 rfl rfl ?_
      refine V.aload_n (r := 118) hC 0 dX0_moveHerd_117 rfl rfl ?_
      refine V.aload_n (r := 119) hC 1 dX0_moveHerd_118 rfl rfl ?_
      refine V.iload_n (r := 120) hC 2 dX0_moveHerd_119 rfl rfl ?_
      refine V.iconst (r := 121) hC dX0_moveHerd_120 ki_2 rfl ?_
      refine V.iload_n (r := 122) hC 3 dX0_moveHerd_121 rfl rfl ?_
      obtain ⟨q17, hq18, h⟩ := Option.bind_eq_some_iff.mp h
      try dsimp only at h
      refine V.invVi (as := [.inr (plc p + 0), .inl x2, .inl (2 : Int32), .inl x3]) (st := [.inl x2, .inr (plc p + 9), .inr 20, .inl (0 : Int32)]) (r := 125) hC (met0_askOf hp hq18) yv_X0_askOf ml_RX0_59 sh_20 rfl rfl dX0_moveHerd_122 (by decide) rfl rfl rfl rfl ?_
      obtain ⟨q19, hq20, h⟩ := Option.bind_eq_some_iff.mp h
      try dsimp only at h
      refine V.invVi (as := [.inr (plc p + 9), .inl x2, .inl (q17.1)]) (st := [.inl (0 : Int32)]) (r := 128) hC (met0_lose hp hq20) yv_X0_lose ml_RX0_84 sh_20 rfl rfl dX0_moveHerd_125 (by decide) rfl rfl rfl rfl ?_
      refine V.iadd (r := 129) hC dX0_moveHerd_128 rfl ?_
      refine V.ist (lv' := [(0, .inr 20), (1, .inr (plc p + 0)), (2, .inl x2), (3, .inl x3), (4, .inr (plc p + 9)), (5, .inl x5), (6, .inl ((0 : Int32) + (q19.1))), (7, .inl (q14.1))]) (r := 131) hC dX0_moveHerd_129 rfl rfl rfl ?_
      exact v0_moveHerd_b131 hp hC hR  _ _ _ _ _ _ h
  · rw [if_pos c12] at h
    refine V.iconst (r := 88) hC dX0_moveHerd_87 ki_0 rfl ?_
    cases h
    exact hR _ _ dX0_moveHerd_88
def g0_moveHerd_b51 (p : Nat) (x2 x3 x5 : Int32) (M : xMem) : Option (Int32 × xMem) :=
if x5 = (-1 : Int32) then
(Option.bind (g0_goOn p x2 M) fun q41 =>
g0_moveHerd_b78 p x2 x3 x5 q41)
else
(Option.bind (g6_squareOfLamp p x5 M) fun q43 =>
Option.bind (g0_follow p x2 (q43.1) q43.2) fun q45 =>
g0_moveHerd_b78 p x2 x3 x5 q45)
set_option maxHeartbeats 4000000 in
set_option maxRecDepth 20000 in
theorem v0_moveHerd_b51 {G : xG} {p : Nat} (hp : p < 7) (hC : xC G cX0_moveHerd 10 RX0 4) {R : Int32 × xMem} (hR : xRI G cX0_moveHerd 10 R) (x2 x3 x5 : Int32) (M : xMem) (h : g0_moveHerd_b51 p x2 x3 x5 M = some R) : V G 10 51 [(0, .inr 20), (1, .inr (plc p + 0)), (2, .inl x2), (3, .inl x3), (4, .inr (plc p + 9)), (5, .inl x5)] [] M := by
  unfold g0_moveHerd_b51 at h
  refine V.iload (r := 53) hC 5 dX0_moveHerd_51 rfl rfl ?_
  refine V.iconst (r := 54) hC dX0_moveHerd_53 ki_m1 rfl ?_
  refine V.icmp_eq (tgt := 72) (r := 57) hC dX0_moveHerd_54 (by decide) rfl (fun c40 => ?_) (fun c40 => ?_)
  · rw [if_pos c40] at h
    refine V.aload_n (r := 73) hC 0 dX0_moveHerd_72 rfl rfl ?_
    refine V.aload_n (r := 74) hC 1 dX0_moveHerd_73 rfl rfl ?_
    refine V.iload_n (r := 75) hC 2 dX0_moveHerd_74 rfl rfl ?_
    obtain ⟨q41, hq42, h⟩ := Option.bind_eq_some_iff.mp h
    try dsimp only at h
    refine V.invVv (as := [.inr (plc p + 0), .inl x2]) (st := []) (r := 78) hC (met0_goOn hp hq42) yv_X0_goOn ml_RX0_74 sh_20 rfl rfl dX0_moveHerd_75 (by decide) rfl rfl rfl rfl ?_
    exact v0_moveHerd_b78 hp hC hR  _ _ _ _ h
  · rw [if_neg c40] at h
    refine V.aload_n (r := 58) hC 0 dX0_moveHerd_57 rfl rfl ?_
    refine V.aload_n (r := 59) hC 1 dX0_moveHerd_58 rfl rfl ?_
    refine V.iload_n (r := 60) hC 2 dX0_moveHerd_59 rfl rfl ?_
    refine V.aload_n (r := 61) hC 1 dX0_moveHerd_60 rfl rfl ?_
    refine V.iload (r := 63) hC 5 dX0_moveHerd_61 rfl rfl ?_
    obtain ⟨q43, hq44, h⟩ := Option.bind_eq_some_iff.mp h
    try dsimp only at h
    refine V.invVi (as := [.inl x5]) (st := [.inl x2, .inr (plc p + 0), .inr 20]) (r := 66) hC (met6_squareOfLamp hp hq44) yv_X6_squareOfLamp ml_RX0_67 (shp_0 _ hp) rfl rfl dX0_moveHerd_63 (by decide) rfl rfl rfl rfl ?_
    obtain ⟨q45, hq46, h⟩ := Option.bind_eq_some_iff.mp h
    try dsimp only at h
    refine V.invVv (as := [.inr (plc p + 0), .inl x2, .inl (q43.1)]) (st := []) (r := 69) hC (met0_follow hp hq46) yv_X0_follow ml_RX0_71 sh_20 rfl rfl dX0_moveHerd_66 (by decide) rfl rfl rfl rfl ?_
    refine V.goto (tgt := 78) hC dX0_moveHerd_69 (by decide) ?_
    exact v0_moveHerd_b78 hp hC hR  _ _ _ _ h
def g0_moveHerd (p : Nat) (a1 a2 : Int32) (M : xMem) : Option (Int32 × xMem) :=
Option.bind (g0_goalOf p a1 M) fun q1 =>
if a1 < 0 ∨ 6 ≤ a1.toNatClampNeg then none else
if (q1.2 p (292 + a1.toNatClampNeg)) < (50 : Int32) then
(g0_moveHerd_b51 p a1 a2 (q1.1) q1.2)
else
(Option.bind (g0_askOf p a1 (1 : Int32) a2 q1.2) fun q5 =>
if (q5.1) ≤ a2 then
(g0_moveHerd_b51 p a1 a2 (q1.1) q5.2)
else
(Option.bind (g0_stampede p a1 a2 q5.2) fun q8 =>
g0_moveHerd_b78 p a1 a2 (-1 : Int32) q8))
set_option maxHeartbeats 4000000 in
set_option maxRecDepth 20000 in
theorem v0_moveHerd {G : xG} {p : Nat} (hp : p < 7) (hC : xC G cX0_moveHerd 10 RX0 4) {R : Int32 × xMem} (hR : xRI G cX0_moveHerd 10 R) {a1 a2 : Int32} {M : xMem} (h : g0_moveHerd p a1 a2 M = some R) : V G 10 0 [(0, .inr 20), (1, .inr (plc p + 0)), (2, .inl a1), (3, .inl a2)] [] M := by
  unfold g0_moveHerd at h
  refine V.aload_n (r := 1) hC 1 dX0_moveHerd_0 rfl rfl ?_
  refine V.getR (k' := plc p + 9) (j := 2) (r := 4) hC xcl_6 (shp_0 _ hp) fl_RX0_36 dX0_moveHerd_1 (by decide) rfl rfl ?_
  refine V.ast (lv' := [(0, .inr 20), (1, .inr (plc p + 0)), (2, .inl a1), (3, .inl a2), (4, .inr (plc p + 9))]) (r := 6) hC dX0_moveHerd_4 rfl rfl rfl ?_
  refine V.aload_n (r := 7) hC 0 dX0_moveHerd_6 rfl rfl ?_
  refine V.aload_n (r := 8) hC 1 dX0_moveHerd_7 rfl rfl ?_
  refine V.iload_n (r := 9) hC 2 dX0_moveHerd_8 rfl rfl ?_
  obtain ⟨q1, hq2, h⟩ := Option.bind_eq_some_iff.mp h
  try dsimp only at h
  refine V.invVi (as := [.inr (plc p + 0), .inl a1]) (st := []) (r := 12) hC (met0_goalOf hp hq2) yv_X0_goalOf ml_RX0_53 sh_20 rfl rfl dX0_moveHerd_9 (by decide) rfl rfl rfl rfl ?_
  refine V.ist (lv' := [(0, .inr 20), (1, .inr (plc p + 0)), (2, .inl a1), (3, .inl a2), (4, .inr (plc p + 9)), (5, .inl (q1.1))]) (r := 14) hC dX0_moveHerd_12 rfl rfl rfl ?_
  refine V.aload (r := 16) hC 4 dX0_moveHerd_14 rfl rfl ?_
  refine V.getR (k' := plc p + 14) (j := 4) (r := 19) hC xcl_1 (shp_9 _ hp) fl_RX0_56 dX0_moveHerd_16 (by decide) rfl rfl ?_
  refine V.iload_n (r := 20) hC 2 dX0_moveHerd_19 rfl rfl ?_
  by_cases c3 : a1 < 0 ∨ 6 ≤ a1.toNatClampNeg
  · rw [if_pos c3] at h; cases h
  rw [if_neg c3] at h
  refine V.iald (t := (292 + a1.toNatClampNeg)) (r := 21) hC (shp_14 _ hp) dX0_moveHerd_20 c3 rfl rfl ?_
  refine V.bipush (r := 23) hC dX0_moveHerd_21 kb_50 rfl ?_
  refine V.icmp_lt (tgt := 51) (r := 26) hC dX0_moveHerd_23 (by decide) rfl (fun c4 => ?_) (fun c4 => ?_)
  · rw [if_pos c4] at h
    exact v0_moveHerd_b51 hp hC hR  _ _ _ _ h
  · rw [if_neg c4] at h
    refine V.iload_n (r := 27) hC 3 dX0_moveHerd_26 rfl rfl ?_
    refine V.aload_n (r := 28) hC 0 dX0_moveHerd_27 rfl rfl ?_
    refine V.aload_n (r := 29) hC 1 dX0_moveHerd_28 rfl rfl ?_
    refine V.iload_n (r := 30) hC 2 dX0_moveHerd_29 rfl rfl ?_
    refine V.iconst (r := 31) hC dX0_moveHerd_30 ki_1 rfl ?_
    refine V.iload_n (r := 32) hC 3 dX0_moveHerd_31 rfl rfl ?_
    obtain ⟨q5, hq6, h⟩ := Option.bind_eq_some_iff.mp h
    try dsimp only at h
    refine V.invVi (as := [.inr (plc p + 0), .inl a1, .inl (1 : Int32), .inl a2]) (st := [.inl a2]) (r := 35) hC (met0_askOf hp hq6) yv_X0_askOf ml_RX0_59 sh_20 rfl rfl dX0_moveHerd_32 (by decide) rfl rfl rfl rfl ?_
    refine V.icmp_ge (tgt := 51) (r := 38) hC dX0_moveHerd_35 (by decide) rfl (fun c7 => ?_) (fun c7 => ?_)
    · rw [if_pos c7] at h
      exact v0_moveHerd_b51 hp hC hR  _ _ _ _ h
    · rw [if_neg c7] at h
      refine V.iconst (r := 39) hC dX0_moveHerd_38 ki_m1 rfl ?_
      refine V.ist (lv' := [(0, .inr 20), (1, .inr (plc p + 0)), (2, .inl a1), (3, .inl a2), (4, .inr (plc p + 9)), (5, .inl (-1 : Int32))]) (r := 41) hC dX0_moveHerd_39 rfl rfl rfl ?_
      refine V.aload_n (r := 42) hC 0 dX0_moveHerd_41 rfl rfl ?_
      refine V.aload_n (r := 43) hC 1 dX0_moveHerd_42 rfl rfl ?_
      refine V.iload_n (r := 44) hC 2 dX0_moveHerd_43 rfl rfl ?_
      refine V.iload_n (r := 45) hC 3 dX0_moveHerd_44 rfl rfl ?_
      obtain ⟨q8, hq9, h⟩ := Option.bind_eq_some_iff.mp h
      try dsimp only at h
      refine V.invVv (as := [.inr (plc p + 0), .inl a1, .inl a2]) (st := []) (r := 48) hC (met0_stampede hp hq9) yv_X0_stampede ml_RX0_63 sh_20 rfl rfl dX0_moveHerd_45 (by decide) rfl rfl rfl rfl ?_
      refine V.goto (tgt := 78) hC dX0_moveHerd_48 (by decide) ?_
      exact v0_moveHerd_b78 hp hC hR  _ _ _ _ h
theorem met0_moveHerd {p : Nat} (hp : p < 7) {R : Int32 × xMem} {a1 a2 : Int32} {M : xMem} (h : g0_moveHerd p a1 a2 M = some R) : xMet yX0_moveHerd cX0_moveHerd 10 (some .int) 4 [.inr 20, .inr (plc p + 0), .inl a1, .inl a2] M (some R.1) R.2 := xMet.ofI (by decide +kernel) (Nat.le_of_ble_eq_true rfl) fun _ hC hR => v0_moveHerd hp hC hR h
def g0_passHour_b35 (p : Nat) (k5 : Int32 → Int32 → Int32 → xMem → Option (Int32 × xMem)) (x2 x3 x4 : Int32) (M : xMem) : Option (Int32 × xMem) :=
k5 x2 x3 (x4 + (1 : Int32)) M
set_option maxHeartbeats 4000000 in
set_option maxRecDepth 20000 in
theorem v0_passHour_b35 {G : xG} {p : Nat} (hp : p < 7) (hC : xC G cX0_passHour 5 RX0 5) {R : Int32 × xMem} (hR : xRI G cX0_passHour 5 R) {k5 : Int32 → Int32 → Int32 → xMem → Option (Int32 × xMem)} (hk5 : ∀ (y2 y3 y4 : Int32) (N : xMem), k5 y2 y3 y4 N = some R → V G 5 5 [(0, .inr 20), (1, .inr (plc p + 0)), (2, .inl y2), (3, .inl y3), (4, .inl y4)] [] N) (x2 x3 x4 : Int32) (M : xMem) (h : g0_passHour_b35 p k5 x2 x3 x4 M = some R) : V G 5 35 [(0, .inr 20), (1, .inr (plc p + 0)), (2, .inl x2), (3, .inl x3), (4, .inl x4)] [] M := by
  unfold g0_passHour_b35 at h
  refine V.inc (lv' := [(0, .inr 20), (1, .inr (plc p + 0)), (2, .inl x2), (3, .inl x3), (4, .inl (x4 + (1 : Int32)))]) (r := 38) hC 4 dX0_passHour_35 rfl ki_1 rfl rfl rfl ?_
  refine V.goto (tgt := 5) hC dX0_passHour_38 (by decide) ?_
  exact hk5 _ _ _ _ h
def g0_passHour_b5 (p : Nat) : Nat → Int32 → Int32 → Int32 → xMem → Option (Int32 × xMem)
  | 0, _, _, _, _ => none
  | n + 1, x2, x3, x4, M => 
    (if (6 : Int32) ≤ x4 then
    (Option.bind (g6_endHour p M) fun q2 =>
    some (x3, q2))
    else
    (Option.bind (g1_isOn p x4 M) fun q4 =>
    if (q4.1) = 0 then
    (g0_passHour_b35 p (g0_passHour_b5 p n) x2 x3 x4 q4.2)
    else
    (Option.bind (g0_moveHerd p x4 x2 q4.2) fun q7 =>
    g0_passHour_b35 p (g0_passHour_b5 p n) x2 (x3 + (q7.1)) x4 q7.2)))
set_option maxHeartbeats 4000000 in
set_option maxRecDepth 20000 in
theorem v0_passHour_b5 {G : xG} {p : Nat} (hp : p < 7) (hC : xC G cX0_passHour 5 RX0 5) {R : Int32 × xMem} (hR : xRI G cX0_passHour 5 R) : ∀ (n : Nat) (x2 x3 x4 : Int32) (M : xMem), g0_passHour_b5 p n x2 x3 x4 M = some R → V G 5 5 [(0, .inr 20), (1, .inr (plc p + 0)), (2, .inl x2), (3, .inl x3), (4, .inl x4)] [] M := by
  intro n
  induction n with
  | zero => intro x2 x3 x4 M h; rw [g0_passHour_b5] at h; cases h
  | succ n ih =>
    intro x2 x3 x4 M h
    rw [g0_passHour_b5] at h
    refine V.iload (r := 7) hC 4 dX0_passHour_5 rfl rfl ?_
    refine V.bipush (r := 9) hC dX0_passHour_7 kb_6 rfl ?_
    refine V.icmp_ge (tgt := 41) (r := 12) hC dX0_passHour_9 (by decide) rfl (fun c1 => ?_) (fun c1 => ?_)
    · rw [if_pos c1] at h
      refine V.aload_n (r := 42) hC 1 dX0_passHour_41 rfl rfl ?_
      obtain ⟨q2, hq3, h⟩ := Option.bind_eq_some_iff.mp h
      try dsimp only at h
      refine V.invVv (as := []) (st := []) (r := 45) hC (met6_endHour hp hq3) yv_X6_endHour ml_RX0_50 (shp_0 _ hp) rfl rfl dX0_passHour_42 (by decide) rfl rfl rfl rfl ?_
      refine V.iload_n (r := 46) hC 3 dX0_passHour_45 rfl rfl ?_
      cases h
      exact hR _ _ dX0_passHour_46
    · rw [if_neg c1] at h
      refine V.aload_n (r := 13) hC 1 dX0_passHour_12 rfl rfl ?_
      refine V.getR (k' := plc p + 9) (j := 2) (r := 16) hC xcl_6 (shp_0 _ hp) fl_RX0_36 dX0_passHour_13 (by decide) rfl rfl ?_
      refine V.iload (r := 18) hC 4 dX0_passHour_16 rfl rfl ?_
      obtain ⟨q4, hq5, h⟩ := Option.bind_eq_some_iff.mp h
      try dsimp only at h
      refine V.invVi (as := [.inl x4]) (st := []) (r := 21) hC (met1_isOn hp hq5) yv_X1_isOn ml_RX0_40 (shp_9 _ hp) rfl rfl dX0_passHour_18 (by decide) rfl rfl rfl rfl ?_
      refine V.if_eq (tgt := 35) (r := 24) hC dX0_passHour_21 (by decide) rfl (fun c6 => ?_) (fun c6 => ?_)
      · rw [if_pos c6] at h
        exact v0_passHour_b35 hp hC hR ih _ _ _ _ h
      · rw [if_neg c6] at h
        refine V.iload_n (r := 25) hC 3 dX0_passHour_24 rfl rfl ?_
        refine V.aload_n (r := 26) hC 0 dX0_passHour_25 rfl rfl ?_
        refine V.aload_n (r := 27) hC 1 dX0_passHour_26 rfl rfl ?_
        refine V.iload (r := 29) hC 4 dX0_passHour_27 rfl rfl ?_
        refine V.iload_n (r := 30) hC 2 dX0_passHour_29 rfl rfl ?_
        obtain ⟨q7, hq8, h⟩ := Option.bind_eq_some_iff.mp h
        try dsimp only at h
        refine V.invVi (as := [.inr (plc p + 0), .inl x4, .inl x2]) (st := [.inl x3]) (r := 33) hC (met0_moveHerd hp hq8) yv_X0_moveHerd ml_RX0_46 sh_20 rfl rfl dX0_passHour_30 (by decide) rfl rfl rfl rfl ?_
        refine V.iadd (r := 34) hC dX0_passHour_33 rfl ?_
        refine V.ist_n (lv' := [(0, .inr 20), (1, .inr (plc p + 0)), (2, .inl x2), (3, .inl (x3 + (q7.1))), (4, .inl x4)]) (r := 35) hC dX0_passHour_34 rfl rfl rfl ?_
        exact v0_passHour_b35 hp hC hR ih _ _ _ _ h
def g0_passHour (p : Nat) (a1 : Int32) (M : xMem) : Option (Int32 × xMem) :=
g0_passHour_b5 p 5000 a1 (0 : Int32) (0 : Int32) M
set_option maxHeartbeats 4000000 in
set_option maxRecDepth 20000 in
theorem v0_passHour {G : xG} {p : Nat} (hp : p < 7) (hC : xC G cX0_passHour 5 RX0 5) {R : Int32 × xMem} (hR : xRI G cX0_passHour 5 R) {a1 : Int32} {M : xMem} (h : g0_passHour p a1 M = some R) : V G 5 0 [(0, .inr 20), (1, .inr (plc p + 0)), (2, .inl a1)] [] M := by
  unfold g0_passHour at h
  refine V.iconst (r := 1) hC dX0_passHour_0 ki_0 rfl ?_
  refine V.ist_n (lv' := [(0, .inr 20), (1, .inr (plc p + 0)), (2, .inl a1), (3, .inl (0 : Int32))]) (r := 2) hC dX0_passHour_1 rfl rfl rfl ?_
  refine V.iconst (r := 3) hC dX0_passHour_2 ki_0 rfl ?_
  refine V.ist (lv' := [(0, .inr 20), (1, .inr (plc p + 0)), (2, .inl a1), (3, .inl (0 : Int32)), (4, .inl (0 : Int32))]) (r := 5) hC dX0_passHour_3 rfl rfl rfl ?_
  exact v0_passHour_b5 hp hC hR  5000 _ _ _ _ h
theorem met0_passHour {p : Nat} (hp : p < 7) {R : Int32 × xMem} {a1 : Int32} {M : xMem} (h : g0_passHour p a1 M = some R) : xMet yX0_passHour cX0_passHour 5 (some .int) 5 [.inr 20, .inr (plc p + 0), .inl a1] M (some R.1) R.2 := xMet.ofI (by decide +kernel) (Nat.le_of_ble_eq_true rfl) fun _ hC hR => v0_passHour hp hC hR h
def g0_passHours_b5 (p : Nat) : Nat → Int32 → Int32 → Int32 → xMem → Option (Int32 × xMem)
  | 0, _, _, _, _ => none
  | n + 1, x2, x3, x4, M => 
    (if x2 ≤ x4 then
    (some (x3, M))
    else
    (Option.bind (g6_draw p M) fun q2 =>
    Option.bind (g0_passHour p (q2.1) q2.2) fun q4 =>
    g0_passHours_b5 p n x2 (x3 + (q4.1)) (x4 + (1 : Int32)) q4.2))
set_option maxHeartbeats 4000000 in
set_option maxRecDepth 20000 in
theorem v0_passHours_b5 {G : xG} {p : Nat} (hp : p < 7) (hC : xC G cX0_passHours 5 RX0 6) {R : Int32 × xMem} (hR : xRI G cX0_passHours 5 R) : ∀ (n : Nat) (x2 x3 x4 : Int32) (M : xMem), g0_passHours_b5 p n x2 x3 x4 M = some R → V G 5 5 [(0, .inr 20), (1, .inr (plc p + 0)), (2, .inl x2), (3, .inl x3), (4, .inl x4)] [] M := by
  intro n
  induction n with
  | zero => intro x2 x3 x4 M h; rw [g0_passHours_b5] at h; cases h
  | succ n ih =>
    intro x2 x3 x4 M h
    rw [g0_passHours_b5] at h
    refine V.iload (r := 7) hC 4 dX0_passHours_5 rfl rfl ?_
    refine V.iload_n (r := 8) hC 2 dX0_passHours_7 rfl rfl ?_
    refine V.icmp_ge (tgt := 29) (r := 11) hC dX0_passHours_8 (by decide) rfl (fun c1 => ?_) (fun c1 => ?_)
    · rw [if_pos c1] at h
      refine V.iload_n (r := 30) hC 3 dX0_passHours_29 rfl rfl ?_
      cases h
      exact hR _ _ dX0_passHours_30
    · rw [if_neg c1] at h
      refine V.iload_n (r := 12) hC 3 dX0_passHours_11 rfl rfl ?_
      refine V.aload_n (r := 13) hC 0 dX0_passHours_12 rfl rfl ?_
      refine V.aload_n (r := 14) hC 1 dX0_passHours_13 rfl rfl ?_
      refine V.aload_n (r := 15) hC 1 dX0_passHours_14 rfl rfl ?_
      obtain ⟨q2, hq3, h⟩ := Option.bind_eq_some_iff.mp h
      try dsimp only at h
      refine V.invVi (as := []) (st := [.inr (plc p + 0), .inr 20, .inl x3]) (r := 18) hC (met6_draw hp hq3) yv_X6_draw ml_RX0_26 (shp_0 _ hp) rfl rfl dX0_passHours_15 (by decide) rfl rfl rfl rfl ?_
      obtain ⟨q4, hq5, h⟩ := Option.bind_eq_some_iff.mp h
      try dsimp only at h
      refine V.invVi (as := [.inr (plc p + 0), .inl (q2.1)]) (st := [.inl x3]) (r := 21) hC (met0_passHour hp hq5) yv_X0_passHour ml_RX0_32 sh_20 rfl rfl dX0_passHours_18 (by decide) rfl rfl rfl rfl ?_
      refine V.iadd (r := 22) hC dX0_passHours_21 rfl ?_
      refine V.ist_n (lv' := [(0, .inr 20), (1, .inr (plc p + 0)), (2, .inl x2), (3, .inl (x3 + (q4.1))), (4, .inl x4)]) (r := 23) hC dX0_passHours_22 rfl rfl rfl ?_
      refine V.inc (lv' := [(0, .inr 20), (1, .inr (plc p + 0)), (2, .inl x2), (3, .inl (x3 + (q4.1))), (4, .inl (x4 + (1 : Int32)))]) (r := 26) hC 4 dX0_passHours_23 rfl ki_1 rfl rfl rfl ?_
      refine V.goto (tgt := 5) hC dX0_passHours_26 (by decide) ?_
      exact ih _ _ _ _ h
def g0_passHours (p : Nat) (a1 : Int32) (M : xMem) : Option (Int32 × xMem) :=
g0_passHours_b5 p 5000 a1 (0 : Int32) (0 : Int32) M
set_option maxHeartbeats 4000000 in
set_option maxRecDepth 20000 in
theorem v0_passHours {G : xG} {p : Nat} (hp : p < 7) (hC : xC G cX0_passHours 5 RX0 6) {R : Int32 × xMem} (hR : xRI G cX0_passHours 5 R) {a1 : Int32} {M : xMem} (h : g0_passHours p a1 M = some R) : V G 5 0 [(0, .inr 20), (1, .inr (plc p + 0)), (2, .inl a1)] [] M := by
  unfold g0_passHours at h
  refine V.iconst (r := 1) hC dX0_passHours_0 ki_0 rfl ?_
  refine V.ist_n (lv' := [(0, .inr 20), (1, .inr (plc p + 0)), (2, .inl a1), (3, .inl (0 : Int32))]) (r := 2) hC dX0_passHours_1 rfl rfl rfl ?_
  refine V.iconst (r := 3) hC dX0_passHours_2 ki_0 rfl ?_
  refine V.ist (lv' := [(0, .inr 20), (1, .inr (plc p + 0)), (2, .inl a1), (3, .inl (0 : Int32)), (4, .inl (0 : Int32))]) (r := 5) hC dX0_passHours_3 rfl rfl rfl ?_
  exact v0_passHours_b5 hp hC hR  5000 _ _ _ _ h
theorem met0_passHours {p : Nat} (hp : p < 7) {R : Int32 × xMem} {a1 : Int32} {M : xMem} (h : g0_passHours p a1 M = some R) : xMet yX0_passHours cX0_passHours 5 (some .int) 6 [.inr 20, .inr (plc p + 0), .inl a1] M (some R.1) R.2 := xMet.ofI (by decide +kernel) (Nat.le_of_ble_eq_true rfl) fun _ hC hR => v0_passHours hp hC hR h
def g0_pullOf (p : Nat) (a1 a2 : Int32) (M : xMem) : Option (Int32 × xMem) :=
Option.bind (g0_tellHerd p a1 (0 : Int32) M) fun q1 =>
Option.bind (g0_tellLamp p a1 a2 q1) fun q3 =>
Option.bind (g3_ask (0 : Int32) q3) fun q5 =>
some (q5.1, q5.2)
set_option maxHeartbeats 4000000 in
set_option maxRecDepth 20000 in
theorem v0_pullOf {G : xG} {p : Nat} (hp : p < 7) (hC : xC G cX0_pullOf 4 RX0 3) {R : Int32 × xMem} (hR : xRI G cX0_pullOf 4 R) {a1 a2 : Int32} {M : xMem} (h : g0_pullOf p a1 a2 M = some R) : V G 4 0 [(0, .inr 20), (1, .inr (plc p + 0)), (2, .inl a1), (3, .inl a2)] [] M := by
  unfold g0_pullOf at h
  refine V.aload_n (r := 1) hC 0 dX0_pullOf_0 rfl rfl ?_
  refine V.aload_n (r := 2) hC 1 dX0_pullOf_1 rfl rfl ?_
  refine V.iload_n (r := 3) hC 2 dX0_pullOf_2 rfl rfl ?_
  refine V.iconst (r := 4) hC dX0_pullOf_3 ki_0 rfl ?_
  obtain ⟨q1, hq2, h⟩ := Option.bind_eq_some_iff.mp h
  try dsimp only at h
  refine V.invVv (as := [.inr (plc p + 0), .inl a1, .inl (0 : Int32)]) (st := []) (r := 7) hC (met0_tellHerd hp hq2) yv_X0_tellHerd ml_RX0_132 sh_20 rfl rfl dX0_pullOf_4 (by decide) rfl rfl rfl rfl ?_
  refine V.aload_n (r := 8) hC 0 dX0_pullOf_7 rfl rfl ?_
  refine V.aload_n (r := 9) hC 1 dX0_pullOf_8 rfl rfl ?_
  refine V.iload_n (r := 10) hC 2 dX0_pullOf_9 rfl rfl ?_
  refine V.iload_n (r := 11) hC 3 dX0_pullOf_10 rfl rfl ?_
  obtain ⟨q3, hq4, h⟩ := Option.bind_eq_some_iff.mp h
  try dsimp only at h
  refine V.invVv (as := [.inr (plc p + 0), .inl a1, .inl a2]) (st := []) (r := 14) hC (met0_tellLamp hp hq4) yv_X0_tellLamp ml_RX0_138 sh_20 rfl rfl dX0_pullOf_11 (by decide) rfl rfl rfl rfl ?_
  refine V.aload_n (r := 15) hC 0 dX0_pullOf_14 rfl rfl ?_
  refine V.getR (k' := 21) (j := 0) (r := 18) hC xcl_0 sh_20 fl_RX0_12 dX0_pullOf_15 (by decide) rfl rfl ?_
  refine V.iconst (r := 19) hC dX0_pullOf_18 ki_0 rfl ?_
  refine V.aload_n (r := 20) hC 0 dX0_pullOf_19 rfl rfl ?_
  refine V.getR (k' := 28) (j := 1) (r := 23) hC xcl_0 sh_20 fl_RX0_18 dX0_pullOf_20 (by decide) rfl rfl ?_
  obtain ⟨q5, hq6, h⟩ := Option.bind_eq_some_iff.mp h
  try dsimp only at h
  refine V.invVi (as := [.inl (0 : Int32), .inr 28]) (st := []) (r := 26) hC (met3_ask hq6) yv_X3_ask ml_RX0_144 sh_21 rfl rfl dX0_pullOf_23 (by decide) rfl rfl rfl rfl ?_
  cases h
  exact hR _ _ dX0_pullOf_26
theorem met0_pullOf {p : Nat} (hp : p < 7) {R : Int32 × xMem} {a1 a2 : Int32} {M : xMem} (h : g0_pullOf p a1 a2 M = some R) : xMet yX0_pullOf cX0_pullOf 4 (some .int) 3 [.inr 20, .inr (plc p + 0), .inl a1, .inl a2] M (some R.1) R.2 := xMet.ofI (by decide +kernel) (Nat.le_of_ble_eq_true rfl) fun _ hC hR => v0_pullOf hp hC hR h
def g0_beer (p : Nat) (a1 : Int32) (M : xMem) : Option (Int32 × xMem) :=
Option.bind (g0_tellTime p (M p 328) M) fun q1 =>
mset (upM q1 101 11 a1) fun M3 =>
Option.bind (g6_kindOfLamp p a1 M3) fun q4 =>
mset (upM q4.2 101 12 (q4.1)) fun M6 =>
Option.bind (g2_tell p a1 (2 : Int32) M6) fun q7 =>
mset (upM q7.2 101 14 (xMax (q7.1) (0 : Int32))) fun M9 =>
Option.bind (g3_ask (6 : Int32) M9) fun q10 =>
some (q10.1, q10.2)
set_option maxHeartbeats 4000000 in
set_option maxRecDepth 20000 in
theorem v0_beer {G : xG} {p : Nat} (hp : p < 7) (hC : xC G cX0_beer 3 RX0 3) {R : Int32 × xMem} (hR : xRI G cX0_beer 3 R) {a1 : Int32} {M : xMem} (h : g0_beer p a1 M = some R) : V G 3 0 [(0, .inr 20), (1, .inr (plc p + 0)), (2, .inl a1)] [] M := by
  unfold g0_beer at h
  refine V.aload_n (r := 1) hC 0 dX0_beer_0 rfl rfl ?_
  refine V.aload_n (r := 2) hC 1 dX0_beer_1 rfl rfl ?_
  refine V.aload_n (r := 3) hC 1 dX0_beer_2 rfl rfl ?_
  refine V.getI (b := p) (i := 328) (j := 6) (r := 6) hC xcl_6 (shp_0 _ hp) fl_RX0_148 dX0_beer_3 (by decide) rfl rfl ?_
  obtain ⟨q1, hq2, h⟩ := Option.bind_eq_some_iff.mp h
  try dsimp only at h
  refine V.invVv (as := [.inr (plc p + 0), .inl (M p 328)]) (st := []) (r := 9) hC (met0_tellTime hp hq2) yv_X0_tellTime ml_RX0_151 sh_20 rfl rfl dX0_beer_6 (by decide) rfl rfl rfl rfl ?_
  refine V.aload_n (r := 10) hC 0 dX0_beer_9 rfl rfl ?_
  refine V.getR (k' := 28) (j := 1) (r := 13) hC xcl_0 sh_20 fl_RX0_18 dX0_beer_10 (by decide) rfl rfl ?_
  refine V.bipush (r := 15) hC dX0_beer_13 kb_11 rfl ?_
  refine V.iload_n (r := 16) hC 2 dX0_beer_15 rfl rfl ?_
  rw [mset_eq] at h
  refine V.iast (t := 11) (r := 17) hC sh_28 dX0_beer_16 (by decide) (by decide) rfl ?_
  generalize upM q1 101 11 a1 = M3 at h ⊢
  refine V.aload_n (r := 18) hC 0 dX0_beer_17 rfl rfl ?_
  refine V.getR (k' := 28) (j := 1) (r := 21) hC xcl_0 sh_20 fl_RX0_18 dX0_beer_18 (by decide) rfl rfl ?_
  refine V.bipush (r := 23) hC dX0_beer_21 kb_12 rfl ?_
  refine V.aload_n (r := 24) hC 1 dX0_beer_23 rfl rfl ?_
  refine V.iload_n (r := 25) hC 2 dX0_beer_24 rfl rfl ?_
  obtain ⟨q4, hq5, h⟩ := Option.bind_eq_some_iff.mp h
  try dsimp only at h
  refine V.invVi (as := [.inl a1]) (st := [.inl (12 : Int32), .inr 28]) (r := 28) hC (met6_kindOfLamp hp hq5) yv_X6_kindOfLamp ml_RX0_154 (shp_0 _ hp) rfl rfl dX0_beer_25 (by decide) rfl rfl rfl rfl ?_
  rw [mset_eq] at h
  refine V.iast (t := 12) (r := 29) hC sh_28 dX0_beer_28 (by decide) (by decide) rfl ?_
  generalize upM q4.2 101 12 (q4.1) = M6 at h ⊢
  refine V.aload_n (r := 30) hC 0 dX0_beer_29 rfl rfl ?_
  refine V.getR (k' := 28) (j := 1) (r := 33) hC xcl_0 sh_20 fl_RX0_18 dX0_beer_30 (by decide) rfl rfl ?_
  refine V.bipush (r := 35) hC dX0_beer_33 kb_14 rfl ?_
  refine V.aload_n (r := 36) hC 1 dX0_beer_35 rfl rfl ?_
  refine V.getR (k' := plc p + 2) (j := 1) (r := 39) hC xcl_6 (shp_0 _ hp) fl_RX0_157 dX0_beer_36 (by decide) rfl rfl ?_
  refine V.iload_n (r := 40) hC 2 dX0_beer_39 rfl rfl ?_
  refine V.iconst (r := 41) hC dX0_beer_40 ki_2 rfl ?_
  obtain ⟨q7, hq8, h⟩ := Option.bind_eq_some_iff.mp h
  try dsimp only at h
  refine V.invVi (as := [.inl a1, .inl (2 : Int32)]) (st := [.inl (14 : Int32), .inr 28]) (r := 44) hC (met2_tell hp hq8) yv_X2_tell ml_RX0_161 (shp_2 _ hp) rfl rfl dX0_beer_41 (by decide) rfl rfl rfl rfl ?_
  refine V.iconst (r := 45) hC dX0_beer_44 ki_0 rfl ?_
  refine V.mmax (r := 48) hC jw_RX0_97 (by decide) (Nat.le_of_ble_eq_true rfl) dX0_beer_45 rfl ?_
  rw [mset_eq] at h
  refine V.iast (t := 14) (r := 49) hC sh_28 dX0_beer_48 (by decide) (by decide) rfl ?_
  generalize upM q7.2 101 14 (xMax (q7.1) (0 : Int32)) = M9 at h ⊢
  refine V.aload_n (r := 50) hC 0 dX0_beer_49 rfl rfl ?_
  refine V.getR (k' := 21) (j := 0) (r := 53) hC xcl_0 sh_20 fl_RX0_12 dX0_beer_50 (by decide) rfl rfl ?_
  refine V.bipush (r := 55) hC dX0_beer_53 kb_6 rfl ?_
  refine V.aload_n (r := 56) hC 0 dX0_beer_55 rfl rfl ?_
  refine V.getR (k' := 28) (j := 1) (r := 59) hC xcl_0 sh_20 fl_RX0_18 dX0_beer_56 (by decide) rfl rfl ?_
  obtain ⟨q10, hq11, h⟩ := Option.bind_eq_some_iff.mp h
  try dsimp only at h
  refine V.invVi (as := [.inl (6 : Int32), .inr 28]) (st := []) (r := 62) hC (met3_ask hq11) yv_X3_ask ml_RX0_144 sh_21 rfl rfl dX0_beer_59 (by decide) rfl rfl rfl rfl ?_
  cases h
  exact hR _ _ dX0_beer_62
theorem met0_beer {p : Nat} (hp : p < 7) {R : Int32 × xMem} {a1 : Int32} {M : xMem} (h : g0_beer p a1 M = some R) : xMet yX0_beer cX0_beer 3 (some .int) 3 [.inr 20, .inr (plc p + 0), .inl a1] M (some R.1) R.2 := xMet.ofI (by decide +kernel) (Nat.le_of_ble_eq_true rfl) fun _ hC hR => v0_beer hp hC hR h
def g0_cloudTenths (p : Nat) (a1 : Int32) (M : xMem) : Option (Int32 × xMem) :=
Option.bind (g0_tellTime p a1 M) fun q1 =>
Option.bind (g3_ask (7 : Int32) q1) fun q3 =>
some (q3.1, q3.2)
set_option maxHeartbeats 4000000 in
set_option maxRecDepth 20000 in
theorem v0_cloudTenths {G : xG} {p : Nat} (hp : p < 7) (hC : xC G cX0_cloudTenths 3 RX0 3) {R : Int32 × xMem} (hR : xRI G cX0_cloudTenths 3 R) {a1 : Int32} {M : xMem} (h : g0_cloudTenths p a1 M = some R) : V G 3 0 [(0, .inr 20), (1, .inr (plc p + 0)), (2, .inl a1)] [] M := by
  unfold g0_cloudTenths at h
  refine V.aload_n (r := 1) hC 0 dX0_cloudTenths_0 rfl rfl ?_
  refine V.aload_n (r := 2) hC 1 dX0_cloudTenths_1 rfl rfl ?_
  refine V.iload_n (r := 3) hC 2 dX0_cloudTenths_2 rfl rfl ?_
  obtain ⟨q1, hq2, h⟩ := Option.bind_eq_some_iff.mp h
  try dsimp only at h
  refine V.invVv (as := [.inr (plc p + 0), .inl a1]) (st := []) (r := 6) hC (met0_tellTime hp hq2) yv_X0_tellTime ml_RX0_151 sh_20 rfl rfl dX0_cloudTenths_3 (by decide) rfl rfl rfl rfl ?_
  refine V.aload_n (r := 7) hC 0 dX0_cloudTenths_6 rfl rfl ?_
  refine V.getR (k' := 21) (j := 0) (r := 10) hC xcl_0 sh_20 fl_RX0_12 dX0_cloudTenths_7 (by decide) rfl rfl ?_
  refine V.bipush (r := 12) hC dX0_cloudTenths_10 kb_7 rfl ?_
  refine V.aload_n (r := 13) hC 0 dX0_cloudTenths_12 rfl rfl ?_
  refine V.getR (k' := 28) (j := 1) (r := 16) hC xcl_0 sh_20 fl_RX0_18 dX0_cloudTenths_13 (by decide) rfl rfl ?_
  obtain ⟨q3, hq4, h⟩ := Option.bind_eq_some_iff.mp h
  try dsimp only at h
  refine V.invVi (as := [.inl (7 : Int32), .inr 28]) (st := []) (r := 19) hC (met3_ask hq4) yv_X3_ask ml_RX0_144 sh_21 rfl rfl dX0_cloudTenths_16 (by decide) rfl rfl rfl rfl ?_
  cases h
  exact hR _ _ dX0_cloudTenths_19
theorem met0_cloudTenths {p : Nat} (hp : p < 7) {R : Int32 × xMem} {a1 : Int32} {M : xMem} (h : g0_cloudTenths p a1 M = some R) : xMet yX0_cloudTenths cX0_cloudTenths 3 (some .int) 3 [.inr 20, .inr (plc p + 0), .inl a1] M (some R.1) R.2 := xMet.ofI (by decide +kernel) (Nat.le_of_ble_eq_true rfl) fun _ hC hR => v0_cloudTenths hp hC hR h
