-- 12.reader
def g4_goTo_b38 (s1 : Int32) (M : xMem) : Option (xMem) :=
mset (upM M 114 0 s1) fun M6 =>
some M6
set_option maxHeartbeats 4000000 in
set_option maxRecDepth 20000 in
theorem v4_goTo_b38 {G : xG} (hC : xC G cX4_goTo 2 RX4 0) {R : xMem} (hR : xRV G cX4_goTo 2 R) (s1 : Int32) (M : xMem) (h : g4_goTo_b38 s1 M = some R) : V G 2 38 [] [.inl s1, .inr 126] M := by
  unfold g4_goTo_b38 at h
  rw [mset_eq] at h
  refine V.putI (b := 114) (i := 0) (j := 4) (ty := .int) (r := 41) hC xcl_4 xcp_4 sh_126 fl_RX4_32 dX4_goTo_38 (by decide) rfl rfl (by decide +kernel) rfl rfl rfl ?_
  generalize upM M 114 0 s1 = M6 at h ⊢
  cases h
  exact hR _ _ dX4_goTo_41
def g4_goTo_b37 (M : xMem) : Option (xMem) :=
g4_goTo_b38 (-1 : Int32) M
set_option maxHeartbeats 4000000 in
set_option maxRecDepth 20000 in
theorem v4_goTo_b37 {G : xG} (hC : xC G cX4_goTo 2 RX4 0) {R : xMem} (hR : xRV G cX4_goTo 2 R) (M : xMem) (h : g4_goTo_b37 M = some R) : V G 2 37 [] [.inr 126] M := by
  unfold g4_goTo_b37 at h
  refine V.iconst (r := 38) hC dX4_goTo_37 ki_m1 rfl ?_
  exact v4_goTo_b38  hC hR  _ _ h
def g4_goTo (a0 : Int32) (M : xMem) : Option (xMem) :=
mset (upM M 112 0 a0) fun M1 =>
if a0 < 0 then
(g4_goTo_b37 M1)
else
(if (M1 113 0) ≤ a0 then
(g4_goTo_b37 M1)
else
(if (260 : Int32) ≤ a0 then
(g4_goTo_b37 M1)
else
(if a0 < 0 ∨ 260 ≤ a0.toNatClampNeg then none else
g4_goTo_b38 (M1 120 a0.toNatClampNeg) M1)))
set_option maxHeartbeats 4000000 in
set_option maxRecDepth 20000 in
theorem v4_goTo {G : xG} (hC : xC G cX4_goTo 2 RX4 0) {R : xMem} (hR : xRV G cX4_goTo 2 R) {a0 : Int32} {M : xMem} (h : g4_goTo a0 M = some R) : V G 2 0 [(0, .inr 126), (1, .inl a0)] [] M := by
  unfold g4_goTo at h
  refine V.aload_n (r := 1) hC 0 dX4_goTo_0 rfl rfl ?_
  refine V.iload_n (r := 2) hC 1 dX4_goTo_1 rfl rfl ?_
  rw [mset_eq] at h
  refine V.putI (b := 112) (i := 0) (j := 2) (ty := .int) (r := 5) hC xcl_4 xcp_4 sh_126 fl_RX4_25 dX4_goTo_2 (by decide) rfl rfl (by decide +kernel) rfl rfl rfl ?_
  generalize upM M 112 0 a0 = M1 at h ⊢
  refine V.aload_n (r := 6) hC 0 dX4_goTo_5 rfl rfl ?_
  refine V.iload_n (r := 7) hC 1 dX4_goTo_6 rfl rfl ?_
  refine V.if_lt (tgt := 37) (r := 10) hC dX4_goTo_7 (by decide) rfl (fun c2 => ?_) (fun c2 => ?_)
  · rw [if_pos c2] at h
    refine V.pick (lv' := []) [] rfl ?_
    exact v4_goTo_b37  hC hR  _ h
  · rw [if_neg c2] at h
    refine V.iload_n (r := 11) hC 1 dX4_goTo_10 rfl rfl ?_
    refine V.aload_n (r := 12) hC 0 dX4_goTo_11 rfl rfl ?_
    refine V.getI (b := 113) (i := 0) (j := 3) (r := 15) hC xcl_4 sh_126 fl_RX4_29 dX4_goTo_12 (by decide) rfl rfl ?_
    refine V.icmp_ge (tgt := 37) (r := 18) hC dX4_goTo_15 (by decide) rfl (fun c3 => ?_) (fun c3 => ?_)
    · rw [if_pos c3] at h
      refine V.pick (lv' := []) [] rfl ?_
      exact v4_goTo_b37  hC hR  _ h
    · rw [if_neg c3] at h
      refine V.iload_n (r := 19) hC 1 dX4_goTo_18 rfl rfl ?_
      refine V.sipush (r := 22) hC dX4_goTo_19 ks_260 rfl ?_
      refine V.icmp_ge (tgt := 37) (r := 25) hC dX4_goTo_22 (by decide) rfl (fun c4 => ?_) (fun c4 => ?_)
      · rw [if_pos c4] at h
        refine V.pick (lv' := []) [] rfl ?_
        exact v4_goTo_b37  hC hR  _ h
      · rw [if_neg c4] at h
        refine V.aload_n (r := 26) hC 0 dX4_goTo_25 rfl rfl ?_
        refine V.getR (k' := 127) (j := 0) (r := 29) hC xcl_4 sh_126 fl_RX4_12 dX4_goTo_26 (by decide) rfl rfl ?_
        refine V.getR (k' := 128) (j := 0) (r := 32) hC xcl_7 sh_127 fl_RX4_105 dX4_goTo_29 (by decide) rfl rfl ?_
        refine V.iload_n (r := 33) hC 1 dX4_goTo_32 rfl rfl ?_
        by_cases c5 : a0 < 0 ∨ 260 ≤ a0.toNatClampNeg
        · rw [if_pos c5] at h; cases h
        rw [if_neg c5] at h
        refine V.iald (t := a0.toNatClampNeg) (r := 34) hC sh_128 dX4_goTo_33 c5 (Nat.zero_add _) rfl ?_
        refine V.goto (tgt := 38) hC dX4_goTo_34 (by decide) ?_
        refine V.pick (lv' := []) [] rfl ?_
        exact v4_goTo_b38  hC hR  _ _ h
theorem met4_goTo {R : xMem} {a0 : Int32} {M : xMem} (h : g4_goTo a0 M = some R) : xMet yX4_goTo cX4_goTo 2 none 0 [.inr 126, .inl a0] M none R := xMet.ofV (by decide +kernel) (Nat.le_of_ble_eq_true rfl) fun _ hC hR => v4_goTo  hC hR h
def g4_fail (a0 : Int32) (M : xMem) : Option (Int32 × xMem) :=
mset (upM M 115 0 (((-1000 : Int32) * a0) - (M 112 0))) fun M1 =>
some ((0 : Int32), M1)
set_option maxHeartbeats 4000000 in
set_option maxRecDepth 20000 in
theorem v4_fail {G : xG} (hC : xC G cX4_fail 2 RX4 0) {R : Int32 × xMem} (hR : xRZ G cX4_fail 2 R) {a0 : Int32} {M : xMem} (h : g4_fail a0 M = some R) : V G 2 0 [(0, .inr 126), (1, .inl a0)] [] M := by
  unfold g4_fail at h
  refine V.aload_n (r := 1) hC 0 dX4_fail_0 rfl rfl ?_
  refine V.sipush (r := 4) hC dX4_fail_1 ks_m1000 rfl ?_
  refine V.iload_n (r := 5) hC 1 dX4_fail_4 rfl rfl ?_
  refine V.imul (r := 6) hC dX4_fail_5 rfl ?_
  refine V.aload_n (r := 7) hC 0 dX4_fail_6 rfl rfl ?_
  refine V.getI (b := 112) (i := 0) (j := 2) (r := 10) hC xcl_4 sh_126 fl_RX4_25 dX4_fail_7 (by decide) rfl rfl ?_
  refine V.isub (r := 11) hC dX4_fail_10 rfl ?_
  rw [mset_eq] at h
  refine V.putI (b := 115) (i := 0) (j := 5) (ty := .int) (r := 14) hC xcl_4 xcp_4 sh_126 fl_RX4_35 dX4_fail_11 (by decide) rfl rfl (by decide +kernel) rfl rfl rfl ?_
  generalize upM M 115 0 (((-1000 : Int32) * a0) - (M 112 0)) = M1 at h ⊢
  refine V.iconst (r := 15) hC dX4_fail_14 ki_0 rfl ?_
  cases h
  exact hR _ _ (Or.inl rfl) dX4_fail_15
theorem met4_fail {R : Int32 × xMem} {a0 : Int32} {M : xMem} (h : g4_fail a0 M = some R) : xMet yX4_fail cX4_fail 2 (some .boolean) 0 [.inr 126, .inl a0] M (some R.1) R.2 := xMet.ofZ (by decide +kernel) (Nat.le_of_ble_eq_true rfl) fun _ hC hR => v4_fail  hC hR h
def g4_take (a0 : Int32) (M : xMem) : Option (Int32 × xMem) :=
if (M 114 0) = a0 then
(Option.bind (g4_goTo ((M 112 0) + (1 : Int32)) M) fun q2 =>
some ((1 : Int32), q2))
else
(Option.bind (g4_fail (1 : Int32) M) fun q4 =>
if (q4.1) = 0 ∨ (q4.1) = 1 then
some (q4.1, q4.2)
else none)
set_option maxHeartbeats 4000000 in
set_option maxRecDepth 20000 in
theorem v4_take {G : xG} (hC : xC G cX4_take 2 RX4 1) {R : Int32 × xMem} (hR : xRZ G cX4_take 2 R) {a0 : Int32} {M : xMem} (h : g4_take a0 M = some R) : V G 2 0 [(0, .inr 126), (1, .inl a0)] [] M := by
  unfold g4_take at h
  refine V.aload_n (r := 1) hC 0 dX4_take_0 rfl rfl ?_
  refine V.getI (b := 114) (i := 0) (j := 4) (r := 4) hC xcl_4 sh_126 fl_RX4_32 dX4_take_1 (by decide) rfl rfl ?_
  refine V.iload_n (r := 5) hC 1 dX4_take_4 rfl rfl ?_
  refine V.icmp_eq (tgt := 14) (r := 8) hC dX4_take_5 (by decide) rfl (fun c1 => ?_) (fun c1 => ?_)
  · rw [if_pos c1] at h
    refine V.aload_n (r := 15) hC 0 dX4_take_14 rfl rfl ?_
    refine V.aload_n (r := 16) hC 0 dX4_take_15 rfl rfl ?_
    refine V.getI (b := 112) (i := 0) (j := 2) (r := 19) hC xcl_4 sh_126 fl_RX4_25 dX4_take_16 (by decide) rfl rfl ?_
    refine V.iconst (r := 20) hC dX4_take_19 ki_1 rfl ?_
    refine V.iadd (r := 21) hC dX4_take_20 rfl ?_
    obtain ⟨q2, hq3, h⟩ := Option.bind_eq_some_iff.mp h
    try dsimp only at h
    refine V.invVv (as := [.inl ((M 112 0) + (1 : Int32))]) (st := []) (r := 24) hC (met4_goTo hq3) yv_X4_goTo ml_RX4_41 sh_126 rfl rfl dX4_take_21 (by decide) rfl rfl rfl rfl ?_
    refine V.iconst (r := 25) hC dX4_take_24 ki_1 rfl ?_
    cases h
    exact hR _ _ (Or.inr rfl) dX4_take_25
  · rw [if_neg c1] at h
    refine V.aload_n (r := 9) hC 0 dX4_take_8 rfl rfl ?_
    refine V.iconst (r := 10) hC dX4_take_9 ki_1 rfl ?_
    obtain ⟨q4, hq5, h⟩ := Option.bind_eq_some_iff.mp h
    try dsimp only at h
    refine V.invVi (as := [.inl (1 : Int32)]) (st := []) (r := 13) hC (met4_fail hq5) yv_X4_fail ml_RX4_62 sh_126 rfl rfl dX4_take_10 (by decide) rfl rfl rfl rfl ?_
    by_cases c6 : ¬ ((q4.1) = 0 ∨ (q4.1) = 1)
    · rw [if_neg c6] at h; cases h
    replace c6 := Classical.not_not.mp c6
    rw [if_pos c6] at h
    cases h
    exact hR _ _ c6 dX4_take_13
theorem met4_take {R : Int32 × xMem} {a0 : Int32} {M : xMem} (h : g4_take a0 M = some R) : xMet yX4_take cX4_take 2 (some .boolean) 1 [.inr 126, .inl a0] M (some R.1) R.2 := xMet.ofZ (by decide +kernel) (Nat.le_of_ble_eq_true rfl) fun _ hC hR => v4_take  hC hR h
def g4_readNumber_b62 (x1 : Int32) (M : xMem) : Option (Int32 × xMem) :=
Option.bind (g3_add (1 : Int32) x1 M) fun q9 =>
some ((1 : Int32), q9.2)
set_option maxHeartbeats 4000000 in
set_option maxRecDepth 20000 in
theorem v4_readNumber_b62 {G : xG} (hC : xC G cX4_readNumber 3 RX4 1) {R : Int32 × xMem} (hR : xRZ G cX4_readNumber 3 R) (x1 : Int32) (M : xMem) (h : g4_readNumber_b62 x1 M = some R) : V G 3 62 [(0, .inr 126), (1, .inl x1)] [] M := by
  unfold g4_readNumber_b62 at h
  refine V.aload_n (r := 63) hC 0 dX4_readNumber_62 rfl rfl ?_
  refine V.getR (k' := 129) (j := 1) (r := 66) hC xcl_4 sh_126 fl_RX4_21 dX4_readNumber_63 (by decide) rfl rfl ?_
  refine V.iconst (r := 67) hC dX4_readNumber_66 ki_1 rfl ?_
  refine V.iload_n (r := 68) hC 1 dX4_readNumber_67 rfl rfl ?_
  obtain ⟨q9, hq10, h⟩ := Option.bind_eq_some_iff.mp h
  try dsimp only at h
  refine V.invVi (as := [.inl (1 : Int32), .inl x1]) (st := []) (r := 71) hC (met3_add hq10) yv_X3_add ml_RX4_71 sh_129 rfl rfl dX4_readNumber_68 (by decide) rfl rfl rfl rfl ?_
  refine V.pop (r := 72) hC dX4_readNumber_71 rfl ?_
  refine V.iconst (r := 73) hC dX4_readNumber_72 ki_1 rfl ?_
  cases h
  exact hR _ _ (Or.inr rfl) dX4_readNumber_73
def g4_readNumber_b4 : Nat → Int32 → Int32 → xMem → Option (Int32 × xMem)
  | 0, _, _, _ => none
  | n + 1, x1, x2, M => 
    (if (M 114 0) < (48 : Int32) then
    (g4_readNumber_b62 x1 M)
    else
    (if (57 : Int32) < (M 114 0) then
    (g4_readNumber_b62 x1 M)
    else
    (if x2 < (5 : Int32) then
    (Option.bind (g4_goTo ((M 112 0) + (1 : Int32)) M) fun q4 =>
    g4_readNumber_b4 n ((((10 : Int32) * x1) + (M 114 0)) - (48 : Int32)) (x2 + (1 : Int32)) q4)
    else
    (Option.bind (g4_fail (2 : Int32) M) fun q6 =>
    if (q6.1) = 0 ∨ (q6.1) = 1 then
    some (q6.1, q6.2)
    else none))))
set_option maxHeartbeats 4000000 in
set_option maxRecDepth 20000 in
theorem v4_readNumber_b4 {G : xG} (hC : xC G cX4_readNumber 3 RX4 1) {R : Int32 × xMem} (hR : xRZ G cX4_readNumber 3 R) : ∀ (n : Nat) (x1 x2 : Int32) (M : xMem), g4_readNumber_b4 n x1 x2 M = some R → V G 3 4 [(0, .inr 126), (1, .inl x1), (2, .inl x2)] [] M := by
  intro n
  induction n with
  | zero => intro x1 x2 M h; rw [g4_readNumber_b4] at h; cases h
  | succ n ih =>
    intro x1 x2 M h
    rw [g4_readNumber_b4] at h
    refine V.aload_n (r := 5) hC 0 dX4_readNumber_4 rfl rfl ?_
    refine V.getI (b := 114) (i := 0) (j := 4) (r := 8) hC xcl_4 sh_126 fl_RX4_32 dX4_readNumber_5 (by decide) rfl rfl ?_
    refine V.bipush (r := 10) hC dX4_readNumber_8 kb_48 rfl ?_
    refine V.icmp_lt (tgt := 62) (r := 13) hC dX4_readNumber_10 (by decide) rfl (fun c1 => ?_) (fun c1 => ?_)
    · rw [if_pos c1] at h
      refine V.pick (lv' := [(0, .inr 126), (1, .inl x1)]) [0, 1] rfl ?_
      exact v4_readNumber_b62  hC hR  _ _ h
    · rw [if_neg c1] at h
      refine V.aload_n (r := 14) hC 0 dX4_readNumber_13 rfl rfl ?_
      refine V.getI (b := 114) (i := 0) (j := 4) (r := 17) hC xcl_4 sh_126 fl_RX4_32 dX4_readNumber_14 (by decide) rfl rfl ?_
      refine V.bipush (r := 19) hC dX4_readNumber_17 kb_57 rfl ?_
      refine V.icmp_gt (tgt := 62) (r := 22) hC dX4_readNumber_19 (by decide) rfl (fun c2 => ?_) (fun c2 => ?_)
      · rw [if_pos c2] at h
        refine V.pick (lv' := [(0, .inr 126), (1, .inl x1)]) [0, 1] rfl ?_
        exact v4_readNumber_b62  hC hR  _ _ h
      · rw [if_neg c2] at h
        refine V.iload_n (r := 23) hC 2 dX4_readNumber_22 rfl rfl ?_
        refine V.iconst (r := 24) hC dX4_readNumber_23 ki_5 rfl ?_
        refine V.icmp_lt (tgt := 33) (r := 27) hC dX4_readNumber_24 (by decide) rfl (fun c3 => ?_) (fun c3 => ?_)
        · rw [if_pos c3] at h
          refine V.bipush (r := 35) hC dX4_readNumber_33 kb_10 rfl ?_
          refine V.iload_n (r := 36) hC 1 dX4_readNumber_35 rfl rfl ?_
          refine V.imul (r := 37) hC dX4_readNumber_36 rfl ?_
          refine V.aload_n (r := 38) hC 0 dX4_readNumber_37 rfl rfl ?_
          refine V.getI (b := 114) (i := 0) (j := 4) (r := 41) hC xcl_4 sh_126 fl_RX4_32 dX4_readNumber_38 (by decide) rfl rfl ?_
          refine V.iadd (r := 42) hC dX4_readNumber_41 rfl ?_
          refine V.bipush (r := 44) hC dX4_readNumber_42 kb_48 rfl ?_
          refine V.isub (r := 45) hC dX4_readNumber_44 rfl ?_
          refine V.ist_n (lv' := [(0, .inr 126), (1, .inl ((((10 : Int32) * x1) + (M 114 0)) - (48 : Int32))), (2, .inl x2)]) (r := 46) hC dX4_readNumber_45 rfl rfl rfl ?_
          refine V.aload_n (r := 47) hC 0 dX4_readNumber_46 rfl rfl ?_
          refine V.aload_n (r := 48) hC 0 dX4_readNumber_47 rfl rfl ?_
          refine V.getI (b := 112) (i := 0) (j := 2) (r := 51) hC xcl_4 sh_126 fl_RX4_25 dX4_readNumber_48 (by decide) rfl rfl ?_
          refine V.iconst (r := 52) hC dX4_readNumber_51 ki_1 rfl ?_
          refine V.iadd (r := 53) hC dX4_readNumber_52 rfl ?_
          obtain ⟨q4, hq5, h⟩ := Option.bind_eq_some_iff.mp h
          try dsimp only at h
          refine V.invVv (as := [.inl ((M 112 0) + (1 : Int32))]) (st := []) (r := 56) hC (met4_goTo hq5) yv_X4_goTo ml_RX4_41 sh_126 rfl rfl dX4_readNumber_53 (by decide) rfl rfl rfl rfl ?_
          refine V.inc (lv' := [(0, .inr 126), (1, .inl ((((10 : Int32) * x1) + (M 114 0)) - (48 : Int32))), (2, .inl (x2 + (1 : Int32)))]) (r := 59) hC 2 dX4_readNumber_56 rfl ki_1 rfl rfl rfl ?_
          refine V.goto (tgt := 4) hC dX4_readNumber_59 (by decide) ?_
          exact ih _ _ _ h
        · rw [if_neg c3] at h
          refine V.aload_n (r := 28) hC 0 dX4_readNumber_27 rfl rfl ?_
          refine V.iconst (r := 29) hC dX4_readNumber_28 ki_2 rfl ?_
          obtain ⟨q6, hq7, h⟩ := Option.bind_eq_some_iff.mp h
          try dsimp only at h
          refine V.invVi (as := [.inl (2 : Int32)]) (st := []) (r := 32) hC (met4_fail hq7) yv_X4_fail ml_RX4_62 sh_126 rfl rfl dX4_readNumber_29 (by decide) rfl rfl rfl rfl ?_
          by_cases c8 : ¬ ((q6.1) = 0 ∨ (q6.1) = 1)
          · rw [if_neg c8] at h; cases h
          replace c8 := Classical.not_not.mp c8
          rw [if_pos c8] at h
          cases h
          exact hR _ _ c8 dX4_readNumber_32
def g4_readNumber (M : xMem) : Option (Int32 × xMem) :=
g4_readNumber_b4 5000 (0 : Int32) (0 : Int32) M
set_option maxHeartbeats 4000000 in
set_option maxRecDepth 20000 in
theorem v4_readNumber {G : xG} (hC : xC G cX4_readNumber 3 RX4 1) {R : Int32 × xMem} (hR : xRZ G cX4_readNumber 3 R) {M : xMem} (h : g4_readNumber M = some R) : V G 3 0 [(0, .inr 126)] [] M := by
  unfold g4_readNumber at h
  refine V.iconst (r := 1) hC dX4_readNumber_0 ki_0 rfl ?_
  refine V.ist_n (lv' := [(0, .inr 126), (1, .inl (0 : Int32))]) (r := 2) hC dX4_readNumber_1 rfl rfl rfl ?_
  refine V.iconst (r := 3) hC dX4_readNumber_2 ki_0 rfl ?_
  refine V.ist_n (lv' := [(0, .inr 126), (1, .inl (0 : Int32)), (2, .inl (0 : Int32))]) (r := 4) hC dX4_readNumber_3 rfl rfl rfl ?_
  exact v4_readNumber_b4  hC hR  5000 _ _ _ h
theorem met4_readNumber {R : Int32 × xMem} {M : xMem} (h : g4_readNumber M = some R) : xMet yX4_readNumber cX4_readNumber 3 (some .boolean) 1 [.inr 126] M (some R.1) R.2 := xMet.ofZ (by decide +kernel) (Nat.le_of_ble_eq_true rfl) fun _ hC hR => v4_readNumber  hC hR h
def g4_readTerm_b78 (rF : Int32 → xMem → Option (Int32 × xMem)) (k4 : Int32 → Int32 → Int32 → xMem → Option (Int32 × xMem)) (x1 x3 s0 : Int32) (M : xMem) : Option (Int32 × xMem) :=
if s0 = 0 then
(some ((1 : Int32), M))
else
(Option.bind (g4_goTo ((M 112 0) + (1 : Int32)) M) fun q15 =>
k4 x1 s0 (x3 + (1 : Int32)) q15)
set_option maxHeartbeats 4000000 in
set_option maxRecDepth 20000 in
theorem v4_readTerm_b78 {G : xG} {rF : Int32 → xMem → Option (Int32 × xMem)} {dF : Nat} (hrF : ∀ (a : Int32) (N : xMem) (Q : Int32 × xMem), rF a N = some Q → xMet yX4_readFactor cX4_readFactor 3 (some .boolean) dF [.inr 126, .inl a] N (some Q.1) Q.2) (hdF : 12 ≤ dF) (hC : xC G cX4_readTerm 4 RX4 (dF + 1)) {R : Int32 × xMem} (hR : xRZ G cX4_readTerm 4 R) {k4 : Int32 → Int32 → Int32 → xMem → Option (Int32 × xMem)} (hk4 : ∀ (y1 y2 y3 : Int32) (N : xMem), k4 y1 y2 y3 N = some R → V G 4 4 [(0, .inr 126), (1, .inl y1), (2, .inl y2), (3, .inl y3)] [] N) (x1 x3 s0 : Int32) (M : xMem) (h : g4_readTerm_b78 rF k4 x1 x3 s0 M = some R) : V G 4 78 [(0, .inr 126), (1, .inl x1), (3, .inl x3)] [.inl s0] M := by
  unfold g4_readTerm_b78 at h
  refine V.ist_n (lv' := [(0, .inr 126), (1, .inl x1), (2, .inl s0), (3, .inl x3)]) (r := 79) hC dX4_readTerm_78 rfl rfl rfl ?_
  refine V.iload_n (r := 80) hC 2 dX4_readTerm_79 rfl rfl ?_
  refine V.if_ne (tgt := 85) (r := 83) hC dX4_readTerm_80 (by decide) rfl (fun c14 => ?_) (fun c14 => ?_)
  · rw [if_neg c14] at h
    refine V.aload_n (r := 86) hC 0 dX4_readTerm_85 rfl rfl ?_
    refine V.aload_n (r := 87) hC 0 dX4_readTerm_86 rfl rfl ?_
    refine V.getI (b := 112) (i := 0) (j := 2) (r := 90) hC xcl_4 sh_126 fl_RX4_25 dX4_readTerm_87 (by decide) rfl rfl ?_
    refine V.iconst (r := 91) hC dX4_readTerm_90 ki_1 rfl ?_
    refine V.iadd (r := 92) hC dX4_readTerm_91 rfl ?_
    obtain ⟨q15, hq16, h⟩ := Option.bind_eq_some_iff.mp h
    try dsimp only at h
    refine V.invVv (as := [.inl ((M 112 0) + (1 : Int32))]) (st := []) (r := 95) hC (met4_goTo hq16) yv_X4_goTo ml_RX4_41 sh_126 rfl rfl dX4_readTerm_92 (by omega) rfl rfl rfl rfl ?_
    refine V.inc (lv' := [(0, .inr 126), (1, .inl x1), (2, .inl s0), (3, .inl (x3 + (1 : Int32)))]) (r := 98) hC 3 dX4_readTerm_95 rfl ki_1 rfl rfl rfl ?_
    refine V.goto (tgt := 4) hC dX4_readTerm_98 (by decide) ?_
    exact hk4 _ _ _ _ h
  · rw [if_pos c14] at h
    refine V.iconst (r := 84) hC dX4_readTerm_83 ki_1 rfl ?_
    cases h
    exact hR _ _ (Or.inr rfl) dX4_readTerm_84
def g4_readTerm_b35 (rF : Int32 → xMem → Option (Int32 × xMem)) (k4 : Int32 → Int32 → Int32 → xMem → Option (Int32 × xMem)) (x1 x3 : Int32) (M : xMem) : Option (Int32 × xMem) :=
if (M 114 0) = (42 : Int32) then
(g4_readTerm_b78 rF k4 x1 x3 (8 : Int32) M)
else
(if (M 114 0) = (47 : Int32) then
(g4_readTerm_b78 rF k4 x1 x3 (9 : Int32) M)
else
(if (M 114 0) = (37 : Int32) then
(g4_readTerm_b78 rF k4 x1 x3 (10 : Int32) M)
else
(g4_readTerm_b78 rF k4 x1 x3 (0 : Int32) M)))
set_option maxHeartbeats 4000000 in
set_option maxRecDepth 20000 in
theorem v4_readTerm_b35 {G : xG} {rF : Int32 → xMem → Option (Int32 × xMem)} {dF : Nat} (hrF : ∀ (a : Int32) (N : xMem) (Q : Int32 × xMem), rF a N = some Q → xMet yX4_readFactor cX4_readFactor 3 (some .boolean) dF [.inr 126, .inl a] N (some Q.1) Q.2) (hdF : 12 ≤ dF) (hC : xC G cX4_readTerm 4 RX4 (dF + 1)) {R : Int32 × xMem} (hR : xRZ G cX4_readTerm 4 R) {k4 : Int32 → Int32 → Int32 → xMem → Option (Int32 × xMem)} (hk4 : ∀ (y1 y2 y3 : Int32) (N : xMem), k4 y1 y2 y3 N = some R → V G 4 4 [(0, .inr 126), (1, .inl y1), (2, .inl y2), (3, .inl y3)] [] N) (x1 x3 : Int32) (M : xMem) (h : g4_readTerm_b35 rF k4 x1 x3 M = some R) : V G 4 35 [(0, .inr 126), (1, .inl x1), (3, .inl x3)] [] M := by
  unfold g4_readTerm_b35 at h
  refine V.aload_n (r := 36) hC 0 dX4_readTerm_35 rfl rfl ?_
  refine V.getI (b := 114) (i := 0) (j := 4) (r := 39) hC xcl_4 sh_126 fl_RX4_32 dX4_readTerm_36 (by decide) rfl rfl ?_
  refine V.bipush (r := 41) hC dX4_readTerm_39 kb_42 rfl ?_
  refine V.icmp_ne (tgt := 49) (r := 44) hC dX4_readTerm_41 (by decide) rfl (fun c11 => ?_) (fun c11 => ?_)
  · rw [if_neg c11] at h
    refine V.aload_n (r := 50) hC 0 dX4_readTerm_49 rfl rfl ?_
    refine V.getI (b := 114) (i := 0) (j := 4) (r := 53) hC xcl_4 sh_126 fl_RX4_32 dX4_readTerm_50 (by decide) rfl rfl ?_
    refine V.bipush (r := 55) hC dX4_readTerm_53 kb_47 rfl ?_
    refine V.icmp_ne (tgt := 63) (r := 58) hC dX4_readTerm_55 (by decide) rfl (fun c12 => ?_) (fun c12 => ?_)
    · rw [if_neg c12] at h
      refine V.aload_n (r := 64) hC 0 dX4_readTerm_63 rfl rfl ?_
      refine V.getI (b := 114) (i := 0) (j := 4) (r := 67) hC xcl_4 sh_126 fl_RX4_32 dX4_readTerm_64 (by decide) rfl rfl ?_
      refine V.bipush (r := 69) hC dX4_readTerm_67 kb_37 rfl ?_
      refine V.icmp_ne (tgt := 77) (r := 72) hC dX4_readTerm_69 (by decide) rfl (fun c13 => ?_) (fun c13 => ?_)
      · rw [if_neg c13] at h
        refine V.iconst (r := 78) hC dX4_readTerm_77 ki_0 rfl ?_
        exact v4_readTerm_b78 hrF hdF hC hR hk4 _ _ _ _ h
      · rw [if_pos c13] at h
        refine V.bipush (r := 74) hC dX4_readTerm_72 kb_10 rfl ?_
        refine V.goto (tgt := 78) hC dX4_readTerm_74 (by decide) ?_
        exact v4_readTerm_b78 hrF hdF hC hR hk4 _ _ _ _ h
    · rw [if_pos c12] at h
      refine V.bipush (r := 60) hC dX4_readTerm_58 kb_9 rfl ?_
      refine V.goto (tgt := 78) hC dX4_readTerm_60 (by decide) ?_
      exact v4_readTerm_b78 hrF hdF hC hR hk4 _ _ _ _ h
  · rw [if_pos c11] at h
    refine V.bipush (r := 46) hC dX4_readTerm_44 kb_8 rfl ?_
    refine V.goto (tgt := 78) hC dX4_readTerm_46 (by decide) ?_
    exact v4_readTerm_b78 hrF hdF hC hR hk4 _ _ _ _ h
def g4_readTerm_b4 (rF : Int32 → xMem → Option (Int32 × xMem)) : Nat → Int32 → Int32 → Int32 → xMem → Option (Int32 × xMem)
  | 0, _, _, _, _ => none
  | n + 1, x1, x2, x3, M => 
    (if (240 : Int32) ≤ x3 then
    (Option.bind (g4_fail (1 : Int32) M) fun q2 =>
    if (q2.1) = 0 ∨ (q2.1) = 1 then
    some (q2.1, q2.2)
    else none)
    else
    (Option.bind (rF x1 M) fun q5 =>
    if (q5.1) = 0 then
    (some ((0 : Int32), q5.2))
    else
    (if x2 = 0 then
    (g4_readTerm_b35 rF (g4_readTerm_b4 rF n) x1 x3 q5.2)
    else
    (Option.bind (g3_add x2 (0 : Int32) q5.2) fun q9 =>
    g4_readTerm_b35 rF (g4_readTerm_b4 rF n) x1 x3 q9.2))))
set_option maxHeartbeats 4000000 in
set_option maxRecDepth 20000 in
theorem v4_readTerm_b4 {G : xG} {rF : Int32 → xMem → Option (Int32 × xMem)} {dF : Nat} (hrF : ∀ (a : Int32) (N : xMem) (Q : Int32 × xMem), rF a N = some Q → xMet yX4_readFactor cX4_readFactor 3 (some .boolean) dF [.inr 126, .inl a] N (some Q.1) Q.2) (hdF : 12 ≤ dF) (hC : xC G cX4_readTerm 4 RX4 (dF + 1)) {R : Int32 × xMem} (hR : xRZ G cX4_readTerm 4 R) : ∀ (n : Nat) (x1 x2 x3 : Int32) (M : xMem), g4_readTerm_b4 rF n x1 x2 x3 M = some R → V G 4 4 [(0, .inr 126), (1, .inl x1), (2, .inl x2), (3, .inl x3)] [] M := by
  intro n
  induction n with
  | zero => intro x1 x2 x3 M h; rw [g4_readTerm_b4] at h; cases h
  | succ n ih =>
    intro x1 x2 x3 M h
    rw [g4_readTerm_b4] at h
    refine V.iload_n (r := 5) hC 3 dX4_readTerm_4 rfl rfl ?_
    refine V.sipush (r := 8) hC dX4_readTerm_5 ks_240 rfl ?_
    refine V.icmp_ge (tgt := 101) (r := 11) hC dX4_readTerm_8 (by decide) rfl (fun c1 => ?_) (fun c1 => ?_)
    · rw [if_pos c1] at h
      refine V.aload_n (r := 102) hC 0 dX4_readTerm_101 rfl rfl ?_
      refine V.iconst (r := 103) hC dX4_readTerm_102 ki_1 rfl ?_
      obtain ⟨q2, hq3, h⟩ := Option.bind_eq_some_iff.mp h
      try dsimp only at h
      refine V.invVi (as := [.inl (1 : Int32)]) (st := []) (r := 106) hC (met4_fail hq3) yv_X4_fail ml_RX4_62 sh_126 rfl rfl dX4_readTerm_103 (by omega) rfl rfl rfl rfl ?_
      by_cases c4 : ¬ ((q2.1) = 0 ∨ (q2.1) = 1)
      · rw [if_neg c4] at h; cases h
      replace c4 := Classical.not_not.mp c4
      rw [if_pos c4] at h
      cases h
      exact hR _ _ c4 dX4_readTerm_106
    · rw [if_neg c1] at h
      refine V.aload_n (r := 12) hC 0 dX4_readTerm_11 rfl rfl ?_
      refine V.iload_n (r := 13) hC 1 dX4_readTerm_12 rfl rfl ?_
      obtain ⟨q5, hq6, h⟩ := Option.bind_eq_some_iff.mp h
      try dsimp only at h
      refine V.invVi (as := [.inl x1]) (st := []) (r := 16) hC (hrF _ _ _ hq6) yv_X4_readFactor ml_RX4_97 sh_126 rfl rfl dX4_readTerm_13 (by omega) rfl rfl rfl rfl ?_
      refine V.if_ne (tgt := 21) (r := 19) hC dX4_readTerm_16 (by decide) rfl (fun c7 => ?_) (fun c7 => ?_)
      · rw [if_neg c7] at h
        refine V.iload_n (r := 22) hC 2 dX4_readTerm_21 rfl rfl ?_
        refine V.if_eq (tgt := 35) (r := 25) hC dX4_readTerm_22 (by decide) rfl (fun c8 => ?_) (fun c8 => ?_)
        · rw [if_pos c8] at h
          refine V.pick (lv' := [(0, .inr 126), (1, .inl x1), (3, .inl x3)]) [0, 1, 3] rfl ?_
          exact v4_readTerm_b35 hrF hdF hC hR ih _ _ _ h
        · rw [if_neg c8] at h
          refine V.aload_n (r := 26) hC 0 dX4_readTerm_25 rfl rfl ?_
          refine V.getR (k' := 129) (j := 1) (r := 29) hC xcl_4 sh_126 fl_RX4_21 dX4_readTerm_26 (by decide) rfl rfl ?_
          refine V.iload_n (r := 30) hC 2 dX4_readTerm_29 rfl rfl ?_
          refine V.iconst (r := 31) hC dX4_readTerm_30 ki_0 rfl ?_
          obtain ⟨q9, hq10, h⟩ := Option.bind_eq_some_iff.mp h
          try dsimp only at h
          refine V.invVi (as := [.inl x2, .inl (0 : Int32)]) (st := []) (r := 34) hC (met3_add hq10) yv_X3_add ml_RX4_71 sh_129 rfl rfl dX4_readTerm_31 (by omega) rfl rfl rfl rfl ?_
          refine V.pop (r := 35) hC dX4_readTerm_34 rfl ?_
          refine V.pick (lv' := [(0, .inr 126), (1, .inl x1), (3, .inl x3)]) [0, 1, 3] rfl ?_
          exact v4_readTerm_b35 hrF hdF hC hR ih _ _ _ h
      · rw [if_pos c7] at h
        refine V.iconst (r := 20) hC dX4_readTerm_19 ki_0 rfl ?_
        cases h
        exact hR _ _ (Or.inl rfl) dX4_readTerm_20
def g4_readTerm (rF : Int32 → xMem → Option (Int32 × xMem)) (a0 : Int32) (M : xMem) : Option (Int32 × xMem) :=
g4_readTerm_b4 rF 5000 a0 (0 : Int32) (0 : Int32) M
set_option maxHeartbeats 4000000 in
set_option maxRecDepth 20000 in
theorem v4_readTerm {G : xG} {rF : Int32 → xMem → Option (Int32 × xMem)} {dF : Nat} (hrF : ∀ (a : Int32) (N : xMem) (Q : Int32 × xMem), rF a N = some Q → xMet yX4_readFactor cX4_readFactor 3 (some .boolean) dF [.inr 126, .inl a] N (some Q.1) Q.2) (hdF : 12 ≤ dF) (hC : xC G cX4_readTerm 4 RX4 (dF + 1)) {R : Int32 × xMem} (hR : xRZ G cX4_readTerm 4 R) {a0 : Int32} {M : xMem} (h : g4_readTerm rF a0 M = some R) : V G 4 0 [(0, .inr 126), (1, .inl a0)] [] M := by
  unfold g4_readTerm at h
  refine V.iconst (r := 1) hC dX4_readTerm_0 ki_0 rfl ?_
  refine V.ist_n (lv' := [(0, .inr 126), (1, .inl a0), (2, .inl (0 : Int32))]) (r := 2) hC dX4_readTerm_1 rfl rfl rfl ?_
  refine V.iconst (r := 3) hC dX4_readTerm_2 ki_0 rfl ?_
  refine V.ist_n (lv' := [(0, .inr 126), (1, .inl a0), (2, .inl (0 : Int32)), (3, .inl (0 : Int32))]) (r := 4) hC dX4_readTerm_3 rfl rfl rfl ?_
  exact v4_readTerm_b4 hrF hdF hC hR  5000 _ _ _ _ h
theorem met4_readTerm {rF : Int32 → xMem → Option (Int32 × xMem)} {dF : Nat} (hrF : ∀ (a : Int32) (N : xMem) (Q : Int32 × xMem), rF a N = some Q → xMet yX4_readFactor cX4_readFactor 3 (some .boolean) dF [.inr 126, .inl a] N (some Q.1) Q.2) (hdF : 12 ≤ dF) {R : Int32 × xMem} {a0 : Int32} {M : xMem} (h : g4_readTerm rF a0 M = some R) : xMet yX4_readTerm cX4_readTerm 4 (some .boolean) ((dF + 1)) [.inr 126, .inl a0] M (some R.1) R.2 := xMet.ofZ (by decide +kernel) (Nat.le_of_ble_eq_true rfl) fun _ hC hR => v4_readTerm hrF hdF hC hR h
def g4_readSum_b64 (rF : Int32 → xMem → Option (Int32 × xMem)) (k4 : Int32 → Int32 → Int32 → xMem → Option (Int32 × xMem)) (x1 x3 s0 : Int32) (M : xMem) : Option (Int32 × xMem) :=
if s0 = 0 then
(some ((1 : Int32), M))
else
(Option.bind (g4_goTo ((M 112 0) + (1 : Int32)) M) fun q14 =>
k4 x1 s0 (x3 + (1 : Int32)) q14)
set_option maxHeartbeats 4000000 in
set_option maxRecDepth 20000 in
theorem v4_readSum_b64 {G : xG} {rF : Int32 → xMem → Option (Int32 × xMem)} {dF : Nat} (hrF : ∀ (a : Int32) (N : xMem) (Q : Int32 × xMem), rF a N = some Q → xMet yX4_readFactor cX4_readFactor 3 (some .boolean) dF [.inr 126, .inl a] N (some Q.1) Q.2) (hdF : 12 ≤ dF) (hC : xC G cX4_readSum 4 RX4 (dF + 2)) {R : Int32 × xMem} (hR : xRZ G cX4_readSum 4 R) {k4 : Int32 → Int32 → Int32 → xMem → Option (Int32 × xMem)} (hk4 : ∀ (y1 y2 y3 : Int32) (N : xMem), k4 y1 y2 y3 N = some R → V G 4 4 [(0, .inr 126), (1, .inl y1), (2, .inl y2), (3, .inl y3)] [] N) (x1 x3 s0 : Int32) (M : xMem) (h : g4_readSum_b64 rF k4 x1 x3 s0 M = some R) : V G 4 64 [(0, .inr 126), (1, .inl x1), (3, .inl x3)] [.inl s0] M := by
  unfold g4_readSum_b64 at h
  refine V.ist_n (lv' := [(0, .inr 126), (1, .inl x1), (2, .inl s0), (3, .inl x3)]) (r := 65) hC dX4_readSum_64 rfl rfl rfl ?_
  refine V.iload_n (r := 66) hC 2 dX4_readSum_65 rfl rfl ?_
  refine V.if_ne (tgt := 71) (r := 69) hC dX4_readSum_66 (by decide) rfl (fun c13 => ?_) (fun c13 => ?_)
  · rw [if_neg c13] at h
    refine V.aload_n (r := 72) hC 0 dX4_readSum_71 rfl rfl ?_
    refine V.aload_n (r := 73) hC 0 dX4_readSum_72 rfl rfl ?_
    refine V.getI (b := 112) (i := 0) (j := 2) (r := 76) hC xcl_4 sh_126 fl_RX4_25 dX4_readSum_73 (by decide) rfl rfl ?_
    refine V.iconst (r := 77) hC dX4_readSum_76 ki_1 rfl ?_
    refine V.iadd (r := 78) hC dX4_readSum_77 rfl ?_
    obtain ⟨q14, hq15, h⟩ := Option.bind_eq_some_iff.mp h
    try dsimp only at h
    refine V.invVv (as := [.inl ((M 112 0) + (1 : Int32))]) (st := []) (r := 81) hC (met4_goTo hq15) yv_X4_goTo ml_RX4_41 sh_126 rfl rfl dX4_readSum_78 (by omega) rfl rfl rfl rfl ?_
    refine V.inc (lv' := [(0, .inr 126), (1, .inl x1), (2, .inl s0), (3, .inl (x3 + (1 : Int32)))]) (r := 84) hC 3 dX4_readSum_81 rfl ki_1 rfl rfl rfl ?_
    refine V.goto (tgt := 4) hC dX4_readSum_84 (by decide) ?_
    exact hk4 _ _ _ _ h
  · rw [if_pos c13] at h
    refine V.iconst (r := 70) hC dX4_readSum_69 ki_1 rfl ?_
    cases h
    exact hR _ _ (Or.inr rfl) dX4_readSum_70
def g4_readSum_b35 (rF : Int32 → xMem → Option (Int32 × xMem)) (k4 : Int32 → Int32 → Int32 → xMem → Option (Int32 × xMem)) (x1 x3 : Int32) (M : xMem) : Option (Int32 × xMem) :=
if (M 114 0) = (43 : Int32) then
(g4_readSum_b64 rF k4 x1 x3 (6 : Int32) M)
else
(if (M 114 0) = (45 : Int32) then
(g4_readSum_b64 rF k4 x1 x3 (7 : Int32) M)
else
(g4_readSum_b64 rF k4 x1 x3 (0 : Int32) M))
set_option maxHeartbeats 4000000 in
set_option maxRecDepth 20000 in
theorem v4_readSum_b35 {G : xG} {rF : Int32 → xMem → Option (Int32 × xMem)} {dF : Nat} (hrF : ∀ (a : Int32) (N : xMem) (Q : Int32 × xMem), rF a N = some Q → xMet yX4_readFactor cX4_readFactor 3 (some .boolean) dF [.inr 126, .inl a] N (some Q.1) Q.2) (hdF : 12 ≤ dF) (hC : xC G cX4_readSum 4 RX4 (dF + 2)) {R : Int32 × xMem} (hR : xRZ G cX4_readSum 4 R) {k4 : Int32 → Int32 → Int32 → xMem → Option (Int32 × xMem)} (hk4 : ∀ (y1 y2 y3 : Int32) (N : xMem), k4 y1 y2 y3 N = some R → V G 4 4 [(0, .inr 126), (1, .inl y1), (2, .inl y2), (3, .inl y3)] [] N) (x1 x3 : Int32) (M : xMem) (h : g4_readSum_b35 rF k4 x1 x3 M = some R) : V G 4 35 [(0, .inr 126), (1, .inl x1), (3, .inl x3)] [] M := by
  unfold g4_readSum_b35 at h
  refine V.aload_n (r := 36) hC 0 dX4_readSum_35 rfl rfl ?_
  refine V.getI (b := 114) (i := 0) (j := 4) (r := 39) hC xcl_4 sh_126 fl_RX4_32 dX4_readSum_36 (by decide) rfl rfl ?_
  refine V.bipush (r := 41) hC dX4_readSum_39 kb_43 rfl ?_
  refine V.icmp_ne (tgt := 49) (r := 44) hC dX4_readSum_41 (by decide) rfl (fun c11 => ?_) (fun c11 => ?_)
  · rw [if_neg c11] at h
    refine V.aload_n (r := 50) hC 0 dX4_readSum_49 rfl rfl ?_
    refine V.getI (b := 114) (i := 0) (j := 4) (r := 53) hC xcl_4 sh_126 fl_RX4_32 dX4_readSum_50 (by decide) rfl rfl ?_
    refine V.bipush (r := 55) hC dX4_readSum_53 kb_45 rfl ?_
    refine V.icmp_ne (tgt := 63) (r := 58) hC dX4_readSum_55 (by decide) rfl (fun c12 => ?_) (fun c12 => ?_)
    · rw [if_neg c12] at h
      refine V.iconst (r := 64) hC dX4_readSum_63 ki_0 rfl ?_
      exact v4_readSum_b64 hrF hdF hC hR hk4 _ _ _ _ h
    · rw [if_pos c12] at h
      refine V.bipush (r := 60) hC dX4_readSum_58 kb_7 rfl ?_
      refine V.goto (tgt := 64) hC dX4_readSum_60 (by decide) ?_
      exact v4_readSum_b64 hrF hdF hC hR hk4 _ _ _ _ h
  · rw [if_pos c11] at h
    refine V.bipush (r := 46) hC dX4_readSum_44 kb_6 rfl ?_
    refine V.goto (tgt := 64) hC dX4_readSum_46 (by decide) ?_
    exact v4_readSum_b64 hrF hdF hC hR hk4 _ _ _ _ h
def g4_readSum_b4 (rF : Int32 → xMem → Option (Int32 × xMem)) : Nat → Int32 → Int32 → Int32 → xMem → Option (Int32 × xMem)
  | 0, _, _, _, _ => none
  | n + 1, x1, x2, x3, M => 
    (if (240 : Int32) ≤ x3 then
    (Option.bind (g4_fail (1 : Int32) M) fun q2 =>
    if (q2.1) = 0 ∨ (q2.1) = 1 then
    some (q2.1, q2.2)
    else none)
    else
    (Option.bind (g4_readTerm rF x1 M) fun q5 =>
    if (q5.1) = 0 then
    (some ((0 : Int32), q5.2))
    else
    (if x2 = 0 then
    (g4_readSum_b35 rF (g4_readSum_b4 rF n) x1 x3 q5.2)
    else
    (Option.bind (g3_add x2 (0 : Int32) q5.2) fun q9 =>
    g4_readSum_b35 rF (g4_readSum_b4 rF n) x1 x3 q9.2))))
set_option maxHeartbeats 4000000 in
set_option maxRecDepth 20000 in
theorem v4_readSum_b4 {G : xG} {rF : Int32 → xMem → Option (Int32 × xMem)} {dF : Nat} (hrF : ∀ (a : Int32) (N : xMem) (Q : Int32 × xMem), rF a N = some Q → xMet yX4_readFactor cX4_readFactor 3 (some .boolean) dF [.inr 126, .inl a] N (some Q.1) Q.2) (hdF : 12 ≤ dF) (hC : xC G cX4_readSum 4 RX4 (dF + 2)) {R : Int32 × xMem} (hR : xRZ G cX4_readSum 4 R) : ∀ (n : Nat) (x1 x2 x3 : Int32) (M : xMem), g4_readSum_b4 rF n x1 x2 x3 M = some R → V G 4 4 [(0, .inr 126), (1, .inl x1), (2, .inl x2), (3, .inl x3)] [] M := by
  intro n
  induction n with
  | zero => intro x1 x2 x3 M h; rw [g4_readSum_b4] at h; cases h
  | succ n ih =>
    intro x1 x2 x3 M h
    rw [g4_readSum_b4] at h
    refine V.iload_n (r := 5) hC 3 dX4_readSum_4 rfl rfl ?_
    refine V.sipush (r := 8) hC dX4_readSum_5 ks_240 rfl ?_
    refine V.icmp_ge (tgt := 87) (r := 11) hC dX4_readSum_8 (by decide) rfl (fun c1 => ?_) (fun c1 => ?_)
    · rw [if_pos c1] at h
      refine V.aload_n (r := 88) hC 0 dX4_readSum_87 rfl rfl ?_
      refine V.iconst (r := 89) hC dX4_readSum_88 ki_1 rfl ?_
      obtain ⟨q2, hq3, h⟩ := Option.bind_eq_some_iff.mp h
      try dsimp only at h
      refine V.invVi (as := [.inl (1 : Int32)]) (st := []) (r := 92) hC (met4_fail hq3) yv_X4_fail ml_RX4_62 sh_126 rfl rfl dX4_readSum_89 (by omega) rfl rfl rfl rfl ?_
      by_cases c4 : ¬ ((q2.1) = 0 ∨ (q2.1) = 1)
      · rw [if_neg c4] at h; cases h
      replace c4 := Classical.not_not.mp c4
      rw [if_pos c4] at h
      cases h
      exact hR _ _ c4 dX4_readSum_92
    · rw [if_neg c1] at h
      refine V.aload_n (r := 12) hC 0 dX4_readSum_11 rfl rfl ?_
      refine V.iload_n (r := 13) hC 1 dX4_readSum_12 rfl rfl ?_
      obtain ⟨q5, hq6, h⟩ := Option.bind_eq_some_iff.mp h
      try dsimp only at h
      refine V.invVi (as := [.inl x1]) (st := []) (r := 16) hC (met4_readTerm hrF hdF hq6) yv_X4_readTerm ml_RX4_94 sh_126 rfl rfl dX4_readSum_13 (by omega) rfl rfl rfl rfl ?_
      refine V.if_ne (tgt := 21) (r := 19) hC dX4_readSum_16 (by decide) rfl (fun c7 => ?_) (fun c7 => ?_)
      · rw [if_neg c7] at h
        refine V.iload_n (r := 22) hC 2 dX4_readSum_21 rfl rfl ?_
        refine V.if_eq (tgt := 35) (r := 25) hC dX4_readSum_22 (by decide) rfl (fun c8 => ?_) (fun c8 => ?_)
        · rw [if_pos c8] at h
          refine V.pick (lv' := [(0, .inr 126), (1, .inl x1), (3, .inl x3)]) [0, 1, 3] rfl ?_
          exact v4_readSum_b35 hrF hdF hC hR ih _ _ _ h
        · rw [if_neg c8] at h
          refine V.aload_n (r := 26) hC 0 dX4_readSum_25 rfl rfl ?_
          refine V.getR (k' := 129) (j := 1) (r := 29) hC xcl_4 sh_126 fl_RX4_21 dX4_readSum_26 (by decide) rfl rfl ?_
          refine V.iload_n (r := 30) hC 2 dX4_readSum_29 rfl rfl ?_
          refine V.iconst (r := 31) hC dX4_readSum_30 ki_0 rfl ?_
          obtain ⟨q9, hq10, h⟩ := Option.bind_eq_some_iff.mp h
          try dsimp only at h
          refine V.invVi (as := [.inl x2, .inl (0 : Int32)]) (st := []) (r := 34) hC (met3_add hq10) yv_X3_add ml_RX4_71 sh_129 rfl rfl dX4_readSum_31 (by omega) rfl rfl rfl rfl ?_
          refine V.pop (r := 35) hC dX4_readSum_34 rfl ?_
          refine V.pick (lv' := [(0, .inr 126), (1, .inl x1), (3, .inl x3)]) [0, 1, 3] rfl ?_
          exact v4_readSum_b35 hrF hdF hC hR ih _ _ _ h
      · rw [if_pos c7] at h
        refine V.iconst (r := 20) hC dX4_readSum_19 ki_0 rfl ?_
        cases h
        exact hR _ _ (Or.inl rfl) dX4_readSum_20
def g4_readSum (rF : Int32 → xMem → Option (Int32 × xMem)) (a0 : Int32) (M : xMem) : Option (Int32 × xMem) :=
g4_readSum_b4 rF 5000 a0 (0 : Int32) (0 : Int32) M
set_option maxHeartbeats 4000000 in
set_option maxRecDepth 20000 in
theorem v4_readSum {G : xG} {rF : Int32 → xMem → Option (Int32 × xMem)} {dF : Nat} (hrF : ∀ (a : Int32) (N : xMem) (Q : Int32 × xMem), rF a N = some Q → xMet yX4_readFactor cX4_readFactor 3 (some .boolean) dF [.inr 126, .inl a] N (some Q.1) Q.2) (hdF : 12 ≤ dF) (hC : xC G cX4_readSum 4 RX4 (dF + 2)) {R : Int32 × xMem} (hR : xRZ G cX4_readSum 4 R) {a0 : Int32} {M : xMem} (h : g4_readSum rF a0 M = some R) : V G 4 0 [(0, .inr 126), (1, .inl a0)] [] M := by
  unfold g4_readSum at h
  refine V.iconst (r := 1) hC dX4_readSum_0 ki_0 rfl ?_
  refine V.ist_n (lv' := [(0, .inr 126), (1, .inl a0), (2, .inl (0 : Int32))]) (r := 2) hC dX4_readSum_1 rfl rfl rfl ?_
  refine V.iconst (r := 3) hC dX4_readSum_2 ki_0 rfl ?_
  refine V.ist_n (lv' := [(0, .inr 126), (1, .inl a0), (2, .inl (0 : Int32)), (3, .inl (0 : Int32))]) (r := 4) hC dX4_readSum_3 rfl rfl rfl ?_
  exact v4_readSum_b4 hrF hdF hC hR  5000 _ _ _ _ h
theorem met4_readSum {rF : Int32 → xMem → Option (Int32 × xMem)} {dF : Nat} (hrF : ∀ (a : Int32) (N : xMem) (Q : Int32 × xMem), rF a N = some Q → xMet yX4_readFactor cX4_readFactor 3 (some .boolean) dF [.inr 126, .inl a] N (some Q.1) Q.2) (hdF : 12 ≤ dF) {R : Int32 × xMem} {a0 : Int32} {M : xMem} (h : g4_readSum rF a0 M = some R) : xMet yX4_readSum cX4_readSum 4 (some .boolean) ((dF + 2)) [.inr 126, .inl a0] M (some R.1) R.2 := xMet.ofZ (by decide +kernel) (Nat.le_of_ble_eq_true rfl) fun _ hC hR => v4_readSum hrF hdF hC hR h
def g4_readFactor_b23 (rF : Int32 → xMem → Option (Int32 × xMem)) (x1 : Int32) (M : xMem) : Option (Int32 × xMem) :=
if (M 114 0) = (91 : Int32) then
(if x1 < (6 : Int32) then
(Option.bind (g4_goTo ((M 112 0) + (1 : Int32)) M) fun q18 =>
Option.bind (g4_readSum rF (x1 + (1 : Int32)) q18) fun q20 =>
if (q20.1) = 0 then
(some ((0 : Int32), q20.2))
else
(Option.bind (g4_take (93 : Int32) q20.2) fun q23 =>
if (q23.1) = 0 then
(some ((0 : Int32), q23.2))
else
(some ((1 : Int32), q23.2))))
else
(Option.bind (g4_fail (5 : Int32) M) fun q26 =>
if (q26.1) = 0 ∨ (q26.1) = 1 then
some (q26.1, q26.2)
else none))
else
(Option.bind (g4_placeIn_1011 M) fun q7 =>
if (q7.1) = (-1 : Int32) then
(Option.bind (g4_fail (1 : Int32) q7.2) fun q14 =>
if (q14.1) = 0 ∨ (q14.1) = 1 then
some (q14.1, q14.2)
else none)
else
(Option.bind (g4_goTo ((q7.2 112 0) + (1 : Int32)) q7.2) fun q10 =>
Option.bind (g3_add (2 : Int32) (q7.1) q10) fun q12 =>
some ((1 : Int32), q12.2)))
set_option maxHeartbeats 4000000 in
set_option maxRecDepth 20000 in
theorem v4_readFactor_b23 {G : xG} {rF : Int32 → xMem → Option (Int32 × xMem)} {dF : Nat} (hrF : ∀ (a : Int32) (N : xMem) (Q : Int32 × xMem), rF a N = some Q → xMet yX4_readFactor cX4_readFactor 3 (some .boolean) dF [.inr 126, .inl a] N (some Q.1) Q.2) (hdF : 12 ≤ dF) (hC : xC G cX4_readFactor 3 RX4 (dF + 3)) {R : Int32 × xMem} (hR : xRZ G cX4_readFactor 3 R) (x1 : Int32) (M : xMem) (h : g4_readFactor_b23 rF x1 M = some R) : V G 3 23 [(0, .inr 126), (1, .inl x1)] [] M := by
  unfold g4_readFactor_b23 at h
  refine V.aload_n (r := 24) hC 0 dX4_readFactor_23 rfl rfl ?_
  refine V.getI (b := 114) (i := 0) (j := 4) (r := 27) hC xcl_4 sh_126 fl_RX4_32 dX4_readFactor_24 (by decide) rfl rfl ?_
  refine V.bipush (r := 29) hC dX4_readFactor_27 kb_91 rfl ?_
  refine V.icmp_ne (tgt := 79) (r := 32) hC dX4_readFactor_29 (by decide) rfl (fun c6 => ?_) (fun c6 => ?_)
  · rw [if_neg c6] at h
    refine V.aload_n (r := 80) hC 0 dX4_readFactor_79 rfl rfl ?_
    refine V.ldcS (r := 82) hC (j := 1) (by decide) dX4_readFactor_80 rfl ?_
    obtain ⟨q7, hq8, h⟩ := Option.bind_eq_some_iff.mp h
    try dsimp only at h
    refine V.invVi (as := [.inr 1011]) (st := []) (r := 85) hC (met4_placeIn_1011 hq8) yv_X4_placeIn ml_RX4_58 sh_126 rfl rfl dX4_readFactor_82 (by omega) rfl rfl rfl rfl ?_
    refine V.ist_n (lv' := [(0, .inr 126), (1, .inl x1), (2, .inl (q7.1))]) (r := 86) hC dX4_readFactor_85 rfl rfl rfl ?_
    refine V.iload_n (r := 87) hC 2 dX4_readFactor_86 rfl rfl ?_
    refine V.iconst (r := 88) hC dX4_readFactor_87 ki_m1 rfl ?_
    refine V.icmp_ne (tgt := 97) (r := 91) hC dX4_readFactor_88 (by decide) rfl (fun c9 => ?_) (fun c9 => ?_)
    · rw [if_neg c9] at h
      refine V.aload_n (r := 98) hC 0 dX4_readFactor_97 rfl rfl ?_
      refine V.aload_n (r := 99) hC 0 dX4_readFactor_98 rfl rfl ?_
      refine V.getI (b := 112) (i := 0) (j := 2) (r := 102) hC xcl_4 sh_126 fl_RX4_25 dX4_readFactor_99 (by decide) rfl rfl ?_
      refine V.iconst (r := 103) hC dX4_readFactor_102 ki_1 rfl ?_
      refine V.iadd (r := 104) hC dX4_readFactor_103 rfl ?_
      obtain ⟨q10, hq11, h⟩ := Option.bind_eq_some_iff.mp h
      try dsimp only at h
      refine V.invVv (as := [.inl ((q7.2 112 0) + (1 : Int32))]) (st := []) (r := 107) hC (met4_goTo hq11) yv_X4_goTo ml_RX4_41 sh_126 rfl rfl dX4_readFactor_104 (by omega) rfl rfl rfl rfl ?_
      refine V.aload_n (r := 108) hC 0 dX4_readFactor_107 rfl rfl ?_
      refine V.getR (k' := 129) (j := 1) (r := 111) hC xcl_4 sh_126 fl_RX4_21 dX4_readFactor_108 (by decide) rfl rfl ?_
      refine V.iconst (r := 112) hC dX4_readFactor_111 ki_2 rfl ?_
      refine V.iload_n (r := 113) hC 2 dX4_readFactor_112 rfl rfl ?_
      obtain ⟨q12, hq13, h⟩ := Option.bind_eq_some_iff.mp h
      try dsimp only at h
      refine V.invVi (as := [.inl (2 : Int32), .inl (q7.1)]) (st := []) (r := 116) hC (met3_add hq13) yv_X3_add ml_RX4_71 sh_129 rfl rfl dX4_readFactor_113 (by omega) rfl rfl rfl rfl ?_
      refine V.pop (r := 117) hC dX4_readFactor_116 rfl ?_
      refine V.iconst (r := 118) hC dX4_readFactor_117 ki_1 rfl ?_
      cases h
      exact hR _ _ (Or.inr rfl) dX4_readFactor_118
    · rw [if_pos c9] at h
      refine V.aload_n (r := 92) hC 0 dX4_readFactor_91 rfl rfl ?_
      refine V.iconst (r := 93) hC dX4_readFactor_92 ki_1 rfl ?_
      obtain ⟨q14, hq15, h⟩ := Option.bind_eq_some_iff.mp h
      try dsimp only at h
      refine V.invVi (as := [.inl (1 : Int32)]) (st := []) (r := 96) hC (met4_fail hq15) yv_X4_fail ml_RX4_62 sh_126 rfl rfl dX4_readFactor_93 (by omega) rfl rfl rfl rfl ?_
      by_cases c16 : ¬ ((q14.1) = 0 ∨ (q14.1) = 1)
      · rw [if_neg c16] at h; cases h
      replace c16 := Classical.not_not.mp c16
      rw [if_pos c16] at h
      cases h
      exact hR _ _ c16 dX4_readFactor_96
  · rw [if_pos c6] at h
    refine V.iload_n (r := 33) hC 1 dX4_readFactor_32 rfl rfl ?_
    refine V.bipush (r := 35) hC dX4_readFactor_33 kb_6 rfl ?_
    refine V.icmp_lt (tgt := 44) (r := 38) hC dX4_readFactor_35 (by decide) rfl (fun c17 => ?_) (fun c17 => ?_)
    · rw [if_pos c17] at h
      refine V.aload_n (r := 45) hC 0 dX4_readFactor_44 rfl rfl ?_
      refine V.aload_n (r := 46) hC 0 dX4_readFactor_45 rfl rfl ?_
      refine V.getI (b := 112) (i := 0) (j := 2) (r := 49) hC xcl_4 sh_126 fl_RX4_25 dX4_readFactor_46 (by decide) rfl rfl ?_
      refine V.iconst (r := 50) hC dX4_readFactor_49 ki_1 rfl ?_
      refine V.iadd (r := 51) hC dX4_readFactor_50 rfl ?_
      obtain ⟨q18, hq19, h⟩ := Option.bind_eq_some_iff.mp h
      try dsimp only at h
      refine V.invVv (as := [.inl ((M 112 0) + (1 : Int32))]) (st := []) (r := 54) hC (met4_goTo hq19) yv_X4_goTo ml_RX4_41 sh_126 rfl rfl dX4_readFactor_51 (by omega) rfl rfl rfl rfl ?_
      refine V.aload_n (r := 55) hC 0 dX4_readFactor_54 rfl rfl ?_
      refine V.iload_n (r := 56) hC 1 dX4_readFactor_55 rfl rfl ?_
      refine V.iconst (r := 57) hC dX4_readFactor_56 ki_1 rfl ?_
      refine V.iadd (r := 58) hC dX4_readFactor_57 rfl ?_
      obtain ⟨q20, hq21, h⟩ := Option.bind_eq_some_iff.mp h
      try dsimp only at h
      refine V.invVi (as := [.inl (x1 + (1 : Int32))]) (st := []) (r := 61) hC (met4_readSum hrF hdF hq21) yv_X4_readSum ml_RX4_68 sh_126 rfl rfl dX4_readFactor_58 (by omega) rfl rfl rfl rfl ?_
      refine V.if_eq (tgt := 77) (r := 64) hC dX4_readFactor_61 (by decide) rfl (fun c22 => ?_) (fun c22 => ?_)
      · rw [if_pos c22] at h
        refine V.iconst (r := 78) hC dX4_readFactor_77 ki_0 rfl ?_
        cases h
        exact hR _ _ (Or.inl rfl) dX4_readFactor_78
      · rw [if_neg c22] at h
        refine V.aload_n (r := 65) hC 0 dX4_readFactor_64 rfl rfl ?_
        refine V.bipush (r := 67) hC dX4_readFactor_65 kb_93 rfl ?_
        obtain ⟨q23, hq24, h⟩ := Option.bind_eq_some_iff.mp h
        try dsimp only at h
        refine V.invVi (as := [.inl (93 : Int32)]) (st := []) (r := 70) hC (met4_take hq24) yv_X4_take ml_RX4_52 sh_126 rfl rfl dX4_readFactor_67 (by omega) rfl rfl rfl rfl ?_
        refine V.if_eq (tgt := 77) (r := 73) hC dX4_readFactor_70 (by decide) rfl (fun c25 => ?_) (fun c25 => ?_)
        · rw [if_pos c25] at h
          refine V.iconst (r := 78) hC dX4_readFactor_77 ki_0 rfl ?_
          cases h
          exact hR _ _ (Or.inl rfl) dX4_readFactor_78
        · rw [if_neg c25] at h
          refine V.iconst (r := 74) hC dX4_readFactor_73 ki_1 rfl ?_
          refine V.goto (tgt := 78) hC dX4_readFactor_74 (by decide) ?_
          cases h
          exact hR _ _ (Or.inr rfl) dX4_readFactor_78
    · rw [if_neg c17] at h
      refine V.aload_n (r := 39) hC 0 dX4_readFactor_38 rfl rfl ?_
      refine V.iconst (r := 40) hC dX4_readFactor_39 ki_5 rfl ?_
      obtain ⟨q26, hq27, h⟩ := Option.bind_eq_some_iff.mp h
      try dsimp only at h
      refine V.invVi (as := [.inl (5 : Int32)]) (st := []) (r := 43) hC (met4_fail hq27) yv_X4_fail ml_RX4_62 sh_126 rfl rfl dX4_readFactor_40 (by omega) rfl rfl rfl rfl ?_
      by_cases c28 : ¬ ((q26.1) = 0 ∨ (q26.1) = 1)
      · rw [if_neg c28] at h; cases h
      replace c28 := Classical.not_not.mp c28
      rw [if_pos c28] at h
      cases h
      exact hR _ _ c28 dX4_readFactor_43
def g4_readFactor (rF : Int32 → xMem → Option (Int32 × xMem)) (a0 : Int32) (M : xMem) : Option (Int32 × xMem) :=
if (M 114 0) < (48 : Int32) then
(g4_readFactor_b23 rF a0 M)
else
(if (57 : Int32) < (M 114 0) then
(g4_readFactor_b23 rF a0 M)
else
(Option.bind (g4_readNumber M) fun q3 =>
if (q3.1) = 0 ∨ (q3.1) = 1 then
some (q3.1, q3.2)
else none))
set_option maxHeartbeats 4000000 in
set_option maxRecDepth 20000 in
theorem v4_readFactor {G : xG} {rF : Int32 → xMem → Option (Int32 × xMem)} {dF : Nat} (hrF : ∀ (a : Int32) (N : xMem) (Q : Int32 × xMem), rF a N = some Q → xMet yX4_readFactor cX4_readFactor 3 (some .boolean) dF [.inr 126, .inl a] N (some Q.1) Q.2) (hdF : 12 ≤ dF) (hC : xC G cX4_readFactor 3 RX4 (dF + 3)) {R : Int32 × xMem} (hR : xRZ G cX4_readFactor 3 R) {a0 : Int32} {M : xMem} (h : g4_readFactor rF a0 M = some R) : V G 3 0 [(0, .inr 126), (1, .inl a0)] [] M := by
  unfold g4_readFactor at h
  refine V.aload_n (r := 1) hC 0 dX4_readFactor_0 rfl rfl ?_
  refine V.getI (b := 114) (i := 0) (j := 4) (r := 4) hC xcl_4 sh_126 fl_RX4_32 dX4_readFactor_1 (by decide) rfl rfl ?_
  refine V.bipush (r := 6) hC dX4_readFactor_4 kb_48 rfl ?_
  refine V.icmp_lt (tgt := 23) (r := 9) hC dX4_readFactor_6 (by decide) rfl (fun c1 => ?_) (fun c1 => ?_)
  · rw [if_pos c1] at h
    exact v4_readFactor_b23 hrF hdF hC hR  _ _ h
  · rw [if_neg c1] at h
    refine V.aload_n (r := 10) hC 0 dX4_readFactor_9 rfl rfl ?_
    refine V.getI (b := 114) (i := 0) (j := 4) (r := 13) hC xcl_4 sh_126 fl_RX4_32 dX4_readFactor_10 (by decide) rfl rfl ?_
    refine V.bipush (r := 15) hC dX4_readFactor_13 kb_57 rfl ?_
    refine V.icmp_gt (tgt := 23) (r := 18) hC dX4_readFactor_15 (by decide) rfl (fun c2 => ?_) (fun c2 => ?_)
    · rw [if_pos c2] at h
      exact v4_readFactor_b23 hrF hdF hC hR  _ _ h
    · rw [if_neg c2] at h
      refine V.aload_n (r := 19) hC 0 dX4_readFactor_18 rfl rfl ?_
      obtain ⟨q3, hq4, h⟩ := Option.bind_eq_some_iff.mp h
      try dsimp only at h
      refine V.invVi (as := []) (st := []) (r := 22) hC (met4_readNumber hq4) yv_X4_readNumber ml_RX4_100 sh_126 rfl rfl dX4_readFactor_19 (by omega) rfl rfl rfl rfl ?_
      by_cases c5 : ¬ ((q3.1) = 0 ∨ (q3.1) = 1)
      · rw [if_neg c5] at h; cases h
      replace c5 := Classical.not_not.mp c5
      rw [if_pos c5] at h
      cases h
      exact hR _ _ c5 dX4_readFactor_22
theorem met4_readFactor {rF : Int32 → xMem → Option (Int32 × xMem)} {dF : Nat} (hrF : ∀ (a : Int32) (N : xMem) (Q : Int32 × xMem), rF a N = some Q → xMet yX4_readFactor cX4_readFactor 3 (some .boolean) dF [.inr 126, .inl a] N (some Q.1) Q.2) (hdF : 12 ≤ dF) {R : Int32 × xMem} {a0 : Int32} {M : xMem} (h : g4_readFactor rF a0 M = some R) : xMet yX4_readFactor cX4_readFactor 3 (some .boolean) ((dF + 3)) [.inr 126, .inl a0] M (some R.1) R.2 := xMet.ofZ (by decide +kernel) (Nat.le_of_ble_eq_true rfl) fun _ hC hR => v4_readFactor hrF hdF hC hR h
def g4_readFactor_rec : Nat → Int32 → xMem → Option (Int32 × xMem)
  | 0, _, _ => none
  | n + 1, a0, M => g4_readFactor (g4_readFactor_rec n) a0 M
theorem met4_readFactor_rec (n d : Nat) : 12 + 3 * n = d → ∀ (a0 : Int32) (M : xMem) (R : Int32 × xMem), g4_readFactor_rec n a0 M = some R → xMet yX4_readFactor cX4_readFactor 3 (some .boolean) d [.inr 126, .inl a0] M (some R.1) R.2 := by
  induction n generalizing d with
  | zero => intro hd a0 M R h; rw [g4_readFactor_rec] at h; cases h
  | succ n ih =>
    intro hd a0 M R h
    rw [g4_readFactor_rec] at h
    have e : d = (12 + 3 * n) + 3 := by omega
    subst e
    exact met4_readFactor (ih _ rfl) (by omega) h
theorem met4_readTerm_c {R : Int32 × xMem} {a0 : Int32} {M : xMem} (h : g4_readTerm (g4_readFactor_rec 20) a0 M = some R) : xMet yX4_readTerm cX4_readTerm 4 (some .boolean) 73 [.inr 126, .inl a0] M (some R.1) R.2 := met4_readTerm (met4_readFactor_rec 20 _ rfl) (by decide) h
theorem met4_readSum_c {R : Int32 × xMem} {a0 : Int32} {M : xMem} (h : g4_readSum (g4_readFactor_rec 20) a0 M = some R) : xMet yX4_readSum cX4_readSum 4 (some .boolean) 74 [.inr 126, .inl a0] M (some R.1) R.2 := met4_readSum (met4_readFactor_rec 20 _ rfl) (by decide) h
def g4_readComparison_b53 (x1 s0 : Int32) (M : xMem) : Option (Int32 × xMem) :=
if s0 = 0 then
(Option.bind (g4_fail (1 : Int32) M) fun q15 =>
if (q15.1) = 0 ∨ (q15.1) = 1 then
some (q15.1, q15.2)
else none)
else
(Option.bind (g4_goTo ((M 112 0) + (1 : Int32)) M) fun q8 =>
Option.bind (g4_readSum (g4_readFactor_rec 20) x1 q8) fun q10 =>
if (q10.1) = 0 then
(some ((0 : Int32), q10.2))
else
(Option.bind (g3_add s0 (0 : Int32) q10.2) fun q13 =>
some ((1 : Int32), q13.2)))
set_option maxHeartbeats 4000000 in
set_option maxRecDepth 20000 in
theorem v4_readComparison_b53 {G : xG} (hC : xC G cX4_readComparison 3 RX4 76) {R : Int32 × xMem} (hR : xRZ G cX4_readComparison 3 R) (x1 s0 : Int32) (M : xMem) (h : g4_readComparison_b53 x1 s0 M = some R) : V G 3 53 [(0, .inr 126), (1, .inl x1)] [.inl s0] M := by
  unfold g4_readComparison_b53 at h
  refine V.ist_n (lv' := [(0, .inr 126), (1, .inl x1), (2, .inl s0)]) (r := 54) hC dX4_readComparison_53 rfl rfl rfl ?_
  refine V.iload_n (r := 55) hC 2 dX4_readComparison_54 rfl rfl ?_
  refine V.if_ne (tgt := 64) (r := 58) hC dX4_readComparison_55 (by decide) rfl (fun c7 => ?_) (fun c7 => ?_)
  · rw [if_neg c7] at h
    refine V.aload_n (r := 65) hC 0 dX4_readComparison_64 rfl rfl ?_
    refine V.aload_n (r := 66) hC 0 dX4_readComparison_65 rfl rfl ?_
    refine V.getI (b := 112) (i := 0) (j := 2) (r := 69) hC xcl_4 sh_126 fl_RX4_25 dX4_readComparison_66 (by decide) rfl rfl ?_
    refine V.iconst (r := 70) hC dX4_readComparison_69 ki_1 rfl ?_
    refine V.iadd (r := 71) hC dX4_readComparison_70 rfl ?_
    obtain ⟨q8, hq9, h⟩ := Option.bind_eq_some_iff.mp h
    try dsimp only at h
    refine V.invVv (as := [.inl ((M 112 0) + (1 : Int32))]) (st := []) (r := 74) hC (met4_goTo hq9) yv_X4_goTo ml_RX4_41 sh_126 rfl rfl dX4_readComparison_71 (by decide) rfl rfl rfl rfl ?_
    refine V.aload_n (r := 75) hC 0 dX4_readComparison_74 rfl rfl ?_
    refine V.iload_n (r := 76) hC 1 dX4_readComparison_75 rfl rfl ?_
    obtain ⟨q10, hq11, h⟩ := Option.bind_eq_some_iff.mp h
    try dsimp only at h
    refine V.invVi (as := [.inl x1]) (st := []) (r := 79) hC (met4_readSum_c hq11) yv_X4_readSum ml_RX4_68 sh_126 rfl rfl dX4_readComparison_76 (by decide) rfl rfl rfl rfl ?_
    refine V.if_ne (tgt := 84) (r := 82) hC dX4_readComparison_79 (by decide) rfl (fun c12 => ?_) (fun c12 => ?_)
    · rw [if_neg c12] at h
      refine V.aload_n (r := 85) hC 0 dX4_readComparison_84 rfl rfl ?_
      refine V.getR (k' := 129) (j := 1) (r := 88) hC xcl_4 sh_126 fl_RX4_21 dX4_readComparison_85 (by decide) rfl rfl ?_
      refine V.iload_n (r := 89) hC 2 dX4_readComparison_88 rfl rfl ?_
      refine V.iconst (r := 90) hC dX4_readComparison_89 ki_0 rfl ?_
      obtain ⟨q13, hq14, h⟩ := Option.bind_eq_some_iff.mp h
      try dsimp only at h
      refine V.invVi (as := [.inl s0, .inl (0 : Int32)]) (st := []) (r := 93) hC (met3_add hq14) yv_X3_add ml_RX4_71 sh_129 rfl rfl dX4_readComparison_90 (by decide) rfl rfl rfl rfl ?_
      refine V.pop (r := 94) hC dX4_readComparison_93 rfl ?_
      refine V.iconst (r := 95) hC dX4_readComparison_94 ki_1 rfl ?_
      cases h
      exact hR _ _ (Or.inr rfl) dX4_readComparison_95
    · rw [if_pos c12] at h
      refine V.iconst (r := 83) hC dX4_readComparison_82 ki_0 rfl ?_
      cases h
      exact hR _ _ (Or.inl rfl) dX4_readComparison_83
  · rw [if_pos c7] at h
    refine V.aload_n (r := 59) hC 0 dX4_readComparison_58 rfl rfl ?_
    refine V.iconst (r := 60) hC dX4_readComparison_59 ki_1 rfl ?_
    obtain ⟨q15, hq16, h⟩ := Option.bind_eq_some_iff.mp h
    try dsimp only at h
    refine V.invVi (as := [.inl (1 : Int32)]) (st := []) (r := 63) hC (met4_fail hq16) yv_X4_fail ml_RX4_62 sh_126 rfl rfl dX4_readComparison_60 (by decide) rfl rfl rfl rfl ?_
    by_cases c17 : ¬ ((q15.1) = 0 ∨ (q15.1) = 1)
    · rw [if_neg c17] at h; cases h
    replace c17 := Classical.not_not.mp c17
    rw [if_pos c17] at h
    cases h
    exact hR _ _ c17 dX4_readComparison_63
def g4_readComparison (a0 : Int32) (M : xMem) : Option (Int32 × xMem) :=
Option.bind (g4_readSum (g4_readFactor_rec 20) a0 M) fun q1 =>
if (q1.1) = 0 then
(some ((0 : Int32), q1.2))
else
(if (q1.2 114 0) = (60 : Int32) then
(g4_readComparison_b53 a0 (11 : Int32) q1.2)
else
(if (q1.2 114 0) = (62 : Int32) then
(g4_readComparison_b53 a0 (12 : Int32) q1.2)
else
(if (q1.2 114 0) = (61 : Int32) then
(g4_readComparison_b53 a0 (13 : Int32) q1.2)
else
(g4_readComparison_b53 a0 (0 : Int32) q1.2))))
set_option maxHeartbeats 4000000 in
set_option maxRecDepth 20000 in
theorem v4_readComparison {G : xG} (hC : xC G cX4_readComparison 3 RX4 76) {R : Int32 × xMem} (hR : xRZ G cX4_readComparison 3 R) {a0 : Int32} {M : xMem} (h : g4_readComparison a0 M = some R) : V G 3 0 [(0, .inr 126), (1, .inl a0)] [] M := by
  unfold g4_readComparison at h
  refine V.aload_n (r := 1) hC 0 dX4_readComparison_0 rfl rfl ?_
  refine V.iload_n (r := 2) hC 1 dX4_readComparison_1 rfl rfl ?_
  obtain ⟨q1, hq2, h⟩ := Option.bind_eq_some_iff.mp h
  try dsimp only at h
  refine V.invVi (as := [.inl a0]) (st := []) (r := 5) hC (met4_readSum_c hq2) yv_X4_readSum ml_RX4_68 sh_126 rfl rfl dX4_readComparison_2 (by decide) rfl rfl rfl rfl ?_
  refine V.if_ne (tgt := 10) (r := 8) hC dX4_readComparison_5 (by decide) rfl (fun c3 => ?_) (fun c3 => ?_)
  · rw [if_neg c3] at h
    refine V.aload_n (r := 11) hC 0 dX4_readComparison_10 rfl rfl ?_
    refine V.getI (b := 114) (i := 0) (j := 4) (r := 14) hC xcl_4 sh_126 fl_RX4_32 dX4_readComparison_11 (by decide) rfl rfl ?_
    refine V.bipush (r := 16) hC dX4_readComparison_14 kb_60 rfl ?_
    refine V.icmp_ne (tgt := 24) (r := 19) hC dX4_readComparison_16 (by decide) rfl (fun c4 => ?_) (fun c4 => ?_)
    · rw [if_neg c4] at h
      refine V.aload_n (r := 25) hC 0 dX4_readComparison_24 rfl rfl ?_
      refine V.getI (b := 114) (i := 0) (j := 4) (r := 28) hC xcl_4 sh_126 fl_RX4_32 dX4_readComparison_25 (by decide) rfl rfl ?_
      refine V.bipush (r := 30) hC dX4_readComparison_28 kb_62 rfl ?_
      refine V.icmp_ne (tgt := 38) (r := 33) hC dX4_readComparison_30 (by decide) rfl (fun c5 => ?_) (fun c5 => ?_)
      · rw [if_neg c5] at h
        refine V.aload_n (r := 39) hC 0 dX4_readComparison_38 rfl rfl ?_
        refine V.getI (b := 114) (i := 0) (j := 4) (r := 42) hC xcl_4 sh_126 fl_RX4_32 dX4_readComparison_39 (by decide) rfl rfl ?_
        refine V.bipush (r := 44) hC dX4_readComparison_42 kb_61 rfl ?_
        refine V.icmp_ne (tgt := 52) (r := 47) hC dX4_readComparison_44 (by decide) rfl (fun c6 => ?_) (fun c6 => ?_)
        · rw [if_neg c6] at h
          refine V.iconst (r := 53) hC dX4_readComparison_52 ki_0 rfl ?_
          exact v4_readComparison_b53  hC hR  _ _ _ h
        · rw [if_pos c6] at h
          refine V.bipush (r := 49) hC dX4_readComparison_47 kb_13 rfl ?_
          refine V.goto (tgt := 53) hC dX4_readComparison_49 (by decide) ?_
          exact v4_readComparison_b53  hC hR  _ _ _ h
      · rw [if_pos c5] at h
        refine V.bipush (r := 35) hC dX4_readComparison_33 kb_12 rfl ?_
        refine V.goto (tgt := 53) hC dX4_readComparison_35 (by decide) ?_
        exact v4_readComparison_b53  hC hR  _ _ _ h
    · rw [if_pos c4] at h
      refine V.bipush (r := 21) hC dX4_readComparison_19 kb_11 rfl ?_
      refine V.goto (tgt := 53) hC dX4_readComparison_21 (by decide) ?_
      exact v4_readComparison_b53  hC hR  _ _ _ h
  · rw [if_pos c3] at h
    refine V.iconst (r := 9) hC dX4_readComparison_8 ki_0 rfl ?_
    cases h
    exact hR _ _ (Or.inl rfl) dX4_readComparison_9
theorem met4_readComparison {R : Int32 × xMem} {a0 : Int32} {M : xMem} (h : g4_readComparison a0 M = some R) : xMet yX4_readComparison cX4_readComparison 3 (some .boolean) 76 [.inr 126, .inl a0] M (some R.1) R.2 := xMet.ofZ (by decide +kernel) (Nat.le_of_ble_eq_true rfl) fun _ hC hR => v4_readComparison  hC hR h
def g4_readPart_b4 (rF : Int32 → xMem → Option (Int32 × xMem)) : Nat → Int32 → Int32 → Int32 → xMem → Option (Int32 × xMem)
  | 0, _, _, _, _ => none
  | n + 1, x1, x2, x3, M => 
    (if (240 : Int32) ≤ x3 then
    (Option.bind (g4_fail (1 : Int32) M) fun q2 =>
    if (q2.1) = 0 ∨ (q2.1) = 1 then
    some (q2.1, q2.2)
    else none)
    else
    (Option.bind (rF x1 M) fun q5 =>
    if (q5.1) = 0 then
    (some ((0 : Int32), q5.2))
    else
    (Option.bind (g3_aim x2 q5.2) fun q8 =>
    if (q8 114 0) = (38 : Int32) then
    (Option.bind (g4_goTo ((q8 112 0) + (1 : Int32)) q8) fun q11 =>
    Option.bind (g3_add (5 : Int32) (0 : Int32) q11) fun q13 =>
    g4_readPart_b4 rF n x1 (q13.1) (x3 + (1 : Int32)) q13.2)
    else
    (some ((1 : Int32), q8)))))
set_option maxHeartbeats 4000000 in
set_option maxRecDepth 20000 in
theorem v4_readPart_b4 {G : xG} {rF : Int32 → xMem → Option (Int32 × xMem)} {dF : Nat} (hrF : ∀ (a : Int32) (N : xMem) (Q : Int32 × xMem), rF a N = some Q → xMet yX4_readPiece cX4_readPiece 3 (some .boolean) dF [.inr 126, .inl a] N (some Q.1) Q.2) (hdF : 100 ≤ dF) (hC : xC G cX4_readPart 4 RX4 (dF + 1)) {R : Int32 × xMem} (hR : xRZ G cX4_readPart 4 R) : ∀ (n : Nat) (x1 x2 x3 : Int32) (M : xMem), g4_readPart_b4 rF n x1 x2 x3 M = some R → V G 4 4 [(0, .inr 126), (1, .inl x1), (2, .inl x2), (3, .inl x3)] [] M := by
  intro n
  induction n with
  | zero => intro x1 x2 x3 M h; rw [g4_readPart_b4] at h; cases h
  | succ n ih =>
    intro x1 x2 x3 M h
    rw [g4_readPart_b4] at h
    refine V.iload_n (r := 5) hC 3 dX4_readPart_4 rfl rfl ?_
    refine V.sipush (r := 8) hC dX4_readPart_5 ks_240 rfl ?_
    refine V.icmp_ge (tgt := 66) (r := 11) hC dX4_readPart_8 (by decide) rfl (fun c1 => ?_) (fun c1 => ?_)
    · rw [if_pos c1] at h
      refine V.aload_n (r := 67) hC 0 dX4_readPart_66 rfl rfl ?_
      refine V.iconst (r := 68) hC dX4_readPart_67 ki_1 rfl ?_
      obtain ⟨q2, hq3, h⟩ := Option.bind_eq_some_iff.mp h
      try dsimp only at h
      refine V.invVi (as := [.inl (1 : Int32)]) (st := []) (r := 71) hC (met4_fail hq3) yv_X4_fail ml_RX4_62 sh_126 rfl rfl dX4_readPart_68 (by omega) rfl rfl rfl rfl ?_
      by_cases c4 : ¬ ((q2.1) = 0 ∨ (q2.1) = 1)
      · rw [if_neg c4] at h; cases h
      replace c4 := Classical.not_not.mp c4
      rw [if_pos c4] at h
      cases h
      exact hR _ _ c4 dX4_readPart_71
    · rw [if_neg c1] at h
      refine V.aload_n (r := 12) hC 0 dX4_readPart_11 rfl rfl ?_
      refine V.iload_n (r := 13) hC 1 dX4_readPart_12 rfl rfl ?_
      obtain ⟨q5, hq6, h⟩ := Option.bind_eq_some_iff.mp h
      try dsimp only at h
      refine V.invVi (as := [.inl x1]) (st := []) (r := 16) hC (hrF _ _ _ hq6) yv_X4_readPiece ml_RX4_88 sh_126 rfl rfl dX4_readPart_13 (by omega) rfl rfl rfl rfl ?_
      refine V.if_ne (tgt := 21) (r := 19) hC dX4_readPart_16 (by decide) rfl (fun c7 => ?_) (fun c7 => ?_)
      · rw [if_neg c7] at h
        refine V.aload_n (r := 22) hC 0 dX4_readPart_21 rfl rfl ?_
        refine V.getR (k' := 129) (j := 1) (r := 25) hC xcl_4 sh_126 fl_RX4_21 dX4_readPart_22 (by decide) rfl rfl ?_
        refine V.iload_n (r := 26) hC 2 dX4_readPart_25 rfl rfl ?_
        obtain ⟨q8, hq9, h⟩ := Option.bind_eq_some_iff.mp h
        try dsimp only at h
        refine V.invVv (as := [.inl x2]) (st := []) (r := 29) hC (met3_aim hq9) yv_X3_aim ml_RX4_85 sh_129 rfl rfl dX4_readPart_26 (by omega) rfl rfl rfl rfl ?_
        refine V.aload_n (r := 30) hC 0 dX4_readPart_29 rfl rfl ?_
        refine V.getI (b := 114) (i := 0) (j := 4) (r := 33) hC xcl_4 sh_126 fl_RX4_32 dX4_readPart_30 (by decide) rfl rfl ?_
        refine V.bipush (r := 35) hC dX4_readPart_33 kb_38 rfl ?_
        refine V.icmp_eq (tgt := 40) (r := 38) hC dX4_readPart_35 (by decide) rfl (fun c10 => ?_) (fun c10 => ?_)
        · rw [if_pos c10] at h
          refine V.aload_n (r := 41) hC 0 dX4_readPart_40 rfl rfl ?_
          refine V.aload_n (r := 42) hC 0 dX4_readPart_41 rfl rfl ?_
          refine V.getI (b := 112) (i := 0) (j := 2) (r := 45) hC xcl_4 sh_126 fl_RX4_25 dX4_readPart_42 (by decide) rfl rfl ?_
          refine V.iconst (r := 46) hC dX4_readPart_45 ki_1 rfl ?_
          refine V.iadd (r := 47) hC dX4_readPart_46 rfl ?_
          obtain ⟨q11, hq12, h⟩ := Option.bind_eq_some_iff.mp h
          try dsimp only at h
          refine V.invVv (as := [.inl ((q8 112 0) + (1 : Int32))]) (st := []) (r := 50) hC (met4_goTo hq12) yv_X4_goTo ml_RX4_41 sh_126 rfl rfl dX4_readPart_47 (by omega) rfl rfl rfl rfl ?_
          refine V.aload_n (r := 51) hC 0 dX4_readPart_50 rfl rfl ?_
          refine V.getR (k' := 129) (j := 1) (r := 54) hC xcl_4 sh_126 fl_RX4_21 dX4_readPart_51 (by decide) rfl rfl ?_
          refine V.iconst (r := 55) hC dX4_readPart_54 ki_5 rfl ?_
          refine V.iconst (r := 56) hC dX4_readPart_55 ki_0 rfl ?_
          obtain ⟨q13, hq14, h⟩ := Option.bind_eq_some_iff.mp h
          try dsimp only at h
          refine V.invVi (as := [.inl (5 : Int32), .inl (0 : Int32)]) (st := []) (r := 59) hC (met3_add hq14) yv_X3_add ml_RX4_71 sh_129 rfl rfl dX4_readPart_56 (by omega) rfl rfl rfl rfl ?_
          refine V.ist_n (lv' := [(0, .inr 126), (1, .inl x1), (2, .inl (q13.1)), (3, .inl x3)]) (r := 60) hC dX4_readPart_59 rfl rfl rfl ?_
          refine V.inc (lv' := [(0, .inr 126), (1, .inl x1), (2, .inl (q13.1)), (3, .inl (x3 + (1 : Int32)))]) (r := 63) hC 3 dX4_readPart_60 rfl ki_1 rfl rfl rfl ?_
          refine V.goto (tgt := 4) hC dX4_readPart_63 (by decide) ?_
          exact ih _ _ _ _ h
        · rw [if_neg c10] at h
          refine V.iconst (r := 39) hC dX4_readPart_38 ki_1 rfl ?_
          cases h
          exact hR _ _ (Or.inr rfl) dX4_readPart_39
      · rw [if_pos c7] at h
        refine V.iconst (r := 20) hC dX4_readPart_19 ki_0 rfl ?_
        cases h
        exact hR _ _ (Or.inl rfl) dX4_readPart_20
def g4_readPart (rF : Int32 → xMem → Option (Int32 × xMem)) (a0 : Int32) (M : xMem) : Option (Int32 × xMem) :=
g4_readPart_b4 rF 5000 a0 (-1 : Int32) (0 : Int32) M
set_option maxHeartbeats 4000000 in
set_option maxRecDepth 20000 in
theorem v4_readPart {G : xG} {rF : Int32 → xMem → Option (Int32 × xMem)} {dF : Nat} (hrF : ∀ (a : Int32) (N : xMem) (Q : Int32 × xMem), rF a N = some Q → xMet yX4_readPiece cX4_readPiece 3 (some .boolean) dF [.inr 126, .inl a] N (some Q.1) Q.2) (hdF : 100 ≤ dF) (hC : xC G cX4_readPart 4 RX4 (dF + 1)) {R : Int32 × xMem} (hR : xRZ G cX4_readPart 4 R) {a0 : Int32} {M : xMem} (h : g4_readPart rF a0 M = some R) : V G 4 0 [(0, .inr 126), (1, .inl a0)] [] M := by
  unfold g4_readPart at h
  refine V.iconst (r := 1) hC dX4_readPart_0 ki_m1 rfl ?_
  refine V.ist_n (lv' := [(0, .inr 126), (1, .inl a0), (2, .inl (-1 : Int32))]) (r := 2) hC dX4_readPart_1 rfl rfl rfl ?_
  refine V.iconst (r := 3) hC dX4_readPart_2 ki_0 rfl ?_
  refine V.ist_n (lv' := [(0, .inr 126), (1, .inl a0), (2, .inl (-1 : Int32)), (3, .inl (0 : Int32))]) (r := 4) hC dX4_readPart_3 rfl rfl rfl ?_
  exact v4_readPart_b4 hrF hdF hC hR  5000 _ _ _ _ h
theorem met4_readPart {rF : Int32 → xMem → Option (Int32 × xMem)} {dF : Nat} (hrF : ∀ (a : Int32) (N : xMem) (Q : Int32 × xMem), rF a N = some Q → xMet yX4_readPiece cX4_readPiece 3 (some .boolean) dF [.inr 126, .inl a] N (some Q.1) Q.2) (hdF : 100 ≤ dF) {R : Int32 × xMem} {a0 : Int32} {M : xMem} (h : g4_readPart rF a0 M = some R) : xMet yX4_readPart cX4_readPart 4 (some .boolean) ((dF + 1)) [.inr 126, .inl a0] M (some R.1) R.2 := xMet.ofZ (by decide +kernel) (Nat.le_of_ble_eq_true rfl) fun _ hC hR => v4_readPart hrF hdF hC hR h
def g4_readChoice_b4 (rF : Int32 → xMem → Option (Int32 × xMem)) : Nat → Int32 → Int32 → Int32 → xMem → Option (Int32 × xMem)
  | 0, _, _, _, _ => none
  | n + 1, x1, x2, x3, M => 
    (if (240 : Int32) ≤ x3 then
    (Option.bind (g4_fail (1 : Int32) M) fun q2 =>
    if (q2.1) = 0 ∨ (q2.1) = 1 then
    some (q2.1, q2.2)
    else none)
    else
    (Option.bind (g4_readPart rF x1 M) fun q5 =>
    if (q5.1) = 0 then
    (some ((0 : Int32), q5.2))
    else
    (Option.bind (g3_aim x2 q5.2) fun q8 =>
    if (q8 114 0) = (124 : Int32) then
    (Option.bind (g4_goTo ((q8 112 0) + (1 : Int32)) q8) fun q11 =>
    Option.bind (g3_add (4 : Int32) (0 : Int32) q11) fun q13 =>
    g4_readChoice_b4 rF n x1 (q13.1) (x3 + (1 : Int32)) q13.2)
    else
    (some ((1 : Int32), q8)))))
set_option maxHeartbeats 4000000 in
set_option maxRecDepth 20000 in
theorem v4_readChoice_b4 {G : xG} {rF : Int32 → xMem → Option (Int32 × xMem)} {dF : Nat} (hrF : ∀ (a : Int32) (N : xMem) (Q : Int32 × xMem), rF a N = some Q → xMet yX4_readPiece cX4_readPiece 3 (some .boolean) dF [.inr 126, .inl a] N (some Q.1) Q.2) (hdF : 100 ≤ dF) (hC : xC G cX4_readChoice 4 RX4 (dF + 2)) {R : Int32 × xMem} (hR : xRZ G cX4_readChoice 4 R) : ∀ (n : Nat) (x1 x2 x3 : Int32) (M : xMem), g4_readChoice_b4 rF n x1 x2 x3 M = some R → V G 4 4 [(0, .inr 126), (1, .inl x1), (2, .inl x2), (3, .inl x3)] [] M := by
  intro n
  induction n with
  | zero => intro x1 x2 x3 M h; rw [g4_readChoice_b4] at h; cases h
  | succ n ih =>
    intro x1 x2 x3 M h
    rw [g4_readChoice_b4] at h
    refine V.iload_n (r := 5) hC 3 dX4_readChoice_4 rfl rfl ?_
    refine V.sipush (r := 8) hC dX4_readChoice_5 ks_240 rfl ?_
    refine V.icmp_ge (tgt := 66) (r := 11) hC dX4_readChoice_8 (by decide) rfl (fun c1 => ?_) (fun c1 => ?_)
    · rw [if_pos c1] at h
      refine V.aload_n (r := 67) hC 0 dX4_readChoice_66 rfl rfl ?_
      refine V.iconst (r := 68) hC dX4_readChoice_67 ki_1 rfl ?_
      obtain ⟨q2, hq3, h⟩ := Option.bind_eq_some_iff.mp h
      try dsimp only at h
      refine V.invVi (as := [.inl (1 : Int32)]) (st := []) (r := 71) hC (met4_fail hq3) yv_X4_fail ml_RX4_62 sh_126 rfl rfl dX4_readChoice_68 (by omega) rfl rfl rfl rfl ?_
      by_cases c4 : ¬ ((q2.1) = 0 ∨ (q2.1) = 1)
      · rw [if_neg c4] at h; cases h
      replace c4 := Classical.not_not.mp c4
      rw [if_pos c4] at h
      cases h
      exact hR _ _ c4 dX4_readChoice_71
    · rw [if_neg c1] at h
      refine V.aload_n (r := 12) hC 0 dX4_readChoice_11 rfl rfl ?_
      refine V.iload_n (r := 13) hC 1 dX4_readChoice_12 rfl rfl ?_
      obtain ⟨q5, hq6, h⟩ := Option.bind_eq_some_iff.mp h
      try dsimp only at h
      refine V.invVi (as := [.inl x1]) (st := []) (r := 16) hC (met4_readPart hrF hdF hq6) yv_X4_readPart ml_RX4_82 sh_126 rfl rfl dX4_readChoice_13 (by omega) rfl rfl rfl rfl ?_
      refine V.if_ne (tgt := 21) (r := 19) hC dX4_readChoice_16 (by decide) rfl (fun c7 => ?_) (fun c7 => ?_)
      · rw [if_neg c7] at h
        refine V.aload_n (r := 22) hC 0 dX4_readChoice_21 rfl rfl ?_
        refine V.getR (k' := 129) (j := 1) (r := 25) hC xcl_4 sh_126 fl_RX4_21 dX4_readChoice_22 (by decide) rfl rfl ?_
        refine V.iload_n (r := 26) hC 2 dX4_readChoice_25 rfl rfl ?_
        obtain ⟨q8, hq9, h⟩ := Option.bind_eq_some_iff.mp h
        try dsimp only at h
        refine V.invVv (as := [.inl x2]) (st := []) (r := 29) hC (met3_aim hq9) yv_X3_aim ml_RX4_85 sh_129 rfl rfl dX4_readChoice_26 (by omega) rfl rfl rfl rfl ?_
        refine V.aload_n (r := 30) hC 0 dX4_readChoice_29 rfl rfl ?_
        refine V.getI (b := 114) (i := 0) (j := 4) (r := 33) hC xcl_4 sh_126 fl_RX4_32 dX4_readChoice_30 (by decide) rfl rfl ?_
        refine V.bipush (r := 35) hC dX4_readChoice_33 kb_124 rfl ?_
        refine V.icmp_eq (tgt := 40) (r := 38) hC dX4_readChoice_35 (by decide) rfl (fun c10 => ?_) (fun c10 => ?_)
        · rw [if_pos c10] at h
          refine V.aload_n (r := 41) hC 0 dX4_readChoice_40 rfl rfl ?_
          refine V.aload_n (r := 42) hC 0 dX4_readChoice_41 rfl rfl ?_
          refine V.getI (b := 112) (i := 0) (j := 2) (r := 45) hC xcl_4 sh_126 fl_RX4_25 dX4_readChoice_42 (by decide) rfl rfl ?_
          refine V.iconst (r := 46) hC dX4_readChoice_45 ki_1 rfl ?_
          refine V.iadd (r := 47) hC dX4_readChoice_46 rfl ?_
          obtain ⟨q11, hq12, h⟩ := Option.bind_eq_some_iff.mp h
          try dsimp only at h
          refine V.invVv (as := [.inl ((q8 112 0) + (1 : Int32))]) (st := []) (r := 50) hC (met4_goTo hq12) yv_X4_goTo ml_RX4_41 sh_126 rfl rfl dX4_readChoice_47 (by omega) rfl rfl rfl rfl ?_
          refine V.aload_n (r := 51) hC 0 dX4_readChoice_50 rfl rfl ?_
          refine V.getR (k' := 129) (j := 1) (r := 54) hC xcl_4 sh_126 fl_RX4_21 dX4_readChoice_51 (by decide) rfl rfl ?_
          refine V.iconst (r := 55) hC dX4_readChoice_54 ki_4 rfl ?_
          refine V.iconst (r := 56) hC dX4_readChoice_55 ki_0 rfl ?_
          obtain ⟨q13, hq14, h⟩ := Option.bind_eq_some_iff.mp h
          try dsimp only at h
          refine V.invVi (as := [.inl (4 : Int32), .inl (0 : Int32)]) (st := []) (r := 59) hC (met3_add hq14) yv_X3_add ml_RX4_71 sh_129 rfl rfl dX4_readChoice_56 (by omega) rfl rfl rfl rfl ?_
          refine V.ist_n (lv' := [(0, .inr 126), (1, .inl x1), (2, .inl (q13.1)), (3, .inl x3)]) (r := 60) hC dX4_readChoice_59 rfl rfl rfl ?_
          refine V.inc (lv' := [(0, .inr 126), (1, .inl x1), (2, .inl (q13.1)), (3, .inl (x3 + (1 : Int32)))]) (r := 63) hC 3 dX4_readChoice_60 rfl ki_1 rfl rfl rfl ?_
          refine V.goto (tgt := 4) hC dX4_readChoice_63 (by decide) ?_
          exact ih _ _ _ _ h
        · rw [if_neg c10] at h
          refine V.iconst (r := 39) hC dX4_readChoice_38 ki_1 rfl ?_
          cases h
          exact hR _ _ (Or.inr rfl) dX4_readChoice_39
      · rw [if_pos c7] at h
        refine V.iconst (r := 20) hC dX4_readChoice_19 ki_0 rfl ?_
        cases h
        exact hR _ _ (Or.inl rfl) dX4_readChoice_20
def g4_readChoice (rF : Int32 → xMem → Option (Int32 × xMem)) (a0 : Int32) (M : xMem) : Option (Int32 × xMem) :=
g4_readChoice_b4 rF 5000 a0 (-1 : Int32) (0 : Int32) M
set_option maxHeartbeats 4000000 in
set_option maxRecDepth 20000 in
theorem v4_readChoice {G : xG} {rF : Int32 → xMem → Option (Int32 × xMem)} {dF : Nat} (hrF : ∀ (a : Int32) (N : xMem) (Q : Int32 × xMem), rF a N = some Q → xMet yX4_readPiece cX4_readPiece 3 (some .boolean) dF [.inr 126, .inl a] N (some Q.1) Q.2) (hdF : 100 ≤ dF) (hC : xC G cX4_readChoice 4 RX4 (dF + 2)) {R : Int32 × xMem} (hR : xRZ G cX4_readChoice 4 R) {a0 : Int32} {M : xMem} (h : g4_readChoice rF a0 M = some R) : V G 4 0 [(0, .inr 126), (1, .inl a0)] [] M := by
  unfold g4_readChoice at h
  refine V.iconst (r := 1) hC dX4_readChoice_0 ki_m1 rfl ?_
  refine V.ist_n (lv' := [(0, .inr 126), (1, .inl a0), (2, .inl (-1 : Int32))]) (r := 2) hC dX4_readChoice_1 rfl rfl rfl ?_
  refine V.iconst (r := 3) hC dX4_readChoice_2 ki_0 rfl ?_
  refine V.ist_n (lv' := [(0, .inr 126), (1, .inl a0), (2, .inl (-1 : Int32)), (3, .inl (0 : Int32))]) (r := 4) hC dX4_readChoice_3 rfl rfl rfl ?_
  exact v4_readChoice_b4 hrF hdF hC hR  5000 _ _ _ _ h
theorem met4_readChoice {rF : Int32 → xMem → Option (Int32 × xMem)} {dF : Nat} (hrF : ∀ (a : Int32) (N : xMem) (Q : Int32 × xMem), rF a N = some Q → xMet yX4_readPiece cX4_readPiece 3 (some .boolean) dF [.inr 126, .inl a] N (some Q.1) Q.2) (hdF : 100 ≤ dF) {R : Int32 × xMem} {a0 : Int32} {M : xMem} (h : g4_readChoice rF a0 M = some R) : xMet yX4_readChoice cX4_readChoice 4 (some .boolean) ((dF + 2)) [.inr 126, .inl a0] M (some R.1) R.2 := xMet.ofZ (by decide +kernel) (Nat.le_of_ble_eq_true rfl) fun _ hC hR => v4_readChoice hrF hdF hC hR h
def g4_readPiece_b50 (rF : Int32 → xMem → Option (Int32 × xMem)) (x1 s0 : Int32) (M : xMem) : Option (Int32 × xMem) :=
Option.bind (g4_goTo ((M 112 0) + (1 : Int32)) M) fun q11 =>
if s0 = 0 then
(Option.bind (g4_readChoice rF (x1 + (1 : Int32)) q11) fun q19 =>
if (q19.1) = 0 then
(some ((0 : Int32), q19.2))
else
(Option.bind (g4_take (41 : Int32) q19.2) fun q22 =>
if (q22.1) = 0 then
(some ((0 : Int32), q22.2))
else
(some ((1 : Int32), q22.2))))
else
(Option.bind (rF (x1 + (1 : Int32)) q11) fun q14 =>
if (q14.1) = 0 then
(some ((0 : Int32), q14.2))
else
(Option.bind (g3_add (3 : Int32) (0 : Int32) q14.2) fun q17 =>
some ((1 : Int32), q17.2)))
set_option maxHeartbeats 4000000 in
set_option maxRecDepth 20000 in
theorem v4_readPiece_b50 {G : xG} {rF : Int32 → xMem → Option (Int32 × xMem)} {dF : Nat} (hrF : ∀ (a : Int32) (N : xMem) (Q : Int32 × xMem), rF a N = some Q → xMet yX4_readPiece cX4_readPiece 3 (some .boolean) dF [.inr 126, .inl a] N (some Q.1) Q.2) (hdF : 100 ≤ dF) (hC : xC G cX4_readPiece 3 RX4 (dF + 3)) {R : Int32 × xMem} (hR : xRZ G cX4_readPiece 3 R) (x1 s0 : Int32) (M : xMem) (h : g4_readPiece_b50 rF x1 s0 M = some R) : V G 3 50 [(0, .inr 126), (1, .inl x1)] [.inl s0] M := by
  unfold g4_readPiece_b50 at h
  refine V.ist_n (lv' := [(0, .inr 126), (1, .inl x1), (2, .inl s0)]) (r := 51) hC dX4_readPiece_50 rfl rfl rfl ?_
  refine V.aload_n (r := 52) hC 0 dX4_readPiece_51 rfl rfl ?_
  refine V.aload_n (r := 53) hC 0 dX4_readPiece_52 rfl rfl ?_
  refine V.getI (b := 112) (i := 0) (j := 2) (r := 56) hC xcl_4 sh_126 fl_RX4_25 dX4_readPiece_53 (by decide) rfl rfl ?_
  refine V.iconst (r := 57) hC dX4_readPiece_56 ki_1 rfl ?_
  refine V.iadd (r := 58) hC dX4_readPiece_57 rfl ?_
  obtain ⟨q11, hq12, h⟩ := Option.bind_eq_some_iff.mp h
  try dsimp only at h
  refine V.invVv (as := [.inl ((M 112 0) + (1 : Int32))]) (st := []) (r := 61) hC (met4_goTo hq12) yv_X4_goTo ml_RX4_41 sh_126 rfl rfl dX4_readPiece_58 (by omega) rfl rfl rfl rfl ?_
  refine V.iload_n (r := 62) hC 2 dX4_readPiece_61 rfl rfl ?_
  refine V.if_ne (tgt := 90) (r := 65) hC dX4_readPiece_62 (by decide) rfl (fun c13 => ?_) (fun c13 => ?_)
  · rw [if_neg c13] at h
    refine V.aload_n (r := 91) hC 0 dX4_readPiece_90 rfl rfl ?_
    refine V.iload_n (r := 92) hC 1 dX4_readPiece_91 rfl rfl ?_
    refine V.iconst (r := 93) hC dX4_readPiece_92 ki_1 rfl ?_
    refine V.iadd (r := 94) hC dX4_readPiece_93 rfl ?_
    obtain ⟨q14, hq15, h⟩ := Option.bind_eq_some_iff.mp h
    try dsimp only at h
    refine V.invVi (as := [.inl (x1 + (1 : Int32))]) (st := []) (r := 97) hC (hrF _ _ _ hq15) yv_X4_readPiece ml_RX4_88 sh_126 rfl rfl dX4_readPiece_94 (by omega) rfl rfl rfl rfl ?_
    refine V.if_ne (tgt := 102) (r := 100) hC dX4_readPiece_97 (by decide) rfl (fun c16 => ?_) (fun c16 => ?_)
    · rw [if_neg c16] at h
      refine V.aload_n (r := 103) hC 0 dX4_readPiece_102 rfl rfl ?_
      refine V.getR (k' := 129) (j := 1) (r := 106) hC xcl_4 sh_126 fl_RX4_21 dX4_readPiece_103 (by decide) rfl rfl ?_
      refine V.iconst (r := 107) hC dX4_readPiece_106 ki_3 rfl ?_
      refine V.iconst (r := 108) hC dX4_readPiece_107 ki_0 rfl ?_
      obtain ⟨q17, hq18, h⟩ := Option.bind_eq_some_iff.mp h
      try dsimp only at h
      refine V.invVi (as := [.inl (3 : Int32), .inl (0 : Int32)]) (st := []) (r := 111) hC (met3_add hq18) yv_X3_add ml_RX4_71 sh_129 rfl rfl dX4_readPiece_108 (by omega) rfl rfl rfl rfl ?_
      refine V.pop (r := 112) hC dX4_readPiece_111 rfl ?_
      refine V.iconst (r := 113) hC dX4_readPiece_112 ki_1 rfl ?_
      cases h
      exact hR _ _ (Or.inr rfl) dX4_readPiece_113
    · rw [if_pos c16] at h
      refine V.iconst (r := 101) hC dX4_readPiece_100 ki_0 rfl ?_
      cases h
      exact hR _ _ (Or.inl rfl) dX4_readPiece_101
  · rw [if_pos c13] at h
    refine V.aload_n (r := 66) hC 0 dX4_readPiece_65 rfl rfl ?_
    refine V.iload_n (r := 67) hC 1 dX4_readPiece_66 rfl rfl ?_
    refine V.iconst (r := 68) hC dX4_readPiece_67 ki_1 rfl ?_
    refine V.iadd (r := 69) hC dX4_readPiece_68 rfl ?_
    obtain ⟨q19, hq20, h⟩ := Option.bind_eq_some_iff.mp h
    try dsimp only at h
    refine V.invVi (as := [.inl (x1 + (1 : Int32))]) (st := []) (r := 72) hC (met4_readChoice hrF hdF hq20) yv_X4_readChoice ml_RX4_75 sh_126 rfl rfl dX4_readPiece_69 (by omega) rfl rfl rfl rfl ?_
    refine V.if_eq (tgt := 88) (r := 75) hC dX4_readPiece_72 (by decide) rfl (fun c21 => ?_) (fun c21 => ?_)
    · rw [if_pos c21] at h
      refine V.iconst (r := 89) hC dX4_readPiece_88 ki_0 rfl ?_
      cases h
      exact hR _ _ (Or.inl rfl) dX4_readPiece_89
    · rw [if_neg c21] at h
      refine V.aload_n (r := 76) hC 0 dX4_readPiece_75 rfl rfl ?_
      refine V.bipush (r := 78) hC dX4_readPiece_76 kb_41 rfl ?_
      obtain ⟨q22, hq23, h⟩ := Option.bind_eq_some_iff.mp h
      try dsimp only at h
      refine V.invVi (as := [.inl (41 : Int32)]) (st := []) (r := 81) hC (met4_take hq23) yv_X4_take ml_RX4_52 sh_126 rfl rfl dX4_readPiece_78 (by omega) rfl rfl rfl rfl ?_
      refine V.if_eq (tgt := 88) (r := 84) hC dX4_readPiece_81 (by decide) rfl (fun c24 => ?_) (fun c24 => ?_)
      · rw [if_pos c24] at h
        refine V.iconst (r := 89) hC dX4_readPiece_88 ki_0 rfl ?_
        cases h
        exact hR _ _ (Or.inl rfl) dX4_readPiece_89
      · rw [if_neg c24] at h
        refine V.iconst (r := 85) hC dX4_readPiece_84 ki_1 rfl ?_
        refine V.goto (tgt := 89) hC dX4_readPiece_85 (by decide) ?_
        cases h
        exact hR _ _ (Or.inr rfl) dX4_readPiece_89
def g4_readPiece_b24 (rF : Int32 → xMem → Option (Int32 × xMem)) (x1 : Int32) (M : xMem) : Option (Int32 × xMem) :=
if x1 < (6 : Int32) then
(if (M 114 0) = (33 : Int32) then
(g4_readPiece_b50 rF x1 (1 : Int32) M)
else
(g4_readPiece_b50 rF x1 (0 : Int32) M))
else
(Option.bind (g4_fail (5 : Int32) M) fun q8 =>
if (q8.1) = 0 ∨ (q8.1) = 1 then
some (q8.1, q8.2)
else none)
set_option maxHeartbeats 4000000 in
set_option maxRecDepth 20000 in
theorem v4_readPiece_b24 {G : xG} {rF : Int32 → xMem → Option (Int32 × xMem)} {dF : Nat} (hrF : ∀ (a : Int32) (N : xMem) (Q : Int32 × xMem), rF a N = some Q → xMet yX4_readPiece cX4_readPiece 3 (some .boolean) dF [.inr 126, .inl a] N (some Q.1) Q.2) (hdF : 100 ≤ dF) (hC : xC G cX4_readPiece 3 RX4 (dF + 3)) {R : Int32 × xMem} (hR : xRZ G cX4_readPiece 3 R) (x1 : Int32) (M : xMem) (h : g4_readPiece_b24 rF x1 M = some R) : V G 3 24 [(0, .inr 126), (1, .inl x1)] [] M := by
  unfold g4_readPiece_b24 at h
  refine V.iload_n (r := 25) hC 1 dX4_readPiece_24 rfl rfl ?_
  refine V.bipush (r := 27) hC dX4_readPiece_25 kb_6 rfl ?_
  refine V.icmp_lt (tgt := 36) (r := 30) hC dX4_readPiece_27 (by decide) rfl (fun c6 => ?_) (fun c6 => ?_)
  · rw [if_pos c6] at h
    refine V.aload_n (r := 37) hC 0 dX4_readPiece_36 rfl rfl ?_
    refine V.getI (b := 114) (i := 0) (j := 4) (r := 40) hC xcl_4 sh_126 fl_RX4_32 dX4_readPiece_37 (by decide) rfl rfl ?_
    refine V.bipush (r := 42) hC dX4_readPiece_40 kb_33 rfl ?_
    refine V.icmp_ne (tgt := 49) (r := 45) hC dX4_readPiece_42 (by decide) rfl (fun c7 => ?_) (fun c7 => ?_)
    · rw [if_neg c7] at h
      refine V.iconst (r := 50) hC dX4_readPiece_49 ki_0 rfl ?_
      exact v4_readPiece_b50 hrF hdF hC hR  _ _ _ h
    · rw [if_pos c7] at h
      refine V.iconst (r := 46) hC dX4_readPiece_45 ki_1 rfl ?_
      refine V.goto (tgt := 50) hC dX4_readPiece_46 (by decide) ?_
      exact v4_readPiece_b50 hrF hdF hC hR  _ _ _ h
  · rw [if_neg c6] at h
    refine V.aload_n (r := 31) hC 0 dX4_readPiece_30 rfl rfl ?_
    refine V.iconst (r := 32) hC dX4_readPiece_31 ki_5 rfl ?_
    obtain ⟨q8, hq9, h⟩ := Option.bind_eq_some_iff.mp h
    try dsimp only at h
    refine V.invVi (as := [.inl (5 : Int32)]) (st := []) (r := 35) hC (met4_fail hq9) yv_X4_fail ml_RX4_62 sh_126 rfl rfl dX4_readPiece_32 (by omega) rfl rfl rfl rfl ?_
    by_cases c10 : ¬ ((q8.1) = 0 ∨ (q8.1) = 1)
    · rw [if_neg c10] at h; cases h
    replace c10 := Classical.not_not.mp c10
    rw [if_pos c10] at h
    cases h
    exact hR _ _ c10 dX4_readPiece_35
def g4_readPiece (rF : Int32 → xMem → Option (Int32 × xMem)) (a0 : Int32) (M : xMem) : Option (Int32 × xMem) :=
if (M 114 0) = (33 : Int32) then
(g4_readPiece_b24 rF a0 M)
else
(if (M 114 0) = (40 : Int32) then
(g4_readPiece_b24 rF a0 M)
else
(Option.bind (g4_readComparison a0 M) fun q3 =>
if (q3.1) = 0 ∨ (q3.1) = 1 then
some (q3.1, q3.2)
else none))
set_option maxHeartbeats 4000000 in
set_option maxRecDepth 20000 in
theorem v4_readPiece {G : xG} {rF : Int32 → xMem → Option (Int32 × xMem)} {dF : Nat} (hrF : ∀ (a : Int32) (N : xMem) (Q : Int32 × xMem), rF a N = some Q → xMet yX4_readPiece cX4_readPiece 3 (some .boolean) dF [.inr 126, .inl a] N (some Q.1) Q.2) (hdF : 100 ≤ dF) (hC : xC G cX4_readPiece 3 RX4 (dF + 3)) {R : Int32 × xMem} (hR : xRZ G cX4_readPiece 3 R) {a0 : Int32} {M : xMem} (h : g4_readPiece rF a0 M = some R) : V G 3 0 [(0, .inr 126), (1, .inl a0)] [] M := by
  unfold g4_readPiece at h
  refine V.aload_n (r := 1) hC 0 dX4_readPiece_0 rfl rfl ?_
  refine V.getI (b := 114) (i := 0) (j := 4) (r := 4) hC xcl_4 sh_126 fl_RX4_32 dX4_readPiece_1 (by decide) rfl rfl ?_
  refine V.bipush (r := 6) hC dX4_readPiece_4 kb_33 rfl ?_
  refine V.icmp_eq (tgt := 24) (r := 9) hC dX4_readPiece_6 (by decide) rfl (fun c1 => ?_) (fun c1 => ?_)
  · rw [if_pos c1] at h
    exact v4_readPiece_b24 hrF hdF hC hR  _ _ h
  · rw [if_neg c1] at h
    refine V.aload_n (r := 10) hC 0 dX4_readPiece_9 rfl rfl ?_
    refine V.getI (b := 114) (i := 0) (j := 4) (r := 13) hC xcl_4 sh_126 fl_RX4_32 dX4_readPiece_10 (by decide) rfl rfl ?_
    refine V.bipush (r := 15) hC dX4_readPiece_13 kb_40 rfl ?_
    refine V.icmp_eq (tgt := 24) (r := 18) hC dX4_readPiece_15 (by decide) rfl (fun c2 => ?_) (fun c2 => ?_)
    · rw [if_pos c2] at h
      exact v4_readPiece_b24 hrF hdF hC hR  _ _ h
    · rw [if_neg c2] at h
      refine V.aload_n (r := 19) hC 0 dX4_readPiece_18 rfl rfl ?_
      refine V.iload_n (r := 20) hC 1 dX4_readPiece_19 rfl rfl ?_
      obtain ⟨q3, hq4, h⟩ := Option.bind_eq_some_iff.mp h
      try dsimp only at h
      refine V.invVi (as := [.inl a0]) (st := []) (r := 23) hC (met4_readComparison hq4) yv_X4_readComparison ml_RX4_91 sh_126 rfl rfl dX4_readPiece_20 (by omega) rfl rfl rfl rfl ?_
      by_cases c5 : ¬ ((q3.1) = 0 ∨ (q3.1) = 1)
      · rw [if_neg c5] at h; cases h
      replace c5 := Classical.not_not.mp c5
      rw [if_pos c5] at h
      cases h
      exact hR _ _ c5 dX4_readPiece_23
theorem met4_readPiece {rF : Int32 → xMem → Option (Int32 × xMem)} {dF : Nat} (hrF : ∀ (a : Int32) (N : xMem) (Q : Int32 × xMem), rF a N = some Q → xMet yX4_readPiece cX4_readPiece 3 (some .boolean) dF [.inr 126, .inl a] N (some Q.1) Q.2) (hdF : 100 ≤ dF) {R : Int32 × xMem} {a0 : Int32} {M : xMem} (h : g4_readPiece rF a0 M = some R) : xMet yX4_readPiece cX4_readPiece 3 (some .boolean) ((dF + 3)) [.inr 126, .inl a0] M (some R.1) R.2 := xMet.ofZ (by decide +kernel) (Nat.le_of_ble_eq_true rfl) fun _ hC hR => v4_readPiece hrF hdF hC hR h
def g4_readPiece_rec : Nat → Int32 → xMem → Option (Int32 × xMem)
  | 0, _, _ => none
  | n + 1, a0, M => g4_readPiece (g4_readPiece_rec n) a0 M
theorem met4_readPiece_rec (n d : Nat) : 100 + 3 * n = d → ∀ (a0 : Int32) (M : xMem) (R : Int32 × xMem), g4_readPiece_rec n a0 M = some R → xMet yX4_readPiece cX4_readPiece 3 (some .boolean) d [.inr 126, .inl a0] M (some R.1) R.2 := by
  induction n generalizing d with
  | zero => intro hd a0 M R h; rw [g4_readPiece_rec] at h; cases h
  | succ n ih =>
    intro hd a0 M R h
    rw [g4_readPiece_rec] at h
    have e : d = (100 + 3 * n) + 3 := by omega
    subst e
    exact met4_readPiece (ih _ rfl) (by omega) h
theorem met4_readPart_c {R : Int32 × xMem} {a0 : Int32} {M : xMem} (h : g4_readPart (g4_readPiece_rec 20) a0 M = some R) : xMet yX4_readPart cX4_readPart 4 (some .boolean) 161 [.inr 126, .inl a0] M (some R.1) R.2 := met4_readPart (met4_readPiece_rec 20 _ rfl) (by decide) h
theorem met4_readChoice_c {R : Int32 × xMem} {a0 : Int32} {M : xMem} (h : g4_readChoice (g4_readPiece_rec 20) a0 M = some R) : xMet yX4_readChoice cX4_readChoice 4 (some .boolean) 162 [.inr 126, .inl a0] M (some R.1) R.2 := met4_readChoice (met4_readPiece_rec 20 _ rfl) (by decide) h
def g4_readClause (M : xMem) : Option (Int32 × xMem) :=
Option.bind (g4_placeIn_1010 M) fun q1 =>
if (q1.1) = (-1 : Int32) then
(Option.bind (g4_fail (1 : Int32) q1.2) fun q28 =>
if (q28.1) = 0 ∨ (q28.1) = 1 then
some (q28.1, q28.2)
else none)
else
(if (q1.2 36 0) < (16 : Int32) then
(Option.bind (g4_goTo ((q1.2 112 0) + (1 : Int32)) q1.2) fun q5 =>
Option.bind (g4_readSum (g4_readFactor_rec 20) (0 : Int32) q5) fun q7 =>
if (q7.1) = 0 then
(some ((0 : Int32), q7.2))
else
(Option.bind (g3_add (0 : Int32) (0 : Int32) q7.2) fun q10 =>
Option.bind (g4_take (40 : Int32) q10.2) fun q12 =>
if (q12.1) = 0 then
(some ((0 : Int32), q12.2))
else
(Option.bind (g4_readChoice (g4_readPiece_rec 20) (1 : Int32) q12.2) fun q15 =>
if (q15.1) = 0 then
(some ((0 : Int32), q15.2))
else
(Option.bind (g4_take (41 : Int32) q15.2) fun q18 =>
if (q18.1) = 0 then
(some ((0 : Int32), q18.2))
else
(Option.bind (g3_add (0 : Int32) (0 : Int32) q18.2) fun q21 =>
Option.bind (g3_addClause (q1.1) (q5 32 0) (q10.2 32 0) q21.2) fun q23 =>
some ((1 : Int32), q23))))))
else
(Option.bind (g4_fail (4 : Int32) q1.2) fun q25 =>
if (q25.1) = 0 ∨ (q25.1) = 1 then
some (q25.1, q25.2)
else none))
set_option maxHeartbeats 4000000 in
set_option maxRecDepth 20000 in
theorem v4_readClause {G : xG} (hC : xC G cX4_readClause 4 RX4 164) {R : Int32 × xMem} (hR : xRZ G cX4_readClause 4 R) {M : xMem} (h : g4_readClause M = some R) : V G 4 0 [(0, .inr 126)] [] M := by
  unfold g4_readClause at h
  refine V.aload_n (r := 1) hC 0 dX4_readClause_0 rfl rfl ?_
  refine V.ldcS (r := 3) hC (j := 0) (by decide) dX4_readClause_1 rfl ?_
  obtain ⟨q1, hq2, h⟩ := Option.bind_eq_some_iff.mp h
  try dsimp only at h
  refine V.invVi (as := [.inr 1010]) (st := []) (r := 6) hC (met4_placeIn_1010 hq2) yv_X4_placeIn ml_RX4_58 sh_126 rfl rfl dX4_readClause_3 (by decide) rfl rfl rfl rfl ?_
  refine V.ist_n (lv' := [(0, .inr 126), (1, .inl (q1.1))]) (r := 7) hC dX4_readClause_6 rfl rfl rfl ?_
  refine V.iload_n (r := 8) hC 1 dX4_readClause_7 rfl rfl ?_
  refine V.iconst (r := 9) hC dX4_readClause_8 ki_m1 rfl ?_
  refine V.icmp_ne (tgt := 18) (r := 12) hC dX4_readClause_9 (by decide) rfl (fun c3 => ?_) (fun c3 => ?_)
  · rw [if_neg c3] at h
    refine V.aload_n (r := 19) hC 0 dX4_readClause_18 rfl rfl ?_
    refine V.getR (k' := 129) (j := 1) (r := 22) hC xcl_4 sh_126 fl_RX4_21 dX4_readClause_19 (by decide) rfl rfl ?_
    refine V.getI (b := 36) (i := 0) (j := 6) (r := 25) hC xcl_3 sh_129 fl_RX4_49 dX4_readClause_22 (by decide) rfl rfl ?_
    refine V.bipush (r := 27) hC dX4_readClause_25 kb_16 rfl ?_
    refine V.icmp_lt (tgt := 36) (r := 30) hC dX4_readClause_27 (by decide) rfl (fun c4 => ?_) (fun c4 => ?_)
    · rw [if_pos c4] at h
      refine V.aload_n (r := 37) hC 0 dX4_readClause_36 rfl rfl ?_
      refine V.aload_n (r := 38) hC 0 dX4_readClause_37 rfl rfl ?_
      refine V.getI (b := 112) (i := 0) (j := 2) (r := 41) hC xcl_4 sh_126 fl_RX4_25 dX4_readClause_38 (by decide) rfl rfl ?_
      refine V.iconst (r := 42) hC dX4_readClause_41 ki_1 rfl ?_
      refine V.iadd (r := 43) hC dX4_readClause_42 rfl ?_
      obtain ⟨q5, hq6, h⟩ := Option.bind_eq_some_iff.mp h
      try dsimp only at h
      refine V.invVv (as := [.inl ((q1.2 112 0) + (1 : Int32))]) (st := []) (r := 46) hC (met4_goTo hq6) yv_X4_goTo ml_RX4_41 sh_126 rfl rfl dX4_readClause_43 (by decide) rfl rfl rfl rfl ?_
      refine V.aload_n (r := 47) hC 0 dX4_readClause_46 rfl rfl ?_
      refine V.getR (k' := 129) (j := 1) (r := 50) hC xcl_4 sh_126 fl_RX4_21 dX4_readClause_47 (by decide) rfl rfl ?_
      refine V.getI (b := 32) (i := 0) (j := 2) (r := 53) hC xcl_3 sh_129 fl_RX4_65 dX4_readClause_50 (by decide) rfl rfl ?_
      refine V.ist_n (lv' := [(0, .inr 126), (1, .inl (q1.1)), (2, .inl (q5 32 0))]) (r := 54) hC dX4_readClause_53 rfl rfl rfl ?_
      refine V.aload_n (r := 55) hC 0 dX4_readClause_54 rfl rfl ?_
      refine V.iconst (r := 56) hC dX4_readClause_55 ki_0 rfl ?_
      obtain ⟨q7, hq8, h⟩ := Option.bind_eq_some_iff.mp h
      try dsimp only at h
      refine V.invVi (as := [.inl (0 : Int32)]) (st := []) (r := 59) hC (met4_readSum_c hq8) yv_X4_readSum ml_RX4_68 sh_126 rfl rfl dX4_readClause_56 (by decide) rfl rfl rfl rfl ?_
      refine V.if_ne (tgt := 64) (r := 62) hC dX4_readClause_59 (by decide) rfl (fun c9 => ?_) (fun c9 => ?_)
      · rw [if_neg c9] at h
        refine V.aload_n (r := 65) hC 0 dX4_readClause_64 rfl rfl ?_
        refine V.getR (k' := 129) (j := 1) (r := 68) hC xcl_4 sh_126 fl_RX4_21 dX4_readClause_65 (by decide) rfl rfl ?_
        refine V.iconst (r := 69) hC dX4_readClause_68 ki_0 rfl ?_
        refine V.iconst (r := 70) hC dX4_readClause_69 ki_0 rfl ?_
        obtain ⟨q10, hq11, h⟩ := Option.bind_eq_some_iff.mp h
        try dsimp only at h
        refine V.invVi (as := [.inl (0 : Int32), .inl (0 : Int32)]) (st := []) (r := 73) hC (met3_add hq11) yv_X3_add ml_RX4_71 sh_129 rfl rfl dX4_readClause_70 (by decide) rfl rfl rfl rfl ?_
        refine V.pop (r := 74) hC dX4_readClause_73 rfl ?_
        refine V.aload_n (r := 75) hC 0 dX4_readClause_74 rfl rfl ?_
        refine V.getR (k' := 129) (j := 1) (r := 78) hC xcl_4 sh_126 fl_RX4_21 dX4_readClause_75 (by decide) rfl rfl ?_
        refine V.getI (b := 32) (i := 0) (j := 2) (r := 81) hC xcl_3 sh_129 fl_RX4_65 dX4_readClause_78 (by decide) rfl rfl ?_
        refine V.ist_n (lv' := [(0, .inr 126), (1, .inl (q1.1)), (2, .inl (q5 32 0)), (3, .inl (q10.2 32 0))]) (r := 82) hC dX4_readClause_81 rfl rfl rfl ?_
        refine V.aload_n (r := 83) hC 0 dX4_readClause_82 rfl rfl ?_
        refine V.bipush (r := 85) hC dX4_readClause_83 kb_40 rfl ?_
        obtain ⟨q12, hq13, h⟩ := Option.bind_eq_some_iff.mp h
        try dsimp only at h
        refine V.invVi (as := [.inl (40 : Int32)]) (st := []) (r := 88) hC (met4_take hq13) yv_X4_take ml_RX4_52 sh_126 rfl rfl dX4_readClause_85 (by decide) rfl rfl rfl rfl ?_
        refine V.if_eq (tgt := 108) (r := 91) hC dX4_readClause_88 (by decide) rfl (fun c14 => ?_) (fun c14 => ?_)
        · rw [if_pos c14] at h
          refine V.iconst (r := 109) hC dX4_readClause_108 ki_0 rfl ?_
          cases h
          exact hR _ _ (Or.inl rfl) dX4_readClause_109
        · rw [if_neg c14] at h
          refine V.aload_n (r := 92) hC 0 dX4_readClause_91 rfl rfl ?_
          refine V.iconst (r := 93) hC dX4_readClause_92 ki_1 rfl ?_
          obtain ⟨q15, hq16, h⟩ := Option.bind_eq_some_iff.mp h
          try dsimp only at h
          refine V.invVi (as := [.inl (1 : Int32)]) (st := []) (r := 96) hC (met4_readChoice_c hq16) yv_X4_readChoice ml_RX4_75 sh_126 rfl rfl dX4_readClause_93 (by decide) rfl rfl rfl rfl ?_
          refine V.if_eq (tgt := 108) (r := 99) hC dX4_readClause_96 (by decide) rfl (fun c17 => ?_) (fun c17 => ?_)
          · rw [if_pos c17] at h
            refine V.iconst (r := 109) hC dX4_readClause_108 ki_0 rfl ?_
            cases h
            exact hR _ _ (Or.inl rfl) dX4_readClause_109
          · rw [if_neg c17] at h
            refine V.aload_n (r := 100) hC 0 dX4_readClause_99 rfl rfl ?_
            refine V.bipush (r := 102) hC dX4_readClause_100 kb_41 rfl ?_
            obtain ⟨q18, hq19, h⟩ := Option.bind_eq_some_iff.mp h
            try dsimp only at h
            refine V.invVi (as := [.inl (41 : Int32)]) (st := []) (r := 105) hC (met4_take hq19) yv_X4_take ml_RX4_52 sh_126 rfl rfl dX4_readClause_102 (by decide) rfl rfl rfl rfl ?_
            refine V.if_ne (tgt := 110) (r := 108) hC dX4_readClause_105 (by decide) rfl (fun c20 => ?_) (fun c20 => ?_)
            · rw [if_neg c20] at h
              refine V.aload_n (r := 111) hC 0 dX4_readClause_110 rfl rfl ?_
              refine V.getR (k' := 129) (j := 1) (r := 114) hC xcl_4 sh_126 fl_RX4_21 dX4_readClause_111 (by decide) rfl rfl ?_
              refine V.iconst (r := 115) hC dX4_readClause_114 ki_0 rfl ?_
              refine V.iconst (r := 116) hC dX4_readClause_115 ki_0 rfl ?_
              obtain ⟨q21, hq22, h⟩ := Option.bind_eq_some_iff.mp h
              try dsimp only at h
              refine V.invVi (as := [.inl (0 : Int32), .inl (0 : Int32)]) (st := []) (r := 119) hC (met3_add hq22) yv_X3_add ml_RX4_71 sh_129 rfl rfl dX4_readClause_116 (by decide) rfl rfl rfl rfl ?_
              refine V.pop (r := 120) hC dX4_readClause_119 rfl ?_
              refine V.aload_n (r := 121) hC 0 dX4_readClause_120 rfl rfl ?_
              refine V.getR (k' := 129) (j := 1) (r := 124) hC xcl_4 sh_126 fl_RX4_21 dX4_readClause_121 (by decide) rfl rfl ?_
              refine V.iload_n (r := 125) hC 1 dX4_readClause_124 rfl rfl ?_
              refine V.iload_n (r := 126) hC 2 dX4_readClause_125 rfl rfl ?_
              refine V.iload_n (r := 127) hC 3 dX4_readClause_126 rfl rfl ?_
              obtain ⟨q23, hq24, h⟩ := Option.bind_eq_some_iff.mp h
              try dsimp only at h
              refine V.invVv (as := [.inl (q1.1), .inl (q5 32 0), .inl (q10.2 32 0)]) (st := []) (r := 130) hC (met3_addClause hq24) yv_X3_addClause ml_RX4_78 sh_129 rfl rfl dX4_readClause_127 (by decide) rfl rfl rfl rfl ?_
              refine V.iconst (r := 131) hC dX4_readClause_130 ki_1 rfl ?_
              cases h
              exact hR _ _ (Or.inr rfl) dX4_readClause_131
            · rw [if_pos c20] at h
              refine V.iconst (r := 109) hC dX4_readClause_108 ki_0 rfl ?_
              cases h
              exact hR _ _ (Or.inl rfl) dX4_readClause_109
      · rw [if_pos c9] at h
        refine V.iconst (r := 63) hC dX4_readClause_62 ki_0 rfl ?_
        cases h
        exact hR _ _ (Or.inl rfl) dX4_readClause_63
    · rw [if_neg c4] at h
      refine V.aload_n (r := 31) hC 0 dX4_readClause_30 rfl rfl ?_
      refine V.iconst (r := 32) hC dX4_readClause_31 ki_4 rfl ?_
      obtain ⟨q25, hq26, h⟩ := Option.bind_eq_some_iff.mp h
      try dsimp only at h
      refine V.invVi (as := [.inl (4 : Int32)]) (st := []) (r := 35) hC (met4_fail hq26) yv_X4_fail ml_RX4_62 sh_126 rfl rfl dX4_readClause_32 (by decide) rfl rfl rfl rfl ?_
      by_cases c27 : ¬ ((q25.1) = 0 ∨ (q25.1) = 1)
      · rw [if_neg c27] at h; cases h
      replace c27 := Classical.not_not.mp c27
      rw [if_pos c27] at h
      cases h
      exact hR _ _ c27 dX4_readClause_35
  · rw [if_pos c3] at h
    refine V.aload_n (r := 13) hC 0 dX4_readClause_12 rfl rfl ?_
    refine V.iconst (r := 14) hC dX4_readClause_13 ki_1 rfl ?_
    obtain ⟨q28, hq29, h⟩ := Option.bind_eq_some_iff.mp h
    try dsimp only at h
    refine V.invVi (as := [.inl (1 : Int32)]) (st := []) (r := 17) hC (met4_fail hq29) yv_X4_fail ml_RX4_62 sh_126 rfl rfl dX4_readClause_14 (by decide) rfl rfl rfl rfl ?_
    by_cases c30 : ¬ ((q28.1) = 0 ∨ (q28.1) = 1)
    · rw [if_neg c30] at h; cases h
    replace c30 := Classical.not_not.mp c30
    rw [if_pos c30] at h
    cases h
    exact hR _ _ c30 dX4_readClause_17
theorem met4_readClause {R : Int32 × xMem} {M : xMem} (h : g4_readClause M = some R) : xMet yX4_readClause cX4_readClause 4 (some .boolean) 164 [.inr 126] M (some R.1) R.2 := xMet.ofZ (by decide +kernel) (Nat.le_of_ble_eq_true rfl) fun _ hC hR => v4_readClause  hC hR h
def g4_read_b24 : Nat → Int32 → xMem → Option (Int32 × xMem)
  | 0, _, _ => none
  | n + 1, x2, M => 
    (if (16 : Int32) < x2 then
    (some (M 115 0, M))
    else
    (Option.bind (g4_readClause M) fun q8 =>
    if (q8.1) = 0 then
    (some (q8.2 115 0, q8.2))
    else
    (if (q8.2 114 0) = (-1 : Int32) then
    (some (q8.2 36 0, q8.2))
    else
    (Option.bind (g4_take (59 : Int32) q8.2) fun q12 =>
    if (q12.1) = 0 then
    (some (q12.2 115 0, q12.2))
    else
    (g4_read_b24 n (x2 + (1 : Int32)) q12.2)))))
set_option maxHeartbeats 4000000 in
set_option maxRecDepth 20000 in
theorem v4_read_b24 {G : xG} (hC : xC G cX4_read 3 RX4 165) {R : Int32 × xMem} (hR : xRI G cX4_read 3 R) : ∀ (n : Nat) (x2 : Int32) (M : xMem), g4_read_b24 n x2 M = some R → V G 3 24 [(0, .inr 126), (2, .inl x2)] [] M := by
  intro n
  induction n with
  | zero => intro x2 M h; rw [g4_read_b24] at h; cases h
  | succ n ih =>
    intro x2 M h
    rw [g4_read_b24] at h
    refine V.iload_n (r := 25) hC 1 dX4_read_24 rfl rfl ?_
    refine V.bipush (r := 27) hC dX4_read_25 kb_16 rfl ?_
    refine V.icmp_gt (tgt := 78) (r := 30) hC dX4_read_27 (by decide) rfl (fun c7 => ?_) (fun c7 => ?_)
    · rw [if_pos c7] at h
      refine V.aload_n (r := 79) hC 0 dX4_read_78 rfl rfl ?_
      refine V.getI (b := 115) (i := 0) (j := 5) (r := 82) hC xcl_4 sh_126 fl_RX4_35 dX4_read_79 (by decide) rfl rfl ?_
      cases h
      exact hR _ _ dX4_read_82
    · rw [if_neg c7] at h
      refine V.aload_n (r := 31) hC 0 dX4_read_30 rfl rfl ?_
      obtain ⟨q8, hq9, h⟩ := Option.bind_eq_some_iff.mp h
      try dsimp only at h
      refine V.invVi (as := []) (st := []) (r := 34) hC (met4_readClause hq9) yv_X4_readClause ml_RX4_45 sh_126 rfl rfl dX4_read_31 (by decide) rfl rfl rfl rfl ?_
      refine V.if_ne (tgt := 42) (r := 37) hC dX4_read_34 (by decide) rfl (fun c10 => ?_) (fun c10 => ?_)
      · rw [if_neg c10] at h
        refine V.aload_n (r := 43) hC 0 dX4_read_42 rfl rfl ?_
        refine V.getI (b := 114) (i := 0) (j := 4) (r := 46) hC xcl_4 sh_126 fl_RX4_32 dX4_read_43 (by decide) rfl rfl ?_
        refine V.iconst (r := 47) hC dX4_read_46 ki_m1 rfl ?_
        refine V.icmp_ne (tgt := 58) (r := 50) hC dX4_read_47 (by decide) rfl (fun c11 => ?_) (fun c11 => ?_)
        · rw [if_neg c11] at h
          refine V.aload_n (r := 59) hC 0 dX4_read_58 rfl rfl ?_
          refine V.bipush (r := 61) hC dX4_read_59 kb_59 rfl ?_
          obtain ⟨q12, hq13, h⟩ := Option.bind_eq_some_iff.mp h
          try dsimp only at h
          refine V.invVi (as := [.inl (59 : Int32)]) (st := []) (r := 64) hC (met4_take hq13) yv_X4_take ml_RX4_52 sh_126 rfl rfl dX4_read_61 (by decide) rfl rfl rfl rfl ?_
          refine V.if_ne (tgt := 72) (r := 67) hC dX4_read_64 (by decide) rfl (fun c14 => ?_) (fun c14 => ?_)
          · rw [if_neg c14] at h
            refine V.inc (lv' := [(0, .inr 126), (2, .inl (x2 + (1 : Int32)))]) (r := 75) hC 1 dX4_read_72 rfl ki_1 rfl rfl rfl ?_
            refine V.goto (tgt := 24) hC dX4_read_75 (by decide) ?_
            exact ih _ _ h
          · rw [if_pos c14] at h
            refine V.aload_n (r := 68) hC 0 dX4_read_67 rfl rfl ?_
            refine V.getI (b := 115) (i := 0) (j := 5) (r := 71) hC xcl_4 sh_126 fl_RX4_35 dX4_read_68 (by decide) rfl rfl ?_
            cases h
            exact hR _ _ dX4_read_71
        · rw [if_pos c11] at h
          refine V.aload_n (r := 51) hC 0 dX4_read_50 rfl rfl ?_
          refine V.getR (k' := 129) (j := 1) (r := 54) hC xcl_4 sh_126 fl_RX4_21 dX4_read_51 (by decide) rfl rfl ?_
          refine V.getI (b := 36) (i := 0) (j := 6) (r := 57) hC xcl_3 sh_129 fl_RX4_49 dX4_read_54 (by decide) rfl rfl ?_
          cases h
          exact hR _ _ dX4_read_57
      · rw [if_pos c10] at h
        refine V.aload_n (r := 38) hC 0 dX4_read_37 rfl rfl ?_
        refine V.getI (b := 115) (i := 0) (j := 5) (r := 41) hC xcl_4 sh_126 fl_RX4_35 dX4_read_38 (by decide) rfl rfl ?_
        cases h
        exact hR _ _ dX4_read_41
def g4_read (a0 : Int32) (M : xMem) : Option (Int32 × xMem) :=
Option.bind (g3_clear M) fun q1 =>
mset (upM q1 113 0 a0) fun M3 =>
Option.bind (g4_goTo (0 : Int32) M3) fun q4 =>
mset (upM q4 115 0 (0 : Int32)) fun M6 =>
g4_read_b24 5000 (0 : Int32) M6
set_option maxHeartbeats 4000000 in
set_option maxRecDepth 20000 in
theorem v4_read {G : xG} (hC : xC G cX4_read 3 RX4 165) {R : Int32 × xMem} (hR : xRI G cX4_read 3 R) {a0 : Int32} {M : xMem} (h : g4_read a0 M = some R) : V G 3 0 [(0, .inr 126), (1, .inl a0)] [] M := by
  unfold g4_read at h
  refine V.aload_n (r := 1) hC 0 dX4_read_0 rfl rfl ?_
  refine V.getR (k' := 129) (j := 1) (r := 4) hC xcl_4 sh_126 fl_RX4_21 dX4_read_1 (by decide) rfl rfl ?_
  obtain ⟨q1, hq2, h⟩ := Option.bind_eq_some_iff.mp h
  try dsimp only at h
  refine V.invVv (as := []) (st := []) (r := 7) hC (met3_clear hq2) yv_X3_clear ml_RX4_38 sh_129 rfl rfl dX4_read_4 (by decide) rfl rfl rfl rfl ?_
  refine V.aload_n (r := 8) hC 0 dX4_read_7 rfl rfl ?_
  refine V.iload_n (r := 9) hC 1 dX4_read_8 rfl rfl ?_
  rw [mset_eq] at h
  refine V.putI (b := 113) (i := 0) (j := 3) (ty := .int) (r := 12) hC xcl_4 xcp_4 sh_126 fl_RX4_29 dX4_read_9 (by decide) rfl rfl (by decide +kernel) rfl rfl rfl ?_
  generalize upM q1 113 0 a0 = M3 at h ⊢
  refine V.aload_n (r := 13) hC 0 dX4_read_12 rfl rfl ?_
  refine V.iconst (r := 14) hC dX4_read_13 ki_0 rfl ?_
  obtain ⟨q4, hq5, h⟩ := Option.bind_eq_some_iff.mp h
  try dsimp only at h
  refine V.invVv (as := [.inl (0 : Int32)]) (st := []) (r := 17) hC (met4_goTo hq5) yv_X4_goTo ml_RX4_41 sh_126 rfl rfl dX4_read_14 (by decide) rfl rfl rfl rfl ?_
  refine V.aload_n (r := 18) hC 0 dX4_read_17 rfl rfl ?_
  refine V.iconst (r := 19) hC dX4_read_18 ki_0 rfl ?_
  rw [mset_eq] at h
  refine V.putI (b := 115) (i := 0) (j := 5) (ty := .int) (r := 22) hC xcl_4 xcp_4 sh_126 fl_RX4_35 dX4_read_19 (by decide) rfl rfl (by decide +kernel) rfl rfl rfl ?_
  generalize upM q4 115 0 (0 : Int32) = M6 at h ⊢
  refine V.iconst (r := 23) hC dX4_read_22 ki_0 rfl ?_
  refine V.ist_n (lv' := [(0, .inr 126), (1, .inl a0), (2, .inl (0 : Int32))]) (r := 24) hC dX4_read_23 rfl rfl rfl ?_
  refine V.pick (lv' := [(0, .inr 126), (2, .inl (0 : Int32))]) [0, 2] rfl ?_
  exact v4_read_b24  hC hR  5000 _ _ h
theorem met4_read {R : Int32 × xMem} {a0 : Int32} {M : xMem} (h : g4_read a0 M = some R) : xMet yX4_read cX4_read 3 (some .int) 165 [.inr 126, .inl a0] M (some R.1) R.2 := xMet.ofI (by decide +kernel) (Nat.le_of_ble_eq_true rfl) fun _ hC hR => v4_read  hC hR h
