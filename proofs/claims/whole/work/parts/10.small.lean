-- 10.small
def g1_become (p q : Nat) (M : xMem) : Option (xMem) :=
if ok01 M q 268 6 then
mset (cpM M p 268 6 q 268) fun M2 =>
mset (cpM M2 p 274 6 q 274) fun M3 =>
mset (cpM M3 p 280 6 q 280) fun M4 =>
mset (cpM M4 p 286 6 q 286) fun M5 =>
mset (cpM M5 p 292 6 q 292) fun M6 =>
if ok01 M6 q 298 6 then
mset (cpM M6 p 298 6 q 298) fun M8 =>
some M8
else none
else none
set_option maxHeartbeats 4000000 in
set_option maxRecDepth 20000 in
theorem v1_become {G : xG} {p q : Nat} (hp : p < 7) (hq : q < 7) (hC : xC G cX1_become 2 RX1 1) {R : xMem} (hR : xRV G cX1_become 2 R) {M : xMem} (h : g1_become p q M = some R) : V G 2 0 [(0, .inr (plc p + 9)), (1, .inr (plc q + 9))] [] M := by
  unfold g1_become at h
  refine V.aload_n (r := 1) hC 1 dX1_become_0 rfl rfl ?_
  refine V.getR (k' := plc q + 10) (j := 0) (r := 4) hC xcl_1 (shp_9 _ hq) fl_RX1_9 dX1_become_1 (by decide) rfl rfl ?_
  refine V.iconst (r := 5) hC dX1_become_4 ki_0 rfl ?_
  refine V.aload_n (r := 6) hC 0 dX1_become_5 rfl rfl ?_
  refine V.getR (k' := plc p + 10) (j := 0) (r := 9) hC xcl_1 (shp_9 _ hp) fl_RX1_9 dX1_become_6 (by decide) rfl rfl ?_
  refine V.iconst (r := 10) hC dX1_become_9 ki_0 rfl ?_
  refine V.bipush (r := 12) hC dX1_become_10 kb_6 rfl ?_
  by_cases c1 : ¬ (ok01 M q 268 6)
  · rw [if_neg c1] at h; cases h
  replace c1 := Classical.not_not.mp c1
  rw [if_pos c1] at h
  rw [mset_eq] at h
  refine V.acopyz (r := 15) hC ac_RX1_31 (by decide) (Nat.le_of_ble_eq_true rfl) (shp_10 _ hq) (shp_10 _ hp) (by decide) (by decide) c1 dX1_become_12 rfl ?_
  generalize cpM M p 268 6 q 268 = M2 at h ⊢
  refine V.aload_n (r := 16) hC 1 dX1_become_15 rfl rfl ?_
  refine V.getR (k' := plc q + 11) (j := 1) (r := 19) hC xcl_1 (shp_9 _ hq) fl_RX1_15 dX1_become_16 (by decide) rfl rfl ?_
  refine V.iconst (r := 20) hC dX1_become_19 ki_0 rfl ?_
  refine V.aload_n (r := 21) hC 0 dX1_become_20 rfl rfl ?_
  refine V.getR (k' := plc p + 11) (j := 1) (r := 24) hC xcl_1 (shp_9 _ hp) fl_RX1_15 dX1_become_21 (by decide) rfl rfl ?_
  refine V.iconst (r := 25) hC dX1_become_24 ki_0 rfl ?_
  refine V.bipush (r := 27) hC dX1_become_25 kb_6 rfl ?_
  rw [mset_eq] at h
  refine V.acopyi (r := 30) hC ac_RX1_31 (by decide) (Nat.le_of_ble_eq_true rfl) (shp_11 _ hq) (shp_11 _ hp) (by decide) (by decide) dX1_become_27 rfl ?_
  generalize cpM M2 p 274 6 q 274 = M3 at h ⊢
  refine V.aload_n (r := 31) hC 1 dX1_become_30 rfl rfl ?_
  refine V.getR (k' := plc q + 12) (j := 2) (r := 34) hC xcl_1 (shp_9 _ hq) fl_RX1_19 dX1_become_31 (by decide) rfl rfl ?_
  refine V.iconst (r := 35) hC dX1_become_34 ki_0 rfl ?_
  refine V.aload_n (r := 36) hC 0 dX1_become_35 rfl rfl ?_
  refine V.getR (k' := plc p + 12) (j := 2) (r := 39) hC xcl_1 (shp_9 _ hp) fl_RX1_19 dX1_become_36 (by decide) rfl rfl ?_
  refine V.iconst (r := 40) hC dX1_become_39 ki_0 rfl ?_
  refine V.bipush (r := 42) hC dX1_become_40 kb_6 rfl ?_
  rw [mset_eq] at h
  refine V.acopyi (r := 45) hC ac_RX1_31 (by decide) (Nat.le_of_ble_eq_true rfl) (shp_12 _ hq) (shp_12 _ hp) (by decide) (by decide) dX1_become_42 rfl ?_
  generalize cpM M3 p 280 6 q 280 = M4 at h ⊢
  refine V.aload_n (r := 46) hC 1 dX1_become_45 rfl rfl ?_
  refine V.getR (k' := plc q + 13) (j := 3) (r := 49) hC xcl_1 (shp_9 _ hq) fl_RX1_22 dX1_become_46 (by decide) rfl rfl ?_
  refine V.iconst (r := 50) hC dX1_become_49 ki_0 rfl ?_
  refine V.aload_n (r := 51) hC 0 dX1_become_50 rfl rfl ?_
  refine V.getR (k' := plc p + 13) (j := 3) (r := 54) hC xcl_1 (shp_9 _ hp) fl_RX1_22 dX1_become_51 (by decide) rfl rfl ?_
  refine V.iconst (r := 55) hC dX1_become_54 ki_0 rfl ?_
  refine V.bipush (r := 57) hC dX1_become_55 kb_6 rfl ?_
  rw [mset_eq] at h
  refine V.acopyi (r := 60) hC ac_RX1_31 (by decide) (Nat.le_of_ble_eq_true rfl) (shp_13 _ hq) (shp_13 _ hp) (by decide) (by decide) dX1_become_57 rfl ?_
  generalize cpM M4 p 286 6 q 286 = M5 at h ⊢
  refine V.aload_n (r := 61) hC 1 dX1_become_60 rfl rfl ?_
  refine V.getR (k' := plc q + 14) (j := 4) (r := 64) hC xcl_1 (shp_9 _ hq) fl_RX1_25 dX1_become_61 (by decide) rfl rfl ?_
  refine V.iconst (r := 65) hC dX1_become_64 ki_0 rfl ?_
  refine V.aload_n (r := 66) hC 0 dX1_become_65 rfl rfl ?_
  refine V.getR (k' := plc p + 14) (j := 4) (r := 69) hC xcl_1 (shp_9 _ hp) fl_RX1_25 dX1_become_66 (by decide) rfl rfl ?_
  refine V.iconst (r := 70) hC dX1_become_69 ki_0 rfl ?_
  refine V.bipush (r := 72) hC dX1_become_70 kb_6 rfl ?_
  rw [mset_eq] at h
  refine V.acopyi (r := 75) hC ac_RX1_31 (by decide) (Nat.le_of_ble_eq_true rfl) (shp_14 _ hq) (shp_14 _ hp) (by decide) (by decide) dX1_become_72 rfl ?_
  generalize cpM M5 p 292 6 q 292 = M6 at h ⊢
  refine V.aload_n (r := 76) hC 1 dX1_become_75 rfl rfl ?_
  refine V.getR (k' := plc q + 15) (j := 5) (r := 79) hC xcl_1 (shp_9 _ hq) fl_RX1_28 dX1_become_76 (by decide) rfl rfl ?_
  refine V.iconst (r := 80) hC dX1_become_79 ki_0 rfl ?_
  refine V.aload_n (r := 81) hC 0 dX1_become_80 rfl rfl ?_
  refine V.getR (k' := plc p + 15) (j := 5) (r := 84) hC xcl_1 (shp_9 _ hp) fl_RX1_28 dX1_become_81 (by decide) rfl rfl ?_
  refine V.iconst (r := 85) hC dX1_become_84 ki_0 rfl ?_
  refine V.bipush (r := 87) hC dX1_become_85 kb_6 rfl ?_
  by_cases c7 : ¬ (ok01 M6 q 298 6)
  · rw [if_neg c7] at h; cases h
  replace c7 := Classical.not_not.mp c7
  rw [if_pos c7] at h
  rw [mset_eq] at h
  refine V.acopyz (r := 90) hC ac_RX1_31 (by decide) (Nat.le_of_ble_eq_true rfl) (shp_15 _ hq) (shp_15 _ hp) (by decide) (by decide) c7 dX1_become_87 rfl ?_
  generalize cpM M6 p 298 6 q 298 = M8 at h ⊢
  cases h
  exact hR _ _ dX1_become_90
theorem met1_become {p q : Nat} (hp : p < 7) (hq : q < 7) {R : xMem} {M : xMem} (h : g1_become p q M = some R) : xMet yX1_become cX1_become 2 none 1 [.inr (plc p + 9), .inr (plc q + 9)] M none R := xMet.ofV (by decide +kernel) (Nat.le_of_ble_eq_true rfl) fun _ hC hR => v1_become hp hq hC hR h
def g1_isTold (p : Nat) (a0 : Int32) (M : xMem) : Option (Int32 × xMem) :=
if a0 < 0 then
(some ((0 : Int32), M))
else
(if (6 : Int32) ≤ a0 then
(some ((0 : Int32), M))
else
(if a0 < 0 ∨ 6 ≤ a0.toNatClampNeg then none else
if (M p (268 + a0.toNatClampNeg)) = 0 then
(some ((0 : Int32), M))
else
(some ((1 : Int32), M))))
set_option maxHeartbeats 4000000 in
set_option maxRecDepth 20000 in
theorem v1_isTold {G : xG} {p : Nat} (hp : p < 7) (hC : xC G cX1_isTold 2 RX1 0) {R : Int32 × xMem} (hR : xRZ G cX1_isTold 2 R) {a0 : Int32} {M : xMem} (h : g1_isTold p a0 M = some R) : V G 2 0 [(0, .inr (plc p + 9)), (1, .inl a0)] [] M := by
  unfold g1_isTold at h
  refine V.iload_n (r := 1) hC 1 dX1_isTold_0 rfl rfl ?_
  refine V.if_lt (tgt := 23) (r := 4) hC dX1_isTold_1 (by decide) rfl (fun c1 => ?_) (fun c1 => ?_)
  · rw [if_pos c1] at h
    refine V.iconst (r := 24) hC dX1_isTold_23 ki_0 rfl ?_
    cases h
    exact hR _ _ (Or.inl rfl) dX1_isTold_24
  · rw [if_neg c1] at h
    refine V.iload_n (r := 5) hC 1 dX1_isTold_4 rfl rfl ?_
    refine V.bipush (r := 7) hC dX1_isTold_5 kb_6 rfl ?_
    refine V.icmp_ge (tgt := 23) (r := 10) hC dX1_isTold_7 (by decide) rfl (fun c2 => ?_) (fun c2 => ?_)
    · rw [if_pos c2] at h
      refine V.iconst (r := 24) hC dX1_isTold_23 ki_0 rfl ?_
      cases h
      exact hR _ _ (Or.inl rfl) dX1_isTold_24
    · rw [if_neg c2] at h
      refine V.aload_n (r := 11) hC 0 dX1_isTold_10 rfl rfl ?_
      refine V.getR (k' := plc p + 10) (j := 0) (r := 14) hC xcl_1 (shp_9 _ hp) fl_RX1_9 dX1_isTold_11 (by decide) rfl rfl ?_
      refine V.iload_n (r := 15) hC 1 dX1_isTold_14 rfl rfl ?_
      by_cases c3 : a0 < 0 ∨ 6 ≤ a0.toNatClampNeg
      · rw [if_pos c3] at h; cases h
      rw [if_neg c3] at h
      refine V.zald (t := (268 + a0.toNatClampNeg)) (r := 16) hC (shp_10 _ hp) dX1_isTold_15 c3 rfl rfl ?_
      refine V.if_eq (tgt := 23) (r := 19) hC dX1_isTold_16 (by decide) rfl (fun c4 => ?_) (fun c4 => ?_)
      · rw [if_pos c4] at h
        refine V.iconst (r := 24) hC dX1_isTold_23 ki_0 rfl ?_
        cases h
        exact hR _ _ (Or.inl rfl) dX1_isTold_24
      · rw [if_neg c4] at h
        refine V.iconst (r := 20) hC dX1_isTold_19 ki_1 rfl ?_
        refine V.goto (tgt := 24) hC dX1_isTold_20 (by decide) ?_
        cases h
        exact hR _ _ (Or.inr rfl) dX1_isTold_24
theorem met1_isTold {p : Nat} (hp : p < 7) {R : Int32 × xMem} {a0 : Int32} {M : xMem} (h : g1_isTold p a0 M = some R) : xMet yX1_isTold cX1_isTold 2 (some .boolean) 0 [.inr (plc p + 9), .inl a0] M (some R.1) R.2 := xMet.ofZ (by decide +kernel) (Nat.le_of_ble_eq_true rfl) fun _ hC hR => v1_isTold hp hC hR h
def g1_isOn (p : Nat) (a0 : Int32) (M : xMem) : Option (Int32 × xMem) :=
if a0 < 0 then
(some ((0 : Int32), M))
else
(if (6 : Int32) ≤ a0 then
(some ((0 : Int32), M))
else
(if a0 < 0 ∨ 6 ≤ a0.toNatClampNeg then none else
if (M p (268 + a0.toNatClampNeg)) = 0 then
(some ((0 : Int32), M))
else
(if (M p (280 + a0.toNatClampNeg)) ≤ 0 then
(some ((0 : Int32), M))
else
(if (M p (274 + a0.toNatClampNeg)) = (196 : Int32) then
(some ((0 : Int32), M))
else
(some ((1 : Int32), M))))))
set_option maxHeartbeats 4000000 in
set_option maxRecDepth 20000 in
theorem v1_isOn {G : xG} {p : Nat} (hp : p < 7) (hC : xC G cX1_isOn 2 RX1 0) {R : Int32 × xMem} (hR : xRZ G cX1_isOn 2 R) {a0 : Int32} {M : xMem} (h : g1_isOn p a0 M = some R) : V G 2 0 [(0, .inr (plc p + 9)), (1, .inl a0)] [] M := by
  unfold g1_isOn at h
  refine V.iload_n (r := 1) hC 1 dX1_isOn_0 rfl rfl ?_
  refine V.if_lt (tgt := 44) (r := 4) hC dX1_isOn_1 (by decide) rfl (fun c1 => ?_) (fun c1 => ?_)
  · rw [if_pos c1] at h
    refine V.iconst (r := 45) hC dX1_isOn_44 ki_0 rfl ?_
    cases h
    exact hR _ _ (Or.inl rfl) dX1_isOn_45
  · rw [if_neg c1] at h
    refine V.iload_n (r := 5) hC 1 dX1_isOn_4 rfl rfl ?_
    refine V.bipush (r := 7) hC dX1_isOn_5 kb_6 rfl ?_
    refine V.icmp_ge (tgt := 44) (r := 10) hC dX1_isOn_7 (by decide) rfl (fun c2 => ?_) (fun c2 => ?_)
    · rw [if_pos c2] at h
      refine V.iconst (r := 45) hC dX1_isOn_44 ki_0 rfl ?_
      cases h
      exact hR _ _ (Or.inl rfl) dX1_isOn_45
    · rw [if_neg c2] at h
      refine V.aload_n (r := 11) hC 0 dX1_isOn_10 rfl rfl ?_
      refine V.getR (k' := plc p + 10) (j := 0) (r := 14) hC xcl_1 (shp_9 _ hp) fl_RX1_9 dX1_isOn_11 (by decide) rfl rfl ?_
      refine V.iload_n (r := 15) hC 1 dX1_isOn_14 rfl rfl ?_
      by_cases c3 : a0 < 0 ∨ 6 ≤ a0.toNatClampNeg
      · rw [if_pos c3] at h; cases h
      rw [if_neg c3] at h
      refine V.zald (t := (268 + a0.toNatClampNeg)) (r := 16) hC (shp_10 _ hp) dX1_isOn_15 c3 rfl rfl ?_
      refine V.if_eq (tgt := 44) (r := 19) hC dX1_isOn_16 (by decide) rfl (fun c4 => ?_) (fun c4 => ?_)
      · rw [if_pos c4] at h
        refine V.iconst (r := 45) hC dX1_isOn_44 ki_0 rfl ?_
        cases h
        exact hR _ _ (Or.inl rfl) dX1_isOn_45
      · rw [if_neg c4] at h
        refine V.aload_n (r := 20) hC 0 dX1_isOn_19 rfl rfl ?_
        refine V.getR (k' := plc p + 12) (j := 2) (r := 23) hC xcl_1 (shp_9 _ hp) fl_RX1_19 dX1_isOn_20 (by decide) rfl rfl ?_
        refine V.iload_n (r := 24) hC 1 dX1_isOn_23 rfl rfl ?_
        refine V.iald (t := (280 + a0.toNatClampNeg)) (r := 25) hC (shp_12 _ hp) dX1_isOn_24 c3 rfl rfl ?_
        refine V.if_le (tgt := 44) (r := 28) hC dX1_isOn_25 (by decide) rfl (fun c5 => ?_) (fun c5 => ?_)
        · rw [if_pos c5] at h
          refine V.iconst (r := 45) hC dX1_isOn_44 ki_0 rfl ?_
          cases h
          exact hR _ _ (Or.inl rfl) dX1_isOn_45
        · rw [if_neg c5] at h
          refine V.aload_n (r := 29) hC 0 dX1_isOn_28 rfl rfl ?_
          refine V.getR (k' := plc p + 11) (j := 1) (r := 32) hC xcl_1 (shp_9 _ hp) fl_RX1_15 dX1_isOn_29 (by decide) rfl rfl ?_
          refine V.iload_n (r := 33) hC 1 dX1_isOn_32 rfl rfl ?_
          refine V.iald (t := (274 + a0.toNatClampNeg)) (r := 34) hC (shp_11 _ hp) dX1_isOn_33 c3 rfl rfl ?_
          refine V.sipush (r := 37) hC dX1_isOn_34 ks_196 rfl ?_
          refine V.icmp_eq (tgt := 44) (r := 40) hC dX1_isOn_37 (by decide) rfl (fun c6 => ?_) (fun c6 => ?_)
          · rw [if_pos c6] at h
            refine V.iconst (r := 45) hC dX1_isOn_44 ki_0 rfl ?_
            cases h
            exact hR _ _ (Or.inl rfl) dX1_isOn_45
          · rw [if_neg c6] at h
            refine V.iconst (r := 41) hC dX1_isOn_40 ki_1 rfl ?_
            refine V.goto (tgt := 45) hC dX1_isOn_41 (by decide) ?_
            cases h
            exact hR _ _ (Or.inr rfl) dX1_isOn_45
theorem met1_isOn {p : Nat} (hp : p < 7) {R : Int32 × xMem} {a0 : Int32} {M : xMem} (h : g1_isOn p a0 M = some R) : xMet yX1_isOn cX1_isOn 2 (some .boolean) 0 [.inr (plc p + 9), .inl a0] M (some R.1) R.2 := xMet.ofZ (by decide +kernel) (Nat.le_of_ble_eq_true rfl) fun _ hC hR => v1_isOn hp hC hR h
def g1_toldBits_b27 (p : Nat) (k4 : Int32 → Int32 → xMem → Option (Int32 × xMem)) (x2 s0 s1 : Int32) (M : xMem) : Option (Int32 × xMem) :=
k4 (s0 ||| s1) (x2 + (1 : Int32)) M
set_option maxHeartbeats 4000000 in
set_option maxRecDepth 20000 in
theorem v1_toldBits_b27 {G : xG} {p : Nat} (hp : p < 7) (hC : xC G cX1_toldBits 3 RX1 0) {R : Int32 × xMem} (hR : xRI G cX1_toldBits 3 R) {k4 : Int32 → Int32 → xMem → Option (Int32 × xMem)} (hk4 : ∀ (y1 y2 : Int32) (N : xMem), k4 y1 y2 N = some R → V G 3 4 [(0, .inr (plc p + 9)), (1, .inl y1), (2, .inl y2)] [] N) (x2 s0 s1 : Int32) (M : xMem) (h : g1_toldBits_b27 p k4 x2 s0 s1 M = some R) : V G 3 27 [(0, .inr (plc p + 9)), (2, .inl x2)] [.inl s1, .inl s0] M := by
  unfold g1_toldBits_b27 at h
  refine V.ior (r := 28) hC dX1_toldBits_27 rfl ?_
  refine V.ist_n (lv' := [(0, .inr (plc p + 9)), (1, .inl (s0 ||| s1)), (2, .inl x2)]) (r := 29) hC dX1_toldBits_28 rfl rfl rfl ?_
  refine V.inc (lv' := [(0, .inr (plc p + 9)), (1, .inl (s0 ||| s1)), (2, .inl (x2 + (1 : Int32)))]) (r := 32) hC 2 dX1_toldBits_29 rfl ki_1 rfl rfl rfl ?_
  refine V.goto (tgt := 4) hC dX1_toldBits_32 (by decide) ?_
  exact hk4 _ _ _ h
def g1_toldBits_b4 (p : Nat) : Nat → Int32 → Int32 → xMem → Option (Int32 × xMem)
  | 0, _, _, _ => none
  | n + 1, x1, x2, M => 
    (if (6 : Int32) ≤ x2 then
    (some (x1, M))
    else
    (if x2 < 0 ∨ 6 ≤ x2.toNatClampNeg then none else
    if (M p (268 + x2.toNatClampNeg)) = 0 then
    (g1_toldBits_b27 p (g1_toldBits_b4 p n) x2 x1 (0 : Int32) M)
    else
    (g1_toldBits_b27 p (g1_toldBits_b4 p n) x2 x1 ((1 : Int32) <<< (x2 &&& 31)) M)))
set_option maxHeartbeats 4000000 in
set_option maxRecDepth 20000 in
theorem v1_toldBits_b4 {G : xG} {p : Nat} (hp : p < 7) (hC : xC G cX1_toldBits 3 RX1 0) {R : Int32 × xMem} (hR : xRI G cX1_toldBits 3 R) : ∀ (n : Nat) (x1 x2 : Int32) (M : xMem), g1_toldBits_b4 p n x1 x2 M = some R → V G 3 4 [(0, .inr (plc p + 9)), (1, .inl x1), (2, .inl x2)] [] M := by
  intro n
  induction n with
  | zero => intro x1 x2 M h; rw [g1_toldBits_b4] at h; cases h
  | succ n ih =>
    intro x1 x2 M h
    rw [g1_toldBits_b4] at h
    refine V.iload_n (r := 5) hC 2 dX1_toldBits_4 rfl rfl ?_
    refine V.bipush (r := 7) hC dX1_toldBits_5 kb_6 rfl ?_
    refine V.icmp_ge (tgt := 35) (r := 10) hC dX1_toldBits_7 (by decide) rfl (fun c1 => ?_) (fun c1 => ?_)
    · rw [if_pos c1] at h
      refine V.iload_n (r := 36) hC 1 dX1_toldBits_35 rfl rfl ?_
      cases h
      exact hR _ _ dX1_toldBits_36
    · rw [if_neg c1] at h
      refine V.iload_n (r := 11) hC 1 dX1_toldBits_10 rfl rfl ?_
      refine V.aload_n (r := 12) hC 0 dX1_toldBits_11 rfl rfl ?_
      refine V.getR (k' := plc p + 10) (j := 0) (r := 15) hC xcl_1 (shp_9 _ hp) fl_RX1_9 dX1_toldBits_12 (by decide) rfl rfl ?_
      refine V.iload_n (r := 16) hC 2 dX1_toldBits_15 rfl rfl ?_
      by_cases c2 : x2 < 0 ∨ 6 ≤ x2.toNatClampNeg
      · rw [if_pos c2] at h; cases h
      rw [if_neg c2] at h
      refine V.zald (t := (268 + x2.toNatClampNeg)) (r := 17) hC (shp_10 _ hp) dX1_toldBits_16 c2 rfl rfl ?_
      refine V.if_eq (tgt := 26) (r := 20) hC dX1_toldBits_17 (by decide) rfl (fun c3 => ?_) (fun c3 => ?_)
      · rw [if_pos c3] at h
        refine V.iconst (r := 27) hC dX1_toldBits_26 ki_0 rfl ?_
        refine V.pick (lv' := [(0, .inr (plc p + 9)), (2, .inl x2)]) [0, 2] rfl ?_
        exact v1_toldBits_b27 hp hC hR ih _ _ _ _ h
      · rw [if_neg c3] at h
        refine V.iconst (r := 21) hC dX1_toldBits_20 ki_1 rfl ?_
        refine V.iload_n (r := 22) hC 2 dX1_toldBits_21 rfl rfl ?_
        refine V.ishl (r := 23) hC dX1_toldBits_22 rfl ?_
        refine V.goto (tgt := 27) hC dX1_toldBits_23 (by decide) ?_
        refine V.pick (lv' := [(0, .inr (plc p + 9)), (2, .inl x2)]) [0, 2] rfl ?_
        exact v1_toldBits_b27 hp hC hR ih _ _ _ _ h
def g1_toldBits (p : Nat) (M : xMem) : Option (Int32 × xMem) :=
g1_toldBits_b4 p 5000 (0 : Int32) (0 : Int32) M
set_option maxHeartbeats 4000000 in
set_option maxRecDepth 20000 in
theorem v1_toldBits {G : xG} {p : Nat} (hp : p < 7) (hC : xC G cX1_toldBits 3 RX1 0) {R : Int32 × xMem} (hR : xRI G cX1_toldBits 3 R) {M : xMem} (h : g1_toldBits p M = some R) : V G 3 0 [(0, .inr (plc p + 9))] [] M := by
  unfold g1_toldBits at h
  refine V.iconst (r := 1) hC dX1_toldBits_0 ki_0 rfl ?_
  refine V.ist_n (lv' := [(0, .inr (plc p + 9)), (1, .inl (0 : Int32))]) (r := 2) hC dX1_toldBits_1 rfl rfl rfl ?_
  refine V.iconst (r := 3) hC dX1_toldBits_2 ki_0 rfl ?_
  refine V.ist_n (lv' := [(0, .inr (plc p + 9)), (1, .inl (0 : Int32)), (2, .inl (0 : Int32))]) (r := 4) hC dX1_toldBits_3 rfl rfl rfl ?_
  exact v1_toldBits_b4 hp hC hR  5000 _ _ _ h
theorem met1_toldBits {p : Nat} (hp : p < 7) {R : Int32 × xMem} {M : xMem} (h : g1_toldBits p M = some R) : xMet yX1_toldBits cX1_toldBits 3 (some .int) 0 [.inr (plc p + 9)] M (some R.1) R.2 := xMet.ofI (by decide +kernel) (Nat.le_of_ble_eq_true rfl) fun _ hC hR => v1_toldBits hp hC hR h
def g1_onBits_b26 (p : Nat) (k4 : Int32 → Int32 → xMem → Option (Int32 × xMem)) (x2 s0 s1 : Int32) (M : xMem) : Option (Int32 × xMem) :=
k4 (s0 ||| s1) (x2 + (1 : Int32)) M
set_option maxHeartbeats 4000000 in
set_option maxRecDepth 20000 in
theorem v1_onBits_b26 {G : xG} {p : Nat} (hp : p < 7) (hC : xC G cX1_onBits 3 RX1 1) {R : Int32 × xMem} (hR : xRI G cX1_onBits 3 R) {k4 : Int32 → Int32 → xMem → Option (Int32 × xMem)} (hk4 : ∀ (y1 y2 : Int32) (N : xMem), k4 y1 y2 N = some R → V G 3 4 [(0, .inr (plc p + 9)), (1, .inl y1), (2, .inl y2)] [] N) (x2 s0 s1 : Int32) (M : xMem) (h : g1_onBits_b26 p k4 x2 s0 s1 M = some R) : V G 3 26 [(0, .inr (plc p + 9)), (2, .inl x2)] [.inl s1, .inl s0] M := by
  unfold g1_onBits_b26 at h
  refine V.ior (r := 27) hC dX1_onBits_26 rfl ?_
  refine V.ist_n (lv' := [(0, .inr (plc p + 9)), (1, .inl (s0 ||| s1)), (2, .inl x2)]) (r := 28) hC dX1_onBits_27 rfl rfl rfl ?_
  refine V.inc (lv' := [(0, .inr (plc p + 9)), (1, .inl (s0 ||| s1)), (2, .inl (x2 + (1 : Int32)))]) (r := 31) hC 2 dX1_onBits_28 rfl ki_1 rfl rfl rfl ?_
  refine V.goto (tgt := 4) hC dX1_onBits_31 (by decide) ?_
  exact hk4 _ _ _ h
def g1_onBits_b4 (p : Nat) : Nat → Int32 → Int32 → xMem → Option (Int32 × xMem)
  | 0, _, _, _ => none
  | n + 1, x1, x2, M => 
    (if (6 : Int32) ≤ x2 then
    (some (x1, M))
    else
    (Option.bind (g1_isOn p x2 M) fun q2 =>
    if (q2.1) = 0 then
    (g1_onBits_b26 p (g1_onBits_b4 p n) x2 x1 (0 : Int32) q2.2)
    else
    (g1_onBits_b26 p (g1_onBits_b4 p n) x2 x1 ((1 : Int32) <<< (x2 &&& 31)) q2.2)))
set_option maxHeartbeats 4000000 in
set_option maxRecDepth 20000 in
theorem v1_onBits_b4 {G : xG} {p : Nat} (hp : p < 7) (hC : xC G cX1_onBits 3 RX1 1) {R : Int32 × xMem} (hR : xRI G cX1_onBits 3 R) : ∀ (n : Nat) (x1 x2 : Int32) (M : xMem), g1_onBits_b4 p n x1 x2 M = some R → V G 3 4 [(0, .inr (plc p + 9)), (1, .inl x1), (2, .inl x2)] [] M := by
  intro n
  induction n with
  | zero => intro x1 x2 M h; rw [g1_onBits_b4] at h; cases h
  | succ n ih =>
    intro x1 x2 M h
    rw [g1_onBits_b4] at h
    refine V.iload_n (r := 5) hC 2 dX1_onBits_4 rfl rfl ?_
    refine V.bipush (r := 7) hC dX1_onBits_5 kb_6 rfl ?_
    refine V.icmp_ge (tgt := 34) (r := 10) hC dX1_onBits_7 (by decide) rfl (fun c1 => ?_) (fun c1 => ?_)
    · rw [if_pos c1] at h
      refine V.iload_n (r := 35) hC 1 dX1_onBits_34 rfl rfl ?_
      cases h
      exact hR _ _ dX1_onBits_35
    · rw [if_neg c1] at h
      refine V.iload_n (r := 11) hC 1 dX1_onBits_10 rfl rfl ?_
      refine V.aload_n (r := 12) hC 0 dX1_onBits_11 rfl rfl ?_
      refine V.iload_n (r := 13) hC 2 dX1_onBits_12 rfl rfl ?_
      obtain ⟨q2, hq3, h⟩ := Option.bind_eq_some_iff.mp h
      try dsimp only at h
      refine V.invVi (as := [.inl x2]) (st := [.inl x1]) (r := 16) hC (met1_isOn hp hq3) yv_X1_isOn ml_RX1_37 (shp_9 _ hp) rfl rfl dX1_onBits_13 (by decide) rfl rfl rfl rfl ?_
      refine V.if_eq (tgt := 25) (r := 19) hC dX1_onBits_16 (by decide) rfl (fun c4 => ?_) (fun c4 => ?_)
      · rw [if_pos c4] at h
        refine V.iconst (r := 26) hC dX1_onBits_25 ki_0 rfl ?_
        refine V.pick (lv' := [(0, .inr (plc p + 9)), (2, .inl x2)]) [0, 2] rfl ?_
        exact v1_onBits_b26 hp hC hR ih _ _ _ _ h
      · rw [if_neg c4] at h
        refine V.iconst (r := 20) hC dX1_onBits_19 ki_1 rfl ?_
        refine V.iload_n (r := 21) hC 2 dX1_onBits_20 rfl rfl ?_
        refine V.ishl (r := 22) hC dX1_onBits_21 rfl ?_
        refine V.goto (tgt := 26) hC dX1_onBits_22 (by decide) ?_
        refine V.pick (lv' := [(0, .inr (plc p + 9)), (2, .inl x2)]) [0, 2] rfl ?_
        exact v1_onBits_b26 hp hC hR ih _ _ _ _ h
def g1_onBits (p : Nat) (M : xMem) : Option (Int32 × xMem) :=
g1_onBits_b4 p 5000 (0 : Int32) (0 : Int32) M
set_option maxHeartbeats 4000000 in
set_option maxRecDepth 20000 in
theorem v1_onBits {G : xG} {p : Nat} (hp : p < 7) (hC : xC G cX1_onBits 3 RX1 1) {R : Int32 × xMem} (hR : xRI G cX1_onBits 3 R) {M : xMem} (h : g1_onBits p M = some R) : V G 3 0 [(0, .inr (plc p + 9))] [] M := by
  unfold g1_onBits at h
  refine V.iconst (r := 1) hC dX1_onBits_0 ki_0 rfl ?_
  refine V.ist_n (lv' := [(0, .inr (plc p + 9)), (1, .inl (0 : Int32))]) (r := 2) hC dX1_onBits_1 rfl rfl rfl ?_
  refine V.iconst (r := 3) hC dX1_onBits_2 ki_0 rfl ?_
  refine V.ist_n (lv' := [(0, .inr (plc p + 9)), (1, .inl (0 : Int32)), (2, .inl (0 : Int32))]) (r := 4) hC dX1_onBits_3 rfl rfl rfl ?_
  exact v1_onBits_b4 hp hC hR  5000 _ _ _ h
theorem met1_onBits {p : Nat} (hp : p < 7) {R : Int32 × xMem} {M : xMem} (h : g1_onBits p M = some R) : xMet yX1_onBits cX1_onBits 3 (some .int) 1 [.inr (plc p + 9)] M (some R.1) R.2 := xMet.ofI (by decide +kernel) (Nat.le_of_ble_eq_true rfl) fun _ hC hR => v1_onBits hp hC hR h
def g1_living_b30 (p : Nat) (k4 : Int32 → Int32 → xMem → Option (Int32 × xMem)) (x2 s0 s1 : Int32) (M : xMem) : Option (Int32 × xMem) :=
k4 (s0 + s1) (x2 + (1 : Int32)) M
set_option maxHeartbeats 4000000 in
set_option maxRecDepth 20000 in
theorem v1_living_b30 {G : xG} {p : Nat} (hp : p < 7) (hC : xC G cX1_living 3 RX1 0) {R : Int32 × xMem} (hR : xRI G cX1_living 3 R) {k4 : Int32 → Int32 → xMem → Option (Int32 × xMem)} (hk4 : ∀ (y1 y2 : Int32) (N : xMem), k4 y1 y2 N = some R → V G 3 4 [(0, .inr (plc p + 9)), (1, .inl y1), (2, .inl y2)] [] N) (x2 s0 s1 : Int32) (M : xMem) (h : g1_living_b30 p k4 x2 s0 s1 M = some R) : V G 3 30 [(0, .inr (plc p + 9)), (2, .inl x2)] [.inl s1, .inl s0] M := by
  unfold g1_living_b30 at h
  refine V.iadd (r := 31) hC dX1_living_30 rfl ?_
  refine V.ist_n (lv' := [(0, .inr (plc p + 9)), (1, .inl (s0 + s1)), (2, .inl x2)]) (r := 32) hC dX1_living_31 rfl rfl rfl ?_
  refine V.inc (lv' := [(0, .inr (plc p + 9)), (1, .inl (s0 + s1)), (2, .inl (x2 + (1 : Int32)))]) (r := 35) hC 2 dX1_living_32 rfl ki_1 rfl rfl rfl ?_
  refine V.goto (tgt := 4) hC dX1_living_35 (by decide) ?_
  exact hk4 _ _ _ h
def g1_living_b4 (p : Nat) : Nat → Int32 → Int32 → xMem → Option (Int32 × xMem)
  | 0, _, _, _ => none
  | n + 1, x1, x2, M => 
    (if (6 : Int32) ≤ x2 then
    (some (x1, M))
    else
    (if x2 < 0 ∨ 6 ≤ x2.toNatClampNeg then none else
    if (M p (268 + x2.toNatClampNeg)) = 0 then
    (g1_living_b30 p (g1_living_b4 p n) x2 x1 (0 : Int32) M)
    else
    (g1_living_b30 p (g1_living_b4 p n) x2 x1 (M p (280 + x2.toNatClampNeg)) M)))
set_option maxHeartbeats 4000000 in
set_option maxRecDepth 20000 in
theorem v1_living_b4 {G : xG} {p : Nat} (hp : p < 7) (hC : xC G cX1_living 3 RX1 0) {R : Int32 × xMem} (hR : xRI G cX1_living 3 R) : ∀ (n : Nat) (x1 x2 : Int32) (M : xMem), g1_living_b4 p n x1 x2 M = some R → V G 3 4 [(0, .inr (plc p + 9)), (1, .inl x1), (2, .inl x2)] [] M := by
  intro n
  induction n with
  | zero => intro x1 x2 M h; rw [g1_living_b4] at h; cases h
  | succ n ih =>
    intro x1 x2 M h
    rw [g1_living_b4] at h
    refine V.iload_n (r := 5) hC 2 dX1_living_4 rfl rfl ?_
    refine V.bipush (r := 7) hC dX1_living_5 kb_6 rfl ?_
    refine V.icmp_ge (tgt := 38) (r := 10) hC dX1_living_7 (by decide) rfl (fun c1 => ?_) (fun c1 => ?_)
    · rw [if_pos c1] at h
      refine V.iload_n (r := 39) hC 1 dX1_living_38 rfl rfl ?_
      cases h
      exact hR _ _ dX1_living_39
    · rw [if_neg c1] at h
      refine V.iload_n (r := 11) hC 1 dX1_living_10 rfl rfl ?_
      refine V.aload_n (r := 12) hC 0 dX1_living_11 rfl rfl ?_
      refine V.getR (k' := plc p + 10) (j := 0) (r := 15) hC xcl_1 (shp_9 _ hp) fl_RX1_9 dX1_living_12 (by decide) rfl rfl ?_
      refine V.iload_n (r := 16) hC 2 dX1_living_15 rfl rfl ?_
      by_cases c2 : x2 < 0 ∨ 6 ≤ x2.toNatClampNeg
      · rw [if_pos c2] at h; cases h
      rw [if_neg c2] at h
      refine V.zald (t := (268 + x2.toNatClampNeg)) (r := 17) hC (shp_10 _ hp) dX1_living_16 c2 rfl rfl ?_
      refine V.if_eq (tgt := 29) (r := 20) hC dX1_living_17 (by decide) rfl (fun c3 => ?_) (fun c3 => ?_)
      · rw [if_pos c3] at h
        refine V.iconst (r := 30) hC dX1_living_29 ki_0 rfl ?_
        refine V.pick (lv' := [(0, .inr (plc p + 9)), (2, .inl x2)]) [0, 2] rfl ?_
        exact v1_living_b30 hp hC hR ih _ _ _ _ h
      · rw [if_neg c3] at h
        refine V.aload_n (r := 21) hC 0 dX1_living_20 rfl rfl ?_
        refine V.getR (k' := plc p + 12) (j := 2) (r := 24) hC xcl_1 (shp_9 _ hp) fl_RX1_19 dX1_living_21 (by decide) rfl rfl ?_
        refine V.iload_n (r := 25) hC 2 dX1_living_24 rfl rfl ?_
        refine V.iald (t := (280 + x2.toNatClampNeg)) (r := 26) hC (shp_12 _ hp) dX1_living_25 c2 rfl rfl ?_
        refine V.goto (tgt := 30) hC dX1_living_26 (by decide) ?_
        refine V.pick (lv' := [(0, .inr (plc p + 9)), (2, .inl x2)]) [0, 2] rfl ?_
        exact v1_living_b30 hp hC hR ih _ _ _ _ h
def g1_living (p : Nat) (M : xMem) : Option (Int32 × xMem) :=
g1_living_b4 p 5000 (0 : Int32) (0 : Int32) M
set_option maxHeartbeats 4000000 in
set_option maxRecDepth 20000 in
theorem v1_living {G : xG} {p : Nat} (hp : p < 7) (hC : xC G cX1_living 3 RX1 0) {R : Int32 × xMem} (hR : xRI G cX1_living 3 R) {M : xMem} (h : g1_living p M = some R) : V G 3 0 [(0, .inr (plc p + 9))] [] M := by
  unfold g1_living at h
  refine V.iconst (r := 1) hC dX1_living_0 ki_0 rfl ?_
  refine V.ist_n (lv' := [(0, .inr (plc p + 9)), (1, .inl (0 : Int32))]) (r := 2) hC dX1_living_1 rfl rfl rfl ?_
  refine V.iconst (r := 3) hC dX1_living_2 ki_0 rfl ?_
  refine V.ist_n (lv' := [(0, .inr (plc p + 9)), (1, .inl (0 : Int32)), (2, .inl (0 : Int32))]) (r := 4) hC dX1_living_3 rfl rfl rfl ?_
  exact v1_living_b4 hp hC hR  5000 _ _ _ h
theorem met1_living {p : Nat} (hp : p < 7) {R : Int32 × xMem} {M : xMem} (h : g1_living p M = some R) : xMet yX1_living cX1_living 3 (some .int) 0 [.inr (plc p + 9)] M (some R.1) R.2 := xMet.ofI (by decide +kernel) (Nat.le_of_ble_eq_true rfl) fun _ hC hR => v1_living hp hC hR h
def g1_livingThrough_b42 (p : Nat) (k4 : Int32 → Int32 → xMem → Option (Int32 × xMem)) (x2 s0 s1 : Int32) (M : xMem) : Option (Int32 × xMem) :=
k4 (s0 + s1) (x2 + (1 : Int32)) M
set_option maxHeartbeats 4000000 in
set_option maxRecDepth 20000 in
theorem v1_livingThrough_b42 {G : xG} {p : Nat} (hp : p < 7) (hC : xC G cX1_livingThrough 3 RX1 0) {R : Int32 × xMem} (hR : xRI G cX1_livingThrough 3 R) {k4 : Int32 → Int32 → xMem → Option (Int32 × xMem)} (hk4 : ∀ (y1 y2 : Int32) (N : xMem), k4 y1 y2 N = some R → V G 3 4 [(0, .inr (plc p + 9)), (1, .inl y1), (2, .inl y2)] [] N) (x2 s0 s1 : Int32) (M : xMem) (h : g1_livingThrough_b42 p k4 x2 s0 s1 M = some R) : V G 3 42 [(0, .inr (plc p + 9)), (2, .inl x2)] [.inl s1, .inl s0] M := by
  unfold g1_livingThrough_b42 at h
  refine V.iadd (r := 43) hC dX1_livingThrough_42 rfl ?_
  refine V.ist_n (lv' := [(0, .inr (plc p + 9)), (1, .inl (s0 + s1)), (2, .inl x2)]) (r := 44) hC dX1_livingThrough_43 rfl rfl rfl ?_
  refine V.inc (lv' := [(0, .inr (plc p + 9)), (1, .inl (s0 + s1)), (2, .inl (x2 + (1 : Int32)))]) (r := 47) hC 2 dX1_livingThrough_44 rfl ki_1 rfl rfl rfl ?_
  refine V.goto (tgt := 4) hC dX1_livingThrough_47 (by decide) ?_
  exact hk4 _ _ _ h
def g1_livingThrough_b41 (p : Nat) (k4 : Int32 → Int32 → xMem → Option (Int32 × xMem)) (x2 s0 : Int32) (M : xMem) : Option (Int32 × xMem) :=
g1_livingThrough_b42 p k4 x2 s0 (0 : Int32) M
set_option maxHeartbeats 4000000 in
set_option maxRecDepth 20000 in
theorem v1_livingThrough_b41 {G : xG} {p : Nat} (hp : p < 7) (hC : xC G cX1_livingThrough 3 RX1 0) {R : Int32 × xMem} (hR : xRI G cX1_livingThrough 3 R) {k4 : Int32 → Int32 → xMem → Option (Int32 × xMem)} (hk4 : ∀ (y1 y2 : Int32) (N : xMem), k4 y1 y2 N = some R → V G 3 4 [(0, .inr (plc p + 9)), (1, .inl y1), (2, .inl y2)] [] N) (x2 s0 : Int32) (M : xMem) (h : g1_livingThrough_b41 p k4 x2 s0 M = some R) : V G 3 41 [(0, .inr (plc p + 9)), (2, .inl x2)] [.inl s0] M := by
  unfold g1_livingThrough_b41 at h
  refine V.iconst (r := 42) hC dX1_livingThrough_41 ki_0 rfl ?_
  exact v1_livingThrough_b42 hp hC hR hk4 _ _ _ _ h
def g1_livingThrough_b4 (p : Nat) : Nat → Int32 → Int32 → xMem → Option (Int32 × xMem)
  | 0, _, _, _ => none
  | n + 1, x1, x2, M => 
    (if (6 : Int32) ≤ x2 then
    (some (x1, M))
    else
    (if x2 < 0 ∨ 6 ≤ x2.toNatClampNeg then none else
    if (M p (268 + x2.toNatClampNeg)) = 0 then
    (g1_livingThrough_b41 p (g1_livingThrough_b4 p n) x2 x1 M)
    else
    (if (M p (274 + x2.toNatClampNeg)) = (196 : Int32) then
    (g1_livingThrough_b42 p (g1_livingThrough_b4 p n) x2 x1 (M p (280 + x2.toNatClampNeg)) M)
    else
    (g1_livingThrough_b41 p (g1_livingThrough_b4 p n) x2 x1 M))))
set_option maxHeartbeats 4000000 in
set_option maxRecDepth 20000 in
theorem v1_livingThrough_b4 {G : xG} {p : Nat} (hp : p < 7) (hC : xC G cX1_livingThrough 3 RX1 0) {R : Int32 × xMem} (hR : xRI G cX1_livingThrough 3 R) : ∀ (n : Nat) (x1 x2 : Int32) (M : xMem), g1_livingThrough_b4 p n x1 x2 M = some R → V G 3 4 [(0, .inr (plc p + 9)), (1, .inl x1), (2, .inl x2)] [] M := by
  intro n
  induction n with
  | zero => intro x1 x2 M h; rw [g1_livingThrough_b4] at h; cases h
  | succ n ih =>
    intro x1 x2 M h
    rw [g1_livingThrough_b4] at h
    refine V.iload_n (r := 5) hC 2 dX1_livingThrough_4 rfl rfl ?_
    refine V.bipush (r := 7) hC dX1_livingThrough_5 kb_6 rfl ?_
    refine V.icmp_ge (tgt := 50) (r := 10) hC dX1_livingThrough_7 (by decide) rfl (fun c1 => ?_) (fun c1 => ?_)
    · rw [if_pos c1] at h
      refine V.iload_n (r := 51) hC 1 dX1_livingThrough_50 rfl rfl ?_
      cases h
      exact hR _ _ dX1_livingThrough_51
    · rw [if_neg c1] at h
      refine V.iload_n (r := 11) hC 1 dX1_livingThrough_10 rfl rfl ?_
      refine V.aload_n (r := 12) hC 0 dX1_livingThrough_11 rfl rfl ?_
      refine V.getR (k' := plc p + 10) (j := 0) (r := 15) hC xcl_1 (shp_9 _ hp) fl_RX1_9 dX1_livingThrough_12 (by decide) rfl rfl ?_
      refine V.iload_n (r := 16) hC 2 dX1_livingThrough_15 rfl rfl ?_
      by_cases c2 : x2 < 0 ∨ 6 ≤ x2.toNatClampNeg
      · rw [if_pos c2] at h; cases h
      rw [if_neg c2] at h
      refine V.zald (t := (268 + x2.toNatClampNeg)) (r := 17) hC (shp_10 _ hp) dX1_livingThrough_16 c2 rfl rfl ?_
      refine V.if_eq (tgt := 41) (r := 20) hC dX1_livingThrough_17 (by decide) rfl (fun c3 => ?_) (fun c3 => ?_)
      · rw [if_pos c3] at h
        refine V.pick (lv' := [(0, .inr (plc p + 9)), (2, .inl x2)]) [0, 2] rfl ?_
        exact v1_livingThrough_b41 hp hC hR ih _ _ _ h
      · rw [if_neg c3] at h
        refine V.aload_n (r := 21) hC 0 dX1_livingThrough_20 rfl rfl ?_
        refine V.getR (k' := plc p + 11) (j := 1) (r := 24) hC xcl_1 (shp_9 _ hp) fl_RX1_15 dX1_livingThrough_21 (by decide) rfl rfl ?_
        refine V.iload_n (r := 25) hC 2 dX1_livingThrough_24 rfl rfl ?_
        refine V.iald (t := (274 + x2.toNatClampNeg)) (r := 26) hC (shp_11 _ hp) dX1_livingThrough_25 c2 rfl rfl ?_
        refine V.sipush (r := 29) hC dX1_livingThrough_26 ks_196 rfl ?_
        refine V.icmp_ne (tgt := 41) (r := 32) hC dX1_livingThrough_29 (by decide) rfl (fun c4 => ?_) (fun c4 => ?_)
        · rw [if_neg c4] at h
          refine V.pick (lv' := [(0, .inr (plc p + 9)), (2, .inl x2)]) [0, 2] rfl ?_
          exact v1_livingThrough_b41 hp hC hR ih _ _ _ h
        · rw [if_pos c4] at h
          refine V.aload_n (r := 33) hC 0 dX1_livingThrough_32 rfl rfl ?_
          refine V.getR (k' := plc p + 12) (j := 2) (r := 36) hC xcl_1 (shp_9 _ hp) fl_RX1_19 dX1_livingThrough_33 (by decide) rfl rfl ?_
          refine V.iload_n (r := 37) hC 2 dX1_livingThrough_36 rfl rfl ?_
          refine V.iald (t := (280 + x2.toNatClampNeg)) (r := 38) hC (shp_12 _ hp) dX1_livingThrough_37 c2 rfl rfl ?_
          refine V.goto (tgt := 42) hC dX1_livingThrough_38 (by decide) ?_
          refine V.pick (lv' := [(0, .inr (plc p + 9)), (2, .inl x2)]) [0, 2] rfl ?_
          exact v1_livingThrough_b42 hp hC hR ih _ _ _ _ h
def g1_livingThrough (p : Nat) (M : xMem) : Option (Int32 × xMem) :=
g1_livingThrough_b4 p 5000 (0 : Int32) (0 : Int32) M
set_option maxHeartbeats 4000000 in
set_option maxRecDepth 20000 in
theorem v1_livingThrough {G : xG} {p : Nat} (hp : p < 7) (hC : xC G cX1_livingThrough 3 RX1 0) {R : Int32 × xMem} (hR : xRI G cX1_livingThrough 3 R) {M : xMem} (h : g1_livingThrough p M = some R) : V G 3 0 [(0, .inr (plc p + 9))] [] M := by
  unfold g1_livingThrough at h
  refine V.iconst (r := 1) hC dX1_livingThrough_0 ki_0 rfl ?_
  refine V.ist_n (lv' := [(0, .inr (plc p + 9)), (1, .inl (0 : Int32))]) (r := 2) hC dX1_livingThrough_1 rfl rfl rfl ?_
  refine V.iconst (r := 3) hC dX1_livingThrough_2 ki_0 rfl ?_
  refine V.ist_n (lv' := [(0, .inr (plc p + 9)), (1, .inl (0 : Int32)), (2, .inl (0 : Int32))]) (r := 4) hC dX1_livingThrough_3 rfl rfl rfl ?_
  exact v1_livingThrough_b4 hp hC hR  5000 _ _ _ h
theorem met1_livingThrough {p : Nat} (hp : p < 7) {R : Int32 × xMem} {M : xMem} (h : g1_livingThrough p M = some R) : xMet yX1_livingThrough cX1_livingThrough 3 (some .int) 0 [.inr (plc p + 9)] M (some R.1) R.2 := xMet.ofI (by decide +kernel) (Nat.le_of_ble_eq_true rfl) fun _ hC hR => v1_livingThrough hp hC hR h
def g1_tell (p : Nat) (a0 a1 : Int32) (M : xMem) : Option (Int32 × xMem) :=
Option.bind (g1_isTold p a0 M) fun q1 =>
if (q1.1) = 0 then
(some ((-1 : Int32), q1.2))
else
(if a1 = (0 : Int32) then
(if a0 < 0 ∨ 6 ≤ a0.toNatClampNeg then none else
some (q1.2 p (274 + a0.toNatClampNeg), q1.2))
else
if a1 = (1 : Int32) then
(if a0 < 0 ∨ 6 ≤ a0.toNatClampNeg then none else
some (q1.2 p (280 + a0.toNatClampNeg), q1.2))
else
if a1 = (2 : Int32) then
(if a0 < 0 ∨ 6 ≤ a0.toNatClampNeg then none else
some (q1.2 p (286 + a0.toNatClampNeg), q1.2))
else
if a1 = (3 : Int32) then
(if a0 < 0 ∨ 6 ≤ a0.toNatClampNeg then none else
some (q1.2 p (292 + a0.toNatClampNeg), q1.2))
else
if a1 = (4 : Int32) then
(if a0 < 0 ∨ 6 ≤ a0.toNatClampNeg then none else
if (q1.2 p (298 + a0.toNatClampNeg)) = 0 then
(some ((0 : Int32), q1.2))
else
(some ((1 : Int32), q1.2)))
else
if a1 = (5 : Int32) then
(Option.bind (g1_isOn p a0 q1.2) fun q16 =>
if (q16.1) = 0 then
(some ((0 : Int32), q16.2))
else
(some ((1 : Int32), q16.2)))
else
(some ((-1 : Int32), q1.2)))
set_option maxHeartbeats 4000000 in
set_option maxRecDepth 20000 in
theorem v1_tell {G : xG} {p : Nat} (hp : p < 7) (hC : xC G cX1_tell 3 RX1 1) {R : Int32 × xMem} (hR : xRI G cX1_tell 3 R) {a0 a1 : Int32} {M : xMem} (h : g1_tell p a0 a1 M = some R) : V G 3 0 [(0, .inr (plc p + 9)), (1, .inl a0), (2, .inl a1)] [] M := by
  unfold g1_tell at h
  refine V.aload_n (r := 1) hC 0 dX1_tell_0 rfl rfl ?_
  refine V.iload_n (r := 2) hC 1 dX1_tell_1 rfl rfl ?_
  obtain ⟨q1, hq2, h⟩ := Option.bind_eq_some_iff.mp h
  try dsimp only at h
  refine V.invVi (as := [.inl a0]) (st := []) (r := 5) hC (met1_isTold hp hq2) yv_X1_isTold ml_RX1_41 (shp_9 _ hp) rfl rfl dX1_tell_2 (by decide) rfl rfl rfl rfl ?_
  refine V.if_ne (tgt := 10) (r := 8) hC dX1_tell_5 (by decide) rfl (fun c3 => ?_) (fun c3 => ?_)
  · rw [if_neg c3] at h
    refine V.iload_n (r := 11) hC 2 dX1_tell_10 rfl rfl ?_
    by_cases c4 : a1 = (0 : Int32)
    · rw [if_pos c4] at h
      refine V.tabIn (off := 37) (tgt := 48) hC dX1_tell_11 c4 (by decide) (by decide) (by decide) (by decide) ?_
      refine V.aload_n (r := 49) hC 0 dX1_tell_48 rfl rfl ?_
      refine V.getR (k' := plc p + 11) (j := 1) (r := 52) hC xcl_1 (shp_9 _ hp) fl_RX1_15 dX1_tell_49 (by decide) rfl rfl ?_
      refine V.iload_n (r := 53) hC 1 dX1_tell_52 rfl rfl ?_
      by_cases c5 : a0 < 0 ∨ 6 ≤ a0.toNatClampNeg
      · rw [if_pos c5] at h; cases h
      rw [if_neg c5] at h
      refine V.iald (t := (274 + a0.toNatClampNeg)) (r := 54) hC (shp_11 _ hp) dX1_tell_53 c5 rfl rfl ?_
      cases h
      exact hR _ _ dX1_tell_54
    rw [if_neg c4] at h
    by_cases c6 : a1 = (1 : Int32)
    · rw [if_pos c6] at h
      refine V.tabIn (off := 44) (tgt := 55) hC dX1_tell_11 c6 (by decide) (by decide) (by decide) (by decide) ?_
      refine V.aload_n (r := 56) hC 0 dX1_tell_55 rfl rfl ?_
      refine V.getR (k' := plc p + 12) (j := 2) (r := 59) hC xcl_1 (shp_9 _ hp) fl_RX1_19 dX1_tell_56 (by decide) rfl rfl ?_
      refine V.iload_n (r := 60) hC 1 dX1_tell_59 rfl rfl ?_
      by_cases c7 : a0 < 0 ∨ 6 ≤ a0.toNatClampNeg
      · rw [if_pos c7] at h; cases h
      rw [if_neg c7] at h
      refine V.iald (t := (280 + a0.toNatClampNeg)) (r := 61) hC (shp_12 _ hp) dX1_tell_60 c7 rfl rfl ?_
      cases h
      exact hR _ _ dX1_tell_61
    rw [if_neg c6] at h
    by_cases c8 : a1 = (2 : Int32)
    · rw [if_pos c8] at h
      refine V.tabIn (off := 51) (tgt := 62) hC dX1_tell_11 c8 (by decide) (by decide) (by decide) (by decide) ?_
      refine V.aload_n (r := 63) hC 0 dX1_tell_62 rfl rfl ?_
      refine V.getR (k' := plc p + 13) (j := 3) (r := 66) hC xcl_1 (shp_9 _ hp) fl_RX1_22 dX1_tell_63 (by decide) rfl rfl ?_
      refine V.iload_n (r := 67) hC 1 dX1_tell_66 rfl rfl ?_
      by_cases c9 : a0 < 0 ∨ 6 ≤ a0.toNatClampNeg
      · rw [if_pos c9] at h; cases h
      rw [if_neg c9] at h
      refine V.iald (t := (286 + a0.toNatClampNeg)) (r := 68) hC (shp_13 _ hp) dX1_tell_67 c9 rfl rfl ?_
      cases h
      exact hR _ _ dX1_tell_68
    rw [if_neg c8] at h
    by_cases c10 : a1 = (3 : Int32)
    · rw [if_pos c10] at h
      refine V.tabIn (off := 58) (tgt := 69) hC dX1_tell_11 c10 (by decide) (by decide) (by decide) (by decide) ?_
      refine V.aload_n (r := 70) hC 0 dX1_tell_69 rfl rfl ?_
      refine V.getR (k' := plc p + 14) (j := 4) (r := 73) hC xcl_1 (shp_9 _ hp) fl_RX1_25 dX1_tell_70 (by decide) rfl rfl ?_
      refine V.iload_n (r := 74) hC 1 dX1_tell_73 rfl rfl ?_
      by_cases c11 : a0 < 0 ∨ 6 ≤ a0.toNatClampNeg
      · rw [if_pos c11] at h; cases h
      rw [if_neg c11] at h
      refine V.iald (t := (292 + a0.toNatClampNeg)) (r := 75) hC (shp_14 _ hp) dX1_tell_74 c11 rfl rfl ?_
      cases h
      exact hR _ _ dX1_tell_75
    rw [if_neg c10] at h
    by_cases c12 : a1 = (4 : Int32)
    · rw [if_pos c12] at h
      refine V.tabIn (off := 65) (tgt := 76) hC dX1_tell_11 c12 (by decide) (by decide) (by decide) (by decide) ?_
      refine V.aload_n (r := 77) hC 0 dX1_tell_76 rfl rfl ?_
      refine V.getR (k' := plc p + 15) (j := 5) (r := 80) hC xcl_1 (shp_9 _ hp) fl_RX1_28 dX1_tell_77 (by decide) rfl rfl ?_
      refine V.iload_n (r := 81) hC 1 dX1_tell_80 rfl rfl ?_
      by_cases c13 : a0 < 0 ∨ 6 ≤ a0.toNatClampNeg
      · rw [if_pos c13] at h; cases h
      rw [if_neg c13] at h
      refine V.zald (t := (298 + a0.toNatClampNeg)) (r := 82) hC (shp_15 _ hp) dX1_tell_81 c13 rfl rfl ?_
      refine V.if_eq (tgt := 89) (r := 85) hC dX1_tell_82 (by decide) rfl (fun c14 => ?_) (fun c14 => ?_)
      · rw [if_pos c14] at h
        refine V.iconst (r := 90) hC dX1_tell_89 ki_0 rfl ?_
        cases h
        exact hR _ _ dX1_tell_90
      · rw [if_neg c14] at h
        refine V.iconst (r := 86) hC dX1_tell_85 ki_1 rfl ?_
        refine V.goto (tgt := 90) hC dX1_tell_86 (by decide) ?_
        cases h
        exact hR _ _ dX1_tell_90
    rw [if_neg c12] at h
    by_cases c15 : a1 = (5 : Int32)
    · rw [if_pos c15] at h
      refine V.tabIn (off := 80) (tgt := 91) hC dX1_tell_11 c15 (by decide) (by decide) (by decide) (by decide) ?_
      refine V.aload_n (r := 92) hC 0 dX1_tell_91 rfl rfl ?_
      refine V.iload_n (r := 93) hC 1 dX1_tell_92 rfl rfl ?_
      obtain ⟨q16, hq17, h⟩ := Option.bind_eq_some_iff.mp h
      try dsimp only at h
      refine V.invVi (as := [.inl a0]) (st := []) (r := 96) hC (met1_isOn hp hq17) yv_X1_isOn ml_RX1_37 (shp_9 _ hp) rfl rfl dX1_tell_93 (by decide) rfl rfl rfl rfl ?_
      refine V.if_eq (tgt := 103) (r := 99) hC dX1_tell_96 (by decide) rfl (fun c18 => ?_) (fun c18 => ?_)
      · rw [if_pos c18] at h
        refine V.iconst (r := 104) hC dX1_tell_103 ki_0 rfl ?_
        cases h
        exact hR _ _ dX1_tell_104
      · rw [if_neg c18] at h
        refine V.iconst (r := 100) hC dX1_tell_99 ki_1 rfl ?_
        refine V.goto (tgt := 104) hC dX1_tell_100 (by decide) ?_
        cases h
        exact hR _ _ dX1_tell_104
    rw [if_neg c15] at h
    refine V.tabOut (tgt := 105) hC dX1_tell_11 (by have e0 := lv_neT c4 (show ((0 : Int32)).toInt = 0 by decide); have e1 := lv_neT c6 (show ((1 : Int32)).toInt = 1 by decide); have e2 := lv_neT c8 (show ((2 : Int32)).toInt = 2 by decide); have e3 := lv_neT c10 (show ((3 : Int32)).toInt = 3 by decide); have e4 := lv_neT c12 (show ((4 : Int32)).toInt = 4 by decide); have e5 := lv_neT c15 (show ((5 : Int32)).toInt = 5 by decide); omega) (by decide) ?_
    refine V.iconst (r := 106) hC dX1_tell_105 ki_m1 rfl ?_
    cases h
    exact hR _ _ dX1_tell_106
  · rw [if_pos c3] at h
    refine V.iconst (r := 9) hC dX1_tell_8 ki_m1 rfl ?_
    cases h
    exact hR _ _ dX1_tell_9
theorem met1_tell {p : Nat} (hp : p < 7) {R : Int32 × xMem} {a0 a1 : Int32} {M : xMem} (h : g1_tell p a0 a1 M = some R) : xMet yX1_tell cX1_tell 3 (some .int) 1 [.inr (plc p + 9), .inl a0, .inl a1] M (some R.1) R.2 := xMet.ofI (by decide +kernel) (Nat.le_of_ble_eq_true rfl) fun _ hC hR => v1_tell hp hC hR h
def g2_become (p q : Nat) (M : xMem) : Option (xMem) :=
if ok01 M q 196 12 then
mset (cpM M p 196 12 q 196) fun M2 =>
mset (cpM M2 p 208 12 q 208) fun M3 =>
mset (cpM M3 p 220 12 q 220) fun M4 =>
mset (cpM M4 p 232 12 q 232) fun M5 =>
mset (cpM M5 p 244 12 q 244) fun M6 =>
if ok01 M6 q 256 12 then
mset (cpM M6 p 256 12 q 256) fun M8 =>
some M8
else none
else none
set_option maxHeartbeats 4000000 in
set_option maxRecDepth 20000 in
theorem v2_become {G : xG} {p q : Nat} (hp : p < 7) (hq : q < 7) (hC : xC G cX2_become 2 RX2 1) {R : xMem} (hR : xRV G cX2_become 2 R) {M : xMem} (h : g2_become p q M = some R) : V G 2 0 [(0, .inr (plc p + 2)), (1, .inr (plc q + 2))] [] M := by
  unfold g2_become at h
  refine V.aload_n (r := 1) hC 1 dX2_become_0 rfl rfl ?_
  refine V.getR (k' := plc q + 3) (j := 0) (r := 4) hC xcl_2 (shp_2 _ hq) fl_RX2_9 dX2_become_1 (by decide) rfl rfl ?_
  refine V.iconst (r := 5) hC dX2_become_4 ki_0 rfl ?_
  refine V.aload_n (r := 6) hC 0 dX2_become_5 rfl rfl ?_
  refine V.getR (k' := plc p + 3) (j := 0) (r := 9) hC xcl_2 (shp_2 _ hp) fl_RX2_9 dX2_become_6 (by decide) rfl rfl ?_
  refine V.iconst (r := 10) hC dX2_become_9 ki_0 rfl ?_
  refine V.bipush (r := 12) hC dX2_become_10 kb_12 rfl ?_
  by_cases c1 : ¬ (ok01 M q 196 12)
  · rw [if_neg c1] at h; cases h
  replace c1 := Classical.not_not.mp c1
  rw [if_pos c1] at h
  rw [mset_eq] at h
  refine V.acopyz (r := 15) hC ac_RX2_31 (by decide) (Nat.le_of_ble_eq_true rfl) (shp_3 _ hq) (shp_3 _ hp) (by decide) (by decide) c1 dX2_become_12 rfl ?_
  generalize cpM M p 196 12 q 196 = M2 at h ⊢
  refine V.aload_n (r := 16) hC 1 dX2_become_15 rfl rfl ?_
  refine V.getR (k' := plc q + 4) (j := 1) (r := 19) hC xcl_2 (shp_2 _ hq) fl_RX2_15 dX2_become_16 (by decide) rfl rfl ?_
  refine V.iconst (r := 20) hC dX2_become_19 ki_0 rfl ?_
  refine V.aload_n (r := 21) hC 0 dX2_become_20 rfl rfl ?_
  refine V.getR (k' := plc p + 4) (j := 1) (r := 24) hC xcl_2 (shp_2 _ hp) fl_RX2_15 dX2_become_21 (by decide) rfl rfl ?_
  refine V.iconst (r := 25) hC dX2_become_24 ki_0 rfl ?_
  refine V.bipush (r := 27) hC dX2_become_25 kb_12 rfl ?_
  rw [mset_eq] at h
  refine V.acopyi (r := 30) hC ac_RX2_31 (by decide) (Nat.le_of_ble_eq_true rfl) (shp_4 _ hq) (shp_4 _ hp) (by decide) (by decide) dX2_become_27 rfl ?_
  generalize cpM M2 p 208 12 q 208 = M3 at h ⊢
  refine V.aload_n (r := 31) hC 1 dX2_become_30 rfl rfl ?_
  refine V.getR (k' := plc q + 5) (j := 2) (r := 34) hC xcl_2 (shp_2 _ hq) fl_RX2_19 dX2_become_31 (by decide) rfl rfl ?_
  refine V.iconst (r := 35) hC dX2_become_34 ki_0 rfl ?_
  refine V.aload_n (r := 36) hC 0 dX2_become_35 rfl rfl ?_
  refine V.getR (k' := plc p + 5) (j := 2) (r := 39) hC xcl_2 (shp_2 _ hp) fl_RX2_19 dX2_become_36 (by decide) rfl rfl ?_
  refine V.iconst (r := 40) hC dX2_become_39 ki_0 rfl ?_
  refine V.bipush (r := 42) hC dX2_become_40 kb_12 rfl ?_
  rw [mset_eq] at h
  refine V.acopyi (r := 45) hC ac_RX2_31 (by decide) (Nat.le_of_ble_eq_true rfl) (shp_5 _ hq) (shp_5 _ hp) (by decide) (by decide) dX2_become_42 rfl ?_
  generalize cpM M3 p 220 12 q 220 = M4 at h ⊢
  refine V.aload_n (r := 46) hC 1 dX2_become_45 rfl rfl ?_
  refine V.getR (k' := plc q + 6) (j := 3) (r := 49) hC xcl_2 (shp_2 _ hq) fl_RX2_22 dX2_become_46 (by decide) rfl rfl ?_
  refine V.iconst (r := 50) hC dX2_become_49 ki_0 rfl ?_
  refine V.aload_n (r := 51) hC 0 dX2_become_50 rfl rfl ?_
  refine V.getR (k' := plc p + 6) (j := 3) (r := 54) hC xcl_2 (shp_2 _ hp) fl_RX2_22 dX2_become_51 (by decide) rfl rfl ?_
  refine V.iconst (r := 55) hC dX2_become_54 ki_0 rfl ?_
  refine V.bipush (r := 57) hC dX2_become_55 kb_12 rfl ?_
  rw [mset_eq] at h
  refine V.acopyi (r := 60) hC ac_RX2_31 (by decide) (Nat.le_of_ble_eq_true rfl) (shp_6 _ hq) (shp_6 _ hp) (by decide) (by decide) dX2_become_57 rfl ?_
  generalize cpM M4 p 232 12 q 232 = M5 at h ⊢
  refine V.aload_n (r := 61) hC 1 dX2_become_60 rfl rfl ?_
  refine V.getR (k' := plc q + 7) (j := 4) (r := 64) hC xcl_2 (shp_2 _ hq) fl_RX2_25 dX2_become_61 (by decide) rfl rfl ?_
  refine V.iconst (r := 65) hC dX2_become_64 ki_0 rfl ?_
  refine V.aload_n (r := 66) hC 0 dX2_become_65 rfl rfl ?_
  refine V.getR (k' := plc p + 7) (j := 4) (r := 69) hC xcl_2 (shp_2 _ hp) fl_RX2_25 dX2_become_66 (by decide) rfl rfl ?_
  refine V.iconst (r := 70) hC dX2_become_69 ki_0 rfl ?_
  refine V.bipush (r := 72) hC dX2_become_70 kb_12 rfl ?_
  rw [mset_eq] at h
  refine V.acopyi (r := 75) hC ac_RX2_31 (by decide) (Nat.le_of_ble_eq_true rfl) (shp_7 _ hq) (shp_7 _ hp) (by decide) (by decide) dX2_become_72 rfl ?_
  generalize cpM M5 p 244 12 q 244 = M6 at h ⊢
  refine V.aload_n (r := 76) hC 1 dX2_become_75 rfl rfl ?_
  refine V.getR (k' := plc q + 8) (j := 5) (r := 79) hC xcl_2 (shp_2 _ hq) fl_RX2_28 dX2_become_76 (by decide) rfl rfl ?_
  refine V.iconst (r := 80) hC dX2_become_79 ki_0 rfl ?_
  refine V.aload_n (r := 81) hC 0 dX2_become_80 rfl rfl ?_
  refine V.getR (k' := plc p + 8) (j := 5) (r := 84) hC xcl_2 (shp_2 _ hp) fl_RX2_28 dX2_become_81 (by decide) rfl rfl ?_
  refine V.iconst (r := 85) hC dX2_become_84 ki_0 rfl ?_
  refine V.bipush (r := 87) hC dX2_become_85 kb_12 rfl ?_
  by_cases c7 : ¬ (ok01 M6 q 256 12)
  · rw [if_neg c7] at h; cases h
  replace c7 := Classical.not_not.mp c7
  rw [if_pos c7] at h
  rw [mset_eq] at h
  refine V.acopyz (r := 90) hC ac_RX2_31 (by decide) (Nat.le_of_ble_eq_true rfl) (shp_8 _ hq) (shp_8 _ hp) (by decide) (by decide) c7 dX2_become_87 rfl ?_
  generalize cpM M6 p 256 12 q 256 = M8 at h ⊢
  cases h
  exact hR _ _ dX2_become_90
theorem met2_become {p q : Nat} (hp : p < 7) (hq : q < 7) {R : xMem} {M : xMem} (h : g2_become p q M = some R) : xMet yX2_become cX2_become 2 none 1 [.inr (plc p + 2), .inr (plc q + 2)] M none R := xMet.ofV (by decide +kernel) (Nat.le_of_ble_eq_true rfl) fun _ hC hR => v2_become hp hq hC hR h
def g2_stands (p : Nat) (a0 : Int32) (M : xMem) : Option (Int32 × xMem) :=
if a0 < 0 then
(some ((0 : Int32), M))
else
(if (12 : Int32) ≤ a0 then
(some ((0 : Int32), M))
else
(if a0 < 0 ∨ 12 ≤ a0.toNatClampNeg then none else
if (M p (196 + a0.toNatClampNeg)) = 0 then
(some ((0 : Int32), M))
else
(some ((1 : Int32), M))))
set_option maxHeartbeats 4000000 in
set_option maxRecDepth 20000 in
theorem v2_stands {G : xG} {p : Nat} (hp : p < 7) (hC : xC G cX2_stands 2 RX2 0) {R : Int32 × xMem} (hR : xRZ G cX2_stands 2 R) {a0 : Int32} {M : xMem} (h : g2_stands p a0 M = some R) : V G 2 0 [(0, .inr (plc p + 2)), (1, .inl a0)] [] M := by
  unfold g2_stands at h
  refine V.iload_n (r := 1) hC 1 dX2_stands_0 rfl rfl ?_
  refine V.if_lt (tgt := 23) (r := 4) hC dX2_stands_1 (by decide) rfl (fun c1 => ?_) (fun c1 => ?_)
  · rw [if_pos c1] at h
    refine V.iconst (r := 24) hC dX2_stands_23 ki_0 rfl ?_
    cases h
    exact hR _ _ (Or.inl rfl) dX2_stands_24
  · rw [if_neg c1] at h
    refine V.iload_n (r := 5) hC 1 dX2_stands_4 rfl rfl ?_
    refine V.bipush (r := 7) hC dX2_stands_5 kb_12 rfl ?_
    refine V.icmp_ge (tgt := 23) (r := 10) hC dX2_stands_7 (by decide) rfl (fun c2 => ?_) (fun c2 => ?_)
    · rw [if_pos c2] at h
      refine V.iconst (r := 24) hC dX2_stands_23 ki_0 rfl ?_
      cases h
      exact hR _ _ (Or.inl rfl) dX2_stands_24
    · rw [if_neg c2] at h
      refine V.aload_n (r := 11) hC 0 dX2_stands_10 rfl rfl ?_
      refine V.getR (k' := plc p + 3) (j := 0) (r := 14) hC xcl_2 (shp_2 _ hp) fl_RX2_9 dX2_stands_11 (by decide) rfl rfl ?_
      refine V.iload_n (r := 15) hC 1 dX2_stands_14 rfl rfl ?_
      by_cases c3 : a0 < 0 ∨ 12 ≤ a0.toNatClampNeg
      · rw [if_pos c3] at h; cases h
      rw [if_neg c3] at h
      refine V.zald (t := (196 + a0.toNatClampNeg)) (r := 16) hC (shp_3 _ hp) dX2_stands_15 c3 rfl rfl ?_
      refine V.if_eq (tgt := 23) (r := 19) hC dX2_stands_16 (by decide) rfl (fun c4 => ?_) (fun c4 => ?_)
      · rw [if_pos c4] at h
        refine V.iconst (r := 24) hC dX2_stands_23 ki_0 rfl ?_
        cases h
        exact hR _ _ (Or.inl rfl) dX2_stands_24
      · rw [if_neg c4] at h
        refine V.iconst (r := 20) hC dX2_stands_19 ki_1 rfl ?_
        refine V.goto (tgt := 24) hC dX2_stands_20 (by decide) ?_
        cases h
        exact hR _ _ (Or.inr rfl) dX2_stands_24
theorem met2_stands {p : Nat} (hp : p < 7) {R : Int32 × xMem} {a0 : Int32} {M : xMem} (h : g2_stands p a0 M = some R) : xMet yX2_stands cX2_stands 2 (some .boolean) 0 [.inr (plc p + 2), .inl a0] M (some R.1) R.2 := xMet.ofZ (by decide +kernel) (Nat.le_of_ble_eq_true rfl) fun _ hC hR => v2_stands hp hC hR h
def g2_isLit_b45 (p : Nat) (M : xMem) : Option (Int32 × xMem) :=
some ((1 : Int32), M)
set_option maxHeartbeats 4000000 in
set_option maxRecDepth 20000 in
theorem v2_isLit_b45 {G : xG} {p : Nat} (hp : p < 7) (hC : xC G cX2_isLit 2 RX2 0) {R : Int32 × xMem} (hR : xRZ G cX2_isLit 2 R) (M : xMem) (h : g2_isLit_b45 p M = some R) : V G 2 45 [] [] M := by
  unfold g2_isLit_b45 at h
  refine V.iconst (r := 46) hC dX2_isLit_45 ki_1 rfl ?_
  refine V.goto (tgt := 59) hC dX2_isLit_46 (by decide) ?_
  cases h
  exact hR _ _ (Or.inr rfl) dX2_isLit_59
def g2_isLit (p : Nat) (a0 : Int32) (M : xMem) : Option (Int32 × xMem) :=
if a0 < 0 then
(some ((0 : Int32), M))
else
(if (12 : Int32) ≤ a0 then
(some ((0 : Int32), M))
else
(if a0 < 0 ∨ 12 ≤ a0.toNatClampNeg then none else
if (M p (196 + a0.toNatClampNeg)) = 0 then
(some ((0 : Int32), M))
else
(if (9 : Int32) ≤ a0 then
(if (M p (256 + a0.toNatClampNeg)) = 0 ∨ (M p (256 + a0.toNatClampNeg)) = 1 then
some (M p (256 + a0.toNatClampNeg), M)
else none)
else
(if 0 < (M p (232 + a0.toNatClampNeg)) then
(g2_isLit_b45 p M)
else
(if (M p (244 + a0.toNatClampNeg)) ≤ 0 then
(some ((0 : Int32), M))
else
(g2_isLit_b45 p M))))))
set_option maxHeartbeats 4000000 in
set_option maxRecDepth 20000 in
theorem v2_isLit {G : xG} {p : Nat} (hp : p < 7) (hC : xC G cX2_isLit 2 RX2 0) {R : Int32 × xMem} (hR : xRZ G cX2_isLit 2 R) {a0 : Int32} {M : xMem} (h : g2_isLit p a0 M = some R) : V G 2 0 [(0, .inr (plc p + 2)), (1, .inl a0)] [] M := by
  unfold g2_isLit at h
  refine V.iload_n (r := 1) hC 1 dX2_isLit_0 rfl rfl ?_
  refine V.if_lt (tgt := 19) (r := 4) hC dX2_isLit_1 (by decide) rfl (fun c1 => ?_) (fun c1 => ?_)
  · rw [if_pos c1] at h
    refine V.iconst (r := 20) hC dX2_isLit_19 ki_0 rfl ?_
    cases h
    exact hR _ _ (Or.inl rfl) dX2_isLit_20
  · rw [if_neg c1] at h
    refine V.iload_n (r := 5) hC 1 dX2_isLit_4 rfl rfl ?_
    refine V.bipush (r := 7) hC dX2_isLit_5 kb_12 rfl ?_
    refine V.icmp_ge (tgt := 19) (r := 10) hC dX2_isLit_7 (by decide) rfl (fun c2 => ?_) (fun c2 => ?_)
    · rw [if_pos c2] at h
      refine V.iconst (r := 20) hC dX2_isLit_19 ki_0 rfl ?_
      cases h
      exact hR _ _ (Or.inl rfl) dX2_isLit_20
    · rw [if_neg c2] at h
      refine V.aload_n (r := 11) hC 0 dX2_isLit_10 rfl rfl ?_
      refine V.getR (k' := plc p + 3) (j := 0) (r := 14) hC xcl_2 (shp_2 _ hp) fl_RX2_9 dX2_isLit_11 (by decide) rfl rfl ?_
      refine V.iload_n (r := 15) hC 1 dX2_isLit_14 rfl rfl ?_
      by_cases c3 : a0 < 0 ∨ 12 ≤ a0.toNatClampNeg
      · rw [if_pos c3] at h; cases h
      rw [if_neg c3] at h
      refine V.zald (t := (196 + a0.toNatClampNeg)) (r := 16) hC (shp_3 _ hp) dX2_isLit_15 c3 rfl rfl ?_
      refine V.if_ne (tgt := 21) (r := 19) hC dX2_isLit_16 (by decide) rfl (fun c4 => ?_) (fun c4 => ?_)
      · rw [if_neg c4] at h
        refine V.iload_n (r := 22) hC 1 dX2_isLit_21 rfl rfl ?_
        refine V.bipush (r := 24) hC dX2_isLit_22 kb_9 rfl ?_
        refine V.icmp_ge (tgt := 53) (r := 27) hC dX2_isLit_24 (by decide) rfl (fun c5 => ?_) (fun c5 => ?_)
        · rw [if_pos c5] at h
          refine V.aload_n (r := 54) hC 0 dX2_isLit_53 rfl rfl ?_
          refine V.getR (k' := plc p + 8) (j := 5) (r := 57) hC xcl_2 (shp_2 _ hp) fl_RX2_28 dX2_isLit_54 (by decide) rfl rfl ?_
          refine V.iload_n (r := 58) hC 1 dX2_isLit_57 rfl rfl ?_
          refine V.zald (t := (256 + a0.toNatClampNeg)) (r := 59) hC (shp_8 _ hp) dX2_isLit_58 c3 rfl rfl ?_
          by_cases c6 : ¬ ((M p (256 + a0.toNatClampNeg)) = 0 ∨ (M p (256 + a0.toNatClampNeg)) = 1)
          · rw [if_neg c6] at h; cases h
          replace c6 := Classical.not_not.mp c6
          rw [if_pos c6] at h
          cases h
          exact hR _ _ c6 dX2_isLit_59
        · rw [if_neg c5] at h
          refine V.aload_n (r := 28) hC 0 dX2_isLit_27 rfl rfl ?_
          refine V.getR (k' := plc p + 6) (j := 3) (r := 31) hC xcl_2 (shp_2 _ hp) fl_RX2_22 dX2_isLit_28 (by decide) rfl rfl ?_
          refine V.iload_n (r := 32) hC 1 dX2_isLit_31 rfl rfl ?_
          refine V.iald (t := (232 + a0.toNatClampNeg)) (r := 33) hC (shp_6 _ hp) dX2_isLit_32 c3 rfl rfl ?_
          refine V.if_gt (tgt := 45) (r := 36) hC dX2_isLit_33 (by decide) rfl (fun c7 => ?_) (fun c7 => ?_)
          · rw [if_pos c7] at h
            refine V.pick (lv' := []) [] rfl ?_
            exact v2_isLit_b45 hp hC hR  _ h
          · rw [if_neg c7] at h
            refine V.aload_n (r := 37) hC 0 dX2_isLit_36 rfl rfl ?_
            refine V.getR (k' := plc p + 7) (j := 4) (r := 40) hC xcl_2 (shp_2 _ hp) fl_RX2_25 dX2_isLit_37 (by decide) rfl rfl ?_
            refine V.iload_n (r := 41) hC 1 dX2_isLit_40 rfl rfl ?_
            refine V.iald (t := (244 + a0.toNatClampNeg)) (r := 42) hC (shp_7 _ hp) dX2_isLit_41 c3 rfl rfl ?_
            refine V.if_le (tgt := 49) (r := 45) hC dX2_isLit_42 (by decide) rfl (fun c8 => ?_) (fun c8 => ?_)
            · rw [if_pos c8] at h
              refine V.iconst (r := 50) hC dX2_isLit_49 ki_0 rfl ?_
              refine V.goto (tgt := 59) hC dX2_isLit_50 (by decide) ?_
              cases h
              exact hR _ _ (Or.inl rfl) dX2_isLit_59
            · rw [if_neg c8] at h
              refine V.pick (lv' := []) [] rfl ?_
              exact v2_isLit_b45 hp hC hR  _ h
      · rw [if_pos c4] at h
        refine V.iconst (r := 20) hC dX2_isLit_19 ki_0 rfl ?_
        cases h
        exact hR _ _ (Or.inl rfl) dX2_isLit_20
theorem met2_isLit {p : Nat} (hp : p < 7) {R : Int32 × xMem} {a0 : Int32} {M : xMem} (h : g2_isLit p a0 M = some R) : xMet yX2_isLit cX2_isLit 2 (some .boolean) 0 [.inr (plc p + 2), .inl a0] M (some R.1) R.2 := xMet.ofZ (by decide +kernel) (Nat.le_of_ble_eq_true rfl) fun _ hC hR => v2_isLit hp hC hR h
def g2_light_b22 (p : Nat) (x1 x2 : Int32) (M : xMem) : Option (xMem) :=
if x1 < 0 then
(some M)
else
(if (9 : Int32) ≤ x1 then
(some M)
else
(if x2 = 0 then
(some M)
else
(if x1 < 0 ∨ 12 ≤ x1.toNatClampNeg then none else
mset (upM M p (244 + x1.toNatClampNeg) (xMax (M p (244 + x1.toNatClampNeg)) (1 : Int32))) fun M10 =>
some M10)))
set_option maxHeartbeats 4000000 in
set_option maxRecDepth 20000 in
theorem v2_light_b22 {G : xG} {p : Nat} (hp : p < 7) (hC : xC G cX2_light 3 RX2 1) {R : xMem} (hR : xRV G cX2_light 3 R) (x1 x2 : Int32) (M : xMem) (h : g2_light_b22 p x1 x2 M = some R) : V G 3 22 [(0, .inr (plc p + 2)), (1, .inl x1), (2, .inl x2)] [] M := by
  unfold g2_light_b22 at h
  refine V.iload_n (r := 23) hC 1 dX2_light_22 rfl rfl ?_
  refine V.if_lt (tgt := 52) (r := 26) hC dX2_light_23 (by decide) rfl (fun c6 => ?_) (fun c6 => ?_)
  · rw [if_pos c6] at h
    cases h
    exact hR _ _ dX2_light_52
  · rw [if_neg c6] at h
    refine V.iload_n (r := 27) hC 1 dX2_light_26 rfl rfl ?_
    refine V.bipush (r := 29) hC dX2_light_27 kb_9 rfl ?_
    refine V.icmp_ge (tgt := 52) (r := 32) hC dX2_light_29 (by decide) rfl (fun c7 => ?_) (fun c7 => ?_)
    · rw [if_pos c7] at h
      cases h
      exact hR _ _ dX2_light_52
    · rw [if_neg c7] at h
      refine V.iload_n (r := 33) hC 2 dX2_light_32 rfl rfl ?_
      refine V.if_eq (tgt := 52) (r := 36) hC dX2_light_33 (by decide) rfl (fun c8 => ?_) (fun c8 => ?_)
      · rw [if_pos c8] at h
        cases h
        exact hR _ _ dX2_light_52
      · rw [if_neg c8] at h
        refine V.aload_n (r := 37) hC 0 dX2_light_36 rfl rfl ?_
        refine V.getR (k' := plc p + 7) (j := 4) (r := 40) hC xcl_2 (shp_2 _ hp) fl_RX2_25 dX2_light_37 (by decide) rfl rfl ?_
        refine V.iload_n (r := 41) hC 1 dX2_light_40 rfl rfl ?_
        refine V.aload_n (r := 42) hC 0 dX2_light_41 rfl rfl ?_
        refine V.getR (k' := plc p + 7) (j := 4) (r := 45) hC xcl_2 (shp_2 _ hp) fl_RX2_25 dX2_light_42 (by decide) rfl rfl ?_
        refine V.iload_n (r := 46) hC 1 dX2_light_45 rfl rfl ?_
        by_cases c9 : x1 < 0 ∨ 12 ≤ x1.toNatClampNeg
        · rw [if_pos c9] at h; cases h
        rw [if_neg c9] at h
        refine V.iald (t := (244 + x1.toNatClampNeg)) (r := 47) hC (shp_7 _ hp) dX2_light_46 c9 rfl rfl ?_
        refine V.iconst (r := 48) hC dX2_light_47 ki_1 rfl ?_
        refine V.mmax (r := 51) hC jw_RX2_37 (by decide) (Nat.le_of_ble_eq_true rfl) dX2_light_48 rfl ?_
        rw [mset_eq] at h
        refine V.iast (t := (244 + x1.toNatClampNeg)) (r := 52) hC (shp_7 _ hp) dX2_light_51 c9 rfl rfl ?_
        generalize upM M p (244 + x1.toNatClampNeg) (xMax (M p (244 + x1.toNatClampNeg)) (1 : Int32)) = M10 at h ⊢
        cases h
        exact hR _ _ dX2_light_52
def g2_light (p : Nat) (a0 a1 : Int32) (M : xMem) : Option (xMem) :=
if a0 < (9 : Int32) then
(g2_light_b22 p a0 a1 M)
else
(if (12 : Int32) ≤ a0 then
(g2_light_b22 p a0 a1 M)
else
(if a0 < 0 ∨ 12 ≤ a0.toNatClampNeg then none else
if a1 = 0 ∨ a1 = 1 then
mset (upM M p (256 + a0.toNatClampNeg) a1) fun M5 =>
some M5
else none))
set_option maxHeartbeats 4000000 in
set_option maxRecDepth 20000 in
theorem v2_light {G : xG} {p : Nat} (hp : p < 7) (hC : xC G cX2_light 3 RX2 1) {R : xMem} (hR : xRV G cX2_light 3 R) {a0 a1 : Int32} {M : xMem} (h : g2_light p a0 a1 M = some R) : V G 3 0 [(0, .inr (plc p + 2)), (1, .inl a0), (2, .inl a1)] [] M := by
  unfold g2_light at h
  refine V.iload_n (r := 1) hC 1 dX2_light_0 rfl rfl ?_
  refine V.bipush (r := 3) hC dX2_light_1 kb_9 rfl ?_
  refine V.icmp_lt (tgt := 22) (r := 6) hC dX2_light_3 (by decide) rfl (fun c1 => ?_) (fun c1 => ?_)
  · rw [if_pos c1] at h
    exact v2_light_b22 hp hC hR  _ _ _ h
  · rw [if_neg c1] at h
    refine V.iload_n (r := 7) hC 1 dX2_light_6 rfl rfl ?_
    refine V.bipush (r := 9) hC dX2_light_7 kb_12 rfl ?_
    refine V.icmp_ge (tgt := 22) (r := 12) hC dX2_light_9 (by decide) rfl (fun c2 => ?_) (fun c2 => ?_)
    · rw [if_pos c2] at h
      exact v2_light_b22 hp hC hR  _ _ _ h
    · rw [if_neg c2] at h
      refine V.aload_n (r := 13) hC 0 dX2_light_12 rfl rfl ?_
      refine V.getR (k' := plc p + 8) (j := 5) (r := 16) hC xcl_2 (shp_2 _ hp) fl_RX2_28 dX2_light_13 (by decide) rfl rfl ?_
      refine V.iload_n (r := 17) hC 1 dX2_light_16 rfl rfl ?_
      refine V.iload_n (r := 18) hC 2 dX2_light_17 rfl rfl ?_
      by_cases c3 : a0 < 0 ∨ 12 ≤ a0.toNatClampNeg
      · rw [if_pos c3] at h; cases h
      rw [if_neg c3] at h
      by_cases c4 : ¬ (a1 = 0 ∨ a1 = 1)
      · rw [if_neg c4] at h; cases h
      replace c4 := Classical.not_not.mp c4
      rw [if_pos c4] at h
      rw [mset_eq] at h
      refine V.zast (t := (256 + a0.toNatClampNeg)) (r := 19) hC (shp_8 _ hp) dX2_light_18 c3 c4 rfl rfl ?_
      generalize upM M p (256 + a0.toNatClampNeg) a1 = M5 at h ⊢
      refine V.goto (tgt := 52) hC dX2_light_19 (by decide) ?_
      cases h
      exact hR _ _ dX2_light_52
theorem met2_light {p : Nat} (hp : p < 7) {R : xMem} {a0 a1 : Int32} {M : xMem} (h : g2_light p a0 a1 M = some R) : xMet yX2_light cX2_light 3 none 1 [.inr (plc p + 2), .inl a0, .inl a1] M none R := xMet.ofV (by decide +kernel) (Nat.le_of_ble_eq_true rfl) fun _ hC hR => v2_light hp hC hR h
def g2_endNight_b2 (p : Nat) : Nat → Int32 → xMem → Option (xMem)
  | 0, _, _ => none
  | n + 1, x1, M => 
    (if (9 : Int32) ≤ x1 then
    (some M)
    else
    (if x1 < 0 ∨ 12 ≤ x1.toNatClampNeg then none else
    mset (upM M p (232 + x1.toNatClampNeg) (xMax ((M p (232 + x1.toNatClampNeg)) - (1 : Int32)) (0 : Int32))) fun M3 =>
    mset (upM M3 p (244 + x1.toNatClampNeg) (xMax ((M3 p (244 + x1.toNatClampNeg)) - (1 : Int32)) (0 : Int32))) fun M4 =>
    g2_endNight_b2 p n (x1 + (1 : Int32)) M4))
set_option maxHeartbeats 4000000 in
set_option maxRecDepth 20000 in
theorem v2_endNight_b2 {G : xG} {p : Nat} (hp : p < 7) (hC : xC G cX2_endNight 2 RX2 1) {R : xMem} (hR : xRV G cX2_endNight 2 R) : ∀ (n : Nat) (x1 : Int32) (M : xMem), g2_endNight_b2 p n x1 M = some R → V G 2 2 [(0, .inr (plc p + 2)), (1, .inl x1)] [] M := by
  intro n
  induction n with
  | zero => intro x1 M h; rw [g2_endNight_b2] at h; cases h
  | succ n ih =>
    intro x1 M h
    rw [g2_endNight_b2] at h
    refine V.iload_n (r := 3) hC 1 dX2_endNight_2 rfl rfl ?_
    refine V.bipush (r := 5) hC dX2_endNight_3 kb_9 rfl ?_
    refine V.icmp_ge (tgt := 50) (r := 8) hC dX2_endNight_5 (by decide) rfl (fun c1 => ?_) (fun c1 => ?_)
    · rw [if_pos c1] at h
      cases h
      exact hR _ _ dX2_endNight_50
    · rw [if_neg c1] at h
      refine V.aload_n (r := 9) hC 0 dX2_endNight_8 rfl rfl ?_
      refine V.getR (k' := plc p + 6) (j := 3) (r := 12) hC xcl_2 (shp_2 _ hp) fl_RX2_22 dX2_endNight_9 (by decide) rfl rfl ?_
      refine V.iload_n (r := 13) hC 1 dX2_endNight_12 rfl rfl ?_
      refine V.aload_n (r := 14) hC 0 dX2_endNight_13 rfl rfl ?_
      refine V.getR (k' := plc p + 6) (j := 3) (r := 17) hC xcl_2 (shp_2 _ hp) fl_RX2_22 dX2_endNight_14 (by decide) rfl rfl ?_
      refine V.iload_n (r := 18) hC 1 dX2_endNight_17 rfl rfl ?_
      by_cases c2 : x1 < 0 ∨ 12 ≤ x1.toNatClampNeg
      · rw [if_pos c2] at h; cases h
      rw [if_neg c2] at h
      refine V.iald (t := (232 + x1.toNatClampNeg)) (r := 19) hC (shp_6 _ hp) dX2_endNight_18 c2 rfl rfl ?_
      refine V.iconst (r := 20) hC dX2_endNight_19 ki_1 rfl ?_
      refine V.isub (r := 21) hC dX2_endNight_20 rfl ?_
      refine V.iconst (r := 22) hC dX2_endNight_21 ki_0 rfl ?_
      refine V.mmax (r := 25) hC jw_RX2_37 (by decide) (Nat.le_of_ble_eq_true rfl) dX2_endNight_22 rfl ?_
      rw [mset_eq] at h
      refine V.iast (t := (232 + x1.toNatClampNeg)) (r := 26) hC (shp_6 _ hp) dX2_endNight_25 c2 rfl rfl ?_
      generalize upM M p (232 + x1.toNatClampNeg) (xMax ((M p (232 + x1.toNatClampNeg)) - (1 : Int32)) (0 : Int32)) = M3 at h ⊢
      refine V.aload_n (r := 27) hC 0 dX2_endNight_26 rfl rfl ?_
      refine V.getR (k' := plc p + 7) (j := 4) (r := 30) hC xcl_2 (shp_2 _ hp) fl_RX2_25 dX2_endNight_27 (by decide) rfl rfl ?_
      refine V.iload_n (r := 31) hC 1 dX2_endNight_30 rfl rfl ?_
      refine V.aload_n (r := 32) hC 0 dX2_endNight_31 rfl rfl ?_
      refine V.getR (k' := plc p + 7) (j := 4) (r := 35) hC xcl_2 (shp_2 _ hp) fl_RX2_25 dX2_endNight_32 (by decide) rfl rfl ?_
      refine V.iload_n (r := 36) hC 1 dX2_endNight_35 rfl rfl ?_
      refine V.iald (t := (244 + x1.toNatClampNeg)) (r := 37) hC (shp_7 _ hp) dX2_endNight_36 c2 rfl rfl ?_
      refine V.iconst (r := 38) hC dX2_endNight_37 ki_1 rfl ?_
      refine V.isub (r := 39) hC dX2_endNight_38 rfl ?_
      refine V.iconst (r := 40) hC dX2_endNight_39 ki_0 rfl ?_
      refine V.mmax (r := 43) hC jw_RX2_37 (by decide) (Nat.le_of_ble_eq_true rfl) dX2_endNight_40 rfl ?_
      rw [mset_eq] at h
      refine V.iast (t := (244 + x1.toNatClampNeg)) (r := 44) hC (shp_7 _ hp) dX2_endNight_43 c2 rfl rfl ?_
      generalize upM M3 p (244 + x1.toNatClampNeg) (xMax ((M3 p (244 + x1.toNatClampNeg)) - (1 : Int32)) (0 : Int32)) = M4 at h ⊢
      refine V.inc (lv' := [(0, .inr (plc p + 2)), (1, .inl (x1 + (1 : Int32)))]) (r := 47) hC 1 dX2_endNight_44 rfl ki_1 rfl rfl rfl ?_
      refine V.goto (tgt := 2) hC dX2_endNight_47 (by decide) ?_
      exact ih _ _ h
def g2_endNight (p : Nat) (M : xMem) : Option (xMem) :=
g2_endNight_b2 p 5000 (0 : Int32) M
set_option maxHeartbeats 4000000 in
set_option maxRecDepth 20000 in
theorem v2_endNight {G : xG} {p : Nat} (hp : p < 7) (hC : xC G cX2_endNight 2 RX2 1) {R : xMem} (hR : xRV G cX2_endNight 2 R) {M : xMem} (h : g2_endNight p M = some R) : V G 2 0 [(0, .inr (plc p + 2))] [] M := by
  unfold g2_endNight at h
  refine V.iconst (r := 1) hC dX2_endNight_0 ki_0 rfl ?_
  refine V.ist_n (lv' := [(0, .inr (plc p + 2)), (1, .inl (0 : Int32))]) (r := 2) hC dX2_endNight_1 rfl rfl rfl ?_
  exact v2_endNight_b2 hp hC hR  5000 _ _ h
theorem met2_endNight {p : Nat} (hp : p < 7) {R : xMem} {M : xMem} (h : g2_endNight p M = some R) : xMet yX2_endNight cX2_endNight 2 none 1 [.inr (plc p + 2)] M none R := xMet.ofV (by decide +kernel) (Nat.le_of_ble_eq_true rfl) fun _ hC hR => v2_endNight hp hC hR h
def g2_tell (p : Nat) (a0 a1 : Int32) (M : xMem) : Option (Int32 × xMem) :=
Option.bind (g2_stands p a0 M) fun q1 =>
if (q1.1) = 0 then
(some ((-1 : Int32), q1.2))
else
(if a1 = (0 : Int32) then
(if a0 < 0 ∨ 12 ≤ a0.toNatClampNeg then none else
some (q1.2 p (208 + a0.toNatClampNeg), q1.2))
else
if a1 = (1 : Int32) then
(if a0 < 0 ∨ 12 ≤ a0.toNatClampNeg then none else
some (q1.2 p (220 + a0.toNatClampNeg), q1.2))
else
if a1 = (2 : Int32) then
(if a0 < 0 ∨ 12 ≤ a0.toNatClampNeg then none else
some (q1.2 p (232 + a0.toNatClampNeg), q1.2))
else
if a1 = (3 : Int32) then
(if a0 < 0 ∨ 12 ≤ a0.toNatClampNeg then none else
some (q1.2 p (244 + a0.toNatClampNeg), q1.2))
else
(some ((-1 : Int32), q1.2)))
set_option maxHeartbeats 4000000 in
set_option maxRecDepth 20000 in
theorem v2_tell {G : xG} {p : Nat} (hp : p < 7) (hC : xC G cX2_tell 3 RX2 1) {R : Int32 × xMem} (hR : xRI G cX2_tell 3 R) {a0 a1 : Int32} {M : xMem} (h : g2_tell p a0 a1 M = some R) : V G 3 0 [(0, .inr (plc p + 2)), (1, .inl a0), (2, .inl a1)] [] M := by
  unfold g2_tell at h
  refine V.aload_n (r := 1) hC 0 dX2_tell_0 rfl rfl ?_
  refine V.iload_n (r := 2) hC 1 dX2_tell_1 rfl rfl ?_
  obtain ⟨q1, hq2, h⟩ := Option.bind_eq_some_iff.mp h
  try dsimp only at h
  refine V.invVi (as := [.inl a0]) (st := []) (r := 5) hC (met2_stands hp hq2) yv_X2_stands ml_RX2_43 (shp_2 _ hp) rfl rfl dX2_tell_2 (by decide) rfl rfl rfl rfl ?_
  refine V.if_ne (tgt := 10) (r := 8) hC dX2_tell_5 (by decide) rfl (fun c3 => ?_) (fun c3 => ?_)
  · rw [if_neg c3] at h
    refine V.iload_n (r := 11) hC 2 dX2_tell_10 rfl rfl ?_
    by_cases c4 : a1 = (0 : Int32)
    · rw [if_pos c4] at h
      refine V.tabIn (off := 29) (tgt := 40) hC dX2_tell_11 c4 (by decide) (by decide) (by decide) (by decide) ?_
      refine V.aload_n (r := 41) hC 0 dX2_tell_40 rfl rfl ?_
      refine V.getR (k' := plc p + 4) (j := 1) (r := 44) hC xcl_2 (shp_2 _ hp) fl_RX2_15 dX2_tell_41 (by decide) rfl rfl ?_
      refine V.iload_n (r := 45) hC 1 dX2_tell_44 rfl rfl ?_
      by_cases c5 : a0 < 0 ∨ 12 ≤ a0.toNatClampNeg
      · rw [if_pos c5] at h; cases h
      rw [if_neg c5] at h
      refine V.iald (t := (208 + a0.toNatClampNeg)) (r := 46) hC (shp_4 _ hp) dX2_tell_45 c5 rfl rfl ?_
      cases h
      exact hR _ _ dX2_tell_46
    rw [if_neg c4] at h
    by_cases c6 : a1 = (1 : Int32)
    · rw [if_pos c6] at h
      refine V.tabIn (off := 36) (tgt := 47) hC dX2_tell_11 c6 (by decide) (by decide) (by decide) (by decide) ?_
      refine V.aload_n (r := 48) hC 0 dX2_tell_47 rfl rfl ?_
      refine V.getR (k' := plc p + 5) (j := 2) (r := 51) hC xcl_2 (shp_2 _ hp) fl_RX2_19 dX2_tell_48 (by decide) rfl rfl ?_
      refine V.iload_n (r := 52) hC 1 dX2_tell_51 rfl rfl ?_
      by_cases c7 : a0 < 0 ∨ 12 ≤ a0.toNatClampNeg
      · rw [if_pos c7] at h; cases h
      rw [if_neg c7] at h
      refine V.iald (t := (220 + a0.toNatClampNeg)) (r := 53) hC (shp_5 _ hp) dX2_tell_52 c7 rfl rfl ?_
      cases h
      exact hR _ _ dX2_tell_53
    rw [if_neg c6] at h
    by_cases c8 : a1 = (2 : Int32)
    · rw [if_pos c8] at h
      refine V.tabIn (off := 43) (tgt := 54) hC dX2_tell_11 c8 (by decide) (by decide) (by decide) (by decide) ?_
      refine V.aload_n (r := 55) hC 0 dX2_tell_54 rfl rfl ?_
      refine V.getR (k' := plc p + 6) (j := 3) (r := 58) hC xcl_2 (shp_2 _ hp) fl_RX2_22 dX2_tell_55 (by decide) rfl rfl ?_
      refine V.iload_n (r := 59) hC 1 dX2_tell_58 rfl rfl ?_
      by_cases c9 : a0 < 0 ∨ 12 ≤ a0.toNatClampNeg
      · rw [if_pos c9] at h; cases h
      rw [if_neg c9] at h
      refine V.iald (t := (232 + a0.toNatClampNeg)) (r := 60) hC (shp_6 _ hp) dX2_tell_59 c9 rfl rfl ?_
      cases h
      exact hR _ _ dX2_tell_60
    rw [if_neg c8] at h
    by_cases c10 : a1 = (3 : Int32)
    · rw [if_pos c10] at h
      refine V.tabIn (off := 50) (tgt := 61) hC dX2_tell_11 c10 (by decide) (by decide) (by decide) (by decide) ?_
      refine V.aload_n (r := 62) hC 0 dX2_tell_61 rfl rfl ?_
      refine V.getR (k' := plc p + 7) (j := 4) (r := 65) hC xcl_2 (shp_2 _ hp) fl_RX2_25 dX2_tell_62 (by decide) rfl rfl ?_
      refine V.iload_n (r := 66) hC 1 dX2_tell_65 rfl rfl ?_
      by_cases c11 : a0 < 0 ∨ 12 ≤ a0.toNatClampNeg
      · rw [if_pos c11] at h; cases h
      rw [if_neg c11] at h
      refine V.iald (t := (244 + a0.toNatClampNeg)) (r := 67) hC (shp_7 _ hp) dX2_tell_66 c11 rfl rfl ?_
      cases h
      exact hR _ _ dX2_tell_67
    rw [if_neg c10] at h
    refine V.tabOut (tgt := 68) hC dX2_tell_11 (by have e0 := lv_neT c4 (show ((0 : Int32)).toInt = 0 by decide); have e1 := lv_neT c6 (show ((1 : Int32)).toInt = 1 by decide); have e2 := lv_neT c8 (show ((2 : Int32)).toInt = 2 by decide); have e3 := lv_neT c10 (show ((3 : Int32)).toInt = 3 by decide); omega) (by decide) ?_
    refine V.iconst (r := 69) hC dX2_tell_68 ki_m1 rfl ?_
    cases h
    exact hR _ _ dX2_tell_69
  · rw [if_pos c3] at h
    refine V.iconst (r := 9) hC dX2_tell_8 ki_m1 rfl ?_
    cases h
    exact hR _ _ dX2_tell_9
theorem met2_tell {p : Nat} (hp : p < 7) {R : Int32 × xMem} {a0 a1 : Int32} {M : xMem} (h : g2_tell p a0 a1 M = some R) : xMet yX2_tell cX2_tell 3 (some .int) 1 [.inr (plc p + 2), .inl a0, .inl a1] M (some R.1) R.2 := xMet.ofI (by decide +kernel) (Nat.le_of_ble_eq_true rfl) fun _ hC hR => v2_tell hp hC hR h
def g6_become (p q : Nat) (M : xMem) : Option (xMem) :=
mset (cpM M p 0 196 q 0) fun M1 =>
Option.bind (g2_become p q M1) fun q2 =>
Option.bind (g1_become p q q2) fun q4 =>
mset (cpM q4 p 304 4 q 304) fun M6 =>
mset (cpM M6 p 308 19 q 308) fun M7 =>
mset (upM M7 p 327 (M7 q 327)) fun M8 =>
mset (upM M8 p 328 (M8 q 328)) fun M9 =>
mset (upM M9 p 329 (M9 q 329)) fun M10 =>
mset (upM M10 p 330 (M10 q 330)) fun M11 =>
some M11
set_option maxHeartbeats 4000000 in
set_option maxRecDepth 20000 in
theorem v6_become {G : xG} {p q : Nat} (hp : p < 7) (hq : q < 7) (hC : xC G cX6_become 2 RX6 2) {R : xMem} (hR : xRV G cX6_become 2 R) {M : xMem} (h : g6_become p q M = some R) : V G 2 0 [(0, .inr (plc p + 0)), (1, .inr (plc q + 0))] [] M := by
  unfold g6_become at h
  refine V.aload_n (r := 1) hC 1 dX6_become_0 rfl rfl ?_
  refine V.getR (k' := plc q + 1) (j := 0) (r := 4) hC xcl_6 (shp_0 _ hq) fl_RX6_9 dX6_become_1 (by decide) rfl rfl ?_
  refine V.iconst (r := 5) hC dX6_become_4 ki_0 rfl ?_
  refine V.aload_n (r := 6) hC 0 dX6_become_5 rfl rfl ?_
  refine V.getR (k' := plc p + 1) (j := 0) (r := 9) hC xcl_6 (shp_0 _ hp) fl_RX6_9 dX6_become_6 (by decide) rfl rfl ?_
  refine V.iconst (r := 10) hC dX6_become_9 ki_0 rfl ?_
  refine V.sipush (r := 13) hC dX6_become_10 ks_196 rfl ?_
  rw [mset_eq] at h
  refine V.acopyi (r := 16) hC ac_RX6_48 (by decide) (Nat.le_of_ble_eq_true rfl) (shp_1 _ hq) (shp_1 _ hp) (by decide) (by decide) dX6_become_13 rfl ?_
  generalize cpM M p 0 196 q 0 = M1 at h ⊢
  refine V.aload_n (r := 17) hC 0 dX6_become_16 rfl rfl ?_
  refine V.getR (k' := plc p + 2) (j := 1) (r := 20) hC xcl_6 (shp_0 _ hp) fl_RX6_18 dX6_become_17 (by decide) rfl rfl ?_
  refine V.aload_n (r := 21) hC 1 dX6_become_20 rfl rfl ?_
  refine V.getR (k' := plc q + 2) (j := 1) (r := 24) hC xcl_6 (shp_0 _ hq) fl_RX6_18 dX6_become_21 (by decide) rfl rfl ?_
  obtain ⟨q2, hq3, h⟩ := Option.bind_eq_some_iff.mp h
  try dsimp only at h
  refine V.invVv (as := [.inr (plc q + 2)]) (st := []) (r := 27) hC (met2_become hp hq hq3) yv_X2_become ml_RX6_54 (shp_2 _ hp) rfl rfl dX6_become_24 (by decide) rfl rfl rfl rfl ?_
  refine V.aload_n (r := 28) hC 0 dX6_become_27 rfl rfl ?_
  refine V.getR (k' := plc p + 9) (j := 2) (r := 31) hC xcl_6 (shp_0 _ hp) fl_RX6_25 dX6_become_28 (by decide) rfl rfl ?_
  refine V.aload_n (r := 32) hC 1 dX6_become_31 rfl rfl ?_
  refine V.getR (k' := plc q + 9) (j := 2) (r := 35) hC xcl_6 (shp_0 _ hq) fl_RX6_25 dX6_become_32 (by decide) rfl rfl ?_
  obtain ⟨q4, hq5, h⟩ := Option.bind_eq_some_iff.mp h
  try dsimp only at h
  refine V.invVv (as := [.inr (plc q + 9)]) (st := []) (r := 38) hC (met1_become hp hq hq5) yv_X1_become ml_RX6_58 (shp_9 _ hp) rfl rfl dX6_become_35 (by decide) rfl rfl rfl rfl ?_
  refine V.aload_n (r := 39) hC 1 dX6_become_38 rfl rfl ?_
  refine V.getR (k' := plc q + 16) (j := 3) (r := 42) hC xcl_6 (shp_0 _ hq) fl_RX6_29 dX6_become_39 (by decide) rfl rfl ?_
  refine V.iconst (r := 43) hC dX6_become_42 ki_0 rfl ?_
  refine V.aload_n (r := 44) hC 0 dX6_become_43 rfl rfl ?_
  refine V.getR (k' := plc p + 16) (j := 3) (r := 47) hC xcl_6 (shp_0 _ hp) fl_RX6_29 dX6_become_44 (by decide) rfl rfl ?_
  refine V.iconst (r := 48) hC dX6_become_47 ki_0 rfl ?_
  refine V.iconst (r := 49) hC dX6_become_48 ki_4 rfl ?_
  rw [mset_eq] at h
  refine V.acopyi (r := 52) hC ac_RX6_48 (by decide) (Nat.le_of_ble_eq_true rfl) (shp_16 _ hq) (shp_16 _ hp) (by decide) (by decide) dX6_become_49 rfl ?_
  generalize cpM q4 p 304 4 q 304 = M6 at h ⊢
  refine V.aload_n (r := 53) hC 1 dX6_become_52 rfl rfl ?_
  refine V.getR (k' := plc q + 17) (j := 4) (r := 56) hC xcl_6 (shp_0 _ hq) fl_RX6_32 dX6_become_53 (by decide) rfl rfl ?_
  refine V.iconst (r := 57) hC dX6_become_56 ki_0 rfl ?_
  refine V.aload_n (r := 58) hC 0 dX6_become_57 rfl rfl ?_
  refine V.getR (k' := plc p + 17) (j := 4) (r := 61) hC xcl_6 (shp_0 _ hp) fl_RX6_32 dX6_become_58 (by decide) rfl rfl ?_
  refine V.iconst (r := 62) hC dX6_become_61 ki_0 rfl ?_
  refine V.bipush (r := 64) hC dX6_become_62 kb_19 rfl ?_
  rw [mset_eq] at h
  refine V.acopyi (r := 67) hC ac_RX6_48 (by decide) (Nat.le_of_ble_eq_true rfl) (shp_17 _ hq) (shp_17 _ hp) (by decide) (by decide) dX6_become_64 rfl ?_
  generalize cpM M6 p 308 19 q 308 = M7 at h ⊢
  refine V.aload_n (r := 68) hC 0 dX6_become_67 rfl rfl ?_
  refine V.aload_n (r := 69) hC 1 dX6_become_68 rfl rfl ?_
  refine V.getI (b := q) (i := 327) (j := 5) (r := 72) hC xcl_6 (shp_0 _ hq) fl_RX6_35 dX6_become_69 (by decide) rfl rfl ?_
  rw [mset_eq] at h
  refine V.putI (b := p) (i := 327) (j := 5) (ty := .int) (r := 75) hC xcl_6 xcp_6 (shp_0 _ hp) fl_RX6_35 dX6_become_72 (by decide) rfl rfl (by decide +kernel) rfl rfl rfl ?_
  generalize upM M7 p 327 (M7 q 327) = M8 at h ⊢
  refine V.aload_n (r := 76) hC 0 dX6_become_75 rfl rfl ?_
  refine V.aload_n (r := 77) hC 1 dX6_become_76 rfl rfl ?_
  refine V.getI (b := q) (i := 328) (j := 6) (r := 80) hC xcl_6 (shp_0 _ hq) fl_RX6_39 dX6_become_77 (by decide) rfl rfl ?_
  rw [mset_eq] at h
  refine V.putI (b := p) (i := 328) (j := 6) (ty := .int) (r := 83) hC xcl_6 xcp_6 (shp_0 _ hp) fl_RX6_39 dX6_become_80 (by decide) rfl rfl (by decide +kernel) rfl rfl rfl ?_
  generalize upM M8 p 328 (M8 q 328) = M9 at h ⊢
  refine V.aload_n (r := 84) hC 0 dX6_become_83 rfl rfl ?_
  refine V.aload_n (r := 85) hC 1 dX6_become_84 rfl rfl ?_
  refine V.getI (b := q) (i := 329) (j := 7) (r := 88) hC xcl_6 (shp_0 _ hq) fl_RX6_42 dX6_become_85 (by decide) rfl rfl ?_
  rw [mset_eq] at h
  refine V.putI (b := p) (i := 329) (j := 7) (ty := .int) (r := 91) hC xcl_6 xcp_6 (shp_0 _ hp) fl_RX6_42 dX6_become_88 (by decide) rfl rfl (by decide +kernel) rfl rfl rfl ?_
  generalize upM M9 p 329 (M9 q 329) = M10 at h ⊢
  refine V.aload_n (r := 92) hC 0 dX6_become_91 rfl rfl ?_
  refine V.aload_n (r := 93) hC 1 dX6_become_92 rfl rfl ?_
  refine V.getI (b := q) (i := 330) (j := 8) (r := 96) hC xcl_6 (shp_0 _ hq) fl_RX6_45 dX6_become_93 (by decide) rfl rfl ?_
  rw [mset_eq] at h
  refine V.putI (b := p) (i := 330) (j := 8) (ty := .int) (r := 99) hC xcl_6 xcp_6 (shp_0 _ hp) fl_RX6_45 dX6_become_96 (by decide) rfl rfl (by decide +kernel) rfl rfl rfl ?_
  generalize upM M10 p 330 (M10 q 330) = M11 at h ⊢
  cases h
  exact hR _ _ dX6_become_99
theorem met6_become {p q : Nat} (hp : p < 7) (hq : q < 7) {R : xMem} {M : xMem} (h : g6_become p q M = some R) : xMet yX6_become cX6_become 2 none 2 [.inr (plc p + 0), .inr (plc q + 0)] M none R := xMet.ofV (by decide +kernel) (Nat.le_of_ble_eq_true rfl) fun _ hC hR => v6_become hp hq hC hR h
def g6_sortAt (p : Nat) (a0 : Int32) (M : xMem) : Option (Int32 × xMem) :=
if a0 < 0 then
(some ((3 : Int32), M))
else
(if (196 : Int32) ≤ a0 then
(some ((3 : Int32), M))
else
(if a0 < 0 ∨ 196 ≤ a0.toNatClampNeg then none else
some (M p a0.toNatClampNeg, M)))
set_option maxHeartbeats 4000000 in
set_option maxRecDepth 20000 in
theorem v6_sortAt {G : xG} {p : Nat} (hp : p < 7) (hC : xC G cX6_sortAt 2 RX6 0) {R : Int32 × xMem} (hR : xRI G cX6_sortAt 2 R) {a0 : Int32} {M : xMem} (h : g6_sortAt p a0 M = some R) : V G 2 0 [(0, .inr (plc p + 0)), (1, .inl a0)] [] M := by
  unfold g6_sortAt at h
  refine V.iload_n (r := 1) hC 1 dX6_sortAt_0 rfl rfl ?_
  refine V.if_lt (tgt := 20) (r := 4) hC dX6_sortAt_1 (by decide) rfl (fun c1 => ?_) (fun c1 => ?_)
  · rw [if_pos c1] at h
    refine V.iconst (r := 21) hC dX6_sortAt_20 ki_3 rfl ?_
    cases h
    exact hR _ _ dX6_sortAt_21
  · rw [if_neg c1] at h
    refine V.iload_n (r := 5) hC 1 dX6_sortAt_4 rfl rfl ?_
    refine V.sipush (r := 8) hC dX6_sortAt_5 ks_196 rfl ?_
    refine V.icmp_ge (tgt := 20) (r := 11) hC dX6_sortAt_8 (by decide) rfl (fun c2 => ?_) (fun c2 => ?_)
    · rw [if_pos c2] at h
      refine V.iconst (r := 21) hC dX6_sortAt_20 ki_3 rfl ?_
      cases h
      exact hR _ _ dX6_sortAt_21
    · rw [if_neg c2] at h
      refine V.aload_n (r := 12) hC 0 dX6_sortAt_11 rfl rfl ?_
      refine V.getR (k' := plc p + 1) (j := 0) (r := 15) hC xcl_6 (shp_0 _ hp) fl_RX6_9 dX6_sortAt_12 (by decide) rfl rfl ?_
      refine V.iload_n (r := 16) hC 1 dX6_sortAt_15 rfl rfl ?_
      by_cases c3 : a0 < 0 ∨ 196 ≤ a0.toNatClampNeg
      · rw [if_pos c3] at h; cases h
      rw [if_neg c3] at h
      refine V.iald (t := a0.toNatClampNeg) (r := 17) hC (shp_1 _ hp) dX6_sortAt_16 c3 (Nat.zero_add _) rfl ?_
      refine V.goto (tgt := 21) hC dX6_sortAt_17 (by decide) ?_
      cases h
      exact hR _ _ dX6_sortAt_21
theorem met6_sortAt {p : Nat} (hp : p < 7) {R : Int32 × xMem} {a0 : Int32} {M : xMem} (h : g6_sortAt p a0 M = some R) : xMet yX6_sortAt cX6_sortAt 2 (some .int) 0 [.inr (plc p + 0), .inl a0] M (some R.1) R.2 := xMet.ofI (by decide +kernel) (Nat.le_of_ble_eq_true rfl) fun _ hC hR => v6_sortAt hp hC hR h
def g6_isTaken_b34 (p : Nat) (k2 : Int32 → Int32 → xMem → Option (Int32 × xMem)) (x1 x2 : Int32) (M : xMem) : Option (Int32 × xMem) :=
k2 x1 (x2 + (1 : Int32)) M
set_option maxHeartbeats 4000000 in
set_option maxRecDepth 20000 in
theorem v6_isTaken_b34 {G : xG} {p : Nat} (hp : p < 7) (hC : xC G cX6_isTaken 3 RX6 1) {R : Int32 × xMem} (hR : xRZ G cX6_isTaken 3 R) {k2 : Int32 → Int32 → xMem → Option (Int32 × xMem)} (hk2 : ∀ (y1 y2 : Int32) (N : xMem), k2 y1 y2 N = some R → V G 3 2 [(0, .inr (plc p + 0)), (1, .inl y1), (2, .inl y2)] [] N) (x1 x2 : Int32) (M : xMem) (h : g6_isTaken_b34 p k2 x1 x2 M = some R) : V G 3 34 [(0, .inr (plc p + 0)), (1, .inl x1), (2, .inl x2)] [] M := by
  unfold g6_isTaken_b34 at h
  refine V.inc (lv' := [(0, .inr (plc p + 0)), (1, .inl x1), (2, .inl (x2 + (1 : Int32)))]) (r := 37) hC 2 dX6_isTaken_34 rfl ki_1 rfl rfl rfl ?_
  refine V.goto (tgt := 2) hC dX6_isTaken_37 (by decide) ?_
  exact hk2 _ _ _ h
def g6_isTaken_b74 (p : Nat) (k42 : Int32 → Int32 → xMem → Option (Int32 × xMem)) (x1 x2 : Int32) (M : xMem) : Option (Int32 × xMem) :=
k42 x1 (x2 + (1 : Int32)) M
set_option maxHeartbeats 4000000 in
set_option maxRecDepth 20000 in
theorem v6_isTaken_b74 {G : xG} {p : Nat} (hp : p < 7) (hC : xC G cX6_isTaken 3 RX6 1) {R : Int32 × xMem} (hR : xRZ G cX6_isTaken 3 R) {k42 : Int32 → Int32 → xMem → Option (Int32 × xMem)} (hk42 : ∀ (y1 y2 : Int32) (N : xMem), k42 y1 y2 N = some R → V G 3 42 [(0, .inr (plc p + 0)), (1, .inl y1), (2, .inl y2)] [] N) (x1 x2 : Int32) (M : xMem) (h : g6_isTaken_b74 p k42 x1 x2 M = some R) : V G 3 74 [(0, .inr (plc p + 0)), (1, .inl x1), (2, .inl x2)] [] M := by
  unfold g6_isTaken_b74 at h
  refine V.inc (lv' := [(0, .inr (plc p + 0)), (1, .inl x1), (2, .inl (x2 + (1 : Int32)))]) (r := 77) hC 2 dX6_isTaken_74 rfl ki_1 rfl rfl rfl ?_
  refine V.goto (tgt := 42) hC dX6_isTaken_77 (by decide) ?_
  exact hk42 _ _ _ h
def g6_isTaken_b42 (p : Nat) : Nat → Int32 → Int32 → xMem → Option (Int32 × xMem)
  | 0, _, _, _ => none
  | n + 1, x1, x2, M => 
    (if (6 : Int32) ≤ x2 then
    (some ((0 : Int32), M))
    else
    (Option.bind (g1_isOn p x2 M) fun q8 =>
    if (q8.1) = 0 then
    (g6_isTaken_b74 p (g6_isTaken_b42 p n) x1 x2 q8.2)
    else
    (if x2 < 0 ∨ 6 ≤ x2.toNatClampNeg then none else
    if (q8.2 p (274 + x2.toNatClampNeg)) = x1 then
    (some ((1 : Int32), q8.2))
    else
    (g6_isTaken_b74 p (g6_isTaken_b42 p n) x1 x2 q8.2))))
set_option maxHeartbeats 4000000 in
set_option maxRecDepth 20000 in
theorem v6_isTaken_b42 {G : xG} {p : Nat} (hp : p < 7) (hC : xC G cX6_isTaken 3 RX6 1) {R : Int32 × xMem} (hR : xRZ G cX6_isTaken 3 R) : ∀ (n : Nat) (x1 x2 : Int32) (M : xMem), g6_isTaken_b42 p n x1 x2 M = some R → V G 3 42 [(0, .inr (plc p + 0)), (1, .inl x1), (2, .inl x2)] [] M := by
  intro n
  induction n with
  | zero => intro x1 x2 M h; rw [g6_isTaken_b42] at h; cases h
  | succ n ih =>
    intro x1 x2 M h
    rw [g6_isTaken_b42] at h
    refine V.iload_n (r := 43) hC 2 dX6_isTaken_42 rfl rfl ?_
    refine V.bipush (r := 45) hC dX6_isTaken_43 kb_6 rfl ?_
    refine V.icmp_ge (tgt := 80) (r := 48) hC dX6_isTaken_45 (by decide) rfl (fun c7 => ?_) (fun c7 => ?_)
    · rw [if_pos c7] at h
      refine V.iconst (r := 81) hC dX6_isTaken_80 ki_0 rfl ?_
      cases h
      exact hR _ _ (Or.inl rfl) dX6_isTaken_81
    · rw [if_neg c7] at h
      refine V.aload_n (r := 49) hC 0 dX6_isTaken_48 rfl rfl ?_
      refine V.getR (k' := plc p + 9) (j := 2) (r := 52) hC xcl_6 (shp_0 _ hp) fl_RX6_25 dX6_isTaken_49 (by decide) rfl rfl ?_
      refine V.iload_n (r := 53) hC 2 dX6_isTaken_52 rfl rfl ?_
      obtain ⟨q8, hq9, h⟩ := Option.bind_eq_some_iff.mp h
      try dsimp only at h
      refine V.invVi (as := [.inl x2]) (st := []) (r := 56) hC (met1_isOn hp hq9) yv_X1_isOn ml_RX6_68 (shp_9 _ hp) rfl rfl dX6_isTaken_53 (by decide) rfl rfl rfl rfl ?_
      refine V.if_eq (tgt := 74) (r := 59) hC dX6_isTaken_56 (by decide) rfl (fun c10 => ?_) (fun c10 => ?_)
      · rw [if_pos c10] at h
        exact v6_isTaken_b74 hp hC hR ih _ _ _ h
      · rw [if_neg c10] at h
        refine V.aload_n (r := 60) hC 0 dX6_isTaken_59 rfl rfl ?_
        refine V.getR (k' := plc p + 9) (j := 2) (r := 63) hC xcl_6 (shp_0 _ hp) fl_RX6_25 dX6_isTaken_60 (by decide) rfl rfl ?_
        refine V.getR (k' := plc p + 11) (j := 1) (r := 66) hC xcl_1 (shp_9 _ hp) fl_RX6_71 dX6_isTaken_63 (by decide) rfl rfl ?_
        refine V.iload_n (r := 67) hC 2 dX6_isTaken_66 rfl rfl ?_
        by_cases c11 : x2 < 0 ∨ 6 ≤ x2.toNatClampNeg
        · rw [if_pos c11] at h; cases h
        rw [if_neg c11] at h
        refine V.iald (t := (274 + x2.toNatClampNeg)) (r := 68) hC (shp_11 _ hp) dX6_isTaken_67 c11 rfl rfl ?_
        refine V.iload_n (r := 69) hC 1 dX6_isTaken_68 rfl rfl ?_
        refine V.icmp_ne (tgt := 74) (r := 72) hC dX6_isTaken_69 (by decide) rfl (fun c12 => ?_) (fun c12 => ?_)
        · rw [if_neg c12] at h
          exact v6_isTaken_b74 hp hC hR ih _ _ _ h
        · rw [if_pos c12] at h
          refine V.iconst (r := 73) hC dX6_isTaken_72 ki_1 rfl ?_
          cases h
          exact hR _ _ (Or.inr rfl) dX6_isTaken_73
def g6_isTaken_b2 (p : Nat) : Nat → Int32 → Int32 → xMem → Option (Int32 × xMem)
  | 0, _, _, _ => none
  | n + 1, x1, x2, M => 
    (if (12 : Int32) ≤ x2 then
    (g6_isTaken_b42 p 5000 x1 (0 : Int32) M)
    else
    (Option.bind (g2_stands p x2 M) fun q2 =>
    if (q2.1) = 0 then
    (g6_isTaken_b34 p (g6_isTaken_b2 p n) x1 x2 q2.2)
    else
    (if x2 < 0 ∨ 12 ≤ x2.toNatClampNeg then none else
    if (q2.2 p (208 + x2.toNatClampNeg)) = x1 then
    (some ((1 : Int32), q2.2))
    else
    (g6_isTaken_b34 p (g6_isTaken_b2 p n) x1 x2 q2.2))))
set_option maxHeartbeats 4000000 in
set_option maxRecDepth 20000 in
theorem v6_isTaken_b2 {G : xG} {p : Nat} (hp : p < 7) (hC : xC G cX6_isTaken 3 RX6 1) {R : Int32 × xMem} (hR : xRZ G cX6_isTaken 3 R) : ∀ (n : Nat) (x1 x2 : Int32) (M : xMem), g6_isTaken_b2 p n x1 x2 M = some R → V G 3 2 [(0, .inr (plc p + 0)), (1, .inl x1), (2, .inl x2)] [] M := by
  intro n
  induction n with
  | zero => intro x1 x2 M h; rw [g6_isTaken_b2] at h; cases h
  | succ n ih =>
    intro x1 x2 M h
    rw [g6_isTaken_b2] at h
    refine V.iload_n (r := 3) hC 2 dX6_isTaken_2 rfl rfl ?_
    refine V.bipush (r := 5) hC dX6_isTaken_3 kb_12 rfl ?_
    refine V.icmp_ge (tgt := 40) (r := 8) hC dX6_isTaken_5 (by decide) rfl (fun c1 => ?_) (fun c1 => ?_)
    · rw [if_pos c1] at h
      refine V.iconst (r := 41) hC dX6_isTaken_40 ki_0 rfl ?_
      refine V.ist_n (lv' := [(0, .inr (plc p + 0)), (1, .inl x1), (2, .inl (0 : Int32))]) (r := 42) hC dX6_isTaken_41 rfl rfl rfl ?_
      exact v6_isTaken_b42 hp hC hR  5000 _ _ _ h
    · rw [if_neg c1] at h
      refine V.aload_n (r := 9) hC 0 dX6_isTaken_8 rfl rfl ?_
      refine V.getR (k' := plc p + 2) (j := 1) (r := 12) hC xcl_6 (shp_0 _ hp) fl_RX6_18 dX6_isTaken_9 (by decide) rfl rfl ?_
      refine V.iload_n (r := 13) hC 2 dX6_isTaken_12 rfl rfl ?_
      obtain ⟨q2, hq3, h⟩ := Option.bind_eq_some_iff.mp h
      try dsimp only at h
      refine V.invVi (as := [.inl x2]) (st := []) (r := 16) hC (met2_stands hp hq3) yv_X2_stands ml_RX6_61 (shp_2 _ hp) rfl rfl dX6_isTaken_13 (by decide) rfl rfl rfl rfl ?_
      refine V.if_eq (tgt := 34) (r := 19) hC dX6_isTaken_16 (by decide) rfl (fun c4 => ?_) (fun c4 => ?_)
      · rw [if_pos c4] at h
        exact v6_isTaken_b34 hp hC hR ih _ _ _ h
      · rw [if_neg c4] at h
        refine V.aload_n (r := 20) hC 0 dX6_isTaken_19 rfl rfl ?_
        refine V.getR (k' := plc p + 2) (j := 1) (r := 23) hC xcl_6 (shp_0 _ hp) fl_RX6_18 dX6_isTaken_20 (by decide) rfl rfl ?_
        refine V.getR (k' := plc p + 4) (j := 1) (r := 26) hC xcl_2 (shp_2 _ hp) fl_RX6_65 dX6_isTaken_23 (by decide) rfl rfl ?_
        refine V.iload_n (r := 27) hC 2 dX6_isTaken_26 rfl rfl ?_
        by_cases c5 : x2 < 0 ∨ 12 ≤ x2.toNatClampNeg
        · rw [if_pos c5] at h; cases h
        rw [if_neg c5] at h
        refine V.iald (t := (208 + x2.toNatClampNeg)) (r := 28) hC (shp_4 _ hp) dX6_isTaken_27 c5 rfl rfl ?_
        refine V.iload_n (r := 29) hC 1 dX6_isTaken_28 rfl rfl ?_
        refine V.icmp_ne (tgt := 34) (r := 32) hC dX6_isTaken_29 (by decide) rfl (fun c6 => ?_) (fun c6 => ?_)
        · rw [if_neg c6] at h
          exact v6_isTaken_b34 hp hC hR ih _ _ _ h
        · rw [if_pos c6] at h
          refine V.iconst (r := 33) hC dX6_isTaken_32 ki_1 rfl ?_
          cases h
          exact hR _ _ (Or.inr rfl) dX6_isTaken_33
def g6_isTaken (p : Nat) (a0 : Int32) (M : xMem) : Option (Int32 × xMem) :=
g6_isTaken_b2 p 5000 a0 (0 : Int32) M
set_option maxHeartbeats 4000000 in
set_option maxRecDepth 20000 in
theorem v6_isTaken {G : xG} {p : Nat} (hp : p < 7) (hC : xC G cX6_isTaken 3 RX6 1) {R : Int32 × xMem} (hR : xRZ G cX6_isTaken 3 R) {a0 : Int32} {M : xMem} (h : g6_isTaken p a0 M = some R) : V G 3 0 [(0, .inr (plc p + 0)), (1, .inl a0)] [] M := by
  unfold g6_isTaken at h
  refine V.iconst (r := 1) hC dX6_isTaken_0 ki_0 rfl ?_
  refine V.ist_n (lv' := [(0, .inr (plc p + 0)), (1, .inl a0), (2, .inl (0 : Int32))]) (r := 2) hC dX6_isTaken_1 rfl rfl rfl ?_
  exact v6_isTaken_b2 hp hC hR  5000 _ _ _ h
theorem met6_isTaken {p : Nat} (hp : p < 7) {R : Int32 × xMem} {a0 : Int32} {M : xMem} (h : g6_isTaken p a0 M = some R) : xMet yX6_isTaken cX6_isTaken 3 (some .boolean) 1 [.inr (plc p + 0), .inl a0] M (some R.1) R.2 := xMet.ofZ (by decide +kernel) (Nat.le_of_ble_eq_true rfl) fun _ hC hR => v6_isTaken hp hC hR h
def g6_isThere (p : Nat) (a0 : Int32) (M : xMem) : Option (Int32 × xMem) :=
if (12 : Int32) ≤ a0 then
(Option.bind (g1_isOn p (a0 - (12 : Int32)) M) fun q2 =>
if (q2.1) = 0 ∨ (q2.1) = 1 then
some (q2.1, q2.2)
else none)
else
(Option.bind (g2_stands p a0 M) fun q5 =>
if (q5.1) = 0 ∨ (q5.1) = 1 then
some (q5.1, q5.2)
else none)
set_option maxHeartbeats 4000000 in
set_option maxRecDepth 20000 in
theorem v6_isThere {G : xG} {p : Nat} (hp : p < 7) (hC : xC G cX6_isThere 2 RX6 1) {R : Int32 × xMem} (hR : xRZ G cX6_isThere 2 R) {a0 : Int32} {M : xMem} (h : g6_isThere p a0 M = some R) : V G 2 0 [(0, .inr (plc p + 0)), (1, .inl a0)] [] M := by
  unfold g6_isThere at h
  refine V.iload_n (r := 1) hC 1 dX6_isThere_0 rfl rfl ?_
  refine V.bipush (r := 3) hC dX6_isThere_1 kb_12 rfl ?_
  refine V.icmp_ge (tgt := 17) (r := 6) hC dX6_isThere_3 (by decide) rfl (fun c1 => ?_) (fun c1 => ?_)
  · rw [if_pos c1] at h
    refine V.aload_n (r := 18) hC 0 dX6_isThere_17 rfl rfl ?_
    refine V.getR (k' := plc p + 9) (j := 2) (r := 21) hC xcl_6 (shp_0 _ hp) fl_RX6_25 dX6_isThere_18 (by decide) rfl rfl ?_
    refine V.iload_n (r := 22) hC 1 dX6_isThere_21 rfl rfl ?_
    refine V.bipush (r := 24) hC dX6_isThere_22 kb_12 rfl ?_
    refine V.isub (r := 25) hC dX6_isThere_24 rfl ?_
    obtain ⟨q2, hq3, h⟩ := Option.bind_eq_some_iff.mp h
    try dsimp only at h
    refine V.invVi (as := [.inl (a0 - (12 : Int32))]) (st := []) (r := 28) hC (met1_isOn hp hq3) yv_X1_isOn ml_RX6_68 (shp_9 _ hp) rfl rfl dX6_isThere_25 (by decide) rfl rfl rfl rfl ?_
    by_cases c4 : ¬ ((q2.1) = 0 ∨ (q2.1) = 1)
    · rw [if_neg c4] at h; cases h
    replace c4 := Classical.not_not.mp c4
    rw [if_pos c4] at h
    cases h
    exact hR _ _ c4 dX6_isThere_28
  · rw [if_neg c1] at h
    refine V.aload_n (r := 7) hC 0 dX6_isThere_6 rfl rfl ?_
    refine V.getR (k' := plc p + 2) (j := 1) (r := 10) hC xcl_6 (shp_0 _ hp) fl_RX6_18 dX6_isThere_7 (by decide) rfl rfl ?_
    refine V.iload_n (r := 11) hC 1 dX6_isThere_10 rfl rfl ?_
    obtain ⟨q5, hq6, h⟩ := Option.bind_eq_some_iff.mp h
    try dsimp only at h
    refine V.invVi (as := [.inl a0]) (st := []) (r := 14) hC (met2_stands hp hq6) yv_X2_stands ml_RX6_61 (shp_2 _ hp) rfl rfl dX6_isThere_11 (by decide) rfl rfl rfl rfl ?_
    refine V.goto (tgt := 28) hC dX6_isThere_14 (by decide) ?_
    by_cases c7 : ¬ ((q5.1) = 0 ∨ (q5.1) = 1)
    · rw [if_neg c7] at h; cases h
    replace c7 := Classical.not_not.mp c7
    rw [if_pos c7] at h
    cases h
    exact hR _ _ c7 dX6_isThere_28
theorem met6_isThere {p : Nat} (hp : p < 7) {R : Int32 × xMem} {a0 : Int32} {M : xMem} (h : g6_isThere p a0 M = some R) : xMet yX6_isThere cX6_isThere 2 (some .boolean) 1 [.inr (plc p + 0), .inl a0] M (some R.1) R.2 := xMet.ofZ (by decide +kernel) (Nat.le_of_ble_eq_true rfl) fun _ hC hR => v6_isThere hp hC hR h
def g6_isLit (p : Nat) (a0 : Int32) (M : xMem) : Option (Int32 × xMem) :=
if (12 : Int32) ≤ a0 then
(Option.bind (g1_isOn p (a0 - (12 : Int32)) M) fun q2 =>
if (q2.1) = 0 then
(some ((0 : Int32), q2.2))
else
(if (a0 - (12 : Int32)) < 0 ∨ 6 ≤ (a0 - (12 : Int32)).toNatClampNeg then none else
if (q2.2 p (298 + (a0 - (12 : Int32)).toNatClampNeg)) = 0 then
(some ((0 : Int32), q2.2))
else
(some ((1 : Int32), q2.2))))
else
(Option.bind (g2_isLit p a0 M) fun q7 =>
if (q7.1) = 0 ∨ (q7.1) = 1 then
some (q7.1, q7.2)
else none)
set_option maxHeartbeats 4000000 in
set_option maxRecDepth 20000 in
theorem v6_isLit {G : xG} {p : Nat} (hp : p < 7) (hC : xC G cX6_isLit 2 RX6 1) {R : Int32 × xMem} (hR : xRZ G cX6_isLit 2 R) {a0 : Int32} {M : xMem} (h : g6_isLit p a0 M = some R) : V G 2 0 [(0, .inr (plc p + 0)), (1, .inl a0)] [] M := by
  unfold g6_isLit at h
  refine V.iload_n (r := 1) hC 1 dX6_isLit_0 rfl rfl ?_
  refine V.bipush (r := 3) hC dX6_isLit_1 kb_12 rfl ?_
  refine V.icmp_ge (tgt := 15) (r := 6) hC dX6_isLit_3 (by decide) rfl (fun c1 => ?_) (fun c1 => ?_)
  · rw [if_pos c1] at h
    refine V.aload_n (r := 16) hC 0 dX6_isLit_15 rfl rfl ?_
    refine V.getR (k' := plc p + 9) (j := 2) (r := 19) hC xcl_6 (shp_0 _ hp) fl_RX6_25 dX6_isLit_16 (by decide) rfl rfl ?_
    refine V.iload_n (r := 20) hC 1 dX6_isLit_19 rfl rfl ?_
    refine V.bipush (r := 22) hC dX6_isLit_20 kb_12 rfl ?_
    refine V.isub (r := 23) hC dX6_isLit_22 rfl ?_
    obtain ⟨q2, hq3, h⟩ := Option.bind_eq_some_iff.mp h
    try dsimp only at h
    refine V.invVi (as := [.inl (a0 - (12 : Int32))]) (st := []) (r := 26) hC (met1_isOn hp hq3) yv_X1_isOn ml_RX6_68 (shp_9 _ hp) rfl rfl dX6_isLit_23 (by decide) rfl rfl rfl rfl ?_
    refine V.if_eq (tgt := 48) (r := 29) hC dX6_isLit_26 (by decide) rfl (fun c4 => ?_) (fun c4 => ?_)
    · rw [if_pos c4] at h
      refine V.iconst (r := 49) hC dX6_isLit_48 ki_0 rfl ?_
      cases h
      exact hR _ _ (Or.inl rfl) dX6_isLit_49
    · rw [if_neg c4] at h
      refine V.aload_n (r := 30) hC 0 dX6_isLit_29 rfl rfl ?_
      refine V.getR (k' := plc p + 9) (j := 2) (r := 33) hC xcl_6 (shp_0 _ hp) fl_RX6_25 dX6_isLit_30 (by decide) rfl rfl ?_
      refine V.getR (k' := plc p + 15) (j := 5) (r := 36) hC xcl_1 (shp_9 _ hp) fl_RX6_75 dX6_isLit_33 (by decide) rfl rfl ?_
      refine V.iload_n (r := 37) hC 1 dX6_isLit_36 rfl rfl ?_
      refine V.bipush (r := 39) hC dX6_isLit_37 kb_12 rfl ?_
      refine V.isub (r := 40) hC dX6_isLit_39 rfl ?_
      by_cases c5 : (a0 - (12 : Int32)) < 0 ∨ 6 ≤ (a0 - (12 : Int32)).toNatClampNeg
      · rw [if_pos c5] at h; cases h
      rw [if_neg c5] at h
      refine V.zald (t := (298 + (a0 - (12 : Int32)).toNatClampNeg)) (r := 41) hC (shp_15 _ hp) dX6_isLit_40 c5 rfl rfl ?_
      refine V.if_eq (tgt := 48) (r := 44) hC dX6_isLit_41 (by decide) rfl (fun c6 => ?_) (fun c6 => ?_)
      · rw [if_pos c6] at h
        refine V.iconst (r := 49) hC dX6_isLit_48 ki_0 rfl ?_
        cases h
        exact hR _ _ (Or.inl rfl) dX6_isLit_49
      · rw [if_neg c6] at h
        refine V.iconst (r := 45) hC dX6_isLit_44 ki_1 rfl ?_
        refine V.goto (tgt := 49) hC dX6_isLit_45 (by decide) ?_
        cases h
        exact hR _ _ (Or.inr rfl) dX6_isLit_49
  · rw [if_neg c1] at h
    refine V.aload_n (r := 7) hC 0 dX6_isLit_6 rfl rfl ?_
    refine V.getR (k' := plc p + 2) (j := 1) (r := 10) hC xcl_6 (shp_0 _ hp) fl_RX6_18 dX6_isLit_7 (by decide) rfl rfl ?_
    refine V.iload_n (r := 11) hC 1 dX6_isLit_10 rfl rfl ?_
    obtain ⟨q7, hq8, h⟩ := Option.bind_eq_some_iff.mp h
    try dsimp only at h
    refine V.invVi (as := [.inl a0]) (st := []) (r := 14) hC (met2_isLit hp hq8) yv_X2_isLit ml_RX6_72 (shp_2 _ hp) rfl rfl dX6_isLit_11 (by decide) rfl rfl rfl rfl ?_
    by_cases c9 : ¬ ((q7.1) = 0 ∨ (q7.1) = 1)
    · rw [if_neg c9] at h; cases h
    replace c9 := Classical.not_not.mp c9
    rw [if_pos c9] at h
    cases h
    exact hR _ _ c9 dX6_isLit_14
theorem met6_isLit {p : Nat} (hp : p < 7) {R : Int32 × xMem} {a0 : Int32} {M : xMem} (h : g6_isLit p a0 M = some R) : xMet yX6_isLit cX6_isLit 2 (some .boolean) 1 [.inr (plc p + 0), .inl a0] M (some R.1) R.2 := xMet.ofZ (by decide +kernel) (Nat.le_of_ble_eq_true rfl) fun _ hC hR => v6_isLit hp hC hR h
def g6_litBits_b26 (p : Nat) (k4 : Int32 → Int32 → xMem → Option (Int32 × xMem)) (x2 s0 s1 : Int32) (M : xMem) : Option (Int32 × xMem) :=
k4 (s0 ||| s1) (x2 + (1 : Int32)) M
set_option maxHeartbeats 4000000 in
set_option maxRecDepth 20000 in
theorem v6_litBits_b26 {G : xG} {p : Nat} (hp : p < 7) (hC : xC G cX6_litBits 3 RX6 2) {R : Int32 × xMem} (hR : xRI G cX6_litBits 3 R) {k4 : Int32 → Int32 → xMem → Option (Int32 × xMem)} (hk4 : ∀ (y1 y2 : Int32) (N : xMem), k4 y1 y2 N = some R → V G 3 4 [(0, .inr (plc p + 0)), (1, .inl y1), (2, .inl y2)] [] N) (x2 s0 s1 : Int32) (M : xMem) (h : g6_litBits_b26 p k4 x2 s0 s1 M = some R) : V G 3 26 [(0, .inr (plc p + 0)), (2, .inl x2)] [.inl s1, .inl s0] M := by
  unfold g6_litBits_b26 at h
  refine V.ior (r := 27) hC dX6_litBits_26 rfl ?_
  refine V.ist_n (lv' := [(0, .inr (plc p + 0)), (1, .inl (s0 ||| s1)), (2, .inl x2)]) (r := 28) hC dX6_litBits_27 rfl rfl rfl ?_
  refine V.inc (lv' := [(0, .inr (plc p + 0)), (1, .inl (s0 ||| s1)), (2, .inl (x2 + (1 : Int32)))]) (r := 31) hC 2 dX6_litBits_28 rfl ki_1 rfl rfl rfl ?_
  refine V.goto (tgt := 4) hC dX6_litBits_31 (by decide) ?_
  exact hk4 _ _ _ h
def g6_litBits_b4 (p : Nat) : Nat → Int32 → Int32 → xMem → Option (Int32 × xMem)
  | 0, _, _, _ => none
  | n + 1, x1, x2, M => 
    (if (18 : Int32) ≤ x2 then
    (some (x1, M))
    else
    (Option.bind (g6_isLit p x2 M) fun q2 =>
    if (q2.1) = 0 then
    (g6_litBits_b26 p (g6_litBits_b4 p n) x2 x1 (0 : Int32) q2.2)
    else
    (g6_litBits_b26 p (g6_litBits_b4 p n) x2 x1 ((1 : Int32) <<< (x2 &&& 31)) q2.2)))
set_option maxHeartbeats 4000000 in
set_option maxRecDepth 20000 in
theorem v6_litBits_b4 {G : xG} {p : Nat} (hp : p < 7) (hC : xC G cX6_litBits 3 RX6 2) {R : Int32 × xMem} (hR : xRI G cX6_litBits 3 R) : ∀ (n : Nat) (x1 x2 : Int32) (M : xMem), g6_litBits_b4 p n x1 x2 M = some R → V G 3 4 [(0, .inr (plc p + 0)), (1, .inl x1), (2, .inl x2)] [] M := by
  intro n
  induction n with
  | zero => intro x1 x2 M h; rw [g6_litBits_b4] at h; cases h
  | succ n ih =>
    intro x1 x2 M h
    rw [g6_litBits_b4] at h
    refine V.iload_n (r := 5) hC 2 dX6_litBits_4 rfl rfl ?_
    refine V.bipush (r := 7) hC dX6_litBits_5 kb_18 rfl ?_
    refine V.icmp_ge (tgt := 34) (r := 10) hC dX6_litBits_7 (by decide) rfl (fun c1 => ?_) (fun c1 => ?_)
    · rw [if_pos c1] at h
      refine V.iload_n (r := 35) hC 1 dX6_litBits_34 rfl rfl ?_
      cases h
      exact hR _ _ dX6_litBits_35
    · rw [if_neg c1] at h
      refine V.iload_n (r := 11) hC 1 dX6_litBits_10 rfl rfl ?_
      refine V.aload_n (r := 12) hC 0 dX6_litBits_11 rfl rfl ?_
      refine V.iload_n (r := 13) hC 2 dX6_litBits_12 rfl rfl ?_
      obtain ⟨q2, hq3, h⟩ := Option.bind_eq_some_iff.mp h
      try dsimp only at h
      refine V.invVi (as := [.inl x2]) (st := [.inl x1]) (r := 16) hC (met6_isLit hp hq3) yv_X6_isLit ml_RX6_79 (shp_0 _ hp) rfl rfl dX6_litBits_13 (by decide) rfl rfl rfl rfl ?_
      refine V.if_eq (tgt := 25) (r := 19) hC dX6_litBits_16 (by decide) rfl (fun c4 => ?_) (fun c4 => ?_)
      · rw [if_pos c4] at h
        refine V.iconst (r := 26) hC dX6_litBits_25 ki_0 rfl ?_
        refine V.pick (lv' := [(0, .inr (plc p + 0)), (2, .inl x2)]) [0, 2] rfl ?_
        exact v6_litBits_b26 hp hC hR ih _ _ _ _ h
      · rw [if_neg c4] at h
        refine V.iconst (r := 20) hC dX6_litBits_19 ki_1 rfl ?_
        refine V.iload_n (r := 21) hC 2 dX6_litBits_20 rfl rfl ?_
        refine V.ishl (r := 22) hC dX6_litBits_21 rfl ?_
        refine V.goto (tgt := 26) hC dX6_litBits_22 (by decide) ?_
        refine V.pick (lv' := [(0, .inr (plc p + 0)), (2, .inl x2)]) [0, 2] rfl ?_
        exact v6_litBits_b26 hp hC hR ih _ _ _ _ h
def g6_litBits (p : Nat) (M : xMem) : Option (Int32 × xMem) :=
g6_litBits_b4 p 5000 (0 : Int32) (0 : Int32) M
set_option maxHeartbeats 4000000 in
set_option maxRecDepth 20000 in
theorem v6_litBits {G : xG} {p : Nat} (hp : p < 7) (hC : xC G cX6_litBits 3 RX6 2) {R : Int32 × xMem} (hR : xRI G cX6_litBits 3 R) {M : xMem} (h : g6_litBits p M = some R) : V G 3 0 [(0, .inr (plc p + 0))] [] M := by
  unfold g6_litBits at h
  refine V.iconst (r := 1) hC dX6_litBits_0 ki_0 rfl ?_
  refine V.ist_n (lv' := [(0, .inr (plc p + 0)), (1, .inl (0 : Int32))]) (r := 2) hC dX6_litBits_1 rfl rfl rfl ?_
  refine V.iconst (r := 3) hC dX6_litBits_2 ki_0 rfl ?_
  refine V.ist_n (lv' := [(0, .inr (plc p + 0)), (1, .inl (0 : Int32)), (2, .inl (0 : Int32))]) (r := 4) hC dX6_litBits_3 rfl rfl rfl ?_
  exact v6_litBits_b4 hp hC hR  5000 _ _ _ h
theorem met6_litBits {p : Nat} (hp : p < 7) {R : Int32 × xMem} {M : xMem} (h : g6_litBits p M = some R) : xMet yX6_litBits cX6_litBits 3 (some .int) 2 [.inr (plc p + 0)] M (some R.1) R.2 := xMet.ofI (by decide +kernel) (Nat.le_of_ble_eq_true rfl) fun _ hC hR => v6_litBits hp hC hR h
def g6_squareOfLamp (p : Nat) (a0 : Int32) (M : xMem) : Option (Int32 × xMem) :=
if a0 < 0 then
(some ((0 : Int32), M))
else
(if a0 < (18 : Int32) then
(if (12 : Int32) ≤ a0 then
(if (a0 - (12 : Int32)) < 0 ∨ 6 ≤ (a0 - (12 : Int32)).toNatClampNeg then none else
some (M p (274 + (a0 - (12 : Int32)).toNatClampNeg), M))
else
(if a0 < 0 ∨ 12 ≤ a0.toNatClampNeg then none else
some (M p (208 + a0.toNatClampNeg), M)))
else
(some ((0 : Int32), M)))
set_option maxHeartbeats 4000000 in
set_option maxRecDepth 20000 in
theorem v6_squareOfLamp {G : xG} {p : Nat} (hp : p < 7) (hC : xC G cX6_squareOfLamp 2 RX6 0) {R : Int32 × xMem} (hR : xRI G cX6_squareOfLamp 2 R) {a0 : Int32} {M : xMem} (h : g6_squareOfLamp p a0 M = some R) : V G 2 0 [(0, .inr (plc p + 0)), (1, .inl a0)] [] M := by
  unfold g6_squareOfLamp at h
  refine V.iload_n (r := 1) hC 1 dX6_squareOfLamp_0 rfl rfl ?_
  refine V.if_lt (tgt := 10) (r := 4) hC dX6_squareOfLamp_1 (by decide) rfl (fun c1 => ?_) (fun c1 => ?_)
  · rw [if_pos c1] at h
    refine V.iconst (r := 11) hC dX6_squareOfLamp_10 ki_0 rfl ?_
    cases h
    exact hR _ _ dX6_squareOfLamp_11
  · rw [if_neg c1] at h
    refine V.iload_n (r := 5) hC 1 dX6_squareOfLamp_4 rfl rfl ?_
    refine V.bipush (r := 7) hC dX6_squareOfLamp_5 kb_18 rfl ?_
    refine V.icmp_lt (tgt := 12) (r := 10) hC dX6_squareOfLamp_7 (by decide) rfl (fun c2 => ?_) (fun c2 => ?_)
    · rw [if_pos c2] at h
      refine V.iload_n (r := 13) hC 1 dX6_squareOfLamp_12 rfl rfl ?_
      refine V.bipush (r := 15) hC dX6_squareOfLamp_13 kb_12 rfl ?_
      refine V.icmp_ge (tgt := 30) (r := 18) hC dX6_squareOfLamp_15 (by decide) rfl (fun c3 => ?_) (fun c3 => ?_)
      · rw [if_pos c3] at h
        refine V.aload_n (r := 31) hC 0 dX6_squareOfLamp_30 rfl rfl ?_
        refine V.getR (k' := plc p + 9) (j := 2) (r := 34) hC xcl_6 (shp_0 _ hp) fl_RX6_25 dX6_squareOfLamp_31 (by decide) rfl rfl ?_
        refine V.getR (k' := plc p + 11) (j := 1) (r := 37) hC xcl_1 (shp_9 _ hp) fl_RX6_71 dX6_squareOfLamp_34 (by decide) rfl rfl ?_
        refine V.iload_n (r := 38) hC 1 dX6_squareOfLamp_37 rfl rfl ?_
        refine V.bipush (r := 40) hC dX6_squareOfLamp_38 kb_12 rfl ?_
        refine V.isub (r := 41) hC dX6_squareOfLamp_40 rfl ?_
        by_cases c4 : (a0 - (12 : Int32)) < 0 ∨ 6 ≤ (a0 - (12 : Int32)).toNatClampNeg
        · rw [if_pos c4] at h; cases h
        rw [if_neg c4] at h
        refine V.iald (t := (274 + (a0 - (12 : Int32)).toNatClampNeg)) (r := 42) hC (shp_11 _ hp) dX6_squareOfLamp_41 c4 rfl rfl ?_
        cases h
        exact hR _ _ dX6_squareOfLamp_42
      · rw [if_neg c3] at h
        refine V.aload_n (r := 19) hC 0 dX6_squareOfLamp_18 rfl rfl ?_
        refine V.getR (k' := plc p + 2) (j := 1) (r := 22) hC xcl_6 (shp_0 _ hp) fl_RX6_18 dX6_squareOfLamp_19 (by decide) rfl rfl ?_
        refine V.getR (k' := plc p + 4) (j := 1) (r := 25) hC xcl_2 (shp_2 _ hp) fl_RX6_65 dX6_squareOfLamp_22 (by decide) rfl rfl ?_
        refine V.iload_n (r := 26) hC 1 dX6_squareOfLamp_25 rfl rfl ?_
        by_cases c5 : a0 < 0 ∨ 12 ≤ a0.toNatClampNeg
        · rw [if_pos c5] at h; cases h
        rw [if_neg c5] at h
        refine V.iald (t := (208 + a0.toNatClampNeg)) (r := 27) hC (shp_4 _ hp) dX6_squareOfLamp_26 c5 rfl rfl ?_
        refine V.goto (tgt := 42) hC dX6_squareOfLamp_27 (by decide) ?_
        cases h
        exact hR _ _ dX6_squareOfLamp_42
    · rw [if_neg c2] at h
      refine V.iconst (r := 11) hC dX6_squareOfLamp_10 ki_0 rfl ?_
      cases h
      exact hR _ _ dX6_squareOfLamp_11
theorem met6_squareOfLamp {p : Nat} (hp : p < 7) {R : Int32 × xMem} {a0 : Int32} {M : xMem} (h : g6_squareOfLamp p a0 M = some R) : xMet yX6_squareOfLamp cX6_squareOfLamp 2 (some .int) 0 [.inr (plc p + 0), .inl a0] M (some R.1) R.2 := xMet.ofI (by decide +kernel) (Nat.le_of_ble_eq_true rfl) fun _ hC hR => v6_squareOfLamp hp hC hR h
def g6_kindOfLamp (p : Nat) (a0 : Int32) (M : xMem) : Option (Int32 × xMem) :=
if a0 < 0 then
(some ((5 : Int32), M))
else
(if (12 : Int32) ≤ a0 then
(some ((5 : Int32), M))
else
(if a0 < 0 ∨ 12 ≤ a0.toNatClampNeg then none else
some (M p (220 + a0.toNatClampNeg), M)))
set_option maxHeartbeats 4000000 in
set_option maxRecDepth 20000 in
theorem v6_kindOfLamp {G : xG} {p : Nat} (hp : p < 7) (hC : xC G cX6_kindOfLamp 2 RX6 0) {R : Int32 × xMem} (hR : xRI G cX6_kindOfLamp 2 R) {a0 : Int32} {M : xMem} (h : g6_kindOfLamp p a0 M = some R) : V G 2 0 [(0, .inr (plc p + 0)), (1, .inl a0)] [] M := by
  unfold g6_kindOfLamp at h
  refine V.iload_n (r := 1) hC 1 dX6_kindOfLamp_0 rfl rfl ?_
  refine V.if_lt (tgt := 22) (r := 4) hC dX6_kindOfLamp_1 (by decide) rfl (fun c1 => ?_) (fun c1 => ?_)
  · rw [if_pos c1] at h
    refine V.iconst (r := 23) hC dX6_kindOfLamp_22 ki_5 rfl ?_
    cases h
    exact hR _ _ dX6_kindOfLamp_23
  · rw [if_neg c1] at h
    refine V.iload_n (r := 5) hC 1 dX6_kindOfLamp_4 rfl rfl ?_
    refine V.bipush (r := 7) hC dX6_kindOfLamp_5 kb_12 rfl ?_
    refine V.icmp_ge (tgt := 22) (r := 10) hC dX6_kindOfLamp_7 (by decide) rfl (fun c2 => ?_) (fun c2 => ?_)
    · rw [if_pos c2] at h
      refine V.iconst (r := 23) hC dX6_kindOfLamp_22 ki_5 rfl ?_
      cases h
      exact hR _ _ dX6_kindOfLamp_23
    · rw [if_neg c2] at h
      refine V.aload_n (r := 11) hC 0 dX6_kindOfLamp_10 rfl rfl ?_
      refine V.getR (k' := plc p + 2) (j := 1) (r := 14) hC xcl_6 (shp_0 _ hp) fl_RX6_18 dX6_kindOfLamp_11 (by decide) rfl rfl ?_
      refine V.getR (k' := plc p + 5) (j := 2) (r := 17) hC xcl_2 (shp_2 _ hp) fl_RX6_80 dX6_kindOfLamp_14 (by decide) rfl rfl ?_
      refine V.iload_n (r := 18) hC 1 dX6_kindOfLamp_17 rfl rfl ?_
      by_cases c3 : a0 < 0 ∨ 12 ≤ a0.toNatClampNeg
      · rw [if_pos c3] at h; cases h
      rw [if_neg c3] at h
      refine V.iald (t := (220 + a0.toNatClampNeg)) (r := 19) hC (shp_5 _ hp) dX6_kindOfLamp_18 c3 rfl rfl ?_
      refine V.goto (tgt := 23) hC dX6_kindOfLamp_19 (by decide) ?_
      cases h
      exact hR _ _ dX6_kindOfLamp_23
theorem met6_kindOfLamp {p : Nat} (hp : p < 7) {R : Int32 × xMem} {a0 : Int32} {M : xMem} (h : g6_kindOfLamp p a0 M = some R) : xMet yX6_kindOfLamp cX6_kindOfLamp 2 (some .int) 0 [.inr (plc p + 0), .inl a0] M (some R.1) R.2 := xMet.ofI (by decide +kernel) (Nat.le_of_ble_eq_true rfl) fun _ hC hR => v6_kindOfLamp hp hC hR h
def g6_isClouded (p : Nat) (M : xMem) : Option (Int32 × xMem) :=
if (((M p 329) >>> ((M p 328) &&& 31)) &&& (1 : Int32)) = (1 : Int32) then
(some ((1 : Int32), M))
else
(some ((0 : Int32), M))
set_option maxHeartbeats 4000000 in
set_option maxRecDepth 20000 in
theorem v6_isClouded {G : xG} {p : Nat} (hp : p < 7) (hC : xC G cX6_isClouded 1 RX6 0) {R : Int32 × xMem} (hR : xRZ G cX6_isClouded 1 R) {M : xMem} (h : g6_isClouded p M = some R) : V G 1 0 [(0, .inr (plc p + 0))] [] M := by
  unfold g6_isClouded at h
  refine V.aload_n (r := 1) hC 0 dX6_isClouded_0 rfl rfl ?_
  refine V.getI (b := p) (i := 329) (j := 7) (r := 4) hC xcl_6 (shp_0 _ hp) fl_RX6_42 dX6_isClouded_1 (by decide) rfl rfl ?_
  refine V.aload_n (r := 5) hC 0 dX6_isClouded_4 rfl rfl ?_
  refine V.getI (b := p) (i := 328) (j := 6) (r := 8) hC xcl_6 (shp_0 _ hp) fl_RX6_39 dX6_isClouded_5 (by decide) rfl rfl ?_
  refine V.ishr (r := 9) hC dX6_isClouded_8 rfl ?_
  refine V.iconst (r := 10) hC dX6_isClouded_9 ki_1 rfl ?_
  refine V.iand (r := 11) hC dX6_isClouded_10 rfl ?_
  refine V.iconst (r := 12) hC dX6_isClouded_11 ki_1 rfl ?_
  refine V.icmp_ne (tgt := 19) (r := 15) hC dX6_isClouded_12 (by decide) rfl (fun c1 => ?_) (fun c1 => ?_)
  · rw [if_neg c1] at h
    refine V.iconst (r := 20) hC dX6_isClouded_19 ki_0 rfl ?_
    cases h
    exact hR _ _ (Or.inl rfl) dX6_isClouded_20
  · rw [if_pos c1] at h
    refine V.iconst (r := 16) hC dX6_isClouded_15 ki_1 rfl ?_
    refine V.goto (tgt := 20) hC dX6_isClouded_16 (by decide) ?_
    cases h
    exact hR _ _ (Or.inr rfl) dX6_isClouded_20
theorem met6_isClouded {p : Nat} (hp : p < 7) {R : Int32 × xMem} {M : xMem} (h : g6_isClouded p M = some R) : xMet yX6_isClouded cX6_isClouded 1 (some .boolean) 0 [.inr (plc p + 0)] M (some R.1) R.2 := xMet.ofZ (by decide +kernel) (Nat.le_of_ble_eq_true rfl) fun _ hC hR => v6_isClouded hp hC hR h
def g6_draw (p : Nat) (M : xMem) : Option (Int32 × xMem) :=
mset (upM M p 330 ((((25173 : Int32) * (M p 330)) + (13849 : Int32)) &&& (65535 : Int32))) fun M1 =>
some ((M1 p 330) - (M1 p 330) / (10 : Int32) * (10 : Int32), M1)
set_option maxHeartbeats 4000000 in
set_option maxRecDepth 20000 in
theorem v6_draw {G : xG} {p : Nat} (hp : p < 7) (hC : xC G cX6_draw 1 RX6 0) {R : Int32 × xMem} (hR : xRI G cX6_draw 1 R) {M : xMem} (h : g6_draw p M = some R) : V G 1 0 [(0, .inr (plc p + 0))] [] M := by
  unfold g6_draw at h
  refine V.aload_n (r := 1) hC 0 dX6_draw_0 rfl rfl ?_
  refine V.sipush (r := 4) hC dX6_draw_1 ks_25173 rfl ?_
  refine V.aload_n (r := 5) hC 0 dX6_draw_4 rfl rfl ?_
  refine V.getI (b := p) (i := 330) (j := 8) (r := 8) hC xcl_6 (shp_0 _ hp) fl_RX6_45 dX6_draw_5 (by decide) rfl rfl ?_
  refine V.imul (r := 9) hC dX6_draw_8 rfl ?_
  refine V.sipush (r := 12) hC dX6_draw_9 ks_13849 rfl ?_
  refine V.iadd (r := 13) hC dX6_draw_12 rfl ?_
  refine V.ldc (r := 15) hC dX6_draw_13 co_RX6_83 rfl ?_
  refine V.iand (r := 16) hC dX6_draw_15 rfl ?_
  rw [mset_eq] at h
  refine V.putI (b := p) (i := 330) (j := 8) (ty := .int) (r := 19) hC xcl_6 xcp_6 (shp_0 _ hp) fl_RX6_45 dX6_draw_16 (by decide) rfl rfl (by decide +kernel) rfl rfl rfl ?_
  generalize upM M p 330 ((((25173 : Int32) * (M p 330)) + (13849 : Int32)) &&& (65535 : Int32)) = M1 at h ⊢
  refine V.aload_n (r := 20) hC 0 dX6_draw_19 rfl rfl ?_
  refine V.getI (b := p) (i := 330) (j := 8) (r := 23) hC xcl_6 (shp_0 _ hp) fl_RX6_45 dX6_draw_20 (by decide) rfl rfl ?_
  refine V.bipush (r := 25) hC dX6_draw_23 kb_10 rfl ?_
  refine V.irem (r := 26) hC dX6_draw_25 (by decide) rfl ?_
  cases h
  exact hR _ _ dX6_draw_26
theorem met6_draw {p : Nat} (hp : p < 7) {R : Int32 × xMem} {M : xMem} (h : g6_draw p M = some R) : xMet yX6_draw cX6_draw 1 (some .int) 0 [.inr (plc p + 0)] M (some R.1) R.2 := xMet.ofI (by decide +kernel) (Nat.le_of_ble_eq_true rfl) fun _ hC hR => v6_draw hp hC hR h
def g6_hoursLeft (p : Nat) (M : xMem) : Option (Int32 × xMem) :=
some ((8 : Int32) - (M p 328), M)
set_option maxHeartbeats 4000000 in
set_option maxRecDepth 20000 in
theorem v6_hoursLeft {G : xG} {p : Nat} (hp : p < 7) (hC : xC G cX6_hoursLeft 1 RX6 0) {R : Int32 × xMem} (hR : xRI G cX6_hoursLeft 1 R) {M : xMem} (h : g6_hoursLeft p M = some R) : V G 1 0 [(0, .inr (plc p + 0))] [] M := by
  unfold g6_hoursLeft at h
  refine V.bipush (r := 2) hC dX6_hoursLeft_0 kb_8 rfl ?_
  refine V.aload_n (r := 3) hC 0 dX6_hoursLeft_2 rfl rfl ?_
  refine V.getI (b := p) (i := 328) (j := 6) (r := 6) hC xcl_6 (shp_0 _ hp) fl_RX6_39 dX6_hoursLeft_3 (by decide) rfl rfl ?_
  refine V.isub (r := 7) hC dX6_hoursLeft_6 rfl ?_
  cases h
  exact hR _ _ dX6_hoursLeft_7
theorem met6_hoursLeft {p : Nat} (hp : p < 7) {R : Int32 × xMem} {M : xMem} (h : g6_hoursLeft p M = some R) : xMet yX6_hoursLeft cX6_hoursLeft 1 (some .int) 0 [.inr (plc p + 0)] M (some R.1) R.2 := xMet.ofI (by decide +kernel) (Nat.le_of_ble_eq_true rfl) fun _ hC hR => v6_hoursLeft hp hC hR h
def g6_endHour (p : Nat) (M : xMem) : Option (xMem) :=
mset (upM M p 328 ((M p 328) + (1 : Int32))) fun M1 =>
if (M1 p 328) < (8 : Int32) then
(some M1)
else
(mset (upM M1 p 328 (0 : Int32)) fun M3 =>
mset (upM M3 p 327 ((M3 p 327) + (1 : Int32))) fun M4 =>
mset (upM M4 p 329 (0 : Int32)) fun M5 =>
Option.bind (g2_endNight p M5) fun q6 =>
some q6)
set_option maxHeartbeats 4000000 in
set_option maxRecDepth 20000 in
theorem v6_endHour {G : xG} {p : Nat} (hp : p < 7) (hC : xC G cX6_endHour 1 RX6 2) {R : xMem} (hR : xRV G cX6_endHour 1 R) {M : xMem} (h : g6_endHour p M = some R) : V G 1 0 [(0, .inr (plc p + 0))] [] M := by
  unfold g6_endHour at h
  refine V.aload_n (r := 1) hC 0 dX6_endHour_0 rfl rfl ?_
  refine V.dup (r := 2) hC dX6_endHour_1 rfl ?_
  refine V.getI (b := p) (i := 328) (j := 6) (r := 5) hC xcl_6 (shp_0 _ hp) fl_RX6_39 dX6_endHour_2 (by decide) rfl rfl ?_
  refine V.iconst (r := 6) hC dX6_endHour_5 ki_1 rfl ?_
  refine V.iadd (r := 7) hC dX6_endHour_6 rfl ?_
  rw [mset_eq] at h
  refine V.putI (b := p) (i := 328) (j := 6) (ty := .int) (r := 10) hC xcl_6 xcp_6 (shp_0 _ hp) fl_RX6_39 dX6_endHour_7 (by decide) rfl rfl (by decide +kernel) rfl rfl rfl ?_
  generalize upM M p 328 ((M p 328) + (1 : Int32)) = M1 at h ⊢
  refine V.aload_n (r := 11) hC 0 dX6_endHour_10 rfl rfl ?_
  refine V.getI (b := p) (i := 328) (j := 6) (r := 14) hC xcl_6 (shp_0 _ hp) fl_RX6_39 dX6_endHour_11 (by decide) rfl rfl ?_
  refine V.bipush (r := 16) hC dX6_endHour_14 kb_8 rfl ?_
  refine V.icmp_lt (tgt := 46) (r := 19) hC dX6_endHour_16 (by decide) rfl (fun c2 => ?_) (fun c2 => ?_)
  · rw [if_pos c2] at h
    cases h
    exact hR _ _ dX6_endHour_46
  · rw [if_neg c2] at h
    refine V.aload_n (r := 20) hC 0 dX6_endHour_19 rfl rfl ?_
    refine V.iconst (r := 21) hC dX6_endHour_20 ki_0 rfl ?_
    rw [mset_eq] at h
    refine V.putI (b := p) (i := 328) (j := 6) (ty := .int) (r := 24) hC xcl_6 xcp_6 (shp_0 _ hp) fl_RX6_39 dX6_endHour_21 (by decide) rfl rfl (by decide +kernel) rfl rfl rfl ?_
    generalize upM M1 p 328 (0 : Int32) = M3 at h ⊢
    refine V.aload_n (r := 25) hC 0 dX6_endHour_24 rfl rfl ?_
    refine V.dup (r := 26) hC dX6_endHour_25 rfl ?_
    refine V.getI (b := p) (i := 327) (j := 5) (r := 29) hC xcl_6 (shp_0 _ hp) fl_RX6_35 dX6_endHour_26 (by decide) rfl rfl ?_
    refine V.iconst (r := 30) hC dX6_endHour_29 ki_1 rfl ?_
    refine V.iadd (r := 31) hC dX6_endHour_30 rfl ?_
    rw [mset_eq] at h
    refine V.putI (b := p) (i := 327) (j := 5) (ty := .int) (r := 34) hC xcl_6 xcp_6 (shp_0 _ hp) fl_RX6_35 dX6_endHour_31 (by decide) rfl rfl (by decide +kernel) rfl rfl rfl ?_
    generalize upM M3 p 327 ((M3 p 327) + (1 : Int32)) = M4 at h ⊢
    refine V.aload_n (r := 35) hC 0 dX6_endHour_34 rfl rfl ?_
    refine V.iconst (r := 36) hC dX6_endHour_35 ki_0 rfl ?_
    rw [mset_eq] at h
    refine V.putI (b := p) (i := 329) (j := 7) (ty := .int) (r := 39) hC xcl_6 xcp_6 (shp_0 _ hp) fl_RX6_42 dX6_endHour_36 (by decide) rfl rfl (by decide +kernel) rfl rfl rfl ?_
    generalize upM M4 p 329 (0 : Int32) = M5 at h ⊢
    refine V.aload_n (r := 40) hC 0 dX6_endHour_39 rfl rfl ?_
    refine V.getR (k' := plc p + 2) (j := 1) (r := 43) hC xcl_6 (shp_0 _ hp) fl_RX6_18 dX6_endHour_40 (by decide) rfl rfl ?_
    obtain ⟨q6, hq7, h⟩ := Option.bind_eq_some_iff.mp h
    try dsimp only at h
    refine V.invVv (as := []) (st := []) (r := 46) hC (met2_endNight hp hq7) yv_X2_endNight ml_RX6_84 (shp_2 _ hp) rfl rfl dX6_endHour_43 (by decide) rfl rfl rfl rfl ?_
    cases h
    exact hR _ _ dX6_endHour_46
theorem met6_endHour {p : Nat} (hp : p < 7) {R : xMem} {M : xMem} (h : g6_endHour p M = some R) : xMet yX6_endHour cX6_endHour 1 none 2 [.inr (plc p + 0)] M none R := xMet.ofV (by decide +kernel) (Nat.le_of_ble_eq_true rfl) fun _ hC hR => v6_endHour hp hC hR h
def g3_clear (M : xMem) : Option (xMem) :=
mset (upM M 32 0 (0 : Int32)) fun M1 =>
mset (upM M1 36 0 (0 : Int32)) fun M2 =>
some M2
set_option maxHeartbeats 4000000 in
set_option maxRecDepth 20000 in
theorem v3_clear {G : xG} (hC : xC G cX3_clear 1 RX3 0) {R : xMem} (hR : xRV G cX3_clear 1 R) {M : xMem} (h : g3_clear M = some R) : V G 1 0 [(0, .inr 129)] [] M := by
  unfold g3_clear at h
  refine V.aload_n (r := 1) hC 0 dX3_clear_0 rfl rfl ?_
  refine V.iconst (r := 2) hC dX3_clear_1 ki_0 rfl ?_
  rw [mset_eq] at h
  refine V.putI (b := 32) (i := 0) (j := 2) (ty := .int) (r := 5) hC xcl_3 xcp_3 sh_129 fl_RX3_18 dX3_clear_2 (by decide) rfl rfl (by decide +kernel) rfl rfl rfl ?_
  generalize upM M 32 0 (0 : Int32) = M1 at h ⊢
  refine V.aload_n (r := 6) hC 0 dX3_clear_5 rfl rfl ?_
  refine V.iconst (r := 7) hC dX3_clear_6 ki_0 rfl ?_
  rw [mset_eq] at h
  refine V.putI (b := 36) (i := 0) (j := 6) (ty := .int) (r := 10) hC xcl_3 xcp_3 sh_129 fl_RX3_31 dX3_clear_7 (by decide) rfl rfl (by decide +kernel) rfl rfl rfl ?_
  generalize upM M1 36 0 (0 : Int32) = M2 at h ⊢
  cases h
  exact hR _ _ dX3_clear_10
theorem met3_clear {R : xMem} {M : xMem} (h : g3_clear M = some R) : xMet yX3_clear cX3_clear 1 none 0 [.inr 129] M none R := xMet.ofV (by decide +kernel) (Nat.le_of_ble_eq_true rfl) fun _ hC hR => v3_clear  hC hR h
def g3_become (M : xMem) : Option (xMem) :=
mset (cpM M 20 0 240 30 0) fun M1 =>
mset (cpM M1 21 0 240 31 0) fun M2 =>
mset (cpM M2 23 0 16 33 0) fun M3 =>
mset (cpM M3 24 0 16 34 0) fun M4 =>
mset (cpM M4 25 0 16 35 0) fun M5 =>
mset (upM M5 22 0 (M5 32 0)) fun M6 =>
mset (upM M6 26 0 (M6 36 0)) fun M7 =>
some M7
set_option maxHeartbeats 4000000 in
set_option maxRecDepth 20000 in
theorem v3_become {G : xG} (hC : xC G cX3_become 2 RX3 1) {R : xMem} (hR : xRV G cX3_become 2 R) {M : xMem} (h : g3_become M = some R) : V G 2 0 [(0, .inr 21), (1, .inr 129)] [] M := by
  unfold g3_become at h
  refine V.aload_n (r := 1) hC 1 dX3_become_0 rfl rfl ?_
  refine V.getR (k' := 130) (j := 0) (r := 4) hC xcl_3 sh_129 fl_RX3_9 dX3_become_1 (by decide) rfl rfl ?_
  refine V.iconst (r := 5) hC dX3_become_4 ki_0 rfl ?_
  refine V.aload_n (r := 6) hC 0 dX3_become_5 rfl rfl ?_
  refine V.getR (k' := 22) (j := 0) (r := 9) hC xcl_3 sh_21 fl_RX3_9 dX3_become_6 (by decide) rfl rfl ?_
  refine V.iconst (r := 10) hC dX3_become_9 ki_0 rfl ?_
  refine V.sipush (r := 13) hC dX3_become_10 ks_240 rfl ?_
  rw [mset_eq] at h
  refine V.acopyi (r := 16) hC ac_RX3_44 (by decide) (Nat.le_of_ble_eq_true rfl) sh_130 sh_22 (by decide) (by decide) dX3_become_13 rfl ?_
  generalize cpM M 20 0 240 30 0 = M1 at h ⊢
  refine V.aload_n (r := 17) hC 1 dX3_become_16 rfl rfl ?_
  refine V.getR (k' := 131) (j := 1) (r := 20) hC xcl_3 sh_129 fl_RX3_15 dX3_become_17 (by decide) rfl rfl ?_
  refine V.iconst (r := 21) hC dX3_become_20 ki_0 rfl ?_
  refine V.aload_n (r := 22) hC 0 dX3_become_21 rfl rfl ?_
  refine V.getR (k' := 23) (j := 1) (r := 25) hC xcl_3 sh_21 fl_RX3_15 dX3_become_22 (by decide) rfl rfl ?_
  refine V.iconst (r := 26) hC dX3_become_25 ki_0 rfl ?_
  refine V.sipush (r := 29) hC dX3_become_26 ks_240 rfl ?_
  rw [mset_eq] at h
  refine V.acopyi (r := 32) hC ac_RX3_44 (by decide) (Nat.le_of_ble_eq_true rfl) sh_131 sh_23 (by decide) (by decide) dX3_become_29 rfl ?_
  generalize cpM M1 21 0 240 31 0 = M2 at h ⊢
  refine V.aload_n (r := 33) hC 1 dX3_become_32 rfl rfl ?_
  refine V.getR (k' := 132) (j := 3) (r := 36) hC xcl_3 sh_129 fl_RX3_22 dX3_become_33 (by decide) rfl rfl ?_
  refine V.iconst (r := 37) hC dX3_become_36 ki_0 rfl ?_
  refine V.aload_n (r := 38) hC 0 dX3_become_37 rfl rfl ?_
  refine V.getR (k' := 24) (j := 3) (r := 41) hC xcl_3 sh_21 fl_RX3_22 dX3_become_38 (by decide) rfl rfl ?_
  refine V.iconst (r := 42) hC dX3_become_41 ki_0 rfl ?_
  refine V.bipush (r := 44) hC dX3_become_42 kb_16 rfl ?_
  rw [mset_eq] at h
  refine V.acopyi (r := 47) hC ac_RX3_44 (by decide) (Nat.le_of_ble_eq_true rfl) sh_132 sh_24 (by decide) (by decide) dX3_become_44 rfl ?_
  generalize cpM M2 23 0 16 33 0 = M3 at h ⊢
  refine V.aload_n (r := 48) hC 1 dX3_become_47 rfl rfl ?_
  refine V.getR (k' := 133) (j := 4) (r := 51) hC xcl_3 sh_129 fl_RX3_25 dX3_become_48 (by decide) rfl rfl ?_
  refine V.iconst (r := 52) hC dX3_become_51 ki_0 rfl ?_
  refine V.aload_n (r := 53) hC 0 dX3_become_52 rfl rfl ?_
  refine V.getR (k' := 25) (j := 4) (r := 56) hC xcl_3 sh_21 fl_RX3_25 dX3_become_53 (by decide) rfl rfl ?_
  refine V.iconst (r := 57) hC dX3_become_56 ki_0 rfl ?_
  refine V.bipush (r := 59) hC dX3_become_57 kb_16 rfl ?_
  rw [mset_eq] at h
  refine V.acopyi (r := 62) hC ac_RX3_44 (by decide) (Nat.le_of_ble_eq_true rfl) sh_133 sh_25 (by decide) (by decide) dX3_become_59 rfl ?_
  generalize cpM M3 24 0 16 34 0 = M4 at h ⊢
  refine V.aload_n (r := 63) hC 1 dX3_become_62 rfl rfl ?_
  refine V.getR (k' := 134) (j := 5) (r := 66) hC xcl_3 sh_129 fl_RX3_28 dX3_become_63 (by decide) rfl rfl ?_
  refine V.iconst (r := 67) hC dX3_become_66 ki_0 rfl ?_
  refine V.aload_n (r := 68) hC 0 dX3_become_67 rfl rfl ?_
  refine V.getR (k' := 26) (j := 5) (r := 71) hC xcl_3 sh_21 fl_RX3_28 dX3_become_68 (by decide) rfl rfl ?_
  refine V.iconst (r := 72) hC dX3_become_71 ki_0 rfl ?_
  refine V.bipush (r := 74) hC dX3_become_72 kb_16 rfl ?_
  rw [mset_eq] at h
  refine V.acopyi (r := 77) hC ac_RX3_44 (by decide) (Nat.le_of_ble_eq_true rfl) sh_134 sh_26 (by decide) (by decide) dX3_become_74 rfl ?_
  generalize cpM M4 25 0 16 35 0 = M5 at h ⊢
  refine V.aload_n (r := 78) hC 0 dX3_become_77 rfl rfl ?_
  refine V.aload_n (r := 79) hC 1 dX3_become_78 rfl rfl ?_
  refine V.getI (b := 32) (i := 0) (j := 2) (r := 82) hC xcl_3 sh_129 fl_RX3_18 dX3_become_79 (by decide) rfl rfl ?_
  rw [mset_eq] at h
  refine V.putI (b := 22) (i := 0) (j := 2) (ty := .int) (r := 85) hC xcl_3 xcp_3 sh_21 fl_RX3_18 dX3_become_82 (by decide) rfl rfl (by decide +kernel) rfl rfl rfl ?_
  generalize upM M5 22 0 (M5 32 0) = M6 at h ⊢
  refine V.aload_n (r := 86) hC 0 dX3_become_85 rfl rfl ?_
  refine V.aload_n (r := 87) hC 1 dX3_become_86 rfl rfl ?_
  refine V.getI (b := 36) (i := 0) (j := 6) (r := 90) hC xcl_3 sh_129 fl_RX3_31 dX3_become_87 (by decide) rfl rfl ?_
  rw [mset_eq] at h
  refine V.putI (b := 26) (i := 0) (j := 6) (ty := .int) (r := 93) hC xcl_3 xcp_3 sh_21 fl_RX3_31 dX3_become_90 (by decide) rfl rfl (by decide +kernel) rfl rfl rfl ?_
  generalize upM M6 26 0 (M6 36 0) = M7 at h ⊢
  cases h
  exact hR _ _ dX3_become_93
theorem met3_become {R : xMem} {M : xMem} (h : g3_become M = some R) : xMet yX3_become cX3_become 2 none 1 [.inr 21, .inr 129] M none R := xMet.ofV (by decide +kernel) (Nat.le_of_ble_eq_true rfl) fun _ hC hR => v3_become  hC hR h
def g3_add (a0 a1 : Int32) (M : xMem) : Option (Int32 × xMem) :=
if (M 32 0) < 0 then
(some ((-1 : Int32), M))
else
(if (M 32 0) < (240 : Int32) then
(if (M 32 0) < 0 ∨ 240 ≤ (M 32 0).toNatClampNeg then none else
mset (upM M 30 (M 32 0).toNatClampNeg a0) fun M4 =>
if (M4 32 0) < 0 ∨ 240 ≤ (M4 32 0).toNatClampNeg then none else
mset (upM M4 31 (M4 32 0).toNatClampNeg a1) fun M6 =>
mset (upM M6 32 0 ((M6 32 0) + (1 : Int32))) fun M7 =>
some ((M7 32 0) - (1 : Int32), M7))
else
(some ((-1 : Int32), M)))
set_option maxHeartbeats 4000000 in
set_option maxRecDepth 20000 in
theorem v3_add {G : xG} (hC : xC G cX3_add 3 RX3 0) {R : Int32 × xMem} (hR : xRI G cX3_add 3 R) {a0 a1 : Int32} {M : xMem} (h : g3_add a0 a1 M = some R) : V G 3 0 [(0, .inr 129), (1, .inl a0), (2, .inl a1)] [] M := by
  unfold g3_add at h
  refine V.aload_n (r := 1) hC 0 dX3_add_0 rfl rfl ?_
  refine V.getI (b := 32) (i := 0) (j := 2) (r := 4) hC xcl_3 sh_129 fl_RX3_18 dX3_add_1 (by decide) rfl rfl ?_
  refine V.if_lt (tgt := 17) (r := 7) hC dX3_add_4 (by decide) rfl (fun c1 => ?_) (fun c1 => ?_)
  · rw [if_pos c1] at h
    refine V.iconst (r := 18) hC dX3_add_17 ki_m1 rfl ?_
    cases h
    exact hR _ _ dX3_add_18
  · rw [if_neg c1] at h
    refine V.aload_n (r := 8) hC 0 dX3_add_7 rfl rfl ?_
    refine V.getI (b := 32) (i := 0) (j := 2) (r := 11) hC xcl_3 sh_129 fl_RX3_18 dX3_add_8 (by decide) rfl rfl ?_
    refine V.sipush (r := 14) hC dX3_add_11 ks_240 rfl ?_
    refine V.icmp_lt (tgt := 19) (r := 17) hC dX3_add_14 (by decide) rfl (fun c2 => ?_) (fun c2 => ?_)
    · rw [if_pos c2] at h
      refine V.aload_n (r := 20) hC 0 dX3_add_19 rfl rfl ?_
      refine V.getR (k' := 130) (j := 0) (r := 23) hC xcl_3 sh_129 fl_RX3_9 dX3_add_20 (by decide) rfl rfl ?_
      refine V.aload_n (r := 24) hC 0 dX3_add_23 rfl rfl ?_
      refine V.getI (b := 32) (i := 0) (j := 2) (r := 27) hC xcl_3 sh_129 fl_RX3_18 dX3_add_24 (by decide) rfl rfl ?_
      refine V.iload_n (r := 28) hC 1 dX3_add_27 rfl rfl ?_
      by_cases c3 : (M 32 0) < 0 ∨ 240 ≤ (M 32 0).toNatClampNeg
      · rw [if_pos c3] at h; cases h
      rw [if_neg c3] at h
      rw [mset_eq] at h
      refine V.iast (t := (M 32 0).toNatClampNeg) (r := 29) hC sh_130 dX3_add_28 c3 (Nat.zero_add _) rfl ?_
      generalize upM M 30 (M 32 0).toNatClampNeg a0 = M4 at h ⊢
      refine V.aload_n (r := 30) hC 0 dX3_add_29 rfl rfl ?_
      refine V.getR (k' := 131) (j := 1) (r := 33) hC xcl_3 sh_129 fl_RX3_15 dX3_add_30 (by decide) rfl rfl ?_
      refine V.aload_n (r := 34) hC 0 dX3_add_33 rfl rfl ?_
      refine V.getI (b := 32) (i := 0) (j := 2) (r := 37) hC xcl_3 sh_129 fl_RX3_18 dX3_add_34 (by decide) rfl rfl ?_
      refine V.iload_n (r := 38) hC 2 dX3_add_37 rfl rfl ?_
      by_cases c5 : (M4 32 0) < 0 ∨ 240 ≤ (M4 32 0).toNatClampNeg
      · rw [if_pos c5] at h; cases h
      rw [if_neg c5] at h
      rw [mset_eq] at h
      refine V.iast (t := (M4 32 0).toNatClampNeg) (r := 39) hC sh_131 dX3_add_38 c5 (Nat.zero_add _) rfl ?_
      generalize upM M4 31 (M4 32 0).toNatClampNeg a1 = M6 at h ⊢
      refine V.aload_n (r := 40) hC 0 dX3_add_39 rfl rfl ?_
      refine V.dup (r := 41) hC dX3_add_40 rfl ?_
      refine V.getI (b := 32) (i := 0) (j := 2) (r := 44) hC xcl_3 sh_129 fl_RX3_18 dX3_add_41 (by decide) rfl rfl ?_
      refine V.iconst (r := 45) hC dX3_add_44 ki_1 rfl ?_
      refine V.iadd (r := 46) hC dX3_add_45 rfl ?_
      rw [mset_eq] at h
      refine V.putI (b := 32) (i := 0) (j := 2) (ty := .int) (r := 49) hC xcl_3 xcp_3 sh_129 fl_RX3_18 dX3_add_46 (by decide) rfl rfl (by decide +kernel) rfl rfl rfl ?_
      generalize upM M6 32 0 ((M6 32 0) + (1 : Int32)) = M7 at h ⊢
      refine V.aload_n (r := 50) hC 0 dX3_add_49 rfl rfl ?_
      refine V.getI (b := 32) (i := 0) (j := 2) (r := 53) hC xcl_3 sh_129 fl_RX3_18 dX3_add_50 (by decide) rfl rfl ?_
      refine V.iconst (r := 54) hC dX3_add_53 ki_1 rfl ?_
      refine V.isub (r := 55) hC dX3_add_54 rfl ?_
      cases h
      exact hR _ _ dX3_add_55
    · rw [if_neg c2] at h
      refine V.iconst (r := 18) hC dX3_add_17 ki_m1 rfl ?_
      cases h
      exact hR _ _ dX3_add_18
theorem met3_add {R : Int32 × xMem} {a0 a1 : Int32} {M : xMem} (h : g3_add a0 a1 M = some R) : xMet yX3_add cX3_add 3 (some .int) 0 [.inr 129, .inl a0, .inl a1] M (some R.1) R.2 := xMet.ofI (by decide +kernel) (Nat.le_of_ble_eq_true rfl) fun _ hC hR => v3_add  hC hR h
def g3_aim (a0 : Int32) (M : xMem) : Option (xMem) :=
if a0 < 0 then
(some M)
else
(if (240 : Int32) ≤ a0 then
(some M)
else
(if a0 < 0 ∨ 240 ≤ a0.toNatClampNeg then none else
mset (upM M 31 a0.toNatClampNeg (M 32 0)) fun M4 =>
some M4))
set_option maxHeartbeats 4000000 in
set_option maxRecDepth 20000 in
theorem v3_aim {G : xG} (hC : xC G cX3_aim 2 RX3 0) {R : xMem} (hR : xRV G cX3_aim 2 R) {a0 : Int32} {M : xMem} (h : g3_aim a0 M = some R) : V G 2 0 [(0, .inr 129), (1, .inl a0)] [] M := by
  unfold g3_aim at h
  refine V.iload_n (r := 1) hC 1 dX3_aim_0 rfl rfl ?_
  refine V.if_lt (tgt := 21) (r := 4) hC dX3_aim_1 (by decide) rfl (fun c1 => ?_) (fun c1 => ?_)
  · rw [if_pos c1] at h
    cases h
    exact hR _ _ dX3_aim_21
  · rw [if_neg c1] at h
    refine V.iload_n (r := 5) hC 1 dX3_aim_4 rfl rfl ?_
    refine V.sipush (r := 8) hC dX3_aim_5 ks_240 rfl ?_
    refine V.icmp_ge (tgt := 21) (r := 11) hC dX3_aim_8 (by decide) rfl (fun c2 => ?_) (fun c2 => ?_)
    · rw [if_pos c2] at h
      cases h
      exact hR _ _ dX3_aim_21
    · rw [if_neg c2] at h
      refine V.aload_n (r := 12) hC 0 dX3_aim_11 rfl rfl ?_
      refine V.getR (k' := 131) (j := 1) (r := 15) hC xcl_3 sh_129 fl_RX3_15 dX3_aim_12 (by decide) rfl rfl ?_
      refine V.iload_n (r := 16) hC 1 dX3_aim_15 rfl rfl ?_
      refine V.aload_n (r := 17) hC 0 dX3_aim_16 rfl rfl ?_
      refine V.getI (b := 32) (i := 0) (j := 2) (r := 20) hC xcl_3 sh_129 fl_RX3_18 dX3_aim_17 (by decide) rfl rfl ?_
      by_cases c3 : a0 < 0 ∨ 240 ≤ a0.toNatClampNeg
      · rw [if_pos c3] at h; cases h
      rw [if_neg c3] at h
      rw [mset_eq] at h
      refine V.iast (t := a0.toNatClampNeg) (r := 21) hC sh_131 dX3_aim_20 c3 (Nat.zero_add _) rfl ?_
      generalize upM M 31 a0.toNatClampNeg (M 32 0) = M4 at h ⊢
      cases h
      exact hR _ _ dX3_aim_21
theorem met3_aim {R : xMem} {a0 : Int32} {M : xMem} (h : g3_aim a0 M = some R) : xMet yX3_aim cX3_aim 2 none 0 [.inr 129, .inl a0] M none R := xMet.ofV (by decide +kernel) (Nat.le_of_ble_eq_true rfl) fun _ hC hR => v3_aim  hC hR h
def g3_addClause (a0 a1 a2 : Int32) (M : xMem) : Option (xMem) :=
if (M 36 0) < 0 then
(some M)
else
(if (16 : Int32) ≤ (M 36 0) then
(some M)
else
(if (M 36 0) < 0 ∨ 16 ≤ (M 36 0).toNatClampNeg then none else
mset (upM M 33 (M 36 0).toNatClampNeg a0) fun M4 =>
if (M4 36 0) < 0 ∨ 16 ≤ (M4 36 0).toNatClampNeg then none else
mset (upM M4 34 (M4 36 0).toNatClampNeg a1) fun M6 =>
if (M6 36 0) < 0 ∨ 16 ≤ (M6 36 0).toNatClampNeg then none else
mset (upM M6 35 (M6 36 0).toNatClampNeg a2) fun M8 =>
mset (upM M8 36 0 ((M8 36 0) + (1 : Int32))) fun M9 =>
some M9))
set_option maxHeartbeats 4000000 in
set_option maxRecDepth 20000 in
theorem v3_addClause {G : xG} (hC : xC G cX3_addClause 4 RX3 0) {R : xMem} (hR : xRV G cX3_addClause 4 R) {a0 a1 a2 : Int32} {M : xMem} (h : g3_addClause a0 a1 a2 M = some R) : V G 4 0 [(0, .inr 129), (1, .inl a0), (2, .inl a1), (3, .inl a2)] [] M := by
  unfold g3_addClause at h
  refine V.aload_n (r := 1) hC 0 dX3_addClause_0 rfl rfl ?_
  refine V.getI (b := 36) (i := 0) (j := 6) (r := 4) hC xcl_3 sh_129 fl_RX3_31 dX3_addClause_1 (by decide) rfl rfl ?_
  refine V.if_lt (tgt := 56) (r := 7) hC dX3_addClause_4 (by decide) rfl (fun c1 => ?_) (fun c1 => ?_)
  · rw [if_pos c1] at h
    cases h
    exact hR _ _ dX3_addClause_56
  · rw [if_neg c1] at h
    refine V.aload_n (r := 8) hC 0 dX3_addClause_7 rfl rfl ?_
    refine V.getI (b := 36) (i := 0) (j := 6) (r := 11) hC xcl_3 sh_129 fl_RX3_31 dX3_addClause_8 (by decide) rfl rfl ?_
    refine V.bipush (r := 13) hC dX3_addClause_11 kb_16 rfl ?_
    refine V.icmp_ge (tgt := 56) (r := 16) hC dX3_addClause_13 (by decide) rfl (fun c2 => ?_) (fun c2 => ?_)
    · rw [if_pos c2] at h
      cases h
      exact hR _ _ dX3_addClause_56
    · rw [if_neg c2] at h
      refine V.aload_n (r := 17) hC 0 dX3_addClause_16 rfl rfl ?_
      refine V.getR (k' := 132) (j := 3) (r := 20) hC xcl_3 sh_129 fl_RX3_22 dX3_addClause_17 (by decide) rfl rfl ?_
      refine V.aload_n (r := 21) hC 0 dX3_addClause_20 rfl rfl ?_
      refine V.getI (b := 36) (i := 0) (j := 6) (r := 24) hC xcl_3 sh_129 fl_RX3_31 dX3_addClause_21 (by decide) rfl rfl ?_
      refine V.iload_n (r := 25) hC 1 dX3_addClause_24 rfl rfl ?_
      by_cases c3 : (M 36 0) < 0 ∨ 16 ≤ (M 36 0).toNatClampNeg
      · rw [if_pos c3] at h; cases h
      rw [if_neg c3] at h
      rw [mset_eq] at h
      refine V.iast (t := (M 36 0).toNatClampNeg) (r := 26) hC sh_132 dX3_addClause_25 c3 (Nat.zero_add _) rfl ?_
      generalize upM M 33 (M 36 0).toNatClampNeg a0 = M4 at h ⊢
      refine V.aload_n (r := 27) hC 0 dX3_addClause_26 rfl rfl ?_
      refine V.getR (k' := 133) (j := 4) (r := 30) hC xcl_3 sh_129 fl_RX3_25 dX3_addClause_27 (by decide) rfl rfl ?_
      refine V.aload_n (r := 31) hC 0 dX3_addClause_30 rfl rfl ?_
      refine V.getI (b := 36) (i := 0) (j := 6) (r := 34) hC xcl_3 sh_129 fl_RX3_31 dX3_addClause_31 (by decide) rfl rfl ?_
      refine V.iload_n (r := 35) hC 2 dX3_addClause_34 rfl rfl ?_
      by_cases c5 : (M4 36 0) < 0 ∨ 16 ≤ (M4 36 0).toNatClampNeg
      · rw [if_pos c5] at h; cases h
      rw [if_neg c5] at h
      rw [mset_eq] at h
      refine V.iast (t := (M4 36 0).toNatClampNeg) (r := 36) hC sh_133 dX3_addClause_35 c5 (Nat.zero_add _) rfl ?_
      generalize upM M4 34 (M4 36 0).toNatClampNeg a1 = M6 at h ⊢
      refine V.aload_n (r := 37) hC 0 dX3_addClause_36 rfl rfl ?_
      refine V.getR (k' := 134) (j := 5) (r := 40) hC xcl_3 sh_129 fl_RX3_28 dX3_addClause_37 (by decide) rfl rfl ?_
      refine V.aload_n (r := 41) hC 0 dX3_addClause_40 rfl rfl ?_
      refine V.getI (b := 36) (i := 0) (j := 6) (r := 44) hC xcl_3 sh_129 fl_RX3_31 dX3_addClause_41 (by decide) rfl rfl ?_
      refine V.iload_n (r := 45) hC 3 dX3_addClause_44 rfl rfl ?_
      by_cases c7 : (M6 36 0) < 0 ∨ 16 ≤ (M6 36 0).toNatClampNeg
      · rw [if_pos c7] at h; cases h
      rw [if_neg c7] at h
      rw [mset_eq] at h
      refine V.iast (t := (M6 36 0).toNatClampNeg) (r := 46) hC sh_134 dX3_addClause_45 c7 (Nat.zero_add _) rfl ?_
      generalize upM M6 35 (M6 36 0).toNatClampNeg a2 = M8 at h ⊢
      refine V.aload_n (r := 47) hC 0 dX3_addClause_46 rfl rfl ?_
      refine V.dup (r := 48) hC dX3_addClause_47 rfl ?_
      refine V.getI (b := 36) (i := 0) (j := 6) (r := 51) hC xcl_3 sh_129 fl_RX3_31 dX3_addClause_48 (by decide) rfl rfl ?_
      refine V.iconst (r := 52) hC dX3_addClause_51 ki_1 rfl ?_
      refine V.iadd (r := 53) hC dX3_addClause_52 rfl ?_
      rw [mset_eq] at h
      refine V.putI (b := 36) (i := 0) (j := 6) (ty := .int) (r := 56) hC xcl_3 xcp_3 sh_129 fl_RX3_31 dX3_addClause_53 (by decide) rfl rfl (by decide +kernel) rfl rfl rfl ?_
      generalize upM M8 36 0 ((M8 36 0) + (1 : Int32)) = M9 at h ⊢
      cases h
      exact hR _ _ dX3_addClause_56
theorem met3_addClause {R : xMem} {a0 a1 a2 : Int32} {M : xMem} (h : g3_addClause a0 a1 a2 M = some R) : xMet yX3_addClause cX3_addClause 4 none 0 [.inr 129, .inl a0, .inl a1, .inl a2] M none R := xMet.ofV (by decide +kernel) (Nat.le_of_ble_eq_true rfl) fun _ hC hR => v3_addClause  hC hR h
def g3_run_b82 (s1 : Int32) (M : xMem) : Option (Int32 × xMem) :=
mset (upM M 29 0 s1) fun M33 =>
some ((1 : Int32), M33)
set_option maxHeartbeats 4000000 in
set_option maxRecDepth 20000 in
theorem v3_run_b82 {G : xG} (hC : xC G cX3_run 9 RX3 1) {R : Int32 × xMem} (hR : xRZ G cX3_run 9 R) (s1 : Int32) (M : xMem) (h : g3_run_b82 s1 M = some R) : V G 9 82 [] [.inl s1, .inr 21] M := by
  unfold g3_run_b82 at h
  rw [mset_eq] at h
  refine V.putI (b := 29) (i := 0) (j := 9) (ty := .int) (r := 85) hC xcl_3 xcp_3 sh_21 fl_RX3_41 dX3_run_82 (by decide) rfl rfl (by decide +kernel) rfl rfl rfl ?_
  generalize upM M 29 0 s1 = M33 at h ⊢
  refine V.iconst (r := 86) hC dX3_run_85 ki_1 rfl ?_
  cases h
  exact hR _ _ (Or.inr rfl) dX3_run_86
def g3_run_b81 (M : xMem) : Option (Int32 × xMem) :=
g3_run_b82 (0 : Int32) M
set_option maxHeartbeats 4000000 in
set_option maxRecDepth 20000 in
theorem v3_run_b81 {G : xG} (hC : xC G cX3_run 9 RX3 1) {R : Int32 × xMem} (hR : xRZ G cX3_run 9 R) (M : xMem) (h : g3_run_b81 M = some R) : V G 9 81 [] [.inr 21] M := by
  unfold g3_run_b81 at h
  refine V.iconst (r := 82) hC dX3_run_81 ki_0 rfl ?_
  exact v3_run_b82  hC hR  _ _ h
def g3_run_b423 (k19 : Int32 → Int32 → xMem → Option (Int32 × xMem)) (x3 x4 : Int32) (M : xMem) : Option (Int32 × xMem) :=
k19 x3 (x4 + (1 : Int32)) M
set_option maxHeartbeats 4000000 in
set_option maxRecDepth 20000 in
theorem v3_run_b423 {G : xG} (hC : xC G cX3_run 9 RX3 1) {R : Int32 × xMem} (hR : xRZ G cX3_run 9 R) {k19 : Int32 → Int32 → xMem → Option (Int32 × xMem)} (hk19 : ∀ (y3 y4 : Int32) (N : xMem), k19 y3 y4 N = some R → V G 9 19 [(0, .inr 21), (2, .inr 28), (3, .inl y3), (4, .inl y4)] [] N) (x3 x4 : Int32) (M : xMem) (h : g3_run_b423 k19 x3 x4 M = some R) : V G 9 423 [(0, .inr 21), (2, .inr 28), (3, .inl x3), (4, .inl x4)] [] M := by
  unfold g3_run_b423 at h
  refine V.inc (lv' := [(0, .inr 21), (2, .inr 28), (3, .inl x3), (4, .inl (x4 + (1 : Int32)))]) (r := 426) hC 3 dX3_run_423 rfl ki_1 rfl rfl rfl ?_
  refine V.goto (tgt := 19) hC dX3_run_426 (by decide) ?_
  exact hk19 _ _ _ h
def g3_run_b147 (k19 : Int32 → Int32 → xMem → Option (Int32 × xMem)) (x3 x4 s1 s2 : Int32) (M : xMem) : Option (Int32 × xMem) :=
if s1 < 0 ∨ 64 ≤ s1.toNatClampNeg then none else
mset (upM M 27 s1.toNatClampNeg s2) fun M51 =>
g3_run_b423 k19 (x3 + (1 : Int32)) x4 M51
set_option maxHeartbeats 4000000 in
set_option maxRecDepth 20000 in
theorem v3_run_b147 {G : xG} (hC : xC G cX3_run 9 RX3 1) {R : Int32 × xMem} (hR : xRZ G cX3_run 9 R) {k19 : Int32 → Int32 → xMem → Option (Int32 × xMem)} (hk19 : ∀ (y3 y4 : Int32) (N : xMem), k19 y3 y4 N = some R → V G 9 19 [(0, .inr 21), (2, .inr 28), (3, .inl y3), (4, .inl y4)] [] N) (x3 x4 s1 s2 : Int32) (M : xMem) (h : g3_run_b147 k19 x3 x4 s1 s2 M = some R) : V G 9 147 [(0, .inr 21), (2, .inr 28), (3, .inl x3), (4, .inl x4)] [.inl s2, .inl s1, .inr 27] M := by
  unfold g3_run_b147 at h
  by_cases c50 : s1 < 0 ∨ 64 ≤ s1.toNatClampNeg
  · rw [if_pos c50] at h; cases h
  rw [if_neg c50] at h
  rw [mset_eq] at h
  refine V.iast (t := s1.toNatClampNeg) (r := 148) hC sh_27 dX3_run_147 c50 (Nat.zero_add _) rfl ?_
  generalize upM M 27 s1.toNatClampNeg s2 = M51 at h ⊢
  refine V.inc (lv' := [(0, .inr 21), (2, .inr 28), (3, .inl (x3 + (1 : Int32))), (4, .inl x4)]) (r := 151) hC 2 dX3_run_148 rfl ki_1 rfl rfl rfl ?_
  refine V.goto (tgt := 423) hC dX3_run_151 (by decide) ?_
  exact v3_run_b423  hC hR hk19 _ _ _ h
def g3_run_b146 (k19 : Int32 → Int32 → xMem → Option (Int32 × xMem)) (x3 x4 s1 : Int32) (M : xMem) : Option (Int32 × xMem) :=
g3_run_b147 k19 x3 x4 s1 (0 : Int32) M
set_option maxHeartbeats 4000000 in
set_option maxRecDepth 20000 in
theorem v3_run_b146 {G : xG} (hC : xC G cX3_run 9 RX3 1) {R : Int32 × xMem} (hR : xRZ G cX3_run 9 R) {k19 : Int32 → Int32 → xMem → Option (Int32 × xMem)} (hk19 : ∀ (y3 y4 : Int32) (N : xMem), k19 y3 y4 N = some R → V G 9 19 [(0, .inr 21), (2, .inr 28), (3, .inl y3), (4, .inl y4)] [] N) (x3 x4 s1 : Int32) (M : xMem) (h : g3_run_b146 k19 x3 x4 s1 M = some R) : V G 9 146 [(0, .inr 21), (2, .inr 28), (3, .inl x3), (4, .inl x4)] [.inl s1, .inr 27] M := by
  unfold g3_run_b146 at h
  refine V.iconst (r := 147) hC dX3_run_146 ki_0 rfl ?_
  exact v3_run_b147  hC hR hk19 _ _ _ _ _ h
def g3_run_b99 (k19 : Int32 → Int32 → xMem → Option (Int32 × xMem)) (x3 x4 x5 x6 : Int32) (M : xMem) : Option (Int32 × xMem) :=
if x3 < 0 then
(some ((0 : Int32), M))
else
(if x3 < (64 : Int32) then
(if x5 = (1 : Int32) then
(g3_run_b147 k19 x3 x4 x3 x6 M)
else
(if x6 < 0 then
(g3_run_b146 k19 x3 x4 x3 M)
else
(if (15 : Int32) ≤ x6 then
(g3_run_b146 k19 x3 x4 x3 M)
else
(if x6 < 0 ∨ 15 ≤ x6.toNatClampNeg then none else
g3_run_b147 k19 x3 x4 x3 (M 101 x6.toNatClampNeg) M))))
else
(some ((0 : Int32), M)))
set_option maxHeartbeats 4000000 in
set_option maxRecDepth 20000 in
theorem v3_run_b99 {G : xG} (hC : xC G cX3_run 9 RX3 1) {R : Int32 × xMem} (hR : xRZ G cX3_run 9 R) {k19 : Int32 → Int32 → xMem → Option (Int32 × xMem)} (hk19 : ∀ (y3 y4 : Int32) (N : xMem), k19 y3 y4 N = some R → V G 9 19 [(0, .inr 21), (2, .inr 28), (3, .inl y3), (4, .inl y4)] [] N) (x3 x4 x5 x6 : Int32) (M : xMem) (h : g3_run_b99 k19 x3 x4 x5 x6 M = some R) : V G 9 99 [(0, .inr 21), (2, .inr 28), (3, .inl x3), (4, .inl x4), (5, .inl x5), (6, .inl x6)] [] M := by
  unfold g3_run_b99 at h
  refine V.iload_n (r := 100) hC 2 dX3_run_99 rfl rfl ?_
  refine V.if_lt (tgt := 109) (r := 103) hC dX3_run_100 (by decide) rfl (fun c44 => ?_) (fun c44 => ?_)
  · rw [if_pos c44] at h
    refine V.iconst (r := 110) hC dX3_run_109 ki_0 rfl ?_
    cases h
    exact hR _ _ (Or.inl rfl) dX3_run_110
  · rw [if_neg c44] at h
    refine V.iload_n (r := 104) hC 2 dX3_run_103 rfl rfl ?_
    refine V.bipush (r := 106) hC dX3_run_104 kb_64 rfl ?_
    refine V.icmp_lt (tgt := 111) (r := 109) hC dX3_run_106 (by decide) rfl (fun c45 => ?_) (fun c45 => ?_)
    · rw [if_pos c45] at h
      refine V.aload_n (r := 112) hC 0 dX3_run_111 rfl rfl ?_
      refine V.getR (k' := 27) (j := 7) (r := 115) hC xcl_3 sh_21 fl_RX3_34 dX3_run_112 (by decide) rfl rfl ?_
      refine V.iload_n (r := 116) hC 2 dX3_run_115 rfl rfl ?_
      refine V.iload (r := 118) hC 4 dX3_run_116 rfl rfl ?_
      refine V.iconst (r := 119) hC dX3_run_118 ki_1 rfl ?_
      refine V.icmp_ne (tgt := 127) (r := 122) hC dX3_run_119 (by decide) rfl (fun c46 => ?_) (fun c46 => ?_)
      · rw [if_neg c46] at h
        refine V.iload (r := 129) hC 5 dX3_run_127 rfl rfl ?_
        refine V.if_lt (tgt := 146) (r := 132) hC dX3_run_129 (by decide) rfl (fun c47 => ?_) (fun c47 => ?_)
        · rw [if_pos c47] at h
          refine V.pick (lv' := [(0, .inr 21), (2, .inr 28), (3, .inl x3), (4, .inl x4)]) [0, 1, 2, 3] rfl ?_
          exact v3_run_b146  hC hR hk19 _ _ _ _ h
        · rw [if_neg c47] at h
          refine V.iload (r := 134) hC 5 dX3_run_132 rfl rfl ?_
          refine V.aload_n (r := 135) hC 1 dX3_run_134 rfl rfl ?_
          refine V.alen (v := (15 : Int32)) (r := 136) hC sh_28 (by decide) dX3_run_135 (by decide) rfl ?_
          refine V.icmp_ge (tgt := 146) (r := 139) hC dX3_run_136 (by decide) rfl (fun c48 => ?_) (fun c48 => ?_)
          · rw [if_pos c48] at h
            refine V.pick (lv' := [(0, .inr 21), (2, .inr 28), (3, .inl x3), (4, .inl x4)]) [0, 1, 2, 3] rfl ?_
            exact v3_run_b146  hC hR hk19 _ _ _ _ h
          · rw [if_neg c48] at h
            refine V.aload_n (r := 140) hC 1 dX3_run_139 rfl rfl ?_
            refine V.iload (r := 142) hC 5 dX3_run_140 rfl rfl ?_
            by_cases c49 : x6 < 0 ∨ 15 ≤ x6.toNatClampNeg
            · rw [if_pos c49] at h; cases h
            rw [if_neg c49] at h
            refine V.iald (t := x6.toNatClampNeg) (r := 143) hC sh_28 dX3_run_142 c49 (Nat.zero_add _) rfl ?_
            refine V.goto (tgt := 147) hC dX3_run_143 (by decide) ?_
            refine V.pick (lv' := [(0, .inr 21), (2, .inr 28), (3, .inl x3), (4, .inl x4)]) [0, 1, 2, 3] rfl ?_
            exact v3_run_b147  hC hR hk19 _ _ _ _ _ h
      · rw [if_pos c46] at h
        refine V.iload (r := 124) hC 5 dX3_run_122 rfl rfl ?_
        refine V.goto (tgt := 147) hC dX3_run_124 (by decide) ?_
        refine V.pick (lv' := [(0, .inr 21), (2, .inr 28), (3, .inl x3), (4, .inl x4)]) [0, 1, 2, 3] rfl ?_
        exact v3_run_b147  hC hR hk19 _ _ _ _ _ h
    · rw [if_neg c45] at h
      refine V.iconst (r := 110) hC dX3_run_109 ki_0 rfl ?_
      cases h
      exact hR _ _ (Or.inl rfl) dX3_run_110
def g3_run_b173 (k19 : Int32 → Int32 → xMem → Option (Int32 × xMem)) (x3 x4 s1 : Int32) (M : xMem) : Option (Int32 × xMem) :=
if s1 = 0 ∨ s1 = 1 then
mset (upM M 28 0 s1) fun M35 =>
g3_run_b423 k19 x3 x4 M35
else none
set_option maxHeartbeats 4000000 in
set_option maxRecDepth 20000 in
theorem v3_run_b173 {G : xG} (hC : xC G cX3_run 9 RX3 1) {R : Int32 × xMem} (hR : xRZ G cX3_run 9 R) {k19 : Int32 → Int32 → xMem → Option (Int32 × xMem)} (hk19 : ∀ (y3 y4 : Int32) (N : xMem), k19 y3 y4 N = some R → V G 9 19 [(0, .inr 21), (2, .inr 28), (3, .inl y3), (4, .inl y4)] [] N) (x3 x4 s1 : Int32) (M : xMem) (h : g3_run_b173 k19 x3 x4 s1 M = some R) : V G 9 173 [(0, .inr 21), (2, .inr 28), (3, .inl x3), (4, .inl x4)] [.inl s1, .inr 21] M := by
  unfold g3_run_b173 at h
  by_cases c34 : ¬ (s1 = 0 ∨ s1 = 1)
  · rw [if_neg c34] at h; cases h
  replace c34 := Classical.not_not.mp c34
  rw [if_pos c34] at h
  rw [mset_eq] at h
  refine V.putI (b := 28) (i := 0) (j := 8) (ty := .boolean) (r := 176) hC xcl_3 xcp_3 sh_21 fl_RX3_37 dX3_run_173 (by decide) rfl rfl (by decide +kernel) (x01n c34) (x01f c34) rfl ?_
  generalize upM M 28 0 s1 = M35 at h ⊢
  refine V.goto (tgt := 423) hC dX3_run_176 (by decide) ?_
  exact v3_run_b423  hC hR hk19 _ _ _ h
def g3_run_b223 (k19 : Int32 → Int32 → xMem → Option (Int32 × xMem)) (x3 s0 : Int32) (M : xMem) : Option (Int32 × xMem) :=
g3_run_b423 k19 x3 s0 M
set_option maxHeartbeats 4000000 in
set_option maxRecDepth 20000 in
theorem v3_run_b223 {G : xG} (hC : xC G cX3_run 9 RX3 1) {R : Int32 × xMem} (hR : xRZ G cX3_run 9 R) {k19 : Int32 → Int32 → xMem → Option (Int32 × xMem)} (hk19 : ∀ (y3 y4 : Int32) (N : xMem), k19 y3 y4 N = some R → V G 9 19 [(0, .inr 21), (2, .inr 28), (3, .inl y3), (4, .inl y4)] [] N) (x3 s0 : Int32) (M : xMem) (h : g3_run_b223 k19 x3 s0 M = some R) : V G 9 223 [(0, .inr 21), (2, .inr 28), (3, .inl x3)] [.inl s0] M := by
  unfold g3_run_b223 at h
  refine V.ist (lv' := [(0, .inr 21), (2, .inr 28), (3, .inl x3), (4, .inl s0)]) (r := 225) hC dX3_run_223 rfl rfl rfl ?_
  refine V.goto (tgt := 423) hC dX3_run_225 (by decide) ?_
  exact v3_run_b423  hC hR hk19 _ _ _ h
def g3_run_b206 (k19 : Int32 → Int32 → xMem → Option (Int32 × xMem)) (x3 x4 x6 s0 s1 : Int32) (M : xMem) : Option (Int32 × xMem) :=
if s0 = s1 then
(g3_run_b223 k19 x3 (xMax x4 (x6 - (1 : Int32))) M)
else
(g3_run_b223 k19 x3 x4 M)
set_option maxHeartbeats 4000000 in
set_option maxRecDepth 20000 in
theorem v3_run_b206 {G : xG} (hC : xC G cX3_run 9 RX3 1) {R : Int32 × xMem} (hR : xRZ G cX3_run 9 R) {k19 : Int32 → Int32 → xMem → Option (Int32 × xMem)} (hk19 : ∀ (y3 y4 : Int32) (N : xMem), k19 y3 y4 N = some R → V G 9 19 [(0, .inr 21), (2, .inr 28), (3, .inl y3), (4, .inl y4)] [] N) (x3 x4 x6 s0 s1 : Int32) (M : xMem) (h : g3_run_b206 k19 x3 x4 x6 s0 s1 M = some R) : V G 9 206 [(0, .inr 21), (2, .inr 28), (3, .inl x3), (4, .inl x4), (6, .inl x6)] [.inl s1, .inl s0] M := by
  unfold g3_run_b206 at h
  refine V.icmp_ne (tgt := 221) (r := 209) hC dX3_run_206 (by decide) rfl (fun c43 => ?_) (fun c43 => ?_)
  · rw [if_neg c43] at h
    refine V.iload (r := 223) hC 3 dX3_run_221 rfl rfl ?_
    refine V.pick (lv' := [(0, .inr 21), (2, .inr 28), (3, .inl x3)]) [0, 1, 2] rfl ?_
    exact v3_run_b223  hC hR hk19 _ _ _ h
  · rw [if_pos c43] at h
    refine V.iload (r := 211) hC 3 dX3_run_209 rfl rfl ?_
    refine V.iload (r := 213) hC 4 dX3_run_211 rfl rfl ?_
    refine V.iconst (r := 214) hC dX3_run_213 ki_1 rfl ?_
    refine V.isub (r := 215) hC dX3_run_214 rfl ?_
    refine V.mmax (r := 218) hC jw_RX3_66 (by decide) (Nat.le_of_ble_eq_true rfl) dX3_run_215 rfl ?_
    refine V.goto (tgt := 223) hC dX3_run_218 (by decide) ?_
    refine V.pick (lv' := [(0, .inr 21), (2, .inr 28), (3, .inl x3)]) [0, 1, 2] rfl ?_
    exact v3_run_b223  hC hR hk19 _ _ _ h
def g3_run_b191 (k19 : Int32 → Int32 → xMem → Option (Int32 × xMem)) (x3 x4 x5 x6 : Int32) (M : xMem) : Option (Int32 × xMem) :=
if x5 = (4 : Int32) then
(g3_run_b206 k19 x3 x4 x6 (M 28 0) (1 : Int32) M)
else
(g3_run_b206 k19 x3 x4 x6 (M 28 0) (0 : Int32) M)
set_option maxHeartbeats 4000000 in
set_option maxRecDepth 20000 in
theorem v3_run_b191 {G : xG} (hC : xC G cX3_run 9 RX3 1) {R : Int32 × xMem} (hR : xRZ G cX3_run 9 R) {k19 : Int32 → Int32 → xMem → Option (Int32 × xMem)} (hk19 : ∀ (y3 y4 : Int32) (N : xMem), k19 y3 y4 N = some R → V G 9 19 [(0, .inr 21), (2, .inr 28), (3, .inl y3), (4, .inl y4)] [] N) (x3 x4 x5 x6 : Int32) (M : xMem) (h : g3_run_b191 k19 x3 x4 x5 x6 M = some R) : V G 9 191 [(0, .inr 21), (2, .inr 28), (3, .inl x3), (4, .inl x4), (5, .inl x5), (6, .inl x6)] [] M := by
  unfold g3_run_b191 at h
  refine V.aload_n (r := 192) hC 0 dX3_run_191 rfl rfl ?_
  refine V.getI (b := 28) (i := 0) (j := 8) (r := 195) hC xcl_3 sh_21 fl_RX3_37 dX3_run_192 (by decide) rfl rfl ?_
  refine V.iload (r := 197) hC 4 dX3_run_195 rfl rfl ?_
  refine V.iconst (r := 198) hC dX3_run_197 ki_4 rfl ?_
  refine V.icmp_ne (tgt := 205) (r := 201) hC dX3_run_198 (by decide) rfl (fun c42 => ?_) (fun c42 => ?_)
  · rw [if_neg c42] at h
    refine V.iconst (r := 206) hC dX3_run_205 ki_0 rfl ?_
    refine V.pick (lv' := [(0, .inr 21), (2, .inr 28), (3, .inl x3), (4, .inl x4), (6, .inl x6)]) [0, 1, 2, 3, 5] rfl ?_
    exact v3_run_b206  hC hR hk19 _ _ _ _ _ _ h
  · rw [if_pos c42] at h
    refine V.iconst (r := 202) hC dX3_run_201 ki_1 rfl ?_
    refine V.goto (tgt := 206) hC dX3_run_202 (by decide) ?_
    refine V.pick (lv' := [(0, .inr 21), (2, .inr 28), (3, .inl x3), (4, .inl x4), (6, .inl x6)]) [0, 1, 2, 3, 5] rfl ?_
    exact v3_run_b206  hC hR hk19 _ _ _ _ _ _ h
def g3_run_b329 (k19 : Int32 → Int32 → xMem → Option (Int32 × xMem)) (x3 x4 s1 : Int32) (M : xMem) : Option (Int32 × xMem) :=
if s1 = 0 ∨ s1 = 1 then
mset (upM M 28 0 s1) fun M37 =>
g3_run_b423 k19 x3 x4 M37
else none
set_option maxHeartbeats 4000000 in
set_option maxRecDepth 20000 in
theorem v3_run_b329 {G : xG} (hC : xC G cX3_run 9 RX3 1) {R : Int32 × xMem} (hR : xRZ G cX3_run 9 R) {k19 : Int32 → Int32 → xMem → Option (Int32 × xMem)} (hk19 : ∀ (y3 y4 : Int32) (N : xMem), k19 y3 y4 N = some R → V G 9 19 [(0, .inr 21), (2, .inr 28), (3, .inl y3), (4, .inl y4)] [] N) (x3 x4 s1 : Int32) (M : xMem) (h : g3_run_b329 k19 x3 x4 s1 M = some R) : V G 9 329 [(0, .inr 21), (2, .inr 28), (3, .inl x3), (4, .inl x4)] [.inl s1, .inr 21] M := by
  unfold g3_run_b329 at h
  by_cases c36 : ¬ (s1 = 0 ∨ s1 = 1)
  · rw [if_neg c36] at h; cases h
  replace c36 := Classical.not_not.mp c36
  rw [if_pos c36] at h
  rw [mset_eq] at h
  refine V.putI (b := 28) (i := 0) (j := 8) (ty := .boolean) (r := 332) hC xcl_3 xcp_3 sh_21 fl_RX3_37 dX3_run_329 (by decide) rfl rfl (by decide +kernel) (x01n c36) (x01f c36) rfl ?_
  generalize upM M 28 0 s1 = M37 at h ⊢
  refine V.goto (tgt := 423) hC dX3_run_332 (by decide) ?_
  exact v3_run_b423  hC hR hk19 _ _ _ h
def g3_run_b376 (k19 : Int32 → Int32 → xMem → Option (Int32 × xMem)) (x3 x4 s1 s2 : Int32) (M : xMem) : Option (Int32 × xMem) :=
if s1 < 0 ∨ 64 ≤ s1.toNatClampNeg then none else
mset (upM M 27 s1.toNatClampNeg s2) fun M39 =>
g3_run_b423 k19 x3 x4 M39
set_option maxHeartbeats 4000000 in
set_option maxRecDepth 20000 in
theorem v3_run_b376 {G : xG} (hC : xC G cX3_run 9 RX3 1) {R : Int32 × xMem} (hR : xRZ G cX3_run 9 R) {k19 : Int32 → Int32 → xMem → Option (Int32 × xMem)} (hk19 : ∀ (y3 y4 : Int32) (N : xMem), k19 y3 y4 N = some R → V G 9 19 [(0, .inr 21), (2, .inr 28), (3, .inl y3), (4, .inl y4)] [] N) (x3 x4 s1 s2 : Int32) (M : xMem) (h : g3_run_b376 k19 x3 x4 s1 s2 M = some R) : V G 9 376 [(0, .inr 21), (2, .inr 28), (3, .inl x3), (4, .inl x4)] [.inl s2, .inl s1, .inr 27] M := by
  unfold g3_run_b376 at h
  by_cases c38 : s1 < 0 ∨ 64 ≤ s1.toNatClampNeg
  · rw [if_pos c38] at h; cases h
  rw [if_neg c38] at h
  rw [mset_eq] at h
  refine V.iast (t := s1.toNatClampNeg) (r := 377) hC sh_27 dX3_run_376 c38 (Nat.zero_add _) rfl ?_
  generalize upM M 27 s1.toNatClampNeg s2 = M39 at h ⊢
  refine V.goto (tgt := 423) hC dX3_run_377 (by decide) ?_
  exact v3_run_b423  hC hR hk19 _ _ _ h
def g3_run_b422 (k19 : Int32 → Int32 → xMem → Option (Int32 × xMem)) (x3 x4 s1 s2 : Int32) (M : xMem) : Option (Int32 × xMem) :=
if s1 < 0 ∨ 64 ≤ s1.toNatClampNeg then none else
mset (upM M 27 s1.toNatClampNeg s2) fun M41 =>
g3_run_b423 k19 x3 x4 M41
set_option maxHeartbeats 4000000 in
set_option maxRecDepth 20000 in
theorem v3_run_b422 {G : xG} (hC : xC G cX3_run 9 RX3 1) {R : Int32 × xMem} (hR : xRZ G cX3_run 9 R) {k19 : Int32 → Int32 → xMem → Option (Int32 × xMem)} (hk19 : ∀ (y3 y4 : Int32) (N : xMem), k19 y3 y4 N = some R → V G 9 19 [(0, .inr 21), (2, .inr 28), (3, .inl y3), (4, .inl y4)] [] N) (x3 x4 s1 s2 : Int32) (M : xMem) (h : g3_run_b422 k19 x3 x4 s1 s2 M = some R) : V G 9 422 [(0, .inr 21), (2, .inr 28), (3, .inl x3), (4, .inl x4)] [.inl s2, .inl s1, .inr 27] M := by
  unfold g3_run_b422 at h
  by_cases c40 : s1 < 0 ∨ 64 ≤ s1.toNatClampNeg
  · rw [if_pos c40] at h; cases h
  rw [if_neg c40] at h
  rw [mset_eq] at h
  refine V.iast (t := s1.toNatClampNeg) (r := 423) hC sh_27 dX3_run_422 c40 (Nat.zero_add _) rfl ?_
  generalize upM M 27 s1.toNatClampNeg s2 = M41 at h ⊢
  exact v3_run_b423  hC hR hk19 _ _ _ h
def g3_run_b19 : Nat → Int32 → Int32 → xMem → Option (Int32 × xMem)
  | 0, _, _, _ => none
  | n + 1, x3, x4, M => 
    (if (M 22 0) ≤ x4 then
    (some ((0 : Int32), M))
    else
    (if (240 : Int32) ≤ x4 then
    (some ((0 : Int32), M))
    else
    (if x4 < 0 ∨ 240 ≤ x4.toNatClampNeg then none else
    if (M 20 x4.toNatClampNeg) = 0 then
    (if x3 ≤ 0 then
    (g3_run_b81 M)
    else
    (if (64 : Int32) < x3 then
    (g3_run_b81 M)
    else
    (if (x3 - (1 : Int32)) < 0 ∨ 64 ≤ (x3 - (1 : Int32)).toNatClampNeg then none else
    g3_run_b82 (M 27 (x3 - (1 : Int32)).toNatClampNeg) M)))
    else
    (if (M 20 x4.toNatClampNeg) = (1 : Int32) then
    (g3_run_b99 (g3_run_b19 n) x3 x4 (M 20 x4.toNatClampNeg) (M 21 x4.toNatClampNeg) M)
    else
    (if (M 20 x4.toNatClampNeg) = (2 : Int32) then
    (g3_run_b99 (g3_run_b19 n) x3 x4 (M 20 x4.toNatClampNeg) (M 21 x4.toNatClampNeg) M)
    else
    (if (M 20 x4.toNatClampNeg) = (3 : Int32) then
    (if (M 28 0) = 0 then
    (g3_run_b173 (g3_run_b19 n) x3 x4 (1 : Int32) M)
    else
    (g3_run_b173 (g3_run_b19 n) x3 x4 (0 : Int32) M))
    else
    (if (M 20 x4.toNatClampNeg) = (4 : Int32) then
    (g3_run_b191 (g3_run_b19 n) x3 x4 (M 20 x4.toNatClampNeg) (M 21 x4.toNatClampNeg) M)
    else
    (if (M 20 x4.toNatClampNeg) = (5 : Int32) then
    (g3_run_b191 (g3_run_b19 n) x3 x4 (M 20 x4.toNatClampNeg) (M 21 x4.toNatClampNeg) M)
    else
    (if x3 < (2 : Int32) then
    (some ((0 : Int32), M))
    else
    (if x3 ≤ (64 : Int32) then
    (if (x3 + (-1 : Int32)) < 0 ∨ 64 ≤ (x3 + (-1 : Int32)).toNatClampNeg then none else
    if ((x3 + (-1 : Int32)) - (1 : Int32)) < 0 ∨ 64 ≤ ((x3 + (-1 : Int32)) - (1 : Int32)).toNatClampNeg then none else
    if (M 20 x4.toNatClampNeg) < (11 : Int32) then
    (if (M 20 x4.toNatClampNeg) < (9 : Int32) then
    (if (M 20 x4.toNatClampNeg) = (6 : Int32) then
    (g3_run_b422 (g3_run_b19 n) (x3 + (-1 : Int32)) x4 ((x3 + (-1 : Int32)) - (1 : Int32)) ((M 27 ((x3 + (-1 : Int32)) - (1 : Int32)).toNatClampNeg) + (M 27 (x3 + (-1 : Int32)).toNatClampNeg)) M)
    else
    (if (M 20 x4.toNatClampNeg) = (7 : Int32) then
    (g3_run_b422 (g3_run_b19 n) (x3 + (-1 : Int32)) x4 ((x3 + (-1 : Int32)) - (1 : Int32)) ((M 27 ((x3 + (-1 : Int32)) - (1 : Int32)).toNatClampNeg) - (M 27 (x3 + (-1 : Int32)).toNatClampNeg)) M)
    else
    (g3_run_b422 (g3_run_b19 n) (x3 + (-1 : Int32)) x4 ((x3 + (-1 : Int32)) - (1 : Int32)) ((M 27 ((x3 + (-1 : Int32)) - (1 : Int32)).toNatClampNeg) * (M 27 (x3 + (-1 : Int32)).toNatClampNeg)) M)))
    else
    (if (M 27 (x3 + (-1 : Int32)).toNatClampNeg) = 0 then
    (some ((0 : Int32), M))
    else
    (if (M 20 x4.toNatClampNeg) = (9 : Int32) then
    (if (M 27 (x3 + (-1 : Int32)).toNatClampNeg) = 0 then none else
    g3_run_b376 (g3_run_b19 n) (x3 + (-1 : Int32)) x4 ((x3 + (-1 : Int32)) - (1 : Int32)) ((M 27 ((x3 + (-1 : Int32)) - (1 : Int32)).toNatClampNeg) / (M 27 (x3 + (-1 : Int32)).toNatClampNeg)) M)
    else
    (if (M 27 (x3 + (-1 : Int32)).toNatClampNeg) = 0 then none else
    g3_run_b376 (g3_run_b19 n) (x3 + (-1 : Int32)) x4 ((x3 + (-1 : Int32)) - (1 : Int32)) ((M 27 ((x3 + (-1 : Int32)) - (1 : Int32)).toNatClampNeg) - (M 27 ((x3 + (-1 : Int32)) - (1 : Int32)).toNatClampNeg) / (M 27 (x3 + (-1 : Int32)).toNatClampNeg) * (M 27 (x3 + (-1 : Int32)).toNatClampNeg)) M))))
    else
    (if (M 20 x4.toNatClampNeg) = (11 : Int32) then
    (if (M 27 (x3 + (-1 : Int32)).toNatClampNeg) ≤ (M 27 ((x3 + (-1 : Int32)) - (1 : Int32)).toNatClampNeg) then
    (g3_run_b329 (g3_run_b19 n) ((x3 + (-1 : Int32)) + (-1 : Int32)) x4 (0 : Int32) M)
    else
    (g3_run_b329 (g3_run_b19 n) ((x3 + (-1 : Int32)) + (-1 : Int32)) x4 (1 : Int32) M))
    else
    (if (M 20 x4.toNatClampNeg) = (12 : Int32) then
    (if (M 27 ((x3 + (-1 : Int32)) - (1 : Int32)).toNatClampNeg) ≤ (M 27 (x3 + (-1 : Int32)).toNatClampNeg) then
    (g3_run_b329 (g3_run_b19 n) ((x3 + (-1 : Int32)) + (-1 : Int32)) x4 (0 : Int32) M)
    else
    (g3_run_b329 (g3_run_b19 n) ((x3 + (-1 : Int32)) + (-1 : Int32)) x4 (1 : Int32) M))
    else
    (if (M 27 ((x3 + (-1 : Int32)) - (1 : Int32)).toNatClampNeg) = (M 27 (x3 + (-1 : Int32)).toNatClampNeg) then
    (g3_run_b329 (g3_run_b19 n) ((x3 + (-1 : Int32)) + (-1 : Int32)) x4 (1 : Int32) M)
    else
    (g3_run_b329 (g3_run_b19 n) ((x3 + (-1 : Int32)) + (-1 : Int32)) x4 (0 : Int32) M)))))
    else
    (some ((0 : Int32), M))))))))))))
set_option maxHeartbeats 4000000 in
set_option maxRecDepth 20000 in
theorem v3_run_b19 {G : xG} (hC : xC G cX3_run 9 RX3 1) {R : Int32 × xMem} (hR : xRZ G cX3_run 9 R) : ∀ (n : Nat) (x3 x4 : Int32) (M : xMem), g3_run_b19 n x3 x4 M = some R → V G 9 19 [(0, .inr 21), (2, .inr 28), (3, .inl x3), (4, .inl x4)] [] M := by
  intro n
  induction n with
  | zero => intro x3 x4 M h; rw [g3_run_b19] at h; cases h
  | succ n ih =>
    intro x3 x4 M h
    rw [g3_run_b19] at h
    refine V.iload (r := 21) hC 3 dX3_run_19 rfl rfl ?_
    refine V.aload_n (r := 22) hC 0 dX3_run_21 rfl rfl ?_
    refine V.getI (b := 22) (i := 0) (j := 2) (r := 25) hC xcl_3 sh_21 fl_RX3_18 dX3_run_22 (by decide) rfl rfl ?_
    refine V.icmp_ge (tgt := 429) (r := 28) hC dX3_run_25 (by decide) rfl (fun c3 => ?_) (fun c3 => ?_)
    · rw [if_pos c3] at h
      refine V.iconst (r := 430) hC dX3_run_429 ki_0 rfl ?_
      cases h
      exact hR _ _ (Or.inl rfl) dX3_run_430
    · rw [if_neg c3] at h
      refine V.iload (r := 30) hC 3 dX3_run_28 rfl rfl ?_
      refine V.sipush (r := 33) hC dX3_run_30 ks_240 rfl ?_
      refine V.icmp_ge (tgt := 429) (r := 36) hC dX3_run_33 (by decide) rfl (fun c4 => ?_) (fun c4 => ?_)
      · rw [if_pos c4] at h
        refine V.iconst (r := 430) hC dX3_run_429 ki_0 rfl ?_
        cases h
        exact hR _ _ (Or.inl rfl) dX3_run_430
      · rw [if_neg c4] at h
        refine V.aload_n (r := 37) hC 0 dX3_run_36 rfl rfl ?_
        refine V.getR (k' := 22) (j := 0) (r := 40) hC xcl_3 sh_21 fl_RX3_9 dX3_run_37 (by decide) rfl rfl ?_
        refine V.iload (r := 42) hC 3 dX3_run_40 rfl rfl ?_
        by_cases c5 : x4 < 0 ∨ 240 ≤ x4.toNatClampNeg
        · rw [if_pos c5] at h; cases h
        rw [if_neg c5] at h
        refine V.iald (t := x4.toNatClampNeg) (r := 43) hC sh_22 dX3_run_42 c5 (Nat.zero_add _) rfl ?_
        refine V.ist (lv' := [(0, .inr 21), (2, .inr 28), (3, .inl x3), (4, .inl x4), (5, .inl (M 20 x4.toNatClampNeg))]) (r := 45) hC dX3_run_43 rfl rfl rfl ?_
        refine V.aload_n (r := 46) hC 0 dX3_run_45 rfl rfl ?_
        refine V.getR (k' := 23) (j := 1) (r := 49) hC xcl_3 sh_21 fl_RX3_15 dX3_run_46 (by decide) rfl rfl ?_
        refine V.iload (r := 51) hC 3 dX3_run_49 rfl rfl ?_
        refine V.iald (t := x4.toNatClampNeg) (r := 52) hC sh_23 dX3_run_51 c5 (Nat.zero_add _) rfl ?_
        refine V.ist (lv' := [(0, .inr 21), (2, .inr 28), (3, .inl x3), (4, .inl x4), (5, .inl (M 20 x4.toNatClampNeg)), (6, .inl (M 21 x4.toNatClampNeg))]) (r := 54) hC dX3_run_52 rfl rfl rfl ?_
        refine V.iload (r := 56) hC 4 dX3_run_54 rfl rfl ?_
        refine V.if_ne (tgt := 87) (r := 59) hC dX3_run_56 (by decide) rfl (fun c6 => ?_) (fun c6 => ?_)
        · rw [if_neg c6] at h
          refine V.iload (r := 89) hC 4 dX3_run_87 rfl rfl ?_
          refine V.iconst (r := 90) hC dX3_run_89 ki_1 rfl ?_
          refine V.icmp_eq (tgt := 99) (r := 93) hC dX3_run_90 (by decide) rfl (fun c7 => ?_) (fun c7 => ?_)
          · rw [if_pos c7] at h
            exact v3_run_b99  hC hR ih _ _ _ _ _ h
          · rw [if_neg c7] at h
            refine V.iload (r := 95) hC 4 dX3_run_93 rfl rfl ?_
            refine V.iconst (r := 96) hC dX3_run_95 ki_2 rfl ?_
            refine V.icmp_ne (tgt := 154) (r := 99) hC dX3_run_96 (by decide) rfl (fun c8 => ?_) (fun c8 => ?_)
            · rw [if_neg c8] at h
              refine V.iload (r := 156) hC 4 dX3_run_154 rfl rfl ?_
              refine V.iconst (r := 157) hC dX3_run_156 ki_3 rfl ?_
              refine V.icmp_ne (tgt := 179) (r := 160) hC dX3_run_157 (by decide) rfl (fun c9 => ?_) (fun c9 => ?_)
              · rw [if_neg c9] at h
                refine V.iload (r := 181) hC 4 dX3_run_179 rfl rfl ?_
                refine V.iconst (r := 182) hC dX3_run_181 ki_4 rfl ?_
                refine V.icmp_eq (tgt := 191) (r := 185) hC dX3_run_182 (by decide) rfl (fun c10 => ?_) (fun c10 => ?_)
                · rw [if_pos c10] at h
                  exact v3_run_b191  hC hR ih _ _ _ _ _ h
                · rw [if_neg c10] at h
                  refine V.iload (r := 187) hC 4 dX3_run_185 rfl rfl ?_
                  refine V.iconst (r := 188) hC dX3_run_187 ki_5 rfl ?_
                  refine V.icmp_ne (tgt := 228) (r := 191) hC dX3_run_188 (by decide) rfl (fun c11 => ?_) (fun c11 => ?_)
                  · rw [if_neg c11] at h
                    refine V.iload_n (r := 229) hC 2 dX3_run_228 rfl rfl ?_
                    refine V.iconst (r := 230) hC dX3_run_229 ki_2 rfl ?_
                    refine V.icmp_lt (tgt := 239) (r := 233) hC dX3_run_230 (by decide) rfl (fun c12 => ?_) (fun c12 => ?_)
                    · rw [if_pos c12] at h
                      refine V.iconst (r := 240) hC dX3_run_239 ki_0 rfl ?_
                      cases h
                      exact hR _ _ (Or.inl rfl) dX3_run_240
                    · rw [if_neg c12] at h
                      refine V.iload_n (r := 234) hC 2 dX3_run_233 rfl rfl ?_
                      refine V.bipush (r := 236) hC dX3_run_234 kb_64 rfl ?_
                      refine V.icmp_le (tgt := 241) (r := 239) hC dX3_run_236 (by decide) rfl (fun c13 => ?_) (fun c13 => ?_)
                      · rw [if_pos c13] at h
                        refine V.inc (lv' := [(0, .inr 21), (2, .inr 28), (3, .inl (x3 + (-1 : Int32))), (4, .inl x4), (5, .inl (M 20 x4.toNatClampNeg)), (6, .inl (M 21 x4.toNatClampNeg))]) (r := 244) hC 2 dX3_run_241 rfl ki_m1 rfl rfl rfl ?_
                        refine V.aload_n (r := 245) hC 0 dX3_run_244 rfl rfl ?_
                        refine V.getR (k' := 27) (j := 7) (r := 248) hC xcl_3 sh_21 fl_RX3_34 dX3_run_245 (by decide) rfl rfl ?_
                        refine V.iload_n (r := 249) hC 2 dX3_run_248 rfl rfl ?_
                        by_cases c14 : (x3 + (-1 : Int32)) < 0 ∨ 64 ≤ (x3 + (-1 : Int32)).toNatClampNeg
                        · rw [if_pos c14] at h; cases h
                        rw [if_neg c14] at h
                        refine V.iald (t := (x3 + (-1 : Int32)).toNatClampNeg) (r := 250) hC sh_27 dX3_run_249 c14 (Nat.zero_add _) rfl ?_
                        refine V.ist (lv' := [(0, .inr 21), (2, .inr 28), (3, .inl (x3 + (-1 : Int32))), (4, .inl x4), (5, .inl (M 20 x4.toNatClampNeg)), (6, .inl (M 21 x4.toNatClampNeg)), (7, .inl (M 27 (x3 + (-1 : Int32)).toNatClampNeg))]) (r := 252) hC dX3_run_250 rfl rfl rfl ?_
                        refine V.aload_n (r := 253) hC 0 dX3_run_252 rfl rfl ?_
                        refine V.getR (k' := 27) (j := 7) (r := 256) hC xcl_3 sh_21 fl_RX3_34 dX3_run_253 (by decide) rfl rfl ?_
                        refine V.iload_n (r := 257) hC 2 dX3_run_256 rfl rfl ?_
                        refine V.iconst (r := 258) hC dX3_run_257 ki_1 rfl ?_
                        refine V.isub (r := 259) hC dX3_run_258 rfl ?_
                        by_cases c15 : ((x3 + (-1 : Int32)) - (1 : Int32)) < 0 ∨ 64 ≤ ((x3 + (-1 : Int32)) - (1 : Int32)).toNatClampNeg
                        · rw [if_pos c15] at h; cases h
                        rw [if_neg c15] at h
                        refine V.iald (t := ((x3 + (-1 : Int32)) - (1 : Int32)).toNatClampNeg) (r := 260) hC sh_27 dX3_run_259 c15 (Nat.zero_add _) rfl ?_
                        refine V.ist (lv' := [(0, .inr 21), (2, .inr 28), (3, .inl (x3 + (-1 : Int32))), (4, .inl x4), (5, .inl (M 20 x4.toNatClampNeg)), (6, .inl (M 21 x4.toNatClampNeg)), (7, .inl (M 27 (x3 + (-1 : Int32)).toNatClampNeg)), (8, .inl (M 27 ((x3 + (-1 : Int32)) - (1 : Int32)).toNatClampNeg))]) (r := 262) hC dX3_run_260 rfl rfl rfl ?_
                        refine V.iload (r := 264) hC 4 dX3_run_262 rfl rfl ?_
                        refine V.bipush (r := 266) hC dX3_run_264 kb_11 rfl ?_
                        refine V.icmp_lt (tgt := 335) (r := 269) hC dX3_run_266 (by decide) rfl (fun c16 => ?_) (fun c16 => ?_)
                        · rw [if_pos c16] at h
                          refine V.iload (r := 337) hC 4 dX3_run_335 rfl rfl ?_
                          refine V.bipush (r := 339) hC dX3_run_337 kb_9 rfl ?_
                          refine V.icmp_lt (tgt := 380) (r := 342) hC dX3_run_339 (by decide) rfl (fun c17 => ?_) (fun c17 => ?_)
                          · rw [if_pos c17] at h
                            refine V.aload_n (r := 381) hC 0 dX3_run_380 rfl rfl ?_
                            refine V.getR (k' := 27) (j := 7) (r := 384) hC xcl_3 sh_21 fl_RX3_34 dX3_run_381 (by decide) rfl rfl ?_
                            refine V.iload_n (r := 385) hC 2 dX3_run_384 rfl rfl ?_
                            refine V.iconst (r := 386) hC dX3_run_385 ki_1 rfl ?_
                            refine V.isub (r := 387) hC dX3_run_386 rfl ?_
                            refine V.iload (r := 389) hC 4 dX3_run_387 rfl rfl ?_
                            refine V.bipush (r := 391) hC dX3_run_389 kb_6 rfl ?_
                            refine V.icmp_ne (tgt := 402) (r := 394) hC dX3_run_391 (by decide) rfl (fun c18 => ?_) (fun c18 => ?_)
                            · rw [if_neg c18] at h
                              refine V.iload (r := 404) hC 4 dX3_run_402 rfl rfl ?_
                              refine V.bipush (r := 406) hC dX3_run_404 kb_7 rfl ?_
                              refine V.icmp_ne (tgt := 417) (r := 409) hC dX3_run_406 (by decide) rfl (fun c19 => ?_) (fun c19 => ?_)
                              · rw [if_neg c19] at h
                                refine V.iload (r := 419) hC 7 dX3_run_417 rfl rfl ?_
                                refine V.iload (r := 421) hC 6 dX3_run_419 rfl rfl ?_
                                refine V.imul (r := 422) hC dX3_run_421 rfl ?_
                                refine V.pick (lv' := [(0, .inr 21), (2, .inr 28), (3, .inl (x3 + (-1 : Int32))), (4, .inl x4)]) [0, 1, 2, 3] rfl ?_
                                exact v3_run_b422  hC hR ih _ _ _ _ _ h
                              · rw [if_pos c19] at h
                                refine V.iload (r := 411) hC 7 dX3_run_409 rfl rfl ?_
                                refine V.iload (r := 413) hC 6 dX3_run_411 rfl rfl ?_
                                refine V.isub (r := 414) hC dX3_run_413 rfl ?_
                                refine V.goto (tgt := 422) hC dX3_run_414 (by decide) ?_
                                refine V.pick (lv' := [(0, .inr 21), (2, .inr 28), (3, .inl (x3 + (-1 : Int32))), (4, .inl x4)]) [0, 1, 2, 3] rfl ?_
                                exact v3_run_b422  hC hR ih _ _ _ _ _ h
                            · rw [if_pos c18] at h
                              refine V.iload (r := 396) hC 7 dX3_run_394 rfl rfl ?_
                              refine V.iload (r := 398) hC 6 dX3_run_396 rfl rfl ?_
                              refine V.iadd (r := 399) hC dX3_run_398 rfl ?_
                              refine V.goto (tgt := 422) hC dX3_run_399 (by decide) ?_
                              refine V.pick (lv' := [(0, .inr 21), (2, .inr 28), (3, .inl (x3 + (-1 : Int32))), (4, .inl x4)]) [0, 1, 2, 3] rfl ?_
                              exact v3_run_b422  hC hR ih _ _ _ _ _ h
                          · rw [if_neg c17] at h
                            refine V.iload (r := 344) hC 6 dX3_run_342 rfl rfl ?_
                            refine V.if_ne (tgt := 349) (r := 347) hC dX3_run_344 (by decide) rfl (fun c20 => ?_) (fun c20 => ?_)
                            · rw [if_neg c20] at h
                              refine V.aload_n (r := 350) hC 0 dX3_run_349 rfl rfl ?_
                              refine V.getR (k' := 27) (j := 7) (r := 353) hC xcl_3 sh_21 fl_RX3_34 dX3_run_350 (by decide) rfl rfl ?_
                              refine V.iload_n (r := 354) hC 2 dX3_run_353 rfl rfl ?_
                              refine V.iconst (r := 355) hC dX3_run_354 ki_1 rfl ?_
                              refine V.isub (r := 356) hC dX3_run_355 rfl ?_
                              refine V.iload (r := 358) hC 4 dX3_run_356 rfl rfl ?_
                              refine V.bipush (r := 360) hC dX3_run_358 kb_9 rfl ?_
                              refine V.icmp_ne (tgt := 371) (r := 363) hC dX3_run_360 (by decide) rfl (fun c21 => ?_) (fun c21 => ?_)
                              · rw [if_neg c21] at h
                                refine V.iload (r := 373) hC 7 dX3_run_371 rfl rfl ?_
                                refine V.iload (r := 375) hC 6 dX3_run_373 rfl rfl ?_
                                by_cases c22 : (M 27 (x3 + (-1 : Int32)).toNatClampNeg) = 0
                                · rw [if_pos c22] at h; cases h
                                rw [if_neg c22] at h
                                refine V.irem (r := 376) hC dX3_run_375 c22 rfl ?_
                                refine V.pick (lv' := [(0, .inr 21), (2, .inr 28), (3, .inl (x3 + (-1 : Int32))), (4, .inl x4)]) [0, 1, 2, 3] rfl ?_
                                exact v3_run_b376  hC hR ih _ _ _ _ _ h
                              · rw [if_pos c21] at h
                                refine V.iload (r := 365) hC 7 dX3_run_363 rfl rfl ?_
                                refine V.iload (r := 367) hC 6 dX3_run_365 rfl rfl ?_
                                by_cases c23 : (M 27 (x3 + (-1 : Int32)).toNatClampNeg) = 0
                                · rw [if_pos c23] at h; cases h
                                rw [if_neg c23] at h
                                refine V.idiv (r := 368) hC dX3_run_367 c23 rfl ?_
                                refine V.goto (tgt := 376) hC dX3_run_368 (by decide) ?_
                                refine V.pick (lv' := [(0, .inr 21), (2, .inr 28), (3, .inl (x3 + (-1 : Int32))), (4, .inl x4)]) [0, 1, 2, 3] rfl ?_
                                exact v3_run_b376  hC hR ih _ _ _ _ _ h
                            · rw [if_pos c20] at h
                              refine V.iconst (r := 348) hC dX3_run_347 ki_0 rfl ?_
                              cases h
                              exact hR _ _ (Or.inl rfl) dX3_run_348
                        · rw [if_neg c16] at h
                          refine V.inc (lv' := [(0, .inr 21), (2, .inr 28), (3, .inl ((x3 + (-1 : Int32)) + (-1 : Int32))), (4, .inl x4), (5, .inl (M 20 x4.toNatClampNeg)), (6, .inl (M 21 x4.toNatClampNeg)), (7, .inl (M 27 (x3 + (-1 : Int32)).toNatClampNeg)), (8, .inl (M 27 ((x3 + (-1 : Int32)) - (1 : Int32)).toNatClampNeg))]) (r := 272) hC 2 dX3_run_269 rfl ki_m1 rfl rfl rfl ?_
                          refine V.aload_n (r := 273) hC 0 dX3_run_272 rfl rfl ?_
                          refine V.iload (r := 275) hC 4 dX3_run_273 rfl rfl ?_
                          refine V.bipush (r := 277) hC dX3_run_275 kb_11 rfl ?_
                          refine V.icmp_ne (tgt := 295) (r := 280) hC dX3_run_277 (by decide) rfl (fun c24 => ?_) (fun c24 => ?_)
                          · rw [if_neg c24] at h
                            refine V.iload (r := 297) hC 4 dX3_run_295 rfl rfl ?_
                            refine V.bipush (r := 299) hC dX3_run_297 kb_12 rfl ?_
                            refine V.icmp_ne (tgt := 317) (r := 302) hC dX3_run_299 (by decide) rfl (fun c25 => ?_) (fun c25 => ?_)
                            · rw [if_neg c25] at h
                              refine V.iload (r := 319) hC 7 dX3_run_317 rfl rfl ?_
                              refine V.iload (r := 321) hC 6 dX3_run_319 rfl rfl ?_
                              refine V.icmp_ne (tgt := 328) (r := 324) hC dX3_run_321 (by decide) rfl (fun c26 => ?_) (fun c26 => ?_)
                              · rw [if_neg c26] at h
                                refine V.iconst (r := 329) hC dX3_run_328 ki_0 rfl ?_
                                refine V.pick (lv' := [(0, .inr 21), (2, .inr 28), (3, .inl ((x3 + (-1 : Int32)) + (-1 : Int32))), (4, .inl x4)]) [0, 1, 2, 3] rfl ?_
                                exact v3_run_b329  hC hR ih _ _ _ _ h
                              · rw [if_pos c26] at h
                                refine V.iconst (r := 325) hC dX3_run_324 ki_1 rfl ?_
                                refine V.goto (tgt := 329) hC dX3_run_325 (by decide) ?_
                                refine V.pick (lv' := [(0, .inr 21), (2, .inr 28), (3, .inl ((x3 + (-1 : Int32)) + (-1 : Int32))), (4, .inl x4)]) [0, 1, 2, 3] rfl ?_
                                exact v3_run_b329  hC hR ih _ _ _ _ h
                            · rw [if_pos c25] at h
                              refine V.iload (r := 304) hC 7 dX3_run_302 rfl rfl ?_
                              refine V.iload (r := 306) hC 6 dX3_run_304 rfl rfl ?_
                              refine V.icmp_le (tgt := 313) (r := 309) hC dX3_run_306 (by decide) rfl (fun c27 => ?_) (fun c27 => ?_)
                              · rw [if_pos c27] at h
                                refine V.iconst (r := 314) hC dX3_run_313 ki_0 rfl ?_
                                refine V.goto (tgt := 329) hC dX3_run_314 (by decide) ?_
                                refine V.pick (lv' := [(0, .inr 21), (2, .inr 28), (3, .inl ((x3 + (-1 : Int32)) + (-1 : Int32))), (4, .inl x4)]) [0, 1, 2, 3] rfl ?_
                                exact v3_run_b329  hC hR ih _ _ _ _ h
                              · rw [if_neg c27] at h
                                refine V.iconst (r := 310) hC dX3_run_309 ki_1 rfl ?_
                                refine V.goto (tgt := 329) hC dX3_run_310 (by decide) ?_
                                refine V.pick (lv' := [(0, .inr 21), (2, .inr 28), (3, .inl ((x3 + (-1 : Int32)) + (-1 : Int32))), (4, .inl x4)]) [0, 1, 2, 3] rfl ?_
                                exact v3_run_b329  hC hR ih _ _ _ _ h
                          · rw [if_pos c24] at h
                            refine V.iload (r := 282) hC 7 dX3_run_280 rfl rfl ?_
                            refine V.iload (r := 284) hC 6 dX3_run_282 rfl rfl ?_
                            refine V.icmp_ge (tgt := 291) (r := 287) hC dX3_run_284 (by decide) rfl (fun c28 => ?_) (fun c28 => ?_)
                            · rw [if_pos c28] at h
                              refine V.iconst (r := 292) hC dX3_run_291 ki_0 rfl ?_
                              refine V.goto (tgt := 329) hC dX3_run_292 (by decide) ?_
                              refine V.pick (lv' := [(0, .inr 21), (2, .inr 28), (3, .inl ((x3 + (-1 : Int32)) + (-1 : Int32))), (4, .inl x4)]) [0, 1, 2, 3] rfl ?_
                              exact v3_run_b329  hC hR ih _ _ _ _ h
                            · rw [if_neg c28] at h
                              refine V.iconst (r := 288) hC dX3_run_287 ki_1 rfl ?_
                              refine V.goto (tgt := 329) hC dX3_run_288 (by decide) ?_
                              refine V.pick (lv' := [(0, .inr 21), (2, .inr 28), (3, .inl ((x3 + (-1 : Int32)) + (-1 : Int32))), (4, .inl x4)]) [0, 1, 2, 3] rfl ?_
                              exact v3_run_b329  hC hR ih _ _ _ _ h
                      · rw [if_neg c13] at h
                        refine V.iconst (r := 240) hC dX3_run_239 ki_0 rfl ?_
                        cases h
                        exact hR _ _ (Or.inl rfl) dX3_run_240
                  · rw [if_pos c11] at h
                    exact v3_run_b191  hC hR ih _ _ _ _ _ h
              · rw [if_pos c9] at h
                refine V.aload_n (r := 161) hC 0 dX3_run_160 rfl rfl ?_
                refine V.aload_n (r := 162) hC 0 dX3_run_161 rfl rfl ?_
                refine V.getI (b := 28) (i := 0) (j := 8) (r := 165) hC xcl_3 sh_21 fl_RX3_37 dX3_run_162 (by decide) rfl rfl ?_
                refine V.if_ne (tgt := 172) (r := 168) hC dX3_run_165 (by decide) rfl (fun c29 => ?_) (fun c29 => ?_)
                · rw [if_neg c29] at h
                  refine V.iconst (r := 173) hC dX3_run_172 ki_0 rfl ?_
                  refine V.pick (lv' := [(0, .inr 21), (2, .inr 28), (3, .inl x3), (4, .inl x4)]) [0, 1, 2, 3] rfl ?_
                  exact v3_run_b173  hC hR ih _ _ _ _ h
                · rw [if_pos c29] at h
                  refine V.iconst (r := 169) hC dX3_run_168 ki_1 rfl ?_
                  refine V.goto (tgt := 173) hC dX3_run_169 (by decide) ?_
                  refine V.pick (lv' := [(0, .inr 21), (2, .inr 28), (3, .inl x3), (4, .inl x4)]) [0, 1, 2, 3] rfl ?_
                  exact v3_run_b173  hC hR ih _ _ _ _ h
            · rw [if_pos c8] at h
              exact v3_run_b99  hC hR ih _ _ _ _ _ h
        · rw [if_pos c6] at h
          refine V.aload_n (r := 60) hC 0 dX3_run_59 rfl rfl ?_
          refine V.iload_n (r := 61) hC 2 dX3_run_60 rfl rfl ?_
          refine V.if_le (tgt := 81) (r := 64) hC dX3_run_61 (by decide) rfl (fun c30 => ?_) (fun c30 => ?_)
          · rw [if_pos c30] at h
            refine V.pick (lv' := []) [] rfl ?_
            exact v3_run_b81  hC hR  _ h
          · rw [if_neg c30] at h
            refine V.iload_n (r := 65) hC 2 dX3_run_64 rfl rfl ?_
            refine V.bipush (r := 67) hC dX3_run_65 kb_64 rfl ?_
            refine V.icmp_gt (tgt := 81) (r := 70) hC dX3_run_67 (by decide) rfl (fun c31 => ?_) (fun c31 => ?_)
            · rw [if_pos c31] at h
              refine V.pick (lv' := []) [] rfl ?_
              exact v3_run_b81  hC hR  _ h
            · rw [if_neg c31] at h
              refine V.aload_n (r := 71) hC 0 dX3_run_70 rfl rfl ?_
              refine V.getR (k' := 27) (j := 7) (r := 74) hC xcl_3 sh_21 fl_RX3_34 dX3_run_71 (by decide) rfl rfl ?_
              refine V.iload_n (r := 75) hC 2 dX3_run_74 rfl rfl ?_
              refine V.iconst (r := 76) hC dX3_run_75 ki_1 rfl ?_
              refine V.isub (r := 77) hC dX3_run_76 rfl ?_
              by_cases c32 : (x3 - (1 : Int32)) < 0 ∨ 64 ≤ (x3 - (1 : Int32)).toNatClampNeg
              · rw [if_pos c32] at h; cases h
              rw [if_neg c32] at h
              refine V.iald (t := (x3 - (1 : Int32)).toNatClampNeg) (r := 78) hC sh_27 dX3_run_77 c32 (Nat.zero_add _) rfl ?_
              refine V.goto (tgt := 82) hC dX3_run_78 (by decide) ?_
              refine V.pick (lv' := []) [] rfl ?_
              exact v3_run_b82  hC hR  _ _ h
def g3_run (a0 : Int32) (M : xMem) : Option (Int32 × xMem) :=
mset (upM M 28 0 (0 : Int32)) fun M1 =>
mset (upM M1 29 0 (0 : Int32)) fun M2 =>
g3_run_b19 5000 (0 : Int32) (xMax a0 (0 : Int32)) M2
set_option maxHeartbeats 4000000 in
set_option maxRecDepth 20000 in
theorem v3_run {G : xG} (hC : xC G cX3_run 9 RX3 1) {R : Int32 × xMem} (hR : xRZ G cX3_run 9 R) {a0 : Int32} {M : xMem} (h : g3_run a0 M = some R) : V G 9 0 [(0, .inr 21), (1, .inl a0), (2, .inr 28)] [] M := by
  unfold g3_run at h
  refine V.iconst (r := 1) hC dX3_run_0 ki_0 rfl ?_
  refine V.ist_n (lv' := [(0, .inr 21), (1, .inl a0), (2, .inr 28), (3, .inl (0 : Int32))]) (r := 2) hC dX3_run_1 rfl rfl rfl ?_
  refine V.aload_n (r := 3) hC 0 dX3_run_2 rfl rfl ?_
  refine V.iconst (r := 4) hC dX3_run_3 ki_0 rfl ?_
  rw [mset_eq] at h
  refine V.putI (b := 28) (i := 0) (j := 8) (ty := .boolean) (r := 7) hC xcl_3 xcp_3 sh_21 fl_RX3_37 dX3_run_4 (by decide) rfl rfl (by decide +kernel) (x01n (Or.inl rfl)) (x01f (Or.inl rfl)) rfl ?_
  generalize upM M 28 0 (0 : Int32) = M1 at h ⊢
  refine V.aload_n (r := 8) hC 0 dX3_run_7 rfl rfl ?_
  refine V.iconst (r := 9) hC dX3_run_8 ki_0 rfl ?_
  rw [mset_eq] at h
  refine V.putI (b := 29) (i := 0) (j := 9) (ty := .int) (r := 12) hC xcl_3 xcp_3 sh_21 fl_RX3_41 dX3_run_9 (by decide) rfl rfl (by decide +kernel) rfl rfl rfl ?_
  generalize upM M1 29 0 (0 : Int32) = M2 at h ⊢
  refine V.iload_n (r := 13) hC 1 dX3_run_12 rfl rfl ?_
  refine V.iconst (r := 14) hC dX3_run_13 ki_0 rfl ?_
  refine V.mmax (r := 17) hC jw_RX3_66 (by decide) (Nat.le_of_ble_eq_true rfl) dX3_run_14 rfl ?_
  refine V.ist (lv' := [(0, .inr 21), (1, .inl a0), (2, .inr 28), (3, .inl (0 : Int32)), (4, .inl (xMax a0 (0 : Int32)))]) (r := 19) hC dX3_run_17 rfl rfl rfl ?_
  refine V.pick (lv' := [(0, .inr 21), (2, .inr 28), (3, .inl (0 : Int32)), (4, .inl (xMax a0 (0 : Int32)))]) [0, 2, 3, 4] rfl ?_
  exact v3_run_b19  hC hR  5000 _ _ _ h
theorem met3_run {R : Int32 × xMem} {a0 : Int32} {M : xMem} (h : g3_run a0 M = some R) : xMet yX3_run cX3_run 9 (some .boolean) 1 [.inr 21, .inl a0, .inr 28] M (some R.1) R.2 := xMet.ofZ (by decide +kernel) (Nat.le_of_ble_eq_true rfl) fun _ hC hR => v3_run  hC hR h
def g3_ask_b91 (x1 s0 : Int32) (M : xMem) : Option (Int32 × xMem) :=
if x1 < 0 ∨ 8 ≤ x1.toNatClampNeg then none else
some (xMax ((xTab 0).getD x1.toNatClampNeg 0) (xMin ((xTab 1).getD x1.toNatClampNeg 0) s0), M)
set_option maxHeartbeats 4000000 in
set_option maxRecDepth 20000 in
theorem v3_ask_b91 {G : xG} (hC : xC G cX3_ask 5 RX3 2) {R : Int32 × xMem} (hR : xRI G cX3_ask 5 R) (x1 s0 : Int32) (M : xMem) (h : g3_ask_b91 x1 s0 M = some R) : V G 5 91 [(1, .inl x1)] [.inl s0] M := by
  unfold g3_ask_b91 at h
  refine V.ist (lv' := [(1, .inl x1), (4, .inl s0)]) (r := 93) hC dX3_ask_91 rfl rfl rfl ?_
  refine V.gets (j := 0) (r := 96) hC (by decide) gs_RX3_50 dX3_ask_93 rfl ?_
  refine V.iload_n (r := 97) hC 0 dX3_ask_96 rfl rfl ?_
  by_cases c15 : x1 < 0 ∨ 8 ≤ x1.toNatClampNeg
  · rw [if_pos c15] at h; cases h
  rw [if_neg c15] at h
  refine V.iaks (j := 0) (r := 98) hC (by decide) rfl dX3_ask_97 c15 rfl ?_
  refine V.gets (j := 1) (r := 101) hC (by decide) gs_RX3_53 dX3_ask_98 rfl ?_
  refine V.iload_n (r := 102) hC 0 dX3_ask_101 rfl rfl ?_
  refine V.iaks (j := 1) (r := 103) hC (by decide) rfl dX3_ask_102 c15 rfl ?_
  refine V.iload (r := 105) hC 1 dX3_ask_103 rfl rfl ?_
  refine V.mmin (r := 108) hC jw_RX3_60 (by decide) (Nat.le_of_ble_eq_true rfl) dX3_ask_105 rfl ?_
  refine V.mmax (r := 111) hC jw_RX3_66 (by decide) (Nat.le_of_ble_eq_true rfl) dX3_ask_108 rfl ?_
  cases h
  exact hR _ _ dX3_ask_111
def g3_ask_b112 (k24 : Int32 → Int32 → xMem → Option (Int32 × xMem)) (x1 x3 : Int32) (M : xMem) : Option (Int32 × xMem) :=
k24 x1 (x3 + (1 : Int32)) M
set_option maxHeartbeats 4000000 in
set_option maxRecDepth 20000 in
theorem v3_ask_b112 {G : xG} (hC : xC G cX3_ask 5 RX3 2) {R : Int32 × xMem} (hR : xRI G cX3_ask 5 R) {k24 : Int32 → Int32 → xMem → Option (Int32 × xMem)} (hk24 : ∀ (y1 y3 : Int32) (N : xMem), k24 y1 y3 N = some R → V G 5 24 [(0, .inr 21), (1, .inl y1), (2, .inr 28), (3, .inl y3)] [] N) (x1 x3 : Int32) (M : xMem) (h : g3_ask_b112 k24 x1 x3 M = some R) : V G 5 112 [(0, .inr 21), (1, .inl x1), (2, .inr 28), (3, .inl x3)] [] M := by
  unfold g3_ask_b112 at h
  refine V.inc (lv' := [(0, .inr 21), (1, .inl x1), (2, .inr 28), (3, .inl (x3 + (1 : Int32)))]) (r := 115) hC 3 dX3_ask_112 rfl ki_1 rfl rfl rfl ?_
  refine V.goto (tgt := 24) hC dX3_ask_115 (by decide) ?_
  exact hk24 _ _ _ h
def g3_ask_b24 : Nat → Int32 → Int32 → xMem → Option (Int32 × xMem)
  | 0, _, _, _ => none
  | n + 1, x1, x3, M => 
    (if (M 26 0) ≤ x3 then
    (some ((0 : Int32), M))
    else
    (if (16 : Int32) ≤ x3 then
    (some ((0 : Int32), M))
    else
    (if x3 < 0 ∨ 16 ≤ x3.toNatClampNeg then none else
    if (M 23 x3.toNatClampNeg) = x1 then
    (Option.bind (g3_run (M 25 x3.toNatClampNeg) M) fun q8 =>
    if (q8.1) = 0 then
    (g3_ask_b112 (g3_ask_b24 n) x1 x3 q8.2)
    else
    (if (q8.2 28 0) = 0 then
    (g3_ask_b112 (g3_ask_b24 n) x1 x3 q8.2)
    else
    (Option.bind (g3_run (q8.2 24 x3.toNatClampNeg) q8.2) fun q12 =>
    if (q12.1) = 0 then
    (g3_ask_b91 x1 (0 : Int32) q12.2)
    else
    (g3_ask_b91 x1 (q12.2 29 0) q12.2))))
    else
    (g3_ask_b112 (g3_ask_b24 n) x1 x3 M))))
set_option maxHeartbeats 4000000 in
set_option maxRecDepth 20000 in
theorem v3_ask_b24 {G : xG} (hC : xC G cX3_ask 5 RX3 2) {R : Int32 × xMem} (hR : xRI G cX3_ask 5 R) : ∀ (n : Nat) (x1 x3 : Int32) (M : xMem), g3_ask_b24 n x1 x3 M = some R → V G 5 24 [(0, .inr 21), (1, .inl x1), (2, .inr 28), (3, .inl x3)] [] M := by
  intro n
  induction n with
  | zero => intro x1 x3 M h; rw [g3_ask_b24] at h; cases h
  | succ n ih =>
    intro x1 x3 M h
    rw [g3_ask_b24] at h
    refine V.iload_n (r := 25) hC 3 dX3_ask_24 rfl rfl ?_
    refine V.aload_n (r := 26) hC 0 dX3_ask_25 rfl rfl ?_
    refine V.getI (b := 26) (i := 0) (j := 6) (r := 29) hC xcl_3 sh_21 fl_RX3_31 dX3_ask_26 (by decide) rfl rfl ?_
    refine V.icmp_ge (tgt := 118) (r := 32) hC dX3_ask_29 (by decide) rfl (fun c4 => ?_) (fun c4 => ?_)
    · rw [if_pos c4] at h
      refine V.iconst (r := 119) hC dX3_ask_118 ki_0 rfl ?_
      cases h
      exact hR _ _ dX3_ask_119
    · rw [if_neg c4] at h
      refine V.iload_n (r := 33) hC 3 dX3_ask_32 rfl rfl ?_
      refine V.bipush (r := 35) hC dX3_ask_33 kb_16 rfl ?_
      refine V.icmp_ge (tgt := 118) (r := 38) hC dX3_ask_35 (by decide) rfl (fun c5 => ?_) (fun c5 => ?_)
      · rw [if_pos c5] at h
        refine V.iconst (r := 119) hC dX3_ask_118 ki_0 rfl ?_
        cases h
        exact hR _ _ dX3_ask_119
      · rw [if_neg c5] at h
        refine V.aload_n (r := 39) hC 0 dX3_ask_38 rfl rfl ?_
        refine V.getR (k' := 24) (j := 3) (r := 42) hC xcl_3 sh_21 fl_RX3_22 dX3_ask_39 (by decide) rfl rfl ?_
        refine V.iload_n (r := 43) hC 3 dX3_ask_42 rfl rfl ?_
        by_cases c6 : x3 < 0 ∨ 16 ≤ x3.toNatClampNeg
        · rw [if_pos c6] at h; cases h
        rw [if_neg c6] at h
        refine V.iald (t := x3.toNatClampNeg) (r := 44) hC sh_24 dX3_ask_43 c6 (Nat.zero_add _) rfl ?_
        refine V.iload_n (r := 45) hC 1 dX3_ask_44 rfl rfl ?_
        refine V.icmp_ne (tgt := 112) (r := 48) hC dX3_ask_45 (by decide) rfl (fun c7 => ?_) (fun c7 => ?_)
        · rw [if_neg c7] at h
          exact v3_ask_b112  hC hR ih _ _ _ h
        · rw [if_pos c7] at h
          refine V.aload_n (r := 49) hC 0 dX3_ask_48 rfl rfl ?_
          refine V.aload_n (r := 50) hC 0 dX3_ask_49 rfl rfl ?_
          refine V.getR (k' := 26) (j := 5) (r := 53) hC xcl_3 sh_21 fl_RX3_28 dX3_ask_50 (by decide) rfl rfl ?_
          refine V.iload_n (r := 54) hC 3 dX3_ask_53 rfl rfl ?_
          refine V.iald (t := x3.toNatClampNeg) (r := 55) hC sh_26 dX3_ask_54 c6 (Nat.zero_add _) rfl ?_
          refine V.aload_n (r := 56) hC 2 dX3_ask_55 rfl rfl ?_
          obtain ⟨q8, hq9, h⟩ := Option.bind_eq_some_iff.mp h
          try dsimp only at h
          refine V.invVi (as := [.inl (M 25 x3.toNatClampNeg), .inr 28]) (st := []) (r := 59) hC (met3_run hq9) yv_X3_run ml_RX3_56 sh_21 rfl rfl dX3_ask_56 (by decide) rfl rfl rfl rfl ?_
          refine V.if_eq (tgt := 112) (r := 62) hC dX3_ask_59 (by decide) rfl (fun c10 => ?_) (fun c10 => ?_)
          · rw [if_pos c10] at h
            exact v3_ask_b112  hC hR ih _ _ _ h
          · rw [if_neg c10] at h
            refine V.aload_n (r := 63) hC 0 dX3_ask_62 rfl rfl ?_
            refine V.getI (b := 28) (i := 0) (j := 8) (r := 66) hC xcl_3 sh_21 fl_RX3_37 dX3_ask_63 (by decide) rfl rfl ?_
            refine V.if_eq (tgt := 112) (r := 69) hC dX3_ask_66 (by decide) rfl (fun c11 => ?_) (fun c11 => ?_)
            · rw [if_pos c11] at h
              exact v3_ask_b112  hC hR ih _ _ _ h
            · rw [if_neg c11] at h
              refine V.aload_n (r := 70) hC 0 dX3_ask_69 rfl rfl ?_
              refine V.aload_n (r := 71) hC 0 dX3_ask_70 rfl rfl ?_
              refine V.getR (k' := 25) (j := 4) (r := 74) hC xcl_3 sh_21 fl_RX3_25 dX3_ask_71 (by decide) rfl rfl ?_
              refine V.iload_n (r := 75) hC 3 dX3_ask_74 rfl rfl ?_
              refine V.iald (t := x3.toNatClampNeg) (r := 76) hC sh_25 dX3_ask_75 c6 (Nat.zero_add _) rfl ?_
              refine V.aload_n (r := 77) hC 2 dX3_ask_76 rfl rfl ?_
              obtain ⟨q12, hq13, h⟩ := Option.bind_eq_some_iff.mp h
              try dsimp only at h
              refine V.invVi (as := [.inl (q8.2 24 x3.toNatClampNeg), .inr 28]) (st := []) (r := 80) hC (met3_run hq13) yv_X3_run ml_RX3_56 sh_21 rfl rfl dX3_ask_77 (by decide) rfl rfl rfl rfl ?_
              refine V.if_eq (tgt := 90) (r := 83) hC dX3_ask_80 (by decide) rfl (fun c14 => ?_) (fun c14 => ?_)
              · rw [if_pos c14] at h
                refine V.iconst (r := 91) hC dX3_ask_90 ki_0 rfl ?_
                refine V.pick (lv' := [(1, .inl x1)]) [1] rfl ?_
                exact v3_ask_b91  hC hR  _ _ _ h
              · rw [if_neg c14] at h
                refine V.aload_n (r := 84) hC 0 dX3_ask_83 rfl rfl ?_
                refine V.getI (b := 29) (i := 0) (j := 9) (r := 87) hC xcl_3 sh_21 fl_RX3_41 dX3_ask_84 (by decide) rfl rfl ?_
                refine V.goto (tgt := 91) hC dX3_ask_87 (by decide) ?_
                refine V.pick (lv' := [(1, .inl x1)]) [1] rfl ?_
                exact v3_ask_b91  hC hR  _ _ _ h
def g3_ask (a0 : Int32) (M : xMem) : Option (Int32 × xMem) :=
if a0 < 0 then
(some ((0 : Int32), M))
else
(if (8 : Int32) ≤ a0 then
(some ((0 : Int32), M))
else
(if a0 < (8 : Int32) then
(g3_ask_b24 5000 a0 (0 : Int32) M)
else
(some ((0 : Int32), M))))
set_option maxHeartbeats 4000000 in
set_option maxRecDepth 20000 in
theorem v3_ask {G : xG} (hC : xC G cX3_ask 5 RX3 2) {R : Int32 × xMem} (hR : xRI G cX3_ask 5 R) {a0 : Int32} {M : xMem} (h : g3_ask a0 M = some R) : V G 5 0 [(0, .inr 21), (1, .inl a0), (2, .inr 28)] [] M := by
  unfold g3_ask at h
  refine V.iload_n (r := 1) hC 1 dX3_ask_0 rfl rfl ?_
  refine V.if_lt (tgt := 20) (r := 4) hC dX3_ask_1 (by decide) rfl (fun c1 => ?_) (fun c1 => ?_)
  · rw [if_pos c1] at h
    refine V.iconst (r := 21) hC dX3_ask_20 ki_0 rfl ?_
    cases h
    exact hR _ _ dX3_ask_21
  · rw [if_neg c1] at h
    refine V.iload_n (r := 5) hC 1 dX3_ask_4 rfl rfl ?_
    refine V.gets (j := 0) (r := 8) hC (by decide) gs_RX3_50 dX3_ask_5 rfl ?_
    refine V.alens (j := 0) (v := (8 : Int32)) (r := 9) hC (by decide) dX3_ask_8 (by decide) rfl ?_
    refine V.icmp_ge (tgt := 20) (r := 12) hC dX3_ask_9 (by decide) rfl (fun c2 => ?_) (fun c2 => ?_)
    · rw [if_pos c2] at h
      refine V.iconst (r := 21) hC dX3_ask_20 ki_0 rfl ?_
      cases h
      exact hR _ _ dX3_ask_21
    · rw [if_neg c2] at h
      refine V.iload_n (r := 13) hC 1 dX3_ask_12 rfl rfl ?_
      refine V.gets (j := 1) (r := 16) hC (by decide) gs_RX3_53 dX3_ask_13 rfl ?_
      refine V.alens (j := 1) (v := (8 : Int32)) (r := 17) hC (by decide) dX3_ask_16 (by decide) rfl ?_
      refine V.icmp_lt (tgt := 22) (r := 20) hC dX3_ask_17 (by decide) rfl (fun c3 => ?_) (fun c3 => ?_)
      · rw [if_pos c3] at h
        refine V.iconst (r := 23) hC dX3_ask_22 ki_0 rfl ?_
        refine V.ist_n (lv' := [(0, .inr 21), (1, .inl a0), (2, .inr 28), (3, .inl (0 : Int32))]) (r := 24) hC dX3_ask_23 rfl rfl rfl ?_
        exact v3_ask_b24  hC hR  5000 _ _ _ h
      · rw [if_neg c3] at h
        refine V.iconst (r := 21) hC dX3_ask_20 ki_0 rfl ?_
        cases h
        exact hR _ _ dX3_ask_21
theorem met3_ask {R : Int32 × xMem} {a0 : Int32} {M : xMem} (h : g3_ask a0 M = some R) : xMet yX3_ask cX3_ask 5 (some .int) 2 [.inr 21, .inl a0, .inr 28] M (some R.1) R.2 := xMet.ofI (by decide +kernel) (Nat.le_of_ble_eq_true rfl) fun _ hC hR => v3_ask  hC hR h
def g7_add_b3 : Nat → Int32 → Int32 → xMem → Option (xMem)
  | 0, _, _, _ => none
  | n + 1, x1, x2, M => 
    (if x2 < 0 then
    (some M)
    else
    (if (260 : Int32) ≤ (M 121 0) then
    (some M)
    else
    (if (M 121 0) < 0 ∨ 260 ≤ (M 121 0).toNatClampNeg then none else
    mset (upM M 120 (M 121 0).toNatClampNeg (((x1.toUInt32 >>> (x2.toUInt32 &&& Int32.toUInt32 31)).toInt32) &&& (255 : Int32))) fun M4 =>
    mset (upM M4 121 0 ((M4 121 0) + (1 : Int32))) fun M5 =>
    g7_add_b3 n x1 (x2 + (-8 : Int32)) M5)))
set_option maxHeartbeats 4000000 in
set_option maxRecDepth 20000 in
theorem v7_add_b3 {G : xG} (hC : xC G cX7_add 3 RX7 0) {R : xMem} (hR : xRV G cX7_add 3 R) : ∀ (n : Nat) (x1 x2 : Int32) (M : xMem), g7_add_b3 n x1 x2 M = some R → V G 3 3 [(0, .inr 127), (1, .inl x1), (2, .inl x2)] [] M := by
  intro n
  induction n with
  | zero => intro x1 x2 M h; rw [g7_add_b3] at h; cases h
  | succ n ih =>
    intro x1 x2 M h
    rw [g7_add_b3] at h
    refine V.iload_n (r := 4) hC 2 dX7_add_3 rfl rfl ?_
    refine V.if_lt (tgt := 49) (r := 7) hC dX7_add_4 (by decide) rfl (fun c1 => ?_) (fun c1 => ?_)
    · rw [if_pos c1] at h
      cases h
      exact hR _ _ dX7_add_49
    · rw [if_neg c1] at h
      refine V.aload_n (r := 8) hC 0 dX7_add_7 rfl rfl ?_
      refine V.getI (b := 121) (i := 0) (j := 1) (r := 11) hC xcl_7 sh_127 fl_RX7_15 dX7_add_8 (by decide) rfl rfl ?_
      refine V.sipush (r := 14) hC dX7_add_11 ks_260 rfl ?_
      refine V.icmp_ge (tgt := 49) (r := 17) hC dX7_add_14 (by decide) rfl (fun c2 => ?_) (fun c2 => ?_)
      · rw [if_pos c2] at h
        cases h
        exact hR _ _ dX7_add_49
      · rw [if_neg c2] at h
        refine V.aload_n (r := 18) hC 0 dX7_add_17 rfl rfl ?_
        refine V.getR (k' := 128) (j := 0) (r := 21) hC xcl_7 sh_127 fl_RX7_9 dX7_add_18 (by decide) rfl rfl ?_
        refine V.aload_n (r := 22) hC 0 dX7_add_21 rfl rfl ?_
        refine V.getI (b := 121) (i := 0) (j := 1) (r := 25) hC xcl_7 sh_127 fl_RX7_15 dX7_add_22 (by decide) rfl rfl ?_
        refine V.iload_n (r := 26) hC 1 dX7_add_25 rfl rfl ?_
        refine V.iload_n (r := 27) hC 2 dX7_add_26 rfl rfl ?_
        refine V.iushr (r := 28) hC dX7_add_27 rfl ?_
        refine V.sipush (r := 31) hC dX7_add_28 ks_255 rfl ?_
        refine V.iand (r := 32) hC dX7_add_31 rfl ?_
        by_cases c3 : (M 121 0) < 0 ∨ 260 ≤ (M 121 0).toNatClampNeg
        · rw [if_pos c3] at h; cases h
        rw [if_neg c3] at h
        rw [mset_eq] at h
        refine V.iast (t := (M 121 0).toNatClampNeg) (r := 33) hC sh_128 dX7_add_32 c3 (Nat.zero_add _) rfl ?_
        generalize upM M 120 (M 121 0).toNatClampNeg (((x1.toUInt32 >>> (x2.toUInt32 &&& Int32.toUInt32 31)).toInt32) &&& (255 : Int32)) = M4 at h ⊢
        refine V.aload_n (r := 34) hC 0 dX7_add_33 rfl rfl ?_
        refine V.dup (r := 35) hC dX7_add_34 rfl ?_
        refine V.getI (b := 121) (i := 0) (j := 1) (r := 38) hC xcl_7 sh_127 fl_RX7_15 dX7_add_35 (by decide) rfl rfl ?_
        refine V.iconst (r := 39) hC dX7_add_38 ki_1 rfl ?_
        refine V.iadd (r := 40) hC dX7_add_39 rfl ?_
        rw [mset_eq] at h
        refine V.putI (b := 121) (i := 0) (j := 1) (ty := .int) (r := 43) hC xcl_7 xcp_7 sh_127 fl_RX7_15 dX7_add_40 (by decide) rfl rfl (by decide +kernel) rfl rfl rfl ?_
        generalize upM M4 121 0 ((M4 121 0) + (1 : Int32)) = M5 at h ⊢
        refine V.inc (lv' := [(0, .inr 127), (1, .inl x1), (2, .inl (x2 + (-8 : Int32)))]) (r := 46) hC 2 dX7_add_43 rfl ki_m8 rfl rfl rfl ?_
        refine V.goto (tgt := 3) hC dX7_add_46 (by decide) ?_
        exact ih _ _ _ h
def g7_add (a0 : Int32) (M : xMem) : Option (xMem) :=
g7_add_b3 5000 a0 (24 : Int32) M
set_option maxHeartbeats 4000000 in
set_option maxRecDepth 20000 in
theorem v7_add {G : xG} (hC : xC G cX7_add 3 RX7 0) {R : xMem} (hR : xRV G cX7_add 3 R) {a0 : Int32} {M : xMem} (h : g7_add a0 M = some R) : V G 3 0 [(0, .inr 127), (1, .inl a0)] [] M := by
  unfold g7_add at h
  refine V.bipush (r := 2) hC dX7_add_0 kb_24 rfl ?_
  refine V.ist_n (lv' := [(0, .inr 127), (1, .inl a0), (2, .inl (24 : Int32))]) (r := 3) hC dX7_add_2 rfl rfl rfl ?_
  exact v7_add_b3  hC hR  5000 _ _ _ h
theorem met7_add {R : xMem} {a0 : Int32} {M : xMem} (h : g7_add a0 M = some R) : xMet yX7_add cX7_add 3 none 0 [.inr 127, .inl a0] M none R := xMet.ofV (by decide +kernel) (Nat.le_of_ble_eq_true rfl) fun _ hC hR => v7_add  hC hR h
def g7_byteAt (a0 : Int32) (M : xMem) : Option (Int32 × xMem) :=
if a0 < 0 then
(some ((0 : Int32), M))
else
(if (260 : Int32) ≤ a0 then
(some ((0 : Int32), M))
else
(if a0 < 0 ∨ 260 ≤ a0.toNatClampNeg then none else
some (M 120 a0.toNatClampNeg, M)))
set_option maxHeartbeats 4000000 in
set_option maxRecDepth 20000 in
theorem v7_byteAt {G : xG} (hC : xC G cX7_byteAt 2 RX7 0) {R : Int32 × xMem} (hR : xRI G cX7_byteAt 2 R) {a0 : Int32} {M : xMem} (h : g7_byteAt a0 M = some R) : V G 2 0 [(0, .inr 127), (1, .inl a0)] [] M := by
  unfold g7_byteAt at h
  refine V.iload_n (r := 1) hC 1 dX7_byteAt_0 rfl rfl ?_
  refine V.if_lt (tgt := 20) (r := 4) hC dX7_byteAt_1 (by decide) rfl (fun c1 => ?_) (fun c1 => ?_)
  · rw [if_pos c1] at h
    refine V.iconst (r := 21) hC dX7_byteAt_20 ki_0 rfl ?_
    cases h
    exact hR _ _ dX7_byteAt_21
  · rw [if_neg c1] at h
    refine V.iload_n (r := 5) hC 1 dX7_byteAt_4 rfl rfl ?_
    refine V.sipush (r := 8) hC dX7_byteAt_5 ks_260 rfl ?_
    refine V.icmp_ge (tgt := 20) (r := 11) hC dX7_byteAt_8 (by decide) rfl (fun c2 => ?_) (fun c2 => ?_)
    · rw [if_pos c2] at h
      refine V.iconst (r := 21) hC dX7_byteAt_20 ki_0 rfl ?_
      cases h
      exact hR _ _ dX7_byteAt_21
    · rw [if_neg c2] at h
      refine V.aload_n (r := 12) hC 0 dX7_byteAt_11 rfl rfl ?_
      refine V.getR (k' := 128) (j := 0) (r := 15) hC xcl_7 sh_127 fl_RX7_9 dX7_byteAt_12 (by decide) rfl rfl ?_
      refine V.iload_n (r := 16) hC 1 dX7_byteAt_15 rfl rfl ?_
      by_cases c3 : a0 < 0 ∨ 260 ≤ a0.toNatClampNeg
      · rw [if_pos c3] at h; cases h
      rw [if_neg c3] at h
      refine V.iald (t := a0.toNatClampNeg) (r := 17) hC sh_128 dX7_byteAt_16 c3 (Nat.zero_add _) rfl ?_
      refine V.goto (tgt := 21) hC dX7_byteAt_17 (by decide) ?_
      cases h
      exact hR _ _ dX7_byteAt_21
theorem met7_byteAt {R : Int32 × xMem} {a0 : Int32} {M : xMem} (h : g7_byteAt a0 M = some R) : xMet yX7_byteAt cX7_byteAt 2 (some .int) 0 [.inr 127, .inl a0] M (some R.1) R.2 := xMet.ofI (by decide +kernel) (Nat.le_of_ble_eq_true rfl) fun _ hC hR => v7_byteAt  hC hR h
def g7_numberAt (a0 : Int32) (M : xMem) : Option (Int32 × xMem) :=
Option.bind (g7_byteAt a0 M) fun q1 =>
Option.bind (g7_byteAt (a0 + (1 : Int32)) q1.2) fun q3 =>
Option.bind (g7_byteAt (a0 + (2 : Int32)) q3.2) fun q5 =>
Option.bind (g7_byteAt (a0 + (3 : Int32)) q5.2) fun q7 =>
some (((((q1.1) <<< ((24 : Int32) &&& 31)) ||| ((q3.1) <<< ((16 : Int32) &&& 31))) ||| ((q5.1) <<< ((8 : Int32) &&& 31))) ||| (q7.1), q7.2)
set_option maxHeartbeats 4000000 in
set_option maxRecDepth 20000 in
theorem v7_numberAt {G : xG} (hC : xC G cX7_numberAt 2 RX7 1) {R : Int32 × xMem} (hR : xRI G cX7_numberAt 2 R) {a0 : Int32} {M : xMem} (h : g7_numberAt a0 M = some R) : V G 2 0 [(0, .inr 127), (1, .inl a0)] [] M := by
  unfold g7_numberAt at h
  refine V.aload_n (r := 1) hC 0 dX7_numberAt_0 rfl rfl ?_
  refine V.iload_n (r := 2) hC 1 dX7_numberAt_1 rfl rfl ?_
  obtain ⟨q1, hq2, h⟩ := Option.bind_eq_some_iff.mp h
  try dsimp only at h
  refine V.invVi (as := [.inl a0]) (st := []) (r := 5) hC (met7_byteAt hq2) yv_X7_byteAt ml_RX7_19 sh_127 rfl rfl dX7_numberAt_2 (by decide) rfl rfl rfl rfl ?_
  refine V.bipush (r := 7) hC dX7_numberAt_5 kb_24 rfl ?_
  refine V.ishl (r := 8) hC dX7_numberAt_7 rfl ?_
  refine V.aload_n (r := 9) hC 0 dX7_numberAt_8 rfl rfl ?_
  refine V.iload_n (r := 10) hC 1 dX7_numberAt_9 rfl rfl ?_
  refine V.iconst (r := 11) hC dX7_numberAt_10 ki_1 rfl ?_
  refine V.iadd (r := 12) hC dX7_numberAt_11 rfl ?_
  obtain ⟨q3, hq4, h⟩ := Option.bind_eq_some_iff.mp h
  try dsimp only at h
  refine V.invVi (as := [.inl (a0 + (1 : Int32))]) (st := [.inl ((q1.1) <<< ((24 : Int32) &&& 31))]) (r := 15) hC (met7_byteAt hq4) yv_X7_byteAt ml_RX7_19 sh_127 rfl rfl dX7_numberAt_12 (by decide) rfl rfl rfl rfl ?_
  refine V.bipush (r := 17) hC dX7_numberAt_15 kb_16 rfl ?_
  refine V.ishl (r := 18) hC dX7_numberAt_17 rfl ?_
  refine V.ior (r := 19) hC dX7_numberAt_18 rfl ?_
  refine V.aload_n (r := 20) hC 0 dX7_numberAt_19 rfl rfl ?_
  refine V.iload_n (r := 21) hC 1 dX7_numberAt_20 rfl rfl ?_
  refine V.iconst (r := 22) hC dX7_numberAt_21 ki_2 rfl ?_
  refine V.iadd (r := 23) hC dX7_numberAt_22 rfl ?_
  obtain ⟨q5, hq6, h⟩ := Option.bind_eq_some_iff.mp h
  try dsimp only at h
  refine V.invVi (as := [.inl (a0 + (2 : Int32))]) (st := [.inl (((q1.1) <<< ((24 : Int32) &&& 31)) ||| ((q3.1) <<< ((16 : Int32) &&& 31)))]) (r := 26) hC (met7_byteAt hq6) yv_X7_byteAt ml_RX7_19 sh_127 rfl rfl dX7_numberAt_23 (by decide) rfl rfl rfl rfl ?_
  refine V.bipush (r := 28) hC dX7_numberAt_26 kb_8 rfl ?_
  refine V.ishl (r := 29) hC dX7_numberAt_28 rfl ?_
  refine V.ior (r := 30) hC dX7_numberAt_29 rfl ?_
  refine V.aload_n (r := 31) hC 0 dX7_numberAt_30 rfl rfl ?_
  refine V.iload_n (r := 32) hC 1 dX7_numberAt_31 rfl rfl ?_
  refine V.iconst (r := 33) hC dX7_numberAt_32 ki_3 rfl ?_
  refine V.iadd (r := 34) hC dX7_numberAt_33 rfl ?_
  obtain ⟨q7, hq8, h⟩ := Option.bind_eq_some_iff.mp h
  try dsimp only at h
  refine V.invVi (as := [.inl (a0 + (3 : Int32))]) (st := [.inl ((((q1.1) <<< ((24 : Int32) &&& 31)) ||| ((q3.1) <<< ((16 : Int32) &&& 31))) ||| ((q5.1) <<< ((8 : Int32) &&& 31)))]) (r := 37) hC (met7_byteAt hq8) yv_X7_byteAt ml_RX7_19 sh_127 rfl rfl dX7_numberAt_34 (by decide) rfl rfl rfl rfl ?_
  refine V.ior (r := 38) hC dX7_numberAt_37 rfl ?_
  cases h
  exact hR _ _ dX7_numberAt_38
theorem met7_numberAt {R : Int32 × xMem} {a0 : Int32} {M : xMem} (h : g7_numberAt a0 M = some R) : xMet yX7_numberAt cX7_numberAt 2 (some .int) 1 [.inr 127, .inl a0] M (some R.1) R.2 := xMet.ofI (by decide +kernel) (Nat.le_of_ble_eq_true rfl) fun _ hC hR => v7_numberAt  hC hR h
