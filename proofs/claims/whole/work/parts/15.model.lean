-- 15.model
def g9_in (a0 a1 a2 : Int32) (M : xMem) : Option (Int32 × xMem) :=
if a0 < a1 then
(some ((0 : Int32), M))
else
(if a2 < a0 then
(some ((0 : Int32), M))
else
(some ((1 : Int32), M)))
set_option maxHeartbeats 4000000 in
set_option maxRecDepth 20000 in
theorem v9_in {G : xG} (hC : xC G cX9_in 3 RX9 0) {R : Int32 × xMem} (hR : xRZ G cX9_in 3 R) {a0 a1 a2 : Int32} {M : xMem} (h : g9_in a0 a1 a2 M = some R) : V G 3 0 [(0, .inl a0), (1, .inl a1), (2, .inl a2)] [] M := by
  unfold g9_in at h
  refine V.iload_n (r := 1) hC 0 dX9_in_0 rfl rfl ?_
  refine V.iload_n (r := 2) hC 1 dX9_in_1 rfl rfl ?_
  refine V.icmp_lt (tgt := 14) (r := 5) hC dX9_in_2 (by decide) rfl (fun c1 => ?_) (fun c1 => ?_)
  · rw [if_pos c1] at h
    refine V.iconst (r := 15) hC dX9_in_14 ki_0 rfl ?_
    cases h
    exact hR _ _ (Or.inl rfl) dX9_in_15
  · rw [if_neg c1] at h
    refine V.iload_n (r := 6) hC 0 dX9_in_5 rfl rfl ?_
    refine V.iload_n (r := 7) hC 2 dX9_in_6 rfl rfl ?_
    refine V.icmp_gt (tgt := 14) (r := 10) hC dX9_in_7 (by decide) rfl (fun c2 => ?_) (fun c2 => ?_)
    · rw [if_pos c2] at h
      refine V.iconst (r := 15) hC dX9_in_14 ki_0 rfl ?_
      cases h
      exact hR _ _ (Or.inl rfl) dX9_in_15
    · rw [if_neg c2] at h
      refine V.iconst (r := 11) hC dX9_in_10 ki_1 rfl ?_
      refine V.goto (tgt := 15) hC dX9_in_11 (by decide) ?_
      cases h
      exact hR _ _ (Or.inr rfl) dX9_in_15
theorem met9_in {R : Int32 × xMem} {a0 a1 a2 : Int32} {M : xMem} (h : g9_in a0 a1 a2 M = some R) : xMet yX9_in cX9_in 3 (some .boolean) 0 [.inl a0, .inl a1, .inl a2] M (some R.1) R.2 := xMet.ofZ (by decide +kernel) (Nat.le_of_ble_eq_true rfl) fun _ hC hR => v9_in  hC hR h
def g9_min (a0 a1 : Int32) (M : xMem) : Option (Int32 × xMem) :=
if a1 ≤ a0 then
(some (a1, M))
else
(some (a0, M))
set_option maxHeartbeats 4000000 in
set_option maxRecDepth 20000 in
theorem v9_min {G : xG} (hC : xC G cX9_min 2 RX9 0) {R : Int32 × xMem} (hR : xRI G cX9_min 2 R) {a0 a1 : Int32} {M : xMem} (h : g9_min a0 a1 M = some R) : V G 2 0 [(0, .inl a0), (1, .inl a1)] [] M := by
  unfold g9_min at h
  refine V.iload_n (r := 1) hC 0 dX9_min_0 rfl rfl ?_
  refine V.iload_n (r := 2) hC 1 dX9_min_1 rfl rfl ?_
  refine V.icmp_ge (tgt := 9) (r := 5) hC dX9_min_2 (by decide) rfl (fun c1 => ?_) (fun c1 => ?_)
  · rw [if_pos c1] at h
    refine V.iload_n (r := 10) hC 1 dX9_min_9 rfl rfl ?_
    cases h
    exact hR _ _ dX9_min_10
  · rw [if_neg c1] at h
    refine V.iload_n (r := 6) hC 0 dX9_min_5 rfl rfl ?_
    refine V.goto (tgt := 10) hC dX9_min_6 (by decide) ?_
    cases h
    exact hR _ _ dX9_min_10
theorem met9_min {R : Int32 × xMem} {a0 a1 : Int32} {M : xMem} (h : g9_min a0 a1 M = some R) : xMet yX9_min cX9_min 2 (some .int) 0 [.inl a0, .inl a1] M (some R.1) R.2 := xMet.ofI (by decide +kernel) (Nat.le_of_ble_eq_true rfl) fun _ hC hR => v9_min  hC hR h
def g9_held (a0 a1 : Int32) (M : xMem) : Option (Int32 × xMem) :=
if 0 ≤ a0 then
(if a0 ≤ a1 then
(some (a0, M))
else
(some (a1, M)))
else
(some ((0 : Int32), M))
set_option maxHeartbeats 4000000 in
set_option maxRecDepth 20000 in
theorem v9_held {G : xG} (hC : xC G cX9_held 2 RX9 0) {R : Int32 × xMem} (hR : xRI G cX9_held 2 R) {a0 a1 : Int32} {M : xMem} (h : g9_held a0 a1 M = some R) : V G 2 0 [(0, .inl a0), (1, .inl a1)] [] M := by
  unfold g9_held at h
  refine V.iload_n (r := 1) hC 0 dX9_held_0 rfl rfl ?_
  refine V.if_ge (tgt := 8) (r := 4) hC dX9_held_1 (by decide) rfl (fun c1 => ?_) (fun c1 => ?_)
  · rw [if_pos c1] at h
    refine V.iload_n (r := 9) hC 0 dX9_held_8 rfl rfl ?_
    refine V.iload_n (r := 10) hC 1 dX9_held_9 rfl rfl ?_
    refine V.icmp_le (tgt := 17) (r := 13) hC dX9_held_10 (by decide) rfl (fun c2 => ?_) (fun c2 => ?_)
    · rw [if_pos c2] at h
      refine V.iload_n (r := 18) hC 0 dX9_held_17 rfl rfl ?_
      cases h
      exact hR _ _ dX9_held_18
    · rw [if_neg c2] at h
      refine V.iload_n (r := 14) hC 1 dX9_held_13 rfl rfl ?_
      refine V.goto (tgt := 18) hC dX9_held_14 (by decide) ?_
      cases h
      exact hR _ _ dX9_held_18
  · rw [if_neg c1] at h
    refine V.iconst (r := 5) hC dX9_held_4 ki_0 rfl ?_
    refine V.goto (tgt := 18) hC dX9_held_5 (by decide) ?_
    cases h
    exact hR _ _ dX9_held_18
theorem met9_held {R : Int32 × xMem} {a0 a1 : Int32} {M : xMem} (h : g9_held a0 a1 M = some R) : xMet yX9_held cX9_held 2 (some .int) 0 [.inl a0, .inl a1] M (some R.1) R.2 := xMet.ofI (by decide +kernel) (Nat.le_of_ble_eq_true rfl) fun _ hC hR => v9_held  hC hR h
def g9_size (a0 : Int32) (M : xMem) : Option (Int32 × xMem) :=
if 0 ≤ a0 then
(some (a0, M))
else
(some (-a0, M))
set_option maxHeartbeats 4000000 in
set_option maxRecDepth 20000 in
theorem v9_size {G : xG} (hC : xC G cX9_size 1 RX9 0) {R : Int32 × xMem} (hR : xRI G cX9_size 1 R) {a0 : Int32} {M : xMem} (h : g9_size a0 M = some R) : V G 1 0 [(0, .inl a0)] [] M := by
  unfold g9_size at h
  refine V.iload_n (r := 1) hC 0 dX9_size_0 rfl rfl ?_
  refine V.if_ge (tgt := 9) (r := 4) hC dX9_size_1 (by decide) rfl (fun c1 => ?_) (fun c1 => ?_)
  · rw [if_pos c1] at h
    refine V.iload_n (r := 10) hC 0 dX9_size_9 rfl rfl ?_
    cases h
    exact hR _ _ dX9_size_10
  · rw [if_neg c1] at h
    refine V.iload_n (r := 5) hC 0 dX9_size_4 rfl rfl ?_
    refine V.ineg (r := 6) hC dX9_size_5 rfl ?_
    refine V.goto (tgt := 10) hC dX9_size_6 (by decide) ?_
    cases h
    exact hR _ _ dX9_size_10
theorem met9_size {R : Int32 × xMem} {a0 : Int32} {M : xMem} (h : g9_size a0 M = some R) : xMet yX9_size cX9_size 1 (some .int) 0 [.inl a0] M (some R.1) R.2 := xMet.ofI (by decide +kernel) (Nat.le_of_ble_eq_true rfl) fun _ hC hR => v9_size  hC hR h
def g9_has (a0 a1 : Int32) (M : xMem) : Option (Int32 × xMem) :=
if ((a0 >>> (a1 &&& 31)) &&& (1 : Int32)) = (1 : Int32) then
(some ((1 : Int32), M))
else
(some ((0 : Int32), M))
set_option maxHeartbeats 4000000 in
set_option maxRecDepth 20000 in
theorem v9_has {G : xG} (hC : xC G cX9_has 2 RX9 0) {R : Int32 × xMem} (hR : xRZ G cX9_has 2 R) {a0 a1 : Int32} {M : xMem} (h : g9_has a0 a1 M = some R) : V G 2 0 [(0, .inl a0), (1, .inl a1)] [] M := by
  unfold g9_has at h
  refine V.iload_n (r := 1) hC 0 dX9_has_0 rfl rfl ?_
  refine V.iload_n (r := 2) hC 1 dX9_has_1 rfl rfl ?_
  refine V.ishr (r := 3) hC dX9_has_2 rfl ?_
  refine V.iconst (r := 4) hC dX9_has_3 ki_1 rfl ?_
  refine V.iand (r := 5) hC dX9_has_4 rfl ?_
  refine V.iconst (r := 6) hC dX9_has_5 ki_1 rfl ?_
  refine V.icmp_ne (tgt := 13) (r := 9) hC dX9_has_6 (by decide) rfl (fun c1 => ?_) (fun c1 => ?_)
  · rw [if_neg c1] at h
    refine V.iconst (r := 14) hC dX9_has_13 ki_0 rfl ?_
    cases h
    exact hR _ _ (Or.inl rfl) dX9_has_14
  · rw [if_pos c1] at h
    refine V.iconst (r := 10) hC dX9_has_9 ki_1 rfl ?_
    refine V.goto (tgt := 14) hC dX9_has_10 (by decide) ?_
    cases h
    exact hR _ _ (Or.inr rfl) dX9_has_14
theorem met9_has {R : Int32 × xMem} {a0 a1 : Int32} {M : xMem} (h : g9_has a0 a1 M = some R) : xMet yX9_has cX9_has 2 (some .boolean) 0 [.inl a0, .inl a1] M (some R.1) R.2 := xMet.ofZ (by decide +kernel) (Nat.le_of_ble_eq_true rfl) fun _ hC hR => v9_has  hC hR h
def g9_isIn (a0 a1 : Int32) (M : xMem) : Option (Int32 × xMem) :=
if a0 < 0 then
(some ((0 : Int32), M))
else
(if (14 : Int32) ≤ a0 then
(some ((0 : Int32), M))
else
(if a1 < 0 then
(some ((0 : Int32), M))
else
(if (14 : Int32) ≤ a1 then
(some ((0 : Int32), M))
else
(some ((1 : Int32), M)))))
set_option maxHeartbeats 4000000 in
set_option maxRecDepth 20000 in
theorem v9_isIn {G : xG} (hC : xC G cX9_isIn 2 RX9 0) {R : Int32 × xMem} (hR : xRZ G cX9_isIn 2 R) {a0 a1 : Int32} {M : xMem} (h : g9_isIn a0 a1 M = some R) : V G 2 0 [(0, .inl a0), (1, .inl a1)] [] M := by
  unfold g9_isIn at h
  refine V.iload_n (r := 1) hC 0 dX9_isIn_0 rfl rfl ?_
  refine V.if_lt (tgt := 24) (r := 4) hC dX9_isIn_1 (by decide) rfl (fun c1 => ?_) (fun c1 => ?_)
  · rw [if_pos c1] at h
    refine V.iconst (r := 25) hC dX9_isIn_24 ki_0 rfl ?_
    cases h
    exact hR _ _ (Or.inl rfl) dX9_isIn_25
  · rw [if_neg c1] at h
    refine V.iload_n (r := 5) hC 0 dX9_isIn_4 rfl rfl ?_
    refine V.bipush (r := 7) hC dX9_isIn_5 kb_14 rfl ?_
    refine V.icmp_ge (tgt := 24) (r := 10) hC dX9_isIn_7 (by decide) rfl (fun c2 => ?_) (fun c2 => ?_)
    · rw [if_pos c2] at h
      refine V.iconst (r := 25) hC dX9_isIn_24 ki_0 rfl ?_
      cases h
      exact hR _ _ (Or.inl rfl) dX9_isIn_25
    · rw [if_neg c2] at h
      refine V.iload_n (r := 11) hC 1 dX9_isIn_10 rfl rfl ?_
      refine V.if_lt (tgt := 24) (r := 14) hC dX9_isIn_11 (by decide) rfl (fun c3 => ?_) (fun c3 => ?_)
      · rw [if_pos c3] at h
        refine V.iconst (r := 25) hC dX9_isIn_24 ki_0 rfl ?_
        cases h
        exact hR _ _ (Or.inl rfl) dX9_isIn_25
      · rw [if_neg c3] at h
        refine V.iload_n (r := 15) hC 1 dX9_isIn_14 rfl rfl ?_
        refine V.bipush (r := 17) hC dX9_isIn_15 kb_14 rfl ?_
        refine V.icmp_ge (tgt := 24) (r := 20) hC dX9_isIn_17 (by decide) rfl (fun c4 => ?_) (fun c4 => ?_)
        · rw [if_pos c4] at h
          refine V.iconst (r := 25) hC dX9_isIn_24 ki_0 rfl ?_
          cases h
          exact hR _ _ (Or.inl rfl) dX9_isIn_25
        · rw [if_neg c4] at h
          refine V.iconst (r := 21) hC dX9_isIn_20 ki_1 rfl ?_
          refine V.goto (tgt := 25) hC dX9_isIn_21 (by decide) ?_
          cases h
          exact hR _ _ (Or.inr rfl) dX9_isIn_25
theorem met9_isIn {R : Int32 × xMem} {a0 a1 : Int32} {M : xMem} (h : g9_isIn a0 a1 M = some R) : xMet yX9_isIn cX9_isIn 2 (some .boolean) 0 [.inl a0, .inl a1] M (some R.1) R.2 := xMet.ofZ (by decide +kernel) (Nat.le_of_ble_eq_true rfl) fun _ hC hR => v9_isIn  hC hR h
def g9_way (a0 a1 : Int32) (M : xMem) : Option (Int32 × xMem) :=
Option.bind (g9_size ((a0 - a0 / (14 : Int32) * (14 : Int32)) - (a1 - a1 / (14 : Int32) * (14 : Int32))) M) fun q1 =>
Option.bind (g9_size ((a0 / (14 : Int32)) - (a1 / (14 : Int32))) q1.2) fun q3 =>
some ((q1.1) + (q3.1), q3.2)
set_option maxHeartbeats 4000000 in
set_option maxRecDepth 20000 in
theorem v9_way {G : xG} (hC : xC G cX9_way 2 RX9 1) {R : Int32 × xMem} (hR : xRI G cX9_way 2 R) {a0 a1 : Int32} {M : xMem} (h : g9_way a0 a1 M = some R) : V G 2 0 [(0, .inl a0), (1, .inl a1)] [] M := by
  unfold g9_way at h
  refine V.iload_n (r := 1) hC 0 dX9_way_0 rfl rfl ?_
  refine V.bipush (r := 3) hC dX9_way_1 kb_14 rfl ?_
  refine V.irem (r := 4) hC dX9_way_3 (by decide) rfl ?_
  refine V.iload_n (r := 5) hC 1 dX9_way_4 rfl rfl ?_
  refine V.bipush (r := 7) hC dX9_way_5 kb_14 rfl ?_
  refine V.irem (r := 8) hC dX9_way_7 (by decide) rfl ?_
  refine V.isub (r := 9) hC dX9_way_8 rfl ?_
  obtain ⟨q1, hq2, h⟩ := Option.bind_eq_some_iff.mp h
  try dsimp only at h
  refine V.invSi (as := [.inl ((a0 - a0 / (14 : Int32) * (14 : Int32)) - (a1 - a1 / (14 : Int32) * (14 : Int32)))]) (st := []) (r := 12) hC (met9_size hq2) ys_X9_size ml_RX9_77 dX9_way_9 (by decide) rfl rfl rfl rfl ?_
  refine V.iload_n (r := 13) hC 0 dX9_way_12 rfl rfl ?_
  refine V.bipush (r := 15) hC dX9_way_13 kb_14 rfl ?_
  refine V.idiv (r := 16) hC dX9_way_15 (by decide) rfl ?_
  refine V.iload_n (r := 17) hC 1 dX9_way_16 rfl rfl ?_
  refine V.bipush (r := 19) hC dX9_way_17 kb_14 rfl ?_
  refine V.idiv (r := 20) hC dX9_way_19 (by decide) rfl ?_
  refine V.isub (r := 21) hC dX9_way_20 rfl ?_
  obtain ⟨q3, hq4, h⟩ := Option.bind_eq_some_iff.mp h
  try dsimp only at h
  refine V.invSi (as := [.inl ((a0 / (14 : Int32)) - (a1 / (14 : Int32)))]) (st := [.inl (q1.1)]) (r := 24) hC (met9_size hq4) ys_X9_size ml_RX9_77 dX9_way_21 (by decide) rfl rfl rfl rfl ?_
  refine V.iadd (r := 25) hC dX9_way_24 rfl ?_
  cases h
  exact hR _ _ dX9_way_25
theorem met9_way {R : Int32 × xMem} {a0 a1 : Int32} {M : xMem} (h : g9_way a0 a1 M = some R) : xMet yX9_way cX9_way 2 (some .int) 1 [.inl a0, .inl a1] M (some R.1) R.2 := xMet.ofI (by decide +kernel) (Nat.le_of_ble_eq_true rfl) fun _ hC hR => v9_way  hC hR h
def g9_isRock (a0 : Int32) (M : xMem) : Option (Int32 × xMem) :=
if ((0 : Int32) + a0) < 0 ∨ 331 ≤ ((0 : Int32) + a0).toNatClampNeg then none else
if (M 7 ((0 : Int32) + a0).toNatClampNeg) = (3 : Int32) then
(some ((1 : Int32), M))
else
(some ((0 : Int32), M))
set_option maxHeartbeats 4000000 in
set_option maxRecDepth 20000 in
theorem v9_isRock {G : xG} (hC : xC G cX9_isRock 2 RX9 0) {R : Int32 × xMem} (hR : xRZ G cX9_isRock 2 R) {a0 : Int32} {M : xMem} (h : g9_isRock a0 M = some R) : V G 2 0 [(0, .inr 154), (1, .inl a0)] [] M := by
  unfold g9_isRock at h
  refine V.aload_n (r := 1) hC 0 dX9_isRock_0 rfl rfl ?_
  refine V.getR (k' := 155) (j := 0) (r := 4) hC xcl_9 sh_154 fl_RX9_7 dX9_isRock_1 (by decide) rfl rfl ?_
  refine V.iconst (r := 5) hC dX9_isRock_4 ki_0 rfl ?_
  refine V.iload_n (r := 6) hC 1 dX9_isRock_5 rfl rfl ?_
  refine V.iadd (r := 7) hC dX9_isRock_6 rfl ?_
  by_cases c1 : ((0 : Int32) + a0) < 0 ∨ 331 ≤ ((0 : Int32) + a0).toNatClampNeg
  · rw [if_pos c1] at h; cases h
  rw [if_neg c1] at h
  refine V.iald (t := ((0 : Int32) + a0).toNatClampNeg) (r := 8) hC sh_155 dX9_isRock_7 c1 (Nat.zero_add _) rfl ?_
  refine V.iconst (r := 9) hC dX9_isRock_8 ki_3 rfl ?_
  refine V.icmp_ne (tgt := 16) (r := 12) hC dX9_isRock_9 (by decide) rfl (fun c2 => ?_) (fun c2 => ?_)
  · rw [if_neg c2] at h
    refine V.iconst (r := 17) hC dX9_isRock_16 ki_0 rfl ?_
    cases h
    exact hR _ _ (Or.inl rfl) dX9_isRock_17
  · rw [if_pos c2] at h
    refine V.iconst (r := 13) hC dX9_isRock_12 ki_1 rfl ?_
    refine V.goto (tgt := 17) hC dX9_isRock_13 (by decide) ?_
    cases h
    exact hR _ _ (Or.inr rfl) dX9_isRock_17
theorem met9_isRock {R : Int32 × xMem} {a0 : Int32} {M : xMem} (h : g9_isRock a0 M = some R) : xMet yX9_isRock cX9_isRock 2 (some .boolean) 0 [.inr 154, .inl a0] M (some R.1) R.2 := xMet.ofZ (by decide +kernel) (Nat.le_of_ble_eq_true rfl) fun _ hC hR => v9_isRock  hC hR h
def g9_isInn (a0 : Int32) (M : xMem) : Option (Int32 × xMem) :=
if a0 < 0 then
(some ((0 : Int32), M))
else
(if (9 : Int32) ≤ a0 then
(some ((0 : Int32), M))
else
(some ((1 : Int32), M)))
set_option maxHeartbeats 4000000 in
set_option maxRecDepth 20000 in
theorem v9_isInn {G : xG} (hC : xC G cX9_isInn 1 RX9 0) {R : Int32 × xMem} (hR : xRZ G cX9_isInn 1 R) {a0 : Int32} {M : xMem} (h : g9_isInn a0 M = some R) : V G 1 0 [(0, .inl a0)] [] M := by
  unfold g9_isInn at h
  refine V.iload_n (r := 1) hC 0 dX9_isInn_0 rfl rfl ?_
  refine V.if_lt (tgt := 14) (r := 4) hC dX9_isInn_1 (by decide) rfl (fun c1 => ?_) (fun c1 => ?_)
  · rw [if_pos c1] at h
    refine V.iconst (r := 15) hC dX9_isInn_14 ki_0 rfl ?_
    cases h
    exact hR _ _ (Or.inl rfl) dX9_isInn_15
  · rw [if_neg c1] at h
    refine V.iload_n (r := 5) hC 0 dX9_isInn_4 rfl rfl ?_
    refine V.bipush (r := 7) hC dX9_isInn_5 kb_9 rfl ?_
    refine V.icmp_ge (tgt := 14) (r := 10) hC dX9_isInn_7 (by decide) rfl (fun c2 => ?_) (fun c2 => ?_)
    · rw [if_pos c2] at h
      refine V.iconst (r := 15) hC dX9_isInn_14 ki_0 rfl ?_
      cases h
      exact hR _ _ (Or.inl rfl) dX9_isInn_15
    · rw [if_neg c2] at h
      refine V.iconst (r := 11) hC dX9_isInn_10 ki_1 rfl ?_
      refine V.goto (tgt := 15) hC dX9_isInn_11 (by decide) ?_
      cases h
      exact hR _ _ (Or.inr rfl) dX9_isInn_15
theorem met9_isInn {R : Int32 × xMem} {a0 : Int32} {M : xMem} (h : g9_isInn a0 M = some R) : xMet yX9_isInn cX9_isInn 1 (some .boolean) 0 [.inl a0] M (some R.1) R.2 := xMet.ofZ (by decide +kernel) (Nat.le_of_ble_eq_true rfl) fun _ hC hR => v9_isInn  hC hR h
def g9_isLamp (a0 : Int32) (M : xMem) : Option (Int32 × xMem) :=
if a0 < 0 then
(some ((0 : Int32), M))
else
(if (12 : Int32) ≤ a0 then
(some ((0 : Int32), M))
else
(if ((196 : Int32) + a0) < 0 ∨ 331 ≤ ((196 : Int32) + a0).toNatClampNeg then none else
if (M 7 ((196 : Int32) + a0).toNatClampNeg) = (1 : Int32) then
(some ((1 : Int32), M))
else
(some ((0 : Int32), M))))
set_option maxHeartbeats 4000000 in
set_option maxRecDepth 20000 in
theorem v9_isLamp {G : xG} (hC : xC G cX9_isLamp 2 RX9 0) {R : Int32 × xMem} (hR : xRZ G cX9_isLamp 2 R) {a0 : Int32} {M : xMem} (h : g9_isLamp a0 M = some R) : V G 2 0 [(0, .inr 154), (1, .inl a0)] [] M := by
  unfold g9_isLamp at h
  refine V.iload_n (r := 1) hC 1 dX9_isLamp_0 rfl rfl ?_
  refine V.if_lt (tgt := 28) (r := 4) hC dX9_isLamp_1 (by decide) rfl (fun c1 => ?_) (fun c1 => ?_)
  · rw [if_pos c1] at h
    refine V.iconst (r := 29) hC dX9_isLamp_28 ki_0 rfl ?_
    cases h
    exact hR _ _ (Or.inl rfl) dX9_isLamp_29
  · rw [if_neg c1] at h
    refine V.iload_n (r := 5) hC 1 dX9_isLamp_4 rfl rfl ?_
    refine V.bipush (r := 7) hC dX9_isLamp_5 kb_12 rfl ?_
    refine V.icmp_ge (tgt := 28) (r := 10) hC dX9_isLamp_7 (by decide) rfl (fun c2 => ?_) (fun c2 => ?_)
    · rw [if_pos c2] at h
      refine V.iconst (r := 29) hC dX9_isLamp_28 ki_0 rfl ?_
      cases h
      exact hR _ _ (Or.inl rfl) dX9_isLamp_29
    · rw [if_neg c2] at h
      refine V.aload_n (r := 11) hC 0 dX9_isLamp_10 rfl rfl ?_
      refine V.getR (k' := 155) (j := 0) (r := 14) hC xcl_9 sh_154 fl_RX9_7 dX9_isLamp_11 (by decide) rfl rfl ?_
      refine V.sipush (r := 17) hC dX9_isLamp_14 ks_196 rfl ?_
      refine V.iload_n (r := 18) hC 1 dX9_isLamp_17 rfl rfl ?_
      refine V.iadd (r := 19) hC dX9_isLamp_18 rfl ?_
      by_cases c3 : ((196 : Int32) + a0) < 0 ∨ 331 ≤ ((196 : Int32) + a0).toNatClampNeg
      · rw [if_pos c3] at h; cases h
      rw [if_neg c3] at h
      refine V.iald (t := ((196 : Int32) + a0).toNatClampNeg) (r := 20) hC sh_155 dX9_isLamp_19 c3 (Nat.zero_add _) rfl ?_
      refine V.iconst (r := 21) hC dX9_isLamp_20 ki_1 rfl ?_
      refine V.icmp_ne (tgt := 28) (r := 24) hC dX9_isLamp_21 (by decide) rfl (fun c4 => ?_) (fun c4 => ?_)
      · rw [if_neg c4] at h
        refine V.iconst (r := 29) hC dX9_isLamp_28 ki_0 rfl ?_
        cases h
        exact hR _ _ (Or.inl rfl) dX9_isLamp_29
      · rw [if_pos c4] at h
        refine V.iconst (r := 25) hC dX9_isLamp_24 ki_1 rfl ?_
        refine V.goto (tgt := 29) hC dX9_isLamp_25 (by decide) ?_
        cases h
        exact hR _ _ (Or.inr rfl) dX9_isLamp_29
theorem met9_isLamp {R : Int32 × xMem} {a0 : Int32} {M : xMem} (h : g9_isLamp a0 M = some R) : xMet yX9_isLamp cX9_isLamp 2 (some .boolean) 0 [.inr 154, .inl a0] M (some R.1) R.2 := xMet.ofZ (by decide +kernel) (Nat.le_of_ble_eq_true rfl) fun _ hC hR => v9_isLamp  hC hR h
def g9_isTold (a0 : Int32) (M : xMem) : Option (Int32 × xMem) :=
if a0 < 0 then
(some ((0 : Int32), M))
else
(if (6 : Int32) ≤ a0 then
(some ((0 : Int32), M))
else
(if ((268 : Int32) + a0) < 0 ∨ 331 ≤ ((268 : Int32) + a0).toNatClampNeg then none else
if (M 7 ((268 : Int32) + a0).toNatClampNeg) = (1 : Int32) then
(some ((1 : Int32), M))
else
(some ((0 : Int32), M))))
set_option maxHeartbeats 4000000 in
set_option maxRecDepth 20000 in
theorem v9_isTold {G : xG} (hC : xC G cX9_isTold 2 RX9 0) {R : Int32 × xMem} (hR : xRZ G cX9_isTold 2 R) {a0 : Int32} {M : xMem} (h : g9_isTold a0 M = some R) : V G 2 0 [(0, .inr 154), (1, .inl a0)] [] M := by
  unfold g9_isTold at h
  refine V.iload_n (r := 1) hC 1 dX9_isTold_0 rfl rfl ?_
  refine V.if_lt (tgt := 28) (r := 4) hC dX9_isTold_1 (by decide) rfl (fun c1 => ?_) (fun c1 => ?_)
  · rw [if_pos c1] at h
    refine V.iconst (r := 29) hC dX9_isTold_28 ki_0 rfl ?_
    cases h
    exact hR _ _ (Or.inl rfl) dX9_isTold_29
  · rw [if_neg c1] at h
    refine V.iload_n (r := 5) hC 1 dX9_isTold_4 rfl rfl ?_
    refine V.bipush (r := 7) hC dX9_isTold_5 kb_6 rfl ?_
    refine V.icmp_ge (tgt := 28) (r := 10) hC dX9_isTold_7 (by decide) rfl (fun c2 => ?_) (fun c2 => ?_)
    · rw [if_pos c2] at h
      refine V.iconst (r := 29) hC dX9_isTold_28 ki_0 rfl ?_
      cases h
      exact hR _ _ (Or.inl rfl) dX9_isTold_29
    · rw [if_neg c2] at h
      refine V.aload_n (r := 11) hC 0 dX9_isTold_10 rfl rfl ?_
      refine V.getR (k' := 155) (j := 0) (r := 14) hC xcl_9 sh_154 fl_RX9_7 dX9_isTold_11 (by decide) rfl rfl ?_
      refine V.sipush (r := 17) hC dX9_isTold_14 ks_268 rfl ?_
      refine V.iload_n (r := 18) hC 1 dX9_isTold_17 rfl rfl ?_
      refine V.iadd (r := 19) hC dX9_isTold_18 rfl ?_
      by_cases c3 : ((268 : Int32) + a0) < 0 ∨ 331 ≤ ((268 : Int32) + a0).toNatClampNeg
      · rw [if_pos c3] at h; cases h
      rw [if_neg c3] at h
      refine V.iald (t := ((268 : Int32) + a0).toNatClampNeg) (r := 20) hC sh_155 dX9_isTold_19 c3 (Nat.zero_add _) rfl ?_
      refine V.iconst (r := 21) hC dX9_isTold_20 ki_1 rfl ?_
      refine V.icmp_ne (tgt := 28) (r := 24) hC dX9_isTold_21 (by decide) rfl (fun c4 => ?_) (fun c4 => ?_)
      · rw [if_neg c4] at h
        refine V.iconst (r := 29) hC dX9_isTold_28 ki_0 rfl ?_
        cases h
        exact hR _ _ (Or.inl rfl) dX9_isTold_29
      · rw [if_pos c4] at h
        refine V.iconst (r := 25) hC dX9_isTold_24 ki_1 rfl ?_
        refine V.goto (tgt := 29) hC dX9_isTold_25 (by decide) ?_
        cases h
        exact hR _ _ (Or.inr rfl) dX9_isTold_29
theorem met9_isTold {R : Int32 × xMem} {a0 : Int32} {M : xMem} (h : g9_isTold a0 M = some R) : xMet yX9_isTold cX9_isTold 2 (some .boolean) 0 [.inr 154, .inl a0] M (some R.1) R.2 := xMet.ofZ (by decide +kernel) (Nat.le_of_ble_eq_true rfl) fun _ hC hR => v9_isTold  hC hR h
def g9_isOn (a0 : Int32) (M : xMem) : Option (Int32 × xMem) :=
Option.bind (g9_isTold a0 M) fun q1 =>
if (q1.1) = 0 then
(some ((0 : Int32), q1.2))
else
(if ((280 : Int32) + a0) < 0 ∨ 331 ≤ ((280 : Int32) + a0).toNatClampNeg then none else
if (q1.2 7 ((280 : Int32) + a0).toNatClampNeg) ≤ 0 then
(some ((0 : Int32), q1.2))
else
(if ((274 : Int32) + a0) < 0 ∨ 331 ≤ ((274 : Int32) + a0).toNatClampNeg then none else
if (196 : Int32) ≤ (q1.2 7 ((274 : Int32) + a0).toNatClampNeg) then
(some ((0 : Int32), q1.2))
else
(some ((1 : Int32), q1.2))))
set_option maxHeartbeats 4000000 in
set_option maxRecDepth 20000 in
theorem v9_isOn {G : xG} (hC : xC G cX9_isOn 2 RX9 1) {R : Int32 × xMem} (hR : xRZ G cX9_isOn 2 R) {a0 : Int32} {M : xMem} (h : g9_isOn a0 M = some R) : V G 2 0 [(0, .inr 154), (1, .inl a0)] [] M := by
  unfold g9_isOn at h
  refine V.aload_n (r := 1) hC 0 dX9_isOn_0 rfl rfl ?_
  refine V.iload_n (r := 2) hC 1 dX9_isOn_1 rfl rfl ?_
  obtain ⟨q1, hq2, h⟩ := Option.bind_eq_some_iff.mp h
  try dsimp only at h
  refine V.invVi (as := [.inl a0]) (st := []) (r := 5) hC (met9_isTold hq2) yv_X9_isTold ml_RX9_81 sh_154 rfl rfl dX9_isOn_2 (by decide) rfl rfl rfl rfl ?_
  refine V.if_eq (tgt := 41) (r := 8) hC dX9_isOn_5 (by decide) rfl (fun c3 => ?_) (fun c3 => ?_)
  · rw [if_pos c3] at h
    refine V.iconst (r := 42) hC dX9_isOn_41 ki_0 rfl ?_
    cases h
    exact hR _ _ (Or.inl rfl) dX9_isOn_42
  · rw [if_neg c3] at h
    refine V.aload_n (r := 9) hC 0 dX9_isOn_8 rfl rfl ?_
    refine V.getR (k' := 155) (j := 0) (r := 12) hC xcl_9 sh_154 fl_RX9_7 dX9_isOn_9 (by decide) rfl rfl ?_
    refine V.sipush (r := 15) hC dX9_isOn_12 ks_280 rfl ?_
    refine V.iload_n (r := 16) hC 1 dX9_isOn_15 rfl rfl ?_
    refine V.iadd (r := 17) hC dX9_isOn_16 rfl ?_
    by_cases c4 : ((280 : Int32) + a0) < 0 ∨ 331 ≤ ((280 : Int32) + a0).toNatClampNeg
    · rw [if_pos c4] at h; cases h
    rw [if_neg c4] at h
    refine V.iald (t := ((280 : Int32) + a0).toNatClampNeg) (r := 18) hC sh_155 dX9_isOn_17 c4 (Nat.zero_add _) rfl ?_
    refine V.if_le (tgt := 41) (r := 21) hC dX9_isOn_18 (by decide) rfl (fun c5 => ?_) (fun c5 => ?_)
    · rw [if_pos c5] at h
      refine V.iconst (r := 42) hC dX9_isOn_41 ki_0 rfl ?_
      cases h
      exact hR _ _ (Or.inl rfl) dX9_isOn_42
    · rw [if_neg c5] at h
      refine V.aload_n (r := 22) hC 0 dX9_isOn_21 rfl rfl ?_
      refine V.getR (k' := 155) (j := 0) (r := 25) hC xcl_9 sh_154 fl_RX9_7 dX9_isOn_22 (by decide) rfl rfl ?_
      refine V.sipush (r := 28) hC dX9_isOn_25 ks_274 rfl ?_
      refine V.iload_n (r := 29) hC 1 dX9_isOn_28 rfl rfl ?_
      refine V.iadd (r := 30) hC dX9_isOn_29 rfl ?_
      by_cases c6 : ((274 : Int32) + a0) < 0 ∨ 331 ≤ ((274 : Int32) + a0).toNatClampNeg
      · rw [if_pos c6] at h; cases h
      rw [if_neg c6] at h
      refine V.iald (t := ((274 : Int32) + a0).toNatClampNeg) (r := 31) hC sh_155 dX9_isOn_30 c6 (Nat.zero_add _) rfl ?_
      refine V.sipush (r := 34) hC dX9_isOn_31 ks_196 rfl ?_
      refine V.icmp_ge (tgt := 41) (r := 37) hC dX9_isOn_34 (by decide) rfl (fun c7 => ?_) (fun c7 => ?_)
      · rw [if_pos c7] at h
        refine V.iconst (r := 42) hC dX9_isOn_41 ki_0 rfl ?_
        cases h
        exact hR _ _ (Or.inl rfl) dX9_isOn_42
      · rw [if_neg c7] at h
        refine V.iconst (r := 38) hC dX9_isOn_37 ki_1 rfl ?_
        refine V.goto (tgt := 42) hC dX9_isOn_38 (by decide) ?_
        cases h
        exact hR _ _ (Or.inr rfl) dX9_isOn_42
theorem met9_isOn {R : Int32 × xMem} {a0 : Int32} {M : xMem} (h : g9_isOn a0 M = some R) : xMet yX9_isOn cX9_isOn 2 (some .boolean) 1 [.inr 154, .inl a0] M (some R.1) R.2 := xMet.ofZ (by decide +kernel) (Nat.le_of_ble_eq_true rfl) fun _ hC hR => v9_isOn  hC hR h
def g9_isLit_b94 (M : xMem) : Option (Int32 × xMem) :=
some ((1 : Int32), M)
set_option maxHeartbeats 4000000 in
set_option maxRecDepth 20000 in
theorem v9_isLit_b94 {G : xG} (hC : xC G cX9_isLit 2 RX9 2) {R : Int32 × xMem} (hR : xRZ G cX9_isLit 2 R) (M : xMem) (h : g9_isLit_b94 M = some R) : V G 2 94 [] [] M := by
  unfold g9_isLit_b94 at h
  refine V.iconst (r := 95) hC dX9_isLit_94 ki_1 rfl ?_
  refine V.goto (tgt := 99) hC dX9_isLit_95 (by decide) ?_
  cases h
  exact hR _ _ (Or.inr rfl) dX9_isLit_99
def g9_isLit (a0 : Int32) (M : xMem) : Option (Int32 × xMem) :=
if a0 < (12 : Int32) then
(if ((196 : Int32) + a0) < 0 ∨ 331 ≤ ((196 : Int32) + a0).toNatClampNeg then none else
if (M 7 ((196 : Int32) + a0).toNatClampNeg) = (1 : Int32) then
(if ((232 : Int32) + a0) < 0 ∨ 331 ≤ ((232 : Int32) + a0).toNatClampNeg then none else
if 0 < (M 7 ((232 : Int32) + a0).toNatClampNeg) then
(g9_isLit_b94 M)
else
(if ((244 : Int32) + a0) < 0 ∨ 331 ≤ ((244 : Int32) + a0).toNatClampNeg then none else
if 0 < (M 7 ((244 : Int32) + a0).toNatClampNeg) then
(g9_isLit_b94 M)
else
(if ((256 : Int32) + a0) < 0 ∨ 331 ≤ ((256 : Int32) + a0).toNatClampNeg then none else
if (M 7 ((256 : Int32) + a0).toNatClampNeg) = (1 : Int32) then
(g9_isLit_b94 M)
else
(some ((0 : Int32), M)))))
else
(some ((0 : Int32), M)))
else
(Option.bind (g9_isOn (a0 - (12 : Int32)) M) fun q10 =>
if (q10.1) = 0 then
(some ((0 : Int32), q10.2))
else
(if (((298 : Int32) + a0) - (12 : Int32)) < 0 ∨ 331 ≤ (((298 : Int32) + a0) - (12 : Int32)).toNatClampNeg then none else
if (q10.2 7 (((298 : Int32) + a0) - (12 : Int32)).toNatClampNeg) = (1 : Int32) then
(some ((1 : Int32), q10.2))
else
(some ((0 : Int32), q10.2))))
set_option maxHeartbeats 4000000 in
set_option maxRecDepth 20000 in
theorem v9_isLit {G : xG} (hC : xC G cX9_isLit 2 RX9 2) {R : Int32 × xMem} (hR : xRZ G cX9_isLit 2 R) {a0 : Int32} {M : xMem} (h : g9_isLit a0 M = some R) : V G 2 0 [(0, .inr 154), (1, .inl a0)] [] M := by
  unfold g9_isLit at h
  refine V.iload_n (r := 1) hC 1 dX9_isLit_0 rfl rfl ?_
  refine V.bipush (r := 3) hC dX9_isLit_1 kb_12 rfl ?_
  refine V.icmp_lt (tgt := 40) (r := 6) hC dX9_isLit_3 (by decide) rfl (fun c1 => ?_) (fun c1 => ?_)
  · rw [if_pos c1] at h
    refine V.aload_n (r := 41) hC 0 dX9_isLit_40 rfl rfl ?_
    refine V.getR (k' := 155) (j := 0) (r := 44) hC xcl_9 sh_154 fl_RX9_7 dX9_isLit_41 (by decide) rfl rfl ?_
    refine V.sipush (r := 47) hC dX9_isLit_44 ks_196 rfl ?_
    refine V.iload_n (r := 48) hC 1 dX9_isLit_47 rfl rfl ?_
    refine V.iadd (r := 49) hC dX9_isLit_48 rfl ?_
    by_cases c2 : ((196 : Int32) + a0) < 0 ∨ 331 ≤ ((196 : Int32) + a0).toNatClampNeg
    · rw [if_pos c2] at h; cases h
    rw [if_neg c2] at h
    refine V.iald (t := ((196 : Int32) + a0).toNatClampNeg) (r := 50) hC sh_155 dX9_isLit_49 c2 (Nat.zero_add _) rfl ?_
    refine V.iconst (r := 51) hC dX9_isLit_50 ki_1 rfl ?_
    refine V.icmp_ne (tgt := 98) (r := 54) hC dX9_isLit_51 (by decide) rfl (fun c3 => ?_) (fun c3 => ?_)
    · rw [if_neg c3] at h
      refine V.iconst (r := 99) hC dX9_isLit_98 ki_0 rfl ?_
      cases h
      exact hR _ _ (Or.inl rfl) dX9_isLit_99
    · rw [if_pos c3] at h
      refine V.aload_n (r := 55) hC 0 dX9_isLit_54 rfl rfl ?_
      refine V.getR (k' := 155) (j := 0) (r := 58) hC xcl_9 sh_154 fl_RX9_7 dX9_isLit_55 (by decide) rfl rfl ?_
      refine V.sipush (r := 61) hC dX9_isLit_58 ks_232 rfl ?_
      refine V.iload_n (r := 62) hC 1 dX9_isLit_61 rfl rfl ?_
      refine V.iadd (r := 63) hC dX9_isLit_62 rfl ?_
      by_cases c4 : ((232 : Int32) + a0) < 0 ∨ 331 ≤ ((232 : Int32) + a0).toNatClampNeg
      · rw [if_pos c4] at h; cases h
      rw [if_neg c4] at h
      refine V.iald (t := ((232 : Int32) + a0).toNatClampNeg) (r := 64) hC sh_155 dX9_isLit_63 c4 (Nat.zero_add _) rfl ?_
      refine V.if_gt (tgt := 94) (r := 67) hC dX9_isLit_64 (by decide) rfl (fun c5 => ?_) (fun c5 => ?_)
      · rw [if_pos c5] at h
        refine V.pick (lv' := []) [] rfl ?_
        exact v9_isLit_b94  hC hR  _ h
      · rw [if_neg c5] at h
        refine V.aload_n (r := 68) hC 0 dX9_isLit_67 rfl rfl ?_
        refine V.getR (k' := 155) (j := 0) (r := 71) hC xcl_9 sh_154 fl_RX9_7 dX9_isLit_68 (by decide) rfl rfl ?_
        refine V.sipush (r := 74) hC dX9_isLit_71 ks_244 rfl ?_
        refine V.iload_n (r := 75) hC 1 dX9_isLit_74 rfl rfl ?_
        refine V.iadd (r := 76) hC dX9_isLit_75 rfl ?_
        by_cases c6 : ((244 : Int32) + a0) < 0 ∨ 331 ≤ ((244 : Int32) + a0).toNatClampNeg
        · rw [if_pos c6] at h; cases h
        rw [if_neg c6] at h
        refine V.iald (t := ((244 : Int32) + a0).toNatClampNeg) (r := 77) hC sh_155 dX9_isLit_76 c6 (Nat.zero_add _) rfl ?_
        refine V.if_gt (tgt := 94) (r := 80) hC dX9_isLit_77 (by decide) rfl (fun c7 => ?_) (fun c7 => ?_)
        · rw [if_pos c7] at h
          refine V.pick (lv' := []) [] rfl ?_
          exact v9_isLit_b94  hC hR  _ h
        · rw [if_neg c7] at h
          refine V.aload_n (r := 81) hC 0 dX9_isLit_80 rfl rfl ?_
          refine V.getR (k' := 155) (j := 0) (r := 84) hC xcl_9 sh_154 fl_RX9_7 dX9_isLit_81 (by decide) rfl rfl ?_
          refine V.sipush (r := 87) hC dX9_isLit_84 ks_256 rfl ?_
          refine V.iload_n (r := 88) hC 1 dX9_isLit_87 rfl rfl ?_
          refine V.iadd (r := 89) hC dX9_isLit_88 rfl ?_
          by_cases c8 : ((256 : Int32) + a0) < 0 ∨ 331 ≤ ((256 : Int32) + a0).toNatClampNeg
          · rw [if_pos c8] at h; cases h
          rw [if_neg c8] at h
          refine V.iald (t := ((256 : Int32) + a0).toNatClampNeg) (r := 90) hC sh_155 dX9_isLit_89 c8 (Nat.zero_add _) rfl ?_
          refine V.iconst (r := 91) hC dX9_isLit_90 ki_1 rfl ?_
          refine V.icmp_ne (tgt := 98) (r := 94) hC dX9_isLit_91 (by decide) rfl (fun c9 => ?_) (fun c9 => ?_)
          · rw [if_neg c9] at h
            refine V.iconst (r := 99) hC dX9_isLit_98 ki_0 rfl ?_
            cases h
            exact hR _ _ (Or.inl rfl) dX9_isLit_99
          · rw [if_pos c9] at h
            refine V.pick (lv' := []) [] rfl ?_
            exact v9_isLit_b94  hC hR  _ h
  · rw [if_neg c1] at h
    refine V.aload_n (r := 7) hC 0 dX9_isLit_6 rfl rfl ?_
    refine V.iload_n (r := 8) hC 1 dX9_isLit_7 rfl rfl ?_
    refine V.bipush (r := 10) hC dX9_isLit_8 kb_12 rfl ?_
    refine V.isub (r := 11) hC dX9_isLit_10 rfl ?_
    obtain ⟨q10, hq11, h⟩ := Option.bind_eq_some_iff.mp h
    try dsimp only at h
    refine V.invVi (as := [.inl (a0 - (12 : Int32))]) (st := []) (r := 14) hC (met9_isOn hq11) yv_X9_isOn ml_RX9_85 sh_154 rfl rfl dX9_isLit_11 (by decide) rfl rfl rfl rfl ?_
    refine V.if_eq (tgt := 38) (r := 17) hC dX9_isLit_14 (by decide) rfl (fun c12 => ?_) (fun c12 => ?_)
    · rw [if_pos c12] at h
      refine V.iconst (r := 39) hC dX9_isLit_38 ki_0 rfl ?_
      cases h
      exact hR _ _ (Or.inl rfl) dX9_isLit_39
    · rw [if_neg c12] at h
      refine V.aload_n (r := 18) hC 0 dX9_isLit_17 rfl rfl ?_
      refine V.getR (k' := 155) (j := 0) (r := 21) hC xcl_9 sh_154 fl_RX9_7 dX9_isLit_18 (by decide) rfl rfl ?_
      refine V.sipush (r := 24) hC dX9_isLit_21 ks_298 rfl ?_
      refine V.iload_n (r := 25) hC 1 dX9_isLit_24 rfl rfl ?_
      refine V.iadd (r := 26) hC dX9_isLit_25 rfl ?_
      refine V.bipush (r := 28) hC dX9_isLit_26 kb_12 rfl ?_
      refine V.isub (r := 29) hC dX9_isLit_28 rfl ?_
      by_cases c13 : (((298 : Int32) + a0) - (12 : Int32)) < 0 ∨ 331 ≤ (((298 : Int32) + a0) - (12 : Int32)).toNatClampNeg
      · rw [if_pos c13] at h; cases h
      rw [if_neg c13] at h
      refine V.iald (t := (((298 : Int32) + a0) - (12 : Int32)).toNatClampNeg) (r := 30) hC sh_155 dX9_isLit_29 c13 (Nat.zero_add _) rfl ?_
      refine V.iconst (r := 31) hC dX9_isLit_30 ki_1 rfl ?_
      refine V.icmp_ne (tgt := 38) (r := 34) hC dX9_isLit_31 (by decide) rfl (fun c14 => ?_) (fun c14 => ?_)
      · rw [if_neg c14] at h
        refine V.iconst (r := 39) hC dX9_isLit_38 ki_0 rfl ?_
        cases h
        exact hR _ _ (Or.inl rfl) dX9_isLit_39
      · rw [if_pos c14] at h
        refine V.iconst (r := 35) hC dX9_isLit_34 ki_1 rfl ?_
        refine V.goto (tgt := 39) hC dX9_isLit_35 (by decide) ?_
        cases h
        exact hR _ _ (Or.inr rfl) dX9_isLit_39
theorem met9_isLit {R : Int32 × xMem} {a0 : Int32} {M : xMem} (h : g9_isLit a0 M = some R) : xMet yX9_isLit cX9_isLit 2 (some .boolean) 2 [.inr 154, .inl a0] M (some R.1) R.2 := xMet.ofZ (by decide +kernel) (Nat.le_of_ble_eq_true rfl) fun _ hC hR => v9_isLit  hC hR h
def g9_lampAt (a0 : Int32) (M : xMem) : Option (Int32 × xMem) :=
if a0 < (12 : Int32) then
(if ((208 : Int32) + a0) < 0 ∨ 331 ≤ ((208 : Int32) + a0).toNatClampNeg then none else
some (M 7 ((208 : Int32) + a0).toNatClampNeg, M))
else
(if (((274 : Int32) + a0) - (12 : Int32)) < 0 ∨ 331 ≤ (((274 : Int32) + a0) - (12 : Int32)).toNatClampNeg then none else
some (M 7 (((274 : Int32) + a0) - (12 : Int32)).toNatClampNeg, M))
set_option maxHeartbeats 4000000 in
set_option maxRecDepth 20000 in
theorem v9_lampAt {G : xG} (hC : xC G cX9_lampAt 2 RX9 0) {R : Int32 × xMem} (hR : xRI G cX9_lampAt 2 R) {a0 : Int32} {M : xMem} (h : g9_lampAt a0 M = some R) : V G 2 0 [(0, .inr 154), (1, .inl a0)] [] M := by
  unfold g9_lampAt at h
  refine V.iload_n (r := 1) hC 1 dX9_lampAt_0 rfl rfl ?_
  refine V.bipush (r := 3) hC dX9_lampAt_1 kb_12 rfl ?_
  refine V.icmp_lt (tgt := 22) (r := 6) hC dX9_lampAt_3 (by decide) rfl (fun c1 => ?_) (fun c1 => ?_)
  · rw [if_pos c1] at h
    refine V.aload_n (r := 23) hC 0 dX9_lampAt_22 rfl rfl ?_
    refine V.getR (k' := 155) (j := 0) (r := 26) hC xcl_9 sh_154 fl_RX9_7 dX9_lampAt_23 (by decide) rfl rfl ?_
    refine V.sipush (r := 29) hC dX9_lampAt_26 ks_208 rfl ?_
    refine V.iload_n (r := 30) hC 1 dX9_lampAt_29 rfl rfl ?_
    refine V.iadd (r := 31) hC dX9_lampAt_30 rfl ?_
    by_cases c2 : ((208 : Int32) + a0) < 0 ∨ 331 ≤ ((208 : Int32) + a0).toNatClampNeg
    · rw [if_pos c2] at h; cases h
    rw [if_neg c2] at h
    refine V.iald (t := ((208 : Int32) + a0).toNatClampNeg) (r := 32) hC sh_155 dX9_lampAt_31 c2 (Nat.zero_add _) rfl ?_
    cases h
    exact hR _ _ dX9_lampAt_32
  · rw [if_neg c1] at h
    refine V.aload_n (r := 7) hC 0 dX9_lampAt_6 rfl rfl ?_
    refine V.getR (k' := 155) (j := 0) (r := 10) hC xcl_9 sh_154 fl_RX9_7 dX9_lampAt_7 (by decide) rfl rfl ?_
    refine V.sipush (r := 13) hC dX9_lampAt_10 ks_274 rfl ?_
    refine V.iload_n (r := 14) hC 1 dX9_lampAt_13 rfl rfl ?_
    refine V.iadd (r := 15) hC dX9_lampAt_14 rfl ?_
    refine V.bipush (r := 17) hC dX9_lampAt_15 kb_12 rfl ?_
    refine V.isub (r := 18) hC dX9_lampAt_17 rfl ?_
    by_cases c3 : (((274 : Int32) + a0) - (12 : Int32)) < 0 ∨ 331 ≤ (((274 : Int32) + a0) - (12 : Int32)).toNatClampNeg
    · rw [if_pos c3] at h; cases h
    rw [if_neg c3] at h
    refine V.iald (t := (((274 : Int32) + a0) - (12 : Int32)).toNatClampNeg) (r := 19) hC sh_155 dX9_lampAt_18 c3 (Nat.zero_add _) rfl ?_
    refine V.goto (tgt := 32) hC dX9_lampAt_19 (by decide) ?_
    cases h
    exact hR _ _ dX9_lampAt_32
theorem met9_lampAt {R : Int32 × xMem} {a0 : Int32} {M : xMem} (h : g9_lampAt a0 M = some R) : xMet yX9_lampAt cX9_lampAt 2 (some .int) 0 [.inr 154, .inl a0] M (some R.1) R.2 := xMet.ofI (by decide +kernel) (Nat.le_of_ble_eq_true rfl) fun _ hC hR => v9_lampAt  hC hR h
def g9_kindOf (a0 : Int32) (M : xMem) : Option (Int32 × xMem) :=
if a0 < (12 : Int32) then
(if ((220 : Int32) + a0) < 0 ∨ 331 ≤ ((220 : Int32) + a0).toNatClampNeg then none else
some (M 7 ((220 : Int32) + a0).toNatClampNeg, M))
else
(some ((5 : Int32), M))
set_option maxHeartbeats 4000000 in
set_option maxRecDepth 20000 in
theorem v9_kindOf {G : xG} (hC : xC G cX9_kindOf 2 RX9 0) {R : Int32 × xMem} (hR : xRI G cX9_kindOf 2 R) {a0 : Int32} {M : xMem} (h : g9_kindOf a0 M = some R) : V G 2 0 [(0, .inr 154), (1, .inl a0)] [] M := by
  unfold g9_kindOf at h
  refine V.iload_n (r := 1) hC 1 dX9_kindOf_0 rfl rfl ?_
  refine V.bipush (r := 3) hC dX9_kindOf_1 kb_12 rfl ?_
  refine V.icmp_lt (tgt := 10) (r := 6) hC dX9_kindOf_3 (by decide) rfl (fun c1 => ?_) (fun c1 => ?_)
  · rw [if_pos c1] at h
    refine V.aload_n (r := 11) hC 0 dX9_kindOf_10 rfl rfl ?_
    refine V.getR (k' := 155) (j := 0) (r := 14) hC xcl_9 sh_154 fl_RX9_7 dX9_kindOf_11 (by decide) rfl rfl ?_
    refine V.sipush (r := 17) hC dX9_kindOf_14 ks_220 rfl ?_
    refine V.iload_n (r := 18) hC 1 dX9_kindOf_17 rfl rfl ?_
    refine V.iadd (r := 19) hC dX9_kindOf_18 rfl ?_
    by_cases c2 : ((220 : Int32) + a0) < 0 ∨ 331 ≤ ((220 : Int32) + a0).toNatClampNeg
    · rw [if_pos c2] at h; cases h
    rw [if_neg c2] at h
    refine V.iald (t := ((220 : Int32) + a0).toNatClampNeg) (r := 20) hC sh_155 dX9_kindOf_19 c2 (Nat.zero_add _) rfl ?_
    cases h
    exact hR _ _ dX9_kindOf_20
  · rw [if_neg c1] at h
    refine V.iconst (r := 7) hC dX9_kindOf_6 ki_5 rfl ?_
    refine V.goto (tgt := 20) hC dX9_kindOf_7 (by decide) ?_
    cases h
    exact hR _ _ dX9_kindOf_20
theorem met9_kindOf {R : Int32 × xMem} {a0 : Int32} {M : xMem} (h : g9_kindOf a0 M = some R) : xMet yX9_kindOf cX9_kindOf 2 (some .int) 0 [.inr 154, .inl a0] M (some R.1) R.2 := xMet.ofI (by decide +kernel) (Nat.le_of_ble_eq_true rfl) fun _ hC hR => v9_kindOf  hC hR h
def g9_isTaken_b38 (k2 : Int32 → Int32 → xMem → Option (Int32 × xMem)) (x1 x2 : Int32) (M : xMem) : Option (Int32 × xMem) :=
k2 x1 (x2 + (1 : Int32)) M
set_option maxHeartbeats 4000000 in
set_option maxRecDepth 20000 in
theorem v9_isTaken_b38 {G : xG} (hC : xC G cX9_isTaken 3 RX9 2) {R : Int32 × xMem} (hR : xRZ G cX9_isTaken 3 R) {k2 : Int32 → Int32 → xMem → Option (Int32 × xMem)} (hk2 : ∀ (y1 y2 : Int32) (N : xMem), k2 y1 y2 N = some R → V G 3 2 [(0, .inr 154), (1, .inl y1), (2, .inl y2)] [] N) (x1 x2 : Int32) (M : xMem) (h : g9_isTaken_b38 k2 x1 x2 M = some R) : V G 3 38 [(0, .inr 154), (1, .inl x1), (2, .inl x2)] [] M := by
  unfold g9_isTaken_b38 at h
  refine V.inc (lv' := [(0, .inr 154), (1, .inl x1), (2, .inl (x2 + (1 : Int32)))]) (r := 41) hC 2 dX9_isTaken_38 rfl ki_1 rfl rfl rfl ?_
  refine V.goto (tgt := 2) hC dX9_isTaken_41 (by decide) ?_
  exact hk2 _ _ _ h
def g9_isTaken_b76 (k46 : Int32 → Int32 → xMem → Option (Int32 × xMem)) (x1 x2 : Int32) (M : xMem) : Option (Int32 × xMem) :=
k46 x1 (x2 + (1 : Int32)) M
set_option maxHeartbeats 4000000 in
set_option maxRecDepth 20000 in
theorem v9_isTaken_b76 {G : xG} (hC : xC G cX9_isTaken 3 RX9 2) {R : Int32 × xMem} (hR : xRZ G cX9_isTaken 3 R) {k46 : Int32 → Int32 → xMem → Option (Int32 × xMem)} (hk46 : ∀ (y1 y2 : Int32) (N : xMem), k46 y1 y2 N = some R → V G 3 46 [(0, .inr 154), (1, .inl y1), (2, .inl y2)] [] N) (x1 x2 : Int32) (M : xMem) (h : g9_isTaken_b76 k46 x1 x2 M = some R) : V G 3 76 [(0, .inr 154), (1, .inl x1), (2, .inl x2)] [] M := by
  unfold g9_isTaken_b76 at h
  refine V.inc (lv' := [(0, .inr 154), (1, .inl x1), (2, .inl (x2 + (1 : Int32)))]) (r := 79) hC 2 dX9_isTaken_76 rfl ki_1 rfl rfl rfl ?_
  refine V.goto (tgt := 46) hC dX9_isTaken_79 (by decide) ?_
  exact hk46 _ _ _ h
def g9_isTaken_b46 : Nat → Int32 → Int32 → xMem → Option (Int32 × xMem)
  | 0, _, _, _ => none
  | n + 1, x1, x2, M => 
    (if (6 : Int32) ≤ x2 then
    (some ((0 : Int32), M))
    else
    (Option.bind (g9_isOn x2 M) fun q7 =>
    if (q7.1) = 0 then
    (g9_isTaken_b76 (g9_isTaken_b46 n) x1 x2 q7.2)
    else
    (if ((274 : Int32) + x2) < 0 ∨ 331 ≤ ((274 : Int32) + x2).toNatClampNeg then none else
    if (q7.2 7 ((274 : Int32) + x2).toNatClampNeg) = x1 then
    (some ((1 : Int32), q7.2))
    else
    (g9_isTaken_b76 (g9_isTaken_b46 n) x1 x2 q7.2))))
set_option maxHeartbeats 4000000 in
set_option maxRecDepth 20000 in
theorem v9_isTaken_b46 {G : xG} (hC : xC G cX9_isTaken 3 RX9 2) {R : Int32 × xMem} (hR : xRZ G cX9_isTaken 3 R) : ∀ (n : Nat) (x1 x2 : Int32) (M : xMem), g9_isTaken_b46 n x1 x2 M = some R → V G 3 46 [(0, .inr 154), (1, .inl x1), (2, .inl x2)] [] M := by
  intro n
  induction n with
  | zero => intro x1 x2 M h; rw [g9_isTaken_b46] at h; cases h
  | succ n ih =>
    intro x1 x2 M h
    rw [g9_isTaken_b46] at h
    refine V.iload_n (r := 47) hC 2 dX9_isTaken_46 rfl rfl ?_
    refine V.bipush (r := 49) hC dX9_isTaken_47 kb_6 rfl ?_
    refine V.icmp_ge (tgt := 82) (r := 52) hC dX9_isTaken_49 (by decide) rfl (fun c6 => ?_) (fun c6 => ?_)
    · rw [if_pos c6] at h
      refine V.iconst (r := 83) hC dX9_isTaken_82 ki_0 rfl ?_
      cases h
      exact hR _ _ (Or.inl rfl) dX9_isTaken_83
    · rw [if_neg c6] at h
      refine V.aload_n (r := 53) hC 0 dX9_isTaken_52 rfl rfl ?_
      refine V.iload_n (r := 54) hC 2 dX9_isTaken_53 rfl rfl ?_
      obtain ⟨q7, hq8, h⟩ := Option.bind_eq_some_iff.mp h
      try dsimp only at h
      refine V.invVi (as := [.inl x2]) (st := []) (r := 57) hC (met9_isOn hq8) yv_X9_isOn ml_RX9_85 sh_154 rfl rfl dX9_isTaken_54 (by decide) rfl rfl rfl rfl ?_
      refine V.if_eq (tgt := 76) (r := 60) hC dX9_isTaken_57 (by decide) rfl (fun c9 => ?_) (fun c9 => ?_)
      · rw [if_pos c9] at h
        exact v9_isTaken_b76  hC hR ih _ _ _ h
      · rw [if_neg c9] at h
        refine V.aload_n (r := 61) hC 0 dX9_isTaken_60 rfl rfl ?_
        refine V.getR (k' := 155) (j := 0) (r := 64) hC xcl_9 sh_154 fl_RX9_7 dX9_isTaken_61 (by decide) rfl rfl ?_
        refine V.sipush (r := 67) hC dX9_isTaken_64 ks_274 rfl ?_
        refine V.iload_n (r := 68) hC 2 dX9_isTaken_67 rfl rfl ?_
        refine V.iadd (r := 69) hC dX9_isTaken_68 rfl ?_
        by_cases c10 : ((274 : Int32) + x2) < 0 ∨ 331 ≤ ((274 : Int32) + x2).toNatClampNeg
        · rw [if_pos c10] at h; cases h
        rw [if_neg c10] at h
        refine V.iald (t := ((274 : Int32) + x2).toNatClampNeg) (r := 70) hC sh_155 dX9_isTaken_69 c10 (Nat.zero_add _) rfl ?_
        refine V.iload_n (r := 71) hC 1 dX9_isTaken_70 rfl rfl ?_
        refine V.icmp_ne (tgt := 76) (r := 74) hC dX9_isTaken_71 (by decide) rfl (fun c11 => ?_) (fun c11 => ?_)
        · rw [if_neg c11] at h
          exact v9_isTaken_b76  hC hR ih _ _ _ h
        · rw [if_pos c11] at h
          refine V.iconst (r := 75) hC dX9_isTaken_74 ki_1 rfl ?_
          cases h
          exact hR _ _ (Or.inr rfl) dX9_isTaken_75
def g9_isTaken_b2 : Nat → Int32 → Int32 → xMem → Option (Int32 × xMem)
  | 0, _, _, _ => none
  | n + 1, x1, x2, M => 
    (if (12 : Int32) ≤ x2 then
    (g9_isTaken_b46 5000 x1 (0 : Int32) M)
    else
    (if ((196 : Int32) + x2) < 0 ∨ 331 ≤ ((196 : Int32) + x2).toNatClampNeg then none else
    if (M 7 ((196 : Int32) + x2).toNatClampNeg) = (1 : Int32) then
    (if ((208 : Int32) + x2) < 0 ∨ 331 ≤ ((208 : Int32) + x2).toNatClampNeg then none else
    if (M 7 ((208 : Int32) + x2).toNatClampNeg) = x1 then
    (some ((1 : Int32), M))
    else
    (g9_isTaken_b38 (g9_isTaken_b2 n) x1 x2 M))
    else
    (g9_isTaken_b38 (g9_isTaken_b2 n) x1 x2 M)))
set_option maxHeartbeats 4000000 in
set_option maxRecDepth 20000 in
theorem v9_isTaken_b2 {G : xG} (hC : xC G cX9_isTaken 3 RX9 2) {R : Int32 × xMem} (hR : xRZ G cX9_isTaken 3 R) : ∀ (n : Nat) (x1 x2 : Int32) (M : xMem), g9_isTaken_b2 n x1 x2 M = some R → V G 3 2 [(0, .inr 154), (1, .inl x1), (2, .inl x2)] [] M := by
  intro n
  induction n with
  | zero => intro x1 x2 M h; rw [g9_isTaken_b2] at h; cases h
  | succ n ih =>
    intro x1 x2 M h
    rw [g9_isTaken_b2] at h
    refine V.iload_n (r := 3) hC 2 dX9_isTaken_2 rfl rfl ?_
    refine V.bipush (r := 5) hC dX9_isTaken_3 kb_12 rfl ?_
    refine V.icmp_ge (tgt := 44) (r := 8) hC dX9_isTaken_5 (by decide) rfl (fun c1 => ?_) (fun c1 => ?_)
    · rw [if_pos c1] at h
      refine V.iconst (r := 45) hC dX9_isTaken_44 ki_0 rfl ?_
      refine V.ist_n (lv' := [(0, .inr 154), (1, .inl x1), (2, .inl (0 : Int32))]) (r := 46) hC dX9_isTaken_45 rfl rfl rfl ?_
      exact v9_isTaken_b46  hC hR  5000 _ _ _ h
    · rw [if_neg c1] at h
      refine V.aload_n (r := 9) hC 0 dX9_isTaken_8 rfl rfl ?_
      refine V.getR (k' := 155) (j := 0) (r := 12) hC xcl_9 sh_154 fl_RX9_7 dX9_isTaken_9 (by decide) rfl rfl ?_
      refine V.sipush (r := 15) hC dX9_isTaken_12 ks_196 rfl ?_
      refine V.iload_n (r := 16) hC 2 dX9_isTaken_15 rfl rfl ?_
      refine V.iadd (r := 17) hC dX9_isTaken_16 rfl ?_
      by_cases c2 : ((196 : Int32) + x2) < 0 ∨ 331 ≤ ((196 : Int32) + x2).toNatClampNeg
      · rw [if_pos c2] at h; cases h
      rw [if_neg c2] at h
      refine V.iald (t := ((196 : Int32) + x2).toNatClampNeg) (r := 18) hC sh_155 dX9_isTaken_17 c2 (Nat.zero_add _) rfl ?_
      refine V.iconst (r := 19) hC dX9_isTaken_18 ki_1 rfl ?_
      refine V.icmp_ne (tgt := 38) (r := 22) hC dX9_isTaken_19 (by decide) rfl (fun c3 => ?_) (fun c3 => ?_)
      · rw [if_neg c3] at h
        exact v9_isTaken_b38  hC hR ih _ _ _ h
      · rw [if_pos c3] at h
        refine V.aload_n (r := 23) hC 0 dX9_isTaken_22 rfl rfl ?_
        refine V.getR (k' := 155) (j := 0) (r := 26) hC xcl_9 sh_154 fl_RX9_7 dX9_isTaken_23 (by decide) rfl rfl ?_
        refine V.sipush (r := 29) hC dX9_isTaken_26 ks_208 rfl ?_
        refine V.iload_n (r := 30) hC 2 dX9_isTaken_29 rfl rfl ?_
        refine V.iadd (r := 31) hC dX9_isTaken_30 rfl ?_
        by_cases c4 : ((208 : Int32) + x2) < 0 ∨ 331 ≤ ((208 : Int32) + x2).toNatClampNeg
        · rw [if_pos c4] at h; cases h
        rw [if_neg c4] at h
        refine V.iald (t := ((208 : Int32) + x2).toNatClampNeg) (r := 32) hC sh_155 dX9_isTaken_31 c4 (Nat.zero_add _) rfl ?_
        refine V.iload_n (r := 33) hC 1 dX9_isTaken_32 rfl rfl ?_
        refine V.icmp_ne (tgt := 38) (r := 36) hC dX9_isTaken_33 (by decide) rfl (fun c5 => ?_) (fun c5 => ?_)
        · rw [if_neg c5] at h
          exact v9_isTaken_b38  hC hR ih _ _ _ h
        · rw [if_pos c5] at h
          refine V.iconst (r := 37) hC dX9_isTaken_36 ki_1 rfl ?_
          cases h
          exact hR _ _ (Or.inr rfl) dX9_isTaken_37
def g9_isTaken (a0 : Int32) (M : xMem) : Option (Int32 × xMem) :=
g9_isTaken_b2 5000 a0 (0 : Int32) M
set_option maxHeartbeats 4000000 in
set_option maxRecDepth 20000 in
theorem v9_isTaken {G : xG} (hC : xC G cX9_isTaken 3 RX9 2) {R : Int32 × xMem} (hR : xRZ G cX9_isTaken 3 R) {a0 : Int32} {M : xMem} (h : g9_isTaken a0 M = some R) : V G 3 0 [(0, .inr 154), (1, .inl a0)] [] M := by
  unfold g9_isTaken at h
  refine V.iconst (r := 1) hC dX9_isTaken_0 ki_0 rfl ?_
  refine V.ist_n (lv' := [(0, .inr 154), (1, .inl a0), (2, .inl (0 : Int32))]) (r := 2) hC dX9_isTaken_1 rfl rfl rfl ?_
  exact v9_isTaken_b2  hC hR  5000 _ _ _ h
theorem met9_isTaken {R : Int32 × xMem} {a0 : Int32} {M : xMem} (h : g9_isTaken a0 M = some R) : xMet yX9_isTaken cX9_isTaken 3 (some .boolean) 2 [.inr 154, .inl a0] M (some R.1) R.2 := xMet.ofZ (by decide +kernel) (Nat.le_of_ble_eq_true rfl) fun _ hC hR => v9_isTaken  hC hR h
def g9_ground_b37 (x1 x2 x3 : Int32) (M : xMem) : Option (Int32 × xMem) :=
if (((0 : Int32) + ((14 : Int32) * x2)) + x1) < 0 ∨ 331 ≤ (((0 : Int32) + ((14 : Int32) * x2)) + x1).toNatClampNeg then none else
mset (upM M 7 (((0 : Int32) + ((14 : Int32) * x2)) + x1).toNatClampNeg x3) fun M12 =>
some ((1 : Int32), M12)
set_option maxHeartbeats 4000000 in
set_option maxRecDepth 20000 in
theorem v9_ground_b37 {G : xG} (hC : xC G cX9_ground 4 RX9 3) {R : Int32 × xMem} (hR : xRZ G cX9_ground 4 R) (x1 x2 x3 : Int32) (M : xMem) (h : g9_ground_b37 x1 x2 x3 M = some R) : V G 4 37 [(0, .inr 154), (1, .inl x1), (2, .inl x2), (3, .inl x3)] [] M := by
  unfold g9_ground_b37 at h
  refine V.aload_n (r := 38) hC 0 dX9_ground_37 rfl rfl ?_
  refine V.getR (k' := 155) (j := 0) (r := 41) hC xcl_9 sh_154 fl_RX9_7 dX9_ground_38 (by decide) rfl rfl ?_
  refine V.iconst (r := 42) hC dX9_ground_41 ki_0 rfl ?_
  refine V.bipush (r := 44) hC dX9_ground_42 kb_14 rfl ?_
  refine V.iload_n (r := 45) hC 2 dX9_ground_44 rfl rfl ?_
  refine V.imul (r := 46) hC dX9_ground_45 rfl ?_
  refine V.iadd (r := 47) hC dX9_ground_46 rfl ?_
  refine V.iload_n (r := 48) hC 1 dX9_ground_47 rfl rfl ?_
  refine V.iadd (r := 49) hC dX9_ground_48 rfl ?_
  refine V.iload_n (r := 50) hC 3 dX9_ground_49 rfl rfl ?_
  by_cases c11 : (((0 : Int32) + ((14 : Int32) * x2)) + x1) < 0 ∨ 331 ≤ (((0 : Int32) + ((14 : Int32) * x2)) + x1).toNatClampNeg
  · rw [if_pos c11] at h; cases h
  rw [if_neg c11] at h
  rw [mset_eq] at h
  refine V.iast (t := (((0 : Int32) + ((14 : Int32) * x2)) + x1).toNatClampNeg) (r := 51) hC sh_155 dX9_ground_50 c11 (Nat.zero_add _) rfl ?_
  generalize upM M 7 (((0 : Int32) + ((14 : Int32) * x2)) + x1).toNatClampNeg x3 = M12 at h ⊢
  refine V.iconst (r := 52) hC dX9_ground_51 ki_1 rfl ?_
  cases h
  exact hR _ _ (Or.inr rfl) dX9_ground_52
def g9_ground (a0 a1 a2 : Int32) (M : xMem) : Option (Int32 × xMem) :=
Option.bind (g9_isIn a0 a1 M) fun q1 =>
if (q1.1) = 0 then
(some ((0 : Int32), q1.2))
else
(Option.bind (g9_in a2 (0 : Int32) (3 : Int32) q1.2) fun q4 =>
if (q4.1) = 0 then
(some ((0 : Int32), q4.2))
else
(if a2 = (3 : Int32) then
(Option.bind (g9_isTaken (((14 : Int32) * a1) + a0) q4.2) fun q8 =>
if (q8.1) = 0 then
(g9_ground_b37 a0 a1 a2 q8.2)
else
(some ((0 : Int32), q8.2)))
else
(g9_ground_b37 a0 a1 a2 q4.2)))
set_option maxHeartbeats 4000000 in
set_option maxRecDepth 20000 in
theorem v9_ground {G : xG} (hC : xC G cX9_ground 4 RX9 3) {R : Int32 × xMem} (hR : xRZ G cX9_ground 4 R) {a0 a1 a2 : Int32} {M : xMem} (h : g9_ground a0 a1 a2 M = some R) : V G 4 0 [(0, .inr 154), (1, .inl a0), (2, .inl a1), (3, .inl a2)] [] M := by
  unfold g9_ground at h
  refine V.iload_n (r := 1) hC 1 dX9_ground_0 rfl rfl ?_
  refine V.iload_n (r := 2) hC 2 dX9_ground_1 rfl rfl ?_
  obtain ⟨q1, hq2, h⟩ := Option.bind_eq_some_iff.mp h
  try dsimp only at h
  refine V.invSi (as := [.inl a0, .inl a1]) (st := []) (r := 5) hC (met9_isIn hq2) ys_X9_isIn ml_RX9_88 dX9_ground_2 (by decide) rfl rfl rfl rfl ?_
  refine V.if_eq (tgt := 35) (r := 8) hC dX9_ground_5 (by decide) rfl (fun c3 => ?_) (fun c3 => ?_)
  · rw [if_pos c3] at h
    refine V.iconst (r := 36) hC dX9_ground_35 ki_0 rfl ?_
    cases h
    exact hR _ _ (Or.inl rfl) dX9_ground_36
  · rw [if_neg c3] at h
    refine V.iload_n (r := 9) hC 3 dX9_ground_8 rfl rfl ?_
    refine V.iconst (r := 10) hC dX9_ground_9 ki_0 rfl ?_
    refine V.iconst (r := 11) hC dX9_ground_10 ki_3 rfl ?_
    obtain ⟨q4, hq5, h⟩ := Option.bind_eq_some_iff.mp h
    try dsimp only at h
    refine V.invSi (as := [.inl a2, .inl (0 : Int32), .inl (3 : Int32)]) (st := []) (r := 14) hC (met9_in hq5) ys_X9_in ml_RX9_92 dX9_ground_11 (by decide) rfl rfl rfl rfl ?_
    refine V.if_eq (tgt := 35) (r := 17) hC dX9_ground_14 (by decide) rfl (fun c6 => ?_) (fun c6 => ?_)
    · rw [if_pos c6] at h
      refine V.iconst (r := 36) hC dX9_ground_35 ki_0 rfl ?_
      cases h
      exact hR _ _ (Or.inl rfl) dX9_ground_36
    · rw [if_neg c6] at h
      refine V.iload_n (r := 18) hC 3 dX9_ground_17 rfl rfl ?_
      refine V.iconst (r := 19) hC dX9_ground_18 ki_3 rfl ?_
      refine V.icmp_ne (tgt := 37) (r := 22) hC dX9_ground_19 (by decide) rfl (fun c7 => ?_) (fun c7 => ?_)
      · rw [if_neg c7] at h
        exact v9_ground_b37  hC hR  _ _ _ _ h
      · rw [if_pos c7] at h
        refine V.aload_n (r := 23) hC 0 dX9_ground_22 rfl rfl ?_
        refine V.bipush (r := 25) hC dX9_ground_23 kb_14 rfl ?_
        refine V.iload_n (r := 26) hC 2 dX9_ground_25 rfl rfl ?_
        refine V.imul (r := 27) hC dX9_ground_26 rfl ?_
        refine V.iload_n (r := 28) hC 1 dX9_ground_27 rfl rfl ?_
        refine V.iadd (r := 29) hC dX9_ground_28 rfl ?_
        obtain ⟨q8, hq9, h⟩ := Option.bind_eq_some_iff.mp h
        try dsimp only at h
        refine V.invVi (as := [.inl (((14 : Int32) * a1) + a0)]) (st := []) (r := 32) hC (met9_isTaken hq9) yv_X9_isTaken ml_RX9_96 sh_154 rfl rfl dX9_ground_29 (by decide) rfl rfl rfl rfl ?_
        refine V.if_eq (tgt := 37) (r := 35) hC dX9_ground_32 (by decide) rfl (fun c10 => ?_) (fun c10 => ?_)
        · rw [if_pos c10] at h
          exact v9_ground_b37  hC hR  _ _ _ _ h
        · rw [if_neg c10] at h
          refine V.iconst (r := 36) hC dX9_ground_35 ki_0 rfl ?_
          cases h
          exact hR _ _ (Or.inl rfl) dX9_ground_36
theorem met9_ground {R : Int32 × xMem} {a0 a1 a2 : Int32} {M : xMem} (h : g9_ground a0 a1 a2 M = some R) : xMet yX9_ground cX9_ground 4 (some .boolean) 3 [.inr 154, .inl a0, .inl a1, .inl a2] M (some R.1) R.2 := xMet.ofZ (by decide +kernel) (Nat.le_of_ble_eq_true rfl) fun _ hC hR => v9_ground  hC hR h
def g9_putsLamp (a0 a1 a2 a3 a4 : Int32) (M : xMem) : Option (Int32 × xMem) :=
Option.bind (g9_isIn a1 a2 M) fun q1 =>
if (q1.1) = 0 then
(some ((0 : Int32), q1.2))
else
(Option.bind (g9_in a3 (0 : Int32) (4 : Int32) q1.2) fun q4 =>
if (q4.1) = 0 then
(some ((0 : Int32), q4.2))
else
(Option.bind (g9_isRock (((14 : Int32) * a2) + a1) q4.2) fun q7 =>
if (q7.1) = 0 then
(if ((196 : Int32) + a0) < 0 ∨ 331 ≤ ((196 : Int32) + a0).toNatClampNeg then none else
mset (upM q7.2 7 ((196 : Int32) + a0).toNatClampNeg (1 : Int32)) fun M11 =>
if ((208 : Int32) + a0) < 0 ∨ 331 ≤ ((208 : Int32) + a0).toNatClampNeg then none else
mset (upM M11 7 ((208 : Int32) + a0).toNatClampNeg (((14 : Int32) * a2) + a1)) fun M13 =>
if ((220 : Int32) + a0) < 0 ∨ 331 ≤ ((220 : Int32) + a0).toNatClampNeg then none else
mset (upM M13 7 ((220 : Int32) + a0).toNatClampNeg a3) fun M15 =>
if ((232 : Int32) + a0) < 0 ∨ 331 ≤ ((232 : Int32) + a0).toNatClampNeg then none else
mset (upM M15 7 ((232 : Int32) + a0).toNatClampNeg (0 : Int32)) fun M17 =>
if ((244 : Int32) + a0) < 0 ∨ 331 ≤ ((244 : Int32) + a0).toNatClampNeg then none else
mset (upM M17 7 ((244 : Int32) + a0).toNatClampNeg (0 : Int32)) fun M19 =>
if ((256 : Int32) + a0) < 0 ∨ 331 ≤ ((256 : Int32) + a0).toNatClampNeg then none else
mset (upM M19 7 ((256 : Int32) + a0).toNatClampNeg a4) fun M21 =>
some ((1 : Int32), M21))
else
(some ((0 : Int32), q7.2))))
set_option maxHeartbeats 4000000 in
set_option maxRecDepth 20000 in
theorem v9_putsLamp {G : xG} (hC : xC G cX9_putsLamp 6 RX9 1) {R : Int32 × xMem} (hR : xRZ G cX9_putsLamp 6 R) {a0 a1 a2 a3 a4 : Int32} {M : xMem} (h : g9_putsLamp a0 a1 a2 a3 a4 M = some R) : V G 6 0 [(0, .inr 154), (1, .inl a0), (2, .inl a1), (3, .inl a2), (4, .inl a3), (5, .inl a4)] [] M := by
  unfold g9_putsLamp at h
  refine V.iload_n (r := 1) hC 2 dX9_putsLamp_0 rfl rfl ?_
  refine V.iload_n (r := 2) hC 3 dX9_putsLamp_1 rfl rfl ?_
  obtain ⟨q1, hq2, h⟩ := Option.bind_eq_some_iff.mp h
  try dsimp only at h
  refine V.invSi (as := [.inl a1, .inl a2]) (st := []) (r := 5) hC (met9_isIn hq2) ys_X9_isIn ml_RX9_88 dX9_putsLamp_2 (by decide) rfl rfl rfl rfl ?_
  refine V.if_eq (tgt := 31) (r := 8) hC dX9_putsLamp_5 (by decide) rfl (fun c3 => ?_) (fun c3 => ?_)
  · rw [if_pos c3] at h
    refine V.iconst (r := 32) hC dX9_putsLamp_31 ki_0 rfl ?_
    cases h
    exact hR _ _ (Or.inl rfl) dX9_putsLamp_32
  · rw [if_neg c3] at h
    refine V.iload (r := 10) hC 4 dX9_putsLamp_8 rfl rfl ?_
    refine V.iconst (r := 11) hC dX9_putsLamp_10 ki_0 rfl ?_
    refine V.iconst (r := 12) hC dX9_putsLamp_11 ki_4 rfl ?_
    obtain ⟨q4, hq5, h⟩ := Option.bind_eq_some_iff.mp h
    try dsimp only at h
    refine V.invSi (as := [.inl a3, .inl (0 : Int32), .inl (4 : Int32)]) (st := []) (r := 15) hC (met9_in hq5) ys_X9_in ml_RX9_92 dX9_putsLamp_12 (by decide) rfl rfl rfl rfl ?_
    refine V.if_eq (tgt := 31) (r := 18) hC dX9_putsLamp_15 (by decide) rfl (fun c6 => ?_) (fun c6 => ?_)
    · rw [if_pos c6] at h
      refine V.iconst (r := 32) hC dX9_putsLamp_31 ki_0 rfl ?_
      cases h
      exact hR _ _ (Or.inl rfl) dX9_putsLamp_32
    · rw [if_neg c6] at h
      refine V.aload_n (r := 19) hC 0 dX9_putsLamp_18 rfl rfl ?_
      refine V.bipush (r := 21) hC dX9_putsLamp_19 kb_14 rfl ?_
      refine V.iload_n (r := 22) hC 3 dX9_putsLamp_21 rfl rfl ?_
      refine V.imul (r := 23) hC dX9_putsLamp_22 rfl ?_
      refine V.iload_n (r := 24) hC 2 dX9_putsLamp_23 rfl rfl ?_
      refine V.iadd (r := 25) hC dX9_putsLamp_24 rfl ?_
      obtain ⟨q7, hq8, h⟩ := Option.bind_eq_some_iff.mp h
      try dsimp only at h
      refine V.invVi (as := [.inl (((14 : Int32) * a2) + a1)]) (st := []) (r := 28) hC (met9_isRock hq8) yv_X9_isRock ml_RX9_99 sh_154 rfl rfl dX9_putsLamp_25 (by decide) rfl rfl rfl rfl ?_
      refine V.if_eq (tgt := 33) (r := 31) hC dX9_putsLamp_28 (by decide) rfl (fun c9 => ?_) (fun c9 => ?_)
      · rw [if_pos c9] at h
        refine V.aload_n (r := 34) hC 0 dX9_putsLamp_33 rfl rfl ?_
        refine V.getR (k' := 155) (j := 0) (r := 37) hC xcl_9 sh_154 fl_RX9_7 dX9_putsLamp_34 (by decide) rfl rfl ?_
        refine V.sipush (r := 40) hC dX9_putsLamp_37 ks_196 rfl ?_
        refine V.iload_n (r := 41) hC 1 dX9_putsLamp_40 rfl rfl ?_
        refine V.iadd (r := 42) hC dX9_putsLamp_41 rfl ?_
        refine V.iconst (r := 43) hC dX9_putsLamp_42 ki_1 rfl ?_
        by_cases c10 : ((196 : Int32) + a0) < 0 ∨ 331 ≤ ((196 : Int32) + a0).toNatClampNeg
        · rw [if_pos c10] at h; cases h
        rw [if_neg c10] at h
        rw [mset_eq] at h
        refine V.iast (t := ((196 : Int32) + a0).toNatClampNeg) (r := 44) hC sh_155 dX9_putsLamp_43 c10 (Nat.zero_add _) rfl ?_
        generalize upM q7.2 7 ((196 : Int32) + a0).toNatClampNeg (1 : Int32) = M11 at h ⊢
        refine V.aload_n (r := 45) hC 0 dX9_putsLamp_44 rfl rfl ?_
        refine V.getR (k' := 155) (j := 0) (r := 48) hC xcl_9 sh_154 fl_RX9_7 dX9_putsLamp_45 (by decide) rfl rfl ?_
        refine V.sipush (r := 51) hC dX9_putsLamp_48 ks_208 rfl ?_
        refine V.iload_n (r := 52) hC 1 dX9_putsLamp_51 rfl rfl ?_
        refine V.iadd (r := 53) hC dX9_putsLamp_52 rfl ?_
        refine V.bipush (r := 55) hC dX9_putsLamp_53 kb_14 rfl ?_
        refine V.iload_n (r := 56) hC 3 dX9_putsLamp_55 rfl rfl ?_
        refine V.imul (r := 57) hC dX9_putsLamp_56 rfl ?_
        refine V.iload_n (r := 58) hC 2 dX9_putsLamp_57 rfl rfl ?_
        refine V.iadd (r := 59) hC dX9_putsLamp_58 rfl ?_
        by_cases c12 : ((208 : Int32) + a0) < 0 ∨ 331 ≤ ((208 : Int32) + a0).toNatClampNeg
        · rw [if_pos c12] at h; cases h
        rw [if_neg c12] at h
        rw [mset_eq] at h
        refine V.iast (t := ((208 : Int32) + a0).toNatClampNeg) (r := 60) hC sh_155 dX9_putsLamp_59 c12 (Nat.zero_add _) rfl ?_
        generalize upM M11 7 ((208 : Int32) + a0).toNatClampNeg (((14 : Int32) * a2) + a1) = M13 at h ⊢
        refine V.aload_n (r := 61) hC 0 dX9_putsLamp_60 rfl rfl ?_
        refine V.getR (k' := 155) (j := 0) (r := 64) hC xcl_9 sh_154 fl_RX9_7 dX9_putsLamp_61 (by decide) rfl rfl ?_
        refine V.sipush (r := 67) hC dX9_putsLamp_64 ks_220 rfl ?_
        refine V.iload_n (r := 68) hC 1 dX9_putsLamp_67 rfl rfl ?_
        refine V.iadd (r := 69) hC dX9_putsLamp_68 rfl ?_
        refine V.iload (r := 71) hC 4 dX9_putsLamp_69 rfl rfl ?_
        by_cases c14 : ((220 : Int32) + a0) < 0 ∨ 331 ≤ ((220 : Int32) + a0).toNatClampNeg
        · rw [if_pos c14] at h; cases h
        rw [if_neg c14] at h
        rw [mset_eq] at h
        refine V.iast (t := ((220 : Int32) + a0).toNatClampNeg) (r := 72) hC sh_155 dX9_putsLamp_71 c14 (Nat.zero_add _) rfl ?_
        generalize upM M13 7 ((220 : Int32) + a0).toNatClampNeg a3 = M15 at h ⊢
        refine V.aload_n (r := 73) hC 0 dX9_putsLamp_72 rfl rfl ?_
        refine V.getR (k' := 155) (j := 0) (r := 76) hC xcl_9 sh_154 fl_RX9_7 dX9_putsLamp_73 (by decide) rfl rfl ?_
        refine V.sipush (r := 79) hC dX9_putsLamp_76 ks_232 rfl ?_
        refine V.iload_n (r := 80) hC 1 dX9_putsLamp_79 rfl rfl ?_
        refine V.iadd (r := 81) hC dX9_putsLamp_80 rfl ?_
        refine V.iconst (r := 82) hC dX9_putsLamp_81 ki_0 rfl ?_
        by_cases c16 : ((232 : Int32) + a0) < 0 ∨ 331 ≤ ((232 : Int32) + a0).toNatClampNeg
        · rw [if_pos c16] at h; cases h
        rw [if_neg c16] at h
        rw [mset_eq] at h
        refine V.iast (t := ((232 : Int32) + a0).toNatClampNeg) (r := 83) hC sh_155 dX9_putsLamp_82 c16 (Nat.zero_add _) rfl ?_
        generalize upM M15 7 ((232 : Int32) + a0).toNatClampNeg (0 : Int32) = M17 at h ⊢
        refine V.aload_n (r := 84) hC 0 dX9_putsLamp_83 rfl rfl ?_
        refine V.getR (k' := 155) (j := 0) (r := 87) hC xcl_9 sh_154 fl_RX9_7 dX9_putsLamp_84 (by decide) rfl rfl ?_
        refine V.sipush (r := 90) hC dX9_putsLamp_87 ks_244 rfl ?_
        refine V.iload_n (r := 91) hC 1 dX9_putsLamp_90 rfl rfl ?_
        refine V.iadd (r := 92) hC dX9_putsLamp_91 rfl ?_
        refine V.iconst (r := 93) hC dX9_putsLamp_92 ki_0 rfl ?_
        by_cases c18 : ((244 : Int32) + a0) < 0 ∨ 331 ≤ ((244 : Int32) + a0).toNatClampNeg
        · rw [if_pos c18] at h; cases h
        rw [if_neg c18] at h
        rw [mset_eq] at h
        refine V.iast (t := ((244 : Int32) + a0).toNatClampNeg) (r := 94) hC sh_155 dX9_putsLamp_93 c18 (Nat.zero_add _) rfl ?_
        generalize upM M17 7 ((244 : Int32) + a0).toNatClampNeg (0 : Int32) = M19 at h ⊢
        refine V.aload_n (r := 95) hC 0 dX9_putsLamp_94 rfl rfl ?_
        refine V.getR (k' := 155) (j := 0) (r := 98) hC xcl_9 sh_154 fl_RX9_7 dX9_putsLamp_95 (by decide) rfl rfl ?_
        refine V.sipush (r := 101) hC dX9_putsLamp_98 ks_256 rfl ?_
        refine V.iload_n (r := 102) hC 1 dX9_putsLamp_101 rfl rfl ?_
        refine V.iadd (r := 103) hC dX9_putsLamp_102 rfl ?_
        refine V.iload (r := 105) hC 5 dX9_putsLamp_103 rfl rfl ?_
        by_cases c20 : ((256 : Int32) + a0) < 0 ∨ 331 ≤ ((256 : Int32) + a0).toNatClampNeg
        · rw [if_pos c20] at h; cases h
        rw [if_neg c20] at h
        rw [mset_eq] at h
        refine V.iast (t := ((256 : Int32) + a0).toNatClampNeg) (r := 106) hC sh_155 dX9_putsLamp_105 c20 (Nat.zero_add _) rfl ?_
        generalize upM M19 7 ((256 : Int32) + a0).toNatClampNeg a4 = M21 at h ⊢
        refine V.iconst (r := 107) hC dX9_putsLamp_106 ki_1 rfl ?_
        cases h
        exact hR _ _ (Or.inr rfl) dX9_putsLamp_107
      · rw [if_neg c9] at h
        refine V.iconst (r := 32) hC dX9_putsLamp_31 ki_0 rfl ?_
        cases h
        exact hR _ _ (Or.inl rfl) dX9_putsLamp_32
theorem met9_putsLamp {R : Int32 × xMem} {a0 a1 a2 a3 a4 : Int32} {M : xMem} (h : g9_putsLamp a0 a1 a2 a3 a4 M = some R) : xMet yX9_putsLamp cX9_putsLamp 6 (some .boolean) 1 [.inr 154, .inl a0, .inl a1, .inl a2, .inl a3, .inl a4] M (some R.1) R.2 := xMet.ofZ (by decide +kernel) (Nat.le_of_ble_eq_true rfl) fun _ hC hR => v9_putsLamp  hC hR h
def g9_inn (a0 a1 a2 a3 : Int32) (M : xMem) : Option (Int32 × xMem) :=
Option.bind (g9_isInn a0 M) fun q1 =>
if (q1.1) = 0 then
(some ((0 : Int32), q1.2))
else
(Option.bind (g9_putsLamp a0 a1 a2 a3 (0 : Int32) q1.2) fun q4 =>
if (q4.1) = 0 then
(some ((0 : Int32), q4.2))
else
(some ((1 : Int32), q4.2)))
set_option maxHeartbeats 4000000 in
set_option maxRecDepth 20000 in
theorem v9_inn {G : xG} (hC : xC G cX9_inn 5 RX9 2) {R : Int32 × xMem} (hR : xRZ G cX9_inn 5 R) {a0 a1 a2 a3 : Int32} {M : xMem} (h : g9_inn a0 a1 a2 a3 M = some R) : V G 5 0 [(0, .inr 154), (1, .inl a0), (2, .inl a1), (3, .inl a2), (4, .inl a3)] [] M := by
  unfold g9_inn at h
  refine V.iload_n (r := 1) hC 1 dX9_inn_0 rfl rfl ?_
  obtain ⟨q1, hq2, h⟩ := Option.bind_eq_some_iff.mp h
  try dsimp only at h
  refine V.invSi (as := [.inl a0]) (st := []) (r := 4) hC (met9_isInn hq2) ys_X9_isInn ml_RX9_102 dX9_inn_1 (by decide) rfl rfl rfl rfl ?_
  refine V.if_eq (tgt := 24) (r := 7) hC dX9_inn_4 (by decide) rfl (fun c3 => ?_) (fun c3 => ?_)
  · rw [if_pos c3] at h
    refine V.iconst (r := 25) hC dX9_inn_24 ki_0 rfl ?_
    cases h
    exact hR _ _ (Or.inl rfl) dX9_inn_25
  · rw [if_neg c3] at h
    refine V.aload_n (r := 8) hC 0 dX9_inn_7 rfl rfl ?_
    refine V.iload_n (r := 9) hC 1 dX9_inn_8 rfl rfl ?_
    refine V.iload_n (r := 10) hC 2 dX9_inn_9 rfl rfl ?_
    refine V.iload_n (r := 11) hC 3 dX9_inn_10 rfl rfl ?_
    refine V.iload (r := 13) hC 4 dX9_inn_11 rfl rfl ?_
    refine V.iconst (r := 14) hC dX9_inn_13 ki_0 rfl ?_
    obtain ⟨q4, hq5, h⟩ := Option.bind_eq_some_iff.mp h
    try dsimp only at h
    refine V.invVi (as := [.inl a0, .inl a1, .inl a2, .inl a3, .inl (0 : Int32)]) (st := []) (r := 17) hC (met9_putsLamp hq5) yv_X9_putsLamp ml_RX9_105 sh_154 rfl rfl dX9_inn_14 (by decide) rfl rfl rfl rfl ?_
    refine V.if_eq (tgt := 24) (r := 20) hC dX9_inn_17 (by decide) rfl (fun c6 => ?_) (fun c6 => ?_)
    · rw [if_pos c6] at h
      refine V.iconst (r := 25) hC dX9_inn_24 ki_0 rfl ?_
      cases h
      exact hR _ _ (Or.inl rfl) dX9_inn_25
    · rw [if_neg c6] at h
      refine V.iconst (r := 21) hC dX9_inn_20 ki_1 rfl ?_
      refine V.goto (tgt := 25) hC dX9_inn_21 (by decide) ?_
      cases h
      exact hR _ _ (Or.inr rfl) dX9_inn_25
theorem met9_inn {R : Int32 × xMem} {a0 a1 a2 a3 : Int32} {M : xMem} (h : g9_inn a0 a1 a2 a3 M = some R) : xMet yX9_inn cX9_inn 5 (some .boolean) 2 [.inr 154, .inl a0, .inl a1, .inl a2, .inl a3] M (some R.1) R.2 := xMet.ofZ (by decide +kernel) (Nat.le_of_ble_eq_true rfl) fun _ hC hR => v9_inn  hC hR h
def g9_stray_b27 (s1 s2 s3 s4 s5 : Int32) (M : xMem) : Option (Int32 × xMem) :=
Option.bind (g9_putsLamp s1 s2 s3 s4 s5 M) fun q5 =>
if (q5.1) = 0 then
(some ((0 : Int32), q5.2))
else
(some ((1 : Int32), q5.2))
set_option maxHeartbeats 4000000 in
set_option maxRecDepth 20000 in
theorem v9_stray_b27 {G : xG} (hC : xC G cX9_stray 6 RX9 2) {R : Int32 × xMem} (hR : xRZ G cX9_stray 6 R) (s1 s2 s3 s4 s5 : Int32) (M : xMem) (h : g9_stray_b27 s1 s2 s3 s4 s5 M = some R) : V G 6 27 [] [.inl s5, .inl s4, .inl s3, .inl s2, .inl s1, .inr 154] M := by
  unfold g9_stray_b27 at h
  obtain ⟨q5, hq6, h⟩ := Option.bind_eq_some_iff.mp h
  try dsimp only at h
  refine V.invVi (as := [.inl s1, .inl s2, .inl s3, .inl s4, .inl s5]) (st := []) (r := 30) hC (met9_putsLamp hq6) yv_X9_putsLamp ml_RX9_105 sh_154 rfl rfl dX9_stray_27 (by decide) rfl rfl rfl rfl ?_
  refine V.if_eq (tgt := 37) (r := 33) hC dX9_stray_30 (by decide) rfl (fun c7 => ?_) (fun c7 => ?_)
  · rw [if_pos c7] at h
    refine V.iconst (r := 38) hC dX9_stray_37 ki_0 rfl ?_
    cases h
    exact hR _ _ (Or.inl rfl) dX9_stray_38
  · rw [if_neg c7] at h
    refine V.iconst (r := 34) hC dX9_stray_33 ki_1 rfl ?_
    refine V.goto (tgt := 38) hC dX9_stray_34 (by decide) ?_
    cases h
    exact hR _ _ (Or.inr rfl) dX9_stray_38
def g9_stray (a0 a1 a2 a3 a4 : Int32) (M : xMem) : Option (Int32 × xMem) :=
Option.bind (g9_in a0 (9 : Int32) (11 : Int32) M) fun q1 =>
if (q1.1) = 0 then
(some ((0 : Int32), q1.2))
else
(if a4 = 0 then
(g9_stray_b27 a0 a1 a2 a3 (0 : Int32) q1.2)
else
(g9_stray_b27 a0 a1 a2 a3 (1 : Int32) q1.2))
set_option maxHeartbeats 4000000 in
set_option maxRecDepth 20000 in
theorem v9_stray {G : xG} (hC : xC G cX9_stray 6 RX9 2) {R : Int32 × xMem} (hR : xRZ G cX9_stray 6 R) {a0 a1 a2 a3 a4 : Int32} {M : xMem} (h : g9_stray a0 a1 a2 a3 a4 M = some R) : V G 6 0 [(0, .inr 154), (1, .inl a0), (2, .inl a1), (3, .inl a2), (4, .inl a3), (5, .inl a4)] [] M := by
  unfold g9_stray at h
  refine V.iload_n (r := 1) hC 1 dX9_stray_0 rfl rfl ?_
  refine V.bipush (r := 3) hC dX9_stray_1 kb_9 rfl ?_
  refine V.bipush (r := 5) hC dX9_stray_3 kb_11 rfl ?_
  obtain ⟨q1, hq2, h⟩ := Option.bind_eq_some_iff.mp h
  try dsimp only at h
  refine V.invSi (as := [.inl a0, .inl (9 : Int32), .inl (11 : Int32)]) (st := []) (r := 8) hC (met9_in hq2) ys_X9_in ml_RX9_92 dX9_stray_5 (by decide) rfl rfl rfl rfl ?_
  refine V.if_eq (tgt := 37) (r := 11) hC dX9_stray_8 (by decide) rfl (fun c3 => ?_) (fun c3 => ?_)
  · rw [if_pos c3] at h
    refine V.iconst (r := 38) hC dX9_stray_37 ki_0 rfl ?_
    cases h
    exact hR _ _ (Or.inl rfl) dX9_stray_38
  · rw [if_neg c3] at h
    refine V.aload_n (r := 12) hC 0 dX9_stray_11 rfl rfl ?_
    refine V.iload_n (r := 13) hC 1 dX9_stray_12 rfl rfl ?_
    refine V.iload_n (r := 14) hC 2 dX9_stray_13 rfl rfl ?_
    refine V.iload_n (r := 15) hC 3 dX9_stray_14 rfl rfl ?_
    refine V.iload (r := 17) hC 4 dX9_stray_15 rfl rfl ?_
    refine V.iload (r := 19) hC 5 dX9_stray_17 rfl rfl ?_
    refine V.if_eq (tgt := 26) (r := 22) hC dX9_stray_19 (by decide) rfl (fun c4 => ?_) (fun c4 => ?_)
    · rw [if_pos c4] at h
      refine V.iconst (r := 27) hC dX9_stray_26 ki_0 rfl ?_
      refine V.pick (lv' := []) [] rfl ?_
      exact v9_stray_b27  hC hR  _ _ _ _ _ _ h
    · rw [if_neg c4] at h
      refine V.iconst (r := 23) hC dX9_stray_22 ki_1 rfl ?_
      refine V.goto (tgt := 27) hC dX9_stray_23 (by decide) ?_
      refine V.pick (lv' := []) [] rfl ?_
      exact v9_stray_b27  hC hR  _ _ _ _ _ _ h
theorem met9_stray {R : Int32 × xMem} {a0 a1 a2 a3 a4 : Int32} {M : xMem} (h : g9_stray a0 a1 a2 a3 a4 M = some R) : xMet yX9_stray cX9_stray 6 (some .boolean) 2 [.inr 154, .inl a0, .inl a1, .inl a2, .inl a3, .inl a4] M (some R.1) R.2 := xMet.ofZ (by decide +kernel) (Nat.le_of_ble_eq_true rfl) fun _ hC hR => v9_stray  hC hR h
def g9_gone (a0 : Int32) (M : xMem) : Option (Int32 × xMem) :=
Option.bind (g9_isLamp a0 M) fun q1 =>
if (q1.1) = 0 then
(some ((0 : Int32), q1.2))
else
(if ((196 : Int32) + a0) < 0 ∨ 331 ≤ ((196 : Int32) + a0).toNatClampNeg then none else
mset (upM q1.2 7 ((196 : Int32) + a0).toNatClampNeg (0 : Int32)) fun M5 =>
some ((1 : Int32), M5))
set_option maxHeartbeats 4000000 in
set_option maxRecDepth 20000 in
theorem v9_gone {G : xG} (hC : xC G cX9_gone 2 RX9 1) {R : Int32 × xMem} (hR : xRZ G cX9_gone 2 R) {a0 : Int32} {M : xMem} (h : g9_gone a0 M = some R) : V G 2 0 [(0, .inr 154), (1, .inl a0)] [] M := by
  unfold g9_gone at h
  refine V.aload_n (r := 1) hC 0 dX9_gone_0 rfl rfl ?_
  refine V.iload_n (r := 2) hC 1 dX9_gone_1 rfl rfl ?_
  obtain ⟨q1, hq2, h⟩ := Option.bind_eq_some_iff.mp h
  try dsimp only at h
  refine V.invVi (as := [.inl a0]) (st := []) (r := 5) hC (met9_isLamp hq2) yv_X9_isLamp ml_RX9_109 sh_154 rfl rfl dX9_gone_2 (by decide) rfl rfl rfl rfl ?_
  refine V.if_ne (tgt := 10) (r := 8) hC dX9_gone_5 (by decide) rfl (fun c3 => ?_) (fun c3 => ?_)
  · rw [if_neg c3] at h
    refine V.aload_n (r := 11) hC 0 dX9_gone_10 rfl rfl ?_
    refine V.getR (k' := 155) (j := 0) (r := 14) hC xcl_9 sh_154 fl_RX9_7 dX9_gone_11 (by decide) rfl rfl ?_
    refine V.sipush (r := 17) hC dX9_gone_14 ks_196 rfl ?_
    refine V.iload_n (r := 18) hC 1 dX9_gone_17 rfl rfl ?_
    refine V.iadd (r := 19) hC dX9_gone_18 rfl ?_
    refine V.iconst (r := 20) hC dX9_gone_19 ki_0 rfl ?_
    by_cases c4 : ((196 : Int32) + a0) < 0 ∨ 331 ≤ ((196 : Int32) + a0).toNatClampNeg
    · rw [if_pos c4] at h; cases h
    rw [if_neg c4] at h
    rw [mset_eq] at h
    refine V.iast (t := ((196 : Int32) + a0).toNatClampNeg) (r := 21) hC sh_155 dX9_gone_20 c4 (Nat.zero_add _) rfl ?_
    generalize upM q1.2 7 ((196 : Int32) + a0).toNatClampNeg (0 : Int32) = M5 at h ⊢
    refine V.iconst (r := 22) hC dX9_gone_21 ki_1 rfl ?_
    cases h
    exact hR _ _ (Or.inr rfl) dX9_gone_22
  · rw [if_pos c3] at h
    refine V.iconst (r := 9) hC dX9_gone_8 ki_0 rfl ?_
    cases h
    exact hR _ _ (Or.inl rfl) dX9_gone_9
theorem met9_gone {R : Int32 × xMem} {a0 : Int32} {M : xMem} (h : g9_gone a0 M = some R) : xMet yX9_gone cX9_gone 2 (some .boolean) 1 [.inr 154, .inl a0] M (some R.1) R.2 := xMet.ofZ (by decide +kernel) (Nat.le_of_ble_eq_true rfl) fun _ hC hR => v9_gone  hC hR h
def g9_dog (a0 a1 : Int32) (M : xMem) : Option (Int32 × xMem) :=
Option.bind (g9_isInn a0 M) fun q1 =>
if (q1.1) = 0 then
(some ((0 : Int32), q1.2))
else
(Option.bind (g9_isLamp a0 q1.2) fun q4 =>
if (q4.1) = 0 then
(some ((0 : Int32), q4.2))
else
(Option.bind (g9_in a1 (0 : Int32) (99 : Int32) q4.2) fun q7 =>
if (q7.1) = 0 then
(some ((0 : Int32), q7.2))
else
(if ((244 : Int32) + a0) < 0 ∨ 331 ≤ ((244 : Int32) + a0).toNatClampNeg then none else
mset (upM q7.2 7 ((244 : Int32) + a0).toNatClampNeg a1) fun M11 =>
some ((1 : Int32), M11))))
set_option maxHeartbeats 4000000 in
set_option maxRecDepth 20000 in
theorem v9_dog {G : xG} (hC : xC G cX9_dog 3 RX9 1) {R : Int32 × xMem} (hR : xRZ G cX9_dog 3 R) {a0 a1 : Int32} {M : xMem} (h : g9_dog a0 a1 M = some R) : V G 3 0 [(0, .inr 154), (1, .inl a0), (2, .inl a1)] [] M := by
  unfold g9_dog at h
  refine V.iload_n (r := 1) hC 1 dX9_dog_0 rfl rfl ?_
  obtain ⟨q1, hq2, h⟩ := Option.bind_eq_some_iff.mp h
  try dsimp only at h
  refine V.invSi (as := [.inl a0]) (st := []) (r := 4) hC (met9_isInn hq2) ys_X9_isInn ml_RX9_102 dX9_dog_1 (by decide) rfl rfl rfl rfl ?_
  refine V.if_eq (tgt := 25) (r := 7) hC dX9_dog_4 (by decide) rfl (fun c3 => ?_) (fun c3 => ?_)
  · rw [if_pos c3] at h
    refine V.iconst (r := 26) hC dX9_dog_25 ki_0 rfl ?_
    cases h
    exact hR _ _ (Or.inl rfl) dX9_dog_26
  · rw [if_neg c3] at h
    refine V.aload_n (r := 8) hC 0 dX9_dog_7 rfl rfl ?_
    refine V.iload_n (r := 9) hC 1 dX9_dog_8 rfl rfl ?_
    obtain ⟨q4, hq5, h⟩ := Option.bind_eq_some_iff.mp h
    try dsimp only at h
    refine V.invVi (as := [.inl a0]) (st := []) (r := 12) hC (met9_isLamp hq5) yv_X9_isLamp ml_RX9_109 sh_154 rfl rfl dX9_dog_9 (by decide) rfl rfl rfl rfl ?_
    refine V.if_eq (tgt := 25) (r := 15) hC dX9_dog_12 (by decide) rfl (fun c6 => ?_) (fun c6 => ?_)
    · rw [if_pos c6] at h
      refine V.iconst (r := 26) hC dX9_dog_25 ki_0 rfl ?_
      cases h
      exact hR _ _ (Or.inl rfl) dX9_dog_26
    · rw [if_neg c6] at h
      refine V.iload_n (r := 16) hC 2 dX9_dog_15 rfl rfl ?_
      refine V.iconst (r := 17) hC dX9_dog_16 ki_0 rfl ?_
      refine V.bipush (r := 19) hC dX9_dog_17 kb_99 rfl ?_
      obtain ⟨q7, hq8, h⟩ := Option.bind_eq_some_iff.mp h
      try dsimp only at h
      refine V.invSi (as := [.inl a1, .inl (0 : Int32), .inl (99 : Int32)]) (st := []) (r := 22) hC (met9_in hq8) ys_X9_in ml_RX9_92 dX9_dog_19 (by decide) rfl rfl rfl rfl ?_
      refine V.if_ne (tgt := 27) (r := 25) hC dX9_dog_22 (by decide) rfl (fun c9 => ?_) (fun c9 => ?_)
      · rw [if_neg c9] at h
        refine V.aload_n (r := 28) hC 0 dX9_dog_27 rfl rfl ?_
        refine V.getR (k' := 155) (j := 0) (r := 31) hC xcl_9 sh_154 fl_RX9_7 dX9_dog_28 (by decide) rfl rfl ?_
        refine V.sipush (r := 34) hC dX9_dog_31 ks_244 rfl ?_
        refine V.iload_n (r := 35) hC 1 dX9_dog_34 rfl rfl ?_
        refine V.iadd (r := 36) hC dX9_dog_35 rfl ?_
        refine V.iload_n (r := 37) hC 2 dX9_dog_36 rfl rfl ?_
        by_cases c10 : ((244 : Int32) + a0) < 0 ∨ 331 ≤ ((244 : Int32) + a0).toNatClampNeg
        · rw [if_pos c10] at h; cases h
        rw [if_neg c10] at h
        rw [mset_eq] at h
        refine V.iast (t := ((244 : Int32) + a0).toNatClampNeg) (r := 38) hC sh_155 dX9_dog_37 c10 (Nat.zero_add _) rfl ?_
        generalize upM q7.2 7 ((244 : Int32) + a0).toNatClampNeg a1 = M11 at h ⊢
        refine V.iconst (r := 39) hC dX9_dog_38 ki_1 rfl ?_
        cases h
        exact hR _ _ (Or.inr rfl) dX9_dog_39
      · rw [if_pos c9] at h
        refine V.iconst (r := 26) hC dX9_dog_25 ki_0 rfl ?_
        cases h
        exact hR _ _ (Or.inl rfl) dX9_dog_26
theorem met9_dog {R : Int32 × xMem} {a0 a1 : Int32} {M : xMem} (h : g9_dog a0 a1 M = some R) : xMet yX9_dog cX9_dog 3 (some .boolean) 1 [.inr 154, .inl a0, .inl a1] M (some R.1) R.2 := xMet.ofZ (by decide +kernel) (Nat.le_of_ble_eq_true rfl) fun _ hC hR => v9_dog  hC hR h
def g9_herd (a0 a1 a2 a3 a4 a5 : Int32) (M : xMem) : Option (Int32 × xMem) :=
Option.bind (g9_in a0 (0 : Int32) (5 : Int32) M) fun q1 =>
if (q1.1) = 0 then
(some ((0 : Int32), q1.2))
else
(Option.bind (g9_isIn a1 a2 q1.2) fun q4 =>
if (q4.1) = 0 then
(some ((0 : Int32), q4.2))
else
(Option.bind (g9_in a3 (0 : Int32) (999 : Int32) q4.2) fun q7 =>
if (q7.1) = 0 then
(some ((0 : Int32), q7.2))
else
(Option.bind (g9_in a4 (0 : Int32) (99 : Int32) q7.2) fun q10 =>
if (q10.1) = 0 then
(some ((0 : Int32), q10.2))
else
(Option.bind (g9_in a5 (0 : Int32) (99 : Int32) q10.2) fun q13 =>
if (q13.1) = 0 then
(some ((0 : Int32), q13.2))
else
(Option.bind (g9_isRock (((14 : Int32) * a2) + a1) q13.2) fun q16 =>
if (q16.1) = 0 then
(if ((268 : Int32) + a0) < 0 ∨ 331 ≤ ((268 : Int32) + a0).toNatClampNeg then none else
mset (upM q16.2 7 ((268 : Int32) + a0).toNatClampNeg (1 : Int32)) fun M20 =>
if ((274 : Int32) + a0) < 0 ∨ 331 ≤ ((274 : Int32) + a0).toNatClampNeg then none else
mset (upM M20 7 ((274 : Int32) + a0).toNatClampNeg (((14 : Int32) * a2) + a1)) fun M22 =>
if ((280 : Int32) + a0) < 0 ∨ 331 ≤ ((280 : Int32) + a0).toNatClampNeg then none else
mset (upM M22 7 ((280 : Int32) + a0).toNatClampNeg a3) fun M24 =>
if ((286 : Int32) + a0) < 0 ∨ 331 ≤ ((286 : Int32) + a0).toNatClampNeg then none else
mset (upM M24 7 ((286 : Int32) + a0).toNatClampNeg a4) fun M26 =>
if ((292 : Int32) + a0) < 0 ∨ 331 ≤ ((292 : Int32) + a0).toNatClampNeg then none else
mset (upM M26 7 ((292 : Int32) + a0).toNatClampNeg a5) fun M28 =>
if ((298 : Int32) + a0) < 0 ∨ 331 ≤ ((298 : Int32) + a0).toNatClampNeg then none else
mset (upM M28 7 ((298 : Int32) + a0).toNatClampNeg (0 : Int32)) fun M30 =>
some ((1 : Int32), M30))
else
(some ((0 : Int32), q16.2)))))))
set_option maxHeartbeats 4000000 in
set_option maxRecDepth 20000 in
theorem v9_herd {G : xG} (hC : xC G cX9_herd 7 RX9 1) {R : Int32 × xMem} (hR : xRZ G cX9_herd 7 R) {a0 a1 a2 a3 a4 a5 : Int32} {M : xMem} (h : g9_herd a0 a1 a2 a3 a4 a5 M = some R) : V G 7 0 [(0, .inr 154), (1, .inl a0), (2, .inl a1), (3, .inl a2), (4, .inl a3), (5, .inl a4), (6, .inl a5)] [] M := by
  unfold g9_herd at h
  refine V.iload_n (r := 1) hC 1 dX9_herd_0 rfl rfl ?_
  refine V.iconst (r := 2) hC dX9_herd_1 ki_0 rfl ?_
  refine V.iconst (r := 3) hC dX9_herd_2 ki_5 rfl ?_
  obtain ⟨q1, hq2, h⟩ := Option.bind_eq_some_iff.mp h
  try dsimp only at h
  refine V.invSi (as := [.inl a0, .inl (0 : Int32), .inl (5 : Int32)]) (st := []) (r := 6) hC (met9_in hq2) ys_X9_in ml_RX9_92 dX9_herd_3 (by decide) rfl rfl rfl rfl ?_
  refine V.if_eq (tgt := 64) (r := 9) hC dX9_herd_6 (by decide) rfl (fun c3 => ?_) (fun c3 => ?_)
  · rw [if_pos c3] at h
    refine V.iconst (r := 65) hC dX9_herd_64 ki_0 rfl ?_
    cases h
    exact hR _ _ (Or.inl rfl) dX9_herd_65
  · rw [if_neg c3] at h
    refine V.iload_n (r := 10) hC 2 dX9_herd_9 rfl rfl ?_
    refine V.iload_n (r := 11) hC 3 dX9_herd_10 rfl rfl ?_
    obtain ⟨q4, hq5, h⟩ := Option.bind_eq_some_iff.mp h
    try dsimp only at h
    refine V.invSi (as := [.inl a1, .inl a2]) (st := []) (r := 14) hC (met9_isIn hq5) ys_X9_isIn ml_RX9_88 dX9_herd_11 (by decide) rfl rfl rfl rfl ?_
    refine V.if_eq (tgt := 64) (r := 17) hC dX9_herd_14 (by decide) rfl (fun c6 => ?_) (fun c6 => ?_)
    · rw [if_pos c6] at h
      refine V.iconst (r := 65) hC dX9_herd_64 ki_0 rfl ?_
      cases h
      exact hR _ _ (Or.inl rfl) dX9_herd_65
    · rw [if_neg c6] at h
      refine V.iload (r := 19) hC 4 dX9_herd_17 rfl rfl ?_
      refine V.iconst (r := 20) hC dX9_herd_19 ki_0 rfl ?_
      refine V.sipush (r := 23) hC dX9_herd_20 ks_999 rfl ?_
      obtain ⟨q7, hq8, h⟩ := Option.bind_eq_some_iff.mp h
      try dsimp only at h
      refine V.invSi (as := [.inl a3, .inl (0 : Int32), .inl (999 : Int32)]) (st := []) (r := 26) hC (met9_in hq8) ys_X9_in ml_RX9_92 dX9_herd_23 (by decide) rfl rfl rfl rfl ?_
      refine V.if_eq (tgt := 64) (r := 29) hC dX9_herd_26 (by decide) rfl (fun c9 => ?_) (fun c9 => ?_)
      · rw [if_pos c9] at h
        refine V.iconst (r := 65) hC dX9_herd_64 ki_0 rfl ?_
        cases h
        exact hR _ _ (Or.inl rfl) dX9_herd_65
      · rw [if_neg c9] at h
        refine V.iload (r := 31) hC 5 dX9_herd_29 rfl rfl ?_
        refine V.iconst (r := 32) hC dX9_herd_31 ki_0 rfl ?_
        refine V.bipush (r := 34) hC dX9_herd_32 kb_99 rfl ?_
        obtain ⟨q10, hq11, h⟩ := Option.bind_eq_some_iff.mp h
        try dsimp only at h
        refine V.invSi (as := [.inl a4, .inl (0 : Int32), .inl (99 : Int32)]) (st := []) (r := 37) hC (met9_in hq11) ys_X9_in ml_RX9_92 dX9_herd_34 (by decide) rfl rfl rfl rfl ?_
        refine V.if_eq (tgt := 64) (r := 40) hC dX9_herd_37 (by decide) rfl (fun c12 => ?_) (fun c12 => ?_)
        · rw [if_pos c12] at h
          refine V.iconst (r := 65) hC dX9_herd_64 ki_0 rfl ?_
          cases h
          exact hR _ _ (Or.inl rfl) dX9_herd_65
        · rw [if_neg c12] at h
          refine V.iload (r := 42) hC 6 dX9_herd_40 rfl rfl ?_
          refine V.iconst (r := 43) hC dX9_herd_42 ki_0 rfl ?_
          refine V.bipush (r := 45) hC dX9_herd_43 kb_99 rfl ?_
          obtain ⟨q13, hq14, h⟩ := Option.bind_eq_some_iff.mp h
          try dsimp only at h
          refine V.invSi (as := [.inl a5, .inl (0 : Int32), .inl (99 : Int32)]) (st := []) (r := 48) hC (met9_in hq14) ys_X9_in ml_RX9_92 dX9_herd_45 (by decide) rfl rfl rfl rfl ?_
          refine V.if_eq (tgt := 64) (r := 51) hC dX9_herd_48 (by decide) rfl (fun c15 => ?_) (fun c15 => ?_)
          · rw [if_pos c15] at h
            refine V.iconst (r := 65) hC dX9_herd_64 ki_0 rfl ?_
            cases h
            exact hR _ _ (Or.inl rfl) dX9_herd_65
          · rw [if_neg c15] at h
            refine V.aload_n (r := 52) hC 0 dX9_herd_51 rfl rfl ?_
            refine V.bipush (r := 54) hC dX9_herd_52 kb_14 rfl ?_
            refine V.iload_n (r := 55) hC 3 dX9_herd_54 rfl rfl ?_
            refine V.imul (r := 56) hC dX9_herd_55 rfl ?_
            refine V.iload_n (r := 57) hC 2 dX9_herd_56 rfl rfl ?_
            refine V.iadd (r := 58) hC dX9_herd_57 rfl ?_
            obtain ⟨q16, hq17, h⟩ := Option.bind_eq_some_iff.mp h
            try dsimp only at h
            refine V.invVi (as := [.inl (((14 : Int32) * a2) + a1)]) (st := []) (r := 61) hC (met9_isRock hq17) yv_X9_isRock ml_RX9_99 sh_154 rfl rfl dX9_herd_58 (by decide) rfl rfl rfl rfl ?_
            refine V.if_eq (tgt := 66) (r := 64) hC dX9_herd_61 (by decide) rfl (fun c18 => ?_) (fun c18 => ?_)
            · rw [if_pos c18] at h
              refine V.aload_n (r := 67) hC 0 dX9_herd_66 rfl rfl ?_
              refine V.getR (k' := 155) (j := 0) (r := 70) hC xcl_9 sh_154 fl_RX9_7 dX9_herd_67 (by decide) rfl rfl ?_
              refine V.sipush (r := 73) hC dX9_herd_70 ks_268 rfl ?_
              refine V.iload_n (r := 74) hC 1 dX9_herd_73 rfl rfl ?_
              refine V.iadd (r := 75) hC dX9_herd_74 rfl ?_
              refine V.iconst (r := 76) hC dX9_herd_75 ki_1 rfl ?_
              by_cases c19 : ((268 : Int32) + a0) < 0 ∨ 331 ≤ ((268 : Int32) + a0).toNatClampNeg
              · rw [if_pos c19] at h; cases h
              rw [if_neg c19] at h
              rw [mset_eq] at h
              refine V.iast (t := ((268 : Int32) + a0).toNatClampNeg) (r := 77) hC sh_155 dX9_herd_76 c19 (Nat.zero_add _) rfl ?_
              generalize upM q16.2 7 ((268 : Int32) + a0).toNatClampNeg (1 : Int32) = M20 at h ⊢
              refine V.aload_n (r := 78) hC 0 dX9_herd_77 rfl rfl ?_
              refine V.getR (k' := 155) (j := 0) (r := 81) hC xcl_9 sh_154 fl_RX9_7 dX9_herd_78 (by decide) rfl rfl ?_
              refine V.sipush (r := 84) hC dX9_herd_81 ks_274 rfl ?_
              refine V.iload_n (r := 85) hC 1 dX9_herd_84 rfl rfl ?_
              refine V.iadd (r := 86) hC dX9_herd_85 rfl ?_
              refine V.bipush (r := 88) hC dX9_herd_86 kb_14 rfl ?_
              refine V.iload_n (r := 89) hC 3 dX9_herd_88 rfl rfl ?_
              refine V.imul (r := 90) hC dX9_herd_89 rfl ?_
              refine V.iload_n (r := 91) hC 2 dX9_herd_90 rfl rfl ?_
              refine V.iadd (r := 92) hC dX9_herd_91 rfl ?_
              by_cases c21 : ((274 : Int32) + a0) < 0 ∨ 331 ≤ ((274 : Int32) + a0).toNatClampNeg
              · rw [if_pos c21] at h; cases h
              rw [if_neg c21] at h
              rw [mset_eq] at h
              refine V.iast (t := ((274 : Int32) + a0).toNatClampNeg) (r := 93) hC sh_155 dX9_herd_92 c21 (Nat.zero_add _) rfl ?_
              generalize upM M20 7 ((274 : Int32) + a0).toNatClampNeg (((14 : Int32) * a2) + a1) = M22 at h ⊢
              refine V.aload_n (r := 94) hC 0 dX9_herd_93 rfl rfl ?_
              refine V.getR (k' := 155) (j := 0) (r := 97) hC xcl_9 sh_154 fl_RX9_7 dX9_herd_94 (by decide) rfl rfl ?_
              refine V.sipush (r := 100) hC dX9_herd_97 ks_280 rfl ?_
              refine V.iload_n (r := 101) hC 1 dX9_herd_100 rfl rfl ?_
              refine V.iadd (r := 102) hC dX9_herd_101 rfl ?_
              refine V.iload (r := 104) hC 4 dX9_herd_102 rfl rfl ?_
              by_cases c23 : ((280 : Int32) + a0) < 0 ∨ 331 ≤ ((280 : Int32) + a0).toNatClampNeg
              · rw [if_pos c23] at h; cases h
              rw [if_neg c23] at h
              rw [mset_eq] at h
              refine V.iast (t := ((280 : Int32) + a0).toNatClampNeg) (r := 105) hC sh_155 dX9_herd_104 c23 (Nat.zero_add _) rfl ?_
              generalize upM M22 7 ((280 : Int32) + a0).toNatClampNeg a3 = M24 at h ⊢
              refine V.aload_n (r := 106) hC 0 dX9_herd_105 rfl rfl ?_
              refine V.getR (k' := 155) (j := 0) (r := 109) hC xcl_9 sh_154 fl_RX9_7 dX9_herd_106 (by decide) rfl rfl ?_
              refine V.sipush (r := 112) hC dX9_herd_109 ks_286 rfl ?_
              refine V.iload_n (r := 113) hC 1 dX9_herd_112 rfl rfl ?_
              refine V.iadd (r := 114) hC dX9_herd_113 rfl ?_
              refine V.iload (r := 116) hC 5 dX9_herd_114 rfl rfl ?_
              by_cases c25 : ((286 : Int32) + a0) < 0 ∨ 331 ≤ ((286 : Int32) + a0).toNatClampNeg
              · rw [if_pos c25] at h; cases h
              rw [if_neg c25] at h
              rw [mset_eq] at h
              refine V.iast (t := ((286 : Int32) + a0).toNatClampNeg) (r := 117) hC sh_155 dX9_herd_116 c25 (Nat.zero_add _) rfl ?_
              generalize upM M24 7 ((286 : Int32) + a0).toNatClampNeg a4 = M26 at h ⊢
              refine V.aload_n (r := 118) hC 0 dX9_herd_117 rfl rfl ?_
              refine V.getR (k' := 155) (j := 0) (r := 121) hC xcl_9 sh_154 fl_RX9_7 dX9_herd_118 (by decide) rfl rfl ?_
              refine V.sipush (r := 124) hC dX9_herd_121 ks_292 rfl ?_
              refine V.iload_n (r := 125) hC 1 dX9_herd_124 rfl rfl ?_
              refine V.iadd (r := 126) hC dX9_herd_125 rfl ?_
              refine V.iload (r := 128) hC 6 dX9_herd_126 rfl rfl ?_
              by_cases c27 : ((292 : Int32) + a0) < 0 ∨ 331 ≤ ((292 : Int32) + a0).toNatClampNeg
              · rw [if_pos c27] at h; cases h
              rw [if_neg c27] at h
              rw [mset_eq] at h
              refine V.iast (t := ((292 : Int32) + a0).toNatClampNeg) (r := 129) hC sh_155 dX9_herd_128 c27 (Nat.zero_add _) rfl ?_
              generalize upM M26 7 ((292 : Int32) + a0).toNatClampNeg a5 = M28 at h ⊢
              refine V.aload_n (r := 130) hC 0 dX9_herd_129 rfl rfl ?_
              refine V.getR (k' := 155) (j := 0) (r := 133) hC xcl_9 sh_154 fl_RX9_7 dX9_herd_130 (by decide) rfl rfl ?_
              refine V.sipush (r := 136) hC dX9_herd_133 ks_298 rfl ?_
              refine V.iload_n (r := 137) hC 1 dX9_herd_136 rfl rfl ?_
              refine V.iadd (r := 138) hC dX9_herd_137 rfl ?_
              refine V.iconst (r := 139) hC dX9_herd_138 ki_0 rfl ?_
              by_cases c29 : ((298 : Int32) + a0) < 0 ∨ 331 ≤ ((298 : Int32) + a0).toNatClampNeg
              · rw [if_pos c29] at h; cases h
              rw [if_neg c29] at h
              rw [mset_eq] at h
              refine V.iast (t := ((298 : Int32) + a0).toNatClampNeg) (r := 140) hC sh_155 dX9_herd_139 c29 (Nat.zero_add _) rfl ?_
              generalize upM M28 7 ((298 : Int32) + a0).toNatClampNeg (0 : Int32) = M30 at h ⊢
              refine V.iconst (r := 141) hC dX9_herd_140 ki_1 rfl ?_
              cases h
              exact hR _ _ (Or.inr rfl) dX9_herd_141
            · rw [if_neg c18] at h
              refine V.iconst (r := 65) hC dX9_herd_64 ki_0 rfl ?_
              cases h
              exact hR _ _ (Or.inl rfl) dX9_herd_65
theorem met9_herd {R : Int32 × xMem} {a0 a1 a2 a3 a4 a5 : Int32} {M : xMem} (h : g9_herd a0 a1 a2 a3 a4 a5 M = some R) : xMet yX9_herd cX9_herd 7 (some .boolean) 1 [.inr 154, .inl a0, .inl a1, .inl a2, .inl a3, .inl a4, .inl a5] M (some R.1) R.2 := xMet.ofZ (by decide +kernel) (Nat.le_of_ble_eq_true rfl) fun _ hC hR => v9_herd  hC hR h
def g9_fire_b51 (s1 s2 : Int32) (M : xMem) : Option (Int32 × xMem) :=
if s1 < 0 ∨ 331 ≤ s1.toNatClampNeg then none else
mset (upM M 7 s1.toNatClampNeg s2) fun M9 =>
some ((1 : Int32), M9)
set_option maxHeartbeats 4000000 in
set_option maxRecDepth 20000 in
theorem v9_fire_b51 {G : xG} (hC : xC G cX9_fire 3 RX9 1) {R : Int32 × xMem} (hR : xRZ G cX9_fire 3 R) (s1 s2 : Int32) (M : xMem) (h : g9_fire_b51 s1 s2 M = some R) : V G 3 51 [] [.inl s2, .inl s1, .inr 155] M := by
  unfold g9_fire_b51 at h
  by_cases c8 : s1 < 0 ∨ 331 ≤ s1.toNatClampNeg
  · rw [if_pos c8] at h; cases h
  rw [if_neg c8] at h
  rw [mset_eq] at h
  refine V.iast (t := s1.toNatClampNeg) (r := 52) hC sh_155 dX9_fire_51 c8 (Nat.zero_add _) rfl ?_
  generalize upM M 7 s1.toNatClampNeg s2 = M9 at h ⊢
  refine V.iconst (r := 53) hC dX9_fire_52 ki_1 rfl ?_
  cases h
  exact hR _ _ (Or.inr rfl) dX9_fire_53
def g9_fire_b27 (x1 x2 s0 : Int32) (M : xMem) : Option (Int32 × xMem) :=
if s0 = x2 then
(some ((0 : Int32), M))
else
(if x2 = 0 then
(g9_fire_b51 ((298 : Int32) + x1) (0 : Int32) M)
else
(g9_fire_b51 ((298 : Int32) + x1) (1 : Int32) M))
set_option maxHeartbeats 4000000 in
set_option maxRecDepth 20000 in
theorem v9_fire_b27 {G : xG} (hC : xC G cX9_fire 3 RX9 1) {R : Int32 × xMem} (hR : xRZ G cX9_fire 3 R) (x1 x2 s0 : Int32) (M : xMem) (h : g9_fire_b27 x1 x2 s0 M = some R) : V G 3 27 [(0, .inr 154), (1, .inl x1), (2, .inl x2)] [.inl s0] M := by
  unfold g9_fire_b27 at h
  refine V.iload_n (r := 28) hC 2 dX9_fire_27 rfl rfl ?_
  refine V.icmp_ne (tgt := 33) (r := 31) hC dX9_fire_28 (by decide) rfl (fun c6 => ?_) (fun c6 => ?_)
  · rw [if_neg c6] at h
    refine V.aload_n (r := 34) hC 0 dX9_fire_33 rfl rfl ?_
    refine V.getR (k' := 155) (j := 0) (r := 37) hC xcl_9 sh_154 fl_RX9_7 dX9_fire_34 (by decide) rfl rfl ?_
    refine V.sipush (r := 40) hC dX9_fire_37 ks_298 rfl ?_
    refine V.iload_n (r := 41) hC 1 dX9_fire_40 rfl rfl ?_
    refine V.iadd (r := 42) hC dX9_fire_41 rfl ?_
    refine V.iload_n (r := 43) hC 2 dX9_fire_42 rfl rfl ?_
    refine V.if_eq (tgt := 50) (r := 46) hC dX9_fire_43 (by decide) rfl (fun c7 => ?_) (fun c7 => ?_)
    · rw [if_pos c7] at h
      refine V.iconst (r := 51) hC dX9_fire_50 ki_0 rfl ?_
      refine V.pick (lv' := []) [] rfl ?_
      exact v9_fire_b51  hC hR  _ _ _ h
    · rw [if_neg c7] at h
      refine V.iconst (r := 47) hC dX9_fire_46 ki_1 rfl ?_
      refine V.goto (tgt := 51) hC dX9_fire_47 (by decide) ?_
      refine V.pick (lv' := []) [] rfl ?_
      exact v9_fire_b51  hC hR  _ _ _ h
  · rw [if_pos c6] at h
    refine V.iconst (r := 32) hC dX9_fire_31 ki_0 rfl ?_
    cases h
    exact hR _ _ (Or.inl rfl) dX9_fire_32
def g9_fire (a0 a1 : Int32) (M : xMem) : Option (Int32 × xMem) :=
Option.bind (g9_isTold a0 M) fun q1 =>
if (q1.1) = 0 then
(some ((0 : Int32), q1.2))
else
(if ((298 : Int32) + a0) < 0 ∨ 331 ≤ ((298 : Int32) + a0).toNatClampNeg then none else
if (q1.2 7 ((298 : Int32) + a0).toNatClampNeg) = (1 : Int32) then
(g9_fire_b27 a0 a1 (1 : Int32) q1.2)
else
(g9_fire_b27 a0 a1 (0 : Int32) q1.2))
set_option maxHeartbeats 4000000 in
set_option maxRecDepth 20000 in
theorem v9_fire {G : xG} (hC : xC G cX9_fire 3 RX9 1) {R : Int32 × xMem} (hR : xRZ G cX9_fire 3 R) {a0 a1 : Int32} {M : xMem} (h : g9_fire a0 a1 M = some R) : V G 3 0 [(0, .inr 154), (1, .inl a0), (2, .inl a1)] [] M := by
  unfold g9_fire at h
  refine V.aload_n (r := 1) hC 0 dX9_fire_0 rfl rfl ?_
  refine V.iload_n (r := 2) hC 1 dX9_fire_1 rfl rfl ?_
  obtain ⟨q1, hq2, h⟩ := Option.bind_eq_some_iff.mp h
  try dsimp only at h
  refine V.invVi (as := [.inl a0]) (st := []) (r := 5) hC (met9_isTold hq2) yv_X9_isTold ml_RX9_81 sh_154 rfl rfl dX9_fire_2 (by decide) rfl rfl rfl rfl ?_
  refine V.if_eq (tgt := 31) (r := 8) hC dX9_fire_5 (by decide) rfl (fun c3 => ?_) (fun c3 => ?_)
  · rw [if_pos c3] at h
    refine V.iconst (r := 32) hC dX9_fire_31 ki_0 rfl ?_
    cases h
    exact hR _ _ (Or.inl rfl) dX9_fire_32
  · rw [if_neg c3] at h
    refine V.aload_n (r := 9) hC 0 dX9_fire_8 rfl rfl ?_
    refine V.getR (k' := 155) (j := 0) (r := 12) hC xcl_9 sh_154 fl_RX9_7 dX9_fire_9 (by decide) rfl rfl ?_
    refine V.sipush (r := 15) hC dX9_fire_12 ks_298 rfl ?_
    refine V.iload_n (r := 16) hC 1 dX9_fire_15 rfl rfl ?_
    refine V.iadd (r := 17) hC dX9_fire_16 rfl ?_
    by_cases c4 : ((298 : Int32) + a0) < 0 ∨ 331 ≤ ((298 : Int32) + a0).toNatClampNeg
    · rw [if_pos c4] at h; cases h
    rw [if_neg c4] at h
    refine V.iald (t := ((298 : Int32) + a0).toNatClampNeg) (r := 18) hC sh_155 dX9_fire_17 c4 (Nat.zero_add _) rfl ?_
    refine V.iconst (r := 19) hC dX9_fire_18 ki_1 rfl ?_
    refine V.icmp_ne (tgt := 26) (r := 22) hC dX9_fire_19 (by decide) rfl (fun c5 => ?_) (fun c5 => ?_)
    · rw [if_neg c5] at h
      refine V.iconst (r := 27) hC dX9_fire_26 ki_0 rfl ?_
      exact v9_fire_b27  hC hR  _ _ _ _ h
    · rw [if_pos c5] at h
      refine V.iconst (r := 23) hC dX9_fire_22 ki_1 rfl ?_
      refine V.goto (tgt := 27) hC dX9_fire_23 (by decide) ?_
      exact v9_fire_b27  hC hR  _ _ _ _ h
theorem met9_fire {R : Int32 × xMem} {a0 a1 : Int32} {M : xMem} (h : g9_fire a0 a1 M = some R) : xMet yX9_fire cX9_fire 3 (some .boolean) 1 [.inr 154, .inl a0, .inl a1] M (some R.1) R.2 := xMet.ofZ (by decide +kernel) (Nat.le_of_ble_eq_true rfl) fun _ hC hR => v9_fire  hC hR h
def g9_isDrover (a0 : Int32) (M : xMem) : Option (Int32 × xMem) :=
if a0 < 0 then
(some ((0 : Int32), M))
else
(if (4 : Int32) ≤ a0 then
(some ((0 : Int32), M))
else
(some ((1 : Int32), M)))
set_option maxHeartbeats 4000000 in
set_option maxRecDepth 20000 in
theorem v9_isDrover {G : xG} (hC : xC G cX9_isDrover 1 RX9 0) {R : Int32 × xMem} (hR : xRZ G cX9_isDrover 1 R) {a0 : Int32} {M : xMem} (h : g9_isDrover a0 M = some R) : V G 1 0 [(0, .inl a0)] [] M := by
  unfold g9_isDrover at h
  refine V.iload_n (r := 1) hC 0 dX9_isDrover_0 rfl rfl ?_
  refine V.if_lt (tgt := 13) (r := 4) hC dX9_isDrover_1 (by decide) rfl (fun c1 => ?_) (fun c1 => ?_)
  · rw [if_pos c1] at h
    refine V.iconst (r := 14) hC dX9_isDrover_13 ki_0 rfl ?_
    cases h
    exact hR _ _ (Or.inl rfl) dX9_isDrover_14
  · rw [if_neg c1] at h
    refine V.iload_n (r := 5) hC 0 dX9_isDrover_4 rfl rfl ?_
    refine V.iconst (r := 6) hC dX9_isDrover_5 ki_4 rfl ?_
    refine V.icmp_ge (tgt := 13) (r := 9) hC dX9_isDrover_6 (by decide) rfl (fun c2 => ?_) (fun c2 => ?_)
    · rw [if_pos c2] at h
      refine V.iconst (r := 14) hC dX9_isDrover_13 ki_0 rfl ?_
      cases h
      exact hR _ _ (Or.inl rfl) dX9_isDrover_14
    · rw [if_neg c2] at h
      refine V.iconst (r := 10) hC dX9_isDrover_9 ki_1 rfl ?_
      refine V.goto (tgt := 14) hC dX9_isDrover_10 (by decide) ?_
      cases h
      exact hR _ _ (Or.inr rfl) dX9_isDrover_14
theorem met9_isDrover {R : Int32 × xMem} {a0 : Int32} {M : xMem} (h : g9_isDrover a0 M = some R) : xMet yX9_isDrover cX9_isDrover 1 (some .boolean) 0 [.inl a0] M (some R.1) R.2 := xMet.ofZ (by decide +kernel) (Nat.le_of_ble_eq_true rfl) fun _ hC hR => v9_isDrover  hC hR h
def g9_drover (a0 a1 : Int32) (M : xMem) : Option (Int32 × xMem) :=
Option.bind (g9_isDrover a0 M) fun q1 =>
if (q1.1) = 0 then
(some ((0 : Int32), q1.2))
else
(Option.bind (g9_in a1 (0 : Int32) (9999 : Int32) q1.2) fun q4 =>
if (q4.1) = 0 then
(some ((0 : Int32), q4.2))
else
(if ((304 : Int32) + a0) < 0 ∨ 331 ≤ ((304 : Int32) + a0).toNatClampNeg then none else
mset (upM q4.2 7 ((304 : Int32) + a0).toNatClampNeg a1) fun M8 =>
some ((1 : Int32), M8)))
set_option maxHeartbeats 4000000 in
set_option maxRecDepth 20000 in
theorem v9_drover {G : xG} (hC : xC G cX9_drover 3 RX9 1) {R : Int32 × xMem} (hR : xRZ G cX9_drover 3 R) {a0 a1 : Int32} {M : xMem} (h : g9_drover a0 a1 M = some R) : V G 3 0 [(0, .inr 154), (1, .inl a0), (2, .inl a1)] [] M := by
  unfold g9_drover at h
  refine V.iload_n (r := 1) hC 1 dX9_drover_0 rfl rfl ?_
  obtain ⟨q1, hq2, h⟩ := Option.bind_eq_some_iff.mp h
  try dsimp only at h
  refine V.invSi (as := [.inl a0]) (st := []) (r := 4) hC (met9_isDrover hq2) ys_X9_isDrover ml_RX9_112 dX9_drover_1 (by decide) rfl rfl rfl rfl ?_
  refine V.if_eq (tgt := 18) (r := 7) hC dX9_drover_4 (by decide) rfl (fun c3 => ?_) (fun c3 => ?_)
  · rw [if_pos c3] at h
    refine V.iconst (r := 19) hC dX9_drover_18 ki_0 rfl ?_
    cases h
    exact hR _ _ (Or.inl rfl) dX9_drover_19
  · rw [if_neg c3] at h
    refine V.iload_n (r := 8) hC 2 dX9_drover_7 rfl rfl ?_
    refine V.iconst (r := 9) hC dX9_drover_8 ki_0 rfl ?_
    refine V.sipush (r := 12) hC dX9_drover_9 ks_9999 rfl ?_
    obtain ⟨q4, hq5, h⟩ := Option.bind_eq_some_iff.mp h
    try dsimp only at h
    refine V.invSi (as := [.inl a1, .inl (0 : Int32), .inl (9999 : Int32)]) (st := []) (r := 15) hC (met9_in hq5) ys_X9_in ml_RX9_92 dX9_drover_12 (by decide) rfl rfl rfl rfl ?_
    refine V.if_ne (tgt := 20) (r := 18) hC dX9_drover_15 (by decide) rfl (fun c6 => ?_) (fun c6 => ?_)
    · rw [if_neg c6] at h
      refine V.aload_n (r := 21) hC 0 dX9_drover_20 rfl rfl ?_
      refine V.getR (k' := 155) (j := 0) (r := 24) hC xcl_9 sh_154 fl_RX9_7 dX9_drover_21 (by decide) rfl rfl ?_
      refine V.sipush (r := 27) hC dX9_drover_24 ks_304 rfl ?_
      refine V.iload_n (r := 28) hC 1 dX9_drover_27 rfl rfl ?_
      refine V.iadd (r := 29) hC dX9_drover_28 rfl ?_
      refine V.iload_n (r := 30) hC 2 dX9_drover_29 rfl rfl ?_
      by_cases c7 : ((304 : Int32) + a0) < 0 ∨ 331 ≤ ((304 : Int32) + a0).toNatClampNeg
      · rw [if_pos c7] at h; cases h
      rw [if_neg c7] at h
      rw [mset_eq] at h
      refine V.iast (t := ((304 : Int32) + a0).toNatClampNeg) (r := 31) hC sh_155 dX9_drover_30 c7 (Nat.zero_add _) rfl ?_
      generalize upM q4.2 7 ((304 : Int32) + a0).toNatClampNeg a1 = M8 at h ⊢
      refine V.iconst (r := 32) hC dX9_drover_31 ki_1 rfl ?_
      cases h
      exact hR _ _ (Or.inr rfl) dX9_drover_32
    · rw [if_pos c6] at h
      refine V.iconst (r := 19) hC dX9_drover_18 ki_0 rfl ?_
      cases h
      exact hR _ _ (Or.inl rfl) dX9_drover_19
theorem met9_drover {R : Int32 × xMem} {a0 a1 : Int32} {M : xMem} (h : g9_drover a0 a1 M = some R) : xMet yX9_drover cX9_drover 3 (some .boolean) 1 [.inr 154, .inl a0, .inl a1] M (some R.1) R.2 := xMet.ofZ (by decide +kernel) (Nat.le_of_ble_eq_true rfl) fun _ hC hR => v9_drover  hC hR h
def g9_types_b2 : Nat → Int32 → Int32 → xMem → Option (xMem)
  | 0, _, _, _ => none
  | n + 1, x1, x2, M => 
    (if x2 < 0 then
    (some M)
    else
    (if (M 164 0) < 0 ∨ 260 ≤ (M 164 0).toNatClampNeg then none else
    mset (upM M 163 (M 164 0).toNatClampNeg ((x1 >>> (((8 : Int32) * x2) &&& 31)).toInt8.toInt32).toInt8.toInt32) fun M3 =>
    mset (upM M3 164 0 ((M3 164 0) + (1 : Int32))) fun M4 =>
    g9_types_b2 n x1 (x2 + (-1 : Int32)) M4))
set_option maxHeartbeats 4000000 in
set_option maxRecDepth 20000 in
theorem v9_types_b2 {G : xG} (hC : xC G cX9_types 3 RX9 0) {R : xMem} (hR : xRV G cX9_types 3 R) : ∀ (n : Nat) (x1 x2 : Int32) (M : xMem), g9_types_b2 n x1 x2 M = some R → V G 3 2 [(0, .inr 154), (1, .inl x1), (2, .inl x2)] [] M := by
  intro n
  induction n with
  | zero => intro x1 x2 M h; rw [g9_types_b2] at h; cases h
  | succ n ih =>
    intro x1 x2 M h
    rw [g9_types_b2] at h
    refine V.iload_n (r := 3) hC 2 dX9_types_2 rfl rfl ?_
    refine V.if_lt (tgt := 38) (r := 6) hC dX9_types_3 (by decide) rfl (fun c1 => ?_) (fun c1 => ?_)
    · rw [if_pos c1] at h
      cases h
      exact hR _ _ dX9_types_38
    · rw [if_neg c1] at h
      refine V.aload_n (r := 7) hC 0 dX9_types_6 rfl rfl ?_
      refine V.getR (k' := 158) (j := 3) (r := 10) hC xcl_9 sh_154 fl_RX9_19 dX9_types_7 (by decide) rfl rfl ?_
      refine V.aload_n (r := 11) hC 0 dX9_types_10 rfl rfl ?_
      refine V.getI (b := 164) (i := 0) (j := 4) (r := 14) hC xcl_9 sh_154 fl_RX9_115 dX9_types_11 (by decide) rfl rfl ?_
      refine V.iload_n (r := 15) hC 1 dX9_types_14 rfl rfl ?_
      refine V.bipush (r := 17) hC dX9_types_15 kb_8 rfl ?_
      refine V.iload_n (r := 18) hC 2 dX9_types_17 rfl rfl ?_
      refine V.imul (r := 19) hC dX9_types_18 rfl ?_
      refine V.ishr (r := 20) hC dX9_types_19 rfl ?_
      refine V.i2b (r := 21) hC dX9_types_20 rfl ?_
      by_cases c2 : (M 164 0) < 0 ∨ 260 ≤ (M 164 0).toNatClampNeg
      · rw [if_pos c2] at h; cases h
      rw [if_neg c2] at h
      rw [mset_eq] at h
      refine V.bast (t := (M 164 0).toNatClampNeg) (r := 22) hC sh_158 dX9_types_21 c2 (Nat.zero_add _) rfl ?_
      generalize upM M 163 (M 164 0).toNatClampNeg ((x1 >>> (((8 : Int32) * x2) &&& 31)).toInt8.toInt32).toInt8.toInt32 = M3 at h ⊢
      refine V.aload_n (r := 23) hC 0 dX9_types_22 rfl rfl ?_
      refine V.aload_n (r := 24) hC 0 dX9_types_23 rfl rfl ?_
      refine V.getI (b := 164) (i := 0) (j := 4) (r := 27) hC xcl_9 sh_154 fl_RX9_115 dX9_types_24 (by decide) rfl rfl ?_
      refine V.iconst (r := 28) hC dX9_types_27 ki_1 rfl ?_
      refine V.iadd (r := 29) hC dX9_types_28 rfl ?_
      rw [mset_eq] at h
      refine V.putI (b := 164) (i := 0) (j := 4) (ty := .int) (r := 32) hC xcl_9 xcp_9 sh_154 fl_RX9_115 dX9_types_29 (by decide) rfl rfl (by decide +kernel) rfl rfl rfl ?_
      generalize upM M3 164 0 ((M3 164 0) + (1 : Int32)) = M4 at h ⊢
      refine V.inc (lv' := [(0, .inr 154), (1, .inl x1), (2, .inl (x2 + (-1 : Int32)))]) (r := 35) hC 2 dX9_types_32 rfl ki_m1 rfl rfl rfl ?_
      refine V.goto (tgt := 2) hC dX9_types_35 (by decide) ?_
      exact ih _ _ _ h
def g9_types (a0 : Int32) (M : xMem) : Option (xMem) :=
g9_types_b2 5000 a0 (3 : Int32) M
set_option maxHeartbeats 4000000 in
set_option maxRecDepth 20000 in
theorem v9_types {G : xG} (hC : xC G cX9_types 3 RX9 0) {R : xMem} (hR : xRV G cX9_types 3 R) {a0 : Int32} {M : xMem} (h : g9_types a0 M = some R) : V G 3 0 [(0, .inr 154), (1, .inl a0)] [] M := by
  unfold g9_types at h
  refine V.iconst (r := 1) hC dX9_types_0 ki_3 rfl ?_
  refine V.ist_n (lv' := [(0, .inr 154), (1, .inl a0), (2, .inl (3 : Int32))]) (r := 2) hC dX9_types_1 rfl rfl rfl ?_
  exact v9_types_b2  hC hR  5000 _ _ _ h
theorem met9_types {R : xMem} {a0 : Int32} {M : xMem} (h : g9_types a0 M = some R) : xMet yX9_types cX9_types 3 none 0 [.inr 154, .inl a0] M none R := xMet.ofV (by decide +kernel) (Nat.le_of_ble_eq_true rfl) fun _ hC hR => v9_types  hC hR h
def g9_feed (a0 a1 a2 a3 a4 : Int32) (M : xMem) : Option (Int32 × xMem) :=
if ((M 164 0) + (20 : Int32)) ≤ (260 : Int32) then
(Option.bind (g9_types a0 M) fun q2 =>
Option.bind (g9_types a1 q2) fun q4 =>
Option.bind (g9_types a2 q4) fun q6 =>
Option.bind (g9_types a3 q6) fun q8 =>
Option.bind (g9_types a4 q8) fun q10 =>
some (q10 164 0, q10))
else
(some ((-1 : Int32), M))
set_option maxHeartbeats 4000000 in
set_option maxRecDepth 20000 in
theorem v9_feed {G : xG} (hC : xC G cX9_feed 6 RX9 1) {R : Int32 × xMem} (hR : xRI G cX9_feed 6 R) {a0 a1 a2 a3 a4 : Int32} {M : xMem} (h : g9_feed a0 a1 a2 a3 a4 M = some R) : V G 6 0 [(0, .inr 154), (1, .inl a0), (2, .inl a1), (3, .inl a2), (4, .inl a3), (5, .inl a4)] [] M := by
  unfold g9_feed at h
  refine V.aload_n (r := 1) hC 0 dX9_feed_0 rfl rfl ?_
  refine V.getI (b := 164) (i := 0) (j := 4) (r := 4) hC xcl_9 sh_154 fl_RX9_115 dX9_feed_1 (by decide) rfl rfl ?_
  refine V.bipush (r := 6) hC dX9_feed_4 kb_20 rfl ?_
  refine V.iadd (r := 7) hC dX9_feed_6 rfl ?_
  refine V.sipush (r := 10) hC dX9_feed_7 ks_260 rfl ?_
  refine V.icmp_le (tgt := 15) (r := 13) hC dX9_feed_10 (by decide) rfl (fun c1 => ?_) (fun c1 => ?_)
  · rw [if_pos c1] at h
    refine V.aload_n (r := 16) hC 0 dX9_feed_15 rfl rfl ?_
    refine V.iload_n (r := 17) hC 1 dX9_feed_16 rfl rfl ?_
    obtain ⟨q2, hq3, h⟩ := Option.bind_eq_some_iff.mp h
    try dsimp only at h
    refine V.invVv (as := [.inl a0]) (st := []) (r := 20) hC (met9_types hq3) yv_X9_types ml_RX9_119 sh_154 rfl rfl dX9_feed_17 (by decide) rfl rfl rfl rfl ?_
    refine V.aload_n (r := 21) hC 0 dX9_feed_20 rfl rfl ?_
    refine V.iload_n (r := 22) hC 2 dX9_feed_21 rfl rfl ?_
    obtain ⟨q4, hq5, h⟩ := Option.bind_eq_some_iff.mp h
    try dsimp only at h
    refine V.invVv (as := [.inl a1]) (st := []) (r := 25) hC (met9_types hq5) yv_X9_types ml_RX9_119 sh_154 rfl rfl dX9_feed_22 (by decide) rfl rfl rfl rfl ?_
    refine V.aload_n (r := 26) hC 0 dX9_feed_25 rfl rfl ?_
    refine V.iload_n (r := 27) hC 3 dX9_feed_26 rfl rfl ?_
    obtain ⟨q6, hq7, h⟩ := Option.bind_eq_some_iff.mp h
    try dsimp only at h
    refine V.invVv (as := [.inl a2]) (st := []) (r := 30) hC (met9_types hq7) yv_X9_types ml_RX9_119 sh_154 rfl rfl dX9_feed_27 (by decide) rfl rfl rfl rfl ?_
    refine V.aload_n (r := 31) hC 0 dX9_feed_30 rfl rfl ?_
    refine V.iload (r := 33) hC 4 dX9_feed_31 rfl rfl ?_
    obtain ⟨q8, hq9, h⟩ := Option.bind_eq_some_iff.mp h
    try dsimp only at h
    refine V.invVv (as := [.inl a3]) (st := []) (r := 36) hC (met9_types hq9) yv_X9_types ml_RX9_119 sh_154 rfl rfl dX9_feed_33 (by decide) rfl rfl rfl rfl ?_
    refine V.aload_n (r := 37) hC 0 dX9_feed_36 rfl rfl ?_
    refine V.iload (r := 39) hC 5 dX9_feed_37 rfl rfl ?_
    obtain ⟨q10, hq11, h⟩ := Option.bind_eq_some_iff.mp h
    try dsimp only at h
    refine V.invVv (as := [.inl a4]) (st := []) (r := 42) hC (met9_types hq11) yv_X9_types ml_RX9_119 sh_154 rfl rfl dX9_feed_39 (by decide) rfl rfl rfl rfl ?_
    refine V.aload_n (r := 43) hC 0 dX9_feed_42 rfl rfl ?_
    refine V.getI (b := 164) (i := 0) (j := 4) (r := 46) hC xcl_9 sh_154 fl_RX9_115 dX9_feed_43 (by decide) rfl rfl ?_
    cases h
    exact hR _ _ dX9_feed_46
  · rw [if_neg c1] at h
    refine V.iconst (r := 14) hC dX9_feed_13 ki_m1 rfl ?_
    cases h
    exact hR _ _ dX9_feed_14
theorem met9_feed {R : Int32 × xMem} {a0 a1 a2 a3 a4 : Int32} {M : xMem} (h : g9_feed a0 a1 a2 a3 a4 M = some R) : xMet yX9_feed cX9_feed 6 (some .int) 1 [.inr 154, .inl a0, .inl a1, .inl a2, .inl a3, .inl a4] M (some R.1) R.2 := xMet.ofI (by decide +kernel) (Nat.le_of_ble_eq_true rfl) fun _ hC hR => v9_feed  hC hR h
def g9_here (M : xMem) : Option (Int32 × xMem) :=
if (M 166 0) ≤ (M 165 0) then
(some ((-1 : Int32), M))
else
(if (M 165 0) < 0 ∨ 260 ≤ (M 165 0).toNatClampNeg then none else
some ((M 163 (M 165 0).toNatClampNeg) &&& (255 : Int32), M))
set_option maxHeartbeats 4000000 in
set_option maxRecDepth 20000 in
theorem v9_here {G : xG} (hC : xC G cX9_here 1 RX9 0) {R : Int32 × xMem} (hR : xRI G cX9_here 1 R) {M : xMem} (h : g9_here M = some R) : V G 1 0 [(0, .inr 154)] [] M := by
  unfold g9_here at h
  refine V.aload_n (r := 1) hC 0 dX9_here_0 rfl rfl ?_
  refine V.getI (b := 165) (i := 0) (j := 5) (r := 4) hC xcl_9 sh_154 fl_RX9_123 dX9_here_1 (by decide) rfl rfl ?_
  refine V.aload_n (r := 5) hC 0 dX9_here_4 rfl rfl ?_
  refine V.getI (b := 166) (i := 0) (j := 6) (r := 8) hC xcl_9 sh_154 fl_RX9_126 dX9_here_5 (by decide) rfl rfl ?_
  refine V.icmp_ge (tgt := 27) (r := 11) hC dX9_here_8 (by decide) rfl (fun c1 => ?_) (fun c1 => ?_)
  · rw [if_pos c1] at h
    refine V.iconst (r := 28) hC dX9_here_27 ki_m1 rfl ?_
    cases h
    exact hR _ _ dX9_here_28
  · rw [if_neg c1] at h
    refine V.aload_n (r := 12) hC 0 dX9_here_11 rfl rfl ?_
    refine V.getR (k' := 158) (j := 3) (r := 15) hC xcl_9 sh_154 fl_RX9_19 dX9_here_12 (by decide) rfl rfl ?_
    refine V.aload_n (r := 16) hC 0 dX9_here_15 rfl rfl ?_
    refine V.getI (b := 165) (i := 0) (j := 5) (r := 19) hC xcl_9 sh_154 fl_RX9_123 dX9_here_16 (by decide) rfl rfl ?_
    by_cases c2 : (M 165 0) < 0 ∨ 260 ≤ (M 165 0).toNatClampNeg
    · rw [if_pos c2] at h; cases h
    rw [if_neg c2] at h
    refine V.bald (t := (M 165 0).toNatClampNeg) (r := 20) hC sh_158 dX9_here_19 c2 (Nat.zero_add _) rfl ?_
    refine V.sipush (r := 23) hC dX9_here_20 ks_255 rfl ?_
    refine V.iand (r := 24) hC dX9_here_23 rfl ?_
    refine V.goto (tgt := 28) hC dX9_here_24 (by decide) ?_
    cases h
    exact hR _ _ dX9_here_28
theorem met9_here {R : Int32 × xMem} {M : xMem} (h : g9_here M = some R) : xMet yX9_here cX9_here 1 (some .int) 0 [.inr 154] M (some R.1) R.2 := xMet.ofI (by decide +kernel) (Nat.le_of_ble_eq_true rfl) fun _ hC hR => v9_here  hC hR h
def g9_isDigit (M : xMem) : Option (Int32 × xMem) :=
Option.bind (g9_here M) fun q1 =>
if (q1.1) < (48 : Int32) then
(some ((0 : Int32), q1.2))
else
(Option.bind (g9_here q1.2) fun q4 =>
if (57 : Int32) < (q4.1) then
(some ((0 : Int32), q4.2))
else
(some ((1 : Int32), q4.2)))
set_option maxHeartbeats 4000000 in
set_option maxRecDepth 20000 in
theorem v9_isDigit {G : xG} (hC : xC G cX9_isDigit 1 RX9 1) {R : Int32 × xMem} (hR : xRZ G cX9_isDigit 1 R) {M : xMem} (h : g9_isDigit M = some R) : V G 1 0 [(0, .inr 154)] [] M := by
  unfold g9_isDigit at h
  refine V.aload_n (r := 1) hC 0 dX9_isDigit_0 rfl rfl ?_
  obtain ⟨q1, hq2, h⟩ := Option.bind_eq_some_iff.mp h
  try dsimp only at h
  refine V.invVi (as := []) (st := []) (r := 4) hC (met9_here hq2) yv_X9_here ml_RX9_129 sh_154 rfl rfl dX9_isDigit_1 (by decide) rfl rfl rfl rfl ?_
  refine V.bipush (r := 6) hC dX9_isDigit_4 kb_48 rfl ?_
  refine V.icmp_lt (tgt := 22) (r := 9) hC dX9_isDigit_6 (by decide) rfl (fun c3 => ?_) (fun c3 => ?_)
  · rw [if_pos c3] at h
    refine V.iconst (r := 23) hC dX9_isDigit_22 ki_0 rfl ?_
    cases h
    exact hR _ _ (Or.inl rfl) dX9_isDigit_23
  · rw [if_neg c3] at h
    refine V.aload_n (r := 10) hC 0 dX9_isDigit_9 rfl rfl ?_
    obtain ⟨q4, hq5, h⟩ := Option.bind_eq_some_iff.mp h
    try dsimp only at h
    refine V.invVi (as := []) (st := []) (r := 13) hC (met9_here hq5) yv_X9_here ml_RX9_129 sh_154 rfl rfl dX9_isDigit_10 (by decide) rfl rfl rfl rfl ?_
    refine V.bipush (r := 15) hC dX9_isDigit_13 kb_57 rfl ?_
    refine V.icmp_gt (tgt := 22) (r := 18) hC dX9_isDigit_15 (by decide) rfl (fun c6 => ?_) (fun c6 => ?_)
    · rw [if_pos c6] at h
      refine V.iconst (r := 23) hC dX9_isDigit_22 ki_0 rfl ?_
      cases h
      exact hR _ _ (Or.inl rfl) dX9_isDigit_23
    · rw [if_neg c6] at h
      refine V.iconst (r := 19) hC dX9_isDigit_18 ki_1 rfl ?_
      refine V.goto (tgt := 23) hC dX9_isDigit_19 (by decide) ?_
      cases h
      exact hR _ _ (Or.inr rfl) dX9_isDigit_23
theorem met9_isDigit {R : Int32 × xMem} {M : xMem} (h : g9_isDigit M = some R) : xMet yX9_isDigit cX9_isDigit 1 (some .boolean) 1 [.inr 154] M (some R.1) R.2 := xMet.ofZ (by decide +kernel) (Nat.le_of_ble_eq_true rfl) fun _ hC hR => v9_isDigit  hC hR h
def g9_wrongAt (a0 a1 : Int32) (M : xMem) : Option (Int32 × xMem) :=
mset (upM M 167 0 (((-1000 : Int32) * a0) - a1)) fun M1 =>
some ((0 : Int32), M1)
set_option maxHeartbeats 4000000 in
set_option maxRecDepth 20000 in
theorem v9_wrongAt {G : xG} (hC : xC G cX9_wrongAt 3 RX9 0) {R : Int32 × xMem} (hR : xRZ G cX9_wrongAt 3 R) {a0 a1 : Int32} {M : xMem} (h : g9_wrongAt a0 a1 M = some R) : V G 3 0 [(0, .inr 154), (1, .inl a0), (2, .inl a1)] [] M := by
  unfold g9_wrongAt at h
  refine V.aload_n (r := 1) hC 0 dX9_wrongAt_0 rfl rfl ?_
  refine V.sipush (r := 4) hC dX9_wrongAt_1 ks_m1000 rfl ?_
  refine V.iload_n (r := 5) hC 1 dX9_wrongAt_4 rfl rfl ?_
  refine V.imul (r := 6) hC dX9_wrongAt_5 rfl ?_
  refine V.iload_n (r := 7) hC 2 dX9_wrongAt_6 rfl rfl ?_
  refine V.isub (r := 8) hC dX9_wrongAt_7 rfl ?_
  rw [mset_eq] at h
  refine V.putI (b := 167) (i := 0) (j := 7) (ty := .int) (r := 11) hC xcl_9 xcp_9 sh_154 fl_RX9_133 dX9_wrongAt_8 (by decide) rfl rfl (by decide +kernel) rfl rfl rfl ?_
  generalize upM M 167 0 (((-1000 : Int32) * a0) - a1) = M1 at h ⊢
  refine V.iconst (r := 12) hC dX9_wrongAt_11 ki_0 rfl ?_
  cases h
  exact hR _ _ (Or.inl rfl) dX9_wrongAt_12
theorem met9_wrongAt {R : Int32 × xMem} {a0 a1 : Int32} {M : xMem} (h : g9_wrongAt a0 a1 M = some R) : xMet yX9_wrongAt cX9_wrongAt 3 (some .boolean) 0 [.inr 154, .inl a0, .inl a1] M (some R.1) R.2 := xMet.ofZ (by decide +kernel) (Nat.le_of_ble_eq_true rfl) fun _ hC hR => v9_wrongAt  hC hR h
def g9_takes (a0 : Int32) (M : xMem) : Option (Int32 × xMem) :=
Option.bind (g9_here M) fun q1 =>
if (q1.1) = a0 then
(mset (upM q1.2 165 0 ((q1.2 165 0) + (1 : Int32))) fun M4 =>
some ((1 : Int32), M4))
else
(Option.bind (g9_wrongAt (1 : Int32) (q1.2 165 0) q1.2) fun q5 =>
if (q5.1) = 0 ∨ (q5.1) = 1 then
some (q5.1, q5.2)
else none)
set_option maxHeartbeats 4000000 in
set_option maxRecDepth 20000 in
theorem v9_takes {G : xG} (hC : xC G cX9_takes 2 RX9 1) {R : Int32 × xMem} (hR : xRZ G cX9_takes 2 R) {a0 : Int32} {M : xMem} (h : g9_takes a0 M = some R) : V G 2 0 [(0, .inr 154), (1, .inl a0)] [] M := by
  unfold g9_takes at h
  refine V.aload_n (r := 1) hC 0 dX9_takes_0 rfl rfl ?_
  obtain ⟨q1, hq2, h⟩ := Option.bind_eq_some_iff.mp h
  try dsimp only at h
  refine V.invVi (as := []) (st := []) (r := 4) hC (met9_here hq2) yv_X9_here ml_RX9_129 sh_154 rfl rfl dX9_takes_1 (by decide) rfl rfl rfl rfl ?_
  refine V.iload_n (r := 5) hC 1 dX9_takes_4 rfl rfl ?_
  refine V.icmp_eq (tgt := 18) (r := 8) hC dX9_takes_5 (by decide) rfl (fun c3 => ?_) (fun c3 => ?_)
  · rw [if_pos c3] at h
    refine V.aload_n (r := 19) hC 0 dX9_takes_18 rfl rfl ?_
    refine V.aload_n (r := 20) hC 0 dX9_takes_19 rfl rfl ?_
    refine V.getI (b := 165) (i := 0) (j := 5) (r := 23) hC xcl_9 sh_154 fl_RX9_123 dX9_takes_20 (by decide) rfl rfl ?_
    refine V.iconst (r := 24) hC dX9_takes_23 ki_1 rfl ?_
    refine V.iadd (r := 25) hC dX9_takes_24 rfl ?_
    rw [mset_eq] at h
    refine V.putI (b := 165) (i := 0) (j := 5) (ty := .int) (r := 28) hC xcl_9 xcp_9 sh_154 fl_RX9_123 dX9_takes_25 (by decide) rfl rfl (by decide +kernel) rfl rfl rfl ?_
    generalize upM q1.2 165 0 ((q1.2 165 0) + (1 : Int32)) = M4 at h ⊢
    refine V.iconst (r := 29) hC dX9_takes_28 ki_1 rfl ?_
    cases h
    exact hR _ _ (Or.inr rfl) dX9_takes_29
  · rw [if_neg c3] at h
    refine V.aload_n (r := 9) hC 0 dX9_takes_8 rfl rfl ?_
    refine V.iconst (r := 10) hC dX9_takes_9 ki_1 rfl ?_
    refine V.aload_n (r := 11) hC 0 dX9_takes_10 rfl rfl ?_
    refine V.getI (b := 165) (i := 0) (j := 5) (r := 14) hC xcl_9 sh_154 fl_RX9_123 dX9_takes_11 (by decide) rfl rfl ?_
    obtain ⟨q5, hq6, h⟩ := Option.bind_eq_some_iff.mp h
    try dsimp only at h
    refine V.invVi (as := [.inl (1 : Int32), .inl (q1.2 165 0)]) (st := []) (r := 17) hC (met9_wrongAt hq6) yv_X9_wrongAt ml_RX9_136 sh_154 rfl rfl dX9_takes_14 (by decide) rfl rfl rfl rfl ?_
    by_cases c7 : ¬ ((q5.1) = 0 ∨ (q5.1) = 1)
    · rw [if_neg c7] at h; cases h
    replace c7 := Classical.not_not.mp c7
    rw [if_pos c7] at h
    cases h
    exact hR _ _ c7 dX9_takes_17
theorem met9_takes {R : Int32 × xMem} {a0 : Int32} {M : xMem} (h : g9_takes a0 M = some R) : xMet yX9_takes cX9_takes 2 (some .boolean) 1 [.inr 154, .inl a0] M (some R.1) R.2 := xMet.ofZ (by decide +kernel) (Nat.le_of_ble_eq_true rfl) fun _ hC hR => v9_takes  hC hR h
def g9_readsNumber_b10 : Nat → Int32 → xMem → Option (Int32 × xMem)
  | 0, _, _ => none
  | n + 1, x1, M => 
    (Option.bind (g9_isDigit M) fun q2 =>
    if (q2.1) = 0 then
    (some ((1 : Int32), q2.2))
    else
    (if (q2.2 165 0) = (x1 + (5 : Int32)) then
    (Option.bind (g9_wrongAt (2 : Int32) (q2.2 165 0) q2.2) fun q10 =>
    if (q10.1) = 0 ∨ (q10.1) = 1 then
    some (q10.1, q10.2)
    else none)
    else
    (Option.bind (g9_here q2.2) fun q6 =>
    mset (upM q6.2 172 0 ((((10 : Int32) * (q2.2 172 0)) + (q6.1)) - (48 : Int32))) fun M8 =>
    mset (upM M8 165 0 ((M8 165 0) + (1 : Int32))) fun M9 =>
    g9_readsNumber_b10 n x1 M9)))
set_option maxHeartbeats 4000000 in
set_option maxRecDepth 20000 in
theorem v9_readsNumber_b10 {G : xG} (hC : xC G cX9_readsNumber 2 RX9 2) {R : Int32 × xMem} (hR : xRZ G cX9_readsNumber 2 R) : ∀ (n : Nat) (x1 : Int32) (M : xMem), g9_readsNumber_b10 n x1 M = some R → V G 2 10 [(0, .inr 154), (1, .inl x1)] [] M := by
  intro n
  induction n with
  | zero => intro x1 M h; rw [g9_readsNumber_b10] at h; cases h
  | succ n ih =>
    intro x1 M h
    rw [g9_readsNumber_b10] at h
    refine V.aload_n (r := 11) hC 0 dX9_readsNumber_10 rfl rfl ?_
    obtain ⟨q2, hq3, h⟩ := Option.bind_eq_some_iff.mp h
    try dsimp only at h
    refine V.invVi (as := []) (st := []) (r := 14) hC (met9_isDigit hq3) yv_X9_isDigit ml_RX9_142 sh_154 rfl rfl dX9_readsNumber_11 (by decide) rfl rfl rfl rfl ?_
    refine V.if_eq (tgt := 69) (r := 17) hC dX9_readsNumber_14 (by decide) rfl (fun c4 => ?_) (fun c4 => ?_)
    · rw [if_pos c4] at h
      refine V.iconst (r := 70) hC dX9_readsNumber_69 ki_1 rfl ?_
      cases h
      exact hR _ _ (Or.inr rfl) dX9_readsNumber_70
    · rw [if_neg c4] at h
      refine V.aload_n (r := 18) hC 0 dX9_readsNumber_17 rfl rfl ?_
      refine V.getI (b := 165) (i := 0) (j := 5) (r := 21) hC xcl_9 sh_154 fl_RX9_123 dX9_readsNumber_18 (by decide) rfl rfl ?_
      refine V.iload_n (r := 22) hC 1 dX9_readsNumber_21 rfl rfl ?_
      refine V.iconst (r := 23) hC dX9_readsNumber_22 ki_5 rfl ?_
      refine V.iadd (r := 24) hC dX9_readsNumber_23 rfl ?_
      refine V.icmp_ne (tgt := 37) (r := 27) hC dX9_readsNumber_24 (by decide) rfl (fun c5 => ?_) (fun c5 => ?_)
      · rw [if_neg c5] at h
        refine V.aload_n (r := 38) hC 0 dX9_readsNumber_37 rfl rfl ?_
        refine V.bipush (r := 40) hC dX9_readsNumber_38 kb_10 rfl ?_
        refine V.aload_n (r := 41) hC 0 dX9_readsNumber_40 rfl rfl ?_
        refine V.getI (b := 172) (i := 0) (j := 12) (r := 44) hC xcl_9 sh_154 fl_RX9_139 dX9_readsNumber_41 (by decide) rfl rfl ?_
        refine V.imul (r := 45) hC dX9_readsNumber_44 rfl ?_
        refine V.aload_n (r := 46) hC 0 dX9_readsNumber_45 rfl rfl ?_
        obtain ⟨q6, hq7, h⟩ := Option.bind_eq_some_iff.mp h
        try dsimp only at h
        refine V.invVi (as := []) (st := [.inl ((10 : Int32) * (q2.2 172 0)), .inr 154]) (r := 49) hC (met9_here hq7) yv_X9_here ml_RX9_129 sh_154 rfl rfl dX9_readsNumber_46 (by decide) rfl rfl rfl rfl ?_
        refine V.iadd (r := 50) hC dX9_readsNumber_49 rfl ?_
        refine V.bipush (r := 52) hC dX9_readsNumber_50 kb_48 rfl ?_
        refine V.isub (r := 53) hC dX9_readsNumber_52 rfl ?_
        rw [mset_eq] at h
        refine V.putI (b := 172) (i := 0) (j := 12) (ty := .int) (r := 56) hC xcl_9 xcp_9 sh_154 fl_RX9_139 dX9_readsNumber_53 (by decide) rfl rfl (by decide +kernel) rfl rfl rfl ?_
        generalize upM q6.2 172 0 ((((10 : Int32) * (q2.2 172 0)) + (q6.1)) - (48 : Int32)) = M8 at h ⊢
        refine V.aload_n (r := 57) hC 0 dX9_readsNumber_56 rfl rfl ?_
        refine V.aload_n (r := 58) hC 0 dX9_readsNumber_57 rfl rfl ?_
        refine V.getI (b := 165) (i := 0) (j := 5) (r := 61) hC xcl_9 sh_154 fl_RX9_123 dX9_readsNumber_58 (by decide) rfl rfl ?_
        refine V.iconst (r := 62) hC dX9_readsNumber_61 ki_1 rfl ?_
        refine V.iadd (r := 63) hC dX9_readsNumber_62 rfl ?_
        rw [mset_eq] at h
        refine V.putI (b := 165) (i := 0) (j := 5) (ty := .int) (r := 66) hC xcl_9 xcp_9 sh_154 fl_RX9_123 dX9_readsNumber_63 (by decide) rfl rfl (by decide +kernel) rfl rfl rfl ?_
        generalize upM M8 165 0 ((M8 165 0) + (1 : Int32)) = M9 at h ⊢
        refine V.goto (tgt := 10) hC dX9_readsNumber_66 (by decide) ?_
        exact ih _ _ h
      · rw [if_pos c5] at h
        refine V.aload_n (r := 28) hC 0 dX9_readsNumber_27 rfl rfl ?_
        refine V.iconst (r := 29) hC dX9_readsNumber_28 ki_2 rfl ?_
        refine V.aload_n (r := 30) hC 0 dX9_readsNumber_29 rfl rfl ?_
        refine V.getI (b := 165) (i := 0) (j := 5) (r := 33) hC xcl_9 sh_154 fl_RX9_123 dX9_readsNumber_30 (by decide) rfl rfl ?_
        obtain ⟨q10, hq11, h⟩ := Option.bind_eq_some_iff.mp h
        try dsimp only at h
        refine V.invVi (as := [.inl (2 : Int32), .inl (q2.2 165 0)]) (st := []) (r := 36) hC (met9_wrongAt hq11) yv_X9_wrongAt ml_RX9_136 sh_154 rfl rfl dX9_readsNumber_33 (by decide) rfl rfl rfl rfl ?_
        by_cases c12 : ¬ ((q10.1) = 0 ∨ (q10.1) = 1)
        · rw [if_neg c12] at h; cases h
        replace c12 := Classical.not_not.mp c12
        rw [if_pos c12] at h
        cases h
        exact hR _ _ c12 dX9_readsNumber_36
def g9_readsNumber (M : xMem) : Option (Int32 × xMem) :=
mset (upM M 172 0 (0 : Int32)) fun M1 =>
g9_readsNumber_b10 5000 (M 165 0) M1
set_option maxHeartbeats 4000000 in
set_option maxRecDepth 20000 in
theorem v9_readsNumber {G : xG} (hC : xC G cX9_readsNumber 2 RX9 2) {R : Int32 × xMem} (hR : xRZ G cX9_readsNumber 2 R) {M : xMem} (h : g9_readsNumber M = some R) : V G 2 0 [(0, .inr 154)] [] M := by
  unfold g9_readsNumber at h
  refine V.aload_n (r := 1) hC 0 dX9_readsNumber_0 rfl rfl ?_
  refine V.getI (b := 165) (i := 0) (j := 5) (r := 4) hC xcl_9 sh_154 fl_RX9_123 dX9_readsNumber_1 (by decide) rfl rfl ?_
  refine V.ist_n (lv' := [(0, .inr 154), (1, .inl (M 165 0))]) (r := 5) hC dX9_readsNumber_4 rfl rfl rfl ?_
  refine V.aload_n (r := 6) hC 0 dX9_readsNumber_5 rfl rfl ?_
  refine V.iconst (r := 7) hC dX9_readsNumber_6 ki_0 rfl ?_
  rw [mset_eq] at h
  refine V.putI (b := 172) (i := 0) (j := 12) (ty := .int) (r := 10) hC xcl_9 xcp_9 sh_154 fl_RX9_139 dX9_readsNumber_7 (by decide) rfl rfl (by decide +kernel) rfl rfl rfl ?_
  generalize upM M 172 0 (0 : Int32) = M1 at h ⊢
  exact v9_readsNumber_b10  hC hR  5000 _ _ h
theorem met9_readsNumber {R : Int32 × xMem} {M : xMem} (h : g9_readsNumber M = some R) : xMet yX9_readsNumber cX9_readsNumber 2 (some .boolean) 2 [.inr 154] M (some R.1) R.2 := xMet.ofZ (by decide +kernel) (Nat.le_of_ble_eq_true rfl) fun _ hC hR => v9_readsNumber  hC hR h
def g9_notes (a0 a1 : Int32) (M : xMem) : Option (xMem) :=
if (M 169 0) < 0 ∨ 260 ≤ (M 169 0).toNatClampNeg then none else
mset (upM M 174 (M 169 0).toNatClampNeg (((1048576 : Int32) * a0) + a1)) fun M2 =>
mset (upM M2 169 0 ((M2 169 0) + (1 : Int32))) fun M3 =>
some M3
set_option maxHeartbeats 4000000 in
set_option maxRecDepth 20000 in
theorem v9_notes {G : xG} (hC : xC G cX9_notes 3 RX9 0) {R : xMem} (hR : xRV G cX9_notes 3 R) {a0 a1 : Int32} {M : xMem} (h : g9_notes a0 a1 M = some R) : V G 3 0 [(0, .inr 154), (1, .inl a0), (2, .inl a1)] [] M := by
  unfold g9_notes at h
  refine V.aload_n (r := 1) hC 0 dX9_notes_0 rfl rfl ?_
  refine V.getR (k' := 159) (j := 14) (r := 4) hC xcl_9 sh_154 fl_RX9_23 dX9_notes_1 (by decide) rfl rfl ?_
  refine V.aload_n (r := 5) hC 0 dX9_notes_4 rfl rfl ?_
  refine V.getI (b := 169) (i := 0) (j := 9) (r := 8) hC xcl_9 sh_154 fl_RX9_146 dX9_notes_5 (by decide) rfl rfl ?_
  refine V.ldc (r := 10) hC dX9_notes_8 co_RX9_149 rfl ?_
  refine V.iload_n (r := 11) hC 1 dX9_notes_10 rfl rfl ?_
  refine V.imul (r := 12) hC dX9_notes_11 rfl ?_
  refine V.iload_n (r := 13) hC 2 dX9_notes_12 rfl rfl ?_
  refine V.iadd (r := 14) hC dX9_notes_13 rfl ?_
  by_cases c1 : (M 169 0) < 0 ∨ 260 ≤ (M 169 0).toNatClampNeg
  · rw [if_pos c1] at h; cases h
  rw [if_neg c1] at h
  rw [mset_eq] at h
  refine V.iast (t := (M 169 0).toNatClampNeg) (r := 15) hC sh_159 dX9_notes_14 c1 (Nat.zero_add _) rfl ?_
  generalize upM M 174 (M 169 0).toNatClampNeg (((1048576 : Int32) * a0) + a1) = M2 at h ⊢
  refine V.aload_n (r := 16) hC 0 dX9_notes_15 rfl rfl ?_
  refine V.aload_n (r := 17) hC 0 dX9_notes_16 rfl rfl ?_
  refine V.getI (b := 169) (i := 0) (j := 9) (r := 20) hC xcl_9 sh_154 fl_RX9_146 dX9_notes_17 (by decide) rfl rfl ?_
  refine V.iconst (r := 21) hC dX9_notes_20 ki_1 rfl ?_
  refine V.iadd (r := 22) hC dX9_notes_21 rfl ?_
  rw [mset_eq] at h
  refine V.putI (b := 169) (i := 0) (j := 9) (ty := .int) (r := 25) hC xcl_9 xcp_9 sh_154 fl_RX9_146 dX9_notes_22 (by decide) rfl rfl (by decide +kernel) rfl rfl rfl ?_
  generalize upM M2 169 0 ((M2 169 0) + (1 : Int32)) = M3 at h ⊢
  cases h
  exact hR _ _ dX9_notes_25
theorem met9_notes {R : xMem} {a0 a1 : Int32} {M : xMem} (h : g9_notes a0 a1 M = some R) : xMet yX9_notes cX9_notes 3 none 0 [.inr 154, .inl a0, .inl a1] M none R := xMet.ofV (by decide +kernel) (Nat.le_of_ble_eq_true rfl) fun _ hC hR => v9_notes  hC hR h
def g9_opens (a0 : Int32) (M : xMem) : Option (Int32 × xMem) :=
if (M 168 0) = (6 : Int32) then
(Option.bind (g9_wrongAt (5 : Int32) (M 165 0) M) fun q7 =>
if (q7.1) = 0 ∨ (q7.1) = 1 then
some (q7.1, q7.2)
else none)
else
(mset (upM M 168 0 ((M 168 0) + (1 : Int32))) fun M2 =>
if (M2 170 0) < 0 ∨ 260 ≤ (M2 170 0).toNatClampNeg then none else
mset (upM M2 175 (M2 170 0).toNatClampNeg ((1048576 : Int32) * a0)) fun M4 =>
mset (upM M4 170 0 ((M4 170 0) + (1 : Int32))) fun M5 =>
mset (upM M5 165 0 ((M5 165 0) + (1 : Int32))) fun M6 =>
some ((1 : Int32), M6))
set_option maxHeartbeats 4000000 in
set_option maxRecDepth 20000 in
theorem v9_opens {G : xG} (hC : xC G cX9_opens 2 RX9 1) {R : Int32 × xMem} (hR : xRZ G cX9_opens 2 R) {a0 : Int32} {M : xMem} (h : g9_opens a0 M = some R) : V G 2 0 [(0, .inr 154), (1, .inl a0)] [] M := by
  unfold g9_opens at h
  refine V.aload_n (r := 1) hC 0 dX9_opens_0 rfl rfl ?_
  refine V.getI (b := 168) (i := 0) (j := 8) (r := 4) hC xcl_9 sh_154 fl_RX9_150 dX9_opens_1 (by decide) rfl rfl ?_
  refine V.bipush (r := 6) hC dX9_opens_4 kb_6 rfl ?_
  refine V.icmp_ne (tgt := 19) (r := 9) hC dX9_opens_6 (by decide) rfl (fun c1 => ?_) (fun c1 => ?_)
  · rw [if_neg c1] at h
    refine V.aload_n (r := 20) hC 0 dX9_opens_19 rfl rfl ?_
    refine V.aload_n (r := 21) hC 0 dX9_opens_20 rfl rfl ?_
    refine V.getI (b := 168) (i := 0) (j := 8) (r := 24) hC xcl_9 sh_154 fl_RX9_150 dX9_opens_21 (by decide) rfl rfl ?_
    refine V.iconst (r := 25) hC dX9_opens_24 ki_1 rfl ?_
    refine V.iadd (r := 26) hC dX9_opens_25 rfl ?_
    rw [mset_eq] at h
    refine V.putI (b := 168) (i := 0) (j := 8) (ty := .int) (r := 29) hC xcl_9 xcp_9 sh_154 fl_RX9_150 dX9_opens_26 (by decide) rfl rfl (by decide +kernel) rfl rfl rfl ?_
    generalize upM M 168 0 ((M 168 0) + (1 : Int32)) = M2 at h ⊢
    refine V.aload_n (r := 30) hC 0 dX9_opens_29 rfl rfl ?_
    refine V.getR (k' := 160) (j := 15) (r := 33) hC xcl_9 sh_154 fl_RX9_26 dX9_opens_30 (by decide) rfl rfl ?_
    refine V.aload_n (r := 34) hC 0 dX9_opens_33 rfl rfl ?_
    refine V.getI (b := 170) (i := 0) (j := 10) (r := 37) hC xcl_9 sh_154 fl_RX9_153 dX9_opens_34 (by decide) rfl rfl ?_
    refine V.ldc (r := 39) hC dX9_opens_37 co_RX9_149 rfl ?_
    refine V.iload_n (r := 40) hC 1 dX9_opens_39 rfl rfl ?_
    refine V.imul (r := 41) hC dX9_opens_40 rfl ?_
    by_cases c3 : (M2 170 0) < 0 ∨ 260 ≤ (M2 170 0).toNatClampNeg
    · rw [if_pos c3] at h; cases h
    rw [if_neg c3] at h
    rw [mset_eq] at h
    refine V.iast (t := (M2 170 0).toNatClampNeg) (r := 42) hC sh_160 dX9_opens_41 c3 (Nat.zero_add _) rfl ?_
    generalize upM M2 175 (M2 170 0).toNatClampNeg ((1048576 : Int32) * a0) = M4 at h ⊢
    refine V.aload_n (r := 43) hC 0 dX9_opens_42 rfl rfl ?_
    refine V.aload_n (r := 44) hC 0 dX9_opens_43 rfl rfl ?_
    refine V.getI (b := 170) (i := 0) (j := 10) (r := 47) hC xcl_9 sh_154 fl_RX9_153 dX9_opens_44 (by decide) rfl rfl ?_
    refine V.iconst (r := 48) hC dX9_opens_47 ki_1 rfl ?_
    refine V.iadd (r := 49) hC dX9_opens_48 rfl ?_
    rw [mset_eq] at h
    refine V.putI (b := 170) (i := 0) (j := 10) (ty := .int) (r := 52) hC xcl_9 xcp_9 sh_154 fl_RX9_153 dX9_opens_49 (by decide) rfl rfl (by decide +kernel) rfl rfl rfl ?_
    generalize upM M4 170 0 ((M4 170 0) + (1 : Int32)) = M5 at h ⊢
    refine V.aload_n (r := 53) hC 0 dX9_opens_52 rfl rfl ?_
    refine V.aload_n (r := 54) hC 0 dX9_opens_53 rfl rfl ?_
    refine V.getI (b := 165) (i := 0) (j := 5) (r := 57) hC xcl_9 sh_154 fl_RX9_123 dX9_opens_54 (by decide) rfl rfl ?_
    refine V.iconst (r := 58) hC dX9_opens_57 ki_1 rfl ?_
    refine V.iadd (r := 59) hC dX9_opens_58 rfl ?_
    rw [mset_eq] at h
    refine V.putI (b := 165) (i := 0) (j := 5) (ty := .int) (r := 62) hC xcl_9 xcp_9 sh_154 fl_RX9_123 dX9_opens_59 (by decide) rfl rfl (by decide +kernel) rfl rfl rfl ?_
    generalize upM M5 165 0 ((M5 165 0) + (1 : Int32)) = M6 at h ⊢
    refine V.iconst (r := 63) hC dX9_opens_62 ki_1 rfl ?_
    cases h
    exact hR _ _ (Or.inr rfl) dX9_opens_63
  · rw [if_pos c1] at h
    refine V.aload_n (r := 10) hC 0 dX9_opens_9 rfl rfl ?_
    refine V.iconst (r := 11) hC dX9_opens_10 ki_5 rfl ?_
    refine V.aload_n (r := 12) hC 0 dX9_opens_11 rfl rfl ?_
    refine V.getI (b := 165) (i := 0) (j := 5) (r := 15) hC xcl_9 sh_154 fl_RX9_123 dX9_opens_12 (by decide) rfl rfl ?_
    obtain ⟨q7, hq8, h⟩ := Option.bind_eq_some_iff.mp h
    try dsimp only at h
    refine V.invVi (as := [.inl (5 : Int32), .inl (M 165 0)]) (st := []) (r := 18) hC (met9_wrongAt hq8) yv_X9_wrongAt ml_RX9_136 sh_154 rfl rfl dX9_opens_15 (by decide) rfl rfl rfl rfl ?_
    by_cases c9 : ¬ ((q7.1) = 0 ∨ (q7.1) = 1)
    · rw [if_neg c9] at h; cases h
    replace c9 := Classical.not_not.mp c9
    rw [if_pos c9] at h
    cases h
    exact hR _ _ c9 dX9_opens_18
theorem met9_opens {R : Int32 × xMem} {a0 : Int32} {M : xMem} (h : g9_opens a0 M = some R) : xMet yX9_opens cX9_opens 2 (some .boolean) 1 [.inr 154, .inl a0] M (some R.1) R.2 := xMet.ofZ (by decide +kernel) (Nat.le_of_ble_eq_true rfl) fun _ hC hR => v9_opens  hC hR h
def g9_waitTop (M : xMem) : Option (Int32 × xMem) :=
if (M 170 0) = 0 then
(some ((-1 : Int32), M))
else
(if ((M 170 0) - (1 : Int32)) < 0 ∨ 260 ≤ ((M 170 0) - (1 : Int32)).toNatClampNeg then none else
some ((M 175 ((M 170 0) - (1 : Int32)).toNatClampNeg) / (1048576 : Int32), M))
set_option maxHeartbeats 4000000 in
set_option maxRecDepth 20000 in
theorem v9_waitTop {G : xG} (hC : xC G cX9_waitTop 1 RX9 0) {R : Int32 × xMem} (hR : xRI G cX9_waitTop 1 R) {M : xMem} (h : g9_waitTop M = some R) : V G 1 0 [(0, .inr 154)] [] M := by
  unfold g9_waitTop at h
  refine V.aload_n (r := 1) hC 0 dX9_waitTop_0 rfl rfl ?_
  refine V.getI (b := 170) (i := 0) (j := 10) (r := 4) hC xcl_9 sh_154 fl_RX9_153 dX9_waitTop_1 (by decide) rfl rfl ?_
  refine V.if_ne (tgt := 11) (r := 7) hC dX9_waitTop_4 (by decide) rfl (fun c1 => ?_) (fun c1 => ?_)
  · rw [if_neg c1] at h
    refine V.aload_n (r := 12) hC 0 dX9_waitTop_11 rfl rfl ?_
    refine V.getR (k' := 160) (j := 15) (r := 15) hC xcl_9 sh_154 fl_RX9_26 dX9_waitTop_12 (by decide) rfl rfl ?_
    refine V.aload_n (r := 16) hC 0 dX9_waitTop_15 rfl rfl ?_
    refine V.getI (b := 170) (i := 0) (j := 10) (r := 19) hC xcl_9 sh_154 fl_RX9_153 dX9_waitTop_16 (by decide) rfl rfl ?_
    refine V.iconst (r := 20) hC dX9_waitTop_19 ki_1 rfl ?_
    refine V.isub (r := 21) hC dX9_waitTop_20 rfl ?_
    by_cases c2 : ((M 170 0) - (1 : Int32)) < 0 ∨ 260 ≤ ((M 170 0) - (1 : Int32)).toNatClampNeg
    · rw [if_pos c2] at h; cases h
    rw [if_neg c2] at h
    refine V.iald (t := ((M 170 0) - (1 : Int32)).toNatClampNeg) (r := 22) hC sh_160 dX9_waitTop_21 c2 (Nat.zero_add _) rfl ?_
    refine V.ldc (r := 24) hC dX9_waitTop_22 co_RX9_149 rfl ?_
    refine V.idiv (r := 25) hC dX9_waitTop_24 (by decide) rfl ?_
    cases h
    exact hR _ _ dX9_waitTop_25
  · rw [if_pos c1] at h
    refine V.iconst (r := 8) hC dX9_waitTop_7 ki_m1 rfl ?_
    refine V.goto (tgt := 25) hC dX9_waitTop_8 (by decide) ?_
    cases h
    exact hR _ _ dX9_waitTop_25
theorem met9_waitTop {R : Int32 × xMem} {M : xMem} (h : g9_waitTop M = some R) : xMet yX9_waitTop cX9_waitTop 1 (some .int) 0 [.inr 154] M (some R.1) R.2 := xMet.ofI (by decide +kernel) (Nat.le_of_ble_eq_true rfl) fun _ hC hR => v9_waitTop  hC hR h
def g9_factOf (a0 : Int32) (M : xMem) : Option (Int32 × xMem) :=
if a0 = (99 : Int32) then
(some ((9 : Int32), M))
else
if a0 = (100 : Int32) then
(some ((13 : Int32), M))
else
if a0 = (101 : Int32) then
(some ((5 : Int32), M))
else
if a0 = (102 : Int32) then
(some ((-1 : Int32), M))
else
if a0 = (103 : Int32) then
(some ((8 : Int32), M))
else
if a0 = (104 : Int32) then
(some ((2 : Int32), M))
else
if a0 = (105 : Int32) then
(some ((-1 : Int32), M))
else
if a0 = (106 : Int32) then
(some ((-1 : Int32), M))
else
if a0 = (107 : Int32) then
(some ((12 : Int32), M))
else
if a0 = (108 : Int32) then
(some ((11 : Int32), M))
else
if a0 = (109 : Int32) then
(some ((-1 : Int32), M))
else
if a0 = (110 : Int32) then
(some ((3 : Int32), M))
else
if a0 = (111 : Int32) then
(some ((-1 : Int32), M))
else
if a0 = (112 : Int32) then
(some ((14 : Int32), M))
else
if a0 = (113 : Int32) then
(some ((-1 : Int32), M))
else
if a0 = (114 : Int32) then
(some ((10 : Int32), M))
else
if a0 = (115 : Int32) then
(some ((-1 : Int32), M))
else
if a0 = (116 : Int32) then
(some ((4 : Int32), M))
else
if a0 = (117 : Int32) then
(some ((0 : Int32), M))
else
if a0 = (118 : Int32) then
(some ((1 : Int32), M))
else
if a0 = (119 : Int32) then
(some ((-1 : Int32), M))
else
if a0 = (120 : Int32) then
(some ((6 : Int32), M))
else
if a0 = (121 : Int32) then
(some ((7 : Int32), M))
else
(some ((-1 : Int32), M))
set_option maxHeartbeats 4000000 in
set_option maxRecDepth 20000 in
theorem v9_factOf {G : xG} (hC : xC G cX9_factOf 1 RX9 0) {R : Int32 × xMem} (hR : xRI G cX9_factOf 1 R) {a0 : Int32} {M : xMem} (h : g9_factOf a0 M = some R) : V G 1 0 [(0, .inl a0)] [] M := by
  unfold g9_factOf at h
  refine V.iload_n (r := 1) hC 0 dX9_factOf_0 rfl rfl ?_
  by_cases c1 : a0 = (99 : Int32)
  · rw [if_pos c1] at h
    refine V.tabIn (off := 128) (tgt := 129) hC dX9_factOf_1 c1 (by decide) (by decide) (by decide) (by decide) ?_
    refine V.bipush (r := 131) hC dX9_factOf_129 kb_9 rfl ?_
    cases h
    exact hR _ _ dX9_factOf_131
  rw [if_neg c1] at h
  by_cases c2 : a0 = (100 : Int32)
  · rw [if_pos c2] at h
    refine V.tabIn (off := 140) (tgt := 141) hC dX9_factOf_1 c2 (by decide) (by decide) (by decide) (by decide) ?_
    refine V.bipush (r := 143) hC dX9_factOf_141 kb_13 rfl ?_
    cases h
    exact hR _ _ dX9_factOf_143
  rw [if_neg c2] at h
  by_cases c3 : a0 = (101 : Int32)
  · rw [if_pos c3] at h
    refine V.tabIn (off := 117) (tgt := 118) hC dX9_factOf_1 c3 (by decide) (by decide) (by decide) (by decide) ?_
    refine V.iconst (r := 119) hC dX9_factOf_118 ki_5 rfl ?_
    cases h
    exact hR _ _ dX9_factOf_119
  rw [if_neg c3] at h
  by_cases c4 : a0 = (102 : Int32)
  · rw [if_pos c4] at h
    refine V.tabIn (off := 146) (tgt := 147) hC dX9_factOf_1 c4 (by decide) (by decide) (by decide) (by decide) ?_
    refine V.iconst (r := 148) hC dX9_factOf_147 ki_m1 rfl ?_
    cases h
    exact hR _ _ dX9_factOf_148
  rw [if_neg c4] at h
  by_cases c5 : a0 = (103 : Int32)
  · rw [if_pos c5] at h
    refine V.tabIn (off := 125) (tgt := 126) hC dX9_factOf_1 c5 (by decide) (by decide) (by decide) (by decide) ?_
    refine V.bipush (r := 128) hC dX9_factOf_126 kb_8 rfl ?_
    cases h
    exact hR _ _ dX9_factOf_128
  rw [if_neg c5] at h
  by_cases c6 : a0 = (104 : Int32)
  · rw [if_pos c6] at h
    refine V.tabIn (off := 111) (tgt := 112) hC dX9_factOf_1 c6 (by decide) (by decide) (by decide) (by decide) ?_
    refine V.iconst (r := 113) hC dX9_factOf_112 ki_2 rfl ?_
    cases h
    exact hR _ _ dX9_factOf_113
  rw [if_neg c6] at h
  by_cases c7 : a0 = (105 : Int32)
  · rw [if_pos c7] at h
    refine V.tabIn (off := 146) (tgt := 147) hC dX9_factOf_1 c7 (by decide) (by decide) (by decide) (by decide) ?_
    refine V.iconst (r := 148) hC dX9_factOf_147 ki_m1 rfl ?_
    cases h
    exact hR _ _ dX9_factOf_148
  rw [if_neg c7] at h
  by_cases c8 : a0 = (106 : Int32)
  · rw [if_pos c8] at h
    refine V.tabIn (off := 146) (tgt := 147) hC dX9_factOf_1 c8 (by decide) (by decide) (by decide) (by decide) ?_
    refine V.iconst (r := 148) hC dX9_factOf_147 ki_m1 rfl ?_
    cases h
    exact hR _ _ dX9_factOf_148
  rw [if_neg c8] at h
  by_cases c9 : a0 = (107 : Int32)
  · rw [if_pos c9] at h
    refine V.tabIn (off := 137) (tgt := 138) hC dX9_factOf_1 c9 (by decide) (by decide) (by decide) (by decide) ?_
    refine V.bipush (r := 140) hC dX9_factOf_138 kb_12 rfl ?_
    cases h
    exact hR _ _ dX9_factOf_140
  rw [if_neg c9] at h
  by_cases c10 : a0 = (108 : Int32)
  · rw [if_pos c10] at h
    refine V.tabIn (off := 134) (tgt := 135) hC dX9_factOf_1 c10 (by decide) (by decide) (by decide) (by decide) ?_
    refine V.bipush (r := 137) hC dX9_factOf_135 kb_11 rfl ?_
    cases h
    exact hR _ _ dX9_factOf_137
  rw [if_neg c10] at h
  by_cases c11 : a0 = (109 : Int32)
  · rw [if_pos c11] at h
    refine V.tabIn (off := 146) (tgt := 147) hC dX9_factOf_1 c11 (by decide) (by decide) (by decide) (by decide) ?_
    refine V.iconst (r := 148) hC dX9_factOf_147 ki_m1 rfl ?_
    cases h
    exact hR _ _ dX9_factOf_148
  rw [if_neg c11] at h
  by_cases c12 : a0 = (110 : Int32)
  · rw [if_pos c12] at h
    refine V.tabIn (off := 113) (tgt := 114) hC dX9_factOf_1 c12 (by decide) (by decide) (by decide) (by decide) ?_
    refine V.iconst (r := 115) hC dX9_factOf_114 ki_3 rfl ?_
    cases h
    exact hR _ _ dX9_factOf_115
  rw [if_neg c12] at h
  by_cases c13 : a0 = (111 : Int32)
  · rw [if_pos c13] at h
    refine V.tabIn (off := 146) (tgt := 147) hC dX9_factOf_1 c13 (by decide) (by decide) (by decide) (by decide) ?_
    refine V.iconst (r := 148) hC dX9_factOf_147 ki_m1 rfl ?_
    cases h
    exact hR _ _ dX9_factOf_148
  rw [if_neg c13] at h
  by_cases c14 : a0 = (112 : Int32)
  · rw [if_pos c14] at h
    refine V.tabIn (off := 143) (tgt := 144) hC dX9_factOf_1 c14 (by decide) (by decide) (by decide) (by decide) ?_
    refine V.bipush (r := 146) hC dX9_factOf_144 kb_14 rfl ?_
    cases h
    exact hR _ _ dX9_factOf_146
  rw [if_neg c14] at h
  by_cases c15 : a0 = (113 : Int32)
  · rw [if_pos c15] at h
    refine V.tabIn (off := 146) (tgt := 147) hC dX9_factOf_1 c15 (by decide) (by decide) (by decide) (by decide) ?_
    refine V.iconst (r := 148) hC dX9_factOf_147 ki_m1 rfl ?_
    cases h
    exact hR _ _ dX9_factOf_148
  rw [if_neg c15] at h
  by_cases c16 : a0 = (114 : Int32)
  · rw [if_pos c16] at h
    refine V.tabIn (off := 131) (tgt := 132) hC dX9_factOf_1 c16 (by decide) (by decide) (by decide) (by decide) ?_
    refine V.bipush (r := 134) hC dX9_factOf_132 kb_10 rfl ?_
    cases h
    exact hR _ _ dX9_factOf_134
  rw [if_neg c16] at h
  by_cases c17 : a0 = (115 : Int32)
  · rw [if_pos c17] at h
    refine V.tabIn (off := 146) (tgt := 147) hC dX9_factOf_1 c17 (by decide) (by decide) (by decide) (by decide) ?_
    refine V.iconst (r := 148) hC dX9_factOf_147 ki_m1 rfl ?_
    cases h
    exact hR _ _ dX9_factOf_148
  rw [if_neg c17] at h
  by_cases c18 : a0 = (116 : Int32)
  · rw [if_pos c18] at h
    refine V.tabIn (off := 115) (tgt := 116) hC dX9_factOf_1 c18 (by decide) (by decide) (by decide) (by decide) ?_
    refine V.iconst (r := 117) hC dX9_factOf_116 ki_4 rfl ?_
    cases h
    exact hR _ _ dX9_factOf_117
  rw [if_neg c18] at h
  by_cases c19 : a0 = (117 : Int32)
  · rw [if_pos c19] at h
    refine V.tabIn (off := 107) (tgt := 108) hC dX9_factOf_1 c19 (by decide) (by decide) (by decide) (by decide) ?_
    refine V.iconst (r := 109) hC dX9_factOf_108 ki_0 rfl ?_
    cases h
    exact hR _ _ dX9_factOf_109
  rw [if_neg c19] at h
  by_cases c20 : a0 = (118 : Int32)
  · rw [if_pos c20] at h
    refine V.tabIn (off := 109) (tgt := 110) hC dX9_factOf_1 c20 (by decide) (by decide) (by decide) (by decide) ?_
    refine V.iconst (r := 111) hC dX9_factOf_110 ki_1 rfl ?_
    cases h
    exact hR _ _ dX9_factOf_111
  rw [if_neg c20] at h
  by_cases c21 : a0 = (119 : Int32)
  · rw [if_pos c21] at h
    refine V.tabIn (off := 146) (tgt := 147) hC dX9_factOf_1 c21 (by decide) (by decide) (by decide) (by decide) ?_
    refine V.iconst (r := 148) hC dX9_factOf_147 ki_m1 rfl ?_
    cases h
    exact hR _ _ dX9_factOf_148
  rw [if_neg c21] at h
  by_cases c22 : a0 = (120 : Int32)
  · rw [if_pos c22] at h
    refine V.tabIn (off := 119) (tgt := 120) hC dX9_factOf_1 c22 (by decide) (by decide) (by decide) (by decide) ?_
    refine V.bipush (r := 122) hC dX9_factOf_120 kb_6 rfl ?_
    cases h
    exact hR _ _ dX9_factOf_122
  rw [if_neg c22] at h
  by_cases c23 : a0 = (121 : Int32)
  · rw [if_pos c23] at h
    refine V.tabIn (off := 122) (tgt := 123) hC dX9_factOf_1 c23 (by decide) (by decide) (by decide) (by decide) ?_
    refine V.bipush (r := 125) hC dX9_factOf_123 kb_7 rfl ?_
    cases h
    exact hR _ _ dX9_factOf_125
  rw [if_neg c23] at h
  refine V.tabOut (tgt := 147) hC dX9_factOf_1 (by have e0 := lv_neT c1 (show ((99 : Int32)).toInt = 99 by decide); have e1 := lv_neT c2 (show ((100 : Int32)).toInt = 100 by decide); have e2 := lv_neT c3 (show ((101 : Int32)).toInt = 101 by decide); have e3 := lv_neT c4 (show ((102 : Int32)).toInt = 102 by decide); have e4 := lv_neT c5 (show ((103 : Int32)).toInt = 103 by decide); have e5 := lv_neT c6 (show ((104 : Int32)).toInt = 104 by decide); have e6 := lv_neT c7 (show ((105 : Int32)).toInt = 105 by decide); have e7 := lv_neT c8 (show ((106 : Int32)).toInt = 106 by decide); have e8 := lv_neT c9 (show ((107 : Int32)).toInt = 107 by decide); have e9 := lv_neT c10 (show ((108 : Int32)).toInt = 108 by decide); have e10 := lv_neT c11 (show ((109 : Int32)).toInt = 109 by decide); have e11 := lv_neT c12 (show ((110 : Int32)).toInt = 110 by decide); have e12 := lv_neT c13 (show ((111 : Int32)).toInt = 111 by decide); have e13 := lv_neT c14 (show ((112 : Int32)).toInt = 112 by decide); have e14 := lv_neT c15 (show ((113 : Int32)).toInt = 113 by decide); have e15 := lv_neT c16 (show ((114 : Int32)).toInt = 114 by decide); have e16 := lv_neT c17 (show ((115 : Int32)).toInt = 115 by decide); have e17 := lv_neT c18 (show ((116 : Int32)).toInt = 116 by decide); have e18 := lv_neT c19 (show ((117 : Int32)).toInt = 117 by decide); have e19 := lv_neT c20 (show ((118 : Int32)).toInt = 118 by decide); have e20 := lv_neT c21 (show ((119 : Int32)).toInt = 119 by decide); have e21 := lv_neT c22 (show ((120 : Int32)).toInt = 120 by decide); have e22 := lv_neT c23 (show ((121 : Int32)).toInt = 121 by decide); omega) (by decide) ?_
  refine V.iconst (r := 148) hC dX9_factOf_147 ki_m1 rfl ?_
  cases h
  exact hR _ _ dX9_factOf_148
theorem met9_factOf {R : Int32 × xMem} {a0 : Int32} {M : xMem} (h : g9_factOf a0 M = some R) : xMet yX9_factOf cX9_factOf 1 (some .int) 0 [.inl a0] M (some R.1) R.2 := xMet.ofI (by decide +kernel) (Nat.le_of_ble_eq_true rfl) fun _ hC hR => v9_factOf  hC hR h
def g9_sumSign (a0 : Int32) (M : xMem) : Option (Int32 × xMem) :=
if a0 = (43 : Int32) then
(some ((2 : Int32), M))
else
(if a0 = (45 : Int32) then
(some ((3 : Int32), M))
else
(if a0 = (42 : Int32) then
(some ((4 : Int32), M))
else
(if a0 = (47 : Int32) then
(some ((5 : Int32), M))
else
(if a0 = (37 : Int32) then
(some ((6 : Int32), M))
else
(some ((-1 : Int32), M))))))
set_option maxHeartbeats 4000000 in
set_option maxRecDepth 20000 in
theorem v9_sumSign {G : xG} (hC : xC G cX9_sumSign 1 RX9 0) {R : Int32 × xMem} (hR : xRI G cX9_sumSign 1 R) {a0 : Int32} {M : xMem} (h : g9_sumSign a0 M = some R) : V G 1 0 [(0, .inl a0)] [] M := by
  unfold g9_sumSign at h
  refine V.iload_n (r := 1) hC 0 dX9_sumSign_0 rfl rfl ?_
  refine V.bipush (r := 3) hC dX9_sumSign_1 kb_43 rfl ?_
  refine V.icmp_ne (tgt := 10) (r := 6) hC dX9_sumSign_3 (by decide) rfl (fun c1 => ?_) (fun c1 => ?_)
  · rw [if_neg c1] at h
    refine V.iload_n (r := 11) hC 0 dX9_sumSign_10 rfl rfl ?_
    refine V.bipush (r := 13) hC dX9_sumSign_11 kb_45 rfl ?_
    refine V.icmp_ne (tgt := 20) (r := 16) hC dX9_sumSign_13 (by decide) rfl (fun c2 => ?_) (fun c2 => ?_)
    · rw [if_neg c2] at h
      refine V.iload_n (r := 21) hC 0 dX9_sumSign_20 rfl rfl ?_
      refine V.bipush (r := 23) hC dX9_sumSign_21 kb_42 rfl ?_
      refine V.icmp_ne (tgt := 30) (r := 26) hC dX9_sumSign_23 (by decide) rfl (fun c3 => ?_) (fun c3 => ?_)
      · rw [if_neg c3] at h
        refine V.iload_n (r := 31) hC 0 dX9_sumSign_30 rfl rfl ?_
        refine V.bipush (r := 33) hC dX9_sumSign_31 kb_47 rfl ?_
        refine V.icmp_ne (tgt := 40) (r := 36) hC dX9_sumSign_33 (by decide) rfl (fun c4 => ?_) (fun c4 => ?_)
        · rw [if_neg c4] at h
          refine V.iload_n (r := 41) hC 0 dX9_sumSign_40 rfl rfl ?_
          refine V.bipush (r := 43) hC dX9_sumSign_41 kb_37 rfl ?_
          refine V.icmp_ne (tgt := 51) (r := 46) hC dX9_sumSign_43 (by decide) rfl (fun c5 => ?_) (fun c5 => ?_)
          · rw [if_neg c5] at h
            refine V.iconst (r := 52) hC dX9_sumSign_51 ki_m1 rfl ?_
            cases h
            exact hR _ _ dX9_sumSign_52
          · rw [if_pos c5] at h
            refine V.bipush (r := 48) hC dX9_sumSign_46 kb_6 rfl ?_
            refine V.goto (tgt := 52) hC dX9_sumSign_48 (by decide) ?_
            cases h
            exact hR _ _ dX9_sumSign_52
        · rw [if_pos c4] at h
          refine V.iconst (r := 37) hC dX9_sumSign_36 ki_5 rfl ?_
          refine V.goto (tgt := 52) hC dX9_sumSign_37 (by decide) ?_
          cases h
          exact hR _ _ dX9_sumSign_52
      · rw [if_pos c3] at h
        refine V.iconst (r := 27) hC dX9_sumSign_26 ki_4 rfl ?_
        refine V.goto (tgt := 52) hC dX9_sumSign_27 (by decide) ?_
        cases h
        exact hR _ _ dX9_sumSign_52
    · rw [if_pos c2] at h
      refine V.iconst (r := 17) hC dX9_sumSign_16 ki_3 rfl ?_
      refine V.goto (tgt := 52) hC dX9_sumSign_17 (by decide) ?_
      cases h
      exact hR _ _ dX9_sumSign_52
  · rw [if_pos c1] at h
    refine V.iconst (r := 7) hC dX9_sumSign_6 ki_2 rfl ?_
    refine V.goto (tgt := 52) hC dX9_sumSign_7 (by decide) ?_
    cases h
    exact hR _ _ dX9_sumSign_52
theorem met9_sumSign {R : Int32 × xMem} {a0 : Int32} {M : xMem} (h : g9_sumSign a0 M = some R) : xMet yX9_sumSign cX9_sumSign 1 (some .int) 0 [.inl a0] M (some R.1) R.2 := xMet.ofI (by decide +kernel) (Nat.le_of_ble_eq_true rfl) fun _ hC hR => v9_sumSign  hC hR h
def g9_closesSums_b37 (k0 : Int32 → xMem → Option (xMem)) (x1 : Int32) (M : xMem) : Option (xMem) :=
Option.bind (g9_waitTop M) fun q7 =>
Option.bind (g9_notes (q7.1) (0 : Int32) q7.2) fun q9 =>
mset (upM q9 170 0 ((q9 170 0) - (1 : Int32))) fun M11 =>
k0 x1 M11
set_option maxHeartbeats 4000000 in
set_option maxRecDepth 20000 in
theorem v9_closesSums_b37 {G : xG} (hC : xC G cX9_closesSums 2 RX9 1) {R : xMem} (hR : xRV G cX9_closesSums 2 R) {k0 : Int32 → xMem → Option (xMem)} (hk0 : ∀ (y1 : Int32) (N : xMem), k0 y1 N = some R → V G 2 0 [(0, .inr 154), (1, .inl y1)] [] N) (x1 : Int32) (M : xMem) (h : g9_closesSums_b37 k0 x1 M = some R) : V G 2 37 [(0, .inr 154), (1, .inl x1)] [] M := by
  unfold g9_closesSums_b37 at h
  refine V.aload_n (r := 38) hC 0 dX9_closesSums_37 rfl rfl ?_
  refine V.aload_n (r := 39) hC 0 dX9_closesSums_38 rfl rfl ?_
  obtain ⟨q7, hq8, h⟩ := Option.bind_eq_some_iff.mp h
  try dsimp only at h
  refine V.invVi (as := []) (st := [.inr 154]) (r := 42) hC (met9_waitTop hq8) yv_X9_waitTop ml_RX9_156 sh_154 rfl rfl dX9_closesSums_39 (by decide) rfl rfl rfl rfl ?_
  refine V.iconst (r := 43) hC dX9_closesSums_42 ki_0 rfl ?_
  obtain ⟨q9, hq10, h⟩ := Option.bind_eq_some_iff.mp h
  try dsimp only at h
  refine V.invVv (as := [.inl (q7.1), .inl (0 : Int32)]) (st := []) (r := 46) hC (met9_notes hq10) yv_X9_notes ml_RX9_159 sh_154 rfl rfl dX9_closesSums_43 (by decide) rfl rfl rfl rfl ?_
  refine V.aload_n (r := 47) hC 0 dX9_closesSums_46 rfl rfl ?_
  refine V.aload_n (r := 48) hC 0 dX9_closesSums_47 rfl rfl ?_
  refine V.getI (b := 170) (i := 0) (j := 10) (r := 51) hC xcl_9 sh_154 fl_RX9_153 dX9_closesSums_48 (by decide) rfl rfl ?_
  refine V.iconst (r := 52) hC dX9_closesSums_51 ki_1 rfl ?_
  refine V.isub (r := 53) hC dX9_closesSums_52 rfl ?_
  rw [mset_eq] at h
  refine V.putI (b := 170) (i := 0) (j := 10) (ty := .int) (r := 56) hC xcl_9 xcp_9 sh_154 fl_RX9_153 dX9_closesSums_53 (by decide) rfl rfl (by decide +kernel) rfl rfl rfl ?_
  generalize upM q9 170 0 ((q9 170 0) - (1 : Int32)) = M11 at h ⊢
  refine V.goto (tgt := 0) hC dX9_closesSums_56 (by decide) ?_
  exact hk0 _ _ h
def g9_closesSums_b17 (k0 : Int32 → xMem → Option (xMem)) (x1 : Int32) (M : xMem) : Option (xMem) :=
if x1 = 0 then
(some M)
else
(Option.bind (g9_waitTop M) fun q13 =>
if (q13.1) = (2 : Int32) then
(g9_closesSums_b37 k0 x1 q13.2)
else
(Option.bind (g9_waitTop q13.2) fun q16 =>
if (q16.1) = (3 : Int32) then
(g9_closesSums_b37 k0 x1 q16.2)
else
(some q16.2)))
set_option maxHeartbeats 4000000 in
set_option maxRecDepth 20000 in
theorem v9_closesSums_b17 {G : xG} (hC : xC G cX9_closesSums 2 RX9 1) {R : xMem} (hR : xRV G cX9_closesSums 2 R) {k0 : Int32 → xMem → Option (xMem)} (hk0 : ∀ (y1 : Int32) (N : xMem), k0 y1 N = some R → V G 2 0 [(0, .inr 154), (1, .inl y1)] [] N) (x1 : Int32) (M : xMem) (h : g9_closesSums_b17 k0 x1 M = some R) : V G 2 17 [(0, .inr 154), (1, .inl x1)] [] M := by
  unfold g9_closesSums_b17 at h
  refine V.iload_n (r := 18) hC 1 dX9_closesSums_17 rfl rfl ?_
  refine V.if_eq (tgt := 59) (r := 21) hC dX9_closesSums_18 (by decide) rfl (fun c12 => ?_) (fun c12 => ?_)
  · rw [if_pos c12] at h
    cases h
    exact hR _ _ dX9_closesSums_59
  · rw [if_neg c12] at h
    refine V.aload_n (r := 22) hC 0 dX9_closesSums_21 rfl rfl ?_
    obtain ⟨q13, hq14, h⟩ := Option.bind_eq_some_iff.mp h
    try dsimp only at h
    refine V.invVi (as := []) (st := []) (r := 25) hC (met9_waitTop hq14) yv_X9_waitTop ml_RX9_156 sh_154 rfl rfl dX9_closesSums_22 (by decide) rfl rfl rfl rfl ?_
    refine V.iconst (r := 26) hC dX9_closesSums_25 ki_2 rfl ?_
    refine V.icmp_eq (tgt := 37) (r := 29) hC dX9_closesSums_26 (by decide) rfl (fun c15 => ?_) (fun c15 => ?_)
    · rw [if_pos c15] at h
      exact v9_closesSums_b37  hC hR hk0 _ _ h
    · rw [if_neg c15] at h
      refine V.aload_n (r := 30) hC 0 dX9_closesSums_29 rfl rfl ?_
      obtain ⟨q16, hq17, h⟩ := Option.bind_eq_some_iff.mp h
      try dsimp only at h
      refine V.invVi (as := []) (st := []) (r := 33) hC (met9_waitTop hq17) yv_X9_waitTop ml_RX9_156 sh_154 rfl rfl dX9_closesSums_30 (by decide) rfl rfl rfl rfl ?_
      refine V.iconst (r := 34) hC dX9_closesSums_33 ki_3 rfl ?_
      refine V.icmp_ne (tgt := 59) (r := 37) hC dX9_closesSums_34 (by decide) rfl (fun c18 => ?_) (fun c18 => ?_)
      · rw [if_neg c18] at h
        cases h
        exact hR _ _ dX9_closesSums_59
      · rw [if_pos c18] at h
        exact v9_closesSums_b37  hC hR hk0 _ _ h
def g9_closesSums_b0 : Nat → Int32 → xMem → Option (xMem)
  | 0, _, _ => none
  | n + 1, x1, M => 
    (Option.bind (g9_waitTop M) fun q1 =>
    if (q1.1) < (4 : Int32) then
    (g9_closesSums_b17 (g9_closesSums_b0 n) x1 q1.2)
    else
    (Option.bind (g9_waitTop q1.2) fun q4 =>
    if (q4.1) ≤ (6 : Int32) then
    (g9_closesSums_b37 (g9_closesSums_b0 n) x1 q4.2)
    else
    (g9_closesSums_b17 (g9_closesSums_b0 n) x1 q4.2)))
set_option maxHeartbeats 4000000 in
set_option maxRecDepth 20000 in
theorem v9_closesSums_b0 {G : xG} (hC : xC G cX9_closesSums 2 RX9 1) {R : xMem} (hR : xRV G cX9_closesSums 2 R) : ∀ (n : Nat) (x1 : Int32) (M : xMem), g9_closesSums_b0 n x1 M = some R → V G 2 0 [(0, .inr 154), (1, .inl x1)] [] M := by
  intro n
  induction n with
  | zero => intro x1 M h; rw [g9_closesSums_b0] at h; cases h
  | succ n ih =>
    intro x1 M h
    rw [g9_closesSums_b0] at h
    refine V.aload_n (r := 1) hC 0 dX9_closesSums_0 rfl rfl ?_
    obtain ⟨q1, hq2, h⟩ := Option.bind_eq_some_iff.mp h
    try dsimp only at h
    refine V.invVi (as := []) (st := []) (r := 4) hC (met9_waitTop hq2) yv_X9_waitTop ml_RX9_156 sh_154 rfl rfl dX9_closesSums_1 (by decide) rfl rfl rfl rfl ?_
    refine V.iconst (r := 5) hC dX9_closesSums_4 ki_4 rfl ?_
    refine V.icmp_lt (tgt := 17) (r := 8) hC dX9_closesSums_5 (by decide) rfl (fun c3 => ?_) (fun c3 => ?_)
    · rw [if_pos c3] at h
      exact v9_closesSums_b17  hC hR ih _ _ h
    · rw [if_neg c3] at h
      refine V.aload_n (r := 9) hC 0 dX9_closesSums_8 rfl rfl ?_
      obtain ⟨q4, hq5, h⟩ := Option.bind_eq_some_iff.mp h
      try dsimp only at h
      refine V.invVi (as := []) (st := []) (r := 12) hC (met9_waitTop hq5) yv_X9_waitTop ml_RX9_156 sh_154 rfl rfl dX9_closesSums_9 (by decide) rfl rfl rfl rfl ?_
      refine V.bipush (r := 14) hC dX9_closesSums_12 kb_6 rfl ?_
      refine V.icmp_le (tgt := 37) (r := 17) hC dX9_closesSums_14 (by decide) rfl (fun c6 => ?_) (fun c6 => ?_)
      · rw [if_pos c6] at h
        exact v9_closesSums_b37  hC hR ih _ _ h
      · rw [if_neg c6] at h
        exact v9_closesSums_b17  hC hR ih _ _ h
def g9_closesSums (a0 : Int32) (M : xMem) : Option (xMem) :=
g9_closesSums_b0 5000 a0 M
set_option maxHeartbeats 4000000 in
set_option maxRecDepth 20000 in
theorem v9_closesSums {G : xG} (hC : xC G cX9_closesSums 2 RX9 1) {R : xMem} (hR : xRV G cX9_closesSums 2 R) {a0 : Int32} {M : xMem} (h : g9_closesSums a0 M = some R) : V G 2 0 [(0, .inr 154), (1, .inl a0)] [] M := by
  unfold g9_closesSums at h
  exact v9_closesSums_b0  hC hR  5000 _ _ h
theorem met9_closesSums {R : xMem} {a0 : Int32} {M : xMem} (h : g9_closesSums a0 M = some R) : xMet yX9_closesSums cX9_closesSums 2 none 1 [.inr 154, .inl a0] M none R := xMet.ofV (by decide +kernel) (Nat.le_of_ble_eq_true rfl) fun _ hC hR => v9_closesSums  hC hR h
def g9_readsFactor_b0 : Nat → xMem → Option (Int32 × xMem)
  | 0, _ => none
  | n + 1, M => 
    (Option.bind (g9_here M) fun q1 =>
    if (q1.1) = (91 : Int32) then
    (Option.bind (g9_opens (14 : Int32) q1.2) fun q23 =>
    if (q23.1) = 0 then
    (some ((0 : Int32), q23.2))
    else
    (g9_readsFactor_b0 n q23.2))
    else
    (Option.bind (g9_isDigit q1.2) fun q4 =>
    if (q4.1) = 0 then
    (Option.bind (g9_here q4.2) fun q7 =>
    Option.bind (g9_factOf (q7.1) q7.2) fun q9 =>
    if (q9.1) = (-1 : Int32) then
    (Option.bind (g9_wrongAt (1 : Int32) (q9.2 165 0) q9.2) fun q15 =>
    if (q15.1) = 0 ∨ (q15.1) = 1 then
    some (q15.1, q15.2)
    else none)
    else
    (Option.bind (g9_notes (1 : Int32) (q9.1) q9.2) fun q12 =>
    mset (upM q12 165 0 ((q12 165 0) + (1 : Int32))) fun M14 =>
    some ((1 : Int32), M14)))
    else
    (Option.bind (g9_readsNumber q4.2) fun q18 =>
    if (q18.1) = 0 then
    (some ((0 : Int32), q18.2))
    else
    (Option.bind (g9_notes (0 : Int32) (q18.2 172 0) q18.2) fun q21 =>
    some ((1 : Int32), q21)))))
set_option maxHeartbeats 4000000 in
set_option maxRecDepth 20000 in
theorem v9_readsFactor_b0 {G : xG} (hC : xC G cX9_readsFactor 2 RX9 3) {R : Int32 × xMem} (hR : xRZ G cX9_readsFactor 2 R) : ∀ (n : Nat) (M : xMem), g9_readsFactor_b0 n M = some R → V G 2 0 [(0, .inr 154)] [] M := by
  intro n
  induction n with
  | zero => intro M h; rw [g9_readsFactor_b0] at h; cases h
  | succ n ih =>
    intro M h
    rw [g9_readsFactor_b0] at h
    refine V.aload_n (r := 1) hC 0 dX9_readsFactor_0 rfl rfl ?_
    obtain ⟨q1, hq2, h⟩ := Option.bind_eq_some_iff.mp h
    try dsimp only at h
    refine V.invVi (as := []) (st := []) (r := 4) hC (met9_here hq2) yv_X9_here ml_RX9_129 sh_154 rfl rfl dX9_readsFactor_1 (by decide) rfl rfl rfl rfl ?_
    refine V.bipush (r := 6) hC dX9_readsFactor_4 kb_91 rfl ?_
    refine V.icmp_ne (tgt := 20) (r := 9) hC dX9_readsFactor_6 (by decide) rfl (fun c3 => ?_) (fun c3 => ?_)
    · rw [if_neg c3] at h
      refine V.aload_n (r := 21) hC 0 dX9_readsFactor_20 rfl rfl ?_
      obtain ⟨q4, hq5, h⟩ := Option.bind_eq_some_iff.mp h
      try dsimp only at h
      refine V.invVi (as := []) (st := []) (r := 24) hC (met9_isDigit hq5) yv_X9_isDigit ml_RX9_142 sh_154 rfl rfl dX9_readsFactor_21 (by decide) rfl rfl rfl rfl ?_
      refine V.if_eq (tgt := 47) (r := 27) hC dX9_readsFactor_24 (by decide) rfl (fun c6 => ?_) (fun c6 => ?_)
      · rw [if_pos c6] at h
        refine V.aload_n (r := 48) hC 0 dX9_readsFactor_47 rfl rfl ?_
        obtain ⟨q7, hq8, h⟩ := Option.bind_eq_some_iff.mp h
        try dsimp only at h
        refine V.invVi (as := []) (st := []) (r := 51) hC (met9_here hq8) yv_X9_here ml_RX9_129 sh_154 rfl rfl dX9_readsFactor_48 (by decide) rfl rfl rfl rfl ?_
        obtain ⟨q9, hq10, h⟩ := Option.bind_eq_some_iff.mp h
        try dsimp only at h
        refine V.invSi (as := [.inl (q7.1)]) (st := []) (r := 54) hC (met9_factOf hq10) ys_X9_factOf ml_RX9_169 dX9_readsFactor_51 (by decide) rfl rfl rfl rfl ?_
        refine V.ist_n (lv' := [(0, .inr 154), (1, .inl (q9.1))]) (r := 55) hC dX9_readsFactor_54 rfl rfl rfl ?_
        refine V.iload_n (r := 56) hC 1 dX9_readsFactor_55 rfl rfl ?_
        refine V.iconst (r := 57) hC dX9_readsFactor_56 ki_m1 rfl ?_
        refine V.icmp_ne (tgt := 70) (r := 60) hC dX9_readsFactor_57 (by decide) rfl (fun c11 => ?_) (fun c11 => ?_)
        · rw [if_neg c11] at h
          refine V.aload_n (r := 71) hC 0 dX9_readsFactor_70 rfl rfl ?_
          refine V.iconst (r := 72) hC dX9_readsFactor_71 ki_1 rfl ?_
          refine V.iload_n (r := 73) hC 1 dX9_readsFactor_72 rfl rfl ?_
          obtain ⟨q12, hq13, h⟩ := Option.bind_eq_some_iff.mp h
          try dsimp only at h
          refine V.invVv (as := [.inl (1 : Int32), .inl (q9.1)]) (st := []) (r := 76) hC (met9_notes hq13) yv_X9_notes ml_RX9_159 sh_154 rfl rfl dX9_readsFactor_73 (by decide) rfl rfl rfl rfl ?_
          refine V.aload_n (r := 77) hC 0 dX9_readsFactor_76 rfl rfl ?_
          refine V.aload_n (r := 78) hC 0 dX9_readsFactor_77 rfl rfl ?_
          refine V.getI (b := 165) (i := 0) (j := 5) (r := 81) hC xcl_9 sh_154 fl_RX9_123 dX9_readsFactor_78 (by decide) rfl rfl ?_
          refine V.iconst (r := 82) hC dX9_readsFactor_81 ki_1 rfl ?_
          refine V.iadd (r := 83) hC dX9_readsFactor_82 rfl ?_
          rw [mset_eq] at h
          refine V.putI (b := 165) (i := 0) (j := 5) (ty := .int) (r := 86) hC xcl_9 xcp_9 sh_154 fl_RX9_123 dX9_readsFactor_83 (by decide) rfl rfl (by decide +kernel) rfl rfl rfl ?_
          generalize upM q12 165 0 ((q12 165 0) + (1 : Int32)) = M14 at h ⊢
          refine V.iconst (r := 87) hC dX9_readsFactor_86 ki_1 rfl ?_
          cases h
          exact hR _ _ (Or.inr rfl) dX9_readsFactor_87
        · rw [if_pos c11] at h
          refine V.aload_n (r := 61) hC 0 dX9_readsFactor_60 rfl rfl ?_
          refine V.iconst (r := 62) hC dX9_readsFactor_61 ki_1 rfl ?_
          refine V.aload_n (r := 63) hC 0 dX9_readsFactor_62 rfl rfl ?_
          refine V.getI (b := 165) (i := 0) (j := 5) (r := 66) hC xcl_9 sh_154 fl_RX9_123 dX9_readsFactor_63 (by decide) rfl rfl ?_
          obtain ⟨q15, hq16, h⟩ := Option.bind_eq_some_iff.mp h
          try dsimp only at h
          refine V.invVi (as := [.inl (1 : Int32), .inl (q9.2 165 0)]) (st := []) (r := 69) hC (met9_wrongAt hq16) yv_X9_wrongAt ml_RX9_136 sh_154 rfl rfl dX9_readsFactor_66 (by decide) rfl rfl rfl rfl ?_
          by_cases c17 : ¬ ((q15.1) = 0 ∨ (q15.1) = 1)
          · rw [if_neg c17] at h; cases h
          replace c17 := Classical.not_not.mp c17
          rw [if_pos c17] at h
          cases h
          exact hR _ _ c17 dX9_readsFactor_69
      · rw [if_neg c6] at h
        refine V.aload_n (r := 28) hC 0 dX9_readsFactor_27 rfl rfl ?_
        obtain ⟨q18, hq19, h⟩ := Option.bind_eq_some_iff.mp h
        try dsimp only at h
        refine V.invVi (as := []) (st := []) (r := 31) hC (met9_readsNumber hq19) yv_X9_readsNumber ml_RX9_166 sh_154 rfl rfl dX9_readsFactor_28 (by decide) rfl rfl rfl rfl ?_
        refine V.if_ne (tgt := 36) (r := 34) hC dX9_readsFactor_31 (by decide) rfl (fun c20 => ?_) (fun c20 => ?_)
        · rw [if_neg c20] at h
          refine V.aload_n (r := 37) hC 0 dX9_readsFactor_36 rfl rfl ?_
          refine V.iconst (r := 38) hC dX9_readsFactor_37 ki_0 rfl ?_
          refine V.aload_n (r := 39) hC 0 dX9_readsFactor_38 rfl rfl ?_
          refine V.getI (b := 172) (i := 0) (j := 12) (r := 42) hC xcl_9 sh_154 fl_RX9_139 dX9_readsFactor_39 (by decide) rfl rfl ?_
          obtain ⟨q21, hq22, h⟩ := Option.bind_eq_some_iff.mp h
          try dsimp only at h
          refine V.invVv (as := [.inl (0 : Int32), .inl (q18.2 172 0)]) (st := []) (r := 45) hC (met9_notes hq22) yv_X9_notes ml_RX9_159 sh_154 rfl rfl dX9_readsFactor_42 (by decide) rfl rfl rfl rfl ?_
          refine V.iconst (r := 46) hC dX9_readsFactor_45 ki_1 rfl ?_
          cases h
          exact hR _ _ (Or.inr rfl) dX9_readsFactor_46
        · rw [if_pos c20] at h
          refine V.iconst (r := 35) hC dX9_readsFactor_34 ki_0 rfl ?_
          cases h
          exact hR _ _ (Or.inl rfl) dX9_readsFactor_35
    · rw [if_pos c3] at h
      refine V.aload_n (r := 10) hC 0 dX9_readsFactor_9 rfl rfl ?_
      refine V.bipush (r := 12) hC dX9_readsFactor_10 kb_14 rfl ?_
      obtain ⟨q23, hq24, h⟩ := Option.bind_eq_some_iff.mp h
      try dsimp only at h
      refine V.invVi (as := [.inl (14 : Int32)]) (st := []) (r := 15) hC (met9_opens hq24) yv_X9_opens ml_RX9_163 sh_154 rfl rfl dX9_readsFactor_12 (by decide) rfl rfl rfl rfl ?_
      refine V.if_ne (tgt := 0) (r := 18) hC dX9_readsFactor_15 (by decide) rfl (fun c25 => ?_) (fun c25 => ?_)
      · rw [if_neg c25] at h
        exact ih _ h
      · rw [if_pos c25] at h
        refine V.iconst (r := 19) hC dX9_readsFactor_18 ki_0 rfl ?_
        cases h
        exact hR _ _ (Or.inl rfl) dX9_readsFactor_19
def g9_readsFactor (M : xMem) : Option (Int32 × xMem) :=
g9_readsFactor_b0 5000 M
set_option maxHeartbeats 4000000 in
set_option maxRecDepth 20000 in
theorem v9_readsFactor {G : xG} (hC : xC G cX9_readsFactor 2 RX9 3) {R : Int32 × xMem} (hR : xRZ G cX9_readsFactor 2 R) {M : xMem} (h : g9_readsFactor M = some R) : V G 2 0 [(0, .inr 154)] [] M := by
  unfold g9_readsFactor at h
  exact v9_readsFactor_b0  hC hR  5000 _ h
theorem met9_readsFactor {R : Int32 × xMem} {M : xMem} (h : g9_readsFactor M = some R) : xMet yX9_readsFactor cX9_readsFactor 2 (some .boolean) 3 [.inr 154] M (some R.1) R.2 := xMet.ofZ (by decide +kernel) (Nat.le_of_ble_eq_true rfl) fun _ hC hR => v9_readsFactor  hC hR h
def g9_hasOpenSum_b2 : Nat → Int32 → xMem → Option (Int32 × xMem)
  | 0, _, _ => none
  | n + 1, x2, M => 
    (if (M 170 0) ≤ x2 then
    (some ((0 : Int32), M))
    else
    (if x2 < 0 ∨ 260 ≤ x2.toNatClampNeg then none else
    if ((M 175 x2.toNatClampNeg) / (1048576 : Int32)) = (14 : Int32) then
    (some ((1 : Int32), M))
    else
    (g9_hasOpenSum_b2 n (x2 + (1 : Int32)) M)))
set_option maxHeartbeats 4000000 in
set_option maxRecDepth 20000 in
theorem v9_hasOpenSum_b2 {G : xG} (hC : xC G cX9_hasOpenSum 3 RX9 0) {R : Int32 × xMem} (hR : xRZ G cX9_hasOpenSum 3 R) : ∀ (n : Nat) (x2 : Int32) (M : xMem), g9_hasOpenSum_b2 n x2 M = some R → V G 3 2 [(0, .inr 154), (2, .inl x2)] [] M := by
  intro n
  induction n with
  | zero => intro x2 M h; rw [g9_hasOpenSum_b2] at h; cases h
  | succ n ih =>
    intro x2 M h
    rw [g9_hasOpenSum_b2] at h
    refine V.iload_n (r := 3) hC 1 dX9_hasOpenSum_2 rfl rfl ?_
    refine V.aload_n (r := 4) hC 0 dX9_hasOpenSum_3 rfl rfl ?_
    refine V.getI (b := 170) (i := 0) (j := 10) (r := 7) hC xcl_9 sh_154 fl_RX9_153 dX9_hasOpenSum_4 (by decide) rfl rfl ?_
    refine V.icmp_ge (tgt := 32) (r := 10) hC dX9_hasOpenSum_7 (by decide) rfl (fun c1 => ?_) (fun c1 => ?_)
    · rw [if_pos c1] at h
      refine V.iconst (r := 33) hC dX9_hasOpenSum_32 ki_0 rfl ?_
      cases h
      exact hR _ _ (Or.inl rfl) dX9_hasOpenSum_33
    · rw [if_neg c1] at h
      refine V.aload_n (r := 11) hC 0 dX9_hasOpenSum_10 rfl rfl ?_
      refine V.getR (k' := 160) (j := 15) (r := 14) hC xcl_9 sh_154 fl_RX9_26 dX9_hasOpenSum_11 (by decide) rfl rfl ?_
      refine V.iload_n (r := 15) hC 1 dX9_hasOpenSum_14 rfl rfl ?_
      by_cases c2 : x2 < 0 ∨ 260 ≤ x2.toNatClampNeg
      · rw [if_pos c2] at h; cases h
      rw [if_neg c2] at h
      refine V.iald (t := x2.toNatClampNeg) (r := 16) hC sh_160 dX9_hasOpenSum_15 c2 (Nat.zero_add _) rfl ?_
      refine V.ldc (r := 18) hC dX9_hasOpenSum_16 co_RX9_149 rfl ?_
      refine V.idiv (r := 19) hC dX9_hasOpenSum_18 (by decide) rfl ?_
      refine V.bipush (r := 21) hC dX9_hasOpenSum_19 kb_14 rfl ?_
      refine V.icmp_ne (tgt := 26) (r := 24) hC dX9_hasOpenSum_21 (by decide) rfl (fun c3 => ?_) (fun c3 => ?_)
      · rw [if_neg c3] at h
        refine V.inc (lv' := [(0, .inr 154), (2, .inl (x2 + (1 : Int32)))]) (r := 29) hC 1 dX9_hasOpenSum_26 rfl ki_1 rfl rfl rfl ?_
        refine V.goto (tgt := 2) hC dX9_hasOpenSum_29 (by decide) ?_
        exact ih _ _ h
      · rw [if_pos c3] at h
        refine V.iconst (r := 25) hC dX9_hasOpenSum_24 ki_1 rfl ?_
        cases h
        exact hR _ _ (Or.inr rfl) dX9_hasOpenSum_25
def g9_hasOpenSum (a0 : Int32) (M : xMem) : Option (Int32 × xMem) :=
g9_hasOpenSum_b2 5000 a0 M
set_option maxHeartbeats 4000000 in
set_option maxRecDepth 20000 in
theorem v9_hasOpenSum {G : xG} (hC : xC G cX9_hasOpenSum 3 RX9 0) {R : Int32 × xMem} (hR : xRZ G cX9_hasOpenSum 3 R) {a0 : Int32} {M : xMem} (h : g9_hasOpenSum a0 M = some R) : V G 3 0 [(0, .inr 154), (1, .inl a0)] [] M := by
  unfold g9_hasOpenSum at h
  refine V.iload_n (r := 1) hC 1 dX9_hasOpenSum_0 rfl rfl ?_
  refine V.ist_n (lv' := [(0, .inr 154), (1, .inl a0), (2, .inl a0)]) (r := 2) hC dX9_hasOpenSum_1 rfl rfl rfl ?_
  refine V.pick (lv' := [(0, .inr 154), (2, .inl a0)]) [0, 2] rfl ?_
  exact v9_hasOpenSum_b2  hC hR  5000 _ _ h
theorem met9_hasOpenSum {R : Int32 × xMem} {a0 : Int32} {M : xMem} (h : g9_hasOpenSum a0 M = some R) : xMet yX9_hasOpenSum cX9_hasOpenSum 3 (some .boolean) 0 [.inr 154, .inl a0] M (some R.1) R.2 := xMet.ofZ (by decide +kernel) (Nat.le_of_ble_eq_true rfl) fun _ hC hR => v9_hasOpenSum  hC hR h
def g9_readsSum_b163 (k14 : Int32 → xMem → Option (Int32 × xMem)) (x1 : Int32) (M : xMem) : Option (Int32 × xMem) :=
k14 x1 M
set_option maxHeartbeats 4000000 in
set_option maxRecDepth 20000 in
theorem v9_readsSum_b163 {G : xG} (hC : xC G cX9_readsSum 3 RX9 4) {R : Int32 × xMem} (hR : xRZ G cX9_readsSum 3 R) {k14 : Int32 → xMem → Option (Int32 × xMem)} (hk14 : ∀ (y1 : Int32) (N : xMem), k14 y1 N = some R → V G 3 14 [(0, .inr 154), (1, .inl y1)] [] N) (x1 : Int32) (M : xMem) (h : g9_readsSum_b163 k14 x1 M = some R) : V G 3 163 [(0, .inr 154), (1, .inl x1)] [] M := by
  unfold g9_readsSum_b163 at h
  refine V.goto (tgt := 14) hC dX9_readsSum_163 (by decide) ?_
  exact hk14 _ _ h
def g9_readsSum_b38 (k14 : Int32 → xMem → Option (Int32 × xMem)) (x1 x2 s1 : Int32) (M : xMem) : Option (Int32 × xMem) :=
Option.bind (g9_closesSums s1 M) fun q21 =>
if (q21 170 0) < 0 ∨ 260 ≤ (q21 170 0).toNatClampNeg then none else
mset (upM q21 175 (q21 170 0).toNatClampNeg ((1048576 : Int32) * x2)) fun M24 =>
mset (upM M24 170 0 ((M24 170 0) + (1 : Int32))) fun M25 =>
mset (upM M25 165 0 ((M25 165 0) + (1 : Int32))) fun M26 =>
Option.bind (g9_readsFactor M26) fun q27 =>
if (q27.1) = 0 then
(some ((0 : Int32), q27.2))
else
(g9_readsSum_b163 k14 x1 q27.2)
set_option maxHeartbeats 4000000 in
set_option maxRecDepth 20000 in
theorem v9_readsSum_b38 {G : xG} (hC : xC G cX9_readsSum 3 RX9 4) {R : Int32 × xMem} (hR : xRZ G cX9_readsSum 3 R) {k14 : Int32 → xMem → Option (Int32 × xMem)} (hk14 : ∀ (y1 : Int32) (N : xMem), k14 y1 N = some R → V G 3 14 [(0, .inr 154), (1, .inl y1)] [] N) (x1 x2 s1 : Int32) (M : xMem) (h : g9_readsSum_b38 k14 x1 x2 s1 M = some R) : V G 3 38 [(0, .inr 154), (1, .inl x1), (2, .inl x2)] [.inl s1, .inr 154] M := by
  unfold g9_readsSum_b38 at h
  obtain ⟨q21, hq22, h⟩ := Option.bind_eq_some_iff.mp h
  try dsimp only at h
  refine V.invVv (as := [.inl s1]) (st := []) (r := 41) hC (met9_closesSums hq22) yv_X9_closesSums ml_RX9_178 sh_154 rfl rfl dX9_readsSum_38 (by decide) rfl rfl rfl rfl ?_
  refine V.aload_n (r := 42) hC 0 dX9_readsSum_41 rfl rfl ?_
  refine V.getR (k' := 160) (j := 15) (r := 45) hC xcl_9 sh_154 fl_RX9_26 dX9_readsSum_42 (by decide) rfl rfl ?_
  refine V.aload_n (r := 46) hC 0 dX9_readsSum_45 rfl rfl ?_
  refine V.getI (b := 170) (i := 0) (j := 10) (r := 49) hC xcl_9 sh_154 fl_RX9_153 dX9_readsSum_46 (by decide) rfl rfl ?_
  refine V.ldc (r := 51) hC dX9_readsSum_49 co_RX9_149 rfl ?_
  refine V.iload_n (r := 52) hC 2 dX9_readsSum_51 rfl rfl ?_
  refine V.imul (r := 53) hC dX9_readsSum_52 rfl ?_
  by_cases c23 : (q21 170 0) < 0 ∨ 260 ≤ (q21 170 0).toNatClampNeg
  · rw [if_pos c23] at h; cases h
  rw [if_neg c23] at h
  rw [mset_eq] at h
  refine V.iast (t := (q21 170 0).toNatClampNeg) (r := 54) hC sh_160 dX9_readsSum_53 c23 (Nat.zero_add _) rfl ?_
  generalize upM q21 175 (q21 170 0).toNatClampNeg ((1048576 : Int32) * x2) = M24 at h ⊢
  refine V.aload_n (r := 55) hC 0 dX9_readsSum_54 rfl rfl ?_
  refine V.aload_n (r := 56) hC 0 dX9_readsSum_55 rfl rfl ?_
  refine V.getI (b := 170) (i := 0) (j := 10) (r := 59) hC xcl_9 sh_154 fl_RX9_153 dX9_readsSum_56 (by decide) rfl rfl ?_
  refine V.iconst (r := 60) hC dX9_readsSum_59 ki_1 rfl ?_
  refine V.iadd (r := 61) hC dX9_readsSum_60 rfl ?_
  rw [mset_eq] at h
  refine V.putI (b := 170) (i := 0) (j := 10) (ty := .int) (r := 64) hC xcl_9 xcp_9 sh_154 fl_RX9_153 dX9_readsSum_61 (by decide) rfl rfl (by decide +kernel) rfl rfl rfl ?_
  generalize upM M24 170 0 ((M24 170 0) + (1 : Int32)) = M25 at h ⊢
  refine V.aload_n (r := 65) hC 0 dX9_readsSum_64 rfl rfl ?_
  refine V.aload_n (r := 66) hC 0 dX9_readsSum_65 rfl rfl ?_
  refine V.getI (b := 165) (i := 0) (j := 5) (r := 69) hC xcl_9 sh_154 fl_RX9_123 dX9_readsSum_66 (by decide) rfl rfl ?_
  refine V.iconst (r := 70) hC dX9_readsSum_69 ki_1 rfl ?_
  refine V.iadd (r := 71) hC dX9_readsSum_70 rfl ?_
  rw [mset_eq] at h
  refine V.putI (b := 165) (i := 0) (j := 5) (ty := .int) (r := 74) hC xcl_9 xcp_9 sh_154 fl_RX9_123 dX9_readsSum_71 (by decide) rfl rfl (by decide +kernel) rfl rfl rfl ?_
  generalize upM M25 165 0 ((M25 165 0) + (1 : Int32)) = M26 at h ⊢
  refine V.aload_n (r := 75) hC 0 dX9_readsSum_74 rfl rfl ?_
  obtain ⟨q27, hq28, h⟩ := Option.bind_eq_some_iff.mp h
  try dsimp only at h
  refine V.invVi (as := []) (st := []) (r := 78) hC (met9_readsFactor hq28) yv_X9_readsFactor ml_RX9_172 sh_154 rfl rfl dX9_readsSum_75 (by decide) rfl rfl rfl rfl ?_
  refine V.if_ne (tgt := 163) (r := 81) hC dX9_readsSum_78 (by decide) rfl (fun c29 => ?_) (fun c29 => ?_)
  · rw [if_neg c29] at h
    refine V.pick (lv' := [(0, .inr 154), (1, .inl x1)]) [0, 1] rfl ?_
    exact v9_readsSum_b163  hC hR hk14 _ _ h
  · rw [if_pos c29] at h
    refine V.iconst (r := 82) hC dX9_readsSum_81 ki_0 rfl ?_
    cases h
    exact hR _ _ (Or.inl rfl) dX9_readsSum_82
def g9_readsSum_b138 (x1 : Int32) (M : xMem) : Option (Int32 × xMem) :=
Option.bind (g9_hasOpenSum x1 M) fun q30 =>
if (q30.1) = 0 then
(Option.bind (g9_closesSums (1 : Int32) q30.2) fun q33 =>
some ((1 : Int32), q33))
else
(Option.bind (g9_wrongAt (1 : Int32) (q30.2 165 0) q30.2) fun q35 =>
if (q35.1) = 0 ∨ (q35.1) = 1 then
some (q35.1, q35.2)
else none)
set_option maxHeartbeats 4000000 in
set_option maxRecDepth 20000 in
theorem v9_readsSum_b138 {G : xG} (hC : xC G cX9_readsSum 3 RX9 4) {R : Int32 × xMem} (hR : xRZ G cX9_readsSum 3 R) (x1 : Int32) (M : xMem) (h : g9_readsSum_b138 x1 M = some R) : V G 3 138 [(0, .inr 154), (1, .inl x1)] [] M := by
  unfold g9_readsSum_b138 at h
  refine V.aload_n (r := 139) hC 0 dX9_readsSum_138 rfl rfl ?_
  refine V.iload_n (r := 140) hC 1 dX9_readsSum_139 rfl rfl ?_
  obtain ⟨q30, hq31, h⟩ := Option.bind_eq_some_iff.mp h
  try dsimp only at h
  refine V.invVi (as := [.inl x1]) (st := []) (r := 143) hC (met9_hasOpenSum hq31) yv_X9_hasOpenSum ml_RX9_182 sh_154 rfl rfl dX9_readsSum_140 (by decide) rfl rfl rfl rfl ?_
  refine V.if_eq (tgt := 156) (r := 146) hC dX9_readsSum_143 (by decide) rfl (fun c32 => ?_) (fun c32 => ?_)
  · rw [if_pos c32] at h
    refine V.aload_n (r := 157) hC 0 dX9_readsSum_156 rfl rfl ?_
    refine V.iconst (r := 158) hC dX9_readsSum_157 ki_1 rfl ?_
    obtain ⟨q33, hq34, h⟩ := Option.bind_eq_some_iff.mp h
    try dsimp only at h
    refine V.invVv (as := [.inl (1 : Int32)]) (st := []) (r := 161) hC (met9_closesSums hq34) yv_X9_closesSums ml_RX9_178 sh_154 rfl rfl dX9_readsSum_158 (by decide) rfl rfl rfl rfl ?_
    refine V.iconst (r := 162) hC dX9_readsSum_161 ki_1 rfl ?_
    cases h
    exact hR _ _ (Or.inr rfl) dX9_readsSum_162
  · rw [if_neg c32] at h
    refine V.aload_n (r := 147) hC 0 dX9_readsSum_146 rfl rfl ?_
    refine V.iconst (r := 148) hC dX9_readsSum_147 ki_1 rfl ?_
    refine V.aload_n (r := 149) hC 0 dX9_readsSum_148 rfl rfl ?_
    refine V.getI (b := 165) (i := 0) (j := 5) (r := 152) hC xcl_9 sh_154 fl_RX9_123 dX9_readsSum_149 (by decide) rfl rfl ?_
    obtain ⟨q35, hq36, h⟩ := Option.bind_eq_some_iff.mp h
    try dsimp only at h
    refine V.invVi (as := [.inl (1 : Int32), .inl (q30.2 165 0)]) (st := []) (r := 155) hC (met9_wrongAt hq36) yv_X9_wrongAt ml_RX9_136 sh_154 rfl rfl dX9_readsSum_152 (by decide) rfl rfl rfl rfl ?_
    by_cases c37 : ¬ ((q35.1) = 0 ∨ (q35.1) = 1)
    · rw [if_neg c37] at h; cases h
    replace c37 := Classical.not_not.mp c37
    rw [if_pos c37] at h
    cases h
    exact hR _ _ c37 dX9_readsSum_155
def g9_readsSum_b14 : Nat → Int32 → xMem → Option (Int32 × xMem)
  | 0, _, _ => none
  | n + 1, x1, M => 
    (Option.bind (g9_here M) fun q4 =>
    Option.bind (g9_sumSign (q4.1) q4.2) fun q6 =>
    if (q6.1) = (-1 : Int32) then
    (Option.bind (g9_here q6.2) fun q9 =>
    if (q9.1) = (93 : Int32) then
    (Option.bind (g9_hasOpenSum x1 q9.2) fun q12 =>
    if (q12.1) = 0 then
    (g9_readsSum_b138 x1 q12.2)
    else
    (Option.bind (g9_closesSums (1 : Int32) q12.2) fun q15 =>
    mset (upM q15 170 0 ((q15 170 0) - (1 : Int32))) fun M17 =>
    mset (upM M17 168 0 ((M17 168 0) - (1 : Int32))) fun M18 =>
    mset (upM M18 165 0 ((M18 165 0) + (1 : Int32))) fun M19 =>
    g9_readsSum_b163 (g9_readsSum_b14 n) x1 M19))
    else
    (g9_readsSum_b138 x1 q9.2))
    else
    (if (4 : Int32) ≤ (q6.1) then
    (g9_readsSum_b38 (g9_readsSum_b14 n) x1 (q6.1) (0 : Int32) q6.2)
    else
    (g9_readsSum_b38 (g9_readsSum_b14 n) x1 (q6.1) (1 : Int32) q6.2)))
set_option maxHeartbeats 4000000 in
set_option maxRecDepth 20000 in
theorem v9_readsSum_b14 {G : xG} (hC : xC G cX9_readsSum 3 RX9 4) {R : Int32 × xMem} (hR : xRZ G cX9_readsSum 3 R) : ∀ (n : Nat) (x1 : Int32) (M : xMem), g9_readsSum_b14 n x1 M = some R → V G 3 14 [(0, .inr 154), (1, .inl x1)] [] M := by
  intro n
  induction n with
  | zero => intro x1 M h; rw [g9_readsSum_b14] at h; cases h
  | succ n ih =>
    intro x1 M h
    rw [g9_readsSum_b14] at h
    refine V.aload_n (r := 15) hC 0 dX9_readsSum_14 rfl rfl ?_
    obtain ⟨q4, hq5, h⟩ := Option.bind_eq_some_iff.mp h
    try dsimp only at h
    refine V.invVi (as := []) (st := []) (r := 18) hC (met9_here hq5) yv_X9_here ml_RX9_129 sh_154 rfl rfl dX9_readsSum_15 (by decide) rfl rfl rfl rfl ?_
    obtain ⟨q6, hq7, h⟩ := Option.bind_eq_some_iff.mp h
    try dsimp only at h
    refine V.invSi (as := [.inl (q4.1)]) (st := []) (r := 21) hC (met9_sumSign hq7) ys_X9_sumSign ml_RX9_175 dX9_readsSum_18 (by decide) rfl rfl rfl rfl ?_
    refine V.ist_n (lv' := [(0, .inr 154), (1, .inl x1), (2, .inl (q6.1))]) (r := 22) hC dX9_readsSum_21 rfl rfl rfl ?_
    refine V.iload_n (r := 23) hC 2 dX9_readsSum_22 rfl rfl ?_
    refine V.iconst (r := 24) hC dX9_readsSum_23 ki_m1 rfl ?_
    refine V.icmp_eq (tgt := 83) (r := 27) hC dX9_readsSum_24 (by decide) rfl (fun c8 => ?_) (fun c8 => ?_)
    · rw [if_pos c8] at h
      refine V.aload_n (r := 84) hC 0 dX9_readsSum_83 rfl rfl ?_
      obtain ⟨q9, hq10, h⟩ := Option.bind_eq_some_iff.mp h
      try dsimp only at h
      refine V.invVi (as := []) (st := []) (r := 87) hC (met9_here hq10) yv_X9_here ml_RX9_129 sh_154 rfl rfl dX9_readsSum_84 (by decide) rfl rfl rfl rfl ?_
      refine V.bipush (r := 89) hC dX9_readsSum_87 kb_93 rfl ?_
      refine V.icmp_ne (tgt := 138) (r := 92) hC dX9_readsSum_89 (by decide) rfl (fun c11 => ?_) (fun c11 => ?_)
      · rw [if_neg c11] at h
        refine V.pick (lv' := [(0, .inr 154), (1, .inl x1)]) [0, 1] rfl ?_
        exact v9_readsSum_b138  hC hR  _ _ h
      · rw [if_pos c11] at h
        refine V.aload_n (r := 93) hC 0 dX9_readsSum_92 rfl rfl ?_
        refine V.iload_n (r := 94) hC 1 dX9_readsSum_93 rfl rfl ?_
        obtain ⟨q12, hq13, h⟩ := Option.bind_eq_some_iff.mp h
        try dsimp only at h
        refine V.invVi (as := [.inl x1]) (st := []) (r := 97) hC (met9_hasOpenSum hq13) yv_X9_hasOpenSum ml_RX9_182 sh_154 rfl rfl dX9_readsSum_94 (by decide) rfl rfl rfl rfl ?_
        refine V.if_eq (tgt := 138) (r := 100) hC dX9_readsSum_97 (by decide) rfl (fun c14 => ?_) (fun c14 => ?_)
        · rw [if_pos c14] at h
          refine V.pick (lv' := [(0, .inr 154), (1, .inl x1)]) [0, 1] rfl ?_
          exact v9_readsSum_b138  hC hR  _ _ h
        · rw [if_neg c14] at h
          refine V.aload_n (r := 101) hC 0 dX9_readsSum_100 rfl rfl ?_
          refine V.iconst (r := 102) hC dX9_readsSum_101 ki_1 rfl ?_
          obtain ⟨q15, hq16, h⟩ := Option.bind_eq_some_iff.mp h
          try dsimp only at h
          refine V.invVv (as := [.inl (1 : Int32)]) (st := []) (r := 105) hC (met9_closesSums hq16) yv_X9_closesSums ml_RX9_178 sh_154 rfl rfl dX9_readsSum_102 (by decide) rfl rfl rfl rfl ?_
          refine V.aload_n (r := 106) hC 0 dX9_readsSum_105 rfl rfl ?_
          refine V.aload_n (r := 107) hC 0 dX9_readsSum_106 rfl rfl ?_
          refine V.getI (b := 170) (i := 0) (j := 10) (r := 110) hC xcl_9 sh_154 fl_RX9_153 dX9_readsSum_107 (by decide) rfl rfl ?_
          refine V.iconst (r := 111) hC dX9_readsSum_110 ki_1 rfl ?_
          refine V.isub (r := 112) hC dX9_readsSum_111 rfl ?_
          rw [mset_eq] at h
          refine V.putI (b := 170) (i := 0) (j := 10) (ty := .int) (r := 115) hC xcl_9 xcp_9 sh_154 fl_RX9_153 dX9_readsSum_112 (by decide) rfl rfl (by decide +kernel) rfl rfl rfl ?_
          generalize upM q15 170 0 ((q15 170 0) - (1 : Int32)) = M17 at h ⊢
          refine V.aload_n (r := 116) hC 0 dX9_readsSum_115 rfl rfl ?_
          refine V.aload_n (r := 117) hC 0 dX9_readsSum_116 rfl rfl ?_
          refine V.getI (b := 168) (i := 0) (j := 8) (r := 120) hC xcl_9 sh_154 fl_RX9_150 dX9_readsSum_117 (by decide) rfl rfl ?_
          refine V.iconst (r := 121) hC dX9_readsSum_120 ki_1 rfl ?_
          refine V.isub (r := 122) hC dX9_readsSum_121 rfl ?_
          rw [mset_eq] at h
          refine V.putI (b := 168) (i := 0) (j := 8) (ty := .int) (r := 125) hC xcl_9 xcp_9 sh_154 fl_RX9_150 dX9_readsSum_122 (by decide) rfl rfl (by decide +kernel) rfl rfl rfl ?_
          generalize upM M17 168 0 ((M17 168 0) - (1 : Int32)) = M18 at h ⊢
          refine V.aload_n (r := 126) hC 0 dX9_readsSum_125 rfl rfl ?_
          refine V.aload_n (r := 127) hC 0 dX9_readsSum_126 rfl rfl ?_
          refine V.getI (b := 165) (i := 0) (j := 5) (r := 130) hC xcl_9 sh_154 fl_RX9_123 dX9_readsSum_127 (by decide) rfl rfl ?_
          refine V.iconst (r := 131) hC dX9_readsSum_130 ki_1 rfl ?_
          refine V.iadd (r := 132) hC dX9_readsSum_131 rfl ?_
          rw [mset_eq] at h
          refine V.putI (b := 165) (i := 0) (j := 5) (ty := .int) (r := 135) hC xcl_9 xcp_9 sh_154 fl_RX9_123 dX9_readsSum_132 (by decide) rfl rfl (by decide +kernel) rfl rfl rfl ?_
          generalize upM M18 165 0 ((M18 165 0) + (1 : Int32)) = M19 at h ⊢
          refine V.goto (tgt := 163) hC dX9_readsSum_135 (by decide) ?_
          refine V.pick (lv' := [(0, .inr 154), (1, .inl x1)]) [0, 1] rfl ?_
          exact v9_readsSum_b163  hC hR ih _ _ h
    · rw [if_neg c8] at h
      refine V.aload_n (r := 28) hC 0 dX9_readsSum_27 rfl rfl ?_
      refine V.iload_n (r := 29) hC 2 dX9_readsSum_28 rfl rfl ?_
      refine V.iconst (r := 30) hC dX9_readsSum_29 ki_4 rfl ?_
      refine V.icmp_ge (tgt := 37) (r := 33) hC dX9_readsSum_30 (by decide) rfl (fun c20 => ?_) (fun c20 => ?_)
      · rw [if_pos c20] at h
        refine V.iconst (r := 38) hC dX9_readsSum_37 ki_0 rfl ?_
        exact v9_readsSum_b38  hC hR ih _ _ _ _ h
      · rw [if_neg c20] at h
        refine V.iconst (r := 34) hC dX9_readsSum_33 ki_1 rfl ?_
        refine V.goto (tgt := 38) hC dX9_readsSum_34 (by decide) ?_
        exact v9_readsSum_b38  hC hR ih _ _ _ _ h
def g9_readsSum (M : xMem) : Option (Int32 × xMem) :=
Option.bind (g9_readsFactor M) fun q1 =>
if (q1.1) = 0 then
(some ((0 : Int32), q1.2))
else
(g9_readsSum_b14 5000 (M 170 0) q1.2)
set_option maxHeartbeats 4000000 in
set_option maxRecDepth 20000 in
theorem v9_readsSum {G : xG} (hC : xC G cX9_readsSum 3 RX9 4) {R : Int32 × xMem} (hR : xRZ G cX9_readsSum 3 R) {M : xMem} (h : g9_readsSum M = some R) : V G 3 0 [(0, .inr 154)] [] M := by
  unfold g9_readsSum at h
  refine V.aload_n (r := 1) hC 0 dX9_readsSum_0 rfl rfl ?_
  refine V.getI (b := 170) (i := 0) (j := 10) (r := 4) hC xcl_9 sh_154 fl_RX9_153 dX9_readsSum_1 (by decide) rfl rfl ?_
  refine V.ist_n (lv' := [(0, .inr 154), (1, .inl (M 170 0))]) (r := 5) hC dX9_readsSum_4 rfl rfl rfl ?_
  refine V.aload_n (r := 6) hC 0 dX9_readsSum_5 rfl rfl ?_
  obtain ⟨q1, hq2, h⟩ := Option.bind_eq_some_iff.mp h
  try dsimp only at h
  refine V.invVi (as := []) (st := []) (r := 9) hC (met9_readsFactor hq2) yv_X9_readsFactor ml_RX9_172 sh_154 rfl rfl dX9_readsSum_6 (by decide) rfl rfl rfl rfl ?_
  refine V.if_ne (tgt := 14) (r := 12) hC dX9_readsSum_9 (by decide) rfl (fun c3 => ?_) (fun c3 => ?_)
  · rw [if_neg c3] at h
    exact v9_readsSum_b14  hC hR  5000 _ _ h
  · rw [if_pos c3] at h
    refine V.iconst (r := 13) hC dX9_readsSum_12 ki_0 rfl ?_
    cases h
    exact hR _ _ (Or.inl rfl) dX9_readsSum_13
theorem met9_readsSum {R : Int32 × xMem} {M : xMem} (h : g9_readsSum M = some R) : xMet yX9_readsSum cX9_readsSum 3 (some .boolean) 4 [.inr 154] M (some R.1) R.2 := xMet.ofZ (by decide +kernel) (Nat.le_of_ble_eq_true rfl) fun _ hC hR => v9_readsSum  hC hR h
def g9_endsPiece_b0 : Nat → xMem → Option (xMem)
  | 0, _ => none
  | n + 1, M => 
    (Option.bind (g9_waitTop M) fun q1 =>
    if (q1.1) = (10 : Int32) then
    (Option.bind (g9_notes (10 : Int32) (0 : Int32) q1.2) fun q4 =>
    mset (upM q4 170 0 ((q4 170 0) - (1 : Int32))) fun M6 =>
    mset (upM M6 168 0 ((M6 168 0) - (1 : Int32))) fun M7 =>
    g9_endsPiece_b0 n M7)
    else
    (some q1.2))
set_option maxHeartbeats 4000000 in
set_option maxRecDepth 20000 in
theorem v9_endsPiece_b0 {G : xG} (hC : xC G cX9_endsPiece 1 RX9 1) {R : xMem} (hR : xRV G cX9_endsPiece 1 R) : ∀ (n : Nat) (M : xMem), g9_endsPiece_b0 n M = some R → V G 1 0 [(0, .inr 154)] [] M := by
  intro n
  induction n with
  | zero => intro M h; rw [g9_endsPiece_b0] at h; cases h
  | succ n ih =>
    intro M h
    rw [g9_endsPiece_b0] at h
    refine V.aload_n (r := 1) hC 0 dX9_endsPiece_0 rfl rfl ?_
    obtain ⟨q1, hq2, h⟩ := Option.bind_eq_some_iff.mp h
    try dsimp only at h
    refine V.invVi (as := []) (st := []) (r := 4) hC (met9_waitTop hq2) yv_X9_waitTop ml_RX9_156 sh_154 rfl rfl dX9_endsPiece_1 (by decide) rfl rfl rfl rfl ?_
    refine V.bipush (r := 6) hC dX9_endsPiece_4 kb_10 rfl ?_
    refine V.icmp_ne (tgt := 39) (r := 9) hC dX9_endsPiece_6 (by decide) rfl (fun c3 => ?_) (fun c3 => ?_)
    · rw [if_neg c3] at h
      cases h
      exact hR _ _ dX9_endsPiece_39
    · rw [if_pos c3] at h
      refine V.aload_n (r := 10) hC 0 dX9_endsPiece_9 rfl rfl ?_
      refine V.bipush (r := 12) hC dX9_endsPiece_10 kb_10 rfl ?_
      refine V.iconst (r := 13) hC dX9_endsPiece_12 ki_0 rfl ?_
      obtain ⟨q4, hq5, h⟩ := Option.bind_eq_some_iff.mp h
      try dsimp only at h
      refine V.invVv (as := [.inl (10 : Int32), .inl (0 : Int32)]) (st := []) (r := 16) hC (met9_notes hq5) yv_X9_notes ml_RX9_159 sh_154 rfl rfl dX9_endsPiece_13 (by decide) rfl rfl rfl rfl ?_
      refine V.aload_n (r := 17) hC 0 dX9_endsPiece_16 rfl rfl ?_
      refine V.aload_n (r := 18) hC 0 dX9_endsPiece_17 rfl rfl ?_
      refine V.getI (b := 170) (i := 0) (j := 10) (r := 21) hC xcl_9 sh_154 fl_RX9_153 dX9_endsPiece_18 (by decide) rfl rfl ?_
      refine V.iconst (r := 22) hC dX9_endsPiece_21 ki_1 rfl ?_
      refine V.isub (r := 23) hC dX9_endsPiece_22 rfl ?_
      rw [mset_eq] at h
      refine V.putI (b := 170) (i := 0) (j := 10) (ty := .int) (r := 26) hC xcl_9 xcp_9 sh_154 fl_RX9_153 dX9_endsPiece_23 (by decide) rfl rfl (by decide +kernel) rfl rfl rfl ?_
      generalize upM q4 170 0 ((q4 170 0) - (1 : Int32)) = M6 at h ⊢
      refine V.aload_n (r := 27) hC 0 dX9_endsPiece_26 rfl rfl ?_
      refine V.aload_n (r := 28) hC 0 dX9_endsPiece_27 rfl rfl ?_
      refine V.getI (b := 168) (i := 0) (j := 8) (r := 31) hC xcl_9 sh_154 fl_RX9_150 dX9_endsPiece_28 (by decide) rfl rfl ?_
      refine V.iconst (r := 32) hC dX9_endsPiece_31 ki_1 rfl ?_
      refine V.isub (r := 33) hC dX9_endsPiece_32 rfl ?_
      rw [mset_eq] at h
      refine V.putI (b := 168) (i := 0) (j := 8) (ty := .int) (r := 36) hC xcl_9 xcp_9 sh_154 fl_RX9_150 dX9_endsPiece_33 (by decide) rfl rfl (by decide +kernel) rfl rfl rfl ?_
      generalize upM M6 168 0 ((M6 168 0) - (1 : Int32)) = M7 at h ⊢
      refine V.goto (tgt := 0) hC dX9_endsPiece_36 (by decide) ?_
      exact ih _ h
def g9_endsPiece (M : xMem) : Option (xMem) :=
g9_endsPiece_b0 5000 M
set_option maxHeartbeats 4000000 in
set_option maxRecDepth 20000 in
theorem v9_endsPiece {G : xG} (hC : xC G cX9_endsPiece 1 RX9 1) {R : xMem} (hR : xRV G cX9_endsPiece 1 R) {M : xMem} (h : g9_endsPiece M = some R) : V G 1 0 [(0, .inr 154)] [] M := by
  unfold g9_endsPiece at h
  exact v9_endsPiece_b0  hC hR  5000 _ h
theorem met9_endsPiece {R : xMem} {M : xMem} (h : g9_endsPiece M = some R) : xMet yX9_endsPiece cX9_endsPiece 1 none 1 [.inr 154] M none R := xMet.ofV (by decide +kernel) (Nat.le_of_ble_eq_true rfl) fun _ hC hR => v9_endsPiece  hC hR h
def g9_lands_b22 (k0 : Int32 → xMem → Option (xMem)) (x1 : Int32) (M : xMem) : Option (xMem) :=
if ((M 170 0) - (1 : Int32)) < 0 ∨ 260 ≤ ((M 170 0) - (1 : Int32)).toNatClampNeg then none else
if ((M 175 ((M 170 0) - (1 : Int32)).toNatClampNeg) - (M 175 ((M 170 0) - (1 : Int32)).toNatClampNeg) / (1048576 : Int32) * (1048576 : Int32)) < 0 ∨ 260 ≤ ((M 175 ((M 170 0) - (1 : Int32)).toNatClampNeg) - (M 175 ((M 170 0) - (1 : Int32)).toNatClampNeg) / (1048576 : Int32) * (1048576 : Int32)).toNatClampNeg then none else
mset (upM M 174 ((M 175 ((M 170 0) - (1 : Int32)).toNatClampNeg) - (M 175 ((M 170 0) - (1 : Int32)).toNatClampNeg) / (1048576 : Int32) * (1048576 : Int32)).toNatClampNeg (((1048576 : Int32) * ((M 174 ((M 175 ((M 170 0) - (1 : Int32)).toNatClampNeg) - (M 175 ((M 170 0) - (1 : Int32)).toNatClampNeg) / (1048576 : Int32) * (1048576 : Int32)).toNatClampNeg) / (1048576 : Int32))) + (M 169 0))) fun M10 =>
mset (upM M10 170 0 ((M10 170 0) - (1 : Int32))) fun M11 =>
k0 x1 M11
set_option maxHeartbeats 4000000 in
set_option maxRecDepth 20000 in
theorem v9_lands_b22 {G : xG} (hC : xC G cX9_lands 3 RX9 1) {R : xMem} (hR : xRV G cX9_lands 3 R) {k0 : Int32 → xMem → Option (xMem)} (hk0 : ∀ (y1 : Int32) (N : xMem), k0 y1 N = some R → V G 3 0 [(0, .inr 154), (1, .inl y1)] [] N) (x1 : Int32) (M : xMem) (h : g9_lands_b22 k0 x1 M = some R) : V G 3 22 [(0, .inr 154), (1, .inl x1)] [] M := by
  unfold g9_lands_b22 at h
  refine V.aload_n (r := 23) hC 0 dX9_lands_22 rfl rfl ?_
  refine V.getR (k' := 160) (j := 15) (r := 26) hC xcl_9 sh_154 fl_RX9_26 dX9_lands_23 (by decide) rfl rfl ?_
  refine V.aload_n (r := 27) hC 0 dX9_lands_26 rfl rfl ?_
  refine V.getI (b := 170) (i := 0) (j := 10) (r := 30) hC xcl_9 sh_154 fl_RX9_153 dX9_lands_27 (by decide) rfl rfl ?_
  refine V.iconst (r := 31) hC dX9_lands_30 ki_1 rfl ?_
  refine V.isub (r := 32) hC dX9_lands_31 rfl ?_
  by_cases c8 : ((M 170 0) - (1 : Int32)) < 0 ∨ 260 ≤ ((M 170 0) - (1 : Int32)).toNatClampNeg
  · rw [if_pos c8] at h; cases h
  rw [if_neg c8] at h
  refine V.iald (t := ((M 170 0) - (1 : Int32)).toNatClampNeg) (r := 33) hC sh_160 dX9_lands_32 c8 (Nat.zero_add _) rfl ?_
  refine V.ldc (r := 35) hC dX9_lands_33 co_RX9_149 rfl ?_
  refine V.irem (r := 36) hC dX9_lands_35 (by decide) rfl ?_
  refine V.ist_n (lv' := [(0, .inr 154), (1, .inl x1), (2, .inl ((M 175 ((M 170 0) - (1 : Int32)).toNatClampNeg) - (M 175 ((M 170 0) - (1 : Int32)).toNatClampNeg) / (1048576 : Int32) * (1048576 : Int32)))]) (r := 37) hC dX9_lands_36 rfl rfl rfl ?_
  refine V.aload_n (r := 38) hC 0 dX9_lands_37 rfl rfl ?_
  refine V.getR (k' := 159) (j := 14) (r := 41) hC xcl_9 sh_154 fl_RX9_23 dX9_lands_38 (by decide) rfl rfl ?_
  refine V.iload_n (r := 42) hC 2 dX9_lands_41 rfl rfl ?_
  refine V.ldc (r := 44) hC dX9_lands_42 co_RX9_149 rfl ?_
  refine V.aload_n (r := 45) hC 0 dX9_lands_44 rfl rfl ?_
  refine V.getR (k' := 159) (j := 14) (r := 48) hC xcl_9 sh_154 fl_RX9_23 dX9_lands_45 (by decide) rfl rfl ?_
  refine V.iload_n (r := 49) hC 2 dX9_lands_48 rfl rfl ?_
  by_cases c9 : ((M 175 ((M 170 0) - (1 : Int32)).toNatClampNeg) - (M 175 ((M 170 0) - (1 : Int32)).toNatClampNeg) / (1048576 : Int32) * (1048576 : Int32)) < 0 ∨ 260 ≤ ((M 175 ((M 170 0) - (1 : Int32)).toNatClampNeg) - (M 175 ((M 170 0) - (1 : Int32)).toNatClampNeg) / (1048576 : Int32) * (1048576 : Int32)).toNatClampNeg
  · rw [if_pos c9] at h; cases h
  rw [if_neg c9] at h
  refine V.iald (t := ((M 175 ((M 170 0) - (1 : Int32)).toNatClampNeg) - (M 175 ((M 170 0) - (1 : Int32)).toNatClampNeg) / (1048576 : Int32) * (1048576 : Int32)).toNatClampNeg) (r := 50) hC sh_159 dX9_lands_49 c9 (Nat.zero_add _) rfl ?_
  refine V.ldc (r := 52) hC dX9_lands_50 co_RX9_149 rfl ?_
  refine V.idiv (r := 53) hC dX9_lands_52 (by decide) rfl ?_
  refine V.imul (r := 54) hC dX9_lands_53 rfl ?_
  refine V.aload_n (r := 55) hC 0 dX9_lands_54 rfl rfl ?_
  refine V.getI (b := 169) (i := 0) (j := 9) (r := 58) hC xcl_9 sh_154 fl_RX9_146 dX9_lands_55 (by decide) rfl rfl ?_
  refine V.iadd (r := 59) hC dX9_lands_58 rfl ?_
  rw [mset_eq] at h
  refine V.iast (t := ((M 175 ((M 170 0) - (1 : Int32)).toNatClampNeg) - (M 175 ((M 170 0) - (1 : Int32)).toNatClampNeg) / (1048576 : Int32) * (1048576 : Int32)).toNatClampNeg) (r := 60) hC sh_159 dX9_lands_59 c9 (Nat.zero_add _) rfl ?_
  generalize upM M 174 ((M 175 ((M 170 0) - (1 : Int32)).toNatClampNeg) - (M 175 ((M 170 0) - (1 : Int32)).toNatClampNeg) / (1048576 : Int32) * (1048576 : Int32)).toNatClampNeg (((1048576 : Int32) * ((M 174 ((M 175 ((M 170 0) - (1 : Int32)).toNatClampNeg) - (M 175 ((M 170 0) - (1 : Int32)).toNatClampNeg) / (1048576 : Int32) * (1048576 : Int32)).toNatClampNeg) / (1048576 : Int32))) + (M 169 0)) = M10 at h ⊢
  refine V.aload_n (r := 61) hC 0 dX9_lands_60 rfl rfl ?_
  refine V.aload_n (r := 62) hC 0 dX9_lands_61 rfl rfl ?_
  refine V.getI (b := 170) (i := 0) (j := 10) (r := 65) hC xcl_9 sh_154 fl_RX9_153 dX9_lands_62 (by decide) rfl rfl ?_
  refine V.iconst (r := 66) hC dX9_lands_65 ki_1 rfl ?_
  refine V.isub (r := 67) hC dX9_lands_66 rfl ?_
  rw [mset_eq] at h
  refine V.putI (b := 170) (i := 0) (j := 10) (ty := .int) (r := 70) hC xcl_9 xcp_9 sh_154 fl_RX9_153 dX9_lands_67 (by decide) rfl rfl (by decide +kernel) rfl rfl rfl ?_
  generalize upM M10 170 0 ((M10 170 0) - (1 : Int32)) = M11 at h ⊢
  refine V.goto (tgt := 0) hC dX9_lands_70 (by decide) ?_
  refine V.pick (lv' := [(0, .inr 154), (1, .inl x1)]) [0, 1] rfl ?_
  exact hk0 _ _ h
def g9_lands_b0 : Nat → Int32 → xMem → Option (xMem)
  | 0, _, _ => none
  | n + 1, x1, M => 
    (Option.bind (g9_waitTop M) fun q1 =>
    if (q1.1) = (11 : Int32) then
    (g9_lands_b22 (g9_lands_b0 n) x1 q1.2)
    else
    (if x1 = 0 then
    (some q1.2)
    else
    (Option.bind (g9_waitTop q1.2) fun q5 =>
    if (q5.1) = (12 : Int32) then
    (g9_lands_b22 (g9_lands_b0 n) x1 q5.2)
    else
    (some q5.2))))
set_option maxHeartbeats 4000000 in
set_option maxRecDepth 20000 in
theorem v9_lands_b0 {G : xG} (hC : xC G cX9_lands 3 RX9 1) {R : xMem} (hR : xRV G cX9_lands 3 R) : ∀ (n : Nat) (x1 : Int32) (M : xMem), g9_lands_b0 n x1 M = some R → V G 3 0 [(0, .inr 154), (1, .inl x1)] [] M := by
  intro n
  induction n with
  | zero => intro x1 M h; rw [g9_lands_b0] at h; cases h
  | succ n ih =>
    intro x1 M h
    rw [g9_lands_b0] at h
    refine V.aload_n (r := 1) hC 0 dX9_lands_0 rfl rfl ?_
    obtain ⟨q1, hq2, h⟩ := Option.bind_eq_some_iff.mp h
    try dsimp only at h
    refine V.invVi (as := []) (st := []) (r := 4) hC (met9_waitTop hq2) yv_X9_waitTop ml_RX9_156 sh_154 rfl rfl dX9_lands_1 (by decide) rfl rfl rfl rfl ?_
    refine V.bipush (r := 6) hC dX9_lands_4 kb_11 rfl ?_
    refine V.icmp_eq (tgt := 22) (r := 9) hC dX9_lands_6 (by decide) rfl (fun c3 => ?_) (fun c3 => ?_)
    · rw [if_pos c3] at h
      exact v9_lands_b22  hC hR ih _ _ h
    · rw [if_neg c3] at h
      refine V.iload_n (r := 10) hC 1 dX9_lands_9 rfl rfl ?_
      refine V.if_eq (tgt := 73) (r := 13) hC dX9_lands_10 (by decide) rfl (fun c4 => ?_) (fun c4 => ?_)
      · rw [if_pos c4] at h
        cases h
        exact hR _ _ dX9_lands_73
      · rw [if_neg c4] at h
        refine V.aload_n (r := 14) hC 0 dX9_lands_13 rfl rfl ?_
        obtain ⟨q5, hq6, h⟩ := Option.bind_eq_some_iff.mp h
        try dsimp only at h
        refine V.invVi (as := []) (st := []) (r := 17) hC (met9_waitTop hq6) yv_X9_waitTop ml_RX9_156 sh_154 rfl rfl dX9_lands_14 (by decide) rfl rfl rfl rfl ?_
        refine V.bipush (r := 19) hC dX9_lands_17 kb_12 rfl ?_
        refine V.icmp_ne (tgt := 73) (r := 22) hC dX9_lands_19 (by decide) rfl (fun c7 => ?_) (fun c7 => ?_)
        · rw [if_neg c7] at h
          cases h
          exact hR _ _ dX9_lands_73
        · rw [if_pos c7] at h
          exact v9_lands_b22  hC hR ih _ _ h
def g9_lands (a0 : Int32) (M : xMem) : Option (xMem) :=
g9_lands_b0 5000 a0 M
set_option maxHeartbeats 4000000 in
set_option maxRecDepth 20000 in
theorem v9_lands {G : xG} (hC : xC G cX9_lands 3 RX9 1) {R : xMem} (hR : xRV G cX9_lands 3 R) {a0 : Int32} {M : xMem} (h : g9_lands a0 M = some R) : V G 3 0 [(0, .inr 154), (1, .inl a0)] [] M := by
  unfold g9_lands at h
  exact v9_lands_b0  hC hR  5000 _ _ h
theorem met9_lands {R : xMem} {a0 : Int32} {M : xMem} (h : g9_lands a0 M = some R) : xMet yX9_lands cX9_lands 3 none 1 [.inr 154, .inl a0] M none R := xMet.ofV (by decide +kernel) (Nat.le_of_ble_eq_true rfl) fun _ hC hR => v9_lands  hC hR h
def g9_jumps (a0 : Int32) (M : xMem) : Option (xMem) :=
if (M 170 0) < 0 ∨ 260 ≤ (M 170 0).toNatClampNeg then none else
mset (upM M 175 (M 170 0).toNatClampNeg (((1048576 : Int32) * a0) + (M 169 0))) fun M2 =>
mset (upM M2 170 0 ((M2 170 0) + (1 : Int32))) fun M3 =>
Option.bind (g9_notes a0 (0 : Int32) M3) fun q4 =>
mset (upM q4 165 0 ((q4 165 0) + (1 : Int32))) fun M6 =>
some M6
set_option maxHeartbeats 4000000 in
set_option maxRecDepth 20000 in
theorem v9_jumps {G : xG} (hC : xC G cX9_jumps 2 RX9 1) {R : xMem} (hR : xRV G cX9_jumps 2 R) {a0 : Int32} {M : xMem} (h : g9_jumps a0 M = some R) : V G 2 0 [(0, .inr 154), (1, .inl a0)] [] M := by
  unfold g9_jumps at h
  refine V.aload_n (r := 1) hC 0 dX9_jumps_0 rfl rfl ?_
  refine V.getR (k' := 160) (j := 15) (r := 4) hC xcl_9 sh_154 fl_RX9_26 dX9_jumps_1 (by decide) rfl rfl ?_
  refine V.aload_n (r := 5) hC 0 dX9_jumps_4 rfl rfl ?_
  refine V.getI (b := 170) (i := 0) (j := 10) (r := 8) hC xcl_9 sh_154 fl_RX9_153 dX9_jumps_5 (by decide) rfl rfl ?_
  refine V.ldc (r := 10) hC dX9_jumps_8 co_RX9_149 rfl ?_
  refine V.iload_n (r := 11) hC 1 dX9_jumps_10 rfl rfl ?_
  refine V.imul (r := 12) hC dX9_jumps_11 rfl ?_
  refine V.aload_n (r := 13) hC 0 dX9_jumps_12 rfl rfl ?_
  refine V.getI (b := 169) (i := 0) (j := 9) (r := 16) hC xcl_9 sh_154 fl_RX9_146 dX9_jumps_13 (by decide) rfl rfl ?_
  refine V.iadd (r := 17) hC dX9_jumps_16 rfl ?_
  by_cases c1 : (M 170 0) < 0 ∨ 260 ≤ (M 170 0).toNatClampNeg
  · rw [if_pos c1] at h; cases h
  rw [if_neg c1] at h
  rw [mset_eq] at h
  refine V.iast (t := (M 170 0).toNatClampNeg) (r := 18) hC sh_160 dX9_jumps_17 c1 (Nat.zero_add _) rfl ?_
  generalize upM M 175 (M 170 0).toNatClampNeg (((1048576 : Int32) * a0) + (M 169 0)) = M2 at h ⊢
  refine V.aload_n (r := 19) hC 0 dX9_jumps_18 rfl rfl ?_
  refine V.aload_n (r := 20) hC 0 dX9_jumps_19 rfl rfl ?_
  refine V.getI (b := 170) (i := 0) (j := 10) (r := 23) hC xcl_9 sh_154 fl_RX9_153 dX9_jumps_20 (by decide) rfl rfl ?_
  refine V.iconst (r := 24) hC dX9_jumps_23 ki_1 rfl ?_
  refine V.iadd (r := 25) hC dX9_jumps_24 rfl ?_
  rw [mset_eq] at h
  refine V.putI (b := 170) (i := 0) (j := 10) (ty := .int) (r := 28) hC xcl_9 xcp_9 sh_154 fl_RX9_153 dX9_jumps_25 (by decide) rfl rfl (by decide +kernel) rfl rfl rfl ?_
  generalize upM M2 170 0 ((M2 170 0) + (1 : Int32)) = M3 at h ⊢
  refine V.aload_n (r := 29) hC 0 dX9_jumps_28 rfl rfl ?_
  refine V.iload_n (r := 30) hC 1 dX9_jumps_29 rfl rfl ?_
  refine V.iconst (r := 31) hC dX9_jumps_30 ki_0 rfl ?_
  obtain ⟨q4, hq5, h⟩ := Option.bind_eq_some_iff.mp h
  try dsimp only at h
  refine V.invVv (as := [.inl a0, .inl (0 : Int32)]) (st := []) (r := 34) hC (met9_notes hq5) yv_X9_notes ml_RX9_159 sh_154 rfl rfl dX9_jumps_31 (by decide) rfl rfl rfl rfl ?_
  refine V.aload_n (r := 35) hC 0 dX9_jumps_34 rfl rfl ?_
  refine V.aload_n (r := 36) hC 0 dX9_jumps_35 rfl rfl ?_
  refine V.getI (b := 165) (i := 0) (j := 5) (r := 39) hC xcl_9 sh_154 fl_RX9_123 dX9_jumps_36 (by decide) rfl rfl ?_
  refine V.iconst (r := 40) hC dX9_jumps_39 ki_1 rfl ?_
  refine V.iadd (r := 41) hC dX9_jumps_40 rfl ?_
  rw [mset_eq] at h
  refine V.putI (b := 165) (i := 0) (j := 5) (ty := .int) (r := 44) hC xcl_9 xcp_9 sh_154 fl_RX9_123 dX9_jumps_41 (by decide) rfl rfl (by decide +kernel) rfl rfl rfl ?_
  generalize upM q4 165 0 ((q4 165 0) + (1 : Int32)) = M6 at h ⊢
  cases h
  exact hR _ _ dX9_jumps_44
theorem met9_jumps {R : xMem} {a0 : Int32} {M : xMem} (h : g9_jumps a0 M = some R) : xMet yX9_jumps cX9_jumps 2 none 1 [.inr 154, .inl a0] M none R := xMet.ofV (by decide +kernel) (Nat.le_of_ble_eq_true rfl) fun _ hC hR => v9_jumps  hC hR h
def g9_readsCompared_b52 (s0 : Int32) (M : xMem) : Option (Int32 × xMem) :=
if s0 = (-1 : Int32) then
(Option.bind (g9_wrongAt (1 : Int32) (M 165 0) M) fun q22 =>
if (q22.1) = 0 ∨ (q22.1) = 1 then
some (q22.1, q22.2)
else none)
else
(mset (upM M 165 0 ((M 165 0) + (1 : Int32))) fun M14 =>
Option.bind (g9_readsSum M14) fun q15 =>
if (q15.1) = 0 then
(some ((0 : Int32), q15.2))
else
(Option.bind (g9_notes s0 (0 : Int32) q15.2) fun q18 =>
Option.bind (g9_endsPiece q18) fun q20 =>
some ((1 : Int32), q20)))
set_option maxHeartbeats 4000000 in
set_option maxRecDepth 20000 in
theorem v9_readsCompared_b52 {G : xG} (hC : xC G cX9_readsCompared 2 RX9 5) {R : Int32 × xMem} (hR : xRZ G cX9_readsCompared 2 R) (s0 : Int32) (M : xMem) (h : g9_readsCompared_b52 s0 M = some R) : V G 2 52 [(0, .inr 154)] [.inl s0] M := by
  unfold g9_readsCompared_b52 at h
  refine V.ist_n (lv' := [(0, .inr 154), (1, .inl s0)]) (r := 53) hC dX9_readsCompared_52 rfl rfl rfl ?_
  refine V.iload_n (r := 54) hC 1 dX9_readsCompared_53 rfl rfl ?_
  refine V.iconst (r := 55) hC dX9_readsCompared_54 ki_m1 rfl ?_
  refine V.icmp_ne (tgt := 68) (r := 58) hC dX9_readsCompared_55 (by decide) rfl (fun c13 => ?_) (fun c13 => ?_)
  · rw [if_neg c13] at h
    refine V.aload_n (r := 69) hC 0 dX9_readsCompared_68 rfl rfl ?_
    refine V.aload_n (r := 70) hC 0 dX9_readsCompared_69 rfl rfl ?_
    refine V.getI (b := 165) (i := 0) (j := 5) (r := 73) hC xcl_9 sh_154 fl_RX9_123 dX9_readsCompared_70 (by decide) rfl rfl ?_
    refine V.iconst (r := 74) hC dX9_readsCompared_73 ki_1 rfl ?_
    refine V.iadd (r := 75) hC dX9_readsCompared_74 rfl ?_
    rw [mset_eq] at h
    refine V.putI (b := 165) (i := 0) (j := 5) (ty := .int) (r := 78) hC xcl_9 xcp_9 sh_154 fl_RX9_123 dX9_readsCompared_75 (by decide) rfl rfl (by decide +kernel) rfl rfl rfl ?_
    generalize upM M 165 0 ((M 165 0) + (1 : Int32)) = M14 at h ⊢
    refine V.aload_n (r := 79) hC 0 dX9_readsCompared_78 rfl rfl ?_
    obtain ⟨q15, hq16, h⟩ := Option.bind_eq_some_iff.mp h
    try dsimp only at h
    refine V.invVi (as := []) (st := []) (r := 82) hC (met9_readsSum hq16) yv_X9_readsSum ml_RX9_185 sh_154 rfl rfl dX9_readsCompared_79 (by decide) rfl rfl rfl rfl ?_
    refine V.if_ne (tgt := 87) (r := 85) hC dX9_readsCompared_82 (by decide) rfl (fun c17 => ?_) (fun c17 => ?_)
    · rw [if_neg c17] at h
      refine V.aload_n (r := 88) hC 0 dX9_readsCompared_87 rfl rfl ?_
      refine V.iload_n (r := 89) hC 1 dX9_readsCompared_88 rfl rfl ?_
      refine V.iconst (r := 90) hC dX9_readsCompared_89 ki_0 rfl ?_
      obtain ⟨q18, hq19, h⟩ := Option.bind_eq_some_iff.mp h
      try dsimp only at h
      refine V.invVv (as := [.inl s0, .inl (0 : Int32)]) (st := []) (r := 93) hC (met9_notes hq19) yv_X9_notes ml_RX9_159 sh_154 rfl rfl dX9_readsCompared_90 (by decide) rfl rfl rfl rfl ?_
      refine V.aload_n (r := 94) hC 0 dX9_readsCompared_93 rfl rfl ?_
      obtain ⟨q20, hq21, h⟩ := Option.bind_eq_some_iff.mp h
      try dsimp only at h
      refine V.invVv (as := []) (st := []) (r := 97) hC (met9_endsPiece hq21) yv_X9_endsPiece ml_RX9_188 sh_154 rfl rfl dX9_readsCompared_94 (by decide) rfl rfl rfl rfl ?_
      refine V.iconst (r := 98) hC dX9_readsCompared_97 ki_1 rfl ?_
      cases h
      exact hR _ _ (Or.inr rfl) dX9_readsCompared_98
    · rw [if_pos c17] at h
      refine V.iconst (r := 86) hC dX9_readsCompared_85 ki_0 rfl ?_
      cases h
      exact hR _ _ (Or.inl rfl) dX9_readsCompared_86
  · rw [if_pos c13] at h
    refine V.aload_n (r := 59) hC 0 dX9_readsCompared_58 rfl rfl ?_
    refine V.iconst (r := 60) hC dX9_readsCompared_59 ki_1 rfl ?_
    refine V.aload_n (r := 61) hC 0 dX9_readsCompared_60 rfl rfl ?_
    refine V.getI (b := 165) (i := 0) (j := 5) (r := 64) hC xcl_9 sh_154 fl_RX9_123 dX9_readsCompared_61 (by decide) rfl rfl ?_
    obtain ⟨q22, hq23, h⟩ := Option.bind_eq_some_iff.mp h
    try dsimp only at h
    refine V.invVi (as := [.inl (1 : Int32), .inl (M 165 0)]) (st := []) (r := 67) hC (met9_wrongAt hq23) yv_X9_wrongAt ml_RX9_136 sh_154 rfl rfl dX9_readsCompared_64 (by decide) rfl rfl rfl rfl ?_
    by_cases c24 : ¬ ((q22.1) = 0 ∨ (q22.1) = 1)
    · rw [if_neg c24] at h; cases h
    replace c24 := Classical.not_not.mp c24
    rw [if_pos c24] at h
    cases h
    exact hR _ _ c24 dX9_readsCompared_67
def g9_readsCompared (M : xMem) : Option (Int32 × xMem) :=
Option.bind (g9_readsSum M) fun q1 =>
if (q1.1) = 0 then
(some ((0 : Int32), q1.2))
else
(Option.bind (g9_here q1.2) fun q4 =>
if (q4.1) = (60 : Int32) then
(g9_readsCompared_b52 (7 : Int32) q4.2)
else
(Option.bind (g9_here q4.2) fun q7 =>
if (q7.1) = (62 : Int32) then
(g9_readsCompared_b52 (8 : Int32) q7.2)
else
(Option.bind (g9_here q7.2) fun q10 =>
if (q10.1) = (61 : Int32) then
(g9_readsCompared_b52 (9 : Int32) q10.2)
else
(g9_readsCompared_b52 (-1 : Int32) q10.2))))
set_option maxHeartbeats 4000000 in
set_option maxRecDepth 20000 in
theorem v9_readsCompared {G : xG} (hC : xC G cX9_readsCompared 2 RX9 5) {R : Int32 × xMem} (hR : xRZ G cX9_readsCompared 2 R) {M : xMem} (h : g9_readsCompared M = some R) : V G 2 0 [(0, .inr 154)] [] M := by
  unfold g9_readsCompared at h
  refine V.aload_n (r := 1) hC 0 dX9_readsCompared_0 rfl rfl ?_
  obtain ⟨q1, hq2, h⟩ := Option.bind_eq_some_iff.mp h
  try dsimp only at h
  refine V.invVi (as := []) (st := []) (r := 4) hC (met9_readsSum hq2) yv_X9_readsSum ml_RX9_185 sh_154 rfl rfl dX9_readsCompared_1 (by decide) rfl rfl rfl rfl ?_
  refine V.if_ne (tgt := 9) (r := 7) hC dX9_readsCompared_4 (by decide) rfl (fun c3 => ?_) (fun c3 => ?_)
  · rw [if_neg c3] at h
    refine V.aload_n (r := 10) hC 0 dX9_readsCompared_9 rfl rfl ?_
    obtain ⟨q4, hq5, h⟩ := Option.bind_eq_some_iff.mp h
    try dsimp only at h
    refine V.invVi (as := []) (st := []) (r := 13) hC (met9_here hq5) yv_X9_here ml_RX9_129 sh_154 rfl rfl dX9_readsCompared_10 (by decide) rfl rfl rfl rfl ?_
    refine V.bipush (r := 15) hC dX9_readsCompared_13 kb_60 rfl ?_
    refine V.icmp_ne (tgt := 23) (r := 18) hC dX9_readsCompared_15 (by decide) rfl (fun c6 => ?_) (fun c6 => ?_)
    · rw [if_neg c6] at h
      refine V.aload_n (r := 24) hC 0 dX9_readsCompared_23 rfl rfl ?_
      obtain ⟨q7, hq8, h⟩ := Option.bind_eq_some_iff.mp h
      try dsimp only at h
      refine V.invVi (as := []) (st := []) (r := 27) hC (met9_here hq8) yv_X9_here ml_RX9_129 sh_154 rfl rfl dX9_readsCompared_24 (by decide) rfl rfl rfl rfl ?_
      refine V.bipush (r := 29) hC dX9_readsCompared_27 kb_62 rfl ?_
      refine V.icmp_ne (tgt := 37) (r := 32) hC dX9_readsCompared_29 (by decide) rfl (fun c9 => ?_) (fun c9 => ?_)
      · rw [if_neg c9] at h
        refine V.aload_n (r := 38) hC 0 dX9_readsCompared_37 rfl rfl ?_
        obtain ⟨q10, hq11, h⟩ := Option.bind_eq_some_iff.mp h
        try dsimp only at h
        refine V.invVi (as := []) (st := []) (r := 41) hC (met9_here hq11) yv_X9_here ml_RX9_129 sh_154 rfl rfl dX9_readsCompared_38 (by decide) rfl rfl rfl rfl ?_
        refine V.bipush (r := 43) hC dX9_readsCompared_41 kb_61 rfl ?_
        refine V.icmp_ne (tgt := 51) (r := 46) hC dX9_readsCompared_43 (by decide) rfl (fun c12 => ?_) (fun c12 => ?_)
        · rw [if_neg c12] at h
          refine V.iconst (r := 52) hC dX9_readsCompared_51 ki_m1 rfl ?_
          exact v9_readsCompared_b52  hC hR  _ _ h
        · rw [if_pos c12] at h
          refine V.bipush (r := 48) hC dX9_readsCompared_46 kb_9 rfl ?_
          refine V.goto (tgt := 52) hC dX9_readsCompared_48 (by decide) ?_
          exact v9_readsCompared_b52  hC hR  _ _ h
      · rw [if_pos c9] at h
        refine V.bipush (r := 34) hC dX9_readsCompared_32 kb_8 rfl ?_
        refine V.goto (tgt := 52) hC dX9_readsCompared_34 (by decide) ?_
        exact v9_readsCompared_b52  hC hR  _ _ h
    · rw [if_pos c6] at h
      refine V.bipush (r := 20) hC dX9_readsCompared_18 kb_7 rfl ?_
      refine V.goto (tgt := 52) hC dX9_readsCompared_20 (by decide) ?_
      exact v9_readsCompared_b52  hC hR  _ _ h
  · rw [if_pos c3] at h
    refine V.iconst (r := 8) hC dX9_readsCompared_7 ki_0 rfl ?_
    cases h
    exact hR _ _ (Or.inl rfl) dX9_readsCompared_8
theorem met9_readsCompared {R : Int32 × xMem} {M : xMem} (h : g9_readsCompared M = some R) : xMet yX9_readsCompared cX9_readsCompared 2 (some .boolean) 5 [.inr 154] M (some R.1) R.2 := xMet.ofZ (by decide +kernel) (Nat.le_of_ble_eq_true rfl) fun _ hC hR => v9_readsCompared  hC hR h
def g9_readsCondition_b75 (k40 : xMem → Option (Int32 × xMem)) (s1 : Int32) (M : xMem) : Option (Int32 × xMem) :=
Option.bind (g9_opens s1 M) fun q54 =>
if (q54.1) = 0 then
(some ((0 : Int32), q54.2))
else
(k40 q54.2)
set_option maxHeartbeats 4000000 in
set_option maxRecDepth 20000 in
theorem v9_readsCondition_b75 {G : xG} (hC : xC G cX9_readsCondition 1 RX9 6) {R : Int32 × xMem} (hR : xRZ G cX9_readsCondition 1 R) {k40 : xMem → Option (Int32 × xMem)} (hk40 : ∀ (N : xMem), k40 N = some R → V G 1 40 [(0, .inr 154)] [] N) (s1 : Int32) (M : xMem) (h : g9_readsCondition_b75 k40 s1 M = some R) : V G 1 75 [(0, .inr 154)] [.inl s1, .inr 154] M := by
  unfold g9_readsCondition_b75 at h
  obtain ⟨q54, hq55, h⟩ := Option.bind_eq_some_iff.mp h
  try dsimp only at h
  refine V.invVi (as := [.inl s1]) (st := []) (r := 78) hC (met9_opens hq55) yv_X9_opens ml_RX9_163 sh_154 rfl rfl dX9_readsCondition_75 (by decide) rfl rfl rfl rfl ?_
  refine V.if_ne (tgt := 40) (r := 81) hC dX9_readsCondition_78 (by decide) rfl (fun c56 => ?_) (fun c56 => ?_)
  · rw [if_neg c56] at h
    exact hk40 _ h
  · rw [if_pos c56] at h
    refine V.iconst (r := 82) hC dX9_readsCondition_81 ki_0 rfl ?_
    cases h
    exact hR _ _ (Or.inl rfl) dX9_readsCondition_82
def g9_readsCondition_b58 (k40 : xMem → Option (Int32 × xMem)) (M : xMem) : Option (Int32 × xMem) :=
Option.bind (g9_here M) fun q51 =>
if (q51.1) = (33 : Int32) then
(g9_readsCondition_b75 k40 (10 : Int32) q51.2)
else
(g9_readsCondition_b75 k40 (13 : Int32) q51.2)
set_option maxHeartbeats 4000000 in
set_option maxRecDepth 20000 in
theorem v9_readsCondition_b58 {G : xG} (hC : xC G cX9_readsCondition 1 RX9 6) {R : Int32 × xMem} (hR : xRZ G cX9_readsCondition 1 R) {k40 : xMem → Option (Int32 × xMem)} (hk40 : ∀ (N : xMem), k40 N = some R → V G 1 40 [(0, .inr 154)] [] N) (M : xMem) (h : g9_readsCondition_b58 k40 M = some R) : V G 1 58 [(0, .inr 154)] [] M := by
  unfold g9_readsCondition_b58 at h
  refine V.aload_n (r := 59) hC 0 dX9_readsCondition_58 rfl rfl ?_
  refine V.aload_n (r := 60) hC 0 dX9_readsCondition_59 rfl rfl ?_
  obtain ⟨q51, hq52, h⟩ := Option.bind_eq_some_iff.mp h
  try dsimp only at h
  refine V.invVi (as := []) (st := [.inr 154]) (r := 63) hC (met9_here hq52) yv_X9_here ml_RX9_129 sh_154 rfl rfl dX9_readsCondition_60 (by decide) rfl rfl rfl rfl ?_
  refine V.bipush (r := 65) hC dX9_readsCondition_63 kb_33 rfl ?_
  refine V.icmp_ne (tgt := 73) (r := 68) hC dX9_readsCondition_65 (by decide) rfl (fun c53 => ?_) (fun c53 => ?_)
  · rw [if_neg c53] at h
    refine V.bipush (r := 75) hC dX9_readsCondition_73 kb_13 rfl ?_
    exact v9_readsCondition_b75  hC hR hk40 _ _ h
  · rw [if_pos c53] at h
    refine V.bipush (r := 70) hC dX9_readsCondition_68 kb_10 rfl ?_
    refine V.goto (tgt := 75) hC dX9_readsCondition_70 (by decide) ?_
    exact v9_readsCondition_b75  hC hR hk40 _ _ h
def g9_readsCondition_b215 (k40 : xMem → Option (Int32 × xMem)) (s1 : Int32) (M : xMem) : Option (Int32 × xMem) :=
Option.bind (g9_jumps s1 M) fun q49 =>
k40 q49
set_option maxHeartbeats 4000000 in
set_option maxRecDepth 20000 in
theorem v9_readsCondition_b215 {G : xG} (hC : xC G cX9_readsCondition 1 RX9 6) {R : Int32 × xMem} (hR : xRZ G cX9_readsCondition 1 R) {k40 : xMem → Option (Int32 × xMem)} (hk40 : ∀ (N : xMem), k40 N = some R → V G 1 40 [(0, .inr 154)] [] N) (s1 : Int32) (M : xMem) (h : g9_readsCondition_b215 k40 s1 M = some R) : V G 1 215 [(0, .inr 154)] [.inl s1, .inr 154] M := by
  unfold g9_readsCondition_b215 at h
  obtain ⟨q49, hq50, h⟩ := Option.bind_eq_some_iff.mp h
  try dsimp only at h
  refine V.invVv (as := [.inl s1]) (st := []) (r := 218) hC (met9_jumps hq50) yv_X9_jumps ml_RX9_197 sh_154 rfl rfl dX9_readsCondition_215 (by decide) rfl rfl rfl rfl ?_
  refine V.goto (tgt := 40) hC dX9_readsCondition_218 (by decide) ?_
  exact hk40 _ h
def g9_readsCondition_b195 (k40 : xMem → Option (Int32 × xMem)) (s1 : Int32) (M : xMem) : Option (Int32 × xMem) :=
Option.bind (g9_lands s1 M) fun q44 =>
Option.bind (g9_here q44) fun q46 =>
if (q46.1) = (38 : Int32) then
(g9_readsCondition_b215 k40 (11 : Int32) q46.2)
else
(g9_readsCondition_b215 k40 (12 : Int32) q46.2)
set_option maxHeartbeats 4000000 in
set_option maxRecDepth 20000 in
theorem v9_readsCondition_b195 {G : xG} (hC : xC G cX9_readsCondition 1 RX9 6) {R : Int32 × xMem} (hR : xRZ G cX9_readsCondition 1 R) {k40 : xMem → Option (Int32 × xMem)} (hk40 : ∀ (N : xMem), k40 N = some R → V G 1 40 [(0, .inr 154)] [] N) (s1 : Int32) (M : xMem) (h : g9_readsCondition_b195 k40 s1 M = some R) : V G 1 195 [(0, .inr 154)] [.inl s1, .inr 154] M := by
  unfold g9_readsCondition_b195 at h
  obtain ⟨q44, hq45, h⟩ := Option.bind_eq_some_iff.mp h
  try dsimp only at h
  refine V.invVv (as := [.inl s1]) (st := []) (r := 198) hC (met9_lands hq45) yv_X9_lands ml_RX9_194 sh_154 rfl rfl dX9_readsCondition_195 (by decide) rfl rfl rfl rfl ?_
  refine V.aload_n (r := 199) hC 0 dX9_readsCondition_198 rfl rfl ?_
  refine V.aload_n (r := 200) hC 0 dX9_readsCondition_199 rfl rfl ?_
  obtain ⟨q46, hq47, h⟩ := Option.bind_eq_some_iff.mp h
  try dsimp only at h
  refine V.invVi (as := []) (st := [.inr 154]) (r := 203) hC (met9_here hq47) yv_X9_here ml_RX9_129 sh_154 rfl rfl dX9_readsCondition_200 (by decide) rfl rfl rfl rfl ?_
  refine V.bipush (r := 205) hC dX9_readsCondition_203 kb_38 rfl ?_
  refine V.icmp_ne (tgt := 213) (r := 208) hC dX9_readsCondition_205 (by decide) rfl (fun c48 => ?_) (fun c48 => ?_)
  · rw [if_neg c48] at h
    refine V.bipush (r := 215) hC dX9_readsCondition_213 kb_12 rfl ?_
    exact v9_readsCondition_b215  hC hR hk40 _ _ h
  · rw [if_pos c48] at h
    refine V.bipush (r := 210) hC dX9_readsCondition_208 kb_11 rfl ?_
    refine V.goto (tgt := 215) hC dX9_readsCondition_210 (by decide) ?_
    exact v9_readsCondition_b215  hC hR hk40 _ _ h
def g9_readsCondition_b180 (k40 : xMem → Option (Int32 × xMem)) (M : xMem) : Option (Int32 × xMem) :=
Option.bind (g9_here M) fun q41 =>
if (q41.1) = (124 : Int32) then
(g9_readsCondition_b195 k40 (1 : Int32) q41.2)
else
(g9_readsCondition_b195 k40 (0 : Int32) q41.2)
set_option maxHeartbeats 4000000 in
set_option maxRecDepth 20000 in
theorem v9_readsCondition_b180 {G : xG} (hC : xC G cX9_readsCondition 1 RX9 6) {R : Int32 × xMem} (hR : xRZ G cX9_readsCondition 1 R) {k40 : xMem → Option (Int32 × xMem)} (hk40 : ∀ (N : xMem), k40 N = some R → V G 1 40 [(0, .inr 154)] [] N) (M : xMem) (h : g9_readsCondition_b180 k40 M = some R) : V G 1 180 [(0, .inr 154)] [] M := by
  unfold g9_readsCondition_b180 at h
  refine V.aload_n (r := 181) hC 0 dX9_readsCondition_180 rfl rfl ?_
  refine V.aload_n (r := 182) hC 0 dX9_readsCondition_181 rfl rfl ?_
  obtain ⟨q41, hq42, h⟩ := Option.bind_eq_some_iff.mp h
  try dsimp only at h
  refine V.invVi (as := []) (st := [.inr 154]) (r := 185) hC (met9_here hq42) yv_X9_here ml_RX9_129 sh_154 rfl rfl dX9_readsCondition_182 (by decide) rfl rfl rfl rfl ?_
  refine V.bipush (r := 187) hC dX9_readsCondition_185 kb_124 rfl ?_
  refine V.icmp_ne (tgt := 194) (r := 190) hC dX9_readsCondition_187 (by decide) rfl (fun c43 => ?_) (fun c43 => ?_)
  · rw [if_neg c43] at h
    refine V.iconst (r := 195) hC dX9_readsCondition_194 ki_0 rfl ?_
    exact v9_readsCondition_b195  hC hR hk40 _ _ h
  · rw [if_pos c43] at h
    refine V.iconst (r := 191) hC dX9_readsCondition_190 ki_1 rfl ?_
    refine V.goto (tgt := 195) hC dX9_readsCondition_191 (by decide) ?_
    exact v9_readsCondition_b195  hC hR hk40 _ _ h
def g9_readsCondition_b92 (k40 : xMem → Option (Int32 × xMem)) : Nat → xMem → Option (Int32 × xMem)
  | 0, _ => none
  | n + 1, M => 
    (Option.bind (g9_here M) fun q21 =>
    if (q21.1) = (41 : Int32) then
    (Option.bind (g9_lands (1 : Int32) q21.2) fun q33 =>
    mset (upM q33 170 0 ((q33 170 0) - (1 : Int32))) fun M35 =>
    mset (upM M35 168 0 ((M35 168 0) - (1 : Int32))) fun M36 =>
    mset (upM M36 165 0 ((M36 165 0) + (1 : Int32))) fun M37 =>
    if (M37 170 0) = 0 then
    (some ((1 : Int32), M37))
    else
    (Option.bind (g9_endsPiece M37) fun q39 =>
    g9_readsCondition_b92 k40 n q39))
    else
    (Option.bind (g9_here q21.2) fun q24 =>
    if (q24.1) = (38 : Int32) then
    (g9_readsCondition_b180 k40 q24.2)
    else
    (Option.bind (g9_here q24.2) fun q27 =>
    if (q27.1) = (124 : Int32) then
    (g9_readsCondition_b180 k40 q27.2)
    else
    (Option.bind (g9_wrongAt (1 : Int32) (q27.2 165 0) q27.2) fun q30 =>
    if (q30.1) = 0 ∨ (q30.1) = 1 then
    some (q30.1, q30.2)
    else none))))
set_option maxHeartbeats 4000000 in
set_option maxRecDepth 20000 in
theorem v9_readsCondition_b92 {G : xG} (hC : xC G cX9_readsCondition 1 RX9 6) {R : Int32 × xMem} (hR : xRZ G cX9_readsCondition 1 R) {k40 : xMem → Option (Int32 × xMem)} (hk40 : ∀ (N : xMem), k40 N = some R → V G 1 40 [(0, .inr 154)] [] N) : ∀ (n : Nat) (M : xMem), g9_readsCondition_b92 k40 n M = some R → V G 1 92 [(0, .inr 154)] [] M := by
  intro n
  induction n with
  | zero => intro M h; rw [g9_readsCondition_b92] at h; cases h
  | succ n ih =>
    intro M h
    rw [g9_readsCondition_b92] at h
    refine V.aload_n (r := 93) hC 0 dX9_readsCondition_92 rfl rfl ?_
    obtain ⟨q21, hq22, h⟩ := Option.bind_eq_some_iff.mp h
    try dsimp only at h
    refine V.invVi (as := []) (st := []) (r := 96) hC (met9_here hq22) yv_X9_here ml_RX9_129 sh_154 rfl rfl dX9_readsCondition_93 (by decide) rfl rfl rfl rfl ?_
    refine V.bipush (r := 98) hC dX9_readsCondition_96 kb_41 rfl ?_
    refine V.icmp_ne (tgt := 152) (r := 101) hC dX9_readsCondition_98 (by decide) rfl (fun c23 => ?_) (fun c23 => ?_)
    · rw [if_neg c23] at h
      refine V.aload_n (r := 153) hC 0 dX9_readsCondition_152 rfl rfl ?_
      obtain ⟨q24, hq25, h⟩ := Option.bind_eq_some_iff.mp h
      try dsimp only at h
      refine V.invVi (as := []) (st := []) (r := 156) hC (met9_here hq25) yv_X9_here ml_RX9_129 sh_154 rfl rfl dX9_readsCondition_153 (by decide) rfl rfl rfl rfl ?_
      refine V.bipush (r := 158) hC dX9_readsCondition_156 kb_38 rfl ?_
      refine V.icmp_eq (tgt := 180) (r := 161) hC dX9_readsCondition_158 (by decide) rfl (fun c26 => ?_) (fun c26 => ?_)
      · rw [if_pos c26] at h
        exact v9_readsCondition_b180  hC hR hk40 _ h
      · rw [if_neg c26] at h
        refine V.aload_n (r := 162) hC 0 dX9_readsCondition_161 rfl rfl ?_
        obtain ⟨q27, hq28, h⟩ := Option.bind_eq_some_iff.mp h
        try dsimp only at h
        refine V.invVi (as := []) (st := []) (r := 165) hC (met9_here hq28) yv_X9_here ml_RX9_129 sh_154 rfl rfl dX9_readsCondition_162 (by decide) rfl rfl rfl rfl ?_
        refine V.bipush (r := 167) hC dX9_readsCondition_165 kb_124 rfl ?_
        refine V.icmp_eq (tgt := 180) (r := 170) hC dX9_readsCondition_167 (by decide) rfl (fun c29 => ?_) (fun c29 => ?_)
        · rw [if_pos c29] at h
          exact v9_readsCondition_b180  hC hR hk40 _ h
        · rw [if_neg c29] at h
          refine V.aload_n (r := 171) hC 0 dX9_readsCondition_170 rfl rfl ?_
          refine V.iconst (r := 172) hC dX9_readsCondition_171 ki_1 rfl ?_
          refine V.aload_n (r := 173) hC 0 dX9_readsCondition_172 rfl rfl ?_
          refine V.getI (b := 165) (i := 0) (j := 5) (r := 176) hC xcl_9 sh_154 fl_RX9_123 dX9_readsCondition_173 (by decide) rfl rfl ?_
          obtain ⟨q30, hq31, h⟩ := Option.bind_eq_some_iff.mp h
          try dsimp only at h
          refine V.invVi (as := [.inl (1 : Int32), .inl (q27.2 165 0)]) (st := []) (r := 179) hC (met9_wrongAt hq31) yv_X9_wrongAt ml_RX9_136 sh_154 rfl rfl dX9_readsCondition_176 (by decide) rfl rfl rfl rfl ?_
          by_cases c32 : ¬ ((q30.1) = 0 ∨ (q30.1) = 1)
          · rw [if_neg c32] at h; cases h
          replace c32 := Classical.not_not.mp c32
          rw [if_pos c32] at h
          cases h
          exact hR _ _ c32 dX9_readsCondition_179
    · rw [if_pos c23] at h
      refine V.aload_n (r := 102) hC 0 dX9_readsCondition_101 rfl rfl ?_
      refine V.iconst (r := 103) hC dX9_readsCondition_102 ki_1 rfl ?_
      obtain ⟨q33, hq34, h⟩ := Option.bind_eq_some_iff.mp h
      try dsimp only at h
      refine V.invVv (as := [.inl (1 : Int32)]) (st := []) (r := 106) hC (met9_lands hq34) yv_X9_lands ml_RX9_194 sh_154 rfl rfl dX9_readsCondition_103 (by decide) rfl rfl rfl rfl ?_
      refine V.aload_n (r := 107) hC 0 dX9_readsCondition_106 rfl rfl ?_
      refine V.aload_n (r := 108) hC 0 dX9_readsCondition_107 rfl rfl ?_
      refine V.getI (b := 170) (i := 0) (j := 10) (r := 111) hC xcl_9 sh_154 fl_RX9_153 dX9_readsCondition_108 (by decide) rfl rfl ?_
      refine V.iconst (r := 112) hC dX9_readsCondition_111 ki_1 rfl ?_
      refine V.isub (r := 113) hC dX9_readsCondition_112 rfl ?_
      rw [mset_eq] at h
      refine V.putI (b := 170) (i := 0) (j := 10) (ty := .int) (r := 116) hC xcl_9 xcp_9 sh_154 fl_RX9_153 dX9_readsCondition_113 (by decide) rfl rfl (by decide +kernel) rfl rfl rfl ?_
      generalize upM q33 170 0 ((q33 170 0) - (1 : Int32)) = M35 at h ⊢
      refine V.aload_n (r := 117) hC 0 dX9_readsCondition_116 rfl rfl ?_
      refine V.aload_n (r := 118) hC 0 dX9_readsCondition_117 rfl rfl ?_
      refine V.getI (b := 168) (i := 0) (j := 8) (r := 121) hC xcl_9 sh_154 fl_RX9_150 dX9_readsCondition_118 (by decide) rfl rfl ?_
      refine V.iconst (r := 122) hC dX9_readsCondition_121 ki_1 rfl ?_
      refine V.isub (r := 123) hC dX9_readsCondition_122 rfl ?_
      rw [mset_eq] at h
      refine V.putI (b := 168) (i := 0) (j := 8) (ty := .int) (r := 126) hC xcl_9 xcp_9 sh_154 fl_RX9_150 dX9_readsCondition_123 (by decide) rfl rfl (by decide +kernel) rfl rfl rfl ?_
      generalize upM M35 168 0 ((M35 168 0) - (1 : Int32)) = M36 at h ⊢
      refine V.aload_n (r := 127) hC 0 dX9_readsCondition_126 rfl rfl ?_
      refine V.aload_n (r := 128) hC 0 dX9_readsCondition_127 rfl rfl ?_
      refine V.getI (b := 165) (i := 0) (j := 5) (r := 131) hC xcl_9 sh_154 fl_RX9_123 dX9_readsCondition_128 (by decide) rfl rfl ?_
      refine V.iconst (r := 132) hC dX9_readsCondition_131 ki_1 rfl ?_
      refine V.iadd (r := 133) hC dX9_readsCondition_132 rfl ?_
      rw [mset_eq] at h
      refine V.putI (b := 165) (i := 0) (j := 5) (ty := .int) (r := 136) hC xcl_9 xcp_9 sh_154 fl_RX9_123 dX9_readsCondition_133 (by decide) rfl rfl (by decide +kernel) rfl rfl rfl ?_
      generalize upM M36 165 0 ((M36 165 0) + (1 : Int32)) = M37 at h ⊢
      refine V.aload_n (r := 137) hC 0 dX9_readsCondition_136 rfl rfl ?_
      refine V.getI (b := 170) (i := 0) (j := 10) (r := 140) hC xcl_9 sh_154 fl_RX9_153 dX9_readsCondition_137 (by decide) rfl rfl ?_
      refine V.if_ne (tgt := 145) (r := 143) hC dX9_readsCondition_140 (by decide) rfl (fun c38 => ?_) (fun c38 => ?_)
      · rw [if_neg c38] at h
        refine V.aload_n (r := 146) hC 0 dX9_readsCondition_145 rfl rfl ?_
        obtain ⟨q39, hq40, h⟩ := Option.bind_eq_some_iff.mp h
        try dsimp only at h
        refine V.invVv (as := []) (st := []) (r := 149) hC (met9_endsPiece hq40) yv_X9_endsPiece ml_RX9_188 sh_154 rfl rfl dX9_readsCondition_146 (by decide) rfl rfl rfl rfl ?_
        refine V.goto (tgt := 92) hC dX9_readsCondition_149 (by decide) ?_
        exact ih _ h
      · rw [if_pos c38] at h
        refine V.iconst (r := 144) hC dX9_readsCondition_143 ki_1 rfl ?_
        cases h
        exact hR _ _ (Or.inr rfl) dX9_readsCondition_144
def g9_readsCondition_b40 : Nat → xMem → Option (Int32 × xMem)
  | 0, _ => none
  | n + 1, M => 
    (Option.bind (g9_here M) fun q12 =>
    if (q12.1) = (33 : Int32) then
    (g9_readsCondition_b58 (g9_readsCondition_b40 n) q12.2)
    else
    (Option.bind (g9_here q12.2) fun q15 =>
    if (q15.1) = (40 : Int32) then
    (g9_readsCondition_b58 (g9_readsCondition_b40 n) q15.2)
    else
    (Option.bind (g9_readsCompared q15.2) fun q18 =>
    if (q18.1) = 0 then
    (some ((0 : Int32), q18.2))
    else
    (g9_readsCondition_b92 (g9_readsCondition_b40 n) 5000 q18.2))))
set_option maxHeartbeats 4000000 in
set_option maxRecDepth 20000 in
theorem v9_readsCondition_b40 {G : xG} (hC : xC G cX9_readsCondition 1 RX9 6) {R : Int32 × xMem} (hR : xRZ G cX9_readsCondition 1 R) : ∀ (n : Nat) (M : xMem), g9_readsCondition_b40 n M = some R → V G 1 40 [(0, .inr 154)] [] M := by
  intro n
  induction n with
  | zero => intro M h; rw [g9_readsCondition_b40] at h; cases h
  | succ n ih =>
    intro M h
    rw [g9_readsCondition_b40] at h
    refine V.aload_n (r := 41) hC 0 dX9_readsCondition_40 rfl rfl ?_
    obtain ⟨q12, hq13, h⟩ := Option.bind_eq_some_iff.mp h
    try dsimp only at h
    refine V.invVi (as := []) (st := []) (r := 44) hC (met9_here hq13) yv_X9_here ml_RX9_129 sh_154 rfl rfl dX9_readsCondition_41 (by decide) rfl rfl rfl rfl ?_
    refine V.bipush (r := 46) hC dX9_readsCondition_44 kb_33 rfl ?_
    refine V.icmp_eq (tgt := 58) (r := 49) hC dX9_readsCondition_46 (by decide) rfl (fun c14 => ?_) (fun c14 => ?_)
    · rw [if_pos c14] at h
      exact v9_readsCondition_b58  hC hR ih _ h
    · rw [if_neg c14] at h
      refine V.aload_n (r := 50) hC 0 dX9_readsCondition_49 rfl rfl ?_
      obtain ⟨q15, hq16, h⟩ := Option.bind_eq_some_iff.mp h
      try dsimp only at h
      refine V.invVi (as := []) (st := []) (r := 53) hC (met9_here hq16) yv_X9_here ml_RX9_129 sh_154 rfl rfl dX9_readsCondition_50 (by decide) rfl rfl rfl rfl ?_
      refine V.bipush (r := 55) hC dX9_readsCondition_53 kb_40 rfl ?_
      refine V.icmp_ne (tgt := 83) (r := 58) hC dX9_readsCondition_55 (by decide) rfl (fun c17 => ?_) (fun c17 => ?_)
      · rw [if_neg c17] at h
        refine V.aload_n (r := 84) hC 0 dX9_readsCondition_83 rfl rfl ?_
        obtain ⟨q18, hq19, h⟩ := Option.bind_eq_some_iff.mp h
        try dsimp only at h
        refine V.invVi (as := []) (st := []) (r := 87) hC (met9_readsCompared hq19) yv_X9_readsCompared ml_RX9_191 sh_154 rfl rfl dX9_readsCondition_84 (by decide) rfl rfl rfl rfl ?_
        refine V.if_ne (tgt := 92) (r := 90) hC dX9_readsCondition_87 (by decide) rfl (fun c20 => ?_) (fun c20 => ?_)
        · rw [if_neg c20] at h
          exact v9_readsCondition_b92  hC hR ih 5000 _ h
        · rw [if_pos c20] at h
          refine V.iconst (r := 91) hC dX9_readsCondition_90 ki_0 rfl ?_
          cases h
          exact hR _ _ (Or.inl rfl) dX9_readsCondition_91
      · rw [if_pos c17] at h
        exact v9_readsCondition_b58  hC hR ih _ h
def g9_readsCondition (M : xMem) : Option (Int32 × xMem) :=
Option.bind (g9_here M) fun q1 =>
if (q1.1) = (40 : Int32) then
(mset (upM q1.2 168 0 (0 : Int32)) fun M4 =>
mset (upM M4 170 0 (0 : Int32)) fun M5 =>
Option.bind (g9_opens (13 : Int32) M5) fun q6 =>
if (q6.1) = 0 then
(some ((0 : Int32), q6.2))
else
(g9_readsCondition_b40 5000 q6.2))
else
(Option.bind (g9_wrongAt (1 : Int32) (q1.2 165 0) q1.2) fun q9 =>
if (q9.1) = 0 ∨ (q9.1) = 1 then
some (q9.1, q9.2)
else none)
set_option maxHeartbeats 4000000 in
set_option maxRecDepth 20000 in
theorem v9_readsCondition {G : xG} (hC : xC G cX9_readsCondition 1 RX9 6) {R : Int32 × xMem} (hR : xRZ G cX9_readsCondition 1 R) {M : xMem} (h : g9_readsCondition M = some R) : V G 1 0 [(0, .inr 154)] [] M := by
  unfold g9_readsCondition at h
  refine V.aload_n (r := 1) hC 0 dX9_readsCondition_0 rfl rfl ?_
  obtain ⟨q1, hq2, h⟩ := Option.bind_eq_some_iff.mp h
  try dsimp only at h
  refine V.invVi (as := []) (st := []) (r := 4) hC (met9_here hq2) yv_X9_here ml_RX9_129 sh_154 rfl rfl dX9_readsCondition_1 (by decide) rfl rfl rfl rfl ?_
  refine V.bipush (r := 6) hC dX9_readsCondition_4 kb_40 rfl ?_
  refine V.icmp_eq (tgt := 19) (r := 9) hC dX9_readsCondition_6 (by decide) rfl (fun c3 => ?_) (fun c3 => ?_)
  · rw [if_pos c3] at h
    refine V.aload_n (r := 20) hC 0 dX9_readsCondition_19 rfl rfl ?_
    refine V.iconst (r := 21) hC dX9_readsCondition_20 ki_0 rfl ?_
    rw [mset_eq] at h
    refine V.putI (b := 168) (i := 0) (j := 8) (ty := .int) (r := 24) hC xcl_9 xcp_9 sh_154 fl_RX9_150 dX9_readsCondition_21 (by decide) rfl rfl (by decide +kernel) rfl rfl rfl ?_
    generalize upM q1.2 168 0 (0 : Int32) = M4 at h ⊢
    refine V.aload_n (r := 25) hC 0 dX9_readsCondition_24 rfl rfl ?_
    refine V.iconst (r := 26) hC dX9_readsCondition_25 ki_0 rfl ?_
    rw [mset_eq] at h
    refine V.putI (b := 170) (i := 0) (j := 10) (ty := .int) (r := 29) hC xcl_9 xcp_9 sh_154 fl_RX9_153 dX9_readsCondition_26 (by decide) rfl rfl (by decide +kernel) rfl rfl rfl ?_
    generalize upM M4 170 0 (0 : Int32) = M5 at h ⊢
    refine V.aload_n (r := 30) hC 0 dX9_readsCondition_29 rfl rfl ?_
    refine V.bipush (r := 32) hC dX9_readsCondition_30 kb_13 rfl ?_
    obtain ⟨q6, hq7, h⟩ := Option.bind_eq_some_iff.mp h
    try dsimp only at h
    refine V.invVi (as := [.inl (13 : Int32)]) (st := []) (r := 35) hC (met9_opens hq7) yv_X9_opens ml_RX9_163 sh_154 rfl rfl dX9_readsCondition_32 (by decide) rfl rfl rfl rfl ?_
    refine V.if_ne (tgt := 40) (r := 38) hC dX9_readsCondition_35 (by decide) rfl (fun c8 => ?_) (fun c8 => ?_)
    · rw [if_neg c8] at h
      exact v9_readsCondition_b40  hC hR  5000 _ h
    · rw [if_pos c8] at h
      refine V.iconst (r := 39) hC dX9_readsCondition_38 ki_0 rfl ?_
      cases h
      exact hR _ _ (Or.inl rfl) dX9_readsCondition_39
  · rw [if_neg c3] at h
    refine V.aload_n (r := 10) hC 0 dX9_readsCondition_9 rfl rfl ?_
    refine V.iconst (r := 11) hC dX9_readsCondition_10 ki_1 rfl ?_
    refine V.aload_n (r := 12) hC 0 dX9_readsCondition_11 rfl rfl ?_
    refine V.getI (b := 165) (i := 0) (j := 5) (r := 15) hC xcl_9 sh_154 fl_RX9_123 dX9_readsCondition_12 (by decide) rfl rfl ?_
    obtain ⟨q9, hq10, h⟩ := Option.bind_eq_some_iff.mp h
    try dsimp only at h
    refine V.invVi (as := [.inl (1 : Int32), .inl (q1.2 165 0)]) (st := []) (r := 18) hC (met9_wrongAt hq10) yv_X9_wrongAt ml_RX9_136 sh_154 rfl rfl dX9_readsCondition_15 (by decide) rfl rfl rfl rfl ?_
    by_cases c11 : ¬ ((q9.1) = 0 ∨ (q9.1) = 1)
    · rw [if_neg c11] at h; cases h
    replace c11 := Classical.not_not.mp c11
    rw [if_pos c11] at h
    cases h
    exact hR _ _ c11 dX9_readsCondition_18
theorem met9_readsCondition {R : Int32 × xMem} {M : xMem} (h : g9_readsCondition M = some R) : xMet yX9_readsCondition cX9_readsCondition 1 (some .boolean) 6 [.inr 154] M (some R.1) R.2 := xMet.ofZ (by decide +kernel) (Nat.le_of_ble_eq_true rfl) fun _ hC hR => v9_readsCondition  hC hR h
def g9_isClause_b48 (M : xMem) : Option (Int32 × xMem) :=
some ((1 : Int32), M)
set_option maxHeartbeats 4000000 in
set_option maxRecDepth 20000 in
theorem v9_isClause_b48 {G : xG} (hC : xC G cX9_isClause 1 RX9 0) {R : Int32 × xMem} (hR : xRZ G cX9_isClause 1 R) (M : xMem) (h : g9_isClause_b48 M = some R) : V G 1 48 [] [] M := by
  unfold g9_isClause_b48 at h
  refine V.iconst (r := 49) hC dX9_isClause_48 ki_1 rfl ?_
  refine V.goto (tgt := 53) hC dX9_isClause_49 (by decide) ?_
  cases h
  exact hR _ _ (Or.inr rfl) dX9_isClause_53
def g9_isClause (a0 : Int32) (M : xMem) : Option (Int32 × xMem) :=
if a0 = (97 : Int32) then
(g9_isClause_b48 M)
else
(if a0 = (122 : Int32) then
(g9_isClause_b48 M)
else
(if a0 = (115 : Int32) then
(g9_isClause_b48 M)
else
(if a0 = (119 : Int32) then
(g9_isClause_b48 M)
else
(if a0 = (120 : Int32) then
(g9_isClause_b48 M)
else
(if a0 = (102 : Int32) then
(g9_isClause_b48 M)
else
(if a0 = (98 : Int32) then
(g9_isClause_b48 M)
else
(if a0 = (113 : Int32) then
(g9_isClause_b48 M)
else
(some ((0 : Int32), M)))))))))
set_option maxHeartbeats 4000000 in
set_option maxRecDepth 20000 in
theorem v9_isClause {G : xG} (hC : xC G cX9_isClause 1 RX9 0) {R : Int32 × xMem} (hR : xRZ G cX9_isClause 1 R) {a0 : Int32} {M : xMem} (h : g9_isClause a0 M = some R) : V G 1 0 [(0, .inl a0)] [] M := by
  unfold g9_isClause at h
  refine V.iload_n (r := 1) hC 0 dX9_isClause_0 rfl rfl ?_
  refine V.bipush (r := 3) hC dX9_isClause_1 kb_97 rfl ?_
  refine V.icmp_eq (tgt := 48) (r := 6) hC dX9_isClause_3 (by decide) rfl (fun c1 => ?_) (fun c1 => ?_)
  · rw [if_pos c1] at h
    refine V.pick (lv' := []) [] rfl ?_
    exact v9_isClause_b48  hC hR  _ h
  · rw [if_neg c1] at h
    refine V.iload_n (r := 7) hC 0 dX9_isClause_6 rfl rfl ?_
    refine V.bipush (r := 9) hC dX9_isClause_7 kb_122 rfl ?_
    refine V.icmp_eq (tgt := 48) (r := 12) hC dX9_isClause_9 (by decide) rfl (fun c2 => ?_) (fun c2 => ?_)
    · rw [if_pos c2] at h
      refine V.pick (lv' := []) [] rfl ?_
      exact v9_isClause_b48  hC hR  _ h
    · rw [if_neg c2] at h
      refine V.iload_n (r := 13) hC 0 dX9_isClause_12 rfl rfl ?_
      refine V.bipush (r := 15) hC dX9_isClause_13 kb_115 rfl ?_
      refine V.icmp_eq (tgt := 48) (r := 18) hC dX9_isClause_15 (by decide) rfl (fun c3 => ?_) (fun c3 => ?_)
      · rw [if_pos c3] at h
        refine V.pick (lv' := []) [] rfl ?_
        exact v9_isClause_b48  hC hR  _ h
      · rw [if_neg c3] at h
        refine V.iload_n (r := 19) hC 0 dX9_isClause_18 rfl rfl ?_
        refine V.bipush (r := 21) hC dX9_isClause_19 kb_119 rfl ?_
        refine V.icmp_eq (tgt := 48) (r := 24) hC dX9_isClause_21 (by decide) rfl (fun c4 => ?_) (fun c4 => ?_)
        · rw [if_pos c4] at h
          refine V.pick (lv' := []) [] rfl ?_
          exact v9_isClause_b48  hC hR  _ h
        · rw [if_neg c4] at h
          refine V.iload_n (r := 25) hC 0 dX9_isClause_24 rfl rfl ?_
          refine V.bipush (r := 27) hC dX9_isClause_25 kb_120 rfl ?_
          refine V.icmp_eq (tgt := 48) (r := 30) hC dX9_isClause_27 (by decide) rfl (fun c5 => ?_) (fun c5 => ?_)
          · rw [if_pos c5] at h
            refine V.pick (lv' := []) [] rfl ?_
            exact v9_isClause_b48  hC hR  _ h
          · rw [if_neg c5] at h
            refine V.iload_n (r := 31) hC 0 dX9_isClause_30 rfl rfl ?_
            refine V.bipush (r := 33) hC dX9_isClause_31 kb_102 rfl ?_
            refine V.icmp_eq (tgt := 48) (r := 36) hC dX9_isClause_33 (by decide) rfl (fun c6 => ?_) (fun c6 => ?_)
            · rw [if_pos c6] at h
              refine V.pick (lv' := []) [] rfl ?_
              exact v9_isClause_b48  hC hR  _ h
            · rw [if_neg c6] at h
              refine V.iload_n (r := 37) hC 0 dX9_isClause_36 rfl rfl ?_
              refine V.bipush (r := 39) hC dX9_isClause_37 kb_98 rfl ?_
              refine V.icmp_eq (tgt := 48) (r := 42) hC dX9_isClause_39 (by decide) rfl (fun c7 => ?_) (fun c7 => ?_)
              · rw [if_pos c7] at h
                refine V.pick (lv' := []) [] rfl ?_
                exact v9_isClause_b48  hC hR  _ h
              · rw [if_neg c7] at h
                refine V.iload_n (r := 43) hC 0 dX9_isClause_42 rfl rfl ?_
                refine V.bipush (r := 45) hC dX9_isClause_43 kb_113 rfl ?_
                refine V.icmp_ne (tgt := 52) (r := 48) hC dX9_isClause_45 (by decide) rfl (fun c8 => ?_) (fun c8 => ?_)
                · rw [if_neg c8] at h
                  refine V.iconst (r := 53) hC dX9_isClause_52 ki_0 rfl ?_
                  cases h
                  exact hR _ _ (Or.inl rfl) dX9_isClause_53
                · rw [if_pos c8] at h
                  refine V.pick (lv' := []) [] rfl ?_
                  exact v9_isClause_b48  hC hR  _ h
theorem met9_isClause {R : Int32 × xMem} {a0 : Int32} {M : xMem} (h : g9_isClause a0 M = some R) : xMet yX9_isClause cX9_isClause 1 (some .boolean) 0 [.inl a0] M (some R.1) R.2 := xMet.ofZ (by decide +kernel) (Nat.le_of_ble_eq_true rfl) fun _ hC hR => v9_isClause  hC hR h
def g9_readsClause (M : xMem) : Option (Int32 × xMem) :=
Option.bind (g9_here M) fun q1 =>
Option.bind (g9_isClause (q1.1) q1.2) fun q3 =>
if (q3.1) = 0 then
(Option.bind (g9_wrongAt (1 : Int32) (q3.2 165 0) q3.2) fun q28 =>
if (q28.1) = 0 ∨ (q28.1) = 1 then
some (q28.1, q28.2)
else none)
else
(if (q3.2 171 0) = (16 : Int32) then
(Option.bind (g9_wrongAt (4 : Int32) (q3.2 165 0) q3.2) fun q25 =>
if (q25.1) = 0 ∨ (q25.1) = 1 then
some (q25.1, q25.2)
else none)
else
(if (q3.2 171 0) < 0 ∨ 16 ≤ (q3.2 171 0).toNatClampNeg then none else
mset (upM q3.2 176 (q3.2 171 0).toNatClampNeg (q1.1)) fun M8 =>
mset (upM M8 165 0 ((M8 165 0) + (1 : Int32))) fun M9 =>
if (M9 171 0) < 0 ∨ 16 ≤ (M9 171 0).toNatClampNeg then none else
mset (upM M9 177 (M9 171 0).toNatClampNeg (M9 169 0)) fun M11 =>
mset (upM M11 168 0 (0 : Int32)) fun M12 =>
mset (upM M12 170 0 (0 : Int32)) fun M13 =>
Option.bind (g9_readsSum M13) fun q14 =>
if (q14.1) = 0 then
(some ((0 : Int32), q14.2))
else
(if (q14.2 171 0) < 0 ∨ 16 ≤ (q14.2 171 0).toNatClampNeg then none else
mset (upM q14.2 178 (q14.2 171 0).toNatClampNeg (q14.2 169 0)) fun M18 =>
Option.bind (g9_readsCondition M18) fun q19 =>
if (q19.1) = 0 then
(some ((0 : Int32), q19.2))
else
(if (q19.2 171 0) < 0 ∨ 16 ≤ (q19.2 171 0).toNatClampNeg then none else
mset (upM q19.2 179 (q19.2 171 0).toNatClampNeg (q19.2 169 0)) fun M23 =>
mset (upM M23 171 0 ((M23 171 0) + (1 : Int32))) fun M24 =>
some ((1 : Int32), M24)))))
set_option maxHeartbeats 4000000 in
set_option maxRecDepth 20000 in
theorem v9_readsClause {G : xG} (hC : xC G cX9_readsClause 2 RX9 7) {R : Int32 × xMem} (hR : xRZ G cX9_readsClause 2 R) {M : xMem} (h : g9_readsClause M = some R) : V G 2 0 [(0, .inr 154)] [] M := by
  unfold g9_readsClause at h
  refine V.aload_n (r := 1) hC 0 dX9_readsClause_0 rfl rfl ?_
  obtain ⟨q1, hq2, h⟩ := Option.bind_eq_some_iff.mp h
  try dsimp only at h
  refine V.invVi (as := []) (st := []) (r := 4) hC (met9_here hq2) yv_X9_here ml_RX9_129 sh_154 rfl rfl dX9_readsClause_1 (by decide) rfl rfl rfl rfl ?_
  refine V.ist_n (lv' := [(0, .inr 154), (1, .inl (q1.1))]) (r := 5) hC dX9_readsClause_4 rfl rfl rfl ?_
  refine V.iload_n (r := 6) hC 1 dX9_readsClause_5 rfl rfl ?_
  obtain ⟨q3, hq4, h⟩ := Option.bind_eq_some_iff.mp h
  try dsimp only at h
  refine V.invSi (as := [.inl (q1.1)]) (st := []) (r := 9) hC (met9_isClause hq4) ys_X9_isClause ml_RX9_200 dX9_readsClause_6 (by decide) rfl rfl rfl rfl ?_
  refine V.if_ne (tgt := 22) (r := 12) hC dX9_readsClause_9 (by decide) rfl (fun c5 => ?_) (fun c5 => ?_)
  · rw [if_neg c5] at h
    refine V.aload_n (r := 23) hC 0 dX9_readsClause_22 rfl rfl ?_
    refine V.getI (b := 171) (i := 0) (j := 11) (r := 26) hC xcl_9 sh_154 fl_RX9_203 dX9_readsClause_23 (by decide) rfl rfl ?_
    refine V.bipush (r := 28) hC dX9_readsClause_26 kb_16 rfl ?_
    refine V.icmp_ne (tgt := 41) (r := 31) hC dX9_readsClause_28 (by decide) rfl (fun c6 => ?_) (fun c6 => ?_)
    · rw [if_neg c6] at h
      refine V.aload_n (r := 42) hC 0 dX9_readsClause_41 rfl rfl ?_
      refine V.getR (k' := 161) (j := 16) (r := 45) hC xcl_9 sh_154 fl_RX9_29 dX9_readsClause_42 (by decide) rfl rfl ?_
      refine V.aload_n (r := 46) hC 0 dX9_readsClause_45 rfl rfl ?_
      refine V.getI (b := 171) (i := 0) (j := 11) (r := 49) hC xcl_9 sh_154 fl_RX9_203 dX9_readsClause_46 (by decide) rfl rfl ?_
      refine V.iload_n (r := 50) hC 1 dX9_readsClause_49 rfl rfl ?_
      by_cases c7 : (q3.2 171 0) < 0 ∨ 16 ≤ (q3.2 171 0).toNatClampNeg
      · rw [if_pos c7] at h; cases h
      rw [if_neg c7] at h
      rw [mset_eq] at h
      refine V.iast (t := (q3.2 171 0).toNatClampNeg) (r := 51) hC sh_161 dX9_readsClause_50 c7 (Nat.zero_add _) rfl ?_
      generalize upM q3.2 176 (q3.2 171 0).toNatClampNeg (q1.1) = M8 at h ⊢
      refine V.aload_n (r := 52) hC 0 dX9_readsClause_51 rfl rfl ?_
      refine V.aload_n (r := 53) hC 0 dX9_readsClause_52 rfl rfl ?_
      refine V.getI (b := 165) (i := 0) (j := 5) (r := 56) hC xcl_9 sh_154 fl_RX9_123 dX9_readsClause_53 (by decide) rfl rfl ?_
      refine V.iconst (r := 57) hC dX9_readsClause_56 ki_1 rfl ?_
      refine V.iadd (r := 58) hC dX9_readsClause_57 rfl ?_
      rw [mset_eq] at h
      refine V.putI (b := 165) (i := 0) (j := 5) (ty := .int) (r := 61) hC xcl_9 xcp_9 sh_154 fl_RX9_123 dX9_readsClause_58 (by decide) rfl rfl (by decide +kernel) rfl rfl rfl ?_
      generalize upM M8 165 0 ((M8 165 0) + (1 : Int32)) = M9 at h ⊢
      refine V.aload_n (r := 62) hC 0 dX9_readsClause_61 rfl rfl ?_
      refine V.getR (k' := 162) (j := 17) (r := 65) hC xcl_9 sh_154 fl_RX9_32 dX9_readsClause_62 (by decide) rfl rfl ?_
      refine V.aload_n (r := 66) hC 0 dX9_readsClause_65 rfl rfl ?_
      refine V.getI (b := 171) (i := 0) (j := 11) (r := 69) hC xcl_9 sh_154 fl_RX9_203 dX9_readsClause_66 (by decide) rfl rfl ?_
      refine V.aload_n (r := 70) hC 0 dX9_readsClause_69 rfl rfl ?_
      refine V.getI (b := 169) (i := 0) (j := 9) (r := 73) hC xcl_9 sh_154 fl_RX9_146 dX9_readsClause_70 (by decide) rfl rfl ?_
      by_cases c10 : (M9 171 0) < 0 ∨ 16 ≤ (M9 171 0).toNatClampNeg
      · rw [if_pos c10] at h; cases h
      rw [if_neg c10] at h
      rw [mset_eq] at h
      refine V.iast (t := (M9 171 0).toNatClampNeg) (r := 74) hC sh_162 dX9_readsClause_73 c10 (Nat.zero_add _) rfl ?_
      generalize upM M9 177 (M9 171 0).toNatClampNeg (M9 169 0) = M11 at h ⊢
      refine V.aload_n (r := 75) hC 0 dX9_readsClause_74 rfl rfl ?_
      refine V.iconst (r := 76) hC dX9_readsClause_75 ki_0 rfl ?_
      rw [mset_eq] at h
      refine V.putI (b := 168) (i := 0) (j := 8) (ty := .int) (r := 79) hC xcl_9 xcp_9 sh_154 fl_RX9_150 dX9_readsClause_76 (by decide) rfl rfl (by decide +kernel) rfl rfl rfl ?_
      generalize upM M11 168 0 (0 : Int32) = M12 at h ⊢
      refine V.aload_n (r := 80) hC 0 dX9_readsClause_79 rfl rfl ?_
      refine V.iconst (r := 81) hC dX9_readsClause_80 ki_0 rfl ?_
      rw [mset_eq] at h
      refine V.putI (b := 170) (i := 0) (j := 10) (ty := .int) (r := 84) hC xcl_9 xcp_9 sh_154 fl_RX9_153 dX9_readsClause_81 (by decide) rfl rfl (by decide +kernel) rfl rfl rfl ?_
      generalize upM M12 170 0 (0 : Int32) = M13 at h ⊢
      refine V.aload_n (r := 85) hC 0 dX9_readsClause_84 rfl rfl ?_
      obtain ⟨q14, hq15, h⟩ := Option.bind_eq_some_iff.mp h
      try dsimp only at h
      refine V.invVi (as := []) (st := []) (r := 88) hC (met9_readsSum hq15) yv_X9_readsSum ml_RX9_185 sh_154 rfl rfl dX9_readsClause_85 (by decide) rfl rfl rfl rfl ?_
      refine V.if_ne (tgt := 93) (r := 91) hC dX9_readsClause_88 (by decide) rfl (fun c16 => ?_) (fun c16 => ?_)
      · rw [if_neg c16] at h
        refine V.aload_n (r := 94) hC 0 dX9_readsClause_93 rfl rfl ?_
        refine V.getR (k' := 163) (j := 18) (r := 97) hC xcl_9 sh_154 fl_RX9_35 dX9_readsClause_94 (by decide) rfl rfl ?_
        refine V.aload_n (r := 98) hC 0 dX9_readsClause_97 rfl rfl ?_
        refine V.getI (b := 171) (i := 0) (j := 11) (r := 101) hC xcl_9 sh_154 fl_RX9_203 dX9_readsClause_98 (by decide) rfl rfl ?_
        refine V.aload_n (r := 102) hC 0 dX9_readsClause_101 rfl rfl ?_
        refine V.getI (b := 169) (i := 0) (j := 9) (r := 105) hC xcl_9 sh_154 fl_RX9_146 dX9_readsClause_102 (by decide) rfl rfl ?_
        by_cases c17 : (q14.2 171 0) < 0 ∨ 16 ≤ (q14.2 171 0).toNatClampNeg
        · rw [if_pos c17] at h; cases h
        rw [if_neg c17] at h
        rw [mset_eq] at h
        refine V.iast (t := (q14.2 171 0).toNatClampNeg) (r := 106) hC sh_163 dX9_readsClause_105 c17 (Nat.zero_add _) rfl ?_
        generalize upM q14.2 178 (q14.2 171 0).toNatClampNeg (q14.2 169 0) = M18 at h ⊢
        refine V.aload_n (r := 107) hC 0 dX9_readsClause_106 rfl rfl ?_
        obtain ⟨q19, hq20, h⟩ := Option.bind_eq_some_iff.mp h
        try dsimp only at h
        refine V.invVi (as := []) (st := []) (r := 110) hC (met9_readsCondition hq20) yv_X9_readsCondition ml_RX9_206 sh_154 rfl rfl dX9_readsClause_107 (by decide) rfl rfl rfl rfl ?_
        refine V.if_ne (tgt := 115) (r := 113) hC dX9_readsClause_110 (by decide) rfl (fun c21 => ?_) (fun c21 => ?_)
        · rw [if_neg c21] at h
          refine V.aload_n (r := 116) hC 0 dX9_readsClause_115 rfl rfl ?_
          refine V.getR (k' := 164) (j := 19) (r := 119) hC xcl_9 sh_154 fl_RX9_38 dX9_readsClause_116 (by decide) rfl rfl ?_
          refine V.aload_n (r := 120) hC 0 dX9_readsClause_119 rfl rfl ?_
          refine V.getI (b := 171) (i := 0) (j := 11) (r := 123) hC xcl_9 sh_154 fl_RX9_203 dX9_readsClause_120 (by decide) rfl rfl ?_
          refine V.aload_n (r := 124) hC 0 dX9_readsClause_123 rfl rfl ?_
          refine V.getI (b := 169) (i := 0) (j := 9) (r := 127) hC xcl_9 sh_154 fl_RX9_146 dX9_readsClause_124 (by decide) rfl rfl ?_
          by_cases c22 : (q19.2 171 0) < 0 ∨ 16 ≤ (q19.2 171 0).toNatClampNeg
          · rw [if_pos c22] at h; cases h
          rw [if_neg c22] at h
          rw [mset_eq] at h
          refine V.iast (t := (q19.2 171 0).toNatClampNeg) (r := 128) hC sh_164 dX9_readsClause_127 c22 (Nat.zero_add _) rfl ?_
          generalize upM q19.2 179 (q19.2 171 0).toNatClampNeg (q19.2 169 0) = M23 at h ⊢
          refine V.aload_n (r := 129) hC 0 dX9_readsClause_128 rfl rfl ?_
          refine V.aload_n (r := 130) hC 0 dX9_readsClause_129 rfl rfl ?_
          refine V.getI (b := 171) (i := 0) (j := 11) (r := 133) hC xcl_9 sh_154 fl_RX9_203 dX9_readsClause_130 (by decide) rfl rfl ?_
          refine V.iconst (r := 134) hC dX9_readsClause_133 ki_1 rfl ?_
          refine V.iadd (r := 135) hC dX9_readsClause_134 rfl ?_
          rw [mset_eq] at h
          refine V.putI (b := 171) (i := 0) (j := 11) (ty := .int) (r := 138) hC xcl_9 xcp_9 sh_154 fl_RX9_203 dX9_readsClause_135 (by decide) rfl rfl (by decide +kernel) rfl rfl rfl ?_
          generalize upM M23 171 0 ((M23 171 0) + (1 : Int32)) = M24 at h ⊢
          refine V.iconst (r := 139) hC dX9_readsClause_138 ki_1 rfl ?_
          cases h
          exact hR _ _ (Or.inr rfl) dX9_readsClause_139
        · rw [if_pos c21] at h
          refine V.iconst (r := 114) hC dX9_readsClause_113 ki_0 rfl ?_
          cases h
          exact hR _ _ (Or.inl rfl) dX9_readsClause_114
      · rw [if_pos c16] at h
        refine V.iconst (r := 92) hC dX9_readsClause_91 ki_0 rfl ?_
        cases h
        exact hR _ _ (Or.inl rfl) dX9_readsClause_92
    · rw [if_pos c6] at h
      refine V.aload_n (r := 32) hC 0 dX9_readsClause_31 rfl rfl ?_
      refine V.iconst (r := 33) hC dX9_readsClause_32 ki_4 rfl ?_
      refine V.aload_n (r := 34) hC 0 dX9_readsClause_33 rfl rfl ?_
      refine V.getI (b := 165) (i := 0) (j := 5) (r := 37) hC xcl_9 sh_154 fl_RX9_123 dX9_readsClause_34 (by decide) rfl rfl ?_
      obtain ⟨q25, hq26, h⟩ := Option.bind_eq_some_iff.mp h
      try dsimp only at h
      refine V.invVi (as := [.inl (4 : Int32), .inl (q3.2 165 0)]) (st := []) (r := 40) hC (met9_wrongAt hq26) yv_X9_wrongAt ml_RX9_136 sh_154 rfl rfl dX9_readsClause_37 (by decide) rfl rfl rfl rfl ?_
      by_cases c27 : ¬ ((q25.1) = 0 ∨ (q25.1) = 1)
      · rw [if_neg c27] at h; cases h
      replace c27 := Classical.not_not.mp c27
      rw [if_pos c27] at h
      cases h
      exact hR _ _ c27 dX9_readsClause_40
  · rw [if_pos c5] at h
    refine V.aload_n (r := 13) hC 0 dX9_readsClause_12 rfl rfl ?_
    refine V.iconst (r := 14) hC dX9_readsClause_13 ki_1 rfl ?_
    refine V.aload_n (r := 15) hC 0 dX9_readsClause_14 rfl rfl ?_
    refine V.getI (b := 165) (i := 0) (j := 5) (r := 18) hC xcl_9 sh_154 fl_RX9_123 dX9_readsClause_15 (by decide) rfl rfl ?_
    obtain ⟨q28, hq29, h⟩ := Option.bind_eq_some_iff.mp h
    try dsimp only at h
    refine V.invVi (as := [.inl (1 : Int32), .inl (q3.2 165 0)]) (st := []) (r := 21) hC (met9_wrongAt hq29) yv_X9_wrongAt ml_RX9_136 sh_154 rfl rfl dX9_readsClause_18 (by decide) rfl rfl rfl rfl ?_
    by_cases c30 : ¬ ((q28.1) = 0 ∨ (q28.1) = 1)
    · rw [if_neg c30] at h; cases h
    replace c30 := Classical.not_not.mp c30
    rw [if_pos c30] at h
    cases h
    exact hR _ _ c30 dX9_readsClause_21
theorem met9_readsClause {R : Int32 × xMem} {M : xMem} (h : g9_readsClause M = some R) : xMet yX9_readsClause cX9_readsClause 2 (some .boolean) 7 [.inr 154] M (some R.1) R.2 := xMet.ofZ (by decide +kernel) (Nat.le_of_ble_eq_true rfl) fun _ hC hR => v9_readsClause  hC hR h
def g9_law_b82 (k46 : Int32 → xMem → Option (Int32 × xMem)) (s0 : Int32) (M : xMem) : Option (Int32 × xMem) :=
k46 s0 M
set_option maxHeartbeats 4000000 in
set_option maxRecDepth 20000 in
theorem v9_law_b82 {G : xG} (hC : xC G cX9_law 4 RX9 8) {R : Int32 × xMem} (hR : xRI G cX9_law 4 R) {k46 : Int32 → xMem → Option (Int32 × xMem)} (hk46 : ∀ (y2 : Int32) (N : xMem), k46 y2 N = some R → V G 4 46 [(0, .inr 154), (2, .inl y2)] [] N) (s0 : Int32) (M : xMem) (h : g9_law_b82 k46 s0 M = some R) : V G 4 82 [(0, .inr 154)] [.inl s0] M := by
  unfold g9_law_b82 at h
  refine V.ist_n (lv' := [(0, .inr 154), (2, .inl s0)]) (r := 83) hC dX9_law_82 rfl rfl rfl ?_
  refine V.goto (tgt := 46) hC dX9_law_83 (by decide) ?_
  exact hk46 _ _ h
def g9_law_b81 (k46 : Int32 → xMem → Option (Int32 × xMem)) (M : xMem) : Option (Int32 × xMem) :=
g9_law_b82 k46 (0 : Int32) M
set_option maxHeartbeats 4000000 in
set_option maxRecDepth 20000 in
theorem v9_law_b81 {G : xG} (hC : xC G cX9_law 4 RX9 8) {R : Int32 × xMem} (hR : xRI G cX9_law 4 R) {k46 : Int32 → xMem → Option (Int32 × xMem)} (hk46 : ∀ (y2 : Int32) (N : xMem), k46 y2 N = some R → V G 4 46 [(0, .inr 154), (2, .inl y2)] [] N) (M : xMem) (h : g9_law_b81 k46 M = some R) : V G 4 81 [(0, .inr 154)] [] M := by
  unfold g9_law_b81 at h
  refine V.iconst (r := 82) hC dX9_law_81 ki_0 rfl ?_
  exact v9_law_b82  hC hR hk46 _ _ h
def g9_law_b138 : Nat → Int32 → xMem → Option (Int32 × xMem)
  | 0, _, _ => none
  | n + 1, x3, M => 
    (if (M 171 0) ≤ x3 then
    (some (M 171 0, M))
    else
    (if x3 < 0 ∨ 16 ≤ x3.toNatClampNeg then none else
    mset (upM M 181 x3.toNatClampNeg (M 176 x3.toNatClampNeg)) fun M27 =>
    mset (upM M27 182 x3.toNatClampNeg (M27 177 x3.toNatClampNeg)) fun M28 =>
    mset (upM M28 183 x3.toNatClampNeg (M28 178 x3.toNatClampNeg)) fun M29 =>
    mset (upM M29 184 x3.toNatClampNeg (M29 179 x3.toNatClampNeg)) fun M30 =>
    g9_law_b138 n (x3 + (1 : Int32)) M30))
set_option maxHeartbeats 4000000 in
set_option maxRecDepth 20000 in
theorem v9_law_b138 {G : xG} (hC : xC G cX9_law 4 RX9 8) {R : Int32 × xMem} (hR : xRI G cX9_law 4 R) : ∀ (n : Nat) (x3 : Int32) (M : xMem), g9_law_b138 n x3 M = some R → V G 4 138 [(0, .inr 154), (3, .inl x3)] [] M := by
  intro n
  induction n with
  | zero => intro x3 M h; rw [g9_law_b138] at h; cases h
  | succ n ih =>
    intro x3 M h
    rw [g9_law_b138] at h
    refine V.iload_n (r := 139) hC 1 dX9_law_138 rfl rfl ?_
    refine V.aload_n (r := 140) hC 0 dX9_law_139 rfl rfl ?_
    refine V.getI (b := 171) (i := 0) (j := 11) (r := 143) hC xcl_9 sh_154 fl_RX9_203 dX9_law_140 (by decide) rfl rfl ?_
    refine V.icmp_ge (tgt := 200) (r := 146) hC dX9_law_143 (by decide) rfl (fun c25 => ?_) (fun c25 => ?_)
    · rw [if_pos c25] at h
      refine V.aload_n (r := 201) hC 0 dX9_law_200 rfl rfl ?_
      refine V.getI (b := 171) (i := 0) (j := 11) (r := 204) hC xcl_9 sh_154 fl_RX9_203 dX9_law_201 (by decide) rfl rfl ?_
      cases h
      exact hR _ _ dX9_law_204
    · rw [if_neg c25] at h
      refine V.aload_n (r := 147) hC 0 dX9_law_146 rfl rfl ?_
      refine V.getR (k' := 166) (j := 21) (r := 150) hC xcl_9 sh_154 fl_RX9_44 dX9_law_147 (by decide) rfl rfl ?_
      refine V.iload_n (r := 151) hC 1 dX9_law_150 rfl rfl ?_
      refine V.aload_n (r := 152) hC 0 dX9_law_151 rfl rfl ?_
      refine V.getR (k' := 161) (j := 16) (r := 155) hC xcl_9 sh_154 fl_RX9_29 dX9_law_152 (by decide) rfl rfl ?_
      refine V.iload_n (r := 156) hC 1 dX9_law_155 rfl rfl ?_
      by_cases c26 : x3 < 0 ∨ 16 ≤ x3.toNatClampNeg
      · rw [if_pos c26] at h; cases h
      rw [if_neg c26] at h
      refine V.iald (t := x3.toNatClampNeg) (r := 157) hC sh_161 dX9_law_156 c26 (Nat.zero_add _) rfl ?_
      rw [mset_eq] at h
      refine V.iast (t := x3.toNatClampNeg) (r := 158) hC sh_166 dX9_law_157 c26 (Nat.zero_add _) rfl ?_
      generalize upM M 181 x3.toNatClampNeg (M 176 x3.toNatClampNeg) = M27 at h ⊢
      refine V.aload_n (r := 159) hC 0 dX9_law_158 rfl rfl ?_
      refine V.getR (k' := 167) (j := 22) (r := 162) hC xcl_9 sh_154 fl_RX9_47 dX9_law_159 (by decide) rfl rfl ?_
      refine V.iload_n (r := 163) hC 1 dX9_law_162 rfl rfl ?_
      refine V.aload_n (r := 164) hC 0 dX9_law_163 rfl rfl ?_
      refine V.getR (k' := 162) (j := 17) (r := 167) hC xcl_9 sh_154 fl_RX9_32 dX9_law_164 (by decide) rfl rfl ?_
      refine V.iload_n (r := 168) hC 1 dX9_law_167 rfl rfl ?_
      refine V.iald (t := x3.toNatClampNeg) (r := 169) hC sh_162 dX9_law_168 c26 (Nat.zero_add _) rfl ?_
      rw [mset_eq] at h
      refine V.iast (t := x3.toNatClampNeg) (r := 170) hC sh_167 dX9_law_169 c26 (Nat.zero_add _) rfl ?_
      generalize upM M27 182 x3.toNatClampNeg (M27 177 x3.toNatClampNeg) = M28 at h ⊢
      refine V.aload_n (r := 171) hC 0 dX9_law_170 rfl rfl ?_
      refine V.getR (k' := 168) (j := 23) (r := 174) hC xcl_9 sh_154 fl_RX9_50 dX9_law_171 (by decide) rfl rfl ?_
      refine V.iload_n (r := 175) hC 1 dX9_law_174 rfl rfl ?_
      refine V.aload_n (r := 176) hC 0 dX9_law_175 rfl rfl ?_
      refine V.getR (k' := 163) (j := 18) (r := 179) hC xcl_9 sh_154 fl_RX9_35 dX9_law_176 (by decide) rfl rfl ?_
      refine V.iload_n (r := 180) hC 1 dX9_law_179 rfl rfl ?_
      refine V.iald (t := x3.toNatClampNeg) (r := 181) hC sh_163 dX9_law_180 c26 (Nat.zero_add _) rfl ?_
      rw [mset_eq] at h
      refine V.iast (t := x3.toNatClampNeg) (r := 182) hC sh_168 dX9_law_181 c26 (Nat.zero_add _) rfl ?_
      generalize upM M28 183 x3.toNatClampNeg (M28 178 x3.toNatClampNeg) = M29 at h ⊢
      refine V.aload_n (r := 183) hC 0 dX9_law_182 rfl rfl ?_
      refine V.getR (k' := 169) (j := 24) (r := 186) hC xcl_9 sh_154 fl_RX9_53 dX9_law_183 (by decide) rfl rfl ?_
      refine V.iload_n (r := 187) hC 1 dX9_law_186 rfl rfl ?_
      refine V.aload_n (r := 188) hC 0 dX9_law_187 rfl rfl ?_
      refine V.getR (k' := 164) (j := 19) (r := 191) hC xcl_9 sh_154 fl_RX9_38 dX9_law_188 (by decide) rfl rfl ?_
      refine V.iload_n (r := 192) hC 1 dX9_law_191 rfl rfl ?_
      refine V.iald (t := x3.toNatClampNeg) (r := 193) hC sh_164 dX9_law_192 c26 (Nat.zero_add _) rfl ?_
      rw [mset_eq] at h
      refine V.iast (t := x3.toNatClampNeg) (r := 194) hC sh_169 dX9_law_193 c26 (Nat.zero_add _) rfl ?_
      generalize upM M29 184 x3.toNatClampNeg (M29 179 x3.toNatClampNeg) = M30 at h ⊢
      refine V.inc (lv' := [(0, .inr 154), (3, .inl (x3 + (1 : Int32)))]) (r := 197) hC 1 dX9_law_194 rfl ki_1 rfl rfl rfl ?_
      refine V.goto (tgt := 138) hC dX9_law_197 (by decide) ?_
      exact ih _ _ h
def g9_law_b110 : Nat → Int32 → xMem → Option (Int32 × xMem)
  | 0, _, _ => none
  | n + 1, x3, M => 
    (if (M 169 0) ≤ x3 then
    (g9_law_b138 5000 (0 : Int32) M)
    else
    (if x3 < 0 ∨ 260 ≤ x3.toNatClampNeg then none else
    mset (upM M 180 x3.toNatClampNeg (M 174 x3.toNatClampNeg)) fun M24 =>
    g9_law_b110 n (x3 + (1 : Int32)) M24))
set_option maxHeartbeats 4000000 in
set_option maxRecDepth 20000 in
theorem v9_law_b110 {G : xG} (hC : xC G cX9_law 4 RX9 8) {R : Int32 × xMem} (hR : xRI G cX9_law 4 R) : ∀ (n : Nat) (x3 : Int32) (M : xMem), g9_law_b110 n x3 M = some R → V G 4 110 [(0, .inr 154), (3, .inl x3)] [] M := by
  intro n
  induction n with
  | zero => intro x3 M h; rw [g9_law_b110] at h; cases h
  | succ n ih =>
    intro x3 M h
    rw [g9_law_b110] at h
    refine V.iload_n (r := 111) hC 1 dX9_law_110 rfl rfl ?_
    refine V.aload_n (r := 112) hC 0 dX9_law_111 rfl rfl ?_
    refine V.getI (b := 169) (i := 0) (j := 9) (r := 115) hC xcl_9 sh_154 fl_RX9_146 dX9_law_112 (by decide) rfl rfl ?_
    refine V.icmp_ge (tgt := 136) (r := 118) hC dX9_law_115 (by decide) rfl (fun c22 => ?_) (fun c22 => ?_)
    · rw [if_pos c22] at h
      refine V.iconst (r := 137) hC dX9_law_136 ki_0 rfl ?_
      refine V.ist_n (lv' := [(0, .inr 154), (3, .inl (0 : Int32))]) (r := 138) hC dX9_law_137 rfl rfl rfl ?_
      exact v9_law_b138  hC hR  5000 _ _ h
    · rw [if_neg c22] at h
      refine V.aload_n (r := 119) hC 0 dX9_law_118 rfl rfl ?_
      refine V.getR (k' := 165) (j := 20) (r := 122) hC xcl_9 sh_154 fl_RX9_41 dX9_law_119 (by decide) rfl rfl ?_
      refine V.iload_n (r := 123) hC 1 dX9_law_122 rfl rfl ?_
      refine V.aload_n (r := 124) hC 0 dX9_law_123 rfl rfl ?_
      refine V.getR (k' := 159) (j := 14) (r := 127) hC xcl_9 sh_154 fl_RX9_23 dX9_law_124 (by decide) rfl rfl ?_
      refine V.iload_n (r := 128) hC 1 dX9_law_127 rfl rfl ?_
      by_cases c23 : x3 < 0 ∨ 260 ≤ x3.toNatClampNeg
      · rw [if_pos c23] at h; cases h
      rw [if_neg c23] at h
      refine V.iald (t := x3.toNatClampNeg) (r := 129) hC sh_159 dX9_law_128 c23 (Nat.zero_add _) rfl ?_
      rw [mset_eq] at h
      refine V.iast (t := x3.toNatClampNeg) (r := 130) hC sh_165 dX9_law_129 c23 (Nat.zero_add _) rfl ?_
      generalize upM M 180 x3.toNatClampNeg (M 174 x3.toNatClampNeg) = M24 at h ⊢
      refine V.inc (lv' := [(0, .inr 154), (3, .inl (x3 + (1 : Int32)))]) (r := 133) hC 1 dX9_law_130 rfl ki_1 rfl rfl rfl ?_
      refine V.goto (tgt := 110) hC dX9_law_133 (by decide) ?_
      exact ih _ _ h
def g9_law_b86 (x2 : Int32) (M : xMem) : Option (Int32 × xMem) :=
mset (upM M 164 0 (0 : Int32)) fun M19 =>
if x2 = 0 then
(some (M19 167 0, M19))
else
(mset (upM M19 173 0 (M19 171 0)) fun M21 =>
g9_law_b110 5000 (0 : Int32) M21)
set_option maxHeartbeats 4000000 in
set_option maxRecDepth 20000 in
theorem v9_law_b86 {G : xG} (hC : xC G cX9_law 4 RX9 8) {R : Int32 × xMem} (hR : xRI G cX9_law 4 R) (x2 : Int32) (M : xMem) (h : g9_law_b86 x2 M = some R) : V G 4 86 [(0, .inr 154), (2, .inl x2)] [] M := by
  unfold g9_law_b86 at h
  refine V.aload_n (r := 87) hC 0 dX9_law_86 rfl rfl ?_
  refine V.iconst (r := 88) hC dX9_law_87 ki_0 rfl ?_
  rw [mset_eq] at h
  refine V.putI (b := 164) (i := 0) (j := 4) (ty := .int) (r := 91) hC xcl_9 xcp_9 sh_154 fl_RX9_115 dX9_law_88 (by decide) rfl rfl (by decide +kernel) rfl rfl rfl ?_
  generalize upM M 164 0 (0 : Int32) = M19 at h ⊢
  refine V.iload_n (r := 92) hC 1 dX9_law_91 rfl rfl ?_
  refine V.if_ne (tgt := 100) (r := 95) hC dX9_law_92 (by decide) rfl (fun c20 => ?_) (fun c20 => ?_)
  · rw [if_neg c20] at h
    refine V.aload_n (r := 101) hC 0 dX9_law_100 rfl rfl ?_
    refine V.aload_n (r := 102) hC 0 dX9_law_101 rfl rfl ?_
    refine V.getI (b := 171) (i := 0) (j := 11) (r := 105) hC xcl_9 sh_154 fl_RX9_203 dX9_law_102 (by decide) rfl rfl ?_
    rw [mset_eq] at h
    refine V.putI (b := 173) (i := 0) (j := 13) (ty := .int) (r := 108) hC xcl_9 xcp_9 sh_154 fl_RX9_215 dX9_law_105 (by decide) rfl rfl (by decide +kernel) rfl rfl rfl ?_
    generalize upM M19 173 0 (M19 171 0) = M21 at h ⊢
    refine V.iconst (r := 109) hC dX9_law_108 ki_0 rfl ?_
    refine V.ist_n (lv' := [(0, .inr 154), (2, .inl x2), (3, .inl (0 : Int32))]) (r := 110) hC dX9_law_109 rfl rfl rfl ?_
    refine V.pick (lv' := [(0, .inr 154), (3, .inl (0 : Int32))]) [0, 2] rfl ?_
    exact v9_law_b110  hC hR  5000 _ _ h
  · rw [if_pos c20] at h
    refine V.aload_n (r := 96) hC 0 dX9_law_95 rfl rfl ?_
    refine V.getI (b := 167) (i := 0) (j := 7) (r := 99) hC xcl_9 sh_154 fl_RX9_133 dX9_law_96 (by decide) rfl rfl ?_
    cases h
    exact hR _ _ dX9_law_99
def g9_law_b46 : Nat → Int32 → xMem → Option (Int32 × xMem)
  | 0, _, _ => none
  | n + 1, x2, M => 
    (if x2 = 0 then
    (g9_law_b86 x2 M)
    else
    (if (M 166 0) ≤ (M 165 0) then
    (g9_law_b86 x2 M)
    else
    (Option.bind (g9_takes (59 : Int32) M) fun q13 =>
    if (q13.1) = 0 then
    (g9_law_b81 (g9_law_b46 n) q13.2)
    else
    (Option.bind (g9_readsClause q13.2) fun q16 =>
    if (q16.1) = 0 then
    (g9_law_b81 (g9_law_b46 n) q16.2)
    else
    (g9_law_b82 (g9_law_b46 n) (1 : Int32) q16.2)))))
set_option maxHeartbeats 4000000 in
set_option maxRecDepth 20000 in
theorem v9_law_b46 {G : xG} (hC : xC G cX9_law 4 RX9 8) {R : Int32 × xMem} (hR : xRI G cX9_law 4 R) : ∀ (n : Nat) (x2 : Int32) (M : xMem), g9_law_b46 n x2 M = some R → V G 4 46 [(0, .inr 154), (2, .inl x2)] [] M := by
  intro n
  induction n with
  | zero => intro x2 M h; rw [g9_law_b46] at h; cases h
  | succ n ih =>
    intro x2 M h
    rw [g9_law_b46] at h
    refine V.iload_n (r := 47) hC 1 dX9_law_46 rfl rfl ?_
    refine V.if_eq (tgt := 86) (r := 50) hC dX9_law_47 (by decide) rfl (fun c11 => ?_) (fun c11 => ?_)
    · rw [if_pos c11] at h
      exact v9_law_b86  hC hR  _ _ h
    · rw [if_neg c11] at h
      refine V.aload_n (r := 51) hC 0 dX9_law_50 rfl rfl ?_
      refine V.getI (b := 165) (i := 0) (j := 5) (r := 54) hC xcl_9 sh_154 fl_RX9_123 dX9_law_51 (by decide) rfl rfl ?_
      refine V.aload_n (r := 55) hC 0 dX9_law_54 rfl rfl ?_
      refine V.getI (b := 166) (i := 0) (j := 6) (r := 58) hC xcl_9 sh_154 fl_RX9_126 dX9_law_55 (by decide) rfl rfl ?_
      refine V.icmp_ge (tgt := 86) (r := 61) hC dX9_law_58 (by decide) rfl (fun c12 => ?_) (fun c12 => ?_)
      · rw [if_pos c12] at h
        exact v9_law_b86  hC hR  _ _ h
      · rw [if_neg c12] at h
        refine V.aload_n (r := 62) hC 0 dX9_law_61 rfl rfl ?_
        refine V.bipush (r := 64) hC dX9_law_62 kb_59 rfl ?_
        obtain ⟨q13, hq14, h⟩ := Option.bind_eq_some_iff.mp h
        try dsimp only at h
        refine V.invVi (as := [.inl (59 : Int32)]) (st := []) (r := 67) hC (met9_takes hq14) yv_X9_takes ml_RX9_212 sh_154 rfl rfl dX9_law_64 (by decide) rfl rfl rfl rfl ?_
        refine V.if_eq (tgt := 81) (r := 70) hC dX9_law_67 (by decide) rfl (fun c15 => ?_) (fun c15 => ?_)
        · rw [if_pos c15] at h
          refine V.pick (lv' := [(0, .inr 154)]) [0] rfl ?_
          exact v9_law_b81  hC hR ih _ h
        · rw [if_neg c15] at h
          refine V.aload_n (r := 71) hC 0 dX9_law_70 rfl rfl ?_
          obtain ⟨q16, hq17, h⟩ := Option.bind_eq_some_iff.mp h
          try dsimp only at h
          refine V.invVi (as := []) (st := []) (r := 74) hC (met9_readsClause hq17) yv_X9_readsClause ml_RX9_209 sh_154 rfl rfl dX9_law_71 (by decide) rfl rfl rfl rfl ?_
          refine V.if_eq (tgt := 81) (r := 77) hC dX9_law_74 (by decide) rfl (fun c18 => ?_) (fun c18 => ?_)
          · rw [if_pos c18] at h
            refine V.pick (lv' := [(0, .inr 154)]) [0] rfl ?_
            exact v9_law_b81  hC hR ih _ h
          · rw [if_neg c18] at h
            refine V.iconst (r := 78) hC dX9_law_77 ki_1 rfl ?_
            refine V.goto (tgt := 82) hC dX9_law_78 (by decide) ?_
            refine V.pick (lv' := [(0, .inr 154)]) [0] rfl ?_
            exact v9_law_b82  hC hR ih _ _ h
def g9_law (a0 : Int32) (M : xMem) : Option (Int32 × xMem) :=
Option.bind (g9_in a0 (1 : Int32) (240 : Int32) M) fun q1 =>
if (q1.1) = 0 then
(some ((-1 : Int32), q1.2))
else
(if a0 ≤ (q1.2 164 0) then
(mset (upM q1.2 165 0 (0 : Int32)) fun M5 =>
mset (upM M5 166 0 a0) fun M6 =>
mset (upM M6 169 0 (0 : Int32)) fun M7 =>
mset (upM M7 171 0 (0 : Int32)) fun M8 =>
Option.bind (g9_readsClause M8) fun q9 =>
g9_law_b46 5000 (q9.1) q9.2)
else
(some ((-1 : Int32), q1.2)))
set_option maxHeartbeats 4000000 in
set_option maxRecDepth 20000 in
theorem v9_law {G : xG} (hC : xC G cX9_law 4 RX9 8) {R : Int32 × xMem} (hR : xRI G cX9_law 4 R) {a0 : Int32} {M : xMem} (h : g9_law a0 M = some R) : V G 4 0 [(0, .inr 154), (1, .inl a0)] [] M := by
  unfold g9_law at h
  refine V.iload_n (r := 1) hC 1 dX9_law_0 rfl rfl ?_
  refine V.iconst (r := 2) hC dX9_law_1 ki_1 rfl ?_
  refine V.sipush (r := 5) hC dX9_law_2 ks_240 rfl ?_
  obtain ⟨q1, hq2, h⟩ := Option.bind_eq_some_iff.mp h
  try dsimp only at h
  refine V.invSi (as := [.inl a0, .inl (1 : Int32), .inl (240 : Int32)]) (st := []) (r := 8) hC (met9_in hq2) ys_X9_in ml_RX9_92 dX9_law_5 (by decide) rfl rfl rfl rfl ?_
  refine V.if_eq (tgt := 19) (r := 11) hC dX9_law_8 (by decide) rfl (fun c3 => ?_) (fun c3 => ?_)
  · rw [if_pos c3] at h
    refine V.iconst (r := 20) hC dX9_law_19 ki_m1 rfl ?_
    cases h
    exact hR _ _ dX9_law_20
  · rw [if_neg c3] at h
    refine V.iload_n (r := 12) hC 1 dX9_law_11 rfl rfl ?_
    refine V.aload_n (r := 13) hC 0 dX9_law_12 rfl rfl ?_
    refine V.getI (b := 164) (i := 0) (j := 4) (r := 16) hC xcl_9 sh_154 fl_RX9_115 dX9_law_13 (by decide) rfl rfl ?_
    refine V.icmp_le (tgt := 21) (r := 19) hC dX9_law_16 (by decide) rfl (fun c4 => ?_) (fun c4 => ?_)
    · rw [if_pos c4] at h
      refine V.aload_n (r := 22) hC 0 dX9_law_21 rfl rfl ?_
      refine V.iconst (r := 23) hC dX9_law_22 ki_0 rfl ?_
      rw [mset_eq] at h
      refine V.putI (b := 165) (i := 0) (j := 5) (ty := .int) (r := 26) hC xcl_9 xcp_9 sh_154 fl_RX9_123 dX9_law_23 (by decide) rfl rfl (by decide +kernel) rfl rfl rfl ?_
      generalize upM q1.2 165 0 (0 : Int32) = M5 at h ⊢
      refine V.aload_n (r := 27) hC 0 dX9_law_26 rfl rfl ?_
      refine V.iload_n (r := 28) hC 1 dX9_law_27 rfl rfl ?_
      rw [mset_eq] at h
      refine V.putI (b := 166) (i := 0) (j := 6) (ty := .int) (r := 31) hC xcl_9 xcp_9 sh_154 fl_RX9_126 dX9_law_28 (by decide) rfl rfl (by decide +kernel) rfl rfl rfl ?_
      generalize upM M5 166 0 a0 = M6 at h ⊢
      refine V.aload_n (r := 32) hC 0 dX9_law_31 rfl rfl ?_
      refine V.iconst (r := 33) hC dX9_law_32 ki_0 rfl ?_
      rw [mset_eq] at h
      refine V.putI (b := 169) (i := 0) (j := 9) (ty := .int) (r := 36) hC xcl_9 xcp_9 sh_154 fl_RX9_146 dX9_law_33 (by decide) rfl rfl (by decide +kernel) rfl rfl rfl ?_
      generalize upM M6 169 0 (0 : Int32) = M7 at h ⊢
      refine V.aload_n (r := 37) hC 0 dX9_law_36 rfl rfl ?_
      refine V.iconst (r := 38) hC dX9_law_37 ki_0 rfl ?_
      rw [mset_eq] at h
      refine V.putI (b := 171) (i := 0) (j := 11) (ty := .int) (r := 41) hC xcl_9 xcp_9 sh_154 fl_RX9_203 dX9_law_38 (by decide) rfl rfl (by decide +kernel) rfl rfl rfl ?_
      generalize upM M7 171 0 (0 : Int32) = M8 at h ⊢
      refine V.aload_n (r := 42) hC 0 dX9_law_41 rfl rfl ?_
      obtain ⟨q9, hq10, h⟩ := Option.bind_eq_some_iff.mp h
      try dsimp only at h
      refine V.invVi (as := []) (st := []) (r := 45) hC (met9_readsClause hq10) yv_X9_readsClause ml_RX9_209 sh_154 rfl rfl dX9_law_42 (by decide) rfl rfl rfl rfl ?_
      refine V.ist_n (lv' := [(0, .inr 154), (1, .inl a0), (2, .inl (q9.1))]) (r := 46) hC dX9_law_45 rfl rfl rfl ?_
      refine V.pick (lv' := [(0, .inr 154), (2, .inl (q9.1))]) [0, 2] rfl ?_
      exact v9_law_b46  hC hR  5000 _ _ h
    · rw [if_neg c4] at h
      refine V.iconst (r := 20) hC dX9_law_19 ki_m1 rfl ?_
      cases h
      exact hR _ _ dX9_law_20
theorem met9_law {R : Int32 × xMem} {a0 : Int32} {M : xMem} (h : g9_law a0 M = some R) : xMet yX9_law cX9_law 4 (some .int) 8 [.inr 154, .inl a0] M (some R.1) R.2 := xMet.ofI (by decide +kernel) (Nat.le_of_ble_eq_true rfl) fun _ hC hR => v9_law  hC hR h
def g9_reckon (a0 a1 a2 : Int32) (M : xMem) : Option (Int32 × xMem) :=
if a0 = (2 : Int32) then
(some (a1 + a2, M))
else
if a0 = (3 : Int32) then
(some (a1 - a2, M))
else
if a0 = (4 : Int32) then
(some (a1 * a2, M))
else
if a0 = (5 : Int32) then
(if a2 = 0 then none else
some (a1 / a2, M))
else
if a0 = (6 : Int32) then
(if a2 = 0 then none else
some (a1 - a1 / a2 * a2, M))
else
if a0 = (7 : Int32) then
(if a2 ≤ a1 then
(some ((0 : Int32), M))
else
(some ((1 : Int32), M)))
else
if a0 = (8 : Int32) then
(if a1 ≤ a2 then
(some ((0 : Int32), M))
else
(some ((1 : Int32), M)))
else
(if a1 = a2 then
(some ((1 : Int32), M))
else
(some ((0 : Int32), M)))
set_option maxHeartbeats 4000000 in
set_option maxRecDepth 20000 in
theorem v9_reckon {G : xG} (hC : xC G cX9_reckon 3 RX9 0) {R : Int32 × xMem} (hR : xRI G cX9_reckon 3 R) {a0 a1 a2 : Int32} {M : xMem} (h : g9_reckon a0 a1 a2 M = some R) : V G 3 0 [(0, .inl a0), (1, .inl a1), (2, .inl a2)] [] M := by
  unfold g9_reckon at h
  refine V.iload_n (r := 1) hC 0 dX9_reckon_0 rfl rfl ?_
  by_cases c1 : a0 = (2 : Int32)
  · rw [if_pos c1] at h
    refine V.tabIn (off := 43) (tgt := 44) hC dX9_reckon_1 c1 (by decide) (by decide) (by decide) (by decide) ?_
    refine V.iload_n (r := 45) hC 1 dX9_reckon_44 rfl rfl ?_
    refine V.iload_n (r := 46) hC 2 dX9_reckon_45 rfl rfl ?_
    refine V.iadd (r := 47) hC dX9_reckon_46 rfl ?_
    cases h
    exact hR _ _ dX9_reckon_47
  rw [if_neg c1] at h
  by_cases c2 : a0 = (3 : Int32)
  · rw [if_pos c2] at h
    refine V.tabIn (off := 47) (tgt := 48) hC dX9_reckon_1 c2 (by decide) (by decide) (by decide) (by decide) ?_
    refine V.iload_n (r := 49) hC 1 dX9_reckon_48 rfl rfl ?_
    refine V.iload_n (r := 50) hC 2 dX9_reckon_49 rfl rfl ?_
    refine V.isub (r := 51) hC dX9_reckon_50 rfl ?_
    cases h
    exact hR _ _ dX9_reckon_51
  rw [if_neg c2] at h
  by_cases c3 : a0 = (4 : Int32)
  · rw [if_pos c3] at h
    refine V.tabIn (off := 51) (tgt := 52) hC dX9_reckon_1 c3 (by decide) (by decide) (by decide) (by decide) ?_
    refine V.iload_n (r := 53) hC 1 dX9_reckon_52 rfl rfl ?_
    refine V.iload_n (r := 54) hC 2 dX9_reckon_53 rfl rfl ?_
    refine V.imul (r := 55) hC dX9_reckon_54 rfl ?_
    cases h
    exact hR _ _ dX9_reckon_55
  rw [if_neg c3] at h
  by_cases c4 : a0 = (5 : Int32)
  · rw [if_pos c4] at h
    refine V.tabIn (off := 55) (tgt := 56) hC dX9_reckon_1 c4 (by decide) (by decide) (by decide) (by decide) ?_
    refine V.iload_n (r := 57) hC 1 dX9_reckon_56 rfl rfl ?_
    refine V.iload_n (r := 58) hC 2 dX9_reckon_57 rfl rfl ?_
    by_cases c5 : a2 = 0
    · rw [if_pos c5] at h; cases h
    rw [if_neg c5] at h
    refine V.idiv (r := 59) hC dX9_reckon_58 c5 rfl ?_
    cases h
    exact hR _ _ dX9_reckon_59
  rw [if_neg c4] at h
  by_cases c6 : a0 = (6 : Int32)
  · rw [if_pos c6] at h
    refine V.tabIn (off := 59) (tgt := 60) hC dX9_reckon_1 c6 (by decide) (by decide) (by decide) (by decide) ?_
    refine V.iload_n (r := 61) hC 1 dX9_reckon_60 rfl rfl ?_
    refine V.iload_n (r := 62) hC 2 dX9_reckon_61 rfl rfl ?_
    by_cases c7 : a2 = 0
    · rw [if_pos c7] at h; cases h
    rw [if_neg c7] at h
    refine V.irem (r := 63) hC dX9_reckon_62 c7 rfl ?_
    cases h
    exact hR _ _ dX9_reckon_63
  rw [if_neg c6] at h
  by_cases c8 : a0 = (7 : Int32)
  · rw [if_pos c8] at h
    refine V.tabIn (off := 63) (tgt := 64) hC dX9_reckon_1 c8 (by decide) (by decide) (by decide) (by decide) ?_
    refine V.iload_n (r := 65) hC 1 dX9_reckon_64 rfl rfl ?_
    refine V.iload_n (r := 66) hC 2 dX9_reckon_65 rfl rfl ?_
    refine V.icmp_ge (tgt := 73) (r := 69) hC dX9_reckon_66 (by decide) rfl (fun c9 => ?_) (fun c9 => ?_)
    · rw [if_pos c9] at h
      refine V.iconst (r := 74) hC dX9_reckon_73 ki_0 rfl ?_
      cases h
      exact hR _ _ dX9_reckon_74
    · rw [if_neg c9] at h
      refine V.iconst (r := 70) hC dX9_reckon_69 ki_1 rfl ?_
      refine V.goto (tgt := 74) hC dX9_reckon_70 (by decide) ?_
      cases h
      exact hR _ _ dX9_reckon_74
  rw [if_neg c8] at h
  by_cases c10 : a0 = (8 : Int32)
  · rw [if_pos c10] at h
    refine V.tabIn (off := 74) (tgt := 75) hC dX9_reckon_1 c10 (by decide) (by decide) (by decide) (by decide) ?_
    refine V.iload_n (r := 76) hC 1 dX9_reckon_75 rfl rfl ?_
    refine V.iload_n (r := 77) hC 2 dX9_reckon_76 rfl rfl ?_
    refine V.icmp_le (tgt := 84) (r := 80) hC dX9_reckon_77 (by decide) rfl (fun c11 => ?_) (fun c11 => ?_)
    · rw [if_pos c11] at h
      refine V.iconst (r := 85) hC dX9_reckon_84 ki_0 rfl ?_
      cases h
      exact hR _ _ dX9_reckon_85
    · rw [if_neg c11] at h
      refine V.iconst (r := 81) hC dX9_reckon_80 ki_1 rfl ?_
      refine V.goto (tgt := 85) hC dX9_reckon_81 (by decide) ?_
      cases h
      exact hR _ _ dX9_reckon_85
  rw [if_neg c10] at h
  refine V.tabOut (tgt := 86) hC dX9_reckon_1 (by have e0 := lv_neT c1 (show ((2 : Int32)).toInt = 2 by decide); have e1 := lv_neT c2 (show ((3 : Int32)).toInt = 3 by decide); have e2 := lv_neT c3 (show ((4 : Int32)).toInt = 4 by decide); have e3 := lv_neT c4 (show ((5 : Int32)).toInt = 5 by decide); have e4 := lv_neT c6 (show ((6 : Int32)).toInt = 6 by decide); have e5 := lv_neT c8 (show ((7 : Int32)).toInt = 7 by decide); have e6 := lv_neT c10 (show ((8 : Int32)).toInt = 8 by decide); omega) (by decide) ?_
  refine V.iload_n (r := 87) hC 1 dX9_reckon_86 rfl rfl ?_
  refine V.iload_n (r := 88) hC 2 dX9_reckon_87 rfl rfl ?_
  refine V.icmp_ne (tgt := 95) (r := 91) hC dX9_reckon_88 (by decide) rfl (fun c12 => ?_) (fun c12 => ?_)
  · rw [if_neg c12] at h
    refine V.iconst (r := 96) hC dX9_reckon_95 ki_0 rfl ?_
    cases h
    exact hR _ _ dX9_reckon_96
  · rw [if_pos c12] at h
    refine V.iconst (r := 92) hC dX9_reckon_91 ki_1 rfl ?_
    refine V.goto (tgt := 96) hC dX9_reckon_92 (by decide) ?_
    cases h
    exact hR _ _ dX9_reckon_96
theorem met9_reckon {R : Int32 × xMem} {a0 a1 a2 : Int32} {M : xMem} (h : g9_reckon a0 a1 a2 M = some R) : xMet yX9_reckon cX9_reckon 3 (some .int) 0 [.inl a0, .inl a1, .inl a2] M (some R.1) R.2 := xMet.ofI (by decide +kernel) (Nat.le_of_ble_eq_true rfl) fun _ hC hR => v9_reckon  hC hR h
def g9_comesTo_b230 (k16 : Int32 → Int32 → Int32 → Int32 → xMem → Option (Int32 × xMem)) (x2 x3 x4 x5 : Int32) (M : xMem) : Option (Int32 × xMem) :=
k16 x2 x3 x4 x5 M
set_option maxHeartbeats 4000000 in
set_option maxRecDepth 20000 in
theorem v9_comesTo_b230 {G : xG} (hC : xC G cX9_comesTo 8 RX9 1) {R : Int32 × xMem} (hR : xRI G cX9_comesTo 8 R) {k16 : Int32 → Int32 → Int32 → Int32 → xMem → Option (Int32 × xMem)} (hk16 : ∀ (y2 y3 y4 y5 : Int32) (N : xMem), k16 y2 y3 y4 y5 N = some R → V G 8 16 [(0, .inr 154), (2, .inl y2), (3, .inl y3), (4, .inl y4), (5, .inl y5)] [] N) (x2 x3 x4 x5 : Int32) (M : xMem) (h : g9_comesTo_b230 k16 x2 x3 x4 x5 M = some R) : V G 8 230 [(0, .inr 154), (2, .inl x2), (3, .inl x3), (4, .inl x4), (5, .inl x5)] [] M := by
  unfold g9_comesTo_b230 at h
  refine V.goto (tgt := 16) hC dX9_comesTo_230 (by decide) ?_
  exact hk16 _ _ _ _ _ h
def g9_comesTo_b85 (k16 : Int32 → Int32 → Int32 → Int32 → xMem → Option (Int32 × xMem)) (x2 x3 x4 x5 s1 s2 : Int32) (M : xMem) : Option (Int32 × xMem) :=
if s1 < 0 ∨ 260 ≤ s1.toNatClampNeg then none else
mset (upM M 185 s1.toNatClampNeg s2) fun M25 =>
g9_comesTo_b230 k16 x2 (x3 + (1 : Int32)) x4 x5 M25
set_option maxHeartbeats 4000000 in
set_option maxRecDepth 20000 in
theorem v9_comesTo_b85 {G : xG} (hC : xC G cX9_comesTo 8 RX9 1) {R : Int32 × xMem} (hR : xRI G cX9_comesTo 8 R) {k16 : Int32 → Int32 → Int32 → Int32 → xMem → Option (Int32 × xMem)} (hk16 : ∀ (y2 y3 y4 y5 : Int32) (N : xMem), k16 y2 y3 y4 y5 N = some R → V G 8 16 [(0, .inr 154), (2, .inl y2), (3, .inl y3), (4, .inl y4), (5, .inl y5)] [] N) (x2 x3 x4 x5 s1 s2 : Int32) (M : xMem) (h : g9_comesTo_b85 k16 x2 x3 x4 x5 s1 s2 M = some R) : V G 8 85 [(0, .inr 154), (2, .inl x2), (3, .inl x3), (4, .inl x4), (5, .inl x5)] [.inl s2, .inl s1, .inr 170] M := by
  unfold g9_comesTo_b85 at h
  by_cases c24 : s1 < 0 ∨ 260 ≤ s1.toNatClampNeg
  · rw [if_pos c24] at h; cases h
  rw [if_neg c24] at h
  rw [mset_eq] at h
  refine V.iast (t := s1.toNatClampNeg) (r := 86) hC sh_170 dX9_comesTo_85 c24 (Nat.zero_add _) rfl ?_
  generalize upM M 185 s1.toNatClampNeg s2 = M25 at h ⊢
  refine V.iload_n (r := 87) hC 2 dX9_comesTo_86 rfl rfl ?_
  refine V.iconst (r := 88) hC dX9_comesTo_87 ki_1 rfl ?_
  refine V.iadd (r := 89) hC dX9_comesTo_88 rfl ?_
  refine V.ist_n (lv' := [(0, .inr 154), (2, .inl x2), (3, .inl (x3 + (1 : Int32))), (4, .inl x4), (5, .inl x5)]) (r := 90) hC dX9_comesTo_89 rfl rfl rfl ?_
  refine V.goto (tgt := 230) hC dX9_comesTo_90 (by decide) ?_
  exact v9_comesTo_b230  hC hR hk16 _ _ _ _ _ h
def g9_comesTo_b63 (k16 : Int32 → Int32 → Int32 → Int32 → xMem → Option (Int32 × xMem)) (x2 x3 x4 x5 x6 x7 : Int32) (M : xMem) : Option (Int32 × xMem) :=
if x6 = 0 then
(g9_comesTo_b85 k16 x2 x3 x4 x5 x3 x7 M)
else
(if x7 < 0 ∨ 15 ≤ x7.toNatClampNeg then none else
g9_comesTo_b85 k16 x2 x3 x4 x5 x3 (M 186 x7.toNatClampNeg) M)
set_option maxHeartbeats 4000000 in
set_option maxRecDepth 20000 in
theorem v9_comesTo_b63 {G : xG} (hC : xC G cX9_comesTo 8 RX9 1) {R : Int32 × xMem} (hR : xRI G cX9_comesTo 8 R) {k16 : Int32 → Int32 → Int32 → Int32 → xMem → Option (Int32 × xMem)} (hk16 : ∀ (y2 y3 y4 y5 : Int32) (N : xMem), k16 y2 y3 y4 y5 N = some R → V G 8 16 [(0, .inr 154), (2, .inl y2), (3, .inl y3), (4, .inl y4), (5, .inl y5)] [] N) (x2 x3 x4 x5 x6 x7 : Int32) (M : xMem) (h : g9_comesTo_b63 k16 x2 x3 x4 x5 x6 x7 M = some R) : V G 8 63 [(0, .inr 154), (2, .inl x2), (3, .inl x3), (4, .inl x4), (5, .inl x5), (6, .inl x6), (7, .inl x7)] [] M := by
  unfold g9_comesTo_b63 at h
  refine V.aload_n (r := 64) hC 0 dX9_comesTo_63 rfl rfl ?_
  refine V.getR (k' := 170) (j := 25) (r := 67) hC xcl_9 sh_154 fl_RX9_56 dX9_comesTo_64 (by decide) rfl rfl ?_
  refine V.iload_n (r := 68) hC 2 dX9_comesTo_67 rfl rfl ?_
  refine V.iload (r := 70) hC 5 dX9_comesTo_68 rfl rfl ?_
  refine V.if_ne (tgt := 78) (r := 73) hC dX9_comesTo_70 (by decide) rfl (fun c22 => ?_) (fun c22 => ?_)
  · rw [if_neg c22] at h
    refine V.aload_n (r := 79) hC 0 dX9_comesTo_78 rfl rfl ?_
    refine V.getR (k' := 171) (j := 26) (r := 82) hC xcl_9 sh_154 fl_RX9_59 dX9_comesTo_79 (by decide) rfl rfl ?_
    refine V.iload (r := 84) hC 6 dX9_comesTo_82 rfl rfl ?_
    by_cases c23 : x7 < 0 ∨ 15 ≤ x7.toNatClampNeg
    · rw [if_pos c23] at h; cases h
    rw [if_neg c23] at h
    refine V.iald (t := x7.toNatClampNeg) (r := 85) hC sh_171 dX9_comesTo_84 c23 (Nat.zero_add _) rfl ?_
    refine V.pick (lv' := [(0, .inr 154), (2, .inl x2), (3, .inl x3), (4, .inl x4), (5, .inl x5)]) [0, 1, 2, 3, 4] rfl ?_
    exact v9_comesTo_b85  hC hR hk16 _ _ _ _ _ _ _ h
  · rw [if_pos c22] at h
    refine V.iload (r := 75) hC 6 dX9_comesTo_73 rfl rfl ?_
    refine V.goto (tgt := 85) hC dX9_comesTo_75 (by decide) ?_
    refine V.pick (lv' := [(0, .inr 154), (2, .inl x2), (3, .inl x3), (4, .inl x4), (5, .inl x5)]) [0, 1, 2, 3, 4] rfl ?_
    exact v9_comesTo_b85  hC hR hk16 _ _ _ _ _ _ _ h
def g9_comesTo_b155 (k16 : Int32 → Int32 → Int32 → Int32 → xMem → Option (Int32 × xMem)) (x2 x3 x4 x5 x7 s0 s1 : Int32) (M : xMem) : Option (Int32 × xMem) :=
if s0 = s1 then
(g9_comesTo_b230 k16 x2 x3 x4 (x4 + x7) M)
else
(g9_comesTo_b230 k16 x2 (x3 - (1 : Int32)) x4 x5 M)
set_option maxHeartbeats 4000000 in
set_option maxRecDepth 20000 in
theorem v9_comesTo_b155 {G : xG} (hC : xC G cX9_comesTo 8 RX9 1) {R : Int32 × xMem} (hR : xRI G cX9_comesTo 8 R) {k16 : Int32 → Int32 → Int32 → Int32 → xMem → Option (Int32 × xMem)} (hk16 : ∀ (y2 y3 y4 y5 : Int32) (N : xMem), k16 y2 y3 y4 y5 N = some R → V G 8 16 [(0, .inr 154), (2, .inl y2), (3, .inl y3), (4, .inl y4), (5, .inl y5)] [] N) (x2 x3 x4 x5 x7 s0 s1 : Int32) (M : xMem) (h : g9_comesTo_b155 k16 x2 x3 x4 x5 x7 s0 s1 M = some R) : V G 8 155 [(0, .inr 154), (2, .inl x2), (3, .inl x3), (4, .inl x4), (5, .inl x5), (7, .inl x7)] [.inl s1, .inl s0] M := by
  unfold g9_comesTo_b155 at h
  refine V.icmp_ne (tgt := 168) (r := 158) hC dX9_comesTo_155 (by decide) rfl (fun c21 => ?_) (fun c21 => ?_)
  · rw [if_neg c21] at h
    refine V.iload_n (r := 169) hC 2 dX9_comesTo_168 rfl rfl ?_
    refine V.iconst (r := 170) hC dX9_comesTo_169 ki_1 rfl ?_
    refine V.isub (r := 171) hC dX9_comesTo_170 rfl ?_
    refine V.ist_n (lv' := [(0, .inr 154), (2, .inl x2), (3, .inl (x3 - (1 : Int32))), (4, .inl x4), (5, .inl x5), (7, .inl x7)]) (r := 172) hC dX9_comesTo_171 rfl rfl rfl ?_
    refine V.goto (tgt := 230) hC dX9_comesTo_172 (by decide) ?_
    refine V.pick (lv' := [(0, .inr 154), (2, .inl x2), (3, .inl (x3 - (1 : Int32))), (4, .inl x4), (5, .inl x5)]) [0, 1, 2, 3, 4] rfl ?_
    exact v9_comesTo_b230  hC hR hk16 _ _ _ _ _ h
  · rw [if_pos c21] at h
    refine V.iload (r := 160) hC 3 dX9_comesTo_158 rfl rfl ?_
    refine V.iload (r := 162) hC 5 dX9_comesTo_160 rfl rfl ?_
    refine V.iadd (r := 163) hC dX9_comesTo_162 rfl ?_
    refine V.ist (lv' := [(0, .inr 154), (2, .inl x2), (3, .inl x3), (4, .inl x4), (5, .inl (x4 + x7)), (7, .inl x7)]) (r := 165) hC dX9_comesTo_163 rfl rfl rfl ?_
    refine V.goto (tgt := 230) hC dX9_comesTo_165 (by decide) ?_
    refine V.pick (lv' := [(0, .inr 154), (2, .inl x2), (3, .inl x3), (4, .inl x4), (5, .inl (x4 + x7))]) [0, 1, 2, 3, 4] rfl ?_
    exact v9_comesTo_b230  hC hR hk16 _ _ _ _ _ h
def g9_comesTo_b135 (k16 : Int32 → Int32 → Int32 → Int32 → xMem → Option (Int32 × xMem)) (x2 x3 x4 x5 x6 x7 : Int32) (M : xMem) : Option (Int32 × xMem) :=
if (x3 - (1 : Int32)) < 0 ∨ 260 ≤ (x3 - (1 : Int32)).toNatClampNeg then none else
if x6 = (12 : Int32) then
(g9_comesTo_b155 k16 x2 x3 x4 x5 x7 (M 185 (x3 - (1 : Int32)).toNatClampNeg) (1 : Int32) M)
else
(g9_comesTo_b155 k16 x2 x3 x4 x5 x7 (M 185 (x3 - (1 : Int32)).toNatClampNeg) (0 : Int32) M)
set_option maxHeartbeats 4000000 in
set_option maxRecDepth 20000 in
theorem v9_comesTo_b135 {G : xG} (hC : xC G cX9_comesTo 8 RX9 1) {R : Int32 × xMem} (hR : xRI G cX9_comesTo 8 R) {k16 : Int32 → Int32 → Int32 → Int32 → xMem → Option (Int32 × xMem)} (hk16 : ∀ (y2 y3 y4 y5 : Int32) (N : xMem), k16 y2 y3 y4 y5 N = some R → V G 8 16 [(0, .inr 154), (2, .inl y2), (3, .inl y3), (4, .inl y4), (5, .inl y5)] [] N) (x2 x3 x4 x5 x6 x7 : Int32) (M : xMem) (h : g9_comesTo_b135 k16 x2 x3 x4 x5 x6 x7 M = some R) : V G 8 135 [(0, .inr 154), (2, .inl x2), (3, .inl x3), (4, .inl x4), (5, .inl x5), (6, .inl x6), (7, .inl x7)] [] M := by
  unfold g9_comesTo_b135 at h
  refine V.aload_n (r := 136) hC 0 dX9_comesTo_135 rfl rfl ?_
  refine V.getR (k' := 170) (j := 25) (r := 139) hC xcl_9 sh_154 fl_RX9_56 dX9_comesTo_136 (by decide) rfl rfl ?_
  refine V.iload_n (r := 140) hC 2 dX9_comesTo_139 rfl rfl ?_
  refine V.iconst (r := 141) hC dX9_comesTo_140 ki_1 rfl ?_
  refine V.isub (r := 142) hC dX9_comesTo_141 rfl ?_
  by_cases c19 : (x3 - (1 : Int32)) < 0 ∨ 260 ≤ (x3 - (1 : Int32)).toNatClampNeg
  · rw [if_pos c19] at h; cases h
  rw [if_neg c19] at h
  refine V.iald (t := (x3 - (1 : Int32)).toNatClampNeg) (r := 143) hC sh_170 dX9_comesTo_142 c19 (Nat.zero_add _) rfl ?_
  refine V.iload (r := 145) hC 5 dX9_comesTo_143 rfl rfl ?_
  refine V.bipush (r := 147) hC dX9_comesTo_145 kb_12 rfl ?_
  refine V.icmp_ne (tgt := 154) (r := 150) hC dX9_comesTo_147 (by decide) rfl (fun c20 => ?_) (fun c20 => ?_)
  · rw [if_neg c20] at h
    refine V.iconst (r := 155) hC dX9_comesTo_154 ki_0 rfl ?_
    refine V.pick (lv' := [(0, .inr 154), (2, .inl x2), (3, .inl x3), (4, .inl x4), (5, .inl x5), (7, .inl x7)]) [0, 1, 2, 3, 4, 6] rfl ?_
    exact v9_comesTo_b155  hC hR hk16 _ _ _ _ _ _ _ _ h
  · rw [if_pos c20] at h
    refine V.iconst (r := 151) hC dX9_comesTo_150 ki_1 rfl ?_
    refine V.goto (tgt := 155) hC dX9_comesTo_151 (by decide) ?_
    refine V.pick (lv' := [(0, .inr 154), (2, .inl x2), (3, .inl x3), (4, .inl x4), (5, .inl x5), (7, .inl x7)]) [0, 1, 2, 3, 4, 6] rfl ?_
    exact v9_comesTo_b155  hC hR hk16 _ _ _ _ _ _ _ _ h
def g9_comesTo_b203 (k16 : Int32 → Int32 → Int32 → Int32 → xMem → Option (Int32 × xMem)) (x2 x3 x4 x5 x6 : Int32) (M : xMem) : Option (Int32 × xMem) :=
if (x3 - (1 : Int32)) < 0 ∨ 260 ≤ (x3 - (1 : Int32)).toNatClampNeg then none else
if x3 < 0 ∨ 260 ≤ x3.toNatClampNeg then none else
Option.bind (g9_reckon x6 (M 185 (x3 - (1 : Int32)).toNatClampNeg) (M 185 x3.toNatClampNeg) M) fun q14 =>
mset (upM q14.2 185 (x3 - (1 : Int32)).toNatClampNeg (q14.1)) fun M16 =>
g9_comesTo_b230 k16 x2 x3 x4 x5 M16
set_option maxHeartbeats 4000000 in
set_option maxRecDepth 20000 in
theorem v9_comesTo_b203 {G : xG} (hC : xC G cX9_comesTo 8 RX9 1) {R : Int32 × xMem} (hR : xRI G cX9_comesTo 8 R) {k16 : Int32 → Int32 → Int32 → Int32 → xMem → Option (Int32 × xMem)} (hk16 : ∀ (y2 y3 y4 y5 : Int32) (N : xMem), k16 y2 y3 y4 y5 N = some R → V G 8 16 [(0, .inr 154), (2, .inl y2), (3, .inl y3), (4, .inl y4), (5, .inl y5)] [] N) (x2 x3 x4 x5 x6 : Int32) (M : xMem) (h : g9_comesTo_b203 k16 x2 x3 x4 x5 x6 M = some R) : V G 8 203 [(0, .inr 154), (2, .inl x2), (3, .inl x3), (4, .inl x4), (5, .inl x5), (6, .inl x6)] [] M := by
  unfold g9_comesTo_b203 at h
  refine V.aload_n (r := 204) hC 0 dX9_comesTo_203 rfl rfl ?_
  refine V.getR (k' := 170) (j := 25) (r := 207) hC xcl_9 sh_154 fl_RX9_56 dX9_comesTo_204 (by decide) rfl rfl ?_
  refine V.iload_n (r := 208) hC 2 dX9_comesTo_207 rfl rfl ?_
  refine V.iconst (r := 209) hC dX9_comesTo_208 ki_1 rfl ?_
  refine V.isub (r := 210) hC dX9_comesTo_209 rfl ?_
  refine V.iload (r := 212) hC 5 dX9_comesTo_210 rfl rfl ?_
  refine V.aload_n (r := 213) hC 0 dX9_comesTo_212 rfl rfl ?_
  refine V.getR (k' := 170) (j := 25) (r := 216) hC xcl_9 sh_154 fl_RX9_56 dX9_comesTo_213 (by decide) rfl rfl ?_
  refine V.iload_n (r := 217) hC 2 dX9_comesTo_216 rfl rfl ?_
  refine V.iconst (r := 218) hC dX9_comesTo_217 ki_1 rfl ?_
  refine V.isub (r := 219) hC dX9_comesTo_218 rfl ?_
  by_cases c12 : (x3 - (1 : Int32)) < 0 ∨ 260 ≤ (x3 - (1 : Int32)).toNatClampNeg
  · rw [if_pos c12] at h; cases h
  rw [if_neg c12] at h
  refine V.iald (t := (x3 - (1 : Int32)).toNatClampNeg) (r := 220) hC sh_170 dX9_comesTo_219 c12 (Nat.zero_add _) rfl ?_
  refine V.aload_n (r := 221) hC 0 dX9_comesTo_220 rfl rfl ?_
  refine V.getR (k' := 170) (j := 25) (r := 224) hC xcl_9 sh_154 fl_RX9_56 dX9_comesTo_221 (by decide) rfl rfl ?_
  refine V.iload_n (r := 225) hC 2 dX9_comesTo_224 rfl rfl ?_
  by_cases c13 : x3 < 0 ∨ 260 ≤ x3.toNatClampNeg
  · rw [if_pos c13] at h; cases h
  rw [if_neg c13] at h
  refine V.iald (t := x3.toNatClampNeg) (r := 226) hC sh_170 dX9_comesTo_225 c13 (Nat.zero_add _) rfl ?_
  obtain ⟨q14, hq15, h⟩ := Option.bind_eq_some_iff.mp h
  try dsimp only at h
  refine V.invSi (as := [.inl x6, .inl (M 185 (x3 - (1 : Int32)).toNatClampNeg), .inl (M 185 x3.toNatClampNeg)]) (st := [.inl (x3 - (1 : Int32)), .inr 170]) (r := 229) hC (met9_reckon hq15) ys_X9_reckon ml_RX9_218 dX9_comesTo_226 (by decide) rfl rfl rfl rfl ?_
  rw [mset_eq] at h
  refine V.iast (t := (x3 - (1 : Int32)).toNatClampNeg) (r := 230) hC sh_170 dX9_comesTo_229 c12 (Nat.zero_add _) rfl ?_
  generalize upM q14.2 185 (x3 - (1 : Int32)).toNatClampNeg (q14.1) = M16 at h ⊢
  refine V.pick (lv' := [(0, .inr 154), (2, .inl x2), (3, .inl x3), (4, .inl x4), (5, .inl x5)]) [0, 1, 2, 3, 4] rfl ?_
  exact v9_comesTo_b230  hC hR hk16 _ _ _ _ _ h
def g9_comesTo_b192 (k16 : Int32 → Int32 → Int32 → Int32 → xMem → Option (Int32 × xMem)) (x2 x3 x4 x5 x6 : Int32) (M : xMem) : Option (Int32 × xMem) :=
if x3 < 0 ∨ 260 ≤ x3.toNatClampNeg then none else
if (M 185 x3.toNatClampNeg) = 0 then
(some ((0 : Int32), M))
else
(g9_comesTo_b203 k16 x2 x3 x4 x5 x6 M)
set_option maxHeartbeats 4000000 in
set_option maxRecDepth 20000 in
theorem v9_comesTo_b192 {G : xG} (hC : xC G cX9_comesTo 8 RX9 1) {R : Int32 × xMem} (hR : xRI G cX9_comesTo 8 R) {k16 : Int32 → Int32 → Int32 → Int32 → xMem → Option (Int32 × xMem)} (hk16 : ∀ (y2 y3 y4 y5 : Int32) (N : xMem), k16 y2 y3 y4 y5 N = some R → V G 8 16 [(0, .inr 154), (2, .inl y2), (3, .inl y3), (4, .inl y4), (5, .inl y5)] [] N) (x2 x3 x4 x5 x6 : Int32) (M : xMem) (h : g9_comesTo_b192 k16 x2 x3 x4 x5 x6 M = some R) : V G 8 192 [(0, .inr 154), (2, .inl x2), (3, .inl x3), (4, .inl x4), (5, .inl x5), (6, .inl x6)] [] M := by
  unfold g9_comesTo_b192 at h
  refine V.aload_n (r := 193) hC 0 dX9_comesTo_192 rfl rfl ?_
  refine V.getR (k' := 170) (j := 25) (r := 196) hC xcl_9 sh_154 fl_RX9_56 dX9_comesTo_193 (by decide) rfl rfl ?_
  refine V.iload_n (r := 197) hC 2 dX9_comesTo_196 rfl rfl ?_
  by_cases c17 : x3 < 0 ∨ 260 ≤ x3.toNatClampNeg
  · rw [if_pos c17] at h; cases h
  rw [if_neg c17] at h
  refine V.iald (t := x3.toNatClampNeg) (r := 198) hC sh_170 dX9_comesTo_197 c17 (Nat.zero_add _) rfl ?_
  refine V.if_ne (tgt := 203) (r := 201) hC dX9_comesTo_198 (by decide) rfl (fun c18 => ?_) (fun c18 => ?_)
  · rw [if_neg c18] at h
    exact v9_comesTo_b203  hC hR hk16 _ _ _ _ _ _ h
  · rw [if_pos c18] at h
    refine V.iconst (r := 202) hC dX9_comesTo_201 ki_0 rfl ?_
    cases h
    exact hR _ _ dX9_comesTo_202
def g9_comesTo_b16 : Nat → Int32 → Int32 → Int32 → Int32 → xMem → Option (Int32 × xMem)
  | 0, _, _, _, _, _ => none
  | n + 1, x2, x3, x4, x5, M => 
    (if x2 ≤ x5 then
    (some (M 185 0, M))
    else
    (if x5 < 0 ∨ 260 ≤ x5.toNatClampNeg then none else
    if ((M 180 x5.toNatClampNeg) / (1048576 : Int32)) = 0 then
    (g9_comesTo_b63 (g9_comesTo_b16 n) x2 x3 x4 (x5 + (1 : Int32)) ((M 180 x5.toNatClampNeg) / (1048576 : Int32)) ((M 180 x5.toNatClampNeg) - (M 180 x5.toNatClampNeg) / (1048576 : Int32) * (1048576 : Int32)) M)
    else
    (if ((M 180 x5.toNatClampNeg) / (1048576 : Int32)) = (1 : Int32) then
    (g9_comesTo_b63 (g9_comesTo_b16 n) x2 x3 x4 (x5 + (1 : Int32)) ((M 180 x5.toNatClampNeg) / (1048576 : Int32)) ((M 180 x5.toNatClampNeg) - (M 180 x5.toNatClampNeg) / (1048576 : Int32) * (1048576 : Int32)) M)
    else
    (if ((M 180 x5.toNatClampNeg) / (1048576 : Int32)) = (10 : Int32) then
    (if (x3 - (1 : Int32)) < 0 ∨ 260 ≤ (x3 - (1 : Int32)).toNatClampNeg then none else
    mset (upM M 185 (x3 - (1 : Int32)).toNatClampNeg ((1 : Int32) - (M 185 (x3 - (1 : Int32)).toNatClampNeg))) fun M11 =>
    g9_comesTo_b230 (g9_comesTo_b16 n) x2 x3 x4 (x5 + (1 : Int32)) M11)
    else
    (if ((M 180 x5.toNatClampNeg) / (1048576 : Int32)) = (11 : Int32) then
    (g9_comesTo_b135 (g9_comesTo_b16 n) x2 x3 x4 (x5 + (1 : Int32)) ((M 180 x5.toNatClampNeg) / (1048576 : Int32)) ((M 180 x5.toNatClampNeg) - (M 180 x5.toNatClampNeg) / (1048576 : Int32) * (1048576 : Int32)) M)
    else
    (if ((M 180 x5.toNatClampNeg) / (1048576 : Int32)) = (12 : Int32) then
    (g9_comesTo_b135 (g9_comesTo_b16 n) x2 x3 x4 (x5 + (1 : Int32)) ((M 180 x5.toNatClampNeg) / (1048576 : Int32)) ((M 180 x5.toNatClampNeg) - (M 180 x5.toNatClampNeg) / (1048576 : Int32) * (1048576 : Int32)) M)
    else
    (if ((M 180 x5.toNatClampNeg) / (1048576 : Int32)) = (5 : Int32) then
    (g9_comesTo_b192 (g9_comesTo_b16 n) x2 (x3 - (1 : Int32)) x4 (x5 + (1 : Int32)) ((M 180 x5.toNatClampNeg) / (1048576 : Int32)) M)
    else
    (if ((M 180 x5.toNatClampNeg) / (1048576 : Int32)) = (6 : Int32) then
    (g9_comesTo_b192 (g9_comesTo_b16 n) x2 (x3 - (1 : Int32)) x4 (x5 + (1 : Int32)) ((M 180 x5.toNatClampNeg) / (1048576 : Int32)) M)
    else
    (g9_comesTo_b203 (g9_comesTo_b16 n) x2 (x3 - (1 : Int32)) x4 (x5 + (1 : Int32)) ((M 180 x5.toNatClampNeg) / (1048576 : Int32)) M)))))))))
set_option maxHeartbeats 4000000 in
set_option maxRecDepth 20000 in
theorem v9_comesTo_b16 {G : xG} (hC : xC G cX9_comesTo 8 RX9 1) {R : Int32 × xMem} (hR : xRI G cX9_comesTo 8 R) : ∀ (n : Nat) (x2 x3 x4 x5 : Int32) (M : xMem), g9_comesTo_b16 n x2 x3 x4 x5 M = some R → V G 8 16 [(0, .inr 154), (2, .inl x2), (3, .inl x3), (4, .inl x4), (5, .inl x5)] [] M := by
  intro n
  induction n with
  | zero => intro x2 x3 x4 x5 M h; rw [g9_comesTo_b16] at h; cases h
  | succ n ih =>
    intro x2 x3 x4 x5 M h
    rw [g9_comesTo_b16] at h
    refine V.iload (r := 18) hC 4 dX9_comesTo_16 rfl rfl ?_
    refine V.iload_n (r := 19) hC 1 dX9_comesTo_18 rfl rfl ?_
    refine V.icmp_ge (tgt := 233) (r := 22) hC dX9_comesTo_19 (by decide) rfl (fun c1 => ?_) (fun c1 => ?_)
    · rw [if_pos c1] at h
      refine V.aload_n (r := 234) hC 0 dX9_comesTo_233 rfl rfl ?_
      refine V.getR (k' := 170) (j := 25) (r := 237) hC xcl_9 sh_154 fl_RX9_56 dX9_comesTo_234 (by decide) rfl rfl ?_
      refine V.iconst (r := 238) hC dX9_comesTo_237 ki_0 rfl ?_
      refine V.iald (t := 0) (r := 239) hC sh_170 dX9_comesTo_238 (by decide) (by decide) rfl ?_
      cases h
      exact hR _ _ dX9_comesTo_239
    · rw [if_neg c1] at h
      refine V.aload_n (r := 23) hC 0 dX9_comesTo_22 rfl rfl ?_
      refine V.getR (k' := 165) (j := 20) (r := 26) hC xcl_9 sh_154 fl_RX9_41 dX9_comesTo_23 (by decide) rfl rfl ?_
      refine V.iload (r := 28) hC 4 dX9_comesTo_26 rfl rfl ?_
      by_cases c2 : x5 < 0 ∨ 260 ≤ x5.toNatClampNeg
      · rw [if_pos c2] at h; cases h
      rw [if_neg c2] at h
      refine V.iald (t := x5.toNatClampNeg) (r := 29) hC sh_165 dX9_comesTo_28 c2 (Nat.zero_add _) rfl ?_
      refine V.ldc (r := 31) hC dX9_comesTo_29 co_RX9_149 rfl ?_
      refine V.idiv (r := 32) hC dX9_comesTo_31 (by decide) rfl ?_
      refine V.ist (lv' := [(0, .inr 154), (2, .inl x2), (3, .inl x3), (4, .inl x4), (5, .inl x5), (6, .inl ((M 180 x5.toNatClampNeg) / (1048576 : Int32)))]) (r := 34) hC dX9_comesTo_32 rfl rfl rfl ?_
      refine V.aload_n (r := 35) hC 0 dX9_comesTo_34 rfl rfl ?_
      refine V.getR (k' := 165) (j := 20) (r := 38) hC xcl_9 sh_154 fl_RX9_41 dX9_comesTo_35 (by decide) rfl rfl ?_
      refine V.iload (r := 40) hC 4 dX9_comesTo_38 rfl rfl ?_
      refine V.iald (t := x5.toNatClampNeg) (r := 41) hC sh_165 dX9_comesTo_40 c2 (Nat.zero_add _) rfl ?_
      refine V.ldc (r := 43) hC dX9_comesTo_41 co_RX9_149 rfl ?_
      refine V.irem (r := 44) hC dX9_comesTo_43 (by decide) rfl ?_
      refine V.ist (lv' := [(0, .inr 154), (2, .inl x2), (3, .inl x3), (4, .inl x4), (5, .inl x5), (6, .inl ((M 180 x5.toNatClampNeg) / (1048576 : Int32))), (7, .inl ((M 180 x5.toNatClampNeg) - (M 180 x5.toNatClampNeg) / (1048576 : Int32) * (1048576 : Int32)))]) (r := 46) hC dX9_comesTo_44 rfl rfl rfl ?_
      refine V.iload (r := 48) hC 4 dX9_comesTo_46 rfl rfl ?_
      refine V.iconst (r := 49) hC dX9_comesTo_48 ki_1 rfl ?_
      refine V.iadd (r := 50) hC dX9_comesTo_49 rfl ?_
      refine V.ist (lv' := [(0, .inr 154), (2, .inl x2), (3, .inl x3), (4, .inl x4), (5, .inl (x5 + (1 : Int32))), (6, .inl ((M 180 x5.toNatClampNeg) / (1048576 : Int32))), (7, .inl ((M 180 x5.toNatClampNeg) - (M 180 x5.toNatClampNeg) / (1048576 : Int32) * (1048576 : Int32)))]) (r := 52) hC dX9_comesTo_50 rfl rfl rfl ?_
      refine V.iload (r := 54) hC 5 dX9_comesTo_52 rfl rfl ?_
      refine V.if_eq (tgt := 63) (r := 57) hC dX9_comesTo_54 (by decide) rfl (fun c3 => ?_) (fun c3 => ?_)
      · rw [if_pos c3] at h
        exact v9_comesTo_b63  hC hR ih _ _ _ _ _ _ _ h
      · rw [if_neg c3] at h
        refine V.iload (r := 59) hC 5 dX9_comesTo_57 rfl rfl ?_
        refine V.iconst (r := 60) hC dX9_comesTo_59 ki_1 rfl ?_
        refine V.icmp_ne (tgt := 93) (r := 63) hC dX9_comesTo_60 (by decide) rfl (fun c4 => ?_) (fun c4 => ?_)
        · rw [if_neg c4] at h
          refine V.iload (r := 95) hC 5 dX9_comesTo_93 rfl rfl ?_
          refine V.bipush (r := 97) hC dX9_comesTo_95 kb_10 rfl ?_
          refine V.icmp_ne (tgt := 121) (r := 100) hC dX9_comesTo_97 (by decide) rfl (fun c5 => ?_) (fun c5 => ?_)
          · rw [if_neg c5] at h
            refine V.iload (r := 123) hC 5 dX9_comesTo_121 rfl rfl ?_
            refine V.bipush (r := 125) hC dX9_comesTo_123 kb_11 rfl ?_
            refine V.icmp_eq (tgt := 135) (r := 128) hC dX9_comesTo_125 (by decide) rfl (fun c6 => ?_) (fun c6 => ?_)
            · rw [if_pos c6] at h
              exact v9_comesTo_b135  hC hR ih _ _ _ _ _ _ _ h
            · rw [if_neg c6] at h
              refine V.iload (r := 130) hC 5 dX9_comesTo_128 rfl rfl ?_
              refine V.bipush (r := 132) hC dX9_comesTo_130 kb_12 rfl ?_
              refine V.icmp_ne (tgt := 175) (r := 135) hC dX9_comesTo_132 (by decide) rfl (fun c7 => ?_) (fun c7 => ?_)
              · rw [if_neg c7] at h
                refine V.iload_n (r := 176) hC 2 dX9_comesTo_175 rfl rfl ?_
                refine V.iconst (r := 177) hC dX9_comesTo_176 ki_1 rfl ?_
                refine V.isub (r := 178) hC dX9_comesTo_177 rfl ?_
                refine V.ist_n (lv' := [(0, .inr 154), (2, .inl x2), (3, .inl (x3 - (1 : Int32))), (4, .inl x4), (5, .inl (x5 + (1 : Int32))), (6, .inl ((M 180 x5.toNatClampNeg) / (1048576 : Int32))), (7, .inl ((M 180 x5.toNatClampNeg) - (M 180 x5.toNatClampNeg) / (1048576 : Int32) * (1048576 : Int32)))]) (r := 179) hC dX9_comesTo_178 rfl rfl rfl ?_
                refine V.iload (r := 181) hC 5 dX9_comesTo_179 rfl rfl ?_
                refine V.iconst (r := 182) hC dX9_comesTo_181 ki_5 rfl ?_
                refine V.icmp_eq (tgt := 192) (r := 185) hC dX9_comesTo_182 (by decide) rfl (fun c8 => ?_) (fun c8 => ?_)
                · rw [if_pos c8] at h
                  refine V.pick (lv' := [(0, .inr 154), (2, .inl x2), (3, .inl (x3 - (1 : Int32))), (4, .inl x4), (5, .inl (x5 + (1 : Int32))), (6, .inl ((M 180 x5.toNatClampNeg) / (1048576 : Int32)))]) [0, 1, 2, 3, 4, 5] rfl ?_
                  exact v9_comesTo_b192  hC hR ih _ _ _ _ _ _ h
                · rw [if_neg c8] at h
                  refine V.iload (r := 187) hC 5 dX9_comesTo_185 rfl rfl ?_
                  refine V.bipush (r := 189) hC dX9_comesTo_187 kb_6 rfl ?_
                  refine V.icmp_ne (tgt := 203) (r := 192) hC dX9_comesTo_189 (by decide) rfl (fun c9 => ?_) (fun c9 => ?_)
                  · rw [if_neg c9] at h
                    refine V.pick (lv' := [(0, .inr 154), (2, .inl x2), (3, .inl (x3 - (1 : Int32))), (4, .inl x4), (5, .inl (x5 + (1 : Int32))), (6, .inl ((M 180 x5.toNatClampNeg) / (1048576 : Int32)))]) [0, 1, 2, 3, 4, 5] rfl ?_
                    exact v9_comesTo_b203  hC hR ih _ _ _ _ _ _ h
                  · rw [if_pos c9] at h
                    refine V.pick (lv' := [(0, .inr 154), (2, .inl x2), (3, .inl (x3 - (1 : Int32))), (4, .inl x4), (5, .inl (x5 + (1 : Int32))), (6, .inl ((M 180 x5.toNatClampNeg) / (1048576 : Int32)))]) [0, 1, 2, 3, 4, 5] rfl ?_
                    exact v9_comesTo_b192  hC hR ih _ _ _ _ _ _ h
              · rw [if_pos c7] at h
                exact v9_comesTo_b135  hC hR ih _ _ _ _ _ _ _ h
          · rw [if_pos c5] at h
            refine V.aload_n (r := 101) hC 0 dX9_comesTo_100 rfl rfl ?_
            refine V.getR (k' := 170) (j := 25) (r := 104) hC xcl_9 sh_154 fl_RX9_56 dX9_comesTo_101 (by decide) rfl rfl ?_
            refine V.iload_n (r := 105) hC 2 dX9_comesTo_104 rfl rfl ?_
            refine V.iconst (r := 106) hC dX9_comesTo_105 ki_1 rfl ?_
            refine V.isub (r := 107) hC dX9_comesTo_106 rfl ?_
            refine V.iconst (r := 108) hC dX9_comesTo_107 ki_1 rfl ?_
            refine V.aload_n (r := 109) hC 0 dX9_comesTo_108 rfl rfl ?_
            refine V.getR (k' := 170) (j := 25) (r := 112) hC xcl_9 sh_154 fl_RX9_56 dX9_comesTo_109 (by decide) rfl rfl ?_
            refine V.iload_n (r := 113) hC 2 dX9_comesTo_112 rfl rfl ?_
            refine V.iconst (r := 114) hC dX9_comesTo_113 ki_1 rfl ?_
            refine V.isub (r := 115) hC dX9_comesTo_114 rfl ?_
            by_cases c10 : (x3 - (1 : Int32)) < 0 ∨ 260 ≤ (x3 - (1 : Int32)).toNatClampNeg
            · rw [if_pos c10] at h; cases h
            rw [if_neg c10] at h
            refine V.iald (t := (x3 - (1 : Int32)).toNatClampNeg) (r := 116) hC sh_170 dX9_comesTo_115 c10 (Nat.zero_add _) rfl ?_
            refine V.isub (r := 117) hC dX9_comesTo_116 rfl ?_
            rw [mset_eq] at h
            refine V.iast (t := (x3 - (1 : Int32)).toNatClampNeg) (r := 118) hC sh_170 dX9_comesTo_117 c10 (Nat.zero_add _) rfl ?_
            generalize upM M 185 (x3 - (1 : Int32)).toNatClampNeg ((1 : Int32) - (M 185 (x3 - (1 : Int32)).toNatClampNeg)) = M11 at h ⊢
            refine V.goto (tgt := 230) hC dX9_comesTo_118 (by decide) ?_
            refine V.pick (lv' := [(0, .inr 154), (2, .inl x2), (3, .inl x3), (4, .inl x4), (5, .inl (x5 + (1 : Int32)))]) [0, 1, 2, 3, 4] rfl ?_
            exact v9_comesTo_b230  hC hR ih _ _ _ _ _ h
        · rw [if_pos c4] at h
          exact v9_comesTo_b63  hC hR ih _ _ _ _ _ _ _ h
def g9_comesTo (a0 a1 : Int32) (M : xMem) : Option (Int32 × xMem) :=
g9_comesTo_b16 5000 a1 (0 : Int32) ((260 : Int32) * (a0 / (260 : Int32))) a0 M
set_option maxHeartbeats 4000000 in
set_option maxRecDepth 20000 in
theorem v9_comesTo {G : xG} (hC : xC G cX9_comesTo 8 RX9 1) {R : Int32 × xMem} (hR : xRI G cX9_comesTo 8 R) {a0 a1 : Int32} {M : xMem} (h : g9_comesTo a0 a1 M = some R) : V G 8 0 [(0, .inr 154), (1, .inl a0), (2, .inl a1)] [] M := by
  unfold g9_comesTo at h
  refine V.iconst (r := 1) hC dX9_comesTo_0 ki_0 rfl ?_
  refine V.ist_n (lv' := [(0, .inr 154), (1, .inl a0), (2, .inl a1), (3, .inl (0 : Int32))]) (r := 2) hC dX9_comesTo_1 rfl rfl rfl ?_
  refine V.sipush (r := 5) hC dX9_comesTo_2 ks_260 rfl ?_
  refine V.iload_n (r := 6) hC 1 dX9_comesTo_5 rfl rfl ?_
  refine V.sipush (r := 9) hC dX9_comesTo_6 ks_260 rfl ?_
  refine V.idiv (r := 10) hC dX9_comesTo_9 (by decide) rfl ?_
  refine V.imul (r := 11) hC dX9_comesTo_10 rfl ?_
  refine V.ist (lv' := [(0, .inr 154), (1, .inl a0), (2, .inl a1), (3, .inl (0 : Int32)), (4, .inl ((260 : Int32) * (a0 / (260 : Int32))))]) (r := 13) hC dX9_comesTo_11 rfl rfl rfl ?_
  refine V.iload_n (r := 14) hC 1 dX9_comesTo_13 rfl rfl ?_
  refine V.ist (lv' := [(0, .inr 154), (1, .inl a0), (2, .inl a1), (3, .inl (0 : Int32)), (4, .inl ((260 : Int32) * (a0 / (260 : Int32)))), (5, .inl a0)]) (r := 16) hC dX9_comesTo_14 rfl rfl rfl ?_
  refine V.pick (lv' := [(0, .inr 154), (2, .inl a1), (3, .inl (0 : Int32)), (4, .inl ((260 : Int32) * (a0 / (260 : Int32)))), (5, .inl a0)]) [0, 2, 3, 4, 5] rfl ?_
  exact v9_comesTo_b16  hC hR  5000 _ _ _ _ _ h
theorem met9_comesTo {R : Int32 × xMem} {a0 a1 : Int32} {M : xMem} (h : g9_comesTo a0 a1 M = some R) : xMet yX9_comesTo cX9_comesTo 8 (some .int) 1 [.inr 154, .inl a0, .inl a1] M (some R.1) R.2 := xMet.ofI (by decide +kernel) (Nat.le_of_ble_eq_true rfl) fun _ hC hR => v9_comesTo  hC hR h
def g9_byLaw_b91 (k3 : Int32 → Int32 → Int32 → Int32 → xMem → Option (Int32 × xMem)) (x1 x2 x3 x4 : Int32) (M : xMem) : Option (Int32 × xMem) :=
k3 x1 x2 x3 (x4 + (1 : Int32)) M
set_option maxHeartbeats 4000000 in
set_option maxRecDepth 20000 in
theorem v9_byLaw_b91 {G : xG} (hC : xC G cX9_byLaw 6 RX9 2) {R : Int32 × xMem} (hR : xRI G cX9_byLaw 6 R) {k3 : Int32 → Int32 → Int32 → Int32 → xMem → Option (Int32 × xMem)} (hk3 : ∀ (y1 y2 y3 y4 : Int32) (N : xMem), k3 y1 y2 y3 y4 N = some R → V G 6 3 [(0, .inr 154), (1, .inl y1), (2, .inl y2), (3, .inl y3), (4, .inl y4)] [] N) (x1 x2 x3 x4 : Int32) (M : xMem) (h : g9_byLaw_b91 k3 x1 x2 x3 x4 M = some R) : V G 6 91 [(0, .inr 154), (1, .inl x1), (2, .inl x2), (3, .inl x3), (4, .inl x4)] [] M := by
  unfold g9_byLaw_b91 at h
  refine V.inc (lv' := [(0, .inr 154), (1, .inl x1), (2, .inl x2), (3, .inl x3), (4, .inl (x4 + (1 : Int32)))]) (r := 94) hC 4 dX9_byLaw_91 rfl ki_1 rfl rfl rfl ?_
  refine V.goto (tgt := 3) hC dX9_byLaw_94 (by decide) ?_
  exact hk3 _ _ _ _ _ h
def g9_byLaw_b3 : Nat → Int32 → Int32 → Int32 → Int32 → xMem → Option (Int32 × xMem)
  | 0, _, _, _, _, _ => none
  | n + 1, x1, x2, x3, x4, M => 
    (if (M 173 0) ≤ x4 then
    (some ((0 : Int32), M))
    else
    (if x4 < 0 ∨ 16 ≤ x4.toNatClampNeg then none else
    if (M 181 x4.toNatClampNeg) = x1 then
    (Option.bind (g9_comesTo (M 183 x4.toNatClampNeg) (M 184 x4.toNatClampNeg) M) fun q4 =>
    if (q4.1) = (1 : Int32) then
    (Option.bind (g9_comesTo (q4.2 182 x4.toNatClampNeg) (q4.2 183 x4.toNatClampNeg) q4.2) fun q7 =>
    if x2 ≤ (q7.1) then
    (if (q7.1) ≤ x3 then
    (some (q7.1, q7.2))
    else
    (some (x3, q7.2)))
    else
    (some (x2, q7.2)))
    else
    (g9_byLaw_b91 (g9_byLaw_b3 n) x1 x2 x3 x4 q4.2))
    else
    (g9_byLaw_b91 (g9_byLaw_b3 n) x1 x2 x3 x4 M)))
set_option maxHeartbeats 4000000 in
set_option maxRecDepth 20000 in
theorem v9_byLaw_b3 {G : xG} (hC : xC G cX9_byLaw 6 RX9 2) {R : Int32 × xMem} (hR : xRI G cX9_byLaw 6 R) : ∀ (n : Nat) (x1 x2 x3 x4 : Int32) (M : xMem), g9_byLaw_b3 n x1 x2 x3 x4 M = some R → V G 6 3 [(0, .inr 154), (1, .inl x1), (2, .inl x2), (3, .inl x3), (4, .inl x4)] [] M := by
  intro n
  induction n with
  | zero => intro x1 x2 x3 x4 M h; rw [g9_byLaw_b3] at h; cases h
  | succ n ih =>
    intro x1 x2 x3 x4 M h
    rw [g9_byLaw_b3] at h
    refine V.iload (r := 5) hC 4 dX9_byLaw_3 rfl rfl ?_
    refine V.aload_n (r := 6) hC 0 dX9_byLaw_5 rfl rfl ?_
    refine V.getI (b := 173) (i := 0) (j := 13) (r := 9) hC xcl_9 sh_154 fl_RX9_215 dX9_byLaw_6 (by decide) rfl rfl ?_
    refine V.icmp_ge (tgt := 97) (r := 12) hC dX9_byLaw_9 (by decide) rfl (fun c1 => ?_) (fun c1 => ?_)
    · rw [if_pos c1] at h
      refine V.iconst (r := 98) hC dX9_byLaw_97 ki_0 rfl ?_
      cases h
      exact hR _ _ dX9_byLaw_98
    · rw [if_neg c1] at h
      refine V.aload_n (r := 13) hC 0 dX9_byLaw_12 rfl rfl ?_
      refine V.getR (k' := 166) (j := 21) (r := 16) hC xcl_9 sh_154 fl_RX9_44 dX9_byLaw_13 (by decide) rfl rfl ?_
      refine V.iload (r := 18) hC 4 dX9_byLaw_16 rfl rfl ?_
      by_cases c2 : x4 < 0 ∨ 16 ≤ x4.toNatClampNeg
      · rw [if_pos c2] at h; cases h
      rw [if_neg c2] at h
      refine V.iald (t := x4.toNatClampNeg) (r := 19) hC sh_166 dX9_byLaw_18 c2 (Nat.zero_add _) rfl ?_
      refine V.iload_n (r := 20) hC 1 dX9_byLaw_19 rfl rfl ?_
      refine V.icmp_ne (tgt := 91) (r := 23) hC dX9_byLaw_20 (by decide) rfl (fun c3 => ?_) (fun c3 => ?_)
      · rw [if_neg c3] at h
        exact v9_byLaw_b91  hC hR ih _ _ _ _ _ h
      · rw [if_pos c3] at h
        refine V.aload_n (r := 24) hC 0 dX9_byLaw_23 rfl rfl ?_
        refine V.aload_n (r := 25) hC 0 dX9_byLaw_24 rfl rfl ?_
        refine V.getR (k' := 168) (j := 23) (r := 28) hC xcl_9 sh_154 fl_RX9_50 dX9_byLaw_25 (by decide) rfl rfl ?_
        refine V.iload (r := 30) hC 4 dX9_byLaw_28 rfl rfl ?_
        refine V.iald (t := x4.toNatClampNeg) (r := 31) hC sh_168 dX9_byLaw_30 c2 (Nat.zero_add _) rfl ?_
        refine V.aload_n (r := 32) hC 0 dX9_byLaw_31 rfl rfl ?_
        refine V.getR (k' := 169) (j := 24) (r := 35) hC xcl_9 sh_154 fl_RX9_53 dX9_byLaw_32 (by decide) rfl rfl ?_
        refine V.iload (r := 37) hC 4 dX9_byLaw_35 rfl rfl ?_
        refine V.iald (t := x4.toNatClampNeg) (r := 38) hC sh_169 dX9_byLaw_37 c2 (Nat.zero_add _) rfl ?_
        obtain ⟨q4, hq5, h⟩ := Option.bind_eq_some_iff.mp h
        try dsimp only at h
        refine V.invVi (as := [.inl (M 183 x4.toNatClampNeg), .inl (M 184 x4.toNatClampNeg)]) (st := []) (r := 41) hC (met9_comesTo hq5) yv_X9_comesTo ml_RX9_222 sh_154 rfl rfl dX9_byLaw_38 (by decide) rfl rfl rfl rfl ?_
        refine V.iconst (r := 42) hC dX9_byLaw_41 ki_1 rfl ?_
        refine V.icmp_eq (tgt := 48) (r := 45) hC dX9_byLaw_42 (by decide) rfl (fun c6 => ?_) (fun c6 => ?_)
        · rw [if_pos c6] at h
          refine V.aload_n (r := 49) hC 0 dX9_byLaw_48 rfl rfl ?_
          refine V.aload_n (r := 50) hC 0 dX9_byLaw_49 rfl rfl ?_
          refine V.getR (k' := 167) (j := 22) (r := 53) hC xcl_9 sh_154 fl_RX9_47 dX9_byLaw_50 (by decide) rfl rfl ?_
          refine V.iload (r := 55) hC 4 dX9_byLaw_53 rfl rfl ?_
          refine V.iald (t := x4.toNatClampNeg) (r := 56) hC sh_167 dX9_byLaw_55 c2 (Nat.zero_add _) rfl ?_
          refine V.aload_n (r := 57) hC 0 dX9_byLaw_56 rfl rfl ?_
          refine V.getR (k' := 168) (j := 23) (r := 60) hC xcl_9 sh_154 fl_RX9_50 dX9_byLaw_57 (by decide) rfl rfl ?_
          refine V.iload (r := 62) hC 4 dX9_byLaw_60 rfl rfl ?_
          refine V.iald (t := x4.toNatClampNeg) (r := 63) hC sh_168 dX9_byLaw_62 c2 (Nat.zero_add _) rfl ?_
          obtain ⟨q7, hq8, h⟩ := Option.bind_eq_some_iff.mp h
          try dsimp only at h
          refine V.invVi (as := [.inl (q4.2 182 x4.toNatClampNeg), .inl (q4.2 183 x4.toNatClampNeg)]) (st := []) (r := 66) hC (met9_comesTo hq8) yv_X9_comesTo ml_RX9_222 sh_154 rfl rfl dX9_byLaw_63 (by decide) rfl rfl rfl rfl ?_
          refine V.ist (lv' := [(0, .inr 154), (1, .inl x1), (2, .inl x2), (3, .inl x3), (4, .inl x4), (5, .inl (q7.1))]) (r := 68) hC dX9_byLaw_66 rfl rfl rfl ?_
          refine V.iload (r := 70) hC 5 dX9_byLaw_68 rfl rfl ?_
          refine V.iload_n (r := 71) hC 2 dX9_byLaw_70 rfl rfl ?_
          refine V.icmp_ge (tgt := 78) (r := 74) hC dX9_byLaw_71 (by decide) rfl (fun c9 => ?_) (fun c9 => ?_)
          · rw [if_pos c9] at h
            refine V.iload (r := 80) hC 5 dX9_byLaw_78 rfl rfl ?_
            refine V.iload_n (r := 81) hC 3 dX9_byLaw_80 rfl rfl ?_
            refine V.icmp_le (tgt := 88) (r := 84) hC dX9_byLaw_81 (by decide) rfl (fun c10 => ?_) (fun c10 => ?_)
            · rw [if_pos c10] at h
              refine V.iload (r := 90) hC 5 dX9_byLaw_88 rfl rfl ?_
              cases h
              exact hR _ _ dX9_byLaw_90
            · rw [if_neg c10] at h
              refine V.iload_n (r := 85) hC 3 dX9_byLaw_84 rfl rfl ?_
              refine V.goto (tgt := 90) hC dX9_byLaw_85 (by decide) ?_
              cases h
              exact hR _ _ dX9_byLaw_90
          · rw [if_neg c9] at h
            refine V.iload_n (r := 75) hC 2 dX9_byLaw_74 rfl rfl ?_
            refine V.goto (tgt := 90) hC dX9_byLaw_75 (by decide) ?_
            cases h
            exact hR _ _ dX9_byLaw_90
        · rw [if_neg c6] at h
          refine V.goto (tgt := 91) hC dX9_byLaw_45 (by decide) ?_
          exact v9_byLaw_b91  hC hR ih _ _ _ _ _ h
def g9_byLaw (a0 a1 a2 : Int32) (M : xMem) : Option (Int32 × xMem) :=
g9_byLaw_b3 5000 a0 a1 a2 (0 : Int32) M
set_option maxHeartbeats 4000000 in
set_option maxRecDepth 20000 in
theorem v9_byLaw {G : xG} (hC : xC G cX9_byLaw 6 RX9 2) {R : Int32 × xMem} (hR : xRI G cX9_byLaw 6 R) {a0 a1 a2 : Int32} {M : xMem} (h : g9_byLaw a0 a1 a2 M = some R) : V G 6 0 [(0, .inr 154), (1, .inl a0), (2, .inl a1), (3, .inl a2)] [] M := by
  unfold g9_byLaw at h
  refine V.iconst (r := 1) hC dX9_byLaw_0 ki_0 rfl ?_
  refine V.ist (lv' := [(0, .inr 154), (1, .inl a0), (2, .inl a1), (3, .inl a2), (4, .inl (0 : Int32))]) (r := 3) hC dX9_byLaw_1 rfl rfl rfl ?_
  exact v9_byLaw_b3  hC hR  5000 _ _ _ _ _ h
theorem met9_byLaw {R : Int32 × xMem} {a0 a1 a2 : Int32} {M : xMem} (h : g9_byLaw a0 a1 a2 M = some R) : xMet yX9_byLaw cX9_byLaw 6 (some .int) 2 [.inr 154, .inl a0, .inl a1, .inl a2] M (some R.1) R.2 := xMet.ofI (by decide +kernel) (Nat.le_of_ble_eq_true rfl) fun _ hC hR => v9_byLaw  hC hR h
def g9_feels_b2 : Nat → Int32 → xMem → Option (xMem)
  | 0, _, _ => none
  | n + 1, x1, M => 
    (if (15 : Int32) ≤ x1 then
    (mset (upM M 186 0 (M 7 328)) fun M2 =>
    mset (upM M2 186 1 (M2 7 327)) fun M3 =>
    some M3)
    else
    (if x1 < 0 ∨ 15 ≤ x1.toNatClampNeg then none else
    mset (upM M 186 x1.toNatClampNeg (0 : Int32)) fun M5 =>
    g9_feels_b2 n (x1 + (1 : Int32)) M5))
set_option maxHeartbeats 4000000 in
set_option maxRecDepth 20000 in
theorem v9_feels_b2 {G : xG} (hC : xC G cX9_feels 2 RX9 0) {R : xMem} (hR : xRV G cX9_feels 2 R) : ∀ (n : Nat) (x1 : Int32) (M : xMem), g9_feels_b2 n x1 M = some R → V G 2 2 [(0, .inr 154), (1, .inl x1)] [] M := by
  intro n
  induction n with
  | zero => intro x1 M h; rw [g9_feels_b2] at h; cases h
  | succ n ih =>
    intro x1 M h
    rw [g9_feels_b2] at h
    refine V.iload_n (r := 3) hC 1 dX9_feels_2 rfl rfl ?_
    refine V.bipush (r := 5) hC dX9_feels_3 kb_15 rfl ?_
    refine V.icmp_ge (tgt := 21) (r := 8) hC dX9_feels_5 (by decide) rfl (fun c1 => ?_) (fun c1 => ?_)
    · rw [if_pos c1] at h
      refine V.aload_n (r := 22) hC 0 dX9_feels_21 rfl rfl ?_
      refine V.getR (k' := 171) (j := 26) (r := 25) hC xcl_9 sh_154 fl_RX9_59 dX9_feels_22 (by decide) rfl rfl ?_
      refine V.iconst (r := 26) hC dX9_feels_25 ki_0 rfl ?_
      refine V.aload_n (r := 27) hC 0 dX9_feels_26 rfl rfl ?_
      refine V.getR (k' := 155) (j := 0) (r := 30) hC xcl_9 sh_154 fl_RX9_7 dX9_feels_27 (by decide) rfl rfl ?_
      refine V.sipush (r := 33) hC dX9_feels_30 ks_328 rfl ?_
      refine V.iald (t := 328) (r := 34) hC sh_155 dX9_feels_33 (by decide) (by decide) rfl ?_
      rw [mset_eq] at h
      refine V.iast (t := 0) (r := 35) hC sh_171 dX9_feels_34 (by decide) (by decide) rfl ?_
      generalize upM M 186 0 (M 7 328) = M2 at h ⊢
      refine V.aload_n (r := 36) hC 0 dX9_feels_35 rfl rfl ?_
      refine V.getR (k' := 171) (j := 26) (r := 39) hC xcl_9 sh_154 fl_RX9_59 dX9_feels_36 (by decide) rfl rfl ?_
      refine V.iconst (r := 40) hC dX9_feels_39 ki_1 rfl ?_
      refine V.aload_n (r := 41) hC 0 dX9_feels_40 rfl rfl ?_
      refine V.getR (k' := 155) (j := 0) (r := 44) hC xcl_9 sh_154 fl_RX9_7 dX9_feels_41 (by decide) rfl rfl ?_
      refine V.sipush (r := 47) hC dX9_feels_44 ks_327 rfl ?_
      refine V.iald (t := 327) (r := 48) hC sh_155 dX9_feels_47 (by decide) (by decide) rfl ?_
      rw [mset_eq] at h
      refine V.iast (t := 1) (r := 49) hC sh_171 dX9_feels_48 (by decide) (by decide) rfl ?_
      generalize upM M2 186 1 (M2 7 327) = M3 at h ⊢
      cases h
      exact hR _ _ dX9_feels_49
    · rw [if_neg c1] at h
      refine V.aload_n (r := 9) hC 0 dX9_feels_8 rfl rfl ?_
      refine V.getR (k' := 171) (j := 26) (r := 12) hC xcl_9 sh_154 fl_RX9_59 dX9_feels_9 (by decide) rfl rfl ?_
      refine V.iload_n (r := 13) hC 1 dX9_feels_12 rfl rfl ?_
      refine V.iconst (r := 14) hC dX9_feels_13 ki_0 rfl ?_
      by_cases c4 : x1 < 0 ∨ 15 ≤ x1.toNatClampNeg
      · rw [if_pos c4] at h; cases h
      rw [if_neg c4] at h
      rw [mset_eq] at h
      refine V.iast (t := x1.toNatClampNeg) (r := 15) hC sh_171 dX9_feels_14 c4 (Nat.zero_add _) rfl ?_
      generalize upM M 186 x1.toNatClampNeg (0 : Int32) = M5 at h ⊢
      refine V.inc (lv' := [(0, .inr 154), (1, .inl (x1 + (1 : Int32)))]) (r := 18) hC 1 dX9_feels_15 rfl ki_1 rfl rfl rfl ?_
      refine V.goto (tgt := 2) hC dX9_feels_18 (by decide) ?_
      exact ih _ _ h
def g9_feels (M : xMem) : Option (xMem) :=
g9_feels_b2 5000 (0 : Int32) M
set_option maxHeartbeats 4000000 in
set_option maxRecDepth 20000 in
theorem v9_feels {G : xG} (hC : xC G cX9_feels 2 RX9 0) {R : xMem} (hR : xRV G cX9_feels 2 R) {M : xMem} (h : g9_feels M = some R) : V G 2 0 [(0, .inr 154)] [] M := by
  unfold g9_feels at h
  refine V.iconst (r := 1) hC dX9_feels_0 ki_0 rfl ?_
  refine V.ist_n (lv' := [(0, .inr 154), (1, .inl (0 : Int32))]) (r := 2) hC dX9_feels_1 rfl rfl rfl ?_
  exact v9_feels_b2  hC hR  5000 _ _ h
theorem met9_feels {R : xMem} {M : xMem} (h : g9_feels M = some R) : xMet yX9_feels cX9_feels 2 none 0 [.inr 154] M none R := xMet.ofV (by decide +kernel) (Nat.le_of_ble_eq_true rfl) fun _ hC hR => v9_feels  hC hR h
def g9_isClouded (M : xMem) : Option (Int32 × xMem) :=
Option.bind (g9_has (M 7 329) (M 7 328) M) fun q1 =>
if (q1.1) = 0 ∨ (q1.1) = 1 then
some (q1.1, q1.2)
else none
set_option maxHeartbeats 4000000 in
set_option maxRecDepth 20000 in
theorem v9_isClouded {G : xG} (hC : xC G cX9_isClouded 1 RX9 1) {R : Int32 × xMem} (hR : xRZ G cX9_isClouded 1 R) {M : xMem} (h : g9_isClouded M = some R) : V G 1 0 [(0, .inr 154)] [] M := by
  unfold g9_isClouded at h
  refine V.aload_n (r := 1) hC 0 dX9_isClouded_0 rfl rfl ?_
  refine V.getR (k' := 155) (j := 0) (r := 4) hC xcl_9 sh_154 fl_RX9_7 dX9_isClouded_1 (by decide) rfl rfl ?_
  refine V.sipush (r := 7) hC dX9_isClouded_4 ks_329 rfl ?_
  refine V.iald (t := 329) (r := 8) hC sh_155 dX9_isClouded_7 (by decide) (by decide) rfl ?_
  refine V.aload_n (r := 9) hC 0 dX9_isClouded_8 rfl rfl ?_
  refine V.getR (k' := 155) (j := 0) (r := 12) hC xcl_9 sh_154 fl_RX9_7 dX9_isClouded_9 (by decide) rfl rfl ?_
  refine V.sipush (r := 15) hC dX9_isClouded_12 ks_328 rfl ?_
  refine V.iald (t := 328) (r := 16) hC sh_155 dX9_isClouded_15 (by decide) (by decide) rfl ?_
  obtain ⟨q1, hq2, h⟩ := Option.bind_eq_some_iff.mp h
  try dsimp only at h
  refine V.invSi (as := [.inl (M 7 329), .inl (M 7 328)]) (st := []) (r := 19) hC (met9_has hq2) ys_X9_has ml_RX9_226 dX9_isClouded_16 (by decide) rfl rfl rfl rfl ?_
  by_cases c3 : ¬ ((q1.1) = 0 ∨ (q1.1) = 1)
  · rw [if_neg c3] at h; cases h
  replace c3 := Classical.not_not.mp c3
  rw [if_pos c3] at h
  cases h
  exact hR _ _ c3 dX9_isClouded_19
theorem met9_isClouded {R : Int32 × xMem} {M : xMem} (h : g9_isClouded M = some R) : xMet yX9_isClouded cX9_isClouded 1 (some .boolean) 1 [.inr 154] M (some R.1) R.2 := xMet.ofZ (by decide +kernel) (Nat.le_of_ble_eq_true rfl) fun _ hC hR => v9_isClouded  hC hR h
def g9_feelsHerd_b141 (x2 s1 s2 : Int32) (M : xMem) : Option (xMem) :=
if s1 < 0 ∨ 15 ≤ s1.toNatClampNeg then none else
mset (upM M 186 s1.toNatClampNeg s2) fun M19 =>
mset (upM M19 186 10 x2) fun M20 =>
some M20
set_option maxHeartbeats 4000000 in
set_option maxRecDepth 20000 in
theorem v9_feelsHerd_b141 {G : xG} (hC : xC G cX9_feelsHerd 3 RX9 2) {R : xMem} (hR : xRV G cX9_feelsHerd 3 R) (x2 s1 s2 : Int32) (M : xMem) (h : g9_feelsHerd_b141 x2 s1 s2 M = some R) : V G 3 141 [(0, .inr 154), (2, .inl x2)] [.inl s2, .inl s1, .inr 171] M := by
  unfold g9_feelsHerd_b141 at h
  by_cases c18 : s1 < 0 ∨ 15 ≤ s1.toNatClampNeg
  · rw [if_pos c18] at h; cases h
  rw [if_neg c18] at h
  rw [mset_eq] at h
  refine V.iast (t := s1.toNatClampNeg) (r := 142) hC sh_171 dX9_feelsHerd_141 c18 (Nat.zero_add _) rfl ?_
  generalize upM M 186 s1.toNatClampNeg s2 = M19 at h ⊢
  refine V.aload_n (r := 143) hC 0 dX9_feelsHerd_142 rfl rfl ?_
  refine V.getR (k' := 171) (j := 26) (r := 146) hC xcl_9 sh_154 fl_RX9_59 dX9_feelsHerd_143 (by decide) rfl rfl ?_
  refine V.bipush (r := 148) hC dX9_feelsHerd_146 kb_10 rfl ?_
  refine V.iload_n (r := 149) hC 1 dX9_feelsHerd_148 rfl rfl ?_
  rw [mset_eq] at h
  refine V.iast (t := 10) (r := 150) hC sh_171 dX9_feelsHerd_149 (by decide) (by decide) rfl ?_
  generalize upM M19 186 10 x2 = M20 at h ⊢
  cases h
  exact hR _ _ dX9_feelsHerd_150
def g9_feelsHerd (a0 a1 : Int32) (M : xMem) : Option (xMem) :=
Option.bind (g9_feels M) fun q1 =>
mset (upM q1 186 2 a0) fun M3 =>
if ((280 : Int32) + a0) < 0 ∨ 331 ≤ ((280 : Int32) + a0).toNatClampNeg then none else
mset (upM M3 186 3 (M3 7 ((280 : Int32) + a0).toNatClampNeg)) fun M5 =>
if ((286 : Int32) + a0) < 0 ∨ 331 ≤ ((286 : Int32) + a0).toNatClampNeg then none else
mset (upM M5 186 4 (M5 7 ((286 : Int32) + a0).toNatClampNeg)) fun M7 =>
if ((292 : Int32) + a0) < 0 ∨ 331 ≤ ((292 : Int32) + a0).toNatClampNeg then none else
mset (upM M7 186 5 (M7 7 ((292 : Int32) + a0).toNatClampNeg)) fun M9 =>
if ((274 : Int32) + a0) < 0 ∨ 331 ≤ ((274 : Int32) + a0).toNatClampNeg then none else
mset (upM M9 186 6 ((M9 7 ((274 : Int32) + a0).toNatClampNeg) - (M9 7 ((274 : Int32) + a0).toNatClampNeg) / (14 : Int32) * (14 : Int32))) fun M11 =>
mset (upM M11 186 7 ((M11 7 ((274 : Int32) + a0).toNatClampNeg) / (14 : Int32))) fun M12 =>
if ((0 : Int32) + (M12 7 ((274 : Int32) + a0).toNatClampNeg)) < 0 ∨ 331 ≤ ((0 : Int32) + (M12 7 ((274 : Int32) + a0).toNatClampNeg)).toNatClampNeg then none else
mset (upM M12 186 8 (M12 7 ((0 : Int32) + (M12 7 ((274 : Int32) + a0).toNatClampNeg)).toNatClampNeg)) fun M14 =>
Option.bind (g9_isClouded M14) fun q15 =>
if (q15.1) = 0 then
(g9_feelsHerd_b141 a1 (9 : Int32) (0 : Int32) q15.2)
else
(g9_feelsHerd_b141 a1 (9 : Int32) (1 : Int32) q15.2)
set_option maxHeartbeats 4000000 in
set_option maxRecDepth 20000 in
theorem v9_feelsHerd {G : xG} (hC : xC G cX9_feelsHerd 3 RX9 2) {R : xMem} (hR : xRV G cX9_feelsHerd 3 R) {a0 a1 : Int32} {M : xMem} (h : g9_feelsHerd a0 a1 M = some R) : V G 3 0 [(0, .inr 154), (1, .inl a0), (2, .inl a1)] [] M := by
  unfold g9_feelsHerd at h
  refine V.aload_n (r := 1) hC 0 dX9_feelsHerd_0 rfl rfl ?_
  obtain ⟨q1, hq2, h⟩ := Option.bind_eq_some_iff.mp h
  try dsimp only at h
  refine V.invVv (as := []) (st := []) (r := 4) hC (met9_feels hq2) yv_X9_feels ml_RX9_229 sh_154 rfl rfl dX9_feelsHerd_1 (by decide) rfl rfl rfl rfl ?_
  refine V.aload_n (r := 5) hC 0 dX9_feelsHerd_4 rfl rfl ?_
  refine V.getR (k' := 171) (j := 26) (r := 8) hC xcl_9 sh_154 fl_RX9_59 dX9_feelsHerd_5 (by decide) rfl rfl ?_
  refine V.iconst (r := 9) hC dX9_feelsHerd_8 ki_2 rfl ?_
  refine V.iload_n (r := 10) hC 1 dX9_feelsHerd_9 rfl rfl ?_
  rw [mset_eq] at h
  refine V.iast (t := 2) (r := 11) hC sh_171 dX9_feelsHerd_10 (by decide) (by decide) rfl ?_
  generalize upM q1 186 2 a0 = M3 at h ⊢
  refine V.aload_n (r := 12) hC 0 dX9_feelsHerd_11 rfl rfl ?_
  refine V.getR (k' := 171) (j := 26) (r := 15) hC xcl_9 sh_154 fl_RX9_59 dX9_feelsHerd_12 (by decide) rfl rfl ?_
  refine V.iconst (r := 16) hC dX9_feelsHerd_15 ki_3 rfl ?_
  refine V.aload_n (r := 17) hC 0 dX9_feelsHerd_16 rfl rfl ?_
  refine V.getR (k' := 155) (j := 0) (r := 20) hC xcl_9 sh_154 fl_RX9_7 dX9_feelsHerd_17 (by decide) rfl rfl ?_
  refine V.sipush (r := 23) hC dX9_feelsHerd_20 ks_280 rfl ?_
  refine V.iload_n (r := 24) hC 1 dX9_feelsHerd_23 rfl rfl ?_
  refine V.iadd (r := 25) hC dX9_feelsHerd_24 rfl ?_
  by_cases c4 : ((280 : Int32) + a0) < 0 ∨ 331 ≤ ((280 : Int32) + a0).toNatClampNeg
  · rw [if_pos c4] at h; cases h
  rw [if_neg c4] at h
  refine V.iald (t := ((280 : Int32) + a0).toNatClampNeg) (r := 26) hC sh_155 dX9_feelsHerd_25 c4 (Nat.zero_add _) rfl ?_
  rw [mset_eq] at h
  refine V.iast (t := 3) (r := 27) hC sh_171 dX9_feelsHerd_26 (by decide) (by decide) rfl ?_
  generalize upM M3 186 3 (M3 7 ((280 : Int32) + a0).toNatClampNeg) = M5 at h ⊢
  refine V.aload_n (r := 28) hC 0 dX9_feelsHerd_27 rfl rfl ?_
  refine V.getR (k' := 171) (j := 26) (r := 31) hC xcl_9 sh_154 fl_RX9_59 dX9_feelsHerd_28 (by decide) rfl rfl ?_
  refine V.iconst (r := 32) hC dX9_feelsHerd_31 ki_4 rfl ?_
  refine V.aload_n (r := 33) hC 0 dX9_feelsHerd_32 rfl rfl ?_
  refine V.getR (k' := 155) (j := 0) (r := 36) hC xcl_9 sh_154 fl_RX9_7 dX9_feelsHerd_33 (by decide) rfl rfl ?_
  refine V.sipush (r := 39) hC dX9_feelsHerd_36 ks_286 rfl ?_
  refine V.iload_n (r := 40) hC 1 dX9_feelsHerd_39 rfl rfl ?_
  refine V.iadd (r := 41) hC dX9_feelsHerd_40 rfl ?_
  by_cases c6 : ((286 : Int32) + a0) < 0 ∨ 331 ≤ ((286 : Int32) + a0).toNatClampNeg
  · rw [if_pos c6] at h; cases h
  rw [if_neg c6] at h
  refine V.iald (t := ((286 : Int32) + a0).toNatClampNeg) (r := 42) hC sh_155 dX9_feelsHerd_41 c6 (Nat.zero_add _) rfl ?_
  rw [mset_eq] at h
  refine V.iast (t := 4) (r := 43) hC sh_171 dX9_feelsHerd_42 (by decide) (by decide) rfl ?_
  generalize upM M5 186 4 (M5 7 ((286 : Int32) + a0).toNatClampNeg) = M7 at h ⊢
  refine V.aload_n (r := 44) hC 0 dX9_feelsHerd_43 rfl rfl ?_
  refine V.getR (k' := 171) (j := 26) (r := 47) hC xcl_9 sh_154 fl_RX9_59 dX9_feelsHerd_44 (by decide) rfl rfl ?_
  refine V.iconst (r := 48) hC dX9_feelsHerd_47 ki_5 rfl ?_
  refine V.aload_n (r := 49) hC 0 dX9_feelsHerd_48 rfl rfl ?_
  refine V.getR (k' := 155) (j := 0) (r := 52) hC xcl_9 sh_154 fl_RX9_7 dX9_feelsHerd_49 (by decide) rfl rfl ?_
  refine V.sipush (r := 55) hC dX9_feelsHerd_52 ks_292 rfl ?_
  refine V.iload_n (r := 56) hC 1 dX9_feelsHerd_55 rfl rfl ?_
  refine V.iadd (r := 57) hC dX9_feelsHerd_56 rfl ?_
  by_cases c8 : ((292 : Int32) + a0) < 0 ∨ 331 ≤ ((292 : Int32) + a0).toNatClampNeg
  · rw [if_pos c8] at h; cases h
  rw [if_neg c8] at h
  refine V.iald (t := ((292 : Int32) + a0).toNatClampNeg) (r := 58) hC sh_155 dX9_feelsHerd_57 c8 (Nat.zero_add _) rfl ?_
  rw [mset_eq] at h
  refine V.iast (t := 5) (r := 59) hC sh_171 dX9_feelsHerd_58 (by decide) (by decide) rfl ?_
  generalize upM M7 186 5 (M7 7 ((292 : Int32) + a0).toNatClampNeg) = M9 at h ⊢
  refine V.aload_n (r := 60) hC 0 dX9_feelsHerd_59 rfl rfl ?_
  refine V.getR (k' := 171) (j := 26) (r := 63) hC xcl_9 sh_154 fl_RX9_59 dX9_feelsHerd_60 (by decide) rfl rfl ?_
  refine V.bipush (r := 65) hC dX9_feelsHerd_63 kb_6 rfl ?_
  refine V.aload_n (r := 66) hC 0 dX9_feelsHerd_65 rfl rfl ?_
  refine V.getR (k' := 155) (j := 0) (r := 69) hC xcl_9 sh_154 fl_RX9_7 dX9_feelsHerd_66 (by decide) rfl rfl ?_
  refine V.sipush (r := 72) hC dX9_feelsHerd_69 ks_274 rfl ?_
  refine V.iload_n (r := 73) hC 1 dX9_feelsHerd_72 rfl rfl ?_
  refine V.iadd (r := 74) hC dX9_feelsHerd_73 rfl ?_
  by_cases c10 : ((274 : Int32) + a0) < 0 ∨ 331 ≤ ((274 : Int32) + a0).toNatClampNeg
  · rw [if_pos c10] at h; cases h
  rw [if_neg c10] at h
  refine V.iald (t := ((274 : Int32) + a0).toNatClampNeg) (r := 75) hC sh_155 dX9_feelsHerd_74 c10 (Nat.zero_add _) rfl ?_
  refine V.bipush (r := 77) hC dX9_feelsHerd_75 kb_14 rfl ?_
  refine V.irem (r := 78) hC dX9_feelsHerd_77 (by decide) rfl ?_
  rw [mset_eq] at h
  refine V.iast (t := 6) (r := 79) hC sh_171 dX9_feelsHerd_78 (by decide) (by decide) rfl ?_
  generalize upM M9 186 6 ((M9 7 ((274 : Int32) + a0).toNatClampNeg) - (M9 7 ((274 : Int32) + a0).toNatClampNeg) / (14 : Int32) * (14 : Int32)) = M11 at h ⊢
  refine V.aload_n (r := 80) hC 0 dX9_feelsHerd_79 rfl rfl ?_
  refine V.getR (k' := 171) (j := 26) (r := 83) hC xcl_9 sh_154 fl_RX9_59 dX9_feelsHerd_80 (by decide) rfl rfl ?_
  refine V.bipush (r := 85) hC dX9_feelsHerd_83 kb_7 rfl ?_
  refine V.aload_n (r := 86) hC 0 dX9_feelsHerd_85 rfl rfl ?_
  refine V.getR (k' := 155) (j := 0) (r := 89) hC xcl_9 sh_154 fl_RX9_7 dX9_feelsHerd_86 (by decide) rfl rfl ?_
  refine V.sipush (r := 92) hC dX9_feelsHerd_89 ks_274 rfl ?_
  refine V.iload_n (r := 93) hC 1 dX9_feelsHerd_92 rfl rfl ?_
  refine V.iadd (r := 94) hC dX9_feelsHerd_93 rfl ?_
  refine V.iald (t := ((274 : Int32) + a0).toNatClampNeg) (r := 95) hC sh_155 dX9_feelsHerd_94 c10 (Nat.zero_add _) rfl ?_
  refine V.bipush (r := 97) hC dX9_feelsHerd_95 kb_14 rfl ?_
  refine V.idiv (r := 98) hC dX9_feelsHerd_97 (by decide) rfl ?_
  rw [mset_eq] at h
  refine V.iast (t := 7) (r := 99) hC sh_171 dX9_feelsHerd_98 (by decide) (by decide) rfl ?_
  generalize upM M11 186 7 ((M11 7 ((274 : Int32) + a0).toNatClampNeg) / (14 : Int32)) = M12 at h ⊢
  refine V.aload_n (r := 100) hC 0 dX9_feelsHerd_99 rfl rfl ?_
  refine V.getR (k' := 171) (j := 26) (r := 103) hC xcl_9 sh_154 fl_RX9_59 dX9_feelsHerd_100 (by decide) rfl rfl ?_
  refine V.bipush (r := 105) hC dX9_feelsHerd_103 kb_8 rfl ?_
  refine V.aload_n (r := 106) hC 0 dX9_feelsHerd_105 rfl rfl ?_
  refine V.getR (k' := 155) (j := 0) (r := 109) hC xcl_9 sh_154 fl_RX9_7 dX9_feelsHerd_106 (by decide) rfl rfl ?_
  refine V.iconst (r := 110) hC dX9_feelsHerd_109 ki_0 rfl ?_
  refine V.aload_n (r := 111) hC 0 dX9_feelsHerd_110 rfl rfl ?_
  refine V.getR (k' := 155) (j := 0) (r := 114) hC xcl_9 sh_154 fl_RX9_7 dX9_feelsHerd_111 (by decide) rfl rfl ?_
  refine V.sipush (r := 117) hC dX9_feelsHerd_114 ks_274 rfl ?_
  refine V.iload_n (r := 118) hC 1 dX9_feelsHerd_117 rfl rfl ?_
  refine V.iadd (r := 119) hC dX9_feelsHerd_118 rfl ?_
  refine V.iald (t := ((274 : Int32) + a0).toNatClampNeg) (r := 120) hC sh_155 dX9_feelsHerd_119 c10 (Nat.zero_add _) rfl ?_
  refine V.iadd (r := 121) hC dX9_feelsHerd_120 rfl ?_
  by_cases c13 : ((0 : Int32) + (M12 7 ((274 : Int32) + a0).toNatClampNeg)) < 0 ∨ 331 ≤ ((0 : Int32) + (M12 7 ((274 : Int32) + a0).toNatClampNeg)).toNatClampNeg
  · rw [if_pos c13] at h; cases h
  rw [if_neg c13] at h
  refine V.iald (t := ((0 : Int32) + (M12 7 ((274 : Int32) + a0).toNatClampNeg)).toNatClampNeg) (r := 122) hC sh_155 dX9_feelsHerd_121 c13 (Nat.zero_add _) rfl ?_
  rw [mset_eq] at h
  refine V.iast (t := 8) (r := 123) hC sh_171 dX9_feelsHerd_122 (by decide) (by decide) rfl ?_
  generalize upM M12 186 8 (M12 7 ((0 : Int32) + (M12 7 ((274 : Int32) + a0).toNatClampNeg)).toNatClampNeg) = M14 at h ⊢
  refine V.aload_n (r := 124) hC 0 dX9_feelsHerd_123 rfl rfl ?_
  refine V.getR (k' := 171) (j := 26) (r := 127) hC xcl_9 sh_154 fl_RX9_59 dX9_feelsHerd_124 (by decide) rfl rfl ?_
  refine V.bipush (r := 129) hC dX9_feelsHerd_127 kb_9 rfl ?_
  refine V.aload_n (r := 130) hC 0 dX9_feelsHerd_129 rfl rfl ?_
  obtain ⟨q15, hq16, h⟩ := Option.bind_eq_some_iff.mp h
  try dsimp only at h
  refine V.invVi (as := []) (st := [.inl (9 : Int32), .inr 171]) (r := 133) hC (met9_isClouded hq16) yv_X9_isClouded ml_RX9_232 sh_154 rfl rfl dX9_feelsHerd_130 (by decide) rfl rfl rfl rfl ?_
  refine V.if_eq (tgt := 140) (r := 136) hC dX9_feelsHerd_133 (by decide) rfl (fun c17 => ?_) (fun c17 => ?_)
  · rw [if_pos c17] at h
    refine V.iconst (r := 141) hC dX9_feelsHerd_140 ki_0 rfl ?_
    refine V.pick (lv' := [(0, .inr 154), (2, .inl a1)]) [0, 2] rfl ?_
    exact v9_feelsHerd_b141  hC hR  _ _ _ _ h
  · rw [if_neg c17] at h
    refine V.iconst (r := 137) hC dX9_feelsHerd_136 ki_1 rfl ?_
    refine V.goto (tgt := 141) hC dX9_feelsHerd_137 (by decide) ?_
    refine V.pick (lv' := [(0, .inr 154), (2, .inl a1)]) [0, 2] rfl ?_
    exact v9_feelsHerd_b141  hC hR  _ _ _ _ h
theorem met9_feelsHerd {R : xMem} {a0 a1 : Int32} {M : xMem} (h : g9_feelsHerd a0 a1 M = some R) : xMet yX9_feelsHerd cX9_feelsHerd 3 none 2 [.inr 154, .inl a0, .inl a1] M none R := xMet.ofV (by decide +kernel) (Nat.le_of_ble_eq_true rfl) fun _ hC hR => v9_feelsHerd  hC hR h
def g9_pulls (a0 a1 : Int32) (M : xMem) : Option (Int32 × xMem) :=
Option.bind (g9_feelsHerd a0 (0 : Int32) M) fun q1 =>
mset (upM q1 186 11 a1) fun M3 =>
Option.bind (g9_kindOf a1 M3) fun q4 =>
mset (upM q4.2 186 12 (q4.1)) fun M6 =>
if ((274 : Int32) + a0) < 0 ∨ 331 ≤ ((274 : Int32) + a0).toNatClampNeg then none else
Option.bind (g9_lampAt a1 M6) fun q8 =>
Option.bind (g9_way (M6 7 ((274 : Int32) + a0).toNatClampNeg) (q8.1) q8.2) fun q10 =>
mset (upM q10.2 186 13 (q10.1)) fun M12 =>
Option.bind (g9_byLaw (97 : Int32) (0 : Int32) (999 : Int32) M12) fun q13 =>
some (q13.1, q13.2)
set_option maxHeartbeats 4000000 in
set_option maxRecDepth 20000 in
theorem v9_pulls {G : xG} (hC : xC G cX9_pulls 3 RX9 3) {R : Int32 × xMem} (hR : xRI G cX9_pulls 3 R) {a0 a1 : Int32} {M : xMem} (h : g9_pulls a0 a1 M = some R) : V G 3 0 [(0, .inr 154), (1, .inl a0), (2, .inl a1)] [] M := by
  unfold g9_pulls at h
  refine V.aload_n (r := 1) hC 0 dX9_pulls_0 rfl rfl ?_
  refine V.iload_n (r := 2) hC 1 dX9_pulls_1 rfl rfl ?_
  refine V.iconst (r := 3) hC dX9_pulls_2 ki_0 rfl ?_
  obtain ⟨q1, hq2, h⟩ := Option.bind_eq_some_iff.mp h
  try dsimp only at h
  refine V.invVv (as := [.inl a0, .inl (0 : Int32)]) (st := []) (r := 6) hC (met9_feelsHerd hq2) yv_X9_feelsHerd ml_RX9_235 sh_154 rfl rfl dX9_pulls_3 (by decide) rfl rfl rfl rfl ?_
  refine V.aload_n (r := 7) hC 0 dX9_pulls_6 rfl rfl ?_
  refine V.getR (k' := 171) (j := 26) (r := 10) hC xcl_9 sh_154 fl_RX9_59 dX9_pulls_7 (by decide) rfl rfl ?_
  refine V.bipush (r := 12) hC dX9_pulls_10 kb_11 rfl ?_
  refine V.iload_n (r := 13) hC 2 dX9_pulls_12 rfl rfl ?_
  rw [mset_eq] at h
  refine V.iast (t := 11) (r := 14) hC sh_171 dX9_pulls_13 (by decide) (by decide) rfl ?_
  generalize upM q1 186 11 a1 = M3 at h ⊢
  refine V.aload_n (r := 15) hC 0 dX9_pulls_14 rfl rfl ?_
  refine V.getR (k' := 171) (j := 26) (r := 18) hC xcl_9 sh_154 fl_RX9_59 dX9_pulls_15 (by decide) rfl rfl ?_
  refine V.bipush (r := 20) hC dX9_pulls_18 kb_12 rfl ?_
  refine V.aload_n (r := 21) hC 0 dX9_pulls_20 rfl rfl ?_
  refine V.iload_n (r := 22) hC 2 dX9_pulls_21 rfl rfl ?_
  obtain ⟨q4, hq5, h⟩ := Option.bind_eq_some_iff.mp h
  try dsimp only at h
  refine V.invVi (as := [.inl a1]) (st := [.inl (12 : Int32), .inr 171]) (r := 25) hC (met9_kindOf hq5) yv_X9_kindOf ml_RX9_238 sh_154 rfl rfl dX9_pulls_22 (by decide) rfl rfl rfl rfl ?_
  rw [mset_eq] at h
  refine V.iast (t := 12) (r := 26) hC sh_171 dX9_pulls_25 (by decide) (by decide) rfl ?_
  generalize upM q4.2 186 12 (q4.1) = M6 at h ⊢
  refine V.aload_n (r := 27) hC 0 dX9_pulls_26 rfl rfl ?_
  refine V.getR (k' := 171) (j := 26) (r := 30) hC xcl_9 sh_154 fl_RX9_59 dX9_pulls_27 (by decide) rfl rfl ?_
  refine V.bipush (r := 32) hC dX9_pulls_30 kb_13 rfl ?_
  refine V.aload_n (r := 33) hC 0 dX9_pulls_32 rfl rfl ?_
  refine V.getR (k' := 155) (j := 0) (r := 36) hC xcl_9 sh_154 fl_RX9_7 dX9_pulls_33 (by decide) rfl rfl ?_
  refine V.sipush (r := 39) hC dX9_pulls_36 ks_274 rfl ?_
  refine V.iload_n (r := 40) hC 1 dX9_pulls_39 rfl rfl ?_
  refine V.iadd (r := 41) hC dX9_pulls_40 rfl ?_
  by_cases c7 : ((274 : Int32) + a0) < 0 ∨ 331 ≤ ((274 : Int32) + a0).toNatClampNeg
  · rw [if_pos c7] at h; cases h
  rw [if_neg c7] at h
  refine V.iald (t := ((274 : Int32) + a0).toNatClampNeg) (r := 42) hC sh_155 dX9_pulls_41 c7 (Nat.zero_add _) rfl ?_
  refine V.aload_n (r := 43) hC 0 dX9_pulls_42 rfl rfl ?_
  refine V.iload_n (r := 44) hC 2 dX9_pulls_43 rfl rfl ?_
  obtain ⟨q8, hq9, h⟩ := Option.bind_eq_some_iff.mp h
  try dsimp only at h
  refine V.invVi (as := [.inl a1]) (st := [.inl (M6 7 ((274 : Int32) + a0).toNatClampNeg), .inl (13 : Int32), .inr 171]) (r := 47) hC (met9_lampAt hq9) yv_X9_lampAt ml_RX9_241 sh_154 rfl rfl dX9_pulls_44 (by decide) rfl rfl rfl rfl ?_
  obtain ⟨q10, hq11, h⟩ := Option.bind_eq_some_iff.mp h
  try dsimp only at h
  refine V.invSi (as := [.inl (M6 7 ((274 : Int32) + a0).toNatClampNeg), .inl (q8.1)]) (st := [.inl (13 : Int32), .inr 171]) (r := 50) hC (met9_way hq11) ys_X9_way ml_RX9_244 dX9_pulls_47 (by decide) rfl rfl rfl rfl ?_
  rw [mset_eq] at h
  refine V.iast (t := 13) (r := 51) hC sh_171 dX9_pulls_50 (by decide) (by decide) rfl ?_
  generalize upM q10.2 186 13 (q10.1) = M12 at h ⊢
  refine V.aload_n (r := 52) hC 0 dX9_pulls_51 rfl rfl ?_
  refine V.bipush (r := 54) hC dX9_pulls_52 kb_97 rfl ?_
  refine V.iconst (r := 55) hC dX9_pulls_54 ki_0 rfl ?_
  refine V.sipush (r := 58) hC dX9_pulls_55 ks_999 rfl ?_
  obtain ⟨q13, hq14, h⟩ := Option.bind_eq_some_iff.mp h
  try dsimp only at h
  refine V.invVi (as := [.inl (97 : Int32), .inl (0 : Int32), .inl (999 : Int32)]) (st := []) (r := 61) hC (met9_byLaw hq14) yv_X9_byLaw ml_RX9_247 sh_154 rfl rfl dX9_pulls_58 (by decide) rfl rfl rfl rfl ?_
  cases h
  exact hR _ _ dX9_pulls_61
theorem met9_pulls {R : Int32 × xMem} {a0 a1 : Int32} {M : xMem} (h : g9_pulls a0 a1 M = some R) : xMet yX9_pulls cX9_pulls 3 (some .int) 3 [.inr 154, .inl a0, .inl a1] M (some R.1) R.2 := xMet.ofI (by decide +kernel) (Nat.le_of_ble_eq_true rfl) fun _ hC hR => v9_pulls  hC hR h
def g9_priceOf (a0 : Int32) (M : xMem) : Option (Int32 × xMem) :=
Option.bind (g9_feels M) fun q1 =>
mset (upM q1 186 11 a0) fun M3 =>
if ((220 : Int32) + a0) < 0 ∨ 331 ≤ ((220 : Int32) + a0).toNatClampNeg then none else
mset (upM M3 186 12 (M3 7 ((220 : Int32) + a0).toNatClampNeg)) fun M5 =>
if ((232 : Int32) + a0) < 0 ∨ 331 ≤ ((232 : Int32) + a0).toNatClampNeg then none else
mset (upM M5 186 14 (M5 7 ((232 : Int32) + a0).toNatClampNeg)) fun M7 =>
Option.bind (g9_byLaw (98 : Int32) (0 : Int32) (999 : Int32) M7) fun q8 =>
some (q8.1, q8.2)
set_option maxHeartbeats 4000000 in
set_option maxRecDepth 20000 in
theorem v9_priceOf {G : xG} (hC : xC G cX9_priceOf 2 RX9 3) {R : Int32 × xMem} (hR : xRI G cX9_priceOf 2 R) {a0 : Int32} {M : xMem} (h : g9_priceOf a0 M = some R) : V G 2 0 [(0, .inr 154), (1, .inl a0)] [] M := by
  unfold g9_priceOf at h
  refine V.aload_n (r := 1) hC 0 dX9_priceOf_0 rfl rfl ?_
  obtain ⟨q1, hq2, h⟩ := Option.bind_eq_some_iff.mp h
  try dsimp only at h
  refine V.invVv (as := []) (st := []) (r := 4) hC (met9_feels hq2) yv_X9_feels ml_RX9_229 sh_154 rfl rfl dX9_priceOf_1 (by decide) rfl rfl rfl rfl ?_
  refine V.aload_n (r := 5) hC 0 dX9_priceOf_4 rfl rfl ?_
  refine V.getR (k' := 171) (j := 26) (r := 8) hC xcl_9 sh_154 fl_RX9_59 dX9_priceOf_5 (by decide) rfl rfl ?_
  refine V.bipush (r := 10) hC dX9_priceOf_8 kb_11 rfl ?_
  refine V.iload_n (r := 11) hC 1 dX9_priceOf_10 rfl rfl ?_
  rw [mset_eq] at h
  refine V.iast (t := 11) (r := 12) hC sh_171 dX9_priceOf_11 (by decide) (by decide) rfl ?_
  generalize upM q1 186 11 a0 = M3 at h ⊢
  refine V.aload_n (r := 13) hC 0 dX9_priceOf_12 rfl rfl ?_
  refine V.getR (k' := 171) (j := 26) (r := 16) hC xcl_9 sh_154 fl_RX9_59 dX9_priceOf_13 (by decide) rfl rfl ?_
  refine V.bipush (r := 18) hC dX9_priceOf_16 kb_12 rfl ?_
  refine V.aload_n (r := 19) hC 0 dX9_priceOf_18 rfl rfl ?_
  refine V.getR (k' := 155) (j := 0) (r := 22) hC xcl_9 sh_154 fl_RX9_7 dX9_priceOf_19 (by decide) rfl rfl ?_
  refine V.sipush (r := 25) hC dX9_priceOf_22 ks_220 rfl ?_
  refine V.iload_n (r := 26) hC 1 dX9_priceOf_25 rfl rfl ?_
  refine V.iadd (r := 27) hC dX9_priceOf_26 rfl ?_
  by_cases c4 : ((220 : Int32) + a0) < 0 ∨ 331 ≤ ((220 : Int32) + a0).toNatClampNeg
  · rw [if_pos c4] at h; cases h
  rw [if_neg c4] at h
  refine V.iald (t := ((220 : Int32) + a0).toNatClampNeg) (r := 28) hC sh_155 dX9_priceOf_27 c4 (Nat.zero_add _) rfl ?_
  rw [mset_eq] at h
  refine V.iast (t := 12) (r := 29) hC sh_171 dX9_priceOf_28 (by decide) (by decide) rfl ?_
  generalize upM M3 186 12 (M3 7 ((220 : Int32) + a0).toNatClampNeg) = M5 at h ⊢
  refine V.aload_n (r := 30) hC 0 dX9_priceOf_29 rfl rfl ?_
  refine V.getR (k' := 171) (j := 26) (r := 33) hC xcl_9 sh_154 fl_RX9_59 dX9_priceOf_30 (by decide) rfl rfl ?_
  refine V.bipush (r := 35) hC dX9_priceOf_33 kb_14 rfl ?_
  refine V.aload_n (r := 36) hC 0 dX9_priceOf_35 rfl rfl ?_
  refine V.getR (k' := 155) (j := 0) (r := 39) hC xcl_9 sh_154 fl_RX9_7 dX9_priceOf_36 (by decide) rfl rfl ?_
  refine V.sipush (r := 42) hC dX9_priceOf_39 ks_232 rfl ?_
  refine V.iload_n (r := 43) hC 1 dX9_priceOf_42 rfl rfl ?_
  refine V.iadd (r := 44) hC dX9_priceOf_43 rfl ?_
  by_cases c6 : ((232 : Int32) + a0) < 0 ∨ 331 ≤ ((232 : Int32) + a0).toNatClampNeg
  · rw [if_pos c6] at h; cases h
  rw [if_neg c6] at h
  refine V.iald (t := ((232 : Int32) + a0).toNatClampNeg) (r := 45) hC sh_155 dX9_priceOf_44 c6 (Nat.zero_add _) rfl ?_
  rw [mset_eq] at h
  refine V.iast (t := 14) (r := 46) hC sh_171 dX9_priceOf_45 (by decide) (by decide) rfl ?_
  generalize upM M5 186 14 (M5 7 ((232 : Int32) + a0).toNatClampNeg) = M7 at h ⊢
  refine V.aload_n (r := 47) hC 0 dX9_priceOf_46 rfl rfl ?_
  refine V.bipush (r := 49) hC dX9_priceOf_47 kb_98 rfl ?_
  refine V.iconst (r := 50) hC dX9_priceOf_49 ki_0 rfl ?_
  refine V.sipush (r := 53) hC dX9_priceOf_50 ks_999 rfl ?_
  obtain ⟨q8, hq9, h⟩ := Option.bind_eq_some_iff.mp h
  try dsimp only at h
  refine V.invVi (as := [.inl (98 : Int32), .inl (0 : Int32), .inl (999 : Int32)]) (st := []) (r := 56) hC (met9_byLaw hq9) yv_X9_byLaw ml_RX9_247 sh_154 rfl rfl dX9_priceOf_53 (by decide) rfl rfl rfl rfl ?_
  cases h
  exact hR _ _ dX9_priceOf_56
theorem met9_priceOf {R : Int32 × xMem} {a0 : Int32} {M : xMem} (h : g9_priceOf a0 M = some R) : xMet yX9_priceOf cX9_priceOf 2 (some .int) 3 [.inr 154, .inl a0] M (some R.1) R.2 := xMet.ofI (by decide +kernel) (Nat.le_of_ble_eq_true rfl) fun _ hC hR => v9_priceOf  hC hR h
def g9_price (a0 : Int32) (M : xMem) : Option (Int32 × xMem) :=
Option.bind (g9_isInn a0 M) fun q1 =>
if (q1.1) = 0 then
(some ((-1 : Int32), q1.2))
else
(Option.bind (g9_isLamp a0 q1.2) fun q4 =>
if (q4.1) = 0 then
(some ((-1 : Int32), q4.2))
else
(Option.bind (g9_priceOf a0 q4.2) fun q7 =>
some (q7.1, q7.2)))
set_option maxHeartbeats 4000000 in
set_option maxRecDepth 20000 in
theorem v9_price {G : xG} (hC : xC G cX9_price 2 RX9 4) {R : Int32 × xMem} (hR : xRI G cX9_price 2 R) {a0 : Int32} {M : xMem} (h : g9_price a0 M = some R) : V G 2 0 [(0, .inr 154), (1, .inl a0)] [] M := by
  unfold g9_price at h
  refine V.iload_n (r := 1) hC 1 dX9_price_0 rfl rfl ?_
  obtain ⟨q1, hq2, h⟩ := Option.bind_eq_some_iff.mp h
  try dsimp only at h
  refine V.invSi (as := [.inl a0]) (st := []) (r := 4) hC (met9_isInn hq2) ys_X9_isInn ml_RX9_102 dX9_price_1 (by decide) rfl rfl rfl rfl ?_
  refine V.if_eq (tgt := 23) (r := 7) hC dX9_price_4 (by decide) rfl (fun c3 => ?_) (fun c3 => ?_)
  · rw [if_pos c3] at h
    refine V.iconst (r := 24) hC dX9_price_23 ki_m1 rfl ?_
    cases h
    exact hR _ _ dX9_price_24
  · rw [if_neg c3] at h
    refine V.aload_n (r := 8) hC 0 dX9_price_7 rfl rfl ?_
    refine V.iload_n (r := 9) hC 1 dX9_price_8 rfl rfl ?_
    obtain ⟨q4, hq5, h⟩ := Option.bind_eq_some_iff.mp h
    try dsimp only at h
    refine V.invVi (as := [.inl a0]) (st := []) (r := 12) hC (met9_isLamp hq5) yv_X9_isLamp ml_RX9_109 sh_154 rfl rfl dX9_price_9 (by decide) rfl rfl rfl rfl ?_
    refine V.if_eq (tgt := 23) (r := 15) hC dX9_price_12 (by decide) rfl (fun c6 => ?_) (fun c6 => ?_)
    · rw [if_pos c6] at h
      refine V.iconst (r := 24) hC dX9_price_23 ki_m1 rfl ?_
      cases h
      exact hR _ _ dX9_price_24
    · rw [if_neg c6] at h
      refine V.aload_n (r := 16) hC 0 dX9_price_15 rfl rfl ?_
      refine V.iload_n (r := 17) hC 1 dX9_price_16 rfl rfl ?_
      obtain ⟨q7, hq8, h⟩ := Option.bind_eq_some_iff.mp h
      try dsimp only at h
      refine V.invVi (as := [.inl a0]) (st := []) (r := 20) hC (met9_priceOf hq8) yv_X9_priceOf ml_RX9_250 sh_154 rfl rfl dX9_price_17 (by decide) rfl rfl rfl rfl ?_
      refine V.goto (tgt := 24) hC dX9_price_20 (by decide) ?_
      cases h
      exact hR _ _ dX9_price_24
theorem met9_price {R : Int32 × xMem} {a0 : Int32} {M : xMem} (h : g9_price a0 M = some R) : xMet yX9_price cX9_price 2 (some .int) 4 [.inr 154, .inl a0] M (some R.1) R.2 := xMet.ofI (by decide +kernel) (Nat.le_of_ble_eq_true rfl) fun _ hC hR => v9_price  hC hR h
def g9_pay (a0 a1 a2 : Int32) (M : xMem) : Option (Int32 × xMem) :=
Option.bind (g9_isDrover a0 M) fun q1 =>
if (q1.1) = 0 then
(some ((-1 : Int32), q1.2))
else
(Option.bind (g9_isInn a1 q1.2) fun q4 =>
if (q4.1) = 0 then
(some ((-1 : Int32), q4.2))
else
(Option.bind (g9_isLamp a1 q4.2) fun q7 =>
if (q7.1) = 0 then
(some ((-1 : Int32), q7.2))
else
(Option.bind (g9_in a2 (1 : Int32) (9 : Int32) q7.2) fun q10 =>
if (q10.1) = 0 then
(some ((-1 : Int32), q10.2))
else
(Option.bind (g9_priceOf a1 q10.2) fun q13 =>
if ((304 : Int32) + a0) < 0 ∨ 331 ≤ ((304 : Int32) + a0).toNatClampNeg then none else
if ((q13.1) * a2) ≤ (q13.2 7 ((304 : Int32) + a0).toNatClampNeg) then
(if ((232 : Int32) + a1) < 0 ∨ 331 ≤ ((232 : Int32) + a1).toNatClampNeg then none else
if ((q13.2 7 ((232 : Int32) + a1).toNatClampNeg) + a2) ≤ (99 : Int32) then
(mset (upM q13.2 7 ((304 : Int32) + a0).toNatClampNeg ((q13.2 7 ((304 : Int32) + a0).toNatClampNeg) - ((q13.1) * a2))) fun M19 =>
mset (upM M19 7 ((232 : Int32) + a1).toNatClampNeg ((M19 7 ((232 : Int32) + a1).toNatClampNeg) + a2)) fun M20 =>
some ((q13.1) * a2, M20))
else
(some ((-3 : Int32), q13.2)))
else
(some ((-2 : Int32), q13.2))))))
set_option maxHeartbeats 4000000 in
set_option maxRecDepth 20000 in
theorem v9_pay {G : xG} (hC : xC G cX9_pay 5 RX9 4) {R : Int32 × xMem} (hR : xRI G cX9_pay 5 R) {a0 a1 a2 : Int32} {M : xMem} (h : g9_pay a0 a1 a2 M = some R) : V G 5 0 [(0, .inr 154), (1, .inl a0), (2, .inl a1), (3, .inl a2)] [] M := by
  unfold g9_pay at h
  refine V.iload_n (r := 1) hC 1 dX9_pay_0 rfl rfl ?_
  obtain ⟨q1, hq2, h⟩ := Option.bind_eq_some_iff.mp h
  try dsimp only at h
  refine V.invSi (as := [.inl a0]) (st := []) (r := 4) hC (met9_isDrover hq2) ys_X9_isDrover ml_RX9_112 dX9_pay_1 (by decide) rfl rfl rfl rfl ?_
  refine V.if_eq (tgt := 32) (r := 7) hC dX9_pay_4 (by decide) rfl (fun c3 => ?_) (fun c3 => ?_)
  · rw [if_pos c3] at h
    refine V.iconst (r := 33) hC dX9_pay_32 ki_m1 rfl ?_
    cases h
    exact hR _ _ dX9_pay_33
  · rw [if_neg c3] at h
    refine V.iload_n (r := 8) hC 2 dX9_pay_7 rfl rfl ?_
    obtain ⟨q4, hq5, h⟩ := Option.bind_eq_some_iff.mp h
    try dsimp only at h
    refine V.invSi (as := [.inl a1]) (st := []) (r := 11) hC (met9_isInn hq5) ys_X9_isInn ml_RX9_102 dX9_pay_8 (by decide) rfl rfl rfl rfl ?_
    refine V.if_eq (tgt := 32) (r := 14) hC dX9_pay_11 (by decide) rfl (fun c6 => ?_) (fun c6 => ?_)
    · rw [if_pos c6] at h
      refine V.iconst (r := 33) hC dX9_pay_32 ki_m1 rfl ?_
      cases h
      exact hR _ _ dX9_pay_33
    · rw [if_neg c6] at h
      refine V.aload_n (r := 15) hC 0 dX9_pay_14 rfl rfl ?_
      refine V.iload_n (r := 16) hC 2 dX9_pay_15 rfl rfl ?_
      obtain ⟨q7, hq8, h⟩ := Option.bind_eq_some_iff.mp h
      try dsimp only at h
      refine V.invVi (as := [.inl a1]) (st := []) (r := 19) hC (met9_isLamp hq8) yv_X9_isLamp ml_RX9_109 sh_154 rfl rfl dX9_pay_16 (by decide) rfl rfl rfl rfl ?_
      refine V.if_eq (tgt := 32) (r := 22) hC dX9_pay_19 (by decide) rfl (fun c9 => ?_) (fun c9 => ?_)
      · rw [if_pos c9] at h
        refine V.iconst (r := 33) hC dX9_pay_32 ki_m1 rfl ?_
        cases h
        exact hR _ _ dX9_pay_33
      · rw [if_neg c9] at h
        refine V.iload_n (r := 23) hC 3 dX9_pay_22 rfl rfl ?_
        refine V.iconst (r := 24) hC dX9_pay_23 ki_1 rfl ?_
        refine V.bipush (r := 26) hC dX9_pay_24 kb_9 rfl ?_
        obtain ⟨q10, hq11, h⟩ := Option.bind_eq_some_iff.mp h
        try dsimp only at h
        refine V.invSi (as := [.inl a2, .inl (1 : Int32), .inl (9 : Int32)]) (st := []) (r := 29) hC (met9_in hq11) ys_X9_in ml_RX9_92 dX9_pay_26 (by decide) rfl rfl rfl rfl ?_
        refine V.if_ne (tgt := 34) (r := 32) hC dX9_pay_29 (by decide) rfl (fun c12 => ?_) (fun c12 => ?_)
        · rw [if_neg c12] at h
          refine V.aload_n (r := 35) hC 0 dX9_pay_34 rfl rfl ?_
          refine V.iload_n (r := 36) hC 2 dX9_pay_35 rfl rfl ?_
          obtain ⟨q13, hq14, h⟩ := Option.bind_eq_some_iff.mp h
          try dsimp only at h
          refine V.invVi (as := [.inl a1]) (st := []) (r := 39) hC (met9_priceOf hq14) yv_X9_priceOf ml_RX9_250 sh_154 rfl rfl dX9_pay_36 (by decide) rfl rfl rfl rfl ?_
          refine V.iload_n (r := 40) hC 3 dX9_pay_39 rfl rfl ?_
          refine V.imul (r := 41) hC dX9_pay_40 rfl ?_
          refine V.ist (lv' := [(0, .inr 154), (1, .inl a0), (2, .inl a1), (3, .inl a2), (4, .inl ((q13.1) * a2))]) (r := 43) hC dX9_pay_41 rfl rfl rfl ?_
          refine V.iload (r := 45) hC 4 dX9_pay_43 rfl rfl ?_
          refine V.aload_n (r := 46) hC 0 dX9_pay_45 rfl rfl ?_
          refine V.getR (k' := 155) (j := 0) (r := 49) hC xcl_9 sh_154 fl_RX9_7 dX9_pay_46 (by decide) rfl rfl ?_
          refine V.sipush (r := 52) hC dX9_pay_49 ks_304 rfl ?_
          refine V.iload_n (r := 53) hC 1 dX9_pay_52 rfl rfl ?_
          refine V.iadd (r := 54) hC dX9_pay_53 rfl ?_
          by_cases c15 : ((304 : Int32) + a0) < 0 ∨ 331 ≤ ((304 : Int32) + a0).toNatClampNeg
          · rw [if_pos c15] at h; cases h
          rw [if_neg c15] at h
          refine V.iald (t := ((304 : Int32) + a0).toNatClampNeg) (r := 55) hC sh_155 dX9_pay_54 c15 (Nat.zero_add _) rfl ?_
          refine V.icmp_le (tgt := 61) (r := 58) hC dX9_pay_55 (by decide) rfl (fun c16 => ?_) (fun c16 => ?_)
          · rw [if_pos c16] at h
            refine V.aload_n (r := 62) hC 0 dX9_pay_61 rfl rfl ?_
            refine V.getR (k' := 155) (j := 0) (r := 65) hC xcl_9 sh_154 fl_RX9_7 dX9_pay_62 (by decide) rfl rfl ?_
            refine V.sipush (r := 68) hC dX9_pay_65 ks_232 rfl ?_
            refine V.iload_n (r := 69) hC 2 dX9_pay_68 rfl rfl ?_
            refine V.iadd (r := 70) hC dX9_pay_69 rfl ?_
            by_cases c17 : ((232 : Int32) + a1) < 0 ∨ 331 ≤ ((232 : Int32) + a1).toNatClampNeg
            · rw [if_pos c17] at h; cases h
            rw [if_neg c17] at h
            refine V.iald (t := ((232 : Int32) + a1).toNatClampNeg) (r := 71) hC sh_155 dX9_pay_70 c17 (Nat.zero_add _) rfl ?_
            refine V.iload_n (r := 72) hC 3 dX9_pay_71 rfl rfl ?_
            refine V.iadd (r := 73) hC dX9_pay_72 rfl ?_
            refine V.bipush (r := 75) hC dX9_pay_73 kb_99 rfl ?_
            refine V.icmp_le (tgt := 81) (r := 78) hC dX9_pay_75 (by decide) rfl (fun c18 => ?_) (fun c18 => ?_)
            · rw [if_pos c18] at h
              refine V.aload_n (r := 82) hC 0 dX9_pay_81 rfl rfl ?_
              refine V.getR (k' := 155) (j := 0) (r := 85) hC xcl_9 sh_154 fl_RX9_7 dX9_pay_82 (by decide) rfl rfl ?_
              refine V.sipush (r := 88) hC dX9_pay_85 ks_304 rfl ?_
              refine V.iload_n (r := 89) hC 1 dX9_pay_88 rfl rfl ?_
              refine V.iadd (r := 90) hC dX9_pay_89 rfl ?_
              refine V.aload_n (r := 91) hC 0 dX9_pay_90 rfl rfl ?_
              refine V.getR (k' := 155) (j := 0) (r := 94) hC xcl_9 sh_154 fl_RX9_7 dX9_pay_91 (by decide) rfl rfl ?_
              refine V.sipush (r := 97) hC dX9_pay_94 ks_304 rfl ?_
              refine V.iload_n (r := 98) hC 1 dX9_pay_97 rfl rfl ?_
              refine V.iadd (r := 99) hC dX9_pay_98 rfl ?_
              refine V.iald (t := ((304 : Int32) + a0).toNatClampNeg) (r := 100) hC sh_155 dX9_pay_99 c15 (Nat.zero_add _) rfl ?_
              refine V.iload (r := 102) hC 4 dX9_pay_100 rfl rfl ?_
              refine V.isub (r := 103) hC dX9_pay_102 rfl ?_
              rw [mset_eq] at h
              refine V.iast (t := ((304 : Int32) + a0).toNatClampNeg) (r := 104) hC sh_155 dX9_pay_103 c15 (Nat.zero_add _) rfl ?_
              generalize upM q13.2 7 ((304 : Int32) + a0).toNatClampNeg ((q13.2 7 ((304 : Int32) + a0).toNatClampNeg) - ((q13.1) * a2)) = M19 at h ⊢
              refine V.aload_n (r := 105) hC 0 dX9_pay_104 rfl rfl ?_
              refine V.getR (k' := 155) (j := 0) (r := 108) hC xcl_9 sh_154 fl_RX9_7 dX9_pay_105 (by decide) rfl rfl ?_
              refine V.sipush (r := 111) hC dX9_pay_108 ks_232 rfl ?_
              refine V.iload_n (r := 112) hC 2 dX9_pay_111 rfl rfl ?_
              refine V.iadd (r := 113) hC dX9_pay_112 rfl ?_
              refine V.aload_n (r := 114) hC 0 dX9_pay_113 rfl rfl ?_
              refine V.getR (k' := 155) (j := 0) (r := 117) hC xcl_9 sh_154 fl_RX9_7 dX9_pay_114 (by decide) rfl rfl ?_
              refine V.sipush (r := 120) hC dX9_pay_117 ks_232 rfl ?_
              refine V.iload_n (r := 121) hC 2 dX9_pay_120 rfl rfl ?_
              refine V.iadd (r := 122) hC dX9_pay_121 rfl ?_
              refine V.iald (t := ((232 : Int32) + a1).toNatClampNeg) (r := 123) hC sh_155 dX9_pay_122 c17 (Nat.zero_add _) rfl ?_
              refine V.iload_n (r := 124) hC 3 dX9_pay_123 rfl rfl ?_
              refine V.iadd (r := 125) hC dX9_pay_124 rfl ?_
              rw [mset_eq] at h
              refine V.iast (t := ((232 : Int32) + a1).toNatClampNeg) (r := 126) hC sh_155 dX9_pay_125 c17 (Nat.zero_add _) rfl ?_
              generalize upM M19 7 ((232 : Int32) + a1).toNatClampNeg ((M19 7 ((232 : Int32) + a1).toNatClampNeg) + a2) = M20 at h ⊢
              refine V.iload (r := 128) hC 4 dX9_pay_126 rfl rfl ?_
              cases h
              exact hR _ _ dX9_pay_128
            · rw [if_neg c18] at h
              refine V.bipush (r := 80) hC dX9_pay_78 kb_m3 rfl ?_
              cases h
              exact hR _ _ dX9_pay_80
          · rw [if_neg c16] at h
            refine V.bipush (r := 60) hC dX9_pay_58 kb_m2 rfl ?_
            cases h
            exact hR _ _ dX9_pay_60
        · rw [if_pos c12] at h
          refine V.iconst (r := 33) hC dX9_pay_32 ki_m1 rfl ?_
          cases h
          exact hR _ _ dX9_pay_33
theorem met9_pay {R : Int32 × xMem} {a0 a1 a2 : Int32} {M : xMem} (h : g9_pay a0 a1 a2 M = some R) : xMet yX9_pay cX9_pay 5 (some .int) 4 [.inr 154, .inl a0, .inl a1, .inl a2] M (some R.1) R.2 := xMet.ofI (by decide +kernel) (Nat.le_of_ble_eq_true rfl) fun _ hC hR => v9_pay  hC hR h
def g9_clouds (a0 : Int32) (M : xMem) : Option (Int32 × xMem) :=
Option.bind (g9_in a0 (0 : Int32) (255 : Int32) M) fun q1 =>
if (q1.1) = 0 then
(some ((0 : Int32), q1.2))
else
(mset (upM q1.2 7 329 a0) fun M4 =>
some ((1 : Int32), M4))
set_option maxHeartbeats 4000000 in
set_option maxRecDepth 20000 in
theorem v9_clouds {G : xG} (hC : xC G cX9_clouds 2 RX9 1) {R : Int32 × xMem} (hR : xRZ G cX9_clouds 2 R) {a0 : Int32} {M : xMem} (h : g9_clouds a0 M = some R) : V G 2 0 [(0, .inr 154), (1, .inl a0)] [] M := by
  unfold g9_clouds at h
  refine V.iload_n (r := 1) hC 1 dX9_clouds_0 rfl rfl ?_
  refine V.iconst (r := 2) hC dX9_clouds_1 ki_0 rfl ?_
  refine V.sipush (r := 5) hC dX9_clouds_2 ks_255 rfl ?_
  obtain ⟨q1, hq2, h⟩ := Option.bind_eq_some_iff.mp h
  try dsimp only at h
  refine V.invSi (as := [.inl a0, .inl (0 : Int32), .inl (255 : Int32)]) (st := []) (r := 8) hC (met9_in hq2) ys_X9_in ml_RX9_92 dX9_clouds_5 (by decide) rfl rfl rfl rfl ?_
  refine V.if_ne (tgt := 13) (r := 11) hC dX9_clouds_8 (by decide) rfl (fun c3 => ?_) (fun c3 => ?_)
  · rw [if_neg c3] at h
    refine V.aload_n (r := 14) hC 0 dX9_clouds_13 rfl rfl ?_
    refine V.getR (k' := 155) (j := 0) (r := 17) hC xcl_9 sh_154 fl_RX9_7 dX9_clouds_14 (by decide) rfl rfl ?_
    refine V.sipush (r := 20) hC dX9_clouds_17 ks_329 rfl ?_
    refine V.iload_n (r := 21) hC 1 dX9_clouds_20 rfl rfl ?_
    rw [mset_eq] at h
    refine V.iast (t := 329) (r := 22) hC sh_155 dX9_clouds_21 (by decide) (by decide) rfl ?_
    generalize upM q1.2 7 329 a0 = M4 at h ⊢
    refine V.iconst (r := 23) hC dX9_clouds_22 ki_1 rfl ?_
    cases h
    exact hR _ _ (Or.inr rfl) dX9_clouds_23
  · rw [if_pos c3] at h
    refine V.iconst (r := 12) hC dX9_clouds_11 ki_0 rfl ?_
    cases h
    exact hR _ _ (Or.inl rfl) dX9_clouds_12
theorem met9_clouds {R : Int32 × xMem} {a0 : Int32} {M : xMem} (h : g9_clouds a0 M = some R) : xMet yX9_clouds cX9_clouds 2 (some .boolean) 1 [.inr 154, .inl a0] M (some R.1) R.2 := xMet.ofZ (by decide +kernel) (Nat.le_of_ble_eq_true rfl) fun _ hC hR => v9_clouds  hC hR h
def g9_lit_b22 (x1 s0 : Int32) (M : xMem) : Option (Int32 × xMem) :=
if s0 = 0 then
(some ((-1 : Int32), M))
else
(Option.bind (g9_isLit x1 M) fun q7 =>
if (q7.1) = 0 then
(some ((0 : Int32), q7.2))
else
(some ((1 : Int32), q7.2)))
set_option maxHeartbeats 4000000 in
set_option maxRecDepth 20000 in
theorem v9_lit_b22 {G : xG} (hC : xC G cX9_lit 3 RX9 3) {R : Int32 × xMem} (hR : xRI G cX9_lit 3 R) (x1 s0 : Int32) (M : xMem) (h : g9_lit_b22 x1 s0 M = some R) : V G 3 22 [(0, .inr 154), (1, .inl x1)] [.inl s0] M := by
  unfold g9_lit_b22 at h
  refine V.ist_n (lv' := [(0, .inr 154), (1, .inl x1), (2, .inl s0)]) (r := 23) hC dX9_lit_22 rfl rfl rfl ?_
  refine V.iload_n (r := 24) hC 2 dX9_lit_23 rfl rfl ?_
  refine V.if_ne (tgt := 31) (r := 27) hC dX9_lit_24 (by decide) rfl (fun c6 => ?_) (fun c6 => ?_)
  · rw [if_neg c6] at h
    refine V.aload_n (r := 32) hC 0 dX9_lit_31 rfl rfl ?_
    refine V.iload_n (r := 33) hC 1 dX9_lit_32 rfl rfl ?_
    obtain ⟨q7, hq8, h⟩ := Option.bind_eq_some_iff.mp h
    try dsimp only at h
    refine V.invVi (as := [.inl x1]) (st := []) (r := 36) hC (met9_isLit hq8) yv_X9_isLit ml_RX9_253 sh_154 rfl rfl dX9_lit_33 (by decide) rfl rfl rfl rfl ?_
    refine V.if_eq (tgt := 43) (r := 39) hC dX9_lit_36 (by decide) rfl (fun c9 => ?_) (fun c9 => ?_)
    · rw [if_pos c9] at h
      refine V.iconst (r := 44) hC dX9_lit_43 ki_0 rfl ?_
      cases h
      exact hR _ _ dX9_lit_44
    · rw [if_neg c9] at h
      refine V.iconst (r := 40) hC dX9_lit_39 ki_1 rfl ?_
      refine V.goto (tgt := 44) hC dX9_lit_40 (by decide) ?_
      cases h
      exact hR _ _ dX9_lit_44
  · rw [if_pos c6] at h
    refine V.iconst (r := 28) hC dX9_lit_27 ki_m1 rfl ?_
    refine V.goto (tgt := 44) hC dX9_lit_28 (by decide) ?_
    cases h
    exact hR _ _ dX9_lit_44
def g9_lit (a0 : Int32) (M : xMem) : Option (Int32 × xMem) :=
if a0 < (12 : Int32) then
(Option.bind (g9_isLamp a0 M) fun q2 =>
g9_lit_b22 a0 (q2.1) q2.2)
else
(Option.bind (g9_isTold (a0 - (12 : Int32)) M) fun q4 =>
g9_lit_b22 a0 (q4.1) q4.2)
set_option maxHeartbeats 4000000 in
set_option maxRecDepth 20000 in
theorem v9_lit {G : xG} (hC : xC G cX9_lit 3 RX9 3) {R : Int32 × xMem} (hR : xRI G cX9_lit 3 R) {a0 : Int32} {M : xMem} (h : g9_lit a0 M = some R) : V G 3 0 [(0, .inr 154), (1, .inl a0)] [] M := by
  unfold g9_lit at h
  refine V.iload_n (r := 1) hC 1 dX9_lit_0 rfl rfl ?_
  refine V.bipush (r := 3) hC dX9_lit_1 kb_12 rfl ?_
  refine V.icmp_lt (tgt := 17) (r := 6) hC dX9_lit_3 (by decide) rfl (fun c1 => ?_) (fun c1 => ?_)
  · rw [if_pos c1] at h
    refine V.aload_n (r := 18) hC 0 dX9_lit_17 rfl rfl ?_
    refine V.iload_n (r := 19) hC 1 dX9_lit_18 rfl rfl ?_
    obtain ⟨q2, hq3, h⟩ := Option.bind_eq_some_iff.mp h
    try dsimp only at h
    refine V.invVi (as := [.inl a0]) (st := []) (r := 22) hC (met9_isLamp hq3) yv_X9_isLamp ml_RX9_109 sh_154 rfl rfl dX9_lit_19 (by decide) rfl rfl rfl rfl ?_
    exact v9_lit_b22  hC hR  _ _ _ h
  · rw [if_neg c1] at h
    refine V.aload_n (r := 7) hC 0 dX9_lit_6 rfl rfl ?_
    refine V.iload_n (r := 8) hC 1 dX9_lit_7 rfl rfl ?_
    refine V.bipush (r := 10) hC dX9_lit_8 kb_12 rfl ?_
    refine V.isub (r := 11) hC dX9_lit_10 rfl ?_
    obtain ⟨q4, hq5, h⟩ := Option.bind_eq_some_iff.mp h
    try dsimp only at h
    refine V.invVi (as := [.inl (a0 - (12 : Int32))]) (st := []) (r := 14) hC (met9_isTold hq5) yv_X9_isTold ml_RX9_81 sh_154 rfl rfl dX9_lit_11 (by decide) rfl rfl rfl rfl ?_
    refine V.goto (tgt := 22) hC dX9_lit_14 (by decide) ?_
    exact v9_lit_b22  hC hR  _ _ _ h
theorem met9_lit {R : Int32 × xMem} {a0 : Int32} {M : xMem} (h : g9_lit a0 M = some R) : xMet yX9_lit cX9_lit 3 (some .int) 3 [.inr 154, .inl a0] M (some R.1) R.2 := xMet.ofI (by decide +kernel) (Nat.le_of_ble_eq_true rfl) fun _ hC hR => v9_lit  hC hR h
def g9_pull_b43 (M : xMem) : Option (Int32 × xMem) :=
some ((-1 : Int32), M)
set_option maxHeartbeats 4000000 in
set_option maxRecDepth 20000 in
theorem v9_pull_b43 {G : xG} (hC : xC G cX9_pull 4 RX9 4) {R : Int32 × xMem} (hR : xRI G cX9_pull 4 R) (M : xMem) (h : g9_pull_b43 M = some R) : V G 4 43 [] [] M := by
  unfold g9_pull_b43 at h
  refine V.iconst (r := 44) hC dX9_pull_43 ki_m1 rfl ?_
  refine V.goto (tgt := 53) hC dX9_pull_44 (by decide) ?_
  cases h
  exact hR _ _ dX9_pull_53
def g9_pull_b22 (x1 x2 s0 : Int32) (M : xMem) : Option (Int32 × xMem) :=
if s0 = 0 then
(g9_pull_b43 M)
else
(Option.bind (g9_isOn x1 M) fun q7 =>
if (q7.1) = 0 then
(g9_pull_b43 q7.2)
else
(if x2 = ((12 : Int32) + x1) then
(g9_pull_b43 q7.2)
else
(Option.bind (g9_pulls x1 x2 q7.2) fun q11 =>
some (q11.1, q11.2))))
set_option maxHeartbeats 4000000 in
set_option maxRecDepth 20000 in
theorem v9_pull_b22 {G : xG} (hC : xC G cX9_pull 4 RX9 4) {R : Int32 × xMem} (hR : xRI G cX9_pull 4 R) (x1 x2 s0 : Int32) (M : xMem) (h : g9_pull_b22 x1 x2 s0 M = some R) : V G 4 22 [(0, .inr 154), (1, .inl x1), (2, .inl x2)] [.inl s0] M := by
  unfold g9_pull_b22 at h
  refine V.ist_n (lv' := [(0, .inr 154), (1, .inl x1), (2, .inl x2), (3, .inl s0)]) (r := 23) hC dX9_pull_22 rfl rfl rfl ?_
  refine V.iload_n (r := 24) hC 3 dX9_pull_23 rfl rfl ?_
  refine V.if_eq (tgt := 43) (r := 27) hC dX9_pull_24 (by decide) rfl (fun c6 => ?_) (fun c6 => ?_)
  · rw [if_pos c6] at h
    refine V.pick (lv' := []) [] rfl ?_
    exact v9_pull_b43  hC hR  _ h
  · rw [if_neg c6] at h
    refine V.aload_n (r := 28) hC 0 dX9_pull_27 rfl rfl ?_
    refine V.iload_n (r := 29) hC 1 dX9_pull_28 rfl rfl ?_
    obtain ⟨q7, hq8, h⟩ := Option.bind_eq_some_iff.mp h
    try dsimp only at h
    refine V.invVi (as := [.inl x1]) (st := []) (r := 32) hC (met9_isOn hq8) yv_X9_isOn ml_RX9_85 sh_154 rfl rfl dX9_pull_29 (by decide) rfl rfl rfl rfl ?_
    refine V.if_eq (tgt := 43) (r := 35) hC dX9_pull_32 (by decide) rfl (fun c9 => ?_) (fun c9 => ?_)
    · rw [if_pos c9] at h
      refine V.pick (lv' := []) [] rfl ?_
      exact v9_pull_b43  hC hR  _ h
    · rw [if_neg c9] at h
      refine V.iload_n (r := 36) hC 2 dX9_pull_35 rfl rfl ?_
      refine V.bipush (r := 38) hC dX9_pull_36 kb_12 rfl ?_
      refine V.iload_n (r := 39) hC 1 dX9_pull_38 rfl rfl ?_
      refine V.iadd (r := 40) hC dX9_pull_39 rfl ?_
      refine V.icmp_ne (tgt := 47) (r := 43) hC dX9_pull_40 (by decide) rfl (fun c10 => ?_) (fun c10 => ?_)
      · rw [if_neg c10] at h
        refine V.aload_n (r := 48) hC 0 dX9_pull_47 rfl rfl ?_
        refine V.iload_n (r := 49) hC 1 dX9_pull_48 rfl rfl ?_
        refine V.iload_n (r := 50) hC 2 dX9_pull_49 rfl rfl ?_
        obtain ⟨q11, hq12, h⟩ := Option.bind_eq_some_iff.mp h
        try dsimp only at h
        refine V.invVi (as := [.inl x1, .inl x2]) (st := []) (r := 53) hC (met9_pulls hq12) yv_X9_pulls ml_RX9_256 sh_154 rfl rfl dX9_pull_50 (by decide) rfl rfl rfl rfl ?_
        cases h
        exact hR _ _ dX9_pull_53
      · rw [if_pos c10] at h
        refine V.pick (lv' := []) [] rfl ?_
        exact v9_pull_b43  hC hR  _ h
def g9_pull (a0 a1 : Int32) (M : xMem) : Option (Int32 × xMem) :=
if a1 < (12 : Int32) then
(Option.bind (g9_isLamp a1 M) fun q2 =>
g9_pull_b22 a0 a1 (q2.1) q2.2)
else
(Option.bind (g9_isOn (a1 - (12 : Int32)) M) fun q4 =>
g9_pull_b22 a0 a1 (q4.1) q4.2)
set_option maxHeartbeats 4000000 in
set_option maxRecDepth 20000 in
theorem v9_pull {G : xG} (hC : xC G cX9_pull 4 RX9 4) {R : Int32 × xMem} (hR : xRI G cX9_pull 4 R) {a0 a1 : Int32} {M : xMem} (h : g9_pull a0 a1 M = some R) : V G 4 0 [(0, .inr 154), (1, .inl a0), (2, .inl a1)] [] M := by
  unfold g9_pull at h
  refine V.iload_n (r := 1) hC 2 dX9_pull_0 rfl rfl ?_
  refine V.bipush (r := 3) hC dX9_pull_1 kb_12 rfl ?_
  refine V.icmp_lt (tgt := 17) (r := 6) hC dX9_pull_3 (by decide) rfl (fun c1 => ?_) (fun c1 => ?_)
  · rw [if_pos c1] at h
    refine V.aload_n (r := 18) hC 0 dX9_pull_17 rfl rfl ?_
    refine V.iload_n (r := 19) hC 2 dX9_pull_18 rfl rfl ?_
    obtain ⟨q2, hq3, h⟩ := Option.bind_eq_some_iff.mp h
    try dsimp only at h
    refine V.invVi (as := [.inl a1]) (st := []) (r := 22) hC (met9_isLamp hq3) yv_X9_isLamp ml_RX9_109 sh_154 rfl rfl dX9_pull_19 (by decide) rfl rfl rfl rfl ?_
    exact v9_pull_b22  hC hR  _ _ _ _ h
  · rw [if_neg c1] at h
    refine V.aload_n (r := 7) hC 0 dX9_pull_6 rfl rfl ?_
    refine V.iload_n (r := 8) hC 2 dX9_pull_7 rfl rfl ?_
    refine V.bipush (r := 10) hC dX9_pull_8 kb_12 rfl ?_
    refine V.isub (r := 11) hC dX9_pull_10 rfl ?_
    obtain ⟨q4, hq5, h⟩ := Option.bind_eq_some_iff.mp h
    try dsimp only at h
    refine V.invVi (as := [.inl (a1 - (12 : Int32))]) (st := []) (r := 14) hC (met9_isOn hq5) yv_X9_isOn ml_RX9_85 sh_154 rfl rfl dX9_pull_11 (by decide) rfl rfl rfl rfl ?_
    refine V.goto (tgt := 22) hC dX9_pull_14 (by decide) ?_
    exact v9_pull_b22  hC hR  _ _ _ _ h
theorem met9_pull {R : Int32 × xMem} {a0 a1 : Int32} {M : xMem} (h : g9_pull a0 a1 M = some R) : xMet yX9_pull cX9_pull 4 (some .int) 4 [.inr 154, .inl a0, .inl a1] M (some R.1) R.2 := xMet.ofI (by decide +kernel) (Nat.le_of_ble_eq_true rfl) fun _ hC hR => v9_pull  hC hR h
def g9_targetOf_b94 (k7 : Int32 → Int32 → Int32 → Int32 → xMem → Option (Int32 × xMem)) (x1 x2 x3 x4 : Int32) (M : xMem) : Option (Int32 × xMem) :=
k7 x1 x2 x3 (x4 + (1 : Int32)) M
set_option maxHeartbeats 4000000 in
set_option maxRecDepth 20000 in
theorem v9_targetOf_b94 {G : xG} (hC : xC G cX9_targetOf 6 RX9 4) {R : Int32 × xMem} (hR : xRI G cX9_targetOf 6 R) {k7 : Int32 → Int32 → Int32 → Int32 → xMem → Option (Int32 × xMem)} (hk7 : ∀ (y1 y2 y3 y4 : Int32) (N : xMem), k7 y1 y2 y3 y4 N = some R → V G 6 7 [(0, .inr 154), (1, .inl y1), (2, .inl y2), (3, .inl y3), (4, .inl y4)] [] N) (x1 x2 x3 x4 : Int32) (M : xMem) (h : g9_targetOf_b94 k7 x1 x2 x3 x4 M = some R) : V G 6 94 [(0, .inr 154), (1, .inl x1), (2, .inl x2), (3, .inl x3), (4, .inl x4)] [] M := by
  unfold g9_targetOf_b94 at h
  refine V.inc (lv' := [(0, .inr 154), (1, .inl x1), (2, .inl x2), (3, .inl x3), (4, .inl (x4 + (1 : Int32)))]) (r := 97) hC 4 dX9_targetOf_94 rfl ki_1 rfl rfl rfl ?_
  refine V.goto (tgt := 7) hC dX9_targetOf_97 (by decide) ?_
  exact hk7 _ _ _ _ _ h
def g9_targetOf_b64 (k7 : Int32 → Int32 → Int32 → Int32 → xMem → Option (Int32 × xMem)) (x1 x2 x3 x4 s0 s1 : Int32) (M : xMem) : Option (Int32 × xMem) :=
if s0 ≤ s1 then
(Option.bind (g9_pulls x1 x4 M) fun q15 =>
if x3 < (q15.1) then
(g9_targetOf_b94 k7 x1 x4 (q15.1) x4 q15.2)
else
(g9_targetOf_b94 k7 x1 x2 x3 x4 q15.2))
else
(g9_targetOf_b94 k7 x1 x2 x3 x4 M)
set_option maxHeartbeats 4000000 in
set_option maxRecDepth 20000 in
theorem v9_targetOf_b64 {G : xG} (hC : xC G cX9_targetOf 6 RX9 4) {R : Int32 × xMem} (hR : xRI G cX9_targetOf 6 R) {k7 : Int32 → Int32 → Int32 → Int32 → xMem → Option (Int32 × xMem)} (hk7 : ∀ (y1 y2 y3 y4 : Int32) (N : xMem), k7 y1 y2 y3 y4 N = some R → V G 6 7 [(0, .inr 154), (1, .inl y1), (2, .inl y2), (3, .inl y3), (4, .inl y4)] [] N) (x1 x2 x3 x4 s0 s1 : Int32) (M : xMem) (h : g9_targetOf_b64 k7 x1 x2 x3 x4 s0 s1 M = some R) : V G 6 64 [(0, .inr 154), (1, .inl x1), (2, .inl x2), (3, .inl x3), (4, .inl x4)] [.inl s1, .inl s0] M := by
  unfold g9_targetOf_b64 at h
  refine V.icmp_le (tgt := 70) (r := 67) hC dX9_targetOf_64 (by decide) rfl (fun c14 => ?_) (fun c14 => ?_)
  · rw [if_pos c14] at h
    refine V.aload_n (r := 71) hC 0 dX9_targetOf_70 rfl rfl ?_
    refine V.iload_n (r := 72) hC 1 dX9_targetOf_71 rfl rfl ?_
    refine V.iload (r := 74) hC 4 dX9_targetOf_72 rfl rfl ?_
    obtain ⟨q15, hq16, h⟩ := Option.bind_eq_some_iff.mp h
    try dsimp only at h
    refine V.invVi (as := [.inl x1, .inl x4]) (st := []) (r := 77) hC (met9_pulls hq16) yv_X9_pulls ml_RX9_256 sh_154 rfl rfl dX9_targetOf_74 (by decide) rfl rfl rfl rfl ?_
    refine V.ist (lv' := [(0, .inr 154), (1, .inl x1), (2, .inl x2), (3, .inl x3), (4, .inl x4), (5, .inl (q15.1))]) (r := 79) hC dX9_targetOf_77 rfl rfl rfl ?_
    refine V.iload (r := 81) hC 5 dX9_targetOf_79 rfl rfl ?_
    refine V.iload_n (r := 82) hC 3 dX9_targetOf_81 rfl rfl ?_
    refine V.icmp_gt (tgt := 88) (r := 85) hC dX9_targetOf_82 (by decide) rfl (fun c17 => ?_) (fun c17 => ?_)
    · rw [if_pos c17] at h
      refine V.iload (r := 90) hC 5 dX9_targetOf_88 rfl rfl ?_
      refine V.ist_n (lv' := [(0, .inr 154), (1, .inl x1), (2, .inl x2), (3, .inl (q15.1)), (4, .inl x4), (5, .inl (q15.1))]) (r := 91) hC dX9_targetOf_90 rfl rfl rfl ?_
      refine V.iload (r := 93) hC 4 dX9_targetOf_91 rfl rfl ?_
      refine V.ist_n (lv' := [(0, .inr 154), (1, .inl x1), (2, .inl x4), (3, .inl (q15.1)), (4, .inl x4), (5, .inl (q15.1))]) (r := 94) hC dX9_targetOf_93 rfl rfl rfl ?_
      refine V.pick (lv' := [(0, .inr 154), (1, .inl x1), (2, .inl x4), (3, .inl (q15.1)), (4, .inl x4)]) [0, 1, 2, 3, 4] rfl ?_
      exact v9_targetOf_b94  hC hR hk7 _ _ _ _ _ h
    · rw [if_neg c17] at h
      refine V.goto (tgt := 94) hC dX9_targetOf_85 (by decide) ?_
      refine V.pick (lv' := [(0, .inr 154), (1, .inl x1), (2, .inl x2), (3, .inl x3), (4, .inl x4)]) [0, 1, 2, 3, 4] rfl ?_
      exact v9_targetOf_b94  hC hR hk7 _ _ _ _ _ h
  · rw [if_neg c14] at h
    refine V.goto (tgt := 94) hC dX9_targetOf_67 (by decide) ?_
    exact v9_targetOf_b94  hC hR hk7 _ _ _ _ _ h
def g9_targetOf_b7 : Nat → Int32 → Int32 → Int32 → Int32 → xMem → Option (Int32 × xMem)
  | 0, _, _, _, _, _ => none
  | n + 1, x1, x2, x3, x4, M => 
    (if (18 : Int32) ≤ x4 then
    (some (x2, M))
    else
    (if x4 = ((12 : Int32) + x1) then
    (g9_targetOf_b94 (g9_targetOf_b7 n) x1 x2 x3 x4 M)
    else
    (Option.bind (g9_isLit x4 M) fun q3 =>
    if (q3.1) = 0 then
    (g9_targetOf_b94 (g9_targetOf_b7 n) x1 x2 x3 x4 q3.2)
    else
    (if ((274 : Int32) + x1) < 0 ∨ 331 ≤ ((274 : Int32) + x1).toNatClampNeg then none else
    Option.bind (g9_lampAt x4 q3.2) fun q7 =>
    Option.bind (g9_way (q3.2 7 ((274 : Int32) + x1).toNatClampNeg) (q7.1) q7.2) fun q9 =>
    Option.bind (g9_isClouded q9.2) fun q11 =>
    if (q11.1) = 0 then
    (g9_targetOf_b64 (g9_targetOf_b7 n) x1 x2 x3 x4 (q9.1) (6 : Int32) q11.2)
    else
    (g9_targetOf_b64 (g9_targetOf_b7 n) x1 x2 x3 x4 (q9.1) (3 : Int32) q11.2)))))
set_option maxHeartbeats 4000000 in
set_option maxRecDepth 20000 in
theorem v9_targetOf_b7 {G : xG} (hC : xC G cX9_targetOf 6 RX9 4) {R : Int32 × xMem} (hR : xRI G cX9_targetOf 6 R) : ∀ (n : Nat) (x1 x2 x3 x4 : Int32) (M : xMem), g9_targetOf_b7 n x1 x2 x3 x4 M = some R → V G 6 7 [(0, .inr 154), (1, .inl x1), (2, .inl x2), (3, .inl x3), (4, .inl x4)] [] M := by
  intro n
  induction n with
  | zero => intro x1 x2 x3 x4 M h; rw [g9_targetOf_b7] at h; cases h
  | succ n ih =>
    intro x1 x2 x3 x4 M h
    rw [g9_targetOf_b7] at h
    refine V.iload (r := 9) hC 4 dX9_targetOf_7 rfl rfl ?_
    refine V.bipush (r := 11) hC dX9_targetOf_9 kb_18 rfl ?_
    refine V.icmp_ge (tgt := 100) (r := 14) hC dX9_targetOf_11 (by decide) rfl (fun c1 => ?_) (fun c1 => ?_)
    · rw [if_pos c1] at h
      refine V.iload_n (r := 101) hC 2 dX9_targetOf_100 rfl rfl ?_
      cases h
      exact hR _ _ dX9_targetOf_101
    · rw [if_neg c1] at h
      refine V.iload (r := 16) hC 4 dX9_targetOf_14 rfl rfl ?_
      refine V.bipush (r := 18) hC dX9_targetOf_16 kb_12 rfl ?_
      refine V.iload_n (r := 19) hC 1 dX9_targetOf_18 rfl rfl ?_
      refine V.iadd (r := 20) hC dX9_targetOf_19 rfl ?_
      refine V.icmp_eq (tgt := 94) (r := 23) hC dX9_targetOf_20 (by decide) rfl (fun c2 => ?_) (fun c2 => ?_)
      · rw [if_pos c2] at h
        exact v9_targetOf_b94  hC hR ih _ _ _ _ _ h
      · rw [if_neg c2] at h
        refine V.aload_n (r := 24) hC 0 dX9_targetOf_23 rfl rfl ?_
        refine V.iload (r := 26) hC 4 dX9_targetOf_24 rfl rfl ?_
        obtain ⟨q3, hq4, h⟩ := Option.bind_eq_some_iff.mp h
        try dsimp only at h
        refine V.invVi (as := [.inl x4]) (st := []) (r := 29) hC (met9_isLit hq4) yv_X9_isLit ml_RX9_253 sh_154 rfl rfl dX9_targetOf_26 (by decide) rfl rfl rfl rfl ?_
        refine V.if_eq (tgt := 94) (r := 32) hC dX9_targetOf_29 (by decide) rfl (fun c5 => ?_) (fun c5 => ?_)
        · rw [if_pos c5] at h
          exact v9_targetOf_b94  hC hR ih _ _ _ _ _ h
        · rw [if_neg c5] at h
          refine V.aload_n (r := 33) hC 0 dX9_targetOf_32 rfl rfl ?_
          refine V.getR (k' := 155) (j := 0) (r := 36) hC xcl_9 sh_154 fl_RX9_7 dX9_targetOf_33 (by decide) rfl rfl ?_
          refine V.sipush (r := 39) hC dX9_targetOf_36 ks_274 rfl ?_
          refine V.iload_n (r := 40) hC 1 dX9_targetOf_39 rfl rfl ?_
          refine V.iadd (r := 41) hC dX9_targetOf_40 rfl ?_
          by_cases c6 : ((274 : Int32) + x1) < 0 ∨ 331 ≤ ((274 : Int32) + x1).toNatClampNeg
          · rw [if_pos c6] at h; cases h
          rw [if_neg c6] at h
          refine V.iald (t := ((274 : Int32) + x1).toNatClampNeg) (r := 42) hC sh_155 dX9_targetOf_41 c6 (Nat.zero_add _) rfl ?_
          refine V.aload_n (r := 43) hC 0 dX9_targetOf_42 rfl rfl ?_
          refine V.iload (r := 45) hC 4 dX9_targetOf_43 rfl rfl ?_
          obtain ⟨q7, hq8, h⟩ := Option.bind_eq_some_iff.mp h
          try dsimp only at h
          refine V.invVi (as := [.inl x4]) (st := [.inl (q3.2 7 ((274 : Int32) + x1).toNatClampNeg)]) (r := 48) hC (met9_lampAt hq8) yv_X9_lampAt ml_RX9_241 sh_154 rfl rfl dX9_targetOf_45 (by decide) rfl rfl rfl rfl ?_
          obtain ⟨q9, hq10, h⟩ := Option.bind_eq_some_iff.mp h
          try dsimp only at h
          refine V.invSi (as := [.inl (q3.2 7 ((274 : Int32) + x1).toNatClampNeg), .inl (q7.1)]) (st := []) (r := 51) hC (met9_way hq10) ys_X9_way ml_RX9_244 dX9_targetOf_48 (by decide) rfl rfl rfl rfl ?_
          refine V.aload_n (r := 52) hC 0 dX9_targetOf_51 rfl rfl ?_
          obtain ⟨q11, hq12, h⟩ := Option.bind_eq_some_iff.mp h
          try dsimp only at h
          refine V.invVi (as := []) (st := [.inl (q9.1)]) (r := 55) hC (met9_isClouded hq12) yv_X9_isClouded ml_RX9_232 sh_154 rfl rfl dX9_targetOf_52 (by decide) rfl rfl rfl rfl ?_
          refine V.if_eq (tgt := 62) (r := 58) hC dX9_targetOf_55 (by decide) rfl (fun c13 => ?_) (fun c13 => ?_)
          · rw [if_pos c13] at h
            refine V.bipush (r := 64) hC dX9_targetOf_62 kb_6 rfl ?_
            exact v9_targetOf_b64  hC hR ih _ _ _ _ _ _ _ h
          · rw [if_neg c13] at h
            refine V.iconst (r := 59) hC dX9_targetOf_58 ki_3 rfl ?_
            refine V.goto (tgt := 64) hC dX9_targetOf_59 (by decide) ?_
            exact v9_targetOf_b64  hC hR ih _ _ _ _ _ _ _ h
def g9_targetOf (a0 : Int32) (M : xMem) : Option (Int32 × xMem) :=
g9_targetOf_b7 5000 a0 (-1 : Int32) (0 : Int32) (0 : Int32) M
set_option maxHeartbeats 4000000 in
set_option maxRecDepth 20000 in
theorem v9_targetOf {G : xG} (hC : xC G cX9_targetOf 6 RX9 4) {R : Int32 × xMem} (hR : xRI G cX9_targetOf 6 R) {a0 : Int32} {M : xMem} (h : g9_targetOf a0 M = some R) : V G 6 0 [(0, .inr 154), (1, .inl a0)] [] M := by
  unfold g9_targetOf at h
  refine V.iconst (r := 1) hC dX9_targetOf_0 ki_m1 rfl ?_
  refine V.ist_n (lv' := [(0, .inr 154), (1, .inl a0), (2, .inl (-1 : Int32))]) (r := 2) hC dX9_targetOf_1 rfl rfl rfl ?_
  refine V.iconst (r := 3) hC dX9_targetOf_2 ki_0 rfl ?_
  refine V.ist_n (lv' := [(0, .inr 154), (1, .inl a0), (2, .inl (-1 : Int32)), (3, .inl (0 : Int32))]) (r := 4) hC dX9_targetOf_3 rfl rfl rfl ?_
  refine V.iconst (r := 5) hC dX9_targetOf_4 ki_0 rfl ?_
  refine V.ist (lv' := [(0, .inr 154), (1, .inl a0), (2, .inl (-1 : Int32)), (3, .inl (0 : Int32)), (4, .inl (0 : Int32))]) (r := 7) hC dX9_targetOf_5 rfl rfl rfl ?_
  exact v9_targetOf_b7  hC hR  5000 _ _ _ _ _ h
theorem met9_targetOf {R : Int32 × xMem} {a0 : Int32} {M : xMem} (h : g9_targetOf a0 M = some R) : xMet yX9_targetOf cX9_targetOf 6 (some .int) 4 [.inr 154, .inl a0] M (some R.1) R.2 := xMet.ofI (by decide +kernel) (Nat.le_of_ble_eq_true rfl) fun _ hC hR => v9_targetOf  hC hR h
def g9_target (a0 : Int32) (M : xMem) : Option (Int32 × xMem) :=
Option.bind (g9_isOn a0 M) fun q1 =>
if (q1.1) = 0 then
(some ((-1 : Int32), q1.2))
else
(Option.bind (g9_targetOf a0 q1.2) fun q4 =>
if (q4.1) = (-1 : Int32) then
(some ((-2 : Int32), q4.2))
else
(some (q4.1, q4.2)))
set_option maxHeartbeats 4000000 in
set_option maxRecDepth 20000 in
theorem v9_target {G : xG} (hC : xC G cX9_target 3 RX9 5) {R : Int32 × xMem} (hR : xRI G cX9_target 3 R) {a0 : Int32} {M : xMem} (h : g9_target a0 M = some R) : V G 3 0 [(0, .inr 154), (1, .inl a0)] [] M := by
  unfold g9_target at h
  refine V.aload_n (r := 1) hC 0 dX9_target_0 rfl rfl ?_
  refine V.iload_n (r := 2) hC 1 dX9_target_1 rfl rfl ?_
  obtain ⟨q1, hq2, h⟩ := Option.bind_eq_some_iff.mp h
  try dsimp only at h
  refine V.invVi (as := [.inl a0]) (st := []) (r := 5) hC (met9_isOn hq2) yv_X9_isOn ml_RX9_85 sh_154 rfl rfl dX9_target_2 (by decide) rfl rfl rfl rfl ?_
  refine V.if_ne (tgt := 10) (r := 8) hC dX9_target_5 (by decide) rfl (fun c3 => ?_) (fun c3 => ?_)
  · rw [if_neg c3] at h
    refine V.aload_n (r := 11) hC 0 dX9_target_10 rfl rfl ?_
    refine V.iload_n (r := 12) hC 1 dX9_target_11 rfl rfl ?_
    obtain ⟨q4, hq5, h⟩ := Option.bind_eq_some_iff.mp h
    try dsimp only at h
    refine V.invVi (as := [.inl a0]) (st := []) (r := 15) hC (met9_targetOf hq5) yv_X9_targetOf ml_RX9_259 sh_154 rfl rfl dX9_target_12 (by decide) rfl rfl rfl rfl ?_
    refine V.ist_n (lv' := [(0, .inr 154), (1, .inl a0), (2, .inl (q4.1))]) (r := 16) hC dX9_target_15 rfl rfl rfl ?_
    refine V.iload_n (r := 17) hC 2 dX9_target_16 rfl rfl ?_
    refine V.iconst (r := 18) hC dX9_target_17 ki_m1 rfl ?_
    refine V.icmp_ne (tgt := 26) (r := 21) hC dX9_target_18 (by decide) rfl (fun c6 => ?_) (fun c6 => ?_)
    · rw [if_neg c6] at h
      refine V.iload_n (r := 27) hC 2 dX9_target_26 rfl rfl ?_
      cases h
      exact hR _ _ dX9_target_27
    · rw [if_pos c6] at h
      refine V.bipush (r := 23) hC dX9_target_21 kb_m2 rfl ?_
      refine V.goto (tgt := 27) hC dX9_target_23 (by decide) ?_
      cases h
      exact hR _ _ dX9_target_27
  · rw [if_pos c3] at h
    refine V.iconst (r := 9) hC dX9_target_8 ki_m1 rfl ?_
    cases h
    exact hR _ _ dX9_target_9
theorem met9_target {R : Int32 × xMem} {a0 : Int32} {M : xMem} (h : g9_target a0 M = some R) : xMet yX9_target cX9_target 3 (some .int) 5 [.inr 154, .inl a0] M (some R.1) R.2 := xMet.ofI (by decide +kernel) (Nat.le_of_ble_eq_true rfl) fun _ hC hR => v9_target  hC hR h
def g9_steps (a0 a1 a2 : Int32) (M : xMem) : Option (Int32 × xMem) :=
if ((274 : Int32) + a0) < 0 ∨ 331 ≤ ((274 : Int32) + a0).toNatClampNeg then none else
Option.bind (g9_isIn (((M 7 ((274 : Int32) + a0).toNatClampNeg) - (M 7 ((274 : Int32) + a0).toNatClampNeg) / (14 : Int32) * (14 : Int32)) + a1) (((M 7 ((274 : Int32) + a0).toNatClampNeg) / (14 : Int32)) + a2) M) fun q2 =>
if (q2.1) = 0 then
(some ((0 : Int32), q2.2))
else
(Option.bind (g9_isRock (((14 : Int32) * (((M 7 ((274 : Int32) + a0).toNatClampNeg) / (14 : Int32)) + a2)) + (((M 7 ((274 : Int32) + a0).toNatClampNeg) - (M 7 ((274 : Int32) + a0).toNatClampNeg) / (14 : Int32) * (14 : Int32)) + a1)) q2.2) fun q5 =>
if (q5.1) = 0 then
(mset (upM q5.2 7 ((274 : Int32) + a0).toNatClampNeg (((14 : Int32) * (((M 7 ((274 : Int32) + a0).toNatClampNeg) / (14 : Int32)) + a2)) + (((M 7 ((274 : Int32) + a0).toNatClampNeg) - (M 7 ((274 : Int32) + a0).toNatClampNeg) / (14 : Int32) * (14 : Int32)) + a1))) fun M8 =>
some ((1 : Int32), M8))
else
(some ((0 : Int32), q5.2)))
set_option maxHeartbeats 4000000 in
set_option maxRecDepth 20000 in
theorem v9_steps {G : xG} (hC : xC G cX9_steps 6 RX9 1) {R : Int32 × xMem} (hR : xRZ G cX9_steps 6 R) {a0 a1 a2 : Int32} {M : xMem} (h : g9_steps a0 a1 a2 M = some R) : V G 6 0 [(0, .inr 154), (1, .inl a0), (2, .inl a1), (3, .inl a2)] [] M := by
  unfold g9_steps at h
  refine V.aload_n (r := 1) hC 0 dX9_steps_0 rfl rfl ?_
  refine V.getR (k' := 155) (j := 0) (r := 4) hC xcl_9 sh_154 fl_RX9_7 dX9_steps_1 (by decide) rfl rfl ?_
  refine V.sipush (r := 7) hC dX9_steps_4 ks_274 rfl ?_
  refine V.iload_n (r := 8) hC 1 dX9_steps_7 rfl rfl ?_
  refine V.iadd (r := 9) hC dX9_steps_8 rfl ?_
  by_cases c1 : ((274 : Int32) + a0) < 0 ∨ 331 ≤ ((274 : Int32) + a0).toNatClampNeg
  · rw [if_pos c1] at h; cases h
  rw [if_neg c1] at h
  refine V.iald (t := ((274 : Int32) + a0).toNatClampNeg) (r := 10) hC sh_155 dX9_steps_9 c1 (Nat.zero_add _) rfl ?_
  refine V.bipush (r := 12) hC dX9_steps_10 kb_14 rfl ?_
  refine V.irem (r := 13) hC dX9_steps_12 (by decide) rfl ?_
  refine V.iload_n (r := 14) hC 2 dX9_steps_13 rfl rfl ?_
  refine V.iadd (r := 15) hC dX9_steps_14 rfl ?_
  refine V.ist (lv' := [(0, .inr 154), (1, .inl a0), (2, .inl a1), (3, .inl a2), (4, .inl (((M 7 ((274 : Int32) + a0).toNatClampNeg) - (M 7 ((274 : Int32) + a0).toNatClampNeg) / (14 : Int32) * (14 : Int32)) + a1))]) (r := 17) hC dX9_steps_15 rfl rfl rfl ?_
  refine V.aload_n (r := 18) hC 0 dX9_steps_17 rfl rfl ?_
  refine V.getR (k' := 155) (j := 0) (r := 21) hC xcl_9 sh_154 fl_RX9_7 dX9_steps_18 (by decide) rfl rfl ?_
  refine V.sipush (r := 24) hC dX9_steps_21 ks_274 rfl ?_
  refine V.iload_n (r := 25) hC 1 dX9_steps_24 rfl rfl ?_
  refine V.iadd (r := 26) hC dX9_steps_25 rfl ?_
  refine V.iald (t := ((274 : Int32) + a0).toNatClampNeg) (r := 27) hC sh_155 dX9_steps_26 c1 (Nat.zero_add _) rfl ?_
  refine V.bipush (r := 29) hC dX9_steps_27 kb_14 rfl ?_
  refine V.idiv (r := 30) hC dX9_steps_29 (by decide) rfl ?_
  refine V.iload_n (r := 31) hC 3 dX9_steps_30 rfl rfl ?_
  refine V.iadd (r := 32) hC dX9_steps_31 rfl ?_
  refine V.ist (lv' := [(0, .inr 154), (1, .inl a0), (2, .inl a1), (3, .inl a2), (4, .inl (((M 7 ((274 : Int32) + a0).toNatClampNeg) - (M 7 ((274 : Int32) + a0).toNatClampNeg) / (14 : Int32) * (14 : Int32)) + a1)), (5, .inl (((M 7 ((274 : Int32) + a0).toNatClampNeg) / (14 : Int32)) + a2))]) (r := 34) hC dX9_steps_32 rfl rfl rfl ?_
  refine V.iload (r := 36) hC 4 dX9_steps_34 rfl rfl ?_
  refine V.iload (r := 38) hC 5 dX9_steps_36 rfl rfl ?_
  obtain ⟨q2, hq3, h⟩ := Option.bind_eq_some_iff.mp h
  try dsimp only at h
  refine V.invSi (as := [.inl (((M 7 ((274 : Int32) + a0).toNatClampNeg) - (M 7 ((274 : Int32) + a0).toNatClampNeg) / (14 : Int32) * (14 : Int32)) + a1), .inl (((M 7 ((274 : Int32) + a0).toNatClampNeg) / (14 : Int32)) + a2)]) (st := []) (r := 41) hC (met9_isIn hq3) ys_X9_isIn ml_RX9_88 dX9_steps_38 (by decide) rfl rfl rfl rfl ?_
  refine V.if_eq (tgt := 59) (r := 44) hC dX9_steps_41 (by decide) rfl (fun c4 => ?_) (fun c4 => ?_)
  · rw [if_pos c4] at h
    refine V.iconst (r := 60) hC dX9_steps_59 ki_0 rfl ?_
    cases h
    exact hR _ _ (Or.inl rfl) dX9_steps_60
  · rw [if_neg c4] at h
    refine V.aload_n (r := 45) hC 0 dX9_steps_44 rfl rfl ?_
    refine V.bipush (r := 47) hC dX9_steps_45 kb_14 rfl ?_
    refine V.iload (r := 49) hC 5 dX9_steps_47 rfl rfl ?_
    refine V.imul (r := 50) hC dX9_steps_49 rfl ?_
    refine V.iload (r := 52) hC 4 dX9_steps_50 rfl rfl ?_
    refine V.iadd (r := 53) hC dX9_steps_52 rfl ?_
    obtain ⟨q5, hq6, h⟩ := Option.bind_eq_some_iff.mp h
    try dsimp only at h
    refine V.invVi (as := [.inl (((14 : Int32) * (((M 7 ((274 : Int32) + a0).toNatClampNeg) / (14 : Int32)) + a2)) + (((M 7 ((274 : Int32) + a0).toNatClampNeg) - (M 7 ((274 : Int32) + a0).toNatClampNeg) / (14 : Int32) * (14 : Int32)) + a1))]) (st := []) (r := 56) hC (met9_isRock hq6) yv_X9_isRock ml_RX9_99 sh_154 rfl rfl dX9_steps_53 (by decide) rfl rfl rfl rfl ?_
    refine V.if_eq (tgt := 61) (r := 59) hC dX9_steps_56 (by decide) rfl (fun c7 => ?_) (fun c7 => ?_)
    · rw [if_pos c7] at h
      refine V.aload_n (r := 62) hC 0 dX9_steps_61 rfl rfl ?_
      refine V.getR (k' := 155) (j := 0) (r := 65) hC xcl_9 sh_154 fl_RX9_7 dX9_steps_62 (by decide) rfl rfl ?_
      refine V.sipush (r := 68) hC dX9_steps_65 ks_274 rfl ?_
      refine V.iload_n (r := 69) hC 1 dX9_steps_68 rfl rfl ?_
      refine V.iadd (r := 70) hC dX9_steps_69 rfl ?_
      refine V.bipush (r := 72) hC dX9_steps_70 kb_14 rfl ?_
      refine V.iload (r := 74) hC 5 dX9_steps_72 rfl rfl ?_
      refine V.imul (r := 75) hC dX9_steps_74 rfl ?_
      refine V.iload (r := 77) hC 4 dX9_steps_75 rfl rfl ?_
      refine V.iadd (r := 78) hC dX9_steps_77 rfl ?_
      rw [mset_eq] at h
      refine V.iast (t := ((274 : Int32) + a0).toNatClampNeg) (r := 79) hC sh_155 dX9_steps_78 c1 (Nat.zero_add _) rfl ?_
      generalize upM q5.2 7 ((274 : Int32) + a0).toNatClampNeg (((14 : Int32) * (((M 7 ((274 : Int32) + a0).toNatClampNeg) / (14 : Int32)) + a2)) + (((M 7 ((274 : Int32) + a0).toNatClampNeg) - (M 7 ((274 : Int32) + a0).toNatClampNeg) / (14 : Int32) * (14 : Int32)) + a1)) = M8 at h ⊢
      refine V.iconst (r := 80) hC dX9_steps_79 ki_1 rfl ?_
      cases h
      exact hR _ _ (Or.inr rfl) dX9_steps_80
    · rw [if_neg c7] at h
      refine V.iconst (r := 60) hC dX9_steps_59 ki_0 rfl ?_
      cases h
      exact hR _ _ (Or.inl rfl) dX9_steps_60
theorem met9_steps {R : Int32 × xMem} {a0 a1 a2 : Int32} {M : xMem} (h : g9_steps a0 a1 a2 M = some R) : xMet yX9_steps cX9_steps 6 (some .boolean) 1 [.inr 154, .inl a0, .inl a1, .inl a2] M (some R.1) R.2 := xMet.ofZ (by decide +kernel) (Nat.le_of_ble_eq_true rfl) fun _ hC hR => v9_steps  hC hR h
def g9_stampedes_b52 (k7 : Int32 → Int32 → Int32 → xMem → Option (xMem)) (x1 x3 x4 s1 s2 s3 : Int32) (M : xMem) : Option (xMem) :=
Option.bind (g9_steps s1 s2 s3 M) fun q6 =>
k7 x1 x3 (x4 + (1 : Int32)) q6.2
set_option maxHeartbeats 4000000 in
set_option maxRecDepth 20000 in
theorem v9_stampedes_b52 {G : xG} (hC : xC G cX9_stampedes 5 RX9 2) {R : xMem} (hR : xRV G cX9_stampedes 5 R) {k7 : Int32 → Int32 → Int32 → xMem → Option (xMem)} (hk7 : ∀ (y1 y3 y4 : Int32) (N : xMem), k7 y1 y3 y4 N = some R → V G 5 7 [(0, .inr 154), (1, .inl y1), (3, .inl y3), (4, .inl y4)] [] N) (x1 x3 x4 s1 s2 s3 : Int32) (M : xMem) (h : g9_stampedes_b52 k7 x1 x3 x4 s1 s2 s3 M = some R) : V G 5 52 [(0, .inr 154), (1, .inl x1), (3, .inl x3), (4, .inl x4)] [.inl s3, .inl s2, .inl s1, .inr 154] M := by
  unfold g9_stampedes_b52 at h
  obtain ⟨q6, hq7, h⟩ := Option.bind_eq_some_iff.mp h
  try dsimp only at h
  refine V.invVi (as := [.inl s1, .inl s2, .inl s3]) (st := []) (r := 55) hC (met9_steps hq7) yv_X9_steps ml_RX9_262 sh_154 rfl rfl dX9_stampedes_52 (by decide) rfl rfl rfl rfl ?_
  refine V.pop (r := 56) hC dX9_stampedes_55 rfl ?_
  refine V.inc (lv' := [(0, .inr 154), (1, .inl x1), (3, .inl x3), (4, .inl (x4 + (1 : Int32)))]) (r := 59) hC 3 dX9_stampedes_56 rfl ki_1 rfl rfl rfl ?_
  refine V.goto (tgt := 7) hC dX9_stampedes_59 (by decide) ?_
  exact hk7 _ _ _ _ h
def g9_stampedes_b34 (k7 : Int32 → Int32 → Int32 → xMem → Option (xMem)) (x1 x3 x4 s1 s2 : Int32) (M : xMem) : Option (xMem) :=
if x3 = 0 then
(g9_stampedes_b52 k7 x1 x3 x4 s1 s2 (1 : Int32) M)
else
(if x3 = (2 : Int32) then
(g9_stampedes_b52 k7 x1 x3 x4 s1 s2 (-1 : Int32) M)
else
(g9_stampedes_b52 k7 x1 x3 x4 s1 s2 (0 : Int32) M))
set_option maxHeartbeats 4000000 in
set_option maxRecDepth 20000 in
theorem v9_stampedes_b34 {G : xG} (hC : xC G cX9_stampedes 5 RX9 2) {R : xMem} (hR : xRV G cX9_stampedes 5 R) {k7 : Int32 → Int32 → Int32 → xMem → Option (xMem)} (hk7 : ∀ (y1 y3 y4 : Int32) (N : xMem), k7 y1 y3 y4 N = some R → V G 5 7 [(0, .inr 154), (1, .inl y1), (3, .inl y3), (4, .inl y4)] [] N) (x1 x3 x4 s1 s2 : Int32) (M : xMem) (h : g9_stampedes_b34 k7 x1 x3 x4 s1 s2 M = some R) : V G 5 34 [(0, .inr 154), (1, .inl x1), (3, .inl x3), (4, .inl x4)] [.inl s2, .inl s1, .inr 154] M := by
  unfold g9_stampedes_b34 at h
  refine V.iload_n (r := 35) hC 2 dX9_stampedes_34 rfl rfl ?_
  refine V.if_ne (tgt := 42) (r := 38) hC dX9_stampedes_35 (by decide) rfl (fun c4 => ?_) (fun c4 => ?_)
  · rw [if_neg c4] at h
    refine V.iload_n (r := 43) hC 2 dX9_stampedes_42 rfl rfl ?_
    refine V.iconst (r := 44) hC dX9_stampedes_43 ki_2 rfl ?_
    refine V.icmp_ne (tgt := 51) (r := 47) hC dX9_stampedes_44 (by decide) rfl (fun c5 => ?_) (fun c5 => ?_)
    · rw [if_neg c5] at h
      refine V.iconst (r := 52) hC dX9_stampedes_51 ki_0 rfl ?_
      exact v9_stampedes_b52  hC hR hk7 _ _ _ _ _ _ _ h
    · rw [if_pos c5] at h
      refine V.iconst (r := 48) hC dX9_stampedes_47 ki_m1 rfl ?_
      refine V.goto (tgt := 52) hC dX9_stampedes_48 (by decide) ?_
      exact v9_stampedes_b52  hC hR hk7 _ _ _ _ _ _ _ h
  · rw [if_pos c4] at h
    refine V.iconst (r := 39) hC dX9_stampedes_38 ki_1 rfl ?_
    refine V.goto (tgt := 52) hC dX9_stampedes_39 (by decide) ?_
    exact v9_stampedes_b52  hC hR hk7 _ _ _ _ _ _ _ h
def g9_stampedes_b7 : Nat → Int32 → Int32 → Int32 → xMem → Option (xMem)
  | 0, _, _, _, _ => none
  | n + 1, x1, x3, x4, M => 
    (if (2 : Int32) ≤ x4 then
    (some M)
    else
    (if x3 = (1 : Int32) then
    (g9_stampedes_b34 (g9_stampedes_b7 n) x1 x3 x4 x1 (1 : Int32) M)
    else
    (if x3 = (3 : Int32) then
    (g9_stampedes_b34 (g9_stampedes_b7 n) x1 x3 x4 x1 (-1 : Int32) M)
    else
    (g9_stampedes_b34 (g9_stampedes_b7 n) x1 x3 x4 x1 (0 : Int32) M))))
set_option maxHeartbeats 4000000 in
set_option maxRecDepth 20000 in
theorem v9_stampedes_b7 {G : xG} (hC : xC G cX9_stampedes 5 RX9 2) {R : xMem} (hR : xRV G cX9_stampedes 5 R) : ∀ (n : Nat) (x1 x3 x4 : Int32) (M : xMem), g9_stampedes_b7 n x1 x3 x4 M = some R → V G 5 7 [(0, .inr 154), (1, .inl x1), (3, .inl x3), (4, .inl x4)] [] M := by
  intro n
  induction n with
  | zero => intro x1 x3 x4 M h; rw [g9_stampedes_b7] at h; cases h
  | succ n ih =>
    intro x1 x3 x4 M h
    rw [g9_stampedes_b7] at h
    refine V.iload (r := 9) hC 3 dX9_stampedes_7 rfl rfl ?_
    refine V.iconst (r := 10) hC dX9_stampedes_9 ki_2 rfl ?_
    refine V.icmp_ge (tgt := 62) (r := 13) hC dX9_stampedes_10 (by decide) rfl (fun c1 => ?_) (fun c1 => ?_)
    · rw [if_pos c1] at h
      cases h
      exact hR _ _ dX9_stampedes_62
    · rw [if_neg c1] at h
      refine V.aload_n (r := 14) hC 0 dX9_stampedes_13 rfl rfl ?_
      refine V.iload_n (r := 15) hC 1 dX9_stampedes_14 rfl rfl ?_
      refine V.iload_n (r := 16) hC 2 dX9_stampedes_15 rfl rfl ?_
      refine V.iconst (r := 17) hC dX9_stampedes_16 ki_1 rfl ?_
      refine V.icmp_ne (tgt := 24) (r := 20) hC dX9_stampedes_17 (by decide) rfl (fun c2 => ?_) (fun c2 => ?_)
      · rw [if_neg c2] at h
        refine V.iload_n (r := 25) hC 2 dX9_stampedes_24 rfl rfl ?_
        refine V.iconst (r := 26) hC dX9_stampedes_25 ki_3 rfl ?_
        refine V.icmp_ne (tgt := 33) (r := 29) hC dX9_stampedes_26 (by decide) rfl (fun c3 => ?_) (fun c3 => ?_)
        · rw [if_neg c3] at h
          refine V.iconst (r := 34) hC dX9_stampedes_33 ki_0 rfl ?_
          exact v9_stampedes_b34  hC hR ih _ _ _ _ _ _ h
        · rw [if_pos c3] at h
          refine V.iconst (r := 30) hC dX9_stampedes_29 ki_m1 rfl ?_
          refine V.goto (tgt := 34) hC dX9_stampedes_30 (by decide) ?_
          exact v9_stampedes_b34  hC hR ih _ _ _ _ _ _ h
      · rw [if_pos c2] at h
        refine V.iconst (r := 21) hC dX9_stampedes_20 ki_1 rfl ?_
        refine V.goto (tgt := 34) hC dX9_stampedes_21 (by decide) ?_
        exact v9_stampedes_b34  hC hR ih _ _ _ _ _ _ h
def g9_stampedes (a0 a1 : Int32) (M : xMem) : Option (xMem) :=
g9_stampedes_b7 5000 a0 (a1 - a1 / (4 : Int32) * (4 : Int32)) (0 : Int32) M
set_option maxHeartbeats 4000000 in
set_option maxRecDepth 20000 in
theorem v9_stampedes {G : xG} (hC : xC G cX9_stampedes 5 RX9 2) {R : xMem} (hR : xRV G cX9_stampedes 5 R) {a0 a1 : Int32} {M : xMem} (h : g9_stampedes a0 a1 M = some R) : V G 5 0 [(0, .inr 154), (1, .inl a0), (2, .inl a1)] [] M := by
  unfold g9_stampedes at h
  refine V.iload_n (r := 1) hC 2 dX9_stampedes_0 rfl rfl ?_
  refine V.iconst (r := 2) hC dX9_stampedes_1 ki_4 rfl ?_
  refine V.irem (r := 3) hC dX9_stampedes_2 (by decide) rfl ?_
  refine V.ist_n (lv' := [(0, .inr 154), (1, .inl a0), (2, .inl a1), (3, .inl (a1 - a1 / (4 : Int32) * (4 : Int32)))]) (r := 4) hC dX9_stampedes_3 rfl rfl rfl ?_
  refine V.iconst (r := 5) hC dX9_stampedes_4 ki_0 rfl ?_
  refine V.ist (lv' := [(0, .inr 154), (1, .inl a0), (2, .inl a1), (3, .inl (a1 - a1 / (4 : Int32) * (4 : Int32))), (4, .inl (0 : Int32))]) (r := 7) hC dX9_stampedes_5 rfl rfl rfl ?_
  refine V.pick (lv' := [(0, .inr 154), (1, .inl a0), (3, .inl (a1 - a1 / (4 : Int32) * (4 : Int32))), (4, .inl (0 : Int32))]) [0, 1, 3, 4] rfl ?_
  exact v9_stampedes_b7  hC hR  5000 _ _ _ _ h
theorem met9_stampedes {R : xMem} {a0 a1 : Int32} {M : xMem} (h : g9_stampedes a0 a1 M = some R) : xMet yX9_stampedes cX9_stampedes 5 none 2 [.inr 154, .inl a0, .inl a1] M none R := xMet.ofV (by decide +kernel) (Nat.le_of_ble_eq_true rfl) fun _ hC hR => v9_stampedes  hC hR h
def g9_sign (a0 : Int32) (M : xMem) : Option (Int32 × xMem) :=
if a0 ≤ 0 then
(if 0 ≤ a0 then
(some ((0 : Int32), M))
else
(some ((-1 : Int32), M)))
else
(some ((1 : Int32), M))
set_option maxHeartbeats 4000000 in
set_option maxRecDepth 20000 in
theorem v9_sign {G : xG} (hC : xC G cX9_sign 1 RX9 0) {R : Int32 × xMem} (hR : xRI G cX9_sign 1 R) {a0 : Int32} {M : xMem} (h : g9_sign a0 M = some R) : V G 1 0 [(0, .inl a0)] [] M := by
  unfold g9_sign at h
  refine V.iload_n (r := 1) hC 0 dX9_sign_0 rfl rfl ?_
  refine V.if_le (tgt := 8) (r := 4) hC dX9_sign_1 (by decide) rfl (fun c1 => ?_) (fun c1 => ?_)
  · rw [if_pos c1] at h
    refine V.iload_n (r := 9) hC 0 dX9_sign_8 rfl rfl ?_
    refine V.if_ge (tgt := 16) (r := 12) hC dX9_sign_9 (by decide) rfl (fun c2 => ?_) (fun c2 => ?_)
    · rw [if_pos c2] at h
      refine V.iconst (r := 17) hC dX9_sign_16 ki_0 rfl ?_
      cases h
      exact hR _ _ dX9_sign_17
    · rw [if_neg c2] at h
      refine V.iconst (r := 13) hC dX9_sign_12 ki_m1 rfl ?_
      refine V.goto (tgt := 17) hC dX9_sign_13 (by decide) ?_
      cases h
      exact hR _ _ dX9_sign_17
  · rw [if_neg c1] at h
    refine V.iconst (r := 5) hC dX9_sign_4 ki_1 rfl ?_
    refine V.goto (tgt := 17) hC dX9_sign_5 (by decide) ?_
    cases h
    exact hR _ _ dX9_sign_17
theorem met9_sign {R : Int32 × xMem} {a0 : Int32} {M : xMem} (h : g9_sign a0 M = some R) : xMet yX9_sign cX9_sign 1 (some .int) 0 [.inl a0] M (some R.1) R.2 := xMet.ofI (by decide +kernel) (Nat.le_of_ble_eq_true rfl) fun _ hC hR => v9_sign  hC hR h
def g9_goesTo_b126 (x1 x3 x5 : Int32) (M : xMem) : Option (xMem) :=
if x5 = 0 then
(if x3 = 0 then
(some M)
else
(Option.bind (g9_sign x3 M) fun q28 =>
Option.bind (g9_steps x1 (q28.1) (0 : Int32) q28.2) fun q30 =>
some q30.2))
else
(some M)
set_option maxHeartbeats 4000000 in
set_option maxRecDepth 20000 in
theorem v9_goesTo_b126 {G : xG} (hC : xC G cX9_goesTo 6 RX9 2) {R : xMem} (hR : xRV G cX9_goesTo 6 R) (x1 x3 x5 : Int32) (M : xMem) (h : g9_goesTo_b126 x1 x3 x5 M = some R) : V G 6 126 [(0, .inr 154), (1, .inl x1), (3, .inl x3), (5, .inl x5)] [] M := by
  unfold g9_goesTo_b126 at h
  refine V.iload (r := 128) hC 3 dX9_goesTo_126 rfl rfl ?_
  refine V.if_ne (tgt := 146) (r := 131) hC dX9_goesTo_128 (by decide) rfl (fun c26 => ?_) (fun c26 => ?_)
  · rw [if_neg c26] at h
    cases h
    exact hR _ _ dX9_goesTo_146
  · rw [if_pos c26] at h
    refine V.iload_n (r := 132) hC 2 dX9_goesTo_131 rfl rfl ?_
    refine V.if_eq (tgt := 146) (r := 135) hC dX9_goesTo_132 (by decide) rfl (fun c27 => ?_) (fun c27 => ?_)
    · rw [if_pos c27] at h
      cases h
      exact hR _ _ dX9_goesTo_146
    · rw [if_neg c27] at h
      refine V.aload_n (r := 136) hC 0 dX9_goesTo_135 rfl rfl ?_
      refine V.iload_n (r := 137) hC 1 dX9_goesTo_136 rfl rfl ?_
      refine V.iload_n (r := 138) hC 2 dX9_goesTo_137 rfl rfl ?_
      obtain ⟨q28, hq29, h⟩ := Option.bind_eq_some_iff.mp h
      try dsimp only at h
      refine V.invSi (as := [.inl x3]) (st := [.inl x1, .inr 154]) (r := 141) hC (met9_sign hq29) ys_X9_sign ml_RX9_265 dX9_goesTo_138 (by decide) rfl rfl rfl rfl ?_
      refine V.iconst (r := 142) hC dX9_goesTo_141 ki_0 rfl ?_
      obtain ⟨q30, hq31, h⟩ := Option.bind_eq_some_iff.mp h
      try dsimp only at h
      refine V.invVi (as := [.inl x1, .inl (q28.1), .inl (0 : Int32)]) (st := []) (r := 145) hC (met9_steps hq31) yv_X9_steps ml_RX9_262 sh_154 rfl rfl dX9_goesTo_142 (by decide) rfl rfl rfl rfl ?_
      refine V.pop (r := 146) hC dX9_goesTo_145 rfl ?_
      cases h
      exact hR _ _ dX9_goesTo_146
def g9_goesTo_b104 (x1 x3 x4 x5 : Int32) (M : xMem) : Option (xMem) :=
if x5 = 0 then
(g9_goesTo_b126 x1 x3 x5 M)
else
(if x4 = 0 then
(g9_goesTo_b126 x1 x3 x5 M)
else
(Option.bind (g9_sign x4 M) fun q22 =>
Option.bind (g9_steps x1 (0 : Int32) (q22.1) q22.2) fun q24 =>
g9_goesTo_b126 x1 x3 x5 q24.2))
set_option maxHeartbeats 4000000 in
set_option maxRecDepth 20000 in
theorem v9_goesTo_b104 {G : xG} (hC : xC G cX9_goesTo 6 RX9 2) {R : xMem} (hR : xRV G cX9_goesTo 6 R) (x1 x3 x4 x5 : Int32) (M : xMem) (h : g9_goesTo_b104 x1 x3 x4 x5 M = some R) : V G 6 104 [(0, .inr 154), (1, .inl x1), (3, .inl x3), (4, .inl x4), (5, .inl x5)] [] M := by
  unfold g9_goesTo_b104 at h
  refine V.iload (r := 106) hC 4 dX9_goesTo_104 rfl rfl ?_
  refine V.if_eq (tgt := 126) (r := 109) hC dX9_goesTo_106 (by decide) rfl (fun c20 => ?_) (fun c20 => ?_)
  · rw [if_pos c20] at h
    refine V.pick (lv' := [(0, .inr 154), (1, .inl x1), (3, .inl x3), (5, .inl x5)]) [0, 1, 2, 4] rfl ?_
    exact v9_goesTo_b126  hC hR  _ _ _ _ h
  · rw [if_neg c20] at h
    refine V.iload (r := 111) hC 3 dX9_goesTo_109 rfl rfl ?_
    refine V.if_eq (tgt := 126) (r := 114) hC dX9_goesTo_111 (by decide) rfl (fun c21 => ?_) (fun c21 => ?_)
    · rw [if_pos c21] at h
      refine V.pick (lv' := [(0, .inr 154), (1, .inl x1), (3, .inl x3), (5, .inl x5)]) [0, 1, 2, 4] rfl ?_
      exact v9_goesTo_b126  hC hR  _ _ _ _ h
    · rw [if_neg c21] at h
      refine V.aload_n (r := 115) hC 0 dX9_goesTo_114 rfl rfl ?_
      refine V.iload_n (r := 116) hC 1 dX9_goesTo_115 rfl rfl ?_
      refine V.iconst (r := 117) hC dX9_goesTo_116 ki_0 rfl ?_
      refine V.iload (r := 119) hC 3 dX9_goesTo_117 rfl rfl ?_
      obtain ⟨q22, hq23, h⟩ := Option.bind_eq_some_iff.mp h
      try dsimp only at h
      refine V.invSi (as := [.inl x4]) (st := [.inl (0 : Int32), .inl x1, .inr 154]) (r := 122) hC (met9_sign hq23) ys_X9_sign ml_RX9_265 dX9_goesTo_119 (by decide) rfl rfl rfl rfl ?_
      obtain ⟨q24, hq25, h⟩ := Option.bind_eq_some_iff.mp h
      try dsimp only at h
      refine V.invVi (as := [.inl x1, .inl (0 : Int32), .inl (q22.1)]) (st := []) (r := 125) hC (met9_steps hq25) yv_X9_steps ml_RX9_262 sh_154 rfl rfl dX9_goesTo_122 (by decide) rfl rfl rfl rfl ?_
      refine V.pop (r := 126) hC dX9_goesTo_125 rfl ?_
      refine V.pick (lv' := [(0, .inr 154), (1, .inl x1), (3, .inl x3), (5, .inl x5)]) [0, 1, 2, 4] rfl ?_
      exact v9_goesTo_b126  hC hR  _ _ _ _ h
def g9_goesTo_b66 (x1 x3 x4 s0 : Int32) (M : xMem) : Option (xMem) :=
if s0 = 0 then
(Option.bind (g9_sign x4 M) fun q10 =>
Option.bind (g9_steps x1 (0 : Int32) (q10.1) q10.2) fun q12 =>
if (q12.1) = 0 then
(g9_goesTo_b104 x1 x3 x4 s0 q12.2)
else
(some q12.2))
else
(Option.bind (g9_sign x3 M) fun q15 =>
Option.bind (g9_steps x1 (q15.1) (0 : Int32) q15.2) fun q17 =>
if (q17.1) = 0 then
(g9_goesTo_b104 x1 x3 x4 s0 q17.2)
else
(some q17.2))
set_option maxHeartbeats 4000000 in
set_option maxRecDepth 20000 in
theorem v9_goesTo_b66 {G : xG} (hC : xC G cX9_goesTo 6 RX9 2) {R : xMem} (hR : xRV G cX9_goesTo 6 R) (x1 x3 x4 s0 : Int32) (M : xMem) (h : g9_goesTo_b66 x1 x3 x4 s0 M = some R) : V G 6 66 [(0, .inr 154), (1, .inl x1), (3, .inl x3), (4, .inl x4)] [.inl s0] M := by
  unfold g9_goesTo_b66 at h
  refine V.ist (lv' := [(0, .inr 154), (1, .inl x1), (3, .inl x3), (4, .inl x4), (5, .inl s0)]) (r := 68) hC dX9_goesTo_66 rfl rfl rfl ?_
  refine V.iload (r := 70) hC 4 dX9_goesTo_68 rfl rfl ?_
  refine V.if_eq (tgt := 89) (r := 73) hC dX9_goesTo_70 (by decide) rfl (fun c9 => ?_) (fun c9 => ?_)
  · rw [if_pos c9] at h
    refine V.aload_n (r := 90) hC 0 dX9_goesTo_89 rfl rfl ?_
    refine V.iload_n (r := 91) hC 1 dX9_goesTo_90 rfl rfl ?_
    refine V.iconst (r := 92) hC dX9_goesTo_91 ki_0 rfl ?_
    refine V.iload (r := 94) hC 3 dX9_goesTo_92 rfl rfl ?_
    obtain ⟨q10, hq11, h⟩ := Option.bind_eq_some_iff.mp h
    try dsimp only at h
    refine V.invSi (as := [.inl x4]) (st := [.inl (0 : Int32), .inl x1, .inr 154]) (r := 97) hC (met9_sign hq11) ys_X9_sign ml_RX9_265 dX9_goesTo_94 (by decide) rfl rfl rfl rfl ?_
    obtain ⟨q12, hq13, h⟩ := Option.bind_eq_some_iff.mp h
    try dsimp only at h
    refine V.invVi (as := [.inl x1, .inl (0 : Int32), .inl (q10.1)]) (st := []) (r := 100) hC (met9_steps hq13) yv_X9_steps ml_RX9_262 sh_154 rfl rfl dX9_goesTo_97 (by decide) rfl rfl rfl rfl ?_
    refine V.if_eq (tgt := 104) (r := 103) hC dX9_goesTo_100 (by decide) rfl (fun c14 => ?_) (fun c14 => ?_)
    · rw [if_pos c14] at h
      exact v9_goesTo_b104  hC hR  _ _ _ _ _ h
    · rw [if_neg c14] at h
      cases h
      exact hR _ _ dX9_goesTo_103
  · rw [if_neg c9] at h
    refine V.aload_n (r := 74) hC 0 dX9_goesTo_73 rfl rfl ?_
    refine V.iload_n (r := 75) hC 1 dX9_goesTo_74 rfl rfl ?_
    refine V.iload_n (r := 76) hC 2 dX9_goesTo_75 rfl rfl ?_
    obtain ⟨q15, hq16, h⟩ := Option.bind_eq_some_iff.mp h
    try dsimp only at h
    refine V.invSi (as := [.inl x3]) (st := [.inl x1, .inr 154]) (r := 79) hC (met9_sign hq16) ys_X9_sign ml_RX9_265 dX9_goesTo_76 (by decide) rfl rfl rfl rfl ?_
    refine V.iconst (r := 80) hC dX9_goesTo_79 ki_0 rfl ?_
    obtain ⟨q17, hq18, h⟩ := Option.bind_eq_some_iff.mp h
    try dsimp only at h
    refine V.invVi (as := [.inl x1, .inl (q15.1), .inl (0 : Int32)]) (st := []) (r := 83) hC (met9_steps hq18) yv_X9_steps ml_RX9_262 sh_154 rfl rfl dX9_goesTo_80 (by decide) rfl rfl rfl rfl ?_
    refine V.if_eq (tgt := 104) (r := 86) hC dX9_goesTo_83 (by decide) rfl (fun c19 => ?_) (fun c19 => ?_)
    · rw [if_pos c19] at h
      exact v9_goesTo_b104  hC hR  _ _ _ _ _ h
    · rw [if_neg c19] at h
      refine V.goto (tgt := 103) hC dX9_goesTo_86 (by decide) ?_
      cases h
      exact hR _ _ dX9_goesTo_103
def g9_goesTo_b49 (x1 x3 x4 : Int32) (M : xMem) : Option (xMem) :=
Option.bind (g9_size x3 M) fun q4 =>
Option.bind (g9_size x4 q4.2) fun q6 =>
if (q4.1) < (q6.1) then
(g9_goesTo_b66 x1 x3 x4 (0 : Int32) q6.2)
else
(g9_goesTo_b66 x1 x3 x4 (1 : Int32) q6.2)
set_option maxHeartbeats 4000000 in
set_option maxRecDepth 20000 in
theorem v9_goesTo_b49 {G : xG} (hC : xC G cX9_goesTo 6 RX9 2) {R : xMem} (hR : xRV G cX9_goesTo 6 R) (x1 x3 x4 : Int32) (M : xMem) (h : g9_goesTo_b49 x1 x3 x4 M = some R) : V G 6 49 [(0, .inr 154), (1, .inl x1), (3, .inl x3), (4, .inl x4)] [] M := by
  unfold g9_goesTo_b49 at h
  refine V.iload_n (r := 50) hC 2 dX9_goesTo_49 rfl rfl ?_
  obtain ⟨q4, hq5, h⟩ := Option.bind_eq_some_iff.mp h
  try dsimp only at h
  refine V.invSi (as := [.inl x3]) (st := []) (r := 53) hC (met9_size hq5) ys_X9_size ml_RX9_77 dX9_goesTo_50 (by decide) rfl rfl rfl rfl ?_
  refine V.iload (r := 55) hC 3 dX9_goesTo_53 rfl rfl ?_
  obtain ⟨q6, hq7, h⟩ := Option.bind_eq_some_iff.mp h
  try dsimp only at h
  refine V.invSi (as := [.inl x4]) (st := [.inl (q4.1)]) (r := 58) hC (met9_size hq7) ys_X9_size ml_RX9_77 dX9_goesTo_55 (by decide) rfl rfl rfl rfl ?_
  refine V.icmp_lt (tgt := 65) (r := 61) hC dX9_goesTo_58 (by decide) rfl (fun c8 => ?_) (fun c8 => ?_)
  · rw [if_pos c8] at h
    refine V.iconst (r := 66) hC dX9_goesTo_65 ki_0 rfl ?_
    exact v9_goesTo_b66  hC hR  _ _ _ _ _ h
  · rw [if_neg c8] at h
    refine V.iconst (r := 62) hC dX9_goesTo_61 ki_1 rfl ?_
    refine V.goto (tgt := 66) hC dX9_goesTo_62 (by decide) ?_
    exact v9_goesTo_b66  hC hR  _ _ _ _ _ h
def g9_goesTo (a0 a1 : Int32) (M : xMem) : Option (xMem) :=
if ((274 : Int32) + a0) < 0 ∨ 331 ≤ ((274 : Int32) + a0).toNatClampNeg then none else
if ((a1 - a1 / (14 : Int32) * (14 : Int32)) - ((M 7 ((274 : Int32) + a0).toNatClampNeg) - (M 7 ((274 : Int32) + a0).toNatClampNeg) / (14 : Int32) * (14 : Int32))) = 0 then
(if ((a1 / (14 : Int32)) - ((M 7 ((274 : Int32) + a0).toNatClampNeg) / (14 : Int32))) = 0 then
(some M)
else
(g9_goesTo_b49 a0 ((a1 - a1 / (14 : Int32) * (14 : Int32)) - ((M 7 ((274 : Int32) + a0).toNatClampNeg) - (M 7 ((274 : Int32) + a0).toNatClampNeg) / (14 : Int32) * (14 : Int32))) ((a1 / (14 : Int32)) - ((M 7 ((274 : Int32) + a0).toNatClampNeg) / (14 : Int32))) M))
else
(g9_goesTo_b49 a0 ((a1 - a1 / (14 : Int32) * (14 : Int32)) - ((M 7 ((274 : Int32) + a0).toNatClampNeg) - (M 7 ((274 : Int32) + a0).toNatClampNeg) / (14 : Int32) * (14 : Int32))) ((a1 / (14 : Int32)) - ((M 7 ((274 : Int32) + a0).toNatClampNeg) / (14 : Int32))) M)
set_option maxHeartbeats 4000000 in
set_option maxRecDepth 20000 in
theorem v9_goesTo {G : xG} (hC : xC G cX9_goesTo 6 RX9 2) {R : xMem} (hR : xRV G cX9_goesTo 6 R) {a0 a1 : Int32} {M : xMem} (h : g9_goesTo a0 a1 M = some R) : V G 6 0 [(0, .inr 154), (1, .inl a0), (2, .inl a1)] [] M := by
  unfold g9_goesTo at h
  refine V.iload_n (r := 1) hC 2 dX9_goesTo_0 rfl rfl ?_
  refine V.bipush (r := 3) hC dX9_goesTo_1 kb_14 rfl ?_
  refine V.irem (r := 4) hC dX9_goesTo_3 (by decide) rfl ?_
  refine V.aload_n (r := 5) hC 0 dX9_goesTo_4 rfl rfl ?_
  refine V.getR (k' := 155) (j := 0) (r := 8) hC xcl_9 sh_154 fl_RX9_7 dX9_goesTo_5 (by decide) rfl rfl ?_
  refine V.sipush (r := 11) hC dX9_goesTo_8 ks_274 rfl ?_
  refine V.iload_n (r := 12) hC 1 dX9_goesTo_11 rfl rfl ?_
  refine V.iadd (r := 13) hC dX9_goesTo_12 rfl ?_
  by_cases c1 : ((274 : Int32) + a0) < 0 ∨ 331 ≤ ((274 : Int32) + a0).toNatClampNeg
  · rw [if_pos c1] at h; cases h
  rw [if_neg c1] at h
  refine V.iald (t := ((274 : Int32) + a0).toNatClampNeg) (r := 14) hC sh_155 dX9_goesTo_13 c1 (Nat.zero_add _) rfl ?_
  refine V.bipush (r := 16) hC dX9_goesTo_14 kb_14 rfl ?_
  refine V.irem (r := 17) hC dX9_goesTo_16 (by decide) rfl ?_
  refine V.isub (r := 18) hC dX9_goesTo_17 rfl ?_
  refine V.ist_n (lv' := [(0, .inr 154), (1, .inl a0), (2, .inl a1), (3, .inl ((a1 - a1 / (14 : Int32) * (14 : Int32)) - ((M 7 ((274 : Int32) + a0).toNatClampNeg) - (M 7 ((274 : Int32) + a0).toNatClampNeg) / (14 : Int32) * (14 : Int32))))]) (r := 19) hC dX9_goesTo_18 rfl rfl rfl ?_
  refine V.iload_n (r := 20) hC 2 dX9_goesTo_19 rfl rfl ?_
  refine V.bipush (r := 22) hC dX9_goesTo_20 kb_14 rfl ?_
  refine V.idiv (r := 23) hC dX9_goesTo_22 (by decide) rfl ?_
  refine V.aload_n (r := 24) hC 0 dX9_goesTo_23 rfl rfl ?_
  refine V.getR (k' := 155) (j := 0) (r := 27) hC xcl_9 sh_154 fl_RX9_7 dX9_goesTo_24 (by decide) rfl rfl ?_
  refine V.sipush (r := 30) hC dX9_goesTo_27 ks_274 rfl ?_
  refine V.iload_n (r := 31) hC 1 dX9_goesTo_30 rfl rfl ?_
  refine V.iadd (r := 32) hC dX9_goesTo_31 rfl ?_
  refine V.iald (t := ((274 : Int32) + a0).toNatClampNeg) (r := 33) hC sh_155 dX9_goesTo_32 c1 (Nat.zero_add _) rfl ?_
  refine V.bipush (r := 35) hC dX9_goesTo_33 kb_14 rfl ?_
  refine V.idiv (r := 36) hC dX9_goesTo_35 (by decide) rfl ?_
  refine V.isub (r := 37) hC dX9_goesTo_36 rfl ?_
  refine V.ist (lv' := [(0, .inr 154), (1, .inl a0), (2, .inl a1), (3, .inl ((a1 - a1 / (14 : Int32) * (14 : Int32)) - ((M 7 ((274 : Int32) + a0).toNatClampNeg) - (M 7 ((274 : Int32) + a0).toNatClampNeg) / (14 : Int32) * (14 : Int32)))), (4, .inl ((a1 / (14 : Int32)) - ((M 7 ((274 : Int32) + a0).toNatClampNeg) / (14 : Int32))))]) (r := 39) hC dX9_goesTo_37 rfl rfl rfl ?_
  refine V.iload_n (r := 40) hC 3 dX9_goesTo_39 rfl rfl ?_
  refine V.if_ne (tgt := 49) (r := 43) hC dX9_goesTo_40 (by decide) rfl (fun c2 => ?_) (fun c2 => ?_)
  · rw [if_neg c2] at h
    refine V.pick (lv' := [(0, .inr 154), (1, .inl a0), (3, .inl ((a1 - a1 / (14 : Int32) * (14 : Int32)) - ((M 7 ((274 : Int32) + a0).toNatClampNeg) - (M 7 ((274 : Int32) + a0).toNatClampNeg) / (14 : Int32) * (14 : Int32)))), (4, .inl ((a1 / (14 : Int32)) - ((M 7 ((274 : Int32) + a0).toNatClampNeg) / (14 : Int32))))]) [0, 1, 3, 4] rfl ?_
    exact v9_goesTo_b49  hC hR  _ _ _ _ h
  · rw [if_pos c2] at h
    refine V.iload (r := 45) hC 4 dX9_goesTo_43 rfl rfl ?_
    refine V.if_ne (tgt := 49) (r := 48) hC dX9_goesTo_45 (by decide) rfl (fun c3 => ?_) (fun c3 => ?_)
    · rw [if_neg c3] at h
      refine V.pick (lv' := [(0, .inr 154), (1, .inl a0), (3, .inl ((a1 - a1 / (14 : Int32) * (14 : Int32)) - ((M 7 ((274 : Int32) + a0).toNatClampNeg) - (M 7 ((274 : Int32) + a0).toNatClampNeg) / (14 : Int32) * (14 : Int32)))), (4, .inl ((a1 / (14 : Int32)) - ((M 7 ((274 : Int32) + a0).toNatClampNeg) / (14 : Int32))))]) [0, 1, 3, 4] rfl ?_
      exact v9_goesTo_b49  hC hR  _ _ _ _ h
    · rw [if_pos c3] at h
      cases h
      exact hR _ _ dX9_goesTo_48
theorem met9_goesTo {R : xMem} {a0 a1 : Int32} {M : xMem} (h : g9_goesTo a0 a1 M = some R) : xMet yX9_goesTo cX9_goesTo 6 none 2 [.inr 154, .inl a0, .inl a1] M none R := xMet.ofV (by decide +kernel) (Nat.le_of_ble_eq_true rfl) fun _ hC hR => v9_goesTo  hC hR h
def g9_goesOn (a0 : Int32) (M : xMem) : Option (xMem) :=
if ((274 : Int32) + a0) < 0 ∨ 331 ≤ ((274 : Int32) + a0).toNatClampNeg then none else
if ((M 7 ((274 : Int32) + a0).toNatClampNeg) / (14 : Int32)) = (13 : Int32) then
(mset (upM M 7 ((274 : Int32) + a0).toNatClampNeg (196 : Int32)) fun M5 =>
some M5)
else
(Option.bind (g9_steps a0 (0 : Int32) (1 : Int32) M) fun q3 =>
some q3.2)
set_option maxHeartbeats 4000000 in
set_option maxRecDepth 20000 in
theorem v9_goesOn {G : xG} (hC : xC G cX9_goesOn 2 RX9 2) {R : xMem} (hR : xRV G cX9_goesOn 2 R) {a0 : Int32} {M : xMem} (h : g9_goesOn a0 M = some R) : V G 2 0 [(0, .inr 154), (1, .inl a0)] [] M := by
  unfold g9_goesOn at h
  refine V.aload_n (r := 1) hC 0 dX9_goesOn_0 rfl rfl ?_
  refine V.getR (k' := 155) (j := 0) (r := 4) hC xcl_9 sh_154 fl_RX9_7 dX9_goesOn_1 (by decide) rfl rfl ?_
  refine V.sipush (r := 7) hC dX9_goesOn_4 ks_274 rfl ?_
  refine V.iload_n (r := 8) hC 1 dX9_goesOn_7 rfl rfl ?_
  refine V.iadd (r := 9) hC dX9_goesOn_8 rfl ?_
  by_cases c1 : ((274 : Int32) + a0) < 0 ∨ 331 ≤ ((274 : Int32) + a0).toNatClampNeg
  · rw [if_pos c1] at h; cases h
  rw [if_neg c1] at h
  refine V.iald (t := ((274 : Int32) + a0).toNatClampNeg) (r := 10) hC sh_155 dX9_goesOn_9 c1 (Nat.zero_add _) rfl ?_
  refine V.bipush (r := 12) hC dX9_goesOn_10 kb_14 rfl ?_
  refine V.idiv (r := 13) hC dX9_goesOn_12 (by decide) rfl ?_
  refine V.bipush (r := 15) hC dX9_goesOn_13 kb_13 rfl ?_
  refine V.icmp_ne (tgt := 34) (r := 18) hC dX9_goesOn_15 (by decide) rfl (fun c2 => ?_) (fun c2 => ?_)
  · rw [if_neg c2] at h
    refine V.aload_n (r := 35) hC 0 dX9_goesOn_34 rfl rfl ?_
    refine V.iload_n (r := 36) hC 1 dX9_goesOn_35 rfl rfl ?_
    refine V.iconst (r := 37) hC dX9_goesOn_36 ki_0 rfl ?_
    refine V.iconst (r := 38) hC dX9_goesOn_37 ki_1 rfl ?_
    obtain ⟨q3, hq4, h⟩ := Option.bind_eq_some_iff.mp h
    try dsimp only at h
    refine V.invVi (as := [.inl a0, .inl (0 : Int32), .inl (1 : Int32)]) (st := []) (r := 41) hC (met9_steps hq4) yv_X9_steps ml_RX9_262 sh_154 rfl rfl dX9_goesOn_38 (by decide) rfl rfl rfl rfl ?_
    refine V.pop (r := 42) hC dX9_goesOn_41 rfl ?_
    cases h
    exact hR _ _ dX9_goesOn_42
  · rw [if_pos c2] at h
    refine V.aload_n (r := 19) hC 0 dX9_goesOn_18 rfl rfl ?_
    refine V.getR (k' := 155) (j := 0) (r := 22) hC xcl_9 sh_154 fl_RX9_7 dX9_goesOn_19 (by decide) rfl rfl ?_
    refine V.sipush (r := 25) hC dX9_goesOn_22 ks_274 rfl ?_
    refine V.iload_n (r := 26) hC 1 dX9_goesOn_25 rfl rfl ?_
    refine V.iadd (r := 27) hC dX9_goesOn_26 rfl ?_
    refine V.sipush (r := 30) hC dX9_goesOn_27 ks_196 rfl ?_
    rw [mset_eq] at h
    refine V.iast (t := ((274 : Int32) + a0).toNatClampNeg) (r := 31) hC sh_155 dX9_goesOn_30 c1 (Nat.zero_add _) rfl ?_
    generalize upM M 7 ((274 : Int32) + a0).toNatClampNeg (196 : Int32) = M5 at h ⊢
    refine V.goto (tgt := 42) hC dX9_goesOn_31 (by decide) ?_
    cases h
    exact hR _ _ dX9_goesOn_42
theorem met9_goesOn {R : xMem} {a0 : Int32} {M : xMem} (h : g9_goesOn a0 M = some R) : xMet yX9_goesOn cX9_goesOn 2 none 2 [.inr 154, .inl a0] M none R := xMet.ofV (by decide +kernel) (Nat.le_of_ble_eq_true rfl) fun _ hC hR => v9_goesOn  hC hR h
def g9_loses_b50 (x4 s0 : Int32) (M : xMem) : Option (Int32 × xMem) :=
if ((308 : Int32) + s0) < 0 ∨ 331 ≤ ((308 : Int32) + s0).toNatClampNeg then none else
mset (upM M 7 ((308 : Int32) + s0).toNatClampNeg ((M 7 ((308 : Int32) + s0).toNatClampNeg) + x4)) fun M7 =>
some (x4, M7)
set_option maxHeartbeats 4000000 in
set_option maxRecDepth 20000 in
theorem v9_loses_b50 {G : xG} (hC : xC G cX9_loses 6 RX9 1) {R : Int32 × xMem} (hR : xRI G cX9_loses 6 R) (x4 s0 : Int32) (M : xMem) (h : g9_loses_b50 x4 s0 M = some R) : V G 6 50 [(0, .inr 154), (4, .inl x4)] [.inl s0] M := by
  unfold g9_loses_b50 at h
  refine V.ist (lv' := [(0, .inr 154), (4, .inl x4), (5, .inl s0)]) (r := 52) hC dX9_loses_50 rfl rfl rfl ?_
  refine V.aload_n (r := 53) hC 0 dX9_loses_52 rfl rfl ?_
  refine V.getR (k' := 155) (j := 0) (r := 56) hC xcl_9 sh_154 fl_RX9_7 dX9_loses_53 (by decide) rfl rfl ?_
  refine V.sipush (r := 59) hC dX9_loses_56 ks_308 rfl ?_
  refine V.iload (r := 61) hC 2 dX9_loses_59 rfl rfl ?_
  refine V.iadd (r := 62) hC dX9_loses_61 rfl ?_
  refine V.aload_n (r := 63) hC 0 dX9_loses_62 rfl rfl ?_
  refine V.getR (k' := 155) (j := 0) (r := 66) hC xcl_9 sh_154 fl_RX9_7 dX9_loses_63 (by decide) rfl rfl ?_
  refine V.sipush (r := 69) hC dX9_loses_66 ks_308 rfl ?_
  refine V.iload (r := 71) hC 2 dX9_loses_69 rfl rfl ?_
  refine V.iadd (r := 72) hC dX9_loses_71 rfl ?_
  by_cases c6 : ((308 : Int32) + s0) < 0 ∨ 331 ≤ ((308 : Int32) + s0).toNatClampNeg
  · rw [if_pos c6] at h; cases h
  rw [if_neg c6] at h
  refine V.iald (t := ((308 : Int32) + s0).toNatClampNeg) (r := 73) hC sh_155 dX9_loses_72 c6 (Nat.zero_add _) rfl ?_
  refine V.iload (r := 75) hC 1 dX9_loses_73 rfl rfl ?_
  refine V.iadd (r := 76) hC dX9_loses_75 rfl ?_
  rw [mset_eq] at h
  refine V.iast (t := ((308 : Int32) + s0).toNatClampNeg) (r := 77) hC sh_155 dX9_loses_76 c6 (Nat.zero_add _) rfl ?_
  generalize upM M 7 ((308 : Int32) + s0).toNatClampNeg ((M 7 ((308 : Int32) + s0).toNatClampNeg) + x4) = M7 at h ⊢
  refine V.iload (r := 79) hC 1 dX9_loses_77 rfl rfl ?_
  cases h
  exact hR _ _ dX9_loses_79
def g9_loses (a0 a1 a2 : Int32) (M : xMem) : Option (Int32 × xMem) :=
if ((280 : Int32) + a0) < 0 ∨ 331 ≤ ((280 : Int32) + a0).toNatClampNeg then none else
Option.bind (g9_min a1 (M 7 ((280 : Int32) + a0).toNatClampNeg) M) fun q2 =>
mset (upM q2.2 7 ((280 : Int32) + a0).toNatClampNeg ((q2.2 7 ((280 : Int32) + a0).toNatClampNeg) - (q2.1))) fun M4 =>
if a2 = (-1 : Int32) then
(g9_loses_b50 (q2.1) (18 : Int32) M4)
else
(g9_loses_b50 (q2.1) a2 M4)
set_option maxHeartbeats 4000000 in
set_option maxRecDepth 20000 in
theorem v9_loses {G : xG} (hC : xC G cX9_loses 6 RX9 1) {R : Int32 × xMem} (hR : xRI G cX9_loses 6 R) {a0 a1 a2 : Int32} {M : xMem} (h : g9_loses a0 a1 a2 M = some R) : V G 6 0 [(0, .inr 154), (1, .inl a0), (2, .inl a1), (3, .inl a2)] [] M := by
  unfold g9_loses at h
  refine V.iload_n (r := 1) hC 2 dX9_loses_0 rfl rfl ?_
  refine V.aload_n (r := 2) hC 0 dX9_loses_1 rfl rfl ?_
  refine V.getR (k' := 155) (j := 0) (r := 5) hC xcl_9 sh_154 fl_RX9_7 dX9_loses_2 (by decide) rfl rfl ?_
  refine V.sipush (r := 8) hC dX9_loses_5 ks_280 rfl ?_
  refine V.iload_n (r := 9) hC 1 dX9_loses_8 rfl rfl ?_
  refine V.iadd (r := 10) hC dX9_loses_9 rfl ?_
  by_cases c1 : ((280 : Int32) + a0) < 0 ∨ 331 ≤ ((280 : Int32) + a0).toNatClampNeg
  · rw [if_pos c1] at h; cases h
  rw [if_neg c1] at h
  refine V.iald (t := ((280 : Int32) + a0).toNatClampNeg) (r := 11) hC sh_155 dX9_loses_10 c1 (Nat.zero_add _) rfl ?_
  obtain ⟨q2, hq3, h⟩ := Option.bind_eq_some_iff.mp h
  try dsimp only at h
  refine V.invSi (as := [.inl a1, .inl (M 7 ((280 : Int32) + a0).toNatClampNeg)]) (st := []) (r := 14) hC (met9_min hq3) ys_X9_min ml_RX9_268 dX9_loses_11 (by decide) rfl rfl rfl rfl ?_
  refine V.ist (lv' := [(0, .inr 154), (1, .inl a0), (2, .inl a1), (3, .inl a2), (4, .inl (q2.1))]) (r := 16) hC dX9_loses_14 rfl rfl rfl ?_
  refine V.aload_n (r := 17) hC 0 dX9_loses_16 rfl rfl ?_
  refine V.getR (k' := 155) (j := 0) (r := 20) hC xcl_9 sh_154 fl_RX9_7 dX9_loses_17 (by decide) rfl rfl ?_
  refine V.sipush (r := 23) hC dX9_loses_20 ks_280 rfl ?_
  refine V.iload_n (r := 24) hC 1 dX9_loses_23 rfl rfl ?_
  refine V.iadd (r := 25) hC dX9_loses_24 rfl ?_
  refine V.aload_n (r := 26) hC 0 dX9_loses_25 rfl rfl ?_
  refine V.getR (k' := 155) (j := 0) (r := 29) hC xcl_9 sh_154 fl_RX9_7 dX9_loses_26 (by decide) rfl rfl ?_
  refine V.sipush (r := 32) hC dX9_loses_29 ks_280 rfl ?_
  refine V.iload_n (r := 33) hC 1 dX9_loses_32 rfl rfl ?_
  refine V.iadd (r := 34) hC dX9_loses_33 rfl ?_
  refine V.iald (t := ((280 : Int32) + a0).toNatClampNeg) (r := 35) hC sh_155 dX9_loses_34 c1 (Nat.zero_add _) rfl ?_
  refine V.iload (r := 37) hC 4 dX9_loses_35 rfl rfl ?_
  refine V.isub (r := 38) hC dX9_loses_37 rfl ?_
  rw [mset_eq] at h
  refine V.iast (t := ((280 : Int32) + a0).toNatClampNeg) (r := 39) hC sh_155 dX9_loses_38 c1 (Nat.zero_add _) rfl ?_
  generalize upM q2.2 7 ((280 : Int32) + a0).toNatClampNeg ((q2.2 7 ((280 : Int32) + a0).toNatClampNeg) - (q2.1)) = M4 at h ⊢
  refine V.iload_n (r := 40) hC 3 dX9_loses_39 rfl rfl ?_
  refine V.iconst (r := 41) hC dX9_loses_40 ki_m1 rfl ?_
  refine V.icmp_ne (tgt := 49) (r := 44) hC dX9_loses_41 (by decide) rfl (fun c5 => ?_) (fun c5 => ?_)
  · rw [if_neg c5] at h
    refine V.iload_n (r := 50) hC 3 dX9_loses_49 rfl rfl ?_
    refine V.pick (lv' := [(0, .inr 154), (4, .inl (q2.1))]) [0, 4] rfl ?_
    exact v9_loses_b50  hC hR  _ _ _ h
  · rw [if_pos c5] at h
    refine V.bipush (r := 46) hC dX9_loses_44 kb_18 rfl ?_
    refine V.goto (tgt := 50) hC dX9_loses_46 (by decide) ?_
    refine V.pick (lv' := [(0, .inr 154), (4, .inl (q2.1))]) [0, 4] rfl ?_
    exact v9_loses_b50  hC hR  _ _ _ h
theorem met9_loses {R : Int32 × xMem} {a0 a1 a2 : Int32} {M : xMem} (h : g9_loses a0 a1 a2 M = some R) : xMet yX9_loses cX9_loses 6 (some .int) 1 [.inr 154, .inl a0, .inl a1, .inl a2] M (some R.1) R.2 := xMet.ofI (by decide +kernel) (Nat.le_of_ble_eq_true rfl) fun _ hC hR => v9_loses  hC hR h
def g9_sinks_b101 (x5 s1 s2 : Int32) (M : xMem) : Option (Int32 × xMem) :=
if s1 < 0 ∨ 331 ≤ s1.toNatClampNeg then none else
mset (upM M 7 s1.toNatClampNeg s2) fun M19 =>
some (x5, M19)
set_option maxHeartbeats 4000000 in
set_option maxRecDepth 20000 in
theorem v9_sinks_b101 {G : xG} (hC : xC G cX9_sinks 6 RX9 3) {R : Int32 × xMem} (hR : xRI G cX9_sinks 6 R) (x5 s1 s2 : Int32) (M : xMem) (h : g9_sinks_b101 x5 s1 s2 M = some R) : V G 6 101 [(5, .inl x5)] [.inl s2, .inl s1, .inr 155] M := by
  unfold g9_sinks_b101 at h
  by_cases c18 : s1 < 0 ∨ 331 ≤ s1.toNatClampNeg
  · rw [if_pos c18] at h; cases h
  rw [if_neg c18] at h
  rw [mset_eq] at h
  refine V.iast (t := s1.toNatClampNeg) (r := 102) hC sh_155 dX9_sinks_101 c18 (Nat.zero_add _) rfl ?_
  generalize upM M 7 s1.toNatClampNeg s2 = M19 at h ⊢
  refine V.iload (r := 104) hC 0 dX9_sinks_102 rfl rfl ?_
  cases h
  exact hR _ _ dX9_sinks_104
def g9_sinks_b51 (x1 x2 x4 x5 : Int32) (M : xMem) : Option (Int32 × xMem) :=
Option.bind (g9_feelsHerd x1 x2 M) fun q10 =>
if x4 = (2 : Int32) then
(g9_sinks_b101 x5 ((286 : Int32) + x1) (0 : Int32) q10)
else
(if ((286 : Int32) + x1) < 0 ∨ 331 ≤ ((286 : Int32) + x1).toNatClampNeg then none else
Option.bind (g9_byLaw (119 : Int32) (0 : Int32) (99 : Int32) q10) fun q14 =>
Option.bind (g9_held ((q10 7 ((286 : Int32) + x1).toNatClampNeg) + (q14.1)) (99 : Int32) q14.2) fun q16 =>
g9_sinks_b101 x5 ((286 : Int32) + x1) (q16.1) q16.2)
set_option maxHeartbeats 4000000 in
set_option maxRecDepth 20000 in
theorem v9_sinks_b51 {G : xG} (hC : xC G cX9_sinks 6 RX9 3) {R : Int32 × xMem} (hR : xRI G cX9_sinks 6 R) (x1 x2 x4 x5 : Int32) (M : xMem) (h : g9_sinks_b51 x1 x2 x4 x5 M = some R) : V G 6 51 [(0, .inr 154), (1, .inl x1), (2, .inl x2), (4, .inl x4), (5, .inl x5)] [] M := by
  unfold g9_sinks_b51 at h
  refine V.aload_n (r := 52) hC 0 dX9_sinks_51 rfl rfl ?_
  refine V.iload_n (r := 53) hC 1 dX9_sinks_52 rfl rfl ?_
  refine V.iload_n (r := 54) hC 2 dX9_sinks_53 rfl rfl ?_
  obtain ⟨q10, hq11, h⟩ := Option.bind_eq_some_iff.mp h
  try dsimp only at h
  refine V.invVv (as := [.inl x1, .inl x2]) (st := []) (r := 57) hC (met9_feelsHerd hq11) yv_X9_feelsHerd ml_RX9_235 sh_154 rfl rfl dX9_sinks_54 (by decide) rfl rfl rfl rfl ?_
  refine V.aload_n (r := 58) hC 0 dX9_sinks_57 rfl rfl ?_
  refine V.getR (k' := 155) (j := 0) (r := 61) hC xcl_9 sh_154 fl_RX9_7 dX9_sinks_58 (by decide) rfl rfl ?_
  refine V.sipush (r := 64) hC dX9_sinks_61 ks_286 rfl ?_
  refine V.iload_n (r := 65) hC 1 dX9_sinks_64 rfl rfl ?_
  refine V.iadd (r := 66) hC dX9_sinks_65 rfl ?_
  refine V.iload (r := 68) hC 3 dX9_sinks_66 rfl rfl ?_
  refine V.iconst (r := 69) hC dX9_sinks_68 ki_2 rfl ?_
  refine V.icmp_ne (tgt := 76) (r := 72) hC dX9_sinks_69 (by decide) rfl (fun c12 => ?_) (fun c12 => ?_)
  · rw [if_neg c12] at h
    refine V.aload_n (r := 77) hC 0 dX9_sinks_76 rfl rfl ?_
    refine V.getR (k' := 155) (j := 0) (r := 80) hC xcl_9 sh_154 fl_RX9_7 dX9_sinks_77 (by decide) rfl rfl ?_
    refine V.sipush (r := 83) hC dX9_sinks_80 ks_286 rfl ?_
    refine V.iload_n (r := 84) hC 1 dX9_sinks_83 rfl rfl ?_
    refine V.iadd (r := 85) hC dX9_sinks_84 rfl ?_
    by_cases c13 : ((286 : Int32) + x1) < 0 ∨ 331 ≤ ((286 : Int32) + x1).toNatClampNeg
    · rw [if_pos c13] at h; cases h
    rw [if_neg c13] at h
    refine V.iald (t := ((286 : Int32) + x1).toNatClampNeg) (r := 86) hC sh_155 dX9_sinks_85 c13 (Nat.zero_add _) rfl ?_
    refine V.aload_n (r := 87) hC 0 dX9_sinks_86 rfl rfl ?_
    refine V.bipush (r := 89) hC dX9_sinks_87 kb_119 rfl ?_
    refine V.iconst (r := 90) hC dX9_sinks_89 ki_0 rfl ?_
    refine V.bipush (r := 92) hC dX9_sinks_90 kb_99 rfl ?_
    obtain ⟨q14, hq15, h⟩ := Option.bind_eq_some_iff.mp h
    try dsimp only at h
    refine V.invVi (as := [.inl (119 : Int32), .inl (0 : Int32), .inl (99 : Int32)]) (st := [.inl (q10 7 ((286 : Int32) + x1).toNatClampNeg), .inl ((286 : Int32) + x1), .inr 155]) (r := 95) hC (met9_byLaw hq15) yv_X9_byLaw ml_RX9_247 sh_154 rfl rfl dX9_sinks_92 (by decide) rfl rfl rfl rfl ?_
    refine V.iadd (r := 96) hC dX9_sinks_95 rfl ?_
    refine V.bipush (r := 98) hC dX9_sinks_96 kb_99 rfl ?_
    obtain ⟨q16, hq17, h⟩ := Option.bind_eq_some_iff.mp h
    try dsimp only at h
    refine V.invSi (as := [.inl ((q10 7 ((286 : Int32) + x1).toNatClampNeg) + (q14.1)), .inl (99 : Int32)]) (st := [.inl ((286 : Int32) + x1), .inr 155]) (r := 101) hC (met9_held hq17) ys_X9_held ml_RX9_274 dX9_sinks_98 (by decide) rfl rfl rfl rfl ?_
    refine V.pick (lv' := [(5, .inl x5)]) [4] rfl ?_
    exact v9_sinks_b101  hC hR  _ _ _ _ h
  · rw [if_pos c12] at h
    refine V.iconst (r := 73) hC dX9_sinks_72 ki_0 rfl ?_
    refine V.goto (tgt := 101) hC dX9_sinks_73 (by decide) ?_
    refine V.pick (lv' := [(5, .inl x5)]) [4] rfl ?_
    exact v9_sinks_b101  hC hR  _ _ _ _ h
def g9_sinks (a0 a1 a2 : Int32) (M : xMem) : Option (Int32 × xMem) :=
if ((274 : Int32) + a0) < 0 ∨ 331 ≤ ((274 : Int32) + a0).toNatClampNeg then none else
if ((0 : Int32) + (M 7 ((274 : Int32) + a0).toNatClampNeg)) < 0 ∨ 331 ≤ ((0 : Int32) + (M 7 ((274 : Int32) + a0).toNatClampNeg)).toNatClampNeg then none else
if (M 7 ((0 : Int32) + (M 7 ((274 : Int32) + a0).toNatClampNeg)).toNatClampNeg) = (1 : Int32) then
(Option.bind (g9_feelsHerd a0 a1 M) fun q4 =>
Option.bind (g9_byLaw (115 : Int32) (0 : Int32) (99 : Int32) q4) fun q6 =>
Option.bind (g9_loses a0 (q6.1) a2 q6.2) fun q8 =>
g9_sinks_b51 a0 a1 (M 7 ((0 : Int32) + (M 7 ((274 : Int32) + a0).toNatClampNeg)).toNatClampNeg) (q8.1) q8.2)
else
(g9_sinks_b51 a0 a1 (M 7 ((0 : Int32) + (M 7 ((274 : Int32) + a0).toNatClampNeg)).toNatClampNeg) (0 : Int32) M)
set_option maxHeartbeats 4000000 in
set_option maxRecDepth 20000 in
theorem v9_sinks {G : xG} (hC : xC G cX9_sinks 6 RX9 3) {R : Int32 × xMem} (hR : xRI G cX9_sinks 6 R) {a0 a1 a2 : Int32} {M : xMem} (h : g9_sinks a0 a1 a2 M = some R) : V G 6 0 [(0, .inr 154), (1, .inl a0), (2, .inl a1), (3, .inl a2)] [] M := by
  unfold g9_sinks at h
  refine V.aload_n (r := 1) hC 0 dX9_sinks_0 rfl rfl ?_
  refine V.getR (k' := 155) (j := 0) (r := 4) hC xcl_9 sh_154 fl_RX9_7 dX9_sinks_1 (by decide) rfl rfl ?_
  refine V.iconst (r := 5) hC dX9_sinks_4 ki_0 rfl ?_
  refine V.aload_n (r := 6) hC 0 dX9_sinks_5 rfl rfl ?_
  refine V.getR (k' := 155) (j := 0) (r := 9) hC xcl_9 sh_154 fl_RX9_7 dX9_sinks_6 (by decide) rfl rfl ?_
  refine V.sipush (r := 12) hC dX9_sinks_9 ks_274 rfl ?_
  refine V.iload_n (r := 13) hC 1 dX9_sinks_12 rfl rfl ?_
  refine V.iadd (r := 14) hC dX9_sinks_13 rfl ?_
  by_cases c1 : ((274 : Int32) + a0) < 0 ∨ 331 ≤ ((274 : Int32) + a0).toNatClampNeg
  · rw [if_pos c1] at h; cases h
  rw [if_neg c1] at h
  refine V.iald (t := ((274 : Int32) + a0).toNatClampNeg) (r := 15) hC sh_155 dX9_sinks_14 c1 (Nat.zero_add _) rfl ?_
  refine V.iadd (r := 16) hC dX9_sinks_15 rfl ?_
  by_cases c2 : ((0 : Int32) + (M 7 ((274 : Int32) + a0).toNatClampNeg)) < 0 ∨ 331 ≤ ((0 : Int32) + (M 7 ((274 : Int32) + a0).toNatClampNeg)).toNatClampNeg
  · rw [if_pos c2] at h; cases h
  rw [if_neg c2] at h
  refine V.iald (t := ((0 : Int32) + (M 7 ((274 : Int32) + a0).toNatClampNeg)).toNatClampNeg) (r := 17) hC sh_155 dX9_sinks_16 c2 (Nat.zero_add _) rfl ?_
  refine V.ist (lv' := [(0, .inr 154), (1, .inl a0), (2, .inl a1), (3, .inl a2), (4, .inl (M 7 ((0 : Int32) + (M 7 ((274 : Int32) + a0).toNatClampNeg)).toNatClampNeg))]) (r := 19) hC dX9_sinks_17 rfl rfl rfl ?_
  refine V.iconst (r := 20) hC dX9_sinks_19 ki_0 rfl ?_
  refine V.ist (lv' := [(0, .inr 154), (1, .inl a0), (2, .inl a1), (3, .inl a2), (4, .inl (M 7 ((0 : Int32) + (M 7 ((274 : Int32) + a0).toNatClampNeg)).toNatClampNeg)), (5, .inl (0 : Int32))]) (r := 22) hC dX9_sinks_20 rfl rfl rfl ?_
  refine V.iload (r := 24) hC 4 dX9_sinks_22 rfl rfl ?_
  refine V.iconst (r := 25) hC dX9_sinks_24 ki_1 rfl ?_
  refine V.icmp_ne (tgt := 51) (r := 28) hC dX9_sinks_25 (by decide) rfl (fun c3 => ?_) (fun c3 => ?_)
  · rw [if_neg c3] at h
    refine V.pick (lv' := [(0, .inr 154), (1, .inl a0), (2, .inl a1), (4, .inl (M 7 ((0 : Int32) + (M 7 ((274 : Int32) + a0).toNatClampNeg)).toNatClampNeg)), (5, .inl (0 : Int32))]) [0, 1, 2, 4, 5] rfl ?_
    exact v9_sinks_b51  hC hR  _ _ _ _ _ h
  · rw [if_pos c3] at h
    refine V.aload_n (r := 29) hC 0 dX9_sinks_28 rfl rfl ?_
    refine V.iload_n (r := 30) hC 1 dX9_sinks_29 rfl rfl ?_
    refine V.iload_n (r := 31) hC 2 dX9_sinks_30 rfl rfl ?_
    obtain ⟨q4, hq5, h⟩ := Option.bind_eq_some_iff.mp h
    try dsimp only at h
    refine V.invVv (as := [.inl a0, .inl a1]) (st := []) (r := 34) hC (met9_feelsHerd hq5) yv_X9_feelsHerd ml_RX9_235 sh_154 rfl rfl dX9_sinks_31 (by decide) rfl rfl rfl rfl ?_
    refine V.aload_n (r := 35) hC 0 dX9_sinks_34 rfl rfl ?_
    refine V.iload_n (r := 36) hC 1 dX9_sinks_35 rfl rfl ?_
    refine V.aload_n (r := 37) hC 0 dX9_sinks_36 rfl rfl ?_
    refine V.bipush (r := 39) hC dX9_sinks_37 kb_115 rfl ?_
    refine V.iconst (r := 40) hC dX9_sinks_39 ki_0 rfl ?_
    refine V.bipush (r := 42) hC dX9_sinks_40 kb_99 rfl ?_
    obtain ⟨q6, hq7, h⟩ := Option.bind_eq_some_iff.mp h
    try dsimp only at h
    refine V.invVi (as := [.inl (115 : Int32), .inl (0 : Int32), .inl (99 : Int32)]) (st := [.inl a0, .inr 154]) (r := 45) hC (met9_byLaw hq7) yv_X9_byLaw ml_RX9_247 sh_154 rfl rfl dX9_sinks_42 (by decide) rfl rfl rfl rfl ?_
    refine V.iload_n (r := 46) hC 3 dX9_sinks_45 rfl rfl ?_
    obtain ⟨q8, hq9, h⟩ := Option.bind_eq_some_iff.mp h
    try dsimp only at h
    refine V.invVi (as := [.inl a0, .inl (q6.1), .inl a2]) (st := []) (r := 49) hC (met9_loses hq9) yv_X9_loses ml_RX9_271 sh_154 rfl rfl dX9_sinks_46 (by decide) rfl rfl rfl rfl ?_
    refine V.ist (lv' := [(0, .inr 154), (1, .inl a0), (2, .inl a1), (3, .inl a2), (4, .inl (M 7 ((0 : Int32) + (M 7 ((274 : Int32) + a0).toNatClampNeg)).toNatClampNeg)), (5, .inl (q8.1))]) (r := 51) hC dX9_sinks_49 rfl rfl rfl ?_
    refine V.pick (lv' := [(0, .inr 154), (1, .inl a0), (2, .inl a1), (4, .inl (M 7 ((0 : Int32) + (M 7 ((274 : Int32) + a0).toNatClampNeg)).toNatClampNeg)), (5, .inl (q8.1))]) [0, 1, 2, 4, 5] rfl ?_
    exact v9_sinks_b51  hC hR  _ _ _ _ _ h
theorem met9_sinks {R : Int32 × xMem} {a0 a1 a2 : Int32} {M : xMem} (h : g9_sinks a0 a1 a2 M = some R) : xMet yX9_sinks cX9_sinks 6 (some .int) 3 [.inr 154, .inl a0, .inl a1, .inl a2] M (some R.1) R.2 := xMet.ofI (by decide +kernel) (Nat.le_of_ble_eq_true rfl) fun _ hC hR => v9_sinks  hC hR h
def g9_herdGoes_b134 (x1 x2 x4 : Int32) (M : xMem) : Option (Int32 × xMem) :=
Option.bind (g9_feelsHerd x1 x2 M) fun q25 =>
if ((292 : Int32) + x1) < 0 ∨ 331 ≤ ((292 : Int32) + x1).toNatClampNeg then none else
Option.bind (g9_byLaw (102 : Int32) (-99 : Int32) (99 : Int32) q25) fun q28 =>
Option.bind (g9_held ((q25 7 ((292 : Int32) + x1).toNatClampNeg) + (q28.1)) (99 : Int32) q28.2) fun q30 =>
mset (upM q30.2 7 ((292 : Int32) + x1).toNatClampNeg (q30.1)) fun M32 =>
some (x4, M32)
set_option maxHeartbeats 4000000 in
set_option maxRecDepth 20000 in
theorem v9_herdGoes_b134 {G : xG} (hC : xC G cX9_herdGoes 5 RX9 5) {R : Int32 × xMem} (hR : xRI G cX9_herdGoes 5 R) (x1 x2 x4 : Int32) (M : xMem) (h : g9_herdGoes_b134 x1 x2 x4 M = some R) : V G 5 134 [(0, .inr 154), (1, .inl x1), (2, .inl x2), (4, .inl x4)] [] M := by
  unfold g9_herdGoes_b134 at h
  refine V.aload_n (r := 135) hC 0 dX9_herdGoes_134 rfl rfl ?_
  refine V.iload_n (r := 136) hC 1 dX9_herdGoes_135 rfl rfl ?_
  refine V.iload_n (r := 137) hC 2 dX9_herdGoes_136 rfl rfl ?_
  obtain ⟨q25, hq26, h⟩ := Option.bind_eq_some_iff.mp h
  try dsimp only at h
  refine V.invVv (as := [.inl x1, .inl x2]) (st := []) (r := 140) hC (met9_feelsHerd hq26) yv_X9_feelsHerd ml_RX9_235 sh_154 rfl rfl dX9_herdGoes_137 (by decide) rfl rfl rfl rfl ?_
  refine V.aload_n (r := 141) hC 0 dX9_herdGoes_140 rfl rfl ?_
  refine V.getR (k' := 155) (j := 0) (r := 144) hC xcl_9 sh_154 fl_RX9_7 dX9_herdGoes_141 (by decide) rfl rfl ?_
  refine V.sipush (r := 147) hC dX9_herdGoes_144 ks_292 rfl ?_
  refine V.iload_n (r := 148) hC 1 dX9_herdGoes_147 rfl rfl ?_
  refine V.iadd (r := 149) hC dX9_herdGoes_148 rfl ?_
  refine V.aload_n (r := 150) hC 0 dX9_herdGoes_149 rfl rfl ?_
  refine V.getR (k' := 155) (j := 0) (r := 153) hC xcl_9 sh_154 fl_RX9_7 dX9_herdGoes_150 (by decide) rfl rfl ?_
  refine V.sipush (r := 156) hC dX9_herdGoes_153 ks_292 rfl ?_
  refine V.iload_n (r := 157) hC 1 dX9_herdGoes_156 rfl rfl ?_
  refine V.iadd (r := 158) hC dX9_herdGoes_157 rfl ?_
  by_cases c27 : ((292 : Int32) + x1) < 0 ∨ 331 ≤ ((292 : Int32) + x1).toNatClampNeg
  · rw [if_pos c27] at h; cases h
  rw [if_neg c27] at h
  refine V.iald (t := ((292 : Int32) + x1).toNatClampNeg) (r := 159) hC sh_155 dX9_herdGoes_158 c27 (Nat.zero_add _) rfl ?_
  refine V.aload_n (r := 160) hC 0 dX9_herdGoes_159 rfl rfl ?_
  refine V.bipush (r := 162) hC dX9_herdGoes_160 kb_102 rfl ?_
  refine V.bipush (r := 164) hC dX9_herdGoes_162 kb_m99 rfl ?_
  refine V.bipush (r := 166) hC dX9_herdGoes_164 kb_99 rfl ?_
  obtain ⟨q28, hq29, h⟩ := Option.bind_eq_some_iff.mp h
  try dsimp only at h
  refine V.invVi (as := [.inl (102 : Int32), .inl (-99 : Int32), .inl (99 : Int32)]) (st := [.inl (q25 7 ((292 : Int32) + x1).toNatClampNeg), .inl ((292 : Int32) + x1), .inr 155]) (r := 169) hC (met9_byLaw hq29) yv_X9_byLaw ml_RX9_247 sh_154 rfl rfl dX9_herdGoes_166 (by decide) rfl rfl rfl rfl ?_
  refine V.iadd (r := 170) hC dX9_herdGoes_169 rfl ?_
  refine V.bipush (r := 172) hC dX9_herdGoes_170 kb_99 rfl ?_
  obtain ⟨q30, hq31, h⟩ := Option.bind_eq_some_iff.mp h
  try dsimp only at h
  refine V.invSi (as := [.inl ((q25 7 ((292 : Int32) + x1).toNatClampNeg) + (q28.1)), .inl (99 : Int32)]) (st := [.inl ((292 : Int32) + x1), .inr 155]) (r := 175) hC (met9_held hq31) ys_X9_held ml_RX9_274 dX9_herdGoes_172 (by decide) rfl rfl rfl rfl ?_
  rw [mset_eq] at h
  refine V.iast (t := ((292 : Int32) + x1).toNatClampNeg) (r := 176) hC sh_155 dX9_herdGoes_175 c27 (Nat.zero_add _) rfl ?_
  generalize upM q30.2 7 ((292 : Int32) + x1).toNatClampNeg (q30.1) = M32 at h ⊢
  refine V.iload (r := 178) hC 3 dX9_herdGoes_176 rfl rfl ?_
  cases h
  exact hR _ _ dX9_herdGoes_178
def g9_herdGoes_b74 (x1 x2 x3 : Int32) (M : xMem) : Option (Int32 × xMem) :=
Option.bind (g9_isOn x1 M) fun q12 =>
if (q12.1) = 0 then
(some ((0 : Int32), q12.2))
else
(Option.bind (g9_sinks x1 x2 x3 q12.2) fun q15 =>
if ((286 : Int32) + x1) < 0 ∨ 331 ≤ ((286 : Int32) + x1).toNatClampNeg then none else
if (q15.2 7 ((286 : Int32) + x1).toNatClampNeg) = (99 : Int32) then
(Option.bind (g9_feelsHerd x1 x2 q15.2) fun q19 =>
Option.bind (g9_byLaw (120 : Int32) (0 : Int32) (99 : Int32) q19) fun q21 =>
Option.bind (g9_loses x1 (q21.1) x3 q21.2) fun q23 =>
g9_herdGoes_b134 x1 x2 ((q15.1) + (q23.1)) q23.2)
else
(g9_herdGoes_b134 x1 x2 (q15.1) q15.2))
set_option maxHeartbeats 4000000 in
set_option maxRecDepth 20000 in
theorem v9_herdGoes_b74 {G : xG} (hC : xC G cX9_herdGoes 5 RX9 5) {R : Int32 × xMem} (hR : xRI G cX9_herdGoes 5 R) (x1 x2 x3 : Int32) (M : xMem) (h : g9_herdGoes_b74 x1 x2 x3 M = some R) : V G 5 74 [(0, .inr 154), (1, .inl x1), (2, .inl x2), (3, .inl x3)] [] M := by
  unfold g9_herdGoes_b74 at h
  refine V.aload_n (r := 75) hC 0 dX9_herdGoes_74 rfl rfl ?_
  refine V.iload_n (r := 76) hC 1 dX9_herdGoes_75 rfl rfl ?_
  obtain ⟨q12, hq13, h⟩ := Option.bind_eq_some_iff.mp h
  try dsimp only at h
  refine V.invVi (as := [.inl x1]) (st := []) (r := 79) hC (met9_isOn hq13) yv_X9_isOn ml_RX9_85 sh_154 rfl rfl dX9_herdGoes_76 (by decide) rfl rfl rfl rfl ?_
  refine V.if_ne (tgt := 84) (r := 82) hC dX9_herdGoes_79 (by decide) rfl (fun c14 => ?_) (fun c14 => ?_)
  · rw [if_neg c14] at h
    refine V.aload_n (r := 85) hC 0 dX9_herdGoes_84 rfl rfl ?_
    refine V.iload_n (r := 86) hC 1 dX9_herdGoes_85 rfl rfl ?_
    refine V.iload_n (r := 87) hC 2 dX9_herdGoes_86 rfl rfl ?_
    refine V.iload_n (r := 88) hC 3 dX9_herdGoes_87 rfl rfl ?_
    obtain ⟨q15, hq16, h⟩ := Option.bind_eq_some_iff.mp h
    try dsimp only at h
    refine V.invVi (as := [.inl x1, .inl x2, .inl x3]) (st := []) (r := 91) hC (met9_sinks hq16) yv_X9_sinks ml_RX9_286 sh_154 rfl rfl dX9_herdGoes_88 (by decide) rfl rfl rfl rfl ?_
    refine V.ist (lv' := [(0, .inr 154), (1, .inl x1), (2, .inl x2), (3, .inl x3), (4, .inl (q15.1))]) (r := 93) hC dX9_herdGoes_91 rfl rfl rfl ?_
    refine V.aload_n (r := 94) hC 0 dX9_herdGoes_93 rfl rfl ?_
    refine V.getR (k' := 155) (j := 0) (r := 97) hC xcl_9 sh_154 fl_RX9_7 dX9_herdGoes_94 (by decide) rfl rfl ?_
    refine V.sipush (r := 100) hC dX9_herdGoes_97 ks_286 rfl ?_
    refine V.iload_n (r := 101) hC 1 dX9_herdGoes_100 rfl rfl ?_
    refine V.iadd (r := 102) hC dX9_herdGoes_101 rfl ?_
    by_cases c17 : ((286 : Int32) + x1) < 0 ∨ 331 ≤ ((286 : Int32) + x1).toNatClampNeg
    · rw [if_pos c17] at h; cases h
    rw [if_neg c17] at h
    refine V.iald (t := ((286 : Int32) + x1).toNatClampNeg) (r := 103) hC sh_155 dX9_herdGoes_102 c17 (Nat.zero_add _) rfl ?_
    refine V.bipush (r := 105) hC dX9_herdGoes_103 kb_99 rfl ?_
    refine V.icmp_ne (tgt := 134) (r := 108) hC dX9_herdGoes_105 (by decide) rfl (fun c18 => ?_) (fun c18 => ?_)
    · rw [if_neg c18] at h
      refine V.pick (lv' := [(0, .inr 154), (1, .inl x1), (2, .inl x2), (4, .inl (q15.1))]) [0, 1, 2, 4] rfl ?_
      exact v9_herdGoes_b134  hC hR  _ _ _ _ h
    · rw [if_pos c18] at h
      refine V.aload_n (r := 109) hC 0 dX9_herdGoes_108 rfl rfl ?_
      refine V.iload_n (r := 110) hC 1 dX9_herdGoes_109 rfl rfl ?_
      refine V.iload_n (r := 111) hC 2 dX9_herdGoes_110 rfl rfl ?_
      obtain ⟨q19, hq20, h⟩ := Option.bind_eq_some_iff.mp h
      try dsimp only at h
      refine V.invVv (as := [.inl x1, .inl x2]) (st := []) (r := 114) hC (met9_feelsHerd hq20) yv_X9_feelsHerd ml_RX9_235 sh_154 rfl rfl dX9_herdGoes_111 (by decide) rfl rfl rfl rfl ?_
      refine V.iload (r := 116) hC 4 dX9_herdGoes_114 rfl rfl ?_
      refine V.aload_n (r := 117) hC 0 dX9_herdGoes_116 rfl rfl ?_
      refine V.iload_n (r := 118) hC 1 dX9_herdGoes_117 rfl rfl ?_
      refine V.aload_n (r := 119) hC 0 dX9_herdGoes_118 rfl rfl ?_
      refine V.bipush (r := 121) hC dX9_herdGoes_119 kb_120 rfl ?_
      refine V.iconst (r := 122) hC dX9_herdGoes_121 ki_0 rfl ?_
      refine V.bipush (r := 124) hC dX9_herdGoes_122 kb_99 rfl ?_
      obtain ⟨q21, hq22, h⟩ := Option.bind_eq_some_iff.mp h
      try dsimp only at h
      refine V.invVi (as := [.inl (120 : Int32), .inl (0 : Int32), .inl (99 : Int32)]) (st := [.inl x1, .inr 154, .inl (q15.1)]) (r := 127) hC (met9_byLaw hq22) yv_X9_byLaw ml_RX9_247 sh_154 rfl rfl dX9_herdGoes_124 (by decide) rfl rfl rfl rfl ?_
      refine V.iload_n (r := 128) hC 3 dX9_herdGoes_127 rfl rfl ?_
      obtain ⟨q23, hq24, h⟩ := Option.bind_eq_some_iff.mp h
      try dsimp only at h
      refine V.invVi (as := [.inl x1, .inl (q21.1), .inl x3]) (st := [.inl (q15.1)]) (r := 131) hC (met9_loses hq24) yv_X9_loses ml_RX9_271 sh_154 rfl rfl dX9_herdGoes_128 (by decide) rfl rfl rfl rfl ?_
      refine V.iadd (r := 132) hC dX9_herdGoes_131 rfl ?_
      refine V.ist (lv' := [(0, .inr 154), (1, .inl x1), (2, .inl x2), (3, .inl x3), (4, .inl ((q15.1) + (q23.1)))]) (r := 134) hC dX9_herdGoes_132 rfl rfl rfl ?_
      refine V.pick (lv' := [(0, .inr 154), (1, .inl x1), (2, .inl x2), (4, .inl ((q15.1) + (q23.1)))]) [0, 1, 2, 4] rfl ?_
      exact v9_herdGoes_b134  hC hR  _ _ _ _ h
  · rw [if_pos c14] at h
    refine V.iconst (r := 83) hC dX9_herdGoes_82 ki_0 rfl ?_
    cases h
    exact hR _ _ dX9_herdGoes_83
def g9_herdGoes_b51 (x1 x2 x3 : Int32) (M : xMem) : Option (Int32 × xMem) :=
if x3 = (-1 : Int32) then
(Option.bind (g9_goesOn x1 M) fun q34 =>
g9_herdGoes_b74 x1 x2 x3 q34)
else
(Option.bind (g9_lampAt x3 M) fun q36 =>
Option.bind (g9_goesTo x1 (q36.1) q36.2) fun q38 =>
g9_herdGoes_b74 x1 x2 x3 q38)
set_option maxHeartbeats 4000000 in
set_option maxRecDepth 20000 in
theorem v9_herdGoes_b51 {G : xG} (hC : xC G cX9_herdGoes 5 RX9 5) {R : Int32 × xMem} (hR : xRI G cX9_herdGoes 5 R) (x1 x2 x3 : Int32) (M : xMem) (h : g9_herdGoes_b51 x1 x2 x3 M = some R) : V G 5 51 [(0, .inr 154), (1, .inl x1), (2, .inl x2), (3, .inl x3)] [] M := by
  unfold g9_herdGoes_b51 at h
  refine V.iload_n (r := 52) hC 3 dX9_herdGoes_51 rfl rfl ?_
  refine V.iconst (r := 53) hC dX9_herdGoes_52 ki_m1 rfl ?_
  refine V.icmp_eq (tgt := 69) (r := 56) hC dX9_herdGoes_53 (by decide) rfl (fun c33 => ?_) (fun c33 => ?_)
  · rw [if_pos c33] at h
    refine V.aload_n (r := 70) hC 0 dX9_herdGoes_69 rfl rfl ?_
    refine V.iload_n (r := 71) hC 1 dX9_herdGoes_70 rfl rfl ?_
    obtain ⟨q34, hq35, h⟩ := Option.bind_eq_some_iff.mp h
    try dsimp only at h
    refine V.invVv (as := [.inl x1]) (st := []) (r := 74) hC (met9_goesOn hq35) yv_X9_goesOn ml_RX9_283 sh_154 rfl rfl dX9_herdGoes_71 (by decide) rfl rfl rfl rfl ?_
    exact v9_herdGoes_b74  hC hR  _ _ _ _ h
  · rw [if_neg c33] at h
    refine V.aload_n (r := 57) hC 0 dX9_herdGoes_56 rfl rfl ?_
    refine V.iload_n (r := 58) hC 1 dX9_herdGoes_57 rfl rfl ?_
    refine V.aload_n (r := 59) hC 0 dX9_herdGoes_58 rfl rfl ?_
    refine V.iload_n (r := 60) hC 3 dX9_herdGoes_59 rfl rfl ?_
    obtain ⟨q36, hq37, h⟩ := Option.bind_eq_some_iff.mp h
    try dsimp only at h
    refine V.invVi (as := [.inl x3]) (st := [.inl x1, .inr 154]) (r := 63) hC (met9_lampAt hq37) yv_X9_lampAt ml_RX9_241 sh_154 rfl rfl dX9_herdGoes_60 (by decide) rfl rfl rfl rfl ?_
    obtain ⟨q38, hq39, h⟩ := Option.bind_eq_some_iff.mp h
    try dsimp only at h
    refine V.invVv (as := [.inl x1, .inl (q36.1)]) (st := []) (r := 66) hC (met9_goesTo hq39) yv_X9_goesTo ml_RX9_280 sh_154 rfl rfl dX9_herdGoes_63 (by decide) rfl rfl rfl rfl ?_
    refine V.goto (tgt := 74) hC dX9_herdGoes_66 (by decide) ?_
    exact v9_herdGoes_b74  hC hR  _ _ _ _ h
def g9_herdGoes (a0 a1 : Int32) (M : xMem) : Option (Int32 × xMem) :=
Option.bind (g9_targetOf a0 M) fun q1 =>
Option.bind (g9_feelsHerd a0 a1 q1.2) fun q3 =>
if ((292 : Int32) + a0) < 0 ∨ 331 ≤ ((292 : Int32) + a0).toNatClampNeg then none else
if (q3 7 ((292 : Int32) + a0).toNatClampNeg) < (50 : Int32) then
(g9_herdGoes_b51 a0 a1 (q1.1) q3)
else
(Option.bind (g9_byLaw (122 : Int32) (0 : Int32) (10 : Int32) q3) fun q7 =>
if (q7.1) ≤ a1 then
(g9_herdGoes_b51 a0 a1 (q1.1) q7.2)
else
(Option.bind (g9_stampedes a0 a1 q7.2) fun q10 =>
g9_herdGoes_b74 a0 a1 (-1 : Int32) q10))
set_option maxHeartbeats 4000000 in
set_option maxRecDepth 20000 in
theorem v9_herdGoes {G : xG} (hC : xC G cX9_herdGoes 5 RX9 5) {R : Int32 × xMem} (hR : xRI G cX9_herdGoes 5 R) {a0 a1 : Int32} {M : xMem} (h : g9_herdGoes a0 a1 M = some R) : V G 5 0 [(0, .inr 154), (1, .inl a0), (2, .inl a1)] [] M := by
  unfold g9_herdGoes at h
  refine V.aload_n (r := 1) hC 0 dX9_herdGoes_0 rfl rfl ?_
  refine V.iload_n (r := 2) hC 1 dX9_herdGoes_1 rfl rfl ?_
  obtain ⟨q1, hq2, h⟩ := Option.bind_eq_some_iff.mp h
  try dsimp only at h
  refine V.invVi (as := [.inl a0]) (st := []) (r := 5) hC (met9_targetOf hq2) yv_X9_targetOf ml_RX9_259 sh_154 rfl rfl dX9_herdGoes_2 (by decide) rfl rfl rfl rfl ?_
  refine V.ist_n (lv' := [(0, .inr 154), (1, .inl a0), (2, .inl a1), (3, .inl (q1.1))]) (r := 6) hC dX9_herdGoes_5 rfl rfl rfl ?_
  refine V.aload_n (r := 7) hC 0 dX9_herdGoes_6 rfl rfl ?_
  refine V.iload_n (r := 8) hC 1 dX9_herdGoes_7 rfl rfl ?_
  refine V.iload_n (r := 9) hC 2 dX9_herdGoes_8 rfl rfl ?_
  obtain ⟨q3, hq4, h⟩ := Option.bind_eq_some_iff.mp h
  try dsimp only at h
  refine V.invVv (as := [.inl a0, .inl a1]) (st := []) (r := 12) hC (met9_feelsHerd hq4) yv_X9_feelsHerd ml_RX9_235 sh_154 rfl rfl dX9_herdGoes_9 (by decide) rfl rfl rfl rfl ?_
  refine V.aload_n (r := 13) hC 0 dX9_herdGoes_12 rfl rfl ?_
  refine V.getR (k' := 155) (j := 0) (r := 16) hC xcl_9 sh_154 fl_RX9_7 dX9_herdGoes_13 (by decide) rfl rfl ?_
  refine V.sipush (r := 19) hC dX9_herdGoes_16 ks_292 rfl ?_
  refine V.iload_n (r := 20) hC 1 dX9_herdGoes_19 rfl rfl ?_
  refine V.iadd (r := 21) hC dX9_herdGoes_20 rfl ?_
  by_cases c5 : ((292 : Int32) + a0) < 0 ∨ 331 ≤ ((292 : Int32) + a0).toNatClampNeg
  · rw [if_pos c5] at h; cases h
  rw [if_neg c5] at h
  refine V.iald (t := ((292 : Int32) + a0).toNatClampNeg) (r := 22) hC sh_155 dX9_herdGoes_21 c5 (Nat.zero_add _) rfl ?_
  refine V.bipush (r := 24) hC dX9_herdGoes_22 kb_50 rfl ?_
  refine V.icmp_lt (tgt := 51) (r := 27) hC dX9_herdGoes_24 (by decide) rfl (fun c6 => ?_) (fun c6 => ?_)
  · rw [if_pos c6] at h
    exact v9_herdGoes_b51  hC hR  _ _ _ _ h
  · rw [if_neg c6] at h
    refine V.iload_n (r := 28) hC 2 dX9_herdGoes_27 rfl rfl ?_
    refine V.aload_n (r := 29) hC 0 dX9_herdGoes_28 rfl rfl ?_
    refine V.bipush (r := 31) hC dX9_herdGoes_29 kb_122 rfl ?_
    refine V.iconst (r := 32) hC dX9_herdGoes_31 ki_0 rfl ?_
    refine V.bipush (r := 34) hC dX9_herdGoes_32 kb_10 rfl ?_
    obtain ⟨q7, hq8, h⟩ := Option.bind_eq_some_iff.mp h
    try dsimp only at h
    refine V.invVi (as := [.inl (122 : Int32), .inl (0 : Int32), .inl (10 : Int32)]) (st := [.inl a1]) (r := 37) hC (met9_byLaw hq8) yv_X9_byLaw ml_RX9_247 sh_154 rfl rfl dX9_herdGoes_34 (by decide) rfl rfl rfl rfl ?_
    refine V.icmp_ge (tgt := 51) (r := 40) hC dX9_herdGoes_37 (by decide) rfl (fun c9 => ?_) (fun c9 => ?_)
    · rw [if_pos c9] at h
      exact v9_herdGoes_b51  hC hR  _ _ _ _ h
    · rw [if_neg c9] at h
      refine V.iconst (r := 41) hC dX9_herdGoes_40 ki_m1 rfl ?_
      refine V.ist_n (lv' := [(0, .inr 154), (1, .inl a0), (2, .inl a1), (3, .inl (-1 : Int32))]) (r := 42) hC dX9_herdGoes_41 rfl rfl rfl ?_
      refine V.aload_n (r := 43) hC 0 dX9_herdGoes_42 rfl rfl ?_
      refine V.iload_n (r := 44) hC 1 dX9_herdGoes_43 rfl rfl ?_
      refine V.iload_n (r := 45) hC 2 dX9_herdGoes_44 rfl rfl ?_
      obtain ⟨q10, hq11, h⟩ := Option.bind_eq_some_iff.mp h
      try dsimp only at h
      refine V.invVv (as := [.inl a0, .inl a1]) (st := []) (r := 48) hC (met9_stampedes hq11) yv_X9_stampedes ml_RX9_277 sh_154 rfl rfl dX9_herdGoes_45 (by decide) rfl rfl rfl rfl ?_
      refine V.goto (tgt := 74) hC dX9_herdGoes_48 (by decide) ?_
      exact v9_herdGoes_b74  hC hR  _ _ _ _ h
theorem met9_herdGoes {R : Int32 × xMem} {a0 a1 : Int32} {M : xMem} (h : g9_herdGoes a0 a1 M = some R) : xMet yX9_herdGoes cX9_herdGoes 5 (some .int) 5 [.inr 154, .inl a0, .inl a1] M (some R.1) R.2 := xMet.ofI (by decide +kernel) (Nat.le_of_ble_eq_true rfl) fun _ hC hR => v9_herdGoes  hC hR h
def g9_passes_b27 (k4 : Int32 → Int32 → Int32 → xMem → Option (Int32 × xMem)) (x1 x2 x3 : Int32) (M : xMem) : Option (Int32 × xMem) :=
k4 x1 x2 (x3 + (1 : Int32)) M
set_option maxHeartbeats 4000000 in
set_option maxRecDepth 20000 in
theorem v9_passes_b27 {G : xG} (hC : xC G cX9_passes 4 RX9 6) {R : Int32 × xMem} (hR : xRI G cX9_passes 4 R) {k4 : Int32 → Int32 → Int32 → xMem → Option (Int32 × xMem)} (hk4 : ∀ (y1 y2 y3 : Int32) (N : xMem), k4 y1 y2 y3 N = some R → V G 4 4 [(0, .inr 154), (1, .inl y1), (2, .inl y2), (3, .inl y3)] [] N) (x1 x2 x3 : Int32) (M : xMem) (h : g9_passes_b27 k4 x1 x2 x3 M = some R) : V G 4 27 [(0, .inr 154), (1, .inl x1), (2, .inl x2), (3, .inl x3)] [] M := by
  unfold g9_passes_b27 at h
  refine V.inc (lv' := [(0, .inr 154), (1, .inl x1), (2, .inl x2), (3, .inl (x3 + (1 : Int32)))]) (r := 30) hC 3 dX9_passes_27 rfl ki_1 rfl rfl rfl ?_
  refine V.goto (tgt := 4) hC dX9_passes_30 (by decide) ?_
  exact hk4 _ _ _ _ h
def g9_passes_b68 : Nat → Int32 → Int32 → xMem → Option (Int32 × xMem)
  | 0, _, _, _ => none
  | n + 1, x2, x3, M => 
    (if (9 : Int32) ≤ x3 then
    (mset (upM M 7 328 (0 : Int32)) fun M10 =>
    mset (upM M10 7 329 (0 : Int32)) fun M11 =>
    mset (upM M11 7 327 ((M11 7 327) + (1 : Int32))) fun M12 =>
    some (x2, M12))
    else
    (if ((232 : Int32) + x3) < 0 ∨ 331 ≤ ((232 : Int32) + x3).toNatClampNeg then none else
    Option.bind (g9_held ((M 7 ((232 : Int32) + x3).toNatClampNeg) - (1 : Int32)) (99 : Int32) M) fun q14 =>
    mset (upM q14.2 7 ((232 : Int32) + x3).toNatClampNeg (q14.1)) fun M16 =>
    if ((244 : Int32) + x3) < 0 ∨ 331 ≤ ((244 : Int32) + x3).toNatClampNeg then none else
    Option.bind (g9_held ((M16 7 ((244 : Int32) + x3).toNatClampNeg) - (1 : Int32)) (99 : Int32) M16) fun q18 =>
    mset (upM q18.2 7 ((244 : Int32) + x3).toNatClampNeg (q18.1)) fun M20 =>
    g9_passes_b68 n x2 (x3 + (1 : Int32)) M20))
set_option maxHeartbeats 4000000 in
set_option maxRecDepth 20000 in
theorem v9_passes_b68 {G : xG} (hC : xC G cX9_passes 4 RX9 6) {R : Int32 × xMem} (hR : xRI G cX9_passes 4 R) : ∀ (n : Nat) (x2 x3 : Int32) (M : xMem), g9_passes_b68 n x2 x3 M = some R → V G 4 68 [(0, .inr 154), (2, .inl x2), (3, .inl x3)] [] M := by
  intro n
  induction n with
  | zero => intro x2 x3 M h; rw [g9_passes_b68] at h; cases h
  | succ n ih =>
    intro x2 x3 M h
    rw [g9_passes_b68] at h
    refine V.iload_n (r := 69) hC 2 dX9_passes_68 rfl rfl ?_
    refine V.bipush (r := 71) hC dX9_passes_69 kb_9 rfl ?_
    refine V.icmp_ge (tgt := 134) (r := 74) hC dX9_passes_71 (by decide) rfl (fun c9 => ?_) (fun c9 => ?_)
    · rw [if_pos c9] at h
      refine V.aload_n (r := 135) hC 0 dX9_passes_134 rfl rfl ?_
      refine V.getR (k' := 155) (j := 0) (r := 138) hC xcl_9 sh_154 fl_RX9_7 dX9_passes_135 (by decide) rfl rfl ?_
      refine V.sipush (r := 141) hC dX9_passes_138 ks_328 rfl ?_
      refine V.iconst (r := 142) hC dX9_passes_141 ki_0 rfl ?_
      rw [mset_eq] at h
      refine V.iast (t := 328) (r := 143) hC sh_155 dX9_passes_142 (by decide) (by decide) rfl ?_
      generalize upM M 7 328 (0 : Int32) = M10 at h ⊢
      refine V.aload_n (r := 144) hC 0 dX9_passes_143 rfl rfl ?_
      refine V.getR (k' := 155) (j := 0) (r := 147) hC xcl_9 sh_154 fl_RX9_7 dX9_passes_144 (by decide) rfl rfl ?_
      refine V.sipush (r := 150) hC dX9_passes_147 ks_329 rfl ?_
      refine V.iconst (r := 151) hC dX9_passes_150 ki_0 rfl ?_
      rw [mset_eq] at h
      refine V.iast (t := 329) (r := 152) hC sh_155 dX9_passes_151 (by decide) (by decide) rfl ?_
      generalize upM M10 7 329 (0 : Int32) = M11 at h ⊢
      refine V.aload_n (r := 153) hC 0 dX9_passes_152 rfl rfl ?_
      refine V.getR (k' := 155) (j := 0) (r := 156) hC xcl_9 sh_154 fl_RX9_7 dX9_passes_153 (by decide) rfl rfl ?_
      refine V.sipush (r := 159) hC dX9_passes_156 ks_327 rfl ?_
      refine V.aload_n (r := 160) hC 0 dX9_passes_159 rfl rfl ?_
      refine V.getR (k' := 155) (j := 0) (r := 163) hC xcl_9 sh_154 fl_RX9_7 dX9_passes_160 (by decide) rfl rfl ?_
      refine V.sipush (r := 166) hC dX9_passes_163 ks_327 rfl ?_
      refine V.iald (t := 327) (r := 167) hC sh_155 dX9_passes_166 (by decide) (by decide) rfl ?_
      refine V.iconst (r := 168) hC dX9_passes_167 ki_1 rfl ?_
      refine V.iadd (r := 169) hC dX9_passes_168 rfl ?_
      rw [mset_eq] at h
      refine V.iast (t := 327) (r := 170) hC sh_155 dX9_passes_169 (by decide) (by decide) rfl ?_
      generalize upM M11 7 327 ((M11 7 327) + (1 : Int32)) = M12 at h ⊢
      refine V.iload_n (r := 171) hC 1 dX9_passes_170 rfl rfl ?_
      cases h
      exact hR _ _ dX9_passes_171
    · rw [if_neg c9] at h
      refine V.aload_n (r := 75) hC 0 dX9_passes_74 rfl rfl ?_
      refine V.getR (k' := 155) (j := 0) (r := 78) hC xcl_9 sh_154 fl_RX9_7 dX9_passes_75 (by decide) rfl rfl ?_
      refine V.sipush (r := 81) hC dX9_passes_78 ks_232 rfl ?_
      refine V.iload_n (r := 82) hC 2 dX9_passes_81 rfl rfl ?_
      refine V.iadd (r := 83) hC dX9_passes_82 rfl ?_
      refine V.aload_n (r := 84) hC 0 dX9_passes_83 rfl rfl ?_
      refine V.getR (k' := 155) (j := 0) (r := 87) hC xcl_9 sh_154 fl_RX9_7 dX9_passes_84 (by decide) rfl rfl ?_
      refine V.sipush (r := 90) hC dX9_passes_87 ks_232 rfl ?_
      refine V.iload_n (r := 91) hC 2 dX9_passes_90 rfl rfl ?_
      refine V.iadd (r := 92) hC dX9_passes_91 rfl ?_
      by_cases c13 : ((232 : Int32) + x3) < 0 ∨ 331 ≤ ((232 : Int32) + x3).toNatClampNeg
      · rw [if_pos c13] at h; cases h
      rw [if_neg c13] at h
      refine V.iald (t := ((232 : Int32) + x3).toNatClampNeg) (r := 93) hC sh_155 dX9_passes_92 c13 (Nat.zero_add _) rfl ?_
      refine V.iconst (r := 94) hC dX9_passes_93 ki_1 rfl ?_
      refine V.isub (r := 95) hC dX9_passes_94 rfl ?_
      refine V.bipush (r := 97) hC dX9_passes_95 kb_99 rfl ?_
      obtain ⟨q14, hq15, h⟩ := Option.bind_eq_some_iff.mp h
      try dsimp only at h
      refine V.invSi (as := [.inl ((M 7 ((232 : Int32) + x3).toNatClampNeg) - (1 : Int32)), .inl (99 : Int32)]) (st := [.inl ((232 : Int32) + x3), .inr 155]) (r := 100) hC (met9_held hq15) ys_X9_held ml_RX9_274 dX9_passes_97 (by decide) rfl rfl rfl rfl ?_
      rw [mset_eq] at h
      refine V.iast (t := ((232 : Int32) + x3).toNatClampNeg) (r := 101) hC sh_155 dX9_passes_100 c13 (Nat.zero_add _) rfl ?_
      generalize upM q14.2 7 ((232 : Int32) + x3).toNatClampNeg (q14.1) = M16 at h ⊢
      refine V.aload_n (r := 102) hC 0 dX9_passes_101 rfl rfl ?_
      refine V.getR (k' := 155) (j := 0) (r := 105) hC xcl_9 sh_154 fl_RX9_7 dX9_passes_102 (by decide) rfl rfl ?_
      refine V.sipush (r := 108) hC dX9_passes_105 ks_244 rfl ?_
      refine V.iload_n (r := 109) hC 2 dX9_passes_108 rfl rfl ?_
      refine V.iadd (r := 110) hC dX9_passes_109 rfl ?_
      refine V.aload_n (r := 111) hC 0 dX9_passes_110 rfl rfl ?_
      refine V.getR (k' := 155) (j := 0) (r := 114) hC xcl_9 sh_154 fl_RX9_7 dX9_passes_111 (by decide) rfl rfl ?_
      refine V.sipush (r := 117) hC dX9_passes_114 ks_244 rfl ?_
      refine V.iload_n (r := 118) hC 2 dX9_passes_117 rfl rfl ?_
      refine V.iadd (r := 119) hC dX9_passes_118 rfl ?_
      by_cases c17 : ((244 : Int32) + x3) < 0 ∨ 331 ≤ ((244 : Int32) + x3).toNatClampNeg
      · rw [if_pos c17] at h; cases h
      rw [if_neg c17] at h
      refine V.iald (t := ((244 : Int32) + x3).toNatClampNeg) (r := 120) hC sh_155 dX9_passes_119 c17 (Nat.zero_add _) rfl ?_
      refine V.iconst (r := 121) hC dX9_passes_120 ki_1 rfl ?_
      refine V.isub (r := 122) hC dX9_passes_121 rfl ?_
      refine V.bipush (r := 124) hC dX9_passes_122 kb_99 rfl ?_
      obtain ⟨q18, hq19, h⟩ := Option.bind_eq_some_iff.mp h
      try dsimp only at h
      refine V.invSi (as := [.inl ((M16 7 ((244 : Int32) + x3).toNatClampNeg) - (1 : Int32)), .inl (99 : Int32)]) (st := [.inl ((244 : Int32) + x3), .inr 155]) (r := 127) hC (met9_held hq19) ys_X9_held ml_RX9_274 dX9_passes_124 (by decide) rfl rfl rfl rfl ?_
      rw [mset_eq] at h
      refine V.iast (t := ((244 : Int32) + x3).toNatClampNeg) (r := 128) hC sh_155 dX9_passes_127 c17 (Nat.zero_add _) rfl ?_
      generalize upM q18.2 7 ((244 : Int32) + x3).toNatClampNeg (q18.1) = M20 at h ⊢
      refine V.inc (lv' := [(0, .inr 154), (2, .inl x2), (3, .inl (x3 + (1 : Int32)))]) (r := 131) hC 2 dX9_passes_128 rfl ki_1 rfl rfl rfl ?_
      refine V.goto (tgt := 68) hC dX9_passes_131 (by decide) ?_
      exact ih _ _ _ h
def g9_passes_b4 : Nat → Int32 → Int32 → Int32 → xMem → Option (Int32 × xMem)
  | 0, _, _, _, _ => none
  | n + 1, x1, x2, x3, M => 
    (if (6 : Int32) ≤ x3 then
    (mset (upM M 7 328 ((M 7 328) + (1 : Int32))) fun M2 =>
    if (8 : Int32) ≤ (M2 7 328) then
    (g9_passes_b68 5000 x2 (0 : Int32) M2)
    else
    (some (x2, M2)))
    else
    (Option.bind (g9_isOn x3 M) fun q4 =>
    if (q4.1) = 0 then
    (g9_passes_b27 (g9_passes_b4 n) x1 x2 x3 q4.2)
    else
    (Option.bind (g9_herdGoes x3 x1 q4.2) fun q7 =>
    g9_passes_b27 (g9_passes_b4 n) x1 (x2 + (q7.1)) x3 q7.2)))
set_option maxHeartbeats 4000000 in
set_option maxRecDepth 20000 in
theorem v9_passes_b4 {G : xG} (hC : xC G cX9_passes 4 RX9 6) {R : Int32 × xMem} (hR : xRI G cX9_passes 4 R) : ∀ (n : Nat) (x1 x2 x3 : Int32) (M : xMem), g9_passes_b4 n x1 x2 x3 M = some R → V G 4 4 [(0, .inr 154), (1, .inl x1), (2, .inl x2), (3, .inl x3)] [] M := by
  intro n
  induction n with
  | zero => intro x1 x2 x3 M h; rw [g9_passes_b4] at h; cases h
  | succ n ih =>
    intro x1 x2 x3 M h
    rw [g9_passes_b4] at h
    refine V.iload_n (r := 5) hC 3 dX9_passes_4 rfl rfl ?_
    refine V.bipush (r := 7) hC dX9_passes_5 kb_6 rfl ?_
    refine V.icmp_ge (tgt := 33) (r := 10) hC dX9_passes_7 (by decide) rfl (fun c1 => ?_) (fun c1 => ?_)
    · rw [if_pos c1] at h
      refine V.aload_n (r := 34) hC 0 dX9_passes_33 rfl rfl ?_
      refine V.getR (k' := 155) (j := 0) (r := 37) hC xcl_9 sh_154 fl_RX9_7 dX9_passes_34 (by decide) rfl rfl ?_
      refine V.sipush (r := 40) hC dX9_passes_37 ks_328 rfl ?_
      refine V.aload_n (r := 41) hC 0 dX9_passes_40 rfl rfl ?_
      refine V.getR (k' := 155) (j := 0) (r := 44) hC xcl_9 sh_154 fl_RX9_7 dX9_passes_41 (by decide) rfl rfl ?_
      refine V.sipush (r := 47) hC dX9_passes_44 ks_328 rfl ?_
      refine V.iald (t := 328) (r := 48) hC sh_155 dX9_passes_47 (by decide) (by decide) rfl ?_
      refine V.iconst (r := 49) hC dX9_passes_48 ki_1 rfl ?_
      refine V.iadd (r := 50) hC dX9_passes_49 rfl ?_
      rw [mset_eq] at h
      refine V.iast (t := 328) (r := 51) hC sh_155 dX9_passes_50 (by decide) (by decide) rfl ?_
      generalize upM M 7 328 ((M 7 328) + (1 : Int32)) = M2 at h ⊢
      refine V.aload_n (r := 52) hC 0 dX9_passes_51 rfl rfl ?_
      refine V.getR (k' := 155) (j := 0) (r := 55) hC xcl_9 sh_154 fl_RX9_7 dX9_passes_52 (by decide) rfl rfl ?_
      refine V.sipush (r := 58) hC dX9_passes_55 ks_328 rfl ?_
      refine V.iald (t := 328) (r := 59) hC sh_155 dX9_passes_58 (by decide) (by decide) rfl ?_
      refine V.bipush (r := 61) hC dX9_passes_59 kb_8 rfl ?_
      refine V.icmp_ge (tgt := 66) (r := 64) hC dX9_passes_61 (by decide) rfl (fun c3 => ?_) (fun c3 => ?_)
      · rw [if_pos c3] at h
        refine V.iconst (r := 67) hC dX9_passes_66 ki_0 rfl ?_
        refine V.ist_n (lv' := [(0, .inr 154), (1, .inl x1), (2, .inl x2), (3, .inl (0 : Int32))]) (r := 68) hC dX9_passes_67 rfl rfl rfl ?_
        refine V.pick (lv' := [(0, .inr 154), (2, .inl x2), (3, .inl (0 : Int32))]) [0, 2, 3] rfl ?_
        exact v9_passes_b68  hC hR  5000 _ _ _ h
      · rw [if_neg c3] at h
        refine V.iload_n (r := 65) hC 2 dX9_passes_64 rfl rfl ?_
        cases h
        exact hR _ _ dX9_passes_65
    · rw [if_neg c1] at h
      refine V.aload_n (r := 11) hC 0 dX9_passes_10 rfl rfl ?_
      refine V.iload_n (r := 12) hC 3 dX9_passes_11 rfl rfl ?_
      obtain ⟨q4, hq5, h⟩ := Option.bind_eq_some_iff.mp h
      try dsimp only at h
      refine V.invVi (as := [.inl x3]) (st := []) (r := 15) hC (met9_isOn hq5) yv_X9_isOn ml_RX9_85 sh_154 rfl rfl dX9_passes_12 (by decide) rfl rfl rfl rfl ?_
      refine V.if_eq (tgt := 27) (r := 18) hC dX9_passes_15 (by decide) rfl (fun c6 => ?_) (fun c6 => ?_)
      · rw [if_pos c6] at h
        exact v9_passes_b27  hC hR ih _ _ _ _ h
      · rw [if_neg c6] at h
        refine V.iload_n (r := 19) hC 2 dX9_passes_18 rfl rfl ?_
        refine V.aload_n (r := 20) hC 0 dX9_passes_19 rfl rfl ?_
        refine V.iload_n (r := 21) hC 3 dX9_passes_20 rfl rfl ?_
        refine V.iload_n (r := 22) hC 1 dX9_passes_21 rfl rfl ?_
        obtain ⟨q7, hq8, h⟩ := Option.bind_eq_some_iff.mp h
        try dsimp only at h
        refine V.invVi (as := [.inl x3, .inl x1]) (st := [.inl x2]) (r := 25) hC (met9_herdGoes hq8) yv_X9_herdGoes ml_RX9_289 sh_154 rfl rfl dX9_passes_22 (by decide) rfl rfl rfl rfl ?_
        refine V.iadd (r := 26) hC dX9_passes_25 rfl ?_
        refine V.ist_n (lv' := [(0, .inr 154), (1, .inl x1), (2, .inl (x2 + (q7.1))), (3, .inl x3)]) (r := 27) hC dX9_passes_26 rfl rfl rfl ?_
        exact v9_passes_b27  hC hR ih _ _ _ _ h
def g9_passes (a0 : Int32) (M : xMem) : Option (Int32 × xMem) :=
g9_passes_b4 5000 a0 (0 : Int32) (0 : Int32) M
set_option maxHeartbeats 4000000 in
set_option maxRecDepth 20000 in
theorem v9_passes {G : xG} (hC : xC G cX9_passes 4 RX9 6) {R : Int32 × xMem} (hR : xRI G cX9_passes 4 R) {a0 : Int32} {M : xMem} (h : g9_passes a0 M = some R) : V G 4 0 [(0, .inr 154), (1, .inl a0)] [] M := by
  unfold g9_passes at h
  refine V.iconst (r := 1) hC dX9_passes_0 ki_0 rfl ?_
  refine V.ist_n (lv' := [(0, .inr 154), (1, .inl a0), (2, .inl (0 : Int32))]) (r := 2) hC dX9_passes_1 rfl rfl rfl ?_
  refine V.iconst (r := 3) hC dX9_passes_2 ki_0 rfl ?_
  refine V.ist_n (lv' := [(0, .inr 154), (1, .inl a0), (2, .inl (0 : Int32)), (3, .inl (0 : Int32))]) (r := 4) hC dX9_passes_3 rfl rfl rfl ?_
  exact v9_passes_b4  hC hR  5000 _ _ _ _ h
theorem met9_passes {R : Int32 × xMem} {a0 : Int32} {M : xMem} (h : g9_passes a0 M = some R) : xMet yX9_passes cX9_passes 4 (some .int) 6 [.inr 154, .inl a0] M (some R.1) R.2 := xMet.ofI (by decide +kernel) (Nat.le_of_ble_eq_true rfl) fun _ hC hR => v9_passes  hC hR h
def g9_draws (M : xMem) : Option (Int32 × xMem) :=
mset (upM M 7 330 ((((25173 : Int32) * (M 7 330)) + (13849 : Int32)) - (((25173 : Int32) * (M 7 330)) + (13849 : Int32)) / (65536 : Int32) * (65536 : Int32))) fun M1 =>
some ((M1 7 330) - (M1 7 330) / (10 : Int32) * (10 : Int32), M1)
set_option maxHeartbeats 4000000 in
set_option maxRecDepth 20000 in
theorem v9_draws {G : xG} (hC : xC G cX9_draws 1 RX9 0) {R : Int32 × xMem} (hR : xRI G cX9_draws 1 R) {M : xMem} (h : g9_draws M = some R) : V G 1 0 [(0, .inr 154)] [] M := by
  unfold g9_draws at h
  refine V.aload_n (r := 1) hC 0 dX9_draws_0 rfl rfl ?_
  refine V.getR (k' := 155) (j := 0) (r := 4) hC xcl_9 sh_154 fl_RX9_7 dX9_draws_1 (by decide) rfl rfl ?_
  refine V.sipush (r := 7) hC dX9_draws_4 ks_330 rfl ?_
  refine V.sipush (r := 10) hC dX9_draws_7 ks_25173 rfl ?_
  refine V.aload_n (r := 11) hC 0 dX9_draws_10 rfl rfl ?_
  refine V.getR (k' := 155) (j := 0) (r := 14) hC xcl_9 sh_154 fl_RX9_7 dX9_draws_11 (by decide) rfl rfl ?_
  refine V.sipush (r := 17) hC dX9_draws_14 ks_330 rfl ?_
  refine V.iald (t := 330) (r := 18) hC sh_155 dX9_draws_17 (by decide) (by decide) rfl ?_
  refine V.imul (r := 19) hC dX9_draws_18 rfl ?_
  refine V.sipush (r := 22) hC dX9_draws_19 ks_13849 rfl ?_
  refine V.iadd (r := 23) hC dX9_draws_22 rfl ?_
  refine V.ldcw (r := 26) hC dX9_draws_23 co_RX9_292 rfl ?_
  refine V.irem (r := 27) hC dX9_draws_26 (by decide) rfl ?_
  rw [mset_eq] at h
  refine V.iast (t := 330) (r := 28) hC sh_155 dX9_draws_27 (by decide) (by decide) rfl ?_
  generalize upM M 7 330 ((((25173 : Int32) * (M 7 330)) + (13849 : Int32)) - (((25173 : Int32) * (M 7 330)) + (13849 : Int32)) / (65536 : Int32) * (65536 : Int32)) = M1 at h ⊢
  refine V.aload_n (r := 29) hC 0 dX9_draws_28 rfl rfl ?_
  refine V.getR (k' := 155) (j := 0) (r := 32) hC xcl_9 sh_154 fl_RX9_7 dX9_draws_29 (by decide) rfl rfl ?_
  refine V.sipush (r := 35) hC dX9_draws_32 ks_330 rfl ?_
  refine V.iald (t := 330) (r := 36) hC sh_155 dX9_draws_35 (by decide) (by decide) rfl ?_
  refine V.bipush (r := 38) hC dX9_draws_36 kb_10 rfl ?_
  refine V.irem (r := 39) hC dX9_draws_38 (by decide) rfl ?_
  cases h
  exact hR _ _ dX9_draws_39
theorem met9_draws {R : Int32 × xMem} {M : xMem} (h : g9_draws M = some R) : xMet yX9_draws cX9_draws 1 (some .int) 0 [.inr 154] M (some R.1) R.2 := xMet.ofI (by decide +kernel) (Nat.le_of_ble_eq_true rfl) fun _ hC hR => v9_draws  hC hR h
def g9_runs_b4 : Nat → Int32 → Int32 → Int32 → xMem → Option (Int32 × xMem)
  | 0, _, _, _, _ => none
  | n + 1, x1, x2, x3, M => 
    (if x1 ≤ x3 then
    (some (x2, M))
    else
    (Option.bind (g9_draws M) fun q2 =>
    Option.bind (g9_passes (q2.1) q2.2) fun q4 =>
    g9_runs_b4 n x1 (x2 + (q4.1)) (x3 + (1 : Int32)) q4.2))
set_option maxHeartbeats 4000000 in
set_option maxRecDepth 20000 in
theorem v9_runs_b4 {G : xG} (hC : xC G cX9_runs 4 RX9 7) {R : Int32 × xMem} (hR : xRI G cX9_runs 4 R) : ∀ (n : Nat) (x1 x2 x3 : Int32) (M : xMem), g9_runs_b4 n x1 x2 x3 M = some R → V G 4 4 [(0, .inr 154), (1, .inl x1), (2, .inl x2), (3, .inl x3)] [] M := by
  intro n
  induction n with
  | zero => intro x1 x2 x3 M h; rw [g9_runs_b4] at h; cases h
  | succ n ih =>
    intro x1 x2 x3 M h
    rw [g9_runs_b4] at h
    refine V.iload_n (r := 5) hC 3 dX9_runs_4 rfl rfl ?_
    refine V.iload_n (r := 6) hC 1 dX9_runs_5 rfl rfl ?_
    refine V.icmp_ge (tgt := 26) (r := 9) hC dX9_runs_6 (by decide) rfl (fun c1 => ?_) (fun c1 => ?_)
    · rw [if_pos c1] at h
      refine V.iload_n (r := 27) hC 2 dX9_runs_26 rfl rfl ?_
      cases h
      exact hR _ _ dX9_runs_27
    · rw [if_neg c1] at h
      refine V.iload_n (r := 10) hC 2 dX9_runs_9 rfl rfl ?_
      refine V.aload_n (r := 11) hC 0 dX9_runs_10 rfl rfl ?_
      refine V.aload_n (r := 12) hC 0 dX9_runs_11 rfl rfl ?_
      obtain ⟨q2, hq3, h⟩ := Option.bind_eq_some_iff.mp h
      try dsimp only at h
      refine V.invVi (as := []) (st := [.inr 154, .inl x2]) (r := 15) hC (met9_draws hq3) yv_X9_draws ml_RX9_293 sh_154 rfl rfl dX9_runs_12 (by decide) rfl rfl rfl rfl ?_
      obtain ⟨q4, hq5, h⟩ := Option.bind_eq_some_iff.mp h
      try dsimp only at h
      refine V.invVi (as := [.inl (q2.1)]) (st := [.inl x2]) (r := 18) hC (met9_passes hq5) yv_X9_passes ml_RX9_296 sh_154 rfl rfl dX9_runs_15 (by decide) rfl rfl rfl rfl ?_
      refine V.iadd (r := 19) hC dX9_runs_18 rfl ?_
      refine V.ist_n (lv' := [(0, .inr 154), (1, .inl x1), (2, .inl (x2 + (q4.1))), (3, .inl x3)]) (r := 20) hC dX9_runs_19 rfl rfl rfl ?_
      refine V.inc (lv' := [(0, .inr 154), (1, .inl x1), (2, .inl (x2 + (q4.1))), (3, .inl (x3 + (1 : Int32)))]) (r := 23) hC 3 dX9_runs_20 rfl ki_1 rfl rfl rfl ?_
      refine V.goto (tgt := 4) hC dX9_runs_23 (by decide) ?_
      exact ih _ _ _ _ h
def g9_runs (a0 : Int32) (M : xMem) : Option (Int32 × xMem) :=
g9_runs_b4 5000 a0 (0 : Int32) (0 : Int32) M
set_option maxHeartbeats 4000000 in
set_option maxRecDepth 20000 in
theorem v9_runs {G : xG} (hC : xC G cX9_runs 4 RX9 7) {R : Int32 × xMem} (hR : xRI G cX9_runs 4 R) {a0 : Int32} {M : xMem} (h : g9_runs a0 M = some R) : V G 4 0 [(0, .inr 154), (1, .inl a0)] [] M := by
  unfold g9_runs at h
  refine V.iconst (r := 1) hC dX9_runs_0 ki_0 rfl ?_
  refine V.ist_n (lv' := [(0, .inr 154), (1, .inl a0), (2, .inl (0 : Int32))]) (r := 2) hC dX9_runs_1 rfl rfl rfl ?_
  refine V.iconst (r := 3) hC dX9_runs_2 ki_0 rfl ?_
  refine V.ist_n (lv' := [(0, .inr 154), (1, .inl a0), (2, .inl (0 : Int32)), (3, .inl (0 : Int32))]) (r := 4) hC dX9_runs_3 rfl rfl rfl ?_
  exact v9_runs_b4  hC hR  5000 _ _ _ _ h
theorem met9_runs {R : Int32 × xMem} {a0 : Int32} {M : xMem} (h : g9_runs a0 M = some R) : xMet yX9_runs cX9_runs 4 (some .int) 7 [.inr 154, .inl a0] M (some R.1) R.2 := xMet.ofI (by decide +kernel) (Nat.le_of_ble_eq_true rfl) fun _ hC hR => v9_runs  hC hR h
def g9_hours (a0 : Int32) (M : xMem) : Option (Int32 × xMem) :=
Option.bind (g9_in a0 (1 : Int32) (24 : Int32) M) fun q1 =>
if (q1.1) = 0 then
(some ((-1 : Int32), q1.2))
else
(Option.bind (g9_runs a0 q1.2) fun q4 =>
some (q4.1, q4.2))
set_option maxHeartbeats 4000000 in
set_option maxRecDepth 20000 in
theorem v9_hours {G : xG} (hC : xC G cX9_hours 2 RX9 8) {R : Int32 × xMem} (hR : xRI G cX9_hours 2 R) {a0 : Int32} {M : xMem} (h : g9_hours a0 M = some R) : V G 2 0 [(0, .inr 154), (1, .inl a0)] [] M := by
  unfold g9_hours at h
  refine V.iload_n (r := 1) hC 1 dX9_hours_0 rfl rfl ?_
  refine V.iconst (r := 2) hC dX9_hours_1 ki_1 rfl ?_
  refine V.bipush (r := 4) hC dX9_hours_2 kb_24 rfl ?_
  obtain ⟨q1, hq2, h⟩ := Option.bind_eq_some_iff.mp h
  try dsimp only at h
  refine V.invSi (as := [.inl a0, .inl (1 : Int32), .inl (24 : Int32)]) (st := []) (r := 7) hC (met9_in hq2) ys_X9_in ml_RX9_92 dX9_hours_4 (by decide) rfl rfl rfl rfl ?_
  refine V.if_eq (tgt := 18) (r := 10) hC dX9_hours_7 (by decide) rfl (fun c3 => ?_) (fun c3 => ?_)
  · rw [if_pos c3] at h
    refine V.iconst (r := 19) hC dX9_hours_18 ki_m1 rfl ?_
    cases h
    exact hR _ _ dX9_hours_19
  · rw [if_neg c3] at h
    refine V.aload_n (r := 11) hC 0 dX9_hours_10 rfl rfl ?_
    refine V.iload_n (r := 12) hC 1 dX9_hours_11 rfl rfl ?_
    obtain ⟨q4, hq5, h⟩ := Option.bind_eq_some_iff.mp h
    try dsimp only at h
    refine V.invVi (as := [.inl a0]) (st := []) (r := 15) hC (met9_runs hq5) yv_X9_runs ml_RX9_299 sh_154 rfl rfl dX9_hours_12 (by decide) rfl rfl rfl rfl ?_
    refine V.goto (tgt := 19) hC dX9_hours_15 (by decide) ?_
    cases h
    exact hR _ _ dX9_hours_19
theorem met9_hours {R : Int32 × xMem} {a0 : Int32} {M : xMem} (h : g9_hours a0 M = some R) : xMet yX9_hours cX9_hours 2 (some .int) 8 [.inr 154, .inl a0] M (some R.1) R.2 := xMet.ofI (by decide +kernel) (Nat.le_of_ble_eq_true rfl) fun _ hC hR => v9_hours  hC hR h
def g9_hour (a0 : Int32) (M : xMem) : Option (Int32 × xMem) :=
Option.bind (g9_in a0 (0 : Int32) (9 : Int32) M) fun q1 =>
if (q1.1) = 0 then
(some ((-1 : Int32), q1.2))
else
(Option.bind (g9_passes a0 q1.2) fun q4 =>
some (q4.1, q4.2))
set_option maxHeartbeats 4000000 in
set_option maxRecDepth 20000 in
theorem v9_hour {G : xG} (hC : xC G cX9_hour 2 RX9 7) {R : Int32 × xMem} (hR : xRI G cX9_hour 2 R) {a0 : Int32} {M : xMem} (h : g9_hour a0 M = some R) : V G 2 0 [(0, .inr 154), (1, .inl a0)] [] M := by
  unfold g9_hour at h
  refine V.iload_n (r := 1) hC 1 dX9_hour_0 rfl rfl ?_
  refine V.iconst (r := 2) hC dX9_hour_1 ki_0 rfl ?_
  refine V.bipush (r := 4) hC dX9_hour_2 kb_9 rfl ?_
  obtain ⟨q1, hq2, h⟩ := Option.bind_eq_some_iff.mp h
  try dsimp only at h
  refine V.invSi (as := [.inl a0, .inl (0 : Int32), .inl (9 : Int32)]) (st := []) (r := 7) hC (met9_in hq2) ys_X9_in ml_RX9_92 dX9_hour_4 (by decide) rfl rfl rfl rfl ?_
  refine V.if_eq (tgt := 18) (r := 10) hC dX9_hour_7 (by decide) rfl (fun c3 => ?_) (fun c3 => ?_)
  · rw [if_pos c3] at h
    refine V.iconst (r := 19) hC dX9_hour_18 ki_m1 rfl ?_
    cases h
    exact hR _ _ dX9_hour_19
  · rw [if_neg c3] at h
    refine V.aload_n (r := 11) hC 0 dX9_hour_10 rfl rfl ?_
    refine V.iload_n (r := 12) hC 1 dX9_hour_11 rfl rfl ?_
    obtain ⟨q4, hq5, h⟩ := Option.bind_eq_some_iff.mp h
    try dsimp only at h
    refine V.invVi (as := [.inl a0]) (st := []) (r := 15) hC (met9_passes hq5) yv_X9_passes ml_RX9_296 sh_154 rfl rfl dX9_hour_12 (by decide) rfl rfl rfl rfl ?_
    refine V.goto (tgt := 19) hC dX9_hour_15 (by decide) ?_
    cases h
    exact hR _ _ dX9_hour_19
theorem met9_hour {R : Int32 × xMem} {a0 : Int32} {M : xMem} (h : g9_hour a0 M = some R) : xMet yX9_hour cX9_hour 2 (some .int) 7 [.inr 154, .inl a0] M (some R.1) R.2 := xMet.ofI (by decide +kernel) (Nat.le_of_ble_eq_true rfl) fun _ hC hR => v9_hour  hC hR h
def g9_living_b33 (k4 : Int32 → Int32 → xMem → Option (Int32 × xMem)) (x2 s0 s1 : Int32) (M : xMem) : Option (Int32 × xMem) :=
k4 (s0 + s1) (x2 + (1 : Int32)) M
set_option maxHeartbeats 4000000 in
set_option maxRecDepth 20000 in
theorem v9_living_b33 {G : xG} (hC : xC G cX9_living 3 RX9 1) {R : Int32 × xMem} (hR : xRI G cX9_living 3 R) {k4 : Int32 → Int32 → xMem → Option (Int32 × xMem)} (hk4 : ∀ (y1 y2 : Int32) (N : xMem), k4 y1 y2 N = some R → V G 3 4 [(0, .inr 154), (1, .inl y1), (2, .inl y2)] [] N) (x2 s0 s1 : Int32) (M : xMem) (h : g9_living_b33 k4 x2 s0 s1 M = some R) : V G 3 33 [(0, .inr 154), (2, .inl x2)] [.inl s1, .inl s0] M := by
  unfold g9_living_b33 at h
  refine V.iadd (r := 34) hC dX9_living_33 rfl ?_
  refine V.ist_n (lv' := [(0, .inr 154), (1, .inl (s0 + s1)), (2, .inl x2)]) (r := 35) hC dX9_living_34 rfl rfl rfl ?_
  refine V.inc (lv' := [(0, .inr 154), (1, .inl (s0 + s1)), (2, .inl (x2 + (1 : Int32)))]) (r := 38) hC 2 dX9_living_35 rfl ki_1 rfl rfl rfl ?_
  refine V.goto (tgt := 4) hC dX9_living_38 (by decide) ?_
  exact hk4 _ _ _ h
def g9_living_b4 : Nat → Int32 → Int32 → xMem → Option (Int32 × xMem)
  | 0, _, _, _ => none
  | n + 1, x1, x2, M => 
    (if (6 : Int32) ≤ x2 then
    (some (x1, M))
    else
    (Option.bind (g9_isTold x2 M) fun q2 =>
    if (q2.1) = 0 then
    (g9_living_b33 (g9_living_b4 n) x2 x1 (0 : Int32) q2.2)
    else
    (if ((280 : Int32) + x2) < 0 ∨ 331 ≤ ((280 : Int32) + x2).toNatClampNeg then none else
    g9_living_b33 (g9_living_b4 n) x2 x1 (q2.2 7 ((280 : Int32) + x2).toNatClampNeg) q2.2)))
set_option maxHeartbeats 4000000 in
set_option maxRecDepth 20000 in
theorem v9_living_b4 {G : xG} (hC : xC G cX9_living 3 RX9 1) {R : Int32 × xMem} (hR : xRI G cX9_living 3 R) : ∀ (n : Nat) (x1 x2 : Int32) (M : xMem), g9_living_b4 n x1 x2 M = some R → V G 3 4 [(0, .inr 154), (1, .inl x1), (2, .inl x2)] [] M := by
  intro n
  induction n with
  | zero => intro x1 x2 M h; rw [g9_living_b4] at h; cases h
  | succ n ih =>
    intro x1 x2 M h
    rw [g9_living_b4] at h
    refine V.iload_n (r := 5) hC 2 dX9_living_4 rfl rfl ?_
    refine V.bipush (r := 7) hC dX9_living_5 kb_6 rfl ?_
    refine V.icmp_ge (tgt := 41) (r := 10) hC dX9_living_7 (by decide) rfl (fun c1 => ?_) (fun c1 => ?_)
    · rw [if_pos c1] at h
      refine V.iload_n (r := 42) hC 1 dX9_living_41 rfl rfl ?_
      cases h
      exact hR _ _ dX9_living_42
    · rw [if_neg c1] at h
      refine V.iload_n (r := 11) hC 1 dX9_living_10 rfl rfl ?_
      refine V.aload_n (r := 12) hC 0 dX9_living_11 rfl rfl ?_
      refine V.iload_n (r := 13) hC 2 dX9_living_12 rfl rfl ?_
      obtain ⟨q2, hq3, h⟩ := Option.bind_eq_some_iff.mp h
      try dsimp only at h
      refine V.invVi (as := [.inl x2]) (st := [.inl x1]) (r := 16) hC (met9_isTold hq3) yv_X9_isTold ml_RX9_81 sh_154 rfl rfl dX9_living_13 (by decide) rfl rfl rfl rfl ?_
      refine V.if_eq (tgt := 32) (r := 19) hC dX9_living_16 (by decide) rfl (fun c4 => ?_) (fun c4 => ?_)
      · rw [if_pos c4] at h
        refine V.iconst (r := 33) hC dX9_living_32 ki_0 rfl ?_
        refine V.pick (lv' := [(0, .inr 154), (2, .inl x2)]) [0, 2] rfl ?_
        exact v9_living_b33  hC hR ih _ _ _ _ h
      · rw [if_neg c4] at h
        refine V.aload_n (r := 20) hC 0 dX9_living_19 rfl rfl ?_
        refine V.getR (k' := 155) (j := 0) (r := 23) hC xcl_9 sh_154 fl_RX9_7 dX9_living_20 (by decide) rfl rfl ?_
        refine V.sipush (r := 26) hC dX9_living_23 ks_280 rfl ?_
        refine V.iload_n (r := 27) hC 2 dX9_living_26 rfl rfl ?_
        refine V.iadd (r := 28) hC dX9_living_27 rfl ?_
        by_cases c5 : ((280 : Int32) + x2) < 0 ∨ 331 ≤ ((280 : Int32) + x2).toNatClampNeg
        · rw [if_pos c5] at h; cases h
        rw [if_neg c5] at h
        refine V.iald (t := ((280 : Int32) + x2).toNatClampNeg) (r := 29) hC sh_155 dX9_living_28 c5 (Nat.zero_add _) rfl ?_
        refine V.goto (tgt := 33) hC dX9_living_29 (by decide) ?_
        refine V.pick (lv' := [(0, .inr 154), (2, .inl x2)]) [0, 2] rfl ?_
        exact v9_living_b33  hC hR ih _ _ _ _ h
def g9_living (M : xMem) : Option (Int32 × xMem) :=
g9_living_b4 5000 (0 : Int32) (0 : Int32) M
set_option maxHeartbeats 4000000 in
set_option maxRecDepth 20000 in
theorem v9_living {G : xG} (hC : xC G cX9_living 3 RX9 1) {R : Int32 × xMem} (hR : xRI G cX9_living 3 R) {M : xMem} (h : g9_living M = some R) : V G 3 0 [(0, .inr 154)] [] M := by
  unfold g9_living at h
  refine V.iconst (r := 1) hC dX9_living_0 ki_0 rfl ?_
  refine V.ist_n (lv' := [(0, .inr 154), (1, .inl (0 : Int32))]) (r := 2) hC dX9_living_1 rfl rfl rfl ?_
  refine V.iconst (r := 3) hC dX9_living_2 ki_0 rfl ?_
  refine V.ist_n (lv' := [(0, .inr 154), (1, .inl (0 : Int32)), (2, .inl (0 : Int32))]) (r := 4) hC dX9_living_3 rfl rfl rfl ?_
  exact v9_living_b4  hC hR  5000 _ _ _ h
theorem met9_living {R : Int32 × xMem} {M : xMem} (h : g9_living M = some R) : xMet yX9_living cX9_living 3 (some .int) 1 [.inr 154] M (some R.1) R.2 := xMet.ofI (by decide +kernel) (Nat.le_of_ble_eq_true rfl) fun _ hC hR => v9_living  hC hR h
def g9_through_b49 (k4 : Int32 → Int32 → xMem → Option (Int32 × xMem)) (x2 s0 s1 : Int32) (M : xMem) : Option (Int32 × xMem) :=
k4 (s0 + s1) (x2 + (1 : Int32)) M
set_option maxHeartbeats 4000000 in
set_option maxRecDepth 20000 in
theorem v9_through_b49 {G : xG} (hC : xC G cX9_through 3 RX9 1) {R : Int32 × xMem} (hR : xRI G cX9_through 3 R) {k4 : Int32 → Int32 → xMem → Option (Int32 × xMem)} (hk4 : ∀ (y1 y2 : Int32) (N : xMem), k4 y1 y2 N = some R → V G 3 4 [(0, .inr 154), (1, .inl y1), (2, .inl y2)] [] N) (x2 s0 s1 : Int32) (M : xMem) (h : g9_through_b49 k4 x2 s0 s1 M = some R) : V G 3 49 [(0, .inr 154), (2, .inl x2)] [.inl s1, .inl s0] M := by
  unfold g9_through_b49 at h
  refine V.iadd (r := 50) hC dX9_through_49 rfl ?_
  refine V.ist_n (lv' := [(0, .inr 154), (1, .inl (s0 + s1)), (2, .inl x2)]) (r := 51) hC dX9_through_50 rfl rfl rfl ?_
  refine V.inc (lv' := [(0, .inr 154), (1, .inl (s0 + s1)), (2, .inl (x2 + (1 : Int32)))]) (r := 54) hC 2 dX9_through_51 rfl ki_1 rfl rfl rfl ?_
  refine V.goto (tgt := 4) hC dX9_through_54 (by decide) ?_
  exact hk4 _ _ _ h
def g9_through_b48 (k4 : Int32 → Int32 → xMem → Option (Int32 × xMem)) (x2 s0 : Int32) (M : xMem) : Option (Int32 × xMem) :=
g9_through_b49 k4 x2 s0 (0 : Int32) M
set_option maxHeartbeats 4000000 in
set_option maxRecDepth 20000 in
theorem v9_through_b48 {G : xG} (hC : xC G cX9_through 3 RX9 1) {R : Int32 × xMem} (hR : xRI G cX9_through 3 R) {k4 : Int32 → Int32 → xMem → Option (Int32 × xMem)} (hk4 : ∀ (y1 y2 : Int32) (N : xMem), k4 y1 y2 N = some R → V G 3 4 [(0, .inr 154), (1, .inl y1), (2, .inl y2)] [] N) (x2 s0 : Int32) (M : xMem) (h : g9_through_b48 k4 x2 s0 M = some R) : V G 3 48 [(0, .inr 154), (2, .inl x2)] [.inl s0] M := by
  unfold g9_through_b48 at h
  refine V.iconst (r := 49) hC dX9_through_48 ki_0 rfl ?_
  exact v9_through_b49  hC hR hk4 _ _ _ _ h
def g9_through_b4 : Nat → Int32 → Int32 → xMem → Option (Int32 × xMem)
  | 0, _, _, _ => none
  | n + 1, x1, x2, M => 
    (if (6 : Int32) ≤ x2 then
    (some (x1, M))
    else
    (Option.bind (g9_isTold x2 M) fun q2 =>
    if (q2.1) = 0 then
    (g9_through_b48 (g9_through_b4 n) x2 x1 q2.2)
    else
    (if ((274 : Int32) + x2) < 0 ∨ 331 ≤ ((274 : Int32) + x2).toNatClampNeg then none else
    if (q2.2 7 ((274 : Int32) + x2).toNatClampNeg) = (196 : Int32) then
    (if ((280 : Int32) + x2) < 0 ∨ 331 ≤ ((280 : Int32) + x2).toNatClampNeg then none else
    g9_through_b49 (g9_through_b4 n) x2 x1 (q2.2 7 ((280 : Int32) + x2).toNatClampNeg) q2.2)
    else
    (g9_through_b48 (g9_through_b4 n) x2 x1 q2.2))))
set_option maxHeartbeats 4000000 in
set_option maxRecDepth 20000 in
theorem v9_through_b4 {G : xG} (hC : xC G cX9_through 3 RX9 1) {R : Int32 × xMem} (hR : xRI G cX9_through 3 R) : ∀ (n : Nat) (x1 x2 : Int32) (M : xMem), g9_through_b4 n x1 x2 M = some R → V G 3 4 [(0, .inr 154), (1, .inl x1), (2, .inl x2)] [] M := by
  intro n
  induction n with
  | zero => intro x1 x2 M h; rw [g9_through_b4] at h; cases h
  | succ n ih =>
    intro x1 x2 M h
    rw [g9_through_b4] at h
    refine V.iload_n (r := 5) hC 2 dX9_through_4 rfl rfl ?_
    refine V.bipush (r := 7) hC dX9_through_5 kb_6 rfl ?_
    refine V.icmp_ge (tgt := 57) (r := 10) hC dX9_through_7 (by decide) rfl (fun c1 => ?_) (fun c1 => ?_)
    · rw [if_pos c1] at h
      refine V.iload_n (r := 58) hC 1 dX9_through_57 rfl rfl ?_
      cases h
      exact hR _ _ dX9_through_58
    · rw [if_neg c1] at h
      refine V.iload_n (r := 11) hC 1 dX9_through_10 rfl rfl ?_
      refine V.aload_n (r := 12) hC 0 dX9_through_11 rfl rfl ?_
      refine V.iload_n (r := 13) hC 2 dX9_through_12 rfl rfl ?_
      obtain ⟨q2, hq3, h⟩ := Option.bind_eq_some_iff.mp h
      try dsimp only at h
      refine V.invVi (as := [.inl x2]) (st := [.inl x1]) (r := 16) hC (met9_isTold hq3) yv_X9_isTold ml_RX9_81 sh_154 rfl rfl dX9_through_13 (by decide) rfl rfl rfl rfl ?_
      refine V.if_eq (tgt := 48) (r := 19) hC dX9_through_16 (by decide) rfl (fun c4 => ?_) (fun c4 => ?_)
      · rw [if_pos c4] at h
        refine V.pick (lv' := [(0, .inr 154), (2, .inl x2)]) [0, 2] rfl ?_
        exact v9_through_b48  hC hR ih _ _ _ h
      · rw [if_neg c4] at h
        refine V.aload_n (r := 20) hC 0 dX9_through_19 rfl rfl ?_
        refine V.getR (k' := 155) (j := 0) (r := 23) hC xcl_9 sh_154 fl_RX9_7 dX9_through_20 (by decide) rfl rfl ?_
        refine V.sipush (r := 26) hC dX9_through_23 ks_274 rfl ?_
        refine V.iload_n (r := 27) hC 2 dX9_through_26 rfl rfl ?_
        refine V.iadd (r := 28) hC dX9_through_27 rfl ?_
        by_cases c5 : ((274 : Int32) + x2) < 0 ∨ 331 ≤ ((274 : Int32) + x2).toNatClampNeg
        · rw [if_pos c5] at h; cases h
        rw [if_neg c5] at h
        refine V.iald (t := ((274 : Int32) + x2).toNatClampNeg) (r := 29) hC sh_155 dX9_through_28 c5 (Nat.zero_add _) rfl ?_
        refine V.sipush (r := 32) hC dX9_through_29 ks_196 rfl ?_
        refine V.icmp_ne (tgt := 48) (r := 35) hC dX9_through_32 (by decide) rfl (fun c6 => ?_) (fun c6 => ?_)
        · rw [if_neg c6] at h
          refine V.pick (lv' := [(0, .inr 154), (2, .inl x2)]) [0, 2] rfl ?_
          exact v9_through_b48  hC hR ih _ _ _ h
        · rw [if_pos c6] at h
          refine V.aload_n (r := 36) hC 0 dX9_through_35 rfl rfl ?_
          refine V.getR (k' := 155) (j := 0) (r := 39) hC xcl_9 sh_154 fl_RX9_7 dX9_through_36 (by decide) rfl rfl ?_
          refine V.sipush (r := 42) hC dX9_through_39 ks_280 rfl ?_
          refine V.iload_n (r := 43) hC 2 dX9_through_42 rfl rfl ?_
          refine V.iadd (r := 44) hC dX9_through_43 rfl ?_
          by_cases c7 : ((280 : Int32) + x2) < 0 ∨ 331 ≤ ((280 : Int32) + x2).toNatClampNeg
          · rw [if_pos c7] at h; cases h
          rw [if_neg c7] at h
          refine V.iald (t := ((280 : Int32) + x2).toNatClampNeg) (r := 45) hC sh_155 dX9_through_44 c7 (Nat.zero_add _) rfl ?_
          refine V.goto (tgt := 49) hC dX9_through_45 (by decide) ?_
          refine V.pick (lv' := [(0, .inr 154), (2, .inl x2)]) [0, 2] rfl ?_
          exact v9_through_b49  hC hR ih _ _ _ _ h
def g9_through (M : xMem) : Option (Int32 × xMem) :=
g9_through_b4 5000 (0 : Int32) (0 : Int32) M
set_option maxHeartbeats 4000000 in
set_option maxRecDepth 20000 in
theorem v9_through {G : xG} (hC : xC G cX9_through 3 RX9 1) {R : Int32 × xMem} (hR : xRI G cX9_through 3 R) {M : xMem} (h : g9_through M = some R) : V G 3 0 [(0, .inr 154)] [] M := by
  unfold g9_through at h
  refine V.iconst (r := 1) hC dX9_through_0 ki_0 rfl ?_
  refine V.ist_n (lv' := [(0, .inr 154), (1, .inl (0 : Int32))]) (r := 2) hC dX9_through_1 rfl rfl rfl ?_
  refine V.iconst (r := 3) hC dX9_through_2 ki_0 rfl ?_
  refine V.ist_n (lv' := [(0, .inr 154), (1, .inl (0 : Int32)), (2, .inl (0 : Int32))]) (r := 4) hC dX9_through_3 rfl rfl rfl ?_
  exact v9_through_b4  hC hR  5000 _ _ _ h
theorem met9_through {R : Int32 × xMem} {M : xMem} (h : g9_through M = some R) : xMet yX9_through cX9_through 3 (some .int) 1 [.inr 154] M (some R.1) R.2 := xMet.ofI (by decide +kernel) (Nat.le_of_ble_eq_true rfl) fun _ hC hR => v9_through  hC hR h
def g9_copies_155_156_b2 : Nat → Int32 → xMem → Option (xMem)
  | 0, _, _ => none
  | n + 1, x2, M => 
    (if (331 : Int32) ≤ x2 then
    (some M)
    else
    (if x2 < 0 ∨ 331 ≤ x2.toNatClampNeg then none else
    mset (upM M 8 x2.toNatClampNeg (M 7 x2.toNatClampNeg)) fun M3 =>
    g9_copies_155_156_b2 n (x2 + (1 : Int32)) M3))
set_option maxHeartbeats 4000000 in
set_option maxRecDepth 20000 in
theorem v9_copies_155_156_b2 {G : xG} (hC : xC G cX9_copies 3 RX9 0) {R : xMem} (hR : xRV G cX9_copies 3 R) : ∀ (n : Nat) (x2 : Int32) (M : xMem), g9_copies_155_156_b2 n x2 M = some R → V G 3 2 [(0, .inr 155), (1, .inr 156), (2, .inl x2)] [] M := by
  intro n
  induction n with
  | zero => intro x2 M h; rw [g9_copies_155_156_b2] at h; cases h
  | succ n ih =>
    intro x2 M h
    rw [g9_copies_155_156_b2] at h
    refine V.iload_n (r := 3) hC 2 dX9_copies_2 rfl rfl ?_
    refine V.sipush (r := 6) hC dX9_copies_3 ks_331 rfl ?_
    refine V.icmp_ge (tgt := 21) (r := 9) hC dX9_copies_6 (by decide) rfl (fun c1 => ?_) (fun c1 => ?_)
    · rw [if_pos c1] at h
      cases h
      exact hR _ _ dX9_copies_21
    · rw [if_neg c1] at h
      refine V.aload_n (r := 10) hC 1 dX9_copies_9 rfl rfl ?_
      refine V.iload_n (r := 11) hC 2 dX9_copies_10 rfl rfl ?_
      refine V.aload_n (r := 12) hC 0 dX9_copies_11 rfl rfl ?_
      refine V.iload_n (r := 13) hC 2 dX9_copies_12 rfl rfl ?_
      by_cases c2 : x2 < 0 ∨ 331 ≤ x2.toNatClampNeg
      · rw [if_pos c2] at h; cases h
      rw [if_neg c2] at h
      refine V.iald (t := x2.toNatClampNeg) (r := 14) hC sh_155 dX9_copies_13 c2 (Nat.zero_add _) rfl ?_
      rw [mset_eq] at h
      refine V.iast (t := x2.toNatClampNeg) (r := 15) hC sh_156 dX9_copies_14 c2 (Nat.zero_add _) rfl ?_
      generalize upM M 8 x2.toNatClampNeg (M 7 x2.toNatClampNeg) = M3 at h ⊢
      refine V.inc (lv' := [(0, .inr 155), (1, .inr 156), (2, .inl (x2 + (1 : Int32)))]) (r := 18) hC 2 dX9_copies_15 rfl ki_1 rfl rfl rfl ?_
      refine V.goto (tgt := 2) hC dX9_copies_18 (by decide) ?_
      exact ih _ _ h
def g9_copies_155_156 (M : xMem) : Option (xMem) :=
g9_copies_155_156_b2 5000 (0 : Int32) M
set_option maxHeartbeats 4000000 in
set_option maxRecDepth 20000 in
theorem v9_copies_155_156 {G : xG} (hC : xC G cX9_copies 3 RX9 0) {R : xMem} (hR : xRV G cX9_copies 3 R) {M : xMem} (h : g9_copies_155_156 M = some R) : V G 3 0 [(0, .inr 155), (1, .inr 156)] [] M := by
  unfold g9_copies_155_156 at h
  refine V.iconst (r := 1) hC dX9_copies_0 ki_0 rfl ?_
  refine V.ist_n (lv' := [(0, .inr 155), (1, .inr 156), (2, .inl (0 : Int32))]) (r := 2) hC dX9_copies_1 rfl rfl rfl ?_
  exact v9_copies_155_156_b2  hC hR  5000 _ _ h
theorem met9_copies_155_156 {R : xMem} {M : xMem} (h : g9_copies_155_156 M = some R) : xMet yX9_copies cX9_copies 3 none 0 [.inr 155, .inr 156] M none R := xMet.ofV (by decide +kernel) (Nat.le_of_ble_eq_true rfl) fun _ hC hR => v9_copies_155_156  hC hR h
def g9_begins (M : xMem) : Option (xMem) :=
Option.bind (g9_copies_155_156 M) fun q1 =>
some q1
set_option maxHeartbeats 4000000 in
set_option maxRecDepth 20000 in
theorem v9_begins {G : xG} (hC : xC G cX9_begins 1 RX9 1) {R : xMem} (hR : xRV G cX9_begins 1 R) {M : xMem} (h : g9_begins M = some R) : V G 1 0 [(0, .inr 154)] [] M := by
  unfold g9_begins at h
  refine V.aload_n (r := 1) hC 0 dX9_begins_0 rfl rfl ?_
  refine V.getR (k' := 155) (j := 0) (r := 4) hC xcl_9 sh_154 fl_RX9_7 dX9_begins_1 (by decide) rfl rfl ?_
  refine V.aload_n (r := 5) hC 0 dX9_begins_4 rfl rfl ?_
  refine V.getR (k' := 156) (j := 1) (r := 8) hC xcl_9 sh_154 fl_RX9_13 dX9_begins_5 (by decide) rfl rfl ?_
  obtain ⟨q1, hq2, h⟩ := Option.bind_eq_some_iff.mp h
  try dsimp only at h
  refine V.invSv (as := [.inr 155, .inr 156]) (st := []) (r := 11) hC (met9_copies_155_156 hq2) ys_X9_copies ml_RX9_302 dX9_begins_8 (by decide) rfl rfl rfl rfl ?_
  cases h
  exact hR _ _ dX9_begins_11
theorem met9_begins {R : xMem} {M : xMem} (h : g9_begins M = some R) : xMet yX9_begins cX9_begins 1 none 1 [.inr 154] M none R := xMet.ofV (by decide +kernel) (Nat.le_of_ble_eq_true rfl) fun _ hC hR => v9_begins  hC hR h
def g9_copies_156_155_b2 : Nat → Int32 → xMem → Option (xMem)
  | 0, _, _ => none
  | n + 1, x2, M => 
    (if (331 : Int32) ≤ x2 then
    (some M)
    else
    (if x2 < 0 ∨ 331 ≤ x2.toNatClampNeg then none else
    mset (upM M 7 x2.toNatClampNeg (M 8 x2.toNatClampNeg)) fun M3 =>
    g9_copies_156_155_b2 n (x2 + (1 : Int32)) M3))
set_option maxHeartbeats 4000000 in
set_option maxRecDepth 20000 in
theorem v9_copies_156_155_b2 {G : xG} (hC : xC G cX9_copies 3 RX9 0) {R : xMem} (hR : xRV G cX9_copies 3 R) : ∀ (n : Nat) (x2 : Int32) (M : xMem), g9_copies_156_155_b2 n x2 M = some R → V G 3 2 [(0, .inr 156), (1, .inr 155), (2, .inl x2)] [] M := by
  intro n
  induction n with
  | zero => intro x2 M h; rw [g9_copies_156_155_b2] at h; cases h
  | succ n ih =>
    intro x2 M h
    rw [g9_copies_156_155_b2] at h
    refine V.iload_n (r := 3) hC 2 dX9_copies_2 rfl rfl ?_
    refine V.sipush (r := 6) hC dX9_copies_3 ks_331 rfl ?_
    refine V.icmp_ge (tgt := 21) (r := 9) hC dX9_copies_6 (by decide) rfl (fun c1 => ?_) (fun c1 => ?_)
    · rw [if_pos c1] at h
      cases h
      exact hR _ _ dX9_copies_21
    · rw [if_neg c1] at h
      refine V.aload_n (r := 10) hC 1 dX9_copies_9 rfl rfl ?_
      refine V.iload_n (r := 11) hC 2 dX9_copies_10 rfl rfl ?_
      refine V.aload_n (r := 12) hC 0 dX9_copies_11 rfl rfl ?_
      refine V.iload_n (r := 13) hC 2 dX9_copies_12 rfl rfl ?_
      by_cases c2 : x2 < 0 ∨ 331 ≤ x2.toNatClampNeg
      · rw [if_pos c2] at h; cases h
      rw [if_neg c2] at h
      refine V.iald (t := x2.toNatClampNeg) (r := 14) hC sh_156 dX9_copies_13 c2 (Nat.zero_add _) rfl ?_
      rw [mset_eq] at h
      refine V.iast (t := x2.toNatClampNeg) (r := 15) hC sh_155 dX9_copies_14 c2 (Nat.zero_add _) rfl ?_
      generalize upM M 7 x2.toNatClampNeg (M 8 x2.toNatClampNeg) = M3 at h ⊢
      refine V.inc (lv' := [(0, .inr 156), (1, .inr 155), (2, .inl (x2 + (1 : Int32)))]) (r := 18) hC 2 dX9_copies_15 rfl ki_1 rfl rfl rfl ?_
      refine V.goto (tgt := 2) hC dX9_copies_18 (by decide) ?_
      exact ih _ _ h
def g9_copies_156_155 (M : xMem) : Option (xMem) :=
g9_copies_156_155_b2 5000 (0 : Int32) M
set_option maxHeartbeats 4000000 in
set_option maxRecDepth 20000 in
theorem v9_copies_156_155 {G : xG} (hC : xC G cX9_copies 3 RX9 0) {R : xMem} (hR : xRV G cX9_copies 3 R) {M : xMem} (h : g9_copies_156_155 M = some R) : V G 3 0 [(0, .inr 156), (1, .inr 155)] [] M := by
  unfold g9_copies_156_155 at h
  refine V.iconst (r := 1) hC dX9_copies_0 ki_0 rfl ?_
  refine V.ist_n (lv' := [(0, .inr 156), (1, .inr 155), (2, .inl (0 : Int32))]) (r := 2) hC dX9_copies_1 rfl rfl rfl ?_
  exact v9_copies_156_155_b2  hC hR  5000 _ _ h
theorem met9_copies_156_155 {R : xMem} {M : xMem} (h : g9_copies_156_155 M = some R) : xMet yX9_copies cX9_copies 3 none 0 [.inr 156, .inr 155] M none R := xMet.ofV (by decide +kernel) (Nat.le_of_ble_eq_true rfl) fun _ hC hR => v9_copies_156_155  hC hR h
def g9_again (M : xMem) : Option (xMem) :=
Option.bind (g9_copies_156_155 M) fun q1 =>
some q1
set_option maxHeartbeats 4000000 in
set_option maxRecDepth 20000 in
theorem v9_again {G : xG} (hC : xC G cX9_again 1 RX9 1) {R : xMem} (hR : xRV G cX9_again 1 R) {M : xMem} (h : g9_again M = some R) : V G 1 0 [(0, .inr 154)] [] M := by
  unfold g9_again at h
  refine V.aload_n (r := 1) hC 0 dX9_again_0 rfl rfl ?_
  refine V.getR (k' := 156) (j := 1) (r := 4) hC xcl_9 sh_154 fl_RX9_13 dX9_again_1 (by decide) rfl rfl ?_
  refine V.aload_n (r := 5) hC 0 dX9_again_4 rfl rfl ?_
  refine V.getR (k' := 155) (j := 0) (r := 8) hC xcl_9 sh_154 fl_RX9_7 dX9_again_5 (by decide) rfl rfl ?_
  obtain ⟨q1, hq2, h⟩ := Option.bind_eq_some_iff.mp h
  try dsimp only at h
  refine V.invSv (as := [.inr 156, .inr 155]) (st := []) (r := 11) hC (met9_copies_156_155 hq2) ys_X9_copies ml_RX9_302 dX9_again_8 (by decide) rfl rfl rfl rfl ?_
  cases h
  exact hR _ _ dX9_again_11
theorem met9_again {R : xMem} {M : xMem} (h : g9_again M = some R) : xMet yX9_again cX9_again 1 none 1 [.inr 154] M none R := xMet.ofV (by decide +kernel) (Nat.le_of_ble_eq_true rfl) fun _ hC hR => v9_again  hC hR h
def g9_tried_b174 (s0 : Int32) (M : xMem) : Option (Int32 × xMem) :=
Option.bind (g9_again M) fun q32 =>
some (s0, q32)
set_option maxHeartbeats 4000000 in
set_option maxRecDepth 20000 in
theorem v9_tried_b174 {G : xG} (hC : xC G cX9_tried 7 RX9 8) {R : Int32 × xMem} (hR : xRI G cX9_tried 7 R) (s0 : Int32) (M : xMem) (h : g9_tried_b174 s0 M = some R) : V G 7 174 [(0, .inr 154)] [.inl s0] M := by
  unfold g9_tried_b174 at h
  refine V.ist (lv' := [(0, .inr 154), (6, .inl s0)]) (r := 176) hC dX9_tried_174 rfl rfl rfl ?_
  refine V.aload_n (r := 177) hC 0 dX9_tried_176 rfl rfl ?_
  obtain ⟨q32, hq33, h⟩ := Option.bind_eq_some_iff.mp h
  try dsimp only at h
  refine V.invVv (as := []) (st := []) (r := 180) hC (met9_again hq33) yv_X9_again ml_RX9_315 sh_154 rfl rfl dX9_tried_177 (by decide) rfl rfl rfl rfl ?_
  refine V.iload (r := 182) hC 1 dX9_tried_180 rfl rfl ?_
  cases h
  exact hR _ _ dX9_tried_182
def g9_tried_b53 (x1 x2 : Int32) (M : xMem) : Option (Int32 × xMem) :=
Option.bind (g9_begins M) fun q14 =>
Option.bind (g9_runs x1 q14) fun q16 =>
if x2 = 0 then
(g9_tried_b174 (q16.1) q16.2)
else
(if x2 = (1 : Int32) then
(Option.bind (g9_living q16.2) fun q30 =>
g9_tried_b174 (q30.1) q30.2)
else
(if x2 = (2 : Int32) then
(Option.bind (g9_through q16.2) fun q28 =>
g9_tried_b174 (q28.1) q28.2)
else
(if (20 : Int32) ≤ x2 then
(if (30 : Int32) ≤ x2 then
(if (40 : Int32) ≤ x2 then
(if ((292 : Int32) + (x2 - x2 / (10 : Int32) * (10 : Int32))) < 0 ∨ 331 ≤ ((292 : Int32) + (x2 - x2 / (10 : Int32) * (10 : Int32))).toNatClampNeg then none else
g9_tried_b174 (q16.2 7 ((292 : Int32) + (x2 - x2 / (10 : Int32) * (10 : Int32))).toNatClampNeg) q16.2)
else
(if ((286 : Int32) + (x2 - x2 / (10 : Int32) * (10 : Int32))) < 0 ∨ 331 ≤ ((286 : Int32) + (x2 - x2 / (10 : Int32) * (10 : Int32))).toNatClampNeg then none else
g9_tried_b174 (q16.2 7 ((286 : Int32) + (x2 - x2 / (10 : Int32) * (10 : Int32))).toNatClampNeg) q16.2))
else
(if ((274 : Int32) + (x2 - x2 / (10 : Int32) * (10 : Int32))) < 0 ∨ 331 ≤ ((274 : Int32) + (x2 - x2 / (10 : Int32) * (10 : Int32))).toNatClampNeg then none else
g9_tried_b174 (q16.2 7 ((274 : Int32) + (x2 - x2 / (10 : Int32) * (10 : Int32))).toNatClampNeg) q16.2))
else
(if ((280 : Int32) + (x2 - x2 / (10 : Int32) * (10 : Int32))) < 0 ∨ 331 ≤ ((280 : Int32) + (x2 - x2 / (10 : Int32) * (10 : Int32))).toNatClampNeg then none else
g9_tried_b174 (q16.2 7 ((280 : Int32) + (x2 - x2 / (10 : Int32) * (10 : Int32))).toNatClampNeg) q16.2))))
set_option maxHeartbeats 4000000 in
set_option maxRecDepth 20000 in
theorem v9_tried_b53 {G : xG} (hC : xC G cX9_tried 7 RX9 8) {R : Int32 × xMem} (hR : xRI G cX9_tried 7 R) (x1 x2 : Int32) (M : xMem) (h : g9_tried_b53 x1 x2 M = some R) : V G 7 53 [(0, .inr 154), (1, .inl x1), (2, .inl x2)] [] M := by
  unfold g9_tried_b53 at h
  refine V.aload_n (r := 54) hC 0 dX9_tried_53 rfl rfl ?_
  obtain ⟨q14, hq15, h⟩ := Option.bind_eq_some_iff.mp h
  try dsimp only at h
  refine V.invVv (as := []) (st := []) (r := 57) hC (met9_begins hq15) yv_X9_begins ml_RX9_306 sh_154 rfl rfl dX9_tried_54 (by decide) rfl rfl rfl rfl ?_
  refine V.aload_n (r := 58) hC 0 dX9_tried_57 rfl rfl ?_
  refine V.iload_n (r := 59) hC 1 dX9_tried_58 rfl rfl ?_
  obtain ⟨q16, hq17, h⟩ := Option.bind_eq_some_iff.mp h
  try dsimp only at h
  refine V.invVi (as := [.inl x1]) (st := []) (r := 62) hC (met9_runs hq17) yv_X9_runs ml_RX9_299 sh_154 rfl rfl dX9_tried_59 (by decide) rfl rfl rfl rfl ?_
  refine V.ist (lv' := [(0, .inr 154), (1, .inl x1), (2, .inl x2), (4, .inl (q16.1))]) (r := 64) hC dX9_tried_62 rfl rfl rfl ?_
  refine V.iload_n (r := 65) hC 2 dX9_tried_64 rfl rfl ?_
  refine V.bipush (r := 67) hC dX9_tried_65 kb_10 rfl ?_
  refine V.irem (r := 68) hC dX9_tried_67 (by decide) rfl ?_
  refine V.ist (lv' := [(0, .inr 154), (1, .inl x1), (2, .inl x2), (4, .inl (q16.1)), (5, .inl (x2 - x2 / (10 : Int32) * (10 : Int32)))]) (r := 70) hC dX9_tried_68 rfl rfl rfl ?_
  refine V.iload_n (r := 71) hC 2 dX9_tried_70 rfl rfl ?_
  refine V.if_ne (tgt := 79) (r := 74) hC dX9_tried_71 (by decide) rfl (fun c18 => ?_) (fun c18 => ?_)
  · rw [if_neg c18] at h
    refine V.iload_n (r := 80) hC 2 dX9_tried_79 rfl rfl ?_
    refine V.iconst (r := 81) hC dX9_tried_80 ki_1 rfl ?_
    refine V.icmp_ne (tgt := 91) (r := 84) hC dX9_tried_81 (by decide) rfl (fun c19 => ?_) (fun c19 => ?_)
    · rw [if_neg c19] at h
      refine V.iload_n (r := 92) hC 2 dX9_tried_91 rfl rfl ?_
      refine V.iconst (r := 93) hC dX9_tried_92 ki_2 rfl ?_
      refine V.icmp_ne (tgt := 103) (r := 96) hC dX9_tried_93 (by decide) rfl (fun c20 => ?_) (fun c20 => ?_)
      · rw [if_neg c20] at h
        refine V.iload_n (r := 104) hC 2 dX9_tried_103 rfl rfl ?_
        refine V.bipush (r := 106) hC dX9_tried_104 kb_20 rfl ?_
        refine V.icmp_ge (tgt := 123) (r := 109) hC dX9_tried_106 (by decide) rfl (fun c21 => ?_) (fun c21 => ?_)
        · rw [if_pos c21] at h
          refine V.iload_n (r := 124) hC 2 dX9_tried_123 rfl rfl ?_
          refine V.bipush (r := 126) hC dX9_tried_124 kb_30 rfl ?_
          refine V.icmp_ge (tgt := 143) (r := 129) hC dX9_tried_126 (by decide) rfl (fun c22 => ?_) (fun c22 => ?_)
          · rw [if_pos c22] at h
            refine V.iload_n (r := 144) hC 2 dX9_tried_143 rfl rfl ?_
            refine V.bipush (r := 146) hC dX9_tried_144 kb_40 rfl ?_
            refine V.icmp_ge (tgt := 163) (r := 149) hC dX9_tried_146 (by decide) rfl (fun c23 => ?_) (fun c23 => ?_)
            · rw [if_pos c23] at h
              refine V.aload_n (r := 164) hC 0 dX9_tried_163 rfl rfl ?_
              refine V.getR (k' := 155) (j := 0) (r := 167) hC xcl_9 sh_154 fl_RX9_7 dX9_tried_164 (by decide) rfl rfl ?_
              refine V.sipush (r := 170) hC dX9_tried_167 ks_292 rfl ?_
              refine V.iload (r := 172) hC 4 dX9_tried_170 rfl rfl ?_
              refine V.iadd (r := 173) hC dX9_tried_172 rfl ?_
              by_cases c24 : ((292 : Int32) + (x2 - x2 / (10 : Int32) * (10 : Int32))) < 0 ∨ 331 ≤ ((292 : Int32) + (x2 - x2 / (10 : Int32) * (10 : Int32))).toNatClampNeg
              · rw [if_pos c24] at h; cases h
              rw [if_neg c24] at h
              refine V.iald (t := ((292 : Int32) + (x2 - x2 / (10 : Int32) * (10 : Int32))).toNatClampNeg) (r := 174) hC sh_155 dX9_tried_173 c24 (Nat.zero_add _) rfl ?_
              refine V.pick (lv' := [(0, .inr 154)]) [0] rfl ?_
              exact v9_tried_b174  hC hR  _ _ h
            · rw [if_neg c23] at h
              refine V.aload_n (r := 150) hC 0 dX9_tried_149 rfl rfl ?_
              refine V.getR (k' := 155) (j := 0) (r := 153) hC xcl_9 sh_154 fl_RX9_7 dX9_tried_150 (by decide) rfl rfl ?_
              refine V.sipush (r := 156) hC dX9_tried_153 ks_286 rfl ?_
              refine V.iload (r := 158) hC 4 dX9_tried_156 rfl rfl ?_
              refine V.iadd (r := 159) hC dX9_tried_158 rfl ?_
              by_cases c25 : ((286 : Int32) + (x2 - x2 / (10 : Int32) * (10 : Int32))) < 0 ∨ 331 ≤ ((286 : Int32) + (x2 - x2 / (10 : Int32) * (10 : Int32))).toNatClampNeg
              · rw [if_pos c25] at h; cases h
              rw [if_neg c25] at h
              refine V.iald (t := ((286 : Int32) + (x2 - x2 / (10 : Int32) * (10 : Int32))).toNatClampNeg) (r := 160) hC sh_155 dX9_tried_159 c25 (Nat.zero_add _) rfl ?_
              refine V.goto (tgt := 174) hC dX9_tried_160 (by decide) ?_
              refine V.pick (lv' := [(0, .inr 154)]) [0] rfl ?_
              exact v9_tried_b174  hC hR  _ _ h
          · rw [if_neg c22] at h
            refine V.aload_n (r := 130) hC 0 dX9_tried_129 rfl rfl ?_
            refine V.getR (k' := 155) (j := 0) (r := 133) hC xcl_9 sh_154 fl_RX9_7 dX9_tried_130 (by decide) rfl rfl ?_
            refine V.sipush (r := 136) hC dX9_tried_133 ks_274 rfl ?_
            refine V.iload (r := 138) hC 4 dX9_tried_136 rfl rfl ?_
            refine V.iadd (r := 139) hC dX9_tried_138 rfl ?_
            by_cases c26 : ((274 : Int32) + (x2 - x2 / (10 : Int32) * (10 : Int32))) < 0 ∨ 331 ≤ ((274 : Int32) + (x2 - x2 / (10 : Int32) * (10 : Int32))).toNatClampNeg
            · rw [if_pos c26] at h; cases h
            rw [if_neg c26] at h
            refine V.iald (t := ((274 : Int32) + (x2 - x2 / (10 : Int32) * (10 : Int32))).toNatClampNeg) (r := 140) hC sh_155 dX9_tried_139 c26 (Nat.zero_add _) rfl ?_
            refine V.goto (tgt := 174) hC dX9_tried_140 (by decide) ?_
            refine V.pick (lv' := [(0, .inr 154)]) [0] rfl ?_
            exact v9_tried_b174  hC hR  _ _ h
        · rw [if_neg c21] at h
          refine V.aload_n (r := 110) hC 0 dX9_tried_109 rfl rfl ?_
          refine V.getR (k' := 155) (j := 0) (r := 113) hC xcl_9 sh_154 fl_RX9_7 dX9_tried_110 (by decide) rfl rfl ?_
          refine V.sipush (r := 116) hC dX9_tried_113 ks_280 rfl ?_
          refine V.iload (r := 118) hC 4 dX9_tried_116 rfl rfl ?_
          refine V.iadd (r := 119) hC dX9_tried_118 rfl ?_
          by_cases c27 : ((280 : Int32) + (x2 - x2 / (10 : Int32) * (10 : Int32))) < 0 ∨ 331 ≤ ((280 : Int32) + (x2 - x2 / (10 : Int32) * (10 : Int32))).toNatClampNeg
          · rw [if_pos c27] at h; cases h
          rw [if_neg c27] at h
          refine V.iald (t := ((280 : Int32) + (x2 - x2 / (10 : Int32) * (10 : Int32))).toNatClampNeg) (r := 120) hC sh_155 dX9_tried_119 c27 (Nat.zero_add _) rfl ?_
          refine V.goto (tgt := 174) hC dX9_tried_120 (by decide) ?_
          refine V.pick (lv' := [(0, .inr 154)]) [0] rfl ?_
          exact v9_tried_b174  hC hR  _ _ h
      · rw [if_pos c20] at h
        refine V.aload_n (r := 97) hC 0 dX9_tried_96 rfl rfl ?_
        obtain ⟨q28, hq29, h⟩ := Option.bind_eq_some_iff.mp h
        try dsimp only at h
        refine V.invVi (as := []) (st := []) (r := 100) hC (met9_through hq29) yv_X9_through ml_RX9_312 sh_154 rfl rfl dX9_tried_97 (by decide) rfl rfl rfl rfl ?_
        refine V.goto (tgt := 174) hC dX9_tried_100 (by decide) ?_
        refine V.pick (lv' := [(0, .inr 154)]) [0] rfl ?_
        exact v9_tried_b174  hC hR  _ _ h
    · rw [if_pos c19] at h
      refine V.aload_n (r := 85) hC 0 dX9_tried_84 rfl rfl ?_
      obtain ⟨q30, hq31, h⟩ := Option.bind_eq_some_iff.mp h
      try dsimp only at h
      refine V.invVi (as := []) (st := []) (r := 88) hC (met9_living hq31) yv_X9_living ml_RX9_309 sh_154 rfl rfl dX9_tried_85 (by decide) rfl rfl rfl rfl ?_
      refine V.goto (tgt := 174) hC dX9_tried_88 (by decide) ?_
      refine V.pick (lv' := [(0, .inr 154)]) [0] rfl ?_
      exact v9_tried_b174  hC hR  _ _ h
  · rw [if_pos c18] at h
    refine V.iload (r := 76) hC 3 dX9_tried_74 rfl rfl ?_
    refine V.goto (tgt := 174) hC dX9_tried_76 (by decide) ?_
    refine V.pick (lv' := [(0, .inr 154)]) [0] rfl ?_
    exact v9_tried_b174  hC hR  _ _ h
def g9_tried_b27 (x1 x2 s0 : Int32) (M : xMem) : Option (Int32 × xMem) :=
Option.bind (g9_in x1 (1 : Int32) (24 : Int32) M) fun q7 =>
if (q7.1) = 0 then
(some ((-1 : Int32), q7.2))
else
(Option.bind (g9_in x2 (0 : Int32) (2 : Int32) q7.2) fun q10 =>
if (q10.1) = 0 then
(if s0 = 0 then
(some ((-1 : Int32), q10.2))
else
(g9_tried_b53 x1 x2 q10.2))
else
(g9_tried_b53 x1 x2 q10.2))
set_option maxHeartbeats 4000000 in
set_option maxRecDepth 20000 in
theorem v9_tried_b27 {G : xG} (hC : xC G cX9_tried 7 RX9 8) {R : Int32 × xMem} (hR : xRI G cX9_tried 7 R) (x1 x2 s0 : Int32) (M : xMem) (h : g9_tried_b27 x1 x2 s0 M = some R) : V G 7 27 [(0, .inr 154), (1, .inl x1), (2, .inl x2)] [.inl s0] M := by
  unfold g9_tried_b27 at h
  refine V.ist_n (lv' := [(0, .inr 154), (1, .inl x1), (2, .inl x2), (3, .inl s0)]) (r := 28) hC dX9_tried_27 rfl rfl rfl ?_
  refine V.iload_n (r := 29) hC 1 dX9_tried_28 rfl rfl ?_
  refine V.iconst (r := 30) hC dX9_tried_29 ki_1 rfl ?_
  refine V.bipush (r := 32) hC dX9_tried_30 kb_24 rfl ?_
  obtain ⟨q7, hq8, h⟩ := Option.bind_eq_some_iff.mp h
  try dsimp only at h
  refine V.invSi (as := [.inl x1, .inl (1 : Int32), .inl (24 : Int32)]) (st := []) (r := 35) hC (met9_in hq8) ys_X9_in ml_RX9_92 dX9_tried_32 (by decide) rfl rfl rfl rfl ?_
  refine V.if_eq (tgt := 51) (r := 38) hC dX9_tried_35 (by decide) rfl (fun c9 => ?_) (fun c9 => ?_)
  · rw [if_pos c9] at h
    refine V.iconst (r := 52) hC dX9_tried_51 ki_m1 rfl ?_
    cases h
    exact hR _ _ dX9_tried_52
  · rw [if_neg c9] at h
    refine V.iload_n (r := 39) hC 2 dX9_tried_38 rfl rfl ?_
    refine V.iconst (r := 40) hC dX9_tried_39 ki_0 rfl ?_
    refine V.iconst (r := 41) hC dX9_tried_40 ki_2 rfl ?_
    obtain ⟨q10, hq11, h⟩ := Option.bind_eq_some_iff.mp h
    try dsimp only at h
    refine V.invSi (as := [.inl x2, .inl (0 : Int32), .inl (2 : Int32)]) (st := []) (r := 44) hC (met9_in hq11) ys_X9_in ml_RX9_92 dX9_tried_41 (by decide) rfl rfl rfl rfl ?_
    refine V.if_ne (tgt := 53) (r := 47) hC dX9_tried_44 (by decide) rfl (fun c12 => ?_) (fun c12 => ?_)
    · rw [if_neg c12] at h
      refine V.pick (lv' := [(0, .inr 154), (1, .inl x1), (2, .inl x2)]) [0, 1, 2] rfl ?_
      exact v9_tried_b53  hC hR  _ _ _ h
    · rw [if_pos c12] at h
      refine V.iload_n (r := 48) hC 3 dX9_tried_47 rfl rfl ?_
      refine V.if_ne (tgt := 53) (r := 51) hC dX9_tried_48 (by decide) rfl (fun c13 => ?_) (fun c13 => ?_)
      · rw [if_neg c13] at h
        refine V.pick (lv' := [(0, .inr 154), (1, .inl x1), (2, .inl x2)]) [0, 1, 2] rfl ?_
        exact v9_tried_b53  hC hR  _ _ _ h
      · rw [if_pos c13] at h
        refine V.iconst (r := 52) hC dX9_tried_51 ki_m1 rfl ?_
        cases h
        exact hR _ _ dX9_tried_52
def g9_tried_b26 (x1 x2 : Int32) (M : xMem) : Option (Int32 × xMem) :=
g9_tried_b27 x1 x2 (0 : Int32) M
set_option maxHeartbeats 4000000 in
set_option maxRecDepth 20000 in
theorem v9_tried_b26 {G : xG} (hC : xC G cX9_tried 7 RX9 8) {R : Int32 × xMem} (hR : xRI G cX9_tried 7 R) (x1 x2 : Int32) (M : xMem) (h : g9_tried_b26 x1 x2 M = some R) : V G 7 26 [(0, .inr 154), (1, .inl x1), (2, .inl x2)] [] M := by
  unfold g9_tried_b26 at h
  refine V.iconst (r := 27) hC dX9_tried_26 ki_0 rfl ?_
  exact v9_tried_b27  hC hR  _ _ _ _ h
def g9_tried (a0 a1 : Int32) (M : xMem) : Option (Int32 × xMem) :=
Option.bind (g9_in a1 (10 : Int32) (49 : Int32) M) fun q1 =>
if (q1.1) = 0 then
(g9_tried_b26 a0 a1 q1.2)
else
(Option.bind (g9_isTold (a1 - a1 / (10 : Int32) * (10 : Int32)) q1.2) fun q4 =>
if (q4.1) = 0 then
(g9_tried_b26 a0 a1 q4.2)
else
(g9_tried_b27 a0 a1 (1 : Int32) q4.2))
set_option maxHeartbeats 4000000 in
set_option maxRecDepth 20000 in
theorem v9_tried {G : xG} (hC : xC G cX9_tried 7 RX9 8) {R : Int32 × xMem} (hR : xRI G cX9_tried 7 R) {a0 a1 : Int32} {M : xMem} (h : g9_tried a0 a1 M = some R) : V G 7 0 [(0, .inr 154), (1, .inl a0), (2, .inl a1)] [] M := by
  unfold g9_tried at h
  refine V.iload_n (r := 1) hC 2 dX9_tried_0 rfl rfl ?_
  refine V.bipush (r := 3) hC dX9_tried_1 kb_10 rfl ?_
  refine V.bipush (r := 5) hC dX9_tried_3 kb_49 rfl ?_
  obtain ⟨q1, hq2, h⟩ := Option.bind_eq_some_iff.mp h
  try dsimp only at h
  refine V.invSi (as := [.inl a1, .inl (10 : Int32), .inl (49 : Int32)]) (st := []) (r := 8) hC (met9_in hq2) ys_X9_in ml_RX9_92 dX9_tried_5 (by decide) rfl rfl rfl rfl ?_
  refine V.if_eq (tgt := 26) (r := 11) hC dX9_tried_8 (by decide) rfl (fun c3 => ?_) (fun c3 => ?_)
  · rw [if_pos c3] at h
    exact v9_tried_b26  hC hR  _ _ _ h
  · rw [if_neg c3] at h
    refine V.aload_n (r := 12) hC 0 dX9_tried_11 rfl rfl ?_
    refine V.iload_n (r := 13) hC 2 dX9_tried_12 rfl rfl ?_
    refine V.bipush (r := 15) hC dX9_tried_13 kb_10 rfl ?_
    refine V.irem (r := 16) hC dX9_tried_15 (by decide) rfl ?_
    obtain ⟨q4, hq5, h⟩ := Option.bind_eq_some_iff.mp h
    try dsimp only at h
    refine V.invVi (as := [.inl (a1 - a1 / (10 : Int32) * (10 : Int32))]) (st := []) (r := 19) hC (met9_isTold hq5) yv_X9_isTold ml_RX9_81 sh_154 rfl rfl dX9_tried_16 (by decide) rfl rfl rfl rfl ?_
    refine V.if_eq (tgt := 26) (r := 22) hC dX9_tried_19 (by decide) rfl (fun c6 => ?_) (fun c6 => ?_)
    · rw [if_pos c6] at h
      exact v9_tried_b26  hC hR  _ _ _ h
    · rw [if_neg c6] at h
      refine V.iconst (r := 23) hC dX9_tried_22 ki_1 rfl ?_
      refine V.goto (tgt := 27) hC dX9_tried_23 (by decide) ?_
      exact v9_tried_b27  hC hR  _ _ _ _ h
theorem met9_tried {R : Int32 × xMem} {a0 a1 : Int32} {M : xMem} (h : g9_tried a0 a1 M = some R) : xMet yX9_tried cX9_tried 7 (some .int) 8 [.inr 154, .inl a0, .inl a1] M (some R.1) R.2 := xMet.ofI (by decide +kernel) (Nat.le_of_ble_eq_true rfl) fun _ hC hR => v9_tried  hC hR h
def g9_herdIs (a0 a1 : Int32) (M : xMem) : Option (Int32 × xMem) :=
Option.bind (g9_isTold a0 M) fun q1 =>
if (q1.1) = 0 then
(some ((-1 : Int32), q1.2))
else
(if a1 = (0 : Int32) then
(if ((274 : Int32) + a0) < 0 ∨ 331 ≤ ((274 : Int32) + a0).toNatClampNeg then none else
some (q1.2 7 ((274 : Int32) + a0).toNatClampNeg, q1.2))
else
if a1 = (1 : Int32) then
(if ((280 : Int32) + a0) < 0 ∨ 331 ≤ ((280 : Int32) + a0).toNatClampNeg then none else
some (q1.2 7 ((280 : Int32) + a0).toNatClampNeg, q1.2))
else
if a1 = (2 : Int32) then
(if ((286 : Int32) + a0) < 0 ∨ 331 ≤ ((286 : Int32) + a0).toNatClampNeg then none else
some (q1.2 7 ((286 : Int32) + a0).toNatClampNeg, q1.2))
else
if a1 = (3 : Int32) then
(if ((292 : Int32) + a0) < 0 ∨ 331 ≤ ((292 : Int32) + a0).toNatClampNeg then none else
some (q1.2 7 ((292 : Int32) + a0).toNatClampNeg, q1.2))
else
if a1 = (4 : Int32) then
(if ((298 : Int32) + a0) < 0 ∨ 331 ≤ ((298 : Int32) + a0).toNatClampNeg then none else
some (q1.2 7 ((298 : Int32) + a0).toNatClampNeg, q1.2))
else
if a1 = (5 : Int32) then
(Option.bind (g9_isOn a0 q1.2) fun q15 =>
if (q15.1) = 0 then
(some ((0 : Int32), q15.2))
else
(some ((1 : Int32), q15.2)))
else
(some ((-1 : Int32), q1.2)))
set_option maxHeartbeats 4000000 in
set_option maxRecDepth 20000 in
theorem v9_herdIs {G : xG} (hC : xC G cX9_herdIs 3 RX9 2) {R : Int32 × xMem} (hR : xRI G cX9_herdIs 3 R) {a0 a1 : Int32} {M : xMem} (h : g9_herdIs a0 a1 M = some R) : V G 3 0 [(0, .inr 154), (1, .inl a0), (2, .inl a1)] [] M := by
  unfold g9_herdIs at h
  refine V.aload_n (r := 1) hC 0 dX9_herdIs_0 rfl rfl ?_
  refine V.iload_n (r := 2) hC 1 dX9_herdIs_1 rfl rfl ?_
  obtain ⟨q1, hq2, h⟩ := Option.bind_eq_some_iff.mp h
  try dsimp only at h
  refine V.invVi (as := [.inl a0]) (st := []) (r := 5) hC (met9_isTold hq2) yv_X9_isTold ml_RX9_81 sh_154 rfl rfl dX9_herdIs_2 (by decide) rfl rfl rfl rfl ?_
  refine V.if_ne (tgt := 10) (r := 8) hC dX9_herdIs_5 (by decide) rfl (fun c3 => ?_) (fun c3 => ?_)
  · rw [if_neg c3] at h
    refine V.iload_n (r := 11) hC 2 dX9_herdIs_10 rfl rfl ?_
    by_cases c4 : a1 = (0 : Int32)
    · rw [if_pos c4] at h
      refine V.tabIn (off := 37) (tgt := 48) hC dX9_herdIs_11 c4 (by decide) (by decide) (by decide) (by decide) ?_
      refine V.aload_n (r := 49) hC 0 dX9_herdIs_48 rfl rfl ?_
      refine V.getR (k' := 155) (j := 0) (r := 52) hC xcl_9 sh_154 fl_RX9_7 dX9_herdIs_49 (by decide) rfl rfl ?_
      refine V.sipush (r := 55) hC dX9_herdIs_52 ks_274 rfl ?_
      refine V.iload_n (r := 56) hC 1 dX9_herdIs_55 rfl rfl ?_
      refine V.iadd (r := 57) hC dX9_herdIs_56 rfl ?_
      by_cases c5 : ((274 : Int32) + a0) < 0 ∨ 331 ≤ ((274 : Int32) + a0).toNatClampNeg
      · rw [if_pos c5] at h; cases h
      rw [if_neg c5] at h
      refine V.iald (t := ((274 : Int32) + a0).toNatClampNeg) (r := 58) hC sh_155 dX9_herdIs_57 c5 (Nat.zero_add _) rfl ?_
      cases h
      exact hR _ _ dX9_herdIs_58
    rw [if_neg c4] at h
    by_cases c6 : a1 = (1 : Int32)
    · rw [if_pos c6] at h
      refine V.tabIn (off := 48) (tgt := 59) hC dX9_herdIs_11 c6 (by decide) (by decide) (by decide) (by decide) ?_
      refine V.aload_n (r := 60) hC 0 dX9_herdIs_59 rfl rfl ?_
      refine V.getR (k' := 155) (j := 0) (r := 63) hC xcl_9 sh_154 fl_RX9_7 dX9_herdIs_60 (by decide) rfl rfl ?_
      refine V.sipush (r := 66) hC dX9_herdIs_63 ks_280 rfl ?_
      refine V.iload_n (r := 67) hC 1 dX9_herdIs_66 rfl rfl ?_
      refine V.iadd (r := 68) hC dX9_herdIs_67 rfl ?_
      by_cases c7 : ((280 : Int32) + a0) < 0 ∨ 331 ≤ ((280 : Int32) + a0).toNatClampNeg
      · rw [if_pos c7] at h; cases h
      rw [if_neg c7] at h
      refine V.iald (t := ((280 : Int32) + a0).toNatClampNeg) (r := 69) hC sh_155 dX9_herdIs_68 c7 (Nat.zero_add _) rfl ?_
      cases h
      exact hR _ _ dX9_herdIs_69
    rw [if_neg c6] at h
    by_cases c8 : a1 = (2 : Int32)
    · rw [if_pos c8] at h
      refine V.tabIn (off := 59) (tgt := 70) hC dX9_herdIs_11 c8 (by decide) (by decide) (by decide) (by decide) ?_
      refine V.aload_n (r := 71) hC 0 dX9_herdIs_70 rfl rfl ?_
      refine V.getR (k' := 155) (j := 0) (r := 74) hC xcl_9 sh_154 fl_RX9_7 dX9_herdIs_71 (by decide) rfl rfl ?_
      refine V.sipush (r := 77) hC dX9_herdIs_74 ks_286 rfl ?_
      refine V.iload_n (r := 78) hC 1 dX9_herdIs_77 rfl rfl ?_
      refine V.iadd (r := 79) hC dX9_herdIs_78 rfl ?_
      by_cases c9 : ((286 : Int32) + a0) < 0 ∨ 331 ≤ ((286 : Int32) + a0).toNatClampNeg
      · rw [if_pos c9] at h; cases h
      rw [if_neg c9] at h
      refine V.iald (t := ((286 : Int32) + a0).toNatClampNeg) (r := 80) hC sh_155 dX9_herdIs_79 c9 (Nat.zero_add _) rfl ?_
      cases h
      exact hR _ _ dX9_herdIs_80
    rw [if_neg c8] at h
    by_cases c10 : a1 = (3 : Int32)
    · rw [if_pos c10] at h
      refine V.tabIn (off := 70) (tgt := 81) hC dX9_herdIs_11 c10 (by decide) (by decide) (by decide) (by decide) ?_
      refine V.aload_n (r := 82) hC 0 dX9_herdIs_81 rfl rfl ?_
      refine V.getR (k' := 155) (j := 0) (r := 85) hC xcl_9 sh_154 fl_RX9_7 dX9_herdIs_82 (by decide) rfl rfl ?_
      refine V.sipush (r := 88) hC dX9_herdIs_85 ks_292 rfl ?_
      refine V.iload_n (r := 89) hC 1 dX9_herdIs_88 rfl rfl ?_
      refine V.iadd (r := 90) hC dX9_herdIs_89 rfl ?_
      by_cases c11 : ((292 : Int32) + a0) < 0 ∨ 331 ≤ ((292 : Int32) + a0).toNatClampNeg
      · rw [if_pos c11] at h; cases h
      rw [if_neg c11] at h
      refine V.iald (t := ((292 : Int32) + a0).toNatClampNeg) (r := 91) hC sh_155 dX9_herdIs_90 c11 (Nat.zero_add _) rfl ?_
      cases h
      exact hR _ _ dX9_herdIs_91
    rw [if_neg c10] at h
    by_cases c12 : a1 = (4 : Int32)
    · rw [if_pos c12] at h
      refine V.tabIn (off := 81) (tgt := 92) hC dX9_herdIs_11 c12 (by decide) (by decide) (by decide) (by decide) ?_
      refine V.aload_n (r := 93) hC 0 dX9_herdIs_92 rfl rfl ?_
      refine V.getR (k' := 155) (j := 0) (r := 96) hC xcl_9 sh_154 fl_RX9_7 dX9_herdIs_93 (by decide) rfl rfl ?_
      refine V.sipush (r := 99) hC dX9_herdIs_96 ks_298 rfl ?_
      refine V.iload_n (r := 100) hC 1 dX9_herdIs_99 rfl rfl ?_
      refine V.iadd (r := 101) hC dX9_herdIs_100 rfl ?_
      by_cases c13 : ((298 : Int32) + a0) < 0 ∨ 331 ≤ ((298 : Int32) + a0).toNatClampNeg
      · rw [if_pos c13] at h; cases h
      rw [if_neg c13] at h
      refine V.iald (t := ((298 : Int32) + a0).toNatClampNeg) (r := 102) hC sh_155 dX9_herdIs_101 c13 (Nat.zero_add _) rfl ?_
      cases h
      exact hR _ _ dX9_herdIs_102
    rw [if_neg c12] at h
    by_cases c14 : a1 = (5 : Int32)
    · rw [if_pos c14] at h
      refine V.tabIn (off := 92) (tgt := 103) hC dX9_herdIs_11 c14 (by decide) (by decide) (by decide) (by decide) ?_
      refine V.aload_n (r := 104) hC 0 dX9_herdIs_103 rfl rfl ?_
      refine V.iload_n (r := 105) hC 1 dX9_herdIs_104 rfl rfl ?_
      obtain ⟨q15, hq16, h⟩ := Option.bind_eq_some_iff.mp h
      try dsimp only at h
      refine V.invVi (as := [.inl a0]) (st := []) (r := 108) hC (met9_isOn hq16) yv_X9_isOn ml_RX9_85 sh_154 rfl rfl dX9_herdIs_105 (by decide) rfl rfl rfl rfl ?_
      refine V.if_eq (tgt := 115) (r := 111) hC dX9_herdIs_108 (by decide) rfl (fun c17 => ?_) (fun c17 => ?_)
      · rw [if_pos c17] at h
        refine V.iconst (r := 116) hC dX9_herdIs_115 ki_0 rfl ?_
        cases h
        exact hR _ _ dX9_herdIs_116
      · rw [if_neg c17] at h
        refine V.iconst (r := 112) hC dX9_herdIs_111 ki_1 rfl ?_
        refine V.goto (tgt := 116) hC dX9_herdIs_112 (by decide) ?_
        cases h
        exact hR _ _ dX9_herdIs_116
    rw [if_neg c14] at h
    refine V.tabOut (tgt := 117) hC dX9_herdIs_11 (by have e0 := lv_neT c4 (show ((0 : Int32)).toInt = 0 by decide); have e1 := lv_neT c6 (show ((1 : Int32)).toInt = 1 by decide); have e2 := lv_neT c8 (show ((2 : Int32)).toInt = 2 by decide); have e3 := lv_neT c10 (show ((3 : Int32)).toInt = 3 by decide); have e4 := lv_neT c12 (show ((4 : Int32)).toInt = 4 by decide); have e5 := lv_neT c14 (show ((5 : Int32)).toInt = 5 by decide); omega) (by decide) ?_
    refine V.iconst (r := 118) hC dX9_herdIs_117 ki_m1 rfl ?_
    cases h
    exact hR _ _ dX9_herdIs_118
  · rw [if_pos c3] at h
    refine V.iconst (r := 9) hC dX9_herdIs_8 ki_m1 rfl ?_
    cases h
    exact hR _ _ dX9_herdIs_9
theorem met9_herdIs {R : Int32 × xMem} {a0 a1 : Int32} {M : xMem} (h : g9_herdIs a0 a1 M = some R) : xMet yX9_herdIs cX9_herdIs 3 (some .int) 2 [.inr 154, .inl a0, .inl a1] M (some R.1) R.2 := xMet.ofI (by decide +kernel) (Nat.le_of_ble_eq_true rfl) fun _ hC hR => v9_herdIs  hC hR h
def g9_lampIs_b17 (M : xMem) : Option (Int32 × xMem) :=
some ((-1 : Int32), M)
set_option maxHeartbeats 4000000 in
set_option maxRecDepth 20000 in
theorem v9_lampIs_b17 {G : xG} (hC : xC G cX9_lampIs 3 RX9 1) {R : Int32 × xMem} (hR : xRI G cX9_lampIs 3 R) (M : xMem) (h : g9_lampIs_b17 M = some R) : V G 3 17 [] [] M := by
  unfold g9_lampIs_b17 at h
  refine V.iconst (r := 18) hC dX9_lampIs_17 ki_m1 rfl ?_
  refine V.goto (tgt := 36) hC dX9_lampIs_18 (by decide) ?_
  cases h
  exact hR _ _ dX9_lampIs_36
def g9_lampIs (a0 a1 : Int32) (M : xMem) : Option (Int32 × xMem) :=
Option.bind (g9_isLamp a0 M) fun q1 =>
if (q1.1) = 0 then
(g9_lampIs_b17 q1.2)
else
(Option.bind (g9_in a1 (0 : Int32) (3 : Int32) q1.2) fun q4 =>
if (q4.1) = 0 then
(g9_lampIs_b17 q4.2)
else
(if (((208 : Int32) + ((12 : Int32) * a1)) + a0) < 0 ∨ 331 ≤ (((208 : Int32) + ((12 : Int32) * a1)) + a0).toNatClampNeg then none else
some (q4.2 7 (((208 : Int32) + ((12 : Int32) * a1)) + a0).toNatClampNeg, q4.2)))
set_option maxHeartbeats 4000000 in
set_option maxRecDepth 20000 in
theorem v9_lampIs {G : xG} (hC : xC G cX9_lampIs 3 RX9 1) {R : Int32 × xMem} (hR : xRI G cX9_lampIs 3 R) {a0 a1 : Int32} {M : xMem} (h : g9_lampIs a0 a1 M = some R) : V G 3 0 [(0, .inr 154), (1, .inl a0), (2, .inl a1)] [] M := by
  unfold g9_lampIs at h
  refine V.aload_n (r := 1) hC 0 dX9_lampIs_0 rfl rfl ?_
  refine V.iload_n (r := 2) hC 1 dX9_lampIs_1 rfl rfl ?_
  obtain ⟨q1, hq2, h⟩ := Option.bind_eq_some_iff.mp h
  try dsimp only at h
  refine V.invVi (as := [.inl a0]) (st := []) (r := 5) hC (met9_isLamp hq2) yv_X9_isLamp ml_RX9_109 sh_154 rfl rfl dX9_lampIs_2 (by decide) rfl rfl rfl rfl ?_
  refine V.if_eq (tgt := 17) (r := 8) hC dX9_lampIs_5 (by decide) rfl (fun c3 => ?_) (fun c3 => ?_)
  · rw [if_pos c3] at h
    refine V.pick (lv' := []) [] rfl ?_
    exact v9_lampIs_b17  hC hR  _ h
  · rw [if_neg c3] at h
    refine V.iload_n (r := 9) hC 2 dX9_lampIs_8 rfl rfl ?_
    refine V.iconst (r := 10) hC dX9_lampIs_9 ki_0 rfl ?_
    refine V.iconst (r := 11) hC dX9_lampIs_10 ki_3 rfl ?_
    obtain ⟨q4, hq5, h⟩ := Option.bind_eq_some_iff.mp h
    try dsimp only at h
    refine V.invSi (as := [.inl a1, .inl (0 : Int32), .inl (3 : Int32)]) (st := []) (r := 14) hC (met9_in hq5) ys_X9_in ml_RX9_92 dX9_lampIs_11 (by decide) rfl rfl rfl rfl ?_
    refine V.if_ne (tgt := 21) (r := 17) hC dX9_lampIs_14 (by decide) rfl (fun c6 => ?_) (fun c6 => ?_)
    · rw [if_neg c6] at h
      refine V.aload_n (r := 22) hC 0 dX9_lampIs_21 rfl rfl ?_
      refine V.getR (k' := 155) (j := 0) (r := 25) hC xcl_9 sh_154 fl_RX9_7 dX9_lampIs_22 (by decide) rfl rfl ?_
      refine V.sipush (r := 28) hC dX9_lampIs_25 ks_208 rfl ?_
      refine V.bipush (r := 30) hC dX9_lampIs_28 kb_12 rfl ?_
      refine V.iload_n (r := 31) hC 2 dX9_lampIs_30 rfl rfl ?_
      refine V.imul (r := 32) hC dX9_lampIs_31 rfl ?_
      refine V.iadd (r := 33) hC dX9_lampIs_32 rfl ?_
      refine V.iload_n (r := 34) hC 1 dX9_lampIs_33 rfl rfl ?_
      refine V.iadd (r := 35) hC dX9_lampIs_34 rfl ?_
      by_cases c7 : (((208 : Int32) + ((12 : Int32) * a1)) + a0) < 0 ∨ 331 ≤ (((208 : Int32) + ((12 : Int32) * a1)) + a0).toNatClampNeg
      · rw [if_pos c7] at h; cases h
      rw [if_neg c7] at h
      refine V.iald (t := (((208 : Int32) + ((12 : Int32) * a1)) + a0).toNatClampNeg) (r := 36) hC sh_155 dX9_lampIs_35 c7 (Nat.zero_add _) rfl ?_
      cases h
      exact hR _ _ dX9_lampIs_36
    · rw [if_pos c6] at h
      refine V.pick (lv' := []) [] rfl ?_
      exact v9_lampIs_b17  hC hR  _ h
theorem met9_lampIs {R : Int32 × xMem} {a0 a1 : Int32} {M : xMem} (h : g9_lampIs a0 a1 M = some R) : xMet yX9_lampIs cX9_lampIs 3 (some .int) 1 [.inr 154, .inl a0, .inl a1] M (some R.1) R.2 := xMet.ofI (by decide +kernel) (Nat.le_of_ble_eq_true rfl) fun _ hC hR => v9_lampIs  hC hR h
def g9_led (a0 : Int32) (M : xMem) : Option (Int32 × xMem) :=
Option.bind (g9_in a0 (0 : Int32) (18 : Int32) M) fun q1 =>
if (q1.1) = 0 then
(some ((-1 : Int32), q1.2))
else
(if ((308 : Int32) + a0) < 0 ∨ 331 ≤ ((308 : Int32) + a0).toNatClampNeg then none else
some (q1.2 7 ((308 : Int32) + a0).toNatClampNeg, q1.2))
set_option maxHeartbeats 4000000 in
set_option maxRecDepth 20000 in
theorem v9_led {G : xG} (hC : xC G cX9_led 2 RX9 1) {R : Int32 × xMem} (hR : xRI G cX9_led 2 R) {a0 : Int32} {M : xMem} (h : g9_led a0 M = some R) : V G 2 0 [(0, .inr 154), (1, .inl a0)] [] M := by
  unfold g9_led at h
  refine V.iload_n (r := 1) hC 1 dX9_led_0 rfl rfl ?_
  refine V.iconst (r := 2) hC dX9_led_1 ki_0 rfl ?_
  refine V.bipush (r := 4) hC dX9_led_2 kb_18 rfl ?_
  obtain ⟨q1, hq2, h⟩ := Option.bind_eq_some_iff.mp h
  try dsimp only at h
  refine V.invSi (as := [.inl a0, .inl (0 : Int32), .inl (18 : Int32)]) (st := []) (r := 7) hC (met9_in hq2) ys_X9_in ml_RX9_92 dX9_led_4 (by decide) rfl rfl rfl rfl ?_
  refine V.if_eq (tgt := 23) (r := 10) hC dX9_led_7 (by decide) rfl (fun c3 => ?_) (fun c3 => ?_)
  · rw [if_pos c3] at h
    refine V.iconst (r := 24) hC dX9_led_23 ki_m1 rfl ?_
    cases h
    exact hR _ _ dX9_led_24
  · rw [if_neg c3] at h
    refine V.aload_n (r := 11) hC 0 dX9_led_10 rfl rfl ?_
    refine V.getR (k' := 155) (j := 0) (r := 14) hC xcl_9 sh_154 fl_RX9_7 dX9_led_11 (by decide) rfl rfl ?_
    refine V.sipush (r := 17) hC dX9_led_14 ks_308 rfl ?_
    refine V.iload_n (r := 18) hC 1 dX9_led_17 rfl rfl ?_
    refine V.iadd (r := 19) hC dX9_led_18 rfl ?_
    by_cases c4 : ((308 : Int32) + a0) < 0 ∨ 331 ≤ ((308 : Int32) + a0).toNatClampNeg
    · rw [if_pos c4] at h; cases h
    rw [if_neg c4] at h
    refine V.iald (t := ((308 : Int32) + a0).toNatClampNeg) (r := 20) hC sh_155 dX9_led_19 c4 (Nat.zero_add _) rfl ?_
    refine V.goto (tgt := 24) hC dX9_led_20 (by decide) ?_
    cases h
    exact hR _ _ dX9_led_24
theorem met9_led {R : Int32 × xMem} {a0 : Int32} {M : xMem} (h : g9_led a0 M = some R) : xMet yX9_led cX9_led 2 (some .int) 1 [.inr 154, .inl a0] M (some R.1) R.2 := xMet.ofI (by decide +kernel) (Nat.le_of_ble_eq_true rfl) fun _ hC hR => v9_led  hC hR h
def g9_livingWith_b31 (k6 : Int32 → Int32 → xMem → Option (Int32 × xMem)) (x1 x2 : Int32) (M : xMem) : Option (Int32 × xMem) :=
k6 x1 (x2 + (1 : Int32)) M
set_option maxHeartbeats 4000000 in
set_option maxRecDepth 20000 in
theorem v9_livingWith_b31 {G : xG} (hC : xC G cX9_livingWith 3 RX9 8) {R : Int32 × xMem} (hR : xRI G cX9_livingWith 3 R) {k6 : Int32 → Int32 → xMem → Option (Int32 × xMem)} (hk6 : ∀ (y1 y2 : Int32) (N : xMem), k6 y1 y2 N = some R → V G 3 6 [(0, .inr 154), (1, .inl y1), (2, .inl y2)] [] N) (x1 x2 : Int32) (M : xMem) (h : g9_livingWith_b31 k6 x1 x2 M = some R) : V G 3 31 [(0, .inr 154), (1, .inl x1), (2, .inl x2)] [] M := by
  unfold g9_livingWith_b31 at h
  refine V.inc (lv' := [(0, .inr 154), (1, .inl x1), (2, .inl (x2 + (1 : Int32)))]) (r := 34) hC 2 dX9_livingWith_31 rfl ki_1 rfl rfl rfl ?_
  refine V.goto (tgt := 6) hC dX9_livingWith_34 (by decide) ?_
  exact hk6 _ _ _ h
def g9_livingWith_b6 : Nat → Int32 → Int32 → xMem → Option (Int32 × xMem)
  | 0, _, _, _ => none
  | n + 1, x1, x2, M => 
    (if (9 : Int32) ≤ x2 then
    (Option.bind (g9_runs ((8 : Int32) - (M 7 328)) M) fun q4 =>
    Option.bind (g9_living q4.2) fun q6 =>
    some (q6.1, q6.2))
    else
    (Option.bind (g9_has x1 x2 M) fun q8 =>
    if (q8.1) = 0 then
    (g9_livingWith_b31 (g9_livingWith_b6 n) x1 x2 q8.2)
    else
    (if ((232 : Int32) + x2) < 0 ∨ 331 ≤ ((232 : Int32) + x2).toNatClampNeg then none else
    mset (upM q8.2 7 ((232 : Int32) + x2).toNatClampNeg (1 : Int32)) fun M12 =>
    g9_livingWith_b31 (g9_livingWith_b6 n) x1 x2 M12)))
set_option maxHeartbeats 4000000 in
set_option maxRecDepth 20000 in
theorem v9_livingWith_b6 {G : xG} (hC : xC G cX9_livingWith 3 RX9 8) {R : Int32 × xMem} (hR : xRI G cX9_livingWith 3 R) : ∀ (n : Nat) (x1 x2 : Int32) (M : xMem), g9_livingWith_b6 n x1 x2 M = some R → V G 3 6 [(0, .inr 154), (1, .inl x1), (2, .inl x2)] [] M := by
  intro n
  induction n with
  | zero => intro x1 x2 M h; rw [g9_livingWith_b6] at h; cases h
  | succ n ih =>
    intro x1 x2 M h
    rw [g9_livingWith_b6] at h
    refine V.iload_n (r := 7) hC 2 dX9_livingWith_6 rfl rfl ?_
    refine V.bipush (r := 9) hC dX9_livingWith_7 kb_9 rfl ?_
    refine V.icmp_ge (tgt := 37) (r := 12) hC dX9_livingWith_9 (by decide) rfl (fun c3 => ?_) (fun c3 => ?_)
    · rw [if_pos c3] at h
      refine V.aload_n (r := 38) hC 0 dX9_livingWith_37 rfl rfl ?_
      refine V.bipush (r := 40) hC dX9_livingWith_38 kb_8 rfl ?_
      refine V.aload_n (r := 41) hC 0 dX9_livingWith_40 rfl rfl ?_
      refine V.getR (k' := 155) (j := 0) (r := 44) hC xcl_9 sh_154 fl_RX9_7 dX9_livingWith_41 (by decide) rfl rfl ?_
      refine V.sipush (r := 47) hC dX9_livingWith_44 ks_328 rfl ?_
      refine V.iald (t := 328) (r := 48) hC sh_155 dX9_livingWith_47 (by decide) (by decide) rfl ?_
      refine V.isub (r := 49) hC dX9_livingWith_48 rfl ?_
      obtain ⟨q4, hq5, h⟩ := Option.bind_eq_some_iff.mp h
      try dsimp only at h
      refine V.invVi (as := [.inl ((8 : Int32) - (M 7 328))]) (st := []) (r := 52) hC (met9_runs hq5) yv_X9_runs ml_RX9_299 sh_154 rfl rfl dX9_livingWith_49 (by decide) rfl rfl rfl rfl ?_
      refine V.pop (r := 53) hC dX9_livingWith_52 rfl ?_
      refine V.aload_n (r := 54) hC 0 dX9_livingWith_53 rfl rfl ?_
      obtain ⟨q6, hq7, h⟩ := Option.bind_eq_some_iff.mp h
      try dsimp only at h
      refine V.invVi (as := []) (st := []) (r := 57) hC (met9_living hq7) yv_X9_living ml_RX9_309 sh_154 rfl rfl dX9_livingWith_54 (by decide) rfl rfl rfl rfl ?_
      cases h
      exact hR _ _ dX9_livingWith_57
    · rw [if_neg c3] at h
      refine V.iload_n (r := 13) hC 1 dX9_livingWith_12 rfl rfl ?_
      refine V.iload_n (r := 14) hC 2 dX9_livingWith_13 rfl rfl ?_
      obtain ⟨q8, hq9, h⟩ := Option.bind_eq_some_iff.mp h
      try dsimp only at h
      refine V.invSi (as := [.inl x1, .inl x2]) (st := []) (r := 17) hC (met9_has hq9) ys_X9_has ml_RX9_226 dX9_livingWith_14 (by decide) rfl rfl rfl rfl ?_
      refine V.if_eq (tgt := 31) (r := 20) hC dX9_livingWith_17 (by decide) rfl (fun c10 => ?_) (fun c10 => ?_)
      · rw [if_pos c10] at h
        exact v9_livingWith_b31  hC hR ih _ _ _ h
      · rw [if_neg c10] at h
        refine V.aload_n (r := 21) hC 0 dX9_livingWith_20 rfl rfl ?_
        refine V.getR (k' := 155) (j := 0) (r := 24) hC xcl_9 sh_154 fl_RX9_7 dX9_livingWith_21 (by decide) rfl rfl ?_
        refine V.sipush (r := 27) hC dX9_livingWith_24 ks_232 rfl ?_
        refine V.iload_n (r := 28) hC 2 dX9_livingWith_27 rfl rfl ?_
        refine V.iadd (r := 29) hC dX9_livingWith_28 rfl ?_
        refine V.iconst (r := 30) hC dX9_livingWith_29 ki_1 rfl ?_
        by_cases c11 : ((232 : Int32) + x2) < 0 ∨ 331 ≤ ((232 : Int32) + x2).toNatClampNeg
        · rw [if_pos c11] at h; cases h
        rw [if_neg c11] at h
        rw [mset_eq] at h
        refine V.iast (t := ((232 : Int32) + x2).toNatClampNeg) (r := 31) hC sh_155 dX9_livingWith_30 c11 (Nat.zero_add _) rfl ?_
        generalize upM q8.2 7 ((232 : Int32) + x2).toNatClampNeg (1 : Int32) = M12 at h ⊢
        exact v9_livingWith_b31  hC hR ih _ _ _ h
def g9_livingWith (a0 : Int32) (M : xMem) : Option (Int32 × xMem) :=
Option.bind (g9_again M) fun q1 =>
g9_livingWith_b6 5000 a0 (0 : Int32) q1
set_option maxHeartbeats 4000000 in
set_option maxRecDepth 20000 in
theorem v9_livingWith {G : xG} (hC : xC G cX9_livingWith 3 RX9 8) {R : Int32 × xMem} (hR : xRI G cX9_livingWith 3 R) {a0 : Int32} {M : xMem} (h : g9_livingWith a0 M = some R) : V G 3 0 [(0, .inr 154), (1, .inl a0)] [] M := by
  unfold g9_livingWith at h
  refine V.aload_n (r := 1) hC 0 dX9_livingWith_0 rfl rfl ?_
  obtain ⟨q1, hq2, h⟩ := Option.bind_eq_some_iff.mp h
  try dsimp only at h
  refine V.invVv (as := []) (st := []) (r := 4) hC (met9_again hq2) yv_X9_again ml_RX9_315 sh_154 rfl rfl dX9_livingWith_1 (by decide) rfl rfl rfl rfl ?_
  refine V.iconst (r := 5) hC dX9_livingWith_4 ki_0 rfl ?_
  refine V.ist_n (lv' := [(0, .inr 154), (1, .inl a0), (2, .inl (0 : Int32))]) (r := 6) hC dX9_livingWith_5 rfl rfl rfl ?_
  exact v9_livingWith_b6  hC hR  5000 _ _ _ h
theorem met9_livingWith {R : Int32 × xMem} {a0 : Int32} {M : xMem} (h : g9_livingWith a0 M = some R) : xMet yX9_livingWith cX9_livingWith 3 (some .int) 8 [.inr 154, .inl a0] M (some R.1) R.2 := xMet.ofI (by decide +kernel) (Nat.le_of_ble_eq_true rfl) fun _ hC hR => v9_livingWith  hC hR h
def g9_laysLiving_b59 (k11 : Int32 → xMem → Option (xMem)) (x1 : Int32) (M : xMem) : Option (xMem) :=
k11 (x1 + (1 : Int32)) M
set_option maxHeartbeats 4000000 in
set_option maxRecDepth 20000 in
theorem v9_laysLiving_b59 {G : xG} (hC : xC G cX9_laysLiving 2 RX9 9) {R : xMem} (hR : xRV G cX9_laysLiving 2 R) {k11 : Int32 → xMem → Option (xMem)} (hk11 : ∀ (y1 : Int32) (N : xMem), k11 y1 N = some R → V G 2 11 [(0, .inr 154), (1, .inl y1)] [] N) (x1 : Int32) (M : xMem) (h : g9_laysLiving_b59 k11 x1 M = some R) : V G 2 59 [(0, .inr 154), (1, .inl x1)] [] M := by
  unfold g9_laysLiving_b59 at h
  refine V.inc (lv' := [(0, .inr 154), (1, .inl (x1 + (1 : Int32)))]) (r := 62) hC 1 dX9_laysLiving_59 rfl ki_1 rfl rfl rfl ?_
  refine V.goto (tgt := 11) hC dX9_laysLiving_62 (by decide) ?_
  exact hk11 _ _ h
def g9_laysLiving_b96 (k67 : Int32 → xMem → Option (xMem)) (x1 : Int32) (M : xMem) : Option (xMem) :=
k67 (x1 + (1 : Int32)) M
set_option maxHeartbeats 4000000 in
set_option maxRecDepth 20000 in
theorem v9_laysLiving_b96 {G : xG} (hC : xC G cX9_laysLiving 2 RX9 9) {R : xMem} (hR : xRV G cX9_laysLiving 2 R) {k67 : Int32 → xMem → Option (xMem)} (hk67 : ∀ (y1 : Int32) (N : xMem), k67 y1 N = some R → V G 2 67 [(0, .inr 154), (1, .inl y1)] [] N) (x1 : Int32) (M : xMem) (h : g9_laysLiving_b96 k67 x1 M = some R) : V G 2 96 [(0, .inr 154), (1, .inl x1)] [] M := by
  unfold g9_laysLiving_b96 at h
  refine V.inc (lv' := [(0, .inr 154), (1, .inl (x1 + (1 : Int32)))]) (r := 99) hC 1 dX9_laysLiving_96 rfl ki_1 rfl rfl rfl ?_
  refine V.goto (tgt := 67) hC dX9_laysLiving_99 (by decide) ?_
  exact hk67 _ _ h
def g9_laysLiving_b67 : Nat → Int32 → xMem → Option (xMem)
  | 0, _, _ => none
  | n + 1, x1, M => 
    (if (512 : Int32) ≤ x1 then
    (Option.bind (g9_again M) fun q17 =>
    some q17)
    else
    (if (x1 &&& ((M 189 0) ^^^ (-1 : Int32))) = 0 then
    (Option.bind (g9_livingWith x1 M) fun q20 =>
    if x1 < 0 ∨ 512 ≤ x1.toNatClampNeg then none else
    mset (upM q20.2 187 x1.toNatClampNeg (q20.1)) fun M23 =>
    g9_laysLiving_b96 (g9_laysLiving_b67 n) x1 M23)
    else
    (g9_laysLiving_b96 (g9_laysLiving_b67 n) x1 M)))
set_option maxHeartbeats 4000000 in
set_option maxRecDepth 20000 in
theorem v9_laysLiving_b67 {G : xG} (hC : xC G cX9_laysLiving 2 RX9 9) {R : xMem} (hR : xRV G cX9_laysLiving 2 R) : ∀ (n : Nat) (x1 : Int32) (M : xMem), g9_laysLiving_b67 n x1 M = some R → V G 2 67 [(0, .inr 154), (1, .inl x1)] [] M := by
  intro n
  induction n with
  | zero => intro x1 M h; rw [g9_laysLiving_b67] at h; cases h
  | succ n ih =>
    intro x1 M h
    rw [g9_laysLiving_b67] at h
    refine V.iload_n (r := 68) hC 1 dX9_laysLiving_67 rfl rfl ?_
    refine V.sipush (r := 71) hC dX9_laysLiving_68 ks_512 rfl ?_
    refine V.icmp_ge (tgt := 102) (r := 74) hC dX9_laysLiving_71 (by decide) rfl (fun c16 => ?_) (fun c16 => ?_)
    · rw [if_pos c16] at h
      refine V.aload_n (r := 103) hC 0 dX9_laysLiving_102 rfl rfl ?_
      obtain ⟨q17, hq18, h⟩ := Option.bind_eq_some_iff.mp h
      try dsimp only at h
      refine V.invVv (as := []) (st := []) (r := 106) hC (met9_again hq18) yv_X9_again ml_RX9_315 sh_154 rfl rfl dX9_laysLiving_103 (by decide) rfl rfl rfl rfl ?_
      cases h
      exact hR _ _ dX9_laysLiving_106
    · rw [if_neg c16] at h
      refine V.iload_n (r := 75) hC 1 dX9_laysLiving_74 rfl rfl ?_
      refine V.aload_n (r := 76) hC 0 dX9_laysLiving_75 rfl rfl ?_
      refine V.getI (b := 189) (i := 0) (j := 29) (r := 79) hC xcl_9 sh_154 fl_RX9_318 dX9_laysLiving_76 (by decide) rfl rfl ?_
      refine V.iconst (r := 80) hC dX9_laysLiving_79 ki_m1 rfl ?_
      refine V.ixor (r := 81) hC dX9_laysLiving_80 rfl ?_
      refine V.iand (r := 82) hC dX9_laysLiving_81 rfl ?_
      refine V.if_ne (tgt := 96) (r := 85) hC dX9_laysLiving_82 (by decide) rfl (fun c19 => ?_) (fun c19 => ?_)
      · rw [if_neg c19] at h
        exact v9_laysLiving_b96  hC hR ih _ _ h
      · rw [if_pos c19] at h
        refine V.aload_n (r := 86) hC 0 dX9_laysLiving_85 rfl rfl ?_
        refine V.getR (k' := 172) (j := 27) (r := 89) hC xcl_9 sh_154 fl_RX9_62 dX9_laysLiving_86 (by decide) rfl rfl ?_
        refine V.iload_n (r := 90) hC 1 dX9_laysLiving_89 rfl rfl ?_
        refine V.aload_n (r := 91) hC 0 dX9_laysLiving_90 rfl rfl ?_
        refine V.iload_n (r := 92) hC 1 dX9_laysLiving_91 rfl rfl ?_
        obtain ⟨q20, hq21, h⟩ := Option.bind_eq_some_iff.mp h
        try dsimp only at h
        refine V.invVi (as := [.inl x1]) (st := [.inl x1, .inr 172]) (r := 95) hC (met9_livingWith hq21) yv_X9_livingWith ml_RX9_321 sh_154 rfl rfl dX9_laysLiving_92 (by decide) rfl rfl rfl rfl ?_
        by_cases c22 : x1 < 0 ∨ 512 ≤ x1.toNatClampNeg
        · rw [if_pos c22] at h; cases h
        rw [if_neg c22] at h
        rw [mset_eq] at h
        refine V.iast (t := x1.toNatClampNeg) (r := 96) hC sh_172 dX9_laysLiving_95 c22 (Nat.zero_add _) rfl ?_
        generalize upM q20.2 187 x1.toNatClampNeg (q20.1) = M23 at h ⊢
        exact v9_laysLiving_b96  hC hR ih _ _ h
def g9_laysLiving_b11 : Nat → Int32 → xMem → Option (xMem)
  | 0, _, _ => none
  | n + 1, x1, M => 
    (if (9 : Int32) ≤ x1 then
    (g9_laysLiving_b67 5000 (0 : Int32) M)
    else
    (Option.bind (g9_isLamp x1 M) fun q5 =>
    if (q5.1) = 0 then
    (g9_laysLiving_b59 (g9_laysLiving_b11 n) x1 q5.2)
    else
    (Option.bind (g9_isLit x1 q5.2) fun q8 =>
    if (q8.1) = 0 then
    (mset (upM q8.2 189 0 ((q8.2 189 0) ||| ((1 : Int32) <<< (x1 &&& 31)))) fun M11 =>
    Option.bind (g9_priceOf x1 M11) fun q12 =>
    if x1 < 0 ∨ 9 ≤ x1.toNatClampNeg then none else
    mset (upM q12.2 188 x1.toNatClampNeg (q12.1)) fun M15 =>
    g9_laysLiving_b59 (g9_laysLiving_b11 n) x1 M15)
    else
    (g9_laysLiving_b59 (g9_laysLiving_b11 n) x1 q8.2))))
set_option maxHeartbeats 4000000 in
set_option maxRecDepth 20000 in
theorem v9_laysLiving_b11 {G : xG} (hC : xC G cX9_laysLiving 2 RX9 9) {R : xMem} (hR : xRV G cX9_laysLiving 2 R) : ∀ (n : Nat) (x1 : Int32) (M : xMem), g9_laysLiving_b11 n x1 M = some R → V G 2 11 [(0, .inr 154), (1, .inl x1)] [] M := by
  intro n
  induction n with
  | zero => intro x1 M h; rw [g9_laysLiving_b11] at h; cases h
  | succ n ih =>
    intro x1 M h
    rw [g9_laysLiving_b11] at h
    refine V.iload_n (r := 12) hC 1 dX9_laysLiving_11 rfl rfl ?_
    refine V.bipush (r := 14) hC dX9_laysLiving_12 kb_9 rfl ?_
    refine V.icmp_ge (tgt := 65) (r := 17) hC dX9_laysLiving_14 (by decide) rfl (fun c4 => ?_) (fun c4 => ?_)
    · rw [if_pos c4] at h
      refine V.iconst (r := 66) hC dX9_laysLiving_65 ki_0 rfl ?_
      refine V.ist_n (lv' := [(0, .inr 154), (1, .inl (0 : Int32))]) (r := 67) hC dX9_laysLiving_66 rfl rfl rfl ?_
      exact v9_laysLiving_b67  hC hR  5000 _ _ h
    · rw [if_neg c4] at h
      refine V.aload_n (r := 18) hC 0 dX9_laysLiving_17 rfl rfl ?_
      refine V.iload_n (r := 19) hC 1 dX9_laysLiving_18 rfl rfl ?_
      obtain ⟨q5, hq6, h⟩ := Option.bind_eq_some_iff.mp h
      try dsimp only at h
      refine V.invVi (as := [.inl x1]) (st := []) (r := 22) hC (met9_isLamp hq6) yv_X9_isLamp ml_RX9_109 sh_154 rfl rfl dX9_laysLiving_19 (by decide) rfl rfl rfl rfl ?_
      refine V.if_eq (tgt := 59) (r := 25) hC dX9_laysLiving_22 (by decide) rfl (fun c7 => ?_) (fun c7 => ?_)
      · rw [if_pos c7] at h
        exact v9_laysLiving_b59  hC hR ih _ _ h
      · rw [if_neg c7] at h
        refine V.aload_n (r := 26) hC 0 dX9_laysLiving_25 rfl rfl ?_
        refine V.iload_n (r := 27) hC 1 dX9_laysLiving_26 rfl rfl ?_
        obtain ⟨q8, hq9, h⟩ := Option.bind_eq_some_iff.mp h
        try dsimp only at h
        refine V.invVi (as := [.inl x1]) (st := []) (r := 30) hC (met9_isLit hq9) yv_X9_isLit ml_RX9_253 sh_154 rfl rfl dX9_laysLiving_27 (by decide) rfl rfl rfl rfl ?_
        refine V.if_eq (tgt := 36) (r := 33) hC dX9_laysLiving_30 (by decide) rfl (fun c10 => ?_) (fun c10 => ?_)
        · rw [if_pos c10] at h
          refine V.aload_n (r := 37) hC 0 dX9_laysLiving_36 rfl rfl ?_
          refine V.aload_n (r := 38) hC 0 dX9_laysLiving_37 rfl rfl ?_
          refine V.getI (b := 189) (i := 0) (j := 29) (r := 41) hC xcl_9 sh_154 fl_RX9_318 dX9_laysLiving_38 (by decide) rfl rfl ?_
          refine V.iconst (r := 42) hC dX9_laysLiving_41 ki_1 rfl ?_
          refine V.iload_n (r := 43) hC 1 dX9_laysLiving_42 rfl rfl ?_
          refine V.ishl (r := 44) hC dX9_laysLiving_43 rfl ?_
          refine V.ior (r := 45) hC dX9_laysLiving_44 rfl ?_
          rw [mset_eq] at h
          refine V.putI (b := 189) (i := 0) (j := 29) (ty := .int) (r := 48) hC xcl_9 xcp_9 sh_154 fl_RX9_318 dX9_laysLiving_45 (by decide) rfl rfl (by decide +kernel) rfl rfl rfl ?_
          generalize upM q8.2 189 0 ((q8.2 189 0) ||| ((1 : Int32) <<< (x1 &&& 31))) = M11 at h ⊢
          refine V.aload_n (r := 49) hC 0 dX9_laysLiving_48 rfl rfl ?_
          refine V.getR (k' := 173) (j := 28) (r := 52) hC xcl_9 sh_154 fl_RX9_65 dX9_laysLiving_49 (by decide) rfl rfl ?_
          refine V.iload_n (r := 53) hC 1 dX9_laysLiving_52 rfl rfl ?_
          refine V.aload_n (r := 54) hC 0 dX9_laysLiving_53 rfl rfl ?_
          refine V.iload_n (r := 55) hC 1 dX9_laysLiving_54 rfl rfl ?_
          obtain ⟨q12, hq13, h⟩ := Option.bind_eq_some_iff.mp h
          try dsimp only at h
          refine V.invVi (as := [.inl x1]) (st := [.inl x1, .inr 173]) (r := 58) hC (met9_priceOf hq13) yv_X9_priceOf ml_RX9_250 sh_154 rfl rfl dX9_laysLiving_55 (by decide) rfl rfl rfl rfl ?_
          by_cases c14 : x1 < 0 ∨ 9 ≤ x1.toNatClampNeg
          · rw [if_pos c14] at h; cases h
          rw [if_neg c14] at h
          rw [mset_eq] at h
          refine V.iast (t := x1.toNatClampNeg) (r := 59) hC sh_173 dX9_laysLiving_58 c14 (Nat.zero_add _) rfl ?_
          generalize upM q12.2 188 x1.toNatClampNeg (q12.1) = M15 at h ⊢
          exact v9_laysLiving_b59  hC hR ih _ _ h
        · rw [if_neg c10] at h
          refine V.goto (tgt := 59) hC dX9_laysLiving_33 (by decide) ?_
          exact v9_laysLiving_b59  hC hR ih _ _ h
def g9_laysLiving (M : xMem) : Option (xMem) :=
Option.bind (g9_begins M) fun q1 =>
mset (upM q1 189 0 (0 : Int32)) fun M3 =>
g9_laysLiving_b11 5000 (0 : Int32) M3
set_option maxHeartbeats 4000000 in
set_option maxRecDepth 20000 in
theorem v9_laysLiving {G : xG} (hC : xC G cX9_laysLiving 2 RX9 9) {R : xMem} (hR : xRV G cX9_laysLiving 2 R) {M : xMem} (h : g9_laysLiving M = some R) : V G 2 0 [(0, .inr 154)] [] M := by
  unfold g9_laysLiving at h
  refine V.aload_n (r := 1) hC 0 dX9_laysLiving_0 rfl rfl ?_
  obtain ⟨q1, hq2, h⟩ := Option.bind_eq_some_iff.mp h
  try dsimp only at h
  refine V.invVv (as := []) (st := []) (r := 4) hC (met9_begins hq2) yv_X9_begins ml_RX9_306 sh_154 rfl rfl dX9_laysLiving_1 (by decide) rfl rfl rfl rfl ?_
  refine V.aload_n (r := 5) hC 0 dX9_laysLiving_4 rfl rfl ?_
  refine V.iconst (r := 6) hC dX9_laysLiving_5 ki_0 rfl ?_
  rw [mset_eq] at h
  refine V.putI (b := 189) (i := 0) (j := 29) (ty := .int) (r := 9) hC xcl_9 xcp_9 sh_154 fl_RX9_318 dX9_laysLiving_6 (by decide) rfl rfl (by decide +kernel) rfl rfl rfl ?_
  generalize upM q1 189 0 (0 : Int32) = M3 at h ⊢
  refine V.iconst (r := 10) hC dX9_laysLiving_9 ki_0 rfl ?_
  refine V.ist_n (lv' := [(0, .inr 154), (1, .inl (0 : Int32))]) (r := 11) hC dX9_laysLiving_10 rfl rfl rfl ?_
  exact v9_laysLiving_b11  hC hR  5000 _ _ h
theorem met9_laysLiving {R : xMem} {M : xMem} (h : g9_laysLiving M = some R) : xMet yX9_laysLiving cX9_laysLiving 2 none 9 [.inr 154] M none R := xMet.ofV (by decide +kernel) (Nat.le_of_ble_eq_true rfl) fun _ hC hR => v9_laysLiving  hC hR h
def g9_costs_b29 (k4 : Int32 → Int32 → Int32 → xMem → Option (Int32 × xMem)) (x1 x3 s0 s1 : Int32) (M : xMem) : Option (Int32 × xMem) :=
k4 x1 (s0 + s1) (x3 + (1 : Int32)) M
set_option maxHeartbeats 4000000 in
set_option maxRecDepth 20000 in
theorem v9_costs_b29 {G : xG} (hC : xC G cX9_costs 4 RX9 1) {R : Int32 × xMem} (hR : xRI G cX9_costs 4 R) {k4 : Int32 → Int32 → Int32 → xMem → Option (Int32 × xMem)} (hk4 : ∀ (y1 y2 y3 : Int32) (N : xMem), k4 y1 y2 y3 N = some R → V G 4 4 [(0, .inr 154), (1, .inl y1), (2, .inl y2), (3, .inl y3)] [] N) (x1 x3 s0 s1 : Int32) (M : xMem) (h : g9_costs_b29 k4 x1 x3 s0 s1 M = some R) : V G 4 29 [(0, .inr 154), (1, .inl x1), (3, .inl x3)] [.inl s1, .inl s0] M := by
  unfold g9_costs_b29 at h
  refine V.iadd (r := 30) hC dX9_costs_29 rfl ?_
  refine V.ist_n (lv' := [(0, .inr 154), (1, .inl x1), (2, .inl (s0 + s1)), (3, .inl x3)]) (r := 31) hC dX9_costs_30 rfl rfl rfl ?_
  refine V.inc (lv' := [(0, .inr 154), (1, .inl x1), (2, .inl (s0 + s1)), (3, .inl (x3 + (1 : Int32)))]) (r := 34) hC 3 dX9_costs_31 rfl ki_1 rfl rfl rfl ?_
  refine V.goto (tgt := 4) hC dX9_costs_34 (by decide) ?_
  exact hk4 _ _ _ _ h
def g9_costs_b4 : Nat → Int32 → Int32 → Int32 → xMem → Option (Int32 × xMem)
  | 0, _, _, _, _ => none
  | n + 1, x1, x2, x3, M => 
    (if (9 : Int32) ≤ x3 then
    (some (x2, M))
    else
    (Option.bind (g9_has x1 x3 M) fun q2 =>
    if (q2.1) = 0 then
    (g9_costs_b29 (g9_costs_b4 n) x1 x3 x2 (0 : Int32) q2.2)
    else
    (if x3 < 0 ∨ 9 ≤ x3.toNatClampNeg then none else
    g9_costs_b29 (g9_costs_b4 n) x1 x3 x2 (q2.2 188 x3.toNatClampNeg) q2.2)))
set_option maxHeartbeats 4000000 in
set_option maxRecDepth 20000 in
theorem v9_costs_b4 {G : xG} (hC : xC G cX9_costs 4 RX9 1) {R : Int32 × xMem} (hR : xRI G cX9_costs 4 R) : ∀ (n : Nat) (x1 x2 x3 : Int32) (M : xMem), g9_costs_b4 n x1 x2 x3 M = some R → V G 4 4 [(0, .inr 154), (1, .inl x1), (2, .inl x2), (3, .inl x3)] [] M := by
  intro n
  induction n with
  | zero => intro x1 x2 x3 M h; rw [g9_costs_b4] at h; cases h
  | succ n ih =>
    intro x1 x2 x3 M h
    rw [g9_costs_b4] at h
    refine V.iload_n (r := 5) hC 3 dX9_costs_4 rfl rfl ?_
    refine V.bipush (r := 7) hC dX9_costs_5 kb_9 rfl ?_
    refine V.icmp_ge (tgt := 37) (r := 10) hC dX9_costs_7 (by decide) rfl (fun c1 => ?_) (fun c1 => ?_)
    · rw [if_pos c1] at h
      refine V.iload_n (r := 38) hC 2 dX9_costs_37 rfl rfl ?_
      cases h
      exact hR _ _ dX9_costs_38
    · rw [if_neg c1] at h
      refine V.iload_n (r := 11) hC 2 dX9_costs_10 rfl rfl ?_
      refine V.iload_n (r := 12) hC 1 dX9_costs_11 rfl rfl ?_
      refine V.iload_n (r := 13) hC 3 dX9_costs_12 rfl rfl ?_
      obtain ⟨q2, hq3, h⟩ := Option.bind_eq_some_iff.mp h
      try dsimp only at h
      refine V.invSi (as := [.inl x1, .inl x3]) (st := [.inl x2]) (r := 16) hC (met9_has hq3) ys_X9_has ml_RX9_226 dX9_costs_13 (by decide) rfl rfl rfl rfl ?_
      refine V.if_eq (tgt := 28) (r := 19) hC dX9_costs_16 (by decide) rfl (fun c4 => ?_) (fun c4 => ?_)
      · rw [if_pos c4] at h
        refine V.iconst (r := 29) hC dX9_costs_28 ki_0 rfl ?_
        refine V.pick (lv' := [(0, .inr 154), (1, .inl x1), (3, .inl x3)]) [0, 1, 3] rfl ?_
        exact v9_costs_b29  hC hR ih _ _ _ _ _ h
      · rw [if_neg c4] at h
        refine V.aload_n (r := 20) hC 0 dX9_costs_19 rfl rfl ?_
        refine V.getR (k' := 173) (j := 28) (r := 23) hC xcl_9 sh_154 fl_RX9_65 dX9_costs_20 (by decide) rfl rfl ?_
        refine V.iload_n (r := 24) hC 3 dX9_costs_23 rfl rfl ?_
        by_cases c5 : x3 < 0 ∨ 9 ≤ x3.toNatClampNeg
        · rw [if_pos c5] at h; cases h
        rw [if_neg c5] at h
        refine V.iald (t := x3.toNatClampNeg) (r := 25) hC sh_173 dX9_costs_24 c5 (Nat.zero_add _) rfl ?_
        refine V.goto (tgt := 29) hC dX9_costs_25 (by decide) ?_
        refine V.pick (lv' := [(0, .inr 154), (1, .inl x1), (3, .inl x3)]) [0, 1, 3] rfl ?_
        exact v9_costs_b29  hC hR ih _ _ _ _ _ h
def g9_costs (a0 : Int32) (M : xMem) : Option (Int32 × xMem) :=
g9_costs_b4 5000 a0 (0 : Int32) (0 : Int32) M
set_option maxHeartbeats 4000000 in
set_option maxRecDepth 20000 in
theorem v9_costs {G : xG} (hC : xC G cX9_costs 4 RX9 1) {R : Int32 × xMem} (hR : xRI G cX9_costs 4 R) {a0 : Int32} {M : xMem} (h : g9_costs a0 M = some R) : V G 4 0 [(0, .inr 154), (1, .inl a0)] [] M := by
  unfold g9_costs at h
  refine V.iconst (r := 1) hC dX9_costs_0 ki_0 rfl ?_
  refine V.ist_n (lv' := [(0, .inr 154), (1, .inl a0), (2, .inl (0 : Int32))]) (r := 2) hC dX9_costs_1 rfl rfl rfl ?_
  refine V.iconst (r := 3) hC dX9_costs_2 ki_0 rfl ?_
  refine V.ist_n (lv' := [(0, .inr 154), (1, .inl a0), (2, .inl (0 : Int32)), (3, .inl (0 : Int32))]) (r := 4) hC dX9_costs_3 rfl rfl rfl ?_
  exact v9_costs_b4  hC hR  5000 _ _ _ _ h
theorem met9_costs {R : Int32 × xMem} {a0 : Int32} {M : xMem} (h : g9_costs a0 M = some R) : xMet yX9_costs cX9_costs 4 (some .int) 1 [.inr 154, .inl a0] M (some R.1) R.2 := xMet.ofI (by decide +kernel) (Nat.le_of_ble_eq_true rfl) fun _ hC hR => v9_costs  hC hR h
def g9_laysPlan_b96 (k7 : Int32 → Int32 → xMem → Option (xMem)) (x1 x2 : Int32) (M : xMem) : Option (xMem) :=
k7 x1 (x2 + (1 : Int32)) M
set_option maxHeartbeats 4000000 in
set_option maxRecDepth 20000 in
theorem v9_laysPlan_b96 {G : xG} (hC : xC G cX9_laysPlan 4 RX9 2) {R : xMem} (hR : xRV G cX9_laysPlan 4 R) {k7 : Int32 → Int32 → xMem → Option (xMem)} (hk7 : ∀ (y1 y2 : Int32) (N : xMem), k7 y1 y2 N = some R → V G 4 7 [(0, .inr 154), (1, .inl y1), (2, .inl y2)] [] N) (x1 x2 : Int32) (M : xMem) (h : g9_laysPlan_b96 k7 x1 x2 M = some R) : V G 4 96 [(0, .inr 154), (1, .inl x1), (2, .inl x2)] [] M := by
  unfold g9_laysPlan_b96 at h
  refine V.inc (lv' := [(0, .inr 154), (1, .inl x1), (2, .inl (x2 + (1 : Int32)))]) (r := 99) hC 2 dX9_laysPlan_96 rfl ki_1 rfl rfl rfl ?_
  refine V.goto (tgt := 7) hC dX9_laysPlan_99 (by decide) ?_
  exact hk7 _ _ _ h
def g9_laysPlan_b76 (k7 : Int32 → Int32 → xMem → Option (xMem)) (x1 x2 x3 : Int32) (M : xMem) : Option (xMem) :=
if x2 < 0 ∨ 512 ≤ x2.toNatClampNeg then none else
mset (upM M 192 0 (M 187 x2.toNatClampNeg)) fun M12 =>
mset (upM M12 191 0 x3) fun M13 =>
mset (upM M13 190 0 x2) fun M14 =>
g9_laysPlan_b96 k7 x1 x2 M14
set_option maxHeartbeats 4000000 in
set_option maxRecDepth 20000 in
theorem v9_laysPlan_b76 {G : xG} (hC : xC G cX9_laysPlan 4 RX9 2) {R : xMem} (hR : xRV G cX9_laysPlan 4 R) {k7 : Int32 → Int32 → xMem → Option (xMem)} (hk7 : ∀ (y1 y2 : Int32) (N : xMem), k7 y1 y2 N = some R → V G 4 7 [(0, .inr 154), (1, .inl y1), (2, .inl y2)] [] N) (x1 x2 x3 : Int32) (M : xMem) (h : g9_laysPlan_b76 k7 x1 x2 x3 M = some R) : V G 4 76 [(0, .inr 154), (1, .inl x1), (2, .inl x2), (3, .inl x3)] [] M := by
  unfold g9_laysPlan_b76 at h
  refine V.aload_n (r := 77) hC 0 dX9_laysPlan_76 rfl rfl ?_
  refine V.aload_n (r := 78) hC 0 dX9_laysPlan_77 rfl rfl ?_
  refine V.getR (k' := 172) (j := 27) (r := 81) hC xcl_9 sh_154 fl_RX9_62 dX9_laysPlan_78 (by decide) rfl rfl ?_
  refine V.iload_n (r := 82) hC 2 dX9_laysPlan_81 rfl rfl ?_
  by_cases c11 : x2 < 0 ∨ 512 ≤ x2.toNatClampNeg
  · rw [if_pos c11] at h; cases h
  rw [if_neg c11] at h
  refine V.iald (t := x2.toNatClampNeg) (r := 83) hC sh_172 dX9_laysPlan_82 c11 (Nat.zero_add _) rfl ?_
  rw [mset_eq] at h
  refine V.putI (b := 192) (i := 0) (j := 32) (ty := .int) (r := 86) hC xcl_9 xcp_9 sh_154 fl_RX9_324 dX9_laysPlan_83 (by decide) rfl rfl (by decide +kernel) rfl rfl rfl ?_
  generalize upM M 192 0 (M 187 x2.toNatClampNeg) = M12 at h ⊢
  refine V.aload_n (r := 87) hC 0 dX9_laysPlan_86 rfl rfl ?_
  refine V.iload_n (r := 88) hC 3 dX9_laysPlan_87 rfl rfl ?_
  rw [mset_eq] at h
  refine V.putI (b := 191) (i := 0) (j := 31) (ty := .int) (r := 91) hC xcl_9 xcp_9 sh_154 fl_RX9_330 dX9_laysPlan_88 (by decide) rfl rfl (by decide +kernel) rfl rfl rfl ?_
  generalize upM M12 191 0 x3 = M13 at h ⊢
  refine V.aload_n (r := 92) hC 0 dX9_laysPlan_91 rfl rfl ?_
  refine V.iload_n (r := 93) hC 2 dX9_laysPlan_92 rfl rfl ?_
  rw [mset_eq] at h
  refine V.putI (b := 190) (i := 0) (j := 30) (ty := .int) (r := 96) hC xcl_9 xcp_9 sh_154 fl_RX9_333 dX9_laysPlan_93 (by decide) rfl rfl (by decide +kernel) rfl rfl rfl ?_
  generalize upM M13 190 0 x2 = M14 at h ⊢
  refine V.pick (lv' := [(0, .inr 154), (1, .inl x1), (2, .inl x2)]) [0, 1, 2] rfl ?_
  exact v9_laysPlan_b96  hC hR hk7 _ _ _ h
def g9_laysPlan_b7 : Nat → Int32 → Int32 → xMem → Option (xMem)
  | 0, _, _, _ => none
  | n + 1, x1, x2, M => 
    (if (512 : Int32) ≤ x2 then
    (some M)
    else
    (if (x2 &&& ((M 189 0) ^^^ (-1 : Int32))) = 0 then
    (Option.bind (g9_costs x2 M) fun q4 =>
    if x1 < (q4.1) then
    (g9_laysPlan_b96 (g9_laysPlan_b7 n) x1 x2 q4.2)
    else
    (if x2 < 0 ∨ 512 ≤ x2.toNatClampNeg then none else
    if (q4.2 187 x2.toNatClampNeg) < (q4.2 192 0) then
    (g9_laysPlan_b96 (g9_laysPlan_b7 n) x1 x2 q4.2)
    else
    (if (q4.2 187 x2.toNatClampNeg) = (q4.2 192 0) then
    (if (q4.1) < (q4.2 191 0) then
    (g9_laysPlan_b76 (g9_laysPlan_b7 n) x1 x2 (q4.1) q4.2)
    else
    (g9_laysPlan_b96 (g9_laysPlan_b7 n) x1 x2 q4.2))
    else
    (g9_laysPlan_b76 (g9_laysPlan_b7 n) x1 x2 (q4.1) q4.2))))
    else
    (g9_laysPlan_b96 (g9_laysPlan_b7 n) x1 x2 M)))
set_option maxHeartbeats 4000000 in
set_option maxRecDepth 20000 in
theorem v9_laysPlan_b7 {G : xG} (hC : xC G cX9_laysPlan 4 RX9 2) {R : xMem} (hR : xRV G cX9_laysPlan 4 R) : ∀ (n : Nat) (x1 x2 : Int32) (M : xMem), g9_laysPlan_b7 n x1 x2 M = some R → V G 4 7 [(0, .inr 154), (1, .inl x1), (2, .inl x2)] [] M := by
  intro n
  induction n with
  | zero => intro x1 x2 M h; rw [g9_laysPlan_b7] at h; cases h
  | succ n ih =>
    intro x1 x2 M h
    rw [g9_laysPlan_b7] at h
    refine V.iload_n (r := 8) hC 2 dX9_laysPlan_7 rfl rfl ?_
    refine V.sipush (r := 11) hC dX9_laysPlan_8 ks_512 rfl ?_
    refine V.icmp_ge (tgt := 102) (r := 14) hC dX9_laysPlan_11 (by decide) rfl (fun c2 => ?_) (fun c2 => ?_)
    · rw [if_pos c2] at h
      cases h
      exact hR _ _ dX9_laysPlan_102
    · rw [if_neg c2] at h
      refine V.iload_n (r := 15) hC 2 dX9_laysPlan_14 rfl rfl ?_
      refine V.aload_n (r := 16) hC 0 dX9_laysPlan_15 rfl rfl ?_
      refine V.getI (b := 189) (i := 0) (j := 29) (r := 19) hC xcl_9 sh_154 fl_RX9_318 dX9_laysPlan_16 (by decide) rfl rfl ?_
      refine V.iconst (r := 20) hC dX9_laysPlan_19 ki_m1 rfl ?_
      refine V.ixor (r := 21) hC dX9_laysPlan_20 rfl ?_
      refine V.iand (r := 22) hC dX9_laysPlan_21 rfl ?_
      refine V.if_eq (tgt := 28) (r := 25) hC dX9_laysPlan_22 (by decide) rfl (fun c3 => ?_) (fun c3 => ?_)
      · rw [if_pos c3] at h
        refine V.aload_n (r := 29) hC 0 dX9_laysPlan_28 rfl rfl ?_
        refine V.iload_n (r := 30) hC 2 dX9_laysPlan_29 rfl rfl ?_
        obtain ⟨q4, hq5, h⟩ := Option.bind_eq_some_iff.mp h
        try dsimp only at h
        refine V.invVi (as := [.inl x2]) (st := []) (r := 33) hC (met9_costs hq5) yv_X9_costs ml_RX9_327 sh_154 rfl rfl dX9_laysPlan_30 (by decide) rfl rfl rfl rfl ?_
        refine V.ist_n (lv' := [(0, .inr 154), (1, .inl x1), (2, .inl x2), (3, .inl (q4.1))]) (r := 34) hC dX9_laysPlan_33 rfl rfl rfl ?_
        refine V.iload_n (r := 35) hC 3 dX9_laysPlan_34 rfl rfl ?_
        refine V.iload_n (r := 36) hC 1 dX9_laysPlan_35 rfl rfl ?_
        refine V.icmp_gt (tgt := 96) (r := 39) hC dX9_laysPlan_36 (by decide) rfl (fun c6 => ?_) (fun c6 => ?_)
        · rw [if_pos c6] at h
          refine V.pick (lv' := [(0, .inr 154), (1, .inl x1), (2, .inl x2)]) [0, 1, 2] rfl ?_
          exact v9_laysPlan_b96  hC hR ih _ _ _ h
        · rw [if_neg c6] at h
          refine V.aload_n (r := 40) hC 0 dX9_laysPlan_39 rfl rfl ?_
          refine V.getR (k' := 172) (j := 27) (r := 43) hC xcl_9 sh_154 fl_RX9_62 dX9_laysPlan_40 (by decide) rfl rfl ?_
          refine V.iload_n (r := 44) hC 2 dX9_laysPlan_43 rfl rfl ?_
          by_cases c7 : x2 < 0 ∨ 512 ≤ x2.toNatClampNeg
          · rw [if_pos c7] at h; cases h
          rw [if_neg c7] at h
          refine V.iald (t := x2.toNatClampNeg) (r := 45) hC sh_172 dX9_laysPlan_44 c7 (Nat.zero_add _) rfl ?_
          refine V.aload_n (r := 46) hC 0 dX9_laysPlan_45 rfl rfl ?_
          refine V.getI (b := 192) (i := 0) (j := 32) (r := 49) hC xcl_9 sh_154 fl_RX9_324 dX9_laysPlan_46 (by decide) rfl rfl ?_
          refine V.icmp_lt (tgt := 96) (r := 52) hC dX9_laysPlan_49 (by decide) rfl (fun c8 => ?_) (fun c8 => ?_)
          · rw [if_pos c8] at h
            refine V.pick (lv' := [(0, .inr 154), (1, .inl x1), (2, .inl x2)]) [0, 1, 2] rfl ?_
            exact v9_laysPlan_b96  hC hR ih _ _ _ h
          · rw [if_neg c8] at h
            refine V.aload_n (r := 53) hC 0 dX9_laysPlan_52 rfl rfl ?_
            refine V.getR (k' := 172) (j := 27) (r := 56) hC xcl_9 sh_154 fl_RX9_62 dX9_laysPlan_53 (by decide) rfl rfl ?_
            refine V.iload_n (r := 57) hC 2 dX9_laysPlan_56 rfl rfl ?_
            refine V.iald (t := x2.toNatClampNeg) (r := 58) hC sh_172 dX9_laysPlan_57 c7 (Nat.zero_add _) rfl ?_
            refine V.aload_n (r := 59) hC 0 dX9_laysPlan_58 rfl rfl ?_
            refine V.getI (b := 192) (i := 0) (j := 32) (r := 62) hC xcl_9 sh_154 fl_RX9_324 dX9_laysPlan_59 (by decide) rfl rfl ?_
            refine V.icmp_ne (tgt := 76) (r := 65) hC dX9_laysPlan_62 (by decide) rfl (fun c9 => ?_) (fun c9 => ?_)
            · rw [if_neg c9] at h
              exact v9_laysPlan_b76  hC hR ih _ _ _ _ h
            · rw [if_pos c9] at h
              refine V.iload_n (r := 66) hC 3 dX9_laysPlan_65 rfl rfl ?_
              refine V.aload_n (r := 67) hC 0 dX9_laysPlan_66 rfl rfl ?_
              refine V.getI (b := 191) (i := 0) (j := 31) (r := 70) hC xcl_9 sh_154 fl_RX9_330 dX9_laysPlan_67 (by decide) rfl rfl ?_
              refine V.icmp_lt (tgt := 76) (r := 73) hC dX9_laysPlan_70 (by decide) rfl (fun c10 => ?_) (fun c10 => ?_)
              · rw [if_pos c10] at h
                exact v9_laysPlan_b76  hC hR ih _ _ _ _ h
              · rw [if_neg c10] at h
                refine V.goto (tgt := 96) hC dX9_laysPlan_73 (by decide) ?_
                refine V.pick (lv' := [(0, .inr 154), (1, .inl x1), (2, .inl x2)]) [0, 1, 2] rfl ?_
                exact v9_laysPlan_b96  hC hR ih _ _ _ h
      · rw [if_neg c3] at h
        refine V.goto (tgt := 96) hC dX9_laysPlan_25 (by decide) ?_
        exact v9_laysPlan_b96  hC hR ih _ _ _ h
def g9_laysPlan (a0 : Int32) (M : xMem) : Option (xMem) :=
mset (upM M 192 0 (-1 : Int32)) fun M1 =>
g9_laysPlan_b7 5000 a0 (0 : Int32) M1
set_option maxHeartbeats 4000000 in
set_option maxRecDepth 20000 in
theorem v9_laysPlan {G : xG} (hC : xC G cX9_laysPlan 4 RX9 2) {R : xMem} (hR : xRV G cX9_laysPlan 4 R) {a0 : Int32} {M : xMem} (h : g9_laysPlan a0 M = some R) : V G 4 0 [(0, .inr 154), (1, .inl a0)] [] M := by
  unfold g9_laysPlan at h
  refine V.aload_n (r := 1) hC 0 dX9_laysPlan_0 rfl rfl ?_
  refine V.iconst (r := 2) hC dX9_laysPlan_1 ki_m1 rfl ?_
  rw [mset_eq] at h
  refine V.putI (b := 192) (i := 0) (j := 32) (ty := .int) (r := 5) hC xcl_9 xcp_9 sh_154 fl_RX9_324 dX9_laysPlan_2 (by decide) rfl rfl (by decide +kernel) rfl rfl rfl ?_
  generalize upM M 192 0 (-1 : Int32) = M1 at h ⊢
  refine V.iconst (r := 6) hC dX9_laysPlan_5 ki_0 rfl ?_
  refine V.ist_n (lv' := [(0, .inr 154), (1, .inl a0), (2, .inl (0 : Int32))]) (r := 7) hC dX9_laysPlan_6 rfl rfl rfl ?_
  exact v9_laysPlan_b7  hC hR  5000 _ _ _ h
theorem met9_laysPlan {R : xMem} {a0 : Int32} {M : xMem} (h : g9_laysPlan a0 M = some R) : xMet yX9_laysPlan cX9_laysPlan 4 none 2 [.inr 154, .inl a0] M none R := xMet.ofV (by decide +kernel) (Nat.le_of_ble_eq_true rfl) fun _ hC hR => v9_laysPlan  hC hR h
def g9_plan (a0 a1 : Int32) (M : xMem) : Option (Int32 × xMem) :=
Option.bind (g9_in a0 (0 : Int32) (9999 : Int32) M) fun q1 =>
if (q1.1) = 0 then
(some ((-1 : Int32), q1.2))
else
(Option.bind (g9_in a1 (0 : Int32) (2 : Int32) q1.2) fun q4 =>
if (q4.1) = 0 then
(some ((-1 : Int32), q4.2))
else
(Option.bind (g9_laysLiving q4.2) fun q7 =>
Option.bind (g9_laysPlan a0 q7) fun q9 =>
if a1 = 0 then
(some (q9 190 0, q9))
else
(if a1 = (1 : Int32) then
(some (q9 191 0, q9))
else
(some (q9 192 0, q9)))))
set_option maxHeartbeats 4000000 in
set_option maxRecDepth 20000 in
theorem v9_plan {G : xG} (hC : xC G cX9_plan 3 RX9 10) {R : Int32 × xMem} (hR : xRI G cX9_plan 3 R) {a0 a1 : Int32} {M : xMem} (h : g9_plan a0 a1 M = some R) : V G 3 0 [(0, .inr 154), (1, .inl a0), (2, .inl a1)] [] M := by
  unfold g9_plan at h
  refine V.iload_n (r := 1) hC 1 dX9_plan_0 rfl rfl ?_
  refine V.iconst (r := 2) hC dX9_plan_1 ki_0 rfl ?_
  refine V.sipush (r := 5) hC dX9_plan_2 ks_9999 rfl ?_
  obtain ⟨q1, hq2, h⟩ := Option.bind_eq_some_iff.mp h
  try dsimp only at h
  refine V.invSi (as := [.inl a0, .inl (0 : Int32), .inl (9999 : Int32)]) (st := []) (r := 8) hC (met9_in hq2) ys_X9_in ml_RX9_92 dX9_plan_5 (by decide) rfl rfl rfl rfl ?_
  refine V.if_eq (tgt := 20) (r := 11) hC dX9_plan_8 (by decide) rfl (fun c3 => ?_) (fun c3 => ?_)
  · rw [if_pos c3] at h
    refine V.iconst (r := 21) hC dX9_plan_20 ki_m1 rfl ?_
    cases h
    exact hR _ _ dX9_plan_21
  · rw [if_neg c3] at h
    refine V.iload_n (r := 12) hC 2 dX9_plan_11 rfl rfl ?_
    refine V.iconst (r := 13) hC dX9_plan_12 ki_0 rfl ?_
    refine V.iconst (r := 14) hC dX9_plan_13 ki_2 rfl ?_
    obtain ⟨q4, hq5, h⟩ := Option.bind_eq_some_iff.mp h
    try dsimp only at h
    refine V.invSi (as := [.inl a1, .inl (0 : Int32), .inl (2 : Int32)]) (st := []) (r := 17) hC (met9_in hq5) ys_X9_in ml_RX9_92 dX9_plan_14 (by decide) rfl rfl rfl rfl ?_
    refine V.if_ne (tgt := 22) (r := 20) hC dX9_plan_17 (by decide) rfl (fun c6 => ?_) (fun c6 => ?_)
    · rw [if_neg c6] at h
      refine V.aload_n (r := 23) hC 0 dX9_plan_22 rfl rfl ?_
      obtain ⟨q7, hq8, h⟩ := Option.bind_eq_some_iff.mp h
      try dsimp only at h
      refine V.invVv (as := []) (st := []) (r := 26) hC (met9_laysLiving hq8) yv_X9_laysLiving ml_RX9_336 sh_154 rfl rfl dX9_plan_23 (by decide) rfl rfl rfl rfl ?_
      refine V.aload_n (r := 27) hC 0 dX9_plan_26 rfl rfl ?_
      refine V.iload_n (r := 28) hC 1 dX9_plan_27 rfl rfl ?_
      obtain ⟨q9, hq10, h⟩ := Option.bind_eq_some_iff.mp h
      try dsimp only at h
      refine V.invVv (as := [.inl a0]) (st := []) (r := 31) hC (met9_laysPlan hq10) yv_X9_laysPlan ml_RX9_339 sh_154 rfl rfl dX9_plan_28 (by decide) rfl rfl rfl rfl ?_
      refine V.iload_n (r := 32) hC 2 dX9_plan_31 rfl rfl ?_
      refine V.if_ne (tgt := 42) (r := 35) hC dX9_plan_32 (by decide) rfl (fun c11 => ?_) (fun c11 => ?_)
      · rw [if_neg c11] at h
        refine V.iload_n (r := 43) hC 2 dX9_plan_42 rfl rfl ?_
        refine V.iconst (r := 44) hC dX9_plan_43 ki_1 rfl ?_
        refine V.icmp_ne (tgt := 54) (r := 47) hC dX9_plan_44 (by decide) rfl (fun c12 => ?_) (fun c12 => ?_)
        · rw [if_neg c12] at h
          refine V.aload_n (r := 55) hC 0 dX9_plan_54 rfl rfl ?_
          refine V.getI (b := 192) (i := 0) (j := 32) (r := 58) hC xcl_9 sh_154 fl_RX9_324 dX9_plan_55 (by decide) rfl rfl ?_
          cases h
          exact hR _ _ dX9_plan_58
        · rw [if_pos c12] at h
          refine V.aload_n (r := 48) hC 0 dX9_plan_47 rfl rfl ?_
          refine V.getI (b := 191) (i := 0) (j := 31) (r := 51) hC xcl_9 sh_154 fl_RX9_330 dX9_plan_48 (by decide) rfl rfl ?_
          refine V.goto (tgt := 58) hC dX9_plan_51 (by decide) ?_
          cases h
          exact hR _ _ dX9_plan_58
      · rw [if_pos c11] at h
        refine V.aload_n (r := 36) hC 0 dX9_plan_35 rfl rfl ?_
        refine V.getI (b := 190) (i := 0) (j := 30) (r := 39) hC xcl_9 sh_154 fl_RX9_333 dX9_plan_36 (by decide) rfl rfl ?_
        refine V.goto (tgt := 58) hC dX9_plan_39 (by decide) ?_
        cases h
        exact hR _ _ dX9_plan_58
    · rw [if_pos c6] at h
      refine V.iconst (r := 21) hC dX9_plan_20 ki_m1 rfl ?_
      cases h
      exact hR _ _ dX9_plan_21
theorem met9_plan {R : Int32 × xMem} {a0 a1 : Int32} {M : xMem} (h : g9_plan a0 a1 M = some R) : xMet yX9_plan cX9_plan 3 (some .int) 10 [.inr 154, .inl a0, .inl a1] M (some R.1) R.2 := xMet.ofI (by decide +kernel) (Nat.le_of_ble_eq_true rfl) fun _ hC hR => v9_plan  hC hR h
def g9_safe_b70 (k19 : Int32 → Int32 → Int32 → xMem → Option (Int32 × xMem)) (x1 x2 x3 : Int32) (M : xMem) : Option (Int32 × xMem) :=
k19 x1 x2 (x3 + (1 : Int32)) M
set_option maxHeartbeats 4000000 in
set_option maxRecDepth 20000 in
theorem v9_safe_b70 {G : xG} (hC : xC G cX9_safe 4 RX9 10) {R : Int32 × xMem} (hR : xRI G cX9_safe 4 R) {k19 : Int32 → Int32 → Int32 → xMem → Option (Int32 × xMem)} (hk19 : ∀ (y1 y2 y3 : Int32) (N : xMem), k19 y1 y2 y3 N = some R → V G 4 19 [(0, .inr 154), (1, .inl y1), (2, .inl y2), (3, .inl y3)] [] N) (x1 x2 x3 : Int32) (M : xMem) (h : g9_safe_b70 k19 x1 x2 x3 M = some R) : V G 4 70 [(0, .inr 154), (1, .inl x1), (2, .inl x2), (3, .inl x3)] [] M := by
  unfold g9_safe_b70 at h
  refine V.inc (lv' := [(0, .inr 154), (1, .inl x1), (2, .inl x2), (3, .inl (x3 + (1 : Int32)))]) (r := 73) hC 3 dX9_safe_70 rfl ki_1 rfl rfl rfl ?_
  refine V.goto (tgt := 19) hC dX9_safe_73 (by decide) ?_
  exact hk19 _ _ _ _ h
def g9_safe_b68 (k19 : Int32 → Int32 → Int32 → xMem → Option (Int32 × xMem)) (x1 x3 : Int32) (M : xMem) : Option (Int32 × xMem) :=
g9_safe_b70 k19 x1 x3 x3 M
set_option maxHeartbeats 4000000 in
set_option maxRecDepth 20000 in
theorem v9_safe_b68 {G : xG} (hC : xC G cX9_safe 4 RX9 10) {R : Int32 × xMem} (hR : xRI G cX9_safe 4 R) {k19 : Int32 → Int32 → Int32 → xMem → Option (Int32 × xMem)} (hk19 : ∀ (y1 y2 y3 : Int32) (N : xMem), k19 y1 y2 y3 N = some R → V G 4 19 [(0, .inr 154), (1, .inl y1), (2, .inl y2), (3, .inl y3)] [] N) (x1 x3 : Int32) (M : xMem) (h : g9_safe_b68 k19 x1 x3 M = some R) : V G 4 68 [(0, .inr 154), (1, .inl x1), (3, .inl x3)] [] M := by
  unfold g9_safe_b68 at h
  refine V.iload_n (r := 69) hC 2 dX9_safe_68 rfl rfl ?_
  refine V.ist_n (lv' := [(0, .inr 154), (1, .inl x1), (2, .inl x3), (3, .inl x3)]) (r := 70) hC dX9_safe_69 rfl rfl rfl ?_
  exact v9_safe_b70  hC hR hk19 _ _ _ _ h
def g9_safe_b19 : Nat → Int32 → Int32 → Int32 → xMem → Option (Int32 × xMem)
  | 0, _, _, _, _ => none
  | n + 1, x1, x2, x3, M => 
    (if (512 : Int32) ≤ x3 then
    (if x2 = (-1 : Int32) then
    (some ((-2 : Int32), M))
    else
    (if x1 = 0 then
    (some (x2, M))
    else
    (Option.bind (g9_costs x2 M) fun q9 =>
    some (q9.1, q9.2))))
    else
    (if (x3 &&& ((M 189 0) ^^^ (-1 : Int32))) = 0 then
    (if x3 < 0 ∨ 512 ≤ x3.toNatClampNeg then none else
    Option.bind (g9_living M) fun q13 =>
    if (M 187 x3.toNatClampNeg) = (q13.1) then
    (if x2 = (-1 : Int32) then
    (g9_safe_b68 (g9_safe_b19 n) x1 x3 q13.2)
    else
    (Option.bind (g9_costs x3 q13.2) fun q17 =>
    Option.bind (g9_costs x2 q17.2) fun q19 =>
    if (q19.1) ≤ (q17.1) then
    (g9_safe_b70 (g9_safe_b19 n) x1 x2 x3 q19.2)
    else
    (g9_safe_b68 (g9_safe_b19 n) x1 x3 q19.2)))
    else
    (g9_safe_b70 (g9_safe_b19 n) x1 x2 x3 q13.2))
    else
    (g9_safe_b70 (g9_safe_b19 n) x1 x2 x3 M)))
set_option maxHeartbeats 4000000 in
set_option maxRecDepth 20000 in
theorem v9_safe_b19 {G : xG} (hC : xC G cX9_safe 4 RX9 10) {R : Int32 × xMem} (hR : xRI G cX9_safe 4 R) : ∀ (n : Nat) (x1 x2 x3 : Int32) (M : xMem), g9_safe_b19 n x1 x2 x3 M = some R → V G 4 19 [(0, .inr 154), (1, .inl x1), (2, .inl x2), (3, .inl x3)] [] M := by
  intro n
  induction n with
  | zero => intro x1 x2 x3 M h; rw [g9_safe_b19] at h; cases h
  | succ n ih =>
    intro x1 x2 x3 M h
    rw [g9_safe_b19] at h
    refine V.iload_n (r := 20) hC 3 dX9_safe_19 rfl rfl ?_
    refine V.sipush (r := 23) hC dX9_safe_20 ks_512 rfl ?_
    refine V.icmp_ge (tgt := 76) (r := 26) hC dX9_safe_23 (by decide) rfl (fun c6 => ?_) (fun c6 => ?_)
    · rw [if_pos c6] at h
      refine V.iload_n (r := 77) hC 2 dX9_safe_76 rfl rfl ?_
      refine V.iconst (r := 78) hC dX9_safe_77 ki_m1 rfl ?_
      refine V.icmp_ne (tgt := 86) (r := 81) hC dX9_safe_78 (by decide) rfl (fun c7 => ?_) (fun c7 => ?_)
      · rw [if_neg c7] at h
        refine V.iload_n (r := 87) hC 1 dX9_safe_86 rfl rfl ?_
        refine V.if_ne (tgt := 94) (r := 90) hC dX9_safe_87 (by decide) rfl (fun c8 => ?_) (fun c8 => ?_)
        · rw [if_neg c8] at h
          refine V.aload_n (r := 95) hC 0 dX9_safe_94 rfl rfl ?_
          refine V.iload_n (r := 96) hC 2 dX9_safe_95 rfl rfl ?_
          obtain ⟨q9, hq10, h⟩ := Option.bind_eq_some_iff.mp h
          try dsimp only at h
          refine V.invVi (as := [.inl x2]) (st := []) (r := 99) hC (met9_costs hq10) yv_X9_costs ml_RX9_327 sh_154 rfl rfl dX9_safe_96 (by decide) rfl rfl rfl rfl ?_
          cases h
          exact hR _ _ dX9_safe_99
        · rw [if_pos c8] at h
          refine V.iload_n (r := 91) hC 2 dX9_safe_90 rfl rfl ?_
          refine V.goto (tgt := 99) hC dX9_safe_91 (by decide) ?_
          cases h
          exact hR _ _ dX9_safe_99
      · rw [if_pos c7] at h
        refine V.bipush (r := 83) hC dX9_safe_81 kb_m2 rfl ?_
        refine V.goto (tgt := 99) hC dX9_safe_83 (by decide) ?_
        cases h
        exact hR _ _ dX9_safe_99
    · rw [if_neg c6] at h
      refine V.iload_n (r := 27) hC 3 dX9_safe_26 rfl rfl ?_
      refine V.aload_n (r := 28) hC 0 dX9_safe_27 rfl rfl ?_
      refine V.getI (b := 189) (i := 0) (j := 29) (r := 31) hC xcl_9 sh_154 fl_RX9_318 dX9_safe_28 (by decide) rfl rfl ?_
      refine V.iconst (r := 32) hC dX9_safe_31 ki_m1 rfl ?_
      refine V.ixor (r := 33) hC dX9_safe_32 rfl ?_
      refine V.iand (r := 34) hC dX9_safe_33 rfl ?_
      refine V.if_ne (tgt := 70) (r := 37) hC dX9_safe_34 (by decide) rfl (fun c11 => ?_) (fun c11 => ?_)
      · rw [if_neg c11] at h
        exact v9_safe_b70  hC hR ih _ _ _ _ h
      · rw [if_pos c11] at h
        refine V.aload_n (r := 38) hC 0 dX9_safe_37 rfl rfl ?_
        refine V.getR (k' := 172) (j := 27) (r := 41) hC xcl_9 sh_154 fl_RX9_62 dX9_safe_38 (by decide) rfl rfl ?_
        refine V.iload_n (r := 42) hC 3 dX9_safe_41 rfl rfl ?_
        by_cases c12 : x3 < 0 ∨ 512 ≤ x3.toNatClampNeg
        · rw [if_pos c12] at h; cases h
        rw [if_neg c12] at h
        refine V.iald (t := x3.toNatClampNeg) (r := 43) hC sh_172 dX9_safe_42 c12 (Nat.zero_add _) rfl ?_
        refine V.aload_n (r := 44) hC 0 dX9_safe_43 rfl rfl ?_
        obtain ⟨q13, hq14, h⟩ := Option.bind_eq_some_iff.mp h
        try dsimp only at h
        refine V.invVi (as := []) (st := [.inl (M 187 x3.toNatClampNeg)]) (r := 47) hC (met9_living hq14) yv_X9_living ml_RX9_309 sh_154 rfl rfl dX9_safe_44 (by decide) rfl rfl rfl rfl ?_
        refine V.icmp_ne (tgt := 70) (r := 50) hC dX9_safe_47 (by decide) rfl (fun c15 => ?_) (fun c15 => ?_)
        · rw [if_neg c15] at h
          exact v9_safe_b70  hC hR ih _ _ _ _ h
        · rw [if_pos c15] at h
          refine V.iload_n (r := 51) hC 2 dX9_safe_50 rfl rfl ?_
          refine V.iconst (r := 52) hC dX9_safe_51 ki_m1 rfl ?_
          refine V.icmp_eq (tgt := 68) (r := 55) hC dX9_safe_52 (by decide) rfl (fun c16 => ?_) (fun c16 => ?_)
          · rw [if_pos c16] at h
            refine V.pick (lv' := [(0, .inr 154), (1, .inl x1), (3, .inl x3)]) [0, 1, 3] rfl ?_
            exact v9_safe_b68  hC hR ih _ _ _ h
          · rw [if_neg c16] at h
            refine V.aload_n (r := 56) hC 0 dX9_safe_55 rfl rfl ?_
            refine V.iload_n (r := 57) hC 3 dX9_safe_56 rfl rfl ?_
            obtain ⟨q17, hq18, h⟩ := Option.bind_eq_some_iff.mp h
            try dsimp only at h
            refine V.invVi (as := [.inl x3]) (st := []) (r := 60) hC (met9_costs hq18) yv_X9_costs ml_RX9_327 sh_154 rfl rfl dX9_safe_57 (by decide) rfl rfl rfl rfl ?_
            refine V.aload_n (r := 61) hC 0 dX9_safe_60 rfl rfl ?_
            refine V.iload_n (r := 62) hC 2 dX9_safe_61 rfl rfl ?_
            obtain ⟨q19, hq20, h⟩ := Option.bind_eq_some_iff.mp h
            try dsimp only at h
            refine V.invVi (as := [.inl x2]) (st := [.inl (q17.1)]) (r := 65) hC (met9_costs hq20) yv_X9_costs ml_RX9_327 sh_154 rfl rfl dX9_safe_62 (by decide) rfl rfl rfl rfl ?_
            refine V.icmp_ge (tgt := 70) (r := 68) hC dX9_safe_65 (by decide) rfl (fun c21 => ?_) (fun c21 => ?_)
            · rw [if_pos c21] at h
              exact v9_safe_b70  hC hR ih _ _ _ _ h
            · rw [if_neg c21] at h
              refine V.pick (lv' := [(0, .inr 154), (1, .inl x1), (3, .inl x3)]) [0, 1, 3] rfl ?_
              exact v9_safe_b68  hC hR ih _ _ _ h
def g9_safe (a0 : Int32) (M : xMem) : Option (Int32 × xMem) :=
Option.bind (g9_in a0 (0 : Int32) (1 : Int32) M) fun q1 =>
if (q1.1) = 0 then
(some ((-1 : Int32), q1.2))
else
(Option.bind (g9_laysLiving q1.2) fun q4 =>
g9_safe_b19 5000 a0 (-1 : Int32) (0 : Int32) q4)
set_option maxHeartbeats 4000000 in
set_option maxRecDepth 20000 in
theorem v9_safe {G : xG} (hC : xC G cX9_safe 4 RX9 10) {R : Int32 × xMem} (hR : xRI G cX9_safe 4 R) {a0 : Int32} {M : xMem} (h : g9_safe a0 M = some R) : V G 4 0 [(0, .inr 154), (1, .inl a0)] [] M := by
  unfold g9_safe at h
  refine V.iload_n (r := 1) hC 1 dX9_safe_0 rfl rfl ?_
  refine V.iconst (r := 2) hC dX9_safe_1 ki_0 rfl ?_
  refine V.iconst (r := 3) hC dX9_safe_2 ki_1 rfl ?_
  obtain ⟨q1, hq2, h⟩ := Option.bind_eq_some_iff.mp h
  try dsimp only at h
  refine V.invSi (as := [.inl a0, .inl (0 : Int32), .inl (1 : Int32)]) (st := []) (r := 6) hC (met9_in hq2) ys_X9_in ml_RX9_92 dX9_safe_3 (by decide) rfl rfl rfl rfl ?_
  refine V.if_ne (tgt := 11) (r := 9) hC dX9_safe_6 (by decide) rfl (fun c3 => ?_) (fun c3 => ?_)
  · rw [if_neg c3] at h
    refine V.aload_n (r := 12) hC 0 dX9_safe_11 rfl rfl ?_
    obtain ⟨q4, hq5, h⟩ := Option.bind_eq_some_iff.mp h
    try dsimp only at h
    refine V.invVv (as := []) (st := []) (r := 15) hC (met9_laysLiving hq5) yv_X9_laysLiving ml_RX9_336 sh_154 rfl rfl dX9_safe_12 (by decide) rfl rfl rfl rfl ?_
    refine V.iconst (r := 16) hC dX9_safe_15 ki_m1 rfl ?_
    refine V.ist_n (lv' := [(0, .inr 154), (1, .inl a0), (2, .inl (-1 : Int32))]) (r := 17) hC dX9_safe_16 rfl rfl rfl ?_
    refine V.iconst (r := 18) hC dX9_safe_17 ki_0 rfl ?_
    refine V.ist_n (lv' := [(0, .inr 154), (1, .inl a0), (2, .inl (-1 : Int32)), (3, .inl (0 : Int32))]) (r := 19) hC dX9_safe_18 rfl rfl rfl ?_
    exact v9_safe_b19  hC hR  5000 _ _ _ _ h
  · rw [if_pos c3] at h
    refine V.iconst (r := 10) hC dX9_safe_9 ki_m1 rfl ?_
    cases h
    exact hR _ _ dX9_safe_10
theorem met9_safe {R : Int32 × xMem} {a0 : Int32} {M : xMem} (h : g9_safe a0 M = some R) : xMet yX9_safe cX9_safe 4 (some .int) 10 [.inr 154, .inl a0] M (some R.1) R.2 := xMet.ofI (by decide +kernel) (Nat.le_of_ble_eq_true rfl) fun _ hC hR => v9_safe  hC hR h
def g9_place_b122 (k38 : Int32 → Int32 → Int32 → Int32 → Int32 → xMem → Option (Int32 × xMem)) (x1 x2 x3 x4 x5 : Int32) (M : xMem) : Option (Int32 × xMem) :=
k38 x1 x2 x3 x4 (x5 + (1 : Int32)) M
set_option maxHeartbeats 4000000 in
set_option maxRecDepth 20000 in
theorem v9_place_b122 {G : xG} (hC : xC G cX9_place 6 RX9 8) {R : Int32 × xMem} (hR : xRI G cX9_place 6 R) {k38 : Int32 → Int32 → Int32 → Int32 → Int32 → xMem → Option (Int32 × xMem)} (hk38 : ∀ (y1 y2 y3 y4 y5 : Int32) (N : xMem), k38 y1 y2 y3 y4 y5 N = some R → V G 6 38 [(0, .inr 154), (1, .inl y1), (2, .inl y2), (3, .inl y3), (4, .inl y4), (5, .inl y5)] [] N) (x1 x2 x3 x4 x5 : Int32) (M : xMem) (h : g9_place_b122 k38 x1 x2 x3 x4 x5 M = some R) : V G 6 122 [(0, .inr 154), (1, .inl x1), (2, .inl x2), (3, .inl x3), (4, .inl x4), (5, .inl x5)] [] M := by
  unfold g9_place_b122 at h
  refine V.inc (lv' := [(0, .inr 154), (1, .inl x1), (2, .inl x2), (3, .inl x3), (4, .inl x4), (5, .inl (x5 + (1 : Int32)))]) (r := 125) hC 5 dX9_place_122 rfl ki_1 rfl rfl rfl ?_
  refine V.goto (tgt := 38) hC dX9_place_125 (by decide) ?_
  exact hk38 _ _ _ _ _ _ h
def g9_place_b38 : Nat → Int32 → Int32 → Int32 → Int32 → Int32 → xMem → Option (Int32 × xMem)
  | 0, _, _, _, _, _, _ => none
  | n + 1, x1, x2, x3, x4, x5, M => 
    (if (196 : Int32) ≤ x5 then
    (Option.bind (g9_again M) fun q13 =>
    if x3 = (-1 : Int32) then
    (some ((-1 : Int32), q13))
    else
    (if x2 = 0 then
    (some (x3, q13))
    else
    (some (x4, q13))))
    else
    (Option.bind (g9_again M) fun q17 =>
    Option.bind (g9_isRock x5 q17) fun q19 =>
    if (q19.1) = 0 then
    (if ((208 : Int32) + x1) < 0 ∨ 331 ≤ ((208 : Int32) + x1).toNatClampNeg then none else
    mset (upM q19.2 7 ((208 : Int32) + x1).toNatClampNeg x5) fun M23 =>
    if ((232 : Int32) + x1) < 0 ∨ 331 ≤ ((232 : Int32) + x1).toNatClampNeg then none else
    mset (upM M23 7 ((232 : Int32) + x1).toNatClampNeg (1 : Int32)) fun M25 =>
    Option.bind (g9_runs ((8 : Int32) - (M25 7 328)) M25) fun q26 =>
    Option.bind (g9_living q26.2) fun q28 =>
    if x4 < (q28.1) then
    (Option.bind (g9_living q28.2) fun q31 =>
    g9_place_b122 (g9_place_b38 n) x1 x2 x5 (q31.1) x5 q31.2)
    else
    (g9_place_b122 (g9_place_b38 n) x1 x2 x3 x4 x5 q28.2))
    else
    (g9_place_b122 (g9_place_b38 n) x1 x2 x3 x4 x5 q19.2)))
set_option maxHeartbeats 4000000 in
set_option maxRecDepth 20000 in
theorem v9_place_b38 {G : xG} (hC : xC G cX9_place 6 RX9 8) {R : Int32 × xMem} (hR : xRI G cX9_place 6 R) : ∀ (n : Nat) (x1 x2 x3 x4 x5 : Int32) (M : xMem), g9_place_b38 n x1 x2 x3 x4 x5 M = some R → V G 6 38 [(0, .inr 154), (1, .inl x1), (2, .inl x2), (3, .inl x3), (4, .inl x4), (5, .inl x5)] [] M := by
  intro n
  induction n with
  | zero => intro x1 x2 x3 x4 x5 M h; rw [g9_place_b38] at h; cases h
  | succ n ih =>
    intro x1 x2 x3 x4 x5 M h
    rw [g9_place_b38] at h
    refine V.iload (r := 40) hC 5 dX9_place_38 rfl rfl ?_
    refine V.sipush (r := 43) hC dX9_place_40 ks_196 rfl ?_
    refine V.icmp_ge (tgt := 128) (r := 46) hC dX9_place_43 (by decide) rfl (fun c12 => ?_) (fun c12 => ?_)
    · rw [if_pos c12] at h
      refine V.aload_n (r := 129) hC 0 dX9_place_128 rfl rfl ?_
      obtain ⟨q13, hq14, h⟩ := Option.bind_eq_some_iff.mp h
      try dsimp only at h
      refine V.invVv (as := []) (st := []) (r := 132) hC (met9_again hq14) yv_X9_again ml_RX9_315 sh_154 rfl rfl dX9_place_129 (by decide) rfl rfl rfl rfl ?_
      refine V.iload_n (r := 133) hC 3 dX9_place_132 rfl rfl ?_
      refine V.iconst (r := 134) hC dX9_place_133 ki_m1 rfl ?_
      refine V.icmp_ne (tgt := 141) (r := 137) hC dX9_place_134 (by decide) rfl (fun c15 => ?_) (fun c15 => ?_)
      · rw [if_neg c15] at h
        refine V.iload_n (r := 142) hC 2 dX9_place_141 rfl rfl ?_
        refine V.if_ne (tgt := 149) (r := 145) hC dX9_place_142 (by decide) rfl (fun c16 => ?_) (fun c16 => ?_)
        · rw [if_neg c16] at h
          refine V.iload (r := 151) hC 4 dX9_place_149 rfl rfl ?_
          cases h
          exact hR _ _ dX9_place_151
        · rw [if_pos c16] at h
          refine V.iload_n (r := 146) hC 3 dX9_place_145 rfl rfl ?_
          refine V.goto (tgt := 151) hC dX9_place_146 (by decide) ?_
          cases h
          exact hR _ _ dX9_place_151
      · rw [if_pos c15] at h
        refine V.iconst (r := 138) hC dX9_place_137 ki_m1 rfl ?_
        refine V.goto (tgt := 151) hC dX9_place_138 (by decide) ?_
        cases h
        exact hR _ _ dX9_place_151
    · rw [if_neg c12] at h
      refine V.aload_n (r := 47) hC 0 dX9_place_46 rfl rfl ?_
      obtain ⟨q17, hq18, h⟩ := Option.bind_eq_some_iff.mp h
      try dsimp only at h
      refine V.invVv (as := []) (st := []) (r := 50) hC (met9_again hq18) yv_X9_again ml_RX9_315 sh_154 rfl rfl dX9_place_47 (by decide) rfl rfl rfl rfl ?_
      refine V.aload_n (r := 51) hC 0 dX9_place_50 rfl rfl ?_
      refine V.iload (r := 53) hC 5 dX9_place_51 rfl rfl ?_
      obtain ⟨q19, hq20, h⟩ := Option.bind_eq_some_iff.mp h
      try dsimp only at h
      refine V.invVi (as := [.inl x5]) (st := []) (r := 56) hC (met9_isRock hq20) yv_X9_isRock ml_RX9_99 sh_154 rfl rfl dX9_place_53 (by decide) rfl rfl rfl rfl ?_
      refine V.if_eq (tgt := 62) (r := 59) hC dX9_place_56 (by decide) rfl (fun c21 => ?_) (fun c21 => ?_)
      · rw [if_pos c21] at h
        refine V.aload_n (r := 63) hC 0 dX9_place_62 rfl rfl ?_
        refine V.getR (k' := 155) (j := 0) (r := 66) hC xcl_9 sh_154 fl_RX9_7 dX9_place_63 (by decide) rfl rfl ?_
        refine V.sipush (r := 69) hC dX9_place_66 ks_208 rfl ?_
        refine V.iload_n (r := 70) hC 1 dX9_place_69 rfl rfl ?_
        refine V.iadd (r := 71) hC dX9_place_70 rfl ?_
        refine V.iload (r := 73) hC 5 dX9_place_71 rfl rfl ?_
        by_cases c22 : ((208 : Int32) + x1) < 0 ∨ 331 ≤ ((208 : Int32) + x1).toNatClampNeg
        · rw [if_pos c22] at h; cases h
        rw [if_neg c22] at h
        rw [mset_eq] at h
        refine V.iast (t := ((208 : Int32) + x1).toNatClampNeg) (r := 74) hC sh_155 dX9_place_73 c22 (Nat.zero_add _) rfl ?_
        generalize upM q19.2 7 ((208 : Int32) + x1).toNatClampNeg x5 = M23 at h ⊢
        refine V.aload_n (r := 75) hC 0 dX9_place_74 rfl rfl ?_
        refine V.getR (k' := 155) (j := 0) (r := 78) hC xcl_9 sh_154 fl_RX9_7 dX9_place_75 (by decide) rfl rfl ?_
        refine V.sipush (r := 81) hC dX9_place_78 ks_232 rfl ?_
        refine V.iload_n (r := 82) hC 1 dX9_place_81 rfl rfl ?_
        refine V.iadd (r := 83) hC dX9_place_82 rfl ?_
        refine V.iconst (r := 84) hC dX9_place_83 ki_1 rfl ?_
        by_cases c24 : ((232 : Int32) + x1) < 0 ∨ 331 ≤ ((232 : Int32) + x1).toNatClampNeg
        · rw [if_pos c24] at h; cases h
        rw [if_neg c24] at h
        rw [mset_eq] at h
        refine V.iast (t := ((232 : Int32) + x1).toNatClampNeg) (r := 85) hC sh_155 dX9_place_84 c24 (Nat.zero_add _) rfl ?_
        generalize upM M23 7 ((232 : Int32) + x1).toNatClampNeg (1 : Int32) = M25 at h ⊢
        refine V.aload_n (r := 86) hC 0 dX9_place_85 rfl rfl ?_
        refine V.bipush (r := 88) hC dX9_place_86 kb_8 rfl ?_
        refine V.aload_n (r := 89) hC 0 dX9_place_88 rfl rfl ?_
        refine V.getR (k' := 155) (j := 0) (r := 92) hC xcl_9 sh_154 fl_RX9_7 dX9_place_89 (by decide) rfl rfl ?_
        refine V.sipush (r := 95) hC dX9_place_92 ks_328 rfl ?_
        refine V.iald (t := 328) (r := 96) hC sh_155 dX9_place_95 (by decide) (by decide) rfl ?_
        refine V.isub (r := 97) hC dX9_place_96 rfl ?_
        obtain ⟨q26, hq27, h⟩ := Option.bind_eq_some_iff.mp h
        try dsimp only at h
        refine V.invVi (as := [.inl ((8 : Int32) - (M25 7 328))]) (st := []) (r := 100) hC (met9_runs hq27) yv_X9_runs ml_RX9_299 sh_154 rfl rfl dX9_place_97 (by decide) rfl rfl rfl rfl ?_
        refine V.pop (r := 101) hC dX9_place_100 rfl ?_
        refine V.aload_n (r := 102) hC 0 dX9_place_101 rfl rfl ?_
        obtain ⟨q28, hq29, h⟩ := Option.bind_eq_some_iff.mp h
        try dsimp only at h
        refine V.invVi (as := []) (st := []) (r := 105) hC (met9_living hq29) yv_X9_living ml_RX9_309 sh_154 rfl rfl dX9_place_102 (by decide) rfl rfl rfl rfl ?_
        refine V.iload (r := 107) hC 4 dX9_place_105 rfl rfl ?_
        refine V.icmp_gt (tgt := 113) (r := 110) hC dX9_place_107 (by decide) rfl (fun c30 => ?_) (fun c30 => ?_)
        · rw [if_pos c30] at h
          refine V.aload_n (r := 114) hC 0 dX9_place_113 rfl rfl ?_
          obtain ⟨q31, hq32, h⟩ := Option.bind_eq_some_iff.mp h
          try dsimp only at h
          refine V.invVi (as := []) (st := []) (r := 117) hC (met9_living hq32) yv_X9_living ml_RX9_309 sh_154 rfl rfl dX9_place_114 (by decide) rfl rfl rfl rfl ?_
          refine V.ist (lv' := [(0, .inr 154), (1, .inl x1), (2, .inl x2), (3, .inl x3), (4, .inl (q31.1)), (5, .inl x5)]) (r := 119) hC dX9_place_117 rfl rfl rfl ?_
          refine V.iload (r := 121) hC 5 dX9_place_119 rfl rfl ?_
          refine V.ist_n (lv' := [(0, .inr 154), (1, .inl x1), (2, .inl x2), (3, .inl x5), (4, .inl (q31.1)), (5, .inl x5)]) (r := 122) hC dX9_place_121 rfl rfl rfl ?_
          exact v9_place_b122  hC hR ih _ _ _ _ _ _ h
        · rw [if_neg c30] at h
          refine V.goto (tgt := 122) hC dX9_place_110 (by decide) ?_
          exact v9_place_b122  hC hR ih _ _ _ _ _ _ h
      · rw [if_neg c21] at h
        refine V.goto (tgt := 122) hC dX9_place_59 (by decide) ?_
        exact v9_place_b122  hC hR ih _ _ _ _ _ _ h
def g9_place (a0 a1 : Int32) (M : xMem) : Option (Int32 × xMem) :=
Option.bind (g9_isInn a0 M) fun q1 =>
if (q1.1) = 0 then
(some ((-1 : Int32), q1.2))
else
(Option.bind (g9_isLamp a0 q1.2) fun q4 =>
if (q4.1) = 0 then
(some ((-1 : Int32), q4.2))
else
(Option.bind (g9_in a1 (0 : Int32) (1 : Int32) q4.2) fun q7 =>
if (q7.1) = 0 then
(some ((-1 : Int32), q7.2))
else
(Option.bind (g9_begins q7.2) fun q10 =>
g9_place_b38 5000 a0 a1 (-1 : Int32) (-1 : Int32) (0 : Int32) q10)))
set_option maxHeartbeats 4000000 in
set_option maxRecDepth 20000 in
theorem v9_place {G : xG} (hC : xC G cX9_place 6 RX9 8) {R : Int32 × xMem} (hR : xRI G cX9_place 6 R) {a0 a1 : Int32} {M : xMem} (h : g9_place a0 a1 M = some R) : V G 6 0 [(0, .inr 154), (1, .inl a0), (2, .inl a1)] [] M := by
  unfold g9_place at h
  refine V.iload_n (r := 1) hC 1 dX9_place_0 rfl rfl ?_
  obtain ⟨q1, hq2, h⟩ := Option.bind_eq_some_iff.mp h
  try dsimp only at h
  refine V.invSi (as := [.inl a0]) (st := []) (r := 4) hC (met9_isInn hq2) ys_X9_isInn ml_RX9_102 dX9_place_1 (by decide) rfl rfl rfl rfl ?_
  refine V.if_eq (tgt := 24) (r := 7) hC dX9_place_4 (by decide) rfl (fun c3 => ?_) (fun c3 => ?_)
  · rw [if_pos c3] at h
    refine V.iconst (r := 25) hC dX9_place_24 ki_m1 rfl ?_
    cases h
    exact hR _ _ dX9_place_25
  · rw [if_neg c3] at h
    refine V.aload_n (r := 8) hC 0 dX9_place_7 rfl rfl ?_
    refine V.iload_n (r := 9) hC 1 dX9_place_8 rfl rfl ?_
    obtain ⟨q4, hq5, h⟩ := Option.bind_eq_some_iff.mp h
    try dsimp only at h
    refine V.invVi (as := [.inl a0]) (st := []) (r := 12) hC (met9_isLamp hq5) yv_X9_isLamp ml_RX9_109 sh_154 rfl rfl dX9_place_9 (by decide) rfl rfl rfl rfl ?_
    refine V.if_eq (tgt := 24) (r := 15) hC dX9_place_12 (by decide) rfl (fun c6 => ?_) (fun c6 => ?_)
    · rw [if_pos c6] at h
      refine V.iconst (r := 25) hC dX9_place_24 ki_m1 rfl ?_
      cases h
      exact hR _ _ dX9_place_25
    · rw [if_neg c6] at h
      refine V.iload_n (r := 16) hC 2 dX9_place_15 rfl rfl ?_
      refine V.iconst (r := 17) hC dX9_place_16 ki_0 rfl ?_
      refine V.iconst (r := 18) hC dX9_place_17 ki_1 rfl ?_
      obtain ⟨q7, hq8, h⟩ := Option.bind_eq_some_iff.mp h
      try dsimp only at h
      refine V.invSi (as := [.inl a1, .inl (0 : Int32), .inl (1 : Int32)]) (st := []) (r := 21) hC (met9_in hq8) ys_X9_in ml_RX9_92 dX9_place_18 (by decide) rfl rfl rfl rfl ?_
      refine V.if_ne (tgt := 26) (r := 24) hC dX9_place_21 (by decide) rfl (fun c9 => ?_) (fun c9 => ?_)
      · rw [if_neg c9] at h
        refine V.aload_n (r := 27) hC 0 dX9_place_26 rfl rfl ?_
        obtain ⟨q10, hq11, h⟩ := Option.bind_eq_some_iff.mp h
        try dsimp only at h
        refine V.invVv (as := []) (st := []) (r := 30) hC (met9_begins hq11) yv_X9_begins ml_RX9_306 sh_154 rfl rfl dX9_place_27 (by decide) rfl rfl rfl rfl ?_
        refine V.iconst (r := 31) hC dX9_place_30 ki_m1 rfl ?_
        refine V.ist_n (lv' := [(0, .inr 154), (1, .inl a0), (2, .inl a1), (3, .inl (-1 : Int32))]) (r := 32) hC dX9_place_31 rfl rfl rfl ?_
        refine V.iconst (r := 33) hC dX9_place_32 ki_m1 rfl ?_
        refine V.ist (lv' := [(0, .inr 154), (1, .inl a0), (2, .inl a1), (3, .inl (-1 : Int32)), (4, .inl (-1 : Int32))]) (r := 35) hC dX9_place_33 rfl rfl rfl ?_
        refine V.iconst (r := 36) hC dX9_place_35 ki_0 rfl ?_
        refine V.ist (lv' := [(0, .inr 154), (1, .inl a0), (2, .inl a1), (3, .inl (-1 : Int32)), (4, .inl (-1 : Int32)), (5, .inl (0 : Int32))]) (r := 38) hC dX9_place_36 rfl rfl rfl ?_
        exact v9_place_b38  hC hR  5000 _ _ _ _ _ _ h
      · rw [if_pos c9] at h
        refine V.iconst (r := 25) hC dX9_place_24 ki_m1 rfl ?_
        cases h
        exact hR _ _ dX9_place_25
theorem met9_place {R : Int32 × xMem} {a0 a1 : Int32} {M : xMem} (h : g9_place a0 a1 M = some R) : xMet yX9_place cX9_place 6 (some .int) 8 [.inr 154, .inl a0, .inl a1] M (some R.1) R.2 := xMet.ofI (by decide +kernel) (Nat.le_of_ble_eq_true rfl) fun _ hC hR => v9_place  hC hR h
def g9_laysGains_b94 (k3 : Int32 → Int32 → Int32 → Int32 → xMem → Option (xMem)) (x1 x2 x3 x4 s1 s2 : Int32) (M : xMem) : Option (xMem) :=
if s1 < 0 ∨ 25 ≤ s1.toNatClampNeg then none else
mset (upM M 194 s1.toNatClampNeg s2) fun M18 =>
k3 x1 x2 x3 (x4 + (1 : Int32)) M18
set_option maxHeartbeats 4000000 in
set_option maxRecDepth 20000 in
theorem v9_laysGains_b94 {G : xG} (hC : xC G cX9_laysGains 5 RX9 3) {R : xMem} (hR : xRV G cX9_laysGains 5 R) {k3 : Int32 → Int32 → Int32 → Int32 → xMem → Option (xMem)} (hk3 : ∀ (y1 y2 y3 y4 : Int32) (N : xMem), k3 y1 y2 y3 y4 N = some R → V G 5 3 [(0, .inr 154), (1, .inl y1), (2, .inl y2), (3, .inl y3), (4, .inl y4)] [] N) (x1 x2 x3 x4 s1 s2 : Int32) (M : xMem) (h : g9_laysGains_b94 k3 x1 x2 x3 x4 s1 s2 M = some R) : V G 5 94 [(0, .inr 154), (1, .inl x1), (2, .inl x2), (3, .inl x3), (4, .inl x4)] [.inl s2, .inl s1, .inr 175] M := by
  unfold g9_laysGains_b94 at h
  by_cases c17 : s1 < 0 ∨ 25 ≤ s1.toNatClampNeg
  · rw [if_pos c17] at h; cases h
  rw [if_neg c17] at h
  rw [mset_eq] at h
  refine V.iast (t := s1.toNatClampNeg) (r := 95) hC sh_175 dX9_laysGains_94 c17 (Nat.zero_add _) rfl ?_
  generalize upM M 194 s1.toNatClampNeg s2 = M18 at h ⊢
  refine V.inc (lv' := [(0, .inr 154), (1, .inl x1), (2, .inl x2), (3, .inl x3), (4, .inl (x4 + (1 : Int32)))]) (r := 98) hC 4 dX9_laysGains_95 rfl ki_1 rfl rfl rfl ?_
  refine V.goto (tgt := 3) hC dX9_laysGains_98 (by decide) ?_
  exact hk3 _ _ _ _ _ h
def g9_laysGains_b66 (k3 : Int32 → Int32 → Int32 → Int32 → xMem → Option (xMem)) (x1 x2 x3 x4 s1 s2 : Int32) (M : xMem) : Option (xMem) :=
if s1 < 0 ∨ 25 ≤ s1.toNatClampNeg then none else
mset (upM M 193 s1.toNatClampNeg s2) fun M12 =>
Option.bind (g9_has (M12 190 0) x2 M12) fun q13 =>
if (q13.1) = 0 then
(g9_laysGains_b94 k3 x1 x2 x3 x4 x4 (0 : Int32) q13.2)
else
(if x2 < 0 ∨ 9 ≤ x2.toNatClampNeg then none else
g9_laysGains_b94 k3 x1 x2 x3 x4 x4 (q13.2 188 x2.toNatClampNeg) q13.2)
set_option maxHeartbeats 4000000 in
set_option maxRecDepth 20000 in
theorem v9_laysGains_b66 {G : xG} (hC : xC G cX9_laysGains 5 RX9 3) {R : xMem} (hR : xRV G cX9_laysGains 5 R) {k3 : Int32 → Int32 → Int32 → Int32 → xMem → Option (xMem)} (hk3 : ∀ (y1 y2 y3 y4 : Int32) (N : xMem), k3 y1 y2 y3 y4 N = some R → V G 5 3 [(0, .inr 154), (1, .inl y1), (2, .inl y2), (3, .inl y3), (4, .inl y4)] [] N) (x1 x2 x3 x4 s1 s2 : Int32) (M : xMem) (h : g9_laysGains_b66 k3 x1 x2 x3 x4 s1 s2 M = some R) : V G 5 66 [(0, .inr 154), (1, .inl x1), (2, .inl x2), (3, .inl x3), (4, .inl x4)] [.inl s2, .inl s1, .inr 174] M := by
  unfold g9_laysGains_b66 at h
  by_cases c11 : s1 < 0 ∨ 25 ≤ s1.toNatClampNeg
  · rw [if_pos c11] at h; cases h
  rw [if_neg c11] at h
  rw [mset_eq] at h
  refine V.iast (t := s1.toNatClampNeg) (r := 67) hC sh_174 dX9_laysGains_66 c11 (Nat.zero_add _) rfl ?_
  generalize upM M 193 s1.toNatClampNeg s2 = M12 at h ⊢
  refine V.aload_n (r := 68) hC 0 dX9_laysGains_67 rfl rfl ?_
  refine V.getR (k' := 175) (j := 34) (r := 71) hC xcl_9 sh_154 fl_RX9_71 dX9_laysGains_68 (by decide) rfl rfl ?_
  refine V.iload (r := 73) hC 4 dX9_laysGains_71 rfl rfl ?_
  refine V.aload_n (r := 74) hC 0 dX9_laysGains_73 rfl rfl ?_
  refine V.getI (b := 190) (i := 0) (j := 30) (r := 77) hC xcl_9 sh_154 fl_RX9_333 dX9_laysGains_74 (by decide) rfl rfl ?_
  refine V.iload_n (r := 78) hC 2 dX9_laysGains_77 rfl rfl ?_
  obtain ⟨q13, hq14, h⟩ := Option.bind_eq_some_iff.mp h
  try dsimp only at h
  refine V.invSi (as := [.inl (M12 190 0), .inl x2]) (st := [.inl x4, .inr 175]) (r := 81) hC (met9_has hq14) ys_X9_has ml_RX9_226 dX9_laysGains_78 (by decide) rfl rfl rfl rfl ?_
  refine V.if_eq (tgt := 93) (r := 84) hC dX9_laysGains_81 (by decide) rfl (fun c15 => ?_) (fun c15 => ?_)
  · rw [if_pos c15] at h
    refine V.iconst (r := 94) hC dX9_laysGains_93 ki_0 rfl ?_
    exact v9_laysGains_b94  hC hR hk3 _ _ _ _ _ _ _ h
  · rw [if_neg c15] at h
    refine V.aload_n (r := 85) hC 0 dX9_laysGains_84 rfl rfl ?_
    refine V.getR (k' := 173) (j := 28) (r := 88) hC xcl_9 sh_154 fl_RX9_65 dX9_laysGains_85 (by decide) rfl rfl ?_
    refine V.iload_n (r := 89) hC 2 dX9_laysGains_88 rfl rfl ?_
    by_cases c16 : x2 < 0 ∨ 9 ≤ x2.toNatClampNeg
    · rw [if_pos c16] at h; cases h
    rw [if_neg c16] at h
    refine V.iald (t := x2.toNatClampNeg) (r := 90) hC sh_173 dX9_laysGains_89 c16 (Nat.zero_add _) rfl ?_
    refine V.goto (tgt := 94) hC dX9_laysGains_90 (by decide) ?_
    exact v9_laysGains_b94  hC hR hk3 _ _ _ _ _ _ _ h
def g9_laysGains_b3 : Nat → Int32 → Int32 → Int32 → Int32 → xMem → Option (xMem)
  | 0, _, _, _, _, _ => none
  | n + 1, x1, x2, x3, x4, M => 
    (if (25 : Int32) ≤ x4 then
    (some M)
    else
    (if x1 < 0 ∨ 9 ≤ x1.toNatClampNeg then none else
    mset (upM M 188 x1.toNatClampNeg ((x4 / (5 : Int32)) + (1 : Int32))) fun M3 =>
    if x2 < 0 ∨ 9 ≤ x2.toNatClampNeg then none else
    mset (upM M3 188 x2.toNatClampNeg ((x4 - x4 / (5 : Int32) * (5 : Int32)) + (1 : Int32))) fun M5 =>
    Option.bind (g9_laysPlan x3 M5) fun q6 =>
    Option.bind (g9_has (q6 190 0) x1 q6) fun q8 =>
    if (q8.1) = 0 then
    (g9_laysGains_b66 (g9_laysGains_b3 n) x1 x2 x3 x4 x4 (0 : Int32) q8.2)
    else
    (g9_laysGains_b66 (g9_laysGains_b3 n) x1 x2 x3 x4 x4 (q8.2 188 x1.toNatClampNeg) q8.2)))
set_option maxHeartbeats 4000000 in
set_option maxRecDepth 20000 in
theorem v9_laysGains_b3 {G : xG} (hC : xC G cX9_laysGains 5 RX9 3) {R : xMem} (hR : xRV G cX9_laysGains 5 R) : ∀ (n : Nat) (x1 x2 x3 x4 : Int32) (M : xMem), g9_laysGains_b3 n x1 x2 x3 x4 M = some R → V G 5 3 [(0, .inr 154), (1, .inl x1), (2, .inl x2), (3, .inl x3), (4, .inl x4)] [] M := by
  intro n
  induction n with
  | zero => intro x1 x2 x3 x4 M h; rw [g9_laysGains_b3] at h; cases h
  | succ n ih =>
    intro x1 x2 x3 x4 M h
    rw [g9_laysGains_b3] at h
    refine V.iload (r := 5) hC 4 dX9_laysGains_3 rfl rfl ?_
    refine V.bipush (r := 7) hC dX9_laysGains_5 kb_25 rfl ?_
    refine V.icmp_ge (tgt := 101) (r := 10) hC dX9_laysGains_7 (by decide) rfl (fun c1 => ?_) (fun c1 => ?_)
    · rw [if_pos c1] at h
      cases h
      exact hR _ _ dX9_laysGains_101
    · rw [if_neg c1] at h
      refine V.aload_n (r := 11) hC 0 dX9_laysGains_10 rfl rfl ?_
      refine V.getR (k' := 173) (j := 28) (r := 14) hC xcl_9 sh_154 fl_RX9_65 dX9_laysGains_11 (by decide) rfl rfl ?_
      refine V.iload_n (r := 15) hC 1 dX9_laysGains_14 rfl rfl ?_
      refine V.iload (r := 17) hC 4 dX9_laysGains_15 rfl rfl ?_
      refine V.iconst (r := 18) hC dX9_laysGains_17 ki_5 rfl ?_
      refine V.idiv (r := 19) hC dX9_laysGains_18 (by decide) rfl ?_
      refine V.iconst (r := 20) hC dX9_laysGains_19 ki_1 rfl ?_
      refine V.iadd (r := 21) hC dX9_laysGains_20 rfl ?_
      by_cases c2 : x1 < 0 ∨ 9 ≤ x1.toNatClampNeg
      · rw [if_pos c2] at h; cases h
      rw [if_neg c2] at h
      rw [mset_eq] at h
      refine V.iast (t := x1.toNatClampNeg) (r := 22) hC sh_173 dX9_laysGains_21 c2 (Nat.zero_add _) rfl ?_
      generalize upM M 188 x1.toNatClampNeg ((x4 / (5 : Int32)) + (1 : Int32)) = M3 at h ⊢
      refine V.aload_n (r := 23) hC 0 dX9_laysGains_22 rfl rfl ?_
      refine V.getR (k' := 173) (j := 28) (r := 26) hC xcl_9 sh_154 fl_RX9_65 dX9_laysGains_23 (by decide) rfl rfl ?_
      refine V.iload_n (r := 27) hC 2 dX9_laysGains_26 rfl rfl ?_
      refine V.iload (r := 29) hC 4 dX9_laysGains_27 rfl rfl ?_
      refine V.iconst (r := 30) hC dX9_laysGains_29 ki_5 rfl ?_
      refine V.irem (r := 31) hC dX9_laysGains_30 (by decide) rfl ?_
      refine V.iconst (r := 32) hC dX9_laysGains_31 ki_1 rfl ?_
      refine V.iadd (r := 33) hC dX9_laysGains_32 rfl ?_
      by_cases c4 : x2 < 0 ∨ 9 ≤ x2.toNatClampNeg
      · rw [if_pos c4] at h; cases h
      rw [if_neg c4] at h
      rw [mset_eq] at h
      refine V.iast (t := x2.toNatClampNeg) (r := 34) hC sh_173 dX9_laysGains_33 c4 (Nat.zero_add _) rfl ?_
      generalize upM M3 188 x2.toNatClampNeg ((x4 - x4 / (5 : Int32) * (5 : Int32)) + (1 : Int32)) = M5 at h ⊢
      refine V.aload_n (r := 35) hC 0 dX9_laysGains_34 rfl rfl ?_
      refine V.iload_n (r := 36) hC 3 dX9_laysGains_35 rfl rfl ?_
      obtain ⟨q6, hq7, h⟩ := Option.bind_eq_some_iff.mp h
      try dsimp only at h
      refine V.invVv (as := [.inl x3]) (st := []) (r := 39) hC (met9_laysPlan hq7) yv_X9_laysPlan ml_RX9_339 sh_154 rfl rfl dX9_laysGains_36 (by decide) rfl rfl rfl rfl ?_
      refine V.aload_n (r := 40) hC 0 dX9_laysGains_39 rfl rfl ?_
      refine V.getR (k' := 174) (j := 33) (r := 43) hC xcl_9 sh_154 fl_RX9_68 dX9_laysGains_40 (by decide) rfl rfl ?_
      refine V.iload (r := 45) hC 4 dX9_laysGains_43 rfl rfl ?_
      refine V.aload_n (r := 46) hC 0 dX9_laysGains_45 rfl rfl ?_
      refine V.getI (b := 190) (i := 0) (j := 30) (r := 49) hC xcl_9 sh_154 fl_RX9_333 dX9_laysGains_46 (by decide) rfl rfl ?_
      refine V.iload_n (r := 50) hC 1 dX9_laysGains_49 rfl rfl ?_
      obtain ⟨q8, hq9, h⟩ := Option.bind_eq_some_iff.mp h
      try dsimp only at h
      refine V.invSi (as := [.inl (q6 190 0), .inl x1]) (st := [.inl x4, .inr 174]) (r := 53) hC (met9_has hq9) ys_X9_has ml_RX9_226 dX9_laysGains_50 (by decide) rfl rfl rfl rfl ?_
      refine V.if_eq (tgt := 65) (r := 56) hC dX9_laysGains_53 (by decide) rfl (fun c10 => ?_) (fun c10 => ?_)
      · rw [if_pos c10] at h
        refine V.iconst (r := 66) hC dX9_laysGains_65 ki_0 rfl ?_
        exact v9_laysGains_b66  hC hR ih _ _ _ _ _ _ _ h
      · rw [if_neg c10] at h
        refine V.aload_n (r := 57) hC 0 dX9_laysGains_56 rfl rfl ?_
        refine V.getR (k' := 173) (j := 28) (r := 60) hC xcl_9 sh_154 fl_RX9_65 dX9_laysGains_57 (by decide) rfl rfl ?_
        refine V.iload_n (r := 61) hC 1 dX9_laysGains_60 rfl rfl ?_
        refine V.iald (t := x1.toNatClampNeg) (r := 62) hC sh_173 dX9_laysGains_61 c2 (Nat.zero_add _) rfl ?_
        refine V.goto (tgt := 66) hC dX9_laysGains_62 (by decide) ?_
        exact v9_laysGains_b66  hC hR ih _ _ _ _ _ _ _ h
def g9_laysGains (a0 a1 a2 : Int32) (M : xMem) : Option (xMem) :=
g9_laysGains_b3 5000 a0 a1 a2 (0 : Int32) M
set_option maxHeartbeats 4000000 in
set_option maxRecDepth 20000 in
theorem v9_laysGains {G : xG} (hC : xC G cX9_laysGains 5 RX9 3) {R : xMem} (hR : xRV G cX9_laysGains 5 R) {a0 a1 a2 : Int32} {M : xMem} (h : g9_laysGains a0 a1 a2 M = some R) : V G 5 0 [(0, .inr 154), (1, .inl a0), (2, .inl a1), (3, .inl a2)] [] M := by
  unfold g9_laysGains at h
  refine V.iconst (r := 1) hC dX9_laysGains_0 ki_0 rfl ?_
  refine V.ist (lv' := [(0, .inr 154), (1, .inl a0), (2, .inl a1), (3, .inl a2), (4, .inl (0 : Int32))]) (r := 3) hC dX9_laysGains_1 rfl rfl rfl ?_
  exact v9_laysGains_b3  hC hR  5000 _ _ _ _ _ h
theorem met9_laysGains {R : xMem} {a0 a1 a2 : Int32} {M : xMem} (h : g9_laysGains a0 a1 a2 M = some R) : xMet yX9_laysGains cX9_laysGains 5 none 3 [.inr 154, .inl a0, .inl a1, .inl a2] M none R := xMet.ofV (by decide +kernel) (Nat.le_of_ble_eq_true rfl) fun _ hC hR => v9_laysGains  hC hR h
def g9_rests_b2 : Nat → Int32 → Int32 → xMem → Option (Int32 × xMem)
  | 0, _, _, _ => none
  | n + 1, x1, x2, M => 
    (if (5 : Int32) ≤ x2 then
    (some ((1 : Int32), M))
    else
    (if (((5 : Int32) * x2) + (x1 - x1 / (5 : Int32) * (5 : Int32))) < 0 ∨ 25 ≤ (((5 : Int32) * x2) + (x1 - x1 / (5 : Int32) * (5 : Int32))).toNatClampNeg then none else
    if x1 < 0 ∨ 25 ≤ x1.toNatClampNeg then none else
    if (M 193 x1.toNatClampNeg) < (M 193 (((5 : Int32) * x2) + (x1 - x1 / (5 : Int32) * (5 : Int32))).toNatClampNeg) then
    (some ((0 : Int32), M))
    else
    (if (((x1 / (5 : Int32)) * (5 : Int32)) + x2) < 0 ∨ 25 ≤ (((x1 / (5 : Int32)) * (5 : Int32)) + x2).toNatClampNeg then none else
    if (M 194 (((x1 / (5 : Int32)) * (5 : Int32)) + x2).toNatClampNeg) ≤ (M 194 x1.toNatClampNeg) then
    (g9_rests_b2 n x1 (x2 + (1 : Int32)) M)
    else
    (some ((0 : Int32), M)))))
set_option maxHeartbeats 4000000 in
set_option maxRecDepth 20000 in
theorem v9_rests_b2 {G : xG} (hC : xC G cX9_rests 3 RX9 0) {R : Int32 × xMem} (hR : xRZ G cX9_rests 3 R) : ∀ (n : Nat) (x1 x2 : Int32) (M : xMem), g9_rests_b2 n x1 x2 M = some R → V G 3 2 [(0, .inr 154), (1, .inl x1), (2, .inl x2)] [] M := by
  intro n
  induction n with
  | zero => intro x1 x2 M h; rw [g9_rests_b2] at h; cases h
  | succ n ih =>
    intro x1 x2 M h
    rw [g9_rests_b2] at h
    refine V.iload_n (r := 3) hC 2 dX9_rests_2 rfl rfl ?_
    refine V.iconst (r := 4) hC dX9_rests_3 ki_5 rfl ?_
    refine V.icmp_ge (tgt := 57) (r := 7) hC dX9_rests_4 (by decide) rfl (fun c1 => ?_) (fun c1 => ?_)
    · rw [if_pos c1] at h
      refine V.iconst (r := 58) hC dX9_rests_57 ki_1 rfl ?_
      cases h
      exact hR _ _ (Or.inr rfl) dX9_rests_58
    · rw [if_neg c1] at h
      refine V.aload_n (r := 8) hC 0 dX9_rests_7 rfl rfl ?_
      refine V.getR (k' := 174) (j := 33) (r := 11) hC xcl_9 sh_154 fl_RX9_68 dX9_rests_8 (by decide) rfl rfl ?_
      refine V.iconst (r := 12) hC dX9_rests_11 ki_5 rfl ?_
      refine V.iload_n (r := 13) hC 2 dX9_rests_12 rfl rfl ?_
      refine V.imul (r := 14) hC dX9_rests_13 rfl ?_
      refine V.iload_n (r := 15) hC 1 dX9_rests_14 rfl rfl ?_
      refine V.iconst (r := 16) hC dX9_rests_15 ki_5 rfl ?_
      refine V.irem (r := 17) hC dX9_rests_16 (by decide) rfl ?_
      refine V.iadd (r := 18) hC dX9_rests_17 rfl ?_
      by_cases c2 : (((5 : Int32) * x2) + (x1 - x1 / (5 : Int32) * (5 : Int32))) < 0 ∨ 25 ≤ (((5 : Int32) * x2) + (x1 - x1 / (5 : Int32) * (5 : Int32))).toNatClampNeg
      · rw [if_pos c2] at h; cases h
      rw [if_neg c2] at h
      refine V.iald (t := (((5 : Int32) * x2) + (x1 - x1 / (5 : Int32) * (5 : Int32))).toNatClampNeg) (r := 19) hC sh_174 dX9_rests_18 c2 (Nat.zero_add _) rfl ?_
      refine V.aload_n (r := 20) hC 0 dX9_rests_19 rfl rfl ?_
      refine V.getR (k' := 174) (j := 33) (r := 23) hC xcl_9 sh_154 fl_RX9_68 dX9_rests_20 (by decide) rfl rfl ?_
      refine V.iload_n (r := 24) hC 1 dX9_rests_23 rfl rfl ?_
      by_cases c3 : x1 < 0 ∨ 25 ≤ x1.toNatClampNeg
      · rw [if_pos c3] at h; cases h
      rw [if_neg c3] at h
      refine V.iald (t := x1.toNatClampNeg) (r := 25) hC sh_174 dX9_rests_24 c3 (Nat.zero_add _) rfl ?_
      refine V.icmp_gt (tgt := 49) (r := 28) hC dX9_rests_25 (by decide) rfl (fun c4 => ?_) (fun c4 => ?_)
      · rw [if_pos c4] at h
        refine V.iconst (r := 50) hC dX9_rests_49 ki_0 rfl ?_
        cases h
        exact hR _ _ (Or.inl rfl) dX9_rests_50
      · rw [if_neg c4] at h
        refine V.aload_n (r := 29) hC 0 dX9_rests_28 rfl rfl ?_
        refine V.getR (k' := 175) (j := 34) (r := 32) hC xcl_9 sh_154 fl_RX9_71 dX9_rests_29 (by decide) rfl rfl ?_
        refine V.iload_n (r := 33) hC 1 dX9_rests_32 rfl rfl ?_
        refine V.iconst (r := 34) hC dX9_rests_33 ki_5 rfl ?_
        refine V.idiv (r := 35) hC dX9_rests_34 (by decide) rfl ?_
        refine V.iconst (r := 36) hC dX9_rests_35 ki_5 rfl ?_
        refine V.imul (r := 37) hC dX9_rests_36 rfl ?_
        refine V.iload_n (r := 38) hC 2 dX9_rests_37 rfl rfl ?_
        refine V.iadd (r := 39) hC dX9_rests_38 rfl ?_
        by_cases c5 : (((x1 / (5 : Int32)) * (5 : Int32)) + x2) < 0 ∨ 25 ≤ (((x1 / (5 : Int32)) * (5 : Int32)) + x2).toNatClampNeg
        · rw [if_pos c5] at h; cases h
        rw [if_neg c5] at h
        refine V.iald (t := (((x1 / (5 : Int32)) * (5 : Int32)) + x2).toNatClampNeg) (r := 40) hC sh_175 dX9_rests_39 c5 (Nat.zero_add _) rfl ?_
        refine V.aload_n (r := 41) hC 0 dX9_rests_40 rfl rfl ?_
        refine V.getR (k' := 175) (j := 34) (r := 44) hC xcl_9 sh_154 fl_RX9_71 dX9_rests_41 (by decide) rfl rfl ?_
        refine V.iload_n (r := 45) hC 1 dX9_rests_44 rfl rfl ?_
        refine V.iald (t := x1.toNatClampNeg) (r := 46) hC sh_175 dX9_rests_45 c3 (Nat.zero_add _) rfl ?_
        refine V.icmp_le (tgt := 51) (r := 49) hC dX9_rests_46 (by decide) rfl (fun c6 => ?_) (fun c6 => ?_)
        · rw [if_pos c6] at h
          refine V.inc (lv' := [(0, .inr 154), (1, .inl x1), (2, .inl (x2 + (1 : Int32)))]) (r := 54) hC 2 dX9_rests_51 rfl ki_1 rfl rfl rfl ?_
          refine V.goto (tgt := 2) hC dX9_rests_54 (by decide) ?_
          exact ih _ _ _ h
        · rw [if_neg c6] at h
          refine V.iconst (r := 50) hC dX9_rests_49 ki_0 rfl ?_
          cases h
          exact hR _ _ (Or.inl rfl) dX9_rests_50
def g9_rests (a0 : Int32) (M : xMem) : Option (Int32 × xMem) :=
g9_rests_b2 5000 a0 (0 : Int32) M
set_option maxHeartbeats 4000000 in
set_option maxRecDepth 20000 in
theorem v9_rests {G : xG} (hC : xC G cX9_rests 3 RX9 0) {R : Int32 × xMem} (hR : xRZ G cX9_rests 3 R) {a0 : Int32} {M : xMem} (h : g9_rests a0 M = some R) : V G 3 0 [(0, .inr 154), (1, .inl a0)] [] M := by
  unfold g9_rests at h
  refine V.iconst (r := 1) hC dX9_rests_0 ki_0 rfl ?_
  refine V.ist_n (lv' := [(0, .inr 154), (1, .inl a0), (2, .inl (0 : Int32))]) (r := 2) hC dX9_rests_1 rfl rfl rfl ?_
  exact v9_rests_b2  hC hR  5000 _ _ _ h
theorem met9_rests {R : Int32 × xMem} {a0 : Int32} {M : xMem} (h : g9_rests a0 M = some R) : xMet yX9_rests cX9_rests 3 (some .boolean) 0 [.inr 154, .inl a0] M (some R.1) R.2 := xMet.ofZ (by decide +kernel) (Nat.le_of_ble_eq_true rfl) fun _ hC hR => v9_rests  hC hR h
def g9_isUnlit (a0 : Int32) (M : xMem) : Option (Int32 × xMem) :=
Option.bind (g9_isInn a0 M) fun q1 =>
if (q1.1) = 0 then
(some ((0 : Int32), q1.2))
else
(Option.bind (g9_isLamp a0 q1.2) fun q4 =>
if (q4.1) = 0 then
(some ((0 : Int32), q4.2))
else
(Option.bind (g9_isLit a0 q4.2) fun q7 =>
if (q7.1) = 0 then
(some ((1 : Int32), q7.2))
else
(some ((0 : Int32), q7.2))))
set_option maxHeartbeats 4000000 in
set_option maxRecDepth 20000 in
theorem v9_isUnlit {G : xG} (hC : xC G cX9_isUnlit 2 RX9 3) {R : Int32 × xMem} (hR : xRZ G cX9_isUnlit 2 R) {a0 : Int32} {M : xMem} (h : g9_isUnlit a0 M = some R) : V G 2 0 [(0, .inr 154), (1, .inl a0)] [] M := by
  unfold g9_isUnlit at h
  refine V.iload_n (r := 1) hC 1 dX9_isUnlit_0 rfl rfl ?_
  obtain ⟨q1, hq2, h⟩ := Option.bind_eq_some_iff.mp h
  try dsimp only at h
  refine V.invSi (as := [.inl a0]) (st := []) (r := 4) hC (met9_isInn hq2) ys_X9_isInn ml_RX9_102 dX9_isUnlit_1 (by decide) rfl rfl rfl rfl ?_
  refine V.if_eq (tgt := 27) (r := 7) hC dX9_isUnlit_4 (by decide) rfl (fun c3 => ?_) (fun c3 => ?_)
  · rw [if_pos c3] at h
    refine V.iconst (r := 28) hC dX9_isUnlit_27 ki_0 rfl ?_
    cases h
    exact hR _ _ (Or.inl rfl) dX9_isUnlit_28
  · rw [if_neg c3] at h
    refine V.aload_n (r := 8) hC 0 dX9_isUnlit_7 rfl rfl ?_
    refine V.iload_n (r := 9) hC 1 dX9_isUnlit_8 rfl rfl ?_
    obtain ⟨q4, hq5, h⟩ := Option.bind_eq_some_iff.mp h
    try dsimp only at h
    refine V.invVi (as := [.inl a0]) (st := []) (r := 12) hC (met9_isLamp hq5) yv_X9_isLamp ml_RX9_109 sh_154 rfl rfl dX9_isUnlit_9 (by decide) rfl rfl rfl rfl ?_
    refine V.if_eq (tgt := 27) (r := 15) hC dX9_isUnlit_12 (by decide) rfl (fun c6 => ?_) (fun c6 => ?_)
    · rw [if_pos c6] at h
      refine V.iconst (r := 28) hC dX9_isUnlit_27 ki_0 rfl ?_
      cases h
      exact hR _ _ (Or.inl rfl) dX9_isUnlit_28
    · rw [if_neg c6] at h
      refine V.aload_n (r := 16) hC 0 dX9_isUnlit_15 rfl rfl ?_
      refine V.iload_n (r := 17) hC 1 dX9_isUnlit_16 rfl rfl ?_
      obtain ⟨q7, hq8, h⟩ := Option.bind_eq_some_iff.mp h
      try dsimp only at h
      refine V.invVi (as := [.inl a0]) (st := []) (r := 20) hC (met9_isLit hq8) yv_X9_isLit ml_RX9_253 sh_154 rfl rfl dX9_isUnlit_17 (by decide) rfl rfl rfl rfl ?_
      refine V.if_ne (tgt := 27) (r := 23) hC dX9_isUnlit_20 (by decide) rfl (fun c9 => ?_) (fun c9 => ?_)
      · rw [if_neg c9] at h
        refine V.iconst (r := 28) hC dX9_isUnlit_27 ki_0 rfl ?_
        cases h
        exact hR _ _ (Or.inl rfl) dX9_isUnlit_28
      · rw [if_pos c9] at h
        refine V.iconst (r := 24) hC dX9_isUnlit_23 ki_1 rfl ?_
        refine V.goto (tgt := 28) hC dX9_isUnlit_24 (by decide) ?_
        cases h
        exact hR _ _ (Or.inr rfl) dX9_isUnlit_28
theorem met9_isUnlit {R : Int32 × xMem} {a0 : Int32} {M : xMem} (h : g9_isUnlit a0 M = some R) : xMet yX9_isUnlit cX9_isUnlit 2 (some .boolean) 3 [.inr 154, .inl a0] M (some R.1) R.2 := xMet.ofZ (by decide +kernel) (Nat.le_of_ble_eq_true rfl) fun _ hC hR => v9_isUnlit  hC hR h
def g9_prices_b105 (k65 : Int32 → Int32 → Int32 → Int32 → xMem → Option (Int32 × xMem)) (x4 x5 x6 x7 : Int32) (M : xMem) : Option (Int32 × xMem) :=
k65 x4 x5 x6 (x7 + (1 : Int32)) M
set_option maxHeartbeats 4000000 in
set_option maxRecDepth 20000 in
theorem v9_prices_b105 {G : xG} (hC : xC G cX9_prices 8 RX9 10) {R : Int32 × xMem} (hR : xRI G cX9_prices 8 R) {k65 : Int32 → Int32 → Int32 → Int32 → xMem → Option (Int32 × xMem)} (hk65 : ∀ (y4 y5 y6 y7 : Int32) (N : xMem), k65 y4 y5 y6 y7 N = some R → V G 8 65 [(0, .inr 154), (4, .inl y4), (5, .inl y5), (6, .inl y6), (7, .inl y7)] [] N) (x4 x5 x6 x7 : Int32) (M : xMem) (h : g9_prices_b105 k65 x4 x5 x6 x7 M = some R) : V G 8 105 [(0, .inr 154), (4, .inl x4), (5, .inl x5), (6, .inl x6), (7, .inl x7)] [] M := by
  unfold g9_prices_b105 at h
  refine V.inc (lv' := [(0, .inr 154), (4, .inl x4), (5, .inl x5), (6, .inl x6), (7, .inl (x7 + (1 : Int32)))]) (r := 108) hC 4 dX9_prices_105 rfl ki_1 rfl rfl rfl ?_
  refine V.goto (tgt := 65) hC dX9_prices_108 (by decide) ?_
  exact hk65 _ _ _ _ _ h
def g9_prices_b97 (k65 : Int32 → Int32 → Int32 → Int32 → xMem → Option (Int32 × xMem)) (x4 x5 x7 s0 : Int32) (M : xMem) : Option (Int32 × xMem) :=
g9_prices_b105 k65 x4 (x5 + (1 : Int32)) s0 x7 M
set_option maxHeartbeats 4000000 in
set_option maxRecDepth 20000 in
theorem v9_prices_b97 {G : xG} (hC : xC G cX9_prices 8 RX9 10) {R : Int32 × xMem} (hR : xRI G cX9_prices 8 R) {k65 : Int32 → Int32 → Int32 → Int32 → xMem → Option (Int32 × xMem)} (hk65 : ∀ (y4 y5 y6 y7 : Int32) (N : xMem), k65 y4 y5 y6 y7 N = some R → V G 8 65 [(0, .inr 154), (4, .inl y4), (5, .inl y5), (6, .inl y6), (7, .inl y7)] [] N) (x4 x5 x7 s0 : Int32) (M : xMem) (h : g9_prices_b97 k65 x4 x5 x7 s0 M = some R) : V G 8 97 [(0, .inr 154), (4, .inl x4), (5, .inl x5), (7, .inl x7)] [.inl s0] M := by
  unfold g9_prices_b97 at h
  refine V.ist (lv' := [(0, .inr 154), (4, .inl x4), (5, .inl x5), (6, .inl s0), (7, .inl x7)]) (r := 99) hC dX9_prices_97 rfl rfl rfl ?_
  refine V.iload (r := 101) hC 2 dX9_prices_99 rfl rfl ?_
  refine V.iconst (r := 102) hC dX9_prices_101 ki_1 rfl ?_
  refine V.iadd (r := 103) hC dX9_prices_102 rfl ?_
  refine V.ist (lv' := [(0, .inr 154), (4, .inl x4), (5, .inl (x5 + (1 : Int32))), (6, .inl s0), (7, .inl x7)]) (r := 105) hC dX9_prices_103 rfl rfl rfl ?_
  exact v9_prices_b105  hC hR hk65 _ _ _ _ _ h
def g9_prices_b65 : Nat → Int32 → Int32 → Int32 → Int32 → xMem → Option (Int32 × xMem)
  | 0, _, _, _, _, _ => none
  | n + 1, x4, x5, x6, x7, M => 
    (if (25 : Int32) ≤ x7 then
    (if x4 = 0 then
    (some (x5, M))
    else
    (if x6 = (-1 : Int32) then
    (some ((-2 : Int32), M))
    else
    (if x4 = (1 : Int32) then
    (some ((x6 / (5 : Int32)) + (1 : Int32), M))
    else
    (some ((x6 - x6 / (5 : Int32) * (5 : Int32)) + (1 : Int32), M)))))
    else
    (Option.bind (g9_rests x7 M) fun q22 =>
    if (q22.1) = 0 then
    (g9_prices_b105 (g9_prices_b65 n) x4 x5 x6 x7 q22.2)
    else
    (if x6 = (-1 : Int32) then
    (g9_prices_b97 (g9_prices_b65 n) x4 x5 x7 x7 q22.2)
    else
    (g9_prices_b97 (g9_prices_b65 n) x4 x5 x7 x6 q22.2))))
set_option maxHeartbeats 4000000 in
set_option maxRecDepth 20000 in
theorem v9_prices_b65 {G : xG} (hC : xC G cX9_prices 8 RX9 10) {R : Int32 × xMem} (hR : xRI G cX9_prices 8 R) : ∀ (n : Nat) (x4 x5 x6 x7 : Int32) (M : xMem), g9_prices_b65 n x4 x5 x6 x7 M = some R → V G 8 65 [(0, .inr 154), (4, .inl x4), (5, .inl x5), (6, .inl x6), (7, .inl x7)] [] M := by
  intro n
  induction n with
  | zero => intro x4 x5 x6 x7 M h; rw [g9_prices_b65] at h; cases h
  | succ n ih =>
    intro x4 x5 x6 x7 M h
    rw [g9_prices_b65] at h
    refine V.iload (r := 67) hC 4 dX9_prices_65 rfl rfl ?_
    refine V.bipush (r := 69) hC dX9_prices_67 kb_25 rfl ?_
    refine V.icmp_ge (tgt := 111) (r := 72) hC dX9_prices_69 (by decide) rfl (fun c18 => ?_) (fun c18 => ?_)
    · rw [if_pos c18] at h
      refine V.iload (r := 113) hC 1 dX9_prices_111 rfl rfl ?_
      refine V.if_ne (tgt := 121) (r := 116) hC dX9_prices_113 (by decide) rfl (fun c19 => ?_) (fun c19 => ?_)
      · rw [if_neg c19] at h
        refine V.iload (r := 123) hC 3 dX9_prices_121 rfl rfl ?_
        refine V.iconst (r := 124) hC dX9_prices_123 ki_m1 rfl ?_
        refine V.icmp_ne (tgt := 132) (r := 127) hC dX9_prices_124 (by decide) rfl (fun c20 => ?_) (fun c20 => ?_)
        · rw [if_neg c20] at h
          refine V.iload (r := 134) hC 1 dX9_prices_132 rfl rfl ?_
          refine V.iconst (r := 135) hC dX9_prices_134 ki_1 rfl ?_
          refine V.icmp_ne (tgt := 147) (r := 138) hC dX9_prices_135 (by decide) rfl (fun c21 => ?_) (fun c21 => ?_)
          · rw [if_neg c21] at h
            refine V.iload (r := 149) hC 3 dX9_prices_147 rfl rfl ?_
            refine V.iconst (r := 150) hC dX9_prices_149 ki_5 rfl ?_
            refine V.irem (r := 151) hC dX9_prices_150 (by decide) rfl ?_
            refine V.iconst (r := 152) hC dX9_prices_151 ki_1 rfl ?_
            refine V.iadd (r := 153) hC dX9_prices_152 rfl ?_
            cases h
            exact hR _ _ dX9_prices_153
          · rw [if_pos c21] at h
            refine V.iload (r := 140) hC 3 dX9_prices_138 rfl rfl ?_
            refine V.iconst (r := 141) hC dX9_prices_140 ki_5 rfl ?_
            refine V.idiv (r := 142) hC dX9_prices_141 (by decide) rfl ?_
            refine V.iconst (r := 143) hC dX9_prices_142 ki_1 rfl ?_
            refine V.iadd (r := 144) hC dX9_prices_143 rfl ?_
            refine V.goto (tgt := 153) hC dX9_prices_144 (by decide) ?_
            cases h
            exact hR _ _ dX9_prices_153
        · rw [if_pos c20] at h
          refine V.bipush (r := 129) hC dX9_prices_127 kb_m2 rfl ?_
          refine V.goto (tgt := 153) hC dX9_prices_129 (by decide) ?_
          cases h
          exact hR _ _ dX9_prices_153
      · rw [if_pos c19] at h
        refine V.iload (r := 118) hC 2 dX9_prices_116 rfl rfl ?_
        refine V.goto (tgt := 153) hC dX9_prices_118 (by decide) ?_
        cases h
        exact hR _ _ dX9_prices_153
    · rw [if_neg c18] at h
      refine V.aload_n (r := 73) hC 0 dX9_prices_72 rfl rfl ?_
      refine V.iload (r := 75) hC 4 dX9_prices_73 rfl rfl ?_
      obtain ⟨q22, hq23, h⟩ := Option.bind_eq_some_iff.mp h
      try dsimp only at h
      refine V.invVi (as := [.inl x7]) (st := []) (r := 78) hC (met9_rests hq23) yv_X9_rests ml_RX9_349 sh_154 rfl rfl dX9_prices_75 (by decide) rfl rfl rfl rfl ?_
      refine V.if_ne (tgt := 84) (r := 81) hC dX9_prices_78 (by decide) rfl (fun c24 => ?_) (fun c24 => ?_)
      · rw [if_neg c24] at h
        refine V.iload (r := 86) hC 3 dX9_prices_84 rfl rfl ?_
        refine V.iconst (r := 87) hC dX9_prices_86 ki_m1 rfl ?_
        refine V.icmp_ne (tgt := 95) (r := 90) hC dX9_prices_87 (by decide) rfl (fun c25 => ?_) (fun c25 => ?_)
        · rw [if_neg c25] at h
          refine V.iload (r := 97) hC 3 dX9_prices_95 rfl rfl ?_
          refine V.pick (lv' := [(0, .inr 154), (4, .inl x4), (5, .inl x5), (7, .inl x7)]) [0, 1, 2, 4] rfl ?_
          exact v9_prices_b97  hC hR ih _ _ _ _ _ h
        · rw [if_pos c25] at h
          refine V.iload (r := 92) hC 4 dX9_prices_90 rfl rfl ?_
          refine V.goto (tgt := 97) hC dX9_prices_92 (by decide) ?_
          refine V.pick (lv' := [(0, .inr 154), (4, .inl x4), (5, .inl x5), (7, .inl x7)]) [0, 1, 2, 4] rfl ?_
          exact v9_prices_b97  hC hR ih _ _ _ _ _ h
      · rw [if_pos c24] at h
        refine V.goto (tgt := 105) hC dX9_prices_81 (by decide) ?_
        exact v9_prices_b105  hC hR ih _ _ _ _ _ h
def g9_prices (a0 a1 a2 a3 : Int32) (M : xMem) : Option (Int32 × xMem) :=
Option.bind (g9_isUnlit a0 M) fun q1 =>
if (q1.1) = 0 then
(some ((-3 : Int32), q1.2))
else
(Option.bind (g9_isUnlit a1 q1.2) fun q4 =>
if (q4.1) = 0 then
(some ((-3 : Int32), q4.2))
else
(if a0 = a1 then
(some ((-3 : Int32), q4.2))
else
(Option.bind (g9_in a2 (0 : Int32) (9999 : Int32) q4.2) fun q8 =>
if (q8.1) = 0 then
(some ((-3 : Int32), q8.2))
else
(Option.bind (g9_in a3 (0 : Int32) (2 : Int32) q8.2) fun q11 =>
if (q11.1) = 0 then
(some ((-3 : Int32), q11.2))
else
(Option.bind (g9_laysLiving q11.2) fun q14 =>
Option.bind (g9_laysGains a0 a1 a2 q14) fun q16 =>
g9_prices_b65 5000 a3 (0 : Int32) (-1 : Int32) (0 : Int32) q16)))))
set_option maxHeartbeats 4000000 in
set_option maxRecDepth 20000 in
theorem v9_prices {G : xG} (hC : xC G cX9_prices 8 RX9 10) {R : Int32 × xMem} (hR : xRI G cX9_prices 8 R) {a0 a1 a2 a3 : Int32} {M : xMem} (h : g9_prices a0 a1 a2 a3 M = some R) : V G 8 0 [(0, .inr 154), (1, .inl a0), (2, .inl a1), (3, .inl a2), (4, .inl a3)] [] M := by
  unfold g9_prices at h
  refine V.aload_n (r := 1) hC 0 dX9_prices_0 rfl rfl ?_
  refine V.iload_n (r := 2) hC 1 dX9_prices_1 rfl rfl ?_
  obtain ⟨q1, hq2, h⟩ := Option.bind_eq_some_iff.mp h
  try dsimp only at h
  refine V.invVi (as := [.inl a0]) (st := []) (r := 5) hC (met9_isUnlit hq2) yv_X9_isUnlit ml_RX9_342 sh_154 rfl rfl dX9_prices_2 (by decide) rfl rfl rfl rfl ?_
  refine V.if_eq (tgt := 42) (r := 8) hC dX9_prices_5 (by decide) rfl (fun c3 => ?_) (fun c3 => ?_)
  · rw [if_pos c3] at h
    refine V.bipush (r := 44) hC dX9_prices_42 kb_m3 rfl ?_
    cases h
    exact hR _ _ dX9_prices_44
  · rw [if_neg c3] at h
    refine V.aload_n (r := 9) hC 0 dX9_prices_8 rfl rfl ?_
    refine V.iload_n (r := 10) hC 2 dX9_prices_9 rfl rfl ?_
    obtain ⟨q4, hq5, h⟩ := Option.bind_eq_some_iff.mp h
    try dsimp only at h
    refine V.invVi (as := [.inl a1]) (st := []) (r := 13) hC (met9_isUnlit hq5) yv_X9_isUnlit ml_RX9_342 sh_154 rfl rfl dX9_prices_10 (by decide) rfl rfl rfl rfl ?_
    refine V.if_eq (tgt := 42) (r := 16) hC dX9_prices_13 (by decide) rfl (fun c6 => ?_) (fun c6 => ?_)
    · rw [if_pos c6] at h
      refine V.bipush (r := 44) hC dX9_prices_42 kb_m3 rfl ?_
      cases h
      exact hR _ _ dX9_prices_44
    · rw [if_neg c6] at h
      refine V.iload_n (r := 17) hC 1 dX9_prices_16 rfl rfl ?_
      refine V.iload_n (r := 18) hC 2 dX9_prices_17 rfl rfl ?_
      refine V.icmp_eq (tgt := 42) (r := 21) hC dX9_prices_18 (by decide) rfl (fun c7 => ?_) (fun c7 => ?_)
      · rw [if_pos c7] at h
        refine V.bipush (r := 44) hC dX9_prices_42 kb_m3 rfl ?_
        cases h
        exact hR _ _ dX9_prices_44
      · rw [if_neg c7] at h
        refine V.iload_n (r := 22) hC 3 dX9_prices_21 rfl rfl ?_
        refine V.iconst (r := 23) hC dX9_prices_22 ki_0 rfl ?_
        refine V.sipush (r := 26) hC dX9_prices_23 ks_9999 rfl ?_
        obtain ⟨q8, hq9, h⟩ := Option.bind_eq_some_iff.mp h
        try dsimp only at h
        refine V.invSi (as := [.inl a2, .inl (0 : Int32), .inl (9999 : Int32)]) (st := []) (r := 29) hC (met9_in hq9) ys_X9_in ml_RX9_92 dX9_prices_26 (by decide) rfl rfl rfl rfl ?_
        refine V.if_eq (tgt := 42) (r := 32) hC dX9_prices_29 (by decide) rfl (fun c10 => ?_) (fun c10 => ?_)
        · rw [if_pos c10] at h
          refine V.bipush (r := 44) hC dX9_prices_42 kb_m3 rfl ?_
          cases h
          exact hR _ _ dX9_prices_44
        · rw [if_neg c10] at h
          refine V.iload (r := 34) hC 4 dX9_prices_32 rfl rfl ?_
          refine V.iconst (r := 35) hC dX9_prices_34 ki_0 rfl ?_
          refine V.iconst (r := 36) hC dX9_prices_35 ki_2 rfl ?_
          obtain ⟨q11, hq12, h⟩ := Option.bind_eq_some_iff.mp h
          try dsimp only at h
          refine V.invSi (as := [.inl a3, .inl (0 : Int32), .inl (2 : Int32)]) (st := []) (r := 39) hC (met9_in hq12) ys_X9_in ml_RX9_92 dX9_prices_36 (by decide) rfl rfl rfl rfl ?_
          refine V.if_ne (tgt := 45) (r := 42) hC dX9_prices_39 (by decide) rfl (fun c13 => ?_) (fun c13 => ?_)
          · rw [if_neg c13] at h
            refine V.aload_n (r := 46) hC 0 dX9_prices_45 rfl rfl ?_
            obtain ⟨q14, hq15, h⟩ := Option.bind_eq_some_iff.mp h
            try dsimp only at h
            refine V.invVv (as := []) (st := []) (r := 49) hC (met9_laysLiving hq15) yv_X9_laysLiving ml_RX9_336 sh_154 rfl rfl dX9_prices_46 (by decide) rfl rfl rfl rfl ?_
            refine V.aload_n (r := 50) hC 0 dX9_prices_49 rfl rfl ?_
            refine V.iload_n (r := 51) hC 1 dX9_prices_50 rfl rfl ?_
            refine V.iload_n (r := 52) hC 2 dX9_prices_51 rfl rfl ?_
            refine V.iload_n (r := 53) hC 3 dX9_prices_52 rfl rfl ?_
            obtain ⟨q16, hq17, h⟩ := Option.bind_eq_some_iff.mp h
            try dsimp only at h
            refine V.invVv (as := [.inl a0, .inl a1, .inl a2]) (st := []) (r := 56) hC (met9_laysGains hq17) yv_X9_laysGains ml_RX9_345 sh_154 rfl rfl dX9_prices_53 (by decide) rfl rfl rfl rfl ?_
            refine V.iconst (r := 57) hC dX9_prices_56 ki_0 rfl ?_
            refine V.ist (lv' := [(0, .inr 154), (1, .inl a0), (2, .inl a1), (3, .inl a2), (4, .inl a3), (5, .inl (0 : Int32))]) (r := 59) hC dX9_prices_57 rfl rfl rfl ?_
            refine V.iconst (r := 60) hC dX9_prices_59 ki_m1 rfl ?_
            refine V.ist (lv' := [(0, .inr 154), (1, .inl a0), (2, .inl a1), (3, .inl a2), (4, .inl a3), (5, .inl (0 : Int32)), (6, .inl (-1 : Int32))]) (r := 62) hC dX9_prices_60 rfl rfl rfl ?_
            refine V.iconst (r := 63) hC dX9_prices_62 ki_0 rfl ?_
            refine V.ist (lv' := [(0, .inr 154), (1, .inl a0), (2, .inl a1), (3, .inl a2), (4, .inl a3), (5, .inl (0 : Int32)), (6, .inl (-1 : Int32)), (7, .inl (0 : Int32))]) (r := 65) hC dX9_prices_63 rfl rfl rfl ?_
            refine V.pick (lv' := [(0, .inr 154), (4, .inl a3), (5, .inl (0 : Int32)), (6, .inl (-1 : Int32)), (7, .inl (0 : Int32))]) [0, 4, 5, 6, 7] rfl ?_
            exact v9_prices_b65  hC hR  5000 _ _ _ _ _ h
          · rw [if_pos c13] at h
            refine V.bipush (r := 44) hC dX9_prices_42 kb_m3 rfl ?_
            cases h
            exact hR _ _ dX9_prices_44
theorem met9_prices {R : Int32 × xMem} {a0 a1 a2 a3 : Int32} {M : xMem} (h : g9_prices a0 a1 a2 a3 M = some R) : xMet yX9_prices cX9_prices 8 (some .int) 10 [.inr 154, .inl a0, .inl a1, .inl a2, .inl a3] M (some R.1) R.2 := xMet.ofI (by decide +kernel) (Nat.le_of_ble_eq_true rfl) fun _ hC hR => v9_prices  hC hR h
def g9_areWithin (a0 : Int32) (M : xMem) : Option (Int32 × xMem) :=
Option.bind (g9_in a0 (1 : Int32) (8 : Int32) M) fun q1 =>
if (q1.1) = 0 then
(some ((0 : Int32), q1.2))
else
(if (8 : Int32) < ((q1.2 7 328) + a0) then
(some ((0 : Int32), q1.2))
else
(some ((1 : Int32), q1.2)))
set_option maxHeartbeats 4000000 in
set_option maxRecDepth 20000 in
theorem v9_areWithin {G : xG} (hC : xC G cX9_areWithin 2 RX9 1) {R : Int32 × xMem} (hR : xRZ G cX9_areWithin 2 R) {a0 : Int32} {M : xMem} (h : g9_areWithin a0 M = some R) : V G 2 0 [(0, .inr 154), (1, .inl a0)] [] M := by
  unfold g9_areWithin at h
  refine V.iload_n (r := 1) hC 1 dX9_areWithin_0 rfl rfl ?_
  refine V.iconst (r := 2) hC dX9_areWithin_1 ki_1 rfl ?_
  refine V.bipush (r := 4) hC dX9_areWithin_2 kb_8 rfl ?_
  obtain ⟨q1, hq2, h⟩ := Option.bind_eq_some_iff.mp h
  try dsimp only at h
  refine V.invSi (as := [.inl a0, .inl (1 : Int32), .inl (8 : Int32)]) (st := []) (r := 7) hC (met9_in hq2) ys_X9_in ml_RX9_92 dX9_areWithin_4 (by decide) rfl rfl rfl rfl ?_
  refine V.if_eq (tgt := 29) (r := 10) hC dX9_areWithin_7 (by decide) rfl (fun c3 => ?_) (fun c3 => ?_)
  · rw [if_pos c3] at h
    refine V.iconst (r := 30) hC dX9_areWithin_29 ki_0 rfl ?_
    cases h
    exact hR _ _ (Or.inl rfl) dX9_areWithin_30
  · rw [if_neg c3] at h
    refine V.aload_n (r := 11) hC 0 dX9_areWithin_10 rfl rfl ?_
    refine V.getR (k' := 155) (j := 0) (r := 14) hC xcl_9 sh_154 fl_RX9_7 dX9_areWithin_11 (by decide) rfl rfl ?_
    refine V.sipush (r := 17) hC dX9_areWithin_14 ks_328 rfl ?_
    refine V.iald (t := 328) (r := 18) hC sh_155 dX9_areWithin_17 (by decide) (by decide) rfl ?_
    refine V.iload_n (r := 19) hC 1 dX9_areWithin_18 rfl rfl ?_
    refine V.iadd (r := 20) hC dX9_areWithin_19 rfl ?_
    refine V.bipush (r := 22) hC dX9_areWithin_20 kb_8 rfl ?_
    refine V.icmp_gt (tgt := 29) (r := 25) hC dX9_areWithin_22 (by decide) rfl (fun c4 => ?_) (fun c4 => ?_)
    · rw [if_pos c4] at h
      refine V.iconst (r := 30) hC dX9_areWithin_29 ki_0 rfl ?_
      cases h
      exact hR _ _ (Or.inl rfl) dX9_areWithin_30
    · rw [if_neg c4] at h
      refine V.iconst (r := 26) hC dX9_areWithin_25 ki_1 rfl ?_
      refine V.goto (tgt := 30) hC dX9_areWithin_26 (by decide) ?_
      cases h
      exact hR _ _ (Or.inr rfl) dX9_areWithin_30
theorem met9_areWithin {R : Int32 × xMem} {a0 : Int32} {M : xMem} (h : g9_areWithin a0 M = some R) : xMet yX9_areWithin cX9_areWithin 2 (some .boolean) 1 [.inr 154, .inl a0] M (some R.1) R.2 := xMet.ofZ (by decide +kernel) (Nat.le_of_ble_eq_true rfl) fun _ hC hR => v9_areWithin  hC hR h
def g9_unknown_b62 (k6 : Int32 → Int32 → Int32 → xMem → Option (Int32 × xMem)) (x1 x2 x3 : Int32) (M : xMem) : Option (Int32 × xMem) :=
k6 x1 x2 (x3 + (1 : Int32)) M
set_option maxHeartbeats 4000000 in
set_option maxRecDepth 20000 in
theorem v9_unknown_b62 {G : xG} (hC : xC G cX9_unknown 4 RX9 3) {R : Int32 × xMem} (hR : xRI G cX9_unknown 4 R) {k6 : Int32 → Int32 → Int32 → xMem → Option (Int32 × xMem)} (hk6 : ∀ (y1 y2 y3 : Int32) (N : xMem), k6 y1 y2 y3 N = some R → V G 4 6 [(0, .inr 154), (1, .inl y1), (2, .inl y2), (3, .inl y3)] [] N) (x1 x2 x3 : Int32) (M : xMem) (h : g9_unknown_b62 k6 x1 x2 x3 M = some R) : V G 4 62 [(0, .inr 154), (1, .inl x1), (2, .inl x2), (3, .inl x3)] [] M := by
  unfold g9_unknown_b62 at h
  refine V.inc (lv' := [(0, .inr 154), (1, .inl x1), (2, .inl x2), (3, .inl (x3 + (1 : Int32)))]) (r := 65) hC 3 dX9_unknown_62 rfl ki_1 rfl rfl rfl ?_
  refine V.goto (tgt := 6) hC dX9_unknown_65 (by decide) ?_
  exact hk6 _ _ _ _ h
def g9_unknown_b60 (k6 : Int32 → Int32 → Int32 → xMem → Option (Int32 × xMem)) (x1 x3 s0 s1 : Int32) (M : xMem) : Option (Int32 × xMem) :=
g9_unknown_b62 k6 x1 (s0 + s1) x3 M
set_option maxHeartbeats 4000000 in
set_option maxRecDepth 20000 in
theorem v9_unknown_b60 {G : xG} (hC : xC G cX9_unknown 4 RX9 3) {R : Int32 × xMem} (hR : xRI G cX9_unknown 4 R) {k6 : Int32 → Int32 → Int32 → xMem → Option (Int32 × xMem)} (hk6 : ∀ (y1 y2 y3 : Int32) (N : xMem), k6 y1 y2 y3 N = some R → V G 4 6 [(0, .inr 154), (1, .inl y1), (2, .inl y2), (3, .inl y3)] [] N) (x1 x3 s0 s1 : Int32) (M : xMem) (h : g9_unknown_b60 k6 x1 x3 s0 s1 M = some R) : V G 4 60 [(0, .inr 154), (1, .inl x1), (3, .inl x3)] [.inl s1, .inl s0] M := by
  unfold g9_unknown_b60 at h
  refine V.iadd (r := 61) hC dX9_unknown_60 rfl ?_
  refine V.ist_n (lv' := [(0, .inr 154), (1, .inl x1), (2, .inl (s0 + s1)), (3, .inl x3)]) (r := 62) hC dX9_unknown_61 rfl rfl rfl ?_
  exact v9_unknown_b62  hC hR hk6 _ _ _ _ h
def g9_unknown_b42 (k6 : Int32 → Int32 → Int32 → xMem → Option (Int32 × xMem)) (x1 x2 x3 : Int32) (M : xMem) : Option (Int32 × xMem) :=
if (9 : Int32) ≤ x3 then
(g9_unknown_b60 k6 (x1 ||| ((1 : Int32) <<< (x3 &&& 31))) x3 x2 (0 : Int32) M)
else
(g9_unknown_b60 k6 (x1 ||| ((1 : Int32) <<< (x3 &&& 31))) x3 x2 (1 : Int32) M)
set_option maxHeartbeats 4000000 in
set_option maxRecDepth 20000 in
theorem v9_unknown_b42 {G : xG} (hC : xC G cX9_unknown 4 RX9 3) {R : Int32 × xMem} (hR : xRI G cX9_unknown 4 R) {k6 : Int32 → Int32 → Int32 → xMem → Option (Int32 × xMem)} (hk6 : ∀ (y1 y2 y3 : Int32) (N : xMem), k6 y1 y2 y3 N = some R → V G 4 6 [(0, .inr 154), (1, .inl y1), (2, .inl y2), (3, .inl y3)] [] N) (x1 x2 x3 : Int32) (M : xMem) (h : g9_unknown_b42 k6 x1 x2 x3 M = some R) : V G 4 42 [(0, .inr 154), (1, .inl x1), (2, .inl x2), (3, .inl x3)] [] M := by
  unfold g9_unknown_b42 at h
  refine V.iload_n (r := 43) hC 1 dX9_unknown_42 rfl rfl ?_
  refine V.iconst (r := 44) hC dX9_unknown_43 ki_1 rfl ?_
  refine V.iload_n (r := 45) hC 3 dX9_unknown_44 rfl rfl ?_
  refine V.ishl (r := 46) hC dX9_unknown_45 rfl ?_
  refine V.ior (r := 47) hC dX9_unknown_46 rfl ?_
  refine V.ist_n (lv' := [(0, .inr 154), (1, .inl (x1 ||| ((1 : Int32) <<< (x3 &&& 31)))), (2, .inl x2), (3, .inl x3)]) (r := 48) hC dX9_unknown_47 rfl rfl rfl ?_
  refine V.iload_n (r := 49) hC 2 dX9_unknown_48 rfl rfl ?_
  refine V.iload_n (r := 50) hC 3 dX9_unknown_49 rfl rfl ?_
  refine V.bipush (r := 52) hC dX9_unknown_50 kb_9 rfl ?_
  refine V.icmp_ge (tgt := 59) (r := 55) hC dX9_unknown_52 (by decide) rfl (fun c10 => ?_) (fun c10 => ?_)
  · rw [if_pos c10] at h
    refine V.iconst (r := 60) hC dX9_unknown_59 ki_0 rfl ?_
    refine V.pick (lv' := [(0, .inr 154), (1, .inl (x1 ||| ((1 : Int32) <<< (x3 &&& 31)))), (3, .inl x3)]) [0, 1, 3] rfl ?_
    exact v9_unknown_b60  hC hR hk6 _ _ _ _ _ h
  · rw [if_neg c10] at h
    refine V.iconst (r := 56) hC dX9_unknown_55 ki_1 rfl ?_
    refine V.goto (tgt := 60) hC dX9_unknown_56 (by decide) ?_
    refine V.pick (lv' := [(0, .inr 154), (1, .inl (x1 ||| ((1 : Int32) <<< (x3 &&& 31)))), (3, .inl x3)]) [0, 1, 3] rfl ?_
    exact v9_unknown_b60  hC hR hk6 _ _ _ _ _ h
def g9_unknown_b6 : Nat → Int32 → Int32 → Int32 → xMem → Option (Int32 × xMem)
  | 0, _, _, _, _ => none
  | n + 1, x1, x2, x3, M => 
    (if (12 : Int32) ≤ x3 then
    (some (x1, M))
    else
    (Option.bind (g9_isLamp x3 M) fun q2 =>
    if (q2.1) = 0 then
    (g9_unknown_b62 (g9_unknown_b6 n) x1 x2 x3 q2.2)
    else
    (if (9 : Int32) ≤ x3 then
    (g9_unknown_b42 (g9_unknown_b6 n) x1 x2 x3 q2.2)
    else
    (Option.bind (g9_isLit x3 q2.2) fun q6 =>
    if (q6.1) = 0 then
    (if x2 = (5 : Int32) then
    (g9_unknown_b62 (g9_unknown_b6 n) x1 x2 x3 q6.2)
    else
    (g9_unknown_b42 (g9_unknown_b6 n) x1 x2 x3 q6.2))
    else
    (g9_unknown_b62 (g9_unknown_b6 n) x1 x2 x3 q6.2)))))
set_option maxHeartbeats 4000000 in
set_option maxRecDepth 20000 in
theorem v9_unknown_b6 {G : xG} (hC : xC G cX9_unknown 4 RX9 3) {R : Int32 × xMem} (hR : xRI G cX9_unknown 4 R) : ∀ (n : Nat) (x1 x2 x3 : Int32) (M : xMem), g9_unknown_b6 n x1 x2 x3 M = some R → V G 4 6 [(0, .inr 154), (1, .inl x1), (2, .inl x2), (3, .inl x3)] [] M := by
  intro n
  induction n with
  | zero => intro x1 x2 x3 M h; rw [g9_unknown_b6] at h; cases h
  | succ n ih =>
    intro x1 x2 x3 M h
    rw [g9_unknown_b6] at h
    refine V.iload_n (r := 7) hC 3 dX9_unknown_6 rfl rfl ?_
    refine V.bipush (r := 9) hC dX9_unknown_7 kb_12 rfl ?_
    refine V.icmp_ge (tgt := 68) (r := 12) hC dX9_unknown_9 (by decide) rfl (fun c1 => ?_) (fun c1 => ?_)
    · rw [if_pos c1] at h
      refine V.iload_n (r := 69) hC 1 dX9_unknown_68 rfl rfl ?_
      cases h
      exact hR _ _ dX9_unknown_69
    · rw [if_neg c1] at h
      refine V.aload_n (r := 13) hC 0 dX9_unknown_12 rfl rfl ?_
      refine V.iload_n (r := 14) hC 3 dX9_unknown_13 rfl rfl ?_
      obtain ⟨q2, hq3, h⟩ := Option.bind_eq_some_iff.mp h
      try dsimp only at h
      refine V.invVi (as := [.inl x3]) (st := []) (r := 17) hC (met9_isLamp hq3) yv_X9_isLamp ml_RX9_109 sh_154 rfl rfl dX9_unknown_14 (by decide) rfl rfl rfl rfl ?_
      refine V.if_eq (tgt := 62) (r := 20) hC dX9_unknown_17 (by decide) rfl (fun c4 => ?_) (fun c4 => ?_)
      · rw [if_pos c4] at h
        exact v9_unknown_b62  hC hR ih _ _ _ _ h
      · rw [if_neg c4] at h
        refine V.iload_n (r := 21) hC 3 dX9_unknown_20 rfl rfl ?_
        refine V.bipush (r := 23) hC dX9_unknown_21 kb_9 rfl ?_
        refine V.icmp_ge (tgt := 42) (r := 26) hC dX9_unknown_23 (by decide) rfl (fun c5 => ?_) (fun c5 => ?_)
        · rw [if_pos c5] at h
          exact v9_unknown_b42  hC hR ih _ _ _ _ h
        · rw [if_neg c5] at h
          refine V.aload_n (r := 27) hC 0 dX9_unknown_26 rfl rfl ?_
          refine V.iload_n (r := 28) hC 3 dX9_unknown_27 rfl rfl ?_
          obtain ⟨q6, hq7, h⟩ := Option.bind_eq_some_iff.mp h
          try dsimp only at h
          refine V.invVi (as := [.inl x3]) (st := []) (r := 31) hC (met9_isLit hq7) yv_X9_isLit ml_RX9_253 sh_154 rfl rfl dX9_unknown_28 (by decide) rfl rfl rfl rfl ?_
          refine V.if_ne (tgt := 62) (r := 34) hC dX9_unknown_31 (by decide) rfl (fun c8 => ?_) (fun c8 => ?_)
          · rw [if_neg c8] at h
            exact v9_unknown_b62  hC hR ih _ _ _ _ h
          · rw [if_pos c8] at h
            refine V.iload_n (r := 35) hC 2 dX9_unknown_34 rfl rfl ?_
            refine V.iconst (r := 36) hC dX9_unknown_35 ki_5 rfl ?_
            refine V.icmp_ne (tgt := 42) (r := 39) hC dX9_unknown_36 (by decide) rfl (fun c9 => ?_) (fun c9 => ?_)
            · rw [if_neg c9] at h
              exact v9_unknown_b42  hC hR ih _ _ _ _ h
            · rw [if_pos c9] at h
              refine V.goto (tgt := 62) hC dX9_unknown_39 (by decide) ?_
              exact v9_unknown_b62  hC hR ih _ _ _ _ h
def g9_unknown (M : xMem) : Option (Int32 × xMem) :=
g9_unknown_b6 5000 (0 : Int32) (0 : Int32) (0 : Int32) M
set_option maxHeartbeats 4000000 in
set_option maxRecDepth 20000 in
theorem v9_unknown {G : xG} (hC : xC G cX9_unknown 4 RX9 3) {R : Int32 × xMem} (hR : xRI G cX9_unknown 4 R) {M : xMem} (h : g9_unknown M = some R) : V G 4 0 [(0, .inr 154)] [] M := by
  unfold g9_unknown at h
  refine V.iconst (r := 1) hC dX9_unknown_0 ki_0 rfl ?_
  refine V.ist_n (lv' := [(0, .inr 154), (1, .inl (0 : Int32))]) (r := 2) hC dX9_unknown_1 rfl rfl rfl ?_
  refine V.iconst (r := 3) hC dX9_unknown_2 ki_0 rfl ?_
  refine V.ist_n (lv' := [(0, .inr 154), (1, .inl (0 : Int32)), (2, .inl (0 : Int32))]) (r := 4) hC dX9_unknown_3 rfl rfl rfl ?_
  refine V.iconst (r := 5) hC dX9_unknown_4 ki_0 rfl ?_
  refine V.ist_n (lv' := [(0, .inr 154), (1, .inl (0 : Int32)), (2, .inl (0 : Int32)), (3, .inl (0 : Int32))]) (r := 6) hC dX9_unknown_5 rfl rfl rfl ?_
  exact v9_unknown_b6  hC hR  5000 _ _ _ _ h
theorem met9_unknown {R : Int32 × xMem} {M : xMem} (h : g9_unknown M = some R) : xMet yX9_unknown cX9_unknown 4 (some .int) 3 [.inr 154] M (some R.1) R.2 := xMet.ofI (by decide +kernel) (Nat.le_of_ble_eq_true rfl) fun _ hC hR => v9_unknown  hC hR h
def g9_comesSo_b31 (k6 : Int32 → Int32 → Int32 → xMem → Option (Int32 × xMem)) (x1 x2 x3 : Int32) (M : xMem) : Option (Int32 × xMem) :=
k6 x1 x2 (x3 + (1 : Int32)) M
set_option maxHeartbeats 4000000 in
set_option maxRecDepth 20000 in
theorem v9_comesSo_b31 {G : xG} (hC : xC G cX9_comesSo 4 RX9 8) {R : Int32 × xMem} (hR : xRZ G cX9_comesSo 4 R) {k6 : Int32 → Int32 → Int32 → xMem → Option (Int32 × xMem)} (hk6 : ∀ (y1 y2 y3 : Int32) (N : xMem), k6 y1 y2 y3 N = some R → V G 4 6 [(0, .inr 154), (1, .inl y1), (2, .inl y2), (3, .inl y3)] [] N) (x1 x2 x3 : Int32) (M : xMem) (h : g9_comesSo_b31 k6 x1 x2 x3 M = some R) : V G 4 31 [(0, .inr 154), (1, .inl x1), (2, .inl x2), (3, .inl x3)] [] M := by
  unfold g9_comesSo_b31 at h
  refine V.inc (lv' := [(0, .inr 154), (1, .inl x1), (2, .inl x2), (3, .inl (x3 + (1 : Int32)))]) (r := 34) hC 3 dX9_comesSo_31 rfl ki_1 rfl rfl rfl ?_
  refine V.goto (tgt := 6) hC dX9_comesSo_34 (by decide) ?_
  exact hk6 _ _ _ _ h
def g9_comesSo_b68 (k40 : Int32 → Int32 → Int32 → xMem → Option (Int32 × xMem)) (x1 x2 x3 s1 s2 : Int32) (M : xMem) : Option (Int32 × xMem) :=
if s1 < 0 ∨ 331 ≤ s1.toNatClampNeg then none else
mset (upM M 7 s1.toNatClampNeg s2) fun M16 =>
k40 x1 x2 (x3 + (1 : Int32)) M16
set_option maxHeartbeats 4000000 in
set_option maxRecDepth 20000 in
theorem v9_comesSo_b68 {G : xG} (hC : xC G cX9_comesSo 4 RX9 8) {R : Int32 × xMem} (hR : xRZ G cX9_comesSo 4 R) {k40 : Int32 → Int32 → Int32 → xMem → Option (Int32 × xMem)} (hk40 : ∀ (y1 y2 y3 : Int32) (N : xMem), k40 y1 y2 y3 N = some R → V G 4 40 [(0, .inr 154), (1, .inl y1), (2, .inl y2), (3, .inl y3)] [] N) (x1 x2 x3 s1 s2 : Int32) (M : xMem) (h : g9_comesSo_b68 k40 x1 x2 x3 s1 s2 M = some R) : V G 4 68 [(0, .inr 154), (1, .inl x1), (2, .inl x2), (3, .inl x3)] [.inl s2, .inl s1, .inr 155] M := by
  unfold g9_comesSo_b68 at h
  by_cases c15 : s1 < 0 ∨ 331 ≤ s1.toNatClampNeg
  · rw [if_pos c15] at h; cases h
  rw [if_neg c15] at h
  rw [mset_eq] at h
  refine V.iast (t := s1.toNatClampNeg) (r := 69) hC sh_155 dX9_comesSo_68 c15 (Nat.zero_add _) rfl ?_
  generalize upM M 7 s1.toNatClampNeg s2 = M16 at h ⊢
  refine V.inc (lv' := [(0, .inr 154), (1, .inl x1), (2, .inl x2), (3, .inl (x3 + (1 : Int32)))]) (r := 72) hC 3 dX9_comesSo_69 rfl ki_1 rfl rfl rfl ?_
  refine V.goto (tgt := 40) hC dX9_comesSo_72 (by decide) ?_
  exact hk40 _ _ _ _ h
def g9_comesSo_b134 (k83 : Int32 → xMem → Option (Int32 × xMem)) (x3 : Int32) (M : xMem) : Option (Int32 × xMem) :=
k83 (x3 + (1 : Int32)) M
set_option maxHeartbeats 4000000 in
set_option maxRecDepth 20000 in
theorem v9_comesSo_b134 {G : xG} (hC : xC G cX9_comesSo 4 RX9 8) {R : Int32 × xMem} (hR : xRZ G cX9_comesSo 4 R) {k83 : Int32 → xMem → Option (Int32 × xMem)} (hk83 : ∀ (y3 : Int32) (N : xMem), k83 y3 N = some R → V G 4 83 [(0, .inr 154), (3, .inl y3)] [] N) (x3 : Int32) (M : xMem) (h : g9_comesSo_b134 k83 x3 M = some R) : V G 4 134 [(0, .inr 154), (3, .inl x3)] [] M := by
  unfold g9_comesSo_b134 at h
  refine V.inc (lv' := [(0, .inr 154), (3, .inl (x3 + (1 : Int32)))]) (r := 137) hC 1 dX9_comesSo_134 rfl ki_1 rfl rfl rfl ?_
  refine V.goto (tgt := 83) hC dX9_comesSo_137 (by decide) ?_
  exact hk83 _ _ h
def g9_comesSo_b129 (k83 : Int32 → xMem → Option (Int32 × xMem)) (x3 s0 s1 : Int32) (M : xMem) : Option (Int32 × xMem) :=
if s0 = s1 then
(g9_comesSo_b134 k83 x3 M)
else
(some ((0 : Int32), M))
set_option maxHeartbeats 4000000 in
set_option maxRecDepth 20000 in
theorem v9_comesSo_b129 {G : xG} (hC : xC G cX9_comesSo 4 RX9 8) {R : Int32 × xMem} (hR : xRZ G cX9_comesSo 4 R) {k83 : Int32 → xMem → Option (Int32 × xMem)} (hk83 : ∀ (y3 : Int32) (N : xMem), k83 y3 N = some R → V G 4 83 [(0, .inr 154), (3, .inl y3)] [] N) (x3 s0 s1 : Int32) (M : xMem) (h : g9_comesSo_b129 k83 x3 s0 s1 M = some R) : V G 4 129 [(0, .inr 154), (3, .inl x3)] [.inl s1, .inl s0] M := by
  unfold g9_comesSo_b129 at h
  refine V.icmp_eq (tgt := 134) (r := 132) hC dX9_comesSo_129 (by decide) rfl (fun c24 => ?_) (fun c24 => ?_)
  · rw [if_pos c24] at h
    exact v9_comesSo_b134  hC hR hk83 _ _ h
  · rw [if_neg c24] at h
    refine V.iconst (r := 133) hC dX9_comesSo_132 ki_0 rfl ?_
    cases h
    exact hR _ _ (Or.inl rfl) dX9_comesSo_133
def g9_comesSo_b83 : Nat → Int32 → xMem → Option (Int32 × xMem)
  | 0, _, _ => none
  | n + 1, x3, M => 
    (if (6 : Int32) ≤ x3 then
    (some ((1 : Int32), M))
    else
    (if x3 < 0 ∨ 6 ≤ x3.toNatClampNeg then none else
    if (M 195 x3.toNatClampNeg) = (-1 : Int32) then
    (g9_comesSo_b134 (g9_comesSo_b83 n) x3 M)
    else
    (Option.bind (g9_isOn x3 M) fun q20 =>
    if (q20.1) = 0 then
    (g9_comesSo_b129 (g9_comesSo_b83 n) x3 (M 195 x3.toNatClampNeg) (255 : Int32) q20.2)
    else
    (if ((274 : Int32) + x3) < 0 ∨ 331 ≤ ((274 : Int32) + x3).toNatClampNeg then none else
    g9_comesSo_b129 (g9_comesSo_b83 n) x3 (M 195 x3.toNatClampNeg) (q20.2 7 ((274 : Int32) + x3).toNatClampNeg) q20.2))))
set_option maxHeartbeats 4000000 in
set_option maxRecDepth 20000 in
theorem v9_comesSo_b83 {G : xG} (hC : xC G cX9_comesSo 4 RX9 8) {R : Int32 × xMem} (hR : xRZ G cX9_comesSo 4 R) : ∀ (n : Nat) (x3 : Int32) (M : xMem), g9_comesSo_b83 n x3 M = some R → V G 4 83 [(0, .inr 154), (3, .inl x3)] [] M := by
  intro n
  induction n with
  | zero => intro x3 M h; rw [g9_comesSo_b83] at h; cases h
  | succ n ih =>
    intro x3 M h
    rw [g9_comesSo_b83] at h
    refine V.iload_n (r := 84) hC 1 dX9_comesSo_83 rfl rfl ?_
    refine V.bipush (r := 86) hC dX9_comesSo_84 kb_6 rfl ?_
    refine V.icmp_ge (tgt := 140) (r := 89) hC dX9_comesSo_86 (by decide) rfl (fun c17 => ?_) (fun c17 => ?_)
    · rw [if_pos c17] at h
      refine V.iconst (r := 141) hC dX9_comesSo_140 ki_1 rfl ?_
      cases h
      exact hR _ _ (Or.inr rfl) dX9_comesSo_141
    · rw [if_neg c17] at h
      refine V.aload_n (r := 90) hC 0 dX9_comesSo_89 rfl rfl ?_
      refine V.getR (k' := 176) (j := 35) (r := 93) hC xcl_9 sh_154 fl_RX9_74 dX9_comesSo_90 (by decide) rfl rfl ?_
      refine V.iload_n (r := 94) hC 1 dX9_comesSo_93 rfl rfl ?_
      by_cases c18 : x3 < 0 ∨ 6 ≤ x3.toNatClampNeg
      · rw [if_pos c18] at h; cases h
      rw [if_neg c18] at h
      refine V.iald (t := x3.toNatClampNeg) (r := 95) hC sh_176 dX9_comesSo_94 c18 (Nat.zero_add _) rfl ?_
      refine V.iconst (r := 96) hC dX9_comesSo_95 ki_m1 rfl ?_
      refine V.icmp_eq (tgt := 134) (r := 99) hC dX9_comesSo_96 (by decide) rfl (fun c19 => ?_) (fun c19 => ?_)
      · rw [if_pos c19] at h
        exact v9_comesSo_b134  hC hR ih _ _ h
      · rw [if_neg c19] at h
        refine V.aload_n (r := 100) hC 0 dX9_comesSo_99 rfl rfl ?_
        refine V.getR (k' := 176) (j := 35) (r := 103) hC xcl_9 sh_154 fl_RX9_74 dX9_comesSo_100 (by decide) rfl rfl ?_
        refine V.iload_n (r := 104) hC 1 dX9_comesSo_103 rfl rfl ?_
        refine V.iald (t := x3.toNatClampNeg) (r := 105) hC sh_176 dX9_comesSo_104 c18 (Nat.zero_add _) rfl ?_
        refine V.aload_n (r := 106) hC 0 dX9_comesSo_105 rfl rfl ?_
        refine V.iload_n (r := 107) hC 1 dX9_comesSo_106 rfl rfl ?_
        obtain ⟨q20, hq21, h⟩ := Option.bind_eq_some_iff.mp h
        try dsimp only at h
        refine V.invVi (as := [.inl x3]) (st := [.inl (M 195 x3.toNatClampNeg)]) (r := 110) hC (met9_isOn hq21) yv_X9_isOn ml_RX9_85 sh_154 rfl rfl dX9_comesSo_107 (by decide) rfl rfl rfl rfl ?_
        refine V.if_eq (tgt := 126) (r := 113) hC dX9_comesSo_110 (by decide) rfl (fun c22 => ?_) (fun c22 => ?_)
        · rw [if_pos c22] at h
          refine V.sipush (r := 129) hC dX9_comesSo_126 ks_255 rfl ?_
          exact v9_comesSo_b129  hC hR ih _ _ _ _ h
        · rw [if_neg c22] at h
          refine V.aload_n (r := 114) hC 0 dX9_comesSo_113 rfl rfl ?_
          refine V.getR (k' := 155) (j := 0) (r := 117) hC xcl_9 sh_154 fl_RX9_7 dX9_comesSo_114 (by decide) rfl rfl ?_
          refine V.sipush (r := 120) hC dX9_comesSo_117 ks_274 rfl ?_
          refine V.iload_n (r := 121) hC 1 dX9_comesSo_120 rfl rfl ?_
          refine V.iadd (r := 122) hC dX9_comesSo_121 rfl ?_
          by_cases c23 : ((274 : Int32) + x3) < 0 ∨ 331 ≤ ((274 : Int32) + x3).toNatClampNeg
          · rw [if_pos c23] at h; cases h
          rw [if_neg c23] at h
          refine V.iald (t := ((274 : Int32) + x3).toNatClampNeg) (r := 123) hC sh_155 dX9_comesSo_122 c23 (Nat.zero_add _) rfl ?_
          refine V.goto (tgt := 129) hC dX9_comesSo_123 (by decide) ?_
          exact v9_comesSo_b129  hC hR ih _ _ _ _ h
def g9_comesSo_b40 : Nat → Int32 → Int32 → Int32 → xMem → Option (Int32 × xMem)
  | 0, _, _, _, _ => none
  | n + 1, x1, x2, x3, M => 
    (if (12 : Int32) ≤ x3 then
    (Option.bind (g9_runs x1 M) fun q10 =>
    g9_comesSo_b83 5000 (0 : Int32) q10.2)
    else
    (Option.bind (g9_has x2 x3 M) fun q12 =>
    if (q12.1) = 0 then
    (g9_comesSo_b68 (g9_comesSo_b40 n) x1 x2 x3 ((256 : Int32) + x3) (0 : Int32) q12.2)
    else
    (g9_comesSo_b68 (g9_comesSo_b40 n) x1 x2 x3 ((256 : Int32) + x3) (1 : Int32) q12.2)))
set_option maxHeartbeats 4000000 in
set_option maxRecDepth 20000 in
theorem v9_comesSo_b40 {G : xG} (hC : xC G cX9_comesSo 4 RX9 8) {R : Int32 × xMem} (hR : xRZ G cX9_comesSo 4 R) : ∀ (n : Nat) (x1 x2 x3 : Int32) (M : xMem), g9_comesSo_b40 n x1 x2 x3 M = some R → V G 4 40 [(0, .inr 154), (1, .inl x1), (2, .inl x2), (3, .inl x3)] [] M := by
  intro n
  induction n with
  | zero => intro x1 x2 x3 M h; rw [g9_comesSo_b40] at h; cases h
  | succ n ih =>
    intro x1 x2 x3 M h
    rw [g9_comesSo_b40] at h
    refine V.iload_n (r := 41) hC 3 dX9_comesSo_40 rfl rfl ?_
    refine V.bipush (r := 43) hC dX9_comesSo_41 kb_12 rfl ?_
    refine V.icmp_ge (tgt := 75) (r := 46) hC dX9_comesSo_43 (by decide) rfl (fun c9 => ?_) (fun c9 => ?_)
    · rw [if_pos c9] at h
      refine V.aload_n (r := 76) hC 0 dX9_comesSo_75 rfl rfl ?_
      refine V.iload_n (r := 77) hC 1 dX9_comesSo_76 rfl rfl ?_
      obtain ⟨q10, hq11, h⟩ := Option.bind_eq_some_iff.mp h
      try dsimp only at h
      refine V.invVi (as := [.inl x1]) (st := []) (r := 80) hC (met9_runs hq11) yv_X9_runs ml_RX9_299 sh_154 rfl rfl dX9_comesSo_77 (by decide) rfl rfl rfl rfl ?_
      refine V.pop (r := 81) hC dX9_comesSo_80 rfl ?_
      refine V.iconst (r := 82) hC dX9_comesSo_81 ki_0 rfl ?_
      refine V.ist_n (lv' := [(0, .inr 154), (1, .inl x1), (2, .inl x2), (3, .inl (0 : Int32))]) (r := 83) hC dX9_comesSo_82 rfl rfl rfl ?_
      refine V.pick (lv' := [(0, .inr 154), (3, .inl (0 : Int32))]) [0, 3] rfl ?_
      exact v9_comesSo_b83  hC hR  5000 _ _ h
    · rw [if_neg c9] at h
      refine V.aload_n (r := 47) hC 0 dX9_comesSo_46 rfl rfl ?_
      refine V.getR (k' := 155) (j := 0) (r := 50) hC xcl_9 sh_154 fl_RX9_7 dX9_comesSo_47 (by decide) rfl rfl ?_
      refine V.sipush (r := 53) hC dX9_comesSo_50 ks_256 rfl ?_
      refine V.iload_n (r := 54) hC 3 dX9_comesSo_53 rfl rfl ?_
      refine V.iadd (r := 55) hC dX9_comesSo_54 rfl ?_
      refine V.iload_n (r := 56) hC 2 dX9_comesSo_55 rfl rfl ?_
      refine V.iload_n (r := 57) hC 3 dX9_comesSo_56 rfl rfl ?_
      obtain ⟨q12, hq13, h⟩ := Option.bind_eq_some_iff.mp h
      try dsimp only at h
      refine V.invSi (as := [.inl x2, .inl x3]) (st := [.inl ((256 : Int32) + x3), .inr 155]) (r := 60) hC (met9_has hq13) ys_X9_has ml_RX9_226 dX9_comesSo_57 (by decide) rfl rfl rfl rfl ?_
      refine V.if_eq (tgt := 67) (r := 63) hC dX9_comesSo_60 (by decide) rfl (fun c14 => ?_) (fun c14 => ?_)
      · rw [if_pos c14] at h
        refine V.iconst (r := 68) hC dX9_comesSo_67 ki_0 rfl ?_
        exact v9_comesSo_b68  hC hR ih _ _ _ _ _ _ h
      · rw [if_neg c14] at h
        refine V.iconst (r := 64) hC dX9_comesSo_63 ki_1 rfl ?_
        refine V.goto (tgt := 68) hC dX9_comesSo_64 (by decide) ?_
        exact v9_comesSo_b68  hC hR ih _ _ _ _ _ _ h
def g9_comesSo_b6 : Nat → Int32 → Int32 → Int32 → xMem → Option (Int32 × xMem)
  | 0, _, _, _, _ => none
  | n + 1, x1, x2, x3, M => 
    (if (9 : Int32) ≤ x3 then
    (g9_comesSo_b40 5000 x1 x2 (9 : Int32) M)
    else
    (Option.bind (g9_has x2 x3 M) fun q4 =>
    if (q4.1) = 0 then
    (g9_comesSo_b31 (g9_comesSo_b6 n) x1 x2 x3 q4.2)
    else
    (if ((232 : Int32) + x3) < 0 ∨ 331 ≤ ((232 : Int32) + x3).toNatClampNeg then none else
    mset (upM q4.2 7 ((232 : Int32) + x3).toNatClampNeg (1 : Int32)) fun M8 =>
    g9_comesSo_b31 (g9_comesSo_b6 n) x1 x2 x3 M8)))
set_option maxHeartbeats 4000000 in
set_option maxRecDepth 20000 in
theorem v9_comesSo_b6 {G : xG} (hC : xC G cX9_comesSo 4 RX9 8) {R : Int32 × xMem} (hR : xRZ G cX9_comesSo 4 R) : ∀ (n : Nat) (x1 x2 x3 : Int32) (M : xMem), g9_comesSo_b6 n x1 x2 x3 M = some R → V G 4 6 [(0, .inr 154), (1, .inl x1), (2, .inl x2), (3, .inl x3)] [] M := by
  intro n
  induction n with
  | zero => intro x1 x2 x3 M h; rw [g9_comesSo_b6] at h; cases h
  | succ n ih =>
    intro x1 x2 x3 M h
    rw [g9_comesSo_b6] at h
    refine V.iload_n (r := 7) hC 3 dX9_comesSo_6 rfl rfl ?_
    refine V.bipush (r := 9) hC dX9_comesSo_7 kb_9 rfl ?_
    refine V.icmp_ge (tgt := 37) (r := 12) hC dX9_comesSo_9 (by decide) rfl (fun c3 => ?_) (fun c3 => ?_)
    · rw [if_pos c3] at h
      refine V.bipush (r := 39) hC dX9_comesSo_37 kb_9 rfl ?_
      refine V.ist_n (lv' := [(0, .inr 154), (1, .inl x1), (2, .inl x2), (3, .inl (9 : Int32))]) (r := 40) hC dX9_comesSo_39 rfl rfl rfl ?_
      exact v9_comesSo_b40  hC hR  5000 _ _ _ _ h
    · rw [if_neg c3] at h
      refine V.iload_n (r := 13) hC 2 dX9_comesSo_12 rfl rfl ?_
      refine V.iload_n (r := 14) hC 3 dX9_comesSo_13 rfl rfl ?_
      obtain ⟨q4, hq5, h⟩ := Option.bind_eq_some_iff.mp h
      try dsimp only at h
      refine V.invSi (as := [.inl x2, .inl x3]) (st := []) (r := 17) hC (met9_has hq5) ys_X9_has ml_RX9_226 dX9_comesSo_14 (by decide) rfl rfl rfl rfl ?_
      refine V.if_eq (tgt := 31) (r := 20) hC dX9_comesSo_17 (by decide) rfl (fun c6 => ?_) (fun c6 => ?_)
      · rw [if_pos c6] at h
        exact v9_comesSo_b31  hC hR ih _ _ _ _ h
      · rw [if_neg c6] at h
        refine V.aload_n (r := 21) hC 0 dX9_comesSo_20 rfl rfl ?_
        refine V.getR (k' := 155) (j := 0) (r := 24) hC xcl_9 sh_154 fl_RX9_7 dX9_comesSo_21 (by decide) rfl rfl ?_
        refine V.sipush (r := 27) hC dX9_comesSo_24 ks_232 rfl ?_
        refine V.iload_n (r := 28) hC 3 dX9_comesSo_27 rfl rfl ?_
        refine V.iadd (r := 29) hC dX9_comesSo_28 rfl ?_
        refine V.iconst (r := 30) hC dX9_comesSo_29 ki_1 rfl ?_
        by_cases c7 : ((232 : Int32) + x3) < 0 ∨ 331 ≤ ((232 : Int32) + x3).toNatClampNeg
        · rw [if_pos c7] at h; cases h
        rw [if_neg c7] at h
        rw [mset_eq] at h
        refine V.iast (t := ((232 : Int32) + x3).toNatClampNeg) (r := 31) hC sh_155 dX9_comesSo_30 c7 (Nat.zero_add _) rfl ?_
        generalize upM q4.2 7 ((232 : Int32) + x3).toNatClampNeg (1 : Int32) = M8 at h ⊢
        exact v9_comesSo_b31  hC hR ih _ _ _ _ h
def g9_comesSo (a0 a1 : Int32) (M : xMem) : Option (Int32 × xMem) :=
Option.bind (g9_again M) fun q1 =>
g9_comesSo_b6 5000 a0 a1 (0 : Int32) q1
set_option maxHeartbeats 4000000 in
set_option maxRecDepth 20000 in
theorem v9_comesSo {G : xG} (hC : xC G cX9_comesSo 4 RX9 8) {R : Int32 × xMem} (hR : xRZ G cX9_comesSo 4 R) {a0 a1 : Int32} {M : xMem} (h : g9_comesSo a0 a1 M = some R) : V G 4 0 [(0, .inr 154), (1, .inl a0), (2, .inl a1)] [] M := by
  unfold g9_comesSo at h
  refine V.aload_n (r := 1) hC 0 dX9_comesSo_0 rfl rfl ?_
  obtain ⟨q1, hq2, h⟩ := Option.bind_eq_some_iff.mp h
  try dsimp only at h
  refine V.invVv (as := []) (st := []) (r := 4) hC (met9_again hq2) yv_X9_again ml_RX9_315 sh_154 rfl rfl dX9_comesSo_1 (by decide) rfl rfl rfl rfl ?_
  refine V.iconst (r := 5) hC dX9_comesSo_4 ki_0 rfl ?_
  refine V.ist_n (lv' := [(0, .inr 154), (1, .inl a0), (2, .inl a1), (3, .inl (0 : Int32))]) (r := 6) hC dX9_comesSo_5 rfl rfl rfl ?_
  exact v9_comesSo_b6  hC hR  5000 _ _ _ _ h
theorem met9_comesSo {R : Int32 × xMem} {a0 a1 : Int32} {M : xMem} (h : g9_comesSo a0 a1 M = some R) : xMet yX9_comesSo cX9_comesSo 4 (some .boolean) 8 [.inr 154, .inl a0, .inl a1] M (some R.1) R.2 := xMet.ofZ (by decide +kernel) (Nat.le_of_ble_eq_true rfl) fun _ hC hR => v9_comesSo  hC hR h
def g9_whoLit_b27 (k5 : Int32 → Int32 → Int32 → Int32 → xMem → Option (Int32 × xMem)) (x1 x2 x4 s0 s1 : Int32) (M : xMem) : Option (Int32 × xMem) :=
k5 x1 x2 (s0 + s1) (x4 + (1 : Int32)) M
set_option maxHeartbeats 4000000 in
set_option maxRecDepth 20000 in
theorem v9_whoLit_b27 {G : xG} (hC : xC G cX9_whoLit 10 RX9 9) {R : Int32 × xMem} (hR : xRI G cX9_whoLit 10 R) {k5 : Int32 → Int32 → Int32 → Int32 → xMem → Option (Int32 × xMem)} (hk5 : ∀ (y1 y2 y3 y4 : Int32) (N : xMem), k5 y1 y2 y3 y4 N = some R → V G 10 5 [(0, .inr 154), (1, .inl y1), (2, .inl y2), (3, .inl y3), (4, .inl y4)] [] N) (x1 x2 x4 s0 s1 : Int32) (M : xMem) (h : g9_whoLit_b27 k5 x1 x2 x4 s0 s1 M = some R) : V G 10 27 [(0, .inr 154), (1, .inl x1), (2, .inl x2), (4, .inl x4)] [.inl s1, .inl s0] M := by
  unfold g9_whoLit_b27 at h
  refine V.iadd (r := 28) hC dX9_whoLit_27 rfl ?_
  refine V.ist_n (lv' := [(0, .inr 154), (1, .inl x1), (2, .inl x2), (3, .inl (s0 + s1)), (4, .inl x4)]) (r := 29) hC dX9_whoLit_28 rfl rfl rfl ?_
  refine V.inc (lv' := [(0, .inr 154), (1, .inl x1), (2, .inl x2), (3, .inl (s0 + s1)), (4, .inl (x4 + (1 : Int32)))]) (r := 32) hC 4 dX9_whoLit_29 rfl ki_1 rfl rfl rfl ?_
  refine V.goto (tgt := 5) hC dX9_whoLit_32 (by decide) ?_
  exact hk5 _ _ _ _ _ h
def g9_whoLit_b131 (k77 : Int32 → Int32 → Int32 → Int32 → xMem → Option (Int32 × xMem)) (x1 x2 x5 s0 s1 : Int32) (M : xMem) : Option (Int32 × xMem) :=
k77 x1 x2 (s0 + s1) (x5 + (1 : Int32)) M
set_option maxHeartbeats 4000000 in
set_option maxRecDepth 20000 in
theorem v9_whoLit_b131 {G : xG} (hC : xC G cX9_whoLit 10 RX9 9) {R : Int32 × xMem} (hR : xRI G cX9_whoLit 10 R) {k77 : Int32 → Int32 → Int32 → Int32 → xMem → Option (Int32 × xMem)} (hk77 : ∀ (y1 y2 y4 y5 : Int32) (N : xMem), k77 y1 y2 y4 y5 N = some R → V G 10 77 [(0, .inr 154), (1, .inl y1), (2, .inl y2), (4, .inl y4), (5, .inl y5)] [] N) (x1 x2 x5 s0 s1 : Int32) (M : xMem) (h : g9_whoLit_b131 k77 x1 x2 x5 s0 s1 M = some R) : V G 10 131 [(0, .inr 154), (1, .inl x1), (2, .inl x2), (5, .inl x5)] [.inl s1, .inl s0] M := by
  unfold g9_whoLit_b131 at h
  refine V.iadd (r := 132) hC dX9_whoLit_131 rfl ?_
  refine V.ist (lv' := [(0, .inr 154), (1, .inl x1), (2, .inl x2), (4, .inl (s0 + s1)), (5, .inl x5)]) (r := 134) hC dX9_whoLit_132 rfl rfl rfl ?_
  refine V.inc (lv' := [(0, .inr 154), (1, .inl x1), (2, .inl x2), (4, .inl (s0 + s1)), (5, .inl (x5 + (1 : Int32)))]) (r := 137) hC 4 dX9_whoLit_134 rfl ki_1 rfl rfl rfl ?_
  refine V.goto (tgt := 77) hC dX9_whoLit_137 (by decide) ?_
  exact hk77 _ _ _ _ _ h
def g9_whoLit_b114 (k77 : Int32 → Int32 → Int32 → Int32 → xMem → Option (Int32 × xMem)) (x1 x2 x4 x5 s1 s2 : Int32) (M : xMem) : Option (Int32 × xMem) :=
if s1 < 0 ∨ 6 ≤ s1.toNatClampNeg then none else
mset (upM M 195 s1.toNatClampNeg s2) fun M24 =>
Option.bind (g9_isOn x5 M24) fun q25 =>
if (q25.1) = 0 then
(g9_whoLit_b131 k77 x1 x2 x5 x4 (0 : Int32) q25.2)
else
(g9_whoLit_b131 k77 x1 x2 x5 x4 (1 : Int32) q25.2)
set_option maxHeartbeats 4000000 in
set_option maxRecDepth 20000 in
theorem v9_whoLit_b114 {G : xG} (hC : xC G cX9_whoLit 10 RX9 9) {R : Int32 × xMem} (hR : xRI G cX9_whoLit 10 R) {k77 : Int32 → Int32 → Int32 → Int32 → xMem → Option (Int32 × xMem)} (hk77 : ∀ (y1 y2 y4 y5 : Int32) (N : xMem), k77 y1 y2 y4 y5 N = some R → V G 10 77 [(0, .inr 154), (1, .inl y1), (2, .inl y2), (4, .inl y4), (5, .inl y5)] [] N) (x1 x2 x4 x5 s1 s2 : Int32) (M : xMem) (h : g9_whoLit_b114 k77 x1 x2 x4 x5 s1 s2 M = some R) : V G 10 114 [(0, .inr 154), (1, .inl x1), (2, .inl x2), (4, .inl x4), (5, .inl x5)] [.inl s2, .inl s1, .inr 176] M := by
  unfold g9_whoLit_b114 at h
  by_cases c23 : s1 < 0 ∨ 6 ≤ s1.toNatClampNeg
  · rw [if_pos c23] at h; cases h
  rw [if_neg c23] at h
  rw [mset_eq] at h
  refine V.iast (t := s1.toNatClampNeg) (r := 115) hC sh_176 dX9_whoLit_114 c23 (Nat.zero_add _) rfl ?_
  generalize upM M 195 s1.toNatClampNeg s2 = M24 at h ⊢
  refine V.iload (r := 117) hC 3 dX9_whoLit_115 rfl rfl ?_
  refine V.aload_n (r := 118) hC 0 dX9_whoLit_117 rfl rfl ?_
  refine V.iload (r := 120) hC 4 dX9_whoLit_118 rfl rfl ?_
  obtain ⟨q25, hq26, h⟩ := Option.bind_eq_some_iff.mp h
  try dsimp only at h
  refine V.invVi (as := [.inl x5]) (st := [.inl x4]) (r := 123) hC (met9_isOn hq26) yv_X9_isOn ml_RX9_85 sh_154 rfl rfl dX9_whoLit_120 (by decide) rfl rfl rfl rfl ?_
  refine V.if_eq (tgt := 130) (r := 126) hC dX9_whoLit_123 (by decide) rfl (fun c27 => ?_) (fun c27 => ?_)
  · rw [if_pos c27] at h
    refine V.iconst (r := 131) hC dX9_whoLit_130 ki_0 rfl ?_
    refine V.pick (lv' := [(0, .inr 154), (1, .inl x1), (2, .inl x2), (5, .inl x5)]) [0, 1, 2, 4] rfl ?_
    exact v9_whoLit_b131  hC hR hk77 _ _ _ _ _ _ h
  · rw [if_neg c27] at h
    refine V.iconst (r := 127) hC dX9_whoLit_126 ki_1 rfl ?_
    refine V.goto (tgt := 131) hC dX9_whoLit_127 (by decide) ?_
    refine V.pick (lv' := [(0, .inr 154), (1, .inl x1), (2, .inl x2), (5, .inl x5)]) [0, 1, 2, 4] rfl ?_
    exact v9_whoLit_b131  hC hR hk77 _ _ _ _ _ _ h
def g9_whoLit_b223 (k165 : Int32 → Int32 → Int32 → Int32 → Int32 → Int32 → Int32 → xMem → Option (Int32 × xMem)) (x1 x2 x5 x6 x7 x8 x9 : Int32) (M : xMem) : Option (Int32 × xMem) :=
k165 x1 x2 x5 x6 x7 x8 (x9 + (1 : Int32)) M
set_option maxHeartbeats 4000000 in
set_option maxRecDepth 20000 in
theorem v9_whoLit_b223 {G : xG} (hC : xC G cX9_whoLit 10 RX9 9) {R : Int32 × xMem} (hR : xRI G cX9_whoLit 10 R) {k165 : Int32 → Int32 → Int32 → Int32 → Int32 → Int32 → Int32 → xMem → Option (Int32 × xMem)} (hk165 : ∀ (y1 y2 y5 y6 y7 y8 y9 : Int32) (N : xMem), k165 y1 y2 y5 y6 y7 y8 y9 N = some R → V G 10 165 [(0, .inr 154), (1, .inl y1), (2, .inl y2), (5, .inl y5), (6, .inl y6), (7, .inl y7), (8, .inl y8), (9, .inl y9)] [] N) (x1 x2 x5 x6 x7 x8 x9 : Int32) (M : xMem) (h : g9_whoLit_b223 k165 x1 x2 x5 x6 x7 x8 x9 M = some R) : V G 10 223 [(0, .inr 154), (1, .inl x1), (2, .inl x2), (5, .inl x5), (6, .inl x6), (7, .inl x7), (8, .inl x8), (9, .inl x9)] [] M := by
  unfold g9_whoLit_b223 at h
  refine V.inc (lv' := [(0, .inr 154), (1, .inl x1), (2, .inl x2), (5, .inl x5), (6, .inl x6), (7, .inl x7), (8, .inl x8), (9, .inl (x9 + (1 : Int32)))]) (r := 226) hC 7 dX9_whoLit_223 rfl ki_1 rfl rfl rfl ?_
  refine V.goto (tgt := 165) hC dX9_whoLit_226 (by decide) ?_
  exact hk165 _ _ _ _ _ _ _ _ h
def g9_whoLit_b208 (k165 : Int32 → Int32 → Int32 → Int32 → Int32 → Int32 → Int32 → xMem → Option (Int32 × xMem)) (x1 x2 x5 x6 x8 x9 s0 : Int32) (M : xMem) : Option (Int32 × xMem) :=
g9_whoLit_b223 k165 x1 x2 x5 (x6 + (1 : Int32)) s0 (x8 &&& x9) x9 M
set_option maxHeartbeats 4000000 in
set_option maxRecDepth 20000 in
theorem v9_whoLit_b208 {G : xG} (hC : xC G cX9_whoLit 10 RX9 9) {R : Int32 × xMem} (hR : xRI G cX9_whoLit 10 R) {k165 : Int32 → Int32 → Int32 → Int32 → Int32 → Int32 → Int32 → xMem → Option (Int32 × xMem)} (hk165 : ∀ (y1 y2 y5 y6 y7 y8 y9 : Int32) (N : xMem), k165 y1 y2 y5 y6 y7 y8 y9 N = some R → V G 10 165 [(0, .inr 154), (1, .inl y1), (2, .inl y2), (5, .inl y5), (6, .inl y6), (7, .inl y7), (8, .inl y8), (9, .inl y9)] [] N) (x1 x2 x5 x6 x8 x9 s0 : Int32) (M : xMem) (h : g9_whoLit_b208 k165 x1 x2 x5 x6 x8 x9 s0 M = some R) : V G 10 208 [(0, .inr 154), (1, .inl x1), (2, .inl x2), (5, .inl x5), (6, .inl x6), (8, .inl x8), (9, .inl x9)] [.inl s0] M := by
  unfold g9_whoLit_b208 at h
  refine V.ist (lv' := [(0, .inr 154), (1, .inl x1), (2, .inl x2), (5, .inl x5), (6, .inl x6), (7, .inl s0), (8, .inl x8), (9, .inl x9)]) (r := 210) hC dX9_whoLit_208 rfl rfl rfl ?_
  refine V.iload (r := 212) hC 6 dX9_whoLit_210 rfl rfl ?_
  refine V.iload (r := 214) hC 7 dX9_whoLit_212 rfl rfl ?_
  refine V.iand (r := 215) hC dX9_whoLit_214 rfl ?_
  refine V.ist (lv' := [(0, .inr 154), (1, .inl x1), (2, .inl x2), (5, .inl x5), (6, .inl x6), (7, .inl s0), (8, .inl (x8 &&& x9)), (9, .inl x9)]) (r := 217) hC dX9_whoLit_215 rfl rfl rfl ?_
  refine V.iload (r := 219) hC 4 dX9_whoLit_217 rfl rfl ?_
  refine V.iconst (r := 220) hC dX9_whoLit_219 ki_1 rfl ?_
  refine V.iadd (r := 221) hC dX9_whoLit_220 rfl ?_
  refine V.ist (lv' := [(0, .inr 154), (1, .inl x1), (2, .inl x2), (5, .inl x5), (6, .inl (x6 + (1 : Int32))), (7, .inl s0), (8, .inl (x8 &&& x9)), (9, .inl x9)]) (r := 223) hC dX9_whoLit_221 rfl rfl rfl ?_
  exact v9_whoLit_b223  hC hR hk165 _ _ _ _ _ _ _ _ h
def g9_whoLit_b165 : Nat → Int32 → Int32 → Int32 → Int32 → Int32 → Int32 → Int32 → xMem → Option (Int32 × xMem)
  | 0, _, _, _, _, _, _, _, _ => none
  | n + 1, x1, x2, x5, x6, x7, x8, x9, M => 
    (if (4096 : Int32) ≤ x9 then
    (Option.bind (g9_again M) fun q29 =>
    if x2 = 0 then
    (some (x6, q29))
    else
    (if x6 = 0 then
    (some ((-2 : Int32), q29))
    else
    (if x2 = (1 : Int32) then
    (some (x7, q29))
    else
    (some (x8, q29)))))
    else
    (if (x9 &&& (x5 ^^^ (-1 : Int32))) = 0 then
    (Option.bind (g9_comesSo x1 x9 M) fun q35 =>
    if (q35.1) = 0 then
    (g9_whoLit_b223 (g9_whoLit_b165 n) x1 x2 x5 x6 x7 x8 x9 q35.2)
    else
    (if x6 = 0 then
    (g9_whoLit_b208 (g9_whoLit_b165 n) x1 x2 x5 x6 x8 x9 x9 q35.2)
    else
    (g9_whoLit_b208 (g9_whoLit_b165 n) x1 x2 x5 x6 x8 x9 x7 q35.2)))
    else
    (g9_whoLit_b223 (g9_whoLit_b165 n) x1 x2 x5 x6 x7 x8 x9 M)))
set_option maxHeartbeats 4000000 in
set_option maxRecDepth 20000 in
theorem v9_whoLit_b165 {G : xG} (hC : xC G cX9_whoLit 10 RX9 9) {R : Int32 × xMem} (hR : xRI G cX9_whoLit 10 R) : ∀ (n : Nat) (x1 x2 x5 x6 x7 x8 x9 : Int32) (M : xMem), g9_whoLit_b165 n x1 x2 x5 x6 x7 x8 x9 M = some R → V G 10 165 [(0, .inr 154), (1, .inl x1), (2, .inl x2), (5, .inl x5), (6, .inl x6), (7, .inl x7), (8, .inl x8), (9, .inl x9)] [] M := by
  intro n
  induction n with
  | zero => intro x1 x2 x5 x6 x7 x8 x9 M h; rw [g9_whoLit_b165] at h; cases h
  | succ n ih =>
    intro x1 x2 x5 x6 x7 x8 x9 M h
    rw [g9_whoLit_b165] at h
    refine V.iload (r := 167) hC 7 dX9_whoLit_165 rfl rfl ?_
    refine V.sipush (r := 170) hC dX9_whoLit_167 ks_4096 rfl ?_
    refine V.icmp_ge (tgt := 229) (r := 173) hC dX9_whoLit_170 (by decide) rfl (fun c28 => ?_) (fun c28 => ?_)
    · rw [if_pos c28] at h
      refine V.aload_n (r := 230) hC 0 dX9_whoLit_229 rfl rfl ?_
      obtain ⟨q29, hq30, h⟩ := Option.bind_eq_some_iff.mp h
      try dsimp only at h
      refine V.invVv (as := []) (st := []) (r := 233) hC (met9_again hq30) yv_X9_again ml_RX9_315 sh_154 rfl rfl dX9_whoLit_230 (by decide) rfl rfl rfl rfl ?_
      refine V.iload_n (r := 234) hC 2 dX9_whoLit_233 rfl rfl ?_
      refine V.if_ne (tgt := 242) (r := 237) hC dX9_whoLit_234 (by decide) rfl (fun c31 => ?_) (fun c31 => ?_)
      · rw [if_neg c31] at h
        refine V.iload (r := 244) hC 4 dX9_whoLit_242 rfl rfl ?_
        refine V.if_ne (tgt := 252) (r := 247) hC dX9_whoLit_244 (by decide) rfl (fun c32 => ?_) (fun c32 => ?_)
        · rw [if_neg c32] at h
          refine V.iload_n (r := 253) hC 2 dX9_whoLit_252 rfl rfl ?_
          refine V.iconst (r := 254) hC dX9_whoLit_253 ki_1 rfl ?_
          refine V.icmp_ne (tgt := 262) (r := 257) hC dX9_whoLit_254 (by decide) rfl (fun c33 => ?_) (fun c33 => ?_)
          · rw [if_neg c33] at h
            refine V.iload (r := 264) hC 6 dX9_whoLit_262 rfl rfl ?_
            cases h
            exact hR _ _ dX9_whoLit_264
          · rw [if_pos c33] at h
            refine V.iload (r := 259) hC 5 dX9_whoLit_257 rfl rfl ?_
            refine V.goto (tgt := 264) hC dX9_whoLit_259 (by decide) ?_
            cases h
            exact hR _ _ dX9_whoLit_264
        · rw [if_pos c32] at h
          refine V.bipush (r := 249) hC dX9_whoLit_247 kb_m2 rfl ?_
          refine V.goto (tgt := 264) hC dX9_whoLit_249 (by decide) ?_
          cases h
          exact hR _ _ dX9_whoLit_264
      · rw [if_pos c31] at h
        refine V.iload (r := 239) hC 4 dX9_whoLit_237 rfl rfl ?_
        refine V.goto (tgt := 264) hC dX9_whoLit_239 (by decide) ?_
        cases h
        exact hR _ _ dX9_whoLit_264
    · rw [if_neg c28] at h
      refine V.iload (r := 175) hC 7 dX9_whoLit_173 rfl rfl ?_
      refine V.iload (r := 177) hC 3 dX9_whoLit_175 rfl rfl ?_
      refine V.iconst (r := 178) hC dX9_whoLit_177 ki_m1 rfl ?_
      refine V.ixor (r := 179) hC dX9_whoLit_178 rfl ?_
      refine V.iand (r := 180) hC dX9_whoLit_179 rfl ?_
      refine V.if_ne (tgt := 223) (r := 183) hC dX9_whoLit_180 (by decide) rfl (fun c34 => ?_) (fun c34 => ?_)
      · rw [if_neg c34] at h
        exact v9_whoLit_b223  hC hR ih _ _ _ _ _ _ _ _ h
      · rw [if_pos c34] at h
        refine V.aload_n (r := 184) hC 0 dX9_whoLit_183 rfl rfl ?_
        refine V.iload_n (r := 185) hC 1 dX9_whoLit_184 rfl rfl ?_
        refine V.iload (r := 187) hC 7 dX9_whoLit_185 rfl rfl ?_
        obtain ⟨q35, hq36, h⟩ := Option.bind_eq_some_iff.mp h
        try dsimp only at h
        refine V.invVi (as := [.inl x1, .inl x9]) (st := []) (r := 190) hC (met9_comesSo hq36) yv_X9_comesSo ml_RX9_358 sh_154 rfl rfl dX9_whoLit_187 (by decide) rfl rfl rfl rfl ?_
        refine V.if_ne (tgt := 196) (r := 193) hC dX9_whoLit_190 (by decide) rfl (fun c37 => ?_) (fun c37 => ?_)
        · rw [if_neg c37] at h
          refine V.iload (r := 198) hC 4 dX9_whoLit_196 rfl rfl ?_
          refine V.if_ne (tgt := 206) (r := 201) hC dX9_whoLit_198 (by decide) rfl (fun c38 => ?_) (fun c38 => ?_)
          · rw [if_neg c38] at h
            refine V.iload (r := 208) hC 5 dX9_whoLit_206 rfl rfl ?_
            refine V.pick (lv' := [(0, .inr 154), (1, .inl x1), (2, .inl x2), (5, .inl x5), (6, .inl x6), (8, .inl x8), (9, .inl x9)]) [0, 1, 2, 3, 4, 6, 7] rfl ?_
            exact v9_whoLit_b208  hC hR ih _ _ _ _ _ _ _ _ h
          · rw [if_pos c38] at h
            refine V.iload (r := 203) hC 7 dX9_whoLit_201 rfl rfl ?_
            refine V.goto (tgt := 208) hC dX9_whoLit_203 (by decide) ?_
            refine V.pick (lv' := [(0, .inr 154), (1, .inl x1), (2, .inl x2), (5, .inl x5), (6, .inl x6), (8, .inl x8), (9, .inl x9)]) [0, 1, 2, 3, 4, 6, 7] rfl ?_
            exact v9_whoLit_b208  hC hR ih _ _ _ _ _ _ _ _ h
        · rw [if_pos c37] at h
          refine V.goto (tgt := 223) hC dX9_whoLit_193 (by decide) ?_
          exact v9_whoLit_b223  hC hR ih _ _ _ _ _ _ _ _ h
def g9_whoLit_b77 : Nat → Int32 → Int32 → Int32 → Int32 → xMem → Option (Int32 × xMem)
  | 0, _, _, _, _, _ => none
  | n + 1, x1, x2, x4, x5, M => 
    (if (6 : Int32) ≤ x5 then
    (Option.bind (g9_unknown M) fun q15 =>
    Option.bind (g9_begins q15.2) fun q17 =>
    g9_whoLit_b165 5000 x1 x2 (q15.1) (0 : Int32) (-2 : Int32) (4095 : Int32) (0 : Int32) q17)
    else
    (Option.bind (g9_isOn x5 M) fun q19 =>
    if (q19.1) = 0 then
    (g9_whoLit_b114 (g9_whoLit_b77 n) x1 x2 x4 x5 x5 (-1 : Int32) q19.2)
    else
    (if x4 < 0 ∨ 260 ≤ x4.toNatClampNeg then none else
    g9_whoLit_b114 (g9_whoLit_b77 n) x1 x2 x4 x5 x5 ((q19.2 163 x4.toNatClampNeg) &&& (255 : Int32)) q19.2)))
set_option maxHeartbeats 4000000 in
set_option maxRecDepth 20000 in
theorem v9_whoLit_b77 {G : xG} (hC : xC G cX9_whoLit 10 RX9 9) {R : Int32 × xMem} (hR : xRI G cX9_whoLit 10 R) : ∀ (n : Nat) (x1 x2 x4 x5 : Int32) (M : xMem), g9_whoLit_b77 n x1 x2 x4 x5 M = some R → V G 10 77 [(0, .inr 154), (1, .inl x1), (2, .inl x2), (4, .inl x4), (5, .inl x5)] [] M := by
  intro n
  induction n with
  | zero => intro x1 x2 x4 x5 M h; rw [g9_whoLit_b77] at h; cases h
  | succ n ih =>
    intro x1 x2 x4 x5 M h
    rw [g9_whoLit_b77] at h
    refine V.iload (r := 79) hC 4 dX9_whoLit_77 rfl rfl ?_
    refine V.bipush (r := 81) hC dX9_whoLit_79 kb_6 rfl ?_
    refine V.icmp_ge (tgt := 140) (r := 84) hC dX9_whoLit_81 (by decide) rfl (fun c14 => ?_) (fun c14 => ?_)
    · rw [if_pos c14] at h
      refine V.aload_n (r := 141) hC 0 dX9_whoLit_140 rfl rfl ?_
      obtain ⟨q15, hq16, h⟩ := Option.bind_eq_some_iff.mp h
      try dsimp only at h
      refine V.invVi (as := []) (st := []) (r := 144) hC (met9_unknown hq16) yv_X9_unknown ml_RX9_355 sh_154 rfl rfl dX9_whoLit_141 (by decide) rfl rfl rfl rfl ?_
      refine V.ist (lv' := [(0, .inr 154), (1, .inl x1), (2, .inl x2), (4, .inl x4), (5, .inl (q15.1))]) (r := 146) hC dX9_whoLit_144 rfl rfl rfl ?_
      refine V.aload_n (r := 147) hC 0 dX9_whoLit_146 rfl rfl ?_
      obtain ⟨q17, hq18, h⟩ := Option.bind_eq_some_iff.mp h
      try dsimp only at h
      refine V.invVv (as := []) (st := []) (r := 150) hC (met9_begins hq18) yv_X9_begins ml_RX9_306 sh_154 rfl rfl dX9_whoLit_147 (by decide) rfl rfl rfl rfl ?_
      refine V.iconst (r := 151) hC dX9_whoLit_150 ki_0 rfl ?_
      refine V.ist (lv' := [(0, .inr 154), (1, .inl x1), (2, .inl x2), (4, .inl x4), (5, .inl (q15.1)), (6, .inl (0 : Int32))]) (r := 153) hC dX9_whoLit_151 rfl rfl rfl ?_
      refine V.bipush (r := 155) hC dX9_whoLit_153 kb_m2 rfl ?_
      refine V.ist (lv' := [(0, .inr 154), (1, .inl x1), (2, .inl x2), (4, .inl x4), (5, .inl (q15.1)), (6, .inl (0 : Int32)), (7, .inl (-2 : Int32))]) (r := 157) hC dX9_whoLit_155 rfl rfl rfl ?_
      refine V.sipush (r := 160) hC dX9_whoLit_157 ks_4095 rfl ?_
      refine V.ist (lv' := [(0, .inr 154), (1, .inl x1), (2, .inl x2), (4, .inl x4), (5, .inl (q15.1)), (6, .inl (0 : Int32)), (7, .inl (-2 : Int32)), (8, .inl (4095 : Int32))]) (r := 162) hC dX9_whoLit_160 rfl rfl rfl ?_
      refine V.iconst (r := 163) hC dX9_whoLit_162 ki_0 rfl ?_
      refine V.ist (lv' := [(0, .inr 154), (1, .inl x1), (2, .inl x2), (4, .inl x4), (5, .inl (q15.1)), (6, .inl (0 : Int32)), (7, .inl (-2 : Int32)), (8, .inl (4095 : Int32)), (9, .inl (0 : Int32))]) (r := 165) hC dX9_whoLit_163 rfl rfl rfl ?_
      refine V.pick (lv' := [(0, .inr 154), (1, .inl x1), (2, .inl x2), (5, .inl (q15.1)), (6, .inl (0 : Int32)), (7, .inl (-2 : Int32)), (8, .inl (4095 : Int32)), (9, .inl (0 : Int32))]) [0, 1, 2, 4, 5, 6, 7, 8] rfl ?_
      exact v9_whoLit_b165  hC hR  5000 _ _ _ _ _ _ _ _ h
    · rw [if_neg c14] at h
      refine V.aload_n (r := 85) hC 0 dX9_whoLit_84 rfl rfl ?_
      refine V.getR (k' := 176) (j := 35) (r := 88) hC xcl_9 sh_154 fl_RX9_74 dX9_whoLit_85 (by decide) rfl rfl ?_
      refine V.iload (r := 90) hC 4 dX9_whoLit_88 rfl rfl ?_
      refine V.aload_n (r := 91) hC 0 dX9_whoLit_90 rfl rfl ?_
      refine V.iload (r := 93) hC 4 dX9_whoLit_91 rfl rfl ?_
      obtain ⟨q19, hq20, h⟩ := Option.bind_eq_some_iff.mp h
      try dsimp only at h
      refine V.invVi (as := [.inl x5]) (st := [.inl x5, .inr 176]) (r := 96) hC (met9_isOn hq20) yv_X9_isOn ml_RX9_85 sh_154 rfl rfl dX9_whoLit_93 (by decide) rfl rfl rfl rfl ?_
      refine V.if_eq (tgt := 113) (r := 99) hC dX9_whoLit_96 (by decide) rfl (fun c21 => ?_) (fun c21 => ?_)
      · rw [if_pos c21] at h
        refine V.iconst (r := 114) hC dX9_whoLit_113 ki_m1 rfl ?_
        exact v9_whoLit_b114  hC hR ih _ _ _ _ _ _ _ h
      · rw [if_neg c21] at h
        refine V.aload_n (r := 100) hC 0 dX9_whoLit_99 rfl rfl ?_
        refine V.getR (k' := 158) (j := 3) (r := 103) hC xcl_9 sh_154 fl_RX9_19 dX9_whoLit_100 (by decide) rfl rfl ?_
        refine V.iload (r := 105) hC 3 dX9_whoLit_103 rfl rfl ?_
        by_cases c22 : x4 < 0 ∨ 260 ≤ x4.toNatClampNeg
        · rw [if_pos c22] at h; cases h
        rw [if_neg c22] at h
        refine V.bald (t := x4.toNatClampNeg) (r := 106) hC sh_158 dX9_whoLit_105 c22 (Nat.zero_add _) rfl ?_
        refine V.sipush (r := 109) hC dX9_whoLit_106 ks_255 rfl ?_
        refine V.iand (r := 110) hC dX9_whoLit_109 rfl ?_
        refine V.goto (tgt := 114) hC dX9_whoLit_110 (by decide) ?_
        exact v9_whoLit_b114  hC hR ih _ _ _ _ _ _ _ h
def g9_whoLit_b5 : Nat → Int32 → Int32 → Int32 → Int32 → xMem → Option (Int32 × xMem)
  | 0, _, _, _, _, _ => none
  | n + 1, x1, x2, x3, x4, M => 
    (if (6 : Int32) ≤ x4 then
    (Option.bind (g9_areWithin x1 M) fun q2 =>
    if (q2.1) = 0 then
    (some ((-1 : Int32), q2.2))
    else
    (Option.bind (g9_in x2 (0 : Int32) (2 : Int32) q2.2) fun q5 =>
    if (q5.1) = 0 then
    (some ((-1 : Int32), q5.2))
    else
    (if x3 = 0 then
    (some ((-1 : Int32), q5.2))
    else
    (if x3 ≤ (q5.2 164 0) then
    (mset (upM q5.2 164 0 (0 : Int32)) fun M10 =>
    g9_whoLit_b77 5000 x1 x2 (0 : Int32) (0 : Int32) M10)
    else
    (some ((-1 : Int32), q5.2))))))
    else
    (Option.bind (g9_isOn x4 M) fun q11 =>
    if (q11.1) = 0 then
    (g9_whoLit_b27 (g9_whoLit_b5 n) x1 x2 x4 x3 (0 : Int32) q11.2)
    else
    (g9_whoLit_b27 (g9_whoLit_b5 n) x1 x2 x4 x3 (1 : Int32) q11.2)))
set_option maxHeartbeats 4000000 in
set_option maxRecDepth 20000 in
theorem v9_whoLit_b5 {G : xG} (hC : xC G cX9_whoLit 10 RX9 9) {R : Int32 × xMem} (hR : xRI G cX9_whoLit 10 R) : ∀ (n : Nat) (x1 x2 x3 x4 : Int32) (M : xMem), g9_whoLit_b5 n x1 x2 x3 x4 M = some R → V G 10 5 [(0, .inr 154), (1, .inl x1), (2, .inl x2), (3, .inl x3), (4, .inl x4)] [] M := by
  intro n
  induction n with
  | zero => intro x1 x2 x3 x4 M h; rw [g9_whoLit_b5] at h; cases h
  | succ n ih =>
    intro x1 x2 x3 x4 M h
    rw [g9_whoLit_b5] at h
    refine V.iload (r := 7) hC 4 dX9_whoLit_5 rfl rfl ?_
    refine V.bipush (r := 9) hC dX9_whoLit_7 kb_6 rfl ?_
    refine V.icmp_ge (tgt := 35) (r := 12) hC dX9_whoLit_9 (by decide) rfl (fun c1 => ?_) (fun c1 => ?_)
    · rw [if_pos c1] at h
      refine V.aload_n (r := 36) hC 0 dX9_whoLit_35 rfl rfl ?_
      refine V.iload_n (r := 37) hC 1 dX9_whoLit_36 rfl rfl ?_
      obtain ⟨q2, hq3, h⟩ := Option.bind_eq_some_iff.mp h
      try dsimp only at h
      refine V.invVi (as := [.inl x1]) (st := []) (r := 40) hC (met9_areWithin hq3) yv_X9_areWithin ml_RX9_352 sh_154 rfl rfl dX9_whoLit_37 (by decide) rfl rfl rfl rfl ?_
      refine V.if_eq (tgt := 64) (r := 43) hC dX9_whoLit_40 (by decide) rfl (fun c4 => ?_) (fun c4 => ?_)
      · rw [if_pos c4] at h
        refine V.iconst (r := 65) hC dX9_whoLit_64 ki_m1 rfl ?_
        cases h
        exact hR _ _ dX9_whoLit_65
      · rw [if_neg c4] at h
        refine V.iload_n (r := 44) hC 2 dX9_whoLit_43 rfl rfl ?_
        refine V.iconst (r := 45) hC dX9_whoLit_44 ki_0 rfl ?_
        refine V.iconst (r := 46) hC dX9_whoLit_45 ki_2 rfl ?_
        obtain ⟨q5, hq6, h⟩ := Option.bind_eq_some_iff.mp h
        try dsimp only at h
        refine V.invSi (as := [.inl x2, .inl (0 : Int32), .inl (2 : Int32)]) (st := []) (r := 49) hC (met9_in hq6) ys_X9_in ml_RX9_92 dX9_whoLit_46 (by decide) rfl rfl rfl rfl ?_
        refine V.if_eq (tgt := 64) (r := 52) hC dX9_whoLit_49 (by decide) rfl (fun c7 => ?_) (fun c7 => ?_)
        · rw [if_pos c7] at h
          refine V.iconst (r := 65) hC dX9_whoLit_64 ki_m1 rfl ?_
          cases h
          exact hR _ _ dX9_whoLit_65
        · rw [if_neg c7] at h
          refine V.iload_n (r := 53) hC 3 dX9_whoLit_52 rfl rfl ?_
          refine V.if_eq (tgt := 64) (r := 56) hC dX9_whoLit_53 (by decide) rfl (fun c8 => ?_) (fun c8 => ?_)
          · rw [if_pos c8] at h
            refine V.iconst (r := 65) hC dX9_whoLit_64 ki_m1 rfl ?_
            cases h
            exact hR _ _ dX9_whoLit_65
          · rw [if_neg c8] at h
            refine V.iload_n (r := 57) hC 3 dX9_whoLit_56 rfl rfl ?_
            refine V.aload_n (r := 58) hC 0 dX9_whoLit_57 rfl rfl ?_
            refine V.getI (b := 164) (i := 0) (j := 4) (r := 61) hC xcl_9 sh_154 fl_RX9_115 dX9_whoLit_58 (by decide) rfl rfl ?_
            refine V.icmp_le (tgt := 66) (r := 64) hC dX9_whoLit_61 (by decide) rfl (fun c9 => ?_) (fun c9 => ?_)
            · rw [if_pos c9] at h
              refine V.aload_n (r := 67) hC 0 dX9_whoLit_66 rfl rfl ?_
              refine V.iconst (r := 68) hC dX9_whoLit_67 ki_0 rfl ?_
              rw [mset_eq] at h
              refine V.putI (b := 164) (i := 0) (j := 4) (ty := .int) (r := 71) hC xcl_9 xcp_9 sh_154 fl_RX9_115 dX9_whoLit_68 (by decide) rfl rfl (by decide +kernel) rfl rfl rfl ?_
              generalize upM q5.2 164 0 (0 : Int32) = M10 at h ⊢
              refine V.iconst (r := 72) hC dX9_whoLit_71 ki_0 rfl ?_
              refine V.ist (lv' := [(0, .inr 154), (1, .inl x1), (2, .inl x2), (3, .inl x3), (4, .inl (0 : Int32))]) (r := 74) hC dX9_whoLit_72 rfl rfl rfl ?_
              refine V.iconst (r := 75) hC dX9_whoLit_74 ki_0 rfl ?_
              refine V.ist (lv' := [(0, .inr 154), (1, .inl x1), (2, .inl x2), (3, .inl x3), (4, .inl (0 : Int32)), (5, .inl (0 : Int32))]) (r := 77) hC dX9_whoLit_75 rfl rfl rfl ?_
              refine V.pick (lv' := [(0, .inr 154), (1, .inl x1), (2, .inl x2), (4, .inl (0 : Int32)), (5, .inl (0 : Int32))]) [0, 1, 2, 4, 5] rfl ?_
              exact v9_whoLit_b77  hC hR  5000 _ _ _ _ _ h
            · rw [if_neg c9] at h
              refine V.iconst (r := 65) hC dX9_whoLit_64 ki_m1 rfl ?_
              cases h
              exact hR _ _ dX9_whoLit_65
    · rw [if_neg c1] at h
      refine V.iload_n (r := 13) hC 3 dX9_whoLit_12 rfl rfl ?_
      refine V.aload_n (r := 14) hC 0 dX9_whoLit_13 rfl rfl ?_
      refine V.iload (r := 16) hC 4 dX9_whoLit_14 rfl rfl ?_
      obtain ⟨q11, hq12, h⟩ := Option.bind_eq_some_iff.mp h
      try dsimp only at h
      refine V.invVi (as := [.inl x4]) (st := [.inl x3]) (r := 19) hC (met9_isOn hq12) yv_X9_isOn ml_RX9_85 sh_154 rfl rfl dX9_whoLit_16 (by decide) rfl rfl rfl rfl ?_
      refine V.if_eq (tgt := 26) (r := 22) hC dX9_whoLit_19 (by decide) rfl (fun c13 => ?_) (fun c13 => ?_)
      · rw [if_pos c13] at h
        refine V.iconst (r := 27) hC dX9_whoLit_26 ki_0 rfl ?_
        refine V.pick (lv' := [(0, .inr 154), (1, .inl x1), (2, .inl x2), (4, .inl x4)]) [0, 1, 2, 4] rfl ?_
        exact v9_whoLit_b27  hC hR ih _ _ _ _ _ _ h
      · rw [if_neg c13] at h
        refine V.iconst (r := 23) hC dX9_whoLit_22 ki_1 rfl ?_
        refine V.goto (tgt := 27) hC dX9_whoLit_23 (by decide) ?_
        refine V.pick (lv' := [(0, .inr 154), (1, .inl x1), (2, .inl x2), (4, .inl x4)]) [0, 1, 2, 4] rfl ?_
        exact v9_whoLit_b27  hC hR ih _ _ _ _ _ _ h
def g9_whoLit (a0 a1 : Int32) (M : xMem) : Option (Int32 × xMem) :=
g9_whoLit_b5 5000 a0 a1 (0 : Int32) (0 : Int32) M
set_option maxHeartbeats 4000000 in
set_option maxRecDepth 20000 in
theorem v9_whoLit {G : xG} (hC : xC G cX9_whoLit 10 RX9 9) {R : Int32 × xMem} (hR : xRI G cX9_whoLit 10 R) {a0 a1 : Int32} {M : xMem} (h : g9_whoLit a0 a1 M = some R) : V G 10 0 [(0, .inr 154), (1, .inl a0), (2, .inl a1)] [] M := by
  unfold g9_whoLit at h
  refine V.iconst (r := 1) hC dX9_whoLit_0 ki_0 rfl ?_
  refine V.ist_n (lv' := [(0, .inr 154), (1, .inl a0), (2, .inl a1), (3, .inl (0 : Int32))]) (r := 2) hC dX9_whoLit_1 rfl rfl rfl ?_
  refine V.iconst (r := 3) hC dX9_whoLit_2 ki_0 rfl ?_
  refine V.ist (lv' := [(0, .inr 154), (1, .inl a0), (2, .inl a1), (3, .inl (0 : Int32)), (4, .inl (0 : Int32))]) (r := 5) hC dX9_whoLit_3 rfl rfl rfl ?_
  exact v9_whoLit_b5  hC hR  5000 _ _ _ _ _ h
theorem met9_whoLit {R : Int32 × xMem} {a0 a1 : Int32} {M : xMem} (h : g9_whoLit a0 a1 M = some R) : xMet yX9_whoLit cX9_whoLit 10 (some .int) 9 [.inr 154, .inl a0, .inl a1] M (some R.1) R.2 := xMet.ofI (by decide +kernel) (Nat.le_of_ble_eq_true rfl) fun _ hC hR => v9_whoLit  hC hR h
def g9_where_b140 (k53 : Int32 → Int32 → Int32 → Int32 → Int32 → Int32 → Int32 → xMem → Option (Int32 × xMem)) (x1 x2 x3 x4 x5 x6 x7 : Int32) (M : xMem) : Option (Int32 × xMem) :=
k53 x1 x2 x3 x4 x5 x6 (x7 + (1 : Int32)) M
set_option maxHeartbeats 4000000 in
set_option maxRecDepth 20000 in
theorem v9_where_b140 {G : xG} (hC : xC G cX9_where 8 RX9 8) {R : Int32 × xMem} (hR : xRI G cX9_where 8 R) {k53 : Int32 → Int32 → Int32 → Int32 → Int32 → Int32 → Int32 → xMem → Option (Int32 × xMem)} (hk53 : ∀ (y1 y2 y3 y4 y5 y6 y7 : Int32) (N : xMem), k53 y1 y2 y3 y4 y5 y6 y7 N = some R → V G 8 53 [(0, .inr 154), (1, .inl y1), (2, .inl y2), (3, .inl y3), (4, .inl y4), (5, .inl y5), (6, .inl y6), (7, .inl y7)] [] N) (x1 x2 x3 x4 x5 x6 x7 : Int32) (M : xMem) (h : g9_where_b140 k53 x1 x2 x3 x4 x5 x6 x7 M = some R) : V G 8 140 [(0, .inr 154), (1, .inl x1), (2, .inl x2), (3, .inl x3), (4, .inl x4), (5, .inl x5), (6, .inl x6), (7, .inl x7)] [] M := by
  unfold g9_where_b140 at h
  refine V.inc (lv' := [(0, .inr 154), (1, .inl x1), (2, .inl x2), (3, .inl x3), (4, .inl x4), (5, .inl x5), (6, .inl x6), (7, .inl (x7 + (1 : Int32)))]) (r := 143) hC 7 dX9_where_140 rfl ki_1 rfl rfl rfl ?_
  refine V.goto (tgt := 53) hC dX9_where_143 (by decide) ?_
  exact hk53 _ _ _ _ _ _ _ _ h
def g9_where_b132 (k53 : Int32 → Int32 → Int32 → Int32 → Int32 → Int32 → Int32 → xMem → Option (Int32 × xMem)) (x1 x2 x3 x4 x5 x7 s0 : Int32) (M : xMem) : Option (Int32 × xMem) :=
g9_where_b140 k53 x1 x2 x3 x4 (x5 + (1 : Int32)) s0 x7 M
set_option maxHeartbeats 4000000 in
set_option maxRecDepth 20000 in
theorem v9_where_b132 {G : xG} (hC : xC G cX9_where 8 RX9 8) {R : Int32 × xMem} (hR : xRI G cX9_where 8 R) {k53 : Int32 → Int32 → Int32 → Int32 → Int32 → Int32 → Int32 → xMem → Option (Int32 × xMem)} (hk53 : ∀ (y1 y2 y3 y4 y5 y6 y7 : Int32) (N : xMem), k53 y1 y2 y3 y4 y5 y6 y7 N = some R → V G 8 53 [(0, .inr 154), (1, .inl y1), (2, .inl y2), (3, .inl y3), (4, .inl y4), (5, .inl y5), (6, .inl y6), (7, .inl y7)] [] N) (x1 x2 x3 x4 x5 x7 s0 : Int32) (M : xMem) (h : g9_where_b132 k53 x1 x2 x3 x4 x5 x7 s0 M = some R) : V G 8 132 [(0, .inr 154), (1, .inl x1), (2, .inl x2), (3, .inl x3), (4, .inl x4), (5, .inl x5), (7, .inl x7)] [.inl s0] M := by
  unfold g9_where_b132 at h
  refine V.ist (lv' := [(0, .inr 154), (1, .inl x1), (2, .inl x2), (3, .inl x3), (4, .inl x4), (5, .inl x5), (6, .inl s0), (7, .inl x7)]) (r := 134) hC dX9_where_132 rfl rfl rfl ?_
  refine V.iload (r := 136) hC 5 dX9_where_134 rfl rfl ?_
  refine V.iconst (r := 137) hC dX9_where_136 ki_1 rfl ?_
  refine V.iadd (r := 138) hC dX9_where_137 rfl ?_
  refine V.ist (lv' := [(0, .inr 154), (1, .inl x1), (2, .inl x2), (3, .inl x3), (4, .inl x4), (5, .inl (x5 + (1 : Int32))), (6, .inl s0), (7, .inl x7)]) (r := 140) hC dX9_where_138 rfl rfl rfl ?_
  exact v9_where_b140  hC hR hk53 _ _ _ _ _ _ _ _ h
def g9_where_b53 : Nat → Int32 → Int32 → Int32 → Int32 → Int32 → Int32 → Int32 → xMem → Option (Int32 × xMem)
  | 0, _, _, _, _, _, _, _, _ => none
  | n + 1, x1, x2, x3, x4, x5, x6, x7, M => 
    (if (196 : Int32) ≤ x7 then
    (Option.bind (g9_again M) fun q16 =>
    if x4 = 0 then
    (some (x5, q16))
    else
    (some (x6, q16)))
    else
    (Option.bind (g9_again M) fun q19 =>
    Option.bind (g9_isRock x7 q19) fun q21 =>
    if (q21.1) = 0 then
    (if ((274 : Int32) + x1) < 0 ∨ 331 ≤ ((274 : Int32) + x1).toNatClampNeg then none else
    mset (upM q21.2 7 ((274 : Int32) + x1).toNatClampNeg x7) fun M25 =>
    Option.bind (g9_runs x2 M25) fun q26 =>
    Option.bind (g9_isOn x1 q26.2) fun q28 =>
    if (q28.1) = 0 then
    (g9_where_b140 (g9_where_b53 n) x1 x2 x3 x4 x5 x6 x7 q28.2)
    else
    (if (q28.2 7 ((274 : Int32) + x1).toNatClampNeg) = x3 then
    (if x5 = 0 then
    (g9_where_b132 (g9_where_b53 n) x1 x2 x3 x4 x5 x7 x7 q28.2)
    else
    (g9_where_b132 (g9_where_b53 n) x1 x2 x3 x4 x5 x7 x6 q28.2))
    else
    (g9_where_b140 (g9_where_b53 n) x1 x2 x3 x4 x5 x6 x7 q28.2)))
    else
    (g9_where_b140 (g9_where_b53 n) x1 x2 x3 x4 x5 x6 x7 q21.2)))
set_option maxHeartbeats 4000000 in
set_option maxRecDepth 20000 in
theorem v9_where_b53 {G : xG} (hC : xC G cX9_where 8 RX9 8) {R : Int32 × xMem} (hR : xRI G cX9_where 8 R) : ∀ (n : Nat) (x1 x2 x3 x4 x5 x6 x7 : Int32) (M : xMem), g9_where_b53 n x1 x2 x3 x4 x5 x6 x7 M = some R → V G 8 53 [(0, .inr 154), (1, .inl x1), (2, .inl x2), (3, .inl x3), (4, .inl x4), (5, .inl x5), (6, .inl x6), (7, .inl x7)] [] M := by
  intro n
  induction n with
  | zero => intro x1 x2 x3 x4 x5 x6 x7 M h; rw [g9_where_b53] at h; cases h
  | succ n ih =>
    intro x1 x2 x3 x4 x5 x6 x7 M h
    rw [g9_where_b53] at h
    refine V.iload (r := 55) hC 7 dX9_where_53 rfl rfl ?_
    refine V.sipush (r := 58) hC dX9_where_55 ks_196 rfl ?_
    refine V.icmp_ge (tgt := 146) (r := 61) hC dX9_where_58 (by decide) rfl (fun c15 => ?_) (fun c15 => ?_)
    · rw [if_pos c15] at h
      refine V.aload_n (r := 147) hC 0 dX9_where_146 rfl rfl ?_
      obtain ⟨q16, hq17, h⟩ := Option.bind_eq_some_iff.mp h
      try dsimp only at h
      refine V.invVv (as := []) (st := []) (r := 150) hC (met9_again hq17) yv_X9_again ml_RX9_315 sh_154 rfl rfl dX9_where_147 (by decide) rfl rfl rfl rfl ?_
      refine V.iload (r := 152) hC 4 dX9_where_150 rfl rfl ?_
      refine V.if_ne (tgt := 160) (r := 155) hC dX9_where_152 (by decide) rfl (fun c18 => ?_) (fun c18 => ?_)
      · rw [if_neg c18] at h
        refine V.iload (r := 162) hC 6 dX9_where_160 rfl rfl ?_
        cases h
        exact hR _ _ dX9_where_162
      · rw [if_pos c18] at h
        refine V.iload (r := 157) hC 5 dX9_where_155 rfl rfl ?_
        refine V.goto (tgt := 162) hC dX9_where_157 (by decide) ?_
        cases h
        exact hR _ _ dX9_where_162
    · rw [if_neg c15] at h
      refine V.aload_n (r := 62) hC 0 dX9_where_61 rfl rfl ?_
      obtain ⟨q19, hq20, h⟩ := Option.bind_eq_some_iff.mp h
      try dsimp only at h
      refine V.invVv (as := []) (st := []) (r := 65) hC (met9_again hq20) yv_X9_again ml_RX9_315 sh_154 rfl rfl dX9_where_62 (by decide) rfl rfl rfl rfl ?_
      refine V.aload_n (r := 66) hC 0 dX9_where_65 rfl rfl ?_
      refine V.iload (r := 68) hC 7 dX9_where_66 rfl rfl ?_
      obtain ⟨q21, hq22, h⟩ := Option.bind_eq_some_iff.mp h
      try dsimp only at h
      refine V.invVi (as := [.inl x7]) (st := []) (r := 71) hC (met9_isRock hq22) yv_X9_isRock ml_RX9_99 sh_154 rfl rfl dX9_where_68 (by decide) rfl rfl rfl rfl ?_
      refine V.if_eq (tgt := 77) (r := 74) hC dX9_where_71 (by decide) rfl (fun c23 => ?_) (fun c23 => ?_)
      · rw [if_pos c23] at h
        refine V.aload_n (r := 78) hC 0 dX9_where_77 rfl rfl ?_
        refine V.getR (k' := 155) (j := 0) (r := 81) hC xcl_9 sh_154 fl_RX9_7 dX9_where_78 (by decide) rfl rfl ?_
        refine V.sipush (r := 84) hC dX9_where_81 ks_274 rfl ?_
        refine V.iload_n (r := 85) hC 1 dX9_where_84 rfl rfl ?_
        refine V.iadd (r := 86) hC dX9_where_85 rfl ?_
        refine V.iload (r := 88) hC 7 dX9_where_86 rfl rfl ?_
        by_cases c24 : ((274 : Int32) + x1) < 0 ∨ 331 ≤ ((274 : Int32) + x1).toNatClampNeg
        · rw [if_pos c24] at h; cases h
        rw [if_neg c24] at h
        rw [mset_eq] at h
        refine V.iast (t := ((274 : Int32) + x1).toNatClampNeg) (r := 89) hC sh_155 dX9_where_88 c24 (Nat.zero_add _) rfl ?_
        generalize upM q21.2 7 ((274 : Int32) + x1).toNatClampNeg x7 = M25 at h ⊢
        refine V.aload_n (r := 90) hC 0 dX9_where_89 rfl rfl ?_
        refine V.iload_n (r := 91) hC 2 dX9_where_90 rfl rfl ?_
        obtain ⟨q26, hq27, h⟩ := Option.bind_eq_some_iff.mp h
        try dsimp only at h
        refine V.invVi (as := [.inl x2]) (st := []) (r := 94) hC (met9_runs hq27) yv_X9_runs ml_RX9_299 sh_154 rfl rfl dX9_where_91 (by decide) rfl rfl rfl rfl ?_
        refine V.pop (r := 95) hC dX9_where_94 rfl ?_
        refine V.aload_n (r := 96) hC 0 dX9_where_95 rfl rfl ?_
        refine V.iload_n (r := 97) hC 1 dX9_where_96 rfl rfl ?_
        obtain ⟨q28, hq29, h⟩ := Option.bind_eq_some_iff.mp h
        try dsimp only at h
        refine V.invVi (as := [.inl x1]) (st := []) (r := 100) hC (met9_isOn hq29) yv_X9_isOn ml_RX9_85 sh_154 rfl rfl dX9_where_97 (by decide) rfl rfl rfl rfl ?_
        refine V.if_eq (tgt := 140) (r := 103) hC dX9_where_100 (by decide) rfl (fun c30 => ?_) (fun c30 => ?_)
        · rw [if_pos c30] at h
          exact v9_where_b140  hC hR ih _ _ _ _ _ _ _ _ h
        · rw [if_neg c30] at h
          refine V.aload_n (r := 104) hC 0 dX9_where_103 rfl rfl ?_
          refine V.getR (k' := 155) (j := 0) (r := 107) hC xcl_9 sh_154 fl_RX9_7 dX9_where_104 (by decide) rfl rfl ?_
          refine V.sipush (r := 110) hC dX9_where_107 ks_274 rfl ?_
          refine V.iload_n (r := 111) hC 1 dX9_where_110 rfl rfl ?_
          refine V.iadd (r := 112) hC dX9_where_111 rfl ?_
          refine V.iald (t := ((274 : Int32) + x1).toNatClampNeg) (r := 113) hC sh_155 dX9_where_112 c24 (Nat.zero_add _) rfl ?_
          refine V.iload_n (r := 114) hC 3 dX9_where_113 rfl rfl ?_
          refine V.icmp_eq (tgt := 120) (r := 117) hC dX9_where_114 (by decide) rfl (fun c31 => ?_) (fun c31 => ?_)
          · rw [if_pos c31] at h
            refine V.iload (r := 122) hC 5 dX9_where_120 rfl rfl ?_
            refine V.if_ne (tgt := 130) (r := 125) hC dX9_where_122 (by decide) rfl (fun c32 => ?_) (fun c32 => ?_)
            · rw [if_neg c32] at h
              refine V.iload (r := 132) hC 6 dX9_where_130 rfl rfl ?_
              refine V.pick (lv' := [(0, .inr 154), (1, .inl x1), (2, .inl x2), (3, .inl x3), (4, .inl x4), (5, .inl x5), (7, .inl x7)]) [0, 1, 2, 3, 4, 5, 7] rfl ?_
              exact v9_where_b132  hC hR ih _ _ _ _ _ _ _ _ h
            · rw [if_pos c32] at h
              refine V.iload (r := 127) hC 7 dX9_where_125 rfl rfl ?_
              refine V.goto (tgt := 132) hC dX9_where_127 (by decide) ?_
              refine V.pick (lv' := [(0, .inr 154), (1, .inl x1), (2, .inl x2), (3, .inl x3), (4, .inl x4), (5, .inl x5), (7, .inl x7)]) [0, 1, 2, 3, 4, 5, 7] rfl ?_
              exact v9_where_b132  hC hR ih _ _ _ _ _ _ _ _ h
          · rw [if_neg c31] at h
            refine V.goto (tgt := 140) hC dX9_where_117 (by decide) ?_
            exact v9_where_b140  hC hR ih _ _ _ _ _ _ _ _ h
      · rw [if_neg c23] at h
        refine V.goto (tgt := 140) hC dX9_where_74 (by decide) ?_
        exact v9_where_b140  hC hR ih _ _ _ _ _ _ _ _ h
def g9_where (a0 a1 a2 a3 : Int32) (M : xMem) : Option (Int32 × xMem) :=
Option.bind (g9_isOn a0 M) fun q1 =>
if (q1.1) = 0 then
(some ((-1 : Int32), q1.2))
else
(Option.bind (g9_areWithin a1 q1.2) fun q4 =>
if (q4.1) = 0 then
(some ((-1 : Int32), q4.2))
else
(Option.bind (g9_in a2 (0 : Int32) (195 : Int32) q4.2) fun q7 =>
if (q7.1) = 0 then
(some ((-1 : Int32), q7.2))
else
(Option.bind (g9_in a3 (0 : Int32) (1 : Int32) q7.2) fun q10 =>
if (q10.1) = 0 then
(some ((-1 : Int32), q10.2))
else
(Option.bind (g9_begins q10.2) fun q13 =>
g9_where_b53 5000 a0 a1 a2 a3 (0 : Int32) (-2 : Int32) (0 : Int32) q13))))
set_option maxHeartbeats 4000000 in
set_option maxRecDepth 20000 in
theorem v9_where {G : xG} (hC : xC G cX9_where 8 RX9 8) {R : Int32 × xMem} (hR : xRI G cX9_where 8 R) {a0 a1 a2 a3 : Int32} {M : xMem} (h : g9_where a0 a1 a2 a3 M = some R) : V G 8 0 [(0, .inr 154), (1, .inl a0), (2, .inl a1), (3, .inl a2), (4, .inl a3)] [] M := by
  unfold g9_where at h
  refine V.aload_n (r := 1) hC 0 dX9_where_0 rfl rfl ?_
  refine V.iload_n (r := 2) hC 1 dX9_where_1 rfl rfl ?_
  obtain ⟨q1, hq2, h⟩ := Option.bind_eq_some_iff.mp h
  try dsimp only at h
  refine V.invVi (as := [.inl a0]) (st := []) (r := 5) hC (met9_isOn hq2) yv_X9_isOn ml_RX9_85 sh_154 rfl rfl dX9_where_2 (by decide) rfl rfl rfl rfl ?_
  refine V.if_eq (tgt := 37) (r := 8) hC dX9_where_5 (by decide) rfl (fun c3 => ?_) (fun c3 => ?_)
  · rw [if_pos c3] at h
    refine V.iconst (r := 38) hC dX9_where_37 ki_m1 rfl ?_
    cases h
    exact hR _ _ dX9_where_38
  · rw [if_neg c3] at h
    refine V.aload_n (r := 9) hC 0 dX9_where_8 rfl rfl ?_
    refine V.iload_n (r := 10) hC 2 dX9_where_9 rfl rfl ?_
    obtain ⟨q4, hq5, h⟩ := Option.bind_eq_some_iff.mp h
    try dsimp only at h
    refine V.invVi (as := [.inl a1]) (st := []) (r := 13) hC (met9_areWithin hq5) yv_X9_areWithin ml_RX9_352 sh_154 rfl rfl dX9_where_10 (by decide) rfl rfl rfl rfl ?_
    refine V.if_eq (tgt := 37) (r := 16) hC dX9_where_13 (by decide) rfl (fun c6 => ?_) (fun c6 => ?_)
    · rw [if_pos c6] at h
      refine V.iconst (r := 38) hC dX9_where_37 ki_m1 rfl ?_
      cases h
      exact hR _ _ dX9_where_38
    · rw [if_neg c6] at h
      refine V.iload_n (r := 17) hC 3 dX9_where_16 rfl rfl ?_
      refine V.iconst (r := 18) hC dX9_where_17 ki_0 rfl ?_
      refine V.sipush (r := 21) hC dX9_where_18 ks_195 rfl ?_
      obtain ⟨q7, hq8, h⟩ := Option.bind_eq_some_iff.mp h
      try dsimp only at h
      refine V.invSi (as := [.inl a2, .inl (0 : Int32), .inl (195 : Int32)]) (st := []) (r := 24) hC (met9_in hq8) ys_X9_in ml_RX9_92 dX9_where_21 (by decide) rfl rfl rfl rfl ?_
      refine V.if_eq (tgt := 37) (r := 27) hC dX9_where_24 (by decide) rfl (fun c9 => ?_) (fun c9 => ?_)
      · rw [if_pos c9] at h
        refine V.iconst (r := 38) hC dX9_where_37 ki_m1 rfl ?_
        cases h
        exact hR _ _ dX9_where_38
      · rw [if_neg c9] at h
        refine V.iload (r := 29) hC 4 dX9_where_27 rfl rfl ?_
        refine V.iconst (r := 30) hC dX9_where_29 ki_0 rfl ?_
        refine V.iconst (r := 31) hC dX9_where_30 ki_1 rfl ?_
        obtain ⟨q10, hq11, h⟩ := Option.bind_eq_some_iff.mp h
        try dsimp only at h
        refine V.invSi (as := [.inl a3, .inl (0 : Int32), .inl (1 : Int32)]) (st := []) (r := 34) hC (met9_in hq11) ys_X9_in ml_RX9_92 dX9_where_31 (by decide) rfl rfl rfl rfl ?_
        refine V.if_ne (tgt := 39) (r := 37) hC dX9_where_34 (by decide) rfl (fun c12 => ?_) (fun c12 => ?_)
        · rw [if_neg c12] at h
          refine V.aload_n (r := 40) hC 0 dX9_where_39 rfl rfl ?_
          obtain ⟨q13, hq14, h⟩ := Option.bind_eq_some_iff.mp h
          try dsimp only at h
          refine V.invVv (as := []) (st := []) (r := 43) hC (met9_begins hq14) yv_X9_begins ml_RX9_306 sh_154 rfl rfl dX9_where_40 (by decide) rfl rfl rfl rfl ?_
          refine V.iconst (r := 44) hC dX9_where_43 ki_0 rfl ?_
          refine V.ist (lv' := [(0, .inr 154), (1, .inl a0), (2, .inl a1), (3, .inl a2), (4, .inl a3), (5, .inl (0 : Int32))]) (r := 46) hC dX9_where_44 rfl rfl rfl ?_
          refine V.bipush (r := 48) hC dX9_where_46 kb_m2 rfl ?_
          refine V.ist (lv' := [(0, .inr 154), (1, .inl a0), (2, .inl a1), (3, .inl a2), (4, .inl a3), (5, .inl (0 : Int32)), (6, .inl (-2 : Int32))]) (r := 50) hC dX9_where_48 rfl rfl rfl ?_
          refine V.iconst (r := 51) hC dX9_where_50 ki_0 rfl ?_
          refine V.ist (lv' := [(0, .inr 154), (1, .inl a0), (2, .inl a1), (3, .inl a2), (4, .inl a3), (5, .inl (0 : Int32)), (6, .inl (-2 : Int32)), (7, .inl (0 : Int32))]) (r := 53) hC dX9_where_51 rfl rfl rfl ?_
          exact v9_where_b53  hC hR  5000 _ _ _ _ _ _ _ _ h
        · rw [if_pos c12] at h
          refine V.iconst (r := 38) hC dX9_where_37 ki_m1 rfl ?_
          cases h
          exact hR _ _ dX9_where_38
theorem met9_where {R : Int32 × xMem} {a0 a1 a2 a3 : Int32} {M : xMem} (h : g9_where a0 a1 a2 a3 M = some R) : xMet yX9_where cX9_where 8 (some .int) 8 [.inr 154, .inl a0, .inl a1, .inl a2, .inl a3] M (some R.1) R.2 := xMet.ofI (by decide +kernel) (Nat.le_of_ble_eq_true rfl) fun _ hC hR => v9_where  hC hR h
def g9_gcd_b4 : Nat → Int32 → Int32 → xMem → Option (Int32 × xMem)
  | 0, _, _, _ => none
  | n + 1, x2, x3, M => 
    (if x3 = 0 then
    (some (x2, M))
    else
    (if x3 = 0 then none else
    g9_gcd_b4 n x3 (x2 - x2 / x3 * x3) M))
set_option maxHeartbeats 4000000 in
set_option maxRecDepth 20000 in
theorem v9_gcd_b4 {G : xG} (hC : xC G cX9_gcd 5 RX9 0) {R : Int32 × xMem} (hR : xRI G cX9_gcd 5 R) : ∀ (n : Nat) (x2 x3 : Int32) (M : xMem), g9_gcd_b4 n x2 x3 M = some R → V G 5 4 [(2, .inl x2), (3, .inl x3)] [] M := by
  intro n
  induction n with
  | zero => intro x2 x3 M h; rw [g9_gcd_b4] at h; cases h
  | succ n ih =>
    intro x2 x3 M h
    rw [g9_gcd_b4] at h
    refine V.iload_n (r := 5) hC 1 dX9_gcd_4 rfl rfl ?_
    refine V.if_eq (tgt := 21) (r := 8) hC dX9_gcd_5 (by decide) rfl (fun c1 => ?_) (fun c1 => ?_)
    · rw [if_pos c1] at h
      refine V.iload_n (r := 22) hC 0 dX9_gcd_21 rfl rfl ?_
      cases h
      exact hR _ _ dX9_gcd_22
    · rw [if_neg c1] at h
      refine V.iload_n (r := 9) hC 0 dX9_gcd_8 rfl rfl ?_
      refine V.iload_n (r := 10) hC 1 dX9_gcd_9 rfl rfl ?_
      by_cases c2 : x3 = 0
      · rw [if_pos c2] at h; cases h
      rw [if_neg c2] at h
      refine V.irem (r := 11) hC dX9_gcd_10 c2 rfl ?_
      refine V.ist (lv' := [(2, .inl x2), (3, .inl x3), (4, .inl (x2 - x2 / x3 * x3))]) (r := 13) hC dX9_gcd_11 rfl rfl rfl ?_
      refine V.iload_n (r := 14) hC 1 dX9_gcd_13 rfl rfl ?_
      refine V.ist_n (lv' := [(2, .inl x3), (3, .inl x3), (4, .inl (x2 - x2 / x3 * x3))]) (r := 15) hC dX9_gcd_14 rfl rfl rfl ?_
      refine V.iload (r := 17) hC 2 dX9_gcd_15 rfl rfl ?_
      refine V.ist_n (lv' := [(2, .inl x3), (3, .inl (x2 - x2 / x3 * x3)), (4, .inl (x2 - x2 / x3 * x3))]) (r := 18) hC dX9_gcd_17 rfl rfl rfl ?_
      refine V.goto (tgt := 4) hC dX9_gcd_18 (by decide) ?_
      refine V.pick (lv' := [(2, .inl x3), (3, .inl (x2 - x2 / x3 * x3))]) [0, 1] rfl ?_
      exact ih _ _ _ h
def g9_gcd (a0 a1 : Int32) (M : xMem) : Option (Int32 × xMem) :=
g9_gcd_b4 5000 a0 a1 M
set_option maxHeartbeats 4000000 in
set_option maxRecDepth 20000 in
theorem v9_gcd {G : xG} (hC : xC G cX9_gcd 5 RX9 0) {R : Int32 × xMem} (hR : xRI G cX9_gcd 5 R) {a0 a1 : Int32} {M : xMem} (h : g9_gcd a0 a1 M = some R) : V G 5 0 [(0, .inl a0), (1, .inl a1)] [] M := by
  unfold g9_gcd at h
  refine V.iload_n (r := 1) hC 0 dX9_gcd_0 rfl rfl ?_
  refine V.ist_n (lv' := [(0, .inl a0), (1, .inl a1), (2, .inl a0)]) (r := 2) hC dX9_gcd_1 rfl rfl rfl ?_
  refine V.iload_n (r := 3) hC 1 dX9_gcd_2 rfl rfl ?_
  refine V.ist_n (lv' := [(0, .inl a0), (1, .inl a1), (2, .inl a0), (3, .inl a1)]) (r := 4) hC dX9_gcd_3 rfl rfl rfl ?_
  refine V.pick (lv' := [(2, .inl a0), (3, .inl a1)]) [2, 3] rfl ?_
  exact v9_gcd_b4  hC hR  5000 _ _ _ h
theorem met9_gcd {R : Int32 × xMem} {a0 a1 : Int32} {M : xMem} (h : g9_gcd a0 a1 M = some R) : xMet yX9_gcd cX9_gcd 5 (some .int) 0 [.inl a0, .inl a1] M (some R.1) R.2 := xMet.ofI (by decide +kernel) (Nat.le_of_ble_eq_true rfl) fun _ hC hR => v9_gcd  hC hR h
def g9_odds_b128 (k66 : Int32 → Int32 → Int32 → Int32 → Int32 → Int32 → xMem → Option (Int32 × xMem)) (x1 x2 x3 x4 x6 s0 s1 : Int32) (M : xMem) : Option (Int32 × xMem) :=
k66 x1 x2 x3 x4 (s0 + s1) (x6 + (1 : Int32)) M
set_option maxHeartbeats 4000000 in
set_option maxRecDepth 20000 in
theorem v9_odds_b128 {G : xG} (hC : xC G cX9_odds 9 RX9 7) {R : Int32 × xMem} (hR : xRI G cX9_odds 9 R) {k66 : Int32 → Int32 → Int32 → Int32 → Int32 → Int32 → xMem → Option (Int32 × xMem)} (hk66 : ∀ (y1 y2 y3 y4 y5 y6 : Int32) (N : xMem), k66 y1 y2 y3 y4 y5 y6 N = some R → V G 9 66 [(0, .inr 154), (1, .inl y1), (2, .inl y2), (3, .inl y3), (4, .inl y4), (5, .inl y5), (6, .inl y6)] [] N) (x1 x2 x3 x4 x6 s0 s1 : Int32) (M : xMem) (h : g9_odds_b128 k66 x1 x2 x3 x4 x6 s0 s1 M = some R) : V G 9 128 [(0, .inr 154), (1, .inl x1), (2, .inl x2), (3, .inl x3), (4, .inl x4), (6, .inl x6)] [.inl s1, .inl s0] M := by
  unfold g9_odds_b128 at h
  refine V.iadd (r := 129) hC dX9_odds_128 rfl ?_
  refine V.ist (lv' := [(0, .inr 154), (1, .inl x1), (2, .inl x2), (3, .inl x3), (4, .inl x4), (5, .inl (s0 + s1)), (6, .inl x6)]) (r := 131) hC dX9_odds_129 rfl rfl rfl ?_
  refine V.inc (lv' := [(0, .inr 154), (1, .inl x1), (2, .inl x2), (3, .inl x3), (4, .inl x4), (5, .inl (s0 + s1)), (6, .inl (x6 + (1 : Int32)))]) (r := 134) hC 6 dX9_odds_131 rfl ki_1 rfl rfl rfl ?_
  refine V.goto (tgt := 66) hC dX9_odds_134 (by decide) ?_
  exact hk66 _ _ _ _ _ _ _ h
def g9_odds_b84 (k66 : Int32 → Int32 → Int32 → Int32 → Int32 → Int32 → xMem → Option (Int32 × xMem)) : Nat → Int32 → Int32 → Int32 → Int32 → Int32 → Int32 → Int32 → Int32 → xMem → Option (Int32 × xMem)
  | 0, _, _, _, _, _, _, _, _, _ => none
  | n + 1, x1, x2, x3, x4, x5, x6, x7, x8, M => 
    (if x1 ≤ x8 then
    (Option.bind (g9_living M) fun q25 =>
    if (q25.1) < x2 then
    (g9_odds_b128 k66 x1 x2 x3 x4 x6 x5 (0 : Int32) q25.2)
    else
    (g9_odds_b128 k66 x1 x2 x3 x4 x6 x5 (1 : Int32) q25.2))
    else
    (Option.bind (g9_passes (x7 - x7 / (10 : Int32) * (10 : Int32)) M) fun q28 =>
    g9_odds_b84 k66 n x1 x2 x3 x4 x5 x6 (x7 / (10 : Int32)) (x8 + (1 : Int32)) q28.2))
set_option maxHeartbeats 4000000 in
set_option maxRecDepth 20000 in
theorem v9_odds_b84 {G : xG} (hC : xC G cX9_odds 9 RX9 7) {R : Int32 × xMem} (hR : xRI G cX9_odds 9 R) {k66 : Int32 → Int32 → Int32 → Int32 → Int32 → Int32 → xMem → Option (Int32 × xMem)} (hk66 : ∀ (y1 y2 y3 y4 y5 y6 : Int32) (N : xMem), k66 y1 y2 y3 y4 y5 y6 N = some R → V G 9 66 [(0, .inr 154), (1, .inl y1), (2, .inl y2), (3, .inl y3), (4, .inl y4), (5, .inl y5), (6, .inl y6)] [] N) : ∀ (n : Nat) (x1 x2 x3 x4 x5 x6 x7 x8 : Int32) (M : xMem), g9_odds_b84 k66 n x1 x2 x3 x4 x5 x6 x7 x8 M = some R → V G 9 84 [(0, .inr 154), (1, .inl x1), (2, .inl x2), (3, .inl x3), (4, .inl x4), (5, .inl x5), (6, .inl x6), (7, .inl x7), (8, .inl x8)] [] M := by
  intro n
  induction n with
  | zero => intro x1 x2 x3 x4 x5 x6 x7 x8 M h; rw [g9_odds_b84] at h; cases h
  | succ n ih =>
    intro x1 x2 x3 x4 x5 x6 x7 x8 M h
    rw [g9_odds_b84] at h
    refine V.iload (r := 86) hC 8 dX9_odds_84 rfl rfl ?_
    refine V.iload_n (r := 87) hC 1 dX9_odds_86 rfl rfl ?_
    refine V.icmp_ge (tgt := 113) (r := 90) hC dX9_odds_87 (by decide) rfl (fun c24 => ?_) (fun c24 => ?_)
    · rw [if_pos c24] at h
      refine V.iload (r := 115) hC 5 dX9_odds_113 rfl rfl ?_
      refine V.aload_n (r := 116) hC 0 dX9_odds_115 rfl rfl ?_
      obtain ⟨q25, hq26, h⟩ := Option.bind_eq_some_iff.mp h
      try dsimp only at h
      refine V.invVi (as := []) (st := [.inl x5]) (r := 119) hC (met9_living hq26) yv_X9_living ml_RX9_309 sh_154 rfl rfl dX9_odds_116 (by decide) rfl rfl rfl rfl ?_
      refine V.iload_n (r := 120) hC 2 dX9_odds_119 rfl rfl ?_
      refine V.icmp_lt (tgt := 127) (r := 123) hC dX9_odds_120 (by decide) rfl (fun c27 => ?_) (fun c27 => ?_)
      · rw [if_pos c27] at h
        refine V.iconst (r := 128) hC dX9_odds_127 ki_0 rfl ?_
        refine V.pick (lv' := [(0, .inr 154), (1, .inl x1), (2, .inl x2), (3, .inl x3), (4, .inl x4), (6, .inl x6)]) [0, 1, 2, 3, 4, 6] rfl ?_
        exact v9_odds_b128  hC hR hk66 _ _ _ _ _ _ _ _ h
      · rw [if_neg c27] at h
        refine V.iconst (r := 124) hC dX9_odds_123 ki_1 rfl ?_
        refine V.goto (tgt := 128) hC dX9_odds_124 (by decide) ?_
        refine V.pick (lv' := [(0, .inr 154), (1, .inl x1), (2, .inl x2), (3, .inl x3), (4, .inl x4), (6, .inl x6)]) [0, 1, 2, 3, 4, 6] rfl ?_
        exact v9_odds_b128  hC hR hk66 _ _ _ _ _ _ _ _ h
    · rw [if_neg c24] at h
      refine V.aload_n (r := 91) hC 0 dX9_odds_90 rfl rfl ?_
      refine V.iload (r := 93) hC 7 dX9_odds_91 rfl rfl ?_
      refine V.bipush (r := 95) hC dX9_odds_93 kb_10 rfl ?_
      refine V.irem (r := 96) hC dX9_odds_95 (by decide) rfl ?_
      obtain ⟨q28, hq29, h⟩ := Option.bind_eq_some_iff.mp h
      try dsimp only at h
      refine V.invVi (as := [.inl (x7 - x7 / (10 : Int32) * (10 : Int32))]) (st := []) (r := 99) hC (met9_passes hq29) yv_X9_passes ml_RX9_296 sh_154 rfl rfl dX9_odds_96 (by decide) rfl rfl rfl rfl ?_
      refine V.pop (r := 100) hC dX9_odds_99 rfl ?_
      refine V.iload (r := 102) hC 7 dX9_odds_100 rfl rfl ?_
      refine V.bipush (r := 104) hC dX9_odds_102 kb_10 rfl ?_
      refine V.idiv (r := 105) hC dX9_odds_104 (by decide) rfl ?_
      refine V.ist (lv' := [(0, .inr 154), (1, .inl x1), (2, .inl x2), (3, .inl x3), (4, .inl x4), (5, .inl x5), (6, .inl x6), (7, .inl (x7 / (10 : Int32))), (8, .inl x8)]) (r := 107) hC dX9_odds_105 rfl rfl rfl ?_
      refine V.inc (lv' := [(0, .inr 154), (1, .inl x1), (2, .inl x2), (3, .inl x3), (4, .inl x4), (5, .inl x5), (6, .inl x6), (7, .inl (x7 / (10 : Int32))), (8, .inl (x8 + (1 : Int32)))]) (r := 110) hC 8 dX9_odds_107 rfl ki_1 rfl rfl rfl ?_
      refine V.goto (tgt := 84) hC dX9_odds_110 (by decide) ?_
      exact ih _ _ _ _ _ _ _ _ _ h
def g9_odds_b66 : Nat → Int32 → Int32 → Int32 → Int32 → Int32 → Int32 → xMem → Option (Int32 × xMem)
  | 0, _, _, _, _, _, _, _ => none
  | n + 1, x1, x2, x3, x4, x5, x6, M => 
    (if x4 ≤ x6 then
    (Option.bind (g9_again M) fun q15 =>
    Option.bind (g9_gcd x5 x4 q15) fun q17 =>
    if x3 = 0 then
    (if (q17.1) = 0 then none else
    some (x5 / (q17.1), q17.2))
    else
    (if (q17.1) = 0 then none else
    some (x4 / (q17.1), q17.2)))
    else
    (Option.bind (g9_again M) fun q22 =>
    g9_odds_b84 (g9_odds_b66 n) 5000 x1 x2 x3 x4 x5 x6 x6 (0 : Int32) q22))
set_option maxHeartbeats 4000000 in
set_option maxRecDepth 20000 in
theorem v9_odds_b66 {G : xG} (hC : xC G cX9_odds 9 RX9 7) {R : Int32 × xMem} (hR : xRI G cX9_odds 9 R) : ∀ (n : Nat) (x1 x2 x3 x4 x5 x6 : Int32) (M : xMem), g9_odds_b66 n x1 x2 x3 x4 x5 x6 M = some R → V G 9 66 [(0, .inr 154), (1, .inl x1), (2, .inl x2), (3, .inl x3), (4, .inl x4), (5, .inl x5), (6, .inl x6)] [] M := by
  intro n
  induction n with
  | zero => intro x1 x2 x3 x4 x5 x6 M h; rw [g9_odds_b66] at h; cases h
  | succ n ih =>
    intro x1 x2 x3 x4 x5 x6 M h
    rw [g9_odds_b66] at h
    refine V.iload (r := 68) hC 6 dX9_odds_66 rfl rfl ?_
    refine V.iload (r := 70) hC 4 dX9_odds_68 rfl rfl ?_
    refine V.icmp_ge (tgt := 137) (r := 73) hC dX9_odds_70 (by decide) rfl (fun c14 => ?_) (fun c14 => ?_)
    · rw [if_pos c14] at h
      refine V.aload_n (r := 138) hC 0 dX9_odds_137 rfl rfl ?_
      obtain ⟨q15, hq16, h⟩ := Option.bind_eq_some_iff.mp h
      try dsimp only at h
      refine V.invVv (as := []) (st := []) (r := 141) hC (met9_again hq16) yv_X9_again ml_RX9_315 sh_154 rfl rfl dX9_odds_138 (by decide) rfl rfl rfl rfl ?_
      refine V.iload (r := 143) hC 5 dX9_odds_141 rfl rfl ?_
      refine V.iload (r := 145) hC 4 dX9_odds_143 rfl rfl ?_
      obtain ⟨q17, hq18, h⟩ := Option.bind_eq_some_iff.mp h
      try dsimp only at h
      refine V.invSi (as := [.inl x5, .inl x4]) (st := []) (r := 148) hC (met9_gcd hq18) ys_X9_gcd ml_RX9_361 dX9_odds_145 (by decide) rfl rfl rfl rfl ?_
      refine V.ist (lv' := [(0, .inr 154), (1, .inl x1), (2, .inl x2), (3, .inl x3), (4, .inl x4), (5, .inl x5), (6, .inl (q17.1))]) (r := 150) hC dX9_odds_148 rfl rfl rfl ?_
      refine V.iload_n (r := 151) hC 3 dX9_odds_150 rfl rfl ?_
      refine V.if_ne (tgt := 162) (r := 154) hC dX9_odds_151 (by decide) rfl (fun c19 => ?_) (fun c19 => ?_)
      · rw [if_neg c19] at h
        refine V.iload (r := 164) hC 4 dX9_odds_162 rfl rfl ?_
        refine V.iload (r := 166) hC 6 dX9_odds_164 rfl rfl ?_
        by_cases c20 : (q17.1) = 0
        · rw [if_pos c20] at h; cases h
        rw [if_neg c20] at h
        refine V.idiv (r := 167) hC dX9_odds_166 c20 rfl ?_
        cases h
        exact hR _ _ dX9_odds_167
      · rw [if_pos c19] at h
        refine V.iload (r := 156) hC 5 dX9_odds_154 rfl rfl ?_
        refine V.iload (r := 158) hC 6 dX9_odds_156 rfl rfl ?_
        by_cases c21 : (q17.1) = 0
        · rw [if_pos c21] at h; cases h
        rw [if_neg c21] at h
        refine V.idiv (r := 159) hC dX9_odds_158 c21 rfl ?_
        refine V.goto (tgt := 167) hC dX9_odds_159 (by decide) ?_
        cases h
        exact hR _ _ dX9_odds_167
    · rw [if_neg c14] at h
      refine V.aload_n (r := 74) hC 0 dX9_odds_73 rfl rfl ?_
      obtain ⟨q22, hq23, h⟩ := Option.bind_eq_some_iff.mp h
      try dsimp only at h
      refine V.invVv (as := []) (st := []) (r := 77) hC (met9_again hq23) yv_X9_again ml_RX9_315 sh_154 rfl rfl dX9_odds_74 (by decide) rfl rfl rfl rfl ?_
      refine V.iload (r := 79) hC 6 dX9_odds_77 rfl rfl ?_
      refine V.ist (lv' := [(0, .inr 154), (1, .inl x1), (2, .inl x2), (3, .inl x3), (4, .inl x4), (5, .inl x5), (6, .inl x6), (7, .inl x6)]) (r := 81) hC dX9_odds_79 rfl rfl rfl ?_
      refine V.iconst (r := 82) hC dX9_odds_81 ki_0 rfl ?_
      refine V.ist (lv' := [(0, .inr 154), (1, .inl x1), (2, .inl x2), (3, .inl x3), (4, .inl x4), (5, .inl x5), (6, .inl x6), (7, .inl x6), (8, .inl (0 : Int32))]) (r := 84) hC dX9_odds_82 rfl rfl rfl ?_
      exact v9_odds_b84  hC hR ih 5000 _ _ _ _ _ _ _ _ _ h
def g9_odds_b58 (x1 x2 x3 s0 : Int32) (M : xMem) : Option (Int32 × xMem) :=
g9_odds_b66 5000 x1 x2 x3 s0 (0 : Int32) (0 : Int32) M
set_option maxHeartbeats 4000000 in
set_option maxRecDepth 20000 in
theorem v9_odds_b58 {G : xG} (hC : xC G cX9_odds 9 RX9 7) {R : Int32 × xMem} (hR : xRI G cX9_odds 9 R) (x1 x2 x3 s0 : Int32) (M : xMem) (h : g9_odds_b58 x1 x2 x3 s0 M = some R) : V G 9 58 [(0, .inr 154), (1, .inl x1), (2, .inl x2), (3, .inl x3)] [.inl s0] M := by
  unfold g9_odds_b58 at h
  refine V.ist (lv' := [(0, .inr 154), (1, .inl x1), (2, .inl x2), (3, .inl x3), (4, .inl s0)]) (r := 60) hC dX9_odds_58 rfl rfl rfl ?_
  refine V.iconst (r := 61) hC dX9_odds_60 ki_0 rfl ?_
  refine V.ist (lv' := [(0, .inr 154), (1, .inl x1), (2, .inl x2), (3, .inl x3), (4, .inl s0), (5, .inl (0 : Int32))]) (r := 63) hC dX9_odds_61 rfl rfl rfl ?_
  refine V.iconst (r := 64) hC dX9_odds_63 ki_0 rfl ?_
  refine V.ist (lv' := [(0, .inr 154), (1, .inl x1), (2, .inl x2), (3, .inl x3), (4, .inl s0), (5, .inl (0 : Int32)), (6, .inl (0 : Int32))]) (r := 66) hC dX9_odds_64 rfl rfl rfl ?_
  exact v9_odds_b66  hC hR  5000 _ _ _ _ _ _ _ h
def g9_odds (a0 a1 a2 : Int32) (M : xMem) : Option (Int32 × xMem) :=
Option.bind (g9_in a0 (1 : Int32) (3 : Int32) M) fun q1 =>
if (q1.1) = 0 then
(some ((-1 : Int32), q1.2))
else
(Option.bind (g9_in a1 (0 : Int32) (9999 : Int32) q1.2) fun q4 =>
if (q4.1) = 0 then
(some ((-1 : Int32), q4.2))
else
(Option.bind (g9_in a2 (0 : Int32) (1 : Int32) q4.2) fun q7 =>
if (q7.1) = 0 then
(some ((-1 : Int32), q7.2))
else
(Option.bind (g9_begins q7.2) fun q10 =>
if a0 = (1 : Int32) then
(g9_odds_b58 a0 a1 a2 (10 : Int32) q10)
else
(if a0 = (2 : Int32) then
(g9_odds_b58 a0 a1 a2 (100 : Int32) q10)
else
(g9_odds_b58 a0 a1 a2 (1000 : Int32) q10)))))
set_option maxHeartbeats 4000000 in
set_option maxRecDepth 20000 in
theorem v9_odds {G : xG} (hC : xC G cX9_odds 9 RX9 7) {R : Int32 × xMem} (hR : xRI G cX9_odds 9 R) {a0 a1 a2 : Int32} {M : xMem} (h : g9_odds a0 a1 a2 M = some R) : V G 9 0 [(0, .inr 154), (1, .inl a0), (2, .inl a1), (3, .inl a2)] [] M := by
  unfold g9_odds at h
  refine V.iload_n (r := 1) hC 1 dX9_odds_0 rfl rfl ?_
  refine V.iconst (r := 2) hC dX9_odds_1 ki_1 rfl ?_
  refine V.iconst (r := 3) hC dX9_odds_2 ki_3 rfl ?_
  obtain ⟨q1, hq2, h⟩ := Option.bind_eq_some_iff.mp h
  try dsimp only at h
  refine V.invSi (as := [.inl a0, .inl (1 : Int32), .inl (3 : Int32)]) (st := []) (r := 6) hC (met9_in hq2) ys_X9_in ml_RX9_92 dX9_odds_3 (by decide) rfl rfl rfl rfl ?_
  refine V.if_eq (tgt := 29) (r := 9) hC dX9_odds_6 (by decide) rfl (fun c3 => ?_) (fun c3 => ?_)
  · rw [if_pos c3] at h
    refine V.iconst (r := 30) hC dX9_odds_29 ki_m1 rfl ?_
    cases h
    exact hR _ _ dX9_odds_30
  · rw [if_neg c3] at h
    refine V.iload_n (r := 10) hC 2 dX9_odds_9 rfl rfl ?_
    refine V.iconst (r := 11) hC dX9_odds_10 ki_0 rfl ?_
    refine V.sipush (r := 14) hC dX9_odds_11 ks_9999 rfl ?_
    obtain ⟨q4, hq5, h⟩ := Option.bind_eq_some_iff.mp h
    try dsimp only at h
    refine V.invSi (as := [.inl a1, .inl (0 : Int32), .inl (9999 : Int32)]) (st := []) (r := 17) hC (met9_in hq5) ys_X9_in ml_RX9_92 dX9_odds_14 (by decide) rfl rfl rfl rfl ?_
    refine V.if_eq (tgt := 29) (r := 20) hC dX9_odds_17 (by decide) rfl (fun c6 => ?_) (fun c6 => ?_)
    · rw [if_pos c6] at h
      refine V.iconst (r := 30) hC dX9_odds_29 ki_m1 rfl ?_
      cases h
      exact hR _ _ dX9_odds_30
    · rw [if_neg c6] at h
      refine V.iload_n (r := 21) hC 3 dX9_odds_20 rfl rfl ?_
      refine V.iconst (r := 22) hC dX9_odds_21 ki_0 rfl ?_
      refine V.iconst (r := 23) hC dX9_odds_22 ki_1 rfl ?_
      obtain ⟨q7, hq8, h⟩ := Option.bind_eq_some_iff.mp h
      try dsimp only at h
      refine V.invSi (as := [.inl a2, .inl (0 : Int32), .inl (1 : Int32)]) (st := []) (r := 26) hC (met9_in hq8) ys_X9_in ml_RX9_92 dX9_odds_23 (by decide) rfl rfl rfl rfl ?_
      refine V.if_ne (tgt := 31) (r := 29) hC dX9_odds_26 (by decide) rfl (fun c9 => ?_) (fun c9 => ?_)
      · rw [if_neg c9] at h
        refine V.aload_n (r := 32) hC 0 dX9_odds_31 rfl rfl ?_
        obtain ⟨q10, hq11, h⟩ := Option.bind_eq_some_iff.mp h
        try dsimp only at h
        refine V.invVv (as := []) (st := []) (r := 35) hC (met9_begins hq11) yv_X9_begins ml_RX9_306 sh_154 rfl rfl dX9_odds_32 (by decide) rfl rfl rfl rfl ?_
        refine V.iload_n (r := 36) hC 1 dX9_odds_35 rfl rfl ?_
        refine V.iconst (r := 37) hC dX9_odds_36 ki_1 rfl ?_
        refine V.icmp_ne (tgt := 45) (r := 40) hC dX9_odds_37 (by decide) rfl (fun c12 => ?_) (fun c12 => ?_)
        · rw [if_neg c12] at h
          refine V.iload_n (r := 46) hC 1 dX9_odds_45 rfl rfl ?_
          refine V.iconst (r := 47) hC dX9_odds_46 ki_2 rfl ?_
          refine V.icmp_ne (tgt := 55) (r := 50) hC dX9_odds_47 (by decide) rfl (fun c13 => ?_) (fun c13 => ?_)
          · rw [if_neg c13] at h
            refine V.sipush (r := 58) hC dX9_odds_55 ks_1000 rfl ?_
            exact v9_odds_b58  hC hR  _ _ _ _ _ h
          · rw [if_pos c13] at h
            refine V.bipush (r := 52) hC dX9_odds_50 kb_100 rfl ?_
            refine V.goto (tgt := 58) hC dX9_odds_52 (by decide) ?_
            exact v9_odds_b58  hC hR  _ _ _ _ _ h
        · rw [if_pos c12] at h
          refine V.bipush (r := 42) hC dX9_odds_40 kb_10 rfl ?_
          refine V.goto (tgt := 58) hC dX9_odds_42 (by decide) ?_
          exact v9_odds_b58  hC hR  _ _ _ _ _ h
      · rw [if_pos c9] at h
        refine V.iconst (r := 30) hC dX9_odds_29 ki_m1 rfl ?_
        cases h
        exact hR _ _ dX9_odds_30
theorem met9_odds {R : Int32 × xMem} {a0 a1 a2 : Int32} {M : xMem} (h : g9_odds a0 a1 a2 M = some R) : xMet yX9_odds cX9_odds 9 (some .int) 7 [.inr 154, .inl a0, .inl a1, .inl a2] M (some R.1) R.2 := xMet.ofI (by decide +kernel) (Nat.le_of_ble_eq_true rfl) fun _ hC hR => v9_odds  hC hR h
def g9_seed (a0 : Int32) (M : xMem) : Option (Int32 × xMem) :=
Option.bind (g9_in a0 (0 : Int32) (65535 : Int32) M) fun q1 =>
if (q1.1) = 0 then
(some ((0 : Int32), q1.2))
else
(mset (upM q1.2 7 330 a0) fun M4 =>
some ((1 : Int32), M4))
set_option maxHeartbeats 4000000 in
set_option maxRecDepth 20000 in
theorem v9_seed {G : xG} (hC : xC G cX9_seed 2 RX9 1) {R : Int32 × xMem} (hR : xRZ G cX9_seed 2 R) {a0 : Int32} {M : xMem} (h : g9_seed a0 M = some R) : V G 2 0 [(0, .inr 154), (1, .inl a0)] [] M := by
  unfold g9_seed at h
  refine V.iload_n (r := 1) hC 1 dX9_seed_0 rfl rfl ?_
  refine V.iconst (r := 2) hC dX9_seed_1 ki_0 rfl ?_
  refine V.ldcw (r := 5) hC dX9_seed_2 co_RX9_364 rfl ?_
  obtain ⟨q1, hq2, h⟩ := Option.bind_eq_some_iff.mp h
  try dsimp only at h
  refine V.invSi (as := [.inl a0, .inl (0 : Int32), .inl (65535 : Int32)]) (st := []) (r := 8) hC (met9_in hq2) ys_X9_in ml_RX9_92 dX9_seed_5 (by decide) rfl rfl rfl rfl ?_
  refine V.if_ne (tgt := 13) (r := 11) hC dX9_seed_8 (by decide) rfl (fun c3 => ?_) (fun c3 => ?_)
  · rw [if_neg c3] at h
    refine V.aload_n (r := 14) hC 0 dX9_seed_13 rfl rfl ?_
    refine V.getR (k' := 155) (j := 0) (r := 17) hC xcl_9 sh_154 fl_RX9_7 dX9_seed_14 (by decide) rfl rfl ?_
    refine V.sipush (r := 20) hC dX9_seed_17 ks_330 rfl ?_
    refine V.iload_n (r := 21) hC 1 dX9_seed_20 rfl rfl ?_
    rw [mset_eq] at h
    refine V.iast (t := 330) (r := 22) hC sh_155 dX9_seed_21 (by decide) (by decide) rfl ?_
    generalize upM q1.2 7 330 a0 = M4 at h ⊢
    refine V.iconst (r := 23) hC dX9_seed_22 ki_1 rfl ?_
    cases h
    exact hR _ _ (Or.inr rfl) dX9_seed_23
  · rw [if_pos c3] at h
    refine V.iconst (r := 12) hC dX9_seed_11 ki_0 rfl ?_
    cases h
    exact hR _ _ (Or.inl rfl) dX9_seed_12
theorem met9_seed {R : Int32 × xMem} {a0 : Int32} {M : xMem} (h : g9_seed a0 M = some R) : xMet yX9_seed cX9_seed 2 (some .boolean) 1 [.inr 154, .inl a0] M (some R.1) R.2 := xMet.ofZ (by decide +kernel) (Nat.le_of_ble_eq_true rfl) fun _ hC hR => v9_seed  hC hR h
def g9_clouded_b80 (k9 : Int32 → xMem → Option (Int32 × xMem)) (x1 s1 s2 : Int32) (M : xMem) : Option (Int32 × xMem) :=
if s1 < 0 ∨ 331 ≤ s1.toNatClampNeg then none else
mset (upM M 7 s1.toNatClampNeg s2) fun M11 =>
k9 (x1 + (1 : Int32)) M11
set_option maxHeartbeats 4000000 in
set_option maxRecDepth 20000 in
theorem v9_clouded_b80 {G : xG} (hC : xC G cX9_clouded 3 RX9 3) {R : Int32 × xMem} (hR : xRI G cX9_clouded 3 R) {k9 : Int32 → xMem → Option (Int32 × xMem)} (hk9 : ∀ (y1 : Int32) (N : xMem), k9 y1 N = some R → V G 3 9 [(0, .inr 154), (1, .inl y1)] [] N) (x1 s1 s2 : Int32) (M : xMem) (h : g9_clouded_b80 k9 x1 s1 s2 M = some R) : V G 3 80 [(0, .inr 154), (1, .inl x1)] [.inl s2, .inl s1, .inr 155] M := by
  unfold g9_clouded_b80 at h
  by_cases c10 : s1 < 0 ∨ 331 ≤ s1.toNatClampNeg
  · rw [if_pos c10] at h; cases h
  rw [if_neg c10] at h
  rw [mset_eq] at h
  refine V.iast (t := s1.toNatClampNeg) (r := 81) hC sh_155 dX9_clouded_80 c10 (Nat.zero_add _) rfl ?_
  generalize upM M 7 s1.toNatClampNeg s2 = M11 at h ⊢
  refine V.inc (lv' := [(0, .inr 154), (1, .inl (x1 + (1 : Int32)))]) (r := 84) hC 1 dX9_clouded_81 rfl ki_1 rfl rfl rfl ?_
  refine V.goto (tgt := 9) hC dX9_clouded_84 (by decide) ?_
  exact hk9 _ _ h
def g9_clouded_b9 : Nat → Int32 → xMem → Option (Int32 × xMem)
  | 0, _, _ => none
  | n + 1, x1, M => 
    (if (8 : Int32) ≤ x1 then
    (some (M 7 329, M))
    else
    (Option.bind (g9_draws M) fun q2 =>
    Option.bind (g9_feels q2.2) fun q4 =>
    mset (upM q4 186 0 x1) fun M6 =>
    Option.bind (g9_byLaw (113 : Int32) (0 : Int32) (10 : Int32) M6) fun q7 =>
    if (q7.1) ≤ (q2.1) then
    (g9_clouded_b80 (g9_clouded_b9 n) x1 (329 : Int32) ((q7.2 7 329) &&& (((1 : Int32) <<< (x1 &&& 31)) ^^^ (-1 : Int32))) q7.2)
    else
    (g9_clouded_b80 (g9_clouded_b9 n) x1 (329 : Int32) ((q7.2 7 329) ||| ((1 : Int32) <<< (x1 &&& 31))) q7.2)))
set_option maxHeartbeats 4000000 in
set_option maxRecDepth 20000 in
theorem v9_clouded_b9 {G : xG} (hC : xC G cX9_clouded 3 RX9 3) {R : Int32 × xMem} (hR : xRI G cX9_clouded 3 R) : ∀ (n : Nat) (x1 : Int32) (M : xMem), g9_clouded_b9 n x1 M = some R → V G 3 9 [(0, .inr 154), (1, .inl x1)] [] M := by
  intro n
  induction n with
  | zero => intro x1 M h; rw [g9_clouded_b9] at h; cases h
  | succ n ih =>
    intro x1 M h
    rw [g9_clouded_b9] at h
    refine V.iload_n (r := 10) hC 1 dX9_clouded_9 rfl rfl ?_
    refine V.bipush (r := 12) hC dX9_clouded_10 kb_8 rfl ?_
    refine V.icmp_ge (tgt := 87) (r := 15) hC dX9_clouded_12 (by decide) rfl (fun c1 => ?_) (fun c1 => ?_)
    · rw [if_pos c1] at h
      refine V.aload_n (r := 88) hC 0 dX9_clouded_87 rfl rfl ?_
      refine V.getR (k' := 155) (j := 0) (r := 91) hC xcl_9 sh_154 fl_RX9_7 dX9_clouded_88 (by decide) rfl rfl ?_
      refine V.sipush (r := 94) hC dX9_clouded_91 ks_329 rfl ?_
      refine V.iald (t := 329) (r := 95) hC sh_155 dX9_clouded_94 (by decide) (by decide) rfl ?_
      cases h
      exact hR _ _ dX9_clouded_95
    · rw [if_neg c1] at h
      refine V.aload_n (r := 16) hC 0 dX9_clouded_15 rfl rfl ?_
      obtain ⟨q2, hq3, h⟩ := Option.bind_eq_some_iff.mp h
      try dsimp only at h
      refine V.invVi (as := []) (st := []) (r := 19) hC (met9_draws hq3) yv_X9_draws ml_RX9_293 sh_154 rfl rfl dX9_clouded_16 (by decide) rfl rfl rfl rfl ?_
      refine V.ist_n (lv' := [(0, .inr 154), (1, .inl x1), (2, .inl (q2.1))]) (r := 20) hC dX9_clouded_19 rfl rfl rfl ?_
      refine V.aload_n (r := 21) hC 0 dX9_clouded_20 rfl rfl ?_
      obtain ⟨q4, hq5, h⟩ := Option.bind_eq_some_iff.mp h
      try dsimp only at h
      refine V.invVv (as := []) (st := []) (r := 24) hC (met9_feels hq5) yv_X9_feels ml_RX9_229 sh_154 rfl rfl dX9_clouded_21 (by decide) rfl rfl rfl rfl ?_
      refine V.aload_n (r := 25) hC 0 dX9_clouded_24 rfl rfl ?_
      refine V.getR (k' := 171) (j := 26) (r := 28) hC xcl_9 sh_154 fl_RX9_59 dX9_clouded_25 (by decide) rfl rfl ?_
      refine V.iconst (r := 29) hC dX9_clouded_28 ki_0 rfl ?_
      refine V.iload_n (r := 30) hC 1 dX9_clouded_29 rfl rfl ?_
      rw [mset_eq] at h
      refine V.iast (t := 0) (r := 31) hC sh_171 dX9_clouded_30 (by decide) (by decide) rfl ?_
      generalize upM q4 186 0 x1 = M6 at h ⊢
      refine V.aload_n (r := 32) hC 0 dX9_clouded_31 rfl rfl ?_
      refine V.getR (k' := 155) (j := 0) (r := 35) hC xcl_9 sh_154 fl_RX9_7 dX9_clouded_32 (by decide) rfl rfl ?_
      refine V.sipush (r := 38) hC dX9_clouded_35 ks_329 rfl ?_
      refine V.iload_n (r := 39) hC 2 dX9_clouded_38 rfl rfl ?_
      refine V.aload_n (r := 40) hC 0 dX9_clouded_39 rfl rfl ?_
      refine V.bipush (r := 42) hC dX9_clouded_40 kb_113 rfl ?_
      refine V.iconst (r := 43) hC dX9_clouded_42 ki_0 rfl ?_
      refine V.bipush (r := 45) hC dX9_clouded_43 kb_10 rfl ?_
      obtain ⟨q7, hq8, h⟩ := Option.bind_eq_some_iff.mp h
      try dsimp only at h
      refine V.invVi (as := [.inl (113 : Int32), .inl (0 : Int32), .inl (10 : Int32)]) (st := [.inl (q2.1), .inl (329 : Int32), .inr 155]) (r := 48) hC (met9_byLaw hq8) yv_X9_byLaw ml_RX9_247 sh_154 rfl rfl dX9_clouded_45 (by decide) rfl rfl rfl rfl ?_
      refine V.icmp_ge (tgt := 66) (r := 51) hC dX9_clouded_48 (by decide) rfl (fun c9 => ?_) (fun c9 => ?_)
      · rw [if_pos c9] at h
        refine V.aload_n (r := 67) hC 0 dX9_clouded_66 rfl rfl ?_
        refine V.getR (k' := 155) (j := 0) (r := 70) hC xcl_9 sh_154 fl_RX9_7 dX9_clouded_67 (by decide) rfl rfl ?_
        refine V.sipush (r := 73) hC dX9_clouded_70 ks_329 rfl ?_
        refine V.iald (t := 329) (r := 74) hC sh_155 dX9_clouded_73 (by decide) (by decide) rfl ?_
        refine V.iconst (r := 75) hC dX9_clouded_74 ki_1 rfl ?_
        refine V.iload_n (r := 76) hC 1 dX9_clouded_75 rfl rfl ?_
        refine V.ishl (r := 77) hC dX9_clouded_76 rfl ?_
        refine V.iconst (r := 78) hC dX9_clouded_77 ki_m1 rfl ?_
        refine V.ixor (r := 79) hC dX9_clouded_78 rfl ?_
        refine V.iand (r := 80) hC dX9_clouded_79 rfl ?_
        refine V.pick (lv' := [(0, .inr 154), (1, .inl x1)]) [0, 1] rfl ?_
        exact v9_clouded_b80  hC hR ih _ _ _ _ h
      · rw [if_neg c9] at h
        refine V.aload_n (r := 52) hC 0 dX9_clouded_51 rfl rfl ?_
        refine V.getR (k' := 155) (j := 0) (r := 55) hC xcl_9 sh_154 fl_RX9_7 dX9_clouded_52 (by decide) rfl rfl ?_
        refine V.sipush (r := 58) hC dX9_clouded_55 ks_329 rfl ?_
        refine V.iald (t := 329) (r := 59) hC sh_155 dX9_clouded_58 (by decide) (by decide) rfl ?_
        refine V.iconst (r := 60) hC dX9_clouded_59 ki_1 rfl ?_
        refine V.iload_n (r := 61) hC 1 dX9_clouded_60 rfl rfl ?_
        refine V.ishl (r := 62) hC dX9_clouded_61 rfl ?_
        refine V.ior (r := 63) hC dX9_clouded_62 rfl ?_
        refine V.goto (tgt := 80) hC dX9_clouded_63 (by decide) ?_
        refine V.pick (lv' := [(0, .inr 154), (1, .inl x1)]) [0, 1] rfl ?_
        exact v9_clouded_b80  hC hR ih _ _ _ _ h
def g9_clouded (M : xMem) : Option (Int32 × xMem) :=
g9_clouded_b9 5000 (M 7 328) M
set_option maxHeartbeats 4000000 in
set_option maxRecDepth 20000 in
theorem v9_clouded {G : xG} (hC : xC G cX9_clouded 3 RX9 3) {R : Int32 × xMem} (hR : xRI G cX9_clouded 3 R) {M : xMem} (h : g9_clouded M = some R) : V G 3 0 [(0, .inr 154)] [] M := by
  unfold g9_clouded at h
  refine V.aload_n (r := 1) hC 0 dX9_clouded_0 rfl rfl ?_
  refine V.getR (k' := 155) (j := 0) (r := 4) hC xcl_9 sh_154 fl_RX9_7 dX9_clouded_1 (by decide) rfl rfl ?_
  refine V.sipush (r := 7) hC dX9_clouded_4 ks_328 rfl ?_
  refine V.iald (t := 328) (r := 8) hC sh_155 dX9_clouded_7 (by decide) (by decide) rfl ?_
  refine V.ist_n (lv' := [(0, .inr 154), (1, .inl (M 7 328))]) (r := 9) hC dX9_clouded_8 rfl rfl rfl ?_
  exact v9_clouded_b9  hC hR  5000 _ _ h
theorem met9_clouded {R : Int32 × xMem} {M : xMem} (h : g9_clouded M = some R) : xMet yX9_clouded cX9_clouded 3 (some .int) 3 [.inr 154] M (some R.1) R.2 := xMet.ofI (by decide +kernel) (Nat.le_of_ble_eq_true rfl) fun _ hC hR => v9_clouded  hC hR h
def g9_copies_155_157_b2 : Nat → Int32 → xMem → Option (xMem)
  | 0, _, _ => none
  | n + 1, x2, M => 
    (if (331 : Int32) ≤ x2 then
    (some M)
    else
    (if x2 < 0 ∨ 331 ≤ x2.toNatClampNeg then none else
    mset (upM M 9 x2.toNatClampNeg (M 7 x2.toNatClampNeg)) fun M3 =>
    g9_copies_155_157_b2 n (x2 + (1 : Int32)) M3))
set_option maxHeartbeats 4000000 in
set_option maxRecDepth 20000 in
theorem v9_copies_155_157_b2 {G : xG} (hC : xC G cX9_copies 3 RX9 0) {R : xMem} (hR : xRV G cX9_copies 3 R) : ∀ (n : Nat) (x2 : Int32) (M : xMem), g9_copies_155_157_b2 n x2 M = some R → V G 3 2 [(0, .inr 155), (1, .inr 157), (2, .inl x2)] [] M := by
  intro n
  induction n with
  | zero => intro x2 M h; rw [g9_copies_155_157_b2] at h; cases h
  | succ n ih =>
    intro x2 M h
    rw [g9_copies_155_157_b2] at h
    refine V.iload_n (r := 3) hC 2 dX9_copies_2 rfl rfl ?_
    refine V.sipush (r := 6) hC dX9_copies_3 ks_331 rfl ?_
    refine V.icmp_ge (tgt := 21) (r := 9) hC dX9_copies_6 (by decide) rfl (fun c1 => ?_) (fun c1 => ?_)
    · rw [if_pos c1] at h
      cases h
      exact hR _ _ dX9_copies_21
    · rw [if_neg c1] at h
      refine V.aload_n (r := 10) hC 1 dX9_copies_9 rfl rfl ?_
      refine V.iload_n (r := 11) hC 2 dX9_copies_10 rfl rfl ?_
      refine V.aload_n (r := 12) hC 0 dX9_copies_11 rfl rfl ?_
      refine V.iload_n (r := 13) hC 2 dX9_copies_12 rfl rfl ?_
      by_cases c2 : x2 < 0 ∨ 331 ≤ x2.toNatClampNeg
      · rw [if_pos c2] at h; cases h
      rw [if_neg c2] at h
      refine V.iald (t := x2.toNatClampNeg) (r := 14) hC sh_155 dX9_copies_13 c2 (Nat.zero_add _) rfl ?_
      rw [mset_eq] at h
      refine V.iast (t := x2.toNatClampNeg) (r := 15) hC sh_157 dX9_copies_14 c2 (Nat.zero_add _) rfl ?_
      generalize upM M 9 x2.toNatClampNeg (M 7 x2.toNatClampNeg) = M3 at h ⊢
      refine V.inc (lv' := [(0, .inr 155), (1, .inr 157), (2, .inl (x2 + (1 : Int32)))]) (r := 18) hC 2 dX9_copies_15 rfl ki_1 rfl rfl rfl ?_
      refine V.goto (tgt := 2) hC dX9_copies_18 (by decide) ?_
      exact ih _ _ h
def g9_copies_155_157 (M : xMem) : Option (xMem) :=
g9_copies_155_157_b2 5000 (0 : Int32) M
set_option maxHeartbeats 4000000 in
set_option maxRecDepth 20000 in
theorem v9_copies_155_157 {G : xG} (hC : xC G cX9_copies 3 RX9 0) {R : xMem} (hR : xRV G cX9_copies 3 R) {M : xMem} (h : g9_copies_155_157 M = some R) : V G 3 0 [(0, .inr 155), (1, .inr 157)] [] M := by
  unfold g9_copies_155_157 at h
  refine V.iconst (r := 1) hC dX9_copies_0 ki_0 rfl ?_
  refine V.ist_n (lv' := [(0, .inr 155), (1, .inr 157), (2, .inl (0 : Int32))]) (r := 2) hC dX9_copies_1 rfl rfl rfl ?_
  exact v9_copies_155_157_b2  hC hR  5000 _ _ h
theorem met9_copies_155_157 {R : xMem} {M : xMem} (h : g9_copies_155_157 M = some R) : xMet yX9_copies cX9_copies 3 none 0 [.inr 155, .inr 157] M none R := xMet.ofV (by decide +kernel) (Nat.le_of_ble_eq_true rfl) fun _ hC hR => v9_copies_155_157  hC hR h
def g9_keep (M : xMem) : Option (Int32 × xMem) :=
mset (upM M 196 0 (1 : Int32)) fun M1 =>
Option.bind (g9_copies_155_157 M1) fun q2 =>
Option.bind (g9_living q2) fun q4 =>
some (q4.1, q4.2)
set_option maxHeartbeats 4000000 in
set_option maxRecDepth 20000 in
theorem v9_keep {G : xG} (hC : xC G cX9_keep 1 RX9 2) {R : Int32 × xMem} (hR : xRI G cX9_keep 1 R) {M : xMem} (h : g9_keep M = some R) : V G 1 0 [(0, .inr 154)] [] M := by
  unfold g9_keep at h
  refine V.aload_n (r := 1) hC 0 dX9_keep_0 rfl rfl ?_
  refine V.iconst (r := 2) hC dX9_keep_1 ki_1 rfl ?_
  rw [mset_eq] at h
  refine V.putI (b := 196) (i := 0) (j := 36) (ty := .boolean) (r := 5) hC xcl_9 xcp_9 sh_154 fl_RX9_365 dX9_keep_2 (by decide) rfl rfl (by decide +kernel) (x01n (Or.inr rfl)) (x01f (Or.inr rfl)) rfl ?_
  generalize upM M 196 0 (1 : Int32) = M1 at h ⊢
  refine V.aload_n (r := 6) hC 0 dX9_keep_5 rfl rfl ?_
  refine V.getR (k' := 155) (j := 0) (r := 9) hC xcl_9 sh_154 fl_RX9_7 dX9_keep_6 (by decide) rfl rfl ?_
  refine V.aload_n (r := 10) hC 0 dX9_keep_9 rfl rfl ?_
  refine V.getR (k' := 157) (j := 2) (r := 13) hC xcl_9 sh_154 fl_RX9_16 dX9_keep_10 (by decide) rfl rfl ?_
  obtain ⟨q2, hq3, h⟩ := Option.bind_eq_some_iff.mp h
  try dsimp only at h
  refine V.invSv (as := [.inr 155, .inr 157]) (st := []) (r := 16) hC (met9_copies_155_157 hq3) ys_X9_copies ml_RX9_302 dX9_keep_13 (by decide) rfl rfl rfl rfl ?_
  refine V.aload_n (r := 17) hC 0 dX9_keep_16 rfl rfl ?_
  obtain ⟨q4, hq5, h⟩ := Option.bind_eq_some_iff.mp h
  try dsimp only at h
  refine V.invVi (as := []) (st := []) (r := 20) hC (met9_living hq5) yv_X9_living ml_RX9_309 sh_154 rfl rfl dX9_keep_17 (by decide) rfl rfl rfl rfl ?_
  cases h
  exact hR _ _ dX9_keep_20
theorem met9_keep {R : Int32 × xMem} {M : xMem} (h : g9_keep M = some R) : xMet yX9_keep cX9_keep 1 (some .int) 2 [.inr 154] M (some R.1) R.2 := xMet.ofI (by decide +kernel) (Nat.le_of_ble_eq_true rfl) fun _ hC hR => v9_keep  hC hR h
def g9_copies_157_155_b2 : Nat → Int32 → xMem → Option (xMem)
  | 0, _, _ => none
  | n + 1, x2, M => 
    (if (331 : Int32) ≤ x2 then
    (some M)
    else
    (if x2 < 0 ∨ 331 ≤ x2.toNatClampNeg then none else
    mset (upM M 7 x2.toNatClampNeg (M 9 x2.toNatClampNeg)) fun M3 =>
    g9_copies_157_155_b2 n (x2 + (1 : Int32)) M3))
set_option maxHeartbeats 4000000 in
set_option maxRecDepth 20000 in
theorem v9_copies_157_155_b2 {G : xG} (hC : xC G cX9_copies 3 RX9 0) {R : xMem} (hR : xRV G cX9_copies 3 R) : ∀ (n : Nat) (x2 : Int32) (M : xMem), g9_copies_157_155_b2 n x2 M = some R → V G 3 2 [(0, .inr 157), (1, .inr 155), (2, .inl x2)] [] M := by
  intro n
  induction n with
  | zero => intro x2 M h; rw [g9_copies_157_155_b2] at h; cases h
  | succ n ih =>
    intro x2 M h
    rw [g9_copies_157_155_b2] at h
    refine V.iload_n (r := 3) hC 2 dX9_copies_2 rfl rfl ?_
    refine V.sipush (r := 6) hC dX9_copies_3 ks_331 rfl ?_
    refine V.icmp_ge (tgt := 21) (r := 9) hC dX9_copies_6 (by decide) rfl (fun c1 => ?_) (fun c1 => ?_)
    · rw [if_pos c1] at h
      cases h
      exact hR _ _ dX9_copies_21
    · rw [if_neg c1] at h
      refine V.aload_n (r := 10) hC 1 dX9_copies_9 rfl rfl ?_
      refine V.iload_n (r := 11) hC 2 dX9_copies_10 rfl rfl ?_
      refine V.aload_n (r := 12) hC 0 dX9_copies_11 rfl rfl ?_
      refine V.iload_n (r := 13) hC 2 dX9_copies_12 rfl rfl ?_
      by_cases c2 : x2 < 0 ∨ 331 ≤ x2.toNatClampNeg
      · rw [if_pos c2] at h; cases h
      rw [if_neg c2] at h
      refine V.iald (t := x2.toNatClampNeg) (r := 14) hC sh_157 dX9_copies_13 c2 (Nat.zero_add _) rfl ?_
      rw [mset_eq] at h
      refine V.iast (t := x2.toNatClampNeg) (r := 15) hC sh_155 dX9_copies_14 c2 (Nat.zero_add _) rfl ?_
      generalize upM M 7 x2.toNatClampNeg (M 9 x2.toNatClampNeg) = M3 at h ⊢
      refine V.inc (lv' := [(0, .inr 157), (1, .inr 155), (2, .inl (x2 + (1 : Int32)))]) (r := 18) hC 2 dX9_copies_15 rfl ki_1 rfl rfl rfl ?_
      refine V.goto (tgt := 2) hC dX9_copies_18 (by decide) ?_
      exact ih _ _ h
def g9_copies_157_155 (M : xMem) : Option (xMem) :=
g9_copies_157_155_b2 5000 (0 : Int32) M
set_option maxHeartbeats 4000000 in
set_option maxRecDepth 20000 in
theorem v9_copies_157_155 {G : xG} (hC : xC G cX9_copies 3 RX9 0) {R : xMem} (hR : xRV G cX9_copies 3 R) {M : xMem} (h : g9_copies_157_155 M = some R) : V G 3 0 [(0, .inr 157), (1, .inr 155)] [] M := by
  unfold g9_copies_157_155 at h
  refine V.iconst (r := 1) hC dX9_copies_0 ki_0 rfl ?_
  refine V.ist_n (lv' := [(0, .inr 157), (1, .inr 155), (2, .inl (0 : Int32))]) (r := 2) hC dX9_copies_1 rfl rfl rfl ?_
  exact v9_copies_157_155_b2  hC hR  5000 _ _ h
theorem met9_copies_157_155 {R : xMem} {M : xMem} (h : g9_copies_157_155 M = some R) : xMet yX9_copies cX9_copies 3 none 0 [.inr 157, .inr 155] M none R := xMet.ofV (by decide +kernel) (Nat.le_of_ble_eq_true rfl) fun _ hC hR => v9_copies_157_155  hC hR h
def g9_undo (M : xMem) : Option (Int32 × xMem) :=
if (M 196 0) = 0 then
(some ((0 : Int32), M))
else
(Option.bind (g9_copies_157_155 M) fun q2 =>
some ((1 : Int32), q2))
set_option maxHeartbeats 4000000 in
set_option maxRecDepth 20000 in
theorem v9_undo {G : xG} (hC : xC G cX9_undo 1 RX9 1) {R : Int32 × xMem} (hR : xRZ G cX9_undo 1 R) {M : xMem} (h : g9_undo M = some R) : V G 1 0 [(0, .inr 154)] [] M := by
  unfold g9_undo at h
  refine V.aload_n (r := 1) hC 0 dX9_undo_0 rfl rfl ?_
  refine V.getI (b := 196) (i := 0) (j := 36) (r := 4) hC xcl_9 sh_154 fl_RX9_365 dX9_undo_1 (by decide) rfl rfl ?_
  refine V.if_ne (tgt := 9) (r := 7) hC dX9_undo_4 (by decide) rfl (fun c1 => ?_) (fun c1 => ?_)
  · rw [if_neg c1] at h
    refine V.aload_n (r := 10) hC 0 dX9_undo_9 rfl rfl ?_
    refine V.getR (k' := 157) (j := 2) (r := 13) hC xcl_9 sh_154 fl_RX9_16 dX9_undo_10 (by decide) rfl rfl ?_
    refine V.aload_n (r := 14) hC 0 dX9_undo_13 rfl rfl ?_
    refine V.getR (k' := 155) (j := 0) (r := 17) hC xcl_9 sh_154 fl_RX9_7 dX9_undo_14 (by decide) rfl rfl ?_
    obtain ⟨q2, hq3, h⟩ := Option.bind_eq_some_iff.mp h
    try dsimp only at h
    refine V.invSv (as := [.inr 157, .inr 155]) (st := []) (r := 20) hC (met9_copies_157_155 hq3) ys_X9_copies ml_RX9_302 dX9_undo_17 (by decide) rfl rfl rfl rfl ?_
    refine V.iconst (r := 21) hC dX9_undo_20 ki_1 rfl ?_
    cases h
    exact hR _ _ (Or.inr rfl) dX9_undo_21
  · rw [if_pos c1] at h
    refine V.iconst (r := 8) hC dX9_undo_7 ki_0 rfl ?_
    cases h
    exact hR _ _ (Or.inl rfl) dX9_undo_8
theorem met9_undo {R : Int32 × xMem} {M : xMem} (h : g9_undo M = some R) : xMet yX9_undo cX9_undo 1 (some .boolean) 1 [.inr 154] M (some R.1) R.2 := xMet.ofZ (by decide +kernel) (Nat.le_of_ble_eq_true rfl) fun _ hC hR => v9_undo  hC hR h
def g9_tapeNumber_b6 : Nat → Int32 → Int32 → Int32 → xMem → Option (Int32 × xMem)
  | 0, _, _, _, _ => none
  | n + 1, x1, x2, x3, M => 
    (if (((4 : Int32) * x1) + (4 : Int32)) ≤ x3 then
    (some (x2, M))
    else
    (if x3 < 0 ∨ 260 ≤ x3.toNatClampNeg then none else
    g9_tapeNumber_b6 n x1 ((x2 <<< ((8 : Int32) &&& 31)) ||| ((M 163 x3.toNatClampNeg) &&& (255 : Int32))) (x3 + (1 : Int32)) M))
set_option maxHeartbeats 4000000 in
set_option maxRecDepth 20000 in
theorem v9_tapeNumber_b6 {G : xG} (hC : xC G cX9_tapeNumber 4 RX9 0) {R : Int32 × xMem} (hR : xRI G cX9_tapeNumber 4 R) : ∀ (n : Nat) (x1 x2 x3 : Int32) (M : xMem), g9_tapeNumber_b6 n x1 x2 x3 M = some R → V G 4 6 [(0, .inr 154), (1, .inl x1), (2, .inl x2), (3, .inl x3)] [] M := by
  intro n
  induction n with
  | zero => intro x1 x2 x3 M h; rw [g9_tapeNumber_b6] at h; cases h
  | succ n ih =>
    intro x1 x2 x3 M h
    rw [g9_tapeNumber_b6] at h
    refine V.iload_n (r := 7) hC 3 dX9_tapeNumber_6 rfl rfl ?_
    refine V.iconst (r := 8) hC dX9_tapeNumber_7 ki_4 rfl ?_
    refine V.iload_n (r := 9) hC 1 dX9_tapeNumber_8 rfl rfl ?_
    refine V.imul (r := 10) hC dX9_tapeNumber_9 rfl ?_
    refine V.iconst (r := 11) hC dX9_tapeNumber_10 ki_4 rfl ?_
    refine V.iadd (r := 12) hC dX9_tapeNumber_11 rfl ?_
    refine V.icmp_ge (tgt := 37) (r := 15) hC dX9_tapeNumber_12 (by decide) rfl (fun c1 => ?_) (fun c1 => ?_)
    · rw [if_pos c1] at h
      refine V.iload_n (r := 38) hC 2 dX9_tapeNumber_37 rfl rfl ?_
      cases h
      exact hR _ _ dX9_tapeNumber_38
    · rw [if_neg c1] at h
      refine V.iload_n (r := 16) hC 2 dX9_tapeNumber_15 rfl rfl ?_
      refine V.bipush (r := 18) hC dX9_tapeNumber_16 kb_8 rfl ?_
      refine V.ishl (r := 19) hC dX9_tapeNumber_18 rfl ?_
      refine V.aload_n (r := 20) hC 0 dX9_tapeNumber_19 rfl rfl ?_
      refine V.getR (k' := 158) (j := 3) (r := 23) hC xcl_9 sh_154 fl_RX9_19 dX9_tapeNumber_20 (by decide) rfl rfl ?_
      refine V.iload_n (r := 24) hC 3 dX9_tapeNumber_23 rfl rfl ?_
      by_cases c2 : x3 < 0 ∨ 260 ≤ x3.toNatClampNeg
      · rw [if_pos c2] at h; cases h
      rw [if_neg c2] at h
      refine V.bald (t := x3.toNatClampNeg) (r := 25) hC sh_158 dX9_tapeNumber_24 c2 (Nat.zero_add _) rfl ?_
      refine V.sipush (r := 28) hC dX9_tapeNumber_25 ks_255 rfl ?_
      refine V.iand (r := 29) hC dX9_tapeNumber_28 rfl ?_
      refine V.ior (r := 30) hC dX9_tapeNumber_29 rfl ?_
      refine V.ist_n (lv' := [(0, .inr 154), (1, .inl x1), (2, .inl ((x2 <<< ((8 : Int32) &&& 31)) ||| ((M 163 x3.toNatClampNeg) &&& (255 : Int32)))), (3, .inl x3)]) (r := 31) hC dX9_tapeNumber_30 rfl rfl rfl ?_
      refine V.inc (lv' := [(0, .inr 154), (1, .inl x1), (2, .inl ((x2 <<< ((8 : Int32) &&& 31)) ||| ((M 163 x3.toNatClampNeg) &&& (255 : Int32)))), (3, .inl (x3 + (1 : Int32)))]) (r := 34) hC 3 dX9_tapeNumber_31 rfl ki_1 rfl rfl rfl ?_
      refine V.goto (tgt := 6) hC dX9_tapeNumber_34 (by decide) ?_
      exact ih _ _ _ _ h
def g9_tapeNumber (a0 : Int32) (M : xMem) : Option (Int32 × xMem) :=
g9_tapeNumber_b6 5000 a0 (0 : Int32) ((4 : Int32) * a0) M
set_option maxHeartbeats 4000000 in
set_option maxRecDepth 20000 in
theorem v9_tapeNumber {G : xG} (hC : xC G cX9_tapeNumber 4 RX9 0) {R : Int32 × xMem} (hR : xRI G cX9_tapeNumber 4 R) {a0 : Int32} {M : xMem} (h : g9_tapeNumber a0 M = some R) : V G 4 0 [(0, .inr 154), (1, .inl a0)] [] M := by
  unfold g9_tapeNumber at h
  refine V.iconst (r := 1) hC dX9_tapeNumber_0 ki_0 rfl ?_
  refine V.ist_n (lv' := [(0, .inr 154), (1, .inl a0), (2, .inl (0 : Int32))]) (r := 2) hC dX9_tapeNumber_1 rfl rfl rfl ?_
  refine V.iconst (r := 3) hC dX9_tapeNumber_2 ki_4 rfl ?_
  refine V.iload_n (r := 4) hC 1 dX9_tapeNumber_3 rfl rfl ?_
  refine V.imul (r := 5) hC dX9_tapeNumber_4 rfl ?_
  refine V.ist_n (lv' := [(0, .inr 154), (1, .inl a0), (2, .inl (0 : Int32)), (3, .inl ((4 : Int32) * a0))]) (r := 6) hC dX9_tapeNumber_5 rfl rfl rfl ?_
  exact v9_tapeNumber_b6  hC hR  5000 _ _ _ _ h
theorem met9_tapeNumber {R : Int32 × xMem} {a0 : Int32} {M : xMem} (h : g9_tapeNumber a0 M = some R) : xMet yX9_tapeNumber cX9_tapeNumber 4 (some .int) 0 [.inr 154, .inl a0] M (some R.1) R.2 := xMet.ofI (by decide +kernel) (Nat.le_of_ble_eq_true rfl) fun _ hC hR => v9_tapeNumber  hC hR h
def g9_check_b62 (k30 : Int32 → Int32 → xMem → Option (Int32 × xMem)) (x1 x2 s0 s1 : Int32) (M : xMem) : Option (Int32 × xMem) :=
if s0 = s1 then
(k30 x1 (x2 + (1 : Int32)) M)
else
(some (x2, M))
set_option maxHeartbeats 4000000 in
set_option maxRecDepth 20000 in
theorem v9_check_b62 {G : xG} (hC : xC G cX9_check 3 RX9 1) {R : Int32 × xMem} (hR : xRI G cX9_check 3 R) {k30 : Int32 → Int32 → xMem → Option (Int32 × xMem)} (hk30 : ∀ (y1 y2 : Int32) (N : xMem), k30 y1 y2 N = some R → V G 3 30 [(0, .inr 154), (1, .inl y1), (2, .inl y2)] [] N) (x1 x2 s0 s1 : Int32) (M : xMem) (h : g9_check_b62 k30 x1 x2 s0 s1 M = some R) : V G 3 62 [(0, .inr 154), (1, .inl x1), (2, .inl x2)] [.inl s1, .inl s0] M := by
  unfold g9_check_b62 at h
  refine V.icmp_eq (tgt := 67) (r := 65) hC dX9_check_62 (by decide) rfl (fun c13 => ?_) (fun c13 => ?_)
  · rw [if_pos c13] at h
    refine V.inc (lv' := [(0, .inr 154), (1, .inl x1), (2, .inl (x2 + (1 : Int32)))]) (r := 70) hC 2 dX9_check_67 rfl ki_1 rfl rfl rfl ?_
    refine V.goto (tgt := 30) hC dX9_check_70 (by decide) ?_
    exact hk30 _ _ _ h
  · rw [if_neg c13] at h
    refine V.iload_n (r := 66) hC 2 dX9_check_65 rfl rfl ?_
    cases h
    exact hR _ _ dX9_check_66
def g9_check_b30 : Nat → Int32 → Int32 → xMem → Option (Int32 × xMem)
  | 0, _, _, _ => none
  | n + 1, x1, x2, M => 
    (if x1 ≤ x2 then
    (some ((-1 : Int32), M))
    else
    (Option.bind (g9_tapeNumber x2 M) fun q7 =>
    Option.bind (g9_isTold x2 q7.2) fun q9 =>
    if (q9.1) = 0 then
    (g9_check_b62 (g9_check_b30 n) x1 x2 (q7.1) (0 : Int32) q9.2)
    else
    (if ((280 : Int32) + x2) < 0 ∨ 331 ≤ ((280 : Int32) + x2).toNatClampNeg then none else
    g9_check_b62 (g9_check_b30 n) x1 x2 (q7.1) (q9.2 7 ((280 : Int32) + x2).toNatClampNeg) q9.2)))
set_option maxHeartbeats 4000000 in
set_option maxRecDepth 20000 in
theorem v9_check_b30 {G : xG} (hC : xC G cX9_check 3 RX9 1) {R : Int32 × xMem} (hR : xRI G cX9_check 3 R) : ∀ (n : Nat) (x1 x2 : Int32) (M : xMem), g9_check_b30 n x1 x2 M = some R → V G 3 30 [(0, .inr 154), (1, .inl x1), (2, .inl x2)] [] M := by
  intro n
  induction n with
  | zero => intro x1 x2 M h; rw [g9_check_b30] at h; cases h
  | succ n ih =>
    intro x1 x2 M h
    rw [g9_check_b30] at h
    refine V.iload_n (r := 31) hC 2 dX9_check_30 rfl rfl ?_
    refine V.iload_n (r := 32) hC 1 dX9_check_31 rfl rfl ?_
    refine V.icmp_ge (tgt := 73) (r := 35) hC dX9_check_32 (by decide) rfl (fun c6 => ?_) (fun c6 => ?_)
    · rw [if_pos c6] at h
      refine V.iconst (r := 74) hC dX9_check_73 ki_m1 rfl ?_
      cases h
      exact hR _ _ dX9_check_74
    · rw [if_neg c6] at h
      refine V.aload_n (r := 36) hC 0 dX9_check_35 rfl rfl ?_
      refine V.iload_n (r := 37) hC 2 dX9_check_36 rfl rfl ?_
      obtain ⟨q7, hq8, h⟩ := Option.bind_eq_some_iff.mp h
      try dsimp only at h
      refine V.invVi (as := [.inl x2]) (st := []) (r := 40) hC (met9_tapeNumber hq8) yv_X9_tapeNumber ml_RX9_369 sh_154 rfl rfl dX9_check_37 (by decide) rfl rfl rfl rfl ?_
      refine V.aload_n (r := 41) hC 0 dX9_check_40 rfl rfl ?_
      refine V.iload_n (r := 42) hC 2 dX9_check_41 rfl rfl ?_
      obtain ⟨q9, hq10, h⟩ := Option.bind_eq_some_iff.mp h
      try dsimp only at h
      refine V.invVi (as := [.inl x2]) (st := [.inl (q7.1)]) (r := 45) hC (met9_isTold hq10) yv_X9_isTold ml_RX9_81 sh_154 rfl rfl dX9_check_42 (by decide) rfl rfl rfl rfl ?_
      refine V.if_eq (tgt := 61) (r := 48) hC dX9_check_45 (by decide) rfl (fun c11 => ?_) (fun c11 => ?_)
      · rw [if_pos c11] at h
        refine V.iconst (r := 62) hC dX9_check_61 ki_0 rfl ?_
        exact v9_check_b62  hC hR ih _ _ _ _ _ h
      · rw [if_neg c11] at h
        refine V.aload_n (r := 49) hC 0 dX9_check_48 rfl rfl ?_
        refine V.getR (k' := 155) (j := 0) (r := 52) hC xcl_9 sh_154 fl_RX9_7 dX9_check_49 (by decide) rfl rfl ?_
        refine V.sipush (r := 55) hC dX9_check_52 ks_280 rfl ?_
        refine V.iload_n (r := 56) hC 2 dX9_check_55 rfl rfl ?_
        refine V.iadd (r := 57) hC dX9_check_56 rfl ?_
        by_cases c12 : ((280 : Int32) + x2) < 0 ∨ 331 ≤ ((280 : Int32) + x2).toNatClampNeg
        · rw [if_pos c12] at h; cases h
        rw [if_neg c12] at h
        refine V.iald (t := ((280 : Int32) + x2).toNatClampNeg) (r := 58) hC sh_155 dX9_check_57 c12 (Nat.zero_add _) rfl ?_
        refine V.goto (tgt := 62) hC dX9_check_58 (by decide) ?_
        exact v9_check_b62  hC hR ih _ _ _ _ _ h
def g9_check (a0 : Int32) (M : xMem) : Option (Int32 × xMem) :=
Option.bind (g9_in a0 (0 : Int32) (6 : Int32) M) fun q1 =>
if (q1.1) = 0 then
(some ((-2 : Int32), q1.2))
else
(if a0 ≤ ((q1.2 164 0) / (4 : Int32)) then
(mset (upM q1.2 164 0 (0 : Int32)) fun M5 =>
g9_check_b30 5000 a0 (0 : Int32) M5)
else
(some ((-2 : Int32), q1.2)))
set_option maxHeartbeats 4000000 in
set_option maxRecDepth 20000 in
theorem v9_check {G : xG} (hC : xC G cX9_check 3 RX9 1) {R : Int32 × xMem} (hR : xRI G cX9_check 3 R) {a0 : Int32} {M : xMem} (h : g9_check a0 M = some R) : V G 3 0 [(0, .inr 154), (1, .inl a0)] [] M := by
  unfold g9_check at h
  refine V.iload_n (r := 1) hC 1 dX9_check_0 rfl rfl ?_
  refine V.iconst (r := 2) hC dX9_check_1 ki_0 rfl ?_
  refine V.bipush (r := 4) hC dX9_check_2 kb_6 rfl ?_
  obtain ⟨q1, hq2, h⟩ := Option.bind_eq_some_iff.mp h
  try dsimp only at h
  refine V.invSi (as := [.inl a0, .inl (0 : Int32), .inl (6 : Int32)]) (st := []) (r := 7) hC (met9_in hq2) ys_X9_in ml_RX9_92 dX9_check_4 (by decide) rfl rfl rfl rfl ?_
  refine V.if_eq (tgt := 20) (r := 10) hC dX9_check_7 (by decide) rfl (fun c3 => ?_) (fun c3 => ?_)
  · rw [if_pos c3] at h
    refine V.bipush (r := 22) hC dX9_check_20 kb_m2 rfl ?_
    cases h
    exact hR _ _ dX9_check_22
  · rw [if_neg c3] at h
    refine V.iload_n (r := 11) hC 1 dX9_check_10 rfl rfl ?_
    refine V.aload_n (r := 12) hC 0 dX9_check_11 rfl rfl ?_
    refine V.getI (b := 164) (i := 0) (j := 4) (r := 15) hC xcl_9 sh_154 fl_RX9_115 dX9_check_12 (by decide) rfl rfl ?_
    refine V.iconst (r := 16) hC dX9_check_15 ki_4 rfl ?_
    refine V.idiv (r := 17) hC dX9_check_16 (by decide) rfl ?_
    refine V.icmp_le (tgt := 23) (r := 20) hC dX9_check_17 (by decide) rfl (fun c4 => ?_) (fun c4 => ?_)
    · rw [if_pos c4] at h
      refine V.aload_n (r := 24) hC 0 dX9_check_23 rfl rfl ?_
      refine V.iconst (r := 25) hC dX9_check_24 ki_0 rfl ?_
      rw [mset_eq] at h
      refine V.putI (b := 164) (i := 0) (j := 4) (ty := .int) (r := 28) hC xcl_9 xcp_9 sh_154 fl_RX9_115 dX9_check_25 (by decide) rfl rfl (by decide +kernel) rfl rfl rfl ?_
      generalize upM q1.2 164 0 (0 : Int32) = M5 at h ⊢
      refine V.iconst (r := 29) hC dX9_check_28 ki_0 rfl ?_
      refine V.ist_n (lv' := [(0, .inr 154), (1, .inl a0), (2, .inl (0 : Int32))]) (r := 30) hC dX9_check_29 rfl rfl rfl ?_
      exact v9_check_b30  hC hR  5000 _ _ _ h
    · rw [if_neg c4] at h
      refine V.bipush (r := 22) hC dX9_check_20 kb_m2 rfl ?_
      cases h
      exact hR _ _ dX9_check_22
theorem met9_check {R : Int32 × xMem} {a0 : Int32} {M : xMem} (h : g9_check a0 M = some R) : xMet yX9_check cX9_check 3 (some .int) 1 [.inr 154, .inl a0] M (some R.1) R.2 := xMet.ofI (by decide +kernel) (Nat.le_of_ble_eq_true rfl) fun _ hC hR => v9_check  hC hR h
def g9_herdBits_b39 (k4 : Int32 → Int32 → Int32 → xMem → Option (Int32 × xMem)) (x1 x2 x3 : Int32) (M : xMem) : Option (Int32 × xMem) :=
k4 x1 x2 (x3 + (1 : Int32)) M
set_option maxHeartbeats 4000000 in
set_option maxRecDepth 20000 in
theorem v9_herdBits_b39 {G : xG} (hC : xC G cX9_herdBits 4 RX9 2) {R : Int32 × xMem} (hR : xRI G cX9_herdBits 4 R) {k4 : Int32 → Int32 → Int32 → xMem → Option (Int32 × xMem)} (hk4 : ∀ (y1 y2 y3 : Int32) (N : xMem), k4 y1 y2 y3 N = some R → V G 4 4 [(0, .inr 154), (1, .inl y1), (2, .inl y2), (3, .inl y3)] [] N) (x1 x2 x3 : Int32) (M : xMem) (h : g9_herdBits_b39 k4 x1 x2 x3 M = some R) : V G 4 39 [(0, .inr 154), (1, .inl x1), (2, .inl x2), (3, .inl x3)] [] M := by
  unfold g9_herdBits_b39 at h
  refine V.inc (lv' := [(0, .inr 154), (1, .inl x1), (2, .inl x2), (3, .inl (x3 + (1 : Int32)))]) (r := 42) hC 3 dX9_herdBits_39 rfl ki_1 rfl rfl rfl ?_
  refine V.goto (tgt := 4) hC dX9_herdBits_42 (by decide) ?_
  exact hk4 _ _ _ _ h
def g9_herdBits_b33 (k4 : Int32 → Int32 → Int32 → xMem → Option (Int32 × xMem)) (x1 x2 x3 : Int32) (M : xMem) : Option (Int32 × xMem) :=
g9_herdBits_b39 k4 x1 (x2 ||| ((1 : Int32) <<< (x3 &&& 31))) x3 M
set_option maxHeartbeats 4000000 in
set_option maxRecDepth 20000 in
theorem v9_herdBits_b33 {G : xG} (hC : xC G cX9_herdBits 4 RX9 2) {R : Int32 × xMem} (hR : xRI G cX9_herdBits 4 R) {k4 : Int32 → Int32 → Int32 → xMem → Option (Int32 × xMem)} (hk4 : ∀ (y1 y2 y3 : Int32) (N : xMem), k4 y1 y2 y3 N = some R → V G 4 4 [(0, .inr 154), (1, .inl y1), (2, .inl y2), (3, .inl y3)] [] N) (x1 x2 x3 : Int32) (M : xMem) (h : g9_herdBits_b33 k4 x1 x2 x3 M = some R) : V G 4 33 [(0, .inr 154), (1, .inl x1), (2, .inl x2), (3, .inl x3)] [] M := by
  unfold g9_herdBits_b33 at h
  refine V.iload_n (r := 34) hC 2 dX9_herdBits_33 rfl rfl ?_
  refine V.iconst (r := 35) hC dX9_herdBits_34 ki_1 rfl ?_
  refine V.iload_n (r := 36) hC 3 dX9_herdBits_35 rfl rfl ?_
  refine V.ishl (r := 37) hC dX9_herdBits_36 rfl ?_
  refine V.ior (r := 38) hC dX9_herdBits_37 rfl ?_
  refine V.ist_n (lv' := [(0, .inr 154), (1, .inl x1), (2, .inl (x2 ||| ((1 : Int32) <<< (x3 &&& 31)))), (3, .inl x3)]) (r := 39) hC dX9_herdBits_38 rfl rfl rfl ?_
  exact v9_herdBits_b39  hC hR hk4 _ _ _ _ h
def g9_herdBits_b4 : Nat → Int32 → Int32 → Int32 → xMem → Option (Int32 × xMem)
  | 0, _, _, _, _ => none
  | n + 1, x1, x2, x3, M => 
    (if (6 : Int32) ≤ x3 then
    (some (x2, M))
    else
    (if x1 = 0 then
    (Option.bind (g9_isTold x3 M) fun q3 =>
    if (q3.1) = 0 then
    (g9_herdBits_b39 (g9_herdBits_b4 n) x1 x2 x3 q3.2)
    else
    (g9_herdBits_b33 (g9_herdBits_b4 n) x1 x2 x3 q3.2))
    else
    (Option.bind (g9_isOn x3 M) fun q6 =>
    if (q6.1) = 0 then
    (g9_herdBits_b39 (g9_herdBits_b4 n) x1 x2 x3 q6.2)
    else
    (g9_herdBits_b33 (g9_herdBits_b4 n) x1 x2 x3 q6.2))))
set_option maxHeartbeats 4000000 in
set_option maxRecDepth 20000 in
theorem v9_herdBits_b4 {G : xG} (hC : xC G cX9_herdBits 4 RX9 2) {R : Int32 × xMem} (hR : xRI G cX9_herdBits 4 R) : ∀ (n : Nat) (x1 x2 x3 : Int32) (M : xMem), g9_herdBits_b4 n x1 x2 x3 M = some R → V G 4 4 [(0, .inr 154), (1, .inl x1), (2, .inl x2), (3, .inl x3)] [] M := by
  intro n
  induction n with
  | zero => intro x1 x2 x3 M h; rw [g9_herdBits_b4] at h; cases h
  | succ n ih =>
    intro x1 x2 x3 M h
    rw [g9_herdBits_b4] at h
    refine V.iload_n (r := 5) hC 3 dX9_herdBits_4 rfl rfl ?_
    refine V.bipush (r := 7) hC dX9_herdBits_5 kb_6 rfl ?_
    refine V.icmp_ge (tgt := 45) (r := 10) hC dX9_herdBits_7 (by decide) rfl (fun c1 => ?_) (fun c1 => ?_)
    · rw [if_pos c1] at h
      refine V.iload_n (r := 46) hC 2 dX9_herdBits_45 rfl rfl ?_
      cases h
      exact hR _ _ dX9_herdBits_46
    · rw [if_neg c1] at h
      refine V.iload_n (r := 11) hC 1 dX9_herdBits_10 rfl rfl ?_
      refine V.if_eq (tgt := 25) (r := 14) hC dX9_herdBits_11 (by decide) rfl (fun c2 => ?_) (fun c2 => ?_)
      · rw [if_pos c2] at h
        refine V.aload_n (r := 26) hC 0 dX9_herdBits_25 rfl rfl ?_
        refine V.iload_n (r := 27) hC 3 dX9_herdBits_26 rfl rfl ?_
        obtain ⟨q3, hq4, h⟩ := Option.bind_eq_some_iff.mp h
        try dsimp only at h
        refine V.invVi (as := [.inl x3]) (st := []) (r := 30) hC (met9_isTold hq4) yv_X9_isTold ml_RX9_81 sh_154 rfl rfl dX9_herdBits_27 (by decide) rfl rfl rfl rfl ?_
        refine V.if_eq (tgt := 39) (r := 33) hC dX9_herdBits_30 (by decide) rfl (fun c5 => ?_) (fun c5 => ?_)
        · rw [if_pos c5] at h
          exact v9_herdBits_b39  hC hR ih _ _ _ _ h
        · rw [if_neg c5] at h
          exact v9_herdBits_b33  hC hR ih _ _ _ _ h
      · rw [if_neg c2] at h
        refine V.aload_n (r := 15) hC 0 dX9_herdBits_14 rfl rfl ?_
        refine V.iload_n (r := 16) hC 3 dX9_herdBits_15 rfl rfl ?_
        obtain ⟨q6, hq7, h⟩ := Option.bind_eq_some_iff.mp h
        try dsimp only at h
        refine V.invVi (as := [.inl x3]) (st := []) (r := 19) hC (met9_isOn hq7) yv_X9_isOn ml_RX9_85 sh_154 rfl rfl dX9_herdBits_16 (by decide) rfl rfl rfl rfl ?_
        refine V.if_eq (tgt := 39) (r := 22) hC dX9_herdBits_19 (by decide) rfl (fun c8 => ?_) (fun c8 => ?_)
        · rw [if_pos c8] at h
          exact v9_herdBits_b39  hC hR ih _ _ _ _ h
        · rw [if_neg c8] at h
          refine V.goto (tgt := 33) hC dX9_herdBits_22 (by decide) ?_
          exact v9_herdBits_b33  hC hR ih _ _ _ _ h
def g9_herdBits (a0 : Int32) (M : xMem) : Option (Int32 × xMem) :=
g9_herdBits_b4 5000 a0 (0 : Int32) (0 : Int32) M
set_option maxHeartbeats 4000000 in
set_option maxRecDepth 20000 in
theorem v9_herdBits {G : xG} (hC : xC G cX9_herdBits 4 RX9 2) {R : Int32 × xMem} (hR : xRI G cX9_herdBits 4 R) {a0 : Int32} {M : xMem} (h : g9_herdBits a0 M = some R) : V G 4 0 [(0, .inr 154), (1, .inl a0)] [] M := by
  unfold g9_herdBits at h
  refine V.iconst (r := 1) hC dX9_herdBits_0 ki_0 rfl ?_
  refine V.ist_n (lv' := [(0, .inr 154), (1, .inl a0), (2, .inl (0 : Int32))]) (r := 2) hC dX9_herdBits_1 rfl rfl rfl ?_
  refine V.iconst (r := 3) hC dX9_herdBits_2 ki_0 rfl ?_
  refine V.ist_n (lv' := [(0, .inr 154), (1, .inl a0), (2, .inl (0 : Int32)), (3, .inl (0 : Int32))]) (r := 4) hC dX9_herdBits_3 rfl rfl rfl ?_
  exact v9_herdBits_b4  hC hR  5000 _ _ _ _ h
theorem met9_herdBits {R : Int32 × xMem} {a0 : Int32} {M : xMem} (h : g9_herdBits a0 M = some R) : xMet yX9_herdBits cX9_herdBits 4 (some .int) 2 [.inr 154, .inl a0] M (some R.1) R.2 := xMet.ofI (by decide +kernel) (Nat.le_of_ble_eq_true rfl) fun _ hC hR => v9_herdBits  hC hR h
def g9_litBits_b24 (k4 : Int32 → Int32 → xMem → Option (Int32 × xMem)) (x1 x2 : Int32) (M : xMem) : Option (Int32 × xMem) :=
k4 x1 (x2 + (1 : Int32)) M
set_option maxHeartbeats 4000000 in
set_option maxRecDepth 20000 in
theorem v9_litBits_b24 {G : xG} (hC : xC G cX9_litBits 3 RX9 3) {R : Int32 × xMem} (hR : xRI G cX9_litBits 3 R) {k4 : Int32 → Int32 → xMem → Option (Int32 × xMem)} (hk4 : ∀ (y1 y2 : Int32) (N : xMem), k4 y1 y2 N = some R → V G 3 4 [(0, .inr 154), (1, .inl y1), (2, .inl y2)] [] N) (x1 x2 : Int32) (M : xMem) (h : g9_litBits_b24 k4 x1 x2 M = some R) : V G 3 24 [(0, .inr 154), (1, .inl x1), (2, .inl x2)] [] M := by
  unfold g9_litBits_b24 at h
  refine V.inc (lv' := [(0, .inr 154), (1, .inl x1), (2, .inl (x2 + (1 : Int32)))]) (r := 27) hC 2 dX9_litBits_24 rfl ki_1 rfl rfl rfl ?_
  refine V.goto (tgt := 4) hC dX9_litBits_27 (by decide) ?_
  exact hk4 _ _ _ h
def g9_litBits_b4 : Nat → Int32 → Int32 → xMem → Option (Int32 × xMem)
  | 0, _, _, _ => none
  | n + 1, x1, x2, M => 
    (if (18 : Int32) ≤ x2 then
    (some (x1, M))
    else
    (Option.bind (g9_isLit x2 M) fun q2 =>
    if (q2.1) = 0 then
    (g9_litBits_b24 (g9_litBits_b4 n) x1 x2 q2.2)
    else
    (g9_litBits_b24 (g9_litBits_b4 n) (x1 ||| ((1 : Int32) <<< (x2 &&& 31))) x2 q2.2)))
set_option maxHeartbeats 4000000 in
set_option maxRecDepth 20000 in
theorem v9_litBits_b4 {G : xG} (hC : xC G cX9_litBits 3 RX9 3) {R : Int32 × xMem} (hR : xRI G cX9_litBits 3 R) : ∀ (n : Nat) (x1 x2 : Int32) (M : xMem), g9_litBits_b4 n x1 x2 M = some R → V G 3 4 [(0, .inr 154), (1, .inl x1), (2, .inl x2)] [] M := by
  intro n
  induction n with
  | zero => intro x1 x2 M h; rw [g9_litBits_b4] at h; cases h
  | succ n ih =>
    intro x1 x2 M h
    rw [g9_litBits_b4] at h
    refine V.iload_n (r := 5) hC 2 dX9_litBits_4 rfl rfl ?_
    refine V.bipush (r := 7) hC dX9_litBits_5 kb_18 rfl ?_
    refine V.icmp_ge (tgt := 30) (r := 10) hC dX9_litBits_7 (by decide) rfl (fun c1 => ?_) (fun c1 => ?_)
    · rw [if_pos c1] at h
      refine V.iload_n (r := 31) hC 1 dX9_litBits_30 rfl rfl ?_
      cases h
      exact hR _ _ dX9_litBits_31
    · rw [if_neg c1] at h
      refine V.aload_n (r := 11) hC 0 dX9_litBits_10 rfl rfl ?_
      refine V.iload_n (r := 12) hC 2 dX9_litBits_11 rfl rfl ?_
      obtain ⟨q2, hq3, h⟩ := Option.bind_eq_some_iff.mp h
      try dsimp only at h
      refine V.invVi (as := [.inl x2]) (st := []) (r := 15) hC (met9_isLit hq3) yv_X9_isLit ml_RX9_253 sh_154 rfl rfl dX9_litBits_12 (by decide) rfl rfl rfl rfl ?_
      refine V.if_eq (tgt := 24) (r := 18) hC dX9_litBits_15 (by decide) rfl (fun c4 => ?_) (fun c4 => ?_)
      · rw [if_pos c4] at h
        exact v9_litBits_b24  hC hR ih _ _ _ h
      · rw [if_neg c4] at h
        refine V.iload_n (r := 19) hC 1 dX9_litBits_18 rfl rfl ?_
        refine V.iconst (r := 20) hC dX9_litBits_19 ki_1 rfl ?_
        refine V.iload_n (r := 21) hC 2 dX9_litBits_20 rfl rfl ?_
        refine V.ishl (r := 22) hC dX9_litBits_21 rfl ?_
        refine V.ior (r := 23) hC dX9_litBits_22 rfl ?_
        refine V.ist_n (lv' := [(0, .inr 154), (1, .inl (x1 ||| ((1 : Int32) <<< (x2 &&& 31)))), (2, .inl x2)]) (r := 24) hC dX9_litBits_23 rfl rfl rfl ?_
        exact v9_litBits_b24  hC hR ih _ _ _ h
def g9_litBits (M : xMem) : Option (Int32 × xMem) :=
g9_litBits_b4 5000 (0 : Int32) (0 : Int32) M
set_option maxHeartbeats 4000000 in
set_option maxRecDepth 20000 in
theorem v9_litBits {G : xG} (hC : xC G cX9_litBits 3 RX9 3) {R : Int32 × xMem} (hR : xRI G cX9_litBits 3 R) {M : xMem} (h : g9_litBits M = some R) : V G 3 0 [(0, .inr 154)] [] M := by
  unfold g9_litBits at h
  refine V.iconst (r := 1) hC dX9_litBits_0 ki_0 rfl ?_
  refine V.ist_n (lv' := [(0, .inr 154), (1, .inl (0 : Int32))]) (r := 2) hC dX9_litBits_1 rfl rfl rfl ?_
  refine V.iconst (r := 3) hC dX9_litBits_2 ki_0 rfl ?_
  refine V.ist_n (lv' := [(0, .inr 154), (1, .inl (0 : Int32)), (2, .inl (0 : Int32))]) (r := 4) hC dX9_litBits_3 rfl rfl rfl ?_
  exact v9_litBits_b4  hC hR  5000 _ _ _ h
theorem met9_litBits {R : Int32 × xMem} {M : xMem} (h : g9_litBits M = some R) : xMet yX9_litBits cX9_litBits 3 (some .int) 3 [.inr 154] M (some R.1) R.2 := xMet.ofI (by decide +kernel) (Nat.le_of_ble_eq_true rfl) fun _ hC hR => v9_litBits  hC hR h
def g9_count (a0 : Int32) (M : xMem) : Option (Int32 × xMem) :=
if a0 = (0 : Int32) then
(some (M 7 327, M))
else
if a0 = (1 : Int32) then
(some (M 7 328, M))
else
if a0 = (2 : Int32) then
(some (M 7 329, M))
else
if a0 = (3 : Int32) then
(some (M 173 0, M))
else
if a0 = (4 : Int32) then
(some (M 164 0, M))
else
if a0 = (5 : Int32) then
(some (M 7 330, M))
else
if a0 = (6 : Int32) then
(Option.bind (g9_herdBits (0 : Int32) M) fun q8 =>
some (q8.1, q8.2))
else
if a0 = (7 : Int32) then
(Option.bind (g9_herdBits (1 : Int32) M) fun q11 =>
some (q11.1, q11.2))
else
if a0 = (8 : Int32) then
(Option.bind (g9_litBits M) fun q14 =>
some (q14.1, q14.2))
else
if a0 = (9 : Int32) then
(Option.bind (g9_living M) fun q17 =>
some (q17.1, q17.2))
else
(Option.bind (g9_in a0 (10 : Int32) (13 : Int32) M) fun q19 =>
if (q19.1) = 0 then
(Option.bind (g9_in a0 (100 : Int32) (295 : Int32) q19.2) fun q22 =>
if (q22.1) = 0 then
(some ((-1 : Int32), q22.2))
else
(if (((0 : Int32) + a0) - (100 : Int32)) < 0 ∨ 331 ≤ (((0 : Int32) + a0) - (100 : Int32)).toNatClampNeg then none else
some (q22.2 7 (((0 : Int32) + a0) - (100 : Int32)).toNatClampNeg, q22.2)))
else
(if (((304 : Int32) + a0) - (10 : Int32)) < 0 ∨ 331 ≤ (((304 : Int32) + a0) - (10 : Int32)).toNatClampNeg then none else
some (q19.2 7 (((304 : Int32) + a0) - (10 : Int32)).toNatClampNeg, q19.2)))
set_option maxHeartbeats 4000000 in
set_option maxRecDepth 20000 in
theorem v9_count {G : xG} (hC : xC G cX9_count 2 RX9 4) {R : Int32 × xMem} (hR : xRI G cX9_count 2 R) {a0 : Int32} {M : xMem} (h : g9_count a0 M = some R) : V G 2 0 [(0, .inr 154), (1, .inl a0)] [] M := by
  unfold g9_count at h
  refine V.iload_n (r := 1) hC 1 dX9_count_0 rfl rfl ?_
  by_cases c1 : a0 = (0 : Int32)
  · rw [if_pos c1] at h
    refine V.tabIn (off := 55) (tgt := 56) hC dX9_count_1 c1 (by decide) (by decide) (by decide) (by decide) ?_
    refine V.aload_n (r := 57) hC 0 dX9_count_56 rfl rfl ?_
    refine V.getR (k' := 155) (j := 0) (r := 60) hC xcl_9 sh_154 fl_RX9_7 dX9_count_57 (by decide) rfl rfl ?_
    refine V.sipush (r := 63) hC dX9_count_60 ks_327 rfl ?_
    refine V.iald (t := 327) (r := 64) hC sh_155 dX9_count_63 (by decide) (by decide) rfl ?_
    cases h
    exact hR _ _ dX9_count_64
  rw [if_neg c1] at h
  by_cases c2 : a0 = (1 : Int32)
  · rw [if_pos c2] at h
    refine V.tabIn (off := 64) (tgt := 65) hC dX9_count_1 c2 (by decide) (by decide) (by decide) (by decide) ?_
    refine V.aload_n (r := 66) hC 0 dX9_count_65 rfl rfl ?_
    refine V.getR (k' := 155) (j := 0) (r := 69) hC xcl_9 sh_154 fl_RX9_7 dX9_count_66 (by decide) rfl rfl ?_
    refine V.sipush (r := 72) hC dX9_count_69 ks_328 rfl ?_
    refine V.iald (t := 328) (r := 73) hC sh_155 dX9_count_72 (by decide) (by decide) rfl ?_
    cases h
    exact hR _ _ dX9_count_73
  rw [if_neg c2] at h
  by_cases c3 : a0 = (2 : Int32)
  · rw [if_pos c3] at h
    refine V.tabIn (off := 73) (tgt := 74) hC dX9_count_1 c3 (by decide) (by decide) (by decide) (by decide) ?_
    refine V.aload_n (r := 75) hC 0 dX9_count_74 rfl rfl ?_
    refine V.getR (k' := 155) (j := 0) (r := 78) hC xcl_9 sh_154 fl_RX9_7 dX9_count_75 (by decide) rfl rfl ?_
    refine V.sipush (r := 81) hC dX9_count_78 ks_329 rfl ?_
    refine V.iald (t := 329) (r := 82) hC sh_155 dX9_count_81 (by decide) (by decide) rfl ?_
    cases h
    exact hR _ _ dX9_count_82
  rw [if_neg c3] at h
  by_cases c4 : a0 = (3 : Int32)
  · rw [if_pos c4] at h
    refine V.tabIn (off := 82) (tgt := 83) hC dX9_count_1 c4 (by decide) (by decide) (by decide) (by decide) ?_
    refine V.aload_n (r := 84) hC 0 dX9_count_83 rfl rfl ?_
    refine V.getI (b := 173) (i := 0) (j := 13) (r := 87) hC xcl_9 sh_154 fl_RX9_215 dX9_count_84 (by decide) rfl rfl ?_
    cases h
    exact hR _ _ dX9_count_87
  rw [if_neg c4] at h
  by_cases c5 : a0 = (4 : Int32)
  · rw [if_pos c5] at h
    refine V.tabIn (off := 87) (tgt := 88) hC dX9_count_1 c5 (by decide) (by decide) (by decide) (by decide) ?_
    refine V.aload_n (r := 89) hC 0 dX9_count_88 rfl rfl ?_
    refine V.getI (b := 164) (i := 0) (j := 4) (r := 92) hC xcl_9 sh_154 fl_RX9_115 dX9_count_89 (by decide) rfl rfl ?_
    cases h
    exact hR _ _ dX9_count_92
  rw [if_neg c5] at h
  by_cases c6 : a0 = (5 : Int32)
  · rw [if_pos c6] at h
    refine V.tabIn (off := 92) (tgt := 93) hC dX9_count_1 c6 (by decide) (by decide) (by decide) (by decide) ?_
    refine V.aload_n (r := 94) hC 0 dX9_count_93 rfl rfl ?_
    refine V.getR (k' := 155) (j := 0) (r := 97) hC xcl_9 sh_154 fl_RX9_7 dX9_count_94 (by decide) rfl rfl ?_
    refine V.sipush (r := 100) hC dX9_count_97 ks_330 rfl ?_
    refine V.iald (t := 330) (r := 101) hC sh_155 dX9_count_100 (by decide) (by decide) rfl ?_
    cases h
    exact hR _ _ dX9_count_101
  rw [if_neg c6] at h
  by_cases c7 : a0 = (6 : Int32)
  · rw [if_pos c7] at h
    refine V.tabIn (off := 101) (tgt := 102) hC dX9_count_1 c7 (by decide) (by decide) (by decide) (by decide) ?_
    refine V.aload_n (r := 103) hC 0 dX9_count_102 rfl rfl ?_
    refine V.iconst (r := 104) hC dX9_count_103 ki_0 rfl ?_
    obtain ⟨q8, hq9, h⟩ := Option.bind_eq_some_iff.mp h
    try dsimp only at h
    refine V.invVi (as := [.inl (0 : Int32)]) (st := []) (r := 107) hC (met9_herdBits hq9) yv_X9_herdBits ml_RX9_372 sh_154 rfl rfl dX9_count_104 (by decide) rfl rfl rfl rfl ?_
    cases h
    exact hR _ _ dX9_count_107
  rw [if_neg c7] at h
  by_cases c10 : a0 = (7 : Int32)
  · rw [if_pos c10] at h
    refine V.tabIn (off := 107) (tgt := 108) hC dX9_count_1 c10 (by decide) (by decide) (by decide) (by decide) ?_
    refine V.aload_n (r := 109) hC 0 dX9_count_108 rfl rfl ?_
    refine V.iconst (r := 110) hC dX9_count_109 ki_1 rfl ?_
    obtain ⟨q11, hq12, h⟩ := Option.bind_eq_some_iff.mp h
    try dsimp only at h
    refine V.invVi (as := [.inl (1 : Int32)]) (st := []) (r := 113) hC (met9_herdBits hq12) yv_X9_herdBits ml_RX9_372 sh_154 rfl rfl dX9_count_110 (by decide) rfl rfl rfl rfl ?_
    cases h
    exact hR _ _ dX9_count_113
  rw [if_neg c10] at h
  by_cases c13 : a0 = (8 : Int32)
  · rw [if_pos c13] at h
    refine V.tabIn (off := 113) (tgt := 114) hC dX9_count_1 c13 (by decide) (by decide) (by decide) (by decide) ?_
    refine V.aload_n (r := 115) hC 0 dX9_count_114 rfl rfl ?_
    obtain ⟨q14, hq15, h⟩ := Option.bind_eq_some_iff.mp h
    try dsimp only at h
    refine V.invVi (as := []) (st := []) (r := 118) hC (met9_litBits hq15) yv_X9_litBits ml_RX9_376 sh_154 rfl rfl dX9_count_115 (by decide) rfl rfl rfl rfl ?_
    cases h
    exact hR _ _ dX9_count_118
  rw [if_neg c13] at h
  by_cases c16 : a0 = (9 : Int32)
  · rw [if_pos c16] at h
    refine V.tabIn (off := 118) (tgt := 119) hC dX9_count_1 c16 (by decide) (by decide) (by decide) (by decide) ?_
    refine V.aload_n (r := 120) hC 0 dX9_count_119 rfl rfl ?_
    obtain ⟨q17, hq18, h⟩ := Option.bind_eq_some_iff.mp h
    try dsimp only at h
    refine V.invVi (as := []) (st := []) (r := 123) hC (met9_living hq18) yv_X9_living ml_RX9_309 sh_154 rfl rfl dX9_count_120 (by decide) rfl rfl rfl rfl ?_
    cases h
    exact hR _ _ dX9_count_123
  rw [if_neg c16] at h
  refine V.tabOut (tgt := 124) hC dX9_count_1 (by have e0 := lv_neT c1 (show ((0 : Int32)).toInt = 0 by decide); have e1 := lv_neT c2 (show ((1 : Int32)).toInt = 1 by decide); have e2 := lv_neT c3 (show ((2 : Int32)).toInt = 2 by decide); have e3 := lv_neT c4 (show ((3 : Int32)).toInt = 3 by decide); have e4 := lv_neT c5 (show ((4 : Int32)).toInt = 4 by decide); have e5 := lv_neT c6 (show ((5 : Int32)).toInt = 5 by decide); have e6 := lv_neT c7 (show ((6 : Int32)).toInt = 6 by decide); have e7 := lv_neT c10 (show ((7 : Int32)).toInt = 7 by decide); have e8 := lv_neT c13 (show ((8 : Int32)).toInt = 8 by decide); have e9 := lv_neT c16 (show ((9 : Int32)).toInt = 9 by decide); omega) (by decide) ?_
  refine V.iload_n (r := 125) hC 1 dX9_count_124 rfl rfl ?_
  refine V.bipush (r := 127) hC dX9_count_125 kb_10 rfl ?_
  refine V.bipush (r := 129) hC dX9_count_127 kb_13 rfl ?_
  obtain ⟨q19, hq20, h⟩ := Option.bind_eq_some_iff.mp h
  try dsimp only at h
  refine V.invSi (as := [.inl a0, .inl (10 : Int32), .inl (13 : Int32)]) (st := []) (r := 132) hC (met9_in hq20) ys_X9_in ml_RX9_92 dX9_count_129 (by decide) rfl rfl rfl rfl ?_
  refine V.if_eq (tgt := 149) (r := 135) hC dX9_count_132 (by decide) rfl (fun c21 => ?_) (fun c21 => ?_)
  · rw [if_pos c21] at h
    refine V.iload_n (r := 150) hC 1 dX9_count_149 rfl rfl ?_
    refine V.bipush (r := 152) hC dX9_count_150 kb_100 rfl ?_
    refine V.sipush (r := 155) hC dX9_count_152 ks_295 rfl ?_
    obtain ⟨q22, hq23, h⟩ := Option.bind_eq_some_iff.mp h
    try dsimp only at h
    refine V.invSi (as := [.inl a0, .inl (100 : Int32), .inl (295 : Int32)]) (st := []) (r := 158) hC (met9_in hq23) ys_X9_in ml_RX9_92 dX9_count_155 (by decide) rfl rfl rfl rfl ?_
    refine V.if_eq (tgt := 175) (r := 161) hC dX9_count_158 (by decide) rfl (fun c24 => ?_) (fun c24 => ?_)
    · rw [if_pos c24] at h
      refine V.iconst (r := 176) hC dX9_count_175 ki_m1 rfl ?_
      cases h
      exact hR _ _ dX9_count_176
    · rw [if_neg c24] at h
      refine V.aload_n (r := 162) hC 0 dX9_count_161 rfl rfl ?_
      refine V.getR (k' := 155) (j := 0) (r := 165) hC xcl_9 sh_154 fl_RX9_7 dX9_count_162 (by decide) rfl rfl ?_
      refine V.iconst (r := 166) hC dX9_count_165 ki_0 rfl ?_
      refine V.iload_n (r := 167) hC 1 dX9_count_166 rfl rfl ?_
      refine V.iadd (r := 168) hC dX9_count_167 rfl ?_
      refine V.bipush (r := 170) hC dX9_count_168 kb_100 rfl ?_
      refine V.isub (r := 171) hC dX9_count_170 rfl ?_
      by_cases c25 : (((0 : Int32) + a0) - (100 : Int32)) < 0 ∨ 331 ≤ (((0 : Int32) + a0) - (100 : Int32)).toNatClampNeg
      · rw [if_pos c25] at h; cases h
      rw [if_neg c25] at h
      refine V.iald (t := (((0 : Int32) + a0) - (100 : Int32)).toNatClampNeg) (r := 172) hC sh_155 dX9_count_171 c25 (Nat.zero_add _) rfl ?_
      refine V.goto (tgt := 176) hC dX9_count_172 (by decide) ?_
      cases h
      exact hR _ _ dX9_count_176
  · rw [if_neg c21] at h
    refine V.aload_n (r := 136) hC 0 dX9_count_135 rfl rfl ?_
    refine V.getR (k' := 155) (j := 0) (r := 139) hC xcl_9 sh_154 fl_RX9_7 dX9_count_136 (by decide) rfl rfl ?_
    refine V.sipush (r := 142) hC dX9_count_139 ks_304 rfl ?_
    refine V.iload_n (r := 143) hC 1 dX9_count_142 rfl rfl ?_
    refine V.iadd (r := 144) hC dX9_count_143 rfl ?_
    refine V.bipush (r := 146) hC dX9_count_144 kb_10 rfl ?_
    refine V.isub (r := 147) hC dX9_count_146 rfl ?_
    by_cases c26 : (((304 : Int32) + a0) - (10 : Int32)) < 0 ∨ 331 ≤ (((304 : Int32) + a0) - (10 : Int32)).toNatClampNeg
    · rw [if_pos c26] at h; cases h
    rw [if_neg c26] at h
    refine V.iald (t := (((304 : Int32) + a0) - (10 : Int32)).toNatClampNeg) (r := 148) hC sh_155 dX9_count_147 c26 (Nat.zero_add _) rfl ?_
    cases h
    exact hR _ _ dX9_count_148
theorem met9_count {R : Int32 × xMem} {a0 : Int32} {M : xMem} (h : g9_count a0 M = some R) : xMet yX9_count cX9_count 2 (some .int) 4 [.inr 154, .inl a0] M (some R.1) R.2 := xMet.ofI (by decide +kernel) (Nat.le_of_ble_eq_true rfl) fun _ hC hR => v9_count  hC hR h
