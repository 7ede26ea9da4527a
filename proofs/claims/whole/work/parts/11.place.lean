-- 11.place
def gJ0_isLatin1_aae02_1010 (M : xMem) : Option (Int32 × xMem) :=
some ((1 : Int32), M)
set_option maxHeartbeats 4000000 in
set_option maxRecDepth 20000 in
theorem vJ0_isLatin1_aae02_1010 {G : xG} (hC : xC G cJ0_isLatin1_aae02 1 RJ0 0) {R : Int32 × xMem} (hR : xRZ G cJ0_isLatin1_aae02 1 R) {M : xMem} (h : gJ0_isLatin1_aae02_1010 M = some R) : V G 1 0 [(0, .inr 1010)] [] M := by
  unfold gJ0_isLatin1_aae02_1010 at h
  refine V.gcomp (r := 3) hC sf_38 dJ0_isLatin1_aae02_0 rfl ?_
  refine V.if_eq (tgt := 17) (r := 6) hC dJ0_isLatin1_aae02_3 (by decide) rfl (fun c => ?_) (fun c => ?_)
  · exact absurd c (by decide)
  · skip
    refine V.aload_n (r := 7) hC 0 dJ0_isLatin1_aae02_6 rfl rfl ?_
    refine V.sgetC (j := 0) (r := 10) hC (by decide) sf_15 dJ0_isLatin1_aae02_7 rfl ?_
    refine V.if_ne (tgt := 17) (r := 13) hC dJ0_isLatin1_aae02_10 (by decide) rfl (fun c => ?_) (fun c => ?_)
    · exact absurd c (by decide)
    · skip
      refine V.iconst (r := 14) hC dJ0_isLatin1_aae02_13 ki_1 rfl ?_
      refine V.goto (tgt := 18) hC dJ0_isLatin1_aae02_14 (by decide) ?_
      cases h
      exact hR _ _ (Or.inr rfl) dJ0_isLatin1_aae02_18
theorem metJ0_isLatin1_aae02_1010 {R : Int32 × xMem} {M : xMem} (h : gJ0_isLatin1_aae02_1010 M = some R) : xMet yJ0_isLatin1_aae02 cJ0_isLatin1_aae02 1 (some .boolean) 0 [.inr 1010] M (some R.1) R.2 := xMet.ofZ (by decide +kernel) (Nat.le_of_ble_eq_true rfl) fun _ hC hR => vJ0_isLatin1_aae02_1010  hC hR h
def gJ0_coder_7d493_1010 (M : xMem) : Option (Int32 × xMem) :=
some (0, M)
set_option maxHeartbeats 4000000 in
set_option maxRecDepth 20000 in
theorem vJ0_coder_7d493_1010 {G : xG} (hC : xC G cJ0_coder_7d493 1 RJ0 0) {R : Int32 × xMem} (hR : xRZ G cJ0_coder_7d493 1 R) {M : xMem} (h : gJ0_coder_7d493_1010 M = some R) : V G 1 0 [(0, .inr 1010)] [] M := by
  unfold gJ0_coder_7d493_1010 at h
  refine V.gcomp (r := 3) hC sf_38 dJ0_coder_7d493_0 rfl ?_
  refine V.if_eq (tgt := 13) (r := 6) hC dJ0_coder_7d493_3 (by decide) rfl (fun c => ?_) (fun c => ?_)
  · exact absurd c (by decide)
  · skip
    refine V.aload_n (r := 7) hC 0 dJ0_coder_7d493_6 rfl rfl ?_
    refine V.sgetC (j := 0) (r := 10) hC (by decide) sf_15 dJ0_coder_7d493_7 rfl ?_
    refine V.goto (tgt := 14) hC dJ0_coder_7d493_10 (by decide) ?_
    cases h
    exact hR _ _ (Or.inl rfl) dJ0_coder_7d493_14
theorem metJ0_coder_7d493_1010 {R : Int32 × xMem} {M : xMem} (h : gJ0_coder_7d493_1010 M = some R) : xMet yJ0_coder_7d493 cJ0_coder_7d493 1 (some .byte) 0 [.inr 1010] M (some R.1) R.2 := xMet.ofB (by decide +kernel) (Nat.le_of_ble_eq_true rfl) fun _ hC hR => vJ0_coder_7d493_1010  hC hR h
def gJ0_length_8abf5_1010 (M : xMem) : Option (Int32 × xMem) :=
Option.bind (gJ0_coder_7d493_1010 M) fun q1 =>
some ((8 : Int32) >>> ((q1.1) &&& 31), q1.2)
set_option maxHeartbeats 4000000 in
set_option maxRecDepth 20000 in
theorem vJ0_length_8abf5_1010 {G : xG} (hC : xC G cJ0_length_8abf5 1 RJ0 1) {R : Int32 × xMem} (hR : xRI G cJ0_length_8abf5 1 R) {M : xMem} (h : gJ0_length_8abf5_1010 M = some R) : V G 1 0 [(0, .inr 1010)] [] M := by
  unfold gJ0_length_8abf5_1010 at h
  refine V.aload_n (r := 1) hC 0 dJ0_length_8abf5_0 rfl rfl ?_
  refine V.sgetV (j := 0) (r := 4) hC (by decide) sf_9 dJ0_length_8abf5_1 rfl ?_
  refine V.salen (j := 0) (v := (8 : Int32)) (r := 5) hC (by decide) dJ0_length_8abf5_4 (by decide) rfl ?_
  refine V.aload_n (r := 6) hC 0 dJ0_length_8abf5_5 rfl rfl ?_
  obtain ⟨q1, hq2, h⟩ := Option.bind_eq_some_iff.mp h
  try dsimp only at h
  refine V.invXi (j := 0) (as := []) (st := [.inl (8 : Int32)]) (r := 9) hC (metJ0_coder_7d493_1010 hq2) yv_J0_coder_7d493 ml_RJ0_335 (by decide) rfl dJ0_length_8abf5_6 (by decide) rfl rfl rfl rfl ?_
  refine V.ishr (r := 10) hC dJ0_length_8abf5_9 rfl ?_
  cases h
  exact hR _ _ dJ0_length_8abf5_10
theorem metJ0_length_8abf5_1010 {R : Int32 × xMem} {M : xMem} (h : gJ0_length_8abf5_1010 M = some R) : xMet yJ0_length_8abf5 cJ0_length_8abf5 1 (some .int) 1 [.inr 1010] M (some R.1) R.2 := xMet.ofI (by decide +kernel) (Nat.le_of_ble_eq_true rfl) fun _ hC hR => vJ0_length_8abf5_1010  hC hR h
def gJ1_canEncode_9a6ad_ (a0 : Int32) (M : xMem) : Option (Int32 × xMem) :=
if a0 < 0 then
(some ((0 : Int32), M))
else
(if (255 : Int32) < a0 then
(some ((0 : Int32), M))
else
(some ((1 : Int32), M)))
set_option maxHeartbeats 4000000 in
set_option maxRecDepth 20000 in
theorem vJ1_canEncode_9a6ad_ {G : xG} (hC : xC G cJ1_canEncode_9a6ad 1 RJ1 0) {R : Int32 × xMem} (hR : xRZ G cJ1_canEncode_9a6ad 1 R) {a0 : Int32} {M : xMem} (h : gJ1_canEncode_9a6ad_ a0 M = some R) : V G 1 0 [(0, .inl a0)] [] M := by
  unfold gJ1_canEncode_9a6ad_ at h
  refine V.iload_n (r := 1) hC 0 dJ1_canEncode_9a6ad_0 rfl rfl ?_
  refine V.if_lt (tgt := 15) (r := 4) hC dJ1_canEncode_9a6ad_1 (by decide) rfl (fun c1 => ?_) (fun c1 => ?_)
  · rw [if_pos c1] at h
    refine V.iconst (r := 16) hC dJ1_canEncode_9a6ad_15 ki_0 rfl ?_
    cases h
    exact hR _ _ (Or.inl rfl) dJ1_canEncode_9a6ad_16
  · rw [if_neg c1] at h
    refine V.iload_n (r := 5) hC 0 dJ1_canEncode_9a6ad_4 rfl rfl ?_
    refine V.sipush (r := 8) hC dJ1_canEncode_9a6ad_5 ks_255 rfl ?_
    refine V.icmp_gt (tgt := 15) (r := 11) hC dJ1_canEncode_9a6ad_8 (by decide) rfl (fun c2 => ?_) (fun c2 => ?_)
    · rw [if_pos c2] at h
      refine V.iconst (r := 16) hC dJ1_canEncode_9a6ad_15 ki_0 rfl ?_
      cases h
      exact hR _ _ (Or.inl rfl) dJ1_canEncode_9a6ad_16
    · rw [if_neg c2] at h
      refine V.iconst (r := 12) hC dJ1_canEncode_9a6ad_11 ki_1 rfl ?_
      refine V.goto (tgt := 16) hC dJ1_canEncode_9a6ad_12 (by decide) ?_
      cases h
      exact hR _ _ (Or.inr rfl) dJ1_canEncode_9a6ad_16
theorem metJ1_canEncode_9a6ad_ {R : Int32 × xMem} {a0 : Int32} {M : xMem} (h : gJ1_canEncode_9a6ad_ a0 M = some R) : xMet yJ1_canEncode_9a6ad cJ1_canEncode_9a6ad 1 (some .boolean) 0 [.inl a0] M (some R.1) R.2 := xMet.ofZ (by decide +kernel) (Nat.le_of_ble_eq_true rfl) fun _ hC hR => vJ1_canEncode_9a6ad_  hC hR h
def gJ1_indexOfChar_4cfef_1020_b7 : Nat → Int32 → Int32 → Int32 → xMem → Option (Int32 × xMem)
  | 0, _, _, _, _ => none
  | n + 1, x3, x4, x5, M => 
    (if x3 ≤ x5 then
    (some ((-1 : Int32), M))
    else
    (if x5 < 0 ∨ 8 ≤ x5.toNatClampNeg then none else
    if ((xStrB.getD 0 []).getD x5.toNatClampNeg 0) = x4 then
    (some (x5, M))
    else
    (gJ1_indexOfChar_4cfef_1020_b7 n x3 x4 (x5 + (1 : Int32)) M)))
set_option maxHeartbeats 4000000 in
set_option maxRecDepth 20000 in
theorem vJ1_indexOfChar_4cfef_1020_b7 {G : xG} (hC : xC G cJ1_indexOfChar_4cfef 6 RJ1 0) {R : Int32 × xMem} (hR : xRI G cJ1_indexOfChar_4cfef 6 R) : ∀ (n : Nat) (x3 x4 x5 : Int32) (M : xMem), gJ1_indexOfChar_4cfef_1020_b7 n x3 x4 x5 M = some R → V G 6 7 [(0, .inr 1020), (3, .inl x3), (4, .inl x4), (5, .inl x5)] [] M := by
  intro n
  induction n with
  | zero => intro x3 x4 x5 M h; rw [gJ1_indexOfChar_4cfef_1020_b7] at h; cases h
  | succ n ih =>
    intro x3 x4 x5 M h
    rw [gJ1_indexOfChar_4cfef_1020_b7] at h
    refine V.iload (r := 9) hC 3 dJ1_indexOfChar_4cfef_7 rfl rfl ?_
    refine V.iload_n (r := 10) hC 1 dJ1_indexOfChar_4cfef_9 rfl rfl ?_
    refine V.icmp_ge (tgt := 31) (r := 13) hC dJ1_indexOfChar_4cfef_10 (by decide) rfl (fun c1 => ?_) (fun c1 => ?_)
    · rw [if_pos c1] at h
      refine V.iconst (r := 32) hC dJ1_indexOfChar_4cfef_31 ki_m1 rfl ?_
      cases h
      exact hR _ _ dJ1_indexOfChar_4cfef_32
    · rw [if_neg c1] at h
      refine V.aload_n (r := 14) hC 0 dJ1_indexOfChar_4cfef_13 rfl rfl ?_
      refine V.iload (r := 16) hC 3 dJ1_indexOfChar_4cfef_14 rfl rfl ?_
      by_cases c2 : x5 < 0 ∨ 8 ≤ x5.toNatClampNeg
      · rw [if_pos c2] at h; cases h
      rw [if_neg c2] at h
      refine V.sbald (j := 0) (r := 17) hC (by decide) rfl dJ1_indexOfChar_4cfef_16 c2 rfl ?_
      refine V.iload (r := 19) hC 2 dJ1_indexOfChar_4cfef_17 rfl rfl ?_
      refine V.icmp_ne (tgt := 25) (r := 22) hC dJ1_indexOfChar_4cfef_19 (by decide) rfl (fun c3 => ?_) (fun c3 => ?_)
      · rw [if_neg c3] at h
        refine V.inc (lv' := [(0, .inr 1020), (3, .inl x3), (4, .inl x4), (5, .inl (x5 + (1 : Int32)))]) (r := 28) hC 3 dJ1_indexOfChar_4cfef_25 rfl ki_1 rfl rfl rfl ?_
        refine V.goto (tgt := 7) hC dJ1_indexOfChar_4cfef_28 (by decide) ?_
        exact ih _ _ _ _ h
      · rw [if_pos c3] at h
        refine V.iload (r := 24) hC 3 dJ1_indexOfChar_4cfef_22 rfl rfl ?_
        cases h
        exact hR _ _ dJ1_indexOfChar_4cfef_24
def gJ1_indexOfChar_4cfef_1020 (a1 a2 a3 : Int32) (M : xMem) : Option (Int32 × xMem) :=
gJ1_indexOfChar_4cfef_1020_b7 5000 a3 (a1.toInt8.toInt32) a2 M
set_option maxHeartbeats 4000000 in
set_option maxRecDepth 20000 in
theorem vJ1_indexOfChar_4cfef_1020 {G : xG} (hC : xC G cJ1_indexOfChar_4cfef 6 RJ1 0) {R : Int32 × xMem} (hR : xRI G cJ1_indexOfChar_4cfef 6 R) {a1 a2 a3 : Int32} {M : xMem} (h : gJ1_indexOfChar_4cfef_1020 a1 a2 a3 M = some R) : V G 6 0 [(0, .inr 1020), (1, .inl a1), (2, .inl a2), (3, .inl a3)] [] M := by
  unfold gJ1_indexOfChar_4cfef_1020 at h
  refine V.iload_n (r := 1) hC 1 dJ1_indexOfChar_4cfef_0 rfl rfl ?_
  refine V.i2b (r := 2) hC dJ1_indexOfChar_4cfef_1 rfl ?_
  refine V.ist (lv' := [(0, .inr 1020), (1, .inl a1), (2, .inl a2), (3, .inl a3), (4, .inl (a1.toInt8.toInt32))]) (r := 4) hC dJ1_indexOfChar_4cfef_2 rfl rfl rfl ?_
  refine V.iload_n (r := 5) hC 2 dJ1_indexOfChar_4cfef_4 rfl rfl ?_
  refine V.ist (lv' := [(0, .inr 1020), (1, .inl a1), (2, .inl a2), (3, .inl a3), (4, .inl (a1.toInt8.toInt32)), (5, .inl a2)]) (r := 7) hC dJ1_indexOfChar_4cfef_5 rfl rfl rfl ?_
  refine V.pick (lv' := [(0, .inr 1020), (3, .inl a3), (4, .inl (a1.toInt8.toInt32)), (5, .inl a2)]) [0, 3, 4, 5] rfl ?_
  exact vJ1_indexOfChar_4cfef_1020_b7  hC hR  5000 _ _ _ _ h
theorem metJ1_indexOfChar_4cfef_1020 {R : Int32 × xMem} {a1 a2 a3 : Int32} {M : xMem} (h : gJ1_indexOfChar_4cfef_1020 a1 a2 a3 M = some R) : xMet yJ1_indexOfChar_4cfef cJ1_indexOfChar_4cfef 6 (some .int) 0 [.inr 1020, .inl a1, .inl a2, .inl a3] M (some R.1) R.2 := xMet.ofI (by decide +kernel) (Nat.le_of_ble_eq_true rfl) fun _ hC hR => vJ1_indexOfChar_4cfef_1020  hC hR h
def gJ1_indexOf_4cfef_1020 (a1 a2 a3 : Int32) (M : xMem) : Option (Int32 × xMem) :=
Option.bind (gJ1_canEncode_9a6ad_ a1 M) fun q1 =>
if (q1.1) = 0 then
(some ((-1 : Int32), q1.2))
else
(if (xMax a2 (0 : Int32)) < (xMin a3 (8 : Int32)) then
(Option.bind (gJ1_indexOfChar_4cfef_1020 a1 (xMax a2 (0 : Int32)) (xMin a3 (8 : Int32)) q1.2) fun q5 =>
some (q5.1, q5.2))
else
(some ((-1 : Int32), q1.2)))
set_option maxHeartbeats 4000000 in
set_option maxRecDepth 20000 in
theorem vJ1_indexOf_4cfef_1020 {G : xG} (hC : xC G cJ1_indexOf_4cfef 4 RJ1 1) {R : Int32 × xMem} (hR : xRI G cJ1_indexOf_4cfef 4 R) {a1 a2 a3 : Int32} {M : xMem} (h : gJ1_indexOf_4cfef_1020 a1 a2 a3 M = some R) : V G 4 0 [(0, .inr 1020), (1, .inl a1), (2, .inl a2), (3, .inl a3)] [] M := by
  unfold gJ1_indexOf_4cfef_1020 at h
  refine V.iload_n (r := 1) hC 1 dJ1_indexOf_4cfef_0 rfl rfl ?_
  obtain ⟨q1, hq2, h⟩ := Option.bind_eq_some_iff.mp h
  try dsimp only at h
  refine V.invSi (as := [.inl a1]) (st := []) (r := 4) hC (metJ1_canEncode_9a6ad_ hq2) ys_J1_canEncode_9a6ad ml_RJ1_88 dJ1_indexOf_4cfef_1 (by decide) rfl rfl rfl rfl ?_
  refine V.if_ne (tgt := 9) (r := 7) hC dJ1_indexOf_4cfef_4 (by decide) rfl (fun c3 => ?_) (fun c3 => ?_)
  · rw [if_neg c3] at h
    refine V.iload_n (r := 10) hC 2 dJ1_indexOf_4cfef_9 rfl rfl ?_
    refine V.iconst (r := 11) hC dJ1_indexOf_4cfef_10 ki_0 rfl ?_
    refine V.mmax (r := 14) hC jw_RJ1_92 (by decide) (Nat.le_of_ble_eq_true rfl) dJ1_indexOf_4cfef_11 rfl ?_
    refine V.ist_n (lv' := [(0, .inr 1020), (1, .inl a1), (2, .inl (xMax a2 (0 : Int32))), (3, .inl a3)]) (r := 15) hC dJ1_indexOf_4cfef_14 rfl rfl rfl ?_
    refine V.iload_n (r := 16) hC 3 dJ1_indexOf_4cfef_15 rfl rfl ?_
    refine V.aload_n (r := 17) hC 0 dJ1_indexOf_4cfef_16 rfl rfl ?_
    refine V.salen (j := 0) (v := (8 : Int32)) (r := 18) hC (by decide) dJ1_indexOf_4cfef_17 (by decide) rfl ?_
    refine V.mmin (r := 21) hC jw_RJ1_38 (by decide) (Nat.le_of_ble_eq_true rfl) dJ1_indexOf_4cfef_18 rfl ?_
    refine V.ist_n (lv' := [(0, .inr 1020), (1, .inl a1), (2, .inl (xMax a2 (0 : Int32))), (3, .inl (xMin a3 (8 : Int32)))]) (r := 22) hC dJ1_indexOf_4cfef_21 rfl rfl rfl ?_
    refine V.iload_n (r := 23) hC 2 dJ1_indexOf_4cfef_22 rfl rfl ?_
    refine V.iload_n (r := 24) hC 3 dJ1_indexOf_4cfef_23 rfl rfl ?_
    refine V.icmp_lt (tgt := 29) (r := 27) hC dJ1_indexOf_4cfef_24 (by decide) rfl (fun c4 => ?_) (fun c4 => ?_)
    · rw [if_pos c4] at h
      refine V.aload_n (r := 30) hC 0 dJ1_indexOf_4cfef_29 rfl rfl ?_
      refine V.iload_n (r := 31) hC 1 dJ1_indexOf_4cfef_30 rfl rfl ?_
      refine V.iload_n (r := 32) hC 2 dJ1_indexOf_4cfef_31 rfl rfl ?_
      refine V.iload_n (r := 33) hC 3 dJ1_indexOf_4cfef_32 rfl rfl ?_
      obtain ⟨q5, hq6, h⟩ := Option.bind_eq_some_iff.mp h
      try dsimp only at h
      refine V.invSi (as := [.inr 1020, .inl a1, .inl (xMax a2 (0 : Int32)), .inl (xMin a3 (8 : Int32))]) (st := []) (r := 36) hC (metJ1_indexOfChar_4cfef_1020 hq6) ys_J1_indexOfChar_4cfef ml_RJ1_95 dJ1_indexOf_4cfef_33 (by decide) rfl rfl rfl rfl ?_
      cases h
      exact hR _ _ dJ1_indexOf_4cfef_36
    · rw [if_neg c4] at h
      refine V.iconst (r := 28) hC dJ1_indexOf_4cfef_27 ki_m1 rfl ?_
      cases h
      exact hR _ _ dJ1_indexOf_4cfef_28
  · rw [if_pos c3] at h
    refine V.iconst (r := 8) hC dJ1_indexOf_4cfef_7 ki_m1 rfl ?_
    cases h
    exact hR _ _ dJ1_indexOf_4cfef_8
theorem metJ1_indexOf_4cfef_1020 {R : Int32 × xMem} {a1 a2 a3 : Int32} {M : xMem} (h : gJ1_indexOf_4cfef_1020 a1 a2 a3 M = some R) : xMet yJ1_indexOf_4cfef cJ1_indexOf_4cfef 4 (some .int) 1 [.inr 1020, .inl a1, .inl a2, .inl a3] M (some R.1) R.2 := xMet.ofI (by decide +kernel) (Nat.le_of_ble_eq_true rfl) fun _ hC hR => vJ1_indexOf_4cfef_1020  hC hR h
def gJ0_indexOf_7cf53__1010 (a0 a1 : Int32) (M : xMem) : Option (Int32 × xMem) :=
Option.bind (gJ0_isLatin1_aae02_1010 M) fun q1 =>
if (q1.1) = 0 then
(Option.bind (gJ0_length_8abf5_1010 q1.2) fun q4 =>
none)
else
(Option.bind (gJ0_length_8abf5_1010 q1.2) fun q6 =>
Option.bind (gJ1_indexOf_4cfef_1020 a0 a1 (q6.1) q6.2) fun q8 =>
some (q8.1, q8.2))
set_option maxHeartbeats 4000000 in
set_option maxRecDepth 20000 in
theorem vJ0_indexOf_7cf53__1010 {G : xG} (hC : xC G cJ0_indexOf_7cf53 3 RJ0 2) {R : Int32 × xMem} (hR : xRI G cJ0_indexOf_7cf53 3 R) {a0 a1 : Int32} {M : xMem} (h : gJ0_indexOf_7cf53__1010 a0 a1 M = some R) : V G 3 0 [(0, .inr 1010), (1, .inl a0), (2, .inl a1)] [] M := by
  unfold gJ0_indexOf_7cf53__1010 at h
  refine V.aload_n (r := 1) hC 0 dJ0_indexOf_7cf53_0 rfl rfl ?_
  obtain ⟨q1, hq2, h⟩ := Option.bind_eq_some_iff.mp h
  try dsimp only at h
  refine V.invXi (j := 0) (as := []) (st := []) (r := 4) hC (metJ0_isLatin1_aae02_1010 hq2) yv_J0_isLatin1_aae02 ml_RJ0_492 (by decide) rfl dJ0_indexOf_7cf53_1 (by decide) rfl rfl rfl rfl ?_
  refine V.if_eq (tgt := 23) (r := 7) hC dJ0_indexOf_7cf53_4 (by decide) rfl (fun c3 => ?_) (fun c3 => ?_)
  · rw [if_pos c3] at h
    refine V.aload_n (r := 24) hC 0 dJ0_indexOf_7cf53_23 rfl rfl ?_
    refine V.sgetV (j := 0) (r := 27) hC (by decide) sf_9 dJ0_indexOf_7cf53_24 rfl ?_
    refine V.iload_n (r := 28) hC 1 dJ0_indexOf_7cf53_27 rfl rfl ?_
    refine V.iload_n (r := 29) hC 2 dJ0_indexOf_7cf53_28 rfl rfl ?_
    refine V.aload_n (r := 30) hC 0 dJ0_indexOf_7cf53_29 rfl rfl ?_
    obtain ⟨q4, hq5, h⟩ := Option.bind_eq_some_iff.mp h
    try dsimp only at h
    refine V.invXi (j := 0) (as := []) (st := [.inl a1, .inl a0, .inr 1020]) (r := 33) hC (metJ0_length_8abf5_1010 hq5) yv_J0_length_8abf5 ml_RJ0_505 (by decide) rfl dJ0_indexOf_7cf53_30 (by decide) rfl rfl rfl rfl ?_
    cases h
  · rw [if_neg c3] at h
    refine V.aload_n (r := 8) hC 0 dJ0_indexOf_7cf53_7 rfl rfl ?_
    refine V.sgetV (j := 0) (r := 11) hC (by decide) sf_9 dJ0_indexOf_7cf53_8 rfl ?_
    refine V.iload_n (r := 12) hC 1 dJ0_indexOf_7cf53_11 rfl rfl ?_
    refine V.iload_n (r := 13) hC 2 dJ0_indexOf_7cf53_12 rfl rfl ?_
    refine V.aload_n (r := 14) hC 0 dJ0_indexOf_7cf53_13 rfl rfl ?_
    obtain ⟨q6, hq7, h⟩ := Option.bind_eq_some_iff.mp h
    try dsimp only at h
    refine V.invXi (j := 0) (as := []) (st := [.inl a1, .inl a0, .inr 1020]) (r := 17) hC (metJ0_length_8abf5_1010 hq7) yv_J0_length_8abf5 ml_RJ0_505 (by decide) rfl dJ0_indexOf_7cf53_14 (by decide) rfl rfl rfl rfl ?_
    obtain ⟨q8, hq9, h⟩ := Option.bind_eq_some_iff.mp h
    try dsimp only at h
    refine V.invSi (as := [.inr 1020, .inl a0, .inl a1, .inl (q6.1)]) (st := []) (r := 20) hC (metJ1_indexOf_4cfef_1020 hq9) ys_J1_indexOf_4cfef ml_RJ0_637 dJ0_indexOf_7cf53_17 (by decide) rfl rfl rfl rfl ?_
    refine V.goto (tgt := 36) hC dJ0_indexOf_7cf53_20 (by decide) ?_
    cases h
    exact hR _ _ dJ0_indexOf_7cf53_36
theorem metJ0_indexOf_7cf53__1010 {R : Int32 × xMem} {a0 a1 : Int32} {M : xMem} (h : gJ0_indexOf_7cf53__1010 a0 a1 M = some R) : xMet yJ0_indexOf_7cf53 cJ0_indexOf_7cf53 3 (some .int) 2 [.inr 1010, .inl a0, .inl a1] M (some R.1) R.2 := xMet.ofI (by decide +kernel) (Nat.le_of_ble_eq_true rfl) fun _ hC hR => vJ0_indexOf_7cf53__1010  hC hR h
def gJ0_indexOf_0f7a4__1010 (a0 : Int32) (M : xMem) : Option (Int32 × xMem) :=
Option.bind (gJ0_indexOf_7cf53__1010 a0 (0 : Int32) M) fun q1 =>
some (q1.1, q1.2)
set_option maxHeartbeats 4000000 in
set_option maxRecDepth 20000 in
theorem vJ0_indexOf_0f7a4__1010 {G : xG} (hC : xC G cJ0_indexOf_0f7a4 2 RJ0 3) {R : Int32 × xMem} (hR : xRI G cJ0_indexOf_0f7a4 2 R) {a0 : Int32} {M : xMem} (h : gJ0_indexOf_0f7a4__1010 a0 M = some R) : V G 2 0 [(0, .inr 1010), (1, .inl a0)] [] M := by
  unfold gJ0_indexOf_0f7a4__1010 at h
  refine V.aload_n (r := 1) hC 0 dJ0_indexOf_0f7a4_0 rfl rfl ?_
  refine V.iload_n (r := 2) hC 1 dJ0_indexOf_0f7a4_1 rfl rfl ?_
  refine V.iconst (r := 3) hC dJ0_indexOf_0f7a4_2 ki_0 rfl ?_
  obtain ⟨q1, hq2, h⟩ := Option.bind_eq_some_iff.mp h
  try dsimp only at h
  refine V.invXi (j := 0) (as := [.inl a0, .inl (0 : Int32)]) (st := []) (r := 6) hC (metJ0_indexOf_7cf53__1010 hq2) yv_J0_indexOf_7cf53 ml_RJ0_633 (by decide) rfl dJ0_indexOf_0f7a4_3 (by decide) rfl rfl rfl rfl ?_
  cases h
  exact hR _ _ dJ0_indexOf_0f7a4_6
theorem metJ0_indexOf_0f7a4__1010 {R : Int32 × xMem} {a0 : Int32} {M : xMem} (h : gJ0_indexOf_0f7a4__1010 a0 M = some R) : xMet yJ0_indexOf_0f7a4 cJ0_indexOf_0f7a4 2 (some .int) 3 [.inr 1010, .inl a0] M (some R.1) R.2 := xMet.ofI (by decide +kernel) (Nat.le_of_ble_eq_true rfl) fun _ hC hR => vJ0_indexOf_0f7a4__1010  hC hR h
def g4_placeIn_1010 (M : xMem) : Option (Int32 × xMem) :=
if (M 114 0) = (-1 : Int32) then
(some ((-1 : Int32), M))
else
(Option.bind (gJ0_indexOf_0f7a4__1010 (((M 114 0).toUInt32 % 65536).toInt32) M) fun q2 =>
some (q2.1, q2.2))
set_option maxHeartbeats 4000000 in
set_option maxRecDepth 20000 in
theorem v4_placeIn_1010 {G : xG} (hC : xC G cX4_placeIn 2 RX4 4) {R : Int32 × xMem} (hR : xRI G cX4_placeIn 2 R) {M : xMem} (h : g4_placeIn_1010 M = some R) : V G 2 0 [(0, .inr 126), (1, .inr 1010)] [] M := by
  unfold g4_placeIn_1010 at h
  refine V.aload_n (r := 1) hC 0 dX4_placeIn_0 rfl rfl ?_
  refine V.getI (b := 114) (i := 0) (j := 4) (r := 4) hC xcl_4 sh_126 fl_RX4_32 dX4_placeIn_1 (by decide) rfl rfl ?_
  refine V.iconst (r := 5) hC dX4_placeIn_4 ki_m1 rfl ?_
  refine V.icmp_ne (tgt := 12) (r := 8) hC dX4_placeIn_5 (by decide) rfl (fun c1 => ?_) (fun c1 => ?_)
  · rw [if_neg c1] at h
    refine V.aload_n (r := 13) hC 1 dX4_placeIn_12 rfl rfl ?_
    refine V.aload_n (r := 14) hC 0 dX4_placeIn_13 rfl rfl ?_
    refine V.getI (b := 114) (i := 0) (j := 4) (r := 17) hC xcl_4 sh_126 fl_RX4_32 dX4_placeIn_14 (by decide) rfl rfl ?_
    refine V.i2c (r := 18) hC dX4_placeIn_17 rfl ?_
    obtain ⟨q2, hq3, h⟩ := Option.bind_eq_some_iff.mp h
    try dsimp only at h
    refine V.invXi (j := 0) (as := [.inl (((M 114 0).toUInt32 % 65536).toInt32)]) (st := []) (r := 21) hC (metJ0_indexOf_0f7a4__1010 hq3) yv_J0_indexOf_0f7a4 ml_RX4_109 (by decide) rfl dX4_placeIn_18 (by decide) rfl rfl rfl rfl ?_
    cases h
    exact hR _ _ dX4_placeIn_21
  · rw [if_pos c1] at h
    refine V.iconst (r := 9) hC dX4_placeIn_8 ki_m1 rfl ?_
    refine V.goto (tgt := 21) hC dX4_placeIn_9 (by decide) ?_
    cases h
    exact hR _ _ dX4_placeIn_21
theorem met4_placeIn_1010 {R : Int32 × xMem} {M : xMem} (h : g4_placeIn_1010 M = some R) : xMet yX4_placeIn cX4_placeIn 2 (some .int) 4 [.inr 126, .inr 1010] M (some R.1) R.2 := xMet.ofI (by decide +kernel) (Nat.le_of_ble_eq_true rfl) fun _ hC hR => v4_placeIn_1010  hC hR h
def gJ0_isLatin1_aae02_1011 (M : xMem) : Option (Int32 × xMem) :=
some ((1 : Int32), M)
set_option maxHeartbeats 4000000 in
set_option maxRecDepth 20000 in
theorem vJ0_isLatin1_aae02_1011 {G : xG} (hC : xC G cJ0_isLatin1_aae02 1 RJ0 0) {R : Int32 × xMem} (hR : xRZ G cJ0_isLatin1_aae02 1 R) {M : xMem} (h : gJ0_isLatin1_aae02_1011 M = some R) : V G 1 0 [(0, .inr 1011)] [] M := by
  unfold gJ0_isLatin1_aae02_1011 at h
  refine V.gcomp (r := 3) hC sf_38 dJ0_isLatin1_aae02_0 rfl ?_
  refine V.if_eq (tgt := 17) (r := 6) hC dJ0_isLatin1_aae02_3 (by decide) rfl (fun c => ?_) (fun c => ?_)
  · exact absurd c (by decide)
  · skip
    refine V.aload_n (r := 7) hC 0 dJ0_isLatin1_aae02_6 rfl rfl ?_
    refine V.sgetC (j := 1) (r := 10) hC (by decide) sf_15 dJ0_isLatin1_aae02_7 rfl ?_
    refine V.if_ne (tgt := 17) (r := 13) hC dJ0_isLatin1_aae02_10 (by decide) rfl (fun c => ?_) (fun c => ?_)
    · exact absurd c (by decide)
    · skip
      refine V.iconst (r := 14) hC dJ0_isLatin1_aae02_13 ki_1 rfl ?_
      refine V.goto (tgt := 18) hC dJ0_isLatin1_aae02_14 (by decide) ?_
      cases h
      exact hR _ _ (Or.inr rfl) dJ0_isLatin1_aae02_18
theorem metJ0_isLatin1_aae02_1011 {R : Int32 × xMem} {M : xMem} (h : gJ0_isLatin1_aae02_1011 M = some R) : xMet yJ0_isLatin1_aae02 cJ0_isLatin1_aae02 1 (some .boolean) 0 [.inr 1011] M (some R.1) R.2 := xMet.ofZ (by decide +kernel) (Nat.le_of_ble_eq_true rfl) fun _ hC hR => vJ0_isLatin1_aae02_1011  hC hR h
def gJ0_coder_7d493_1011 (M : xMem) : Option (Int32 × xMem) :=
some (0, M)
set_option maxHeartbeats 4000000 in
set_option maxRecDepth 20000 in
theorem vJ0_coder_7d493_1011 {G : xG} (hC : xC G cJ0_coder_7d493 1 RJ0 0) {R : Int32 × xMem} (hR : xRZ G cJ0_coder_7d493 1 R) {M : xMem} (h : gJ0_coder_7d493_1011 M = some R) : V G 1 0 [(0, .inr 1011)] [] M := by
  unfold gJ0_coder_7d493_1011 at h
  refine V.gcomp (r := 3) hC sf_38 dJ0_coder_7d493_0 rfl ?_
  refine V.if_eq (tgt := 13) (r := 6) hC dJ0_coder_7d493_3 (by decide) rfl (fun c => ?_) (fun c => ?_)
  · exact absurd c (by decide)
  · skip
    refine V.aload_n (r := 7) hC 0 dJ0_coder_7d493_6 rfl rfl ?_
    refine V.sgetC (j := 1) (r := 10) hC (by decide) sf_15 dJ0_coder_7d493_7 rfl ?_
    refine V.goto (tgt := 14) hC dJ0_coder_7d493_10 (by decide) ?_
    cases h
    exact hR _ _ (Or.inl rfl) dJ0_coder_7d493_14
theorem metJ0_coder_7d493_1011 {R : Int32 × xMem} {M : xMem} (h : gJ0_coder_7d493_1011 M = some R) : xMet yJ0_coder_7d493 cJ0_coder_7d493 1 (some .byte) 0 [.inr 1011] M (some R.1) R.2 := xMet.ofB (by decide +kernel) (Nat.le_of_ble_eq_true rfl) fun _ hC hR => vJ0_coder_7d493_1011  hC hR h
def gJ0_length_8abf5_1011 (M : xMem) : Option (Int32 × xMem) :=
Option.bind (gJ0_coder_7d493_1011 M) fun q1 =>
some ((15 : Int32) >>> ((q1.1) &&& 31), q1.2)
set_option maxHeartbeats 4000000 in
set_option maxRecDepth 20000 in
theorem vJ0_length_8abf5_1011 {G : xG} (hC : xC G cJ0_length_8abf5 1 RJ0 1) {R : Int32 × xMem} (hR : xRI G cJ0_length_8abf5 1 R) {M : xMem} (h : gJ0_length_8abf5_1011 M = some R) : V G 1 0 [(0, .inr 1011)] [] M := by
  unfold gJ0_length_8abf5_1011 at h
  refine V.aload_n (r := 1) hC 0 dJ0_length_8abf5_0 rfl rfl ?_
  refine V.sgetV (j := 1) (r := 4) hC (by decide) sf_9 dJ0_length_8abf5_1 rfl ?_
  refine V.salen (j := 1) (v := (15 : Int32)) (r := 5) hC (by decide) dJ0_length_8abf5_4 (by decide) rfl ?_
  refine V.aload_n (r := 6) hC 0 dJ0_length_8abf5_5 rfl rfl ?_
  obtain ⟨q1, hq2, h⟩ := Option.bind_eq_some_iff.mp h
  try dsimp only at h
  refine V.invXi (j := 1) (as := []) (st := [.inl (15 : Int32)]) (r := 9) hC (metJ0_coder_7d493_1011 hq2) yv_J0_coder_7d493 ml_RJ0_335 (by decide) rfl dJ0_length_8abf5_6 (by decide) rfl rfl rfl rfl ?_
  refine V.ishr (r := 10) hC dJ0_length_8abf5_9 rfl ?_
  cases h
  exact hR _ _ dJ0_length_8abf5_10
theorem metJ0_length_8abf5_1011 {R : Int32 × xMem} {M : xMem} (h : gJ0_length_8abf5_1011 M = some R) : xMet yJ0_length_8abf5 cJ0_length_8abf5 1 (some .int) 1 [.inr 1011] M (some R.1) R.2 := xMet.ofI (by decide +kernel) (Nat.le_of_ble_eq_true rfl) fun _ hC hR => vJ0_length_8abf5_1011  hC hR h
def gJ1_indexOfChar_4cfef_1021_b7 : Nat → Int32 → Int32 → Int32 → xMem → Option (Int32 × xMem)
  | 0, _, _, _, _ => none
  | n + 1, x3, x4, x5, M => 
    (if x3 ≤ x5 then
    (some ((-1 : Int32), M))
    else
    (if x5 < 0 ∨ 15 ≤ x5.toNatClampNeg then none else
    if ((xStrB.getD 1 []).getD x5.toNatClampNeg 0) = x4 then
    (some (x5, M))
    else
    (gJ1_indexOfChar_4cfef_1021_b7 n x3 x4 (x5 + (1 : Int32)) M)))
set_option maxHeartbeats 4000000 in
set_option maxRecDepth 20000 in
theorem vJ1_indexOfChar_4cfef_1021_b7 {G : xG} (hC : xC G cJ1_indexOfChar_4cfef 6 RJ1 0) {R : Int32 × xMem} (hR : xRI G cJ1_indexOfChar_4cfef 6 R) : ∀ (n : Nat) (x3 x4 x5 : Int32) (M : xMem), gJ1_indexOfChar_4cfef_1021_b7 n x3 x4 x5 M = some R → V G 6 7 [(0, .inr 1021), (3, .inl x3), (4, .inl x4), (5, .inl x5)] [] M := by
  intro n
  induction n with
  | zero => intro x3 x4 x5 M h; rw [gJ1_indexOfChar_4cfef_1021_b7] at h; cases h
  | succ n ih =>
    intro x3 x4 x5 M h
    rw [gJ1_indexOfChar_4cfef_1021_b7] at h
    refine V.iload (r := 9) hC 3 dJ1_indexOfChar_4cfef_7 rfl rfl ?_
    refine V.iload_n (r := 10) hC 1 dJ1_indexOfChar_4cfef_9 rfl rfl ?_
    refine V.icmp_ge (tgt := 31) (r := 13) hC dJ1_indexOfChar_4cfef_10 (by decide) rfl (fun c1 => ?_) (fun c1 => ?_)
    · rw [if_pos c1] at h
      refine V.iconst (r := 32) hC dJ1_indexOfChar_4cfef_31 ki_m1 rfl ?_
      cases h
      exact hR _ _ dJ1_indexOfChar_4cfef_32
    · rw [if_neg c1] at h
      refine V.aload_n (r := 14) hC 0 dJ1_indexOfChar_4cfef_13 rfl rfl ?_
      refine V.iload (r := 16) hC 3 dJ1_indexOfChar_4cfef_14 rfl rfl ?_
      by_cases c2 : x5 < 0 ∨ 15 ≤ x5.toNatClampNeg
      · rw [if_pos c2] at h; cases h
      rw [if_neg c2] at h
      refine V.sbald (j := 1) (r := 17) hC (by decide) rfl dJ1_indexOfChar_4cfef_16 c2 rfl ?_
      refine V.iload (r := 19) hC 2 dJ1_indexOfChar_4cfef_17 rfl rfl ?_
      refine V.icmp_ne (tgt := 25) (r := 22) hC dJ1_indexOfChar_4cfef_19 (by decide) rfl (fun c3 => ?_) (fun c3 => ?_)
      · rw [if_neg c3] at h
        refine V.inc (lv' := [(0, .inr 1021), (3, .inl x3), (4, .inl x4), (5, .inl (x5 + (1 : Int32)))]) (r := 28) hC 3 dJ1_indexOfChar_4cfef_25 rfl ki_1 rfl rfl rfl ?_
        refine V.goto (tgt := 7) hC dJ1_indexOfChar_4cfef_28 (by decide) ?_
        exact ih _ _ _ _ h
      · rw [if_pos c3] at h
        refine V.iload (r := 24) hC 3 dJ1_indexOfChar_4cfef_22 rfl rfl ?_
        cases h
        exact hR _ _ dJ1_indexOfChar_4cfef_24
def gJ1_indexOfChar_4cfef_1021 (a1 a2 a3 : Int32) (M : xMem) : Option (Int32 × xMem) :=
gJ1_indexOfChar_4cfef_1021_b7 5000 a3 (a1.toInt8.toInt32) a2 M
set_option maxHeartbeats 4000000 in
set_option maxRecDepth 20000 in
theorem vJ1_indexOfChar_4cfef_1021 {G : xG} (hC : xC G cJ1_indexOfChar_4cfef 6 RJ1 0) {R : Int32 × xMem} (hR : xRI G cJ1_indexOfChar_4cfef 6 R) {a1 a2 a3 : Int32} {M : xMem} (h : gJ1_indexOfChar_4cfef_1021 a1 a2 a3 M = some R) : V G 6 0 [(0, .inr 1021), (1, .inl a1), (2, .inl a2), (3, .inl a3)] [] M := by
  unfold gJ1_indexOfChar_4cfef_1021 at h
  refine V.iload_n (r := 1) hC 1 dJ1_indexOfChar_4cfef_0 rfl rfl ?_
  refine V.i2b (r := 2) hC dJ1_indexOfChar_4cfef_1 rfl ?_
  refine V.ist (lv' := [(0, .inr 1021), (1, .inl a1), (2, .inl a2), (3, .inl a3), (4, .inl (a1.toInt8.toInt32))]) (r := 4) hC dJ1_indexOfChar_4cfef_2 rfl rfl rfl ?_
  refine V.iload_n (r := 5) hC 2 dJ1_indexOfChar_4cfef_4 rfl rfl ?_
  refine V.ist (lv' := [(0, .inr 1021), (1, .inl a1), (2, .inl a2), (3, .inl a3), (4, .inl (a1.toInt8.toInt32)), (5, .inl a2)]) (r := 7) hC dJ1_indexOfChar_4cfef_5 rfl rfl rfl ?_
  refine V.pick (lv' := [(0, .inr 1021), (3, .inl a3), (4, .inl (a1.toInt8.toInt32)), (5, .inl a2)]) [0, 3, 4, 5] rfl ?_
  exact vJ1_indexOfChar_4cfef_1021_b7  hC hR  5000 _ _ _ _ h
theorem metJ1_indexOfChar_4cfef_1021 {R : Int32 × xMem} {a1 a2 a3 : Int32} {M : xMem} (h : gJ1_indexOfChar_4cfef_1021 a1 a2 a3 M = some R) : xMet yJ1_indexOfChar_4cfef cJ1_indexOfChar_4cfef 6 (some .int) 0 [.inr 1021, .inl a1, .inl a2, .inl a3] M (some R.1) R.2 := xMet.ofI (by decide +kernel) (Nat.le_of_ble_eq_true rfl) fun _ hC hR => vJ1_indexOfChar_4cfef_1021  hC hR h
def gJ1_indexOf_4cfef_1021 (a1 a2 a3 : Int32) (M : xMem) : Option (Int32 × xMem) :=
Option.bind (gJ1_canEncode_9a6ad_ a1 M) fun q1 =>
if (q1.1) = 0 then
(some ((-1 : Int32), q1.2))
else
(if (xMax a2 (0 : Int32)) < (xMin a3 (15 : Int32)) then
(Option.bind (gJ1_indexOfChar_4cfef_1021 a1 (xMax a2 (0 : Int32)) (xMin a3 (15 : Int32)) q1.2) fun q5 =>
some (q5.1, q5.2))
else
(some ((-1 : Int32), q1.2)))
set_option maxHeartbeats 4000000 in
set_option maxRecDepth 20000 in
theorem vJ1_indexOf_4cfef_1021 {G : xG} (hC : xC G cJ1_indexOf_4cfef 4 RJ1 1) {R : Int32 × xMem} (hR : xRI G cJ1_indexOf_4cfef 4 R) {a1 a2 a3 : Int32} {M : xMem} (h : gJ1_indexOf_4cfef_1021 a1 a2 a3 M = some R) : V G 4 0 [(0, .inr 1021), (1, .inl a1), (2, .inl a2), (3, .inl a3)] [] M := by
  unfold gJ1_indexOf_4cfef_1021 at h
  refine V.iload_n (r := 1) hC 1 dJ1_indexOf_4cfef_0 rfl rfl ?_
  obtain ⟨q1, hq2, h⟩ := Option.bind_eq_some_iff.mp h
  try dsimp only at h
  refine V.invSi (as := [.inl a1]) (st := []) (r := 4) hC (metJ1_canEncode_9a6ad_ hq2) ys_J1_canEncode_9a6ad ml_RJ1_88 dJ1_indexOf_4cfef_1 (by decide) rfl rfl rfl rfl ?_
  refine V.if_ne (tgt := 9) (r := 7) hC dJ1_indexOf_4cfef_4 (by decide) rfl (fun c3 => ?_) (fun c3 => ?_)
  · rw [if_neg c3] at h
    refine V.iload_n (r := 10) hC 2 dJ1_indexOf_4cfef_9 rfl rfl ?_
    refine V.iconst (r := 11) hC dJ1_indexOf_4cfef_10 ki_0 rfl ?_
    refine V.mmax (r := 14) hC jw_RJ1_92 (by decide) (Nat.le_of_ble_eq_true rfl) dJ1_indexOf_4cfef_11 rfl ?_
    refine V.ist_n (lv' := [(0, .inr 1021), (1, .inl a1), (2, .inl (xMax a2 (0 : Int32))), (3, .inl a3)]) (r := 15) hC dJ1_indexOf_4cfef_14 rfl rfl rfl ?_
    refine V.iload_n (r := 16) hC 3 dJ1_indexOf_4cfef_15 rfl rfl ?_
    refine V.aload_n (r := 17) hC 0 dJ1_indexOf_4cfef_16 rfl rfl ?_
    refine V.salen (j := 1) (v := (15 : Int32)) (r := 18) hC (by decide) dJ1_indexOf_4cfef_17 (by decide) rfl ?_
    refine V.mmin (r := 21) hC jw_RJ1_38 (by decide) (Nat.le_of_ble_eq_true rfl) dJ1_indexOf_4cfef_18 rfl ?_
    refine V.ist_n (lv' := [(0, .inr 1021), (1, .inl a1), (2, .inl (xMax a2 (0 : Int32))), (3, .inl (xMin a3 (15 : Int32)))]) (r := 22) hC dJ1_indexOf_4cfef_21 rfl rfl rfl ?_
    refine V.iload_n (r := 23) hC 2 dJ1_indexOf_4cfef_22 rfl rfl ?_
    refine V.iload_n (r := 24) hC 3 dJ1_indexOf_4cfef_23 rfl rfl ?_
    refine V.icmp_lt (tgt := 29) (r := 27) hC dJ1_indexOf_4cfef_24 (by decide) rfl (fun c4 => ?_) (fun c4 => ?_)
    · rw [if_pos c4] at h
      refine V.aload_n (r := 30) hC 0 dJ1_indexOf_4cfef_29 rfl rfl ?_
      refine V.iload_n (r := 31) hC 1 dJ1_indexOf_4cfef_30 rfl rfl ?_
      refine V.iload_n (r := 32) hC 2 dJ1_indexOf_4cfef_31 rfl rfl ?_
      refine V.iload_n (r := 33) hC 3 dJ1_indexOf_4cfef_32 rfl rfl ?_
      obtain ⟨q5, hq6, h⟩ := Option.bind_eq_some_iff.mp h
      try dsimp only at h
      refine V.invSi (as := [.inr 1021, .inl a1, .inl (xMax a2 (0 : Int32)), .inl (xMin a3 (15 : Int32))]) (st := []) (r := 36) hC (metJ1_indexOfChar_4cfef_1021 hq6) ys_J1_indexOfChar_4cfef ml_RJ1_95 dJ1_indexOf_4cfef_33 (by decide) rfl rfl rfl rfl ?_
      cases h
      exact hR _ _ dJ1_indexOf_4cfef_36
    · rw [if_neg c4] at h
      refine V.iconst (r := 28) hC dJ1_indexOf_4cfef_27 ki_m1 rfl ?_
      cases h
      exact hR _ _ dJ1_indexOf_4cfef_28
  · rw [if_pos c3] at h
    refine V.iconst (r := 8) hC dJ1_indexOf_4cfef_7 ki_m1 rfl ?_
    cases h
    exact hR _ _ dJ1_indexOf_4cfef_8
theorem metJ1_indexOf_4cfef_1021 {R : Int32 × xMem} {a1 a2 a3 : Int32} {M : xMem} (h : gJ1_indexOf_4cfef_1021 a1 a2 a3 M = some R) : xMet yJ1_indexOf_4cfef cJ1_indexOf_4cfef 4 (some .int) 1 [.inr 1021, .inl a1, .inl a2, .inl a3] M (some R.1) R.2 := xMet.ofI (by decide +kernel) (Nat.le_of_ble_eq_true rfl) fun _ hC hR => vJ1_indexOf_4cfef_1021  hC hR h
def gJ0_indexOf_7cf53__1011 (a0 a1 : Int32) (M : xMem) : Option (Int32 × xMem) :=
Option.bind (gJ0_isLatin1_aae02_1011 M) fun q1 =>
if (q1.1) = 0 then
(Option.bind (gJ0_length_8abf5_1011 q1.2) fun q4 =>
none)
else
(Option.bind (gJ0_length_8abf5_1011 q1.2) fun q6 =>
Option.bind (gJ1_indexOf_4cfef_1021 a0 a1 (q6.1) q6.2) fun q8 =>
some (q8.1, q8.2))
set_option maxHeartbeats 4000000 in
set_option maxRecDepth 20000 in
theorem vJ0_indexOf_7cf53__1011 {G : xG} (hC : xC G cJ0_indexOf_7cf53 3 RJ0 2) {R : Int32 × xMem} (hR : xRI G cJ0_indexOf_7cf53 3 R) {a0 a1 : Int32} {M : xMem} (h : gJ0_indexOf_7cf53__1011 a0 a1 M = some R) : V G 3 0 [(0, .inr 1011), (1, .inl a0), (2, .inl a1)] [] M := by
  unfold gJ0_indexOf_7cf53__1011 at h
  refine V.aload_n (r := 1) hC 0 dJ0_indexOf_7cf53_0 rfl rfl ?_
  obtain ⟨q1, hq2, h⟩ := Option.bind_eq_some_iff.mp h
  try dsimp only at h
  refine V.invXi (j := 1) (as := []) (st := []) (r := 4) hC (metJ0_isLatin1_aae02_1011 hq2) yv_J0_isLatin1_aae02 ml_RJ0_492 (by decide) rfl dJ0_indexOf_7cf53_1 (by decide) rfl rfl rfl rfl ?_
  refine V.if_eq (tgt := 23) (r := 7) hC dJ0_indexOf_7cf53_4 (by decide) rfl (fun c3 => ?_) (fun c3 => ?_)
  · rw [if_pos c3] at h
    refine V.aload_n (r := 24) hC 0 dJ0_indexOf_7cf53_23 rfl rfl ?_
    refine V.sgetV (j := 1) (r := 27) hC (by decide) sf_9 dJ0_indexOf_7cf53_24 rfl ?_
    refine V.iload_n (r := 28) hC 1 dJ0_indexOf_7cf53_27 rfl rfl ?_
    refine V.iload_n (r := 29) hC 2 dJ0_indexOf_7cf53_28 rfl rfl ?_
    refine V.aload_n (r := 30) hC 0 dJ0_indexOf_7cf53_29 rfl rfl ?_
    obtain ⟨q4, hq5, h⟩ := Option.bind_eq_some_iff.mp h
    try dsimp only at h
    refine V.invXi (j := 1) (as := []) (st := [.inl a1, .inl a0, .inr 1021]) (r := 33) hC (metJ0_length_8abf5_1011 hq5) yv_J0_length_8abf5 ml_RJ0_505 (by decide) rfl dJ0_indexOf_7cf53_30 (by decide) rfl rfl rfl rfl ?_
    cases h
  · rw [if_neg c3] at h
    refine V.aload_n (r := 8) hC 0 dJ0_indexOf_7cf53_7 rfl rfl ?_
    refine V.sgetV (j := 1) (r := 11) hC (by decide) sf_9 dJ0_indexOf_7cf53_8 rfl ?_
    refine V.iload_n (r := 12) hC 1 dJ0_indexOf_7cf53_11 rfl rfl ?_
    refine V.iload_n (r := 13) hC 2 dJ0_indexOf_7cf53_12 rfl rfl ?_
    refine V.aload_n (r := 14) hC 0 dJ0_indexOf_7cf53_13 rfl rfl ?_
    obtain ⟨q6, hq7, h⟩ := Option.bind_eq_some_iff.mp h
    try dsimp only at h
    refine V.invXi (j := 1) (as := []) (st := [.inl a1, .inl a0, .inr 1021]) (r := 17) hC (metJ0_length_8abf5_1011 hq7) yv_J0_length_8abf5 ml_RJ0_505 (by decide) rfl dJ0_indexOf_7cf53_14 (by decide) rfl rfl rfl rfl ?_
    obtain ⟨q8, hq9, h⟩ := Option.bind_eq_some_iff.mp h
    try dsimp only at h
    refine V.invSi (as := [.inr 1021, .inl a0, .inl a1, .inl (q6.1)]) (st := []) (r := 20) hC (metJ1_indexOf_4cfef_1021 hq9) ys_J1_indexOf_4cfef ml_RJ0_637 dJ0_indexOf_7cf53_17 (by decide) rfl rfl rfl rfl ?_
    refine V.goto (tgt := 36) hC dJ0_indexOf_7cf53_20 (by decide) ?_
    cases h
    exact hR _ _ dJ0_indexOf_7cf53_36
theorem metJ0_indexOf_7cf53__1011 {R : Int32 × xMem} {a0 a1 : Int32} {M : xMem} (h : gJ0_indexOf_7cf53__1011 a0 a1 M = some R) : xMet yJ0_indexOf_7cf53 cJ0_indexOf_7cf53 3 (some .int) 2 [.inr 1011, .inl a0, .inl a1] M (some R.1) R.2 := xMet.ofI (by decide +kernel) (Nat.le_of_ble_eq_true rfl) fun _ hC hR => vJ0_indexOf_7cf53__1011  hC hR h
def gJ0_indexOf_0f7a4__1011 (a0 : Int32) (M : xMem) : Option (Int32 × xMem) :=
Option.bind (gJ0_indexOf_7cf53__1011 a0 (0 : Int32) M) fun q1 =>
some (q1.1, q1.2)
set_option maxHeartbeats 4000000 in
set_option maxRecDepth 20000 in
theorem vJ0_indexOf_0f7a4__1011 {G : xG} (hC : xC G cJ0_indexOf_0f7a4 2 RJ0 3) {R : Int32 × xMem} (hR : xRI G cJ0_indexOf_0f7a4 2 R) {a0 : Int32} {M : xMem} (h : gJ0_indexOf_0f7a4__1011 a0 M = some R) : V G 2 0 [(0, .inr 1011), (1, .inl a0)] [] M := by
  unfold gJ0_indexOf_0f7a4__1011 at h
  refine V.aload_n (r := 1) hC 0 dJ0_indexOf_0f7a4_0 rfl rfl ?_
  refine V.iload_n (r := 2) hC 1 dJ0_indexOf_0f7a4_1 rfl rfl ?_
  refine V.iconst (r := 3) hC dJ0_indexOf_0f7a4_2 ki_0 rfl ?_
  obtain ⟨q1, hq2, h⟩ := Option.bind_eq_some_iff.mp h
  try dsimp only at h
  refine V.invXi (j := 1) (as := [.inl a0, .inl (0 : Int32)]) (st := []) (r := 6) hC (metJ0_indexOf_7cf53__1011 hq2) yv_J0_indexOf_7cf53 ml_RJ0_633 (by decide) rfl dJ0_indexOf_0f7a4_3 (by decide) rfl rfl rfl rfl ?_
  cases h
  exact hR _ _ dJ0_indexOf_0f7a4_6
theorem metJ0_indexOf_0f7a4__1011 {R : Int32 × xMem} {a0 : Int32} {M : xMem} (h : gJ0_indexOf_0f7a4__1011 a0 M = some R) : xMet yJ0_indexOf_0f7a4 cJ0_indexOf_0f7a4 2 (some .int) 3 [.inr 1011, .inl a0] M (some R.1) R.2 := xMet.ofI (by decide +kernel) (Nat.le_of_ble_eq_true rfl) fun _ hC hR => vJ0_indexOf_0f7a4__1011  hC hR h
def g4_placeIn_1011 (M : xMem) : Option (Int32 × xMem) :=
if (M 114 0) = (-1 : Int32) then
(some ((-1 : Int32), M))
else
(Option.bind (gJ0_indexOf_0f7a4__1011 (((M 114 0).toUInt32 % 65536).toInt32) M) fun q2 =>
some (q2.1, q2.2))
set_option maxHeartbeats 4000000 in
set_option maxRecDepth 20000 in
theorem v4_placeIn_1011 {G : xG} (hC : xC G cX4_placeIn 2 RX4 4) {R : Int32 × xMem} (hR : xRI G cX4_placeIn 2 R) {M : xMem} (h : g4_placeIn_1011 M = some R) : V G 2 0 [(0, .inr 126), (1, .inr 1011)] [] M := by
  unfold g4_placeIn_1011 at h
  refine V.aload_n (r := 1) hC 0 dX4_placeIn_0 rfl rfl ?_
  refine V.getI (b := 114) (i := 0) (j := 4) (r := 4) hC xcl_4 sh_126 fl_RX4_32 dX4_placeIn_1 (by decide) rfl rfl ?_
  refine V.iconst (r := 5) hC dX4_placeIn_4 ki_m1 rfl ?_
  refine V.icmp_ne (tgt := 12) (r := 8) hC dX4_placeIn_5 (by decide) rfl (fun c1 => ?_) (fun c1 => ?_)
  · rw [if_neg c1] at h
    refine V.aload_n (r := 13) hC 1 dX4_placeIn_12 rfl rfl ?_
    refine V.aload_n (r := 14) hC 0 dX4_placeIn_13 rfl rfl ?_
    refine V.getI (b := 114) (i := 0) (j := 4) (r := 17) hC xcl_4 sh_126 fl_RX4_32 dX4_placeIn_14 (by decide) rfl rfl ?_
    refine V.i2c (r := 18) hC dX4_placeIn_17 rfl ?_
    obtain ⟨q2, hq3, h⟩ := Option.bind_eq_some_iff.mp h
    try dsimp only at h
    refine V.invXi (j := 1) (as := [.inl (((M 114 0).toUInt32 % 65536).toInt32)]) (st := []) (r := 21) hC (metJ0_indexOf_0f7a4__1011 hq3) yv_J0_indexOf_0f7a4 ml_RX4_109 (by decide) rfl dX4_placeIn_18 (by decide) rfl rfl rfl rfl ?_
    cases h
    exact hR _ _ dX4_placeIn_21
  · rw [if_pos c1] at h
    refine V.iconst (r := 9) hC dX4_placeIn_8 ki_m1 rfl ?_
    refine V.goto (tgt := 21) hC dX4_placeIn_9 (by decide) ?_
    cases h
    exact hR _ _ dX4_placeIn_21
theorem met4_placeIn_1011 {R : Int32 × xMem} {M : xMem} (h : g4_placeIn_1011 M = some R) : xMet yX4_placeIn cX4_placeIn 2 (some .int) 4 [.inr 126, .inr 1011] M (some R.1) R.2 := xMet.ofI (by decide +kernel) (Nat.le_of_ble_eq_true rfl) fun _ hC hR => v4_placeIn_1011  hC hR h
