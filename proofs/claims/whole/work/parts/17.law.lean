-- 17.law
def gL_law_b1377 (L : Nat) (xs : Nat → Int32) (k18 : Int32 → xMem → Option (Int32 × xMem)) (x3 : Int32) (M : xMem) : Option (Int32 × xMem) :=
k18 (x3 + (7 : Int32)) M
set_option maxHeartbeats 4000000 in
set_option maxRecDepth 20000 in
theorem vL_law_b1377 {G : xG} {L : Nat} {xs : Nat → Int32} (hX : xScr G L xs) (hC : xC G cL_law 4 RL 2000) {R : Int32 × xMem} (hR : xRI G cL_law 4 R) {k18 : Int32 → xMem → Option (Int32 × xMem)} (hk18 : ∀ (y3 : Int32) (N : xMem), k18 y3 N = some R → V G 4 18 [(0, .inr 2000), (1, .inr 0), (2, .inr 154), (3, .inl y3)] [] N) (x3 : Int32) (M : xMem) (h : gL_law_b1377 L xs k18 x3 M = some R) : V G 4 1377 [(0, .inr 2000), (1, .inr 0), (2, .inr 154), (3, .inl x3)] [] M := by
  unfold gL_law_b1377 at h
  refine V.inc (lv' := [(0, .inr 2000), (1, .inr 0), (2, .inr 154), (3, .inl (x3 + (7 : Int32)))]) (r := 1380) hC 3 dL_law_1377 rfl ki_7 rfl rfl rfl ?_
  refine V.goto (tgt := 18) hC dL_law_1380 (by decide) ?_
  exact hk18 _ _ h
def gL_law_b355 (L : Nat) (xs : Nat → Int32) (k18 : Int32 → xMem → Option (Int32 × xMem)) (x3 s0 s2 s3 s4 s5 s6 : Int32) (M : xMem) : Option (Int32 × xMem) :=
Option.bind (g9_stray s2 s3 s4 s5 s6 M) fun q291 =>
if s0 = (q291.1) then
(gL_law_b1377 L xs k18 x3 q291.2)
else
(some ((0 : Int32), q291.2))
set_option maxHeartbeats 4000000 in
set_option maxRecDepth 20000 in
theorem vL_law_b355 {G : xG} {L : Nat} {xs : Nat → Int32} (hX : xScr G L xs) (hC : xC G cL_law 4 RL 2000) {R : Int32 × xMem} (hR : xRI G cL_law 4 R) {k18 : Int32 → xMem → Option (Int32 × xMem)} (hk18 : ∀ (y3 : Int32) (N : xMem), k18 y3 N = some R → V G 4 18 [(0, .inr 2000), (1, .inr 0), (2, .inr 154), (3, .inl y3)] [] N) (x3 s0 s2 s3 s4 s5 s6 : Int32) (M : xMem) (h : gL_law_b355 L xs k18 x3 s0 s2 s3 s4 s5 s6 M = some R) : V G 4 355 [(0, .inr 2000), (1, .inr 0), (2, .inr 154), (3, .inl x3)] [.inl s6, .inl s5, .inl s4, .inl s3, .inl s2, .inr 154, .inl s0] M := by
  unfold gL_law_b355 at h
  obtain ⟨q291, hq292, h⟩ := Option.bind_eq_some_iff.mp h
  try dsimp only at h
  refine V.invVi (as := [.inl s2, .inl s3, .inl s4, .inl s5, .inl s6]) (st := [.inl s0]) (r := 358) hC (met9_stray hq292) yv_X9_stray ml_RL_27 sh_154 rfl rfl dL_law_355 (by decide) rfl rfl rfl rfl ?_
  refine V.icmp_eq (tgt := 1377) (r := 361) hC dL_law_358 (by decide) rfl (fun c293 => ?_) (fun c293 => ?_)
  · rw [if_pos c293] at h
    exact vL_law_b1377 hX hC hR hk18 _ _ h
  · rw [if_neg c293] at h
    refine V.iconst (r := 362) hC dL_law_361 ki_0 rfl ?_
    cases h
    exact hR _ _ dL_law_362
def gL_law_b318 (L : Nat) (xs : Nat → Int32) (k18 : Int32 → xMem → Option (Int32 × xMem)) (x3 s1 s2 s3 s4 s5 : Int32) (M : xMem) : Option (Int32 × xMem) :=
Option.bind (g8_stray s1 s2 s3 s4 s5 M) fun q283 =>
if (x3 + (1 : Int32)) < 0 ∨ L ≤ (x3 + (1 : Int32)).toNatClampNeg then none else
if (x3 + (2 : Int32)) < 0 ∨ L ≤ (x3 + (2 : Int32)).toNatClampNeg then none else
if (x3 + (3 : Int32)) < 0 ∨ L ≤ (x3 + (3 : Int32)).toNatClampNeg then none else
if (x3 + (4 : Int32)) < 0 ∨ L ≤ (x3 + (4 : Int32)).toNatClampNeg then none else
if (x3 + (5 : Int32)) < 0 ∨ L ≤ (x3 + (5 : Int32)).toNatClampNeg then none else
if (xs (x3 + (5 : Int32)).toNatClampNeg) = 0 then
(gL_law_b355 L xs k18 x3 (q283.1) (xs (x3 + (1 : Int32)).toNatClampNeg) (xs (x3 + (2 : Int32)).toNatClampNeg) (xs (x3 + (3 : Int32)).toNatClampNeg) (xs (x3 + (4 : Int32)).toNatClampNeg) (0 : Int32) q283.2)
else
(gL_law_b355 L xs k18 x3 (q283.1) (xs (x3 + (1 : Int32)).toNatClampNeg) (xs (x3 + (2 : Int32)).toNatClampNeg) (xs (x3 + (3 : Int32)).toNatClampNeg) (xs (x3 + (4 : Int32)).toNatClampNeg) (1 : Int32) q283.2)
set_option maxHeartbeats 4000000 in
set_option maxRecDepth 20000 in
theorem vL_law_b318 {G : xG} {L : Nat} {xs : Nat → Int32} (hX : xScr G L xs) (hC : xC G cL_law 4 RL 2000) {R : Int32 × xMem} (hR : xRI G cL_law 4 R) {k18 : Int32 → xMem → Option (Int32 × xMem)} (hk18 : ∀ (y3 : Int32) (N : xMem), k18 y3 N = some R → V G 4 18 [(0, .inr 2000), (1, .inr 0), (2, .inr 154), (3, .inl y3)] [] N) (x3 s1 s2 s3 s4 s5 : Int32) (M : xMem) (h : gL_law_b318 L xs k18 x3 s1 s2 s3 s4 s5 M = some R) : V G 4 318 [(0, .inr 2000), (1, .inr 0), (2, .inr 154), (3, .inl x3)] [.inl s5, .inl s4, .inl s3, .inl s2, .inl s1, .inr 0] M := by
  unfold gL_law_b318 at h
  obtain ⟨q283, hq284, h⟩ := Option.bind_eq_some_iff.mp h
  try dsimp only at h
  refine V.invVi (as := [.inl s1, .inl s2, .inl s3, .inl s4, .inl s5]) (st := []) (r := 321) hC (met8_stray hq284) yv_X8_stray ml_RL_23 sh_0 rfl rfl dL_law_318 (by decide) rfl rfl rfl rfl ?_
  refine V.aload_n (r := 322) hC 2 dL_law_321 rfl rfl ?_
  refine V.aload_n (r := 323) hC 0 dL_law_322 rfl rfl ?_
  refine V.iload_n (r := 324) hC 3 dL_law_323 rfl rfl ?_
  refine V.iconst (r := 325) hC dL_law_324 ki_1 rfl ?_
  refine V.iadd (r := 326) hC dL_law_325 rfl ?_
  by_cases c285 : (x3 + (1 : Int32)) < 0 ∨ L ≤ (x3 + (1 : Int32)).toNatClampNeg
  · rw [if_pos c285] at h; cases h
  rw [if_neg c285] at h
  refine V.sld (r := 327) hC hX dL_law_326 c285 rfl ?_
  refine V.aload_n (r := 328) hC 0 dL_law_327 rfl rfl ?_
  refine V.iload_n (r := 329) hC 3 dL_law_328 rfl rfl ?_
  refine V.iconst (r := 330) hC dL_law_329 ki_2 rfl ?_
  refine V.iadd (r := 331) hC dL_law_330 rfl ?_
  by_cases c286 : (x3 + (2 : Int32)) < 0 ∨ L ≤ (x3 + (2 : Int32)).toNatClampNeg
  · rw [if_pos c286] at h; cases h
  rw [if_neg c286] at h
  refine V.sld (r := 332) hC hX dL_law_331 c286 rfl ?_
  refine V.aload_n (r := 333) hC 0 dL_law_332 rfl rfl ?_
  refine V.iload_n (r := 334) hC 3 dL_law_333 rfl rfl ?_
  refine V.iconst (r := 335) hC dL_law_334 ki_3 rfl ?_
  refine V.iadd (r := 336) hC dL_law_335 rfl ?_
  by_cases c287 : (x3 + (3 : Int32)) < 0 ∨ L ≤ (x3 + (3 : Int32)).toNatClampNeg
  · rw [if_pos c287] at h; cases h
  rw [if_neg c287] at h
  refine V.sld (r := 337) hC hX dL_law_336 c287 rfl ?_
  refine V.aload_n (r := 338) hC 0 dL_law_337 rfl rfl ?_
  refine V.iload_n (r := 339) hC 3 dL_law_338 rfl rfl ?_
  refine V.iconst (r := 340) hC dL_law_339 ki_4 rfl ?_
  refine V.iadd (r := 341) hC dL_law_340 rfl ?_
  by_cases c288 : (x3 + (4 : Int32)) < 0 ∨ L ≤ (x3 + (4 : Int32)).toNatClampNeg
  · rw [if_pos c288] at h; cases h
  rw [if_neg c288] at h
  refine V.sld (r := 342) hC hX dL_law_341 c288 rfl ?_
  refine V.aload_n (r := 343) hC 0 dL_law_342 rfl rfl ?_
  refine V.iload_n (r := 344) hC 3 dL_law_343 rfl rfl ?_
  refine V.iconst (r := 345) hC dL_law_344 ki_5 rfl ?_
  refine V.iadd (r := 346) hC dL_law_345 rfl ?_
  by_cases c289 : (x3 + (5 : Int32)) < 0 ∨ L ≤ (x3 + (5 : Int32)).toNatClampNeg
  · rw [if_pos c289] at h; cases h
  rw [if_neg c289] at h
  refine V.sld (r := 347) hC hX dL_law_346 c289 rfl ?_
  refine V.if_eq (tgt := 354) (r := 350) hC dL_law_347 (by decide) rfl (fun c290 => ?_) (fun c290 => ?_)
  · rw [if_pos c290] at h
    refine V.iconst (r := 355) hC dL_law_354 ki_0 rfl ?_
    exact vL_law_b355 hX hC hR hk18 _ _ _ _ _ _ _ _ h
  · rw [if_neg c290] at h
    refine V.iconst (r := 351) hC dL_law_350 ki_1 rfl ?_
    refine V.goto (tgt := 355) hC dL_law_351 (by decide) ?_
    exact vL_law_b355 hX hC hR hk18 _ _ _ _ _ _ _ _ h
def gL_law_b535 (L : Nat) (xs : Nat → Int32) (k18 : Int32 → xMem → Option (Int32 × xMem)) (x3 s0 s2 s3 : Int32) (M : xMem) : Option (Int32 × xMem) :=
Option.bind (g9_fire s2 s3 M) fun q280 =>
if s0 = (q280.1) then
(gL_law_b1377 L xs k18 x3 q280.2)
else
(some ((0 : Int32), q280.2))
set_option maxHeartbeats 4000000 in
set_option maxRecDepth 20000 in
theorem vL_law_b535 {G : xG} {L : Nat} {xs : Nat → Int32} (hX : xScr G L xs) (hC : xC G cL_law 4 RL 2000) {R : Int32 × xMem} (hR : xRI G cL_law 4 R) {k18 : Int32 → xMem → Option (Int32 × xMem)} (hk18 : ∀ (y3 : Int32) (N : xMem), k18 y3 N = some R → V G 4 18 [(0, .inr 2000), (1, .inr 0), (2, .inr 154), (3, .inl y3)] [] N) (x3 s0 s2 s3 : Int32) (M : xMem) (h : gL_law_b535 L xs k18 x3 s0 s2 s3 M = some R) : V G 4 535 [(0, .inr 2000), (1, .inr 0), (2, .inr 154), (3, .inl x3)] [.inl s3, .inl s2, .inr 154, .inl s0] M := by
  unfold gL_law_b535 at h
  obtain ⟨q280, hq281, h⟩ := Option.bind_eq_some_iff.mp h
  try dsimp only at h
  refine V.invVi (as := [.inl s2, .inl s3]) (st := [.inl s0]) (r := 538) hC (met9_fire hq281) yv_X9_fire ml_RL_47 sh_154 rfl rfl dL_law_535 (by decide) rfl rfl rfl rfl ?_
  refine V.icmp_eq (tgt := 1377) (r := 541) hC dL_law_538 (by decide) rfl (fun c282 => ?_) (fun c282 => ?_)
  · rw [if_pos c282] at h
    exact vL_law_b1377 hX hC hR hk18 _ _ h
  · rw [if_neg c282] at h
    refine V.iconst (r := 542) hC dL_law_541 ki_0 rfl ?_
    cases h
    exact hR _ _ dL_law_542
def gL_law_b513 (L : Nat) (xs : Nat → Int32) (k18 : Int32 → xMem → Option (Int32 × xMem)) (x3 s1 s2 : Int32) (M : xMem) : Option (Int32 × xMem) :=
Option.bind (g8_fire s1 s2 M) fun q275 =>
if (x3 + (1 : Int32)) < 0 ∨ L ≤ (x3 + (1 : Int32)).toNatClampNeg then none else
if (x3 + (2 : Int32)) < 0 ∨ L ≤ (x3 + (2 : Int32)).toNatClampNeg then none else
if (xs (x3 + (2 : Int32)).toNatClampNeg) = 0 then
(gL_law_b535 L xs k18 x3 (q275.1) (xs (x3 + (1 : Int32)).toNatClampNeg) (0 : Int32) q275.2)
else
(gL_law_b535 L xs k18 x3 (q275.1) (xs (x3 + (1 : Int32)).toNatClampNeg) (1 : Int32) q275.2)
set_option maxHeartbeats 4000000 in
set_option maxRecDepth 20000 in
theorem vL_law_b513 {G : xG} {L : Nat} {xs : Nat → Int32} (hX : xScr G L xs) (hC : xC G cL_law 4 RL 2000) {R : Int32 × xMem} (hR : xRI G cL_law 4 R) {k18 : Int32 → xMem → Option (Int32 × xMem)} (hk18 : ∀ (y3 : Int32) (N : xMem), k18 y3 N = some R → V G 4 18 [(0, .inr 2000), (1, .inr 0), (2, .inr 154), (3, .inl y3)] [] N) (x3 s1 s2 : Int32) (M : xMem) (h : gL_law_b513 L xs k18 x3 s1 s2 M = some R) : V G 4 513 [(0, .inr 2000), (1, .inr 0), (2, .inr 154), (3, .inl x3)] [.inl s2, .inl s1, .inr 0] M := by
  unfold gL_law_b513 at h
  obtain ⟨q275, hq276, h⟩ := Option.bind_eq_some_iff.mp h
  try dsimp only at h
  refine V.invVi (as := [.inl s1, .inl s2]) (st := []) (r := 516) hC (met8_fire hq276) yv_X8_fire ml_RL_43 sh_0 rfl rfl dL_law_513 (by decide) rfl rfl rfl rfl ?_
  refine V.aload_n (r := 517) hC 2 dL_law_516 rfl rfl ?_
  refine V.aload_n (r := 518) hC 0 dL_law_517 rfl rfl ?_
  refine V.iload_n (r := 519) hC 3 dL_law_518 rfl rfl ?_
  refine V.iconst (r := 520) hC dL_law_519 ki_1 rfl ?_
  refine V.iadd (r := 521) hC dL_law_520 rfl ?_
  by_cases c277 : (x3 + (1 : Int32)) < 0 ∨ L ≤ (x3 + (1 : Int32)).toNatClampNeg
  · rw [if_pos c277] at h; cases h
  rw [if_neg c277] at h
  refine V.sld (r := 522) hC hX dL_law_521 c277 rfl ?_
  refine V.aload_n (r := 523) hC 0 dL_law_522 rfl rfl ?_
  refine V.iload_n (r := 524) hC 3 dL_law_523 rfl rfl ?_
  refine V.iconst (r := 525) hC dL_law_524 ki_2 rfl ?_
  refine V.iadd (r := 526) hC dL_law_525 rfl ?_
  by_cases c278 : (x3 + (2 : Int32)) < 0 ∨ L ≤ (x3 + (2 : Int32)).toNatClampNeg
  · rw [if_pos c278] at h; cases h
  rw [if_neg c278] at h
  refine V.sld (r := 527) hC hX dL_law_526 c278 rfl ?_
  refine V.if_eq (tgt := 534) (r := 530) hC dL_law_527 (by decide) rfl (fun c279 => ?_) (fun c279 => ?_)
  · rw [if_pos c279] at h
    refine V.iconst (r := 535) hC dL_law_534 ki_0 rfl ?_
    exact vL_law_b535 hX hC hR hk18 _ _ _ _ _ h
  · rw [if_neg c279] at h
    refine V.iconst (r := 531) hC dL_law_530 ki_1 rfl ?_
    refine V.goto (tgt := 535) hC dL_law_531 (by decide) ?_
    exact vL_law_b535 hX hC hR hk18 _ _ _ _ _ h
def gL_law_b18 (L : Nat) (xs : Nat → Int32) : Nat → Int32 → xMem → Option (Int32 × xMem)
  | 0, _, _ => none
  | n + 1, x3, M => 
    (if ((Int32.ofNat L) - (7 : Int32)) < x3 then
    (some ((1 : Int32), M))
    else
    (if x3 < 0 ∨ L ≤ x3.toNatClampNeg then none else
    if ((xs x3.toNatClampNeg) &&& (63 : Int32)) = (0 : Int32) then
    (if (x3 + (1 : Int32)) < 0 ∨ L ≤ (x3 + (1 : Int32)).toNatClampNeg then none else
    if (x3 + (2 : Int32)) < 0 ∨ L ≤ (x3 + (2 : Int32)).toNatClampNeg then none else
    if (x3 + (3 : Int32)) < 0 ∨ L ≤ (x3 + (3 : Int32)).toNatClampNeg then none else
    Option.bind (g8_ground (xs (x3 + (1 : Int32)).toNatClampNeg) (xs (x3 + (2 : Int32)).toNatClampNeg) (xs (x3 + (3 : Int32)).toNatClampNeg) M) fun q7 =>
    Option.bind (g9_ground (xs (x3 + (1 : Int32)).toNatClampNeg) (xs (x3 + (2 : Int32)).toNatClampNeg) (xs (x3 + (3 : Int32)).toNatClampNeg) q7.2) fun q9 =>
    if (q7.1) = (q9.1) then
    (gL_law_b1377 L xs (gL_law_b18 L xs n) x3 q9.2)
    else
    (some ((0 : Int32), q9.2)))
    else
    if ((xs x3.toNatClampNeg) &&& (63 : Int32)) = (1 : Int32) then
    (if (x3 + (1 : Int32)) < 0 ∨ L ≤ (x3 + (1 : Int32)).toNatClampNeg then none else
    if (x3 + (2 : Int32)) < 0 ∨ L ≤ (x3 + (2 : Int32)).toNatClampNeg then none else
    if (x3 + (3 : Int32)) < 0 ∨ L ≤ (x3 + (3 : Int32)).toNatClampNeg then none else
    if (x3 + (4 : Int32)) < 0 ∨ L ≤ (x3 + (4 : Int32)).toNatClampNeg then none else
    Option.bind (g8_inn (xs (x3 + (1 : Int32)).toNatClampNeg) (xs (x3 + (2 : Int32)).toNatClampNeg) (xs (x3 + (3 : Int32)).toNatClampNeg) (xs (x3 + (4 : Int32)).toNatClampNeg) M) fun q17 =>
    Option.bind (g9_inn (xs (x3 + (1 : Int32)).toNatClampNeg) (xs (x3 + (2 : Int32)).toNatClampNeg) (xs (x3 + (3 : Int32)).toNatClampNeg) (xs (x3 + (4 : Int32)).toNatClampNeg) q17.2) fun q19 =>
    if (q17.1) = (q19.1) then
    (gL_law_b1377 L xs (gL_law_b18 L xs n) x3 q19.2)
    else
    (some ((0 : Int32), q19.2)))
    else
    if ((xs x3.toNatClampNeg) &&& (63 : Int32)) = (2 : Int32) then
    (if (x3 + (1 : Int32)) < 0 ∨ L ≤ (x3 + (1 : Int32)).toNatClampNeg then none else
    if (x3 + (2 : Int32)) < 0 ∨ L ≤ (x3 + (2 : Int32)).toNatClampNeg then none else
    if (x3 + (3 : Int32)) < 0 ∨ L ≤ (x3 + (3 : Int32)).toNatClampNeg then none else
    if (x3 + (4 : Int32)) < 0 ∨ L ≤ (x3 + (4 : Int32)).toNatClampNeg then none else
    if (x3 + (5 : Int32)) < 0 ∨ L ≤ (x3 + (5 : Int32)).toNatClampNeg then none else
    if (xs (x3 + (5 : Int32)).toNatClampNeg) = 0 then
    (gL_law_b318 L xs (gL_law_b18 L xs n) x3 (xs (x3 + (1 : Int32)).toNatClampNeg) (xs (x3 + (2 : Int32)).toNatClampNeg) (xs (x3 + (3 : Int32)).toNatClampNeg) (xs (x3 + (4 : Int32)).toNatClampNeg) (0 : Int32) M)
    else
    (gL_law_b318 L xs (gL_law_b18 L xs n) x3 (xs (x3 + (1 : Int32)).toNatClampNeg) (xs (x3 + (2 : Int32)).toNatClampNeg) (xs (x3 + (3 : Int32)).toNatClampNeg) (xs (x3 + (4 : Int32)).toNatClampNeg) (1 : Int32) M))
    else
    if ((xs x3.toNatClampNeg) &&& (63 : Int32)) = (3 : Int32) then
    (if (x3 + (1 : Int32)) < 0 ∨ L ≤ (x3 + (1 : Int32)).toNatClampNeg then none else
    Option.bind (g8_gone (xs (x3 + (1 : Int32)).toNatClampNeg) M) fun q31 =>
    Option.bind (g9_gone (xs (x3 + (1 : Int32)).toNatClampNeg) q31.2) fun q33 =>
    if (q31.1) = (q33.1) then
    (gL_law_b1377 L xs (gL_law_b18 L xs n) x3 q33.2)
    else
    (some ((0 : Int32), q33.2)))
    else
    if ((xs x3.toNatClampNeg) &&& (63 : Int32)) = (4 : Int32) then
    (if (x3 + (1 : Int32)) < 0 ∨ L ≤ (x3 + (1 : Int32)).toNatClampNeg then none else
    if (x3 + (2 : Int32)) < 0 ∨ L ≤ (x3 + (2 : Int32)).toNatClampNeg then none else
    Option.bind (g8_dog (xs (x3 + (1 : Int32)).toNatClampNeg) (xs (x3 + (2 : Int32)).toNatClampNeg) M) fun q39 =>
    Option.bind (g9_dog (xs (x3 + (1 : Int32)).toNatClampNeg) (xs (x3 + (2 : Int32)).toNatClampNeg) q39.2) fun q41 =>
    if (q39.1) = (q41.1) then
    (gL_law_b1377 L xs (gL_law_b18 L xs n) x3 q41.2)
    else
    (some ((0 : Int32), q41.2)))
    else
    if ((xs x3.toNatClampNeg) &&& (63 : Int32)) = (5 : Int32) then
    (if (x3 + (1 : Int32)) < 0 ∨ L ≤ (x3 + (1 : Int32)).toNatClampNeg then none else
    if (x3 + (2 : Int32)) < 0 ∨ L ≤ (x3 + (2 : Int32)).toNatClampNeg then none else
    if (x3 + (3 : Int32)) < 0 ∨ L ≤ (x3 + (3 : Int32)).toNatClampNeg then none else
    if (x3 + (4 : Int32)) < 0 ∨ L ≤ (x3 + (4 : Int32)).toNatClampNeg then none else
    if (x3 + (5 : Int32)) < 0 ∨ L ≤ (x3 + (5 : Int32)).toNatClampNeg then none else
    if (x3 + (6 : Int32)) < 0 ∨ L ≤ (x3 + (6 : Int32)).toNatClampNeg then none else
    Option.bind (g8_herd (xs (x3 + (1 : Int32)).toNatClampNeg) (xs (x3 + (2 : Int32)).toNatClampNeg) (xs (x3 + (3 : Int32)).toNatClampNeg) (xs (x3 + (4 : Int32)).toNatClampNeg) (xs (x3 + (5 : Int32)).toNatClampNeg) (xs (x3 + (6 : Int32)).toNatClampNeg) M) fun q51 =>
    Option.bind (g9_herd (xs (x3 + (1 : Int32)).toNatClampNeg) (xs (x3 + (2 : Int32)).toNatClampNeg) (xs (x3 + (3 : Int32)).toNatClampNeg) (xs (x3 + (4 : Int32)).toNatClampNeg) (xs (x3 + (5 : Int32)).toNatClampNeg) (xs (x3 + (6 : Int32)).toNatClampNeg) q51.2) fun q53 =>
    if (q51.1) = (q53.1) then
    (gL_law_b1377 L xs (gL_law_b18 L xs n) x3 q53.2)
    else
    (some ((0 : Int32), q53.2)))
    else
    if ((xs x3.toNatClampNeg) &&& (63 : Int32)) = (6 : Int32) then
    (if (x3 + (1 : Int32)) < 0 ∨ L ≤ (x3 + (1 : Int32)).toNatClampNeg then none else
    if (x3 + (2 : Int32)) < 0 ∨ L ≤ (x3 + (2 : Int32)).toNatClampNeg then none else
    if (xs (x3 + (2 : Int32)).toNatClampNeg) = 0 then
    (gL_law_b513 L xs (gL_law_b18 L xs n) x3 (xs (x3 + (1 : Int32)).toNatClampNeg) (0 : Int32) M)
    else
    (gL_law_b513 L xs (gL_law_b18 L xs n) x3 (xs (x3 + (1 : Int32)).toNatClampNeg) (1 : Int32) M))
    else
    if ((xs x3.toNatClampNeg) &&& (63 : Int32)) = (7 : Int32) then
    (if (x3 + (1 : Int32)) < 0 ∨ L ≤ (x3 + (1 : Int32)).toNatClampNeg then none else
    if (x3 + (2 : Int32)) < 0 ∨ L ≤ (x3 + (2 : Int32)).toNatClampNeg then none else
    Option.bind (g8_drover (xs (x3 + (1 : Int32)).toNatClampNeg) (xs (x3 + (2 : Int32)).toNatClampNeg) M) fun q63 =>
    Option.bind (g9_drover (xs (x3 + (1 : Int32)).toNatClampNeg) (xs (x3 + (2 : Int32)).toNatClampNeg) q63.2) fun q65 =>
    if (q63.1) = (q65.1) then
    (gL_law_b1377 L xs (gL_law_b18 L xs n) x3 q65.2)
    else
    (some ((0 : Int32), q65.2)))
    else
    if ((xs x3.toNatClampNeg) &&& (63 : Int32)) = (8 : Int32) then
    (if (x3 + (1 : Int32)) < 0 ∨ L ≤ (x3 + (1 : Int32)).toNatClampNeg then none else
    if (x3 + (2 : Int32)) < 0 ∨ L ≤ (x3 + (2 : Int32)).toNatClampNeg then none else
    if (x3 + (3 : Int32)) < 0 ∨ L ≤ (x3 + (3 : Int32)).toNatClampNeg then none else
    if (x3 + (4 : Int32)) < 0 ∨ L ≤ (x3 + (4 : Int32)).toNatClampNeg then none else
    if (x3 + (5 : Int32)) < 0 ∨ L ≤ (x3 + (5 : Int32)).toNatClampNeg then none else
    Option.bind (g8_feed (xs (x3 + (1 : Int32)).toNatClampNeg) (xs (x3 + (2 : Int32)).toNatClampNeg) (xs (x3 + (3 : Int32)).toNatClampNeg) (xs (x3 + (4 : Int32)).toNatClampNeg) (xs (x3 + (5 : Int32)).toNatClampNeg) M) fun q74 =>
    Option.bind (g9_feed (xs (x3 + (1 : Int32)).toNatClampNeg) (xs (x3 + (2 : Int32)).toNatClampNeg) (xs (x3 + (3 : Int32)).toNatClampNeg) (xs (x3 + (4 : Int32)).toNatClampNeg) (xs (x3 + (5 : Int32)).toNatClampNeg) q74.2) fun q76 =>
    if (q74.1) = (q76.1) then
    (gL_law_b1377 L xs (gL_law_b18 L xs n) x3 q76.2)
    else
    (some ((0 : Int32), q76.2)))
    else
    if ((xs x3.toNatClampNeg) &&& (63 : Int32)) = (9 : Int32) then
    (if (x3 + (1 : Int32)) < 0 ∨ L ≤ (x3 + (1 : Int32)).toNatClampNeg then none else
    Option.bind (g8_law (xs (x3 + (1 : Int32)).toNatClampNeg) M) fun q81 =>
    Option.bind (g9_law (xs (x3 + (1 : Int32)).toNatClampNeg) q81.2) fun q83 =>
    if (q81.1) = (q83.1) then
    (gL_law_b1377 L xs (gL_law_b18 L xs n) x3 q83.2)
    else
    (some ((0 : Int32), q83.2)))
    else
    if ((xs x3.toNatClampNeg) &&& (63 : Int32)) = (10 : Int32) then
    (if (x3 + (1 : Int32)) < 0 ∨ L ≤ (x3 + (1 : Int32)).toNatClampNeg then none else
    Option.bind (g8_price (xs (x3 + (1 : Int32)).toNatClampNeg) M) fun q88 =>
    Option.bind (g9_price (xs (x3 + (1 : Int32)).toNatClampNeg) q88.2) fun q90 =>
    if (q88.1) = (q90.1) then
    (gL_law_b1377 L xs (gL_law_b18 L xs n) x3 q90.2)
    else
    (some ((0 : Int32), q90.2)))
    else
    if ((xs x3.toNatClampNeg) &&& (63 : Int32)) = (11 : Int32) then
    (if (x3 + (1 : Int32)) < 0 ∨ L ≤ (x3 + (1 : Int32)).toNatClampNeg then none else
    if (x3 + (2 : Int32)) < 0 ∨ L ≤ (x3 + (2 : Int32)).toNatClampNeg then none else
    if (x3 + (3 : Int32)) < 0 ∨ L ≤ (x3 + (3 : Int32)).toNatClampNeg then none else
    Option.bind (g8_pay (xs (x3 + (1 : Int32)).toNatClampNeg) (xs (x3 + (2 : Int32)).toNatClampNeg) (xs (x3 + (3 : Int32)).toNatClampNeg) M) fun q97 =>
    Option.bind (g9_pay (xs (x3 + (1 : Int32)).toNatClampNeg) (xs (x3 + (2 : Int32)).toNatClampNeg) (xs (x3 + (3 : Int32)).toNatClampNeg) q97.2) fun q99 =>
    if (q97.1) = (q99.1) then
    (gL_law_b1377 L xs (gL_law_b18 L xs n) x3 q99.2)
    else
    (some ((0 : Int32), q99.2)))
    else
    if ((xs x3.toNatClampNeg) &&& (63 : Int32)) = (12 : Int32) then
    (if (x3 + (1 : Int32)) < 0 ∨ L ≤ (x3 + (1 : Int32)).toNatClampNeg then none else
    Option.bind (g8_clouds (xs (x3 + (1 : Int32)).toNatClampNeg) M) fun q104 =>
    Option.bind (g9_clouds (xs (x3 + (1 : Int32)).toNatClampNeg) q104.2) fun q106 =>
    if (q104.1) = (q106.1) then
    (gL_law_b1377 L xs (gL_law_b18 L xs n) x3 q106.2)
    else
    (some ((0 : Int32), q106.2)))
    else
    if ((xs x3.toNatClampNeg) &&& (63 : Int32)) = (13 : Int32) then
    (if (x3 + (1 : Int32)) < 0 ∨ L ≤ (x3 + (1 : Int32)).toNatClampNeg then none else
    Option.bind (g8_lit (xs (x3 + (1 : Int32)).toNatClampNeg) M) fun q111 =>
    Option.bind (g9_lit (xs (x3 + (1 : Int32)).toNatClampNeg) q111.2) fun q113 =>
    if (q111.1) = (q113.1) then
    (gL_law_b1377 L xs (gL_law_b18 L xs n) x3 q113.2)
    else
    (some ((0 : Int32), q113.2)))
    else
    if ((xs x3.toNatClampNeg) &&& (63 : Int32)) = (14 : Int32) then
    (if (x3 + (1 : Int32)) < 0 ∨ L ≤ (x3 + (1 : Int32)).toNatClampNeg then none else
    if (x3 + (2 : Int32)) < 0 ∨ L ≤ (x3 + (2 : Int32)).toNatClampNeg then none else
    Option.bind (g8_pull (xs (x3 + (1 : Int32)).toNatClampNeg) (xs (x3 + (2 : Int32)).toNatClampNeg) M) fun q119 =>
    Option.bind (g9_pull (xs (x3 + (1 : Int32)).toNatClampNeg) (xs (x3 + (2 : Int32)).toNatClampNeg) q119.2) fun q121 =>
    if (q119.1) = (q121.1) then
    (gL_law_b1377 L xs (gL_law_b18 L xs n) x3 q121.2)
    else
    (some ((0 : Int32), q121.2)))
    else
    if ((xs x3.toNatClampNeg) &&& (63 : Int32)) = (15 : Int32) then
    (if (x3 + (1 : Int32)) < 0 ∨ L ≤ (x3 + (1 : Int32)).toNatClampNeg then none else
    Option.bind (g8_target (xs (x3 + (1 : Int32)).toNatClampNeg) M) fun q126 =>
    Option.bind (g9_target (xs (x3 + (1 : Int32)).toNatClampNeg) q126.2) fun q128 =>
    if (q126.1) = (q128.1) then
    (gL_law_b1377 L xs (gL_law_b18 L xs n) x3 q128.2)
    else
    (some ((0 : Int32), q128.2)))
    else
    if ((xs x3.toNatClampNeg) &&& (63 : Int32)) = (16 : Int32) then
    (if (x3 + (1 : Int32)) < 0 ∨ L ≤ (x3 + (1 : Int32)).toNatClampNeg then none else
    Option.bind (g8_hours (xs (x3 + (1 : Int32)).toNatClampNeg) M) fun q133 =>
    Option.bind (g9_hours (xs (x3 + (1 : Int32)).toNatClampNeg) q133.2) fun q135 =>
    if (q133.1) = (q135.1) then
    (gL_law_b1377 L xs (gL_law_b18 L xs n) x3 q135.2)
    else
    (some ((0 : Int32), q135.2)))
    else
    if ((xs x3.toNatClampNeg) &&& (63 : Int32)) = (17 : Int32) then
    (if (x3 + (1 : Int32)) < 0 ∨ L ≤ (x3 + (1 : Int32)).toNatClampNeg then none else
    Option.bind (g8_hour (xs (x3 + (1 : Int32)).toNatClampNeg) M) fun q140 =>
    Option.bind (g9_hour (xs (x3 + (1 : Int32)).toNatClampNeg) q140.2) fun q142 =>
    if (q140.1) = (q142.1) then
    (gL_law_b1377 L xs (gL_law_b18 L xs n) x3 q142.2)
    else
    (some ((0 : Int32), q142.2)))
    else
    if ((xs x3.toNatClampNeg) &&& (63 : Int32)) = (18 : Int32) then
    (if (x3 + (1 : Int32)) < 0 ∨ L ≤ (x3 + (1 : Int32)).toNatClampNeg then none else
    if (x3 + (2 : Int32)) < 0 ∨ L ≤ (x3 + (2 : Int32)).toNatClampNeg then none else
    Option.bind (g8_tried (xs (x3 + (1 : Int32)).toNatClampNeg) (xs (x3 + (2 : Int32)).toNatClampNeg) M) fun q148 =>
    Option.bind (g9_tried (xs (x3 + (1 : Int32)).toNatClampNeg) (xs (x3 + (2 : Int32)).toNatClampNeg) q148.2) fun q150 =>
    if (q148.1) = (q150.1) then
    (gL_law_b1377 L xs (gL_law_b18 L xs n) x3 q150.2)
    else
    (some ((0 : Int32), q150.2)))
    else
    if ((xs x3.toNatClampNeg) &&& (63 : Int32)) = (19 : Int32) then
    (if (x3 + (1 : Int32)) < 0 ∨ L ≤ (x3 + (1 : Int32)).toNatClampNeg then none else
    if (x3 + (2 : Int32)) < 0 ∨ L ≤ (x3 + (2 : Int32)).toNatClampNeg then none else
    Option.bind (g8_herdIs (xs (x3 + (1 : Int32)).toNatClampNeg) (xs (x3 + (2 : Int32)).toNatClampNeg) M) fun q156 =>
    Option.bind (g9_herdIs (xs (x3 + (1 : Int32)).toNatClampNeg) (xs (x3 + (2 : Int32)).toNatClampNeg) q156.2) fun q158 =>
    if (q156.1) = (q158.1) then
    (gL_law_b1377 L xs (gL_law_b18 L xs n) x3 q158.2)
    else
    (some ((0 : Int32), q158.2)))
    else
    if ((xs x3.toNatClampNeg) &&& (63 : Int32)) = (20 : Int32) then
    (if (x3 + (1 : Int32)) < 0 ∨ L ≤ (x3 + (1 : Int32)).toNatClampNeg then none else
    if (x3 + (2 : Int32)) < 0 ∨ L ≤ (x3 + (2 : Int32)).toNatClampNeg then none else
    Option.bind (g8_lampIs (xs (x3 + (1 : Int32)).toNatClampNeg) (xs (x3 + (2 : Int32)).toNatClampNeg) M) fun q164 =>
    Option.bind (g9_lampIs (xs (x3 + (1 : Int32)).toNatClampNeg) (xs (x3 + (2 : Int32)).toNatClampNeg) q164.2) fun q166 =>
    if (q164.1) = (q166.1) then
    (gL_law_b1377 L xs (gL_law_b18 L xs n) x3 q166.2)
    else
    (some ((0 : Int32), q166.2)))
    else
    if ((xs x3.toNatClampNeg) &&& (63 : Int32)) = (21 : Int32) then
    (if (x3 + (1 : Int32)) < 0 ∨ L ≤ (x3 + (1 : Int32)).toNatClampNeg then none else
    Option.bind (g8_led (xs (x3 + (1 : Int32)).toNatClampNeg) M) fun q171 =>
    Option.bind (g9_led (xs (x3 + (1 : Int32)).toNatClampNeg) q171.2) fun q173 =>
    if (q171.1) = (q173.1) then
    (gL_law_b1377 L xs (gL_law_b18 L xs n) x3 q173.2)
    else
    (some ((0 : Int32), q173.2)))
    else
    if ((xs x3.toNatClampNeg) &&& (63 : Int32)) = (22 : Int32) then
    (if (x3 + (1 : Int32)) < 0 ∨ L ≤ (x3 + (1 : Int32)).toNatClampNeg then none else
    if (x3 + (2 : Int32)) < 0 ∨ L ≤ (x3 + (2 : Int32)).toNatClampNeg then none else
    Option.bind (g8_plan (xs (x3 + (1 : Int32)).toNatClampNeg) (xs (x3 + (2 : Int32)).toNatClampNeg) M) fun q179 =>
    Option.bind (g9_plan (xs (x3 + (1 : Int32)).toNatClampNeg) (xs (x3 + (2 : Int32)).toNatClampNeg) q179.2) fun q181 =>
    if (q179.1) = (q181.1) then
    (gL_law_b1377 L xs (gL_law_b18 L xs n) x3 q181.2)
    else
    (some ((0 : Int32), q181.2)))
    else
    if ((xs x3.toNatClampNeg) &&& (63 : Int32)) = (23 : Int32) then
    (if (x3 + (1 : Int32)) < 0 ∨ L ≤ (x3 + (1 : Int32)).toNatClampNeg then none else
    Option.bind (g8_safe (xs (x3 + (1 : Int32)).toNatClampNeg) M) fun q186 =>
    Option.bind (g9_safe (xs (x3 + (1 : Int32)).toNatClampNeg) q186.2) fun q188 =>
    if (q186.1) = (q188.1) then
    (gL_law_b1377 L xs (gL_law_b18 L xs n) x3 q188.2)
    else
    (some ((0 : Int32), q188.2)))
    else
    if ((xs x3.toNatClampNeg) &&& (63 : Int32)) = (24 : Int32) then
    (if (x3 + (1 : Int32)) < 0 ∨ L ≤ (x3 + (1 : Int32)).toNatClampNeg then none else
    if (x3 + (2 : Int32)) < 0 ∨ L ≤ (x3 + (2 : Int32)).toNatClampNeg then none else
    Option.bind (g8_place (xs (x3 + (1 : Int32)).toNatClampNeg) (xs (x3 + (2 : Int32)).toNatClampNeg) M) fun q194 =>
    Option.bind (g9_place (xs (x3 + (1 : Int32)).toNatClampNeg) (xs (x3 + (2 : Int32)).toNatClampNeg) q194.2) fun q196 =>
    if (q194.1) = (q196.1) then
    (gL_law_b1377 L xs (gL_law_b18 L xs n) x3 q196.2)
    else
    (some ((0 : Int32), q196.2)))
    else
    if ((xs x3.toNatClampNeg) &&& (63 : Int32)) = (25 : Int32) then
    (if (x3 + (1 : Int32)) < 0 ∨ L ≤ (x3 + (1 : Int32)).toNatClampNeg then none else
    if (x3 + (2 : Int32)) < 0 ∨ L ≤ (x3 + (2 : Int32)).toNatClampNeg then none else
    if (x3 + (3 : Int32)) < 0 ∨ L ≤ (x3 + (3 : Int32)).toNatClampNeg then none else
    if (x3 + (4 : Int32)) < 0 ∨ L ≤ (x3 + (4 : Int32)).toNatClampNeg then none else
    Option.bind (g8_prices (xs (x3 + (1 : Int32)).toNatClampNeg) (xs (x3 + (2 : Int32)).toNatClampNeg) (xs (x3 + (3 : Int32)).toNatClampNeg) (xs (x3 + (4 : Int32)).toNatClampNeg) M) fun q204 =>
    Option.bind (g9_prices (xs (x3 + (1 : Int32)).toNatClampNeg) (xs (x3 + (2 : Int32)).toNatClampNeg) (xs (x3 + (3 : Int32)).toNatClampNeg) (xs (x3 + (4 : Int32)).toNatClampNeg) q204.2) fun q206 =>
    if (q204.1) = (q206.1) then
    (gL_law_b1377 L xs (gL_law_b18 L xs n) x3 q206.2)
    else
    (some ((0 : Int32), q206.2)))
    else
    if ((xs x3.toNatClampNeg) &&& (63 : Int32)) = (26 : Int32) then
    (if (x3 + (1 : Int32)) < 0 ∨ L ≤ (x3 + (1 : Int32)).toNatClampNeg then none else
    if (x3 + (2 : Int32)) < 0 ∨ L ≤ (x3 + (2 : Int32)).toNatClampNeg then none else
    Option.bind (g8_whoLit (xs (x3 + (1 : Int32)).toNatClampNeg) (xs (x3 + (2 : Int32)).toNatClampNeg) M) fun q212 =>
    Option.bind (g9_whoLit (xs (x3 + (1 : Int32)).toNatClampNeg) (xs (x3 + (2 : Int32)).toNatClampNeg) q212.2) fun q214 =>
    if (q212.1) = (q214.1) then
    (gL_law_b1377 L xs (gL_law_b18 L xs n) x3 q214.2)
    else
    (some ((0 : Int32), q214.2)))
    else
    if ((xs x3.toNatClampNeg) &&& (63 : Int32)) = (27 : Int32) then
    (if (x3 + (1 : Int32)) < 0 ∨ L ≤ (x3 + (1 : Int32)).toNatClampNeg then none else
    if (x3 + (2 : Int32)) < 0 ∨ L ≤ (x3 + (2 : Int32)).toNatClampNeg then none else
    if (x3 + (3 : Int32)) < 0 ∨ L ≤ (x3 + (3 : Int32)).toNatClampNeg then none else
    if (x3 + (4 : Int32)) < 0 ∨ L ≤ (x3 + (4 : Int32)).toNatClampNeg then none else
    Option.bind (g8_where (xs (x3 + (1 : Int32)).toNatClampNeg) (xs (x3 + (2 : Int32)).toNatClampNeg) (xs (x3 + (3 : Int32)).toNatClampNeg) (xs (x3 + (4 : Int32)).toNatClampNeg) M) fun q222 =>
    Option.bind (g9_where (xs (x3 + (1 : Int32)).toNatClampNeg) (xs (x3 + (2 : Int32)).toNatClampNeg) (xs (x3 + (3 : Int32)).toNatClampNeg) (xs (x3 + (4 : Int32)).toNatClampNeg) q222.2) fun q224 =>
    if (q222.1) = (q224.1) then
    (gL_law_b1377 L xs (gL_law_b18 L xs n) x3 q224.2)
    else
    (some ((0 : Int32), q224.2)))
    else
    if ((xs x3.toNatClampNeg) &&& (63 : Int32)) = (28 : Int32) then
    (if (x3 + (1 : Int32)) < 0 ∨ L ≤ (x3 + (1 : Int32)).toNatClampNeg then none else
    if (x3 + (2 : Int32)) < 0 ∨ L ≤ (x3 + (2 : Int32)).toNatClampNeg then none else
    if (x3 + (3 : Int32)) < 0 ∨ L ≤ (x3 + (3 : Int32)).toNatClampNeg then none else
    Option.bind (g8_odds (xs (x3 + (1 : Int32)).toNatClampNeg) (xs (x3 + (2 : Int32)).toNatClampNeg) (xs (x3 + (3 : Int32)).toNatClampNeg) M) fun q231 =>
    Option.bind (g9_odds (xs (x3 + (1 : Int32)).toNatClampNeg) (xs (x3 + (2 : Int32)).toNatClampNeg) (xs (x3 + (3 : Int32)).toNatClampNeg) q231.2) fun q233 =>
    if (q231.1) = (q233.1) then
    (gL_law_b1377 L xs (gL_law_b18 L xs n) x3 q233.2)
    else
    (some ((0 : Int32), q233.2)))
    else
    if ((xs x3.toNatClampNeg) &&& (63 : Int32)) = (29 : Int32) then
    (if (x3 + (1 : Int32)) < 0 ∨ L ≤ (x3 + (1 : Int32)).toNatClampNeg then none else
    Option.bind (g8_seed (xs (x3 + (1 : Int32)).toNatClampNeg) M) fun q238 =>
    Option.bind (g9_seed (xs (x3 + (1 : Int32)).toNatClampNeg) q238.2) fun q240 =>
    if (q238.1) = (q240.1) then
    (gL_law_b1377 L xs (gL_law_b18 L xs n) x3 q240.2)
    else
    (some ((0 : Int32), q240.2)))
    else
    if ((xs x3.toNatClampNeg) &&& (63 : Int32)) = (30 : Int32) then
    (Option.bind (g8_clouded M) fun q244 =>
    Option.bind (g9_clouded q244.2) fun q246 =>
    if (q244.1) = (q246.1) then
    (gL_law_b1377 L xs (gL_law_b18 L xs n) x3 q246.2)
    else
    (some ((0 : Int32), q246.2)))
    else
    if ((xs x3.toNatClampNeg) &&& (63 : Int32)) = (31 : Int32) then
    (Option.bind (g8_keep M) fun q250 =>
    Option.bind (g9_keep q250.2) fun q252 =>
    if (q250.1) = (q252.1) then
    (gL_law_b1377 L xs (gL_law_b18 L xs n) x3 q252.2)
    else
    (some ((0 : Int32), q252.2)))
    else
    if ((xs x3.toNatClampNeg) &&& (63 : Int32)) = (32 : Int32) then
    (Option.bind (g8_undo M) fun q256 =>
    Option.bind (g9_undo q256.2) fun q258 =>
    if (q256.1) = (q258.1) then
    (gL_law_b1377 L xs (gL_law_b18 L xs n) x3 q258.2)
    else
    (some ((0 : Int32), q258.2)))
    else
    if ((xs x3.toNatClampNeg) &&& (63 : Int32)) = (33 : Int32) then
    (if (x3 + (1 : Int32)) < 0 ∨ L ≤ (x3 + (1 : Int32)).toNatClampNeg then none else
    Option.bind (g8_check (xs (x3 + (1 : Int32)).toNatClampNeg) M) fun q263 =>
    Option.bind (g9_check (xs (x3 + (1 : Int32)).toNatClampNeg) q263.2) fun q265 =>
    if (q263.1) = (q265.1) then
    (gL_law_b1377 L xs (gL_law_b18 L xs n) x3 q265.2)
    else
    (some ((0 : Int32), q265.2)))
    else
    if ((xs x3.toNatClampNeg) &&& (63 : Int32)) = (34 : Int32) then
    (if (x3 + (1 : Int32)) < 0 ∨ L ≤ (x3 + (1 : Int32)).toNatClampNeg then none else
    Option.bind (g8_count (xs (x3 + (1 : Int32)).toNatClampNeg) M) fun q270 =>
    Option.bind (g9_count (xs (x3 + (1 : Int32)).toNatClampNeg) q270.2) fun q272 =>
    if (q270.1) = (q272.1) then
    (gL_law_b1377 L xs (gL_law_b18 L xs n) x3 q272.2)
    else
    (some ((0 : Int32), q272.2)))
    else
    (gL_law_b1377 L xs (gL_law_b18 L xs n) x3 M)))
set_option maxHeartbeats 4000000 in
set_option maxRecDepth 20000 in
theorem vL_law_b18 {G : xG} {L : Nat} {xs : Nat → Int32} (hX : xScr G L xs) (hC : xC G cL_law 4 RL 2000) {R : Int32 × xMem} (hR : xRI G cL_law 4 R) : ∀ (n : Nat) (x3 : Int32) (M : xMem), gL_law_b18 L xs n x3 M = some R → V G 4 18 [(0, .inr 2000), (1, .inr 0), (2, .inr 154), (3, .inl x3)] [] M := by
  intro n
  induction n with
  | zero => intro x3 M h; rw [gL_law_b18] at h; cases h
  | succ n ih =>
    intro x3 M h
    rw [gL_law_b18] at h
    refine V.iload_n (r := 19) hC 3 dL_law_18 rfl rfl ?_
    refine V.aload_n (r := 20) hC 0 dL_law_19 rfl rfl ?_
    refine V.slen (r := 21) hC hX dL_law_20 rfl ?_
    refine V.bipush (r := 23) hC dL_law_21 kb_7 rfl ?_
    refine V.isub (r := 24) hC dL_law_23 rfl ?_
    refine V.icmp_gt (tgt := 1383) (r := 27) hC dL_law_24 (by decide) rfl (fun c1 => ?_) (fun c1 => ?_)
    · rw [if_pos c1] at h
      refine V.iconst (r := 1384) hC dL_law_1383 ki_1 rfl ?_
      cases h
      exact hR _ _ dL_law_1384
    · rw [if_neg c1] at h
      refine V.aload_n (r := 28) hC 0 dL_law_27 rfl rfl ?_
      refine V.iload_n (r := 29) hC 3 dL_law_28 rfl rfl ?_
      by_cases c2 : x3 < 0 ∨ L ≤ x3.toNatClampNeg
      · rw [if_pos c2] at h; cases h
      rw [if_neg c2] at h
      refine V.sld (r := 30) hC hX dL_law_29 c2 rfl ?_
      refine V.bipush (r := 32) hC dL_law_30 kb_63 rfl ?_
      refine V.iand (r := 33) hC dL_law_32 rfl ?_
      by_cases c3 : ((xs x3.toNatClampNeg) &&& (63 : Int32)) = (0 : Int32)
      · rw [if_pos c3] at h
        refine V.tabIn (off := 155) (tgt := 188) hC dL_law_33 c3 (by decide) (by decide) (by decide) (by decide) ?_
        refine V.aload_n (r := 189) hC 1 dL_law_188 rfl rfl ?_
        refine V.aload_n (r := 190) hC 0 dL_law_189 rfl rfl ?_
        refine V.iload_n (r := 191) hC 3 dL_law_190 rfl rfl ?_
        refine V.iconst (r := 192) hC dL_law_191 ki_1 rfl ?_
        refine V.iadd (r := 193) hC dL_law_192 rfl ?_
        by_cases c4 : (x3 + (1 : Int32)) < 0 ∨ L ≤ (x3 + (1 : Int32)).toNatClampNeg
        · rw [if_pos c4] at h; cases h
        rw [if_neg c4] at h
        refine V.sld (r := 194) hC hX dL_law_193 c4 rfl ?_
        refine V.aload_n (r := 195) hC 0 dL_law_194 rfl rfl ?_
        refine V.iload_n (r := 196) hC 3 dL_law_195 rfl rfl ?_
        refine V.iconst (r := 197) hC dL_law_196 ki_2 rfl ?_
        refine V.iadd (r := 198) hC dL_law_197 rfl ?_
        by_cases c5 : (x3 + (2 : Int32)) < 0 ∨ L ≤ (x3 + (2 : Int32)).toNatClampNeg
        · rw [if_pos c5] at h; cases h
        rw [if_neg c5] at h
        refine V.sld (r := 199) hC hX dL_law_198 c5 rfl ?_
        refine V.aload_n (r := 200) hC 0 dL_law_199 rfl rfl ?_
        refine V.iload_n (r := 201) hC 3 dL_law_200 rfl rfl ?_
        refine V.iconst (r := 202) hC dL_law_201 ki_3 rfl ?_
        refine V.iadd (r := 203) hC dL_law_202 rfl ?_
        by_cases c6 : (x3 + (3 : Int32)) < 0 ∨ L ≤ (x3 + (3 : Int32)).toNatClampNeg
        · rw [if_pos c6] at h; cases h
        rw [if_neg c6] at h
        refine V.sld (r := 204) hC hX dL_law_203 c6 rfl ?_
        obtain ⟨q7, hq8, h⟩ := Option.bind_eq_some_iff.mp h
        try dsimp only at h
        refine V.invVi (as := [.inl (xs (x3 + (1 : Int32)).toNatClampNeg), .inl (xs (x3 + (2 : Int32)).toNatClampNeg), .inl (xs (x3 + (3 : Int32)).toNatClampNeg)]) (st := []) (r := 207) hC (met8_ground hq8) yv_X8_ground ml_RL_13 sh_0 rfl rfl dL_law_204 (by decide) rfl rfl rfl rfl ?_
        refine V.aload_n (r := 208) hC 2 dL_law_207 rfl rfl ?_
        refine V.aload_n (r := 209) hC 0 dL_law_208 rfl rfl ?_
        refine V.iload_n (r := 210) hC 3 dL_law_209 rfl rfl ?_
        refine V.iconst (r := 211) hC dL_law_210 ki_1 rfl ?_
        refine V.iadd (r := 212) hC dL_law_211 rfl ?_
        refine V.sld (r := 213) hC hX dL_law_212 c4 rfl ?_
        refine V.aload_n (r := 214) hC 0 dL_law_213 rfl rfl ?_
        refine V.iload_n (r := 215) hC 3 dL_law_214 rfl rfl ?_
        refine V.iconst (r := 216) hC dL_law_215 ki_2 rfl ?_
        refine V.iadd (r := 217) hC dL_law_216 rfl ?_
        refine V.sld (r := 218) hC hX dL_law_217 c5 rfl ?_
        refine V.aload_n (r := 219) hC 0 dL_law_218 rfl rfl ?_
        refine V.iload_n (r := 220) hC 3 dL_law_219 rfl rfl ?_
        refine V.iconst (r := 221) hC dL_law_220 ki_3 rfl ?_
        refine V.iadd (r := 222) hC dL_law_221 rfl ?_
        refine V.sld (r := 223) hC hX dL_law_222 c6 rfl ?_
        obtain ⟨q9, hq10, h⟩ := Option.bind_eq_some_iff.mp h
        try dsimp only at h
        refine V.invVi (as := [.inl (xs (x3 + (1 : Int32)).toNatClampNeg), .inl (xs (x3 + (2 : Int32)).toNatClampNeg), .inl (xs (x3 + (3 : Int32)).toNatClampNeg)]) (st := [.inl (q7.1)]) (r := 226) hC (met9_ground hq10) yv_X9_ground ml_RL_17 sh_154 rfl rfl dL_law_223 (by decide) rfl rfl rfl rfl ?_
        refine V.icmp_eq (tgt := 1377) (r := 229) hC dL_law_226 (by decide) rfl (fun c11 => ?_) (fun c11 => ?_)
        · rw [if_pos c11] at h
          exact vL_law_b1377 hX hC hR ih _ _ h
        · rw [if_neg c11] at h
          refine V.iconst (r := 230) hC dL_law_229 ki_0 rfl ?_
          cases h
          exact hR _ _ dL_law_230
      rw [if_neg c3] at h
      by_cases c12 : ((xs x3.toNatClampNeg) &&& (63 : Int32)) = (1 : Int32)
      · rw [if_pos c12] at h
        refine V.tabIn (off := 198) (tgt := 231) hC dL_law_33 c12 (by decide) (by decide) (by decide) (by decide) ?_
        refine V.aload_n (r := 232) hC 1 dL_law_231 rfl rfl ?_
        refine V.aload_n (r := 233) hC 0 dL_law_232 rfl rfl ?_
        refine V.iload_n (r := 234) hC 3 dL_law_233 rfl rfl ?_
        refine V.iconst (r := 235) hC dL_law_234 ki_1 rfl ?_
        refine V.iadd (r := 236) hC dL_law_235 rfl ?_
        by_cases c13 : (x3 + (1 : Int32)) < 0 ∨ L ≤ (x3 + (1 : Int32)).toNatClampNeg
        · rw [if_pos c13] at h; cases h
        rw [if_neg c13] at h
        refine V.sld (r := 237) hC hX dL_law_236 c13 rfl ?_
        refine V.aload_n (r := 238) hC 0 dL_law_237 rfl rfl ?_
        refine V.iload_n (r := 239) hC 3 dL_law_238 rfl rfl ?_
        refine V.iconst (r := 240) hC dL_law_239 ki_2 rfl ?_
        refine V.iadd (r := 241) hC dL_law_240 rfl ?_
        by_cases c14 : (x3 + (2 : Int32)) < 0 ∨ L ≤ (x3 + (2 : Int32)).toNatClampNeg
        · rw [if_pos c14] at h; cases h
        rw [if_neg c14] at h
        refine V.sld (r := 242) hC hX dL_law_241 c14 rfl ?_
        refine V.aload_n (r := 243) hC 0 dL_law_242 rfl rfl ?_
        refine V.iload_n (r := 244) hC 3 dL_law_243 rfl rfl ?_
        refine V.iconst (r := 245) hC dL_law_244 ki_3 rfl ?_
        refine V.iadd (r := 246) hC dL_law_245 rfl ?_
        by_cases c15 : (x3 + (3 : Int32)) < 0 ∨ L ≤ (x3 + (3 : Int32)).toNatClampNeg
        · rw [if_pos c15] at h; cases h
        rw [if_neg c15] at h
        refine V.sld (r := 247) hC hX dL_law_246 c15 rfl ?_
        refine V.aload_n (r := 248) hC 0 dL_law_247 rfl rfl ?_
        refine V.iload_n (r := 249) hC 3 dL_law_248 rfl rfl ?_
        refine V.iconst (r := 250) hC dL_law_249 ki_4 rfl ?_
        refine V.iadd (r := 251) hC dL_law_250 rfl ?_
        by_cases c16 : (x3 + (4 : Int32)) < 0 ∨ L ≤ (x3 + (4 : Int32)).toNatClampNeg
        · rw [if_pos c16] at h; cases h
        rw [if_neg c16] at h
        refine V.sld (r := 252) hC hX dL_law_251 c16 rfl ?_
        obtain ⟨q17, hq18, h⟩ := Option.bind_eq_some_iff.mp h
        try dsimp only at h
        refine V.invVi (as := [.inl (xs (x3 + (1 : Int32)).toNatClampNeg), .inl (xs (x3 + (2 : Int32)).toNatClampNeg), .inl (xs (x3 + (3 : Int32)).toNatClampNeg), .inl (xs (x3 + (4 : Int32)).toNatClampNeg)]) (st := []) (r := 255) hC (met8_inn hq18) yv_X8_inn ml_RL_18 sh_0 rfl rfl dL_law_252 (by decide) rfl rfl rfl rfl ?_
        refine V.aload_n (r := 256) hC 2 dL_law_255 rfl rfl ?_
        refine V.aload_n (r := 257) hC 0 dL_law_256 rfl rfl ?_
        refine V.iload_n (r := 258) hC 3 dL_law_257 rfl rfl ?_
        refine V.iconst (r := 259) hC dL_law_258 ki_1 rfl ?_
        refine V.iadd (r := 260) hC dL_law_259 rfl ?_
        refine V.sld (r := 261) hC hX dL_law_260 c13 rfl ?_
        refine V.aload_n (r := 262) hC 0 dL_law_261 rfl rfl ?_
        refine V.iload_n (r := 263) hC 3 dL_law_262 rfl rfl ?_
        refine V.iconst (r := 264) hC dL_law_263 ki_2 rfl ?_
        refine V.iadd (r := 265) hC dL_law_264 rfl ?_
        refine V.sld (r := 266) hC hX dL_law_265 c14 rfl ?_
        refine V.aload_n (r := 267) hC 0 dL_law_266 rfl rfl ?_
        refine V.iload_n (r := 268) hC 3 dL_law_267 rfl rfl ?_
        refine V.iconst (r := 269) hC dL_law_268 ki_3 rfl ?_
        refine V.iadd (r := 270) hC dL_law_269 rfl ?_
        refine V.sld (r := 271) hC hX dL_law_270 c15 rfl ?_
        refine V.aload_n (r := 272) hC 0 dL_law_271 rfl rfl ?_
        refine V.iload_n (r := 273) hC 3 dL_law_272 rfl rfl ?_
        refine V.iconst (r := 274) hC dL_law_273 ki_4 rfl ?_
        refine V.iadd (r := 275) hC dL_law_274 rfl ?_
        refine V.sld (r := 276) hC hX dL_law_275 c16 rfl ?_
        obtain ⟨q19, hq20, h⟩ := Option.bind_eq_some_iff.mp h
        try dsimp only at h
        refine V.invVi (as := [.inl (xs (x3 + (1 : Int32)).toNatClampNeg), .inl (xs (x3 + (2 : Int32)).toNatClampNeg), .inl (xs (x3 + (3 : Int32)).toNatClampNeg), .inl (xs (x3 + (4 : Int32)).toNatClampNeg)]) (st := [.inl (q17.1)]) (r := 279) hC (met9_inn hq20) yv_X9_inn ml_RL_22 sh_154 rfl rfl dL_law_276 (by decide) rfl rfl rfl rfl ?_
        refine V.icmp_eq (tgt := 1377) (r := 282) hC dL_law_279 (by decide) rfl (fun c21 => ?_) (fun c21 => ?_)
        · rw [if_pos c21] at h
          exact vL_law_b1377 hX hC hR ih _ _ h
        · rw [if_neg c21] at h
          refine V.iconst (r := 283) hC dL_law_282 ki_0 rfl ?_
          cases h
          exact hR _ _ dL_law_283
      rw [if_neg c12] at h
      by_cases c22 : ((xs x3.toNatClampNeg) &&& (63 : Int32)) = (2 : Int32)
      · rw [if_pos c22] at h
        refine V.tabIn (off := 251) (tgt := 284) hC dL_law_33 c22 (by decide) (by decide) (by decide) (by decide) ?_
        refine V.aload_n (r := 285) hC 1 dL_law_284 rfl rfl ?_
        refine V.aload_n (r := 286) hC 0 dL_law_285 rfl rfl ?_
        refine V.iload_n (r := 287) hC 3 dL_law_286 rfl rfl ?_
        refine V.iconst (r := 288) hC dL_law_287 ki_1 rfl ?_
        refine V.iadd (r := 289) hC dL_law_288 rfl ?_
        by_cases c23 : (x3 + (1 : Int32)) < 0 ∨ L ≤ (x3 + (1 : Int32)).toNatClampNeg
        · rw [if_pos c23] at h; cases h
        rw [if_neg c23] at h
        refine V.sld (r := 290) hC hX dL_law_289 c23 rfl ?_
        refine V.aload_n (r := 291) hC 0 dL_law_290 rfl rfl ?_
        refine V.iload_n (r := 292) hC 3 dL_law_291 rfl rfl ?_
        refine V.iconst (r := 293) hC dL_law_292 ki_2 rfl ?_
        refine V.iadd (r := 294) hC dL_law_293 rfl ?_
        by_cases c24 : (x3 + (2 : Int32)) < 0 ∨ L ≤ (x3 + (2 : Int32)).toNatClampNeg
        · rw [if_pos c24] at h; cases h
        rw [if_neg c24] at h
        refine V.sld (r := 295) hC hX dL_law_294 c24 rfl ?_
        refine V.aload_n (r := 296) hC 0 dL_law_295 rfl rfl ?_
        refine V.iload_n (r := 297) hC 3 dL_law_296 rfl rfl ?_
        refine V.iconst (r := 298) hC dL_law_297 ki_3 rfl ?_
        refine V.iadd (r := 299) hC dL_law_298 rfl ?_
        by_cases c25 : (x3 + (3 : Int32)) < 0 ∨ L ≤ (x3 + (3 : Int32)).toNatClampNeg
        · rw [if_pos c25] at h; cases h
        rw [if_neg c25] at h
        refine V.sld (r := 300) hC hX dL_law_299 c25 rfl ?_
        refine V.aload_n (r := 301) hC 0 dL_law_300 rfl rfl ?_
        refine V.iload_n (r := 302) hC 3 dL_law_301 rfl rfl ?_
        refine V.iconst (r := 303) hC dL_law_302 ki_4 rfl ?_
        refine V.iadd (r := 304) hC dL_law_303 rfl ?_
        by_cases c26 : (x3 + (4 : Int32)) < 0 ∨ L ≤ (x3 + (4 : Int32)).toNatClampNeg
        · rw [if_pos c26] at h; cases h
        rw [if_neg c26] at h
        refine V.sld (r := 305) hC hX dL_law_304 c26 rfl ?_
        refine V.aload_n (r := 306) hC 0 dL_law_305 rfl rfl ?_
        refine V.iload_n (r := 307) hC 3 dL_law_306 rfl rfl ?_
        refine V.iconst (r := 308) hC dL_law_307 ki_5 rfl ?_
        refine V.iadd (r := 309) hC dL_law_308 rfl ?_
        by_cases c27 : (x3 + (5 : Int32)) < 0 ∨ L ≤ (x3 + (5 : Int32)).toNatClampNeg
        · rw [if_pos c27] at h; cases h
        rw [if_neg c27] at h
        refine V.sld (r := 310) hC hX dL_law_309 c27 rfl ?_
        refine V.if_eq (tgt := 317) (r := 313) hC dL_law_310 (by decide) rfl (fun c28 => ?_) (fun c28 => ?_)
        · rw [if_pos c28] at h
          refine V.iconst (r := 318) hC dL_law_317 ki_0 rfl ?_
          exact vL_law_b318 hX hC hR ih _ _ _ _ _ _ _ h
        · rw [if_neg c28] at h
          refine V.iconst (r := 314) hC dL_law_313 ki_1 rfl ?_
          refine V.goto (tgt := 318) hC dL_law_314 (by decide) ?_
          exact vL_law_b318 hX hC hR ih _ _ _ _ _ _ _ h
      rw [if_neg c22] at h
      by_cases c29 : ((xs x3.toNatClampNeg) &&& (63 : Int32)) = (3 : Int32)
      · rw [if_pos c29] at h
        refine V.tabIn (off := 330) (tgt := 363) hC dL_law_33 c29 (by decide) (by decide) (by decide) (by decide) ?_
        refine V.aload_n (r := 364) hC 1 dL_law_363 rfl rfl ?_
        refine V.aload_n (r := 365) hC 0 dL_law_364 rfl rfl ?_
        refine V.iload_n (r := 366) hC 3 dL_law_365 rfl rfl ?_
        refine V.iconst (r := 367) hC dL_law_366 ki_1 rfl ?_
        refine V.iadd (r := 368) hC dL_law_367 rfl ?_
        by_cases c30 : (x3 + (1 : Int32)) < 0 ∨ L ≤ (x3 + (1 : Int32)).toNatClampNeg
        · rw [if_pos c30] at h; cases h
        rw [if_neg c30] at h
        refine V.sld (r := 369) hC hX dL_law_368 c30 rfl ?_
        obtain ⟨q31, hq32, h⟩ := Option.bind_eq_some_iff.mp h
        try dsimp only at h
        refine V.invVi (as := [.inl (xs (x3 + (1 : Int32)).toNatClampNeg)]) (st := []) (r := 372) hC (met8_gone hq32) yv_X8_gone ml_RL_28 sh_0 rfl rfl dL_law_369 (by decide) rfl rfl rfl rfl ?_
        refine V.aload_n (r := 373) hC 2 dL_law_372 rfl rfl ?_
        refine V.aload_n (r := 374) hC 0 dL_law_373 rfl rfl ?_
        refine V.iload_n (r := 375) hC 3 dL_law_374 rfl rfl ?_
        refine V.iconst (r := 376) hC dL_law_375 ki_1 rfl ?_
        refine V.iadd (r := 377) hC dL_law_376 rfl ?_
        refine V.sld (r := 378) hC hX dL_law_377 c30 rfl ?_
        obtain ⟨q33, hq34, h⟩ := Option.bind_eq_some_iff.mp h
        try dsimp only at h
        refine V.invVi (as := [.inl (xs (x3 + (1 : Int32)).toNatClampNeg)]) (st := [.inl (q31.1)]) (r := 381) hC (met9_gone hq34) yv_X9_gone ml_RL_32 sh_154 rfl rfl dL_law_378 (by decide) rfl rfl rfl rfl ?_
        refine V.icmp_eq (tgt := 1377) (r := 384) hC dL_law_381 (by decide) rfl (fun c35 => ?_) (fun c35 => ?_)
        · rw [if_pos c35] at h
          exact vL_law_b1377 hX hC hR ih _ _ h
        · rw [if_neg c35] at h
          refine V.iconst (r := 385) hC dL_law_384 ki_0 rfl ?_
          cases h
          exact hR _ _ dL_law_385
      rw [if_neg c29] at h
      by_cases c36 : ((xs x3.toNatClampNeg) &&& (63 : Int32)) = (4 : Int32)
      · rw [if_pos c36] at h
        refine V.tabIn (off := 353) (tgt := 386) hC dL_law_33 c36 (by decide) (by decide) (by decide) (by decide) ?_
        refine V.aload_n (r := 387) hC 1 dL_law_386 rfl rfl ?_
        refine V.aload_n (r := 388) hC 0 dL_law_387 rfl rfl ?_
        refine V.iload_n (r := 389) hC 3 dL_law_388 rfl rfl ?_
        refine V.iconst (r := 390) hC dL_law_389 ki_1 rfl ?_
        refine V.iadd (r := 391) hC dL_law_390 rfl ?_
        by_cases c37 : (x3 + (1 : Int32)) < 0 ∨ L ≤ (x3 + (1 : Int32)).toNatClampNeg
        · rw [if_pos c37] at h; cases h
        rw [if_neg c37] at h
        refine V.sld (r := 392) hC hX dL_law_391 c37 rfl ?_
        refine V.aload_n (r := 393) hC 0 dL_law_392 rfl rfl ?_
        refine V.iload_n (r := 394) hC 3 dL_law_393 rfl rfl ?_
        refine V.iconst (r := 395) hC dL_law_394 ki_2 rfl ?_
        refine V.iadd (r := 396) hC dL_law_395 rfl ?_
        by_cases c38 : (x3 + (2 : Int32)) < 0 ∨ L ≤ (x3 + (2 : Int32)).toNatClampNeg
        · rw [if_pos c38] at h; cases h
        rw [if_neg c38] at h
        refine V.sld (r := 397) hC hX dL_law_396 c38 rfl ?_
        obtain ⟨q39, hq40, h⟩ := Option.bind_eq_some_iff.mp h
        try dsimp only at h
        refine V.invVi (as := [.inl (xs (x3 + (1 : Int32)).toNatClampNeg), .inl (xs (x3 + (2 : Int32)).toNatClampNeg)]) (st := []) (r := 400) hC (met8_dog hq40) yv_X8_dog ml_RL_33 sh_0 rfl rfl dL_law_397 (by decide) rfl rfl rfl rfl ?_
        refine V.aload_n (r := 401) hC 2 dL_law_400 rfl rfl ?_
        refine V.aload_n (r := 402) hC 0 dL_law_401 rfl rfl ?_
        refine V.iload_n (r := 403) hC 3 dL_law_402 rfl rfl ?_
        refine V.iconst (r := 404) hC dL_law_403 ki_1 rfl ?_
        refine V.iadd (r := 405) hC dL_law_404 rfl ?_
        refine V.sld (r := 406) hC hX dL_law_405 c37 rfl ?_
        refine V.aload_n (r := 407) hC 0 dL_law_406 rfl rfl ?_
        refine V.iload_n (r := 408) hC 3 dL_law_407 rfl rfl ?_
        refine V.iconst (r := 409) hC dL_law_408 ki_2 rfl ?_
        refine V.iadd (r := 410) hC dL_law_409 rfl ?_
        refine V.sld (r := 411) hC hX dL_law_410 c38 rfl ?_
        obtain ⟨q41, hq42, h⟩ := Option.bind_eq_some_iff.mp h
        try dsimp only at h
        refine V.invVi (as := [.inl (xs (x3 + (1 : Int32)).toNatClampNeg), .inl (xs (x3 + (2 : Int32)).toNatClampNeg)]) (st := [.inl (q39.1)]) (r := 414) hC (met9_dog hq42) yv_X9_dog ml_RL_37 sh_154 rfl rfl dL_law_411 (by decide) rfl rfl rfl rfl ?_
        refine V.icmp_eq (tgt := 1377) (r := 417) hC dL_law_414 (by decide) rfl (fun c43 => ?_) (fun c43 => ?_)
        · rw [if_pos c43] at h
          exact vL_law_b1377 hX hC hR ih _ _ h
        · rw [if_neg c43] at h
          refine V.iconst (r := 418) hC dL_law_417 ki_0 rfl ?_
          cases h
          exact hR _ _ dL_law_418
      rw [if_neg c36] at h
      by_cases c44 : ((xs x3.toNatClampNeg) &&& (63 : Int32)) = (5 : Int32)
      · rw [if_pos c44] at h
        refine V.tabIn (off := 386) (tgt := 419) hC dL_law_33 c44 (by decide) (by decide) (by decide) (by decide) ?_
        refine V.aload_n (r := 420) hC 1 dL_law_419 rfl rfl ?_
        refine V.aload_n (r := 421) hC 0 dL_law_420 rfl rfl ?_
        refine V.iload_n (r := 422) hC 3 dL_law_421 rfl rfl ?_
        refine V.iconst (r := 423) hC dL_law_422 ki_1 rfl ?_
        refine V.iadd (r := 424) hC dL_law_423 rfl ?_
        by_cases c45 : (x3 + (1 : Int32)) < 0 ∨ L ≤ (x3 + (1 : Int32)).toNatClampNeg
        · rw [if_pos c45] at h; cases h
        rw [if_neg c45] at h
        refine V.sld (r := 425) hC hX dL_law_424 c45 rfl ?_
        refine V.aload_n (r := 426) hC 0 dL_law_425 rfl rfl ?_
        refine V.iload_n (r := 427) hC 3 dL_law_426 rfl rfl ?_
        refine V.iconst (r := 428) hC dL_law_427 ki_2 rfl ?_
        refine V.iadd (r := 429) hC dL_law_428 rfl ?_
        by_cases c46 : (x3 + (2 : Int32)) < 0 ∨ L ≤ (x3 + (2 : Int32)).toNatClampNeg
        · rw [if_pos c46] at h; cases h
        rw [if_neg c46] at h
        refine V.sld (r := 430) hC hX dL_law_429 c46 rfl ?_
        refine V.aload_n (r := 431) hC 0 dL_law_430 rfl rfl ?_
        refine V.iload_n (r := 432) hC 3 dL_law_431 rfl rfl ?_
        refine V.iconst (r := 433) hC dL_law_432 ki_3 rfl ?_
        refine V.iadd (r := 434) hC dL_law_433 rfl ?_
        by_cases c47 : (x3 + (3 : Int32)) < 0 ∨ L ≤ (x3 + (3 : Int32)).toNatClampNeg
        · rw [if_pos c47] at h; cases h
        rw [if_neg c47] at h
        refine V.sld (r := 435) hC hX dL_law_434 c47 rfl ?_
        refine V.aload_n (r := 436) hC 0 dL_law_435 rfl rfl ?_
        refine V.iload_n (r := 437) hC 3 dL_law_436 rfl rfl ?_
        refine V.iconst (r := 438) hC dL_law_437 ki_4 rfl ?_
        refine V.iadd (r := 439) hC dL_law_438 rfl ?_
        by_cases c48 : (x3 + (4 : Int32)) < 0 ∨ L ≤ (x3 + (4 : Int32)).toNatClampNeg
        · rw [if_pos c48] at h; cases h
        rw [if_neg c48] at h
        refine V.sld (r := 440) hC hX dL_law_439 c48 rfl ?_
        refine V.aload_n (r := 441) hC 0 dL_law_440 rfl rfl ?_
        refine V.iload_n (r := 442) hC 3 dL_law_441 rfl rfl ?_
        refine V.iconst (r := 443) hC dL_law_442 ki_5 rfl ?_
        refine V.iadd (r := 444) hC dL_law_443 rfl ?_
        by_cases c49 : (x3 + (5 : Int32)) < 0 ∨ L ≤ (x3 + (5 : Int32)).toNatClampNeg
        · rw [if_pos c49] at h; cases h
        rw [if_neg c49] at h
        refine V.sld (r := 445) hC hX dL_law_444 c49 rfl ?_
        refine V.aload_n (r := 446) hC 0 dL_law_445 rfl rfl ?_
        refine V.iload_n (r := 447) hC 3 dL_law_446 rfl rfl ?_
        refine V.bipush (r := 449) hC dL_law_447 kb_6 rfl ?_
        refine V.iadd (r := 450) hC dL_law_449 rfl ?_
        by_cases c50 : (x3 + (6 : Int32)) < 0 ∨ L ≤ (x3 + (6 : Int32)).toNatClampNeg
        · rw [if_pos c50] at h; cases h
        rw [if_neg c50] at h
        refine V.sld (r := 451) hC hX dL_law_450 c50 rfl ?_
        obtain ⟨q51, hq52, h⟩ := Option.bind_eq_some_iff.mp h
        try dsimp only at h
        refine V.invVi (as := [.inl (xs (x3 + (1 : Int32)).toNatClampNeg), .inl (xs (x3 + (2 : Int32)).toNatClampNeg), .inl (xs (x3 + (3 : Int32)).toNatClampNeg), .inl (xs (x3 + (4 : Int32)).toNatClampNeg), .inl (xs (x3 + (5 : Int32)).toNatClampNeg), .inl (xs (x3 + (6 : Int32)).toNatClampNeg)]) (st := []) (r := 454) hC (met8_herd hq52) yv_X8_herd ml_RL_38 sh_0 rfl rfl dL_law_451 (by decide) rfl rfl rfl rfl ?_
        refine V.aload_n (r := 455) hC 2 dL_law_454 rfl rfl ?_
        refine V.aload_n (r := 456) hC 0 dL_law_455 rfl rfl ?_
        refine V.iload_n (r := 457) hC 3 dL_law_456 rfl rfl ?_
        refine V.iconst (r := 458) hC dL_law_457 ki_1 rfl ?_
        refine V.iadd (r := 459) hC dL_law_458 rfl ?_
        refine V.sld (r := 460) hC hX dL_law_459 c45 rfl ?_
        refine V.aload_n (r := 461) hC 0 dL_law_460 rfl rfl ?_
        refine V.iload_n (r := 462) hC 3 dL_law_461 rfl rfl ?_
        refine V.iconst (r := 463) hC dL_law_462 ki_2 rfl ?_
        refine V.iadd (r := 464) hC dL_law_463 rfl ?_
        refine V.sld (r := 465) hC hX dL_law_464 c46 rfl ?_
        refine V.aload_n (r := 466) hC 0 dL_law_465 rfl rfl ?_
        refine V.iload_n (r := 467) hC 3 dL_law_466 rfl rfl ?_
        refine V.iconst (r := 468) hC dL_law_467 ki_3 rfl ?_
        refine V.iadd (r := 469) hC dL_law_468 rfl ?_
        refine V.sld (r := 470) hC hX dL_law_469 c47 rfl ?_
        refine V.aload_n (r := 471) hC 0 dL_law_470 rfl rfl ?_
        refine V.iload_n (r := 472) hC 3 dL_law_471 rfl rfl ?_
        refine V.iconst (r := 473) hC dL_law_472 ki_4 rfl ?_
        refine V.iadd (r := 474) hC dL_law_473 rfl ?_
        refine V.sld (r := 475) hC hX dL_law_474 c48 rfl ?_
        refine V.aload_n (r := 476) hC 0 dL_law_475 rfl rfl ?_
        refine V.iload_n (r := 477) hC 3 dL_law_476 rfl rfl ?_
        refine V.iconst (r := 478) hC dL_law_477 ki_5 rfl ?_
        refine V.iadd (r := 479) hC dL_law_478 rfl ?_
        refine V.sld (r := 480) hC hX dL_law_479 c49 rfl ?_
        refine V.aload_n (r := 481) hC 0 dL_law_480 rfl rfl ?_
        refine V.iload_n (r := 482) hC 3 dL_law_481 rfl rfl ?_
        refine V.bipush (r := 484) hC dL_law_482 kb_6 rfl ?_
        refine V.iadd (r := 485) hC dL_law_484 rfl ?_
        refine V.sld (r := 486) hC hX dL_law_485 c50 rfl ?_
        obtain ⟨q53, hq54, h⟩ := Option.bind_eq_some_iff.mp h
        try dsimp only at h
        refine V.invVi (as := [.inl (xs (x3 + (1 : Int32)).toNatClampNeg), .inl (xs (x3 + (2 : Int32)).toNatClampNeg), .inl (xs (x3 + (3 : Int32)).toNatClampNeg), .inl (xs (x3 + (4 : Int32)).toNatClampNeg), .inl (xs (x3 + (5 : Int32)).toNatClampNeg), .inl (xs (x3 + (6 : Int32)).toNatClampNeg)]) (st := [.inl (q51.1)]) (r := 489) hC (met9_herd hq54) yv_X9_herd ml_RL_42 sh_154 rfl rfl dL_law_486 (by decide) rfl rfl rfl rfl ?_
        refine V.icmp_eq (tgt := 1377) (r := 492) hC dL_law_489 (by decide) rfl (fun c55 => ?_) (fun c55 => ?_)
        · rw [if_pos c55] at h
          exact vL_law_b1377 hX hC hR ih _ _ h
        · rw [if_neg c55] at h
          refine V.iconst (r := 493) hC dL_law_492 ki_0 rfl ?_
          cases h
          exact hR _ _ dL_law_493
      rw [if_neg c44] at h
      by_cases c56 : ((xs x3.toNatClampNeg) &&& (63 : Int32)) = (6 : Int32)
      · rw [if_pos c56] at h
        refine V.tabIn (off := 461) (tgt := 494) hC dL_law_33 c56 (by decide) (by decide) (by decide) (by decide) ?_
        refine V.aload_n (r := 495) hC 1 dL_law_494 rfl rfl ?_
        refine V.aload_n (r := 496) hC 0 dL_law_495 rfl rfl ?_
        refine V.iload_n (r := 497) hC 3 dL_law_496 rfl rfl ?_
        refine V.iconst (r := 498) hC dL_law_497 ki_1 rfl ?_
        refine V.iadd (r := 499) hC dL_law_498 rfl ?_
        by_cases c57 : (x3 + (1 : Int32)) < 0 ∨ L ≤ (x3 + (1 : Int32)).toNatClampNeg
        · rw [if_pos c57] at h; cases h
        rw [if_neg c57] at h
        refine V.sld (r := 500) hC hX dL_law_499 c57 rfl ?_
        refine V.aload_n (r := 501) hC 0 dL_law_500 rfl rfl ?_
        refine V.iload_n (r := 502) hC 3 dL_law_501 rfl rfl ?_
        refine V.iconst (r := 503) hC dL_law_502 ki_2 rfl ?_
        refine V.iadd (r := 504) hC dL_law_503 rfl ?_
        by_cases c58 : (x3 + (2 : Int32)) < 0 ∨ L ≤ (x3 + (2 : Int32)).toNatClampNeg
        · rw [if_pos c58] at h; cases h
        rw [if_neg c58] at h
        refine V.sld (r := 505) hC hX dL_law_504 c58 rfl ?_
        refine V.if_eq (tgt := 512) (r := 508) hC dL_law_505 (by decide) rfl (fun c59 => ?_) (fun c59 => ?_)
        · rw [if_pos c59] at h
          refine V.iconst (r := 513) hC dL_law_512 ki_0 rfl ?_
          exact vL_law_b513 hX hC hR ih _ _ _ _ h
        · rw [if_neg c59] at h
          refine V.iconst (r := 509) hC dL_law_508 ki_1 rfl ?_
          refine V.goto (tgt := 513) hC dL_law_509 (by decide) ?_
          exact vL_law_b513 hX hC hR ih _ _ _ _ h
      rw [if_neg c56] at h
      by_cases c60 : ((xs x3.toNatClampNeg) &&& (63 : Int32)) = (7 : Int32)
      · rw [if_pos c60] at h
        refine V.tabIn (off := 510) (tgt := 543) hC dL_law_33 c60 (by decide) (by decide) (by decide) (by decide) ?_
        refine V.aload_n (r := 544) hC 1 dL_law_543 rfl rfl ?_
        refine V.aload_n (r := 545) hC 0 dL_law_544 rfl rfl ?_
        refine V.iload_n (r := 546) hC 3 dL_law_545 rfl rfl ?_
        refine V.iconst (r := 547) hC dL_law_546 ki_1 rfl ?_
        refine V.iadd (r := 548) hC dL_law_547 rfl ?_
        by_cases c61 : (x3 + (1 : Int32)) < 0 ∨ L ≤ (x3 + (1 : Int32)).toNatClampNeg
        · rw [if_pos c61] at h; cases h
        rw [if_neg c61] at h
        refine V.sld (r := 549) hC hX dL_law_548 c61 rfl ?_
        refine V.aload_n (r := 550) hC 0 dL_law_549 rfl rfl ?_
        refine V.iload_n (r := 551) hC 3 dL_law_550 rfl rfl ?_
        refine V.iconst (r := 552) hC dL_law_551 ki_2 rfl ?_
        refine V.iadd (r := 553) hC dL_law_552 rfl ?_
        by_cases c62 : (x3 + (2 : Int32)) < 0 ∨ L ≤ (x3 + (2 : Int32)).toNatClampNeg
        · rw [if_pos c62] at h; cases h
        rw [if_neg c62] at h
        refine V.sld (r := 554) hC hX dL_law_553 c62 rfl ?_
        obtain ⟨q63, hq64, h⟩ := Option.bind_eq_some_iff.mp h
        try dsimp only at h
        refine V.invVi (as := [.inl (xs (x3 + (1 : Int32)).toNatClampNeg), .inl (xs (x3 + (2 : Int32)).toNatClampNeg)]) (st := []) (r := 557) hC (met8_drover hq64) yv_X8_drover ml_RL_48 sh_0 rfl rfl dL_law_554 (by decide) rfl rfl rfl rfl ?_
        refine V.aload_n (r := 558) hC 2 dL_law_557 rfl rfl ?_
        refine V.aload_n (r := 559) hC 0 dL_law_558 rfl rfl ?_
        refine V.iload_n (r := 560) hC 3 dL_law_559 rfl rfl ?_
        refine V.iconst (r := 561) hC dL_law_560 ki_1 rfl ?_
        refine V.iadd (r := 562) hC dL_law_561 rfl ?_
        refine V.sld (r := 563) hC hX dL_law_562 c61 rfl ?_
        refine V.aload_n (r := 564) hC 0 dL_law_563 rfl rfl ?_
        refine V.iload_n (r := 565) hC 3 dL_law_564 rfl rfl ?_
        refine V.iconst (r := 566) hC dL_law_565 ki_2 rfl ?_
        refine V.iadd (r := 567) hC dL_law_566 rfl ?_
        refine V.sld (r := 568) hC hX dL_law_567 c62 rfl ?_
        obtain ⟨q65, hq66, h⟩ := Option.bind_eq_some_iff.mp h
        try dsimp only at h
        refine V.invVi (as := [.inl (xs (x3 + (1 : Int32)).toNatClampNeg), .inl (xs (x3 + (2 : Int32)).toNatClampNeg)]) (st := [.inl (q63.1)]) (r := 571) hC (met9_drover hq66) yv_X9_drover ml_RL_51 sh_154 rfl rfl dL_law_568 (by decide) rfl rfl rfl rfl ?_
        refine V.icmp_eq (tgt := 1377) (r := 574) hC dL_law_571 (by decide) rfl (fun c67 => ?_) (fun c67 => ?_)
        · rw [if_pos c67] at h
          exact vL_law_b1377 hX hC hR ih _ _ h
        · rw [if_neg c67] at h
          refine V.iconst (r := 575) hC dL_law_574 ki_0 rfl ?_
          cases h
          exact hR _ _ dL_law_575
      rw [if_neg c60] at h
      by_cases c68 : ((xs x3.toNatClampNeg) &&& (63 : Int32)) = (8 : Int32)
      · rw [if_pos c68] at h
        refine V.tabIn (off := 543) (tgt := 576) hC dL_law_33 c68 (by decide) (by decide) (by decide) (by decide) ?_
        refine V.aload_n (r := 577) hC 1 dL_law_576 rfl rfl ?_
        refine V.aload_n (r := 578) hC 0 dL_law_577 rfl rfl ?_
        refine V.iload_n (r := 579) hC 3 dL_law_578 rfl rfl ?_
        refine V.iconst (r := 580) hC dL_law_579 ki_1 rfl ?_
        refine V.iadd (r := 581) hC dL_law_580 rfl ?_
        by_cases c69 : (x3 + (1 : Int32)) < 0 ∨ L ≤ (x3 + (1 : Int32)).toNatClampNeg
        · rw [if_pos c69] at h; cases h
        rw [if_neg c69] at h
        refine V.sld (r := 582) hC hX dL_law_581 c69 rfl ?_
        refine V.aload_n (r := 583) hC 0 dL_law_582 rfl rfl ?_
        refine V.iload_n (r := 584) hC 3 dL_law_583 rfl rfl ?_
        refine V.iconst (r := 585) hC dL_law_584 ki_2 rfl ?_
        refine V.iadd (r := 586) hC dL_law_585 rfl ?_
        by_cases c70 : (x3 + (2 : Int32)) < 0 ∨ L ≤ (x3 + (2 : Int32)).toNatClampNeg
        · rw [if_pos c70] at h; cases h
        rw [if_neg c70] at h
        refine V.sld (r := 587) hC hX dL_law_586 c70 rfl ?_
        refine V.aload_n (r := 588) hC 0 dL_law_587 rfl rfl ?_
        refine V.iload_n (r := 589) hC 3 dL_law_588 rfl rfl ?_
        refine V.iconst (r := 590) hC dL_law_589 ki_3 rfl ?_
        refine V.iadd (r := 591) hC dL_law_590 rfl ?_
        by_cases c71 : (x3 + (3 : Int32)) < 0 ∨ L ≤ (x3 + (3 : Int32)).toNatClampNeg
        · rw [if_pos c71] at h; cases h
        rw [if_neg c71] at h
        refine V.sld (r := 592) hC hX dL_law_591 c71 rfl ?_
        refine V.aload_n (r := 593) hC 0 dL_law_592 rfl rfl ?_
        refine V.iload_n (r := 594) hC 3 dL_law_593 rfl rfl ?_
        refine V.iconst (r := 595) hC dL_law_594 ki_4 rfl ?_
        refine V.iadd (r := 596) hC dL_law_595 rfl ?_
        by_cases c72 : (x3 + (4 : Int32)) < 0 ∨ L ≤ (x3 + (4 : Int32)).toNatClampNeg
        · rw [if_pos c72] at h; cases h
        rw [if_neg c72] at h
        refine V.sld (r := 597) hC hX dL_law_596 c72 rfl ?_
        refine V.aload_n (r := 598) hC 0 dL_law_597 rfl rfl ?_
        refine V.iload_n (r := 599) hC 3 dL_law_598 rfl rfl ?_
        refine V.iconst (r := 600) hC dL_law_599 ki_5 rfl ?_
        refine V.iadd (r := 601) hC dL_law_600 rfl ?_
        by_cases c73 : (x3 + (5 : Int32)) < 0 ∨ L ≤ (x3 + (5 : Int32)).toNatClampNeg
        · rw [if_pos c73] at h; cases h
        rw [if_neg c73] at h
        refine V.sld (r := 602) hC hX dL_law_601 c73 rfl ?_
        obtain ⟨q74, hq75, h⟩ := Option.bind_eq_some_iff.mp h
        try dsimp only at h
        refine V.invVi (as := [.inl (xs (x3 + (1 : Int32)).toNatClampNeg), .inl (xs (x3 + (2 : Int32)).toNatClampNeg), .inl (xs (x3 + (3 : Int32)).toNatClampNeg), .inl (xs (x3 + (4 : Int32)).toNatClampNeg), .inl (xs (x3 + (5 : Int32)).toNatClampNeg)]) (st := []) (r := 605) hC (met8_feed hq75) yv_X8_feed ml_RL_52 sh_0 rfl rfl dL_law_602 (by decide) rfl rfl rfl rfl ?_
        refine V.aload_n (r := 606) hC 2 dL_law_605 rfl rfl ?_
        refine V.aload_n (r := 607) hC 0 dL_law_606 rfl rfl ?_
        refine V.iload_n (r := 608) hC 3 dL_law_607 rfl rfl ?_
        refine V.iconst (r := 609) hC dL_law_608 ki_1 rfl ?_
        refine V.iadd (r := 610) hC dL_law_609 rfl ?_
        refine V.sld (r := 611) hC hX dL_law_610 c69 rfl ?_
        refine V.aload_n (r := 612) hC 0 dL_law_611 rfl rfl ?_
        refine V.iload_n (r := 613) hC 3 dL_law_612 rfl rfl ?_
        refine V.iconst (r := 614) hC dL_law_613 ki_2 rfl ?_
        refine V.iadd (r := 615) hC dL_law_614 rfl ?_
        refine V.sld (r := 616) hC hX dL_law_615 c70 rfl ?_
        refine V.aload_n (r := 617) hC 0 dL_law_616 rfl rfl ?_
        refine V.iload_n (r := 618) hC 3 dL_law_617 rfl rfl ?_
        refine V.iconst (r := 619) hC dL_law_618 ki_3 rfl ?_
        refine V.iadd (r := 620) hC dL_law_619 rfl ?_
        refine V.sld (r := 621) hC hX dL_law_620 c71 rfl ?_
        refine V.aload_n (r := 622) hC 0 dL_law_621 rfl rfl ?_
        refine V.iload_n (r := 623) hC 3 dL_law_622 rfl rfl ?_
        refine V.iconst (r := 624) hC dL_law_623 ki_4 rfl ?_
        refine V.iadd (r := 625) hC dL_law_624 rfl ?_
        refine V.sld (r := 626) hC hX dL_law_625 c72 rfl ?_
        refine V.aload_n (r := 627) hC 0 dL_law_626 rfl rfl ?_
        refine V.iload_n (r := 628) hC 3 dL_law_627 rfl rfl ?_
        refine V.iconst (r := 629) hC dL_law_628 ki_5 rfl ?_
        refine V.iadd (r := 630) hC dL_law_629 rfl ?_
        refine V.sld (r := 631) hC hX dL_law_630 c73 rfl ?_
        obtain ⟨q76, hq77, h⟩ := Option.bind_eq_some_iff.mp h
        try dsimp only at h
        refine V.invVi (as := [.inl (xs (x3 + (1 : Int32)).toNatClampNeg), .inl (xs (x3 + (2 : Int32)).toNatClampNeg), .inl (xs (x3 + (3 : Int32)).toNatClampNeg), .inl (xs (x3 + (4 : Int32)).toNatClampNeg), .inl (xs (x3 + (5 : Int32)).toNatClampNeg)]) (st := [.inl (q74.1)]) (r := 634) hC (met9_feed hq77) yv_X9_feed ml_RL_56 sh_154 rfl rfl dL_law_631 (by decide) rfl rfl rfl rfl ?_
        refine V.icmp_eq (tgt := 1377) (r := 637) hC dL_law_634 (by decide) rfl (fun c78 => ?_) (fun c78 => ?_)
        · rw [if_pos c78] at h
          exact vL_law_b1377 hX hC hR ih _ _ h
        · rw [if_neg c78] at h
          refine V.iconst (r := 638) hC dL_law_637 ki_0 rfl ?_
          cases h
          exact hR _ _ dL_law_638
      rw [if_neg c68] at h
      by_cases c79 : ((xs x3.toNatClampNeg) &&& (63 : Int32)) = (9 : Int32)
      · rw [if_pos c79] at h
        refine V.tabIn (off := 606) (tgt := 639) hC dL_law_33 c79 (by decide) (by decide) (by decide) (by decide) ?_
        refine V.aload_n (r := 640) hC 1 dL_law_639 rfl rfl ?_
        refine V.aload_n (r := 641) hC 0 dL_law_640 rfl rfl ?_
        refine V.iload_n (r := 642) hC 3 dL_law_641 rfl rfl ?_
        refine V.iconst (r := 643) hC dL_law_642 ki_1 rfl ?_
        refine V.iadd (r := 644) hC dL_law_643 rfl ?_
        by_cases c80 : (x3 + (1 : Int32)) < 0 ∨ L ≤ (x3 + (1 : Int32)).toNatClampNeg
        · rw [if_pos c80] at h; cases h
        rw [if_neg c80] at h
        refine V.sld (r := 645) hC hX dL_law_644 c80 rfl ?_
        obtain ⟨q81, hq82, h⟩ := Option.bind_eq_some_iff.mp h
        try dsimp only at h
        refine V.invVi (as := [.inl (xs (x3 + (1 : Int32)).toNatClampNeg)]) (st := []) (r := 648) hC (met8_law hq82) yv_X8_law ml_RL_57 sh_0 rfl rfl dL_law_645 (by decide) rfl rfl rfl rfl ?_
        refine V.aload_n (r := 649) hC 2 dL_law_648 rfl rfl ?_
        refine V.aload_n (r := 650) hC 0 dL_law_649 rfl rfl ?_
        refine V.iload_n (r := 651) hC 3 dL_law_650 rfl rfl ?_
        refine V.iconst (r := 652) hC dL_law_651 ki_1 rfl ?_
        refine V.iadd (r := 653) hC dL_law_652 rfl ?_
        refine V.sld (r := 654) hC hX dL_law_653 c80 rfl ?_
        obtain ⟨q83, hq84, h⟩ := Option.bind_eq_some_iff.mp h
        try dsimp only at h
        refine V.invVi (as := [.inl (xs (x3 + (1 : Int32)).toNatClampNeg)]) (st := [.inl (q81.1)]) (r := 657) hC (met9_law hq84) yv_X9_law ml_RL_61 sh_154 rfl rfl dL_law_654 (by decide) rfl rfl rfl rfl ?_
        refine V.icmp_eq (tgt := 1377) (r := 660) hC dL_law_657 (by decide) rfl (fun c85 => ?_) (fun c85 => ?_)
        · rw [if_pos c85] at h
          exact vL_law_b1377 hX hC hR ih _ _ h
        · rw [if_neg c85] at h
          refine V.iconst (r := 661) hC dL_law_660 ki_0 rfl ?_
          cases h
          exact hR _ _ dL_law_661
      rw [if_neg c79] at h
      by_cases c86 : ((xs x3.toNatClampNeg) &&& (63 : Int32)) = (10 : Int32)
      · rw [if_pos c86] at h
        refine V.tabIn (off := 629) (tgt := 662) hC dL_law_33 c86 (by decide) (by decide) (by decide) (by decide) ?_
        refine V.aload_n (r := 663) hC 1 dL_law_662 rfl rfl ?_
        refine V.aload_n (r := 664) hC 0 dL_law_663 rfl rfl ?_
        refine V.iload_n (r := 665) hC 3 dL_law_664 rfl rfl ?_
        refine V.iconst (r := 666) hC dL_law_665 ki_1 rfl ?_
        refine V.iadd (r := 667) hC dL_law_666 rfl ?_
        by_cases c87 : (x3 + (1 : Int32)) < 0 ∨ L ≤ (x3 + (1 : Int32)).toNatClampNeg
        · rw [if_pos c87] at h; cases h
        rw [if_neg c87] at h
        refine V.sld (r := 668) hC hX dL_law_667 c87 rfl ?_
        obtain ⟨q88, hq89, h⟩ := Option.bind_eq_some_iff.mp h
        try dsimp only at h
        refine V.invVi (as := [.inl (xs (x3 + (1 : Int32)).toNatClampNeg)]) (st := []) (r := 671) hC (met8_price hq89) yv_X8_price ml_RL_62 sh_0 rfl rfl dL_law_668 (by decide) rfl rfl rfl rfl ?_
        refine V.aload_n (r := 672) hC 2 dL_law_671 rfl rfl ?_
        refine V.aload_n (r := 673) hC 0 dL_law_672 rfl rfl ?_
        refine V.iload_n (r := 674) hC 3 dL_law_673 rfl rfl ?_
        refine V.iconst (r := 675) hC dL_law_674 ki_1 rfl ?_
        refine V.iadd (r := 676) hC dL_law_675 rfl ?_
        refine V.sld (r := 677) hC hX dL_law_676 c87 rfl ?_
        obtain ⟨q90, hq91, h⟩ := Option.bind_eq_some_iff.mp h
        try dsimp only at h
        refine V.invVi (as := [.inl (xs (x3 + (1 : Int32)).toNatClampNeg)]) (st := [.inl (q88.1)]) (r := 680) hC (met9_price hq91) yv_X9_price ml_RL_65 sh_154 rfl rfl dL_law_677 (by decide) rfl rfl rfl rfl ?_
        refine V.icmp_eq (tgt := 1377) (r := 683) hC dL_law_680 (by decide) rfl (fun c92 => ?_) (fun c92 => ?_)
        · rw [if_pos c92] at h
          exact vL_law_b1377 hX hC hR ih _ _ h
        · rw [if_neg c92] at h
          refine V.iconst (r := 684) hC dL_law_683 ki_0 rfl ?_
          cases h
          exact hR _ _ dL_law_684
      rw [if_neg c86] at h
      by_cases c93 : ((xs x3.toNatClampNeg) &&& (63 : Int32)) = (11 : Int32)
      · rw [if_pos c93] at h
        refine V.tabIn (off := 652) (tgt := 685) hC dL_law_33 c93 (by decide) (by decide) (by decide) (by decide) ?_
        refine V.aload_n (r := 686) hC 1 dL_law_685 rfl rfl ?_
        refine V.aload_n (r := 687) hC 0 dL_law_686 rfl rfl ?_
        refine V.iload_n (r := 688) hC 3 dL_law_687 rfl rfl ?_
        refine V.iconst (r := 689) hC dL_law_688 ki_1 rfl ?_
        refine V.iadd (r := 690) hC dL_law_689 rfl ?_
        by_cases c94 : (x3 + (1 : Int32)) < 0 ∨ L ≤ (x3 + (1 : Int32)).toNatClampNeg
        · rw [if_pos c94] at h; cases h
        rw [if_neg c94] at h
        refine V.sld (r := 691) hC hX dL_law_690 c94 rfl ?_
        refine V.aload_n (r := 692) hC 0 dL_law_691 rfl rfl ?_
        refine V.iload_n (r := 693) hC 3 dL_law_692 rfl rfl ?_
        refine V.iconst (r := 694) hC dL_law_693 ki_2 rfl ?_
        refine V.iadd (r := 695) hC dL_law_694 rfl ?_
        by_cases c95 : (x3 + (2 : Int32)) < 0 ∨ L ≤ (x3 + (2 : Int32)).toNatClampNeg
        · rw [if_pos c95] at h; cases h
        rw [if_neg c95] at h
        refine V.sld (r := 696) hC hX dL_law_695 c95 rfl ?_
        refine V.aload_n (r := 697) hC 0 dL_law_696 rfl rfl ?_
        refine V.iload_n (r := 698) hC 3 dL_law_697 rfl rfl ?_
        refine V.iconst (r := 699) hC dL_law_698 ki_3 rfl ?_
        refine V.iadd (r := 700) hC dL_law_699 rfl ?_
        by_cases c96 : (x3 + (3 : Int32)) < 0 ∨ L ≤ (x3 + (3 : Int32)).toNatClampNeg
        · rw [if_pos c96] at h; cases h
        rw [if_neg c96] at h
        refine V.sld (r := 701) hC hX dL_law_700 c96 rfl ?_
        obtain ⟨q97, hq98, h⟩ := Option.bind_eq_some_iff.mp h
        try dsimp only at h
        refine V.invVi (as := [.inl (xs (x3 + (1 : Int32)).toNatClampNeg), .inl (xs (x3 + (2 : Int32)).toNatClampNeg), .inl (xs (x3 + (3 : Int32)).toNatClampNeg)]) (st := []) (r := 704) hC (met8_pay hq98) yv_X8_pay ml_RL_66 sh_0 rfl rfl dL_law_701 (by decide) rfl rfl rfl rfl ?_
        refine V.aload_n (r := 705) hC 2 dL_law_704 rfl rfl ?_
        refine V.aload_n (r := 706) hC 0 dL_law_705 rfl rfl ?_
        refine V.iload_n (r := 707) hC 3 dL_law_706 rfl rfl ?_
        refine V.iconst (r := 708) hC dL_law_707 ki_1 rfl ?_
        refine V.iadd (r := 709) hC dL_law_708 rfl ?_
        refine V.sld (r := 710) hC hX dL_law_709 c94 rfl ?_
        refine V.aload_n (r := 711) hC 0 dL_law_710 rfl rfl ?_
        refine V.iload_n (r := 712) hC 3 dL_law_711 rfl rfl ?_
        refine V.iconst (r := 713) hC dL_law_712 ki_2 rfl ?_
        refine V.iadd (r := 714) hC dL_law_713 rfl ?_
        refine V.sld (r := 715) hC hX dL_law_714 c95 rfl ?_
        refine V.aload_n (r := 716) hC 0 dL_law_715 rfl rfl ?_
        refine V.iload_n (r := 717) hC 3 dL_law_716 rfl rfl ?_
        refine V.iconst (r := 718) hC dL_law_717 ki_3 rfl ?_
        refine V.iadd (r := 719) hC dL_law_718 rfl ?_
        refine V.sld (r := 720) hC hX dL_law_719 c96 rfl ?_
        obtain ⟨q99, hq100, h⟩ := Option.bind_eq_some_iff.mp h
        try dsimp only at h
        refine V.invVi (as := [.inl (xs (x3 + (1 : Int32)).toNatClampNeg), .inl (xs (x3 + (2 : Int32)).toNatClampNeg), .inl (xs (x3 + (3 : Int32)).toNatClampNeg)]) (st := [.inl (q97.1)]) (r := 723) hC (met9_pay hq100) yv_X9_pay ml_RL_70 sh_154 rfl rfl dL_law_720 (by decide) rfl rfl rfl rfl ?_
        refine V.icmp_eq (tgt := 1377) (r := 726) hC dL_law_723 (by decide) rfl (fun c101 => ?_) (fun c101 => ?_)
        · rw [if_pos c101] at h
          exact vL_law_b1377 hX hC hR ih _ _ h
        · rw [if_neg c101] at h
          refine V.iconst (r := 727) hC dL_law_726 ki_0 rfl ?_
          cases h
          exact hR _ _ dL_law_727
      rw [if_neg c93] at h
      by_cases c102 : ((xs x3.toNatClampNeg) &&& (63 : Int32)) = (12 : Int32)
      · rw [if_pos c102] at h
        refine V.tabIn (off := 695) (tgt := 728) hC dL_law_33 c102 (by decide) (by decide) (by decide) (by decide) ?_
        refine V.aload_n (r := 729) hC 1 dL_law_728 rfl rfl ?_
        refine V.aload_n (r := 730) hC 0 dL_law_729 rfl rfl ?_
        refine V.iload_n (r := 731) hC 3 dL_law_730 rfl rfl ?_
        refine V.iconst (r := 732) hC dL_law_731 ki_1 rfl ?_
        refine V.iadd (r := 733) hC dL_law_732 rfl ?_
        by_cases c103 : (x3 + (1 : Int32)) < 0 ∨ L ≤ (x3 + (1 : Int32)).toNatClampNeg
        · rw [if_pos c103] at h; cases h
        rw [if_neg c103] at h
        refine V.sld (r := 734) hC hX dL_law_733 c103 rfl ?_
        obtain ⟨q104, hq105, h⟩ := Option.bind_eq_some_iff.mp h
        try dsimp only at h
        refine V.invVi (as := [.inl (xs (x3 + (1 : Int32)).toNatClampNeg)]) (st := []) (r := 737) hC (met8_clouds hq105) yv_X8_clouds ml_RL_71 sh_0 rfl rfl dL_law_734 (by decide) rfl rfl rfl rfl ?_
        refine V.aload_n (r := 738) hC 2 dL_law_737 rfl rfl ?_
        refine V.aload_n (r := 739) hC 0 dL_law_738 rfl rfl ?_
        refine V.iload_n (r := 740) hC 3 dL_law_739 rfl rfl ?_
        refine V.iconst (r := 741) hC dL_law_740 ki_1 rfl ?_
        refine V.iadd (r := 742) hC dL_law_741 rfl ?_
        refine V.sld (r := 743) hC hX dL_law_742 c103 rfl ?_
        obtain ⟨q106, hq107, h⟩ := Option.bind_eq_some_iff.mp h
        try dsimp only at h
        refine V.invVi (as := [.inl (xs (x3 + (1 : Int32)).toNatClampNeg)]) (st := [.inl (q104.1)]) (r := 746) hC (met9_clouds hq107) yv_X9_clouds ml_RL_74 sh_154 rfl rfl dL_law_743 (by decide) rfl rfl rfl rfl ?_
        refine V.icmp_eq (tgt := 1377) (r := 749) hC dL_law_746 (by decide) rfl (fun c108 => ?_) (fun c108 => ?_)
        · rw [if_pos c108] at h
          exact vL_law_b1377 hX hC hR ih _ _ h
        · rw [if_neg c108] at h
          refine V.iconst (r := 750) hC dL_law_749 ki_0 rfl ?_
          cases h
          exact hR _ _ dL_law_750
      rw [if_neg c102] at h
      by_cases c109 : ((xs x3.toNatClampNeg) &&& (63 : Int32)) = (13 : Int32)
      · rw [if_pos c109] at h
        refine V.tabIn (off := 718) (tgt := 751) hC dL_law_33 c109 (by decide) (by decide) (by decide) (by decide) ?_
        refine V.aload_n (r := 752) hC 1 dL_law_751 rfl rfl ?_
        refine V.aload_n (r := 753) hC 0 dL_law_752 rfl rfl ?_
        refine V.iload_n (r := 754) hC 3 dL_law_753 rfl rfl ?_
        refine V.iconst (r := 755) hC dL_law_754 ki_1 rfl ?_
        refine V.iadd (r := 756) hC dL_law_755 rfl ?_
        by_cases c110 : (x3 + (1 : Int32)) < 0 ∨ L ≤ (x3 + (1 : Int32)).toNatClampNeg
        · rw [if_pos c110] at h; cases h
        rw [if_neg c110] at h
        refine V.sld (r := 757) hC hX dL_law_756 c110 rfl ?_
        obtain ⟨q111, hq112, h⟩ := Option.bind_eq_some_iff.mp h
        try dsimp only at h
        refine V.invVi (as := [.inl (xs (x3 + (1 : Int32)).toNatClampNeg)]) (st := []) (r := 760) hC (met8_lit hq112) yv_X8_lit ml_RL_75 sh_0 rfl rfl dL_law_757 (by decide) rfl rfl rfl rfl ?_
        refine V.aload_n (r := 761) hC 2 dL_law_760 rfl rfl ?_
        refine V.aload_n (r := 762) hC 0 dL_law_761 rfl rfl ?_
        refine V.iload_n (r := 763) hC 3 dL_law_762 rfl rfl ?_
        refine V.iconst (r := 764) hC dL_law_763 ki_1 rfl ?_
        refine V.iadd (r := 765) hC dL_law_764 rfl ?_
        refine V.sld (r := 766) hC hX dL_law_765 c110 rfl ?_
        obtain ⟨q113, hq114, h⟩ := Option.bind_eq_some_iff.mp h
        try dsimp only at h
        refine V.invVi (as := [.inl (xs (x3 + (1 : Int32)).toNatClampNeg)]) (st := [.inl (q111.1)]) (r := 769) hC (met9_lit hq114) yv_X9_lit ml_RL_78 sh_154 rfl rfl dL_law_766 (by decide) rfl rfl rfl rfl ?_
        refine V.icmp_eq (tgt := 1377) (r := 772) hC dL_law_769 (by decide) rfl (fun c115 => ?_) (fun c115 => ?_)
        · rw [if_pos c115] at h
          exact vL_law_b1377 hX hC hR ih _ _ h
        · rw [if_neg c115] at h
          refine V.iconst (r := 773) hC dL_law_772 ki_0 rfl ?_
          cases h
          exact hR _ _ dL_law_773
      rw [if_neg c109] at h
      by_cases c116 : ((xs x3.toNatClampNeg) &&& (63 : Int32)) = (14 : Int32)
      · rw [if_pos c116] at h
        refine V.tabIn (off := 741) (tgt := 774) hC dL_law_33 c116 (by decide) (by decide) (by decide) (by decide) ?_
        refine V.aload_n (r := 775) hC 1 dL_law_774 rfl rfl ?_
        refine V.aload_n (r := 776) hC 0 dL_law_775 rfl rfl ?_
        refine V.iload_n (r := 777) hC 3 dL_law_776 rfl rfl ?_
        refine V.iconst (r := 778) hC dL_law_777 ki_1 rfl ?_
        refine V.iadd (r := 779) hC dL_law_778 rfl ?_
        by_cases c117 : (x3 + (1 : Int32)) < 0 ∨ L ≤ (x3 + (1 : Int32)).toNatClampNeg
        · rw [if_pos c117] at h; cases h
        rw [if_neg c117] at h
        refine V.sld (r := 780) hC hX dL_law_779 c117 rfl ?_
        refine V.aload_n (r := 781) hC 0 dL_law_780 rfl rfl ?_
        refine V.iload_n (r := 782) hC 3 dL_law_781 rfl rfl ?_
        refine V.iconst (r := 783) hC dL_law_782 ki_2 rfl ?_
        refine V.iadd (r := 784) hC dL_law_783 rfl ?_
        by_cases c118 : (x3 + (2 : Int32)) < 0 ∨ L ≤ (x3 + (2 : Int32)).toNatClampNeg
        · rw [if_pos c118] at h; cases h
        rw [if_neg c118] at h
        refine V.sld (r := 785) hC hX dL_law_784 c118 rfl ?_
        obtain ⟨q119, hq120, h⟩ := Option.bind_eq_some_iff.mp h
        try dsimp only at h
        refine V.invVi (as := [.inl (xs (x3 + (1 : Int32)).toNatClampNeg), .inl (xs (x3 + (2 : Int32)).toNatClampNeg)]) (st := []) (r := 788) hC (met8_pull hq120) yv_X8_pull ml_RL_79 sh_0 rfl rfl dL_law_785 (by decide) rfl rfl rfl rfl ?_
        refine V.aload_n (r := 789) hC 2 dL_law_788 rfl rfl ?_
        refine V.aload_n (r := 790) hC 0 dL_law_789 rfl rfl ?_
        refine V.iload_n (r := 791) hC 3 dL_law_790 rfl rfl ?_
        refine V.iconst (r := 792) hC dL_law_791 ki_1 rfl ?_
        refine V.iadd (r := 793) hC dL_law_792 rfl ?_
        refine V.sld (r := 794) hC hX dL_law_793 c117 rfl ?_
        refine V.aload_n (r := 795) hC 0 dL_law_794 rfl rfl ?_
        refine V.iload_n (r := 796) hC 3 dL_law_795 rfl rfl ?_
        refine V.iconst (r := 797) hC dL_law_796 ki_2 rfl ?_
        refine V.iadd (r := 798) hC dL_law_797 rfl ?_
        refine V.sld (r := 799) hC hX dL_law_798 c118 rfl ?_
        obtain ⟨q121, hq122, h⟩ := Option.bind_eq_some_iff.mp h
        try dsimp only at h
        refine V.invVi (as := [.inl (xs (x3 + (1 : Int32)).toNatClampNeg), .inl (xs (x3 + (2 : Int32)).toNatClampNeg)]) (st := [.inl (q119.1)]) (r := 802) hC (met9_pull hq122) yv_X9_pull ml_RL_83 sh_154 rfl rfl dL_law_799 (by decide) rfl rfl rfl rfl ?_
        refine V.icmp_eq (tgt := 1377) (r := 805) hC dL_law_802 (by decide) rfl (fun c123 => ?_) (fun c123 => ?_)
        · rw [if_pos c123] at h
          exact vL_law_b1377 hX hC hR ih _ _ h
        · rw [if_neg c123] at h
          refine V.iconst (r := 806) hC dL_law_805 ki_0 rfl ?_
          cases h
          exact hR _ _ dL_law_806
      rw [if_neg c116] at h
      by_cases c124 : ((xs x3.toNatClampNeg) &&& (63 : Int32)) = (15 : Int32)
      · rw [if_pos c124] at h
        refine V.tabIn (off := 774) (tgt := 807) hC dL_law_33 c124 (by decide) (by decide) (by decide) (by decide) ?_
        refine V.aload_n (r := 808) hC 1 dL_law_807 rfl rfl ?_
        refine V.aload_n (r := 809) hC 0 dL_law_808 rfl rfl ?_
        refine V.iload_n (r := 810) hC 3 dL_law_809 rfl rfl ?_
        refine V.iconst (r := 811) hC dL_law_810 ki_1 rfl ?_
        refine V.iadd (r := 812) hC dL_law_811 rfl ?_
        by_cases c125 : (x3 + (1 : Int32)) < 0 ∨ L ≤ (x3 + (1 : Int32)).toNatClampNeg
        · rw [if_pos c125] at h; cases h
        rw [if_neg c125] at h
        refine V.sld (r := 813) hC hX dL_law_812 c125 rfl ?_
        obtain ⟨q126, hq127, h⟩ := Option.bind_eq_some_iff.mp h
        try dsimp only at h
        refine V.invVi (as := [.inl (xs (x3 + (1 : Int32)).toNatClampNeg)]) (st := []) (r := 816) hC (met8_target hq127) yv_X8_target ml_RL_84 sh_0 rfl rfl dL_law_813 (by decide) rfl rfl rfl rfl ?_
        refine V.aload_n (r := 817) hC 2 dL_law_816 rfl rfl ?_
        refine V.aload_n (r := 818) hC 0 dL_law_817 rfl rfl ?_
        refine V.iload_n (r := 819) hC 3 dL_law_818 rfl rfl ?_
        refine V.iconst (r := 820) hC dL_law_819 ki_1 rfl ?_
        refine V.iadd (r := 821) hC dL_law_820 rfl ?_
        refine V.sld (r := 822) hC hX dL_law_821 c125 rfl ?_
        obtain ⟨q128, hq129, h⟩ := Option.bind_eq_some_iff.mp h
        try dsimp only at h
        refine V.invVi (as := [.inl (xs (x3 + (1 : Int32)).toNatClampNeg)]) (st := [.inl (q126.1)]) (r := 825) hC (met9_target hq129) yv_X9_target ml_RL_87 sh_154 rfl rfl dL_law_822 (by decide) rfl rfl rfl rfl ?_
        refine V.icmp_eq (tgt := 1377) (r := 828) hC dL_law_825 (by decide) rfl (fun c130 => ?_) (fun c130 => ?_)
        · rw [if_pos c130] at h
          exact vL_law_b1377 hX hC hR ih _ _ h
        · rw [if_neg c130] at h
          refine V.iconst (r := 829) hC dL_law_828 ki_0 rfl ?_
          cases h
          exact hR _ _ dL_law_829
      rw [if_neg c124] at h
      by_cases c131 : ((xs x3.toNatClampNeg) &&& (63 : Int32)) = (16 : Int32)
      · rw [if_pos c131] at h
        refine V.tabIn (off := 797) (tgt := 830) hC dL_law_33 c131 (by decide) (by decide) (by decide) (by decide) ?_
        refine V.aload_n (r := 831) hC 1 dL_law_830 rfl rfl ?_
        refine V.aload_n (r := 832) hC 0 dL_law_831 rfl rfl ?_
        refine V.iload_n (r := 833) hC 3 dL_law_832 rfl rfl ?_
        refine V.iconst (r := 834) hC dL_law_833 ki_1 rfl ?_
        refine V.iadd (r := 835) hC dL_law_834 rfl ?_
        by_cases c132 : (x3 + (1 : Int32)) < 0 ∨ L ≤ (x3 + (1 : Int32)).toNatClampNeg
        · rw [if_pos c132] at h; cases h
        rw [if_neg c132] at h
        refine V.sld (r := 836) hC hX dL_law_835 c132 rfl ?_
        obtain ⟨q133, hq134, h⟩ := Option.bind_eq_some_iff.mp h
        try dsimp only at h
        refine V.invVi (as := [.inl (xs (x3 + (1 : Int32)).toNatClampNeg)]) (st := []) (r := 839) hC (met8_hours hq134) yv_X8_hours ml_RL_88 sh_0 rfl rfl dL_law_836 (by decide) rfl rfl rfl rfl ?_
        refine V.aload_n (r := 840) hC 2 dL_law_839 rfl rfl ?_
        refine V.aload_n (r := 841) hC 0 dL_law_840 rfl rfl ?_
        refine V.iload_n (r := 842) hC 3 dL_law_841 rfl rfl ?_
        refine V.iconst (r := 843) hC dL_law_842 ki_1 rfl ?_
        refine V.iadd (r := 844) hC dL_law_843 rfl ?_
        refine V.sld (r := 845) hC hX dL_law_844 c132 rfl ?_
        obtain ⟨q135, hq136, h⟩ := Option.bind_eq_some_iff.mp h
        try dsimp only at h
        refine V.invVi (as := [.inl (xs (x3 + (1 : Int32)).toNatClampNeg)]) (st := [.inl (q133.1)]) (r := 848) hC (met9_hours hq136) yv_X9_hours ml_RL_91 sh_154 rfl rfl dL_law_845 (by decide) rfl rfl rfl rfl ?_
        refine V.icmp_eq (tgt := 1377) (r := 851) hC dL_law_848 (by decide) rfl (fun c137 => ?_) (fun c137 => ?_)
        · rw [if_pos c137] at h
          exact vL_law_b1377 hX hC hR ih _ _ h
        · rw [if_neg c137] at h
          refine V.iconst (r := 852) hC dL_law_851 ki_0 rfl ?_
          cases h
          exact hR _ _ dL_law_852
      rw [if_neg c131] at h
      by_cases c138 : ((xs x3.toNatClampNeg) &&& (63 : Int32)) = (17 : Int32)
      · rw [if_pos c138] at h
        refine V.tabIn (off := 820) (tgt := 853) hC dL_law_33 c138 (by decide) (by decide) (by decide) (by decide) ?_
        refine V.aload_n (r := 854) hC 1 dL_law_853 rfl rfl ?_
        refine V.aload_n (r := 855) hC 0 dL_law_854 rfl rfl ?_
        refine V.iload_n (r := 856) hC 3 dL_law_855 rfl rfl ?_
        refine V.iconst (r := 857) hC dL_law_856 ki_1 rfl ?_
        refine V.iadd (r := 858) hC dL_law_857 rfl ?_
        by_cases c139 : (x3 + (1 : Int32)) < 0 ∨ L ≤ (x3 + (1 : Int32)).toNatClampNeg
        · rw [if_pos c139] at h; cases h
        rw [if_neg c139] at h
        refine V.sld (r := 859) hC hX dL_law_858 c139 rfl ?_
        obtain ⟨q140, hq141, h⟩ := Option.bind_eq_some_iff.mp h
        try dsimp only at h
        refine V.invVi (as := [.inl (xs (x3 + (1 : Int32)).toNatClampNeg)]) (st := []) (r := 862) hC (met8_hour hq141) yv_X8_hour ml_RL_92 sh_0 rfl rfl dL_law_859 (by decide) rfl rfl rfl rfl ?_
        refine V.aload_n (r := 863) hC 2 dL_law_862 rfl rfl ?_
        refine V.aload_n (r := 864) hC 0 dL_law_863 rfl rfl ?_
        refine V.iload_n (r := 865) hC 3 dL_law_864 rfl rfl ?_
        refine V.iconst (r := 866) hC dL_law_865 ki_1 rfl ?_
        refine V.iadd (r := 867) hC dL_law_866 rfl ?_
        refine V.sld (r := 868) hC hX dL_law_867 c139 rfl ?_
        obtain ⟨q142, hq143, h⟩ := Option.bind_eq_some_iff.mp h
        try dsimp only at h
        refine V.invVi (as := [.inl (xs (x3 + (1 : Int32)).toNatClampNeg)]) (st := [.inl (q140.1)]) (r := 871) hC (met9_hour hq143) yv_X9_hour ml_RL_95 sh_154 rfl rfl dL_law_868 (by decide) rfl rfl rfl rfl ?_
        refine V.icmp_eq (tgt := 1377) (r := 874) hC dL_law_871 (by decide) rfl (fun c144 => ?_) (fun c144 => ?_)
        · rw [if_pos c144] at h
          exact vL_law_b1377 hX hC hR ih _ _ h
        · rw [if_neg c144] at h
          refine V.iconst (r := 875) hC dL_law_874 ki_0 rfl ?_
          cases h
          exact hR _ _ dL_law_875
      rw [if_neg c138] at h
      by_cases c145 : ((xs x3.toNatClampNeg) &&& (63 : Int32)) = (18 : Int32)
      · rw [if_pos c145] at h
        refine V.tabIn (off := 843) (tgt := 876) hC dL_law_33 c145 (by decide) (by decide) (by decide) (by decide) ?_
        refine V.aload_n (r := 877) hC 1 dL_law_876 rfl rfl ?_
        refine V.aload_n (r := 878) hC 0 dL_law_877 rfl rfl ?_
        refine V.iload_n (r := 879) hC 3 dL_law_878 rfl rfl ?_
        refine V.iconst (r := 880) hC dL_law_879 ki_1 rfl ?_
        refine V.iadd (r := 881) hC dL_law_880 rfl ?_
        by_cases c146 : (x3 + (1 : Int32)) < 0 ∨ L ≤ (x3 + (1 : Int32)).toNatClampNeg
        · rw [if_pos c146] at h; cases h
        rw [if_neg c146] at h
        refine V.sld (r := 882) hC hX dL_law_881 c146 rfl ?_
        refine V.aload_n (r := 883) hC 0 dL_law_882 rfl rfl ?_
        refine V.iload_n (r := 884) hC 3 dL_law_883 rfl rfl ?_
        refine V.iconst (r := 885) hC dL_law_884 ki_2 rfl ?_
        refine V.iadd (r := 886) hC dL_law_885 rfl ?_
        by_cases c147 : (x3 + (2 : Int32)) < 0 ∨ L ≤ (x3 + (2 : Int32)).toNatClampNeg
        · rw [if_pos c147] at h; cases h
        rw [if_neg c147] at h
        refine V.sld (r := 887) hC hX dL_law_886 c147 rfl ?_
        obtain ⟨q148, hq149, h⟩ := Option.bind_eq_some_iff.mp h
        try dsimp only at h
        refine V.invVi (as := [.inl (xs (x3 + (1 : Int32)).toNatClampNeg), .inl (xs (x3 + (2 : Int32)).toNatClampNeg)]) (st := []) (r := 890) hC (met8_tried hq149) yv_X8_tried ml_RL_96 sh_0 rfl rfl dL_law_887 (by decide) rfl rfl rfl rfl ?_
        refine V.aload_n (r := 891) hC 2 dL_law_890 rfl rfl ?_
        refine V.aload_n (r := 892) hC 0 dL_law_891 rfl rfl ?_
        refine V.iload_n (r := 893) hC 3 dL_law_892 rfl rfl ?_
        refine V.iconst (r := 894) hC dL_law_893 ki_1 rfl ?_
        refine V.iadd (r := 895) hC dL_law_894 rfl ?_
        refine V.sld (r := 896) hC hX dL_law_895 c146 rfl ?_
        refine V.aload_n (r := 897) hC 0 dL_law_896 rfl rfl ?_
        refine V.iload_n (r := 898) hC 3 dL_law_897 rfl rfl ?_
        refine V.iconst (r := 899) hC dL_law_898 ki_2 rfl ?_
        refine V.iadd (r := 900) hC dL_law_899 rfl ?_
        refine V.sld (r := 901) hC hX dL_law_900 c147 rfl ?_
        obtain ⟨q150, hq151, h⟩ := Option.bind_eq_some_iff.mp h
        try dsimp only at h
        refine V.invVi (as := [.inl (xs (x3 + (1 : Int32)).toNatClampNeg), .inl (xs (x3 + (2 : Int32)).toNatClampNeg)]) (st := [.inl (q148.1)]) (r := 904) hC (met9_tried hq151) yv_X9_tried ml_RL_99 sh_154 rfl rfl dL_law_901 (by decide) rfl rfl rfl rfl ?_
        refine V.icmp_eq (tgt := 1377) (r := 907) hC dL_law_904 (by decide) rfl (fun c152 => ?_) (fun c152 => ?_)
        · rw [if_pos c152] at h
          exact vL_law_b1377 hX hC hR ih _ _ h
        · rw [if_neg c152] at h
          refine V.iconst (r := 908) hC dL_law_907 ki_0 rfl ?_
          cases h
          exact hR _ _ dL_law_908
      rw [if_neg c145] at h
      by_cases c153 : ((xs x3.toNatClampNeg) &&& (63 : Int32)) = (19 : Int32)
      · rw [if_pos c153] at h
        refine V.tabIn (off := 876) (tgt := 909) hC dL_law_33 c153 (by decide) (by decide) (by decide) (by decide) ?_
        refine V.aload_n (r := 910) hC 1 dL_law_909 rfl rfl ?_
        refine V.aload_n (r := 911) hC 0 dL_law_910 rfl rfl ?_
        refine V.iload_n (r := 912) hC 3 dL_law_911 rfl rfl ?_
        refine V.iconst (r := 913) hC dL_law_912 ki_1 rfl ?_
        refine V.iadd (r := 914) hC dL_law_913 rfl ?_
        by_cases c154 : (x3 + (1 : Int32)) < 0 ∨ L ≤ (x3 + (1 : Int32)).toNatClampNeg
        · rw [if_pos c154] at h; cases h
        rw [if_neg c154] at h
        refine V.sld (r := 915) hC hX dL_law_914 c154 rfl ?_
        refine V.aload_n (r := 916) hC 0 dL_law_915 rfl rfl ?_
        refine V.iload_n (r := 917) hC 3 dL_law_916 rfl rfl ?_
        refine V.iconst (r := 918) hC dL_law_917 ki_2 rfl ?_
        refine V.iadd (r := 919) hC dL_law_918 rfl ?_
        by_cases c155 : (x3 + (2 : Int32)) < 0 ∨ L ≤ (x3 + (2 : Int32)).toNatClampNeg
        · rw [if_pos c155] at h; cases h
        rw [if_neg c155] at h
        refine V.sld (r := 920) hC hX dL_law_919 c155 rfl ?_
        obtain ⟨q156, hq157, h⟩ := Option.bind_eq_some_iff.mp h
        try dsimp only at h
        refine V.invVi (as := [.inl (xs (x3 + (1 : Int32)).toNatClampNeg), .inl (xs (x3 + (2 : Int32)).toNatClampNeg)]) (st := []) (r := 923) hC (met8_herdIs hq157) yv_X8_herdIs ml_RL_100 sh_0 rfl rfl dL_law_920 (by decide) rfl rfl rfl rfl ?_
        refine V.aload_n (r := 924) hC 2 dL_law_923 rfl rfl ?_
        refine V.aload_n (r := 925) hC 0 dL_law_924 rfl rfl ?_
        refine V.iload_n (r := 926) hC 3 dL_law_925 rfl rfl ?_
        refine V.iconst (r := 927) hC dL_law_926 ki_1 rfl ?_
        refine V.iadd (r := 928) hC dL_law_927 rfl ?_
        refine V.sld (r := 929) hC hX dL_law_928 c154 rfl ?_
        refine V.aload_n (r := 930) hC 0 dL_law_929 rfl rfl ?_
        refine V.iload_n (r := 931) hC 3 dL_law_930 rfl rfl ?_
        refine V.iconst (r := 932) hC dL_law_931 ki_2 rfl ?_
        refine V.iadd (r := 933) hC dL_law_932 rfl ?_
        refine V.sld (r := 934) hC hX dL_law_933 c155 rfl ?_
        obtain ⟨q158, hq159, h⟩ := Option.bind_eq_some_iff.mp h
        try dsimp only at h
        refine V.invVi (as := [.inl (xs (x3 + (1 : Int32)).toNatClampNeg), .inl (xs (x3 + (2 : Int32)).toNatClampNeg)]) (st := [.inl (q156.1)]) (r := 937) hC (met9_herdIs hq159) yv_X9_herdIs ml_RL_103 sh_154 rfl rfl dL_law_934 (by decide) rfl rfl rfl rfl ?_
        refine V.icmp_eq (tgt := 1377) (r := 940) hC dL_law_937 (by decide) rfl (fun c160 => ?_) (fun c160 => ?_)
        · rw [if_pos c160] at h
          exact vL_law_b1377 hX hC hR ih _ _ h
        · rw [if_neg c160] at h
          refine V.iconst (r := 941) hC dL_law_940 ki_0 rfl ?_
          cases h
          exact hR _ _ dL_law_941
      rw [if_neg c153] at h
      by_cases c161 : ((xs x3.toNatClampNeg) &&& (63 : Int32)) = (20 : Int32)
      · rw [if_pos c161] at h
        refine V.tabIn (off := 909) (tgt := 942) hC dL_law_33 c161 (by decide) (by decide) (by decide) (by decide) ?_
        refine V.aload_n (r := 943) hC 1 dL_law_942 rfl rfl ?_
        refine V.aload_n (r := 944) hC 0 dL_law_943 rfl rfl ?_
        refine V.iload_n (r := 945) hC 3 dL_law_944 rfl rfl ?_
        refine V.iconst (r := 946) hC dL_law_945 ki_1 rfl ?_
        refine V.iadd (r := 947) hC dL_law_946 rfl ?_
        by_cases c162 : (x3 + (1 : Int32)) < 0 ∨ L ≤ (x3 + (1 : Int32)).toNatClampNeg
        · rw [if_pos c162] at h; cases h
        rw [if_neg c162] at h
        refine V.sld (r := 948) hC hX dL_law_947 c162 rfl ?_
        refine V.aload_n (r := 949) hC 0 dL_law_948 rfl rfl ?_
        refine V.iload_n (r := 950) hC 3 dL_law_949 rfl rfl ?_
        refine V.iconst (r := 951) hC dL_law_950 ki_2 rfl ?_
        refine V.iadd (r := 952) hC dL_law_951 rfl ?_
        by_cases c163 : (x3 + (2 : Int32)) < 0 ∨ L ≤ (x3 + (2 : Int32)).toNatClampNeg
        · rw [if_pos c163] at h; cases h
        rw [if_neg c163] at h
        refine V.sld (r := 953) hC hX dL_law_952 c163 rfl ?_
        obtain ⟨q164, hq165, h⟩ := Option.bind_eq_some_iff.mp h
        try dsimp only at h
        refine V.invVi (as := [.inl (xs (x3 + (1 : Int32)).toNatClampNeg), .inl (xs (x3 + (2 : Int32)).toNatClampNeg)]) (st := []) (r := 956) hC (met8_lampIs hq165) yv_X8_lampIs ml_RL_104 sh_0 rfl rfl dL_law_953 (by decide) rfl rfl rfl rfl ?_
        refine V.aload_n (r := 957) hC 2 dL_law_956 rfl rfl ?_
        refine V.aload_n (r := 958) hC 0 dL_law_957 rfl rfl ?_
        refine V.iload_n (r := 959) hC 3 dL_law_958 rfl rfl ?_
        refine V.iconst (r := 960) hC dL_law_959 ki_1 rfl ?_
        refine V.iadd (r := 961) hC dL_law_960 rfl ?_
        refine V.sld (r := 962) hC hX dL_law_961 c162 rfl ?_
        refine V.aload_n (r := 963) hC 0 dL_law_962 rfl rfl ?_
        refine V.iload_n (r := 964) hC 3 dL_law_963 rfl rfl ?_
        refine V.iconst (r := 965) hC dL_law_964 ki_2 rfl ?_
        refine V.iadd (r := 966) hC dL_law_965 rfl ?_
        refine V.sld (r := 967) hC hX dL_law_966 c163 rfl ?_
        obtain ⟨q166, hq167, h⟩ := Option.bind_eq_some_iff.mp h
        try dsimp only at h
        refine V.invVi (as := [.inl (xs (x3 + (1 : Int32)).toNatClampNeg), .inl (xs (x3 + (2 : Int32)).toNatClampNeg)]) (st := [.inl (q164.1)]) (r := 970) hC (met9_lampIs hq167) yv_X9_lampIs ml_RL_107 sh_154 rfl rfl dL_law_967 (by decide) rfl rfl rfl rfl ?_
        refine V.icmp_eq (tgt := 1377) (r := 973) hC dL_law_970 (by decide) rfl (fun c168 => ?_) (fun c168 => ?_)
        · rw [if_pos c168] at h
          exact vL_law_b1377 hX hC hR ih _ _ h
        · rw [if_neg c168] at h
          refine V.iconst (r := 974) hC dL_law_973 ki_0 rfl ?_
          cases h
          exact hR _ _ dL_law_974
      rw [if_neg c161] at h
      by_cases c169 : ((xs x3.toNatClampNeg) &&& (63 : Int32)) = (21 : Int32)
      · rw [if_pos c169] at h
        refine V.tabIn (off := 942) (tgt := 975) hC dL_law_33 c169 (by decide) (by decide) (by decide) (by decide) ?_
        refine V.aload_n (r := 976) hC 1 dL_law_975 rfl rfl ?_
        refine V.aload_n (r := 977) hC 0 dL_law_976 rfl rfl ?_
        refine V.iload_n (r := 978) hC 3 dL_law_977 rfl rfl ?_
        refine V.iconst (r := 979) hC dL_law_978 ki_1 rfl ?_
        refine V.iadd (r := 980) hC dL_law_979 rfl ?_
        by_cases c170 : (x3 + (1 : Int32)) < 0 ∨ L ≤ (x3 + (1 : Int32)).toNatClampNeg
        · rw [if_pos c170] at h; cases h
        rw [if_neg c170] at h
        refine V.sld (r := 981) hC hX dL_law_980 c170 rfl ?_
        obtain ⟨q171, hq172, h⟩ := Option.bind_eq_some_iff.mp h
        try dsimp only at h
        refine V.invVi (as := [.inl (xs (x3 + (1 : Int32)).toNatClampNeg)]) (st := []) (r := 984) hC (met8_led hq172) yv_X8_led ml_RL_108 sh_0 rfl rfl dL_law_981 (by decide) rfl rfl rfl rfl ?_
        refine V.aload_n (r := 985) hC 2 dL_law_984 rfl rfl ?_
        refine V.aload_n (r := 986) hC 0 dL_law_985 rfl rfl ?_
        refine V.iload_n (r := 987) hC 3 dL_law_986 rfl rfl ?_
        refine V.iconst (r := 988) hC dL_law_987 ki_1 rfl ?_
        refine V.iadd (r := 989) hC dL_law_988 rfl ?_
        refine V.sld (r := 990) hC hX dL_law_989 c170 rfl ?_
        obtain ⟨q173, hq174, h⟩ := Option.bind_eq_some_iff.mp h
        try dsimp only at h
        refine V.invVi (as := [.inl (xs (x3 + (1 : Int32)).toNatClampNeg)]) (st := [.inl (q171.1)]) (r := 993) hC (met9_led hq174) yv_X9_led ml_RL_111 sh_154 rfl rfl dL_law_990 (by decide) rfl rfl rfl rfl ?_
        refine V.icmp_eq (tgt := 1377) (r := 996) hC dL_law_993 (by decide) rfl (fun c175 => ?_) (fun c175 => ?_)
        · rw [if_pos c175] at h
          exact vL_law_b1377 hX hC hR ih _ _ h
        · rw [if_neg c175] at h
          refine V.iconst (r := 997) hC dL_law_996 ki_0 rfl ?_
          cases h
          exact hR _ _ dL_law_997
      rw [if_neg c169] at h
      by_cases c176 : ((xs x3.toNatClampNeg) &&& (63 : Int32)) = (22 : Int32)
      · rw [if_pos c176] at h
        refine V.tabIn (off := 965) (tgt := 998) hC dL_law_33 c176 (by decide) (by decide) (by decide) (by decide) ?_
        refine V.aload_n (r := 999) hC 1 dL_law_998 rfl rfl ?_
        refine V.aload_n (r := 1000) hC 0 dL_law_999 rfl rfl ?_
        refine V.iload_n (r := 1001) hC 3 dL_law_1000 rfl rfl ?_
        refine V.iconst (r := 1002) hC dL_law_1001 ki_1 rfl ?_
        refine V.iadd (r := 1003) hC dL_law_1002 rfl ?_
        by_cases c177 : (x3 + (1 : Int32)) < 0 ∨ L ≤ (x3 + (1 : Int32)).toNatClampNeg
        · rw [if_pos c177] at h; cases h
        rw [if_neg c177] at h
        refine V.sld (r := 1004) hC hX dL_law_1003 c177 rfl ?_
        refine V.aload_n (r := 1005) hC 0 dL_law_1004 rfl rfl ?_
        refine V.iload_n (r := 1006) hC 3 dL_law_1005 rfl rfl ?_
        refine V.iconst (r := 1007) hC dL_law_1006 ki_2 rfl ?_
        refine V.iadd (r := 1008) hC dL_law_1007 rfl ?_
        by_cases c178 : (x3 + (2 : Int32)) < 0 ∨ L ≤ (x3 + (2 : Int32)).toNatClampNeg
        · rw [if_pos c178] at h; cases h
        rw [if_neg c178] at h
        refine V.sld (r := 1009) hC hX dL_law_1008 c178 rfl ?_
        obtain ⟨q179, hq180, h⟩ := Option.bind_eq_some_iff.mp h
        try dsimp only at h
        refine V.invVi (as := [.inl (xs (x3 + (1 : Int32)).toNatClampNeg), .inl (xs (x3 + (2 : Int32)).toNatClampNeg)]) (st := []) (r := 1012) hC (met8_plan hq180) yv_X8_plan ml_RL_112 sh_0 rfl rfl dL_law_1009 (by decide) rfl rfl rfl rfl ?_
        refine V.aload_n (r := 1013) hC 2 dL_law_1012 rfl rfl ?_
        refine V.aload_n (r := 1014) hC 0 dL_law_1013 rfl rfl ?_
        refine V.iload_n (r := 1015) hC 3 dL_law_1014 rfl rfl ?_
        refine V.iconst (r := 1016) hC dL_law_1015 ki_1 rfl ?_
        refine V.iadd (r := 1017) hC dL_law_1016 rfl ?_
        refine V.sld (r := 1018) hC hX dL_law_1017 c177 rfl ?_
        refine V.aload_n (r := 1019) hC 0 dL_law_1018 rfl rfl ?_
        refine V.iload_n (r := 1020) hC 3 dL_law_1019 rfl rfl ?_
        refine V.iconst (r := 1021) hC dL_law_1020 ki_2 rfl ?_
        refine V.iadd (r := 1022) hC dL_law_1021 rfl ?_
        refine V.sld (r := 1023) hC hX dL_law_1022 c178 rfl ?_
        obtain ⟨q181, hq182, h⟩ := Option.bind_eq_some_iff.mp h
        try dsimp only at h
        refine V.invVi (as := [.inl (xs (x3 + (1 : Int32)).toNatClampNeg), .inl (xs (x3 + (2 : Int32)).toNatClampNeg)]) (st := [.inl (q179.1)]) (r := 1026) hC (met9_plan hq182) yv_X9_plan ml_RL_115 sh_154 rfl rfl dL_law_1023 (by decide) rfl rfl rfl rfl ?_
        refine V.icmp_eq (tgt := 1377) (r := 1029) hC dL_law_1026 (by decide) rfl (fun c183 => ?_) (fun c183 => ?_)
        · rw [if_pos c183] at h
          exact vL_law_b1377 hX hC hR ih _ _ h
        · rw [if_neg c183] at h
          refine V.iconst (r := 1030) hC dL_law_1029 ki_0 rfl ?_
          cases h
          exact hR _ _ dL_law_1030
      rw [if_neg c176] at h
      by_cases c184 : ((xs x3.toNatClampNeg) &&& (63 : Int32)) = (23 : Int32)
      · rw [if_pos c184] at h
        refine V.tabIn (off := 998) (tgt := 1031) hC dL_law_33 c184 (by decide) (by decide) (by decide) (by decide) ?_
        refine V.aload_n (r := 1032) hC 1 dL_law_1031 rfl rfl ?_
        refine V.aload_n (r := 1033) hC 0 dL_law_1032 rfl rfl ?_
        refine V.iload_n (r := 1034) hC 3 dL_law_1033 rfl rfl ?_
        refine V.iconst (r := 1035) hC dL_law_1034 ki_1 rfl ?_
        refine V.iadd (r := 1036) hC dL_law_1035 rfl ?_
        by_cases c185 : (x3 + (1 : Int32)) < 0 ∨ L ≤ (x3 + (1 : Int32)).toNatClampNeg
        · rw [if_pos c185] at h; cases h
        rw [if_neg c185] at h
        refine V.sld (r := 1037) hC hX dL_law_1036 c185 rfl ?_
        obtain ⟨q186, hq187, h⟩ := Option.bind_eq_some_iff.mp h
        try dsimp only at h
        refine V.invVi (as := [.inl (xs (x3 + (1 : Int32)).toNatClampNeg)]) (st := []) (r := 1040) hC (met8_safe hq187) yv_X8_safe ml_RL_116 sh_0 rfl rfl dL_law_1037 (by decide) rfl rfl rfl rfl ?_
        refine V.aload_n (r := 1041) hC 2 dL_law_1040 rfl rfl ?_
        refine V.aload_n (r := 1042) hC 0 dL_law_1041 rfl rfl ?_
        refine V.iload_n (r := 1043) hC 3 dL_law_1042 rfl rfl ?_
        refine V.iconst (r := 1044) hC dL_law_1043 ki_1 rfl ?_
        refine V.iadd (r := 1045) hC dL_law_1044 rfl ?_
        refine V.sld (r := 1046) hC hX dL_law_1045 c185 rfl ?_
        obtain ⟨q188, hq189, h⟩ := Option.bind_eq_some_iff.mp h
        try dsimp only at h
        refine V.invVi (as := [.inl (xs (x3 + (1 : Int32)).toNatClampNeg)]) (st := [.inl (q186.1)]) (r := 1049) hC (met9_safe hq189) yv_X9_safe ml_RL_119 sh_154 rfl rfl dL_law_1046 (by decide) rfl rfl rfl rfl ?_
        refine V.icmp_eq (tgt := 1377) (r := 1052) hC dL_law_1049 (by decide) rfl (fun c190 => ?_) (fun c190 => ?_)
        · rw [if_pos c190] at h
          exact vL_law_b1377 hX hC hR ih _ _ h
        · rw [if_neg c190] at h
          refine V.iconst (r := 1053) hC dL_law_1052 ki_0 rfl ?_
          cases h
          exact hR _ _ dL_law_1053
      rw [if_neg c184] at h
      by_cases c191 : ((xs x3.toNatClampNeg) &&& (63 : Int32)) = (24 : Int32)
      · rw [if_pos c191] at h
        refine V.tabIn (off := 1021) (tgt := 1054) hC dL_law_33 c191 (by decide) (by decide) (by decide) (by decide) ?_
        refine V.aload_n (r := 1055) hC 1 dL_law_1054 rfl rfl ?_
        refine V.aload_n (r := 1056) hC 0 dL_law_1055 rfl rfl ?_
        refine V.iload_n (r := 1057) hC 3 dL_law_1056 rfl rfl ?_
        refine V.iconst (r := 1058) hC dL_law_1057 ki_1 rfl ?_
        refine V.iadd (r := 1059) hC dL_law_1058 rfl ?_
        by_cases c192 : (x3 + (1 : Int32)) < 0 ∨ L ≤ (x3 + (1 : Int32)).toNatClampNeg
        · rw [if_pos c192] at h; cases h
        rw [if_neg c192] at h
        refine V.sld (r := 1060) hC hX dL_law_1059 c192 rfl ?_
        refine V.aload_n (r := 1061) hC 0 dL_law_1060 rfl rfl ?_
        refine V.iload_n (r := 1062) hC 3 dL_law_1061 rfl rfl ?_
        refine V.iconst (r := 1063) hC dL_law_1062 ki_2 rfl ?_
        refine V.iadd (r := 1064) hC dL_law_1063 rfl ?_
        by_cases c193 : (x3 + (2 : Int32)) < 0 ∨ L ≤ (x3 + (2 : Int32)).toNatClampNeg
        · rw [if_pos c193] at h; cases h
        rw [if_neg c193] at h
        refine V.sld (r := 1065) hC hX dL_law_1064 c193 rfl ?_
        obtain ⟨q194, hq195, h⟩ := Option.bind_eq_some_iff.mp h
        try dsimp only at h
        refine V.invVi (as := [.inl (xs (x3 + (1 : Int32)).toNatClampNeg), .inl (xs (x3 + (2 : Int32)).toNatClampNeg)]) (st := []) (r := 1068) hC (met8_place hq195) yv_X8_place ml_RL_120 sh_0 rfl rfl dL_law_1065 (by decide) rfl rfl rfl rfl ?_
        refine V.aload_n (r := 1069) hC 2 dL_law_1068 rfl rfl ?_
        refine V.aload_n (r := 1070) hC 0 dL_law_1069 rfl rfl ?_
        refine V.iload_n (r := 1071) hC 3 dL_law_1070 rfl rfl ?_
        refine V.iconst (r := 1072) hC dL_law_1071 ki_1 rfl ?_
        refine V.iadd (r := 1073) hC dL_law_1072 rfl ?_
        refine V.sld (r := 1074) hC hX dL_law_1073 c192 rfl ?_
        refine V.aload_n (r := 1075) hC 0 dL_law_1074 rfl rfl ?_
        refine V.iload_n (r := 1076) hC 3 dL_law_1075 rfl rfl ?_
        refine V.iconst (r := 1077) hC dL_law_1076 ki_2 rfl ?_
        refine V.iadd (r := 1078) hC dL_law_1077 rfl ?_
        refine V.sld (r := 1079) hC hX dL_law_1078 c193 rfl ?_
        obtain ⟨q196, hq197, h⟩ := Option.bind_eq_some_iff.mp h
        try dsimp only at h
        refine V.invVi (as := [.inl (xs (x3 + (1 : Int32)).toNatClampNeg), .inl (xs (x3 + (2 : Int32)).toNatClampNeg)]) (st := [.inl (q194.1)]) (r := 1082) hC (met9_place hq197) yv_X9_place ml_RL_123 sh_154 rfl rfl dL_law_1079 (by decide) rfl rfl rfl rfl ?_
        refine V.icmp_eq (tgt := 1377) (r := 1085) hC dL_law_1082 (by decide) rfl (fun c198 => ?_) (fun c198 => ?_)
        · rw [if_pos c198] at h
          exact vL_law_b1377 hX hC hR ih _ _ h
        · rw [if_neg c198] at h
          refine V.iconst (r := 1086) hC dL_law_1085 ki_0 rfl ?_
          cases h
          exact hR _ _ dL_law_1086
      rw [if_neg c191] at h
      by_cases c199 : ((xs x3.toNatClampNeg) &&& (63 : Int32)) = (25 : Int32)
      · rw [if_pos c199] at h
        refine V.tabIn (off := 1054) (tgt := 1087) hC dL_law_33 c199 (by decide) (by decide) (by decide) (by decide) ?_
        refine V.aload_n (r := 1088) hC 1 dL_law_1087 rfl rfl ?_
        refine V.aload_n (r := 1089) hC 0 dL_law_1088 rfl rfl ?_
        refine V.iload_n (r := 1090) hC 3 dL_law_1089 rfl rfl ?_
        refine V.iconst (r := 1091) hC dL_law_1090 ki_1 rfl ?_
        refine V.iadd (r := 1092) hC dL_law_1091 rfl ?_
        by_cases c200 : (x3 + (1 : Int32)) < 0 ∨ L ≤ (x3 + (1 : Int32)).toNatClampNeg
        · rw [if_pos c200] at h; cases h
        rw [if_neg c200] at h
        refine V.sld (r := 1093) hC hX dL_law_1092 c200 rfl ?_
        refine V.aload_n (r := 1094) hC 0 dL_law_1093 rfl rfl ?_
        refine V.iload_n (r := 1095) hC 3 dL_law_1094 rfl rfl ?_
        refine V.iconst (r := 1096) hC dL_law_1095 ki_2 rfl ?_
        refine V.iadd (r := 1097) hC dL_law_1096 rfl ?_
        by_cases c201 : (x3 + (2 : Int32)) < 0 ∨ L ≤ (x3 + (2 : Int32)).toNatClampNeg
        · rw [if_pos c201] at h; cases h
        rw [if_neg c201] at h
        refine V.sld (r := 1098) hC hX dL_law_1097 c201 rfl ?_
        refine V.aload_n (r := 1099) hC 0 dL_law_1098 rfl rfl ?_
        refine V.iload_n (r := 1100) hC 3 dL_law_1099 rfl rfl ?_
        refine V.iconst (r := 1101) hC dL_law_1100 ki_3 rfl ?_
        refine V.iadd (r := 1102) hC dL_law_1101 rfl ?_
        by_cases c202 : (x3 + (3 : Int32)) < 0 ∨ L ≤ (x3 + (3 : Int32)).toNatClampNeg
        · rw [if_pos c202] at h; cases h
        rw [if_neg c202] at h
        refine V.sld (r := 1103) hC hX dL_law_1102 c202 rfl ?_
        refine V.aload_n (r := 1104) hC 0 dL_law_1103 rfl rfl ?_
        refine V.iload_n (r := 1105) hC 3 dL_law_1104 rfl rfl ?_
        refine V.iconst (r := 1106) hC dL_law_1105 ki_4 rfl ?_
        refine V.iadd (r := 1107) hC dL_law_1106 rfl ?_
        by_cases c203 : (x3 + (4 : Int32)) < 0 ∨ L ≤ (x3 + (4 : Int32)).toNatClampNeg
        · rw [if_pos c203] at h; cases h
        rw [if_neg c203] at h
        refine V.sld (r := 1108) hC hX dL_law_1107 c203 rfl ?_
        obtain ⟨q204, hq205, h⟩ := Option.bind_eq_some_iff.mp h
        try dsimp only at h
        refine V.invVi (as := [.inl (xs (x3 + (1 : Int32)).toNatClampNeg), .inl (xs (x3 + (2 : Int32)).toNatClampNeg), .inl (xs (x3 + (3 : Int32)).toNatClampNeg), .inl (xs (x3 + (4 : Int32)).toNatClampNeg)]) (st := []) (r := 1111) hC (met8_prices hq205) yv_X8_prices ml_RL_124 sh_0 rfl rfl dL_law_1108 (by decide) rfl rfl rfl rfl ?_
        refine V.aload_n (r := 1112) hC 2 dL_law_1111 rfl rfl ?_
        refine V.aload_n (r := 1113) hC 0 dL_law_1112 rfl rfl ?_
        refine V.iload_n (r := 1114) hC 3 dL_law_1113 rfl rfl ?_
        refine V.iconst (r := 1115) hC dL_law_1114 ki_1 rfl ?_
        refine V.iadd (r := 1116) hC dL_law_1115 rfl ?_
        refine V.sld (r := 1117) hC hX dL_law_1116 c200 rfl ?_
        refine V.aload_n (r := 1118) hC 0 dL_law_1117 rfl rfl ?_
        refine V.iload_n (r := 1119) hC 3 dL_law_1118 rfl rfl ?_
        refine V.iconst (r := 1120) hC dL_law_1119 ki_2 rfl ?_
        refine V.iadd (r := 1121) hC dL_law_1120 rfl ?_
        refine V.sld (r := 1122) hC hX dL_law_1121 c201 rfl ?_
        refine V.aload_n (r := 1123) hC 0 dL_law_1122 rfl rfl ?_
        refine V.iload_n (r := 1124) hC 3 dL_law_1123 rfl rfl ?_
        refine V.iconst (r := 1125) hC dL_law_1124 ki_3 rfl ?_
        refine V.iadd (r := 1126) hC dL_law_1125 rfl ?_
        refine V.sld (r := 1127) hC hX dL_law_1126 c202 rfl ?_
        refine V.aload_n (r := 1128) hC 0 dL_law_1127 rfl rfl ?_
        refine V.iload_n (r := 1129) hC 3 dL_law_1128 rfl rfl ?_
        refine V.iconst (r := 1130) hC dL_law_1129 ki_4 rfl ?_
        refine V.iadd (r := 1131) hC dL_law_1130 rfl ?_
        refine V.sld (r := 1132) hC hX dL_law_1131 c203 rfl ?_
        obtain ⟨q206, hq207, h⟩ := Option.bind_eq_some_iff.mp h
        try dsimp only at h
        refine V.invVi (as := [.inl (xs (x3 + (1 : Int32)).toNatClampNeg), .inl (xs (x3 + (2 : Int32)).toNatClampNeg), .inl (xs (x3 + (3 : Int32)).toNatClampNeg), .inl (xs (x3 + (4 : Int32)).toNatClampNeg)]) (st := [.inl (q204.1)]) (r := 1135) hC (met9_prices hq207) yv_X9_prices ml_RL_128 sh_154 rfl rfl dL_law_1132 (by decide) rfl rfl rfl rfl ?_
        refine V.icmp_eq (tgt := 1377) (r := 1138) hC dL_law_1135 (by decide) rfl (fun c208 => ?_) (fun c208 => ?_)
        · rw [if_pos c208] at h
          exact vL_law_b1377 hX hC hR ih _ _ h
        · rw [if_neg c208] at h
          refine V.iconst (r := 1139) hC dL_law_1138 ki_0 rfl ?_
          cases h
          exact hR _ _ dL_law_1139
      rw [if_neg c199] at h
      by_cases c209 : ((xs x3.toNatClampNeg) &&& (63 : Int32)) = (26 : Int32)
      · rw [if_pos c209] at h
        refine V.tabIn (off := 1107) (tgt := 1140) hC dL_law_33 c209 (by decide) (by decide) (by decide) (by decide) ?_
        refine V.aload_n (r := 1141) hC 1 dL_law_1140 rfl rfl ?_
        refine V.aload_n (r := 1142) hC 0 dL_law_1141 rfl rfl ?_
        refine V.iload_n (r := 1143) hC 3 dL_law_1142 rfl rfl ?_
        refine V.iconst (r := 1144) hC dL_law_1143 ki_1 rfl ?_
        refine V.iadd (r := 1145) hC dL_law_1144 rfl ?_
        by_cases c210 : (x3 + (1 : Int32)) < 0 ∨ L ≤ (x3 + (1 : Int32)).toNatClampNeg
        · rw [if_pos c210] at h; cases h
        rw [if_neg c210] at h
        refine V.sld (r := 1146) hC hX dL_law_1145 c210 rfl ?_
        refine V.aload_n (r := 1147) hC 0 dL_law_1146 rfl rfl ?_
        refine V.iload_n (r := 1148) hC 3 dL_law_1147 rfl rfl ?_
        refine V.iconst (r := 1149) hC dL_law_1148 ki_2 rfl ?_
        refine V.iadd (r := 1150) hC dL_law_1149 rfl ?_
        by_cases c211 : (x3 + (2 : Int32)) < 0 ∨ L ≤ (x3 + (2 : Int32)).toNatClampNeg
        · rw [if_pos c211] at h; cases h
        rw [if_neg c211] at h
        refine V.sld (r := 1151) hC hX dL_law_1150 c211 rfl ?_
        obtain ⟨q212, hq213, h⟩ := Option.bind_eq_some_iff.mp h
        try dsimp only at h
        refine V.invVi (as := [.inl (xs (x3 + (1 : Int32)).toNatClampNeg), .inl (xs (x3 + (2 : Int32)).toNatClampNeg)]) (st := []) (r := 1154) hC (met8_whoLit hq213) yv_X8_whoLit ml_RL_129 sh_0 rfl rfl dL_law_1151 (by decide) rfl rfl rfl rfl ?_
        refine V.aload_n (r := 1155) hC 2 dL_law_1154 rfl rfl ?_
        refine V.aload_n (r := 1156) hC 0 dL_law_1155 rfl rfl ?_
        refine V.iload_n (r := 1157) hC 3 dL_law_1156 rfl rfl ?_
        refine V.iconst (r := 1158) hC dL_law_1157 ki_1 rfl ?_
        refine V.iadd (r := 1159) hC dL_law_1158 rfl ?_
        refine V.sld (r := 1160) hC hX dL_law_1159 c210 rfl ?_
        refine V.aload_n (r := 1161) hC 0 dL_law_1160 rfl rfl ?_
        refine V.iload_n (r := 1162) hC 3 dL_law_1161 rfl rfl ?_
        refine V.iconst (r := 1163) hC dL_law_1162 ki_2 rfl ?_
        refine V.iadd (r := 1164) hC dL_law_1163 rfl ?_
        refine V.sld (r := 1165) hC hX dL_law_1164 c211 rfl ?_
        obtain ⟨q214, hq215, h⟩ := Option.bind_eq_some_iff.mp h
        try dsimp only at h
        refine V.invVi (as := [.inl (xs (x3 + (1 : Int32)).toNatClampNeg), .inl (xs (x3 + (2 : Int32)).toNatClampNeg)]) (st := [.inl (q212.1)]) (r := 1168) hC (met9_whoLit hq215) yv_X9_whoLit ml_RL_132 sh_154 rfl rfl dL_law_1165 (by decide) rfl rfl rfl rfl ?_
        refine V.icmp_eq (tgt := 1377) (r := 1171) hC dL_law_1168 (by decide) rfl (fun c216 => ?_) (fun c216 => ?_)
        · rw [if_pos c216] at h
          exact vL_law_b1377 hX hC hR ih _ _ h
        · rw [if_neg c216] at h
          refine V.iconst (r := 1172) hC dL_law_1171 ki_0 rfl ?_
          cases h
          exact hR _ _ dL_law_1172
      rw [if_neg c209] at h
      by_cases c217 : ((xs x3.toNatClampNeg) &&& (63 : Int32)) = (27 : Int32)
      · rw [if_pos c217] at h
        refine V.tabIn (off := 1140) (tgt := 1173) hC dL_law_33 c217 (by decide) (by decide) (by decide) (by decide) ?_
        refine V.aload_n (r := 1174) hC 1 dL_law_1173 rfl rfl ?_
        refine V.aload_n (r := 1175) hC 0 dL_law_1174 rfl rfl ?_
        refine V.iload_n (r := 1176) hC 3 dL_law_1175 rfl rfl ?_
        refine V.iconst (r := 1177) hC dL_law_1176 ki_1 rfl ?_
        refine V.iadd (r := 1178) hC dL_law_1177 rfl ?_
        by_cases c218 : (x3 + (1 : Int32)) < 0 ∨ L ≤ (x3 + (1 : Int32)).toNatClampNeg
        · rw [if_pos c218] at h; cases h
        rw [if_neg c218] at h
        refine V.sld (r := 1179) hC hX dL_law_1178 c218 rfl ?_
        refine V.aload_n (r := 1180) hC 0 dL_law_1179 rfl rfl ?_
        refine V.iload_n (r := 1181) hC 3 dL_law_1180 rfl rfl ?_
        refine V.iconst (r := 1182) hC dL_law_1181 ki_2 rfl ?_
        refine V.iadd (r := 1183) hC dL_law_1182 rfl ?_
        by_cases c219 : (x3 + (2 : Int32)) < 0 ∨ L ≤ (x3 + (2 : Int32)).toNatClampNeg
        · rw [if_pos c219] at h; cases h
        rw [if_neg c219] at h
        refine V.sld (r := 1184) hC hX dL_law_1183 c219 rfl ?_
        refine V.aload_n (r := 1185) hC 0 dL_law_1184 rfl rfl ?_
        refine V.iload_n (r := 1186) hC 3 dL_law_1185 rfl rfl ?_
        refine V.iconst (r := 1187) hC dL_law_1186 ki_3 rfl ?_
        refine V.iadd (r := 1188) hC dL_law_1187 rfl ?_
        by_cases c220 : (x3 + (3 : Int32)) < 0 ∨ L ≤ (x3 + (3 : Int32)).toNatClampNeg
        · rw [if_pos c220] at h; cases h
        rw [if_neg c220] at h
        refine V.sld (r := 1189) hC hX dL_law_1188 c220 rfl ?_
        refine V.aload_n (r := 1190) hC 0 dL_law_1189 rfl rfl ?_
        refine V.iload_n (r := 1191) hC 3 dL_law_1190 rfl rfl ?_
        refine V.iconst (r := 1192) hC dL_law_1191 ki_4 rfl ?_
        refine V.iadd (r := 1193) hC dL_law_1192 rfl ?_
        by_cases c221 : (x3 + (4 : Int32)) < 0 ∨ L ≤ (x3 + (4 : Int32)).toNatClampNeg
        · rw [if_pos c221] at h; cases h
        rw [if_neg c221] at h
        refine V.sld (r := 1194) hC hX dL_law_1193 c221 rfl ?_
        obtain ⟨q222, hq223, h⟩ := Option.bind_eq_some_iff.mp h
        try dsimp only at h
        refine V.invVi (as := [.inl (xs (x3 + (1 : Int32)).toNatClampNeg), .inl (xs (x3 + (2 : Int32)).toNatClampNeg), .inl (xs (x3 + (3 : Int32)).toNatClampNeg), .inl (xs (x3 + (4 : Int32)).toNatClampNeg)]) (st := []) (r := 1197) hC (met8_where hq223) yv_X8_where ml_RL_133 sh_0 rfl rfl dL_law_1194 (by decide) rfl rfl rfl rfl ?_
        refine V.aload_n (r := 1198) hC 2 dL_law_1197 rfl rfl ?_
        refine V.aload_n (r := 1199) hC 0 dL_law_1198 rfl rfl ?_
        refine V.iload_n (r := 1200) hC 3 dL_law_1199 rfl rfl ?_
        refine V.iconst (r := 1201) hC dL_law_1200 ki_1 rfl ?_
        refine V.iadd (r := 1202) hC dL_law_1201 rfl ?_
        refine V.sld (r := 1203) hC hX dL_law_1202 c218 rfl ?_
        refine V.aload_n (r := 1204) hC 0 dL_law_1203 rfl rfl ?_
        refine V.iload_n (r := 1205) hC 3 dL_law_1204 rfl rfl ?_
        refine V.iconst (r := 1206) hC dL_law_1205 ki_2 rfl ?_
        refine V.iadd (r := 1207) hC dL_law_1206 rfl ?_
        refine V.sld (r := 1208) hC hX dL_law_1207 c219 rfl ?_
        refine V.aload_n (r := 1209) hC 0 dL_law_1208 rfl rfl ?_
        refine V.iload_n (r := 1210) hC 3 dL_law_1209 rfl rfl ?_
        refine V.iconst (r := 1211) hC dL_law_1210 ki_3 rfl ?_
        refine V.iadd (r := 1212) hC dL_law_1211 rfl ?_
        refine V.sld (r := 1213) hC hX dL_law_1212 c220 rfl ?_
        refine V.aload_n (r := 1214) hC 0 dL_law_1213 rfl rfl ?_
        refine V.iload_n (r := 1215) hC 3 dL_law_1214 rfl rfl ?_
        refine V.iconst (r := 1216) hC dL_law_1215 ki_4 rfl ?_
        refine V.iadd (r := 1217) hC dL_law_1216 rfl ?_
        refine V.sld (r := 1218) hC hX dL_law_1217 c221 rfl ?_
        obtain ⟨q224, hq225, h⟩ := Option.bind_eq_some_iff.mp h
        try dsimp only at h
        refine V.invVi (as := [.inl (xs (x3 + (1 : Int32)).toNatClampNeg), .inl (xs (x3 + (2 : Int32)).toNatClampNeg), .inl (xs (x3 + (3 : Int32)).toNatClampNeg), .inl (xs (x3 + (4 : Int32)).toNatClampNeg)]) (st := [.inl (q222.1)]) (r := 1221) hC (met9_where hq225) yv_X9_where ml_RL_136 sh_154 rfl rfl dL_law_1218 (by decide) rfl rfl rfl rfl ?_
        refine V.icmp_eq (tgt := 1377) (r := 1224) hC dL_law_1221 (by decide) rfl (fun c226 => ?_) (fun c226 => ?_)
        · rw [if_pos c226] at h
          exact vL_law_b1377 hX hC hR ih _ _ h
        · rw [if_neg c226] at h
          refine V.iconst (r := 1225) hC dL_law_1224 ki_0 rfl ?_
          cases h
          exact hR _ _ dL_law_1225
      rw [if_neg c217] at h
      by_cases c227 : ((xs x3.toNatClampNeg) &&& (63 : Int32)) = (28 : Int32)
      · rw [if_pos c227] at h
        refine V.tabIn (off := 1193) (tgt := 1226) hC dL_law_33 c227 (by decide) (by decide) (by decide) (by decide) ?_
        refine V.aload_n (r := 1227) hC 1 dL_law_1226 rfl rfl ?_
        refine V.aload_n (r := 1228) hC 0 dL_law_1227 rfl rfl ?_
        refine V.iload_n (r := 1229) hC 3 dL_law_1228 rfl rfl ?_
        refine V.iconst (r := 1230) hC dL_law_1229 ki_1 rfl ?_
        refine V.iadd (r := 1231) hC dL_law_1230 rfl ?_
        by_cases c228 : (x3 + (1 : Int32)) < 0 ∨ L ≤ (x3 + (1 : Int32)).toNatClampNeg
        · rw [if_pos c228] at h; cases h
        rw [if_neg c228] at h
        refine V.sld (r := 1232) hC hX dL_law_1231 c228 rfl ?_
        refine V.aload_n (r := 1233) hC 0 dL_law_1232 rfl rfl ?_
        refine V.iload_n (r := 1234) hC 3 dL_law_1233 rfl rfl ?_
        refine V.iconst (r := 1235) hC dL_law_1234 ki_2 rfl ?_
        refine V.iadd (r := 1236) hC dL_law_1235 rfl ?_
        by_cases c229 : (x3 + (2 : Int32)) < 0 ∨ L ≤ (x3 + (2 : Int32)).toNatClampNeg
        · rw [if_pos c229] at h; cases h
        rw [if_neg c229] at h
        refine V.sld (r := 1237) hC hX dL_law_1236 c229 rfl ?_
        refine V.aload_n (r := 1238) hC 0 dL_law_1237 rfl rfl ?_
        refine V.iload_n (r := 1239) hC 3 dL_law_1238 rfl rfl ?_
        refine V.iconst (r := 1240) hC dL_law_1239 ki_3 rfl ?_
        refine V.iadd (r := 1241) hC dL_law_1240 rfl ?_
        by_cases c230 : (x3 + (3 : Int32)) < 0 ∨ L ≤ (x3 + (3 : Int32)).toNatClampNeg
        · rw [if_pos c230] at h; cases h
        rw [if_neg c230] at h
        refine V.sld (r := 1242) hC hX dL_law_1241 c230 rfl ?_
        obtain ⟨q231, hq232, h⟩ := Option.bind_eq_some_iff.mp h
        try dsimp only at h
        refine V.invVi (as := [.inl (xs (x3 + (1 : Int32)).toNatClampNeg), .inl (xs (x3 + (2 : Int32)).toNatClampNeg), .inl (xs (x3 + (3 : Int32)).toNatClampNeg)]) (st := []) (r := 1245) hC (met8_odds hq232) yv_X8_odds ml_RL_137 sh_0 rfl rfl dL_law_1242 (by decide) rfl rfl rfl rfl ?_
        refine V.aload_n (r := 1246) hC 2 dL_law_1245 rfl rfl ?_
        refine V.aload_n (r := 1247) hC 0 dL_law_1246 rfl rfl ?_
        refine V.iload_n (r := 1248) hC 3 dL_law_1247 rfl rfl ?_
        refine V.iconst (r := 1249) hC dL_law_1248 ki_1 rfl ?_
        refine V.iadd (r := 1250) hC dL_law_1249 rfl ?_
        refine V.sld (r := 1251) hC hX dL_law_1250 c228 rfl ?_
        refine V.aload_n (r := 1252) hC 0 dL_law_1251 rfl rfl ?_
        refine V.iload_n (r := 1253) hC 3 dL_law_1252 rfl rfl ?_
        refine V.iconst (r := 1254) hC dL_law_1253 ki_2 rfl ?_
        refine V.iadd (r := 1255) hC dL_law_1254 rfl ?_
        refine V.sld (r := 1256) hC hX dL_law_1255 c229 rfl ?_
        refine V.aload_n (r := 1257) hC 0 dL_law_1256 rfl rfl ?_
        refine V.iload_n (r := 1258) hC 3 dL_law_1257 rfl rfl ?_
        refine V.iconst (r := 1259) hC dL_law_1258 ki_3 rfl ?_
        refine V.iadd (r := 1260) hC dL_law_1259 rfl ?_
        refine V.sld (r := 1261) hC hX dL_law_1260 c230 rfl ?_
        obtain ⟨q233, hq234, h⟩ := Option.bind_eq_some_iff.mp h
        try dsimp only at h
        refine V.invVi (as := [.inl (xs (x3 + (1 : Int32)).toNatClampNeg), .inl (xs (x3 + (2 : Int32)).toNatClampNeg), .inl (xs (x3 + (3 : Int32)).toNatClampNeg)]) (st := [.inl (q231.1)]) (r := 1264) hC (met9_odds hq234) yv_X9_odds ml_RL_140 sh_154 rfl rfl dL_law_1261 (by decide) rfl rfl rfl rfl ?_
        refine V.icmp_eq (tgt := 1377) (r := 1267) hC dL_law_1264 (by decide) rfl (fun c235 => ?_) (fun c235 => ?_)
        · rw [if_pos c235] at h
          exact vL_law_b1377 hX hC hR ih _ _ h
        · rw [if_neg c235] at h
          refine V.iconst (r := 1268) hC dL_law_1267 ki_0 rfl ?_
          cases h
          exact hR _ _ dL_law_1268
      rw [if_neg c227] at h
      by_cases c236 : ((xs x3.toNatClampNeg) &&& (63 : Int32)) = (29 : Int32)
      · rw [if_pos c236] at h
        refine V.tabIn (off := 1236) (tgt := 1269) hC dL_law_33 c236 (by decide) (by decide) (by decide) (by decide) ?_
        refine V.aload_n (r := 1270) hC 1 dL_law_1269 rfl rfl ?_
        refine V.aload_n (r := 1271) hC 0 dL_law_1270 rfl rfl ?_
        refine V.iload_n (r := 1272) hC 3 dL_law_1271 rfl rfl ?_
        refine V.iconst (r := 1273) hC dL_law_1272 ki_1 rfl ?_
        refine V.iadd (r := 1274) hC dL_law_1273 rfl ?_
        by_cases c237 : (x3 + (1 : Int32)) < 0 ∨ L ≤ (x3 + (1 : Int32)).toNatClampNeg
        · rw [if_pos c237] at h; cases h
        rw [if_neg c237] at h
        refine V.sld (r := 1275) hC hX dL_law_1274 c237 rfl ?_
        obtain ⟨q238, hq239, h⟩ := Option.bind_eq_some_iff.mp h
        try dsimp only at h
        refine V.invVi (as := [.inl (xs (x3 + (1 : Int32)).toNatClampNeg)]) (st := []) (r := 1278) hC (met8_seed hq239) yv_X8_seed ml_RL_141 sh_0 rfl rfl dL_law_1275 (by decide) rfl rfl rfl rfl ?_
        refine V.aload_n (r := 1279) hC 2 dL_law_1278 rfl rfl ?_
        refine V.aload_n (r := 1280) hC 0 dL_law_1279 rfl rfl ?_
        refine V.iload_n (r := 1281) hC 3 dL_law_1280 rfl rfl ?_
        refine V.iconst (r := 1282) hC dL_law_1281 ki_1 rfl ?_
        refine V.iadd (r := 1283) hC dL_law_1282 rfl ?_
        refine V.sld (r := 1284) hC hX dL_law_1283 c237 rfl ?_
        obtain ⟨q240, hq241, h⟩ := Option.bind_eq_some_iff.mp h
        try dsimp only at h
        refine V.invVi (as := [.inl (xs (x3 + (1 : Int32)).toNatClampNeg)]) (st := [.inl (q238.1)]) (r := 1287) hC (met9_seed hq241) yv_X9_seed ml_RL_144 sh_154 rfl rfl dL_law_1284 (by decide) rfl rfl rfl rfl ?_
        refine V.icmp_eq (tgt := 1377) (r := 1290) hC dL_law_1287 (by decide) rfl (fun c242 => ?_) (fun c242 => ?_)
        · rw [if_pos c242] at h
          exact vL_law_b1377 hX hC hR ih _ _ h
        · rw [if_neg c242] at h
          refine V.iconst (r := 1291) hC dL_law_1290 ki_0 rfl ?_
          cases h
          exact hR _ _ dL_law_1291
      rw [if_neg c236] at h
      by_cases c243 : ((xs x3.toNatClampNeg) &&& (63 : Int32)) = (30 : Int32)
      · rw [if_pos c243] at h
        refine V.tabIn (off := 1259) (tgt := 1292) hC dL_law_33 c243 (by decide) (by decide) (by decide) (by decide) ?_
        refine V.aload_n (r := 1293) hC 1 dL_law_1292 rfl rfl ?_
        obtain ⟨q244, hq245, h⟩ := Option.bind_eq_some_iff.mp h
        try dsimp only at h
        refine V.invVi (as := []) (st := []) (r := 1296) hC (met8_clouded hq245) yv_X8_clouded ml_RL_145 sh_0 rfl rfl dL_law_1293 (by decide) rfl rfl rfl rfl ?_
        refine V.aload_n (r := 1297) hC 2 dL_law_1296 rfl rfl ?_
        obtain ⟨q246, hq247, h⟩ := Option.bind_eq_some_iff.mp h
        try dsimp only at h
        refine V.invVi (as := []) (st := [.inl (q244.1)]) (r := 1300) hC (met9_clouded hq247) yv_X9_clouded ml_RL_149 sh_154 rfl rfl dL_law_1297 (by decide) rfl rfl rfl rfl ?_
        refine V.icmp_eq (tgt := 1377) (r := 1303) hC dL_law_1300 (by decide) rfl (fun c248 => ?_) (fun c248 => ?_)
        · rw [if_pos c248] at h
          exact vL_law_b1377 hX hC hR ih _ _ h
        · rw [if_neg c248] at h
          refine V.iconst (r := 1304) hC dL_law_1303 ki_0 rfl ?_
          cases h
          exact hR _ _ dL_law_1304
      rw [if_neg c243] at h
      by_cases c249 : ((xs x3.toNatClampNeg) &&& (63 : Int32)) = (31 : Int32)
      · rw [if_pos c249] at h
        refine V.tabIn (off := 1272) (tgt := 1305) hC dL_law_33 c249 (by decide) (by decide) (by decide) (by decide) ?_
        refine V.aload_n (r := 1306) hC 1 dL_law_1305 rfl rfl ?_
        obtain ⟨q250, hq251, h⟩ := Option.bind_eq_some_iff.mp h
        try dsimp only at h
        refine V.invVi (as := []) (st := []) (r := 1309) hC (met8_keep hq251) yv_X8_keep ml_RL_150 sh_0 rfl rfl dL_law_1306 (by decide) rfl rfl rfl rfl ?_
        refine V.aload_n (r := 1310) hC 2 dL_law_1309 rfl rfl ?_
        obtain ⟨q252, hq253, h⟩ := Option.bind_eq_some_iff.mp h
        try dsimp only at h
        refine V.invVi (as := []) (st := [.inl (q250.1)]) (r := 1313) hC (met9_keep hq253) yv_X9_keep ml_RL_153 sh_154 rfl rfl dL_law_1310 (by decide) rfl rfl rfl rfl ?_
        refine V.icmp_eq (tgt := 1377) (r := 1316) hC dL_law_1313 (by decide) rfl (fun c254 => ?_) (fun c254 => ?_)
        · rw [if_pos c254] at h
          exact vL_law_b1377 hX hC hR ih _ _ h
        · rw [if_neg c254] at h
          refine V.iconst (r := 1317) hC dL_law_1316 ki_0 rfl ?_
          cases h
          exact hR _ _ dL_law_1317
      rw [if_neg c249] at h
      by_cases c255 : ((xs x3.toNatClampNeg) &&& (63 : Int32)) = (32 : Int32)
      · rw [if_pos c255] at h
        refine V.tabIn (off := 1285) (tgt := 1318) hC dL_law_33 c255 (by decide) (by decide) (by decide) (by decide) ?_
        refine V.aload_n (r := 1319) hC 1 dL_law_1318 rfl rfl ?_
        obtain ⟨q256, hq257, h⟩ := Option.bind_eq_some_iff.mp h
        try dsimp only at h
        refine V.invVi (as := []) (st := []) (r := 1322) hC (met8_undo hq257) yv_X8_undo ml_RL_154 sh_0 rfl rfl dL_law_1319 (by decide) rfl rfl rfl rfl ?_
        refine V.aload_n (r := 1323) hC 2 dL_law_1322 rfl rfl ?_
        obtain ⟨q258, hq259, h⟩ := Option.bind_eq_some_iff.mp h
        try dsimp only at h
        refine V.invVi (as := []) (st := [.inl (q256.1)]) (r := 1326) hC (met9_undo hq259) yv_X9_undo ml_RL_158 sh_154 rfl rfl dL_law_1323 (by decide) rfl rfl rfl rfl ?_
        refine V.icmp_eq (tgt := 1377) (r := 1329) hC dL_law_1326 (by decide) rfl (fun c260 => ?_) (fun c260 => ?_)
        · rw [if_pos c260] at h
          exact vL_law_b1377 hX hC hR ih _ _ h
        · rw [if_neg c260] at h
          refine V.iconst (r := 1330) hC dL_law_1329 ki_0 rfl ?_
          cases h
          exact hR _ _ dL_law_1330
      rw [if_neg c255] at h
      by_cases c261 : ((xs x3.toNatClampNeg) &&& (63 : Int32)) = (33 : Int32)
      · rw [if_pos c261] at h
        refine V.tabIn (off := 1298) (tgt := 1331) hC dL_law_33 c261 (by decide) (by decide) (by decide) (by decide) ?_
        refine V.aload_n (r := 1332) hC 1 dL_law_1331 rfl rfl ?_
        refine V.aload_n (r := 1333) hC 0 dL_law_1332 rfl rfl ?_
        refine V.iload_n (r := 1334) hC 3 dL_law_1333 rfl rfl ?_
        refine V.iconst (r := 1335) hC dL_law_1334 ki_1 rfl ?_
        refine V.iadd (r := 1336) hC dL_law_1335 rfl ?_
        by_cases c262 : (x3 + (1 : Int32)) < 0 ∨ L ≤ (x3 + (1 : Int32)).toNatClampNeg
        · rw [if_pos c262] at h; cases h
        rw [if_neg c262] at h
        refine V.sld (r := 1337) hC hX dL_law_1336 c262 rfl ?_
        obtain ⟨q263, hq264, h⟩ := Option.bind_eq_some_iff.mp h
        try dsimp only at h
        refine V.invVi (as := [.inl (xs (x3 + (1 : Int32)).toNatClampNeg)]) (st := []) (r := 1340) hC (met8_check hq264) yv_X8_check ml_RL_159 sh_0 rfl rfl dL_law_1337 (by decide) rfl rfl rfl rfl ?_
        refine V.aload_n (r := 1341) hC 2 dL_law_1340 rfl rfl ?_
        refine V.aload_n (r := 1342) hC 0 dL_law_1341 rfl rfl ?_
        refine V.iload_n (r := 1343) hC 3 dL_law_1342 rfl rfl ?_
        refine V.iconst (r := 1344) hC dL_law_1343 ki_1 rfl ?_
        refine V.iadd (r := 1345) hC dL_law_1344 rfl ?_
        refine V.sld (r := 1346) hC hX dL_law_1345 c262 rfl ?_
        obtain ⟨q265, hq266, h⟩ := Option.bind_eq_some_iff.mp h
        try dsimp only at h
        refine V.invVi (as := [.inl (xs (x3 + (1 : Int32)).toNatClampNeg)]) (st := [.inl (q263.1)]) (r := 1349) hC (met9_check hq266) yv_X9_check ml_RL_162 sh_154 rfl rfl dL_law_1346 (by decide) rfl rfl rfl rfl ?_
        refine V.icmp_eq (tgt := 1377) (r := 1352) hC dL_law_1349 (by decide) rfl (fun c267 => ?_) (fun c267 => ?_)
        · rw [if_pos c267] at h
          exact vL_law_b1377 hX hC hR ih _ _ h
        · rw [if_neg c267] at h
          refine V.iconst (r := 1353) hC dL_law_1352 ki_0 rfl ?_
          cases h
          exact hR _ _ dL_law_1353
      rw [if_neg c261] at h
      by_cases c268 : ((xs x3.toNatClampNeg) &&& (63 : Int32)) = (34 : Int32)
      · rw [if_pos c268] at h
        refine V.tabIn (off := 1321) (tgt := 1354) hC dL_law_33 c268 (by decide) (by decide) (by decide) (by decide) ?_
        refine V.aload_n (r := 1355) hC 1 dL_law_1354 rfl rfl ?_
        refine V.aload_n (r := 1356) hC 0 dL_law_1355 rfl rfl ?_
        refine V.iload_n (r := 1357) hC 3 dL_law_1356 rfl rfl ?_
        refine V.iconst (r := 1358) hC dL_law_1357 ki_1 rfl ?_
        refine V.iadd (r := 1359) hC dL_law_1358 rfl ?_
        by_cases c269 : (x3 + (1 : Int32)) < 0 ∨ L ≤ (x3 + (1 : Int32)).toNatClampNeg
        · rw [if_pos c269] at h; cases h
        rw [if_neg c269] at h
        refine V.sld (r := 1360) hC hX dL_law_1359 c269 rfl ?_
        obtain ⟨q270, hq271, h⟩ := Option.bind_eq_some_iff.mp h
        try dsimp only at h
        refine V.invVi (as := [.inl (xs (x3 + (1 : Int32)).toNatClampNeg)]) (st := []) (r := 1363) hC (met8_count hq271) yv_X8_count ml_RL_163 sh_0 rfl rfl dL_law_1360 (by decide) rfl rfl rfl rfl ?_
        refine V.aload_n (r := 1364) hC 2 dL_law_1363 rfl rfl ?_
        refine V.aload_n (r := 1365) hC 0 dL_law_1364 rfl rfl ?_
        refine V.iload_n (r := 1366) hC 3 dL_law_1365 rfl rfl ?_
        refine V.iconst (r := 1367) hC dL_law_1366 ki_1 rfl ?_
        refine V.iadd (r := 1368) hC dL_law_1367 rfl ?_
        refine V.sld (r := 1369) hC hX dL_law_1368 c269 rfl ?_
        obtain ⟨q272, hq273, h⟩ := Option.bind_eq_some_iff.mp h
        try dsimp only at h
        refine V.invVi (as := [.inl (xs (x3 + (1 : Int32)).toNatClampNeg)]) (st := [.inl (q270.1)]) (r := 1372) hC (met9_count hq273) yv_X9_count ml_RL_166 sh_154 rfl rfl dL_law_1369 (by decide) rfl rfl rfl rfl ?_
        refine V.icmp_eq (tgt := 1377) (r := 1375) hC dL_law_1372 (by decide) rfl (fun c274 => ?_) (fun c274 => ?_)
        · rw [if_pos c274] at h
          exact vL_law_b1377 hX hC hR ih _ _ h
        · rw [if_neg c274] at h
          refine V.iconst (r := 1376) hC dL_law_1375 ki_0 rfl ?_
          cases h
          exact hR _ _ dL_law_1376
      rw [if_neg c268] at h
      refine V.tabOut (tgt := 1377) hC dL_law_33 (by have e0 := lv_neT c3 (show ((0 : Int32)).toInt = 0 by decide); have e1 := lv_neT c12 (show ((1 : Int32)).toInt = 1 by decide); have e2 := lv_neT c22 (show ((2 : Int32)).toInt = 2 by decide); have e3 := lv_neT c29 (show ((3 : Int32)).toInt = 3 by decide); have e4 := lv_neT c36 (show ((4 : Int32)).toInt = 4 by decide); have e5 := lv_neT c44 (show ((5 : Int32)).toInt = 5 by decide); have e6 := lv_neT c56 (show ((6 : Int32)).toInt = 6 by decide); have e7 := lv_neT c60 (show ((7 : Int32)).toInt = 7 by decide); have e8 := lv_neT c68 (show ((8 : Int32)).toInt = 8 by decide); have e9 := lv_neT c79 (show ((9 : Int32)).toInt = 9 by decide); have e10 := lv_neT c86 (show ((10 : Int32)).toInt = 10 by decide); have e11 := lv_neT c93 (show ((11 : Int32)).toInt = 11 by decide); have e12 := lv_neT c102 (show ((12 : Int32)).toInt = 12 by decide); have e13 := lv_neT c109 (show ((13 : Int32)).toInt = 13 by decide); have e14 := lv_neT c116 (show ((14 : Int32)).toInt = 14 by decide); have e15 := lv_neT c124 (show ((15 : Int32)).toInt = 15 by decide); have e16 := lv_neT c131 (show ((16 : Int32)).toInt = 16 by decide); have e17 := lv_neT c138 (show ((17 : Int32)).toInt = 17 by decide); have e18 := lv_neT c145 (show ((18 : Int32)).toInt = 18 by decide); have e19 := lv_neT c153 (show ((19 : Int32)).toInt = 19 by decide); have e20 := lv_neT c161 (show ((20 : Int32)).toInt = 20 by decide); have e21 := lv_neT c169 (show ((21 : Int32)).toInt = 21 by decide); have e22 := lv_neT c176 (show ((22 : Int32)).toInt = 22 by decide); have e23 := lv_neT c184 (show ((23 : Int32)).toInt = 23 by decide); have e24 := lv_neT c191 (show ((24 : Int32)).toInt = 24 by decide); have e25 := lv_neT c199 (show ((25 : Int32)).toInt = 25 by decide); have e26 := lv_neT c209 (show ((26 : Int32)).toInt = 26 by decide); have e27 := lv_neT c217 (show ((27 : Int32)).toInt = 27 by decide); have e28 := lv_neT c227 (show ((28 : Int32)).toInt = 28 by decide); have e29 := lv_neT c236 (show ((29 : Int32)).toInt = 29 by decide); have e30 := lv_neT c243 (show ((30 : Int32)).toInt = 30 by decide); have e31 := lv_neT c249 (show ((31 : Int32)).toInt = 31 by decide); have e32 := lv_neT c255 (show ((32 : Int32)).toInt = 32 by decide); have e33 := lv_neT c261 (show ((33 : Int32)).toInt = 33 by decide); have e34 := lv_neT c268 (show ((34 : Int32)).toInt = 34 by decide); omega) (by decide) ?_
      exact vL_law_b1377 hX hC hR ih _ _ h
