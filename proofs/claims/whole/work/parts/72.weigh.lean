/-! PURE: sets weighed -/
theorem fill136_b {M : xMem} : ∀ (d k f : Nat) (N : xMem), k + d = 512 → d < f → Off [136] M N → (∀ i, i < k → N 136 i = -1) → ∃ K, gJ7_fill_53178_121_b5 f (-1) (nI k) (nI 512) N = some K ∧ Off [136] M K ∧ ∀ i, i < 512 → K 136 i = -1
  | 0, k, f + 1, N, hk, hn, o, h => by
    obtain rfl : k = 512 := by omega
    unfold gJ7_fill_53178_121_b5
    simp (disch := omega) only [↓reduceIte, mset_eq, i_lt0, i_cl, i_ll, i_lr, i_tl, i_tr, i_el, i_er, i_le, i_lt, i_eq, i_al, i_ar, i_sr, i_sl, i_ml, i_mr, i_dr, i_cll, nI_add, pk_mul, i_sub, nle_f, nle_t, nlt_f, nlt_t, neq_f, if_true, if_false, ite_true, ite_false, false_or, or_false, true_or, or_true, or_self, not_false_eq_true, not_true_eq_false, Option.bind_some, Nat.zero_add, Nat.add_zero]
    exact ⟨N, rfl, o, h⟩
  | d + 1, k, f + 1, N, hk, hn, o, h => by
    unfold gJ7_fill_53178_121_b5
    simp (disch := omega) only [↓reduceIte, mset_eq, i_lt0, i_cl, i_ll, i_lr, i_tl, i_tr, i_el, i_er, i_le, i_lt, i_eq, i_al, i_ar, i_sr, i_sl, i_ml, i_mr, i_dr, i_cll, nI_add, pk_mul, i_sub, nle_f, nle_t, nlt_f, nlt_t, neq_f, if_true, if_false, ite_true, ite_false, false_or, or_false, true_or, or_true, or_self, not_false_eq_true, not_true_eq_false, Option.bind_some, Nat.zero_add, Nat.add_zero]
    refine fill136_b d (k + 1) f _ (by omega) (by omega) (o.up' (by decide)) fun i hi => ?_
    by_cases c : i = k
    · subst c; exact up_s
    · rw [up_i c]; exact h i (by omega)
theorem fill136_eq {M : xMem} : ∃ K, gJ7_fill_53178_121 (-1) M = some K ∧ Off [136] M K ∧ ∀ i, i < 512 → K 136 i = -1 :=
  fill136_b 512 0 5000 M rfl (by omega) Off.rf fun i hi => absurd hi (by omega)
/-- the blocks of the class's sets -/
def SW : List Nat := [1, 101, 102, 27, 28, 29, 134, 135, 136, 137, 138, 139, 140, 141, 142, 143, 144]
theorem sw_lc {N K : xMem} (o : Off SW N K) : lawC N K := lawC.off' o (by decide)
/-- one set tried -/
theorem try_set {B : xMem} {V : Nat → (Nat → Int32) → Int32} (L : LawV B V) {R : Nat → Int32} (ok : RowOk R) {most n s hrs : Nat} {str : Bool} {ch : Nat → Nat} (hs : s < 2 ^ n) (hh : hrs < 4000) {N : xMem} (C : Chs (inCh R most str) 12 n ch N) (h0 : N 0 = R) (z : Z10 N) (lb : lawC B N) :
    ∃ K K2, g5_lightSet (nI s) N = some K ∧ K 0 = R ∧ (∃ x, g0_passHours 1 (nI hrs) K = some (x, K2)) ∧ K2 1 = (sRun V hrs (rSet R ch s n) 0).1 ∧ K2 102 0 = sSeenR V hrs (rSet R ch s n) ∧ Off (SS 1) N K2 ∧ Z10 K2 := by
  have h := pow_le n C.1
  obtain ⟨K, e, r, t, o, zK⟩ := lightSet_eq ok (s := s) (by omega) C h0 z
  have ok1 : RowOk (K 1) := by rw [r]; exact rSet_ok ok n (Chs.lt C)
  obtain ⟨K2, e2, r2, o2, s2⟩ := runs_eq (p := 1) (n := hrs) (M := K) (by decide) hh L (lb.tr (lawC.off' o (by decide))) ok1
  rw [r] at e2 r2 s2
  refine ⟨K, K2, e, by rw [o 0 (by decide), h0], ⟨_, e2⟩, r2, by rw [s2, t, Int32.zero_or], (o.mono (by decide)).tr o2, zK.row o2 fun b hb h10 => ?_⟩
  have : b = 1 := by revert b; decide
  subst this
  rw [r2]
  exact sRun_ok L.vb _ _ 0 (rSet_ok ok n (Chs.lt C))
/-- what stands of the sets -/
def CameA (out : Nat → Int32) (n s : Nat) (N : xMem) : Prop := (∀ o, o < 2 ^ n → N 136 o = -1 ∨ N 136 o = out o) ∧ ∀ o, o < s → N 136 o = out o
theorem CameA.fr {out : Nat → Int32} {n s : Nat} {N K : xMem} (h : CameA out n s N) (e : K 136 = N 136) : CameA out n s K := by
  unfold CameA
  rw [e]
  exact h
theorem CameA.next {out : Nat → Int32} {n s : Nat} {N : xMem} (h : CameA out n s N) (hs : s < 2 ^ n) (e : N 136 s ≠ -1) : CameA out n (s + 1) N :=
  ⟨h.1, fun o ho => by
    by_cases c : o = s
    · subst c
      rcases h.1 o hs with q | q
      · exact absurd q e
      · exact q
    · exact h.2 o (by omega)⟩
theorem came_note {out : Nat → Int32} {n s : Nat} {ch : Nat → Nat} {P : Nat → Prop} {N : xMem} (C : Chs P 12 n ch N) (hs : s < 2 ^ n) (h : CameA out n s N) (ho : ∀ o, o < 2 ^ n → notBit (N 102 0) ch s o n → out o = out s) :
    ∃ K, g5_note (nI s) (out s) N = some K ∧ CameA out n (s + 1) K ∧ Off [136] N K := by
  obtain ⟨K, e, k1, k2, o⟩ := note_eq (out := out s) C hs
  refine ⟨K, e, ⟨fun i hi => ?_, fun i hi => ?_⟩, o⟩
  · by_cases c : s ≤ i ∧ notBit (N 102 0) ch s i n
    · rw [(k1 i hi).1 c, ho i hi c.2]
      exact Or.inr rfl
    · rw [(k1 i hi).2 c]
      exact h.1 i hi
  · by_cases c : i = s
    · subst c
      exact (k1 i hs).1 ⟨Nat.le_refl _, fun _ _ _ => rfl⟩
    · rw [(k1 i (by omega)).2 (by omega)]
      exact h.2 i (by omega)
def sOut (V : Nat → (Nat → Int32) → Int32) (R : Nat → Int32) (u m : Nat) : Int32 := sLiving (sRun V (8 - u) (rF R m false) 0).1
theorem sLiving_nat {R : Nat → Int32} (ok : RowOk R) : ∃ j, j ≤ 5994 ∧ sLiving R = nI j := by
  have h : ∀ k, k ≤ 6 → ∃ j, j ≤ 999 * k ∧ sumF (sLive R) k = nI j := fun k => by
    induction k with
    | zero => intro _; exact ⟨0, by omega, rfl⟩
    | succ k ih =>
      intro hk
      obtain ⟨j, hj, e⟩ := ih (by omega)
      obtain ⟨c, hc, ec⟩ := ok.cattle (show k < 6 by omega)
      show ∃ j, j ≤ 999 * (k + 1) ∧ sumF (sLive R) k + sLive R k = nI j
      rw [e]
      unfold sLive
      split
      · exact ⟨j, by omega, Int32.add_zero _⟩
      · rw [ec, nI_add]
        exact ⟨j + c, by omega, rfl⟩
  obtain ⟨j, hj, e⟩ := h 6 (by omega)
  exact ⟨j, by omega, e⟩
theorem nI_m1 {j : Nat} (h : j < 2147483648) : ¬ nI j = -1 := fun e => by
  have h1 := nI_pos h
  rw [e] at h1
  exact h1 (by decide)
theorem sOut_nat {V : Nat → (Nat → Int32) → Int32} (L : VB V) {R : Nat → Int32} (ok : RowOk R) {u m : Nat} : ∃ j, j ≤ 5994 ∧ sOut V R u m = nI j := sLiving_nat (sRun_ok L _ _ 0 (rF_ok ok))
theorem weigh_b {B : xMem} {V : Nat → (Nat → Int32) → Int32} (L : LawV B V) {R : Nat → Int32} (ok : RowOk R) {u : Nat} (hu : u < 8) (eu : R 328 = nI u) {n : Nat} {ch : Nat → Nat} {M : xMem} :
    ∀ (d s f : Nat) (N : xMem), s + d = 2 ^ n → d < f → N 0 = R → Z10 N → lawC B N → Chs (inCh R 9 false) 12 n ch N → CameA (fun o => sOut V R u (spr ch o n)) n s N → Off SW M N →
      ∃ K, g5_weighSets_b21 f (nI s) N = some K ∧ (∀ o, o < 2 ^ n → K 136 o = sOut V R u (spr ch o n)) ∧ K 0 = R ∧ Chs (inCh R 9 false) 12 n ch K ∧ Z10 K ∧ Off SW M K
  | 0, s, f + 1, N, hk, hf, h0, z, lb, C, W, o => by
    have h := pow_le n C.1
    obtain rfl : s = 2 ^ n := by omega
    refine ⟨N, ?_, W.2, h0, C, z, o⟩
    unfold g5_weighSets_b21
    by_cases c : 512 ≤ 2 ^ n
    · rw [if_pos (show (512 : Int32) ≤ nI (2 ^ n) from (nI_leI (a := 512) (by omega) (by omega)).mpr c)]
    · rw [if_neg (show ¬ (512 : Int32) ≤ nI (2 ^ n) from fun q => c ((nI_leI (a := 512) (by omega) (by omega)).mp q)), bs (isSet_eq C.1 C.2.1 (by omega)), b2i_f (by omega), if_pos rfl]
  | d + 1, s, f + 1, N, hk, hf, h0, z, lb, C, W, o => by
    have h := pow_le n C.1
    unfold g5_weighSets_b21 g5_weighSets_b85
    simp (disch := omega) only [↓reduceIte, i_ll, nle_f]
    rw [bs (isSet_eq C.1 C.2.1 (by omega)), b2i_t (show s < 2 ^ n by omega), if_neg (show ¬ (1 : Int32) = 0 by decide)]
    simp (disch := omega) only [↓reduceIte, i_lt0, i_cl, nle_f, or_self, nI_1]
    by_cases c : N 136 s = -1
    · rw [if_pos c]
      obtain ⟨K1, K2, e1, k0, ⟨x, e2⟩, r2, s2, o2, z2⟩ := try_set L ok (s := s) (hrs := 8 - u) (by omega) (by omega) C h0 z lb
      have hl : g6_hoursLeft 0 K1 = some (nI (8 - u), K1) := by
        unfold g6_hoursLeft
        rw [hoursLeft_eq hu (by rw [k0, eu])]
      have C2 : Chs (inCh R 9 false) 12 n ch K2 := C.fr (o2 134 (by decide)) (o2 135 (by decide))
      have so : ∀ i, notBit (K2 102 0) ch s i n → sOut V R u (spr ch i n) = sLiving (sRun V (8 - u) (rSet R ch s n) 0).1 := fun i hi =>
        living_pat (set_out ok C L.vb (hrs := 8 - u) eu (by omega) (A := fun l => bitOf (K2 102 0) l = true) (fun l _ q => by rw [s2]; exact q) hi)
      have lv : sLiving (K2 1) = sOut V R u (spr ch s n) := by rw [r2]; exact (so s fun _ _ _ => rfl).symm
      rw [bs e1, bs hl, bs e2, bs living_eq]
      simp only [lv]
      obtain ⟨K3, e3, W3, o3⟩ := came_note C2 (show s < 2 ^ n by omega) (W.fr (o2 136 (by decide))) (fun i _ hi => by rw [so i hi, so s fun _ _ _ => rfl])
      rw [bs e3]
      have o23 : Off SW N K3 := (o2.mono (by decide)).tr (o3.mono (by decide))
      exact weigh_b L ok hu eu d (s + 1) f K3 (by omega) (by omega) (by rw [o3 0 (by decide), o2 0 (by decide), h0]) (z2.of fun b hb => o3 b (by simp; omega)) (lb.tr (sw_lc o23)) (C2.fr (o3 134 (by decide)) (o3 135 (by decide))) W3 (o.tr o23)
    · rw [if_neg c]
      exact weigh_b L ok hu eu d (s + 1) f N (by omega) (by omega) h0 z lb C (W.next (by omega) c) o
theorem weigh_eq {B : xMem} {V : Nat → (Nat → Int32) → Int32} (L : LawV B V) {R : Nat → Int32} (ok : RowOk R) {u : Nat} (hu : u < 8) (eu : R 328 = nI u) {N : xMem} (h0 : N 0 = R) (z : Z10 N) (lb : lawC B N) :
    ∃ n ch K, g5_weighSets N = some K ∧ (∀ o, o < 2 ^ n → K 136 o = sOut V R u (spr ch o n)) ∧ K 0 = R ∧ Chs (inCh R 9 false) 12 n ch K ∧ Z10 K ∧ Off SW N K := by
  unfold g5_weighSets
  simp only [mset_eq]
  have a0 : (upM N 135 0 0) 0 = R := by rw [up_b (by decide), h0]
  obtain ⟨n, ch, K1, e1, C1, -, o1⟩ := chooseInns_b ok (most := 9) (by omega) (str := false) (M := upM N 135 0 0) 9 0 5000 0 (fun _ => 0) (upM N 135 0 0) rfl (by omega) a0 (chs_0 up_s) (by rw [uN]; rfl) Off.rf
  have e1' : g5_chooseInns 9 (upM N 135 0 0) = some K1 := e1
  obtain ⟨K2, e2, o2, f2⟩ := fill136_eq (M := K1)
  rw [bs e1', bs e2]
  have C2 := (Chs.nine C1).fr (o2 134 (by decide)) (o2 135 (by decide))
  have h9 := pow_le n C2.1
  have o02 : Off SW N K2 := ((Off.up (by decide)).tr (o1.mono (by decide))).tr (o2.mono (by decide))
  have o03 : Off [134, 135, 136] N K2 := ((Off.up (by decide)).tr (o1.mono (by decide))).tr (o2.mono (by decide))
  have z2 : Z10 K2 := z.of fun b hb => o03 b (by simp; omega)
  obtain ⟨K, e, k1, k2, k3, k4, k5⟩ := weigh_b L ok hu eu (n := n) (ch := ch) (M := N) (2 ^ n) 0 5000 K2 (by omega) (by omega) (by rw [o2 0 (by decide), o1 0 (by decide), a0]) z2 (lb.tr (sw_lc o02)) C2 ⟨fun o ho => Or.inl (f2 o (by omega)), fun o ho => absurd ho (by omega)⟩ o02
  exact ⟨n, ch, K, e, k1, k2, k3, k4, k5⟩
