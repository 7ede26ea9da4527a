/-! PURE: place -/
theorem light_inn {p i : Nat} {N : xMem} (hi : i < 9) : g2_light p (nI i) 1 N = some (upM N p (244 + i) (xMax (N p (244 + i)) 1)) := by
  unfold g2_light g2_light_b22
  simp (disch := omega) only [↓reduceIte, mset_eq, i_lt0, i_cl, i_ll, i_lr, i_tl, i_tr, i_el, i_er, i_le, i_lt, i_eq, i_al, i_ar, i_sr, i_sl, i_ml, i_mr, i_dr, i_cll, nI_add, pk_mul, i_sub, nle_f, nle_t, nlt_f, nlt_t, neq_f, if_true, if_false, ite_true, ite_false, false_or, or_false, true_or, or_true, or_self, not_false_eq_true, not_true_eq_false, Option.bind_some, Nat.zero_add, Nat.add_zero, z10]
theorem light_inn0 {p i : Nat} {N : xMem} (hi : i < 9) : g2_light p (nI i) 0 N = some N := by
  unfold g2_light g2_light_b22
  simp (disch := omega) only [↓reduceIte, mset_eq, i_lt0, i_cl, i_ll, i_lr, i_tl, i_tr, i_el, i_er, i_le, i_lt, i_eq, i_al, i_ar, i_sr, i_sl, i_ml, i_mr, i_dr, i_cll, nI_add, pk_mul, i_sub, nle_f, nle_t, nlt_f, nlt_t, neq_f, if_true, if_false, ite_true, ite_false, false_or, or_false, true_or, or_true, or_self, not_false_eq_true, not_true_eq_false, Option.bind_some, Nat.zero_add, Nat.add_zero]
theorem light_str {p l : Nat} {s : Int32} {N : xMem} (h9 : 9 ≤ l) (hl : l < 12) (hs : s = 0 ∨ s = 1) : g2_light p (nI l) s N = some (upM N p (256 + l) s) := by
  unfold g2_light g2_light_b22
  rcases hs with rfl | rfl <;> simp (disch := omega) only [↓reduceIte, mset_eq, i_lt0, i_cl, i_ll, i_lr, i_tl, i_tr, i_el, i_er, i_le, i_lt, i_eq, i_al, i_ar, i_sr, i_sl, i_ml, i_mr, i_dr, i_cll, nI_add, pk_mul, i_sub, nle_f, nle_t, nlt_f, nlt_t, neq_f, if_true, if_false, ite_true, ite_false, false_or, or_false, true_or, or_true, or_self, not_false_eq_true, not_true_eq_false, Option.bind_some, Nat.zero_add, Nat.add_zero, z10, z01]
theorem max1 {x : Int32} (h : ∃ j, j ≤ 99 ∧ x = nI j) : ∃ j, 1 ≤ j ∧ j ≤ 99 ∧ xMax x 1 = nI j := by
  obtain ⟨j, hj, rfl⟩ := h
  unfold xMax
  by_cases c : nI j < 1
  · rw [if_pos c]
    exact ⟨1, by omega, by omega, rfl⟩
  · rw [if_neg c]
    refine ⟨j, ?_, hj, rfl⟩
    have : ¬ j < 1 := fun q => c ((nI_ltI (b := 1) (by omega) (by omega)).mpr q)
    omega
/-- the class's row for a place, and the reference's -/
def rPl (R : Nat → Int32) (i q : Nat) : Nat → Int32 := upd (upd R (244 + i) (xMax (R (244 + i)) 1)) (208 + i) (nI q)
def rPl9 (R : Nat → Int32) (i q : Nat) : Nat → Int32 := upd (upd R (208 + i) (nI q)) (232 + i) 1
theorem rPl_ok {R : Nat → Int32} (ok : RowOk R) {i q : Nat} (hi : i < 9) (hq : q < 196) : RowOk (rPl R i q) := by
  obtain ⟨j, -, hj, e⟩ := max1 (ok.dog (show i < 12 by omega))
  unfold rPl
  rw [e]
  exact (ok.upd (ok_le (bd_dog i hi) hj)).upd (ok_le (bd_lsq i (by omega)) (by omega))
theorem rPl9_ok {R : Nat → Int32} (ok : RowOk R) {i q : Nat} (hi : i < 9) (hq : q < 196) : RowOk (rPl9 R i q) :=
  (ok.upd (ok_le (bd_lsq i (by omega)) (by omega))).upd (ok_le (v := 1) (bd_paid i hi) (by omega))
theorem pos_1 {j : Nat} (h : 1 ≤ j) (h2 : j < 2147483648) : (0 : Int32) < nI j := (nI_ltI (a := 0) (by omega) h2).mpr (by omega)
theorem rPl_lit {R : Nat → Int32} (ok : RowOk R) {i q : Nat} (hi : i < 9) : LitEq (fun _ => True) (rPl9 R i q) (rPl R i q) := fun l hl _ => by
  have e : rPl9 R i q = pat (rPl9 R i q) (rPl R i q) := pat_of fun k hk => by
    unfold rPl rPl9
    unfold upd
    by_cases c1 : k = 208 + i
    · subst c1
      rw [if_neg (by omega), if_pos rfl, if_pos rfl]
    · rw [if_neg (by omega), if_neg c1, if_neg c1, if_neg (by omega)]
  rw [← e]
  obtain ⟨j, hj, hj2, ej⟩ := max1 (ok.dog (show i < 12 by omega))
  unfold sLit
  rw [if_neg (show ¬ 12 ≤ l by omega), if_neg (show ¬ 12 ≤ l by omega)]
  have e1 : rPl9 R i q (196 + l) = R (196 + l) := by unfold rPl9; rw [ud_n (by omega), ud_n (by omega)]
  have e2 : rPl R i q (196 + l) = R (196 + l) := by unfold rPl; rw [ud_n (by omega), ud_n (by omega)]
  have e3 : rPl9 R i q (256 + l) = R (256 + l) := by unfold rPl9; rw [ud_n (by omega), ud_n (by omega)]
  have e4 : rPl R i q (256 + l) = R (256 + l) := by unfold rPl; rw [ud_n (by omega), ud_n (by omega)]
  rw [e1, e2, e3, e4]
  by_cases h9 : 9 ≤ l
  · rw [if_pos h9, if_pos h9]
  rw [if_neg h9, if_neg h9]
  by_cases c : l = i
  · subst c
    have a1 : rPl9 R l q (232 + l) = 1 := ud_s
    have a2 : rPl R l q (244 + l) = nI j := by unfold rPl; rw [ud_n (by omega), ud_s, ej]
    have a3 : (0 : Int32) < 1 := by decide
    rw [a1, a2, decide_eq_true a3, decide_eq_true (pos_1 hj (by omega)), Bool.true_or, Bool.or_true]
  · have a1 : rPl9 R i q (232 + l) = R (232 + l) := by unfold rPl9; rw [ud_n (by omega), ud_n (by omega)]
    have a2 : rPl R i q (244 + l) = R (244 + l) := by unfold rPl; rw [ud_n (by omega), ud_n (by omega)]
    have a3 : rPl9 R i q (244 + l) = R (244 + l) := by unfold rPl9; rw [ud_n (by omega), ud_n (by omega)]
    have a4 : rPl R i q (232 + l) = R (232 + l) := by unfold rPl; rw [ud_n (by omega), ud_n (by omega)]
    rw [a1, a2, a3, a4]
def sPlL (V : Nat → (Nat → Int32) → Int32) (R : Nat → Int32) (u i q : Nat) : Int32 := sLiving (sRun V (8 - u) (rPl R i q) 0).1
theorem sPlL_9 {V : Nat → (Nat → Int32) → Int32} (L : VB V) {R : Nat → Int32} (ok : RowOk R) {u i q : Nat} (hi : i < 9) (hq : q < 196) (hu : u < 8) (eu : R 328 = nI u) : sLiving (sRun V (8 - u) (rPl9 R i q) 0).1 = sPlL V R u i q := by
  have e : rPl9 R i q = pat (rPl9 R i q) (rPl R i q) := pat_of fun k hk => by
    unfold rPl rPl9
    unfold upd
    by_cases c1 : k = 208 + i
    · subst c1
      rw [if_neg (by omega), if_pos rfl, if_pos rfl]
    · rw [if_neg (by omega), if_neg c1, if_neg c1, if_neg (by omega)]
  have h := run_pat L (X := rPl9 R i q) (A := fun _ => True) (8 - u) u (rPl R i q) 0 (by omega) (by unfold rPl; rw [ud_n (by omega), ud_n (by omega), eu]) (rPl_ok ok hi hq) (rPl_lit ok hi) (fun _ _ _ => trivial)
  rw [← e] at h
  exact living_pat h.2
/-- the best square -/
def sBest (R : Nat → Int32) (l : Nat → Int32) : Nat → Nat → Int32 → Int32 → Int32 × Int32
  | 0, _, b, m => (b, m)
  | d + 1, k, b, m => if R k ≠ 3 ∧ m < l k then sBest R l d (k + 1) (nI k) (l k) else sBest R l d (k + 1) b m
theorem hoursLeft_eq {u : Nat} (hu : u < 8) {x : Int32} (e : x = nI u) : (8 : Int32) - x = nI (8 - u) := by
  rw [e]
  exact i_sub (a := 8) (by omega)
theorem place_b {B : xMem} {V : Nat → (Nat → Int32) → Int32} (L : LawV B V) {R : Nat → Int32} (ok : RowOk R) {i u : Nat} (hi : i < 9) (th : R (196 + i) = 1) (hu : u < 8) (eu : R 328 = nI u) {M : xMem} :
    ∀ (d k f : Nat) (b m : Int32) (N : xMem), k + d = 196 → d < f → lawC B N → N 0 = R → Z10 N → N 142 0 = b → N 144 0 = m → Off S1 M N →
      ∃ K, g5_findPlace_b6 f (nI i) (nI k) N = some K ∧ K 142 0 = (sBest R (sPlL V R u i) d k b m).1 ∧ K 144 0 = (sBest R (sPlL V R u i) d k b m).2 ∧ Z10 K ∧ Off S1 M K
  | 0, k, f + 1, b, m, N, hk, hf, lb, h0, z, h1, h2, o => by
    obtain rfl : k = 196 := by omega
    unfold g5_findPlace_b6
    rw [if_pos (by decide)]
    exact ⟨N, rfl, h1, h2, z, o⟩
  | d + 1, k, f + 1, b, m, N, hk, hf, lb, h0, z, h1, h2, o => by
    have ih := fun b m K a1 a2 a3 a4 a5 a6 => place_b L ok hi th hu eu (M := M) d (k + 1) f b m K (by omega) (by omega) a1 a2 a3 a4 a5 a6
    unfold g5_findPlace_b6 g5_findPlace_b133 sBest
    simp (disch := omega) only [↓reduceIte, i_ll, nle_f]
    rw [bs (sortAt_in (by omega)), h0]
    simp only [nI_1]
    by_cases c1 : R k = 3
    · rw [if_pos c1, if_neg (fun q => q.1 c1)]
      exact ih b m N lb h0 z h1 h2 o
    have st : g2_stands 0 (nI i) N = some (1, N) := by rw [stands_in (by omega), h0, b2i_t (by rw [th]; decide)]
    rw [if_neg c1, b1 st]
    obtain ⟨K1, e1, r1, o1, z1⟩ := become1_0 h0 ok z
    rw [bs e1, bs (light_inn hi)]
    simp (disch := omega) only [↓reduceIte, i_lt0, i_cl, nle_f, or_self, mset_eq, r1]
    have r2 : (upM (upM K1 1 (244 + i) (xMax (R (244 + i)) 1)) 1 (208 + i) (nI k)) 1 = rPl R i k := by rw [up_row, up_row, r1]; rfl
    have o2 : Off [1] N (upM (upM K1 1 (244 + i) (xMax (R (244 + i)) 1)) 1 (208 + i) (nI k)) := (o1.up' (by decide)).up' (by decide)
    have z2 : Z10 (upM (upM K1 1 (244 + i) (xMax (R (244 + i)) 1)) 1 (208 + i) (nI k)) := (z1.up (Or.inl (by omega))).up (Or.inl (by omega))
    generalize upM (upM K1 1 (244 + i) (xMax (R (244 + i)) 1)) 1 (208 + i) (nI k) = K2 at r2 o2 z2 ⊢
    have ok2 : RowOk (K2 1) := by rw [r2]; exact rPl_ok ok hi (by omega)
    have hl : g6_hoursLeft 0 K2 = some (nI (8 - u), K2) := by
      unfold g6_hoursLeft
      rw [hoursLeft_eq hu (by rw [o2 0 (by decide), h0, eu])]
    rw [bs hl]
    obtain ⟨K3, e3, r3, o3, -⟩ := runs_eq (p := 1) (n := 8 - u) (M := K2) (by decide) (by omega) L (lb.tr (lawC.off' o2 (by decide))) ok2
    rw [r2] at e3 r3
    have lv : sLiving (K3 1) = sPlL V R u i k := by rw [r3]; rfl
    rw [bs e3, bs living_eq]
    simp only [lv]
    have o23 : Off S1 N K3 := (o2.mono (by decide)).tr (s1_ss o3)
    have z3 : Z10 K3 := z2.row o3 (fun b hb h10 => by
      have : b = 1 := by revert b; decide
      subst this
      rw [r3]; exact sRun_ok L.vb _ _ 0 (by rw [← r2]; exact ok2))
    have h0' : K3 0 = R := by rw [o3 0 (by decide), o2 0 (by decide), h0]
    have h1' : K3 142 0 = b := by rw [o3 142 (by decide), o2 142 (by decide), h1]
    have h2' : K3 144 0 = m := by rw [o3 144 (by decide), o2 144 (by decide), h2]
    have lb3 : lawC B K3 := lb.tr (s1_lc o23)
    rw [h2']
    by_cases c2 : sPlL V R u i k ≤ m
    · have c3 : ¬ m < sPlL V R u i k := fun q => by
        have a1 := (fa_lt' _ _).mp q
        have a2 := (fa_le' _ _).mp c2
        omega
      rw [if_pos c2, if_neg (fun q => c3 q.2)]
      exact ih b m K3 lb3 h0' z3 h1' h2' (o.tr o23)
    · have c3 : m < sPlL V R u i k := (fa_lt' _ _).mpr (by
        have : ¬ (sPlL V R u i k).toInt ≤ m.toInt := fun q => c2 ((fa_le' _ _).mpr q)
        omega)
      rw [if_neg c2, if_pos ⟨c1, c3⟩, bs living_eq]
      simp only [lv]
      have o4 : Off [142, 144] K3 (upM (upM K3 144 0 (sPlL V R u i k)) 142 0 (nI k)) := (Off.up (by decide)).up' (by decide)
      refine ih (nI k) (sPlL V R u i k) _ (lb3.tr (lawC.off' o4 (by decide))) (by rw [o4 0 (by decide), h0']) (z3.of fun b hb => o4 b (by simp; omega)) up_s ?_ ((o.tr o23).tr (o4.mono (by decide)))
      rw [up_b (by decide), up_s]
theorem place9_b {B : xMem} {V : Nat → (Nat → Int32) → Int32} (L : LawV B V) {R : Nat → Int32} (ok : RowOk R) {i u : Nat} (hi : i < 9) (hu : u < 8) (eu : R 328 = nI u) {w : Int32} {M : xMem} :
    ∀ (d k f : Nat) (b m : Int32) (N : xMem), k + d = 196 → d < f → lawM B N → N 8 = R → Z10 N → Off S7 M N →
      ∃ K, g9_place_b38 f (nI i) w b m (nI k) N = some (if (sBest R (sPlL V R u i) d k b m).1 = -1 then -1 else if w = 0 then (sBest R (sPlL V R u i) d k b m).1 else (sBest R (sPlL V R u i) d k b m).2, K) ∧ K 7 = R ∧ K 8 = R ∧ Z10 K ∧ Off S7 M K
  | 0, k, f + 1, b, m, N, hk, hf, lb, h8, z, o => by
    obtain rfl : k = 196 := by omega
    unfold g9_place_b38
    rw [if_pos (by decide)]
    obtain ⟨K, e, r, r8, oK, zK⟩ := again_eq h8 z
    rw [bs e]
    refine ⟨K, ?_, r, r8, zK, o.tr (oK.mono (by decide))⟩
    unfold sBest
    dsimp only
    by_cases c1 : b = -1
    · rw [if_pos c1, if_pos c1]
    rw [if_neg c1, if_neg c1]
    by_cases c : w = 0
    · rw [if_pos c, if_pos c]
    · rw [if_neg c, if_neg c]
  | d + 1, k, f + 1, b, m, N, hk, hf, lb, h8, z, o => by
    have ih := fun b m K a1 a2 a3 a4 => place9_b L ok hi hu eu (w := w) (M := M) d (k + 1) f b m K (by omega) (by omega) a1 a2 a3 a4
    unfold g9_place_b38 g9_place_b122
    have sb : sBest R (sPlL V R u i) (d + 1) k b m = if R k ≠ 3 ∧ m < sPlL V R u i k then sBest R (sPlL V R u i) d (k + 1) (nI k) (sPlL V R u i k) else sBest R (sPlL V R u i) d (k + 1) b m := rfl
    rw [sb]
    simp (disch := omega) only [↓reduceIte, i_ll, nle_f]
    obtain ⟨K1, e1, r1, r18, o1, z1⟩ := again_eq h8 z
    rw [bs e1, bs (rock9_in (by omega)), r1]
    simp only [b2i_0, nI_1]
    have o1' : Off S7 M K1 := o.tr (o1.mono (by decide))
    by_cases c1 : R k = 3
    · have c1' : ¬ (R k ≠ 3 ∧ m < sPlL V R u i k) := fun q => q.1 c1
      rw [if_neg (fun q => q c1)]
      simp only [if_neg c1']
      exact ih b m K1 (lb.tr (lawM.off' o1 (by decide))) r18 z1 o1'
    rw [if_pos c1]
    simp (disch := omega) only [↓reduceIte, i_lt0, i_cl, i_al, nle_f, or_self, mset_eq]
    have r2 : (upM (upM K1 7 (208 + i) (nI k)) 7 (232 + i) 1) 7 = rPl9 R i k := by rw [up_row, up_row, r1]; rfl
    have o2 : Off [7] N (upM (upM K1 7 (208 + i) (nI k)) 7 (232 + i) 1) := (o1.up' (by decide)).up' (by decide)
    have z2 : Z10 (upM (upM K1 7 (208 + i) (nI k)) 7 (232 + i) 1) := (z1.up (Or.inl (by omega))).up (Or.inl (by omega))
    generalize upM (upM K1 7 (208 + i) (nI k)) 7 (232 + i) 1 = K2 at r2 o2 z2 ⊢
    have ok2 : RowOk (K2 7) := by rw [r2]; exact rPl9_ok ok hi (by omega)
    have u2 : K2 7 328 = nI u := by rw [r2]; unfold rPl9; rw [ud_n (by omega), ud_n (by omega), eu]
    rw [hoursLeft_eq hu u2]
    obtain ⟨K3, e3, r3, o3⟩ := runs9_eq (n := 8 - u) (M := K2) (by omega) L (lb.tr (lawM.off' o2 (by decide))) ok2
    rw [r2] at e3 r3
    have ok3 : RowOk (K3 7) := by rw [r3]; exact sRun_ok L.vb _ _ 0 (by rw [← r2]; exact ok2)
    have lv : sLiving (K3 7) = sPlL V R u i k := by rw [r3]; exact sPlL_9 L.vb ok hi (by omega) hu eu
    rw [bs e3, bs (living9_eq ok3)]
    simp only [lv]
    have o23 : Off S7 N K3 := (o2.mono (by decide)).tr (s7_tt o3)
    have z3 : Z10 K3 := z2.row o3 (fun b hb h10 => by
      have : b = 7 := by revert b; decide
      subst this
      exact ok3)
    have h8' : K3 8 = R := by rw [o3 8 (by decide), o2 8 (by decide), h8]
    have lb3 : lawM B K3 := lb.tr (s7_lm o23)
    by_cases c2 : m < sPlL V R u i k
    · have c3 : R k ≠ 3 ∧ m < sPlL V R u i k := ⟨c1, c2⟩
      rw [if_pos c2, bs (living9_eq ok3)]
      simp only [lv, if_pos c3]
      exact ih _ _ K3 lb3 h8' z3 (o.tr o23)
    · have c3 : ¬ (R k ≠ 3 ∧ m < sPlL V R u i k) := fun q => c2 q.2
      rw [if_neg c2]
      simp only [if_neg c3]
      exact ih b m K3 lb3 h8' z3 (o.tr o23)
theorem sBest_none {R : Nat → Int32} {l : Nat → Int32} : ∀ (d k : Nat) (b m : Int32), k + d = 196 → (b = -1 → m = -1) → (sBest R l d k b m).1 = -1 → (sBest R l d k b m).2 = -1
  | 0, _, _, _, _, h, e => h e
  | d + 1, k, b, m, hk, h, e => by
    unfold sBest at e ⊢
    split at e
    · rename_i c
      rw [if_pos c]
      refine sBest_none d (k + 1) _ _ (by omega) (fun q => ?_) e
      have h1 := nI_pos (n := k) (by omega)
      rw [q] at h1
      exact absurd (by decide) h1
    · rename_i c
      rw [if_neg c]
      exact sBest_none d (k + 1) b m (by omega) h e
theorem pair_place (a w : Int32) : Pair (g8_place a w) (g9_place a w) := by
  intro M I
  unfold g8_place g9_place
  rw [in8_9]
  rcases innThere_cases a I with ⟨h1, h2 | ⟨h2, h3⟩⟩ | ⟨i, hi, rfl, ht, h1, h2, h3⟩
  · exact ⟨-1, M, M, by rw [b0 h1], by rw [b0 h2], I⟩
  · exact ⟨-1, M, M, by rw [b0 h1], by rw [b1 h2, b0 h3], I⟩
  rcases in_cases w 0 1 0 1 with h4 | ⟨t, -, ht', rfl, h4⟩
  · exact ⟨-1, M, M, by rw [b1 h1, b0 (h4 M)], by rw [b1 (h2 M), b1 h3, b0 (h4 M)], I⟩
  obtain ⟨V, L⟩ := lawV_of I.law
  obtain ⟨u, hu, eu⟩ := I.ok.hour
  unfold g5_findPlace
  obtain ⟨K0, e0, -, a2, -, a4, o0⟩ := clearFound_eq (N := M)
  obtain ⟨K, e, k1, k2, zK, oK⟩ := place_b (B := M) L I.ok hi ht (show u < 8 by omega) eu (M := M) 196 0 5000 (-1) (-1) K0 rfl (by omega) (lawC.off' o0 (by decide)) (o0 0 (by decide)) (I.z.of fun b hb => o0 b (by simp; omega)) a2 a4 (o0.mono (by decide))
  have e' : g5_findPlace_b6 5000 (nI i) 0 K0 = some K := e
  have k7 : K 7 = M 7 := oK 7 (by decide)
  obtain ⟨K1, e1, r1, f1, z1⟩ := cp155 zK
  obtain ⟨K2, e2, r27, r28, z2, o2⟩ := place9_b (B := M) L I.ok hi (show u < 8 by omega) eu (w := nI t) (M := K) 196 0 5000 (-1) (-1) K1 rfl (by omega) ((lawM.off' oK (by decide)).tr (fun b hb => f1 b (by revert b; decide))) (by rw [r1, k7, I.eq7]) z1 (fun b hb => f1 b (fun q => hb (by rw [q]; decide)))
  have e2' : g9_place_b38 5000 (nI i) (nI t) (-1) (-1) 0 K1 = _ := e2
  have J := I.trials oK (by decide) o2 (by decide) r27 z2
  have nn := sBest_none (R := M 0) (l := sPlL V (M 0) u i) 196 0 (-1) (-1) rfl (fun _ => rfl)
  refine ⟨_, K, K2, ?_, by rw [b1 (h2 K), b1 (lamp9_of0 k7 _ h3), b1 (h4 K), bs e1, e2'], J⟩
  rw [b1 h1, b1 (h4 M), bs (show (Option.bind (g5_clearFound M) fun q1 => g5_findPlace_b6 5000 (nI i) 0 q1) = some K by rw [bs e0, e']), k1, k2]
  by_cases c : (sBest (M 0) (sPlL V (M 0) u i) 196 0 (-1) (-1)).1 = -1
  · rw [if_pos c, nn c, c]
    by_cases c2 : nI t = 0
    · rw [if_pos c2]
    · rw [if_neg c2]
  · rw [if_neg c]
    by_cases c2 : nI t = 0
    · rw [if_pos c2, if_pos c2]
    · rw [if_neg c2, if_neg c2]
