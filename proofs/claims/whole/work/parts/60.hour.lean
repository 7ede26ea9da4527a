/-! PURE: an hour, the hours -/
def sDec (R : Nat → Int32) (k : Nat) : Int32 := nI ((R k).toNatClampNeg - 1)
theorem dec_b : ∀ j, j < 100 → xMax (nI j - 1) 0 = nI (j - 1) ∧ clv 0 (nI 99) (nI j - 1) = nI (j - 1) := by decide +kernel
def nightF (R : Nat → Int32) (n : Nat) (k : Nat) : Int32 := if (232 ≤ k ∧ k < 232 + n) ∨ (244 ≤ k ∧ k < 244 + n) then sDec R k else R k
theorem nightF_s {R : Nat → Int32} {n : Nat} (hn : n < 9) : upd (upd (nightF R n) (232 + n) (sDec R (232 + n))) (244 + n) (sDec R (244 + n)) = nightF R (n + 1) := by
  funext k
  unfold upd nightF
  by_cases c1 : k = 244 + n
  · subst c1
    rw [if_pos rfl, if_pos (by omega)]
  rw [if_neg c1]
  by_cases c2 : k = 232 + n
  · subst c2
    rw [if_pos rfl, if_pos (by omega)]
  rw [if_neg c2]
  by_cases c3 : (232 ≤ k ∧ k < 232 + n) ∨ (244 ≤ k ∧ k < 244 + n)
  · rw [if_pos c3, if_pos (by omega)]
  · rw [if_neg c3, if_neg (by omega)]
theorem nightF_at {R : Nat → Int32} (ok : RowOk R) {n : Nat} (hn : n < 9) : (∃ j, j < 100 ∧ R (232 + n) = nI j) ∧ (∃ j, j < 100 ∧ R (244 + n) = nI j) ∧ nightF R n (232 + n) = R (232 + n) ∧ nightF R n (244 + n) = R (244 + n) := by
  obtain ⟨a, ha, ea⟩ := ok.paid (show n < 12 by omega)
  obtain ⟨b, hb, eb⟩ := ok.dog (show n < 12 by omega)
  exact ⟨⟨a, by omega, ea⟩, ⟨b, by omega, eb⟩, if_neg (by omega), if_neg (by omega)⟩
theorem night_b {p : Nat} {R : Nat → Int32} (ok : RowOk R) {M : xMem} : ∀ (d k n : Nat) (N : xMem), k + d = 9 → d < n → N p = nightF R k → Off [p] M N → ∃ K, g2_endNight_b2 p n (nI k) N = some K ∧ K p = nightF R 9 ∧ Off [p] M K
  | 0, k, n + 1, N, hk, hn, h, o => by
    obtain rfl : k = 9 := by omega
    unfold g2_endNight_b2
    rw [if_pos (by decide)]
    exact ⟨N, rfl, h, o⟩
  | d + 1, k, n + 1, N, hk, hn, h, o => by
    obtain ⟨⟨a, ha, ea⟩, ⟨b, hb, eb⟩, n1, n2⟩ := nightF_at ok (show k < 9 by omega)
    unfold g2_endNight_b2
    simp (disch := omega) only [↓reduceIte, mset_eq, i_lt0, i_cl, i_ll, i_lr, i_tl, i_tr, i_el, i_er, i_le, i_lt, i_eq, i_al, i_ar, i_sr, i_sl, i_ml, i_mr, i_dr, i_cll, nI_add, pk_mul, i_sub, nle_f, nle_t, nlt_f, nlt_t, neq_f, if_true, if_false, ite_true, ite_false, false_or, or_false, true_or, or_true, or_self, not_false_eq_true, not_true_eq_false, Option.bind_some, Nat.zero_add, Nat.add_zero]
    refine night_b ok d (k + 1) n _ (by omega) (by omega) ?_ ((o.up' (by simp)).up' (by simp))
    rw [up_row, up_row, ud_n (by omega), h, n1, n2, ea, eb, (dec_b a ha).1, (dec_b b hb).1]
    have s1 : sDec R (232 + k) = nI (a - 1) := by unfold sDec; rw [ea, i_cl (by omega)]
    have s2 : sDec R (244 + k) = nI (b - 1) := by unfold sDec; rw [eb, i_cl (by omega)]
    rw [← s1, ← s2]
    exact nightF_s (by omega)
theorem night9_b {R : Nat → Int32} (ok : RowOk R) {M : xMem} {x : Int32} : ∀ (d k n : Nat) (N : xMem), k + d = 9 → d < n → N 7 = nightF R k → Off [7] M N →
    ∃ K, g9_passes_b68 n x (nI k) N = some (x, K) ∧ K 7 = upd (upd (upd (nightF R 9) 328 0) 329 0) 327 (R 327 + 1) ∧ Off [7] M K
  | 0, k, n + 1, N, hk, hn, h, o => by
    obtain rfl : k = 9 := by omega
    unfold g9_passes_b68
    rw [if_pos (by decide)]
    simp only [mset_eq]
    refine ⟨_, rfl, ?_, ((o.up' (by simp)).up' (by simp)).up' (by simp)⟩
    rw [up_row, up_row, up_row, ud_n (by decide), ud_n (by decide), h]
    rfl
  | d + 1, k, n + 1, N, hk, hn, h, o => by
    obtain ⟨⟨a, ha, ea⟩, ⟨b, hb, eb⟩, n1, n2⟩ := nightF_at ok (show k < 9 by omega)
    unfold g9_passes_b68
    have f1 : ∀ {K : xMem} {x : Int32}, g9_held x 99 K = some (clv 0 (nI 99) x, K) := held9_eq (m := 99) (by omega)
    simp (disch := omega) only [↓reduceIte, mset_eq, i_lt0, i_cl, i_ll, i_lr, i_tl, i_tr, i_el, i_er, i_le, i_lt, i_eq, i_al, i_ar, i_sr, i_sl, i_ml, i_mr, i_dr, i_cll, nI_add, pk_mul, i_sub, nle_f, nle_t, nlt_f, nlt_t, neq_f, if_true, if_false, ite_true, ite_false, false_or, or_false, true_or, or_true, or_self, not_false_eq_true, not_true_eq_false, Option.bind_some, Nat.zero_add, Nat.add_zero, f1]
    refine night9_b ok d (k + 1) n _ (by omega) (by omega) ?_ ((o.up' (by simp)).up' (by simp))
    rw [up_row, up_row, ud_n (by omega), h, n1, n2, ea, eb, (dec_b a ha).2, (dec_b b hb).2]
    have s1 : sDec R (232 + k) = nI (a - 1) := by unfold sDec; rw [ea, i_cl (by omega)]
    have s2 : sDec R (244 + k) = nI (b - 1) := by unfold sDec; rw [eb, i_cl (by omega)]
    rw [← s1, ← s2]
    exact nightF_s (by omega)
def sEnd (R : Nat → Int32) : Nat → Int32 := if R 328 + 1 < 8 then upd R 328 (R 328 + 1) else nightF (upd (upd (upd R 328 0) 327 (R 327 + 1)) 329 0) 9
theorem row0_ok {R : Nat → Int32} (ok : RowOk R) : RowOk (upd (upd (upd R 328 0) 327 (R 327 + 1)) 329 0) :=
  ((ok.upd (ok_le (v := 0) (m := 7) rfl (by omega))).upd (fun m e => by cases e)).upd (ok_le (v := 0) (m := 255) rfl (by omega))
theorem nightF_ok {R : Nat → Int32} (ok : RowOk R) : ∀ n, n ≤ 9 → RowOk (nightF R n)
  | 0, _ => by
    have : nightF R 0 = R := by
      funext k
      unfold nightF
      exact if_neg (by omega)
    rw [this]; exact ok
  | n + 1, hn => by
    obtain ⟨⟨a, ha, ea⟩, ⟨b, hb, eb⟩, -, -⟩ := nightF_at ok (show n < 9 by omega)
    rw [← nightF_s (by omega)]
    refine ((nightF_ok ok n (by omega)).upd (ok_le (bd_paid n (by omega)) ?_)).upd (ok_le (bd_dog n (by omega)) ?_)
    · rw [ea, i_cl (by omega)]; omega
    · rw [eb, i_cl (by omega)]; omega
theorem sEnd_ok {R : Nat → Int32} (ok : RowOk R) : RowOk (sEnd R) := by
  unfold sEnd
  split
  · rename_i c
    obtain ⟨j, hj, e⟩ := ok.hour
    rw [e, nI_1] at c ⊢
    have : j + 1 < 8 := (nI_ltI (by omega) (by omega)).mp c
    exact ok.upd (ok_le (m := 7) rfl (by omega))
  · exact nightF_ok (row0_ok ok) 9 (by omega)
theorem endHour_eq {p : Nat} {M : xMem} (ok : RowOk (M p)) : ∃ K, g6_endHour p M = some K ∧ K p = sEnd (M p) ∧ Off [p] M K := by
  unfold g6_endHour sEnd
  simp only [mset_eq, up_s]
  by_cases c : M p 328 + 1 < 8
  · rw [if_pos c, if_pos c]
    exact ⟨_, rfl, up_row, Off.up (by simp)⟩
  · rw [if_neg c, if_neg c]
    unfold g2_endNight
    have o5 : Off [p] M (upM (upM (upM (upM M p 328 (M p 328 + 1)) p 328 0) p 327 (upM (upM M p 328 (M p 328 + 1)) p 328 0 p 327 + 1)) p 329 0) := (((Off.up (by simp)).up' (by simp)).up' (by simp)).up' (by simp)
    obtain ⟨K, e, r, o⟩ := night_b (p := p) (M := M) (row0_ok ok) 9 0 5000 _ rfl (by omega) (by
      rw [up_row, up_row, up_row, up_row, ud_n (by decide), ud_n (by decide)]
      funext k
      unfold nightF upd
      rw [if_neg (show ¬ ((232 ≤ k ∧ k < 232 + 0) ∨ (244 ≤ k ∧ k < 244 + 0)) by omega)]
      by_cases c1 : k = 329
      · rw [if_pos c1, if_pos c1]
      by_cases c2 : k = 327
      · rw [if_neg c1, if_neg c1, if_pos c2, if_pos c2]
      by_cases c3 : k = 328
      · rw [if_neg c1, if_neg c1, if_neg c2, if_neg c2, if_pos c3, if_pos c3]
      · rw [if_neg c1, if_neg c1, if_neg c2, if_neg c2, if_neg c3, if_neg c3, if_neg c3]) o5
    have e' : g2_endNight_b2 p 5000 0 (upM (upM (upM (upM M p 328 (M p 328 + 1)) p 328 0) p 327 (upM (upM M p 328 (M p 328 + 1)) p 328 0 p 327 + 1)) p 329 0) = some K := e
    exact ⟨K, by rw [bs e'], r, o⟩
/-- the herds one behind the other -/
def sHerds (V : Nat → (Nat → Int32) → Int32) (d : Nat) : Nat → Nat → (Nat → Int32) → Int32 → (Nat → Int32) × Int32
  | 0, _, R, l => (R, l)
  | n + 1, h, R, l => if sOn R h = true then sHerds V d n (h + 1) (sMove V R h d).1 (l + (sMove V R h d).2) else sHerds V d n (h + 1) R l
def sSeenH (V : Nat → (Nat → Int32) → Int32) (d : Nat) : Nat → Nat → (Nat → Int32) → Int32
  | 0, _, _ => 0
  | n + 1, h, R => if sOn R h = true then sSeen R h 18 0 ||| sSeenH V d n (h + 1) (sMove V R h d).1 else sSeenH V d n (h + 1) R
def sPass (V : Nat → (Nat → Int32) → Int32) (R : Nat → Int32) (d : Nat) : (Nat → Int32) × Int32 := (sEnd (sHerds V d 6 0 R 0).1, (sHerds V d 6 0 R 0).2)
theorem sHerds_ok {V : Nat → (Nat → Int32) → Int32} (L : VB V) {d : Nat} : ∀ (n h : Nat) (R : Nat → Int32) (l : Int32), h + n = 6 → RowOk R → RowOk (sHerds V d n h R l).1
  | 0, _, _, _, _, ok => ok
  | n + 1, h, R, l, hn, ok => by
    unfold sHerds
    split
    · exact sHerds_ok L n (h + 1) _ _ (by omega) (sMove_ok L ok (by omega))
    · exact sHerds_ok L n (h + 1) _ _ (by omega) ok
theorem sPass_ok {V : Nat → (Nat → Int32) → Int32} (L : VB V) {d : Nat} {R : Nat → Int32} (ok : RowOk R) : RowOk (sPass V R d).1 := sEnd_ok (sHerds_ok L 6 0 R 0 rfl ok)
theorem pass_b {p d : Nat} (hp : p < 10) (hd : d < 10) {B : xMem} {V : Nat → (Nat → Int32) → Int32} (L : LawV B V) {M : xMem} : ∀ (n h f : Nat) (x : Int32) (N : xMem), h + n = 6 → n < f → lawC B N → RowOk (N p) → Off (SS p) M N →
    ∃ K, g0_passHour_b5 p f (nI d) x (nI h) N = some ((sHerds V d n h (N p) x).2, K) ∧ K p = sEnd (sHerds V d n h (N p) x).1 ∧ Off (SS p) M K ∧ K 102 0 = N 102 0 ||| sSeenH V d n h (N p)
  | 0, h, f + 1, x, N, hk, hn, lb, ok, o => by
    obtain rfl : h = 6 := by omega
    unfold g0_passHour_b5
    rw [if_pos (by decide)]
    obtain ⟨K, e, r, oK⟩ := endHour_eq ok
    rw [bs e]
    exact ⟨K, rfl, r, o.tr (ss_p oK), by rw [oK 102 (by simp; omega), sSeenH, Int32.or_zero]⟩
  | n + 1, h, f + 1, x, N, hk, hn, lb, ok, o => by
    unfold g0_passHour_b5 g0_passHour_b35 sHerds sSeenH
    simp (disch := omega) only [↓reduceIte, i_ll, nle_f]
    rw [bs (on_in (by omega))]
    simp only [b2i_0, nI_1]
    by_cases c : sOn (N p) h = true
    · rw [if_neg (fun q => q c), if_pos c, if_pos c]
      obtain ⟨K, e, r, oK, s⟩ := move_eq (M := N) hp (show h < 6 by omega) hd L lb ok c
      rw [bs e]
      obtain ⟨K2, e2, r2, o2, s2⟩ := pass_b hp hd L (M := M) n (h + 1) f (x + (sMove V (N p) h d).2) K (by omega) (by omega) (lb.tr (lc hp oK)) (by rw [r]; exact sMove_ok L.vb ok (by omega)) (o.tr oK)
      rw [r] at e2 r2 s2
      exact ⟨K2, e2, r2, o2, by rw [s2, s, Int32.or_assoc]⟩
    · rw [if_pos c, if_neg c, if_neg c]
      exact pass_b hp hd L n (h + 1) f x N (by omega) (by omega) lb ok o
theorem pass_eq {p d : Nat} (hp : p < 10) (hd : d < 10) {B : xMem} {V : Nat → (Nat → Int32) → Int32} (L : LawV B V) {M : xMem} (lb : lawC B M) (ok : RowOk (M p)) :
    ∃ K, g0_passHour p (nI d) M = some ((sPass V (M p) d).2, K) ∧ K p = (sPass V (M p) d).1 ∧ Off (SS p) M K ∧ K 102 0 = M 102 0 ||| sSeenH V d 6 0 (M p) :=
  pass_b hp hd L 6 0 5000 0 M rfl (by omega) lb ok Off.rf
theorem pass9_b {d : Nat} (hd : d < 10) {B : xMem} {V : Nat → (Nat → Int32) → Int32} (L : LawV B V) {M : xMem} : ∀ (n h f : Nat) (x : Int32) (N : xMem), h + n = 6 → n < f → lawM B N → RowOk (N 7) → Off TT M N →
    ∃ K, g9_passes_b4 f (nI d) x (nI h) N = some ((sHerds V d n h (N 7) x).2, K) ∧ K 7 = sEnd (sHerds V d n h (N 7) x).1 ∧ Off TT M K
  | 0, h, f + 1, x, N, hk, hn, lb, ok, o => by
    obtain rfl : h = 6 := by omega
    unfold g9_passes_b4 sHerds sEnd
    rw [if_pos (by decide)]
    simp only [mset_eq, up_s]
    have o1 : Off TT M (upM N 7 328 (N 7 328 + 1)) := o.up' (by decide)
    by_cases c : N 7 328 + 1 < 8
    · have c' : ¬ (8 : Int32) ≤ N 7 328 + 1 := fun q => by
        have a1 := (fa_lt' _ _).mp c
        have a2 := (fa_le' _ _).mp q
        omega
      rw [if_neg c', if_pos c]
      exact ⟨_, rfl, up_row, o1⟩
    · have c' : (8 : Int32) ≤ N 7 328 + 1 := (fa_le' _ _).mpr (by
        have : ¬ (N 7 328 + 1).toInt < (8 : Int32).toInt := fun q => c ((fa_lt' _ _).mpr q)
        omega)
      rw [if_pos c', if_neg c]
      have ok0 : RowOk (upd (N 7) 328 0) := ok.upd (ok_le (v := 0) (m := 7) rfl (by omega))
      obtain ⟨K, e, r, oK⟩ := night9_b (R := upd (N 7) 328 0) (M := upM N 7 328 (N 7 328 + 1)) (x := x) ok0 9 0 5000 (upM N 7 328 0) rfl (by omega) (by
        rw [up_row]
        funext k
        unfold nightF
        rw [if_neg (by omega)]) (fun b hb => by
          rw [up_b (by simp at hb; omega), up_b (by simp at hb; omega)])
      have key : ∀ (f : Nat) (k : Nat) (A B : xMem), (∀ b, b ≠ 7 → A b = B b) → (∀ j, j ≠ 328 → A 7 j = B 7 j) → k ≤ 9 → 9 - k < f → g9_passes_b68 f x (nI k) A = g9_passes_b68 f x (nI k) B := by
        intro f
        induction f with
        | zero => intro k A B _ _ _ h; omega
        | succ f ih =>
          intro k A B h1 h2 hk hf
          unfold g9_passes_b68
          have f1 : ∀ {K : xMem} {x : Int32}, g9_held x 99 K = some (clv 0 (nI 99) x, K) := held9_eq (m := 99) (by omega)
          by_cases c9 : k = 9
          · subst c9
            rw [if_pos (by decide), if_pos (by decide)]
            simp only [mset_eq]
            congr 2
            funext b j
            unfold upM
            by_cases b7 : b = 7
            · subst b7
              by_cases j1 : j = 327
              · subst j1; simp [h2 327 (by decide)]
              by_cases j2 : j = 329
              · subst j2; simp
              by_cases j3 : j = 328
              · subst j3; simp
              · simp [j1, j2, j3, h2 j j3]
            · simp [b7, h1 b b7]
          · simp (disch := omega) only [↓reduceIte, mset_eq, i_lt0, i_cl, i_ll, i_lr, i_tl, i_tr, i_el, i_er, i_le, i_lt, i_eq, i_al, i_ar, i_sr, i_sl, i_ml, i_mr, i_dr, i_cll, nI_add, pk_mul, i_sub, nle_f, nle_t, nlt_f, nlt_t, neq_f, if_true, if_false, ite_true, ite_false, false_or, or_false, true_or, or_true, or_self, not_false_eq_true, not_true_eq_false, Option.bind_some, Nat.zero_add, Nat.add_zero, f1]
            rw [h2 (232 + k) (by omega), up_i (by omega), up_i (by omega), h2 (244 + k) (by omega)]
            refine ih (k + 1) _ _ (fun b hb => ?_) (fun j hj => ?_) (by omega) (by omega)
            · rw [up_b hb, up_b hb, up_b hb, up_b hb, h1 b hb]
            · unfold upM
              rw [h2 j hj]
      have e2 : g9_passes_b68 5000 x 0 (upM N 7 328 (N 7 328 + 1)) = some (x, K) := by
        rw [← e]
        exact key 5000 0 _ _ (fun b hb => by rw [up_b hb, up_b hb]) (fun j hj => by rw [up_i hj, up_i hj]) (by omega) (by omega)
      refine ⟨K, e2, ?_, o1.tr (tt_7 oK)⟩
      rw [r]
      funext k
      unfold nightF upd sDec
      by_cases c1 : k = 327
      · subst c1; simp
      by_cases c2 : k = 329
      · subst c2; simp
      by_cases c3 : k = 328
      · subst c3; simp
      · simp [c1, c2, c3]
  | n + 1, h, f + 1, x, N, hk, hn, lb, ok, o => by
    unfold g9_passes_b4 g9_passes_b27 sHerds
    simp (disch := omega) only [↓reduceIte, i_ll, nle_f]
    rw [bs (on9_in ok (by omega))]
    simp only [b2i_0, nI_1]
    by_cases c : sOn (N 7) h = true
    · rw [if_neg (fun q => q c), if_pos c]
      obtain ⟨K, e, r, oK⟩ := move9_eq (M := N) (show h < 6 by omega) hd L lb ok c
      rw [bs e]
      obtain ⟨K2, e2, r2, o2⟩ := pass9_b hd L (M := M) n (h + 1) f (x + (sMove V (N 7) h d).2) K (by omega) (by omega) (lb.tr (lm oK)) (by rw [r]; exact sMove_ok L.vb ok (by omega)) (o.tr oK)
      rw [r] at e2 r2
      exact ⟨K2, e2, r2, o2⟩
    · rw [if_pos c, if_neg c]
      exact pass9_b hd L n (h + 1) f x N (by omega) (by omega) lb ok o
theorem pass9_eq {d : Nat} (hd : d < 10) {B : xMem} {V : Nat → (Nat → Int32) → Int32} (L : LawV B V) {M : xMem} (lb : lawM B M) (ok : RowOk (M 7)) :
    ∃ K, g9_passes (nI d) M = some ((sPass V (M 7) d).2, K) ∧ K 7 = (sPass V (M 7) d).1 ∧ Off TT M K :=
  pass9_b hd L 6 0 5000 0 M rfl (by omega) lb ok Off.rf
