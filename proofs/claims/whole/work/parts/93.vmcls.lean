/-! PURE: the class runs it -/
theorem xMax_nI {a b : Nat} (ha : a < 2147483648) (hb : b < 2147483648) (h : a ≤ b) : xMax (nI a) (nI b) = nI b := by
  unfold xMax
  by_cases q : nI a < nI b
  · rw [if_pos q]
  · rw [if_neg q]
    have : ¬ a < b := fun r => q ((nI_ltI ha hb).mpr r)
    rw [show a = b by omega]
theorem nI_add_m1 (k : Nat) : nI (k + 1) + (-1) = nI k := by
  rw [← nI_pred k, Int32.sub_eq_add_neg]
def CodeC (P Q : Nat → Int32) (code : Nat → Ins) (sh c e : Nat) : Prop := (∀ x, c ≤ x → x < e → P (x + sh) = nI (cop (code x).1) ∧ Q (x + sh) = nI (carg sh (code x))) ∧ P (e + sh) = 0
def ClSt (M : xMem) (h : Nat) (S : List Int32) (sz : Nat) : Prop := (h ≤ 64 ∧ S.length = h ∧ sz = S.length ∧ StL (M 27) S) ∨ (h = 100 ∧ sz = 0 ∧ ∃ v, S = [v] ∧ (v = 0 ∨ v = 1) ∧ M 28 0 = v)
def ClRes (b : Nat) (r : Int32) (N : xMem) (o : Option Int32) : Prop := match o with
  | none => r = 0
  | some v => r = 1 ∧ (b = 1 → N 29 0 = v) ∧ (b = 100 → N 28 0 = v ∧ (v = 0 ∨ v = 1))
theorem cls_end {b pos z f : Nat} (hb2 : b = 1 ∨ b = 100) {M : xMem} {S : List Int32} {sz : Nat} (hp : pos < z) (hz : z ≤ 240) (h22 : M 22 0 = nI z) (h20 : M 20 pos = 0) (hs : ClSt M b S sz) : ∃ r N, g3_run_b19 (f + 1) (nI sz) (nI pos) M = some (r, N) ∧ Off [27, 28, 29] M N ∧ ClRes b r N (some (S.headD 0)) := by
  rw [g3_run_b19, h22, if_neg (fun q => by have := (nI_leI (by omega) (by omega)).mp q; omega), if_neg (show ¬ (240 : Int32) ≤ nI pos from fun q => by have := (nI_leI (a := 240) (by omega) (by omega)).mp q; omega)]
  have hcl : (nI pos).toNatClampNeg = pos := i_cl (by omega)
  rw [hcl, if_neg (show ¬ (nI pos < 0 ∨ 240 ≤ pos) from fun q => q.elim (nI_pos (by omega)) (by omega)), if_pos h20]
  unfold g3_run_b81 g3_run_b82
  rcases hs with ⟨s1, s2, s3, s4⟩ | ⟨s1, s2, v, s3, s4, s5⟩
  · have hb : b = 1 := by omega
    subst hb
    obtain ⟨v, rfl⟩ := List.length_eq_one_iff.mp s2
    have h1 : sz = 1 := s3
    subst h1
    have hv : M 27 0 = v := s4.1
    rw [if_neg (show ¬ nI 1 ≤ 0 by decide), if_neg (show ¬ (64 : Int32) < nI 1 by decide), show nI 1 - 1 = nI 0 from nI_pred 0]
    simp (disch := omega) only [↓reduceIte, i_lt0, i_cl, nle_f, or_self, mset_eq]
    exact ⟨1, _, rfl, Off.up (by decide), rfl, fun _ => by rw [up_s, hv]; rfl, fun q => absurd q (by decide)⟩
  · subst s1 s2 s3
    rw [if_pos (show nI 0 ≤ 0 by decide), mset_eq]
    exact ⟨1, _, rfl, Off.up (by decide), rfl, fun q => absurd q (by decide), fun _ => ⟨by rw [up_b (by decide), s5]; rfl, s4⟩⟩
theorem cls_run {code : Nat → Ins} {m : Nat → Nat} {c e b sh z : Nat} (hty : TyC m code c e) (he : e + sh < z) (hz : z ≤ 240) (hb : m e = b) (hb2 : b = 1 ∨ b = 100) : ∀ (k x f : Nat) (S : List Int32) (sz : Nat) (M : xMem), e ≤ x + k → k < f → c ≤ x → x ≤ e → CodeC (M 20) (M 21) code sh c e → M 22 0 = nI z → ClSt M (m x) S sz →
    ∃ r N, g3_run_b19 f (nI sz) (nI (x + sh)) M = some (r, N) ∧ Off [27, 28, 29] M N ∧ ClRes b r N (ev (M 101) code e k x S) := by
  intro k
  induction k with
  | zero =>
    intro x f S sz M hk hf hc hx hcd h22 hs
    obtain ⟨f, rfl⟩ : ∃ f', f = f' + 1 := ⟨f - 1, by omega⟩
    have hxe : x = e := by omega
    subst hxe
    rw [hb] at hs
    exact cls_end hb2 (by omega) hz h22 hcd.2 hs
  | succ k ih =>
    intro x f S sz M hk hf hc hx hcd h22 hs
    obtain ⟨f, rfl⟩ : ∃ f', f = f' + 1 := ⟨f - 1, by omega⟩
    by_cases c0 : e ≤ x
    · have hxe : x = e := by omega
      subst hxe
      unfold ev
      rw [if_pos (Nat.le_refl _)]
      rw [hb] at hs
      exact cls_end hb2 (by omega) hz h22 hcd.2 hs
    have hok := hty x hc (by omega)
    obtain ⟨h0, hop⟩ := hok
    have hP : M 20 (x + sh) = nI (cop (code x).1) := (hcd.1 x hc (by omega)).1
    have hQ : M 21 (x + sh) = nI (carg sh (code x)) := (hcd.1 x hc (by omega)).2
    have go : ∀ (y : Nat) (S' : List Int32) (sz' : Nat) (M' : xMem), x < y → y ≤ e → Off [27, 28, 29] M M' → ClSt M' (m y) S' sz' → ∃ r N, g3_run_b19 f (nI sz') (nI (y + sh)) M' = some (r, N) ∧ Off [27, 28, 29] M N ∧ ClRes b r N (ev (M 101) code e k y S') := by
      intro y S' sz' M' h1 h2 oo h3
      obtain ⟨r, N, e1, e2, e3⟩ := ih y f S' sz' M' (by omega) (by omega) (by omega) h2 (by rw [oo 20 (by decide), oo 21 (by decide)]; exact hcd) (by rw [oo 22 (by decide), h22]) h3
      rw [oo 101 (by decide)] at e3
      exact ⟨r, N, e1, oo.tr e2, e3⟩
    have nx : nI (x + sh) + 1 = nI (x + 1 + sh) := by rw [nI_1]; congr 1; omega
    unfold ev
    rw [if_neg c0, g3_run_b19, h22, if_neg (fun q => by have := (nI_leI (by omega) (by omega)).mp q; omega), if_neg (show ¬ (240 : Int32) ≤ nI (x + sh) from fun q => by have := (nI_leI (a := 240) (by omega) (by omega)).mp q; omega)]
    have hcl : (nI (x + sh)).toNatClampNeg = x + sh := i_cl (by omega)
    rw [hcl, if_neg (show ¬ (nI (x + sh) < 0 ∨ 240 ≤ x + sh) from fun q => q.elim (nI_pos (by omega)) (by omega)), hP, hQ]
    have push : ∀ v, m x < 64 → m (x + 1) = m x + 1 → (∃ r N, g3_run_b147 (g3_run_b19 f) (nI sz) (nI (x + sh)) (nI sz) v M = some (r, N) ∧ Off [27, 28, 29] M N ∧ ClRes b r N (ev (M 101) code e k (x + 1) (v :: S))) := by
      intro v q1 q2
      rcases hs with ⟨s1, s2, s3, s4⟩ | ⟨s1, _⟩
      · subst s3
        unfold g3_run_b147 g3_run_b423
        simp (disch := omega) only [↓reduceIte, i_lt0, i_cl, nle_f, or_self, mset_eq, nI_1 S.length, nx]
        exact go (x + 1) (v :: S) (S.length + 1) _ (by omega) (by omega) (Off.up (by decide)) (Or.inl ⟨by omega, by rw [q2, ← s2]; rfl, rfl, by rw [up_row]; exact StL_push s4⟩)
      · omega
    have set28 : ∀ (v : Int32) (S' : List Int32), (v = 0 ∨ v = 1) → m (x + 1) = 100 → S' = [v] → (∃ r N, g3_run_b423 (g3_run_b19 f) (nI 0) (nI (x + sh)) (upM M 28 0 v) = some (r, N) ∧ Off [27, 28, 29] M N ∧ ClRes b r N (ev (M 101) code e k (x + 1) S')) := by
      intro v S' q1 q2 q3
      unfold g3_run_b423
      rw [nx]
      exact go (x + 1) S' 0 _ (by omega) (by omega) (Off.up (by decide)) (Or.inr ⟨q2, rfl, v, q3, q1, up_s⟩)
    have bin : ∀ (v : Int32) (S' : List Int32), StL (M 27) S' → S'.length ≤ 62 → m (x + 1) = S'.length + 1 → (∃ r N, g3_run_b423 (g3_run_b19 f) (nI (S'.length + 1)) (nI (x + sh)) (upM M 27 S'.length v) = some (r, N) ∧ Off [27, 28, 29] M N ∧ ClRes b r N (ev (M 101) code e k (x + 1) (v :: S'))) := by
      intro v S' q1 q2 q3
      unfold g3_run_b423
      rw [nx]
      exact go (x + 1) (v :: S') (S'.length + 1) _ (by omega) (by omega) (Off.up (by decide)) (Or.inl ⟨by omega, by rw [q3]; rfl, rfl, by rw [up_row]; exact StL_push q1⟩)
    rcases hop with ⟨q1, q2, q3, q4⟩ | ⟨q1, q2, q3, q4, q5⟩ | ⟨q1, q2, q3, q4⟩ | ⟨q1, q2, q3⟩ | ⟨q1, q2, q3, q4, q5, q6⟩
    · have hsz : sz < 64 := by
        rcases hs with ⟨s1, s2, s3, s4⟩ | ⟨s1, _⟩ <;> omega
      have hcarg : carg sh (code x) = (code x).2 := if_neg (by omega)
      rw [hcarg]
      have b99 : ∀ y : Int32, g3_run_b99 (g3_run_b19 f) (nI sz) (nI (x + sh)) y (nI (code x).2) M = (if y = 1 then g3_run_b147 (g3_run_b19 f) (nI sz) (nI (x + sh)) (nI sz) (nI (code x).2) M else if nI (code x).2 < 0 then g3_run_b146 (g3_run_b19 f) (nI sz) (nI (x + sh)) (nI sz) M else if (15 : Int32) ≤ nI (code x).2 then g3_run_b146 (g3_run_b19 f) (nI sz) (nI (x + sh)) (nI sz) M else if nI (code x).2 < 0 ∨ 15 ≤ (nI (code x).2).toNatClampNeg then none else g3_run_b147 (g3_run_b19 f) (nI sz) (nI (x + sh)) (nI sz) (M 101 (nI (code x).2).toNatClampNeg) M) := by
        intro y
        unfold g3_run_b99
        rw [if_neg (nI_pos (by omega)), if_pos (show nI sz < 64 from (nI_ltI (b := 64) (by omega) (by omega)).mpr hsz)]
      by_cases c1 : (code x).1 = 0
      · rw [c1, if_neg (show ¬ nI (cop 0) = 0 by decide), if_pos (show nI (cop 0) = 1 by decide), if_pos rfl, b99, if_pos (show nI (cop 0) = 1 by decide)]
        exact push _ q2 q3
      · have c2 : (code x).1 = 1 := by omega
        have h15 := q4 c2
        rw [c2, if_neg (show ¬ nI (cop 1) = 0 by decide), if_neg (show ¬ nI (cop 1) = 1 by decide), if_pos (show nI (cop 1) = 2 by decide), if_neg (show ¬ (1 : Nat) = 0 by decide), if_pos rfl, b99, if_neg (show ¬ nI (cop 1) = 1 by decide), if_neg (nI_pos (by omega)), if_neg (show ¬ (15 : Int32) ≤ nI (code x).2 from fun q => by have := (nI_leI (a := 15) (by omega) (by omega)).mp q; omega)]
        simp (disch := omega) only [↓reduceIte, i_lt0, i_cl, nle_f, or_self]
        exact push _ q2 q3
    · rcases hs with ⟨s1, s2, s3, s4⟩ | ⟨s1, _⟩
      · subst s3
        rcases S with _ | ⟨bb, _ | ⟨a, S'⟩⟩
        · have : (0 : Nat) = m x := s2
          omega
        · have : (1 : Nat) = m x := s2
          omega
        have hl2 : S'.length + 2 = m x := s2
        have hb1 : M 27 (S'.length + 1) = bb := s4.1
        have ha1 : M 27 S'.length = a := s4.2.1
        have hlen : (bb :: a :: S').length = S'.length + 2 := rfl
        rw [hlen, if_neg (show ¬ (code x).1 = 0 by omega), if_neg (show ¬ (code x).1 = 1 by omega), if_pos (show (code x).1 ≤ 9 by omega)]
        dsimp only
        have e64 : nI (S'.length + 2) ≤ 64 := (nI_leI (b := 64) (by omega) (by omega)).mpr (by omega)
        have e2 : ¬ nI (S'.length + 2) < 2 := fun q => by have := (nI_ltI (b := 2) (by omega) (by omega)).mp q; omega
        have em1 : nI (S'.length + 2) + (-1) = nI (S'.length + 1) := nI_add_m1 _
        have em2 : nI (S'.length + 1) - 1 = nI S'.length := nI_pred _
        have em3 : nI (S'.length + 1) + (-1) = nI S'.length := nI_add_m1 _
        have hops : (code x).1 = 2 ∨ (code x).1 = 3 ∨ (code x).1 = 4 ∨ (code x).1 = 5 ∨ (code x).1 = 6 := by omega
        rcases hops with hh | hh | hh | hh | hh
        · rw [hh, if_neg (show ¬ nI (cop 2) = 0 by decide), if_neg (show ¬ nI (cop 2) = 1 by decide), if_neg (show ¬ nI (cop 2) = 2 by decide), if_neg (show ¬ nI (cop 2) = 3 by decide), if_neg (show ¬ nI (cop 2) = 4 by decide), if_neg (show ¬ nI (cop 2) = 5 by decide), if_neg e2, if_pos e64, em1, em2]
          rw [if_neg (show ¬ (((2 : Nat) = 5 ∨ (2 : Nat) = 6) ∧ bb = 0) from fun r => absurd r.1 (by decide))]
          simp (disch := omega) only [↓reduceIte, i_lt0, i_cl, nle_f, or_self, ha1, hb1]
          rw [if_pos (show nI (cop 2) < 11 by decide), if_pos (show nI (cop 2) < 9 by decide), if_pos (show nI (cop 2) = 6 by decide)]
          unfold g3_run_b422
          simp (disch := omega) only [↓reduceIte, i_lt0, i_cl, nle_f, or_self, mset_eq]
          exact bin (rk 2 a bb) S' s4.2.2 (by omega) (by omega)
        · rw [hh, if_neg (show ¬ nI (cop 3) = 0 by decide), if_neg (show ¬ nI (cop 3) = 1 by decide), if_neg (show ¬ nI (cop 3) = 2 by decide), if_neg (show ¬ nI (cop 3) = 3 by decide), if_neg (show ¬ nI (cop 3) = 4 by decide), if_neg (show ¬ nI (cop 3) = 5 by decide), if_neg e2, if_pos e64, em1, em2]
          rw [if_neg (show ¬ (((3 : Nat) = 5 ∨ (3 : Nat) = 6) ∧ bb = 0) from fun r => absurd r.1 (by decide))]
          simp (disch := omega) only [↓reduceIte, i_lt0, i_cl, nle_f, or_self, ha1, hb1]
          rw [if_pos (show nI (cop 3) < 11 by decide), if_pos (show nI (cop 3) < 9 by decide), if_neg (show ¬ nI (cop 3) = 6 by decide), if_pos (show nI (cop 3) = 7 by decide)]
          unfold g3_run_b422
          simp (disch := omega) only [↓reduceIte, i_lt0, i_cl, nle_f, or_self, mset_eq]
          exact bin (rk 3 a bb) S' s4.2.2 (by omega) (by omega)
        · rw [hh, if_neg (show ¬ nI (cop 4) = 0 by decide), if_neg (show ¬ nI (cop 4) = 1 by decide), if_neg (show ¬ nI (cop 4) = 2 by decide), if_neg (show ¬ nI (cop 4) = 3 by decide), if_neg (show ¬ nI (cop 4) = 4 by decide), if_neg (show ¬ nI (cop 4) = 5 by decide), if_neg e2, if_pos e64, em1, em2]
          rw [if_neg (show ¬ (((4 : Nat) = 5 ∨ (4 : Nat) = 6) ∧ bb = 0) from fun r => absurd r.1 (by decide))]
          simp (disch := omega) only [↓reduceIte, i_lt0, i_cl, nle_f, or_self, ha1, hb1]
          rw [if_pos (show nI (cop 4) < 11 by decide), if_pos (show nI (cop 4) < 9 by decide), if_neg (show ¬ nI (cop 4) = 6 by decide), if_neg (show ¬ nI (cop 4) = 7 by decide)]
          unfold g3_run_b422
          simp (disch := omega) only [↓reduceIte, i_lt0, i_cl, nle_f, or_self, mset_eq]
          exact bin (rk 4 a bb) S' s4.2.2 (by omega) (by omega)
        · rw [hh, if_neg (show ¬ nI (cop 5) = 0 by decide), if_neg (show ¬ nI (cop 5) = 1 by decide), if_neg (show ¬ nI (cop 5) = 2 by decide), if_neg (show ¬ nI (cop 5) = 3 by decide), if_neg (show ¬ nI (cop 5) = 4 by decide), if_neg (show ¬ nI (cop 5) = 5 by decide), if_neg e2, if_pos e64, em1, em2]
          by_cases cz : bb = 0
          · rw [if_pos (show ((5 : Nat) = 5 ∨ (5 : Nat) = 6) ∧ bb = 0 from ⟨by decide, cz⟩)]
            simp (disch := omega) only [↓reduceIte, i_lt0, i_cl, nle_f, or_self, ha1, hb1]
            rw [if_pos (show nI (cop 5) < 11 by decide), if_neg (show ¬ nI (cop 5) < 9 by decide), if_pos cz]
            exact ⟨0, M, rfl, Off.rf, rfl⟩
          rw [if_neg (show ¬ (((5 : Nat) = 5 ∨ (5 : Nat) = 6) ∧ bb = 0) from fun r => cz r.2)]
          simp (disch := omega) only [↓reduceIte, i_lt0, i_cl, nle_f, or_self, ha1, hb1]
          rw [if_pos (show nI (cop 5) < 11 by decide), if_neg (show ¬ nI (cop 5) < 9 by decide), if_neg cz, if_pos (show nI (cop 5) = 9 by decide), if_neg cz]
          unfold g3_run_b376
          simp (disch := omega) only [↓reduceIte, i_lt0, i_cl, nle_f, or_self, mset_eq]
          exact bin (rk 5 a bb) S' s4.2.2 (by omega) (by omega)
        · rw [hh, if_neg (show ¬ nI (cop 6) = 0 by decide), if_neg (show ¬ nI (cop 6) = 1 by decide), if_neg (show ¬ nI (cop 6) = 2 by decide), if_neg (show ¬ nI (cop 6) = 3 by decide), if_neg (show ¬ nI (cop 6) = 4 by decide), if_neg (show ¬ nI (cop 6) = 5 by decide), if_neg e2, if_pos e64, em1, em2]
          by_cases cz : bb = 0
          · rw [if_pos (show ((6 : Nat) = 5 ∨ (6 : Nat) = 6) ∧ bb = 0 from ⟨by decide, cz⟩)]
            simp (disch := omega) only [↓reduceIte, i_lt0, i_cl, nle_f, or_self, ha1, hb1]
            rw [if_pos (show nI (cop 6) < 11 by decide), if_neg (show ¬ nI (cop 6) < 9 by decide), if_pos cz]
            exact ⟨0, M, rfl, Off.rf, rfl⟩
          rw [if_neg (show ¬ (((6 : Nat) = 5 ∨ (6 : Nat) = 6) ∧ bb = 0) from fun r => cz r.2)]
          simp (disch := omega) only [↓reduceIte, i_lt0, i_cl, nle_f, or_self, ha1, hb1]
          rw [if_pos (show nI (cop 6) < 11 by decide), if_neg (show ¬ nI (cop 6) < 9 by decide), if_neg cz, if_neg (show ¬ nI (cop 6) = 9 by decide), if_neg cz]
          unfold g3_run_b376
          simp (disch := omega) only [↓reduceIte, i_lt0, i_cl, nle_f, or_self, mset_eq]
          exact bin (rk 6 a bb) S' s4.2.2 (by omega) (by omega)
      · omega
    · rcases hs with ⟨s1, s2, s3, s4⟩ | ⟨s1, _⟩
      · subst s3
        rcases S with _ | ⟨bb, _ | ⟨a, S'⟩⟩
        · have : (0 : Nat) = m x := s2
          omega
        · have : (1 : Nat) = m x := s2
          omega
        have hl2 : S'.length + 2 = m x := s2
        have hb1 : M 27 (S'.length + 1) = bb := s4.1
        have ha1 : M 27 S'.length = a := s4.2.1
        have hlen : (bb :: a :: S').length = S'.length + 2 := rfl
        rw [hlen, if_neg (show ¬ (code x).1 = 0 by omega), if_neg (show ¬ (code x).1 = 1 by omega), if_pos (show (code x).1 ≤ 9 by omega)]
        dsimp only
        have e64 : nI (S'.length + 2) ≤ 64 := (nI_leI (b := 64) (by omega) (by omega)).mpr (by omega)
        have e2 : ¬ nI (S'.length + 2) < 2 := fun q => by have := (nI_ltI (b := 2) (by omega) (by omega)).mp q; omega
        have em1 : nI (S'.length + 2) + (-1) = nI (S'.length + 1) := nI_add_m1 _
        have em2 : nI (S'.length + 1) - 1 = nI S'.length := nI_pred _
        have em3 : nI (S'.length + 1) + (-1) = nI S'.length := nI_add_m1 _
        have hS' : S' = [] := List.length_eq_zero_iff.mp (by omega)
        subst hS'
        have z0 : nI ([] : List Int32).length = nI 0 := rfl
        have hops : (code x).1 = 7 ∨ (code x).1 = 8 ∨ (code x).1 = 9 := by omega
        rcases hops with hh | hh | hh
        · rw [hh, if_neg (show ¬ nI (cop 7) = 0 by decide), if_neg (show ¬ nI (cop 7) = 1 by decide), if_neg (show ¬ nI (cop 7) = 2 by decide), if_neg (show ¬ nI (cop 7) = 3 by decide), if_neg (show ¬ nI (cop 7) = 4 by decide), if_neg (show ¬ nI (cop 7) = 5 by decide), if_neg e2, if_pos e64, em1, em2]
          rw [if_neg (show ¬ (((7 : Nat) = 5 ∨ (7 : Nat) = 6) ∧ bb = 0) from fun r => absurd r.1 (by decide))]
          simp (disch := omega) only [↓reduceIte, i_lt0, i_cl, nle_f, or_self, ha1, hb1]
          rw [if_neg (show ¬ nI (cop 7) < 11 by decide), if_pos (show nI (cop 7) = 11 by decide), em3, z0]
          unfold g3_run_b329
          by_cases cc : bb ≤ a
          · rw [if_pos cc, if_pos (by decide), mset_eq]
            exact set28 0 _ (by decide) q4 (by rw [show rk 7 a bb = 0 from if_pos cc])
          · rw [if_neg cc, if_pos (by decide), mset_eq]
            exact set28 1 _ (by decide) q4 (by rw [show rk 7 a bb = 1 from if_neg cc])
        · rw [hh, if_neg (show ¬ nI (cop 8) = 0 by decide), if_neg (show ¬ nI (cop 8) = 1 by decide), if_neg (show ¬ nI (cop 8) = 2 by decide), if_neg (show ¬ nI (cop 8) = 3 by decide), if_neg (show ¬ nI (cop 8) = 4 by decide), if_neg (show ¬ nI (cop 8) = 5 by decide), if_neg e2, if_pos e64, em1, em2]
          rw [if_neg (show ¬ (((8 : Nat) = 5 ∨ (8 : Nat) = 6) ∧ bb = 0) from fun r => absurd r.1 (by decide))]
          simp (disch := omega) only [↓reduceIte, i_lt0, i_cl, nle_f, or_self, ha1, hb1]
          rw [if_neg (show ¬ nI (cop 8) < 11 by decide), if_neg (show ¬ nI (cop 8) = 11 by decide), if_pos (show nI (cop 8) = 12 by decide), em3, z0]
          unfold g3_run_b329
          by_cases cc : a ≤ bb
          · rw [if_pos cc, if_pos (by decide), mset_eq]
            exact set28 0 _ (by decide) q4 (by rw [show rk 8 a bb = 0 from if_pos cc])
          · rw [if_neg cc, if_pos (by decide), mset_eq]
            exact set28 1 _ (by decide) q4 (by rw [show rk 8 a bb = 1 from if_neg cc])
        · rw [hh, if_neg (show ¬ nI (cop 9) = 0 by decide), if_neg (show ¬ nI (cop 9) = 1 by decide), if_neg (show ¬ nI (cop 9) = 2 by decide), if_neg (show ¬ nI (cop 9) = 3 by decide), if_neg (show ¬ nI (cop 9) = 4 by decide), if_neg (show ¬ nI (cop 9) = 5 by decide), if_neg e2, if_pos e64, em1, em2]
          rw [if_neg (show ¬ (((9 : Nat) = 5 ∨ (9 : Nat) = 6) ∧ bb = 0) from fun r => absurd r.1 (by decide))]
          simp (disch := omega) only [↓reduceIte, i_lt0, i_cl, nle_f, or_self, ha1, hb1]
          rw [if_neg (show ¬ nI (cop 9) < 11 by decide), if_neg (show ¬ nI (cop 9) = 11 by decide), if_neg (show ¬ nI (cop 9) = 12 by decide), em3, z0]
          unfold g3_run_b329
          by_cases cc : a = bb
          · rw [if_pos cc, if_pos (by decide), mset_eq]
            exact set28 1 _ (by decide) q4 (by rw [show rk 9 a bb = 1 from if_pos cc])
          · rw [if_neg cc, if_pos (by decide), mset_eq]
            exact set28 0 _ (by decide) q4 (by rw [show rk 9 a bb = 0 from if_neg cc])
      · omega
    · rcases hs with ⟨s1, _⟩ | ⟨s1, s2, v, s3, s4, s5⟩
      · omega
      subst s2 s3
      rw [q1, if_neg (show ¬ nI (cop 10) = 0 by decide), if_neg (show ¬ nI (cop 10) = 1 by decide), if_neg (show ¬ nI (cop 10) = 2 by decide), if_pos (show nI (cop 10) = 3 by decide), s5, if_neg (show ¬ (10 : Nat) = 0 by decide), if_neg (show ¬ (10 : Nat) = 1 by decide), if_neg (show ¬ (10 : Nat) ≤ 9 by decide), if_pos rfl]
      unfold g3_run_b173
      dsimp only
      rcases s4 with r | r
      · rw [if_pos r, if_pos (by decide), mset_eq]
        exact set28 1 _ (by decide) q3 (by rw [r]; rfl)
      · rw [if_neg (by rw [r]; decide), if_pos (by decide), mset_eq]
        exact set28 0 _ (by decide) q3 (by rw [r]; rfl)
    · rcases hs with ⟨s1, _⟩ | ⟨s1, s2, v, s3, s4, s5⟩
      · omega
      subst s2 s3
      have hcarg : carg sh (code x) = (code x).2 + sh := if_pos (by omega)
      rw [hcarg, if_neg (show ¬ (code x).1 = 0 by omega), if_neg (show ¬ (code x).1 = 1 by omega), if_neg (show ¬ (code x).1 ≤ 9 by omega), if_neg (show ¬ (code x).1 = 10 by omega)]
      dsimp only
      have b206 : ∀ s1 : Int32, ∃ r N, g3_run_b206 (g3_run_b19 f) (nI 0) (nI (x + sh)) (nI ((code x).2 + sh)) v s1 M = some (r, N) ∧ Off [27, 28, 29] M N ∧ ClRes b r N (if v = s1 then ev (M 101) code e k (code x).2 [v] else ev (M 101) code e k (x + 1) []) := by
        intro s1
        unfold g3_run_b206 g3_run_b223 g3_run_b423
        by_cases cv : v = s1
        · rw [if_pos cv, if_pos cv]
          have hx6 : nI ((code x).2 + sh) - 1 = nI ((code x).2 + sh - 1) := by
            rw [show (code x).2 + sh = ((code x).2 + sh - 1) + 1 by omega]
            exact nI_pred _
          rw [hx6, xMax_nI (by omega) (by omega) (by omega), nI_1, show (code x).2 + sh - 1 + 1 = (code x).2 + sh by omega]
          exact go (code x).2 [v] 0 M q4 q5 Off.rf (Or.inr ⟨q6, rfl, v, rfl, s4, s5⟩)
        · rw [if_neg cv, if_neg cv, nx]
          exact go (x + 1) [] 0 M (by omega) (by omega) Off.rf (Or.inl ⟨by omega, by rw [q3]; rfl, rfl, trivial⟩)
      rcases q1 with r | r
      · rw [r, if_neg (show ¬ nI (cop 11) = 0 by decide), if_neg (show ¬ nI (cop 11) = 1 by decide), if_neg (show ¬ nI (cop 11) = 2 by decide), if_neg (show ¬ nI (cop 11) = 3 by decide), if_neg (show ¬ nI (cop 11) = 4 by decide), if_pos (show nI (cop 11) = 5 by decide)]
        unfold g3_run_b191
        rw [if_neg (show ¬ nI (cop 11) = 4 by decide), s5, if_neg (show ¬ (11 : Nat) = 12 by decide)]
        exact b206 0
      · rw [r, if_neg (show ¬ nI (cop 12) = 0 by decide), if_neg (show ¬ nI (cop 12) = 1 by decide), if_neg (show ¬ nI (cop 12) = 2 by decide), if_neg (show ¬ nI (cop 12) = 3 by decide), if_pos (show nI (cop 12) = 4 by decide)]
        unfold g3_run_b191
        rw [if_pos (show nI (cop 12) = 4 by decide), s5, if_pos rfl]
        exact b206 1
