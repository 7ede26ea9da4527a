/-! PURE: the goal of a herd, the class's -/
def sThere (R : Nat → Int32) (l : Nat) : Bool := if 12 ≤ l then sOn R (l - 12) else decide (R (196 + l) ≠ 0)
theorem there_in {p l : Nat} {M : xMem} (hl : l < 18) : g6_isThere p (nI l) M = some (b2i (sThere (M p) l), M) := by
  unfold g6_isThere sThere
  by_cases c : 12 ≤ l
  · simp (disch := omega) only [↓reduceIte, i_ll, nle_t, i_sr]
    rw [bs (on_in (show l - 12 < 6 by omega))]
    cases sOn (M p) (l - 12) <;> rfl
  · simp (disch := omega) only [↓reduceIte, i_ll, nle_f]
    rw [bs (stands_in (show l < 12 by omega))]
    by_cases c2 : M p (196 + l) = 0 <;> simp [c2, b2i]
theorem lit_there {R : Nat → Int32} {l : Nat} (h : sLit R l = true) : sThere R l = true := by
  unfold sLit at h
  unfold sThere
  by_cases c : 12 ≤ l
  · rw [if_pos c] at h ⊢
    simp only [Bool.and_eq_true] at h
    exact h.1
  · rw [if_neg c] at h ⊢
    simp only [Bool.and_eq_true] at h
    exact h.1
theorem tellLamp_eq {p h l : Nat} {N : xMem} (hp : p < 10) (hh : h < 6) (hl : l < 18) : g0_tellLamp p (nI h) (nI l) N = some (upL N 101 [(11, nI l), (12, kdL (N p) l), (13, sWay (N p (274 + h)) (sqL (N p) l))]) := by
  unfold g0_tellLamp
  have r1 : ∀ {K : xMem} {i : Nat} {x : Int32}, (upM K 101 i x) p = K p := up_b (by omega)
  simp (disch := omega) only [↓reduceIte, mset_eq, i_lt0, i_cl, nle_f, or_self]
  rw [bs (sqOf_in hl), bs (kdOf_in hl)]
  simp only [r1]
  rfl
/-- the lamps of which it mattered whether they are lit -/
def sSeenB (R : Nat → Int32) (h k : Nat) : Int32 := if k ≠ 12 + h ∧ sThere R k = true ∧ sWay (R (274 + h)) (sqL R k) ≤ sReach R then (1 : Int32) <<< (nI k &&& 31) else 0
def sSeen (R : Nat → Int32) (h : Nat) : Nat → Nat → Int32
  | 0, _ => 0
  | d + 1, k => sSeenB R h k ||| sSeen R h d (k + 1)
theorem goal_b {p : Nat} (hp : p < 10) {R : Nat → Int32} (ok : RowOk R) {M : xMem} {h q : Nat} (hh : h < 6) (hq : q < 196) (eq : R (274 + h) = nI q) {v : (Nat → Int32) → Int32} (vc : Cong15 v)
    (hA : ∀ N, lawC M N → ∃ N', g3_ask (nI 0) N = some (v (N 101), N') ∧ Off [27, 28, 29] N N') :
    ∀ (d k n : Nat) (g best : Int32) (N : xMem), k + d = 18 → d < n → 0 ≤ best.toInt → N p = R → Off [101, 102, 27, 28, 29] M N → (∀ i, i < 15 → ¬ (11 ≤ i ∧ i ≤ 13) → N 101 i = lHerd R h 0 i) →
      ∃ K, g0_goalOf_b30 p n (nI h) (sReach R) g best (nI k) N = some (sGoal v R h d k g best, K) ∧ Off [101, 102, 27, 28, 29] M K ∧ K 102 0 = N 102 0 ||| sSeen R h d k
  | 0, k, n + 1, g, best, N, hk, hn, hb, h7, o, hz => by
    obtain rfl : k = 18 := by omega
    refine ⟨N, ?_, o, ?_⟩
    · rw [g0_goalOf_b30]
      simp (disch := omega) only [↓reduceIte, mset_eq, i_lt0, i_cl, i_ll, i_lr, i_tl, i_tr, i_el, i_er, i_le, i_lt, i_eq, i_al, i_ar, i_sr, i_sl, i_ml, i_mr, i_dr, i_cll, nI_add, pk_mul, i_sub, nle_f, nle_t, nlt_f, nlt_t, neq_f, if_true, if_false, ite_true, ite_false, false_or, or_false, true_or, or_true, or_self, not_false_eq_true, not_true_eq_false, Option.bind_some, Nat.zero_add, Nat.add_zero]
      rfl
    · exact (Int32.or_zero).symm
  | d + 1, k, n + 1, g, best, N, hk, hn, hb, h7, o, hz => by
    have ih := fun g b (K : xMem) (hb : 0 ≤ b.toInt) (a : K p = R) (c : Off [101, 102, 27, 28, 29] M K) z => goal_b hp ok hh hq eq vc hA d (k + 1) n g b K (by omega) (by omega) hb a c z
    rw [g0_goalOf_b30]
    unfold sGoal sDraws g0_goalOf_b135
    simp (disch := omega) only [↓reduceIte, i_ll, nle_f, i_al, i_eq, nI_1]
    by_cases c1 : k = 12 + h
    · rw [if_pos c1]
      obtain ⟨K, e, oK, s⟩ := ih g best N hb h7 o hz
      exact ⟨K, by simpa [c1] using e, oK, by rw [s, sSeen, sSeenB, if_neg (fun q => q.1 c1), Int32.zero_or]⟩
    rw [if_neg c1, bs (there_in (by omega))]
    simp only [b2i_0, h7]
    by_cases c2 : sThere R k = true
    · rw [if_neg (fun x => x c2), bs (tellLamp_eq hp hh (by omega))]
      simp only [h7]
      have o1 := upL_off (b := 101) (S := [101, 102, 27, 28, 29]) (by decide) [(11, nI k), (12, kdL R k), (13, sWay (R (274 + h)) (sqL R k))] N o
      have z1 : ∀ i, i < 15 → (upL N 101 [(11, nI k), (12, kdL R k), (13, sWay (R (274 + h)) (sqL R k))]) 101 i = lPull R h k i := by
        intro i hi
        unfold lPull
        simp only [upL, upM, true_and]
        by_cases x : 11 ≤ i ∧ i ≤ 13
        · rcases (show i = 11 ∨ i = 12 ∨ i = 13 by omega) with rfl | rfl | rfl <;> simp
        · rw [hz i hi x]
      have s1 : (upL N 101 [(11, nI k), (12, kdL R k), (13, sWay (R (274 + h)) (sqL R k))]) 102 = N 102 := upL_b (by decide) _ _
      have p1 : (upL N 101 [(11, nI k), (12, kdL R k), (13, sWay (R (274 + h)) (sqL R k))]) p = R := (upL_b (by omega) _ _).trans h7
      have z2 : ∀ (K : xMem), K 101 = (upL N 101 [(11, nI k), (12, kdL R k), (13, sWay (R (274 + h)) (sqL R k))]) 101 → ∀ i, i < 15 → ¬ (11 ≤ i ∧ i ≤ 13) → K 101 i = lHerd R h 0 i := by
        intro K hK i hi x
        rw [hK, z1 i hi]
        unfold lPull
        rw [if_neg (by omega), if_neg (by omega), if_neg (by omega)]
      generalize upL N 101 [(11, nI k), (12, kdL R k), (13, sWay (R (274 + h)) (sqL R k))] = N1 at *
      have z13 : N1 101 13 = sWay (R (274 + h)) (sqL R k) := by rw [z1 13 (by decide)]; rfl
      rw [z13]
      by_cases c3 : sWay (R (274 + h)) (sqL R k) ≤ sReach R
      · rw [if_pos c3]
        simp only [mset_eq]
        generalize hN2 : upM N1 102 0 (N1 102 0 ||| (1 : Int32) <<< (nI k &&& 31)) = N2
        have p2 : N2 p = R := by rw [← hN2, up_b (by omega)]; exact p1
        have l2 : N2 101 = N1 101 := by rw [← hN2, up_b (by decide)]
        have s2 : N2 102 0 = N 102 0 ||| sSeenB R h k := by
          rw [← hN2, up_s, s1, sSeenB, if_pos ⟨c1, c2, c3⟩]
        have o2 : Off [101, 102, 27, 28, 29] M N2 := by rw [← hN2]; exact o1.up' (by decide)
        rw [bs (lit_in (by rw [p2]; exact ok) (by omega))]
        simp only [b2i_0, p2]
        unfold g0_goalOf_b118 g0_goalOf_b135
        simp only [nI_1]
        by_cases c4 : sLit R k = true
        · rw [if_neg (fun x => x c4)]
          obtain ⟨K, e, o'⟩ := hA N2 (lawC.off' o2 (by decide))
          have e' : g3_ask 0 N2 = some (v (N2 101), K) := e
          rw [bs e', l2, vc _ _ z1]
          have pk : K p = R := (o' p (by simp; omega)).trans p2
          have ok' := o2.tr (o'.mono (T := [101, 102, 27, 28, 29]) (by decide))
          have sk : K 102 0 = N 102 0 ||| sSeenB R h k := by rw [o' 102 (by decide)]; exact s2
          have zk := z2 K ((o' 101 (by decide)).trans l2)
          by_cases c5 : v (lPull R h k) ≤ best
          · have c6 : ¬ best < v (lPull R h k) := fun x => by
              have := (fa_lt' _ _).mp x
              have := (fa_le' _ _).mp c5
              omega
            obtain ⟨K', e', oK, s⟩ := ih g best K hb pk ok' zk
            exact ⟨K', by simpa [c1, c3, c4, c5, c6] using e', oK, by rw [s, sk, Int32.or_assoc]; rfl⟩
          · have c6 : best < v (lPull R h k) := (fa_lt' _ _).mpr (by
              have : ¬ (v (lPull R h k)).toInt ≤ best.toInt := fun x => c5 ((fa_le' _ _).mpr x)
              omega)
            have hb' := (fa_lt' _ _).mp c6
            obtain ⟨K', e', oK, s⟩ := ih (nI k) (v (lPull R h k)) K (by omega) pk ok' zk
            exact ⟨K', by simpa [c1, c3, c4, c5, c6] using e', oK, by rw [s, sk, Int32.or_assoc]; rfl⟩
        · rw [if_pos c4, if_pos (show (0 : Int32) ≤ best from (fa_le' _ _).mpr hb)]
          obtain ⟨K', e', oK, s⟩ := ih g best N2 hb p2 o2 (z2 N2 l2)
          exact ⟨K', by simpa [c4] using e', oK, by rw [s, s2, Int32.or_assoc]; rfl⟩
      · rw [if_neg c3]
        obtain ⟨K', e', oK, s⟩ := ih g best N1 hb p1 o1 (z2 N1 rfl)
        exact ⟨K', by simpa [c3] using e', oK, by rw [s, s1, sSeen, sSeenB, if_neg (fun q => c3 q.2.2), Int32.zero_or]⟩
    · rw [if_pos c2]
      have c4 : ¬ sLit R k = true := fun x => c2 (lit_there x)
      obtain ⟨K', e', oK, s⟩ := ih g best N hb h7 o hz
      exact ⟨K', by simpa [c4] using e', oK, by rw [s, sSeen, sSeenB, if_neg (fun q => c2 q.2.1), Int32.zero_or]⟩
