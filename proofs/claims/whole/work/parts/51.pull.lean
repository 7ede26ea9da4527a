/-! PURE: pull -/
def lPull (R : Nat → Int32) (h l : Nat) (i : Nat) : Int32 := if i = 13 then sWay (R (274 + h)) (sqL R l) else if i = 12 then kdL R l else if i = 11 then nI l else lHerd R h 0 i
theorem sqL_le {R : Nat → Int32} (ok : RowOk R) {l : Nat} (hl : l < 18) : ∃ j, j ≤ 196 ∧ sqL R l = nI j := by
  unfold sqL
  by_cases c : 12 ≤ l
  · rw [if_pos c]; exact ok.sq (by omega)
  · rw [if_neg c]
    obtain ⟨j, hj, e⟩ := ok.lampSq (show l < 12 by omega)
    exact ⟨j, by omega, e⟩
theorem lPull_of {K : xMem} {b : Nat} {R : Nat → Int32} {h l : Nat} (hz : ∀ i, i < 15 → K b i = lHerd R h 0 i) : ∀ i, i < 15 →
    (upL K b [(11, nI l), (12, kdL R l), (13, sWay (R (274 + h)) (sqL R l))]) b i = lPull R h l i := by
  intro i hi
  unfold lPull
  simp only [upL, upM, true_and]
  rw [hz i hi]
theorem pull_eq {p h l q : Nat} {M : xMem} (hp : p < 10) (hh : h < 6) (hl : l < 18) (hq : q < 196) (eq : M p (274 + h) = nI q) {v : (Nat → Int32) → Int32} (vc : Cong15 v)
    (hA : ∀ N, lawC M N → ∃ N', g3_ask (nI 0) N = some (v (N 101), N') ∧ Off [27, 28, 29] N N') :
    ∃ K, g0_pullOf p (nI h) (nI l) M = some (v (lPull (M p) h l), K) ∧ Off [101, 27, 28, 29] M K := by
  unfold g0_pullOf
  obtain ⟨K, e, o, hz⟩ := tellHerd_eq (r := 0) hp hh hq eq
  have kp : K p = M p := o p (by simp; omega)
  rw [bs e]
  have e2 : g0_tellLamp p (nI h) (nI l) K = some (upL K 101 [(11, nI l), (12, kdL (M p) l), (13, sWay (M p (274 + h)) (sqL (M p) l))]) := by
    unfold g0_tellLamp
    have r1 : ∀ {N : xMem} {i : Nat} {x : Int32}, (upM N 101 i x) p = N p := up_b (by omega)
    simp (disch := omega) only [↓reduceIte, mset_eq, i_lt0, i_cl, nle_f, or_self]
    rw [bs (sqOf_in hl), bs (kdOf_in hl)]
    simp only [r1, kp]
    rfl
  rw [bs e2]
  have o2 := upL_off (b := 101) (S := [101]) (by decide) [(11, nI l), (12, kdL (M p) l), (13, sWay (M p (274 + h)) (sqL (M p) l))] K o
  obtain ⟨N', e3, o3⟩ := hA _ (lawC.off' o2 (by decide))
  refine ⟨N', ?_, (o2.mono (by decide)).tr (o3.mono (by decide))⟩
  show Option.bind (g3_ask (nI 0) _) _ = _
  rw [bs e3, vc _ _ (lPull_of hz)]
theorem pull9_eq {h l q : Nat} {M : xMem} (ok : RowOk (M 7)) (hh : h < 6) (hl : l < 18) (hq : q < 196) (eq : M 7 (274 + h) = nI q) {v : (Nat → Int32) → Int32} (vc : Cong15 v)
    (hB : ∀ N, lawM M N → ∃ N', g9_byLaw (lawCh 0) ((xTab 0).getD 0 0) ((xTab 1).getD 0 0) N = some (v (N 186), N') ∧ Off [185] N N') :
    ∃ K, g9_pulls (nI h) (nI l) M = some (v (lPull (M 7) h l), K) ∧ Off [186, 185] M K := by
  unfold g9_pulls
  obtain ⟨K, e, o, hz⟩ := feelsHerd_eq (r := 0) hh hq eq
  have kp : K 7 = M 7 := o 7 (by decide)
  obtain ⟨s, hs, es⟩ := sqL_le ok hl
  rw [bs e]
  have r1 : ∀ {N : xMem} {i : Nat} {x : Int32}, (upM N 186 i x) 7 = N 7 := up_b (by decide)
  have o2 := upL_off (b := 186) (S := [186]) (by decide) [(11, nI l), (12, kdL (M 7) l), (13, sWay (M 7 (274 + h)) (sqL (M 7) l))] K o
  obtain ⟨N', e3, o3⟩ := hB _ (lawM.off' o2 (by decide))
  refine ⟨N', ?_, (o2.mono (by decide)).tr (o3.mono (by decide))⟩
  rw [vc _ _ (lPull_of hz)] at e3
  simp only [mset_eq]
  rw [bs (kind9 hl)]
  simp (disch := omega) only [↓reduceIte, i_lt0, i_cl, i_al, nle_f, or_self]
  rw [bs (lampAt9 hl)]
  simp only [r1, kp, eq, es]
  rw [bs (way9_eq (by omega) hs)]
  rw [eq, es] at e3
  show Option.bind (g9_byLaw 97 0 999 (upL K 186 [(11, nI l), (12, kdL (M 7) l), (13, sWay (nI q) (nI s))])) _ = _
  have e4 : g9_byLaw 97 0 999 (upL K 186 [(11, nI l), (12, kdL (M 7) l), (13, sWay (nI q) (nI s))]) = some (v (lPull (M 7) h l), N') := e3
  rw [bs e4]
