/-! PURE: letters and facts of a herd -/
def lHerd (R : Nat → Int32) (h : Nat) (r : Int32) (i : Nat) : Int32 :=
  if i = 10 then r else if i = 9 then b2i (sClouded R) else if i = 8 then R (R (274 + h)).toNatClampNeg else if i = 7 then R (274 + h) / 14 else if i = 6 then R (274 + h) - R (274 + h) / 14 * 14
  else if i = 5 then R (292 + h) else if i = 4 then R (286 + h) else if i = 3 then R (280 + h) else if i = 2 then nI h else lTime (R 328) (R 327) i
/-- the same updates of one block -/
def upS (K : xMem) (b : Nat) (l : List (Nat × Int32)) : xMem := upL K b l
theorem lHerd_of {K : xMem} {b : Nat} {R : Nat → Int32} {h : Nat} {r : Int32} (hz : ∀ i, i < 15 → K b i = lTime (R 328) (R 327) i) : ∀ i, i < 15 →
    (upL K b [(2, nI h), (3, R (280 + h)), (4, R (286 + h)), (5, R (292 + h)), (6, R (274 + h) - R (274 + h) / 14 * 14), (7, R (274 + h) / 14), (8, R (R (274 + h)).toNatClampNeg), (9, b2i (sClouded R)), (10, r)]) b i = lHerd R h r i := by
  intro i hi
  unfold lHerd
  simp only [upL, upM, true_and]
  rw [hz i hi]
theorem upL_off {b : Nat} {S : List Nat} (hb : b ∈ S) {M : xMem} : ∀ (l : List (Nat × Int32)) (N : xMem), Off S M N → Off S M (upL N b l)
  | [], N, o => o
  | q :: l, N, o => upL_off hb l _ (o.up' hb)
theorem tellHerd_eq {p h q : Nat} {r : Int32} {M : xMem} (hp : p < 10) (hh : h < 6) (hq : q < 196) (eq : M p (274 + h) = nI q) : ∃ K, g0_tellHerd p (nI h) r M = some K ∧ Off [101] M K ∧ ∀ i, i < 15 → K 101 i = lHerd (M p) h r i := by
  obtain ⟨K, e, o, hz⟩ := tellTime_eq (M := M) (h := M p 328) hp
  have kp : K p = M p := o p (by simp; omega)
  refine ⟨upL K 101 [(2, nI h), (3, M p (280 + h)), (4, M p (286 + h)), (5, M p (292 + h)), (6, M p (274 + h) - M p (274 + h) / 14 * 14), (7, M p (274 + h) / 14), (8, M p (M p (274 + h)).toNatClampNeg), (9, b2i (sClouded (M p))), (10, r)], ?_, upL_off (by decide) _ _ o, lHerd_of hz⟩
  unfold g0_tellHerd
  rw [bs e]
  have r1 : ∀ {N : xMem} {i : Nat} {x : Int32}, (upM N 101 i x) p = N p := up_b (by omega)
  simp (disch := omega) only [↓reduceIte, mset_eq, i_lt0, i_cl, nle_f, or_self, r1, kp, eq]
  rw [bs (sortAt_in hq), bs clouded_eq]
  simp only [r1, kp, b2i_0]
  unfold g0_tellHerd_b125
  by_cases c : sClouded (M p) = true
  · rw [if_neg (fun x => x c), b2i_t c]
    rfl
  · rw [if_pos c, b2i_f c]
    rfl
theorem feelsHerd_eq {h q : Nat} {r : Int32} {M : xMem} (hh : h < 6) (hq : q < 196) (eq : M 7 (274 + h) = nI q) : ∃ K, g9_feelsHerd (nI h) r M = some K ∧ Off [186] M K ∧ ∀ i, i < 15 → K 186 i = lHerd (M 7) h r i := by
  obtain ⟨K, e, o, hz⟩ := feels_eq (M := M)
  have kp : K 7 = M 7 := o 7 (by decide)
  refine ⟨upL K 186 [(2, nI h), (3, M 7 (280 + h)), (4, M 7 (286 + h)), (5, M 7 (292 + h)), (6, M 7 (274 + h) - M 7 (274 + h) / 14 * 14), (7, M 7 (274 + h) / 14), (8, M 7 (M 7 (274 + h)).toNatClampNeg), (9, b2i (sClouded (M 7))), (10, r)], ?_, upL_off (by decide) _ _ o, lHerd_of hz⟩
  unfold g9_feelsHerd
  rw [bs e]
  have r1 : ∀ {N : xMem} {i : Nat} {x : Int32}, (upM N 186 i x) 7 = N 7 := up_b (by decide)
  simp (disch := omega) only [↓reduceIte, mset_eq, i_lt0, i_cl, i_al, nle_f, or_self, r1, kp, eq, Nat.zero_add]
  rw [bs clouded9_eq]
  simp only [r1, kp, b2i_0]
  unfold g9_feelsHerd_b141
  by_cases c : sClouded (M 7) = true
  · rw [if_neg (fun x => x c), b2i_t c]
    rfl
  · rw [if_pos c, b2i_f c]
    rfl
