/-! PURE: the call law -/
theorem and255_nI (x : Int32) : ∃ j, j ≤ 255 ∧ x &&& 255 = nI j := by
  refine ⟨(x &&& 255).toBitVec.toNat, ?_, ?_⟩
  · show ((x.toBitVec &&& (255#32)).toNat) ≤ 255
    rw [BitVec.toNat_and]
    exact Nat.and_le_right
  · have h : (x &&& 255).toBitVec.toNat ≤ 255 := by
      show ((x.toBitVec &&& (255#32)).toNat) ≤ 255
      rw [BitVec.toNat_and]
      exact Nat.and_le_right
    apply Int32.toBitVec_inj.mp
    show (x &&& 255).toBitVec = BitVec.ofNat 32 _
    rw [BitVec.ofNat_toNat, BitVec.setWidth_eq]
theorem become_law (M : xMem) : ∃ K, g3_become M = some K ∧ (∀ i, i < 240 → K 20 i = M 30 i) ∧ (∀ i, i < 240 → K 21 i = M 31 i) ∧ (∀ i, i < 16 → K 23 i = M 33 i) ∧ (∀ i, i < 16 → K 24 i = M 34 i) ∧ (∀ i, i < 16 → K 25 i = M 35 i) ∧ K 22 0 = M 32 0 ∧ K 26 0 = M 36 0 ∧ Off [20, 21, 22, 23, 24, 25, 26] M K := by
  unfold g3_become
  rw [mset_eq, mset_eq, mset_eq, mset_eq, mset_eq, mset_eq, mset_eq]
  obtain ⟨K5, h5⟩ : ∃ K5, K5 = cpM (cpM (cpM (cpM (cpM M 20 0 240 30 0) 21 0 240 31 0) 23 0 16 33 0) 24 0 16 34 0) 25 0 16 35 0 := ⟨_, rfl⟩
  rw [← h5]
  have o5 : Off [20, 21, 23, 24, 25] M K5 := fun b hb => by
    simp only [List.mem_cons, List.not_mem_nil, or_false, not_or] at hb
    obtain ⟨b1, b2, b3, b4, b5⟩ := hb
    rw [h5, cp_b b5, cp_b b4, cp_b b3, cp_b b2, cp_b b1]
  have e1 : ∀ i, i < 240 → K5 20 i = M 30 i := fun i hi => by
    rw [h5, cp_b (by decide), cp_b (by decide), cp_b (by decide), cp_b (by decide), cp_in ⟨by omega, by omega⟩]
    congr 1; omega
  have e2 : ∀ i, i < 240 → K5 21 i = M 31 i := fun i hi => by
    rw [h5, cp_b (by decide), cp_b (by decide), cp_b (by decide), cp_in ⟨by omega, by omega⟩, cp_b (by decide)]
    congr 1; omega
  have e3 : ∀ i, i < 16 → K5 23 i = M 33 i := fun i hi => by
    rw [h5, cp_b (by decide), cp_b (by decide), cp_in ⟨by omega, by omega⟩, cp_b (by decide), cp_b (by decide)]
    congr 1; omega
  have e4 : ∀ i, i < 16 → K5 24 i = M 34 i := fun i hi => by
    rw [h5, cp_b (by decide), cp_in ⟨by omega, by omega⟩, cp_b (by decide), cp_b (by decide), cp_b (by decide)]
    congr 1; omega
  have e5 : ∀ i, i < 16 → K5 25 i = M 35 i := fun i hi => by
    rw [h5, cp_in ⟨by omega, by omega⟩, cp_b (by decide), cp_b (by decide), cp_b (by decide), cp_b (by decide)]
    congr 1; omega
  have oo : Off [22, 26] K5 (upM (upM K5 22 0 (K5 32 0)) 26 0 ((upM K5 22 0 (K5 32 0)) 36 0)) := (Off.up (by decide)).up' (by decide)
  refine ⟨_, rfl, fun i hi => ?_, fun i hi => ?_, fun i hi => ?_, fun i hi => ?_, fun i hi => ?_, ?_, ?_, (o5.mono (by decide)).tr (oo.mono (by decide))⟩
  · rw [oo 20 (by decide), e1 i hi]
  · rw [oo 21 (by decide), e2 i hi]
  · rw [oo 23 (by decide), e3 i hi]
  · rw [oo 24 (by decide), e4 i hi]
  · rw [oo 25 (by decide), e5 i hi]
  · rw [up_b (by decide), up_s, o5 32 (by decide)]
  · rw [up_s, up_b (by decide), o5 36 (by decide)]
theorem pair_law (a : Int32) : Pair (g8_law a) (g9_law a) := by
  intro M I
  rcases in_cases a 1 240 1 240 with h | ⟨n, hn1, hn2, rfl, h⟩
  · unfold g8_law g9_law
    rw [in8_9, bs (h M)]
    exact ⟨-1, M, M, rfl, by rw [bs (h M)]; rfl, I⟩
  obtain ⟨t, t1, t2, t3, t4⟩ := I.tape
  by_cases hnt : n ≤ t
  · obtain ⟨T, hT1, hT2⟩ : ∃ T : Nat → Nat, (∀ i, T i ≤ 255) ∧ ∀ i, M 163 i &&& 255 = nI (T i) := by
      refine ⟨fun i => (and255_nI (M 163 i)).choose, fun i => (and255_nI (M 163 i)).choose_spec.1, fun i => (and255_nI (M 163 i)).choose_spec.2⟩
    have hT : Txt T n := ⟨hn2, hT1⟩
    have ht : ∀ i, i < 260 → M 120 i = nI (T i) := fun i hi => by rw [t4 i hi, hT2 i]
    have e8 : g8_law (nI n) M = Option.bind (g4_read (nI n) M) fun q5 => mset (upM q5.2 121 0 0) fun M7 => if q5.1 ≤ 0 then some (q5.1, M7) else Option.bind (g3_become M7) fun q9 => some (q5.1, q9) := by
      unfold g8_law
      rw [in8_9, bs (h M)]
      dsimp only
      rw [if_neg (show ¬ (1 : Int32) = 0 by decide), if_pos (by rw [t2]; exact (nI_leI (by omega) (by omega)).mpr hnt)]
    rw [e8]
    have hng := ng_law (T := T) hn2 17 0 0 0 (Nat.zero_le n)
    have hty := ty_law (T := T) (n := n) 17 0 0 0
    -- what both leave
    have fin : ∀ M1 N : xMem, Off [112, 113, 114, 115, 30, 31, 32, 33, 34, 35, 36, 20, 21, 22, 23, 24, 25, 26, 121] M M1 → Off RE M1 N → M1 121 0 = 0 → N 164 0 = 0 → LawRel N → Inv N := by
      intro M1 N o1 o2 h1 h2 hl
      have e : ∀ b, b ∉ ([112, 113, 114, 115, 30, 31, 32, 33, 34, 35, 36, 20, 21, 22, 23, 24, 25, 26, 121] : List Nat) → b ∉ RE → N b = M b := fun b hb hb2 => by rw [o2 b hb2, o1 b hb]
      have lo : ∀ b, b < 10 → N b = M b := fun b hb => e b (fun q => by simp only [List.mem_cons, List.not_mem_nil, or_false] at q; omega) (fun q => by simp only [RE, List.mem_cons, List.not_mem_nil, or_false] at q; omega)
      refine ⟨by rw [lo 7 (by decide), lo 0 (by decide)]; exact I.eq7, by rw [lo 0 (by decide)]; exact I.ok, I.z.of lo, I.kept.fr fun b hb => ?_, ⟨0, by omega, by rw [o2 121 (by decide), h1]; rfl, h2, fun i hi => ?_⟩, hl⟩
      · exact e b (by revert b; decide) (by revert b; decide)
      · rw [e 120 (by decide) (by decide), e 163 (by decide) (by decide)]
        exact t4 i hi
    rcases claw_eq hT ht with ⟨e, K, e1, e2, e3⟩ | ⟨q, K, e1, e2, e3, e4, e5, e6, e7, ⟨z, z1, z2, z3⟩, e9⟩
    · rw [e1] at hng
      have hng' : e ≤ 0 := hng
      have o7 : Off [121] K (upM K 121 0 0) := Off.up (by decide)
      have oM : Off [112, 113, 114, 115, 30, 31, 32, 33, 34, 35, 36, 20, 21, 22, 23, 24, 25, 26, 121] M (upM K 121 0 0) := (e3.mono (by decide)).tr (o7.mono (by decide))
      rcases rlaw_eq hT (by omega) (M := upM K 121 0 0) (t := t) (fun i hi => by rw [oM 163 (by decide), hT2 i]) (by rw [oM 164 (by decide), t3]) hnt t1 with ⟨e', N, f1, f2, f3, f4⟩ | ⟨q', N, f1, _⟩
      · rw [e1] at f1
        injection f1 with f1
        subst f1
        refine ⟨e, upM K 121 0 0, N, ?_, f2, fin _ N oM (f4.mono (by decide)) up_s f3 ?_⟩
        · rw [bs e2]
          dsimp only
          rw [mset_eq, if_pos hng']
        · exact I.law.fr fun b hb => by
            rw [f4 b (by revert b; decide)]
            rw [o7 b (by revert b; decide), e3 b (by revert b; decide)]
      · rw [e1] at f1
        cases f1
    · have o7 : Off [121] K (upM K 121 0 0) := Off.up (by decide)
      obtain ⟨K2, g1, g20, g21, g23, g24, g25, g22, g26, go⟩ := become_law (upM K 121 0 0)
      have oM : Off [112, 113, 114, 115, 30, 31, 32, 33, 34, 35, 36, 20, 21, 22, 23, 24, 25, 26, 121] M K2 := ((e9.mono (by decide)).tr (o7.mono (by decide))).tr (go.mono (by decide))
      rcases rlaw_eq hT (by omega) (M := K2) (t := t) (fun i hi => by rw [oM 163 (by decide), hT2 i]) (by rw [oM 164 (by decide), t3]) hnt t1 with ⟨e', N, f1, _⟩ | ⟨q', N, f1, f2, f3, f4, f5, f6⟩
      · rw [e1] at f1
        cases f1
      rw [e1] at f1
      injection f1 with f1
      subst f1
      rw [e1] at hty
      refine ⟨nI q.length, K2, N, ?_, f2, fin K2 N oM f6 (by rw [go 121 (by decide), up_s]) f3 ?_⟩
      · rw [bs e2]
        dsimp only
        rw [mset_eq, if_neg (show ¬ nI q.length ≤ 0 from fun r => by have := (nI_leI (b := 0) (by omega) (by omega)).mp r; omega), bs g1]
      · unfold LawRel
        refine law_rel (K := K) (q := q) (z := z) e4 ?_ f4 ?_ z1 z3 e6 f5 hty e7 (fun i hi => ?_) (fun i hi => ?_) (fun i hi => ?_) (fun i hi => ?_) (fun i hi => ?_)
        · rw [f6 26 (by decide), g26, o7 36 (by decide), e5]
        · rw [f6 22 (by decide), g22, o7 32 (by decide), z2]
        · rw [f6 20 (by decide), g20 i hi, o7 30 (by decide)]
        · rw [f6 21 (by decide), g21 i hi, o7 31 (by decide)]
        · rw [f6 23 (by decide), g23 i hi, o7 33 (by decide)]
        · rw [f6 24 (by decide), g24 i hi, o7 34 (by decide)]
        · rw [f6 25 (by decide), g25 i hi, o7 35 (by decide)]
  · have c : ¬ nI n ≤ nI t := fun r => hnt ((nI_leI (by omega) (by omega)).mp r)
    refine ⟨-1, M, M, ?_, ?_, I⟩
    · unfold g8_law
      rw [in8_9, bs (h M)]
      dsimp only
      rw [if_neg (show ¬ (1 : Int32) = 0 by decide), if_neg (by rw [t2]; exact c)]
    · unfold g9_law
      rw [bs (h M)]
      dsimp only
      rw [if_neg (show ¬ (1 : Int32) = 0 by decide), if_neg (by rw [t3]; exact c)]
