/-! PURE: the reference's law as a whole -/
def LF (f : Nat) (M : xMem) : Option (Int32 × xMem) := Option.bind (g9_readsClause M) fun q => g9_law_b46 f q.1 q.2
theorem law46_0 {f : Nat} {M : xMem} : g9_law_b46 (f + 1) 0 M = some ((upM M 164 0 0) 167 0, upM M 164 0 0) := by
  rw [g9_law_b46, if_pos rfl]
  unfold g9_law_b86
  rw [mset_eq, if_pos rfl]
theorem takes_ok {T : Nat → Nat} {n p o c : Nat} {w : List Ins} (hT : Txt T n) {M : xMem} (h : ROk T n M p o c w) (hp : p ≤ n) :
    (isC T n p 59 = true ∧ ∃ K, g9_takes 59 M = some (1, K) ∧ ROk T n K (p + 1) o c w ∧ Off [165] M K) ∨
    (¬ isC T n p 59 = true ∧ ∃ K, g9_takes 59 M = some (0, K) ∧ K 167 0 = flt 1 p ∧ Off RC M K) := by
  have hn := hT.1
  have he := here_eq hT h hp
  unfold g9_takes
  rw [bs he]
  dsimp only
  by_cases c1 : isC T n p 59 = true
  · rw [if_pos (show sgI T n p = 59 from (sg_is hT (c := 59) (by omega)).mpr c1), mset_eq]
    exact Or.inl ⟨c1, _, rfl, h.step, Off.up (by decide)⟩
  · obtain ⟨K, e, e2, o2⟩ := h.wrong (k := 1) (a := 1) rfl
    rw [if_neg (show ¬ sgI T n p = 59 from fun r => c1 ((sg_is hT (c := 59) (by omega)).mp r)), bs e, if_pos (Or.inl rfl)]
    exact Or.inr ⟨c1, K, rfl, e2, o2.mono (by decide)⟩
def totC : List Cla → Nat
  | [] => 0
  | x :: r => x.2.1.length + x.2.2.length + totC r
theorem rlaw_b {T : Nat → Nat} {n : Nat} (hT : Txt T n) : ∀ (g k p c f : Nat) (M : xMem), k + g = 17 → 0 < g → g < f → RO0 T n M p c → M 171 0 = nI k → c ≤ p → p ≤ n →
    (∃ e K, pLaw T n g k p c = .inl e ∧ LF f M = some (e, K) ∧ K 164 0 = 0 ∧ Off (164 :: RC) M K) ∨
    ∃ q K, pLaw T n g k p c = .inr q ∧ LF f M = g9_law_b86 1 K ∧ 0 < q.length ∧ k + q.length ≤ 16 ∧ K 171 0 = nI (k + q.length) ∧ LawRef (K 174) (K 176) (K 177) (K 178) (K 179) k c q ∧ K 169 0 = nI (c + totC q) ∧ c + totC q ≤ 240 ∧ (∀ i, i < c → K 174 i = M 174 i) ∧ (∀ i, i < k → K 176 i = M 176 i ∧ K 177 i = M 177 i ∧ K 178 i = M 178 i ∧ K 179 i = M 179 i) ∧ Off RC M K
  | g + 1, k, p, c, f, M, hkg, h0, hf, h, hk, hc, hp => by
    have hn := hT.1
    obtain ⟨f, rfl⟩ : ∃ f', f = f' + 1 := ⟨f - 1, by omega⟩
    unfold pLaw LF
    rcases rcla_ok hT h hk (by omega) hc hp with ⟨e, K, e1, e2, e3, e4⟩ | ⟨q, K, e1, e2, e3, e4, e5, e6, e7, e8, e9, e10, e11⟩
    · rw [e1, bs e2]
      dsimp only
      rw [law46_0]
      have o1 : Off [164] K (upM K 164 0 0) := Off.up (by decide)
      refine Or.inl ⟨_, _, rfl, ?_, up_s, (e4.mono (by decide)).tr (o1.mono (by decide))⟩
      rw [o1 167 (by decide), e3]
    rw [e1, bs e2]
    dsimp only
    rw [g9_law_b46, if_neg (show ¬ (1 : Int32) = 0 by decide), e3.2.1, e3.1]
    by_cases c1 : n ≤ q.1
    · rw [if_pos c1, if_pos ((nI_leI (by omega) (by omega)).mpr c1)]
      exact Or.inr ⟨[q.2], K, rfl, rfl, Nat.zero_lt_one, by show k + 1 ≤ 16; omega, e4, ⟨e6, trivial⟩, by rw [e3.2.2.2.1]; congr 1; show _ = c + (q.2.2.1.length + q.2.2.2.length + 0); omega, by show c + (q.2.2.1.length + q.2.2.2.length + 0) ≤ 240; omega, e7, e8, e11⟩
    rw [if_neg c1, if_neg (fun r => c1 ((nI_leI (by omega) (by omega)).mp r))]
    rcases takes_ok hT e3 e10 with ⟨t1, K2, t2, t3, t4⟩ | ⟨t1, K2, t2, t3, t4⟩
    · have hlt := (isC_lt t1).1
      rw [if_pos t1, bs t2]
      dsimp only
      rw [if_neg (show ¬ (1 : Int32) = 0 by decide)]
      have k171 : K2 171 0 = nI (k + 1) := by rw [t4 171 (by decide), e4]
      have hLF : (Option.bind (g9_readsClause K2) fun q16 => if q16.1 = 0 then g9_law_b81 (g9_law_b46 f) q16.2 else g9_law_b82 (g9_law_b46 f) 1 q16.2) = LF f K2 := by
        unfold LF
        rcases rcla_ok hT t3.z k171 (by omega) (by omega) (by omega) with ⟨e, K3, -, d2, -⟩ | ⟨q3, K3, -, d2, -⟩
        · rw [bs d2, bs d2]; rfl
        · rw [bs d2, bs d2]; rfl
      rw [hLF]
      have oc : Off RC M K2 := e11.tr (t4.mono (by decide))
      rcases rlaw_b hT g (k + 1) (q.1 + 1) (c + q.2.2.1.length + q.2.2.2.length) f K2 (by omega) (by omega) (by omega) t3.z k171 (by omega) (by omega) with ⟨e, K3, f1, f2, f3, f4⟩ | ⟨r, K3, f1, f2, f3, f4, f5, f6, f7, f8, f9, f10, f11⟩
      · rw [f1]
        exact Or.inl ⟨e, K3, rfl, f2, f3, (oc.mono (by decide)).tr f4⟩
      · rw [f1]
        dsimp only
        have hl : (q.2 :: r).length = r.length + 1 := rfl
        have ht : totC (q.2 :: r) = q.2.2.1.length + q.2.2.2.length + totC r := rfl
        refine Or.inr ⟨q.2 :: r, K3, rfl, f2, by omega, by omega, by rw [hl, show k + (r.length + 1) = k + 1 + r.length by omega]; exact f5, ⟨?_, f6⟩, by rw [ht, ← Nat.add_assoc, ← Nat.add_assoc]; exact f7, by omega, fun i hi => ?_, fun i hi => ?_, oc.tr f11⟩
        · refine e6.fr (s := c + q.2.2.1.length + q.2.2.2.length) (Nat.le_refl _) (fun j hj => ?_) ?_
          · rw [f9 j hj, t4 174 (by decide)]
          · obtain ⟨x, y, z, v⟩ := f10 k (by omega)
            rw [x, y, z, v, t4 176 (by decide), t4 177 (by decide), t4 178 (by decide), t4 179 (by decide)]
            exact ⟨rfl, rfl, rfl, rfl⟩
        · rw [f9 i (by omega), t4 174 (by decide), e7 i hi]
        · obtain ⟨x, y, z, v⟩ := f10 i (by omega)
          rw [x, y, z, v, t4 176 (by decide), t4 177 (by decide), t4 178 (by decide), t4 179 (by decide)]
          exact e8 i hi
    · rw [if_neg t1, bs t2]
      dsimp only
      rw [if_pos rfl]
      unfold g9_law_b81 g9_law_b82
      obtain ⟨f, rfl⟩ : ∃ f', f = f' + 1 := ⟨f - 1, by omega⟩
      rw [law46_0]
      have o1 : Off [164] K2 (upM K2 164 0 0) := Off.up (by decide)
      refine Or.inl ⟨_, _, rfl, ?_, up_s, ((e11.tr t4).mono (by decide)).tr (o1.mono (by decide))⟩
      rw [o1 167 (by decide), t3]
theorem copy110 {c : Nat} (hc : c ≤ 240) : ∀ (g x f : Nat) (M : xMem), x + g = c → g < f → M 169 0 = nI c → ∃ K, g9_law_b110 f (nI x) M = g9_law_b138 5000 0 K ∧ (∀ i, i < c → x ≤ i → K 180 i = M 174 i) ∧ (∀ i, i < x → K 180 i = M 180 i) ∧ Off [180] M K
  | 0, x, f + 1, M, hx, hf, h => by
    refine ⟨M, ?_, fun i h1 h2 => absurd h1 (by omega), fun _ _ => rfl, Off.rf⟩
    rw [g9_law_b110, h, if_pos ((nI_leI (by omega) (by omega)).mpr (by omega))]
  | g + 1, x, f + 1, M, hx, hf, h => by
    have o1 : Off [180] M (upM M 180 x (M 174 x)) := Off.up (by decide)
    have r : (upM M 180 x (M 174 x)) 180 = upd (M 180) x (M 174 x) := up_row
    have h2 : (upM M 180 x (M 174 x)) 169 0 = nI c := by rw [o1 169 (by decide), h]
    have h3 : (upM M 180 x (M 174 x)) 174 = M 174 := o1 174 (by decide)
    obtain ⟨K, e1, e2, e3, e4⟩ := copy110 hc g (x + 1) f (upM M 180 x (M 174 x)) (by omega) (by omega) h2
    refine ⟨K, ?_, fun i a1 a2 => ?_, fun i hi => ?_, o1.tr e4⟩
    · rw [g9_law_b110, h, if_neg (fun q => by have := (nI_leI (by omega) (by omega)).mp q; omega)]
      simp (disch := omega) only [↓reduceIte, i_lt0, i_cl, nle_f, or_self, mset_eq]
      rw [nI_1, e1]
    · by_cases q : i = x
      · rw [e3 i (by omega), r, q, ud_s]
      · rw [e2 i a1 (by omega), h3]
    · rw [e3 i (by omega), r, ud_n (by omega)]
theorem copy138 {m : Nat} (hm : m ≤ 16) : ∀ (g x f : Nat) (M : xMem), x + g = m → g < f → M 171 0 = nI m → ∃ K, g9_law_b138 f (nI x) M = some (nI m, K) ∧ (∀ i, i < m → x ≤ i → K 181 i = M 176 i ∧ K 182 i = M 177 i ∧ K 183 i = M 178 i ∧ K 184 i = M 179 i) ∧ (∀ i, i < x → K 181 i = M 181 i ∧ K 182 i = M 182 i ∧ K 183 i = M 183 i ∧ K 184 i = M 184 i) ∧ Off [181, 182, 183, 184] M K
  | 0, x, f + 1, M, hx, hf, h => by
    refine ⟨M, ?_, fun i h1 h2 => absurd h1 (by omega), fun _ _ => ⟨rfl, rfl, rfl, rfl⟩, Off.rf⟩
    rw [g9_law_b138, h, if_pos ((nI_leI (by omega) (by omega)).mpr (by omega))]
  | g + 1, x, f + 1, M, hx, hf, h => by
    obtain ⟨N, hN⟩ : ∃ N, N = upM (upM (upM (upM M 181 x (M 176 x)) 182 x (M 177 x)) 183 x (M 178 x)) 184 x (M 179 x) := ⟨_, rfl⟩
    have o1 : Off [181, 182, 183, 184] M N := by rw [hN]; exact (((Off.up (by decide)).up' (by decide)).up' (by decide)).up' (by decide)
    have r1 : N 181 = upd (M 181) x (M 176 x) := by rw [hN, up_b (by decide), up_b (by decide), up_b (by decide), up_row]
    have r2 : N 182 = upd (M 182) x (M 177 x) := by rw [hN, up_b (by decide), up_b (by decide), up_row, up_b (by decide)]
    have r3 : N 183 = upd (M 183) x (M 178 x) := by rw [hN, up_b (by decide), up_row, up_b (by decide), up_b (by decide)]
    have r4 : N 184 = upd (M 184) x (M 179 x) := by rw [hN, up_row, up_b (by decide), up_b (by decide), up_b (by decide)]
    obtain ⟨K, e1, e2, e3, e4⟩ := copy138 hm g (x + 1) f N (by omega) (by omega) (by rw [o1 171 (by decide), h])
    refine ⟨K, ?_, fun i a1 a2 => ?_, fun i hi => ?_, o1.tr e4⟩
    · rw [g9_law_b138, h, if_neg (fun q => by have := (nI_leI (by omega) (by omega)).mp q; omega)]
      simp (disch := omega) only [↓reduceIte, i_lt0, i_cl, nle_f, or_self, mset_eq]
      rw [up_b (show (177 : Nat) ≠ 181 by decide), up_b (show (178 : Nat) ≠ 182 by decide), up_b (show (178 : Nat) ≠ 181 by decide), up_b (show (179 : Nat) ≠ 183 by decide), up_b (show (179 : Nat) ≠ 182 by decide), up_b (show (179 : Nat) ≠ 181 by decide), nI_1, ← hN, e1]
    · by_cases q : i = x
      · obtain ⟨b1, b2, b3, b4⟩ := e3 i (by omega)
        rw [b1, b2, b3, b4, r1, r2, r3, r4, q, ud_s, ud_s, ud_s, ud_s]
        exact ⟨rfl, rfl, rfl, rfl⟩
      · obtain ⟨b1, b2, b3, b4⟩ := e2 i a1 (by omega)
        rw [b1, b2, b3, b4, o1 176 (by decide), o1 177 (by decide), o1 178 (by decide), o1 179 (by decide)]
        exact ⟨rfl, rfl, rfl, rfl⟩
    · obtain ⟨b1, b2, b3, b4⟩ := e3 i (by omega)
      rw [b1, b2, b3, b4, r1, r2, r3, r4, ud_n (by omega), ud_n (by omega), ud_n (by omega), ud_n (by omega)]
      exact ⟨rfl, rfl, rfl, rfl⟩
def RD : List Nat := [165, 166, 167, 168, 169, 170, 172, 174, 175, 171, 176, 177, 178, 179, 164]
def RE : List Nat := [165, 166, 167, 168, 169, 170, 172, 174, 175, 171, 176, 177, 178, 179, 164, 173, 180, 181, 182, 183, 184]
theorem LawRef.fr {P L A B C P' L' A' B' C' : Nat → Int32} {s m : Nat} (h1 : ∀ j, j < s → P' j = P j) (h2 : ∀ i, i < m → L' i = L i ∧ A' i = A i ∧ B' i = B i ∧ C' i = C i) : ∀ (q : List Cla) (i c : Nat), LawRef P L A B C i c q → c + totC q ≤ s → i + q.length ≤ m → LawRef P' L' A' B' C' i c q
  | [], _, _, _, _, _ => trivial
  | x :: r, i, c, h, hs, hm => by
    have ht : totC (x :: r) = x.2.1.length + x.2.2.length + totC r := rfl
    have hl : (x :: r).length = r.length + 1 := rfl
    exact ⟨h.1.fr (s := s) (by omega) h1 (h2 i (by omega)), LawRef.fr h1 h2 r _ _ h.2 (by omega) (by omega)⟩
theorem rlaw_eq {T : Nat → Nat} {n t : Nat} (hT : Txt T n) (h0 : 0 < n) {M : xMem} (ht : ∀ i, i < 260 → M 163 i &&& 255 = nI (T i)) (h164 : M 164 0 = nI t) (h2 : n ≤ t) (h3 : t ≤ 260) :
    (∃ e K, pLaw T n 17 0 0 0 = .inl e ∧ g9_law (nI n) M = some (e, K) ∧ K 164 0 = 0 ∧ Off RD M K) ∨
    ∃ q K, pLaw T n 17 0 0 0 = .inr q ∧ g9_law (nI n) M = some (nI q.length, K) ∧ K 164 0 = 0 ∧ K 173 0 = nI q.length ∧ LawRef (K 180) (K 181) (K 182) (K 183) (K 184) 0 0 q ∧ Off RE M K := by
  have hn := hT.1
  have hin : g9_in (nI n) 1 240 M = some (1, M) := by
    rw [in9_eq, b2i_t ⟨(nI_leI (a := 1) (by omega) (by omega)).mpr (by omega), (nI_leI (b := 240) (by omega) (by omega)).mpr hn⟩]
  have e0 : g9_law (nI n) M = LF 5000 (upM (upM (upM (upM M 165 0 0) 166 0 (nI n)) 169 0 0) 171 0 0) := by
    unfold g9_law LF
    rw [bs hin]
    dsimp only
    rw [if_neg (show ¬ (1 : Int32) = 0 by decide), if_pos (by rw [h164]; exact (nI_leI (by omega) (by omega)).mpr h2), mset_eq, mset_eq, mset_eq, mset_eq]
  rw [e0]
  obtain ⟨N, hN⟩ : ∃ N, N = upM (upM (upM (upM M 165 0 0) 166 0 (nI n)) 169 0 0) 171 0 0 := ⟨_, rfl⟩
  rw [← hN]
  have o1 : Off [165, 166, 169, 171] M N := by rw [hN]; exact (((Off.up (by decide)).up' (by decide)).up' (by decide)).up' (by decide)
  have n165 : N 165 0 = nI 0 := by rw [hN, up_b (by decide), up_b (by decide), up_b (by decide), up_s]; rfl
  have n166 : N 166 0 = nI n := by rw [hN, up_b (by decide), up_b (by decide), up_s]
  have n169 : N 169 0 = nI 0 := by rw [hN, up_b (by decide), up_s]; rfl
  have n171 : N 171 0 = nI 0 := by rw [hN, up_s]; rfl
  have r0 : RO0 T n N 0 0 := ⟨n165, n166, n169, fun i hi => by rw [o1 163 (by decide)]; exact ht i hi⟩
  rcases rlaw_b hT 17 0 0 0 5000 N rfl (by omega) (by omega) r0 n171 (by omega) (by omega) with ⟨e, K, f1, f2, f3, f4⟩ | ⟨q, K, f1, f2, f3, f4, f5, f6, f7, f8, -, -, f11⟩
  · exact Or.inl ⟨e, K, f1, f2, f3, (o1.mono (by decide)).tr (f4.mono (by decide))⟩
  rw [Nat.zero_add] at f4 f5 f7 f8
  have e86 : g9_law_b86 1 K = g9_law_b110 5000 0 (upM (upM K 164 0 0) 173 0 ((upM K 164 0 0) 171 0)) := by
    unfold g9_law_b86
    rw [mset_eq, if_neg (show ¬ (1 : Int32) = 0 by decide), mset_eq]
  obtain ⟨K1, hK1⟩ : ∃ K1, K1 = upM (upM K 164 0 0) 173 0 ((upM K 164 0 0) 171 0) := ⟨_, rfl⟩
  rw [← hK1] at e86
  have o2 : Off [164, 173] K K1 := by rw [hK1]; exact (Off.up (by decide)).up' (by decide)
  have k164 : K1 164 0 = 0 := by rw [hK1, up_b (by decide), up_s]
  have k173 : K1 173 0 = nI q.length := by rw [hK1, up_s, up_b (by decide), f5]
  obtain ⟨K2, g1, g2, -, g4⟩ := copy110 (c := totC q) f8 (totC q) 0 5000 K1 (by omega) (by omega) (by rw [o2 169 (by decide), f7])
  obtain ⟨K3, d1, d2, -, d4⟩ := copy138 (m := q.length) f4 q.length 0 5000 K2 (by omega) (by omega) (by rw [g4 171 (by decide), o2 171 (by decide), f5])
  have z0 : nI 0 = (0 : Int32) := rfl
  rw [z0] at g1 d1
  refine Or.inr ⟨q, K3, f1, by rw [f2, e86, g1, d1], by rw [d4 164 (by decide), g4 164 (by decide), k164], by rw [d4 173 (by decide), g4 173 (by decide), k173], ?_, ((((o1.mono (by decide)).tr (f11.mono (by decide))).tr (o2.mono (by decide))).tr (g4.mono (by decide))).tr (d4.mono (by decide))⟩
  refine f6.fr (s := totC q) (m := q.length) (fun j hj => ?_) (fun i hi => ?_) q 0 0 (by omega) (by omega)
  · rw [d4 180 (by decide), g2 j hj (by omega), o2 174 (by decide)]
  · obtain ⟨x, y, z, v⟩ := d2 i hi (by omega)
    rw [x, y, z, v, g4 176 (by decide), g4 177 (by decide), g4 178 (by decide), g4 179 (by decide), o2 176 (by decide), o2 177 (by decide), o2 178 (by decide), o2 179 (by decide)]
    exact ⟨rfl, rfl, rfl, rfl⟩
