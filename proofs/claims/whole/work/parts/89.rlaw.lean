/-! PURE: the reference's law, against the reading from the left -/
def RC : List Nat := [165, 167, 168, 169, 170, 172, 174, 175, 171, 176, 177, 178, 179]
theorem cls_all : ∀ b, b < 256 → ∀ M : xMem, g9_isClause (nI b) M = some (b2i (clsN b < 8), M) ∧ (clsN b < 8 → lawCh (clsN b) = nI b) := by
  intro b hb M
  have h : ∀ b, b < 256 → (clsN b < 8 → lawCh (clsN b) = nI b) ∧ (clsN b < 8 ↔ (nI b = 97 ∨ nI b = 122 ∨ nI b = 115 ∨ nI b = 119 ∨ nI b = 120 ∨ nI b = 102 ∨ nI b = 98 ∨ nI b = 113)) := by decide +kernel
  refine ⟨?_, (h b hb).1⟩
  have h2 := (h b hb).2
  unfold g9_isClause g9_isClause_b48
  generalize nI b = x at h2 ⊢
  by_cases q : clsN b < 8
  · rw [b2i_t q]
    rcases h2.mp q with r | r | r | r | r | r | r | r <;> subst r <;> simp only [↓reduceIte] <;> rfl
  · rw [b2i_f q]
    have h3 : ¬ (x = 97 ∨ x = 122 ∨ x = 115 ∨ x = 119 ∨ x = 120 ∨ x = 102 ∨ x = 98 ∨ x = 113) := fun r => q (h2.mpr r)
    simp only [not_or] at h3
    obtain ⟨a1, a2, a3, a4, a5, a6, a7, a8⟩ := h3
    rw [if_neg a1, if_neg a2, if_neg a3, if_neg a4, if_neg a5, if_neg a6, if_neg a7, if_neg a8]
theorem isCla_eq {T : Nat → Nat} {n p : Nat} (hT : Txt T n) {M : xMem} : g9_isClause (sgI T n p) M = some (b2i (p < n ∧ clsN (T p) < 8), M) := by
  by_cases c : p < n
  · have := hT.2 p
    rw [sgI_nI c, (cls_all (T p) (by omega) M).1]
    by_cases q : clsN (T p) < 8
    · rw [b2i_t q, b2i_t ⟨c, q⟩]
    · rw [b2i_f q, b2i_f fun r => q r.2]
  · rw [sgI_m1 c, b2i_f fun r => c r.1]
    rfl
/-- a clause, as the reference keeps it -/
def ClsR (P L A B C : Nat → Int32) (i c : Nat) (q : Cla) : Prop :=
  L i = lawCh q.1 ∧ A i = nI c ∧ B i = nI (c + q.2.1.length) ∧ C i = nI (c + q.2.1.length + q.2.2.length) ∧ RdL P c q.2.1 ∧ RdL P (c + q.2.1.length) q.2.2
theorem ClsR.fr {P L A B C P' L' A' B' C' : Nat → Int32} {i c s : Nat} {q : Cla} (h : ClsR P L A B C i c q) (hs : c + q.2.1.length + q.2.2.length ≤ s) (h1 : ∀ j, j < s → P' j = P j) (h2 : L' i = L i ∧ A' i = A i ∧ B' i = B i ∧ C' i = C i) : ClsR P' L' A' B' C' i c q := by
  obtain ⟨a1, a2, a3, a4, a5, a6⟩ := h
  obtain ⟨b1, b2, b3, b4⟩ := h2
  exact ⟨b1.trans a1, b2.trans a2, b3.trans a3, b4.trans a4, RdL_fr _ _ a5 fun j _ hj => h1 j (by omega), RdL_fr _ _ a6 fun j _ hj => h1 j (by omega)⟩
def LawRef (P L A B C : Nat → Int32) : Nat → Nat → List Cla → Prop
  | _, _, [] => True
  | i, c, q :: r => ClsR P L A B C i c q ∧ LawRef P L A B C (i + 1) (c + q.2.1.length + q.2.2.length) r
/-- where a clause begins -/
def RO0 (T : Nat → Nat) (n : Nat) (M : xMem) (p c : Nat) : Prop := M 165 0 = nI p ∧ M 166 0 = nI n ∧ M 169 0 = nI c ∧ ∀ i, i < 260 → M 163 i &&& 255 = nI (T i)
theorem ROk.z {T : Nat → Nat} {n p o c : Nat} {w : List Ins} {M : xMem} (h : ROk T n M p o c w) : RO0 T n M p c := ⟨h.1, h.2.1, h.2.2.2.1, h.2.2.2.2.2.2.2⟩
theorem here_eq0 {T : Nat → Nat} {n p c : Nat} (hT : Txt T n) {M : xMem} (h : RO0 T n M p c) (hp : p ≤ n) : g9_here M = some (sgI T n p, M) := by
  have hn := hT.1
  obtain ⟨h1, h2, h3, h8⟩ := h
  unfold g9_here
  rw [h1, h2]
  by_cases q : p < n
  · rw [if_neg (fun r => by have := (nI_leI (by omega) (by omega)).mp r; omega), sgI_nI q]
    simp (disch := omega) only [↓reduceIte, i_lt0, i_cl, nle_f, or_self]
    rw [h8 p (by omega)]
  · rw [if_pos ((nI_leI (by omega) (by omega)).mpr (by omega)), sgI_m1 q]
theorem RO0.wrong {T : Nat → Nat} {n p c k : Nat} {a : Int32} (ha : a = nI k) {M : xMem} (h : RO0 T n M p c) : ∃ K, g9_wrongAt a (M 165 0) M = some (0, K) ∧ K 167 0 = flt k p ∧ Off RB M K := by
  unfold g9_wrongAt
  rw [mset_eq, h.1, ha]
  exact ⟨_, rfl, up_s, Off.up (by decide)⟩
theorem rcla_ok {T : Nat → Nat} {n : Nat} (hT : Txt T n) {M : xMem} {p k c : Nat} (h : RO0 T n M p c) (hk0 : M 171 0 = nI k) (hk : k ≤ 16) (hc : c ≤ p) (hp : p ≤ n) :
    (∃ e K, pCla T n k p c = .inl e ∧ g9_readsClause M = some (0, K) ∧ K 167 0 = e ∧ Off RC M K) ∨
    ∃ q K, pCla T n k p c = .inr q ∧ g9_readsClause M = some (1, K) ∧ ROk T n K q.1 0 (c + q.2.2.1.length + q.2.2.2.length) [] ∧ K 171 0 = nI (k + 1) ∧ k < 16 ∧ ClsR (K 174) (K 176) (K 177) (K 178) (K 179) k c q.2 ∧ (∀ i, i < c → K 174 i = M 174 i) ∧ (∀ i, i < k → K 176 i = M 176 i ∧ K 177 i = M 177 i ∧ K 178 i = M 178 i ∧ K 179 i = M 179 i) ∧ c + q.2.2.1.length + q.2.2.2.length ≤ q.1 ∧ q.1 ≤ n ∧ Off RC M K := by
  have hn := hT.1
  have he := here_eq0 hT h hp
  unfold g9_readsClause pCla
  rw [bs he]
  dsimp only
  rw [bs (isCla_eq hT)]
  dsimp only
  by_cases c1 : p < n ∧ clsN (T p) < 8
  · have hTp := hT.2 p
    have hch := (cls_all (T p) (by omega) M).2 c1.2
    rw [if_pos c1, b2i_t c1, if_neg (show ¬ (1 : Int32) = 0 by decide)]
    by_cases c2 : k = 16
    · obtain ⟨K, e, e2, o2⟩ := h.wrong (k := 4) (a := 4) rfl
      rw [if_pos c2, if_pos (show M 171 0 = 16 by rw [hk0, c2]; rfl)]
      refine Or.inl ⟨_, K, rfl, ?_, e2, o2.mono (by decide)⟩
      rw [bs e, if_pos (Or.inl rfl)]
    have c2' : ¬ M 171 0 = 16 := fun r => c2 ((nI_eq (b := 16) (by omega) (by omega)).mp (hk0.symm.trans r))
    rw [if_neg c2, if_neg c2']
    simp (disch := omega) only [hk0, ↓reduceIte, i_lt0, i_cl, nle_f, or_self, mset_eq]
    have k171 : (upM (upM M 176 k (sgI T n p)) 165 0 ((upM M 176 k (sgI T n p)) 165 0 + 1)) 171 0 = nI k := by rw [up_b (by decide), up_b (by decide), hk0]
    simp (disch := omega) only [k171, ↓reduceIte, i_lt0, i_cl, nle_f, or_self, mset_eq]
    -- the head
    have k169 : (upM (upM M 176 k (sgI T n p)) 165 0 ((upM M 176 k (sgI T n p)) 165 0 + 1)) 169 0 = nI c := by rw [up_b (by decide), up_b (by decide), h.2.2.1]
    rw [k169]
    have o3 : Off [176, 165, 177] M (upM (upM (upM M 176 k (sgI T n p)) 165 0 ((upM M 176 k (sgI T n p)) 165 0 + 1)) 177 k (nI c)) := ((Off.up (by decide)).up' (by decide)).up' (by decide)
    have r165 : (upM (upM (upM M 176 k (sgI T n p)) 165 0 ((upM M 176 k (sgI T n p)) 165 0 + 1)) 177 k (nI c)) 165 0 = nI (p + 1) := by rw [up_b (by decide), up_s, up_b (by decide), h.1, nI_1]
    have r176 : (upM (upM (upM M 176 k (sgI T n p)) 165 0 ((upM M 176 k (sgI T n p)) 165 0 + 1)) 177 k (nI c)) 176 = upd (M 176) k (sgI T n p) := by rw [up_b (by decide), up_b (by decide), up_row]
    have r177 : (upM (upM (upM M 176 k (sgI T n p)) 165 0 ((upM M 176 k (sgI T n p)) 165 0 + 1)) 177 k (nI c)) 177 = upd (M 177) k (nI c) := by rw [up_row, up_b (by decide), up_b (by decide)]
    generalize upM (upM (upM M 176 k (sgI T n p)) 165 0 ((upM M 176 k (sgI T n p)) 165 0 + 1)) 177 k (nI c) = M1 at o3 r165 r176 r177
    have z2 : ROk T n (upM (upM M1 168 0 0) 170 0 0) (p + 1) 0 c [] := by
      have oo : Off [168, 170] M1 (upM (upM M1 168 0 0) 170 0 0) := (Off.up (by decide)).up' (by decide)
      exact ⟨by rw [oo 165 (by decide), r165], by rw [oo 166 (by decide), o3 166 (by decide), h.2.1], by rw [up_b (by decide), up_s]; rfl, by rw [oo 169 (by decide), o3 169 (by decide), h.2.2.1], by rw [up_s]; rfl, trivial, (fun x hx => by cases hx), fun j hj => by rw [oo 163 (by decide), o3 163 (by decide)]; exact h.2.2.2 j hj⟩
    have oz : Off [168, 170] M1 (upM (upM M1 168 0 0) 170 0 0) := (Off.up (by decide)).up' (by decide)
    generalize upM (upM M1 168 0 0) 170 0 0 = M2 at z2 oz
    have oM : Off RC M M2 := (o3.mono (by decide)).tr (oz.mono (by decide))
    have hA := pSum_adv (T := T) (n := n) (d := 6) (p + 1)
    rcases rsum_ok (d := 6) hT (by omega) z2 (fun i w' e => by cases e) (by omega) (by show 0 ≤ _; omega) (by omega) with ⟨e, K, e1, e2, e3, e4⟩ | ⟨q, K, e1, e2, e3, e4, e5, e6⟩
    · rw [e1]
      refine Or.inl ⟨e, K, rfl, ?_, e3, oM.tr (e4.mono (by decide))⟩
      rw [bs e2]
      rfl
    rw [e1] at hA ⊢
    obtain ⟨b1, b2, b3, b4⟩ := hA
    rw [bs e2]
    dsimp only
    have s171 : K 171 0 = nI k := by rw [e6 171 (by decide), oz 171 (by decide), o3 171 (by decide), hk0]
    have s169 := e3.2.2.2.1
    rw [if_neg (show ¬ (1 : Int32) = 0 by decide)]
    simp (disch := omega) only [s171, s169, ↓reduceIte, i_lt0, i_cl, nle_f, or_self, mset_eq]
    have o5 : Off [178] K (upM K 178 k (nI (c + q.2.length))) := Off.up (by decide)
    have a5 : ROk T n (upM K 178 k (nI (c + q.2.length))) q.1 0 (c + q.2.length) [] := e3.fr o5 (by decide)
    have r178 : (upM K 178 k (nI (c + q.2.length))) 178 = upd (K 178) k (nI (c + q.2.length)) := up_row
    generalize upM K 178 k (nI (c + q.2.length)) = K1 at o5 a5 r178
    have hcond := rcond_ok hT a5 (by omega) b3
    have hA2 := pCho_adv (T := T) (n := n) (d := 5) (q.1 + 1) (c + q.2.length)
    by_cases c3 : isC T n q.1 40 = true
    · rw [if_pos c3] at hcond ⊢
      cases hp2 : pCho T n 5 (q.1 + 1) (c + q.2.length) with
      | inl e =>
        rw [hp2] at hcond
        dsimp only at hcond ⊢
        rcases hcond with ⟨e', K2, d1, d2, d3, d4⟩ | ⟨r, K2, d1, _⟩
        · injection d1 with d1
          subst d1
          refine Or.inl ⟨_, K2, rfl, ?_, d3, ((oM.tr (e6.mono (by decide))).tr (o5.mono (by decide))).tr (d4.mono (by decide))⟩
          rw [bs d2]
          rfl
        · cases d1
      | inr r =>
        rw [hp2] at hcond hA2
        dsimp only at hcond ⊢
        obtain ⟨g1, g2, g3, g4⟩ := hA2
        by_cases c4 : isC T n r.1 41 = true
        · rw [if_pos c4] at hcond ⊢
          have hlt4 := (isC_lt c4).1
          rcases hcond with ⟨e', K2, d1, _⟩ | ⟨r', K2, d1, d2, d3, d4, d5, d6⟩
          · cases d1
          injection d1 with d1
          subst d1
          dsimp only at d3 d4
          have t171 : K2 171 0 = nI k := by rw [d6 171 (by decide), o5 171 (by decide), s171]
          have o7 : Off [171, 179] K2 (upM (upM K2 179 k (nI (c + q.2.length + r.2.length))) 171 0 ((upM K2 179 k (nI (c + q.2.length + r.2.length))) 171 0 + 1)) := (Off.up (by decide)).up' (by decide)
          refine Or.inr ⟨(r.1 + 1, clsN (T p), q.2, r.2), upM (upM K2 179 k (nI (c + q.2.length + r.2.length))) 171 0 ((upM K2 179 k (nI (c + q.2.length + r.2.length))) 171 0 + 1), rfl, ?_, d3.fr o7 (by decide), ?_, by omega, ⟨?_, ?_, ?_, ?_, ?_, ?_⟩, fun i hi => ?_, fun i hi => ⟨?_, ?_, ?_, ?_⟩, by dsimp only; omega, by dsimp only; omega, (((oM.tr (e6.mono (by decide))).tr (o5.mono (by decide))).tr (d6.mono (by decide))).tr (o7.mono (by decide))⟩
          · rw [bs d2]
            dsimp only
            have s169 := d3.2.2.2.1
            rw [if_neg (show ¬ (1 : Int32) = 0 by decide)]
            simp (disch := omega) only [t171, s169, ↓reduceIte, i_lt0, i_cl, nle_f, or_self, mset_eq]
          · rw [up_s, up_b (by decide), t171, nI_1]
          · rw [o7 176 (by decide), d6 176 (by decide), o5 176 (by decide), e6 176 (by decide), oz 176 (by decide), r176, ud_s, sgI_nI c1.1]
            exact hch.symm
          · rw [o7 177 (by decide), d6 177 (by decide), o5 177 (by decide), e6 177 (by decide), oz 177 (by decide), r177, ud_s]
          · rw [o7 178 (by decide), d6 178 (by decide), r178, ud_s]
          · rw [up_b (by decide), up_row, ud_s]
          · rw [o7 174 (by decide)]
            exact RdL_fr _ _ e4 fun i _ hi => by rw [d5 i hi, o5 174 (by decide)]
          · rw [o7 174 (by decide)]
            exact d4
          · rw [o7 174 (by decide), d5 i (by omega), o5 174 (by decide), e5 i hi, oz 174 (by decide), o3 174 (by decide)]
          · rw [o7 176 (by decide), d6 176 (by decide), o5 176 (by decide), e6 176 (by decide), oz 176 (by decide), r176, ud_n (by omega)]
          · rw [o7 177 (by decide), d6 177 (by decide), o5 177 (by decide), e6 177 (by decide), oz 177 (by decide), r177, ud_n (by omega)]
          · rw [o7 178 (by decide), d6 178 (by decide), r178, ud_n (by omega), e6 178 (by decide), oz 178 (by decide), o3 178 (by decide)]
          · rw [up_b (by decide), up_row, ud_n (by omega), d6 179 (by decide), o5 179 (by decide), e6 179 (by decide), oz 179 (by decide), o3 179 (by decide)]
        · rw [if_neg c4] at hcond ⊢
          rcases hcond with ⟨e', K2, d1, d2, d3, d4⟩ | ⟨r', K2, d1, _⟩
          · injection d1 with d1
            subst d1
            refine Or.inl ⟨_, K2, rfl, ?_, d3, ((oM.tr (e6.mono (by decide))).tr (o5.mono (by decide))).tr (d4.mono (by decide))⟩
            rw [bs d2]
            rfl
          · cases d1
    · rw [if_neg c3] at hcond ⊢
      rcases hcond with ⟨e', K2, d1, d2, d3, d4⟩ | ⟨r', K2, d1, _⟩
      · injection d1 with d1
        subst d1
        refine Or.inl ⟨_, K2, rfl, ?_, d3, ((oM.tr (e6.mono (by decide))).tr (o5.mono (by decide))).tr (d4.mono (by decide))⟩
        rw [bs d2]
        rfl
      · cases d1
  · rw [if_neg c1, b2i_f c1, if_pos rfl]
    obtain ⟨K, e, e2, o2⟩ := h.wrong (k := 1) (a := 1) rfl
    refine Or.inl ⟨_, K, rfl, ?_, e2, o2.mono (by decide)⟩
    rw [bs e, if_pos (Or.inl rfl)]
