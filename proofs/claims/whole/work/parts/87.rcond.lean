/-! PURE: the reference's conditions, against the reading from the left -/
theorem ROk.jump {T : Nat → Nat} {n p o c s : Nat} {w : List Ins} {M : xMem} (h : ROk T n M p o c w) (hs : s < 16) (hc : c ≤ 250) (hw : w.length ≤ 250) : ∃ K, g9_jumps (nI s) M = some K ∧ ROk T n K (p + 1) o (c + 1) ((s, c) :: w) ∧ K 174 = upd (M 174) c (pk (s, 0)) ∧ Off RB M K := by
  have h5 := h.2.2.2.2.1
  have h4 := h.2.2.2.1
  have hv : (1048576 : Int32) * nI s + M 169 0 = pk (s, c) := by
    rw [h4]
    unfold pk U
    rw [show (1048576 : Int32) = nI 1048576 from rfl, pk_mul, nI_add]
  have p1 := h.push (i := (s, c)) (v := (1048576 : Int32) * nI s + M 169 0) ⟨hs, show c < 1048576 by omega⟩ hv
  obtain ⟨K1, n1, n2, n3, n4⟩ := notes_eq p1 (show c < 260 by omega) (s, 0) (a := nI s) (b := 0) rfl rfl
  refine ⟨upM K1 165 0 (K1 165 0 + 1), ?_, n2.step, by rw [up_b (by decide), n3, up_b (by decide), up_b (by decide)], ((((Off.up (by decide)).up' (by decide)).tr (n4.mono (by decide)))).up' (by decide)⟩
  unfold g9_jumps
  rw [h5]
  simp (disch := omega) only [↓reduceIte, i_lt0, i_cl, nle_f, or_self, mset_eq]
  rw [up_b (show (170 : Nat) ≠ 175 by decide), bs n1]
theorem opens_ok {T : Nat → Nat} {n p o c s : Nat} {w : List Ins} {M : xMem} (h : ROk T n M p o c w) (hs : s < 16) (ho : o < 6) (hw : w.length ≤ 250) : ∃ K, g9_opens (nI s) M = some (1, K) ∧ ROk T n K (p + 1) (o + 1) c ((s, 0) :: w) ∧ K 174 = M 174 ∧ Off RB M K := by
  have p1 := h.opn (o' := o + 1) (v := nI o + 1) (nI_1 o)
  have h170 : (upM M 168 0 (nI o + 1)) 170 0 = nI w.length := p1.2.2.2.2.1
  have p2 := p1.push (i := (s, 0)) (v := (1048576 : Int32) * nI s) ⟨hs, show (0 : Nat) < 1048576 by decide⟩ (by
    unfold pk U
    rw [show (1048576 : Int32) = nI 1048576 from rfl, pk_mul]; rfl)
  refine ⟨_, ?_, p2.step, by rw [up_b (by decide), up_b (by decide), up_b (by decide), up_b (by decide)], (((Off.up (by decide)).up' (by decide)).up' (by decide)).up' (by decide)⟩
  unfold g9_opens
  rw [h.2.2.1, if_neg (show ¬ nI o = 6 from fun r => by have := (nI_eq (b := 6) (by omega) (by omega)).mp r; omega), mset_eq, h170]
  simp (disch := omega) only [↓reduceIte, i_lt0, i_cl, nle_f, or_self, mset_eq]
  rw [up_b (show (170 : Nat) ≠ 175 by decide), h170]
theorem opens_6 {T : Nat → Nat} {n p c : Nat} {a : Int32} {w : List Ins} {M : xMem} (h : ROk T n M p 6 c w) : ∃ K, g9_opens a M = some (0, K) ∧ K 167 0 = flt 5 p ∧ Off RB M K := by
  obtain ⟨K, e, e2, o2⟩ := h.wrong (k := 5) (a := 5) rfl
  refine ⟨K, ?_, e2, o2⟩
  unfold g9_opens
  rw [h.2.2.1, if_pos (show nI 6 = 6 from rfl), bs e, if_pos (Or.inl rfl)]
/-- the jumps that wait, ended at v -/
def landF (v : Nat) : List Ins → (Nat → Int32) → Nat → Int32
  | [], E => E
  | i :: P, E => landF v P (upd E i.2 (pk (i.1, v)))
theorem landF_app {v : Nat} : ∀ (A B : List Ins) (E : Nat → Int32), landF v (A ++ B) E = landF v B (landF v A E)
  | [], _, _ => rfl
  | _ :: A, B, _ => landF_app A B _
theorem landF_out {v c : Nat} : ∀ (R : List Ins) (E : Nat → Int32) {j : Nat}, (∀ x ∈ R, x.2 < c) → c ≤ j → landF v R E j = E j
  | [], _, _, _, _ => rfl
  | i :: R, E, j, h, hj => by
    have := h i (List.mem_cons_self ..)
    show landF v R (upd E i.2 (pk (i.1, v))) j = E j
    rw [landF_out R _ (fun x hx => h x (List.mem_cons_of_mem _ hx)) hj, ud_n (by omega)]
theorem landF_cg {v c : Nat} : ∀ (R : List Ins) (E E' : Nat → Int32), (∀ i, i < c → E i = E' i) → ∀ j, j < c → landF v R E j = landF v R E' j
  | [], _, _, h, j, hj => h j hj
  | i :: R, E, E', h, j, hj => landF_cg R _ _ (fun k hk => by
    by_cases q : k = i.2
    · rw [q, ud_s, ud_s]
    · rw [ud_n q, ud_n q]; exact h k hk) j hj
theorem landF_quo {v : Nat} (hv : v < 1048576) : ∀ (R : List Ins) (E : Nat → Int32), (∀ x ∈ R, x.1 < 16 ∧ E x.2 / 1048576 = nI x.1) → ∀ j, landF v R E j / 1048576 = E j / 1048576
  | [], _, _, _ => rfl
  | i :: R, E, h, j => by
    obtain ⟨a1, a2⟩ := h i (List.mem_cons_self ..)
    have q : ∀ k, upd E i.2 (pk (i.1, v)) k / 1048576 = E k / 1048576 := by
      intro k
      by_cases c : k = i.2
      · rw [c, ud_s, a2]; exact pk_div20 ⟨a1, hv⟩
      · rw [ud_n c]
    show landF v R (upd E i.2 (pk (i.1, v))) j / 1048576 = _
    rw [landF_quo hv R _ (fun x hx => by
      obtain ⟨b1, b2⟩ := h x (List.mem_cons_of_mem _ hx)
      exact ⟨b1, by rw [q]; exact b2⟩) j, q]
def Pnd (a : Bool) (R : List Ins) (c : Nat) (E : Nat → Int32) : Prop := ∀ x ∈ R, (x.1 = 11 ∨ (a = true ∧ x.1 = 12)) ∧ x.2 < c ∧ E x.2 / 1048576 = nI x.1
theorem Pnd.lt {a : Bool} {R : List Ins} {c : Nat} {E : Nat → Int32} (h : Pnd a R c E) : ∀ x ∈ R, x.2 < c := fun x hx => (h x hx).2.1
theorem Pnd.q {a : Bool} {R : List Ins} {c : Nat} {E : Nat → Int32} (h : Pnd a R c E) : ∀ x ∈ R, x.1 < 16 ∧ E x.2 / 1048576 = nI x.1 := fun x hx => ⟨by rcases (h x hx).1 with q | ⟨_, q⟩ <;> omega, (h x hx).2.2⟩
theorem Pnd.app {a b : Bool} {R Q : List Ins} {c c' : Nat} {E : Nat → Int32} (h : Pnd a R c E) (h' : Pnd b Q c' E) (hc : c' ≤ c) : Pnd true (R ++ Q) c E := fun x hx => by
  rcases List.mem_append.mp hx with q | q
  · obtain ⟨a1, a2, a3⟩ := h x q
    exact ⟨a1.imp id fun r => ⟨rfl, r.2⟩, a2, a3⟩
  · obtain ⟨a1, a2, a3⟩ := h' x q
    exact ⟨a1.imp id fun r => ⟨rfl, r.2⟩, by omega, a3⟩
theorem lands_b {T : Nat → Nat} {n p o c : Nat} (a : Bool) : ∀ (R w : List Ins) (f : Nat) (M : xMem), R.length < f → (R ++ w).length ≤ 250 → c ≤ 250 → ROk T n M p o c (R ++ w) → Pnd a R c (M 174) → tpI w ≠ 11 → (a = true → tpI w ≠ 12) →
    ∃ K, g9_lands_b0 f (if a = true then 1 else 0) M = some K ∧ ROk T n K p o c w ∧ K 174 = landF c R (M 174) ∧ Off [174, 170] M K
  | [], w, f + 1, M, hf, hl, hc, h, hr, t1, t2 => by
    have ht := top_eq (w := w) h (by simp at hl ⊢; omega)
    refine ⟨M, ?_, h, rfl, Off.rf⟩
    unfold g9_lands_b0
    rw [bs ht]
    dsimp only
    rw [if_neg t1]
    cases a
    · rw [if_pos (show (if false = true then (1 : Int32) else 0) = 0 by decide)]
    · rw [if_neg (show ¬ (if true = true then (1 : Int32) else 0) = 0 by decide), bs ht]
      dsimp only
      rw [if_neg (t2 rfl)]
  | i :: R, w, f + 1, M, hf, hl, hc, h, hr, t1, t2 => by
    have hl' : (i :: (R ++ w)).length ≤ 250 := hl
    have hlen : (i :: (R ++ w)).length = (R ++ w).length + 1 := rfl
    have h' : ROk T n M p o c (i :: (R ++ w)) := h
    have ht := top_eq h' (by omega)
    have e : tpI (i :: (R ++ w)) = nI i.1 := rfl
    rw [e] at ht
    obtain ⟨a1, a2, a3⟩ := hr i (List.mem_cons_self ..)
    have hq : i.1 < 16 := by rcases a1 with q | ⟨_, q⟩ <;> omega
    obtain ⟨h1, h2, h3, h4, h5, h6, h7, h8⟩ := h'
    have hsm := h7 i (List.mem_cons_self ..)
    have b22 : ∀ z : Int32, g9_lands_b22 (g9_lands_b0 f) z M = g9_lands_b0 f z (upM (upM M 174 i.2 (pk (i.1, c))) 170 0 ((upM M 174 i.2 (pk (i.1, c))) 170 0 - 1)) := by
      intro z
      unfold g9_lands_b22
      rw [h5, hlen, nI_pred]
      have hc1 : (nI (R ++ w).length).toNatClampNeg = (R ++ w).length := i_cl (by omega)
      rw [hc1, h6.1, pk_rem20 hsm]
      simp (disch := omega) only [↓reduceIte, i_lt0, i_cl, nle_f, or_self, mset_eq]
      rw [a3, h4, show (1048576 : Int32) * nI i.1 + nI c = pk (i.1, c) by
        unfold pk U
        rw [show (1048576 : Int32) = nI 1048576 from rfl, pk_mul, nI_add]]
    have p1 : ROk T n (upM M 174 i.2 (pk (i.1, c))) p o c (i :: (R ++ w)) := ROk.fr h (S := [174]) (Off.up (by decide)) (by decide)
    have p2 := p1.pop
    have o2 : Off [174, 170] M (upM (upM M 174 i.2 (pk (i.1, c))) 170 0 ((upM M 174 i.2 (pk (i.1, c))) 170 0 - 1)) := (Off.up (by decide)).up' (by decide)
    have r174 : (upM (upM M 174 i.2 (pk (i.1, c))) 170 0 ((upM M 174 i.2 (pk (i.1, c))) 170 0 - 1)) 174 = upd (M 174) i.2 (pk (i.1, c)) := by rw [up_b (by decide), up_row]
    generalize upM (upM M 174 i.2 (pk (i.1, c))) 170 0 ((upM M 174 i.2 (pk (i.1, c))) 170 0 - 1) = K2 at b22 p2 o2 r174
    have hr2 : Pnd a R c (K2 174) := by
      intro x hx
      obtain ⟨c1, c2, c3⟩ := hr x (List.mem_cons_of_mem _ hx)
      refine ⟨c1, c2, ?_⟩
      rw [r174]
      by_cases q : x.2 = i.2
      · rw [q, ud_s, pk_div20 (i := (i.1, c)) ⟨hq, show c < 1048576 by omega⟩, ← c3, q, a3]
      · rw [ud_n q]; exact c3
    have rl : (i :: R).length = R.length + 1 := rfl
    obtain ⟨K, e1, k1, k2, k3⟩ := lands_b a R w f K2 (by omega) (by omega) hc p2 hr2 t1 t2
    refine ⟨K, ?_, k1, by rw [k2, r174]; rfl, o2.tr k3⟩
    unfold g9_lands_b0
    rw [bs ht]
    dsimp only
    by_cases c1 : i.1 = 11
    · rw [if_pos (show nI i.1 = 11 by rw [c1]; rfl), b22]; exact e1
    · obtain ⟨ha, c2⟩ := a1.resolve_left c1
      subst ha
      rw [if_neg (show ¬ nI i.1 = 11 by rw [c2]; decide), if_pos rfl, if_neg (by decide), bs ht, if_pos (show nI i.1 = 12 by rw [c2]; rfl), b22]
      exact e1
theorem ends_0 {T : Nat → Nat} {n p o c g : Nat} {w : List Ins} {M : xMem} (h : ROk T n M p o c w) (hw : w.length ≤ 250) (ht : tpI w ≠ 10) (hg : 0 < g) : g9_endsPiece_b0 g M = some M := by
  obtain ⟨g, rfl⟩ : ∃ g', g = g' + 1 := ⟨g - 1, by omega⟩
  unfold g9_endsPiece_b0
  rw [bs (top_eq h (by omega)), if_neg ht]
theorem ends_10 {T : Nat → Nat} {n p o c g : Nat} {w : List Ins} {M : xMem} (h : ROk T n M p (o + 1) c ((10, 0) :: w)) (hw : w.length ≤ 249) (hc : c < 260) : ∃ K, g9_endsPiece_b0 (g + 1) M = g9_endsPiece_b0 g K ∧ ROk T n K p o (c + 1) w ∧ K 174 = upd (M 174) c (pk (10, 0)) ∧ Off RB M K := by
  have hl : ((10, 0) :: w : List Ins).length = w.length + 1 := rfl
  obtain ⟨K1, n1, n2, n3, n4⟩ := notes_eq h hc (10, 0) (a := 10) (b := 0) rfl rfl
  have p1 := n2.pop
  have p2 := p1.opn (o' := o) (v := (upM K1 170 0 (K1 170 0 - 1)) 168 0 - 1) (by rw [p1.2.2.1]; exact nI_pred o)
  refine ⟨_, ?_, p2, by rw [up_b (by decide), up_b (by decide), n3], ((n4.mono (by decide)).up' (by decide)).up' (by decide)⟩
  rw [g9_endsPiece_b0, bs (top_eq h (by omega))]
  dsimp only
  rw [if_pos (show tpI ((10, 0) :: w) = 10 from rfl), bs n1, mset_eq, mset_eq]
/-- & or | behind a piece -/
theorem pe_jump {T : Nat → Nat} {n p o c j : Nat} (hT : Txt T n) (a : Bool) {R w : List Ins} {k40 : xMem → Option (Int32 × xMem)} {M : xMem} (h : ROk T n M p o c (R ++ w)) (hp : isC T n p (if a = true then 124 else 38) = true) (hr : Pnd a R c (M 174)) (t1 : tpI w ≠ 11) (t2 : a = true → tpI w ≠ 12) (hl : (R ++ w).length ≤ 250) (hc : c ≤ 250) :
    ∃ K, g9_readsCondition_b92 k40 (j + 1) M = k40 K ∧ ROk T n K (p + 1) o (c + 1) ((if a = true then 12 else 11, c) :: w) ∧ K 174 = upd (landF c R (M 174)) c (pk (if a = true then 12 else 11, 0)) ∧ Off RB M K := by
  have hlt := isC_lt hp
  have he := here_eq hT h (by omega)
  have hrl : R.length ≤ 250 := by rw [List.length_append] at hl; omega
  have hwl : w.length ≤ 250 := by rw [List.length_append] at hl; omega
  obtain ⟨K1, l1, l2, l3, l4⟩ := lands_b a R w 5000 M (by omega) hl hc h hr t1 t2
  have l1' : g9_lands (if a = true then 1 else 0) M = some K1 := l1
  have he1 := here_eq hT l2 (by omega)
  have n41 : ¬ sgI T n p = 41 := fun r => by
    have := (isC_lt ((sg_is hT (c := 41) (by omega)).mp r)).2
    cases a
    · rw [if_neg (by decide)] at hlt; omega
    · rw [if_pos rfl] at hlt; omega
  obtain ⟨K2, j1, j2, j3, j4⟩ := l2.jump (s := if a = true then 12 else 11) (by cases a <;> decide) hc hwl
  refine ⟨K2, ?_, j2, by rw [j3, l3], (l4.mono (by decide)).tr j4⟩
  rw [g9_readsCondition_b92, bs he]
  dsimp only
  rw [if_neg n41, bs he]
  dsimp only
  cases a
  · have q : sgI T n p = 38 := (sg_is hT (c := 38) (by omega)).mpr hp
    have q' : ¬ sgI T n p = 124 := by rw [q]; decide
    rw [if_pos q]
    unfold g9_readsCondition_b180
    rw [bs he]
    dsimp only
    rw [if_neg q']
    unfold g9_readsCondition_b195
    rw [bs (show g9_lands 0 M = some K1 from l1'), bs he1]
    dsimp only
    rw [if_pos q]
    unfold g9_readsCondition_b215
    rw [bs (show g9_jumps 11 K1 = some K2 from j1)]
  · have q : sgI T n p = 124 := (sg_is hT (c := 124) (by omega)).mpr hp
    have q' : ¬ sgI T n p = 38 := by rw [q]; decide
    rw [if_neg q', bs he]
    dsimp only
    rw [if_pos q]
    unfold g9_readsCondition_b180
    rw [bs he]
    dsimp only
    rw [if_pos q]
    unfold g9_readsCondition_b195
    rw [bs (show g9_lands 1 M = some K1 from l1'), bs he1]
    dsimp only
    rw [if_neg q']
    unfold g9_readsCondition_b215
    rw [bs (show g9_jumps 12 K1 = some K2 from j1)]
/-- the bracket's end -/
theorem pe_close {T : Nat → Nat} {n p o c j : Nat} (hT : Txt T n) {R w : List Ins} {k40 : xMem → Option (Int32 × xMem)} {M : xMem} (h : ROk T n M p (o + 1) c (R ++ (13, 0) :: w)) (hp : isC T n p 41 = true) (hr : Pnd true R c (M 174)) (hl : (R ++ (13, 0) :: w).length ≤ 250) (hc : c ≤ 250) :
    ∃ K, ROk T n K (p + 1) o c w ∧ K 174 = landF c R (M 174) ∧ Off RB M K ∧ (w = [] → g9_readsCondition_b92 k40 (j + 1) M = some (1, K)) ∧ (w ≠ [] → g9_readsCondition_b92 k40 (j + 1) M = Option.bind (g9_endsPiece_b0 5000 K) (g9_readsCondition_b92 k40 j)) := by
  have hlt := isC_lt hp
  have he := here_eq hT h (by omega)
  have hll : (R ++ (13, 0) :: w).length = R.length + (w.length + 1) := by rw [List.length_append]; rfl
  obtain ⟨K1, l1, l2, l3, l4⟩ := lands_b true R ((13, 0) :: w) 5000 M (by omega) hl hc h hr (by show (13 : Int32) ≠ 11; decide) (fun _ => by show (13 : Int32) ≠ 12; decide)
  have l1' : g9_lands 1 M = some K1 := l1
  have s1 := l2.pop
  have s2 := s1.opn (o' := o) (v := (upM K1 170 0 (K1 170 0 - 1)) 168 0 - 1) (by rw [s1.2.2.1]; exact nI_pred o)
  have s3 := s2.step
  have h41 : sgI T n p = 41 := (sg_is hT (c := 41) (by omega)).mpr hp
  have hm : g9_readsCondition_b92 k40 (j + 1) M = (if (upM (upM (upM K1 170 0 (K1 170 0 - 1)) 168 0 ((upM K1 170 0 (K1 170 0 - 1)) 168 0 - 1)) 165 0 ((upM (upM K1 170 0 (K1 170 0 - 1)) 168 0 ((upM K1 170 0 (K1 170 0 - 1)) 168 0 - 1)) 165 0 + 1)) 170 0 = 0 then some (1, upM (upM (upM K1 170 0 (K1 170 0 - 1)) 168 0 ((upM K1 170 0 (K1 170 0 - 1)) 168 0 - 1)) 165 0 ((upM (upM K1 170 0 (K1 170 0 - 1)) 168 0 ((upM K1 170 0 (K1 170 0 - 1)) 168 0 - 1)) 165 0 + 1)) else Option.bind (g9_endsPiece (upM (upM (upM K1 170 0 (K1 170 0 - 1)) 168 0 ((upM K1 170 0 (K1 170 0 - 1)) 168 0 - 1)) 165 0 ((upM (upM K1 170 0 (K1 170 0 - 1)) 168 0 ((upM K1 170 0 (K1 170 0 - 1)) 168 0 - 1)) 165 0 + 1))) fun q => g9_readsCondition_b92 k40 j q) := by
    rw [g9_readsCondition_b92, bs he]
    dsimp only
    rw [if_pos h41, bs l1', mset_eq, mset_eq, mset_eq]
  refine ⟨_, s3, by rw [up_b (by decide), up_b (by decide), up_b (by decide), l3], (((l4.mono (by decide)).up' (by decide)).up' (by decide)).up' (by decide), fun hw => ?_, fun hw => ?_⟩
  · rw [hm, s3.2.2.2.2.1, hw, if_pos (show nI ([] : List Ins).length = 0 from rfl)]
  · rw [hm, s3.2.2.2.2.1, if_neg (nI_ne0 (by
      rcases w with _ | ⟨i, w'⟩
      · exact absurd rfl hw
      · exact Nat.succ_pos _) (by omega))]
    rfl
theorem pe_wrong {T : Nat → Nat} {n p o c j : Nat} (hT : Txt T n) {w : List Ins} {k40 : xMem → Option (Int32 × xMem)} {M : xMem} (h : ROk T n M p o c w) (hp : p ≤ n) (h1 : ¬ isC T n p 41 = true) (h2 : ¬ isC T n p 38 = true) (h3 : ¬ isC T n p 124 = true) : ∃ K, g9_readsCondition_b92 k40 (j + 1) M = some (0, K) ∧ K 167 0 = flt 1 p ∧ Off RB M K := by
  have hn := hT.1
  have he := here_eq hT h hp
  obtain ⟨K, e, e2, o2⟩ := h.wrong (k := 1) (a := 1) rfl
  refine ⟨K, ?_, e2, o2⟩
  rw [g9_readsCondition_b92, bs he]
  dsimp only
  rw [if_neg (show ¬ sgI T n p = 41 from fun r => h1 ((sg_is hT (c := 41) (by omega)).mp r)), bs he]
  dsimp only
  rw [if_neg (show ¬ sgI T n p = 38 from fun r => h2 ((sg_is hT (c := 38) (by omega)).mp r)), bs he]
  dsimp only
  rw [if_neg (show ¬ sgI T n p = 124 from fun r => h3 ((sg_is hT (c := 124) (by omega)).mp r)), bs e, if_pos (Or.inl rfl)]
def HPie (T : Nat → Nat) (n o : Nat) (pc : Nat → Nat → RR (Nat × List Ins)) : Prop := ∀ (p c : Nat) (w : List Ins) (f : Nat) (M : xMem), ROk T n M p o c w → clean w 2 → w ≠ [] → c ≤ p → w.length ≤ p → p ≤ n → 300 ≤ f + p →
  (∃ e K, pc p c = .inl e ∧ g9_readsCondition_b40 f M = some (0, K) ∧ K 167 0 = e ∧ Off RB M K) ∨
  ∃ q f' j' g K, pc p c = .inr q ∧ g9_readsCondition_b40 f M = Option.bind (g9_endsPiece_b0 g K) (g9_readsCondition_b92 (g9_readsCondition_b40 f') j') ∧ w.length < g ∧ 300 ≤ f' + q.1 ∧ 300 ≤ j' + q.1 ∧ ROk T n K q.1 o (c + q.2.length) w ∧ RdL (K 174) c q.2 ∧ (∀ i, i < c → K 174 i = M 174 i) ∧ Off RB M K
def JRes (T : Nat → Nat) (n : Nat) (a : Bool) (o c : Nat) (w P : List Ins) (M : xMem) (S : Nat → Prop) (r : RR (Nat × List Ins × Nat)) (g : Option (Int32 × xMem)) : Prop :=
  (∃ e K, r = .inl e ∧ g = some (0, K) ∧ K 167 0 = e ∧ Off RB M K) ∨
  ∃ (q : Nat × List Ins × Nat) (f' j' : Nat) (K : xMem) (R : List Ins), r = .inr q ∧ g = g9_readsCondition_b92 (g9_readsCondition_b40 f') j' K ∧ ROk T n K q.1 o (c + q.2.1.length) (R ++ w) ∧ Pnd a R (c + q.2.1.length) (K 174) ∧ (R ++ w).length ≤ q.1 ∧ RdL (landF (c + q.2.1.length) R (K 174)) c q.2.1 ∧ (∀ j, j < c → landF (c + q.2.1.length) R (K 174) j = landF (c + q.2.2) P (M 174) j) ∧ Off RB M K ∧ 300 ≤ f' + q.1 ∧ 300 ≤ j' + q.1 ∧ S q.1
theorem clean_tp {w : List Ins} (h : ∀ i w', w = i :: w' → 10 ≤ i.1) : clean w 2 := fun i w' e => by have := h i w' e; omega
theorem rpart_b {T : Nat → Nat} {n o : Nat} (hT : Txt T n) {pc : Nat → Nat → RR (Nat × List Ins)} (H : HPie T n o pc) (hadv : ∀ p c, Adv n p (pc p c)) : ∀ (k p c : Nat) (P w : List Ins) (f : Nat) (M : xMem), 480 ≤ p + 2 * k → ROk T n M p o c (P ++ w) → Pnd false P c (M 174) → (∃ i w', w = i :: w' ∧ (i.1 = 12 ∨ i.1 = 13)) → c ≤ p → (P ++ w).length ≤ p → p ≤ n → 300 ≤ f + p →
    JRes T n false o c w P M (fun p => ¬ isC T n p 38 = true) (pJmp T n 38 11 pc k p c) (g9_readsCondition_b40 f M)
  | 0, p, c, P, w, f, M, hk, h, hP, hw, hc, hl, hp, hf => absurd hp (by have := hT.1; omega)
  | k + 1, p, c, P, w, f, M, hk, h, hP, hw, hc, hl, hp, hf => by
    have hn := hT.1
    have hA := hadv p c
    have t0 : ∀ i w', P ++ w = i :: w' → 11 ≤ i.1 := by
      intro i w' e
      obtain ⟨i2, w2, e2, e3⟩ := hw
      rcases P with _ | ⟨x, P⟩
      · rw [List.nil_append, e2] at e
        injection e with e _
        rw [← e]; omega
      · injection e with e _
        rw [← e]
        have := (hP x (List.mem_cons_self ..)).1
        rcases this with q | ⟨q, _⟩
        · omega
        · exact absurd q (by decide)
    have tw : tpI w ≠ 11 := by
      obtain ⟨i2, w2, e2, e3⟩ := hw
      rw [e2]
      show nI i2.1 ≠ 11
      rcases e3 with q | q <;> rw [q] <;> decide
    have tq : tpI (P ++ w) ≠ 10 := by
      cases hPw : P ++ w with
      | nil => show (-1 : Int32) ≠ 10; decide
      | cons i w' =>
        have h1 := t0 i w' hPw
        have h2 := (h.2.2.2.2.2.2.1 i (by rw [hPw]; exact List.mem_cons_self ..)).1
        show nI i.1 ≠ 10
        exact fun r => by have := (nI_eq (b := 10) (by omega) (by omega)).mp r; omega
    unfold pJmp
    rcases H p c (P ++ w) f M h (clean_tp fun i w' e => by have := t0 i w' e; omega) (by obtain ⟨i2, w2, e2, e3⟩ := hw; rw [e2]; simp) hc hl hp hf with ⟨e, K, e1, e2, e3, e4⟩ | ⟨q, f1, j1, g, K, e1, e2, e3, e4, e5, e6, e7, e8, e9⟩
    · rw [e1]
      exact Or.inl ⟨e, K, rfl, e2, e3, e4⟩
    rw [e1] at hA ⊢
    obtain ⟨a1, a2, a3, a4⟩ := hA
    dsimp only
    rw [bs (ends_0 e6 (by omega) tq (by omega))] at e2
    have hPK : Pnd false P (c + q.2.length) (K 174) := fun x hx => by
      obtain ⟨b1, b2, b3⟩ := hP x hx
      exact ⟨b1, by omega, by rw [e8 x.2 b2]; exact b3⟩
    by_cases c1 : isC T n q.1 38 = true
    · rw [if_pos c1]
      have hlt := (isC_lt c1).1
      obtain ⟨j2, rfl⟩ : ∃ j2, j1 = j2 + 1 := ⟨j1 - 1, by omega⟩
      obtain ⟨K2, g1, g2, g3, g4⟩ := pe_jump (k40 := g9_readsCondition_b40 f1) (j := j2) hT false e6 (by rw [if_neg (by decide)]; exact c1) hPK tw (fun r => absurd r (by decide)) (by omega) (by omega)
      rw [if_neg (by decide)] at g2 g3
      rw [e2, g1]
      have hll : (P ++ w).length = P.length + w.length := List.length_append
      have ih := rpart_b hT H hadv k (q.1 + 1) (c + q.2.length + 1) [(11, c + q.2.length)] w f1 K2 (by omega) g2 (fun x hx => by
        have : x = (11, c + q.2.length) := by simpa using hx
        subst this
        refine ⟨Or.inl rfl, Nat.lt_succ_self _, ?_⟩
        dsimp only
        rw [g3, ud_s]
        exact pk_div20 ⟨by decide, show (0 : Nat) < 1048576 by decide⟩) hw (by omega) (by show w.length + 1 ≤ _; omega) (by omega) (by omega)
      rcases ih with ⟨e, K', r1, r2, r3, r4⟩ | ⟨r, f', j', K', R, r1, r2, r3, r4, r5, r6, r7, r8, r9, r10, r11⟩
      · rw [r1]
        exact Or.inl ⟨e, K', rfl, r2, r3, (e9.tr g4).tr r4⟩
      rw [r1]
      dsimp only
      have hv : c + (q.2 ++ (11, c + q.2.length + 1 + r.2.2) :: r.2.1).length = c + q.2.length + 1 + r.2.1.length := by rw [List.length_append, List.length_cons]; omega
      have low : ∀ j, j < c + q.2.length → landF (c + q.2.length + 1 + r.2.1.length) R (K' 174) j = landF (c + q.2.length) P (K 174) j := by
        intro j hj
        rw [r7 j (by omega)]
        show upd (K2 174) (c + q.2.length) _ j = _
        rw [ud_n (by omega), g3, ud_n (by omega)]
      refine Or.inr ⟨_, f', j', K', R, rfl, r2, ?_, ?_, r5, ?_, fun j hj => ?_, (e9.tr g4).tr r8, r9, r10, r11⟩
      · dsimp only; rw [hv]; exact r3
      · dsimp only; rw [hv]; exact r4
      · dsimp only
        rw [hv]
        refine (RdL_app _ _ _).mpr ⟨RdL_fr _ _ e7 fun i h1 h2 => ?_, ?_, r6⟩
        · rw [low i h2, landF_out P _ hP.lt h1]
        · rw [r7 _ (by omega)]
          show upd (K2 174) (c + q.2.length) _ _ = _
          rw [ud_s]
      · dsimp only
        rw [hv, low j (by omega)]
        exact landF_cg P _ _ e8 j hj
    · rw [if_neg c1]
      refine Or.inr ⟨_, f1, j1, K, P, rfl, e2, e6, hPK, by dsimp only; omega, ?_, fun j hj => landF_cg P _ _ e8 j hj, e9, e4, e5, c1⟩
      exact RdL_fr _ _ e7 fun i h1 _ => landF_out P _ hP.lt h1
theorem rcho_b {T : Nat → Nat} {n o : Nat} (hT : Txt T n) {pc : Nat → Nat → RR (Nat × List Ins)} (H : HPie T n o pc) (hadv : ∀ p c, Adv n p (pc p c)) : ∀ (k p c : Nat) (Q w : List Ins) (f : Nat) (M : xMem), 480 ≤ p + 2 * k → ROk T n M p o c (Q ++ (13, 0) :: w) → (∀ x ∈ Q, x.1 = 12) → Pnd true Q c (M 174) → c ≤ p → (Q ++ (13, 0) :: w).length ≤ p → p ≤ n → 300 ≤ f + p →
    JRes T n true o c ((13, 0) :: w) Q M (fun p => ¬ isC T n p 38 = true ∧ ¬ isC T n p 124 = true) (pJmp T n 124 12 (pPart T n pc) k p c) (g9_readsCondition_b40 f M)
  | 0, p, c, Q, w, f, M, hk, h, hQ, hP, hc, hl, hp, hf => absurd hp (by have := hT.1; omega)
  | k + 1, p, c, Q, w, f, M, hk, h, hQ, hP, hc, hl, hp, hf => by
    have hn := hT.1
    have hA := pPart_adv (T := T) hadv p c
    have hw : ∃ i w', Q ++ (13, 0) :: w = i :: w' ∧ (i.1 = 12 ∨ i.1 = 13) := by
      rcases Q with _ | ⟨x, Q⟩
      · exact ⟨_, _, rfl, Or.inr rfl⟩
      · exact ⟨_, _, rfl, Or.inl (hQ x (List.mem_cons_self ..))⟩
    have hpt := rpart_b hT H hadv 240 p c [] (Q ++ (13, 0) :: w) f M (by omega) h (fun x hx => by cases hx) hw hc hl hp hf
    have hpp : pPart T n pc p c = dropL (pJmp T n 38 11 pc 240 p c) := rfl
    unfold pJmp
    rw [hpp] at hA ⊢
    rcases hpt with ⟨e, K, e1, e2, e3, e4⟩ | ⟨q, f1, j1, K, R, e1, e2, e3, e4, e5, e6, e7, e8, e9, e10, e11⟩
    · rw [e1]
      exact Or.inl ⟨e, K, rfl, e2, e3, e4⟩
    rw [e1] at hA ⊢
    obtain ⟨a1, a2, a3, a4⟩ := hA
    dsimp only [dropL] at a1 a2 a3 a4 ⊢
    have v20 : c + q.2.1.length < 1048576 := by omega
    have hll : (R ++ (Q ++ (13, 0) :: w)).length = R.length + (Q ++ (13, 0) :: w).length := List.length_append
    have hll2 : (Q ++ (13, 0) :: w).length = Q.length + (w.length + 1) := by rw [List.length_append]; rfl
    have hQK : Pnd true Q c (K 174) := fun x hx => by
      obtain ⟨b1, b2, b3⟩ := hP x hx
      refine ⟨b1, b2, ?_⟩
      rw [← landF_quo v20 R _ e4.q x.2, e7 x.2 b2]
      exact b3
    have hRQ : Pnd true (R ++ Q) (c + q.2.1.length) (K 174) := e4.app hQK (by omega)
    have e3' : ROk T n K q.1 o (c + q.2.1.length) ((R ++ Q) ++ (13, 0) :: w) := by rw [List.append_assoc]; exact e3
    have el' : ((R ++ Q) ++ (13, 0) :: w).length ≤ q.1 := by rw [List.append_assoc]; exact e5
    have hi : ∀ j, c ≤ j → landF (c + q.2.1.length) (R ++ Q) (K 174) j = landF (c + q.2.1.length) R (K 174) j := fun j hj => by
      rw [landF_app, landF_out Q _ hP.lt hj]
    have lo : ∀ j, j < c → landF (c + q.2.1.length) (R ++ Q) (K 174) j = landF (c + q.2.1.length) Q (M 174) j := fun j hj => by
      rw [landF_app]
      exact landF_cg Q _ _ e7 j hj
    by_cases c1 : isC T n q.1 124 = true
    · rw [if_pos c1]
      have hlt := (isC_lt c1).1
      obtain ⟨j2, rfl⟩ : ∃ j2, j1 = j2 + 1 := ⟨j1 - 1, by omega⟩
      obtain ⟨K2, g1, g2, g3, g4⟩ := pe_jump (k40 := g9_readsCondition_b40 f1) (j := j2) hT true e3' (by rw [if_pos rfl]; exact c1) hRQ (by show (13 : Int32) ≠ 11; decide) (fun _ => by show (13 : Int32) ≠ 12; decide) (by omega) (by omega)
      rw [if_pos rfl] at g2 g3
      rw [e2, g1]
      have ih := rcho_b hT H hadv k (q.1 + 1) (c + q.2.1.length + 1) [(12, c + q.2.1.length)] w f1 K2 (by omega) g2 (fun x hx => by
        have : x = (12, c + q.2.1.length) := by simpa using hx
        rw [this]) (fun x hx => by
        have : x = (12, c + q.2.1.length) := by simpa using hx
        subst this
        refine ⟨Or.inr ⟨rfl, rfl⟩, Nat.lt_succ_self _, ?_⟩
        dsimp only
        rw [g3, ud_s]
        exact pk_div20 ⟨by decide, show (0 : Nat) < 1048576 by decide⟩) (by omega) (by show w.length + 1 + 1 ≤ _; omega) (by omega) (by omega)
      rcases ih with ⟨e, K', r1, r2, r3, r4⟩ | ⟨r, f', j', K', R', r1, r2, r3, r4, r5, r6, r7, r8, r9, r10, r11⟩
      · rw [r1]
        exact Or.inl ⟨e, K', rfl, r2, r3, (e8.tr g4).tr r4⟩
      rw [r1]
      dsimp only
      have hv : c + (q.2.1 ++ (12, c + q.2.1.length + 1 + r.2.2) :: r.2.1).length = c + q.2.1.length + 1 + r.2.1.length := by rw [List.length_append, List.length_cons]; omega
      have low : ∀ j, j < c + q.2.1.length → landF (c + q.2.1.length + 1 + r.2.1.length) R' (K' 174) j = landF (c + q.2.1.length) (R ++ Q) (K 174) j := by
        intro j hj
        rw [r7 j (by omega)]
        show upd (K2 174) (c + q.2.1.length) _ j = _
        rw [ud_n (by omega), g3, ud_n (by omega)]
      refine Or.inr ⟨_, f', j', K', R', rfl, r2, ?_, ?_, r5, ?_, fun j hj => ?_, (e8.tr g4).tr r8, r9, r10, r11⟩
      · dsimp only; rw [hv]; exact r3
      · dsimp only; rw [hv]; exact r4
      · dsimp only
        rw [hv]
        refine (RdL_app _ _ _).mpr ⟨RdL_fr _ _ e6 fun i h1 h2 => ?_, ?_, r6⟩
        · rw [low i h2, hi i h1]
        · rw [r7 _ (by omega)]
          show upd (K2 174) (c + q.2.1.length) _ _ = _
          rw [ud_s]
      · dsimp only
        rw [hv, low j (by omega)]
        exact lo j hj
    · rw [if_neg c1]
      refine Or.inr ⟨_, f1, j1, K, R ++ Q, rfl, e2, e3', hRQ, el', ?_, lo, e8, e9, e10, e11, c1⟩
      exact RdL_fr _ _ e6 fun i h1 _ => hi i h1
