/-! PURE: the reference's pieces and the whole condition -/
theorem cmp_tail {T : Nat → Nat} {n p o c : Nat} {w : List Ins} (hT : Txt T n) {M : xMem} (h : ROk T n M p o c w) (hp : p ≤ n) : (Option.bind (g9_here M) fun q4 =>
      if (q4.1) = (60 : Int32) then (g9_readsCompared_b52 (7 : Int32) q4.2) else
      (Option.bind (g9_here q4.2) fun q7 =>
      if (q7.1) = (62 : Int32) then (g9_readsCompared_b52 (8 : Int32) q7.2) else
      (Option.bind (g9_here q7.2) fun q10 =>
      if (q10.1) = (61 : Int32) then (g9_readsCompared_b52 (9 : Int32) q10.2) else
      (g9_readsCompared_b52 (-1 : Int32) q10.2)))) = g9_readsCompared_b52 (if cmpN T n p = 0 then -1 else nI (cmpN T n p)) M := by
  have hn := hT.1
  have he := here_eq hT h hp
  rw [bs he]
  dsimp only
  unfold cmpN
  by_cases c1 : isC T n p 60 = true
  · rw [if_pos (show sgI T n p = 60 from (sg_is hT (c := 60) (by omega)).mpr c1), if_pos c1]
    rfl
  rw [if_neg (show ¬ sgI T n p = 60 from fun r => c1 ((sg_is hT (c := 60) (by omega)).mp r)), if_neg c1, bs he]
  dsimp only
  by_cases c2 : isC T n p 62 = true
  · rw [if_pos (show sgI T n p = 62 from (sg_is hT (c := 62) (by omega)).mpr c2), if_pos c2]
    rfl
  rw [if_neg (show ¬ sgI T n p = 62 from fun r => c2 ((sg_is hT (c := 62) (by omega)).mp r)), if_neg c2, bs he]
  dsimp only
  by_cases c3 : isC T n p 61 = true
  · rw [if_pos (show sgI T n p = 61 from (sg_is hT (c := 61) (by omega)).mpr c3), if_pos c3]
    rfl
  rw [if_neg (show ¬ sgI T n p = 61 from fun r => c3 ((sg_is hT (c := 61) (by omega)).mp r)), if_neg c3, if_pos rfl]
theorem cmpN_ops {T : Nat → Nat} {n p : Nat} : cmpN T n p = 0 ∨ cmpN T n p = 7 ∨ cmpN T n p = 8 ∨ cmpN T n p = 9 := by
  unfold cmpN
  split
  · exact Or.inr (Or.inl rfl)
  split
  · exact Or.inr (Or.inr (Or.inl rfl))
  split
  · exact Or.inr (Or.inr (Or.inr rfl))
  · exact Or.inl rfl
theorem rcmp_b {T : Nat → Nat} {n o d : Nat} (hT : Txt T n) (hod : o + d = 6) {p c : Nat} {w : List Ins} {M : xMem} (h : ROk T n M p o c w) (hw : clean w 2) (hc : c ≤ p) (hl : w.length ≤ p) (hp : p ≤ n) :
    (∃ e K, pCmp T n d p = .inl e ∧ g9_readsCompared M = some (0, K) ∧ K 167 0 = e ∧ Off RB M K) ∨
    ∃ q K, pCmp T n d p = .inr q ∧ (g9_readsCompared M = Option.bind (g9_endsPiece K) fun q => some (1, q)) ∧ ROk T n K q.1 o (c + q.2.length) w ∧ RdL (K 174) c q.2 ∧ (∀ i, i < c → K 174 i = M 174 i) ∧ Off RB M K := by
  have hn := hT.1
  have hA := pSum_adv (T := T) (n := n) (d := d) p
  unfold pCmp g9_readsCompared
  rcases rsum_ok hT hod h hw hc hl hp with ⟨e, K, e1, e2, e3, e4⟩ | ⟨q, K, e1, e2, e3, e4, e5, e6⟩
  · rw [e1]
    refine Or.inl ⟨e, K, rfl, ?_, e3, e4⟩
    rw [bs e2]
    rfl
  rw [e1] at hA ⊢
  obtain ⟨a1, a2, a3, a4⟩ := hA
  rw [bs e2]
  dsimp only
  rw [if_neg (show ¬ (1 : Int32) = 0 by decide), cmp_tail hT e3 a3]
  unfold g9_readsCompared_b52
  by_cases c0 : cmpN T n q.1 = 0
  · obtain ⟨K2, b1, b2, b3⟩ := e3.wrong (k := 1) (a := 1) rfl
    refine Or.inl ⟨_, K2, by rw [if_pos c0], ?_, b2, e6.tr b3⟩
    rw [if_pos c0, if_pos rfl, bs b1, if_pos (Or.inl rfl)]
  · have hlt := cmpN_lt c0
    have hs : cmpN T n q.1 < 16 := by rcases cmpN_ops (T := T) (n := n) (p := q.1) with r | r | r | r <;> omega
    rw [if_neg c0]
    simp only [if_neg c0]
    rw [if_neg (show ¬ nI (cmpN T n q.1) = -1 from nI_m1 (by omega)), mset_eq]
    have hA2 := pSum_adv (T := T) (n := n) (d := d) (q.1 + 1)
    have s1 := e3.step
    have o1 : Off RB K (upM K 165 0 (K 165 0 + 1)) := Off.up (by decide)
    have k174 : (upM K 165 0 (K 165 0 + 1)) 174 = K 174 := up_b (by decide)
    generalize upM K 165 0 (K 165 0 + 1) = K1 at s1 o1 k174
    rcases rsum_ok hT hod s1 hw (by omega) (by omega) (by omega) with ⟨e, K2, b1, b2, b3, b4⟩ | ⟨r, K2, b1, b2, b3, b4, b5, b6⟩
    · rw [b1]
      refine Or.inl ⟨e, K2, rfl, ?_, b3, (e6.tr o1).tr b4⟩
      rw [bs b2]
      rfl
    rw [b1] at hA2 ⊢
    obtain ⟨d1, d2, d3, d4⟩ := hA2
    obtain ⟨K3, n1, n2, n3, n4⟩ := notes_eq b3 (show c + q.2.length + r.2.length < 260 by omega) (cmpN T n q.1, 0) (a := nI (cmpN T n q.1)) (b := 0) rfl rfl
    have hlen : (q.2 ++ r.2 ++ [(cmpN T n q.1, 0)]).length = q.2.length + r.2.length + 1 := by rw [List.length_append, List.length_append]; rfl
    refine Or.inr ⟨_, K3, rfl, ?_, ?_, ?_, fun i hi => ?_, ((e6.tr o1).tr b6).tr (n4.mono (by decide))⟩
    · rw [bs b2]
      dsimp only
      rw [if_neg (show ¬ (1 : Int32) = 0 by decide), bs n1]
    · dsimp only
      rw [hlen, show c + (q.2.length + r.2.length + 1) = c + q.2.length + r.2.length + 1 by omega]
      exact n2
    · dsimp only
      refine (RdL_app _ _ _).mpr ⟨(RdL_app _ _ _).mpr ⟨RdL_fr _ _ e4 fun i h1 h2 => ?_, RdL_fr _ _ b4 fun i h1 h2 => ?_⟩, ?_, trivial⟩
      · rw [n3, ud_n (by omega), b5 i (by omega), k174]
      · rw [n3, ud_n (by omega)]
      · rw [n3, List.length_append, ← Nat.add_assoc, ud_s]
    · rw [n3, ud_n (by omega), b5 i (by omega), k174, e5 i hi]
theorem rpie_b {T : Nat → Nat} {n : Nat} (hT : Txt T n) : ∀ d o, o + d = 6 → HPie T n o (pPieD T n d) := by
  have one : ∀ (d o : Nat) (inner : Option (Nat → Nat → RR (Nat × List Ins))), o + d = 6 → (d = 0 → inner = none) → (∀ e, d = e + 1 → inner = some (pPieD T n e) ∧ HPie T n (o + 1) (pPieD T n e)) → HPie T n o (pPie T n d inner) := by
    intro d o inner hod h0 h1 p c w f M h hw hne hc hl hp hf
    have hn := hT.1
    have he := here_eq hT h hp
    obtain ⟨f, rfl⟩ : ∃ f', f = f' + 1 := ⟨f - 1, by omega⟩
    have wpos : 0 < w.length := by
      rcases w with _ | ⟨i, w'⟩
      · exact absurd rfl hne
      · exact Nat.succ_pos _
    unfold pPie
    rw [g9_readsCondition_b40, bs he]
    dsimp only
    by_cases c1 : isC T n p 33 = true
    · have q33 : sgI T n p = 33 := (sg_is hT (c := 33) (by omega)).mpr c1
      have hlt := (isC_lt c1).1
      rw [if_pos c1, if_pos q33]
      unfold g9_readsCondition_b58 pNot
      rw [bs he]
      dsimp only
      rw [if_pos q33]
      unfold g9_readsCondition_b75
      cases d with
      | zero =>
        have : o = 6 := by omega
        subst this
        rw [h0 rfl]
        obtain ⟨K, e1, e2, e3⟩ := opens_6 (a := 10) h
        exact Or.inl ⟨_, K, rfl, by rw [bs e1, if_pos rfl], e2, e3⟩
      | succ e =>
        obtain ⟨hin, hfe⟩ := h1 e rfl
        rw [hin]
        dsimp only
        obtain ⟨K, e1, e2, e3, e4⟩ := opens_ok (s := 10) h (by decide) (by omega) (by omega)
        rw [bs (show g9_opens 10 M = some (1, K) from e1)]
        dsimp only
        rw [if_neg (show ¬ (1 : Int32) = 0 by decide)]
        have hA := pPieD_adv (T := T) (n := n) e (p + 1) c
        rcases hfe (p + 1) c ((10, 0) :: w) f K e2 (fun i w' e => by injection e with e _; rw [← e]; decide) (by simp) (by omega) (by show w.length + 1 ≤ _; omega) (by omega) (by omega) with ⟨e', K', b1, b2, b3, b4⟩ | ⟨q, f', j', g, K', b1, b2, b3, b4, b5, b6, b7, b8, b9⟩
        · rw [b1]
          exact Or.inl ⟨e', K', rfl, b2, b3, e4.tr b4⟩
        rw [b1] at hA ⊢
        obtain ⟨a1, a2, a3, a4⟩ := hA
        have b3' : w.length + 1 < g := b3
        obtain ⟨g, rfl⟩ : ∃ g', g = g' + 1 := ⟨g - 1, by omega⟩
        obtain ⟨K2, d1, d2, d3, d4⟩ := ends_10 (g := g) b6 (by omega) (by omega)
        have hlen : (q.2 ++ [(10, 0)]).length = q.2.length + 1 := by rw [List.length_append]; rfl
        refine Or.inr ⟨_, f', j', g, K2, rfl, by rw [b2, d1], by omega, b4, b5, ?_, ?_, fun i hi => ?_, (e4.tr b9).tr d4⟩
        · dsimp only
          rw [hlen, ← Nat.add_assoc]
          exact d2
        · refine (RdL_app _ _ _).mpr ⟨RdL_fr _ _ b7 fun i h1 h2 => ?_, ?_, trivial⟩
          · rw [d3, ud_n (by omega)]
          · rw [d3, ud_s]
        · rw [d3, ud_n (by omega), b8 i hi, e3]
    have q33 : ¬ sgI T n p = 33 := fun r => c1 ((sg_is hT (c := 33) (by omega)).mp r)
    rw [if_neg c1, if_neg q33, bs he]
    dsimp only
    by_cases c2 : isC T n p 40 = true
    · have q40 : sgI T n p = 40 := (sg_is hT (c := 40) (by omega)).mpr c2
      have hlt := (isC_lt c2).1
      rw [if_pos c2, if_pos q40]
      unfold g9_readsCondition_b58 pPar
      rw [bs he]
      dsimp only
      rw [if_neg q33]
      unfold g9_readsCondition_b75
      cases d with
      | zero =>
        have : o = 6 := by omega
        subst this
        rw [h0 rfl]
        obtain ⟨K, e1, e2, e3⟩ := opens_6 (a := 13) h
        exact Or.inl ⟨_, K, rfl, by rw [bs e1, if_pos rfl], e2, e3⟩
      | succ e =>
        obtain ⟨hin, hfe⟩ := h1 e rfl
        rw [hin]
        dsimp only
        obtain ⟨K, e1, e2, e3, e4⟩ := opens_ok (s := 13) h (by decide) (by omega) (by omega)
        rw [bs (show g9_opens 13 M = some (1, K) from e1)]
        dsimp only
        rw [if_neg (show ¬ (1 : Int32) = 0 by decide)]
        have hA := pChoO_adv (T := T) (n := n) (pPieD_adv (T := T) e) (p + 1) c
        have hb := rcho_b hT hfe (pPieD_adv e) 240 (p + 1) c [] w f K (by omega) e2 (fun x hx => by cases hx) (fun x hx => by cases hx) (by omega) (by show w.length + 1 ≤ _; omega) (by omega) (by omega)
        unfold pChoO at hA ⊢
        rcases hb with ⟨e', K', b1, b2, b3, b4⟩ | ⟨q, f', j', K', R, b1, b2, b3, b4, b5, b6, b7, b8, b9, b10, b11, b12⟩
        · rw [b1]
          exact Or.inl ⟨e', K', rfl, b2, b3, e4.tr b4⟩
        rw [b1] at hA ⊢
        obtain ⟨a1, a2, a3, a4⟩ := hA
        dsimp only [dropL] at a1 a2 a3 a4 ⊢
        obtain ⟨j', rfl⟩ : ∃ j2, j' = j2 + 1 := ⟨j' - 1, by omega⟩
        by_cases c3 : isC T n q.1 41 = true
        · have hlt3 := (isC_lt c3).1
          obtain ⟨K2, d1, d2, d3, d4, d5⟩ := pe_close (k40 := g9_readsCondition_b40 f') (j := j') hT b3 c3 b4 (by omega) (by omega)
          refine Or.inr ⟨_, f', j', 5000, K2, by rw [if_pos c3], by rw [b2, d5 hne], by omega, by dsimp only; omega, by dsimp only; omega, d1, ?_, fun i hi => ?_, (e4.tr b8).tr d3⟩
          · dsimp only
            rw [d2]
            exact b6
          · rw [d2, b7 i hi]
            show K 174 i = _
            rw [e3]
        · obtain ⟨K2, d1, d2, d3⟩ := pe_wrong (k40 := g9_readsCondition_b40 f') (j := j') hT b3 a3 c3 b11 b12
          exact Or.inl ⟨_, K2, by rw [if_neg c3], by rw [b2, d1], d2, (e4.tr b8).tr d3⟩
    have q40 : ¬ sgI T n p = 40 := fun r => c2 ((sg_is hT (c := 40) (by omega)).mp r)
    rw [if_neg c2, if_neg q40]
    have hA := pCmp_adv (T := T) (n := n) (d := d) p
    rcases rcmp_b hT hod h hw hc hl hp with ⟨e, K, e1, e2, e3, e4⟩ | ⟨q, K, e1, e2, e3, e4, e5, e6⟩
    · rw [e1]
      refine Or.inl ⟨e, K, rfl, ?_, e3, e4⟩
      rw [bs e2]
      rfl
    rw [e1] at hA ⊢
    obtain ⟨a1, a2, a3, a4⟩ := hA
    refine Or.inr ⟨q, f, 5000, 5000, K, rfl, ?_, by omega, by omega, by omega, e3, e4, e5, e6⟩
    rw [e2]
    have key : ∀ (x : Option xMem) (h : xMem → Option (Int32 × xMem)), (Option.bind (Option.bind x fun q => some ((1 : Int32), q)) fun q18 => if q18.1 = 0 then some ((0 : Int32), q18.2) else h q18.2) = Option.bind x h := by
      intro x h
      cases x with
      | none => rfl
      | some y => rfl
    exact key _ _
  intro d
  induction d with
  | zero =>
    intro o ho
    exact one 0 o none ho (fun _ => rfl) (fun e h => absurd h (by omega))
  | succ d ih =>
    intro o ho
    refine one (d + 1) o (some (pPieD T n d)) ho (fun h => absurd h (by omega)) fun e h => ?_
    have : e = d := by omega
    subst this
    exact ⟨rfl, ih (o + 1) (by omega)⟩
/-- a whole condition, its brackets with it -/
theorem rcond_ok {T : Nat → Nat} {n p o c : Nat} (hT : Txt T n) {w : List Ins} {M : xMem} (h : ROk T n M p o c w) (hc : c ≤ p) (hp : p ≤ n) :
    (∃ e K, (if isC T n p 40 = true then (match pCho T n 5 (p + 1) c with
      | .inl f => (.inl f : RR (Nat × List Ins))
      | .inr r => if isC T n r.1 41 = true then .inr (r.1 + 1, r.2) else .inl (flt 1 r.1)) else .inl (flt 1 p)) = .inl e ∧ g9_readsCondition M = some (0, K) ∧ K 167 0 = e ∧ Off RB M K) ∨
    ∃ q K, (if isC T n p 40 = true then (match pCho T n 5 (p + 1) c with
      | .inl f => (.inl f : RR (Nat × List Ins))
      | .inr r => if isC T n r.1 41 = true then .inr (r.1 + 1, r.2) else .inl (flt 1 r.1)) else .inl (flt 1 p)) = .inr q ∧ g9_readsCondition M = some (1, K) ∧ ROk T n K q.1 0 (c + q.2.length) [] ∧ RdL (K 174) c q.2 ∧ (∀ i, i < c → K 174 i = M 174 i) ∧ Off RB M K := by
  have hn := hT.1
  have he := here_eq hT h hp
  unfold g9_readsCondition
  rw [bs he]
  dsimp only
  by_cases c1 : isC T n p 40 = true
  · have q40 : sgI T n p = 40 := (sg_is hT (c := 40) (by omega)).mpr c1
    have hlt := (isC_lt c1).1
    rw [if_pos c1, if_pos q40, mset_eq, mset_eq]
    have z1 := h.opn (o' := 0) (v := 0) rfl
    have z2 : ROk T n (upM (upM M 168 0 0) 170 0 0) p 0 c [] := by
      obtain ⟨h1, h2, h3, h4, h5, h6, h7, h8⟩ := z1
      have oo : Off [170] (upM M 168 0 0) (upM (upM M 168 0 0) 170 0 0) := Off.up (by decide)
      exact ⟨by rw [oo 165 (by decide), h1], by rw [oo 166 (by decide), h2], by rw [oo 168 (by decide), h3], by rw [oo 169 (by decide), h4], by rw [up_s]; rfl, trivial, (fun x hx => by cases hx), fun j hj => by rw [oo 163 (by decide)]; exact h8 j hj⟩
    have oz : Off RB M (upM (upM M 168 0 0) 170 0 0) := (Off.up (by decide)).up' (by decide)
    have z174 : (upM (upM M 168 0 0) 170 0 0) 174 = M 174 := by rw [up_b (by decide), up_b (by decide)]
    generalize upM (upM M 168 0 0) 170 0 0 = M1 at z2 oz z174
    obtain ⟨K, e1, e2, e3, e4⟩ := opens_ok (s := 13) z2 (by decide) (by omega) (by simp)
    rw [bs (show g9_opens 13 M1 = some (1, K) from e1)]
    dsimp only
    rw [if_neg (show ¬ (1 : Int32) = 0 by decide)]
    have hA := pCho_adv (T := T) (n := n) (d := 5) (p + 1) c
    have hb := rcho_b hT (rpie_b hT 5 1 rfl) (pPieD_adv 5) 240 (p + 1) c [] [] 5000 K (by omega) e2 (fun x hx => by cases hx) (fun x hx => by cases hx) (by omega) (by show 1 ≤ _; omega) (by omega) (by omega)
    unfold pCho pChoO at hA ⊢
    rcases hb with ⟨e', K', b1, b2, b3, b4⟩ | ⟨q, f', j', K', R, b1, b2, b3, b4, b5, b6, b7, b8, b9, b10, b11, b12⟩
    · rw [b1]
      exact Or.inl ⟨e', K', rfl, b2, b3, (oz.tr e4).tr b4⟩
    rw [b1] at hA ⊢
    obtain ⟨a1, a2, a3, a4⟩ := hA
    dsimp only [dropL] at a1 a2 a3 a4 ⊢
    obtain ⟨j', rfl⟩ : ∃ j2, j' = j2 + 1 := ⟨j' - 1, by omega⟩
    by_cases c3 : isC T n q.1 41 = true
    · have hlt3 := (isC_lt c3).1
      obtain ⟨K2, d1, d2, d3, d4, d5⟩ := pe_close (k40 := g9_readsCondition_b40 f') (j := j') hT b3 c3 b4 (by omega) (by omega)
      refine Or.inr ⟨_, K2, by rw [if_pos c3], by rw [b2, d4 rfl], d1, ?_, fun i hi => ?_, ((oz.tr e4).tr b8).tr d3⟩
      · dsimp only
        rw [d2]
        exact b6
      · rw [d2, b7 i hi]
        show K 174 i = _
        rw [e3, z174]
    · obtain ⟨K2, d1, d2, d3⟩ := pe_wrong (k40 := g9_readsCondition_b40 f') (j := j') hT b3 a3 c3 b11 b12
      exact Or.inl ⟨_, K2, by rw [if_neg c3], by rw [b2, d1], d2, ((oz.tr e4).tr b8).tr d3⟩
  · have q40 : ¬ sgI T n p = 40 := fun r => c1 ((sg_is hT (c := 40) (by omega)).mp r)
    rw [if_neg c1, if_neg q40]
    obtain ⟨K, e1, e2, e3⟩ := h.wrong (k := 1) (a := 1) rfl
    refine Or.inl ⟨_, K, rfl, ?_, e2, e3⟩
    rw [bs e1, if_pos (Or.inl rfl)]
