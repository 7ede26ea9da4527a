/-! THE WORLD: 177 cells in a shape that stays; what changes is the memory: (block, place) ↦ an int. V: the machine's judgement W in these words. -/
abbrev xMem : Type := Nat → Nat → Int32
abbrev xV : Type := Int32 ⊕ Nat
def xval (ad : Nat → Nat) : xV → Value
  | .inl x => .int x
  | .inr k => .ref (ad k)
def xsl (ad : Nat → Nat) (M : xMem) : Nat ⊕ (Nat × Nat) → Value
  | .inl k => .ref (ad k)
  | .inr q => .int (M q.1 q.2)
def xCell (cA : Nat → ClassId) (ad : Nat → Nat) (M : xMem) : xDesc → va_E
  | .inl d => .inl (cA d.1, d.2.2.2, .inl (fun i => M d.2.1 (d.2.2.1 + i)))
  | .inr (.inl cs) => .inl (cA 3, cs.length, .inr (.inr (.inr (.inr (fun i => (cs[i]?).map ad)))))
  | .inr (.inr o) => .inr (o.1, o.2.map (xsl ad M))
def xWs (cA : Nat → ClassId) (ad : Nat → Nat) (M : xMem) : va_W := SH.zipIdx.map (fun q => (ad q.2, xCell cA ad M q.1))
def xTys (cA : Nat → ClassId) : List (ClassId × FieldType) := [(cA 0, .int), (cA 1, .boolean), (cA 2, .byte), (cA 3, .object RX6)]
def xA (ad : Nat → Nat) : Nat → Prop := fun q => ∃ k, k < SN ∧ q = ad k
def xInj (ad : Nat → Nat) : Prop := ∀ i j, i < SN → j < SN → ad i = ad j → i = j
theorem xWs_get {cA : Nat → ClassId} {ad : Nat → Nat} {M : xMem} {k : Nat} {d : xDesc} (h : SH[k]? = some d) : (xWs cA ad M)[k]? = some (ad k, xCell cA ad M d) := by
  simp [xWs, List.getElem?_map, List.getElem?_zipIdx, h]
theorem xWs_of {cA : Nat → ClassId} {ad : Nat → Nat} {M : xMem} {k : Nat} {q : Nat × va_E} (h : (xWs cA ad M)[k]? = some q) : ∃ d, SH[k]? = some d ∧ q = (ad k, xCell cA ad M d) := by
  simp only [xWs, List.getElem?_map, List.getElem?_zipIdx] at h
  cases hd : SH[k]? with
  | none => rw [hd] at h; simp at h
  | some d => rw [hd] at h; simp at h; exact ⟨d, rfl, h.symm⟩
theorem SH_lt {k : Nat} {d : xDesc} (h : SH[k]? = some d) : k < SN := by
  have := (List.getElem?_eq_some_iff.mp h).1
  rwa [SH_len] at this
theorem xD {cA : Nat → ClassId} {ad : Nat → Nat} {M : xMem} (h : xInj ad) : va_D (xA ad) (xWs cA ad M) := by
  refine ⟨fun i j p q hi hj e => ?_, fun k q hk => ?_⟩
  · obtain ⟨d, h1, rfl⟩ := xWs_of hi
    obtain ⟨d2, h2, rfl⟩ := xWs_of hj
    exact h i j (SH_lt h1) (SH_lt h2) e
  · obtain ⟨d, h1, rfl⟩ := xWs_of hk
    exact ⟨k, SH_lt h1, rfl⟩
/-! the cells' places in the memory are apart -/
def xCov : xDesc → List (Nat × Nat × Nat)
  | .inl d => [(d.2.1, d.2.2.1, d.2.2.2)]
  | .inr (.inl _) => []
  | .inr (.inr o) => o.2.filterMap (fun f => match f with | .inl _ => none | .inr q => some (q.1, q.2, 1))
def xDj (u v : Nat × Nat × Nat) : Bool := (u.1 != v.1) || (decide (u.2.1 + u.2.2 ≤ v.2.1) || decide (v.2.1 + v.2.2 ≤ u.2.1))
def xSep : List xDesc → Bool
  | [] => true
  | d :: r => r.all (fun d2 => (xCov d).all fun u => (xCov d2).all fun v => xDj u v && xDj v u) && xSep r
set_option maxRecDepth 100000 in
theorem SH_sep : xSep SH = true := by decide +kernel
theorem xSep_get {L : List xDesc} (h : xSep L = true) : ∀ (i j : Nat) (d d2 : xDesc), L[i]? = some d → L[j]? = some d2 → i ≠ j → ∀ u ∈ xCov d, ∀ v ∈ xCov d2, xDj u v = true := by
  induction L with
  | nil => intro i j d d2 hi; simp at hi
  | cons a L ih =>
    rw [xSep, Bool.and_eq_true] at h
    intro i j d d2 hi hj hij u hu v hv
    match i, j with
    | 0, 0 => exact absurd rfl hij
    | 0, j + 1 =>
      have e : a = d := by simpa using hi
      subst e
      have hm : d2 ∈ L := List.mem_of_getElem? (by simpa using hj)
      have h1 := List.all_eq_true.mp (List.all_eq_true.mp (List.all_eq_true.mp h.1 d2 hm) u hu) v hv
      exact (Bool.and_eq_true _ _ ▸ h1).1
    | i + 1, 0 =>
      have e : a = d2 := by simpa using hj
      subst e
      have hm : d ∈ L := List.mem_of_getElem? (by simpa using hi)
      have h1 := List.all_eq_true.mp (List.all_eq_true.mp (List.all_eq_true.mp h.1 d hm) v hv) u hu
      exact (Bool.and_eq_true _ _ ▸ h1).2
    | i + 1, j + 1 => exact ih h.2 i j d d2 (by simpa using hi) (by simpa using hj) (fun e => hij (by rw [e])) u hu v hv
def xNd : xDesc → Bool
  | .inr (.inr o) => let l := o.2.filterMap (fun f => match f with | .inl _ => none | .inr q => some q); decide (l.Nodup)
  | _ => true
theorem SH_nd : SH.all xNd = true := by decide +kernel
/-- a cell that covers none of what changed holds the same -/
theorem xCell_cong {cA : Nat → ClassId} {ad : Nat → Nat} {D : va_G} {H : Heap} {M M' : xMem} {d : xDesc} {a : Nat} (h : ∀ v ∈ xCov d, ∀ i, v.2.1 ≤ i → i < v.2.1 + v.2.2 → M' v.1 i = M v.1 i) (hP : va_at D vwCl (a, xCell cA ad M d) H) : va_at D vwCl (a, xCell cA ad M' d) H := by
  match d with
  | .inl d =>
    have e : vp_cell (cA d.1) (d.2.2.2, .inl (fun i => M d.2.1 (d.2.2.1 + i))) = vp_cell (cA d.1) (d.2.2.2, .inl (fun i => M' d.2.1 (d.2.2.1 + i))) := by
      rw [vp_cell_i, vp_cell_i]
      unfold arrV
      congr 1
      apply Array.ext
      · simp
      · intro i h1 h2
        simp at h1
        simp only [Array.getElem_ofFn]
        rw [h (d.2.1, d.2.2.1, d.2.2.2) (by simp [xCov]) (d.2.2.1 + i) (Nat.le_add_right _ _) (by show d.2.2.1 + i < d.2.2.1 + d.2.2.2; omega)]
    show H[a]? = some (vp_cell _ _)
    rw [← e]
    exact hP
  | .inr (.inl cs) => exact hP
  | .inr (.inr o) =>
    have e : o.2.map (xsl ad M) = o.2.map (xsl ad M') := by
      apply List.map_congr_left
      intro f hf
      match f with
      | .inl k => rfl
      | .inr q =>
        show Value.int _ = Value.int _
        rw [h (q.1, q.2, 1) (List.mem_filterMap.mpr ⟨.inr q, hf, rfl⟩) q.2 (Nat.le_refl _) (Nat.lt_succ_self _)]
    show va_at D vwCl (a, .inr (o.1, o.2.map (xsl ad M'))) H
    rw [← e]
    exact hP
/-- after a write into cell k: the world of the new memory -/
theorem xP_set {cA : Nat → ClassId} {ad : Nat → Nat} {D : va_G} {H : Heap} {M M' : xMem} {k : Nat} {d : xDesc} {b o n : Nat} (hk : SH[k]? = some d) (hc : (b, o, n) ∈ xCov d)
    (hM : ∀ c i, ¬ (c = b ∧ o ≤ i ∧ i < o + n) → M' c i = M c i) {E : va_E} (hE : va_at D vwCl (ad k, E) H → va_at D vwCl (ad k, xCell cA ad M' d) H)
    (h : va_P D vwCl ((xWs cA ad M).set k (ad k, E)) H) : va_P D vwCl (xWs cA ad M') H := by
  intro j q hj
  obtain ⟨d2, h2, rfl⟩ := xWs_of hj
  by_cases hjk : j = k
  · subst hjk
    obtain rfl : d = d2 := Option.some.inj (hk.symm.trans h2)
    refine hE (h j _ ?_)
    rw [List.getElem?_set_self]
    exact (List.getElem?_eq_some_iff.mp (xWs_get (cA := cA) (ad := ad) (M := M) hk)).1
  · have h0 : ((xWs cA ad M).set k (ad k, E))[j]? = some (ad j, xCell cA ad M d2) := by
      rw [List.getElem?_set_ne (fun e => hjk e.symm)]
      exact xWs_get h2
    refine xCell_cong (fun v hv i h3 h4 => hM _ _ fun h5 => ?_) (h j _ h0)
    have h6 := xSep_get SH_sep k j d d2 hk h2 (fun e => hjk e.symm) _ hc v hv
    simp only [xDj, Bool.or_eq_true, bne_iff_ne, decide_eq_true_eq, ne_eq] at h6
    obtain ⟨e1, e2, e3⟩ := h5
    rcases h6 with h6 | h6 | h6
    · exact h6 e1.symm
    · omega
    · omega
def upM (M : xMem) (b i : Nat) (v : Int32) : xMem := fun c j => if c = b ∧ j = i then v else M c j
def cpM (M : xMem) (b o n b0 o0 : Nat) : xMem := fun c j => if c = b ∧ o ≤ j ∧ j < o + n then M b0 (o0 + (j - o)) else M c j
theorem upM_off {M : xMem} {b i o n : Nat} {v : Int32} (h : o ≤ i ∧ i < o + n) : ∀ c j, ¬ (c = b ∧ o ≤ j ∧ j < o + n) → upM M b i v c j = M c j := by
  intro c j hn
  unfold upM
  rw [if_neg]
  rintro ⟨rfl, rfl⟩
  exact hn ⟨rfl, h.1, h.2⟩
/-! the static rows and strings outside the system -/
def xTab : Nat → List Int32
  | 0 => [0, 0, 0, 0, 0, -99, 0, 0]
  | 1 => [999, 10, 99, 99, 99, 99, 999, 10]
  | 2 => [0, 1, 0, -1]
  | _ => [1, 0, -1, 0]
def xTn : Nat → String
  | 0 => "LOWEST"
  | 1 => "HIGHEST"
  | 2 => "STEP_X"
  | _ => "STEP_Y"
def xStrL : List Nat := [8, 15]
def xStrB : List (List Int32) := [[97, 122, 115, 119, 120, 102, 98, 113], [117, 118, 104, 110, 116, 101, 120, 121, 103, 99, 114, 108, 107, 100, 112]]
def xNest : Cond → Bool
  | .fieldLinkNest _ _ _ _ _ _ => true
  | .methodLinkNest _ _ _ _ => true
  | _ => false
def lw_nt : List Cond := tables_1.filter xNest
theorem xNest_tab {w : Cond} (h : xNest w = true) : w.onTables = true := by
  cases w <;> first | rfl | cases h
theorem xNest_warm {w : Cond} (h : xNest w = true) {s U : State} (hW : s.WarmedH U.vm) (hZ : va_Nw w s) : va_Nw w U := by
  cases w <;> first | exact va_Nw.warmF hW hZ | exact va_Nw.warmM hW hZ | cases h
def xE (ad : Nat → Nat) (A : Nat → Prop) (U : State) (H : Heap) : Prop :=
  (∀ k, k < 4 → va_Z RX8 (xTn k) "[I" (.ref (ad (1000 + k))) A U H ∧ va_T .int (ad (1000 + k)) (xTab k).length (fun j => .int ((xTab k).getD j 0)) A U H) ∧
  vk_S 2 xStrL xStrB (fun i => ad (1010 + i)) (fun i => ad (1020 + i)) A U H ∧ (vk_R RX4 56 "azswxfbq" (ad 1010) U ∧ vk_R RX4 103 "uvhntexygcrlkdp" (ad 1011) U ∧ va_Z "java/lang/String" "COMPACT_STRINGS" "Z" (.int 1) A U H) ∧ ∀ w ∈ lw_nt, va_Nw w U
theorem xE.go {ad : Nat → Nat} {A : Nat → Prop} {u U : State} {H H1 : Heap} (h : xE ad A u H) (hW : u.WarmedH U.vm) (hq : ∀ a : Nat, a < H.size → ¬ A a → H1[a]? = H[a]?) : xE ad A U H1 :=
  ⟨fun k hk => ⟨((h.1 k hk).1.moved hW.alike).kept hq, ((h.1 k hk).2.moved hW.alike).kept hq⟩, (h.2.1.moved hW.alike).kept hq, ⟨h.2.2.1.1.warm hW, h.2.2.1.2.1.warm hW, (h.2.2.1.2.2.moved hW.alike).kept hq⟩, fun w hw => xNest_warm (List.mem_filter.mp hw).2 hW (h.2.2.2 w hw)⟩
theorem xE.same {ad : Nat → Nat} {A : Nat → Prop} {u U : State} {H : Heap} (hv : U.vm = u.vm) (h : xE ad A u H) : xE ad A U H :=
  ⟨fun k hk => ⟨(h.1 k hk).1.moved (by rw [hv]; exact Vm.Alike.refl _), (h.1 k hk).2.moved (by rw [hv]; exact Vm.Alike.refl _)⟩, h.2.1.moved (by rw [hv]; exact Vm.Alike.refl _), ⟨h.2.2.1.1.same hv, h.2.2.1.2.1.same hv, h.2.2.1.2.2.moved (by rw [hv]; exact Vm.Alike.refl _)⟩, fun w hw => (h.2.2.2 w hw).same (xNest_tab (List.mem_filter.mp hw).2) hv.symm⟩
def lw_gt : List Cond := lw_tbl.filter goodWord
/-! V -/
abbrev xG : Type := Program × Launch × Env × Room × State × MethodId × Array Value × List Frame × Method × Code × va_G × (Nat → ClassId) × (Nat → Nat) × (State → Prop) × Nat × Nat
/-- what holds throughout a method: its code, class, room for d calls in one another, the tables' words, what stays outside -/
def xC (G : xG) (cc : ByteArray) (nL : Nat) (own : String) (d : Nat) : Prop := match G with
  | (p, l, e, R, s, m, args, below, meth, c, D, cA, ad, Q, k1, k2) =>
    p.tables.exec = Jvm.exec ∧ c.code = cc ∧ c.maxLocals = nL ∧ s.vm.findClass own = some m.cls ∧ (∀ w ∈ lw_gt, w.before args s = true) ∧ va_K D vwCl (xTys cA) s ∧ xInj ad ∧ xE ad (xA ad) s s.heap ∧ d ≤ R.frames ∧ d * 40 ≤ R.locals ∧ k1 ≤ R.cells ∧ k2 ≤ R.slots
def V (G : xG) (nL pc : Nat) (lv : List (Nat × xV)) (st : List xV) (M : xMem) : Prop := match G with
  | (p, l, e, R, s, m, args, below, meth, c, D, cA, ad, Q, k1, k2) =>
    ∀ (H : Heap) (locs : List Loc) (ls : Array Slot), va_P D vwCl (xWs cA ad M) H → va_S (xA ad) s.heap H locs → lv_has ls nL (lv.map fun q => (q.1, xval ad q.2)) → W p l e R s m args below meth c H locs k1 k2 Q (F0 m pc ls (st.map (xval ad)))
/-- the locals behind a store -/
def lvset (lv : List (Nat × xV)) (i : Nat) (v : xV) : List (Nat × xV) := match lv with
  | [] => [(i, v)]
  | q :: r => if i < q.1 then (i, v) :: q :: r else if i = q.1 then (i, v) :: r else q :: lvset r i v
theorem lvset_mem {lv : List (Nat × xV)} {i : Nat} {v : xV} (hs : (lv.map Prod.fst).Pairwise (· < ·)) : ∀ q ∈ lvset lv i v, q = (i, v) ∨ (q ∈ lv ∧ q.1 ≠ i) := by
  induction lv with
  | nil => intro q hq; simp [lvset] at hq; exact Or.inl hq
  | cons a r ih =>
    rw [List.map_cons, List.pairwise_cons] at hs
    intro q hq
    have hr : ∀ x ∈ r, a.1 < x.1 := fun x hx => hs.1 _ (List.mem_map_of_mem hx)
    simp only [lvset] at hq
    by_cases h1 : i < a.1
    · rw [if_pos h1] at hq
      rcases List.mem_cons.mp hq with h | h
      · exact Or.inl h
      · refine Or.inr ⟨h, ?_⟩
        rcases List.mem_cons.mp h with rfl | h
        · omega
        · have := hr q h; omega
    · rw [if_neg h1] at hq
      by_cases h2 : i = a.1
      · rw [if_pos h2] at hq
        rcases List.mem_cons.mp hq with h | h
        · exact Or.inl h
        · refine Or.inr ⟨List.mem_cons_of_mem _ h, ?_⟩
          have := hr q h; omega
      · rw [if_neg h2] at hq
        rcases List.mem_cons.mp hq with rfl | h
        · exact Or.inr ⟨List.mem_cons_self, fun e => h2 e.symm⟩
        · rcases ih hs.2 q h with h | h
          · exact Or.inl h
          · exact Or.inr ⟨List.mem_cons_of_mem _ h.1, h.2⟩
theorem lv_sub2 {ls : Array Slot} {nL : Nat} {l l' : List (Nat × Value)} (h : lv_has ls nL l) (hm : ∀ q ∈ l', q ∈ l) : lv_has ls nL l' := ⟨h.1, h.2.1, fun q hq => h.2.2 q (hm q hq)⟩
theorem xval_cat (ad : Nat → Nat) (v : xV) : (xval ad v).category = 1 := by cases v <;> rfl
theorem lvset_has {ls : Array Slot} {nL i : Nat} {ad : Nat → Nat} {lv lv' : List (Nat × xV)} {v : xV} (hs : (lv.map Prod.fst).Pairwise (· < ·)) (hl : lvset lv i v = lv')
    (h : lv_has ls nL ((i, xval ad v) :: (lv.map fun q => (q.1, xval ad q.2)).filter (fun q => !(q.1 == i) && !(q.1 + 1 == i && q.2.category == 2)))) : lv_has ls nL (lv'.map fun q => (q.1, xval ad q.2)) := by
  subst hl
  refine lv_sub2 h fun q hq => ?_
  obtain ⟨z, hz, rfl⟩ := List.mem_map.mp hq
  rcases lvset_mem hs z hz with rfl | ⟨h1, h2⟩
  · exact List.mem_cons_self
  · refine List.mem_cons_of_mem _ (List.mem_filter.mpr ⟨List.mem_map_of_mem h1, ?_⟩)
    simp [h2, xval_cat]
section RULES
variable {G : xG} {cc : ByteArray} {nL d pc : Nat} {own : String} {lv lv' : List (Nat × xV)} {st : List xV} {M : xMem}
theorem V.sub (h : ∀ q ∈ lv', q ∈ lv) (k : V G nL pc lv' st M) : V G nL pc lv st M := by
  obtain ⟨p, l, e, R, s, m, args, below, meth, c, D, cA, ad, Q, k1, k2⟩ := G
  intro H locs ls hP hS hl
  exact k H locs ls hP hS (lv_sub2 hl fun q hq => by
    obtain ⟨z, hz, rfl⟩ := List.mem_map.mp hq
    exact List.mem_map.mpr ⟨z, h z hz, rfl⟩)
theorem V.iconst (C : xC G cc nL own d) {n : Int} {v : Int32} {r : Nat} (hd : decode cc pc = .ok (.iconst n, 1)) (hv : Int32.ofInt n = v) (hr : pc + 1 = r) (k : V G nL r lv (.inl v :: st) M) : V G nL pc lv st M := by
  subst hr
  obtain ⟨p, l, e, R, s, m, args, below, meth, c, D, cA, ad, Q, k1, k2⟩ := G
  intro H locs ls hP hS hl
  exact lv_iconst C.1 C.2.1 hd hv (k H locs ls hP hS hl)
theorem V.bipush (C : xC G cc nL own d) {n : Int} {v : Int32} {r : Nat} (hd : decode cc pc = .ok (.bipush n, 2)) (hv : (Int8.ofInt n).toInt32 = v) (hr : pc + 2 = r) (k : V G nL r lv (.inl v :: st) M) : V G nL pc lv st M := by
  subst hr
  obtain ⟨p, l, e, R, s, m, args, below, meth, c, D, cA, ad, Q, k1, k2⟩ := G
  intro H locs ls hP hS hl
  exact lv_bipush C.1 C.2.1 hd hv (k H locs ls hP hS hl)
theorem V.sipush (C : xC G cc nL own d) {n : Int} {v : Int32} {r : Nat} (hd : decode cc pc = .ok (.sipush n, 3)) (hv : (Int16.ofInt n).toInt32 = v) (hr : pc + 3 = r) (k : V G nL r lv (.inl v :: st) M) : V G nL pc lv st M := by
  subst hr
  obtain ⟨p, l, e, R, s, m, args, below, meth, c, D, cA, ad, Q, k1, k2⟩ := G
  intro H locs ls hP hS hl
  exact lv_sipush C.1 C.2.1 hd hv (k H locs ls hP hS hl)
theorem V.ldc (C : xC G cc nL own d) {n : Nat} {v : Int32} {r : Nat} (hd : decode cc pc = .ok (.ldc n, 2)) (hw : Cond.constant own n v ∈ lw_gt) (hr : pc + 2 = r) (k : V G nL r lv (.inl v :: st) M) : V G nL pc lv st M := by
  subst hr
  obtain ⟨p, l, e, R, s, m, args, below, meth, c, D, cA, ad, Q, k1, k2⟩ := G
  intro H locs ls hP hS hl
  exact lv_ldc C.1 C.2.1 C.2.2.2.1 (C.2.2.2.2.1 _ hw) hd (k H locs ls hP hS hl)
theorem V.ldcw (C : xC G cc nL own d) {n : Nat} {v : Int32} {r : Nat} (hd : decode cc pc = .ok (.ldc_w n, 3)) (hw : Cond.constant own n v ∈ lw_gt) (hr : pc + 3 = r) (k : V G nL r lv (.inl v :: st) M) : V G nL pc lv st M := by
  subst hr
  obtain ⟨p, l, e, R, s, m, args, below, meth, c, D, cA, ad, Q, k1, k2⟩ := G
  intro H locs ls hP hS hl
  exact lv_ldcw C.1 C.2.1 C.2.2.2.1 (C.2.2.2.2.1 _ hw) hd (k H locs ls hP hS hl)
theorem xlv_at {ls : Array Slot} {ad : Nat → Nat} (hl : lv_has ls nL (lv.map fun q => (q.1, xval ad q.2))) (j : Nat) {i : Nat} {v : xV} (hj : lv[j]? = some (i, v)) : ls[i]? = some (.val (xval ad v)) :=
  lv_at hl j (by rw [List.getElem?_map, hj]; rfl)
theorem V.iload_n (C : xC G cc nL own d) {i : Fin 4} {x : Int32} {r : Nat} (j : Nat) (hd : decode cc pc = .ok (.iload_n i, 1)) (hj : lv[j]? = some ((i : Nat), .inl x)) (hr : pc + 1 = r) (k : V G nL r lv (.inl x :: st) M) : V G nL pc lv st M := by
  subst hr
  obtain ⟨p, l, e, R, s, m, args, below, meth, c, D, cA, ad, Q, k1, k2⟩ := G
  intro H locs ls hP hS hl
  exact lv_iload_n C.1 C.2.1 hd rfl (xlv_at hl j hj) (k H locs ls hP hS hl)
theorem V.iload (C : xC G cc nL own d) {i : Nat} {x : Int32} {r : Nat} (j : Nat) (hd : decode cc pc = .ok (.iload i, 2)) (hj : lv[j]? = some (i, .inl x)) (hr : pc + 2 = r) (k : V G nL r lv (.inl x :: st) M) : V G nL pc lv st M := by
  subst hr
  obtain ⟨p, l, e, R, s, m, args, below, meth, c, D, cA, ad, Q, k1, k2⟩ := G
  intro H locs ls hP hS hl
  exact lv_iload C.1 C.2.1 hd (xlv_at hl j hj) (k H locs ls hP hS hl)
theorem V.aload_n (C : xC G cc nL own d) {i : Fin 4} {x : Nat} {r : Nat} (j : Nat) (hd : decode cc pc = .ok (.aload_n i, 1)) (hj : lv[j]? = some ((i : Nat), .inr x)) (hr : pc + 1 = r) (k : V G nL r lv (.inr x :: st) M) : V G nL pc lv st M := by
  subst hr
  obtain ⟨p, l, e, R, s, m, args, below, meth, c, D, cA, ad, Q, k1, k2⟩ := G
  intro H locs ls hP hS hl
  exact lv_aload_n C.1 C.2.1 hd rfl (xlv_at hl j hj) (k H locs ls hP hS hl)
theorem V.aload (C : xC G cc nL own d) {i : Nat} {x : Nat} {r : Nat} (j : Nat) (hd : decode cc pc = .ok (.aload i, 2)) (hj : lv[j]? = some (i, .inr x)) (hr : pc + 2 = r) (k : V G nL r lv (.inr x :: st) M) : V G nL pc lv st M := by
  subst hr
  obtain ⟨p, l, e, R, s, m, args, below, meth, c, D, cA, ad, Q, k1, k2⟩ := G
  intro H locs ls hP hS hl
  exact lv_aload C.1 C.2.1 hd (xlv_at hl j hj) (k H locs ls hP hS hl)
theorem V.istore_n (C : xC G cc nL own d) {i : Fin 4} {x : Int32} {r : Nat} (hd : decode cc pc = .ok (.istore_n i, 1)) (hn : (i : Nat) < nL) (hs : (lv.map Prod.fst).Pairwise (· < ·)) (hl' : lvset lv (i : Nat) (.inl x) = lv') (hr : pc + 1 = r) (k : V G nL r lv' st M) : V G nL pc lv (.inl x :: st) M := by
  subst hr
  obtain ⟨p, l, e, R, s, m, args, below, meth, c, D, cA, ad, Q, k1, k2⟩ := G
  intro H locs ls hP hS hl
  exact lv_istore_n C.1 C.2.1 hd rfl hl hn rfl (fun ls' h => k H locs ls' hP hS (lvset_has hs hl' h))
theorem V.istore (C : xC G cc nL own d) {i : Nat} {x : Int32} {r : Nat} (hd : decode cc pc = .ok (.istore i, 2)) (hn : i < nL) (hs : (lv.map Prod.fst).Pairwise (· < ·)) (hl' : lvset lv i (.inl x) = lv') (hr : pc + 2 = r) (k : V G nL r lv' st M) : V G nL pc lv (.inl x :: st) M := by
  subst hr
  obtain ⟨p, l, e, R, s, m, args, below, meth, c, D, cA, ad, Q, k1, k2⟩ := G
  intro H locs ls hP hS hl
  exact lv_istore C.1 C.2.1 hd hl hn rfl (fun ls' h => k H locs ls' hP hS (lvset_has hs hl' h))
theorem V.astore_n (C : xC G cc nL own d) {i : Fin 4} {x : Nat} {r : Nat} (hd : decode cc pc = .ok (.astore_n i, 1)) (hn : (i : Nat) < nL) (hs : (lv.map Prod.fst).Pairwise (· < ·)) (hl' : lvset lv (i : Nat) (.inr x) = lv') (hr : pc + 1 = r) (k : V G nL r lv' st M) : V G nL pc lv (.inr x :: st) M := by
  subst hr
  obtain ⟨p, l, e, R, s, m, args, below, meth, c, D, cA, ad, Q, k1, k2⟩ := G
  intro H locs ls hP hS hl
  exact lv_astore_n C.1 C.2.1 hd rfl hl hn rfl (fun ls' h => k H locs ls' hP hS (lvset_has hs hl' h))
theorem V.astore (C : xC G cc nL own d) {i : Nat} {x : Nat} {r : Nat} (hd : decode cc pc = .ok (.astore i, 2)) (hn : i < nL) (hs : (lv.map Prod.fst).Pairwise (· < ·)) (hl' : lvset lv i (.inr x) = lv') (hr : pc + 2 = r) (k : V G nL r lv' st M) : V G nL pc lv (.inr x :: st) M := by
  subst hr
  obtain ⟨p, l, e, R, s, m, args, below, meth, c, D, cA, ad, Q, k1, k2⟩ := G
  intro H locs ls hP hS hl
  exact lv_astore C.1 C.2.1 hd hl hn rfl (fun ls' h => k H locs ls' hP hS (lvset_has hs hl' h))
theorem V.iinc (C : xC G cc nL own d) {i : Nat} {n : Int} {x v : Int32} {r : Nat} (j : Nat) (hd : decode cc pc = .ok (.iinc i n, 3)) (hj : lv[j]? = some (i, .inl x)) (hv : x + Int32.ofInt n = v) (hn : i < nL) (hs : (lv.map Prod.fst).Pairwise (· < ·)) (hl' : lvset lv i (.inl v) = lv') (hr : pc + 3 = r) (k : V G nL r lv' st M) : V G nL pc lv st M := by
  subst hr
  obtain ⟨p, l, e, R, s, m, args, below, meth, c, D, cA, ad, Q, k1, k2⟩ := G
  intro H locs ls hP hS hl
  exact lv_iinc C.1 C.2.1 hd hl (k := j) (by rw [List.getElem?_map, hj]; rfl) hv hn rfl (fun ls' h => k H locs ls' hP hS (lvset_has hs hl' h))
end RULES
