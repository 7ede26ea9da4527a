/-! THE CONSTRUCTORS: a world that grows. zs: the cells so far, references by their places; a constructor turns the blank at k into v and adds ns. -/
abbrev zD : Type := (Nat × Nat × List (Nat × Int32)) ⊕ (List (Option Nat) ⊕ (Nat × List (Int32 ⊕ Option Nat)))
def zf : List (Nat × Int32) → Nat → Int32
  | [] => fun _ => 0
  | q :: l => upd (zf l) q.1 q.2
def zval (ad : Nat → Nat) : Int32 ⊕ Option Nat → Value
  | .inl x => .int x
  | .inr r => va_rf (r.map ad)
def zCell (cA : Nat → ClassId) (ad : Nat → Nat) : zD → va_E
  | .inl d => .inl (cA d.1, d.2.1, .inl (zf d.2.2))
  | .inr (.inl l) => .inl (cA 3, l.length, .inr (.inr (.inr (.inr (fun i => (l[i]?.join).map ad)))))
  | .inr (.inr o) => .inr (o.1, o.2.map (zval ad))
def zWs (cA : Nat → ClassId) (ad : Nat → Nat) (zs : List zD) : va_W := zs.zipIdx.map (fun q => (ad q.2, zCell cA ad q.1))
theorem zWs_get {cA : Nat → ClassId} {ad : Nat → Nat} {zs : List zD} {k : Nat} : (zWs cA ad zs)[k]? = (zs[k]?).map fun d => (ad k, zCell cA ad d) := by
  simp only [zWs, List.getElem?_map, List.getElem?_zipIdx]
  cases zs[k]? <;> simp
theorem zWs_len {cA : Nat → ClassId} {ad : Nat → Nat} {zs : List zD} : (zWs cA ad zs).length = zs.length := by simp [zWs]
def zRefs : zD → List Nat
  | .inl _ => []
  | .inr (.inl l) => l.filterMap id
  | .inr (.inr o) => o.2.filterMap (fun f => match f with | .inl _ => none | .inr r => r)
def zOk (zs : List zD) : Prop := ∀ d ∈ zs, ∀ r ∈ zRefs d, r < zs.length
theorem zCell_ext {cA : Nat → ClassId} {ad ad' : Nat → Nat} {d : zD} (h : ∀ r ∈ zRefs d, ad' r = ad r) : zCell cA ad' d = zCell cA ad d := by
  match d with
  | .inl d => rfl
  | .inr (.inl l) =>
    simp only [zCell]
    congr 7
    funext i
    cases hl : l[i]? with
    | none => rfl
    | some z =>
      cases z with
      | none => rfl
      | some r =>
        show some (ad' r) = some (ad r)
        rw [h r (List.mem_filterMap.mpr ⟨some r, List.mem_of_getElem? hl, rfl⟩)]
  | .inr (.inr o) =>
    simp only [zCell]
    congr 2
    apply List.map_congr_left
    intro f hf
    match f with
    | .inl x => rfl
    | .inr none => rfl
    | .inr (some r) =>
      show va_rf (some (ad' r)) = va_rf (some (ad r))
      rw [h r (List.mem_filterMap.mpr ⟨.inr (some r), hf, rfl⟩)]
theorem zWs_ext {cA : Nat → ClassId} {ad ad' : Nat → Nat} {zs : List zD} (h : zOk zs) (e : ∀ i, i < zs.length → ad' i = ad i) : zWs cA ad' zs = zWs cA ad zs := by
  apply List.ext_getElem?
  intro k
  rw [zWs_get, zWs_get]
  cases hk : zs[k]? with
  | none => rfl
  | some d =>
    simp only [Option.map_some]
    rw [zCell_ext (fun r hr => e r (h d (List.mem_of_getElem? hk) r hr)), e k (List.getElem?_eq_some_iff.mp hk).1]
theorem zWs_push {cA : Nat → ClassId} {ad : Nat → Nat} {zs : List zD} {d : zD} : zWs cA ad (zs ++ [d]) = zWs cA ad zs ++ [(ad zs.length, zCell cA ad d)] := by
  apply List.ext_getElem?
  intro k
  rw [zWs_get]
  by_cases hk : k < zs.length
  · rw [List.getElem?_append_left hk, List.getElem?_append_left (by rw [zWs_len]; exact hk), zWs_get]
  · rw [List.getElem?_append_right (by omega), List.getElem?_append_right (by rw [zWs_len]; omega), zWs_len]
    by_cases h0 : k = zs.length
    · subst h0; simp
    · have e1 : [d][k - zs.length]? = none := by rw [List.getElem?_eq_none_iff]; simp; omega
      have e2 : [(ad zs.length, zCell cA ad d)][k - zs.length]? = none := by rw [List.getElem?_eq_none_iff]; simp; omega
      rw [e1, e2]; rfl
theorem zWs_set {cA : Nat → ClassId} {ad : Nat → Nat} {zs : List zD} {d : zD} {k : Nat} : zWs cA ad (zs.set k d) = (zWs cA ad zs).set k (ad k, zCell cA ad d) := by
  apply List.ext_getElem?
  intro j
  rw [zWs_get, List.getElem?_set, List.getElem?_set, zWs_len, zWs_get]
  by_cases h : k = j
  · subst h
    by_cases h2 : k < zs.length <;> simp [h2]
  · simp [h]
def zCur (zs : List zD) (k : Nat) (v : zD) (ns : List zD) : List zD := zs.set k v ++ ns
theorem zCur_len {zs : List zD} {k : Nat} {v : zD} {ns : List zD} : (zCur zs k v ns).length = zs.length + ns.length := by simp [zCur]
theorem zCur_this {zs : List zD} {k : Nat} {v : zD} {ns : List zD} (hk : k < zs.length) : (zCur zs k v ns)[k]? = some v := by
  unfold zCur
  rw [List.getElem?_append_left (by simpa using hk), List.getElem?_set_self hk]
theorem zCur_new {zs : List zD} {k j : Nat} {v : zD} {ns : List zD} : (zCur zs k v ns)[zs.length + j]? = ns[j]? := by
  unfold zCur
  rw [List.getElem?_append_right (by simp)]
  simp
theorem zCur_push {zs : List zD} {k : Nat} {v d : zD} {ns : List zD} : zCur zs k v ns ++ [d] = zCur zs k v (ns ++ [d]) := by simp [zCur]
theorem zCur_setk {zs : List zD} {k : Nat} {v v' : zD} {ns : List zD} (hk : k < zs.length) : (zCur zs k v ns).set k v' = zCur zs k v' ns := by
  unfold zCur
  rw [List.set_append_left _ _ (by simpa using hk), List.set_set]
theorem zCur_setn {zs : List zD} {k j : Nat} {v d : zD} {ns : List zD} : (zCur zs k v ns).set (zs.length + j) d = zCur zs k v (ns.set j d) := by
  unfold zCur
  rw [List.set_append_right _ _ (by simp)]
  simp
theorem zCur_call {zs : List zD} {k j : Nat} {v v2 : zD} {ns ns2 : List zD} : zCur (zCur zs k v ns) (zs.length + j) v2 ns2 = zCur zs k v (ns.set j v2 ++ ns2) := by
  show (zCur zs k v ns).set (zs.length + j) v2 ++ ns2 = _
  rw [zCur_setn]
  simp [zCur]
theorem zOk_push {zs : List zD} {d : zD} (h : zOk zs) (hd : ∀ r ∈ zRefs d, r < zs.length + 1) : zOk (zs ++ [d]) := by
  intro x hx r hr
  rw [List.length_append, List.length_singleton]
  rcases List.mem_append.mp hx with h1 | h1
  · exact Nat.lt_succ_of_lt (h x h1 r hr)
  · rw [List.mem_singleton.mp h1] at hr
    exact hd r hr
theorem zOk_set {zs : List zD} {d : zD} {k : Nat} (h : zOk zs) (hd : ∀ r ∈ zRefs d, r < zs.length) : zOk (zs.set k d) := by
  intro x hx r hr
  rw [List.length_set]
  rcases List.mem_or_eq_of_mem_set hx with h1 | h1
  · exact h x h1 r hr
  · rw [h1] at hr
    exact hd r hr
/-- what holds throughout a constructor (or the law ahead of its loop) -/
def zC (G : xG) (cc : ByteArray) (nL : Nat) (own : String) (d mc ms : Nat) (A : Nat → Prop) : Prop := match G with
  | (p, l, e, R, s, m, args, below, meth, c, D, cA, ad, Q, k1, k2) =>
    p.tables.exec = Jvm.exec ∧ c.code = cc ∧ c.maxLocals = nL ∧ s.vm.findClass own = some m.cls ∧ (∀ w ∈ lw_gt, w.before args s = true) ∧ va_K D vwCl (xTys cA) s ∧ (∀ w ∈ lw_nt, va_Nw w s) ∧ (∀ q, s.heap.size ≤ q → A q) ∧ d ≤ R.frames ∧ d * 40 ≤ R.locals ∧ mc ≤ R.cells ∧ ms ≤ R.slots ∧ va_AO RX6 s
def zInit (G : xG) : Prop := match G with
  | (p, l, e, R, s, m, args, below, meth, c, D, cA, ad, Q, k1, k2) => meth.name = "<init>"
def Z (G : xG) (A : Nat → Prop) (n0 nL pc : Nat) (lv : List (Nat × xV)) (st : List xV) (zs : List zD) (kc ks : Nat) : Prop := match G with
  | (p, l, e, R, s, m, args, below, meth, c, D, cA, ad, Q, k1, k2) =>
    ∀ (ad' : Nat → Nat) (H : Heap) (locs : List Loc) (ls : Array Slot), (∀ i, i < n0 → ad' i = ad i) → zOk zs → va_P D vwCl (zWs cA ad' zs) H → va_D A (zWs cA ad' zs) → va_S A s.heap H locs → lv_has ls nL (lv.map fun q => (q.1, xval ad' q.2)) → W p l e R s m args below meth c H locs kc ks Q (F0 m pc ls (st.map (xval ad')))
section ZR
variable {G : xG} {cc : ByteArray} {nL d pc n0 mc ms kc ks : Nat} {own : String} {lv lv' : List (Nat × xV)} {st : List xV} {zs : List zD} {A : Nat → Prop}
theorem Z.iconst (C : zC G cc nL own d mc ms A) {n : Int} {v : Int32} {r : Nat} (hd : decode cc pc = .ok (.iconst n, 1)) (hv : Int32.ofInt n = v) (hr : pc + 1 = r) (k : Z G A n0 nL r lv (.inl v :: st) zs kc ks) : Z G A n0 nL pc lv st zs kc ks := by
  subst hr
  obtain ⟨p, l, e, R, s, m, args, below, meth, c, D, cA, ad, Q, k1, k2⟩ := G
  intro ad' H locs ls ha ho hP hD hS hl
  exact lv_iconst C.1 C.2.1 hd hv (k ad' H locs ls ha ho hP hD hS hl)
theorem Z.bipush (C : zC G cc nL own d mc ms A) {n : Int} {v : Int32} {r : Nat} (hd : decode cc pc = .ok (.bipush n, 2)) (hv : (Int8.ofInt n).toInt32 = v) (hr : pc + 2 = r) (k : Z G A n0 nL r lv (.inl v :: st) zs kc ks) : Z G A n0 nL pc lv st zs kc ks := by
  subst hr
  obtain ⟨p, l, e, R, s, m, args, below, meth, c, D, cA, ad, Q, k1, k2⟩ := G
  intro ad' H locs ls ha ho hP hD hS hl
  exact lv_bipush C.1 C.2.1 hd hv (k ad' H locs ls ha ho hP hD hS hl)
theorem Z.sipush (C : zC G cc nL own d mc ms A) {n : Int} {v : Int32} {r : Nat} (hd : decode cc pc = .ok (.sipush n, 3)) (hv : (Int16.ofInt n).toInt32 = v) (hr : pc + 3 = r) (k : Z G A n0 nL r lv (.inl v :: st) zs kc ks) : Z G A n0 nL pc lv st zs kc ks := by
  subst hr
  obtain ⟨p, l, e, R, s, m, args, below, meth, c, D, cA, ad, Q, k1, k2⟩ := G
  intro ad' H locs ls ha ho hP hD hS hl
  exact lv_sipush C.1 C.2.1 hd hv (k ad' H locs ls ha ho hP hD hS hl)
theorem Z.aload_n (C : zC G cc nL own d mc ms A) {i : Fin 4} {x : Nat} {r : Nat} (j : Nat) (hd : decode cc pc = .ok (.aload_n i, 1)) (hj : lv[j]? = some ((i : Nat), .inr x)) (hr : pc + 1 = r) (k : Z G A n0 nL r lv (.inr x :: st) zs kc ks) : Z G A n0 nL pc lv st zs kc ks := by
  subst hr
  obtain ⟨p, l, e, R, s, m, args, below, meth, c, D, cA, ad, Q, k1, k2⟩ := G
  intro ad' H locs ls ha ho hP hD hS hl
  exact lv_aload_n C.1 C.2.1 hd rfl (xlv_at hl j hj) (k ad' H locs ls ha ho hP hD hS hl)
theorem Z.ast_n (C : zC G cc nL own d mc ms A) {i : Fin 4} {x : Nat} {r : Nat} (hd : decode cc pc = .ok (.astore_n i, 1)) (hn : Nat.blt (i : Nat) nL = true) (hl' : lvput lv (i : Nat) (.inr x) = lv') (hr : pc + 1 = r) (k : Z G A n0 nL r lv' st zs kc ks) : Z G A n0 nL pc lv (.inr x :: st) zs kc ks := by
  subst hr
  obtain ⟨p, l, e, R, s, m, args, below, meth, c, D, cA, ad, Q, k1, k2⟩ := G
  intro ad' H locs ls ha ho hP hD hS hl
  exact lv_astore_n C.1 C.2.1 hd rfl hl (by simpa [Nat.blt_eq] using hn) rfl (fun ls' h => k ad' H locs ls' ha ho hP hD hS (lvput_has hl' h))
theorem Z.ist_n (C : zC G cc nL own d mc ms A) {i : Fin 4} {x : Int32} {r : Nat} (hd : decode cc pc = .ok (.istore_n i, 1)) (hn : Nat.blt (i : Nat) nL = true) (hl' : lvput lv (i : Nat) (.inl x) = lv') (hr : pc + 1 = r) (k : Z G A n0 nL r lv' st zs kc ks) : Z G A n0 nL pc lv (.inl x :: st) zs kc ks := by
  subst hr
  obtain ⟨p, l, e, R, s, m, args, below, meth, c, D, cA, ad, Q, k1, k2⟩ := G
  intro ad' H locs ls ha ho hP hD hS hl
  exact lv_istore_n C.1 C.2.1 hd rfl hl (by simpa [Nat.blt_eq] using hn) rfl (fun ls' h => k ad' H locs ls' ha ho hP hD hS (lvput_has hl' h))
theorem Z.dup (C : zC G cc nL own d mc ms A) {v : xV} {r : Nat} (hd : decode cc pc = .ok (.dup, 1)) (hr : pc + 1 = r) (k : Z G A n0 nL r lv (v :: v :: st) zs kc ks) : Z G A n0 nL pc lv (v :: st) zs kc ks := by
  subst hr
  obtain ⟨p, l, e, R, s, m, args, below, meth, c, D, cA, ad, Q, k1, k2⟩ := G
  intro ad' H locs ls ha ho hP hD hS hl
  exact lv_dup C.1 C.2.1 hd (xval_cat _ _) (k ad' H locs ls ha ho hP hD hS hl)
/-- a store into cell i, in the new world's words -/
theorem zSet {D : va_G} {cA : Nat → ClassId} {ad : Nat → Nat} {i : Nat} {dd : zD} {E : va_E} {H : Heap} (he : E = zCell cA ad dd) (h : va_P D vwCl ((zWs cA ad zs).set i (ad i, E)) H) (h2 : va_D A ((zWs cA ad zs).set i (ad i, E))) : va_P D vwCl (zWs cA ad (zs.set i dd)) H ∧ va_D A (zWs cA ad (zs.set i dd)) := by
  rw [zWs_set, ← he]; exact ⟨h, h2⟩
theorem Z.putF (C : zC G cc nL own d mc ms A) {kc' ci j idx N r q : Nat} {fs : List (Int32 ⊕ Option Nat)} {Cn : String} {T : u_T} {tyf : Nat → FieldType} {ty : FieldType} {zs' : List zD} (hI : zInit G) (hcl : xCl ci Cn T N) (hcp : xCp T N tyf) (hk : zs[kc']? = some (.inr (.inr (ci, fs)))) (hl : Cond.fieldLink own idx (T j).1 (T j).2.1 (T j).2.2.1 ∈ lw_gt) (hd : decode cc pc = .ok (.putfield idx, 3)) (hj : j < N) (hjl : j < fs.length) (hfin : (T j).2.2.2 = true) (hdecl : (T j).1 = own) (hty : parseFieldDescriptor (T j).2.2.1 = some ty) (hn : ∀ a, narrow ty (.ref a) = .ref a) (hft : ∀ a, fits ty (.ref a) = true) (hq : q < zs.length) (hz : zs.set kc' (.inr (.inr (ci, fs.set j (.inr (some q))))) = zs') (hr : pc + 3 = r)
    (k : Z G A n0 nL r lv st zs' kc ks) : Z G A n0 nL pc lv (.inr q :: .inr kc' :: st) zs kc ks := by
  subst hr; subst hz
  obtain ⟨p, l, e, R, s, m, args, below, meth, c, D, cA, ad, Q, k1, k2⟩ := G
  intro ad' H locs ls ha ho hP hD hS hl'
  have hg : (zWs cA ad' zs)[kc']? = some (ad' kc', .inr (ci, fs.map (zval ad'))) := by rw [zWs_get, hk]; rfl
  refine va_putF C.1 C.2.1 C.2.2.2.2.1 hcl.2 tyf hcp.1 hcp.2 C.2.2.2.1 C.2.2.2.2.2.1 hP hD hS kc' hg hcl.1 j hj (C.2.2.2.2.1 _ hl) (fun _ h9 => h9) hfin hI hdecl hty (hn _) (hft _) (by rw [List.length_map]; exact hjl) hd (fun H1 locs1 h1 h2 h3 => ?_)
  obtain ⟨g1, g2⟩ := zSet (dd := .inr (.inr (ci, fs.set j (.inr (some q))))) (show (Sum.inr (ci, (fs.map (zval ad')).set j (.ref (ad' q))) : va_E) = zCell cA ad' (.inr (.inr (ci, fs.set j (.inr (some q))))) by simp only [zCell, List.map_set]; rfl) h1 h2
  refine k ad' H1 locs1 ls ha (zOk_set ho fun r hr => ?_) g1 g2 h3 hl'
  obtain ⟨f, hf, hfr⟩ := List.mem_filterMap.mp hr
  rcases List.mem_or_eq_of_mem_set hf with h | h
  · exact ho _ (List.mem_of_getElem? hk) r (List.mem_filterMap.mpr ⟨f, h, hfr⟩)
  · rw [h] at hfr; cases hfr; exact hq
theorem Z.putI (C : zC G cc nL own d mc ms A) {kc' ci j idx N r : Nat} {v : Int32} {fs : List (Int32 ⊕ Option Nat)} {Cn : String} {T : u_T} {tyf : Nat → FieldType} {ty : FieldType} {zs' : List zD} (hcl : xCl ci Cn T N) (hcp : xCp T N tyf) (hk : zs[kc']? = some (.inr (.inr (ci, fs)))) (hl : Cond.fieldLink own idx (T j).1 (T j).2.1 (T j).2.2.1 ∈ lw_gt) (hd : decode cc pc = .ok (.putfield idx, 3)) (hj : j < N) (hjl : j < fs.length) (hfin : (T j).2.2.2 = false) (hty : parseFieldDescriptor (T j).2.2.1 = some ty) (hn : narrow ty (.int v) = .int v) (hft : fits ty (.int v) = true) (hz : zs.set kc' (.inr (.inr (ci, fs.set j (.inl v)))) = zs') (hr : pc + 3 = r)
    (k : Z G A n0 nL r lv st zs' kc ks) : Z G A n0 nL pc lv (.inl v :: .inr kc' :: st) zs kc ks := by
  subst hr; subst hz
  obtain ⟨p, l, e, R, s, m, args, below, meth, c, D, cA, ad, Q, k1, k2⟩ := G
  intro ad' H locs ls ha ho hP hD hS hl'
  have hg : (zWs cA ad' zs)[kc']? = some (ad' kc', .inr (ci, fs.map (zval ad'))) := by rw [zWs_get, hk]; rfl
  refine va_put C.1 C.2.1 C.2.2.2.2.1 hcl.2 tyf hcp.1 hcp.2 C.2.2.2.1 C.2.2.2.2.2.1 hP hD hS kc' hg hcl.1 j hj (C.2.2.2.2.1 _ hl) (fun _ h9 => h9) hfin hty hn hft (by rw [List.length_map]; exact hjl) hd (fun H1 locs1 h1 h2 h3 => ?_)
  obtain ⟨g1, g2⟩ := zSet (dd := .inr (.inr (ci, fs.set j (.inl v)))) (show (Sum.inr (ci, (fs.map (zval ad')).set j (.int v)) : va_E) = zCell cA ad' (.inr (.inr (ci, fs.set j (.inl v)))) by simp only [zCell, List.map_set]; rfl) h1 h2
  refine k ad' H1 locs1 ls ha (zOk_set ho fun r hr => ?_) g1 g2 h3 hl'
  obtain ⟨f, hf, hfr⟩ := List.mem_filterMap.mp hr
  rcases List.mem_or_eq_of_mem_set hf with h | h
  · exact ho _ (List.mem_of_getElem? hk) r (List.mem_filterMap.mpr ⟨f, h, hfr⟩)
  · rw [h] at hfr; cases hfr
theorem Z.getR (C : zC G cc nL own d mc ms A) {kc' ci j idx N k' r : Nat} {fs : List (Int32 ⊕ Option Nat)} {Cn : String} {T : u_T} (hcl : xCl ci Cn T N) (hk : zs[kc']? = some (.inr (.inr (ci, fs)))) (hl : xFl own idx (T j)) (hd : decode cc pc = .ok (.getfield idx, 3)) (hj : j < N) (hf : fs[j]? = some (.inr (some k'))) (hr : pc + 3 = r) (k : Z G A n0 nL r lv (.inr k' :: st) zs kc ks) : Z G A n0 nL pc lv (.inr kc' :: st) zs kc ks := by
  subst hr
  obtain ⟨p, l, e, R, s, m, args, below, meth, c, D, cA, ad, Q, k1, k2⟩ := G
  intro ad' H locs ls ha ho hP hD hS hl'
  have hg : (zWs cA ad' zs)[kc']? = some (ad' kc', .inr (ci, fs.map (zval ad'))) := by rw [zWs_get, hk]; rfl
  have hv : (fs.map (zval ad'))[j]? = some (.ref (ad' k')) := by rw [List.getElem?_map, hf]; rfl
  rcases hl with hl | ⟨host, hl⟩
  · exact va_get C.1 C.2.1 C.2.2.2.2.1 hcl.2 C.2.2.2.1 C.2.2.2.2.2.1 hP kc' hg hcl.1 j hj (C.2.2.2.2.1 _ hl) (fun _ h9 => h9) hv hd (k ad' H locs ls ha ho hP hD hS hl')
  · exact va_getN C.1 C.2.1 C.2.2.2.2.1 hcl.2 C.2.2.2.1 C.2.2.2.2.2.1 hP kc' hg hcl.1 j hj (va_Nw.use rfl (C.2.2.2.2.2.2.1 _ hl)) (fun _ h9 => h9) hv hd (k ad' H locs ls ha ho hP hD hS hl')
theorem Z.iast (C : zC G cc nL own d mc ms A) {kc' n r : Nat} {w : List (Nat × Int32)} {i x : Int32} {zs' : List zD} (hk : zs[kc']? = some (.inl (0, n, w))) (hd : decode cc pc = .ok (.iastore, 1)) (hin : ¬ (i < 0 ∨ n ≤ i.toNatClampNeg)) {i' : Nat} (hi : i.toNatClampNeg = i') (hz : zs.set kc' (.inl (0, n, (i', x) :: w)) = zs') (hr : pc + 1 = r) (k : Z G A n0 nL r lv st zs' kc ks) : Z G A n0 nL pc lv (.inl x :: .inl i :: .inr kc' :: st) zs kc ks := by
  subst hi; subst hr; subst hz
  obtain ⟨p, l, e, R, s, m, args, below, meth, c, D, cA, ad, Q, k1, k2⟩ := G
  intro ad' H locs ls ha ho hP hD hS hl'
  have hg : (zWs cA ad' zs)[kc']? = some (ad' kc', .inl (cA 0, n, .inl (zf w))) := by rw [zWs_get, hk]; rfl
  refine va_iast C.1 C.2.1 C.2.2.2.2.2.1 hP hD hS kc' 0 hg rfl hin hd (fun H1 locs1 h1 h2 h3 => ?_)
  obtain ⟨g1, g2⟩ := zSet (dd := .inl (0, n, (i.toNatClampNeg, x) :: w)) rfl h1 h2
  exact k ad' H1 locs1 ls ha (zOk_set ho fun r hr => by cases hr) g1 g2 h3 hl'
theorem Z.aast (C : zC G cc nL own d mc ms A) {kc' q r : Nat} {fs : List (Int32 ⊕ Option Nat)} {w : List (Option Nat)} {i : Int32} {zs' : List zD} (hk : zs[kc']? = some (.inr (.inl w))) (hq : zs[q]? = some (.inr (.inr (6, fs)))) (hd : decode cc pc = .ok (.aastore, 1)) (hin : ¬ (i < 0 ∨ w.length ≤ i.toNatClampNeg)) {i' : Nat} (hi : i.toNatClampNeg = i') (hz : zs.set kc' (.inr (.inl (w.set i' (some q)))) = zs') (hr : pc + 1 = r) (k : Z G A n0 nL r lv st zs' kc ks) : Z G A n0 nL pc lv (.inr q :: .inl i :: .inr kc' :: st) zs kc ks := by
  subst hi; subst hr; subst hz
  obtain ⟨p, l, e, R, s, m, args, below, meth, c, D, cA, ad, Q, k1, k2⟩ := G
  intro ad' H locs ls ha ho hP hD hS hl'
  have hlt : i.toNatClampNeg < w.length := Nat.not_le.mp fun h => hin (Or.inr h)
  have hg : (zWs cA ad' zs)[kc']? = some (ad' kc', .inl (cA 3, w.length, .inr (.inr (.inr (.inr (fun i => (w[i]?.join).map ad')))))) := by rw [zWs_get, hk]; rfl
  have hg2 : (zWs cA ad' zs)[q]? = some (ad' q, .inr (6, fs.map (zval ad'))) := by rw [zWs_get, hq]; rfl
  refine va_astq (r := (RX6, TX6, 9)) C.1 C.2.1 C.2.2.2.2.2.1 hP hD hS kc' 3 q 6 hg rfl hg2 rfl hin hd (fun H1 locs1 h1 h2 h3 => ?_)
  obtain ⟨g1, g2⟩ := zSet (dd := .inr (.inl (w.set i.toNatClampNeg (some q)))) (show (Sum.inl (cA 3, w.length, .inr (.inr (.inr (.inr (va_up (fun i => (w[i]?.join).map ad') i.toNatClampNeg (some (ad' q))))))) : va_E) = zCell cA ad' (.inr (.inl (w.set i.toNatClampNeg (some q)))) by
    simp only [zCell, List.length_set]
    congr 7
    funext j
    unfold va_up
    rw [List.getElem?_set]
    by_cases hj : j = i.toNatClampNeg
    · subst hj; simp [hlt]
    · rw [if_neg hj, if_neg (fun e => hj e.symm)]) h1 h2
  refine k ad' H1 locs1 ls ha (zOk_set ho fun r hr => ?_) g1 g2 h3 hl'
  obtain ⟨f, hf, hfr⟩ := List.mem_filterMap.mp hr
  rcases List.mem_or_eq_of_mem_set hf with h | h
  · exact ho _ (List.mem_of_getElem? hk) r (List.mem_filterMap.mpr ⟨f, h, hfr⟩)
  · rw [h] at hfr; cases hfr; exact (List.getElem?_eq_some_iff.mp hq).1
end ZR
