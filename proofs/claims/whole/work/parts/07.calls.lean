/-! calls: of the JDK's leaves, of methods by contract; a method's contract from V at its entry -/
theorem xcats (ad : Nat → Nat) (st : List xV) : ((st.map (xval ad)).map fun v => v.category).sum = st.length := by
  induction st with
  | nil => rfl
  | cons a r ih =>
    rw [List.map_cons, List.map_cons, List.sum_cons, ih, xval_cat, List.length_cons, Nat.add_comm]
def xMax (x y : Int32) : Int32 := if x < y then y else x
def xMin (x y : Int32) : Int32 := if y < x then y else x
def xAbs (x : Int32) : Int32 := if 0 ≤ x then x else 0 - x
section RULES4
variable {G : xG} {cc : ByteArray} {nL d pc : Nat} {own : String} {lv lv' : List (Nat × xV)} {st : List xV} {M : xMem}
def xJw (own : String) (idx : Nat) (y : MethodName) (cy : ByteArray) (n : Nat) : Prop := Cond.methodLink own idx y ∈ lw_gt ∧ Cond.static y ∈ lw_gt ∧ Cond.initialized y.cls ∈ lw_gt ∧ Cond.code y cy n (some .int) ∈ lw_gt
theorem V.mmax (C : xC G cc nL own d) {idx r : Nat} {x y : Int32} (hw : xJw own idx Lib.Math.max.name Lib.Math.max.code 2) (h1 : 1 ≤ d) (hst : st.length ≤ 8) (hd : decode cc pc = .ok (.invokestatic idx, 3)) (hr : pc + 3 = r) (k : V G nL r lv (.inl (xMax x y) :: st) M) : V G nL pc lv (.inl y :: .inl x :: st) M := by
  subst hr
  obtain ⟨p, l, e, R, s, m, args, below, meth, c, D, cA, ad, Q, k1, k2⟩ := G
  intro H locs ls hP hS hl'
  have hts := C.2.2.2.2.1
  obtain ⟨w1, w2, w3, w4⟩ := hw
  have hf := C.2.2.2.2.2.2.2.2
  exact va_mmax C.1 C.2.1 (C.2.2.1.trans hl'.1.symm) C.2.2.2.1 (hts _ w1) (hts _ w2) (hts _ w3) (hts _ w4) (by omega) (by rw [xcats]; omega) hf.2.2.1 hf.2.2.2 hd (k H locs ls hP hS hl')
theorem V.mmin (C : xC G cc nL own d) {idx r : Nat} {x y : Int32} (hw : xJw own idx Lib.Math.min.name Lib.Math.min.code 2) (h1 : 1 ≤ d) (hst : st.length ≤ 8) (hd : decode cc pc = .ok (.invokestatic idx, 3)) (hr : pc + 3 = r) (k : V G nL r lv (.inl (xMin x y) :: st) M) : V G nL pc lv (.inl y :: .inl x :: st) M := by
  subst hr
  obtain ⟨p, l, e, R, s, m, args, below, meth, c, D, cA, ad, Q, k1, k2⟩ := G
  intro H locs ls hP hS hl'
  have hts := C.2.2.2.2.1
  obtain ⟨w1, w2, w3, w4⟩ := hw
  have hf := C.2.2.2.2.2.2.2.2
  exact va_mmin C.1 C.2.1 (C.2.2.1.trans hl'.1.symm) C.2.2.2.1 (hts _ w1) (hts _ w2) (hts _ w3) (hts _ w4) (by omega) (by rw [xcats]; omega) hf.2.2.1 hf.2.2.2 hd (k H locs ls hP hS hl')
theorem V.mabs (C : xC G cc nL own d) {idx r : Nat} {x : Int32} (hw : xJw own idx Lib.Math.abs.name Lib.Math.abs.code 1) (h1 : 1 ≤ d) (hst : st.length ≤ 8) (hd : decode cc pc = .ok (.invokestatic idx, 3)) (hr : pc + 3 = r) (k : V G nL r lv (.inl (xAbs x) :: st) M) : V G nL pc lv (.inl x :: st) M := by
  subst hr
  obtain ⟨p, l, e, R, s, m, args, below, meth, c, D, cA, ad, Q, k1, k2⟩ := G
  intro H locs ls hP hS hl'
  have hts := C.2.2.2.2.1
  obtain ⟨w1, w2, w3, w4⟩ := hw
  have hf := C.2.2.2.2.2.2.2.2
  exact va_mabs C.1 C.2.1 (C.2.2.1.trans hl'.1.symm) C.2.2.2.1 (hts _ w1) (hts _ w2) (hts _ w3) (hts _ w4) (by omega) (by rw [xcats]; omega) hf.2.2.1 hf.2.2.2 hd (k H locs ls hP hS hl')
theorem xCp_set {cA : Nat → ClassId} {ad : Nat → Nat} {D : va_G} {H1 : Heap} {M : xMem} {kc t b o n b0 o0 : Nat} (hk : SH[kc]? = some (.inl (t, b, o, n)))
    (h : va_P D vwCl ((xWs cA ad M).set kc (ad kc, .inl (cA t, n, .inl (va_cpy (fun i => M b0 (o0 + i)) (fun i => M b (o + i)) 0 0 n)))) H1) : va_P D vwCl (xWs cA ad (cpM M b o n b0 o0)) H1 := by
  refine xP_set (b := b) (o := o) (n := n) hk (by simp [xCov]) (fun c i hn => by unfold cpM; rw [if_neg hn]) ?_ h
  intro h1
  have e : ∀ i, i < n → va_cpy (fun i => M b0 (o0 + i)) (fun i => M b (o + i)) 0 0 n i = cpM M b o n b0 o0 b (o + i) := by
    intro i hi
    unfold va_cpy cpM
    rw [if_pos (by omega), if_pos ⟨rfl, by omega⟩]
    simp
  show H1[ad kc]? = some (vp_cell (cA t) (n, .inl (fun i => cpM M b o n b0 o0 b (o + i))))
  have h2 : H1[ad kc]? = some (vp_cell (cA t) (n, .inl (va_cpy (fun i => M b0 (o0 + i)) (fun i => M b (o + i)) 0 0 n))) := h1
  rw [h2, vp_cell_i, vp_cell_i]
  unfold arrV
  congr 2
  apply Array.ext
  · simp
  · intro i g1 g2
    simp at g1
    simp only [Array.getElem_ofFn]
    rw [e i g1]
/-- the words of System.arraycopy -/
def xAc (own : String) (idx : Nat) : Prop := Cond.methodLink own idx arraycopyName ∈ lw_gt ∧ Cond.native arraycopyName ∈ lw_gt ∧ Cond.static arraycopyName ∈ lw_gt ∧ Cond.initialized "java/lang/System" ∈ lw_gt
theorem V.acopyi (C : xC G cc nL own d) {kc k0 b o n b0 o0 idx r : Nat} {N : Int32} (hw : xAc own idx) (h1 : 1 ≤ d) (hst : st.length ≤ 8) (hk0 : SH[k0]? = some (.inl (0, b0, o0, n))) (hk : SH[kc]? = some (.inl (0, b, o, n))) (hN : N = nI n) (hn : n < 2 ^ 31) (hd : decode cc pc = .ok (.invokestatic idx, 3)) (hr : pc + 3 = r) (k : V G nL r lv st (cpM M b o n b0 o0)) : V G nL pc lv (.inl N :: .inl 0 :: .inr kc :: .inl 0 :: .inr k0 :: st) M := by
  subst hr; subst hN
  obtain ⟨p, l, e, R, s, m, args, below, meth, c, D, cA, ad, Q, k1, k2⟩ := G
  intro H locs ls hP hS hl'
  have hts := C.2.2.2.2.1
  obtain ⟨w1, w2, w3, w4⟩ := hw
  have hf := C.2.2.2.2.2.2.2.2
  have hcl : (nI n).toNatClampNeg = n := nI_clamp hn
  have hz : (0 : Int32).toNatClampNeg = 0 := by decide
  exact va_copyi C.1 C.2.1 (C.2.2.1.trans hl'.1.symm) C.2.2.2.1 (hts _ w1) (hts _ w2) (hts _ w3) (hts _ w4) C.2.2.2.2.2.1 hP (xD C.2.2.2.2.2.2.1) hS k0 kc 0 0 (xWs_get hk0) (xWs_get hk) rfl rfl rfl (by decide) (by decide) (nI_pos hn) (by rw [hcl, hz]; show 0 + n ≤ n; omega) (by rw [hcl, hz]; show 0 + n ≤ n; omega) (fun _ _ => rfl)
    (by omega) (by rw [xcats]; show st.length + (7 + 11) ≤ R.locals; omega) hd (fun H1 locs1 g1 _ g3 => k H1 locs1 ls (xCp_set hk (by rw [hcl, hz] at g1; exact g1)) g3 hl')
abbrev ok01 (M : xMem) (b o n : Nat) : Prop := ∀ i, i < n → M b (o + i) = 0 ∨ M b (o + i) = 1
theorem V.acopyz (C : xC G cc nL own d) {kc k0 b o n b0 o0 idx r : Nat} {N : Int32} (hw : xAc own idx) (h1 : 1 ≤ d) (hst : st.length ≤ 8) (hk0 : SH[k0]? = some (.inl (1, b0, o0, n))) (hk : SH[kc]? = some (.inl (1, b, o, n))) (hN : N = nI n) (hn : n < 2 ^ 31) (ho : ok01 M b0 o0 n) (hd : decode cc pc = .ok (.invokestatic idx, 3)) (hr : pc + 3 = r) (k : V G nL r lv st (cpM M b o n b0 o0)) : V G nL pc lv (.inl N :: .inl 0 :: .inr kc :: .inl 0 :: .inr k0 :: st) M := by
  subst hr; subst hN
  obtain ⟨p, l, e, R, s, m, args, below, meth, c, D, cA, ad, Q, k1, k2⟩ := G
  intro H locs ls hP hS hl'
  have hts := C.2.2.2.2.1
  obtain ⟨w1, w2, w3, w4⟩ := hw
  have hf := C.2.2.2.2.2.2.2.2
  have hcl : (nI n).toNatClampNeg = n := nI_clamp hn
  have hz : (0 : Int32).toNatClampNeg = 0 := by decide
  exact va_copyi C.1 C.2.1 (C.2.2.1.trans hl'.1.symm) C.2.2.2.1 (hts _ w1) (hts _ w2) (hts _ w3) (hts _ w4) C.2.2.2.2.2.1 hP (xD C.2.2.2.2.2.2.1) hS k0 kc 1 1 (xWs_get hk0) (xWs_get hk) rfl rfl rfl (by decide) (by decide) (nI_pos hn) (by rw [hcl, hz]; show 0 + n ≤ n; omega) (by rw [hcl, hz]; show 0 + n ≤ n; omega) (fun i hi => by
      rw [hcl] at hi
      rw [hz, Nat.zero_add]
      exact x01f (ho i hi))
    (by omega) (by rw [xcats]; show st.length + (7 + 11) ≤ R.locals; omega) hd (fun H1 locs1 g1 _ g3 => k H1 locs1 ls (xCp_set hk (by rw [hcl, hz] at g1; exact g1)) g3 hl')
end RULES4
/-! contracts -/
def xPre (D : va_G) (cA : Nat → ClassId) (ad : Nat → Nat) (M : xMem) (U : State) : Prop := va_P D vwCl (xWs cA ad M) U.heap ∧ va_K D vwCl (xTys cA) U ∧ xInj ad ∧ xE ad (xA ad) U U.heap
def xQc (D : va_G) (cA : Nat → ClassId) (ad : Nat → Nat) (v : Option Value) (M : xMem) : Array Value → State → Outcome → State → Prop := fun _ st oc t => oc = .returned v ∧ va_P D vwCl (xWs cA ad M) t.heap ∧ va_F (xA ad) st t
def xRm (d : Nat) : Room := { frames := d, cells := 0, slots := 0, locals := d * 40 }
def xMet (y : MethodName) (cy : ByteArray) (n : Nat) (ret : Option FieldType) (d : Nat) (av : List xV) (M : xMem) (r : Option Int32) (M' : xMem) : Prop :=
  ∀ (l : Launch) (D : va_G) (cA : Nat → ClassId) (ad : Nat → Nat), Met l y (Cond.code y cy n ret :: lw_gt) (xRm d) (va_Pc (av.map (xval ad)) (xPre D cA ad M)) (xQc D cA ad (r.map Value.int) M') 0 0 (xA ad)
def xargs : Nat → List xV → List (Nat × xV)
  | _, [] => []
  | i, v :: vs => (i, v) :: xargs (i + 1) vs
theorem xargs_eq (ad : Nat → Nat) (vs : List xV) : ∀ i, lv_args i (vs.map (xval ad)) = (xargs i vs).map fun q => (q.1, xval ad q.2) := by
  induction vs with
  | nil => intro i; rfl
  | cons v vs ih =>
    intro i
    rw [List.map_cons, lv_args, if_neg (by rw [xval_cat]; decide), ih, xargs, List.map_cons]
theorem xsl_len (ad : Nat → Nat) (vs : List xV) : (lg_sl (vs.map (xval ad))).length = vs.length := by
  induction vs with
  | nil => rfl
  | cons v vs ih =>
    rw [List.map_cons, lg_sl, List.flatMap_cons, List.length_append, if_neg (by rw [xval_cat]; decide)]
    have : (List.flatMap (fun v => if v.category = 2 then [Slot.val v, Slot.second] else [Slot.val v]) (vs.map (xval ad))).length = vs.length := ih
    rw [this, List.length_cons]
    simp [Nat.add_comm]
theorem xEntry {y : MethodName} {cy : ByteArray} {n d : Nat} {ret : Option FieldType} {av : List xV} {M M' : xMem} {r : Option Int32} (hpl : plainName y.cls = true) (hlen : av.length ≤ n)
    (body : ∀ G : xG, xC G cy n y.cls d → (∀ pc lv st, (match G with | (p, l, e, R, s, m, args, below, meth, c, D, cA, ad, Q, k1, k2) => (R = xRm d ∧ meth.sig.returnType = ret ∧ meth.locks = false ∧ Q = MQ below (xQc D cA ad (r.map Value.int) M') args s 0 0 (xA ad) ∧ k1 = 0 ∧ k2 = 0) → V G n pc lv st M' ) → V G n pc lv st M') → V G n 0 (xargs 0 av) [] M) : xMet y cy n ret d av M r M' := by
  intro l D cA ad
  refine Met.ofW (cc := cy) (maxL := n) (ret := ret) hpl rfl ?_
  intro p e s m args below meth c s₁ B hml hv
  obtain ⟨rfl, hP, hK, hI, hE⟩ := hv
  have hts := atoms_spec (ws := Cond.code y cy n ret :: lw_gt) B.pre
  have hown : s.vm.findClass y.cls = some m.cls := findClass_of_methodNamed B.named
  have hC : xC (p, l, e, xRm d, s, m, (av.map (xval ad)).toArray, below, meth, c, D, cA, ad, MQ below (xQc D cA ad (r.map Value.int) M') (av.map (xval ad)).toArray s 0 0 (xA ad), 0, 0) cy n y.cls d :=
    ⟨B.exec, B.bytes, hml, hown, fun w hw => hts w (List.mem_cons_of_mem _ hw), hK, hI, hE, Nat.le_refl _, Nat.le_refl _, Nat.le_refl _, Nat.le_refl _⟩
  have h := body _ hC (fun pc lv st k => k ⟨rfl, B.returns, B.notSynchronized, rfl, rfl, rfl⟩)
  rw [lg_entry_eq]
  have hl := lv_entry (av.map (xval ad)) (n := n) (by rw [xsl_len]; exact hlen)
  rw [xargs_eq] at hl
  exact h s.heap [] _ hP va_S.rf hl
/-- what a method that ends with an int owes at its ends -/
def xRI (G : xG) (cy : ByteArray) (n : Nat) (R : Int32 × xMem) : Prop := ∀ pc lv, decode cy pc = .ok (.ireturn, 1) → V G n pc lv [.inl R.1] R.2
def xRZ (G : xG) (cy : ByteArray) (n : Nat) (R : Int32 × xMem) : Prop := ∀ pc lv, (R.1 = 0 ∨ R.1 = 1) → decode cy pc = .ok (.ireturn, 1) → V G n pc lv [.inl R.1] R.2
def xRV (G : xG) (cy : ByteArray) (n : Nat) (M : xMem) : Prop := ∀ pc lv, decode cy pc = .ok (.return_, 1) → V G n pc lv [] M
theorem xMet.ofI {y : MethodName} {cy : ByteArray} {n d : Nat} {av : List xV} {M : xMem} {R : Int32 × xMem} (hpl : plainName y.cls = true) (hlen : av.length ≤ n)
    (body : ∀ G : xG, xC G cy n y.cls d → xRI G cy n R → V G n 0 (xargs 0 av) [] M) : xMet y cy n (some .int) d av M (some R.1) R.2 := by
  refine xEntry hpl hlen fun G hC hR => body G hC fun pc lv hd => hR pc lv _ ?_
  obtain ⟨p, l, e, RR, s, m, args, below, meth, c, D, cA, ad, Q, k1, k2⟩ := G
  rintro ⟨-, h2, h3, rfl, rfl, rfl⟩
  intro H locs ls hP hS hl'
  exact W.iret hC.1 hC.2.1 h2 (fun t ht hW => ⟨rfl, by rw [ht]; exact hP, hS.F ht⟩) hS.2.2 hd h3
theorem xMet.ofZ {y : MethodName} {cy : ByteArray} {n d : Nat} {av : List xV} {M : xMem} {R : Int32 × xMem} (hpl : plainName y.cls = true) (hlen : av.length ≤ n)
    (body : ∀ G : xG, xC G cy n y.cls d → xRZ G cy n R → V G n 0 (xargs 0 av) [] M) : xMet y cy n (some .boolean) d av M (some R.1) R.2 := by
  refine xEntry hpl hlen fun G hC hR => body G hC fun pc lv h01 hd => hR pc lv _ ?_
  obtain ⟨p, l, e, RR, s, m, args, below, meth, c, D, cA, ad, Q, k1, k2⟩ := G
  rintro ⟨-, h2, h3, rfl, rfl, rfl⟩
  intro H locs ls hP hS hl'
  exact W.zret hC.1 hC.2.1 h2 (x01n h01) (fun t ht hW => ⟨rfl, by rw [ht]; exact hP, hS.F ht⟩) hS.2.2 hd h3
theorem xMet.ofV {y : MethodName} {cy : ByteArray} {n d : Nat} {av : List xV} {M M' : xMem} (hpl : plainName y.cls = true) (hlen : av.length ≤ n)
    (body : ∀ G : xG, xC G cy n y.cls d → xRV G cy n M' → V G n 0 (xargs 0 av) [] M) : xMet y cy n none d av M none M' := by
  refine xEntry hpl hlen fun G hC hR => body G hC fun pc lv hd => hR pc lv _ ?_
  obtain ⟨p, l, e, RR, s, m, args, below, meth, c, D, cA, ad, Q, k1, k2⟩ := G
  rintro ⟨-, h2, h3, rfl, rfl, rfl⟩
  intro H locs ls hP hS hl'
  exact W.vret hC.1 hC.2.1 h2 (fun t ht hW => ⟨rfl, by rw [ht]; exact hP, hS.F ht⟩) hS.2.2 hd h3
section RULES5
variable {G : xG} {cc : ByteArray} {nL d pc : Nat} {own : String} {lv lv' : List (Nat × xV)} {st : List xV} {M : xMem}
theorem xCallK {p : Program} {l : Launch} {e : Env} {R : Room} {s : State} {m : MethodId} {args : Array Value} {below : List Frame} {meth : Method} {c : Code} {H : Heap} {locs : List Loc} {D : va_G} {cA : Nat → ClassId} {ad : Nat → Nat} {Q : State → Prop} {ls : Array Slot} {st0 rest : List Value} {v : Option Value} {M' : xMem} {a : Array Value} {k1 k2 : Nat}
    (hr : va_Run p l e R s m args below meth c H locs k1 k2 0 0 (F0 m pc ls st0) rest (xQc D cA ad v M' a) (xA ad)) (hS : va_S (xA ad) s.heap H locs)
    (kk : ∀ (H1 : Heap) (locs1 : List Loc), va_P D vwCl (xWs cA ad M') H1 → va_S (xA ad) s.heap H1 locs1 → W p l e R s m args below meth c H1 locs1 k1 k2 Q (F0 m (pc + 3) ls (v.toList ++ rest))) : W p l e R s m args below meth c H locs k1 k2 Q (F0 m pc ls st0) := by
  intro T hT X
  obtain ⟨v', st₀, t, T', L, h0, X', hL, e1, e2, ⟨hv, hp, hz, hk⟩, st⟩ := hr T hT X
  cases hv
  rw [h0] at hz hk
  obtain ⟨t2, a1, b1⟩ := kk T'.heap (locs ++ L) (by rw [e1]; exact hp)
    ⟨Nat.le_trans hS.1 (by rw [e1]; exact hz), fun q h1 h2 => by rw [e1, hk q (Nat.lt_of_lt_of_le h1 hS.1) h2]; exact hS.2.1 q h1 h2, fun q hq => by
      rcases List.mem_append.mp hq with h | h
      · exact hS.2.2 q h
      · exact hL q h⟩ T' rfl X'
  exact ⟨t2, st t2 a1, b1⟩
theorem xPre_blind {D : va_G} {cA : Nat → ClassId} {ad : Nat → Nat} {M : xMem} {av : List Value} : FrameBlind (va_Pc av (xPre D cA ad M)) := by
  rintro a U g mk ⟨h0, h1, h2, h3, h4⟩
  exact ⟨h0, h1, va_K.moved (u := U) (U := U.calling g mk a) (Vm.Alike.refl U.vm) h2, h3, xE.same (u := U) (U := U.calling g mk a) (show (U.calling g mk a).vm = U.vm from rfl) h4⟩
/-- the link of a call: within the class, or to a nest mate -/
def xMl (own : String) (idx : Nat) (y : MethodName) : Prop := Cond.methodLink own idx y ∈ lw_gt ∨ ∃ host, Cond.methodLinkNest own idx y host ∈ lw_nt
def xYv (y : MethodName) (cy : ByteArray) (n : Nat) (ret : Option FieldType) (na : Nat) : Prop := Cond.code y cy n ret ∈ lw_gt ∧ Cond.instanceMethod y ∈ lw_gt ∧ Cond.selects y.cls y y ∈ lw_gt ∧ Cond.initialized y.cls ∈ lw_gt ∧ (y.cls ≠ "java/lang/invoke/MethodHandle" ∧ y.cls ≠ "java/lang/invoke/VarHandle") ∧ (parseMethodDescriptor y.desc).map (fun d => d.parameters.length) = some na ∧ n ≤ 21
def xYs (y : MethodName) (cy : ByteArray) (n : Nat) (ret : Option FieldType) (na : Nat) : Prop := Cond.code y cy n ret ∈ lw_gt ∧ Cond.static y ∈ lw_gt ∧ Cond.initialized y.cls ∈ lw_gt ∧ (y.cls ≠ "java/lang/invoke/MethodHandle" ∧ y.cls ≠ "java/lang/invoke/VarHandle") ∧ (parseMethodDescriptor y.desc).map (fun d => d.parameters.length) = some na ∧ n ≤ 21
theorem V.invV (C : xC G cc nL own d) {y : MethodName} {cy : ByteArray} {n d' na idx b ci r : Nat} {ret : Option FieldType} {as : List xV} {fs : List (Nat ⊕ (Nat × Nat))} {q : vw_C} {M' : xMem} {rv : Option Int32} {st0 : List xV}
    (hM : xMet y cy n ret d' (.inr b :: as) M rv M') (hy : xYv y cy n ret na) (hml : xMl own idx y) (hb : SH[b]? = some (.inr (.inr (ci, fs)))) (hq : vwCl[ci]? = some q) (hqc : q.1 = y.cls) (hd : decode cc pc = .ok (.invokevirtual idx, 3)) (hdd : d' + 1 ≤ d) (hna : as.length = na) (hst : st.length ≤ 8) (hs0 : st0 = as.reverse ++ .inr b :: st) (hr : pc + 3 = r)
    (k : V G nL r lv ((rv.map Sum.inl).toList ++ st) M') : V G nL pc lv st0 M := by
  subst hr; subst hs0; subst hna
  obtain ⟨p, l, e, R, s, m, args, below, meth, c, D, cA, ad, Q, k1, k2⟩ := G
  obtain ⟨hcode, hin, hsel, hini, hmh, hpd, hn⟩ := hy
  intro H locs ls hP hS hl'
  have hts := C.2.2.2.2.1
  have hf := C.2.2.2.2.2.2.2.2
  have hM1 := hM l D cA ad
  have hpre : PreV s H y.cls (ad b) (va_Pc (((.inr b :: as) : List xV).map (xval ad)) (xPre D cA ad M)) (as.map (xval ad)) := by
    refine ⟨xPre_blind, ?_, fun U hU hW => ⟨rfl, by rw [hU]; exact hP, va_K.moved hW.alike C.2.2.2.2.2.1, C.2.2.2.2.2.2.1, by rw [hU]; exact C.2.2.2.2.2.2.2.1.go hW hS.2.1⟩⟩
    rw [← hqc]
    exact va_recv C.2.2.2.2.2.1 hP hq (xWs_get hb)
  have hrm : (xRm d').frames + 1 ≤ R.frames ∧ 8 + (n + 11) + (xRm d').locals ≤ R.locals := by
    refine ⟨Nat.le_trans hdd hf.1, ?_⟩
    show 8 + (n + 11) + d' * 40 ≤ R.locals
    have : (d' + 1) * 40 ≤ d * 40 := Nat.mul_le_mul_right _ hdd
    omega
  have hW8 : 2 * (F0 m pc ls (((as.reverse ++ .inr b :: st) : List xV).map (xval ad))).monitorRoom + ((st.map (xval ad)).map fun v => v.category).sum ≤ 8 := lv_room (rest := ((as.reverse ++ .inr b :: st) : List xV).map (xval ad)) (by rw [xcats]; exact hst)
  have hstk : ((as.reverse ++ .inr b :: st) : List xV).map (xval ad) = (as.map (xval ad)).reverse ++ Value.ref (ad b) :: st.map (xval ad) := by
    rw [List.map_append, List.map_reverse]; rfl
  have key : va_Run p l e R s m args below meth c H locs k1 k2 0 0 (F0 m pc ls (((as.reverse ++ .inr b :: st) : List xV).map (xval ad))) (st.map (xval ad)) (xQc D cA ad (rv.map Value.int) M' (Value.ref (ad b) :: as.map (xval ad)).toArray) (xA ad) := by
    rcases hml with hml | ⟨host, hml⟩
    · exact va_runV ⟨C.1, C.2.1, C.2.2.1, C.2.2.2.1, hts⟩ hM1 ⟨callB_of as.length hts (lw_goodIn hcode) rfl rfl rfl (hts _ hini) (hts _ hml) ⟨hmh.1, hmh.2, hpd⟩ hrm, hts _ hin, hts _ hsel⟩ hpre rfl (by rw [List.length_map]) hl'.1 hstk hW8 hd ⟨hf.2.2.1, hf.2.2.2⟩
    · exact va_runVN ⟨C.1, C.2.1, C.2.2.1, C.2.2.2.1, hts⟩ hM1 ⟨va_cnB as.length hts (lw_goodIn hcode) rfl rfl rfl (C.2.2.2.2.2.2.2.1.2.2.2 _ hml) (hts _ hini) ⟨hmh.1, hmh.2, hpd⟩ hrm, hts _ hin, hts _ hsel⟩ hpre rfl (by rw [List.length_map]) hl'.1 hstk hW8 hd ⟨hf.2.2.1, hf.2.2.2⟩
  refine xCallK key hS (fun H1 locs1 g1 g2 => ?_)
  have := k H1 locs1 ls g1 g2 hl'
  have e1 : (((rv.map Sum.inl).toList ++ st) : List xV).map (xval ad) = (rv.map Value.int).toList ++ st.map (xval ad) := by
    cases rv <;> simp [xval]
  rw [e1] at this
  exact this
theorem V.invS (C : xC G cc nL own d) {y : MethodName} {cy : ByteArray} {n d' na idx r : Nat} {ret : Option FieldType} {as : List xV} {M' : xMem} {rv : Option Int32} {st0 : List xV}
    (hM : xMet y cy n ret d' as M rv M') (hy : xYs y cy n ret na) (hml : xMl own idx y) (hd : decode cc pc = .ok (.invokestatic idx, 3)) (hdd : d' + 1 ≤ d) (hna : as.length = na) (hst : st.length ≤ 8) (hs0 : st0 = as.reverse ++ st) (hr : pc + 3 = r)
    (k : V G nL r lv ((rv.map Sum.inl).toList ++ st) M') : V G nL pc lv st0 M := by
  subst hr; subst hs0; subst hna
  obtain ⟨p, l, e, R, s, m, args, below, meth, c, D, cA, ad, Q, k1, k2⟩ := G
  obtain ⟨hcode, hsta, hini, hmh, hpd, hn⟩ := hy
  intro H locs ls hP hS hl'
  have hts := C.2.2.2.2.1
  have hf := C.2.2.2.2.2.2.2.2
  have hM1 := hM l D cA ad
  have hpre : PreS s H (va_Pc (as.map (xval ad)) (xPre D cA ad M)) (as.map (xval ad)) :=
    ⟨xPre_blind, fun U hU hW => ⟨rfl, by rw [hU]; exact hP, va_K.moved hW.alike C.2.2.2.2.2.1, C.2.2.2.2.2.2.1, by rw [hU]; exact C.2.2.2.2.2.2.2.1.go hW hS.2.1⟩⟩
  have hrm : (xRm d').frames + 1 ≤ R.frames ∧ 8 + (n + 11) + (xRm d').locals ≤ R.locals := by
    refine ⟨Nat.le_trans hdd hf.1, ?_⟩
    show 8 + (n + 11) + d' * 40 ≤ R.locals
    have : (d' + 1) * 40 ≤ d * 40 := Nat.mul_le_mul_right _ hdd
    omega
  have hW8 : 2 * (F0 m pc ls (((as.reverse ++ st) : List xV).map (xval ad))).monitorRoom + ((st.map (xval ad)).map fun v => v.category).sum ≤ 8 := lv_room (rest := ((as.reverse ++ st) : List xV).map (xval ad)) (by rw [xcats]; exact hst)
  have hstk : ((as.reverse ++ st) : List xV).map (xval ad) = (as.map (xval ad)).reverse ++ st.map (xval ad) := by
    rw [List.map_append, List.map_reverse]
  have key : va_Run p l e R s m args below meth c H locs k1 k2 0 0 (F0 m pc ls (((as.reverse ++ st) : List xV).map (xval ad))) (st.map (xval ad)) (xQc D cA ad (rv.map Value.int) M' (as.map (xval ad)).toArray) (xA ad) := by
    rcases hml with hml | ⟨host, hml⟩
    · exact va_runS ⟨C.1, C.2.1, C.2.2.1, C.2.2.2.1, hts⟩ hM1 ⟨callB_of as.length hts (lw_goodIn hcode) rfl rfl rfl (hts _ hini) (hts _ hml) ⟨hmh.1, hmh.2, hpd⟩ hrm, hts _ hsta⟩ hpre rfl (by rw [List.length_map]) hl'.1 hstk hW8 hd ⟨hf.2.2.1, hf.2.2.2⟩
    · exact va_runSN ⟨C.1, C.2.1, C.2.2.1, C.2.2.2.1, hts⟩ hM1 ⟨va_cnB as.length hts (lw_goodIn hcode) rfl rfl rfl (C.2.2.2.2.2.2.2.1.2.2.2 _ hml) (hts _ hini) ⟨hmh.1, hmh.2, hpd⟩ hrm, hts _ hsta, trivial⟩ hpre rfl (by rw [List.length_map]) hl'.1 hstk hW8 hd ⟨hf.2.2.1, hf.2.2.2⟩
  refine xCallK key hS (fun H1 locs1 g1 g2 => ?_)
  have := k H1 locs1 ls g1 g2 hl'
  have e1 : (((rv.map Sum.inl).toList ++ st) : List xV).map (xval ad) = (rv.map Value.int).toList ++ st.map (xval ad) := by
    cases rv <;> simp [xval]
  rw [e1] at this
  exact this
end RULES5
