/-! making: objects, arrays; constructors' contracts -/
/-- the address map with one more -/
def adP (ad : Nat → Nat) (n q : Nat) : Nat → Nat := fun i => if i = n then q else ad i
theorem adP_lt {ad : Nat → Nat} {n q i : Nat} (h : i < n) : adP ad n q i = ad i := if_neg (Nat.ne_of_lt h)
theorem adP_eq {ad : Nat → Nat} {n q : Nat} : adP ad n q n = q := if_pos rfl
theorem zGrow {D : va_G} {cA : Nat → ClassId} {ad : Nat → Nat} {zs : List zD} {d : zD} {E : va_E} {q : Nat} {H : Heap} {A : Nat → Prop} (ho : zOk zs) (hd : zRefs d = []) (hE : ∀ ad, E = zCell cA ad d)
    (h1 : va_P D vwCl (zWs cA ad zs ++ [(q, E)]) H) (h2 : va_D A (zWs cA ad zs ++ [(q, E)])) : zOk (zs ++ [d]) ∧ va_P D vwCl (zWs cA (adP ad zs.length q) (zs ++ [d])) H ∧ va_D A (zWs cA (adP ad zs.length q) (zs ++ [d])) := by
  have e : zWs cA (adP ad zs.length q) (zs ++ [d]) = zWs cA ad zs ++ [(q, E)] := by
    rw [zWs_push, zWs_ext ho (fun i hi => adP_lt hi), adP_eq, ← hE]
  rw [e]
  exact ⟨zOk_push ho (fun r hr => by rw [hd] at hr; cases hr), h1, h2⟩
theorem xval_adP {ad : Nat → Nat} {n q : Nat} {v : xV} (h : ∀ k, v = .inr k → k < n) : xval (adP ad n q) v = xval ad v := by
  match v with
  | .inl x => rfl
  | .inr k => show Value.ref _ = Value.ref _; rw [adP_lt (h k rfl)]
def xLt (n : Nat) : xV → Prop
  | .inl _ => True
  | .inr k => k < n
theorem xmap_adP {ad : Nat → Nat} {n q : Nat} {st : List xV} (h : ∀ v ∈ st, xLt n v) : st.map (xval (adP ad n q)) = st.map (xval ad) :=
  List.map_congr_left fun v hv => xval_adP fun k e => by have := h v hv; rw [e] at this; exact this
theorem xmapl_adP {ad : Nat → Nat} {n q : Nat} {lv : List (Nat × xV)} (h : ∀ v ∈ lv, xLt n v.2) : (lv.map fun z => (z.1, xval (adP ad n q) z.2)) = lv.map fun z => (z.1, xval ad z.2) :=
  List.map_congr_left fun v hv => by rw [xval_adP fun k e => by have := h v hv; rw [e] at this; exact this]
section ZR2
variable {G : xG} {cc : ByteArray} {nL d pc n0 mc ms kc ks : Nat} {own : String} {lv lv' : List (Nat × xV)} {st : List xV} {zs : List zD} {A : Nat → Prop}
theorem Z.new (C : zC G cc nL own d mc ms A) {ci idx N r kc' ks' : Nat} {Cn : String} {T : u_T} {tyf : Nat → FieldType} {fs : List (Int32 ⊕ Option Nat)} {zs' : List zD} (hcl : xCl ci Cn T N) (hcp : xCp T N tyf) (hlk : Cond.classLink own idx Cn ∈ lw_gt) (hins : Cond.instantiable Cn N ∈ lw_gt) (hini : Cond.initialized Cn ∈ lw_gt) (hd : decode cc pc = .ok (.new idx, 3)) (hfs : ∀ j, j < N → ∀ ad, defaultValue (tyf j) = vp_V (fs.map (zval ad)) j) (hrf : zRefs (.inr (.inr (ci, fs))) = []) {q : Nat} (hlen : zs.length = q) (hn0 : n0 ≤ zs.length) (hlv : ∀ v ∈ lv, xLt zs.length v.2) (hst : ∀ v ∈ st, xLt zs.length v) (h1 : kc + 1 = kc') (h2 : ks + N = ks') (hmc : kc' ≤ mc) (hms : ks' ≤ ms) (hz : zs ++ [.inr (.inr (ci, fs))] = zs') (hr : pc + 3 = r)
    (k : Z G A n0 nL r lv (.inr q :: st) zs' kc' ks') : Z G A n0 nL pc lv st zs kc ks := by
  subst hlen; subst hr; subst hz; subst h1; subst h2
  obtain ⟨p, l, e, R, s, m, args, below, meth, c, D, cA, ad, Q, k1, k2⟩ := G
  intro ad' H locs ls ha ho hP hD hS hl'
  have hts := C.2.2.2.2.1
  obtain ⟨-, -, -, -, -, -, -, hA, -, -, hc1, hc2, -⟩ := id C
  refine va_new (ci := ci) (fs := fs.map (zval ad')) C.1 C.2.1 hts hcl.2 tyf hcp.1 C.2.2.2.1 (hts _ hlk) (hts _ hins) (hts _ hini) C.2.2.2.2.2.1 hP hD hS hA hcl.1 (fun j hj => hfs j hj ad') (by omega) (by omega) hd (fun q H1 g1 g2 g3 => ?_)
  obtain ⟨o1, o2, o3⟩ := zGrow (E := .inr (ci, fs.map (zval ad'))) ho hrf (fun ad2 => by
    show (Sum.inr (ci, fs.map (zval ad')) : va_E) = .inr (ci, fs.map (zval ad2))
    congr 2
    apply List.map_congr_left
    intro f hf
    match f, hf with
    | .inl x, _ => rfl
    | .inr none, _ => rfl
    | .inr (some r), hf =>
      have : r ∈ zRefs (.inr (.inr (ci, fs))) := List.mem_filterMap.mpr ⟨.inr (some r), hf, rfl⟩
      rw [hrf] at this; cases this) g1 g2
  have h := k (adP ad' zs.length q) H1 locs ls (fun i hi => by rw [adP_lt (by omega)]; exact ha i hi) o1 o2 o3 g3 (by rw [xmapl_adP hlv]; exact hl')
  rw [List.map_cons, xmap_adP hst] at h
  have e0 : xval (adP ad' zs.length q) (.inr zs.length) = .ref q := by show Value.ref _ = _; rw [adP_eq]
  rw [e0] at h
  exact h
theorem Z.newa (C : zC G cc nL own d mc ms A) {t n r kc' ks' : Nat} {at_ : ArrayType} {ty : FieldType} {N : Int32} {zs' : List zD} (htt : t < 3) (hty : newarray.typeOf at_ = ty) (htys : ∀ cA, (xTys cA)[t]? = some (cA t, ty)) (hw : Cond.arrayClass ty ∈ lw_gt) (hdef : defaultValue ty = .int 0) (hRA : ∀ (U : State) (c c' : ClassId), va_RA U c ty → va_RA U c' ty → c = c') (hcb : componentBytes ty ≤ 8) (hd : decode cc pc = .ok (.newarray at_, 2)) (hN : N = nI n) (hn : n < 4096) {q : Nat} (hlen : zs.length = q) (hn0 : n0 ≤ zs.length) (hlv : ∀ v ∈ lv, xLt zs.length v.2) (hst : ∀ v ∈ st, xLt zs.length v) (h1 : kc + 1 = kc') (h2 : ks + n = ks') (hmc : kc' ≤ mc) (hms : ks' ≤ ms) (hz : zs ++ [.inl (t, n, [])] = zs') (hr : pc + 2 = r)
    (k : Z G A n0 nL r lv (.inr q :: st) zs' kc' ks') : Z G A n0 nL pc lv (.inl N :: st) zs kc ks := by
  subst hlen; subst hr; subst hz; subst h1; subst h2; subst hN; subst hty
  obtain ⟨p, l, e, R, s, m, args, below, meth, c, D, cA, ad, Q, k1, k2⟩ := G
  intro ad' H locs ls ha ho hP hD hS hl'
  have hts := C.2.2.2.2.1
  obtain ⟨-, -, -, -, -, hK, -, hA, -, -, hc1, hc2, hAO⟩ := id C
  have hn31 : n < 2 ^ 31 := by omega
  refine va_newa (a0 := (n, .inl (zf []))) C.1 C.2.1 (hts _ hw) rfl hK hP hD hS hA (fun cA' => by rw [hdef]; rfl) (nI_pos hn31) (nI_clamp hn31) (Nat.le_trans (Nat.mul_le_mul (Nat.le_of_lt hn) hcb) (by omega)) (by omega) (by omega) hd (fun q cA' H1 hK' g1 g2 g3 => ?_)
  have e1 : cA' = cA t := by
    have q1 := (hK'.2 4 (cA', newarray.typeOf at_) rfl).2
    have q2 := (hK.2 t _ (htys cA)).2
    exact hRA _ _ _ q1 q2
  subst e1
  obtain ⟨o1, o2, o3⟩ := zGrow (d := .inl (t, n, [])) (E := .inl (cA t, n, .inl (zf []))) ho rfl (fun _ => rfl) g1 g2
  have h := k (adP ad' zs.length q) H1 locs ls (fun i hi => by rw [adP_lt (by omega)]; exact ha i hi) o1 o2 o3 g3 (by rw [xmapl_adP hlv]; exact hl')
  rw [List.map_cons, xmap_adP hst] at h
  have e0 : xval (adP ad' zs.length q) (.inr zs.length) = .ref q := by show Value.ref _ = _; rw [adP_eq]
  rw [e0] at h
  exact h
theorem Z.anew (C : zC G cc nL own d mc ms A) {idx n r kc' ks' : Nat} {N : Int32} {zs' : List zD} (hlk : Cond.classLink own idx RX6 ∈ lw_gt) (hd : decode cc pc = .ok (.anewarray idx, 3)) (hN : N = nI n) (hn : n < 4096) {q : Nat} (hlen : zs.length = q) (hn0 : n0 ≤ zs.length) (hlv : ∀ v ∈ lv, xLt zs.length v.2) (hst : ∀ v ∈ st, xLt zs.length v) (h1 : kc + 1 = kc') (h2 : ks + n = ks') (hmc : kc' ≤ mc) (hms : ks' ≤ ms) (hz : zs ++ [.inr (.inl (List.replicate n none))] = zs') (hr : pc + 3 = r)
    (k : Z G A n0 nL r lv (.inr q :: st) zs' kc' ks') : Z G A n0 nL pc lv (.inl N :: st) zs kc ks := by
  subst hlen; subst hr; subst hz; subst h1; subst h2; subst hN
  obtain ⟨p, l, e, R, s, m, args, below, meth, c, D, cA, ad, Q, k1, k2⟩ := G
  intro ad' H locs ls ha ho hP hD hS hl'
  have hts := C.2.2.2.2.1
  obtain ⟨-, -, -, -, -, hK, -, hA, -, -, hc1, hc2, hAO⟩ := id C
  have hn31 : n < 2 ^ 31 := by omega
  refine va_newq (C := RX6) C.1 C.2.1 C.2.2.2.1 (hts _ hlk) hAO hK hP hD hS hA (nI_pos hn31) (nI_clamp hn31) (by omega) (by omega) (by omega) hd (fun q cA' H1 hK' g1 g2 g3 => ?_)
  have e1 : cA' = cA 3 := by
    obtain ⟨_, _, -, -, -, q1⟩ := (hK'.2 4 (cA', .object RX6) rfl).2
    obtain ⟨_, _, -, -, -, q2⟩ := (hK.2 3 (cA 3, .object RX6) rfl).2
    exact Option.some.inj (q1.symm.trans q2)
  subst e1
  have hrf : zRefs (.inr (.inl (List.replicate n none))) = [] := by
    show (List.replicate n none).filterMap id = []
    rw [List.filterMap_eq_nil_iff]
    intro a ha'
    rw [(List.mem_replicate.mp ha').2]; rfl
  obtain ⟨o1, o2, o3⟩ := zGrow (d := .inr (.inl (List.replicate n none))) (E := .inl (cA 3, n, .inr (.inr (.inr (.inr (fun _ => none)))))) ho hrf (fun ad2 => by
    show _ = (Sum.inl (cA 3, (List.replicate n none).length, .inr (.inr (.inr (.inr (fun i => (((List.replicate n (none : Option Nat))[i]?).join).map ad2))))) : va_E)
    rw [List.length_replicate]
    congr 7
    funext i
    rw [List.getElem?_replicate]
    by_cases hi : i < n <;> simp [hi]) g1 g2
  have h := k (adP ad' zs.length q) H1 locs ls (fun i hi => by rw [adP_lt (by omega)]; exact ha i hi) o1 o2 o3 g3 (by rw [xmapl_adP hlv]; exact hl')
  rw [List.map_cons, xmap_adP hst] at h
  have e0 : xval (adP ad' zs.length q) (.inr zs.length) = .ref q := by show Value.ref _ = _; rw [adP_eq]
  rw [e0] at h
  exact h
theorem Z.objInit (C : zC G cc nL own d mc ms A) {idx q r : Nat} (hl : Cond.methodLink own idx objectInit ∈ lw_gt) (hi : Cond.instanceMethod objectInit ∈ lw_gt) (hc : Cond.code objectInit ⟨#[0xb1]⟩ 1 none ∈ lw_gt) (hd : decode cc pc = .ok (.invokespecial idx, 3)) (h1 : 1 ≤ d) (hst : st.length ≤ 8) (hr : pc + 3 = r) (k : Z G A n0 nL r lv st zs kc ks) : Z G A n0 nL pc lv (.inr q :: st) zs kc ks := by
  subst hr
  obtain ⟨p, l, e, R, s, m, args, below, meth, c, D, cA, ad, Q, k1, k2⟩ := G
  intro ad' H locs ls ha ho hP hD hS hl'
  have hts := C.2.2.2.2.1
  obtain ⟨-, -, hml, -, -, -, -, -, hf1, hf2, -, -, -⟩ := id C
  refine W.objInit (g := F0 m pc ls (.ref (ad' q) :: st.map (xval ad'))) C.1 C.2.1 C.2.2.2.1 (hts _ hl) (hts _ hi) (hts _ hc) rfl (hl'.1.trans hml.symm) rfl hd (by omega) ?_ (k ad' H locs ls ha ho hP hD hS hl')
  rw [xcats]
  show 2 * 0 + st.length + 12 ≤ R.locals
  omega
theorem zlt_k {zs : List zD} {k : Nat} {v : zD} {ns : List zD} (h : k < zs.length) : k < (zCur zs k v ns).length := by rw [zCur_len]; omega
theorem zlt_n {zs : List zD} {k j : Nat} {v : zD} {ns : List zD} (h : j < ns.length) : zs.length + j < (zCur zs k v ns).length := by rw [zCur_len]; omega
theorem zle_n {zs : List zD} {k : Nat} {v : zD} {ns : List zD} : zs.length ≤ (zCur zs k v ns).length := by rw [zCur_len]; omega
/-- a constructor: from a world with the blank v0 at k to one with v there and ns behind -/
def zMet (y : MethodName) (cy : ByteArray) (n d mc ms : Nat) (v0 : zD) (vf : Nat → zD) (nf : Nat → List zD) : Prop :=
  ∀ (l : Launch) (D : va_G) (cA : Nat → ClassId) (ad : Nat → Nat) (zs : List zD) (k sz : Nat), zs[k]? = some v0 → zOk zs →
    Met l y (Cond.code y cy n none :: lw_gt) { frames := d, cells := mc, slots := ms, locals := d * 40 } (va_Pc [.ref (ad k)] (fun U => U.heap.size = sz ∧ va_P D vwCl (zWs cA ad zs) U.heap ∧ va_K D vwCl (xTys cA) U ∧ va_D (fun _ => True) (zWs cA ad zs) ∧ va_AO RX6 U ∧ ∀ w ∈ lw_nt, va_Nw w U))
      (va_Qv (fun ad' : Nat → Nat => ∀ i, i < zs.length → ad' i = ad i) (fun ad' t => zOk (zCur zs k (vf zs.length) (nf zs.length)) ∧ va_P D vwCl (zWs cA ad' (zCur zs k (vf zs.length) (nf zs.length))) t.heap ∧ va_D (va_A (zWs cA ad zs) sz) (zWs cA ad' (zCur zs k (vf zs.length) (nf zs.length)))) (va_A (zWs cA ad zs) sz)) mc ms (va_A (zWs cA ad zs) sz)
theorem zMet.of {y : MethodName} {cy : ByteArray} {n dd mcc mss : Nat} {v0 : zD} {vf : Nat → zD} {nf : Nat → List zD} {zret : Nat} (hpl : plainName y.cls = true) (hn1 : 1 ≤ n) (hyi : y.name = "<init>") (hdr : decode cy zret = .ok (.return_, 1))
    (body : ∀ (G : xG) (A : Nat → Prop) (zs : List zD) (k : Nat), zs[k]? = some v0 → zC G cy n y.cls dd mcc mss A → zInit G →
      (∀ (lv : List (Nat × xV)), Z G A zs.length n zret lv [] (zCur zs k (vf zs.length) (nf zs.length)) mcc mss) → Z G A zs.length n 0 [(0, .inr k)] [] (zCur zs k v0 []) 0 0) : zMet y cy n dd mcc mss v0 vf nf := by
  intro l D cA ad zs k sz hk hok
  refine Met.ofW (cc := cy) (maxL := n) (ret := none) hpl rfl ?_
  intro p e s m args below meth c s₁ B hml hv
  obtain ⟨rfl, hsz, hP, hK, hD0, hAO, hnt⟩ := hv
  have hts := atoms_spec (ws := Cond.code y cy n none :: lw_gt) B.pre
  have hown : s.vm.findClass y.cls = some m.cls := findClass_of_methodNamed B.named
  have hin : meth.name = "<init>" := by rw [(name_of_methodNamed B.named B.method).1]; exact hyi
  subst hsz
  have hD := hD0.self (sz := s.heap.size)
  have hC : zC (p, l, e, { frames := dd, cells := mcc, slots := mss, locals := dd * 40 }, s, m, [Value.ref (ad k)].toArray, below, meth, c, D, cA, ad, MQ below (va_Qv (fun ad' : Nat → Nat => ∀ i, i < zs.length → ad' i = ad i) (fun ad' t => zOk (zCur zs k (vf zs.length) (nf zs.length)) ∧ va_P D vwCl (zWs cA ad' (zCur zs k (vf zs.length) (nf zs.length))) t.heap ∧ va_D (va_A (zWs cA ad zs) s.heap.size) (zWs cA ad' (zCur zs k (vf zs.length) (nf zs.length)))) (va_A (zWs cA ad zs) s.heap.size)) [Value.ref (ad k)].toArray s mcc mss (va_A (zWs cA ad zs) s.heap.size), 0, 0) cy n y.cls dd mcc mss (va_A (zWs cA ad zs) s.heap.size) :=
    ⟨B.exec, B.bytes, hml, hown, fun w hw => hts w (List.mem_cons_of_mem _ hw), hK, hnt, fun q h => Or.inr h, Nat.le_refl _, Nat.le_refl _, Nat.le_refl _, Nat.le_refl _, hAO⟩
  have h := body _ _ zs k hk hC hin (fun lv => ?_)
  · have e0 : zCur zs k v0 [] = zs := by
      unfold zCur
      rw [List.append_nil]
      apply List.ext_getElem?
      intro j
      rw [List.getElem?_set]
      by_cases hj : k = j
      · subst hj
        rw [if_pos rfl, if_pos (List.getElem?_eq_some_iff.mp hk).1, hk]
      · rw [if_neg hj]
    rw [e0] at h
    rw [lg_entry_eq]
    have hl := lv_entry [Value.ref (ad k)] (n := n) (by show 1 ≤ n; exact hn1)
    exact h ad s.heap [] _ (fun _ _ => rfl) hok hP hD va_S.rf hl
  · intro ad' H locs ls ha ho hP' hD' hS hl'
    exact W.vret B.exec B.bytes B.returns (fun t ht hW => ⟨⟨ad', rfl, ha, ho, by rw [ht]; exact hP', hD'⟩, hS.F ht⟩) hS.2.2 hdr B.notSynchronized
/-- the words of a constructor -/
def zY (y : MethodName) (cy : ByteArray) (n : Nat) : Prop := Cond.code y cy n none ∈ lw_gt ∧ Cond.instanceMethod y ∈ lw_gt ∧ Cond.initialized y.cls ∈ lw_gt ∧ y.name = "<init>" ∧ (y.cls ≠ "java/lang/invoke/MethodHandle" ∧ y.cls ≠ "java/lang/invoke/VarHandle") ∧ (parseMethodDescriptor y.desc).map (fun d => d.parameters.length) = some 0 ∧ n ≤ 21
theorem Z.inv (C : zC G cc nL own d mc ms A) {y : MethodName} {cy : ByteArray} {n d' mc' ms' idx b r kc' ks' : Nat} {v0 : zD} {vf : Nat → zD} {nf : Nat → List zD} {zs' : List zD}
    (hM : zMet y cy n d' mc' ms' v0 vf nf) (hy : zY y cy n) (hml : xMl own idx y) (hb : zs[b]? = some v0) (hd : decode cc pc = .ok (.invokespecial idx, 3)) (hdd : d' + 1 ≤ d) (hst8 : st.length ≤ 8) (hn0 : n0 ≤ zs.length) (hlv : ∀ v ∈ lv, xLt zs.length v.2) (hst : ∀ v ∈ st, xLt zs.length v) (h1 : kc + mc' = kc') (h2 : ks + ms' = ks') (hmc : kc' ≤ mc) (hms : ks' ≤ ms) (hz : zCur zs b (vf zs.length) (nf zs.length) = zs') (hr : pc + 3 = r)
    (k : Z G A n0 nL r lv st zs' kc' ks') : Z G A n0 nL pc lv (.inr b :: st) zs kc ks := by
  subst hr; subst hz; subst h1; subst h2
  obtain ⟨p, l, e, R, s, m, args, below, meth, c, D, cA, ad, Q, k1, k2⟩ := G
  obtain ⟨hcode, hin, hini, hyn, hmh, hpd, hn⟩ := hy
  intro ad' H locs ls ha ho hP hD hS hl'
  have hts := C.2.2.2.2.1
  obtain ⟨hx, hbb, hmL, ho', -, hK, hnt, hA, hf1, hf2, hc1, hc2, hAO⟩ := id C
  have hM1 := hM l D cA ad' zs b H.size hb ho
  have hpre : PreS s H (va_Pc [.ref (ad' b)] (fun U => U.heap.size = H.size ∧ va_P D vwCl (zWs cA ad' zs) U.heap ∧ va_K D vwCl (xTys cA) U ∧ va_D (fun _ => True) (zWs cA ad' zs) ∧ va_AO RX6 U ∧ ∀ w ∈ lw_nt, va_Nw w U)) [.ref (ad' b)] := by
    refine ⟨fun a U g mk q => ?_, fun U hU hW => ⟨rfl, by rw [hU], by rw [hU]; exact hP, va_K.moved hW.alike hK, hD.weaken (fun _ _ _ _ => trivial), va_AO.moved hW.alike hAO, fun w hw => xNest_warm (List.mem_filter.mp hw).2 hW (hnt w hw)⟩⟩
    obtain ⟨q0, q1, qP, qK, qD, qO, qN⟩ := q
    exact ⟨q0, q1, qP, va_K.moved (u := U) (U := U.calling g mk a) (Vm.Alike.refl U.vm) qK, qD, va_AO.moved (u := U) (U := U.calling g mk a) (Vm.Alike.refl U.vm) qO, fun w hw => va_Nw.same (u := U) (U := U.calling g mk a) (xNest_tab (List.mem_filter.mp hw).2) rfl (qN w hw)⟩
  have hrm : d' + 1 ≤ R.frames ∧ 8 + (n + 11) + d' * 40 ≤ R.locals := by
    refine ⟨Nat.le_trans hdd hf1, ?_⟩
    have : (d' + 1) * 40 ≤ d * 40 := Nat.mul_le_mul_right _ hdd
    omega
  have hW8 : 2 * (F0 m pc ls (((.inr b :: st) : List xV).map (xval ad'))).monitorRoom + ((st.map (xval ad')).map fun v => v.category).sum ≤ 8 := lv_room (rest := ((.inr b :: st) : List xV).map (xval ad')) (by rw [xcats]; exact hst8)
  have hFA : ∀ q, va_A (zWs cA ad' zs) H.size q → A q := fun q h => by
    rcases h with ⟨k2, e2, h⟩ | h
    · exact hD.2 k2 (q, e2) h
    · exact hA q (Nat.le_trans hS.1 h)
  have key : va_Run p l e R s m args below meth c H locs kc ks mc' ms' (F0 m pc ls (((.inr b :: st) : List xV).map (xval ad'))) (st.map (xval ad')) (va_Qv (fun ad2 : Nat → Nat => ∀ i, i < zs.length → ad2 i = ad' i) (fun ad2 t => zOk (zCur zs b (vf zs.length) (nf zs.length)) ∧ va_P D vwCl (zWs cA ad2 (zCur zs b (vf zs.length) (nf zs.length))) t.heap ∧ va_D (va_A (zWs cA ad' zs) H.size) (zWs cA ad2 (zCur zs b (vf zs.length) (nf zs.length)))) (va_A (zWs cA ad' zs) H.size) [Value.ref (ad' b)].toArray) (va_A (zWs cA ad' zs) H.size) := by
    rcases hml with hml | ⟨host, hml⟩
    · exact va_runI (As := []) ⟨hx, hbb, hmL, ho', hts⟩ hM1 (cwI 0 hts (lw_goodIn hcode) rfl rfl rfl (hts _ hini) (hts _ hml) (hts _ hin) hyn ⟨hmh.1, hmh.2, hpd⟩ hrm) hpre rfl rfl hl'.1 rfl hW8 hd ⟨by omega, by omega⟩
    · exact va_runIN (As := []) ⟨hx, hbb, hmL, ho', hts⟩ hM1 ⟨va_cnB 0 hts (lw_goodIn hcode) rfl rfl rfl (hnt _ hml) (hts _ hini) ⟨hmh.1, hmh.2, hpd⟩ hrm, hyn, hts _ hin⟩ hpre rfl rfl hl'.1 rfl hW8 hd ⟨by omega, by omega⟩
  refine va_callv key hS (fun q _ h => hFA q h) hFA (fun ad2 t H1 locs1 ht hvm hw hB hz1 hk1 hS1 => ?_)
  obtain ⟨g0, g1, g2⟩ := hB
  rw [ht] at g1
  have hmapl : (lv.map fun z => (z.1, xval ad2 z.2)) = lv.map fun z => (z.1, xval ad' z.2) := List.map_congr_left fun v hv => by
    have h3 := hlv v hv
    match hv2 : v.2 with
    | .inl x => rfl
    | .inr q => rw [hv2] at h3; show (v.1, Value.ref _) = (v.1, Value.ref _); rw [hw q h3]
  have hmaps : st.map (xval ad2) = st.map (xval ad') := List.map_congr_left fun v hv => by
    have h3 := hst v hv
    match v, h3 with
    | .inl x, _ => rfl
    | .inr q, h3 => show Value.ref _ = Value.ref _; rw [hw q h3]
  have h := k ad2 H1 locs1 ls (fun i hi => by rw [hw i (by omega)]; exact ha i hi) g0 g1 (g2.weaken fun _ q _ h => hFA q.1 h) hS1 (by rw [hmapl]; exact hl')
  rw [hmaps] at h
  exact h
end ZR2
