/-! stores without an order to hold, calls by the kind of their answer, and what the printed methods are written in -/
def lvput : List (Nat × xV) → Nat → xV → List (Nat × xV)
  | [], i, v => [(i, v)]
  | q :: r, i, v => bif Nat.beq i q.1 then (i, v) :: r.filter (fun z => !Nat.beq i z.1) else bif Nat.blt i q.1 then (i, v) :: q :: r.filter (fun z => !Nat.beq i z.1) else q :: lvput r i v
theorem lvput_mem {i : Nat} {v : xV} : ∀ (lv : List (Nat × xV)), ∀ q ∈ lvput lv i v, q = (i, v) ∨ (q ∈ lv ∧ q.1 ≠ i) := by
  intro lv
  induction lv with
  | nil => intro q hq; simp [lvput] at hq; exact Or.inl hq
  | cons a r ih =>
    intro q hq
    simp only [lvput] at hq
    cases h1 : Nat.beq i a.1 with
    | true =>
      rw [h1, cond_true] at hq
      rcases List.mem_cons.mp hq with h | h
      · exact Or.inl h
      · obtain ⟨h2, h3⟩ := List.mem_filter.mp h
        refine Or.inr ⟨List.mem_cons_of_mem _ h2, fun e => ?_⟩
        rw [e] at h3; simp [Nat.beq_refl] at h3
    | false =>
      have hne : a.1 ≠ i := fun e => by rw [e] at h1; simp [Nat.beq_refl] at h1
      rw [h1, cond_false] at hq
      cases h2 : Nat.blt i a.1 with
      | true =>
        rw [h2, cond_true] at hq
        rcases List.mem_cons.mp hq with h | h
        · exact Or.inl h
        · rcases List.mem_cons.mp h with rfl | h
          · exact Or.inr ⟨List.mem_cons_self, hne⟩
          · obtain ⟨h4, h3⟩ := List.mem_filter.mp h
            refine Or.inr ⟨List.mem_cons_of_mem _ h4, fun e => ?_⟩
            rw [e] at h3; simp [Nat.beq_refl] at h3
      | false =>
        rw [h2, cond_false] at hq
        rcases List.mem_cons.mp hq with rfl | h
        · exact Or.inr ⟨List.mem_cons_self, hne⟩
        · rcases ih q h with h | h
          · exact Or.inl h
          · exact Or.inr ⟨List.mem_cons_of_mem _ h.1, h.2⟩
theorem lvput_has {ls : Array Slot} {nL i : Nat} {ad : Nat → Nat} {lv lv' : List (Nat × xV)} {v : xV} (hl : lvput lv i v = lv')
    (h : lv_has ls nL ((i, xval ad v) :: (lv.map fun q => (q.1, xval ad q.2)).filter (fun q => !(q.1 == i) && !(q.1 + 1 == i && q.2.category == 2)))) : lv_has ls nL (lv'.map fun q => (q.1, xval ad q.2)) := by
  subst hl
  refine lv_sub2 h fun q hq => ?_
  obtain ⟨z, hz, rfl⟩ := List.mem_map.mp hq
  rcases lvput_mem lv z hz with rfl | ⟨h1, h2⟩
  · exact List.mem_cons_self
  · refine List.mem_cons_of_mem _ (List.mem_filter.mpr ⟨List.mem_map_of_mem h1, ?_⟩)
    simp [h2, xval_cat]
section RULES6
variable {G : xG} {cc : ByteArray} {nL d pc : Nat} {own : String} {lv lv' : List (Nat × xV)} {st : List xV} {M : xMem}
theorem V.ist_n (C : xC G cc nL own d) {i : Fin 4} {x : Int32} {r : Nat} (hd : decode cc pc = .ok (.istore_n i, 1)) (hn : Nat.blt (i : Nat) nL = true) (hl' : lvput lv (i : Nat) (.inl x) = lv') (hr : pc + 1 = r) (k : V G nL r lv' st M) : V G nL pc lv (.inl x :: st) M := by
  subst hr
  obtain ⟨p, l, e, R, s, m, args, below, meth, c, D, cA, ad, Q, k1, k2⟩ := G
  intro H locs ls hP hS hl
  exact lv_istore_n C.1 C.2.1 hd rfl hl (by simpa [Nat.blt_eq] using hn) rfl (fun ls' h => k H locs ls' hP hS (lvput_has hl' h))
theorem V.ist (C : xC G cc nL own d) {i : Nat} {x : Int32} {r : Nat} (hd : decode cc pc = .ok (.istore i, 2)) (hn : Nat.blt i nL = true) (hl' : lvput lv i (.inl x) = lv') (hr : pc + 2 = r) (k : V G nL r lv' st M) : V G nL pc lv (.inl x :: st) M := by
  subst hr
  obtain ⟨p, l, e, R, s, m, args, below, meth, c, D, cA, ad, Q, k1, k2⟩ := G
  intro H locs ls hP hS hl
  exact lv_istore C.1 C.2.1 hd hl (by simpa [Nat.blt_eq] using hn) rfl (fun ls' h => k H locs ls' hP hS (lvput_has hl' h))
theorem V.ast_n (C : xC G cc nL own d) {i : Fin 4} {x : Nat} {r : Nat} (hd : decode cc pc = .ok (.astore_n i, 1)) (hn : Nat.blt (i : Nat) nL = true) (hl' : lvput lv (i : Nat) (.inr x) = lv') (hr : pc + 1 = r) (k : V G nL r lv' st M) : V G nL pc lv (.inr x :: st) M := by
  subst hr
  obtain ⟨p, l, e, R, s, m, args, below, meth, c, D, cA, ad, Q, k1, k2⟩ := G
  intro H locs ls hP hS hl
  exact lv_astore_n C.1 C.2.1 hd rfl hl (by simpa [Nat.blt_eq] using hn) rfl (fun ls' h => k H locs ls' hP hS (lvput_has hl' h))
theorem V.ast (C : xC G cc nL own d) {i : Nat} {x : Nat} {r : Nat} (hd : decode cc pc = .ok (.astore i, 2)) (hn : Nat.blt i nL = true) (hl' : lvput lv i (.inr x) = lv') (hr : pc + 2 = r) (k : V G nL r lv' st M) : V G nL pc lv (.inr x :: st) M := by
  subst hr
  obtain ⟨p, l, e, R, s, m, args, below, meth, c, D, cA, ad, Q, k1, k2⟩ := G
  intro H locs ls hP hS hl
  exact lv_astore C.1 C.2.1 hd hl (by simpa [Nat.blt_eq] using hn) rfl (fun ls' h => k H locs ls' hP hS (lvput_has hl' h))
theorem V.inc (C : xC G cc nL own d) {i : Nat} {n : Int} {x w : Int32} {r : Nat} (j : Nat) (hd : decode cc pc = .ok (.iinc i n, 3)) (hj : lv[j]? = some (i, .inl x)) (hw : Int32.ofInt n = w) (hn : Nat.blt i nL = true) (hl' : lvput lv i (.inl (x + w)) = lv') (hr : pc + 3 = r) (k : V G nL r lv' st M) : V G nL pc lv st M := by
  subst hr; subst hw
  obtain ⟨p, l, e, R, s, m, args, below, meth, c, D, cA, ad, Q, k1, k2⟩ := G
  intro H locs ls hP hS hl
  exact lv_iinc C.1 C.2.1 hd hl (k := j) (by rw [List.getElem?_map, hj]; rfl) rfl (by simpa [Nat.blt_eq] using hn) rfl (fun ls' h => k H locs ls' hP hS (lvput_has hl' h))
theorem V.pick (ks : List Nat) (h : ks.filterMap (fun k => lv[k]?) = lv') (k : V G nL pc lv' st M) : V G nL pc lv st M := by
  refine V.sub (fun q hq => ?_) k
  subst h
  obtain ⟨i, -, hi⟩ := List.mem_filterMap.mp hq
  exact List.mem_of_getElem? hi
theorem V.invVi (C : xC G cc nL own d) {y : MethodName} {cy : ByteArray} {n d' na idx b ci r : Nat} {ret : Option FieldType} {as : List xV} {fs : List (Nat ⊕ (Nat × Nat))} {q : vw_C} {R : Int32 × xMem} {st0 : List xV}
    (hM : xMet y cy n ret d' (.inr b :: as) M (some R.1) R.2) (hy : xYv y cy n ret na) (hml : xMl own idx y) (hb : SH[b]? = some (.inr (.inr (ci, fs)))) (hq : vwCl[ci]? = some q) (hqc : q.1 = y.cls) (hd : decode cc pc = .ok (.invokevirtual idx, 3)) (hdd : d' + 1 ≤ d) (hna : as.length = na) (hst : Nat.ble st.length 8 = true) (hs0 : st0 = as.reverse ++ .inr b :: st) (hr : pc + 3 = r)
    (k : V G nL r lv (.inl R.1 :: st) R.2) : V G nL pc lv st0 M := V.invV C hM hy hml hb hq hqc hd hdd hna (Nat.le_of_ble_eq_true hst) hs0 hr k
theorem V.invVv (C : xC G cc nL own d) {y : MethodName} {cy : ByteArray} {n d' na idx b ci r : Nat} {ret : Option FieldType} {as : List xV} {fs : List (Nat ⊕ (Nat × Nat))} {q : vw_C} {M' : xMem} {st0 : List xV}
    (hM : xMet y cy n ret d' (.inr b :: as) M none M') (hy : xYv y cy n ret na) (hml : xMl own idx y) (hb : SH[b]? = some (.inr (.inr (ci, fs)))) (hq : vwCl[ci]? = some q) (hqc : q.1 = y.cls) (hd : decode cc pc = .ok (.invokevirtual idx, 3)) (hdd : d' + 1 ≤ d) (hna : as.length = na) (hst : Nat.ble st.length 8 = true) (hs0 : st0 = as.reverse ++ .inr b :: st) (hr : pc + 3 = r)
    (k : V G nL r lv st M') : V G nL pc lv st0 M := V.invV C hM hy hml hb hq hqc hd hdd hna (Nat.le_of_ble_eq_true hst) hs0 hr k
theorem V.invSi (C : xC G cc nL own d) {y : MethodName} {cy : ByteArray} {n d' na idx r : Nat} {ret : Option FieldType} {as : List xV} {R : Int32 × xMem} {st0 : List xV}
    (hM : xMet y cy n ret d' as M (some R.1) R.2) (hy : xYs y cy n ret na) (hml : xMl own idx y) (hd : decode cc pc = .ok (.invokestatic idx, 3)) (hdd : d' + 1 ≤ d) (hna : as.length = na) (hst : Nat.ble st.length 8 = true) (hs0 : st0 = as.reverse ++ st) (hr : pc + 3 = r)
    (k : V G nL r lv (.inl R.1 :: st) R.2) : V G nL pc lv st0 M := V.invS C hM hy hml hd hdd hna (Nat.le_of_ble_eq_true hst) hs0 hr k
theorem V.invSv (C : xC G cc nL own d) {y : MethodName} {cy : ByteArray} {n d' na idx r : Nat} {ret : Option FieldType} {as : List xV} {M' : xMem} {st0 : List xV}
    (hM : xMet y cy n ret d' as M none M') (hy : xYs y cy n ret na) (hml : xMl own idx y) (hd : decode cc pc = .ok (.invokestatic idx, 3)) (hdd : d' + 1 ≤ d) (hna : as.length = na) (hst : Nat.ble st.length 8 = true) (hs0 : st0 = as.reverse ++ st) (hr : pc + 3 = r)
    (k : V G nL r lv st M') : V G nL pc lv st0 M := V.invS C hM hy hml hd hdd hna (Nat.le_of_ble_eq_true hst) hs0 hr k
end RULES6
/-- a store, named: the rest goes on with the new memory -/
def mset {α : Type} (M : xMem) (f : xMem → α) : α := f M
theorem tab_out {x : Int32} {lo hi : Int} (h : ∀ v ∈ (List.range (hi - lo + 1).toNat).map (fun (k : Nat) => Int32.ofInt (lo + (k : Int))), x ≠ v) (h1 : -2147483648 ≤ lo) (h2 : hi ≤ 2147483647) : x.toInt < lo ∨ hi < x.toInt := by
  by_cases g : x.toInt < lo ∨ hi < x.toInt
  · exact g
  · exfalso
    refine h x (List.mem_map.mpr ⟨(x.toInt - lo).toNat, List.mem_range.mpr (by omega), ?_⟩) rfl
    have e : lo + (((x.toInt - lo).toNat : Nat) : Int) = x.toInt := by omega
    rw [e]
    exact Int32.ofInt_toInt x
theorem xdrawn {i : Int32} (h : ¬ (i < 0 ∨ 4 ≤ i.toNatClampNeg)) : [48, 66, 84, 102][i.toNatClampNeg]? = some (plc (2 + i.toNatClampNeg) + 0) := by
  have h1 : i.toNatClampNeg < 4 := Nat.not_le.mp fun q => h (Or.inr q)
  generalize i.toNatClampNeg = j at h1 ⊢
  match j, h1 with
  | 0, _ => rfl
  | 1, _ => rfl
  | 2, _ => rfl
  | 3, _ => rfl
theorem xdrawn7 {i : Int32} (h : ¬ (i < 0 ∨ 4 ≤ i.toNatClampNeg)) : 2 + i.toNatClampNeg < 7 := by
  have h1 : i.toNatClampNeg < 4 := Nat.not_le.mp fun q => h (Or.inr q)
  omega
