/-! rules of the two texts, which lie outside the system -/
section RULES8
variable {G : xG} {cc : ByteArray} {nL d pc : Nat} {own : String} {lv lv' : List (Nat × xV)} {st : List xV} {M : xMem}
theorem V.sgetV (C : xC G cc nL own d) {j idx r : Nat} (hj : j < 2) (hl : Cond.fieldLink own idx "java/lang/String" "value" "[B" ∈ lw_gt) (hd : decode cc pc = .ok (.getfield idx, 3)) (hr : pc + 3 = r) (k : V G nL r lv (.inr (1020 + j) :: st) M) : V G nL pc lv (.inr (1010 + j) :: st) M := by
  subst hr
  obtain ⟨p, l, e, R, s, m, args, below, meth, c, D, cA, ad, Q, k1, k2⟩ := G
  intro H locs ls hP hS hl'
  exact vk_getf C.1 C.2.1 ((C.2.2.2.2.2.2.2.1).2.1.1 j hj).2.2.1 hS C.2.2.2.1 (C.2.2.2.2.1 _ hl) (fun _ h9 => h9) hd (k H locs ls hP hS hl')
theorem V.sgetC (C : xC G cc nL own d) {j idx r : Nat} (hj : j < 2) (hl : Cond.fieldLink own idx "java/lang/String" "coder" "B" ∈ lw_gt) (hd : decode cc pc = .ok (.getfield idx, 3)) (hr : pc + 3 = r) (k : V G nL r lv (.inl 0 :: st) M) : V G nL pc lv (.inr (1010 + j) :: st) M := by
  subst hr
  obtain ⟨p, l, e, R, s, m, args, below, meth, c, D, cA, ad, Q, k1, k2⟩ := G
  intro H locs ls hP hS hl'
  exact vk_getf C.1 C.2.1 ((C.2.2.2.2.2.2.2.1).2.1.1 j hj).2.1 hS C.2.2.2.1 (C.2.2.2.2.1 _ hl) (fun _ h9 => h9) hd (k H locs ls hP hS hl')
theorem V.gcomp (C : xC G cc nL own d) {idx r : Nat} (hl : Cond.fieldLink own idx "java/lang/String" "COMPACT_STRINGS" "Z" ∈ lw_gt) (hd : decode cc pc = .ok (.getstatic idx, 3)) (hr : pc + 3 = r) (k : V G nL r lv (.inl 1 :: st) M) : V G nL pc lv st M := by
  subst hr
  obtain ⟨p, l, e, R, s, m, args, below, meth, c, D, cA, ad, Q, k1, k2⟩ := G
  intro H locs ls hP hS hl'
  exact va_gets C.1 C.2.1 (C.2.2.2.2.2.2.2.1).2.2.1.2.2 hS C.2.2.2.1 (C.2.2.2.2.1 _ hl) (fun _ h9 => h9) hd (k H locs ls hP hS hl')
theorem V.sbald (C : xC G cc nL own d) {j r n : Nat} {i : Int32} (hj : j < 2) (hn : xStrL.getD j 0 = n) (hd : decode cc pc = .ok (.baload, 1)) (hin : ¬ (i < 0 ∨ n ≤ i.toNatClampNeg)) (hr : pc + 1 = r) (k : V G nL r lv (.inl ((xStrB.getD j []).getD i.toNatClampNeg 0) :: st) M) : V G nL pc lv (.inl i :: .inr (1020 + j) :: st) M := by
  subst hr; subst hn
  obtain ⟨p, l, e, R, s, m, args, below, meth, c, D, cA, ad, Q, k1, k2⟩ := G
  intro H locs ls hP hS hl'
  exact va_tb C.1 C.2.1 ((C.2.2.2.2.2.2.2.1).2.1.1 j hj).2.2.2 hS hin rfl hd (k H locs ls hP hS hl')
theorem V.salen (C : xC G cc nL own d) {j r : Nat} {v : Int32} (hj : j < 2) (hd : decode cc pc = .ok (.arraylength, 1)) (hv : Int32.ofNat (xStrL.getD j 0) = v) (hr : pc + 1 = r) (k : V G nL r lv (.inl v :: st) M) : V G nL pc lv (.inr (1020 + j) :: st) M := by
  subst hr
  obtain ⟨p, l, e, R, s, m, args, below, meth, c, D, cA, ad, Q, k1, k2⟩ := G
  intro H locs ls hP hS hl'
  obtain ⟨cell, h1, h2, h3, h4, h5, h6, h7⟩ := ((C.2.2.2.2.2.2.2.1).2.1.1 j hj).2.2.2
  exact W.alen (n := v) C.1 C.2.1 (by rw [hS.2.1 _ (Array.getElem?_eq_some_iff.mp h1).1 h7]; exact h1) h2 (by rw [h5, hv]) rfl rfl hd (k H locs ls hP hS hl')
theorem V.invXi (C : xC G cc nL own d) {y : MethodName} {cy : ByteArray} {n d' na idx j r : Nat} {ret : Option FieldType} {as : List xV} {R : Int32 × xMem} {st0 : List xV}
    (hM : xMet y cy n ret d' (.inr (1010 + j) :: as) M (some R.1) R.2) (hy : xYv y cy n ret na) (hml : xMl own idx y) (hj : j < 2) (hqc : "java/lang/String" = y.cls) (hd : decode cc pc = .ok (.invokevirtual idx, 3)) (hdd : d' + 1 ≤ d) (hna : as.length = na) (hst8 : Nat.ble st.length 8 = true) (hs0 : st0 = as.reverse ++ .inr (1010 + j) :: st) (hr : pc + 3 = r)
    (k : V G nL r lv (.inl R.1 :: st) R.2) : V G nL pc lv st0 M := by
  have hst := Nat.le_of_ble_eq_true hst8
  subst hr; subst hs0; subst hna
  obtain ⟨p, l, e, RR, s, m, args, below, meth, c, D, cA, ad, Q, k1, k2⟩ := G
  obtain ⟨hcode, hin, hsel, hini, hmh, hpd, hn⟩ := hy
  intro H locs ls hP hS hl'
  have hts := C.2.2.2.2.1
  have hf := C.2.2.2.2.2.2.2.2
  have hM1 := hM l D cA ad
  have hpre : PreV s H y.cls (ad (1010 + j)) (va_Pc (((.inr (1010 + j) :: as) : List xV).map (xval ad)) (xPre D cA ad M)) (as.map (xval ad)) := by
    refine ⟨xPre_blind, ?_, fun U hU hW => ⟨rfl, by rw [hU]; exact hP, va_K.moved hW.alike C.2.2.2.2.2.1, C.2.2.2.2.2.2.1, by rw [hU]; exact C.2.2.2.2.2.2.2.1.go hW hS.2.1⟩⟩
    rw [← hqc]
    exact vk_recv (adK := fun i => ad (1010 + i)) (adV := fun i => ad (1020 + i)) (i := j) (C.2.2.2.2.2.2.2.1).2.1 hj hS
  have hrm : (xRm d').frames + 1 ≤ RR.frames ∧ 8 + (n + 11) + (xRm d').locals ≤ RR.locals := by
    refine ⟨Nat.le_trans hdd hf.1, ?_⟩
    show 8 + (n + 11) + d' * 40 ≤ RR.locals
    have : (d' + 1) * 40 ≤ d * 40 := Nat.mul_le_mul_right _ hdd
    omega
  have hW8 : 2 * (F0 m pc ls (((as.reverse ++ .inr (1010 + j) :: st) : List xV).map (xval ad))).monitorRoom + ((st.map (xval ad)).map fun v => v.category).sum ≤ 8 := lv_room (rest := ((as.reverse ++ .inr (1010 + j) :: st) : List xV).map (xval ad)) (by rw [xcats]; exact hst)
  have hstk : ((as.reverse ++ .inr (1010 + j) :: st) : List xV).map (xval ad) = (as.map (xval ad)).reverse ++ Value.ref (ad (1010 + j)) :: st.map (xval ad) := by
    rw [List.map_append, List.map_reverse]; rfl
  have key : va_Run p l e RR s m args below meth c H locs k1 k2 0 0 (F0 m pc ls (((as.reverse ++ .inr (1010 + j) :: st) : List xV).map (xval ad))) (st.map (xval ad)) (xQc D cA ad ((some R.1).map Value.int) R.2 (Value.ref (ad (1010 + j)) :: as.map (xval ad)).toArray) (xA ad) := by
    rcases hml with hml | ⟨host, hml⟩
    · exact va_runV ⟨C.1, C.2.1, C.2.2.1, C.2.2.2.1, hts⟩ hM1 ⟨callB_of as.length hts (lw_goodIn hcode) rfl rfl rfl (hts _ hini) (hts _ hml) ⟨hmh.1, hmh.2, hpd⟩ hrm, hts _ hin, hts _ hsel⟩ hpre rfl (by rw [List.length_map]) hl'.1 hstk hW8 hd ⟨hf.2.2.1, hf.2.2.2⟩
    · exact va_runVN ⟨C.1, C.2.1, C.2.2.1, C.2.2.2.1, hts⟩ hM1 ⟨va_cnB as.length hts (lw_goodIn hcode) rfl rfl rfl (C.2.2.2.2.2.2.2.1.2.2.2 _ hml) (hts _ hini) ⟨hmh.1, hmh.2, hpd⟩ hrm, hts _ hin, hts _ hsel⟩ hpre rfl (by rw [List.length_map]) hl'.1 hstk hW8 hd ⟨hf.2.2.1, hf.2.2.2⟩
  exact xCallK key hS (fun H1 locs1 g1 g2 => k H1 locs1 ls g1 g2 hl')
end RULES8
theorem x01b {v : Int32} (h : v = 0 ∨ v = 1) : narrow .byte (.int v) = .int v := by rcases h with rfl | rfl <;> rfl
theorem xMet.ofB {y : MethodName} {cy : ByteArray} {n d : Nat} {av : List xV} {M : xMem} {R : Int32 × xMem} (hpl : plainName y.cls = true) (hlen : av.length ≤ n)
    (body : ∀ G : xG, xC G cy n y.cls d → xRZ G cy n R → V G n 0 (xargs 0 av) [] M) : xMet y cy n (some .byte) d av M (some R.1) R.2 := by
  refine xEntry hpl hlen fun G hC hR => body G hC fun pc lv h01 hd => hR pc lv _ ?_
  obtain ⟨p, l, e, RR, s, m, args, below, meth, c, D, cA, ad, Q, k1, k2⟩ := G
  rintro ⟨-, h2, h3, rfl, rfl, rfl⟩
  intro H locs ls hP hS hl'
  exact W.zret hC.1 hC.2.1 h2 (x01b h01) (fun t ht hW => ⟨rfl, by rw [ht]; exact hP, hS.F ht⟩) hS.2.2 hd h3
