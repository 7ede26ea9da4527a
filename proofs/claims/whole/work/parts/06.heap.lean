/-! rules of fields, arrays, statics, calls -/
theorem lw_good : ∀ w ∈ lw_gt, goodWord w = true := fun w h => (List.mem_filter.mp h).2
theorem lw_mem {w : Cond} {i : Nat} (h : tables_1[i]? = some w) (hg : goodWord w = true) : w ∈ lw_gt := List.mem_filter.mpr ⟨List.mem_append_right _ (List.mem_of_getElem? h), hg⟩
theorem lw_memN {w : Cond} {i : Nat} (h : tables_1[i]? = some w) (hg : xNest w = true) : w ∈ lw_nt := List.mem_filter.mpr ⟨List.mem_of_getElem? h, hg⟩
theorem lw_memS {w : Cond} (h : w ∈ k2_sels lw_privs) (hg : goodWord w = true) : w ∈ lw_gt := List.mem_filter.mpr ⟨List.mem_append_left _ h, hg⟩
theorem lw_goodIn {y : MethodName} {cy : ByteArray} {n : Nat} {ret : Option FieldType} (h : Cond.code y cy n ret ∈ lw_gt) : GoodIn lw_gt (Cond.code y cy n ret :: lw_gt) := by
  intro w hw
  rcases List.mem_cons.mp hw with rfl | hw
  · exact ⟨h, good_of_word (lw_good _ h)⟩
  · exact ⟨hw, good_of_word (lw_good _ hw)⟩
def xNd2 : xDesc → Bool
  | .inr (.inr o) => (List.range o.2.length).all fun i => (List.range o.2.length).all fun j => i == j || (match o.2[i]?, o.2[j]? with
    | some (.inr u), some (.inr v) => u != v
    | _, _ => true)
  | _ => true
theorem SH_nd2 : SH.all xNd2 = true := by decide +kernel
theorem xNd_get {k ci j i2 : Nat} {fs : List (Nat ⊕ (Nat × Nat))} {u v : Nat × Nat} (hk : SH[k]? = some (.inr (.inr (ci, fs)))) (hj : fs[j]? = some (.inr u)) (hi : fs[i2]? = some (.inr v)) (hn : i2 ≠ j) : v ≠ u := by
  have h := List.all_eq_true.mp SH_nd2 _ (List.mem_of_getElem? hk)
  simp only [xNd2] at h
  have h1 := List.all_eq_true.mp (List.all_eq_true.mp h i2 (List.mem_range.mpr (List.getElem?_eq_some_iff.mp hi).1)) j (List.mem_range.mpr (List.getElem?_eq_some_iff.mp hj).1)
  rw [hi, hj] at h1
  simp only [Bool.or_eq_true, beq_iff_eq, bne_iff_ne] at h1
  rcases h1 with h1 | h1
  · exact absurd h1 hn
  · exact h1
theorem xS_get {cA : Nat → ClassId} {ad : Nat → Nat} {D : va_G} {H1 : Heap} {M : xMem} {kc ci j : Nat} {fs : List (Nat ⊕ (Nat × Nat))} {b i : Nat} {v : Int32} (hk : SH[kc]? = some (.inr (.inr (ci, fs)))) (hj : fs[j]? = some (.inr (b, i)))
    (h : va_P D vwCl ((xWs cA ad M).set kc (ad kc, .inr (ci, (fs.map (xsl ad M)).set j (.int v)))) H1) : va_P D vwCl (xWs cA ad (upM M b i v)) H1 := by
  refine xP_set (b := b) (o := i) (n := 1) hk ?_ (upM_off ⟨Nat.le_refl _, Nat.lt_succ_self _⟩) ?_ h
  · exact List.mem_filterMap.mpr ⟨.inr (b, i), List.mem_of_getElem? hj, rfl⟩
  · intro h1
    have e : (fs.map (xsl ad M)).set j (.int v) = fs.map (xsl ad (upM M b i v)) := by
      apply List.ext_getElem?
      intro i2
      rw [List.getElem?_map]
      by_cases hij : i2 = j
      · subst hij
        rw [List.getElem?_set_self (by rw [List.length_map]; exact (List.getElem?_eq_some_iff.mp hj).1), hj]
        simp [xsl, upM]
      · rw [List.getElem?_set_ne (fun e => hij e.symm), List.getElem?_map]
        cases hf : fs[i2]? with
        | none => rfl
        | some f =>
          match f with
          | .inl k => rfl
          | .inr q =>
            have hne := xNd_get hk hj hf hij
            show some (Value.int (M q.1 q.2)) = some (Value.int (upM M b i v q.1 q.2))
            unfold upM
            rw [if_neg (fun h => hne (by cases q; cases h.1; cases h.2; rfl))]
    show va_at D vwCl (ad kc, .inr (ci, fs.map (xsl ad (upM M b i v)))) H1
    rw [← e]
    exact h1
theorem xA_set {cA : Nat → ClassId} {ad : Nat → Nat} {D : va_G} {H1 : Heap} {M : xMem} {kc t b o n j r : Nat} {v : Int32} (hk : SH[kc]? = some (.inl (t, b, o, n))) (hj : j < n) (hr : o + j = r)
    (h : va_P D vwCl ((xWs cA ad M).set kc (ad kc, .inl (cA t, n, .inl (upd (fun i => M b (o + i)) j v)))) H1) : va_P D vwCl (xWs cA ad (upM M b r v)) H1 := by
  subst hr
  refine xP_set (b := b) (o := o) (n := n) hk (by simp [xCov]) (upM_off ⟨Nat.le_add_right _ _, by omega⟩) ?_ h
  intro h1
  have e : (upd (fun i => M b (o + i)) j v) = fun i => upM M b (o + j) v b (o + i) := by
    funext i
    unfold upd upM
    by_cases hij : i = j
    · rw [if_pos hij, if_pos ⟨rfl, by rw [hij]⟩]
    · rw [if_neg hij, if_neg (fun q => hij (by omega))]
  show va_at D vwCl (ad kc, .inl (cA t, n, .inl (fun i => upM M b (o + j) v b (o + i)))) H1
  rw [← e]
  exact h1
section RULES3
variable {G : xG} {cc : ByteArray} {nL d pc : Nat} {own : String} {lv lv' : List (Nat × xV)} {st : List xV} {M : xMem}
/-- a field's word: of the class itself, or of a nest mate -/
def xFl (own : String) (idx : Nat) (q : String × String × String × Bool) : Prop := Cond.fieldLink own idx q.1 q.2.1 q.2.2.1 ∈ lw_gt ∨ ∃ host, Cond.fieldLinkNest own idx q.1 q.2.1 q.2.2.1 host ∈ lw_nt
/-- a class: its number, its table's words -/
def xCl (ci : Nat) (Cn : String) (T : u_T) (N : Nat) : Prop := vwCl[ci]? = some (Cn, T, N) ∧ ∀ w ∈ u_ws Cn T N, w ∈ lw_gt
theorem V.getR (C : xC G cc nL own d) {kc ci j idx N k' r : Nat} {fs : List (Nat ⊕ (Nat × Nat))} {Cn : String} {T : u_T} (hcl : xCl ci Cn T N) (hk : SH[kc]? = some (.inr (.inr (ci, fs)))) (hl : xFl own idx (T j)) (hd : decode cc pc = .ok (.getfield idx, 3)) (hj : j < N) (hf : fs[j]? = some (.inl k')) (hr : pc + 3 = r) (k : V G nL r lv (.inr k' :: st) M) : V G nL pc lv (.inr kc :: st) M := by
  subst hr
  obtain ⟨p, l, e, R, s, m, args, below, meth, c, D, cA, ad, Q, k1, k2⟩ := G
  intro H locs ls hP hS hl'
  have hv : (fs.map (xsl ad M))[j]? = some (.ref (ad k')) := by rw [List.getElem?_map, hf]; rfl
  rcases hl with hl | ⟨host, hl⟩
  · exact va_get C.1 C.2.1 C.2.2.2.2.1 hcl.2 C.2.2.2.1 C.2.2.2.2.2.1 hP kc (xWs_get hk) hcl.1 j hj (C.2.2.2.2.1 _ hl) (fun _ h9 => h9) hv hd (k H locs ls hP hS hl')
  · exact va_getN C.1 C.2.1 C.2.2.2.2.1 hcl.2 C.2.2.2.1 C.2.2.2.2.2.1 hP kc (xWs_get hk) hcl.1 j hj (va_Nw.use rfl (C.2.2.2.2.2.2.2.1.2.2.2 _ hl)) (fun _ h9 => h9) hv hd (k H locs ls hP hS hl')
theorem V.getI (C : xC G cc nL own d) {kc ci j idx N b i r : Nat} {fs : List (Nat ⊕ (Nat × Nat))} {Cn : String} {T : u_T} (hcl : xCl ci Cn T N) (hk : SH[kc]? = some (.inr (.inr (ci, fs)))) (hl : xFl own idx (T j)) (hd : decode cc pc = .ok (.getfield idx, 3)) (hj : j < N) (hf : fs[j]? = some (.inr (b, i))) (hr : pc + 3 = r) (k : V G nL r lv (.inl (M b i) :: st) M) : V G nL pc lv (.inr kc :: st) M := by
  subst hr
  obtain ⟨p, l, e, R, s, m, args, below, meth, c, D, cA, ad, Q, k1, k2⟩ := G
  intro H locs ls hP hS hl'
  have hv : (fs.map (xsl ad M))[j]? = some (.int (M b i)) := by rw [List.getElem?_map, hf]; rfl
  rcases hl with hl | ⟨host, hl⟩
  · exact va_get C.1 C.2.1 C.2.2.2.2.1 hcl.2 C.2.2.2.1 C.2.2.2.2.2.1 hP kc (xWs_get hk) hcl.1 j hj (C.2.2.2.2.1 _ hl) (fun _ h9 => h9) hv hd (k H locs ls hP hS hl')
  · exact va_getN C.1 C.2.1 C.2.2.2.2.1 hcl.2 C.2.2.2.1 C.2.2.2.2.2.1 hP kc (xWs_get hk) hcl.1 j hj (va_Nw.use rfl (C.2.2.2.2.2.2.2.1.2.2.2 _ hl)) (fun _ h9 => h9) hv hd (k H locs ls hP hS hl')
/-- a class's words for its stores -/
def xCp (T : u_T) (N : Nat) (ty : Nat → FieldType) : Prop := (∀ k, k < N → parseFieldDescriptor (T k).2.2.1 = some (ty k)) ∧ ∀ a, a < N → ∀ b, b < N → a ≠ b → (T a).2.1 ≠ (T b).2.1
theorem V.putI (C : xC G cc nL own d) {kc ci j idx N b i r : Nat} {fs : List (Nat ⊕ (Nat × Nat))} {Cn : String} {T : u_T} {tyf : Nat → FieldType} {ty : FieldType} {v : Int32} (hcl : xCl ci Cn T N) (hcp : xCp T N tyf) (hk : SH[kc]? = some (.inr (.inr (ci, fs)))) (hl : xFl own idx (T j)) (hd : decode cc pc = .ok (.putfield idx, 3)) (hj : j < N) (hf : fs[j]? = some (.inr (b, i))) (hfin : (T j).2.2.2 = false) (hty : parseFieldDescriptor (T j).2.2.1 = some ty) (hn : narrow ty (.int v) = .int v) (hft : fits ty (.int v) = true) (hr : pc + 3 = r) (k : V G nL r lv st (upM M b i v)) : V G nL pc lv (.inl v :: .inr kc :: st) M := by
  subst hr
  obtain ⟨p, l, e, R, s, m, args, below, meth, c, D, cA, ad, Q, k1, k2⟩ := G
  intro H locs ls hP hS hl'
  have hlen : j < (fs.map (xsl ad M)).length := by rw [List.length_map]; exact (List.getElem?_eq_some_iff.mp hf).1
  rcases hl with hl | ⟨host, hl⟩
  · exact va_put C.1 C.2.1 C.2.2.2.2.1 hcl.2 tyf hcp.1 hcp.2 C.2.2.2.1 C.2.2.2.2.2.1 hP (xD C.2.2.2.2.2.2.1) hS kc (xWs_get hk) hcl.1 j hj (C.2.2.2.2.1 _ hl) (fun _ h9 => h9) hfin hty hn hft hlen hd (fun H1 locs1 h1 _ h3 => k H1 locs1 ls (xS_get hk hf h1) h3 hl')
  · exact va_putN C.1 C.2.1 C.2.2.2.2.1 hcl.2 tyf hcp.1 hcp.2 C.2.2.2.1 C.2.2.2.2.2.1 hP (xD C.2.2.2.2.2.2.1) hS kc (xWs_get hk) hcl.1 j hj (va_Nw.use rfl (C.2.2.2.2.2.2.2.1.2.2.2 _ hl)) (fun _ h9 => h9) hfin hty hn hft hlen hd (fun H1 locs1 h1 _ h3 => k H1 locs1 ls (xS_get hk hf h1) h3 hl')
theorem x01n {v : Int32} (h : v = 0 ∨ v = 1) : narrow .boolean (.int v) = .int v := by rcases h with rfl | rfl <;> rfl
theorem x01f {v : Int32} (h : v = 0 ∨ v = 1) : fits .boolean (.int v) = true := by rcases h with rfl | rfl <;> rfl
theorem x01v {v : Int32} (h : v = 0 ∨ v = 1) : vp_nar .boolean v = v := by rcases h with rfl | rfl <;> rfl
theorem V.iald (C : xC G cc nL own d) {kc b o n t r : Nat} {i : Int32} (hk : SH[kc]? = some (.inl (0, b, o, n))) (hd : decode cc pc = .ok (.iaload, 1)) (hin : ¬ (i < 0 ∨ n ≤ i.toNatClampNeg)) (ht : o + i.toNatClampNeg = t) (hr : pc + 1 = r) (k : V G nL r lv (.inl (M b t) :: st) M) : V G nL pc lv (.inl i :: .inr kc :: st) M := by
  subst hr; subst ht
  obtain ⟨p, l, e, R, s, m, args, below, meth, c, D, cA, ad, Q, k1, k2⟩ := G
  intro H locs ls hP hS hl'
  exact va_iald C.1 C.2.1 C.2.2.2.2.2.1 hP kc 0 (xWs_get hk) rfl hin hd (k H locs ls hP hS hl')
theorem V.zald (C : xC G cc nL own d) {kc b o n t r : Nat} {i : Int32} (hk : SH[kc]? = some (.inl (1, b, o, n))) (hd : decode cc pc = .ok (.baload, 1)) (hin : ¬ (i < 0 ∨ n ≤ i.toNatClampNeg)) (ht : o + i.toNatClampNeg = t) (hr : pc + 1 = r) (k : V G nL r lv (.inl (M b t) :: st) M) : V G nL pc lv (.inl i :: .inr kc :: st) M := by
  subst hr; subst ht
  obtain ⟨p, l, e, R, s, m, args, below, meth, c, D, cA, ad, Q, k1, k2⟩ := G
  intro H locs ls hP hS hl'
  exact va_zald C.1 C.2.1 C.2.2.2.2.2.1 hP kc 1 (xWs_get hk) rfl hin hd (k H locs ls hP hS hl')
theorem V.bald (C : xC G cc nL own d) {kc b o n t r : Nat} {i : Int32} (hk : SH[kc]? = some (.inl (2, b, o, n))) (hd : decode cc pc = .ok (.baload, 1)) (hin : ¬ (i < 0 ∨ n ≤ i.toNatClampNeg)) (ht : o + i.toNatClampNeg = t) (hr : pc + 1 = r) (k : V G nL r lv (.inl (M b t) :: st) M) : V G nL pc lv (.inl i :: .inr kc :: st) M := by
  subst hr; subst ht
  obtain ⟨p, l, e, R, s, m, args, below, meth, c, D, cA, ad, Q, k1, k2⟩ := G
  intro H locs ls hP hS hl'
  exact va_bald C.1 C.2.1 C.2.2.2.2.2.1 hP kc 2 (xWs_get hk) rfl hin hd (k H locs ls hP hS hl')
theorem V.iast (C : xC G cc nL own d) {kc b o n t r : Nat} {i x : Int32} (hk : SH[kc]? = some (.inl (0, b, o, n))) (hd : decode cc pc = .ok (.iastore, 1)) (hin : ¬ (i < 0 ∨ n ≤ i.toNatClampNeg)) (ht : o + i.toNatClampNeg = t) (hr : pc + 1 = r) (k : V G nL r lv st (upM M b t x)) : V G nL pc lv (.inl x :: .inl i :: .inr kc :: st) M := by
  subst hr
  obtain ⟨p, l, e, R, s, m, args, below, meth, c, D, cA, ad, Q, k1, k2⟩ := G
  intro H locs ls hP hS hl'
  exact va_iast C.1 C.2.1 C.2.2.2.2.2.1 hP (xD C.2.2.2.2.2.2.1) hS kc 0 (xWs_get hk) rfl hin hd (fun H1 locs1 h1 _ h3 => k H1 locs1 ls (xA_set hk (Nat.not_le.mp fun q => hin (Or.inr q)) ht h1) h3 hl')
theorem V.zast (C : xC G cc nL own d) {kc b o n t r : Nat} {i x : Int32} (hk : SH[kc]? = some (.inl (1, b, o, n))) (hd : decode cc pc = .ok (.bastore, 1)) (hin : ¬ (i < 0 ∨ n ≤ i.toNatClampNeg)) (hx : x = 0 ∨ x = 1) (ht : o + i.toNatClampNeg = t) (hr : pc + 1 = r) (k : V G nL r lv st (upM M b t x)) : V G nL pc lv (.inl x :: .inl i :: .inr kc :: st) M := by
  subst hr
  obtain ⟨p, l, e, R, s, m, args, below, meth, c, D, cA, ad, Q, k1, k2⟩ := G
  intro H locs ls hP hS hl'
  exact va_zast C.1 C.2.1 C.2.2.2.2.2.1 hP (xD C.2.2.2.2.2.2.1) hS kc 1 (xWs_get hk) rfl hin hd (fun H1 locs1 h1 _ h3 => k H1 locs1 ls (xA_set hk (Nat.not_le.mp fun q => hin (Or.inr q)) ht (by rw [x01v hx] at h1; exact h1)) h3 hl')
theorem V.bast (C : xC G cc nL own d) {kc b o n t r : Nat} {i x : Int32} (hk : SH[kc]? = some (.inl (2, b, o, n))) (hd : decode cc pc = .ok (.bastore, 1)) (hin : ¬ (i < 0 ∨ n ≤ i.toNatClampNeg)) (ht : o + i.toNatClampNeg = t) (hr : pc + 1 = r) (k : V G nL r lv st (upM M b t x.toInt8.toInt32)) : V G nL pc lv (.inl x :: .inl i :: .inr kc :: st) M := by
  subst hr
  obtain ⟨p, l, e, R, s, m, args, below, meth, c, D, cA, ad, Q, k1, k2⟩ := G
  intro H locs ls hP hS hl'
  exact va_bast C.1 C.2.1 C.2.2.2.2.2.1 hP (xD C.2.2.2.2.2.2.1) hS kc 2 (xWs_get hk) rfl hin hd (fun H1 locs1 h1 _ h3 => k H1 locs1 ls (xA_set hk (Nat.not_le.mp fun q => hin (Or.inr q)) ht (by rw [vp_nar_byte] at h1; exact h1)) h3 hl')
theorem V.alen (C : xC G cc nL own d) {kc t b o n r : Nat} {v : Int32} (hk : SH[kc]? = some (.inl (t, b, o, n))) (htt : t < 3) (hd : decode cc pc = .ok (.arraylength, 1)) (hv : Int32.ofNat n = v) (hr : pc + 1 = r) (k : V G nL r lv (.inl v :: st) M) : V G nL pc lv (.inr kc :: st) M := by
  subst hr
  obtain ⟨p, l, e, R, s, m, args, below, meth, c, D, cA, ad, Q, k1, k2⟩ := G
  intro H locs ls hP hS hl'
  have ht : ∃ ty, (xTys cA)[t]? = some (cA t, ty) := by
    match t, htt with
    | 0, _ => exact ⟨_, rfl⟩
    | 1, _ => exact ⟨_, rfl⟩
    | 2, _ => exact ⟨_, rfl⟩
  obtain ⟨ty, ht⟩ := ht
  exact va_alen C.1 C.2.1 C.2.2.2.2.2.1 hP kc t (xWs_get hk) ht hv hd (k H locs ls hP hS hl')
theorem V.alenq (C : xC G cc nL own d) {kc r : Nat} {cs : List Nat} {v : Int32} (hk : SH[kc]? = some (.inr (.inl cs))) (hd : decode cc pc = .ok (.arraylength, 1)) (hv : Int32.ofNat cs.length = v) (hr : pc + 1 = r) (k : V G nL r lv (.inl v :: st) M) : V G nL pc lv (.inr kc :: st) M := by
  subst hr
  obtain ⟨p, l, e, R, s, m, args, below, meth, c, D, cA, ad, Q, k1, k2⟩ := G
  intro H locs ls hP hS hl'
  exact va_alen C.1 C.2.1 C.2.2.2.2.2.1 hP kc 3 (xWs_get hk) (show (xTys cA)[3]? = some (cA 3, .object RX6) from rfl) hv hd (k H locs ls hP hS hl')
theorem V.aald (C : xC G cc nL own d) {kc k' r : Nat} {cs : List Nat} {i : Int32} (hk : SH[kc]? = some (.inr (.inl cs))) (hd : decode cc pc = .ok (.aaload, 1)) (hin : ¬ (i < 0 ∨ cs.length ≤ i.toNatClampNeg)) (hj : cs[i.toNatClampNeg]? = some k') (hr : pc + 1 = r) (k : V G nL r lv (.inr k' :: st) M) : V G nL pc lv (.inl i :: .inr kc :: st) M := by
  subst hr
  obtain ⟨p, l, e, R, s, m, args, below, meth, c, D, cA, ad, Q, k1, k2⟩ := G
  intro H locs ls hP hS hl'
  have e1 : va_rf ((cs[i.toNatClampNeg]?).map ad) = xval ad (.inr k') := by rw [hj]; rfl
  refine va_aldq (C := RX6) C.1 C.2.1 C.2.2.2.2.2.1 hP kc 3 (xWs_get hk) rfl hin hd ?_
  have h := k H locs ls hP hS hl'
  rw [List.map_cons, ← e1] at h
  exact h
theorem V.gets (C : xC G cc nL own d) {j idx r : Nat} (hj : j < 4) (hl : xFl own idx (RX8, xTn j, "[I", true)) (hd : decode cc pc = .ok (.getstatic idx, 3)) (hr : pc + 3 = r) (k : V G nL r lv (.inr (1000 + j) :: st) M) : V G nL pc lv st M := by
  subst hr
  obtain ⟨p, l, e, R, s, m, args, below, meth, c, D, cA, ad, Q, k1, k2⟩ := G
  intro H locs ls hP hS hl'
  have hZ := ((C.2.2.2.2.2.2.2.1).1 j hj).1
  rcases hl with hl | ⟨host, hl⟩
  · exact va_gets C.1 C.2.1 hZ hS C.2.2.2.1 (C.2.2.2.2.1 _ hl) (fun _ h9 => h9) hd (k H locs ls hP hS hl')
  · exact va_getsN C.1 C.2.1 hZ hS C.2.2.2.1 (va_Nw.use rfl (C.2.2.2.2.2.2.2.1.2.2.2 _ hl)) (fun _ h9 => h9) hd (k H locs ls hP hS hl')
theorem V.iaks (C : xC G cc nL own d) {j r n : Nat} {i : Int32} (hj : j < 4) (hn : (xTab j).length = n) (hd : decode cc pc = .ok (.iaload, 1)) (hin : ¬ (i < 0 ∨ n ≤ i.toNatClampNeg)) (hr : pc + 1 = r) (k : V G nL r lv (.inl ((xTab j).getD i.toNatClampNeg 0) :: st) M) : V G nL pc lv (.inl i :: .inr (1000 + j) :: st) M := by
  subst hr; subst hn
  obtain ⟨p, l, e, R, s, m, args, below, meth, c, D, cA, ad, Q, k1, k2⟩ := G
  intro H locs ls hP hS hl'
  exact va_ti C.1 C.2.1 ((C.2.2.2.2.2.2.2.1).1 j hj).2 hS hin rfl hd (k H locs ls hP hS hl')
theorem V.alens (C : xC G cc nL own d) {j r : Nat} {v : Int32} (hj : j < 4) (hd : decode cc pc = .ok (.arraylength, 1)) (hv : Int32.ofNat (xTab j).length = v) (hr : pc + 1 = r) (k : V G nL r lv (.inl v :: st) M) : V G nL pc lv (.inr (1000 + j) :: st) M := by
  subst hr
  obtain ⟨p, l, e, R, s, m, args, below, meth, c, D, cA, ad, Q, k1, k2⟩ := G
  intro H locs ls hP hS hl'
  obtain ⟨cell, h1, h2, h3, h4, h5, h6, h7⟩ := ((C.2.2.2.2.2.2.2.1).1 j hj).2
  exact W.alen (n := v) C.1 C.2.1 (by rw [hS.2.1 _ (Array.getElem?_eq_some_iff.mp h1).1 h7]; exact h1) h2 (by rw [h5, hv]) rfl rfl hd (k H locs ls hP hS hl')
theorem V.ldcS (C : xC G cc nL RX4 d) {j idx r : Nat} (hj : (j = 0 ∧ idx = 56) ∨ (j = 1 ∧ idx = 103)) (hd : decode cc pc = .ok (.ldc idx, 2)) (hr : pc + 2 = r) (k : V G nL r lv (.inr (1010 + j) :: st) M) : V G nL pc lv st M := by
  subst hr
  obtain ⟨p, l, e, R, s, m, args, below, meth, c, D, cA, ad, Q, k1, k2⟩ := G
  intro H locs ls hP hS hl'
  rcases hj with ⟨rfl, rfl⟩ | ⟨rfl, rfl⟩
  · exact va_ldcS C.1 C.2.1 C.2.2.2.1 (C.2.2.2.2.2.2.2.1).2.2.1.1 hd (k H locs ls hP hS hl')
  · exact va_ldcS C.1 C.2.1 C.2.2.2.1 (C.2.2.2.2.2.2.2.1).2.2.1.2.1 hd (k H locs ls hP hS hl')
end RULES3
