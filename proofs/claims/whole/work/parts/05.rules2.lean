/-! rules of arithmetic, of branches, of the stack; printed by wip/whole/mkrules2.py -/
section RULES2
variable {G : xG} {cc : ByteArray} {nL d pc : Nat} {own : String} {lv lv' : List (Nat × xV)} {st : List xV} {M : xMem}
theorem V.iadd (C : xC G cc nL own d) {x y : Int32} {r : Nat} (hd : decode cc pc = .ok (.iadd, 1)) (hr : pc + 1 = r) (k : V G nL r lv (.inl (x + y) :: st) M) : V G nL pc lv (.inl y :: .inl x :: st) M := by
  subst hr
  obtain ⟨p, l, e, R, s, m, args, below, meth, c, D, cA, ad, Q, k1, k2⟩ := G
  intro H locs ls hP hS hl
  exact lv_iadd C.1 C.2.1 hd (k H locs ls hP hS hl)
theorem V.isub (C : xC G cc nL own d) {x y : Int32} {r : Nat} (hd : decode cc pc = .ok (.isub, 1)) (hr : pc + 1 = r) (k : V G nL r lv (.inl (x - y) :: st) M) : V G nL pc lv (.inl y :: .inl x :: st) M := by
  subst hr
  obtain ⟨p, l, e, R, s, m, args, below, meth, c, D, cA, ad, Q, k1, k2⟩ := G
  intro H locs ls hP hS hl
  exact lv_isub C.1 C.2.1 hd (k H locs ls hP hS hl)
theorem V.imul (C : xC G cc nL own d) {x y : Int32} {r : Nat} (hd : decode cc pc = .ok (.imul, 1)) (hr : pc + 1 = r) (k : V G nL r lv (.inl (x * y) :: st) M) : V G nL pc lv (.inl y :: .inl x :: st) M := by
  subst hr
  obtain ⟨p, l, e, R, s, m, args, below, meth, c, D, cA, ad, Q, k1, k2⟩ := G
  intro H locs ls hP hS hl
  exact lv_imul C.1 C.2.1 hd (k H locs ls hP hS hl)
theorem V.iand (C : xC G cc nL own d) {x y : Int32} {r : Nat} (hd : decode cc pc = .ok (.iand, 1)) (hr : pc + 1 = r) (k : V G nL r lv (.inl (x &&& y) :: st) M) : V G nL pc lv (.inl y :: .inl x :: st) M := by
  subst hr
  obtain ⟨p, l, e, R, s, m, args, below, meth, c, D, cA, ad, Q, k1, k2⟩ := G
  intro H locs ls hP hS hl
  exact lv_iand C.1 C.2.1 hd (k H locs ls hP hS hl)
theorem V.ior (C : xC G cc nL own d) {x y : Int32} {r : Nat} (hd : decode cc pc = .ok (.ior, 1)) (hr : pc + 1 = r) (k : V G nL r lv (.inl (x ||| y) :: st) M) : V G nL pc lv (.inl y :: .inl x :: st) M := by
  subst hr
  obtain ⟨p, l, e, R, s, m, args, below, meth, c, D, cA, ad, Q, k1, k2⟩ := G
  intro H locs ls hP hS hl
  exact lv_ior C.1 C.2.1 hd (k H locs ls hP hS hl)
theorem V.ixor (C : xC G cc nL own d) {x y : Int32} {r : Nat} (hd : decode cc pc = .ok (.ixor, 1)) (hr : pc + 1 = r) (k : V G nL r lv (.inl (x ^^^ y) :: st) M) : V G nL pc lv (.inl y :: .inl x :: st) M := by
  subst hr
  obtain ⟨p, l, e, R, s, m, args, below, meth, c, D, cA, ad, Q, k1, k2⟩ := G
  intro H locs ls hP hS hl
  exact lv_ixor C.1 C.2.1 hd (k H locs ls hP hS hl)
theorem V.ishl (C : xC G cc nL own d) {x y : Int32} {r : Nat} (hd : decode cc pc = .ok (.ishl, 1)) (hr : pc + 1 = r) (k : V G nL r lv (.inl (x <<< (y &&& 31)) :: st) M) : V G nL pc lv (.inl y :: .inl x :: st) M := by
  subst hr
  obtain ⟨p, l, e, R, s, m, args, below, meth, c, D, cA, ad, Q, k1, k2⟩ := G
  intro H locs ls hP hS hl
  exact lv_ishl C.1 C.2.1 hd (k H locs ls hP hS hl)
theorem V.ishr (C : xC G cc nL own d) {x y : Int32} {r : Nat} (hd : decode cc pc = .ok (.ishr, 1)) (hr : pc + 1 = r) (k : V G nL r lv (.inl (x >>> (y &&& 31)) :: st) M) : V G nL pc lv (.inl y :: .inl x :: st) M := by
  subst hr
  obtain ⟨p, l, e, R, s, m, args, below, meth, c, D, cA, ad, Q, k1, k2⟩ := G
  intro H locs ls hP hS hl
  exact lv_ishr C.1 C.2.1 hd (k H locs ls hP hS hl)
theorem V.iushr (C : xC G cc nL own d) {x y : Int32} {r : Nat} (hd : decode cc pc = .ok (.iushr, 1)) (hr : pc + 1 = r) (k : V G nL r lv (.inl ((x.toUInt32 >>> (y.toUInt32 &&& Int32.toUInt32 31)).toInt32) :: st) M) : V G nL pc lv (.inl y :: .inl x :: st) M := by
  subst hr
  obtain ⟨p, l, e, R, s, m, args, below, meth, c, D, cA, ad, Q, k1, k2⟩ := G
  intro H locs ls hP hS hl
  exact lv_iushr C.1 C.2.1 hd rfl (k H locs ls hP hS hl)
theorem V.ineg (C : xC G cc nL own d) {x : Int32} {r : Nat} (hd : decode cc pc = .ok (.ineg, 1)) (hr : pc + 1 = r) (k : V G nL r lv (.inl (-x) :: st) M) : V G nL pc lv (.inl x :: st) M := by
  subst hr
  obtain ⟨p, l, e, R, s, m, args, below, meth, c, D, cA, ad, Q, k1, k2⟩ := G
  intro H locs ls hP hS hl
  exact lv_ineg C.1 C.2.1 hd (k H locs ls hP hS hl)
theorem V.i2b (C : xC G cc nL own d) {x : Int32} {r : Nat} (hd : decode cc pc = .ok (.i2b, 1)) (hr : pc + 1 = r) (k : V G nL r lv (.inl (x.toInt8.toInt32) :: st) M) : V G nL pc lv (.inl x :: st) M := by
  subst hr
  obtain ⟨p, l, e, R, s, m, args, below, meth, c, D, cA, ad, Q, k1, k2⟩ := G
  intro H locs ls hP hS hl
  exact lv_i2b C.1 C.2.1 hd rfl (k H locs ls hP hS hl)
theorem V.i2c (C : xC G cc nL own d) {x : Int32} {r : Nat} (hd : decode cc pc = .ok (.i2c, 1)) (hr : pc + 1 = r) (k : V G nL r lv (.inl ((x.toUInt32 % 65536).toInt32) :: st) M) : V G nL pc lv (.inl x :: st) M := by
  subst hr
  obtain ⟨p, l, e, R, s, m, args, below, meth, c, D, cA, ad, Q, k1, k2⟩ := G
  intro H locs ls hP hS hl
  exact lv_i2c C.1 C.2.1 hd rfl (k H locs ls hP hS hl)
theorem V.idiv (C : xC G cc nL own d) {x y : Int32} {r : Nat} (hd : decode cc pc = .ok (.idiv, 1)) (hne : ¬ y = 0) (hr : pc + 1 = r) (k : V G nL r lv (.inl (x / y) :: st) M) : V G nL pc lv (.inl y :: .inl x :: st) M := by
  subst hr
  obtain ⟨p, l, e, R, s, m, args, below, meth, c, D, cA, ad, Q, k1, k2⟩ := G
  intro H locs ls hP hS hl
  exact lv_idiv C.1 C.2.1 hd hne (k H locs ls hP hS hl)
theorem V.irem (C : xC G cc nL own d) {x y : Int32} {r : Nat} (hd : decode cc pc = .ok (.irem, 1)) (hne : ¬ y = 0) (hr : pc + 1 = r) (k : V G nL r lv (.inl (x - x / y * y) :: st) M) : V G nL pc lv (.inl y :: .inl x :: st) M := by
  subst hr
  obtain ⟨p, l, e, R, s, m, args, below, meth, c, D, cA, ad, Q, k1, k2⟩ := G
  intro H locs ls hP hS hl
  exact lv_irem C.1 C.2.1 hd hne (k H locs ls hP hS hl)
theorem V.if_eq (C : xC G cc nL own d) {x : Int32} {off : Int} {tgt r : Nat} (hd : decode cc pc = .ok (.ifCond .eq off, 3)) (ht : (pc : Int) + off = (tgt : Int)) (hr : pc + 3 = r) (kt : x = 0 → V G nL tgt lv st M) (kf : ¬ (x = 0) → V G nL r lv st M) : V G nL pc lv (.inl x :: st) M := by
  subst hr
  obtain ⟨p, l, e, R, s, m, args, below, meth, c, D, cA, ad, Q, k1, k2⟩ := G
  intro H locs ls hP hS hl
  exact lv_if_eq C.1 C.2.1 hd ht (fun q => kt q H locs ls hP hS hl) (fun q => kf q H locs ls hP hS hl)
theorem V.icmp_eq (C : xC G cc nL own d) {x y : Int32} {off : Int} {tgt r : Nat} (hd : decode cc pc = .ok (.if_icmp .eq off, 3)) (ht : (pc : Int) + off = (tgt : Int)) (hr : pc + 3 = r) (kt : x = y → V G nL tgt lv st M) (kf : ¬ (x = y) → V G nL r lv st M) : V G nL pc lv (.inl y :: .inl x :: st) M := by
  subst hr
  obtain ⟨p, l, e, R, s, m, args, below, meth, c, D, cA, ad, Q, k1, k2⟩ := G
  intro H locs ls hP hS hl
  exact lv_icmp_eq C.1 C.2.1 hd ht (fun q => kt q H locs ls hP hS hl) (fun q => kf q H locs ls hP hS hl)
theorem V.if_ne (C : xC G cc nL own d) {x : Int32} {off : Int} {tgt r : Nat} (hd : decode cc pc = .ok (.ifCond .ne off, 3)) (ht : (pc : Int) + off = (tgt : Int)) (hr : pc + 3 = r) (kt : ¬ x = 0 → V G nL tgt lv st M) (kf : x = 0 → V G nL r lv st M) : V G nL pc lv (.inl x :: st) M := by
  subst hr
  obtain ⟨p, l, e, R, s, m, args, below, meth, c, D, cA, ad, Q, k1, k2⟩ := G
  intro H locs ls hP hS hl
  exact lv_if_ne C.1 C.2.1 hd ht (fun q => kt q H locs ls hP hS hl) (fun q => kf q H locs ls hP hS hl)
theorem V.icmp_ne (C : xC G cc nL own d) {x y : Int32} {off : Int} {tgt r : Nat} (hd : decode cc pc = .ok (.if_icmp .ne off, 3)) (ht : (pc : Int) + off = (tgt : Int)) (hr : pc + 3 = r) (kt : ¬ x = y → V G nL tgt lv st M) (kf : x = y → V G nL r lv st M) : V G nL pc lv (.inl y :: .inl x :: st) M := by
  subst hr
  obtain ⟨p, l, e, R, s, m, args, below, meth, c, D, cA, ad, Q, k1, k2⟩ := G
  intro H locs ls hP hS hl
  exact lv_icmp_ne C.1 C.2.1 hd ht (fun q => kt q H locs ls hP hS hl) (fun q => kf q H locs ls hP hS hl)
theorem V.if_lt (C : xC G cc nL own d) {x : Int32} {off : Int} {tgt r : Nat} (hd : decode cc pc = .ok (.ifCond .lt off, 3)) (ht : (pc : Int) + off = (tgt : Int)) (hr : pc + 3 = r) (kt : x < 0 → V G nL tgt lv st M) (kf : ¬ (x < 0) → V G nL r lv st M) : V G nL pc lv (.inl x :: st) M := by
  subst hr
  obtain ⟨p, l, e, R, s, m, args, below, meth, c, D, cA, ad, Q, k1, k2⟩ := G
  intro H locs ls hP hS hl
  exact lv_if_lt C.1 C.2.1 hd ht (fun q => kt q H locs ls hP hS hl) (fun q => kf q H locs ls hP hS hl)
theorem V.icmp_lt (C : xC G cc nL own d) {x y : Int32} {off : Int} {tgt r : Nat} (hd : decode cc pc = .ok (.if_icmp .lt off, 3)) (ht : (pc : Int) + off = (tgt : Int)) (hr : pc + 3 = r) (kt : x < y → V G nL tgt lv st M) (kf : ¬ (x < y) → V G nL r lv st M) : V G nL pc lv (.inl y :: .inl x :: st) M := by
  subst hr
  obtain ⟨p, l, e, R, s, m, args, below, meth, c, D, cA, ad, Q, k1, k2⟩ := G
  intro H locs ls hP hS hl
  exact lv_icmp_lt C.1 C.2.1 hd ht (fun q => kt q H locs ls hP hS hl) (fun q => kf q H locs ls hP hS hl)
theorem V.if_ge (C : xC G cc nL own d) {x : Int32} {off : Int} {tgt r : Nat} (hd : decode cc pc = .ok (.ifCond .ge off, 3)) (ht : (pc : Int) + off = (tgt : Int)) (hr : pc + 3 = r) (kt : 0 ≤ x → V G nL tgt lv st M) (kf : ¬ (0 ≤ x) → V G nL r lv st M) : V G nL pc lv (.inl x :: st) M := by
  subst hr
  obtain ⟨p, l, e, R, s, m, args, below, meth, c, D, cA, ad, Q, k1, k2⟩ := G
  intro H locs ls hP hS hl
  exact lv_if_ge C.1 C.2.1 hd ht (fun q => kt q H locs ls hP hS hl) (fun q => kf q H locs ls hP hS hl)
theorem V.icmp_ge (C : xC G cc nL own d) {x y : Int32} {off : Int} {tgt r : Nat} (hd : decode cc pc = .ok (.if_icmp .ge off, 3)) (ht : (pc : Int) + off = (tgt : Int)) (hr : pc + 3 = r) (kt : y ≤ x → V G nL tgt lv st M) (kf : ¬ (y ≤ x) → V G nL r lv st M) : V G nL pc lv (.inl y :: .inl x :: st) M := by
  subst hr
  obtain ⟨p, l, e, R, s, m, args, below, meth, c, D, cA, ad, Q, k1, k2⟩ := G
  intro H locs ls hP hS hl
  exact lv_icmp_ge C.1 C.2.1 hd ht (fun q => kt q H locs ls hP hS hl) (fun q => kf q H locs ls hP hS hl)
theorem V.if_gt (C : xC G cc nL own d) {x : Int32} {off : Int} {tgt r : Nat} (hd : decode cc pc = .ok (.ifCond .gt off, 3)) (ht : (pc : Int) + off = (tgt : Int)) (hr : pc + 3 = r) (kt : 0 < x → V G nL tgt lv st M) (kf : ¬ (0 < x) → V G nL r lv st M) : V G nL pc lv (.inl x :: st) M := by
  subst hr
  obtain ⟨p, l, e, R, s, m, args, below, meth, c, D, cA, ad, Q, k1, k2⟩ := G
  intro H locs ls hP hS hl
  exact lv_if_gt C.1 C.2.1 hd ht (fun q => kt q H locs ls hP hS hl) (fun q => kf q H locs ls hP hS hl)
theorem V.icmp_gt (C : xC G cc nL own d) {x y : Int32} {off : Int} {tgt r : Nat} (hd : decode cc pc = .ok (.if_icmp .gt off, 3)) (ht : (pc : Int) + off = (tgt : Int)) (hr : pc + 3 = r) (kt : y < x → V G nL tgt lv st M) (kf : ¬ (y < x) → V G nL r lv st M) : V G nL pc lv (.inl y :: .inl x :: st) M := by
  subst hr
  obtain ⟨p, l, e, R, s, m, args, below, meth, c, D, cA, ad, Q, k1, k2⟩ := G
  intro H locs ls hP hS hl
  exact lv_icmp_gt C.1 C.2.1 hd ht (fun q => kt q H locs ls hP hS hl) (fun q => kf q H locs ls hP hS hl)
theorem V.if_le (C : xC G cc nL own d) {x : Int32} {off : Int} {tgt r : Nat} (hd : decode cc pc = .ok (.ifCond .le off, 3)) (ht : (pc : Int) + off = (tgt : Int)) (hr : pc + 3 = r) (kt : x ≤ 0 → V G nL tgt lv st M) (kf : ¬ (x ≤ 0) → V G nL r lv st M) : V G nL pc lv (.inl x :: st) M := by
  subst hr
  obtain ⟨p, l, e, R, s, m, args, below, meth, c, D, cA, ad, Q, k1, k2⟩ := G
  intro H locs ls hP hS hl
  exact lv_if_le C.1 C.2.1 hd ht (fun q => kt q H locs ls hP hS hl) (fun q => kf q H locs ls hP hS hl)
theorem V.icmp_le (C : xC G cc nL own d) {x y : Int32} {off : Int} {tgt r : Nat} (hd : decode cc pc = .ok (.if_icmp .le off, 3)) (ht : (pc : Int) + off = (tgt : Int)) (hr : pc + 3 = r) (kt : x ≤ y → V G nL tgt lv st M) (kf : ¬ (x ≤ y) → V G nL r lv st M) : V G nL pc lv (.inl y :: .inl x :: st) M := by
  subst hr
  obtain ⟨p, l, e, R, s, m, args, below, meth, c, D, cA, ad, Q, k1, k2⟩ := G
  intro H locs ls hP hS hl
  exact lv_icmp_le C.1 C.2.1 hd ht (fun q => kt q H locs ls hP hS hl) (fun q => kf q H locs ls hP hS hl)
theorem V.goto (C : xC G cc nL own d) {off : Int} {tgt : Nat} (hd : decode cc pc = .ok (.goto off, 3)) (ht : (pc : Int) + off = (tgt : Int)) (k : V G nL tgt lv st M) : V G nL pc lv st M := by
  obtain ⟨p, l, e, R, s, m, args, below, meth, c, D, cA, ad, Q, k1, k2⟩ := G
  intro H locs ls hP hS hl
  exact lv_goto C.1 C.2.1 hd ht (k H locs ls hP hS hl)
theorem V.dup (C : xC G cc nL own d) {v : xV} {r : Nat} (hd : decode cc pc = .ok (.dup, 1)) (hr : pc + 1 = r) (k : V G nL r lv (v :: v :: st) M) : V G nL pc lv (v :: st) M := by
  subst hr
  obtain ⟨p, l, e, R, s, m, args, below, meth, c, D, cA, ad, Q, k1, k2⟩ := G
  intro H locs ls hP hS hl
  exact lv_dup C.1 C.2.1 hd (xval_cat _ _) (k H locs ls hP hS hl)
theorem V.dup2 (C : xC G cc nL own d) {v w : xV} {r : Nat} (hd : decode cc pc = .ok (.dup2, 1)) (hr : pc + 1 = r) (k : V G nL r lv (v :: w :: v :: w :: st) M) : V G nL pc lv (v :: w :: st) M := by
  subst hr
  obtain ⟨p, l, e, R, s, m, args, below, meth, c, D, cA, ad, Q, k1, k2⟩ := G
  intro H locs ls hP hS hl
  exact lv_dup2_11 C.1 C.2.1 hd (xval_cat _ _) (xval_cat _ _) (k H locs ls hP hS hl)
theorem V.pop (C : xC G cc nL own d) {v : xV} {r : Nat} (hd : decode cc pc = .ok (.pop, 1)) (hr : pc + 1 = r) (k : V G nL r lv st M) : V G nL pc lv (v :: st) M := by
  subst hr
  obtain ⟨p, l, e, R, s, m, args, below, meth, c, D, cA, ad, Q, k1, k2⟩ := G
  intro H locs ls hP hS hl
  exact lv_pop C.1 C.2.1 hd (xval_cat _ _) (k H locs ls hP hS hl)
theorem V.tabIn (C : xC G cc nL own d) {dflt lo hi : Int} {offs : Array Int} {len : Nat} {x v : Int32} {off : Int} {tgt : Nat} (hd : decode cc pc = .ok (.tableswitch dflt lo hi offs, len)) (hx : x = v) (h1 : ¬ v.toInt < lo) (h2 : ¬ hi < v.toInt) (ho : offs[(v.toInt - lo).toNat]? = some off) (ht : (pc : Int) + off = (tgt : Int)) (k : V G nL tgt lv st M) : V G nL pc lv (.inl x :: st) M := by
  subst hx
  obtain ⟨p, l, e, R, s, m, args, below, meth, c, D, cA, ad, Q, k1, k2⟩ := G
  intro H locs ls hP hS hl
  exact lv_tableIn C.1 C.2.1 hd h1 h2 ho ht (k H locs ls hP hS hl)
theorem V.tabOut (C : xC G cc nL own d) {dflt lo hi : Int} {offs : Array Int} {len : Nat} {x : Int32} {tgt : Nat} (hd : decode cc pc = .ok (.tableswitch dflt lo hi offs, len)) (h : x.toInt < lo ∨ hi < x.toInt) (ht : (pc : Int) + dflt = (tgt : Int)) (k : V G nL tgt lv st M) : V G nL pc lv (.inl x :: st) M := by
  obtain ⟨p, l, e, R, s, m, args, below, meth, c, D, cA, ad, Q, k1, k2⟩ := G
  intro H locs ls hP hS hl
  exact lv_tableOut C.1 C.2.1 hd h ht (k H locs ls hP hS hl)
end RULES2
