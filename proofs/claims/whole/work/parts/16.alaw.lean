/-! the law's own script, outside the system -/
def xScr (G : xG) (L : Nat) (xs : Nat → Int32) : Prop := match G with
  | (p, l, e, R, s, m, args, below, meth, c, D, cA, ad, Q, k1, k2) => va_X (ad 2000) L xs s s.heap ∧ ad 2000 < s.heap.size ∧ ¬ xA ad (ad 2000)
section RULES7
variable {G : xG} {cc : ByteArray} {nL d pc : Nat} {own : String} {lv lv' : List (Nat × xV)} {st : List xV} {M : xMem} {L : Nat} {xs : Nat → Int32}
theorem V.sld (C : xC G cc nL own d) {r : Nat} {i : Int32} (X : xScr G L xs) (hd : decode cc pc = .ok (.iaload, 1)) (hin : ¬ (i < 0 ∨ L ≤ i.toNatClampNeg)) (hr : pc + 1 = r) (k : V G nL r lv (.inl (xs i.toNatClampNeg) :: st) M) : V G nL pc lv (.inl i :: .inr 2000 :: st) M := by
  subst hr
  obtain ⟨p, l, e, R, s, m, args, below, meth, c, D, cA, ad, Q, k1, k2⟩ := G
  intro H locs ls hP hS hl'
  exact va_sld C.1 C.2.1 X.1 X.2.1 X.2.2 hS hin hd (k H locs ls hP hS hl')
theorem V.slen (C : xC G cc nL own d) {r : Nat} (X : xScr G L xs) (hd : decode cc pc = .ok (.arraylength, 1)) (hr : pc + 1 = r) (k : V G nL r lv (.inl (Int32.ofNat L) :: st) M) : V G nL pc lv (.inr 2000 :: st) M := by
  subst hr
  obtain ⟨p, l, e, R, s, m, args, below, meth, c, D, cA, ad, Q, k1, k2⟩ := G
  intro H locs ls hP hS hl'
  exact va_slen C.1 C.2.1 X.1 X.2.1 X.2.2 hS hd (k H locs ls hP hS hl')
end RULES7
