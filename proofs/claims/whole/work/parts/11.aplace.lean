/-- where a sign stands in a text -/
def xFind (l : List Int32) (c : Int32) : Int32 := match l.findIdx? (fun x => x == c) with
  | some i => nI i
  | none => -1
/-- LawReader.placeIn: of the j-th text -/
def g4_placeIn (j : Nat) (M : xMem) : Option (Int32 × xMem) :=
  if M 114 0 = -1 then some (-1, M) else if 0 ≤ M 114 0 ∧ M 114 0 ≤ 255 then some (xFind (xStrB.getD j []) (M 114 0), M) else none
theorem met4_placeIn_0 {R : Int32 × xMem} {M : xMem} (h : g4_placeIn 0 M = some R) : xMet yX4_placeIn cX4_placeIn 2 (some .int) 8 [.inr 126, .inr 1010] M (some R.1) R.2 := sorry
theorem met4_placeIn_1 {R : Int32 × xMem} {M : xMem} (h : g4_placeIn 1 M = some R) : xMet yX4_placeIn cX4_placeIn 2 (some .int) 8 [.inr 126, .inr 1011] M (some R.1) R.2 := sorry
