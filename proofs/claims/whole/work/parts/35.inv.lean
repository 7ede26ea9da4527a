/-! PURE: what holds between two calls -/
def lawCh (k : Nat) : Int32 := ([97, 122, 115, 119, 120, 102, 98, 113] : List Int32).getD k 0
def LawR (c20 c21 c22 c23 c24 c25 c26 r180 r181 r182 r183 r184 r173 : Nat → Int32) : Prop :=
  ∃ n : Nat, n ≤ 16 ∧ c26 0 = nI n ∧ r173 0 = nI n ∧ ∀ c : Nat, c < n → (∃ k : Nat, k < 8 ∧ c23 c = nI k ∧ r181 c = lawCh k) ∧ ∃ (W : (Nat → Int32) → Bool) (A : (Nat → Int32) → Int32),
    (∀ N : xMem, N 20 = c20 → N 21 = c21 → N 22 = c22 →
      (∃ r N', g3_run (c25 c) N = some (r, N') ∧ Off [27, 28, 29] N N' ∧ (W (N 101) = true ↔ ¬ r = 0 ∧ ¬ N' 28 0 = 0)) ∧
      (∃ r N', g3_run (c24 c) N = some (r, N') ∧ Off [27, 28, 29] N N' ∧ A (N 101) = if r = 0 then 0 else N' 29 0)) ∧
    (∀ N : xMem, N 180 = r180 →
      (∃ r N', g9_comesTo (r183 c) (r184 c) N = some (r, N') ∧ Off [185] N N' ∧ (W (N 186) = true ↔ r = 1)) ∧
      (∃ N', g9_comesTo (r182 c) (r183 c) N = some (A (N 186), N') ∧ Off [185] N N')) ∧
    (∀ F F' : Nat → Int32, (∀ i, i < 15 → F i = F' i) → W F = W F' ∧ A F = A F')
def LawRel (M : xMem) : Prop := LawR (M 20) (M 21) (M 22) (M 23) (M 24) (M 25) (M 26) (M 180) (M 181) (M 182) (M 183) (M 184) (M 173)
def Z10 (M : xMem) : Prop := ∀ b, b < 10 → ∀ j, 331 ≤ j → M b j = 0
def KeptRel (M : xMem) : Prop := (M 157 0 = 0 ∧ M 196 0 = 0) ∨ (M 157 0 = 1 ∧ M 196 0 = 1 ∧ M 9 = M 6 ∧ RowOk (M 6))
def TapeRel (M : xMem) : Prop := ∃ t : Nat, t ≤ 260 ∧ M 121 0 = nI t ∧ M 164 0 = nI t ∧ ∀ i, i < 260 → M 120 i = M 163 i &&& 255
def Inv (M : xMem) : Prop := M 7 = M 0 ∧ RowOk (M 0) ∧ Z10 M ∧ KeptRel M ∧ TapeRel M ∧ LawRel M
def PB : List Nat := [6, 9, 157, 196, 120, 121, 163, 164, 20, 21, 22, 23, 24, 25, 26, 180, 181, 182, 183, 184, 173]
section INV
variable {M N : xMem}
theorem Inv.eq7 (I : Inv M) : M 7 = M 0 := I.1
theorem Inv.ok (I : Inv M) : RowOk (M 0) := I.2.1
theorem Inv.ok7 (I : Inv M) : RowOk (M 7) := by rw [I.1]; exact I.2.1
theorem Inv.z (I : Inv M) : Z10 M := I.2.2.1
theorem Inv.kept (I : Inv M) : KeptRel M := I.2.2.2.1
theorem Inv.tape (I : Inv M) : TapeRel M := I.2.2.2.2.1
theorem Inv.law (I : Inv M) : LawRel M := I.2.2.2.2.2
theorem LawRel.fr (I : LawRel M) (h : ∀ b ∈ [20, 21, 22, 23, 24, 25, 26, 180, 181, 182, 183, 184, 173], N b = M b) : LawRel N := by
  unfold LawRel
  rw [h 20 (by decide), h 21 (by decide), h 22 (by decide), h 23 (by decide), h 24 (by decide), h 25 (by decide), h 26 (by decide), h 180 (by decide), h 181 (by decide), h 182 (by decide), h 183 (by decide), h 184 (by decide), h 173 (by decide)]
  exact I
theorem KeptRel.fr (I : KeptRel M) (h : ∀ b ∈ [6, 9, 157, 196], N b = M b) : KeptRel N := by
  unfold KeptRel
  rw [h 6 (by decide), h 9 (by decide), h 157 (by decide), h 196 (by decide)]
  exact I
theorem TapeRel.fr (I : TapeRel M) (h : ∀ b ∈ [120, 121, 163, 164], N b = M b) : TapeRel N := by
  unfold TapeRel
  rw [h 120 (by decide), h 121 (by decide), h 163 (by decide), h 164 (by decide)]
  exact I
theorem Inv.fr (I : Inv M) (h7 : N 7 = N 0) (ok : RowOk (N 0)) (z : Z10 N) (h : ∀ b ∈ PB, N b = M b) : Inv N :=
  ⟨h7, ok, z, I.kept.fr fun b hb => h b (by revert b; decide), I.tape.fr fun b hb => h b (by revert b; decide), I.law.fr fun b hb => h b (by revert b; decide)⟩
theorem Z10.up (z : Z10 M) {b i : Nat} {v : Int32} (h : i < 331 ∨ 10 ≤ b) : Z10 (upM M b i v) := by
  intro c hc j hj
  unfold upM
  rw [if_neg (fun q => by omega)]
  exact z c hc j hj
theorem Z10.of (z : Z10 M) (h : ∀ b, b < 10 → N b = M b) : Z10 N := fun b hb j hj => by rw [h b hb]; exact z b hb j hj
/-- scratch blocks alone have changed -/
theorem Inv.off (I : Inv M) {S : List Nat} (h : Off S M N) (hS : ∀ b ∈ S, 10 ≤ b ∧ b ∉ PB) : Inv N := by
  have f : ∀ b, b < 10 → N b = M b := fun b hb => h b fun q => by have := (hS b q).1; omega
  refine I.fr (by rw [f 7 (by omega), f 0 (by omega)]; exact I.eq7) (by rw [f 0 (by omega)]; exact I.ok) (I.z.of f) fun b hb => h b fun q => (hS b q).2 hb
/-- one place of both rows -/
theorem Inv.up2 (I : Inv M) {i : Nat} {v : Int32} (hi : i < 331) (hv : ∀ m, bd i = some m → ∃ j, j ≤ m ∧ v = nI j) : Inv (upM (upM M 0 i v) 7 i v) := by
  refine I.fr ?_ ?_ ((I.z.up (Or.inl hi)).up (Or.inl hi)) ?_
  · rw [up_row, up_b (show (0 : Nat) ≠ 7 by decide), up_b (show (7 : Nat) ≠ 0 by decide), up_row, I.eq7]
  · rw [up_b (show (0 : Nat) ≠ 7 by decide), up_row]
    exact I.ok.upd hv
  · intro b hb
    have h0 : b ≠ 0 ∧ b ≠ 7 := by revert b; decide
    rw [up_b h0.2, up_b h0.1]
end INV
/-- a call of the class and the same call of the reference -/
def Pair (f g : xMem → Option (Int32 × xMem)) : Prop := ∀ M, Inv M → ∃ r M1 N, f M = some (r, M1) ∧ g M1 = some (r, N) ∧ Inv N
theorem Pair.same {f g : xMem → Option (Int32 × xMem)} (h : ∀ M, Inv M → ∃ r, f M = some (r, M) ∧ g M = some (r, M)) : Pair f g := fun M I => by
  obtain ⟨r, h1, h2⟩ := h M I
  exact ⟨r, M, M, h1, h2, I⟩
theorem upM_comm {M : xMem} {b c i j : Nat} {v w : Int32} (h : b ≠ c) : upM (upM M b i v) c j w = upM (upM M c j w) b i v := by
  funext d k
  unfold upM
  by_cases h1 : d = c ∧ k = j
  · rw [if_pos h1, if_neg (by omega), if_pos h1]
  · rw [if_neg h1]
    by_cases h2 : d = b ∧ k = i
    · rw [if_pos h2, if_pos h2]
    · rw [if_neg h2, if_neg h2, if_neg h1]
