/-! PURE: the system as it is made -/
theorem M0_z {b i : Nat} (h : ¬ (b < 8 ∧ i = 330)) (h2 : ¬ ((b = 114 ∨ b = 142 ∨ b = 144) ∧ i = 0)) : M0 b i = 0 := by
  unfold M0
  rw [if_neg h, if_neg h2]
theorem inv_M0 : Inv M0 := by
  have z : ∀ b i, ¬ (b < 8) → b ≠ 114 → b ≠ 142 → b ≠ 144 → M0 b i = 0 := fun b i h1 h2 h3 h4 => M0_z (fun q => h1 q.1) (fun q => q.1.elim h2 fun r => r.elim h3 h4)
  refine ⟨?_, ?_, ?_, ?_, ?_, ?_⟩
  · funext i
    by_cases q : i = 330
    · unfold M0
      rw [if_pos ⟨by decide, q⟩, if_pos ⟨by decide, q⟩]
    · rw [M0_z (b := 7) (fun r => q r.2) (fun r => by omega), M0_z (b := 0) (fun r => q r.2) (fun r => by omega)]
  · intro k m hb
    by_cases q : k = 330
    · subst q
      have : m = 65535 := by
        have e : bd 330 = some 65535 := by decide
        rw [e] at hb
        injection hb with hb
        exact hb.symm
      subst this
      exact ⟨1, by omega, if_pos ⟨by decide, rfl⟩⟩
    · exact ⟨0, Nat.zero_le _, M0_z (fun r => q r.2) (fun r => by omega)⟩
  · intro b hb j hj
    exact M0_z (fun r => by omega) (fun r => by omega)
  · exact Or.inl ⟨z 157 0 (by decide) (by decide) (by decide) (by decide), z 196 0 (by decide) (by decide) (by decide) (by decide)⟩
  · refine ⟨0, by omega, z 121 0 (by decide) (by decide) (by decide) (by decide), z 164 0 (by decide) (by decide) (by decide) (by decide), fun i _ => ?_⟩
    rw [z 120 i (by decide) (by decide) (by decide) (by decide), z 163 i (by decide) (by decide) (by decide) (by decide)]
    decide
  · refine ⟨0, by omega, z 26 0 (by decide) (by decide) (by decide) (by decide), z 173 0 (by decide) (by decide) (by decide) (by decide), fun c hc => absurd hc (by omega)⟩
theorem p_all_0 (L : Nat) (xs : Nat → Int32) (hL : L ≤ 3584) : ∃ N : xMem, gL_law_b18 L xs 5000 0 M0 = some (1, N) := run_all hL 5000 0 M0 (Nat.zero_le L) (by omega) inv_M0
