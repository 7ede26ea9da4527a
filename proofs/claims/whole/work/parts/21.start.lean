-- the start: what the Statement gives, and the system as it is made; printed by wip/whole/mkstart.py
theorem st_i8 : Cond.instantiable RX8 8 ∈ lw_gt := lw_mem (i := 21) (by decide +kernel) rfl
theorem st_i9 : Cond.instantiable RX9 37 ∈ lw_gt := lw_mem (i := 1024) (by decide +kernel) rfl
theorem st_c8 : Cond.classLink RL 7 RX8 ∈ lw_gt := lw_mem (i := 20) (by decide +kernel) rfl
theorem st_c9 : Cond.classLink RL 10 RX9 ∈ lw_gt := lw_mem (i := 1023) (by decide +kernel) rfl
theorem st_n8 : Cond.initialized RX8 ∈ lw_gt := lw_mem (i := 1) (by decide +kernel) rfl
theorem st_n9 : Cond.initialized RX9 ∈ lw_gt := lw_mem (i := 10) (by decide +kernel) rfl
theorem st_y8 : zY yX8_init cX8_init 1 := ⟨lw_mem (i := 24) (by decide +kernel) rfl, lw_mem (i := 23) (by decide +kernel) rfl, lw_mem (i := 1) (by decide +kernel) rfl, rfl, ⟨by decide +kernel, by decide +kernel⟩, by decide +kernel, by decide⟩
theorem st_m8 : Cond.methodLink RL 9 yX8_init ∈ lw_gt := lw_mem (i := 22) (by decide +kernel) rfl
abbrev st_b8 : List (Int32 ⊕ Option Nat) := [.inr none, .inr none, .inr none, .inr none, .inr none, .inr none, .inr none, .inl 0]
theorem st_z8 : ∀ j, j < 8 → ∀ ad : Nat → Nat, defaultValue (tyX8 j) = vp_V (st_b8.map (zval ad)) j := fun j hj ad => match j, hj with
  | 0, _ => rfl
  | 1, _ => rfl
  | 2, _ => rfl
  | 3, _ => rfl
  | 4, _ => rfl
  | 5, _ => rfl
  | 6, _ => rfl
  | 7, _ => rfl
  | n + 8, h => absurd h (by omega)
theorem st_y9 : zY yX9_init cX9_init 1 := ⟨lw_mem (i := 1027) (by decide +kernel) rfl, lw_mem (i := 1026) (by decide +kernel) rfl, lw_mem (i := 10) (by decide +kernel) rfl, rfl, ⟨by decide +kernel, by decide +kernel⟩, by decide +kernel, by decide⟩
theorem st_m9 : Cond.methodLink RL 12 yX9_init ∈ lw_gt := lw_mem (i := 1025) (by decide +kernel) rfl
abbrev st_b9 : List (Int32 ⊕ Option Nat) := [.inr none, .inr none, .inr none, .inr none, .inl 0, .inl 0, .inl 0, .inl 0, .inl 0, .inl 0, .inl 0, .inl 0, .inl 0, .inl 0, .inr none, .inr none, .inr none, .inr none, .inr none, .inr none, .inr none, .inr none, .inr none, .inr none, .inr none, .inr none, .inr none, .inr none, .inr none, .inl 0, .inl 0, .inl 0, .inl 0, .inr none, .inr none, .inr none, .inl 0]
theorem st_z9 : ∀ j, j < 37 → ∀ ad : Nat → Nat, defaultValue (tyX9 j) = vp_V (st_b9.map (zval ad)) j := fun j hj ad => match j, hj with
  | 0, _ => rfl
  | 1, _ => rfl
  | 2, _ => rfl
  | 3, _ => rfl
  | 4, _ => rfl
  | 5, _ => rfl
  | 6, _ => rfl
  | 7, _ => rfl
  | 8, _ => rfl
  | 9, _ => rfl
  | 10, _ => rfl
  | 11, _ => rfl
  | 12, _ => rfl
  | 13, _ => rfl
  | 14, _ => rfl
  | 15, _ => rfl
  | 16, _ => rfl
  | 17, _ => rfl
  | 18, _ => rfl
  | 19, _ => rfl
  | 20, _ => rfl
  | 21, _ => rfl
  | 22, _ => rfl
  | 23, _ => rfl
  | 24, _ => rfl
  | 25, _ => rfl
  | 26, _ => rfl
  | 27, _ => rfl
  | 28, _ => rfl
  | 29, _ => rfl
  | 30, _ => rfl
  | 31, _ => rfl
  | 32, _ => rfl
  | 33, _ => rfl
  | 34, _ => rfl
  | 35, _ => rfl
  | 36, _ => rfl
  | n + 37, h => absurd h (by omega)
theorem st_ao : Cond.arrayOver (.object RX6) ∈ lw_tbl := List.mem_append_right _ (List.mem_of_getElem? (i := 216) (by decide +kernel))
theorem st_K {args : Array Value} {s : State} (hts0 : ∀ w ∈ lw_tbl, w.before args s = true) : ∃ (D : va_G) (cA : Nat → ClassId), va_K D vwCl (xTys cA) s := by
  have hts : ∀ w ∈ lw_gt, w.before args s = true := fun w hw => hts0 w (List.mem_filter.mp hw).1
  have hk : ∀ k : Nat, ∃ ci : ClassId × (Nat → Nat), ∀ q, vwCl[k]? = some q → u_Kn s q.1 q.2.1 q.2.2 ci.1 ci.2 := by
    intro k
    match k with
    | 0 => obtain ⟨c, iS, h⟩ := u_known hts xcl_0.2 (hts _ zin_0); exact ⟨(c, iS), fun q hq => by cases hq; exact h⟩
    | 1 => obtain ⟨c, iS, h⟩ := u_known hts xcl_1.2 (hts _ zin_1); exact ⟨(c, iS), fun q hq => by cases hq; exact h⟩
    | 2 => obtain ⟨c, iS, h⟩ := u_known hts xcl_2.2 (hts _ zin_2); exact ⟨(c, iS), fun q hq => by cases hq; exact h⟩
    | 3 => obtain ⟨c, iS, h⟩ := u_known hts xcl_3.2 (hts _ zin_3); exact ⟨(c, iS), fun q hq => by cases hq; exact h⟩
    | 4 => obtain ⟨c, iS, h⟩ := u_known hts xcl_4.2 (hts _ zin_4); exact ⟨(c, iS), fun q hq => by cases hq; exact h⟩
    | 5 => obtain ⟨c, iS, h⟩ := u_known hts xcl_5.2 (hts _ zin_5); exact ⟨(c, iS), fun q hq => by cases hq; exact h⟩
    | 6 => obtain ⟨c, iS, h⟩ := u_known hts xcl_6.2 (hts _ zin_6); exact ⟨(c, iS), fun q hq => by cases hq; exact h⟩
    | 7 => obtain ⟨c, iS, h⟩ := u_known hts xcl_7.2 (hts _ zin_7); exact ⟨(c, iS), fun q hq => by cases hq; exact h⟩
    | 8 => obtain ⟨c, iS, h⟩ := u_known hts xcl_8.2 (hts _ st_i8); exact ⟨(c, iS), fun q hq => by cases hq; exact h⟩
    | 9 => obtain ⟨c, iS, h⟩ := u_known hts xcl_9.2 (hts _ st_i9); exact ⟨(c, iS), fun q hq => by cases hq; exact h⟩
    | k + 10 => exact ⟨(0, fun _ => 0), fun q hq => by simp [vwCl] at hq⟩
  obtain ⟨f, hf⟩ := Classical.axiomOfChoice hk
  have ha : ∀ ty, Cond.arrayClass ty ∈ lw_gt → (∀ C, ty ≠ .object C) → ∃ c, ArrOfT s c ty ∧ va_RA s c ty := by
    intro ty hw hne
    obtain ⟨c, k, comp, h1, h2, h3⟩ := Cond.arrayClass_spec (hts _ hw)
    refine ⟨c, fun n z => ⟨fun k h => (by cases h), k, h2, comp, h3⟩, ?_⟩
    cases ty <;> first | exact h1 | exact absurd rfl (hne _)
  obtain ⟨c0, a0⟩ := ha .int zar_0 (fun C h => by cases h)
  obtain ⟨c1, a1⟩ := ha .boolean zar_1 (fun C h => by cases h)
  obtain ⟨c2, a2⟩ := ha .byte zar_2 (fun C h => by cases h)
  obtain ⟨comp, c3, k3, h1, -, h2, h3, h4⟩ := Cond.arrayOver_spec (hts0 _ st_ao)
  refine ⟨(fun k => (f k).1, fun k => (f k).2), fun i => match i with | 0 => c0 | 1 => c1 | 2 => c2 | _ => c3, fun c q hq => hf c q hq, fun k q hq => ?_⟩
  match k with
  | 0 => cases hq; exact a0
  | 1 => cases hq; exact a1
  | 2 => cases hq; exact a2
  | 3 => cases hq; exact ⟨fun N z => ⟨(fun k h => by cases h), k3, h2, comp, h3⟩, k3, comp, h2, h3, h1, h4⟩
  | k + 4 => simp [xTys] at hq
theorem st_t0 {args : Array Value} {s : State} {A : Nat → Prop} (hts0 : ∀ w ∈ lw_tbl, w.before args s = true) (hs : ∀ c ∈ flatC (Jvm.Cond.and given_1 narrow_1), c.before args s = true) (hA : ∀ a : Nat, a < s.heap.size → ¬ A a) : ∃ t, va_Z RX8 (xTn 0) "[I" (.ref t) A s s.heap ∧ va_T .int t (xTab 0).length (fun j => .int ((xTab 0).getD j 0)) A s s.heap := by
  obtain ⟨t, h1, h2⟩ := va_Tof (args := args) (tm := (Term.static RX8 (xTn 0) "[I")) (ty := .int) (N := 8) (f := fun j => .int ((xTab 0).getD j 0)) (A := A) (by decide) (hs _ (by decide +kernel)) (va_eqt (hs _ (by decide +kernel))) (fun j hj => by
    match j, hj with
    | 0, _ => exact va_eqt (z := (xTab 0).getD 0 0) (hs (Cond.eq (.elem (Term.static RX8 (xTn 0) "[I") (.int (Int32.ofNat 0))) (.int ((xTab 0).getD 0 0))) (by decide +kernel))
    | 1, _ => exact va_eqt (z := (xTab 0).getD 1 0) (hs (Cond.eq (.elem (Term.static RX8 (xTn 0) "[I") (.int (Int32.ofNat 1))) (.int ((xTab 0).getD 1 0))) (by decide +kernel))
    | 2, _ => exact va_eqt (z := (xTab 0).getD 2 0) (hs (Cond.eq (.elem (Term.static RX8 (xTn 0) "[I") (.int (Int32.ofNat 2))) (.int ((xTab 0).getD 2 0))) (by decide +kernel))
    | 3, _ => exact va_eqt (z := (xTab 0).getD 3 0) (hs (Cond.eq (.elem (Term.static RX8 (xTn 0) "[I") (.int (Int32.ofNat 3))) (.int ((xTab 0).getD 3 0))) (by decide +kernel))
    | 4, _ => exact va_eqt (z := (xTab 0).getD 4 0) (hs (Cond.eq (.elem (Term.static RX8 (xTn 0) "[I") (.int (Int32.ofNat 4))) (.int ((xTab 0).getD 4 0))) (by decide +kernel))
    | 5, _ => exact va_eqt (z := (xTab 0).getD 5 0) (hs (Cond.eq (.elem (Term.static RX8 (xTn 0) "[I") (.int (Int32.ofNat 5))) (.int ((xTab 0).getD 5 0))) (by decide +kernel))
    | 6, _ => exact va_eqt (z := (xTab 0).getD 6 0) (hs (Cond.eq (.elem (Term.static RX8 (xTn 0) "[I") (.int (Int32.ofNat 6))) (.int ((xTab 0).getD 6 0))) (by decide +kernel))
    | 7, _ => exact va_eqt (z := (xTab 0).getD 7 0) (hs (Cond.eq (.elem (Term.static RX8 (xTn 0) "[I") (.int (Int32.ofNat 7))) (.int ((xTab 0).getD 7 0))) (by decide +kernel))
    | n + 8, h => exact absurd h (by omega)) hA
  exact ⟨t, va_Zof (hts0 (.laysStatic RX8 (xTn 0) "[I") (List.mem_append_right _ (List.mem_of_getElem? (i := 618) (by decide +kernel)))) (hts0 _ (List.mem_filter.mp st_n8).1) h1 hA, h2⟩
theorem st_t1 {args : Array Value} {s : State} {A : Nat → Prop} (hts0 : ∀ w ∈ lw_tbl, w.before args s = true) (hs : ∀ c ∈ flatC (Jvm.Cond.and given_1 narrow_1), c.before args s = true) (hA : ∀ a : Nat, a < s.heap.size → ¬ A a) : ∃ t, va_Z RX8 (xTn 1) "[I" (.ref t) A s s.heap ∧ va_T .int t (xTab 1).length (fun j => .int ((xTab 1).getD j 0)) A s s.heap := by
  obtain ⟨t, h1, h2⟩ := va_Tof (args := args) (tm := (Term.static RX8 (xTn 1) "[I")) (ty := .int) (N := 8) (f := fun j => .int ((xTab 1).getD j 0)) (A := A) (by decide) (hs _ (by decide +kernel)) (va_eqt (hs _ (by decide +kernel))) (fun j hj => by
    match j, hj with
    | 0, _ => exact va_eqt (z := (xTab 1).getD 0 0) (hs (Cond.eq (.elem (Term.static RX8 (xTn 1) "[I") (.int (Int32.ofNat 0))) (.int ((xTab 1).getD 0 0))) (by decide +kernel))
    | 1, _ => exact va_eqt (z := (xTab 1).getD 1 0) (hs (Cond.eq (.elem (Term.static RX8 (xTn 1) "[I") (.int (Int32.ofNat 1))) (.int ((xTab 1).getD 1 0))) (by decide +kernel))
    | 2, _ => exact va_eqt (z := (xTab 1).getD 2 0) (hs (Cond.eq (.elem (Term.static RX8 (xTn 1) "[I") (.int (Int32.ofNat 2))) (.int ((xTab 1).getD 2 0))) (by decide +kernel))
    | 3, _ => exact va_eqt (z := (xTab 1).getD 3 0) (hs (Cond.eq (.elem (Term.static RX8 (xTn 1) "[I") (.int (Int32.ofNat 3))) (.int ((xTab 1).getD 3 0))) (by decide +kernel))
    | 4, _ => exact va_eqt (z := (xTab 1).getD 4 0) (hs (Cond.eq (.elem (Term.static RX8 (xTn 1) "[I") (.int (Int32.ofNat 4))) (.int ((xTab 1).getD 4 0))) (by decide +kernel))
    | 5, _ => exact va_eqt (z := (xTab 1).getD 5 0) (hs (Cond.eq (.elem (Term.static RX8 (xTn 1) "[I") (.int (Int32.ofNat 5))) (.int ((xTab 1).getD 5 0))) (by decide +kernel))
    | 6, _ => exact va_eqt (z := (xTab 1).getD 6 0) (hs (Cond.eq (.elem (Term.static RX8 (xTn 1) "[I") (.int (Int32.ofNat 6))) (.int ((xTab 1).getD 6 0))) (by decide +kernel))
    | 7, _ => exact va_eqt (z := (xTab 1).getD 7 0) (hs (Cond.eq (.elem (Term.static RX8 (xTn 1) "[I") (.int (Int32.ofNat 7))) (.int ((xTab 1).getD 7 0))) (by decide +kernel))
    | n + 8, h => exact absurd h (by omega)) hA
  exact ⟨t, va_Zof (hts0 (.laysStatic RX8 (xTn 1) "[I") (List.mem_append_right _ (List.mem_of_getElem? (i := 620) (by decide +kernel)))) (hts0 _ (List.mem_filter.mp st_n8).1) h1 hA, h2⟩
theorem st_t2 {args : Array Value} {s : State} {A : Nat → Prop} (hts0 : ∀ w ∈ lw_tbl, w.before args s = true) (hs : ∀ c ∈ flatC (Jvm.Cond.and given_1 narrow_1), c.before args s = true) (hA : ∀ a : Nat, a < s.heap.size → ¬ A a) : ∃ t, va_Z RX8 (xTn 2) "[I" (.ref t) A s s.heap ∧ va_T .int t (xTab 2).length (fun j => .int ((xTab 2).getD j 0)) A s s.heap := by
  obtain ⟨t, h1, h2⟩ := va_Tof (args := args) (tm := (Term.static RX8 (xTn 2) "[I")) (ty := .int) (N := 4) (f := fun j => .int ((xTab 2).getD j 0)) (A := A) (by decide) (hs _ (by decide +kernel)) (va_eqt (hs _ (by decide +kernel))) (fun j hj => by
    match j, hj with
    | 0, _ => exact va_eqt (z := (xTab 2).getD 0 0) (hs (Cond.eq (.elem (Term.static RX8 (xTn 2) "[I") (.int (Int32.ofNat 0))) (.int ((xTab 2).getD 0 0))) (by decide +kernel))
    | 1, _ => exact va_eqt (z := (xTab 2).getD 1 0) (hs (Cond.eq (.elem (Term.static RX8 (xTn 2) "[I") (.int (Int32.ofNat 1))) (.int ((xTab 2).getD 1 0))) (by decide +kernel))
    | 2, _ => exact va_eqt (z := (xTab 2).getD 2 0) (hs (Cond.eq (.elem (Term.static RX8 (xTn 2) "[I") (.int (Int32.ofNat 2))) (.int ((xTab 2).getD 2 0))) (by decide +kernel))
    | 3, _ => exact va_eqt (z := (xTab 2).getD 3 0) (hs (Cond.eq (.elem (Term.static RX8 (xTn 2) "[I") (.int (Int32.ofNat 3))) (.int ((xTab 2).getD 3 0))) (by decide +kernel))
    | n + 4, h => exact absurd h (by omega)) hA
  exact ⟨t, va_Zof (hts0 (.laysStatic RX8 (xTn 2) "[I") (List.mem_append_right _ (List.mem_of_getElem? (i := 722) (by decide +kernel)))) (hts0 _ (List.mem_filter.mp st_n8).1) h1 hA, h2⟩
theorem st_t3 {args : Array Value} {s : State} {A : Nat → Prop} (hts0 : ∀ w ∈ lw_tbl, w.before args s = true) (hs : ∀ c ∈ flatC (Jvm.Cond.and given_1 narrow_1), c.before args s = true) (hA : ∀ a : Nat, a < s.heap.size → ¬ A a) : ∃ t, va_Z RX8 (xTn 3) "[I" (.ref t) A s s.heap ∧ va_T .int t (xTab 3).length (fun j => .int ((xTab 3).getD j 0)) A s s.heap := by
  obtain ⟨t, h1, h2⟩ := va_Tof (args := args) (tm := (Term.static RX8 (xTn 3) "[I")) (ty := .int) (N := 4) (f := fun j => .int ((xTab 3).getD j 0)) (A := A) (by decide) (hs _ (by decide +kernel)) (va_eqt (hs _ (by decide +kernel))) (fun j hj => by
    match j, hj with
    | 0, _ => exact va_eqt (z := (xTab 3).getD 0 0) (hs (Cond.eq (.elem (Term.static RX8 (xTn 3) "[I") (.int (Int32.ofNat 0))) (.int ((xTab 3).getD 0 0))) (by decide +kernel))
    | 1, _ => exact va_eqt (z := (xTab 3).getD 1 0) (hs (Cond.eq (.elem (Term.static RX8 (xTn 3) "[I") (.int (Int32.ofNat 1))) (.int ((xTab 3).getD 1 0))) (by decide +kernel))
    | 2, _ => exact va_eqt (z := (xTab 3).getD 2 0) (hs (Cond.eq (.elem (Term.static RX8 (xTn 3) "[I") (.int (Int32.ofNat 2))) (.int ((xTab 3).getD 2 0))) (by decide +kernel))
    | 3, _ => exact va_eqt (z := (xTab 3).getD 3 0) (hs (Cond.eq (.elem (Term.static RX8 (xTn 3) "[I") (.int (Int32.ofNat 3))) (.int ((xTab 3).getD 3 0))) (by decide +kernel))
    | n + 4, h => exact absurd h (by omega)) hA
  exact ⟨t, va_Zof (hts0 (.laysStatic RX8 (xTn 3) "[I") (List.mem_append_right _ (List.mem_of_getElem? (i := 724) (by decide +kernel)))) (hts0 _ (List.mem_filter.mp st_n8).1) h1 hA, h2⟩
def st_tm : Nat → Term := fun i => if i = 0 then .string RX4 56 else .string RX4 103
theorem st_s {args : Array Value} {s : State} {A : Nat → Prop} (hs : ∀ c ∈ flatC (Jvm.Cond.and given_1 narrow_1), c.before args s = true) (hA : ∀ a : Nat, a < s.heap.size → ¬ A a) : ∃ adK adV : Nat → Nat, vk_S 2 xStrL xStrB adK adV A s s.heap ∧ ∀ i : Nat, i < 2 → (st_tm i).eval args s none [] s = some (.ref (adK i)) := by
  have m2 : ∀ {P : Nat → Prop}, P 0 → P 1 → ∀ i, i < 2 → P i := fun h0 h1 i hi => match i, hi with
    | 0, _ => h0
    | 1, _ => h1
    | n + 2, h => absurd h (by omega)
  refine vk_Sof (tm := st_tm) ?_ ?_ ?_ ?_ ?_ ?_ ?_ hA
  · exact m2 (by decide) (by decide)
  · exact m2 (hs (Cond.exactly (st_tm 0) "java/lang/String") (by decide +kernel)) (hs (Cond.exactly (st_tm 1) "java/lang/String") (by decide +kernel))
  · exact m2 (hs (Cond.eq (.field (st_tm 0) "java/lang/String" "coder" "B") (.int 0)) (by decide +kernel)) (hs (Cond.eq (.field (st_tm 1) "java/lang/String" "coder" "B") (.int 0)) (by decide +kernel))
  · exact m2 (hs (Cond.arrayOf (.field (st_tm 0) "java/lang/String" "value" "[B") .byte) (by decide +kernel)) (hs (Cond.arrayOf (.field (st_tm 1) "java/lang/String" "value" "[B") .byte) (by decide +kernel))
  · exact m2 (hs (Cond.eq (.length (.field (st_tm 0) "java/lang/String" "value" "[B")) (.int (Int32.ofNat (xStrL.getD 0 0)))) (by decide +kernel)) (hs (Cond.eq (.length (.field (st_tm 1) "java/lang/String" "value" "[B")) (.int (Int32.ofNat (xStrL.getD 1 0)))) (by decide +kernel))
  · refine m2 (fun j hj => ?_) (fun j hj => ?_)
    · match j, hj with
      | 0, _ => exact hs (Cond.eq (.elem (.field (st_tm 0) "java/lang/String" "value" "[B") (.int (Int32.ofNat 0))) (.int ((xStrB.getD 0 []).getD 0 0))) (by decide +kernel)
      | 1, _ => exact hs (Cond.eq (.elem (.field (st_tm 0) "java/lang/String" "value" "[B") (.int (Int32.ofNat 1))) (.int ((xStrB.getD 0 []).getD 1 0))) (by decide +kernel)
      | 2, _ => exact hs (Cond.eq (.elem (.field (st_tm 0) "java/lang/String" "value" "[B") (.int (Int32.ofNat 2))) (.int ((xStrB.getD 0 []).getD 2 0))) (by decide +kernel)
      | 3, _ => exact hs (Cond.eq (.elem (.field (st_tm 0) "java/lang/String" "value" "[B") (.int (Int32.ofNat 3))) (.int ((xStrB.getD 0 []).getD 3 0))) (by decide +kernel)
      | 4, _ => exact hs (Cond.eq (.elem (.field (st_tm 0) "java/lang/String" "value" "[B") (.int (Int32.ofNat 4))) (.int ((xStrB.getD 0 []).getD 4 0))) (by decide +kernel)
      | 5, _ => exact hs (Cond.eq (.elem (.field (st_tm 0) "java/lang/String" "value" "[B") (.int (Int32.ofNat 5))) (.int ((xStrB.getD 0 []).getD 5 0))) (by decide +kernel)
      | 6, _ => exact hs (Cond.eq (.elem (.field (st_tm 0) "java/lang/String" "value" "[B") (.int (Int32.ofNat 6))) (.int ((xStrB.getD 0 []).getD 6 0))) (by decide +kernel)
      | 7, _ => exact hs (Cond.eq (.elem (.field (st_tm 0) "java/lang/String" "value" "[B") (.int (Int32.ofNat 7))) (.int ((xStrB.getD 0 []).getD 7 0))) (by decide +kernel)
      | n + 8, h => exact absurd h (by show ¬ (n + 8 < 8); omega)
    · match j, hj with
      | 0, _ => exact hs (Cond.eq (.elem (.field (st_tm 1) "java/lang/String" "value" "[B") (.int (Int32.ofNat 0))) (.int ((xStrB.getD 1 []).getD 0 0))) (by decide +kernel)
      | 1, _ => exact hs (Cond.eq (.elem (.field (st_tm 1) "java/lang/String" "value" "[B") (.int (Int32.ofNat 1))) (.int ((xStrB.getD 1 []).getD 1 0))) (by decide +kernel)
      | 2, _ => exact hs (Cond.eq (.elem (.field (st_tm 1) "java/lang/String" "value" "[B") (.int (Int32.ofNat 2))) (.int ((xStrB.getD 1 []).getD 2 0))) (by decide +kernel)
      | 3, _ => exact hs (Cond.eq (.elem (.field (st_tm 1) "java/lang/String" "value" "[B") (.int (Int32.ofNat 3))) (.int ((xStrB.getD 1 []).getD 3 0))) (by decide +kernel)
      | 4, _ => exact hs (Cond.eq (.elem (.field (st_tm 1) "java/lang/String" "value" "[B") (.int (Int32.ofNat 4))) (.int ((xStrB.getD 1 []).getD 4 0))) (by decide +kernel)
      | 5, _ => exact hs (Cond.eq (.elem (.field (st_tm 1) "java/lang/String" "value" "[B") (.int (Int32.ofNat 5))) (.int ((xStrB.getD 1 []).getD 5 0))) (by decide +kernel)
      | 6, _ => exact hs (Cond.eq (.elem (.field (st_tm 1) "java/lang/String" "value" "[B") (.int (Int32.ofNat 6))) (.int ((xStrB.getD 1 []).getD 6 0))) (by decide +kernel)
      | 7, _ => exact hs (Cond.eq (.elem (.field (st_tm 1) "java/lang/String" "value" "[B") (.int (Int32.ofNat 7))) (.int ((xStrB.getD 1 []).getD 7 0))) (by decide +kernel)
      | 8, _ => exact hs (Cond.eq (.elem (.field (st_tm 1) "java/lang/String" "value" "[B") (.int (Int32.ofNat 8))) (.int ((xStrB.getD 1 []).getD 8 0))) (by decide +kernel)
      | 9, _ => exact hs (Cond.eq (.elem (.field (st_tm 1) "java/lang/String" "value" "[B") (.int (Int32.ofNat 9))) (.int ((xStrB.getD 1 []).getD 9 0))) (by decide +kernel)
      | 10, _ => exact hs (Cond.eq (.elem (.field (st_tm 1) "java/lang/String" "value" "[B") (.int (Int32.ofNat 10))) (.int ((xStrB.getD 1 []).getD 10 0))) (by decide +kernel)
      | 11, _ => exact hs (Cond.eq (.elem (.field (st_tm 1) "java/lang/String" "value" "[B") (.int (Int32.ofNat 11))) (.int ((xStrB.getD 1 []).getD 11 0))) (by decide +kernel)
      | 12, _ => exact hs (Cond.eq (.elem (.field (st_tm 1) "java/lang/String" "value" "[B") (.int (Int32.ofNat 12))) (.int ((xStrB.getD 1 []).getD 12 0))) (by decide +kernel)
      | 13, _ => exact hs (Cond.eq (.elem (.field (st_tm 1) "java/lang/String" "value" "[B") (.int (Int32.ofNat 13))) (.int ((xStrB.getD 1 []).getD 13 0))) (by decide +kernel)
      | 14, _ => exact hs (Cond.eq (.elem (.field (st_tm 1) "java/lang/String" "value" "[B") (.int (Int32.ofNat 14))) (.int ((xStrB.getD 1 []).getD 14 0))) (by decide +kernel)
      | n + 15, h => exact absurd h (by show ¬ (n + 15 < 15); omega)
  · intro i j hi hj hij
    match i, j, hi, hj with
    | 0, 0, _, _ => exact absurd rfl hij
    | 1, 1, _, _ => exact absurd rfl hij
    | 0, 1, _, _ => exact Or.inl (hs (Cond.not (Cond.eq (st_tm 0) (st_tm 1))) (by decide +kernel))
    | 1, 0, _, _ => exact Or.inr (hs (Cond.not (Cond.eq (st_tm 0) (st_tm 1))) (by decide +kernel))
    | n + 2, _, h, _ => exact absurd h (by omega)
    | _, n + 2, _, h => exact absurd h (by omega)
theorem st_c {args : Array Value} {s : State} {A : Nat → Prop} (hts0 : ∀ w ∈ lw_tbl, w.before args s = true) (hs : ∀ c ∈ flatC (Jvm.Cond.and given_1 narrow_1), c.before args s = true) (hA : ∀ a : Nat, a < s.heap.size → ¬ A a) : va_Z "java/lang/String" "COMPACT_STRINGS" "Z" (.int 1) A s s.heap :=
  va_Zof (hts0 (.laysStatic "java/lang/String" "COMPACT_STRINGS" "Z") (List.mem_append_right _ (List.mem_of_getElem? (i := 454) (by decide +kernel)))) (hts0 (.initialized "java/lang/String") (List.mem_append_right _ (List.mem_of_getElem? (i := 11) (by decide +kernel)))) (va_eqt (hs (Cond.eq (.static "java/lang/String" "COMPACT_STRINGS" "Z") (.int 1)) (by decide +kernel))) hA
theorem st_r0 : Cond.stringRef RX4 56 "azswxfbq" ∈ lw_tbl := List.mem_append_right _ (List.mem_of_getElem? (i := 436) (by decide +kernel))
theorem st_r1 : Cond.stringRef RX4 103 "uvhntexygcrlkdp" ∈ lw_tbl := List.mem_append_right _ (List.mem_of_getElem? (i := 555) (by decide +kernel))
