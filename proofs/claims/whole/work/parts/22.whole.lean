/-! the system as it is made, in the words of V; whole_start -/
def M0 : xMem := fun b i => if b < 8 ∧ i = 330 then 1 else if (b = 114 ∨ b = 142 ∨ b = 144) ∧ i = 0 then -1 else 0
def zA : List zD := zCur [.inr (.inr (8, st_b8))] 0 (zv_8 1) (zn_8 1)
def zB : List zD := zA ++ [.inr (.inr (9, st_b9))]
def zFin : List zD := zCur zB 154 (zv_9 155) (zn_9 155)
def zChkF : (Int32 ⊕ Option Nat) → (Nat ⊕ (Nat × Nat)) → Bool
  | .inl x, .inr q => x == M0 q.1 q.2
  | .inr (some k), .inl k' => k == k' && decide (k < 177)
  | _, _ => false
def zChk : zD → xDesc → Bool
  | .inl d, .inl e => d.1 == e.1 && (d.2.1 == e.2.2.2 && (List.range d.2.1).all (fun i => zf d.2.2 i == M0 e.2.1 (e.2.2.1 + i)))
  | .inr (.inl l), .inr (.inl cs) => decide (l = cs.map some) && cs.all (fun k => decide (k < 177))
  | .inr (.inr o), .inr (.inr e) => o.1 == e.1 && (o.2.length == e.2.length && (List.range o.2.length).all (fun i => match o.2[i]?, e.2[i]? with
    | some f, some g => zChkF f g
    | _, _ => false))
  | _, _ => false
theorem zA_len : zA.length = 154 := by decide +kernel
theorem zFin_len : zFin.length = 177 := by decide +kernel
set_option maxRecDepth 100000 in
theorem zFin_chk : (List.range 177).all (fun k => match zFin[k]?, SH[k]? with
    | some z, some d => zChk z d
    | _, _ => false) = true := by decide +kernel
theorem zChk_at {cA : Nat → ClassId} {ad ad3 : Nat → Nat} {D : va_G} {H : Heap} {a : Nat} {z : zD} {d : xDesc} (had : ∀ i, i < 177 → ad i = ad3 i) (h : zChk z d = true) (hP : va_at D vwCl (a, zCell cA ad3 z) H) : va_at D vwCl (a, xCell cA ad M0 d) H := by
  match z, d with
  | .inl z, .inl d =>
    simp only [zChk, Bool.and_eq_true, beq_iff_eq] at h
    obtain ⟨h1, h2, h3⟩ := h
    have h4 : ∀ i, i < z.2.1 → zf z.2.2 i = M0 d.2.1 (d.2.2.1 + i) := fun i hi => by
      have := List.all_eq_true.mp h3 i (List.mem_range.mpr hi)
      simpa using this
    have e : vp_cell (cA z.1) (z.2.1, .inl (zf z.2.2)) = vp_cell (cA d.1) (d.2.2.2, .inl (fun i => M0 d.2.1 (d.2.2.1 + i))) := by
      rw [vp_cell_i, vp_cell_i, ← h1, ← h2]
      unfold arrV
      congr 1
      apply Array.ext
      · simp
      · intro i g1 g2
        simp at g1
        simp only [Array.getElem_ofFn]
        rw [h4 i g1]
    show H[a]? = some (vp_cell _ _)
    rw [← e]
    exact hP
  | .inr (.inl l), .inr (.inl cs) =>
    simp only [zChk, Bool.and_eq_true, decide_eq_true_eq] at h
    obtain ⟨rfl, h2⟩ := h
    have e : (fun i : Nat => ((((cs.map some)[i]? : Option (Option Nat))).join).map ad3) = (fun i : Nat => ((cs[i]? : Option Nat)).map ad) := by
      funext i
      rw [List.getElem?_map]
      cases hc : cs[i]? with
      | none => rfl
      | some k =>
        show some (ad3 k) = some (ad k)
        rw [had k (by simpa using List.all_eq_true.mp h2 k (List.mem_of_getElem? hc))]
    have hP' : va_at D vwCl (a, .inl (cA 3, (cs.map some).length, .inr (.inr (.inr (.inr (fun i : Nat => ((((cs.map some)[i]? : Option (Option Nat))).join).map ad3)))))) H := hP
    rw [e, List.length_map] at hP'
    exact hP'
  | .inr (.inr o), .inr (.inr e) =>
    simp only [zChk, Bool.and_eq_true, beq_iff_eq] at h
    obtain ⟨h1, h2, h3⟩ := h
    have e1 : o.2.map (zval ad3) = e.2.map (xsl ad M0) := by
      apply List.ext_getElem?
      intro i
      rw [List.getElem?_map, List.getElem?_map]
      by_cases hi : i < o.2.length
      · have h4 := List.all_eq_true.mp h3 i (List.mem_range.mpr hi)
        cases ho : o.2[i]? with
        | none => rw [ho] at h4; simp at h4
        | some f =>
          cases he : e.2[i]? with
          | none => rw [ho, he] at h4; simp at h4
          | some g =>
            rw [ho, he] at h4
            match f, g with
            | .inl x, .inr q =>
              simp only [zChkF, beq_iff_eq] at h4
              simp [zval, xsl, h4]
            | .inr (some k), .inl k' =>
              simp only [zChkF, Bool.and_eq_true, beq_iff_eq, decide_eq_true_eq] at h4
              obtain ⟨rfl, h5⟩ := h4
              simp [zval, xsl, va_rf, had k h5]
            | .inl x, .inl k => simp [zChkF] at h4
            | .inr none, .inl k => simp [zChkF] at h4
            | .inr r, .inr q => simp [zChkF] at h4
      · rw [List.getElem?_eq_none_iff.mpr (by omega), List.getElem?_eq_none_iff.mpr (by omega)]; rfl
    have hP' : va_at D vwCl (a, .inr (o.1, o.2.map (zval ad3))) H := hP
    rw [e1, h1] at hP'
    exact hP'
  | .inl z, .inr d => simp [zChk] at h
  | .inr z, .inl d => simp [zChk] at h
  | .inr (.inl z), .inr (.inr d) => simp [zChk] at h
  | .inr (.inr z), .inr (.inl d) => simp [zChk] at h
theorem zFin_world {cA : Nat → ClassId} {ad ad3 : Nat → Nat} {D : va_G} {H : Heap} (had : ∀ i, i < 177 → ad i = ad3 i) (hP : va_P D vwCl (zWs cA ad3 zFin) H) : va_P D vwCl (xWs cA ad M0) H := by
  intro k q hk
  obtain ⟨d, hd, rfl⟩ := xWs_of hk
  have hlt : k < 177 := SH_lt hd
  have h1 := List.all_eq_true.mp zFin_chk k (List.mem_range.mpr hlt)
  rw [hd] at h1
  cases hz : zFin[k]? with
  | none => rw [hz] at h1; simp at h1
  | some z =>
    rw [hz] at h1
    have h2 := hP k (ad3 k, zCell cA ad3 z) (by rw [zWs_get, hz]; rfl)
    rw [← had k hlt] at h2
    exact zChk_at had h1 h2
theorem zB_get : zB[154]? = some (.inr (.inr (9, st_b9))) := by
  unfold zB
  rw [List.getElem?_append_right (by rw [zA_len]; omega), zA_len]; rfl
theorem zB_len : zB.length = 155 := by unfold zB; rw [List.length_append, zA_len]; rfl
theorem code_ret1 (pc : Nat) : True := trivial
/-- WHAT IS LEFT: on every script the law's loop, over the memory, ends with 1 -/
def P_all : Prop := ∀ (L : Nat) (xs : Nat → Int32), L ≤ 3584 → ∃ N : xMem, gL_law_b18 L xs 5000 0 M0 = some (1, N)
set_option maxHeartbeats 4000000 in
set_option maxRecDepth 100000 in
theorem whole_start_open (hall : P_all) {p : Program} {e : Env} {s : State} {m : MethodId} {below : List Frame} {meth : Method} {c : Code} (l : Launch) {b L : Nat} {xs : Nat → Int32} (hL : L ≤ 3584) (C0 : lw_At p s m meth c b L xs) : W p l e room_1 s m #[Value.ref b] below meth c s.heap [] 0 0 (lw_Z below #[Value.ref b] s) (entryFrame m ([Value.ref b] : List Value).toArray 4) := by
  obtain ⟨hx, hb, hr, hml, hown, hts0, hX, hbl, hlocks, hgv⟩ := id C0
  have hts : ∀ w ∈ lw_gt, w.before #[Value.ref b] s = true := fun w hw => hts0 w (List.mem_filter.mp hw).1
  have hnt : ∀ w ∈ lw_nt, va_Nw w s := fun w hw => va_Nw.of (xNest_tab (List.mem_filter.mp hw).2) (hts0 w (List.mem_append_right _ (List.mem_filter.mp hw).1))
  have hs := flat_of_before _ hgv
  obtain ⟨D, cA, hK⟩ := st_K hts0
  have hAO : va_AO RX6 s := va_AO.of (hts0 _ st_ao)
  let A : Nat → Prop := fun q => s.heap.size ≤ q
  have hA : ∀ q, s.heap.size ≤ q → A q := fun _ h => h
  have hAn : ∀ a : Nat, a < s.heap.size → ¬ A a := fun a h q => absurd q (Nat.not_le.mpr h)
  have hS : va_S A s.heap s.heap [] := va_S.rf
  have hP : va_P D vwCl [] s.heap := fun k q h => by simp at h
  have hD : va_D A [] := ⟨fun i j p q h => by simp at h, fun k q h => by simp at h⟩
  have hl := lv_entry ([.ref b]) (n := 4) (Nat.le_of_ble_eq_true rfl)
  rw [lg_entry_eq]
  generalize (lg_sl ([.ref b]) ++ List.replicate (4 - (lg_sl ([.ref b])).length) Slot.unset).toArray = ls at hl ⊢
  have hl : lv_has ls 4 [(0, .ref b)] := hl
  -- the class
  refine va_new (ci := 8) (C := RX8) (T := TX8) (N := 8) (fs := st_b8.map (zval fun _ => 0)) hx hb hts xcl_8.2 tyX8 tyX8_ok hown (hts _ st_c8) (hts _ st_i8) (hts _ st_n8) hK hP hD hS hA rfl (fun j hj => st_z8 j hj _) (Nat.le_of_ble_eq_true rfl) (Nat.le_of_ble_eq_true rfl) dL_law_0 (fun q0 H1 hP hD hS => ?_)
  refine lv_dup hx hb dL_law_3 rfl ?_
  have w1 : zWs cA (fun _ => q0) [.inr (.inr (8, st_b8))] = [(q0, .inr (8, st_b8.map (zval fun _ => 0)))] := rfl
  have hP1 : va_P D vwCl (zWs cA (fun _ => q0) [.inr (.inr (8, st_b8))]) H1 := by rw [w1]; exact hP
  have hD1 : va_D A (zWs cA (fun _ => q0) [.inr (.inr (8, st_b8))]) := by rw [w1]; exact hD
  have ok1 : zOk [.inr (.inr (8, st_b8))] := by
    intro d hd r hr
    rw [List.mem_singleton.mp hd] at hr
    cases hr
  have hF1 : ∀ q, va_A (zWs cA (fun _ => q0) [.inr (.inr (8, st_b8))]) H1.size q → A q := fun q h => by
    rcases h with ⟨k2, e2, h⟩ | h
    · exact hD1.2 k2 (q, e2) h
    · exact Nat.le_trans hS.1 h
  obtain ⟨y1, y2, y3, y4, y5, y6, y7⟩ := st_y8
  have hpre : PreS s H1 (va_Pc [.ref ((fun _ => q0 : Nat → Nat) 0)] (fun U => U.heap.size = H1.size ∧ va_P D vwCl (zWs cA (fun _ => q0) [.inr (.inr (8, st_b8))]) U.heap ∧ va_K D vwCl (xTys cA) U ∧ va_D (fun _ => True) (zWs cA (fun _ => q0) [.inr (.inr (8, st_b8))]) ∧ va_AO RX6 U ∧ ∀ w ∈ lw_nt, va_Nw w U)) [.ref q0] := by
    refine ⟨fun a U g mk q => ?_, fun U hU hW => ⟨rfl, by rw [hU], by rw [hU]; exact hP1, va_K.moved hW.alike hK, hD1.weaken (fun _ _ _ _ => trivial), va_AO.moved hW.alike hAO, fun w hw => xNest_warm (List.mem_filter.mp hw).2 hW (hnt w hw)⟩⟩
    obtain ⟨r0, r1, qP, qK, qD, qO, qN⟩ := q
    exact ⟨r0, r1, qP, va_K.moved (u := U) (U := U.calling g mk a) (Vm.Alike.refl U.vm) qK, qD, va_AO.moved (u := U) (U := U.calling g mk a) (Vm.Alike.refl U.vm) qO, fun w hw => va_Nw.same (u := U) (U := U.calling g mk a) (xNest_tab (List.mem_filter.mp hw).2) rfl (qN w hw)⟩
  refine va_callv (va_runI (As := []) (rest := [.ref q0]) (Ts := lw_gt) ⟨hx, hb, hml, hown, hts⟩ (zmet_8 l D cA (fun _ => q0) [.inr (.inr (8, st_b8))] 0 H1.size rfl ok1) (cwI 0 hts (lw_goodIn y1) rfl rfl rfl (hts _ y3) (hts _ st_m8) (hts _ y2) y4 ⟨y5.1, y5.2, y6⟩ ⟨Nat.le_of_ble_eq_true rfl, Nat.le_of_ble_eq_true rfl⟩) hpre rfl rfl hl.1 rfl (lv_room (Nat.le_of_ble_eq_true rfl)) dL_law_4 ⟨Nat.le_of_ble_eq_true rfl, Nat.le_of_ble_eq_true rfl⟩) hS (fun q _ h => hF1 q h) hF1 (fun ad1 t1 H2 locs2 ht1 hvm1 hw1 hB1 hz1 hk1 hS => ?_)
  obtain ⟨ok2, hP2, hD2⟩ := hB1
  rw [ht1] at hP2
  have hP2 : va_P D vwCl (zWs cA ad1 zA) H2 := hP2
  have hD2 : va_D A (zWs cA ad1 zA) := hD2.weaken fun _ q _ h => hF1 q.1 h
  have ok2 : zOk zA := ok2
  have e10 : ad1 0 = q0 := hw1 0 (by decide)
  refine lv_astore_n (lv' := [(1, .ref q0), (0, .ref b)]) hx hb dL_law_7 rfl hl (by decide) rfl (fun ls hl => ?_)
  -- the reference
  refine va_new (ci := 9) (C := RX9) (T := TX9) (N := 37) (fs := st_b9.map (zval fun _ => 0)) hx hb hts xcl_9.2 tyX9 tyX9_ok hown (hts _ st_c9) (hts _ st_i9) (hts _ st_n9) hK hP2 hD2 hS hA rfl (fun j hj => st_z9 j hj _) (Nat.le_of_ble_eq_true rfl) (Nat.le_of_ble_eq_true rfl) dL_law_8 (fun q1 H3 hP3 hD3 hS => ?_)
  refine lv_dup hx hb dL_law_11 rfl ?_
  obtain ⟨ok3, hP3, hD3⟩ := zGrow (d := .inr (.inr (9, st_b9))) (E := .inr (9, st_b9.map (zval fun _ => 0))) ok2 rfl (fun _ => rfl) hP3 hD3
  generalize hq2 : adP ad1 zA.length q1 = ad2 at hP3 hD3
  have e154 : ad2 154 = q1 := by rw [← hq2, zA_len]; exact adP_eq
  have e20 : ad2 0 = q0 := by rw [← hq2, adP_lt (by rw [zA_len]; omega), e10]
  have hP3 : va_P D vwCl (zWs cA ad2 zB) H3 := hP3
  have hD3 : va_D A (zWs cA ad2 zB) := hD3
  have ok3 : zOk zB := ok3
  have hF3 : ∀ q, va_A (zWs cA ad2 zB) H3.size q → A q := fun q h => by
    rcases h with ⟨k2, e2, h⟩ | h
    · exact hD3.2 k2 (q, e2) h
    · exact Nat.le_trans hS.1 h
  obtain ⟨z1, z2, z3, z4, z5, z6, z7⟩ := st_y9
  have hpre3 : PreS s H3 (va_Pc [.ref (ad2 154)] (fun U => U.heap.size = H3.size ∧ va_P D vwCl (zWs cA ad2 zB) U.heap ∧ va_K D vwCl (xTys cA) U ∧ va_D (fun _ => True) (zWs cA ad2 zB) ∧ va_AO RX6 U ∧ ∀ w ∈ lw_nt, va_Nw w U)) [.ref q1] := by
    refine ⟨fun a U g mk q => ?_, fun U hU hW => ⟨by rw [e154], by rw [hU], by rw [hU]; exact hP3, va_K.moved hW.alike hK, hD3.weaken (fun _ _ _ _ => trivial), va_AO.moved hW.alike hAO, fun w hw => xNest_warm (List.mem_filter.mp hw).2 hW (hnt w hw)⟩⟩
    obtain ⟨r0, r1, qP, qK, qD, qO, qN⟩ := q
    exact ⟨r0, r1, qP, va_K.moved (u := U) (U := U.calling g mk a) (Vm.Alike.refl U.vm) qK, qD, va_AO.moved (u := U) (U := U.calling g mk a) (Vm.Alike.refl U.vm) qO, fun w hw => va_Nw.same (u := U) (U := U.calling g mk a) (xNest_tab (List.mem_filter.mp hw).2) rfl (qN w hw)⟩
  refine va_callv (va_runI (As := []) (rest := [.ref q1]) (Ts := lw_gt) ⟨hx, hb, hml, hown, hts⟩ (zmet_9 l D cA ad2 zB 154 H3.size zB_get ok3) (cwI 0 hts (lw_goodIn z1) rfl rfl rfl (hts _ z3) (hts _ st_m9) (hts _ z2) z4 ⟨z5.1, z5.2, z6⟩ ⟨Nat.le_of_ble_eq_true rfl, Nat.le_of_ble_eq_true rfl⟩) hpre3 rfl rfl hl.1 rfl (lv_room (Nat.le_of_ble_eq_true rfl)) dL_law_12 ⟨Nat.le_of_ble_eq_true rfl, Nat.le_of_ble_eq_true rfl⟩) hS (fun q _ h => hF3 q h) hF3 (fun ad3 t3 H4 locs4 ht3 hvm3 hw3 hB3 hz3 hk3 hS => ?_)
  obtain ⟨ok4, hP4, hD4⟩ := hB3
  rw [ht3] at hP4
  rw [zB_len] at hP4 hD4 hw3
  have hP4 : va_P D vwCl (zWs cA ad3 zFin) H4 := hP4
  have hD4 : va_D A (zWs cA ad3 zFin) := hD4.weaken fun _ q _ h => hF3 q.1 h
  have e30 : ad3 0 = q0 := by rw [hw3 0 (by omega), e20]
  have e3154 : ad3 154 = q1 := by rw [hw3 154 (by omega), e154]
  refine lv_astore_n (lv' := [(2, .ref q1), (1, .ref q0), (0, .ref b)]) hx hb dL_law_15 rfl hl (by decide) rfl (fun ls hl => ?_)
  refine lv_iconst (v := 0) hx hb dL_law_16 (by decide) ?_
  refine lv_istore_n (lv' := [(3, .int 0), (2, .ref q1), (1, .ref q0), (0, .ref b)]) hx hb dL_law_17 rfl hl (by decide) rfl (fun ls hl => ?_)
  refine va_forget (fun q hq => hS.2.2 q hq) ?_
  -- the words of V
  obtain ⟨t0, T0⟩ := st_t0 (A := A) hts0 hs hAn
  obtain ⟨t1, T1⟩ := st_t1 (A := A) hts0 hs hAn
  obtain ⟨t2, T2⟩ := st_t2 (A := A) hts0 hs hAn
  obtain ⟨t3, T3⟩ := st_t3 (A := A) hts0 hs hAn
  obtain ⟨adK, adV, TS, TE⟩ := st_s (A := A) hs hAn
  have TC := st_c (A := A) hts0 hs hAn
  let ad : Nat → Nat := fun i => if i < 177 then ad3 i else if i = 1000 then t0 else if i = 1001 then t1 else if i = 1002 then t2 else if i = 1003 then t3 else if i = 1010 then adK 0 else if i = 1011 then adK 1 else if i = 1020 then adV 0 else if i = 1021 then adV 1 else b
  have had : ∀ i, i < 177 → ad i = ad3 i := fun i hi => if_pos hi
  have hPx : va_P D vwCl (xWs cA ad M0) H4 := zFin_world had hP4
  have hge : ∀ i, i < 177 → s.heap.size ≤ ad i := fun i hi => by
    rw [had i hi]
    have hi2 : i < zFin.length := by rw [zFin_len]; exact hi
    exact hD4.2 i (ad3 i, zCell cA ad3 zFin[i]) (by rw [zWs_get, List.getElem?_eq_getElem hi2]; rfl)
  have hAx : ∀ q, xA ad q → A q := fun q ⟨k, hk, e⟩ => by rw [e]; exact hge k hk
  have hinj : xInj ad := fun i j hi hj e => by
    rw [had i hi, had j hj] at e
    have hi2 : i < zFin.length := by rw [zFin_len]; exact hi
    have hj2 : j < zFin.length := by rw [zFin_len]; exact hj
    exact hD4.1 i j (ad3 i, zCell cA ad3 zFin[i]) (ad3 j, zCell cA ad3 zFin[j]) (by rw [zWs_get, List.getElem?_eq_getElem hi2]; rfl) (by rw [zWs_get, List.getElem?_eq_getElem hj2]; rfl) e
  have hE : xE ad (xA ad) s s.heap := by
    refine ⟨fun k hk => ?_, ?_, ⟨vk_R.of (hts0 _ st_r0) (TE 0 (by omega)), vk_R.of (hts0 _ st_r1) (TE 1 (by omega)), TC.narrow hAx⟩, hnt⟩
    · match k, hk with
      | 0, _ => exact ⟨T0.1.narrow hAx, T0.2.narrow hAx⟩
      | 1, _ => exact ⟨T1.1.narrow hAx, T1.2.narrow hAx⟩
      | 2, _ => exact ⟨T2.1.narrow hAx, T2.2.narrow hAx⟩
      | 3, _ => exact ⟨T3.1.narrow hAx, T3.2.narrow hAx⟩
    · have TS2 := TS.narrow hAx
      refine ⟨fun i hi => ?_, fun i j hi hj e => ?_⟩
      · match i, hi with
        | 0, _ => exact TS2.1 0 (by omega)
        | 1, _ => exact TS2.1 1 (by omega)
      · match i, j, hi, hj with
        | 0, 0, _, _ => rfl
        | 1, 1, _, _ => rfl
        | 0, 1, _, _ => exact TS2.2 0 1 (by omega) (by omega) e
        | 1, 0, _, _ => exact TS2.2 1 0 (by omega) (by omega) e
  have hSx : va_S (xA ad) s.heap H4 [] := ⟨hS.1, fun q h1 _ => hS.2.1 q h1 (hAn q h1), fun _ h => by cases h⟩
  obtain ⟨N, hN⟩ := hall L xs hL
  have hC : xC (p, l, e, room_1, s, m, #[Value.ref b], below, meth, c, D, cA, ad, lw_Z below #[Value.ref b] s, 177, 8095) code 4 RL 2000 :=
    ⟨hx, hb, hml, hown, hts, hK, hinj, hE, Nat.le_of_ble_eq_true rfl, Nat.le_of_ble_eq_true rfl, Nat.le_of_ble_eq_true rfl, Nat.le_of_ble_eq_true rfl⟩
  have hXs : xScr (p, l, e, room_1, s, m, #[Value.ref b], below, meth, c, D, cA, ad, lw_Z below #[Value.ref b] s, 177, 8095) L xs := ⟨hX, hbl, fun h => absurd (hAx _ h) (hAn _ hbl)⟩
  have hR : xRI (p, l, e, room_1, s, m, #[Value.ref b], below, meth, c, D, cA, ad, lw_Z below #[Value.ref b] s, 177, 8095) code 4 ((1 : Int32), N) := by
    intro pc lv hd H locs ls hP hS hl
    refine va_forget (fun q hq => hAx _ (hS.2.2 q hq)) ?_
    refine W.widen (k := 600000) (n := 7302250) (Nat.le_of_ble_eq_true rfl) (Nat.le_of_ble_eq_true rfl) ?_
    exact lw_ret hx hb hr hlocks hd
  have key := vL_law_b18 hXs hC hR 5000 0 M0 hN
  refine key H4 [] ls hPx hSx ?_
  have e0 : ad 0 = q0 := by rw [had 0 (by omega), e30]
  have e1 : ad 154 = q1 := by rw [had 154 (by omega), e3154]
  show lv_has ls 4 [(0, .ref (ad 2000)), (1, .ref (ad 0)), (2, .ref (ad 154)), (3, .int 0)]
  rw [e0, e1]
  exact lv_sub hl [3, 2, 1, 0] rfl
