/-! PURE: small numbers, the memory -/
theorem li (n : Nat) : (OfNat.ofNat n : Int32) = nI n := rfl
theorem i_lt0 {n : Nat} (h : n < 2147483648) : (nI n < 0) = False := eq_false (nI_pos h)
theorem i_cl {n : Nat} (h : n < 2147483648) : (nI n).toNatClampNeg = n := nI_clamp h
theorem i_le {a b : Nat} (ha : a < 2147483648) (hb : b < 2147483648) : (nI a ≤ nI b) = (a ≤ b) := propext (nI_leI ha hb)
theorem i_lt {a b : Nat} (ha : a < 2147483648) (hb : b < 2147483648) : (nI a < nI b) = (a < b) := propext (nI_ltI ha hb)
theorem i_eq {a b : Nat} (ha : a < 2147483648) (hb : b < 2147483648) : (nI a = nI b) = (a = b) := propext (nI_eq ha hb)
theorem i_ll {k n : Nat} (hk : OfNat.ofNat k < 2147483648) (hn : n < 2147483648) : ((no_index (OfNat.ofNat k) : Int32) ≤ nI n) = (OfNat.ofNat k ≤ n) := i_le hk hn
theorem i_lr {k n : Nat} (hk : OfNat.ofNat k < 2147483648) (hn : n < 2147483648) : (nI n ≤ (no_index (OfNat.ofNat k) : Int32)) = (n ≤ OfNat.ofNat k) := i_le hn hk
theorem i_tl {k n : Nat} (hk : OfNat.ofNat k < 2147483648) (hn : n < 2147483648) : ((no_index (OfNat.ofNat k) : Int32) < nI n) = (OfNat.ofNat k < n) := i_lt hk hn
theorem i_tr {k n : Nat} (hk : OfNat.ofNat k < 2147483648) (hn : n < 2147483648) : (nI n < (no_index (OfNat.ofNat k) : Int32)) = (n < OfNat.ofNat k) := i_lt hn hk
theorem i_el {k n : Nat} (hk : OfNat.ofNat k < 2147483648) (hn : n < 2147483648) : ((no_index (OfNat.ofNat k) : Int32) = nI n) = (OfNat.ofNat k = n) := i_eq hk hn
theorem i_er {k n : Nat} (hk : OfNat.ofNat k < 2147483648) (hn : n < 2147483648) : (nI n = (no_index (OfNat.ofNat k) : Int32)) = (n = OfNat.ofNat k) := i_eq hn hk
theorem i_al {k n : Nat} : (no_index (OfNat.ofNat k) : Int32) + nI n = nI (OfNat.ofNat k + n) := nI_add k n
theorem i_ar {k n : Nat} : nI n + (no_index (OfNat.ofNat k) : Int32) = nI (n + OfNat.ofNat k) := nI_add n k
theorem i_sr {k n : Nat} (h : OfNat.ofNat k ≤ n) : nI n - (no_index (OfNat.ofNat k) : Int32) = nI (n - OfNat.ofNat k) := pk_sub h
theorem i_sl {k n : Nat} (h : n ≤ OfNat.ofNat k) : (no_index (OfNat.ofNat k) : Int32) - nI n = nI (OfNat.ofNat k - n) := pk_sub h
theorem i_ml {k n : Nat} : (no_index (OfNat.ofNat k) : Int32) * nI n = nI (OfNat.ofNat k * n) := pk_mul k n
theorem i_mr {k n : Nat} : nI n * (no_index (OfNat.ofNat k) : Int32) = nI (n * OfNat.ofNat k) := pk_mul n k
theorem i_cll {k : Nat} (h : OfNat.ofNat k < 2147483648) : (no_index (OfNat.ofNat k) : Int32).toNatClampNeg = OfNat.ofNat k := nI_clamp h
theorem i_kk {k n : Nat} (hk : OfNat.ofNat k < 2147483648) (hn : OfNat.ofNat n < 2147483648) : ((no_index (OfNat.ofNat k) : Int32) = (no_index (OfNat.ofNat n) : Int32)) = ((OfNat.ofNat k : Nat) = OfNat.ofNat n) := i_eq hk hn
theorem i_dr {k n : Nat} (hn : n < 2147483648) (h0 : 0 < OfNat.ofNat k) (hk : OfNat.ofNat k < 2147483648) : nI n / (no_index (OfNat.ofNat k) : Int32) = nI (n / OfNat.ofNat k) := pk_div hn h0 hk
theorem i_dd {a b : Nat} (ha : a < 2147483648) (h0 : 0 < b) (hb : b < 2147483648) : nI a / nI b = nI (a / b) := pk_div ha h0 hb
theorem i_sub {a b : Nat} (h : b ≤ a) : nI a - nI b = nI (a - b) := pk_sub h
/-- any int: below 0, beyond n, or a number below n -/
theorem i3 (x : Int32) {n : Nat} (hn : n < 2147483648) : x < 0 ∨ nI n ≤ x ∨ ∃ j : Nat, j < n ∧ x = nI j := pk_ix x hn
theorem up_s {M : xMem} {b i : Nat} {v : Int32} : upM M b i v b i = v := by simp [upM]
theorem up_b {M : xMem} {b c i : Nat} {v : Int32} (h : c ≠ b) : upM M b i v c = M c := by
  funext j
  simp [upM, h]
theorem up_i {M : xMem} {b i j : Nat} {v : Int32} (h : j ≠ i) : upM M b i v b j = M b j := by simp [upM, h]
theorem up_row {M : xMem} {b i : Nat} {v : Int32} : upM M b i v b = upd (M b) i v := by
  funext j
  simp [upM, upd]
theorem ud_s {f : Nat → Int32} {i : Nat} {v : Int32} : upd f i v i = v := if_pos rfl
theorem ud_n {f : Nat → Int32} {i j : Nat} {v : Int32} (h : j ≠ i) : upd f i v j = f j := if_neg h
theorem ud_id {f : Nat → Int32} {i : Nat} : upd f i (f i) = f := by
  funext j
  unfold upd
  by_cases h : j = i
  · rw [if_pos h, h]
  · rw [if_neg h]
/-- off the blocks of S nothing has changed -/
def Off (S : List Nat) (M N : xMem) : Prop := ∀ b, b ∉ S → N b = M b
theorem Off.rf {S : List Nat} {M : xMem} : Off S M M := fun _ _ => rfl
theorem Off.tr {S : List Nat} {M N K : xMem} (h : Off S M N) (g : Off S N K) : Off S M K := fun b hb => (g b hb).trans (h b hb)
theorem Off.up {S : List Nat} {M : xMem} {b i : Nat} {v : Int32} (h : b ∈ S) : Off S M (upM M b i v) := fun c hc => up_b (fun e => hc (e ▸ h))
theorem Off.up' {S : List Nat} {M N : xMem} {b i : Nat} {v : Int32} (g : Off S M N) (h : b ∈ S) : Off S M (upM N b i v) := g.tr (Off.up h)
theorem Off.mono {S T : List Nat} {M N : xMem} (h : Off S M N) (hs : ∀ b ∈ S, b ∈ T) : Off T M N := fun b hb => h b fun q => hb (hs b q)
def b2i (c : Prop) [Decidable c] : Int32 := if c then 1 else 0
theorem b2i_t {c : Prop} [Decidable c] (h : c) : b2i c = 1 := if_pos h
theorem b2i_f {c : Prop} [Decidable c] (h : ¬ c) : b2i c = 0 := if_neg h
theorem b2i_0 {c : Prop} [Decidable c] : (b2i c = 0) = ¬ c := by
  by_cases h : c
  · rw [b2i_t h]; simp [h]
  · rw [b2i_f h]; simp [h]
theorem b2i_01 {c : Prop} [Decidable c] : (b2i c = 0 ∨ b2i c = 1) = True := by
  by_cases h : c
  · rw [b2i_t h]; simp
  · rw [b2i_f h]; simp
/-! rows: the bounds of their places -/
def bd (k : Nat) : Option Nat :=
  if k < 196 then some 3 else if k < 208 then some 1 else if k < 220 then some 195 else if k < 232 then some 4 else if k < 241 then some 99 else if k < 244 then some 0
  else if k < 253 then some 99 else if k < 256 then some 0 else if k < 265 then some 0 else if k < 274 then some 1 else if k < 280 then some 196 else if k < 286 then some 999
  else if k < 298 then some 99 else if k < 304 then some 1 else if k < 308 then some 9999 else if k < 328 then none else if k = 328 then some 7 else if k = 329 then some 255
  else if k = 330 then some 65535 else some 0
theorem bd_there : ∀ l, l < 12 → bd (196 + l) = some 1 := by decide
theorem bd_lsq : ∀ l, l < 12 → bd (208 + l) = some 195 := by decide
theorem bd_kind : ∀ l, l < 12 → bd (220 + l) = some 4 := by decide
theorem bd_paid : ∀ l, l < 9 → bd (232 + l) = some 99 := by decide
theorem bd_paid0 : ∀ l, l < 12 → 9 ≤ l → bd (232 + l) = some 0 := by decide
theorem bd_dog : ∀ l, l < 9 → bd (244 + l) = some 99 := by decide
theorem bd_dog0 : ∀ l, l < 12 → 9 ≤ l → bd (244 + l) = some 0 := by decide
theorem bd_str0 : ∀ l, l < 9 → bd (256 + l) = some 0 := by decide
theorem bd_str : ∀ l, l < 12 → 9 ≤ l → bd (256 + l) = some 1 := by decide
theorem bd_told : ∀ l, l < 6 → bd (268 + l) = some 1 := by decide
theorem bd_sq : ∀ l, l < 6 → bd (274 + l) = some 196 := by decide
theorem bd_cat : ∀ l, l < 6 → bd (280 + l) = some 999 := by decide
theorem bd_thi : ∀ l, l < 6 → bd (286 + l) = some 99 := by decide
theorem bd_fear : ∀ l, l < 6 → bd (292 + l) = some 99 := by decide
theorem bd_fire : ∀ l, l < 6 → bd (298 + l) = some 1 := by decide
theorem bd_coin : ∀ l, l < 4 → bd (304 + l) = some 9999 := by decide
theorem bd_led : ∀ l, l < 19 → bd (308 + l) = none := by decide
theorem bd_sort {q : Nat} (h : q < 196) : bd q = some 3 := if_pos h
theorem bd_out {k : Nat} (hk : 331 ≤ k) : bd k = some 0 := by
  unfold bd
  repeat rw [if_neg (by omega)]
def RowOk (R : Nat → Int32) : Prop := ∀ k m, bd k = some m → ∃ j, j ≤ m ∧ R k = nI j
theorem RowOk.at {R : Nat → Int32} (h : RowOk R) {k m : Nat} (hb : bd k = some m) : ∃ j, j ≤ m ∧ R k = nI j := h k m hb
theorem RowOk.upd {R : Nat → Int32} (h : RowOk R) {k : Nat} {v : Int32} (hv : ∀ m, bd k = some m → ∃ j, j ≤ m ∧ v = nI j) : RowOk (upd R k v) := by
  intro k' m hb
  unfold _root_.Jvm.Pilot.CStarHerdsLaw_law_r6328_6f8902.upd
  by_cases e : k' = k
  · rw [if_pos e]; rw [e] at hb; exact hv m hb
  · rw [if_neg e]; exact h k' m hb
section BD
variable {R : Nat → Int32} (h : RowOk R)
theorem RowOk.sort (h : RowOk R) {q : Nat} (hq : q < 196) : ∃ j, j ≤ 3 ∧ R q = nI j := h.at (bd_sort hq)
theorem RowOk.there (h : RowOk R) {l : Nat} (hl : l < 12) : R (196 + l) = 0 ∨ R (196 + l) = 1 := by
  obtain ⟨j, hj, e⟩ := h.at (k := 196 + l) (m := 1) (bd_there _ hl)
  rw [e]
  rcases (show j = 0 ∨ j = 1 by omega) with rfl | rfl
  · exact Or.inl rfl
  · exact Or.inr rfl
theorem RowOk.lampSq (h : RowOk R) {l : Nat} (hl : l < 12) : ∃ j, j ≤ 195 ∧ R (208 + l) = nI j := h.at (bd_lsq _ hl)
theorem RowOk.kind (h : RowOk R) {l : Nat} (hl : l < 12) : ∃ j, j ≤ 4 ∧ R (220 + l) = nI j := h.at (bd_kind _ hl)
theorem RowOk.paid (h : RowOk R) {l : Nat} (hl : l < 12) : ∃ j, j ≤ 99 ∧ R (232 + l) = nI j := by
  by_cases h9 : l < 9
  · exact h.at (bd_paid _ h9)
  · obtain ⟨j, hj, e⟩ := h.at (k := 232 + l) (m := 0) (bd_paid0 _ hl (by omega))
    exact ⟨j, by omega, e⟩
theorem RowOk.paid0 (h : RowOk R) {l : Nat} (h9 : 9 ≤ l) (hl : l < 12) : R (232 + l) = 0 := by
  obtain ⟨j, hj, e⟩ := h.at (k := 232 + l) (m := 0) (bd_paid0 _ hl h9)
  rw [e, show j = 0 by omega]; rfl
theorem RowOk.dog (h : RowOk R) {l : Nat} (hl : l < 12) : ∃ j, j ≤ 99 ∧ R (244 + l) = nI j := by
  by_cases h9 : l < 9
  · exact h.at (bd_dog _ h9)
  · obtain ⟨j, hj, e⟩ := h.at (k := 244 + l) (m := 0) (bd_dog0 _ hl (by omega))
    exact ⟨j, by omega, e⟩
theorem RowOk.dog0 (h : RowOk R) {l : Nat} (h9 : 9 ≤ l) (hl : l < 12) : R (244 + l) = 0 := by
  obtain ⟨j, hj, e⟩ := h.at (k := 244 + l) (m := 0) (bd_dog0 _ hl h9)
  rw [e, show j = 0 by omega]; rfl
theorem RowOk.stray0 (h : RowOk R) {l : Nat} (hl : l < 9) : R (256 + l) = 0 := by
  obtain ⟨j, hj, e⟩ := h.at (k := 256 + l) (m := 0) (bd_str0 _ hl)
  rw [e, show j = 0 by omega]; rfl
theorem RowOk.stray (h : RowOk R) {l : Nat} (hl : l < 12) : R (256 + l) = 0 ∨ R (256 + l) = 1 := by
  by_cases h9 : l < 9
  · exact Or.inl (h.stray0 h9)
  · obtain ⟨j, hj, e⟩ := h.at (k := 256 + l) (m := 1) (bd_str _ hl (by omega))
    rw [e]
    rcases (show j = 0 ∨ j = 1 by omega) with rfl | rfl
    · exact Or.inl rfl
    · exact Or.inr rfl
theorem RowOk.told (h : RowOk R) {i : Nat} (hi : i < 6) : R (268 + i) = 0 ∨ R (268 + i) = 1 := by
  obtain ⟨j, hj, e⟩ := h.at (k := 268 + i) (m := 1) (bd_told _ hi)
  rw [e]
  rcases (show j = 0 ∨ j = 1 by omega) with rfl | rfl
  · exact Or.inl rfl
  · exact Or.inr rfl
theorem RowOk.sq (h : RowOk R) {i : Nat} (hi : i < 6) : ∃ j, j ≤ 196 ∧ R (274 + i) = nI j := h.at (bd_sq _ hi)
theorem RowOk.cattle (h : RowOk R) {i : Nat} (hi : i < 6) : ∃ j, j ≤ 999 ∧ R (280 + i) = nI j := h.at (bd_cat _ hi)
theorem RowOk.thirst (h : RowOk R) {i : Nat} (hi : i < 6) : ∃ j, j ≤ 99 ∧ R (286 + i) = nI j := h.at (bd_thi _ hi)
theorem RowOk.fear (h : RowOk R) {i : Nat} (hi : i < 6) : ∃ j, j ≤ 99 ∧ R (292 + i) = nI j := h.at (bd_fear _ hi)
theorem RowOk.fire (h : RowOk R) {i : Nat} (hi : i < 6) : R (298 + i) = 0 ∨ R (298 + i) = 1 := by
  obtain ⟨j, hj, e⟩ := h.at (k := 298 + i) (m := 1) (bd_fire _ hi)
  rw [e]
  rcases (show j = 0 ∨ j = 1 by omega) with rfl | rfl
  · exact Or.inl rfl
  · exact Or.inr rfl
theorem RowOk.coin (h : RowOk R) {i : Nat} (hi : i < 4) : ∃ j, j ≤ 9999 ∧ R (304 + i) = nI j := h.at (bd_coin _ hi)
theorem RowOk.hour (h : RowOk R) : ∃ j, j ≤ 7 ∧ R 328 = nI j := h.at rfl
theorem RowOk.clouds (h : RowOk R) : ∃ j, j ≤ 255 ∧ R 329 = nI j := h.at rfl
theorem RowOk.lot (h : RowOk R) : ∃ j, j ≤ 65535 ∧ R 330 = nI j := h.at rfl
theorem RowOk.out (h : RowOk R) {k : Nat} (hk : 331 ≤ k) : R k = 0 := by
  obtain ⟨j, hj, e⟩ := h.at (k := k) (m := 0) (bd_out hk)
  rw [e, show j = 0 by omega]; rfl
end BD
