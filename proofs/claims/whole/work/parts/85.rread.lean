/-! PURE: the reference reads sums -/
def U : Nat := 1048576
def pk (i : Ins) : Int32 := nI (U * i.1 + i.2)
def WtL (Q : Nat → Int32) : List Ins → Prop
  | [] => True
  | i :: w => Q w.length = pk i ∧ WtL Q w
def RdL (P : Nat → Int32) : Nat → List Ins → Prop
  | _, [] => True
  | s, i :: l => P s = pk i ∧ RdL P (s + 1) l
theorem RdL_app {P : Nat → Int32} : ∀ (l1 l2 : List Ins) (s : Nat), RdL P s (l1 ++ l2) ↔ RdL P s l1 ∧ RdL P (s + l1.length) l2
  | [], l2, s => ⟨fun h => ⟨trivial, h⟩, fun h => h.2⟩
  | i :: l1, l2, s => by
    have ih := RdL_app (P := P) l1 l2 (s + 1)
    show (_ ∧ RdL P (s + 1) (l1 ++ l2)) ↔ (_ ∧ RdL P (s + 1) l1) ∧ RdL P (s + (l1.length + 1)) l2
    rw [ih, show s + 1 + l1.length = s + (l1.length + 1) by omega]
    exact ⟨fun ⟨a, c, d⟩ => ⟨⟨a, c⟩, d⟩, fun ⟨⟨a, c⟩, d⟩ => ⟨a, c, d⟩⟩
theorem RdL_fr {P P' : Nat → Int32} : ∀ (l : List Ins) (s : Nat), RdL P s l → (∀ i, s ≤ i → i < s + l.length → P' i = P i) → RdL P' s l
  | [], _, _, _ => trivial
  | i :: l, s, h, e => ⟨(e s (Nat.le_refl _) (by simp)).trans h.1, RdL_fr l (s + 1) h.2 fun j h1 h2 => e j (by omega) (by simp; omega)⟩
theorem WtL_fr {Q Q' : Nat → Int32} : ∀ (w : List Ins), WtL Q w → (∀ i, i < w.length → Q' i = Q i) → WtL Q' w
  | [], _, _ => trivial
  | i :: w, h, e => ⟨(e w.length (by simp)).trans h.1, WtL_fr w h.2 fun j hj => e j (by simp; omega)⟩
/-- entries that can be told apart again -/
def small (i : Ins) : Prop := i.1 < 16 ∧ i.2 < 1048576
theorem pk_div20 {i : Ins} (h : small i) : pk i / 1048576 = nI i.1 := by
  obtain ⟨h1, h2⟩ := h
  unfold pk U
  rw [show nI (1048576 * i.1 + i.2) / 1048576 = nI ((1048576 * i.1 + i.2) / 1048576) from pk_div (by omega) (by decide) (by decide)]
  congr 1
  omega
theorem pk_rem20 {i : Ins} (h : small i) : pk i - pk i / 1048576 * 1048576 = nI i.2 := by
  obtain ⟨h1, h2⟩ := h
  unfold pk U
  rw [show nI (1048576 * i.1 + i.2) - nI (1048576 * i.1 + i.2) / 1048576 * 1048576 = nI ((1048576 * i.1 + i.2) % 1048576) from pk_rem (by omega) (by decide) (by decide)]
  congr 1
  omega
def RB : List Nat := [165, 167, 168, 169, 170, 172, 174, 175]
def ROk (T : Nat → Nat) (n : Nat) (M : xMem) (p o c : Nat) (w : List Ins) : Prop :=
  M 165 0 = nI p ∧ M 166 0 = nI n ∧ M 168 0 = nI o ∧ M 169 0 = nI c ∧ M 170 0 = nI w.length ∧ WtL (M 175) w ∧ (∀ x ∈ w, small x) ∧ ∀ i, i < 260 → M 163 i &&& 255 = nI (T i)
theorem ROk.fr {T : Nat → Nat} {n p o c : Nat} {w : List Ins} {M K : xMem} (h : ROk T n M p o c w) {S : List Nat} (oo : Off S M K) (hS : ∀ b ∈ [165, 166, 168, 169, 170, 175, 163], b ∉ S) : ROk T n K p o c w := by
  obtain ⟨h1, h2, h3, h4, h5, h6, h7, h8⟩ := h
  have e : ∀ b ∈ [165, 166, 168, 169, 170, 175, 163], K b = M b := fun b hb => oo b (hS b hb)
  exact ⟨by rw [e 165 (by decide), h1], by rw [e 166 (by decide), h2], by rw [e 168 (by decide), h3], by rw [e 169 (by decide), h4], by rw [e 170 (by decide), h5], by rw [e 175 (by decide)]; exact h6, h7, fun i hi => by rw [e 163 (by decide)]; exact h8 i hi⟩
theorem here_eq {T : Nat → Nat} {n p o c : Nat} {w : List Ins} (hT : Txt T n) {M : xMem} (h : ROk T n M p o c w) (hp : p ≤ n) : g9_here M = some (sgI T n p, M) := by
  have hn := hT.1
  obtain ⟨h1, h2, h3, h4, h5, h6, h7, h8⟩ := h
  unfold g9_here
  rw [h1, h2]
  by_cases q : p < n
  · rw [if_neg (fun r => by have := (nI_leI (by omega) (by omega)).mp r; omega), sgI_nI q]
    simp (disch := omega) only [↓reduceIte, i_lt0, i_cl, nle_f, or_self]
    rw [h8 p (by omega)]
  · rw [if_pos ((nI_leI (by omega) (by omega)).mpr (by omega)), sgI_m1 q]
theorem ROk.wrong {T : Nat → Nat} {n p o c k : Nat} {a : Int32} (ha : a = nI k) {w : List Ins} {M : xMem} (h : ROk T n M p o c w) : ∃ K, g9_wrongAt a (M 165 0) M = some (0, K) ∧ K 167 0 = flt k p ∧ Off RB M K := by
  unfold g9_wrongAt
  rw [mset_eq, h.1, ha]
  exact ⟨_, rfl, up_s, Off.up (by decide)⟩
theorem isDigit_eq {T : Nat → Nat} {n p o c : Nat} {w : List Ins} (hT : Txt T n) {M : xMem} (h : ROk T n M p o c w) (hp : p ≤ n) : g9_isDigit M = some (b2i (dig T n p = true), M) := by
  have e := here_eq hT h hp
  unfold g9_isDigit
  rw [bs e]
  by_cases q : dig T n p = true
  · obtain ⟨d1, d2, -, -⟩ := (sg_dig hT).1 q
    rw [if_neg d1, bs e, if_neg d2, b2i_t q]
  · rw [b2i_f q]
    rcases (sg_dig hT).2 q with d | ⟨d1, d2⟩
    · rw [if_pos d]
    · rw [if_neg d1, bs e, if_pos d2]
theorem notes_eq {T : Nat → Nat} {n p o c : Nat} {w : List Ins} {M : xMem} (h : ROk T n M p o c w) (hc : c < 260) (i : Ins) {a b : Int32} (ha : a = nI i.1) (hb : b = nI i.2) : ∃ K, g9_notes a b M = some K ∧ ROk T n K p o (c + 1) w ∧ K 174 = upd (M 174) c (pk i) ∧ Off [174, 169] M K := by
  obtain ⟨h1, h2, h3, h4, h5, h6, h7, h8⟩ := h
  unfold g9_notes
  rw [h4, ha, hb]
  simp (disch := omega) only [↓reduceIte, mset_eq, i_lt0, i_cl, nle_f, or_self]
  rw [show (1048576 : Int32) * nI i.1 + nI i.2 = pk i by
    unfold pk U
    rw [show (1048576 : Int32) = nI 1048576 from rfl, pk_mul, nI_add]]
  rw [up_b (show (169 : Nat) ≠ 174 by decide), h4, nI_1]
  have oo : Off [174, 169] M (upM (upM M 174 c (pk i)) 169 0 (nI (c + 1))) := (Off.up (by decide)).up' (by decide)
  refine ⟨_, rfl, ⟨by rw [oo 165 (by decide), h1], by rw [oo 166 (by decide), h2], by rw [oo 168 (by decide), h3], up_s, by rw [oo 170 (by decide), h5], by rw [oo 175 (by decide)]; exact h6, h7, fun j hj => by rw [oo 163 (by decide)]; exact h8 j hj⟩, ?_, oo⟩
  rw [up_b (by decide), up_row]
theorem ROk.step {T : Nat → Nat} {n p o c : Nat} {w : List Ins} {M : xMem} (h : ROk T n M p o c w) : ROk T n (upM M 165 0 (M 165 0 + 1)) (p + 1) o c w := by
  obtain ⟨h1, h2, h3, h4, h5, h6, h7, h8⟩ := h
  have oo : Off [165] M (upM M 165 0 (M 165 0 + 1)) := Off.up (by decide)
  exact ⟨by rw [up_s, h1, nI_1], by rw [oo 166 (by decide), h2], by rw [oo 168 (by decide), h3], by rw [oo 169 (by decide), h4], by rw [oo 170 (by decide), h5], by rw [oo 175 (by decide)]; exact h6, h7, fun j hj => by rw [oo 163 (by decide)]; exact h8 j hj⟩
theorem ROk.push {T : Nat → Nat} {n p o c : Nat} {w : List Ins} {M : xMem} (h : ROk T n M p o c w) {i : Ins} (hi : small i) {v : Int32} (hv : v = pk i) : ROk T n (upM (upM M 175 w.length v) 170 0 (M 170 0 + 1)) p o c (i :: w) := by
  subst hv
  obtain ⟨h1, h2, h3, h4, h5, h6, h7, h8⟩ := h
  have oo : Off [170, 175] M (upM (upM M 175 w.length (pk i)) 170 0 (M 170 0 + 1)) := (Off.up (by decide)).up' (by decide)
  refine ⟨by rw [oo 165 (by decide), h1], by rw [oo 166 (by decide), h2], by rw [oo 168 (by decide), h3], by rw [oo 169 (by decide), h4], by rw [up_s, h5, nI_1]; rfl, ⟨?_, ?_⟩, ?_, fun j hj => by rw [oo 163 (by decide)]; exact h8 j hj⟩
  · rw [up_b (by decide), up_s]
  · refine WtL_fr w h6 fun j hj => ?_
    rw [up_b (by decide), up_i (by omega)]
  · intro x hx
    rcases List.mem_cons.mp hx with q | q
    · rw [q]; exact hi
    · exact h7 x q
theorem ROk.pop {T : Nat → Nat} {n p o c : Nat} {w : List Ins} {i : Ins} {M : xMem} (h : ROk T n M p o c (i :: w)) : ROk T n (upM M 170 0 (M 170 0 - 1)) p o c w := by
  obtain ⟨h1, h2, h3, h4, h5, h6, h7, h8⟩ := h
  have oo : Off [170] M (upM M 170 0 (M 170 0 - 1)) := Off.up (by decide)
  refine ⟨by rw [oo 165 (by decide), h1], by rw [oo 166 (by decide), h2], by rw [oo 168 (by decide), h3], by rw [oo 169 (by decide), h4], ?_, by rw [oo 175 (by decide)]; exact h6.2, fun x hx => h7 x (List.mem_cons_of_mem _ hx), fun j hj => by rw [oo 163 (by decide)]; exact h8 j hj⟩
  rw [up_s, h5]
  exact nI_pred w.length
theorem ROk.opn {T : Nat → Nat} {n p o c o' : Nat} {w : List Ins} {M : xMem} (h : ROk T n M p o c w) {v : Int32} (hv : v = nI o') : ROk T n (upM M 168 0 v) p o' c w := by
  obtain ⟨h1, h2, h3, h4, h5, h6, h7, h8⟩ := h
  have oo : Off [168] M (upM M 168 0 v) := Off.up (by decide)
  exact ⟨by rw [oo 165 (by decide), h1], by rw [oo 166 (by decide), h2], by rw [up_s, hv], by rw [oo 169 (by decide), h4], by rw [oo 170 (by decide), h5], by rw [oo 175 (by decide)]; exact h6, h7, fun j hj => by rw [oo 163 (by decide)]; exact h8 j hj⟩
def tpI : List Ins → Int32
  | [] => -1
  | i :: _ => nI i.1
theorem top_eq {T : Nat → Nat} {n p o c : Nat} {w : List Ins} {M : xMem} (h : ROk T n M p o c w) (hw : w.length ≤ 259) : g9_waitTop M = some (tpI w, M) := by
  obtain ⟨h1, h2, h3, h4, h5, h6, h7, h8⟩ := h
  unfold g9_waitTop
  rw [h5]
  cases w with
  | nil => rw [if_pos (show nI ([] : List Ins).length = 0 from nI_0)]; rfl
  | cons i w =>
    have hl : (i :: w).length = w.length + 1 := rfl
    rw [hl] at hw
    rw [hl, if_neg (nI_ne0 (by omega) (by omega)), nI_pred]
    simp (disch := omega) only [↓reduceIte, i_lt0, i_cl, nle_f, or_self]
    rw [h6.1, pk_div20 (h7 i (List.mem_cons_self ..))]
    rfl
/-- sums' signs on top are noted -/
def arith (l : List Ins) (lo : Nat) : Prop := ∀ x ∈ l, lo ≤ x.1 ∧ x.1 ≤ 6 ∧ x.2 = 0
theorem closes_b {T : Nat → Nat} {n p o : Nat} {all : Bool} : ∀ (O : List Ins) (w : List Ins) (c f : Nat) (M : xMem), O.length < f → arith O (if all = true then 2 else 4) → (O ++ w).length ≤ 250 → c + O.length ≤ 250 → ROk T n M p o c (O ++ w) → (∀ i w', w = i :: w' → ¬ ((if all = true then 2 else 4) ≤ i.1 ∧ i.1 ≤ 6)) →
    ∃ K, g9_closesSums_b0 f (if all = true then 1 else 0) M = some K ∧ ROk T n K p o (c + O.length) w ∧ RdL (K 174) c O ∧ (∀ i, i < c → K 174 i = M 174 i) ∧ Off [174, 169, 170] M K
  | [], w, c, f + 1, M, hf, ha, hl, hc, h, hw => by
    have ht := top_eq h (by simp at hl ⊢; omega)
    refine ⟨M, ?_, h, trivial, fun _ _ => rfl, Off.rf⟩
    have h2 : (([] : List Ins) ++ w) = w := rfl
    rw [h2] at ht
    unfold g9_closesSums_b0 g9_closesSums_b17
    rw [bs ht]
    cases w with
    | nil =>
      rw [if_pos (show tpI [] < 4 by decide)]
      cases all
      · rw [if_pos (by decide)]
      · rw [if_neg (by decide), bs ht, if_neg (show ¬ tpI [] = 2 by decide), bs ht, if_neg (show ¬ tpI [] = 3 by decide)]
    | cons i w' =>
      have hi := h.2.2.2.2.2.2.1 i (by simp)
      have nw := hw i w' rfl
      have e : tpI (i :: w') = nI i.1 := rfl
      have hs := hi.1
      rw [e] at ht ⊢
      have k17 : g9_closesSums_b17 (g9_closesSums_b0 f) (if all = true then 1 else 0) M = some M := by
        unfold g9_closesSums_b17
        cases all
        · rw [if_pos (by decide)]
        · rw [if_pos rfl] at nw
          rw [if_neg (by decide), bs ht, if_neg (fun q => by have := (nI_eq (b := 2) (by omega) (by omega)).mp q; omega), bs ht, if_neg (fun q => by have := (nI_eq (b := 3) (by omega) (by omega)).mp q; omega)]
      unfold g9_closesSums_b17 at k17
      by_cases c1 : nI i.1 < 4
      · rw [if_pos c1]; exact k17
      · rw [if_neg c1, bs ht]
        have : ¬ nI i.1 ≤ 6 := fun q => by
          have a1 := (nI_leI (b := 6) (by omega) (by omega)).mp q
          have a2 : ¬ i.1 < 4 := fun r => c1 ((nI_ltI (b := 4) (by omega) (by omega)).mpr r)
          cases all
          · rw [if_neg (by decide)] at nw; omega
          · rw [if_pos rfl] at nw; omega
        rw [if_neg this]
        exact k17
  | i :: O, w, c, f + 1, M, hf, ha, hl, hc, h, hw => by
    have hl' : (i :: (O ++ w)).length ≤ 250 := hl
    have hlen : (i :: (O ++ w)).length = (O ++ w).length + 1 := rfl
    rw [hlen] at hl'
    have h' : ROk T n M p o c (i :: (O ++ w)) := h
    have ht := top_eq h' (by rw [hlen]; omega)
    have e : tpI (i :: (O ++ w)) = nI i.1 := rfl
    rw [e] at ht
    obtain ⟨a1, a2, a3⟩ := ha i (List.mem_cons_self ..)
    obtain ⟨K1, n1, n2, n3, n4⟩ := notes_eq h' (show c < 260 by simp at hc; omega) i (a := nI i.1) (b := 0) rfl (by rw [a3]; rfl)
    have p1 := n2.pop
    have o1 : Off [174, 169, 170] M (upM K1 170 0 (K1 170 0 - 1)) := (n4.mono (by decide)).up' (by decide)
    have r174 : (upM K1 170 0 (K1 170 0 - 1)) 174 = upd (M 174) c (pk i) := by rw [up_b (by decide), n3]
    generalize hK : upM K1 170 0 (K1 170 0 - 1) = K2 at p1 o1 r174
    have hclen : (i :: O).length = O.length + 1 := rfl
    rw [hclen] at hc hf
    obtain ⟨K, e1, k1, k2, k3, k4⟩ := closes_b (all := all) O w (c + 1) f K2 (by omega) (fun x hx => ha x (List.mem_cons_of_mem _ hx)) (by omega) (by omega) p1 hw
    have step : g9_closesSums_b37 (g9_closesSums_b0 f) (if all = true then 1 else 0) M = some K := by
      unfold g9_closesSums_b37
      rw [bs ht, bs n1, mset_eq, hK]
      exact e1
    refine ⟨K, ?_, by rw [hclen, show c + (O.length + 1) = c + 1 + O.length by omega]; exact k1, ⟨by rw [k3 c (by omega), r174, ud_s], k2⟩, fun j hj => by rw [k3 j (by omega), r174, ud_n (by omega)], o1.tr k4⟩
    unfold g9_closesSums_b0
    rw [bs ht]
    by_cases c1 : nI i.1 < 4
    · rw [if_pos c1]
      have a4 : i.1 < 4 := (nI_ltI (b := 4) (by omega) (by omega)).mp c1
      cases all
      · rw [if_neg (by decide)] at a1; omega
      · rw [if_pos rfl] at a1
        unfold g9_closesSums_b17
        rw [if_neg (by decide), bs ht]
        by_cases c2 : nI i.1 = 2
        · rw [if_pos c2]; exact step
        · rw [if_neg c2, bs ht, if_pos (show nI i.1 = 3 by
            have : i.1 ≠ 2 := fun q => c2 (by rw [q]; rfl)
            rw [show i.1 = 3 by omega]; rfl)]
          exact step
    · rw [if_neg c1, bs ht, if_pos (show nI i.1 ≤ 6 from (nI_leI (b := 6) (by omega) (by omega)).mpr a2)]
      exact step
/-- what stands at a place of the waits -/
def opAt : List Ins → Nat → Nat
  | [], _ => 0
  | x :: w, i => if i = w.length then x.1 else opAt w i
theorem opAt_eq {Q : Nat → Int32} : ∀ (w : List Ins) (i : Nat), WtL Q w → (∀ x ∈ w, small x) → i < w.length → Q i / 1048576 = nI (opAt w i) ∧ opAt w i < 16
  | x :: w, i, h, hs, hi => by
    unfold opAt
    by_cases c : i = w.length
    · rw [if_pos c, c, h.1, pk_div20 (hs x (List.mem_cons_self ..))]
      exact ⟨rfl, (hs x (List.mem_cons_self ..)).1⟩
    · rw [if_neg c]
      exact opAt_eq w i h.2 (fun y hy => hs y (List.mem_cons_of_mem _ hy)) (by simp at hi; omega)
theorem opAt_app : ∀ (V w : List Ins) (i : Nat), w.length ≤ i → i < (V ++ w).length → ∃ x ∈ V, opAt (V ++ w) i = x.1
  | [], w, i, h1, h2 => absurd h2 (by simp; omega)
  | x :: V, w, i, h1, h2 => by
    show ∃ y ∈ x :: V, (if i = (V ++ w).length then x.1 else opAt (V ++ w) i) = y.1
    by_cases c : i = (V ++ w).length
    · exact ⟨x, List.mem_cons_self .., by rw [if_pos c]⟩
    · obtain ⟨y, hy, e⟩ := opAt_app V w i h1 (by simp at h2 c ⊢; omega)
      exact ⟨y, List.mem_cons_of_mem _ hy, by rw [if_neg c]; exact e⟩
theorem opAt_mid (V : List Ins) (x : Ins) (w : List Ins) : opAt (V ++ x :: w) w.length = x.1 := by
  induction V with
  | nil =>
    show (if w.length = w.length then x.1 else _) = x.1
    exact if_pos rfl
  | cons y V ih =>
    show (if w.length = (V ++ x :: w).length then y.1 else opAt (V ++ x :: w) w.length) = x.1
    rw [if_neg (by simp; omega)]
    exact ih
theorem hasOpen_0 {T : Nat → Nat} {n p o c : Nat} {w : List Ins} {M : xMem} (h : ROk T n M p o c w) (hw : w.length ≤ 250) : ∀ (d k f : Nat), k + d = w.length → d < f → (∀ i, k ≤ i → i < w.length → opAt w i ≠ 14) → g9_hasOpenSum_b2 f (nI k) M = some (0, M)
  | 0, k, f + 1, hk, hf, ha => by
    unfold g9_hasOpenSum_b2
    rw [h.2.2.2.2.1, if_pos ((nI_leI (by omega) (by omega)).mpr (by omega))]
  | d + 1, k, f + 1, hk, hf, ha => by
    unfold g9_hasOpenSum_b2
    obtain ⟨q, q2⟩ := opAt_eq w k h.2.2.2.2.2.1 h.2.2.2.2.2.2.1 (by omega)
    rw [h.2.2.2.2.1, if_neg (fun r => by have := (nI_leI (by omega) (by omega)).mp r; omega)]
    simp (disch := omega) only [↓reduceIte, i_lt0, i_cl, nle_f, or_self, nI_1]
    rw [q, if_neg (show ¬ nI (opAt w k) = 14 from fun r => ha k (Nat.le_refl _) (by omega) ((nI_eq (b := 14) (by omega) (by omega)).mp r))]
    exact hasOpen_0 h hw d (k + 1) f (by omega) (by omega) fun i h1 h2 => ha i (by omega) h2
theorem hasOpen_1 {T : Nat → Nat} {n p o c : Nat} {w : List Ins} {M : xMem} (h : ROk T n M p o c w) (hw : w.length ≤ 250) {j : Nat} (hj : j < w.length) (e : opAt w j = 14) : ∀ (d k f : Nat), k + d = j → d < f → g9_hasOpenSum_b2 f (nI k) M = some (1, M)
  | d, k, f + 1, hk, hf => by
    unfold g9_hasOpenSum_b2
    obtain ⟨q, q2⟩ := opAt_eq w k h.2.2.2.2.2.1 h.2.2.2.2.2.2.1 (by omega)
    rw [h.2.2.2.2.1, if_neg (fun r => by have := (nI_leI (by omega) (by omega)).mp r; omega)]
    simp (disch := omega) only [↓reduceIte, i_lt0, i_cl, nle_f, or_self, nI_1]
    rw [q]
    by_cases c1 : opAt w k = 14
    · rw [if_pos (by rw [c1]; rfl)]
    · rw [if_neg (show ¬ nI (opAt w k) = 14 from fun r => c1 ((nI_eq (b := 14) (by omega) (by omega)).mp r))]
      have : k ≠ j := fun r => c1 (by rw [r, e])
      obtain ⟨d', rfl⟩ : ∃ d', d = d' + 1 := ⟨d - 1, by omega⟩
      exact hasOpen_1 h hw hj e d' (k + 1) f (by omega) (by omega)
theorem rnum_b {T : Nat → Nat} {n o c : Nat} {w : List Ins} (hT : Txt T n) {M : xMem} {q0 : Nat} (hq : q0 ≤ n) : ∀ (k p x f : Nat) (N : xMem), p + k = q0 + 5 → k < f → p ≤ n → ROk T n N p o c w → N 172 0 = nI x → Off [165, 172] M N →
    match pNum T n k p x with
    | .inl e => ∃ K, g9_readsNumber_b10 f (nI q0) N = some (0, K) ∧ K 167 0 = e ∧ Off RB M K
    | .inr q => ∃ K, g9_readsNumber_b10 f (nI q0) N = some (1, K) ∧ ROk T n K q.1 o c w ∧ K 172 0 = nI q.2 ∧ Off [165, 172] M K
  | 0, p, x, f + 1, N, hpk, hf, hp, h, hx, oo => by
    unfold pNum g9_readsNumber_b10
    rw [bs (isDigit_eq hT h hp)]
    simp only [b2i_0]
    by_cases q : dig T n p = true
    · rw [if_pos q, if_neg (fun r => r q), h.1, if_pos (show nI p = nI q0 + 5 by rw [show (5 : Int32) = nI 5 from rfl, nI_add]; congr 1)]
      obtain ⟨K, e, e2, o2⟩ := h.wrong (k := 2) (a := 2) rfl
      rw [h.1] at e
      rw [bs e, if_pos (Or.inl rfl)]
      exact ⟨K, rfl, e2, (oo.mono (by decide)).tr o2⟩
    · rw [if_neg q, if_pos q]
      exact ⟨N, rfl, h, hx, oo⟩
  | k + 1, p, x, f + 1, N, hpk, hf, hp, h, hx, oo => by
    have hn := hT.1
    unfold pNum
    by_cases q : dig T n p = true
    · obtain ⟨d1, d2, d3, d4⟩ := (sg_dig hT).1 q
      have hlt := (dig_lt q).1
      rw [if_pos q]
      have hv : ((10 : Int32) * N 172 0 + sgI T n p) - 48 = nI (10 * x + (T p - 48)) := by
        rw [hx, d3, show (10 : Int32) = nI 10 from rfl, pk_mul, nI_add, show (48 : Int32) = nI 48 from rfl, i_sub (by omega), show 10 * x + T p - 48 = 10 * x + (T p - 48) by omega]
      have o1 : Off [172] N (upM N 172 0 (nI (10 * x + (T p - 48)))) := Off.up (by decide)
      have h1 := (h.fr o1 (by decide)).step
      have x1 : (upM (upM N 172 0 (nI (10 * x + (T p - 48)))) 165 0 ((upM N 172 0 (nI (10 * x + (T p - 48)))) 165 0 + 1)) 172 0 = nI (10 * x + (T p - 48)) := by rw [up_b (by decide), up_s]
      have o2 : Off [165, 172] M (upM (upM N 172 0 (nI (10 * x + (T p - 48)))) 165 0 ((upM N 172 0 (nI (10 * x + (T p - 48)))) 165 0 + 1)) := (oo.up' (by decide)).up' (by decide)
      have ih := rnum_b hT hq k (p + 1) (10 * x + (T p - 48)) f _ (by omega) (by omega) (by omega) h1 x1 o2
      have eg : g9_readsNumber_b10 (f + 1) (nI q0) N = g9_readsNumber_b10 f (nI q0) (upM (upM N 172 0 (nI (10 * x + (T p - 48)))) 165 0 ((upM N 172 0 (nI (10 * x + (T p - 48)))) 165 0 + 1)) := by
        rw [g9_readsNumber_b10, bs (isDigit_eq hT h hp), b2i_t q, if_neg (show ¬ (1 : Int32) = 0 by decide)]
        dsimp only
        rw [if_neg (show ¬ N 165 0 = nI q0 + 5 by
          rw [h.1, show (5 : Int32) = nI 5 from rfl, nI_add]
          exact fun r => by have := (nI_eq (by omega) (by omega)).mp r; omega), bs (here_eq hT h hp)]
        dsimp only
        rw [mset_eq, mset_eq, hv]
      rw [eg]
      exact ih
    · rw [if_neg q]
      unfold g9_readsNumber_b10
      rw [bs (isDigit_eq hT h hp), b2i_f q, if_pos rfl]
      exact ⟨N, rfl, h, hx, oo⟩
theorem letN_all : ∀ b, b < 256 → ∀ x : Int32, x = nI b → (if x = (99 : Int32) then (9 : Int32) else if x = 100 then 13 else if x = 101 then 5 else if x = 102 then -1 else if x = 103 then 8 else if x = 104 then 2 else if x = 105 then -1 else if x = 106 then -1 else if x = 107 then 12 else if x = 108 then 11 else if x = 109 then -1 else if x = 110 then 3 else if x = 111 then -1 else if x = 112 then 14 else if x = 113 then -1 else if x = 114 then 10 else if x = 115 then -1 else if x = 116 then 4 else if x = 117 then 0 else if x = 118 then 1 else if x = 119 then -1 else if x = 120 then 6 else if x = 121 then 7 else -1) = ansI 15 (letN b) := by
  have h : ∀ b, b < 256 → (if nI b = (99 : Int32) then (9 : Int32) else if nI b = 100 then 13 else if nI b = 101 then 5 else if nI b = 102 then -1 else if nI b = 103 then 8 else if nI b = 104 then 2 else if nI b = 105 then -1 else if nI b = 106 then -1 else if nI b = 107 then 12 else if nI b = 108 then 11 else if nI b = 109 then -1 else if nI b = 110 then 3 else if nI b = 111 then -1 else if nI b = 112 then 14 else if nI b = 113 then -1 else if nI b = 114 then 10 else if nI b = 115 then -1 else if nI b = 116 then 4 else if nI b = 117 then 0 else if nI b = 118 then 1 else if nI b = 119 then -1 else if nI b = 120 then 6 else if nI b = 121 then 7 else -1) = ansI 15 (letN b) := by decide +kernel
  intro b hb x hx
  subst hx
  exact h b hb
theorem itS {c : Prop} [Decidable c] {a b : Int32} {M : xMem} : (if c then some (a, M) else (some (b, M) : Option (Int32 × xMem))) = some (if c then a else b, M) := by
  by_cases h : c
  · rw [if_pos h, if_pos h]
  · rw [if_neg h, if_neg h]
theorem fact_eq {x : Int32} {M : xMem} : g9_factOf x M = some ((if x = (99 : Int32) then (9 : Int32) else if x = 100 then 13 else if x = 101 then 5 else if x = 102 then -1 else if x = 103 then 8 else if x = 104 then 2 else if x = 105 then -1 else if x = 106 then -1 else if x = 107 then 12 else if x = 108 then 11 else if x = 109 then -1 else if x = 110 then 3 else if x = 111 then -1 else if x = 112 then 14 else if x = 113 then -1 else if x = 114 then 10 else if x = 115 then -1 else if x = 116 then 4 else if x = 117 then 0 else if x = 118 then 1 else if x = 119 then -1 else if x = 120 then 6 else if x = 121 then 7 else -1), M) := by
  unfold g9_factOf
  simp only [itS]
theorem factSg {T : Nat → Nat} {n p : Nat} (hT : Txt T n) {M : xMem} : g9_factOf (sgI T n p) M = some (if p < n then ansI 15 (letN (T p)) else -1, M) := by
  rw [fact_eq]
  by_cases c : p < n
  · have := hT.2 p
    rw [letN_all (T p) (by omega) _ (sgI_nI c), if_pos c]
  · rw [sgI_m1 c, if_neg c]
    rfl
theorem sumSign_eq {T : Nat → Nat} {n p : Nat} (hT : Txt T n) {M : xMem} : g9_sumSign (sgI T n p) M = some (if addN T n p ≠ 0 then nI (addN T n p) else if mulN T n p ≠ 0 then nI (mulN T n p) else -1, M) := by
  unfold g9_sumSign
  rcases addN_cases (p := p) hT with ⟨m1, m2⟩ | ⟨m1, m2, m3⟩ | ⟨m1, m2, m3⟩
  · rw [if_pos m2, m1]; rfl
  · rw [if_neg m2, if_pos m3, m1]; rfl
  · rw [if_neg m2, if_neg m3, m1, if_neg (show ¬ (0 : Nat) ≠ 0 by decide)]
    rcases mulN_cases (p := p) hT with ⟨k1, k2⟩ | ⟨k1, k2, k3⟩ | ⟨k1, k2, k3, k4⟩ | ⟨k1, k2, k3, k4⟩
    · rw [if_pos k2, k1]; rfl
    · rw [if_neg k2, if_pos k3, k1]; rfl
    · rw [if_neg k2, if_neg k3, if_pos k4, k1]; rfl
    · rw [if_neg k2, if_neg k3, if_neg k4, k1]; rfl
