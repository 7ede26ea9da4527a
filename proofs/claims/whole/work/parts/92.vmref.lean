/-! PURE: what the code comes to, and the reference runs it -/
def rk (op : Nat) (a b : Int32) : Int32 :=
  if op = 2 then a + b else if op = 3 then a - b else if op = 4 then a * b else if op = 5 then a / b else if op = 6 then a - a / b * b
  else if op = 7 then (if b ≤ a then 0 else 1) else if op = 8 then (if a ≤ b then 0 else 1) else (if a = b then 1 else 0)
/-- fuel, place, stack: what waits there -/
def ev (F : Nat → Int32) (code : Nat → Ins) (e : Nat) : Nat → Nat → List Int32 → Option Int32
  | 0, _, S => some (S.headD 0)
  | k + 1, x, S => if e ≤ x then some (S.headD 0) else
    if (code x).1 = 0 then ev F code e k (x + 1) (nI (code x).2 :: S)
    else if (code x).1 = 1 then ev F code e k (x + 1) (F (code x).2 :: S)
    else if (code x).1 ≤ 9 then (match S with
      | b :: a :: S' => if ((code x).1 = 5 ∨ (code x).1 = 6) ∧ b = 0 then none else ev F code e k (x + 1) (rk (code x).1 a b :: S')
      | _ => none)
    else if (code x).1 = 10 then (match S with
      | v :: S' => ev F code e k (x + 1) ((1 - v) :: S')
      | _ => none)
    else (match S with
      | v :: S' => if v = (if (code x).1 = 12 then 1 else 0) then ev F code e k (code x).2 S else ev F code e k (x + 1) S'
      | _ => none)
theorem ev_cg {F F' : Nat → Int32} (h : ∀ i, i < 15 → F i = F' i) {code : Nat → Ins} {e : Nat} (hc : ∀ x, x < e → (code x).1 = 1 → (code x).2 < 15) : ∀ (k x : Nat) (S : List Int32), ev F code e k x S = ev F' code e k x S
  | 0, _, _ => rfl
  | k + 1, x, S => by
    unfold ev
    by_cases c0 : e ≤ x
    · rw [if_pos c0, if_pos c0]
    rw [if_neg c0, if_neg c0]
    by_cases c1 : (code x).1 = 0
    · rw [if_pos c1, if_pos c1]; exact ev_cg h hc k _ _
    rw [if_neg c1, if_neg c1]
    by_cases c2 : (code x).1 = 1
    · rw [if_pos c2, if_pos c2, h _ (hc x (by omega) c2)]; exact ev_cg h hc k _ _
    rw [if_neg c2, if_neg c2]
    by_cases c3 : (code x).1 ≤ 9
    · rw [if_pos c3, if_pos c3]
      rcases S with _ | ⟨b, _ | ⟨a, S'⟩⟩
      · rfl
      · rfl
      · dsimp only
        by_cases c4 : ((code x).1 = 5 ∨ (code x).1 = 6) ∧ b = 0
        · rw [if_pos c4, if_pos c4]
        · rw [if_neg c4, if_neg c4]; exact ev_cg h hc k _ _
    rw [if_neg c3, if_neg c3]
    by_cases c4 : (code x).1 = 10
    · rw [if_pos c4, if_pos c4]
      rcases S with _ | ⟨v, S'⟩
      · rfl
      · exact ev_cg h hc k _ _
    rw [if_neg c4, if_neg c4]
    rcases S with _ | ⟨v, S'⟩
    · rfl
    · dsimp only
      by_cases c5 : v = (if (code x).1 = 12 then 1 else 0)
      · rw [if_pos c5, if_pos c5]; exact ev_cg h hc k _ _
      · rw [if_neg c5, if_neg c5]; exact ev_cg h hc k _ _
/-- the stack, from its ground -/
def StL (Q : Nat → Int32) : List Int32 → Prop
  | [] => True
  | v :: S => Q S.length = v ∧ StL Q S
theorem StL_fr {Q Q' : Nat → Int32} : ∀ (S : List Int32), StL Q S → (∀ i, i < S.length → Q' i = Q i) → StL Q' S
  | [], _, _ => trivial
  | v :: S, h, e => ⟨(e S.length (by simp)).trans h.1, StL_fr S h.2 fun j hj => e j (by simp; omega)⟩
theorem StL_push {Q : Nat → Int32} {S : List Int32} {v : Int32} (h : StL Q S) : StL (upd Q S.length v) (v :: S) := ⟨ud_s, StL_fr S h fun j hj => ud_n (by omega)⟩
/-- how the stack fits the height -/
def Hgt (h : Nat) (S : List Int32) : Prop := (h ≤ 64 ∧ S.length = h) ∨ (h = 100 ∧ ∃ v, S = [v] ∧ (v = 0 ∨ v = 1))
theorem Hgt.len {h : Nat} {S : List Int32} (a : Hgt h S) (q : h ≤ 64) : S.length = h := by
  rcases a with ⟨_, a⟩ | ⟨a, _⟩
  · exact a
  · omega
theorem Hgt.one {S : List Int32} (a : Hgt 100 S) : ∃ v, S = [v] ∧ (v = 0 ∨ v = 1) := by
  rcases a with ⟨a, _⟩ | ⟨_, a⟩
  · omega
  · exact a
theorem rk_bool {op : Nat} (h : 7 ≤ op) (a b : Int32) : rk op a b = 0 ∨ rk op a b = 1 := by
  unfold rk
  rw [if_neg (by omega), if_neg (by omega), if_neg (by omega), if_neg (by omega), if_neg (by omega)]
  split
  · split
    · exact Or.inl rfl
    · exact Or.inr rfl
  split
  · split
    · exact Or.inl rfl
    · exact Or.inr rfl
  · split
    · exact Or.inr rfl
    · exact Or.inl rfl
theorem reckon_eq {op : Nat} (h : 2 ≤ op ∧ op ≤ 9) {a b : Int32} (hb : ¬ ((op = 5 ∨ op = 6) ∧ b = 0)) {M : xMem} : g9_reckon (nI op) a b M = some (rk op a b, M) := by
  have ho : op = 2 ∨ op = 3 ∨ op = 4 ∨ op = 5 ∨ op = 6 ∨ op = 7 ∨ op = 8 ∨ op = 9 := by omega
  unfold g9_reckon rk
  rcases ho with r | r | r | r | r | r | r | r
  · subst r; rfl
  · subst r; rfl
  · subst r; rfl
  · have : ¬ b = 0 := fun q => hb ⟨Or.inl r, q⟩
    subst r
    rw [if_neg (by decide), if_neg (by decide), if_neg (by decide), if_pos (by rfl), if_neg this]
    rfl
  · have : ¬ b = 0 := fun q => hb ⟨Or.inr r, q⟩
    subst r
    rw [if_neg (by decide), if_neg (by decide), if_neg (by decide), if_neg (by decide), if_pos (by rfl), if_neg this]
    rfl
  · subst r
    rw [if_neg (by decide), if_neg (by decide), if_neg (by decide), if_neg (by decide), if_neg (by decide), if_pos (by rfl)]
    simp only [Nat.reduceEqDiff, ↓reduceIte]
    split <;> rfl
  · subst r
    rw [if_neg (by decide), if_neg (by decide), if_neg (by decide), if_neg (by decide), if_neg (by decide), if_neg (by decide), if_pos (by rfl)]
    simp only [Nat.reduceEqDiff, ↓reduceIte]
    split <;> rfl
  · subst r
    rw [if_neg (by decide), if_neg (by decide), if_neg (by decide), if_neg (by decide), if_neg (by decide), if_neg (by decide), if_neg (by decide)]
    simp only [Nat.reduceEqDiff, ↓reduceIte]
    split <;> rfl
def CodeR (P : Nat → Int32) (code : Nat → Ins) (c e : Nat) : Prop := ∀ x, c ≤ x → x < e → P x = pk (code x)
def TyC (m : Nat → Nat) (code : Nat → Ins) (c e : Nat) : Prop := ∀ x, c ≤ x → x < e → okI m e x (code x)
theorem ref_run {code : Nat → Ins} {m : Nat → Nat} {c e b : Nat} (hty : TyC m code c e) (he : e ≤ 240) (hb : m e = b) (hb2 : b = 1 ∨ b = 100) : ∀ (k x f : Nat) (S : List Int32) (M : xMem), e ≤ x + k → k < f → c ≤ x → x ≤ e → CodeR (M 180) code c e → Hgt (m x) S → StL (M 185) S →
    ∃ K, g9_comesTo_b16 f (nI e) (nI S.length) 0 (nI x) M = some (((ev (M 186) code e k x S).getD 0), K) ∧ Off [185] M K := by
  intro k
  induction k with
  | zero =>
    intro x f S M hk hf hc hx hcd hh hs
    obtain ⟨f, rfl⟩ : ∃ f', f = f' + 1 := ⟨f - 1, by omega⟩
    have hxe : x = e := by omega
    subst hxe
    refine ⟨M, ?_, Off.rf⟩
    rw [g9_comesTo_b16, if_pos ((nI_leI (by omega) (by omega)).mpr (Nat.le_refl _))]
    unfold ev
    have h1 : ∃ v, S = [v] := by
      rw [hb] at hh
      rcases hb2 with r | r
      · subst r
        have := hh.len (by decide)
        exact List.length_eq_one_iff.mp this
      · subst r
        obtain ⟨v, hv, _⟩ := hh.one
        exact ⟨v, hv⟩
    obtain ⟨v, rfl⟩ := h1
    rw [show M 185 0 = v from hs.1]
    rfl
  | succ k ih =>
    intro x f S M hk hf hc hx hcd hh hs
    obtain ⟨f, rfl⟩ : ∃ f', f = f' + 1 := ⟨f - 1, by omega⟩
    rw [g9_comesTo_b16]
    unfold ev
    by_cases c0 : e ≤ x
    · have hxe : x = e := by omega
      subst hxe
      refine ⟨M, ?_, Off.rf⟩
      rw [if_pos ((nI_leI (by omega) (by omega)).mpr (Nat.le_refl _)), if_pos (Nat.le_refl _)]
      have h1 : ∃ v, S = [v] := by
        rw [hb] at hh
        rcases hb2 with r | r
        · subst r
          have := hh.len (by decide)
          exact List.length_eq_one_iff.mp this
        · subst r
          obtain ⟨v, hv, _⟩ := hh.one
          exact ⟨v, hv⟩
      obtain ⟨v, rfl⟩ := h1
      rw [show M 185 0 = v from hs.1]
      rfl
    rw [if_neg (fun r => c0 ((nI_leI (by omega) (by omega)).mp r)), if_neg c0]
    have hok := hty x hc (by omega)
    obtain ⟨h0, hop⟩ := hok
    have h16 : (code x).1 < 16 := by rcases hop with ⟨q, _⟩ | ⟨_, q, _⟩ | ⟨_, q, _⟩ | ⟨q, _⟩ | ⟨q | q, _⟩ <;> omega
    have hsm : small (code x) := ⟨h16, by rcases h0 with q | q <;> omega⟩
    have hd : M 180 x / 1048576 = nI (code x).1 := by rw [hcd x hc (by omega)]; exact pk_div20 hsm
    have hr : M 180 x - nI (code x).1 * 1048576 = nI (code x).2 := by rw [← hd, hcd x hc (by omega)]; exact pk_rem20 hsm
    simp (disch := omega) only [↓reduceIte, i_lt0, i_cl, nle_f, or_self, hd, hr, nI_1]
    have hl64 : S.length ≤ 64 := by
      rcases hh with ⟨_, q⟩ | ⟨_, v, q, _⟩
      · omega
      · rw [q]; show 1 ≤ 64; decide
    have go : ∀ (y : Nat) (S' : List Int32) (M' : xMem), x < y → y ≤ e → Off [185] M M' → Hgt (m y) S' → StL (M' 185) S' → ∃ K, g9_comesTo_b16 f (nI e) (nI S'.length) 0 (nI y) M' = some ((ev (M 186) code e k y S').getD 0, K) ∧ Off [185] M K := by
      intro y S' M' h1 h2 oo h3 h4
      obtain ⟨K, e1, e2⟩ := ih y f S' M' (by omega) (by omega) (by omega) h2 (by rw [oo 180 (by decide)]; exact hcd) h3 h4
      rw [oo 186 (by decide)] at e1
      exact ⟨K, e1, oo.tr e2⟩
    have ne : ∀ k, k < 16 → (code x).1 ≠ k → ¬ nI (code x).1 = nI k := fun k hk q r => q ((nI_eq (by omega) (by omega)).mp r)
    have push : ∀ v, m x < 64 → m (x + 1) = m x + 1 → (∃ K, g9_comesTo_b85 (g9_comesTo_b16 f) (nI e) (nI S.length) 0 (nI (x + 1)) (nI S.length) v M = some ((ev (M 186) code e k (x + 1) (v :: S)).getD 0, K) ∧ Off [185] M K) := by
      intro v q1 q2
      have hlen := hh.len (by omega)
      obtain ⟨K, e1, e2⟩ := go (x + 1) (v :: S) (upM M 185 S.length v) (by omega) (by omega) (Off.up (by decide)) (Or.inl ⟨by omega, by rw [q2, ← hlen]; rfl⟩) (by rw [up_row]; exact StL_push hs)
      refine ⟨K, ?_, e2⟩
      unfold g9_comesTo_b85 g9_comesTo_b230
      simp (disch := omega) only [↓reduceIte, i_lt0, i_cl, nle_f, or_self, mset_eq, nI_1]
      exact e1
    have bin : ∀ b a S', S = b :: a :: S' → 2 ≤ (code x).1 → (code x).1 ≤ 9 → Hgt (m (x + 1)) (rk (code x).1 a b :: S') → ¬ (((code x).1 = 5 ∨ (code x).1 = 6) ∧ b = 0) → (∃ K, g9_comesTo_b203 (g9_comesTo_b16 f) (nI e) (nI S.length - 1) 0 (nI (x + 1)) (nI (code x).1) M = some ((ev (M 186) code e k (x + 1) (rk (code x).1 a b :: S')).getD 0, K) ∧ Off [185] M K) := by
      intro b a S' hS q1 q2 q3 q4
      have hlen : S.length = S'.length + 2 := by rw [hS]; rfl
      rw [hS] at hs
      have hb1 : M 185 (S'.length + 1) = b := hs.1
      have ha1 : M 185 S'.length = a := hs.2.1
      obtain ⟨K, e1, e2⟩ := go (x + 1) (rk (code x).1 a b :: S') (upM M 185 S'.length (rk (code x).1 a b)) (by omega) (by omega) (Off.up (by decide)) q3 (by rw [up_row]; exact StL_push hs.2.2)
      refine ⟨K, ?_, e2⟩
      rw [hlen, show nI (S'.length + 2) - 1 = nI (S'.length + 1) from nI_pred _]
      unfold g9_comesTo_b203 g9_comesTo_b230
      rw [show nI (S'.length + 1) - 1 = nI S'.length from nI_pred _]
      simp (disch := omega) only [↓reduceIte, i_lt0, i_cl, nle_f, or_self]
      rw [ha1, hb1, bs (reckon_eq ⟨q1, q2⟩ q4), mset_eq]
      exact e1
    have bins : ∀ b a S', S = b :: a :: S' → 2 ≤ (code x).1 → (code x).1 ≤ 9 → Hgt (m (x + 1)) (rk (code x).1 a b :: S') → (∃ K, (if nI (code x).1 = 5 then g9_comesTo_b192 (g9_comesTo_b16 f) (nI e) (nI S.length - 1) 0 (nI (x + 1)) (nI (code x).1) M else if nI (code x).1 = 6 then g9_comesTo_b192 (g9_comesTo_b16 f) (nI e) (nI S.length - 1) 0 (nI (x + 1)) (nI (code x).1) M else g9_comesTo_b203 (g9_comesTo_b16 f) (nI e) (nI S.length - 1) 0 (nI (x + 1)) (nI (code x).1) M) = some ((if ((code x).1 = 5 ∨ (code x).1 = 6) ∧ b = 0 then none else ev (M 186) code e k (x + 1) (rk (code x).1 a b :: S')).getD 0, K) ∧ Off [185] M K) := by
      intro b a S' hS q1 q2 q3
      have hlen : S.length = S'.length + 2 := by rw [hS]; rfl
      have hb1 : M 185 (S'.length + 1) = b := by rw [hS] at hs; exact hs.1
      have b192 : ((code x).1 = 5 ∨ (code x).1 = 6) → (∃ K, g9_comesTo_b192 (g9_comesTo_b16 f) (nI e) (nI S.length - 1) 0 (nI (x + 1)) (nI (code x).1) M = some ((if ((code x).1 = 5 ∨ (code x).1 = 6) ∧ b = 0 then none else ev (M 186) code e k (x + 1) (rk (code x).1 a b :: S')).getD 0, K) ∧ Off [185] M K) := by
        intro q
        have hm : g9_comesTo_b192 (g9_comesTo_b16 f) (nI e) (nI S.length - 1) 0 (nI (x + 1)) (nI (code x).1) M = (if b = 0 then some (0, M) else g9_comesTo_b203 (g9_comesTo_b16 f) (nI e) (nI S.length - 1) 0 (nI (x + 1)) (nI (code x).1) M) := by
          unfold g9_comesTo_b192
          rw [hlen, show nI (S'.length + 2) - 1 = nI (S'.length + 1) from nI_pred _]
          simp (disch := omega) only [↓reduceIte, i_lt0, i_cl, nle_f, or_self]
          rw [hb1]
        rw [hm]
        by_cases c : b = 0
        · rw [if_pos c, if_pos ⟨q, c⟩]
          exact ⟨M, rfl, Off.rf⟩
        · rw [if_neg c, if_neg fun r => c r.2]
          exact bin b a S' hS q1 q2 q3 fun r => c r.2
      by_cases c5 : (code x).1 = 5
      · rw [if_pos (show nI (code x).1 = 5 by rw [c5]; rfl)]
        exact b192 (Or.inl c5)
      rw [if_neg (show ¬ nI (code x).1 = 5 from ne 5 (by decide) c5)]
      by_cases c6 : (code x).1 = 6
      · rw [if_pos (show nI (code x).1 = 6 by rw [c6]; rfl)]
        exact b192 (Or.inr c6)
      rw [if_neg (show ¬ nI (code x).1 = 6 from ne 6 (by decide) c6), if_neg (fun r => r.1.elim c5 c6)]
      exact bin b a S' hS q1 q2 q3 fun r => r.1.elim c5 c6
    have two : ∀ b a S', S = b :: a :: S' → 2 ≤ (code x).1 → (code x).1 ≤ 9 → Hgt (m (x + 1)) (rk (code x).1 a b :: S') → (∃ K, (if nI (code x).1 = 0 then g9_comesTo_b63 (g9_comesTo_b16 f) (nI e) (nI S.length) 0 (nI (x + 1)) (nI (code x).1) (nI (code x).2) M
          else if nI (code x).1 = 1 then g9_comesTo_b63 (g9_comesTo_b16 f) (nI e) (nI S.length) 0 (nI (x + 1)) (nI (code x).1) (nI (code x).2) M
          else if nI (code x).1 = 10 then (if nI S.length - 1 < 0 ∨ 260 ≤ (nI S.length - 1).toNatClampNeg then none else mset (upM M 185 (nI S.length - 1).toNatClampNeg (1 - M 185 (nI S.length - 1).toNatClampNeg)) fun M11 => g9_comesTo_b230 (g9_comesTo_b16 f) (nI e) (nI S.length) 0 (nI (x + 1)) M11)
          else if nI (code x).1 = 11 then g9_comesTo_b135 (g9_comesTo_b16 f) (nI e) (nI S.length) 0 (nI (x + 1)) (nI (code x).1) (nI (code x).2) M
          else if nI (code x).1 = 12 then g9_comesTo_b135 (g9_comesTo_b16 f) (nI e) (nI S.length) 0 (nI (x + 1)) (nI (code x).1) (nI (code x).2) M
          else if nI (code x).1 = 5 then g9_comesTo_b192 (g9_comesTo_b16 f) (nI e) (nI S.length - 1) 0 (nI (x + 1)) (nI (code x).1) M else if nI (code x).1 = 6 then g9_comesTo_b192 (g9_comesTo_b16 f) (nI e) (nI S.length - 1) 0 (nI (x + 1)) (nI (code x).1) M else g9_comesTo_b203 (g9_comesTo_b16 f) (nI e) (nI S.length - 1) 0 (nI (x + 1)) (nI (code x).1) M) = some ((if ((code x).1 = 5 ∨ (code x).1 = 6) ∧ b = 0 then none else ev (M 186) code e k (x + 1) (rk (code x).1 a b :: S')).getD 0, K) ∧ Off [185] M K) := by
      intro b a S' hS q1 q2 q3
      rw [if_neg (show ¬ nI (code x).1 = 0 from ne 0 (by decide) (by omega)), if_neg (show ¬ nI (code x).1 = 1 from ne 1 (by decide) (by omega)), if_neg (show ¬ nI (code x).1 = 10 from ne 10 (by decide) (by omega)), if_neg (show ¬ nI (code x).1 = 11 from ne 11 (by decide) (by omega)), if_neg (show ¬ nI (code x).1 = 12 from ne 12 (by decide) (by omega))]
      exact bins b a S' hS q1 q2 q3
    rcases hop with ⟨q1, q2, q3, q4⟩ | ⟨q1, q2, q3, q4, q5⟩ | ⟨q1, q2, q3, q4⟩ | ⟨q1, q2, q3⟩ | ⟨q1, q2, q3, q4, q5, q6⟩
    · by_cases c1 : (code x).1 = 0
      · rw [if_pos (show nI (code x).1 = 0 by rw [c1]; rfl), if_pos c1]
        unfold g9_comesTo_b63
        rw [if_pos (show nI (code x).1 = 0 by rw [c1]; rfl)]
        exact push _ q2 q3
      · have c2 : (code x).1 = 1 := by omega
        have := q4 c2
        rw [if_neg (show ¬ nI (code x).1 = 0 from ne 0 (by decide) c1), if_neg c1, if_pos (show nI (code x).1 = 1 by rw [c2]; rfl), if_pos c2]
        unfold g9_comesTo_b63
        rw [if_neg (show ¬ nI (code x).1 = 0 from ne 0 (by decide) c1)]
        simp (disch := omega) only [↓reduceIte, i_lt0, i_cl, nle_f, or_self]
        exact push _ q2 q3
    · have hlen := hh.len q4
      rcases S with _ | ⟨b, _ | ⟨a, S'⟩⟩
      · have : (0 : Nat) = m x := hlen
        omega
      · have : (1 : Nat) = m x := hlen
        omega
      · have hl2 : S'.length + 2 = m x := hlen
        rw [if_neg (show ¬ (code x).1 = 0 by omega), if_neg (show ¬ (code x).1 = 1 by omega), if_pos (show (code x).1 ≤ 9 by omega)]
        exact two b a S' rfl q1 (by omega) (Or.inl ⟨by omega, by show S'.length + 1 = _; omega⟩)
    · have hlen := hh.len (by omega)
      rcases S with _ | ⟨b, _ | ⟨a, S'⟩⟩
      · have : (0 : Nat) = m x := hlen
        omega
      · have : (1 : Nat) = m x := hlen
        omega
      · have hl2 : S'.length + 2 = m x := hlen
        have hS' : S' = [] := List.length_eq_zero_iff.mp (by omega)
        subst hS'
        rw [if_neg (show ¬ (code x).1 = 0 by omega), if_neg (show ¬ (code x).1 = 1 by omega), if_pos (show (code x).1 ≤ 9 by omega)]
        exact two b a [] rfl (by omega) (by omega) (Or.inr ⟨q4, _, rfl, rk_bool q1 a b⟩)
    · rw [q2] at hh
      obtain ⟨v, hv, hv2⟩ := hh.one
      subst hv
      have hv0 : M 185 0 = v := hs.1
      rw [if_neg (show ¬ nI (code x).1 = 0 from ne 0 (by decide) (by omega)), if_neg (show ¬ nI (code x).1 = 1 from ne 1 (by decide) (by omega)), if_pos (show nI (code x).1 = 10 by rw [q1]; rfl), if_neg (show ¬ (code x).1 = 0 by omega), if_neg (show ¬ (code x).1 = 1 by omega), if_neg (show ¬ (code x).1 ≤ 9 by omega), if_pos q1]
      have hl1 : nI ([v] : List Int32).length - 1 = nI 0 := nI_pred 0
      rw [hl1]
      simp (disch := omega) only [↓reduceIte, i_lt0, i_cl, nle_f, or_self, mset_eq]
      rw [hv0]
      unfold g9_comesTo_b230
      exact go (x + 1) [1 - v] _ (by omega) (by omega) (Off.up (by decide)) (Or.inr ⟨q3, _, rfl, by rcases hv2 with r | r <;> rw [r] <;> decide⟩) ⟨by rw [up_row]; exact ud_s, trivial⟩
    · rw [q2] at hh
      obtain ⟨v, hv, hv2⟩ := hh.one
      subst hv
      have hv0 : M 185 0 = v := hs.1
      have hl1 : nI ([v] : List Int32).length - 1 = nI 0 := nI_pred 0
      rw [if_neg (show ¬ nI (code x).1 = 0 from ne 0 (by decide) (by omega)), if_neg (show ¬ nI (code x).1 = 1 from ne 1 (by decide) (by omega)), if_neg (show ¬ nI (code x).1 = 10 from ne 10 (by decide) (by omega)), if_neg (show ¬ (code x).1 = 0 by omega), if_neg (show ¬ (code x).1 = 1 by omega), if_neg (show ¬ (code x).1 ≤ 9 by omega), if_neg (show ¬ (code x).1 = 10 by omega)]
      dsimp only
      have b135 : ∃ K, g9_comesTo_b135 (g9_comesTo_b16 f) (nI e) (nI ([v] : List Int32).length) 0 (nI (x + 1)) (nI (code x).1) (nI (code x).2) M = some ((if v = (if (code x).1 = 12 then 1 else 0) then ev (M 186) code e k (code x).2 [v] else ev (M 186) code e k (x + 1) []).getD 0, K) ∧ Off [185] M K := by
        have b155 : ∀ s1 : Int32, ∃ K, g9_comesTo_b155 (g9_comesTo_b16 f) (nI e) (nI ([v] : List Int32).length) 0 (nI (x + 1)) (nI (code x).2) v s1 M = some ((if v = s1 then ev (M 186) code e k (code x).2 [v] else ev (M 186) code e k (x + 1) []).getD 0, K) ∧ Off [185] M K := by
          intro s1
          unfold g9_comesTo_b155 g9_comesTo_b230
          by_cases c : v = s1
          · rw [if_pos c, if_pos c, show (0 : Int32) + nI (code x).2 = nI (code x).2 from Int32.zero_add _]
            exact go (code x).2 [v] M q4 q5 Off.rf (Or.inr ⟨q6, v, rfl, hv2⟩) hs
          · rw [if_neg c, if_neg c, hl1]
            exact go (x + 1) [] M (by omega) (by omega) Off.rf (Or.inl ⟨by omega, by rw [q3]; rfl⟩) trivial
        unfold g9_comesTo_b135
        rw [hl1]
        simp (disch := omega) only [↓reduceIte, i_lt0, i_cl, nle_f, or_self]
        rw [hv0]
        by_cases c12 : (code x).1 = 12
        · rw [if_pos (show nI (code x).1 = 12 by rw [c12]; rfl), if_pos c12]
          exact b155 1
        · rw [if_neg (show ¬ nI (code x).1 = 12 from ne 12 (by decide) c12), if_neg c12]
          exact b155 0
      rcases q1 with c | c
      · rw [if_pos (show nI (code x).1 = 11 by rw [c]; rfl)]
        exact b135
      · rw [if_neg (show ¬ nI (code x).1 = 11 from ne 11 (by decide) (by omega)), if_pos (show nI (code x).1 = 12 by rw [c]; rfl)]
        exact b135
