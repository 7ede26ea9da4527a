/-! PURE: where -/
theorem left_cases (a : Int32) {M : xMem} (I : Inv M) : (g8_isLeft a M = some (0, M) ∧ ∀ N, N 7 = M 7 → g9_areWithin a N = some (0, N)) ∨
    ∃ n u : Nat, 1 ≤ n ∧ u + n ≤ 8 ∧ a = nI n ∧ M 0 328 = nI u ∧ g8_isLeft a M = some (1, M) ∧ ∀ N, N 7 = M 7 → g9_areWithin a N = some (1, N) := by
  unfold g8_isLeft g9_areWithin
  rw [in8_9]
  rcases in_cases a 1 8 1 8 with h | ⟨n, hn, hn8, rfl, h⟩
  · exact Or.inl ⟨by rw [b0 (h M)], fun N hN => by rw [b0 (h N)]⟩
  obtain ⟨u, hu, eu⟩ := I.ok.hour
  rw [b1 (h M)]
  by_cases c : u + n ≤ 8
  · have c' : ¬ (8 : Int32) < nI u + nI n := fun q => by
      rw [nI_add] at q
      have := (nI_ltI (a := 8) (by omega) (by omega)).mp q
      omega
    refine Or.inr ⟨n, u, hn, c, rfl, eu, by simp only [eu, if_neg c'], fun N hN => ?_⟩
    rw [b1 (h N)]
    simp only [hN, I.eq7, eu, if_neg c']
  · have c' : (8 : Int32) < nI u + nI n := by
      rw [nI_add]
      exact (nI_ltI (a := 8) (by omega) (by omega)).mpr (by omega)
    refine Or.inl ⟨by simp only [eu, if_pos c'], fun N hN => ?_⟩
    rw [b1 (h N)]
    simp only [hN, I.eq7, eu, if_pos c']
/-- how many, the first -/
def sCnt (P : Nat → Bool) : Nat → Nat → Nat → Int32 → Nat × Int32
  | 0, _, m, f => (m, f)
  | d + 1, k, m, f => if P k = true then sCnt P d (k + 1) (m + 1) (if m = 0 then nI k else f) else sCnt P d (k + 1) m f
theorem sCnt_le {P : Nat → Bool} : ∀ (d k m : Nat) (f : Int32), (sCnt P d k m f).1 ≤ m + d
  | 0, _, _, _ => Nat.le_refl _
  | d + 1, k, m, f => by
    unfold sCnt
    split
    · have := sCnt_le (P := P) d (k + 1) (m + 1) (if m = 0 then nI k else f)
      omega
    · have := sCnt_le (P := P) d (k + 1) m f
      omega
theorem sCnt_pos {P : Nat → Bool} : ∀ (d k m : Nat) (f g : Int32), 0 < m → 0 < (sCnt P d k m f).1 ∧ (sCnt P d k m f).1 = (sCnt P d k m g).1 ∧ (f = g → (sCnt P d k m f).2 = (sCnt P d k m g).2)
  | 0, _, _, _, _, h => ⟨h, rfl, fun e => e⟩
  | d + 1, k, m, f, g, h => by
    unfold sCnt
    split
    · rw [if_neg (by omega), if_neg (by omega)]
      exact sCnt_pos d (k + 1) (m + 1) f g (by omega)
    · exact sCnt_pos d (k + 1) m f g h
/-- the first found does not hang on what stood there -/
theorem sCnt_0 {P : Nat → Bool} : ∀ (d k : Nat) (f g : Int32), (sCnt P d k 0 f).1 = (sCnt P d k 0 g).1 ∧ ((sCnt P d k 0 f).1 = 0 → (sCnt P d k 0 f).2 = f) ∧ ((sCnt P d k 0 f).1 ≠ 0 → (sCnt P d k 0 f).2 = (sCnt P d k 0 g).2)
  | 0, _, _, _ => ⟨rfl, fun _ => rfl, fun h => absurd rfl h⟩
  | d + 1, k, f, g => by
    unfold sCnt
    split
    · rw [if_pos rfl, if_pos rfl]
      obtain ⟨h1, h2, h3⟩ := sCnt_pos (P := P) d (k + 1) (0 + 1) (nI k) (nI k) (by omega)
      exact ⟨h2, fun q => by omega, fun _ => rfl⟩
    · exact sCnt_0 d (k + 1) f g
theorem found_eq {m : Nat} {x f : Int32} {N : xMem} (hm : m < 100000) (h1 : N 141 0 = nI m) (h2 : N 142 0 = f) :
    ∃ K, g5_found x N = some K ∧ K 141 0 = nI (m + 1) ∧ K 142 0 = (if m = 0 then x else f) ∧ Off [141, 142] N K := by
  unfold g5_found g5_found_b16
  rw [h1, h2]
  simp only [mset_eq]
  by_cases c : m = 0
  · subst c
    rw [if_pos nI_0, if_pos rfl]
    refine ⟨_, rfl, ?_, ?_, (Off.up (by decide)).up' (by decide)⟩
    · rw [up_s, up_b (by decide), h1, nI_1]
    · rw [up_b (by decide), up_s]
  · rw [if_neg (nI_ne0 (by omega) (by omega)), if_neg c]
    refine ⟨_, rfl, ?_, ?_, (Off.up (by decide)).up' (by decide)⟩
    · rw [up_s, up_b (by decide), h1, nI_1]
    · rw [up_b (by decide), up_s]
theorem become1_0 {N : xMem} {R : Nat → Int32} (h0 : N 0 = R) (ok : RowOk R) (z : Z10 N) : ∃ K, g6_become 1 0 N = some K ∧ K 1 = R ∧ Off [1] N K ∧ Z10 K := by
  obtain ⟨K, e, a, f, z'⟩ := become_eq (M := N) (p := 1) (q := 0) (by decide) (by decide) (by decide) (by rw [h0]; exact ok) z
  exact ⟨K, e, by rw [a, h0], fun b hb => f b (by simpa using hb), z'⟩
/-- the scratch of the class's trials -/
def S1 : List Nat := [1, 101, 102, 27, 28, 29, 141, 142, 143, 144]
theorem s1_ss {N K : xMem} (o : Off (SS 1) N K) : Off S1 N K := o.mono (by decide)
theorem s1_lc {N K : xMem} (o : Off S1 N K) : lawC N K := lawC.off' o (by decide)
def sThen (V : Nat → (Nat → Int32) → Int32) (R : Nat → Int32) (h n q : Nat) : Nat → Int32 := (sRun V n (upd R (274 + h) (nI q)) 0).1
def sHit (V : Nat → (Nat → Int32) → Int32) (R : Nat → Int32) (h n : Nat) (x : Int32) (q : Nat) : Bool := decide (R q ≠ 3) && (sOn (sThen V R h n q) h && decide (sThen V R h n q (274 + h) = x))
theorem where_b {B : xMem} {V : Nat → (Nat → Int32) → Int32} (L : LawV B V) {R : Nat → Int32} (ok : RowOk R) {h n : Nat} (hh : h < 6) (on : sOn R h = true) (hn : n ≤ 8) {x : Int32} {M : xMem} :
    ∀ (d k f m : Nat) (g : Int32) (N : xMem), k + d = 196 → d < f → m ≤ k → lawC B N → N 0 = R → Z10 N → N 141 0 = nI m → N 142 0 = g → Off S1 M N →
      ∃ K, g5_findWhere_b7 f (nI h) (nI n) x (nI k) N = some K ∧ K 141 0 = nI (sCnt (sHit V R h n x) d k m g).1 ∧ K 142 0 = (sCnt (sHit V R h n x) d k m g).2 ∧ Z10 K ∧ Off S1 M K
  | 0, k, f + 1, m, g, N, hk, hf, hm, lb, h0, z, h1, h2, o => by
    obtain rfl : k = 196 := by omega
    unfold g5_findWhere_b7
    rw [if_pos (by decide)]
    exact ⟨N, rfl, h1, h2, z, o⟩
  | d + 1, k, f + 1, m, g, N, hk, hf, hm, lb, h0, z, h1, h2, o => by
    have ih := fun m g K a1 a2 a3 a4 a5 a6 a7 => where_b L ok hh on hn (x := x) (M := M) d (k + 1) f m g K (by omega) (by omega) a1 a2 a3 a4 a5 a6 a7
    unfold g5_findWhere_b7 g5_findWhere_b119 sCnt
    simp (disch := omega) only [↓reduceIte, i_ll, nle_f]
    rw [bs (sortAt_in (by omega)), h0]
    simp only [nI_1]
    by_cases c1 : R k = 3
    · rw [if_pos c1, if_neg (by unfold sHit; simp [c1])]
      exact ih m g N (by omega) lb h0 z h1 h2 o
    rw [if_neg c1, bs (on_in hh)]
    simp only [b2i_0, h0]
    rw [if_neg (fun q => q on)]
    obtain ⟨K1, e1, r1, o1, z1⟩ := become1_0 h0 ok z
    rw [bs e1]
    simp (disch := omega) only [↓reduceIte, i_lt0, i_cl, nle_f, or_self, mset_eq]
    have r2 : (upM K1 1 (274 + h) (nI k)) 1 = upd R (274 + h) (nI k) := by rw [up_row, r1]
    have o2 : Off [1] N (upM K1 1 (274 + h) (nI k)) := o1.up' (by decide)
    have z2 : Z10 (upM K1 1 (274 + h) (nI k)) := z1.up (Or.inl (by omega))
    generalize upM K1 1 (274 + h) (nI k) = K2 at r2 o2 z2 ⊢
    have ok2 : RowOk (K2 1) := by rw [r2]; exact ok.upd (ok_le (bd_sq h hh) (by omega))
    obtain ⟨K3, e3, r3, o3, -⟩ := runs_eq (p := 1) (n := n) (M := K2) (by decide) (by omega) L (lb.tr (lawC.off' o2 (by decide))) ok2
    rw [r2] at e3 r3
    have rS : K3 1 = sThen V R h n k := r3
    rw [bs e3, bs (on_in hh)]
    simp only [b2i_0, rS]
    have o23 : Off S1 N K3 := (o2.mono (by decide)).tr (s1_ss o3)
    have z3 : Z10 K3 := z2.row o3 (fun b hb h10 => by
      have : b = 1 := by revert b; decide
      subst this
      rw [r3]; exact sRun_ok L.vb n _ 0 (by rw [← r2]; exact ok2))
    have h0' : K3 0 = R := by rw [o3 0 (by decide), o2 0 (by decide), h0]
    have h1' : K3 141 0 = nI m := by rw [o3 141 (by decide), o2 141 (by decide), h1]
    have h2' : K3 142 0 = g := by rw [o3 142 (by decide), o2 142 (by decide), h2]
    have lb3 : lawC B K3 := lb.tr (s1_lc o23)
    by_cases c2 : sOn (sThen V R h n k) h = true
    · rw [if_neg (fun q => q c2)]
      by_cases c3 : sThen V R h n k (274 + h) = x
      · have hit : sHit V R h n x k = true := by unfold sHit; simp [c1, c2, c3]
        rw [if_pos c3, if_pos hit]
        obtain ⟨K4, e4, a4, b4, o4⟩ := found_eq (x := nI k) (m := m) (by omega) h1' h2'
        rw [bs e4]
        exact ih (m + 1) _ K4 (by omega) (lb3.tr (lawC.off' o4 (by decide))) (by rw [o4 0 (by decide), h0']) (z3.of fun b hb => o4 b (by simp; omega)) a4 b4 ((o.tr o23).tr (o4.mono (by decide)))
      · have hit : ¬ sHit V R h n x k = true := by unfold sHit; simp [c3]
        rw [if_neg c3, if_neg hit]
        exact ih m g K3 (by omega) lb3 h0' z3 h1' h2' (o.tr o23)
    · have hit : ¬ sHit V R h n x k = true := by unfold sHit; simp [c2]
      rw [if_pos c2, if_neg hit]
      exact ih m g K3 (by omega) lb3 h0' z3 h1' h2' (o.tr o23)
/-- the scratch of the reference's trials -/
def S7 : List Nat := [7, 8, 185, 186]
theorem s7_tt {N K : xMem} (o : Off TT N K) : Off S7 N K := o.mono (by decide)
theorem s7_lm {N K : xMem} (o : Off S7 N K) : lawM N K := lawM.off' o (by decide)
theorem again_eq {N : xMem} {R : Nat → Int32} (h8 : N 8 = R) (z : Z10 N) : ∃ K, g9_again N = some K ∧ K 7 = R ∧ K 8 = R ∧ Off [7] N K ∧ Z10 K := by
  obtain ⟨K, e, a, f, z'⟩ := cp156 z
  exact ⟨K, e, by rw [a, h8], by rw [f 8 (by decide), h8], fun b hb => f b (by simpa using hb), z'⟩
theorem where9_b {B : xMem} {V : Nat → (Nat → Int32) → Int32} (L : LawV B V) {R : Nat → Int32} (ok : RowOk R) {h n : Nat} (hh : h < 6) (hn : n ≤ 8) {x w : Int32} {M : xMem} :
    ∀ (d k f m : Nat) (g : Int32) (N : xMem), k + d = 196 → d < f → m ≤ k → lawM B N → N 8 = R → Z10 N → Off S7 M N →
      ∃ K, g9_where_b53 f (nI h) (nI n) x w (nI m) g (nI k) N = some (if w = 0 then nI (sCnt (sHit V R h n x) d k m g).1 else (sCnt (sHit V R h n x) d k m g).2, K) ∧ K 7 = R ∧ K 8 = R ∧ Z10 K ∧ Off S7 M K
  | 0, k, f + 1, m, g, N, hk, hf, hm, lb, h8, z, o => by
    obtain rfl : k = 196 := by omega
    unfold g9_where_b53
    rw [if_pos (by decide)]
    obtain ⟨K, e, r, r8, oK, zK⟩ := again_eq h8 z
    rw [bs e]
    refine ⟨K, ?_, r, r8, zK, o.tr (oK.mono (by decide))⟩
    by_cases c : w = 0
    · rw [if_pos c, if_pos c]; rfl
    · rw [if_neg c, if_neg c]; rfl
  | d + 1, k, f + 1, m, g, N, hk, hf, hm, lb, h8, z, o => by
    have ih := fun m g K a1 a2 a3 a4 a5 => where9_b L ok hh hn (x := x) (w := w) (M := M) d (k + 1) f m g K (by omega) (by omega) a1 a2 a3 a4 a5
    unfold g9_where_b53 g9_where_b140 g9_where_b132 sCnt
    simp (disch := omega) only [↓reduceIte, i_ll, nle_f]
    obtain ⟨K1, e1, r1, r18, o1, z1⟩ := again_eq h8 z
    rw [bs e1, bs (rock9_in (by omega)), r1]
    unfold g9_where_b140
    simp only [b2i_0, nI_1]
    have o1' : Off S7 M K1 := o.tr (o1.mono (by decide))
    by_cases c1 : R k = 3
    · have hit : ¬ sHit V R h n x k = true := by unfold sHit; simp [c1]
      rw [if_neg (fun q => q c1), if_neg hit]
      exact ih m g K1 (by omega) (lb.tr (lawM.off' o1 (by decide))) r18 z1 o1'
    rw [if_pos c1]
    simp (disch := omega) only [↓reduceIte, i_lt0, i_cl, i_al, nle_f, or_self, mset_eq]
    have r2 : (upM K1 7 (274 + h) (nI k)) 7 = upd R (274 + h) (nI k) := by rw [up_row, r1]
    have o2 : Off [7] N (upM K1 7 (274 + h) (nI k)) := o1.up' (by decide)
    have z2 : Z10 (upM K1 7 (274 + h) (nI k)) := z1.up (Or.inl (by omega))
    generalize upM K1 7 (274 + h) (nI k) = K2 at r2 o2 z2 ⊢
    have ok2 : RowOk (K2 7) := by rw [r2]; exact ok.upd (ok_le (bd_sq h hh) (by omega))
    obtain ⟨K3, e3, r3, o3⟩ := runs9_eq (n := n) (M := K2) (by omega) L (lb.tr (lawM.off' o2 (by decide))) ok2
    rw [r2] at e3 r3
    have ok3 : RowOk (K3 7) := by rw [r3]; exact sRun_ok L.vb n _ 0 (by rw [← r2]; exact ok2)
    have rS : K3 7 = sThen V R h n k := r3
    rw [bs e3, bs (on9_in ok3 hh)]
    simp only [b2i_0, rS]
    have o23 : Off S7 N K3 := (o2.mono (by decide)).tr (s7_tt o3)
    have z3 : Z10 K3 := z2.row o3 (fun b hb h10 => by
      have : b = 7 := by revert b; decide
      subst this
      exact ok3)
    have h8' : K3 8 = R := by rw [o3 8 (by decide), o2 8 (by decide), h8]
    have lb3 : lawM B K3 := lb.tr (s7_lm o23)
    by_cases c2 : sOn (sThen V R h n k) h = true
    · rw [if_neg (fun q => q c2)]
      by_cases c3 : sThen V R h n k (274 + h) = x
      · have hit : sHit V R h n x k = true := by unfold sHit; simp [c1, c2, c3]
        rw [if_pos c3, if_pos hit]
        by_cases c4 : m = 0
        · subst c4
          rw [if_pos nI_0, if_pos rfl]
          exact ih (0 + 1) _ K3 (by omega) lb3 h8' z3 (o.tr o23)
        · rw [if_neg (nI_ne0 (by omega) (by omega)), if_neg c4]
          exact ih (m + 1) _ K3 (by omega) lb3 h8' z3 (o.tr o23)
      · have hit : ¬ sHit V R h n x k = true := by unfold sHit; simp [c3]
        rw [if_neg c3, if_neg hit]
        exact ih m g K3 (by omega) lb3 h8' z3 (o.tr o23)
    · have hit : ¬ sHit V R h n x k = true := by unfold sHit; simp [c2]
      rw [if_pos c2, if_neg hit]
      exact ih m g K3 (by omega) lb3 h8' z3 (o.tr o23)
theorem clearFound_eq {N : xMem} : ∃ K, g5_clearFound N = some K ∧ K 141 0 = 0 ∧ K 142 0 = -1 ∧ K 143 0 = 0 ∧ K 144 0 = -1 ∧ Off [141, 142, 143, 144] N K := by
  unfold g5_clearFound
  simp only [mset_eq]
  refine ⟨_, rfl, ?_, ?_, ?_, ?_, (((Off.up (by decide)).up' (by decide)).up' (by decide)).up' (by decide)⟩
  · rw [up_b (by decide), up_b (by decide), up_b (by decide), up_s]
  · rw [up_b (by decide), up_b (by decide), up_s]
  · rw [up_b (by decide), up_s]
  · rw [up_s]
/-- behind trials: the class's scratch, the reference's scratch; the rows are as they were -/
theorem Inv.trials {M K K' : xMem} (I : Inv M) {S T : List Nat} (o : Off S M K) (hS : ∀ b ∈ S, b ∉ PB ∧ b ≠ 0 ∧ b ≠ 7) (o' : Off T K K') (hT : ∀ b ∈ T, b ∉ PB ∧ b ≠ 0) (h7 : K' 7 = M 0) (z : Z10 K') : Inv K' := by
  have k0 : K' 0 = M 0 := by rw [o' 0 (fun q => (hT 0 q).2 rfl), o 0 (fun q => (hS 0 q).2.1 rfl)]
  exact I.fr (by rw [h7, k0]) (by rw [k0]; exact I.ok) z fun b hb => by rw [o' b (fun q => (hT b q).1 hb), o b (fun q => (hS b q).1 hb)]
theorem pair_where (a b c w : Int32) : Pair (g8_where a b c w) (g9_where a b c w) := by
  intro M I
  unfold g8_where g9_where
  rw [in8_9]
  rcases on_cases a I with ⟨h1, h1'⟩ | ⟨h, q, hh, hq, rfl, on, eq, h1, h1'⟩
  · exact ⟨-1, M, M, by rw [b0 h1], by rw [b0 h1'], I⟩
  rcases left_cases b I with ⟨h2, h2'⟩ | ⟨n, u, hn1, hun, rfl, eu, h2, h2'⟩
  · exact ⟨-1, M, M, by rw [b1 h1, b0 h2], by rw [b1 h1', b0 (h2' M rfl)], I⟩
  rcases in_cases c 0 195 0 195 with h3 | ⟨s, -, hs, rfl, h3⟩
  · exact ⟨-1, M, M, by rw [b1 h1, b1 h2, b0 (h3 M)], by rw [b1 h1', b1 (h2' M rfl), b0 (h3 M)], I⟩
  rcases in_cases w 0 1 0 1 with h4 | ⟨t, -, ht, rfl, h4⟩
  · exact ⟨-1, M, M, by rw [b1 h1, b1 h2, b1 (h3 M), b0 (h4 M)], by rw [b1 h1', b1 (h2' M rfl), b1 (h3 M), b0 (h4 M)], I⟩
  obtain ⟨V, L⟩ := lawV_of I.law
  unfold g5_findWhere
  obtain ⟨K0, e0, a1, a2, -, -, o0⟩ := clearFound_eq (N := M)
  obtain ⟨K, e, k1, k2, zK, oK⟩ := where_b (B := M) L I.ok hh on (show n ≤ 8 by omega) (x := nI s) (M := M) 196 0 5000 0 (-1) K0 rfl (by omega) (by omega) (lawC.off' o0 (by decide)) (o0 0 (by decide)) (I.z.of fun b hb => o0 b (by simp; omega)) a1 a2 (o0.mono (by decide))
  have e' : g5_findWhere_b7 5000 (nI h) (nI n) (nI s) 0 K0 = some K := e
  have k7 : K 7 = M 7 := oK 7 (by decide)
  obtain ⟨K1, e1, r1, f1, z1⟩ := cp155 zK
  obtain ⟨K2, e2, r27, r28, z2, o2⟩ := where9_b (B := M) L I.ok hh (show n ≤ 8 by omega) (x := nI s) (w := nI t) (M := K) 196 0 5000 0 (-2) K1 rfl (by omega) (by omega) ((lawM.off' oK (by decide)).tr (fun b hb => f1 b (by revert b; decide))) (by rw [r1, k7, I.eq7]) z1 (fun b hb => f1 b (fun q => hb (by rw [q]; decide)))
  have e2' : g9_where_b53 5000 (nI h) (nI n) (nI s) (nI t) 0 (-2) 0 K1 = _ := e2
  obtain ⟨p1, p2, p3⟩ := sCnt_0 (P := sHit V (M 0) h n (nI s)) 196 0 (-1) (-2)
  obtain ⟨-, q2, -⟩ := sCnt_0 (P := sHit V (M 0) h n (nI s)) 196 0 (-2) (-1)
  have le := sCnt_le (P := sHit V (M 0) h n (nI s)) 196 0 0 (-1)
  have J := I.trials oK (by decide) o2 (by decide) r27 z2
  refine ⟨if nI t = 0 then nI (sCnt (sHit V (M 0) h n (nI s)) 196 0 0 (-2)).1 else (sCnt (sHit V (M 0) h n (nI s)) 196 0 0 (-2)).2, K, K2, ?_, ?_, J⟩
  · rw [b1 h1, b1 h2, b1 (h3 M), b1 (h4 M), bs (show (Option.bind (g5_clearFound M) fun q1 => g5_findWhere_b7 5000 (nI h) (nI n) (nI s) 0 q1) = some K by rw [bs e0, e']), k1, k2, p1]
    by_cases c1 : nI t = 0
    · rw [if_pos c1, if_pos c1]
    rw [if_neg c1, if_neg c1]
    by_cases c2 : (sCnt (sHit V (M 0) h n (nI s)) 196 0 0 (-2)).1 = 0
    · rw [c2, if_pos nI_0, q2 c2]
    · rw [if_neg (nI_ne0 (by omega) (by omega)), p3 (by rw [p1]; exact c2)]
  · rw [b1 (on9_of0 I k7 h1'), b1 (h2' K k7), b1 (h3 K), b1 (h4 K), bs e1, e2']
