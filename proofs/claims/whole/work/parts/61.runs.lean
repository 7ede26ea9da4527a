/-! PURE: draws, hours, hour -/
def sLot (R : Nat → Int32) : Nat := (25173 * (R 330).toNatClampNeg + 13849) % 65536
theorem lot_raw {R : Nat → Int32} (ok : RowOk R) : ∃ n, n < 2147483648 ∧ 25173 * R 330 + 13849 = nI n ∧ sLot R = n % 65536 := by
  obtain ⟨x, hx, e⟩ := ok.lot
  refine ⟨25173 * x + 13849, by omega, ?_, ?_⟩
  · rw [e, show (25173 : Int32) = nI 25173 from rfl, pk_mul, show (13849 : Int32) = nI 13849 from rfl, nI_add]
  · unfold sLot
    rw [e, i_cl (by omega)]
theorem lot_lt {R : Nat → Int32} : sLot R < 65536 := Nat.mod_lt _ (by omega)
theorem toNat_nI {n : Nat} (h : n < 2147483648) : (nI n).toBitVec.toNat = n := by
  unfold nI
  show (BitVec.ofNat 32 n).toNat = n
  rw [BitVec.toNat_ofNat]
  exact Nat.mod_eq_of_lt (by omega)
theorem draw_eq {p : Nat} {M : xMem} (ok : RowOk (M p)) : g6_draw p M = some (nI (sLot (M p) % 10), upM M p 330 (nI (sLot (M p)))) := by
  obtain ⟨n, hn, e, s⟩ := lot_raw ok
  unfold g6_draw
  have e2 : nI n &&& 65535 = nI (sLot (M p)) := by
    rw [pk_and (m := 65535) _ 16 (by decide), toNat_nI hn, s]
  rw [e, e2]
  simp only [mset_eq, up_s]
  have h1 := lot_lt (R := M p)
  rw [show nI (sLot (M p)) - nI (sLot (M p)) / 10 * 10 = nI (sLot (M p) % 10) from pk_rem (by omega) (by decide) (by decide)]
theorem draw9_eq {M : xMem} (ok : RowOk (M 7)) : g9_draws M = some (nI (sLot (M 7) % 10), upM M 7 330 (nI (sLot (M 7)))) := by
  obtain ⟨n, hn, e, s⟩ := lot_raw ok
  unfold g9_draws
  have e2 : nI n - nI n / 65536 * 65536 = nI (sLot (M 7)) := by
    rw [s]
    exact pk_rem hn (by decide) (by decide)
  rw [e, e2]
  simp only [mset_eq, up_s]
  have h1 := lot_lt (R := M 7)
  rw [show nI (sLot (M 7)) - nI (sLot (M 7)) / 10 * 10 = nI (sLot (M 7) % 10) from pk_rem (by omega) (by decide) (by decide)]
def sDrawn (R : Nat → Int32) : Nat → Int32 := upd R 330 (nI (sLot R))
theorem sDrawn_ok {R : Nat → Int32} (ok : RowOk R) : RowOk (sDrawn R) := ok.upd (ok_le (m := 65535) rfl (by have := lot_lt (R := R); omega))
def sRun (V : Nat → (Nat → Int32) → Int32) : Nat → (Nat → Int32) → Int32 → (Nat → Int32) × Int32
  | 0, R, l => (R, l)
  | n + 1, R, l => sRun V n (sPass V (sDrawn R) (sLot R % 10)).1 (l + (sPass V (sDrawn R) (sLot R % 10)).2)
def sSeenR (V : Nat → (Nat → Int32) → Int32) : Nat → (Nat → Int32) → Int32
  | 0, _ => 0
  | n + 1, R => sSeenH V (sLot R % 10) 6 0 (sDrawn R) ||| sSeenR V n (sPass V (sDrawn R) (sLot R % 10)).1
theorem sRun_ok {V : Nat → (Nat → Int32) → Int32} (L : VB V) : ∀ (n : Nat) (R : Nat → Int32) (l : Int32), RowOk R → RowOk (sRun V n R l).1
  | 0, _, _, ok => ok
  | n + 1, R, l, ok => sRun_ok L n _ _ (sPass_ok L (sDrawn_ok ok))
theorem runs_b {p m : Nat} (hp : p < 10) (hm : m < 4000) {B : xMem} {V : Nat → (Nat → Int32) → Int32} (L : LawV B V) {M : xMem} : ∀ (n k f : Nat) (x : Int32) (N : xMem), k + n = m → n < f → lawC B N → RowOk (N p) → Off (SS p) M N →
    ∃ K, g0_passHours_b5 p f (nI m) x (nI k) N = some ((sRun V n (N p) x).2, K) ∧ K p = (sRun V n (N p) x).1 ∧ Off (SS p) M K ∧ K 102 0 = N 102 0 ||| sSeenR V n (N p)
  | 0, k, f + 1, x, N, hk, hn, lb, ok, o => by
    obtain rfl : k = m := by omega
    unfold g0_passHours_b5
    rw [if_pos ((nI_leI (by omega) (by omega)).mpr (Nat.le_refl _))]
    exact ⟨N, rfl, rfl, o, by rw [sSeenR, Int32.or_zero]⟩
  | n + 1, k, f + 1, x, N, hk, hn, lb, ok, o => by
    unfold g0_passHours_b5 sRun sSeenR
    rw [if_neg (fun q => by have := (nI_leI (by omega) (by omega)).mp q; omega), bs (draw_eq ok)]
    have r1 : (upM N p 330 (nI (sLot (N p)))) p = sDrawn (N p) := up_row
    have t1 : (upM N p 330 (nI (sLot (N p)))) 102 = N 102 := up_b (by omega)
    have o1 : Off (SS p) N (upM N p 330 (nI (sLot (N p)))) := ss_p (Off.up (by simp))
    generalize upM N p 330 (nI (sLot (N p))) = N1 at r1 t1 o1 ⊢
    have ok1 : RowOk (N1 p) := by rw [r1]; exact sDrawn_ok ok
    obtain ⟨K, e, r, oK, s⟩ := pass_eq (M := N1) hp (Nat.mod_lt (sLot (N p)) (by omega) : sLot (N p) % 10 < 10) L (lb.tr (lc hp o1)) ok1
    simp only
    rw [bs e]
    simp only [nI_1]
    obtain ⟨K2, e2, r2, o2, s2⟩ := runs_b hp hm L (M := M) n (k + 1) f (x + (sPass V (N1 p) (sLot (N p) % 10)).2) K (by omega) (by omega) ((lb.tr (lc hp o1)).tr (lc hp oK)) (by rw [r]; exact sPass_ok L.vb ok1) ((o.tr o1).tr oK)
    rw [r, r1] at e2 r2 s2
    rw [r1] at s ⊢
    exact ⟨K2, e2, r2, o2, by rw [s2, s, t1, Int32.or_assoc]⟩
theorem runs_eq {p n : Nat} (hp : p < 10) (hn : n < 4000) {B : xMem} {V : Nat → (Nat → Int32) → Int32} (L : LawV B V) {M : xMem} (lb : lawC B M) (ok : RowOk (M p)) :
    ∃ K, g0_passHours p (nI n) M = some ((sRun V n (M p) 0).2, K) ∧ K p = (sRun V n (M p) 0).1 ∧ Off (SS p) M K ∧ K 102 0 = M 102 0 ||| sSeenR V n (M p) :=
  runs_b hp hn L n 0 5000 0 M (by omega) (by omega) lb ok Off.rf
theorem runs9_b {m : Nat} (hm : m < 4000) {B : xMem} {V : Nat → (Nat → Int32) → Int32} (L : LawV B V) {M : xMem} : ∀ (n k f : Nat) (x : Int32) (N : xMem), k + n = m → n < f → lawM B N → RowOk (N 7) → Off TT M N →
    ∃ K, g9_runs_b4 f (nI m) x (nI k) N = some ((sRun V n (N 7) x).2, K) ∧ K 7 = (sRun V n (N 7) x).1 ∧ Off TT M K
  | 0, k, f + 1, x, N, hk, hn, lb, ok, o => by
    obtain rfl : k = m := by omega
    unfold g9_runs_b4
    rw [if_pos ((nI_leI (by omega) (by omega)).mpr (Nat.le_refl _))]
    exact ⟨N, rfl, rfl, o⟩
  | n + 1, k, f + 1, x, N, hk, hn, lb, ok, o => by
    unfold g9_runs_b4 sRun
    rw [if_neg (fun q => by have := (nI_leI (by omega) (by omega)).mp q; omega), bs (draw9_eq ok)]
    have r1 : (upM N 7 330 (nI (sLot (N 7)))) 7 = sDrawn (N 7) := up_row
    have o1 : Off TT N (upM N 7 330 (nI (sLot (N 7)))) := tt_7 (Off.up (by simp))
    generalize upM N 7 330 (nI (sLot (N 7))) = N1 at r1 o1 ⊢
    have ok1 : RowOk (N1 7) := by rw [r1]; exact sDrawn_ok ok
    obtain ⟨K, e, r, oK⟩ := pass9_eq (M := N1) (Nat.mod_lt (sLot (N 7)) (by omega) : sLot (N 7) % 10 < 10) L (lb.tr (lm o1)) ok1
    simp only
    rw [bs e]
    simp only [nI_1]
    obtain ⟨K2, e2, r2, o2⟩ := runs9_b hm L (M := M) n (k + 1) f (x + (sPass V (N1 7) (sLot (N 7) % 10)).2) K (by omega) (by omega) ((lb.tr (lm o1)).tr (lm oK)) (by rw [r]; exact sPass_ok L.vb ok1) ((o.tr o1).tr oK)
    rw [r, r1] at e2 r2
    rw [r1]
    exact ⟨K2, e2, r2, o2⟩
theorem runs9_eq {n : Nat} (hn : n < 4000) {B : xMem} {V : Nat → (Nat → Int32) → Int32} (L : LawV B V) {M : xMem} (lb : lawM B M) (ok : RowOk (M 7)) :
    ∃ K, g9_runs (nI n) M = some ((sRun V n (M 7) 0).2, K) ∧ K 7 = (sRun V n (M 7) 0).1 ∧ Off TT M K :=
  runs9_b hn L n 0 5000 0 M (by omega) (by omega) lb ok Off.rf
/-- rows may have changed, and scratch blocks -/
theorem Inv.rows {M N : xMem} (I : Inv M) {S : List Nat} (o : Off S M N) (hS : ∀ b ∈ S, b ∉ PB) (hz : ∀ b ∈ S, b < 10 → RowOk (N b)) (h7 : N 7 = N 0) (ok : RowOk (N 0)) : Inv N := by
  refine I.fr h7 ok (fun b hb j hj => ?_) fun b hb => o b fun q => hS b q hb
  by_cases c : b ∈ S
  · exact (hz b c hb).out hj
  · rw [o b c]; exact I.z b hb j hj
theorem pair_hours (a : Int32) : Pair (g8_hours a) (g9_hours a) := by
  intro M I
  unfold g8_hours g9_hours
  rw [in8_9]
  rcases in_cases a 1 24 1 24 with h | ⟨n, -, hn, rfl, h⟩
  · exact ⟨-1, M, M, by rw [b0 (h M)], by rw [b0 (h M)], I⟩
  obtain ⟨V, L⟩ := lawV_of I.law
  obtain ⟨K, e, r, o, -⟩ := runs_eq (p := 0) (n := n) (by decide) (by omega) L (fun _ _ => rfl) I.ok
  have k7 : K 7 = M 0 := (o 7 (by decide)).trans I.eq7
  obtain ⟨K', e', r', o'⟩ := runs9_eq (n := n) (M := K) (by omega) L (lawM.off' o (by decide)) (by rw [k7]; exact I.ok)
  rw [k7] at e' r'
  refine ⟨(sRun V n (M 0) 0).2, K, K', by rw [b1 (h M), bs e], by rw [b1 (h K), bs e'], ?_⟩
  have r0 : K' 0 = (sRun V n (M 0) 0).1 := (o' 0 (by decide)).trans r
  have ok' := sRun_ok L.vb n (M 0) 0 I.ok
  refine I.rows (S := SS 0 ++ TT) (fun b hb => ?_) (by decide) (fun b hb h10 => ?_) (by rw [r', r0]) (by rw [r0]; exact ok')
  · rw [o' b (fun q => hb (List.mem_append_right _ q)), o b (fun q => hb (List.mem_append_left _ q))]
  · have : b = 0 ∨ b = 7 := by revert b; decide
    rcases this with rfl | rfl
    · rw [r0]; exact ok'
    · rw [r']; exact ok'
theorem pair_hour (a : Int32) : Pair (g8_hour a) (g9_hour a) := by
  intro M I
  unfold g8_hour g9_hour
  rw [in8_9]
  rcases in_cases a 0 9 0 9 with h | ⟨d, -, hd, rfl, h⟩
  · exact ⟨-1, M, M, by rw [b0 (h M)], by rw [b0 (h M)], I⟩
  obtain ⟨V, L⟩ := lawV_of I.law
  obtain ⟨K, e, r, o, -⟩ := pass_eq (p := 0) (d := d) (by decide) (by omega) L (fun _ _ => rfl) I.ok
  have k7 : K 7 = M 0 := (o 7 (by decide)).trans I.eq7
  obtain ⟨K', e', r', o'⟩ := pass9_eq (d := d) (M := K) (by omega) L (lawM.off' o (by decide)) (by rw [k7]; exact I.ok)
  rw [k7] at e' r'
  refine ⟨(sPass V (M 0) d).2, K, K', by rw [b1 (h M), bs e], by rw [b1 (h K), bs e'], ?_⟩
  have r0 : K' 0 = (sPass V (M 0) d).1 := (o' 0 (by decide)).trans r
  have ok' := sPass_ok L.vb (d := d) I.ok
  refine I.rows (S := SS 0 ++ TT) (fun b hb => ?_) (by decide) (fun b hb h10 => ?_) (by rw [r', r0]) (by rw [r0]; exact ok')
  · rw [o' b (fun q => hb (List.mem_append_right _ q)), o b (fun q => hb (List.mem_append_left _ q))]
  · have : b = 0 ∨ b = 7 := by revert b; decide
    rcases this with rfl | rfl
    · rw [r0]; exact ok'
    · rw [r']; exact ok'
