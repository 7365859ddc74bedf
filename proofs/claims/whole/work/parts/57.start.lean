/-! A new grid, and the start. -/
def g0 (w h : Nat) : tG := (w, h, 0, fun _ => 0, fun _ => 0, fun _ => 0, fun k => if k = 0 then 1 else if k = 3 then 9 else 0)
theorem GG_g0 {w h : Nat} (h1 : 2 ≤ w ∧ w ≤ 6) (h2 : 2 ≤ h ∧ h ≤ 6) : GG (g0 w h) := by
  refine ⟨h1, h2, by show 0 ≤ 5; omega, fun k _ => Nat.zero_le _, fun k hk => absurd hk (Nat.not_lt_zero k), fun k hk => absurd hk (Nat.not_lt_zero k), ?_, ?_⟩
  · show ∀ k, k < 4 → (if k = 0 then 1 else if k = 3 then 9 else 0) ≤ 9
    decide
  · show 1 ≤ (if 3 = 0 then 1 else if 3 = 3 then 9 else 0)
    decide
def zr (w : tA) (x : Int32) (i n : Nat) : tA := fun j => if i ≤ j ∧ j < n then x else w j
theorem zr_end (w : tA) (x : Int32) (n : Nat) : zr w x n n = w := funext (fun k => if_neg (by omega))
theorem zr_step (w : tA) (x : Int32) {i n : Nat} (hi : i < n) : zr (upd w i x) x (i + 1) n = zr w x i n := by
  funext j
  unfold zr
  by_cases h : i + 1 ≤ j ∧ j < n
  · rw [if_pos h, if_pos (by omega)]
  · rw [if_neg h]
    by_cases q : j = i
    · rw [q, pk_us, if_pos (by omega)]
    · rw [pk_un q, if_neg (by omega)]
theorem fillz_loop (x : Int32) (k20 : tA → Option tA) : ∀ (d i f : Nat) (w : tA), i + d = 36 → d < f → fJ7_fill_53178_5 x (nI 36) k20 f (nI i) w = k20 (zr w x i 36) := by
  intro d
  induction d with
  | zero =>
    intro i f w h1 h2
    obtain ⟨f, rfl⟩ : ∃ m, f = m + 1 := ⟨f - 1, by omega⟩
    rw [fJ7_fill_53178_5, if_pos (nI_le (by omega) (by omega)), show i = 36 by omega, zr_end]
  | succ d ih =>
    intro i f w h1 h2
    obtain ⟨f, rfl⟩ : ∃ m, f = m + 1 := ⟨f - 1, by omega⟩
    rw [fJ7_fill_53178_5, if_neg (nI_ge (by omega) (by omega)), gd_inb (by omega) (by decide), nm_eq, nI_add1, toN (by omega), ih (i + 1) f _ (by omega) (by omega), zr_step _ _ (by omega)]
theorem startAnew_eq (L : tL) (w h : Nat) : ∃ L', fX1_startAnew L (nI w) (nI h) = some L' ∧ LL L' (g0 w h) := by
  refine ⟨(nI w, nI h, 0, zr L.2.2.2.1 0 0 36, L.2.2.2.2.1, L.2.2.2.2.2.1, upd (upd (upd (upd L.2.2.2.2.2.2 0 1) 1 0) 2 0) 3 9), ?_, rfl, rfl, rfl, fun k hk => ?_, fun k hk => absurd hk (Nat.not_lt_zero k), fun k hk => absurd hk (Nat.not_lt_zero k), fun k hk => ?_⟩
  · have e : fJ7_fill_53178 L.2.2.2.1 0 = some (zr L.2.2.2.1 0 0 36) := by
      rw [fJ7_fill_53178]
      exact fillz_loop 0 _ 36 0 100000 _ (by decide) (by decide)
    rw [fX1_startAnew, e]
    rfl
  · show zr L.2.2.2.1 0 0 36 k = nI 0
    unfold zr
    rw [if_pos (by omega)]
    rfl
  · show upd (upd (upd (upd L.2.2.2.2.2.2 0 1) 1 0) 2 0) 3 9 k = nI (if k = 0 then 1 else if k = 3 then 9 else 0)
    have : k = 0 ∨ k = 1 ∨ k = 2 ∨ k = 3 := by omega
    rcases this with rfl | rfl | rfl | rfl <;> rfl
theorem clear_loop (k18 : tA → Option tA) : ∀ (d i f : Nat) (w : tA), i + d = 51 → d < f → fX5_clear_2 k18 f (nI i) w = k18 (zr w 0 i 51) := by
  intro d
  induction d with
  | zero =>
    intro i f w h1 h2
    obtain ⟨f, rfl⟩ : ∃ m, f = m + 1 := ⟨f - 1, by omega⟩
    rw [fX5_clear_2, if_pos (show (51 : Int32) ≤ nI i from nI_le (a := 51) (by omega) (by omega)), show i = 51 by omega, zr_end]
  | succ d ih =>
    intro i f w h1 h2
    obtain ⟨f, rfl⟩ : ∃ m, f = m + 1 := ⟨f - 1, by omega⟩
    rw [fX5_clear_2, if_neg (show ¬ (51 : Int32) ≤ nI i from nI_ge (b := 51) (by omega) (by decide)), gd_inb (by omega) (by decide), nm_eq, nI_add1, toN (by omega), ih (i + 1) f _ (by omega) (by omega), zr_step _ _ (by omega)]
theorem clear_eq (v : tA) : ∃ w', fX5_clear v = some w' ∧ ∀ w h : Nat, RQ (nI w) (nI h) w' (g0 w h) := by
  refine ⟨upd (upd (zr v 0 0 51) 47 1) 50 9, ?_, fun w h => ⟨rfl, rfl, fun k hk => ?_, ?_, fun k hk => absurd hk (Nat.not_lt_zero k), fun k hk => absurd hk (Nat.not_lt_zero k), fun k hk => ?_⟩⟩
  · rw [fX5_clear]
    exact clear_loop _ 51 0 100000 v (by decide) (by decide)
  · rw [pk_un (by omega), pk_un (by omega)]
    unfold zr
    rw [if_pos (by omega)]
    rfl
  · rfl
  · show _ = nI (if k = 0 then 1 else if k = 3 then 9 else 0)
    have : k = 0 ∨ k = 1 ∨ k = 2 ∨ k = 3 := by omega
    rcases this with rfl | rfl | rfl | rfl <;> rfl
theorem sim_start : ∃ L0 w0, fX1_startAnew ((0 : Int32), (0 : Int32), (0 : Int32), ((fun _ => 0) : tA), ((fun _ => 0) : tA), ((fun _ => 0) : tA), ((fun _ => 0) : tA)) 2 2 = some L0 ∧ fX5_clear ((fun _ => 0)) = some w0 ∧ Sim (S0of L0) (M0of w0) := by
  obtain ⟨L0, l1, l2⟩ := startAnew_eq ((0 : Int32), (0 : Int32), (0 : Int32), ((fun _ => 0) : tA), ((fun _ => 0) : tA), ((fun _ => 0) : tA), ((fun _ => 0) : tA)) 2 2
  obtain ⟨w0, w1, w2⟩ := clear_eq (fun _ => 0)
  refine ⟨L0, w0, l1, w1, g0 2 2, GG_g0 (by decide) (by decide), l2, RQ_RR (w2 2 2), ⟨0, by decide, rfl, rfl, fun k hk => absurd hk (Nat.not_lt_zero k)⟩, ⟨0, by decide, rfl, rfl, fun k hk => absurd hk (Nat.not_lt_zero k)⟩, ⟨false, false, rfl, rfl, rfl, fun q => (by cases q), fun q => (by cases q)⟩, ⟨0, 0, by decide, by decide, rfl, rfl, rfl, trivial⟩, rfl⟩
