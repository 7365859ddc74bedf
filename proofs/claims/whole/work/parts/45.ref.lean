/-! Who sees whom: the reference. A row of 51 numbers holds a grid. -/
def RR (o : tMo) (w : tA) (g : tG) : Prop := o.2.1 = nI (gw g) ∧ o.2.2.1 = nI (gh g) ∧ (∀ k, k < 36 → w k = nI (gt g k)) ∧ w 36 = nI (gT g) ∧ (∀ k, k < gT g → w (37 + k) = nI (gc g k)) ∧ (∀ k, k < gT g → w (42 + k) = nI (gr g k)) ∧ (∀ k, k < 4 → w (47 + k) = nI (gs g k))
theorem cells_eq {o : tMo} {w : tA} {g : tG} (hR : RR o w g) : fX5_cells o = some (nI (gN g)) := by
  rw [fX5_cells, hR.1, hR.2.1, pk_mul]
  rfl
/-! in(v, least, most), of ints made long -/
theorem w_lt (a b : Int32) : a.toInt64 < b.toInt64 ↔ a < b := by
  rw [Int64.lt_iff_toInt_lt, Int32.lt_iff_toInt_lt, Int32.toInt_toInt64, Int32.toInt_toInt64]
theorem cmp_lt (x y : Int64) : lg_cmp x y < 0 ↔ x < y := by
  rw [← Int32.not_le, lg_cmp_ge, Int64.not_le]
theorem cmp_gt (x y : Int64) : 0 < lg_cmp x y ↔ y < x := by
  rw [← Int32.not_le, lg_cmp_le, Int64.not_le]
theorem in_eq (a b c : Int32) : fX5_in a.toInt64 b.toInt64 c.toInt64 = some (if b ≤ a ∧ a ≤ c then 1 else 0) := by
  rw [fX5_in]
  by_cases h1 : a < b
  · rw [if_pos ((cmp_lt _ _).mpr ((w_lt a b).mpr h1)), if_neg (fun q => absurd h1 (Int32.not_lt.mpr q.1))]
  · rw [if_neg (fun q => h1 ((w_lt a b).mp ((cmp_lt _ _).mp q)))]
    by_cases h2 : c < a
    · rw [if_pos ((cmp_gt _ _).mpr ((w_lt c a).mpr h2)), if_neg (fun q => absurd h2 (Int32.not_lt.mpr q.2))]
    · rw [if_neg (fun q => h2 ((w_lt c a).mp ((cmp_gt _ _).mp q))), if_pos ⟨Int32.not_lt.mp h1, Int32.not_lt.mp h2⟩]
theorem zb_if {α : Type} (c : Prop) [Decidable c] (k : Option α) : gd (zb (if c then 1 else 0)) k = k := by
  by_cases h : c
  · rw [if_pos h]; rfl
  · rw [if_neg h]; rfl
/-- an int is a number below n, or it isn't -/
theorem below (u : Int32) {n : Nat} (h1 : 1 ≤ n) (hn : n < 2 ^ 30) : (∃ a, a < n ∧ u = nI a) ∨ (¬ (0 ≤ u ∧ u ≤ nI n - 1) ∧ ∀ a, a < n → u ≠ nI a) := by
  rcases pk_ix u (n := n) (by omega) with h | h | h
  · refine Or.inr ⟨fun q => absurd h (Int32.not_lt.mpr q.1), fun a ha e => ?_⟩
    rw [e] at h
    exact nI_pos (by omega) h
  · refine Or.inr ⟨fun q => ?_, fun a ha e => ?_⟩
    · have h2 := Int32.le_trans h q.2
      rw [show (1 : Int32) = nI 1 from rfl, pk_sub h1] at h2
      exact nI_ge (a := n - 1) (b := n) (by omega) (by omega) h2
    · rw [e] at h
      exact nI_ge ha (by omega) h
  · exact Or.inl h
theorem in_yes {a n : Nat} (ha : a < n) (hn : n < 2 ^ 30) : fX5_in (nI a).toInt64 (0 : Int64) ((nI n - (1 : Int32)).toInt64) = some 1 := by
  rw [show (0 : Int64) = (0 : Int32).toInt64 from rfl, in_eq, if_pos]
  refine ⟨nI_pos' (by omega), ?_⟩
  rw [show (1 : Int32) = nI 1 from rfl, pk_sub (by omega)]
  exact nI_le (by omega) (by omega)
theorem in_no {u : Int32} {n : Nat} (h : ¬ (0 ≤ u ∧ u ≤ nI n - 1)) : fX5_in u.toInt64 (0 : Int64) ((nI n - (1 : Int32)).toInt64) = some 0 := by
  rw [show (0 : Int64) = (0 : Int32).toInt64 from rfl, in_eq, if_neg h]
theorem isCell_yes {o : tMo} {w : tA} {g : tG} (hg : GG g) (hR : RR o w g) {a : Nat} (ha : a < gN g) : fX5_isCell o (nI a) = some 1 := by
  have h36 := gN_le hg
  rw [fX5_isCell, cells_eq hR, some_bind, in_yes ha (by omega)]
  rfl
theorem isCell_no {o : tMo} {w : tA} {g : tG} (hR : RR o w g) {u : Int32} (h : ¬ (0 ≤ u ∧ u ≤ nI (gN g) - 1)) : fX5_isCell o u = some 0 := by
  rw [fX5_isCell, cells_eq hR, some_bind, in_no h]
  rfl
theorem hasCell_yes {L : tL} {g : tG} (hg : GG g) (hL : LL L g) {a : Nat} (ha : a < gN g) : fX1_hasCell L (nI a) = some 1 := by
  have h36 := gN_le hg
  rw [fX1_hasCell, if_neg (nI_pos (by omega)), LL_N hL, if_neg (nI_ge ha (by omega))]
theorem hasCell_no {L : tL} {g : tG} (hg : GG g) (hL : LL L g) {u : Int32} (h : ∀ a, a < gN g → u ≠ nI a) : fX1_hasCell L u = some 0 := by
  have h36 := gN_le hg
  rw [fX1_hasCell, LL_N hL]
  by_cases h0 : u < 0
  · rw [if_pos h0]
  · rw [if_neg h0]
    by_cases h1 : nI (gN g) ≤ u
    · rw [if_pos h1]
    · obtain ⟨j, hj, rfl⟩ := (pk_ix u (n := gN g) (by omega)).resolve_left h0 |>.resolve_left h1
      exact absurd rfl (h j hj)
theorem isTower_yes {o : tMo} {w : tA} {g : tG} (hg : GG g) (hR : RR o w g) {t : Nat} (ht : t < gT g) : fX5_isTower o w (nI t) = some 1 := by
  have h5 := hg.2.2.1
  rw [fX5_isTower, show ((36 : Int32).toNatClampNeg) = 36 from rfl, hR.2.2.2.1, in_yes ht (by omega)]
  rfl
theorem isTower_no {o : tMo} {w : tA} {g : tG} (hR : RR o w g) {u : Int32} (h : ¬ (0 ≤ u ∧ u ≤ nI (gT g) - 1)) : fX5_isTower o w u = some 0 := by
  rw [fX5_isTower, show ((36 : Int32).toNatClampNeg) = 36 from rfl, hR.2.2.2.1, in_no h]
  rfl
/-! distance -/
theorem size_nI {a b : Nat} (ha : a < 2 ^ 29) (hb : b < 2 ^ 29) : fX5_size (nI b - nI a) = some (nI (absd a b)) := by
  have h0 : (0 : Int32) = iI 0 := rfl
  rw [fX5_size, nI_sub, h0]
  by_cases h : a ≤ b
  · rw [if_pos ((iI_le (by omega) (by omega) (by omega) (by omega)).mpr (by omega)), ← iI_nat]
    congr 2
    unfold absd
    omega
  · rw [if_neg (fun q => h (by have := (iI_le (by omega) (by omega) (by omega) (by omega)).mp q; omega)), iI_neg, ← iI_nat]
    congr 2
    unfold absd
    omega
theorem mdist_eq {o : tMo} {w : tA} {g : tG} (hg : GG g) (hR : RR o w g) {a b : Nat} (ha : a < gN g) (hb : b < gN g) : fX5_distance o (nI a) (nI b) = some (nI (dst (gw g) a b)) := by
  have h1 := hg.1
  have h2 := gN_le hg
  have c1 := col_le hg a
  have c2 := col_le hg b
  have r1 := row_le hg ha
  have r2 := row_le hg hb
  have d1 := absd_le c1 c2
  have d2 := absd_le r1 r2
  rw [fX5_distance, hR.1]
  simp only [gd_nz (show 0 < gw g by omega) (show gw g < 2 ^ 31 by omega)]
  rw [pk_rem (by omega) (by omega) (by omega), pk_rem (by omega) (by omega) (by omega), size_nI (by omega) (by omega), some_bind, pk_div (by omega) (by omega) (by omega), pk_div (by omega) (by omega) (by omega), size_nI (by omega) (by omega), some_bind]
  unfold dst
  by_cases h : absd (a % gw g) (b % gw g) ≤ absd (a / gw g) (b / gw g)
  · rw [if_pos (nI_le h (by omega)), Nat.max_eq_right h]
  · rw [if_neg (nI_ge (by omega) (by omega)), Nat.max_eq_left (by omega)]
/-! the cells at a step: a finite check -/
def nearZ (x y n k : Nat) (e : Nat) : Option Int32 := (fX5_nearest (nI k * (nI y - nI x)) (nI n) (nI e)).bind fun r => some (nI x + r)
theorem near_all : ∀ x, x < 6 → ∀ y, y < 6 → ∀ n, n < 6 → ∀ k, k < n → ∀ e, e < 2 → nearZ x y n k e = some (nI (rnd x y n k (1 - e))) := by decide +kernel
