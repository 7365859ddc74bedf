/-! The second and the third letter of a tower. -/
theorem dg_neg {v : Nat} (h : ¬ (48 ≤ v ∧ v ≤ 57)) : dg v < 0 := by
  unfold dg
  rw [if_neg h]
  decide
theorem dg_pos {v : Nat} (h : 48 ≤ v ∧ v ≤ 57) : ¬ dg v < 0 := by
  unfold dg
  rw [if_pos h]
  exact nI_pos (by omega)
theorem tow_2 (M : tM) {v T W H x : Nat} (hT : T < 5) (h1 : 1 ≤ W * H) (hW : W * H ≤ 36) (fl sg : Int32) (row flg : tA) (hr : row 36 = nI T) (hx : row (37 + T) = nI x) (hx2 : x ≤ 90) : fX5_takeInTower (setX M (nI W) (nI H) fl sg 2 row flg) (dg v) = some (bI (decide ((48 ≤ v ∧ v ≤ 57) ∧ x + (v - 48) < W * H)), setX M (nI W) (nI H) fl sg 3 (upd row (37 + T) (nI x + dg v)) flg) := by
  rw [fX5_takeInTower, show (setX M (nI W) (nI H) fl sg 2 row flg).2.2.2.2.2.2.2.2.2.1 = row from rfl, show ((36 : Int32).toNatClampNeg) = 36 from rfl, hr, nm_eq, show (setX M (nI W) (nI H) fl sg 2 row flg).1.2.2.2.2.2.2.2.1 = nI W from rfl, show (setX M (nI W) (nI H) fl sg 2 row flg).1.2.2.2.2.2.2.2.2.1 = nI H from rfl, pk_mul, nm_eq, if_neg (show ¬ (setX M (nI W) (nI H) fl sg 2 row flg).1.2.2.2.2.2.2.2.2.2.2.2 = (1 : Int32) from (by show ¬ (2 : Int32) = 1; decide)), if_pos (show (setX M (nI W) (nI H) fl sg 2 row flg).1.2.2.2.2.2.2.2.2.2.2.2 = (2 : Int32) from rfl), show (37 : Int32) = nI 37 from rfl, nI_add, gd_inb (by omega) (by decide), gd_inb (by omega) (by decide), gd_inb (by omega) (by decide), toN (by omega), pk_us, hx]
  by_cases h : 48 ≤ v ∧ v ≤ 57
  · have e : dg v = nI (v - 48) := if_pos h
    rw [if_neg (dg_pos h), e, nI_add, show (1 : Int32) = nI 1 from rfl, pk_sub h1]
    by_cases q : x + (v - 48) < W * H
    · rw [if_neg (nI_nlt (by omega) (by omega)), decide_eq_true ⟨h, q⟩]
      rfl
    · rw [if_pos (nI_lt (by omega) (by omega)), decide_eq_false (fun z => q z.2)]
      rfl
  · rw [if_pos (dg_neg h), decide_eq_false (fun z => h z.1)]
    rfl
theorem tow_3 (M : tM) {v T W H : Nat} (hT : T < 5) (fl sg : Int32) (row flg : tA) (hr : row 36 = nI T) : fX5_takeInTower (setX M (nI W) (nI H) fl sg 3 row flg) (dg v) = some (bI (decide (48 ≤ v ∧ v ≤ 57)), setX M (nI W) (nI H) fl sg 0 (upd (upd row (42 + T) (dg v)) 36 (nI (T + 1))) flg) := by
  rw [fX5_takeInTower, show (setX M (nI W) (nI H) fl sg 3 row flg).2.2.2.2.2.2.2.2.2.1 = row from rfl, show ((36 : Int32).toNatClampNeg) = 36 from rfl, hr, nm_eq, nm_eq, if_neg (show ¬ (setX M (nI W) (nI H) fl sg 3 row flg).1.2.2.2.2.2.2.2.2.2.2.2 = (1 : Int32) from (by show ¬ (3 : Int32) = 1; decide)), if_neg (show ¬ (setX M (nI W) (nI H) fl sg 3 row flg).1.2.2.2.2.2.2.2.2.2.2.2 = (2 : Int32) from (by show ¬ (3 : Int32) = 2; decide)), show (42 : Int32) = nI 42 from rfl, nI_add, gd_inb (by omega) (by decide), toN (by omega), pk_un (show 36 ≠ 42 + T by omega), hr, nI_add1]
  by_cases h : 48 ≤ v ∧ v ≤ 57
  · rw [if_neg (dg_pos h), decide_eq_true h]
    rfl
  · rw [if_pos (dg_neg h), decide_eq_false h]
    rfl
