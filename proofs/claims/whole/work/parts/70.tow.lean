/-! The letters of a tower. -/
theorem tow_1 (M : tM) {v T W H : Nat} (hT : T < 5) (h1 : 1 ≤ W * H) (hW : W * H ≤ 36) (fl sg : Int32) (row flg : tA) (hr : row 36 = nI T) : fX5_takeInTower (setX M (nI W) (nI H) fl sg 1 row flg) (dg v) = some (bI (decide ((48 ≤ v ∧ v ≤ 57) ∧ 10 * (v - 48) < W * H)), setX M (nI W) (nI H) fl sg 2 (upd row (37 + T) (10 * dg v)) flg) := by
  rw [fX5_takeInTower, show (setX M (nI W) (nI H) fl sg 1 row flg).2.2.2.2.2.2.2.2.2.1 = row from rfl, show ((36 : Int32).toNatClampNeg) = 36 from rfl, hr, nm_eq, show (setX M (nI W) (nI H) fl sg 1 row flg).1.2.2.2.2.2.2.2.1 = nI W from rfl, show (setX M (nI W) (nI H) fl sg 1 row flg).1.2.2.2.2.2.2.2.2.1 = nI H from rfl, pk_mul, nm_eq, if_pos (show (setX M (nI W) (nI H) fl sg 1 row flg).1.2.2.2.2.2.2.2.2.2.2.2 = (1 : Int32) from rfl), show (37 : Int32) = nI 37 from rfl, nI_add, gd_inb (by omega) (by decide), toN (by omega)]
  by_cases h : 48 ≤ v ∧ v ≤ 57
  · have e : dg v = nI (v - 48) := if_pos h
    rw [e, show (10 : Int32) = nI 10 from rfl, pk_mul]
    by_cases q : 10 * (v - 48) < W * H
    · rw [in_yes q (by omega), some_bind, if_neg one_ne, if_neg (nI_pos (by omega)), decide_eq_true ⟨h, q⟩]
      rfl
    · rw [show (0 : Int64) = (0 : Int32).toInt64 from rfl, in_eq, if_neg (fun z => by rw [show (1 : Int32) = nI 1 from rfl, pk_sub h1] at z; exact nI_ge (a := W * H - 1) (b := 10 * (v - 48)) (by omega) (by omega) z.2), some_bind, if_pos rfl, decide_eq_false (fun z => q z.2)]
      rfl
  · have e : dg v = -9 := if_neg h
    rw [e, show (0 : Int64) = (0 : Int32).toInt64 from rfl, in_eq, if_neg (fun z => absurd z.1 (by decide)), some_bind, if_pos rfl, decide_eq_false (fun z => h z.1)]
    rfl
