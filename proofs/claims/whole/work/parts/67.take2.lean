/-! The reference takes the sides. -/
theorem in_26 {v : Nat} (h : 48 ≤ v ∧ v ≤ 57) : fX5_in (nI (v - 48)).toInt64 (2 : Int64) (6 : Int64) = some (bI (decide (50 ≤ v ∧ v ≤ 54))) := by
  rw [show (2 : Int64) = (nI 2).toInt64 from rfl, show (6 : Int64) = (nI 6).toInt64 from rfl, in_eq]
  by_cases q : 50 ≤ v ∧ v ≤ 54
  · rw [decide_eq_true q, if_pos ⟨nI_le (by omega) (by omega), nI_le (by omega) (by omega)⟩]
    rfl
  · rw [decide_eq_false q]
    by_cases h1 : 50 ≤ v
    · rw [if_neg (fun z => nI_ge (a := 6) (b := v - 48) (by omega) (by omega) z.2)]
      rfl
    · rw [if_neg (fun z => nI_ge (a := v - 48) (b := 2) (by omega) (by omega) z.1)]
      rfl
theorem gd_bI {α : Type} (b : Bool) (k : Option α) : gd (zb (bI b)) k = k := by cases b <;> rfl
theorem tl_1 (M : tM) {v : Nat} (hv : v ≤ 255) (nw nh fl sg ph : Int32) (row flg : tA) : fX5_takeLetter (setX M nw nh fl sg ph row flg) (nI 1) (nI v) = some (bI (decide (50 ≤ v ∧ v ≤ 54)), setX M (dg v) nh fl sg ph row flg) := by
  unfold dg
  rw [fX5_takeLetter, in_dig hv, some_bind]
  by_cases h : 48 ≤ v ∧ v ≤ 57
  · rw [if_pos h, if_neg one_ne, nm_eq, if_neg (by decide), if_pos (by rfl), sub48 h.1, in_26 h, some_bind, gd_bI, if_pos h]
    rfl
  · rw [if_neg h, if_pos rfl, if_neg (by decide), if_pos (by rfl), show fX5_in ((-9 : Int32).toInt64) (2 : Int64) (6 : Int64) = some 0 from rfl, some_bind, gd_zb0, if_neg h, decide_eq_false (show ¬ (50 ≤ v ∧ v ≤ 54) by omega)]
    rfl
theorem tl_2 (M : tM) {v : Nat} (hv : v ≤ 255) (nw nh fl sg ph : Int32) (row flg : tA) : fX5_takeLetter (setX M nw nh fl sg ph row flg) (nI 2) (nI v) = some (bI (decide (50 ≤ v ∧ v ≤ 54)), setX M nw (dg v) fl sg ph row flg) := by
  unfold dg
  rw [fX5_takeLetter, in_dig hv, some_bind]
  by_cases h : 48 ≤ v ∧ v ≤ 57
  · rw [if_pos h, if_neg one_ne, nm_eq, if_neg (by decide), if_neg (by decide), if_pos (by rfl), sub48 h.1, in_26 h, some_bind, gd_bI, if_pos h]
    rfl
  · rw [if_neg h, if_pos rfl, if_neg (by decide), if_neg (by decide), if_pos (by rfl), show fX5_in ((-9 : Int32).toInt64) (2 : Int64) (6 : Int64) = some 0 from rfl, some_bind, gd_zb0, if_neg h, decide_eq_false (show ¬ (50 ≤ v ∧ v ≤ 54) by omega)]
    rfl
