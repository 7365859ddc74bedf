/-! Signs. -/
theorem sign_eq (M : tM) {v T : Nat} (hv : v ≤ 255) (hT : T ≤ 5) (nw nh fl sg ph : Int32) (row flg : tA) (hr : row 36 = nI T) : fX5_takeSign (setX M nw nh fl sg ph row flg) (nI v) = some (bI (if v = 116 then decide (T < 5) else if sI v < 4 then decide (flg (sI v) = 0) else false), setX M nw nh fl (nI v) 1 row flg) := by
  rw [fX5_takeSign, show (setX M nw nh fl sg ph row flg).2.2.2.2.2.2.2.2.2.1 = row from rfl, show (setX M nw nh fl sg ph row flg).2.2.2.2.2.2.2.2.2.2.1 = flg from rfl, show ((36 : Int32).toNatClampNeg) = 36 from rfl, hr]
  by_cases h : v = 116
  · rw [if_pos (show nI v = (116 : Int32) by rw [h]; rfl), if_pos h]
    by_cases t : T < 5
    · rw [if_neg (show ¬ (5 : Int32) ≤ nI T from nI_ge (b := 5) t (by decide)), decide_eq_true t]
      rfl
    · rw [if_pos (show (5 : Int32) ≤ nI T from nI_le (a := 5) (by omega) (by omega)), decide_eq_false t]
      rfl
  · rw [if_neg (show ¬ nI v = (116 : Int32) from fun q => h ((nI_eq (b := 116) (by omega) (by decide)).mp q)), if_neg h, setting_all v (by omega), some_bind]
    by_cases s : sI v < 4
    · rw [if_pos s, if_pos s, if_neg (nI_n9 (by omega)), gd_inb s (by decide), toN (by omega)]
      by_cases z : flg (sI v) = 0
      · rw [if_pos z, decide_eq_true z]
        rfl
      · rw [if_neg z, decide_eq_false z]
        rfl
    · rw [if_neg s, if_neg s, if_pos rfl]
      rfl
