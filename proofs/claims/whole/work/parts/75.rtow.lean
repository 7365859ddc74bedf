/-! The class reads a tower, a setting. -/
theorem dF_yes {t : Nat → Nat} {n p l m : Nat} (h : p < n ∧ 48 + l ≤ t p ∧ t p ≤ 48 + m) : digF t n p l m = true := by
  unfold digF
  rw [decide_eq_true h.1, decide_eq_true h.2.1, decide_eq_true h.2.2]
  rfl
theorem dF_of {t : Nat → Nat} {n p l m : Nat} (h : digF t n p l m = true) : p < n ∧ 48 + l ≤ t p ∧ t p ≤ 48 + m := by
  unfold digF at h
  rw [Bool.and_eq_true, Bool.and_eq_true, decide_eq_true_eq, decide_eq_true_eq, decide_eq_true_eq] at h
  exact ⟨h.1.1, h.1.2, h.2⟩
theorem dF_no {t : Nat → Nat} {n p l m : Nat} (h : ¬ (p < n ∧ 48 + l ≤ t p ∧ t p ≤ 48 + m)) : ¬ digF t n p l m = true := fun q => h (dF_of q)
theorem rT_yes {X : tX} {M : tM} {t : Nat → Nat} {n p : Nat} (h : txt X M t n) (hp : p < 900) {L : tL} {g : tG} (hg : GG g) (hL : LL L g) (hT : gT g < 5) (m : Int32) : fX2_readTower (posX X p m) L = if digF t n (p + 1) 0 ((gN g - 1) / 10) then (if digF t n (p + 2) 0 (min 9 (gN g - 1 - 10 * (t (p + 1) - 48))) then (if digF t n (p + 3) 0 9 then (fX1_putTower L (nI (gT g)) (nI (10 * (t (p + 1) - 48) + (t (p + 2) - 48))) (nI (t (p + 3) - 48))).bind fun y12 => if y12.1 = 0 then some ((0 : Int32), posX X (p + 4) m, y12.2) else some ((1 : Int32), posX X (p + 4) m, y12.2) else some ((0 : Int32), posX X (p + 3) m, L)) else some ((0 : Int32), posX X (p + 2) m, L)) else some ((0 : Int32), posX X (p + 1) m, L) := by
  have h36 := gN_le hg
  have h4 := gN_ge hg
  have d1 := dig_p h (p := p + 1) (l := 0) (m := (gN g - 1) / 10) (by omega) (by decide) (by omega) m
  have d3 := dig_p h (p := p + 3) (l := 0) (m := 9) (by omega) (by decide) (by decide) m
  have e0 : fX2_readTower (posX X p m) L = (fX2_readDigit (posX X (p + 1) m) (nI 0) (nI ((gN g - 1) / 10))).bind fun y6 => if 0 ≤ y6.1 then (fX2_readDigit y6.2 (0 : Int32) (if (nI (gN g - 1) - ((10 : Int32) * y6.1)) < (9 : Int32) then (nI (gN g - 1) - ((10 : Int32) * y6.1)) else (9 : Int32))).bind fun y8 => if 0 ≤ y8.1 then (fX2_readDigit y8.2 (0 : Int32) (9 : Int32)).bind fun y10 => if y10.1 < 0 then some ((0 : Int32), y10.2, L) else (fX1_putTower L L.2.2.1 (((10 : Int32) * y6.1) + y8.1) y10.1).bind fun y12 => if y12.1 = 0 then some ((0 : Int32), y10.2, y12.2) else some ((1 : Int32), y10.2, y12.2) else some ((0 : Int32), y8.2, L) else some ((0 : Int32), y6.2, L) := by
    rw [fX2_readTower, if_pos (show L.2.2.1 < (5 : Int32) by rw [hL.2.2.1]; exact nI_lt (b := 5) hT (by decide)), nm_eq, fX1_cellCount, LL_N hL, some_bind, nm_eq, show nI (gN g) - (1 : Int32) = nI (gN g - 1) by rw [show (1 : Int32) = nI 1 from rfl, pk_sub (by omega)], show nI (gN g - 1) / (10 : Int32) = nI ((gN g - 1) / 10) by rw [show (10 : Int32) = nI 10 from rfl, pk_div (by omega) (by decide) (by decide)], show (posX X p m).2.2.1 + (1 : Int32) = nI (p + 1) from nI_add1 p]
    rfl
  rw [e0, d1]
  by_cases q1 : digF t n (p + 1) 0 ((gN g - 1) / 10) = true
  · have b1 := dF_of q1
    have d2 := dig_p h (p := p + 2) (l := 0) (m := min 9 (gN g - 1 - 10 * (t (p + 1) - 48))) (by omega) (by decide) (by omega) m
    rw [if_pos q1, if_pos q1, some_bind]
    dsimp only
    rw [if_pos (nI_pos' (by omega)), show (10 : Int32) * nI (t (p + 1) - 48) = nI (10 * (t (p + 1) - 48)) from pk_mul 10 _, pk_sub (by omega), show (if nI (gN g - 1 - 10 * (t (p + 1) - 48)) < (9 : Int32) then nI (gN g - 1 - 10 * (t (p + 1) - 48)) else (9 : Int32)) = nI (min 9 (gN g - 1 - 10 * (t (p + 1) - 48))) from min_nI (a := 9) (by decide) (by omega), show fX2_readDigit (posX X (p + 1 + 1) m) (0 : Int32) (nI (min 9 (gN g - 1 - 10 * (t (p + 1) - 48)))) = _ from d2]
    by_cases q2 : digF t n (p + 2) 0 (min 9 (gN g - 1 - 10 * (t (p + 1) - 48))) = true
    · have b2 := dF_of q2
      rw [if_pos q2, if_pos q2, some_bind]
      dsimp only
      rw [if_pos (nI_pos' (by omega)), show fX2_readDigit (posX X (p + 2 + 1) m) (0 : Int32) (9 : Int32) = _ from d3]
      by_cases q3 : digF t n (p + 3) 0 9 = true
      · have b3 := dF_of q3
        rw [if_pos q3, if_pos q3, some_bind]
        dsimp only
        rw [if_neg (nI_pos (by omega)), hL.2.2.1, nI_add]
      · rw [if_neg q3, if_neg q3, some_bind]
        rfl
    · rw [if_neg q2, if_neg q2, some_bind]
      rfl
  · rw [if_neg q1, if_neg q1, some_bind]
    rfl
theorem rT_no {X : tX} {p : Nat} {L : tL} {g : tG} (hL : LL L g) (hT : 5 ≤ gT g) (hT2 : gT g < 100) (m : Int32) : fX2_readTower (posX X p m) L = some ((0 : Int32), posX X p m, L) := by
  rw [fX2_readTower, if_neg]
  rw [hL.2.2.1]
  exact nI_nlt (b := 5) hT (by omega)
