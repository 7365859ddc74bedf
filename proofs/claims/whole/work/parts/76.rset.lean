/-! The class reads a setting. -/
theorem msk_put : ∀ k, k < 16 → ∀ j, j < 4 → nI k ||| ((1 : Int32) <<< (nI j &&& 31)) = nI (k ||| 2 ^ j) := by decide +kernel
theorem msk_bits : ∀ k, k < 16 → ∀ j, j < 4 → (k ||| 2 ^ j) < 16 ∧ ∀ i, i < 4 → (k ||| 2 ^ j).testBit i = (decide (i = j) || k.testBit i) := by decide +kernel
theorem rS_eq {X : tX} {M : tM} {t : Nat → Nat} {n p Mk : Nat} (h : txt X M t n) (hp : p < n) (hM : Mk < 16) (L : tL) : fX2_readSetting (posX X p (nI Mk)) L = if sI (t p) < 4 then (if Mk.testBit (sI (t p)) then some ((0 : Int32), posX X p (nI Mk), L) else if digF t n (p + 1) (if sI (t p) = 3 then 1 else 0) 9 then (fX1_putSetting L (nI (sI (t p))) (nI (t (p + 1) - 48))).bind fun y12 => if y12.1 = 0 then some ((0 : Int32), posX X (p + 2) (nI (Mk ||| 2 ^ sI (t p))), y12.2) else some ((1 : Int32), posX X (p + 2) (nI (Mk ||| 2 ^ sI (t p))), y12.2) else some ((0 : Int32), posX X (p + 1) (nI (Mk ||| 2 ^ sI (t p))), L)) else some ((0 : Int32), posX X p (nI Mk), L) := by
  have hn := h.1
  obtain ⟨x1, x2, x3⟩ := h.2.2.2 p hp
  rw [fX2_readSetting, next_eq (X := posX X p (nI Mk)) hn h.2.1 rfl (by omega), if_pos hp, some_bind, show (posX X p (nI Mk)).1 p = nI (t p) from x1, if_pos (nI_pos' (by omega)), index_all (t p) (by omega), some_bind]
  by_cases s : sI (t p) < 4
  · rw [if_pos s, if_pos s, if_neg (nI_pos (by omega)), show (posX X p (nI Mk)).2.2.2 = nI Mk from rfl]
    have hb := msk_has Mk hM (sI (t p)) s
    by_cases b : Mk.testBit (sI (t p)) = true
    · rw [if_pos b, if_neg (fun z => by rw [hb.mp z] at b; cases b)]
    · have b' : Mk.testBit (sI (t p)) = false := by cases z : Mk.testBit (sI (t p)); rfl; exact absurd z b
      have hlow : fX4_lowestValue (nI (sI (t p))) = some (nI (if sI (t p) = 3 then 1 else 0)) := by
        rw [fX4_lowestValue]
        by_cases q : sI (t p) = 3
        · rw [if_pos q, q]
          rfl
        · rw [if_neg q, if_neg (show ¬ nI (sI (t p)) = (3 : Int32) from fun z => q ((nI_eq (b := 3) (by omega) (by decide)).mp z))]
          rfl
      have hl1 : (if sI (t p) = 3 then 1 else 0) ≤ 9 := by split <;> decide
      have d := dig_p h (p := p + 1) (l := if sI (t p) = 3 then 1 else 0) (m := 9) (by omega) hl1 (by decide) (nI Mk)
      rw [if_neg b, if_pos (hb.mpr b'), nm_eq, hlow, some_bind, show (posX X p (nI Mk)).2.2.1 + (1 : Int32) = nI (p + 1) from nI_add1 p, show fX2_readDigit ((posX X p (nI Mk)).1, (posX X p (nI Mk)).2.1, nI (p + 1), nI Mk) (nI (if sI (t p) = 3 then 1 else 0)) (9 : Int32) = _ from d]
      by_cases q : digF t n (p + 1) (if sI (t p) = 3 then 1 else 0) 9 = true
      · have bq := dF_of q
        rw [if_pos q, if_pos q, some_bind]
        dsimp only
        rw [nm_eq, if_neg (nI_pos (by omega)), show (posX X (p + 1 + 1) (nI Mk)).2.2.2 = nI Mk from rfl, msk_put Mk hM _ s]
        rfl
      · rw [if_neg q, if_neg q, some_bind]
        dsimp only
        rw [nm_eq, if_pos (by decide), show (posX X (p + 1) (nI Mk)).2.2.2 = nI Mk from rfl, msk_put Mk hM _ s]
        rfl
  · rw [if_neg s, if_neg s, if_pos (by decide)]
