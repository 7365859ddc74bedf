/-! Letters. -/
def sI (v : Nat) : Nat := if v = 101 then 0 else if v = 109 then 1 else if v = 98 then 2 else if v = 115 then 3 else 4
theorem index_all : ∀ v, v < 256 → fJ0_indexOf_0f7a4 (((nI v).toUInt32 % 65536).toInt32) = some (if sI v < 4 then nI (sI v) else -1) := by decide +kernel
theorem setting_all : ∀ v, v < 256 → fX5_settingOf (nI v) = some (if sI v < 4 then nI (sI v) else -9) := by decide +kernel
theorem next_eq {X : tX} {n p : Nat} (hn : n ≤ 90) (h1 : X.2.1 = nI n) (h2 : X.2.2.1 = nI p) (hp : p < 1000) : fX2_nextLetter X = some (if p < n then X.1 p else -1) := by
  rw [fX2_nextLetter, h1, h2, if_neg (nI_pos (by omega))]
  by_cases h : p < n
  · rw [if_neg (nI_ge h (by omega)), if_neg (show ¬ (90 : Int32) ≤ nI p from nI_ge (b := 90) (by omega) (by decide)), gd_inb (by omega) (by decide), toN (by omega), if_pos h]
  · rw [if_pos (nI_le (by omega) (by omega)), if_neg h]
/-- a digit from l to m stands at p -/
def digF (t : Nat → Nat) (n p l m : Nat) : Bool := decide (p < n) && decide (48 + l ≤ t p) && decide (t p ≤ 48 + m)
theorem digit_eq {X : tX} {t : Nat → Nat} {n p l m : Nat} (hn : n ≤ 90) (h1 : X.2.1 = nI n) (h2 : X.2.2.1 = nI p) (hp : p < 1000) (ht : ∀ k, k < n → X.1 k = nI (t k) ∧ t k ≤ 255) (hl : l ≤ 9) (hm : m ≤ 9) : fX2_readDigit X (nI l) (nI m) = if digF t n p l m then some (nI (t p - 48), (X.1, X.2.1, nI (p + 1), X.2.2.2)) else some (-1, X) := by
  rw [fX2_readDigit, next_eq hn h1 h2 hp, some_bind, nm_eq, h2, nm_eq, nI_add1]
  unfold digF
  by_cases h : p < n
  · obtain ⟨k1, k2⟩ := ht p h
    rw [if_pos h, k1, show (48 : Int32) = nI 48 from rfl, nI_sub, decide_eq_true h, Bool.true_and]
    by_cases q1 : 48 + l ≤ t p
    · by_cases q2 : t p ≤ 48 + m
      · rw [decide_eq_true q1, decide_eq_true q2, if_neg (by rw [← iI_nat l, iI_lt (by omega) (by omega) (by omega) (by omega)]; omega), if_pos (by rw [← iI_nat m, iI_le (by omega) (by omega) (by omega) (by omega)]; omega), show ((t p : Int) - (48 : Nat)) = ((t p - 48 : Nat) : Int) by omega, iI_nat]
        rfl
      · rw [decide_eq_true q1, decide_eq_false q2, if_neg (by rw [← iI_nat l, iI_lt (by omega) (by omega) (by omega) (by omega)]; omega), if_neg (by rw [← iI_nat m, iI_le (by omega) (by omega) (by omega) (by omega)]; omega)]
        rfl
    · rw [decide_eq_false q1, if_pos (by rw [← iI_nat l, iI_lt (by omega) (by omega) (by omega) (by omega)]; omega)]
      rfl
  · rw [if_neg h, decide_eq_false h, if_pos]
    · rfl
    · rw [show (-1 : Int32) - 48 = iI (-49) from rfl, ← iI_nat l, iI_lt (by omega) (by omega) (by omega) (by omega)]
      omega
