/-! The reference takes a sign, and what belongs to it. -/
theorem tl_late (M : tM) {W H p v : Nat} (hp : 3 ≤ p) (hp2 : p < 1000) (hv : v ≤ 255) (hW : W * H ≤ 36) (fl sg ph : Int32) (hf : fl = nI (W * H)) (row flg : tA) (hph : ph = 0) : fX5_takeLetter (setX M (nI W) (nI H) fl sg ph row flg) (nI p) (nI v) = (fX5_takeSign (setX M (nI W) (nI H) fl sg ph row flg) (nI v)).bind fun y10 => gd (zb y10.1) (some (y10.1, y10.2)) := by
  have n0 : ¬ nI p = 0 := nI_ne0 (by omega) (by omega)
  have n1 : ¬ nI p = (1 : Int32) := fun q => by have := (nI_eq (b := 1) (by omega) (by decide)).mp q; omega
  have n2 : ¬ nI p = (2 : Int32) := fun q => by have := (nI_eq (b := 2) (by omega) (by decide)).mp q; omega
  have hc : (setX M (nI W) (nI H) fl sg ph row flg).1.2.2.2.2.2.2.2.1 * (setX M (nI W) (nI H) fl sg ph row flg).1.2.2.2.2.2.2.2.2.1 ≤ (setX M (nI W) (nI H) fl sg ph row flg).1.2.2.2.2.2.2.2.2.2.1 := by
    show nI W * nI H ≤ fl
    rw [pk_mul, hf]
    exact nI_le (Nat.le_refl _) (by omega)
  have hz : (setX M (nI W) (nI H) fl sg ph row flg).1.2.2.2.2.2.2.2.2.2.2.2 = 0 := hph
  rw [fX5_takeLetter, in_dig hv, some_bind]
  by_cases h : 48 ≤ v ∧ v ≤ 57
  · rw [if_pos h, if_neg one_ne, nm_eq, if_neg n0, if_neg n1, if_neg n2, if_pos hc, if_pos hz]
  · rw [if_neg h, if_pos rfl, if_neg n0, if_neg n1, if_neg n2, if_pos hc, if_pos hz]
theorem tl_tow (M : tM) {W H p v : Nat} (hp : 3 ≤ p) (hp2 : p < 1000) (hv : v ≤ 255) (hW : W * H ≤ 36) (fl sg ph : Int32) (hf : fl = nI (W * H)) (row flg : tA) (hph : ¬ ph = 0) (hs : sg = 116) : fX5_takeLetter (setX M (nI W) (nI H) fl sg ph row flg) (nI p) (nI v) = (fX5_takeInTower (setX M (nI W) (nI H) fl sg ph row flg) (dg v)).bind fun y10 => gd (zb y10.1) (some (y10.1, y10.2)) := by
  have n0 : ¬ nI p = 0 := nI_ne0 (by omega) (by omega)
  have n1 : ¬ nI p = (1 : Int32) := fun q => by have := (nI_eq (b := 1) (by omega) (by decide)).mp q; omega
  have n2 : ¬ nI p = (2 : Int32) := fun q => by have := (nI_eq (b := 2) (by omega) (by decide)).mp q; omega
  have hc : (setX M (nI W) (nI H) fl sg ph row flg).1.2.2.2.2.2.2.2.1 * (setX M (nI W) (nI H) fl sg ph row flg).1.2.2.2.2.2.2.2.2.1 ≤ (setX M (nI W) (nI H) fl sg ph row flg).1.2.2.2.2.2.2.2.2.2.1 := by
    show nI W * nI H ≤ fl
    rw [pk_mul, hf]
    exact nI_le (Nat.le_refl _) (by omega)
  have hz : ¬ (setX M (nI W) (nI H) fl sg ph row flg).1.2.2.2.2.2.2.2.2.2.2.2 = 0 := hph
  have hs2 : (setX M (nI W) (nI H) fl sg ph row flg).1.2.2.2.2.2.2.2.2.2.2.1 = (116 : Int32) := hs
  unfold dg
  rw [fX5_takeLetter, in_dig hv, some_bind]
  by_cases h : 48 ≤ v ∧ v ≤ 57
  · rw [if_pos h, if_neg one_ne, nm_eq, if_neg n0, if_neg n1, if_neg n2, if_pos hc, if_neg hz, if_pos hs2, sub48 h.1, if_pos h]
  · rw [if_neg h, if_pos rfl, if_neg n0, if_neg n1, if_neg n2, if_pos hc, if_neg hz, if_pos hs2, if_neg h]
