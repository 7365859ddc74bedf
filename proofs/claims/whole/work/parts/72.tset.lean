/-! The letter of a setting. -/
theorem tl_set (M : tM) {W H p v s : Nat} (hp : 3 ≤ p) (hp2 : p < 1000) (hv : v ≤ 255) (hs : s ≤ 255) (hs4 : sI s < 4) (hne : s ≠ 116) (hW : W * H ≤ 36) (fl ph : Int32) (hf : fl = nI (W * H)) (row flg : tA) (hph : ¬ ph = 0) : fX5_takeLetter (setX M (nI W) (nI H) fl (nI s) ph row flg) (nI p) (nI v) = some (bI (decide ((48 ≤ v ∧ v ≤ 57) ∧ (sI s = 3 → 49 ≤ v))), setX M (nI W) (nI H) fl (nI s) 0 (upd row (47 + sI s) (dg v)) (upd flg (sI s) 1)) := by
  have n0 : ¬ nI p = 0 := nI_ne0 (by omega) (by omega)
  have n1 : ¬ nI p = (1 : Int32) := fun q => by have := (nI_eq (b := 1) (by omega) (by decide)).mp q; omega
  have n2 : ¬ nI p = (2 : Int32) := fun q => by have := (nI_eq (b := 2) (by omega) (by decide)).mp q; omega
  have hc : (setX M (nI W) (nI H) fl (nI s) ph row flg).1.2.2.2.2.2.2.2.1 * (setX M (nI W) (nI H) fl (nI s) ph row flg).1.2.2.2.2.2.2.2.2.1 ≤ (setX M (nI W) (nI H) fl (nI s) ph row flg).1.2.2.2.2.2.2.2.2.2.1 := by
    show nI W * nI H ≤ fl
    rw [pk_mul, hf]
    exact nI_le (Nat.le_refl _) (by omega)
  have hz : ¬ (setX M (nI W) (nI H) fl (nI s) ph row flg).1.2.2.2.2.2.2.2.2.2.2.2 = 0 := hph
  have hs2 : ¬ (setX M (nI W) (nI H) fl (nI s) ph row flg).1.2.2.2.2.2.2.2.2.2.2.1 = (116 : Int32) := fun q => hne ((nI_eq (b := 116) (by omega) (by decide)).mp q)
  have hst : fX5_settingOf (setX M (nI W) (nI H) fl (nI s) ph row flg).1.2.2.2.2.2.2.2.2.2.2.1 = some (nI (sI s)) := (setting_all s (by omega)).trans (by rw [if_pos hs4])
  have e3 : ∀ A B : Option (Int32 × tM), (if nI (sI s) = (3 : Int32) then A else B) = if sI s = 3 then A else B := fun A B => ifn (by omega) (by decide) rfl rfl A B
  rw [fX5_takeLetter, in_dig hv, some_bind]
  by_cases h : 48 ≤ v ∧ v ≤ 57
  · have e : dg v = nI (v - 48) := if_pos h
    rw [if_pos h, if_neg one_ne, nm_eq, if_neg n0, if_neg n1, if_neg n2, if_pos hc, if_neg hz, if_neg hs2, hst, some_bind, show (47 : Int32) = nI 47 from rfl, nI_add, gd_inb (by omega) (by decide), gd_inb (by omega) (by decide), toN (by omega), toN (by omega), sub48 h.1, e3, e, show vp_nar .boolean (1 : Int32) = 1 from rfl]
    by_cases q : sI s = 3
    · rw [if_pos q]
      by_cases z : 49 ≤ v
      · rw [if_neg (show ¬ nI (v - 48) < (1 : Int32) from nI_nlt (b := 1) (by omega) (by omega)), decide_eq_true ⟨h, fun _ => z⟩]
        rfl
      · rw [if_pos (show nI (v - 48) < (1 : Int32) from nI_lt (b := 1) (by omega) (by omega)), decide_eq_false (fun y => z (y.2 q))]
        rfl
    · rw [if_neg q, if_neg (nI_pos (by omega)), decide_eq_true ⟨h, fun y => absurd y q⟩]
      rfl
  · have e : dg v = -9 := if_neg h
    rw [if_neg h, if_pos rfl, if_neg n0, if_neg n1, if_neg n2, if_pos hc, if_neg hz, if_neg hs2, hst, some_bind, show (47 : Int32) = nI 47 from rfl, nI_add, gd_inb (by omega) (by decide), gd_inb (by omega) (by decide), toN (by omega), toN (by omega), e, show vp_nar .boolean (1 : Int32) = 1 from rfl, decide_eq_false (fun y => h y.1), ite_self]
    rfl
