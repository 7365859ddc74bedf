/-! Towers and settings of a text. -/
theorem msk_has : ∀ k, k < 16 → ∀ j, j < 4 → ((((nI k) >>> (nI j &&& 31)) &&& (1 : Int32)) = 0 ↔ k.testBit j = false) := by decide +kernel
theorem RQ_ins {wd hgt : Int32} {w w' : tA} {g : tG} (h : RQ wd hgt w g) (hT : gT g < 5) {c r : Nat} (h36 : w' 36 = nI (gT g + 1)) (hc : w' (37 + gT g) = nI c) (hr : w' (42 + gT g) = nI r) (ho : ∀ k, k ≠ 36 → k ≠ 37 + gT g → k ≠ 42 + gT g → w' k = w k) : RQ wd hgt w' (insT g (gT g) c r) := by
  obtain ⟨h1, h2, h3, h4, h5, h6, h7⟩ := h
  refine ⟨h1, h2, fun k hk => ?_, h36, fun k hk => ?_, fun k hk => ?_, fun k hk => ?_⟩
  · rw [ho k (by omega) (by omega) (by omega)]; exact h3 k hk
  · have hk2 : k < gT g + 1 := hk
    show _ = nI (insF (gc g) (gT g) c k)
    unfold insF
    by_cases q : k = gT g
    · rw [q, hc, if_neg (by omega), if_pos rfl]
    · rw [ho _ (by omega) (by omega) (by omega), if_pos (by omega), h5 k (by omega)]
  · have hk2 : k < gT g + 1 := hk
    show _ = nI (insF (gr g) (gT g) r k)
    unfold insF
    by_cases q : k = gT g
    · rw [q, hr, if_neg (by omega), if_pos rfl]
    · rw [ho _ (by omega) (by omega) (by omega), if_pos (by omega), h6 k (by omega)]
  · rw [ho _ (by omega) (by omega) (by omega)]; exact h7 k hk
/-- the text ends within a part -/
theorem rf_cut {X : tX} {M : tM} {t : Nat → Nat} {n p f W H : Nat} (h : txt X M t n) (h3 : 3 ≤ n) (hp : n ≤ p) (hp2 : p < 1000) (hW : W * H ≤ 36) {ph : Int32} (hph : ¬ ph ≤ 0) (sg : Int32) (row flg : tA) : rf (f + 1) p (setX M (nI W) (nI H) (nI (W * H)) sg ph row flg) = some (nI n, setX M (nI W) (nI H) (nI (W * H)) sg ph row flg) := by
  rw [rf_end (Y := setX M (nI W) (nI H) (nI (W * H)) sg ph row flg) h.1 h.2.2.1 hp hp2, endK, show (setX M (nI W) (nI H) (nI (W * H)) sg ph row flg).1.1 = nI n from h.2.2.1, if_neg (show ¬ nI n < (3 : Int32) from nI_nlt (b := 3) h3 (by have := h.1; omega))]
  exact (if_neg (show ¬ nI (W * H) < nI W * nI H by rw [pk_mul]; exact nI_nlt (Nat.le_refl _) (by omega))).trans (if_neg hph)
theorem rf_done {X : tX} {M : tM} {t : Nat → Nat} {n p f W H : Nat} (h : txt X M t n) (h3 : 3 ≤ n) (hp : n ≤ p) (hp2 : p < 1000) (hW : W * H ≤ 36) (sg : Int32) (row flg : tA) : rf (f + 1) p (setX M (nI W) (nI H) (nI (W * H)) sg 0 row flg) = some (-9, setX M (nI W) (nI H) (nI (W * H)) sg 0 row flg) := by
  rw [rf_end (Y := setX M (nI W) (nI H) (nI (W * H)) sg 0 row flg) h.1 h.2.2.1 hp hp2, endK, show (setX M (nI W) (nI H) (nI (W * H)) sg 0 row flg).1.1 = nI n from h.2.2.1, if_neg (show ¬ nI n < (3 : Int32) from nI_nlt (b := 3) h3 (by have := h.1; omega))]
  exact (if_neg (show ¬ nI (W * H) < nI W * nI H by rw [pk_mul]; exact nI_nlt (Nat.le_refl _) (by omega))).trans (if_pos (show (0 : Int32) ≤ 0 by decide))
