/-! The reference's run over the text. -/
def endK (M12 : tM) : Option (Int32 × tM) := if M12.1.1 < (3 : Int32) then some (M12.1.1, M12) else if M12.1.2.2.2.2.2.2.2.2.2.1 < (M12.1.2.2.2.2.2.2.2.1 * M12.1.2.2.2.2.2.2.2.2.1) then some (M12.1.1, M12) else if M12.1.2.2.2.2.2.2.2.2.2.2.2 ≤ 0 then some ((-9 : Int32), M12) else some (M12.1.1, M12)
def rf (f p : Nat) (Y : tM) : Option (Int32 × tM) := fX5_readText_39 (fun y10 M11 => some (y10, M11)) endK f (nI p) Y
theorem rf_step {t : Nat → Nat} {n p f : Nat} {Y Y' : tM} {ok : Bool} (hn : n ≤ 90) (hl : Y.1.1 = nI n) (ht : Y.2.1 p = nI (t p)) (hp : p < n) (e : fX5_takeLetter Y (nI p) (nI (t p)) = some (bI ok, Y')) : rf (f + 1) p Y = if ok then rf f (p + 1) Y' else some (nI p, Y') := by
  rw [rf, fX5_readText_39, hl, if_neg (nI_ge hp (by omega)), gd_inb (by omega) (by decide), toN (by omega), ht, e, some_bind]
  cases ok
  · rfl
  · rw [if_neg (show ¬ (bI true, Y').1 = 0 from one_ne), nm_eq, nI_add1]
    rfl
theorem rf_end {n p f : Nat} {Y : tM} (hn : n ≤ 90) (hl : Y.1.1 = nI n) (hp : n ≤ p) (hp2 : p < 1000) : rf (f + 1) p Y = endK Y := by
  rw [rf, fX5_readText_39, hl, if_pos (nI_le hp (by omega))]
/-- what both sides read: letters t, n of them -/
def txt (X : tX) (M : tM) (t : Nat → Nat) (n : Nat) : Prop := n ≤ 90 ∧ X.2.1 = nI n ∧ M.1.1 = nI n ∧ ∀ k, k < n → X.1 k = nI (t k) ∧ M.2.1 k = nI (t k) ∧ t k ≤ 255
def posX (X : tX) (p : Nat) (m : Int32) : tX := (X.1, X.2.1, nI p, m)
theorem dig_p {X : tX} {M : tM} {t : Nat → Nat} {n p l m : Nat} (h : txt X M t n) (hp : p < 1000) (hl : l ≤ 9) (hm : m ≤ 9) (mk' : Int32) : fX2_readDigit (posX X p mk') (nI l) (nI m) = if digF t n p l m then some (nI (t p - 48), posX X (p + 1) mk') else some (-1, posX X p mk') := digit_eq (X := posX X p mk') (t := t) h.1 h.2.1 rfl hp (fun k hk => ⟨(h.2.2.2 k hk).1, (h.2.2.2 k hk).2.2⟩) hl hm
/-- the heights: both fail at q, or both go on behind them -/
theorem heights {X : tX} {M : tM} {t : Nat → Nat} {n W H : Nat} (h : txt X M t n) (h1 : 2 ≤ W ∧ W ≤ 6) (h2 : 2 ≤ H ∧ H ≤ 6) (m sg : Int32) (flg : tA) (k22 k37 : tX → tL → Option (Int32 × tX × tL)) : ∀ (d i F : Nat) (L : tL) (row : tA) (g : tG), i + d = W * H → d < F → 3 ≤ n → 3 + i ≤ n → GG g → gw g = W → gh g = H → LL L g → RQ (nI W) (nI H) row g → (∃ (q : Nat) (L' : tL) (row' : tA) (fl' : Int32), q ≤ n ∧ fX2_readHeights_2 k22 k37 F (nI i) (posX X (3 + i) m) L = k22 (posX X q m) L' ∧ ∀ f, n < f + (3 + i) → rf f (3 + i) (setX M (nI W) (nI H) (nI i) sg 0 row flg) = some (nI q, setX M (nI W) (nI H) fl' sg 0 row' flg)) ∨ (∃ (L' : tL) (row' : tA) (g' : tG), 3 + W * H ≤ n ∧ fX2_readHeights_2 k22 k37 F (nI i) (posX X (3 + i) m) L = k37 (posX X (3 + W * H) m) L' ∧ GG g' ∧ gw g' = W ∧ gh g' = H ∧ LL L' g' ∧ RQ (nI W) (nI H) row' g' ∧ ∀ f, rf (f + d) (3 + i) (setX M (nI W) (nI H) (nI i) sg 0 row flg) = rf f (3 + W * H) (setX M (nI W) (nI H) (nI (W * H)) sg 0 row' flg)) := by
  have hWH : W * H ≤ 36 := Nat.mul_le_mul h1.2 h2.2
  have hn := h.1
  intro d
  induction d with
  | zero =>
    intro i F L row g e1 e2 e3 e4 hg ew eh hL hR
    obtain ⟨F, rfl⟩ : ∃ m, F = m + 1 := ⟨F - 1, by omega⟩
    have hN : gN g = W * H := by unfold gN; rw [ew, eh]
    refine Or.inr ⟨L, row, g, by omega, ?_, hg, ew, eh, hL, hR, fun f => ?_⟩
    · rw [fX2_readHeights_2, fX1_cellCount, LL_N hL, some_bind, if_pos (nI_le (by omega) (by omega)), show i = W * H by omega]
    · rw [show i = W * H by omega]
      rfl
  | succ d ih =>
    intro i F L row g e1 e2 e3 e4 hg ew eh hL hR
    obtain ⟨F, rfl⟩ : ∃ m, F = m + 1 := ⟨F - 1, by omega⟩
    have hN : gN g = W * H := by unfold gN; rw [ew, eh]
    have hc : fX2_readHeights_2 k22 k37 (F + 1) (nI i) (posX X (3 + i) m) L = if digF t n (3 + i) 0 9 then (fX1_putHeight L (nI i) (nI (t (3 + i) - 48))).bind fun y6 => fX2_readHeights_2 k22 k37 F (nI (i + 1)) (posX X (3 + (i + 1)) m) y6.2 else k22 (posX X (3 + i) m) L := by
      rw [fX2_readHeights_2, fX1_cellCount, LL_N hL, some_bind, if_neg (nI_ge (by omega) (by omega)), show (0 : Int32) = nI 0 from rfl, show (9 : Int32) = nI 9 from rfl, dig_p h (by omega) (by decide) (by decide)]
      by_cases q : digF t n (3 + i) 0 9 = true
      · have q2 := q
        unfold digF at q2
        rw [Bool.and_eq_true, Bool.and_eq_true, decide_eq_true_eq, decide_eq_true_eq, decide_eq_true_eq] at q2
        rw [if_pos q, if_pos q, some_bind, if_pos (nI_le (by omega) (by omega))]
        simp only [nm_eq, nI_add1]
        rfl
      · rw [if_neg q, if_neg q, some_bind, if_neg (show ¬ nI 0 ≤ (-1 : Int32) by decide)]
    by_cases hp : 3 + i < n
    · obtain ⟨x1, x2, x3⟩ := h.2.2.2 (3 + i) hp
      have hl := tl_cell M (W := W) (H := H) (i := i) (p := 3 + i) (v := t (3 + i)) (by omega) (by omega) x3 (by omega) hWH sg 0 row flg
      have hst : ∀ f, rf (f + 1) (3 + i) (setX M (nI W) (nI H) (nI i) sg 0 row flg) = _ := fun f => rf_step (f := f) hn h.2.2.1 x2 hp hl
      by_cases q : 48 ≤ t (3 + i) ∧ t (3 + i) ≤ 57
      · have qd : digF t n (3 + i) 0 9 = true := by
          unfold digF
          rw [decide_eq_true hp, decide_eq_true (by omega), decide_eq_true (by omega)]
          rfl
        have edg : dg (t (3 + i)) = nI (t (3 + i) - 48) := if_pos q
        obtain ⟨L', l1, l2⟩ := putHeight_eq hg hL (a := i) (v := t (3 + i) - 48) (by omega)
        have hR2 := RQ_setT hR (a := i) (v := t (3 + i) - 48) (by omega)
        rcases ih (i + 1) F L' _ (setT g i (t (3 + i) - 48)) (by omega) (by omega) e3 (by omega) (GG_setT hg (by omega)) ew eh l2 hR2 with ⟨Q, L2, row2, fl2, a1, a2, a3⟩ | ⟨L2, row2, g2, a1, a2, a3, a4, a5, a6, a7, a8⟩
        · refine Or.inl ⟨Q, L2, row2, fl2, a1, ?_, fun f hf => ?_⟩
          · rw [hc, if_pos qd, l1, some_bind]
            exact a2
          · obtain ⟨f, rfl⟩ : ∃ m, f = m + 1 := ⟨f - 1, by omega⟩
            rw [hst, decide_eq_true q, if_pos rfl, edg]
            exact a3 f (by omega)
        · refine Or.inr ⟨L2, row2, g2, a1, ?_, a3, a4, a5, a6, a7, fun f => ?_⟩
          · rw [hc, if_pos qd, l1, some_bind]
            exact a2
          · rw [show f + (d + 1) = (f + d) + 1 from rfl, hst, decide_eq_true q, if_pos rfl, edg]
            exact a8 f
      · refine Or.inl ⟨3 + i, L, upd row i (dg (t (3 + i))), nI (i + 1), by omega, ?_, fun f hf => ?_⟩
        · rw [hc, if_neg]
          unfold digF
          intro z
          rw [Bool.and_eq_true, Bool.and_eq_true, decide_eq_true_eq, decide_eq_true_eq, decide_eq_true_eq] at z
          omega
        · obtain ⟨f, rfl⟩ : ∃ m, f = m + 1 := ⟨f - 1, by omega⟩
          rw [hst, decide_eq_false q]
          rfl
    · refine Or.inl ⟨n, L, row, nI i, Nat.le_refl _, ?_, fun f hf => ?_⟩
      · rw [hc, if_neg, show 3 + i = n by omega]
        unfold digF
        rw [decide_eq_false hp]
        simp
      · obtain ⟨f, rfl⟩ : ∃ m, f = m + 1 := ⟨f - 1, by omega⟩
        rw [rf_end (Y := setX M (nI W) (nI H) (nI i) sg 0 row flg) hn h.2.2.1 (by omega) (by omega), endK, show (setX M (nI W) (nI H) (nI i) sg 0 row flg).1.1 = nI n from h.2.2.1, if_neg (show ¬ nI n < (3 : Int32) from nI_nlt (b := 3) e3 (by omega))]
        exact if_pos (show nI i < nI W * nI H by rw [pk_mul]; exact nI_lt (by omega) (by omega))
