/-! A tower, a setting, and the loop over the parts. -/
theorem out_cut {X : tX} {M : tM} {t : Nat → Nat} {n W H p : Nat} {k46 k54 : tX → tL → Option (Int32 × tX × tL)} {C : Option (Int32 × tX × tL)} (h : txt X M t n) (h3 : 3 ≤ n) (hp : p = n) (hW : W * H ≤ 36) {L' : tL} {m sg ph : Int32} {row flg : tA} (hph : ¬ ph ≤ 0) (e1 : C = k46 (posX X p m) L') : OutP X M n W H k46 k54 p C (fun f => rf f p (setX M (nI W) (nI H) (nI (W * H)) sg ph row flg)) := by
  have hn := h.1
  subst hp
  exact out_bad (Nat.le_refl _) e1 (fun f => rf_cut h h3 (Nat.le_refl _) (by omega) hW hph sg row flg)
theorem dg_yes {v : Nat} (h : 48 ≤ v ∧ v ≤ 57) : dg v = nI (v - 48) := if_pos h
theorem parts {X : tX} {M : tM} {t : Nat → Nat} {n W H : Nat} (h : txt X M t n) (h1 : 2 ≤ W ∧ W ≤ 6) (h2 : 2 ≤ H ∧ H ≤ 6) (h3 : 3 ≤ n) (k46 k54 : tX → tL → Option (Int32 × tX × tL)) : ∀ (d p i F : Nat) (L : tL) (row flg : tA) (sg : Int32) (Mk : Nat) (g : tG), n ≤ p + d → p ≤ n → 3 ≤ p → i ≤ p → d < F → GG g → gw g = W → gh g = H → LL L g → RQ (nI W) (nI H) row g → Mk < 16 → (∀ j, j < 4 → flg j = bI (Mk.testBit j)) → OutP X M n W H k46 k54 p (fX2_readParts_2 k46 k54 F (nI i) (posX X p (nI Mk)) L) (fun f => rf f p (setX M (nI W) (nI H) (nI (W * H)) sg 0 row flg)) := by
  have hWH : W * H ≤ 36 := Nat.mul_le_mul h1.2 h2.2
  have hWH4 : 4 ≤ W * H := Nat.mul_le_mul h1.1 h2.1
  have hn := h.1
  intro d
  induction d with
  | zero =>
    intro p i F L row flg sg Mk g e1 e2 e3 e4 e5 hg ew eh hL hR hM hf
    obtain rfl : p = n := by omega
    exact p_end h h3 hWH k46 k54 (by omega) hg ew eh hL hR
  | succ d ih =>
    intro p i F L row flg sg Mk g e1 e2 e3 e4 e5 hg ew eh hL hR hM hf
    by_cases hp : p < n
    case neg =>
      obtain rfl : p = n := by omega
      exact p_end h h3 hWH k46 k54 (by omega) hg ew eh hL hR
    obtain ⟨F, rfl⟩ : ∃ m, F = m + 1 := ⟨F - 1, by omega⟩
    obtain ⟨x1, x2, x3⟩ := h.2.2.2 p hp
    have hN : gN g = W * H := by unfold gN; rw [ew, eh]
    have hr := hR.2.2.2.1
    have hT5 : gT g ≤ 5 := hg.2.2.1
    have hC : fX2_readParts_2 k46 k54 (F + 1) (nI i) (posX X p (nI Mk)) L = if t p = 116 then (fX2_readTower (posX X p (nI Mk)) L).bind fun y7 => if y7.1 = 0 then k46 y7.2.1 y7.2.2 else fX2_readParts_2 k46 k54 F (nI (i + 1)) y7.2.1 y7.2.2 else (fX2_readSetting (posX X p (nI Mk)) L).bind fun y4 => if y4.1 = 0 then k46 y4.2.1 y4.2.2 else fX2_readParts_2 k46 k54 F (nI (i + 1)) y4.2.1 y4.2.2 := by
      rw [fX2_readParts_2, if_neg (show ¬ (90 : Int32) ≤ nI i from nI_ge (b := 90) (by omega) (by decide)), if_neg (show ¬ (posX X p (nI Mk)).2.1 ≤ (posX X p (nI Mk)).2.2.1 by show ¬ X.2.1 ≤ nI p; rw [h.2.1]; exact nI_ge hp (by omega)), next_eq (X := posX X p (nI Mk)) hn h.2.1 rfl (by omega), if_pos hp, some_bind, show (posX X p (nI Mk)).1 p = nI (t p) from x1]
      simp only [nm_eq, nI_add1]
      exact ifn (by omega) (by decide) rfl rfl _ _
    rw [hC]
    have hS := fun f => r_sign (f := f) h hp e3 hWH hT5 sg row flg hr
    by_cases hv : t p = 116
    · rw [if_pos hv]
      by_cases hT : gT g < 5
      · rw [rT_yes h (by omega) hg hL hT, hN]
        rw [hv] at hS
        refine out_up hp (fun f => (hS f).trans (if_pos ?_)) ?_
        · rw [if_pos rfl, decide_eq_true hT]
        by_cases hp1 : p + 1 < n
        case neg =>
          refine out_cut (L' := L) (m := nI Mk) h h3 (by omega) hWH (by decide) ?_
          rw [if_neg (dF_no (by omega)), some_bind]
          exact if_pos rfl
        have s1 := fun f => r_tow1 (f := f) h hp1 (by omega) (by omega) hWH hT row flg hr
        by_cases c1 : (48 ≤ t (p + 1) ∧ t (p + 1) ≤ 57) ∧ 10 * (t (p + 1) - 48) < W * H
        case neg =>
          refine out_bad (L' := L) (m := nI Mk) (by omega) ?_ (fun f => (s1 f).trans (if_neg (fun z => c1 (of_decide_eq_true z))))
          rw [if_neg (dF_no (by omega)), some_bind]
          exact if_pos rfl
        rw [if_pos (dF_yes (by omega))]
        refine out_up hp1 (fun f => (s1 f).trans (if_pos (decide_eq_true c1))) ?_
        clear s1
        generalize hrow1 : upd row (37 + gT g) (10 * dg (t (p + 1))) = row1
        have k1 : row1 36 = nI (gT g) := by rw [← hrow1, pk_un (by omega), hr]
        have k2 : row1 (37 + gT g) = nI (10 * (t (p + 1) - 48)) := by rw [← hrow1, pk_us, dg_yes c1.1]; exact pk_mul 10 _
        by_cases hp2 : p + 2 < n
        case neg =>
          refine out_cut (L' := L) (m := nI Mk) h h3 (by omega) hWH (by decide) ?_
          rw [if_neg (dF_no (by omega)), some_bind]
          exact if_pos rfl
        have s2 := fun f => r_tow2 (f := f) h hp2 (by omega) (by omega) hWH hT row1 flg k1 k2 (by omega)
        by_cases c2 : (48 ≤ t (p + 2) ∧ t (p + 2) ≤ 57) ∧ 10 * (t (p + 1) - 48) + (t (p + 2) - 48) < W * H
        case neg =>
          refine out_bad (p := p + 2) (L' := L) (m := nI Mk) (by omega) ?_ (fun f => (s2 f).trans (if_neg (fun z => c2 (of_decide_eq_true z))))
          rw [if_neg (dF_no (by omega)), some_bind]
          exact if_pos rfl
        rw [if_pos (dF_yes (by omega))]
        refine out_up (p := p + 2) hp2 (fun f => (s2 f).trans (if_pos (decide_eq_true c2))) ?_
        clear s2
        generalize hrow2 : upd row1 (37 + gT g) (nI (10 * (t (p + 1) - 48)) + dg (t (p + 2))) = row2
        have k3 : row2 36 = nI (gT g) := by rw [← hrow2, pk_un (by omega), k1]
        by_cases hp3 : p + 3 < n
        case neg =>
          refine out_cut (L' := L) (m := nI Mk) h h3 (by omega) hWH (by decide) ?_
          rw [if_neg (dF_no (by omega)), some_bind]
          exact if_pos rfl
        have s3 := fun f => r_tow3 (f := f) h hp3 (by omega) hWH hT row2 flg k3
        by_cases c3 : 48 ≤ t (p + 3) ∧ t (p + 3) ≤ 57
        case neg =>
          refine out_bad (p := p + 3) (L' := L) (m := nI Mk) (by omega) ?_ (fun f => (s3 f).trans (if_neg (fun z => c3 (of_decide_eq_true z))))
          rw [if_neg (dF_no (by omega)), some_bind]
          exact if_pos rfl
        rw [if_pos (dF_yes (by omega))]
        refine out_up (p := p + 3) hp3 (fun f => (s3 f).trans (if_pos (decide_eq_true c3))) ?_
        clear s3
        obtain ⟨L', l1, l2⟩ := putTower_eq hg hL (p := gT g) (c := 10 * (t (p + 1) - 48) + (t (p + 2) - 48)) (r := t (p + 3) - 48) (Nat.le_refl _) hT (by rw [hN]; omega)
        rw [l1, some_bind]
        dsimp only
        rw [if_neg one_ne, some_bind]
        dsimp only
        rw [if_neg one_ne]
        refine ih (p + 4) (i + 1) F L' _ flg (nI 116) Mk (insT g (gT g) (10 * (t (p + 1) - 48) + (t (p + 2) - 48)) (t (p + 3) - 48)) (by omega) (by omega) (by omega) (by omega) (by omega) (GG_insT hg (Nat.le_refl _) hT (by rw [hN]; omega) (by omega)) ew eh l2 (RQ_ins hR hT ?_ ?_ ?_ ?_) hM hf
        · exact pk_us
        · rw [pk_un (by omega), pk_un (by omega), ← hrow2, pk_us, dg_yes c2.1, nI_add]
        · rw [pk_un (by omega), pk_us, dg_yes c3]
        · intro k a1 a2 a3
          rw [pk_un a1, pk_un a3, ← hrow2, pk_un a2, ← hrow1, pk_un a2]
      · rw [rT_no hL (by omega) (by omega), some_bind]
        refine out_bad (L' := L) (m := nI Mk) (by omega) (if_pos rfl) (fun f => (hS f).trans (if_neg ?_))
        rw [if_pos hv, decide_eq_false hT]
        decide
    · rw [if_neg hv, rS_eq h hp hM L]
      by_cases s : sI (t p) < 4
      · rw [if_pos s]
        by_cases b : Mk.testBit (sI (t p)) = true
        · rw [if_pos b, some_bind]
          refine out_bad (L' := L) (m := nI Mk) (by omega) (if_pos rfl) (fun f => (hS f).trans (if_neg ?_))
          rw [if_neg hv, if_pos s, hf _ s, b]
          decide
        · have b' : Mk.testBit (sI (t p)) = false := by cases z : Mk.testBit (sI (t p)); rfl; exact absurd z b
          rw [if_neg b]
          refine out_up hp (fun f => (hS f).trans (if_pos ?_)) ?_
          · rw [if_neg hv, if_pos s, hf _ s, b']
            decide
          by_cases hp1 : p + 1 < n
          case neg =>
            refine out_cut (L' := L) (m := nI (Mk ||| 2 ^ sI (t p))) h h3 (by omega) hWH (by decide) ?_
            rw [if_neg (dF_no (by omega)), some_bind]
            exact if_pos rfl
          have s1 := fun f => r_set (f := f) h hp1 (by omega) hWH x3 s hv row flg
          by_cases c1 : (48 ≤ t (p + 1) ∧ t (p + 1) ≤ 57) ∧ (sI (t p) = 3 → 49 ≤ t (p + 1))
          case neg =>
            refine out_bad (L' := L) (m := nI (Mk ||| 2 ^ sI (t p))) (by omega) ?_ (fun f => (s1 f).trans (if_neg (fun z => c1 (of_decide_eq_true z))))
            rw [if_neg (dF_no (fun z => c1 ?_)), some_bind]
            · exact if_pos rfl
            · by_cases q : sI (t p) = 3
              · rw [if_pos q] at z
                exact ⟨by omega, fun _ => by omega⟩
              · exact ⟨by omega, fun y => absurd y q⟩
          have dq : digF t n (p + 1) (if sI (t p) = 3 then 1 else 0) 9 = true := by
            by_cases q : sI (t p) = 3
            · rw [if_pos q]
              exact dF_yes ⟨hp1, by have := c1.2 q; omega, by omega⟩
            · rw [if_neg q]
              exact dF_yes ⟨hp1, by omega, by omega⟩
          rw [if_pos dq]
          have v3 : sI (t p) = 3 → 1 ≤ t (p + 1) - 48 := fun q => by have := c1.2 q; omega
          obtain ⟨L', l1, l2⟩ := putSetting_eq hL (k := sI (t p)) (v := t (p + 1) - 48) s (by omega) v3
          rw [l1, some_bind]
          dsimp only
          rw [if_neg one_ne, some_bind]
          dsimp only
          rw [if_neg one_ne]
          refine out_up hp1 (fun f => (s1 f).trans (if_pos (decide_eq_true c1))) ?_
          obtain ⟨m1, m2⟩ := msk_bits Mk hM (sI (t p)) s
          rw [dg_yes c1.1]
          refine ih (p + 2) (i + 1) F L' _ _ (nI (t p)) (Mk ||| 2 ^ sI (t p)) (setS g (sI (t p)) (t (p + 1) - 48)) (by omega) (by omega) (by omega) (by omega) (by omega) (GG_setS hg (by omega) v3) ew eh l2 (RQ_setS hg hR s) m1 (fun j hj => ?_)
          rw [m2 j hj]
          by_cases q : j = sI (t p)
          · rw [q, pk_us, decide_eq_true rfl]
            rfl
          · rw [pk_un q, decide_eq_false q, Bool.false_or, hf j hj]
      · rw [if_neg s, some_bind]
        refine out_bad (L' := L) (m := nI Mk) (by omega) (if_pos rfl) (fun f => (hS f).trans (if_neg ?_))
        rw [if_neg hv, if_neg s]
        decide
