/-! Both read the whole text. -/
def kf (x : tX) (l : tL) : Option (Int32 × tX × tL) := some ((0 : Int32), x, l)
def ks (x : tX) (l : tL) : Option (Int32 × tX × tL) := some ((1 : Int32), x, l)
def kb (y : Int32 × tX × tL) : Option (Int32 × tX × tL) := if y.1 = 0 then some ((0 : Int32), y.2.1, y.2.2) else some ((1 : Int32), y.2.1, y.2.2)
theorem out_bind {X : tX} {M : tM} {n W H p : Nat} {C : Option (Int32 × tX × tL)} {R : Nat → Option (Int32 × tM)} (h : OutP X M n W H kf ks p C R) : OutP X M n W H kf ks p (C.bind kb) R := by
  rcases h with ⟨q, L', m, nw, nh, fl, sg, ph, row, flg, a1, a2, a3⟩ | ⟨L', m, fl, sg, ph, row, flg, g', a1, a2, a3, a4, a5, a6, a7⟩
  · exact Or.inl ⟨q, L', m, nw, nh, fl, sg, ph, row, flg, a1, by rw [a2]; rfl, a3⟩
  · exact Or.inr ⟨L', m, fl, sg, ph, row, flg, g', by rw [a1]; rfl, a2, a3, a4, a5, a6, a7⟩
theorem out_ups {X : tX} {M : tM} {n W H p d : Nat} {k46 k54 : tX → tL → Option (Int32 × tX × tL)} {C : Option (Int32 × tX × tL)} {R R' : Nat → Option (Int32 × tM)} (hp : p + d ≤ n) (e : ∀ f, R (f + d) = R' f) (h : OutP X M n W H k46 k54 (p + d) C R') : OutP X M n W H k46 k54 p C R := by
  have g : ∀ y, (∀ f, n < f + (p + d) → R' f = y) → ∀ f, n < f + p → R f = y := by
    intro y hy f hf
    obtain ⟨f, rfl⟩ : ∃ m, f = m + d := ⟨f - d, by omega⟩
    rw [e]
    exact hy f (by omega)
  rcases h with ⟨q, L', m, nw, nh, fl, sg, ph, row, flg, a1, a2, a3⟩ | ⟨L', m, fl, sg, ph, row, flg, g', a1, a2, a3, a4, a5, a6, a7⟩
  · exact Or.inl ⟨q, L', m, nw, nh, fl, sg, ph, row, flg, a1, a2, g _ a3⟩
  · exact Or.inr ⟨L', m, fl, sg, ph, row, flg, g', a1, a2, a3, a4, a5, a6, g _ a7⟩
theorem out_short {X : tX} {M : tM} {t : Nat → Nat} {n W H p : Nat} {k46 k54 : tX → tL → Option (Int32 × tX × tL)} {C : Option (Int32 × tX × tL)} (h : txt X M t n) (h3 : n < 3) (hp : p = n) {L' : tL} {m nw nh fl sg ph : Int32} {row flg : tA} (e1 : C = k46 (posX X p m) L') : OutP X M n W H k46 k54 p C (fun f => rf f p (setX M nw nh fl sg ph row flg)) := by
  have hn := h.1
  subst hp
  refine out_bad (nw := nw) (nh := nh) (fl := fl) (sg := sg) (ph := ph) (row := row) (flg := flg) (Nat.le_refl _) e1 (fun f => (rf_end (Y := setX M nw nh fl sg ph row flg) h.1 h.2.2.1 (Nat.le_refl _) (by omega)).trans ?_)
  rw [endK, show (setX M nw nh fl sg ph row flg).1.1 = nI p from h.2.2.1, if_pos (show nI p < (3 : Int32) from nI_lt (b := 3) h3 (by decide))]
theorem r_0 {X : tX} {M : tM} {t : Nat → Nat} {n f : Nat} (h : txt X M t n) (hp : 0 < n) (nw nh fl sg ph : Int32) (row flg : tA) : rf (f + 1) 0 (setX M nw nh fl sg ph row flg) = if decide (t 0 = 71) then rf f (0 + 1) (setX M nw nh fl sg ph row flg) else some (nI 0, setX M nw nh fl sg ph row flg) := by
  obtain ⟨x1, x2, x3⟩ := h.2.2.2 0 hp
  exact rf_step (Y := setX M nw nh fl sg ph row flg) (t := t) h.1 h.2.2.1 x2 hp (tl_0 _ x3)
theorem r_1 {X : tX} {M : tM} {t : Nat → Nat} {n f : Nat} (h : txt X M t n) (hp : 1 < n) (nw nh fl sg ph : Int32) (row flg : tA) : rf (f + 1) 1 (setX M nw nh fl sg ph row flg) = if decide (50 ≤ t 1 ∧ t 1 ≤ 54) then rf f (1 + 1) (setX M (dg (t 1)) nh fl sg ph row flg) else some (nI 1, setX M (dg (t 1)) nh fl sg ph row flg) := by
  obtain ⟨x1, x2, x3⟩ := h.2.2.2 1 hp
  exact rf_step (Y := setX M nw nh fl sg ph row flg) (t := t) h.1 h.2.2.1 x2 hp (tl_1 M x3 _ _ _ _ _ _ _)
theorem r_2 {X : tX} {M : tM} {t : Nat → Nat} {n f : Nat} (h : txt X M t n) (hp : 2 < n) (nw nh fl sg ph : Int32) (row flg : tA) : rf (f + 1) 2 (setX M nw nh fl sg ph row flg) = if decide (50 ≤ t 2 ∧ t 2 ≤ 54) then rf f (2 + 1) (setX M nw (dg (t 2)) fl sg ph row flg) else some (nI 2, setX M nw (dg (t 2)) fl sg ph row flg) := by
  obtain ⟨x1, x2, x3⟩ := h.2.2.2 2 hp
  exact rf_step (Y := setX M nw nh fl sg ph row flg) (t := t) h.1 h.2.2.1 x2 hp (tl_2 M x3 _ _ _ _ _ _ _)
theorem rI_eq {X : tX} {M : tM} {t : Nat → Nat} {n : Nat} (h : txt X M t n) (L : tL) : fX2_readInto X L = if 0 < n ∧ t 0 = 71 then (if digF t n 1 2 6 then (if digF t n 2 2 6 then (fX1_startAnew L (nI (t 1 - 48)) (nI (t 2 - 48))).bind fun y9 => (fX2_readHeights (posX X 3 0) y9).bind fun y11 => if y11.1 = 0 then some ((0 : Int32), y11.2.1, y11.2.2) else (fX2_readParts y11.2.1 y11.2.2).bind kb else kf (posX X 2 0) L) else kf (posX X 1 0) L) else kf (posX X 0 0) L := by
  have hn := h.1
  rw [fX2_readInto, show fX2_nextLetter (X.1, X.2.1, (0 : Int32), (0 : Int32)) = _ from next_eq (X := posX X 0 0) hn h.2.1 rfl (by decide), some_bind]
  by_cases h0 : 0 < n
  · obtain ⟨x1, x2, x3⟩ := h.2.2.2 0 h0
    rw [if_pos h0, show (posX X 0 0).1 0 = nI (t 0) from x1]
    by_cases g : t 0 = 71
    · have d1 := dig_p h (p := 1) (l := 2) (m := 6) (by decide) (by decide) (by decide) 0
      have d2 := dig_p h (p := 2) (l := 2) (m := 6) (by decide) (by decide) (by decide) 0
      rw [if_pos (show nI (t 0) = (71 : Int32) by rw [g]; rfl), if_pos ⟨h0, g⟩, nm_eq, show fX2_readDigit (X.1, X.2.1, (0 : Int32) + (1 : Int32), (0 : Int32)) (2 : Int32) (6 : Int32) = _ from d1]
      by_cases q1 : digF t n 1 2 6 = true
      · have b1 := dF_of q1
        rw [if_pos q1, if_pos q1, some_bind]
        dsimp only
        rw [if_pos (nI_pos' (by omega)), show fX2_readDigit (posX X (1 + 1) 0) (2 : Int32) (6 : Int32) = _ from d2]
        by_cases q2 : digF t n 2 2 6 = true
        · have b2 := dF_of q2
          rw [if_pos q2, if_pos q2, some_bind]
          dsimp only
          rw [if_pos (nI_pos' (by omega))]
          rfl
        · rw [if_neg q2, if_neg q2, some_bind]
          rfl
      · rw [if_neg q1, if_neg q1, some_bind]
        rfl
    · rw [if_neg (show ¬ nI (t 0) = (71 : Int32) from fun z => g ((nI_eq (b := 71) (by omega) (by decide)).mp z)), if_neg (fun z => g z.2)]
      rfl
  · rw [if_neg h0, if_neg (by decide), if_neg (fun z => h0 z.1)]
    rfl
theorem read_out {X : tX} {M : tM} {t : Nat → Nat} {n : Nat} (h : txt X M t n) (L : tL) (nw nh sg : Int32) (row flg : tA) (hrow : ∀ w h : Nat, RQ (nI w) (nI h) row (g0 w h)) (hflg : ∀ j, j < 4 → flg j = 0) : OutP X M n (t 1 - 48) (t 2 - 48) kf ks 0 (fX2_readInto X L) (fun f => rf f 0 (setX M nw nh (nI 0) sg 0 row flg)) := by
  have hn := h.1
  rw [rI_eq h L]
  by_cases h0 : 0 < n
  case neg => 
    rw [if_neg (fun z => h0 z.1)]
    exact out_short h (by omega) (by omega) rfl
  have s0 := fun f => r_0 (f := f) h h0 nw nh (nI 0) sg 0 row flg
  by_cases c0 : t 0 = 71
  case neg =>
    rw [if_neg (fun z => c0 z.2)]
    exact out_bad (by omega) rfl (fun f => (s0 f).trans (if_neg (fun z => c0 (of_decide_eq_true z))))
  rw [if_pos ⟨h0, c0⟩]
  refine out_up h0 (fun f => (s0 f).trans (if_pos (decide_eq_true c0))) ?_
  clear s0
  by_cases h1 : 1 < n
  case neg =>
    rw [if_neg (dF_no (by omega))]
    exact out_short h (by omega) (by omega) rfl
  have s1 := fun f => r_1 (f := f) h h1 nw nh (nI 0) sg 0 row flg
  by_cases c1 : 50 ≤ t 1 ∧ t 1 ≤ 54
  case neg =>
    rw [if_neg (dF_no (by omega))]
    exact out_bad (p := 1) (by omega) rfl (fun f => (s1 f).trans (if_neg (fun z => c1 (of_decide_eq_true z))))
  rw [if_pos (dF_yes (by omega))]
  refine out_up (p := 1) h1 (fun f => (s1 f).trans (if_pos (decide_eq_true c1))) ?_
  clear s1
  by_cases h2 : 2 < n
  case neg =>
    rw [if_neg (dF_no (by omega))]
    exact out_short h (by omega) (by omega) rfl
  have s2 := fun f => r_2 (f := f) h h2 (dg (t 1)) nh (nI 0) sg 0 row flg
  by_cases c2 : 50 ≤ t 2 ∧ t 2 ≤ 54
  case neg =>
    rw [if_neg (dF_no (by omega))]
    exact out_bad (p := 2) (by omega) rfl (fun f => (s2 f).trans (if_neg (fun z => c2 (of_decide_eq_true z))))
  rw [if_pos (dF_yes (by omega))]
  refine out_up (p := 2) h2 (fun f => (s2 f).trans (if_pos (decide_eq_true c2))) ?_
  clear s2
  rw [dg_yes (v := t 1) (by omega), dg_yes (v := t 2) (by omega)]
  obtain ⟨W, hW⟩ : ∃ W, W = t 1 - 48 := ⟨_, rfl⟩
  obtain ⟨H, hH⟩ : ∃ H, H = t 2 - 48 := ⟨_, rfl⟩
  rw [← hW, ← hH]
  have w1 : 2 ≤ W ∧ W ≤ 6 := by omega
  have w2 : 2 ≤ H ∧ H ≤ 6 := by omega
  have hWH : W * H ≤ 36 := Nat.mul_le_mul w1.2 w2.2
  obtain ⟨L0, l1, l2⟩ := startAnew_eq L W H
  rw [l1, some_bind]
  have hh := heights h w1 w2 (0 : Int32) sg flg kf ks (W * H) 0 100000 L0 row (g0 W H) (by omega) (by omega) (by omega) (by omega) (GG_g0 w1 w2) rfl rfl l2 (hrow W H)
  have eH : fX2_readHeights (posX X 3 0) L0 = fX2_readHeights_2 kf ks 100000 (nI 0) (posX X (3 + 0) 0) L0 := rfl
  rw [eH]
  rcases hh with ⟨q, L', row', fl', a1, a2, a3⟩ | ⟨L', row', g', a1, a2, a3, a4, a5, a6, a7, a8⟩
  · rw [a2]
    exact Or.inl ⟨q, L', 0, nI W, nI H, fl', sg, 0, row', flg, a1, rfl, fun f hf => a3 f (by omega)⟩
  · rw [a2]
    have hp := parts h w1 w2 (by omega) kf ks n (3 + W * H) 0 100000 L' row' flg sg 0 g' (by omega) a1 (by omega) (by omega) (by omega) a3 a4 a5 a6 a7 (by decide) (fun j hj => by rw [hflg j hj, Nat.zero_testBit]; rfl)
    have hb := out_bind hp
    exact out_ups (p := 3) (d := W * H) a1 (fun f => a8 f) hb
