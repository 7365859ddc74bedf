/-! fault and map. -/
theorem nine_loop (M : tM) (nw nh fl sg ph : Int32) (row : tA) (k27 : tM → Option (Int32 × tM)) : ∀ (d i f : Nat) (flg : tA), i + d = 4 → d < f → fX5_readText_9 k27 f (nI i) (setX M nw nh fl sg ph row flg) = k27 (setX M nw nh fl sg ph row (zr flg 0 i 4)) := by
  intro d
  induction d with
  | zero =>
    intro i f flg h1 h2
    obtain ⟨f, rfl⟩ : ∃ m, f = m + 1 := ⟨f - 1, by omega⟩
    rw [fX5_readText_9, if_pos (show (4 : Int32) ≤ nI i from nI_le (a := 4) (by omega) (by omega)), show i = 4 by omega, zr_end]
  | succ d ih =>
    intro i f flg h1 h2
    obtain ⟨f, rfl⟩ : ∃ m, f = m + 1 := ⟨f - 1, by omega⟩
    rw [fX5_readText_9, if_neg (show ¬ (4 : Int32) ≤ nI i from nI_ge (b := 4) (by omega) (by decide)), gd_inb (by omega) (by decide), nm_eq, nI_add1, toN (by omega), ← zr_step flg 0 (i := i) (n := 4) (by omega)]
    exact ih (i + 1) f (upd flg i 0) (by omega) (by omega)
theorem text_eq (M : tM) : ∃ (nw nh sg : Int32) (row flg : tA), fX5_readText M = rf 100000 0 (setX M nw nh (nI 0) sg 0 row flg) ∧ (∀ w h : Nat, RQ (nI w) (nI h) row (g0 w h)) ∧ ∀ j, j < 4 → flg j = 0 := by
  obtain ⟨w, e1, e2⟩ := clear_eq M.2.2.2.2.2.2.2.2.2.1
  refine ⟨M.1.2.2.2.2.2.2.2.1, M.1.2.2.2.2.2.2.2.2.1, M.1.2.2.2.2.2.2.2.2.2.2.1, w, zr M.2.2.2.2.2.2.2.2.2.2.1 0 0 4, ?_, e2, fun j hj => ?_⟩
  · rw [fX5_readText, e1, some_bind]
    exact nine_loop M M.1.2.2.2.2.2.2.2.1 M.1.2.2.2.2.2.2.2.2.1 M.1.2.2.2.2.2.2.2.2.2.1 M.1.2.2.2.2.2.2.2.2.2.2.1 M.1.2.2.2.2.2.2.2.2.2.2.2 w _ 4 0 100000 M.2.2.2.2.2.2.2.2.2.2.1 (by decide) (by decide)
  · unfold zr
    rw [if_pos (by omega)]
theorem txt_of {X : tX} {M : tM} (h : TXr X M.1.1 M.2.1) : ∃ t n, txt X M t n := by
  obtain ⟨n, h1, h2, h3, h4⟩ := h
  refine ⟨fun k => (M.2.1 k).toNatClampNeg, n, h1, h2, h3, fun k hk => ?_⟩
  obtain ⟨v, v1, v2, v3⟩ := h4 k hk
  dsimp only
  rw [v2, v3, toN (by omega)]
  exact ⟨rfl, rfl, v1⟩
theorem read_eq {X : tX} {M : tM} (h : TXr X M.1.1 M.2.1) (L : tL) : (∃ (q : Nat) (L' : tL) (m nw nh fl sg ph : Int32) (row flg : tA), q ≤ 90 ∧ fX2_readInto X L = some (0, posX X q m, L') ∧ fX5_readText M = some (nI q, setX M nw nh fl sg ph row flg)) ∨ (∃ (q W H : Nat) (L' : tL) (m fl sg ph : Int32) (row flg : tA) (g : tG), fX2_readInto X L = some (1, posX X q m, L') ∧ GG g ∧ gw g = W ∧ gh g = H ∧ LL L' g ∧ RQ (nI W) (nI H) row g ∧ fX5_readText M = some (-9, setX M (nI W) (nI H) fl sg ph row flg)) := by
  obtain ⟨t, n, ht⟩ := txt_of h
  have hn := ht.1
  obtain ⟨nw, nh, sg, row, flg, e1, e2, e3⟩ := text_eq M
  rw [e1]
  rcases read_out ht L nw nh sg row flg e2 e3 with ⟨q, L', m, nw, nh, fl, sg, ph, row, flg, a1, a2, a3⟩ | ⟨L', m, fl, sg, ph, row, flg, g', a1, a2, a3, a4, a5, a6, a7⟩
  · exact Or.inl ⟨q, L', m, nw, nh, fl, sg, ph, row, flg, by omega, a2, a3 100000 (by omega)⟩
  · exact Or.inr ⟨n, t 1 - 48, t 2 - 48, L', m, fl, sg, ph, row, flg, g', a1, a2, a3, a4, a5, a6, a7 100000 (by omega)⟩
theorem do_fault : stp_fault Sim := by
  rintro S M ⟨g, hg, hL, hR, hT, hO, hV, hH, hr⟩ _
  rcases read_eq hT S.2.1 with ⟨q, L', m, nw, nh, fl, sg, ph, row, flg, a1, a2, a3⟩ | ⟨q, W, H, L', m, fl, sg, ph, row, flg, g', a1, a2, a3, a4, a5, a6, a7⟩
  · apply mmI (r := nI q)
    case h1 =>
      rw [fX4_fault, a2, some_bind]
      exact if_pos rfl
    case h2 =>
      rw [fX5_fault, a3, some_bind]
    case h3 => exact ⟨g, hg, hL, hR, hT, hO, hV, hH, hr⟩
  · apply mmI (r := -9)
    case h1 =>
      rw [fX4_fault, a1, some_bind]
      exact if_neg one_ne
    case h2 =>
      rw [fX5_fault, a7, some_bind]
    case h3 => exact ⟨g, hg, hL, hR, hT, hO, hV, hH, hr⟩
theorem do_map : stp_map Sim := by
  rintro S M ⟨g, hg, hL, hR, hT, hO, hV, hH, hr⟩ _
  rcases read_eq hT S.2.1 with ⟨q, L', m, nw, nh, fl, sg, ph, row, flg, a1, a2, a3⟩ | ⟨q, W, H, L', m, fl, sg, ph, row, flg, g', a1, a2, a3, a4, a5, a6, a7⟩
  · apply mmI (r := -3)
    case h1 =>
      rw [fX4_map, a2, some_bind]
      exact if_pos rfl
    case h2 =>
      rw [fX5_map, a3, some_bind]
      exact if_neg (nI_n9 (by omega))
    case h3 => exact ⟨g, hg, hL, hR, hT, hO, hV, hH, hr⟩
  · obtain ⟨y, y1, y2⟩ := copyFrom_eq S.1 a2 a5
    have hN : y.1 * y.2.1 = nI W * nI H := by rw [y2.1, y2.2.1, a3, a4]
    obtain ⟨c, nx, c1, c2, c3, c4, c5, c6⟩ := hH
    apply mmI (r := nI W * nI H)
    case h1 =>
      rw [fX4_map, a1, some_bind, if_neg one_ne, y1, some_bind, fX1_cellCount, hN, some_bind]
    case h2 =>
      rw [fX5_map, a7, some_bind, if_pos rfl, copy_eq, some_bind, fX5_cells, some_bind]
      rfl
    case h3 =>
      exact ⟨g', a2, y2, RQ_RR (RQ_copy a2 a6), hT, hO, ⟨false, false, rfl, rfl, rfl, fun q => (by cases q), fun q => (by cases q)⟩, ⟨0, nx, by omega, c2, rfl, rfl, c5, trivial⟩, hr⟩
