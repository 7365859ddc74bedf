/-! Steps that only ask about sight. -/
theorem pick_cell {g : tG} (hg : GG g) (u : Int32) : (∃ a, a < gN g ∧ u = nI a) ∨ (¬ (0 ≤ u ∧ u ≤ nI (gN g) - 1) ∧ ∀ a, a < gN g → u ≠ nI a) := below u (by have := gN_ge hg; omega) (by have := gN_le hg; omega)
theorem pick_tower {g : tG} (hg : GG g) (u : Int32) : (∃ t, t < gT g ∧ u = nI t) ∨ (¬ (0 ≤ u ∧ u ≤ nI (gT g) - 1) ∧ ∀ t, t < gT g → u ≠ nI t) := by
  have h5 := hg.2.2.1
  by_cases h0 : gT g = 0
  · refine Or.inr ⟨fun q => ?_, fun t ht => by omega⟩
    rw [h0] at q
    exact absurd (Int32.le_trans q.1 q.2) (by decide)
  · exact below u (by omega) (by omega)
theorem eye_le {g : tG} (hg : GG g) : gs g 0 ≤ 99 := by have := hg.2.2.2.2.2.2.1 0 (by decide); omega
theorem do_view : stp_view Sim := by
  rintro S M ⟨g, hg, hL, hR, -⟩ u
  rcases pick_cell hg u with ⟨a, ha, rfl⟩ | ⟨h1, h2⟩
  · refine ⟨lN (mk (sees g a (gs g 0)) (gN g)), ?_, ?_⟩
    · rw [fX4_view, hasCell_yes hg hL ha, some_bind, if_neg one_ne, show ((0 : Int32).toNatClampNeg) = 0 from rfl, hL.2.2.2.2.2.2 0 (by decide), viewFrom_eq hg hL ha (eye_le hg)]
      rfl
    · rw [fX5_view, isCell_yes hg hR ha, some_bind, if_neg one_ne, show ((47 : Int32).toNatClampNeg) = 47 + 0 from rfl, hR.2.2.2.2.2.2 0 (by decide), viewOf_eq hg hR ha (eye_le hg)]
      rfl
  · refine ⟨-1, ?_, ?_⟩
    · rw [fX4_view, hasCell_no hg hL h2]
      rfl
    · rw [fX5_view, isCell_no hR h1]
      rfl
theorem do_watched : stp_watched Sim := by
  rintro S M ⟨g, hg, hL, hR, -⟩ u
  rcases pick_tower hg u with ⟨t, ht, rfl⟩ | ⟨h1, h2⟩
  · refine ⟨lN (mk (tsee g t) (gN g)), ?_, ?_⟩
    · rw [fX4_watched, hasTower_eq hg hL ht, some_bind, if_neg one_ne, towerView_eq hg hL ht]
      rfl
    · rw [fX5_watched, isTower_yes hg hR ht, some_bind, if_neg one_ne, watchedBy_eq hg hR ht]
      rfl
  · refine ⟨-1, ?_, ?_⟩
    · rw [fX4_watched, hasTower_no hg hL h2]
      rfl
    · rw [fX5_watched, isTower_no hR h1]
      rfl
/-! the reference's first step in the way, and the rise that it needs -/
theorem firstIn_loop {o : tMo} {w : tA} {g : tG} (hg : GG g) (hR : RR o w g) {a b : Nat} (ha : a < gN g) (hb : b < gN g) : ∀ (d k f : Nat), k + d = dst (gw g) a b → 1 ≤ k → d < f → fX5_firstInWay_2 o w (nI a) (nI b) (fun y => some y) (some (-9)) f (nI k) = some (firstB g a (gs g 0) b (dst (gw g) a b) k d) := by
  have h36 := gN_le hg
  have hd := dst_le hg ha hb
  intro d
  induction d with
  | zero =>
    intro k f h1 h2 h3
    obtain ⟨f, rfl⟩ : ∃ m, f = m + 1 := ⟨f - 1, by omega⟩
    rw [fX5_firstInWay_2, mdist_eq hg hR ha hb, some_bind, if_pos (nI_le (by omega) (by omega))]
    rfl
  | succ d ih =>
    intro k f h1 h2 h3
    obtain ⟨f, rfl⟩ : ∃ m, f = m + 1 := ⟨f - 1, by omega⟩
    have hb1 := exc_bd hg (r := gs g 0) (n := dst (gw g) a b) (k := k) ha hb (eye_le hg) (by omega) hd (by omega)
    rw [fX5_firstInWay_2, mdist_eq hg hR ha hb, some_bind, if_neg (nI_ge (by omega) (by omega)), gd_inb (by omega) (by decide), toN (by omega), show ((47 : Int32).toNatClampNeg) = 47 + 0 from rfl, hR.2.2.1 a (by omega), hR.2.2.2.2.2.2 0 (by decide), nI_add, over_eq hg hR ha hb (eye_le hg) (by omega), some_bind, firstB]
    by_cases he : exc g a (gs g 0) b (dst (gw g) a b) k ≤ 0
    · rw [if_pos (show iI (exc g a (gs g 0) b (dst (gw g) a b) k) ≤ 0 from (iI_le (b := 0) (by omega) (by omega) (by decide) (by decide)).mpr he), nm_eq, nI_add1, if_pos he]
      exact ih (k + 1) f (by omega) (by omega) (by omega)
    · rw [if_neg (show ¬ iI (exc g a (gs g 0) b (dst (gw g) a b) k) ≤ 0 from fun q => he ((iI_le (b := 0) (by omega) (by omega) (by decide) (by decide)).mp q)), if_neg he]
theorem firstIn_eq {o : tMo} {w : tA} {g : tG} (hg : GG g) (hR : RR o w g) {a b : Nat} (ha : a < gN g) (hb : b < gN g) : fX5_firstInWay o w (nI a) (nI b) = some (firstB g a (gs g 0) b (dst (gw g) a b) 1 (dst (gw g) a b - 1)) := by
  have hd := dst_le hg ha hb
  rw [fX5_firstInWay]
  by_cases h0 : dst (gw g) a b = 0
  · rw [fX5_firstInWay_2, mdist_eq hg hR ha hb, some_bind, h0, if_pos (show nI 0 ≤ (1 : Int32) from by decide)]
    rfl
  · rw [show (1 : Int32) = nI 1 from rfl]
    exact firstIn_loop hg hR ha hb _ 1 100000 (by omega) (by decide) (by omega)
theorem mneed_loop {o : tMo} {w : tA} {g : tG} (hg : GG g) (hR : RR o w g) {a b : Nat} (ha : a < gN g) (hb : b < gN g) : ∀ (d r f : Nat), r + d = 100 → d < f → fX5_needed_2 o w (nI a) (nI b) (fun y => if y = (100 : Int32) then some (-9) else some y) f (nI r) = some (needR g a b r d) := by
  intro d
  induction d with
  | zero =>
    intro r f h1 h2
    obtain ⟨f, rfl⟩ : ∃ m, f = m + 1 := ⟨f - 1, by omega⟩
    rw [fX5_needed_2, if_pos (show (100 : Int32) ≤ nI r from nI_le (a := 100) (by omega) (by omega)), show r = 100 by omega]
    rfl
  | succ d ih =>
    intro r f h1 h2
    obtain ⟨f, rfl⟩ : ∃ m, f = m + 1 := ⟨f - 1, by omega⟩
    rw [fX5_needed_2, if_neg (show ¬ (100 : Int32) ≤ nI r from nI_ge (b := 100) (by omega) (by decide)), isSeen_eq hg hR ha hb (by omega), some_bind, needR]
    cases hs : sees g a r b
    · rw [if_pos (by rfl), nm_eq, nI_add1]
      exact ih (r + 1) f (by omega) (by omega)
    · rw [if_neg (by decide), if_neg (show ¬ nI r = (100 : Int32) from fun q => by have := (nI_eq (b := 100) (by omega) (by decide)).mp q; omega)]
      rfl
theorem mneed_eq {o : tMo} {w : tA} {g : tG} (hg : GG g) (hR : RR o w g) {a b : Nat} (ha : a < gN g) (hb : b < gN g) : fX5_needed o w (nI a) (nI b) = some (needR g a b 0 100) := by
  rw [fX5_needed]
  exact mneed_loop hg hR ha hb 100 0 100000 (by decide) (by decide)
theorem do_sees : stp_sees Sim := by
  rintro S M ⟨g, hg, hL, hR, -⟩ u1 u2 u3
  rcases pick_cell hg u1 with ⟨a, ha, rfl⟩ | ⟨h1, h2⟩
  · rcases pick_cell hg u2 with ⟨b, hb, rfl⟩ | ⟨h1, h2⟩
    · have hd := dst_le hg ha hb
      have e1 : fX4_sees S (nI a) (nI b) u3 = if u3 = 0 then some (if sees g a (gs g 0) b then 1 else 0) else if u3 = 1 then some (nI (dst (gw g) a b)) else if u3 = 2 then some (firstB g a (gs g 0) b (dst (gw g) a b) 1 (dst (gw g) a b - 1)) else if u3 = 3 then (if 2 ≤ dst (gw g) a b then some (1000 + iI (mostE g a (gs g 0) b (dst (gw g) a b) 1 (dst (gw g) a b - 1) (-1000000))) else some (-9)) else if u3 = 4 then some (needR g a b 0 100) else some (-2) := by
        rw [fX4_sees, hasCell_yes hg hL ha, some_bind, if_neg one_ne, hasCell_yes hg hL hb, some_bind, if_neg one_ne, nm_eq, show ((0 : Int32).toNatClampNeg) = 0 from rfl, hL.2.2.2.2.2.2 0 (by decide), canSee_eq hg hL ha hb (eye_le hg), some_bind, distance_eq hg hL ha hb, some_bind, some_bind, firstBlock_eq hg hL ha hb (eye_le hg), some_bind, neededRise_eq hg hL ha hb, some_bind]
        congr 1
        · cases sees g a (gs g 0) b <;> rfl
        · congr 3
          by_cases h : 2 ≤ dst (gw g) a b
          · rw [if_pos (show (2 : Int32) ≤ nI _ from nI_le (a := 2) h (by omega)), if_pos h, greatest_eq hg hL ha hb (eye_le hg) h]
            rfl
          · rw [if_neg (show ¬ (2 : Int32) ≤ nI _ from nI_ge (b := 2) (by omega) (by decide)), if_neg h]
      have e2 : fX5_sees M.1 M.2.2.1 (nI a) (nI b) u3 = if u3 = 0 then some (if sees g a (gs g 0) b then 1 else 0) else if u3 = 1 then some (nI (dst (gw g) a b)) else if u3 = 2 then some (firstB g a (gs g 0) b (dst (gw g) a b) 1 (dst (gw g) a b - 1)) else if u3 = 3 then (if 2 ≤ dst (gw g) a b then some (1000 + iI (mostE g a (gs g 0) b (dst (gw g) a b) 1 (dst (gw g) a b - 1) (-1000000))) else some (-9)) else if u3 = 4 then some (needR g a b 0 100) else some (-2) := by
        sorry
      sorry
    · refine ⟨-1, ?_, ?_⟩
      · rw [fX4_sees, hasCell_yes hg hL ha, some_bind, if_neg one_ne, hasCell_no hg hL h2]
        rfl
      · rw [fX5_sees, isCell_yes hg hR ha, some_bind, if_neg one_ne, isCell_no hR h1]
        rfl
  · refine ⟨-1, ?_, ?_⟩
    · rw [fX4_sees, hasCell_no hg hL h2]
      rfl
    · rw [fX5_sees, isCell_no hR h1]
      rfl
