/-! Steps that only ask about sight. -/
theorem pick_cell {g : tG} (hg : GG g) (u : Int32) : (∃ a, a < gN g ∧ u = nI a) ∨ (¬ (0 ≤ u ∧ u ≤ nI (gN g) - 1) ∧ ∀ a, a < gN g → u ≠ nI a) := below u (by have := gN_ge hg; omega) (by have := gN_le hg; omega)
theorem pick_tower {g : tG} (hg : GG g) (u : Int32) : (∃ t, t < gT g ∧ u = nI t) ∨ (¬ (0 ≤ u ∧ u ≤ nI (gT g) - 1) ∧ ∀ t, t < gT g → u ≠ nI t) := by
  have h5 := hg.2.2.1
  by_cases h0 : gT g = 0
  · refine Or.inr ⟨fun q => ?_, fun t ht => by omega⟩
    rw [h0] at q
    exact absurd (Int32.le_trans q.1 q.2) (by decide)
  · exact below u (by omega) (by omega)
theorem eye_le {g : tG} (hg : GG g) : gs g 0 ≤ 99 := by have := hg.2.2.2.2.2.2.1 0 (by decide); omega
theorem do_view : stp_view Sim := by
  rintro S M ⟨g, hg, hL, hR, -⟩ u
  rcases pick_cell hg u with ⟨a, ha, rfl⟩ | ⟨h1, h2⟩
  · refine ⟨lN (mk (sees g a (gs g 0)) (gN g)), ?_, ?_⟩
    · rw [fX4_view, hasCell_yes hg hL ha, some_bind, if_neg one_ne, show ((0 : Int32).toNatClampNeg) = 0 from rfl, hL.2.2.2.2.2.2 0 (by decide), viewFrom_eq hg hL ha (eye_le hg)]
      rfl
    · rw [fX5_view, isCell_yes hg hR ha, some_bind, if_neg one_ne, show ((47 : Int32).toNatClampNeg) = 47 + 0 from rfl, hR.2.2.2.2.2.2 0 (by decide), viewOf_eq hg hR ha (eye_le hg)]
      rfl
  · refine ⟨-1, ?_, ?_⟩
    · rw [fX4_view, hasCell_no hg hL h2]
      rfl
    · rw [fX5_view, isCell_no hR h1]
      rfl
theorem do_watched : stp_watched Sim := by
  rintro S M ⟨g, hg, hL, hR, -⟩ u
  rcases pick_tower hg u with ⟨t, ht, rfl⟩ | ⟨h1, h2⟩
  · refine ⟨lN (mk (tsee g t) (gN g)), ?_, ?_⟩
    · rw [fX4_watched, hasTower_eq hg hL ht, some_bind, if_neg one_ne, towerView_eq hg hL ht]
      rfl
    · rw [fX5_watched, isTower_yes hg hR ht, some_bind, if_neg one_ne, watchedBy_eq hg hR ht]
      rfl
  · refine ⟨-1, ?_, ?_⟩
    · rw [fX4_watched, hasTower_no hg hL h2]
      rfl
    · rw [fX5_watched, isTower_no hR h1]
      rfl
/-! the reference's first step in the way, and the rise that it needs -/
theorem firstIn_loop {o : tMo} {w : tA} {g : tG} (hg : GG g) (hR : RR o w g) {a b : Nat} (ha : a < gN g) (hb : b < gN g) : ∀ (d k f : Nat), k + d = dst (gw g) a b → 1 ≤ k → d < f → fX5_firstInWay_2 o w (nI a) (nI b) (fun y => some y) (some (-9)) f (nI k) = some (firstB g a (gs g 0) b (dst (gw g) a b) k d) := by
  have h36 := gN_le hg
  have hd := dst_le hg ha hb
  intro d
  induction d with
  | zero =>
    intro k f h1 h2 h3
    obtain ⟨f, rfl⟩ : ∃ m, f = m + 1 := ⟨f - 1, by omega⟩
    rw [fX5_firstInWay_2, mdist_eq hg hR ha hb, some_bind, if_pos (nI_le (by omega) (by omega))]
    rfl
  | succ d ih =>
    intro k f h1 h2 h3
    obtain ⟨f, rfl⟩ : ∃ m, f = m + 1 := ⟨f - 1, by omega⟩
    have hb1 := exc_bd hg (r := gs g 0) (n := dst (gw g) a b) (k := k) ha hb (eye_le hg) (by omega) hd (by omega)
    rw [fX5_firstInWay_2, mdist_eq hg hR ha hb, some_bind, if_neg (nI_ge (by omega) (by omega)), gd_inb (by omega) (by decide), toN (by omega), show ((47 : Int32).toNatClampNeg) = 47 + 0 from rfl, hR.2.2.1 a (by omega), hR.2.2.2.2.2.2 0 (by decide), nI_add, over_eq hg hR ha hb (eye_le hg) (by omega), some_bind, firstB]
    by_cases he : exc g a (gs g 0) b (dst (gw g) a b) k ≤ 0
    · rw [if_pos (show iI (exc g a (gs g 0) b (dst (gw g) a b) k) ≤ 0 from (iI_le (b := 0) (by omega) (by omega) (by decide) (by decide)).mpr he), nm_eq, nI_add1, if_pos he]
      exact ih (k + 1) f (by omega) (by omega) (by omega)
    · rw [if_neg (show ¬ iI (exc g a (gs g 0) b (dst (gw g) a b) k) ≤ 0 from fun q => he ((iI_le (b := 0) (by omega) (by omega) (by decide) (by decide)).mp q)), if_neg he]
theorem firstIn_eq {o : tMo} {w : tA} {g : tG} (hg : GG g) (hR : RR o w g) {a b : Nat} (ha : a < gN g) (hb : b < gN g) : fX5_firstInWay o w (nI a) (nI b) = some (firstB g a (gs g 0) b (dst (gw g) a b) 1 (dst (gw g) a b - 1)) := by
  have hd := dst_le hg ha hb
  rw [fX5_firstInWay]
  by_cases h0 : dst (gw g) a b = 0
  · rw [fX5_firstInWay_2, mdist_eq hg hR ha hb, some_bind, h0, if_pos (show nI 0 ≤ (1 : Int32) from by decide)]
    rfl
  · rw [show (1 : Int32) = nI 1 from rfl]
    exact firstIn_loop hg hR ha hb _ 1 100000 (by omega) (by decide) (by omega)
theorem mneed_loop {o : tMo} {w : tA} {g : tG} (hg : GG g) (hR : RR o w g) {a b : Nat} (ha : a < gN g) (hb : b < gN g) : ∀ (d r f : Nat), r + d = 100 → d < f → fX5_needed_2 o w (nI a) (nI b) (fun y => if y = (100 : Int32) then some (-9) else some y) f (nI r) = some (needR g a b r d) := by
  intro d
  induction d with
  | zero =>
    intro r f h1 h2
    obtain ⟨f, rfl⟩ : ∃ m, f = m + 1 := ⟨f - 1, by omega⟩
    rw [fX5_needed_2, if_pos (show (100 : Int32) ≤ nI r from nI_le (a := 100) (by omega) (by omega)), show r = 100 by omega]
    rfl
  | succ d ih =>
    intro r f h1 h2
    obtain ⟨f, rfl⟩ : ∃ m, f = m + 1 := ⟨f - 1, by omega⟩
    rw [fX5_needed_2, if_neg (show ¬ (100 : Int32) ≤ nI r from nI_ge (b := 100) (by omega) (by decide)), isSeen_eq hg hR ha hb (by omega), some_bind, needR]
    cases hs : sees g a r b
    · rw [if_pos (by rfl), nm_eq, nI_add1]
      exact ih (r + 1) f (by omega) (by omega)
    · rw [if_neg (by decide), if_neg (show ¬ nI r = (100 : Int32) from fun q => by have := (nI_eq (b := 100) (by omega) (by decide)).mp q; omega)]
      rfl
theorem mneed_eq {o : tMo} {w : tA} {g : tG} (hg : GG g) (hR : RR o w g) {a b : Nat} (ha : a < gN g) (hb : b < gN g) : fX5_needed o w (nI a) (nI b) = some (needR g a b 0 100) := by
  rw [fX5_needed]
  exact mneed_loop hg hR ha hb 100 0 100000 (by decide) (by decide)
theorem do_sees : stp_sees Sim := by
  rintro S M ⟨g, hg, hL, hR, -⟩ u1 u2 u3
  rcases pick_cell hg u1 with ⟨a, ha, rfl⟩ | ⟨h1, h2⟩
  · rcases pick_cell hg u2 with ⟨b, hb, rfl⟩ | ⟨h1, h2⟩
    · have hd := dst_le hg ha hb
      have e1 : fX4_sees S (nI a) (nI b) u3 = if u3 = 0 then some (if sees g a (gs g 0) b then 1 else 0) else if u3 = 1 then some (nI (dst (gw g) a b)) else if u3 = 2 then some (firstB g a (gs g 0) b (dst (gw g) a b) 1 (dst (gw g) a b - 1)) else if u3 = 3 then (if 2 ≤ dst (gw g) a b then some (1000 + iI (mostE g a (gs g 0) b (dst (gw g) a b) 1 (dst (gw g) a b - 1) (-1000000))) else some (-9)) else if u3 = 4 then some (needR g a b 0 100) else some (-2) := by
        rw [fX4_sees, hasCell_yes hg hL ha, some_bind, if_neg one_ne, hasCell_yes hg hL hb, some_bind, if_neg one_ne, nm_eq, show ((0 : Int32).toNatClampNeg) = 0 from rfl, hL.2.2.2.2.2.2 0 (by decide), canSee_eq hg hL ha hb (eye_le hg), some_bind, distance_eq hg hL ha hb, some_bind, some_bind, firstBlock_eq hg hL ha hb (eye_le hg), some_bind, neededRise_eq hg hL ha hb, some_bind]
        congr 1
        · cases sees g a (gs g 0) b <;> rfl
        · congr 3
          by_cases h : 2 ≤ dst (gw g) a b
          · rw [if_pos (show (2 : Int32) ≤ nI _ from nI_le (a := 2) h (by omega)), if_pos h, greatest_eq hg hL ha hb (eye_le hg) h]
            rfl
          · rw [if_neg (show ¬ (2 : Int32) ≤ nI _ from nI_ge (b := 2) (by omega) (by decide)), if_neg h]
      have e2 : fX5_sees M.1 M.2.2.1 (nI a) (nI b) u3 = if u3 = 0 then some (if sees g a (gs g 0) b then 1 else 0) else if u3 = 1 then some (nI (dst (gw g) a b)) else if u3 = 2 then some (firstB g a (gs g 0) b (dst (gw g) a b) 1 (dst (gw g) a b - 1)) else if u3 = 3 then (if 2 ≤ dst (gw g) a b then some (1000 + iI (mostE g a (gs g 0) b (dst (gw g) a b) 1 (dst (gw g) a b - 1) (-1000000))) else some (-9)) else if u3 = 4 then some (needR g a b 0 100) else some (-2) := by
        rw [fX5_sees, isCell_yes hg hR ha, some_bind, if_neg one_ne, isCell_yes hg hR hb, some_bind, if_neg one_ne, show ((47 : Int32).toNatClampNeg) = 47 + 0 from rfl, hR.2.2.2.2.2.2 0 (by decide), isSeen_eq hg hR ha hb (eye_le hg), some_bind, mdist_eq hg hR ha hb, some_bind, some_bind, firstIn_eq hg hR ha hb, some_bind, mneed_eq hg hR ha hb, some_bind]
        congr 1
        · cases sees g a (gs g 0) b <;> rfl
        · congr 3
          by_cases h : 2 ≤ dst (gw g) a b
          · have h36 := gN_le hg
            rw [if_pos (show (2 : Int32) ≤ nI _ from nI_le (a := 2) h (by omega)), if_pos h, gd_inb (by omega) (by decide), toN (by omega), hR.2.2.1 a (by omega), nI_add, mostOver_eq hg hR ha hb (eye_le hg)]
            rfl
          · rw [if_neg (show ¬ (2 : Int32) ≤ nI _ from nI_ge (b := 2) (by omega) (by decide)), if_neg h]
      rw [e1, e2]
      repeat (first | exact ⟨_, rfl, rfl⟩ | split)
    · refine ⟨-1, ?_, ?_⟩
      · rw [fX4_sees, hasCell_yes hg hL ha, some_bind, if_neg one_ne, hasCell_no hg hL h2]
        rfl
      · rw [fX5_sees, isCell_yes hg hR ha, some_bind, if_neg one_ne, isCell_no hR h1]
        rfl
  · refine ⟨-1, ?_, ?_⟩
    · rw [fX4_sees, hasCell_no hg hL h2]
      rfl
    · rw [fX5_sees, isCell_no hR h1]
      rfl
/-! towers -/
theorem own_loop {o : tMo} {w : tA} {g : tG} (hg : GG g) (hR : RR o w g) {u : Nat} (hu : u < gT g) (k46 : Int64 → Option Int32) : ∀ (d t f : Nat), t + d = gT g → d < f → fX5_ownOf_5 o w (nI u) k46 f (lN (mk (fun c => anyN (fun e => decide (e ≠ u) && tsee g e c) t) (gN g))) (nI t) = k46 (lN (mk (fun c => anyN (fun e => decide (e ≠ u) && tsee g e c) (gT g)) (gN g))) := by
  have h5 := hg.2.2.1
  intro d
  induction d with
  | zero =>
    intro t f h1 h2
    obtain ⟨f, rfl⟩ : ∃ m, f = m + 1 := ⟨f - 1, by omega⟩
    rw [fX5_ownOf_5, show ((36 : Int32).toNatClampNeg) = 36 from rfl, hR.2.2.2.1, if_pos (nI_le (by omega) (by omega)), show t = gT g by omega]
  | succ d ih =>
    intro t f h1 h2
    obtain ⟨f, rfl⟩ : ∃ m, f = m + 1 := ⟨f - 1, by omega⟩
    have ht : t < gT g := by omega
    rw [fX5_ownOf_5, show ((36 : Int32).toNatClampNeg) = 36 from rfl, hR.2.2.2.1, if_neg (nI_ge ht (by omega))]
    by_cases h : t = u
    · subst h
      rw [if_pos rfl, nm_eq, nm_eq, nI_add1, show (0 : Int64) = lN 0 from rfl, fb_orL, Nat.or_zero, ← ih (t + 1) f (by omega) (by omega)]
      congr 2
      exact mk_congr (fun c _ => by simp [anyN])
    · rw [if_neg (fun q => h ((nI_eq (by omega) (by omega)).mp q)), watchedBy_eq hg hR ht, some_bind, nm_eq, nm_eq, nI_add1, fb_orL, mk_or, ← ih (t + 1) f (by omega) (by omega)]
      congr 2
      exact mk_congr (fun c _ => by simp [anyN, h])
theorem own_eq {o : tMo} {w : tA} {g : tG} (hg : GG g) (hR : RR o w g) {u : Nat} (hu : u < gT g) : fX5_ownOf o w (nI u) = some (nI (cnt (alone g u) (gN g))) := by
  have h5 := hg.2.2.1
  have h36 := gN_le hg
  rw [fX5_ownOf, show (0 : Int64) = lN (mk (fun c => anyN (fun e => decide (e ≠ u) && tsee g e c) 0) (gN g)) by rw [show (fun c => anyN (fun e => decide (e ≠ u) && tsee g e c) 0) = fun _ => false from rfl, mk_false]; rfl, show (0 : Int32) = nI 0 from rfl, own_loop hg hR hu _ (gT g) 0 100000 (by omega) (by omega), watchedBy_eq hg hR hu, some_bind, dif_l, mk_dif _ _ (by omega), ones_mk _ h36]
  rfl
theorem do_tower : stp_tower Sim := by
  rintro S M ⟨g, hg, hL, hR, -⟩ u1 u2
  have h5 := hg.2.2.1
  have h36 := gN_le hg
  rcases pick_tower hg u1 with ⟨t, ht, rfl⟩ | ⟨h1, h2⟩
  · have e1 : fX4_tower S (nI t) u2 = if u2 = 0 then some (nI (gc g t)) else if u2 = 1 then some (nI (gr g t)) else if u2 = 2 then some (nI (cnt (tsee g t) (gN g))) else if u2 = 3 then some (nI (cnt (alone g t) (gN g))) else some (-2) := by
      rw [fX4_tower, hasTower_eq hg hL ht, some_bind, if_neg one_ne, gd_inb (by omega) (by decide), gd_inb (by omega) (by decide), toN (by omega), hL.2.2.2.2.1 t ht, hL.2.2.2.2.2.1 t ht, towerView_eq hg hL ht, some_bind, bitCount_mk _ h36, some_bind, seenAlone_eq hg hL ht, some_bind, bitCount_mk _ h36, some_bind]
    have e2 : fX5_tower M.1 M.2.2.1 (nI t) u2 = if u2 = 0 then some (nI (gc g t)) else if u2 = 1 then some (nI (gr g t)) else if u2 = 2 then some (nI (cnt (tsee g t) (gN g))) else if u2 = 3 then some (nI (cnt (alone g t) (gN g))) else some (-2) := by
      rw [fX5_tower, isTower_yes hg hR ht, some_bind, if_neg one_ne, show (37 : Int32) = nI 37 from rfl, show (42 : Int32) = nI 42 from rfl, nI_add, nI_add, gd_inb (by omega) (by decide), gd_inb (by omega) (by decide), toN (by omega), toN (by omega), hR.2.2.2.2.1 t ht, hR.2.2.2.2.2.1 t ht, watchedBy_eq hg hR ht, some_bind, ones_mk _ h36, some_bind, own_eq hg hR ht, some_bind]
    rw [e1, e2]
    repeat (first | exact ⟨_, rfl, rfl⟩ | split)
  · refine ⟨-1, ?_, ?_⟩
    · rw [fX4_tower, hasTower_no hg hL h2]
      rfl
    · rw [fX5_tower, isTower_no hR h1]
      rfl
/-! views combined -/
def comb (way : Int32) (a b : Int64) : Int64 := if way = 0 then a ||| b else if way = 1 then a &&& b else if way = 2 then a ^^^ b else a &&& (b ^^^ (-1))
def joinF (g : tG) (way : Int32) : Nat → Int64
  | 0 => 0
  | t + 1 => if t = 0 then lN (mk (tsee g 0) (gN g)) else comb way (joinF g way t) (lN (mk (tsee g t) (gN g)))
theorem combine_eq (way : Int32) (a b : Int64) : fX4_combine way a b = some (comb way a b) := by
  rw [fX4_combine]
  unfold comb
  repeat (first | rfl | split)
theorem joined_loop {S : tH} {g : tG} (hg : GG g) (hL : LL S.1 g) (way : Int32) (k72 : Int64 → Option Int64) : ∀ (d t f : Nat), t + d = gT g → 1 ≤ t → d < f → fX4_joined_39 S way k72 f (joinF g way t) (nI t) = k72 (joinF g way (gT g)) := by
  have h5 := hg.2.2.1
  intro d
  induction d with
  | zero =>
    intro t f h1 h2 h3
    obtain ⟨f, rfl⟩ : ∃ m, f = m + 1 := ⟨f - 1, by omega⟩
    rw [fX4_joined_39, hL.2.2.1, if_pos (nI_le (by omega) (by omega)), show t = gT g by omega]
  | succ d ih =>
    intro t f h1 h2 h3
    obtain ⟨f, rfl⟩ : ∃ m, f = m + 1 := ⟨f - 1, by omega⟩
    have ht : t < gT g := by omega
    rw [fX4_joined_39, hL.2.2.1, if_neg (nI_ge ht (by omega)), towerView_eq hg hL ht, some_bind, combine_eq, some_bind, nm_eq, nI_add1, ← ih (t + 1) f (by omega) (by omega) (by omega), joinF, if_neg (by omega)]
theorem mjoined_loop {o : tMo} {w : tA} {g : tG} (hg : GG g) (hR : RR o w g) (way : Int32) (k105 : Int64 → Option Int64) : ∀ (d t f : Nat), t + d = gT g → d < f → fX5_joined_21 o w way k105 f (joinF g way t) (nI t) = k105 (joinF g way (gT g)) := by
  have h5 := hg.2.2.1
  intro d
  induction d with
  | zero =>
    intro t f h1 h3
    obtain ⟨f, rfl⟩ : ∃ m, f = m + 1 := ⟨f - 1, by omega⟩
    rw [fX5_joined_21, show ((36 : Int32).toNatClampNeg) = 36 from rfl, hR.2.2.2.1, if_pos (nI_le (by omega) (by omega)), show t = gT g by omega]
  | succ d ih =>
    intro t f h1 h3
    obtain ⟨f, rfl⟩ : ∃ m, f = m + 1 := ⟨f - 1, by omega⟩
    have ht : t < gT g := by omega
    have ihh := ih (t + 1) f (by omega) (by omega)
    rw [fX5_joined_21, show ((36 : Int32).toNatClampNeg) = 36 from rfl, hR.2.2.2.1, if_neg (nI_ge ht (by omega)), watchedBy_eq hg hR ht, some_bind]
    simp only [nm_eq, nI_add1]
    rw [joinF] at ihh
    by_cases h0 : t = 0
    · subst h0
      rw [if_pos rfl] at ihh
      rw [if_pos (show nI 0 = 0 from rfl)]
      exact ihh
    · rw [if_neg h0] at ihh
      rw [if_neg (nI_ne0 (by omega) (by omega))]
      unfold comb at ihh
      by_cases w0 : way = 0
      · rw [if_pos w0] at ihh ⊢; exact ihh
      · rw [if_neg w0] at ihh ⊢
        by_cases w1 : way = 1
        · rw [if_pos w1] at ihh ⊢; exact ihh
        · rw [if_neg w1] at ihh ⊢
          by_cases w2 : way = 2
          · rw [if_pos w2] at ihh ⊢; exact ihh
          · rw [if_neg w2] at ihh ⊢; exact ihh
theorem do_joined : stp_joined Sim := by
  rintro S M ⟨g, hg, hL, hR, -⟩ u
  have h5 := hg.2.2.1
  rcases upto u 3 (by decide) with ⟨v, hv, rfl⟩ | ⟨hn, ho⟩
  · refine ⟨joinF g (nI v) (gT g), ?_, ?_⟩
    · rw [fX4_joined, if_neg (nI_pos (by omega)), if_pos (show nI v ≤ (3 : Int32) from nI_le (b := 3) hv (by decide)), hL.2.2.1]
      by_cases h0 : gT g = 0
      · rw [h0, if_pos (show nI 0 = 0 from rfl), fX4_joined_39, hL.2.2.1, h0, if_pos (show nI 0 ≤ (1 : Int32) by decide)]
        rfl
      · rw [if_neg (nI_ne0 (by omega) (by omega)), show (0 : Int32) = nI 0 from rfl, towerView_eq hg hL (by omega), some_bind, show (1 : Int32) = nI 1 from rfl]
        exact joined_loop hg hL (nI v) _ (gT g - 1) 1 100000 (by omega) (by decide) (by omega)
    · rw [fX5_joined, show (3 : Int64) = (nI 3).toInt64 from rfl, in_up hv (by decide), some_bind, if_neg one_ne]
      exact mjoined_loop hg hR (nI v) _ (gT g) 0 100000 (by omega) (by omega)
  · refine ⟨-2, ?_, ?_⟩
    · rw [fX4_joined]
      rcases ho with ho | ho
      · rw [if_pos ho]
      · by_cases h0 : u < 0
        · rw [if_pos h0]
        · rw [if_neg h0, if_neg (show ¬ u ≤ (3 : Int32) from fun q => absurd ho (Int32.not_lt.mpr q))]
    · rw [fX5_joined, show (3 : Int64) = (nI 3).toInt64 from rfl, in_upno hn, some_bind]
      rfl
/-! parts and chances -/
theorem do_part : stp_part Sim := by
  rintro S M ⟨g, hg, hL, hR, -⟩ u
  have h36 := gN_le hg
  have h4 := gN_ge hg
  have hc : hidN g ≤ gN g := cnt_le _ _
  refine ⟨if u = 0 then nI (gN g / Nat.gcd (gN g - hidN g) (gN g)) else nI ((gN g - hidN g) / Nat.gcd (gN g - hidN g) (gN g)), ?_, ?_⟩
  · rw [fX4_part, fX1_cellCount, LL_N hL, some_bind, hiddenSet_eq hg hL, some_bind, bitCount_mk _ h36, some_bind, show cnt (hid g (gT g)) (gN g) = hidN g from rfl, pk_sub hc, lowest_eq (by omega) (by omega) (by omega)]
    rfl
  · rw [fX5_part, cells_eq hR, some_bind, hidden_eq hg hR, some_bind, some_bind, pk_sub hc, frac_eq (by omega) (by omega) (by omega)]
    rfl
theorem power_loop {b n : Nat} (hb : b ≤ 10) (hn : n ≤ 5) (k19 : Int32 → Option Int32) : ∀ (d i f : Nat), i + d = n → d < f → fX5_power_4 (nI b) (nI n) k19 f (nI (b ^ i)) (nI i) = k19 (nI (b ^ n)) := by
  intro d
  induction d with
  | zero =>
    intro i f h1 h2
    obtain ⟨f, rfl⟩ : ∃ m, f = m + 1 := ⟨f - 1, by omega⟩
    rw [fX5_power_4, if_pos (nI_le (by omega) (by omega)), show i = n by omega]
  | succ d ih =>
    intro i f h1 h2
    obtain ⟨f, rfl⟩ : ∃ m, f = m + 1 := ⟨f - 1, by omega⟩
    rw [fX5_power_4, if_neg (nI_ge (by omega) (by omega)), nm_eq, nm_eq, nI_add1, pk_mul, ← Nat.pow_succ]
    exact ih (i + 1) f (by omega) (by omega)
theorem power_eq {b n : Nat} (hb : b ≤ 10) (hn : n ≤ 5) : fX5_power (nI b) (nI n) = some (nI (b ^ n)) := by
  rw [fX5_power]
  exact power_loop hb hn _ n 0 100000 (by omega) (by omega)
theorem chance_loop (S : tH) {x n : Nat} (hn : n ≤ 5) (g3 : Int32) (k71 : Int32 → Int32 → Option Int32) : ∀ (d i f : Nat), i + d = n → d < f → fX4_chance_45 S (nI x) g3 (nI n) k71 f (nI (x ^ i)) (nI (10 ^ i)) (nI i) = k71 (nI (x ^ n)) (nI (10 ^ n)) := by
  intro d
  induction d with
  | zero =>
    intro i f h1 h2
    obtain ⟨f, rfl⟩ : ∃ m, f = m + 1 := ⟨f - 1, by omega⟩
    rw [fX4_chance_45, if_pos (nI_le (by omega) (by omega)), show i = n by omega]
  | succ d ih =>
    intro i f h1 h2
    obtain ⟨f, rfl⟩ : ∃ m, f = m + 1 := ⟨f - 1, by omega⟩
    rw [fX4_chance_45, if_neg (nI_ge (by omega) (by omega)), nm_eq, nm_eq, nm_eq, nI_add1, show (10 : Int32) = nI 10 from rfl, pk_mul, pk_mul, ← Nat.pow_succ, ← Nat.pow_succ]
    exact ih (i + 1) f (by omega) (by omega)
theorem do_chance : stp_chance Sim := by
  rintro S M ⟨g, hg, hL, hR, -⟩ u1 u2 u3
  have h5 := hg.2.2.1
  rcases pick_cell hg u1 with ⟨a, ha, rfl⟩ | ⟨h1, h2⟩
  · rcases upto u2 10 (by decide) with ⟨x, hx, rfl⟩ | ⟨hn, ho⟩
    · have hw : wat g a ≤ 5 := Nat.le_trans (cnt_le _ _) h5
      have p1 : x ^ wat g a ≤ 10 ^ wat g a := Nat.pow_le_pow_left hx _
      have p2 : 10 ^ wat g a ≤ 10 ^ 5 := Nat.pow_le_pow_right (by decide) hw
      have p3 : 0 < 10 ^ wat g a := Nat.pow_pos (by decide)
      refine ⟨if u3 = 0 then nI (10 ^ wat g a / Nat.gcd (10 ^ wat g a - x ^ wat g a) (10 ^ wat g a)) else nI ((10 ^ wat g a - x ^ wat g a) / Nat.gcd (10 ^ wat g a - x ^ wat g a) (10 ^ wat g a)), ?_, ?_⟩
      · rw [fX4_chance, hasCell_yes hg hL ha, some_bind, if_neg one_ne, if_neg (nI_pos (by omega)), if_pos (show nI x ≤ (10 : Int32) from nI_le (b := 10) hx (by decide)), watchersOf_eq hg hL ha, some_bind]
        refine (chance_loop S hw u3 _ (wat g a) 0 100000 (by omega) (by omega)).trans ?_
        show (fX4_lowestTerms (nI (10 ^ wat g a) - nI (x ^ wat g a)) (nI (10 ^ wat g a)) u3).bind _ = _
        rw [pk_sub p1, lowest_eq (by omega) p3 (by omega)]
        rfl
      · rw [fX5_chance, isCell_yes hg hR ha, some_bind, if_neg one_ne, show (10 : Int64) = (nI 10).toInt64 from rfl, in_up hx (by decide), some_bind, if_neg one_ne, mwatchersOf_eq hg hR ha, some_bind, show (10 : Int32) = nI 10 from rfl, power_eq (by decide) hw, some_bind, power_eq hx hw, some_bind, some_bind, pk_sub p1, frac_eq (by omega) p3 (by omega)]
        rfl
    · refine ⟨-2, ?_, ?_⟩
      · rw [fX4_chance, hasCell_yes hg hL ha, some_bind, if_neg one_ne]
        rcases ho with ho | ho
        · rw [if_pos ho]
        · by_cases h0 : u2 < 0
          · rw [if_pos h0]
          · rw [if_neg h0, if_neg (show ¬ u2 ≤ (10 : Int32) from fun q => absurd ho (Int32.not_lt.mpr q))]
      · rw [fX5_chance, isCell_yes hg hR ha, some_bind, if_neg one_ne, show (10 : Int64) = (nI 10).toInt64 from rfl, in_upno hn, some_bind]
        rfl
  · refine ⟨-1, ?_, ?_⟩
    · rw [fX4_chance, hasCell_no hg hL h2]
      rfl
    · rw [fX5_chance, isCell_no hR h1]
      rfl
