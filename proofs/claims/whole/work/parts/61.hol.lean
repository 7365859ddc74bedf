/-! Regions by their numbers. -/
def rest (g : tG) (h : Nat → Nat) (i c : Nat) : Bool := HH g c && decide (i ≤ cnt (isR g h) (h c))
def reg (g : tG) (h : Nat → Nat) (i c : Nat) : Bool := HH g c && decide (cnt (isR g h) (h c) = i)
theorem cnt_up (p : Nat → Bool) : ∀ {m n : Nat}, m ≤ n → cnt p m ≤ cnt p n
  | m, 0, h => by rw [show m = 0 by omega]; exact Nat.le_refl _
  | m, n + 1, h => by
    rcases Nat.lt_or_ge n m with q | q
    · rw [show m = n + 1 by omega]; exact Nat.le_refl _
    · have := cnt_up p q
      rw [cnt]
      omega
theorem cnt_more {p : Nat → Bool} {x n : Nat} (h : p x = true) (hx : x < n) : cnt p x + 1 ≤ cnt p n := by
  have := cnt_up p (show x + 1 ≤ n from hx)
  rw [cnt, if_pos h] at this
  exact this
theorem cnt_nth {p : Nat → Bool} : ∀ {n i : Nat}, i < cnt p n → ∃ a, a < n ∧ p a = true ∧ cnt p a = i
  | 0, i, h => absurd h (Nat.not_lt_zero i)
  | n + 1, i, h => by
    by_cases q : i < cnt p n
    · obtain ⟨a, a1, a2, a3⟩ := cnt_nth q
      exact ⟨a, by omega, a2, a3⟩
    · rw [cnt] at h
      cases e : p n
      · rw [e] at h
        simp at h
        omega
      · rw [e] at h
        simp at h
        exact ⟨n, by omega, e, by omega⟩
theorem root_of {g : tG} {h : Nat → Nat} (hi : lInv g h) (hs : lSta g h) {c : Nat} (hc : c < gN g) (H : HH g c = true) : h c < gN g ∧ isR g h (h c) = true := by
  have i := hi c hc H
  have t : tInv g (fun x => decide (h x = h c)) := fun x y hx hy Hx Hy hn => by
    show decide (h x = h c) = decide (h y = h c)
    rw [hs x y hx hy Hx Hy hn]
  have e := i.2.2 _ t
  have e2 : decide (h (h c) = h c) = true := e.trans (decide_eq_true rfl)
  refine ⟨by omega, ?_⟩
  unfold isR
  rw [i.2.1, e2]
  rfl
theorem low_reg {L : tL} {g : tG} (hg : GG g) (hL : LL L g) {h : Nat → Nat} (hi : lInv g h) (hs : lSta g h) (i : Nat) : fX1_lowestRegion L (lN (mk (rest g h i) (gN g))) = some (lN (mk (reg g h i) (gN g))) := by
  by_cases q : i < cnt (isR g h) (gN g)
  · obtain ⟨a, a1, a2, a3⟩ := cnt_nth q
    have a4 := a2
    unfold isR at a4
    rw [Bool.and_eq_true, decide_eq_true_eq] at a4
    have hua : rest g h i a = true := by
      unfold rest
      rw [a4.1, a4.2, decide_eq_true (by omega)]
      rfl
    rw [lowest_a hg hL a1 hua (fun j hj => ?_)]
    · congr 2
      refine mk_congr (fun c hc => ?_)
      rw [region_eq hg hi hs (u := rest g h i) (U := fun x => decide (i ≤ cnt (isR g h) x)) (fun c _ => rfl) a1 hua a4.2 c hc]
      unfold reg
      cases H : HH g c
      · rfl
      · obtain ⟨r1, r2⟩ := root_of hi hs hc H
        rw [Bool.true_and, Bool.true_and]
        refine decide_eq_decide.mpr ⟨fun e => by rw [e, a3], fun e => ?_⟩
        rcases Nat.lt_trichotomy (h c) a with z | z | z
        · have := cnt_more r2 z
          omega
        · exact z
        · have := cnt_more a2 z
          omega
    · unfold rest
      cases H : HH g j
      · rfl
      · obtain ⟨r1, r2⟩ := root_of hi hs (show j < gN g by omega) H
        have := (hi j (by omega) H).1
        have := cnt_more r2 (show h j < a by omega)
        rw [Bool.true_and, decide_eq_false (by omega)]
  · have e1 : ∀ j, j < gN g → rest g h i j = false := fun j hj => by
      unfold rest
      cases H : HH g j
      · rfl
      · obtain ⟨r1, r2⟩ := root_of hi hs hj H
        have := cnt_more r2 r1
        rw [Bool.true_and, decide_eq_false (by omega)]
    have e2 : ∀ j, j < gN g → reg g h i j = false := fun j hj => by
      unfold reg
      cases H : HH g j
      · rfl
      · obtain ⟨r1, r2⟩ := root_of hi hs hj H
        have := cnt_more r2 r1
        rw [Bool.true_and, decide_eq_false (by omega)]
    rw [lowest_none hg hL e1, mk_congr (q := fun _ => false) e2, mk_false]
theorem rest_step {g : tG} (hg : GG g) (h : Nat → Nat) (i : Nat) : lN (mk (rest g h i) (gN g)) &&& (lN (mk (reg g h i) (gN g)) ^^^ (-1 : Int64)) = lN (mk (rest g h (i + 1)) (gN g)) := by
  have h36 := gN_le hg
  rw [dif_l, mk_dif _ _ (by omega)]
  congr 1
  refine mk_congr (fun c _ => ?_)
  unfold rest reg
  cases HH g c
  · rfl
  · rw [Bool.true_and, Bool.true_and, Bool.true_and]
    by_cases q : cnt (isR g h) (h c) = i
    · rw [decide_eq_true q, decide_eq_false (show ¬ i + 1 ≤ cnt (isR g h) (h c) by omega)]
      simp
    · rw [decide_eq_false q]
      simp only [Bool.not_false, Bool.and_true]
      exact decide_eq_decide.mpr (by omega)
theorem rest_zero (g : tG) (h : Nat → Nat) : mk (hid g (gT g)) (gN g) = mk (rest g h 0) (gN g) := by
  refine mk_congr (fun c _ => ?_)
  unfold rest
  rw [decide_eq_true (Nat.zero_le _), Bool.and_true]
  rfl
theorem cmp_eq0 (x y : Int64) : lg_cmp x y = 0 ↔ x = y := by
  have h1 := cmp_lt x y
  have h2 := cmp_gt x y
  rw [Int32.lt_iff_toInt_lt, Int64.lt_iff_toInt_lt, show (0 : Int32).toInt = 0 from rfl] at h1 h2
  rw [← Int32.toInt_inj, ← Int64.toInt_inj, show (0 : Int32).toInt = 0 from rfl]
  omega
theorem mk_zero_iff {p : Nat → Bool} {n : Nat} (hn : n ≤ 36) : lN (mk p n) = 0 ↔ ∀ c, c < n → p c = false := by
  have hm := mk_lt36 p hn
  refine ⟨fun e c hc => ?_, fun e => by rw [mk_congr (q := fun _ => false) e, mk_false]; rfl⟩
  have e2 : mk p n = 0 := (fb_lN_inj (by omega) (by omega)).mp (e : lN (mk p n) = lN 0)
  have := mk_bit p n c
  rw [e2, Nat.zero_testBit, decide_eq_true hc, Bool.true_and] at this
  exact this.symm
theorem rest_none {g : tG} (hg : GG g) {h : Nat → Nat} (hi : lInv g h) (hs : lSta g h) (i : Nat) : lN (mk (rest g h i) (gN g)) = 0 ↔ cnt (isR g h) (gN g) ≤ i := by
  rw [mk_zero_iff (gN_le hg)]
  refine ⟨fun e => ?_, fun e c hc => ?_⟩
  · rcases Nat.lt_or_ge i (cnt (isR g h) (gN g)) with q | q
    · obtain ⟨a, a1, a2, a3⟩ := cnt_nth q
      have a4 := a2
      unfold isR at a4
      rw [Bool.and_eq_true, decide_eq_true_eq] at a4
      have := e a a1
      unfold rest at this
      rw [a4.1, a4.2, decide_eq_true (show i ≤ cnt (isR g h) a by omega)] at this
      cases this
    · exact q
  · unfold rest
    cases H : HH g c
    · rfl
    · obtain ⟨r1, r2⟩ := root_of hi hs hc H
      have := cnt_more r2 r1
      rw [Bool.true_and, decide_eq_false (by omega)]
theorem rcount_loop {L : tL} {g : tG} (hg : GG g) (hL : LL L g) {h : Nat → Nat} (hi : lInv g h) (hs : lSta g h) (k36 : Int32 → Option Int32) : ∀ (d i f : Nat), i + d = cnt (isR g h) (gN g) → d < f → fX1_regionCount_5 L k36 f (lN (mk (rest g h i) (gN g))) (nI i) = k36 (nI (cnt (isR g h) (gN g))) := by
  have h36 := gN_le hg
  have hR := cnt_le (isR g h) (gN g)
  intro d
  induction d with
  | zero =>
    intro i f h1 h2
    obtain ⟨f, rfl⟩ : ∃ m, f = m + 1 := ⟨f - 1, by omega⟩
    rw [fX1_regionCount_5, if_pos ((cmp_eq0 _ _).mpr ((rest_none hg hi hs i).mpr (by omega))), show i = cnt (isR g h) (gN g) by omega]
  | succ d ih =>
    intro i f h1 h2
    obtain ⟨f, rfl⟩ : ∃ m, f = m + 1 := ⟨f - 1, by omega⟩
    rw [fX1_regionCount_5, if_neg (fun e => by have := (rest_none hg hi hs i).mp ((cmp_eq0 _ _).mp e); omega), if_neg (show ¬ (36 : Int32) ≤ nI i from nI_ge (b := 36) (by omega) (by decide)), low_reg hg hL hi hs, some_bind, nm_eq, nm_eq, rest_step hg, nI_add1]
    exact ih (i + 1) f (by omega) (by omega)
theorem regionCount_eq {L : tL} {g : tG} (hg : GG g) (hL : LL L g) {h : Nat → Nat} (hi : lInv g h) (hs : lSta g h) : fX1_regionCount L (lN (mk (hid g (gT g)) (gN g))) = some (nI (cnt (isR g h) (gN g))) := by
  have h36 := gN_le hg
  have hR := cnt_le (isR g h) (gN g)
  rw [fX1_regionCount, rest_zero g h]
  exact rcount_loop hg hL hi hs _ _ 0 100000 (Nat.zero_add _) (by omega)
theorem reg_bit {g : tG} (hg : GG g) {h : Nat → Nat} (i : Nat) {c : Nat} (hc : c < gN g) : fX4_contains (lN (mk (reg g h i) (gN g))) (nI c) = some (if reg g h i c then 1 else 0) := by
  have h36 := gN_le hg
  have hm := mk_lt36 (reg g h i) h36
  rw [contains_eq (by omega) (by omega), mk_bit, decide_eq_true hc, Bool.true_and]
theorem rof_loop {L : tL} {g : tG} (hg : GG g) (hL : LL L g) {h : Nat → Nat} (hi : lInv g h) (hs : lSta g h) {c : Nat} (hc : c < gN g) : ∀ (d i f : Nat), i + d = cnt (isR g h) (gN g) → d < f → (HH g c = true → i ≤ cnt (isR g h) (h c)) → fX1_regionOf_6 L (nI c) (fun y7 => some y7) (some (-9)) f (lN (mk (rest g h i) (gN g))) (nI i) = some (if HH g c then nI (cnt (isR g h) (h c)) else -9) := by
  have h36 := gN_le hg
  have hR := cnt_le (isR g h) (gN g)
  intro d
  induction d with
  | zero =>
    intro i f h1 h2 h3
    obtain ⟨f, rfl⟩ : ∃ m, f = m + 1 := ⟨f - 1, by omega⟩
    have hH : HH g c = false := by
      cases H : HH g c
      · rfl
      · obtain ⟨r1, r2⟩ := root_of hi hs hc H
        have := cnt_more r2 r1
        have := h3 H
        omega
    rw [fX1_regionOf_6, if_pos (c := lg_cmp _ _ = 0) ((cmp_eq0 _ _).mpr ((rest_none hg hi hs i).mpr (by omega))), hH]
    split <;> rfl
  | succ d ih =>
    intro i f h1 h2 h3
    obtain ⟨f, rfl⟩ : ∃ m, f = m + 1 := ⟨f - 1, by omega⟩
    rw [fX1_regionOf_6, if_neg (show ¬ (36 : Int32) ≤ nI i from nI_ge (b := 36) (by omega) (by decide)), if_neg (fun e => by have := (rest_none hg hi hs i).mp ((cmp_eq0 _ _).mp e); omega), low_reg hg hL hi hs, some_bind, reg_bit hg i hc, some_bind]
    cases q : reg g h i c
    · rw [if_pos (by rfl), nm_eq, nm_eq, rest_step hg, nI_add1]
      refine ih (i + 1) f (by omega) (by omega) (fun H => ?_)
      have := h3 H
      unfold reg at q
      rw [H, Bool.true_and, decide_eq_false_iff_not] at q
      omega
    · unfold reg at q
      rw [Bool.and_eq_true, decide_eq_true_eq] at q
      rw [if_neg (by decide), if_pos q.1, q.2]
theorem regionOf_eq {L : tL} {g : tG} (hg : GG g) (hL : LL L g) {h : Nat → Nat} (hi : lInv g h) (hs : lSta g h) {c : Nat} (hc : c < gN g) : fX1_regionOf L (nI c) (lN (mk (hid g (gT g)) (gN g))) = some (if HH g c then nI (cnt (isR g h) (h c)) else -9) := by
  have h36 := gN_le hg
  have hR := cnt_le (isR g h) (gN g)
  rw [fX1_regionOf, rest_zero g h]
  exact rof_loop hg hL hi hs hc _ 0 100000 (Nat.zero_add _) (by omega) (fun _ => Nat.zero_le _)
theorem rnum_eq {L : tL} {g : tG} (hg : GG g) (hL : LL L g) {h : Nat → Nat} (hi : lInv g h) (hs : lSta g h) {n : Nat} (hn : n < 36) : fX1_regionNumbered L (nI n) (lN (mk (hid g (gT g)) (gN g))) = some (lN (mk (reg g h n) (gN g))) := by
  have hl : ∀ (d i f : Nat), i + d = n → d < f → fX1_regionNumbered_6 L (nI n) (fun y5 => (fX1_lowestRegion L y5).bind fun r7 => some r7) f (lN (mk (rest g h i) (gN g))) (nI i) = some (lN (mk (reg g h n) (gN g))) := by
    intro d
    induction d with
    | zero =>
      intro i f h1 h2
      obtain ⟨f, rfl⟩ : ∃ m, f = m + 1 := ⟨f - 1, by omega⟩
      rw [fX1_regionNumbered_6, if_pos (nI_le (by omega) (by omega)), low_reg hg hL hi hs, show i = n by omega]
      rfl
    | succ d ih =>
      intro i f h1 h2
      obtain ⟨f, rfl⟩ : ∃ m, f = m + 1 := ⟨f - 1, by omega⟩
      rw [fX1_regionNumbered_6, if_neg (nI_ge (by omega) (by omega)), if_neg (show ¬ (36 : Int32) ≤ nI i from nI_ge (b := 36) (by omega) (by decide)), low_reg hg hL hi hs, some_bind, nm_eq, nm_eq, rest_step hg, nI_add1]
      exact ih (i + 1) f (by omega) (by omega)
  rw [fX1_regionNumbered, rest_zero g h]
  exact hl n 0 100000 (Nat.zero_add _) (by omega)
/-! the steps that ask about regions -/
def setHo (M : tM) (ho : tA) : tM := (M.1, M.2.1, M.2.2.1, M.2.2.2.1, M.2.2.2.2.1, M.2.2.2.2.2.1, M.2.2.2.2.2.2.1, M.2.2.2.2.2.2.2.1, M.2.2.2.2.2.2.2.2.1, M.2.2.2.2.2.2.2.2.2.1, M.2.2.2.2.2.2.2.2.2.2.1, M.2.2.2.2.2.2.2.2.2.2.2.1, ho)
theorem do_cell : stp_cell Sim := by
  rintro S M ⟨g, hg, hL, hR, hrest⟩ u1 u2
  have h36 := gN_le hg
  rcases pick_cell hg u1 with ⟨a, ha, rfl⟩ | ⟨h1, h2⟩
  · obtain ⟨ho, h, e1, e2, e3, e4⟩ := lay_eqH hg hR M.2.2.2.2.2.2.2.2.2.2.2.2
    have hx : (if HH g a then nI (cnt (isR g h) (h a)) else -9) = if ho a = -9 then -9 else nI (cnt (isR g h) (h a)) := by
      rw [e2 a ha]
      cases H : HH g a
      · rfl
      · have := (e3 a ha H).1
        rw [if_pos rfl, if_pos rfl, if_neg (nI_n9 (by omega))]
    by_cases u4 : u2 = 4
    · subst u4
      refine ⟨if HH g a then nI (cnt (isR g h) (h a)) else -9, setHo M ho, ?_, ?_, ⟨g, hg, hL, hR, hrest⟩⟩
      · rw [fX4_cell, hasCell_yes hg hL ha, some_bind, if_neg one_ne, if_neg (by decide), if_neg (by decide), if_neg (by decide), if_neg (by decide), if_pos rfl, hiddenSet_eq hg hL, some_bind, regionOf_eq hg hL e3 e4 ha]
        rfl
      · rw [fX5_cell, isCell_yes hg hR ha, some_bind, if_neg one_ne, if_neg (by decide), if_neg (by decide), if_neg (by decide), if_neg (by decide), if_pos rfl, e1, some_bind, gd_inb (by omega) (by decide), gd_inb (by omega) (by decide), toN (by omega), hx]
        by_cases q : ho a = -9
        · rw [if_pos q, if_pos q]
          rfl
        · have H : HH g a = true := by
            cases H : HH g a
            · exact absurd (by rw [e2 a ha, H]; rfl) q
            · rfl
          have := (e3 a ha H).1
          rw [if_neg q, if_neg q, show (nI (cnt (isR g h) (gN g)), ho).2 a = nI (h a) by show ho a = _; rw [e2 a ha, if_pos H], number_eq hg e2 e3 (by omega), some_bind]
          rfl
    · refine ⟨if u2 = 0 then nI (gt g a) else if u2 = 1 then towI g a (gT g) else if u2 = 2 then nI (wat g a) else if u2 = 3 then nI (cnt (sees g a (gs g 0)) (gN g)) else -2, M, ?_, ?_, ⟨g, hg, hL, hR, hrest⟩⟩
      · rw [fX4_cell, hasCell_yes hg hL ha, some_bind, if_neg one_ne, heightOf_eq hL (by omega), towersOn_eq hg hL ha, watchersOf_eq hg hL ha, show ((0 : Int32).toNatClampNeg) = 0 from rfl, hL.2.2.2.2.2.2 0 (by decide), viewFrom_eq hg hL ha (eye_le hg), some_bind, some_bind, some_bind, some_bind, bitCount_mk _ h36, some_bind, if_neg u4]
        repeat (first | rfl | split)
      · rw [fX5_cell, isCell_yes hg hR ha, some_bind, if_neg one_ne, gd_inb (by omega) (by decide), toN (by omega), hR.2.2.1 a (by omega), mtowersOn_eq hg hR ha, mwatchersOf_eq hg hR ha, show ((47 : Int32).toNatClampNeg) = 47 + 0 from rfl, hR.2.2.2.2.2.2 0 (by decide), viewOf_eq hg hR ha (eye_le hg), some_bind, some_bind, some_bind, ones_mk _ h36, some_bind, if_neg u4]
        repeat (first | rfl | split)
  · refine ⟨-1, M, ?_, ?_, ⟨g, hg, hL, hR, hrest⟩⟩
    · rw [fX4_cell, hasCell_no hg hL h2]
      rfl
    · rw [fX5_cell, isCell_no hR h1]
      rfl
theorem pick_any (u : Int32) {n : Nat} (hn : n < 2 ^ 30) : (∃ a, a < n ∧ u = nI a) ∨ (¬ (0 ≤ u ∧ u ≤ nI n - 1) ∧ ∀ a, a < n → u ≠ nI a) := by
  by_cases h0 : n = 0
  · refine Or.inr ⟨fun q => ?_, fun t ht => by omega⟩
    rw [h0] at q
    exact absurd (Int32.le_trans q.1 q.2) (by decide)
  · exact below u (by omega) hn
theorem hollow_loop {M : tM} {g : tG} (hg : GG g) (hR : RR M.1 M.2.2.1 g) {ho : tA} {h : Nat → Nat} (e2 : hoR g ho h) (e3 : lInv g h) {n : Nat} (hn : n < 36) (k82 : Int64 → tM → Option (Int64 × tM)) : ∀ (d v f : Nat), v + d = gN g → d < f → fX5_hollow_29 (nI n) k82 f (lN (mk (reg g h n) v)) (nI v) (setHo M ho) = k82 (lN (mk (reg g h n) (gN g))) (setHo M ho) := by
  have h36 := gN_le hg
  intro d
  induction d with
  | zero =>
    intro v f h1 h2
    obtain ⟨f, rfl⟩ : ∃ m, f = m + 1 := ⟨f - 1, by omega⟩
    rw [fX5_hollow_29, show (setHo M ho).1 = M.1 from rfl, cells_eq hR, some_bind, if_pos (nI_le (by omega) (by omega)), show v = gN g by omega]
  | succ d ih =>
    intro v f h1 h2
    obtain ⟨f, rfl⟩ : ∃ m, f = m + 1 := ⟨f - 1, by omega⟩
    have ihh := ih (v + 1) f (by omega) (by omega)
    rw [← or_bit] at ihh
    rw [fX5_hollow_29, show (setHo M ho).1 = M.1 from rfl, cells_eq hR, some_bind, if_neg (nI_ge (by omega) (by omega)), gd_inb (by omega) (by decide), gd_inb (by omega) (by decide), toN (by omega), show (setHo M ho).2.2.2.2.2.2.2.2.2.2.2.2 = ho from rfl, e2 v (by omega)]
    cases H : HH g v
    · rw [if_pos (by rfl), nm_eq, nm_eq, nI_add1, show (0 : Int64) = lN 0 from rfl, fb_orL]
      rw [show reg g h n v = false by unfold reg; rw [H]; rfl] at ihh
      exact ihh
    · have hv := (e3 v (by omega) H).1
      have hcl := cnt_le (isR g h) (h v)
      rw [if_pos rfl, if_neg (nI_n9 (by omega)), number_eq hg e2 e3 (by omega), some_bind]
      by_cases q : cnt (isR g h) (h v) = n
      · rw [if_pos (by rw [q]), nm_eq, nm_eq, nI_add1, one_shl (by omega), fb_orL]
        rw [show reg g h n v = true by unfold reg; rw [H, decide_eq_true q]; rfl, show 2 ^ v * (true).toNat = 2 ^ v from Nat.mul_one _] at ihh
        exact ihh
      · rw [if_neg (fun e => q ((nI_eq (by omega) (by omega)).mp e)), nm_eq, nm_eq, nI_add1, show (0 : Int64) = lN 0 from rfl, fb_orL]
        rw [show reg g h n v = false by unfold reg; rw [H, decide_eq_false q]; rfl] at ihh
        exact ihh
theorem do_hollow : stp_hollow Sim := by
  rintro S M ⟨g, hg, hL, hR, hrest⟩ u
  have h36 := gN_le hg
  obtain ⟨ho, h, e1, e2, e3, e4⟩ := lay_eqH hg hR M.2.2.2.2.2.2.2.2.2.2.2.2
  have hcl := cnt_le (isR g h) (gN g)
  rcases pick_any u (n := cnt (isR g h) (gN g)) (by omega) with ⟨n, hn, rfl⟩ | ⟨h1, h2⟩
  · refine ⟨lN (mk (reg g h n) (gN g)), setHo M ho, ?_, ?_, ⟨g, hg, hL, hR, hrest⟩⟩
    · rw [fX4_hollow, if_neg (nI_pos (by omega)), if_pos (show nI n < (36 : Int32) from nI_lt (b := 36) (by omega) (by decide)), hiddenSet_eq hg hL, some_bind, rnum_eq hg hL e3 e4 (by omega), some_bind, if_neg]
      intro q
      have z := (mk_zero_iff h36).mp ((cmp_eq0 _ _).mp q)
      obtain ⟨a, a1, a2, a3⟩ := cnt_nth hn
      have a4 := a2
      unfold isR at a4
      rw [Bool.and_eq_true, decide_eq_true_eq] at a4
      have := z a a1
      unfold reg at this
      rw [a4.1, a4.2, decide_eq_true a3] at this
      cases this
    · rw [fX5_hollow, e1, some_bind, in_yes hn (by omega), some_bind, if_neg one_ne]
      exact hollow_loop hg hR e2 e3 (by omega) _ (gN g) 0 100000 (by omega) (by omega)
  · refine ⟨-1, setHo M ho, ?_, ?_, ⟨g, hg, hL, hR, hrest⟩⟩
    · rw [fX4_hollow]
      rcases pk_ix u (n := 36) (by decide) with q | q | ⟨n, hn, rfl⟩
      · rw [if_pos q]
      · by_cases q0 : u < 0
        · rw [if_pos q0]
        · rw [if_neg q0, if_neg (show ¬ u < (36 : Int32) from Int32.not_lt.mpr q)]
      · have hge : cnt (isR g h) (gN g) ≤ n := by
          rcases Nat.lt_or_ge n (cnt (isR g h) (gN g)) with z | z
          · exact absurd rfl (h2 n z)
          · exact z
        rw [if_neg (nI_pos (by omega)), if_pos (show nI n < (36 : Int32) from nI_lt (b := 36) (by omega) (by decide)), hiddenSet_eq hg hL, some_bind, rnum_eq hg hL e3 e4 hn, some_bind, if_pos]
        refine (cmp_eq0 _ _).mpr ((mk_zero_iff h36).mpr (fun c hc => ?_))
        unfold reg
        cases H : HH g c
        · rfl
        · obtain ⟨r1, r2⟩ := root_of e3 e4 hc H
          have := cnt_more r2 r1
          rw [Bool.true_and, decide_eq_false (by omega)]
    · rw [fX5_hollow, e1, some_bind, in_no h1, some_bind, if_pos rfl]
      rfl
theorem do_about : stp_about Sim := by
  rintro S M ⟨g, hg, hL, hR, hT, hO, hV, hH, hr⟩ u
  have h36 := gN_le hg
  have sim : Sim S M := ⟨g, hg, hL, hR, hT, hO, hV, hH, hr⟩
  by_cases u8 : u = 8
  · subst u8
    obtain ⟨ho, h, e1, e2, e3, e4⟩ := lay_eqH hg hR M.2.2.2.2.2.2.2.2.2.2.2.2
    refine ⟨nI (cnt (isR g h) (gN g)), setHo M ho, ?_, ?_, ⟨g, hg, hL, hR, hT, hO, hV, hH, hr⟩⟩
    · show ((fX1_hiddenSet S.1).bind fun r6 => (fX1_regionCount S.1 r6).bind fun r8 => some r8) = _
      rw [hiddenSet_eq hg hL, some_bind, regionCount_eq hg hL e3 e4]
      rfl
    · show ((fX5_layHollows M.1 M.2.2.1 M.2.2.2.2.2.2.2.2.2.2.2.2).bind fun y4 => some (y4.1, setHo M y4.2)) = _
      rw [e1]
      rfl
  · obtain ⟨n1, -, t1, t2, -⟩ := hT
    obtain ⟨n2, -, o1, o2, -⟩ := hO
    obtain ⟨c, nx, -, -, j1, j2, -, -⟩ := hH
    refine ⟨if u = 0 then nI (gw g) else if u = 1 then nI (gh g) else if u = 2 then nI (gT g) else if u = 3 then nI (gs g 0) else if u = 4 then nI (gs g 1) else if u = 5 then nI (gs g 2) else if u = 6 then nI (gs g 3) else if u = 7 then nI (hidN g) else if u = 9 then nI c else if u = 10 then nI n2 else if u = 11 then nI n1 else -2, M, ?_, ?_, sim⟩
    · rw [fX4_about, hiddenSet_eq hg hL, some_bind, bitCount_mk _ h36, some_bind, hL.1, hL.2.1, hL.2.2.1, show ((0 : Int32).toNatClampNeg) = 0 from rfl, show ((1 : Int32).toNatClampNeg) = 1 from rfl, show ((2 : Int32).toNatClampNeg) = 2 from rfl, show ((3 : Int32).toNatClampNeg) = 3 from rfl, hL.2.2.2.2.2.2 0 (by decide), hL.2.2.2.2.2.2 1 (by decide), hL.2.2.2.2.2.2 2 (by decide), hL.2.2.2.2.2.2 3 (by decide), if_neg u8, j1, o1, t1]
      by_cases z0 : u = 0
      · rw [if_pos z0, if_pos z0]
      rw [if_neg z0, if_neg z0]
      by_cases z1 : u = 1
      · rw [if_pos z1, if_pos z1]
      rw [if_neg z1, if_neg z1]
      by_cases z2 : u = 2
      · rw [if_pos z2, if_pos z2]
      rw [if_neg z2, if_neg z2]
      by_cases z3 : u = 3
      · rw [if_pos z3, if_pos z3]
      rw [if_neg z3, if_neg z3]
      by_cases z4 : u = 4
      · rw [if_pos z4, if_pos z4]
      rw [if_neg z4, if_neg z4]
      by_cases z5 : u = 5
      · rw [if_pos z5, if_pos z5]
      rw [if_neg z5, if_neg z5]
      by_cases z6 : u = 6
      · rw [if_pos z6, if_pos z6]
      rw [if_neg z6, if_neg z6]
      by_cases z7 : u = 7
      · rw [if_pos z7, if_pos z7]
        rfl
      rw [if_neg z7, if_neg z7]
      by_cases z9 : u = 9
      · rw [if_pos z9, if_pos z9]
      rw [if_neg z9, if_neg z9]
      by_cases z10 : u = 10
      · rw [if_pos z10, if_pos z10]
      rw [if_neg z10, if_neg z10]
      by_cases z11 : u = 11
      · rw [if_pos z11, if_pos z11]
      rw [if_neg z11, if_neg z11]
    · rw [fX5_about, hidden_eq hg hR, some_bind, hR.1, hR.2.1, show ((36 : Int32).toNatClampNeg) = 36 from rfl, hR.2.2.2.1, show ((47 : Int32).toNatClampNeg) = 47 + 0 from rfl, show ((48 : Int32).toNatClampNeg) = 47 + 1 from rfl, show ((49 : Int32).toNatClampNeg) = 47 + 2 from rfl, show ((50 : Int32).toNatClampNeg) = 47 + 3 from rfl, hR.2.2.2.2.2.2 0 (by decide), hR.2.2.2.2.2.2 1 (by decide), hR.2.2.2.2.2.2 2 (by decide), hR.2.2.2.2.2.2 3 (by decide), if_neg u8, j2, o2, t2]
      by_cases z0 : u = 0
      · rw [if_pos z0, if_pos z0]
      rw [if_neg z0, if_neg z0]
      by_cases z1 : u = 1
      · rw [if_pos z1, if_pos z1]
      rw [if_neg z1, if_neg z1]
      by_cases z2 : u = 2
      · rw [if_pos z2, if_pos z2]
      rw [if_neg z2, if_neg z2]
      by_cases z3 : u = 3
      · rw [if_pos z3, if_pos z3]
      rw [if_neg z3, if_neg z3]
      by_cases z4 : u = 4
      · rw [if_pos z4, if_pos z4]
      rw [if_neg z4, if_neg z4]
      by_cases z5 : u = 5
      · rw [if_pos z5, if_pos z5]
      rw [if_neg z5, if_neg z5]
      by_cases z6 : u = 6
      · rw [if_pos z6, if_pos z6]
      rw [if_neg z6, if_neg z6]
      by_cases z7 : u = 7
      · rw [if_pos z7, if_pos z7]
      rw [if_neg z7, if_neg z7]
      by_cases z9 : u = 9
      · rw [if_pos z9, if_pos z9]
      rw [if_neg z9, if_neg z9]
      by_cases z10 : u = 10
      · rw [if_pos z10, if_pos z10]
      rw [if_neg z10, if_neg z10]
      by_cases z11 : u = 11
      · rw [if_pos z11, if_pos z11]
      rw [if_neg z11, if_neg z11]
