/-! The last cell seen in a direction. -/
def cXY (g : tG) (x y : Int) : Nat := (y * gw g + x).toNat
def rW (g : tG) (a : Nat) (dx dy : Int) : Nat → Int → Int → Nat → Nat
  | 0, _, _, m => m
  | d + 1, x, y, m => if (0 ≤ x ∧ x < gw g) ∧ (0 ≤ y ∧ y < gh g) then rW g a dx dy d (x + dx) (y + dy) (if sees g a (gs g 0) (cXY g x y) then cXY g x y else m) else m
def rE (g : tG) (dx dy : Int) (d : Nat) (x y : Int) : Prop := (0 ≤ x ∧ x < gw g) ∧ (0 ≤ y ∧ y < gh g) → (dx = 1 → gw g - x ≤ d) ∧ (dx = -1 → x + 1 ≤ d) ∧ (dx = 0 → dy = 1 → gh g - y ≤ d) ∧ (dx = 0 → dy = -1 → y + 1 ≤ d)
abbrev rD (dx dy : Int) : Prop := (dx = 1 ∨ dx = -1 ∨ dx = 0) ∧ (dy = 1 ∨ dy = -1 ∨ dy = 0) ∧ (dx = 0 → dy ≠ 0)
theorem rE_step {g : tG} {dx dy : Int} {d : Nat} {x y : Int} (hD : rD dx dy) (h : rE g dx dy (d + 1) x y) (hi : (0 ≤ x ∧ x < gw g) ∧ (0 ≤ y ∧ y < gh g)) : rE g dx dy d (x + dx) (y + dy) := by
  intro hj
  have h2 := h hi
  obtain ⟨h3, h4, h5⟩ := hD
  refine ⟨fun q => ?_, fun q => ?_, fun q q2 => ?_, fun q q2 => ?_⟩
  · have := h2.1 q
    omega
  · have := h2.2.1 q
    omega
  · have := h2.2.2.1 q q2
    omega
  · have := h2.2.2.2 q q2
    omega
theorem rE_zero {g : tG} {dx dy : Int} {x y : Int} (hD : rD dx dy) (h : rE g dx dy 0 x y) : ¬ ((0 ≤ x ∧ x < gw g) ∧ (0 ≤ y ∧ y < gh g)) := by
  intro hi
  have h2 := h hi
  obtain ⟨h3, h4, h5⟩ := hD
  rcases h3 with q | q | q
  · have := h2.1 q
    omega
  · have := h2.2.1 q
    omega
  · rcases h4 with q2 | q2 | q2
    · have := h2.2.2.1 q q2
      omega
    · have := h2.2.2.2 q q2
      omega
    · exact h5 q q2
theorem inside_eq {L : tL} {g : tG} (hg : GG g) (hL : LL L g) {x y : Int} (h1 : -9 ≤ x) (h2 : x ≤ 9) (h3 : -9 ≤ y) (h4 : y ≤ 9) : fX1_isInside L (iI x) (iI y) = some (if (0 ≤ x ∧ x < gw g) ∧ (0 ≤ y ∧ y < gh g) then 1 else 0) := by
  have w1 := hg.1
  have w2 := hg.2.1
  rw [fX1_isInside, hL.1, hL.2.1, ← iI_nat, ← iI_nat]
  by_cases q1 : x < 0
  · rw [if_pos (show iI x < 0 from (iI_lt (b := 0) (by omega) (by omega) (by decide) (by decide)).mpr q1), if_neg (by omega)]
  · rw [if_neg (show ¬ iI x < 0 from fun q => q1 ((iI_lt (b := 0) (by omega) (by omega) (by decide) (by decide)).mp q))]
    by_cases q2 : (gw g : Int) ≤ x
    · rw [if_pos ((iI_le (by omega) (by omega) (by omega) (by omega)).mpr q2), if_neg (by omega)]
    · rw [if_neg (fun q => q2 ((iI_le (by omega) (by omega) (by omega) (by omega)).mp q))]
      by_cases q3 : y < 0
      · rw [if_pos (show iI y < 0 from (iI_lt (b := 0) (by omega) (by omega) (by decide) (by decide)).mpr q3), if_neg (by omega)]
      · rw [if_neg (show ¬ iI y < 0 from fun q => q3 ((iI_lt (b := 0) (by omega) (by omega) (by decide) (by decide)).mp q))]
        by_cases q4 : (gh g : Int) ≤ y
        · rw [if_pos ((iI_le (by omega) (by omega) (by omega) (by omega)).mpr q4), if_neg (by omega)]
        · rw [if_neg (fun q => q4 ((iI_le (by omega) (by omega) (by omega) (by omega)).mp q)), if_pos (by omega)]
theorem cXY_lt {g : tG} {x y : Int} (hi : (0 ≤ x ∧ x < gw g) ∧ (0 ≤ y ∧ y < gh g)) : cXY g x y < gN g ∧ iI y * nI (gw g) + iI x = nI (cXY g x y) := by
  obtain ⟨X, rfl⟩ : ∃ X : Nat, x = X := ⟨x.toNat, by omega⟩
  obtain ⟨Y, rfl⟩ : ∃ Y : Nat, y = Y := ⟨y.toNat, by omega⟩
  have e : cXY g X Y = Y * gw g + X := by
    unfold cXY
    rw [show ((Y : Int) * (gw g : Int) + (X : Int)) = ((Y * gw g + X : Nat) : Int) by rw [Int.natCast_add, Int.natCast_mul], Int.toNat_natCast]
  rw [e]
  refine ⟨?_, by rw [iI_nat, iI_nat, pk_mul, nI_add]⟩
  have h3 : (Y + 1) * gw g ≤ gh g * gw g := Nat.mul_le_mul_right _ (by omega)
  rw [Nat.add_mul, Nat.one_mul, Nat.mul_comm (gh g)] at h3
  unfold gN
  omega
theorem last_loop {S : tH} {g : tG} (hg : GG g) (hL : LL S.1 g) {a : Nat} (ha : a < gN g) {dir : Nat} (hd : dir < 8) {dx dy : Int} (hC : tabC dir = iI dx) (hR : tabR dir = iI dy) (hD : rD dx dy) : ∀ (d f : Nat) (x y : Int) (m s : Nat), s + d ≤ 30 → d < f → -1 ≤ x → x ≤ 6 → -1 ≤ y → y ≤ 6 → rE g dx dy d (x + dx) (y + dy) → fX4_last_64 S (nI a) (nI dir) (nI (gs g 0)) (fun y => some y) (fun y => some y) f (iI x) (iI y) (nI m) (nI s) = some (nI (rW g a dx dy d (x + dx) (y + dy) m)) := by
  have w1 := hg.1
  have w2 := hg.2.1
  intro d
  induction d with
  | zero =>
    intro f x y m s h1 h2 b1 b2 b3 b4 hE
    obtain ⟨f, rfl⟩ : ∃ m, f = m + 1 := ⟨f - 1, by omega⟩
    have hn := rE_zero hD hE
    have hD2 := hD
    obtain ⟨h3, h4, h5⟩ := hD2
    rw [fX4_last_64, if_neg (show ¬ (36 : Int32) ≤ nI s from nI_ge (b := 36) (by omega) (by decide)), gd_inb hd (by decide), toN (by omega), hC, hR, nm_eq, gd_inb hd (by decide), nm_eq, iI_add, iI_add, inside_eq hg hL (by omega) (by omega) (by omega) (by omega), some_bind, if_neg hn, if_pos rfl]
    rfl
  | succ d ih =>
    intro f x y m s h1 h2 b1 b2 b3 b4 hE
    obtain ⟨f, rfl⟩ : ∃ m, f = m + 1 := ⟨f - 1, by omega⟩
    have hD2 := hD
    obtain ⟨h3, h4, h5⟩ := hD2
    rw [fX4_last_64, if_neg (show ¬ (36 : Int32) ≤ nI s from nI_ge (b := 36) (by omega) (by decide)), gd_inb hd (by decide), toN (by omega), hC, hR, nm_eq, gd_inb hd (by decide), nm_eq, iI_add, iI_add, inside_eq hg hL (by omega) (by omega) (by omega) (by omega), some_bind, rW]
    by_cases hi : (0 ≤ x + dx ∧ x + dx < gw g) ∧ (0 ≤ y + dy ∧ y + dy < gh g)
    · have hc := cXY_lt hi
      have hE2 := rE_step hD hE hi
      rw [if_pos hi, if_neg one_ne, if_pos hi, hL.1, nm_eq, hc.2, canSee_eq hg hL ha hc.1 (eye_le hg), some_bind]
      cases sees g a (gs g 0) (cXY g (x + dx) (y + dy))
      · rw [if_pos (by rfl), if_neg (by decide), nm_eq, nI_add1]
        exact ih f _ _ m (s + 1) (by omega) (by omega) (by omega) (by omega) (by omega) (by omega) hE2
      · rw [if_neg (by decide), if_pos rfl, nm_eq, nI_add1]
        exact ih f _ _ _ (s + 1) (by omega) (by omega) (by omega) (by omega) (by omega) (by omega) hE2
    · rw [if_neg hi, if_pos rfl, if_neg hi]
theorem in_i {n : Nat} {x : Int} (hn : 1 ≤ n) (hn9 : n ≤ 9) (h1 : -9 ≤ x) (h2 : x ≤ 9) : fX5_in (iI x).toInt64 (0 : Int64) ((nI n - (1 : Int32)).toInt64) = some (if 0 ≤ x ∧ x < n then 1 else 0) := by
  rw [show (0 : Int64) = (0 : Int32).toInt64 from rfl, in_eq, show (1 : Int32) = nI 1 from rfl, pk_sub hn, ← iI_nat, show (0 : Int32) = iI 0 from rfl]
  by_cases q : 0 ≤ x ∧ x < n
  · rw [if_pos q, if_pos ⟨(iI_le (by omega) (by omega) (by omega) (by omega)).mpr q.1, (iI_le (by omega) (by omega) (by omega) (by omega)).mpr (by omega)⟩]
  · rw [if_neg q, if_neg (fun p => q ⟨(iI_le (by omega) (by omega) (by omega) (by omega)).mp p.1, by have := (iI_le (by omega) (by omega) (by omega) (by omega)).mp p.2; omega⟩)]
theorem mlast_loop {o : tMo} {w : tA} {g : tG} (hg : GG g) (hR : RR o w g) {a : Nat} (ha : a < gN g) {dx dy : Int} (hD : rD dx dy) : ∀ (d f : Nat) (x y : Int) (m : Nat), d < f → -2 ≤ x → x ≤ 7 → -2 ≤ y → y ≤ 7 → rE g dx dy d x y → fX5_last_104 o w (nI a) (iI dx) (iI dy) (fun y => some y) f (iI x) (iI y) (nI m) = some (nI (rW g a dx dy d x y m)) := by
  have w1 := hg.1
  have w2 := hg.2.1
  intro d
  induction d with
  | zero =>
    intro f x y m h2 b1 b2 b3 b4 hE
    obtain ⟨f, rfl⟩ : ∃ m, f = m + 1 := ⟨f - 1, by omega⟩
    have hn := rE_zero hD hE
    rw [fX5_last_104, hR.1, hR.2.1, in_i (by omega) (by omega) (by omega) (by omega), some_bind]
    by_cases q : 0 ≤ x ∧ x < gw g
    · rw [if_pos q, if_neg one_ne, in_i (by omega) (by omega) (by omega) (by omega), some_bind, if_neg (fun p => hn ⟨q, p⟩), if_pos rfl]
      rfl
    · rw [if_neg q, if_pos rfl]
      rfl
  | succ d ih =>
    intro f x y m h2 b1 b2 b3 b4 hE
    obtain ⟨f, rfl⟩ : ∃ m, f = m + 1 := ⟨f - 1, by omega⟩
    have hD2 := hD
    obtain ⟨h3, h4, h5⟩ := hD2
    rw [fX5_last_104, hR.1, hR.2.1, in_i (by omega) (by omega) (by omega) (by omega), some_bind, rW]
    by_cases q : 0 ≤ x ∧ x < gw g
    · rw [if_pos q, if_neg one_ne, in_i (by omega) (by omega) (by omega) (by omega), some_bind]
      by_cases q2 : 0 ≤ y ∧ y < gh g
      · have hi := And.intro q q2
        have hc := cXY_lt hi
        have hE2 := rE_step hD hE hi
        rw [if_pos q2, if_neg one_ne, if_pos hi, nm_eq, Int32.mul_comm, hc.2, show ((47 : Int32).toNatClampNeg) = 47 + 0 from rfl, hR.2.2.2.2.2.2 0 (by decide), isSeen_eq hg hR ha hc.1 (eye_le hg), some_bind]
        cases sees g a (gs g 0) (cXY g x y)
        · rw [if_pos (by rfl), if_neg (by decide), nm_eq, nm_eq, iI_add, iI_add]
          exact ih f _ _ m (by omega) (by omega) (by omega) (by omega) (by omega) hE2
        · rw [if_neg (by decide), if_pos rfl, nm_eq, nm_eq, iI_add, iI_add]
          exact ih f _ _ _ (by omega) (by omega) (by omega) (by omega) (by omega) hE2
      · rw [if_neg q2, if_pos rfl, if_neg (fun p => q2 p.2)]
    · rw [if_neg q, if_pos rfl, if_neg (fun p => q p.1)]
theorem last_c {S : tH} {g : tG} (hg : GG g) (hL : LL S.1 g) {a : Nat} (ha : a < gN g) {dir : Nat} (hd : dir < 8) {dx dy : Int} (hC : tabC dir = iI dx) (hR : tabR dir = iI dy) (hD : rD dx dy) : fX4_last S (nI a) (nI dir) = some (nI (rW g a dx dy 6 ((a % gw g : Nat) + dx) ((a / gw g : Nat) + dy) a)) := by
  have w1 := hg.1
  have w2 := hg.2.1
  have c1 := col_lt hg a
  have c2 := row_lt ha
  have c3 : (0 : Int) ≤ ((a / gw g : Nat) : Int) := Int.natCast_nonneg _
  have hD2 := hD
  obtain ⟨h3, h4, h5⟩ := hD2
  rw [fX4_last, hasCell_yes hg hL ha, some_bind, if_neg one_ne, if_neg (nI_pos (by omega)), if_pos (show nI dir < (8 : Int32) from nI_lt (b := 8) hd (by decide)), show ((0 : Int32).toNatClampNeg) = 0 from rfl, hL.2.2.2.2.2.2 0 (by decide), nm_eq, columnOf_eq hg hL ha, some_bind, rowOf_eq hg hL ha, some_bind, ← iI_nat (a % gw g), ← iI_nat (a / gw g)]
  exact last_loop hg hL ha hd hC hR hD 6 100000 _ _ a 0 (by decide) (by decide) (by omega) (by omega) (by omega) (by omega) (fun _ => ⟨fun _ => by omega, fun _ => by omega, fun _ _ => by omega, fun _ _ => by omega⟩)
theorem mlast_c {o : tMo} {w : tA} {g : tG} (hg : GG g) (hR : RR o w g) {a : Nat} (ha : a < gN g) {dx dy : Int} {DX DY : Int32} (hX : DX = iI dx) (hY : DY = iI dy) (hD : rD dx dy) : gd (nz o.2.1) (nm ((nI a - nI a / o.2.1 * o.2.1)) fun x8 => gd (nz o.2.1) (nm ((nI a / o.2.1)) fun x10 => fX5_last_104 o w (nI a) DX DY (fun y22 => some y22) 100000 x8 x10 (nI a))) = some (nI (rW g a dx dy 6 ((a % gw g : Nat) + dx) ((a / gw g : Nat) + dy) a)) := by
  have w1 := hg.1
  have w2 := hg.2.1
  have h36 := gN_le hg
  have c1 := col_lt hg a
  have c2 := row_lt ha
  have c3 : (0 : Int) ≤ ((a / gw g : Nat) : Int) := Int.natCast_nonneg _
  have hD2 := hD
  obtain ⟨h3, h4, h5⟩ := hD2
  rw [hX, hY, hR.1, gd_nz (by omega) (by omega), nm_eq, gd_nz (by omega) (by omega), nm_eq, pk_rem (by omega) (by omega) (by omega), pk_div (by omega) (by omega) (by omega), ← iI_nat (a % gw g), ← iI_nat (a / gw g), mlast_loop hg hR ha hD 7 100000 _ _ a (by decide) (by omega) (by omega) (by omega) (by omega) (fun _ => ⟨fun _ => by omega, fun _ => by omega, fun _ _ => by omega, fun _ _ => by omega⟩), rW, if_pos (by omega)]
  have e : cXY g (a % gw g : Nat) (a / gw g : Nat) = a := by
    unfold cXY
    rw [show (((a / gw g : Nat) : Int) * (gw g : Int) + ((a % gw g : Nat) : Int)) = ((a / gw g * gw g + a % gw g : Nat) : Int) by rw [Int.natCast_add, Int.natCast_mul], Int.toNat_natCast, Nat.mul_comm, Nat.div_add_mod]
  rw [e, sees_self hg, if_pos rfl]
theorem mlast_0 {o : tMo} {w : tA} {g : tG} (hg : GG g) (hR : RR o w g) {a : Nat} (ha : a < gN g) : fX5_last o w (nI a) (nI 0) = some (nI (rW g a (1) (0) 6 ((a % gw g : Nat) + (1)) ((a / gw g : Nat) + (0)) a)) := by
  rw [fX5_last, isCell_yes hg hR ha, some_bind, if_neg one_ne, show fX5_in (nI 0).toInt64 (0 : Int64) (7 : Int64) = some 1 from rfl, some_bind, if_neg one_ne, if_pos (by decide), show fX5_in (nI 0).toInt64 (1 : Int64) (3 : Int64) = some 0 from rfl, some_bind, if_pos rfl, if_pos (by decide)]
  exact mlast_c (dx := 1) (dy := 0) hg hR ha (by decide) (by decide) (by decide)
theorem mlast_1 {o : tMo} {w : tA} {g : tG} (hg : GG g) (hR : RR o w g) {a : Nat} (ha : a < gN g) : fX5_last o w (nI a) (nI 1) = some (nI (rW g a (1) (1) 6 ((a % gw g : Nat) + (1)) ((a / gw g : Nat) + (1)) a)) := by
  rw [fX5_last, isCell_yes hg hR ha, some_bind, if_neg one_ne, show fX5_in (nI 1).toInt64 (0 : Int64) (7 : Int64) = some 1 from rfl, some_bind, if_neg one_ne, if_pos (by decide), show fX5_in (nI 1).toInt64 (1 : Int64) (3 : Int64) = some 1 from rfl, some_bind, if_neg one_ne]
  exact mlast_c (dx := 1) (dy := 1) hg hR ha (by decide) (by decide) (by decide)
theorem mlast_2 {o : tMo} {w : tA} {g : tG} (hg : GG g) (hR : RR o w g) {a : Nat} (ha : a < gN g) : fX5_last o w (nI a) (nI 2) = some (nI (rW g a (0) (1) 6 ((a % gw g : Nat) + (0)) ((a / gw g : Nat) + (1)) a)) := by
  rw [fX5_last, isCell_yes hg hR ha, some_bind, if_neg one_ne, show fX5_in (nI 2).toInt64 (0 : Int64) (7 : Int64) = some 1 from rfl, some_bind, if_neg one_ne, if_neg (by decide), if_neg (by decide), if_pos (by decide), show fX5_in (nI 2).toInt64 (1 : Int64) (3 : Int64) = some 1 from rfl, some_bind, if_neg one_ne]
  exact mlast_c (dx := 0) (dy := 1) hg hR ha (by decide) (by decide) (by decide)
theorem mlast_3 {o : tMo} {w : tA} {g : tG} (hg : GG g) (hR : RR o w g) {a : Nat} (ha : a < gN g) : fX5_last o w (nI a) (nI 3) = some (nI (rW g a (-1) (1) 6 ((a % gw g : Nat) + (-1)) ((a / gw g : Nat) + (1)) a)) := by
  rw [fX5_last, isCell_yes hg hR ha, some_bind, if_neg one_ne, show fX5_in (nI 3).toInt64 (0 : Int64) (7 : Int64) = some 1 from rfl, some_bind, if_neg one_ne, if_neg (by decide), if_neg (by decide), if_neg (by decide), if_neg (by decide), show fX5_in (nI 3).toInt64 (1 : Int64) (3 : Int64) = some 1 from rfl, some_bind, if_neg one_ne]
  exact mlast_c (dx := -1) (dy := 1) hg hR ha (by decide) (by decide) (by decide)
theorem mlast_4 {o : tMo} {w : tA} {g : tG} (hg : GG g) (hR : RR o w g) {a : Nat} (ha : a < gN g) : fX5_last o w (nI a) (nI 4) = some (nI (rW g a (-1) (0) 6 ((a % gw g : Nat) + (-1)) ((a / gw g : Nat) + (0)) a)) := by
  rw [fX5_last, isCell_yes hg hR ha, some_bind, if_neg one_ne, show fX5_in (nI 4).toInt64 (0 : Int64) (7 : Int64) = some 1 from rfl, some_bind, if_neg one_ne, if_neg (by decide), if_neg (by decide), if_neg (by decide), if_neg (by decide), show fX5_in (nI 4).toInt64 (1 : Int64) (3 : Int64) = some 0 from rfl, some_bind, if_pos rfl, if_pos (by decide)]
  exact mlast_c (dx := -1) (dy := 0) hg hR ha (by decide) (by decide) (by decide)
theorem mlast_5 {o : tMo} {w : tA} {g : tG} (hg : GG g) (hR : RR o w g) {a : Nat} (ha : a < gN g) : fX5_last o w (nI a) (nI 5) = some (nI (rW g a (-1) (-1) 6 ((a % gw g : Nat) + (-1)) ((a / gw g : Nat) + (-1)) a)) := by
  rw [fX5_last, isCell_yes hg hR ha, some_bind, if_neg one_ne, show fX5_in (nI 5).toInt64 (0 : Int64) (7 : Int64) = some 1 from rfl, some_bind, if_neg one_ne, if_neg (by decide), if_neg (by decide), if_neg (by decide), if_neg (by decide), show fX5_in (nI 5).toInt64 (1 : Int64) (3 : Int64) = some 0 from rfl, some_bind, if_pos rfl, if_neg (by decide)]
  exact mlast_c (dx := -1) (dy := -1) hg hR ha (by decide) (by decide) (by decide)
theorem mlast_6 {o : tMo} {w : tA} {g : tG} (hg : GG g) (hR : RR o w g) {a : Nat} (ha : a < gN g) : fX5_last o w (nI a) (nI 6) = some (nI (rW g a (0) (-1) 6 ((a % gw g : Nat) + (0)) ((a / gw g : Nat) + (-1)) a)) := by
  rw [fX5_last, isCell_yes hg hR ha, some_bind, if_neg one_ne, show fX5_in (nI 6).toInt64 (0 : Int64) (7 : Int64) = some 1 from rfl, some_bind, if_neg one_ne, if_neg (by decide), if_neg (by decide), if_neg (by decide), if_pos (by decide), show fX5_in (nI 6).toInt64 (1 : Int64) (3 : Int64) = some 0 from rfl, some_bind, if_pos rfl, if_neg (by decide)]
  exact mlast_c (dx := 0) (dy := -1) hg hR ha (by decide) (by decide) (by decide)
theorem mlast_7 {o : tMo} {w : tA} {g : tG} (hg : GG g) (hR : RR o w g) {a : Nat} (ha : a < gN g) : fX5_last o w (nI a) (nI 7) = some (nI (rW g a (1) (-1) 6 ((a % gw g : Nat) + (1)) ((a / gw g : Nat) + (-1)) a)) := by
  rw [fX5_last, isCell_yes hg hR ha, some_bind, if_neg one_ne, show fX5_in (nI 7).toInt64 (0 : Int64) (7 : Int64) = some 1 from rfl, some_bind, if_neg one_ne, if_neg (by decide), if_pos (by decide), show fX5_in (nI 7).toInt64 (1 : Int64) (3 : Int64) = some 0 from rfl, some_bind, if_pos rfl, if_neg (by decide)]
  exact mlast_c (dx := 1) (dy := -1) hg hR ha (by decide) (by decide) (by decide)
theorem do_last : stp_last Sim := by
  rintro S M ⟨g, hg, hL, hR, -⟩ u1 u2
  rcases pick_cell hg u1 with ⟨a, ha, rfl⟩ | ⟨h1, h2⟩
  · rcases upto u2 7 (by decide) with ⟨b, hb, rfl⟩ | ⟨hn, ho⟩
    · have hb2 : b = 0 ∨ b = 1 ∨ b = 2 ∨ b = 3 ∨ b = 4 ∨ b = 5 ∨ b = 6 ∨ b = 7 := by omega
      rcases hb2 with rfl | rfl | rfl | rfl | rfl | rfl | rfl | rfl
      · exact ⟨_, last_c (dir := 0) (dx := 1) (dy := 0) hg hL ha (by decide) (by rfl) (by rfl) (by decide), mlast_0 hg hR ha⟩
      · exact ⟨_, last_c (dir := 1) (dx := 1) (dy := 1) hg hL ha (by decide) (by rfl) (by rfl) (by decide), mlast_1 hg hR ha⟩
      · exact ⟨_, last_c (dir := 2) (dx := 0) (dy := 1) hg hL ha (by decide) (by rfl) (by rfl) (by decide), mlast_2 hg hR ha⟩
      · exact ⟨_, last_c (dir := 3) (dx := -1) (dy := 1) hg hL ha (by decide) (by rfl) (by rfl) (by decide), mlast_3 hg hR ha⟩
      · exact ⟨_, last_c (dir := 4) (dx := -1) (dy := 0) hg hL ha (by decide) (by rfl) (by rfl) (by decide), mlast_4 hg hR ha⟩
      · exact ⟨_, last_c (dir := 5) (dx := -1) (dy := -1) hg hL ha (by decide) (by rfl) (by rfl) (by decide), mlast_5 hg hR ha⟩
      · exact ⟨_, last_c (dir := 6) (dx := 0) (dy := -1) hg hL ha (by decide) (by rfl) (by rfl) (by decide), mlast_6 hg hR ha⟩
      · exact ⟨_, last_c (dir := 7) (dx := 1) (dy := -1) hg hL ha (by decide) (by rfl) (by rfl) (by decide), mlast_7 hg hR ha⟩
    · refine ⟨-2, ?_, ?_⟩
      · rw [fX4_last, hasCell_yes hg hL ha, some_bind, if_neg one_ne]
        rcases ho with ho | ho
        · rw [if_pos ho]
        · by_cases h0 : u2 < 0
          · rw [if_pos h0]
          · rw [if_neg h0, if_neg]
            intro q
            rw [Int32.lt_iff_toInt_lt] at q ho
            rw [show (8 : Int32).toInt = 8 from rfl] at q
            rw [show (nI 7).toInt = 7 from rfl] at ho
            omega
      · rw [fX5_last, isCell_yes hg hR ha, some_bind, if_neg one_ne, show (7 : Int64) = (nI 7).toInt64 from rfl, in_upno hn, some_bind]
        rfl
  · refine ⟨-1, ?_, ?_⟩
    · rw [fX4_last, hasCell_no hg hL h2]
      rfl
    · rw [fX5_last, isCell_no hR h1]
      rfl
