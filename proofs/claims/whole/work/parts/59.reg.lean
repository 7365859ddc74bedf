/-! Regions: the class's growing sets. -/
theorem shl_bit (a k c : Nat) : (a * 2 ^ k).testBit c = (decide (k ≤ c) && a.testBit (c - k)) := by
  rw [← Nat.shiftLeft_eq, Nat.testBit_shiftLeft]
theorem shr_bit (a k c : Nat) : (a / 2 ^ k).testBit c = a.testBit (k + c) := by
  rw [← Nat.shiftRight_eq_div_pow, Nat.testBit_shiftRight]
theorem dif_le (a b : Nat) : dif a b ≤ a := Nat.and_le_left
theorem neg_lN {m : Nat} (h0 : 0 < m) (h : m < 2 ^ 64) : -(lN m) = lN (2 ^ 64 - m) := by
  apply Int64.toBitVec_inj.mp
  rw [Int64.toBitVec_neg]
  apply BitVec.eq_of_toNat_eq
  rw [BitVec.toNat_neg]
  show (2 ^ 64 - (BitVec.ofNat 64 m).toNat) % 2 ^ 64 = (BitVec.ofNat 64 (2 ^ 64 - m)).toNat
  rw [BitVec.toNat_ofNat, BitVec.toNat_ofNat, Nat.mod_eq_of_lt h]
theorem low_bit {m k : Nat} (hm : m < 2 ^ 64) (hk : m.testBit k = true) (hl : ∀ j, j < k → m.testBit j = false) : m &&& (2 ^ 64 - m) = 2 ^ k := by
  have h0 : m % 2 ^ k = 0 := by
    apply Nat.eq_of_testBit_eq
    intro j
    rw [Nat.testBit_mod_two_pow, Nat.zero_testBit]
    by_cases q : j < k
    · rw [hl j q, Bool.and_false]
    · rw [decide_eq_false q, Bool.false_and]
  have h1 : m / 2 ^ k % 2 = 1 := by
    rw [bit_mod, hk]
    rfl
  obtain ⟨q, hq⟩ : ∃ q, m / 2 ^ k = 2 * q + 1 := ⟨m / 2 ^ k / 2, by omega⟩
  have hm2 : m = 2 ^ k * (2 * q + 1) := by
    have := Nat.div_add_mod m (2 ^ k)
    rw [h0, hq] at this
    omega
  have hp : 0 < 2 ^ k := Nat.pow_pos (by decide)
  have hm1 : m - 1 = 2 ^ k * (2 * q) + (2 ^ k - 1) := by
    rw [hm2, Nat.mul_add, Nat.mul_one]
    omega
  have hpos : 0 < m := by
    rw [hm2]
    exact Nat.mul_pos hp (by omega)
  apply Nat.eq_of_testBit_eq
  intro j
  rw [Nat.testBit_and, show 2 ^ 64 - m = 2 ^ 64 - ((m - 1) + 1) by omega, Nat.testBit_two_pow_sub_succ (by omega), hm1, Nat.testBit_two_pow_mul_add _ (show 2 ^ k - 1 < 2 ^ k by omega), Nat.testBit_two_pow]
  have e : m.testBit j = if j < k then false else (2 * q + 1).testBit (j - k) := by
    have := Nat.testBit_two_pow_mul_add (2 * q + 1) (i := k) (b := 0) hp j
    rw [Nat.add_zero, ← hm2, Nat.zero_testBit] at this
    exact this
  rw [e]
  by_cases h : j < k
  · rw [if_pos h, Bool.false_and, decide_eq_false (by omega)]
  · rw [if_neg h, if_neg h]
    by_cases hj : j = k
    · subst hj
      rw [Nat.sub_self, Nat.testBit_zero, Nat.testBit_zero, decide_eq_true (show (2 * q + 1) % 2 = 1 by omega), decide_eq_false (show ¬ (2 * q) % 2 = 1 by omega), decide_eq_true (p := j = j) rfl]
      have : j < 64 := by
        rcases Nat.lt_or_ge j 64 with z | z
        · exact z
        · have z2 : 2 ^ 64 ≤ 2 ^ j := Nat.pow_le_pow_right (by decide) z
          have z3 : 2 ^ j * 1 ≤ 2 ^ j * (2 * q + 1) := Nat.mul_le_mul_left _ (by omega)
          omega
      rw [decide_eq_true this]
      rfl
    · obtain ⟨i, hi⟩ : ∃ i, j - k = i + 1 := ⟨j - k - 1, by omega⟩
      rw [hi, Nat.testBit_succ, Nat.testBit_succ, show (2 * q + 1) / 2 = q by omega, show 2 * q / 2 = q by omega, decide_eq_false (show ¬ k = j by omega)]
      cases q.testBit i <;> simp
def fcB (g : tG) : Nat := mk (fun c => decide (c % gw g = 0)) (gN g)
theorem fcol_loop {L : tL} {g : tG} (hg : GG g) (hL : LL L g) (g1 : Int64) (k32 : Int64 → Option Int64) : ∀ (d v f : Nat), v + d = gh g → d < f → fX1_lowestRegion_5 L g1 k32 f (lN (mk (fun c => decide (c % gw g = 0)) (v * gw g))) (nI v) = k32 (lN (fcB g)) := by
  have w1 := hg.1
  have w2 := hg.2.1
  intro d
  induction d with
  | zero =>
    intro v f h1 h2
    obtain ⟨f, rfl⟩ : ∃ m, f = m + 1 := ⟨f - 1, by omega⟩
    rw [fX1_lowestRegion_5, hL.2.1, if_pos (nI_le (by omega) (by omega)), show v = gh g by omega, Nat.mul_comm]
    rfl
  | succ d ih =>
    intro v f h1 h2
    obtain ⟨f, rfl⟩ : ∃ m, f = m + 1 := ⟨f - 1, by omega⟩
    have hvw : v * gw g ≤ 5 * 6 := Nat.mul_le_mul (by omega) (by omega)
    rw [fX1_lowestRegion_5, hL.2.1, if_neg (nI_ge (by omega) (by omega)), hL.1, pk_mul, one_shl (by omega), fb_orL, nm_eq, nm_eq, nI_add1, ← ih (v + 1) f (by omega) (by omega)]
    congr 2
    apply Nat.eq_of_testBit_eq
    intro c
    rw [Nat.testBit_or, mk_bit, mk_bit, Nat.testBit_two_pow, Nat.add_mul, Nat.one_mul]
    by_cases h : c < v * gw g
    · rw [decide_eq_true h, decide_eq_true (show c < v * gw g + gw g by omega), decide_eq_false (show ¬ v * gw g = c by omega), Bool.or_false]
    · rw [decide_eq_false h, Bool.false_and, Bool.false_or]
      by_cases h3 : c < v * gw g + gw g
      · obtain ⟨r, rfl⟩ : ∃ r, c = v * gw g + r := ⟨c - v * gw g, by omega⟩
        rw [decide_eq_true h3, Bool.true_and, Nat.mul_comm, Nat.mul_add_mod, Nat.mod_eq_of_lt (by omega)]
        exact decide_eq_decide.mpr (by omega)
      · rw [decide_eq_false h3, Bool.false_and, decide_eq_false (by omega)]
theorem fcB_bit {g : tG} {c : Nat} (hc : c < gN g) : (fcB g).testBit c = decide (c % gw g = 0) := by
  rw [fcB, mk_bit, decide_eq_true hc, Bool.true_and]
theorem lcB_bit {g : tG} (hg : GG g) {c : Nat} (hc : c < gN g) : (fcB g * 2 ^ (gw g - 1)).testBit c = decide (c % gw g + 1 = gw g) := by
  have w1 := hg.1
  rw [shl_bit]
  by_cases h : gw g - 1 ≤ c
  · rw [decide_eq_true h, Bool.true_and, fcB_bit (by omega)]
    refine decide_eq_decide.mpr ?_
    obtain ⟨b, rfl⟩ : ∃ b, c = b + (gw g - 1) := ⟨c - (gw g - 1), by omega⟩
    rw [Nat.add_sub_cancel]
    have e1 := Nat.div_add_mod b (gw g)
    have e2 := Nat.mod_lt b (show 0 < gw g by omega)
    by_cases q : b % gw g = 0
    · refine ⟨fun _ => ?_, fun _ => q⟩
      rw [show b + (gw g - 1) = gw g * (b / gw g) + (gw g - 1) by omega, Nat.mul_add_mod, Nat.mod_eq_of_lt (by omega)]
      omega
    · refine ⟨fun z => absurd z q, fun z => ?_⟩
      rw [show b + (gw g - 1) = gw g * (b / gw g + 1) + (b % gw g - 1) by rw [Nat.mul_add, Nat.mul_one]; omega, Nat.mul_add_mod, Nat.mod_eq_of_lt (by omega)] at z
      omega
  · rw [decide_eq_false h, Bool.false_and, decide_eq_false]
    rw [Nat.mod_eq_of_lt (by omega)]
    omega
theorem mod_succ {c w : Nat} (hw : 2 ≤ w) : (c + 1) % w = 0 ↔ c % w + 1 = w := by
  have e1 := Nat.div_add_mod c w
  have e2 := Nat.mod_lt c (show 0 < w by omega)
  by_cases q : c % w + 1 = w
  · refine ⟨fun _ => q, fun _ => ?_⟩
    rw [show c + 1 = w * (c / w + 1) by rw [Nat.mul_add, Nat.mul_one]; omega, Nat.mul_mod_right]
  · refine ⟨fun z => ?_, fun z => absurd z q⟩
    rw [show c + 1 = w * (c / w) + (c % w + 1) by omega, Nat.mul_add_mod, Nat.mod_eq_of_lt (by omega)] at z
    omega
/-- one step of growth, within u -/
def gro (g : tG) (u r : Nat → Bool) (c : Nat) : Bool := r c || (u c && ((((decide (1 ≤ c) && r (c - 1) && !decide ((c - 1) % gw g + 1 = gw g)) || (decide (c + 1 < gN g) && r (c + 1) && !decide ((c + 1) % gw g = 0))) || (decide (gw g ≤ c) && r (c - gw g))) || (decide (c + gw g < gN g) && r (c + gw g))))
theorem gro_step {L : tL} {g : tG} (hg : GG g) (hL : LL L g) (u r : Nat → Bool) : (lN (mk r (gN g)) ||| (((((lN (mk r (gN g)) &&& (lN (fcB g * 2 ^ (gw g - 1)) ^^^ (-1 : Int64))) <<< ((1 : Int32).toInt64 &&& 63)) ||| ((lN (mk r (gN g)) &&& (lN (fcB g) ^^^ (-1 : Int64))).toUInt64 >>> ((1 : Int32).toInt64.toUInt64 &&& Int64.toUInt64 63)).toInt64) ||| (lN (mk r (gN g)) <<< (L.1.toInt64 &&& 63))) ||| (((lN (mk r (gN g))).toUInt64 >>> (L.1.toInt64.toUInt64 &&& Int64.toUInt64 63)).toInt64)) &&& lN (mk u (gN g))) = lN (mk (gro g u r) (gN g)) := by
  have h36 := gN_le hg
  have w1 := hg.1
  have m1 := mk_lt36 r h36
  have d1 := dif_le (mk r (gN g)) (fcB g * 2 ^ (gw g - 1))
  have d2 := dif_le (mk r (gN g)) (fcB g)
  rw [hL.1, dif_l, dif_l, show (1 : Int32) = nI 1 from rfl, shl_l (by omega) (by omega), ushr_l (by omega) (by omega), shl_l (by omega) (by omega), ushr_l (by omega) (by omega), fb_orL, fb_orL, fb_orL, fb_andL, fb_orL]
  congr 1
  apply Nat.eq_of_testBit_eq
  intro c
  rw [Nat.testBit_or, Nat.testBit_and, Nat.testBit_or, Nat.testBit_or, Nat.testBit_or, shl_bit, shr_bit, shl_bit, shr_bit, dif_bit _ _ (by omega), dif_bit _ _ (by omega)]
  simp only [mk_bit]
  by_cases hc : c < gN g
  · have e1 : (decide (1 ≤ c) && (decide (c - 1 < gN g) && r (c - 1) && !(fcB g * 2 ^ (gw g - 1)).testBit (c - 1))) = (decide (1 ≤ c) && r (c - 1) && !decide ((c - 1) % gw g + 1 = gw g)) := by
      rw [decide_eq_true (show c - 1 < gN g by omega), lcB_bit hg (show c - 1 < gN g by omega), Bool.true_and, Bool.and_assoc]
    have e2 : (decide (1 + c < gN g) && r (1 + c) && !(fcB g).testBit (1 + c)) = (decide (c + 1 < gN g) && r (c + 1) && !decide ((c + 1) % gw g = 0)) := by
      rw [Nat.add_comm 1 c]
      by_cases q : c + 1 < gN g
      · rw [fcB_bit q]
      · rw [decide_eq_false q, Bool.false_and, Bool.false_and, Bool.false_and]
    have e3 : (decide (gw g ≤ c) && (decide (c - gw g < gN g) && r (c - gw g))) = (decide (gw g ≤ c) && r (c - gw g)) := by
      rw [decide_eq_true (show c - gw g < gN g by omega), Bool.true_and]
    have e4 : (decide (gw g + c < gN g) && r (gw g + c)) = (decide (c + gw g < gN g) && r (c + gw g)) := by rw [Nat.add_comm]
    rw [e1, e2, e3, e4, decide_eq_true hc, Bool.true_and, Bool.true_and, Bool.true_and, gro, Bool.and_comm (u c)]
  · rw [decide_eq_false hc, Bool.false_and, Bool.false_and, Bool.false_and, Bool.and_false, Bool.or_false]
