/-! Sets as bits of longs. The first rows are of the kit's families COUNTS and BITS. -/
theorem fb_andL (a b : Nat) : lN a &&& lN b = lN (a &&& b) := by
  apply Int64.toBitVec_inj.1
  show BitVec.ofNat 64 a &&& BitVec.ofNat 64 b = BitVec.ofNat 64 (a &&& b)
  apply BitVec.eq_of_getLsbD_eq
  intro i hi
  simp [hi]
theorem fb_orL (a b : Nat) : lN a ||| lN b = lN (a ||| b) := by
  apply Int64.toBitVec_inj.1
  show BitVec.ofNat 64 a ||| BitVec.ofNat 64 b = BitVec.ofNat 64 (a ||| b)
  apply BitVec.eq_of_getLsbD_eq
  intro i hi
  simp [hi]
theorem fb_xorL (a b : Nat) : lN a ^^^ lN b = lN (a ^^^ b) := by
  apply Int64.toBitVec_inj.1
  show BitVec.ofNat 64 a ^^^ BitVec.ofNat 64 b = BitVec.ofNat 64 (a ^^^ b)
  apply BitVec.eq_of_getLsbD_eq
  intro i hi
  simp [hi]
theorem fb_lN_inj {a b : Nat} (ha : a < 2 ^ 63) (hb : b < 2 ^ 63) : lN a = lN b ↔ a = b := by
  constructor
  · intro h
    have h1 : (BitVec.ofNat 64 a).toNat = (BitVec.ofNat 64 b).toNat := congrArg (fun x : Int64 => x.toBitVec.toNat) h
    rw [BitVec.toNat_ofNat, BitVec.toNat_ofNat, Nat.mod_eq_of_lt (by omega), Nat.mod_eq_of_lt (by omega)] at h1
    exact h1
  · rintro rfl; rfl
theorem g_shl {a k p : Nat} {y : Int64} (hy : y.toBitVec.smod 64 = BitVec.ofNat 64 k) (hk : k < 64) (hp : 2 ^ k = p) (ha : a < 2 ^ 64) : lN a <<< y = lN (a * p) := by
  subst hp
  apply Int64.toBitVec_inj.mp
  rw [Int64.toBitVec_shiftLeft, hy]
  apply BitVec.eq_of_toNat_eq
  have hb : (lN a).toBitVec.toNat = a := Nat.mod_eq_of_lt ha
  have hk' : (BitVec.ofNat 64 k).toNat = k := Nat.mod_eq_of_lt (by omega)
  have h : ((lN a).toBitVec <<< BitVec.ofNat 64 k).toNat = (a * 2 ^ k) % 2 ^ 64 := by simp only [BitVec.shiftLeft_eq', BitVec.toNat_shiftLeft, hb, hk', Nat.shiftLeft_eq]
  exact h
theorem pf_lI {a : Nat} (h : a < 2 ^ 63) : (lN a).toInt = (a : Int) := pk_lT h
theorem pf_shr {a d : Nat} {D : Int64} (hD : (D.toBitVec.smod 64).toNat = d) (h : a < 2 ^ 62) : lN a >>> D = lN (a / 2 ^ d) := by
  have hd : a / 2 ^ d ≤ a := Nat.div_le_self _ _
  apply Int64.toInt_inj.mp
  have e : (lN a >>> D).toInt = (lN a).toInt >>> d := by
    rw [← hD]
    exact BitVec.toInt_sshiftRight ..
  rw [e, Int.shiftRight_eq_div_pow, pf_lI (by omega), pf_lI (by omega)]
  rfl
theorem pf_ushr {a d : Nat} {D : UInt64} (hD : D.toNat % 64 = d) (h : a < 2 ^ 62) : ((lN a).toUInt64 >>> D).toInt64 = lN (a / 2 ^ d) := by
  have hd : a / 2 ^ d ≤ a := Nat.div_le_self _ _
  have e : (lN a).toUInt64 >>> D = UInt64.ofNat (a / 2 ^ d) := UInt64.toNat_inj.mp (by
    rw [UInt64.toNat_shiftRight, hD, Nat.shiftRight_eq_div_pow, UInt64.toNat_ofNat']
    show (UInt64.ofNat a).toNat / 2 ^ d = _
    rw [UInt64.toNat_ofNat', Nat.mod_eq_of_lt (by omega), Nat.mod_eq_of_lt (by omega)])
  rw [e]
  rfl
/-! shifts by an int -/
theorem amt_s {k : Nat} (hk : k < 64) : ((nI k).toInt64 &&& 63).toBitVec.smod 64 = BitVec.ofNat 64 k := by
  rw [nI_l (by omega), show (63 : Int64) = lN 63 from rfl, fb_andL, show (63 : Nat) = 2 ^ 6 - 1 from rfl, Nat.and_two_pow_sub_one_eq_mod, Nat.mod_eq_of_lt (by omega)]
  show (BitVec.ofNat 64 k).smod 64 = BitVec.ofNat 64 k
  have h : ∀ j, j < 64 → (BitVec.ofNat 64 j).smod 64 = BitVec.ofNat 64 j := by decide
  exact h k hk
theorem amt_u {k : Nat} (hk : k < 64) : ((nI k).toInt64.toUInt64 &&& Int64.toUInt64 63).toNat % 64 = k := by
  rw [nI_l (by omega), UInt64.toNat_and]
  have e : (lN k).toUInt64.toNat = k % 2 ^ 64 := rfl
  have e2 : (Int64.toUInt64 63).toNat = 2 ^ 6 - 1 := by decide
  rw [e, e2, Nat.and_two_pow_sub_one_eq_mod]
  omega
theorem shl_l {a k : Nat} (hk : k < 64) (ha : a < 2 ^ 64) : lN a <<< ((nI k).toInt64 &&& 63) = lN (a * 2 ^ k) := g_shl (amt_s hk) hk rfl ha
theorem one_shl {k : Nat} (hk : k < 64) : (1 : Int64) <<< ((nI k).toInt64 &&& 63) = lN (2 ^ k) := by
  rw [show (1 : Int64) = lN 1 from rfl, shl_l hk (by decide), Nat.one_mul]
theorem shr_l {a k : Nat} (hk : k < 64) (ha : a < 2 ^ 62) : lN a >>> ((nI k).toInt64 &&& 63) = lN (a / 2 ^ k) := by
  refine pf_shr ?_ ha
  rw [amt_s hk, BitVec.toNat_ofNat]
  omega
theorem ushr_l {a k : Nat} (hk : k < 64) (ha : a < 2 ^ 62) : ((lN a).toUInt64 >>> ((nI k).toInt64.toUInt64 &&& Int64.toUInt64 63)).toInt64 = lN (a / 2 ^ k) := pf_ushr (amt_u hk) ha
/-! a set of numbers below n -/
def mk (p : Nat → Bool) : Nat → Nat
  | 0 => 0
  | n + 1 => if p n then mk p n ||| 2 ^ n else mk p n
theorem mk_bit (p : Nat → Bool) : ∀ n k, (mk p n).testBit k = (decide (k < n) && p k)
  | 0, k => by simp [mk]
  | n + 1, k => by
    rw [mk]
    by_cases hk : k = n
    · subst hk
      cases hp : p k
      · simp [mk_bit p k k]
      · simp
    · have h1 : decide (k < n + 1) = decide (k < n) := decide_eq_decide.mpr (by omega)
      rw [h1, ← mk_bit p n k]
      cases hp : p n
      · simp
      · simp [Nat.testBit_or, Nat.testBit_two_pow_of_ne (Ne.symm hk)]
theorem mk_lt (p : Nat → Bool) (n : Nat) : mk p n < 2 ^ n := by
  apply Nat.lt_pow_two_of_testBit
  intro i hi
  rw [mk_bit]
  simp
  omega
theorem mk_lt36 (p : Nat → Bool) {n : Nat} (h : n ≤ 36) : mk p n < 2 ^ 36 := Nat.lt_of_lt_of_le (mk_lt p n) (Nat.pow_le_pow_right (by decide) h)
theorem mk_congr {p q : Nat → Bool} {n : Nat} (h : ∀ k, k < n → p k = q k) : mk p n = mk q n := by
  apply Nat.eq_of_testBit_eq
  intro i
  rw [mk_bit, mk_bit]
  by_cases hi : i < n
  · rw [h i hi]
  · simp [hi]
theorem mk_or (p q : Nat → Bool) (n : Nat) : mk p n ||| mk q n = mk (fun k => p k || q k) n := by
  apply Nat.eq_of_testBit_eq
  intro i
  rw [Nat.testBit_or, mk_bit, mk_bit, mk_bit]
  cases decide (i < n) <;> simp
theorem mk_and (p q : Nat → Bool) (n : Nat) : mk p n &&& mk q n = mk (fun k => p k && q k) n := by
  apply Nat.eq_of_testBit_eq
  intro i
  rw [Nat.testBit_and, mk_bit, mk_bit, mk_bit]
  cases decide (i < n) <;> simp
theorem mk_false (n : Nat) : mk (fun _ => false) n = 0 := by
  apply Nat.eq_of_testBit_eq
  intro i
  rw [mk_bit]
  simp
theorem mk_full (n : Nat) : 2 ^ n - 1 = mk (fun _ => true) n := by
  apply Nat.eq_of_testBit_eq
  intro i
  rw [mk_bit, Nat.testBit_two_pow_sub_one]
  simp
/-- one set without another -/
def dif (a b : Nat) : Nat := a &&& (b ^^^ (2 ^ 64 - 1))
theorem dif_bit {a : Nat} (b i : Nat) (ha : a < 2 ^ 64) : (dif a b).testBit i = (a.testBit i && !b.testBit i) := by
  rw [dif, Nat.testBit_and, Nat.testBit_xor, Nat.testBit_two_pow_sub_one]
  by_cases hi : i < 64
  · simp [hi]
  · rw [Nat.testBit_lt_two_pow (Nat.lt_of_lt_of_le ha (Nat.pow_le_pow_right (by decide) (by omega)))]
    simp
theorem dif_l (a b : Nat) : lN a &&& (lN b ^^^ (-1)) = lN (dif a b) := by
  rw [show (-1 : Int64) = lN (2 ^ 64 - 1) from by decide, fb_xorL, fb_andL]
  rfl
theorem mk_dif (p q : Nat → Bool) {n : Nat} (hn : n ≤ 64) : dif (mk p n) (mk q n) = mk (fun k => p k && !q k) n := by
  apply Nat.eq_of_testBit_eq
  intro i
  rw [dif_bit _ _ (Nat.lt_of_lt_of_le (mk_lt p n) (Nat.pow_le_pow_right (by decide) hn)), mk_bit, mk_bit, mk_bit]
  cases decide (i < n) <;> simp
/-- a bit, as the two ask for it -/
theorem bit_mod (a k : Nat) : a / 2 ^ k % 2 = (a.testBit k).toNat := by
  rw [Nat.testBit_eq_decide_div_mod_eq]
  have : a / 2 ^ k % 2 < 2 := Nat.mod_lt _ (by decide)
  by_cases h : a / 2 ^ k % 2 = 1
  · rw [h]; rfl
  · rw [show a / 2 ^ k % 2 = 0 by omega]; rfl
theorem has_eq {a k : Nat} (hk : k < 64) (ha : a < 2 ^ 62) : fX5_has (lN a) (nI k) = some (if a.testBit k then 1 else 0) := by
  have h : a / 2 ^ k &&& 1 = (a.testBit k).toNat := by rw [show (1 : Nat) = 2 ^ 1 - 1 from rfl, Nat.and_two_pow_sub_one_eq_mod]; exact bit_mod a k
  rw [fX5_has, shr_l hk ha, show (1 : Int64) = lN 1 from rfl, fb_andL, h]
  cases a.testBit k <;> rfl
theorem contains_eq {a k : Nat} (hk : k < 64) (ha : a < 2 ^ 62) : fX4_contains (lN a) (nI k) = some (if a.testBit k then 1 else 0) := by
  have h : a / 2 ^ k &&& 1 = (a.testBit k).toNat := by rw [show (1 : Nat) = 2 ^ 1 - 1 from rfl, Nat.and_two_pow_sub_one_eq_mod]; exact bit_mod a k
  rw [fX4_contains, ushr_l hk ha, show (1 : Int64) = lN 1 from rfl, fb_andL, h]
  cases a.testBit k <;> rfl
/-! how many: the reference counts them one by one -/
theorem ones_loop {a : Nat} (ha : a < 2 ^ 62) (k32 : Int32 → Option Int32) : ∀ (d i n : Nat), i + d = 36 → d < n → fX5_ones_4 (lN a) k32 n (nI (cnt (fun j => a.testBit j) i)) (nI i) = k32 (nI (cnt (fun j => a.testBit j) 36)) := by
  intro d
  induction d with
  | zero =>
    intro i n h1 h2
    obtain ⟨n, rfl⟩ : ∃ m, n = m + 1 := ⟨n - 1, by omega⟩
    rw [fX5_ones_4, if_pos (show (36 : Int32) ≤ nI i from nI_le (a := 36) (by omega) (by omega)), show i = 36 by omega]
  | succ d ih =>
    intro i n h1 h2
    obtain ⟨n, rfl⟩ : ∃ m, n = m + 1 := ⟨n - 1, by omega⟩
    have ihh := ih (i + 1) n (by omega) (by omega)
    rw [fX5_ones_4, if_neg (show ¬ (36 : Int32) ≤ nI i from nI_ge (b := 36) (by omega) (by omega)), has_eq (by omega) ha, some_bind]
    rw [cnt] at ihh
    cases hb : a.testBit i
    · rw [hb] at ihh
      rw [if_pos (by rfl)]
      simp only [nm_eq]
      rw [nI_add1, show nI (cnt (fun j => a.testBit j) i) + 0 = nI (cnt (fun j => a.testBit j) i + 0) from nI_add _ 0]
      exact ihh
    · rw [hb] at ihh
      rw [if_neg (by decide)]
      simp only [nm_eq]
      rw [nI_add1, nI_add1]
      exact ihh
theorem ones_eq {a : Nat} (ha : a < 2 ^ 62) : fX5_ones (lN a) = some (nI (cnt (fun j => a.testBit j) 36)) := by
  rw [fX5_ones]
  exact ones_loop ha _ 36 0 100000 (by decide) (by decide)
theorem cnt_mk (p : Nat → Bool) {n m : Nat} (h : n ≤ m) : cnt (fun j => (mk p n).testBit j) m = cnt p n := by
  rw [cnt_out (m := n) h (fun k h1 _ => by rw [mk_bit]; simp; omega)]
  exact cnt_congr (fun k hk => by rw [mk_bit]; simp [hk])
theorem ones_mk (p : Nat → Bool) {n : Nat} (h : n ≤ 36) : fX5_ones (lN (mk p n)) = some (nI (cnt p n)) := by
  rw [ones_eq (Nat.lt_of_lt_of_le (mk_lt p n) (Nat.pow_le_pow_right (by decide) (by omega))), cnt_mk p h]
/-! how many: the JDK adds in lanes. A lane of eight bits at a time. -/
theorem and_lane {a m : Nat} (A M : Nat) (ha : a < 256) (hm : m < 256) : (256 * A + a) &&& (256 * M + m) = 256 * (A &&& M) + (a &&& m) := by
  apply Nat.eq_of_testBit_eq
  intro i
  have hl : a &&& m < 2 ^ 8 := Nat.and_lt_two_pow a hm
  rw [Nat.testBit_and, show (256 : Nat) = 2 ^ 8 from rfl, Nat.testBit_two_pow_mul_add A (i := 8) ha i, Nat.testBit_two_pow_mul_add M (i := 8) hm i, Nat.testBit_two_pow_mul_add (A &&& M) (i := 8) hl i]
  by_cases hi : i < 8
  · simp [hi]
  · simp [hi]
