
def t1 (b : Nat) : Nat := b - (b / 2 &&& 85)
def t2 (b : Nat) : Nat := (b &&& 51) + (b / 4 &&& 51)
def t3 (b : Nat) : Nat := (b + b / 16) &&& 15
theorem lane1 (Y b M : Nat) (hb : b < 256) : (256 * Y + b) - ((256 * Y + b) / 2 &&& (256 * M + 85)) = 256 * (Y - (Y / 2 &&& M)) + t1 b := by
  have h0 : ∀ b, b < 256 → ∀ c, c < 2 → (128 * c + b / 2) &&& 85 = b / 2 &&& 85 := by decide +kernel
  have h1 : (256 * Y + b) / 2 = 256 * (Y / 2) + (128 * (Y % 2) + b / 2) := by omega
  have h2 : 128 * (Y % 2) + b / 2 < 256 := by omega
  have h3 : Y / 2 &&& M ≤ Y / 2 := Nat.and_le_left
  have h4 : b / 2 &&& 85 ≤ b / 2 := Nat.and_le_left
  rw [h1, and_lane _ _ h2 (by decide), h0 b hb _ (Nat.mod_lt _ (by decide)), t1]
  omega
theorem lane2 (Y b M : Nat) (hb : b < 256) : ((256 * Y + b) &&& (256 * M + 51)) + ((256 * Y + b) / 4 &&& (256 * M + 51)) = 256 * ((Y &&& M) + (Y / 4 &&& M)) + t2 b := by
  have h0 : ∀ b, b < 256 → ∀ c, c < 4 → (64 * c + b / 4) &&& 51 = b / 4 &&& 51 := by decide +kernel
  have h1 : (256 * Y + b) / 4 = 256 * (Y / 4) + (64 * (Y % 4) + b / 4) := by omega
  have h2 : 64 * (Y % 4) + b / 4 < 256 := by omega
  rw [h1, and_lane _ _ h2 (by decide), and_lane _ _ hb (by decide), h0 b hb _ (Nat.mod_lt _ (by decide)), t2]
  omega
theorem lane3 (Y b M : Nat) (hb : b / 16 ≤ 4) (hb2 : b % 16 ≤ 4) (hY : Y % 16 ≤ 4) : ((256 * Y + b) + (256 * Y + b) / 16) &&& (256 * M + 15) = 256 * ((Y + Y / 16) &&& M) + t3 b := by
  have h0 : ∀ u, u < 5 → ∀ v, v < 5 → ∀ c, c < 5 → (16 * u + v + u + 16 * c) &&& 15 = ((16 * u + v) + (16 * u + v) / 16) &&& 15 := by decide +kernel
  have h1 : (256 * Y + b) + (256 * Y + b) / 16 = 256 * (Y + Y / 16) + (16 * (b / 16) + b % 16 + b / 16 + 16 * (Y % 16)) := by omega
  have h2 : 16 * (b / 16) + b % 16 + b / 16 + 16 * (Y % 16) < 256 := by omega
  have e : 16 * (b / 16) + b % 16 = b := Nat.div_add_mod b 16
  rw [h1, and_lane _ _ h2 (by decide), h0 _ (by omega) _ (by omega) _ (by omega), e, t3]
theorem t_bounds : ∀ b, b < 256 → t1 b < 256 ∧ t2 (t1 b) < 256 ∧ t2 (t1 b) / 16 ≤ 4 ∧ t2 (t1 b) % 16 ≤ 4 ∧ t3 (t2 (t1 b)) ≤ 8 ∧ t3 (t2 (t1 b)) = cnt (fun j => b.testBit j) 8 := by decide +kernel
theorem cnt_split (p : Nat → Bool) (m : Nat) : ∀ n, cnt p (m + n) = cnt p m + cnt (fun k => p (m + k)) n
  | 0 => rfl
  | n + 1 => by
    show cnt p (m + n) + (if p (m + n) = true then 1 else 0) = _
    rw [cnt_split p m n, cnt]
    omega
theorem cnt_lane (Y b n : Nat) (hb : b < 256) : cnt (fun j => (256 * Y + b).testBit j) (8 + n) = cnt (fun j => b.testBit j) 8 + cnt (fun j => Y.testBit j) n := by
  rw [cnt_split, cnt_congr (q := fun j => b.testBit j) (n := 8) (fun k hk => by rw [show (256 : Nat) = 2 ^ 8 from rfl, Nat.testBit_two_pow_mul_add Y (i := 8) hb k, if_pos hk])]
  congr 1
  exact cnt_congr (fun k _ => by rw [show (256 : Nat) = 2 ^ 8 from rfl, Nat.testBit_two_pow_mul_add Y (i := 8) hb (8 + k), if_neg (by omega), Nat.add_sub_cancel_left])
theorem five1 (b0 b1 b2 b3 b4 : Nat) (h0 : b0 < 256) (h1 : b1 < 256) (h2 : b2 < 256) (h3 : b3 < 256) (h4 : b4 < 256) : (256 * (256 * (256 * (256 * b4 + b3) + b2) + b1) + b0) - ((256 * (256 * (256 * (256 * b4 + b3) + b2) + b1) + b0) / 2 &&& 6148914691236517205) = 256 * (256 * (256 * (256 * t1 b4 + t1 b3) + t1 b2) + t1 b1) + t1 b0 := by
  have e4 : b4 - (b4 / 2 &&& 1431655765) = t1 b4 := by
    have := lane1 0 b4 5592405 h4
    simpa using this
  rw [show (6148914691236517205 : Nat) = 256 * 24019198012642645 + 85 from rfl, lane1 _ _ _ h0, show (24019198012642645 : Nat) = 256 * 93824992236885 + 85 from rfl, lane1 _ _ _ h1, show (93824992236885 : Nat) = 256 * 366503875925 + 85 from rfl, lane1 _ _ _ h2, show (366503875925 : Nat) = 256 * 1431655765 + 85 from rfl, lane1 _ _ _ h3, e4]
theorem five2 (b0 b1 b2 b3 b4 : Nat) (h0 : b0 < 256) (h1 : b1 < 256) (h2 : b2 < 256) (h3 : b3 < 256) (h4 : b4 < 256) : ((256 * (256 * (256 * (256 * b4 + b3) + b2) + b1) + b0) &&& 3689348814741910323) + ((256 * (256 * (256 * (256 * b4 + b3) + b2) + b1) + b0) / 4 &&& 3689348814741910323) = 256 * (256 * (256 * (256 * t2 b4 + t2 b3) + t2 b2) + t2 b1) + t2 b0 := by
  have e4 : (b4 &&& 858993459) + (b4 / 4 &&& 858993459) = t2 b4 := by
    have := lane2 0 b4 3355443 h4
    simpa using this
  rw [show (3689348814741910323 : Nat) = 256 * 14411518807585587 + 51 from rfl, lane2 _ _ _ h0, show (14411518807585587 : Nat) = 256 * 56294995342131 + 51 from rfl, lane2 _ _ _ h1, show (56294995342131 : Nat) = 256 * 219902325555 + 51 from rfl, lane2 _ _ _ h2, show (219902325555 : Nat) = 256 * 858993459 + 51 from rfl, lane2 _ _ _ h3, e4]
theorem five3 (b0 b1 b2 b3 b4 : Nat) (h0 : b0 / 16 ≤ 4 ∧ b0 % 16 ≤ 4) (h1 : b1 / 16 ≤ 4 ∧ b1 % 16 ≤ 4) (h2 : b2 / 16 ≤ 4 ∧ b2 % 16 ≤ 4) (h3 : b3 / 16 ≤ 4 ∧ b3 % 16 ≤ 4) (h4 : b4 / 16 ≤ 4 ∧ b4 % 16 ≤ 4) : ((256 * (256 * (256 * (256 * b4 + b3) + b2) + b1) + b0) + (256 * (256 * (256 * (256 * b4 + b3) + b2) + b1) + b0) / 16) &&& 1085102592571150095 = 256 * (256 * (256 * (256 * t3 b4 + t3 b3) + t3 b2) + t3 b1) + t3 b0 := by
  have e4 : (b4 + b4 / 16) &&& 252645135 = t3 b4 := by
    have := lane3 0 b4 986895 h4.1 h4.2 (by decide)
    simpa using this
  rw [show (1085102592571150095 : Nat) = 256 * 4238682002231055 + 15 from rfl, lane3 _ _ _ h0.1 h0.2 (by omega), show (4238682002231055 : Nat) = 256 * 16557351571215 + 15 from rfl, lane3 _ _ _ h1.1 h1.2 (by omega), show (16557351571215 : Nat) = 256 * 64677154575 + 15 from rfl, lane3 _ _ _ h2.1 h2.2 (by omega), show (64677154575 : Nat) = 256 * 252645135 + 15 from rfl, lane3 _ _ _ h3.1 h3.2 (by omega), e4]
theorem five_sum (c0 c1 c2 c3 c4 : Nat) (h0 : c0 ≤ 8) (h1 : c1 ≤ 8) (h2 : c2 ≤ 8) (h3 : c3 ≤ 8) (h4 : c4 ≤ 8) : ∀ x y z w : Nat, x = 256 * (256 * (256 * (256 * c4 + c3) + c2) + c1) + c0 → y = x + x / 256 → z = y + y / 65536 → w = z + z / 4294967296 → w % 128 = c0 + c1 + c2 + c3 + c4 ∧ w < 2 ^ 50 := by
  intro x y z w hx hy hz hw
  have e1 : x / 256 = 256 * (256 * (256 * c4 + c3) + c2) + c1 := by omega
  have e2 : y = 256 * (256 * (256 * (256 * c4 + (c3 + c4)) + (c2 + c3)) + (c1 + c2)) + (c0 + c1) := by omega
  have e3 : y / 65536 = 256 * (256 * c4 + (c3 + c4)) + (c2 + c3) := by omega
  have e4 : z = 256 * (256 * (256 * (256 * c4 + (c3 + c4)) + (c2 + c3 + c4)) + (c1 + c2 + c3 + c4)) + (c0 + c1 + c2 + c3) := by omega
  have e5 : z / 4294967296 = c4 := by omega
  omega
theorem bytes5 {a : Nat} (ha : a < 2 ^ 40) : ∃ b0 b1 b2 b3 b4 : Nat, b0 < 256 ∧ b1 < 256 ∧ b2 < 256 ∧ b3 < 256 ∧ b4 < 256 ∧ a = 256 * (256 * (256 * (256 * b4 + b3) + b2) + b1) + b0 := ⟨a % 256, a / 256 % 256, a / 65536 % 256, a / 16777216 % 256, a / 4294967296, by omega, by omega, by omega, by omega, by omega, by omega⟩
theorem bitCount_eq {a : Nat} (ha : a < 2 ^ 40) : fJ13_bitCount_95d88 (lN a) = some (nI (cnt (fun j => a.testBit j) 40)) := by
  obtain ⟨b0, b1, b2, b3, b4, h0, h1, h2, h3, h4, rfl⟩ := bytes5 ha
  have B0 := t_bounds b0 h0
  have B1 := t_bounds b1 h1
  have B2 := t_bounds b2 h2
  have B3 := t_bounds b3 h3
  have B4 := t_bounds b4 h4
  obtain ⟨x3, hx3⟩ : ∃ x, x = 256 * (256 * (256 * (256 * t3 (t2 (t1 b4)) + t3 (t2 (t1 b3))) + t3 (t2 (t1 b2))) + t3 (t2 (t1 b1))) + t3 (t2 (t1 b0)) := ⟨_, rfl⟩
  obtain ⟨hm, hlt⟩ := five_sum _ _ _ _ _ B0.2.2.2.2.1 B1.2.2.2.2.1 B2.2.2.2.2.1 B3.2.2.2.2.1 B4.2.2.2.2.1 x3 _ _ _ hx3 rfl rfl rfl
  have hx3b : x3 < 2 ^ 40 := by omega
  have hc : cnt (fun j => (256 * (256 * (256 * (256 * b4 + b3) + b2) + b1) + b0).testBit j) 40 = t3 (t2 (t1 b0)) + t3 (t2 (t1 b1)) + t3 (t2 (t1 b2)) + t3 (t2 (t1 b3)) + t3 (t2 (t1 b4)) := by
    rw [show (40 : Nat) = 8 + 32 from rfl, cnt_lane _ _ _ h0, show (32 : Nat) = 8 + 24 from rfl, cnt_lane _ _ _ h1, show (24 : Nat) = 8 + 16 from rfl, cnt_lane _ _ _ h2, show (16 : Nat) = 8 + 8 from rfl, cnt_lane _ _ _ h3, B0.2.2.2.2.2, B1.2.2.2.2.2, B2.2.2.2.2.2, B3.2.2.2.2.2, B4.2.2.2.2.2]
    omega
  rw [hc, ← hm]
  have f1 := five1 b0 b1 b2 b3 b4 h0 h1 h2 h3 h4
  have f2 := five2 _ _ _ _ _ B0.1 B1.1 B2.1 B3.1 B4.1
  have f3 := five3 _ _ _ _ _ ⟨B0.2.2.1, B0.2.2.2.1⟩ ⟨B1.2.2.1, B1.2.2.2.1⟩ ⟨B2.2.2.1, B2.2.2.2.1⟩ ⟨B3.2.2.1, B3.2.2.2.1⟩ ⟨B4.2.2.1, B4.2.2.2.1⟩
  rw [fJ13_bitCount_95d88]
  simp only [nm_eq]
  rw [show (1 : Int32) = nI 1 from rfl, show (2 : Int32) = nI 2 from rfl, show (4 : Int32) = nI 4 from rfl, show (8 : Int32) = nI 8 from rfl, show (16 : Int32) = nI 16 from rfl, show (32 : Int32) = nI 32 from rfl, show (6148914691236517205 : Int64) = lN 6148914691236517205 from rfl, show (3689348814741910323 : Int64) = lN 3689348814741910323 from rfl, show (1085102592571150095 : Int64) = lN 1085102592571150095 from rfl]
  rw [ushr_l (a := 256 * (256 * (256 * (256 * b4 + b3) + b2) + b1) + b0) (k := 1) (by decide) (by omega), fb_andL, lN_sub (Nat.le_trans Nat.and_le_left (Nat.div_le_self _ _)), show (2 : Nat) ^ 1 = 2 from rfl, f1]
  rw [ushr_l (k := 2) (by decide) (by omega), fb_andL, fb_andL, lN_add, show (2 : Nat) ^ 2 = 4 from rfl, f2]
  rw [ushr_l (k := 4) (by decide) (by omega), lN_add, fb_andL, show (2 : Nat) ^ 4 = 16 from rfl, f3, ← hx3]
  rw [ushr_l (k := 8) (by decide) (by omega), lN_add, show (2 : Nat) ^ 8 = 256 from rfl]
  rw [ushr_l (k := 16) (by decide) (by omega), lN_add, show (2 : Nat) ^ 16 = 65536 from rfl]
  rw [ushr_l (k := 32) (by decide) (by omega), lN_add, show (2 : Nat) ^ 32 = 4294967296 from rfl]
  rw [lN_i, pk_and _ 7 (by decide)]
  congr 2
  show (BitVec.ofNat 32 _).toNat % 2 ^ 7 = _
  rw [BitVec.toNat_ofNat]
  omega
theorem bitCount_mk (p : Nat → Bool) {n : Nat} (h : n ≤ 36) : fJ13_bitCount_95d88 (lN (mk p n)) = some (nI (cnt p n)) := by
  rw [bitCount_eq (Nat.lt_of_lt_of_le (mk_lt p n) (Nat.pow_le_pow_right (by decide) (by omega))), cnt_mk p (by omega)]
