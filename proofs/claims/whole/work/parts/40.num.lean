/-! Plain numbers: ints of naturals, guards, counted loops. -/
theorem lit_i (n : Nat) : (OfNat.ofNat n : Int32) = nI (OfNat.ofNat n) := rfl
theorem lit_l (n : Nat) : (OfNat.ofNat n : Int64) = lN (OfNat.ofNat n) := rfl
theorem gd_nz {α : Type} {n : Nat} (h0 : 0 < n) (h : n < 2 ^ 31) (k : Option α) : gd (nz (nI n)) k = k := gd_true (decide_eq_true (nI_ne0 h0 h)) k
theorem gd_inb {α : Type} {i n : Nat} (h : i < n) (hn : n < 2 ^ 31) (k : Option α) : gd (inb (nI i) n) k = k := gd_true (decide_eq_true (nI_in h hn)) k
theorem gd_zb0 {α : Type} (k : Option α) : gd (zb 0) k = k := rfl
theorem gd_zb1 {α : Type} (k : Option α) : gd (zb 1) k = k := rfl
theorem nm_eq {α β : Type} (e : α) (k : α → β) : nm e k = k e := rfl
theorem pk_rem2 (a d : Nat) : nI a - nI (a / d * d) = nI (a % d) := by
  rw [pk_sub (Nat.div_mul_le_self a d)]
  have h := Nat.div_add_mod a d
  rw [Nat.mul_comm] at h
  congr 1
  omega
theorem nI_add1 (a : Nat) : nI a + 1 = nI (a + 1) := nI_1 a
theorem toN {n : Nat} (h : n < 2 ^ 31) : (nI n).toNatClampNeg = n := nI_clamp h
/-- the int of an integer -/
def iI (x : Int) : Int32 := Int32.ofInt x
theorem iI_nat (n : Nat) : iI (n : Int) = nI n := by
  show Int32.ofInt (n : Int) = Int32.ofNat n
  rfl
theorem iI_add (a b : Int) : iI a + iI b = iI (a + b) := (Int32.ofInt_add a b).symm
theorem iI_sub (a b : Int) : iI a - iI b = iI (a - b) := (Int32.ofInt_sub a b).symm
theorem iI_mul (a b : Int) : iI a * iI b = iI (a * b) := (Int32.ofInt_mul a b).symm
theorem iI_neg (a : Int) : -iI a = iI (-a) := (Int32.ofInt_neg a).symm
theorem iI_toInt {a : Int} (h : -1000000000 ≤ a) (h2 : a ≤ 1000000000) : (iI a).toInt = a := Int32.toInt_ofInt_of_le (by omega) (by omega)
theorem iI_lt {a b : Int} (ha : -1000000000 ≤ a) (ha2 : a ≤ 1000000000) (hb : -1000000000 ≤ b) (hb2 : b ≤ 1000000000) : iI a < iI b ↔ a < b := by
  rw [Int32.lt_iff_toInt_lt, iI_toInt ha ha2, iI_toInt hb hb2]
theorem iI_le {a b : Int} (ha : -1000000000 ≤ a) (ha2 : a ≤ 1000000000) (hb : -1000000000 ≤ b) (hb2 : b ≤ 1000000000) : iI a ≤ iI b ↔ a ≤ b := by
  rw [Int32.le_iff_toInt_le, iI_toInt ha ha2, iI_toInt hb hb2]
theorem iI_eq {a b : Int} (ha : -1000000000 ≤ a) (ha2 : a ≤ 1000000000) (hb : -1000000000 ≤ b) (hb2 : b ≤ 1000000000) : iI a = iI b ↔ a = b := by
  rw [← Int32.toInt_inj, iI_toInt ha ha2, iI_toInt hb hb2]
theorem nI_sub (a b : Nat) : nI a - nI b = iI ((a : Int) - b) := by rw [← iI_nat, ← iI_nat, iI_sub]
theorem iI_0 : iI 0 = 0 := rfl
/-- how far two numbers are apart -/
def absd (a b : Nat) : Nat := (a - b) + (b - a)
theorem abs_nI {a b : Nat} (ha : a < 2 ^ 29) (hb : b < 2 ^ 29) : (if 0 ≤ nI a - nI b then nI a - nI b else 0 - (nI a - nI b)) = nI (absd a b) := by
  have h0 : (0 : Int32) = iI 0 := rfl
  rw [nI_sub, h0]
  by_cases h : b ≤ a
  · rw [if_pos ((iI_le (by omega) (by omega) (by omega) (by omega)).mpr (by omega)), ← iI_nat]
    congr 1
    unfold absd
    omega
  · rw [if_neg (fun q => h (by have := (iI_le (by omega) (by omega) (by omega) (by omega)).mp q; omega)), iI_sub, ← iI_nat]
    congr 1
    unfold absd
    omega
theorem max_nI {a b : Nat} (ha : a < 2 ^ 31) (hb : b < 2 ^ 31) : (if nI a < nI b then nI b else nI a) = nI (max a b) := by
  by_cases h : a < b
  · rw [if_pos ((nI_ltI ha hb).mpr h), Nat.max_eq_right (Nat.le_of_lt h)]
  · rw [if_neg (fun q => h ((nI_ltI ha hb).mp q)), Nat.max_eq_left (by omega)]
theorem min_nI {a b : Nat} (ha : a < 2 ^ 31) (hb : b < 2 ^ 31) : (if nI b < nI a then nI b else nI a) = nI (min a b) := by
  by_cases h : b < a
  · rw [if_pos ((nI_ltI hb ha).mpr h), Nat.min_eq_right (Nat.le_of_lt h)]
  · rw [if_neg (fun q => h ((nI_ltI hb ha).mp q)), Nat.min_eq_left (by omega)]
theorem max_iI {a b : Int} (ha : -1000000000 ≤ a) (ha2 : a ≤ 1000000000) (hb : -1000000000 ≤ b) (hb2 : b ≤ 1000000000) : (if iI a < iI b then iI b else iI a) = iI (max a b) := by
  by_cases h : a < b
  · rw [if_pos ((iI_lt ha ha2 hb hb2).mpr h), Int.max_eq_right (by omega)]
  · rw [if_neg (fun q => h ((iI_lt ha ha2 hb hb2).mp q)), Int.max_eq_left (by omega)]
/-- all of the first n -/
def allN (p : Nat → Bool) : Nat → Bool
  | 0 => true
  | n + 1 => allN p n && p n
theorem allN_iff {p : Nat → Bool} : ∀ {n : Nat}, allN p n = true ↔ ∀ k, k < n → p k = true
  | 0 => ⟨fun _ k hk => absurd hk (Nat.not_lt_zero k), fun _ => rfl⟩
  | n + 1 => by
    rw [allN, Bool.and_eq_true, allN_iff]
    refine ⟨fun h k hk => ?_, fun h => ⟨fun k hk => h k (by omega), h n (by omega)⟩⟩
    rcases Nat.lt_or_ge k n with q | q
    · exact h.1 k q
    · rw [show k = n by omega]; exact h.2
/-- some of the first n -/
def anyN (p : Nat → Bool) : Nat → Bool
  | 0 => false
  | n + 1 => anyN p n || p n
theorem anyN_iff {p : Nat → Bool} : ∀ {n : Nat}, anyN p n = true ↔ ∃ k, k < n ∧ p k = true
  | 0 => ⟨fun h => (by cases h), fun ⟨k, h, _⟩ => absurd h (Nat.not_lt_zero k)⟩
  | n + 1 => by
    rw [anyN, Bool.or_eq_true, anyN_iff]
    refine ⟨fun h => ?_, fun ⟨k, h1, h2⟩ => ?_⟩
    · rcases h with ⟨k, h1, h2⟩ | h
      · exact ⟨k, by omega, h2⟩
      · exact ⟨n, by omega, h⟩
    · rcases Nat.lt_or_ge k n with q | q
      · exact Or.inl ⟨k, q, h2⟩
      · exact Or.inr (by rw [← show k = n by omega]; exact h2)
/-- how many of the first n -/
def cnt (p : Nat → Bool) : Nat → Nat
  | 0 => 0
  | n + 1 => cnt p n + if p n then 1 else 0
theorem cnt_le (p : Nat → Bool) : ∀ n, cnt p n ≤ n
  | 0 => Nat.le_refl 0
  | n + 1 => by have := cnt_le p n; rw [cnt]; split <;> omega
theorem cnt_congr {p q : Nat → Bool} : ∀ {n : Nat}, (∀ k, k < n → p k = q k) → cnt p n = cnt q n
  | 0, _ => rfl
  | n + 1, h => by rw [cnt, cnt, cnt_congr (fun k hk => h k (by omega)), h n (by omega)]
theorem cnt_not (p : Nat → Bool) : ∀ n, cnt p n + cnt (fun k => !p k) n = n
  | 0 => rfl
  | n + 1 => by
    have := cnt_not p n
    rw [cnt, cnt]
    cases p n <;> simp <;> omega
theorem cnt_false : ∀ n, cnt (fun _ => false) n = 0
  | 0 => rfl
  | n + 1 => by rw [cnt, cnt_false n]; rfl
theorem cnt_out {p : Nat → Bool} {m : Nat} : ∀ {n : Nat}, m ≤ n → (∀ k, m ≤ k → k < n → p k = false) → cnt p n = cnt p m
  | 0, h, _ => by rw [show m = 0 by omega]
  | n + 1, h, hp => by
    rcases Nat.lt_or_ge n m with q | q
    · rw [show m = n + 1 by omega]
    · rw [cnt, hp n q (by omega), cnt_out q (fun k h1 h2 => hp k h1 (by omega))]; rfl
theorem cnt_pos {p : Nat → Bool} {n : Nat} : 0 < cnt p n ↔ ∃ k, k < n ∧ p k = true := by
  induction n with
  | zero => exact ⟨fun h => absurd h (Nat.lt_irrefl 0), fun ⟨k, h, _⟩ => absurd h (Nat.not_lt_zero k)⟩
  | succ n ih =>
    rw [cnt]
    by_cases h : p n = true
    · rw [h]
      exact ⟨fun _ => ⟨n, by omega, h⟩, fun _ => by simp⟩
    · rw [if_neg h, Nat.add_zero, ih]
      refine ⟨fun ⟨k, h1, h2⟩ => ⟨k, by omega, h2⟩, fun ⟨k, h1, h2⟩ => ⟨k, ?_, h2⟩⟩
      rcases Nat.lt_or_ge k n with q | q
      · exact q
      · exact absurd (by rw [← show k = n by omega]; exact h2) h
/-- a sum -/
def smN (f : Nat → Nat) : Nat → Nat
  | 0 => 0
  | n + 1 => smN f n + f n
theorem smN_congr {f g : Nat → Nat} : ∀ {n : Nat}, (∀ k, k < n → f k = g k) → smN f n = smN g n
  | 0, _ => rfl
  | n + 1, h => by rw [smN, smN, smN_congr (fun k hk => h k (by omega)), h n (by omega)]
theorem smN_le {f : Nat → Nat} {c : Nat} : ∀ {n : Nat}, (∀ k, k < n → f k ≤ c) → smN f n ≤ n * c
  | 0, _ => Nat.zero_le _
  | n + 1, h => by
    have h1 := smN_le (f := f) (c := c) (n := n) (fun k hk => h k (by omega))
    have h2 := h n (by omega)
    rw [smN, Nat.succ_mul]
    omega
/-- a counted loop, upwards: from i, for d times more; the continuation sees the last values -/
theorem some_bind {α β : Type} (a : α) (k : α → Option β) : (some a).bind k = k a := rfl
