/-! Fractions in lowest terms. -/
theorem mod_half {x y : Nat} (h0 : 0 < y) (h : y < x) : 2 * (x % y) < x := by
  have h1 := Nat.div_add_mod x y
  have h2 : 1 ≤ x / y := Nat.div_pos (Nat.le_of_lt h) h0
  have h3 : y * 1 ≤ y * (x / y) := Nat.mul_le_mul_left _ h2
  have h4 := Nat.mod_lt x h0
  omega
theorem low_loop (g0 g1 g2 : Int32) (k39 : Int32 → Option Int32) : ∀ (k x y i f : Nat), y < 2 ^ k → x < 2 ^ 30 → y < 2 ^ 30 → i + 2 * k < 64 → 2 * k < f → fX4_lowestTerms_8 g0 g1 g2 k39 f (nI x) (nI y) (nI i) = k39 (nI (Nat.gcd y x)) := by
  intro k
  induction k with
  | zero =>
    intro x y i f h1 h2 h3 h4 h5
    obtain ⟨f, rfl⟩ : ∃ m, f = m + 1 := ⟨f - 1, by omega⟩
    have hy : y = 0 := by omega
    subst hy
    rw [fX4_lowestTerms_8, if_neg (show ¬ (64 : Int32) ≤ nI i from nI_ge (b := 64) (by omega) (by decide)), if_pos (show nI 0 = 0 from rfl), Nat.gcd_zero_left]
  | succ k ih =>
    intro x y i f h1 h2 h3 h4 h5
    obtain ⟨f, rfl⟩ : ∃ m, f = m + 1 := ⟨f - 1, by omega⟩
    rw [fX4_lowestTerms_8, if_neg (show ¬ (64 : Int32) ≤ nI i from nI_ge (b := 64) (by omega) (by decide))]
    by_cases hy : y = 0
    · subst hy
      rw [if_pos (show nI 0 = 0 from rfl), Nat.gcd_zero_left]
    · rw [if_neg (nI_ne0 (by omega) (by omega)), gd_nz (by omega) (by omega), nm_eq, nm_eq, nI_add1, pk_rem (by omega) (by omega) (by omega)]
      have hlt := Nat.mod_lt x (show 0 < y by omega)
      obtain ⟨f, rfl⟩ : ∃ m, f = m + 1 := ⟨f - 1, by omega⟩
      rw [fX4_lowestTerms_8, if_neg (show ¬ (64 : Int32) ≤ nI (i + 1) from nI_ge (b := 64) (by omega) (by decide)), Nat.gcd_rec]
      by_cases hz : x % y = 0
      · rw [hz, if_pos (show nI 0 = 0 from rfl), Nat.gcd_zero_left]
      · have hh := mod_half (x := y) (y := x % y) (by omega) hlt
        have e : 2 ^ (k + 1) = 2 * 2 ^ k := by rw [Nat.pow_succ, Nat.mul_comm]
        rw [if_neg (nI_ne0 (by omega) (by omega)), gd_nz (by omega) (by omega), nm_eq, nm_eq, nI_add1, pk_rem (by omega) (by omega) (by omega), ih (x % y) (y % (x % y)) (i + 1 + 1) f (by omega) (by omega) (by omega) (by omega) (by omega), Nat.gcd_rec (x % y) y]
theorem lowest_eq {a b : Nat} (ha : a < 2 ^ 28) (hb0 : 0 < b) (hb : b < 2 ^ 28) (u3 : Int32) : fX4_lowestTerms (nI a) (nI b) u3 = some (if u3 = 0 then nI (b / Nat.gcd a b) else nI (a / Nat.gcd a b)) := by
  have hg : 0 < Nat.gcd a b := Nat.gcd_pos_of_pos_right _ hb0
  have hl : Nat.gcd a b ≤ b := Nat.le_of_dvd hb0 (Nat.gcd_dvd_right a b)
  rw [fX4_lowestTerms, show (0 : Int32) = nI 0 from rfl, low_loop _ _ _ _ 28 b a 0 100000 ha (by omega) (by omega) (by decide) (by decide), if_neg (show ¬ nI (Nat.gcd a b) = nI 0 from nI_ne0 hg (by omega))]
  by_cases h : u3 = nI 0
  · rw [if_pos h, if_pos h, gd_nz hg (by omega), pk_div (by omega) hg (by omega)]
  · rw [if_neg h, if_neg h, gd_nz hg (by omega), pk_div (by omega) hg (by omega)]
theorem frac_loop (g0 g1 g2 : Int32) (k35 : Int32 → Option Int32) : ∀ (k x y f : Nat), y < 2 ^ k → x < 2 ^ 30 → y < 2 ^ 30 → 2 * k < f → fX5_fraction_14 g0 g1 g2 k35 f (nI x) (nI y) = k35 (nI (Nat.gcd y x)) := by
  intro k
  induction k with
  | zero =>
    intro x y f h1 h2 h3 h5
    obtain ⟨f, rfl⟩ : ∃ m, f = m + 1 := ⟨f - 1, by omega⟩
    have hy : y = 0 := by omega
    subst hy
    rw [fX5_fraction_14, if_pos (show nI 0 = 0 from rfl), Nat.gcd_zero_left]
  | succ k ih =>
    intro x y f h1 h2 h3 h5
    obtain ⟨f, rfl⟩ : ∃ m, f = m + 1 := ⟨f - 1, by omega⟩
    rw [fX5_fraction_14]
    by_cases hy : y = 0
    · subst hy
      rw [if_pos (show nI 0 = 0 from rfl), Nat.gcd_zero_left]
    · rw [if_neg (nI_ne0 (by omega) (by omega)), gd_nz (by omega) (by omega), nm_eq, pk_rem (by omega) (by omega) (by omega)]
      have hlt := Nat.mod_lt x (show 0 < y by omega)
      obtain ⟨f, rfl⟩ : ∃ m, f = m + 1 := ⟨f - 1, by omega⟩
      rw [fX5_fraction_14, Nat.gcd_rec]
      by_cases hz : x % y = 0
      · rw [hz, if_pos (show nI 0 = 0 from rfl), Nat.gcd_zero_left]
      · have hh := mod_half (x := y) (y := x % y) (by omega) hlt
        have e : 2 ^ (k + 1) = 2 * 2 ^ k := by rw [Nat.pow_succ, Nat.mul_comm]
        rw [if_neg (nI_ne0 (by omega) (by omega)), gd_nz (by omega) (by omega), nm_eq, pk_rem (by omega) (by omega) (by omega), ih (x % y) (y % (x % y)) f (by omega) (by omega) (by omega) (by omega), Nat.gcd_rec (x % y) y]
theorem frac_eq {a b : Nat} (ha : a < 2 ^ 28) (hb0 : 0 < b) (hb : b < 2 ^ 28) (u3 : Int32) : fX5_fraction (nI a) (nI b) u3 = some (if u3 = 0 then nI (b / Nat.gcd a b) else nI (a / Nat.gcd a b)) := by
  have hg : 0 < Nat.gcd a b := Nat.gcd_pos_of_pos_right _ hb0
  have hl : Nat.gcd a b ≤ b := Nat.le_of_dvd hb0 (Nat.gcd_dvd_right a b)
  rw [fX5_fraction, if_pos (nI_pos' (by omega)), frac_loop _ _ _ _ 28 a b 100000 hb (by omega) (by omega) (by decide), Nat.gcd_comm b a]
  by_cases h : u3 = 0
  · rw [if_pos h, if_pos h, gd_nz hg (by omega), pk_div (by omega) hg (by omega)]
  · rw [if_neg h, if_neg h, gd_nz hg (by omega), pk_div (by omega) hg (by omega)]
/-- equal fractions have the same lowest terms -/
theorem low_same {a b c d : Nat} (hb : 0 < b) (hd : 0 < d) (h : a * d = c * b) : a / Nat.gcd a b = c / Nat.gcd c d ∧ b / Nat.gcd a b = d / Nat.gcd c d := by
  have g1 : 0 < Nat.gcd a b := Nat.gcd_pos_of_pos_right _ hb
  have g2 : 0 < Nat.gcd c d := Nat.gcd_pos_of_pos_right _ hd
  obtain ⟨a', ha⟩ := Nat.gcd_dvd_left a b
  obtain ⟨b', hb'⟩ := Nat.gcd_dvd_right a b
  obtain ⟨c', hc⟩ := Nat.gcd_dvd_left c d
  obtain ⟨d', hd'⟩ := Nat.gcd_dvd_right c d
  have co1 : Nat.Coprime a' b' := by
    have := Nat.coprime_div_gcd_div_gcd g1
    rwa [Nat.div_eq_of_eq_mul_right g1 ha, Nat.div_eq_of_eq_mul_right g1 hb'] at this
  have co2 : Nat.Coprime c' d' := by
    have := Nat.coprime_div_gcd_div_gcd g2
    rwa [Nat.div_eq_of_eq_mul_right g2 hc, Nat.div_eq_of_eq_mul_right g2 hd'] at this
  rw [Nat.div_eq_of_eq_mul_right g1 ha, Nat.div_eq_of_eq_mul_right g1 hb', Nat.div_eq_of_eq_mul_right g2 hc, Nat.div_eq_of_eq_mul_right g2 hd']
  have e : a' * d' = c' * b' := by
    have h1 : (Nat.gcd a b * Nat.gcd c d) * (a' * d') = (Nat.gcd a b * Nat.gcd c d) * (c' * b') := by
      have h2 : (Nat.gcd a b * a') * (Nat.gcd c d * d') = (Nat.gcd c d * c') * (Nat.gcd a b * b') := by rw [← ha, ← hb', ← hc, ← hd']; exact h
      calc (Nat.gcd a b * Nat.gcd c d) * (a' * d') = (Nat.gcd a b * a') * (Nat.gcd c d * d') := by ac_rfl
        _ = (Nat.gcd c d * c') * (Nat.gcd a b * b') := h2
        _ = (Nat.gcd a b * Nat.gcd c d) * (c' * b') := by ac_rfl
    exact Nat.eq_of_mul_eq_mul_left (Nat.mul_pos g1 g2) h1
  have b0 : 0 < b' := Nat.pos_of_ne_zero (fun z => by rw [z, Nat.mul_zero] at hb'; omega)
  have d0 : 0 < d' := Nat.pos_of_ne_zero (fun z => by rw [z, Nat.mul_zero] at hd'; omega)
  have x1 : b' ∣ d' := co1.symm.dvd_of_dvd_mul_left ⟨c', by rw [e]; exact Nat.mul_comm _ _⟩
  have x2 : d' ∣ b' := co2.symm.dvd_of_dvd_mul_left ⟨a', by rw [← e]; exact Nat.mul_comm _ _⟩
  have x3 : b' = d' := Nat.dvd_antisymm x1 x2
  subst x3
  exact ⟨Nat.eq_of_mul_eq_mul_right b0 e, rfl⟩
