/-! Places for one tower more, and for two. -/
def setV (S : tH) (V : tB) : tH := (S.1, S.2.1, S.2.2.1, S.2.2.2.1, S.2.2.2.2.1, S.2.2.2.2.2.1, S.2.2.2.2.2.2.1, S.2.2.2.2.2.2.2.1, V, S.2.2.2.2.2.2.2.2.2)
def setVM (M : tM) (V : tB) : tM := (M.1, M.2.1, M.2.2.1, M.2.2.2.1, M.2.2.2.2.1, M.2.2.2.2.2.1, M.2.2.2.2.2.2.1, M.2.2.2.2.2.2.2.1, M.2.2.2.2.2.2.2.2.1, M.2.2.2.2.2.2.2.2.2.1, M.2.2.2.2.2.2.2.2.2.2.1, V, M.2.2.2.2.2.2.2.2.2.2.2.2)
theorem fill_loop {S : tH} {g : tG} (hg : GG g) (hL : LL S.1 g) {r : Nat} (hr : r ≤ 9) (k43 : tH → Option tH) : ∀ (d i f : Nat) (V : tB), i + d = gN g → d < f → (∀ k, k < i → V k = lN (mk (sees g k r) (gN g))) → ∃ V', fX4_fillViews_2 (nI r) k43 f (nI i) (setV S V) = k43 (setV S V') ∧ ∀ k, k < gN g → V' k = lN (mk (sees g k r) (gN g)) := by
  have h36 := gN_le hg
  intro d
  induction d with
  | zero =>
    intro i f V h1 h2 hV
    obtain ⟨f, rfl⟩ : ∃ m, f = m + 1 := ⟨f - 1, by omega⟩
    refine ⟨V, ?_, fun k hk => hV k (by omega)⟩
    rw [fX4_fillViews_2, show (setV S V).1 = S.1 from rfl, fX1_cellCount, LL_N hL, some_bind, if_pos (nI_le (by omega) (by omega))]
  | succ d ih =>
    intro i f V h1 h2 hV
    obtain ⟨f, rfl⟩ : ∃ m, f = m + 1 := ⟨f - 1, by omega⟩
    obtain ⟨V', e, hV'⟩ := ih (i + 1) f (vp_updL V i (lN (mk (sees g i r) (gN g)))) (by omega) (by omega) (fun k hk => by
      by_cases hki : k = i
      · subst hki; exact pk_uLs
      · rw [pk_uLn hki]; exact hV k (by omega))
    refine ⟨V', ?_, hV'⟩
    rw [fX4_fillViews_2, show (setV S V).1 = S.1 from rfl, fX1_cellCount, LL_N hL, some_bind, if_neg (nI_ge (by omega) (by omega)), if_neg (show ¬ (36 : Int32) ≤ nI i from nI_ge (b := 36) (by omega) (by decide)), viewFrom_eq hg hL (by omega) (by omega), some_bind, gd_inb (by omega) (by decide), nm_eq, nI_add1, toN (by omega)]
    exact e
theorem fill_eq {S : tH} {g : tG} (hg : GG g) (hL : LL S.1 g) {r : Nat} (hr : r ≤ 9) : ∃ V', fX4_fillViews S (nI r) = some (setV S V') ∧ ∀ k, k < gN g → V' k = lN (mk (sees g k r) (gN g)) := by
  have h36 := gN_le hg
  exact fill_loop hg hL hr _ (gN g) 0 100000 S.2.2.2.2.2.2.2.2.1 (by omega) (by omega) (fun k hk => by omega)
theorem lay_loop {M : tM} {g : tG} (hg : GG g) (hR : RR M.1 M.2.2.1 g) {r : Nat} (hr : r ≤ 9) (k32 : tM → Option tM) : ∀ (d i f : Nat) (V : tB), i + d = gN g → d < f → (∀ k, k < i → V k = lN (mk (sees g k r) (gN g))) → ∃ V', fX5_layViews_2 (nI r) k32 f (nI i) (setVM M V) = k32 (setVM M V') ∧ ∀ k, k < gN g → V' k = lN (mk (sees g k r) (gN g)) := by
  have h36 := gN_le hg
  intro d
  induction d with
  | zero =>
    intro i f V h1 h2 hV
    obtain ⟨f, rfl⟩ : ∃ m, f = m + 1 := ⟨f - 1, by omega⟩
    refine ⟨V, ?_, fun k hk => hV k (by omega)⟩
    rw [fX5_layViews_2, show (setVM M V).1 = M.1 from rfl, cells_eq hR, some_bind, if_pos (nI_le (by omega) (by omega))]
  | succ d ih =>
    intro i f V h1 h2 hV
    obtain ⟨f, rfl⟩ : ∃ m, f = m + 1 := ⟨f - 1, by omega⟩
    obtain ⟨V', e, hV'⟩ := ih (i + 1) f (vp_updL V i (lN (mk (sees g i r) (gN g)))) (by omega) (by omega) (fun k hk => by
      by_cases hki : k = i
      · subst hki; exact pk_uLs
      · rw [pk_uLn hki]; exact hV k (by omega))
    refine ⟨V', ?_, hV'⟩
    rw [fX5_layViews_2, show (setVM M V).1 = M.1 from rfl, cells_eq hR, some_bind, if_neg (nI_ge (by omega) (by omega)), show (setVM M V).2.2.1 = M.2.2.1 from rfl, viewOf_eq hg hR (by omega) (by omega), some_bind, gd_inb (by omega) (by decide), nm_eq, nI_add1, toN (by omega)]
    exact e
theorem lay_eq {M : tM} {g : tG} (hg : GG g) (hR : RR M.1 M.2.2.1 g) {r : Nat} (hr : r ≤ 9) : ∃ V', fX5_layViews M (nI r) = some (setVM M V') ∧ ∀ k, k < gN g → V' k = lN (mk (sees g k r) (gN g)) := by
  have h36 := gN_le hg
  exact lay_loop hg hR hr _ (gN g) 0 100000 M.2.2.2.2.2.2.2.2.2.2.2.1 (by omega) (by omega) (fun k hk => by omega)
/-- how many would be left hidden -/
def left1 (g : tG) (r c : Nat) : Nat := cnt (fun x => !(seenA g x || sees g c r x)) (gN g)
theorem left1_c {g : tG} (hg : GG g) (r c : Nat) : fJ13_bitCount_95d88 (lN (mk (hid g (gT g)) (gN g)) &&& (lN (mk (sees g c r) (gN g)) ^^^ (-1))) = some (nI (left1 g r c)) := by
  have h36 := gN_le hg
  rw [dif_l, mk_dif _ _ (by omega), bitCount_mk _ h36]
  congr 2
  exact cnt_congr (fun x _ => by rw [hid_seen, Bool.not_or])
theorem left1_m {g : tG} (hg : GG g) (r c : Nat) : ((fX5_ones (lN (mk (seenA g) (gN g)) ||| lN (mk (sees g c r) (gN g)))).bind fun q => some (nI (gN g) - q)) = some (nI (left1 g r c)) := by
  have h36 := gN_le hg
  rw [fb_orL, mk_or, ones_mk _ h36, some_bind, pk_sub (cnt_le _ _)]
  congr 2
  have := cnt_not (fun x => seenA g x || sees g c r x) (gN g)
  unfold left1
  omega
def bestF (g : tG) (r : Nat) : Nat → Nat × Nat
  | 0 => (0, 37)
  | c + 1 => if (bestF g r c).2 ≤ left1 g r c then bestF g r c else (c, left1 g r c)
theorem bestF_le {g : tG} (hg : GG g) (r : Nat) : ∀ c, (bestF g r c).2 ≤ 37 ∧ (bestF g r c).1 ≤ c
  | 0 => ⟨Nat.le_refl _, Nat.le_refl _⟩
  | c + 1 => by
    have h := bestF_le hg r c
    have h36 := gN_le hg
    have hl : left1 g r c ≤ gN g := cnt_le _ _
    rw [bestF]
    split
    · exact ⟨h.1, by omega⟩
    · exact ⟨by show left1 g r c ≤ 37; omega, by show c ≤ c + 1; omega⟩
theorem best_loop {S : tH} {g : tG} (hg : GG g) (hL : LL S.1 g) {r : Nat} (hr : r ≤ 9) (g2 : Int32) (k91 : Int32 → Int32 → Option Int32) : ∀ (d c f : Nat), c + d = gN g → d < f → fX4_best_37 S (nI r) g2 (lN (mk (hid g (gT g)) (gN g))) k91 f (nI (bestF g r c).1) (nI (bestF g r c).2) (nI c) = k91 (nI (bestF g r (gN g)).1) (nI (bestF g r (gN g)).2) := by
  have h36 := gN_le hg
  intro d
  induction d with
  | zero =>
    intro c f h1 h2
    obtain ⟨f, rfl⟩ : ∃ m, f = m + 1 := ⟨f - 1, by omega⟩
    rw [fX4_best_37, fX1_cellCount, LL_N hL, some_bind, if_pos (nI_le (by omega) (by omega)), show c = gN g by omega]
  | succ d ih =>
    intro c f h1 h2
    obtain ⟨f, rfl⟩ : ∃ m, f = m + 1 := ⟨f - 1, by omega⟩
    have hb := bestF_le hg r c
    have hl : left1 g r c ≤ gN g := cnt_le _ _
    have ihh := ih (c + 1) f (by omega) (by omega)
    rw [bestF] at ihh
    rw [fX4_best_37, fX1_cellCount, LL_N hL, some_bind, if_neg (nI_ge (by omega) (by omega)), viewFrom_eq hg hL (by omega) (by omega), some_bind, left1_c hg, some_bind]
    by_cases h : (bestF g r c).2 ≤ left1 g r c
    · rw [if_pos h] at ihh
      rw [if_pos (nI_le h (by omega)), nm_eq, nI_add1]
      exact ihh
    · rw [if_neg h] at ihh
      rw [if_neg (nI_ge (by omega) (by omega)), nm_eq, nI_add1]
      exact ihh
theorem mbest_loop {M : tM} {g : tG} (hg : GG g) (hR : RR M.1 M.2.2.1 g) {r : Nat} (hr : r ≤ 9) {V : tB} (hV : ∀ k, k < gN g → V k = lN (mk (sees g k r) (gN g))) (g2 : Int32) (k115 : Int32 → Int32 → Option (Int32 × tM)) : ∀ (d c f : Nat), c + d = gN g → d < f → fX5_best_49 (setVM M V) g2 (lN (mk (seenA g) (gN g))) k115 f (nI (bestF g r c).2) (nI (bestF g r c).1) (nI c) = k115 (nI (bestF g r (gN g)).2) (nI (bestF g r (gN g)).1) := by
  have h36 := gN_le hg
  intro d
  induction d with
  | zero =>
    intro c f h1 h2
    obtain ⟨f, rfl⟩ : ∃ m, f = m + 1 := ⟨f - 1, by omega⟩
    rw [fX5_best_49, show (setVM M V).1 = M.1 from rfl, cells_eq hR, some_bind, if_pos (nI_le (by omega) (by omega)), show c = gN g by omega]
  | succ d ih =>
    intro c f h1 h2
    obtain ⟨f, rfl⟩ : ∃ m, f = m + 1 := ⟨f - 1, by omega⟩
    have hb := bestF_le hg r c
    have hl : left1 g r c ≤ gN g := cnt_le _ _
    have ihh := ih (c + 1) f (by omega) (by omega)
    rw [bestF] at ihh
    obtain ⟨q, hq1, hq2⟩ := bd_some (left1_m hg r c)
    rw [fX5_best_49, show (setVM M V).1 = M.1 from rfl, cells_eq hR, some_bind, if_neg (nI_ge (by omega) (by omega)), some_bind, gd_inb (by omega) (by decide), toN (by omega), show (setVM M V).2.2.2.2.2.2.2.2.2.2.2.1 = V from rfl, hV c (by omega), hq1, some_bind, nm_eq, Option.some.inj hq2]
    by_cases h : (bestF g r c).2 ≤ left1 g r c
    · rw [if_pos h] at ihh
      rw [if_pos (nI_le h (by omega)), if_pos (nI_le h (by omega)), nm_eq, nI_add1]
      exact ihh
    · rw [if_neg h] at ihh
      rw [if_neg (nI_ge (by omega) (by omega)), if_neg (nI_ge (by omega) (by omega)), nm_eq, nI_add1]
      exact ihh
theorem do_best : stp_best Sim := by
  rintro S M ⟨g, hg, hL, hR, hT, hO, hV, hH, hr⟩ u1 u2
  have h36 := gN_le hg
  have sim : Sim S M := ⟨g, hg, hL, hR, hT, hO, hV, hH, hr⟩
  rcases upto u1 9 (by decide) with ⟨r, hr9, rfl⟩ | ⟨hn, ho⟩
  · rcases upto u2 1 (by decide) with ⟨v, hv, rfl⟩ | ⟨hn, ho⟩
    · obtain ⟨V, e, hVV⟩ := lay_eq hg hR hr9
      refine ⟨if nI v = 0 then nI (bestF g r (gN g)).1 else nI (bestF g r (gN g)).2, setVM M V, ?_, ?_, ⟨g, hg, hL, hR, hT, hO, hV, hH, hr⟩⟩
      · rw [fX4_best, isDigit_yes hr9, some_bind, if_neg one_ne, if_neg (nI_pos (by omega)), if_pos (show nI v ≤ (1 : Int32) from nI_le (b := 1) hv (by decide)), hiddenSet_eq hg hL, some_bind]
        refine (best_loop hg hL hr9 (nI v) _ (gN g) 0 100000 (by omega) (by omega)).trans ?_
        split <;> rfl
      · rw [fX5_best, show (9 : Int64) = (nI 9).toInt64 from rfl, in_up hr9 (by decide), some_bind, if_neg one_ne, show (1 : Int64) = (nI 1).toInt64 from rfl, in_up hv (by decide), some_bind, if_neg one_ne, e, some_bind, show (setVM M V).1 = M.1 from rfl, show (setVM M V).2.2.1 = M.2.2.1 from rfl, watchedAny_eq hg hR, some_bind]
        refine (mbest_loop hg hR hr9 hVV (nI v) _ (gN g) 0 100000 (by omega) (by omega)).trans ?_
        split <;> rfl
    · refine ⟨-2, M, ?_, ?_, sim⟩
      · rw [fX4_best, isDigit_yes hr9, some_bind, if_neg one_ne]
        rcases ho with ho | ho
        · rw [if_pos ho]
        · by_cases h0 : u2 < 0
          · rw [if_pos h0]
          · rw [if_neg h0, if_neg (show ¬ u2 ≤ (1 : Int32) from fun q => absurd ho (Int32.not_lt.mpr q))]
      · rw [fX5_best, show (9 : Int64) = (nI 9).toInt64 from rfl, in_up hr9 (by decide), some_bind, if_neg one_ne, show (1 : Int64) = (nI 1).toInt64 from rfl, in_upno hn, some_bind]
        rfl
  · refine ⟨-2, M, ?_, ?_, sim⟩
    · rw [fX4_best, isDigit_no ho]
      rfl
    · rw [fX5_best, show (9 : Int64) = (nI 9).toInt64 from rfl, in_upno hn, some_bind]
      rfl
/-! two -/
def left2 (g : tG) (r c e : Nat) : Nat := cnt (fun x => !(seenA g x || (sees g c r x || sees g e r x))) (gN g)
theorem left2_c {g : tG} (hg : GG g) (r c e : Nat) : fJ13_bitCount_95d88 (lN (mk (hid g (gT g)) (gN g)) &&& ((lN (mk (sees g c r) (gN g)) ||| lN (mk (sees g e r) (gN g))) ^^^ (-1))) = some (nI (left2 g r c e)) := by
  have h36 := gN_le hg
  rw [fb_orL, mk_or, dif_l, mk_dif _ _ (by omega), bitCount_mk _ h36]
  congr 2
  exact cnt_congr (fun x _ => by rw [hid_seen]; simp [Bool.not_or])
theorem left2_m {g : tG} (hg : GG g) (r c e : Nat) : ((fX5_ones ((lN (mk (seenA g) (gN g)) ||| lN (mk (sees g c r) (gN g))) ||| lN (mk (sees g e r) (gN g)))).bind fun q => some (nI (gN g) - q)) = some (nI (left2 g r c e)) := by
  have h36 := gN_le hg
  rw [fb_orL, mk_or, fb_orL, mk_or, ones_mk _ h36, some_bind, pk_sub (cnt_le _ _)]
  congr 2
  have h1 := cnt_not (fun x => seenA g x || sees g c r x || sees g e r x) (gN g)
  have h2 : left2 g r c e = cnt (fun k => !(seenA g k || sees g c r k || sees g e r k)) (gN g) := cnt_congr (fun x _ => by rw [Bool.or_assoc])
  rw [h2]
  omega
/-- the best pair among the first k, as the reference numbers pairs -/
def twoF (g : tG) (r : Nat) : Nat → Nat × Nat
  | 0 => (0, 37)
  | k + 1 => if k % gN g < k / gN g then twoF g r k else if (twoF g r k).2 ≤ left2 g r (k / gN g) (k % gN g) then twoF g r k else (k, left2 g r (k / gN g) (k % gN g))
theorem twoF_le {g : tG} (hg : GG g) (r : Nat) : ∀ k, (twoF g r k).2 ≤ 37 ∧ (twoF g r k).1 ≤ k
  | 0 => ⟨Nat.le_refl _, Nat.le_refl _⟩
  | k + 1 => by
    have h := twoF_le hg r k
    have h36 := gN_le hg
    have hl : left2 g r (k / gN g) (k % gN g) ≤ gN g := cnt_le _ _
    rw [twoF]
    split
    · exact ⟨h.1, by omega⟩
    · split
      · exact ⟨h.1, by omega⟩
      · exact ⟨by show left2 g r (k / gN g) (k % gN g) ≤ 37; omega, by show k ≤ k + 1; omega⟩
theorem mtwo_loop {M : tM} {g : tG} (hg : GG g) (hR : RR M.1 M.2.2.1 g) {r : Nat} (hr : r ≤ 9) {V : tB} (hV : ∀ k, k < gN g → V k = lN (mk (sees g k r) (gN g))) (g2 : Int32) (k155 : Int32 → Int32 → Option (Int32 × tM)) : ∀ (d k f : Nat), k + d = gN g * gN g → d < f → fX5_two_51 (setVM M V) g2 (lN (mk (seenA g) (gN g))) k155 f (nI (twoF g r k).2) (nI (twoF g r k).1) (nI k) = k155 (nI (twoF g r (gN g * gN g)).2) (nI (twoF g r (gN g * gN g)).1) := by
  have h36 := gN_le hg
  have h4 := gN_ge hg
  have hNN : gN g * gN g ≤ 36 * 36 := Nat.mul_le_mul h36 h36
  intro d
  induction d with
  | zero =>
    intro k f h1 h2
    obtain ⟨f, rfl⟩ : ∃ m, f = m + 1 := ⟨f - 1, by omega⟩
    rw [fX5_two_51, show (setVM M V).1 = M.1 from rfl, cells_eq hR, some_bind, some_bind, pk_mul, if_pos (nI_le (by omega) (by omega)), show k = gN g * gN g by omega]
  | succ d ih =>
    intro k f h1 h2
    obtain ⟨f, rfl⟩ : ∃ m, f = m + 1 := ⟨f - 1, by omega⟩
    have hb := twoF_le hg r k
    have hc : k / gN g < gN g := Nat.div_lt_of_lt_mul (by omega)
    have he : k % gN g < gN g := Nat.mod_lt _ (by omega)
    have hl : left2 g r (k / gN g) (k % gN g) ≤ gN g := cnt_le _ _
    have ihh := ih (k + 1) f (by omega) (by omega)
    rw [twoF] at ihh
    obtain ⟨q, hq1, hq2⟩ := bd_some (left2_m hg r (k / gN g) (k % gN g))
    rw [fX5_two_51, show (setVM M V).1 = M.1 from rfl, cells_eq hR, some_bind, some_bind, pk_mul, if_neg (nI_ge (by omega) (by omega)), some_bind, gd_nz (by omega) (by omega), nm_eq, some_bind, gd_nz (by omega) (by omega), nm_eq, pk_rem (by omega) (by omega) (by omega), pk_div (by omega) (by omega) (by omega)]
    by_cases hlt : k % gN g < k / gN g
    · rw [if_pos hlt] at ihh
      rw [if_pos (nI_lt hlt (by omega)), nm_eq, nI_add1]
      exact ihh
    · rw [if_neg hlt] at ihh
      rw [if_neg (nI_nlt (by omega) (by omega)), some_bind, gd_inb (by omega) (by decide), gd_inb (by omega) (by decide), toN (by omega), toN (by omega), show (setVM M V).2.2.2.2.2.2.2.2.2.2.2.1 = V from rfl, hV _ hc, hV _ he, hq1, some_bind, nm_eq, Option.some.inj hq2]
      by_cases h : (twoF g r k).2 ≤ left2 g r (k / gN g) (k % gN g)
      · rw [if_pos h] at ihh
        rw [if_pos (nI_le h (by omega)), if_pos (nI_le h (by omega)), nm_eq, nI_add1]
        exact ihh
      · rw [if_neg h] at ihh
        rw [if_neg (nI_ge (by omega) (by omega)), if_neg (nI_ge (by omega) (by omega)), nm_eq, nI_add1]
        exact ihh
/-- pairs in the wrong order are passed over -/
theorem twoF_skip {g : tG} (hg : GG g) (r a : Nat) : ∀ b, b ≤ a → b ≤ gN g → twoF g r (gN g * a + b) = twoF g r (gN g * a)
  | 0, _, _ => rfl
  | b + 1, h, h2 => by
    have h4 := gN_ge hg
    have e1 : (gN g * a + b) / gN g = a := by rw [Nat.mul_add_div (by omega), Nat.div_eq_of_lt (by omega)]; rfl
    have e2 : (gN g * a + b) % gN g = b := by rw [Nat.mul_add_mod, Nat.mod_eq_of_lt (by omega)]
    show twoF g r (gN g * a + b + 1) = _
    rw [twoF, e1, e2, if_pos (by omega), twoF_skip hg r a b (by omega) (by omega)]
theorem two_inner {S : tH} {g : tG} (hg : GG g) {r : Nat} (hr : r ≤ 9) {V : tB} (hV : ∀ k, k < gN g → V k = lN (mk (sees g k r) (gN g))) (g2 : Int32) {a : Nat} (ha : a < gN g) (k131 : Int32 → Int32 → Int32 → Option (Int32 × tH)) : ∀ (d b f : Nat), b + d = gN g → a ≤ b → d < f → fX4_two_73 (setV S V) g2 (lN (mk (hid g (gT g)) (gN g))) (nI (gN g)) (nI a) k131 f (nI ((twoF g r (gN g * a + b)).1 / gN g)) (nI ((twoF g r (gN g * a + b)).1 % gN g)) (nI (twoF g r (gN g * a + b)).2) (nI b) = k131 (nI ((twoF g r (gN g * a + gN g)).1 / gN g)) (nI ((twoF g r (gN g * a + gN g)).1 % gN g)) (nI (twoF g r (gN g * a + gN g)).2) := by
  have h36 := gN_le hg
  have h4 := gN_ge hg
  intro d
  induction d with
  | zero =>
    intro b f h1 h2 h3
    obtain ⟨f, rfl⟩ : ∃ m, f = m + 1 := ⟨f - 1, by omega⟩
    rw [fX4_two_73, if_pos (nI_le (by omega) (by omega)), show b = gN g by omega]
  | succ d ih =>
    intro b f h1 h2 h3
    obtain ⟨f, rfl⟩ : ∃ m, f = m + 1 := ⟨f - 1, by omega⟩
    have hb := twoF_le hg r (gN g * a + b)
    have hl : left2 g r a b ≤ gN g := cnt_le _ _
    have e1 : (gN g * a + b) / gN g = a := by rw [Nat.mul_add_div (by omega), Nat.div_eq_of_lt (by omega)]; rfl
    have e2 : (gN g * a + b) % gN g = b := by rw [Nat.mul_add_mod, Nat.mod_eq_of_lt (by omega)]
    have ihh := ih (b + 1) f (by omega) (by omega) (by omega)
    rw [show gN g * a + (b + 1) = (gN g * a + b) + 1 from rfl, twoF, e1, e2, if_neg (by omega)] at ihh
    rw [fX4_two_73, if_neg (nI_ge (by omega) (by omega)), gd_inb (by omega) (by decide), gd_inb (by omega) (by decide), toN (by omega), toN (by omega), show (setV S V).2.2.2.2.2.2.2.2.1 = V from rfl, hV a ha, hV b (by omega), left2_c hg, some_bind]
    by_cases h : (twoF g r (gN g * a + b)).2 ≤ left2 g r a b
    · rw [if_pos h] at ihh
      rw [if_pos (nI_le h (by omega)), nm_eq, nI_add1]
      exact ihh
    · rw [if_neg h] at ihh
      dsimp only at ihh
      rw [e1, e2] at ihh
      rw [if_neg (nI_ge (by omega) (by omega)), nm_eq, nI_add1]
      exact ihh
theorem two_outer {S : tH} {g : tG} (hg : GG g) {r : Nat} (hr : r ≤ 9) {V : tB} (hV : ∀ k, k < gN g → V k = lN (mk (sees g k r) (gN g))) (g2 : Int32) (k137 : Int32 → Int32 → Int32 → Option (Int32 × tH)) : ∀ (d a f : Nat), a + d = gN g → d < f → fX4_two_62 (setV S V) g2 (lN (mk (hid g (gT g)) (gN g))) (nI (gN g)) k137 f (nI ((twoF g r (gN g * a)).1 / gN g)) (nI ((twoF g r (gN g * a)).1 % gN g)) (nI (twoF g r (gN g * a)).2) (nI a) = k137 (nI ((twoF g r (gN g * gN g)).1 / gN g)) (nI ((twoF g r (gN g * gN g)).1 % gN g)) (nI (twoF g r (gN g * gN g)).2) := by
  have h36 := gN_le hg
  have h4 := gN_ge hg
  intro d
  induction d with
  | zero =>
    intro a f h1 h2
    obtain ⟨f, rfl⟩ : ∃ m, f = m + 1 := ⟨f - 1, by omega⟩
    rw [fX4_two_62, if_pos (nI_le (by omega) (by omega)), show a = gN g by omega]
  | succ d ih =>
    intro a f h1 h2
    obtain ⟨f, rfl⟩ : ∃ m, f = m + 1 := ⟨f - 1, by omega⟩
    have hs := twoF_skip hg r a a (Nat.le_refl a) (by omega)
    rw [fX4_two_62, if_neg (nI_ge (by omega) (by omega)), ← hs, two_inner hg hr hV g2 (by omega) _ (gN g - a) a 100000 (by omega) (Nat.le_refl a) (by omega), nm_eq, nI_add1, ← Nat.mul_succ]
    exact ih (a + 1) f (by omega) (by omega)
theorem do_two : stp_two Sim := by
  rintro S M ⟨g, hg, hL, hR, hT, hO, hV, hH, hr⟩ u1 u2
  have h36 := gN_le hg
  have h4 := gN_ge hg
  have hNN : gN g * gN g ≤ 36 * 36 := Nat.mul_le_mul h36 h36
  have sim : Sim S M := ⟨g, hg, hL, hR, hT, hO, hV, hH, hr⟩
  rcases upto u1 9 (by decide) with ⟨r, hr9, rfl⟩ | ⟨hn, ho⟩
  · rcases upto u2 2 (by decide) with ⟨v, hv, rfl⟩ | ⟨hn, ho⟩
    · obtain ⟨V, e, hVV⟩ := lay_eq hg hR hr9
      obtain ⟨V2, e2, hVV2⟩ := fill_eq hg hL hr9
      have hb := twoF_le hg r (gN g * gN g)
      refine ⟨if nI v = 0 then nI ((twoF g r (gN g * gN g)).1 / gN g) else if nI v = 1 then nI ((twoF g r (gN g * gN g)).1 % gN g) else nI (twoF g r (gN g * gN g)).2, setV S V2, setVM M V, ?_, ?_, ⟨g, hg, hL, hR, hT, hO, hV, hH, hr⟩⟩
      · rw [fX4_two, isDigit_yes hr9, some_bind, if_neg one_ne, if_neg (nI_pos (by omega)), if_pos (show nI v ≤ (2 : Int32) from nI_le (b := 2) hv (by decide)), e2, some_bind, show (setV S V2).1 = S.1 from rfl, hiddenSet_eq hg hL, some_bind, fX1_cellCount, LL_N hL, some_bind, nm_eq, if_neg (show ¬ (36 : Int32) < nI (gN g) from nI_nlt (a := 36) h36 (by decide))]
        have h00 : ∀ k137, fX4_two_62 (setV S V2) (nI v) (lN (mk (hid g (gT g)) (gN g))) (nI (gN g)) k137 100000 0 0 37 0 = k137 (nI ((twoF g r (gN g * gN g)).1 / gN g)) (nI ((twoF g r (gN g * gN g)).1 % gN g)) (nI (twoF g r (gN g * gN g)).2) := fun k137 => by
          have hh := two_outer (S := S) hg hr9 hVV2 (nI v) k137 (gN g) 0 100000 (by omega) (by omega)
          rw [Nat.mul_zero, twoF] at hh
          dsimp only at hh
          rw [Nat.zero_div, Nat.zero_mod] at hh
          exact hh
        refine (h00 _).trans ?_
        clear h00 e e2 hVV hVV2
        have hv3 : v = 0 ∨ v = 1 ∨ v = 2 := by omega
        rcases hv3 with h | h | h
        · rw [h, if_neg (by decide), if_pos (by rfl), if_pos (by rfl)]
        · rw [h, if_neg (by decide), if_neg (by decide), if_neg (by decide), if_pos (by rfl)]
        · rw [h, if_pos (by rfl), if_neg (by decide), if_neg (by decide)]
      · rw [fX5_two, show (9 : Int64) = (nI 9).toInt64 from rfl, in_up hr9 (by decide), some_bind, if_neg one_ne, show (2 : Int64) = (nI 2).toInt64 from rfl, in_up hv (by decide), some_bind, if_neg one_ne, e, some_bind, show (setVM M V).1 = M.1 from rfl, show (setVM M V).2.2.1 = M.2.2.1 from rfl, watchedAny_eq hg hR, some_bind]
        refine (mtwo_loop hg hR hr9 hVV (nI v) _ (gN g * gN g) 0 100000 (by omega) (by omega)).trans ?_
        simp only [cells_eq hR, some_bind, gd_nz (show 0 < gN g by omega) (show gN g < 2 ^ 31 by omega)]
        rw [pk_rem (by omega) (by omega) (by omega), pk_div (by omega) (by omega) (by omega)]
        repeat (first | rfl | split)
    · refine ⟨-2, S, M, ?_, ?_, sim⟩
      · rw [fX4_two, isDigit_yes hr9, some_bind, if_neg one_ne]
        rcases ho with ho | ho
        · rw [if_pos ho]
        · by_cases h0 : u2 < 0
          · rw [if_pos h0]
          · rw [if_neg h0, if_neg (show ¬ u2 ≤ (2 : Int32) from fun q => absurd ho (Int32.not_lt.mpr q))]
      · rw [fX5_two, show (9 : Int64) = (nI 9).toInt64 from rfl, in_up hr9 (by decide), some_bind, if_neg one_ne, show (2 : Int64) = (nI 2).toInt64 from rfl, in_upno hn, some_bind]
        rfl
  · refine ⟨-2, S, M, ?_, ?_, sim⟩
    · rw [fX4_two, isDigit_no ho]
      rfl
    · rw [fX5_two, show (9 : Int64) = (nI 9).toInt64 from rfl, in_upno hn, some_bind]
      rfl
