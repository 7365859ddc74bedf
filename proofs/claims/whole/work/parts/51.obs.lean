/-! Observations. -/
theorem nar_bool {b : Nat} (h : b ≤ 1) : vp_nar .boolean (nI b) = nI b := by
  have : b = 0 ∨ b = 1 := by omega
  rcases this with rfl | rfl <;> rfl
theorem add_eq {O : tO} {n : Nat} (h : O.2.2 = nI n) (hn : n ≤ 6) (u : Int32) {b : Nat} (hb : b ≤ 1) : fX3_add O u (nI b) = if n = 6 then some (0, O) else some (1, (upd O.1 n u, upd O.2.1 n (nI b), nI (n + 1))) := by
  rw [fX3_add, h, if_neg (nI_pos (by omega))]
  by_cases h9 : n = 6
  · rw [h9]
    rfl
  · rw [if_neg h9, if_pos (show nI n < (6 : Int32) from nI_lt (b := 6) (by omega) (by decide)), gd_inb (by omega) (by decide), gd_inb (by omega) (by decide), nm_eq, nI_add1, toN (by omega), nar_bool hb]
theorem find_c {S : tH} {g : tG} (hg : GG g) (hL : LL S.1 g) {a b : Nat} (ha : a < gN g) (hb : b ≤ 1) : fX4_find S (nI a) (nI b) = ((fX3_add S.2.2.2.2.2.2.2.1 (nI a) (nI b)).bind fun y6 => if y6.1 = 0 then some ((-4 : Int32), (S.1, S.2.1, S.2.2.1, S.2.2.2.1, S.2.2.2.2.1, S.2.2.2.2.2.1, S.2.2.2.2.2.2.1, y6.2, S.2.2.2.2.2.2.2.2.1, S.2.2.2.2.2.2.2.2.2)) else some (y6.2.2.2, (S.1, S.2.1, S.2.2.1, S.2.2.2.1, S.2.2.2.2.1, S.2.2.2.2.2.1, S.2.2.2.2.2.2.1, y6.2, S.2.2.2.2.2.2.2.2.1, S.2.2.2.2.2.2.2.2.2))) := by
  rw [fX4_find, hasCell_yes hg hL ha, some_bind, if_neg one_ne]
  have : b = 0 ∨ b = 1 := by omega
  rcases this with rfl | rfl
  · rw [if_pos (by rfl), if_neg (by decide)]
    rfl
  · rw [if_neg (by decide), if_pos (by rfl), if_pos (by rfl)]
    rfl
theorem do_find : stp_find Sim := by
  rintro S M ⟨g, hg, hL, hR, hT, ⟨n, h1, h2, h3, h4⟩, hV, hH, hr⟩ u1 u2
  have h36 := gN_le hg
  have sim : Sim S M := ⟨g, hg, hL, hR, hT, ⟨n, h1, h2, h3, h4⟩, hV, hH, hr⟩
  rcases pick_cell hg u1 with ⟨a, ha, rfl⟩ | ⟨h1, h2⟩
  · rcases upto u2 1 (by decide) with ⟨b, hb, rfl⟩ | ⟨hn, ho⟩
    · by_cases h9 : n = 6
      · apply mmI (r := -4)
        case h1 =>
          rw [find_c hg hL ha hb, add_eq h2 h1 _ hb, if_pos h9, some_bind]
          rfl
        case h2 => rw [fX5_find, isCell_yes hg hR ha, some_bind, if_neg one_ne, show (1 : Int64) = (nI 1).toInt64 from rfl, in_up hb (by decide), some_bind, if_neg one_ne, if_pos (show M.1.2.2.2.2.2.1 = 6 by rw [h3, h9]; rfl)]
        case h3 => exact sim
      · apply mmI (r := nI (n + 1))
        case h1 =>
          rw [find_c hg hL ha hb, add_eq h2 h1 _ hb, if_neg h9, some_bind]
          dsimp only
          rw [if_neg one_ne]
        case h2 =>
          rw [fX5_find, isCell_yes hg hR ha, some_bind, if_neg one_ne, show (1 : Int64) = (nI 1).toInt64 from rfl, in_up hb (by decide), some_bind, if_neg one_ne, if_neg (by rw [h3]; exact fun q => h9 ((nI_eq (b := 6) (by omega) (by decide)).mp q)), show gd (inb M.1.2.2.2.2.2.1 6) = fun k : Option (Int32 × tM) => k from funext (fun k => by rw [h3, gd_inb (by omega) (by decide)])]
          simp only [nm_eq, h3, nI_add1]
          rfl
        case h3 =>
          refine ⟨g, hg, hL, hR, hT, ⟨n + 1, by omega, rfl, rfl, fun k hk => ?_⟩, hV, hH, hr⟩
          show ∃ c b', c < 36 ∧ b' ≤ 1 ∧ upd S.2.2.2.2.2.2.2.1.1 n (nI a) k = nI c ∧ upd S.2.2.2.2.2.2.2.1.2.1 n (nI b) k = nI b' ∧ upd M.2.2.2.2.2.2.2.1 (nI n).toNatClampNeg (nI a) k = nI c ∧ upd M.2.2.2.2.2.2.2.2.1 (nI n).toNatClampNeg (nI b) k = nI b'
          rw [toN (by omega)]
          by_cases hk2 : k = n
          · subst hk2
            exact ⟨a, b, by omega, hb, pk_us, pk_us, pk_us, pk_us⟩
          · rw [pk_un hk2, pk_un hk2, pk_un hk2, pk_un hk2]
            exact h4 k (by omega)
    · refine ⟨-2, S, M, ?_, ?_, sim⟩
      · rw [fX4_find, hasCell_yes hg hL ha, some_bind, if_neg one_ne, if_neg (fun q => hn (by rw [q]; decide)), if_neg (fun q => hn (by rw [q]; decide))]
      · rw [fX5_find, isCell_yes hg hR ha, some_bind, if_neg one_ne, show (1 : Int64) = (nI 1).toInt64 from rfl, in_upno hn, some_bind]
        rfl
  · refine ⟨-1, S, M, ?_, ?_, sim⟩
    · rw [fX4_find, hasCell_no hg hL h2]
      rfl
    · rw [fX5_find, isCell_no hR h1]
      rfl
/-! which cells agree with all that was found -/
def obk (O : tO) (g : tG) (c k : Nat) : Bool := decide (O.2.1 k = if decide ((O.1 k).toNatClampNeg < gN g) && sees g c (gs g 0) (O.1 k).toNatClampNeg then 1 else 0)
def agF (O : tO) (g : tG) (c : Nat) : Nat → Nat → Bool
  | _, 0 => true
  | i, d + 1 => obk O g c i && agF O g c (i + 1) d
theorem cell_or {g : tG} (hg : GG g) {c : Nat} (hc : c < 36) (h : ¬ c < gN g) : ¬ (0 ≤ nI c ∧ nI c ≤ nI (gN g) - 1) := by
  have h36 := gN_le hg
  rcases pick_cell hg (nI c) with ⟨a, ha, e⟩ | ⟨h1, h2⟩
  · exact absurd ((nI_eq (by omega) (by omega)).mp e) (by omega)
  · exact h1
theorem agree_loop {S : tH} {g : tG} (hg : GG g) (hL : LL S.1 g) {n : Nat} (hn : n ≤ 6) (h2 : S.2.2.2.2.2.2.2.1.2.2 = nI n) (h4 : ∀ k, k < n → ∃ c b, c < 36 ∧ b ≤ 1 ∧ S.2.2.2.2.2.2.2.1.1 k = nI c ∧ S.2.2.2.2.2.2.2.1.2.1 k = nI b) {c : Nat} (hc : c < gN g) : ∀ (d i f : Nat), i + d = n → d < f → fX3_agreeFrom_10 S.2.2.2.2.2.2.2.1 S.1 (nI c) (nI (gs g 0)) (some 0) (some 1) f (nI i) = some (if agF S.2.2.2.2.2.2.2.1 g c i d then 1 else 0) := by
  have h36 := gN_le hg
  intro d
  induction d with
  | zero =>
    intro i f e1 e2
    obtain ⟨f, rfl⟩ : ∃ m, f = m + 1 := ⟨f - 1, by omega⟩
    rw [fX3_agreeFrom_10, h2, if_pos (nI_le (by omega) (by omega))]
    rfl
  | succ d ih =>
    intro i f e1 e2
    obtain ⟨f, rfl⟩ : ∃ m, f = m + 1 := ⟨f - 1, by omega⟩
    obtain ⟨x, b, hx, hb, k1, k2⟩ := h4 i (by omega)
    have ihh := ih (i + 1) f (by omega) (by omega)
    have hb2 : b = 0 ∨ b = 1 := by omega
    rw [fX3_agreeFrom_10, h2, if_neg (nI_ge (by omega) (by omega)), if_neg (show ¬ (6 : Int32) ≤ nI i from nI_ge (b := 6) (by omega) (by decide)), agF, obk, k1, k2, toN (show x < 2 ^ 31 by omega)]
    simp only [gd_inb (show i < 6 by omega) (show 6 < 2 ^ 31 by decide), toN (show i < 2 ^ 31 by omega), k1, k2, nm_eq, nI_add1, ihh]
    by_cases hx2 : x < gN g
    · rw [hasCell_yes hg hL hx2, some_bind, if_neg one_ne, canSee_eq hg hL hc hx2 (eye_le hg), some_bind, decide_eq_true hx2]
      cases sees g c (gs g 0) x <;> rcases hb2 with rfl | rfl <;> cases agF S.2.2.2.2.2.2.2.1 g c (i + 1) d <;> rfl
    · rw [hasCell_no hg hL (fun a ha e => hx2 (by rw [(nI_eq (by omega) (by omega)).mp e]; exact ha)), some_bind, if_pos rfl, decide_eq_false hx2]
      rcases hb2 with rfl | rfl <;> cases agF S.2.2.2.2.2.2.2.1 g c (i + 1) d <;> rfl
theorem magree_loop {S : tH} {M : tM} {g : tG} (hg : GG g) (hR : RR M.1 M.2.2.1 g) {n : Nat} (hn : n ≤ 6) (h3 : M.1.2.2.2.2.2.1 = nI n) (h4 : ∀ k, k < n → ∃ c b, c < 36 ∧ b ≤ 1 ∧ S.2.2.2.2.2.2.2.1.1 k = nI c ∧ S.2.2.2.2.2.2.2.1.2.1 k = nI b ∧ M.2.2.2.2.2.2.2.1 k = nI c ∧ M.2.2.2.2.2.2.2.2.1 k = nI b) {c : Nat} (hc : c < gN g) (g1 : Int64) (k113 : Int32 → Option Int64) : ∀ (d i f : Nat) (v : Bool), i + d = n → d < f → fX5_which_18 M g1 (nI c) k113 f (if v then 1 else 0) (nI i) = k113 (if v && agF S.2.2.2.2.2.2.2.1 g c i d then 1 else 0) := by
  have h36 := gN_le hg
  intro d
  induction d with
  | zero =>
    intro i f v e1 e2
    obtain ⟨f, rfl⟩ : ∃ m, f = m + 1 := ⟨f - 1, by omega⟩
    rw [fX5_which_18, h3, if_pos (nI_le (by omega) (by omega)), agF, Bool.and_true]
  | succ d ih =>
    intro i f v e1 e2
    obtain ⟨f, rfl⟩ : ∃ m, f = m + 1 := ⟨f - 1, by omega⟩
    obtain ⟨x, b, hx, hb, k1, k2, k3, k4⟩ := h4 i (by omega)
    have ih1 := ih (i + 1) f true (by omega) (by omega)
    have ih0 := ih (i + 1) f false (by omega) (by omega)
    rw [if_pos rfl, Bool.true_and] at ih1
    rw [if_neg (by decide), Bool.false_and] at ih0
    have hb2 : b = 0 ∨ b = 1 := by omega
    rw [fX5_which_18, h3, if_neg (nI_ge (by omega) (by omega)), agF, obk, k1, k2, toN (show x < 2 ^ 31 by omega)]
    simp only [gd_inb (show i < 6 by omega) (show 6 < 2 ^ 31 by decide), toN (show i < 2 ^ 31 by omega), k3, k4, nm_eq, nI_add1, ih1, ih0]
    by_cases hx2 : x < gN g
    · rw [isCell_yes hg hR hx2, some_bind, if_neg one_ne, show ((47 : Int32).toNatClampNeg) = 47 + 0 from rfl, hR.2.2.2.2.2.2 0 (by decide), isSeen_eq hg hR hc hx2 (eye_le hg), some_bind, decide_eq_true hx2]
      cases v <;> cases sees g c (gs g 0) x <;> rcases hb2 with rfl | rfl <;> cases agF S.2.2.2.2.2.2.2.1 g c (i + 1) d <;> rfl
    · rw [isCell_no hR (cell_or hg hx hx2), some_bind, if_pos rfl, decide_eq_false hx2]
      cases v <;> rcases hb2 with rfl | rfl <;> cases agF S.2.2.2.2.2.2.2.1 g c (i + 1) d <;> rfl
theorem or_bit (p : Nat → Bool) (i : Nat) : mk p i ||| 2 ^ i * (p i).toNat = mk p (i + 1) := by
  apply Nat.eq_of_testBit_eq
  intro k
  rw [Nat.testBit_or, mk_bit, mk_bit]
  cases hp : p i
  · rw [show 2 ^ i * (false).toNat = 0 from rfl, Nat.zero_testBit, Bool.or_false]
    by_cases h : k = i
    · subst h
      rw [hp, Bool.and_false, Bool.and_false]
    · rw [show decide (k < i) = decide (k < i + 1) from decide_eq_decide.mpr (by omega)]
  · rw [show 2 ^ i * (true).toNat = 2 ^ i from Nat.mul_one _, Nat.testBit_two_pow]
    by_cases h : k = i
    · subst h
      simp [hp]
    · rw [decide_eq_false (p := i = k) (fun q => h q.symm), Bool.or_false, show decide (k < i) = decide (k < i + 1) from decide_eq_decide.mpr (by omega)]
theorem which_loop {S : tH} {g : tG} (hg : GG g) (hL : LL S.1 g) {n : Nat} (hn : n ≤ 6) (h2 : S.2.2.2.2.2.2.2.1.2.2 = nI n) (h4 : ∀ k, k < n → ∃ c b, c < 36 ∧ b ≤ 1 ∧ S.2.2.2.2.2.2.2.1.1 k = nI c ∧ S.2.2.2.2.2.2.2.1.2.1 k = nI b) : ∀ (d c f : Nat), c + d = gN g → d < f → fX4_which_4 S (fun y => some y) f (lN (mk (fun c => agF S.2.2.2.2.2.2.2.1 g c 0 n) c)) (nI c) = some (lN (mk (fun c => agF S.2.2.2.2.2.2.2.1 g c 0 n) (gN g))) := by
  have h36 := gN_le hg
  intro d
  induction d with
  | zero =>
    intro c f e1 e2
    obtain ⟨f, rfl⟩ : ∃ m, f = m + 1 := ⟨f - 1, by omega⟩
    rw [fX4_which_4, fX1_cellCount, LL_N hL, some_bind, if_pos (nI_le (by omega) (by omega)), show c = gN g by omega]
  | succ d ih =>
    intro c f e1 e2
    obtain ⟨f, rfl⟩ : ∃ m, f = m + 1 := ⟨f - 1, by omega⟩
    have ihh := ih (c + 1) f (by omega) (by omega)
    have hag : fX3_agreeFrom S.2.2.2.2.2.2.2.1 S.1 (nI c) = some (if agF S.2.2.2.2.2.2.2.1 g c 0 n then 1 else 0) := by
      rw [fX3_agreeFrom, show ((0 : Int32).toNatClampNeg) = 0 from rfl, hL.2.2.2.2.2.2 0 (by decide), nm_eq]
      exact agree_loop hg hL hn h2 h4 (by omega) n 0 100000 (by omega) (by omega)
    rw [← or_bit] at ihh
    rw [fX4_which_4, fX1_cellCount, LL_N hL, some_bind, if_neg (nI_ge (by omega) (by omega)), hag, some_bind]
    cases h : agF S.2.2.2.2.2.2.2.1 g c 0 n
    · rw [if_pos (by rfl), nm_eq, nI_add1]
      rw [h, show 2 ^ c * (false).toNat = 0 from rfl, Nat.or_zero] at ihh
      exact ihh
    · rw [if_neg (by decide), nm_eq, nm_eq, nI_add1, one_shl (by omega), fb_orL]
      rw [h, show 2 ^ c * (true).toNat = 2 ^ c from Nat.mul_one _] at ihh
      exact ihh
theorem mwhich_loop {S : tH} {M : tM} {g : tG} (hg : GG g) (hR : RR M.1 M.2.2.1 g) {n : Nat} (hn : n ≤ 6) (h3 : M.1.2.2.2.2.2.1 = nI n) (h4 : ∀ k, k < n → ∃ c b, c < 36 ∧ b ≤ 1 ∧ S.2.2.2.2.2.2.2.1.1 k = nI c ∧ S.2.2.2.2.2.2.2.1.2.1 k = nI b ∧ M.2.2.2.2.2.2.2.1 k = nI c ∧ M.2.2.2.2.2.2.2.2.1 k = nI b) : ∀ (d c f : Nat), c + d = gN g → d < f → fX5_which_4 M (fun y => some y) f (lN (mk (fun c => agF S.2.2.2.2.2.2.2.1 g c 0 n) c)) (nI c) = some (lN (mk (fun c => agF S.2.2.2.2.2.2.2.1 g c 0 n) (gN g))) := by
  have h36 := gN_le hg
  intro d
  induction d with
  | zero =>
    intro c f e1 e2
    obtain ⟨f, rfl⟩ : ∃ m, f = m + 1 := ⟨f - 1, by omega⟩
    rw [fX5_which_4, cells_eq hR, some_bind, if_pos (nI_le (by omega) (by omega)), show c = gN g by omega]
  | succ d ih =>
    intro c f e1 e2
    obtain ⟨f, rfl⟩ : ∃ m, f = m + 1 := ⟨f - 1, by omega⟩
    have ihh := ih (c + 1) f (by omega) (by omega)
    rw [← or_bit] at ihh
    rw [fX5_which_4, cells_eq hR, some_bind, if_neg (nI_ge (by omega) (by omega))]
    refine (magree_loop (S := S) hg hR hn h3 h4 (by omega) _ _ n 0 100000 true (by omega) (by omega)).trans ?_
    rw [Bool.true_and]
    cases h : agF S.2.2.2.2.2.2.2.1 g c 0 n
    · rw [if_pos (by rfl), nm_eq, nm_eq, nI_add1, show (0 : Int64) = lN 0 from rfl, fb_orL]
      rw [h, show 2 ^ c * (false).toNat = 0 from rfl] at ihh
      exact ihh
    · rw [if_neg (by decide), nm_eq, nm_eq, nI_add1, one_shl (by omega), fb_orL]
      rw [h, show 2 ^ c * (true).toNat = 2 ^ c from Nat.mul_one _] at ihh
      exact ihh
theorem do_which : stp_which Sim := by
  rintro S M ⟨g, hg, hL, hR, hT, ⟨n, h1, h2, h3, h4⟩, hV, hH, hr⟩ _
  have h36 := gN_le hg
  refine ⟨lN (mk (fun c => agF S.2.2.2.2.2.2.2.1 g c 0 n) (gN g)), ?_, ?_⟩
  · rw [fX4_which]
    exact which_loop hg hL h1 h2 (fun k hk => by obtain ⟨c, b, q1, q2, q3, q4, -⟩ := h4 k hk; exact ⟨c, b, q1, q2, q3, q4⟩) (gN g) 0 100000 (by omega) (by omega)
  · rw [fX5_which]
    exact mwhich_loop (S := S) hg hR h1 h3 h4 (gN g) 0 100000 (by omega) (by omega)
