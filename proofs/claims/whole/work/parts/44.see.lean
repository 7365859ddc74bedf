/-! Who sees whom: the class. -/
/-- no step from k on blocks the line of n steps -/
def free (g : tG) (a r b n : Nat) (k : Nat) : Bool := decide (k = 0 ∨ exc g a r b n k ≤ 0)
def sees (g : tG) (a r b : Nat) : Bool := decide (dst (gw g) a b ≤ gs g 3) && allN (free g a r b (dst (gw g) a b)) (dst (gw g) a b)
theorem canSee_loop {L : tL} {g : tG} (hg : GG g) (hL : LL L g) {a r b n : Nat} (ha : a < gN g) (hb : b < gN g) (hr : r ≤ 99) (hn5 : n ≤ 5) (k45 k53 : Option Int32) : ∀ (d k f : Nat), k + d = n → 1 ≤ k → d < f → (∀ j, j < k → free g a r b n j = true) → fX1_canSee_24 L (nI a) (nI r) (nI b) (nI n) k45 k53 f (nI k) = if allN (free g a r b n) n = true then k53 else k45 := by
  intro d
  induction d with
  | zero =>
    intro k f h1 h2 h3 h4
    obtain ⟨f, rfl⟩ : ∃ m, f = m + 1 := ⟨f - 1, by omega⟩
    rw [fX1_canSee_24, if_pos (nI_le (by omega) (by omega)), if_pos (allN_iff.mpr (fun j hj => h4 j (by omega)))]
  | succ d ih =>
    intro k f h1 h2 h3 h4
    obtain ⟨f, rfl⟩ : ∃ m, f = m + 1 := ⟨f - 1, by omega⟩
    have hb1 := exc_bd hg (r := r) (n := n) (k := k) ha hb hr (by omega) hn5 (by omega)
    rw [fX1_canSee_24, if_neg (nI_ge (by omega) (by omega)), excess_eq hg hL ha hb hr (by omega) hn5 (by omega), some_bind]
    by_cases he : exc g a r b n k ≤ 0
    · rw [if_pos (show iI (exc g a r b n k) ≤ 0 from (iI_le (b := 0) (by omega) (by omega) (by decide) (by decide)).mpr he), nm_eq, nI_add1]
      refine ih (k + 1) f (by omega) (by omega) (by omega) (fun j hj => ?_)
      rcases Nat.lt_or_ge j k with q | q
      · exact h4 j q
      · rw [show j = k by omega]
        exact decide_eq_true (Or.inr he)
    · rw [if_neg (show ¬ iI (exc g a r b n k) ≤ 0 from fun q => he ((iI_le (b := 0) (by omega) (by omega) (by decide) (by decide)).mp q)), if_neg]
      intro h
      have := of_decide_eq_true (allN_iff.mp h k (by omega))
      omega
theorem canSee_eq {L : tL} {g : tG} (hg : GG g) (hL : LL L g) {a r b : Nat} (ha : a < gN g) (hb : b < gN g) (hr : r ≤ 99) : fX1_canSee L (nI a) (nI r) (nI b) = some (if sees g a r b then 1 else 0) := by
  have hd := dst_le hg ha hb
  have h9 := hg.2.2.2.2.2.2.1 3 (by decide)
  rw [fX1_canSee, distance_eq hg hL ha hb, some_bind, show ((3 : Int32).toNatClampNeg) = 3 from rfl, hL.2.2.2.2.2.2 3 (by decide)]
  unfold sees
  by_cases h : dst (gw g) a b ≤ gs g 3
  · rw [if_pos (nI_le h (by omega)), decide_eq_true h, Bool.true_and]
    by_cases h0 : dst (gw g) a b = 0
    · rw [h0, fX1_canSee_24, if_pos (show nI 0 ≤ (1 : Int32) from by decide)]
      rfl
    · rw [show (1 : Int32) = nI 1 from rfl, canSee_loop hg hL ha hb hr hd _ _ (dst (gw g) a b - 1) 1 100000 (by omega) (by decide) (by omega) (fun j hj => by rw [show j = 0 by omega]; rfl)]
      split <;> rfl
  · rw [if_neg (nI_ge (by omega) (by omega)), decide_eq_false h, Bool.false_and]
    rfl
/-! the first step that blocks -/
def firstB (g : tG) (a r b n : Nat) : Nat → Nat → Int32
  | _, 0 => -9
  | k, d + 1 => if exc g a r b n k ≤ 0 then firstB g a r b n (k + 1) d else nI k
theorem firstBlock_loop {L : tL} {g : tG} (hg : GG g) (hL : LL L g) {a r b n : Nat} (ha : a < gN g) (hb : b < gN g) (hr : r ≤ 99) (hn5 : n ≤ 5) : ∀ (d k f : Nat), k + d = n → 1 ≤ k → d < f → fX1_firstBlock_11 L (nI a) (nI r) (nI b) (nI n) (fun y => some y) (some (-9)) f (nI k) = some (firstB g a r b n k d) := by
  intro d
  induction d with
  | zero =>
    intro k f h1 h2 h3
    obtain ⟨f, rfl⟩ : ∃ m, f = m + 1 := ⟨f - 1, by omega⟩
    rw [fX1_firstBlock_11, if_pos (nI_le (by omega) (by omega))]
    rfl
  | succ d ih =>
    intro k f h1 h2 h3
    obtain ⟨f, rfl⟩ : ∃ m, f = m + 1 := ⟨f - 1, by omega⟩
    have hb1 := exc_bd hg (r := r) (n := n) (k := k) ha hb hr (by omega) hn5 (by omega)
    rw [fX1_firstBlock_11, if_neg (nI_ge (by omega) (by omega)), excess_eq hg hL ha hb hr (by omega) hn5 (by omega), some_bind, firstB]
    by_cases he : exc g a r b n k ≤ 0
    · rw [if_pos (show iI (exc g a r b n k) ≤ 0 from (iI_le (b := 0) (by omega) (by omega) (by decide) (by decide)).mpr he), nm_eq, nI_add1, if_pos he]
      exact ih (k + 1) f (by omega) (by omega) (by omega)
    · rw [if_neg (show ¬ iI (exc g a r b n k) ≤ 0 from fun q => he ((iI_le (b := 0) (by omega) (by omega) (by decide) (by decide)).mp q)), if_neg he]
theorem firstBlock_eq {L : tL} {g : tG} (hg : GG g) (hL : LL L g) {a r b : Nat} (ha : a < gN g) (hb : b < gN g) (hr : r ≤ 99) : fX1_firstBlock L (nI a) (nI r) (nI b) = some (firstB g a r b (dst (gw g) a b) 1 (dst (gw g) a b - 1)) := by
  have hd := dst_le hg ha hb
  rw [fX1_firstBlock, distance_eq hg hL ha hb, some_bind]
  by_cases h0 : dst (gw g) a b = 0
  · rw [h0, fX1_firstBlock_11, if_pos (show nI 0 ≤ (1 : Int32) from by decide)]
    rfl
  · rw [show (1 : Int32) = nI 1 from rfl]
    exact firstBlock_loop hg hL ha hb hr hd _ 1 100000 (by omega) (by decide) (by omega)
/-! the greatest -/
def mostE (g : tG) (a r b n : Nat) : Nat → Nat → Int → Int
  | _, 0, m => m
  | k, d + 1, m => mostE g a r b n (k + 1) d (max m (exc g a r b n k))
theorem mostE_bd {g : tG} (hg : GG g) {a r b n : Nat} (ha : a < gN g) (hb : b < gN g) (hr : r ≤ 99) (hn5 : n ≤ 5) : ∀ (d k : Nat) (m : Int), k + d = n → 1 ≤ k → -1000000 ≤ m → m ≤ 10000 → -1000000 ≤ mostE g a r b n k d m ∧ mostE g a r b n k d m ≤ 10000
  | 0, k, m, _, _, h3, h4 => ⟨h3, h4⟩
  | d + 1, k, m, h1, h2, h3, h4 => by
    have hb1 := exc_bd hg (r := r) (n := n) (k := k) ha hb hr (by omega) hn5 (by omega)
    exact mostE_bd hg ha hb hr hn5 d (k + 1) _ (by omega) (by omega) (by omega) (by omega)
theorem greatest_loop {L : tL} {g : tG} (hg : GG g) (hL : LL L g) {a r b n : Nat} (ha : a < gN g) (hb : b < gN g) (hr : r ≤ 99) (hn5 : n ≤ 5) : ∀ (d k f : Nat) (m : Int), k + d = n → 1 ≤ k → d < f → -1000000 ≤ m → m ≤ 10000 → fX1_greatestExcess_23 L (nI a) (nI r) (nI b) (nI n) (fun y => some y) f (iI m) (nI k) = some (iI (mostE g a r b n k d m)) := by
  intro d
  induction d with
  | zero =>
    intro k f m h1 h2 h3 h4 h5
    obtain ⟨f, rfl⟩ : ∃ m, f = m + 1 := ⟨f - 1, by omega⟩
    rw [fX1_greatestExcess_23, if_pos (nI_le (by omega) (by omega))]
    rfl
  | succ d ih =>
    intro k f m h1 h2 h3 h4 h5
    obtain ⟨f, rfl⟩ : ∃ m, f = m + 1 := ⟨f - 1, by omega⟩
    have hb1 := exc_bd hg (r := r) (n := n) (k := k) ha hb hr (by omega) hn5 (by omega)
    rw [fX1_greatestExcess_23, if_neg (nI_ge (by omega) (by omega)), excess_eq hg hL ha hb hr (by omega) hn5 (by omega), some_bind, nm_eq, nm_eq, max_iI (by omega) (by omega) (by omega) (by omega), nI_add1]
    exact ih (k + 1) f _ (by omega) (by omega) (by omega) (by omega) (by omega)
theorem greatest_eq {L : tL} {g : tG} (hg : GG g) (hL : LL L g) {a r b : Nat} (ha : a < gN g) (hb : b < gN g) (hr : r ≤ 99) (hn : 2 ≤ dst (gw g) a b) : fX1_greatestExcess L (nI a) (nI r) (nI b) = some (iI (mostE g a r b (dst (gw g) a b) 1 (dst (gw g) a b - 1) (-1000000))) := by
  have hd := dst_le hg ha hb
  have hb1 := exc_bd hg (r := r) (n := dst (gw g) a b) (k := 1) ha hb hr (by omega) hd (by omega)
  rw [fX1_greatestExcess, distance_eq hg hL ha hb, some_bind, show (1 : Int32) = nI 1 from rfl, excess_eq hg hL ha hb hr (by omega) hd (by omega), some_bind, show (2 : Int32) = nI 2 from rfl, greatest_loop hg hL ha hb hr hd (dst (gw g) a b - 2) 2 100000 _ (by omega) (by decide) (by omega) (by omega) (by omega), show dst (gw g) a b - 1 = (dst (gw g) a b - 2) + 1 by omega, mostE, show max (-1000000 : Int) (exc g a r b (dst (gw g) a b) 1) = exc g a r b (dst (gw g) a b) 1 by omega]
/-! the rise that is needed -/
def needR (g : tG) (a b : Nat) : Nat → Nat → Int32
  | _, 0 => -9
  | r, d + 1 => if sees g a r b then nI r else needR g a b (r + 1) d
theorem needed_loop {L : tL} {g : tG} (hg : GG g) (hL : LL L g) {a b : Nat} (ha : a < gN g) (hb : b < gN g) : ∀ (d r f : Nat), r + d = 100 → d < f → fX1_neededRise_2 L (nI a) (nI b) (fun y => some y) (some (-9)) f (nI r) = some (needR g a b r d) := by
  intro d
  induction d with
  | zero =>
    intro r f h1 h2
    obtain ⟨f, rfl⟩ : ∃ m, f = m + 1 := ⟨f - 1, by omega⟩
    rw [fX1_neededRise_2, if_pos (show (99 : Int32) < nI r from nI_lt (a := 99) (by omega) (by omega))]
    rfl
  | succ d ih =>
    intro r f h1 h2
    obtain ⟨f, rfl⟩ : ∃ m, f = m + 1 := ⟨f - 1, by omega⟩
    rw [fX1_neededRise_2, if_neg (show ¬ (99 : Int32) < nI r from nI_nlt (b := r) (a := 99) (by omega) (by decide)), canSee_eq hg hL ha hb (by omega), some_bind, needR]
    cases hs : sees g a r b
    · rw [if_pos (by rfl), nm_eq, nI_add1]
      exact ih (r + 1) f (by omega) (by omega)
    · rw [if_neg (by decide)]
      rfl
theorem neededRise_eq {L : tL} {g : tG} (hg : GG g) (hL : LL L g) {a b : Nat} (ha : a < gN g) (hb : b < gN g) : fX1_neededRise L (nI a) (nI b) = some (needR g a b 0 100) := by
  rw [fX1_neededRise]
  exact needed_loop hg hL ha hb 100 0 100000 (by decide) (by decide)
/-! views -/
theorem viewFrom_loop {L : tL} {g : tG} (hg : GG g) (hL : LL L g) {a r : Nat} (ha : a < gN g) (hr : r ≤ 99) (k43 : Int64 → Option Int64) : ∀ (d i f : Nat), i + d = gN g → d < f → fX1_viewFrom_5 L (nI a) (nI r) k43 f (lN (mk (sees g a r) i)) (nI i) = k43 (lN (mk (sees g a r) (gN g))) := by
  have h36 := gN_le hg
  intro d
  induction d with
  | zero =>
    intro i f h1 h2
    obtain ⟨f, rfl⟩ : ∃ m, f = m + 1 := ⟨f - 1, by omega⟩
    rw [fX1_viewFrom_5, LL_N hL, if_pos (nI_le (by omega) (by omega)), show i = gN g by omega]
  | succ d ih =>
    intro i f h1 h2
    obtain ⟨f, rfl⟩ : ∃ m, f = m + 1 := ⟨f - 1, by omega⟩
    have ihh := ih (i + 1) f (by omega) (by omega)
    rw [mk] at ihh
    rw [fX1_viewFrom_5, LL_N hL, if_neg (nI_ge (by omega) (by omega)), canSee_eq hg hL ha (by omega) hr, some_bind]
    cases hs : sees g a r i
    · rw [hs] at ihh
      rw [if_pos (by rfl), nm_eq, nI_add1]
      exact ihh
    · rw [hs] at ihh
      rw [if_neg (by decide), nm_eq, nm_eq, nI_add1, one_shl (by omega), fb_orL]
      exact ihh
theorem viewFrom_eq {L : tL} {g : tG} (hg : GG g) (hL : LL L g) {a r : Nat} (ha : a < gN g) (hr : r ≤ 99) : fX1_viewFrom L (nI a) (nI r) = some (lN (mk (sees g a r) (gN g))) := by
  have h36 := gN_le hg
  rw [fX1_viewFrom]
  exact viewFrom_loop hg hL ha hr _ (gN g) 0 100000 (by omega) (by omega)
/-- what tower t sees -/
def tsee (g : tG) (t c : Nat) : Bool := sees g (gc g t) (gr g t) c
theorem hasTower_eq {L : tL} {g : tG} (hg : GG g) (hL : LL L g) {t : Nat} (ht : t < gT g) : fX1_hasTower L (nI t) = some 1 := by
  have := hg.2.2.1
  rw [fX1_hasTower, if_neg (nI_pos (by omega)), hL.2.2.1, if_neg (nI_ge ht (by omega)), if_neg (show ¬ (5 : Int32) ≤ nI t from nI_ge (b := 5) (by omega) (by decide))]
theorem hasTower_no {L : tL} {g : tG} (hg : GG g) (hL : LL L g) {u : Int32} (h : ∀ t, t < gT g → u ≠ nI t) : fX1_hasTower L u = some 0 := by
  have := hg.2.2.1
  rw [fX1_hasTower, hL.2.2.1]
  by_cases h0 : u < 0
  · rw [if_pos h0]
  · rw [if_neg h0]
    by_cases h1 : nI (gT g) ≤ u
    · rw [if_pos h1]
    · obtain ⟨j, hj, rfl⟩ := (pk_ix u (n := gT g) (by omega)).resolve_left h0 |>.resolve_left h1
      exact absurd rfl (h j hj)
theorem towerView_eq {L : tL} {g : tG} (hg : GG g) (hL : LL L g) {t : Nat} (ht : t < gT g) : fX1_towerView L (nI t) = some (lN (mk (tsee g t) (gN g))) := by
  have h5 := hg.2.2.1
  have := hg.2.2.2.2.2.1 t ht
  rw [fX1_towerView, hasTower_eq hg hL ht, some_bind, if_neg (by decide), gd_inb (by omega) (by decide), gd_inb (by omega) (by decide), toN (by omega), hL.2.2.2.2.1 t ht, hL.2.2.2.2.2.1 t ht, viewFrom_eq hg hL (hg.2.2.2.2.1 t ht) (by omega)]
  rfl
/-! what no tower sees -/
def hid (g : tG) (n c : Nat) : Bool := !anyN (fun t => tsee g t c) n
theorem hidden_loop {L : tL} {g : tG} (hg : GG g) (hL : LL L g) (k58 : Int64 → Option Int64) : ∀ (d t f : Nat), t + d = gT g → d < f → fX1_hiddenSet_16 L k58 f (lN (mk (hid g t) (gN g))) (nI t) = k58 (lN (mk (hid g (gT g)) (gN g))) := by
  have h36 := gN_le hg
  have h5 := hg.2.2.1
  intro d
  induction d with
  | zero =>
    intro t f h1 h2
    obtain ⟨f, rfl⟩ : ∃ m, f = m + 1 := ⟨f - 1, by omega⟩
    rw [fX1_hiddenSet_16, hL.2.2.1, if_pos (nI_le (by omega) (by omega)), show t = gT g by omega]
  | succ d ih =>
    intro t f h1 h2
    obtain ⟨f, rfl⟩ : ∃ m, f = m + 1 := ⟨f - 1, by omega⟩
    have ht : t < gT g := by omega
    have hr := hg.2.2.2.2.2.1 t ht
    rw [fX1_hiddenSet_16, hL.2.2.1, if_neg (nI_ge ht (by omega)), if_neg (show ¬ (5 : Int32) ≤ nI t from nI_ge (b := 5) (by omega) (by decide)), gd_inb (by omega) (by decide), gd_inb (by omega) (by decide), toN (by omega), hL.2.2.2.2.1 t ht, hL.2.2.2.2.2.1 t ht, viewFrom_eq hg hL (hg.2.2.2.2.1 t ht) (by omega), some_bind, nm_eq, nm_eq, nI_add1, dif_l, mk_dif _ _ (by omega), ← ih (t + 1) f (by omega) (by omega)]
    congr 2
    exact mk_congr (fun c _ => by simp [hid, anyN, tsee, Bool.not_or])
theorem hiddenSet_eq {L : tL} {g : tG} (hg : GG g) (hL : LL L g) : fX1_hiddenSet L = some (lN (mk (hid g (gT g)) (gN g))) := by
  have h36 := gN_le hg
  have h5 := hg.2.2.1
  rw [fX1_hiddenSet, nm_eq, LL_N hL, one_shl (by omega), show (1 : Int64) = lN 1 from rfl, lN_sub (Nat.one_le_two_pow), mk_full, show (fun _ : Nat => true) = hid g 0 from funext (fun _ => rfl)]
  exact hidden_loop hg hL _ (gT g) 0 100000 (by omega) (by omega)
theorem seenAlone_loop {L : tL} {g : tG} (hg : GG g) (hL : LL L g) {u : Nat} (hu : u < gT g) (p : Nat → Bool) (k61 : Int64 → Option Int64) : ∀ (d t f : Nat), t + d = gT g → d < f → fX1_seenAlone_9 L (nI u) k61 f (lN (mk (fun c => p c && !anyN (fun e => decide (e ≠ u) && tsee g e c) t) (gN g))) (nI t) = k61 (lN (mk (fun c => p c && !anyN (fun e => decide (e ≠ u) && tsee g e c) (gT g)) (gN g))) := by
  have h36 := gN_le hg
  have h5 := hg.2.2.1
  intro d
  induction d with
  | zero =>
    intro t f h1 h2
    obtain ⟨f, rfl⟩ : ∃ m, f = m + 1 := ⟨f - 1, by omega⟩
    rw [fX1_seenAlone_9, hL.2.2.1, if_pos (nI_le (by omega) (by omega)), show t = gT g by omega]
  | succ d ih =>
    intro t f h1 h2
    obtain ⟨f, rfl⟩ : ∃ m, f = m + 1 := ⟨f - 1, by omega⟩
    have ht : t < gT g := by omega
    have hr := hg.2.2.2.2.2.1 t ht
    rw [fX1_seenAlone_9, hL.2.2.1, if_neg (nI_ge ht (by omega)), if_neg (show ¬ (5 : Int32) ≤ nI t from nI_ge (b := 5) (by omega) (by decide))]
    by_cases hu : t = u
    · subst hu
      rw [if_pos rfl, nm_eq, nI_add1, ← ih (t + 1) f (by omega) (by omega)]
      congr 2
      exact mk_congr (fun c _ => by simp [anyN])
    · rw [if_neg (fun q => hu ((nI_eq (by omega) (by omega)).mp q)), gd_inb (by omega) (by decide), gd_inb (by omega) (by decide), toN (by omega), hL.2.2.2.2.1 t ht, hL.2.2.2.2.2.1 t ht, viewFrom_eq hg hL (hg.2.2.2.2.1 t ht) (by omega), some_bind, nm_eq, nm_eq, nI_add1, dif_l, mk_dif _ _ (by omega), ← ih (t + 1) f (by omega) (by omega)]
      congr 2
      exact mk_congr (fun c _ => by simp [anyN, tsee, hu, Bool.not_or, Bool.and_assoc])
def alone (g : tG) (u c : Nat) : Bool := tsee g u c && !anyN (fun e => decide (e ≠ u) && tsee g e c) (gT g)
theorem seenAlone_eq {L : tL} {g : tG} (hg : GG g) (hL : LL L g) {u : Nat} (hu : u < gT g) : fX1_seenAlone L (nI u) = some (lN (mk (alone g u) (gN g))) := by
  have h5 := hg.2.2.1
  rw [fX1_seenAlone, towerView_eq hg hL hu, some_bind, mk_congr (p := tsee g u) (q := fun c => tsee g u c && !anyN (fun e => decide (e ≠ u) && tsee g e c) 0) (fun c _ => by simp [anyN])]
  exact seenAlone_loop hg hL hu (tsee g u) _ (gT g) 0 100000 (by omega) (by omega)
/-! the towers on a cell: a set of at most five bits, the same steps in both -/
def towI (g : tG) (c : Nat) : Nat → Int32
  | 0 => 0
  | t + 1 => if gc g t = c then towI g c t ||| ((1 : Int32) <<< (nI t &&& 31)) else towI g c t
theorem towersOn_loop {L : tL} {g : tG} (hg : GG g) (hL : LL L g) {c : Nat} (hc : c < gN g) (k39 : Int32 → Option Int32) : ∀ (d t f : Nat), t + d = gT g → d < f → fX1_towersOn_4 L (nI c) k39 f (towI g c t) (nI t) = k39 (towI g c (gT g)) := by
  have h36 := gN_le hg
  have h5 := hg.2.2.1
  intro d
  induction d with
  | zero =>
    intro t f h1 h2
    obtain ⟨f, rfl⟩ : ∃ m, f = m + 1 := ⟨f - 1, by omega⟩
    rw [fX1_towersOn_4, hL.2.2.1, if_pos (nI_le (by omega) (by omega)), show t = gT g by omega]
  | succ d ih =>
    intro t f h1 h2
    obtain ⟨f, rfl⟩ : ∃ m, f = m + 1 := ⟨f - 1, by omega⟩
    have ht : t < gT g := by omega
    have hcc := hg.2.2.2.2.1 t ht
    have ihh := ih (t + 1) f (by omega) (by omega)
    rw [towI] at ihh
    rw [fX1_towersOn_4, hL.2.2.1, if_neg (nI_ge ht (by omega)), if_neg (show ¬ (5 : Int32) ≤ nI t from nI_ge (b := 5) (by omega) (by decide)), gd_inb (by omega) (by decide), toN (by omega), hL.2.2.2.2.1 t ht]
    by_cases h : gc g t = c
    · rw [if_pos h] at ihh
      rw [if_pos (by rw [h]), nm_eq, nm_eq, nI_add1]
      exact ihh
    · rw [if_neg h] at ihh
      rw [if_neg (fun q => h ((nI_eq (by omega) (by omega)).mp q)), nm_eq, nI_add1]
      exact ihh
theorem towersOn_eq {L : tL} {g : tG} (hg : GG g) (hL : LL L g) {c : Nat} (hc : c < gN g) : fX1_towersOn L (nI c) = some (towI g c (gT g)) := by
  have h5 := hg.2.2.1
  rw [fX1_towersOn]
  exact towersOn_loop hg hL hc _ (gT g) 0 100000 (by omega) (by omega)
/-! how many towers see a cell -/
theorem watchersOf_loop {L : tL} {g : tG} (hg : GG g) (hL : LL L g) {c : Nat} (hc : c < gN g) (k46 : Int32 → Option Int32) : ∀ (d t f : Nat), t + d = gT g → d < f → fX1_watchersOf_4 L (nI c) k46 f (nI (cnt (fun e => tsee g e c) t)) (nI t) = k46 (nI (cnt (fun e => tsee g e c) (gT g))) := by
  have h36 := gN_le hg
  have h5 := hg.2.2.1
  intro d
  induction d with
  | zero =>
    intro t f h1 h2
    obtain ⟨f, rfl⟩ : ∃ m, f = m + 1 := ⟨f - 1, by omega⟩
    rw [fX1_watchersOf_4, hL.2.2.1, if_pos (nI_le (by omega) (by omega)), show t = gT g by omega]
  | succ d ih =>
    intro t f h1 h2
    obtain ⟨f, rfl⟩ : ∃ m, f = m + 1 := ⟨f - 1, by omega⟩
    have ht : t < gT g := by omega
    have hr := hg.2.2.2.2.2.1 t ht
    have ihh := ih (t + 1) f (by omega) (by omega)
    rw [cnt] at ihh
    rw [fX1_watchersOf_4, hL.2.2.1, if_neg (nI_ge ht (by omega)), if_neg (show ¬ (5 : Int32) ≤ nI t from nI_ge (b := 5) (by omega) (by decide)), gd_inb (by omega) (by decide), gd_inb (by omega) (by decide), toN (by omega), hL.2.2.2.2.1 t ht, hL.2.2.2.2.2.1 t ht, canSee_eq hg hL (hg.2.2.2.2.1 t ht) hc (by omega), some_bind]
    cases hs : sees g (gc g t) (gr g t) c
    · rw [show tsee g t c = false from hs] at ihh
      rw [if_pos (by rfl), nm_eq, nI_add1]
      exact ihh
    · rw [show tsee g t c = true from hs] at ihh
      rw [if_neg (by decide), nm_eq, nm_eq, nI_add1, nI_add1]
      exact ihh
def wat (g : tG) (c : Nat) : Nat := cnt (fun e => tsee g e c) (gT g)
theorem watchersOf_eq {L : tL} {g : tG} (hg : GG g) (hL : LL L g) {c : Nat} (hc : c < gN g) : fX1_watchersOf L (nI c) = some (nI (wat g c)) := by
  have h5 := hg.2.2.1
  rw [fX1_watchersOf]
  exact watchersOf_loop hg hL hc _ (gT g) 0 100000 (by omega) (by omega)
