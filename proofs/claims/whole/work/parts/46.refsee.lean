theorem near_step {x y n k e : Nat} (hx : x ≤ 5) (hy : y ≤ 5) (hn : n ≤ 5) (hk : k < n) (he : e < 2) : ∃ r, fX5_nearest (nI k * (nI y - nI x)) (nI n) (nI e) = some r ∧ nI x + r = nI (rnd x y n k (1 - e)) := by
  have h := near_all x (by omega) y (by omega) n (by omega) k hk e he
  unfold nearZ at h
  obtain ⟨r, h1, h2⟩ := bd_some h
  exact ⟨r, h1, Option.some.inj h2⟩
theorem cellAt_eq {o : tMo} {w : tA} {g : tG} (hg : GG g) (hR : RR o w g) {a b k e : Nat} (ha : a < gN g) (hb : b < gN g) (hk : k < dst (gw g) a b) (he : e < 2) : fX5_cellAt o (nI a) (nI b) (nI k) (nI e) = some (nI (cel (gw g) a b (dst (gw g) a b) k (1 - e))) := by
  have h1 := hg.1
  have h2 := gN_le hg
  have hd := dst_le hg ha hb
  obtain ⟨r1, e1, q1⟩ := near_step (e := e) (col_le hg a) (col_le hg b) hd hk he
  obtain ⟨r2, e2, q2⟩ := near_step (e := e) (row_le hg ha) (row_le hg hb) hd hk he
  rw [fX5_cellAt, mdist_eq hg hR ha hb, some_bind, hR.1]
  simp only [gd_nz (show 0 < gw g by omega) (show gw g < 2 ^ 31 by omega)]
  rw [pk_rem (by omega) (by omega) (by omega), pk_rem (by omega) (by omega) (by omega), pk_div (by omega) (by omega) (by omega), pk_div (by omega) (by omega) (by omega), e1, some_bind, nm_eq, e2, some_bind, nm_eq, q1, q2, pk_mul, nI_add, Nat.mul_comm (gw g)]
  rfl
theorem overBy_eq {o : tMo} {w : tA} {g : tG} (hg : GG g) (hR : RR o w g) {a p b k e : Nat} (ha : a < gN g) (hb : b < gN g) (hk : k < dst (gw g) a b) (he : e < 2) : fX5_overBy o w (nI a) (nI p) (nI b) (nI k) (nI e) = some (nI (10 * dst (gw g) a b * gt g (cel (gw g) a b (dst (gw g) a b) k (1 - e)) + dst (gw g) a b * gs g 2 * k * (dst (gw g) a b - k)) - nI (10 * (p * (dst (gw g) a b - k) + (gt g b + gs g 1) * k))) := by
  have h2 := gN_le hg
  have hc := cel_lt hg (n := dst (gw g) a b) (e := 1 - e) ha hb (by omega) (Nat.le_of_lt hk)
  rw [fX5_overBy, mdist_eq hg hR ha hb, some_bind, cellAt_eq hg hR ha hb hk he, some_bind, gd_inb (by omega) (by decide), nm_eq, gd_inb (by omega) (by decide), nm_eq, toN (by omega), toN (by omega), show ((48 : Int32).toNatClampNeg) = 47 + 1 from rfl, show ((49 : Int32).toNatClampNeg) = 47 + 2 from rfl, hR.2.2.2.2.2.2 1 (by decide), hR.2.2.2.2.2.2 2 (by decide), hR.2.2.1 _ (by omega), hR.2.2.1 b (by omega), show (10 : Int32) = nI 10 from rfl, pk_sub (Nat.le_of_lt hk), nI_add]
  simp only [pk_mul, nI_add]
theorem over_eq {o : tMo} {w : tA} {g : tG} (hg : GG g) (hR : RR o w g) {a r b k : Nat} (ha : a < gN g) (hb : b < gN g) (hr : r ≤ 99) (hk : k < dst (gw g) a b) : fX5_over o w (nI a) (nI (gt g a + r)) (nI b) (nI k) = some (iI (exc g a r b (dst (gw g) a b) k)) := by
  have h2 := gN_le hg
  have hd := dst_le hg ha hb
  have c0 := cel_lt hg (n := dst (gw g) a b) (e := 0) ha hb (by omega) (Nat.le_of_lt hk)
  have c1 := cel_lt hg (n := dst (gw g) a b) (e := 1) ha hb (by omega) (Nat.le_of_lt hk)
  have m1 := hg.2.2.2.1 _ (Nat.lt_of_lt_of_le c0 h2)
  have m2 := hg.2.2.2.1 _ (Nat.lt_of_lt_of_le c1 h2)
  have hA := exA_le hg (n := dst (gw g) a b) (k := k) ha hb (by omega) hd (Nat.le_of_lt hk)
  have hB := exB_le hg (n := dst (gw g) a b) (k := k) ha hb hr hd (Nat.le_of_lt hk)
  rw [fX5_over, show (0 : Int32) = nI 0 from rfl, overBy_eq hg hR ha hb hk (by decide), some_bind, show (1 : Int32) = nI 1 from rfl, overBy_eq hg hR ha hb hk (by decide), some_bind, nI_sub, nI_sub]
  simp only [show 1 - 0 = 1 from rfl, show 1 - 1 = 0 from rfl]
  unfold exc exA exB at *
  generalize gt g (cel (gw g) a b (dst (gw g) a b) k 0) = u at *
  generalize gt g (cel (gw g) a b (dst (gw g) a b) k 1) = v at *
  have l1 : 10 * dst (gw g) a b * u ≤ 10 * dst (gw g) a b * max u v := Nat.mul_le_mul_left _ (Nat.le_max_left _ _)
  have l2 : 10 * dst (gw g) a b * v ≤ 10 * dst (gw g) a b * max u v := Nat.mul_le_mul_left _ (Nat.le_max_right _ _)
  by_cases h : v ≤ u
  · have l3 : 10 * dst (gw g) a b * v ≤ 10 * dst (gw g) a b * u := Nat.mul_le_mul_left _ h
    rw [if_pos ((iI_le (by omega) (by omega) (by omega) (by omega)).mpr (by omega)), Nat.max_eq_left h]
  · have l3 : 10 * dst (gw g) a b * u < 10 * dst (gw g) a b * v := Nat.mul_lt_mul_of_pos_left (by omega) (by omega)
    rw [if_neg (fun q => by have := (iI_le (by omega) (by omega) (by omega) (by omega)).mp q; omega), Nat.max_eq_right (by omega)]
theorem mostOver_loop {o : tMo} {w : tA} {g : tG} (hg : GG g) (hR : RR o w g) {a r b : Nat} (ha : a < gN g) (hb : b < gN g) (hr : r ≤ 99) (k54 : Int32 → Option Int32) : ∀ (d k f : Nat) (m : Int), k + d = dst (gw g) a b → 1 ≤ k → d < f → -1000000 ≤ m → m ≤ 10000 → fX5_mostOver_7 o w (nI a) (nI (gt g a + r)) (nI b) k54 f (iI m) (nI k) = k54 (iI (mostE g a r b (dst (gw g) a b) k d m)) := by
  have hd := dst_le hg ha hb
  intro d
  induction d with
  | zero =>
    intro k f m h1 h2 h3 h4 h5
    obtain ⟨f, rfl⟩ : ∃ m, f = m + 1 := ⟨f - 1, by omega⟩
    rw [fX5_mostOver_7, mdist_eq hg hR ha hb, some_bind, if_pos (nI_le (by omega) (by omega))]
    rfl
  | succ d ih =>
    intro k f m h1 h2 h3 h4 h5
    obtain ⟨f, rfl⟩ : ∃ m, f = m + 1 := ⟨f - 1, by omega⟩
    have hb1 := exc_bd hg (r := r) (n := dst (gw g) a b) (k := k) ha hb hr (by omega) hd (by omega)
    rw [fX5_mostOver_7, mdist_eq hg hR ha hb, some_bind, if_neg (nI_ge (by omega) (by omega)), over_eq hg hR ha hb hr (by omega), some_bind, mostE]
    by_cases h : exc g a r b (dst (gw g) a b) k ≤ m
    · rw [if_pos ((iI_le (by omega) (by omega) (by omega) (by omega)).mpr h), nm_eq, nI_add1, Int.max_eq_left h]
      exact ih (k + 1) f _ (by omega) (by omega) (by omega) (by omega) (by omega)
    · rw [if_neg (fun q => h ((iI_le (by omega) (by omega) (by omega) (by omega)).mp q)), nm_eq, nI_add1, Int.max_eq_right (by omega)]
      exact ih (k + 1) f _ (by omega) (by omega) (by omega) (by omega) (by omega)
theorem mostOver_eq {o : tMo} {w : tA} {g : tG} (hg : GG g) (hR : RR o w g) {a r b : Nat} (ha : a < gN g) (hb : b < gN g) (hr : r ≤ 99) : fX5_mostOver o w (nI a) (nI (gt g a + r)) (nI b) = some (iI (mostE g a r b (dst (gw g) a b) 1 (dst (gw g) a b - 1) (-1000000))) := by
  have hd := dst_le hg ha hb
  rw [fX5_mostOver, show (-1000000 : Int32) = iI (-1000000) from rfl]
  by_cases h0 : dst (gw g) a b = 0
  · rw [fX5_mostOver_7, mdist_eq hg hR ha hb, some_bind, h0, if_pos (show nI 0 ≤ (1 : Int32) from by decide)]
    rfl
  · rw [show (1 : Int32) = nI 1 from rfl]
    exact mostOver_loop hg hR ha hb hr _ _ 1 100000 _ (by omega) (by decide) (by omega) (by decide) (by decide)
theorem mostE_free {g : tG} {a r b n : Nat} : ∀ (d k : Nat) (m : Int), k + d = n → 1 ≤ k → (mostE g a r b n k d m ≤ 0 ↔ m ≤ 0 ∧ ∀ j, k ≤ j → j < n → exc g a r b n j ≤ 0)
  | 0, k, m, h, _ => ⟨fun q => ⟨q, fun j h1 h2 => by omega⟩, fun q => q.1⟩
  | d + 1, k, m, h, hk => by
    rw [mostE, mostE_free d (k + 1) _ (by omega) (by omega)]
    refine ⟨fun ⟨q1, q2⟩ => ⟨by omega, fun j h1 h2 => ?_⟩, fun ⟨q1, q2⟩ => ⟨?_, fun j h1 h2 => q2 j (by omega) h2⟩⟩
    · rcases Nat.lt_or_ge k j with z | z
      · exact q2 j z h2
      · rw [show j = k by omega]; omega
    · have := q2 k (Nat.le_refl k) (by omega)
      omega
theorem sees_self {g : tG} (hg : GG g) (a r : Nat) : sees g a r a = true := by
  have h : dst (gw g) a a = 0 := by unfold dst absd; omega
  unfold sees
  rw [h]
  have := hg.2.2.2.2.2.2.2
  simp [allN]
theorem isSeen_eq {o : tMo} {w : tA} {g : tG} (hg : GG g) (hR : RR o w g) {a r b : Nat} (ha : a < gN g) (hb : b < gN g) (hr : r ≤ 99) : fX5_isSeen o w (nI a) (nI r) (nI b) = some (if sees g a r b then 1 else 0) := by
  have h2 := gN_le hg
  have hd := dst_le hg ha hb
  have h9 := hg.2.2.2.2.2.2.1 3 (by decide)
  rw [fX5_isSeen]
  by_cases hab : a = b
  · subst hab
    rw [if_pos rfl, sees_self hg]
    rfl
  · rw [if_neg (fun q => hab ((nI_eq (by omega) (by omega)).mp q)), mdist_eq hg hR ha hb, some_bind, show ((50 : Int32).toNatClampNeg) = 47 + 3 from rfl, hR.2.2.2.2.2.2 3 (by decide)]
    unfold sees
    by_cases h : dst (gw g) a b ≤ gs g 3
    · have hm := mostE_bd hg (n := dst (gw g) a b) ha hb hr hd (dst (gw g) a b - 1) 1 (-1000000)
      rw [if_neg (nI_nlt h (by omega)), gd_inb (by omega) (by decide), toN (by omega), hR.2.2.1 a (by omega), nI_add, mostOver_eq hg hR ha hb hr, some_bind, decide_eq_true h, Bool.true_and]
      by_cases h0 : dst (gw g) a b = 0
      · rw [h0, show mostE g a r b 0 1 (0 - 1) (-1000000) = -1000000 from rfl, if_neg (show ¬ (0 : Int32) < iI (-1000000) from by decide)]
        rfl
      · have hm := hm (by omega) (by decide) (by decide) (by decide)
        have hf := mostE_free (g := g) (a := a) (r := r) (b := b) (n := dst (gw g) a b) (dst (gw g) a b - 1) 1 (-1000000) (by omega) (by decide)
        by_cases hq : mostE g a r b (dst (gw g) a b) 1 (dst (gw g) a b - 1) (-1000000) ≤ 0
        · rw [if_neg (show ¬ (0 : Int32) < iI _ from fun z => by have := (iI_lt (a := 0) (by decide) (by decide) (by omega) (by omega)).mp z; omega), if_pos (allN_iff.mpr (fun j hj => ?_))]
          by_cases hj0 : j = 0
          · exact decide_eq_true (Or.inl hj0)
          · exact decide_eq_true (Or.inr ((hf.mp hq).2 j (by omega) hj))
        · rw [if_pos (show (0 : Int32) < iI _ from (iI_lt (a := 0) (by decide) (by decide) (by omega) (by omega)).mpr (by omega)), if_neg]
          intro z
          refine hq (hf.mpr ⟨by decide, fun j h1 h2 => ?_⟩)
          have := of_decide_eq_true (allN_iff.mp z j h2)
          omega
    · rw [if_pos (nI_lt (by omega) (by omega)), decide_eq_false h, Bool.false_and]
      rfl
theorem viewOf_loop {o : tMo} {w : tA} {g : tG} (hg : GG g) (hR : RR o w g) {a r : Nat} (ha : a < gN g) (hr : r ≤ 99) (k46 : Int64 → Option Int64) : ∀ (d i f : Nat), i + d = gN g → d < f → fX5_viewOf_6 o w (nI a) (nI r) k46 f (lN (mk (sees g a r) i)) (nI i) = k46 (lN (mk (sees g a r) (gN g))) := by
  have h36 := gN_le hg
  intro d
  induction d with
  | zero =>
    intro i f h1 h2
    obtain ⟨f, rfl⟩ : ∃ m, f = m + 1 := ⟨f - 1, by omega⟩
    rw [fX5_viewOf_6, cells_eq hR, some_bind, if_pos (nI_le (by omega) (by omega)), show i = gN g by omega]
  | succ d ih =>
    intro i f h1 h2
    obtain ⟨f, rfl⟩ : ∃ m, f = m + 1 := ⟨f - 1, by omega⟩
    have ihh := ih (i + 1) f (by omega) (by omega)
    rw [mk] at ihh
    rw [fX5_viewOf_6, cells_eq hR, some_bind, if_neg (nI_ge (by omega) (by omega)), isSeen_eq hg hR ha (by omega) hr, some_bind]
    cases hs : sees g a r i
    · rw [hs] at ihh
      rw [if_pos (by rfl), nm_eq, nm_eq, nI_add1, show (0 : Int64) = lN 0 from rfl, fb_orL, Nat.or_zero]
      exact ihh
    · rw [hs] at ihh
      rw [if_neg (by decide), nm_eq, nm_eq, nI_add1, one_shl (by omega), fb_orL]
      exact ihh
theorem viewOf_eq {o : tMo} {w : tA} {g : tG} (hg : GG g) (hR : RR o w g) {a r : Nat} (ha : a < gN g) (hr : r ≤ 99) : fX5_viewOf o w (nI a) (nI r) = some (lN (mk (sees g a r) (gN g))) := by
  have h36 := gN_le hg
  rw [fX5_viewOf]
  exact viewOf_loop hg hR ha hr _ (gN g) 0 100000 (by omega) (by omega)
theorem watchedBy_eq {o : tMo} {w : tA} {g : tG} (hg : GG g) (hR : RR o w g) {t : Nat} (ht : t < gT g) : fX5_watchedBy o w (nI t) = some (lN (mk (tsee g t) (gN g))) := by
  have h5 := hg.2.2.1
  have hr := hg.2.2.2.2.2.1 t ht
  rw [fX5_watchedBy, show (37 : Int32) = nI 37 from rfl, show (42 : Int32) = nI 42 from rfl, nI_add, nI_add, gd_inb (by omega) (by decide), gd_inb (by omega) (by decide), toN (by omega), toN (by omega), hR.2.2.2.2.1 t ht, hR.2.2.2.2.2.1 t ht, viewOf_eq hg hR (hg.2.2.2.2.1 t ht) (by omega)]
  rfl
theorem watchedAny_loop {o : tMo} {w : tA} {g : tG} (hg : GG g) (hR : RR o w g) (k30 : Int64 → Option Int64) : ∀ (d t f : Nat), t + d = gT g → d < f → fX5_watchedByAny_5 o w k30 f (lN (mk (fun c => anyN (fun e => tsee g e c) t) (gN g))) (nI t) = k30 (lN (mk (fun c => anyN (fun e => tsee g e c) (gT g)) (gN g))) := by
  have h5 := hg.2.2.1
  intro d
  induction d with
  | zero =>
    intro t f h1 h2
    obtain ⟨f, rfl⟩ : ∃ m, f = m + 1 := ⟨f - 1, by omega⟩
    rw [fX5_watchedByAny_5, show ((36 : Int32).toNatClampNeg) = 36 from rfl, hR.2.2.2.1, if_pos (nI_le (by omega) (by omega)), show t = gT g by omega]
  | succ d ih =>
    intro t f h1 h2
    obtain ⟨f, rfl⟩ : ∃ m, f = m + 1 := ⟨f - 1, by omega⟩
    have ht : t < gT g := by omega
    rw [fX5_watchedByAny_5, show ((36 : Int32).toNatClampNeg) = 36 from rfl, hR.2.2.2.1, if_neg (nI_ge ht (by omega)), watchedBy_eq hg hR ht, some_bind, nm_eq, nm_eq, nI_add1, fb_orL, mk_or, ← ih (t + 1) f (by omega) (by omega)]
    rfl
def seenA (g : tG) (c : Nat) : Bool := anyN (fun e => tsee g e c) (gT g)
theorem watchedAny_eq {o : tMo} {w : tA} {g : tG} (hg : GG g) (hR : RR o w g) : fX5_watchedByAny o w = some (lN (mk (seenA g) (gN g))) := by
  have h5 := hg.2.2.1
  rw [fX5_watchedByAny, show (0 : Int64) = lN (mk (fun c => anyN (fun e => tsee g e c) 0) (gN g)) by rw [show (fun c => anyN (fun e => tsee g e c) 0) = fun _ => false from rfl, mk_false]; rfl]
  exact watchedAny_loop hg hR _ (gT g) 0 100000 (by omega) (by omega)
/-! how many are hidden, the same number in both -/
def hidN (g : tG) : Nat := cnt (hid g (gT g)) (gN g)
theorem hid_seen (g : tG) (c : Nat) : hid g (gT g) c = !seenA g c := rfl
theorem hidN_sub (g : tG) : gN g - cnt (seenA g) (gN g) = hidN g := by
  have h := cnt_not (seenA g) (gN g)
  show _ = cnt (fun c => !seenA g c) (gN g)
  omega
theorem hidden_eq {o : tMo} {w : tA} {g : tG} (hg : GG g) (hR : RR o w g) : fX5_hidden o w = some (nI (hidN g)) := by
  have h36 := gN_le hg
  rw [fX5_hidden, cells_eq hR, some_bind, watchedAny_eq hg hR, some_bind, ones_mk _ h36, some_bind, pk_sub (cnt_le _ _), hidN_sub]
theorem hiddenC_eq {L : tL} {g : tG} (hg : GG g) (hL : LL L g) : ((fX1_hiddenSet L).bind fun x => fJ13_bitCount_95d88 x) = some (nI (hidN g)) := by
  rw [hiddenSet_eq hg hL, some_bind, bitCount_mk _ (gN_le hg)]
  rfl
/-! the reference's towers on a cell, watchers, own cells -/
theorem mtowersOn_loop {o : tMo} {w : tA} {g : tG} (hg : GG g) (hR : RR o w g) {c : Nat} (hc : c < gN g) (k44 : Int32 → Option Int32) : ∀ (d t f : Nat), t + d = gT g → d < f → fX5_towersOn_4 o w (nI c) k44 f (towI g c t) (nI t) = k44 (towI g c (gT g)) := by
  have h36 := gN_le hg
  have h5 := hg.2.2.1
  intro d
  induction d with
  | zero =>
    intro t f h1 h2
    obtain ⟨f, rfl⟩ : ∃ m, f = m + 1 := ⟨f - 1, by omega⟩
    rw [fX5_towersOn_4, show ((36 : Int32).toNatClampNeg) = 36 from rfl, hR.2.2.2.1, if_pos (nI_le (by omega) (by omega)), show t = gT g by omega]
  | succ d ih =>
    intro t f h1 h2
    obtain ⟨f, rfl⟩ : ∃ m, f = m + 1 := ⟨f - 1, by omega⟩
    have ht : t < gT g := by omega
    have hcc := hg.2.2.2.2.1 t ht
    have ihh := ih (t + 1) f (by omega) (by omega)
    rw [towI] at ihh
    rw [fX5_towersOn_4, show ((36 : Int32).toNatClampNeg) = 36 from rfl, hR.2.2.2.1, if_neg (nI_ge ht (by omega)), show (37 : Int32) = nI 37 from rfl, nI_add, gd_inb (by omega) (by decide), toN (by omega), hR.2.2.2.2.1 t ht]
    by_cases h : gc g t = c
    · rw [if_pos h] at ihh
      rw [if_pos (by rw [h]), nm_eq, nm_eq, nI_add1]
      exact ihh
    · rw [if_neg h] at ihh
      rw [if_neg (fun q => h ((nI_eq (by omega) (by omega)).mp q)), nm_eq, nm_eq, nI_add1, Int32.or_zero]
      exact ihh
theorem mtowersOn_eq {o : tMo} {w : tA} {g : tG} (hg : GG g) (hR : RR o w g) {c : Nat} (hc : c < gN g) : fX5_towersOn o w (nI c) = some (towI g c (gT g)) := by
  have h5 := hg.2.2.1
  rw [fX5_towersOn]
  exact mtowersOn_loop hg hR hc _ (gT g) 0 100000 (by omega) (by omega)
theorem mwatchersOf_loop {o : tMo} {w : tA} {g : tG} (hg : GG g) (hR : RR o w g) {c : Nat} (hc : c < gN g) (k59 : Int32 → Option Int32) : ∀ (d t f : Nat), t + d = gT g → d < f → fX5_watchersOf_4 o w (nI c) k59 f (nI (cnt (fun e => tsee g e c) t)) (nI t) = k59 (nI (cnt (fun e => tsee g e c) (gT g))) := by
  have h36 := gN_le hg
  have h5 := hg.2.2.1
  intro d
  induction d with
  | zero =>
    intro t f h1 h2
    obtain ⟨f, rfl⟩ : ∃ m, f = m + 1 := ⟨f - 1, by omega⟩
    rw [fX5_watchersOf_4, show ((36 : Int32).toNatClampNeg) = 36 from rfl, hR.2.2.2.1, if_pos (nI_le (by omega) (by omega)), show t = gT g by omega]
  | succ d ih =>
    intro t f h1 h2
    obtain ⟨f, rfl⟩ : ∃ m, f = m + 1 := ⟨f - 1, by omega⟩
    have ht : t < gT g := by omega
    have hr := hg.2.2.2.2.2.1 t ht
    have ihh := ih (t + 1) f (by omega) (by omega)
    rw [cnt] at ihh
    rw [fX5_watchersOf_4, show ((36 : Int32).toNatClampNeg) = 36 from rfl, hR.2.2.2.1, if_neg (nI_ge ht (by omega)), show (37 : Int32) = nI 37 from rfl, show (42 : Int32) = nI 42 from rfl, nI_add, nI_add, gd_inb (by omega) (by decide), gd_inb (by omega) (by decide), toN (by omega), toN (by omega), hR.2.2.2.2.1 t ht, hR.2.2.2.2.2.1 t ht, isSeen_eq hg hR (hg.2.2.2.2.1 t ht) hc (by omega), some_bind]
    cases hs : sees g (gc g t) (gr g t) c
    · rw [show tsee g t c = false from hs] at ihh
      rw [if_pos (by rfl), nm_eq, nm_eq, nI_add1, show (0 : Int32) = nI 0 from rfl, nI_add]
      exact ihh
    · rw [show tsee g t c = true from hs] at ihh
      rw [if_neg (by decide), nm_eq, nm_eq, nI_add1, nI_add1]
      exact ihh
theorem mwatchersOf_eq {o : tMo} {w : tA} {g : tG} (hg : GG g) (hR : RR o w g) {c : Nat} (hc : c < gN g) : fX5_watchersOf o w (nI c) = some (nI (wat g c)) := by
  have h5 := hg.2.2.1
  rw [fX5_watchersOf]
  exact mwatchersOf_loop hg hR hc _ (gT g) 0 100000 (by omega) (by omega)
