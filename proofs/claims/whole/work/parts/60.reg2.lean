/-! The region of the lowest cell. -/
def grI (g : tG) (u : Nat → Bool) : Nat → (Nat → Bool) → (Nat → Bool)
  | 0, r => r
  | k + 1, r => grI g u k (gro g u r)
theorem gro_loop {L : tL} {g : tG} (hg : GG g) (hL : LL L g) (u : Nat → Bool) (k117 : Int64 → Option Int64) : ∀ (d i f : Nat) (r : Nat → Bool), i + d = 36 → d < f → fX1_lowestRegion_51 L (lN (mk u (gN g))) (lN (fcB g)) (lN (fcB g * 2 ^ (gw g - 1))) k117 f (lN (mk r (gN g))) (nI i) = k117 (lN (mk (grI g u d r) (gN g))) := by
  intro d
  induction d with
  | zero =>
    intro i f r h1 h2
    obtain ⟨f, rfl⟩ : ∃ m, f = m + 1 := ⟨f - 1, by omega⟩
    rw [fX1_lowestRegion_51, if_pos (show (36 : Int32) ≤ nI i from nI_le (a := 36) (by omega) (by omega))]
    rfl
  | succ d ih =>
    intro i f r h1 h2
    obtain ⟨f, rfl⟩ : ∃ m, f = m + 1 := ⟨f - 1, by omega⟩
    rw [fX1_lowestRegion_51, if_neg (show ¬ (36 : Int32) ≤ nI i from nI_ge (b := 36) (by omega) (by decide)), nm_eq, nm_eq, nm_eq, nm_eq, nI_add1, gro_step hg hL u r]
    exact ih (i + 1) f _ (by omega) (by omega)
theorem lowest_gen {L : tL} {g : tG} (hg : GG g) (hL : LL L g) (u r : Nat → Bool) (hs : lN (mk u (gN g)) &&& (-(lN (mk u (gN g)))) = lN (mk r (gN g))) : fX1_lowestRegion L (lN (mk u (gN g))) = some (lN (mk (grI g u 36 r) (gN g))) := by
  have w1 := hg.1
  have w2 := hg.2.1
  have h36 := gN_le hg
  have hf := mk_lt36 (fun c => decide (c % gw g = 0)) h36
  have hf2 : fcB g < 2 ^ 36 := hf
  have h := fcol_loop hg hL (lN (mk u (gN g))) (fun y3 => nm ((y3 <<< ((L.1 - (1 : Int32)).toInt64 &&& 63))) fun x4 => nm ((lN (mk u (gN g)) &&& (-(lN (mk u (gN g)))))) fun x5 => fX1_lowestRegion_51 L (lN (mk u (gN g))) y3 x4 (fun y10 => some y10) 100000 x5 (0 : Int32)) (gh g) 0 100000 (by omega) (by omega)
  rw [Nat.zero_mul] at h
  rw [fX1_lowestRegion]
  refine h.trans ?_
  rw [nm_eq, nm_eq, hs, hL.1, show (1 : Int32) = nI 1 from rfl, pk_sub (by omega), shl_l (by omega) (by omega)]
  exact gro_loop hg hL u _ 36 0 100000 r (by decide) (by decide)
theorem one_mk {N a : Nat} (ha : a < N) : 2 ^ a = mk (fun c => decide (c = a)) N := by
  apply Nat.eq_of_testBit_eq
  intro c
  rw [Nat.testBit_two_pow, mk_bit]
  by_cases h : c = a
  · subst h
    rw [decide_eq_true (p := c = c) rfl, decide_eq_true ha]
    rfl
  · rw [decide_eq_false h, Bool.and_false, decide_eq_false (fun e => h e.symm)]
theorem lowest_a {L : tL} {g : tG} (hg : GG g) (hL : LL L g) {u : Nat → Bool} {a : Nat} (ha : a < gN g) (hu : u a = true) (hl : ∀ j, j < a → u j = false) : fX1_lowestRegion L (lN (mk u (gN g))) = some (lN (mk (grI g u 36 (fun c => decide (c = a))) (gN g))) := by
  have h36 := gN_le hg
  have hm := mk_lt36 u h36
  have hb : (mk u (gN g)).testBit a = true := by rw [mk_bit, decide_eq_true ha, hu]; rfl
  have h0 : 0 < mk u (gN g) := Nat.pos_of_ne_zero (fun e => by rw [e, Nat.zero_testBit] at hb; cases hb)
  refine lowest_gen hg hL u _ ?_
  rw [neg_lN h0 (by omega), fb_andL, low_bit (k := a) (by omega) hb (fun j hj => by rw [mk_bit, hl j hj, Bool.and_false]), one_mk ha]
theorem gro_no (g : tG) (u : Nat → Bool) : ∀ k, grI g u k (fun _ => false) = fun _ => false
  | 0 => rfl
  | k + 1 => by
    rw [grI, show gro g u (fun _ => false) = fun _ => false from funext (fun c => by unfold gro; simp), gro_no g u k]
theorem lowest_none {L : tL} {g : tG} (hg : GG g) (hL : LL L g) {u : Nat → Bool} (hu : ∀ j, j < gN g → u j = false) : fX1_lowestRegion L (lN (mk u (gN g))) = some (lN 0) := by
  have e : mk u (gN g) = 0 := by rw [mk_congr (q := fun _ => false) hu, mk_false]
  rw [lowest_gen hg hL u (fun _ => false) (by rw [e, mk_false]; rfl), gro_no, mk_false]
theorem gro_cases {g : tG} (hg : GG g) {u r : Nat → Bool} {c : Nat} (hc : c < gN g) (h : gro g u r c = true) : r c = true ∨ (u c = true ∧ ∃ x, x < gN g ∧ r x = true ∧ (nxt g x c ∨ nxt g c x)) := by
  have w1 := hg.1
  unfold gro at h
  rw [Bool.or_eq_true, Bool.and_eq_true, Bool.or_eq_true, Bool.or_eq_true, Bool.or_eq_true] at h
  rcases h with h | ⟨hu, ((h | h) | h) | h⟩
  · exact Or.inl h
  · rw [Bool.and_eq_true, Bool.and_eq_true, decide_eq_true_eq, Bool.not_eq_true', decide_eq_false_iff_not] at h
    have := col_lt hg (c - 1)
    exact Or.inr ⟨hu, c - 1, by omega, h.1.2, Or.inl (Or.inl ⟨by omega, by omega⟩)⟩
  · rw [Bool.and_eq_true, Bool.and_eq_true, decide_eq_true_eq, Bool.not_eq_true', decide_eq_false_iff_not, mod_succ (by omega)] at h
    have := col_lt hg c
    exact Or.inr ⟨hu, c + 1, h.1.1, h.1.2, Or.inr (Or.inl ⟨by omega, rfl⟩)⟩
  · rw [Bool.and_eq_true, decide_eq_true_eq] at h
    exact Or.inr ⟨hu, c - gw g, by omega, h.2, Or.inl (Or.inr ⟨by omega, by omega⟩)⟩
  · rw [Bool.and_eq_true, decide_eq_true_eq] at h
    exact Or.inr ⟨hu, c + gw g, h.1, h.2, Or.inr (Or.inr ⟨h.1, rfl⟩)⟩
theorem gro_intro {g : tG} (hg : GG g) {u r : Nat → Bool} {c x : Nat} (hx : x < gN g) (hc : c < gN g) (hu : u c = true) (hr : r x = true) (h : nxt g x c ∨ nxt g c x) : gro g u r c = true := by
  have w1 := hg.1
  unfold gro
  rw [hu, Bool.true_and]
  rcases h with (⟨h1, rfl⟩ | ⟨h1, rfl⟩) | (⟨h1, rfl⟩ | ⟨h1, rfl⟩)
  · rw [Nat.add_sub_cancel, hr, decide_eq_true (show 1 ≤ x + 1 by omega), decide_eq_false (show ¬ x % gw g + 1 = gw g by omega)]
    simp
  · rw [Nat.add_sub_cancel, hr, decide_eq_true (show gw g ≤ x + gw g by omega)]
    simp
  · rw [hr, decide_eq_true hx, decide_eq_false (show ¬ (c + 1) % gw g = 0 by rw [mod_succ (by omega)]; omega)]
    simp
  · rw [hr, decide_eq_true hx]
    simp
theorem gro_up {g : tG} {u r : Nat → Bool} {c : Nat} (h : r c = true) : gro g u r c = true := by
  unfold gro
  rw [h, Bool.true_or]
theorem grI_succ (g : tG) (u : Nat → Bool) : ∀ k r, grI g u (k + 1) r = gro g u (grI g u k r)
  | 0, _ => rfl
  | k + 1, r => by
    show grI g u (k + 1) (gro g u r) = _
    rw [grI_succ g u k (gro g u r)]
    rfl
theorem grI_up {g : tG} {u r : Nat → Bool} {c : Nat} (h : r c = true) : ∀ k, grI g u k r c = true
  | 0 => h
  | k + 1 => by rw [grI_succ]; exact gro_up (grI_up h k)
theorem gro_congr {g : tG} {u r s : Nat → Bool} (h : ∀ c, c < gN g → r c = s c) {c : Nat} (hc : c < gN g) : gro g u r c = gro g u s c := by
  unfold gro
  rw [h c hc, h (c - 1) (by omega), h (c - gw g) (by omega)]
  have e1 : (decide (c + 1 < gN g) && r (c + 1)) = (decide (c + 1 < gN g) && s (c + 1)) := by
    by_cases q : c + 1 < gN g
    · rw [h _ q]
    · rw [decide_eq_false q, Bool.false_and, Bool.false_and]
  have e2 : (decide (c + gw g < gN g) && r (c + gw g)) = (decide (c + gw g < gN g) && s (c + gw g)) := by
    by_cases q : c + gw g < gN g
    · rw [h _ q]
    · rw [decide_eq_false q, Bool.false_and, Bool.false_and]
  rw [e1, e2]
theorem cnt_mono {p q : Nat → Bool} : ∀ {n : Nat}, (∀ k, k < n → p k = true → q k = true) → cnt p n ≤ cnt q n
  | 0, _ => Nat.le_refl _
  | n + 1, h => by
    have h1 := cnt_mono (p := p) (q := q) (n := n) (fun k hk => h k (by omega))
    have h2 := h n (by omega)
    rw [cnt, cnt]
    cases e : p n
    · simp; omega
    · rw [h2 e]; simp; omega
theorem cnt_lt {p q : Nat → Bool} : ∀ {n x : Nat}, x < n → (∀ k, k < n → p k = true → q k = true) → p x = false → q x = true → cnt p n < cnt q n
  | 0, x, hx, _, _, _ => absurd hx (by omega)
  | n + 1, x, hx, h, hp, hq => by
    rw [cnt, cnt]
    by_cases e : x = n
    · subst e
      have h1 := cnt_mono (p := p) (q := q) (n := x) (fun k hk => h k (by omega))
      rw [hp, hq]
      simp
      omega
    · have h1 := cnt_lt (p := p) (q := q) (n := n) (x := x) (by omega) (fun k hk => h k (by omega)) hp hq
      have h2 := h n (by omega)
      cases e2 : p n
      · simp; omega
      · rw [h2 e2]; simp; omega
def groS (g : tG) (u r : Nat → Bool) : Prop := ∀ c, c < gN g → gro g u r c = r c
theorem gro_grow (g : tG) (u r : Nat → Bool) : ∀ k, groS g u (grI g u k r) ∨ k + cnt r (gN g) ≤ cnt (grI g u k r) (gN g)
  | 0 => Or.inr (by show 0 + cnt r (gN g) ≤ cnt r (gN g); omega)
  | k + 1 => by
    rw [grI_succ]
    rcases gro_grow g u r k with h | h
    · exact Or.inl (fun c hc => gro_congr h hc)
    · by_cases q : groS g u (grI g u k r)
      · exact Or.inl (fun c hc => gro_congr q hc)
      · have ⟨c, hc⟩ := Classical.not_forall.mp q
        have ⟨hc1, hc2⟩ := Classical.not_imp.mp hc
        have e1 : grI g u k r c = false := by
          cases e : grI g u k r c
          · rfl
          · exact absurd (by rw [gro_up e, e]) hc2
        have e2 : gro g u (grI g u k r) c = true := by
          cases e : gro g u (grI g u k r) c
          · exact absurd (by rw [e, e1]) hc2
          · rfl
        have : cnt (grI g u k r) (gN g) < cnt (gro g u (grI g u k r)) (gN g) := cnt_lt hc1 (fun k' _ h' => gro_up (g := g) (u := u) h') e1 e2
        exact Or.inr (by omega)
theorem region_eq {g : tG} (hg : GG g) {h : Nat → Nat} (hi : lInv g h) (hs : lSta g h) {u : Nat → Bool} {U : Nat → Bool} (hu : ∀ c, c < gN g → u c = (HH g c && U (h c))) {a : Nat} (ha : a < gN g) (hua : u a = true) (haa : h a = a) : ∀ c, c < gN g → grI g u 36 (fun x => decide (x = a)) c = (HH g c && decide (h c = a)) := by
  have h36 := gN_le hg
  have hUa : HH g a = true ∧ U a = true := by
    have := hu a ha
    rw [hua, haa] at this
    exact Bool.and_eq_true _ _ ▸ this.symm
  have sound : ∀ k c, c < gN g → grI g u k (fun x => decide (x = a)) c = true → HH g c = true ∧ h c = a := by
    intro k
    induction k with
    | zero =>
      intro c hc e
      have e2 : c = a := of_decide_eq_true e
      rw [e2]
      exact ⟨hUa.1, haa⟩
    | succ k ih =>
      intro c hc e
      rw [grI_succ] at e
      rcases gro_cases hg hc e with e | ⟨e1, x, hx, e2, e3⟩
      · exact ih c hc e
      · have q1 := ih x hx e2
        rw [hu c hc, Bool.and_eq_true] at e1
        refine ⟨e1.1, ?_⟩
        rcases e3 with e3 | e3
        · rw [← hs x c hx hc q1.1 e1.1 e3]
          exact q1.2
        · rw [hs c x hc hx e1.1 q1.1 e3]
          exact q1.2
  have stab : groS g u (grI g u 36 (fun x => decide (x = a))) := by
    rcases gro_grow g u (fun x => decide (x = a)) 36 with e | e
    · exact e
    · have c1 := cnt_le (grI g u 36 (fun x => decide (x = a))) (gN g)
      have c2 : 0 < cnt (fun x => decide (x = a)) (gN g) := cnt_pos.mpr ⟨a, ha, decide_eq_true rfl⟩
      omega
  have clo : ∀ x y, x < gN g → y < gN g → HH g x = true → HH g y = true → (nxt g x y ∨ nxt g y x) → grI g u 36 (fun x => decide (x = a)) x = true → grI g u 36 (fun x => decide (x = a)) y = true := by
    intro x y hx hy Hx Hy hn e
    have q := (sound 36 x hx e).2
    have q2 : h y = a := by
      rcases hn with hn | hn
      · rw [← hs x y hx hy Hx Hy hn]; exact q
      · rw [hs y x hy hx Hy Hx hn]; exact q
    have uy : u y = true := by rw [hu y hy, Hy, q2, hUa.2]; rfl
    rw [← stab y hy]
    exact gro_intro hg hx hy uy e hn
  have tin : tInv g (grI g u 36 (fun x => decide (x = a))) := by
    intro x y hx hy Hx Hy hn
    cases e : grI g u 36 (fun x => decide (x = a)) x
    · cases e2 : grI g u 36 (fun x => decide (x = a)) y
      · rfl
      · rw [clo y x hy hx Hy Hx (Or.inr hn) e2] at e
        cases e
    · rw [clo x y hx hy Hx Hy (Or.inl hn) e]
  intro c hc
  cases e : grI g u 36 (fun x => decide (x = a)) c
  · cases Hc : HH g c
    · rfl
    · by_cases q : h c = a
      · have := (hi c hc Hc).2.2 _ tin
        rw [q, e, grI_up (decide_eq_true rfl) 36] at this
        cases this
      · rw [decide_eq_false q]
        rfl
  · have q := sound 36 c hc e
    rw [q.1, q.2, decide_eq_true rfl]
    rfl
