/-! Shares. -/
def fac : Nat → Nat
  | 0 => 1
  | n + 1 => fac n * (n + 1)
theorem fac_loop {n : Nat} (hn : n ≤ 5) (k19 : Int32 → Option Int32) : ∀ (d i f : Nat), i + d = n → d < f → fX5_factorial_4 (nI n) k19 f (nI (fac i)) (nI (i + 1)) = k19 (nI (fac n)) := by
  intro d
  induction d with
  | zero =>
    intro i f h1 h2
    obtain ⟨f, rfl⟩ : ∃ m, f = m + 1 := ⟨f - 1, by omega⟩
    rw [fX5_factorial_4, if_pos (nI_lt (by omega) (by omega)), show i = n by omega]
  | succ d ih =>
    intro i f h1 h2
    obtain ⟨f, rfl⟩ : ∃ m, f = m + 1 := ⟨f - 1, by omega⟩
    rw [fX5_factorial_4, if_neg (nI_nlt (by omega) (by omega)), nm_eq, nm_eq, nI_add1, pk_mul]
    exact ih (i + 1) f (by omega) (by omega)
theorem fac_eq {n : Nat} (hn : n ≤ 5) : fX5_factorial (nI n) = some (nI (fac n)) := by
  rw [fX5_factorial]
  by_cases h : n = 0
  · rw [h, fX5_factorial_4, if_pos (by decide)]
    rfl
  · exact fac_loop hn _ (n - 1) 1 100000 (by omega) (by omega)
theorem cnt_sm (p : Nat → Bool) : ∀ n, cnt p n = smN (fun c => if p c then 1 else 0) n
  | 0 => rfl
  | n + 1 => by rw [cnt, smN, cnt_sm p n]
theorem smN_add (f h : Nat → Nat) : ∀ n, smN (fun k => f k + h k) n = smN f n + smN h n
  | 0 => rfl
  | n + 1 => by rw [smN, smN, smN, smN_add f h n]; omega
theorem smN_zero : ∀ n, smN (fun _ => 0) n = 0
  | 0 => rfl
  | n + 1 => by rw [smN, smN_zero n]
theorem smN_mul (f : Nat → Nat) (a : Nat) : ∀ n, smN f n * a = smN (fun k => f k * a) n
  | 0 => by rw [smN, smN, Nat.zero_mul]
  | n + 1 => by rw [smN, smN, Nat.add_mul, smN_mul f a n]
theorem smN_swap (f : Nat → Nat → Nat) (m : Nat) : ∀ n, smN (fun a => smN (fun b => f a b) m) n = smN (fun b => smN (fun a => f a b) n) m
  | 0 => by
    show 0 = smN (fun _ => 0) m
    rw [smN_zero]
  | n + 1 => by
    rw [smN, smN_swap f m n, ← smN_add]
    rfl
theorem cnt_or (p q : Nat → Bool) : ∀ n, cnt (fun k => p k || q k) n = cnt p n + cnt (fun k => q k && !p k) n
  | 0 => rfl
  | n + 1 => by
    rw [cnt, cnt, cnt, cnt_or p q n]
    cases p n <;> cases q n <;> simp <;> omega
/-! small masks -/
def pc (m : Nat) : Nat := cnt (fun j => m.testBit j) 36
theorem msk_or : ∀ m, m < 32 → ∀ t, t < 5 → nI m ||| ((1 : Int32) <<< (nI t &&& 31)) = nI (m ||| 2 ^ t) := by decide +kernel
theorem msk_pow : ∀ n, n < 6 → (1 : Int32) <<< (nI n &&& 31) = nI (2 ^ n) := by decide +kernel
theorem msk_lt : ∀ m, m < 32 → ∀ t, t < 5 → m ||| 2 ^ t < 32 := by decide +kernel
theorem msk_pc : ∀ n, n < 6 → ∀ t, t < n → ∀ m, m < 2 ^ n → m.testBit t = false → pc m ≤ n - 1 := by decide +kernel
theorem msk_l : ∀ m, m < 32 → (nI m).toInt64 = lN m := by decide +kernel
def anyM (g : tG) (m c n : Nat) : Bool := anyN (fun e => m.testBit e && tsee g e c) n
theorem worth_loop {o : tMo} {w : tA} {g : tG} (hg : GG g) (hR : RR o w g) {m : Nat} (hm : m < 32) (k50 : Int64 → Option Int32) : ∀ (d t f : Nat), t + d = gT g → d < f → fX5_worth_5 o w (nI m) k50 f (lN (mk (fun c => anyM g m c t) (gN g))) (nI t) = k50 (lN (mk (fun c => anyM g m c (gT g)) (gN g))) := by
  have h5 := hg.2.2.1
  intro d
  induction d with
  | zero =>
    intro t f h1 h2
    obtain ⟨f, rfl⟩ : ∃ m, f = m + 1 := ⟨f - 1, by omega⟩
    rw [fX5_worth_5, show ((36 : Int32).toNatClampNeg) = 36 from rfl, hR.2.2.2.1, if_pos (nI_le (by omega) (by omega)), show t = gT g by omega]
  | succ d ih =>
    intro t f h1 h2
    obtain ⟨f, rfl⟩ : ∃ m, f = m + 1 := ⟨f - 1, by omega⟩
    have ihh := ih (t + 1) f (by omega) (by omega)
    rw [fX5_worth_5, show ((36 : Int32).toNatClampNeg) = 36 from rfl, hR.2.2.2.1, if_neg (nI_ge (by omega) (by omega)), msk_l m hm, has_eq (by omega) (by omega), some_bind]
    cases hb : m.testBit t
    · rw [if_pos (by rfl), nm_eq, nm_eq, nI_add1, show (0 : Int64) = lN 0 from rfl, fb_orL, Nat.or_zero]
      rw [← ihh]
      congr 2
      exact mk_congr (fun c _ => by show anyM g m c t = (anyM g m c t || (m.testBit t && tsee g t c)); rw [hb, Bool.false_and, Bool.or_false])
    · rw [if_neg (by decide), watchedBy_eq hg hR (by omega), some_bind, nm_eq, nm_eq, nI_add1, fb_orL, mk_or]
      rw [← ihh]
      congr 2
      exact mk_congr (fun c _ => by show (anyM g m c t || tsee g t c) = (anyM g m c t || (m.testBit t && tsee g t c)); rw [hb, Bool.true_and])
theorem worth_eq {o : tMo} {w : tA} {g : tG} (hg : GG g) (hR : RR o w g) {m : Nat} (hm : m < 32) : fX5_worth o w (nI m) = some (nI (cnt (fun c => anyM g m c (gT g)) (gN g))) := by
  have h5 := hg.2.2.1
  have h := worth_loop hg hR hm (fun y9 => (fX5_ones y9).bind fun r11 => some r11) (gT g) 0 100000 (by omega) (by omega)
  rw [show mk (fun c => anyM g m c 0) (gN g) = 0 from mk_false (gN g)] at h
  rw [fX5_worth]
  refine h.trans ?_
  rw [ones_mk _ (gN_le hg)]
  rfl
theorem any_or {g : tG} {t : Nat} (m c : Nat) : ∀ n, anyM g (m ||| 2 ^ t) c n = (anyM g m c n || (decide (t < n) && tsee g t c))
  | 0 => rfl
  | n + 1 => by
    show (anyM g (m ||| 2 ^ t) c n || ((m ||| 2 ^ t).testBit n && tsee g n c)) = ((anyM g m c n || (m.testBit n && tsee g n c)) || (decide (t < n + 1) && tsee g t c))
    rw [any_or m c n, Nat.testBit_or, Nat.testBit_two_pow]
    by_cases h : t = n
    · subst h
      rw [decide_eq_true (p := t = t) rfl, decide_eq_false (p := t < t) (by omega), decide_eq_true (p := t < t + 1) (by omega)]
      cases anyM g m c t <;> cases m.testBit t <;> cases tsee g t c <;> rfl
    · rw [decide_eq_false (p := t = n) h, show decide (t < n + 1) = decide (t < n) from decide_eq_decide.mpr (by omega)]
      cases anyM g m c n <;> cases m.testBit n <;> cases tsee g n c <;> cases decide (t < n) <;> cases tsee g t c <;> rfl
def gain (g : tG) (t m : Nat) : Nat := cnt (fun c => tsee g t c && !anyM g m c (gT g)) (gN g)
def shT (g : tG) (t m : Nat) : Nat := if m.testBit t then 0 else fac (pc m) * fac (gT g - 1 - pc m) * gain g t m
theorem share_loop {o : tMo} {w : tA} {g : tG} (hg : GG g) (hR : RR o w g) {t : Nat} (ht : t < gT g) (g2 : Int32) (k98 : Int32 → Option Int32) : ∀ (d m f : Nat), m + d = 2 ^ gT g → d < f → fX5_share_24 o w (nI t) g2 (nI (gT g)) k98 f (nI (smN (shT g t) m)) (nI m) = k98 (nI (smN (shT g t) (2 ^ gT g))) := by
  have h5 := hg.2.2.1
  have hp : 2 ^ gT g ≤ 2 ^ 5 := Nat.pow_le_pow_right (by decide) h5
  intro d
  induction d with
  | zero =>
    intro m f h1 h2
    obtain ⟨f, rfl⟩ : ∃ m, f = m + 1 := ⟨f - 1, by omega⟩
    rw [fX5_share_24, msk_pow _ (by omega), if_pos (nI_le (by omega) (by omega)), show m = 2 ^ gT g by omega]
  | succ d ih =>
    intro m f h1 h2
    obtain ⟨f, rfl⟩ : ∃ m, f = m + 1 := ⟨f - 1, by omega⟩
    have ihh := ih (m + 1) f (by omega) (by omega)
    rw [smN] at ihh
    rw [fX5_share_24, msk_pow _ (by omega), if_neg (nI_ge (by omega) (by omega)), msk_l m (by omega), ones_eq (by omega), some_bind, has_eq (by omega) (by omega), some_bind]
    cases hb : m.testBit t
    · have hpc : pc m ≤ gT g - 1 := msk_pc _ (by omega) t ht m (by omega) hb
      have hG : cnt (fun c => anyM g (m ||| 2 ^ t) c (gT g)) (gN g) = cnt (fun c => anyM g m c (gT g)) (gN g) + gain g t m := by
        rw [gain, ← cnt_or]
        exact cnt_congr (fun c _ => by rw [any_or, decide_eq_true ht, Bool.true_and])
      rw [if_pos (by rfl), show cnt (fun j => m.testBit j) 36 = pc m from rfl, fac_eq (by omega), some_bind, show (1 : Int32) = nI 1 from rfl, pk_sub (by omega), pk_sub hpc, fac_eq (by omega), some_bind, show nI 1 = (1 : Int32) from rfl, msk_or m (by omega) t (by omega), worth_eq hg hR (msk_lt m (by omega) t (by omega)), some_bind, worth_eq hg hR (by omega), some_bind, hG, pk_sub (by omega), Nat.add_sub_cancel_left, pk_mul, pk_mul, nI_add, nm_eq, nm_eq, nI_add1]
      rw [shT, hb, if_neg (by decide)] at ihh
      exact ihh
    · rw [if_neg (by decide), nm_eq, nm_eq, nI_add1, show (0 : Int32) = nI 0 from rfl, nI_add]
      rw [shT, hb, if_pos rfl] at ihh
      exact ihh
/-! for one cell: a finite identity -/
def shI (n t W : Nat) : Nat := smN (fun m => if m.testBit t then 0 else fac (pc m) * fac (n - 1 - pc m) * (if W.testBit t && !anyN (fun e => m.testBit e && W.testBit e) n then 1 else 0)) (2 ^ n)
theorem shI_all : ∀ n, n < 6 → ∀ t, t < n → ∀ W, W < 2 ^ n → shI n t W * 60 = (if W.testBit t then 60 / cnt (fun e => W.testBit e) n else 0) * fac n := by decide +kernel
def shC (g : tG) (t c : Nat) : Nat := if tsee g t c then 60 / wat g c else 0
theorem anyN_congr {p q : Nat → Bool} : ∀ {n : Nat}, (∀ k, k < n → p k = q k) → anyN p n = anyN q n
  | 0, _ => rfl
  | n + 1, h => by rw [anyN, anyN, anyN_congr (fun k hk => h k (by omega)), h n (by omega)]
theorem share_cell {g : tG} (hg : GG g) {t : Nat} (ht : t < gT g) (c : Nat) : smN (fun m => if m.testBit t then 0 else fac (pc m) * fac (gT g - 1 - pc m) * (if tsee g t c && !anyM g m c (gT g) then 1 else 0)) (2 ^ gT g) * 60 = shC g t c * fac (gT g) := by
  have h5 := hg.2.2.1
  have e := shI_all (gT g) (by omega) t ht (mk (fun e => tsee g e c) (gT g)) (mk_lt _ _)
  have b : ∀ k, k < gT g → (mk (fun e => tsee g e c) (gT g)).testBit k = tsee g k c := fun k hk => by rw [mk_bit, decide_eq_true hk, Bool.true_and]
  rw [shI, b t ht, cnt_congr b] at e
  rw [shC, show wat g c = cnt (fun k => tsee g k c) (gT g) from rfl, ← e]
  congr 1
  refine smN_congr (fun m _ => ?_)
  rw [show anyM g m c (gT g) = anyN (fun e => m.testBit e && (mk (fun e => tsee g e c) (gT g)).testBit e) (gT g) from anyN_congr (fun k hk => by rw [b k hk])]
theorem share_sum {g : tG} (hg : GG g) {t : Nat} (ht : t < gT g) : smN (shT g t) (2 ^ gT g) * 60 = smN (shC g t) (gN g) * fac (gT g) := by
  have e1 : smN (shT g t) (2 ^ gT g) = smN (fun c => smN (fun m => if m.testBit t then 0 else fac (pc m) * fac (gT g - 1 - pc m) * (if tsee g t c && !anyM g m c (gT g) then 1 else 0)) (2 ^ gT g)) (gN g) := by
    rw [← smN_swap]
    refine smN_congr (fun m _ => ?_)
    rw [shT]
    split
    · rw [smN_zero]
    · rw [gain, cnt_sm, Nat.mul_comm, smN_mul]
      exact smN_congr (fun c _ => Nat.mul_comm _ _)
  rw [e1, smN_mul, smN_mul]
  exact smN_congr (fun c _ => share_cell hg ht c)
theorem cshare_loop {S : tH} {g : tG} (hg : GG g) (hL : LL S.1 g) {t : Nat} (ht : t < gT g) (g2 : Int32) (k85 : Int32 → Option Int32) : ∀ (d c f : Nat), c + d = gN g → d < f → fX4_share_28 S g2 (lN (mk (tsee g t) (gN g))) k85 f (nI (smN (shC g t) c)) (nI c) = k85 (nI (smN (shC g t) (gN g))) := by
  have h5 := hg.2.2.1
  have h36 := gN_le hg
  intro d
  induction d with
  | zero =>
    intro c f h1 h2
    obtain ⟨f, rfl⟩ : ∃ m, f = m + 1 := ⟨f - 1, by omega⟩
    rw [fX4_share_28, fX1_cellCount, LL_N hL, some_bind, if_pos (nI_le (by omega) (by omega)), show c = gN g by omega]
  | succ d ih =>
    intro c f h1 h2
    obtain ⟨f, rfl⟩ : ∃ m, f = m + 1 := ⟨f - 1, by omega⟩
    have ihh := ih (c + 1) f (by omega) (by omega)
    have hlt := mk_lt36 (tsee g t) h36
    rw [smN, shC] at ihh
    rw [fX4_share_28, fX1_cellCount, LL_N hL, some_bind, if_neg (nI_ge (by omega) (by omega)), contains_eq (by omega) (by omega), some_bind, mk_bit, decide_eq_true (show c < gN g by omega), Bool.true_and]
    cases hb : tsee g t c
    · rw [if_pos (by rfl), nm_eq, nI_add1]
      rw [hb] at ihh
      exact ihh
    · have hw : 0 < wat g c := cnt_pos.mpr ⟨t, ht, hb⟩
      have hw5 : wat g c ≤ gT g := cnt_le _ _
      rw [if_neg (by decide), watchersOf_eq hg hL (by omega), some_bind, if_neg (show ¬ nI (wat g c) ≤ (0 : Int32) from nI_ge (b := wat g c) (a := 0) hw (by omega)), gd_nz hw (by omega), show (60 : Int32) = nI 60 from rfl, pk_div (by decide) hw (by omega), nm_eq, nm_eq, nI_add, nI_add1]
      rw [hb, if_pos rfl] at ihh
      exact ihh
theorem fac_le : ∀ n, n < 6 → 0 < fac n ∧ fac n ≤ 120 := by decide
theorem do_share : stp_share Sim := by
  rintro S M ⟨g, hg, hL, hR, -⟩ u1 u2
  have h5 := hg.2.2.1
  have h36 := gN_le hg
  rcases pick_tower hg u1 with ⟨t, ht, rfl⟩ | ⟨h1, h2⟩
  · have hs := share_sum hg ht
    have hf := fac_le (gT g) (by omega)
    have hc : smN (shC g t) (gN g) ≤ gN g * 60 := smN_le (fun c _ => by
      rw [shC]
      split
      · exact Nat.div_le_self _ _
      · omega)
    have hb : smN (shC g t) (gN g) * fac (gT g) ≤ 2160 * 120 := Nat.mul_le_mul (by omega) hf.2
    have ls := low_same (a := smN (shT g t) (2 ^ gT g)) (b := fac (gT g)) (c := smN (shC g t) (gN g)) (d := 60) hf.1 (by decide) hs
    refine ⟨if u2 = 0 then nI (60 / Nat.gcd (smN (shC g t) (gN g)) 60) else nI (smN (shC g t) (gN g) / Nat.gcd (smN (shC g t) (gN g)) 60), ?_, ?_⟩
    · rw [fX4_share, hasTower_eq hg hL ht, some_bind, if_neg one_ne, towerView_eq hg hL ht, some_bind]
      refine (cshare_loop hg hL ht u2 _ (gN g) 0 100000 (by omega) (by omega)).trans ?_
      rw [show (60 : Int32) = nI 60 from rfl, lowest_eq (by omega) (by omega) (by omega)]
      rfl
    · rw [fX5_share, isTower_yes hg hR ht, some_bind, if_neg one_ne, show ((36 : Int32).toNatClampNeg) = 36 from rfl, hR.2.2.2.1, nm_eq]
      have hp : 2 ^ gT g ≤ 2 ^ 5 := Nat.pow_le_pow_right (by decide) h5
      refine (share_loop hg hR ht u2 _ (2 ^ gT g) 0 100000 (by omega) (by omega)).trans ?_
      rw [fac_eq h5, some_bind, frac_eq (by omega) hf.1 (by omega), ls.1, ls.2]
      rfl
  · refine ⟨-1, ?_, ?_⟩
    · rw [fX4_share, hasTower_no hg hL h2]
      rfl
    · rw [fX5_share, isTower_no hR h1]
      rfl
