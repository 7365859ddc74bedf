/-! Hollows: the reference's labels. -/
def HH (g : tG) (c : Nat) : Bool := hid g (gT g) c
def nxt (g : tG) (x y : Nat) : Prop := (x % gw g + 1 < gw g ∧ y = x + 1) ∨ (x + gw g < gN g ∧ y = x + gw g)
def hoR (g : tG) (ho : tA) (h : Nat → Nat) : Prop := ∀ c, c < gN g → ho c = if HH g c then nI (h c) else -9
def tInv (g : tG) (T : Nat → Bool) : Prop := ∀ x y, x < gN g → y < gN g → HH g x = true → HH g y = true → nxt g x y → T x = T y
def lInv (g : tG) (h : Nat → Nat) : Prop := ∀ c, c < gN g → HH g c = true → h c ≤ c ∧ HH g (h c) = true ∧ ∀ T, tInv g T → T (h c) = T c
def lSta (g : tG) (h : Nat → Nat) : Prop := ∀ x y, x < gN g → y < gN g → HH g x = true → HH g y = true → nxt g x y → h x = h y
theorem nxt_lt {g : tG} {x y : Nat} (hg : GG g) (hx : x < gN g) (h : nxt g x y) : y < gN g := by
  rcases h with ⟨h1, rfl⟩ | ⟨h1, rfl⟩
  · have h2 := row_lt hx
    have h3 : (x / gw g + 1) * gw g ≤ gh g * gw g := Nat.mul_le_mul_right _ h2
    have h4 := Nat.div_add_mod x (gw g)
    rw [Nat.add_mul, Nat.one_mul, Nat.mul_comm (gh g), Nat.mul_comm (x / gw g)] at h3
    unfold gN
    omega
  · exact h1
def drC (g : tG) (h : Nat → Nat) (a b : Nat) : Bool := HH g a && HH g b && decide (h a ≠ h b)
def dr (g : tG) (h : Nat → Nat) (a b : Nat) : Nat → Nat := if drC g h a b then uN (uN h a (min (h a) (h b))) b (min (h a) (h b)) else h
theorem dr_le (g : tG) (h : Nat → Nat) (a b c : Nat) : dr g h a b c ≤ h c := by
  unfold dr
  split
  · unfold uN
    by_cases q : c = b
    · rw [if_pos q, q]; omega
    · rw [if_neg q]
      by_cases q2 : c = a
      · rw [if_pos q2, q2]; omega
      · rw [if_neg q2]; omega
  · omega
theorem dr_no {g : tG} {h : Nat → Nat} {a b : Nat} (q : drC g h a b = false) : dr g h a b = h := by
  unfold dr
  rw [q]
  rfl
theorem dr_yes {g : tG} {h : Nat → Nat} {a b : Nat} (q : drC g h a b = true) : dr g h a b = uN (uN h a (min (h a) (h b))) b (min (h a) (h b)) := by
  unfold dr
  rw [if_pos q]
theorem smN_mono {f k : Nat → Nat} : ∀ {n : Nat}, (∀ c, c < n → f c ≤ k c) → smN f n ≤ smN k n
  | 0, _ => Nat.le_refl _
  | n + 1, h => by
    have h1 := smN_mono (f := f) (k := k) (n := n) (fun c hc => h c (by omega))
    have h2 := h n (by omega)
    rw [smN, smN]
    omega
theorem smN_lt {f k : Nat → Nat} : ∀ {n : Nat} {x : Nat}, x < n → (∀ c, c < n → f c ≤ k c) → f x < k x → smN f n < smN k n
  | 0, x, hx, _, _ => absurd hx (by omega)
  | n + 1, x, hx, h, hl => by
    rw [smN, smN]
    by_cases q : x = n
    · subst q
      have h1 := smN_mono (f := f) (k := k) (n := x) (fun c hc => h c (by omega))
      omega
    · have h1 := smN_lt (f := f) (k := k) (n := n) (x := x) (by omega) (fun c hc => h c (by omega)) hl
      have h2 := h n (by omega)
      omega
theorem dr_lt {g : tG} {h : Nat → Nat} {a b : Nat} (ha : a < gN g) (hb : b < gN g) (q : drC g h a b = true) : smN (dr g h a b) (gN g) < smN h (gN g) := by
  have q2 := q
  unfold drC at q2
  rw [Bool.and_eq_true, decide_eq_true_eq] at q2
  have hne := q2.2
  have hab : a ≠ b := fun e => hne (by rw [e])
  by_cases l : h a < h b
  · refine smN_lt (x := b) hb (fun c _ => dr_le g h a b c) ?_
    rw [dr_yes q]
    unfold uN
    rw [if_pos rfl]
    omega
  · refine smN_lt (x := a) ha (fun c _ => dr_le g h a b c) ?_
    rw [dr_yes q]
    unfold uN
    rw [if_neg hab, if_pos rfl]
    omega
theorem lInv_dr {g : tG} {h : Nat → Nat} (hi : lInv g h) {a b : Nat} (ha : a < gN g) (hb : b < gN g) (hn : a = b ∨ nxt g a b) : lInv g (dr g h a b) := by
  intro c hc hH
  cases q : drC g h a b
  · rw [dr_no q]
    exact hi c hc hH
  · have q2 := q
    unfold drC at q2
    rw [Bool.and_eq_true, Bool.and_eq_true, decide_eq_true_eq] at q2
    obtain ⟨⟨Ha, Hb⟩, hne⟩ := q2
    have hab : a ≠ b := fun e => hne (by rw [e])
    have hnx : nxt g a b := hn.resolve_left hab
    have ia := hi a ha Ha
    have ib := hi b hb Hb
    have ic := hi c hc hH
    have hT : ∀ T, tInv g T → T (h a) = T a ∧ T (h b) = T b ∧ T a = T b := fun T t => ⟨ia.2.2 T t, ib.2.2 T t, t a b ha hb Ha Hb hnx⟩
    have hm : min (h a) (h b) = h a ∨ min (h a) (h b) = h b := by omega
    refine ⟨Nat.le_trans (dr_le g h a b c) ic.1, ?_, fun T t => ?_⟩
    · rw [dr_yes q]
      unfold uN
      by_cases e1 : c = b
      · rw [if_pos e1]
        rcases hm with e | e <;> rw [e]
        · exact ia.2.1
        · exact ib.2.1
      · rw [if_neg e1]
        by_cases e2 : c = a
        · rw [if_pos e2]
          rcases hm with e | e <;> rw [e]
          · exact ia.2.1
          · exact ib.2.1
        · rw [if_neg e2]
          exact ic.2.1
    · obtain ⟨t1, t2, t3⟩ := hT T t
      rw [dr_yes q]
      unfold uN
      by_cases e1 : c = b
      · rw [if_pos e1, e1]
        rcases hm with e | e <;> rw [e]
        · rw [t1, t3]
        · rw [t2]
      · rw [if_neg e1]
        by_cases e2 : c = a
        · rw [if_pos e2, e2]
          rcases hm with e | e <;> rw [e]
          · rw [t1]
          · rw [t2, t3]
        · rw [if_neg e2]
          exact ic.2.2 T t
theorem nI_n9 {n : Nat} (h : n < 1000) : ¬ nI n = (-9 : Int32) := fun q => by
  have := congrArg Int32.toInt q
  rw [nI_toInt (by omega), show (-9 : Int32).toInt = -9 from rfl] at this
  omega
theorem draw_eq (o : tMo) {g : tG} (hg : GG g) {ho : tA} {h : Nat → Nat} (hR : hoR g ho h) (hi : lInv g h) {a b : Nat} (ha : a < gN g) (hb : b < gN g) : ∃ ho', fX5_draw o ho (nI a) (nI b) = some (if drC g h a b then 1 else 0, ho') ∧ hoR g ho' (dr g h a b) := by
  have h36 := gN_le hg
  by_cases q : drC g h a b = true
  · have q2 := q
    unfold drC at q2
    rw [Bool.and_eq_true, Bool.and_eq_true, decide_eq_true_eq] at q2
    obtain ⟨⟨Ha, Hb⟩, hne⟩ := q2
    have ia := (hi a ha Ha).1
    have ib := (hi b hb Hb).1
    have ea : ho a = nI (h a) := by rw [hR a ha, if_pos Ha]
    have eb : ho b = nI (h b) := by rw [hR b hb, if_pos Hb]
    refine ⟨upd (upd ho a (nI (min (h a) (h b)))) b (nI (min (h a) (h b))), ?_, ?_⟩
    · rw [fX5_draw]
      simp only [gd_inb (show a < 36 by omega) (show 36 < 2 ^ 31 by decide), gd_inb (show b < 36 by omega) (show 36 < 2 ^ 31 by decide), toN (show a < 2 ^ 31 by omega), toN (show b < 2 ^ 31 by omega), nm_eq, ea, eb]
      rw [if_neg (nI_n9 (by omega)), if_neg (nI_n9 (by omega)), if_neg (fun e => hne ((nI_eq (by omega) (by omega)).mp e)), if_pos q]
      by_cases l : h b ≤ h a
      · rw [if_pos (nI_le l (by omega)), show min (h a) (h b) = h b by omega]
      · rw [if_neg (nI_ge (by omega) (by omega)), show min (h a) (h b) = h a by omega]
    · intro c hc
      rw [dr_yes q]
      unfold uN
      by_cases e1 : c = b
      · rw [e1, pk_us, if_pos Hb, if_pos rfl]
      · rw [pk_un e1, if_neg e1]
        by_cases e2 : c = a
        · rw [e2, pk_us, if_pos Ha, if_pos rfl]
        · rw [pk_un e2, if_neg e2]
          exact hR c hc
  · refine ⟨ho, ?_, ?_⟩
    · rw [if_neg q, fX5_draw]
      simp only [gd_inb (show a < 36 by omega) (show 36 < 2 ^ 31 by decide), gd_inb (show b < 36 by omega) (show 36 < 2 ^ 31 by decide), toN (show a < 2 ^ 31 by omega), toN (show b < 2 ^ 31 by omega), nm_eq, hR a ha, hR b hb]
      cases Ha : HH g a
      · rw [if_pos (by rfl)]
      · have ia := (hi a ha Ha).1
        rw [if_pos rfl, if_neg (nI_n9 (by omega))]
        cases Hb : HH g b
        · rw [if_pos (by rfl)]
        · have he : h a = h b := Decidable.byContradiction (fun e => q (by unfold drC; rw [Ha, Hb, decide_eq_true e]; rfl))
          have ib := (hi b hb Hb).1
          rw [if_pos rfl, if_neg (nI_n9 (by omega)), if_pos (by rw [he])]
    · rw [dr_no (by cases e : drC g h a b; rfl; exact absurd e q)]
      exact hR
/-! a pass over the grid -/
def yR (g : tG) (v : Nat) : Nat := if v % gw g + 1 < gw g then v + 1 else v
def yD (g : tG) (v : Nat) : Nat := if v + gw g < gN g then v + gw g else v
theorem yR_ok {g : tG} (hg : GG g) {v : Nat} (hv : v < gN g) : yR g v < gN g ∧ (v = yR g v ∨ nxt g v (yR g v)) := by
  unfold yR
  split
  · exact ⟨nxt_lt hg hv (Or.inl ⟨by assumption, rfl⟩), Or.inr (Or.inl ⟨by assumption, rfl⟩)⟩
  · exact ⟨hv, Or.inl rfl⟩
theorem yD_ok {g : tG} {v : Nat} (hv : v < gN g) : yD g v < gN g ∧ (v = yD g v ∨ nxt g v (yD g v)) := by
  unfold yD
  split
  · exact ⟨by assumption, Or.inr (Or.inr ⟨by assumption, rfl⟩)⟩
  · exact ⟨hv, Or.inl rfl⟩
def bI (b : Bool) : Int32 := if b then 1 else 0
theorem pass_step {o : tMo} {w : tA} {g : tG} (hg : GG g) (hR : RR o w g) (k169 : Int32 → tA → Option (Int32 × tA)) {v : Nat} (hv : v < gN g) {h : Nat → Nat} {ho : tA} (hh : hoR g ho h) (hi : lInv g h) (ch : Bool) (f : Nat) : ∃ ho', fX5_layHollows_61 o w k169 (f + 1) (bI ch) (nI v) ho = fX5_layHollows_61 o w k169 f (bI (ch || drC g h v (yR g v) || drC g (dr g h v (yR g v)) v (yD g v))) (nI (v + 1)) ho' ∧ hoR g ho' (dr g (dr g h v (yR g v)) v (yD g v)) := by
  have h36 := gN_le hg
  have w1 := hg.1
  have hcol := col_lt hg v
  have r1 := yR_ok hg hv
  have r2 := yD_ok hv
  obtain ⟨ho1, d1, d2⟩ := draw_eq o hg hh hi hv r1.1
  have hi1 := lInv_dr hi hv r1.1 r1.2
  obtain ⟨ho2, d3, d4⟩ := draw_eq o hg d2 hi1 hv r2.1
  refine ⟨ho2, ?_, d4⟩
  rw [fX5_layHollows_61, cells_eq hR, some_bind, if_neg (nI_ge (by omega) (by omega)), hR.1, gd_nz (by omega) (by omega), pk_rem (by omega) (by omega) (by omega), nI_add1, nI_add1, nI_add]
  simp only [some_bind, nm_eq]
  have s2 : ∀ A B : Option (Int32 × tA), (if nI (gN g) ≤ nI (v + gw g) then A else B) = if v + gw g < gN g then B else A := fun A B => by
    by_cases e : v + gw g < gN g
    · rw [if_pos e, if_neg (nI_ge e (by omega))]
    · rw [if_neg e, if_pos (nI_le (by omega) (by omega))]
  simp only [s2]
  by_cases e1 : v % gw g + 1 < gw g
  · rw [if_neg (nI_ge e1 (by omega))]
    rw [show yR g v = v + 1 from if_pos e1] at d1 d3 ⊢
    rw [d1, some_bind]
    by_cases e2 : v + gw g < gN g
    · rw [show yD g v = v + gw g from if_pos e2] at d3 ⊢
      simp only [if_pos e2, d3, some_bind]
      cases drC g h v (v + 1) <;> cases ch <;> cases drC g (dr g h v (v + 1)) v (v + gw g) <;> rfl
    · rw [show yD g v = v from if_neg e2] at d3 ⊢
      simp only [if_neg e2, d3, some_bind]
      cases drC g h v (v + 1) <;> cases ch <;> cases drC g (dr g h v (v + 1)) v v <;> rfl
  · rw [if_pos (nI_le (by omega) (by omega))]
    rw [show yR g v = v from if_neg e1] at d1 d3 ⊢
    rw [d1, some_bind]
    by_cases e2 : v + gw g < gN g
    · rw [show yD g v = v + gw g from if_pos e2] at d3 ⊢
      simp only [if_pos e2, d3, some_bind]
      cases drC g h v v <;> cases ch <;> cases drC g (dr g h v v) v (v + gw g) <;> rfl
    · rw [show yD g v = v from if_neg e2] at d3 ⊢
      simp only [if_neg e2, d3, some_bind]
      cases drC g h v v <;> cases ch <;> cases drC g (dr g h v v) v v <;> rfl
theorem drC_sta {g : tG} {h : Nat → Nat} {a b : Nat} (q : drC g h a b = false) (Ha : HH g a = true) (Hb : HH g b = true) : h a = h b := by
  unfold drC at q
  rw [Ha, Hb] at q
  exact Decidable.byContradiction (fun e => by rw [decide_eq_true e] at q; cases q)
theorem pass_loop {o : tMo} {w : tA} {g : tG} (hg : GG g) (hR : RR o w g) (k169 : Int32 → tA → Option (Int32 × tA)) : ∀ (d v f : Nat) (ch : Bool) (h : Nat → Nat) (ho : tA), v + d = gN g → d < f → hoR g ho h → lInv g h → ∃ (ho' : tA) (h' : Nat → Nat) (ch' : Bool), fX5_layHollows_61 o w k169 f (bI ch) (nI v) ho = k169 (bI ch') ho' ∧ hoR g ho' h' ∧ lInv g h' ∧ smN h' (gN g) ≤ smN h (gN g) ∧ (ch' = false → ch = false ∧ h' = h ∧ ∀ x y, v ≤ x → x < gN g → HH g x = true → HH g y = true → nxt g x y → h x = h y) ∧ (ch' = true → ch = true ∨ smN h' (gN g) < smN h (gN g)) := by
  have h36 := gN_le hg
  intro d
  induction d with
  | zero =>
    intro v f ch h ho h1 h2 hh hi
    obtain ⟨f, rfl⟩ : ∃ m, f = m + 1 := ⟨f - 1, by omega⟩
    refine ⟨ho, h, ch, ?_, hh, hi, Nat.le_refl _, fun q => ⟨q, rfl, fun x y q1 q2 => absurd q1 (by omega)⟩, fun q => Or.inl q⟩
    rw [fX5_layHollows_61, cells_eq hR, some_bind, if_pos (nI_le (by omega) (by omega))]
  | succ d ih =>
    intro v f ch h ho h1 h2 hh hi
    obtain ⟨f, rfl⟩ : ∃ m, f = m + 1 := ⟨f - 1, by omega⟩
    have hv : v < gN g := by omega
    have r1 := yR_ok hg hv
    have r2 := yD_ok hv
    have hi1 := lInv_dr hi hv r1.1 r1.2
    have hi2 := lInv_dr hi1 hv r2.1 r2.2
    obtain ⟨ho1, e1, e2⟩ := pass_step hg hR k169 hv hh hi ch f
    obtain ⟨ho', h', ch', f1, f2, f3, f4, f5, f6⟩ := ih (v + 1) f _ _ ho1 (by omega) (by omega) e2 hi2
    have m1 : smN (dr g h v (yR g v)) (gN g) ≤ smN h (gN g) := smN_mono (fun c _ => dr_le g h v (yR g v) c)
    have m2 : smN (dr g (dr g h v (yR g v)) v (yD g v)) (gN g) ≤ smN (dr g h v (yR g v)) (gN g) := smN_mono (fun c _ => dr_le g _ v (yD g v) c)
    refine ⟨ho', h', ch', e1.trans f1, f2, f3, by omega, fun q => ?_, fun q => ?_⟩
    · obtain ⟨g1, g2, g3⟩ := f5 q
      rw [Bool.or_eq_false_iff, Bool.or_eq_false_iff] at g1
      obtain ⟨⟨c0, c1⟩, c2⟩ := g1
      rw [dr_no c1] at c2 g2 g3
      rw [dr_no c2] at g2 g3
      refine ⟨c0, g2, fun x y q1 q2 q3 q4 q5 => ?_⟩
      by_cases e : x = v
      · subst e
        rcases q5 with ⟨p1, p2⟩ | ⟨p1, p2⟩
        · rw [show yR g x = y by rw [p2]; exact if_pos p1] at c1
          exact drC_sta c1 q3 q4
        · rw [show yD g x = y by rw [p2]; exact if_pos p1] at c2
          exact drC_sta c2 q3 q4
      · exact g3 x y (by omega) q2 q3 q4 q5
    · rcases f6 q with c | c
      · cases c0 : ch
        · rw [c0] at c
          cases c1 : drC g h v (yR g v)
          · rw [c1] at c
            rw [Bool.false_or, Bool.false_or] at c
            have := dr_lt hv r2.1 c
            exact Or.inr (by omega)
          · have := dr_lt hv r1.1 c1
            exact Or.inr (by omega)
        · exact Or.inl rfl
      · exact Or.inr (by omega)
theorem lay_outer {o : tMo} {w : tA} {g : tG} (hg : GG g) (hR : RR o w g) (k172 : tA → Option (Int32 × tA)) : ∀ (m f : Nat) (h : Nat → Nat) (ho : tA), smN h (gN g) ≤ m → m + 2 ≤ f → hoR g ho h → lInv g h → ∃ (ho' : tA) (h' : Nat → Nat), fX5_layHollows_50 o w k172 f 1 ho = k172 ho' ∧ hoR g ho' h' ∧ lInv g h' ∧ lSta g h' := by
  have h36 := gN_le hg
  intro m
  induction m with
  | zero =>
    intro f h ho h1 h2 hh hi
    obtain ⟨f, rfl⟩ : ∃ m, f = m + 2 := ⟨f - 2, by omega⟩
    obtain ⟨ho', h', ch', e1, e2, e3, e4, e5, e6⟩ := pass_loop hg hR (fun y79 ho80 => fX5_layHollows_50 o w k172 (f + 1) y79 ho80) (gN g) 0 100000 false h ho (by omega) (by omega) hh hi
    cases c : ch'
    · obtain ⟨-, g2, g3⟩ := e5 c
      refine ⟨ho', h', ?_, e2, e3, ?_⟩
      · rw [fX5_layHollows_50, if_neg one_ne]
        refine e1.trans ?_
        rw [c]
        show fX5_layHollows_50 o w k172 (f + 1) 0 ho' = _
        rw [fX5_layHollows_50, if_pos rfl]
      · rw [g2]
        exact fun x y q1 _ q3 q4 q5 => g3 x y (by omega) q1 q3 q4 q5
    · rcases e6 c with q | q
      · cases q
      · exact absurd q (by omega)
  | succ m ih =>
    intro f h ho h1 h2 hh hi
    obtain ⟨f, rfl⟩ : ∃ m, f = m + 2 := ⟨f - 2, by omega⟩
    obtain ⟨ho', h', ch', e1, e2, e3, e4, e5, e6⟩ := pass_loop hg hR (fun y79 ho80 => fX5_layHollows_50 o w k172 (f + 1) y79 ho80) (gN g) 0 100000 false h ho (by omega) (by omega) hh hi
    cases c : ch'
    · obtain ⟨-, g2, g3⟩ := e5 c
      refine ⟨ho', h', ?_, e2, e3, ?_⟩
      · rw [fX5_layHollows_50, if_neg one_ne]
        refine e1.trans ?_
        rw [c]
        show fX5_layHollows_50 o w k172 (f + 1) 0 ho' = _
        rw [fX5_layHollows_50, if_pos rfl]
      · rw [g2]
        exact fun x y q1 _ q3 q4 q5 => g3 x y (by omega) q1 q3 q4 q5
    · rcases e6 c with q | q
      · cases q
      · obtain ⟨ho2, h2', a1, a2, a3, a4⟩ := ih (f + 1) h' ho' (by omega) (by omega) e2 e3
        refine ⟨ho2, h2', ?_, a2, a3, a4⟩
        rw [fX5_layHollows_50, if_neg one_ne]
        refine e1.trans ?_
        rw [c]
        exact a1
theorem lay_first {o : tMo} {w : tA} {g : tG} (hg : GG g) (hR : RR o w g) (k47 : tA → Option (Int32 × tA)) : ∀ (d v f : Nat) (ho : tA), v + d = gN g → d < f → (∀ c, c < v → ho c = if HH g c then nI c else -9) → ∃ ho', fX5_layHollows_9 o w (lN (mk (seenA g) (gN g))) k47 f (nI v) ho = k47 ho' ∧ hoR g ho' (fun c => c) := by
  have h36 := gN_le hg
  intro d
  induction d with
  | zero =>
    intro v f ho h1 h2 hh
    obtain ⟨f, rfl⟩ : ∃ m, f = m + 1 := ⟨f - 1, by omega⟩
    refine ⟨ho, ?_, fun c hc => hh c (by omega)⟩
    rw [fX5_layHollows_9, cells_eq hR, some_bind, if_pos (nI_le (by omega) (by omega))]
  | succ d ih =>
    intro v f ho h1 h2 hh
    obtain ⟨f, rfl⟩ : ∃ m, f = m + 1 := ⟨f - 1, by omega⟩
    have hlt := mk_lt36 (seenA g) h36
    have hx : HH g v = !seenA g v := hid_seen g v
    rw [fX5_layHollows_9, cells_eq hR, some_bind, if_neg (nI_ge (by omega) (by omega)), has_eq (by omega) (by omega), some_bind, mk_bit, decide_eq_true (show v < gN g by omega), Bool.true_and]
    simp only [gd_inb (show v < 36 by omega) (show 36 < 2 ^ 31 by decide), nm_eq, nI_add1, toN (show v < 2 ^ 31 by omega)]
    cases q : seenA g v
    · rw [if_pos (by rfl)]
      refine ih (v + 1) f _ (by omega) (by omega) (fun c hc => ?_)
      by_cases e : c = v
      · rw [e, pk_us, hx, q]
        rfl
      · rw [pk_un e]
        exact hh c (by omega)
    · rw [if_neg (by decide)]
      refine ih (v + 1) f _ (by omega) (by omega) (fun c hc => ?_)
      by_cases e : c = v
      · rw [e, pk_us, hx, q]
        rfl
      · rw [pk_un e]
        exact hh c (by omega)
def isR (g : tG) (h : Nat → Nat) (c : Nat) : Bool := HH g c && decide (h c = c)
theorem root_if {g : tG} (hg : GG g) {ho : tA} {h : Nat → Nat} (hh : hoR g ho h) (hi : lInv g h) {c : Nat} (hc : c < gN g) : ho c = nI c ↔ isR g h c = true := by
  have h36 := gN_le hg
  unfold isR
  rw [hh c hc]
  cases q : HH g c
  · exact ⟨fun e => absurd e.symm (nI_n9 (by omega)), fun e => (by cases e)⟩
  · have := (hi c hc q).1
    rw [if_pos rfl, Bool.true_and, decide_eq_true_eq]
    exact nI_eq (by omega) (by omega)
theorem lay_count {o : tMo} {w : tA} {g : tG} (hg : GG g) (hR : RR o w g) {ho : tA} {h : Nat → Nat} (hh : hoR g ho h) (hi : lInv g h) (k215 : Int32 → Option (Int32 × tA)) : ∀ (d v f : Nat), v + d = gN g → d < f → fX5_layHollows_178 o w ho k215 f (nI (cnt (isR g h) v)) (nI v) = k215 (nI (cnt (isR g h) (gN g))) := by
  have h36 := gN_le hg
  intro d
  induction d with
  | zero =>
    intro v f h1 h2
    obtain ⟨f, rfl⟩ : ∃ m, f = m + 1 := ⟨f - 1, by omega⟩
    rw [fX5_layHollows_178, cells_eq hR, some_bind, if_pos (nI_le (by omega) (by omega)), show v = gN g by omega]
  | succ d ih =>
    intro v f h1 h2
    obtain ⟨f, rfl⟩ : ∃ m, f = m + 1 := ⟨f - 1, by omega⟩
    have ihh := ih (v + 1) f (by omega) (by omega)
    rw [cnt] at ihh
    have hr := root_if hg hh hi (c := v) (by omega)
    rw [fX5_layHollows_178, cells_eq hR, some_bind, if_neg (nI_ge (by omega) (by omega)), gd_inb (by omega) (by decide), toN (by omega)]
    cases q : isR g h v
    · rw [if_neg (fun e => by have := hr.mp e; rw [q] at this; cases this), nm_eq, nm_eq, nI_add1, show (0 : Int32) = nI 0 from rfl, nI_add]
      rw [q] at ihh
      exact ihh
    · rw [if_pos (hr.mpr q), nm_eq, nm_eq, nI_add1, nI_add1]
      rw [q] at ihh
      exact ihh
theorem number_eq {o : tMo} {g : tG} (hg : GG g) {ho : tA} {h : Nat → Nat} (hh : hoR g ho h) (hi : lInv g h) {r : Nat} (hr : r ≤ gN g) : fX5_numberOf o ho (nI r) = some (nI (cnt (isR g h) r)) := by
  have h36 := gN_le hg
  have hl : ∀ (d v f : Nat), v + d = r → d < f → fX5_numberOf_4 o ho (nI r) (fun y6 => some y6) f (nI (cnt (isR g h) v)) (nI v) = some (nI (cnt (isR g h) r)) := by
    intro d
    induction d with
    | zero =>
      intro v f h1 h2
      obtain ⟨f, rfl⟩ : ∃ m, f = m + 1 := ⟨f - 1, by omega⟩
      rw [fX5_numberOf_4, if_pos (nI_le (by omega) (by omega)), show v = r by omega]
    | succ d ih =>
      intro v f h1 h2
      obtain ⟨f, rfl⟩ : ∃ m, f = m + 1 := ⟨f - 1, by omega⟩
      have ihh := ih (v + 1) f (by omega) (by omega)
      rw [cnt] at ihh
      have hr := root_if hg hh hi (c := v) (by omega)
      rw [fX5_numberOf_4, if_neg (nI_ge (by omega) (by omega)), gd_inb (by omega) (by decide), toN (by omega)]
      cases q : isR g h v
      · rw [if_neg (fun e => by have := hr.mp e; rw [q] at this; cases this), nm_eq, nm_eq, nI_add1, show (0 : Int32) = nI 0 from rfl, nI_add]
        rw [q] at ihh
        exact ihh
      · rw [if_pos (hr.mpr q), nm_eq, nm_eq, nI_add1, nI_add1]
        rw [q] at ihh
        exact ihh
  rw [fX5_numberOf]
  exact hl r 0 100000 (by omega) (by omega)
theorem smN_id_le : ∀ n, n ≤ 36 → smN (fun c => c) n ≤ 36 * 36 := fun n hn => Nat.le_trans (smN_le (c := 36) (fun k hk => by omega)) (Nat.mul_le_mul_right _ hn)
theorem lay_eqH {o : tMo} {w : tA} {g : tG} (hg : GG g) (hR : RR o w g) (ho : tA) : ∃ (ho' : tA) (h : Nat → Nat), fX5_layHollows o w ho = some (nI (cnt (isR g h) (gN g)), ho') ∧ hoR g ho' h ∧ lInv g h ∧ lSta g h := by
  have h36 := gN_le hg
  obtain ⟨ho1, e1, e2⟩ := lay_first hg hR (fun ho11 => fX5_layHollows_50 o w (fun ho81 => fX5_layHollows_178 o w ho81 (fun y89 => some (y89, ho81)) 100000 (0 : Int32) (0 : Int32)) 100000 (1 : Int32) ho11) (gN g) 0 100000 ho (by omega) (by omega) (fun c hc => absurd hc (by omega))
  have hi0 : lInv g (fun c => c) := fun c hc hH => ⟨Nat.le_refl _, hH, fun _ _ => rfl⟩
  obtain ⟨ho2, h, a1, a2, a3, a4⟩ := lay_outer hg hR (fun ho81 => fX5_layHollows_178 o w ho81 (fun y89 => some (y89, ho81)) 100000 (0 : Int32) (0 : Int32)) (36 * 36) 100000 (fun c => c) ho1 (smN_id_le _ h36) (by decide) e2 hi0
  refine ⟨ho2, h, ?_, a2, a3, a4⟩
  rw [fX5_layHollows, watchedAny_eq hg hR, some_bind]
  refine (e1.trans a1).trans ?_
  exact lay_count hg hR a2 a3 _ (gN g) 0 100000 (by omega) (by omega)
