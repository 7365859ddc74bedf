/-! Changes of the grid. -/
def uN (f : Nat → Nat) (k x : Nat) : Nat → Nat := fun j => if j = k then x else f j
theorem u_nI {f : tA} {h : Nat → Nat} {k x j : Nat} (e : f j = nI (h j)) : upd f k (nI x) j = nI (uN h k x j) := by
  unfold uN
  by_cases q : j = k
  · subst q
    rw [pk_us, if_pos rfl]
  · rw [pk_un q, if_neg q, e]
def setT (g : tG) (a v : Nat) : tG := (gw g, gh g, gT g, uN (gt g) a v, gc g, gr g, gs g)
def setS (g : tG) (k v : Nat) : tG := (gw g, gh g, gT g, gt g, gc g, gr g, uN (gs g) k v)
def insF (f : Nat → Nat) (p x : Nat) : Nat → Nat := fun k => if k < p then f k else if k = p then x else f (k - 1)
def delF (f : Nat → Nat) (t : Nat) : Nat → Nat := fun k => if k < t then f k else f (k + 1)
def insT (g : tG) (p c r : Nat) : tG := (gw g, gh g, gT g + 1, gt g, insF (gc g) p c, insF (gr g) p r, gs g)
def delT (g : tG) (t : Nat) : tG := (gw g, gh g, gT g - 1, gt g, delF (gc g) t, delF (gr g) t, gs g)
theorem GG_setT {g : tG} (hg : GG g) {a v : Nat} (hv : v ≤ 9) : GG (setT g a v) := by
  refine ⟨hg.1, hg.2.1, hg.2.2.1, fun k hk => ?_, hg.2.2.2.2⟩
  show uN (gt g) a v k ≤ 9
  unfold uN
  split
  · exact hv
  · exact hg.2.2.2.1 k hk
theorem GG_setS {g : tG} (hg : GG g) {k v : Nat} (hv : v ≤ 9) (h3 : k = 3 → 1 ≤ v) : GG (setS g k v) := by
  refine ⟨hg.1, hg.2.1, hg.2.2.1, hg.2.2.2.1, hg.2.2.2.2.1, hg.2.2.2.2.2.1, fun j hj => ?_, ?_⟩
  · show uN (gs g) k v j ≤ 9
    unfold uN
    split
    · exact hv
    · exact hg.2.2.2.2.2.2.1 j hj
  · show 1 ≤ uN (gs g) k v 3
    unfold uN
    split
    · exact h3 (by omega)
    · exact hg.2.2.2.2.2.2.2
theorem GG_insT {g : tG} (hg : GG g) {p c r : Nat} (hp : p ≤ gT g) (hT : gT g < 5) (hc : c < gN g) (hr : r ≤ 9) : GG (insT g p c r) := by
  refine ⟨hg.1, hg.2.1, hT, hg.2.2.2.1, fun k hk => ?_, fun k hk => ?_, hg.2.2.2.2.2.2⟩
  · have hk2 : k < gT g + 1 := hk
    show insF (gc g) p c k < gN g
    unfold insF
    split
    · exact hg.2.2.2.2.1 k (by omega)
    · split
      · exact hc
      · exact hg.2.2.2.2.1 (k - 1) (by omega)
  · have hk2 : k < gT g + 1 := hk
    show insF (gr g) p r k ≤ 9
    unfold insF
    split
    · exact hg.2.2.2.2.2.1 k (by omega)
    · split
      · exact hr
      · exact hg.2.2.2.2.2.1 (k - 1) (by omega)
theorem GG_delT {g : tG} (hg : GG g) {t : Nat} (ht : t < gT g) : GG (delT g t) := by
  have h5 := hg.2.2.1
  refine ⟨hg.1, hg.2.1, by show gT g - 1 ≤ 5; omega, hg.2.2.2.1, fun k hk => ?_, fun k hk => ?_, hg.2.2.2.2.2.2⟩
  · have hk2 : k < gT g - 1 := hk
    show delF (gc g) t k < gN g
    unfold delF
    split <;> exact hg.2.2.2.2.1 _ (by omega)
  · have hk2 : k < gT g - 1 := hk
    show delF (gr g) t k ≤ 9
    unfold delF
    split <;> exact hg.2.2.2.2.2.1 _ (by omega)
/-! the class's Land -/
theorem putHeight_eq {L : tL} {g : tG} (hg : GG g) (hL : LL L g) {a v : Nat} (ha : a < gN g) : ∃ L', fX1_putHeight L (nI a) (nI v) = some (1, L') ∧ LL L' (setT g a v) := by
  have h36 := gN_le hg
  refine ⟨(L.1, L.2.1, L.2.2.1, upd L.2.2.2.1 a (nI v), L.2.2.2.2.1, L.2.2.2.2.2.1, L.2.2.2.2.2.2), ?_, hL.1, hL.2.1, hL.2.2.1, fun k hk => u_nI (hL.2.2.2.1 k hk), hL.2.2.2.2⟩
  rw [fX1_putHeight, hasCell_yes hg hL ha, some_bind, if_neg one_ne, if_pos (show nI a < (36 : Int32) from nI_lt (b := 36) (by omega) (by decide)), gd_inb (by omega) (by decide), toN (by omega)]
theorem isSetting_yes {k v : Nat} (hk : k < 4) (hv : v ≤ 9) (h3 : k = 3 → 1 ≤ v) : fX4_isSetting (nI k) (nI v) = some 1 := by
  rw [fX4_isSetting, if_neg (nI_pos (by omega)), if_neg (show ¬ (4 : Int32) ≤ nI k from nI_ge (b := 4) hk (by decide)), fX4_lowestValue]
  by_cases h : k = 3
  · rw [if_pos (show nI k = (3 : Int32) by rw [h]; rfl), some_bind, if_neg (show ¬ nI v < (1 : Int32) from nI_nlt (b := 1) (h3 h) (by omega)), if_neg (show ¬ (9 : Int32) < nI v from nI_nlt (a := 9) hv (by decide))]
  · rw [if_neg (show ¬ nI k = (3 : Int32) from fun q => h ((nI_eq (b := 3) (by omega) (by decide)).mp q)), some_bind, if_neg (nI_pos (by omega)), if_neg (show ¬ (9 : Int32) < nI v from nI_nlt (a := 9) hv (by decide))]
theorem putSetting_eq {L : tL} {g : tG} (hL : LL L g) {k v : Nat} (hk : k < 4) (hv : v ≤ 9) (h3 : k = 3 → 1 ≤ v) : ∃ L', fX1_putSetting L (nI k) (nI v) = some (1, L') ∧ LL L' (setS g k v) := by
  refine ⟨(L.1, L.2.1, L.2.2.1, L.2.2.2.1, L.2.2.2.2.1, L.2.2.2.2.2.1, upd L.2.2.2.2.2.2 k (nI v)), ?_, hL.1, hL.2.1, hL.2.2.1, hL.2.2.2.1, hL.2.2.2.2.1, hL.2.2.2.2.2.1, fun j hj => u_nI (hL.2.2.2.2.2.2 j hj)⟩
  rw [fX1_putSetting, isSetting_yes hk hv h3, some_bind, if_neg one_ne, gd_inb (by omega) (by decide), toN (by omega)]
/-- entries from v on move one place down, below T -/
def shD (f : tA) (v T : Nat) : tA := fun k => if v ≤ k + 1 ∧ k + 1 < T then f (k + 1) else f k
theorem shD_end (f : tA) (T : Nat) : shD f T T = f := funext (fun k => if_neg (by omega))
theorem shD_step (f : tA) {v T : Nat} (h1 : 1 ≤ v) (h2 : v < T) : shD (upd f (v - 1) (f v)) (v + 1) T = shD f v T := by
  funext k
  unfold shD
  by_cases h : v + 1 ≤ k + 1 ∧ k + 1 < T
  · rw [if_pos h, if_pos (by omega), pk_un (by omega)]
  · rw [if_neg h]
    by_cases q : k = v - 1
    · rw [q, pk_us, if_pos (by omega), show v - 1 + 1 = v by omega]
    · rw [pk_un q, if_neg (by omega)]
theorem drop_loop {T : Nat} (hT : T ≤ 5) (k61 : tL → Option (Int32 × tL)) : ∀ (d v f : Nat) (L : tL), L.2.2.1 = nI T → 1 ≤ v → v + d = T → d < f → fX1_dropTower_14 k61 f (nI v) L = k61 (L.1, L.2.1, L.2.2.1, L.2.2.2.1, shD L.2.2.2.2.1 v T, shD L.2.2.2.2.2.1 v T, L.2.2.2.2.2.2) := by
  intro d
  induction d with
  | zero =>
    intro v f L h0 h1 h2 h3
    obtain ⟨f, rfl⟩ : ∃ m, f = m + 1 := ⟨f - 1, by omega⟩
    rw [fX1_dropTower_14, h0, if_pos (nI_le (by omega) (by omega)), show v = T by omega, shD_end, shD_end, ← h0]
  | succ d ih =>
    intro v f L h0 h1 h2 h3
    obtain ⟨f, rfl⟩ : ∃ m, f = m + 1 := ⟨f - 1, by omega⟩
    rw [fX1_dropTower_14, h0, if_neg (nI_ge (by omega) (by omega)), if_neg (show ¬ (5 : Int32) ≤ nI v from nI_ge (b := 5) (by omega) (by decide)), show (1 : Int32) = nI 1 from rfl, pk_sub h1]
    simp only [gd_inb (show v < 5 by omega) (show 5 < 2 ^ 31 by decide), gd_inb (show v - 1 < 5 by omega) (show 5 < 2 ^ 31 by decide), toN (show v < 2 ^ 31 by omega), toN (show v - 1 < 2 ^ 31 by omega), nm_eq, nI_add]
    rw [← h0]
    refine (ih (v + 1) f (L.1, L.2.1, L.2.2.1, L.2.2.2.1, upd L.2.2.2.2.1 (v - 1) (L.2.2.2.2.1 v), upd L.2.2.2.2.2.1 (v - 1) (L.2.2.2.2.2.1 v), L.2.2.2.2.2.2) h0 (by omega) (by omega) (by omega)).trans ?_
    dsimp only
    rw [shD_step _ h1 (by omega), shD_step _ h1 (by omega)]
theorem dropTower_eq {L : tL} {g : tG} (hg : GG g) (hL : LL L g) {t : Nat} (ht : t < gT g) : ∃ L', fX1_dropTower L (nI t) = some (1, L') ∧ LL L' (delT g t) := by
  have h5 := hg.2.2.1
  refine ⟨(L.1, L.2.1, nI (gT g - 1), L.2.2.2.1, shD L.2.2.2.2.1 (t + 1) (gT g), shD L.2.2.2.2.2.1 (t + 1) (gT g), L.2.2.2.2.2.2), ?_, hL.1, hL.2.1, rfl, hL.2.2.2.1, fun k hk => ?_, fun k hk => ?_, hL.2.2.2.2.2.2⟩
  · rw [fX1_dropTower, hasTower_eq hg hL ht, some_bind, if_neg one_ne, nm_eq, nI_add1]
    refine (drop_loop h5 _ (gT g - (t + 1)) (t + 1) 100000 L hL.2.2.1 (by omega) (by omega) (by omega)).trans ?_
    dsimp only
    rw [nm_eq, hL.2.2.1, show (1 : Int32) = nI 1 from rfl, pk_sub (by omega)]
  · have hk2 : k < gT g - 1 := hk
    show shD L.2.2.2.2.1 (t + 1) (gT g) k = nI (delF (gc g) t k)
    unfold shD delF
    by_cases q : k < t
    · rw [if_neg (by omega), if_pos q, hL.2.2.2.2.1 k (by omega)]
    · rw [if_pos (by omega), if_neg q, hL.2.2.2.2.1 (k + 1) (by omega)]
  · have hk2 : k < gT g - 1 := hk
    show shD L.2.2.2.2.2.1 (t + 1) (gT g) k = nI (delF (gr g) t k)
    unfold shD delF
    by_cases q : k < t
    · rw [if_neg (by omega), if_pos q, hL.2.2.2.2.2.1 k (by omega)]
    · rw [if_pos (by omega), if_neg q, hL.2.2.2.2.2.1 (k + 1) (by omega)]
def shU (f : tA) (p d : Nat) : tA := fun k => if p < k ∧ k ≤ p + d then f (k - 1) else f k
theorem shU_end (f : tA) (p : Nat) : shU f p 0 = f := funext (fun k => if_neg (by omega))
theorem shU_step (f : tA) (p d : Nat) : shU (upd f (p + d + 1) (f (p + d))) p d = shU f p (d + 1) := by
  funext k
  unfold shU
  by_cases h : p < k ∧ k ≤ p + d
  · rw [if_pos h, if_pos (by omega), pk_un (by omega)]
  · rw [if_neg h]
    by_cases q : k = p + d + 1
    · rw [q, pk_us, if_pos (by omega), show p + d + 1 - 1 = p + d by omega]
    · rw [pk_un q, if_neg (by omega)]
theorem put_loop {p : Nat} (u2 u3 : Int32) (k80 : tL → Option (Int32 × tL)) : ∀ (d f : Nat) (L : tL), p + d ≤ 4 → d < f → fX1_putTower_36 (nI p) u2 u3 k80 f (nI (p + d)) L = k80 (L.1, L.2.1, L.2.2.1, L.2.2.2.1, shU L.2.2.2.2.1 p d, shU L.2.2.2.2.2.1 p d, L.2.2.2.2.2.2) := by
  intro d
  induction d with
  | zero =>
    intro f L h0 h1
    obtain ⟨f, rfl⟩ : ∃ m, f = m + 1 := ⟨f - 1, by omega⟩
    rw [fX1_putTower_36, if_pos (nI_le (by omega) (by omega)), shU_end, shU_end]
  | succ d ih =>
    intro f L h0 h1
    obtain ⟨f, rfl⟩ : ∃ m, f = m + 1 := ⟨f - 1, by omega⟩
    rw [fX1_putTower_36, if_neg (nI_ge (by omega) (by omega)), show nI (p + (d + 1)) + (-1 : Int32) = nI (p + d) by rw [show nI (p + (d + 1)) + (-1 : Int32) = nI (p + (d + 1)) - nI 1 by rw [Int32.sub_eq_add_neg]; rfl, pk_sub (by omega)]; rfl, show (1 : Int32) = nI 1 from rfl, pk_sub (by omega), show p + (d + 1) - 1 = p + d by omega]
    simp only [gd_inb (show p + (d + 1) < 5 by omega) (show 5 < 2 ^ 31 by decide), gd_inb (show p + d < 5 by omega) (show 5 < 2 ^ 31 by decide), toN (show p + (d + 1) < 2 ^ 31 by omega), toN (show p + d < 2 ^ 31 by omega), nm_eq]
    refine (ih f _ (by omega) (by omega)).trans ?_
    dsimp only
    rw [show p + (d + 1) = p + d + 1 from rfl, shU_step, shU_step]
theorem putTower_eq {L : tL} {g : tG} (hg : GG g) (hL : LL L g) {p c r : Nat} (hp : p ≤ gT g) (hT : gT g < 5) (hc : c < gN g) : ∃ L', fX1_putTower L (nI p) (nI c) (nI r) = some (1, L') ∧ LL L' (insT g p c r) := by
  refine ⟨(L.1, L.2.1, nI (gT g + 1), L.2.2.2.1, upd (shU L.2.2.2.2.1 p (gT g - p)) p (nI c), upd (shU L.2.2.2.2.2.1 p (gT g - p)) p (nI r), L.2.2.2.2.2.2), ?_, hL.1, hL.2.1, rfl, hL.2.2.2.1, fun k hk => ?_, fun k hk => ?_, hL.2.2.2.2.2.2⟩
  · rw [fX1_putTower, hasCell_yes hg hL hc, some_bind, if_neg one_ne, hL.2.2.1, if_neg (show ¬ (5 : Int32) ≤ nI (gT g) from nI_ge (b := 5) hT (by decide)), if_neg (nI_pos (by omega)), if_pos (nI_le hp (by omega)), show nI (gT g) = nI (p + (gT g - p)) by congr 1; omega]
    refine (put_loop _ _ _ (gT g - p) 100000 L (by omega) (by omega)).trans ?_
    dsimp only
    rw [gd_inb (by omega) (by decide), gd_inb (by omega) (by decide), nm_eq, hL.2.2.1, nI_add1, toN (by omega)]
  · have hk2 : k < gT g + 1 := hk
    show upd (shU L.2.2.2.2.1 p (gT g - p)) p (nI c) k = nI (insF (gc g) p c k)
    unfold insF
    by_cases q : k = p
    · rw [q, pk_us, if_neg (by omega), if_pos rfl]
    · rw [pk_un q]
      unfold shU
      by_cases q2 : k < p
      · rw [if_neg (by omega), if_pos q2, hL.2.2.2.2.1 k (by omega)]
      · rw [if_pos (by omega), if_neg q2, if_neg q, hL.2.2.2.2.1 (k - 1) (by omega)]
  · have hk2 : k < gT g + 1 := hk
    show upd (shU L.2.2.2.2.2.1 p (gT g - p)) p (nI r) k = nI (insF (gr g) p r k)
    unfold insF
    by_cases q : k = p
    · rw [q, pk_us, if_neg (by omega), if_pos rfl]
    · rw [pk_un q]
      unfold shU
      by_cases q2 : k < p
      · rw [if_neg (by omega), if_pos q2, hL.2.2.2.2.2.1 k (by omega)]
      · rw [if_pos (by omega), if_neg q2, if_neg q, hL.2.2.2.2.2.1 (k - 1) (by omega)]
/-! the reference's rows -/
theorem RQ_setT {wd hg : Int32} {w : tA} {g : tG} (h : RQ wd hg w g) {a v : Nat} (ha : a < 36) : RQ wd hg (upd w a (nI v)) (setT g a v) := by
  obtain ⟨h1, h2, h3, h4, h5, h6, h7⟩ := h
  refine ⟨h1, h2, fun k hk => u_nI (h3 k hk), ?_, fun k hk => ?_, fun k hk => ?_, fun k hk => ?_⟩
  · rw [pk_un (by omega)]; exact h4
  · rw [pk_un (by omega)]; exact h5 k hk
  · rw [pk_un (by omega)]; exact h6 k hk
  · rw [pk_un (by omega)]; exact h7 k hk
theorem RQ_setS {wd hg : Int32} {w : tA} {g : tG} (hG : GG g) (h : RQ wd hg w g) {j v : Nat} (hj : j < 4) : RQ wd hg (upd w (47 + j) (nI v)) (setS g j v) := by
  obtain ⟨h1, h2, h3, h4, h5, h6, h7⟩ := h
  have hT := hG.2.2.1
  refine ⟨h1, h2, fun k hk => ?_, ?_, fun k hk => ?_, fun k hk => ?_, fun k hk => ?_⟩
  · rw [pk_un (by omega)]; exact h3 k hk
  · rw [pk_un (by omega)]; exact h4
  · have hk2 : k < gT g := hk
    rw [pk_un (by omega)]; exact h5 k hk
  · have hk2 : k < gT g := hk
    rw [pk_un (by omega)]; exact h6 k hk
  · show upd w (47 + j) (nI v) (47 + k) = nI (uN (gs g) j v k)
    unfold uN
    by_cases q : k = j
    · rw [q, pk_us, if_pos rfl]
    · rw [pk_un (by omega), if_neg q, h7 k hk]
theorem buildOn_eq {wd hg : Int32} {w : tA} {g : tG} (h : RQ wd hg w g) (hT : gT g < 5) (c r : Nat) : ∃ w', fX5_buildOn w (nI c) (nI r) = some w' ∧ RQ wd hg w' (insT g (gT g) c r) := by
  obtain ⟨h1, h2, h3, h4, h5, h6, h7⟩ := h
  refine ⟨upd (upd (upd w (37 + gT g) (nI c)) (42 + gT g) (nI r)) 36 (nI (gT g + 1)), ?_, h1, h2, fun k hk => ?_, ?_, fun k hk => ?_, fun k hk => ?_, fun k hk => ?_⟩
  · rw [fX5_buildOn, show ((36 : Int32).toNatClampNeg) = 36 from rfl, h4, show (37 : Int32) = nI 37 from rfl, nI_add, gd_inb (by omega) (by decide), toN (by omega), pk_un (by omega), h4, show (42 : Int32) = nI 42 from rfl, nI_add, gd_inb (by omega) (by decide), toN (by omega), pk_un (by omega), pk_un (by omega), h4, nI_add1]
  · rw [pk_un (by omega), pk_un (by omega), pk_un (by omega)]; exact h3 k hk
  · rw [pk_us]; rfl
  · have hk2 : k < gT g + 1 := hk
    show _ = nI (insF (gc g) (gT g) c k)
    unfold insF
    by_cases q : k = gT g
    · rw [pk_un (by omega), pk_un (by omega), q, pk_us, if_neg (by omega), if_pos rfl]
    · rw [pk_un (by omega), pk_un (by omega), pk_un (by omega), if_pos (by omega), h5 k (by omega)]
  · have hk2 : k < gT g + 1 := hk
    show _ = nI (insF (gr g) (gT g) r k)
    unfold insF
    by_cases q : k = gT g
    · rw [pk_un (by omega), q, pk_us, if_neg (by omega), if_pos rfl]
    · rw [pk_un (by omega), pk_un (by omega), pk_un (by omega), if_pos (by omega), h6 k (by omega)]
  · rw [pk_un (by omega), pk_un (by omega), pk_un (by omega)]; exact h7 k hk
def rz (w : tA) (i n : Nat) : tA := fun j => if (37 + i ≤ j ∧ j < 37 + n) ∨ (42 + i ≤ j ∧ j < 42 + n) then w (j + 1) else w j
theorem rz_end (w : tA) (n : Nat) : rz w n n = w := funext (fun k => if_neg (by omega))
theorem rz_step (w : tA) {i n : Nat} (hi : i < n) (hn : n ≤ 4) : rz (upd (upd w (37 + i) (w (38 + i))) (42 + i) (w (43 + i))) (i + 1) n = rz w i n := by
  funext j
  unfold rz
  by_cases h : (37 + (i + 1) ≤ j ∧ j < 37 + n) ∨ (42 + (i + 1) ≤ j ∧ j < 42 + n)
  · rw [if_pos h, if_pos (by omega), pk_un (by omega), pk_un (by omega)]
  · rw [if_neg h]
    by_cases q : j = 42 + i
    · rw [q, pk_us, if_pos (by omega), show 43 + i = 42 + i + 1 by omega]
    · rw [pk_un q]
      by_cases q2 : j = 37 + i
      · rw [q2, pk_us, if_pos (by omega), show 38 + i = 37 + i + 1 by omega]
      · rw [pk_un q2, if_neg (by omega)]
theorem raze_loop {n : Nat} (hn : n ≤ 4) (k52 : tA → Option tA) : ∀ (d i f : Nat) (w : tA), w 36 = nI n → i + d = n → d < f → fX5_razeOf_10 k52 f (nI i) w = k52 (rz w i n) := by
  intro d
  induction d with
  | zero =>
    intro i f w h0 h1 h2
    obtain ⟨f, rfl⟩ : ∃ m, f = m + 1 := ⟨f - 1, by omega⟩
    rw [fX5_razeOf_10, show ((36 : Int32).toNatClampNeg) = 36 from rfl, h0, if_pos (nI_le (by omega) (by omega)), show i = n by omega, rz_end]
  | succ d ih =>
    intro i f w h0 h1 h2
    obtain ⟨f, rfl⟩ : ∃ m, f = m + 1 := ⟨f - 1, by omega⟩
    rw [fX5_razeOf_10, show ((36 : Int32).toNatClampNeg) = 36 from rfl, h0, if_neg (nI_ge (by omega) (by omega)), show (37 : Int32) = nI 37 from rfl, nI_add, nI_add1, show (42 : Int32) = nI 42 from rfl, nI_add, nI_add1, nI_add1]
    simp only [gd_inb (show 37 + i < 51 by omega) (show 51 < 2 ^ 31 by decide), gd_inb (show 37 + i + 1 < 51 by omega) (show 51 < 2 ^ 31 by decide), gd_inb (show 42 + i < 51 by omega) (show 51 < 2 ^ 31 by decide), gd_inb (show 42 + i + 1 < 51 by omega) (show 51 < 2 ^ 31 by decide), toN (show 37 + i < 2 ^ 31 by omega), toN (show 37 + i + 1 < 2 ^ 31 by omega), toN (show 42 + i < 2 ^ 31 by omega), toN (show 42 + i + 1 < 2 ^ 31 by omega), nm_eq]
    rw [pk_un (show 42 + i + 1 ≠ 37 + i by omega), show 37 + i + 1 = 38 + i by omega, show 42 + i + 1 = 43 + i by omega, ih (i + 1) f _ (by rw [pk_un (by omega), pk_un (by omega)]; exact h0) (by omega) (by omega), rz_step w (by omega) hn]
theorem razeOf_eq {wd hg : Int32} {w : tA} {g : tG} (hG : GG g) (h : RQ wd hg w g) {t : Nat} (ht : t < gT g) : ∃ w', fX5_razeOf w (nI t) = some w' ∧ RQ wd hg w' (delT g t) := by
  obtain ⟨h1, h2, h3, h4, h5, h6, h7⟩ := h
  have h55 := hG.2.2.1
  refine ⟨rz (upd w 36 (nI (gT g - 1))) t (gT g - 1), ?_, h1, h2, fun k hk => ?_, ?_, fun k hk => ?_, fun k hk => ?_, fun k hk => ?_⟩
  · rw [fX5_razeOf, show ((36 : Int32).toNatClampNeg) = 36 from rfl, h4, show (1 : Int32) = nI 1 from rfl, pk_sub (by omega)]
    exact raze_loop (by omega) _ (gT g - 1 - t) t 100000 _ pk_us (by omega) (by omega)
  · unfold rz
    rw [if_neg (by omega), pk_un (by omega)]
    exact h3 k hk
  · unfold rz
    rw [if_neg (by omega), pk_us]
    rfl
  · have hk2 : k < gT g - 1 := hk
    show _ = nI (delF (gc g) t k)
    unfold rz delF
    by_cases q : k < t
    · rw [if_neg (by omega), if_pos q, pk_un (by omega), h5 k (by omega)]
    · rw [if_pos (by omega), if_neg q, pk_un (by omega), show 37 + k + 1 = 37 + (k + 1) from rfl, h5 (k + 1) (by omega)]
  · have hk2 : k < gT g - 1 := hk
    show _ = nI (delF (gr g) t k)
    unfold rz delF
    by_cases q : k < t
    · rw [if_neg (by omega), if_pos q, pk_un (by omega), h6 k (by omega)]
    · rw [if_pos (by omega), if_neg q, pk_un (by omega), show 42 + k + 1 = 42 + (k + 1) from rfl, h6 (k + 1) (by omega)]
  · unfold rz
    rw [if_neg (by omega), pk_un (by omega)]
    exact h7 k hk
/-! what counts of a grid -/
theorem LL_congr {L : tL} {g g' : tG} (h : LL L g) (e1 : gw g = gw g') (e2 : gh g = gh g') (e3 : gT g = gT g') (e4 : ∀ k, k < 36 → gt g k = gt g' k) (e5 : ∀ k, k < gT g → gc g k = gc g' k) (e6 : ∀ k, k < gT g → gr g k = gr g' k) (e7 : ∀ k, k < 4 → gs g k = gs g' k) : LL L g' := by
  obtain ⟨h1, h2, h3, h4, h5, h6, h7⟩ := h
  refine ⟨by rw [← e1]; exact h1, by rw [← e2]; exact h2, by rw [← e3]; exact h3, fun k hk => ?_, fun k hk => ?_, fun k hk => ?_, fun k hk => ?_⟩
  · rw [← e4 k hk]; exact h4 k hk
  · rw [← e3] at hk
    rw [← e5 k hk]; exact h5 k hk
  · rw [← e3] at hk
    rw [← e6 k hk]; exact h6 k hk
  · rw [← e7 k hk]; exact h7 k hk
theorem und_raise {g : tG} (hg : GG g) {a v : Nat} (ha : a < gN g) : Und (0, nI a, nI (gt g a), 0) (setT g a v) g := by
  intro L hL
  have hL' : LL L (setT g a v) := hL
  have h36 := gN_le hg
  have h0 : fX1_hasCell L (nI a) = some 1 := by
    rw [fX1_hasCell, if_neg (nI_pos (by omega)), show L.1 * L.2.1 = nI (gN g) from (LL_N hL : L.1 * L.2.1 = nI (gN (setT g a v))), if_neg (nI_ge ha (by omega))]
  refine ⟨1, (L.1, L.2.1, L.2.2.1, upd L.2.2.2.1 a (nI (gt g a)), L.2.2.2.2.1, L.2.2.2.2.2.1, L.2.2.2.2.2.2), ?_, hL.1, hL.2.1, hL.2.2.1, fun k hk => ?_, hL.2.2.2.2⟩
  · show fX1_putHeight L (nI a) (nI (gt g a)) = _
    rw [fX1_putHeight, h0, some_bind, if_neg one_ne, if_pos (show nI a < (36 : Int32) from nI_lt (b := 36) (by omega) (by decide)), gd_inb (by omega) (by decide), toN (by omega)]
  · show upd L.2.2.2.1 a (nI (gt g a)) k = nI (gt g k)
    by_cases q : k = a
    · rw [q, pk_us]
    · rw [pk_un q, hL.2.2.2.1 k hk]
      show nI (uN (gt g) a v k) = _
      unfold uN
      rw [if_neg q]
theorem und_set {g : tG} (hg : GG g) {j v : Nat} (hj : j < 4) : Und (3, nI j, nI (gs g j), 0) (setS g j v) g := by
  intro L hL
  obtain ⟨L', e1, e2⟩ := putSetting_eq hL (k := j) (v := gs g j) hj (hg.2.2.2.2.2.2.1 j hj) (fun q => by rw [q]; exact hg.2.2.2.2.2.2.2)
  refine ⟨1, L', e1, LL_congr e2 rfl rfl rfl (fun _ _ => rfl) (fun _ _ => rfl) (fun _ _ => rfl) (fun k hk => ?_)⟩
  show uN (uN (gs g) j v) j (gs g j) k = gs g k
  unfold uN
  by_cases q : k = j
  · rw [if_pos q, q]
  · rw [if_neg q, if_neg q]
theorem und_build {g : tG} (hg : GG g) (hT : gT g < 5) {c r : Nat} (hc : c < gN g) (hr : r ≤ 9) : Und (1, nI (gT g), nI c, nI r) (insT g (gT g) c r) g := by
  intro L hL
  obtain ⟨L', e1, e2⟩ := dropTower_eq (GG_insT hg (Nat.le_refl _) hT hc hr) hL (t := gT g) (Nat.lt_succ_self (gT g))
  refine ⟨1, L', e1, LL_congr e2 rfl rfl rfl (fun _ _ => rfl) (fun k hk => ?_) (fun k hk => ?_) (fun _ _ => rfl)⟩
  · have hk2 : k < gT g := hk
    show delF (insF (gc g) (gT g) c) (gT g) k = gc g k
    unfold delF insF
    rw [if_pos hk2, if_pos hk2]
  · have hk2 : k < gT g := hk
    show delF (insF (gr g) (gT g) r) (gT g) k = gr g k
    unfold delF insF
    rw [if_pos hk2, if_pos hk2]
theorem und_raze {g : tG} (hg : GG g) {t : Nat} (ht : t < gT g) : Und (2, nI t, nI (gc g t), nI (gr g t)) (delT g t) g := by
  intro L hL
  have h5 := hg.2.2.1
  obtain ⟨L', e1, e2⟩ := putTower_eq (GG_delT hg ht) hL (p := t) (c := gc g t) (r := gr g t) (by show t ≤ gT g - 1; omega) (by show gT g - 1 < 5; omega) (hg.2.2.2.2.1 t ht)
  refine ⟨1, L', e1, LL_congr e2 rfl rfl (by show gT g - 1 + 1 = gT g; omega) (fun _ _ => rfl) (fun k hk => ?_) (fun k hk => ?_) (fun _ _ => rfl)⟩
  · show insF (delF (gc g) t) t (gc g t) k = gc g k
    unfold insF
    unfold delF
    by_cases q : k < t
    · rw [if_pos q, if_pos q]
    · rw [if_neg q]
      by_cases q2 : k = t
      · rw [if_pos q2, q2]
      · rw [if_neg q2, if_neg (by omega), show k - 1 + 1 = k by omega]
  · show insF (delF (gr g) t) t (gr g t) k = gr g k
    unfold insF
    unfold delF
    by_cases q : k < t
    · rw [if_pos q, if_pos q]
    · rw [if_neg q]
      by_cases q2 : k = t
      · rw [if_pos q2, q2]
      · rw [if_neg q2, if_neg (by omega), show k - 1 + 1 = k by omega]
