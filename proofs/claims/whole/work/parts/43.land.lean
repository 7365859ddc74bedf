/-! The grid as numbers, and what the class's Land says of it. -/
abbrev tG : Type := Nat × Nat × Nat × (Nat → Nat) × (Nat → Nat) × (Nat → Nat) × (Nat → Nat)
def gw (g : tG) : Nat := g.1
def gh (g : tG) : Nat := g.2.1
def gT (g : tG) : Nat := g.2.2.1
def gt (g : tG) : Nat → Nat := g.2.2.2.1
def gc (g : tG) : Nat → Nat := g.2.2.2.2.1
def gr (g : tG) : Nat → Nat := g.2.2.2.2.2.1
def gs (g : tG) : Nat → Nat := g.2.2.2.2.2.2
def gN (g : tG) : Nat := gw g * gh g
def GG (g : tG) : Prop := (2 ≤ gw g ∧ gw g ≤ 6) ∧ (2 ≤ gh g ∧ gh g ≤ 6) ∧ gT g ≤ 5 ∧ (∀ k, k < 36 → gt g k ≤ 9) ∧ (∀ k, k < gT g → gc g k < gN g) ∧ (∀ k, k < gT g → gr g k ≤ 9) ∧ (∀ k, k < 4 → gs g k ≤ 9) ∧ 1 ≤ gs g 3
def LL (L : tL) (g : tG) : Prop := L.1 = nI (gw g) ∧ L.2.1 = nI (gh g) ∧ L.2.2.1 = nI (gT g) ∧ (∀ k, k < 36 → L.2.2.2.1 k = nI (gt g k)) ∧ (∀ k, k < gT g → L.2.2.2.2.1 k = nI (gc g k)) ∧ (∀ k, k < gT g → L.2.2.2.2.2.1 k = nI (gr g k)) ∧ (∀ k, k < 4 → L.2.2.2.2.2.2 k = nI (gs g k))
theorem gN_le {g : tG} (h : GG g) : gN g ≤ 36 := Nat.mul_le_mul h.1.2 h.2.1.2
theorem gN_ge {g : tG} (h : GG g) : 4 ≤ gN g := Nat.mul_le_mul h.1.1 h.2.1.1
theorem LL_N {L : tL} {g : tG} (hL : LL L g) : L.1 * L.2.1 = nI (gN g) := by rw [hL.1, hL.2.1, pk_mul]; rfl
theorem col_lt {g : tG} (h : GG g) (a : Nat) : a % gw g < gw g := Nat.mod_lt _ (by have := h.1.1; omega)
theorem row_lt {g : tG} {a : Nat} (ha : a < gN g) : a / gw g < gh g := Nat.div_lt_of_lt_mul ha
theorem col_le {g : tG} (h : GG g) (a : Nat) : a % gw g ≤ 5 := by have := col_lt h a; have := h.1.2; omega
theorem row_le {g : tG} (h : GG g) {a : Nat} (ha : a < gN g) : a / gw g ≤ 5 := by have := row_lt ha; have := h.2.1.2; omega
/-! distance -/
def dst (w a b : Nat) : Nat := max (absd (a % w) (b % w)) (absd (a / w) (b / w))
theorem absd_le {a b n : Nat} (ha : a ≤ n) (hb : b ≤ n) : absd a b ≤ n := by unfold absd; omega
theorem dst_le {g : tG} (h : GG g) {a b : Nat} (ha : a < gN g) (hb : b < gN g) : dst (gw g) a b ≤ 5 := by
  have h1 := absd_le (col_le h a) (col_le h b)
  have h2 := absd_le (row_le h ha) (row_le h hb)
  unfold dst
  omega
theorem columnOf_eq {L : tL} {g : tG} (hg : GG g) (hL : LL L g) {a : Nat} (ha : a < gN g) : fX1_columnOf L (nI a) = some (nI (a % gw g)) := by
  have h1 := hg.1
  have h2 := gN_le hg
  rw [fX1_columnOf, hL.1, if_neg (nI_ne0 (by omega) (by omega)), gd_nz (by omega) (by omega), pk_rem (by omega) (by omega) (by omega)]
theorem rowOf_eq {L : tL} {g : tG} (hg : GG g) (hL : LL L g) {a : Nat} (ha : a < gN g) : fX1_rowOf L (nI a) = some (nI (a / gw g)) := by
  have h1 := hg.1
  have h2 := gN_le hg
  rw [fX1_rowOf, hL.1, if_neg (nI_ne0 (by omega) (by omega)), gd_nz (by omega) (by omega), pk_div (by omega) (by omega) (by omega)]
theorem distance_eq {L : tL} {g : tG} (hg : GG g) (hL : LL L g) {a b : Nat} (ha : a < gN g) (hb : b < gN g) : fX1_distance L (nI a) (nI b) = some (nI (dst (gw g) a b)) := by
  have h1 := col_le hg a
  have h2 := col_le hg b
  have h3 := row_le hg ha
  have h4 := row_le hg hb
  have h5 := absd_le h1 h2
  have h6 := absd_le h3 h4
  rw [fX1_distance, columnOf_eq hg hL ha, some_bind, columnOf_eq hg hL hb, some_bind, nm_eq, rowOf_eq hg hL ha, some_bind, rowOf_eq hg hL hb, some_bind, nm_eq, abs_nI (by omega) (by omega), abs_nI (by omega) (by omega), max_nI (by omega) (by omega)]
  rfl
/-! the cells at a step -/
def rnd (x y n k e : Nat) : Nat := (2 * (x * (n - k) + y * k) + n - e) / (2 * n)
def cel (w a b n k e : Nat) : Nat := rnd (a / w) (b / w) n k e * w + rnd (a % w) (b % w) n k e
theorem rnd_lt {x y w n k e : Nat} (hx : x < w) (hy : y < w) (hn : 1 ≤ n) (hk : k ≤ n) : rnd x y n k e < w := by
  obtain ⟨W, rfl⟩ : ∃ W, w = W + 1 := ⟨w - 1, by omega⟩
  have h1 : x * (n - k) ≤ W * (n - k) := Nat.mul_le_mul_right _ (by omega)
  have h2 : y * k ≤ W * k := Nat.mul_le_mul_right _ (by omega)
  have h3 : W * (n - k) + W * k = W * n := by rw [← Nat.mul_add]; congr 1; omega
  have h4 : 2 * n * (W + 1) = 2 * (W * n) + 2 * n := by rw [Nat.mul_add, Nat.mul_one, Nat.mul_assoc, Nat.mul_comm n W]
  apply Nat.div_lt_of_lt_mul
  omega
theorem rnd_i {x y n k e : Nat} (hx : x ≤ 5) (hy : y ≤ 5) (hn : 1 ≤ n) (hn5 : n ≤ 5) (hk : k ≤ n) (he : e ≤ 1) : (nI 2 * (nI x * nI (n - k) + nI y * nI k) + nI n - nI e) / (nI 2 * nI n) = nI (rnd x y n k e) := by
  have h1 : x * (n - k) ≤ 5 * 5 := Nat.mul_le_mul hx (by omega)
  have h2 : y * k ≤ 5 * 5 := Nat.mul_le_mul hy (by omega)
  rw [pk_mul, pk_mul, nI_add, pk_mul, nI_add, pk_sub (by omega), pk_mul, pk_div (by omega) (by omega) (by omega)]
  rfl
theorem cel_lt {g : tG} (hg : GG g) {a b n k e : Nat} (ha : a < gN g) (hb : b < gN g) (hn : 1 ≤ n) (hk : k ≤ n) : cel (gw g) a b n k e < gN g := by
  have h1 := rnd_lt (e := e) (row_lt ha) (row_lt hb) hn hk
  have h2 := rnd_lt (e := e) (col_lt hg a) (col_lt hg b) hn hk
  have h3 : (rnd (a / gw g) (b / gw g) n k e + 1) * gw g ≤ gh g * gw g := Nat.mul_le_mul_right _ h1
  rw [Nat.add_mul, Nat.one_mul, Nat.mul_comm (gh g)] at h3
  unfold cel gN
  omega
theorem cellAtStep_eq {L : tL} {g : tG} (hg : GG g) (hL : LL L g) {a b n k e : Nat} (ha : a < gN g) (hb : b < gN g) (hn : 1 ≤ n) (hn5 : n ≤ 5) (hk : k ≤ n) (he : e ≤ 1) : fX1_cellAtStep L (nI a) (nI b) (nI n) (nI k) (nI e) = some (nI (cel (gw g) a b n k e)) := by
  have h1 := hg.1
  have h2 := gN_le hg
  have h3 := rnd_lt (e := e) (row_lt ha) (row_lt hb) hn hk
  rw [fX1_cellAtStep, if_neg (show ¬ nI n < (1 : Int32) from nI_nlt (b := 1) hn (by omega)), hL.1, if_pos (show (1 : Int32) ≤ nI (gw g) from nI_le (a := 1) (by omega) (by omega))]
  simp only [nm_eq, show (2 : Int32) = nI 2 from rfl]
  rw [pk_sub hk, gd_nz (by omega) (by omega), gd_nz (by omega) (by omega), show gd (nz (nI 2 * nI n)) = fun k : Option Int32 => k from funext (fun k => by rw [pk_mul, gd_nz (by omega) (by omega)])]
  simp only []
  rw [gd_nz (by omega) (by omega), gd_nz (by omega) (by omega), pk_rem (by omega) (by omega) (by omega), pk_rem (by omega) (by omega) (by omega), pk_div (a := a) (by omega) (by omega) (by omega), pk_div (a := b) (by omega) (by omega) (by omega), rnd_i (col_le hg a) (col_le hg b) hn hn5 hk he, rnd_i (row_le hg ha) (row_le hg hb) hn hn5 hk he, pk_mul, nI_add]
  rfl
theorem heightOf_eq {L : tL} {g : tG} (hL : LL L g) {a : Nat} (ha : a < 36) : fX1_heightOf L (nI a) = some (nI (gt g a)) := by
  rw [fX1_heightOf, if_neg (nI_pos (by omega)), if_neg (show ¬ (36 : Int32) ≤ nI a from nI_ge (b := 36) ha (by decide)), gd_inb ha (by decide), toN (by omega), hL.2.2.2.1 a ha]
/-! by how much a step is over the line -/
def exA (g : tG) (a b n k : Nat) : Nat := 10 * n * max (gt g (cel (gw g) a b n k 0)) (gt g (cel (gw g) a b n k 1)) + n * gs g 2 * k * (n - k)
def exB (g : tG) (a r b n k : Nat) : Nat := 10 * ((gt g a + r) * (n - k) + (gt g b + gs g 1) * k)
def exc (g : tG) (a r b n k : Nat) : Int := (exA g a b n k : Int) - exB g a r b n k
theorem exA_le {g : tG} (hg : GG g) {a b n k : Nat} (ha : a < gN g) (hb : b < gN g) (hn : 1 ≤ n) (hn5 : n ≤ 5) (hk : k ≤ n) : exA g a b n k ≤ 2000 := by
  have h2 := gN_le hg
  have m1 := hg.2.2.2.1 _ (Nat.lt_of_lt_of_le (cel_lt hg (e := 0) ha hb hn hk) h2)
  have m2 := hg.2.2.2.1 _ (Nat.lt_of_lt_of_le (cel_lt hg (e := 1) ha hb hn hk) h2)
  have h3 : 10 * n * max (gt g (cel (gw g) a b n k 0)) (gt g (cel (gw g) a b n k 1)) ≤ 50 * 9 := Nat.mul_le_mul (by omega) (by omega)
  have h4 : n * gs g 2 * k * (n - k) ≤ 5 * 9 * 5 * 5 := Nat.mul_le_mul (Nat.mul_le_mul (Nat.mul_le_mul hn5 (hg.2.2.2.2.2.2.1 2 (by decide))) (by omega)) (by omega)
  unfold exA
  omega
theorem exB_le {g : tG} (hg : GG g) {a r b n k : Nat} (ha : a < gN g) (hb : b < gN g) (hr : r ≤ 99) (hn5 : n ≤ 5) (hk : k ≤ n) : exB g a r b n k ≤ 10000 := by
  have h2 := gN_le hg
  have m1 := hg.2.2.2.1 a (by omega)
  have m2 := hg.2.2.2.1 b (by omega)
  have m3 := hg.2.2.2.2.2.2.1 1 (by decide)
  have h3 : (gt g a + r) * (n - k) ≤ 108 * 5 := Nat.mul_le_mul (by omega) (by omega)
  have h4 : (gt g b + gs g 1) * k ≤ 18 * 5 := Nat.mul_le_mul (by omega) (by omega)
  unfold exB
  omega
theorem exc_bd {g : tG} (hg : GG g) {a r b n k : Nat} (ha : a < gN g) (hb : b < gN g) (hr : r ≤ 99) (hn : 1 ≤ n) (hn5 : n ≤ 5) (hk : k ≤ n) : -10000 ≤ exc g a r b n k ∧ exc g a r b n k ≤ 10000 := by
  have h1 := exA_le hg ha hb hn hn5 hk
  have h2 := exB_le hg ha hb hr hn5 hk
  unfold exc
  omega
theorem excess_eq {L : tL} {g : tG} (hg : GG g) (hL : LL L g) {a r b n k : Nat} (ha : a < gN g) (hb : b < gN g) (hr : r ≤ 99) (hn : 1 ≤ n) (hn5 : n ≤ 5) (hk : k ≤ n) : fX1_excess L (nI a) (nI r) (nI b) (nI n) (nI k) = some (iI (exc g a r b n k)) := by
  have h2 := gN_le hg
  have c0 := cel_lt hg (e := 0) ha hb hn hk
  have c1 := cel_lt hg (e := 1) ha hb hn hk
  have m1 := hg.2.2.2.1 _ (Nat.lt_of_lt_of_le c0 h2)
  have m2 := hg.2.2.2.1 _ (Nat.lt_of_lt_of_le c1 h2)
  rw [fX1_excess, show (0 : Int32) = nI 0 from rfl, cellAtStep_eq hg hL ha hb hn hn5 hk (by decide), some_bind, heightOf_eq hL (by omega), some_bind, show (1 : Int32) = nI 1 from rfl, cellAtStep_eq hg hL ha hb hn hn5 hk (by decide), some_bind, heightOf_eq hL (by omega), some_bind, nm_eq, heightOf_eq hL (by omega), some_bind, nm_eq, heightOf_eq hL (by omega), some_bind, nm_eq]
  rw [toN (by decide), show ((2 : Int32).toNatClampNeg) = 2 from rfl, hL.2.2.2.2.2.2 1 (by decide), hL.2.2.2.2.2.2 2 (by decide), show (10 : Int32) = nI 10 from rfl, pk_sub hk, nI_add, nI_add, max_nI (by omega) (by omega)]
  simp only [pk_mul, nI_add]
  rw [nI_sub]
  rfl
