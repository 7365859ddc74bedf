/-! The relation between the class's state and the reference's. -/
def RQ (wd hg : Int32) (w : tA) (g : tG) : Prop := wd = nI (gw g) ∧ hg = nI (gh g) ∧ (∀ k, k < 36 → w k = nI (gt g k)) ∧ w 36 = nI (gT g) ∧ (∀ k, k < gT g → w (37 + k) = nI (gc g k)) ∧ (∀ k, k < gT g → w (42 + k) = nI (gr g k)) ∧ (∀ k, k < 4 → w (47 + k) = nI (gs g k))
theorem RR_RQ {o : tMo} {w : tA} {g : tG} (h : RR o w g) : RQ o.2.1 o.2.2.1 w g := h
theorem RQ_RR {o : tMo} {w : tA} {g : tG} (h : RQ o.2.1 o.2.2.1 w g) : RR o w g := h
def TXr (X : tX) (len : Int32) (tx : tA) : Prop := ∃ n, n ≤ 90 ∧ X.2.1 = nI n ∧ len = nI n ∧ ∀ k, k < n → ∃ v, v ≤ 255 ∧ X.1 k = nI v ∧ tx k = nI v
def OBr (O : tO) (fo : Int32) (fc fw : tA) : Prop := ∃ n, n ≤ 6 ∧ O.2.2 = nI n ∧ fo = nI n ∧ ∀ k, k < n → ∃ c b, c < 36 ∧ b ≤ 1 ∧ O.1 k = nI c ∧ O.2.1 k = nI b ∧ fc k = nI c ∧ fw k = nI b
def SVr (wd hg : Int32) (g : tG) (L : tL) (row : tA) : Prop := ∃ g', GG g' ∧ gw g' = gw g ∧ gh g' = gh g ∧ LL L g' ∧ RQ wd hg row g'
def SLr (wd hg : Int32) (g : tG) (sl : Int32) (L1 L2 : tL) (kep isk : tA) : Prop := ∃ b0 b1 : Bool, sl = nI (b0.toNat + 2 * b1.toNat) ∧ isk 0 = nI b0.toNat ∧ isk 1 = nI b1.toNat ∧ (b0 = true → SVr wd hg g L1 (fun k => kep k)) ∧ (b1 = true → SVr wd hg g L2 (fun k => kep (51 + k)))
def ublk (k p v r : Int32) (L : tL) : Option (Int32 × tL) := if k = 0 then fX1_putHeight L p v else if k = 1 then fX1_dropTower L p else if k = 2 then fX1_putTower L p v r else fX1_putSetting L p v
abbrev tE : Type := Int32 × Int32 × Int32 × Int32
def Und (e : tE) (g g' : tG) : Prop := ∀ L, LL L g → ∃ q L', ublk e.1 e.2.1 e.2.2.1 e.2.2.2 L = some (q, L') ∧ LL L' g'
def Hist (wd hg : Int32) : (Nat → tE) → (Nat → tA) → Nat → tG → Prop
  | _, _, 0, _ => True
  | E, Rw, c + 1, g => ∃ g', GG g' ∧ gw g' = gw g ∧ gh g' = gh g ∧ Und (E 0) g g' ∧ RQ wd hg (Rw 0) g' ∧ Hist wd hg (fun j => E (j + 1)) (fun j => Rw (j + 1)) c g'
def HIr (J : tJ) (wd hg dn nx0 : Int32) (dia : tA) (g : tG) : Prop := ∃ c nx, c ≤ 14 ∧ nx < 14 ∧ J.2.2.2.2 = nI c ∧ dn = nI c ∧ nx0 = nI nx ∧ Hist wd hg (fun j => (J.1 (c - 1 - j), J.2.1 (c - 1 - j), J.2.2.1 (c - 1 - j), J.2.2.2.1 (c - 1 - j))) (fun j k => dia (51 * ((nx + 13 - j) % 14) + k)) c g
def Sim (S : tH) (M : tM) : Prop := ∃ g, GG g ∧ LL S.1 g ∧ RR M.1 M.2.2.1 g ∧ TXr S.2.2.2.2.2.1 M.1.1 M.2.1 ∧ OBr S.2.2.2.2.2.2.2.1 M.1.2.2.2.2.2.1 M.2.2.2.2.2.2.2.1 M.2.2.2.2.2.2.2.2.1 ∧ SLr M.1.2.1 M.1.2.2.1 g S.2.2.2.2.1 S.2.2.1 S.2.2.2.1 M.2.2.2.2.2.1 M.2.2.2.2.2.2.1 ∧ HIr S.2.2.2.2.2.2.1 M.1.2.1 M.1.2.2.1 M.1.2.2.2.1 M.1.2.2.2.2.1 M.2.2.2.2.1 g ∧ S.2.2.2.2.2.2.2.2.2 = M.1.2.2.2.2.2.2.1
theorem mmI {α : Type} {f1 : Option (α × tH)} {f2 : Option (α × tM)} {P : tH → tM → Prop} {r : α} {S' : tH} {M' : tM} (h1 : f1 = some (r, S')) (h2 : f2 = some (r, M')) (h3 : P S' M') : ∃ (r : α) (S' : tH) (M' : tM), f1 = some (r, S') ∧ f2 = some (r, M') ∧ P S' M' := ⟨r, S', M', h1, h2, h3⟩
theorem pmI {α : Type} {f1 : Option α} {f2 : Option (α × tM)} {P : tM → Prop} {r : α} {M' : tM} (h1 : f1 = some r) (h2 : f2 = some (r, M')) (h3 : P M') : ∃ (r : α) (M' : tM), f1 = some r ∧ f2 = some (r, M') ∧ P M' := ⟨r, M', h1, h2, h3⟩
/-! Steps that only touch plain fields. -/
theorem do_wipe : stp_wipe Sim := by
  rintro S M ⟨g, hg, hL, hR, ⟨n, h1, h2, h3, h4⟩, hO, hV, hH, hr⟩ _
  apply mmI (r := M.1.1)
  case h1 => rw [fX4_wipe, h2, ← h3]
  case h2 => rfl
  case h3 => exact ⟨g, hg, hL, hR, ⟨0, by omega, rfl, rfl, fun k hk => absurd hk (by omega)⟩, hO, hV, hH, hr⟩
theorem do_lose : stp_lose Sim := by
  rintro S M ⟨g, hg, hL, hR, hT, ⟨n, h1, h2, h3, h4⟩, hV, hH, hr⟩ _
  apply mmI (r := M.1.2.2.2.2.2.1)
  case h1 => rw [fX4_lose, h2, ← h3]
  case h2 => rfl
  case h3 => exact ⟨g, hg, hL, hR, hT, ⟨0, by omega, rfl, rfl, fun k hk => absurd hk (by omega)⟩, hV, hH, hr⟩
theorem do_seed : stp_seed Sim := by
  rintro S M ⟨g, hg, hL, hR, hT, hO, hV, hH, hr⟩ v
  apply mmI (r := M.1.2.2.2.2.2.2.1)
  case h1 => rw [fX4_seed, ← hr]
  case h2 => rfl
  case h3 => exact ⟨g, hg, hL, hR, hT, hO, hV, hH, rfl⟩
/-! in over a fixed range -/
theorem in_lit (u : Int32) (a b : Int32) : fX5_in u.toInt64 a.toInt64 b.toInt64 = some (if a ≤ u ∧ u ≤ b then 1 else 0) := in_eq u a b
theorem upto (u : Int32) (n : Nat) (hn : n < 2 ^ 30) : (∃ a, a ≤ n ∧ u = nI a) ∨ (¬ (0 ≤ u ∧ u ≤ nI n) ∧ (u < 0 ∨ nI n < u)) := by
  rcases pk_ix u (n := n + 1) (by omega) with h | h | ⟨a, h, rfl⟩
  · exact Or.inr ⟨fun q => absurd h (Int32.not_lt.mpr q.1), Or.inl h⟩
  · have h2 : nI n < u := by
      rw [Int32.lt_iff_toInt_lt]
      rw [Int32.le_iff_toInt_le] at h
      rw [nI_toInt (by omega)] at h ⊢
      omega
    exact Or.inr ⟨fun q => absurd h2 (Int32.not_lt.mpr q.2), Or.inr h2⟩
  · exact Or.inl ⟨a, by omega, rfl⟩
theorem in_up {a n : Nat} (h : a ≤ n) (hn : n < 2 ^ 30) : fX5_in (nI a).toInt64 (0 : Int64) (nI n).toInt64 = some 1 := by
  rw [show (0 : Int64) = (0 : Int32).toInt64 from rfl, in_eq, if_pos ⟨nI_pos' (by omega), nI_le h (by omega)⟩]
theorem in_upno {u : Int32} {n : Nat} (h : ¬ (0 ≤ u ∧ u ≤ nI n)) : fX5_in u.toInt64 (0 : Int64) (nI n).toInt64 = some 0 := by
  rw [show (0 : Int64) = (0 : Int32).toInt64 from rfl, in_eq, if_neg h]
theorem isDigit_yes {a : Nat} (h : a ≤ 9) : fX4_isDigit (nI a) = some 1 := by
  rw [fX4_isDigit, if_neg (nI_pos (by omega)), if_neg (show ¬ (9 : Int32) < nI a from nI_nlt (a := 9) h (by decide))]
theorem isDigit_no {u : Int32} (h : u < 0 ∨ nI 9 < u) : fX4_isDigit u = some 0 := by
  rw [fX4_isDigit]
  rcases h with h | h
  · rw [if_pos h]
  · by_cases h0 : u < 0
    · rw [if_pos h0]
    · rw [if_neg h0, if_pos (show (9 : Int32) < u from h)]
theorem one_ne : ¬ (1 : Int32) = 0 := by decide
theorem append_eq {X : tX} {n : Nat} (h : X.2.1 = nI n) (hn : n ≤ 90) (v : Int32) : fX2_append X v = if n = 90 then some (0, X) else some (1, (upd X.1 n (vp_nar .char v), nI (n + 1), X.2.2.1, X.2.2.2)) := by
  rw [fX2_append, h, if_neg (nI_pos (by omega))]
  by_cases h9 : n = 90
  · subst h9
    rfl
  · rw [if_neg h9, if_pos (show nI n < (90 : Int32) from nI_lt (b := 90) (by omega) (by decide)), gd_inb (by omega) (by decide), nm_eq, nI_add1, toN (by omega)]
theorem nar_char {v : Nat} (h : v ≤ 255) : vp_nar .char ((nI v).toUInt32 % 65536).toInt32 = nI v := by
  rw [pk_vc, pk_char, pk_tn (by omega), Nat.mod_eq_of_lt (by omega)]
theorem do_write : stp_write Sim := by
  rintro S M ⟨g, hg, hL, hR, ⟨n, h1, h2, h3, h4⟩, hO, hV, hH, hr⟩ u
  rcases upto u 255 (by decide) with ⟨v, hv, rfl⟩ | ⟨hn, ho⟩
  · by_cases h9 : n = 90
    · apply mmI (r := -4)
      case h1 =>
        rw [fX4_write, if_neg (nI_pos (by omega)), if_pos (show nI v ≤ (255 : Int32) from nI_le (b := 255) hv (by decide)), append_eq h2 h1, if_pos h9, some_bind]
        rfl
      case h2 => rw [fX5_write, show (255 : Int64) = (nI 255).toInt64 from rfl, in_up hv (by decide), some_bind, if_neg (by decide), if_pos (show M.1.1 = 90 by rw [h3, h9]; rfl)]
      case h3 => exact ⟨g, hg, hL, hR, ⟨n, h1, h2, h3, h4⟩, hO, hV, hH, hr⟩
    · apply mmI (r := nI (n + 1))
      case h1 =>
        rw [fX4_write, if_neg (nI_pos (by omega)), if_pos (show nI v ≤ (255 : Int32) from nI_le (b := 255) hv (by decide)), append_eq h2 h1, if_neg h9, some_bind]
        dsimp only
        rw [if_neg one_ne]
      case h2 =>
        rw [fX5_write, show (255 : Int64) = (nI 255).toInt64 from rfl, in_up hv (by decide), some_bind, if_neg (by decide), if_neg (by rw [h3]; exact fun q => h9 ((nI_eq (b := 90) (by omega) (by decide)).mp q)), show gd (inb M.1.1 90) = fun k : Option (Int32 × tM) => k from funext (fun k => by rw [h3, gd_inb (by omega) (by decide)])]
        simp only [nm_eq, h3, nI_add1]
        rfl
      case h3 =>
        refine ⟨g, hg, hL, hR, ⟨n + 1, by omega, rfl, rfl, fun k hk => ?_⟩, hO, hV, hH, hr⟩
        show ∃ v', v' ≤ 255 ∧ upd S.2.2.2.2.2.1.1 n (vp_nar .char ((nI v).toUInt32 % 65536).toInt32) k = nI v' ∧ upd M.2.1 (nI n).toNatClampNeg (nI v) k = nI v'
        rw [toN (by omega), nar_char hv]
        by_cases hk2 : k = n
        · subst hk2
          exact ⟨v, hv, pk_us, pk_us⟩
        · rw [pk_un hk2, pk_un hk2]
          exact h4 k (by omega)
  · refine ⟨-2, S, M, ?_, ?_, ⟨g, hg, hL, hR, ⟨n, h1, h2, h3, h4⟩, hO, hV, hH, hr⟩⟩
    · rw [fX4_write]
      rcases ho with ho | ho
      · rw [if_pos ho]
      · by_cases h0 : u < 0
        · rw [if_pos h0]
        · rw [if_neg h0, if_neg (show ¬ u ≤ (255 : Int32) from fun q => absurd ho (Int32.not_lt.mpr q))]
    · rw [fX5_write, show (255 : Int64) = (nI 255).toInt64 from rfl, in_upno hn, some_bind]
      rfl
