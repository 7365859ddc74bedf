/-! Parts, one after another. -/
def OutP (X : tX) (M : tM) (n W H : Nat) (k46 k54 : tX → tL → Option (Int32 × tX × tL)) (p : Nat) (C : Option (Int32 × tX × tL)) (R : Nat → Option (Int32 × tM)) : Prop :=
  (∃ (q : Nat) (L' : tL) (m nw nh fl sg ph : Int32) (row flg : tA), q ≤ n ∧ C = k46 (posX X q m) L' ∧ ∀ f, n < f + p → R f = some (nI q, setX M nw nh fl sg ph row flg)) ∨
  (∃ (L' : tL) (m fl sg ph : Int32) (row flg : tA) (g : tG), C = k54 (posX X n m) L' ∧ GG g ∧ gw g = W ∧ gh g = H ∧ LL L' g ∧ RQ (nI W) (nI H) row g ∧ ∀ f, n < f + p → R f = some (-9, setX M (nI W) (nI H) fl sg ph row flg))
theorem out_up {X : tX} {M : tM} {n W H p : Nat} {k46 k54 : tX → tL → Option (Int32 × tX × tL)} {C : Option (Int32 × tX × tL)} {R R' : Nat → Option (Int32 × tM)} (hp : p < n) (e : ∀ f, R (f + 1) = R' f) (h : OutP X M n W H k46 k54 (p + 1) C R') : OutP X M n W H k46 k54 p C R := by
  have g : ∀ y, (∀ f, n < f + (p + 1) → R' f = y) → ∀ f, n < f + p → R f = y := by
    intro y hy f hf
    obtain ⟨f, rfl⟩ : ∃ m, f = m + 1 := ⟨f - 1, by omega⟩
    rw [e]
    exact hy f (by omega)
  rcases h with ⟨q, L', m, nw, nh, fl, sg, ph, row, flg, a1, a2, a3⟩ | ⟨L', m, fl, sg, ph, row, flg, g', a1, a2, a3, a4, a5, a6, a7⟩
  · exact Or.inl ⟨q, L', m, nw, nh, fl, sg, ph, row, flg, a1, a2, g _ a3⟩
  · exact Or.inr ⟨L', m, fl, sg, ph, row, flg, g', a1, a2, a3, a4, a5, a6, g _ a7⟩
theorem out_bad {X : tX} {M : tM} {n W H p : Nat} {k46 k54 : tX → tL → Option (Int32 × tX × tL)} {C : Option (Int32 × tX × tL)} {R : Nat → Option (Int32 × tM)} (hp : p ≤ n) {L' : tL} {m nw nh fl sg ph : Int32} {row flg : tA} (e1 : C = k46 (posX X p m) L') (e2 : ∀ f, R (f + 1) = some (nI p, setX M nw nh fl sg ph row flg)) : OutP X M n W H k46 k54 p C R := by
  refine Or.inl ⟨p, L', m, nw, nh, fl, sg, ph, row, flg, hp, e1, fun f hf => ?_⟩
  obtain ⟨f, rfl⟩ : ∃ m, f = m + 1 := ⟨f - 1, by omega⟩
  exact e2 f
theorem p_end {X : tX} {M : tM} {t : Nat → Nat} {n W H : Nat} (h : txt X M t n) (h3 : 3 ≤ n) (hW : W * H ≤ 36) (k46 k54 : tX → tL → Option (Int32 × tX × tL)) {i F : Nat} {L : tL} {row flg : tA} {sg m : Int32} {g : tG} (hF : 0 < F) (hg : GG g) (ew : gw g = W) (eh : gh g = H) (hL : LL L g) (hR : RQ (nI W) (nI H) row g) : OutP X M n W H k46 k54 n (fX2_readParts_2 k46 k54 F (nI i) (posX X n m) L) (fun f => rf f n (setX M (nI W) (nI H) (nI (W * H)) sg 0 row flg)) := by
  have hn := h.1
  refine Or.inr ⟨L, m, nI (W * H), sg, 0, row, flg, g, ?_, hg, ew, eh, hL, hR, fun f hf => ?_⟩
  · obtain ⟨F, rfl⟩ : ∃ m, F = m + 1 := ⟨F - 1, by omega⟩
    rw [fX2_readParts_2, if_pos (show (posX X n m).2.1 ≤ (posX X n m).2.2.1 by show X.2.1 ≤ nI n; rw [h.2.1]; exact nI_le (Nat.le_refl _) (by omega)), ite_self]
  · obtain ⟨f, rfl⟩ : ∃ m, f = m + 1 := ⟨f - 1, by omega⟩
    exact rf_done h h3 (Nat.le_refl _) (by omega) hW sg row flg
theorem r_sign {X : tX} {M : tM} {t : Nat → Nat} {n p W H f T : Nat} (h : txt X M t n) (hp : p < n) (hp3 : 3 ≤ p) (hW : W * H ≤ 36) (hT : T ≤ 5) (sg : Int32) (row flg : tA) (hr : row 36 = nI T) : rf (f + 1) p (setX M (nI W) (nI H) (nI (W * H)) sg 0 row flg) = if (if t p = 116 then decide (T < 5) else if sI (t p) < 4 then decide (flg (sI (t p)) = 0) else false) then rf f (p + 1) (setX M (nI W) (nI H) (nI (W * H)) (nI (t p)) 1 row flg) else some (nI p, setX M (nI W) (nI H) (nI (W * H)) (nI (t p)) 1 row flg) := by
  have hn := h.1
  obtain ⟨x1, x2, x3⟩ := h.2.2.2 p hp
  refine rf_step (Y := setX M (nI W) (nI H) (nI (W * H)) sg 0 row flg) (t := t) hn h.2.2.1 x2 hp ?_
  rw [tl_late M hp3 (by omega) x3 hW (nI (W * H)) sg 0 rfl row flg rfl, sign_eq M x3 hT _ _ _ _ _ row flg hr, some_bind]
  exact gd_bI _ _
theorem r_tow1 {X : tX} {M : tM} {t : Nat → Nat} {n p W H f T : Nat} (h : txt X M t n) (hp : p < n) (hp3 : 3 ≤ p) (h1 : 1 ≤ W * H) (hW : W * H ≤ 36) (hT : T < 5) (row flg : tA) (hr : row 36 = nI T) : rf (f + 1) p (setX M (nI W) (nI H) (nI (W * H)) (nI 116) 1 row flg) = if decide ((48 ≤ t p ∧ t p ≤ 57) ∧ 10 * (t p - 48) < W * H) then rf f (p + 1) (setX M (nI W) (nI H) (nI (W * H)) (nI 116) 2 (upd row (37 + T) (10 * dg (t p))) flg) else some (nI p, setX M (nI W) (nI H) (nI (W * H)) (nI 116) 2 (upd row (37 + T) (10 * dg (t p))) flg) := by
  have hn := h.1
  obtain ⟨x1, x2, x3⟩ := h.2.2.2 p hp
  refine rf_step (Y := setX M (nI W) (nI H) (nI (W * H)) (nI 116) 1 row flg) (t := t) hn h.2.2.1 x2 hp ?_
  rw [tl_tow M hp3 (by omega) x3 hW (nI (W * H)) (nI 116) 1 rfl row flg (by decide) rfl, tow_1 M hT h1 hW _ _ row flg hr, some_bind]
  exact gd_bI _ _
theorem r_tow2 {X : tX} {M : tM} {t : Nat → Nat} {n p W H f T x : Nat} (h : txt X M t n) (hp : p < n) (hp3 : 3 ≤ p) (h1 : 1 ≤ W * H) (hW : W * H ≤ 36) (hT : T < 5) (row flg : tA) (hr : row 36 = nI T) (hx : row (37 + T) = nI x) (hx2 : x ≤ 90) : rf (f + 1) p (setX M (nI W) (nI H) (nI (W * H)) (nI 116) 2 row flg) = if decide ((48 ≤ t p ∧ t p ≤ 57) ∧ x + (t p - 48) < W * H) then rf f (p + 1) (setX M (nI W) (nI H) (nI (W * H)) (nI 116) 3 (upd row (37 + T) (nI x + dg (t p))) flg) else some (nI p, setX M (nI W) (nI H) (nI (W * H)) (nI 116) 3 (upd row (37 + T) (nI x + dg (t p))) flg) := by
  have hn := h.1
  obtain ⟨x1, x2, x3⟩ := h.2.2.2 p hp
  refine rf_step (Y := setX M (nI W) (nI H) (nI (W * H)) (nI 116) 2 row flg) (t := t) hn h.2.2.1 x2 hp ?_
  rw [tl_tow M hp3 (by omega) x3 hW (nI (W * H)) (nI 116) 2 rfl row flg (by decide) rfl, tow_2 M hT h1 hW _ _ row flg hr hx hx2, some_bind]
  exact gd_bI _ _
theorem r_tow3 {X : tX} {M : tM} {t : Nat → Nat} {n p W H f T : Nat} (h : txt X M t n) (hp : p < n) (hp3 : 3 ≤ p) (hW : W * H ≤ 36) (hT : T < 5) (row flg : tA) (hr : row 36 = nI T) : rf (f + 1) p (setX M (nI W) (nI H) (nI (W * H)) (nI 116) 3 row flg) = if decide (48 ≤ t p ∧ t p ≤ 57) then rf f (p + 1) (setX M (nI W) (nI H) (nI (W * H)) (nI 116) 0 (upd (upd row (42 + T) (dg (t p))) 36 (nI (T + 1))) flg) else some (nI p, setX M (nI W) (nI H) (nI (W * H)) (nI 116) 0 (upd (upd row (42 + T) (dg (t p))) 36 (nI (T + 1))) flg) := by
  have hn := h.1
  obtain ⟨x1, x2, x3⟩ := h.2.2.2 p hp
  refine rf_step (Y := setX M (nI W) (nI H) (nI (W * H)) (nI 116) 3 row flg) (t := t) hn h.2.2.1 x2 hp ?_
  rw [tl_tow M hp3 (by omega) x3 hW (nI (W * H)) (nI 116) 3 rfl row flg (by decide) rfl, tow_3 M hT _ _ row flg hr, some_bind]
  exact gd_bI _ _
theorem r_set {X : tX} {M : tM} {t : Nat → Nat} {n p W H f s : Nat} (h : txt X M t n) (hp : p < n) (hp3 : 3 ≤ p) (hW : W * H ≤ 36) (hs : s ≤ 255) (hs4 : sI s < 4) (hne : s ≠ 116) (row flg : tA) : rf (f + 1) p (setX M (nI W) (nI H) (nI (W * H)) (nI s) 1 row flg) = if decide ((48 ≤ t p ∧ t p ≤ 57) ∧ (sI s = 3 → 49 ≤ t p)) then rf f (p + 1) (setX M (nI W) (nI H) (nI (W * H)) (nI s) 0 (upd row (47 + sI s) (dg (t p))) (upd flg (sI s) 1)) else some (nI p, setX M (nI W) (nI H) (nI (W * H)) (nI s) 0 (upd row (47 + sI s) (dg (t p))) (upd flg (sI s) 1)) := by
  have hn := h.1
  obtain ⟨x1, x2, x3⟩ := h.2.2.2 p hp
  refine rf_step (Y := setX M (nI W) (nI H) (nI (W * H)) (nI s) 1 row flg) (t := t) hn h.2.2.1 x2 hp ?_
  rw [tl_set M hp3 (by omega) x3 hs hs4 hne hW (nI (W * H)) 1 rfl row flg (by decide)]
