/-! The journal and the diary. -/
def jent (J : tJ) (k : Nat) : tE := (J.1 k, J.2.1 k, J.2.2.1 k, J.2.2.2.1 k)
theorem forget_loop (k70 : tJ → Option tJ) : ∀ (d v f : Nat) (J : tJ), 1 ≤ v → v + d = 14 → d < f → fX0_forgetOldest_2 k70 f (nI v) J = k70 (shD J.1 v 14, shD J.2.1 v 14, shD J.2.2.1 v 14, shD J.2.2.2.1 v 14, J.2.2.2.2) := by
  intro d
  induction d with
  | zero =>
    intro v f J h1 h2 h3
    obtain ⟨f, rfl⟩ : ∃ m, f = m + 1 := ⟨f - 1, by omega⟩
    rw [fX0_forgetOldest_2, if_pos (show (14 : Int32) ≤ nI v from nI_le (a := 14) (by omega) (by omega)), show v = 14 by omega, shD_end, shD_end, shD_end, shD_end]
  | succ d ih =>
    intro v f J h1 h2 h3
    obtain ⟨f, rfl⟩ : ∃ m, f = m + 1 := ⟨f - 1, by omega⟩
    rw [fX0_forgetOldest_2, if_neg (show ¬ (14 : Int32) ≤ nI v from nI_ge (b := 14) (by omega) (by decide)), show (1 : Int32) = nI 1 from rfl, pk_sub h1]
    simp only [gd_inb (show v < 14 by omega) (show 14 < 2 ^ 31 by decide), gd_inb (show v - 1 < 14 by omega) (show 14 < 2 ^ 31 by decide), toN (show v < 2 ^ 31 by omega), toN (show v - 1 < 2 ^ 31 by omega), nm_eq, nI_add]
    refine (ih (v + 1) f (upd J.1 (v - 1) (J.1 v), upd J.2.1 (v - 1) (J.2.1 v), upd J.2.2.1 (v - 1) (J.2.2.1 v), upd J.2.2.2.1 (v - 1) (J.2.2.2.1 v), J.2.2.2.2) (by omega) (by omega) (by omega)).trans ?_
    dsimp only
    rw [shD_step _ h1 (by omega), shD_step _ h1 (by omega), shD_step _ h1 (by omega), shD_step _ h1 (by omega)]
theorem forget_eq (J : tJ) : fX0_forgetOldest J = some (shD J.1 1 14, shD J.2.1 1 14, shD J.2.2.1 1 14, shD J.2.2.2.1 1 14, nI 13) := by
  rw [fX0_forgetOldest, show (1 : Int32) = nI 1 from rfl, forget_loop _ 13 1 100000 J (by decide) (by decide) (by decide)]
  rfl
theorem note_c {J : tJ} {c : Nat} (hc : J.2.2.2.2 = nI c) (h14 : c ≤ 14) (u1 u2 u3 u4 : Int32) : ∃ J', fX0_note J u1 u2 u3 u4 = some J' ∧ J'.2.2.2.2 = nI (min (c + 1) 14) ∧ jent J' (min (c + 1) 14 - 1) = (u1, u2, u3, u4) ∧ ∀ j, j + 1 < min (c + 1) 14 → jent J' (min (c + 1) 14 - 1 - (j + 1)) = jent J (c - 1 - j) := by
  by_cases h : c < 14
  · rw [show min (c + 1) 14 = c + 1 by omega]
    refine ⟨(upd J.1 c u1, upd J.2.1 c u2, upd J.2.2.1 c u3, upd J.2.2.2.1 c u4, nI (c + 1)), ?_, rfl, ?_, fun j hj => ?_⟩
    · rw [fX0_note, hc, if_pos (show nI c < (14 : Int32) from nI_lt (b := 14) h (by decide)), if_neg (nI_pos (by omega)), if_pos (show nI c < (14 : Int32) from nI_lt (b := 14) h (by decide)), gd_inb (by omega) (by decide), gd_inb (by omega) (by decide), gd_inb (by omega) (by decide), gd_inb (by omega) (by decide), nm_eq, nI_add1, toN (by omega)]
    · show (upd J.1 c u1 c, upd J.2.1 c u2 c, upd J.2.2.1 c u3 c, upd J.2.2.2.1 c u4 c) = _
      rw [pk_us, pk_us, pk_us, pk_us]
    · rw [show c + 1 - 1 - (j + 1) = c - 1 - j by omega]
      show (upd J.1 c u1 (c - 1 - j), upd J.2.1 c u2 (c - 1 - j), upd J.2.2.1 c u3 (c - 1 - j), upd J.2.2.2.1 c u4 (c - 1 - j)) = _
      rw [pk_un (by omega), pk_un (by omega), pk_un (by omega), pk_un (by omega)]
      rfl
  · have h2 : c = 14 := by omega
    subst h2
    rw [show min (14 + 1) 14 = 14 from rfl]
    refine ⟨(upd (shD J.1 1 14) 13 u1, upd (shD J.2.1 1 14) 13 u2, upd (shD J.2.2.1 1 14) 13 u3, upd (shD J.2.2.2.1 1 14) 13 u4, nI 14), ?_, rfl, ?_, fun j hj => ?_⟩
    · rw [fX0_note, hc, if_neg (by decide), forget_eq, some_bind]
      rfl
    · show (upd (shD J.1 1 14) 13 u1 13, upd (shD J.2.1 1 14) 13 u2 13, upd (shD J.2.2.1 1 14) 13 u3 13, upd (shD J.2.2.2.1 1 14) 13 u4 13) = _
      rw [pk_us, pk_us, pk_us, pk_us]
    · rw [show 14 - 1 - (j + 1) = 12 - j by omega, show 14 - 1 - j = 12 - j + 1 by omega]
      show (upd (shD J.1 1 14) 13 u1 (12 - j), upd (shD J.2.1 1 14) 13 u2 (12 - j), upd (shD J.2.2.1 1 14) 13 u3 (12 - j), upd (shD J.2.2.2.1 1 14) 13 u4 (12 - j)) = _
      rw [pk_un (by omega), pk_un (by omega), pk_un (by omega), pk_un (by omega)]
      unfold shD
      rw [if_pos (by omega), if_pos (by omega), if_pos (by omega), if_pos (by omega)]
      rfl
/-- the row of 51 from b on becomes the row now -/
def cpR (dia now : tA) (b i : Nat) : tA := fun j => if b + i ≤ j ∧ j < b + 51 then now (j - b) else dia j
theorem cpR_end (dia now : tA) (b : Nat) : cpR dia now b 51 = dia := funext (fun k => if_neg (by omega))
theorem cpR_step (dia now : tA) (b : Nat) {i : Nat} (hi : i < 51) : cpR (upd dia (b + i) (now i)) now b (i + 1) = cpR dia now b i := by
  funext j
  unfold cpR
  by_cases h : b + (i + 1) ≤ j ∧ j < b + 51
  · rw [if_pos h, if_pos (by omega)]
  · rw [if_neg h]
    by_cases q : j = b + i
    · rw [q, pk_us, if_pos (by omega), show b + i - b = i by omega]
    · rw [pk_un q, if_neg (by omega)]
def setD (M : tM) (d : tA) : tM := (M.1, M.2.1, M.2.2.1, M.2.2.2.1, d, M.2.2.2.2.2)
theorem mnote_loop {nx : Nat} (hnx : nx < 14) (M : tM) (h : M.1.2.2.2.2.1 = nI nx) (k34 : tM → Option tM) : ∀ (d i f : Nat) (D : tA), i + d = 51 → d < f → fX5_note_2 k34 f (nI i) (setD M D) = k34 (setD M (cpR D M.2.2.1 (51 * nx) i)) := by
  intro d
  induction d with
  | zero =>
    intro i f D h1 h2
    obtain ⟨f, rfl⟩ : ∃ m, f = m + 1 := ⟨f - 1, by omega⟩
    rw [fX5_note_2, if_pos (show (51 : Int32) ≤ nI i from nI_le (a := 51) (by omega) (by omega)), show i = 51 by omega, cpR_end]
  | succ d ih =>
    intro i f D h1 h2
    obtain ⟨f, rfl⟩ : ∃ m, f = m + 1 := ⟨f - 1, by omega⟩
    rw [fX5_note_2, if_neg (show ¬ (51 : Int32) ≤ nI i from nI_ge (b := 51) (by omega) (by decide)), show (setD M D).1.2.2.2.2.1 = nI nx from h, show (51 : Int32) * nI nx = nI (51 * nx) from pk_mul 51 nx, nI_add, gd_inb (by omega) (by decide), gd_inb (by omega) (by decide), nm_eq, nI_add1, toN (by omega), toN (by omega)]
    refine (ih (i + 1) f (upd D (51 * nx + i) (M.2.2.1 i)) (by omega) (by omega)).trans ?_
    rw [cpR_step _ _ _ (by omega)]
def pushM (M : tM) (c nx : Nat) (w : tA) : tM := ((M.1.1, M.1.2.1, M.1.2.2.1, nI (min (c + 1) 14), nI ((nx + 1) % 14), M.1.2.2.2.2.2), M.2.1, w, M.2.2.2.1, cpR M.2.2.2.2.1 M.2.2.1 (51 * nx) 0, M.2.2.2.2.2)
theorem mnote_eq {M : tM} {c nx : Nat} (hc : c ≤ 14) (hnx : nx < 14) (h1 : M.1.2.2.2.1 = nI c) (h2 : M.1.2.2.2.2.1 = nI nx) : fX5_note M = some (pushM M c nx M.2.2.1) := by
  rw [fX5_note]
  refine (mnote_loop hnx M h2 _ 51 0 100000 M.2.2.2.2.1 (by decide) (by decide)).trans ?_
  rw [show (setD M (cpR M.2.2.2.2.1 M.2.2.1 (51 * nx) 0)).1 = M.1 from rfl, h2, nI_add1, show (14 : Int32) = nI 14 from rfl, pk_rem (by omega) (by omega) (by omega), nm_eq, h1]
  by_cases h : c = 14
  · rw [if_pos (nI_le (by omega) (by omega)), pushM, show min (c + 1) 14 = 14 by omega]
    rfl
  · rw [if_neg (nI_ge (by omega) (by omega)), pushM, show min (c + 1) 14 = c + 1 by omega, nm_eq, nI_add1]
    rfl
theorem RQ_congr {wd hgt : Int32} {w w' : tA} {g : tG} (hG : GG g) (e : ∀ k, k < 51 → w k = w' k) (h : RQ wd hgt w g) : RQ wd hgt w' g := by
  obtain ⟨h1, h2, h3, h4, h5, h6, h7⟩ := h
  have hT := hG.2.2.1
  refine ⟨h1, h2, fun k hk => ?_, ?_, fun k hk => ?_, fun k hk => ?_, fun k hk => ?_⟩
  · rw [← e _ (by omega)]; exact h3 k hk
  · rw [← e _ (by omega)]; exact h4
  · rw [← e _ (by omega)]; exact h5 k hk
  · rw [← e _ (by omega)]; exact h6 k hk
  · rw [← e _ (by omega)]; exact h7 k hk
theorem Hist_congr {wd hgt : Int32} : ∀ {c : Nat} {E E' : Nat → tE} {R R' : Nat → tA} {g : tG}, (∀ j, j < c → E j = E' j) → (∀ j, j < c → ∀ k, k < 51 → R j k = R' j k) → Hist wd hgt E R c g → Hist wd hgt E' R' c g
  | 0, _, _, _, _, _, _, _, _ => trivial
  | c + 1, E, E', R, R', g, h1, h2, ⟨g', a1, a2, a3, a4, a5, a6⟩ => ⟨g', a1, a2, a3, by rw [← h1 0 (by omega)]; exact a4, RQ_congr a1 (h2 0 (by omega)) a5, Hist_congr (fun j hj => h1 (j + 1) (by omega)) (fun j hj => h2 (j + 1) (by omega)) a6⟩
theorem Hist_mono {wd hgt : Int32} : ∀ {c c' : Nat} {E : Nat → tE} {R : Nat → tA} {g : tG}, c' ≤ c → Hist wd hgt E R c g → Hist wd hgt E R c' g
  | _, 0, _, _, _, _, _ => trivial
  | 0, c' + 1, _, _, _, h, _ => absurd h (by omega)
  | c + 1, c' + 1, E, R, g, h, ⟨g', a1, a2, a3, a4, a5, a6⟩ => ⟨g', a1, a2, a3, a4, a5, Hist_mono (by omega) a6⟩
theorem HIr_push {J J' : tJ} {wd hgt : Int32} {dia now : tA} {g g' : tG} {c nx : Nat} (hc : c ≤ 14) (hnx : nx < 14) (H : Hist wd hgt (fun j => (J.1 (c - 1 - j), J.2.1 (c - 1 - j), J.2.2.1 (c - 1 - j), J.2.2.2.1 (c - 1 - j))) (fun j k => dia (51 * ((nx + 13 - j) % 14) + k)) c g) {e : tE} (hg : GG g) (e1 : gw g = gw g') (e2 : gh g = gh g') (hu : Und e g' g) (hq : RQ wd hgt now g) (j1 : J'.2.2.2.2 = nI (min (c + 1) 14)) (j2 : jent J' (min (c + 1) 14 - 1) = e) (j3 : ∀ j, j + 1 < min (c + 1) 14 → jent J' (min (c + 1) 14 - 1 - (j + 1)) = jent J (c - 1 - j)) : HIr J' wd hgt (nI (min (c + 1) 14)) (nI ((nx + 1) % 14)) (cpR dia now (51 * nx) 0) g' := by
  refine ⟨min (c + 1) 14, (nx + 1) % 14, by omega, by omega, j1, rfl, rfl, ?_⟩
  obtain ⟨c', hc'⟩ : ∃ c', min (c + 1) 14 = c' + 1 := ⟨min (c + 1) 14 - 1, by omega⟩
  rw [hc'] at j2 j3 ⊢
  refine ⟨g, hg, e1, e2, ?_, ?_, ?_⟩
  · show Und (jent J' (c' + 1 - 1)) g' g
    rw [j2]
    exact hu
  · refine RQ_congr hg (fun k hk => ?_) hq
    show now k = cpR dia now (51 * nx) 0 (51 * (((nx + 1) % 14 + 13) % 14) + k)
    rw [show ((nx + 1) % 14 + 13) % 14 = nx by omega]
    unfold cpR
    rw [if_pos (by omega), show 51 * nx + k - 51 * nx = k by omega]
  · refine Hist_congr (fun j hj => ?_) (fun j hj k hk => ?_) (Hist_mono (show c' ≤ c by omega) H)
    · exact (j3 j (by omega)).symm
    · show dia (51 * ((nx + 13 - j) % 14) + k) = cpR dia now (51 * nx) 0 (51 * (((nx + 1) % 14 + 13 - (j + 1)) % 14) + k)
      rw [show ((nx + 1) % 14 + 13 - (j + 1)) % 14 = (nx + 13 - j) % 14 by omega]
      unfold cpR
      rw [if_neg (by omega)]
theorem SLr_congr {wd hgt : Int32} {g g' : tG} (e1 : gw g = gw g') (e2 : gh g = gh g') {sl : Int32} {L1 L2 : tL} {kep isk : tA} (h : SLr wd hgt g sl L1 L2 kep isk) : SLr wd hgt g' sl L1 L2 kep isk := by
  obtain ⟨b0, b1, h1, h2, h3, h4, h5⟩ := h
  refine ⟨b0, b1, h1, h2, h3, fun q => ?_, fun q => ?_⟩
  · obtain ⟨x, a1, a2, a3, a4⟩ := h4 q
    exact ⟨x, a1, by rw [← e1]; exact a2, by rw [← e2]; exact a3, a4⟩
  · obtain ⟨x, a1, a2, a3, a4⟩ := h5 q
    exact ⟨x, a1, by rw [← e1]; exact a2, by rw [← e2]; exact a3, a4⟩
def putJ (S : tH) (L : tL) (J : tJ) : tH := (L, S.2.1, S.2.2.1, S.2.2.2.1, S.2.2.2.2.1, S.2.2.2.2.2.1, J, S.2.2.2.2.2.2.2)
theorem do_raise : stp_raise Sim := by
  rintro S M ⟨g, hg, hL, hR, hT, hO, hV, hH, hr⟩ u1 u2
  have h36 := gN_le hg
  have sim : Sim S M := ⟨g, hg, hL, hR, hT, hO, hV, hH, hr⟩
  rcases pick_cell hg u1 with ⟨a, ha, rfl⟩ | ⟨h1, h2⟩
  · rcases upto u2 9 (by decide) with ⟨v, hv, rfl⟩ | ⟨hn, ho⟩
    · obtain ⟨c, nx, hc, hnx, q1, q2, q3, H⟩ := hH
      obtain ⟨J', j0, j1, j2, j3⟩ := note_c q1 hc 0 (nI a) (nI (gt g a)) 0
      obtain ⟨L', l1, l2⟩ := putHeight_eq hg hL (v := v) ha
      refine ⟨nI (gt g a), putJ S L' J', pushM M c nx (upd M.2.2.1 a (nI v)), ?_, ?_, ?_⟩
      · rw [fX4_raise, hasCell_yes hg hL ha, some_bind, if_neg one_ne, isDigit_yes hv, some_bind, if_neg one_ne, heightOf_eq hL (by omega), some_bind, j0, some_bind, l1, some_bind]
        rfl
      · rw [fX5_raise, isCell_yes hg hR ha, some_bind, if_neg one_ne, show (9 : Int64) = (nI 9).toInt64 from rfl, in_up hv (by decide), some_bind, if_neg one_ne, mnote_eq hc hnx q2 q3, some_bind, gd_inb (by omega) (by decide), nm_eq, gd_inb (by omega) (by decide), toN (by omega)]
        show some (M.2.2.1 a, pushM M c nx (upd M.2.2.1 a (nI v))) = _
        rw [hR.2.2.1 a (by omega)]
      · exact ⟨setT g a v, GG_setT hg hv, l2, RQ_RR (RQ_setT (RR_RQ hR) (by omega)), hT, hO, SLr_congr (g := g) rfl rfl hV, HIr_push hc hnx H hg rfl rfl (und_raise hg ha) (RR_RQ hR) j1 j2 j3, hr⟩
    · refine ⟨-2, S, M, ?_, ?_, sim⟩
      · rw [fX4_raise, hasCell_yes hg hL ha, some_bind, if_neg one_ne, isDigit_no ho]
        rfl
      · rw [fX5_raise, isCell_yes hg hR ha, some_bind, if_neg one_ne, show (9 : Int64) = (nI 9).toInt64 from rfl, in_upno hn, some_bind]
        rfl
  · refine ⟨-1, S, M, ?_, ?_, sim⟩
    · rw [fX4_raise, hasCell_no hg hL h2]
      rfl
    · rw [fX5_raise, isCell_no hR h1]
      rfl
theorem do_build : stp_build Sim := by
  rintro S M ⟨g, hg, hL, hR, hT, hO, hV, hH, hr⟩ u1 u2
  have h36 := gN_le hg
  have h5 := hg.2.2.1
  have sim : Sim S M := ⟨g, hg, hL, hR, hT, hO, hV, hH, hr⟩
  rcases pick_cell hg u1 with ⟨a, ha, rfl⟩ | ⟨h1, h2⟩
  · rcases upto u2 9 (by decide) with ⟨v, hv, rfl⟩ | ⟨hn, ho⟩
    · by_cases hT5 : gT g < 5
      · obtain ⟨c, nx, hc, hnx, q1, q2, q3, H⟩ := hH
        obtain ⟨J', j0, j1, j2, j3⟩ := note_c q1 hc 1 (nI (gT g)) (nI a) (nI v)
        obtain ⟨L', l1, l2⟩ := putTower_eq hg hL (p := gT g) (c := a) (r := v) (Nat.le_refl _) hT5 ha
        obtain ⟨w', w1, w2⟩ := buildOn_eq (RR_RQ hR) hT5 a v
        refine ⟨nI (gT g + 1), putJ S L' J', pushM M c nx w', ?_, ?_, ?_⟩
        · rw [fX4_build, hasCell_yes hg hL ha, some_bind, if_neg one_ne, isDigit_yes hv, some_bind, if_neg one_ne, hL.2.2.1, if_pos (show nI (gT g) < (5 : Int32) from nI_lt (b := 5) hT5 (by decide)), j0, some_bind, l1, some_bind]
          show some (L'.2.2.1, putJ S L' J') = _
          rw [l2.2.2.1]
          rfl
        · rw [fX5_build, isCell_yes hg hR ha, some_bind, if_neg one_ne, show (9 : Int64) = (nI 9).toInt64 from rfl, in_up hv (by decide), some_bind, if_neg one_ne, show ((36 : Int32).toNatClampNeg) = 36 from rfl, hR.2.2.2.1, if_neg (show ¬ nI (gT g) = (5 : Int32) from fun q => by have := (nI_eq (b := 5) (by omega) (by decide)).mp q; omega), mnote_eq hc hnx q2 q3, some_bind, show (pushM M c nx M.2.2.1).2.2.1 = M.2.2.1 from rfl, w1, some_bind]
          show some (w' 36, pushM M c nx w') = _
          rw [w2.2.2.2.1]
          rfl
        · exact ⟨insT g (gT g) a v, GG_insT hg (Nat.le_refl _) hT5 ha hv, l2, RQ_RR w2, hT, hO, SLr_congr (g := g) rfl rfl hV, HIr_push hc hnx H hg rfl rfl (und_build hg hT5 ha hv) (RR_RQ hR) j1 j2 j3, hr⟩
      · have hT55 : gT g = 5 := by omega
        refine ⟨-4, S, M, ?_, ?_, sim⟩
        · rw [fX4_build, hasCell_yes hg hL ha, some_bind, if_neg one_ne, isDigit_yes hv, some_bind, if_neg one_ne, hL.2.2.1, hT55]
          rfl
        · rw [fX5_build, isCell_yes hg hR ha, some_bind, if_neg one_ne, show (9 : Int64) = (nI 9).toInt64 from rfl, in_up hv (by decide), some_bind, if_neg one_ne, show ((36 : Int32).toNatClampNeg) = 36 from rfl, hR.2.2.2.1, hT55, if_pos (by rfl)]
    · refine ⟨-2, S, M, ?_, ?_, sim⟩
      · rw [fX4_build, hasCell_yes hg hL ha, some_bind, if_neg one_ne, isDigit_no ho]
        rfl
      · rw [fX5_build, isCell_yes hg hR ha, some_bind, if_neg one_ne, show (9 : Int64) = (nI 9).toInt64 from rfl, in_upno hn, some_bind]
        rfl
  · refine ⟨-1, S, M, ?_, ?_, sim⟩
    · rw [fX4_build, hasCell_no hg hL h2]
      rfl
    · rw [fX5_build, isCell_no hR h1]
      rfl
theorem do_raze : stp_raze Sim := by
  rintro S M ⟨g, hg, hL, hR, hT, hO, hV, hH, hr⟩ u1
  have h5 := hg.2.2.1
  have sim : Sim S M := ⟨g, hg, hL, hR, hT, hO, hV, hH, hr⟩
  rcases pick_tower hg u1 with ⟨t, ht, rfl⟩ | ⟨h1, h2⟩
  · obtain ⟨c, nx, hc, hnx, q1, q2, q3, H⟩ := hH
    obtain ⟨J', j0, j1, j2, j3⟩ := note_c q1 hc 2 (nI t) (nI (gc g t)) (nI (gr g t))
    obtain ⟨L', l1, l2⟩ := dropTower_eq hg hL ht
    obtain ⟨w', w1, w2⟩ := razeOf_eq hg (RR_RQ hR) ht
    refine ⟨nI (gT g - 1), putJ S L' J', pushM M c nx w', ?_, ?_, ?_⟩
    · rw [fX4_raze, hasTower_eq hg hL ht, some_bind, if_neg one_ne, gd_inb (by omega) (by decide), gd_inb (by omega) (by decide), toN (by omega), hL.2.2.2.2.1 t ht, hL.2.2.2.2.2.1 t ht, j0, some_bind, l1, some_bind]
      show some (L'.2.2.1, putJ S L' J') = _
      rw [l2.2.2.1]
      rfl
    · rw [fX5_raze, isTower_yes hg hR ht, some_bind, if_neg one_ne, mnote_eq hc hnx q2 q3, some_bind, show (pushM M c nx M.2.2.1).2.2.1 = M.2.2.1 from rfl, w1, some_bind]
      show some (w' 36, pushM M c nx w') = _
      rw [w2.2.2.2.1]
      rfl
    · exact ⟨delT g t, GG_delT hg ht, l2, RQ_RR w2, hT, hO, SLr_congr (g := g) rfl rfl hV, HIr_push hc hnx H hg rfl rfl (und_raze hg ht) (RR_RQ hR) j1 j2 j3, hr⟩
  · refine ⟨-1, S, M, ?_, ?_, sim⟩
    · rw [fX4_raze, hasTower_no hg hL h2]
      rfl
    · rw [fX5_raze, isTower_no hR h1]
      rfl
theorem take_eq {J : tJ} {L L' : tL} {c : Nat} (hc : J.2.2.2.2 = nI (c + 1)) (h14 : c + 1 ≤ 14) {q : Int32} (h : ublk (J.1 c) (J.2.1 c) (J.2.2.1 c) (J.2.2.2.1 c) L = some (q, L')) : fX0_takeBack J L = some ((J.1, J.2.1, J.2.2.1, J.2.2.2.1, nI c), L') := by
  rw [fX0_takeBack, hc, if_neg (show ¬ nI (c + 1) < (1 : Int32) from nI_nlt (b := 1) (by omega) (by omega)), if_pos (show nI (c + 1) ≤ (14 : Int32) from nI_le (b := 14) h14 (by decide)), nm_eq, show (1 : Int32) = nI 1 from rfl, pk_sub (by omega), show c + 1 - 1 = c by omega]
  simp only [gd_inb (show c < 14 by omega) (show 14 < 2 ^ 31 by decide), nm_eq, toN (show c < 2 ^ 31 by omega)]
  unfold ublk at h
  by_cases k0 : J.1 c = 0
  · rw [if_pos k0] at h ⊢
    rw [h, some_bind]
  · rw [if_neg k0] at h ⊢
    by_cases k1 : J.1 c = 1
    · rw [if_pos k1] at h
      rw [if_pos (show J.1 c = nI 1 from k1), h, some_bind]
    · rw [if_neg k1] at h
      rw [if_neg (show ¬ J.1 c = nI 1 from k1)]
      by_cases k2 : J.1 c = 2
      · rw [if_pos k2] at h ⊢
        rw [h, some_bind]
      · rw [if_neg k2] at h ⊢
        rw [h, some_bind]
def cp2 (now dia : tA) (b i : Nat) : tA := fun k => if i ≤ k ∧ k < 51 then dia (b + k) else now k
theorem cp2_end (now dia : tA) (b : Nat) : cp2 now dia b 51 = now := funext (fun k => if_neg (by omega))
theorem cp2_step (now dia : tA) (b : Nat) {i : Nat} (hi : i < 51) : cp2 (upd now i (dia (b + i))) dia b (i + 1) = cp2 now dia b i := by
  funext j
  unfold cp2
  by_cases h : i + 1 ≤ j ∧ j < 51
  · rw [if_pos h, if_pos (by omega)]
  · rw [if_neg h]
    by_cases q : j = i
    · rw [q, pk_us, if_pos (by omega)]
    · rw [pk_un q, if_neg (by omega)]
def setW (M : tM) (w : tA) : tM := (M.1, M.2.1, w, M.2.2.2)
theorem mundo_loop {nx : Nat} (hnx : nx < 14) (M : tM) (h : M.1.2.2.2.2.1 = nI nx) (k70 : tM → Option (Int32 × tM)) : ∀ (d i f : Nat) (w : tA), i + d = 51 → d < f → fX5_undo_38 k70 f (nI i) (setW M w) = k70 (setW M (cp2 w M.2.2.2.2.1 (51 * nx) i)) := by
  intro d
  induction d with
  | zero =>
    intro i f w h1 h2
    obtain ⟨f, rfl⟩ : ∃ m, f = m + 1 := ⟨f - 1, by omega⟩
    rw [fX5_undo_38, if_pos (show (51 : Int32) ≤ nI i from nI_le (a := 51) (by omega) (by omega)), show i = 51 by omega, cp2_end]
  | succ d ih =>
    intro i f w h1 h2
    obtain ⟨f, rfl⟩ : ∃ m, f = m + 1 := ⟨f - 1, by omega⟩
    rw [fX5_undo_38, if_neg (show ¬ (51 : Int32) ≤ nI i from nI_ge (b := 51) (by omega) (by decide)), show (setW M w).1.2.2.2.2.1 = nI nx from h, show (51 : Int32) * nI nx = nI (51 * nx) from pk_mul 51 nx, nI_add, gd_inb (by omega) (by decide), gd_inb (by omega) (by decide), nm_eq, nI_add1, toN (by omega), toN (by omega)]
    refine (ih (i + 1) f (upd w i (M.2.2.2.2.1 (51 * nx + i))) (by omega) (by omega)).trans ?_
    rw [cp2_step _ _ _ (by omega)]
def popM (M : tM) (c nx : Nat) : tM := ((M.1.1, M.1.2.1, M.1.2.2.1, nI c, nI nx, M.1.2.2.2.2.2), M.2.1, M.2.2.1, M.2.2.2)
theorem do_undo : stp_undo Sim := by
  rintro S M ⟨g, hg, hL, hR, hT, hO, hV, hH, hr⟩ _
  have sim : Sim S M := ⟨g, hg, hL, hR, hT, hO, hV, hH, hr⟩
  obtain ⟨c, nx, hc, hnx, q1, q2, q3, H⟩ := hH
  by_cases h0 : c = 0
  · refine ⟨-3, S, M, ?_, ?_, sim⟩
    · rw [fX4_undo, if_pos (by rw [q1, h0]; rfl)]
    · rw [fX5_undo, if_pos (by rw [q2, h0]; rfl)]
  · obtain ⟨c, rfl⟩ : ∃ m, c = m + 1 := ⟨c - 1, by omega⟩
    obtain ⟨g', a1, a2, a3, a4, a5, a6⟩ := H
    obtain ⟨q, L', l1, l2⟩ := a4 S.1 hL
    refine ⟨nI c, putJ S L' (S.2.2.2.2.2.2.1.1, S.2.2.2.2.2.2.1.2.1, S.2.2.2.2.2.2.1.2.2.1, S.2.2.2.2.2.2.1.2.2.2.1, nI c), setW (popM M c ((nx + 13) % 14)) (cp2 M.2.2.1 M.2.2.2.2.1 (51 * ((nx + 13) % 14)) 0), ?_, ?_, ?_⟩
    · rw [fX4_undo, if_neg (by rw [q1]; exact nI_ne0 (by omega) (by omega)), take_eq q1 hc l1, some_bind]
      rfl
    · rw [fX5_undo, if_neg (by rw [q2]; exact nI_ne0 (by omega) (by omega)), q2, q3, show (1 : Int32) = nI 1 from rfl, show (14 : Int32) = nI 14 from rfl, nI_add, pk_sub (by omega), pk_sub (by omega), nm_eq, pk_rem (by omega) (by omega) (by omega), nm_eq, show c + 1 - 1 = c by omega, show nx + 14 - 1 = nx + 13 by omega]
      refine (mundo_loop (nx := (nx + 13) % 14) (by omega) (popM M c ((nx + 13) % 14)) rfl _ 51 0 100000 M.2.2.1 (by decide) (by decide)).trans ?_
      rfl
    · refine ⟨g', a1, l2, RQ_RR (RQ_congr a1 (fun k hk => ?_) a5), hT, hO, SLr_congr a2.symm a3.symm hV, ⟨c, (nx + 13) % 14, by omega, by omega, rfl, rfl, rfl, ?_⟩, hr⟩
      · show M.2.2.2.2.1 (51 * ((nx + 13 - 0) % 14) + k) = cp2 M.2.2.1 M.2.2.2.2.1 (51 * ((nx + 13) % 14)) 0 k
        unfold cp2
        rw [if_pos (by omega)]
        rfl
      · refine Hist_congr (fun j hj => ?_) (fun j hj k hk => ?_) a6
        · show jent S.2.2.2.2.2.2.1 (c + 1 - 1 - (j + 1)) = jent S.2.2.2.2.2.2.1 (c - 1 - j)
          rw [show c + 1 - 1 - (j + 1) = c - 1 - j by omega]
        · show M.2.2.2.2.1 (51 * ((nx + 13 - (j + 1)) % 14) + k) = M.2.2.2.2.1 (51 * (((nx + 13) % 14 + 13 - j) % 14) + k)
          rw [show (nx + 13 - (j + 1)) % 14 = ((nx + 13) % 14 + 13 - j) % 14 by omega]
theorem gt_of {u : Int32} {n : Nat} (hn : n < 1000) (h : nI n < u) : nI (n + 1) ≤ u := by
  rw [Int32.lt_iff_toInt_lt, nI_toInt (by omega)] at h
  rw [Int32.le_iff_toInt_le, nI_toInt (by omega)]
  omega
theorem may_set (u1 u2 : Int32) : (∃ k v, k < 4 ∧ v ≤ 9 ∧ (k = 3 → 1 ≤ v) ∧ u1 = nI k ∧ u2 = nI v ∧ fX5_maySet u1 u2 = some 1) ∨ (fX4_isSetting u1 u2 = some 0 ∧ fX5_maySet u1 u2 = some 0) := by
  rcases upto u1 3 (by decide) with ⟨k, hk, rfl⟩ | ⟨hn, ho⟩
  · rcases upto u2 9 (by decide) with ⟨v, hv, rfl⟩ | ⟨hn, ho⟩
    · by_cases h3 : k = 3
      · subst h3
        by_cases hv0 : v = 0
        · subst hv0
          exact Or.inr ⟨rfl, rfl⟩
        · refine Or.inl ⟨3, v, by decide, hv, fun _ => by omega, rfl, rfl, ?_⟩
          rw [fX5_maySet, show fX5_in (nI 3).toInt64 (0 : Int64) (3 : Int64) = some 1 from rfl, some_bind, if_neg one_ne, if_pos (by rfl), show (1 : Int64) = (nI 1).toInt64 from rfl, show (9 : Int64) = (nI 9).toInt64 from rfl, in_eq, if_pos ⟨nI_le (by omega) (by omega), nI_le hv (by omega)⟩, some_bind, if_neg one_ne]
      · refine Or.inl ⟨k, v, by omega, hv, fun q => absurd q h3, rfl, rfl, ?_⟩
        rw [fX5_maySet, show (3 : Int64) = (nI 3).toInt64 from rfl, in_up hk (by decide), some_bind, if_neg one_ne, if_neg (show ¬ nI k = (3 : Int32) from fun q => h3 ((nI_eq (b := 3) (by omega) (by decide)).mp q)), show (9 : Int64) = (nI 9).toInt64 from rfl, in_up hv (by decide), some_bind, if_neg one_ne]
    · refine Or.inr ⟨?_, ?_⟩
      · rw [fX4_isSetting, if_neg (nI_pos (by omega)), if_neg (show ¬ (4 : Int32) ≤ nI k from nI_ge (b := 4) (by omega) (by decide)), fX4_lowestValue]
        rcases ho with ho | ho
        · split
          · rw [some_bind, if_pos (Int32.lt_trans ho (by decide))]
          · rw [some_bind, if_pos ho]
        · split
          · rw [some_bind, if_pos (show (9 : Int32) < u2 from ho)]
            split <;> rfl
          · rw [some_bind, if_pos (show (9 : Int32) < u2 from ho)]
            split <;> rfl
      · rw [fX5_maySet, show (3 : Int64) = (nI 3).toInt64 from rfl, in_up hk (by decide), some_bind, if_neg one_ne, show (9 : Int64) = (nI 9).toInt64 from rfl, in_upno hn, show (1 : Int64) = (nI 1).toInt64 from rfl, in_eq, if_neg (c := nI 1 ≤ u2 ∧ u2 ≤ nI 9) (fun q => hn ⟨Int32.le_trans (show (0 : Int32) ≤ nI 1 by decide) q.1, q.2⟩)]
        split <;> rfl
  · refine Or.inr ⟨?_, ?_⟩
    · rw [fX4_isSetting]
      rcases ho with ho | ho
      · rw [if_pos ho]
      · rw [if_pos (show (4 : Int32) ≤ u1 from gt_of (by decide) ho)]
        split <;> rfl
    · rw [fX5_maySet, show (3 : Int64) = (nI 3).toInt64 from rfl, in_upno hn]
      rfl
theorem do_set : stp_set Sim := by
  rintro S M ⟨g, hg, hL, hR, hT, hO, hV, hH, hr⟩ u1 u2
  have sim : Sim S M := ⟨g, hg, hL, hR, hT, hO, hV, hH, hr⟩
  rcases may_set u1 u2 with ⟨k, v, hk, hv, h3, rfl, rfl, hm⟩ | ⟨h1, h2⟩
  · obtain ⟨c, nx, hc, hnx, q1, q2, q3, H⟩ := hH
    obtain ⟨J', j0, j1, j2, j3⟩ := note_c q1 hc 3 (nI k) (nI (gs g k)) 0
    obtain ⟨L', l1, l2⟩ := putSetting_eq hL hk hv h3
    refine ⟨nI (gs g k), putJ S L' J', pushM M c nx (upd M.2.2.1 (47 + k) (nI v)), ?_, ?_, ?_⟩
    · rw [fX4_set, isSetting_yes hk hv h3, some_bind, if_neg one_ne, gd_inb (by omega) (by decide), nm_eq, toN (by omega), hL.2.2.2.2.2.2 k hk, j0, some_bind, l1, some_bind]
      rfl
    · rw [fX5_set, hm, some_bind, if_neg one_ne, mnote_eq hc hnx q2 q3, some_bind, show (47 : Int32) = nI 47 from rfl, nI_add, gd_inb (by omega) (by decide), nm_eq, gd_inb (by omega) (by decide), toN (by omega)]
      show some (M.2.2.1 (47 + k), pushM M c nx (upd M.2.2.1 (47 + k) (nI v))) = _
      rw [hR.2.2.2.2.2.2 k hk]
    · exact ⟨setS g k v, GG_setS hg hv h3, l2, RQ_RR (RQ_setS hg (RR_RQ hR) hk), hT, hO, SLr_congr (g := g) rfl rfl hV, HIr_push hc hnx H hg rfl rfl (und_set hg hk) (RR_RQ hR) j1 j2 j3, hr⟩
  · refine ⟨-2, S, M, ?_, ?_, sim⟩
    · rw [fX4_set, h1]
      rfl
    · rw [fX5_set, h2]
      rfl
