/-! Events on both sides. -/
theorem ev_sim (S : tH) (M : tM) {g : tG} (hg : GG g) {L : tL} {w : tA} (ho : tA) (hL : LL L g) (hR : RQ M.1.2.1 M.1.2.2.1 w g) {k a b c d : Nat} (ha : a ≤ 9) (hb : b ≤ 9) (hc : c ≤ 9) : ∃ (t : Bool) (L' : tL) (w' ho' : tA) (g' : tG), evC (setT1 S L) k a b c d = some (bI t, setT1 S L') ∧ evM (setJ M w ho) k a b c d = some (bI t, setJ M w' ho') ∧ (t = true → GG g' ∧ gw g' = gw g ∧ gh g' = gh g ∧ LL L' g' ∧ RQ M.1.2.1 M.1.2.2.1 w' g') := by
  have h36 := gN_le hg
  have h5 := hg.2.2.1
  have hRR : RR M.1 w g := RQ_RR hR
  have hcell := pick_cell hg (nI (10 * a + b))
  by_cases hd : d = 0
  · subst hd
    by_cases k1 : k = 1
    · subst k1
      rcases hcell with ⟨x, hx, ex⟩ | ⟨n1, n2⟩
      · obtain ⟨L', l1, l2⟩ := putHeight_eq hg hL (v := c) hx
        refine ⟨true, L', upd w x (nI c), ho, setT g x c, ?_, ?_, fun _ => ⟨GG_setT hg hc, rfl, rfl, l2, RQ_setT hR (by omega)⟩⟩
        · rw [evC, if_pos rfl, if_pos rfl, ex, show (setT1 S L).2.1 = L from rfl, l1]
          rfl
        · rw [evM, if_pos rfl, ex, show (setJ M w ho).1 = M.1 from rfl, isCell_yes hg hRR hx, some_bind, if_neg one_ne, if_pos rfl, gd_inb (by omega) (by decide), toN (by omega)]
          rfl
      · refine ⟨false, L, w, ho, g, ?_, ?_, fun q => (by cases q)⟩
        · rw [evC, if_pos rfl, if_pos rfl, show (setT1 S L).2.1 = L from rfl, fX1_putHeight, hasCell_no hg hL n2]
          rfl
        · rw [evM, if_pos rfl, show (setJ M w ho).1 = M.1 from rfl, isCell_no hRR n1]
          rfl
    by_cases k2 : k = 2
    · subst k2
      rcases hcell with ⟨x, hx, ex⟩ | ⟨n1, n2⟩
      · by_cases hT : gT g < 5
        · obtain ⟨L', l1, l2⟩ := putTower_eq hg hL (p := gT g) (c := x) (r := c) (Nat.le_refl _) hT hx
          obtain ⟨w', w1, w2⟩ := buildOn_eq hR hT x c
          refine ⟨true, L', w', ho, insT g (gT g) x c, ?_, ?_, fun _ => ⟨GG_insT hg (Nat.le_refl _) hT hx hc, rfl, rfl, l2, w2⟩⟩
          · rw [evC, if_pos rfl, if_neg (by decide), if_pos rfl, ex, show (setT1 S L).2.1 = L from rfl, hL.2.2.1, l1]
            rfl
          · rw [evM, if_neg (by decide), if_pos rfl, ex, show (setJ M w ho).1 = M.1 from rfl, isCell_yes hg hRR hx, some_bind, if_neg one_ne, if_pos rfl, show (setJ M w ho).2.2.2.1 = w from rfl, hR.2.2.2.1, if_neg (show ¬ nI (gT g) = (5 : Int32) from fun q => by have := (nI_eq (b := 5) (by omega) (by decide)).mp q; omega), w1]
            rfl
        · refine ⟨false, L, w, ho, g, ?_, ?_, fun q => (by cases q)⟩
          · rw [evC, if_pos rfl, if_neg (by decide), if_pos rfl, ex, show (setT1 S L).2.1 = L from rfl, hL.2.2.1, fX1_putTower, hasCell_yes hg hL hx, some_bind, if_neg one_ne, hL.2.2.1, if_pos (show (5 : Int32) ≤ nI (gT g) from nI_le (a := 5) (by omega) (by omega))]
            rfl
          · rw [evM, if_neg (by decide), if_pos rfl, ex, show (setJ M w ho).1 = M.1 from rfl, isCell_yes hg hRR hx, some_bind, if_neg one_ne, if_pos rfl, show (setJ M w ho).2.2.2.1 = w from rfl, hR.2.2.2.1, if_pos (show nI (gT g) = (5 : Int32) by rw [show gT g = 5 by omega]; rfl)]
            rfl
      · refine ⟨false, L, w, ho, g, ?_, ?_, fun q => (by cases q)⟩
        · rw [evC, if_pos rfl, if_neg (by decide), if_pos rfl, show (setT1 S L).2.1 = L from rfl, fX1_putTower, hasCell_no hg hL n2]
          rfl
        · rw [evM, if_neg (by decide), if_pos rfl, show (setJ M w ho).1 = M.1 from rfl, isCell_no hRR n1]
          rfl
    by_cases k3 : k = 3
    · subst k3
      by_cases ht : a < gT g
      · by_cases hz : b = 0 ∧ c = 0
        · obtain ⟨L', l1, l2⟩ := dropTower_eq hg hL ht
          obtain ⟨w', w1, w2⟩ := razeOf_eq hg hR ht
          refine ⟨true, L', w', ho, delT g a, ?_, ?_, fun _ => ⟨GG_delT hg ht, rfl, rfl, l2, w2⟩⟩
          · rw [evC, if_pos rfl, if_neg (by decide), if_neg (by decide), if_pos rfl, if_pos hz.1, if_pos hz.2, show (setT1 S L).2.1 = L from rfl, l1]
            rfl
          · rw [evM, if_neg (by decide), if_neg (by decide), if_pos rfl, show (setJ M w ho).2.2.2.1 = w from rfl, hR.2.2.2.1, if_neg (nI_ge ht (by omega)), if_pos (by omega), w1]
            rfl
        · refine ⟨false, L, w, ho, g, ?_, ?_, fun q => (by cases q)⟩
          · rw [evC, if_pos rfl, if_neg (by decide), if_neg (by decide), if_pos rfl]
            by_cases z : b = 0
            · rw [if_pos z, if_neg (fun e => hz ⟨z, e⟩)]
              rfl
            · rw [if_neg z]
              rfl
          · rw [evM, if_neg (by decide), if_neg (by decide), if_pos rfl, show (setJ M w ho).2.2.2.1 = w from rfl, hR.2.2.2.1, if_neg (nI_ge ht (by omega)), if_neg (by omega)]
            rfl
      · refine ⟨false, L, w, ho, g, ?_, ?_, fun q => (by cases q)⟩
        · rw [evC, if_pos rfl, if_neg (by decide), if_neg (by decide), if_pos rfl, show (setT1 S L).2.1 = L from rfl, fX1_dropTower, hasTower_no hg hL (fun t h e => ht (by rw [(nI_eq (by omega) (by omega)).mp e]; exact h))]
          by_cases z : b = 0
          · rw [if_pos z]
            by_cases z2 : c = 0
            · rw [if_pos z2]
              rfl
            · rw [if_neg z2]
              rfl
          · rw [if_neg z]
            rfl
        · rw [evM, if_neg (by decide), if_neg (by decide), if_pos rfl, show (setJ M w ho).2.2.2.1 = w from rfl, hR.2.2.2.1, if_pos (nI_le (by omega) (by omega))]
          rfl
    by_cases k4 : k = 4
    · subst k4
      by_cases z : c = 0
      · obtain ⟨hs, b1, b2⟩ := hidC hg hL
        have hh := hidden_eq hg hRR
        by_cases e : nI (hidN g) = nI (10 * a + b)
        · refine ⟨true, L, w, ho, g, ?_, ?_, fun _ => ⟨hg, rfl, rfl, hL, hR⟩⟩
          · rw [evC, if_pos rfl, if_neg (by decide), if_neg (by decide), if_neg (by decide), if_pos rfl, if_pos z, show (setT1 S L).2.1 = L from rfl, b1, some_bind, b2, some_bind, if_pos e]
            rfl
          · rw [evM, if_neg (by decide), if_neg (by decide), if_neg (by decide), if_pos rfl, if_pos (by omega), show (setJ M w ho).1 = M.1 from rfl, show (setJ M w ho).2.2.2.1 = w from rfl, hh, some_bind, if_pos e]
            rfl
        · refine ⟨false, L, w, ho, g, ?_, ?_, fun q => (by cases q)⟩
          · rw [evC, if_pos rfl, if_neg (by decide), if_neg (by decide), if_neg (by decide), if_pos rfl, if_pos z, show (setT1 S L).2.1 = L from rfl, b1, some_bind, b2, some_bind, if_neg e]
            rfl
          · rw [evM, if_neg (by decide), if_neg (by decide), if_neg (by decide), if_pos rfl, if_pos (by omega), show (setJ M w ho).1 = M.1 from rfl, show (setJ M w ho).2.2.2.1 = w from rfl, hh, some_bind, if_neg e]
            rfl
      · refine ⟨false, L, w, ho, g, ?_, ?_, fun q => (by cases q)⟩
        · rw [evC, if_pos rfl, if_neg (by decide), if_neg (by decide), if_neg (by decide), if_pos rfl, if_neg z]
          rfl
        · rw [evM, if_neg (by decide), if_neg (by decide), if_neg (by decide), if_pos rfl, if_neg (by omega)]
          rfl
    by_cases k5 : k = 5
    · subst k5
      rcases hcell with ⟨x, hx, ex⟩ | ⟨n1, n2⟩
      · have m1 := mk_lt36 (hid g (gT g)) h36
        have m2 := mk_lt36 (seenA g) h36
        have c1 : fX4_contains (lN (mk (hid g (gT g)) (gN g))) (nI x) = some (bI (!seenA g x)) := by
          rw [contains_eq (by omega) (by omega), mk_bit, decide_eq_true hx, Bool.true_and, hid_seen]
          rfl
        have c2 : fX5_has (lN (mk (seenA g) (gN g))) (nI x) = some (bI (seenA g x)) := by
          rw [has_eq (by omega) (by omega), mk_bit, decide_eq_true hx, Bool.true_and]
          rfl
        by_cases z : 1 < c
        · refine ⟨false, L, w, ho, g, ?_, ?_, fun q => (by cases q)⟩
          · rw [evC, if_pos rfl, if_neg (by decide), if_neg (by decide), if_neg (by decide), if_neg (by decide), if_pos rfl, if_pos z]
            rfl
          · rw [evM, if_neg (by decide), if_neg (by decide), if_neg (by decide), if_neg (by decide), if_pos rfl, ex, show (setJ M w ho).1 = M.1 from rfl, isCell_yes hg hRR hx, some_bind, if_neg one_ne, if_pos (by omega)]
            rfl
        · refine ⟨if c = 0 then !seenA g x else seenA g x, L, w, ho, g, ?_, ?_, fun _ => ⟨hg, rfl, rfl, hL, hR⟩⟩
          · rw [evC, if_pos rfl, if_neg (by decide), if_neg (by decide), if_neg (by decide), if_neg (by decide), if_pos rfl, if_neg z, ex, show (setT1 S L).2.1 = L from rfl, hasCell_yes hg hL hx, some_bind, if_neg one_ne, hiddenSet_eq hg hL, some_bind, c1, some_bind]
            by_cases z0 : c = 0
            · rw [if_pos z0, if_pos z0]
              cases seenA g x <;> rfl
            · rw [if_neg z0, if_neg z0]
              cases seenA g x <;> rfl
          · rw [evM, if_neg (by decide), if_neg (by decide), if_neg (by decide), if_neg (by decide), if_pos rfl, ex, show (setJ M w ho).1 = M.1 from rfl, isCell_yes hg hRR hx, some_bind, if_neg one_ne, if_neg (by omega), if_pos rfl, show (setJ M w ho).2.2.2.1 = w from rfl, watchedAny_eq hg hRR, some_bind, c2, some_bind]
            by_cases z0 : c = 0
            · rw [if_neg (show ¬ c = 1 by omega), if_pos z0]
              cases seenA g x <;> rfl
            · rw [if_pos (show c = 1 by omega), if_neg z0]
              cases seenA g x <;> rfl
      · refine ⟨false, L, w, ho, g, ?_, ?_, fun q => (by cases q)⟩
        · rw [evC, if_pos rfl, if_neg (by decide), if_neg (by decide), if_neg (by decide), if_neg (by decide), if_pos rfl, show (setT1 S L).2.1 = L from rfl, hasCell_no hg hL n2]
          by_cases z : 1 < c
          · rw [if_pos z]
            rfl
          · rw [if_neg z]
            rfl
        · rw [evM, if_neg (by decide), if_neg (by decide), if_neg (by decide), if_neg (by decide), if_pos rfl, show (setJ M w ho).1 = M.1 from rfl, isCell_no hRR n1]
          rfl
    by_cases k6 : k = 6
    · subst k6
      rcases may_set (nI a) (nI b) with ⟨x, y, hx, hy, h3, ex, ey, hm⟩ | ⟨s1, s2⟩
      · by_cases z : c = 0
        · obtain ⟨L', l1, l2⟩ := putSetting_eq hL hx hy h3
          refine ⟨true, L', upd w (47 + x) (nI y), ho, setS g x y, ?_, ?_, fun _ => ⟨GG_setS hg hy h3, rfl, rfl, l2, RQ_setS hg hR hx⟩⟩
          · rw [evC, if_pos rfl, if_neg (by decide), if_neg (by decide), if_neg (by decide), if_neg (by decide), if_neg (by decide), if_pos rfl, if_pos z, ex, ey, show (setT1 S L).2.1 = L from rfl, l1]
            rfl
          · rw [evM, if_neg (by decide), if_neg (by decide), if_neg (by decide), if_neg (by decide), if_neg (by decide), if_pos rfl, hm, some_bind, if_neg one_ne, if_pos (by omega), ex, ey, show (47 : Int32) = nI 47 from rfl, nI_add, gd_inb (by omega) (by decide), toN (by omega)]
            rfl
        · refine ⟨false, L, w, ho, g, ?_, ?_, fun q => (by cases q)⟩
          · rw [evC, if_pos rfl, if_neg (by decide), if_neg (by decide), if_neg (by decide), if_neg (by decide), if_neg (by decide), if_pos rfl, if_neg z]
            rfl
          · rw [evM, if_neg (by decide), if_neg (by decide), if_neg (by decide), if_neg (by decide), if_neg (by decide), if_pos rfl, hm, some_bind, if_neg one_ne, if_neg (by omega)]
            rfl
      · refine ⟨false, L, w, ho, g, ?_, ?_, fun q => (by cases q)⟩
        · rw [evC, if_pos rfl, if_neg (by decide), if_neg (by decide), if_neg (by decide), if_neg (by decide), if_neg (by decide), if_pos rfl, fX1_putSetting, s1]
          by_cases z : c = 0
          · rw [if_pos z]
            rfl
          · rw [if_neg z]
            rfl
        · rw [evM, if_neg (by decide), if_neg (by decide), if_neg (by decide), if_neg (by decide), if_neg (by decide), if_pos rfl, s2]
          rfl
    by_cases k7 : k = 7
    · subst k7
      by_cases hz : b = 0 ∧ c = 0
      · obtain ⟨ho', h, e1, e2, e3, e4⟩ := lay_eqH hg hRR ho
        by_cases e : nI (cnt (isR g h) (gN g)) = nI a
        · refine ⟨true, L, w, ho', g, ?_, ?_, fun _ => ⟨hg, rfl, rfl, hL, hR⟩⟩
          · rw [evC, if_pos rfl, if_neg (by decide), if_neg (by decide), if_neg (by decide), if_neg (by decide), if_neg (by decide), if_neg (by decide), if_pos rfl, if_pos hz.1, if_pos hz.2, show (setT1 S L).2.1 = L from rfl, hiddenSet_eq hg hL, some_bind, regionCount_eq hg hL e3 e4, some_bind, if_pos e]
            rfl
          · rw [evM, if_neg (by decide), if_neg (by decide), if_neg (by decide), if_neg (by decide), if_neg (by decide), if_neg (by decide), if_pos rfl, if_pos (by omega), show (setJ M w ho).1 = M.1 from rfl, show (setJ M w ho).2.2.2.1 = w from rfl, show (setJ M w ho).2.2.2.2.2.2.2.2.2.2.2.2 = ho from rfl, e1, some_bind, if_pos e]
            rfl
        · refine ⟨false, L, w, ho', g, ?_, ?_, fun q => (by cases q)⟩
          · rw [evC, if_pos rfl, if_neg (by decide), if_neg (by decide), if_neg (by decide), if_neg (by decide), if_neg (by decide), if_neg (by decide), if_pos rfl, if_pos hz.1, if_pos hz.2, show (setT1 S L).2.1 = L from rfl, hiddenSet_eq hg hL, some_bind, regionCount_eq hg hL e3 e4, some_bind, if_neg e]
            rfl
          · rw [evM, if_neg (by decide), if_neg (by decide), if_neg (by decide), if_neg (by decide), if_neg (by decide), if_neg (by decide), if_pos rfl, if_pos (by omega), show (setJ M w ho).1 = M.1 from rfl, show (setJ M w ho).2.2.2.1 = w from rfl, show (setJ M w ho).2.2.2.2.2.2.2.2.2.2.2.2 = ho from rfl, e1, some_bind, if_neg e]
            rfl
      · refine ⟨false, L, w, ho, g, ?_, ?_, fun q => (by cases q)⟩
        · rw [evC, if_pos rfl, if_neg (by decide), if_neg (by decide), if_neg (by decide), if_neg (by decide), if_neg (by decide), if_neg (by decide), if_pos rfl]
          by_cases z : b = 0
          · rw [if_pos z, if_neg (fun e => hz ⟨z, e⟩)]
            rfl
          · rw [if_neg z]
            rfl
        · rw [evM, if_neg (by decide), if_neg (by decide), if_neg (by decide), if_neg (by decide), if_neg (by decide), if_neg (by decide), if_pos rfl, if_neg (by omega)]
          rfl
    refine ⟨false, L, w, ho, g, ?_, ?_, fun q => (by cases q)⟩
    · rw [evC, if_pos rfl, if_neg k1, if_neg k2, if_neg k3, if_neg k4, if_neg k5, if_neg k6, if_neg k7]
      rfl
    · rw [evM, if_neg k1, if_neg k2, if_neg k3, if_neg k4, if_neg k5, if_neg k6, if_neg k7]
      rfl
  · refine ⟨false, L, w, ho, g, ?_, ?_, fun q => (by cases q)⟩
    · rw [evC, if_neg hd]
      rfl
    · have hic : ∃ r, fX5_isCell M.1 (nI (10 * a + b)) = some r := by
        rcases hcell with ⟨x, hx, ex⟩ | ⟨n1, n2⟩
        · rw [ex]
          exact ⟨_, isCell_yes hg hRR hx⟩
        · exact ⟨_, isCell_no hRR n1⟩
      have hms : ∃ r, fX5_maySet (nI a) (nI b) = some r := by
        rcases may_set (nI a) (nI b) with ⟨x, y, hx, hy, h3, ex, ey, hm⟩ | ⟨s1, s2⟩
        · exact ⟨_, hm⟩
        · exact ⟨_, s2⟩
      obtain ⟨r1, i1⟩ := hic
      obtain ⟨r2, i2⟩ := hms
      rw [evM, show (setJ M w ho).1 = M.1 from rfl, i1, i2, some_bind, some_bind, some_bind, some_bind]
      simp only [if_neg hd, if_neg (show ¬ 100 * b + 10 * c + d = 0 by omega), if_neg (show ¬ 10 * c + d = 0 by omega), ite_self]
      rfl
