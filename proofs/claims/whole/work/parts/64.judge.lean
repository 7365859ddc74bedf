/-! Judging a row of events. -/
theorem in_l (x a b : Int64) : fX5_in x a b = some (if a ≤ x ∧ x ≤ b then 1 else 0) := by
  rw [fX5_in]
  by_cases h1 : x < a
  · rw [if_pos ((cmp_lt _ _).mpr h1), if_neg (fun q => absurd h1 (Int64.not_lt.mpr q.1))]
  · rw [if_neg (fun q => h1 ((cmp_lt _ _).mp q))]
    by_cases h2 : b < x
    · rw [if_pos ((cmp_gt _ _).mpr h2), if_neg (fun q => absurd h2 (Int64.not_lt.mpr q.2))]
    · rw [if_neg (fun q => h2 ((cmp_gt _ _).mp q)), if_pos ⟨Int64.not_lt.mp h1, Int64.not_lt.mp h2⟩]
def pw (n : Nat) : Nat := 100000 ^ n
theorem pw_succ (n : Nat) : pw (n + 1) = pw n * 100000 := Nat.pow_succ 100000 n
theorem pw_pos (n : Nat) : 0 < pw n := Nat.pow_pos (by decide)
theorem pw_le {n : Nat} (h : n ≤ 3) : pw n ≤ 1000000000000000 := Nat.le_trans (Nat.pow_le_pow_right (by decide) h) (by decide)
theorem hund_loop {n : Nat} (hn : n ≤ 3) (k21 : Int64 → Option Int64) : ∀ (d i f : Nat), i + d = n → d < f → fX5_hundredThousands_4 (nI n) k21 f (lN (pw i)) (nI i) = k21 (lN (pw n)) := by
  intro d
  induction d with
  | zero =>
    intro i f h1 h2
    obtain ⟨f, rfl⟩ : ∃ m, f = m + 1 := ⟨f - 1, by omega⟩
    rw [fX5_hundredThousands_4, if_pos (nI_le (by omega) (by omega)), show i = n by omega]
  | succ d ih =>
    intro i f h1 h2
    obtain ⟨f, rfl⟩ : ∃ m, f = m + 1 := ⟨f - 1, by omega⟩
    rw [fX5_hundredThousands_4, if_neg (nI_ge (by omega) (by omega)), nm_eq, nm_eq, nI_add1, show (100000 : Int64) = lN 100000 from rfl, lN_mul, ← pw_succ]
    exact ih (i + 1) f (by omega) (by omega)
theorem hund_eq {n : Nat} (hn : n ≤ 3) : fX5_hundredThousands (nI n) = some (lN (pw n)) := by
  rw [fX5_hundredThousands]
  exact hund_loop hn _ n 0 100000 (Nat.zero_add n) (by omega)
theorem unit_loop (S : tH) {n : Nat} (hn : n ≤ 3) (u2 : Int64) (k45 : Int64 → Option (Int32 × tH)) : ∀ (d i f : Nat), i + d = n → d < f → fX4_judge_25 S (nI n) u2 k45 f (lN (pw i)) (nI i) = k45 (lN (pw n)) := by
  intro d
  induction d with
  | zero =>
    intro i f h1 h2
    obtain ⟨f, rfl⟩ : ∃ m, f = m + 1 := ⟨f - 1, by omega⟩
    rw [fX4_judge_25, if_pos (nI_le (by omega) (by omega)), show i = n by omega]
  | succ d ih =>
    intro i f h1 h2
    obtain ⟨f, rfl⟩ : ∃ m, f = m + 1 := ⟨f - 1, by omega⟩
    rw [fX4_judge_25, if_neg (nI_ge (by omega) (by omega)), nm_eq, nm_eq, nI_add1, show (100000 : Int64) = lN 100000 from rfl, lN_mul, ← pw_succ]
    exact ih (i + 1) f (by omega) (by omega)
theorem judge_loop (S : tH) (M : tM) {n m : Nat} (hn : n ≤ 3) (hm : m < 2 ^ 63) : ∀ (d i f f' : Nat) (L : tL) (w ho : tA) (g : tG), i + d = n → d < f → d < f' → GG g → LL L g → RQ M.1.2.1 M.1.2.2.1 w g → ∃ r L' w' ho', fX4_judge_69 (nI n) (lN m) (fun y11 S12 => some (y11, S12)) (fun S13 => some ((-9 : Int32), S13)) f (lN (pw d)) (nI i) (setT1 S L) = some (r, setT1 S L') ∧ fX5_judge_43 (nI n) (lN m) (fun y15 M16 => some (y15, M16)) (fun M17 => some ((-9 : Int32), M17)) f' (nI i) (setJ M w ho) = some (r, setJ M w' ho') := by
  intro d
  induction d with
  | zero =>
    intro i f f' L w ho g h1 h2 h3 hg hL hR
    obtain ⟨f, rfl⟩ : ∃ m, f = m + 1 := ⟨f - 1, by omega⟩
    obtain ⟨f', rfl⟩ : ∃ m, f' = m + 1 := ⟨f' - 1, by omega⟩
    refine ⟨-9, L, w, ho, ?_, ?_⟩
    · rw [fX4_judge_69, if_pos (nI_le (by omega) (by omega))]
    · rw [fX5_judge_43, if_pos (nI_le (by omega) (by omega))]
  | succ d ih =>
    intro i f f' L w ho g h1 h2 h3 hg hL hR
    obtain ⟨f, rfl⟩ : ∃ m, f = m + 1 := ⟨f - 1, by omega⟩
    obtain ⟨f', rfl⟩ : ∃ m, f' = m + 1 := ⟨f' - 1, by omega⟩
    have p0 := pw_pos d
    have p1 := pw_le (show d ≤ 3 by omega)
    have p2 := pw_le (show d + 1 ≤ 3 by omega)
    have pd : pw (d + 1) / 100000 = pw d := by rw [pw_succ, Nat.mul_div_cancel _ (by decide)]
    have hmd : m / pw d ≤ m := Nat.div_le_self _ _
    have hz : ¬ lN (pw d) = 0 := fun q => by have := (pk_lEQ (a := pw d) (b := 0) (by omega) (by decide)).mp q; omega
    obtain ⟨v, hv⟩ : ∃ v, v = m / pw d % 100000 := ⟨_, rfl⟩
    have hv5 : v < 100000 := by rw [hv]; exact Nat.mod_lt _ (by decide)
    have ev : ((lN m / lN (pw d)) - (lN m / lN (pw d)) / (100000 : Int64) * (100000 : Int64)).toInt32 = nI v := by
      rw [show (100000 : Int64) = lN 100000 from rfl, pk_lDiv hm p0 (by omega), pk_lRem (by omega) (by decide) (by decide), lN_i, hv]
    obtain ⟨t, L', w', ho', g', s1, s2, s3⟩ := ev_sim S M hg ho hL hR (k := v / 10000) (a := v / 1000 % 10) (b := v / 100 % 10) (c := v / 10 % 10) (d := v % 10) (by omega) (by omega) (by omega)
    rw [← holds_ev _ hv5] at s1
    rw [← judged_ev _ hv5] at s2
    have c1 : ∀ F, fX4_judge_69 (nI n) (lN m) (fun y11 S12 => some (y11, S12)) F (f + 1) (lN (pw (d + 1))) (nI i) (setT1 S L) = if t then fX4_judge_69 (nI n) (lN m) (fun y11 S12 => some (y11, S12)) F f (lN (pw d)) (nI (i + 1)) (setT1 S L') else some (nI i, setT1 S L') := fun F => by
      rw [fX4_judge_69, if_neg (nI_ge (by omega) (by omega)), show lN (pw (d + 1)) / (100000 : Int64) = lN (pw d) by rw [show (100000 : Int64) = lN 100000 from rfl, pk_lDiv (by omega) (by decide) (by decide), pd], nm_eq, if_neg (fun q => by have := (pk_lLT (a := pw d) (b := 1) (by omega) (by decide)).mp ((cmp_lt _ _).mp q); omega), gd_true (show nzl (lN (pw d)) = true from decide_eq_true hz), ev, s1, some_bind]
      cases t
      · rfl
      · rw [if_neg (show ¬ (bI true, setT1 S L').1 = 0 from one_ne), nm_eq, nI_add1]
        rfl
    have c2 : ∀ F, fX5_judge_43 (nI n) (lN m) (fun y15 M16 => some (y15, M16)) F (f' + 1) (nI i) (setJ M w ho) = if t then fX5_judge_43 (nI n) (lN m) (fun y15 M16 => some (y15, M16)) F f' (nI (i + 1)) (setJ M w' ho') else some (nI i, setJ M w' ho') := fun F => by
      rw [fX5_judge_43, if_neg (nI_ge (by omega) (by omega)), show (1 : Int32) = nI 1 from rfl, pk_sub (by omega), pk_sub (by omega), show n - 1 - i = d by omega, hund_eq (by omega), some_bind, gd_true (show nzl (lN (pw d)) = true from decide_eq_true hz), ev, s2, some_bind]
      cases t
      · rfl
      · rw [if_neg (show ¬ (bI true, setJ M w' ho').1 = 0 from one_ne), nm_eq, nI_add]
        rfl
    cases t
    · exact ⟨nI i, L', w', ho', c1 _, c2 _⟩
    · obtain ⟨a1, a2, a3, a4, a5⟩ := s3 rfl
      obtain ⟨r, L2, w2, ho2, e1, e2⟩ := ih (i + 1) f f' L' w' ho' g' (by omega) (by omega) (by omega) a1 a4 a5
      exact ⟨r, L2, w2, ho2, (c1 _).trans e1, (c2 _).trans e2⟩
theorem do_judge : stp_judge Sim := by
  rintro S M ⟨g, hg, hL, hR, hT, hO, hV, hH, hr⟩ u1 u2
  have sim : Sim S M := ⟨g, hg, hL, hR, hT, hO, hV, hH, hr⟩
  have hno : ∀ (q : ¬ (1 ≤ u1 ∧ u1 ≤ nI 3)), fX5_judge M u1 u2 = some (-2, M) := fun q => by
    rw [fX5_judge, show (1 : Int64) = (1 : Int32).toInt64 from rfl, show (3 : Int64) = (nI 3).toInt64 from rfl, in_eq, if_neg q, some_bind, if_pos rfl]
  rcases upto u1 3 (by decide) with ⟨n, hn, rfl⟩ | ⟨hn, ho⟩
  · by_cases h0 : n = 0
    · subst h0
      exact ⟨-2, S, M, rfl, hno (by decide), sim⟩
    · have i1 : fX5_in (nI n).toInt64 (1 : Int64) (3 : Int64) = some 1 := by
        rw [show (1 : Int64) = (1 : Int32).toInt64 from rfl, show (3 : Int64) = (nI 3).toInt64 from rfl, in_eq, if_pos ⟨show (1 : Int32) ≤ nI n from nI_le (a := 1) (by omega) (by omega), nI_le hn (by omega)⟩]
      have p0 := pw_pos n
      have p1 := pw_le hn
      by_cases hneg : u2 < 0
      · refine ⟨-2, S, M, ?_, ?_, sim⟩
        · rw [fX4_judge, if_neg (show ¬ nI n < (1 : Int32) from nI_nlt (b := 1) (by omega) (by omega)), if_neg (show ¬ (3 : Int32) < nI n from nI_nlt (a := 3) hn (by decide)), if_neg (fun q => by have := (lg_cmp_ge _ _).mp q; exact absurd hneg (Int64.not_lt.mpr this))]
        · rw [fX5_judge, i1, some_bind, if_neg one_ne, hund_eq hn, some_bind, in_l, if_neg (fun q => absurd hneg (Int64.not_lt.mpr q.1)), some_bind, if_pos rfl]
      · obtain ⟨m, hm, rfl⟩ := pk_lOf hneg
        by_cases hlt : m < pw n
        · obtain ⟨y, y1, y2⟩ := copyFrom_eq S.2.1 hg hL
          obtain ⟨r, L', w', ho', e1, e2⟩ := judge_loop S M hn hm n 0 100000 100000 y (cp2 M.2.2.2.1 M.2.2.1 0 0) M.2.2.2.2.2.2.2.2.2.2.2.2 g (Nat.zero_add n) (by omega) (by omega) hg y2 (RQ_copy hg (RR_RQ hR))
          refine ⟨r, setT1 S L', setJ M w' ho', ?_, ?_, ⟨g, hg, hL, hR, hT, hO, hV, hH, hr⟩⟩
          · rw [fX4_judge, if_neg (show ¬ nI n < (1 : Int32) from nI_nlt (b := 1) (by omega) (by omega)), if_neg (show ¬ (3 : Int32) < nI n from nI_nlt (a := 3) hn (by decide)), if_pos ((lg_cmp_ge _ _).mpr (Int64.not_lt.mp hneg))]
            refine (unit_loop S hn (lN m) _ n 0 100000 (Nat.zero_add n) (by omega)).trans ?_
            rw [if_pos ((cmp_lt _ _).mpr ((pk_lLT hm (by omega)).mpr hlt)), y1, some_bind]
            exact e1
          · rw [fX5_judge, i1, some_bind, if_neg one_ne, hund_eq hn, some_bind, in_l, show (1 : Int64) = lN 1 from rfl, lN_sub (by omega), if_pos ⟨Int64.not_lt.mp hneg, (pk_lLE hm (by omega)).mpr (by omega)⟩, some_bind, if_neg one_ne, copy_eq, some_bind]
            exact e2
        · refine ⟨-2, S, M, ?_, ?_, sim⟩
          · rw [fX4_judge, if_neg (show ¬ nI n < (1 : Int32) from nI_nlt (b := 1) (by omega) (by omega)), if_neg (show ¬ (3 : Int32) < nI n from nI_nlt (a := 3) hn (by decide)), if_pos ((lg_cmp_ge _ _).mpr (Int64.not_lt.mp hneg))]
            refine (unit_loop S hn (lN m) _ n 0 100000 (Nat.zero_add n) (by omega)).trans ?_
            rw [if_neg (fun q => hlt ((pk_lLT hm (by omega)).mp ((cmp_lt _ _).mp q)))]
          · rw [fX5_judge, i1, some_bind, if_neg one_ne, hund_eq hn, some_bind, in_l, show (1 : Int64) = lN 1 from rfl, lN_sub (by omega), if_neg (fun q => by have := (pk_lLE hm (by omega)).mp q.2; omega), some_bind, if_pos rfl]
  · refine ⟨-2, S, M, ?_, hno (fun q => hn ⟨Int32.le_trans (by decide) q.1, q.2⟩), sim⟩
    rw [fX4_judge]
    rcases ho with ho | ho
    · rw [if_pos (Int32.lt_trans ho (by decide))]
    · by_cases h1 : u1 < 1
      · rw [if_pos h1]
      · rw [if_neg h1, if_pos (show (3 : Int32) < u1 from ho)]
