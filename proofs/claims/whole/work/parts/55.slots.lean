/-! Slots and draws. -/
theorem cpy_in {f h : tA} {n k : Nat} (hk : k < n) : va_cpy f h 0 0 n k = f k := by
  unfold va_cpy
  rw [if_pos (by omega), show 0 + (k - 0) = k by omega]
theorem copyFrom_eq (L : tL) {K : tL} {g : tG} (hg : GG g) (hK : LL K g) : ∃ y, fX1_copyFrom L K = some y ∧ LL y g := by
  obtain ⟨h1, h2, h3, h4, h5, h6, h7⟩ := hK
  have hT := hg.2.2.1
  refine ⟨_, rfl, h1, h2, h3, fun k hk => ?_, fun k hk => ?_, fun k hk => ?_, fun k hk => ?_⟩
  · exact (cpy_in hk).trans (h4 k hk)
  · exact (cpy_in (show k < 5 by omega)).trans (h5 k hk)
  · exact (cpy_in (show k < 5 by omega)).trans (h6 k hk)
  · exact (cpy_in hk).trans (h7 k hk)
theorem isSlot_yes {b : Nat} (h : b ≤ 1) : fX4_isSlot (nI b) = some 1 := by
  have : b = 0 ∨ b = 1 := by omega
  rcases this with rfl | rfl <;> rfl
theorem isSlot_no {u : Int32} (h : ¬ (0 ≤ u ∧ u ≤ nI 1)) : fX4_isSlot u = some 0 := by
  rw [fX4_isSlot, if_neg (fun q => h (by rw [q]; decide)), if_neg (fun q => h (by rw [q]; decide))]
def setK (M : tM) (K isk : tA) : tM := (M.1, M.2.1, M.2.2.1, M.2.2.2.1, M.2.2.2.2.1, K, isk, M.2.2.2.2.2.2.2)
theorem keep_loop {b : Nat} (hb : b ≤ 1) (M : tM) (isk : tA) (k50 : tM → Option (Int32 × tM)) : ∀ (d i f : Nat) (K : tA), i + d = 51 → d < f → fX5_keep_21 (nI b) k50 f (nI i) (setK M K isk) = k50 (setK M (cpR K M.2.2.1 (51 * b) i) isk) := by
  intro d
  induction d with
  | zero =>
    intro i f D h1 h2
    obtain ⟨f, rfl⟩ : ∃ m, f = m + 1 := ⟨f - 1, by omega⟩
    rw [fX5_keep_21, if_pos (show (51 : Int32) ≤ nI i from nI_le (a := 51) (by omega) (by omega)), show i = 51 by omega, cpR_end]
  | succ d ih =>
    intro i f D h1 h2
    obtain ⟨f, rfl⟩ : ∃ m, f = m + 1 := ⟨f - 1, by omega⟩
    rw [fX5_keep_21, if_neg (show ¬ (51 : Int32) ≤ nI i from nI_ge (b := 51) (by omega) (by decide)), show (51 : Int32) * nI b = nI (51 * b) from pk_mul 51 b, nI_add, gd_inb (by omega) (by decide), gd_inb (by omega) (by decide), nm_eq, nI_add1, toN (by omega), toN (by omega)]
    refine (ih (i + 1) f (upd D (51 * b + i) (M.2.2.1 i)) (by omega) (by omega)).trans ?_
    rw [cpR_step _ _ _ (by omega)]
theorem mkeep_eq {M : tM} {b : Nat} (hb : b ≤ 1) : fX5_keep M (nI b) = some (M.2.2.1 36, setK M (cpR M.2.2.2.2.2.1 M.2.2.1 (51 * b) 0) (upd M.2.2.2.2.2.2.1 b 1)) := by
  rw [fX5_keep, show (1 : Int64) = (nI 1).toInt64 from rfl, in_up hb (by decide), some_bind, if_neg one_ne, gd_inb (by omega) (by decide), toN (by omega), show vp_nar .boolean (1 : Int32) = 1 from rfl]
  exact keep_loop hb M _ _ 51 0 100000 M.2.2.2.2.2.1 (by decide) (by decide)
theorem again_loop {b : Nat} (hb : b ≤ 1) (M : tM) (k55 : tM → Option (Int32 × tM)) : ∀ (d i f : Nat) (w : tA), i + d = 51 → d < f → fX5_again_26 (nI b) k55 f (nI i) (setW M w) = k55 (setW M (cp2 w M.2.2.2.2.2.1 (51 * b) i)) := by
  intro d
  induction d with
  | zero =>
    intro i f w h1 h2
    obtain ⟨f, rfl⟩ : ∃ m, f = m + 1 := ⟨f - 1, by omega⟩
    rw [fX5_again_26, if_pos (show (51 : Int32) ≤ nI i from nI_le (a := 51) (by omega) (by omega)), show i = 51 by omega, cp2_end]
  | succ d ih =>
    intro i f w h1 h2
    obtain ⟨f, rfl⟩ : ∃ m, f = m + 1 := ⟨f - 1, by omega⟩
    rw [fX5_again_26, if_neg (show ¬ (51 : Int32) ≤ nI i from nI_ge (b := 51) (by omega) (by decide)), show (51 : Int32) * nI b = nI (51 * b) from pk_mul 51 b, nI_add, gd_inb (by omega) (by decide), gd_inb (by omega) (by decide), nm_eq, nI_add1, toN (by omega), toN (by omega)]
    refine (ih (i + 1) f (upd w i (M.2.2.2.2.2.1 (51 * b + i))) (by omega) (by omega)).trans ?_
    rw [cp2_step _ _ _ (by omega)]
def zeroM (M : tM) : tM := ((M.1.1, M.1.2.1, M.1.2.2.1, 0, M.1.2.2.2.2), M.2)
theorem magain_eq {M : tM} {b : Nat} (hb : b ≤ 1) (h : ¬ M.2.2.2.2.2.2.1 b = 0) : fX5_again M (nI b) = some (cp2 M.2.2.1 M.2.2.2.2.2.1 (51 * b) 0 36, zeroM (setW M (cp2 M.2.2.1 M.2.2.2.2.2.1 (51 * b) 0))) := by
  rw [fX5_again, show (1 : Int64) = (nI 1).toInt64 from rfl, in_up hb (by decide), some_bind, if_neg one_ne, gd_inb (by omega) (by decide), toN (by omega), if_neg h]
  exact again_loop hb M _ 51 0 100000 M.2.2.1 (by decide) (by decide)
theorem SVr_self {wd hgt : Int32} {g : tG} {L : tL} {w w' : tA} (hg : GG g) (hL : LL L g) (hR : RQ wd hgt w g) (e : ∀ k, k < 51 → w k = w' k) : SVr wd hgt g L w' := ⟨g, hg, rfl, rfl, hL, RQ_congr hg e hR⟩
theorem SVr_congr {wd hgt : Int32} {g : tG} {L : tL} {w w' : tA} (h : SVr wd hgt g L w) (e : ∀ k, k < 51 → w k = w' k) : SVr wd hgt g L w' := by
  obtain ⟨x, a1, a2, a3, a4, a5⟩ := h
  exact ⟨x, a1, a2, a3, a4, RQ_congr a1 e a5⟩
theorem do_keep : stp_keep Sim := by
  rintro S M ⟨g, hg, hL, hR, hT, hO, hV, hH, hr⟩ u
  have sim : Sim S M := ⟨g, hg, hL, hR, hT, hO, hV, hH, hr⟩
  rcases upto u 1 (by decide) with ⟨b, hb, rfl⟩ | ⟨hn, ho⟩
  · obtain ⟨b0, b1, s1, s2, s3, s4, s5⟩ := hV
    have hb2 : b = 0 ∨ b = 1 := by omega
    rcases hb2 with rfl | rfl
    · obtain ⟨y, y1, y2⟩ := copyFrom_eq S.2.2.1 hg hL
      refine ⟨nI (gT g), (S.1, S.2.1, y, S.2.2.2.1, nI (1 + 2 * b1.toNat), S.2.2.2.2.2), setK M (cpR M.2.2.2.2.2.1 M.2.2.1 (51 * 0) 0) (upd M.2.2.2.2.2.2.1 0 1), ?_, ?_, ?_⟩
      · rw [fX4_keep, isSlot_yes hb, some_bind, if_neg one_ne, if_pos (by rfl), y1, some_bind, nm_eq, hL.2.2.1, s1, show nI (b0.toNat + 2 * b1.toNat) ||| (1 : Int32) <<< (nI 0 &&& 31) = nI (1 + 2 * b1.toNat) by cases b0 <;> cases b1 <;> rfl]
      · rw [mkeep_eq hb, hR.2.2.2.1]
      · refine ⟨g, hg, hL, hR, hT, hO, ⟨true, b1, rfl, (pk_us : upd M.2.2.2.2.2.2.1 0 1 0 = 1), ?_, fun _ => SVr_self hg y2 (RR_RQ hR) (fun k hk => ?_), fun q => SVr_congr (s5 q) (fun k hk => ?_)⟩, hH, hr⟩
        · show upd M.2.2.2.2.2.2.1 0 1 1 = _
          rw [pk_un (by decide)]
          exact s3
        · show M.2.2.1 k = cpR M.2.2.2.2.2.1 M.2.2.1 (51 * 0) 0 k
          unfold cpR
          rw [if_pos (by omega), show k - 51 * 0 = k by omega]
        · show M.2.2.2.2.2.1 (51 + k) = cpR M.2.2.2.2.2.1 M.2.2.1 (51 * 0) 0 (51 + k)
          unfold cpR
          rw [if_neg (by omega)]
    · obtain ⟨y, y1, y2⟩ := copyFrom_eq S.2.2.2.1 hg hL
      refine ⟨nI (gT g), (S.1, S.2.1, S.2.2.1, y, nI (b0.toNat + 2), S.2.2.2.2.2), setK M (cpR M.2.2.2.2.2.1 M.2.2.1 (51 * 1) 0) (upd M.2.2.2.2.2.2.1 1 1), ?_, ?_, ?_⟩
      · rw [fX4_keep, isSlot_yes hb, some_bind, if_neg one_ne, if_neg (by decide), y1, some_bind, nm_eq, hL.2.2.1, s1, show nI (b0.toNat + 2 * b1.toNat) ||| (1 : Int32) <<< (nI 1 &&& 31) = nI (b0.toNat + 2) by cases b0 <;> cases b1 <;> rfl]
      · rw [mkeep_eq hb, hR.2.2.2.1]
      · refine ⟨g, hg, hL, hR, hT, hO, ⟨b0, true, rfl, ?_, (pk_us : upd M.2.2.2.2.2.2.1 1 1 1 = 1), fun q => SVr_congr (s4 q) (fun k hk => ?_), fun _ => SVr_self hg y2 (RR_RQ hR) (fun k hk => ?_)⟩, hH, hr⟩
        · show upd M.2.2.2.2.2.2.1 1 1 0 = _
          rw [pk_un (by decide)]
          exact s2
        · show M.2.2.2.2.2.1 k = cpR M.2.2.2.2.2.1 M.2.2.1 (51 * 1) 0 k
          unfold cpR
          rw [if_neg (by omega)]
        · show M.2.2.1 k = cpR M.2.2.2.2.2.1 M.2.2.1 (51 * 1) 0 (51 + k)
          unfold cpR
          rw [if_pos (by omega), show 51 + k - 51 * 1 = k by omega]
  · refine ⟨-1, S, M, ?_, ?_, sim⟩
    · rw [fX4_keep, isSlot_no hn]
      rfl
    · rw [fX5_keep, show (1 : Int64) = (nI 1).toInt64 from rfl, in_upno hn]
      rfl
theorem again_sim {S : tH} {M : tM} {g g' : tG} {y : tL} {b : Nat} {w : tA} (hg' : GG g') (e1 : gw g' = gw g) (e2 : gh g' = gh g) (hy : LL y g') (hw : RQ M.1.2.1 M.1.2.2.1 (fun k => M.2.2.2.2.2.1 (51 * b + k)) g') (hT : TXr S.2.2.2.2.2.1 M.1.1 M.2.1) (hO : OBr S.2.2.2.2.2.2.2.1 M.1.2.2.2.2.2.1 M.2.2.2.2.2.2.2.1 M.2.2.2.2.2.2.2.2.1) (hV : SLr M.1.2.1 M.1.2.2.1 g S.2.2.2.2.1 S.2.2.1 S.2.2.2.1 M.2.2.2.2.2.1 M.2.2.2.2.2.2.1) (hH : HIr S.2.2.2.2.2.2.1 M.1.2.1 M.1.2.2.1 M.1.2.2.2.1 M.1.2.2.2.2.1 M.2.2.2.2.1 g) (hr : S.2.2.2.2.2.2.2.2.2 = M.1.2.2.2.2.2.2.1) : Sim (putJ S y (S.2.2.2.2.2.2.1.1, S.2.2.2.2.2.2.1.2.1, S.2.2.2.2.2.2.1.2.2.1, S.2.2.2.2.2.2.1.2.2.2.1, (0 : Int32))) (zeroM (setW M (cp2 M.2.2.1 M.2.2.2.2.2.1 (51 * b) 0))) := by
  obtain ⟨c, nx, hc, hnx, q1, q2, q3, H⟩ := hH
  refine ⟨g', hg', hy, RQ_RR (RQ_congr hg' (fun k hk => ?_) hw), hT, hO, SLr_congr e1.symm e2.symm hV, ⟨0, nx, by decide, hnx, rfl, rfl, q3, trivial⟩, hr⟩
  show M.2.2.2.2.2.1 (51 * b + k) = cp2 M.2.2.1 M.2.2.2.2.2.1 (51 * b) 0 k
  unfold cp2
  rw [if_pos (by omega)]
theorem do_again : stp_again Sim := by
  rintro S M ⟨g, hg, hL, hR, hT, hO, hV, hH, hr⟩ u
  have sim : Sim S M := ⟨g, hg, hL, hR, hT, hO, hV, hH, hr⟩
  rcases upto u 1 (by decide) with ⟨b, hb, rfl⟩ | ⟨hn, ho⟩
  · have hV2 := hV
    obtain ⟨b0, b1, s1, s2, s3, s4, s5⟩ := hV2
    have hb2 : b = 0 ∨ b = 1 := by omega
    rcases hb2 with rfl | rfl
    · cases hb0 : b0
      · refine ⟨-3, S, M, ?_, ?_, sim⟩
        · rw [fX4_again, isSlot_yes hb, some_bind, if_neg one_ne, if_pos (by rw [s1, hb0]; cases b1 <;> rfl)]
        · rw [fX5_again, show (1 : Int64) = (nI 1).toInt64 from rfl, in_up hb (by decide), some_bind, if_neg one_ne, gd_inb (by omega) (by decide), toN (by omega), s2, hb0, if_pos (by rfl)]
      · obtain ⟨g', a1, a2, a3, a4, a5⟩ := s4 hb0
        obtain ⟨y, y1, y2⟩ := copyFrom_eq S.1 a1 a4
        refine ⟨nI (gT g'), _, _, ?_, ?_, again_sim (b := 0) (w := M.2.2.1) a1 a2 a3 y2 (RQ_congr a1 (fun k hk => by show _ = M.2.2.2.2.2.1 (51 * 0 + k); rw [show 51 * 0 + k = k by omega]) a5) hT hO hV hH hr⟩
        · rw [fX4_again, isSlot_yes hb, some_bind, if_neg one_ne, if_neg (by rw [s1, hb0]; cases b1 <;> decide), if_pos (by rfl), y1, some_bind, y2.2.2.1]
          rfl
        · have e36 : cp2 M.2.2.1 M.2.2.2.2.2.1 (51 * 0) 0 36 = nI (gT g') := a5.2.2.2.1
          rw [magain_eq hb (by rw [s2, hb0]; decide), e36]
    · cases hb1 : b1
      · refine ⟨-3, S, M, ?_, ?_, sim⟩
        · rw [fX4_again, isSlot_yes hb, some_bind, if_neg one_ne, if_pos (by rw [s1, hb1]; cases b0 <;> rfl)]
        · rw [fX5_again, show (1 : Int64) = (nI 1).toInt64 from rfl, in_up hb (by decide), some_bind, if_neg one_ne, gd_inb (by omega) (by decide), toN (by omega), s3, hb1, if_pos (by rfl)]
      · obtain ⟨g', a1, a2, a3, a4, a5⟩ := s5 hb1
        obtain ⟨y, y1, y2⟩ := copyFrom_eq S.1 a1 a4
        refine ⟨nI (gT g'), _, _, ?_, ?_, again_sim (b := 1) (w := M.2.2.1) a1 a2 a3 y2 a5 hT hO hV hH hr⟩
        · rw [fX4_again, isSlot_yes hb, some_bind, if_neg one_ne, if_neg (by rw [s1, hb1]; cases b0 <;> decide), if_neg (by decide), y1, some_bind, y2.2.2.1]
          rfl
        · have e36 : cp2 M.2.2.1 M.2.2.2.2.2.1 (51 * 1) 0 36 = nI (gT g') := a5.2.2.2.1
          rw [magain_eq hb (by rw [s3, hb1]; decide), e36]
  · refine ⟨-1, S, M, ?_, ?_, sim⟩
    · rw [fX4_again, isSlot_no hn]
      rfl
    · rw [fX5_again, show (1 : Int64) = (nI 1).toInt64 from rfl, in_upno hn]
      rfl
/-! draws -/
theorem draw_nat (x : Int64) : ∃ n, n < 2 ^ 31 ∧ (((x.toUInt64 >>> ((33 : Int32).toInt64.toUInt64 &&& Int64.toUInt64 63)).toInt64).toInt32) = nI n := by
  have h := x.toUInt64.toNat_lt
  refine ⟨x.toUInt64.toNat / 2 ^ 33, by omega, ?_⟩
  have e : x.toUInt64 >>> ((33 : Int32).toInt64.toUInt64 &&& Int64.toUInt64 63) = UInt64.ofNat (x.toUInt64.toNat / 2 ^ 33) := UInt64.toNat_inj.mp (by
    rw [UInt64.toNat_shiftRight, show ((33 : Int32).toInt64.toUInt64 &&& Int64.toUInt64 63).toNat % 64 = 33 from rfl, Nat.shiftRight_eq_div_pow, UInt64.toNat_ofNat', Nat.mod_eq_of_lt (by omega)])
  rw [e, ← lN_i]
  rfl
theorem copy_loop (w : tA) (k20 : tA → Option tA) : ∀ (d i f : Nat) (v : tA), i + d = 51 → d < f → fX5_copy_2 w k20 f (nI i) v = k20 (cp2 v w 0 i) := by
  intro d
  induction d with
  | zero =>
    intro i f v h1 h2
    obtain ⟨f, rfl⟩ : ∃ m, f = m + 1 := ⟨f - 1, by omega⟩
    rw [fX5_copy_2, if_pos (show (51 : Int32) ≤ nI i from nI_le (a := 51) (by omega) (by omega)), show i = 51 by omega, cp2_end]
  | succ d ih =>
    intro i f v h1 h2
    obtain ⟨f, rfl⟩ : ∃ m, f = m + 1 := ⟨f - 1, by omega⟩
    rw [fX5_copy_2, if_neg (show ¬ (51 : Int32) ≤ nI i from nI_ge (b := 51) (by omega) (by decide)), gd_inb (by omega) (by decide), gd_inb (by omega) (by decide), nm_eq, nI_add1, toN (by omega), ih (i + 1) f _ (by omega) (by omega)]
    have := cp2_step v w 0 (i := i) (by omega)
    rw [Nat.zero_add] at this
    rw [this]
theorem copy_eq (w v : tA) : fX5_copy w v = some (cp2 v w 0 0) := by
  rw [fX5_copy]
  exact copy_loop w _ 51 0 100000 v (by decide) (by decide)
theorem RQ_copy {wd hgt : Int32} {w v : tA} {g : tG} (hg : GG g) (h : RQ wd hgt w g) : RQ wd hgt (cp2 v w 0 0) g := RQ_congr hg (fun k hk => by unfold cp2; rw [if_pos (by omega), Nat.zero_add]) h
def setTr (S : tH) (L : tL) (x : Int64) : tH := (S.1, L, S.2.2.1, S.2.2.2.1, S.2.2.2.2.1, S.2.2.2.2.2.1, S.2.2.2.2.2.2.1, S.2.2.2.2.2.2.2.1, S.2.2.2.2.2.2.2.2.1, x)
def setAl (M : tM) (w : tA) (x : Int64) : tM := ((M.1.1, M.1.2.1, M.1.2.2.1, M.1.2.2.2.1, M.1.2.2.2.2.1, M.1.2.2.2.2.2.1, x, M.1.2.2.2.2.2.2.2), M.2.1, M.2.2.1, w, M.2.2.2.2)
theorem hidC {L : tL} {g : tG} (hg : GG g) (hL : LL L g) : ∃ x, fX1_hiddenSet L = some x ∧ fJ13_bitCount_95d88 x = some (nI (hidN g)) := by
  refine ⟨_, hiddenSet_eq hg hL, ?_⟩
  have := hiddenC_eq hg hL
  rw [hiddenSet_eq hg hL, some_bind] at this
  exact this
theorem drawn_loop (S : tH) (M : tM) {m N : Nat} (hm : m ≤ 20) : ∀ (d i f f' : Nat) (s : Int32) (L : tL) (w : tA) (x : Int64) (g : tG), i + d = m → d < f → d < f' → GG g → gN g = N → LL L g → RQ M.1.2.1 M.1.2.2.1 w g → ∃ r L' w' x', fX4_drawn_42 (nI m) (nI N) (fun y17 S18 => some (y17, S18)) f s (nI i) (setTr S L x) = some (r, setTr S L' x') ∧ fX5_drawn_30 (nI m) (fun y15 M16 => some (y15, M16)) f' s (nI i) (setAl M w x) = some (r, setAl M w' x') := by
  intro d
  induction d with
  | zero =>
    intro i f f' s L w x g h1 h2 h3 hg hN hL hR
    obtain ⟨f, rfl⟩ : ∃ m, f = m + 1 := ⟨f - 1, by omega⟩
    obtain ⟨f', rfl⟩ : ∃ m, f' = m + 1 := ⟨f' - 1, by omega⟩
    refine ⟨s, L, w, x, ?_, ?_⟩
    · rw [fX4_drawn_42, if_pos (nI_le (by omega) (by omega))]
    · rw [fX5_drawn_30, if_pos (nI_le (by omega) (by omega))]
  | succ d ih =>
    intro i f f' s L w x g h1 h2 h3 hg hN hL hR
    obtain ⟨f, rfl⟩ : ∃ m, f = m + 1 := ⟨f - 1, by omega⟩
    obtain ⟨f', rfl⟩ : ∃ m, f' = m + 1 := ⟨f' - 1, by omega⟩
    have h36 := gN_le hg
    have h4 := gN_ge hg
    obtain ⟨X, hX⟩ : ∃ X, X = x * (6364136223846793005 : Int64) + (1442695040888963407 : Int64) := ⟨_, rfl⟩
    obtain ⟨n, hn, en⟩ := draw_nat X
    have hc : n % N < gN g := by rw [hN]; exact Nat.mod_lt _ (by omega)
    have hv : n / 64 % 10 ≤ 9 := by omega
    obtain ⟨L', l1, l2⟩ := putHeight_eq hg hL (v := n / 64 % 10) hc
    have hg2 : GG (setT g (n % N) (n / 64 % 10)) := GG_setT hg hv
    have hR2 := RQ_setT hR (a := n % N) (v := n / 64 % 10) (by omega)
    obtain ⟨hs, b1, b2⟩ := hidC hg2 l2
    obtain ⟨r, L2, w2, x2, e1, e2⟩ := ih (i + 1) f f' (s + nI (hidN (setT g (n % N) (n / 64 % 10)))) L' _ X _ (by omega) (by omega) (by omega) hg2 hN l2 hR2
    refine ⟨r, L2, w2, x2, ?_, ?_⟩
    · rw [fX4_drawn_42, if_neg (nI_ge (by omega) (by omega)), nm_eq, show (setTr S L x).2.2.2.2.2.2.2.2.2 = x from rfl, ← hX, nm_eq, en, gd_nz (by omega) (by omega), show (64 : Int32) = nI 64 from rfl, show (10 : Int32) = nI 10 from rfl, pk_rem hn (by omega) (by omega), pk_div hn (by omega) (by omega), pk_rem (by omega) (by omega) (by omega), show (setTr S L x).2.1 = L from rfl, l1, some_bind, b1, some_bind, b2, some_bind, nm_eq, nm_eq, nI_add1]
      exact e1
    · have hc2 : ∀ o : tMo, o.2.1 = M.1.2.1 → o.2.2.1 = M.1.2.2.1 → fX5_cells o = some (nI N) := fun o p1 p2 => by
        rw [cells_eq (w := w) (g := g) (RQ_RR (by rw [p1, p2]; exact hR)), hN]
      have hh2 : ∀ o : tMo, o.2.1 = M.1.2.1 → o.2.2.1 = M.1.2.2.1 → fX5_hidden o (upd w (n % N) (nI (n / 64 % 10))) = some (nI (hidN (setT g (n % N) (n / 64 % 10)))) := fun o p1 p2 => hidden_eq hg2 (RQ_RR (by rw [p1, p2]; exact hR2))
      rw [fX5_drawn_30, if_neg (nI_ge (by omega) (by omega)), nm_eq, show (setAl M w x).1.2.2.2.2.2.2.1 = x from rfl, ← hX, nm_eq, en, hc2, some_bind, gd_nz (by omega) (by omega), show (64 : Int32) = nI 64 from rfl, show (10 : Int32) = nI 10 from rfl, pk_rem hn (by omega) (by omega), pk_div hn (by omega) (by omega), pk_rem (by omega) (by omega) (by omega), gd_inb (by omega) (by decide), toN (by omega), show (setAl M w x).2.2.2.1 = w from rfl, hh2, some_bind, nm_eq, nm_eq, nI_add1]
      · exact e2
      · rfl
      · rfl
      · rfl
      · rfl
theorem do_drawn : stp_drawn Sim := by
  rintro S M ⟨g, hg, hL, hR, hT, hO, hV, hH, hr⟩ u
  have h36 := gN_le hg
  have h4 := gN_ge hg
  have sim : Sim S M := ⟨g, hg, hL, hR, hT, hO, hV, hH, hr⟩
  have hno : ∀ (q : ¬ (1 ≤ u ∧ u ≤ nI 20)), fX5_drawn M u = some (-2, M) := fun q => by
    rw [fX5_drawn, show (1 : Int64) = (1 : Int32).toInt64 from rfl, show (20 : Int64) = (nI 20).toInt64 from rfl, in_eq, if_neg q, some_bind, if_pos rfl]
  rcases upto u 20 (by decide) with ⟨m, hm, rfl⟩ | ⟨hn, ho⟩
  · by_cases h0 : m = 0
    · subst h0
      exact ⟨-2, S, M, rfl, hno (by decide), sim⟩
    · obtain ⟨y, y1, y2⟩ := copyFrom_eq S.2.1 hg hL
      obtain ⟨r, L', w', x', e1, e2⟩ := drawn_loop S M (N := gN g) hm m 0 100000 100000 0 y (cp2 M.2.2.2.1 M.2.2.1 0 0) M.1.2.2.2.2.2.2.1 g (by omega) (by omega) (by omega) hg rfl y2 (RQ_copy hg (RR_RQ hR))
      refine ⟨r, setTr S L' x', setAl M w' x', ?_, ?_, ⟨g, hg, hL, hR, hT, hO, hV, hH, rfl⟩⟩
      · rw [fX4_drawn, if_neg (show ¬ nI m < (1 : Int32) from nI_nlt (b := 1) (by omega) (by omega)), if_pos (show nI m ≤ (20 : Int32) from nI_le (b := 20) hm (by decide)), y1, some_bind, fX1_cellCount, LL_N y2, some_bind, if_pos (show (1 : Int32) < nI (gN g) from nI_lt (a := 1) (by omega) (by omega)), nm_eq, hr]
        exact e1
      · rw [fX5_drawn, show (1 : Int64) = (1 : Int32).toInt64 from rfl, show (20 : Int64) = (nI 20).toInt64 from rfl, in_eq, if_pos ⟨show (1 : Int32) ≤ nI m from nI_le (a := 1) (by omega) (by omega), nI_le hm (by omega)⟩, some_bind, if_neg one_ne, copy_eq, some_bind]
        exact e2
  · refine ⟨-2, S, M, ?_, hno (fun q => hn ⟨Int32.le_trans (by decide) q.1, q.2⟩), sim⟩
    rw [fX4_drawn]
    rcases ho with ho | ho
    · rw [if_pos (Int32.lt_trans ho (by decide))]
    · by_cases h1 : u < 1
      · rw [if_pos h1]
      · rw [if_neg h1, if_neg (show ¬ u ≤ (20 : Int32) from fun q => absurd ho (Int32.not_lt.mpr q))]
