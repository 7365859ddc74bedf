abbrev rmX4_isDigit : Room := { frames := 0, cells := 0, slots := 0, locals := 0 }
theorem miX4_isDigit : miS yX4_isDigit cX4_isDigit 1 (some .boolean) 1 := ⟨q480, q40, q479, by decide +kernel⟩
set_option maxHeartbeats 4000000 in
set_option maxRecDepth 100000 in
theorem mtX4_isDigit (l : Launch) (D : va_G) (cy : Nat → ClassId) (z : zT)  (u1 : Int32) (r0 : Int32) (hf : fX4_isDigit u1 = some r0) : pmet l yX4_isDigit cX4_isDigit 1 (some .boolean) rmX4_isDigit D cy z ([]) [.int u1] (some (.int r0)) := by
  refine pmet_of (by decide +kernel) (Nat.le_of_ble_eq_true rfl) (fun p e s m below meth c hx hb hr hml hown hts hlk hP hKK ls hl => ?_)
  have hS : va_S noF s.heap s.heap [] := va_S.rf
  have hA0 : ∀ q, noF q → zA z q := fun _ h => h.elim
  have hown : s.vm.findClass "HillSight" = some m.cls := hown
  have hl : lv_has ls 1 [(0, .int u1)] := hl
  unfold fX4_isDigit at hf
  refine lv_iload_n hx hb dX4_isDigit_0 rfl (lv_at hl 0 rfl) ?_
  refine lv_if_lt (tgt := 14) hx hb dX4_isDigit_1 (by decide) (fun h => ?_) (fun h => ?_)
  · have hf := (if_pos h).symm.trans hf
    refine lv_iconst (v := 0) hx hb dX4_isDigit_14 (by decide) ?_
    exact pretZ hx hb hr hlk (by decide) hf dX4_isDigit_15
  · have hf := (if_neg h).symm.trans hf
    refine lv_iload_n hx hb dX4_isDigit_4 rfl (lv_at hl 0 rfl) ?_
    refine lv_bipush (v := 9) hx hb dX4_isDigit_5 (by decide) ?_
    refine lv_icmp_gt (tgt := 14) hx hb dX4_isDigit_7 (by decide) (fun h => ?_) (fun h => ?_)
    · have hf := (if_pos h).symm.trans hf
      refine lv_iconst (v := 0) hx hb dX4_isDigit_14 (by decide) ?_
      exact pretZ hx hb hr hlk (by decide) hf dX4_isDigit_15
    · have hf := (if_neg h).symm.trans hf
      refine lv_iconst (v := 1) hx hb dX4_isDigit_10 (by decide) ?_
      refine lv_goto (tgt := 15) hx hb dX4_isDigit_11 (by decide) ?_
      exact pretZ hx hb hr hlk (by decide) hf dX4_isDigit_15

abbrev rmX4_isSlot : Room := { frames := 0, cells := 0, slots := 0, locals := 0 }
theorem miX4_isSlot : miS yX4_isSlot cX4_isSlot 1 (some .boolean) 1 := ⟨q655, q40, q654, by decide +kernel⟩
set_option maxHeartbeats 4000000 in
set_option maxRecDepth 100000 in
theorem mtX4_isSlot (l : Launch) (D : va_G) (cy : Nat → ClassId) (z : zT)  (u1 : Int32) (r0 : Int32) (hf : fX4_isSlot u1 = some r0) : pmet l yX4_isSlot cX4_isSlot 1 (some .boolean) rmX4_isSlot D cy z ([]) [.int u1] (some (.int r0)) := by
  refine pmet_of (by decide +kernel) (Nat.le_of_ble_eq_true rfl) (fun p e s m below meth c hx hb hr hml hown hts hlk hP hKK ls hl => ?_)
  have hS : va_S noF s.heap s.heap [] := va_S.rf
  have hA0 : ∀ q, noF q → zA z q := fun _ h => h.elim
  have hown : s.vm.findClass "HillSight" = some m.cls := hown
  have hl : lv_has ls 1 [(0, .int u1)] := hl
  unfold fX4_isSlot at hf
  refine lv_iload_n hx hb dX4_isSlot_0 rfl (lv_at hl 0 rfl) ?_
  refine lv_if_eq (tgt := 9) hx hb dX4_isSlot_1 (by decide) (fun h => ?_) (fun h => ?_)
  · have hf := (if_pos h).symm.trans hf
    refine lv_iconst (v := 1) hx hb dX4_isSlot_9 (by decide) ?_
    refine lv_goto (tgt := 14) hx hb dX4_isSlot_10 (by decide) ?_
    exact pretZ hx hb hr hlk (by decide) hf dX4_isSlot_14
  · have hf := (if_neg h).symm.trans hf
    refine lv_iload_n hx hb dX4_isSlot_4 rfl (lv_at hl 0 rfl) ?_
    refine lv_iconst (v := 1) hx hb dX4_isSlot_5 (by decide) ?_
    refine lv_icmp_ne (tgt := 13) hx hb dX4_isSlot_6 (by decide) (fun h => ?_) (fun h => ?_)
    · have hf := (if_neg h).symm.trans hf
      refine lv_iconst (v := 0) hx hb dX4_isSlot_13 (by decide) ?_
      exact pretZ hx hb hr hlk (by decide) hf dX4_isSlot_14
    · have hf := (if_pos h).symm.trans hf
      refine lv_iconst (v := 1) hx hb dX4_isSlot_9 (by decide) ?_
      refine lv_goto (tgt := 14) hx hb dX4_isSlot_10 (by decide) ?_
      exact pretZ hx hb hr hlk (by decide) hf dX4_isSlot_14

abbrev rmX4_lowestValue : Room := { frames := 0, cells := 0, slots := 0, locals := 0 }
theorem miX4_lowestValue : miS yX4_lowestValue cX4_lowestValue 1 (some .int) 1 := ⟨q353, q40, q352, by decide +kernel⟩
set_option maxHeartbeats 4000000 in
set_option maxRecDepth 100000 in
theorem mtX4_lowestValue (l : Launch) (D : va_G) (cy : Nat → ClassId) (z : zT)  (u1 : Int32) (r0 : Int32) (hf : fX4_lowestValue u1 = some r0) : pmet l yX4_lowestValue cX4_lowestValue 1 (some .int) rmX4_lowestValue D cy z ([]) [.int u1] (some (.int r0)) := by
  refine pmet_of (by decide +kernel) (Nat.le_of_ble_eq_true rfl) (fun p e s m below meth c hx hb hr hml hown hts hlk hP hKK ls hl => ?_)
  have hS : va_S noF s.heap s.heap [] := va_S.rf
  have hA0 : ∀ q, noF q → zA z q := fun _ h => h.elim
  have hown : s.vm.findClass "HillSight" = some m.cls := hown
  have hl : lv_has ls 1 [(0, .int u1)] := hl
  unfold fX4_lowestValue at hf
  refine lv_iload_n hx hb dX4_lowestValue_0 rfl (lv_at hl 0 rfl) ?_
  refine lv_iconst (v := 3) hx hb dX4_lowestValue_1 (by decide) ?_
  refine lv_icmp_ne (tgt := 9) hx hb dX4_lowestValue_2 (by decide) (fun h => ?_) (fun h => ?_)
  · have hf := (if_neg h).symm.trans hf
    refine lv_iconst (v := 0) hx hb dX4_lowestValue_9 (by decide) ?_
    exact pretI hx hb hr hlk hf dX4_lowestValue_10
  · have hf := (if_pos h).symm.trans hf
    refine lv_iconst (v := 1) hx hb dX4_lowestValue_5 (by decide) ?_
    refine lv_goto (tgt := 10) hx hb dX4_lowestValue_6 (by decide) ?_
    exact pretI hx hb hr hlk hf dX4_lowestValue_10

abbrev rmX4_isSetting : Room := { frames := 1, cells := 0, slots := 0, locals := 20 }
theorem miX4_isSetting : miS yX4_isSetting cX4_isSetting 2 (some .boolean) 2 := ⟨q360, q40, q359, by decide +kernel⟩
set_option maxHeartbeats 4000000 in
set_option maxRecDepth 100000 in
theorem mtX4_isSetting (l : Launch) (D : va_G) (cy : Nat → ClassId) (z : zT)  (u1 : Int32) (u2 : Int32) (r0 : Int32) (hf : fX4_isSetting u1 u2 = some r0) : pmet l yX4_isSetting cX4_isSetting 2 (some .boolean) rmX4_isSetting D cy z ([]) [.int u1, .int u2] (some (.int r0)) := by
  refine pmet_of (by decide +kernel) (Nat.le_of_ble_eq_true rfl) (fun p e s m below meth c hx hb hr hml hown hts hlk hP hKK ls hl => ?_)
  have hS : va_S noF s.heap s.heap [] := va_S.rf
  have hA0 : ∀ q, noF q → zA z q := fun _ h => h.elim
  have hown : s.vm.findClass "HillSight" = some m.cls := hown
  have hl : lv_has ls 2 [(0, .int u1), (1, .int u2)] := hl
  unfold fX4_isSetting at hf
  refine lv_iload_n hx hb dX4_isSetting_0 rfl (lv_at hl 0 rfl) ?_
  refine lv_if_lt (tgt := 27) hx hb dX4_isSetting_1 (by decide) (fun h => ?_) (fun h => ?_)
  · have hf := (if_pos h).symm.trans hf
    refine lv_iconst (v := 0) hx hb dX4_isSetting_27 (by decide) ?_
    exact pretZ hx hb hr hlk (by decide) hf dX4_isSetting_28
  · have hf := (if_neg h).symm.trans hf
    refine lv_iload_n hx hb dX4_isSetting_4 rfl (lv_at hl 0 rfl) ?_
    refine lv_iconst (v := 4) hx hb dX4_isSetting_5 (by decide) ?_
    refine lv_icmp_ge (tgt := 27) hx hb dX4_isSetting_6 (by decide) (fun h => ?_) (fun h => ?_)
    · have hf := (if_pos h).symm.trans hf
      refine lv_iconst (v := 0) hx hb dX4_isSetting_27 (by decide) ?_
      exact pretZ hx hb hr hlk (by decide) hf dX4_isSetting_28
    · have hf := (if_neg h).symm.trans hf
      refine lv_iload_n hx hb dX4_isSetting_9 rfl (lv_at hl 1 rfl) ?_
      refine lv_iload_n hx hb dX4_isSetting_10 rfl (lv_at hl 0 rfl) ?_
      obtain ⟨r2, hc1, hf⟩ := bd_some hf
      refine pCallSI ⟨hx, hb, hml, hown, hts⟩ (mtX4_lowestValue l D cy z u1 r2 hc1) miX4_lowestValue q361 ⟨Nat.le_of_ble_eq_true rfl, Nat.le_of_ble_eq_true rfl⟩ ⟨rfl, rfl⟩ hP hKK hS hA0 rfl hl.1 rfl (Nat.le_of_ble_eq_true rfl) dX4_isSetting_11 ⟨Nat.zero_le _, Nat.zero_le _⟩ ?_
      refine lv_icmp_lt (tgt := 27) hx hb dX4_isSetting_14 (by decide) (fun h => ?_) (fun h => ?_)
      · have hf := (if_pos h).symm.trans hf
        refine lv_iconst (v := 0) hx hb dX4_isSetting_27 (by decide) ?_
        exact pretZ hx hb hr hlk (by decide) hf dX4_isSetting_28
      · have hf := (if_neg h).symm.trans hf
        refine lv_iload_n hx hb dX4_isSetting_17 rfl (lv_at hl 1 rfl) ?_
        refine lv_bipush (v := 9) hx hb dX4_isSetting_18 (by decide) ?_
        refine lv_icmp_gt (tgt := 27) hx hb dX4_isSetting_20 (by decide) (fun h => ?_) (fun h => ?_)
        · have hf := (if_pos h).symm.trans hf
          refine lv_iconst (v := 0) hx hb dX4_isSetting_27 (by decide) ?_
          exact pretZ hx hb hr hlk (by decide) hf dX4_isSetting_28
        · have hf := (if_neg h).symm.trans hf
          refine lv_iconst (v := 1) hx hb dX4_isSetting_23 (by decide) ?_
          refine lv_goto (tgt := 28) hx hb dX4_isSetting_24 (by decide) ?_
          exact pretZ hx hb hr hlk (by decide) hf dX4_isSetting_28

abbrev rmX4_contains : Room := { frames := 0, cells := 0, slots := 0, locals := 0 }
theorem miX4_contains : miS yX4_contains cX4_contains 3 (some .boolean) 2 := ⟨q455, q40, q454, by decide +kernel⟩
set_option maxHeartbeats 4000000 in
set_option maxRecDepth 100000 in
theorem mtX4_contains (l : Launch) (D : va_G) (cy : Nat → ClassId) (z : zT)  (u1 : Int64) (u2 : Int32) (r0 : Int32) (hf : fX4_contains u1 u2 = some r0) : pmet l yX4_contains cX4_contains 3 (some .boolean) rmX4_contains D cy z ([]) [.long u1, .int u2] (some (.int r0)) := by
  refine pmet_of (by decide +kernel) (Nat.le_of_ble_eq_true rfl) (fun p e s m below meth c hx hb hr hml hown hts hlk hP hKK ls hl => ?_)
  have hS : va_S noF s.heap s.heap [] := va_S.rf
  have hA0 : ∀ q, noF q → zA z q := fun _ h => h.elim
  have hown : s.vm.findClass "HillSight" = some m.cls := hown
  have hl : lv_has ls 3 [(0, .long u1), (2, .int u2)] := hl
  unfold fX4_contains at hf
  refine lv_lload_n hx hb dX4_contains_0 rfl (lv_at hl 0 rfl) ?_
  refine lv_iload_n hx hb dX4_contains_1 rfl (lv_at hl 1 rfl) ?_
  refine lv_lushr hx hb dX4_contains_2 rfl ?_
  refine lv_lconst (v := 1) hx hb dX4_contains_3 (by decide) ?_
  refine lv_land hx hb dX4_contains_4 ?_
  refine lv_lconst (v := 0) hx hb dX4_contains_5 (by decide) ?_
  refine W.lcmp hx hb dX4_contains_6 ?_
  refine lv_if_eq (tgt := 14) hx hb dX4_contains_7 (by decide) (fun h => ?_) (fun h => ?_)
  · have hf := (if_pos h).symm.trans hf
    refine lv_iconst (v := 0) hx hb dX4_contains_14 (by decide) ?_
    exact pretZ hx hb hr hlk (by decide) hf dX4_contains_15
  · have hf := (if_neg h).symm.trans hf
    refine lv_iconst (v := 1) hx hb dX4_contains_10 (by decide) ?_
    refine lv_goto (tgt := 15) hx hb dX4_contains_11 (by decide) ?_
    exact pretZ hx hb hr hlk (by decide) hf dX4_contains_15

abbrev rmX4_combine : Room := { frames := 0, cells := 0, slots := 0, locals := 0 }
theorem miX4_combine : miS yX4_combine cX4_combine 5 (some .long) 3 := ⟨q555, q40, q554, by decide +kernel⟩
set_option maxHeartbeats 4000000 in
set_option maxRecDepth 100000 in
theorem mtX4_combine (l : Launch) (D : va_G) (cy : Nat → ClassId) (z : zT)  (u1 : Int32) (u2 : Int64) (u3 : Int64) (r0 : Int64) (hf : fX4_combine u1 u2 u3 = some r0) : pmet l yX4_combine cX4_combine 5 (some .long) rmX4_combine D cy z ([]) [.int u1, .long u2, .long u3] (some (.long r0)) := by
  refine pmet_of (by decide +kernel) (Nat.le_of_ble_eq_true rfl) (fun p e s m below meth c hx hb hr hml hown hts hlk hP hKK ls hl => ?_)
  have hS : va_S noF s.heap s.heap [] := va_S.rf
  have hA0 : ∀ q, noF q → zA z q := fun _ h => h.elim
  have hown : s.vm.findClass "HillSight" = some m.cls := hown
  have hl : lv_has ls 5 [(0, .int u1), (1, .long u2), (3, .long u3)] := hl
  unfold fX4_combine at hf
  refine lv_iload_n hx hb dX4_combine_0 rfl (lv_at hl 0 rfl) ?_
  by_cases h0 : u1 = 0
  · have hf := (if_pos h0).symm.trans hf
    refine sw_hit (tgt := 28) hx hb dX4_combine_1 h0 (by decide) (by decide) rfl (by decide) ?_
    refine lv_lload_n hx hb dX4_combine_28 rfl (lv_at hl 1 rfl) ?_
    refine lv_lload_n hx hb dX4_combine_29 rfl (lv_at hl 2 rfl) ?_
    refine lv_lor hx hb dX4_combine_30 ?_
    exact pretL hx hb hr hlk hf dX4_combine_31
  have hf := (if_neg h0).symm.trans hf
  by_cases h1 : u1 = 1
  · have hf := (if_pos h1).symm.trans hf
    refine sw_hit (tgt := 32) hx hb dX4_combine_1 h1 (by decide) (by decide) rfl (by decide) ?_
    refine lv_lload_n hx hb dX4_combine_32 rfl (lv_at hl 1 rfl) ?_
    refine lv_lload_n hx hb dX4_combine_33 rfl (lv_at hl 2 rfl) ?_
    refine lv_land hx hb dX4_combine_34 ?_
    exact pretL hx hb hr hlk hf dX4_combine_35
  have hf := (if_neg h1).symm.trans hf
  by_cases h2 : u1 = 2
  · have hf := (if_pos h2).symm.trans hf
    refine sw_hit (tgt := 36) hx hb dX4_combine_1 h2 (by decide) (by decide) rfl (by decide) ?_
    refine lv_lload_n hx hb dX4_combine_36 rfl (lv_at hl 1 rfl) ?_
    refine lv_lload_n hx hb dX4_combine_37 rfl (lv_at hl 2 rfl) ?_
    refine lv_lxor hx hb dX4_combine_38 ?_
    exact pretL hx hb hr hlk hf dX4_combine_39
  have hf := (if_neg h2).symm.trans hf
  refine lv_tableOut (tgt := 40) hx hb dX4_combine_1 (show (u1).toInt < 0 ∨ 2 < (u1).toInt by have e0 := lv_neT h0 (a := 0) (by decide); have e1 := lv_neT h1 (a := 1) (by decide); have e2 := lv_neT h2 (a := 2) (by decide); omega) (by decide) ?_
  refine lv_lload_n hx hb dX4_combine_40 rfl (lv_at hl 1 rfl) ?_
  refine lv_lload_n hx hb dX4_combine_41 rfl (lv_at hl 2 rfl) ?_
  refine lv_ldc2 hx hb hown (hts _ q543) dX4_combine_42 ?_
  refine lv_lxor hx hb dX4_combine_45 ?_
  refine lv_land hx hb dX4_combine_46 ?_
  exact pretL hx hb hr hlk hf dX4_combine_47

abbrev rmX4_lowestTerms : Room := { frames := 0, cells := 0, slots := 0, locals := 0 }
theorem miX4_lowestTerms : miS yX4_lowestTerms cX4_lowestTerms 7 (some .int) 3 := ⟨q597, q40, q596, by decide +kernel⟩
set_option maxHeartbeats 4000000 in
set_option maxRecDepth 100000 in
theorem mtX4_lowestTerms (l : Launch) (D : va_G) (cy : Nat → ClassId) (z : zT)  (u1 : Int32) (u2 : Int32) (u3 : Int32) (r0 : Int32) (hf : fX4_lowestTerms u1 u2 u3 = some r0) : pmet l yX4_lowestTerms cX4_lowestTerms 7 (some .int) rmX4_lowestTerms D cy z ([]) [.int u1, .int u2, .int u3] (some (.int r0)) := by
  refine pmet_of (by decide +kernel) (Nat.le_of_ble_eq_true rfl) (fun p e s m below meth c hx hb hr hml hown hts hlk hP hKK ls hl => ?_)
  have hS : va_S noF s.heap s.heap [] := va_S.rf
  have hA0 : ∀ q, noF q → zA z q := fun _ h => h.elim
  have hown : s.vm.findClass "HillSight" = some m.cls := hown
  have hl : lv_has ls 7 [(0, .int u1), (1, .int u2), (2, .int u3)] := hl
  have w_8 : ∀ (g0_8 : Int32) (g1_8 : Int32) (g2_8 : Int32) (k39 : Int32 → Option (Int32)) (hk39 : ∀ (v3_8 : Int32) (ls : Array Slot), k39 v3_8 = some r0 → lv_has ls 7 [(0, .int g0_8), (1, .int g1_8), (2, .int g2_8), (3, .int v3_8)] → W p l e rmX4_lowestTerms s m ([.int u1, .int u2, .int u3] : List Value).toArray below meth c s.heap [] 0 0 (MQ below (pQ (some (.int r0))) ([.int u1, .int u2, .int u3] : List Value).toArray s 0 0 noF) (F0 m 39 ls [])) (n : Nat) (v3_8 : Int32) (v4_8 : Int32) (v5_8 : Int32) (ls : Array Slot), fX4_lowestTerms_8 g0_8 g1_8 g2_8 k39 n v3_8 v4_8 v5_8 = some r0 → lv_has ls 7 [(0, .int g0_8), (1, .int g1_8), (2, .int g2_8), (3, .int v3_8), (4, .int v4_8), (5, .int v5_8)] → W p l e rmX4_lowestTerms s m ([.int u1, .int u2, .int u3] : List Value).toArray below meth c s.heap [] 0 0 (MQ below (pQ (some (.int r0))) ([.int u1, .int u2, .int u3] : List Value).toArray s 0 0 noF) (F0 m 8 ls []) := by
    intro g0_8 g1_8 g2_8 k39 hk39 n
    induction n with
    | zero =>
      intro v3_8 v4_8 v5_8 ls hf hl
      cases (show (none : Option (Int32)) = some r0 from hf)
    | succ n ih =>
      intro v3_8 v4_8 v5_8 ls hf hl
      rw [fX4_lowestTerms_8] at hf
      refine lv_iload hx hb dX4_lowestTerms_8 (lv_at hl 5 rfl) ?_
      refine lv_bipush (v := 64) hx hb dX4_lowestTerms_10 (by decide) ?_
      refine lv_icmp_ge (tgt := 39) hx hb dX4_lowestTerms_12 (by decide) (fun h => ?_) (fun h => ?_)
      · have hf := (if_pos h).symm.trans hf
        exact hk39 v3_8 ls hf (lv_sub hl [0, 1, 2, 3] rfl)
      · have hf := (if_neg h).symm.trans hf
        refine lv_iload hx hb dX4_lowestTerms_15 (lv_at hl 4 rfl) ?_
        refine lv_if_eq (tgt := 39) hx hb dX4_lowestTerms_17 (by decide) (fun h => ?_) (fun h => ?_)
        · have hf := (if_pos h).symm.trans hf
          exact hk39 v3_8 ls hf (lv_sub hl [0, 1, 2, 3] rfl)
        · have hf := (if_neg h).symm.trans hf
          refine lv_iload_n hx hb dX4_lowestTerms_20 rfl (lv_at hl 3 rfl) ?_
          refine lv_iload hx hb dX4_lowestTerms_21 (lv_at hl 4 rfl) ?_
          obtain ⟨hg1, hf⟩ := gd_some hf
          refine lv_irem hx hb dX4_lowestTerms_23 (nz_ne hg1) ?_
          refine nm_i hf (fun x2 hf => ?_)
          refine lv_istore (lv' := [(6, .int x2), (0, .int g0_8), (1, .int g1_8), (2, .int g2_8), (3, .int v3_8), (4, .int v4_8), (5, .int v5_8)]) hx hb dX4_lowestTerms_24 hl (by decide) rfl (fun ls hl => ?_)
          refine lv_iload hx hb dX4_lowestTerms_26 (lv_at hl 5 rfl) ?_
          refine lv_istore_n (lv' := [(3, .int v4_8), (6, .int x2), (0, .int g0_8), (1, .int g1_8), (2, .int g2_8), (4, .int v4_8), (5, .int v5_8)]) hx hb dX4_lowestTerms_28 rfl hl (by decide) rfl (fun ls hl => ?_)
          refine lv_iload hx hb dX4_lowestTerms_29 (lv_at hl 1 rfl) ?_
          refine lv_istore (lv' := [(4, .int x2), (3, .int v4_8), (6, .int x2), (0, .int g0_8), (1, .int g1_8), (2, .int g2_8), (5, .int v5_8)]) hx hb dX4_lowestTerms_31 hl (by decide) rfl (fun ls hl => ?_)
          obtain ⟨x3, ex3, hf⟩ := nm_ex hf
          refine lv_iinc (v := x3) (lv' := [(5, .int x3), (4, .int x2), (3, .int v4_8), (6, .int x2), (0, .int g0_8), (1, .int g1_8), (2, .int g2_8)]) hx hb dX4_lowestTerms_33 hl (k := 6) rfl (Eq.trans rfl ex3) (by decide) rfl (fun ls hl => ?_)
          refine lv_goto (tgt := 8) hx hb dX4_lowestTerms_36 (by decide) ?_
          exact ih v4_8 x2 x3 ls hf (lv_sub hl [4, 5, 6, 2, 1, 0] rfl)
  unfold fX4_lowestTerms at hf
  refine lv_iload_n hx hb dX4_lowestTerms_0 rfl (lv_at hl 1 rfl) ?_
  refine lv_istore_n (lv' := [(3, .int u2), (0, .int u1), (1, .int u2), (2, .int u3)]) hx hb dX4_lowestTerms_1 rfl hl (by decide) rfl (fun ls hl => ?_)
  refine lv_iload_n hx hb dX4_lowestTerms_2 rfl (lv_at hl 1 rfl) ?_
  refine lv_istore (lv' := [(4, .int u1), (3, .int u2), (0, .int u1), (1, .int u2), (2, .int u3)]) hx hb dX4_lowestTerms_3 hl (by decide) rfl (fun ls hl => ?_)
  refine lv_iconst (v := 0) hx hb dX4_lowestTerms_5 (by decide) ?_
  refine lv_istore (lv' := [(5, .int (0 : Int32)), (4, .int u1), (3, .int u2), (0, .int u1), (1, .int u2), (2, .int u3)]) hx hb dX4_lowestTerms_6 hl (by decide) rfl (fun ls hl => ?_)
  refine w_8 u1 u2 u3 _ ?_ _ u2 u1 (0 : Int32) ls hf (lv_sub hl [3, 4, 5, 2, 1, 0] rfl)
  · intro y4 ls hf hl
    refine lv_iload_n hx hb dX4_lowestTerms_39 rfl (lv_at hl 3 rfl) ?_
    refine lv_if_ne (tgt := 45) hx hb dX4_lowestTerms_40 (by decide) (fun h => ?_) (fun h => ?_)
    · have hf := (if_neg h).symm.trans hf
      refine lv_iload_n hx hb dX4_lowestTerms_45 rfl (lv_at hl 2 rfl) ?_
      refine lv_if_eq (tgt := 53) hx hb dX4_lowestTerms_46 (by decide) (fun h => ?_) (fun h => ?_)
      · have hf := (if_pos h).symm.trans hf
        refine lv_iload_n hx hb dX4_lowestTerms_53 rfl (lv_at hl 1 rfl) ?_
        refine lv_iload_n hx hb dX4_lowestTerms_54 rfl (lv_at hl 3 rfl) ?_
        obtain ⟨hg5, hf⟩ := gd_some hf
        refine lv_idiv hx hb dX4_lowestTerms_55 (nz_ne hg5) ?_
        exact pretI hx hb hr hlk hf dX4_lowestTerms_56
      · have hf := (if_neg h).symm.trans hf
        refine lv_iload_n hx hb dX4_lowestTerms_49 rfl (lv_at hl 0 rfl) ?_
        refine lv_goto (tgt := 54) hx hb dX4_lowestTerms_50 (by decide) ?_
        refine lv_iload_n hx hb dX4_lowestTerms_54 rfl (lv_at hl 3 rfl) ?_
        obtain ⟨hg6, hf⟩ := gd_some hf
        refine lv_idiv hx hb dX4_lowestTerms_55 (nz_ne hg6) ?_
        exact pretI hx hb hr hlk hf dX4_lowestTerms_56
    · have hf := (if_pos h).symm.trans hf
      refine lv_iconst (v := 0) hx hb dX4_lowestTerms_43 (by decide) ?_
      exact pretI hx hb hr hlk hf dX4_lowestTerms_44

abbrev rmJ13_bitCount_95d88 : Room := { frames := 0, cells := 0, slots := 0, locals := 0 }
theorem miJ13_bitCount_95d88 : miS yJ13_bitCount_95d88 cJ13_bitCount_95d88 2 (some .int) 1 := ⟨q422, q54, q421, by decide +kernel⟩
set_option maxHeartbeats 4000000 in
set_option maxRecDepth 100000 in
theorem mtJ13_bitCount_95d88 (l : Launch) (D : va_G) (cy : Nat → ClassId) (z : zT)  (u1 : Int64) (r0 : Int32) (hf : fJ13_bitCount_95d88 u1 = some r0) : pmet l yJ13_bitCount_95d88 cJ13_bitCount_95d88 2 (some .int) rmJ13_bitCount_95d88 D cy z ([]) [.long u1] (some (.int r0)) := by
  refine pmet_of (by decide +kernel) (Nat.le_of_ble_eq_true rfl) (fun p e s m below meth c hx hb hr hml hown hts hlk hP hKK ls hl => ?_)
  have hS : va_S noF s.heap s.heap [] := va_S.rf
  have hA0 : ∀ q, noF q → zA z q := fun _ h => h.elim
  have hown : s.vm.findClass "java/lang/Long" = some m.cls := hown
  have hl : lv_has ls 2 [(0, .long u1)] := hl
  unfold fJ13_bitCount_95d88 at hf
  refine lv_lload_n hx hb dJ13_bitCount_95d88_0 rfl (lv_at hl 0 rfl) ?_
  refine lv_lload_n hx hb dJ13_bitCount_95d88_1 rfl (lv_at hl 0 rfl) ?_
  refine lv_iconst (v := 1) hx hb dJ13_bitCount_95d88_2 (by decide) ?_
  refine lv_lushr hx hb dJ13_bitCount_95d88_3 rfl ?_
  refine lv_ldc2 hx hb hown (hts _ q423) dJ13_bitCount_95d88_4 ?_
  refine lv_land hx hb dJ13_bitCount_95d88_7 ?_
  refine lv_lsub hx hb dJ13_bitCount_95d88_8 ?_
  refine nm_l hf (fun x1 hf => ?_)
  refine lv_lstore_n (lv' := [(0, .long x1)]) hx hb dJ13_bitCount_95d88_9 rfl hl (by decide) rfl (fun ls hl => ?_)
  refine lv_lload_n hx hb dJ13_bitCount_95d88_10 rfl (lv_at hl 0 rfl) ?_
  refine lv_ldc2 hx hb hown (hts _ q424) dJ13_bitCount_95d88_11 ?_
  refine lv_land hx hb dJ13_bitCount_95d88_14 ?_
  refine lv_lload_n hx hb dJ13_bitCount_95d88_15 rfl (lv_at hl 0 rfl) ?_
  refine lv_iconst (v := 2) hx hb dJ13_bitCount_95d88_16 (by decide) ?_
  refine lv_lushr hx hb dJ13_bitCount_95d88_17 rfl ?_
  refine lv_ldc2 hx hb hown (hts _ q424) dJ13_bitCount_95d88_18 ?_
  refine lv_land hx hb dJ13_bitCount_95d88_21 ?_
  refine lv_ladd hx hb dJ13_bitCount_95d88_22 ?_
  refine nm_l hf (fun x2 hf => ?_)
  refine lv_lstore_n (lv' := [(0, .long x2)]) hx hb dJ13_bitCount_95d88_23 rfl hl (by decide) rfl (fun ls hl => ?_)
  refine lv_lload_n hx hb dJ13_bitCount_95d88_24 rfl (lv_at hl 0 rfl) ?_
  refine lv_lload_n hx hb dJ13_bitCount_95d88_25 rfl (lv_at hl 0 rfl) ?_
  refine lv_iconst (v := 4) hx hb dJ13_bitCount_95d88_26 (by decide) ?_
  refine lv_lushr hx hb dJ13_bitCount_95d88_27 rfl ?_
  refine lv_ladd hx hb dJ13_bitCount_95d88_28 ?_
  refine lv_ldc2 hx hb hown (hts _ q425) dJ13_bitCount_95d88_29 ?_
  refine lv_land hx hb dJ13_bitCount_95d88_32 ?_
  refine nm_l hf (fun x3 hf => ?_)
  refine lv_lstore_n (lv' := [(0, .long x3)]) hx hb dJ13_bitCount_95d88_33 rfl hl (by decide) rfl (fun ls hl => ?_)
  refine lv_lload_n hx hb dJ13_bitCount_95d88_34 rfl (lv_at hl 0 rfl) ?_
  refine lv_lload_n hx hb dJ13_bitCount_95d88_35 rfl (lv_at hl 0 rfl) ?_
  refine lv_bipush (v := 8) hx hb dJ13_bitCount_95d88_36 (by decide) ?_
  refine lv_lushr hx hb dJ13_bitCount_95d88_38 rfl ?_
  refine lv_ladd hx hb dJ13_bitCount_95d88_39 ?_
  refine nm_l hf (fun x4 hf => ?_)
  refine lv_lstore_n (lv' := [(0, .long x4)]) hx hb dJ13_bitCount_95d88_40 rfl hl (by decide) rfl (fun ls hl => ?_)
  refine lv_lload_n hx hb dJ13_bitCount_95d88_41 rfl (lv_at hl 0 rfl) ?_
  refine lv_lload_n hx hb dJ13_bitCount_95d88_42 rfl (lv_at hl 0 rfl) ?_
  refine lv_bipush (v := 16) hx hb dJ13_bitCount_95d88_43 (by decide) ?_
  refine lv_lushr hx hb dJ13_bitCount_95d88_45 rfl ?_
  refine lv_ladd hx hb dJ13_bitCount_95d88_46 ?_
  refine nm_l hf (fun x5 hf => ?_)
  refine lv_lstore_n (lv' := [(0, .long x5)]) hx hb dJ13_bitCount_95d88_47 rfl hl (by decide) rfl (fun ls hl => ?_)
  refine lv_lload_n hx hb dJ13_bitCount_95d88_48 rfl (lv_at hl 0 rfl) ?_
  refine lv_lload_n hx hb dJ13_bitCount_95d88_49 rfl (lv_at hl 0 rfl) ?_
  refine lv_bipush (v := 32) hx hb dJ13_bitCount_95d88_50 (by decide) ?_
  refine lv_lushr hx hb dJ13_bitCount_95d88_52 rfl ?_
  refine lv_ladd hx hb dJ13_bitCount_95d88_53 ?_
  refine nm_l hf (fun x6 hf => ?_)
  refine lv_lstore_n (lv' := [(0, .long x6)]) hx hb dJ13_bitCount_95d88_54 rfl hl (by decide) rfl (fun ls hl => ?_)
  refine lv_lload_n hx hb dJ13_bitCount_95d88_55 rfl (lv_at hl 0 rfl) ?_
  refine lv_l2i hx hb dJ13_bitCount_95d88_56 rfl ?_
  refine lv_bipush (v := 127) hx hb dJ13_bitCount_95d88_57 (by decide) ?_
  refine lv_iand hx hb dJ13_bitCount_95d88_59 ?_
  exact pretI hx hb hr hlk hf dJ13_bitCount_95d88_60

abbrev rmJ7_fill_53178 : Room := { frames := 0, cells := 0, slots := 0, locals := 0 }
theorem miJ7_fill_53178 : miS yJ7_fill_53178 cJ7_fill_53178 4 none 2 := ⟨q75, q42, q74, by decide +kernel⟩
set_option maxHeartbeats 4000000 in
set_option maxRecDepth 100000 in
theorem mtJ7_fill_53178 (l : Launch) (D : va_G) (cy : Nat → ClassId) (z : zT) (k0 : Nat) (w : tA) (u2 : Int32) (w0 : tA) (hf : fJ7_fill_53178 w u2 = some w0) : mmet l yJ7_fill_53178 cJ7_fill_53178 4 none rmJ7_fill_53178 D cy z ([arI cy k0 36 w]) ([arI cy k0 36 w0]) [.ref k0, .int u2] none := by
  refine mmet_of (by decide +kernel) (Nat.le_of_ble_eq_true rfl) (fun p e s m below meth c hx hb hr hml hown hts hlk hP hD hS hA0 hKK ls hl => ?_)
  have hown : s.vm.findClass "java/util/Arrays" = some m.cls := hown
  have hl : lv_has ls 4 [(0, .ref k0), (1, .int u2)] := hl
  have w_5 : ∀ (g1_5 : Int32) (g3_5 : Int32) (k20 : tA → Option (tA)) (hk20 : ∀ (w_5 : tA) (H : Heap) (locs : List Loc) (ls : Array Slot), k20 w_5 = some w0 → va_P D vwCl ([arI cy k0 36 w_5]) H → va_D (adr ([arI cy k0 36 w])) ([arI cy k0 36 w_5]) → va_S (adr ([arI cy k0 36 w])) s.heap H locs → lv_has ls 4 [] → W p l e rmJ7_fill_53178 s m ([.ref k0, .int u2] : List Value).toArray below meth c H locs 0 0 (MQ below (mQ D ([arI cy k0 36 w]) ([arI cy k0 36 w0]) none) ([.ref k0, .int u2] : List Value).toArray s 0 0 (adr ([arI cy k0 36 w]))) (F0 m 20 ls [])) (n : Nat) (v2_5 : Int32) (w_5 : tA) (H : Heap) (locs : List Loc) (ls : Array Slot), fJ7_fill_53178_5 g1_5 g3_5 k20 n v2_5 w_5 = some w0 → va_P D vwCl ([arI cy k0 36 w_5]) H → va_D (adr ([arI cy k0 36 w])) ([arI cy k0 36 w_5]) → va_S (adr ([arI cy k0 36 w])) s.heap H locs → lv_has ls 4 [(0, .ref k0), (1, .int g1_5), (2, .int v2_5), (3, .int g3_5)] → W p l e rmJ7_fill_53178 s m ([.ref k0, .int u2] : List Value).toArray below meth c H locs 0 0 (MQ below (mQ D ([arI cy k0 36 w]) ([arI cy k0 36 w0]) none) ([.ref k0, .int u2] : List Value).toArray s 0 0 (adr ([arI cy k0 36 w]))) (F0 m 5 ls []) := by
    intro g1_5 g3_5 k20 hk20 n
    induction n with
    | zero =>
      intro v2_5 w_5 H locs ls hf hP hD hS hl
      cases (show (none : Option (tA)) = some w0 from hf)
    | succ n ih =>
      intro v2_5 w_5 H locs ls hf hP hD hS hl
      rw [fJ7_fill_53178_5] at hf
      refine lv_iload_n hx hb dJ7_fill_53178_5 rfl (lv_at hl 2 rfl) ?_
      refine lv_iload_n hx hb dJ7_fill_53178_6 rfl (lv_at hl 3 rfl) ?_
      refine lv_icmp_ge (tgt := 20) hx hb dJ7_fill_53178_7 (by decide) (fun h => ?_) (fun h => ?_)
      · have hf := (if_pos h).symm.trans hf
        exact hk20 w_5 _ _ ls hf hP hD hS (lv_sub hl [] rfl)
      · have hf := (if_neg h).symm.trans hf
        refine lv_aload_n hx hb dJ7_fill_53178_10 rfl (lv_at hl 0 rfl) ?_
        refine lv_iload_n hx hb dJ7_fill_53178_11 rfl (lv_at hl 2 rfl) ?_
        refine lv_iload_n hx hb dJ7_fill_53178_12 rfl (lv_at hl 1 rfl) ?_
        obtain ⟨hg1, hf⟩ := gd_some hf
        refine va_iast hx hb hKK.1 hP hD hS 0 0 rfl rfl (inb_in hg1) dJ7_fill_53178_13 (fun H locs hP hD hS => ?_)
        have hP : va_P D vwCl ([arI cy k0 36 (upd w_5 v2_5.toNatClampNeg g1_5)]) H := hP
        have hD : va_D (adr ([arI cy k0 36 w])) ([arI cy k0 36 (upd w_5 v2_5.toNatClampNeg g1_5)]) := hD
        obtain ⟨x2, ex2, hf⟩ := nm_ex hf
        refine lv_iinc (v := x2) (lv' := [(2, .int x2), (0, .ref k0), (1, .int g1_5), (3, .int g3_5)]) hx hb dJ7_fill_53178_14 hl (k := 2) rfl (Eq.trans rfl ex2) (by decide) rfl (fun ls hl => ?_)
        refine lv_goto (tgt := 5) hx hb dJ7_fill_53178_17 (by decide) ?_
        exact ih x2 (upd w_5 v2_5.toNatClampNeg g1_5) _ _ ls hf hP hD hS (lv_sub hl [1, 2, 0, 3] rfl)
  unfold fJ7_fill_53178 at hf
  refine lv_iconst (v := 0) hx hb dJ7_fill_53178_0 (by decide) ?_
  refine lv_istore_n (lv' := [(2, .int (0 : Int32)), (0, .ref k0), (1, .int u2)]) hx hb dJ7_fill_53178_1 rfl hl (by decide) rfl (fun ls hl => ?_)
  refine lv_aload_n hx hb dJ7_fill_53178_2 rfl (lv_at hl 1 rfl) ?_
  refine va_alen hx hb hKK.1 hP 0 0 rfl rfl (v := 36) rfl dJ7_fill_53178_3 ?_
  refine lv_istore_n (lv' := [(3, .int (36 : Int32)), (2, .int (0 : Int32)), (0, .ref k0), (1, .int u2)]) hx hb dJ7_fill_53178_4 rfl hl (by decide) rfl (fun ls hl => ?_)
  refine w_5 u2 (36 : Int32) _ ?_ _ (0 : Int32) w _ _ ls hf hP hD hS (lv_sub hl [2, 3, 1, 0] rfl)
  · intro w3 H locs ls hf hP hD hS hl
    cases hf
    exact mretV hx hb hr hlk hP hS dJ7_fill_53178_20

abbrev rmX1_cellCount : Room := { frames := 0, cells := 0, slots := 0, locals := 0 }
theorem miX1_cellCount : miV yX1_cellCount cX1_cellCount 1 (some .int) 0 := ⟨q238, q41, q236, q237, by decide +kernel⟩
set_option maxHeartbeats 4000000 in
set_option maxRecDepth 100000 in
theorem mtX1_cellCount (l : Launch) (D : va_G) (cy : Nat → ClassId) (z : zT) (k0 k1 k2 k3 k4 : Nat) (L : tL) (r0 : Int32) (hf : fX1_cellCount L = some r0) : pmet l yX1_cellCount cX1_cellCount 1 (some .int) rmX1_cellCount D cy z (wL cy k0 k1 k2 k3 k4 L) [.ref k0] (some (.int r0)) := by
  refine pmet_of (by decide +kernel) (Nat.le_of_ble_eq_true rfl) (fun p e s m below meth c hx hb hr hml hown hts hlk hP hKK ls hl => ?_)
  have hS : va_S noF s.heap s.heap [] := va_S.rf
  have hA0 : ∀ q, noF q → zA z q := fun _ h => h.elim
  have hown : s.vm.findClass "HillSight$Land" = some m.cls := hown
  have hl : lv_has ls 1 [(0, .ref k0)] := hl
  unfold fX1_cellCount at hf
  refine lv_aload_n hx hb dX1_cellCount_0 rfl (lv_at hl 0 rfl) ?_
  refine va_get (D := D) (ci := 1) (v := .int L.1) (C := RX1) (T := TX1) (N := 7) hx hb hts inX1 hown hKK.1 hP 0 rfl rfl 0 (by decide) (hts _ q76) (fun _ h => h) rfl dX1_cellCount_1 ?_
  refine lv_aload_n hx hb dX1_cellCount_4 rfl (lv_at hl 0 rfl) ?_
  refine va_get (D := D) (ci := 1) (v := .int L.2.1) (C := RX1) (T := TX1) (N := 7) hx hb hts inX1 hown hKK.1 hP 0 rfl rfl 1 (by decide) (hts _ q78) (fun _ h => h) rfl dX1_cellCount_5 ?_
  refine lv_imul hx hb dX1_cellCount_8 ?_
  exact pretI hx hb hr hlk hf dX1_cellCount_9

abbrev rmX1_hasCell : Room := { frames := 0, cells := 0, slots := 0, locals := 0 }
theorem miX1_hasCell : miV yX1_hasCell cX1_hasCell 2 (some .boolean) 1 := ⟨q246, q41, q244, q245, by decide +kernel⟩
set_option maxHeartbeats 4000000 in
set_option maxRecDepth 100000 in
theorem mtX1_hasCell (l : Launch) (D : va_G) (cy : Nat → ClassId) (z : zT) (k0 k1 k2 k3 k4 : Nat) (L : tL) (u1 : Int32) (r0 : Int32) (hf : fX1_hasCell L u1 = some r0) : pmet l yX1_hasCell cX1_hasCell 2 (some .boolean) rmX1_hasCell D cy z (wL cy k0 k1 k2 k3 k4 L) [.ref k0, .int u1] (some (.int r0)) := by
  refine pmet_of (by decide +kernel) (Nat.le_of_ble_eq_true rfl) (fun p e s m below meth c hx hb hr hml hown hts hlk hP hKK ls hl => ?_)
  have hS : va_S noF s.heap s.heap [] := va_S.rf
  have hA0 : ∀ q, noF q → zA z q := fun _ h => h.elim
  have hown : s.vm.findClass "HillSight$Land" = some m.cls := hown
  have hl : lv_has ls 2 [(0, .ref k0), (1, .int u1)] := hl
  unfold fX1_hasCell at hf
  refine lv_iload_n hx hb dX1_hasCell_0 rfl (lv_at hl 1 rfl) ?_
  refine lv_if_lt (tgt := 21) hx hb dX1_hasCell_1 (by decide) (fun h => ?_) (fun h => ?_)
  · have hf := (if_pos h).symm.trans hf
    refine lv_iconst (v := 0) hx hb dX1_hasCell_21 (by decide) ?_
    exact pretZ hx hb hr hlk (by decide) hf dX1_hasCell_22
  · have hf := (if_neg h).symm.trans hf
    refine lv_iload_n hx hb dX1_hasCell_4 rfl (lv_at hl 1 rfl) ?_
    refine lv_aload_n hx hb dX1_hasCell_5 rfl (lv_at hl 0 rfl) ?_
    refine va_get (D := D) (ci := 1) (v := .int L.1) (C := RX1) (T := TX1) (N := 7) hx hb hts inX1 hown hKK.1 hP 0 rfl rfl 0 (by decide) (hts _ q76) (fun _ h => h) rfl dX1_hasCell_6 ?_
    refine lv_aload_n hx hb dX1_hasCell_9 rfl (lv_at hl 0 rfl) ?_
    refine va_get (D := D) (ci := 1) (v := .int L.2.1) (C := RX1) (T := TX1) (N := 7) hx hb hts inX1 hown hKK.1 hP 0 rfl rfl 1 (by decide) (hts _ q78) (fun _ h => h) rfl dX1_hasCell_10 ?_
    refine lv_imul hx hb dX1_hasCell_13 ?_
    refine lv_icmp_ge (tgt := 21) hx hb dX1_hasCell_14 (by decide) (fun h => ?_) (fun h => ?_)
    · have hf := (if_pos h).symm.trans hf
      refine lv_iconst (v := 0) hx hb dX1_hasCell_21 (by decide) ?_
      exact pretZ hx hb hr hlk (by decide) hf dX1_hasCell_22
    · have hf := (if_neg h).symm.trans hf
      refine lv_iconst (v := 1) hx hb dX1_hasCell_17 (by decide) ?_
      refine lv_goto (tgt := 22) hx hb dX1_hasCell_18 (by decide) ?_
      exact pretZ hx hb hr hlk (by decide) hf dX1_hasCell_22

abbrev rmX1_hasTower : Room := { frames := 0, cells := 0, slots := 0, locals := 0 }
theorem miX1_hasTower : miV yX1_hasTower cX1_hasTower 2 (some .boolean) 1 := ⟨q463, q41, q461, q462, by decide +kernel⟩
set_option maxHeartbeats 4000000 in
set_option maxRecDepth 100000 in
theorem mtX1_hasTower (l : Launch) (D : va_G) (cy : Nat → ClassId) (z : zT) (k0 k1 k2 k3 k4 : Nat) (L : tL) (u1 : Int32) (r0 : Int32) (hf : fX1_hasTower L u1 = some r0) : pmet l yX1_hasTower cX1_hasTower 2 (some .boolean) rmX1_hasTower D cy z (wL cy k0 k1 k2 k3 k4 L) [.ref k0, .int u1] (some (.int r0)) := by
  refine pmet_of (by decide +kernel) (Nat.le_of_ble_eq_true rfl) (fun p e s m below meth c hx hb hr hml hown hts hlk hP hKK ls hl => ?_)
  have hS : va_S noF s.heap s.heap [] := va_S.rf
  have hA0 : ∀ q, noF q → zA z q := fun _ h => h.elim
  have hown : s.vm.findClass "HillSight$Land" = some m.cls := hown
  have hl : lv_has ls 2 [(0, .ref k0), (1, .int u1)] := hl
  unfold fX1_hasTower at hf
  refine lv_iload_n hx hb dX1_hasTower_0 rfl (lv_at hl 1 rfl) ?_
  refine lv_if_lt (tgt := 21) hx hb dX1_hasTower_1 (by decide) (fun h => ?_) (fun h => ?_)
  · have hf := (if_pos h).symm.trans hf
    refine lv_iconst (v := 0) hx hb dX1_hasTower_21 (by decide) ?_
    exact pretZ hx hb hr hlk (by decide) hf dX1_hasTower_22
  · have hf := (if_neg h).symm.trans hf
    refine lv_iload_n hx hb dX1_hasTower_4 rfl (lv_at hl 1 rfl) ?_
    refine lv_aload_n hx hb dX1_hasTower_5 rfl (lv_at hl 0 rfl) ?_
    refine va_get (D := D) (ci := 1) (v := .int L.2.2.1) (C := RX1) (T := TX1) (N := 7) hx hb hts inX1 hown hKK.1 hP 0 rfl rfl 2 (by decide) (hts _ q80) (fun _ h => h) rfl dX1_hasTower_6 ?_
    refine lv_icmp_ge (tgt := 21) hx hb dX1_hasTower_9 (by decide) (fun h => ?_) (fun h => ?_)
    · have hf := (if_pos h).symm.trans hf
      refine lv_iconst (v := 0) hx hb dX1_hasTower_21 (by decide) ?_
      exact pretZ hx hb hr hlk (by decide) hf dX1_hasTower_22
    · have hf := (if_neg h).symm.trans hf
      refine lv_iload_n hx hb dX1_hasTower_12 rfl (lv_at hl 1 rfl) ?_
      refine lv_iconst (v := 5) hx hb dX1_hasTower_13 (by decide) ?_
      refine lv_icmp_ge (tgt := 21) hx hb dX1_hasTower_14 (by decide) (fun h => ?_) (fun h => ?_)
      · have hf := (if_pos h).symm.trans hf
        refine lv_iconst (v := 0) hx hb dX1_hasTower_21 (by decide) ?_
        exact pretZ hx hb hr hlk (by decide) hf dX1_hasTower_22
      · have hf := (if_neg h).symm.trans hf
        refine lv_iconst (v := 1) hx hb dX1_hasTower_17 (by decide) ?_
        refine lv_goto (tgt := 22) hx hb dX1_hasTower_18 (by decide) ?_
        exact pretZ hx hb hr hlk (by decide) hf dX1_hasTower_22

abbrev rmX1_isInside : Room := { frames := 0, cells := 0, slots := 0, locals := 0 }
theorem miX1_isInside : miV yX1_isInside cX1_isInside 3 (some .boolean) 2 := ⟨q577, q41, q575, q576, by decide +kernel⟩
set_option maxHeartbeats 4000000 in
set_option maxRecDepth 100000 in
theorem mtX1_isInside (l : Launch) (D : va_G) (cy : Nat → ClassId) (z : zT) (k0 k1 k2 k3 k4 : Nat) (L : tL) (u1 : Int32) (u2 : Int32) (r0 : Int32) (hf : fX1_isInside L u1 u2 = some r0) : pmet l yX1_isInside cX1_isInside 3 (some .boolean) rmX1_isInside D cy z (wL cy k0 k1 k2 k3 k4 L) [.ref k0, .int u1, .int u2] (some (.int r0)) := by
  refine pmet_of (by decide +kernel) (Nat.le_of_ble_eq_true rfl) (fun p e s m below meth c hx hb hr hml hown hts hlk hP hKK ls hl => ?_)
  have hS : va_S noF s.heap s.heap [] := va_S.rf
  have hA0 : ∀ q, noF q → zA z q := fun _ h => h.elim
  have hown : s.vm.findClass "HillSight$Land" = some m.cls := hown
  have hl : lv_has ls 3 [(0, .ref k0), (1, .int u1), (2, .int u2)] := hl
  unfold fX1_isInside at hf
  refine lv_iload_n hx hb dX1_isInside_0 rfl (lv_at hl 1 rfl) ?_
  refine lv_if_lt (tgt := 28) hx hb dX1_isInside_1 (by decide) (fun h => ?_) (fun h => ?_)
  · have hf := (if_pos h).symm.trans hf
    refine lv_iconst (v := 0) hx hb dX1_isInside_28 (by decide) ?_
    exact pretZ hx hb hr hlk (by decide) hf dX1_isInside_29
  · have hf := (if_neg h).symm.trans hf
    refine lv_iload_n hx hb dX1_isInside_4 rfl (lv_at hl 1 rfl) ?_
    refine lv_aload_n hx hb dX1_isInside_5 rfl (lv_at hl 0 rfl) ?_
    refine va_get (D := D) (ci := 1) (v := .int L.1) (C := RX1) (T := TX1) (N := 7) hx hb hts inX1 hown hKK.1 hP 0 rfl rfl 0 (by decide) (hts _ q76) (fun _ h => h) rfl dX1_isInside_6 ?_
    refine lv_icmp_ge (tgt := 28) hx hb dX1_isInside_9 (by decide) (fun h => ?_) (fun h => ?_)
    · have hf := (if_pos h).symm.trans hf
      refine lv_iconst (v := 0) hx hb dX1_isInside_28 (by decide) ?_
      exact pretZ hx hb hr hlk (by decide) hf dX1_isInside_29
    · have hf := (if_neg h).symm.trans hf
      refine lv_iload_n hx hb dX1_isInside_12 rfl (lv_at hl 2 rfl) ?_
      refine lv_if_lt (tgt := 28) hx hb dX1_isInside_13 (by decide) (fun h => ?_) (fun h => ?_)
      · have hf := (if_pos h).symm.trans hf
        refine lv_iconst (v := 0) hx hb dX1_isInside_28 (by decide) ?_
        exact pretZ hx hb hr hlk (by decide) hf dX1_isInside_29
      · have hf := (if_neg h).symm.trans hf
        refine lv_iload_n hx hb dX1_isInside_16 rfl (lv_at hl 2 rfl) ?_
        refine lv_aload_n hx hb dX1_isInside_17 rfl (lv_at hl 0 rfl) ?_
        refine va_get (D := D) (ci := 1) (v := .int L.2.1) (C := RX1) (T := TX1) (N := 7) hx hb hts inX1 hown hKK.1 hP 0 rfl rfl 1 (by decide) (hts _ q78) (fun _ h => h) rfl dX1_isInside_18 ?_
        refine lv_icmp_ge (tgt := 28) hx hb dX1_isInside_21 (by decide) (fun h => ?_) (fun h => ?_)
        · have hf := (if_pos h).symm.trans hf
          refine lv_iconst (v := 0) hx hb dX1_isInside_28 (by decide) ?_
          exact pretZ hx hb hr hlk (by decide) hf dX1_isInside_29
        · have hf := (if_neg h).symm.trans hf
          refine lv_iconst (v := 1) hx hb dX1_isInside_24 (by decide) ?_
          refine lv_goto (tgt := 29) hx hb dX1_isInside_25 (by decide) ?_
          exact pretZ hx hb hr hlk (by decide) hf dX1_isInside_29

abbrev rmX1_columnOf : Room := { frames := 0, cells := 0, slots := 0, locals := 0 }
theorem miX1_columnOf : miV yX1_columnOf cX1_columnOf 2 (some .int) 1 := ⟨q398, q41, q396, q397, by decide +kernel⟩
set_option maxHeartbeats 4000000 in
set_option maxRecDepth 100000 in
theorem mtX1_columnOf (l : Launch) (D : va_G) (cy : Nat → ClassId) (z : zT) (k0 k1 k2 k3 k4 : Nat) (L : tL) (u1 : Int32) (r0 : Int32) (hf : fX1_columnOf L u1 = some r0) : pmet l yX1_columnOf cX1_columnOf 2 (some .int) rmX1_columnOf D cy z (wL cy k0 k1 k2 k3 k4 L) [.ref k0, .int u1] (some (.int r0)) := by
  refine pmet_of (by decide +kernel) (Nat.le_of_ble_eq_true rfl) (fun p e s m below meth c hx hb hr hml hown hts hlk hP hKK ls hl => ?_)
  have hS : va_S noF s.heap s.heap [] := va_S.rf
  have hA0 : ∀ q, noF q → zA z q := fun _ h => h.elim
  have hown : s.vm.findClass "HillSight$Land" = some m.cls := hown
  have hl : lv_has ls 2 [(0, .ref k0), (1, .int u1)] := hl
  unfold fX1_columnOf at hf
  refine lv_aload_n hx hb dX1_columnOf_0 rfl (lv_at hl 0 rfl) ?_
  refine va_get (D := D) (ci := 1) (v := .int L.1) (C := RX1) (T := TX1) (N := 7) hx hb hts inX1 hown hKK.1 hP 0 rfl rfl 0 (by decide) (hts _ q76) (fun _ h => h) rfl dX1_columnOf_1 ?_
  refine lv_if_ne (tgt := 11) hx hb dX1_columnOf_4 (by decide) (fun h => ?_) (fun h => ?_)
  · have hf := (if_neg h).symm.trans hf
    refine lv_iload_n hx hb dX1_columnOf_11 rfl (lv_at hl 1 rfl) ?_
    refine lv_aload_n hx hb dX1_columnOf_12 rfl (lv_at hl 0 rfl) ?_
    refine va_get (D := D) (ci := 1) (v := .int L.1) (C := RX1) (T := TX1) (N := 7) hx hb hts inX1 hown hKK.1 hP 0 rfl rfl 0 (by decide) (hts _ q76) (fun _ h => h) rfl dX1_columnOf_13 ?_
    obtain ⟨hg1, hf⟩ := gd_some hf
    refine lv_irem hx hb dX1_columnOf_16 (nz_ne hg1) ?_
    exact pretI hx hb hr hlk hf dX1_columnOf_17
  · have hf := (if_pos h).symm.trans hf
    refine lv_iconst (v := 0) hx hb dX1_columnOf_7 (by decide) ?_
    refine lv_goto (tgt := 17) hx hb dX1_columnOf_8 (by decide) ?_
    exact pretI hx hb hr hlk hf dX1_columnOf_17

abbrev rmX1_rowOf : Room := { frames := 0, cells := 0, slots := 0, locals := 0 }
theorem miX1_rowOf : miV yX1_rowOf cX1_rowOf 2 (some .int) 1 := ⟨q405, q41, q403, q404, by decide +kernel⟩
set_option maxHeartbeats 4000000 in
set_option maxRecDepth 100000 in
theorem mtX1_rowOf (l : Launch) (D : va_G) (cy : Nat → ClassId) (z : zT) (k0 k1 k2 k3 k4 : Nat) (L : tL) (u1 : Int32) (r0 : Int32) (hf : fX1_rowOf L u1 = some r0) : pmet l yX1_rowOf cX1_rowOf 2 (some .int) rmX1_rowOf D cy z (wL cy k0 k1 k2 k3 k4 L) [.ref k0, .int u1] (some (.int r0)) := by
  refine pmet_of (by decide +kernel) (Nat.le_of_ble_eq_true rfl) (fun p e s m below meth c hx hb hr hml hown hts hlk hP hKK ls hl => ?_)
  have hS : va_S noF s.heap s.heap [] := va_S.rf
  have hA0 : ∀ q, noF q → zA z q := fun _ h => h.elim
  have hown : s.vm.findClass "HillSight$Land" = some m.cls := hown
  have hl : lv_has ls 2 [(0, .ref k0), (1, .int u1)] := hl
  unfold fX1_rowOf at hf
  refine lv_aload_n hx hb dX1_rowOf_0 rfl (lv_at hl 0 rfl) ?_
  refine va_get (D := D) (ci := 1) (v := .int L.1) (C := RX1) (T := TX1) (N := 7) hx hb hts inX1 hown hKK.1 hP 0 rfl rfl 0 (by decide) (hts _ q76) (fun _ h => h) rfl dX1_rowOf_1 ?_
  refine lv_if_ne (tgt := 11) hx hb dX1_rowOf_4 (by decide) (fun h => ?_) (fun h => ?_)
  · have hf := (if_neg h).symm.trans hf
    refine lv_iload_n hx hb dX1_rowOf_11 rfl (lv_at hl 1 rfl) ?_
    refine lv_aload_n hx hb dX1_rowOf_12 rfl (lv_at hl 0 rfl) ?_
    refine va_get (D := D) (ci := 1) (v := .int L.1) (C := RX1) (T := TX1) (N := 7) hx hb hts inX1 hown hKK.1 hP 0 rfl rfl 0 (by decide) (hts _ q76) (fun _ h => h) rfl dX1_rowOf_13 ?_
    obtain ⟨hg1, hf⟩ := gd_some hf
    refine lv_idiv hx hb dX1_rowOf_16 (nz_ne hg1) ?_
    exact pretI hx hb hr hlk hf dX1_rowOf_17
  · have hf := (if_pos h).symm.trans hf
    refine lv_iconst (v := 0) hx hb dX1_rowOf_7 (by decide) ?_
    refine lv_goto (tgt := 17) hx hb dX1_rowOf_8 (by decide) ?_
    exact pretI hx hb hr hlk hf dX1_rowOf_17

abbrev rmX1_heightOf : Room := { frames := 0, cells := 0, slots := 0, locals := 0 }
theorem miX1_heightOf : miV yX1_heightOf cX1_heightOf 2 (some .int) 1 := ⟨q418, q41, q416, q417, by decide +kernel⟩
set_option maxHeartbeats 4000000 in
set_option maxRecDepth 100000 in
theorem mtX1_heightOf (l : Launch) (D : va_G) (cy : Nat → ClassId) (z : zT) (k0 k1 k2 k3 k4 : Nat) (L : tL) (u1 : Int32) (r0 : Int32) (hf : fX1_heightOf L u1 = some r0) : pmet l yX1_heightOf cX1_heightOf 2 (some .int) rmX1_heightOf D cy z (wL cy k0 k1 k2 k3 k4 L) [.ref k0, .int u1] (some (.int r0)) := by
  refine pmet_of (by decide +kernel) (Nat.le_of_ble_eq_true rfl) (fun p e s m below meth c hx hb hr hml hown hts hlk hP hKK ls hl => ?_)
  have hS : va_S noF s.heap s.heap [] := va_S.rf
  have hA0 : ∀ q, noF q → zA z q := fun _ h => h.elim
  have hown : s.vm.findClass "HillSight$Land" = some m.cls := hown
  have hl : lv_has ls 2 [(0, .ref k0), (1, .int u1)] := hl
  unfold fX1_heightOf at hf
  refine lv_iload_n hx hb dX1_heightOf_0 rfl (lv_at hl 1 rfl) ?_
  refine lv_if_lt (tgt := 19) hx hb dX1_heightOf_1 (by decide) (fun h => ?_) (fun h => ?_)
  · have hf := (if_pos h).symm.trans hf
    refine lv_iconst (v := 0) hx hb dX1_heightOf_19 (by decide) ?_
    exact pretI hx hb hr hlk hf dX1_heightOf_20
  · have hf := (if_neg h).symm.trans hf
    refine lv_iload_n hx hb dX1_heightOf_4 rfl (lv_at hl 1 rfl) ?_
    refine lv_bipush (v := 36) hx hb dX1_heightOf_5 (by decide) ?_
    refine lv_icmp_ge (tgt := 19) hx hb dX1_heightOf_7 (by decide) (fun h => ?_) (fun h => ?_)
    · have hf := (if_pos h).symm.trans hf
      refine lv_iconst (v := 0) hx hb dX1_heightOf_19 (by decide) ?_
      exact pretI hx hb hr hlk hf dX1_heightOf_20
    · have hf := (if_neg h).symm.trans hf
      refine lv_aload_n hx hb dX1_heightOf_10 rfl (lv_at hl 0 rfl) ?_
      refine va_get (D := D) (ci := 1) (v := .ref k1) (C := RX1) (T := TX1) (N := 7) hx hb hts inX1 hown hKK.1 hP 0 rfl rfl 3 (by decide) (hts _ q83) (fun _ h => h) rfl dX1_heightOf_11 ?_
      refine lv_iload_n hx hb dX1_heightOf_14 rfl (lv_at hl 1 rfl) ?_
      obtain ⟨hg1, hf⟩ := gd_some hf
      refine va_iald hx hb hKK.1 hP 1 0 rfl rfl (inb_in hg1) dX1_heightOf_15 ?_
      refine lv_goto (tgt := 20) hx hb dX1_heightOf_16 (by decide) ?_
      exact pretI hx hb hr hlk hf dX1_heightOf_20

abbrev rmX1_putHeight : Room := { frames := 1, cells := 0, slots := 0, locals := 21 }
theorem miX1_putHeight : miV yX1_putHeight cX1_putHeight 3 (some .boolean) 2 := ⟨q242, q41, q240, q241, by decide +kernel⟩
set_option maxHeartbeats 4000000 in
set_option maxRecDepth 100000 in
theorem mtX1_putHeight (l : Launch) (D : va_G) (cy : Nat → ClassId) (z : zT) (k0 k1 k2 k3 k4 : Nat) (L : tL) (u1 : Int32) (u2 : Int32) (r0 : Int32) (L0 : tL) (hf : fX1_putHeight L u1 u2 = some (r0, L0)) : mmet l yX1_putHeight cX1_putHeight 3 (some .boolean) rmX1_putHeight D cy z (wL cy k0 k1 k2 k3 k4 L) (wL cy k0 k1 k2 k3 k4 L0) [.ref k0, .int u1, .int u2] (some (.int r0)) := by
  refine mmet_of (by decide +kernel) (Nat.le_of_ble_eq_true rfl) (fun p e s m below meth c hx hb hr hml hown hts hlk hP hD hS hA0 hKK ls hl => ?_)
  have hown : s.vm.findClass "HillSight$Land" = some m.cls := hown
  have hl : lv_has ls 3 [(0, .ref k0), (1, .int u1), (2, .int u2)] := hl
  unfold fX1_putHeight at hf
  refine lv_aload_n hx hb dX1_putHeight_0 rfl (lv_at hl 0 rfl) ?_
  refine lv_iload_n hx hb dX1_putHeight_1 rfl (lv_at hl 1 rfl) ?_
  obtain ⟨r2, hc1, hf⟩ := bd_some hf
  refine pCallVI ⟨hx, hb, hml, hown, hts⟩ (mtX1_hasCell l D cy z k0 k1 k2 k3 k4 L u1 r2 hc1) miX1_hasCell q243 ⟨Nat.le_of_ble_eq_true rfl, Nat.le_of_ble_eq_true rfl⟩ ⟨rfl, rfl⟩ hP hKK hS hA0 (va_recv hKK.1 hP (ci := 1) (q0 := 0) rfl rfl) rfl hl.1 rfl (Nat.le_of_ble_eq_true rfl) dX1_putHeight_2 ⟨Nat.zero_le _, Nat.zero_le _⟩ ?_
  refine lv_if_eq (tgt := 14) hx hb dX1_putHeight_5 (by decide) (fun h => ?_) (fun h => ?_)
  · have hf := (if_pos h).symm.trans hf
    refine lv_iconst (v := 0) hx hb dX1_putHeight_14 (by decide) ?_
    cases hf
    exact mretZ hx hb hr hlk (by decide) hP hS dX1_putHeight_15
  · have hf := (if_neg h).symm.trans hf
    refine lv_iload_n hx hb dX1_putHeight_8 rfl (lv_at hl 1 rfl) ?_
    refine lv_bipush (v := 36) hx hb dX1_putHeight_9 (by decide) ?_
    refine lv_icmp_lt (tgt := 16) hx hb dX1_putHeight_11 (by decide) (fun h => ?_) (fun h => ?_)
    · have hf := (if_pos h).symm.trans hf
      refine lv_aload_n hx hb dX1_putHeight_16 rfl (lv_at hl 0 rfl) ?_
      refine va_get (D := D) (ci := 1) (v := .ref k1) (C := RX1) (T := TX1) (N := 7) hx hb hts inX1 hown hKK.1 hP 0 rfl rfl 3 (by decide) (hts _ q83) (fun _ h => h) rfl dX1_putHeight_17 ?_
      refine lv_iload_n hx hb dX1_putHeight_20 rfl (lv_at hl 1 rfl) ?_
      refine lv_iload_n hx hb dX1_putHeight_21 rfl (lv_at hl 2 rfl) ?_
      obtain ⟨hg3, hf⟩ := gd_some hf
      refine va_iast hx hb hKK.1 hP hD hS 1 0 rfl rfl (inb_in hg3) dX1_putHeight_22 (fun H locs hP hD hS => ?_)
      have hP : va_P D vwCl (wL cy k0 k1 k2 k3 k4 (L.1, L.2.1, L.2.2.1, (upd L.2.2.2.1 u1.toNatClampNeg u2), L.2.2.2.2.1, L.2.2.2.2.2.1, L.2.2.2.2.2.2)) H := hP
      have hD : va_D (adr (wL cy k0 k1 k2 k3 k4 L)) (wL cy k0 k1 k2 k3 k4 (L.1, L.2.1, L.2.2.1, (upd L.2.2.2.1 u1.toNatClampNeg u2), L.2.2.2.2.1, L.2.2.2.2.2.1, L.2.2.2.2.2.2)) := hD
      refine lv_iconst (v := 1) hx hb dX1_putHeight_23 (by decide) ?_
      cases hf
      exact mretZ hx hb hr hlk (by decide) hP hS dX1_putHeight_24
    · have hf := (if_neg h).symm.trans hf
      refine lv_iconst (v := 0) hx hb dX1_putHeight_14 (by decide) ?_
      cases hf
      exact mretZ hx hb hr hlk (by decide) hP hS dX1_putHeight_15

abbrev rmX1_putTower : Room := { frames := 1, cells := 0, slots := 0, locals := 21 }
theorem miX1_putTower : miV yX1_putTower cX1_putTower 5 (some .boolean) 3 := ⟨q261, q41, q259, q260, by decide +kernel⟩
set_option maxHeartbeats 4000000 in
set_option maxRecDepth 100000 in
theorem mtX1_putTower (l : Launch) (D : va_G) (cy : Nat → ClassId) (z : zT) (k0 k1 k2 k3 k4 : Nat) (L : tL) (u1 : Int32) (u2 : Int32) (u3 : Int32) (r0 : Int32) (L0 : tL) (hf : fX1_putTower L u1 u2 u3 = some (r0, L0)) : mmet l yX1_putTower cX1_putTower 5 (some .boolean) rmX1_putTower D cy z (wL cy k0 k1 k2 k3 k4 L) (wL cy k0 k1 k2 k3 k4 L0) [.ref k0, .int u1, .int u2, .int u3] (some (.int r0)) := by
  refine mmet_of (by decide +kernel) (Nat.le_of_ble_eq_true rfl) (fun p e s m below meth c hx hb hr hml hown hts hlk hP hD hS hA0 hKK ls hl => ?_)
  have hown : s.vm.findClass "HillSight$Land" = some m.cls := hown
  have hl : lv_has ls 5 [(0, .ref k0), (1, .int u1), (2, .int u2), (3, .int u3)] := hl
  have w_36 : ∀ (g1_36 : Int32) (g2_36 : Int32) (g3_36 : Int32) (k80 : tL → Option (Int32 × tL)) (hk80 : ∀ (L_36 : tL) (H : Heap) (locs : List Loc) (ls : Array Slot), k80 L_36 = some (r0, L0) → va_P D vwCl (wL cy k0 k1 k2 k3 k4 L_36) H → va_D (adr (wL cy k0 k1 k2 k3 k4 L)) (wL cy k0 k1 k2 k3 k4 L_36) → va_S (adr (wL cy k0 k1 k2 k3 k4 L)) s.heap H locs → lv_has ls 5 [(0, .ref k0), (1, .int g1_36), (2, .int g2_36), (3, .int g3_36)] → W p l e rmX1_putTower s m ([.ref k0, .int u1, .int u2, .int u3] : List Value).toArray below meth c H locs 0 0 (MQ below (mQ D (wL cy k0 k1 k2 k3 k4 L) (wL cy k0 k1 k2 k3 k4 L0) (some (.int r0))) ([.ref k0, .int u1, .int u2, .int u3] : List Value).toArray s 0 0 (adr (wL cy k0 k1 k2 k3 k4 L))) (F0 m 80 ls [])) (n : Nat) (v4_36 : Int32) (L_36 : tL) (H : Heap) (locs : List Loc) (ls : Array Slot), fX1_putTower_36 g1_36 g2_36 g3_36 k80 n v4_36 L_36 = some (r0, L0) → va_P D vwCl (wL cy k0 k1 k2 k3 k4 L_36) H → va_D (adr (wL cy k0 k1 k2 k3 k4 L)) (wL cy k0 k1 k2 k3 k4 L_36) → va_S (adr (wL cy k0 k1 k2 k3 k4 L)) s.heap H locs → lv_has ls 5 [(0, .ref k0), (1, .int g1_36), (2, .int g2_36), (3, .int g3_36), (4, .int v4_36)] → W p l e rmX1_putTower s m ([.ref k0, .int u1, .int u2, .int u3] : List Value).toArray below meth c H locs 0 0 (MQ below (mQ D (wL cy k0 k1 k2 k3 k4 L) (wL cy k0 k1 k2 k3 k4 L0) (some (.int r0))) ([.ref k0, .int u1, .int u2, .int u3] : List Value).toArray s 0 0 (adr (wL cy k0 k1 k2 k3 k4 L))) (F0 m 36 ls []) := by
    intro g1_36 g2_36 g3_36 k80 hk80 n
    induction n with
    | zero =>
      intro v4_36 L_36 H locs ls hf hP hD hS hl
      cases (show (none : Option (Int32 × tL)) = some (r0, L0) from hf)
    | succ n ih =>
      intro v4_36 L_36 H locs ls hf hP hD hS hl
      rw [fX1_putTower_36] at hf
      refine lv_iload hx hb dX1_putTower_36 (lv_at hl 4 rfl) ?_
      refine lv_iload_n hx hb dX1_putTower_38 rfl (lv_at hl 1 rfl) ?_
      refine lv_icmp_le (tgt := 80) hx hb dX1_putTower_39 (by decide) (fun h => ?_) (fun h => ?_)
      · have hf := (if_pos h).symm.trans hf
        exact hk80 L_36 _ _ ls hf hP hD hS (lv_sub hl [0, 1, 2, 3] rfl)
      · have hf := (if_neg h).symm.trans hf
        refine lv_aload_n hx hb dX1_putTower_42 rfl (lv_at hl 0 rfl) ?_
        refine va_get (D := D) (ci := 1) (v := .ref k2) (C := RX1) (T := TX1) (N := 7) hx hb hts inX1 hown hKK.1 hP 0 rfl rfl 4 (by decide) (hts _ q84) (fun _ h => h) rfl dX1_putTower_43 ?_
        refine lv_iload hx hb dX1_putTower_46 (lv_at hl 4 rfl) ?_
        refine lv_aload_n hx hb dX1_putTower_48 rfl (lv_at hl 0 rfl) ?_
        refine va_get (D := D) (ci := 1) (v := .ref k2) (C := RX1) (T := TX1) (N := 7) hx hb hts inX1 hown hKK.1 hP 0 rfl rfl 4 (by decide) (hts _ q84) (fun _ h => h) rfl dX1_putTower_49 ?_
        refine lv_iload hx hb dX1_putTower_52 (lv_at hl 4 rfl) ?_
        refine lv_iconst (v := 1) hx hb dX1_putTower_54 (by decide) ?_
        refine lv_isub hx hb dX1_putTower_55 ?_
        obtain ⟨hg3, hf⟩ := gd_some hf
        refine va_iald hx hb hKK.1 hP 2 0 rfl rfl (inb_in hg3) dX1_putTower_56 ?_
        obtain ⟨hg4, hf⟩ := gd_some hf
        refine va_iast hx hb hKK.1 hP hD hS 2 0 rfl rfl (inb_in hg4) dX1_putTower_57 (fun H locs hP hD hS => ?_)
        have hP : va_P D vwCl (wL cy k0 k1 k2 k3 k4 (L_36.1, L_36.2.1, L_36.2.2.1, L_36.2.2.2.1, (upd L_36.2.2.2.2.1 v4_36.toNatClampNeg (L_36.2.2.2.2.1 (v4_36 - (1 : Int32)).toNatClampNeg)), L_36.2.2.2.2.2.1, L_36.2.2.2.2.2.2)) H := hP
        have hD : va_D (adr (wL cy k0 k1 k2 k3 k4 L)) (wL cy k0 k1 k2 k3 k4 (L_36.1, L_36.2.1, L_36.2.2.1, L_36.2.2.2.1, (upd L_36.2.2.2.2.1 v4_36.toNatClampNeg (L_36.2.2.2.2.1 (v4_36 - (1 : Int32)).toNatClampNeg)), L_36.2.2.2.2.2.1, L_36.2.2.2.2.2.2)) := hD
        refine lv_aload_n hx hb dX1_putTower_58 rfl (lv_at hl 0 rfl) ?_
        refine va_get (D := D) (ci := 1) (v := .ref k3) (C := RX1) (T := TX1) (N := 7) hx hb hts inX1 hown hKK.1 hP 0 rfl rfl 5 (by decide) (hts _ q86) (fun _ h => h) rfl dX1_putTower_59 ?_
        refine lv_iload hx hb dX1_putTower_62 (lv_at hl 4 rfl) ?_
        refine lv_aload_n hx hb dX1_putTower_64 rfl (lv_at hl 0 rfl) ?_
        refine va_get (D := D) (ci := 1) (v := .ref k3) (C := RX1) (T := TX1) (N := 7) hx hb hts inX1 hown hKK.1 hP 0 rfl rfl 5 (by decide) (hts _ q86) (fun _ h => h) rfl dX1_putTower_65 ?_
        refine lv_iload hx hb dX1_putTower_68 (lv_at hl 4 rfl) ?_
        refine lv_iconst (v := 1) hx hb dX1_putTower_70 (by decide) ?_
        refine lv_isub hx hb dX1_putTower_71 ?_
        obtain ⟨hg5, hf⟩ := gd_some hf
        refine va_iald hx hb hKK.1 hP 3 0 rfl rfl (inb_in hg5) dX1_putTower_72 ?_
        obtain ⟨hg6, hf⟩ := gd_some hf
        refine va_iast hx hb hKK.1 hP hD hS 3 0 rfl rfl (inb_in hg6) dX1_putTower_73 (fun H locs hP hD hS => ?_)
        have hP : va_P D vwCl (wL cy k0 k1 k2 k3 k4 (L_36.1, L_36.2.1, L_36.2.2.1, L_36.2.2.2.1, (upd L_36.2.2.2.2.1 v4_36.toNatClampNeg (L_36.2.2.2.2.1 (v4_36 - (1 : Int32)).toNatClampNeg)), (upd L_36.2.2.2.2.2.1 v4_36.toNatClampNeg (L_36.2.2.2.2.2.1 (v4_36 - (1 : Int32)).toNatClampNeg)), L_36.2.2.2.2.2.2)) H := hP
        have hD : va_D (adr (wL cy k0 k1 k2 k3 k4 L)) (wL cy k0 k1 k2 k3 k4 (L_36.1, L_36.2.1, L_36.2.2.1, L_36.2.2.2.1, (upd L_36.2.2.2.2.1 v4_36.toNatClampNeg (L_36.2.2.2.2.1 (v4_36 - (1 : Int32)).toNatClampNeg)), (upd L_36.2.2.2.2.2.1 v4_36.toNatClampNeg (L_36.2.2.2.2.2.1 (v4_36 - (1 : Int32)).toNatClampNeg)), L_36.2.2.2.2.2.2)) := hD
        obtain ⟨x7, ex7, hf⟩ := nm_ex hf
        refine lv_iinc (v := x7) (lv' := [(4, .int x7), (0, .ref k0), (1, .int g1_36), (2, .int g2_36), (3, .int g3_36)]) hx hb dX1_putTower_74 hl (k := 4) rfl (Eq.trans rfl ex7) (by decide) rfl (fun ls hl => ?_)
        refine lv_goto (tgt := 36) hx hb dX1_putTower_77 (by decide) ?_
        exact ih x7 (L_36.1, L_36.2.1, L_36.2.2.1, L_36.2.2.2.1, (upd L_36.2.2.2.2.1 v4_36.toNatClampNeg (L_36.2.2.2.2.1 (v4_36 - (1 : Int32)).toNatClampNeg)), (upd L_36.2.2.2.2.2.1 v4_36.toNatClampNeg (L_36.2.2.2.2.2.1 (v4_36 - (1 : Int32)).toNatClampNeg)), L_36.2.2.2.2.2.2) _ _ ls hf hP hD hS (lv_sub hl [1, 2, 3, 4, 0] rfl)
  unfold fX1_putTower at hf
  refine lv_aload_n hx hb dX1_putTower_0 rfl (lv_at hl 0 rfl) ?_
  refine lv_iload_n hx hb dX1_putTower_1 rfl (lv_at hl 2 rfl) ?_
  obtain ⟨r2, hc1, hf⟩ := bd_some hf
  refine pCallVI ⟨hx, hb, hml, hown, hts⟩ (mtX1_hasCell l D cy z k0 k1 k2 k3 k4 L u2 r2 hc1) miX1_hasCell q243 ⟨Nat.le_of_ble_eq_true rfl, Nat.le_of_ble_eq_true rfl⟩ ⟨rfl, rfl⟩ hP hKK hS hA0 (va_recv hKK.1 hP (ci := 1) (q0 := 0) rfl rfl) rfl hl.1 rfl (Nat.le_of_ble_eq_true rfl) dX1_putTower_2 ⟨Nat.zero_le _, Nat.zero_le _⟩ ?_
  refine lv_if_eq (tgt := 28) hx hb dX1_putTower_5 (by decide) (fun h => ?_) (fun h => ?_)
  · have hf := (if_pos h).symm.trans hf
    refine lv_iconst (v := 0) hx hb dX1_putTower_28 (by decide) ?_
    cases hf
    exact mretZ hx hb hr hlk (by decide) hP hS dX1_putTower_29
  · have hf := (if_neg h).symm.trans hf
    refine lv_aload_n hx hb dX1_putTower_8 rfl (lv_at hl 0 rfl) ?_
    refine va_get (D := D) (ci := 1) (v := .int L.2.2.1) (C := RX1) (T := TX1) (N := 7) hx hb hts inX1 hown hKK.1 hP 0 rfl rfl 2 (by decide) (hts _ q80) (fun _ h => h) rfl dX1_putTower_9 ?_
    refine lv_iconst (v := 5) hx hb dX1_putTower_12 (by decide) ?_
    refine lv_icmp_ge (tgt := 28) hx hb dX1_putTower_13 (by decide) (fun h => ?_) (fun h => ?_)
    · have hf := (if_pos h).symm.trans hf
      refine lv_iconst (v := 0) hx hb dX1_putTower_28 (by decide) ?_
      cases hf
      exact mretZ hx hb hr hlk (by decide) hP hS dX1_putTower_29
    · have hf := (if_neg h).symm.trans hf
      refine lv_iload_n hx hb dX1_putTower_16 rfl (lv_at hl 1 rfl) ?_
      refine lv_if_lt (tgt := 28) hx hb dX1_putTower_17 (by decide) (fun h => ?_) (fun h => ?_)
      · have hf := (if_pos h).symm.trans hf
        refine lv_iconst (v := 0) hx hb dX1_putTower_28 (by decide) ?_
        cases hf
        exact mretZ hx hb hr hlk (by decide) hP hS dX1_putTower_29
      · have hf := (if_neg h).symm.trans hf
        refine lv_iload_n hx hb dX1_putTower_20 rfl (lv_at hl 1 rfl) ?_
        refine lv_aload_n hx hb dX1_putTower_21 rfl (lv_at hl 0 rfl) ?_
        refine va_get (D := D) (ci := 1) (v := .int L.2.2.1) (C := RX1) (T := TX1) (N := 7) hx hb hts inX1 hown hKK.1 hP 0 rfl rfl 2 (by decide) (hts _ q80) (fun _ h => h) rfl dX1_putTower_22 ?_
        refine lv_icmp_le (tgt := 30) hx hb dX1_putTower_25 (by decide) (fun h => ?_) (fun h => ?_)
        · have hf := (if_pos h).symm.trans hf
          refine lv_aload_n hx hb dX1_putTower_30 rfl (lv_at hl 0 rfl) ?_
          refine va_get (D := D) (ci := 1) (v := .int L.2.2.1) (C := RX1) (T := TX1) (N := 7) hx hb hts inX1 hown hKK.1 hP 0 rfl rfl 2 (by decide) (hts _ q80) (fun _ h => h) rfl dX1_putTower_31 ?_
          refine lv_istore (lv' := [(4, .int L.2.2.1), (0, .ref k0), (1, .int u1), (2, .int u2), (3, .int u3)]) hx hb dX1_putTower_34 hl (by decide) rfl (fun ls hl => ?_)
          refine w_36 u1 u2 u3 _ ?_ _ L.2.2.1 L _ _ ls hf hP hD hS (lv_sub hl [1, 2, 3, 4, 0] rfl)
          · intro L8 H locs ls hf hP hD hS hl
            refine lv_aload_n hx hb dX1_putTower_80 rfl (lv_at hl 0 rfl) ?_
            refine va_get (D := D) (ci := 1) (v := .ref k2) (C := RX1) (T := TX1) (N := 7) hx hb hts inX1 hown hKK.1 hP 0 rfl rfl 4 (by decide) (hts _ q84) (fun _ h => h) rfl dX1_putTower_81 ?_
            refine lv_iload_n hx hb dX1_putTower_84 rfl (lv_at hl 1 rfl) ?_
            refine lv_iload_n hx hb dX1_putTower_85 rfl (lv_at hl 2 rfl) ?_
            obtain ⟨hg9, hf⟩ := gd_some hf
            refine va_iast hx hb hKK.1 hP hD hS 2 0 rfl rfl (inb_in hg9) dX1_putTower_86 (fun H locs hP hD hS => ?_)
            have hP : va_P D vwCl (wL cy k0 k1 k2 k3 k4 (L8.1, L8.2.1, L8.2.2.1, L8.2.2.2.1, (upd L8.2.2.2.2.1 u1.toNatClampNeg u2), L8.2.2.2.2.2.1, L8.2.2.2.2.2.2)) H := hP
            have hD : va_D (adr (wL cy k0 k1 k2 k3 k4 L)) (wL cy k0 k1 k2 k3 k4 (L8.1, L8.2.1, L8.2.2.1, L8.2.2.2.1, (upd L8.2.2.2.2.1 u1.toNatClampNeg u2), L8.2.2.2.2.2.1, L8.2.2.2.2.2.2)) := hD
            refine lv_aload_n hx hb dX1_putTower_87 rfl (lv_at hl 0 rfl) ?_
            refine va_get (D := D) (ci := 1) (v := .ref k3) (C := RX1) (T := TX1) (N := 7) hx hb hts inX1 hown hKK.1 hP 0 rfl rfl 5 (by decide) (hts _ q86) (fun _ h => h) rfl dX1_putTower_88 ?_
            refine lv_iload_n hx hb dX1_putTower_91 rfl (lv_at hl 1 rfl) ?_
            refine lv_iload_n hx hb dX1_putTower_92 rfl (lv_at hl 3 rfl) ?_
            obtain ⟨hg10, hf⟩ := gd_some hf
            refine va_iast hx hb hKK.1 hP hD hS 3 0 rfl rfl (inb_in hg10) dX1_putTower_93 (fun H locs hP hD hS => ?_)
            have hP : va_P D vwCl (wL cy k0 k1 k2 k3 k4 (L8.1, L8.2.1, L8.2.2.1, L8.2.2.2.1, (upd L8.2.2.2.2.1 u1.toNatClampNeg u2), (upd L8.2.2.2.2.2.1 u1.toNatClampNeg u3), L8.2.2.2.2.2.2)) H := hP
            have hD : va_D (adr (wL cy k0 k1 k2 k3 k4 L)) (wL cy k0 k1 k2 k3 k4 (L8.1, L8.2.1, L8.2.2.1, L8.2.2.2.1, (upd L8.2.2.2.2.1 u1.toNatClampNeg u2), (upd L8.2.2.2.2.2.1 u1.toNatClampNeg u3), L8.2.2.2.2.2.2)) := hD
            refine lv_aload_n hx hb dX1_putTower_94 rfl (lv_at hl 0 rfl) ?_
            refine lv_dup hx hb dX1_putTower_95 rfl ?_
            refine va_get (D := D) (ci := 1) (v := .int L8.2.2.1) (C := RX1) (T := TX1) (N := 7) hx hb hts inX1 hown hKK.1 hP 0 rfl rfl 2 (by decide) (hts _ q80) (fun _ h => h) rfl dX1_putTower_96 ?_
            refine lv_iconst (v := 1) hx hb dX1_putTower_99 (by decide) ?_
            refine lv_iadd hx hb dX1_putTower_100 ?_
            refine nm_i hf (fun x11 hf => ?_)
            refine va_put (D := D) (ci := 1) (v := .int x11) (ty := .int) (C := RX1) (T := TX1) (N := 7) hx hb hts inX1 tyX1 tyX1_ok nmX1 hown hKK.1 hP hD hS 0 rfl rfl 2 (by decide) (hts _ q80) (fun _ h => h) rfl (by decide +kernel) rfl rfl (Nat.le_of_ble_eq_true rfl) dX1_putTower_101 (fun H locs hP hD hS => ?_)
            have hP : va_P D vwCl (wL cy k0 k1 k2 k3 k4 (L8.1, L8.2.1, x11, L8.2.2.2.1, (upd L8.2.2.2.2.1 u1.toNatClampNeg u2), (upd L8.2.2.2.2.2.1 u1.toNatClampNeg u3), L8.2.2.2.2.2.2)) H := hP
            have hD : va_D (adr (wL cy k0 k1 k2 k3 k4 L)) (wL cy k0 k1 k2 k3 k4 (L8.1, L8.2.1, x11, L8.2.2.2.1, (upd L8.2.2.2.2.1 u1.toNatClampNeg u2), (upd L8.2.2.2.2.2.1 u1.toNatClampNeg u3), L8.2.2.2.2.2.2)) := hD
            refine lv_iconst (v := 1) hx hb dX1_putTower_104 (by decide) ?_
            cases hf
            exact mretZ hx hb hr hlk (by decide) hP hS dX1_putTower_105
        · have hf := (if_neg h).symm.trans hf
          refine lv_iconst (v := 0) hx hb dX1_putTower_28 (by decide) ?_
          cases hf
          exact mretZ hx hb hr hlk (by decide) hP hS dX1_putTower_29

abbrev rmX1_dropTower : Room := { frames := 1, cells := 0, slots := 0, locals := 21 }
theorem miX1_dropTower : miV yX1_dropTower cX1_dropTower 3 (some .boolean) 1 := ⟨q502, q41, q500, q501, by decide +kernel⟩
set_option maxHeartbeats 4000000 in
set_option maxRecDepth 100000 in
theorem mtX1_dropTower (l : Launch) (D : va_G) (cy : Nat → ClassId) (z : zT) (k0 k1 k2 k3 k4 : Nat) (L : tL) (u1 : Int32) (r0 : Int32) (L0 : tL) (hf : fX1_dropTower L u1 = some (r0, L0)) : mmet l yX1_dropTower cX1_dropTower 3 (some .boolean) rmX1_dropTower D cy z (wL cy k0 k1 k2 k3 k4 L) (wL cy k0 k1 k2 k3 k4 L0) [.ref k0, .int u1] (some (.int r0)) := by
  refine mmet_of (by decide +kernel) (Nat.le_of_ble_eq_true rfl) (fun p e s m below meth c hx hb hr hml hown hts hlk hP hD hS hA0 hKK ls hl => ?_)
  have hown : s.vm.findClass "HillSight$Land" = some m.cls := hown
  have hl : lv_has ls 3 [(0, .ref k0), (1, .int u1)] := hl
  have w_14 : ∀ (k61 : tL → Option (Int32 × tL)) (hk61 : ∀ (L_14 : tL) (H : Heap) (locs : List Loc) (ls : Array Slot), k61 L_14 = some (r0, L0) → va_P D vwCl (wL cy k0 k1 k2 k3 k4 L_14) H → va_D (adr (wL cy k0 k1 k2 k3 k4 L)) (wL cy k0 k1 k2 k3 k4 L_14) → va_S (adr (wL cy k0 k1 k2 k3 k4 L)) s.heap H locs → lv_has ls 3 [(0, .ref k0)] → W p l e rmX1_dropTower s m ([.ref k0, .int u1] : List Value).toArray below meth c H locs 0 0 (MQ below (mQ D (wL cy k0 k1 k2 k3 k4 L) (wL cy k0 k1 k2 k3 k4 L0) (some (.int r0))) ([.ref k0, .int u1] : List Value).toArray s 0 0 (adr (wL cy k0 k1 k2 k3 k4 L))) (F0 m 61 ls [])) (n : Nat) (v2_14 : Int32) (L_14 : tL) (H : Heap) (locs : List Loc) (ls : Array Slot), fX1_dropTower_14 k61 n v2_14 L_14 = some (r0, L0) → va_P D vwCl (wL cy k0 k1 k2 k3 k4 L_14) H → va_D (adr (wL cy k0 k1 k2 k3 k4 L)) (wL cy k0 k1 k2 k3 k4 L_14) → va_S (adr (wL cy k0 k1 k2 k3 k4 L)) s.heap H locs → lv_has ls 3 [(0, .ref k0), (2, .int v2_14)] → W p l e rmX1_dropTower s m ([.ref k0, .int u1] : List Value).toArray below meth c H locs 0 0 (MQ below (mQ D (wL cy k0 k1 k2 k3 k4 L) (wL cy k0 k1 k2 k3 k4 L0) (some (.int r0))) ([.ref k0, .int u1] : List Value).toArray s 0 0 (adr (wL cy k0 k1 k2 k3 k4 L))) (F0 m 14 ls []) := by
    intro k61 hk61 n
    induction n with
    | zero =>
      intro v2_14 L_14 H locs ls hf hP hD hS hl
      cases (show (none : Option (Int32 × tL)) = some (r0, L0) from hf)
    | succ n ih =>
      intro v2_14 L_14 H locs ls hf hP hD hS hl
      rw [fX1_dropTower_14] at hf
      refine lv_iload_n hx hb dX1_dropTower_14 rfl (lv_at hl 1 rfl) ?_
      refine lv_aload_n hx hb dX1_dropTower_15 rfl (lv_at hl 0 rfl) ?_
      refine va_get (D := D) (ci := 1) (v := .int L_14.2.2.1) (C := RX1) (T := TX1) (N := 7) hx hb hts inX1 hown hKK.1 hP 0 rfl rfl 2 (by decide) (hts _ q80) (fun _ h => h) rfl dX1_dropTower_16 ?_
      refine lv_icmp_ge (tgt := 61) hx hb dX1_dropTower_19 (by decide) (fun h => ?_) (fun h => ?_)
      · have hf := (if_pos h).symm.trans hf
        exact hk61 L_14 _ _ ls hf hP hD hS (lv_sub hl [0] rfl)
      · have hf := (if_neg h).symm.trans hf
        refine lv_iload_n hx hb dX1_dropTower_22 rfl (lv_at hl 1 rfl) ?_
        refine lv_iconst (v := 5) hx hb dX1_dropTower_23 (by decide) ?_
        refine lv_icmp_ge (tgt := 61) hx hb dX1_dropTower_24 (by decide) (fun h => ?_) (fun h => ?_)
        · have hf := (if_pos h).symm.trans hf
          exact hk61 L_14 _ _ ls hf hP hD hS (lv_sub hl [0] rfl)
        · have hf := (if_neg h).symm.trans hf
          refine lv_aload_n hx hb dX1_dropTower_27 rfl (lv_at hl 0 rfl) ?_
          refine va_get (D := D) (ci := 1) (v := .ref k2) (C := RX1) (T := TX1) (N := 7) hx hb hts inX1 hown hKK.1 hP 0 rfl rfl 4 (by decide) (hts _ q84) (fun _ h => h) rfl dX1_dropTower_28 ?_
          refine lv_iload_n hx hb dX1_dropTower_31 rfl (lv_at hl 1 rfl) ?_
          refine lv_iconst (v := 1) hx hb dX1_dropTower_32 (by decide) ?_
          refine lv_isub hx hb dX1_dropTower_33 ?_
          refine lv_aload_n hx hb dX1_dropTower_34 rfl (lv_at hl 0 rfl) ?_
          refine va_get (D := D) (ci := 1) (v := .ref k2) (C := RX1) (T := TX1) (N := 7) hx hb hts inX1 hown hKK.1 hP 0 rfl rfl 4 (by decide) (hts _ q84) (fun _ h => h) rfl dX1_dropTower_35 ?_
          refine lv_iload_n hx hb dX1_dropTower_38 rfl (lv_at hl 1 rfl) ?_
          obtain ⟨hg4, hf⟩ := gd_some hf
          refine va_iald hx hb hKK.1 hP 2 0 rfl rfl (inb_in hg4) dX1_dropTower_39 ?_
          obtain ⟨hg5, hf⟩ := gd_some hf
          refine va_iast hx hb hKK.1 hP hD hS 2 0 rfl rfl (inb_in hg5) dX1_dropTower_40 (fun H locs hP hD hS => ?_)
          have hP : va_P D vwCl (wL cy k0 k1 k2 k3 k4 (L_14.1, L_14.2.1, L_14.2.2.1, L_14.2.2.2.1, (upd L_14.2.2.2.2.1 (v2_14 - (1 : Int32)).toNatClampNeg (L_14.2.2.2.2.1 v2_14.toNatClampNeg)), L_14.2.2.2.2.2.1, L_14.2.2.2.2.2.2)) H := hP
          have hD : va_D (adr (wL cy k0 k1 k2 k3 k4 L)) (wL cy k0 k1 k2 k3 k4 (L_14.1, L_14.2.1, L_14.2.2.1, L_14.2.2.2.1, (upd L_14.2.2.2.2.1 (v2_14 - (1 : Int32)).toNatClampNeg (L_14.2.2.2.2.1 v2_14.toNatClampNeg)), L_14.2.2.2.2.2.1, L_14.2.2.2.2.2.2)) := hD
          refine lv_aload_n hx hb dX1_dropTower_41 rfl (lv_at hl 0 rfl) ?_
          refine va_get (D := D) (ci := 1) (v := .ref k3) (C := RX1) (T := TX1) (N := 7) hx hb hts inX1 hown hKK.1 hP 0 rfl rfl 5 (by decide) (hts _ q86) (fun _ h => h) rfl dX1_dropTower_42 ?_
          refine lv_iload_n hx hb dX1_dropTower_45 rfl (lv_at hl 1 rfl) ?_
          refine lv_iconst (v := 1) hx hb dX1_dropTower_46 (by decide) ?_
          refine lv_isub hx hb dX1_dropTower_47 ?_
          refine lv_aload_n hx hb dX1_dropTower_48 rfl (lv_at hl 0 rfl) ?_
          refine va_get (D := D) (ci := 1) (v := .ref k3) (C := RX1) (T := TX1) (N := 7) hx hb hts inX1 hown hKK.1 hP 0 rfl rfl 5 (by decide) (hts _ q86) (fun _ h => h) rfl dX1_dropTower_49 ?_
          refine lv_iload_n hx hb dX1_dropTower_52 rfl (lv_at hl 1 rfl) ?_
          obtain ⟨hg6, hf⟩ := gd_some hf
          refine va_iald hx hb hKK.1 hP 3 0 rfl rfl (inb_in hg6) dX1_dropTower_53 ?_
          obtain ⟨hg7, hf⟩ := gd_some hf
          refine va_iast hx hb hKK.1 hP hD hS 3 0 rfl rfl (inb_in hg7) dX1_dropTower_54 (fun H locs hP hD hS => ?_)
          have hP : va_P D vwCl (wL cy k0 k1 k2 k3 k4 (L_14.1, L_14.2.1, L_14.2.2.1, L_14.2.2.2.1, (upd L_14.2.2.2.2.1 (v2_14 - (1 : Int32)).toNatClampNeg (L_14.2.2.2.2.1 v2_14.toNatClampNeg)), (upd L_14.2.2.2.2.2.1 (v2_14 - (1 : Int32)).toNatClampNeg (L_14.2.2.2.2.2.1 v2_14.toNatClampNeg)), L_14.2.2.2.2.2.2)) H := hP
          have hD : va_D (adr (wL cy k0 k1 k2 k3 k4 L)) (wL cy k0 k1 k2 k3 k4 (L_14.1, L_14.2.1, L_14.2.2.1, L_14.2.2.2.1, (upd L_14.2.2.2.2.1 (v2_14 - (1 : Int32)).toNatClampNeg (L_14.2.2.2.2.1 v2_14.toNatClampNeg)), (upd L_14.2.2.2.2.2.1 (v2_14 - (1 : Int32)).toNatClampNeg (L_14.2.2.2.2.2.1 v2_14.toNatClampNeg)), L_14.2.2.2.2.2.2)) := hD
          obtain ⟨x8, ex8, hf⟩ := nm_ex hf
          refine lv_iinc (v := x8) (lv' := [(2, .int x8), (0, .ref k0)]) hx hb dX1_dropTower_55 hl (k := 1) rfl (Eq.trans rfl ex8) (by decide) rfl (fun ls hl => ?_)
          refine lv_goto (tgt := 14) hx hb dX1_dropTower_58 (by decide) ?_
          exact ih x8 (L_14.1, L_14.2.1, L_14.2.2.1, L_14.2.2.2.1, (upd L_14.2.2.2.2.1 (v2_14 - (1 : Int32)).toNatClampNeg (L_14.2.2.2.2.1 v2_14.toNatClampNeg)), (upd L_14.2.2.2.2.2.1 (v2_14 - (1 : Int32)).toNatClampNeg (L_14.2.2.2.2.2.1 v2_14.toNatClampNeg)), L_14.2.2.2.2.2.2) _ _ ls hf hP hD hS (lv_sub hl [1, 0] rfl)
  unfold fX1_dropTower at hf
  refine lv_aload_n hx hb dX1_dropTower_0 rfl (lv_at hl 0 rfl) ?_
  refine lv_iload_n hx hb dX1_dropTower_1 rfl (lv_at hl 1 rfl) ?_
  obtain ⟨r2, hc1, hf⟩ := bd_some hf
  refine pCallVI ⟨hx, hb, hml, hown, hts⟩ (mtX1_hasTower l D cy z k0 k1 k2 k3 k4 L u1 r2 hc1) miX1_hasTower q468 ⟨Nat.le_of_ble_eq_true rfl, Nat.le_of_ble_eq_true rfl⟩ ⟨rfl, rfl⟩ hP hKK hS hA0 (va_recv hKK.1 hP (ci := 1) (q0 := 0) rfl rfl) rfl hl.1 rfl (Nat.le_of_ble_eq_true rfl) dX1_dropTower_2 ⟨Nat.zero_le _, Nat.zero_le _⟩ ?_
  refine lv_if_ne (tgt := 10) hx hb dX1_dropTower_5 (by decide) (fun h => ?_) (fun h => ?_)
  · have hf := (if_neg h).symm.trans hf
    refine lv_iload_n hx hb dX1_dropTower_10 rfl (lv_at hl 1 rfl) ?_
    refine lv_iconst (v := 1) hx hb dX1_dropTower_11 (by decide) ?_
    refine lv_iadd hx hb dX1_dropTower_12 ?_
    refine nm_i hf (fun x3 hf => ?_)
    refine lv_istore_n (lv' := [(2, .int x3), (0, .ref k0), (1, .int u1)]) hx hb dX1_dropTower_13 rfl hl (by decide) rfl (fun ls hl => ?_)
    refine w_14 _ ?_ _ x3 L _ _ ls hf hP hD hS (lv_sub hl [1, 0] rfl)
    · intro L9 H locs ls hf hP hD hS hl
      refine lv_aload_n hx hb dX1_dropTower_61 rfl (lv_at hl 0 rfl) ?_
      refine lv_dup hx hb dX1_dropTower_62 rfl ?_
      refine va_get (D := D) (ci := 1) (v := .int L9.2.2.1) (C := RX1) (T := TX1) (N := 7) hx hb hts inX1 hown hKK.1 hP 0 rfl rfl 2 (by decide) (hts _ q80) (fun _ h => h) rfl dX1_dropTower_63 ?_
      refine lv_iconst (v := 1) hx hb dX1_dropTower_66 (by decide) ?_
      refine lv_isub hx hb dX1_dropTower_67 ?_
      refine nm_i hf (fun x10 hf => ?_)
      refine va_put (D := D) (ci := 1) (v := .int x10) (ty := .int) (C := RX1) (T := TX1) (N := 7) hx hb hts inX1 tyX1 tyX1_ok nmX1 hown hKK.1 hP hD hS 0 rfl rfl 2 (by decide) (hts _ q80) (fun _ h => h) rfl (by decide +kernel) rfl rfl (Nat.le_of_ble_eq_true rfl) dX1_dropTower_68 (fun H locs hP hD hS => ?_)
      have hP : va_P D vwCl (wL cy k0 k1 k2 k3 k4 (L9.1, L9.2.1, x10, L9.2.2.2.1, L9.2.2.2.2.1, L9.2.2.2.2.2.1, L9.2.2.2.2.2.2)) H := hP
      have hD : va_D (adr (wL cy k0 k1 k2 k3 k4 L)) (wL cy k0 k1 k2 k3 k4 (L9.1, L9.2.1, x10, L9.2.2.2.1, L9.2.2.2.2.1, L9.2.2.2.2.2.1, L9.2.2.2.2.2.2)) := hD
      refine lv_iconst (v := 1) hx hb dX1_dropTower_71 (by decide) ?_
      cases hf
      exact mretZ hx hb hr hlk (by decide) hP hS dX1_dropTower_72
  · have hf := (if_pos h).symm.trans hf
    refine lv_iconst (v := 0) hx hb dX1_dropTower_8 (by decide) ?_
    cases hf
    exact mretZ hx hb hr hlk (by decide) hP hS dX1_dropTower_9

abbrev rmX1_putSetting : Room := { frames := 2, cells := 0, slots := 0, locals := 41 }
theorem miX1_putSetting : miV yX1_putSetting cX1_putSetting 3 (some .boolean) 2 := ⟨q357, q41, q355, q356, by decide +kernel⟩
set_option maxHeartbeats 4000000 in
set_option maxRecDepth 100000 in
theorem mtX1_putSetting (l : Launch) (D : va_G) (cy : Nat → ClassId) (z : zT) (k0 k1 k2 k3 k4 : Nat) (L : tL) (u1 : Int32) (u2 : Int32) (r0 : Int32) (L0 : tL) (hf : fX1_putSetting L u1 u2 = some (r0, L0)) : mmet l yX1_putSetting cX1_putSetting 3 (some .boolean) rmX1_putSetting D cy z (wL cy k0 k1 k2 k3 k4 L) (wL cy k0 k1 k2 k3 k4 L0) [.ref k0, .int u1, .int u2] (some (.int r0)) := by
  refine mmet_of (by decide +kernel) (Nat.le_of_ble_eq_true rfl) (fun p e s m below meth c hx hb hr hml hown hts hlk hP hD hS hA0 hKK ls hl => ?_)
  have hown : s.vm.findClass "HillSight$Land" = some m.cls := hown
  have hl : lv_has ls 3 [(0, .ref k0), (1, .int u1), (2, .int u2)] := hl
  unfold fX1_putSetting at hf
  refine lv_iload_n hx hb dX1_putSetting_0 rfl (lv_at hl 1 rfl) ?_
  refine lv_iload_n hx hb dX1_putSetting_1 rfl (lv_at hl 2 rfl) ?_
  obtain ⟨r2, hc1, hf⟩ := bd_some hf
  have hP1 := hP.sub (ws' := []) [] rfl
  refine pCallSNI ⟨hx, hb, hml, hown, hts⟩ (mtX4_isSetting l D cy z u1 u2 r2 hc1) miX4_isSetting hKK.2.1.2.1 ⟨Nat.le_of_ble_eq_true rfl, Nat.le_of_ble_eq_true rfl⟩ ⟨rfl, rfl⟩ hP1 hKK hS hA0 rfl hl.1 rfl (Nat.le_of_ble_eq_true rfl) dX1_putSetting_2 ⟨Nat.zero_le _, Nat.zero_le _⟩ ?_
  refine lv_if_ne (tgt := 10) hx hb dX1_putSetting_5 (by decide) (fun h => ?_) (fun h => ?_)
  · have hf := (if_neg h).symm.trans hf
    refine lv_aload_n hx hb dX1_putSetting_10 rfl (lv_at hl 0 rfl) ?_
    refine va_get (D := D) (ci := 1) (v := .ref k4) (C := RX1) (T := TX1) (N := 7) hx hb hts inX1 hown hKK.1 hP 0 rfl rfl 6 (by decide) (hts _ q88) (fun _ h => h) rfl dX1_putSetting_11 ?_
    refine lv_iload_n hx hb dX1_putSetting_14 rfl (lv_at hl 1 rfl) ?_
    refine lv_iload_n hx hb dX1_putSetting_15 rfl (lv_at hl 2 rfl) ?_
    obtain ⟨hg3, hf⟩ := gd_some hf
    refine va_iast hx hb hKK.1 hP hD hS 4 0 rfl rfl (inb_in hg3) dX1_putSetting_16 (fun H locs hP hD hS => ?_)
    have hP : va_P D vwCl (wL cy k0 k1 k2 k3 k4 (L.1, L.2.1, L.2.2.1, L.2.2.2.1, L.2.2.2.2.1, L.2.2.2.2.2.1, (upd L.2.2.2.2.2.2 u1.toNatClampNeg u2))) H := hP
    have hD : va_D (adr (wL cy k0 k1 k2 k3 k4 L)) (wL cy k0 k1 k2 k3 k4 (L.1, L.2.1, L.2.2.1, L.2.2.2.1, L.2.2.2.2.1, L.2.2.2.2.2.1, (upd L.2.2.2.2.2.2 u1.toNatClampNeg u2))) := hD
    refine lv_iconst (v := 1) hx hb dX1_putSetting_17 (by decide) ?_
    cases hf
    exact mretZ hx hb hr hlk (by decide) hP hS dX1_putSetting_18
  · have hf := (if_pos h).symm.trans hf
    refine lv_iconst (v := 0) hx hb dX1_putSetting_8 (by decide) ?_
    cases hf
    exact mretZ hx hb hr hlk (by decide) hP hS dX1_putSetting_9

abbrev rmX1_distance : Room := { frames := 1, cells := 0, slots := 0, locals := 21 }
theorem miX1_distance : miV yX1_distance cX1_distance 5 (some .int) 2 := ⟨q394, q41, q392, q393, by decide +kernel⟩
set_option maxHeartbeats 4000000 in
set_option maxRecDepth 100000 in
theorem mtX1_distance (l : Launch) (D : va_G) (cy : Nat → ClassId) (z : zT) (k0 k1 k2 k3 k4 : Nat) (L : tL) (u1 : Int32) (u2 : Int32) (r0 : Int32) (hf : fX1_distance L u1 u2 = some r0) : pmet l yX1_distance cX1_distance 5 (some .int) rmX1_distance D cy z (wL cy k0 k1 k2 k3 k4 L) [.ref k0, .int u1, .int u2] (some (.int r0)) := by
  refine pmet_of (by decide +kernel) (Nat.le_of_ble_eq_true rfl) (fun p e s m below meth c hx hb hr hml hown hts hlk hP hKK ls hl => ?_)
  have hS : va_S noF s.heap s.heap [] := va_S.rf
  have hA0 : ∀ q, noF q → zA z q := fun _ h => h.elim
  have hown : s.vm.findClass "HillSight$Land" = some m.cls := hown
  have hl : lv_has ls 5 [(0, .ref k0), (1, .int u1), (2, .int u2)] := hl
  unfold fX1_distance at hf
  refine lv_aload_n hx hb dX1_distance_0 rfl (lv_at hl 0 rfl) ?_
  refine lv_iload_n hx hb dX1_distance_1 rfl (lv_at hl 1 rfl) ?_
  obtain ⟨r2, hc1, hf⟩ := bd_some hf
  refine pCallVI ⟨hx, hb, hml, hown, hts⟩ (mtX1_columnOf l D cy z k0 k1 k2 k3 k4 L u1 r2 hc1) miX1_columnOf q395 ⟨Nat.le_of_ble_eq_true rfl, Nat.le_of_ble_eq_true rfl⟩ ⟨rfl, rfl⟩ hP hKK hS hA0 (va_recv hKK.1 hP (ci := 1) (q0 := 0) rfl rfl) rfl hl.1 rfl (Nat.le_of_ble_eq_true rfl) dX1_distance_2 ⟨Nat.zero_le _, Nat.zero_le _⟩ ?_
  refine lv_aload_n hx hb dX1_distance_5 rfl (lv_at hl 0 rfl) ?_
  refine lv_iload_n hx hb dX1_distance_6 rfl (lv_at hl 2 rfl) ?_
  obtain ⟨r4, hc3, hf⟩ := bd_some hf
  refine pCallVI ⟨hx, hb, hml, hown, hts⟩ (mtX1_columnOf l D cy z k0 k1 k2 k3 k4 L u2 r4 hc3) miX1_columnOf q395 ⟨Nat.le_of_ble_eq_true rfl, Nat.le_of_ble_eq_true rfl⟩ ⟨rfl, rfl⟩ hP hKK hS hA0 (va_recv hKK.1 hP (ci := 1) (q0 := 0) rfl rfl) rfl hl.1 rfl (Nat.le_of_ble_eq_true rfl) dX1_distance_7 ⟨Nat.zero_le _, Nat.zero_le _⟩ ?_
  refine lv_isub hx hb dX1_distance_10 ?_
  refine va_mabs hx hb (hml.trans hl.1.symm) hown (hts _ q399) (hts _ q400) (hts _ q47) (hts _ q401) (Nat.le_of_ble_eq_true rfl) (Nat.le_of_ble_eq_true rfl) (Nat.zero_le _) (Nat.zero_le _) dX1_distance_11 ?_
  refine nm_i hf (fun x5 hf => ?_)
  refine lv_istore_n (lv' := [(3, .int x5), (0, .ref k0), (1, .int u1), (2, .int u2)]) hx hb dX1_distance_14 rfl hl (by decide) rfl (fun ls hl => ?_)
  refine lv_aload_n hx hb dX1_distance_15 rfl (lv_at hl 1 rfl) ?_
  refine lv_iload_n hx hb dX1_distance_16 rfl (lv_at hl 2 rfl) ?_
  obtain ⟨r7, hc6, hf⟩ := bd_some hf
  refine pCallVI ⟨hx, hb, hml, hown, hts⟩ (mtX1_rowOf l D cy z k0 k1 k2 k3 k4 L u1 r7 hc6) miX1_rowOf q402 ⟨Nat.le_of_ble_eq_true rfl, Nat.le_of_ble_eq_true rfl⟩ ⟨rfl, rfl⟩ hP hKK hS hA0 (va_recv hKK.1 hP (ci := 1) (q0 := 0) rfl rfl) rfl hl.1 rfl (Nat.le_of_ble_eq_true rfl) dX1_distance_17 ⟨Nat.zero_le _, Nat.zero_le _⟩ ?_
  refine lv_aload_n hx hb dX1_distance_20 rfl (lv_at hl 1 rfl) ?_
  refine lv_iload_n hx hb dX1_distance_21 rfl (lv_at hl 3 rfl) ?_
  obtain ⟨r9, hc8, hf⟩ := bd_some hf
  refine pCallVI ⟨hx, hb, hml, hown, hts⟩ (mtX1_rowOf l D cy z k0 k1 k2 k3 k4 L u2 r9 hc8) miX1_rowOf q402 ⟨Nat.le_of_ble_eq_true rfl, Nat.le_of_ble_eq_true rfl⟩ ⟨rfl, rfl⟩ hP hKK hS hA0 (va_recv hKK.1 hP (ci := 1) (q0 := 0) rfl rfl) rfl hl.1 rfl (Nat.le_of_ble_eq_true rfl) dX1_distance_22 ⟨Nat.zero_le _, Nat.zero_le _⟩ ?_
  refine lv_isub hx hb dX1_distance_25 ?_
  refine va_mabs hx hb (hml.trans hl.1.symm) hown (hts _ q399) (hts _ q400) (hts _ q47) (hts _ q401) (Nat.le_of_ble_eq_true rfl) (Nat.le_of_ble_eq_true rfl) (Nat.zero_le _) (Nat.zero_le _) dX1_distance_26 ?_
  refine nm_i hf (fun x10 hf => ?_)
  refine lv_istore (lv' := [(4, .int x10), (3, .int x5), (0, .ref k0), (1, .int u1), (2, .int u2)]) hx hb dX1_distance_29 hl (by decide) rfl (fun ls hl => ?_)
  refine lv_iload_n hx hb dX1_distance_31 rfl (lv_at hl 1 rfl) ?_
  refine lv_iload hx hb dX1_distance_32 (lv_at hl 0 rfl) ?_
  refine va_mmax hx hb (hml.trans hl.1.symm) hown (hts _ q406) (hts _ q296) (hts _ q47) (hts _ q297) (Nat.le_of_ble_eq_true rfl) (Nat.le_of_ble_eq_true rfl) (Nat.zero_le _) (Nat.zero_le _) dX1_distance_34 ?_
  exact pretI hx hb hr hlk hf dX1_distance_37

abbrev rmX1_cellAtStep : Room := { frames := 0, cells := 0, slots := 0, locals := 0 }
theorem miX1_cellAtStep : miV yX1_cellAtStep cX1_cellAtStep 9 (some .int) 5 := ⟨q414, q41, q412, q413, by decide +kernel⟩
set_option maxHeartbeats 4000000 in
set_option maxRecDepth 100000 in
theorem mtX1_cellAtStep (l : Launch) (D : va_G) (cy : Nat → ClassId) (z : zT) (k0 k1 k2 k3 k4 : Nat) (L : tL) (u1 : Int32) (u2 : Int32) (u3 : Int32) (u4 : Int32) (u5 : Int32) (r0 : Int32) (hf : fX1_cellAtStep L u1 u2 u3 u4 u5 = some r0) : pmet l yX1_cellAtStep cX1_cellAtStep 9 (some .int) rmX1_cellAtStep D cy z (wL cy k0 k1 k2 k3 k4 L) [.ref k0, .int u1, .int u2, .int u3, .int u4, .int u5] (some (.int r0)) := by
  refine pmet_of (by decide +kernel) (Nat.le_of_ble_eq_true rfl) (fun p e s m below meth c hx hb hr hml hown hts hlk hP hKK ls hl => ?_)
  have hS : va_S noF s.heap s.heap [] := va_S.rf
  have hA0 : ∀ q, noF q → zA z q := fun _ h => h.elim
  have hown : s.vm.findClass "HillSight$Land" = some m.cls := hown
  have hl : lv_has ls 9 [(0, .ref k0), (1, .int u1), (2, .int u2), (3, .int u3), (4, .int u4), (5, .int u5)] := hl
  unfold fX1_cellAtStep at hf
  refine lv_iload_n hx hb dX1_cellAtStep_0 rfl (lv_at hl 3 rfl) ?_
  refine lv_iconst (v := 1) hx hb dX1_cellAtStep_1 (by decide) ?_
  refine lv_icmp_lt (tgt := 13) hx hb dX1_cellAtStep_2 (by decide) (fun h => ?_) (fun h => ?_)
  · have hf := (if_pos h).symm.trans hf
    refine lv_iload_n hx hb dX1_cellAtStep_13 rfl (lv_at hl 1 rfl) ?_
    exact pretI hx hb hr hlk hf dX1_cellAtStep_14
  · have hf := (if_neg h).symm.trans hf
    refine lv_aload_n hx hb dX1_cellAtStep_5 rfl (lv_at hl 0 rfl) ?_
    refine va_get (D := D) (ci := 1) (v := .int L.1) (C := RX1) (T := TX1) (N := 7) hx hb hts inX1 hown hKK.1 hP 0 rfl rfl 0 (by decide) (hts _ q76) (fun _ h => h) rfl dX1_cellAtStep_6 ?_
    refine lv_iconst (v := 1) hx hb dX1_cellAtStep_9 (by decide) ?_
    refine lv_icmp_ge (tgt := 15) hx hb dX1_cellAtStep_10 (by decide) (fun h => ?_) (fun h => ?_)
    · have hf := (if_pos h).symm.trans hf
      refine lv_iload_n hx hb dX1_cellAtStep_15 rfl (lv_at hl 3 rfl) ?_
      refine lv_iload hx hb dX1_cellAtStep_16 (lv_at hl 4 rfl) ?_
      refine lv_isub hx hb dX1_cellAtStep_18 ?_
      refine nm_i hf (fun x1 hf => ?_)
      refine lv_istore (lv' := [(6, .int x1), (0, .ref k0), (1, .int u1), (2, .int u2), (3, .int u3), (4, .int u4), (5, .int u5)]) hx hb dX1_cellAtStep_19 hl (by decide) rfl (fun ls hl => ?_)
      refine lv_iconst (v := 2) hx hb dX1_cellAtStep_21 (by decide) ?_
      refine lv_iload_n hx hb dX1_cellAtStep_22 rfl (lv_at hl 2 rfl) ?_
      refine lv_aload_n hx hb dX1_cellAtStep_23 rfl (lv_at hl 1 rfl) ?_
      refine va_get (D := D) (ci := 1) (v := .int L.1) (C := RX1) (T := TX1) (N := 7) hx hb hts inX1 hown hKK.1 hP 0 rfl rfl 0 (by decide) (hts _ q76) (fun _ h => h) rfl dX1_cellAtStep_24 ?_
      obtain ⟨hg2, hf⟩ := gd_some hf
      refine lv_irem hx hb dX1_cellAtStep_27 (nz_ne hg2) ?_
      refine lv_iload hx hb dX1_cellAtStep_28 (lv_at hl 0 rfl) ?_
      refine lv_imul hx hb dX1_cellAtStep_30 ?_
      refine lv_iload_n hx hb dX1_cellAtStep_31 rfl (lv_at hl 3 rfl) ?_
      refine lv_aload_n hx hb dX1_cellAtStep_32 rfl (lv_at hl 1 rfl) ?_
      refine va_get (D := D) (ci := 1) (v := .int L.1) (C := RX1) (T := TX1) (N := 7) hx hb hts inX1 hown hKK.1 hP 0 rfl rfl 0 (by decide) (hts _ q76) (fun _ h => h) rfl dX1_cellAtStep_33 ?_
      obtain ⟨hg3, hf⟩ := gd_some hf
      refine lv_irem hx hb dX1_cellAtStep_36 (nz_ne hg3) ?_
      refine lv_iload hx hb dX1_cellAtStep_37 (lv_at hl 5 rfl) ?_
      refine lv_imul hx hb dX1_cellAtStep_39 ?_
      refine lv_iadd hx hb dX1_cellAtStep_40 ?_
      refine lv_imul hx hb dX1_cellAtStep_41 ?_
      refine lv_iload_n hx hb dX1_cellAtStep_42 rfl (lv_at hl 4 rfl) ?_
      refine lv_iadd hx hb dX1_cellAtStep_43 ?_
      refine lv_iload hx hb dX1_cellAtStep_44 (lv_at hl 6 rfl) ?_
      refine lv_isub hx hb dX1_cellAtStep_46 ?_
      refine lv_iconst (v := 2) hx hb dX1_cellAtStep_47 (by decide) ?_
      refine lv_iload_n hx hb dX1_cellAtStep_48 rfl (lv_at hl 4 rfl) ?_
      refine lv_imul hx hb dX1_cellAtStep_49 ?_
      obtain ⟨hg4, hf⟩ := gd_some hf
      refine lv_idiv hx hb dX1_cellAtStep_50 (nz_ne hg4) ?_
      refine nm_i hf (fun x5 hf => ?_)
      refine lv_istore (lv' := [(7, .int x5), (6, .int x1), (0, .ref k0), (1, .int u1), (2, .int u2), (3, .int u3), (4, .int u4), (5, .int u5)]) hx hb dX1_cellAtStep_51 hl (by decide) rfl (fun ls hl => ?_)
      refine lv_iconst (v := 2) hx hb dX1_cellAtStep_53 (by decide) ?_
      refine lv_iload_n hx hb dX1_cellAtStep_54 rfl (lv_at hl 3 rfl) ?_
      refine lv_aload_n hx hb dX1_cellAtStep_55 rfl (lv_at hl 2 rfl) ?_
      refine va_get (D := D) (ci := 1) (v := .int L.1) (C := RX1) (T := TX1) (N := 7) hx hb hts inX1 hown hKK.1 hP 0 rfl rfl 0 (by decide) (hts _ q76) (fun _ h => h) rfl dX1_cellAtStep_56 ?_
      obtain ⟨hg6, hf⟩ := gd_some hf
      refine lv_idiv hx hb dX1_cellAtStep_59 (nz_ne hg6) ?_
      refine lv_iload hx hb dX1_cellAtStep_60 (lv_at hl 1 rfl) ?_
      refine lv_imul hx hb dX1_cellAtStep_62 ?_
      refine lv_iload_n hx hb dX1_cellAtStep_63 rfl (lv_at hl 4 rfl) ?_
      refine lv_aload_n hx hb dX1_cellAtStep_64 rfl (lv_at hl 2 rfl) ?_
      refine va_get (D := D) (ci := 1) (v := .int L.1) (C := RX1) (T := TX1) (N := 7) hx hb hts inX1 hown hKK.1 hP 0 rfl rfl 0 (by decide) (hts _ q76) (fun _ h => h) rfl dX1_cellAtStep_65 ?_
      obtain ⟨hg7, hf⟩ := gd_some hf
      refine lv_idiv hx hb dX1_cellAtStep_68 (nz_ne hg7) ?_
      refine lv_iload hx hb dX1_cellAtStep_69 (lv_at hl 6 rfl) ?_
      refine lv_imul hx hb dX1_cellAtStep_71 ?_
      refine lv_iadd hx hb dX1_cellAtStep_72 ?_
      refine lv_imul hx hb dX1_cellAtStep_73 ?_
      refine lv_iload_n hx hb dX1_cellAtStep_74 rfl (lv_at hl 5 rfl) ?_
      refine lv_iadd hx hb dX1_cellAtStep_75 ?_
      refine lv_iload hx hb dX1_cellAtStep_76 (lv_at hl 7 rfl) ?_
      refine lv_isub hx hb dX1_cellAtStep_78 ?_
      refine lv_iconst (v := 2) hx hb dX1_cellAtStep_79 (by decide) ?_
      refine lv_iload_n hx hb dX1_cellAtStep_80 rfl (lv_at hl 5 rfl) ?_
      refine lv_imul hx hb dX1_cellAtStep_81 ?_
      obtain ⟨hg8, hf⟩ := gd_some hf
      refine lv_idiv hx hb dX1_cellAtStep_82 (nz_ne hg8) ?_
      refine nm_i hf (fun x9 hf => ?_)
      refine lv_istore (lv' := [(8, .int x9), (7, .int x5), (6, .int x1), (0, .ref k0), (1, .int u1), (2, .int u2), (3, .int u3), (4, .int u4), (5, .int u5)]) hx hb dX1_cellAtStep_83 hl (by decide) rfl (fun ls hl => ?_)
      refine lv_iload hx hb dX1_cellAtStep_85 (lv_at hl 0 rfl) ?_
      refine lv_aload_n hx hb dX1_cellAtStep_87 rfl (lv_at hl 3 rfl) ?_
      refine va_get (D := D) (ci := 1) (v := .int L.1) (C := RX1) (T := TX1) (N := 7) hx hb hts inX1 hown hKK.1 hP 0 rfl rfl 0 (by decide) (hts _ q76) (fun _ h => h) rfl dX1_cellAtStep_88 ?_
      refine lv_imul hx hb dX1_cellAtStep_91 ?_
      refine lv_iload hx hb dX1_cellAtStep_92 (lv_at hl 1 rfl) ?_
      refine lv_iadd hx hb dX1_cellAtStep_94 ?_
      exact pretI hx hb hr hlk hf dX1_cellAtStep_95
    · have hf := (if_neg h).symm.trans hf
      refine lv_iload_n hx hb dX1_cellAtStep_13 rfl (lv_at hl 1 rfl) ?_
      exact pretI hx hb hr hlk hf dX1_cellAtStep_14

abbrev rmX1_excess : Room := { frames := 1, cells := 0, slots := 0, locals := 28 }
theorem miX1_excess : miV yX1_excess cX1_excess 11 (some .int) 5 := ⟨q410, q41, q408, q409, by decide +kernel⟩
set_option maxHeartbeats 4000000 in
set_option maxRecDepth 100000 in
theorem mtX1_excess (l : Launch) (D : va_G) (cy : Nat → ClassId) (z : zT) (k0 k1 k2 k3 k4 : Nat) (L : tL) (u1 : Int32) (u2 : Int32) (u3 : Int32) (u4 : Int32) (u5 : Int32) (r0 : Int32) (hf : fX1_excess L u1 u2 u3 u4 u5 = some r0) : pmet l yX1_excess cX1_excess 11 (some .int) rmX1_excess D cy z (wL cy k0 k1 k2 k3 k4 L) [.ref k0, .int u1, .int u2, .int u3, .int u4, .int u5] (some (.int r0)) := by
  refine pmet_of (by decide +kernel) (Nat.le_of_ble_eq_true rfl) (fun p e s m below meth c hx hb hr hml hown hts hlk hP hKK ls hl => ?_)
  have hS : va_S noF s.heap s.heap [] := va_S.rf
  have hA0 : ∀ q, noF q → zA z q := fun _ h => h.elim
  have hown : s.vm.findClass "HillSight$Land" = some m.cls := hown
  have hl : lv_has ls 11 [(0, .ref k0), (1, .int u1), (2, .int u2), (3, .int u3), (4, .int u4), (5, .int u5)] := hl
  unfold fX1_excess at hf
  refine lv_aload_n hx hb dX1_excess_0 rfl (lv_at hl 0 rfl) ?_
  refine lv_aload_n hx hb dX1_excess_1 rfl (lv_at hl 0 rfl) ?_
  refine lv_iload_n hx hb dX1_excess_2 rfl (lv_at hl 1 rfl) ?_
  refine lv_iload_n hx hb dX1_excess_3 rfl (lv_at hl 3 rfl) ?_
  refine lv_iload hx hb dX1_excess_4 (lv_at hl 4 rfl) ?_
  refine lv_iload hx hb dX1_excess_6 (lv_at hl 5 rfl) ?_
  refine lv_iconst (v := 0) hx hb dX1_excess_8 (by decide) ?_
  obtain ⟨r2, hc1, hf⟩ := bd_some hf
  refine pCallVI ⟨hx, hb, hml, hown, hts⟩ (mtX1_cellAtStep l D cy z k0 k1 k2 k3 k4 L u1 u3 u4 u5 (0 : Int32) r2 hc1) miX1_cellAtStep q411 ⟨Nat.le_of_ble_eq_true rfl, Nat.le_of_ble_eq_true rfl⟩ ⟨rfl, rfl⟩ hP hKK hS hA0 (va_recv hKK.1 hP (ci := 1) (q0 := 0) rfl rfl) rfl hl.1 rfl (Nat.le_of_ble_eq_true rfl) dX1_excess_9 ⟨Nat.zero_le _, Nat.zero_le _⟩ ?_
  obtain ⟨r4, hc3, hf⟩ := bd_some hf
  refine pCallVI ⟨hx, hb, hml, hown, hts⟩ (mtX1_heightOf l D cy z k0 k1 k2 k3 k4 L r2 r4 hc3) miX1_heightOf q415 ⟨Nat.le_of_ble_eq_true rfl, Nat.le_of_ble_eq_true rfl⟩ ⟨rfl, rfl⟩ hP hKK hS hA0 (va_recv hKK.1 hP (ci := 1) (q0 := 0) rfl rfl) rfl hl.1 rfl (Nat.le_of_ble_eq_true rfl) dX1_excess_12 ⟨Nat.zero_le _, Nat.zero_le _⟩ ?_
  refine lv_istore (lv' := [(6, .int r4), (0, .ref k0), (1, .int u1), (2, .int u2), (3, .int u3), (4, .int u4), (5, .int u5)]) hx hb dX1_excess_15 hl (by decide) rfl (fun ls hl => ?_)
  refine lv_aload_n hx hb dX1_excess_17 rfl (lv_at hl 1 rfl) ?_
  refine lv_aload_n hx hb dX1_excess_18 rfl (lv_at hl 1 rfl) ?_
  refine lv_iload_n hx hb dX1_excess_19 rfl (lv_at hl 2 rfl) ?_
  refine lv_iload_n hx hb dX1_excess_20 rfl (lv_at hl 4 rfl) ?_
  refine lv_iload hx hb dX1_excess_21 (lv_at hl 5 rfl) ?_
  refine lv_iload hx hb dX1_excess_23 (lv_at hl 6 rfl) ?_
  refine lv_iconst (v := 1) hx hb dX1_excess_25 (by decide) ?_
  obtain ⟨r6, hc5, hf⟩ := bd_some hf
  refine pCallVI ⟨hx, hb, hml, hown, hts⟩ (mtX1_cellAtStep l D cy z k0 k1 k2 k3 k4 L u1 u3 u4 u5 (1 : Int32) r6 hc5) miX1_cellAtStep q411 ⟨Nat.le_of_ble_eq_true rfl, Nat.le_of_ble_eq_true rfl⟩ ⟨rfl, rfl⟩ hP hKK hS hA0 (va_recv hKK.1 hP (ci := 1) (q0 := 0) rfl rfl) rfl hl.1 rfl (Nat.le_of_ble_eq_true rfl) dX1_excess_26 ⟨Nat.zero_le _, Nat.zero_le _⟩ ?_
  obtain ⟨r8, hc7, hf⟩ := bd_some hf
  refine pCallVI ⟨hx, hb, hml, hown, hts⟩ (mtX1_heightOf l D cy z k0 k1 k2 k3 k4 L r6 r8 hc7) miX1_heightOf q415 ⟨Nat.le_of_ble_eq_true rfl, Nat.le_of_ble_eq_true rfl⟩ ⟨rfl, rfl⟩ hP hKK hS hA0 (va_recv hKK.1 hP (ci := 1) (q0 := 0) rfl rfl) rfl hl.1 rfl (Nat.le_of_ble_eq_true rfl) dX1_excess_29 ⟨Nat.zero_le _, Nat.zero_le _⟩ ?_
  refine lv_istore (lv' := [(7, .int r8), (6, .int r4), (0, .ref k0), (1, .int u1), (2, .int u2), (3, .int u3), (4, .int u4), (5, .int u5)]) hx hb dX1_excess_32 hl (by decide) rfl (fun ls hl => ?_)
  refine lv_iload hx hb dX1_excess_34 (lv_at hl 6 rfl) ?_
  refine lv_iload hx hb dX1_excess_36 (lv_at hl 7 rfl) ?_
  refine lv_isub hx hb dX1_excess_38 ?_
  refine nm_i hf (fun x9 hf => ?_)
  refine lv_istore (lv' := [(8, .int x9), (7, .int r8), (6, .int r4), (0, .ref k0), (1, .int u1), (2, .int u2), (3, .int u3), (4, .int u4), (5, .int u5)]) hx hb dX1_excess_39 hl (by decide) rfl (fun ls hl => ?_)
  refine lv_aload_n hx hb dX1_excess_41 rfl (lv_at hl 3 rfl) ?_
  refine lv_iload_n hx hb dX1_excess_42 rfl (lv_at hl 4 rfl) ?_
  obtain ⟨r11, hc10, hf⟩ := bd_some hf
  refine pCallVI ⟨hx, hb, hml, hown, hts⟩ (mtX1_heightOf l D cy z k0 k1 k2 k3 k4 L u1 r11 hc10) miX1_heightOf q415 ⟨Nat.le_of_ble_eq_true rfl, Nat.le_of_ble_eq_true rfl⟩ ⟨rfl, rfl⟩ hP hKK hS hA0 (va_recv hKK.1 hP (ci := 1) (q0 := 0) rfl rfl) rfl hl.1 rfl (Nat.le_of_ble_eq_true rfl) dX1_excess_43 ⟨Nat.zero_le _, Nat.zero_le _⟩ ?_
  refine lv_iload_n hx hb dX1_excess_46 rfl (lv_at hl 5 rfl) ?_
  refine lv_iadd hx hb dX1_excess_47 ?_
  refine nm_i hf (fun x12 hf => ?_)
  refine lv_istore (lv' := [(9, .int x12), (8, .int x9), (7, .int r8), (6, .int r4), (0, .ref k0), (1, .int u1), (2, .int u2), (3, .int u3), (4, .int u4), (5, .int u5)]) hx hb dX1_excess_48 hl (by decide) rfl (fun ls hl => ?_)
  refine lv_aload_n hx hb dX1_excess_50 rfl (lv_at hl 4 rfl) ?_
  refine lv_iload_n hx hb dX1_excess_51 rfl (lv_at hl 7 rfl) ?_
  obtain ⟨r14, hc13, hf⟩ := bd_some hf
  refine pCallVI ⟨hx, hb, hml, hown, hts⟩ (mtX1_heightOf l D cy z k0 k1 k2 k3 k4 L u3 r14 hc13) miX1_heightOf q415 ⟨Nat.le_of_ble_eq_true rfl, Nat.le_of_ble_eq_true rfl⟩ ⟨rfl, rfl⟩ hP hKK hS hA0 (va_recv hKK.1 hP (ci := 1) (q0 := 0) rfl rfl) rfl hl.1 rfl (Nat.le_of_ble_eq_true rfl) dX1_excess_52 ⟨Nat.zero_le _, Nat.zero_le _⟩ ?_
  refine lv_aload_n hx hb dX1_excess_55 rfl (lv_at hl 4 rfl) ?_
  refine va_get (D := D) (ci := 1) (v := .ref k4) (C := RX1) (T := TX1) (N := 7) hx hb hts inX1 hown hKK.1 hP 0 rfl rfl 6 (by decide) (hts _ q88) (fun _ h => h) rfl dX1_excess_56 ?_
  refine lv_iconst (v := 1) hx hb dX1_excess_59 (by decide) ?_
  refine va_iald hx hb hKK.1 hP 4 0 rfl rfl (inb_in (by decide)) dX1_excess_60 ?_
  refine lv_iadd hx hb dX1_excess_61 ?_
  refine nm_i hf (fun x15 hf => ?_)
  refine lv_istore (lv' := [(10, .int x15), (9, .int x12), (8, .int x9), (7, .int r8), (6, .int r4), (0, .ref k0), (1, .int u1), (2, .int u2), (3, .int u3), (4, .int u4), (5, .int u5)]) hx hb dX1_excess_62 hl (by decide) rfl (fun ls hl => ?_)
  refine lv_bipush (v := 10) hx hb dX1_excess_64 (by decide) ?_
  refine lv_iload hx hb dX1_excess_66 (lv_at hl 9 rfl) ?_
  refine lv_imul hx hb dX1_excess_68 ?_
  refine lv_iload hx hb dX1_excess_69 (lv_at hl 4 rfl) ?_
  refine lv_iload hx hb dX1_excess_71 (lv_at hl 3 rfl) ?_
  refine va_mmax hx hb (hml.trans hl.1.symm) hown (hts _ q406) (hts _ q296) (hts _ q47) (hts _ q297) (Nat.le_of_ble_eq_true rfl) (Nat.le_of_ble_eq_true rfl) (Nat.zero_le _) (Nat.zero_le _) dX1_excess_73 ?_
  refine lv_imul hx hb dX1_excess_76 ?_
  refine lv_iload hx hb dX1_excess_77 (lv_at hl 9 rfl) ?_
  refine lv_aload_n hx hb dX1_excess_79 rfl (lv_at hl 5 rfl) ?_
  refine va_get (D := D) (ci := 1) (v := .ref k4) (C := RX1) (T := TX1) (N := 7) hx hb hts inX1 hown hKK.1 hP 0 rfl rfl 6 (by decide) (hts _ q88) (fun _ h => h) rfl dX1_excess_80 ?_
  refine lv_iconst (v := 2) hx hb dX1_excess_83 (by decide) ?_
  refine va_iald hx hb hKK.1 hP 4 0 rfl rfl (inb_in (by decide)) dX1_excess_84 ?_
  refine lv_imul hx hb dX1_excess_85 ?_
  refine lv_iload hx hb dX1_excess_86 (lv_at hl 10 rfl) ?_
  refine lv_imul hx hb dX1_excess_88 ?_
  refine lv_iload hx hb dX1_excess_89 (lv_at hl 2 rfl) ?_
  refine lv_imul hx hb dX1_excess_91 ?_
  refine lv_iadd hx hb dX1_excess_92 ?_
  refine lv_bipush (v := 10) hx hb dX1_excess_93 (by decide) ?_
  refine lv_iload hx hb dX1_excess_95 (lv_at hl 1 rfl) ?_
  refine lv_iload hx hb dX1_excess_97 (lv_at hl 2 rfl) ?_
  refine lv_imul hx hb dX1_excess_99 ?_
  refine lv_iload hx hb dX1_excess_100 (lv_at hl 0 rfl) ?_
  refine lv_iload hx hb dX1_excess_102 (lv_at hl 10 rfl) ?_
  refine lv_imul hx hb dX1_excess_104 ?_
  refine lv_iadd hx hb dX1_excess_105 ?_
  refine lv_imul hx hb dX1_excess_106 ?_
  refine lv_isub hx hb dX1_excess_107 ?_
  exact pretI hx hb hr hlk hf dX1_excess_108

abbrev rmX1_canSee : Room := { frames := 2, cells := 0, slots := 0, locals := 58 }
theorem miX1_canSee : miV yX1_canSee cX1_canSee 6 (some .boolean) 3 := ⟨q390, q41, q388, q389, by decide +kernel⟩
set_option maxHeartbeats 4000000 in
set_option maxRecDepth 100000 in
theorem mtX1_canSee (l : Launch) (D : va_G) (cy : Nat → ClassId) (z : zT) (k0 k1 k2 k3 k4 : Nat) (L : tL) (u1 : Int32) (u2 : Int32) (u3 : Int32) (r0 : Int32) (hf : fX1_canSee L u1 u2 u3 = some r0) : pmet l yX1_canSee cX1_canSee 6 (some .boolean) rmX1_canSee D cy z (wL cy k0 k1 k2 k3 k4 L) [.ref k0, .int u1, .int u2, .int u3] (some (.int r0)) := by
  refine pmet_of (by decide +kernel) (Nat.le_of_ble_eq_true rfl) (fun p e s m below meth c hx hb hr hml hown hts hlk hP hKK ls hl => ?_)
  have hS : va_S noF s.heap s.heap [] := va_S.rf
  have hA0 : ∀ q, noF q → zA z q := fun _ h => h.elim
  have hown : s.vm.findClass "HillSight$Land" = some m.cls := hown
  have hl : lv_has ls 6 [(0, .ref k0), (1, .int u1), (2, .int u2), (3, .int u3)] := hl
  have w_24 : ∀ (g1_24 : Int32) (g2_24 : Int32) (g3_24 : Int32) (g4_24 : Int32) (k45 : Option (Int32)) (hk45 : ∀ (ls : Array Slot), k45 = some r0 → lv_has ls 6 [] → W p l e rmX1_canSee s m ([.ref k0, .int u1, .int u2, .int u3] : List Value).toArray below meth c s.heap [] 0 0 (MQ below (pQ (some (.int r0))) ([.ref k0, .int u1, .int u2, .int u3] : List Value).toArray s 0 0 noF) (F0 m 45 ls [])) (k53 : Option (Int32)) (hk53 : ∀ (ls : Array Slot), k53 = some r0 → lv_has ls 6 [] → W p l e rmX1_canSee s m ([.ref k0, .int u1, .int u2, .int u3] : List Value).toArray below meth c s.heap [] 0 0 (MQ below (pQ (some (.int r0))) ([.ref k0, .int u1, .int u2, .int u3] : List Value).toArray s 0 0 noF) (F0 m 53 ls [])) (n : Nat) (v5_24 : Int32) (ls : Array Slot), fX1_canSee_24 L g1_24 g2_24 g3_24 g4_24 k45 k53 n v5_24 = some r0 → lv_has ls 6 [(0, .ref k0), (1, .int g1_24), (2, .int g2_24), (3, .int g3_24), (4, .int g4_24), (5, .int v5_24)] → W p l e rmX1_canSee s m ([.ref k0, .int u1, .int u2, .int u3] : List Value).toArray below meth c s.heap [] 0 0 (MQ below (pQ (some (.int r0))) ([.ref k0, .int u1, .int u2, .int u3] : List Value).toArray s 0 0 noF) (F0 m 24 ls []) := by
    intro g1_24 g2_24 g3_24 g4_24 k45 hk45 k53 hk53 n
    induction n with
    | zero =>
      intro v5_24 ls hf hl
      cases (show (none : Option (Int32)) = some r0 from hf)
    | succ n ih =>
      intro v5_24 ls hf hl
      rw [fX1_canSee_24] at hf
      refine lv_iload hx hb dX1_canSee_24 (lv_at hl 5 rfl) ?_
      refine lv_iload hx hb dX1_canSee_26 (lv_at hl 4 rfl) ?_
      refine lv_icmp_ge (tgt := 53) hx hb dX1_canSee_28 (by decide) (fun h => ?_) (fun h => ?_)
      · have hf := (if_pos h).symm.trans hf
        exact hk53 ls hf (lv_sub hl [] rfl)
      · have hf := (if_neg h).symm.trans hf
        refine lv_aload_n hx hb dX1_canSee_31 rfl (lv_at hl 0 rfl) ?_
        refine lv_iload_n hx hb dX1_canSee_32 rfl (lv_at hl 1 rfl) ?_
        refine lv_iload_n hx hb dX1_canSee_33 rfl (lv_at hl 2 rfl) ?_
        refine lv_iload_n hx hb dX1_canSee_34 rfl (lv_at hl 3 rfl) ?_
        refine lv_iload hx hb dX1_canSee_35 (lv_at hl 4 rfl) ?_
        refine lv_iload hx hb dX1_canSee_37 (lv_at hl 5 rfl) ?_
        obtain ⟨r4, hc3, hf⟩ := bd_some hf
        refine pCallVI ⟨hx, hb, hml, hown, hts⟩ (mtX1_excess l D cy z k0 k1 k2 k3 k4 L g1_24 g2_24 g3_24 g4_24 v5_24 r4 hc3) miX1_excess q407 ⟨Nat.le_of_ble_eq_true rfl, Nat.le_of_ble_eq_true rfl⟩ ⟨rfl, rfl⟩ hP hKK hS hA0 (va_recv hKK.1 hP (ci := 1) (q0 := 0) rfl rfl) rfl hl.1 rfl (Nat.le_of_ble_eq_true rfl) dX1_canSee_39 ⟨Nat.zero_le _, Nat.zero_le _⟩ ?_
        refine lv_if_le (tgt := 47) hx hb dX1_canSee_42 (by decide) (fun h => ?_) (fun h => ?_)
        · have hf := (if_pos h).symm.trans hf
          obtain ⟨x5, ex5, hf⟩ := nm_ex hf
          refine lv_iinc (v := x5) (lv' := [(5, .int x5), (0, .ref k0), (1, .int g1_24), (2, .int g2_24), (3, .int g3_24), (4, .int g4_24)]) hx hb dX1_canSee_47 hl (k := 5) rfl (Eq.trans rfl ex5) (by decide) rfl (fun ls hl => ?_)
          refine lv_goto (tgt := 24) hx hb dX1_canSee_50 (by decide) ?_
          exact ih x5 ls hf (lv_sub hl [1, 2, 3, 4, 5, 0] rfl)
        · have hf := (if_neg h).symm.trans hf
          exact hk45 ls hf (lv_sub hl [] rfl)
  unfold fX1_canSee at hf
  refine lv_aload_n hx hb dX1_canSee_0 rfl (lv_at hl 0 rfl) ?_
  refine lv_iload_n hx hb dX1_canSee_1 rfl (lv_at hl 1 rfl) ?_
  refine lv_iload_n hx hb dX1_canSee_2 rfl (lv_at hl 3 rfl) ?_
  obtain ⟨r2, hc1, hf⟩ := bd_some hf
  refine pCallVI ⟨hx, hb, hml, hown, hts⟩ (mtX1_distance l D cy z k0 k1 k2 k3 k4 L u1 u3 r2 hc1) miX1_distance q391 ⟨Nat.le_of_ble_eq_true rfl, Nat.le_of_ble_eq_true rfl⟩ ⟨rfl, rfl⟩ hP hKK hS hA0 (va_recv hKK.1 hP (ci := 1) (q0 := 0) rfl rfl) rfl hl.1 rfl (Nat.le_of_ble_eq_true rfl) dX1_canSee_3 ⟨Nat.zero_le _, Nat.zero_le _⟩ ?_
  refine lv_istore (lv' := [(4, .int r2), (0, .ref k0), (1, .int u1), (2, .int u2), (3, .int u3)]) hx hb dX1_canSee_6 hl (by decide) rfl (fun ls hl => ?_)
  refine lv_iload hx hb dX1_canSee_8 (lv_at hl 0 rfl) ?_
  refine lv_aload_n hx hb dX1_canSee_10 rfl (lv_at hl 1 rfl) ?_
  refine va_get (D := D) (ci := 1) (v := .ref k4) (C := RX1) (T := TX1) (N := 7) hx hb hts inX1 hown hKK.1 hP 0 rfl rfl 6 (by decide) (hts _ q88) (fun _ h => h) rfl dX1_canSee_11 ?_
  refine lv_iconst (v := 3) hx hb dX1_canSee_14 (by decide) ?_
  refine va_iald hx hb hKK.1 hP 4 0 rfl rfl (inb_in (by decide)) dX1_canSee_15 ?_
  refine lv_icmp_le (tgt := 21) hx hb dX1_canSee_16 (by decide) (fun h => ?_) (fun h => ?_)
  · have hf := (if_pos h).symm.trans hf
    refine lv_iconst (v := 1) hx hb dX1_canSee_21 (by decide) ?_
    refine lv_istore (lv' := [(5, .int (1 : Int32)), (4, .int r2), (0, .ref k0), (1, .int u1), (2, .int u2), (3, .int u3)]) hx hb dX1_canSee_22 hl (by decide) rfl (fun ls hl => ?_)
    refine w_24 u1 u2 u3 r2 _ ?_ _ ?_ _ (1 : Int32) ls hf (lv_sub hl [2, 3, 4, 5, 1, 0] rfl)
    · intro  ls hf hl
      refine lv_iconst (v := 0) hx hb dX1_canSee_45 (by decide) ?_
      exact pretZ hx hb hr hlk (by decide) hf dX1_canSee_46
    · intro  ls hf hl
      refine lv_iconst (v := 1) hx hb dX1_canSee_53 (by decide) ?_
      exact pretZ hx hb hr hlk (by decide) hf dX1_canSee_54
  · have hf := (if_neg h).symm.trans hf
    refine lv_iconst (v := 0) hx hb dX1_canSee_19 (by decide) ?_
    exact pretZ hx hb hr hlk (by decide) hf dX1_canSee_20

abbrev rmX1_firstBlock : Room := { frames := 2, cells := 0, slots := 0, locals := 58 }
theorem miX1_firstBlock : miV yX1_firstBlock cX1_firstBlock 6 (some .int) 3 := ⟨q530, q41, q528, q529, by decide +kernel⟩
set_option maxHeartbeats 4000000 in
set_option maxRecDepth 100000 in
theorem mtX1_firstBlock (l : Launch) (D : va_G) (cy : Nat → ClassId) (z : zT) (k0 k1 k2 k3 k4 : Nat) (L : tL) (u1 : Int32) (u2 : Int32) (u3 : Int32) (r0 : Int32) (hf : fX1_firstBlock L u1 u2 u3 = some r0) : pmet l yX1_firstBlock cX1_firstBlock 6 (some .int) rmX1_firstBlock D cy z (wL cy k0 k1 k2 k3 k4 L) [.ref k0, .int u1, .int u2, .int u3] (some (.int r0)) := by
  refine pmet_of (by decide +kernel) (Nat.le_of_ble_eq_true rfl) (fun p e s m below meth c hx hb hr hml hown hts hlk hP hKK ls hl => ?_)
  have hS : va_S noF s.heap s.heap [] := va_S.rf
  have hA0 : ∀ q, noF q → zA z q := fun _ h => h.elim
  have hown : s.vm.findClass "HillSight$Land" = some m.cls := hown
  have hl : lv_has ls 6 [(0, .ref k0), (1, .int u1), (2, .int u2), (3, .int u3)] := hl
  have w_11 : ∀ (g1_11 : Int32) (g2_11 : Int32) (g3_11 : Int32) (g4_11 : Int32) (k32 : Int32 → Option (Int32)) (hk32 : ∀ (v5_11 : Int32) (ls : Array Slot), k32 v5_11 = some r0 → lv_has ls 6 [(5, .int v5_11)] → W p l e rmX1_firstBlock s m ([.ref k0, .int u1, .int u2, .int u3] : List Value).toArray below meth c s.heap [] 0 0 (MQ below (pQ (some (.int r0))) ([.ref k0, .int u1, .int u2, .int u3] : List Value).toArray s 0 0 noF) (F0 m 32 ls [])) (k41 : Option (Int32)) (hk41 : ∀ (ls : Array Slot), k41 = some r0 → lv_has ls 6 [] → W p l e rmX1_firstBlock s m ([.ref k0, .int u1, .int u2, .int u3] : List Value).toArray below meth c s.heap [] 0 0 (MQ below (pQ (some (.int r0))) ([.ref k0, .int u1, .int u2, .int u3] : List Value).toArray s 0 0 noF) (F0 m 41 ls [])) (n : Nat) (v5_11 : Int32) (ls : Array Slot), fX1_firstBlock_11 L g1_11 g2_11 g3_11 g4_11 k32 k41 n v5_11 = some r0 → lv_has ls 6 [(0, .ref k0), (1, .int g1_11), (2, .int g2_11), (3, .int g3_11), (4, .int g4_11), (5, .int v5_11)] → W p l e rmX1_firstBlock s m ([.ref k0, .int u1, .int u2, .int u3] : List Value).toArray below meth c s.heap [] 0 0 (MQ below (pQ (some (.int r0))) ([.ref k0, .int u1, .int u2, .int u3] : List Value).toArray s 0 0 noF) (F0 m 11 ls []) := by
    intro g1_11 g2_11 g3_11 g4_11 k32 hk32 k41 hk41 n
    induction n with
    | zero =>
      intro v5_11 ls hf hl
      cases (show (none : Option (Int32)) = some r0 from hf)
    | succ n ih =>
      intro v5_11 ls hf hl
      rw [fX1_firstBlock_11] at hf
      refine lv_iload hx hb dX1_firstBlock_11 (lv_at hl 5 rfl) ?_
      refine lv_iload hx hb dX1_firstBlock_13 (lv_at hl 4 rfl) ?_
      refine lv_icmp_ge (tgt := 41) hx hb dX1_firstBlock_15 (by decide) (fun h => ?_) (fun h => ?_)
      · have hf := (if_pos h).symm.trans hf
        exact hk41 ls hf (lv_sub hl [] rfl)
      · have hf := (if_neg h).symm.trans hf
        refine lv_aload_n hx hb dX1_firstBlock_18 rfl (lv_at hl 0 rfl) ?_
        refine lv_iload_n hx hb dX1_firstBlock_19 rfl (lv_at hl 1 rfl) ?_
        refine lv_iload_n hx hb dX1_firstBlock_20 rfl (lv_at hl 2 rfl) ?_
        refine lv_iload_n hx hb dX1_firstBlock_21 rfl (lv_at hl 3 rfl) ?_
        refine lv_iload hx hb dX1_firstBlock_22 (lv_at hl 4 rfl) ?_
        refine lv_iload hx hb dX1_firstBlock_24 (lv_at hl 5 rfl) ?_
        obtain ⟨r4, hc3, hf⟩ := bd_some hf
        refine pCallVI ⟨hx, hb, hml, hown, hts⟩ (mtX1_excess l D cy z k0 k1 k2 k3 k4 L g1_11 g2_11 g3_11 g4_11 v5_11 r4 hc3) miX1_excess q407 ⟨Nat.le_of_ble_eq_true rfl, Nat.le_of_ble_eq_true rfl⟩ ⟨rfl, rfl⟩ hP hKK hS hA0 (va_recv hKK.1 hP (ci := 1) (q0 := 0) rfl rfl) rfl hl.1 rfl (Nat.le_of_ble_eq_true rfl) dX1_firstBlock_26 ⟨Nat.zero_le _, Nat.zero_le _⟩ ?_
        refine lv_if_le (tgt := 35) hx hb dX1_firstBlock_29 (by decide) (fun h => ?_) (fun h => ?_)
        · have hf := (if_pos h).symm.trans hf
          obtain ⟨x5, ex5, hf⟩ := nm_ex hf
          refine lv_iinc (v := x5) (lv' := [(5, .int x5), (0, .ref k0), (1, .int g1_11), (2, .int g2_11), (3, .int g3_11), (4, .int g4_11)]) hx hb dX1_firstBlock_35 hl (k := 5) rfl (Eq.trans rfl ex5) (by decide) rfl (fun ls hl => ?_)
          refine lv_goto (tgt := 11) hx hb dX1_firstBlock_38 (by decide) ?_
          exact ih x5 ls hf (lv_sub hl [1, 2, 3, 4, 5, 0] rfl)
        · have hf := (if_neg h).symm.trans hf
          exact hk32 v5_11 ls hf (lv_sub hl [5] rfl)
  unfold fX1_firstBlock at hf
  refine lv_aload_n hx hb dX1_firstBlock_0 rfl (lv_at hl 0 rfl) ?_
  refine lv_iload_n hx hb dX1_firstBlock_1 rfl (lv_at hl 1 rfl) ?_
  refine lv_iload_n hx hb dX1_firstBlock_2 rfl (lv_at hl 3 rfl) ?_
  obtain ⟨r2, hc1, hf⟩ := bd_some hf
  refine pCallVI ⟨hx, hb, hml, hown, hts⟩ (mtX1_distance l D cy z k0 k1 k2 k3 k4 L u1 u3 r2 hc1) miX1_distance q391 ⟨Nat.le_of_ble_eq_true rfl, Nat.le_of_ble_eq_true rfl⟩ ⟨rfl, rfl⟩ hP hKK hS hA0 (va_recv hKK.1 hP (ci := 1) (q0 := 0) rfl rfl) rfl hl.1 rfl (Nat.le_of_ble_eq_true rfl) dX1_firstBlock_3 ⟨Nat.zero_le _, Nat.zero_le _⟩ ?_
  refine lv_istore (lv' := [(4, .int r2), (0, .ref k0), (1, .int u1), (2, .int u2), (3, .int u3)]) hx hb dX1_firstBlock_6 hl (by decide) rfl (fun ls hl => ?_)
  refine lv_iconst (v := 1) hx hb dX1_firstBlock_8 (by decide) ?_
  refine lv_istore (lv' := [(5, .int (1 : Int32)), (4, .int r2), (0, .ref k0), (1, .int u1), (2, .int u2), (3, .int u3)]) hx hb dX1_firstBlock_9 hl (by decide) rfl (fun ls hl => ?_)
  refine w_11 u1 u2 u3 r2 _ ?_ _ ?_ _ (1 : Int32) ls hf (lv_sub hl [2, 3, 4, 5, 1, 0] rfl)
  · intro y6 ls hf hl
    refine lv_iload hx hb dX1_firstBlock_32 (lv_at hl 0 rfl) ?_
    exact pretI hx hb hr hlk hf dX1_firstBlock_34
  · intro  ls hf hl
    refine lv_bipush (v := -9) hx hb dX1_firstBlock_41 (by decide) ?_
    exact pretI hx hb hr hlk hf dX1_firstBlock_43

abbrev rmX1_greatestExcess : Room := { frames := 2, cells := 0, slots := 0, locals := 58 }
theorem miX1_greatestExcess : miV yX1_greatestExcess cX1_greatestExcess 7 (some .int) 3 := ⟨q534, q41, q532, q533, by decide +kernel⟩
set_option maxHeartbeats 4000000 in
set_option maxRecDepth 100000 in
theorem mtX1_greatestExcess (l : Launch) (D : va_G) (cy : Nat → ClassId) (z : zT) (k0 k1 k2 k3 k4 : Nat) (L : tL) (u1 : Int32) (u2 : Int32) (u3 : Int32) (r0 : Int32) (hf : fX1_greatestExcess L u1 u2 u3 = some r0) : pmet l yX1_greatestExcess cX1_greatestExcess 7 (some .int) rmX1_greatestExcess D cy z (wL cy k0 k1 k2 k3 k4 L) [.ref k0, .int u1, .int u2, .int u3] (some (.int r0)) := by
  refine pmet_of (by decide +kernel) (Nat.le_of_ble_eq_true rfl) (fun p e s m below meth c hx hb hr hml hown hts hlk hP hKK ls hl => ?_)
  have hS : va_S noF s.heap s.heap [] := va_S.rf
  have hA0 : ∀ q, noF q → zA z q := fun _ h => h.elim
  have hown : s.vm.findClass "HillSight$Land" = some m.cls := hown
  have hl : lv_has ls 7 [(0, .ref k0), (1, .int u1), (2, .int u2), (3, .int u3)] := hl
  have w_23 : ∀ (g1_23 : Int32) (g2_23 : Int32) (g3_23 : Int32) (g4_23 : Int32) (k54 : Int32 → Option (Int32)) (hk54 : ∀ (v5_23 : Int32) (ls : Array Slot), k54 v5_23 = some r0 → lv_has ls 7 [(5, .int v5_23)] → W p l e rmX1_greatestExcess s m ([.ref k0, .int u1, .int u2, .int u3] : List Value).toArray below meth c s.heap [] 0 0 (MQ below (pQ (some (.int r0))) ([.ref k0, .int u1, .int u2, .int u3] : List Value).toArray s 0 0 noF) (F0 m 54 ls [])) (n : Nat) (v5_23 : Int32) (v6_23 : Int32) (ls : Array Slot), fX1_greatestExcess_23 L g1_23 g2_23 g3_23 g4_23 k54 n v5_23 v6_23 = some r0 → lv_has ls 7 [(0, .ref k0), (1, .int g1_23), (2, .int g2_23), (3, .int g3_23), (4, .int g4_23), (5, .int v5_23), (6, .int v6_23)] → W p l e rmX1_greatestExcess s m ([.ref k0, .int u1, .int u2, .int u3] : List Value).toArray below meth c s.heap [] 0 0 (MQ below (pQ (some (.int r0))) ([.ref k0, .int u1, .int u2, .int u3] : List Value).toArray s 0 0 noF) (F0 m 23 ls []) := by
    intro g1_23 g2_23 g3_23 g4_23 k54 hk54 n
    induction n with
    | zero =>
      intro v5_23 v6_23 ls hf hl
      cases (show (none : Option (Int32)) = some r0 from hf)
    | succ n ih =>
      intro v5_23 v6_23 ls hf hl
      rw [fX1_greatestExcess_23] at hf
      refine lv_iload hx hb dX1_greatestExcess_23 (lv_at hl 6 rfl) ?_
      refine lv_iload hx hb dX1_greatestExcess_25 (lv_at hl 4 rfl) ?_
      refine lv_icmp_ge (tgt := 54) hx hb dX1_greatestExcess_27 (by decide) (fun h => ?_) (fun h => ?_)
      · have hf := (if_pos h).symm.trans hf
        exact hk54 v5_23 ls hf (lv_sub hl [5] rfl)
      · have hf := (if_neg h).symm.trans hf
        refine lv_iload hx hb dX1_greatestExcess_30 (lv_at hl 5 rfl) ?_
        refine lv_aload_n hx hb dX1_greatestExcess_32 rfl (lv_at hl 0 rfl) ?_
        refine lv_iload_n hx hb dX1_greatestExcess_33 rfl (lv_at hl 1 rfl) ?_
        refine lv_iload_n hx hb dX1_greatestExcess_34 rfl (lv_at hl 2 rfl) ?_
        refine lv_iload_n hx hb dX1_greatestExcess_35 rfl (lv_at hl 3 rfl) ?_
        refine lv_iload hx hb dX1_greatestExcess_36 (lv_at hl 4 rfl) ?_
        refine lv_iload hx hb dX1_greatestExcess_38 (lv_at hl 6 rfl) ?_
        obtain ⟨r6, hc5, hf⟩ := bd_some hf
        refine pCallVI ⟨hx, hb, hml, hown, hts⟩ (mtX1_excess l D cy z k0 k1 k2 k3 k4 L g1_23 g2_23 g3_23 g4_23 v6_23 r6 hc5) miX1_excess q407 ⟨Nat.le_of_ble_eq_true rfl, Nat.le_of_ble_eq_true rfl⟩ ⟨rfl, rfl⟩ hP hKK hS hA0 (va_recv hKK.1 hP (ci := 1) (q0 := 0) rfl rfl) rfl hl.1 rfl (Nat.le_of_ble_eq_true rfl) dX1_greatestExcess_40 ⟨Nat.zero_le _, Nat.zero_le _⟩ ?_
        refine va_mmax hx hb (hml.trans hl.1.symm) hown (hts _ q406) (hts _ q296) (hts _ q47) (hts _ q297) (Nat.le_of_ble_eq_true rfl) (Nat.le_of_ble_eq_true rfl) (Nat.zero_le _) (Nat.zero_le _) dX1_greatestExcess_43 ?_
        refine nm_i hf (fun x7 hf => ?_)
        refine lv_istore (lv' := [(5, .int x7), (0, .ref k0), (1, .int g1_23), (2, .int g2_23), (3, .int g3_23), (4, .int g4_23), (6, .int v6_23)]) hx hb dX1_greatestExcess_46 hl (by decide) rfl (fun ls hl => ?_)
        obtain ⟨x8, ex8, hf⟩ := nm_ex hf
        refine lv_iinc (v := x8) (lv' := [(6, .int x8), (5, .int x7), (0, .ref k0), (1, .int g1_23), (2, .int g2_23), (3, .int g3_23), (4, .int g4_23)]) hx hb dX1_greatestExcess_48 hl (k := 6) rfl (Eq.trans rfl ex8) (by decide) rfl (fun ls hl => ?_)
        refine lv_goto (tgt := 23) hx hb dX1_greatestExcess_51 (by decide) ?_
        exact ih x7 x8 ls hf (lv_sub hl [2, 3, 4, 5, 6, 1, 0] rfl)
  unfold fX1_greatestExcess at hf
  refine lv_aload_n hx hb dX1_greatestExcess_0 rfl (lv_at hl 0 rfl) ?_
  refine lv_iload_n hx hb dX1_greatestExcess_1 rfl (lv_at hl 1 rfl) ?_
  refine lv_iload_n hx hb dX1_greatestExcess_2 rfl (lv_at hl 3 rfl) ?_
  obtain ⟨r2, hc1, hf⟩ := bd_some hf
  refine pCallVI ⟨hx, hb, hml, hown, hts⟩ (mtX1_distance l D cy z k0 k1 k2 k3 k4 L u1 u3 r2 hc1) miX1_distance q391 ⟨Nat.le_of_ble_eq_true rfl, Nat.le_of_ble_eq_true rfl⟩ ⟨rfl, rfl⟩ hP hKK hS hA0 (va_recv hKK.1 hP (ci := 1) (q0 := 0) rfl rfl) rfl hl.1 rfl (Nat.le_of_ble_eq_true rfl) dX1_greatestExcess_3 ⟨Nat.zero_le _, Nat.zero_le _⟩ ?_
  refine lv_istore (lv' := [(4, .int r2), (0, .ref k0), (1, .int u1), (2, .int u2), (3, .int u3)]) hx hb dX1_greatestExcess_6 hl (by decide) rfl (fun ls hl => ?_)
  refine lv_aload_n hx hb dX1_greatestExcess_8 rfl (lv_at hl 1 rfl) ?_
  refine lv_iload_n hx hb dX1_greatestExcess_9 rfl (lv_at hl 2 rfl) ?_
  refine lv_iload_n hx hb dX1_greatestExcess_10 rfl (lv_at hl 3 rfl) ?_
  refine lv_iload_n hx hb dX1_greatestExcess_11 rfl (lv_at hl 4 rfl) ?_
  refine lv_iload hx hb dX1_greatestExcess_12 (lv_at hl 0 rfl) ?_
  refine lv_iconst (v := 1) hx hb dX1_greatestExcess_14 (by decide) ?_
  obtain ⟨r4, hc3, hf⟩ := bd_some hf
  refine pCallVI ⟨hx, hb, hml, hown, hts⟩ (mtX1_excess l D cy z k0 k1 k2 k3 k4 L u1 u2 u3 r2 (1 : Int32) r4 hc3) miX1_excess q407 ⟨Nat.le_of_ble_eq_true rfl, Nat.le_of_ble_eq_true rfl⟩ ⟨rfl, rfl⟩ hP hKK hS hA0 (va_recv hKK.1 hP (ci := 1) (q0 := 0) rfl rfl) rfl hl.1 rfl (Nat.le_of_ble_eq_true rfl) dX1_greatestExcess_15 ⟨Nat.zero_le _, Nat.zero_le _⟩ ?_
  refine lv_istore (lv' := [(5, .int r4), (4, .int r2), (0, .ref k0), (1, .int u1), (2, .int u2), (3, .int u3)]) hx hb dX1_greatestExcess_18 hl (by decide) rfl (fun ls hl => ?_)
  refine lv_iconst (v := 2) hx hb dX1_greatestExcess_20 (by decide) ?_
  refine lv_istore (lv' := [(6, .int (2 : Int32)), (5, .int r4), (4, .int r2), (0, .ref k0), (1, .int u1), (2, .int u2), (3, .int u3)]) hx hb dX1_greatestExcess_21 hl (by decide) rfl (fun ls hl => ?_)
  refine w_23 u1 u2 u3 r2 _ ?_ _ r4 (2 : Int32) ls hf (lv_sub hl [3, 4, 5, 6, 2, 1, 0] rfl)
  · intro y9 ls hf hl
    refine lv_iload hx hb dX1_greatestExcess_54 (lv_at hl 0 rfl) ?_
    exact pretI hx hb hr hlk hf dX1_greatestExcess_56

abbrev rmX1_neededRise : Room := { frames := 3, cells := 0, slots := 0, locals := 83 }
theorem miX1_neededRise : miV yX1_neededRise cX1_neededRise 4 (some .int) 2 := ⟨q538, q41, q536, q537, by decide +kernel⟩
set_option maxHeartbeats 4000000 in
set_option maxRecDepth 100000 in
theorem mtX1_neededRise (l : Launch) (D : va_G) (cy : Nat → ClassId) (z : zT) (k0 k1 k2 k3 k4 : Nat) (L : tL) (u1 : Int32) (u2 : Int32) (r0 : Int32) (hf : fX1_neededRise L u1 u2 = some r0) : pmet l yX1_neededRise cX1_neededRise 4 (some .int) rmX1_neededRise D cy z (wL cy k0 k1 k2 k3 k4 L) [.ref k0, .int u1, .int u2] (some (.int r0)) := by
  refine pmet_of (by decide +kernel) (Nat.le_of_ble_eq_true rfl) (fun p e s m below meth c hx hb hr hml hown hts hlk hP hKK ls hl => ?_)
  have hS : va_S noF s.heap s.heap [] := va_S.rf
  have hA0 : ∀ q, noF q → zA z q := fun _ h => h.elim
  have hown : s.vm.findClass "HillSight$Land" = some m.cls := hown
  have hl : lv_has ls 4 [(0, .ref k0), (1, .int u1), (2, .int u2)] := hl
  have w_2 : ∀ (g1_2 : Int32) (g2_2 : Int32) (k18 : Int32 → Option (Int32)) (hk18 : ∀ (v3_2 : Int32) (ls : Array Slot), k18 v3_2 = some r0 → lv_has ls 4 [(3, .int v3_2)] → W p l e rmX1_neededRise s m ([.ref k0, .int u1, .int u2] : List Value).toArray below meth c s.heap [] 0 0 (MQ below (pQ (some (.int r0))) ([.ref k0, .int u1, .int u2] : List Value).toArray s 0 0 noF) (F0 m 18 ls [])) (k26 : Option (Int32)) (hk26 : ∀ (ls : Array Slot), k26 = some r0 → lv_has ls 4 [] → W p l e rmX1_neededRise s m ([.ref k0, .int u1, .int u2] : List Value).toArray below meth c s.heap [] 0 0 (MQ below (pQ (some (.int r0))) ([.ref k0, .int u1, .int u2] : List Value).toArray s 0 0 noF) (F0 m 26 ls [])) (n : Nat) (v3_2 : Int32) (ls : Array Slot), fX1_neededRise_2 L g1_2 g2_2 k18 k26 n v3_2 = some r0 → lv_has ls 4 [(0, .ref k0), (1, .int g1_2), (2, .int g2_2), (3, .int v3_2)] → W p l e rmX1_neededRise s m ([.ref k0, .int u1, .int u2] : List Value).toArray below meth c s.heap [] 0 0 (MQ below (pQ (some (.int r0))) ([.ref k0, .int u1, .int u2] : List Value).toArray s 0 0 noF) (F0 m 2 ls []) := by
    intro g1_2 g2_2 k18 hk18 k26 hk26 n
    induction n with
    | zero =>
      intro v3_2 ls hf hl
      cases (show (none : Option (Int32)) = some r0 from hf)
    | succ n ih =>
      intro v3_2 ls hf hl
      rw [fX1_neededRise_2] at hf
      refine lv_iload_n hx hb dX1_neededRise_2 rfl (lv_at hl 3 rfl) ?_
      refine lv_bipush (v := 99) hx hb dX1_neededRise_3 (by decide) ?_
      refine lv_icmp_gt (tgt := 26) hx hb dX1_neededRise_5 (by decide) (fun h => ?_) (fun h => ?_)
      · have hf := (if_pos h).symm.trans hf
        exact hk26 ls hf (lv_sub hl [] rfl)
      · have hf := (if_neg h).symm.trans hf
        refine lv_aload_n hx hb dX1_neededRise_8 rfl (lv_at hl 0 rfl) ?_
        refine lv_iload_n hx hb dX1_neededRise_9 rfl (lv_at hl 1 rfl) ?_
        refine lv_iload_n hx hb dX1_neededRise_10 rfl (lv_at hl 3 rfl) ?_
        refine lv_iload_n hx hb dX1_neededRise_11 rfl (lv_at hl 2 rfl) ?_
        obtain ⟨r2, hc1, hf⟩ := bd_some hf
        refine pCallVI ⟨hx, hb, hml, hown, hts⟩ (mtX1_canSee l D cy z k0 k1 k2 k3 k4 L g1_2 v3_2 g2_2 r2 hc1) miX1_canSee q387 ⟨Nat.le_of_ble_eq_true rfl, Nat.le_of_ble_eq_true rfl⟩ ⟨rfl, rfl⟩ hP hKK hS hA0 (va_recv hKK.1 hP (ci := 1) (q0 := 0) rfl rfl) rfl hl.1 rfl (Nat.le_of_ble_eq_true rfl) dX1_neededRise_12 ⟨Nat.zero_le _, Nat.zero_le _⟩ ?_
        refine lv_if_eq (tgt := 20) hx hb dX1_neededRise_15 (by decide) (fun h => ?_) (fun h => ?_)
        · have hf := (if_pos h).symm.trans hf
          obtain ⟨x3, ex3, hf⟩ := nm_ex hf
          refine lv_iinc (v := x3) (lv' := [(3, .int x3), (0, .ref k0), (1, .int g1_2), (2, .int g2_2)]) hx hb dX1_neededRise_20 hl (k := 3) rfl (Eq.trans rfl ex3) (by decide) rfl (fun ls hl => ?_)
          refine lv_goto (tgt := 2) hx hb dX1_neededRise_23 (by decide) ?_
          exact ih x3 ls hf (lv_sub hl [1, 2, 3, 0] rfl)
        · have hf := (if_neg h).symm.trans hf
          exact hk18 v3_2 ls hf (lv_sub hl [3] rfl)
  unfold fX1_neededRise at hf
  refine lv_iconst (v := 0) hx hb dX1_neededRise_0 (by decide) ?_
  refine lv_istore_n (lv' := [(3, .int (0 : Int32)), (0, .ref k0), (1, .int u1), (2, .int u2)]) hx hb dX1_neededRise_1 rfl hl (by decide) rfl (fun ls hl => ?_)
  refine w_2 u1 u2 _ ?_ _ ?_ _ (0 : Int32) ls hf (lv_sub hl [1, 2, 3, 0] rfl)
  · intro y4 ls hf hl
    refine lv_iload_n hx hb dX1_neededRise_18 rfl (lv_at hl 0 rfl) ?_
    exact pretI hx hb hr hlk hf dX1_neededRise_19
  · intro  ls hf hl
    refine lv_bipush (v := -9) hx hb dX1_neededRise_26 (by decide) ?_
    exact pretI hx hb hr hlk hf dX1_neededRise_28

abbrev rmX1_viewFrom : Room := { frames := 3, cells := 0, slots := 0, locals := 83 }
theorem miX1_viewFrom : miV yX1_viewFrom cX1_viewFrom 6 (some .long) 2 := ⟨q386, q41, q384, q385, by decide +kernel⟩
set_option maxHeartbeats 4000000 in
set_option maxRecDepth 100000 in
theorem mtX1_viewFrom (l : Launch) (D : va_G) (cy : Nat → ClassId) (z : zT) (k0 k1 k2 k3 k4 : Nat) (L : tL) (u1 : Int32) (u2 : Int32) (r0 : Int64) (hf : fX1_viewFrom L u1 u2 = some r0) : pmet l yX1_viewFrom cX1_viewFrom 6 (some .long) rmX1_viewFrom D cy z (wL cy k0 k1 k2 k3 k4 L) [.ref k0, .int u1, .int u2] (some (.long r0)) := by
  refine pmet_of (by decide +kernel) (Nat.le_of_ble_eq_true rfl) (fun p e s m below meth c hx hb hr hml hown hts hlk hP hKK ls hl => ?_)
  have hS : va_S noF s.heap s.heap [] := va_S.rf
  have hA0 : ∀ q, noF q → zA z q := fun _ h => h.elim
  have hown : s.vm.findClass "HillSight$Land" = some m.cls := hown
  have hl : lv_has ls 6 [(0, .ref k0), (1, .int u1), (2, .int u2)] := hl
  have w_5 : ∀ (g1_5 : Int32) (g2_5 : Int32) (k43 : Int64 → Option (Int64)) (hk43 : ∀ (v3_5 : Int64) (ls : Array Slot), k43 v3_5 = some r0 → lv_has ls 6 [(3, .long v3_5)] → W p l e rmX1_viewFrom s m ([.ref k0, .int u1, .int u2] : List Value).toArray below meth c s.heap [] 0 0 (MQ below (pQ (some (.long r0))) ([.ref k0, .int u1, .int u2] : List Value).toArray s 0 0 noF) (F0 m 43 ls [])) (n : Nat) (v3_5 : Int64) (v5_5 : Int32) (ls : Array Slot), fX1_viewFrom_5 L g1_5 g2_5 k43 n v3_5 v5_5 = some r0 → lv_has ls 6 [(0, .ref k0), (1, .int g1_5), (2, .int g2_5), (3, .long v3_5), (5, .int v5_5)] → W p l e rmX1_viewFrom s m ([.ref k0, .int u1, .int u2] : List Value).toArray below meth c s.heap [] 0 0 (MQ below (pQ (some (.long r0))) ([.ref k0, .int u1, .int u2] : List Value).toArray s 0 0 noF) (F0 m 5 ls []) := by
    intro g1_5 g2_5 k43 hk43 n
    induction n with
    | zero =>
      intro v3_5 v5_5 ls hf hl
      cases (show (none : Option (Int64)) = some r0 from hf)
    | succ n ih =>
      intro v3_5 v5_5 ls hf hl
      rw [fX1_viewFrom_5] at hf
      refine lv_iload hx hb dX1_viewFrom_5 (lv_at hl 4 rfl) ?_
      refine lv_aload_n hx hb dX1_viewFrom_7 rfl (lv_at hl 0 rfl) ?_
      refine va_get (D := D) (ci := 1) (v := .int L.1) (C := RX1) (T := TX1) (N := 7) hx hb hts inX1 hown hKK.1 hP 0 rfl rfl 0 (by decide) (hts _ q76) (fun _ h => h) rfl dX1_viewFrom_8 ?_
      refine lv_aload_n hx hb dX1_viewFrom_11 rfl (lv_at hl 0 rfl) ?_
      refine va_get (D := D) (ci := 1) (v := .int L.2.1) (C := RX1) (T := TX1) (N := 7) hx hb hts inX1 hown hKK.1 hP 0 rfl rfl 1 (by decide) (hts _ q78) (fun _ h => h) rfl dX1_viewFrom_12 ?_
      refine lv_imul hx hb dX1_viewFrom_15 ?_
      refine lv_icmp_ge (tgt := 43) hx hb dX1_viewFrom_16 (by decide) (fun h => ?_) (fun h => ?_)
      · have hf := (if_pos h).symm.trans hf
        exact hk43 v3_5 ls hf (lv_sub hl [3] rfl)
      · have hf := (if_neg h).symm.trans hf
        refine lv_aload_n hx hb dX1_viewFrom_19 rfl (lv_at hl 0 rfl) ?_
        refine lv_iload_n hx hb dX1_viewFrom_20 rfl (lv_at hl 1 rfl) ?_
        refine lv_iload_n hx hb dX1_viewFrom_21 rfl (lv_at hl 2 rfl) ?_
        refine lv_iload hx hb dX1_viewFrom_22 (lv_at hl 4 rfl) ?_
        obtain ⟨r2, hc1, hf⟩ := bd_some hf
        refine pCallVI ⟨hx, hb, hml, hown, hts⟩ (mtX1_canSee l D cy z k0 k1 k2 k3 k4 L g1_5 g2_5 v5_5 r2 hc1) miX1_canSee q387 ⟨Nat.le_of_ble_eq_true rfl, Nat.le_of_ble_eq_true rfl⟩ ⟨rfl, rfl⟩ hP hKK hS hA0 (va_recv hKK.1 hP (ci := 1) (q0 := 0) rfl rfl) rfl hl.1 rfl (Nat.le_of_ble_eq_true rfl) dX1_viewFrom_24 ⟨Nat.zero_le _, Nat.zero_le _⟩ ?_
        refine lv_if_eq (tgt := 37) hx hb dX1_viewFrom_27 (by decide) (fun h => ?_) (fun h => ?_)
        · have hf := (if_pos h).symm.trans hf
          obtain ⟨x3, ex3, hf⟩ := nm_ex hf
          refine lv_iinc (v := x3) (lv' := [(5, .int x3), (0, .ref k0), (1, .int g1_5), (2, .int g2_5), (3, .long v3_5)]) hx hb dX1_viewFrom_37 hl (k := 4) rfl (Eq.trans rfl ex3) (by decide) rfl (fun ls hl => ?_)
          refine lv_goto (tgt := 5) hx hb dX1_viewFrom_40 (by decide) ?_
          exact ih v3_5 x3 ls hf (lv_sub hl [1, 2, 3, 4, 0] rfl)
        · have hf := (if_neg h).symm.trans hf
          refine lv_lload_n hx hb dX1_viewFrom_30 rfl (lv_at hl 3 rfl) ?_
          refine lv_lconst (v := 1) hx hb dX1_viewFrom_31 (by decide) ?_
          refine lv_iload hx hb dX1_viewFrom_32 (lv_at hl 4 rfl) ?_
          refine lv_lshl hx hb dX1_viewFrom_34 rfl ?_
          refine lv_lor hx hb dX1_viewFrom_35 ?_
          refine nm_l hf (fun x4 hf => ?_)
          refine lv_lstore_n (lv' := [(3, .long x4), (0, .ref k0), (1, .int g1_5), (2, .int g2_5), (5, .int v5_5)]) hx hb dX1_viewFrom_36 rfl hl (by decide) rfl (fun ls hl => ?_)
          obtain ⟨x5, ex5, hf⟩ := nm_ex hf
          refine lv_iinc (v := x5) (lv' := [(5, .int x5), (3, .long x4), (0, .ref k0), (1, .int g1_5), (2, .int g2_5)]) hx hb dX1_viewFrom_37 hl (k := 4) rfl (Eq.trans rfl ex5) (by decide) rfl (fun ls hl => ?_)
          refine lv_goto (tgt := 5) hx hb dX1_viewFrom_40 (by decide) ?_
          exact ih x4 x5 ls hf (lv_sub hl [2, 3, 4, 1, 0] rfl)
  unfold fX1_viewFrom at hf
  refine lv_lconst (v := 0) hx hb dX1_viewFrom_0 (by decide) ?_
  refine lv_lstore_n (lv' := [(3, .long (0 : Int64)), (0, .ref k0), (1, .int u1), (2, .int u2)]) hx hb dX1_viewFrom_1 rfl hl (by decide) rfl (fun ls hl => ?_)
  refine lv_iconst (v := 0) hx hb dX1_viewFrom_2 (by decide) ?_
  refine lv_istore (lv' := [(5, .int (0 : Int32)), (3, .long (0 : Int64)), (0, .ref k0), (1, .int u1), (2, .int u2)]) hx hb dX1_viewFrom_3 hl (by decide) rfl (fun ls hl => ?_)
  refine w_5 u1 u2 _ ?_ _ (0 : Int64) (0 : Int32) ls hf (lv_sub hl [2, 3, 4, 1, 0] rfl)
  · intro y6 ls hf hl
    refine lv_lload_n hx hb dX1_viewFrom_43 rfl (lv_at hl 0 rfl) ?_
    exact pretL hx hb hr hlk hf dX1_viewFrom_44

abbrev rmX1_towerView : Room := { frames := 4, cells := 0, slots := 0, locals := 108 }
theorem miX1_towerView : miV yX1_towerView cX1_towerView 2 (some .long) 1 := ⟨q467, q41, q465, q466, by decide +kernel⟩
set_option maxHeartbeats 4000000 in
set_option maxRecDepth 100000 in
theorem mtX1_towerView (l : Launch) (D : va_G) (cy : Nat → ClassId) (z : zT) (k0 k1 k2 k3 k4 : Nat) (L : tL) (u1 : Int32) (r0 : Int64) (hf : fX1_towerView L u1 = some r0) : pmet l yX1_towerView cX1_towerView 2 (some .long) rmX1_towerView D cy z (wL cy k0 k1 k2 k3 k4 L) [.ref k0, .int u1] (some (.long r0)) := by
  refine pmet_of (by decide +kernel) (Nat.le_of_ble_eq_true rfl) (fun p e s m below meth c hx hb hr hml hown hts hlk hP hKK ls hl => ?_)
  have hS : va_S noF s.heap s.heap [] := va_S.rf
  have hA0 : ∀ q, noF q → zA z q := fun _ h => h.elim
  have hown : s.vm.findClass "HillSight$Land" = some m.cls := hown
  have hl : lv_has ls 2 [(0, .ref k0), (1, .int u1)] := hl
  unfold fX1_towerView at hf
  refine lv_aload_n hx hb dX1_towerView_0 rfl (lv_at hl 0 rfl) ?_
  refine lv_iload_n hx hb dX1_towerView_1 rfl (lv_at hl 1 rfl) ?_
  obtain ⟨r2, hc1, hf⟩ := bd_some hf
  refine pCallVI ⟨hx, hb, hml, hown, hts⟩ (mtX1_hasTower l D cy z k0 k1 k2 k3 k4 L u1 r2 hc1) miX1_hasTower q468 ⟨Nat.le_of_ble_eq_true rfl, Nat.le_of_ble_eq_true rfl⟩ ⟨rfl, rfl⟩ hP hKK hS hA0 (va_recv hKK.1 hP (ci := 1) (q0 := 0) rfl rfl) rfl hl.1 rfl (Nat.le_of_ble_eq_true rfl) dX1_towerView_2 ⟨Nat.zero_le _, Nat.zero_le _⟩ ?_
  refine lv_if_eq (tgt := 27) hx hb dX1_towerView_5 (by decide) (fun h => ?_) (fun h => ?_)
  · have hf := (if_pos h).symm.trans hf
    refine lv_lconst (v := 0) hx hb dX1_towerView_27 (by decide) ?_
    exact pretL hx hb hr hlk hf dX1_towerView_28
  · have hf := (if_neg h).symm.trans hf
    refine lv_aload_n hx hb dX1_towerView_8 rfl (lv_at hl 0 rfl) ?_
    refine lv_aload_n hx hb dX1_towerView_9 rfl (lv_at hl 0 rfl) ?_
    refine va_get (D := D) (ci := 1) (v := .ref k2) (C := RX1) (T := TX1) (N := 7) hx hb hts inX1 hown hKK.1 hP 0 rfl rfl 4 (by decide) (hts _ q84) (fun _ h => h) rfl dX1_towerView_10 ?_
    refine lv_iload_n hx hb dX1_towerView_13 rfl (lv_at hl 1 rfl) ?_
    obtain ⟨hg3, hf⟩ := gd_some hf
    refine va_iald hx hb hKK.1 hP 2 0 rfl rfl (inb_in hg3) dX1_towerView_14 ?_
    refine lv_aload_n hx hb dX1_towerView_15 rfl (lv_at hl 0 rfl) ?_
    refine va_get (D := D) (ci := 1) (v := .ref k3) (C := RX1) (T := TX1) (N := 7) hx hb hts inX1 hown hKK.1 hP 0 rfl rfl 5 (by decide) (hts _ q86) (fun _ h => h) rfl dX1_towerView_16 ?_
    refine lv_iload_n hx hb dX1_towerView_19 rfl (lv_at hl 1 rfl) ?_
    obtain ⟨hg4, hf⟩ := gd_some hf
    refine va_iald hx hb hKK.1 hP 3 0 rfl rfl (inb_in hg4) dX1_towerView_20 ?_
    obtain ⟨r6, hc5, hf⟩ := bd_some hf
    refine pCallVL ⟨hx, hb, hml, hown, hts⟩ (mtX1_viewFrom l D cy z k0 k1 k2 k3 k4 L (L.2.2.2.2.1 u1.toNatClampNeg) (L.2.2.2.2.2.1 u1.toNatClampNeg) r6 hc5) miX1_viewFrom q383 ⟨Nat.le_of_ble_eq_true rfl, Nat.le_of_ble_eq_true rfl⟩ ⟨rfl, rfl⟩ hP hKK hS hA0 (va_recv hKK.1 hP (ci := 1) (q0 := 0) rfl rfl) rfl hl.1 rfl (Nat.le_of_ble_eq_true rfl) dX1_towerView_21 ⟨Nat.zero_le _, Nat.zero_le _⟩ ?_
    refine lv_goto (tgt := 28) hx hb dX1_towerView_24 (by decide) ?_
    exact pretL hx hb hr hlk hf dX1_towerView_28

abbrev rmX1_seenAlone : Room := { frames := 5, cells := 0, slots := 0, locals := 129 }
theorem miX1_seenAlone : miV yX1_seenAlone cX1_seenAlone 5 (some .long) 1 := ⟨q472, q41, q470, q471, by decide +kernel⟩
set_option maxHeartbeats 4000000 in
set_option maxRecDepth 100000 in
theorem mtX1_seenAlone (l : Launch) (D : va_G) (cy : Nat → ClassId) (z : zT) (k0 k1 k2 k3 k4 : Nat) (L : tL) (u1 : Int32) (r0 : Int64) (hf : fX1_seenAlone L u1 = some r0) : pmet l yX1_seenAlone cX1_seenAlone 5 (some .long) rmX1_seenAlone D cy z (wL cy k0 k1 k2 k3 k4 L) [.ref k0, .int u1] (some (.long r0)) := by
  refine pmet_of (by decide +kernel) (Nat.le_of_ble_eq_true rfl) (fun p e s m below meth c hx hb hr hml hown hts hlk hP hKK ls hl => ?_)
  have hS : va_S noF s.heap s.heap [] := va_S.rf
  have hA0 : ∀ q, noF q → zA z q := fun _ h => h.elim
  have hown : s.vm.findClass "HillSight$Land" = some m.cls := hown
  have hl : lv_has ls 5 [(0, .ref k0), (1, .int u1)] := hl
  have w_9 : ∀ (g1_9 : Int32) (k61 : Int64 → Option (Int64)) (hk61 : ∀ (v2_9 : Int64) (ls : Array Slot), k61 v2_9 = some r0 → lv_has ls 5 [(2, .long v2_9)] → W p l e rmX1_seenAlone s m ([.ref k0, .int u1] : List Value).toArray below meth c s.heap [] 0 0 (MQ below (pQ (some (.long r0))) ([.ref k0, .int u1] : List Value).toArray s 0 0 noF) (F0 m 61 ls [])) (n : Nat) (v2_9 : Int64) (v4_9 : Int32) (ls : Array Slot), fX1_seenAlone_9 L g1_9 k61 n v2_9 v4_9 = some r0 → lv_has ls 5 [(0, .ref k0), (1, .int g1_9), (2, .long v2_9), (4, .int v4_9)] → W p l e rmX1_seenAlone s m ([.ref k0, .int u1] : List Value).toArray below meth c s.heap [] 0 0 (MQ below (pQ (some (.long r0))) ([.ref k0, .int u1] : List Value).toArray s 0 0 noF) (F0 m 9 ls []) := by
    intro g1_9 k61 hk61 n
    induction n with
    | zero =>
      intro v2_9 v4_9 ls hf hl
      cases (show (none : Option (Int64)) = some r0 from hf)
    | succ n ih =>
      intro v2_9 v4_9 ls hf hl
      rw [fX1_seenAlone_9] at hf
      refine lv_iload hx hb dX1_seenAlone_9 (lv_at hl 3 rfl) ?_
      refine lv_aload_n hx hb dX1_seenAlone_11 rfl (lv_at hl 0 rfl) ?_
      refine va_get (D := D) (ci := 1) (v := .int L.2.2.1) (C := RX1) (T := TX1) (N := 7) hx hb hts inX1 hown hKK.1 hP 0 rfl rfl 2 (by decide) (hts _ q80) (fun _ h => h) rfl dX1_seenAlone_12 ?_
      refine lv_icmp_ge (tgt := 61) hx hb dX1_seenAlone_15 (by decide) (fun h => ?_) (fun h => ?_)
      · have hf := (if_pos h).symm.trans hf
        exact hk61 v2_9 ls hf (lv_sub hl [2] rfl)
      · have hf := (if_neg h).symm.trans hf
        refine lv_iload hx hb dX1_seenAlone_18 (lv_at hl 3 rfl) ?_
        refine lv_iconst (v := 5) hx hb dX1_seenAlone_20 (by decide) ?_
        refine lv_icmp_ge (tgt := 61) hx hb dX1_seenAlone_21 (by decide) (fun h => ?_) (fun h => ?_)
        · have hf := (if_pos h).symm.trans hf
          exact hk61 v2_9 ls hf (lv_sub hl [2] rfl)
        · have hf := (if_neg h).symm.trans hf
          refine lv_iload hx hb dX1_seenAlone_24 (lv_at hl 3 rfl) ?_
          refine lv_iload_n hx hb dX1_seenAlone_26 rfl (lv_at hl 1 rfl) ?_
          refine lv_icmp_eq (tgt := 55) hx hb dX1_seenAlone_27 (by decide) (fun h => ?_) (fun h => ?_)
          · have hf := (if_pos h).symm.trans hf
            obtain ⟨x3, ex3, hf⟩ := nm_ex hf
            refine lv_iinc (v := x3) (lv' := [(4, .int x3), (0, .ref k0), (1, .int g1_9), (2, .long v2_9)]) hx hb dX1_seenAlone_55 hl (k := 3) rfl (Eq.trans rfl ex3) (by decide) rfl (fun ls hl => ?_)
            refine lv_goto (tgt := 9) hx hb dX1_seenAlone_58 (by decide) ?_
            exact ih v2_9 x3 ls hf (lv_sub hl [1, 2, 3, 0] rfl)
          · have hf := (if_neg h).symm.trans hf
            refine lv_lload_n hx hb dX1_seenAlone_30 rfl (lv_at hl 2 rfl) ?_
            refine lv_aload_n hx hb dX1_seenAlone_31 rfl (lv_at hl 0 rfl) ?_
            refine lv_aload_n hx hb dX1_seenAlone_32 rfl (lv_at hl 0 rfl) ?_
            refine va_get (D := D) (ci := 1) (v := .ref k2) (C := RX1) (T := TX1) (N := 7) hx hb hts inX1 hown hKK.1 hP 0 rfl rfl 4 (by decide) (hts _ q84) (fun _ h => h) rfl dX1_seenAlone_33 ?_
            refine lv_iload hx hb dX1_seenAlone_36 (lv_at hl 3 rfl) ?_
            obtain ⟨hg4, hf⟩ := gd_some hf
            refine va_iald hx hb hKK.1 hP 2 0 rfl rfl (inb_in hg4) dX1_seenAlone_38 ?_
            refine lv_aload_n hx hb dX1_seenAlone_39 rfl (lv_at hl 0 rfl) ?_
            refine va_get (D := D) (ci := 1) (v := .ref k3) (C := RX1) (T := TX1) (N := 7) hx hb hts inX1 hown hKK.1 hP 0 rfl rfl 5 (by decide) (hts _ q86) (fun _ h => h) rfl dX1_seenAlone_40 ?_
            refine lv_iload hx hb dX1_seenAlone_43 (lv_at hl 3 rfl) ?_
            obtain ⟨hg5, hf⟩ := gd_some hf
            refine va_iald hx hb hKK.1 hP 3 0 rfl rfl (inb_in hg5) dX1_seenAlone_45 ?_
            obtain ⟨r7, hc6, hf⟩ := bd_some hf
            refine pCallVL ⟨hx, hb, hml, hown, hts⟩ (mtX1_viewFrom l D cy z k0 k1 k2 k3 k4 L (L.2.2.2.2.1 v4_9.toNatClampNeg) (L.2.2.2.2.2.1 v4_9.toNatClampNeg) r7 hc6) miX1_viewFrom q383 ⟨Nat.le_of_ble_eq_true rfl, Nat.le_of_ble_eq_true rfl⟩ ⟨rfl, rfl⟩ hP hKK hS hA0 (va_recv hKK.1 hP (ci := 1) (q0 := 0) rfl rfl) rfl hl.1 rfl (Nat.le_of_ble_eq_true rfl) dX1_seenAlone_46 ⟨Nat.zero_le _, Nat.zero_le _⟩ ?_
            refine lv_ldc2 hx hb hown (hts _ q419) dX1_seenAlone_49 ?_
            refine lv_lxor hx hb dX1_seenAlone_52 ?_
            refine lv_land hx hb dX1_seenAlone_53 ?_
            refine nm_l hf (fun x8 hf => ?_)
            refine lv_lstore_n (lv' := [(2, .long x8), (0, .ref k0), (1, .int g1_9), (4, .int v4_9)]) hx hb dX1_seenAlone_54 rfl hl (by decide) rfl (fun ls hl => ?_)
            obtain ⟨x9, ex9, hf⟩ := nm_ex hf
            refine lv_iinc (v := x9) (lv' := [(4, .int x9), (2, .long x8), (0, .ref k0), (1, .int g1_9)]) hx hb dX1_seenAlone_55 hl (k := 3) rfl (Eq.trans rfl ex9) (by decide) rfl (fun ls hl => ?_)
            refine lv_goto (tgt := 9) hx hb dX1_seenAlone_58 (by decide) ?_
            exact ih x8 x9 ls hf (lv_sub hl [2, 3, 1, 0] rfl)
  unfold fX1_seenAlone at hf
  refine lv_aload_n hx hb dX1_seenAlone_0 rfl (lv_at hl 0 rfl) ?_
  refine lv_iload_n hx hb dX1_seenAlone_1 rfl (lv_at hl 1 rfl) ?_
  obtain ⟨r2, hc1, hf⟩ := bd_some hf
  refine pCallVL ⟨hx, hb, hml, hown, hts⟩ (mtX1_towerView l D cy z k0 k1 k2 k3 k4 L u1 r2 hc1) miX1_towerView q473 ⟨Nat.le_of_ble_eq_true rfl, Nat.le_of_ble_eq_true rfl⟩ ⟨rfl, rfl⟩ hP hKK hS hA0 (va_recv hKK.1 hP (ci := 1) (q0 := 0) rfl rfl) rfl hl.1 rfl (Nat.le_of_ble_eq_true rfl) dX1_seenAlone_2 ⟨Nat.zero_le _, Nat.zero_le _⟩ ?_
  refine lv_lstore_n (lv' := [(2, .long r2), (0, .ref k0), (1, .int u1)]) hx hb dX1_seenAlone_5 rfl hl (by decide) rfl (fun ls hl => ?_)
  refine lv_iconst (v := 0) hx hb dX1_seenAlone_6 (by decide) ?_
  refine lv_istore (lv' := [(4, .int (0 : Int32)), (2, .long r2), (0, .ref k0), (1, .int u1)]) hx hb dX1_seenAlone_7 hl (by decide) rfl (fun ls hl => ?_)
  refine w_9 u1 _ ?_ _ r2 (0 : Int32) ls hf (lv_sub hl [2, 3, 1, 0] rfl)
  · intro y10 ls hf hl
    refine lv_lload_n hx hb dX1_seenAlone_61 rfl (lv_at hl 0 rfl) ?_
    exact pretL hx hb hr hlk hf dX1_seenAlone_62

abbrev rmX1_hiddenSet : Room := { frames := 4, cells := 0, slots := 0, locals := 108 }
theorem miX1_hiddenSet : miV yX1_hiddenSet cX1_hiddenSet 4 (some .long) 0 := ⟨q382, q41, q380, q381, by decide +kernel⟩
set_option maxHeartbeats 4000000 in
set_option maxRecDepth 100000 in
theorem mtX1_hiddenSet (l : Launch) (D : va_G) (cy : Nat → ClassId) (z : zT) (k0 k1 k2 k3 k4 : Nat) (L : tL) (r0 : Int64) (hf : fX1_hiddenSet L = some r0) : pmet l yX1_hiddenSet cX1_hiddenSet 4 (some .long) rmX1_hiddenSet D cy z (wL cy k0 k1 k2 k3 k4 L) [.ref k0] (some (.long r0)) := by
  refine pmet_of (by decide +kernel) (Nat.le_of_ble_eq_true rfl) (fun p e s m below meth c hx hb hr hml hown hts hlk hP hKK ls hl => ?_)
  have hS : va_S noF s.heap s.heap [] := va_S.rf
  have hA0 : ∀ q, noF q → zA z q := fun _ h => h.elim
  have hown : s.vm.findClass "HillSight$Land" = some m.cls := hown
  have hl : lv_has ls 4 [(0, .ref k0)] := hl
  have w_16 : ∀ (k58 : Int64 → Option (Int64)) (hk58 : ∀ (v1_16 : Int64) (ls : Array Slot), k58 v1_16 = some r0 → lv_has ls 4 [(1, .long v1_16)] → W p l e rmX1_hiddenSet s m ([.ref k0] : List Value).toArray below meth c s.heap [] 0 0 (MQ below (pQ (some (.long r0))) ([.ref k0] : List Value).toArray s 0 0 noF) (F0 m 58 ls [])) (n : Nat) (v1_16 : Int64) (v3_16 : Int32) (ls : Array Slot), fX1_hiddenSet_16 L k58 n v1_16 v3_16 = some r0 → lv_has ls 4 [(0, .ref k0), (1, .long v1_16), (3, .int v3_16)] → W p l e rmX1_hiddenSet s m ([.ref k0] : List Value).toArray below meth c s.heap [] 0 0 (MQ below (pQ (some (.long r0))) ([.ref k0] : List Value).toArray s 0 0 noF) (F0 m 16 ls []) := by
    intro k58 hk58 n
    induction n with
    | zero =>
      intro v1_16 v3_16 ls hf hl
      cases (show (none : Option (Int64)) = some r0 from hf)
    | succ n ih =>
      intro v1_16 v3_16 ls hf hl
      rw [fX1_hiddenSet_16] at hf
      refine lv_iload_n hx hb dX1_hiddenSet_16 rfl (lv_at hl 2 rfl) ?_
      refine lv_aload_n hx hb dX1_hiddenSet_17 rfl (lv_at hl 0 rfl) ?_
      refine va_get (D := D) (ci := 1) (v := .int L.2.2.1) (C := RX1) (T := TX1) (N := 7) hx hb hts inX1 hown hKK.1 hP 0 rfl rfl 2 (by decide) (hts _ q80) (fun _ h => h) rfl dX1_hiddenSet_18 ?_
      refine lv_icmp_ge (tgt := 58) hx hb dX1_hiddenSet_21 (by decide) (fun h => ?_) (fun h => ?_)
      · have hf := (if_pos h).symm.trans hf
        exact hk58 v1_16 ls hf (lv_sub hl [1] rfl)
      · have hf := (if_neg h).symm.trans hf
        refine lv_iload_n hx hb dX1_hiddenSet_24 rfl (lv_at hl 2 rfl) ?_
        refine lv_iconst (v := 5) hx hb dX1_hiddenSet_25 (by decide) ?_
        refine lv_icmp_ge (tgt := 58) hx hb dX1_hiddenSet_26 (by decide) (fun h => ?_) (fun h => ?_)
        · have hf := (if_pos h).symm.trans hf
          exact hk58 v1_16 ls hf (lv_sub hl [1] rfl)
        · have hf := (if_neg h).symm.trans hf
          refine lv_lload_n hx hb dX1_hiddenSet_29 rfl (lv_at hl 1 rfl) ?_
          refine lv_aload_n hx hb dX1_hiddenSet_30 rfl (lv_at hl 0 rfl) ?_
          refine lv_aload_n hx hb dX1_hiddenSet_31 rfl (lv_at hl 0 rfl) ?_
          refine va_get (D := D) (ci := 1) (v := .ref k2) (C := RX1) (T := TX1) (N := 7) hx hb hts inX1 hown hKK.1 hP 0 rfl rfl 4 (by decide) (hts _ q84) (fun _ h => h) rfl dX1_hiddenSet_32 ?_
          refine lv_iload_n hx hb dX1_hiddenSet_35 rfl (lv_at hl 2 rfl) ?_
          obtain ⟨hg2, hf⟩ := gd_some hf
          refine va_iald hx hb hKK.1 hP 2 0 rfl rfl (inb_in hg2) dX1_hiddenSet_36 ?_
          refine lv_aload_n hx hb dX1_hiddenSet_37 rfl (lv_at hl 0 rfl) ?_
          refine va_get (D := D) (ci := 1) (v := .ref k3) (C := RX1) (T := TX1) (N := 7) hx hb hts inX1 hown hKK.1 hP 0 rfl rfl 5 (by decide) (hts _ q86) (fun _ h => h) rfl dX1_hiddenSet_38 ?_
          refine lv_iload_n hx hb dX1_hiddenSet_41 rfl (lv_at hl 2 rfl) ?_
          obtain ⟨hg3, hf⟩ := gd_some hf
          refine va_iald hx hb hKK.1 hP 3 0 rfl rfl (inb_in hg3) dX1_hiddenSet_42 ?_
          obtain ⟨r5, hc4, hf⟩ := bd_some hf
          refine pCallVL ⟨hx, hb, hml, hown, hts⟩ (mtX1_viewFrom l D cy z k0 k1 k2 k3 k4 L (L.2.2.2.2.1 v3_16.toNatClampNeg) (L.2.2.2.2.2.1 v3_16.toNatClampNeg) r5 hc4) miX1_viewFrom q383 ⟨Nat.le_of_ble_eq_true rfl, Nat.le_of_ble_eq_true rfl⟩ ⟨rfl, rfl⟩ hP hKK hS hA0 (va_recv hKK.1 hP (ci := 1) (q0 := 0) rfl rfl) rfl hl.1 rfl (Nat.le_of_ble_eq_true rfl) dX1_hiddenSet_43 ⟨Nat.zero_le _, Nat.zero_le _⟩ ?_
          refine lv_ldc2 hx hb hown (hts _ q419) dX1_hiddenSet_46 ?_
          refine lv_lxor hx hb dX1_hiddenSet_49 ?_
          refine lv_land hx hb dX1_hiddenSet_50 ?_
          refine nm_l hf (fun x6 hf => ?_)
          refine lv_lstore_n (lv' := [(1, .long x6), (0, .ref k0), (3, .int v3_16)]) hx hb dX1_hiddenSet_51 rfl hl (by decide) rfl (fun ls hl => ?_)
          obtain ⟨x7, ex7, hf⟩ := nm_ex hf
          refine lv_iinc (v := x7) (lv' := [(3, .int x7), (1, .long x6), (0, .ref k0)]) hx hb dX1_hiddenSet_52 hl (k := 2) rfl (Eq.trans rfl ex7) (by decide) rfl (fun ls hl => ?_)
          refine lv_goto (tgt := 16) hx hb dX1_hiddenSet_55 (by decide) ?_
          exact ih x6 x7 ls hf (lv_sub hl [2, 1, 0] rfl)
  unfold fX1_hiddenSet at hf
  refine lv_lconst (v := 1) hx hb dX1_hiddenSet_0 (by decide) ?_
  refine lv_aload_n hx hb dX1_hiddenSet_1 rfl (lv_at hl 0 rfl) ?_
  refine va_get (D := D) (ci := 1) (v := .int L.1) (C := RX1) (T := TX1) (N := 7) hx hb hts inX1 hown hKK.1 hP 0 rfl rfl 0 (by decide) (hts _ q76) (fun _ h => h) rfl dX1_hiddenSet_2 ?_
  refine lv_aload_n hx hb dX1_hiddenSet_5 rfl (lv_at hl 0 rfl) ?_
  refine va_get (D := D) (ci := 1) (v := .int L.2.1) (C := RX1) (T := TX1) (N := 7) hx hb hts inX1 hown hKK.1 hP 0 rfl rfl 1 (by decide) (hts _ q78) (fun _ h => h) rfl dX1_hiddenSet_6 ?_
  refine lv_imul hx hb dX1_hiddenSet_9 ?_
  refine lv_lshl hx hb dX1_hiddenSet_10 rfl ?_
  refine lv_lconst (v := 1) hx hb dX1_hiddenSet_11 (by decide) ?_
  refine lv_lsub hx hb dX1_hiddenSet_12 ?_
  refine nm_l hf (fun x1 hf => ?_)
  refine lv_lstore_n (lv' := [(1, .long x1), (0, .ref k0)]) hx hb dX1_hiddenSet_13 rfl hl (by decide) rfl (fun ls hl => ?_)
  refine lv_iconst (v := 0) hx hb dX1_hiddenSet_14 (by decide) ?_
  refine lv_istore_n (lv' := [(3, .int (0 : Int32)), (1, .long x1), (0, .ref k0)]) hx hb dX1_hiddenSet_15 rfl hl (by decide) rfl (fun ls hl => ?_)
  refine w_16 _ ?_ _ x1 (0 : Int32) ls hf (lv_sub hl [2, 1, 0] rfl)
  · intro y8 ls hf hl
    refine lv_lload_n hx hb dX1_hiddenSet_58 rfl (lv_at hl 0 rfl) ?_
    exact pretL hx hb hr hlk hf dX1_hiddenSet_59

abbrev rmX1_towersOn : Room := { frames := 0, cells := 0, slots := 0, locals := 0 }
theorem miX1_towersOn : miV yX1_towersOn cX1_towersOn 4 (some .int) 1 := ⟨q443, q41, q441, q442, by decide +kernel⟩
set_option maxHeartbeats 4000000 in
set_option maxRecDepth 100000 in
theorem mtX1_towersOn (l : Launch) (D : va_G) (cy : Nat → ClassId) (z : zT) (k0 k1 k2 k3 k4 : Nat) (L : tL) (u1 : Int32) (r0 : Int32) (hf : fX1_towersOn L u1 = some r0) : pmet l yX1_towersOn cX1_towersOn 4 (some .int) rmX1_towersOn D cy z (wL cy k0 k1 k2 k3 k4 L) [.ref k0, .int u1] (some (.int r0)) := by
  refine pmet_of (by decide +kernel) (Nat.le_of_ble_eq_true rfl) (fun p e s m below meth c hx hb hr hml hown hts hlk hP hKK ls hl => ?_)
  have hS : va_S noF s.heap s.heap [] := va_S.rf
  have hA0 : ∀ q, noF q → zA z q := fun _ h => h.elim
  have hown : s.vm.findClass "HillSight$Land" = some m.cls := hown
  have hl : lv_has ls 4 [(0, .ref k0), (1, .int u1)] := hl
  have w_4 : ∀ (g1_4 : Int32) (k39 : Int32 → Option (Int32)) (hk39 : ∀ (v2_4 : Int32) (ls : Array Slot), k39 v2_4 = some r0 → lv_has ls 4 [(2, .int v2_4)] → W p l e rmX1_towersOn s m ([.ref k0, .int u1] : List Value).toArray below meth c s.heap [] 0 0 (MQ below (pQ (some (.int r0))) ([.ref k0, .int u1] : List Value).toArray s 0 0 noF) (F0 m 39 ls [])) (n : Nat) (v2_4 : Int32) (v3_4 : Int32) (ls : Array Slot), fX1_towersOn_4 L g1_4 k39 n v2_4 v3_4 = some r0 → lv_has ls 4 [(0, .ref k0), (1, .int g1_4), (2, .int v2_4), (3, .int v3_4)] → W p l e rmX1_towersOn s m ([.ref k0, .int u1] : List Value).toArray below meth c s.heap [] 0 0 (MQ below (pQ (some (.int r0))) ([.ref k0, .int u1] : List Value).toArray s 0 0 noF) (F0 m 4 ls []) := by
    intro g1_4 k39 hk39 n
    induction n with
    | zero =>
      intro v2_4 v3_4 ls hf hl
      cases (show (none : Option (Int32)) = some r0 from hf)
    | succ n ih =>
      intro v2_4 v3_4 ls hf hl
      rw [fX1_towersOn_4] at hf
      refine lv_iload_n hx hb dX1_towersOn_4 rfl (lv_at hl 3 rfl) ?_
      refine lv_aload_n hx hb dX1_towersOn_5 rfl (lv_at hl 0 rfl) ?_
      refine va_get (D := D) (ci := 1) (v := .int L.2.2.1) (C := RX1) (T := TX1) (N := 7) hx hb hts inX1 hown hKK.1 hP 0 rfl rfl 2 (by decide) (hts _ q80) (fun _ h => h) rfl dX1_towersOn_6 ?_
      refine lv_icmp_ge (tgt := 39) hx hb dX1_towersOn_9 (by decide) (fun h => ?_) (fun h => ?_)
      · have hf := (if_pos h).symm.trans hf
        exact hk39 v2_4 ls hf (lv_sub hl [2] rfl)
      · have hf := (if_neg h).symm.trans hf
        refine lv_iload_n hx hb dX1_towersOn_12 rfl (lv_at hl 3 rfl) ?_
        refine lv_iconst (v := 5) hx hb dX1_towersOn_13 (by decide) ?_
        refine lv_icmp_ge (tgt := 39) hx hb dX1_towersOn_14 (by decide) (fun h => ?_) (fun h => ?_)
        · have hf := (if_pos h).symm.trans hf
          exact hk39 v2_4 ls hf (lv_sub hl [2] rfl)
        · have hf := (if_neg h).symm.trans hf
          refine lv_aload_n hx hb dX1_towersOn_17 rfl (lv_at hl 0 rfl) ?_
          refine va_get (D := D) (ci := 1) (v := .ref k2) (C := RX1) (T := TX1) (N := 7) hx hb hts inX1 hown hKK.1 hP 0 rfl rfl 4 (by decide) (hts _ q84) (fun _ h => h) rfl dX1_towersOn_18 ?_
          refine lv_iload_n hx hb dX1_towersOn_21 rfl (lv_at hl 3 rfl) ?_
          obtain ⟨hg1, hf⟩ := gd_some hf
          refine va_iald hx hb hKK.1 hP 2 0 rfl rfl (inb_in hg1) dX1_towersOn_22 ?_
          refine lv_iload_n hx hb dX1_towersOn_23 rfl (lv_at hl 1 rfl) ?_
          refine lv_icmp_ne (tgt := 33) hx hb dX1_towersOn_24 (by decide) (fun h => ?_) (fun h => ?_)
          · have hf := (if_neg h).symm.trans hf
            obtain ⟨x2, ex2, hf⟩ := nm_ex hf
            refine lv_iinc (v := x2) (lv' := [(3, .int x2), (0, .ref k0), (1, .int g1_4), (2, .int v2_4)]) hx hb dX1_towersOn_33 hl (k := 3) rfl (Eq.trans rfl ex2) (by decide) rfl (fun ls hl => ?_)
            refine lv_goto (tgt := 4) hx hb dX1_towersOn_36 (by decide) ?_
            exact ih v2_4 x2 ls hf (lv_sub hl [1, 2, 3, 0] rfl)
          · have hf := (if_pos h).symm.trans hf
            refine lv_iload_n hx hb dX1_towersOn_27 rfl (lv_at hl 2 rfl) ?_
            refine lv_iconst (v := 1) hx hb dX1_towersOn_28 (by decide) ?_
            refine lv_iload_n hx hb dX1_towersOn_29 rfl (lv_at hl 3 rfl) ?_
            refine lv_ishl hx hb dX1_towersOn_30 ?_
            refine lv_ior hx hb dX1_towersOn_31 ?_
            refine nm_i hf (fun x3 hf => ?_)
            refine lv_istore_n (lv' := [(2, .int x3), (0, .ref k0), (1, .int g1_4), (3, .int v3_4)]) hx hb dX1_towersOn_32 rfl hl (by decide) rfl (fun ls hl => ?_)
            obtain ⟨x4, ex4, hf⟩ := nm_ex hf
            refine lv_iinc (v := x4) (lv' := [(3, .int x4), (2, .int x3), (0, .ref k0), (1, .int g1_4)]) hx hb dX1_towersOn_33 hl (k := 3) rfl (Eq.trans rfl ex4) (by decide) rfl (fun ls hl => ?_)
            refine lv_goto (tgt := 4) hx hb dX1_towersOn_36 (by decide) ?_
            exact ih x3 x4 ls hf (lv_sub hl [2, 3, 1, 0] rfl)
  unfold fX1_towersOn at hf
  refine lv_iconst (v := 0) hx hb dX1_towersOn_0 (by decide) ?_
  refine lv_istore_n (lv' := [(2, .int (0 : Int32)), (0, .ref k0), (1, .int u1)]) hx hb dX1_towersOn_1 rfl hl (by decide) rfl (fun ls hl => ?_)
  refine lv_iconst (v := 0) hx hb dX1_towersOn_2 (by decide) ?_
  refine lv_istore_n (lv' := [(3, .int (0 : Int32)), (2, .int (0 : Int32)), (0, .ref k0), (1, .int u1)]) hx hb dX1_towersOn_3 rfl hl (by decide) rfl (fun ls hl => ?_)
  refine w_4 u1 _ ?_ _ (0 : Int32) (0 : Int32) ls hf (lv_sub hl [2, 3, 1, 0] rfl)
  · intro y5 ls hf hl
    refine lv_iload_n hx hb dX1_towersOn_39 rfl (lv_at hl 0 rfl) ?_
    exact pretI hx hb hr hlk hf dX1_towersOn_40

abbrev rmX1_watchersOf : Room := { frames := 3, cells := 0, slots := 0, locals := 83 }
theorem miX1_watchersOf : miV yX1_watchersOf cX1_watchersOf 4 (some .int) 1 := ⟨q447, q41, q445, q446, by decide +kernel⟩
set_option maxHeartbeats 4000000 in
set_option maxRecDepth 100000 in
theorem mtX1_watchersOf (l : Launch) (D : va_G) (cy : Nat → ClassId) (z : zT) (k0 k1 k2 k3 k4 : Nat) (L : tL) (u1 : Int32) (r0 : Int32) (hf : fX1_watchersOf L u1 = some r0) : pmet l yX1_watchersOf cX1_watchersOf 4 (some .int) rmX1_watchersOf D cy z (wL cy k0 k1 k2 k3 k4 L) [.ref k0, .int u1] (some (.int r0)) := by
  refine pmet_of (by decide +kernel) (Nat.le_of_ble_eq_true rfl) (fun p e s m below meth c hx hb hr hml hown hts hlk hP hKK ls hl => ?_)
  have hS : va_S noF s.heap s.heap [] := va_S.rf
  have hA0 : ∀ q, noF q → zA z q := fun _ h => h.elim
  have hown : s.vm.findClass "HillSight$Land" = some m.cls := hown
  have hl : lv_has ls 4 [(0, .ref k0), (1, .int u1)] := hl
  have w_4 : ∀ (g1_4 : Int32) (k46 : Int32 → Option (Int32)) (hk46 : ∀ (v2_4 : Int32) (ls : Array Slot), k46 v2_4 = some r0 → lv_has ls 4 [(2, .int v2_4)] → W p l e rmX1_watchersOf s m ([.ref k0, .int u1] : List Value).toArray below meth c s.heap [] 0 0 (MQ below (pQ (some (.int r0))) ([.ref k0, .int u1] : List Value).toArray s 0 0 noF) (F0 m 46 ls [])) (n : Nat) (v2_4 : Int32) (v3_4 : Int32) (ls : Array Slot), fX1_watchersOf_4 L g1_4 k46 n v2_4 v3_4 = some r0 → lv_has ls 4 [(0, .ref k0), (1, .int g1_4), (2, .int v2_4), (3, .int v3_4)] → W p l e rmX1_watchersOf s m ([.ref k0, .int u1] : List Value).toArray below meth c s.heap [] 0 0 (MQ below (pQ (some (.int r0))) ([.ref k0, .int u1] : List Value).toArray s 0 0 noF) (F0 m 4 ls []) := by
    intro g1_4 k46 hk46 n
    induction n with
    | zero =>
      intro v2_4 v3_4 ls hf hl
      cases (show (none : Option (Int32)) = some r0 from hf)
    | succ n ih =>
      intro v2_4 v3_4 ls hf hl
      rw [fX1_watchersOf_4] at hf
      refine lv_iload_n hx hb dX1_watchersOf_4 rfl (lv_at hl 3 rfl) ?_
      refine lv_aload_n hx hb dX1_watchersOf_5 rfl (lv_at hl 0 rfl) ?_
      refine va_get (D := D) (ci := 1) (v := .int L.2.2.1) (C := RX1) (T := TX1) (N := 7) hx hb hts inX1 hown hKK.1 hP 0 rfl rfl 2 (by decide) (hts _ q80) (fun _ h => h) rfl dX1_watchersOf_6 ?_
      refine lv_icmp_ge (tgt := 46) hx hb dX1_watchersOf_9 (by decide) (fun h => ?_) (fun h => ?_)
      · have hf := (if_pos h).symm.trans hf
        exact hk46 v2_4 ls hf (lv_sub hl [2] rfl)
      · have hf := (if_neg h).symm.trans hf
        refine lv_iload_n hx hb dX1_watchersOf_12 rfl (lv_at hl 3 rfl) ?_
        refine lv_iconst (v := 5) hx hb dX1_watchersOf_13 (by decide) ?_
        refine lv_icmp_ge (tgt := 46) hx hb dX1_watchersOf_14 (by decide) (fun h => ?_) (fun h => ?_)
        · have hf := (if_pos h).symm.trans hf
          exact hk46 v2_4 ls hf (lv_sub hl [2] rfl)
        · have hf := (if_neg h).symm.trans hf
          refine lv_aload_n hx hb dX1_watchersOf_17 rfl (lv_at hl 0 rfl) ?_
          refine lv_aload_n hx hb dX1_watchersOf_18 rfl (lv_at hl 0 rfl) ?_
          refine va_get (D := D) (ci := 1) (v := .ref k2) (C := RX1) (T := TX1) (N := 7) hx hb hts inX1 hown hKK.1 hP 0 rfl rfl 4 (by decide) (hts _ q84) (fun _ h => h) rfl dX1_watchersOf_19 ?_
          refine lv_iload_n hx hb dX1_watchersOf_22 rfl (lv_at hl 3 rfl) ?_
          obtain ⟨hg1, hf⟩ := gd_some hf
          refine va_iald hx hb hKK.1 hP 2 0 rfl rfl (inb_in hg1) dX1_watchersOf_23 ?_
          refine lv_aload_n hx hb dX1_watchersOf_24 rfl (lv_at hl 0 rfl) ?_
          refine va_get (D := D) (ci := 1) (v := .ref k3) (C := RX1) (T := TX1) (N := 7) hx hb hts inX1 hown hKK.1 hP 0 rfl rfl 5 (by decide) (hts _ q86) (fun _ h => h) rfl dX1_watchersOf_25 ?_
          refine lv_iload_n hx hb dX1_watchersOf_28 rfl (lv_at hl 3 rfl) ?_
          obtain ⟨hg2, hf⟩ := gd_some hf
          refine va_iald hx hb hKK.1 hP 3 0 rfl rfl (inb_in hg2) dX1_watchersOf_29 ?_
          refine lv_iload_n hx hb dX1_watchersOf_30 rfl (lv_at hl 1 rfl) ?_
          obtain ⟨r4, hc3, hf⟩ := bd_some hf
          refine pCallVI ⟨hx, hb, hml, hown, hts⟩ (mtX1_canSee l D cy z k0 k1 k2 k3 k4 L (L.2.2.2.2.1 v3_4.toNatClampNeg) (L.2.2.2.2.2.1 v3_4.toNatClampNeg) g1_4 r4 hc3) miX1_canSee q387 ⟨Nat.le_of_ble_eq_true rfl, Nat.le_of_ble_eq_true rfl⟩ ⟨rfl, rfl⟩ hP hKK hS hA0 (va_recv hKK.1 hP (ci := 1) (q0 := 0) rfl rfl) rfl hl.1 rfl (Nat.le_of_ble_eq_true rfl) dX1_watchersOf_31 ⟨Nat.zero_le _, Nat.zero_le _⟩ ?_
          refine lv_if_eq (tgt := 40) hx hb dX1_watchersOf_34 (by decide) (fun h => ?_) (fun h => ?_)
          · have hf := (if_pos h).symm.trans hf
            obtain ⟨x5, ex5, hf⟩ := nm_ex hf
            refine lv_iinc (v := x5) (lv' := [(3, .int x5), (0, .ref k0), (1, .int g1_4), (2, .int v2_4)]) hx hb dX1_watchersOf_40 hl (k := 3) rfl (Eq.trans rfl ex5) (by decide) rfl (fun ls hl => ?_)
            refine lv_goto (tgt := 4) hx hb dX1_watchersOf_43 (by decide) ?_
            exact ih v2_4 x5 ls hf (lv_sub hl [1, 2, 3, 0] rfl)
          · have hf := (if_neg h).symm.trans hf
            obtain ⟨x6, ex6, hf⟩ := nm_ex hf
            refine lv_iinc (v := x6) (lv' := [(2, .int x6), (0, .ref k0), (1, .int g1_4), (3, .int v3_4)]) hx hb dX1_watchersOf_37 hl (k := 2) rfl (Eq.trans rfl ex6) (by decide) rfl (fun ls hl => ?_)
            obtain ⟨x7, ex7, hf⟩ := nm_ex hf
            refine lv_iinc (v := x7) (lv' := [(3, .int x7), (2, .int x6), (0, .ref k0), (1, .int g1_4)]) hx hb dX1_watchersOf_40 hl (k := 3) rfl (Eq.trans rfl ex7) (by decide) rfl (fun ls hl => ?_)
            refine lv_goto (tgt := 4) hx hb dX1_watchersOf_43 (by decide) ?_
            exact ih x6 x7 ls hf (lv_sub hl [2, 3, 1, 0] rfl)
  unfold fX1_watchersOf at hf
  refine lv_iconst (v := 0) hx hb dX1_watchersOf_0 (by decide) ?_
  refine lv_istore_n (lv' := [(2, .int (0 : Int32)), (0, .ref k0), (1, .int u1)]) hx hb dX1_watchersOf_1 rfl hl (by decide) rfl (fun ls hl => ?_)
  refine lv_iconst (v := 0) hx hb dX1_watchersOf_2 (by decide) ?_
  refine lv_istore_n (lv' := [(3, .int (0 : Int32)), (2, .int (0 : Int32)), (0, .ref k0), (1, .int u1)]) hx hb dX1_watchersOf_3 rfl hl (by decide) rfl (fun ls hl => ?_)
  refine w_4 u1 _ ?_ _ (0 : Int32) (0 : Int32) ls hf (lv_sub hl [2, 3, 1, 0] rfl)
  · intro y8 ls hf hl
    refine lv_iload_n hx hb dX1_watchersOf_46 rfl (lv_at hl 0 rfl) ?_
    exact pretI hx hb hr hlk hf dX1_watchersOf_47

abbrev rmX1_lowestRegion : Room := { frames := 0, cells := 0, slots := 0, locals := 0 }
theorem miX1_lowestRegion : miV yX1_lowestRegion cX1_lowestRegion 14 (some .long) 1 := ⟨q433, q41, q431, q432, by decide +kernel⟩
set_option maxHeartbeats 4000000 in
set_option maxRecDepth 100000 in
theorem mtX1_lowestRegion (l : Launch) (D : va_G) (cy : Nat → ClassId) (z : zT) (k0 k1 k2 k3 k4 : Nat) (L : tL) (u1 : Int64) (r0 : Int64) (hf : fX1_lowestRegion L u1 = some r0) : pmet l yX1_lowestRegion cX1_lowestRegion 14 (some .long) rmX1_lowestRegion D cy z (wL cy k0 k1 k2 k3 k4 L) [.ref k0, .long u1] (some (.long r0)) := by
  refine pmet_of (by decide +kernel) (Nat.le_of_ble_eq_true rfl) (fun p e s m below meth c hx hb hr hml hown hts hlk hP hKK ls hl => ?_)
  have hS : va_S noF s.heap s.heap [] := va_S.rf
  have hA0 : ∀ q, noF q → zA z q := fun _ h => h.elim
  have hown : s.vm.findClass "HillSight$Land" = some m.cls := hown
  have hl : lv_has ls 14 [(0, .ref k0), (1, .long u1)] := hl
  have w_5 : ∀ (g1_5 : Int64) (k32 : Int64 → Option (Int64)) (hk32 : ∀ (v3_5 : Int64) (ls : Array Slot), k32 v3_5 = some r0 → lv_has ls 14 [(0, .ref k0), (1, .long g1_5), (3, .long v3_5)] → W p l e rmX1_lowestRegion s m ([.ref k0, .long u1] : List Value).toArray below meth c s.heap [] 0 0 (MQ below (pQ (some (.long r0))) ([.ref k0, .long u1] : List Value).toArray s 0 0 noF) (F0 m 32 ls [])) (n : Nat) (v3_5 : Int64) (v5_5 : Int32) (ls : Array Slot), fX1_lowestRegion_5 L g1_5 k32 n v3_5 v5_5 = some r0 → lv_has ls 14 [(0, .ref k0), (1, .long g1_5), (3, .long v3_5), (5, .int v5_5)] → W p l e rmX1_lowestRegion s m ([.ref k0, .long u1] : List Value).toArray below meth c s.heap [] 0 0 (MQ below (pQ (some (.long r0))) ([.ref k0, .long u1] : List Value).toArray s 0 0 noF) (F0 m 5 ls []) := by
    intro g1_5 k32 hk32 n
    induction n with
    | zero =>
      intro v3_5 v5_5 ls hf hl
      cases (show (none : Option (Int64)) = some r0 from hf)
    | succ n ih =>
      intro v3_5 v5_5 ls hf hl
      rw [fX1_lowestRegion_5] at hf
      refine lv_iload hx hb dX1_lowestRegion_5 (lv_at hl 3 rfl) ?_
      refine lv_aload_n hx hb dX1_lowestRegion_7 rfl (lv_at hl 0 rfl) ?_
      refine va_get (D := D) (ci := 1) (v := .int L.2.1) (C := RX1) (T := TX1) (N := 7) hx hb hts inX1 hown hKK.1 hP 0 rfl rfl 1 (by decide) (hts _ q78) (fun _ h => h) rfl dX1_lowestRegion_8 ?_
      refine lv_icmp_ge (tgt := 32) hx hb dX1_lowestRegion_11 (by decide) (fun h => ?_) (fun h => ?_)
      · have hf := (if_pos h).symm.trans hf
        exact hk32 v3_5 ls hf (lv_sub hl [0, 1, 2] rfl)
      · have hf := (if_neg h).symm.trans hf
        refine lv_lload_n hx hb dX1_lowestRegion_14 rfl (lv_at hl 2 rfl) ?_
        refine lv_lconst (v := 1) hx hb dX1_lowestRegion_15 (by decide) ?_
        refine lv_iload hx hb dX1_lowestRegion_16 (lv_at hl 3 rfl) ?_
        refine lv_aload_n hx hb dX1_lowestRegion_18 rfl (lv_at hl 0 rfl) ?_
        refine va_get (D := D) (ci := 1) (v := .int L.1) (C := RX1) (T := TX1) (N := 7) hx hb hts inX1 hown hKK.1 hP 0 rfl rfl 0 (by decide) (hts _ q76) (fun _ h => h) rfl dX1_lowestRegion_19 ?_
        refine lv_imul hx hb dX1_lowestRegion_22 ?_
        refine lv_lshl hx hb dX1_lowestRegion_23 rfl ?_
        refine lv_lor hx hb dX1_lowestRegion_24 ?_
        refine nm_l hf (fun x1 hf => ?_)
        refine lv_lstore_n (lv' := [(3, .long x1), (0, .ref k0), (1, .long g1_5), (5, .int v5_5)]) hx hb dX1_lowestRegion_25 rfl hl (by decide) rfl (fun ls hl => ?_)
        obtain ⟨x2, ex2, hf⟩ := nm_ex hf
        refine lv_iinc (v := x2) (lv' := [(5, .int x2), (3, .long x1), (0, .ref k0), (1, .long g1_5)]) hx hb dX1_lowestRegion_26 hl (k := 3) rfl (Eq.trans rfl ex2) (by decide) rfl (fun ls hl => ?_)
        refine lv_goto (tgt := 5) hx hb dX1_lowestRegion_29 (by decide) ?_
        exact ih x1 x2 ls hf (lv_sub hl [2, 3, 1, 0] rfl)
  have w_51 : ∀ (g1_51 : Int64) (g3_51 : Int64) (g5_51 : Int64) (k117 : Int64 → Option (Int64)) (hk117 : ∀ (v7_51 : Int64) (ls : Array Slot), k117 v7_51 = some r0 → lv_has ls 14 [(7, .long v7_51)] → W p l e rmX1_lowestRegion s m ([.ref k0, .long u1] : List Value).toArray below meth c s.heap [] 0 0 (MQ below (pQ (some (.long r0))) ([.ref k0, .long u1] : List Value).toArray s 0 0 noF) (F0 m 117 ls [])) (n : Nat) (v7_51 : Int64) (v9_51 : Int32) (ls : Array Slot), fX1_lowestRegion_51 L g1_51 g3_51 g5_51 k117 n v7_51 v9_51 = some r0 → lv_has ls 14 [(0, .ref k0), (1, .long g1_51), (3, .long g3_51), (5, .long g5_51), (7, .long v7_51), (9, .int v9_51)] → W p l e rmX1_lowestRegion s m ([.ref k0, .long u1] : List Value).toArray below meth c s.heap [] 0 0 (MQ below (pQ (some (.long r0))) ([.ref k0, .long u1] : List Value).toArray s 0 0 noF) (F0 m 51 ls []) := by
    intro g1_51 g3_51 g5_51 k117 hk117 n
    induction n with
    | zero =>
      intro v7_51 v9_51 ls hf hl
      cases (show (none : Option (Int64)) = some r0 from hf)
    | succ n ih =>
      intro v7_51 v9_51 ls hf hl
      rw [fX1_lowestRegion_51] at hf
      refine lv_iload hx hb dX1_lowestRegion_51 (lv_at hl 5 rfl) ?_
      refine lv_bipush (v := 36) hx hb dX1_lowestRegion_53 (by decide) ?_
      refine lv_icmp_ge (tgt := 117) hx hb dX1_lowestRegion_55 (by decide) (fun h => ?_) (fun h => ?_)
      · have hf := (if_pos h).symm.trans hf
        exact hk117 v7_51 ls hf (lv_sub hl [4] rfl)
      · have hf := (if_neg h).symm.trans hf
        refine lv_lload hx hb dX1_lowestRegion_58 (lv_at hl 4 rfl) ?_
        refine lv_lload hx hb dX1_lowestRegion_60 (lv_at hl 3 rfl) ?_
        refine lv_ldc2 hx hb hown (hts _ q419) dX1_lowestRegion_62 ?_
        refine lv_lxor hx hb dX1_lowestRegion_65 ?_
        refine lv_land hx hb dX1_lowestRegion_66 ?_
        refine lv_iconst (v := 1) hx hb dX1_lowestRegion_67 (by decide) ?_
        refine lv_lshl hx hb dX1_lowestRegion_68 rfl ?_
        refine nm_l hf (fun x6 hf => ?_)
        refine lv_lstore (lv' := [(10, .long x6), (0, .ref k0), (1, .long g1_51), (3, .long g3_51), (5, .long g5_51), (7, .long v7_51), (9, .int v9_51)]) hx hb dX1_lowestRegion_69 hl (by decide) rfl (fun ls hl => ?_)
        refine lv_lload hx hb dX1_lowestRegion_71 (lv_at hl 5 rfl) ?_
        refine lv_lload_n hx hb dX1_lowestRegion_73 rfl (lv_at hl 3 rfl) ?_
        refine lv_ldc2 hx hb hown (hts _ q419) dX1_lowestRegion_74 ?_
        refine lv_lxor hx hb dX1_lowestRegion_77 ?_
        refine lv_land hx hb dX1_lowestRegion_78 ?_
        refine lv_iconst (v := 1) hx hb dX1_lowestRegion_79 (by decide) ?_
        refine lv_lushr hx hb dX1_lowestRegion_80 rfl ?_
        refine nm_l hf (fun x7 hf => ?_)
        refine lv_lstore (lv' := [(12, .long x7), (10, .long x6), (0, .ref k0), (1, .long g1_51), (3, .long g3_51), (5, .long g5_51), (7, .long v7_51), (9, .int v9_51)]) hx hb dX1_lowestRegion_81 hl (by decide) rfl (fun ls hl => ?_)
        refine lv_lload hx hb dX1_lowestRegion_83 (lv_at hl 6 rfl) ?_
        refine lv_lload hx hb dX1_lowestRegion_85 (lv_at hl 1 rfl) ?_
        refine lv_lload hx hb dX1_lowestRegion_87 (lv_at hl 0 rfl) ?_
        refine lv_lor hx hb dX1_lowestRegion_89 ?_
        refine lv_lload hx hb dX1_lowestRegion_90 (lv_at hl 6 rfl) ?_
        refine lv_aload_n hx hb dX1_lowestRegion_92 rfl (lv_at hl 2 rfl) ?_
        refine va_get (D := D) (ci := 1) (v := .int L.1) (C := RX1) (T := TX1) (N := 7) hx hb hts inX1 hown hKK.1 hP 0 rfl rfl 0 (by decide) (hts _ q76) (fun _ h => h) rfl dX1_lowestRegion_93 ?_
        refine lv_lshl hx hb dX1_lowestRegion_96 rfl ?_
        refine lv_lor hx hb dX1_lowestRegion_97 ?_
        refine lv_lload hx hb dX1_lowestRegion_98 (lv_at hl 6 rfl) ?_
        refine lv_aload_n hx hb dX1_lowestRegion_100 rfl (lv_at hl 2 rfl) ?_
        refine va_get (D := D) (ci := 1) (v := .int L.1) (C := RX1) (T := TX1) (N := 7) hx hb hts inX1 hown hKK.1 hP 0 rfl rfl 0 (by decide) (hts _ q76) (fun _ h => h) rfl dX1_lowestRegion_101 ?_
        refine lv_lushr hx hb dX1_lowestRegion_104 rfl ?_
        refine lv_lor hx hb dX1_lowestRegion_105 ?_
        refine lv_lload_n hx hb dX1_lowestRegion_106 rfl (lv_at hl 3 rfl) ?_
        refine lv_land hx hb dX1_lowestRegion_107 ?_
        refine lv_lor hx hb dX1_lowestRegion_108 ?_
        refine nm_l hf (fun x8 hf => ?_)
        refine lv_lstore (lv' := [(7, .long x8), (12, .long x7), (10, .long x6), (0, .ref k0), (1, .long g1_51), (3, .long g3_51), (5, .long g5_51), (9, .int v9_51)]) hx hb dX1_lowestRegion_109 hl (by decide) rfl (fun ls hl => ?_)
        obtain ⟨x9, ex9, hf⟩ := nm_ex hf
        refine lv_iinc (v := x9) (lv' := [(9, .int x9), (7, .long x8), (12, .long x7), (10, .long x6), (0, .ref k0), (1, .long g1_51), (3, .long g3_51), (5, .long g5_51)]) hx hb dX1_lowestRegion_111 hl (k := 7) rfl (Eq.trans rfl ex9) (by decide) rfl (fun ls hl => ?_)
        refine lv_goto (tgt := 51) hx hb dX1_lowestRegion_114 (by decide) ?_
        exact ih x8 x9 ls hf (lv_sub hl [4, 5, 6, 7, 1, 0] rfl)
  unfold fX1_lowestRegion at hf
  refine lv_lconst (v := 0) hx hb dX1_lowestRegion_0 (by decide) ?_
  refine lv_lstore_n (lv' := [(3, .long (0 : Int64)), (0, .ref k0), (1, .long u1)]) hx hb dX1_lowestRegion_1 rfl hl (by decide) rfl (fun ls hl => ?_)
  refine lv_iconst (v := 0) hx hb dX1_lowestRegion_2 (by decide) ?_
  refine lv_istore (lv' := [(5, .int (0 : Int32)), (3, .long (0 : Int64)), (0, .ref k0), (1, .long u1)]) hx hb dX1_lowestRegion_3 hl (by decide) rfl (fun ls hl => ?_)
  refine w_5 u1 _ ?_ _ (0 : Int64) (0 : Int32) ls hf (lv_sub hl [2, 3, 1, 0] rfl)
  · intro y3 ls hf hl
    refine lv_lload_n hx hb dX1_lowestRegion_32 rfl (lv_at hl 2 rfl) ?_
    refine lv_aload_n hx hb dX1_lowestRegion_33 rfl (lv_at hl 0 rfl) ?_
    refine va_get (D := D) (ci := 1) (v := .int L.1) (C := RX1) (T := TX1) (N := 7) hx hb hts inX1 hown hKK.1 hP 0 rfl rfl 0 (by decide) (hts _ q76) (fun _ h => h) rfl dX1_lowestRegion_34 ?_
    refine lv_iconst (v := 1) hx hb dX1_lowestRegion_37 (by decide) ?_
    refine lv_isub hx hb dX1_lowestRegion_38 ?_
    refine lv_lshl hx hb dX1_lowestRegion_39 rfl ?_
    refine nm_l hf (fun x4 hf => ?_)
    refine lv_lstore (lv' := [(5, .long x4), (0, .ref k0), (1, .long u1), (3, .long y3)]) hx hb dX1_lowestRegion_40 hl (by decide) rfl (fun ls hl => ?_)
    refine lv_lload_n hx hb dX1_lowestRegion_42 rfl (lv_at hl 2 rfl) ?_
    refine lv_lload_n hx hb dX1_lowestRegion_43 rfl (lv_at hl 2 rfl) ?_
    refine lv_lneg hx hb dX1_lowestRegion_44 ?_
    refine lv_land hx hb dX1_lowestRegion_45 ?_
    refine nm_l hf (fun x5 hf => ?_)
    refine lv_lstore (lv' := [(7, .long x5), (5, .long x4), (0, .ref k0), (1, .long u1), (3, .long y3)]) hx hb dX1_lowestRegion_46 hl (by decide) rfl (fun ls hl => ?_)
    refine lv_iconst (v := 0) hx hb dX1_lowestRegion_48 (by decide) ?_
    refine lv_istore (lv' := [(9, .int (0 : Int32)), (7, .long x5), (5, .long x4), (0, .ref k0), (1, .long u1), (3, .long y3)]) hx hb dX1_lowestRegion_49 hl (by decide) rfl (fun ls hl => ?_)
    refine w_51 u1 y3 x4 _ ?_ _ x5 (0 : Int32) ls hf (lv_sub hl [3, 4, 5, 2, 1, 0] rfl)
    · intro y10 ls hf hl
      refine lv_lload hx hb dX1_lowestRegion_117 (lv_at hl 0 rfl) ?_
      exact pretL hx hb hr hlk hf dX1_lowestRegion_119

abbrev rmX1_regionCount : Room := { frames := 1, cells := 0, slots := 0, locals := 33 }
theorem miX1_regionCount : miV yX1_regionCount cX1_regionCount 6 (some .int) 1 := ⟨q429, q41, q427, q428, by decide +kernel⟩
set_option maxHeartbeats 4000000 in
set_option maxRecDepth 100000 in
theorem mtX1_regionCount (l : Launch) (D : va_G) (cy : Nat → ClassId) (z : zT) (k0 k1 k2 k3 k4 : Nat) (L : tL) (u1 : Int64) (r0 : Int32) (hf : fX1_regionCount L u1 = some r0) : pmet l yX1_regionCount cX1_regionCount 6 (some .int) rmX1_regionCount D cy z (wL cy k0 k1 k2 k3 k4 L) [.ref k0, .long u1] (some (.int r0)) := by
  refine pmet_of (by decide +kernel) (Nat.le_of_ble_eq_true rfl) (fun p e s m below meth c hx hb hr hml hown hts hlk hP hKK ls hl => ?_)
  have hS : va_S noF s.heap s.heap [] := va_S.rf
  have hA0 : ∀ q, noF q → zA z q := fun _ h => h.elim
  have hown : s.vm.findClass "HillSight$Land" = some m.cls := hown
  have hl : lv_has ls 6 [(0, .ref k0), (1, .long u1)] := hl
  have w_5 : ∀ (k36 : Int32 → Option (Int32)) (hk36 : ∀ (v5_5 : Int32) (ls : Array Slot), k36 v5_5 = some r0 → lv_has ls 6 [(5, .int v5_5)] → W p l e rmX1_regionCount s m ([.ref k0, .long u1] : List Value).toArray below meth c s.heap [] 0 0 (MQ below (pQ (some (.int r0))) ([.ref k0, .long u1] : List Value).toArray s 0 0 noF) (F0 m 36 ls [])) (n : Nat) (v3_5 : Int64) (v5_5 : Int32) (ls : Array Slot), fX1_regionCount_5 L k36 n v3_5 v5_5 = some r0 → lv_has ls 6 [(0, .ref k0), (3, .long v3_5), (5, .int v5_5)] → W p l e rmX1_regionCount s m ([.ref k0, .long u1] : List Value).toArray below meth c s.heap [] 0 0 (MQ below (pQ (some (.int r0))) ([.ref k0, .long u1] : List Value).toArray s 0 0 noF) (F0 m 5 ls []) := by
    intro k36 hk36 n
    induction n with
    | zero =>
      intro v3_5 v5_5 ls hf hl
      cases (show (none : Option (Int32)) = some r0 from hf)
    | succ n ih =>
      intro v3_5 v5_5 ls hf hl
      rw [fX1_regionCount_5] at hf
      refine lv_lload_n hx hb dX1_regionCount_5 rfl (lv_at hl 1 rfl) ?_
      refine lv_lconst (v := 0) hx hb dX1_regionCount_6 (by decide) ?_
      refine W.lcmp hx hb dX1_regionCount_7 ?_
      refine lv_if_eq (tgt := 36) hx hb dX1_regionCount_8 (by decide) (fun h => ?_) (fun h => ?_)
      · have hf := (if_pos h).symm.trans hf
        exact hk36 v5_5 ls hf (lv_sub hl [2] rfl)
      · have hf := (if_neg h).symm.trans hf
        refine lv_iload hx hb dX1_regionCount_11 (lv_at hl 2 rfl) ?_
        refine lv_bipush (v := 36) hx hb dX1_regionCount_13 (by decide) ?_
        refine lv_icmp_ge (tgt := 36) hx hb dX1_regionCount_15 (by decide) (fun h => ?_) (fun h => ?_)
        · have hf := (if_pos h).symm.trans hf
          exact hk36 v5_5 ls hf (lv_sub hl [2] rfl)
        · have hf := (if_neg h).symm.trans hf
          refine lv_lload_n hx hb dX1_regionCount_18 rfl (lv_at hl 1 rfl) ?_
          refine lv_aload_n hx hb dX1_regionCount_19 rfl (lv_at hl 0 rfl) ?_
          refine lv_lload_n hx hb dX1_regionCount_20 rfl (lv_at hl 1 rfl) ?_
          obtain ⟨r2, hc1, hf⟩ := bd_some hf
          refine pCallVL ⟨hx, hb, hml, hown, hts⟩ (mtX1_lowestRegion l D cy z k0 k1 k2 k3 k4 L v3_5 r2 hc1) miX1_lowestRegion q430 ⟨Nat.le_of_ble_eq_true rfl, Nat.le_of_ble_eq_true rfl⟩ ⟨rfl, rfl⟩ hP hKK hS hA0 (va_recv hKK.1 hP (ci := 1) (q0 := 0) rfl rfl) rfl hl.1 rfl (Nat.le_of_ble_eq_true rfl) dX1_regionCount_21 ⟨Nat.zero_le _, Nat.zero_le _⟩ ?_
          refine lv_ldc2 hx hb hown (hts _ q419) dX1_regionCount_24 ?_
          refine lv_lxor hx hb dX1_regionCount_27 ?_
          refine lv_land hx hb dX1_regionCount_28 ?_
          refine nm_l hf (fun x3 hf => ?_)
          refine lv_lstore_n (lv' := [(3, .long x3), (0, .ref k0), (5, .int v5_5)]) hx hb dX1_regionCount_29 rfl hl (by decide) rfl (fun ls hl => ?_)
          obtain ⟨x4, ex4, hf⟩ := nm_ex hf
          refine lv_iinc (v := x4) (lv' := [(5, .int x4), (3, .long x3), (0, .ref k0)]) hx hb dX1_regionCount_30 hl (k := 2) rfl (Eq.trans rfl ex4) (by decide) rfl (fun ls hl => ?_)
          refine lv_goto (tgt := 5) hx hb dX1_regionCount_33 (by decide) ?_
          exact ih x3 x4 ls hf (lv_sub hl [2, 1, 0] rfl)
  unfold fX1_regionCount at hf
  refine lv_lload_n hx hb dX1_regionCount_0 rfl (lv_at hl 1 rfl) ?_
  refine lv_lstore_n (lv' := [(3, .long u1), (0, .ref k0), (1, .long u1)]) hx hb dX1_regionCount_1 rfl hl (by decide) rfl (fun ls hl => ?_)
  refine lv_iconst (v := 0) hx hb dX1_regionCount_2 (by decide) ?_
  refine lv_istore (lv' := [(5, .int (0 : Int32)), (3, .long u1), (0, .ref k0), (1, .long u1)]) hx hb dX1_regionCount_3 hl (by decide) rfl (fun ls hl => ?_)
  refine w_5 _ ?_ _ u1 (0 : Int32) ls hf (lv_sub hl [2, 1, 0] rfl)
  · intro y5 ls hf hl
    refine lv_iload hx hb dX1_regionCount_36 (lv_at hl 0 rfl) ?_
    exact pretI hx hb hr hlk hf dX1_regionCount_38

abbrev rmX1_regionNumbered : Room := { frames := 1, cells := 0, slots := 0, locals := 33 }
theorem miX1_regionNumbered : miV yX1_regionNumbered cX1_regionNumbered 7 (some .long) 2 := ⟨q563, q41, q561, q562, by decide +kernel⟩
set_option maxHeartbeats 4000000 in
set_option maxRecDepth 100000 in
theorem mtX1_regionNumbered (l : Launch) (D : va_G) (cy : Nat → ClassId) (z : zT) (k0 k1 k2 k3 k4 : Nat) (L : tL) (u1 : Int32) (u2 : Int64) (r0 : Int64) (hf : fX1_regionNumbered L u1 u2 = some r0) : pmet l yX1_regionNumbered cX1_regionNumbered 7 (some .long) rmX1_regionNumbered D cy z (wL cy k0 k1 k2 k3 k4 L) [.ref k0, .int u1, .long u2] (some (.long r0)) := by
  refine pmet_of (by decide +kernel) (Nat.le_of_ble_eq_true rfl) (fun p e s m below meth c hx hb hr hml hown hts hlk hP hKK ls hl => ?_)
  have hS : va_S noF s.heap s.heap [] := va_S.rf
  have hA0 : ∀ q, noF q → zA z q := fun _ h => h.elim
  have hown : s.vm.findClass "HillSight$Land" = some m.cls := hown
  have hl : lv_has ls 7 [(0, .ref k0), (1, .int u1), (2, .long u2)] := hl
  have w_6 : ∀ (g1_6 : Int32) (k40 : Int64 → Option (Int64)) (hk40 : ∀ (v4_6 : Int64) (ls : Array Slot), k40 v4_6 = some r0 → lv_has ls 7 [(0, .ref k0), (4, .long v4_6)] → W p l e rmX1_regionNumbered s m ([.ref k0, .int u1, .long u2] : List Value).toArray below meth c s.heap [] 0 0 (MQ below (pQ (some (.long r0))) ([.ref k0, .int u1, .long u2] : List Value).toArray s 0 0 noF) (F0 m 40 ls [])) (n : Nat) (v4_6 : Int64) (v6_6 : Int32) (ls : Array Slot), fX1_regionNumbered_6 L g1_6 k40 n v4_6 v6_6 = some r0 → lv_has ls 7 [(0, .ref k0), (1, .int g1_6), (4, .long v4_6), (6, .int v6_6)] → W p l e rmX1_regionNumbered s m ([.ref k0, .int u1, .long u2] : List Value).toArray below meth c s.heap [] 0 0 (MQ below (pQ (some (.long r0))) ([.ref k0, .int u1, .long u2] : List Value).toArray s 0 0 noF) (F0 m 6 ls []) := by
    intro g1_6 k40 hk40 n
    induction n with
    | zero =>
      intro v4_6 v6_6 ls hf hl
      cases (show (none : Option (Int64)) = some r0 from hf)
    | succ n ih =>
      intro v4_6 v6_6 ls hf hl
      rw [fX1_regionNumbered_6] at hf
      refine lv_iload hx hb dX1_regionNumbered_6 (lv_at hl 3 rfl) ?_
      refine lv_iload_n hx hb dX1_regionNumbered_8 rfl (lv_at hl 1 rfl) ?_
      refine lv_icmp_ge (tgt := 40) hx hb dX1_regionNumbered_9 (by decide) (fun h => ?_) (fun h => ?_)
      · have hf := (if_pos h).symm.trans hf
        exact hk40 v4_6 ls hf (lv_sub hl [0, 2] rfl)
      · have hf := (if_neg h).symm.trans hf
        refine lv_iload hx hb dX1_regionNumbered_12 (lv_at hl 3 rfl) ?_
        refine lv_bipush (v := 36) hx hb dX1_regionNumbered_14 (by decide) ?_
        refine lv_icmp_ge (tgt := 40) hx hb dX1_regionNumbered_16 (by decide) (fun h => ?_) (fun h => ?_)
        · have hf := (if_pos h).symm.trans hf
          exact hk40 v4_6 ls hf (lv_sub hl [0, 2] rfl)
        · have hf := (if_neg h).symm.trans hf
          refine lv_lload hx hb dX1_regionNumbered_19 (lv_at hl 2 rfl) ?_
          refine lv_aload_n hx hb dX1_regionNumbered_21 rfl (lv_at hl 0 rfl) ?_
          refine lv_lload hx hb dX1_regionNumbered_22 (lv_at hl 2 rfl) ?_
          obtain ⟨r2, hc1, hf⟩ := bd_some hf
          refine pCallVL ⟨hx, hb, hml, hown, hts⟩ (mtX1_lowestRegion l D cy z k0 k1 k2 k3 k4 L v4_6 r2 hc1) miX1_lowestRegion q430 ⟨Nat.le_of_ble_eq_true rfl, Nat.le_of_ble_eq_true rfl⟩ ⟨rfl, rfl⟩ hP hKK hS hA0 (va_recv hKK.1 hP (ci := 1) (q0 := 0) rfl rfl) rfl hl.1 rfl (Nat.le_of_ble_eq_true rfl) dX1_regionNumbered_24 ⟨Nat.zero_le _, Nat.zero_le _⟩ ?_
          refine lv_ldc2 hx hb hown (hts _ q419) dX1_regionNumbered_27 ?_
          refine lv_lxor hx hb dX1_regionNumbered_30 ?_
          refine lv_land hx hb dX1_regionNumbered_31 ?_
          refine nm_l hf (fun x3 hf => ?_)
          refine lv_lstore (lv' := [(4, .long x3), (0, .ref k0), (1, .int g1_6), (6, .int v6_6)]) hx hb dX1_regionNumbered_32 hl (by decide) rfl (fun ls hl => ?_)
          obtain ⟨x4, ex4, hf⟩ := nm_ex hf
          refine lv_iinc (v := x4) (lv' := [(6, .int x4), (4, .long x3), (0, .ref k0), (1, .int g1_6)]) hx hb dX1_regionNumbered_34 hl (k := 3) rfl (Eq.trans rfl ex4) (by decide) rfl (fun ls hl => ?_)
          refine lv_goto (tgt := 6) hx hb dX1_regionNumbered_37 (by decide) ?_
          exact ih x3 x4 ls hf (lv_sub hl [2, 3, 1, 0] rfl)
  unfold fX1_regionNumbered at hf
  refine lv_lload_n hx hb dX1_regionNumbered_0 rfl (lv_at hl 2 rfl) ?_
  refine lv_lstore (lv' := [(4, .long u2), (0, .ref k0), (1, .int u1), (2, .long u2)]) hx hb dX1_regionNumbered_1 hl (by decide) rfl (fun ls hl => ?_)
  refine lv_iconst (v := 0) hx hb dX1_regionNumbered_3 (by decide) ?_
  refine lv_istore (lv' := [(6, .int (0 : Int32)), (4, .long u2), (0, .ref k0), (1, .int u1), (2, .long u2)]) hx hb dX1_regionNumbered_4 hl (by decide) rfl (fun ls hl => ?_)
  refine w_6 u1 _ ?_ _ u2 (0 : Int32) ls hf (lv_sub hl [2, 3, 1, 0] rfl)
  · intro y5 ls hf hl
    refine lv_aload_n hx hb dX1_regionNumbered_40 rfl (lv_at hl 0 rfl) ?_
    refine lv_lload hx hb dX1_regionNumbered_41 (lv_at hl 1 rfl) ?_
    obtain ⟨r7, hc6, hf⟩ := bd_some hf
    refine pCallVL ⟨hx, hb, hml, hown, hts⟩ (mtX1_lowestRegion l D cy z k0 k1 k2 k3 k4 L y5 r7 hc6) miX1_lowestRegion q430 ⟨Nat.le_of_ble_eq_true rfl, Nat.le_of_ble_eq_true rfl⟩ ⟨rfl, rfl⟩ hP hKK hS hA0 (va_recv hKK.1 hP (ci := 1) (q0 := 0) rfl rfl) rfl hl.1 rfl (Nat.le_of_ble_eq_true rfl) dX1_regionNumbered_43 ⟨Nat.zero_le _, Nat.zero_le _⟩ ?_
    exact pretL hx hb hr hlk hf dX1_regionNumbered_46

abbrev rmX1_regionOf : Room := { frames := 1, cells := 0, slots := 0, locals := 33 }
theorem miX1_regionOf : miV yX1_regionOf cX1_regionOf 9 (some .int) 2 := ⟨q452, q41, q450, q451, by decide +kernel⟩
set_option maxHeartbeats 4000000 in
set_option maxRecDepth 100000 in
theorem mtX1_regionOf (l : Launch) (D : va_G) (cy : Nat → ClassId) (z : zT) (k0 k1 k2 k3 k4 : Nat) (L : tL) (u1 : Int32) (u2 : Int64) (r0 : Int32) (hf : fX1_regionOf L u1 u2 = some r0) : pmet l yX1_regionOf cX1_regionOf 9 (some .int) rmX1_regionOf D cy z (wL cy k0 k1 k2 k3 k4 L) [.ref k0, .int u1, .long u2] (some (.int r0)) := by
  refine pmet_of (by decide +kernel) (Nat.le_of_ble_eq_true rfl) (fun p e s m below meth c hx hb hr hml hown hts hlk hP hKK ls hl => ?_)
  have hS : va_S noF s.heap s.heap [] := va_S.rf
  have hA0 : ∀ q, noF q → zA z q := fun _ h => h.elim
  have hown : s.vm.findClass "HillSight$Land" = some m.cls := hown
  have hl : lv_has ls 9 [(0, .ref k0), (1, .int u1), (2, .long u2)] := hl
  have w_6 : ∀ (g1_6 : Int32) (k37 : Int32 → Option (Int32)) (hk37 : ∀ (v6_6 : Int32) (ls : Array Slot), k37 v6_6 = some r0 → lv_has ls 9 [(6, .int v6_6)] → W p l e rmX1_regionOf s m ([.ref k0, .int u1, .long u2] : List Value).toArray below meth c s.heap [] 0 0 (MQ below (pQ (some (.int r0))) ([.ref k0, .int u1, .long u2] : List Value).toArray s 0 0 noF) (F0 m 37 ls [])) (k57 : Option (Int32)) (hk57 : ∀ (ls : Array Slot), k57 = some r0 → lv_has ls 9 [] → W p l e rmX1_regionOf s m ([.ref k0, .int u1, .long u2] : List Value).toArray below meth c s.heap [] 0 0 (MQ below (pQ (some (.int r0))) ([.ref k0, .int u1, .long u2] : List Value).toArray s 0 0 noF) (F0 m 57 ls [])) (n : Nat) (v4_6 : Int64) (v6_6 : Int32) (ls : Array Slot), fX1_regionOf_6 L g1_6 k37 k57 n v4_6 v6_6 = some r0 → lv_has ls 9 [(0, .ref k0), (1, .int g1_6), (4, .long v4_6), (6, .int v6_6)] → W p l e rmX1_regionOf s m ([.ref k0, .int u1, .long u2] : List Value).toArray below meth c s.heap [] 0 0 (MQ below (pQ (some (.int r0))) ([.ref k0, .int u1, .long u2] : List Value).toArray s 0 0 noF) (F0 m 6 ls []) := by
    intro g1_6 k37 hk37 k57 hk57 n
    induction n with
    | zero =>
      intro v4_6 v6_6 ls hf hl
      cases (show (none : Option (Int32)) = some r0 from hf)
    | succ n ih =>
      intro v4_6 v6_6 ls hf hl
      rw [fX1_regionOf_6] at hf
      refine lv_iload hx hb dX1_regionOf_6 (lv_at hl 3 rfl) ?_
      refine lv_bipush (v := 36) hx hb dX1_regionOf_8 (by decide) ?_
      refine lv_icmp_ge (tgt := 57) hx hb dX1_regionOf_10 (by decide) (fun h => ?_) (fun h => ?_)
      · have hf := (if_pos h).symm.trans hf
        exact hk57 ls hf (lv_sub hl [] rfl)
      · have hf := (if_neg h).symm.trans hf
        refine lv_lload hx hb dX1_regionOf_13 (lv_at hl 2 rfl) ?_
        refine lv_lconst (v := 0) hx hb dX1_regionOf_15 (by decide) ?_
        refine W.lcmp hx hb dX1_regionOf_16 ?_
        refine lv_if_eq (tgt := 57) hx hb dX1_regionOf_17 (by decide) (fun h => ?_) (fun h => ?_)
        · have hf := (if_pos h).symm.trans hf
          exact hk57 ls hf (lv_sub hl [] rfl)
        · have hf := (if_neg h).symm.trans hf
          refine lv_aload_n hx hb dX1_regionOf_20 rfl (lv_at hl 0 rfl) ?_
          refine lv_lload hx hb dX1_regionOf_21 (lv_at hl 2 rfl) ?_
          obtain ⟨r2, hc1, hf⟩ := bd_some hf
          refine pCallVL ⟨hx, hb, hml, hown, hts⟩ (mtX1_lowestRegion l D cy z k0 k1 k2 k3 k4 L v4_6 r2 hc1) miX1_lowestRegion q430 ⟨Nat.le_of_ble_eq_true rfl, Nat.le_of_ble_eq_true rfl⟩ ⟨rfl, rfl⟩ hP hKK hS hA0 (va_recv hKK.1 hP (ci := 1) (q0 := 0) rfl rfl) rfl hl.1 rfl (Nat.le_of_ble_eq_true rfl) dX1_regionOf_23 ⟨Nat.zero_le _, Nat.zero_le _⟩ ?_
          refine lv_lstore (lv' := [(7, .long r2), (0, .ref k0), (1, .int g1_6), (4, .long v4_6), (6, .int v6_6)]) hx hb dX1_regionOf_26 hl (by decide) rfl (fun ls hl => ?_)
          refine lv_lload hx hb dX1_regionOf_28 (lv_at hl 0 rfl) ?_
          refine lv_iload_n hx hb dX1_regionOf_30 rfl (lv_at hl 2 rfl) ?_
          obtain ⟨r4, hc3, hf⟩ := bd_some hf
          have hP1 := hP.sub (ws' := []) [] rfl
          refine pCallSNI ⟨hx, hb, hml, hown, hts⟩ (mtX4_contains l D cy z r2 g1_6 r4 hc3) miX4_contains hKK.2.1.2.2.1 ⟨Nat.le_of_ble_eq_true rfl, Nat.le_of_ble_eq_true rfl⟩ ⟨rfl, rfl⟩ hP1 hKK hS hA0 rfl hl.1 rfl (Nat.le_of_ble_eq_true rfl) dX1_regionOf_31 ⟨Nat.zero_le _, Nat.zero_le _⟩ ?_
          refine lv_if_eq (tgt := 40) hx hb dX1_regionOf_34 (by decide) (fun h => ?_) (fun h => ?_)
          · have hf := (if_pos h).symm.trans hf
            refine lv_lload hx hb dX1_regionOf_40 (lv_at hl 3 rfl) ?_
            refine lv_lload hx hb dX1_regionOf_42 (lv_at hl 0 rfl) ?_
            refine lv_ldc2 hx hb hown (hts _ q419) dX1_regionOf_44 ?_
            refine lv_lxor hx hb dX1_regionOf_47 ?_
            refine lv_land hx hb dX1_regionOf_48 ?_
            refine nm_l hf (fun x5 hf => ?_)
            refine lv_lstore (lv' := [(4, .long x5), (7, .long r2), (0, .ref k0), (1, .int g1_6), (6, .int v6_6)]) hx hb dX1_regionOf_49 hl (by decide) rfl (fun ls hl => ?_)
            obtain ⟨x6, ex6, hf⟩ := nm_ex hf
            refine lv_iinc (v := x6) (lv' := [(6, .int x6), (4, .long x5), (7, .long r2), (0, .ref k0), (1, .int g1_6)]) hx hb dX1_regionOf_51 hl (k := 4) rfl (Eq.trans rfl ex6) (by decide) rfl (fun ls hl => ?_)
            refine lv_goto (tgt := 6) hx hb dX1_regionOf_54 (by decide) ?_
            exact ih x5 x6 ls hf (lv_sub hl [3, 4, 1, 0] rfl)
          · have hf := (if_neg h).symm.trans hf
            exact hk37 v6_6 ls hf (lv_sub hl [4] rfl)
  unfold fX1_regionOf at hf
  refine lv_lload_n hx hb dX1_regionOf_0 rfl (lv_at hl 2 rfl) ?_
  refine lv_lstore (lv' := [(4, .long u2), (0, .ref k0), (1, .int u1), (2, .long u2)]) hx hb dX1_regionOf_1 hl (by decide) rfl (fun ls hl => ?_)
  refine lv_iconst (v := 0) hx hb dX1_regionOf_3 (by decide) ?_
  refine lv_istore (lv' := [(6, .int (0 : Int32)), (4, .long u2), (0, .ref k0), (1, .int u1), (2, .long u2)]) hx hb dX1_regionOf_4 hl (by decide) rfl (fun ls hl => ?_)
  refine w_6 u1 _ ?_ _ ?_ _ u2 (0 : Int32) ls hf (lv_sub hl [2, 3, 1, 0] rfl)
  · intro y7 ls hf hl
    refine lv_iload hx hb dX1_regionOf_37 (lv_at hl 0 rfl) ?_
    exact pretI hx hb hr hlk hf dX1_regionOf_39
  · intro  ls hf hl
    refine lv_bipush (v := -9) hx hb dX1_regionOf_57 (by decide) ?_
    exact pretI hx hb hr hlk hf dX1_regionOf_59

abbrev rmX1_startAnew : Room := { frames := 1, cells := 0, slots := 0, locals := 23 }
theorem miX1_startAnew : miV yX1_startAnew cX1_startAnew 3 none 2 := ⟨q72, q41, q70, q71, by decide +kernel⟩
set_option maxHeartbeats 4000000 in
set_option maxRecDepth 100000 in
theorem mtX1_startAnew (l : Launch) (D : va_G) (cy : Nat → ClassId) (z : zT) (k0 k1 k2 k3 k4 : Nat) (L : tL) (u1 : Int32) (u2 : Int32) (L0 : tL) (hf : fX1_startAnew L u1 u2 = some L0) : mmet l yX1_startAnew cX1_startAnew 3 none rmX1_startAnew D cy z (wL cy k0 k1 k2 k3 k4 L) (wL cy k0 k1 k2 k3 k4 L0) [.ref k0, .int u1, .int u2] none := by
  refine mmet_of (by decide +kernel) (Nat.le_of_ble_eq_true rfl) (fun p e s m below meth c hx hb hr hml hown hts hlk hP hD hS hA0 hKK ls hl => ?_)
  have hown : s.vm.findClass "HillSight$Land" = some m.cls := hown
  have hl : lv_has ls 3 [(0, .ref k0), (1, .int u1), (2, .int u2)] := hl
  unfold fX1_startAnew at hf
  refine lv_aload_n hx hb dX1_startAnew_0 rfl (lv_at hl 0 rfl) ?_
  refine lv_iload_n hx hb dX1_startAnew_1 rfl (lv_at hl 1 rfl) ?_
  refine va_put (D := D) (ci := 1) (v := .int u1) (ty := .int) (C := RX1) (T := TX1) (N := 7) hx hb hts inX1 tyX1 tyX1_ok nmX1 hown hKK.1 hP hD hS 0 rfl rfl 0 (by decide) (hts _ q76) (fun _ h => h) rfl (by decide +kernel) rfl rfl (Nat.le_of_ble_eq_true rfl) dX1_startAnew_2 (fun H locs hP hD hS => ?_)
  have hP : va_P D vwCl (wL cy k0 k1 k2 k3 k4 (u1, L.2.1, L.2.2.1, L.2.2.2.1, L.2.2.2.2.1, L.2.2.2.2.2.1, L.2.2.2.2.2.2)) H := hP
  have hD : va_D (adr (wL cy k0 k1 k2 k3 k4 L)) (wL cy k0 k1 k2 k3 k4 (u1, L.2.1, L.2.2.1, L.2.2.2.1, L.2.2.2.2.1, L.2.2.2.2.2.1, L.2.2.2.2.2.2)) := hD
  refine lv_aload_n hx hb dX1_startAnew_5 rfl (lv_at hl 0 rfl) ?_
  refine lv_iload_n hx hb dX1_startAnew_6 rfl (lv_at hl 2 rfl) ?_
  refine va_put (D := D) (ci := 1) (v := .int u2) (ty := .int) (C := RX1) (T := TX1) (N := 7) hx hb hts inX1 tyX1 tyX1_ok nmX1 hown hKK.1 hP hD hS 0 rfl rfl 1 (by decide) (hts _ q78) (fun _ h => h) rfl (by decide +kernel) rfl rfl (Nat.le_of_ble_eq_true rfl) dX1_startAnew_7 (fun H locs hP hD hS => ?_)
  have hP : va_P D vwCl (wL cy k0 k1 k2 k3 k4 (u1, u2, L.2.2.1, L.2.2.2.1, L.2.2.2.2.1, L.2.2.2.2.2.1, L.2.2.2.2.2.2)) H := hP
  have hD : va_D (adr (wL cy k0 k1 k2 k3 k4 L)) (wL cy k0 k1 k2 k3 k4 (u1, u2, L.2.2.1, L.2.2.2.1, L.2.2.2.2.1, L.2.2.2.2.2.1, L.2.2.2.2.2.2)) := hD
  refine lv_aload_n hx hb dX1_startAnew_10 rfl (lv_at hl 0 rfl) ?_
  refine lv_iconst (v := 0) hx hb dX1_startAnew_11 (by decide) ?_
  refine va_put (D := D) (ci := 1) (v := .int (0 : Int32)) (ty := .int) (C := RX1) (T := TX1) (N := 7) hx hb hts inX1 tyX1 tyX1_ok nmX1 hown hKK.1 hP hD hS 0 rfl rfl 2 (by decide) (hts _ q80) (fun _ h => h) rfl (by decide +kernel) rfl rfl (Nat.le_of_ble_eq_true rfl) dX1_startAnew_12 (fun H locs hP hD hS => ?_)
  have hP : va_P D vwCl (wL cy k0 k1 k2 k3 k4 (u1, u2, (0 : Int32), L.2.2.2.1, L.2.2.2.2.1, L.2.2.2.2.2.1, L.2.2.2.2.2.2)) H := hP
  have hD : va_D (adr (wL cy k0 k1 k2 k3 k4 L)) (wL cy k0 k1 k2 k3 k4 (u1, u2, (0 : Int32), L.2.2.2.1, L.2.2.2.2.1, L.2.2.2.2.2.1, L.2.2.2.2.2.2)) := hD
  refine lv_aload_n hx hb dX1_startAnew_15 rfl (lv_at hl 0 rfl) ?_
  refine va_get (D := D) (ci := 1) (v := .ref k1) (C := RX1) (T := TX1) (N := 7) hx hb hts inX1 hown hKK.1 hP 0 rfl rfl 3 (by decide) (hts _ q83) (fun _ h => h) rfl dX1_startAnew_16 ?_
  refine lv_iconst (v := 0) hx hb dX1_startAnew_19 (by decide) ?_
  obtain ⟨y2, hc1, hf⟩ := bd_some hf
  have hP1 := hP.sub (ws' := [arI cy k1 36 L.2.2.2.1]) [1] rfl
  have hD1 := hD.sub (ws' := [arI cy k1 36 L.2.2.2.1]) [1] (by decide) rfl
  refine mCallSV ⟨hx, hb, hml, hown, hts⟩ (mtJ7_fill_53178 l D cy z k1 L.2.2.2.1 (0 : Int32) y2 hc1) miJ7_fill_53178 q73 ⟨Nat.le_of_ble_eq_true rfl, Nat.le_of_ble_eq_true rfl⟩ ⟨rfl, rfl⟩ hP1 hD1 hKK hA0 rfl hl.1 rfl (Nat.le_of_ble_eq_true rfl) dX1_startAnew_20 ⟨Nat.zero_le _, Nat.zero_le _⟩ hS hP hD [1] rfl rfl (ws' := wL cy k0 k1 k2 k3 k4 (u1, u2, (0 : Int32), y2, L.2.2.2.2.1, L.2.2.2.2.2.1, L.2.2.2.2.2.2)) rfl (fun H locs hP hD hS => ?_)
  refine lv_aload_n hx hb dX1_startAnew_23 rfl (lv_at hl 0 rfl) ?_
  refine va_get (D := D) (ci := 1) (v := .ref k4) (C := RX1) (T := TX1) (N := 7) hx hb hts inX1 hown hKK.1 hP 0 rfl rfl 6 (by decide) (hts _ q88) (fun _ h => h) rfl dX1_startAnew_24 ?_
  refine lv_iconst (v := 0) hx hb dX1_startAnew_27 (by decide) ?_
  refine lv_iconst (v := 1) hx hb dX1_startAnew_28 (by decide) ?_
  refine va_iast hx hb hKK.1 hP hD hS 4 0 rfl rfl (inb_in (by decide)) dX1_startAnew_29 (fun H locs hP hD hS => ?_)
  have hP : va_P D vwCl (wL cy k0 k1 k2 k3 k4 (u1, u2, (0 : Int32), y2, L.2.2.2.2.1, L.2.2.2.2.2.1, (upd L.2.2.2.2.2.2 (0 : Int32).toNatClampNeg (1 : Int32)))) H := hP
  have hD : va_D (adr (wL cy k0 k1 k2 k3 k4 L)) (wL cy k0 k1 k2 k3 k4 (u1, u2, (0 : Int32), y2, L.2.2.2.2.1, L.2.2.2.2.2.1, (upd L.2.2.2.2.2.2 (0 : Int32).toNatClampNeg (1 : Int32)))) := hD
  refine lv_aload_n hx hb dX1_startAnew_30 rfl (lv_at hl 0 rfl) ?_
  refine va_get (D := D) (ci := 1) (v := .ref k4) (C := RX1) (T := TX1) (N := 7) hx hb hts inX1 hown hKK.1 hP 0 rfl rfl 6 (by decide) (hts _ q88) (fun _ h => h) rfl dX1_startAnew_31 ?_
  refine lv_iconst (v := 1) hx hb dX1_startAnew_34 (by decide) ?_
  refine lv_iconst (v := 0) hx hb dX1_startAnew_35 (by decide) ?_
  refine va_iast hx hb hKK.1 hP hD hS 4 0 rfl rfl (inb_in (by decide)) dX1_startAnew_36 (fun H locs hP hD hS => ?_)
  have hP : va_P D vwCl (wL cy k0 k1 k2 k3 k4 (u1, u2, (0 : Int32), y2, L.2.2.2.2.1, L.2.2.2.2.2.1, (upd (upd L.2.2.2.2.2.2 (0 : Int32).toNatClampNeg (1 : Int32)) (1 : Int32).toNatClampNeg (0 : Int32)))) H := hP
  have hD : va_D (adr (wL cy k0 k1 k2 k3 k4 L)) (wL cy k0 k1 k2 k3 k4 (u1, u2, (0 : Int32), y2, L.2.2.2.2.1, L.2.2.2.2.2.1, (upd (upd L.2.2.2.2.2.2 (0 : Int32).toNatClampNeg (1 : Int32)) (1 : Int32).toNatClampNeg (0 : Int32)))) := hD
  refine lv_aload_n hx hb dX1_startAnew_37 rfl (lv_at hl 0 rfl) ?_
  refine va_get (D := D) (ci := 1) (v := .ref k4) (C := RX1) (T := TX1) (N := 7) hx hb hts inX1 hown hKK.1 hP 0 rfl rfl 6 (by decide) (hts _ q88) (fun _ h => h) rfl dX1_startAnew_38 ?_
  refine lv_iconst (v := 2) hx hb dX1_startAnew_41 (by decide) ?_
  refine lv_iconst (v := 0) hx hb dX1_startAnew_42 (by decide) ?_
  refine va_iast hx hb hKK.1 hP hD hS 4 0 rfl rfl (inb_in (by decide)) dX1_startAnew_43 (fun H locs hP hD hS => ?_)
  have hP : va_P D vwCl (wL cy k0 k1 k2 k3 k4 (u1, u2, (0 : Int32), y2, L.2.2.2.2.1, L.2.2.2.2.2.1, (upd (upd (upd L.2.2.2.2.2.2 (0 : Int32).toNatClampNeg (1 : Int32)) (1 : Int32).toNatClampNeg (0 : Int32)) (2 : Int32).toNatClampNeg (0 : Int32)))) H := hP
  have hD : va_D (adr (wL cy k0 k1 k2 k3 k4 L)) (wL cy k0 k1 k2 k3 k4 (u1, u2, (0 : Int32), y2, L.2.2.2.2.1, L.2.2.2.2.2.1, (upd (upd (upd L.2.2.2.2.2.2 (0 : Int32).toNatClampNeg (1 : Int32)) (1 : Int32).toNatClampNeg (0 : Int32)) (2 : Int32).toNatClampNeg (0 : Int32)))) := hD
  refine lv_aload_n hx hb dX1_startAnew_44 rfl (lv_at hl 0 rfl) ?_
  refine va_get (D := D) (ci := 1) (v := .ref k4) (C := RX1) (T := TX1) (N := 7) hx hb hts inX1 hown hKK.1 hP 0 rfl rfl 6 (by decide) (hts _ q88) (fun _ h => h) rfl dX1_startAnew_45 ?_
  refine lv_iconst (v := 3) hx hb dX1_startAnew_48 (by decide) ?_
  refine lv_bipush (v := 9) hx hb dX1_startAnew_49 (by decide) ?_
  refine va_iast hx hb hKK.1 hP hD hS 4 0 rfl rfl (inb_in (by decide)) dX1_startAnew_51 (fun H locs hP hD hS => ?_)
  have hP : va_P D vwCl (wL cy k0 k1 k2 k3 k4 (u1, u2, (0 : Int32), y2, L.2.2.2.2.1, L.2.2.2.2.2.1, (upd (upd (upd (upd L.2.2.2.2.2.2 (0 : Int32).toNatClampNeg (1 : Int32)) (1 : Int32).toNatClampNeg (0 : Int32)) (2 : Int32).toNatClampNeg (0 : Int32)) (3 : Int32).toNatClampNeg (9 : Int32)))) H := hP
  have hD : va_D (adr (wL cy k0 k1 k2 k3 k4 L)) (wL cy k0 k1 k2 k3 k4 (u1, u2, (0 : Int32), y2, L.2.2.2.2.1, L.2.2.2.2.2.1, (upd (upd (upd (upd L.2.2.2.2.2.2 (0 : Int32).toNatClampNeg (1 : Int32)) (1 : Int32).toNatClampNeg (0 : Int32)) (2 : Int32).toNatClampNeg (0 : Int32)) (3 : Int32).toNatClampNeg (9 : Int32)))) := hD
  cases hf
  exact mretV hx hb hr hlk hP hS dX1_startAnew_52

abbrev rmX1_copyFrom : Room := { frames := 1, cells := 0, slots := 0, locals := 40 }
theorem miX1_copyFrom : miV yX1_copyFrom cX1_copyFrom 2 none 1 := ⟨q370, q41, q368, q369, by decide +kernel⟩
set_option maxHeartbeats 4000000 in
set_option maxRecDepth 100000 in
theorem mtX1_copyFrom (l : Launch) (D : va_G) (cy : Nat → ClassId) (z : zT) (k0 k1 k2 k3 k4 j0 j1 j2 j3 j4 : Nat) (L : tL) (K : tL) (L0 : tL) (hf : fX1_copyFrom L K = some L0) : mmet l yX1_copyFrom cX1_copyFrom 2 none rmX1_copyFrom D cy z (wL cy k0 k1 k2 k3 k4 L ++ wL cy j0 j1 j2 j3 j4 K) (wL cy k0 k1 k2 k3 k4 L0 ++ wL cy j0 j1 j2 j3 j4 K) [.ref k0, .ref j0] none := by
  refine mmet_of (by decide +kernel) (Nat.le_of_ble_eq_true rfl) (fun p e s m below meth c hx hb hr hml hown hts hlk hP hD hS hA0 hKK ls hl => ?_)
  have hown : s.vm.findClass "HillSight$Land" = some m.cls := hown
  have hl : lv_has ls 2 [(0, .ref k0), (1, .ref j0)] := hl
  unfold fX1_copyFrom at hf
  refine lv_aload_n hx hb dX1_copyFrom_0 rfl (lv_at hl 0 rfl) ?_
  refine lv_aload_n hx hb dX1_copyFrom_1 rfl (lv_at hl 1 rfl) ?_
  refine va_get (D := D) (ci := 1) (v := .int K.1) (C := RX1) (T := TX1) (N := 7) hx hb hts inX1 hown hKK.1 hP 5 rfl rfl 0 (by decide) (hts _ q76) (fun _ h => h) rfl dX1_copyFrom_2 ?_
  refine va_put (D := D) (ci := 1) (v := .int K.1) (ty := .int) (C := RX1) (T := TX1) (N := 7) hx hb hts inX1 tyX1 tyX1_ok nmX1 hown hKK.1 hP hD hS 0 rfl rfl 0 (by decide) (hts _ q76) (fun _ h => h) rfl (by decide +kernel) rfl rfl (Nat.le_of_ble_eq_true rfl) dX1_copyFrom_5 (fun H locs hP hD hS => ?_)
  have hP : va_P D vwCl (wL cy k0 k1 k2 k3 k4 (K.1, L.2.1, L.2.2.1, L.2.2.2.1, L.2.2.2.2.1, L.2.2.2.2.2.1, L.2.2.2.2.2.2) ++ wL cy j0 j1 j2 j3 j4 K) H := hP
  have hD : va_D (adr (wL cy k0 k1 k2 k3 k4 L ++ wL cy j0 j1 j2 j3 j4 K)) (wL cy k0 k1 k2 k3 k4 (K.1, L.2.1, L.2.2.1, L.2.2.2.1, L.2.2.2.2.1, L.2.2.2.2.2.1, L.2.2.2.2.2.2) ++ wL cy j0 j1 j2 j3 j4 K) := hD
  refine lv_aload_n hx hb dX1_copyFrom_8 rfl (lv_at hl 0 rfl) ?_
  refine lv_aload_n hx hb dX1_copyFrom_9 rfl (lv_at hl 1 rfl) ?_
  refine va_get (D := D) (ci := 1) (v := .int K.2.1) (C := RX1) (T := TX1) (N := 7) hx hb hts inX1 hown hKK.1 hP 5 rfl rfl 1 (by decide) (hts _ q78) (fun _ h => h) rfl dX1_copyFrom_10 ?_
  refine va_put (D := D) (ci := 1) (v := .int K.2.1) (ty := .int) (C := RX1) (T := TX1) (N := 7) hx hb hts inX1 tyX1 tyX1_ok nmX1 hown hKK.1 hP hD hS 0 rfl rfl 1 (by decide) (hts _ q78) (fun _ h => h) rfl (by decide +kernel) rfl rfl (Nat.le_of_ble_eq_true rfl) dX1_copyFrom_13 (fun H locs hP hD hS => ?_)
  have hP : va_P D vwCl (wL cy k0 k1 k2 k3 k4 (K.1, K.2.1, L.2.2.1, L.2.2.2.1, L.2.2.2.2.1, L.2.2.2.2.2.1, L.2.2.2.2.2.2) ++ wL cy j0 j1 j2 j3 j4 K) H := hP
  have hD : va_D (adr (wL cy k0 k1 k2 k3 k4 L ++ wL cy j0 j1 j2 j3 j4 K)) (wL cy k0 k1 k2 k3 k4 (K.1, K.2.1, L.2.2.1, L.2.2.2.1, L.2.2.2.2.1, L.2.2.2.2.2.1, L.2.2.2.2.2.2) ++ wL cy j0 j1 j2 j3 j4 K) := hD
  refine lv_aload_n hx hb dX1_copyFrom_16 rfl (lv_at hl 0 rfl) ?_
  refine lv_aload_n hx hb dX1_copyFrom_17 rfl (lv_at hl 1 rfl) ?_
  refine va_get (D := D) (ci := 1) (v := .int K.2.2.1) (C := RX1) (T := TX1) (N := 7) hx hb hts inX1 hown hKK.1 hP 5 rfl rfl 2 (by decide) (hts _ q80) (fun _ h => h) rfl dX1_copyFrom_18 ?_
  refine va_put (D := D) (ci := 1) (v := .int K.2.2.1) (ty := .int) (C := RX1) (T := TX1) (N := 7) hx hb hts inX1 tyX1 tyX1_ok nmX1 hown hKK.1 hP hD hS 0 rfl rfl 2 (by decide) (hts _ q80) (fun _ h => h) rfl (by decide +kernel) rfl rfl (Nat.le_of_ble_eq_true rfl) dX1_copyFrom_21 (fun H locs hP hD hS => ?_)
  have hP : va_P D vwCl (wL cy k0 k1 k2 k3 k4 (K.1, K.2.1, K.2.2.1, L.2.2.2.1, L.2.2.2.2.1, L.2.2.2.2.2.1, L.2.2.2.2.2.2) ++ wL cy j0 j1 j2 j3 j4 K) H := hP
  have hD : va_D (adr (wL cy k0 k1 k2 k3 k4 L ++ wL cy j0 j1 j2 j3 j4 K)) (wL cy k0 k1 k2 k3 k4 (K.1, K.2.1, K.2.2.1, L.2.2.2.1, L.2.2.2.2.1, L.2.2.2.2.2.1, L.2.2.2.2.2.2) ++ wL cy j0 j1 j2 j3 j4 K) := hD
  refine lv_aload_n hx hb dX1_copyFrom_24 rfl (lv_at hl 1 rfl) ?_
  refine va_get (D := D) (ci := 1) (v := .ref j1) (C := RX1) (T := TX1) (N := 7) hx hb hts inX1 hown hKK.1 hP 5 rfl rfl 3 (by decide) (hts _ q83) (fun _ h => h) rfl dX1_copyFrom_25 ?_
  refine lv_iconst (v := 0) hx hb dX1_copyFrom_28 (by decide) ?_
  refine lv_aload_n hx hb dX1_copyFrom_29 rfl (lv_at hl 0 rfl) ?_
  refine va_get (D := D) (ci := 1) (v := .ref k1) (C := RX1) (T := TX1) (N := 7) hx hb hts inX1 hown hKK.1 hP 0 rfl rfl 3 (by decide) (hts _ q83) (fun _ h => h) rfl dX1_copyFrom_30 ?_
  refine lv_iconst (v := 0) hx hb dX1_copyFrom_33 (by decide) ?_
  refine lv_bipush (v := 36) hx hb dX1_copyFrom_34 (by decide) ?_
  refine va_copyi hx hb (hml.trans hl.1.symm) hown (hts _ q371) (hts _ q373) (hts _ q372) (hts _ q53) hKK.1 hP hD hS 6 1 0 0 rfl rfl rfl rfl rfl (by decide) (by decide) (by decide) (by decide) (by decide) (fun _ _ => rfl) (Nat.le_of_ble_eq_true rfl) (Nat.le_of_ble_eq_true rfl) dX1_copyFrom_36 (fun H locs hP hD hS => ?_)
  have hP : va_P D vwCl (wL cy k0 k1 k2 k3 k4 (K.1, K.2.1, K.2.2.1, (va_cpy K.2.2.2.1 L.2.2.2.1 (0 : Int32).toNatClampNeg (0 : Int32).toNatClampNeg (36 : Int32).toNatClampNeg), L.2.2.2.2.1, L.2.2.2.2.2.1, L.2.2.2.2.2.2) ++ wL cy j0 j1 j2 j3 j4 K) H := hP
  have hD : va_D (adr (wL cy k0 k1 k2 k3 k4 L ++ wL cy j0 j1 j2 j3 j4 K)) (wL cy k0 k1 k2 k3 k4 (K.1, K.2.1, K.2.2.1, (va_cpy K.2.2.2.1 L.2.2.2.1 (0 : Int32).toNatClampNeg (0 : Int32).toNatClampNeg (36 : Int32).toNatClampNeg), L.2.2.2.2.1, L.2.2.2.2.2.1, L.2.2.2.2.2.2) ++ wL cy j0 j1 j2 j3 j4 K) := hD
  refine lv_aload_n hx hb dX1_copyFrom_39 rfl (lv_at hl 1 rfl) ?_
  refine va_get (D := D) (ci := 1) (v := .ref j2) (C := RX1) (T := TX1) (N := 7) hx hb hts inX1 hown hKK.1 hP 5 rfl rfl 4 (by decide) (hts _ q84) (fun _ h => h) rfl dX1_copyFrom_40 ?_
  refine lv_iconst (v := 0) hx hb dX1_copyFrom_43 (by decide) ?_
  refine lv_aload_n hx hb dX1_copyFrom_44 rfl (lv_at hl 0 rfl) ?_
  refine va_get (D := D) (ci := 1) (v := .ref k2) (C := RX1) (T := TX1) (N := 7) hx hb hts inX1 hown hKK.1 hP 0 rfl rfl 4 (by decide) (hts _ q84) (fun _ h => h) rfl dX1_copyFrom_45 ?_
  refine lv_iconst (v := 0) hx hb dX1_copyFrom_48 (by decide) ?_
  refine lv_iconst (v := 5) hx hb dX1_copyFrom_49 (by decide) ?_
  refine va_copyi hx hb (hml.trans hl.1.symm) hown (hts _ q371) (hts _ q373) (hts _ q372) (hts _ q53) hKK.1 hP hD hS 7 2 0 0 rfl rfl rfl rfl rfl (by decide) (by decide) (by decide) (by decide) (by decide) (fun _ _ => rfl) (Nat.le_of_ble_eq_true rfl) (Nat.le_of_ble_eq_true rfl) dX1_copyFrom_50 (fun H locs hP hD hS => ?_)
  have hP : va_P D vwCl (wL cy k0 k1 k2 k3 k4 (K.1, K.2.1, K.2.2.1, (va_cpy K.2.2.2.1 L.2.2.2.1 (0 : Int32).toNatClampNeg (0 : Int32).toNatClampNeg (36 : Int32).toNatClampNeg), (va_cpy K.2.2.2.2.1 L.2.2.2.2.1 (0 : Int32).toNatClampNeg (0 : Int32).toNatClampNeg (5 : Int32).toNatClampNeg), L.2.2.2.2.2.1, L.2.2.2.2.2.2) ++ wL cy j0 j1 j2 j3 j4 K) H := hP
  have hD : va_D (adr (wL cy k0 k1 k2 k3 k4 L ++ wL cy j0 j1 j2 j3 j4 K)) (wL cy k0 k1 k2 k3 k4 (K.1, K.2.1, K.2.2.1, (va_cpy K.2.2.2.1 L.2.2.2.1 (0 : Int32).toNatClampNeg (0 : Int32).toNatClampNeg (36 : Int32).toNatClampNeg), (va_cpy K.2.2.2.2.1 L.2.2.2.2.1 (0 : Int32).toNatClampNeg (0 : Int32).toNatClampNeg (5 : Int32).toNatClampNeg), L.2.2.2.2.2.1, L.2.2.2.2.2.2) ++ wL cy j0 j1 j2 j3 j4 K) := hD
  refine lv_aload_n hx hb dX1_copyFrom_53 rfl (lv_at hl 1 rfl) ?_
  refine va_get (D := D) (ci := 1) (v := .ref j3) (C := RX1) (T := TX1) (N := 7) hx hb hts inX1 hown hKK.1 hP 5 rfl rfl 5 (by decide) (hts _ q86) (fun _ h => h) rfl dX1_copyFrom_54 ?_
  refine lv_iconst (v := 0) hx hb dX1_copyFrom_57 (by decide) ?_
  refine lv_aload_n hx hb dX1_copyFrom_58 rfl (lv_at hl 0 rfl) ?_
  refine va_get (D := D) (ci := 1) (v := .ref k3) (C := RX1) (T := TX1) (N := 7) hx hb hts inX1 hown hKK.1 hP 0 rfl rfl 5 (by decide) (hts _ q86) (fun _ h => h) rfl dX1_copyFrom_59 ?_
  refine lv_iconst (v := 0) hx hb dX1_copyFrom_62 (by decide) ?_
  refine lv_iconst (v := 5) hx hb dX1_copyFrom_63 (by decide) ?_
  refine va_copyi hx hb (hml.trans hl.1.symm) hown (hts _ q371) (hts _ q373) (hts _ q372) (hts _ q53) hKK.1 hP hD hS 8 3 0 0 rfl rfl rfl rfl rfl (by decide) (by decide) (by decide) (by decide) (by decide) (fun _ _ => rfl) (Nat.le_of_ble_eq_true rfl) (Nat.le_of_ble_eq_true rfl) dX1_copyFrom_64 (fun H locs hP hD hS => ?_)
  have hP : va_P D vwCl (wL cy k0 k1 k2 k3 k4 (K.1, K.2.1, K.2.2.1, (va_cpy K.2.2.2.1 L.2.2.2.1 (0 : Int32).toNatClampNeg (0 : Int32).toNatClampNeg (36 : Int32).toNatClampNeg), (va_cpy K.2.2.2.2.1 L.2.2.2.2.1 (0 : Int32).toNatClampNeg (0 : Int32).toNatClampNeg (5 : Int32).toNatClampNeg), (va_cpy K.2.2.2.2.2.1 L.2.2.2.2.2.1 (0 : Int32).toNatClampNeg (0 : Int32).toNatClampNeg (5 : Int32).toNatClampNeg), L.2.2.2.2.2.2) ++ wL cy j0 j1 j2 j3 j4 K) H := hP
  have hD : va_D (adr (wL cy k0 k1 k2 k3 k4 L ++ wL cy j0 j1 j2 j3 j4 K)) (wL cy k0 k1 k2 k3 k4 (K.1, K.2.1, K.2.2.1, (va_cpy K.2.2.2.1 L.2.2.2.1 (0 : Int32).toNatClampNeg (0 : Int32).toNatClampNeg (36 : Int32).toNatClampNeg), (va_cpy K.2.2.2.2.1 L.2.2.2.2.1 (0 : Int32).toNatClampNeg (0 : Int32).toNatClampNeg (5 : Int32).toNatClampNeg), (va_cpy K.2.2.2.2.2.1 L.2.2.2.2.2.1 (0 : Int32).toNatClampNeg (0 : Int32).toNatClampNeg (5 : Int32).toNatClampNeg), L.2.2.2.2.2.2) ++ wL cy j0 j1 j2 j3 j4 K) := hD
  refine lv_aload_n hx hb dX1_copyFrom_67 rfl (lv_at hl 1 rfl) ?_
  refine va_get (D := D) (ci := 1) (v := .ref j4) (C := RX1) (T := TX1) (N := 7) hx hb hts inX1 hown hKK.1 hP 5 rfl rfl 6 (by decide) (hts _ q88) (fun _ h => h) rfl dX1_copyFrom_68 ?_
  refine lv_iconst (v := 0) hx hb dX1_copyFrom_71 (by decide) ?_
  refine lv_aload_n hx hb dX1_copyFrom_72 rfl (lv_at hl 0 rfl) ?_
  refine va_get (D := D) (ci := 1) (v := .ref k4) (C := RX1) (T := TX1) (N := 7) hx hb hts inX1 hown hKK.1 hP 0 rfl rfl 6 (by decide) (hts _ q88) (fun _ h => h) rfl dX1_copyFrom_73 ?_
  refine lv_iconst (v := 0) hx hb dX1_copyFrom_76 (by decide) ?_
  refine lv_iconst (v := 4) hx hb dX1_copyFrom_77 (by decide) ?_
  refine va_copyi hx hb (hml.trans hl.1.symm) hown (hts _ q371) (hts _ q373) (hts _ q372) (hts _ q53) hKK.1 hP hD hS 9 4 0 0 rfl rfl rfl rfl rfl (by decide) (by decide) (by decide) (by decide) (by decide) (fun _ _ => rfl) (Nat.le_of_ble_eq_true rfl) (Nat.le_of_ble_eq_true rfl) dX1_copyFrom_78 (fun H locs hP hD hS => ?_)
  have hP : va_P D vwCl (wL cy k0 k1 k2 k3 k4 (K.1, K.2.1, K.2.2.1, (va_cpy K.2.2.2.1 L.2.2.2.1 (0 : Int32).toNatClampNeg (0 : Int32).toNatClampNeg (36 : Int32).toNatClampNeg), (va_cpy K.2.2.2.2.1 L.2.2.2.2.1 (0 : Int32).toNatClampNeg (0 : Int32).toNatClampNeg (5 : Int32).toNatClampNeg), (va_cpy K.2.2.2.2.2.1 L.2.2.2.2.2.1 (0 : Int32).toNatClampNeg (0 : Int32).toNatClampNeg (5 : Int32).toNatClampNeg), (va_cpy K.2.2.2.2.2.2 L.2.2.2.2.2.2 (0 : Int32).toNatClampNeg (0 : Int32).toNatClampNeg (4 : Int32).toNatClampNeg)) ++ wL cy j0 j1 j2 j3 j4 K) H := hP
  have hD : va_D (adr (wL cy k0 k1 k2 k3 k4 L ++ wL cy j0 j1 j2 j3 j4 K)) (wL cy k0 k1 k2 k3 k4 (K.1, K.2.1, K.2.2.1, (va_cpy K.2.2.2.1 L.2.2.2.1 (0 : Int32).toNatClampNeg (0 : Int32).toNatClampNeg (36 : Int32).toNatClampNeg), (va_cpy K.2.2.2.2.1 L.2.2.2.2.1 (0 : Int32).toNatClampNeg (0 : Int32).toNatClampNeg (5 : Int32).toNatClampNeg), (va_cpy K.2.2.2.2.2.1 L.2.2.2.2.2.1 (0 : Int32).toNatClampNeg (0 : Int32).toNatClampNeg (5 : Int32).toNatClampNeg), (va_cpy K.2.2.2.2.2.2 L.2.2.2.2.2.2 (0 : Int32).toNatClampNeg (0 : Int32).toNatClampNeg (4 : Int32).toNatClampNeg)) ++ wL cy j0 j1 j2 j3 j4 K) := hD
  cases hf
  exact mretV hx hb hr hlk hP hS dX1_copyFrom_81
