abbrev rmX4_slotLand : Room := { frames := 0, cells := 0, slots := 0, locals := 0 }
theorem miX4_slotLand : miV yX4_slotLand cX4_slotLand 2 (some (.object "HillSight$Land")) 1 := ⟨q659, q40, q658, q9, by decide +kernel⟩
set_option maxHeartbeats 4000000 in
set_option maxRecDepth 100000 in
theorem mtX4_slotLand (l : Launch) (D : va_G) (cy : Nat → ClassId) (z : zT) (ad : Nat → Nat) (S : tH) (u1 : Int32) (r0 : Nat) (hf : fX4_slotLand ad u1 = some r0) : pmet l yX4_slotLand cX4_slotLand 2 (some (.object "HillSight$Land")) rmX4_slotLand D cy z (wH cy ad S) [.ref (ad 0), .int u1] (some (.ref r0)) := by
  refine pmet_of (by decide +kernel) (Nat.le_of_ble_eq_true rfl) (fun p e s m below meth c hx hb hr hml hown hts hlk hP hKK ls hl => ?_)
  have hS : va_S noF s.heap s.heap [] := va_S.rf
  have hA0 : ∀ q, noF q → zA z q := fun _ h => h.elim
  have hown : s.vm.findClass "HillSight" = some m.cls := hown
  have hl : lv_has ls 2 [(0, .ref (ad 0)), (1, .int u1)] := hl
  unfold fX4_slotLand at hf
  refine lv_iload_n hx hb dX4_slotLand_0 rfl (lv_at hl 1 rfl) ?_
  refine lv_if_ne (tgt := 11) hx hb dX4_slotLand_1 (by decide) (fun h => ?_) (fun h => ?_)
  · have hf := (if_neg h).symm.trans hf
    refine lv_aload_n hx hb dX4_slotLand_11 rfl (lv_at hl 0 rfl) ?_
    refine va_get (D := D) (ci := 4) (v := .ref (ad 16)) (C := RX4) (T := TX4) (N := 10) hx hb hts inX4 hown hKK.1 hP 0 rfl rfl 3 (by decide) (hts _ q173) (fun _ h => h) rfl dX4_slotLand_12 ?_
    exact pretR hx hb hr hlk hf dX4_slotLand_15
  · have hf := (if_pos h).symm.trans hf
    refine lv_aload_n hx hb dX4_slotLand_4 rfl (lv_at hl 0 rfl) ?_
    refine va_get (D := D) (ci := 4) (v := .ref (ad 11)) (C := RX4) (T := TX4) (N := 10) hx hb hts inX4 hown hKK.1 hP 0 rfl rfl 2 (by decide) (hts _ q172) (fun _ h => h) rfl dX4_slotLand_5 ?_
    refine lv_goto (tgt := 15) hx hb dX4_slotLand_8 (by decide) ?_
    exact pretR hx hb hr hlk hf dX4_slotLand_15

abbrev rmX4_fillViews : Room := { frames := 4, cells := 0, slots := 0, locals := 108 }
theorem miX4_fillViews : miV yX4_fillViews cX4_fillViews 3 none 1 := ⟨q589, q40, q588, q7, by decide +kernel⟩
set_option maxHeartbeats 4000000 in
set_option maxRecDepth 100000 in
theorem mtX4_fillViews (l : Launch) (D : va_G) (cy : Nat → ClassId) (z : zT) (ad : Nat → Nat) (S : tH) (u1 : Int32) (S0 : tH) (hf : fX4_fillViews S u1 = some S0) : mmet l yX4_fillViews cX4_fillViews 3 none rmX4_fillViews D cy z (wH cy ad S) (wH cy ad S0) [.ref (ad 0), .int u1] none := by
  refine mmet_of (by decide +kernel) (Nat.le_of_ble_eq_true rfl) (fun p e s m below meth c hx hb hr hml hown hts hlk hP hD hS hA0 hKK ls hl => ?_)
  have hown : s.vm.findClass "HillSight" = some m.cls := hown
  have hl : lv_has ls 3 [(0, .ref (ad 0)), (1, .int u1)] := hl
  have w_2 : ∀ (g1_2 : Int32) (k43 : tH → Option (tH)) (hk43 : ∀ (S_2 : tH) (H : Heap) (locs : List Loc) (ls : Array Slot), k43 S_2 = some S0 → va_P D vwCl (wH cy ad S_2) H → va_D (adr (wH cy ad S)) (wH cy ad S_2) → va_S (adr (wH cy ad S)) s.heap H locs → lv_has ls 3 [] → W p l e rmX4_fillViews s m ([.ref (ad 0), .int u1] : List Value).toArray below meth c H locs 0 0 (MQ below (mQ D (wH cy ad S) (wH cy ad S0) none) ([.ref (ad 0), .int u1] : List Value).toArray s 0 0 (adr (wH cy ad S))) (F0 m 43 ls [])) (n : Nat) (v2_2 : Int32) (S_2 : tH) (H : Heap) (locs : List Loc) (ls : Array Slot), fX4_fillViews_2 g1_2 k43 n v2_2 S_2 = some S0 → va_P D vwCl (wH cy ad S_2) H → va_D (adr (wH cy ad S)) (wH cy ad S_2) → va_S (adr (wH cy ad S)) s.heap H locs → lv_has ls 3 [(0, .ref (ad 0)), (1, .int g1_2), (2, .int v2_2)] → W p l e rmX4_fillViews s m ([.ref (ad 0), .int u1] : List Value).toArray below meth c H locs 0 0 (MQ below (mQ D (wH cy ad S) (wH cy ad S0) none) ([.ref (ad 0), .int u1] : List Value).toArray s 0 0 (adr (wH cy ad S))) (F0 m 2 ls []) := by
    intro g1_2 k43 hk43 n
    induction n with
    | zero =>
      intro v2_2 S_2 H locs ls hf hP hD hS hl
      cases (show (none : Option (tH)) = some S0 from hf)
    | succ n ih =>
      intro v2_2 S_2 H locs ls hf hP hD hS hl
      rw [fX4_fillViews_2] at hf
      refine lv_iload_n hx hb dX4_fillViews_2 rfl (lv_at hl 2 rfl) ?_
      refine lv_aload_n hx hb dX4_fillViews_3 rfl (lv_at hl 0 rfl) ?_
      refine va_get (D := D) (ci := 4) (v := .ref (ad 1)) (C := RX4) (T := TX4) (N := 10) hx hb hts inX4 hown hKK.1 hP 0 rfl rfl 0 (by decide) (hts _ q170) (fun _ h => h) rfl dX4_fillViews_4 ?_
      obtain ⟨r2, hc1, hf⟩ := bd_some hf
      have hP1 := hP.sub (ws' := wL cy (ad 1) (ad 2) (ad 3) (ad 4) (ad 5) S_2.1) [1, 2, 3, 4, 5] rfl
      refine pCallVI ⟨hx, hb, hml, hown, hts⟩ (mtX1_cellCount l D cy z (ad 1) (ad 2) (ad 3) (ad 4) (ad 5) S_2.1 r2 hc1) miX1_cellCount q374 ⟨Nat.le_of_ble_eq_true rfl, Nat.le_of_ble_eq_true rfl⟩ ⟨rfl, rfl⟩ hP1 hKK hS hA0 (va_recv hKK.1 hP1 (ci := 1) (q0 := 0) rfl rfl) rfl hl.1 rfl (Nat.le_of_ble_eq_true rfl) dX4_fillViews_7 ⟨Nat.zero_le _, Nat.zero_le _⟩ ?_
      refine lv_icmp_ge (tgt := 43) hx hb dX4_fillViews_10 (by decide) (fun h => ?_) (fun h => ?_)
      · have hf := (if_pos h).symm.trans hf
        exact hk43 S_2 _ _ ls hf hP hD hS (lv_sub hl [] rfl)
      · have hf := (if_neg h).symm.trans hf
        refine lv_iload_n hx hb dX4_fillViews_13 rfl (lv_at hl 2 rfl) ?_
        refine lv_aload_n hx hb dX4_fillViews_14 rfl (lv_at hl 0 rfl) ?_
        refine va_get (D := D) (ci := 4) (v := .ref (ad 31)) (C := RX4) (T := TX4) (N := 10) hx hb hts inX4 hown hKK.1 hP 0 rfl rfl 8 (by decide) (hts _ q178) (fun _ h => h) rfl dX4_fillViews_15 ?_
        refine va_alen hx hb hKK.1 hP 31 1 rfl rfl (v := 36) rfl dX4_fillViews_18 ?_
        refine lv_icmp_ge (tgt := 43) hx hb dX4_fillViews_19 (by decide) (fun h => ?_) (fun h => ?_)
        · have hf := (if_pos h).symm.trans hf
          exact hk43 S_2 _ _ ls hf hP hD hS (lv_sub hl [] rfl)
        · have hf := (if_neg h).symm.trans hf
          refine lv_aload_n hx hb dX4_fillViews_22 rfl (lv_at hl 0 rfl) ?_
          refine va_get (D := D) (ci := 4) (v := .ref (ad 31)) (C := RX4) (T := TX4) (N := 10) hx hb hts inX4 hown hKK.1 hP 0 rfl rfl 8 (by decide) (hts _ q178) (fun _ h => h) rfl dX4_fillViews_23 ?_
          refine lv_iload_n hx hb dX4_fillViews_26 rfl (lv_at hl 2 rfl) ?_
          refine lv_aload_n hx hb dX4_fillViews_27 rfl (lv_at hl 0 rfl) ?_
          refine va_get (D := D) (ci := 4) (v := .ref (ad 1)) (C := RX4) (T := TX4) (N := 10) hx hb hts inX4 hown hKK.1 hP 0 rfl rfl 0 (by decide) (hts _ q170) (fun _ h => h) rfl dX4_fillViews_28 ?_
          refine lv_iload_n hx hb dX4_fillViews_31 rfl (lv_at hl 2 rfl) ?_
          refine lv_iload_n hx hb dX4_fillViews_32 rfl (lv_at hl 1 rfl) ?_
          obtain ⟨r4, hc3, hf⟩ := bd_some hf
          have hP1 := hP.sub (ws' := wL cy (ad 1) (ad 2) (ad 3) (ad 4) (ad 5) S_2.1) [1, 2, 3, 4, 5] rfl
          refine pCallVL ⟨hx, hb, hml, hown, hts⟩ (mtX1_viewFrom l D cy z (ad 1) (ad 2) (ad 3) (ad 4) (ad 5) S_2.1 v2_2 g1_2 r4 hc3) miX1_viewFrom q448 ⟨Nat.le_of_ble_eq_true rfl, Nat.le_of_ble_eq_true rfl⟩ ⟨rfl, rfl⟩ hP1 hKK hS hA0 (va_recv hKK.1 hP1 (ci := 1) (q0 := 0) rfl rfl) rfl hl.1 rfl (Nat.le_of_ble_eq_true rfl) dX4_fillViews_33 ⟨Nat.zero_le _, Nat.zero_le _⟩ ?_
          obtain ⟨hg5, hf⟩ := gd_some hf
          refine va_last hx hb hKK.1 hP hD hS 31 1 rfl rfl (inb_in hg5) dX4_fillViews_36 (fun H locs hP hD hS => ?_)
          have hP : va_P D vwCl (wH cy ad (S_2.1, S_2.2.1, S_2.2.2.1, S_2.2.2.2.1, S_2.2.2.2.2.1, S_2.2.2.2.2.2.1, S_2.2.2.2.2.2.2.1, S_2.2.2.2.2.2.2.2.1, (vp_updL S_2.2.2.2.2.2.2.2.2.1 v2_2.toNatClampNeg r4), S_2.2.2.2.2.2.2.2.2.2)) H := hP
          have hD : va_D (adr (wH cy ad S)) (wH cy ad (S_2.1, S_2.2.1, S_2.2.2.1, S_2.2.2.2.1, S_2.2.2.2.2.1, S_2.2.2.2.2.2.1, S_2.2.2.2.2.2.2.1, S_2.2.2.2.2.2.2.2.1, (vp_updL S_2.2.2.2.2.2.2.2.2.1 v2_2.toNatClampNeg r4), S_2.2.2.2.2.2.2.2.2.2)) := hD
          obtain ⟨x6, ex6, hf⟩ := nm_ex hf
          refine lv_iinc (v := x6) (lv' := [(2, .int x6), (0, .ref (ad 0)), (1, .int g1_2)]) hx hb dX4_fillViews_37 hl (k := 2) rfl (Eq.trans rfl ex6) (by decide) rfl (fun ls hl => ?_)
          refine lv_goto (tgt := 2) hx hb dX4_fillViews_40 (by decide) ?_
          exact ih x6 (S_2.1, S_2.2.1, S_2.2.2.1, S_2.2.2.2.1, S_2.2.2.2.2.1, S_2.2.2.2.2.2.1, S_2.2.2.2.2.2.2.1, S_2.2.2.2.2.2.2.2.1, (vp_updL S_2.2.2.2.2.2.2.2.2.1 v2_2.toNatClampNeg r4), S_2.2.2.2.2.2.2.2.2.2) _ _ ls hf hP hD hS (lv_sub hl [1, 2, 0] rfl)
  unfold fX4_fillViews at hf
  refine lv_iconst (v := 0) hx hb dX4_fillViews_0 (by decide) ?_
  refine lv_istore_n (lv' := [(2, .int (0 : Int32)), (0, .ref (ad 0)), (1, .int u1)]) hx hb dX4_fillViews_1 rfl hl (by decide) rfl (fun ls hl => ?_)
  refine w_2 u1 _ ?_ _ (0 : Int32) S _ _ ls hf hP hD hS (lv_sub hl [1, 2, 0] rfl)
  · intro S7 H locs ls hf hP hD hS hl
    cases hf
    exact mretV hx hb hr hlk hP hS dX4_fillViews_43

abbrev rmX4_holds : Room := { frames := 5, cells := 0, slots := 0, locals := 131 }
theorem miX4_holds : miV yX4_holds cX4_holds 7 (some .boolean) 1 := ⟨q606, q40, q605, q8, by decide +kernel⟩
set_option maxHeartbeats 4000000 in
set_option maxRecDepth 100000 in
theorem mtX4_holds (l : Launch) (D : va_G) (cy : Nat → ClassId) (z : zT) (ad : Nat → Nat) (S : tH) (u1 : Int32) (r0 : Int32) (S0 : tH) (hf : fX4_holds S u1 = some (r0, S0)) : mmet l yX4_holds cX4_holds 7 (some .boolean) rmX4_holds D cy z (wH cy ad S) (wH cy ad S0) [.ref (ad 0), .int u1] (some (.int r0)) := by
  refine mmet_of (by decide +kernel) (Nat.le_of_ble_eq_true rfl) (fun p e s m below meth c hx hb hr hml hown hts hlk hP hD hS hA0 hKK ls hl => ?_)
  have hown : s.vm.findClass "HillSight" = some m.cls := hown
  have hl : lv_has ls 7 [(0, .ref (ad 0)), (1, .int u1)] := hl
  unfold fX4_holds at hf
  refine lv_iload_n hx hb dX4_holds_0 rfl (lv_at hl 1 rfl) ?_
  refine lv_sipush (v := 1000) hx hb dX4_holds_1 (by decide) ?_
  refine lv_idiv hx hb dX4_holds_4 (by decide) ?_
  refine lv_bipush (v := 10) hx hb dX4_holds_5 (by decide) ?_
  refine lv_irem hx hb dX4_holds_7 (by decide) ?_
  refine nm_i hf (fun x1 hf => ?_)
  refine lv_istore_n (lv' := [(2, .int x1), (0, .ref (ad 0)), (1, .int u1)]) hx hb dX4_holds_8 rfl hl (by decide) rfl (fun ls hl => ?_)
  refine lv_iload_n hx hb dX4_holds_9 rfl (lv_at hl 2 rfl) ?_
  refine lv_bipush (v := 100) hx hb dX4_holds_10 (by decide) ?_
  refine lv_idiv hx hb dX4_holds_12 (by decide) ?_
  refine lv_bipush (v := 10) hx hb dX4_holds_13 (by decide) ?_
  refine lv_irem hx hb dX4_holds_15 (by decide) ?_
  refine nm_i hf (fun x2 hf => ?_)
  refine lv_istore_n (lv' := [(3, .int x2), (2, .int x1), (0, .ref (ad 0)), (1, .int u1)]) hx hb dX4_holds_16 rfl hl (by decide) rfl (fun ls hl => ?_)
  refine lv_iload_n hx hb dX4_holds_17 rfl (lv_at hl 3 rfl) ?_
  refine lv_bipush (v := 10) hx hb dX4_holds_18 (by decide) ?_
  refine lv_idiv hx hb dX4_holds_20 (by decide) ?_
  refine lv_bipush (v := 10) hx hb dX4_holds_21 (by decide) ?_
  refine lv_irem hx hb dX4_holds_23 (by decide) ?_
  refine nm_i hf (fun x3 hf => ?_)
  refine lv_istore (lv' := [(4, .int x3), (3, .int x2), (2, .int x1), (0, .ref (ad 0)), (1, .int u1)]) hx hb dX4_holds_24 hl (by decide) rfl (fun ls hl => ?_)
  refine lv_iload_n hx hb dX4_holds_26 rfl (lv_at hl 4 rfl) ?_
  refine lv_bipush (v := 10) hx hb dX4_holds_27 (by decide) ?_
  refine lv_irem hx hb dX4_holds_29 (by decide) ?_
  refine nm_i hf (fun x4 hf => ?_)
  refine lv_istore (lv' := [(5, .int x4), (4, .int x3), (3, .int x2), (2, .int x1), (0, .ref (ad 0)), (1, .int u1)]) hx hb dX4_holds_30 hl (by decide) rfl (fun ls hl => ?_)
  refine lv_bipush (v := 10) hx hb dX4_holds_32 (by decide) ?_
  refine lv_iload_n hx hb dX4_holds_34 rfl (lv_at hl 3 rfl) ?_
  refine lv_imul hx hb dX4_holds_35 ?_
  refine lv_iload_n hx hb dX4_holds_36 rfl (lv_at hl 2 rfl) ?_
  refine lv_iadd hx hb dX4_holds_37 ?_
  refine nm_i hf (fun x5 hf => ?_)
  refine lv_istore (lv' := [(6, .int x5), (5, .int x4), (4, .int x3), (3, .int x2), (2, .int x1), (0, .ref (ad 0)), (1, .int u1)]) hx hb dX4_holds_38 hl (by decide) rfl (fun ls hl => ?_)
  refine lv_iload hx hb dX4_holds_40 (lv_at hl 1 rfl) ?_
  refine lv_if_eq (tgt := 47) hx hb dX4_holds_42 (by decide) (fun h => ?_) (fun h => ?_)
  · have hf := (if_pos h).symm.trans hf
    refine lv_iload_n hx hb dX4_holds_47 rfl (lv_at hl 6 rfl) ?_
    refine lv_sipush (v := 10000) hx hb dX4_holds_48 (by decide) ?_
    refine lv_idiv hx hb dX4_holds_51 (by decide) ?_
    by_cases h1 : (u1 / (10000 : Int32)) = 1
    · have hf := (if_pos h1).symm.trans hf
      refine sw_hit (tgt := 96) hx hb dX4_holds_52 h1 (by decide) (by decide) rfl (by decide) ?_
      refine lv_aload_n hx hb dX4_holds_96 rfl (lv_at hl 5 rfl) ?_
      refine va_get (D := D) (ci := 4) (v := .ref (ad 6)) (C := RX4) (T := TX4) (N := 10) hx hb hts inX4 hown hKK.1 hP 0 rfl rfl 1 (by decide) (hts _ q171) (fun _ h => h) rfl dX4_holds_97 ?_
      refine lv_iload hx hb dX4_holds_100 (lv_at hl 0 rfl) ?_
      refine lv_iload hx hb dX4_holds_102 (lv_at hl 2 rfl) ?_
      obtain ⟨y7, hc6, hf⟩ := bd_some hf
      have hP1 := hP.sub (ws' := wL cy (ad 6) (ad 7) (ad 8) (ad 9) (ad 10) S.2.1) [6, 7, 8, 9, 10] rfl
      have hD1 := hD.sub (ws' := wL cy (ad 6) (ad 7) (ad 8) (ad 9) (ad 10) S.2.1) [6, 7, 8, 9, 10] (by decide) rfl
      refine mCallVI ⟨hx, hb, hml, hown, hts⟩ (mtX1_putHeight l D cy z (ad 6) (ad 7) (ad 8) (ad 9) (ad 10) S.2.1 x5 x3 y7.1 y7.2 hc6) miX1_putHeight q489 ⟨Nat.le_of_ble_eq_true rfl, Nat.le_of_ble_eq_true rfl⟩ ⟨rfl, rfl⟩ hP1 hD1 hKK hA0 (va_recv hKK.1 hP1 (ci := 1) (q0 := 0) rfl rfl) rfl hl.1 rfl (Nat.le_of_ble_eq_true rfl) dX4_holds_104 ⟨Nat.zero_le _, Nat.zero_le _⟩ hS hP hD [6, 7, 8, 9, 10] rfl rfl (ws' := wH cy ad (S.1, y7.2, S.2.2.1, S.2.2.2.1, S.2.2.2.2.1, S.2.2.2.2.2.1, S.2.2.2.2.2.2.1, S.2.2.2.2.2.2.2.1, S.2.2.2.2.2.2.2.2.1, S.2.2.2.2.2.2.2.2.2)) rfl (fun H locs hP hD hS => ?_)
      obtain ⟨hz, hf⟩ := gd_some hf
      cases hf
      exact mretZ hx hb hr hlk hz hP hS dX4_holds_107
    have hf := (if_neg h1).symm.trans hf
    by_cases h2 : (u1 / (10000 : Int32)) = 2
    · have hf := (if_pos h2).symm.trans hf
      refine sw_hit (tgt := 108) hx hb dX4_holds_52 h2 (by decide) (by decide) rfl (by decide) ?_
      refine lv_aload_n hx hb dX4_holds_108 rfl (lv_at hl 5 rfl) ?_
      refine va_get (D := D) (ci := 4) (v := .ref (ad 6)) (C := RX4) (T := TX4) (N := 10) hx hb hts inX4 hown hKK.1 hP 0 rfl rfl 1 (by decide) (hts _ q171) (fun _ h => h) rfl dX4_holds_109 ?_
      refine lv_aload_n hx hb dX4_holds_112 rfl (lv_at hl 5 rfl) ?_
      refine va_get (D := D) (ci := 4) (v := .ref (ad 6)) (C := RX4) (T := TX4) (N := 10) hx hb hts inX4 hown hKK.1 hP 0 rfl rfl 1 (by decide) (hts _ q171) (fun _ h => h) rfl dX4_holds_113 ?_
      refine va_get (D := D) (ci := 1) (v := .int S.2.1.2.2.1) (C := RX1) (T := TX1) (N := 7) hx hb hts inX1 hown hKK.1 hP 6 rfl rfl 2 (by decide) (hts _ q81) (fun _ h => h) rfl dX4_holds_116 ?_
      refine lv_iload hx hb dX4_holds_119 (lv_at hl 0 rfl) ?_
      refine lv_iload hx hb dX4_holds_121 (lv_at hl 2 rfl) ?_
      obtain ⟨y9, hc8, hf⟩ := bd_some hf
      have hP1 := hP.sub (ws' := wL cy (ad 6) (ad 7) (ad 8) (ad 9) (ad 10) S.2.1) [6, 7, 8, 9, 10] rfl
      have hD1 := hD.sub (ws' := wL cy (ad 6) (ad 7) (ad 8) (ad 9) (ad 10) S.2.1) [6, 7, 8, 9, 10] (by decide) rfl
      refine mCallVI ⟨hx, hb, hml, hown, hts⟩ (mtX1_putTower l D cy z (ad 6) (ad 7) (ad 8) (ad 9) (ad 10) S.2.1 S.2.1.2.2.1 x5 x3 y9.1 y9.2 hc8) miX1_putTower q494 ⟨Nat.le_of_ble_eq_true rfl, Nat.le_of_ble_eq_true rfl⟩ ⟨rfl, rfl⟩ hP1 hD1 hKK hA0 (va_recv hKK.1 hP1 (ci := 1) (q0 := 0) rfl rfl) rfl hl.1 rfl (Nat.le_of_ble_eq_true rfl) dX4_holds_123 ⟨Nat.zero_le _, Nat.zero_le _⟩ hS hP hD [6, 7, 8, 9, 10] rfl rfl (ws' := wH cy ad (S.1, y9.2, S.2.2.1, S.2.2.2.1, S.2.2.2.2.1, S.2.2.2.2.2.1, S.2.2.2.2.2.2.1, S.2.2.2.2.2.2.2.1, S.2.2.2.2.2.2.2.2.1, S.2.2.2.2.2.2.2.2.2)) rfl (fun H locs hP hD hS => ?_)
      obtain ⟨hz, hf⟩ := gd_some hf
      cases hf
      exact mretZ hx hb hr hlk hz hP hS dX4_holds_126
    have hf := (if_neg h2).symm.trans hf
    by_cases h3 : (u1 / (10000 : Int32)) = 3
    · have hf := (if_pos h3).symm.trans hf
      refine sw_hit (tgt := 127) hx hb dX4_holds_52 h3 (by decide) (by decide) rfl (by decide) ?_
      refine lv_iload_n hx hb dX4_holds_127 rfl (lv_at hl 3 rfl) ?_
      refine lv_if_ne (tgt := 151) hx hb dX4_holds_128 (by decide) (fun h => ?_) (fun h => ?_)
      · have hf := (if_neg h).symm.trans hf
        refine lv_iconst (v := 0) hx hb dX4_holds_151 (by decide) ?_
        cases hf
        exact mretZ hx hb hr hlk (by decide) hP hS dX4_holds_152
      · have hf := (if_pos h).symm.trans hf
        refine lv_iload hx hb dX4_holds_131 (lv_at hl 2 rfl) ?_
        refine lv_if_ne (tgt := 151) hx hb dX4_holds_133 (by decide) (fun h => ?_) (fun h => ?_)
        · have hf := (if_neg h).symm.trans hf
          refine lv_iconst (v := 0) hx hb dX4_holds_151 (by decide) ?_
          cases hf
          exact mretZ hx hb hr hlk (by decide) hP hS dX4_holds_152
        · have hf := (if_pos h).symm.trans hf
          refine lv_aload_n hx hb dX4_holds_136 rfl (lv_at hl 5 rfl) ?_
          refine va_get (D := D) (ci := 4) (v := .ref (ad 6)) (C := RX4) (T := TX4) (N := 10) hx hb hts inX4 hown hKK.1 hP 0 rfl rfl 1 (by decide) (hts _ q171) (fun _ h => h) rfl dX4_holds_137 ?_
          refine lv_iload_n hx hb dX4_holds_140 rfl (lv_at hl 4 rfl) ?_
          obtain ⟨y11, hc10, hf⟩ := bd_some hf
          have hP1 := hP.sub (ws' := wL cy (ad 6) (ad 7) (ad 8) (ad 9) (ad 10) S.2.1) [6, 7, 8, 9, 10] rfl
          have hD1 := hD.sub (ws' := wL cy (ad 6) (ad 7) (ad 8) (ad 9) (ad 10) S.2.1) [6, 7, 8, 9, 10] (by decide) rfl
          refine mCallVI ⟨hx, hb, hml, hown, hts⟩ (mtX1_dropTower l D cy z (ad 6) (ad 7) (ad 8) (ad 9) (ad 10) S.2.1 x1 y11.1 y11.2 hc10) miX1_dropTower q499 ⟨Nat.le_of_ble_eq_true rfl, Nat.le_of_ble_eq_true rfl⟩ ⟨rfl, rfl⟩ hP1 hD1 hKK hA0 (va_recv hKK.1 hP1 (ci := 1) (q0 := 0) rfl rfl) rfl hl.1 rfl (Nat.le_of_ble_eq_true rfl) dX4_holds_141 ⟨Nat.zero_le _, Nat.zero_le _⟩ hS hP hD [6, 7, 8, 9, 10] rfl rfl (ws' := wH cy ad (S.1, y11.2, S.2.2.1, S.2.2.2.1, S.2.2.2.2.1, S.2.2.2.2.2.1, S.2.2.2.2.2.2.1, S.2.2.2.2.2.2.2.1, S.2.2.2.2.2.2.2.2.1, S.2.2.2.2.2.2.2.2.2)) rfl (fun H locs hP hD hS => ?_)
          refine lv_if_eq (tgt := 151) hx hb dX4_holds_144 (by decide) (fun h => ?_) (fun h => ?_)
          · have hf := (if_pos h).symm.trans hf
            refine lv_iconst (v := 0) hx hb dX4_holds_151 (by decide) ?_
            cases hf
            exact mretZ hx hb hr hlk (by decide) hP hS dX4_holds_152
          · have hf := (if_neg h).symm.trans hf
            refine lv_iconst (v := 1) hx hb dX4_holds_147 (by decide) ?_
            refine lv_goto (tgt := 152) hx hb dX4_holds_148 (by decide) ?_
            cases hf
            exact mretZ hx hb hr hlk (by decide) hP hS dX4_holds_152
    have hf := (if_neg h3).symm.trans hf
    by_cases h4 : (u1 / (10000 : Int32)) = 4
    · have hf := (if_pos h4).symm.trans hf
      refine sw_hit (tgt := 153) hx hb dX4_holds_52 h4 (by decide) (by decide) rfl (by decide) ?_
      refine lv_iload hx hb dX4_holds_153 (lv_at hl 2 rfl) ?_
      refine lv_if_ne (tgt := 177) hx hb dX4_holds_155 (by decide) (fun h => ?_) (fun h => ?_)
      · have hf := (if_neg h).symm.trans hf
        refine lv_iconst (v := 0) hx hb dX4_holds_177 (by decide) ?_
        cases hf
        exact mretZ hx hb hr hlk (by decide) hP hS dX4_holds_178
      · have hf := (if_pos h).symm.trans hf
        refine lv_aload_n hx hb dX4_holds_158 rfl (lv_at hl 5 rfl) ?_
        refine va_get (D := D) (ci := 4) (v := .ref (ad 6)) (C := RX4) (T := TX4) (N := 10) hx hb hts inX4 hown hKK.1 hP 0 rfl rfl 1 (by decide) (hts _ q171) (fun _ h => h) rfl dX4_holds_159 ?_
        obtain ⟨r13, hc12, hf⟩ := bd_some hf
        have hP1 := hP.sub (ws' := wL cy (ad 6) (ad 7) (ad 8) (ad 9) (ad 10) S.2.1) [6, 7, 8, 9, 10] rfl
        refine pCallVL ⟨hx, hb, hml, hown, hts⟩ (mtX1_hiddenSet l D cy z (ad 6) (ad 7) (ad 8) (ad 9) (ad 10) S.2.1 r13 hc12) miX1_hiddenSet q379 ⟨Nat.le_of_ble_eq_true rfl, Nat.le_of_ble_eq_true rfl⟩ ⟨rfl, rfl⟩ hP1 hKK hS hA0 (va_recv hKK.1 hP1 (ci := 1) (q0 := 0) rfl rfl) rfl hl.1 rfl (Nat.le_of_ble_eq_true rfl) dX4_holds_162 ⟨Nat.zero_le _, Nat.zero_le _⟩ ?_
        obtain ⟨r15, hc14, hf⟩ := bd_some hf
        have hP1 := hP.sub (ws' := []) [] rfl
        refine pCallSI ⟨hx, hb, hml, hown, hts⟩ (mtJ13_bitCount_95d88 l D cy z r13 r15 hc14) miJ13_bitCount_95d88 q420 ⟨Nat.le_of_ble_eq_true rfl, Nat.le_of_ble_eq_true rfl⟩ ⟨rfl, rfl⟩ hP1 hKK hS hA0 rfl hl.1 rfl (Nat.le_of_ble_eq_true rfl) dX4_holds_165 ⟨Nat.zero_le _, Nat.zero_le _⟩ ?_
        refine lv_iload hx hb dX4_holds_168 (lv_at hl 0 rfl) ?_
        refine lv_icmp_ne (tgt := 177) hx hb dX4_holds_170 (by decide) (fun h => ?_) (fun h => ?_)
        · have hf := (if_neg h).symm.trans hf
          refine lv_iconst (v := 0) hx hb dX4_holds_177 (by decide) ?_
          cases hf
          exact mretZ hx hb hr hlk (by decide) hP hS dX4_holds_178
        · have hf := (if_pos h).symm.trans hf
          refine lv_iconst (v := 1) hx hb dX4_holds_173 (by decide) ?_
          refine lv_goto (tgt := 178) hx hb dX4_holds_174 (by decide) ?_
          cases hf
          exact mretZ hx hb hr hlk (by decide) hP hS dX4_holds_178
    have hf := (if_neg h4).symm.trans hf
    by_cases h5 : (u1 / (10000 : Int32)) = 5
    · have hf := (if_pos h5).symm.trans hf
      refine sw_hit (tgt := 179) hx hb dX4_holds_52 h5 (by decide) (by decide) rfl (by decide) ?_
      refine lv_iload hx hb dX4_holds_179 (lv_at hl 2 rfl) ?_
      refine lv_iconst (v := 1) hx hb dX4_holds_181 (by decide) ?_
      refine lv_icmp_gt (tgt := 226) hx hb dX4_holds_182 (by decide) (fun h => ?_) (fun h => ?_)
      · have hf := (if_pos h).symm.trans hf
        refine lv_iconst (v := 0) hx hb dX4_holds_226 (by decide) ?_
        cases hf
        exact mretZ hx hb hr hlk (by decide) hP hS dX4_holds_227
      · have hf := (if_neg h).symm.trans hf
        refine lv_aload_n hx hb dX4_holds_185 rfl (lv_at hl 5 rfl) ?_
        refine va_get (D := D) (ci := 4) (v := .ref (ad 6)) (C := RX4) (T := TX4) (N := 10) hx hb hts inX4 hown hKK.1 hP 0 rfl rfl 1 (by decide) (hts _ q171) (fun _ h => h) rfl dX4_holds_186 ?_
        refine lv_iload hx hb dX4_holds_189 (lv_at hl 0 rfl) ?_
        obtain ⟨r17, hc16, hf⟩ := bd_some hf
        have hP1 := hP.sub (ws' := wL cy (ad 6) (ad 7) (ad 8) (ad 9) (ad 10) S.2.1) [6, 7, 8, 9, 10] rfl
        refine pCallVI ⟨hx, hb, hml, hown, hts⟩ (mtX1_hasCell l D cy z (ad 6) (ad 7) (ad 8) (ad 9) (ad 10) S.2.1 x5 r17 hc16) miX1_hasCell q438 ⟨Nat.le_of_ble_eq_true rfl, Nat.le_of_ble_eq_true rfl⟩ ⟨rfl, rfl⟩ hP1 hKK hS hA0 (va_recv hKK.1 hP1 (ci := 1) (q0 := 0) rfl rfl) rfl hl.1 rfl (Nat.le_of_ble_eq_true rfl) dX4_holds_191 ⟨Nat.zero_le _, Nat.zero_le _⟩ ?_
        refine lv_if_eq (tgt := 226) hx hb dX4_holds_194 (by decide) (fun h => ?_) (fun h => ?_)
        · have hf := (if_pos h).symm.trans hf
          refine lv_iconst (v := 0) hx hb dX4_holds_226 (by decide) ?_
          cases hf
          exact mretZ hx hb hr hlk (by decide) hP hS dX4_holds_227
        · have hf := (if_neg h).symm.trans hf
          refine lv_aload_n hx hb dX4_holds_197 rfl (lv_at hl 5 rfl) ?_
          refine va_get (D := D) (ci := 4) (v := .ref (ad 6)) (C := RX4) (T := TX4) (N := 10) hx hb hts inX4 hown hKK.1 hP 0 rfl rfl 1 (by decide) (hts _ q171) (fun _ h => h) rfl dX4_holds_198 ?_
          obtain ⟨r19, hc18, hf⟩ := bd_some hf
          have hP1 := hP.sub (ws' := wL cy (ad 6) (ad 7) (ad 8) (ad 9) (ad 10) S.2.1) [6, 7, 8, 9, 10] rfl
          refine pCallVL ⟨hx, hb, hml, hown, hts⟩ (mtX1_hiddenSet l D cy z (ad 6) (ad 7) (ad 8) (ad 9) (ad 10) S.2.1 r19 hc18) miX1_hiddenSet q379 ⟨Nat.le_of_ble_eq_true rfl, Nat.le_of_ble_eq_true rfl⟩ ⟨rfl, rfl⟩ hP1 hKK hS hA0 (va_recv hKK.1 hP1 (ci := 1) (q0 := 0) rfl rfl) rfl hl.1 rfl (Nat.le_of_ble_eq_true rfl) dX4_holds_201 ⟨Nat.zero_le _, Nat.zero_le _⟩ ?_
          refine lv_iload hx hb dX4_holds_204 (lv_at hl 0 rfl) ?_
          obtain ⟨r21, hc20, hf⟩ := bd_some hf
          have hP1 := hP.sub (ws' := []) [] rfl
          refine pCallSI ⟨hx, hb, hml, hown, hts⟩ (mtX4_contains l D cy z r19 x5 r21 hc20) miX4_contains q607 ⟨Nat.le_of_ble_eq_true rfl, Nat.le_of_ble_eq_true rfl⟩ ⟨rfl, rfl⟩ hP1 hKK hS hA0 rfl hl.1 rfl (Nat.le_of_ble_eq_true rfl) dX4_holds_206 ⟨Nat.zero_le _, Nat.zero_le _⟩ ?_
          refine lv_iload hx hb dX4_holds_209 (lv_at hl 2 rfl) ?_
          refine lv_if_ne (tgt := 218) hx hb dX4_holds_211 (by decide) (fun h => ?_) (fun h => ?_)
          · have hf := (if_neg h).symm.trans hf
            refine lv_iconst (v := 0) hx hb dX4_holds_218 (by decide) ?_
            refine lv_icmp_ne (tgt := 226) hx hb dX4_holds_219 (by decide) (fun h => ?_) (fun h => ?_)
            · have hf := (if_neg h).symm.trans hf
              refine lv_iconst (v := 0) hx hb dX4_holds_226 (by decide) ?_
              cases hf
              exact mretZ hx hb hr hlk (by decide) hP hS dX4_holds_227
            · have hf := (if_pos h).symm.trans hf
              refine lv_iconst (v := 1) hx hb dX4_holds_222 (by decide) ?_
              refine lv_goto (tgt := 227) hx hb dX4_holds_223 (by decide) ?_
              cases hf
              exact mretZ hx hb hr hlk (by decide) hP hS dX4_holds_227
          · have hf := (if_pos h).symm.trans hf
            refine lv_iconst (v := 1) hx hb dX4_holds_214 (by decide) ?_
            refine lv_goto (tgt := 219) hx hb dX4_holds_215 (by decide) ?_
            refine lv_icmp_ne (tgt := 226) hx hb dX4_holds_219 (by decide) (fun h => ?_) (fun h => ?_)
            · have hf := (if_neg h).symm.trans hf
              refine lv_iconst (v := 0) hx hb dX4_holds_226 (by decide) ?_
              cases hf
              exact mretZ hx hb hr hlk (by decide) hP hS dX4_holds_227
            · have hf := (if_pos h).symm.trans hf
              refine lv_iconst (v := 1) hx hb dX4_holds_222 (by decide) ?_
              refine lv_goto (tgt := 227) hx hb dX4_holds_223 (by decide) ?_
              cases hf
              exact mretZ hx hb hr hlk (by decide) hP hS dX4_holds_227
    have hf := (if_neg h5).symm.trans hf
    by_cases h6 : (u1 / (10000 : Int32)) = 6
    · have hf := (if_pos h6).symm.trans hf
      refine sw_hit (tgt := 228) hx hb dX4_holds_52 h6 (by decide) (by decide) rfl (by decide) ?_
      refine lv_iload hx hb dX4_holds_228 (lv_at hl 2 rfl) ?_
      refine lv_if_ne (tgt := 249) hx hb dX4_holds_230 (by decide) (fun h => ?_) (fun h => ?_)
      · have hf := (if_neg h).symm.trans hf
        refine lv_iconst (v := 0) hx hb dX4_holds_249 (by decide) ?_
        cases hf
        exact mretZ hx hb hr hlk (by decide) hP hS dX4_holds_250
      · have hf := (if_pos h).symm.trans hf
        refine lv_aload_n hx hb dX4_holds_233 rfl (lv_at hl 5 rfl) ?_
        refine va_get (D := D) (ci := 4) (v := .ref (ad 6)) (C := RX4) (T := TX4) (N := 10) hx hb hts inX4 hown hKK.1 hP 0 rfl rfl 1 (by decide) (hts _ q171) (fun _ h => h) rfl dX4_holds_234 ?_
        refine lv_iload_n hx hb dX4_holds_237 rfl (lv_at hl 4 rfl) ?_
        refine lv_iload_n hx hb dX4_holds_238 rfl (lv_at hl 3 rfl) ?_
        obtain ⟨y23, hc22, hf⟩ := bd_some hf
        have hP1 := hP.sub (ws' := wL cy (ad 6) (ad 7) (ad 8) (ad 9) (ad 10) S.2.1) [6, 7, 8, 9, 10] rfl
        have hD1 := hD.sub (ws' := wL cy (ad 6) (ad 7) (ad 8) (ad 9) (ad 10) S.2.1) [6, 7, 8, 9, 10] (by decide) rfl
        refine mCallVI ⟨hx, hb, hml, hown, hts⟩ (mtX1_putSetting l D cy z (ad 6) (ad 7) (ad 8) (ad 9) (ad 10) S.2.1 x1 x2 y23.1 y23.2 hc22) miX1_putSetting q508 ⟨Nat.le_of_ble_eq_true rfl, Nat.le_of_ble_eq_true rfl⟩ ⟨rfl, rfl⟩ hP1 hD1 hKK hA0 (va_recv hKK.1 hP1 (ci := 1) (q0 := 0) rfl rfl) rfl hl.1 rfl (Nat.le_of_ble_eq_true rfl) dX4_holds_239 ⟨Nat.zero_le _, Nat.zero_le _⟩ hS hP hD [6, 7, 8, 9, 10] rfl rfl (ws' := wH cy ad (S.1, y23.2, S.2.2.1, S.2.2.2.1, S.2.2.2.2.1, S.2.2.2.2.2.1, S.2.2.2.2.2.2.1, S.2.2.2.2.2.2.2.1, S.2.2.2.2.2.2.2.2.1, S.2.2.2.2.2.2.2.2.2)) rfl (fun H locs hP hD hS => ?_)
        refine lv_if_eq (tgt := 249) hx hb dX4_holds_242 (by decide) (fun h => ?_) (fun h => ?_)
        · have hf := (if_pos h).symm.trans hf
          refine lv_iconst (v := 0) hx hb dX4_holds_249 (by decide) ?_
          cases hf
          exact mretZ hx hb hr hlk (by decide) hP hS dX4_holds_250
        · have hf := (if_neg h).symm.trans hf
          refine lv_iconst (v := 1) hx hb dX4_holds_245 (by decide) ?_
          refine lv_goto (tgt := 250) hx hb dX4_holds_246 (by decide) ?_
          cases hf
          exact mretZ hx hb hr hlk (by decide) hP hS dX4_holds_250
    have hf := (if_neg h6).symm.trans hf
    by_cases h7 : (u1 / (10000 : Int32)) = 7
    · have hf := (if_pos h7).symm.trans hf
      refine sw_hit (tgt := 251) hx hb dX4_holds_52 h7 (by decide) (by decide) rfl (by decide) ?_
      refine lv_iload_n hx hb dX4_holds_251 rfl (lv_at hl 3 rfl) ?_
      refine lv_if_ne (tgt := 282) hx hb dX4_holds_252 (by decide) (fun h => ?_) (fun h => ?_)
      · have hf := (if_neg h).symm.trans hf
        refine lv_iconst (v := 0) hx hb dX4_holds_282 (by decide) ?_
        cases hf
        exact mretZ hx hb hr hlk (by decide) hP hS dX4_holds_283
      · have hf := (if_pos h).symm.trans hf
        refine lv_iload hx hb dX4_holds_255 (lv_at hl 2 rfl) ?_
        refine lv_if_ne (tgt := 282) hx hb dX4_holds_257 (by decide) (fun h => ?_) (fun h => ?_)
        · have hf := (if_neg h).symm.trans hf
          refine lv_iconst (v := 0) hx hb dX4_holds_282 (by decide) ?_
          cases hf
          exact mretZ hx hb hr hlk (by decide) hP hS dX4_holds_283
        · have hf := (if_pos h).symm.trans hf
          refine lv_aload_n hx hb dX4_holds_260 rfl (lv_at hl 5 rfl) ?_
          refine va_get (D := D) (ci := 4) (v := .ref (ad 6)) (C := RX4) (T := TX4) (N := 10) hx hb hts inX4 hown hKK.1 hP 0 rfl rfl 1 (by decide) (hts _ q171) (fun _ h => h) rfl dX4_holds_261 ?_
          refine lv_aload_n hx hb dX4_holds_264 rfl (lv_at hl 5 rfl) ?_
          refine va_get (D := D) (ci := 4) (v := .ref (ad 6)) (C := RX4) (T := TX4) (N := 10) hx hb hts inX4 hown hKK.1 hP 0 rfl rfl 1 (by decide) (hts _ q171) (fun _ h => h) rfl dX4_holds_265 ?_
          obtain ⟨r25, hc24, hf⟩ := bd_some hf
          have hP1 := hP.sub (ws' := wL cy (ad 6) (ad 7) (ad 8) (ad 9) (ad 10) S.2.1) [6, 7, 8, 9, 10] rfl
          refine pCallVL ⟨hx, hb, hml, hown, hts⟩ (mtX1_hiddenSet l D cy z (ad 6) (ad 7) (ad 8) (ad 9) (ad 10) S.2.1 r25 hc24) miX1_hiddenSet q379 ⟨Nat.le_of_ble_eq_true rfl, Nat.le_of_ble_eq_true rfl⟩ ⟨rfl, rfl⟩ hP1 hKK hS hA0 (va_recv hKK.1 hP1 (ci := 1) (q0 := 0) rfl rfl) rfl hl.1 rfl (Nat.le_of_ble_eq_true rfl) dX4_holds_268 ⟨Nat.zero_le _, Nat.zero_le _⟩ ?_
          obtain ⟨r27, hc26, hf⟩ := bd_some hf
          have hP1 := hP.sub (ws' := wL cy (ad 6) (ad 7) (ad 8) (ad 9) (ad 10) S.2.1) [6, 7, 8, 9, 10] rfl
          refine pCallVI ⟨hx, hb, hml, hown, hts⟩ (mtX1_regionCount l D cy z (ad 6) (ad 7) (ad 8) (ad 9) (ad 10) S.2.1 r25 r27 hc26) miX1_regionCount q426 ⟨Nat.le_of_ble_eq_true rfl, Nat.le_of_ble_eq_true rfl⟩ ⟨rfl, rfl⟩ hP1 hKK hS hA0 (va_recv hKK.1 hP1 (ci := 1) (q0 := 0) rfl rfl) rfl hl.1 rfl (Nat.le_of_ble_eq_true rfl) dX4_holds_271 ⟨Nat.zero_le _, Nat.zero_le _⟩ ?_
          refine lv_iload_n hx hb dX4_holds_274 rfl (lv_at hl 4 rfl) ?_
          refine lv_icmp_ne (tgt := 282) hx hb dX4_holds_275 (by decide) (fun h => ?_) (fun h => ?_)
          · have hf := (if_neg h).symm.trans hf
            refine lv_iconst (v := 0) hx hb dX4_holds_282 (by decide) ?_
            cases hf
            exact mretZ hx hb hr hlk (by decide) hP hS dX4_holds_283
          · have hf := (if_pos h).symm.trans hf
            refine lv_iconst (v := 1) hx hb dX4_holds_278 (by decide) ?_
            refine lv_goto (tgt := 283) hx hb dX4_holds_279 (by decide) ?_
            cases hf
            exact mretZ hx hb hr hlk (by decide) hP hS dX4_holds_283
    have hf := (if_neg h7).symm.trans hf
    refine lv_tableOut (tgt := 284) hx hb dX4_holds_52 (show ((u1 / (10000 : Int32))).toInt < 1 ∨ 7 < ((u1 / (10000 : Int32))).toInt by have e1 := lv_neT h1 (a := 1) (by decide); have e2 := lv_neT h2 (a := 2) (by decide); have e3 := lv_neT h3 (a := 3) (by decide); have e4 := lv_neT h4 (a := 4) (by decide); have e5 := lv_neT h5 (a := 5) (by decide); have e6 := lv_neT h6 (a := 6) (by decide); have e7 := lv_neT h7 (a := 7) (by decide); omega) (by decide) ?_
    refine lv_iconst (v := 0) hx hb dX4_holds_284 (by decide) ?_
    cases hf
    exact mretZ hx hb hr hlk (by decide) hP hS dX4_holds_285
  · have hf := (if_neg h).symm.trans hf
    refine lv_iconst (v := 0) hx hb dX4_holds_45 (by decide) ?_
    cases hf
    exact mretZ hx hb hr hlk (by decide) hP hS dX4_holds_46

abbrev rmX4_write : Room := { frames := 1, cells := 0, slots := 0, locals := 21 }
theorem miX4_write : miV yX4_write cX4_write 2 (some .int) 1 := ⟨q205, q40, q203, q204, by decide +kernel⟩
set_option maxHeartbeats 4000000 in
set_option maxRecDepth 100000 in
theorem mtX4_write (l : Launch) (D : va_G) (cy : Nat → ClassId) (z : zT) (ad : Nat → Nat) (S : tH) (u1 : Int32) (r0 : Int32) (S0 : tH) (hf : fX4_write S u1 = some (r0, S0)) : mmet l yX4_write cX4_write 2 (some .int) rmX4_write D cy z (wH cy ad S) (wH cy ad S0) [.ref (ad 0), .int u1] (some (.int r0)) := by
  refine mmet_of (by decide +kernel) (Nat.le_of_ble_eq_true rfl) (fun p e s m below meth c hx hb hr hml hown hts hlk hP hD hS hA0 hKK ls hl => ?_)
  have hown : s.vm.findClass "HillSight" = some m.cls := hown
  have hl : lv_has ls 2 [(0, .ref (ad 0)), (1, .int u1)] := hl
  unfold fX4_write at hf
  refine lv_iload_n hx hb dX4_write_0 rfl (lv_at hl 1 rfl) ?_
  refine lv_if_lt (tgt := 11) hx hb dX4_write_1 (by decide) (fun h => ?_) (fun h => ?_)
  · have hf := (if_pos h).symm.trans hf
    refine lv_bipush (v := -2) hx hb dX4_write_11 (by decide) ?_
    cases hf
    exact mretI hx hb hr hlk hP hS dX4_write_13
  · have hf := (if_neg h).symm.trans hf
    refine lv_iload_n hx hb dX4_write_4 rfl (lv_at hl 1 rfl) ?_
    refine lv_sipush (v := 255) hx hb dX4_write_5 (by decide) ?_
    refine lv_icmp_le (tgt := 14) hx hb dX4_write_8 (by decide) (fun h => ?_) (fun h => ?_)
    · have hf := (if_pos h).symm.trans hf
      refine lv_aload_n hx hb dX4_write_14 rfl (lv_at hl 0 rfl) ?_
      refine va_get (D := D) (ci := 4) (v := .ref (ad 21)) (C := RX4) (T := TX4) (N := 10) hx hb hts inX4 hown hKK.1 hP 0 rfl rfl 5 (by decide) (hts _ q175) (fun _ h => h) rfl dX4_write_15 ?_
      refine lv_iload_n hx hb dX4_write_18 rfl (lv_at hl 1 rfl) ?_
      refine lv_i2c hx hb dX4_write_19 rfl ?_
      obtain ⟨y2, hc1, hf⟩ := bd_some hf
      have hP1 := hP.sub (ws' := wX cy (ad 21) (ad 22) S.2.2.2.2.2.1) [21, 22] rfl
      have hD1 := hD.sub (ws' := wX cy (ad 21) (ad 22) S.2.2.2.2.2.1) [21, 22] (by decide) rfl
      refine mCallVI ⟨hx, hb, hml, hown, hts⟩ (mtX2_append l D cy z (ad 21) (ad 22) S.2.2.2.2.2.1 ((u1.toUInt32 % 65536).toInt32) y2.1 y2.2 hc1) miX2_append q206 ⟨Nat.le_of_ble_eq_true rfl, Nat.le_of_ble_eq_true rfl⟩ ⟨rfl, rfl⟩ hP1 hD1 hKK hA0 (va_recv hKK.1 hP1 (ci := 2) (q0 := 0) rfl rfl) rfl hl.1 rfl (Nat.le_of_ble_eq_true rfl) dX4_write_20 ⟨Nat.zero_le _, Nat.zero_le _⟩ hS hP hD [21, 22] rfl rfl (ws' := wH cy ad (S.1, S.2.1, S.2.2.1, S.2.2.2.1, S.2.2.2.2.1, y2.2, S.2.2.2.2.2.2.1, S.2.2.2.2.2.2.2.1, S.2.2.2.2.2.2.2.2.1, S.2.2.2.2.2.2.2.2.2)) rfl (fun H locs hP hD hS => ?_)
      refine lv_if_eq (tgt := 36) hx hb dX4_write_23 (by decide) (fun h => ?_) (fun h => ?_)
      · have hf := (if_pos h).symm.trans hf
        refine lv_bipush (v := -4) hx hb dX4_write_36 (by decide) ?_
        cases hf
        exact mretI hx hb hr hlk hP hS dX4_write_38
      · have hf := (if_neg h).symm.trans hf
        refine lv_aload_n hx hb dX4_write_26 rfl (lv_at hl 0 rfl) ?_
        refine va_get (D := D) (ci := 4) (v := .ref (ad 21)) (C := RX4) (T := TX4) (N := 10) hx hb hts inX4 hown hKK.1 hP 0 rfl rfl 5 (by decide) (hts _ q175) (fun _ h => h) rfl dX4_write_27 ?_
        refine va_get (D := D) (ci := 2) (v := .int y2.2.2.1) (C := RX2) (T := TX2) (N := 4) hx hb hts inX2 hown hKK.1 hP 21 rfl rfl 1 (by decide) (hts _ q115) (fun _ h => h) rfl dX4_write_30 ?_
        refine lv_goto (tgt := 38) hx hb dX4_write_33 (by decide) ?_
        cases hf
        exact mretI hx hb hr hlk hP hS dX4_write_38
    · have hf := (if_neg h).symm.trans hf
      refine lv_bipush (v := -2) hx hb dX4_write_11 (by decide) ?_
      cases hf
      exact mretI hx hb hr hlk hP hS dX4_write_13

abbrev rmX4_wipe : Room := { frames := 0, cells := 0, slots := 0, locals := 0 }
theorem miX4_wipe : miV yX4_wipe cX4_wipe 2 (some .int) 0 := ⟨q213, q40, q211, q212, by decide +kernel⟩
set_option maxHeartbeats 4000000 in
set_option maxRecDepth 100000 in
theorem mtX4_wipe (l : Launch) (D : va_G) (cy : Nat → ClassId) (z : zT) (ad : Nat → Nat) (S : tH) (r0 : Int32) (S0 : tH) (hf : fX4_wipe S = some (r0, S0)) : mmet l yX4_wipe cX4_wipe 2 (some .int) rmX4_wipe D cy z (wH cy ad S) (wH cy ad S0) [.ref (ad 0)] (some (.int r0)) := by
  refine mmet_of (by decide +kernel) (Nat.le_of_ble_eq_true rfl) (fun p e s m below meth c hx hb hr hml hown hts hlk hP hD hS hA0 hKK ls hl => ?_)
  have hown : s.vm.findClass "HillSight" = some m.cls := hown
  have hl : lv_has ls 2 [(0, .ref (ad 0))] := hl
  unfold fX4_wipe at hf
  refine lv_aload_n hx hb dX4_wipe_0 rfl (lv_at hl 0 rfl) ?_
  refine va_get (D := D) (ci := 4) (v := .ref (ad 21)) (C := RX4) (T := TX4) (N := 10) hx hb hts inX4 hown hKK.1 hP 0 rfl rfl 5 (by decide) (hts _ q175) (fun _ h => h) rfl dX4_wipe_1 ?_
  refine va_get (D := D) (ci := 2) (v := .int S.2.2.2.2.2.1.2.1) (C := RX2) (T := TX2) (N := 4) hx hb hts inX2 hown hKK.1 hP 21 rfl rfl 1 (by decide) (hts _ q115) (fun _ h => h) rfl dX4_wipe_4 ?_
  refine lv_istore_n (lv' := [(1, .int S.2.2.2.2.2.1.2.1), (0, .ref (ad 0))]) hx hb dX4_wipe_7 rfl hl (by decide) rfl (fun ls hl => ?_)
  refine lv_aload_n hx hb dX4_wipe_8 rfl (lv_at hl 1 rfl) ?_
  refine va_get (D := D) (ci := 4) (v := .ref (ad 21)) (C := RX4) (T := TX4) (N := 10) hx hb hts inX4 hown hKK.1 hP 0 rfl rfl 5 (by decide) (hts _ q175) (fun _ h => h) rfl dX4_wipe_9 ?_
  refine lv_iconst (v := 0) hx hb dX4_wipe_12 (by decide) ?_
  refine va_put (D := D) (ci := 2) (v := .int (0 : Int32)) (ty := .int) (C := RX2) (T := TX2) (N := 4) hx hb hts inX2 tyX2 tyX2_ok nmX2 hown hKK.1 hP hD hS 21 rfl rfl 1 (by decide) (hts _ q115) (fun _ h => h) rfl (by decide +kernel) rfl rfl (Nat.le_of_ble_eq_true rfl) dX4_wipe_13 (fun H locs hP hD hS => ?_)
  have hP : va_P D vwCl (wH cy ad (S.1, S.2.1, S.2.2.1, S.2.2.2.1, S.2.2.2.2.1, (S.2.2.2.2.2.1.1, (0 : Int32), S.2.2.2.2.2.1.2.2.1, S.2.2.2.2.2.1.2.2.2), S.2.2.2.2.2.2.1, S.2.2.2.2.2.2.2.1, S.2.2.2.2.2.2.2.2.1, S.2.2.2.2.2.2.2.2.2)) H := hP
  have hD : va_D (adr (wH cy ad S)) (wH cy ad (S.1, S.2.1, S.2.2.1, S.2.2.2.1, S.2.2.2.2.1, (S.2.2.2.2.2.1.1, (0 : Int32), S.2.2.2.2.2.1.2.2.1, S.2.2.2.2.2.1.2.2.2), S.2.2.2.2.2.2.1, S.2.2.2.2.2.2.2.1, S.2.2.2.2.2.2.2.2.1, S.2.2.2.2.2.2.2.2.2)) := hD
  refine lv_iload_n hx hb dX4_wipe_16 rfl (lv_at hl 0 rfl) ?_
  cases hf
  exact mretI hx hb hr hlk hP hS dX4_wipe_17

abbrev rmX4_fault : Room := { frames := 7, cells := 0, slots := 0, locals := 161 }
theorem miX4_fault : miV yX4_fault cX4_fault 1 (some .int) 0 := ⟨q217, q40, q215, q216, by decide +kernel⟩
set_option maxHeartbeats 4000000 in
set_option maxRecDepth 100000 in
theorem mtX4_fault (l : Launch) (D : va_G) (cy : Nat → ClassId) (z : zT) (ad : Nat → Nat) (S : tH) (r0 : Int32) (S0 : tH) (hf : fX4_fault S = some (r0, S0)) : mmet l yX4_fault cX4_fault 1 (some .int) rmX4_fault D cy z (wH cy ad S) (wH cy ad S0) [.ref (ad 0)] (some (.int r0)) := by
  refine mmet_of (by decide +kernel) (Nat.le_of_ble_eq_true rfl) (fun p e s m below meth c hx hb hr hml hown hts hlk hP hD hS hA0 hKK ls hl => ?_)
  have hown : s.vm.findClass "HillSight" = some m.cls := hown
  have hl : lv_has ls 1 [(0, .ref (ad 0))] := hl
  unfold fX4_fault at hf
  refine lv_aload_n hx hb dX4_fault_0 rfl (lv_at hl 0 rfl) ?_
  refine va_get (D := D) (ci := 4) (v := .ref (ad 21)) (C := RX4) (T := TX4) (N := 10) hx hb hts inX4 hown hKK.1 hP 0 rfl rfl 5 (by decide) (hts _ q175) (fun _ h => h) rfl dX4_fault_1 ?_
  refine lv_aload_n hx hb dX4_fault_4 rfl (lv_at hl 0 rfl) ?_
  refine va_get (D := D) (ci := 4) (v := .ref (ad 6)) (C := RX4) (T := TX4) (N := 10) hx hb hts inX4 hown hKK.1 hP 0 rfl rfl 1 (by decide) (hts _ q171) (fun _ h => h) rfl dX4_fault_5 ?_
  obtain ⟨y2, hc1, hf⟩ := bd_some hf
  have hP1 := hP.sub (ws' := wX cy (ad 21) (ad 22) S.2.2.2.2.2.1 ++ wL cy (ad 6) (ad 7) (ad 8) (ad 9) (ad 10) S.2.1) [21, 22, 6, 7, 8, 9, 10] rfl
  have hD1 := hD.sub (ws' := wX cy (ad 21) (ad 22) S.2.2.2.2.2.1 ++ wL cy (ad 6) (ad 7) (ad 8) (ad 9) (ad 10) S.2.1) [21, 22, 6, 7, 8, 9, 10] (by decide) rfl
  refine mCallVI ⟨hx, hb, hml, hown, hts⟩ (mtX2_readInto l D cy z (ad 21) (ad 22) (ad 6) (ad 7) (ad 8) (ad 9) (ad 10) S.2.2.2.2.2.1 S.2.1 y2.1 y2.2.1 y2.2.2 hc1) miX2_readInto q218 ⟨Nat.le_of_ble_eq_true rfl, Nat.le_of_ble_eq_true rfl⟩ ⟨rfl, rfl⟩ hP1 hD1 hKK hA0 (va_recv hKK.1 hP1 (ci := 2) (q0 := 0) rfl rfl) rfl hl.1 rfl (Nat.le_of_ble_eq_true rfl) dX4_fault_8 ⟨Nat.zero_le _, Nat.zero_le _⟩ hS hP hD [21, 22, 6, 7, 8, 9, 10] rfl rfl (ws' := wH cy ad (S.1, y2.2.2, S.2.2.1, S.2.2.2.1, S.2.2.2.2.1, y2.2.1, S.2.2.2.2.2.2.1, S.2.2.2.2.2.2.2.1, S.2.2.2.2.2.2.2.2.1, S.2.2.2.2.2.2.2.2.2)) rfl (fun H locs hP hD hS => ?_)
  refine lv_if_eq (tgt := 19) hx hb dX4_fault_11 (by decide) (fun h => ?_) (fun h => ?_)
  · have hf := (if_pos h).symm.trans hf
    refine lv_aload_n hx hb dX4_fault_19 rfl (lv_at hl 0 rfl) ?_
    refine va_get (D := D) (ci := 4) (v := .ref (ad 21)) (C := RX4) (T := TX4) (N := 10) hx hb hts inX4 hown hKK.1 hP 0 rfl rfl 5 (by decide) (hts _ q175) (fun _ h => h) rfl dX4_fault_20 ?_
    refine va_get (D := D) (ci := 2) (v := .int y2.2.1.2.2.1) (C := RX2) (T := TX2) (N := 4) hx hb hts inX2 hown hKK.1 hP 21 rfl rfl 2 (by decide) (hts _ q117) (fun _ h => h) rfl dX4_fault_23 ?_
    cases hf
    exact mretI hx hb hr hlk hP hS dX4_fault_26
  · have hf := (if_neg h).symm.trans hf
    refine lv_bipush (v := -9) hx hb dX4_fault_14 (by decide) ?_
    refine lv_goto (tgt := 26) hx hb dX4_fault_16 (by decide) ?_
    cases hf
    exact mretI hx hb hr hlk hP hS dX4_fault_26

abbrev rmX4_map : Room := { frames := 7, cells := 0, slots := 0, locals := 161 }
theorem miX4_map : miV yX4_map cX4_map 1 (some .int) 0 := ⟨q366, q40, q364, q365, by decide +kernel⟩
set_option maxHeartbeats 4000000 in
set_option maxRecDepth 100000 in
theorem mtX4_map (l : Launch) (D : va_G) (cy : Nat → ClassId) (z : zT) (ad : Nat → Nat) (S : tH) (r0 : Int32) (S0 : tH) (hf : fX4_map S = some (r0, S0)) : mmet l yX4_map cX4_map 1 (some .int) rmX4_map D cy z (wH cy ad S) (wH cy ad S0) [.ref (ad 0)] (some (.int r0)) := by
  refine mmet_of (by decide +kernel) (Nat.le_of_ble_eq_true rfl) (fun p e s m below meth c hx hb hr hml hown hts hlk hP hD hS hA0 hKK ls hl => ?_)
  have hown : s.vm.findClass "HillSight" = some m.cls := hown
  have hl : lv_has ls 1 [(0, .ref (ad 0))] := hl
  unfold fX4_map at hf
  refine lv_aload_n hx hb dX4_map_0 rfl (lv_at hl 0 rfl) ?_
  refine va_get (D := D) (ci := 4) (v := .ref (ad 21)) (C := RX4) (T := TX4) (N := 10) hx hb hts inX4 hown hKK.1 hP 0 rfl rfl 5 (by decide) (hts _ q175) (fun _ h => h) rfl dX4_map_1 ?_
  refine lv_aload_n hx hb dX4_map_4 rfl (lv_at hl 0 rfl) ?_
  refine va_get (D := D) (ci := 4) (v := .ref (ad 6)) (C := RX4) (T := TX4) (N := 10) hx hb hts inX4 hown hKK.1 hP 0 rfl rfl 1 (by decide) (hts _ q171) (fun _ h => h) rfl dX4_map_5 ?_
  obtain ⟨y2, hc1, hf⟩ := bd_some hf
  have hP1 := hP.sub (ws' := wX cy (ad 21) (ad 22) S.2.2.2.2.2.1 ++ wL cy (ad 6) (ad 7) (ad 8) (ad 9) (ad 10) S.2.1) [21, 22, 6, 7, 8, 9, 10] rfl
  have hD1 := hD.sub (ws' := wX cy (ad 21) (ad 22) S.2.2.2.2.2.1 ++ wL cy (ad 6) (ad 7) (ad 8) (ad 9) (ad 10) S.2.1) [21, 22, 6, 7, 8, 9, 10] (by decide) rfl
  refine mCallVI ⟨hx, hb, hml, hown, hts⟩ (mtX2_readInto l D cy z (ad 21) (ad 22) (ad 6) (ad 7) (ad 8) (ad 9) (ad 10) S.2.2.2.2.2.1 S.2.1 y2.1 y2.2.1 y2.2.2 hc1) miX2_readInto q218 ⟨Nat.le_of_ble_eq_true rfl, Nat.le_of_ble_eq_true rfl⟩ ⟨rfl, rfl⟩ hP1 hD1 hKK hA0 (va_recv hKK.1 hP1 (ci := 2) (q0 := 0) rfl rfl) rfl hl.1 rfl (Nat.le_of_ble_eq_true rfl) dX4_map_8 ⟨Nat.zero_le _, Nat.zero_le _⟩ hS hP hD [21, 22, 6, 7, 8, 9, 10] rfl rfl (ws' := wH cy ad (S.1, y2.2.2, S.2.2.1, S.2.2.2.1, S.2.2.2.2.1, y2.2.1, S.2.2.2.2.2.2.1, S.2.2.2.2.2.2.2.1, S.2.2.2.2.2.2.2.2.1, S.2.2.2.2.2.2.2.2.2)) rfl (fun H locs hP hD hS => ?_)
  refine lv_if_ne (tgt := 17) hx hb dX4_map_11 (by decide) (fun h => ?_) (fun h => ?_)
  · have hf := (if_neg h).symm.trans hf
    refine lv_aload_n hx hb dX4_map_17 rfl (lv_at hl 0 rfl) ?_
    refine va_get (D := D) (ci := 4) (v := .ref (ad 1)) (C := RX4) (T := TX4) (N := 10) hx hb hts inX4 hown hKK.1 hP 0 rfl rfl 0 (by decide) (hts _ q170) (fun _ h => h) rfl dX4_map_18 ?_
    refine lv_aload_n hx hb dX4_map_21 rfl (lv_at hl 0 rfl) ?_
    refine va_get (D := D) (ci := 4) (v := .ref (ad 6)) (C := RX4) (T := TX4) (N := 10) hx hb hts inX4 hown hKK.1 hP 0 rfl rfl 1 (by decide) (hts _ q171) (fun _ h => h) rfl dX4_map_22 ?_
    obtain ⟨y4, hc3, hf⟩ := bd_some hf
    have hP1 := hP.sub (ws' := wL cy (ad 1) (ad 2) (ad 3) (ad 4) (ad 5) S.1 ++ wL cy (ad 6) (ad 7) (ad 8) (ad 9) (ad 10) y2.2.2) [1, 2, 3, 4, 5, 6, 7, 8, 9, 10] rfl
    have hD1 := hD.sub (ws' := wL cy (ad 1) (ad 2) (ad 3) (ad 4) (ad 5) S.1 ++ wL cy (ad 6) (ad 7) (ad 8) (ad 9) (ad 10) y2.2.2) [1, 2, 3, 4, 5, 6, 7, 8, 9, 10] (by decide) rfl
    refine mCallVV ⟨hx, hb, hml, hown, hts⟩ (mtX1_copyFrom l D cy z (ad 1) (ad 2) (ad 3) (ad 4) (ad 5) (ad 6) (ad 7) (ad 8) (ad 9) (ad 10) S.1 y2.2.2 y4 hc3) miX1_copyFrom q367 ⟨Nat.le_of_ble_eq_true rfl, Nat.le_of_ble_eq_true rfl⟩ ⟨rfl, rfl⟩ hP1 hD1 hKK hA0 (va_recv hKK.1 hP1 (ci := 1) (q0 := 0) rfl rfl) rfl hl.1 rfl (Nat.le_of_ble_eq_true rfl) dX4_map_25 ⟨Nat.zero_le _, Nat.zero_le _⟩ hS hP hD [1, 2, 3, 4, 5, 6, 7, 8, 9, 10] rfl rfl (ws' := wH cy ad (y4, y2.2.2, S.2.2.1, S.2.2.2.1, S.2.2.2.2.1, y2.2.1, S.2.2.2.2.2.2.1, S.2.2.2.2.2.2.2.1, S.2.2.2.2.2.2.2.2.1, S.2.2.2.2.2.2.2.2.2)) rfl (fun H locs hP hD hS => ?_)
    refine lv_aload_n hx hb dX4_map_28 rfl (lv_at hl 0 rfl) ?_
    refine va_get (D := D) (ci := 4) (v := .ref (ad 23)) (C := RX4) (T := TX4) (N := 10) hx hb hts inX4 hown hKK.1 hP 0 rfl rfl 6 (by decide) (hts _ q176) (fun _ h => h) rfl dX4_map_29 ?_
    refine lv_iconst (v := 0) hx hb dX4_map_32 (by decide) ?_
    refine va_put (D := D) (ci := 0) (v := .int (0 : Int32)) (ty := .int) (C := RX0) (T := TX0) (N := 5) hx hb hts inX0 tyX0 tyX0_ok nmX0 hown hKK.1 hP hD hS 23 rfl rfl 4 (by decide) (hts _ q140) (fun _ h => h) rfl (by decide +kernel) rfl rfl (Nat.le_of_ble_eq_true rfl) dX4_map_33 (fun H locs hP hD hS => ?_)
    have hP : va_P D vwCl (wH cy ad (y4, y2.2.2, S.2.2.1, S.2.2.2.1, S.2.2.2.2.1, y2.2.1, (S.2.2.2.2.2.2.1.1, S.2.2.2.2.2.2.1.2.1, S.2.2.2.2.2.2.1.2.2.1, S.2.2.2.2.2.2.1.2.2.2.1, (0 : Int32)), S.2.2.2.2.2.2.2.1, S.2.2.2.2.2.2.2.2.1, S.2.2.2.2.2.2.2.2.2)) H := hP
    have hD : va_D (adr (wH cy ad S)) (wH cy ad (y4, y2.2.2, S.2.2.1, S.2.2.2.1, S.2.2.2.2.1, y2.2.1, (S.2.2.2.2.2.2.1.1, S.2.2.2.2.2.2.1.2.1, S.2.2.2.2.2.2.1.2.2.1, S.2.2.2.2.2.2.1.2.2.2.1, (0 : Int32)), S.2.2.2.2.2.2.2.1, S.2.2.2.2.2.2.2.2.1, S.2.2.2.2.2.2.2.2.2)) := hD
    refine lv_aload_n hx hb dX4_map_36 rfl (lv_at hl 0 rfl) ?_
    refine lv_iconst (v := 0) hx hb dX4_map_37 (by decide) ?_
    refine va_put (D := D) (ci := 4) (v := .int (0 : Int32)) (ty := .int) (C := RX4) (T := TX4) (N := 10) hx hb hts inX4 tyX4 tyX4_ok nmX4 hown hKK.1 hP hD hS 0 rfl rfl 4 (by decide) (hts _ q174) (fun _ h => h) rfl (by decide +kernel) rfl rfl (Nat.le_of_ble_eq_true rfl) dX4_map_38 (fun H locs hP hD hS => ?_)
    have hP : va_P D vwCl (wH cy ad (y4, y2.2.2, S.2.2.1, S.2.2.2.1, (0 : Int32), y2.2.1, (S.2.2.2.2.2.2.1.1, S.2.2.2.2.2.2.1.2.1, S.2.2.2.2.2.2.1.2.2.1, S.2.2.2.2.2.2.1.2.2.2.1, (0 : Int32)), S.2.2.2.2.2.2.2.1, S.2.2.2.2.2.2.2.2.1, S.2.2.2.2.2.2.2.2.2)) H := hP
    have hD : va_D (adr (wH cy ad S)) (wH cy ad (y4, y2.2.2, S.2.2.1, S.2.2.2.1, (0 : Int32), y2.2.1, (S.2.2.2.2.2.2.1.1, S.2.2.2.2.2.2.1.2.1, S.2.2.2.2.2.2.1.2.2.1, S.2.2.2.2.2.2.1.2.2.2.1, (0 : Int32)), S.2.2.2.2.2.2.2.1, S.2.2.2.2.2.2.2.2.1, S.2.2.2.2.2.2.2.2.2)) := hD
    refine lv_aload_n hx hb dX4_map_41 rfl (lv_at hl 0 rfl) ?_
    refine va_get (D := D) (ci := 4) (v := .ref (ad 1)) (C := RX4) (T := TX4) (N := 10) hx hb hts inX4 hown hKK.1 hP 0 rfl rfl 0 (by decide) (hts _ q170) (fun _ h => h) rfl dX4_map_42 ?_
    obtain ⟨r6, hc5, hf⟩ := bd_some hf
    have hP1 := hP.sub (ws' := wL cy (ad 1) (ad 2) (ad 3) (ad 4) (ad 5) y4) [1, 2, 3, 4, 5] rfl
    refine pCallVI ⟨hx, hb, hml, hown, hts⟩ (mtX1_cellCount l D cy z (ad 1) (ad 2) (ad 3) (ad 4) (ad 5) y4 r6 hc5) miX1_cellCount q374 ⟨Nat.le_of_ble_eq_true rfl, Nat.le_of_ble_eq_true rfl⟩ ⟨rfl, rfl⟩ hP1 hKK hS hA0 (va_recv hKK.1 hP1 (ci := 1) (q0 := 0) rfl rfl) rfl hl.1 rfl (Nat.le_of_ble_eq_true rfl) dX4_map_45 ⟨Nat.zero_le _, Nat.zero_le _⟩ ?_
    cases hf
    exact mretI hx hb hr hlk hP hS dX4_map_48
  · have hf := (if_pos h).symm.trans hf
    refine lv_bipush (v := -3) hx hb dX4_map_14 (by decide) ?_
    cases hf
    exact mretI hx hb hr hlk hP hS dX4_map_16

abbrev rmX4_about : Room := { frames := 5, cells := 0, slots := 0, locals := 131 }
theorem miX4_about : miV yX4_about cX4_about 2 (some .int) 1 := ⟨q378, q40, q376, q377, by decide +kernel⟩
set_option maxHeartbeats 4000000 in
set_option maxRecDepth 100000 in
theorem mtX4_about (l : Launch) (D : va_G) (cy : Nat → ClassId) (z : zT) (ad : Nat → Nat) (S : tH) (u1 : Int32) (r0 : Int32) (hf : fX4_about S u1 = some r0) : pmet l yX4_about cX4_about 2 (some .int) rmX4_about D cy z (wH cy ad S) [.ref (ad 0), .int u1] (some (.int r0)) := by
  refine pmet_of (by decide +kernel) (Nat.le_of_ble_eq_true rfl) (fun p e s m below meth c hx hb hr hml hown hts hlk hP hKK ls hl => ?_)
  have hS : va_S noF s.heap s.heap [] := va_S.rf
  have hA0 : ∀ q, noF q → zA z q := fun _ h => h.elim
  have hown : s.vm.findClass "HillSight" = some m.cls := hown
  have hl : lv_has ls 2 [(0, .ref (ad 0)), (1, .int u1)] := hl
  unfold fX4_about at hf
  refine lv_iload_n hx hb dX4_about_0 rfl (lv_at hl 1 rfl) ?_
  by_cases h0 : u1 = 0
  · have hf := (if_pos h0).symm.trans hf
    refine sw_hit (tgt := 64) hx hb dX4_about_1 h0 (by decide) (by decide) rfl (by decide) ?_
    refine lv_aload_n hx hb dX4_about_64 rfl (lv_at hl 0 rfl) ?_
    refine va_get (D := D) (ci := 4) (v := .ref (ad 1)) (C := RX4) (T := TX4) (N := 10) hx hb hts inX4 hown hKK.1 hP 0 rfl rfl 0 (by decide) (hts _ q170) (fun _ h => h) rfl dX4_about_65 ?_
    refine va_get (D := D) (ci := 1) (v := .int S.1.1) (C := RX1) (T := TX1) (N := 7) hx hb hts inX1 hown hKK.1 hP 1 rfl rfl 0 (by decide) (hts _ q77) (fun _ h => h) rfl dX4_about_68 ?_
    exact pretI hx hb hr hlk hf dX4_about_71
  have hf := (if_neg h0).symm.trans hf
  by_cases h1 : u1 = 1
  · have hf := (if_pos h1).symm.trans hf
    refine sw_hit (tgt := 72) hx hb dX4_about_1 h1 (by decide) (by decide) rfl (by decide) ?_
    refine lv_aload_n hx hb dX4_about_72 rfl (lv_at hl 0 rfl) ?_
    refine va_get (D := D) (ci := 4) (v := .ref (ad 1)) (C := RX4) (T := TX4) (N := 10) hx hb hts inX4 hown hKK.1 hP 0 rfl rfl 0 (by decide) (hts _ q170) (fun _ h => h) rfl dX4_about_73 ?_
    refine va_get (D := D) (ci := 1) (v := .int S.1.2.1) (C := RX1) (T := TX1) (N := 7) hx hb hts inX1 hown hKK.1 hP 1 rfl rfl 1 (by decide) (hts _ q79) (fun _ h => h) rfl dX4_about_76 ?_
    exact pretI hx hb hr hlk hf dX4_about_79
  have hf := (if_neg h1).symm.trans hf
  by_cases h2 : u1 = 2
  · have hf := (if_pos h2).symm.trans hf
    refine sw_hit (tgt := 80) hx hb dX4_about_1 h2 (by decide) (by decide) rfl (by decide) ?_
    refine lv_aload_n hx hb dX4_about_80 rfl (lv_at hl 0 rfl) ?_
    refine va_get (D := D) (ci := 4) (v := .ref (ad 1)) (C := RX4) (T := TX4) (N := 10) hx hb hts inX4 hown hKK.1 hP 0 rfl rfl 0 (by decide) (hts _ q170) (fun _ h => h) rfl dX4_about_81 ?_
    refine va_get (D := D) (ci := 1) (v := .int S.1.2.2.1) (C := RX1) (T := TX1) (N := 7) hx hb hts inX1 hown hKK.1 hP 1 rfl rfl 2 (by decide) (hts _ q81) (fun _ h => h) rfl dX4_about_84 ?_
    exact pretI hx hb hr hlk hf dX4_about_87
  have hf := (if_neg h2).symm.trans hf
  by_cases h3 : u1 = 3
  · have hf := (if_pos h3).symm.trans hf
    refine sw_hit (tgt := 88) hx hb dX4_about_1 h3 (by decide) (by decide) rfl (by decide) ?_
    refine lv_aload_n hx hb dX4_about_88 rfl (lv_at hl 0 rfl) ?_
    refine va_get (D := D) (ci := 4) (v := .ref (ad 1)) (C := RX4) (T := TX4) (N := 10) hx hb hts inX4 hown hKK.1 hP 0 rfl rfl 0 (by decide) (hts _ q170) (fun _ h => h) rfl dX4_about_89 ?_
    refine va_get (D := D) (ci := 1) (v := .ref (ad 5)) (C := RX1) (T := TX1) (N := 7) hx hb hts inX1 hown hKK.1 hP 1 rfl rfl 6 (by decide) (hts _ q90) (fun _ h => h) rfl dX4_about_92 ?_
    refine lv_iconst (v := 0) hx hb dX4_about_95 (by decide) ?_
    refine va_iald hx hb hKK.1 hP 5 0 rfl rfl (inb_in (by decide)) dX4_about_96 ?_
    exact pretI hx hb hr hlk hf dX4_about_97
  have hf := (if_neg h3).symm.trans hf
  by_cases h4 : u1 = 4
  · have hf := (if_pos h4).symm.trans hf
    refine sw_hit (tgt := 98) hx hb dX4_about_1 h4 (by decide) (by decide) rfl (by decide) ?_
    refine lv_aload_n hx hb dX4_about_98 rfl (lv_at hl 0 rfl) ?_
    refine va_get (D := D) (ci := 4) (v := .ref (ad 1)) (C := RX4) (T := TX4) (N := 10) hx hb hts inX4 hown hKK.1 hP 0 rfl rfl 0 (by decide) (hts _ q170) (fun _ h => h) rfl dX4_about_99 ?_
    refine va_get (D := D) (ci := 1) (v := .ref (ad 5)) (C := RX1) (T := TX1) (N := 7) hx hb hts inX1 hown hKK.1 hP 1 rfl rfl 6 (by decide) (hts _ q90) (fun _ h => h) rfl dX4_about_102 ?_
    refine lv_iconst (v := 1) hx hb dX4_about_105 (by decide) ?_
    refine va_iald hx hb hKK.1 hP 5 0 rfl rfl (inb_in (by decide)) dX4_about_106 ?_
    exact pretI hx hb hr hlk hf dX4_about_107
  have hf := (if_neg h4).symm.trans hf
  by_cases h5 : u1 = 5
  · have hf := (if_pos h5).symm.trans hf
    refine sw_hit (tgt := 108) hx hb dX4_about_1 h5 (by decide) (by decide) rfl (by decide) ?_
    refine lv_aload_n hx hb dX4_about_108 rfl (lv_at hl 0 rfl) ?_
    refine va_get (D := D) (ci := 4) (v := .ref (ad 1)) (C := RX4) (T := TX4) (N := 10) hx hb hts inX4 hown hKK.1 hP 0 rfl rfl 0 (by decide) (hts _ q170) (fun _ h => h) rfl dX4_about_109 ?_
    refine va_get (D := D) (ci := 1) (v := .ref (ad 5)) (C := RX1) (T := TX1) (N := 7) hx hb hts inX1 hown hKK.1 hP 1 rfl rfl 6 (by decide) (hts _ q90) (fun _ h => h) rfl dX4_about_112 ?_
    refine lv_iconst (v := 2) hx hb dX4_about_115 (by decide) ?_
    refine va_iald hx hb hKK.1 hP 5 0 rfl rfl (inb_in (by decide)) dX4_about_116 ?_
    exact pretI hx hb hr hlk hf dX4_about_117
  have hf := (if_neg h5).symm.trans hf
  by_cases h6 : u1 = 6
  · have hf := (if_pos h6).symm.trans hf
    refine sw_hit (tgt := 118) hx hb dX4_about_1 h6 (by decide) (by decide) rfl (by decide) ?_
    refine lv_aload_n hx hb dX4_about_118 rfl (lv_at hl 0 rfl) ?_
    refine va_get (D := D) (ci := 4) (v := .ref (ad 1)) (C := RX4) (T := TX4) (N := 10) hx hb hts inX4 hown hKK.1 hP 0 rfl rfl 0 (by decide) (hts _ q170) (fun _ h => h) rfl dX4_about_119 ?_
    refine va_get (D := D) (ci := 1) (v := .ref (ad 5)) (C := RX1) (T := TX1) (N := 7) hx hb hts inX1 hown hKK.1 hP 1 rfl rfl 6 (by decide) (hts _ q90) (fun _ h => h) rfl dX4_about_122 ?_
    refine lv_iconst (v := 3) hx hb dX4_about_125 (by decide) ?_
    refine va_iald hx hb hKK.1 hP 5 0 rfl rfl (inb_in (by decide)) dX4_about_126 ?_
    exact pretI hx hb hr hlk hf dX4_about_127
  have hf := (if_neg h6).symm.trans hf
  by_cases h7 : u1 = 7
  · have hf := (if_pos h7).symm.trans hf
    refine sw_hit (tgt := 128) hx hb dX4_about_1 h7 (by decide) (by decide) rfl (by decide) ?_
    refine lv_aload_n hx hb dX4_about_128 rfl (lv_at hl 0 rfl) ?_
    refine va_get (D := D) (ci := 4) (v := .ref (ad 1)) (C := RX4) (T := TX4) (N := 10) hx hb hts inX4 hown hKK.1 hP 0 rfl rfl 0 (by decide) (hts _ q170) (fun _ h => h) rfl dX4_about_129 ?_
    obtain ⟨r2, hc1, hf⟩ := bd_some hf
    have hP1 := hP.sub (ws' := wL cy (ad 1) (ad 2) (ad 3) (ad 4) (ad 5) S.1) [1, 2, 3, 4, 5] rfl
    refine pCallVL ⟨hx, hb, hml, hown, hts⟩ (mtX1_hiddenSet l D cy z (ad 1) (ad 2) (ad 3) (ad 4) (ad 5) S.1 r2 hc1) miX1_hiddenSet q379 ⟨Nat.le_of_ble_eq_true rfl, Nat.le_of_ble_eq_true rfl⟩ ⟨rfl, rfl⟩ hP1 hKK hS hA0 (va_recv hKK.1 hP1 (ci := 1) (q0 := 0) rfl rfl) rfl hl.1 rfl (Nat.le_of_ble_eq_true rfl) dX4_about_132 ⟨Nat.zero_le _, Nat.zero_le _⟩ ?_
    obtain ⟨r4, hc3, hf⟩ := bd_some hf
    have hP1 := hP.sub (ws' := []) [] rfl
    refine pCallSI ⟨hx, hb, hml, hown, hts⟩ (mtJ13_bitCount_95d88 l D cy z r2 r4 hc3) miJ13_bitCount_95d88 q420 ⟨Nat.le_of_ble_eq_true rfl, Nat.le_of_ble_eq_true rfl⟩ ⟨rfl, rfl⟩ hP1 hKK hS hA0 rfl hl.1 rfl (Nat.le_of_ble_eq_true rfl) dX4_about_135 ⟨Nat.zero_le _, Nat.zero_le _⟩ ?_
    exact pretI hx hb hr hlk hf dX4_about_138
  have hf := (if_neg h7).symm.trans hf
  by_cases h8 : u1 = 8
  · have hf := (if_pos h8).symm.trans hf
    refine sw_hit (tgt := 139) hx hb dX4_about_1 h8 (by decide) (by decide) rfl (by decide) ?_
    refine lv_aload_n hx hb dX4_about_139 rfl (lv_at hl 0 rfl) ?_
    refine va_get (D := D) (ci := 4) (v := .ref (ad 1)) (C := RX4) (T := TX4) (N := 10) hx hb hts inX4 hown hKK.1 hP 0 rfl rfl 0 (by decide) (hts _ q170) (fun _ h => h) rfl dX4_about_140 ?_
    refine lv_aload_n hx hb dX4_about_143 rfl (lv_at hl 0 rfl) ?_
    refine va_get (D := D) (ci := 4) (v := .ref (ad 1)) (C := RX4) (T := TX4) (N := 10) hx hb hts inX4 hown hKK.1 hP 0 rfl rfl 0 (by decide) (hts _ q170) (fun _ h => h) rfl dX4_about_144 ?_
    obtain ⟨r6, hc5, hf⟩ := bd_some hf
    have hP1 := hP.sub (ws' := wL cy (ad 1) (ad 2) (ad 3) (ad 4) (ad 5) S.1) [1, 2, 3, 4, 5] rfl
    refine pCallVL ⟨hx, hb, hml, hown, hts⟩ (mtX1_hiddenSet l D cy z (ad 1) (ad 2) (ad 3) (ad 4) (ad 5) S.1 r6 hc5) miX1_hiddenSet q379 ⟨Nat.le_of_ble_eq_true rfl, Nat.le_of_ble_eq_true rfl⟩ ⟨rfl, rfl⟩ hP1 hKK hS hA0 (va_recv hKK.1 hP1 (ci := 1) (q0 := 0) rfl rfl) rfl hl.1 rfl (Nat.le_of_ble_eq_true rfl) dX4_about_147 ⟨Nat.zero_le _, Nat.zero_le _⟩ ?_
    obtain ⟨r8, hc7, hf⟩ := bd_some hf
    have hP1 := hP.sub (ws' := wL cy (ad 1) (ad 2) (ad 3) (ad 4) (ad 5) S.1) [1, 2, 3, 4, 5] rfl
    refine pCallVI ⟨hx, hb, hml, hown, hts⟩ (mtX1_regionCount l D cy z (ad 1) (ad 2) (ad 3) (ad 4) (ad 5) S.1 r6 r8 hc7) miX1_regionCount q426 ⟨Nat.le_of_ble_eq_true rfl, Nat.le_of_ble_eq_true rfl⟩ ⟨rfl, rfl⟩ hP1 hKK hS hA0 (va_recv hKK.1 hP1 (ci := 1) (q0 := 0) rfl rfl) rfl hl.1 rfl (Nat.le_of_ble_eq_true rfl) dX4_about_150 ⟨Nat.zero_le _, Nat.zero_le _⟩ ?_
    exact pretI hx hb hr hlk hf dX4_about_153
  have hf := (if_neg h8).symm.trans hf
  by_cases h9 : u1 = 9
  · have hf := (if_pos h9).symm.trans hf
    refine sw_hit (tgt := 154) hx hb dX4_about_1 h9 (by decide) (by decide) rfl (by decide) ?_
    refine lv_aload_n hx hb dX4_about_154 rfl (lv_at hl 0 rfl) ?_
    refine va_get (D := D) (ci := 4) (v := .ref (ad 23)) (C := RX4) (T := TX4) (N := 10) hx hb hts inX4 hown hKK.1 hP 0 rfl rfl 6 (by decide) (hts _ q176) (fun _ h => h) rfl dX4_about_155 ?_
    refine va_get (D := D) (ci := 0) (v := .int S.2.2.2.2.2.2.1.2.2.2.2) (C := RX0) (T := TX0) (N := 5) hx hb hts inX0 hown hKK.1 hP 23 rfl rfl 4 (by decide) (hts _ q140) (fun _ h => h) rfl dX4_about_158 ?_
    exact pretI hx hb hr hlk hf dX4_about_161
  have hf := (if_neg h9).symm.trans hf
  by_cases h10 : u1 = 10
  · have hf := (if_pos h10).symm.trans hf
    refine sw_hit (tgt := 162) hx hb dX4_about_1 h10 (by decide) (by decide) rfl (by decide) ?_
    refine lv_aload_n hx hb dX4_about_162 rfl (lv_at hl 0 rfl) ?_
    refine va_get (D := D) (ci := 4) (v := .ref (ad 28)) (C := RX4) (T := TX4) (N := 10) hx hb hts inX4 hown hKK.1 hP 0 rfl rfl 7 (by decide) (hts _ q177) (fun _ h => h) rfl dX4_about_163 ?_
    refine va_get (D := D) (ci := 3) (v := .int S.2.2.2.2.2.2.2.1.2.2) (C := RX3) (T := TX3) (N := 3) hx hb hts inX3 hown hKK.1 hP 28 rfl rfl 2 (by decide) (hts _ q161) (fun _ h => h) rfl dX4_about_166 ?_
    exact pretI hx hb hr hlk hf dX4_about_169
  have hf := (if_neg h10).symm.trans hf
  by_cases h11 : u1 = 11
  · have hf := (if_pos h11).symm.trans hf
    refine sw_hit (tgt := 170) hx hb dX4_about_1 h11 (by decide) (by decide) rfl (by decide) ?_
    refine lv_aload_n hx hb dX4_about_170 rfl (lv_at hl 0 rfl) ?_
    refine va_get (D := D) (ci := 4) (v := .ref (ad 21)) (C := RX4) (T := TX4) (N := 10) hx hb hts inX4 hown hKK.1 hP 0 rfl rfl 5 (by decide) (hts _ q175) (fun _ h => h) rfl dX4_about_171 ?_
    refine va_get (D := D) (ci := 2) (v := .int S.2.2.2.2.2.1.2.1) (C := RX2) (T := TX2) (N := 4) hx hb hts inX2 hown hKK.1 hP 21 rfl rfl 1 (by decide) (hts _ q115) (fun _ h => h) rfl dX4_about_174 ?_
    exact pretI hx hb hr hlk hf dX4_about_177
  have hf := (if_neg h11).symm.trans hf
  refine lv_tableOut (tgt := 178) hx hb dX4_about_1 (show (u1).toInt < 0 ∨ 11 < (u1).toInt by have e0 := lv_neT h0 (a := 0) (by decide); have e1 := lv_neT h1 (a := 1) (by decide); have e2 := lv_neT h2 (a := 2) (by decide); have e3 := lv_neT h3 (a := 3) (by decide); have e4 := lv_neT h4 (a := 4) (by decide); have e5 := lv_neT h5 (a := 5) (by decide); have e6 := lv_neT h6 (a := 6) (by decide); have e7 := lv_neT h7 (a := 7) (by decide); have e8 := lv_neT h8 (a := 8) (by decide); have e9 := lv_neT h9 (a := 9) (by decide); have e10 := lv_neT h10 (a := 10) (by decide); have e11 := lv_neT h11 (a := 11) (by decide); omega) (by decide) ?_
  refine lv_bipush (v := -2) hx hb dX4_about_178 (by decide) ?_
  exact pretI hx hb hr hlk hf dX4_about_180

abbrev rmX4_cell : Room := { frames := 5, cells := 0, slots := 0, locals := 131 }
theorem miX4_cell : miV yX4_cell cX4_cell 3 (some .int) 2 := ⟨q437, q40, q435, q436, by decide +kernel⟩
set_option maxHeartbeats 4000000 in
set_option maxRecDepth 100000 in
theorem mtX4_cell (l : Launch) (D : va_G) (cy : Nat → ClassId) (z : zT) (ad : Nat → Nat) (S : tH) (u1 : Int32) (u2 : Int32) (r0 : Int32) (hf : fX4_cell S u1 u2 = some r0) : pmet l yX4_cell cX4_cell 3 (some .int) rmX4_cell D cy z (wH cy ad S) [.ref (ad 0), .int u1, .int u2] (some (.int r0)) := by
  refine pmet_of (by decide +kernel) (Nat.le_of_ble_eq_true rfl) (fun p e s m below meth c hx hb hr hml hown hts hlk hP hKK ls hl => ?_)
  have hS : va_S noF s.heap s.heap [] := va_S.rf
  have hA0 : ∀ q, noF q → zA z q := fun _ h => h.elim
  have hown : s.vm.findClass "HillSight" = some m.cls := hown
  have hl : lv_has ls 3 [(0, .ref (ad 0)), (1, .int u1), (2, .int u2)] := hl
  unfold fX4_cell at hf
  refine lv_aload_n hx hb dX4_cell_0 rfl (lv_at hl 0 rfl) ?_
  refine va_get (D := D) (ci := 4) (v := .ref (ad 1)) (C := RX4) (T := TX4) (N := 10) hx hb hts inX4 hown hKK.1 hP 0 rfl rfl 0 (by decide) (hts _ q170) (fun _ h => h) rfl dX4_cell_1 ?_
  refine lv_iload_n hx hb dX4_cell_4 rfl (lv_at hl 1 rfl) ?_
  obtain ⟨r2, hc1, hf⟩ := bd_some hf
  have hP1 := hP.sub (ws' := wL cy (ad 1) (ad 2) (ad 3) (ad 4) (ad 5) S.1) [1, 2, 3, 4, 5] rfl
  refine pCallVI ⟨hx, hb, hml, hown, hts⟩ (mtX1_hasCell l D cy z (ad 1) (ad 2) (ad 3) (ad 4) (ad 5) S.1 u1 r2 hc1) miX1_hasCell q438 ⟨Nat.le_of_ble_eq_true rfl, Nat.le_of_ble_eq_true rfl⟩ ⟨rfl, rfl⟩ hP1 hKK hS hA0 (va_recv hKK.1 hP1 (ci := 1) (q0 := 0) rfl rfl) rfl hl.1 rfl (Nat.le_of_ble_eq_true rfl) dX4_cell_5 ⟨Nat.zero_le _, Nat.zero_le _⟩ ?_
  refine lv_if_ne (tgt := 13) hx hb dX4_cell_8 (by decide) (fun h => ?_) (fun h => ?_)
  · have hf := (if_neg h).symm.trans hf
    refine lv_iload_n hx hb dX4_cell_13 rfl (lv_at hl 2 rfl) ?_
    by_cases h0 : u2 = 0
    · have hf := (if_pos h0).symm.trans hf
      refine sw_hit (tgt := 48) hx hb dX4_cell_14 h0 (by decide) (by decide) rfl (by decide) ?_
      refine lv_aload_n hx hb dX4_cell_48 rfl (lv_at hl 0 rfl) ?_
      refine va_get (D := D) (ci := 4) (v := .ref (ad 1)) (C := RX4) (T := TX4) (N := 10) hx hb hts inX4 hown hKK.1 hP 0 rfl rfl 0 (by decide) (hts _ q170) (fun _ h => h) rfl dX4_cell_49 ?_
      refine lv_iload_n hx hb dX4_cell_52 rfl (lv_at hl 1 rfl) ?_
      obtain ⟨r4, hc3, hf⟩ := bd_some hf
      have hP1 := hP.sub (ws' := wL cy (ad 1) (ad 2) (ad 3) (ad 4) (ad 5) S.1) [1, 2, 3, 4, 5] rfl
      refine pCallVI ⟨hx, hb, hml, hown, hts⟩ (mtX1_heightOf l D cy z (ad 1) (ad 2) (ad 3) (ad 4) (ad 5) S.1 u1 r4 hc3) miX1_heightOf q439 ⟨Nat.le_of_ble_eq_true rfl, Nat.le_of_ble_eq_true rfl⟩ ⟨rfl, rfl⟩ hP1 hKK hS hA0 (va_recv hKK.1 hP1 (ci := 1) (q0 := 0) rfl rfl) rfl hl.1 rfl (Nat.le_of_ble_eq_true rfl) dX4_cell_53 ⟨Nat.zero_le _, Nat.zero_le _⟩ ?_
      exact pretI hx hb hr hlk hf dX4_cell_56
    have hf := (if_neg h0).symm.trans hf
    by_cases h1 : u2 = 1
    · have hf := (if_pos h1).symm.trans hf
      refine sw_hit (tgt := 57) hx hb dX4_cell_14 h1 (by decide) (by decide) rfl (by decide) ?_
      refine lv_aload_n hx hb dX4_cell_57 rfl (lv_at hl 0 rfl) ?_
      refine va_get (D := D) (ci := 4) (v := .ref (ad 1)) (C := RX4) (T := TX4) (N := 10) hx hb hts inX4 hown hKK.1 hP 0 rfl rfl 0 (by decide) (hts _ q170) (fun _ h => h) rfl dX4_cell_58 ?_
      refine lv_iload_n hx hb dX4_cell_61 rfl (lv_at hl 1 rfl) ?_
      obtain ⟨r6, hc5, hf⟩ := bd_some hf
      have hP1 := hP.sub (ws' := wL cy (ad 1) (ad 2) (ad 3) (ad 4) (ad 5) S.1) [1, 2, 3, 4, 5] rfl
      refine pCallVI ⟨hx, hb, hml, hown, hts⟩ (mtX1_towersOn l D cy z (ad 1) (ad 2) (ad 3) (ad 4) (ad 5) S.1 u1 r6 hc5) miX1_towersOn q440 ⟨Nat.le_of_ble_eq_true rfl, Nat.le_of_ble_eq_true rfl⟩ ⟨rfl, rfl⟩ hP1 hKK hS hA0 (va_recv hKK.1 hP1 (ci := 1) (q0 := 0) rfl rfl) rfl hl.1 rfl (Nat.le_of_ble_eq_true rfl) dX4_cell_62 ⟨Nat.zero_le _, Nat.zero_le _⟩ ?_
      exact pretI hx hb hr hlk hf dX4_cell_65
    have hf := (if_neg h1).symm.trans hf
    by_cases h2 : u2 = 2
    · have hf := (if_pos h2).symm.trans hf
      refine sw_hit (tgt := 66) hx hb dX4_cell_14 h2 (by decide) (by decide) rfl (by decide) ?_
      refine lv_aload_n hx hb dX4_cell_66 rfl (lv_at hl 0 rfl) ?_
      refine va_get (D := D) (ci := 4) (v := .ref (ad 1)) (C := RX4) (T := TX4) (N := 10) hx hb hts inX4 hown hKK.1 hP 0 rfl rfl 0 (by decide) (hts _ q170) (fun _ h => h) rfl dX4_cell_67 ?_
      refine lv_iload_n hx hb dX4_cell_70 rfl (lv_at hl 1 rfl) ?_
      obtain ⟨r8, hc7, hf⟩ := bd_some hf
      have hP1 := hP.sub (ws' := wL cy (ad 1) (ad 2) (ad 3) (ad 4) (ad 5) S.1) [1, 2, 3, 4, 5] rfl
      refine pCallVI ⟨hx, hb, hml, hown, hts⟩ (mtX1_watchersOf l D cy z (ad 1) (ad 2) (ad 3) (ad 4) (ad 5) S.1 u1 r8 hc7) miX1_watchersOf q444 ⟨Nat.le_of_ble_eq_true rfl, Nat.le_of_ble_eq_true rfl⟩ ⟨rfl, rfl⟩ hP1 hKK hS hA0 (va_recv hKK.1 hP1 (ci := 1) (q0 := 0) rfl rfl) rfl hl.1 rfl (Nat.le_of_ble_eq_true rfl) dX4_cell_71 ⟨Nat.zero_le _, Nat.zero_le _⟩ ?_
      exact pretI hx hb hr hlk hf dX4_cell_74
    have hf := (if_neg h2).symm.trans hf
    by_cases h3 : u2 = 3
    · have hf := (if_pos h3).symm.trans hf
      refine sw_hit (tgt := 75) hx hb dX4_cell_14 h3 (by decide) (by decide) rfl (by decide) ?_
      refine lv_aload_n hx hb dX4_cell_75 rfl (lv_at hl 0 rfl) ?_
      refine va_get (D := D) (ci := 4) (v := .ref (ad 1)) (C := RX4) (T := TX4) (N := 10) hx hb hts inX4 hown hKK.1 hP 0 rfl rfl 0 (by decide) (hts _ q170) (fun _ h => h) rfl dX4_cell_76 ?_
      refine lv_iload_n hx hb dX4_cell_79 rfl (lv_at hl 1 rfl) ?_
      refine lv_aload_n hx hb dX4_cell_80 rfl (lv_at hl 0 rfl) ?_
      refine va_get (D := D) (ci := 4) (v := .ref (ad 1)) (C := RX4) (T := TX4) (N := 10) hx hb hts inX4 hown hKK.1 hP 0 rfl rfl 0 (by decide) (hts _ q170) (fun _ h => h) rfl dX4_cell_81 ?_
      refine va_get (D := D) (ci := 1) (v := .ref (ad 5)) (C := RX1) (T := TX1) (N := 7) hx hb hts inX1 hown hKK.1 hP 1 rfl rfl 6 (by decide) (hts _ q90) (fun _ h => h) rfl dX4_cell_84 ?_
      refine lv_iconst (v := 0) hx hb dX4_cell_87 (by decide) ?_
      refine va_iald hx hb hKK.1 hP 5 0 rfl rfl (inb_in (by decide)) dX4_cell_88 ?_
      obtain ⟨r10, hc9, hf⟩ := bd_some hf
      have hP1 := hP.sub (ws' := wL cy (ad 1) (ad 2) (ad 3) (ad 4) (ad 5) S.1) [1, 2, 3, 4, 5] rfl
      refine pCallVL ⟨hx, hb, hml, hown, hts⟩ (mtX1_viewFrom l D cy z (ad 1) (ad 2) (ad 3) (ad 4) (ad 5) S.1 u1 (S.1.2.2.2.2.2.2 (0 : Int32).toNatClampNeg) r10 hc9) miX1_viewFrom q448 ⟨Nat.le_of_ble_eq_true rfl, Nat.le_of_ble_eq_true rfl⟩ ⟨rfl, rfl⟩ hP1 hKK hS hA0 (va_recv hKK.1 hP1 (ci := 1) (q0 := 0) rfl rfl) rfl hl.1 rfl (Nat.le_of_ble_eq_true rfl) dX4_cell_89 ⟨Nat.zero_le _, Nat.zero_le _⟩ ?_
      obtain ⟨r12, hc11, hf⟩ := bd_some hf
      have hP1 := hP.sub (ws' := []) [] rfl
      refine pCallSI ⟨hx, hb, hml, hown, hts⟩ (mtJ13_bitCount_95d88 l D cy z r10 r12 hc11) miJ13_bitCount_95d88 q420 ⟨Nat.le_of_ble_eq_true rfl, Nat.le_of_ble_eq_true rfl⟩ ⟨rfl, rfl⟩ hP1 hKK hS hA0 rfl hl.1 rfl (Nat.le_of_ble_eq_true rfl) dX4_cell_92 ⟨Nat.zero_le _, Nat.zero_le _⟩ ?_
      exact pretI hx hb hr hlk hf dX4_cell_95
    have hf := (if_neg h3).symm.trans hf
    by_cases h4 : u2 = 4
    · have hf := (if_pos h4).symm.trans hf
      refine sw_hit (tgt := 96) hx hb dX4_cell_14 h4 (by decide) (by decide) rfl (by decide) ?_
      refine lv_aload_n hx hb dX4_cell_96 rfl (lv_at hl 0 rfl) ?_
      refine va_get (D := D) (ci := 4) (v := .ref (ad 1)) (C := RX4) (T := TX4) (N := 10) hx hb hts inX4 hown hKK.1 hP 0 rfl rfl 0 (by decide) (hts _ q170) (fun _ h => h) rfl dX4_cell_97 ?_
      refine lv_iload_n hx hb dX4_cell_100 rfl (lv_at hl 1 rfl) ?_
      refine lv_aload_n hx hb dX4_cell_101 rfl (lv_at hl 0 rfl) ?_
      refine va_get (D := D) (ci := 4) (v := .ref (ad 1)) (C := RX4) (T := TX4) (N := 10) hx hb hts inX4 hown hKK.1 hP 0 rfl rfl 0 (by decide) (hts _ q170) (fun _ h => h) rfl dX4_cell_102 ?_
      obtain ⟨r14, hc13, hf⟩ := bd_some hf
      have hP1 := hP.sub (ws' := wL cy (ad 1) (ad 2) (ad 3) (ad 4) (ad 5) S.1) [1, 2, 3, 4, 5] rfl
      refine pCallVL ⟨hx, hb, hml, hown, hts⟩ (mtX1_hiddenSet l D cy z (ad 1) (ad 2) (ad 3) (ad 4) (ad 5) S.1 r14 hc13) miX1_hiddenSet q379 ⟨Nat.le_of_ble_eq_true rfl, Nat.le_of_ble_eq_true rfl⟩ ⟨rfl, rfl⟩ hP1 hKK hS hA0 (va_recv hKK.1 hP1 (ci := 1) (q0 := 0) rfl rfl) rfl hl.1 rfl (Nat.le_of_ble_eq_true rfl) dX4_cell_105 ⟨Nat.zero_le _, Nat.zero_le _⟩ ?_
      obtain ⟨r16, hc15, hf⟩ := bd_some hf
      have hP1 := hP.sub (ws' := wL cy (ad 1) (ad 2) (ad 3) (ad 4) (ad 5) S.1) [1, 2, 3, 4, 5] rfl
      refine pCallVI ⟨hx, hb, hml, hown, hts⟩ (mtX1_regionOf l D cy z (ad 1) (ad 2) (ad 3) (ad 4) (ad 5) S.1 u1 r14 r16 hc15) miX1_regionOf q449 ⟨Nat.le_of_ble_eq_true rfl, Nat.le_of_ble_eq_true rfl⟩ ⟨rfl, rfl⟩ hP1 hKK hS hA0 (va_recv hKK.1 hP1 (ci := 1) (q0 := 0) rfl rfl) rfl hl.1 rfl (Nat.le_of_ble_eq_true rfl) dX4_cell_108 ⟨Nat.zero_le _, Nat.zero_le _⟩ ?_
      exact pretI hx hb hr hlk hf dX4_cell_111
    have hf := (if_neg h4).symm.trans hf
    refine lv_tableOut (tgt := 112) hx hb dX4_cell_14 (show (u2).toInt < 0 ∨ 4 < (u2).toInt by have e0 := lv_neT h0 (a := 0) (by decide); have e1 := lv_neT h1 (a := 1) (by decide); have e2 := lv_neT h2 (a := 2) (by decide); have e3 := lv_neT h3 (a := 3) (by decide); have e4 := lv_neT h4 (a := 4) (by decide); omega) (by decide) ?_
    refine lv_bipush (v := -2) hx hb dX4_cell_112 (by decide) ?_
    exact pretI hx hb hr hlk hf dX4_cell_114
  · have hf := (if_pos h).symm.trans hf
    refine lv_iconst (v := -1) hx hb dX4_cell_11 (by decide) ?_
    exact pretI hx hb hr hlk hf dX4_cell_12

abbrev rmX4_tower : Room := { frames := 6, cells := 0, slots := 0, locals := 153 }
theorem miX4_tower : miV yX4_tower cX4_tower 3 (some .int) 2 := ⟨q459, q40, q457, q458, by decide +kernel⟩
set_option maxHeartbeats 4000000 in
set_option maxRecDepth 100000 in
theorem mtX4_tower (l : Launch) (D : va_G) (cy : Nat → ClassId) (z : zT) (ad : Nat → Nat) (S : tH) (u1 : Int32) (u2 : Int32) (r0 : Int32) (hf : fX4_tower S u1 u2 = some r0) : pmet l yX4_tower cX4_tower 3 (some .int) rmX4_tower D cy z (wH cy ad S) [.ref (ad 0), .int u1, .int u2] (some (.int r0)) := by
  refine pmet_of (by decide +kernel) (Nat.le_of_ble_eq_true rfl) (fun p e s m below meth c hx hb hr hml hown hts hlk hP hKK ls hl => ?_)
  have hS : va_S noF s.heap s.heap [] := va_S.rf
  have hA0 : ∀ q, noF q → zA z q := fun _ h => h.elim
  have hown : s.vm.findClass "HillSight" = some m.cls := hown
  have hl : lv_has ls 3 [(0, .ref (ad 0)), (1, .int u1), (2, .int u2)] := hl
  unfold fX4_tower at hf
  refine lv_aload_n hx hb dX4_tower_0 rfl (lv_at hl 0 rfl) ?_
  refine va_get (D := D) (ci := 4) (v := .ref (ad 1)) (C := RX4) (T := TX4) (N := 10) hx hb hts inX4 hown hKK.1 hP 0 rfl rfl 0 (by decide) (hts _ q170) (fun _ h => h) rfl dX4_tower_1 ?_
  refine lv_iload_n hx hb dX4_tower_4 rfl (lv_at hl 1 rfl) ?_
  obtain ⟨r2, hc1, hf⟩ := bd_some hf
  have hP1 := hP.sub (ws' := wL cy (ad 1) (ad 2) (ad 3) (ad 4) (ad 5) S.1) [1, 2, 3, 4, 5] rfl
  refine pCallVI ⟨hx, hb, hml, hown, hts⟩ (mtX1_hasTower l D cy z (ad 1) (ad 2) (ad 3) (ad 4) (ad 5) S.1 u1 r2 hc1) miX1_hasTower q460 ⟨Nat.le_of_ble_eq_true rfl, Nat.le_of_ble_eq_true rfl⟩ ⟨rfl, rfl⟩ hP1 hKK hS hA0 (va_recv hKK.1 hP1 (ci := 1) (q0 := 0) rfl rfl) rfl hl.1 rfl (Nat.le_of_ble_eq_true rfl) dX4_tower_5 ⟨Nat.zero_le _, Nat.zero_le _⟩ ?_
  refine lv_if_ne (tgt := 13) hx hb dX4_tower_8 (by decide) (fun h => ?_) (fun h => ?_)
  · have hf := (if_neg h).symm.trans hf
    refine lv_iload_n hx hb dX4_tower_13 rfl (lv_at hl 2 rfl) ?_
    by_cases h0 : u2 = 0
    · have hf := (if_pos h0).symm.trans hf
      refine sw_hit (tgt := 44) hx hb dX4_tower_14 h0 (by decide) (by decide) rfl (by decide) ?_
      refine lv_aload_n hx hb dX4_tower_44 rfl (lv_at hl 0 rfl) ?_
      refine va_get (D := D) (ci := 4) (v := .ref (ad 1)) (C := RX4) (T := TX4) (N := 10) hx hb hts inX4 hown hKK.1 hP 0 rfl rfl 0 (by decide) (hts _ q170) (fun _ h => h) rfl dX4_tower_45 ?_
      refine va_get (D := D) (ci := 1) (v := .ref (ad 3)) (C := RX1) (T := TX1) (N := 7) hx hb hts inX1 hown hKK.1 hP 1 rfl rfl 4 (by decide) (hts _ q85) (fun _ h => h) rfl dX4_tower_48 ?_
      refine lv_iload_n hx hb dX4_tower_51 rfl (lv_at hl 1 rfl) ?_
      obtain ⟨hg3, hf⟩ := gd_some hf
      refine va_iald hx hb hKK.1 hP 3 0 rfl rfl (inb_in hg3) dX4_tower_52 ?_
      exact pretI hx hb hr hlk hf dX4_tower_53
    have hf := (if_neg h0).symm.trans hf
    by_cases h1 : u2 = 1
    · have hf := (if_pos h1).symm.trans hf
      refine sw_hit (tgt := 54) hx hb dX4_tower_14 h1 (by decide) (by decide) rfl (by decide) ?_
      refine lv_aload_n hx hb dX4_tower_54 rfl (lv_at hl 0 rfl) ?_
      refine va_get (D := D) (ci := 4) (v := .ref (ad 1)) (C := RX4) (T := TX4) (N := 10) hx hb hts inX4 hown hKK.1 hP 0 rfl rfl 0 (by decide) (hts _ q170) (fun _ h => h) rfl dX4_tower_55 ?_
      refine va_get (D := D) (ci := 1) (v := .ref (ad 4)) (C := RX1) (T := TX1) (N := 7) hx hb hts inX1 hown hKK.1 hP 1 rfl rfl 5 (by decide) (hts _ q87) (fun _ h => h) rfl dX4_tower_58 ?_
      refine lv_iload_n hx hb dX4_tower_61 rfl (lv_at hl 1 rfl) ?_
      obtain ⟨hg4, hf⟩ := gd_some hf
      refine va_iald hx hb hKK.1 hP 4 0 rfl rfl (inb_in hg4) dX4_tower_62 ?_
      exact pretI hx hb hr hlk hf dX4_tower_63
    have hf := (if_neg h1).symm.trans hf
    by_cases h2 : u2 = 2
    · have hf := (if_pos h2).symm.trans hf
      refine sw_hit (tgt := 64) hx hb dX4_tower_14 h2 (by decide) (by decide) rfl (by decide) ?_
      refine lv_aload_n hx hb dX4_tower_64 rfl (lv_at hl 0 rfl) ?_
      refine va_get (D := D) (ci := 4) (v := .ref (ad 1)) (C := RX4) (T := TX4) (N := 10) hx hb hts inX4 hown hKK.1 hP 0 rfl rfl 0 (by decide) (hts _ q170) (fun _ h => h) rfl dX4_tower_65 ?_
      refine lv_iload_n hx hb dX4_tower_68 rfl (lv_at hl 1 rfl) ?_
      obtain ⟨r6, hc5, hf⟩ := bd_some hf
      have hP1 := hP.sub (ws' := wL cy (ad 1) (ad 2) (ad 3) (ad 4) (ad 5) S.1) [1, 2, 3, 4, 5] rfl
      refine pCallVL ⟨hx, hb, hml, hown, hts⟩ (mtX1_towerView l D cy z (ad 1) (ad 2) (ad 3) (ad 4) (ad 5) S.1 u1 r6 hc5) miX1_towerView q464 ⟨Nat.le_of_ble_eq_true rfl, Nat.le_of_ble_eq_true rfl⟩ ⟨rfl, rfl⟩ hP1 hKK hS hA0 (va_recv hKK.1 hP1 (ci := 1) (q0 := 0) rfl rfl) rfl hl.1 rfl (Nat.le_of_ble_eq_true rfl) dX4_tower_69 ⟨Nat.zero_le _, Nat.zero_le _⟩ ?_
      obtain ⟨r8, hc7, hf⟩ := bd_some hf
      have hP1 := hP.sub (ws' := []) [] rfl
      refine pCallSI ⟨hx, hb, hml, hown, hts⟩ (mtJ13_bitCount_95d88 l D cy z r6 r8 hc7) miJ13_bitCount_95d88 q420 ⟨Nat.le_of_ble_eq_true rfl, Nat.le_of_ble_eq_true rfl⟩ ⟨rfl, rfl⟩ hP1 hKK hS hA0 rfl hl.1 rfl (Nat.le_of_ble_eq_true rfl) dX4_tower_72 ⟨Nat.zero_le _, Nat.zero_le _⟩ ?_
      exact pretI hx hb hr hlk hf dX4_tower_75
    have hf := (if_neg h2).symm.trans hf
    by_cases h3 : u2 = 3
    · have hf := (if_pos h3).symm.trans hf
      refine sw_hit (tgt := 76) hx hb dX4_tower_14 h3 (by decide) (by decide) rfl (by decide) ?_
      refine lv_aload_n hx hb dX4_tower_76 rfl (lv_at hl 0 rfl) ?_
      refine va_get (D := D) (ci := 4) (v := .ref (ad 1)) (C := RX4) (T := TX4) (N := 10) hx hb hts inX4 hown hKK.1 hP 0 rfl rfl 0 (by decide) (hts _ q170) (fun _ h => h) rfl dX4_tower_77 ?_
      refine lv_iload_n hx hb dX4_tower_80 rfl (lv_at hl 1 rfl) ?_
      obtain ⟨r10, hc9, hf⟩ := bd_some hf
      have hP1 := hP.sub (ws' := wL cy (ad 1) (ad 2) (ad 3) (ad 4) (ad 5) S.1) [1, 2, 3, 4, 5] rfl
      refine pCallVL ⟨hx, hb, hml, hown, hts⟩ (mtX1_seenAlone l D cy z (ad 1) (ad 2) (ad 3) (ad 4) (ad 5) S.1 u1 r10 hc9) miX1_seenAlone q469 ⟨Nat.le_of_ble_eq_true rfl, Nat.le_of_ble_eq_true rfl⟩ ⟨rfl, rfl⟩ hP1 hKK hS hA0 (va_recv hKK.1 hP1 (ci := 1) (q0 := 0) rfl rfl) rfl hl.1 rfl (Nat.le_of_ble_eq_true rfl) dX4_tower_81 ⟨Nat.zero_le _, Nat.zero_le _⟩ ?_
      obtain ⟨r12, hc11, hf⟩ := bd_some hf
      have hP1 := hP.sub (ws' := []) [] rfl
      refine pCallSI ⟨hx, hb, hml, hown, hts⟩ (mtJ13_bitCount_95d88 l D cy z r10 r12 hc11) miJ13_bitCount_95d88 q420 ⟨Nat.le_of_ble_eq_true rfl, Nat.le_of_ble_eq_true rfl⟩ ⟨rfl, rfl⟩ hP1 hKK hS hA0 rfl hl.1 rfl (Nat.le_of_ble_eq_true rfl) dX4_tower_84 ⟨Nat.zero_le _, Nat.zero_le _⟩ ?_
      exact pretI hx hb hr hlk hf dX4_tower_87
    have hf := (if_neg h3).symm.trans hf
    refine lv_tableOut (tgt := 88) hx hb dX4_tower_14 (show (u2).toInt < 0 ∨ 3 < (u2).toInt by have e0 := lv_neT h0 (a := 0) (by decide); have e1 := lv_neT h1 (a := 1) (by decide); have e2 := lv_neT h2 (a := 2) (by decide); have e3 := lv_neT h3 (a := 3) (by decide); omega) (by decide) ?_
    refine lv_bipush (v := -2) hx hb dX4_tower_88 (by decide) ?_
    exact pretI hx hb hr hlk hf dX4_tower_90
  · have hf := (if_pos h).symm.trans hf
    refine lv_iconst (v := -1) hx hb dX4_tower_11 (by decide) ?_
    exact pretI hx hb hr hlk hf dX4_tower_12

abbrev rmX4_raise : Room := { frames := 2, cells := 0, slots := 0, locals := 45 }
theorem miX4_raise : miV yX4_raise cX4_raise 4 (some .int) 2 := ⟨q477, q40, q475, q476, by decide +kernel⟩
set_option maxHeartbeats 4000000 in
set_option maxRecDepth 100000 in
theorem mtX4_raise (l : Launch) (D : va_G) (cy : Nat → ClassId) (z : zT) (ad : Nat → Nat) (S : tH) (u1 : Int32) (u2 : Int32) (r0 : Int32) (S0 : tH) (hf : fX4_raise S u1 u2 = some (r0, S0)) : mmet l yX4_raise cX4_raise 4 (some .int) rmX4_raise D cy z (wH cy ad S) (wH cy ad S0) [.ref (ad 0), .int u1, .int u2] (some (.int r0)) := by
  refine mmet_of (by decide +kernel) (Nat.le_of_ble_eq_true rfl) (fun p e s m below meth c hx hb hr hml hown hts hlk hP hD hS hA0 hKK ls hl => ?_)
  have hown : s.vm.findClass "HillSight" = some m.cls := hown
  have hl : lv_has ls 4 [(0, .ref (ad 0)), (1, .int u1), (2, .int u2)] := hl
  unfold fX4_raise at hf
  refine lv_aload_n hx hb dX4_raise_0 rfl (lv_at hl 0 rfl) ?_
  refine va_get (D := D) (ci := 4) (v := .ref (ad 1)) (C := RX4) (T := TX4) (N := 10) hx hb hts inX4 hown hKK.1 hP 0 rfl rfl 0 (by decide) (hts _ q170) (fun _ h => h) rfl dX4_raise_1 ?_
  refine lv_iload_n hx hb dX4_raise_4 rfl (lv_at hl 1 rfl) ?_
  obtain ⟨r2, hc1, hf⟩ := bd_some hf
  have hP1 := hP.sub (ws' := wL cy (ad 1) (ad 2) (ad 3) (ad 4) (ad 5) S.1) [1, 2, 3, 4, 5] rfl
  refine pCallVI ⟨hx, hb, hml, hown, hts⟩ (mtX1_hasCell l D cy z (ad 1) (ad 2) (ad 3) (ad 4) (ad 5) S.1 u1 r2 hc1) miX1_hasCell q438 ⟨Nat.le_of_ble_eq_true rfl, Nat.le_of_ble_eq_true rfl⟩ ⟨rfl, rfl⟩ hP1 hKK hS hA0 (va_recv hKK.1 hP1 (ci := 1) (q0 := 0) rfl rfl) rfl hl.1 rfl (Nat.le_of_ble_eq_true rfl) dX4_raise_5 ⟨Nat.zero_le _, Nat.zero_le _⟩ ?_
  refine lv_if_ne (tgt := 13) hx hb dX4_raise_8 (by decide) (fun h => ?_) (fun h => ?_)
  · have hf := (if_neg h).symm.trans hf
    refine lv_iload_n hx hb dX4_raise_13 rfl (lv_at hl 2 rfl) ?_
    obtain ⟨r4, hc3, hf⟩ := bd_some hf
    have hP1 := hP.sub (ws' := []) [] rfl
    refine pCallSI ⟨hx, hb, hml, hown, hts⟩ (mtX4_isDigit l D cy z u2 r4 hc3) miX4_isDigit q478 ⟨Nat.le_of_ble_eq_true rfl, Nat.le_of_ble_eq_true rfl⟩ ⟨rfl, rfl⟩ hP1 hKK hS hA0 rfl hl.1 rfl (Nat.le_of_ble_eq_true rfl) dX4_raise_14 ⟨Nat.zero_le _, Nat.zero_le _⟩ ?_
    refine lv_if_ne (tgt := 23) hx hb dX4_raise_17 (by decide) (fun h => ?_) (fun h => ?_)
    · have hf := (if_neg h).symm.trans hf
      refine lv_aload_n hx hb dX4_raise_23 rfl (lv_at hl 0 rfl) ?_
      refine va_get (D := D) (ci := 4) (v := .ref (ad 1)) (C := RX4) (T := TX4) (N := 10) hx hb hts inX4 hown hKK.1 hP 0 rfl rfl 0 (by decide) (hts _ q170) (fun _ h => h) rfl dX4_raise_24 ?_
      refine lv_iload_n hx hb dX4_raise_27 rfl (lv_at hl 1 rfl) ?_
      obtain ⟨r6, hc5, hf⟩ := bd_some hf
      have hP1 := hP.sub (ws' := wL cy (ad 1) (ad 2) (ad 3) (ad 4) (ad 5) S.1) [1, 2, 3, 4, 5] rfl
      refine pCallVI ⟨hx, hb, hml, hown, hts⟩ (mtX1_heightOf l D cy z (ad 1) (ad 2) (ad 3) (ad 4) (ad 5) S.1 u1 r6 hc5) miX1_heightOf q439 ⟨Nat.le_of_ble_eq_true rfl, Nat.le_of_ble_eq_true rfl⟩ ⟨rfl, rfl⟩ hP1 hKK hS hA0 (va_recv hKK.1 hP1 (ci := 1) (q0 := 0) rfl rfl) rfl hl.1 rfl (Nat.le_of_ble_eq_true rfl) dX4_raise_28 ⟨Nat.zero_le _, Nat.zero_le _⟩ ?_
      refine lv_istore_n (lv' := [(3, .int r6), (0, .ref (ad 0)), (1, .int u1), (2, .int u2)]) hx hb dX4_raise_31 rfl hl (by decide) rfl (fun ls hl => ?_)
      refine lv_aload_n hx hb dX4_raise_32 rfl (lv_at hl 1 rfl) ?_
      refine va_get (D := D) (ci := 4) (v := .ref (ad 23)) (C := RX4) (T := TX4) (N := 10) hx hb hts inX4 hown hKK.1 hP 0 rfl rfl 6 (by decide) (hts _ q176) (fun _ h => h) rfl dX4_raise_33 ?_
      refine lv_iconst (v := 0) hx hb dX4_raise_36 (by decide) ?_
      refine lv_iload_n hx hb dX4_raise_37 rfl (lv_at hl 2 rfl) ?_
      refine lv_iload_n hx hb dX4_raise_38 rfl (lv_at hl 0 rfl) ?_
      refine lv_iconst (v := 0) hx hb dX4_raise_39 (by decide) ?_
      obtain ⟨y8, hc7, hf⟩ := bd_some hf
      have hP1 := hP.sub (ws' := wJ cy (ad 23) (ad 24) (ad 25) (ad 26) (ad 27) S.2.2.2.2.2.2.1) [23, 24, 25, 26, 27] rfl
      have hD1 := hD.sub (ws' := wJ cy (ad 23) (ad 24) (ad 25) (ad 26) (ad 27) S.2.2.2.2.2.2.1) [23, 24, 25, 26, 27] (by decide) rfl
      refine mCallVV ⟨hx, hb, hml, hown, hts⟩ (mtX0_note l D cy z (ad 23) (ad 24) (ad 25) (ad 26) (ad 27) S.2.2.2.2.2.2.1 (0 : Int32) u1 r6 (0 : Int32) y8 hc7) miX0_note q481 ⟨Nat.le_of_ble_eq_true rfl, Nat.le_of_ble_eq_true rfl⟩ ⟨rfl, rfl⟩ hP1 hD1 hKK hA0 (va_recv hKK.1 hP1 (ci := 0) (q0 := 0) rfl rfl) rfl hl.1 rfl (Nat.le_of_ble_eq_true rfl) dX4_raise_40 ⟨Nat.zero_le _, Nat.zero_le _⟩ hS hP hD [23, 24, 25, 26, 27] rfl rfl (ws' := wH cy ad (S.1, S.2.1, S.2.2.1, S.2.2.2.1, S.2.2.2.2.1, S.2.2.2.2.2.1, y8, S.2.2.2.2.2.2.2.1, S.2.2.2.2.2.2.2.2.1, S.2.2.2.2.2.2.2.2.2)) rfl (fun H locs hP hD hS => ?_)
      refine lv_aload_n hx hb dX4_raise_43 rfl (lv_at hl 1 rfl) ?_
      refine va_get (D := D) (ci := 4) (v := .ref (ad 1)) (C := RX4) (T := TX4) (N := 10) hx hb hts inX4 hown hKK.1 hP 0 rfl rfl 0 (by decide) (hts _ q170) (fun _ h => h) rfl dX4_raise_44 ?_
      refine lv_iload_n hx hb dX4_raise_47 rfl (lv_at hl 2 rfl) ?_
      refine lv_iload_n hx hb dX4_raise_48 rfl (lv_at hl 3 rfl) ?_
      obtain ⟨y10, hc9, hf⟩ := bd_some hf
      have hP1 := hP.sub (ws' := wL cy (ad 1) (ad 2) (ad 3) (ad 4) (ad 5) S.1) [1, 2, 3, 4, 5] rfl
      have hD1 := hD.sub (ws' := wL cy (ad 1) (ad 2) (ad 3) (ad 4) (ad 5) S.1) [1, 2, 3, 4, 5] (by decide) rfl
      refine mCallVI ⟨hx, hb, hml, hown, hts⟩ (mtX1_putHeight l D cy z (ad 1) (ad 2) (ad 3) (ad 4) (ad 5) S.1 u1 u2 y10.1 y10.2 hc9) miX1_putHeight q489 ⟨Nat.le_of_ble_eq_true rfl, Nat.le_of_ble_eq_true rfl⟩ ⟨rfl, rfl⟩ hP1 hD1 hKK hA0 (va_recv hKK.1 hP1 (ci := 1) (q0 := 0) rfl rfl) rfl hl.1 rfl (Nat.le_of_ble_eq_true rfl) dX4_raise_49 ⟨Nat.zero_le _, Nat.zero_le _⟩ hS hP hD [1, 2, 3, 4, 5] rfl rfl (ws' := wH cy ad (y10.2, S.2.1, S.2.2.1, S.2.2.2.1, S.2.2.2.2.1, S.2.2.2.2.2.1, y8, S.2.2.2.2.2.2.2.1, S.2.2.2.2.2.2.2.2.1, S.2.2.2.2.2.2.2.2.2)) rfl (fun H locs hP hD hS => ?_)
      refine lv_pop hx hb dX4_raise_52 rfl ?_
      refine lv_iload_n hx hb dX4_raise_53 rfl (lv_at hl 0 rfl) ?_
      cases hf
      exact mretI hx hb hr hlk hP hS dX4_raise_54
    · have hf := (if_pos h).symm.trans hf
      refine lv_bipush (v := -2) hx hb dX4_raise_20 (by decide) ?_
      cases hf
      exact mretI hx hb hr hlk hP hS dX4_raise_22
  · have hf := (if_pos h).symm.trans hf
    refine lv_iconst (v := -1) hx hb dX4_raise_11 (by decide) ?_
    cases hf
    exact mretI hx hb hr hlk hP hS dX4_raise_12

abbrev rmX4_build : Room := { frames := 2, cells := 0, slots := 0, locals := 45 }
theorem miX4_build : miV yX4_build cX4_build 3 (some .int) 2 := ⟨q493, q40, q491, q492, by decide +kernel⟩
set_option maxHeartbeats 4000000 in
set_option maxRecDepth 100000 in
theorem mtX4_build (l : Launch) (D : va_G) (cy : Nat → ClassId) (z : zT) (ad : Nat → Nat) (S : tH) (u1 : Int32) (u2 : Int32) (r0 : Int32) (S0 : tH) (hf : fX4_build S u1 u2 = some (r0, S0)) : mmet l yX4_build cX4_build 3 (some .int) rmX4_build D cy z (wH cy ad S) (wH cy ad S0) [.ref (ad 0), .int u1, .int u2] (some (.int r0)) := by
  refine mmet_of (by decide +kernel) (Nat.le_of_ble_eq_true rfl) (fun p e s m below meth c hx hb hr hml hown hts hlk hP hD hS hA0 hKK ls hl => ?_)
  have hown : s.vm.findClass "HillSight" = some m.cls := hown
  have hl : lv_has ls 3 [(0, .ref (ad 0)), (1, .int u1), (2, .int u2)] := hl
  unfold fX4_build at hf
  refine lv_aload_n hx hb dX4_build_0 rfl (lv_at hl 0 rfl) ?_
  refine va_get (D := D) (ci := 4) (v := .ref (ad 1)) (C := RX4) (T := TX4) (N := 10) hx hb hts inX4 hown hKK.1 hP 0 rfl rfl 0 (by decide) (hts _ q170) (fun _ h => h) rfl dX4_build_1 ?_
  refine lv_iload_n hx hb dX4_build_4 rfl (lv_at hl 1 rfl) ?_
  obtain ⟨r2, hc1, hf⟩ := bd_some hf
  have hP1 := hP.sub (ws' := wL cy (ad 1) (ad 2) (ad 3) (ad 4) (ad 5) S.1) [1, 2, 3, 4, 5] rfl
  refine pCallVI ⟨hx, hb, hml, hown, hts⟩ (mtX1_hasCell l D cy z (ad 1) (ad 2) (ad 3) (ad 4) (ad 5) S.1 u1 r2 hc1) miX1_hasCell q438 ⟨Nat.le_of_ble_eq_true rfl, Nat.le_of_ble_eq_true rfl⟩ ⟨rfl, rfl⟩ hP1 hKK hS hA0 (va_recv hKK.1 hP1 (ci := 1) (q0 := 0) rfl rfl) rfl hl.1 rfl (Nat.le_of_ble_eq_true rfl) dX4_build_5 ⟨Nat.zero_le _, Nat.zero_le _⟩ ?_
  refine lv_if_ne (tgt := 13) hx hb dX4_build_8 (by decide) (fun h => ?_) (fun h => ?_)
  · have hf := (if_neg h).symm.trans hf
    refine lv_iload_n hx hb dX4_build_13 rfl (lv_at hl 2 rfl) ?_
    obtain ⟨r4, hc3, hf⟩ := bd_some hf
    have hP1 := hP.sub (ws' := []) [] rfl
    refine pCallSI ⟨hx, hb, hml, hown, hts⟩ (mtX4_isDigit l D cy z u2 r4 hc3) miX4_isDigit q478 ⟨Nat.le_of_ble_eq_true rfl, Nat.le_of_ble_eq_true rfl⟩ ⟨rfl, rfl⟩ hP1 hKK hS hA0 rfl hl.1 rfl (Nat.le_of_ble_eq_true rfl) dX4_build_14 ⟨Nat.zero_le _, Nat.zero_le _⟩ ?_
    refine lv_if_ne (tgt := 23) hx hb dX4_build_17 (by decide) (fun h => ?_) (fun h => ?_)
    · have hf := (if_neg h).symm.trans hf
      refine lv_aload_n hx hb dX4_build_23 rfl (lv_at hl 0 rfl) ?_
      refine va_get (D := D) (ci := 4) (v := .ref (ad 1)) (C := RX4) (T := TX4) (N := 10) hx hb hts inX4 hown hKK.1 hP 0 rfl rfl 0 (by decide) (hts _ q170) (fun _ h => h) rfl dX4_build_24 ?_
      refine va_get (D := D) (ci := 1) (v := .int S.1.2.2.1) (C := RX1) (T := TX1) (N := 7) hx hb hts inX1 hown hKK.1 hP 1 rfl rfl 2 (by decide) (hts _ q81) (fun _ h => h) rfl dX4_build_27 ?_
      refine lv_iconst (v := 5) hx hb dX4_build_30 (by decide) ?_
      refine lv_icmp_lt (tgt := 37) hx hb dX4_build_31 (by decide) (fun h => ?_) (fun h => ?_)
      · have hf := (if_pos h).symm.trans hf
        refine lv_aload_n hx hb dX4_build_37 rfl (lv_at hl 0 rfl) ?_
        refine va_get (D := D) (ci := 4) (v := .ref (ad 23)) (C := RX4) (T := TX4) (N := 10) hx hb hts inX4 hown hKK.1 hP 0 rfl rfl 6 (by decide) (hts _ q176) (fun _ h => h) rfl dX4_build_38 ?_
        refine lv_iconst (v := 1) hx hb dX4_build_41 (by decide) ?_
        refine lv_aload_n hx hb dX4_build_42 rfl (lv_at hl 0 rfl) ?_
        refine va_get (D := D) (ci := 4) (v := .ref (ad 1)) (C := RX4) (T := TX4) (N := 10) hx hb hts inX4 hown hKK.1 hP 0 rfl rfl 0 (by decide) (hts _ q170) (fun _ h => h) rfl dX4_build_43 ?_
        refine va_get (D := D) (ci := 1) (v := .int S.1.2.2.1) (C := RX1) (T := TX1) (N := 7) hx hb hts inX1 hown hKK.1 hP 1 rfl rfl 2 (by decide) (hts _ q81) (fun _ h => h) rfl dX4_build_46 ?_
        refine lv_iload_n hx hb dX4_build_49 rfl (lv_at hl 1 rfl) ?_
        refine lv_iload_n hx hb dX4_build_50 rfl (lv_at hl 2 rfl) ?_
        obtain ⟨y6, hc5, hf⟩ := bd_some hf
        have hP1 := hP.sub (ws' := wJ cy (ad 23) (ad 24) (ad 25) (ad 26) (ad 27) S.2.2.2.2.2.2.1) [23, 24, 25, 26, 27] rfl
        have hD1 := hD.sub (ws' := wJ cy (ad 23) (ad 24) (ad 25) (ad 26) (ad 27) S.2.2.2.2.2.2.1) [23, 24, 25, 26, 27] (by decide) rfl
        refine mCallVV ⟨hx, hb, hml, hown, hts⟩ (mtX0_note l D cy z (ad 23) (ad 24) (ad 25) (ad 26) (ad 27) S.2.2.2.2.2.2.1 (1 : Int32) S.1.2.2.1 u1 u2 y6 hc5) miX0_note q481 ⟨Nat.le_of_ble_eq_true rfl, Nat.le_of_ble_eq_true rfl⟩ ⟨rfl, rfl⟩ hP1 hD1 hKK hA0 (va_recv hKK.1 hP1 (ci := 0) (q0 := 0) rfl rfl) rfl hl.1 rfl (Nat.le_of_ble_eq_true rfl) dX4_build_51 ⟨Nat.zero_le _, Nat.zero_le _⟩ hS hP hD [23, 24, 25, 26, 27] rfl rfl (ws' := wH cy ad (S.1, S.2.1, S.2.2.1, S.2.2.2.1, S.2.2.2.2.1, S.2.2.2.2.2.1, y6, S.2.2.2.2.2.2.2.1, S.2.2.2.2.2.2.2.2.1, S.2.2.2.2.2.2.2.2.2)) rfl (fun H locs hP hD hS => ?_)
        refine lv_aload_n hx hb dX4_build_54 rfl (lv_at hl 0 rfl) ?_
        refine va_get (D := D) (ci := 4) (v := .ref (ad 1)) (C := RX4) (T := TX4) (N := 10) hx hb hts inX4 hown hKK.1 hP 0 rfl rfl 0 (by decide) (hts _ q170) (fun _ h => h) rfl dX4_build_55 ?_
        refine lv_aload_n hx hb dX4_build_58 rfl (lv_at hl 0 rfl) ?_
        refine va_get (D := D) (ci := 4) (v := .ref (ad 1)) (C := RX4) (T := TX4) (N := 10) hx hb hts inX4 hown hKK.1 hP 0 rfl rfl 0 (by decide) (hts _ q170) (fun _ h => h) rfl dX4_build_59 ?_
        refine va_get (D := D) (ci := 1) (v := .int S.1.2.2.1) (C := RX1) (T := TX1) (N := 7) hx hb hts inX1 hown hKK.1 hP 1 rfl rfl 2 (by decide) (hts _ q81) (fun _ h => h) rfl dX4_build_62 ?_
        refine lv_iload_n hx hb dX4_build_65 rfl (lv_at hl 1 rfl) ?_
        refine lv_iload_n hx hb dX4_build_66 rfl (lv_at hl 2 rfl) ?_
        obtain ⟨y8, hc7, hf⟩ := bd_some hf
        have hP1 := hP.sub (ws' := wL cy (ad 1) (ad 2) (ad 3) (ad 4) (ad 5) S.1) [1, 2, 3, 4, 5] rfl
        have hD1 := hD.sub (ws' := wL cy (ad 1) (ad 2) (ad 3) (ad 4) (ad 5) S.1) [1, 2, 3, 4, 5] (by decide) rfl
        refine mCallVI ⟨hx, hb, hml, hown, hts⟩ (mtX1_putTower l D cy z (ad 1) (ad 2) (ad 3) (ad 4) (ad 5) S.1 S.1.2.2.1 u1 u2 y8.1 y8.2 hc7) miX1_putTower q494 ⟨Nat.le_of_ble_eq_true rfl, Nat.le_of_ble_eq_true rfl⟩ ⟨rfl, rfl⟩ hP1 hD1 hKK hA0 (va_recv hKK.1 hP1 (ci := 1) (q0 := 0) rfl rfl) rfl hl.1 rfl (Nat.le_of_ble_eq_true rfl) dX4_build_67 ⟨Nat.zero_le _, Nat.zero_le _⟩ hS hP hD [1, 2, 3, 4, 5] rfl rfl (ws' := wH cy ad (y8.2, S.2.1, S.2.2.1, S.2.2.2.1, S.2.2.2.2.1, S.2.2.2.2.2.1, y6, S.2.2.2.2.2.2.2.1, S.2.2.2.2.2.2.2.2.1, S.2.2.2.2.2.2.2.2.2)) rfl (fun H locs hP hD hS => ?_)
        refine lv_pop hx hb dX4_build_70 rfl ?_
        refine lv_aload_n hx hb dX4_build_71 rfl (lv_at hl 0 rfl) ?_
        refine va_get (D := D) (ci := 4) (v := .ref (ad 1)) (C := RX4) (T := TX4) (N := 10) hx hb hts inX4 hown hKK.1 hP 0 rfl rfl 0 (by decide) (hts _ q170) (fun _ h => h) rfl dX4_build_72 ?_
        refine va_get (D := D) (ci := 1) (v := .int y8.2.2.2.1) (C := RX1) (T := TX1) (N := 7) hx hb hts inX1 hown hKK.1 hP 1 rfl rfl 2 (by decide) (hts _ q81) (fun _ h => h) rfl dX4_build_75 ?_
        cases hf
        exact mretI hx hb hr hlk hP hS dX4_build_78
      · have hf := (if_neg h).symm.trans hf
        refine lv_bipush (v := -4) hx hb dX4_build_34 (by decide) ?_
        cases hf
        exact mretI hx hb hr hlk hP hS dX4_build_36
    · have hf := (if_pos h).symm.trans hf
      refine lv_bipush (v := -2) hx hb dX4_build_20 (by decide) ?_
      cases hf
      exact mretI hx hb hr hlk hP hS dX4_build_22
  · have hf := (if_pos h).symm.trans hf
    refine lv_iconst (v := -1) hx hb dX4_build_11 (by decide) ?_
    cases hf
    exact mretI hx hb hr hlk hP hS dX4_build_12

abbrev rmX4_raze : Room := { frames := 2, cells := 0, slots := 0, locals := 45 }
theorem miX4_raze : miV yX4_raze cX4_raze 2 (some .int) 1 := ⟨q498, q40, q496, q497, by decide +kernel⟩
set_option maxHeartbeats 4000000 in
set_option maxRecDepth 100000 in
theorem mtX4_raze (l : Launch) (D : va_G) (cy : Nat → ClassId) (z : zT) (ad : Nat → Nat) (S : tH) (u1 : Int32) (r0 : Int32) (S0 : tH) (hf : fX4_raze S u1 = some (r0, S0)) : mmet l yX4_raze cX4_raze 2 (some .int) rmX4_raze D cy z (wH cy ad S) (wH cy ad S0) [.ref (ad 0), .int u1] (some (.int r0)) := by
  refine mmet_of (by decide +kernel) (Nat.le_of_ble_eq_true rfl) (fun p e s m below meth c hx hb hr hml hown hts hlk hP hD hS hA0 hKK ls hl => ?_)
  have hown : s.vm.findClass "HillSight" = some m.cls := hown
  have hl : lv_has ls 2 [(0, .ref (ad 0)), (1, .int u1)] := hl
  unfold fX4_raze at hf
  refine lv_aload_n hx hb dX4_raze_0 rfl (lv_at hl 0 rfl) ?_
  refine va_get (D := D) (ci := 4) (v := .ref (ad 1)) (C := RX4) (T := TX4) (N := 10) hx hb hts inX4 hown hKK.1 hP 0 rfl rfl 0 (by decide) (hts _ q170) (fun _ h => h) rfl dX4_raze_1 ?_
  refine lv_iload_n hx hb dX4_raze_4 rfl (lv_at hl 1 rfl) ?_
  obtain ⟨r2, hc1, hf⟩ := bd_some hf
  have hP1 := hP.sub (ws' := wL cy (ad 1) (ad 2) (ad 3) (ad 4) (ad 5) S.1) [1, 2, 3, 4, 5] rfl
  refine pCallVI ⟨hx, hb, hml, hown, hts⟩ (mtX1_hasTower l D cy z (ad 1) (ad 2) (ad 3) (ad 4) (ad 5) S.1 u1 r2 hc1) miX1_hasTower q460 ⟨Nat.le_of_ble_eq_true rfl, Nat.le_of_ble_eq_true rfl⟩ ⟨rfl, rfl⟩ hP1 hKK hS hA0 (va_recv hKK.1 hP1 (ci := 1) (q0 := 0) rfl rfl) rfl hl.1 rfl (Nat.le_of_ble_eq_true rfl) dX4_raze_5 ⟨Nat.zero_le _, Nat.zero_le _⟩ ?_
  refine lv_if_ne (tgt := 13) hx hb dX4_raze_8 (by decide) (fun h => ?_) (fun h => ?_)
  · have hf := (if_neg h).symm.trans hf
    refine lv_aload_n hx hb dX4_raze_13 rfl (lv_at hl 0 rfl) ?_
    refine va_get (D := D) (ci := 4) (v := .ref (ad 23)) (C := RX4) (T := TX4) (N := 10) hx hb hts inX4 hown hKK.1 hP 0 rfl rfl 6 (by decide) (hts _ q176) (fun _ h => h) rfl dX4_raze_14 ?_
    refine lv_iconst (v := 2) hx hb dX4_raze_17 (by decide) ?_
    refine lv_iload_n hx hb dX4_raze_18 rfl (lv_at hl 1 rfl) ?_
    refine lv_aload_n hx hb dX4_raze_19 rfl (lv_at hl 0 rfl) ?_
    refine va_get (D := D) (ci := 4) (v := .ref (ad 1)) (C := RX4) (T := TX4) (N := 10) hx hb hts inX4 hown hKK.1 hP 0 rfl rfl 0 (by decide) (hts _ q170) (fun _ h => h) rfl dX4_raze_20 ?_
    refine va_get (D := D) (ci := 1) (v := .ref (ad 3)) (C := RX1) (T := TX1) (N := 7) hx hb hts inX1 hown hKK.1 hP 1 rfl rfl 4 (by decide) (hts _ q85) (fun _ h => h) rfl dX4_raze_23 ?_
    refine lv_iload_n hx hb dX4_raze_26 rfl (lv_at hl 1 rfl) ?_
    obtain ⟨hg3, hf⟩ := gd_some hf
    refine va_iald hx hb hKK.1 hP 3 0 rfl rfl (inb_in hg3) dX4_raze_27 ?_
    refine lv_aload_n hx hb dX4_raze_28 rfl (lv_at hl 0 rfl) ?_
    refine va_get (D := D) (ci := 4) (v := .ref (ad 1)) (C := RX4) (T := TX4) (N := 10) hx hb hts inX4 hown hKK.1 hP 0 rfl rfl 0 (by decide) (hts _ q170) (fun _ h => h) rfl dX4_raze_29 ?_
    refine va_get (D := D) (ci := 1) (v := .ref (ad 4)) (C := RX1) (T := TX1) (N := 7) hx hb hts inX1 hown hKK.1 hP 1 rfl rfl 5 (by decide) (hts _ q87) (fun _ h => h) rfl dX4_raze_32 ?_
    refine lv_iload_n hx hb dX4_raze_35 rfl (lv_at hl 1 rfl) ?_
    obtain ⟨hg4, hf⟩ := gd_some hf
    refine va_iald hx hb hKK.1 hP 4 0 rfl rfl (inb_in hg4) dX4_raze_36 ?_
    obtain ⟨y6, hc5, hf⟩ := bd_some hf
    have hP1 := hP.sub (ws' := wJ cy (ad 23) (ad 24) (ad 25) (ad 26) (ad 27) S.2.2.2.2.2.2.1) [23, 24, 25, 26, 27] rfl
    have hD1 := hD.sub (ws' := wJ cy (ad 23) (ad 24) (ad 25) (ad 26) (ad 27) S.2.2.2.2.2.2.1) [23, 24, 25, 26, 27] (by decide) rfl
    refine mCallVV ⟨hx, hb, hml, hown, hts⟩ (mtX0_note l D cy z (ad 23) (ad 24) (ad 25) (ad 26) (ad 27) S.2.2.2.2.2.2.1 (2 : Int32) u1 (S.1.2.2.2.2.1 u1.toNatClampNeg) (S.1.2.2.2.2.2.1 u1.toNatClampNeg) y6 hc5) miX0_note q481 ⟨Nat.le_of_ble_eq_true rfl, Nat.le_of_ble_eq_true rfl⟩ ⟨rfl, rfl⟩ hP1 hD1 hKK hA0 (va_recv hKK.1 hP1 (ci := 0) (q0 := 0) rfl rfl) rfl hl.1 rfl (Nat.le_of_ble_eq_true rfl) dX4_raze_37 ⟨Nat.zero_le _, Nat.zero_le _⟩ hS hP hD [23, 24, 25, 26, 27] rfl rfl (ws' := wH cy ad (S.1, S.2.1, S.2.2.1, S.2.2.2.1, S.2.2.2.2.1, S.2.2.2.2.2.1, y6, S.2.2.2.2.2.2.2.1, S.2.2.2.2.2.2.2.2.1, S.2.2.2.2.2.2.2.2.2)) rfl (fun H locs hP hD hS => ?_)
    refine lv_aload_n hx hb dX4_raze_40 rfl (lv_at hl 0 rfl) ?_
    refine va_get (D := D) (ci := 4) (v := .ref (ad 1)) (C := RX4) (T := TX4) (N := 10) hx hb hts inX4 hown hKK.1 hP 0 rfl rfl 0 (by decide) (hts _ q170) (fun _ h => h) rfl dX4_raze_41 ?_
    refine lv_iload_n hx hb dX4_raze_44 rfl (lv_at hl 1 rfl) ?_
    obtain ⟨y8, hc7, hf⟩ := bd_some hf
    have hP1 := hP.sub (ws' := wL cy (ad 1) (ad 2) (ad 3) (ad 4) (ad 5) S.1) [1, 2, 3, 4, 5] rfl
    have hD1 := hD.sub (ws' := wL cy (ad 1) (ad 2) (ad 3) (ad 4) (ad 5) S.1) [1, 2, 3, 4, 5] (by decide) rfl
    refine mCallVI ⟨hx, hb, hml, hown, hts⟩ (mtX1_dropTower l D cy z (ad 1) (ad 2) (ad 3) (ad 4) (ad 5) S.1 u1 y8.1 y8.2 hc7) miX1_dropTower q499 ⟨Nat.le_of_ble_eq_true rfl, Nat.le_of_ble_eq_true rfl⟩ ⟨rfl, rfl⟩ hP1 hD1 hKK hA0 (va_recv hKK.1 hP1 (ci := 1) (q0 := 0) rfl rfl) rfl hl.1 rfl (Nat.le_of_ble_eq_true rfl) dX4_raze_45 ⟨Nat.zero_le _, Nat.zero_le _⟩ hS hP hD [1, 2, 3, 4, 5] rfl rfl (ws' := wH cy ad (y8.2, S.2.1, S.2.2.1, S.2.2.2.1, S.2.2.2.2.1, S.2.2.2.2.2.1, y6, S.2.2.2.2.2.2.2.1, S.2.2.2.2.2.2.2.2.1, S.2.2.2.2.2.2.2.2.2)) rfl (fun H locs hP hD hS => ?_)
    refine lv_pop hx hb dX4_raze_48 rfl ?_
    refine lv_aload_n hx hb dX4_raze_49 rfl (lv_at hl 0 rfl) ?_
    refine va_get (D := D) (ci := 4) (v := .ref (ad 1)) (C := RX4) (T := TX4) (N := 10) hx hb hts inX4 hown hKK.1 hP 0 rfl rfl 0 (by decide) (hts _ q170) (fun _ h => h) rfl dX4_raze_50 ?_
    refine va_get (D := D) (ci := 1) (v := .int y8.2.2.2.1) (C := RX1) (T := TX1) (N := 7) hx hb hts inX1 hown hKK.1 hP 1 rfl rfl 2 (by decide) (hts _ q81) (fun _ h => h) rfl dX4_raze_53 ?_
    cases hf
    exact mretI hx hb hr hlk hP hS dX4_raze_56
  · have hf := (if_pos h).symm.trans hf
    refine lv_iconst (v := -1) hx hb dX4_raze_11 (by decide) ?_
    cases hf
    exact mretI hx hb hr hlk hP hS dX4_raze_12

abbrev rmX4_set : Room := { frames := 3, cells := 0, slots := 0, locals := 63 }
theorem miX4_set : miV yX4_set cX4_set 4 (some .int) 2 := ⟨q506, q40, q504, q505, by decide +kernel⟩
set_option maxHeartbeats 4000000 in
set_option maxRecDepth 100000 in
theorem mtX4_set (l : Launch) (D : va_G) (cy : Nat → ClassId) (z : zT) (ad : Nat → Nat) (S : tH) (u1 : Int32) (u2 : Int32) (r0 : Int32) (S0 : tH) (hf : fX4_set S u1 u2 = some (r0, S0)) : mmet l yX4_set cX4_set 4 (some .int) rmX4_set D cy z (wH cy ad S) (wH cy ad S0) [.ref (ad 0), .int u1, .int u2] (some (.int r0)) := by
  refine mmet_of (by decide +kernel) (Nat.le_of_ble_eq_true rfl) (fun p e s m below meth c hx hb hr hml hown hts hlk hP hD hS hA0 hKK ls hl => ?_)
  have hown : s.vm.findClass "HillSight" = some m.cls := hown
  have hl : lv_has ls 4 [(0, .ref (ad 0)), (1, .int u1), (2, .int u2)] := hl
  unfold fX4_set at hf
  refine lv_iload_n hx hb dX4_set_0 rfl (lv_at hl 1 rfl) ?_
  refine lv_iload_n hx hb dX4_set_1 rfl (lv_at hl 2 rfl) ?_
  obtain ⟨r2, hc1, hf⟩ := bd_some hf
  have hP1 := hP.sub (ws' := []) [] rfl
  refine pCallSI ⟨hx, hb, hml, hown, hts⟩ (mtX4_isSetting l D cy z u1 u2 r2 hc1) miX4_isSetting q507 ⟨Nat.le_of_ble_eq_true rfl, Nat.le_of_ble_eq_true rfl⟩ ⟨rfl, rfl⟩ hP1 hKK hS hA0 rfl hl.1 rfl (Nat.le_of_ble_eq_true rfl) dX4_set_2 ⟨Nat.zero_le _, Nat.zero_le _⟩ ?_
  refine lv_if_ne (tgt := 11) hx hb dX4_set_5 (by decide) (fun h => ?_) (fun h => ?_)
  · have hf := (if_neg h).symm.trans hf
    refine lv_aload_n hx hb dX4_set_11 rfl (lv_at hl 0 rfl) ?_
    refine va_get (D := D) (ci := 4) (v := .ref (ad 1)) (C := RX4) (T := TX4) (N := 10) hx hb hts inX4 hown hKK.1 hP 0 rfl rfl 0 (by decide) (hts _ q170) (fun _ h => h) rfl dX4_set_12 ?_
    refine va_get (D := D) (ci := 1) (v := .ref (ad 5)) (C := RX1) (T := TX1) (N := 7) hx hb hts inX1 hown hKK.1 hP 1 rfl rfl 6 (by decide) (hts _ q90) (fun _ h => h) rfl dX4_set_15 ?_
    refine lv_iload_n hx hb dX4_set_18 rfl (lv_at hl 1 rfl) ?_
    obtain ⟨hg3, hf⟩ := gd_some hf
    refine va_iald hx hb hKK.1 hP 5 0 rfl rfl (inb_in hg3) dX4_set_19 ?_
    refine nm_i hf (fun x4 hf => ?_)
    refine lv_istore_n (lv' := [(3, .int x4), (0, .ref (ad 0)), (1, .int u1), (2, .int u2)]) hx hb dX4_set_20 rfl hl (by decide) rfl (fun ls hl => ?_)
    refine lv_aload_n hx hb dX4_set_21 rfl (lv_at hl 1 rfl) ?_
    refine va_get (D := D) (ci := 4) (v := .ref (ad 23)) (C := RX4) (T := TX4) (N := 10) hx hb hts inX4 hown hKK.1 hP 0 rfl rfl 6 (by decide) (hts _ q176) (fun _ h => h) rfl dX4_set_22 ?_
    refine lv_iconst (v := 3) hx hb dX4_set_25 (by decide) ?_
    refine lv_iload_n hx hb dX4_set_26 rfl (lv_at hl 2 rfl) ?_
    refine lv_iload_n hx hb dX4_set_27 rfl (lv_at hl 0 rfl) ?_
    refine lv_iconst (v := 0) hx hb dX4_set_28 (by decide) ?_
    obtain ⟨y6, hc5, hf⟩ := bd_some hf
    have hP1 := hP.sub (ws' := wJ cy (ad 23) (ad 24) (ad 25) (ad 26) (ad 27) S.2.2.2.2.2.2.1) [23, 24, 25, 26, 27] rfl
    have hD1 := hD.sub (ws' := wJ cy (ad 23) (ad 24) (ad 25) (ad 26) (ad 27) S.2.2.2.2.2.2.1) [23, 24, 25, 26, 27] (by decide) rfl
    refine mCallVV ⟨hx, hb, hml, hown, hts⟩ (mtX0_note l D cy z (ad 23) (ad 24) (ad 25) (ad 26) (ad 27) S.2.2.2.2.2.2.1 (3 : Int32) u1 x4 (0 : Int32) y6 hc5) miX0_note q481 ⟨Nat.le_of_ble_eq_true rfl, Nat.le_of_ble_eq_true rfl⟩ ⟨rfl, rfl⟩ hP1 hD1 hKK hA0 (va_recv hKK.1 hP1 (ci := 0) (q0 := 0) rfl rfl) rfl hl.1 rfl (Nat.le_of_ble_eq_true rfl) dX4_set_29 ⟨Nat.zero_le _, Nat.zero_le _⟩ hS hP hD [23, 24, 25, 26, 27] rfl rfl (ws' := wH cy ad (S.1, S.2.1, S.2.2.1, S.2.2.2.1, S.2.2.2.2.1, S.2.2.2.2.2.1, y6, S.2.2.2.2.2.2.2.1, S.2.2.2.2.2.2.2.2.1, S.2.2.2.2.2.2.2.2.2)) rfl (fun H locs hP hD hS => ?_)
    refine lv_aload_n hx hb dX4_set_32 rfl (lv_at hl 1 rfl) ?_
    refine va_get (D := D) (ci := 4) (v := .ref (ad 1)) (C := RX4) (T := TX4) (N := 10) hx hb hts inX4 hown hKK.1 hP 0 rfl rfl 0 (by decide) (hts _ q170) (fun _ h => h) rfl dX4_set_33 ?_
    refine lv_iload_n hx hb dX4_set_36 rfl (lv_at hl 2 rfl) ?_
    refine lv_iload_n hx hb dX4_set_37 rfl (lv_at hl 3 rfl) ?_
    obtain ⟨y8, hc7, hf⟩ := bd_some hf
    have hP1 := hP.sub (ws' := wL cy (ad 1) (ad 2) (ad 3) (ad 4) (ad 5) S.1) [1, 2, 3, 4, 5] rfl
    have hD1 := hD.sub (ws' := wL cy (ad 1) (ad 2) (ad 3) (ad 4) (ad 5) S.1) [1, 2, 3, 4, 5] (by decide) rfl
    refine mCallVI ⟨hx, hb, hml, hown, hts⟩ (mtX1_putSetting l D cy z (ad 1) (ad 2) (ad 3) (ad 4) (ad 5) S.1 u1 u2 y8.1 y8.2 hc7) miX1_putSetting q508 ⟨Nat.le_of_ble_eq_true rfl, Nat.le_of_ble_eq_true rfl⟩ ⟨rfl, rfl⟩ hP1 hD1 hKK hA0 (va_recv hKK.1 hP1 (ci := 1) (q0 := 0) rfl rfl) rfl hl.1 rfl (Nat.le_of_ble_eq_true rfl) dX4_set_38 ⟨Nat.zero_le _, Nat.zero_le _⟩ hS hP hD [1, 2, 3, 4, 5] rfl rfl (ws' := wH cy ad (y8.2, S.2.1, S.2.2.1, S.2.2.2.1, S.2.2.2.2.1, S.2.2.2.2.2.1, y6, S.2.2.2.2.2.2.2.1, S.2.2.2.2.2.2.2.2.1, S.2.2.2.2.2.2.2.2.2)) rfl (fun H locs hP hD hS => ?_)
    refine lv_pop hx hb dX4_set_41 rfl ?_
    refine lv_iload_n hx hb dX4_set_42 rfl (lv_at hl 0 rfl) ?_
    cases hf
    exact mretI hx hb hr hlk hP hS dX4_set_43
  · have hf := (if_pos h).symm.trans hf
    refine lv_bipush (v := -2) hx hb dX4_set_8 (by decide) ?_
    cases hf
    exact mretI hx hb hr hlk hP hS dX4_set_10

abbrev rmX4_undo : Room := { frames := 4, cells := 0, slots := 0, locals := 86 }
theorem miX4_undo : miV yX4_undo cX4_undo 1 (some .int) 0 := ⟨q512, q40, q510, q511, by decide +kernel⟩
set_option maxHeartbeats 4000000 in
set_option maxRecDepth 100000 in
theorem mtX4_undo (l : Launch) (D : va_G) (cy : Nat → ClassId) (z : zT) (ad : Nat → Nat) (S : tH) (r0 : Int32) (S0 : tH) (hf : fX4_undo S = some (r0, S0)) : mmet l yX4_undo cX4_undo 1 (some .int) rmX4_undo D cy z (wH cy ad S) (wH cy ad S0) [.ref (ad 0)] (some (.int r0)) := by
  refine mmet_of (by decide +kernel) (Nat.le_of_ble_eq_true rfl) (fun p e s m below meth c hx hb hr hml hown hts hlk hP hD hS hA0 hKK ls hl => ?_)
  have hown : s.vm.findClass "HillSight" = some m.cls := hown
  have hl : lv_has ls 1 [(0, .ref (ad 0))] := hl
  unfold fX4_undo at hf
  refine lv_aload_n hx hb dX4_undo_0 rfl (lv_at hl 0 rfl) ?_
  refine va_get (D := D) (ci := 4) (v := .ref (ad 23)) (C := RX4) (T := TX4) (N := 10) hx hb hts inX4 hown hKK.1 hP 0 rfl rfl 6 (by decide) (hts _ q176) (fun _ h => h) rfl dX4_undo_1 ?_
  refine va_get (D := D) (ci := 0) (v := .int S.2.2.2.2.2.2.1.2.2.2.2) (C := RX0) (T := TX0) (N := 5) hx hb hts inX0 hown hKK.1 hP 23 rfl rfl 4 (by decide) (hts _ q140) (fun _ h => h) rfl dX4_undo_4 ?_
  refine lv_if_ne (tgt := 13) hx hb dX4_undo_7 (by decide) (fun h => ?_) (fun h => ?_)
  · have hf := (if_neg h).symm.trans hf
    refine lv_aload_n hx hb dX4_undo_13 rfl (lv_at hl 0 rfl) ?_
    refine va_get (D := D) (ci := 4) (v := .ref (ad 23)) (C := RX4) (T := TX4) (N := 10) hx hb hts inX4 hown hKK.1 hP 0 rfl rfl 6 (by decide) (hts _ q176) (fun _ h => h) rfl dX4_undo_14 ?_
    refine lv_aload_n hx hb dX4_undo_17 rfl (lv_at hl 0 rfl) ?_
    refine va_get (D := D) (ci := 4) (v := .ref (ad 1)) (C := RX4) (T := TX4) (N := 10) hx hb hts inX4 hown hKK.1 hP 0 rfl rfl 0 (by decide) (hts _ q170) (fun _ h => h) rfl dX4_undo_18 ?_
    obtain ⟨y2, hc1, hf⟩ := bd_some hf
    have hP1 := hP.sub (ws' := wJ cy (ad 23) (ad 24) (ad 25) (ad 26) (ad 27) S.2.2.2.2.2.2.1 ++ wL cy (ad 1) (ad 2) (ad 3) (ad 4) (ad 5) S.1) [23, 24, 25, 26, 27, 1, 2, 3, 4, 5] rfl
    have hD1 := hD.sub (ws' := wJ cy (ad 23) (ad 24) (ad 25) (ad 26) (ad 27) S.2.2.2.2.2.2.1 ++ wL cy (ad 1) (ad 2) (ad 3) (ad 4) (ad 5) S.1) [23, 24, 25, 26, 27, 1, 2, 3, 4, 5] (by decide) rfl
    refine mCallVV ⟨hx, hb, hml, hown, hts⟩ (mtX0_takeBack l D cy z (ad 23) (ad 24) (ad 25) (ad 26) (ad 27) (ad 1) (ad 2) (ad 3) (ad 4) (ad 5) S.2.2.2.2.2.2.1 S.1 y2.1 y2.2 hc1) miX0_takeBack q513 ⟨Nat.le_of_ble_eq_true rfl, Nat.le_of_ble_eq_true rfl⟩ ⟨rfl, rfl⟩ hP1 hD1 hKK hA0 (va_recv hKK.1 hP1 (ci := 0) (q0 := 0) rfl rfl) rfl hl.1 rfl (Nat.le_of_ble_eq_true rfl) dX4_undo_21 ⟨Nat.zero_le _, Nat.zero_le _⟩ hS hP hD [23, 24, 25, 26, 27, 1, 2, 3, 4, 5] rfl rfl (ws' := wH cy ad (y2.2, S.2.1, S.2.2.1, S.2.2.2.1, S.2.2.2.2.1, S.2.2.2.2.2.1, y2.1, S.2.2.2.2.2.2.2.1, S.2.2.2.2.2.2.2.2.1, S.2.2.2.2.2.2.2.2.2)) rfl (fun H locs hP hD hS => ?_)
    refine lv_aload_n hx hb dX4_undo_24 rfl (lv_at hl 0 rfl) ?_
    refine va_get (D := D) (ci := 4) (v := .ref (ad 23)) (C := RX4) (T := TX4) (N := 10) hx hb hts inX4 hown hKK.1 hP 0 rfl rfl 6 (by decide) (hts _ q176) (fun _ h => h) rfl dX4_undo_25 ?_
    refine va_get (D := D) (ci := 0) (v := .int y2.1.2.2.2.2) (C := RX0) (T := TX0) (N := 5) hx hb hts inX0 hown hKK.1 hP 23 rfl rfl 4 (by decide) (hts _ q140) (fun _ h => h) rfl dX4_undo_28 ?_
    cases hf
    exact mretI hx hb hr hlk hP hS dX4_undo_31
  · have hf := (if_pos h).symm.trans hf
    refine lv_bipush (v := -3) hx hb dX4_undo_10 (by decide) ?_
    cases hf
    exact mretI hx hb hr hlk hP hS dX4_undo_12

abbrev rmX4_sees : Room := { frames := 4, cells := 0, slots := 0, locals := 106 }
theorem miX4_sees : miV yX4_sees cX4_sees 5 (some .int) 3 := ⟨q524, q40, q522, q523, by decide +kernel⟩
set_option maxHeartbeats 4000000 in
set_option maxRecDepth 100000 in
theorem mtX4_sees (l : Launch) (D : va_G) (cy : Nat → ClassId) (z : zT) (ad : Nat → Nat) (S : tH) (u1 : Int32) (u2 : Int32) (u3 : Int32) (r0 : Int32) (hf : fX4_sees S u1 u2 u3 = some r0) : pmet l yX4_sees cX4_sees 5 (some .int) rmX4_sees D cy z (wH cy ad S) [.ref (ad 0), .int u1, .int u2, .int u3] (some (.int r0)) := by
  refine pmet_of (by decide +kernel) (Nat.le_of_ble_eq_true rfl) (fun p e s m below meth c hx hb hr hml hown hts hlk hP hKK ls hl => ?_)
  have hS : va_S noF s.heap s.heap [] := va_S.rf
  have hA0 : ∀ q, noF q → zA z q := fun _ h => h.elim
  have hown : s.vm.findClass "HillSight" = some m.cls := hown
  have hl : lv_has ls 5 [(0, .ref (ad 0)), (1, .int u1), (2, .int u2), (3, .int u3)] := hl
  unfold fX4_sees at hf
  refine lv_aload_n hx hb dX4_sees_0 rfl (lv_at hl 0 rfl) ?_
  refine va_get (D := D) (ci := 4) (v := .ref (ad 1)) (C := RX4) (T := TX4) (N := 10) hx hb hts inX4 hown hKK.1 hP 0 rfl rfl 0 (by decide) (hts _ q170) (fun _ h => h) rfl dX4_sees_1 ?_
  refine lv_iload_n hx hb dX4_sees_4 rfl (lv_at hl 1 rfl) ?_
  obtain ⟨r2, hc1, hf⟩ := bd_some hf
  have hP1 := hP.sub (ws' := wL cy (ad 1) (ad 2) (ad 3) (ad 4) (ad 5) S.1) [1, 2, 3, 4, 5] rfl
  refine pCallVI ⟨hx, hb, hml, hown, hts⟩ (mtX1_hasCell l D cy z (ad 1) (ad 2) (ad 3) (ad 4) (ad 5) S.1 u1 r2 hc1) miX1_hasCell q438 ⟨Nat.le_of_ble_eq_true rfl, Nat.le_of_ble_eq_true rfl⟩ ⟨rfl, rfl⟩ hP1 hKK hS hA0 (va_recv hKK.1 hP1 (ci := 1) (q0 := 0) rfl rfl) rfl hl.1 rfl (Nat.le_of_ble_eq_true rfl) dX4_sees_5 ⟨Nat.zero_le _, Nat.zero_le _⟩ ?_
  refine lv_if_eq (tgt := 22) hx hb dX4_sees_8 (by decide) (fun h => ?_) (fun h => ?_)
  · have hf := (if_pos h).symm.trans hf
    refine lv_iconst (v := -1) hx hb dX4_sees_22 (by decide) ?_
    exact pretI hx hb hr hlk hf dX4_sees_23
  · have hf := (if_neg h).symm.trans hf
    refine lv_aload_n hx hb dX4_sees_11 rfl (lv_at hl 0 rfl) ?_
    refine va_get (D := D) (ci := 4) (v := .ref (ad 1)) (C := RX4) (T := TX4) (N := 10) hx hb hts inX4 hown hKK.1 hP 0 rfl rfl 0 (by decide) (hts _ q170) (fun _ h => h) rfl dX4_sees_12 ?_
    refine lv_iload_n hx hb dX4_sees_15 rfl (lv_at hl 2 rfl) ?_
    obtain ⟨r4, hc3, hf⟩ := bd_some hf
    have hP1 := hP.sub (ws' := wL cy (ad 1) (ad 2) (ad 3) (ad 4) (ad 5) S.1) [1, 2, 3, 4, 5] rfl
    refine pCallVI ⟨hx, hb, hml, hown, hts⟩ (mtX1_hasCell l D cy z (ad 1) (ad 2) (ad 3) (ad 4) (ad 5) S.1 u2 r4 hc3) miX1_hasCell q438 ⟨Nat.le_of_ble_eq_true rfl, Nat.le_of_ble_eq_true rfl⟩ ⟨rfl, rfl⟩ hP1 hKK hS hA0 (va_recv hKK.1 hP1 (ci := 1) (q0 := 0) rfl rfl) rfl hl.1 rfl (Nat.le_of_ble_eq_true rfl) dX4_sees_16 ⟨Nat.zero_le _, Nat.zero_le _⟩ ?_
    refine lv_if_ne (tgt := 24) hx hb dX4_sees_19 (by decide) (fun h => ?_) (fun h => ?_)
    · have hf := (if_neg h).symm.trans hf
      refine lv_aload_n hx hb dX4_sees_24 rfl (lv_at hl 0 rfl) ?_
      refine va_get (D := D) (ci := 4) (v := .ref (ad 1)) (C := RX4) (T := TX4) (N := 10) hx hb hts inX4 hown hKK.1 hP 0 rfl rfl 0 (by decide) (hts _ q170) (fun _ h => h) rfl dX4_sees_25 ?_
      refine va_get (D := D) (ci := 1) (v := .ref (ad 5)) (C := RX1) (T := TX1) (N := 7) hx hb hts inX1 hown hKK.1 hP 1 rfl rfl 6 (by decide) (hts _ q90) (fun _ h => h) rfl dX4_sees_28 ?_
      refine lv_iconst (v := 0) hx hb dX4_sees_31 (by decide) ?_
      refine va_iald hx hb hKK.1 hP 5 0 rfl rfl (inb_in (by decide)) dX4_sees_32 ?_
      refine nm_i hf (fun x5 hf => ?_)
      refine lv_istore (lv' := [(4, .int x5), (0, .ref (ad 0)), (1, .int u1), (2, .int u2), (3, .int u3)]) hx hb dX4_sees_33 hl (by decide) rfl (fun ls hl => ?_)
      refine lv_iload_n hx hb dX4_sees_35 rfl (lv_at hl 4 rfl) ?_
      by_cases h0 : u3 = 0
      · have hf := (if_pos h0).symm.trans hf
        refine sw_hit (tgt := 72) hx hb dX4_sees_36 h0 (by decide) (by decide) rfl (by decide) ?_
        refine lv_aload_n hx hb dX4_sees_72 rfl (lv_at hl 1 rfl) ?_
        refine va_get (D := D) (ci := 4) (v := .ref (ad 1)) (C := RX4) (T := TX4) (N := 10) hx hb hts inX4 hown hKK.1 hP 0 rfl rfl 0 (by decide) (hts _ q170) (fun _ h => h) rfl dX4_sees_73 ?_
        refine lv_iload_n hx hb dX4_sees_76 rfl (lv_at hl 2 rfl) ?_
        refine lv_iload hx hb dX4_sees_77 (lv_at hl 0 rfl) ?_
        refine lv_iload_n hx hb dX4_sees_79 rfl (lv_at hl 3 rfl) ?_
        obtain ⟨r7, hc6, hf⟩ := bd_some hf
        have hP1 := hP.sub (ws' := wL cy (ad 1) (ad 2) (ad 3) (ad 4) (ad 5) S.1) [1, 2, 3, 4, 5] rfl
        refine pCallVI ⟨hx, hb, hml, hown, hts⟩ (mtX1_canSee l D cy z (ad 1) (ad 2) (ad 3) (ad 4) (ad 5) S.1 u1 x5 u2 r7 hc6) miX1_canSee q525 ⟨Nat.le_of_ble_eq_true rfl, Nat.le_of_ble_eq_true rfl⟩ ⟨rfl, rfl⟩ hP1 hKK hS hA0 (va_recv hKK.1 hP1 (ci := 1) (q0 := 0) rfl rfl) rfl hl.1 rfl (Nat.le_of_ble_eq_true rfl) dX4_sees_80 ⟨Nat.zero_le _, Nat.zero_le _⟩ ?_
        refine lv_if_eq (tgt := 90) hx hb dX4_sees_83 (by decide) (fun h => ?_) (fun h => ?_)
        · have hf := (if_pos h).symm.trans hf
          refine lv_iconst (v := 0) hx hb dX4_sees_90 (by decide) ?_
          exact pretI hx hb hr hlk hf dX4_sees_91
        · have hf := (if_neg h).symm.trans hf
          refine lv_iconst (v := 1) hx hb dX4_sees_86 (by decide) ?_
          refine lv_goto (tgt := 91) hx hb dX4_sees_87 (by decide) ?_
          exact pretI hx hb hr hlk hf dX4_sees_91
      have hf := (if_neg h0).symm.trans hf
      by_cases h1 : u3 = 1
      · have hf := (if_pos h1).symm.trans hf
        refine sw_hit (tgt := 92) hx hb dX4_sees_36 h1 (by decide) (by decide) rfl (by decide) ?_
        refine lv_aload_n hx hb dX4_sees_92 rfl (lv_at hl 1 rfl) ?_
        refine va_get (D := D) (ci := 4) (v := .ref (ad 1)) (C := RX4) (T := TX4) (N := 10) hx hb hts inX4 hown hKK.1 hP 0 rfl rfl 0 (by decide) (hts _ q170) (fun _ h => h) rfl dX4_sees_93 ?_
        refine lv_iload_n hx hb dX4_sees_96 rfl (lv_at hl 2 rfl) ?_
        refine lv_iload_n hx hb dX4_sees_97 rfl (lv_at hl 3 rfl) ?_
        obtain ⟨r9, hc8, hf⟩ := bd_some hf
        have hP1 := hP.sub (ws' := wL cy (ad 1) (ad 2) (ad 3) (ad 4) (ad 5) S.1) [1, 2, 3, 4, 5] rfl
        refine pCallVI ⟨hx, hb, hml, hown, hts⟩ (mtX1_distance l D cy z (ad 1) (ad 2) (ad 3) (ad 4) (ad 5) S.1 u1 u2 r9 hc8) miX1_distance q526 ⟨Nat.le_of_ble_eq_true rfl, Nat.le_of_ble_eq_true rfl⟩ ⟨rfl, rfl⟩ hP1 hKK hS hA0 (va_recv hKK.1 hP1 (ci := 1) (q0 := 0) rfl rfl) rfl hl.1 rfl (Nat.le_of_ble_eq_true rfl) dX4_sees_98 ⟨Nat.zero_le _, Nat.zero_le _⟩ ?_
        exact pretI hx hb hr hlk hf dX4_sees_101
      have hf := (if_neg h1).symm.trans hf
      by_cases h2 : u3 = 2
      · have hf := (if_pos h2).symm.trans hf
        refine sw_hit (tgt := 102) hx hb dX4_sees_36 h2 (by decide) (by decide) rfl (by decide) ?_
        refine lv_aload_n hx hb dX4_sees_102 rfl (lv_at hl 1 rfl) ?_
        refine va_get (D := D) (ci := 4) (v := .ref (ad 1)) (C := RX4) (T := TX4) (N := 10) hx hb hts inX4 hown hKK.1 hP 0 rfl rfl 0 (by decide) (hts _ q170) (fun _ h => h) rfl dX4_sees_103 ?_
        refine lv_iload_n hx hb dX4_sees_106 rfl (lv_at hl 2 rfl) ?_
        refine lv_iload hx hb dX4_sees_107 (lv_at hl 0 rfl) ?_
        refine lv_iload_n hx hb dX4_sees_109 rfl (lv_at hl 3 rfl) ?_
        obtain ⟨r11, hc10, hf⟩ := bd_some hf
        have hP1 := hP.sub (ws' := wL cy (ad 1) (ad 2) (ad 3) (ad 4) (ad 5) S.1) [1, 2, 3, 4, 5] rfl
        refine pCallVI ⟨hx, hb, hml, hown, hts⟩ (mtX1_firstBlock l D cy z (ad 1) (ad 2) (ad 3) (ad 4) (ad 5) S.1 u1 x5 u2 r11 hc10) miX1_firstBlock q527 ⟨Nat.le_of_ble_eq_true rfl, Nat.le_of_ble_eq_true rfl⟩ ⟨rfl, rfl⟩ hP1 hKK hS hA0 (va_recv hKK.1 hP1 (ci := 1) (q0 := 0) rfl rfl) rfl hl.1 rfl (Nat.le_of_ble_eq_true rfl) dX4_sees_110 ⟨Nat.zero_le _, Nat.zero_le _⟩ ?_
        exact pretI hx hb hr hlk hf dX4_sees_113
      have hf := (if_neg h2).symm.trans hf
      by_cases h3 : u3 = 3
      · have hf := (if_pos h3).symm.trans hf
        refine sw_hit (tgt := 114) hx hb dX4_sees_36 h3 (by decide) (by decide) rfl (by decide) ?_
        refine lv_aload_n hx hb dX4_sees_114 rfl (lv_at hl 1 rfl) ?_
        refine va_get (D := D) (ci := 4) (v := .ref (ad 1)) (C := RX4) (T := TX4) (N := 10) hx hb hts inX4 hown hKK.1 hP 0 rfl rfl 0 (by decide) (hts _ q170) (fun _ h => h) rfl dX4_sees_115 ?_
        refine lv_iload_n hx hb dX4_sees_118 rfl (lv_at hl 2 rfl) ?_
        refine lv_iload_n hx hb dX4_sees_119 rfl (lv_at hl 3 rfl) ?_
        obtain ⟨r13, hc12, hf⟩ := bd_some hf
        have hP1 := hP.sub (ws' := wL cy (ad 1) (ad 2) (ad 3) (ad 4) (ad 5) S.1) [1, 2, 3, 4, 5] rfl
        refine pCallVI ⟨hx, hb, hml, hown, hts⟩ (mtX1_distance l D cy z (ad 1) (ad 2) (ad 3) (ad 4) (ad 5) S.1 u1 u2 r13 hc12) miX1_distance q526 ⟨Nat.le_of_ble_eq_true rfl, Nat.le_of_ble_eq_true rfl⟩ ⟨rfl, rfl⟩ hP1 hKK hS hA0 (va_recv hKK.1 hP1 (ci := 1) (q0 := 0) rfl rfl) rfl hl.1 rfl (Nat.le_of_ble_eq_true rfl) dX4_sees_120 ⟨Nat.zero_le _, Nat.zero_le _⟩ ?_
        refine lv_iconst (v := 2) hx hb dX4_sees_123 (by decide) ?_
        refine lv_icmp_ge (tgt := 132) hx hb dX4_sees_124 (by decide) (fun h => ?_) (fun h => ?_)
        · have hf := (if_pos h).symm.trans hf
          refine lv_sipush (v := 1000) hx hb dX4_sees_132 (by decide) ?_
          refine lv_aload_n hx hb dX4_sees_135 rfl (lv_at hl 1 rfl) ?_
          refine va_get (D := D) (ci := 4) (v := .ref (ad 1)) (C := RX4) (T := TX4) (N := 10) hx hb hts inX4 hown hKK.1 hP 0 rfl rfl 0 (by decide) (hts _ q170) (fun _ h => h) rfl dX4_sees_136 ?_
          refine lv_iload_n hx hb dX4_sees_139 rfl (lv_at hl 2 rfl) ?_
          refine lv_iload hx hb dX4_sees_140 (lv_at hl 0 rfl) ?_
          refine lv_iload_n hx hb dX4_sees_142 rfl (lv_at hl 3 rfl) ?_
          obtain ⟨r15, hc14, hf⟩ := bd_some hf
          have hP1 := hP.sub (ws' := wL cy (ad 1) (ad 2) (ad 3) (ad 4) (ad 5) S.1) [1, 2, 3, 4, 5] rfl
          refine pCallVI ⟨hx, hb, hml, hown, hts⟩ (mtX1_greatestExcess l D cy z (ad 1) (ad 2) (ad 3) (ad 4) (ad 5) S.1 u1 x5 u2 r15 hc14) miX1_greatestExcess q531 ⟨Nat.le_of_ble_eq_true rfl, Nat.le_of_ble_eq_true rfl⟩ ⟨rfl, rfl⟩ hP1 hKK hS hA0 (va_recv hKK.1 hP1 (ci := 1) (q0 := 0) rfl rfl) rfl hl.1 rfl (Nat.le_of_ble_eq_true rfl) dX4_sees_143 ⟨Nat.zero_le _, Nat.zero_le _⟩ ?_
          refine lv_iadd hx hb dX4_sees_146 ?_
          exact pretI hx hb hr hlk hf dX4_sees_147
        · have hf := (if_neg h).symm.trans hf
          refine lv_bipush (v := -9) hx hb dX4_sees_127 (by decide) ?_
          refine lv_goto (tgt := 147) hx hb dX4_sees_129 (by decide) ?_
          exact pretI hx hb hr hlk hf dX4_sees_147
      have hf := (if_neg h3).symm.trans hf
      by_cases h4 : u3 = 4
      · have hf := (if_pos h4).symm.trans hf
        refine sw_hit (tgt := 148) hx hb dX4_sees_36 h4 (by decide) (by decide) rfl (by decide) ?_
        refine lv_aload_n hx hb dX4_sees_148 rfl (lv_at hl 1 rfl) ?_
        refine va_get (D := D) (ci := 4) (v := .ref (ad 1)) (C := RX4) (T := TX4) (N := 10) hx hb hts inX4 hown hKK.1 hP 0 rfl rfl 0 (by decide) (hts _ q170) (fun _ h => h) rfl dX4_sees_149 ?_
        refine lv_iload_n hx hb dX4_sees_152 rfl (lv_at hl 2 rfl) ?_
        refine lv_iload_n hx hb dX4_sees_153 rfl (lv_at hl 3 rfl) ?_
        obtain ⟨r17, hc16, hf⟩ := bd_some hf
        have hP1 := hP.sub (ws' := wL cy (ad 1) (ad 2) (ad 3) (ad 4) (ad 5) S.1) [1, 2, 3, 4, 5] rfl
        refine pCallVI ⟨hx, hb, hml, hown, hts⟩ (mtX1_neededRise l D cy z (ad 1) (ad 2) (ad 3) (ad 4) (ad 5) S.1 u1 u2 r17 hc16) miX1_neededRise q535 ⟨Nat.le_of_ble_eq_true rfl, Nat.le_of_ble_eq_true rfl⟩ ⟨rfl, rfl⟩ hP1 hKK hS hA0 (va_recv hKK.1 hP1 (ci := 1) (q0 := 0) rfl rfl) rfl hl.1 rfl (Nat.le_of_ble_eq_true rfl) dX4_sees_154 ⟨Nat.zero_le _, Nat.zero_le _⟩ ?_
        exact pretI hx hb hr hlk hf dX4_sees_157
      have hf := (if_neg h4).symm.trans hf
      refine lv_tableOut (tgt := 158) hx hb dX4_sees_36 (show (u3).toInt < 0 ∨ 4 < (u3).toInt by have e0 := lv_neT h0 (a := 0) (by decide); have e1 := lv_neT h1 (a := 1) (by decide); have e2 := lv_neT h2 (a := 2) (by decide); have e3 := lv_neT h3 (a := 3) (by decide); have e4 := lv_neT h4 (a := 4) (by decide); omega) (by decide) ?_
      refine lv_bipush (v := -2) hx hb dX4_sees_158 (by decide) ?_
      exact pretI hx hb hr hlk hf dX4_sees_160
    · have hf := (if_pos h).symm.trans hf
      refine lv_iconst (v := -1) hx hb dX4_sees_22 (by decide) ?_
      exact pretI hx hb hr hlk hf dX4_sees_23

abbrev rmX4_view : Room := { frames := 4, cells := 0, slots := 0, locals := 108 }
theorem miX4_view : miV yX4_view cX4_view 2 (some .long) 1 := ⟨q542, q40, q540, q541, by decide +kernel⟩
set_option maxHeartbeats 4000000 in
set_option maxRecDepth 100000 in
theorem mtX4_view (l : Launch) (D : va_G) (cy : Nat → ClassId) (z : zT) (ad : Nat → Nat) (S : tH) (u1 : Int32) (r0 : Int64) (hf : fX4_view S u1 = some r0) : pmet l yX4_view cX4_view 2 (some .long) rmX4_view D cy z (wH cy ad S) [.ref (ad 0), .int u1] (some (.long r0)) := by
  refine pmet_of (by decide +kernel) (Nat.le_of_ble_eq_true rfl) (fun p e s m below meth c hx hb hr hml hown hts hlk hP hKK ls hl => ?_)
  have hS : va_S noF s.heap s.heap [] := va_S.rf
  have hA0 : ∀ q, noF q → zA z q := fun _ h => h.elim
  have hown : s.vm.findClass "HillSight" = some m.cls := hown
  have hl : lv_has ls 2 [(0, .ref (ad 0)), (1, .int u1)] := hl
  unfold fX4_view at hf
  refine lv_aload_n hx hb dX4_view_0 rfl (lv_at hl 0 rfl) ?_
  refine va_get (D := D) (ci := 4) (v := .ref (ad 1)) (C := RX4) (T := TX4) (N := 10) hx hb hts inX4 hown hKK.1 hP 0 rfl rfl 0 (by decide) (hts _ q170) (fun _ h => h) rfl dX4_view_1 ?_
  refine lv_iload_n hx hb dX4_view_4 rfl (lv_at hl 1 rfl) ?_
  obtain ⟨r2, hc1, hf⟩ := bd_some hf
  have hP1 := hP.sub (ws' := wL cy (ad 1) (ad 2) (ad 3) (ad 4) (ad 5) S.1) [1, 2, 3, 4, 5] rfl
  refine pCallVI ⟨hx, hb, hml, hown, hts⟩ (mtX1_hasCell l D cy z (ad 1) (ad 2) (ad 3) (ad 4) (ad 5) S.1 u1 r2 hc1) miX1_hasCell q438 ⟨Nat.le_of_ble_eq_true rfl, Nat.le_of_ble_eq_true rfl⟩ ⟨rfl, rfl⟩ hP1 hKK hS hA0 (va_recv hKK.1 hP1 (ci := 1) (q0 := 0) rfl rfl) rfl hl.1 rfl (Nat.le_of_ble_eq_true rfl) dX4_view_5 ⟨Nat.zero_le _, Nat.zero_le _⟩ ?_
  refine lv_if_eq (tgt := 31) hx hb dX4_view_8 (by decide) (fun h => ?_) (fun h => ?_)
  · have hf := (if_pos h).symm.trans hf
    refine lv_ldc2 hx hb hown (hts _ q543) dX4_view_31 ?_
    exact pretL hx hb hr hlk hf dX4_view_34
  · have hf := (if_neg h).symm.trans hf
    refine lv_aload_n hx hb dX4_view_11 rfl (lv_at hl 0 rfl) ?_
    refine va_get (D := D) (ci := 4) (v := .ref (ad 1)) (C := RX4) (T := TX4) (N := 10) hx hb hts inX4 hown hKK.1 hP 0 rfl rfl 0 (by decide) (hts _ q170) (fun _ h => h) rfl dX4_view_12 ?_
    refine lv_iload_n hx hb dX4_view_15 rfl (lv_at hl 1 rfl) ?_
    refine lv_aload_n hx hb dX4_view_16 rfl (lv_at hl 0 rfl) ?_
    refine va_get (D := D) (ci := 4) (v := .ref (ad 1)) (C := RX4) (T := TX4) (N := 10) hx hb hts inX4 hown hKK.1 hP 0 rfl rfl 0 (by decide) (hts _ q170) (fun _ h => h) rfl dX4_view_17 ?_
    refine va_get (D := D) (ci := 1) (v := .ref (ad 5)) (C := RX1) (T := TX1) (N := 7) hx hb hts inX1 hown hKK.1 hP 1 rfl rfl 6 (by decide) (hts _ q90) (fun _ h => h) rfl dX4_view_20 ?_
    refine lv_iconst (v := 0) hx hb dX4_view_23 (by decide) ?_
    refine va_iald hx hb hKK.1 hP 5 0 rfl rfl (inb_in (by decide)) dX4_view_24 ?_
    obtain ⟨r4, hc3, hf⟩ := bd_some hf
    have hP1 := hP.sub (ws' := wL cy (ad 1) (ad 2) (ad 3) (ad 4) (ad 5) S.1) [1, 2, 3, 4, 5] rfl
    refine pCallVL ⟨hx, hb, hml, hown, hts⟩ (mtX1_viewFrom l D cy z (ad 1) (ad 2) (ad 3) (ad 4) (ad 5) S.1 u1 (S.1.2.2.2.2.2.2 (0 : Int32).toNatClampNeg) r4 hc3) miX1_viewFrom q448 ⟨Nat.le_of_ble_eq_true rfl, Nat.le_of_ble_eq_true rfl⟩ ⟨rfl, rfl⟩ hP1 hKK hS hA0 (va_recv hKK.1 hP1 (ci := 1) (q0 := 0) rfl rfl) rfl hl.1 rfl (Nat.le_of_ble_eq_true rfl) dX4_view_25 ⟨Nat.zero_le _, Nat.zero_le _⟩ ?_
    refine lv_goto (tgt := 34) hx hb dX4_view_28 (by decide) ?_
    exact pretL hx hb hr hlk hf dX4_view_34

abbrev rmX4_watched : Room := { frames := 5, cells := 0, slots := 0, locals := 129 }
theorem miX4_watched : miV yX4_watched cX4_watched 2 (some .long) 1 := ⟨q547, q40, q545, q546, by decide +kernel⟩
set_option maxHeartbeats 4000000 in
set_option maxRecDepth 100000 in
theorem mtX4_watched (l : Launch) (D : va_G) (cy : Nat → ClassId) (z : zT) (ad : Nat → Nat) (S : tH) (u1 : Int32) (r0 : Int64) (hf : fX4_watched S u1 = some r0) : pmet l yX4_watched cX4_watched 2 (some .long) rmX4_watched D cy z (wH cy ad S) [.ref (ad 0), .int u1] (some (.long r0)) := by
  refine pmet_of (by decide +kernel) (Nat.le_of_ble_eq_true rfl) (fun p e s m below meth c hx hb hr hml hown hts hlk hP hKK ls hl => ?_)
  have hS : va_S noF s.heap s.heap [] := va_S.rf
  have hA0 : ∀ q, noF q → zA z q := fun _ h => h.elim
  have hown : s.vm.findClass "HillSight" = some m.cls := hown
  have hl : lv_has ls 2 [(0, .ref (ad 0)), (1, .int u1)] := hl
  unfold fX4_watched at hf
  refine lv_aload_n hx hb dX4_watched_0 rfl (lv_at hl 0 rfl) ?_
  refine va_get (D := D) (ci := 4) (v := .ref (ad 1)) (C := RX4) (T := TX4) (N := 10) hx hb hts inX4 hown hKK.1 hP 0 rfl rfl 0 (by decide) (hts _ q170) (fun _ h => h) rfl dX4_watched_1 ?_
  refine lv_iload_n hx hb dX4_watched_4 rfl (lv_at hl 1 rfl) ?_
  obtain ⟨r2, hc1, hf⟩ := bd_some hf
  have hP1 := hP.sub (ws' := wL cy (ad 1) (ad 2) (ad 3) (ad 4) (ad 5) S.1) [1, 2, 3, 4, 5] rfl
  refine pCallVI ⟨hx, hb, hml, hown, hts⟩ (mtX1_hasTower l D cy z (ad 1) (ad 2) (ad 3) (ad 4) (ad 5) S.1 u1 r2 hc1) miX1_hasTower q460 ⟨Nat.le_of_ble_eq_true rfl, Nat.le_of_ble_eq_true rfl⟩ ⟨rfl, rfl⟩ hP1 hKK hS hA0 (va_recv hKK.1 hP1 (ci := 1) (q0 := 0) rfl rfl) rfl hl.1 rfl (Nat.le_of_ble_eq_true rfl) dX4_watched_5 ⟨Nat.zero_le _, Nat.zero_le _⟩ ?_
  refine lv_if_eq (tgt := 22) hx hb dX4_watched_8 (by decide) (fun h => ?_) (fun h => ?_)
  · have hf := (if_pos h).symm.trans hf
    refine lv_ldc2 hx hb hown (hts _ q543) dX4_watched_22 ?_
    exact pretL hx hb hr hlk hf dX4_watched_25
  · have hf := (if_neg h).symm.trans hf
    refine lv_aload_n hx hb dX4_watched_11 rfl (lv_at hl 0 rfl) ?_
    refine va_get (D := D) (ci := 4) (v := .ref (ad 1)) (C := RX4) (T := TX4) (N := 10) hx hb hts inX4 hown hKK.1 hP 0 rfl rfl 0 (by decide) (hts _ q170) (fun _ h => h) rfl dX4_watched_12 ?_
    refine lv_iload_n hx hb dX4_watched_15 rfl (lv_at hl 1 rfl) ?_
    obtain ⟨r4, hc3, hf⟩ := bd_some hf
    have hP1 := hP.sub (ws' := wL cy (ad 1) (ad 2) (ad 3) (ad 4) (ad 5) S.1) [1, 2, 3, 4, 5] rfl
    refine pCallVL ⟨hx, hb, hml, hown, hts⟩ (mtX1_towerView l D cy z (ad 1) (ad 2) (ad 3) (ad 4) (ad 5) S.1 u1 r4 hc3) miX1_towerView q464 ⟨Nat.le_of_ble_eq_true rfl, Nat.le_of_ble_eq_true rfl⟩ ⟨rfl, rfl⟩ hP1 hKK hS hA0 (va_recv hKK.1 hP1 (ci := 1) (q0 := 0) rfl rfl) rfl hl.1 rfl (Nat.le_of_ble_eq_true rfl) dX4_watched_16 ⟨Nat.zero_le _, Nat.zero_le _⟩ ?_
    refine lv_goto (tgt := 25) hx hb dX4_watched_19 (by decide) ?_
    exact pretL hx hb hr hlk hf dX4_watched_25

abbrev rmX4_joined : Room := { frames := 5, cells := 0, slots := 0, locals := 129 }
theorem miX4_joined : miV yX4_joined cX4_joined 5 (some .long) 1 := ⟨q551, q40, q549, q550, by decide +kernel⟩
set_option maxHeartbeats 4000000 in
set_option maxRecDepth 100000 in
theorem mtX4_joined (l : Launch) (D : va_G) (cy : Nat → ClassId) (z : zT) (ad : Nat → Nat) (S : tH) (u1 : Int32) (r0 : Int64) (hf : fX4_joined S u1 = some r0) : pmet l yX4_joined cX4_joined 5 (some .long) rmX4_joined D cy z (wH cy ad S) [.ref (ad 0), .int u1] (some (.long r0)) := by
  refine pmet_of (by decide +kernel) (Nat.le_of_ble_eq_true rfl) (fun p e s m below meth c hx hb hr hml hown hts hlk hP hKK ls hl => ?_)
  have hS : va_S noF s.heap s.heap [] := va_S.rf
  have hA0 : ∀ q, noF q → zA z q := fun _ h => h.elim
  have hown : s.vm.findClass "HillSight" = some m.cls := hown
  have hl : lv_has ls 5 [(0, .ref (ad 0)), (1, .int u1)] := hl
  have w_39 : ∀ (g1_39 : Int32) (k72 : Int64 → Option (Int64)) (hk72 : ∀ (v2_39 : Int64) (ls : Array Slot), k72 v2_39 = some r0 → lv_has ls 5 [(2, .long v2_39)] → W p l e rmX4_joined s m ([.ref (ad 0), .int u1] : List Value).toArray below meth c s.heap [] 0 0 (MQ below (pQ (some (.long r0))) ([.ref (ad 0), .int u1] : List Value).toArray s 0 0 noF) (F0 m 72 ls [])) (n : Nat) (v2_39 : Int64) (v4_39 : Int32) (ls : Array Slot), fX4_joined_39 S g1_39 k72 n v2_39 v4_39 = some r0 → lv_has ls 5 [(0, .ref (ad 0)), (1, .int g1_39), (2, .long v2_39), (4, .int v4_39)] → W p l e rmX4_joined s m ([.ref (ad 0), .int u1] : List Value).toArray below meth c s.heap [] 0 0 (MQ below (pQ (some (.long r0))) ([.ref (ad 0), .int u1] : List Value).toArray s 0 0 noF) (F0 m 39 ls []) := by
    intro g1_39 k72 hk72 n
    induction n with
    | zero =>
      intro v2_39 v4_39 ls hf hl
      cases (show (none : Option (Int64)) = some r0 from hf)
    | succ n ih =>
      intro v2_39 v4_39 ls hf hl
      rw [fX4_joined_39] at hf
      refine lv_iload hx hb dX4_joined_39 (lv_at hl 3 rfl) ?_
      refine lv_aload_n hx hb dX4_joined_41 rfl (lv_at hl 0 rfl) ?_
      refine va_get (D := D) (ci := 4) (v := .ref (ad 1)) (C := RX4) (T := TX4) (N := 10) hx hb hts inX4 hown hKK.1 hP 0 rfl rfl 0 (by decide) (hts _ q170) (fun _ h => h) rfl dX4_joined_42 ?_
      refine va_get (D := D) (ci := 1) (v := .int S.1.2.2.1) (C := RX1) (T := TX1) (N := 7) hx hb hts inX1 hown hKK.1 hP 1 rfl rfl 2 (by decide) (hts _ q81) (fun _ h => h) rfl dX4_joined_45 ?_
      refine lv_icmp_ge (tgt := 72) hx hb dX4_joined_48 (by decide) (fun h => ?_) (fun h => ?_)
      · have hf := (if_pos h).symm.trans hf
        exact hk72 v2_39 ls hf (lv_sub hl [2] rfl)
      · have hf := (if_neg h).symm.trans hf
        refine lv_iload_n hx hb dX4_joined_51 rfl (lv_at hl 1 rfl) ?_
        refine lv_lload_n hx hb dX4_joined_52 rfl (lv_at hl 2 rfl) ?_
        refine lv_aload_n hx hb dX4_joined_53 rfl (lv_at hl 0 rfl) ?_
        refine va_get (D := D) (ci := 4) (v := .ref (ad 1)) (C := RX4) (T := TX4) (N := 10) hx hb hts inX4 hown hKK.1 hP 0 rfl rfl 0 (by decide) (hts _ q170) (fun _ h => h) rfl dX4_joined_54 ?_
        refine lv_iload hx hb dX4_joined_57 (lv_at hl 3 rfl) ?_
        obtain ⟨r4, hc3, hf⟩ := bd_some hf
        have hP1 := hP.sub (ws' := wL cy (ad 1) (ad 2) (ad 3) (ad 4) (ad 5) S.1) [1, 2, 3, 4, 5] rfl
        refine pCallVL ⟨hx, hb, hml, hown, hts⟩ (mtX1_towerView l D cy z (ad 1) (ad 2) (ad 3) (ad 4) (ad 5) S.1 v4_39 r4 hc3) miX1_towerView q464 ⟨Nat.le_of_ble_eq_true rfl, Nat.le_of_ble_eq_true rfl⟩ ⟨rfl, rfl⟩ hP1 hKK hS hA0 (va_recv hKK.1 hP1 (ci := 1) (q0 := 0) rfl rfl) rfl hl.1 rfl (Nat.le_of_ble_eq_true rfl) dX4_joined_59 ⟨Nat.zero_le _, Nat.zero_le _⟩ ?_
        obtain ⟨r6, hc5, hf⟩ := bd_some hf
        have hP1 := hP.sub (ws' := []) [] rfl
        refine pCallSL ⟨hx, hb, hml, hown, hts⟩ (mtX4_combine l D cy z g1_39 v2_39 r4 r6 hc5) miX4_combine q553 ⟨Nat.le_of_ble_eq_true rfl, Nat.le_of_ble_eq_true rfl⟩ ⟨rfl, rfl⟩ hP1 hKK hS hA0 rfl hl.1 rfl (Nat.le_of_ble_eq_true rfl) dX4_joined_62 ⟨Nat.zero_le _, Nat.zero_le _⟩ ?_
        refine lv_lstore_n (lv' := [(2, .long r6), (0, .ref (ad 0)), (1, .int g1_39), (4, .int v4_39)]) hx hb dX4_joined_65 rfl hl (by decide) rfl (fun ls hl => ?_)
        obtain ⟨x7, ex7, hf⟩ := nm_ex hf
        refine lv_iinc (v := x7) (lv' := [(4, .int x7), (2, .long r6), (0, .ref (ad 0)), (1, .int g1_39)]) hx hb dX4_joined_66 hl (k := 3) rfl (Eq.trans rfl ex7) (by decide) rfl (fun ls hl => ?_)
        refine lv_goto (tgt := 39) hx hb dX4_joined_69 (by decide) ?_
        exact ih r6 x7 ls hf (lv_sub hl [2, 3, 1, 0] rfl)
  unfold fX4_joined at hf
  refine lv_iload_n hx hb dX4_joined_0 rfl (lv_at hl 1 rfl) ?_
  refine lv_if_lt (tgt := 9) hx hb dX4_joined_1 (by decide) (fun h => ?_) (fun h => ?_)
  · have hf := (if_pos h).symm.trans hf
    refine lv_ldc2 hx hb hown (hts _ q552) dX4_joined_9 ?_
    exact pretL hx hb hr hlk hf dX4_joined_12
  · have hf := (if_neg h).symm.trans hf
    refine lv_iload_n hx hb dX4_joined_4 rfl (lv_at hl 1 rfl) ?_
    refine lv_iconst (v := 3) hx hb dX4_joined_5 (by decide) ?_
    refine lv_icmp_le (tgt := 13) hx hb dX4_joined_6 (by decide) (fun h => ?_) (fun h => ?_)
    · have hf := (if_pos h).symm.trans hf
      refine lv_aload_n hx hb dX4_joined_13 rfl (lv_at hl 0 rfl) ?_
      refine va_get (D := D) (ci := 4) (v := .ref (ad 1)) (C := RX4) (T := TX4) (N := 10) hx hb hts inX4 hown hKK.1 hP 0 rfl rfl 0 (by decide) (hts _ q170) (fun _ h => h) rfl dX4_joined_14 ?_
      refine va_get (D := D) (ci := 1) (v := .int S.1.2.2.1) (C := RX1) (T := TX1) (N := 7) hx hb hts inX1 hown hKK.1 hP 1 rfl rfl 2 (by decide) (hts _ q81) (fun _ h => h) rfl dX4_joined_17 ?_
      refine lv_if_ne (tgt := 27) hx hb dX4_joined_20 (by decide) (fun h => ?_) (fun h => ?_)
      · have hf := (if_neg h).symm.trans hf
        refine lv_aload_n hx hb dX4_joined_27 rfl (lv_at hl 0 rfl) ?_
        refine va_get (D := D) (ci := 4) (v := .ref (ad 1)) (C := RX4) (T := TX4) (N := 10) hx hb hts inX4 hown hKK.1 hP 0 rfl rfl 0 (by decide) (hts _ q170) (fun _ h => h) rfl dX4_joined_28 ?_
        refine lv_iconst (v := 0) hx hb dX4_joined_31 (by decide) ?_
        obtain ⟨r2, hc1, hf⟩ := bd_some hf
        have hP1 := hP.sub (ws' := wL cy (ad 1) (ad 2) (ad 3) (ad 4) (ad 5) S.1) [1, 2, 3, 4, 5] rfl
        refine pCallVL ⟨hx, hb, hml, hown, hts⟩ (mtX1_towerView l D cy z (ad 1) (ad 2) (ad 3) (ad 4) (ad 5) S.1 (0 : Int32) r2 hc1) miX1_towerView q464 ⟨Nat.le_of_ble_eq_true rfl, Nat.le_of_ble_eq_true rfl⟩ ⟨rfl, rfl⟩ hP1 hKK hS hA0 (va_recv hKK.1 hP1 (ci := 1) (q0 := 0) rfl rfl) rfl hl.1 rfl (Nat.le_of_ble_eq_true rfl) dX4_joined_32 ⟨Nat.zero_le _, Nat.zero_le _⟩ ?_
        refine lv_lstore_n (lv' := [(2, .long r2), (0, .ref (ad 0)), (1, .int u1)]) hx hb dX4_joined_35 rfl hl (by decide) rfl (fun ls hl => ?_)
        refine lv_iconst (v := 1) hx hb dX4_joined_36 (by decide) ?_
        refine lv_istore (lv' := [(4, .int (1 : Int32)), (2, .long r2), (0, .ref (ad 0)), (1, .int u1)]) hx hb dX4_joined_37 hl (by decide) rfl (fun ls hl => ?_)
        refine w_39 u1 _ ?_ _ r2 (1 : Int32) ls hf (lv_sub hl [2, 3, 1, 0] rfl)
        · intro y8 ls hf hl
          refine lv_lload_n hx hb dX4_joined_72 rfl (lv_at hl 0 rfl) ?_
          exact pretL hx hb hr hlk hf dX4_joined_73
      · have hf := (if_pos h).symm.trans hf
        refine lv_lconst (v := 0) hx hb dX4_joined_23 (by decide) ?_
        refine lv_goto (tgt := 35) hx hb dX4_joined_24 (by decide) ?_
        refine lv_lstore_n (lv' := [(2, .long (0 : Int64)), (0, .ref (ad 0)), (1, .int u1)]) hx hb dX4_joined_35 rfl hl (by decide) rfl (fun ls hl => ?_)
        refine lv_iconst (v := 1) hx hb dX4_joined_36 (by decide) ?_
        refine lv_istore (lv' := [(4, .int (1 : Int32)), (2, .long (0 : Int64)), (0, .ref (ad 0)), (1, .int u1)]) hx hb dX4_joined_37 hl (by decide) rfl (fun ls hl => ?_)
        refine w_39 u1 _ ?_ _ (0 : Int64) (1 : Int32) ls hf (lv_sub hl [2, 3, 1, 0] rfl)
        · intro y9 ls hf hl
          refine lv_lload_n hx hb dX4_joined_72 rfl (lv_at hl 0 rfl) ?_
          exact pretL hx hb hr hlk hf dX4_joined_73
    · have hf := (if_neg h).symm.trans hf
      refine lv_ldc2 hx hb hown (hts _ q552) dX4_joined_9 ?_
      exact pretL hx hb hr hlk hf dX4_joined_12

abbrev rmX4_hollow : Room := { frames := 5, cells := 0, slots := 0, locals := 131 }
theorem miX4_hollow : miV yX4_hollow cX4_hollow 4 (some .long) 1 := ⟨q559, q40, q557, q558, by decide +kernel⟩
set_option maxHeartbeats 4000000 in
set_option maxRecDepth 100000 in
theorem mtX4_hollow (l : Launch) (D : va_G) (cy : Nat → ClassId) (z : zT) (ad : Nat → Nat) (S : tH) (u1 : Int32) (r0 : Int64) (hf : fX4_hollow S u1 = some r0) : pmet l yX4_hollow cX4_hollow 4 (some .long) rmX4_hollow D cy z (wH cy ad S) [.ref (ad 0), .int u1] (some (.long r0)) := by
  refine pmet_of (by decide +kernel) (Nat.le_of_ble_eq_true rfl) (fun p e s m below meth c hx hb hr hml hown hts hlk hP hKK ls hl => ?_)
  have hS : va_S noF s.heap s.heap [] := va_S.rf
  have hA0 : ∀ q, noF q → zA z q := fun _ h => h.elim
  have hown : s.vm.findClass "HillSight" = some m.cls := hown
  have hl : lv_has ls 4 [(0, .ref (ad 0)), (1, .int u1)] := hl
  unfold fX4_hollow at hf
  refine lv_iload_n hx hb dX4_hollow_0 rfl (lv_at hl 1 rfl) ?_
  refine lv_if_lt (tgt := 10) hx hb dX4_hollow_1 (by decide) (fun h => ?_) (fun h => ?_)
  · have hf := (if_pos h).symm.trans hf
    refine lv_ldc2 hx hb hown (hts _ q543) dX4_hollow_10 ?_
    exact pretL hx hb hr hlk hf dX4_hollow_13
  · have hf := (if_neg h).symm.trans hf
    refine lv_iload_n hx hb dX4_hollow_4 rfl (lv_at hl 1 rfl) ?_
    refine lv_bipush (v := 36) hx hb dX4_hollow_5 (by decide) ?_
    refine lv_icmp_lt (tgt := 14) hx hb dX4_hollow_7 (by decide) (fun h => ?_) (fun h => ?_)
    · have hf := (if_pos h).symm.trans hf
      refine lv_aload_n hx hb dX4_hollow_14 rfl (lv_at hl 0 rfl) ?_
      refine va_get (D := D) (ci := 4) (v := .ref (ad 1)) (C := RX4) (T := TX4) (N := 10) hx hb hts inX4 hown hKK.1 hP 0 rfl rfl 0 (by decide) (hts _ q170) (fun _ h => h) rfl dX4_hollow_15 ?_
      refine lv_iload_n hx hb dX4_hollow_18 rfl (lv_at hl 1 rfl) ?_
      refine lv_aload_n hx hb dX4_hollow_19 rfl (lv_at hl 0 rfl) ?_
      refine va_get (D := D) (ci := 4) (v := .ref (ad 1)) (C := RX4) (T := TX4) (N := 10) hx hb hts inX4 hown hKK.1 hP 0 rfl rfl 0 (by decide) (hts _ q170) (fun _ h => h) rfl dX4_hollow_20 ?_
      obtain ⟨r2, hc1, hf⟩ := bd_some hf
      have hP1 := hP.sub (ws' := wL cy (ad 1) (ad 2) (ad 3) (ad 4) (ad 5) S.1) [1, 2, 3, 4, 5] rfl
      refine pCallVL ⟨hx, hb, hml, hown, hts⟩ (mtX1_hiddenSet l D cy z (ad 1) (ad 2) (ad 3) (ad 4) (ad 5) S.1 r2 hc1) miX1_hiddenSet q379 ⟨Nat.le_of_ble_eq_true rfl, Nat.le_of_ble_eq_true rfl⟩ ⟨rfl, rfl⟩ hP1 hKK hS hA0 (va_recv hKK.1 hP1 (ci := 1) (q0 := 0) rfl rfl) rfl hl.1 rfl (Nat.le_of_ble_eq_true rfl) dX4_hollow_23 ⟨Nat.zero_le _, Nat.zero_le _⟩ ?_
      obtain ⟨r4, hc3, hf⟩ := bd_some hf
      have hP1 := hP.sub (ws' := wL cy (ad 1) (ad 2) (ad 3) (ad 4) (ad 5) S.1) [1, 2, 3, 4, 5] rfl
      refine pCallVL ⟨hx, hb, hml, hown, hts⟩ (mtX1_regionNumbered l D cy z (ad 1) (ad 2) (ad 3) (ad 4) (ad 5) S.1 u1 r2 r4 hc3) miX1_regionNumbered q560 ⟨Nat.le_of_ble_eq_true rfl, Nat.le_of_ble_eq_true rfl⟩ ⟨rfl, rfl⟩ hP1 hKK hS hA0 (va_recv hKK.1 hP1 (ci := 1) (q0 := 0) rfl rfl) rfl hl.1 rfl (Nat.le_of_ble_eq_true rfl) dX4_hollow_26 ⟨Nat.zero_le _, Nat.zero_le _⟩ ?_
      refine lv_lstore_n (lv' := [(2, .long r4), (0, .ref (ad 0)), (1, .int u1)]) hx hb dX4_hollow_29 rfl hl (by decide) rfl (fun ls hl => ?_)
      refine lv_lload_n hx hb dX4_hollow_30 rfl (lv_at hl 0 rfl) ?_
      refine lv_lconst (v := 0) hx hb dX4_hollow_31 (by decide) ?_
      refine W.lcmp hx hb dX4_hollow_32 ?_
      refine lv_if_ne (tgt := 42) hx hb dX4_hollow_33 (by decide) (fun h => ?_) (fun h => ?_)
      · have hf := (if_neg h).symm.trans hf
        refine lv_lload_n hx hb dX4_hollow_42 rfl (lv_at hl 0 rfl) ?_
        exact pretL hx hb hr hlk hf dX4_hollow_43
      · have hf := (if_pos h).symm.trans hf
        refine lv_ldc2 hx hb hown (hts _ q543) dX4_hollow_36 ?_
        refine lv_goto (tgt := 43) hx hb dX4_hollow_39 (by decide) ?_
        exact pretL hx hb hr hlk hf dX4_hollow_43
    · have hf := (if_neg h).symm.trans hf
      refine lv_ldc2 hx hb hown (hts _ q543) dX4_hollow_10 ?_
      exact pretL hx hb hr hlk hf dX4_hollow_13

abbrev rmX4_last : Room := { frames := 3, cells := 0, slots := 0, locals := 83 }
theorem miX4_last : miV yX4_last cX4_last 9 (some .int) 2 := ⟨q567, q40, q565, q566, by decide +kernel⟩
set_option maxHeartbeats 4000000 in
set_option maxRecDepth 100000 in
theorem mtX4_last (l : Launch) (D : va_G) (cy : Nat → ClassId) (z : zT) (ad : Nat → Nat) (S : tH) (u1 : Int32) (u2 : Int32) (r0 : Int32) (hf : fX4_last S u1 u2 = some r0) : pmet l yX4_last cX4_last 9 (some .int) rmX4_last D cy z (wH cy ad S) [.ref (ad 0), .int u1, .int u2] (some (.int r0)) := by
  refine pmet_of (by decide +kernel) (Nat.le_of_ble_eq_true rfl) (fun p e s m below meth c hx hb hr hml hown hts hlk hP hKK ls hl => ?_)
  have hS : va_S noF s.heap s.heap [] := va_S.rf
  have hA0 : ∀ q, noF q → zA z q := fun _ h => h.elim
  have hown : s.vm.findClass "HillSight" = some m.cls := hown
  have hl : lv_has ls 9 [(0, .ref (ad 0)), (1, .int u1), (2, .int u2)] := hl
  have w_64 : ∀ (g1_64 : Int32) (g2_64 : Int32) (g3_64 : Int32) (k105 : Int32 → Option (Int32)) (hk105 : ∀ (v6_64 : Int32) (ls : Array Slot), k105 v6_64 = some r0 → lv_has ls 9 [(6, .int v6_64)] → W p l e rmX4_last s m ([.ref (ad 0), .int u1, .int u2] : List Value).toArray below meth c s.heap [] 0 0 (MQ below (pQ (some (.int r0))) ([.ref (ad 0), .int u1, .int u2] : List Value).toArray s 0 0 noF) (F0 m 105 ls [])) (k147 : Int32 → Option (Int32)) (hk147 : ∀ (v6_64 : Int32) (ls : Array Slot), k147 v6_64 = some r0 → lv_has ls 9 [(6, .int v6_64)] → W p l e rmX4_last s m ([.ref (ad 0), .int u1, .int u2] : List Value).toArray below meth c s.heap [] 0 0 (MQ below (pQ (some (.int r0))) ([.ref (ad 0), .int u1, .int u2] : List Value).toArray s 0 0 noF) (F0 m 147 ls [])) (n : Nat) (v4_64 : Int32) (v5_64 : Int32) (v6_64 : Int32) (v7_64 : Int32) (ls : Array Slot), fX4_last_64 S g1_64 g2_64 g3_64 k105 k147 n v4_64 v5_64 v6_64 v7_64 = some r0 → lv_has ls 9 [(0, .ref (ad 0)), (1, .int g1_64), (2, .int g2_64), (3, .int g3_64), (4, .int v4_64), (5, .int v5_64), (6, .int v6_64), (7, .int v7_64)] → W p l e rmX4_last s m ([.ref (ad 0), .int u1, .int u2] : List Value).toArray below meth c s.heap [] 0 0 (MQ below (pQ (some (.int r0))) ([.ref (ad 0), .int u1, .int u2] : List Value).toArray s 0 0 noF) (F0 m 64 ls []) := by
    intro g1_64 g2_64 g3_64 k105 hk105 k147 hk147 n
    induction n with
    | zero =>
      intro v4_64 v5_64 v6_64 v7_64 ls hf hl
      cases (show (none : Option (Int32)) = some r0 from hf)
    | succ n ih =>
      intro v4_64 v5_64 v6_64 v7_64 ls hf hl
      rw [fX4_last_64] at hf
      refine lv_iload hx hb dX4_last_64 (lv_at hl 7 rfl) ?_
      refine lv_bipush (v := 36) hx hb dX4_last_66 (by decide) ?_
      refine lv_icmp_ge (tgt := 147) hx hb dX4_last_68 (by decide) (fun h => ?_) (fun h => ?_)
      · have hf := (if_pos h).symm.trans hf
        exact hk147 v6_64 ls hf (lv_sub hl [6] rfl)
      · have hf := (if_neg h).symm.trans hf
        refine lv_iload hx hb dX4_last_71 (lv_at hl 4 rfl) ?_
        refine va_gets hx hb hKK.2.2.1 (hS.wid hA0) hown (hts _ q568) (fun _ h => h) dX4_last_73 ?_
        refine lv_iload_n hx hb dX4_last_76 rfl (lv_at hl 2 rfl) ?_
        obtain ⟨hg8, hf⟩ := gd_some hf
        refine va_ti hx hb hKK.2.2.2.1 (hS.wid hA0) (inb_in hg8) rfl dX4_last_77 ?_
        refine lv_iadd hx hb dX4_last_78 ?_
        refine nm_i hf (fun x9 hf => ?_)
        refine lv_istore (lv' := [(4, .int x9), (0, .ref (ad 0)), (1, .int g1_64), (2, .int g2_64), (3, .int g3_64), (5, .int v5_64), (6, .int v6_64), (7, .int v7_64)]) hx hb dX4_last_79 hl (by decide) rfl (fun ls hl => ?_)
        refine lv_iload hx hb dX4_last_81 (lv_at hl 5 rfl) ?_
        refine va_gets hx hb hKK.2.2.2.2.1 (hS.wid hA0) hown (hts _ q572) (fun _ h => h) dX4_last_83 ?_
        refine lv_iload_n hx hb dX4_last_86 rfl (lv_at hl 3 rfl) ?_
        obtain ⟨hg10, hf⟩ := gd_some hf
        refine va_ti hx hb hKK.2.2.2.2.2.1 (hS.wid hA0) (inb_in hg10) rfl dX4_last_87 ?_
        refine lv_iadd hx hb dX4_last_88 ?_
        refine nm_i hf (fun x11 hf => ?_)
        refine lv_istore (lv' := [(5, .int x11), (4, .int x9), (0, .ref (ad 0)), (1, .int g1_64), (2, .int g2_64), (3, .int g3_64), (6, .int v6_64), (7, .int v7_64)]) hx hb dX4_last_89 hl (by decide) rfl (fun ls hl => ?_)
        refine lv_aload_n hx hb dX4_last_91 rfl (lv_at hl 2 rfl) ?_
        refine va_get (D := D) (ci := 4) (v := .ref (ad 1)) (C := RX4) (T := TX4) (N := 10) hx hb hts inX4 hown hKK.1 hP 0 rfl rfl 0 (by decide) (hts _ q170) (fun _ h => h) rfl dX4_last_92 ?_
        refine lv_iload hx hb dX4_last_95 (lv_at hl 1 rfl) ?_
        refine lv_iload hx hb dX4_last_97 (lv_at hl 0 rfl) ?_
        obtain ⟨r13, hc12, hf⟩ := bd_some hf
        have hP1 := hP.sub (ws' := wL cy (ad 1) (ad 2) (ad 3) (ad 4) (ad 5) S.1) [1, 2, 3, 4, 5] rfl
        refine pCallVI ⟨hx, hb, hml, hown, hts⟩ (mtX1_isInside l D cy z (ad 1) (ad 2) (ad 3) (ad 4) (ad 5) S.1 x9 x11 r13 hc12) miX1_isInside q574 ⟨Nat.le_of_ble_eq_true rfl, Nat.le_of_ble_eq_true rfl⟩ ⟨rfl, rfl⟩ hP1 hKK hS hA0 (va_recv hKK.1 hP1 (ci := 1) (q0 := 0) rfl rfl) rfl hl.1 rfl (Nat.le_of_ble_eq_true rfl) dX4_last_99 ⟨Nat.zero_le _, Nat.zero_le _⟩ ?_
        refine lv_if_ne (tgt := 108) hx hb dX4_last_102 (by decide) (fun h => ?_) (fun h => ?_)
        · have hf := (if_neg h).symm.trans hf
          refine lv_iload hx hb dX4_last_108 (lv_at hl 0 rfl) ?_
          refine lv_aload_n hx hb dX4_last_110 rfl (lv_at hl 2 rfl) ?_
          refine va_get (D := D) (ci := 4) (v := .ref (ad 1)) (C := RX4) (T := TX4) (N := 10) hx hb hts inX4 hown hKK.1 hP 0 rfl rfl 0 (by decide) (hts _ q170) (fun _ h => h) rfl dX4_last_111 ?_
          refine va_get (D := D) (ci := 1) (v := .int S.1.1) (C := RX1) (T := TX1) (N := 7) hx hb hts inX1 hown hKK.1 hP 1 rfl rfl 0 (by decide) (hts _ q77) (fun _ h => h) rfl dX4_last_114 ?_
          refine lv_imul hx hb dX4_last_117 ?_
          refine lv_iload hx hb dX4_last_118 (lv_at hl 1 rfl) ?_
          refine lv_iadd hx hb dX4_last_120 ?_
          refine nm_i hf (fun x14 hf => ?_)
          refine lv_istore (lv' := [(8, .int x14), (5, .int x11), (4, .int x9), (0, .ref (ad 0)), (1, .int g1_64), (2, .int g2_64), (3, .int g3_64), (6, .int v6_64), (7, .int v7_64)]) hx hb dX4_last_121 hl (by decide) rfl (fun ls hl => ?_)
          refine lv_aload_n hx hb dX4_last_123 rfl (lv_at hl 3 rfl) ?_
          refine va_get (D := D) (ci := 4) (v := .ref (ad 1)) (C := RX4) (T := TX4) (N := 10) hx hb hts inX4 hown hKK.1 hP 0 rfl rfl 0 (by decide) (hts _ q170) (fun _ h => h) rfl dX4_last_124 ?_
          refine lv_iload_n hx hb dX4_last_127 rfl (lv_at hl 4 rfl) ?_
          refine lv_iload_n hx hb dX4_last_128 rfl (lv_at hl 6 rfl) ?_
          refine lv_iload hx hb dX4_last_129 (lv_at hl 0 rfl) ?_
          obtain ⟨r16, hc15, hf⟩ := bd_some hf
          have hP1 := hP.sub (ws' := wL cy (ad 1) (ad 2) (ad 3) (ad 4) (ad 5) S.1) [1, 2, 3, 4, 5] rfl
          refine pCallVI ⟨hx, hb, hml, hown, hts⟩ (mtX1_canSee l D cy z (ad 1) (ad 2) (ad 3) (ad 4) (ad 5) S.1 g1_64 g3_64 x14 r16 hc15) miX1_canSee q525 ⟨Nat.le_of_ble_eq_true rfl, Nat.le_of_ble_eq_true rfl⟩ ⟨rfl, rfl⟩ hP1 hKK hS hA0 (va_recv hKK.1 hP1 (ci := 1) (q0 := 0) rfl rfl) rfl hl.1 rfl (Nat.le_of_ble_eq_true rfl) dX4_last_131 ⟨Nat.zero_le _, Nat.zero_le _⟩ ?_
          refine lv_if_eq (tgt := 141) hx hb dX4_last_134 (by decide) (fun h => ?_) (fun h => ?_)
          · have hf := (if_pos h).symm.trans hf
            obtain ⟨x17, ex17, hf⟩ := nm_ex hf
            refine lv_iinc (v := x17) (lv' := [(7, .int x17), (8, .int x14), (5, .int x11), (4, .int x9), (0, .ref (ad 0)), (1, .int g1_64), (2, .int g2_64), (3, .int g3_64), (6, .int v6_64)]) hx hb dX4_last_141 hl (k := 8) rfl (Eq.trans rfl ex17) (by decide) rfl (fun ls hl => ?_)
            refine lv_goto (tgt := 64) hx hb dX4_last_144 (by decide) ?_
            exact ih x9 x11 v6_64 x17 ls hf (lv_sub hl [4, 5, 6, 7, 3, 2, 8, 0] rfl)
          · have hf := (if_neg h).symm.trans hf
            refine lv_iload hx hb dX4_last_137 (lv_at hl 0 rfl) ?_
            refine lv_istore (lv' := [(6, .int x14), (8, .int x14), (5, .int x11), (4, .int x9), (0, .ref (ad 0)), (1, .int g1_64), (2, .int g2_64), (3, .int g3_64), (7, .int v7_64)]) hx hb dX4_last_139 hl (by decide) rfl (fun ls hl => ?_)
            obtain ⟨x18, ex18, hf⟩ := nm_ex hf
            refine lv_iinc (v := x18) (lv' := [(7, .int x18), (6, .int x14), (8, .int x14), (5, .int x11), (4, .int x9), (0, .ref (ad 0)), (1, .int g1_64), (2, .int g2_64), (3, .int g3_64)]) hx hb dX4_last_141 hl (k := 8) rfl (Eq.trans rfl ex18) (by decide) rfl (fun ls hl => ?_)
            refine lv_goto (tgt := 64) hx hb dX4_last_144 (by decide) ?_
            exact ih x9 x11 x14 x18 ls hf (lv_sub hl [5, 6, 7, 8, 4, 3, 1, 0] rfl)
        · have hf := (if_pos h).symm.trans hf
          exact hk105 v6_64 ls hf (lv_sub hl [6] rfl)
  unfold fX4_last at hf
  refine lv_aload_n hx hb dX4_last_0 rfl (lv_at hl 0 rfl) ?_
  refine va_get (D := D) (ci := 4) (v := .ref (ad 1)) (C := RX4) (T := TX4) (N := 10) hx hb hts inX4 hown hKK.1 hP 0 rfl rfl 0 (by decide) (hts _ q170) (fun _ h => h) rfl dX4_last_1 ?_
  refine lv_iload_n hx hb dX4_last_4 rfl (lv_at hl 1 rfl) ?_
  obtain ⟨r2, hc1, hf⟩ := bd_some hf
  have hP1 := hP.sub (ws' := wL cy (ad 1) (ad 2) (ad 3) (ad 4) (ad 5) S.1) [1, 2, 3, 4, 5] rfl
  refine pCallVI ⟨hx, hb, hml, hown, hts⟩ (mtX1_hasCell l D cy z (ad 1) (ad 2) (ad 3) (ad 4) (ad 5) S.1 u1 r2 hc1) miX1_hasCell q438 ⟨Nat.le_of_ble_eq_true rfl, Nat.le_of_ble_eq_true rfl⟩ ⟨rfl, rfl⟩ hP1 hKK hS hA0 (va_recv hKK.1 hP1 (ci := 1) (q0 := 0) rfl rfl) rfl hl.1 rfl (Nat.le_of_ble_eq_true rfl) dX4_last_5 ⟨Nat.zero_le _, Nat.zero_le _⟩ ?_
  refine lv_if_ne (tgt := 13) hx hb dX4_last_8 (by decide) (fun h => ?_) (fun h => ?_)
  · have hf := (if_neg h).symm.trans hf
    refine lv_iload_n hx hb dX4_last_13 rfl (lv_at hl 2 rfl) ?_
    refine lv_if_lt (tgt := 25) hx hb dX4_last_14 (by decide) (fun h => ?_) (fun h => ?_)
    · have hf := (if_pos h).symm.trans hf
      refine lv_bipush (v := -2) hx hb dX4_last_25 (by decide) ?_
      exact pretI hx hb hr hlk hf dX4_last_27
    · have hf := (if_neg h).symm.trans hf
      refine lv_iload_n hx hb dX4_last_17 rfl (lv_at hl 2 rfl) ?_
      refine va_gets hx hb hKK.2.2.1 (hS.wid hA0) hown (hts _ q568) (fun _ h => h) dX4_last_18 ?_
      refine va_tlen hx hb hKK.2.2.2.1 (hS.wid hA0) (v := 8) (by decide) dX4_last_21 ?_
      refine lv_icmp_lt (tgt := 28) hx hb dX4_last_22 (by decide) (fun h => ?_) (fun h => ?_)
      · have hf := (if_pos h).symm.trans hf
        refine lv_aload_n hx hb dX4_last_28 rfl (lv_at hl 0 rfl) ?_
        refine va_get (D := D) (ci := 4) (v := .ref (ad 1)) (C := RX4) (T := TX4) (N := 10) hx hb hts inX4 hown hKK.1 hP 0 rfl rfl 0 (by decide) (hts _ q170) (fun _ h => h) rfl dX4_last_29 ?_
        refine va_get (D := D) (ci := 1) (v := .ref (ad 5)) (C := RX1) (T := TX1) (N := 7) hx hb hts inX1 hown hKK.1 hP 1 rfl rfl 6 (by decide) (hts _ q90) (fun _ h => h) rfl dX4_last_32 ?_
        refine lv_iconst (v := 0) hx hb dX4_last_35 (by decide) ?_
        refine va_iald hx hb hKK.1 hP 5 0 rfl rfl (inb_in (by decide)) dX4_last_36 ?_
        refine nm_i hf (fun x3 hf => ?_)
        refine lv_istore_n (lv' := [(3, .int x3), (0, .ref (ad 0)), (1, .int u1), (2, .int u2)]) hx hb dX4_last_37 rfl hl (by decide) rfl (fun ls hl => ?_)
        refine lv_aload_n hx hb dX4_last_38 rfl (lv_at hl 1 rfl) ?_
        refine va_get (D := D) (ci := 4) (v := .ref (ad 1)) (C := RX4) (T := TX4) (N := 10) hx hb hts inX4 hown hKK.1 hP 0 rfl rfl 0 (by decide) (hts _ q170) (fun _ h => h) rfl dX4_last_39 ?_
        refine lv_iload_n hx hb dX4_last_42 rfl (lv_at hl 2 rfl) ?_
        obtain ⟨r5, hc4, hf⟩ := bd_some hf
        have hP1 := hP.sub (ws' := wL cy (ad 1) (ad 2) (ad 3) (ad 4) (ad 5) S.1) [1, 2, 3, 4, 5] rfl
        refine pCallVI ⟨hx, hb, hml, hown, hts⟩ (mtX1_columnOf l D cy z (ad 1) (ad 2) (ad 3) (ad 4) (ad 5) S.1 u1 r5 hc4) miX1_columnOf q570 ⟨Nat.le_of_ble_eq_true rfl, Nat.le_of_ble_eq_true rfl⟩ ⟨rfl, rfl⟩ hP1 hKK hS hA0 (va_recv hKK.1 hP1 (ci := 1) (q0 := 0) rfl rfl) rfl hl.1 rfl (Nat.le_of_ble_eq_true rfl) dX4_last_43 ⟨Nat.zero_le _, Nat.zero_le _⟩ ?_
        refine lv_istore (lv' := [(4, .int r5), (3, .int x3), (0, .ref (ad 0)), (1, .int u1), (2, .int u2)]) hx hb dX4_last_46 hl (by decide) rfl (fun ls hl => ?_)
        refine lv_aload_n hx hb dX4_last_48 rfl (lv_at hl 2 rfl) ?_
        refine va_get (D := D) (ci := 4) (v := .ref (ad 1)) (C := RX4) (T := TX4) (N := 10) hx hb hts inX4 hown hKK.1 hP 0 rfl rfl 0 (by decide) (hts _ q170) (fun _ h => h) rfl dX4_last_49 ?_
        refine lv_iload_n hx hb dX4_last_52 rfl (lv_at hl 3 rfl) ?_
        obtain ⟨r7, hc6, hf⟩ := bd_some hf
        have hP1 := hP.sub (ws' := wL cy (ad 1) (ad 2) (ad 3) (ad 4) (ad 5) S.1) [1, 2, 3, 4, 5] rfl
        refine pCallVI ⟨hx, hb, hml, hown, hts⟩ (mtX1_rowOf l D cy z (ad 1) (ad 2) (ad 3) (ad 4) (ad 5) S.1 u1 r7 hc6) miX1_rowOf q571 ⟨Nat.le_of_ble_eq_true rfl, Nat.le_of_ble_eq_true rfl⟩ ⟨rfl, rfl⟩ hP1 hKK hS hA0 (va_recv hKK.1 hP1 (ci := 1) (q0 := 0) rfl rfl) rfl hl.1 rfl (Nat.le_of_ble_eq_true rfl) dX4_last_53 ⟨Nat.zero_le _, Nat.zero_le _⟩ ?_
        refine lv_istore (lv' := [(5, .int r7), (4, .int r5), (3, .int x3), (0, .ref (ad 0)), (1, .int u1), (2, .int u2)]) hx hb dX4_last_56 hl (by decide) rfl (fun ls hl => ?_)
        refine lv_iload_n hx hb dX4_last_58 rfl (lv_at hl 4 rfl) ?_
        refine lv_istore (lv' := [(6, .int u1), (5, .int r7), (4, .int r5), (3, .int x3), (0, .ref (ad 0)), (1, .int u1), (2, .int u2)]) hx hb dX4_last_59 hl (by decide) rfl (fun ls hl => ?_)
        refine lv_iconst (v := 0) hx hb dX4_last_61 (by decide) ?_
        refine lv_istore (lv' := [(7, .int (0 : Int32)), (6, .int u1), (5, .int r7), (4, .int r5), (3, .int x3), (0, .ref (ad 0)), (1, .int u1), (2, .int u2)]) hx hb dX4_last_62 hl (by decide) rfl (fun ls hl => ?_)
        refine w_64 u1 u2 x3 _ ?_ _ ?_ _ r5 r7 u1 (0 : Int32) ls hf (lv_sub hl [5, 6, 7, 4, 3, 2, 1, 0] rfl)
        · intro y19 ls hf hl
          refine lv_goto (tgt := 147) hx hb dX4_last_105 (by decide) ?_
          refine lv_iload hx hb dX4_last_147 (lv_at hl 0 rfl) ?_
          exact pretI hx hb hr hlk hf dX4_last_149
        · intro y20 ls hf hl
          refine lv_iload hx hb dX4_last_147 (lv_at hl 0 rfl) ?_
          exact pretI hx hb hr hlk hf dX4_last_149
      · have hf := (if_neg h).symm.trans hf
        refine lv_bipush (v := -2) hx hb dX4_last_25 (by decide) ?_
        exact pretI hx hb hr hlk hf dX4_last_27
  · have hf := (if_pos h).symm.trans hf
    refine lv_iconst (v := -1) hx hb dX4_last_11 (by decide) ?_
    exact pretI hx hb hr hlk hf dX4_last_12

abbrev rmX4_best : Room := { frames := 5, cells := 0, slots := 0, locals := 131 }
theorem miX4_best : miV yX4_best cX4_best 9 (some .int) 2 := ⟨q581, q40, q579, q580, by decide +kernel⟩
set_option maxHeartbeats 4000000 in
set_option maxRecDepth 100000 in
theorem mtX4_best (l : Launch) (D : va_G) (cy : Nat → ClassId) (z : zT) (ad : Nat → Nat) (S : tH) (u1 : Int32) (u2 : Int32) (r0 : Int32) (hf : fX4_best S u1 u2 = some r0) : pmet l yX4_best cX4_best 9 (some .int) rmX4_best D cy z (wH cy ad S) [.ref (ad 0), .int u1, .int u2] (some (.int r0)) := by
  refine pmet_of (by decide +kernel) (Nat.le_of_ble_eq_true rfl) (fun p e s m below meth c hx hb hr hml hown hts hlk hP hKK ls hl => ?_)
  have hS : va_S noF s.heap s.heap [] := va_S.rf
  have hA0 : ∀ q, noF q → zA z q := fun _ h => h.elim
  have hown : s.vm.findClass "HillSight" = some m.cls := hown
  have hl : lv_has ls 9 [(0, .ref (ad 0)), (1, .int u1), (2, .int u2)] := hl
  have w_37 : ∀ (g1_37 : Int32) (g2_37 : Int32) (g3_37 : Int64) (k91 : Int32 → Int32 → Option (Int32)) (hk91 : ∀ (v5_37 : Int32) (v6_37 : Int32) (ls : Array Slot), k91 v5_37 v6_37 = some r0 → lv_has ls 9 [(2, .int g2_37), (5, .int v5_37), (6, .int v6_37)] → W p l e rmX4_best s m ([.ref (ad 0), .int u1, .int u2] : List Value).toArray below meth c s.heap [] 0 0 (MQ below (pQ (some (.int r0))) ([.ref (ad 0), .int u1, .int u2] : List Value).toArray s 0 0 noF) (F0 m 91 ls [])) (n : Nat) (v5_37 : Int32) (v6_37 : Int32) (v7_37 : Int32) (ls : Array Slot), fX4_best_37 S g1_37 g2_37 g3_37 k91 n v5_37 v6_37 v7_37 = some r0 → lv_has ls 9 [(0, .ref (ad 0)), (1, .int g1_37), (2, .int g2_37), (3, .long g3_37), (5, .int v5_37), (6, .int v6_37), (7, .int v7_37)] → W p l e rmX4_best s m ([.ref (ad 0), .int u1, .int u2] : List Value).toArray below meth c s.heap [] 0 0 (MQ below (pQ (some (.int r0))) ([.ref (ad 0), .int u1, .int u2] : List Value).toArray s 0 0 noF) (F0 m 37 ls []) := by
    intro g1_37 g2_37 g3_37 k91 hk91 n
    induction n with
    | zero =>
      intro v5_37 v6_37 v7_37 ls hf hl
      cases (show (none : Option (Int32)) = some r0 from hf)
    | succ n ih =>
      intro v5_37 v6_37 v7_37 ls hf hl
      rw [fX4_best_37] at hf
      refine lv_iload hx hb dX4_best_37 (lv_at hl 6 rfl) ?_
      refine lv_aload_n hx hb dX4_best_39 rfl (lv_at hl 0 rfl) ?_
      refine va_get (D := D) (ci := 4) (v := .ref (ad 1)) (C := RX4) (T := TX4) (N := 10) hx hb hts inX4 hown hKK.1 hP 0 rfl rfl 0 (by decide) (hts _ q170) (fun _ h => h) rfl dX4_best_40 ?_
      obtain ⟨r6, hc5, hf⟩ := bd_some hf
      have hP1 := hP.sub (ws' := wL cy (ad 1) (ad 2) (ad 3) (ad 4) (ad 5) S.1) [1, 2, 3, 4, 5] rfl
      refine pCallVI ⟨hx, hb, hml, hown, hts⟩ (mtX1_cellCount l D cy z (ad 1) (ad 2) (ad 3) (ad 4) (ad 5) S.1 r6 hc5) miX1_cellCount q374 ⟨Nat.le_of_ble_eq_true rfl, Nat.le_of_ble_eq_true rfl⟩ ⟨rfl, rfl⟩ hP1 hKK hS hA0 (va_recv hKK.1 hP1 (ci := 1) (q0 := 0) rfl rfl) rfl hl.1 rfl (Nat.le_of_ble_eq_true rfl) dX4_best_43 ⟨Nat.zero_le _, Nat.zero_le _⟩ ?_
      refine lv_icmp_ge (tgt := 91) hx hb dX4_best_46 (by decide) (fun h => ?_) (fun h => ?_)
      · have hf := (if_pos h).symm.trans hf
        exact hk91 v5_37 v6_37 ls hf (lv_sub hl [2, 4, 5] rfl)
      · have hf := (if_neg h).symm.trans hf
        refine lv_lload_n hx hb dX4_best_49 rfl (lv_at hl 3 rfl) ?_
        refine lv_aload_n hx hb dX4_best_50 rfl (lv_at hl 0 rfl) ?_
        refine va_get (D := D) (ci := 4) (v := .ref (ad 1)) (C := RX4) (T := TX4) (N := 10) hx hb hts inX4 hown hKK.1 hP 0 rfl rfl 0 (by decide) (hts _ q170) (fun _ h => h) rfl dX4_best_51 ?_
        refine lv_iload hx hb dX4_best_54 (lv_at hl 6 rfl) ?_
        refine lv_iload_n hx hb dX4_best_56 rfl (lv_at hl 1 rfl) ?_
        obtain ⟨r8, hc7, hf⟩ := bd_some hf
        have hP1 := hP.sub (ws' := wL cy (ad 1) (ad 2) (ad 3) (ad 4) (ad 5) S.1) [1, 2, 3, 4, 5] rfl
        refine pCallVL ⟨hx, hb, hml, hown, hts⟩ (mtX1_viewFrom l D cy z (ad 1) (ad 2) (ad 3) (ad 4) (ad 5) S.1 v7_37 g1_37 r8 hc7) miX1_viewFrom q448 ⟨Nat.le_of_ble_eq_true rfl, Nat.le_of_ble_eq_true rfl⟩ ⟨rfl, rfl⟩ hP1 hKK hS hA0 (va_recv hKK.1 hP1 (ci := 1) (q0 := 0) rfl rfl) rfl hl.1 rfl (Nat.le_of_ble_eq_true rfl) dX4_best_57 ⟨Nat.zero_le _, Nat.zero_le _⟩ ?_
        refine lv_ldc2 hx hb hown (hts _ q543) dX4_best_60 ?_
        refine lv_lxor hx hb dX4_best_63 ?_
        refine lv_land hx hb dX4_best_64 ?_
        obtain ⟨r10, hc9, hf⟩ := bd_some hf
        have hP1 := hP.sub (ws' := []) [] rfl
        refine pCallSI ⟨hx, hb, hml, hown, hts⟩ (mtJ13_bitCount_95d88 l D cy z (g3_37 &&& (r8 ^^^ (-1 : Int64))) r10 hc9) miJ13_bitCount_95d88 q420 ⟨Nat.le_of_ble_eq_true rfl, Nat.le_of_ble_eq_true rfl⟩ ⟨rfl, rfl⟩ hP1 hKK hS hA0 rfl hl.1 rfl (Nat.le_of_ble_eq_true rfl) dX4_best_65 ⟨Nat.zero_le _, Nat.zero_le _⟩ ?_
        refine lv_istore (lv' := [(8, .int r10), (0, .ref (ad 0)), (1, .int g1_37), (2, .int g2_37), (3, .long g3_37), (5, .int v5_37), (6, .int v6_37), (7, .int v7_37)]) hx hb dX4_best_68 hl (by decide) rfl (fun ls hl => ?_)
        refine lv_iload hx hb dX4_best_70 (lv_at hl 0 rfl) ?_
        refine lv_iload hx hb dX4_best_72 (lv_at hl 6 rfl) ?_
        refine lv_icmp_ge (tgt := 85) hx hb dX4_best_74 (by decide) (fun h => ?_) (fun h => ?_)
        · have hf := (if_pos h).symm.trans hf
          obtain ⟨x11, ex11, hf⟩ := nm_ex hf
          refine lv_iinc (v := x11) (lv' := [(7, .int x11), (8, .int r10), (0, .ref (ad 0)), (1, .int g1_37), (2, .int g2_37), (3, .long g3_37), (5, .int v5_37), (6, .int v6_37)]) hx hb dX4_best_85 hl (k := 7) rfl (Eq.trans rfl ex11) (by decide) rfl (fun ls hl => ?_)
          refine lv_goto (tgt := 37) hx hb dX4_best_88 (by decide) ?_
          exact ih v5_37 v6_37 x11 ls hf (lv_sub hl [2, 3, 4, 5, 6, 7, 0] rfl)
        · have hf := (if_neg h).symm.trans hf
          refine lv_iload hx hb dX4_best_77 (lv_at hl 0 rfl) ?_
          refine lv_istore (lv' := [(6, .int r10), (8, .int r10), (0, .ref (ad 0)), (1, .int g1_37), (2, .int g2_37), (3, .long g3_37), (5, .int v5_37), (7, .int v7_37)]) hx hb dX4_best_79 hl (by decide) rfl (fun ls hl => ?_)
          refine lv_iload hx hb dX4_best_81 (lv_at hl 7 rfl) ?_
          refine lv_istore (lv' := [(5, .int v7_37), (6, .int r10), (8, .int r10), (0, .ref (ad 0)), (1, .int g1_37), (2, .int g2_37), (3, .long g3_37), (7, .int v7_37)]) hx hb dX4_best_83 hl (by decide) rfl (fun ls hl => ?_)
          obtain ⟨x12, ex12, hf⟩ := nm_ex hf
          refine lv_iinc (v := x12) (lv' := [(7, .int x12), (5, .int v7_37), (6, .int r10), (8, .int r10), (0, .ref (ad 0)), (1, .int g1_37), (2, .int g2_37), (3, .long g3_37)]) hx hb dX4_best_85 hl (k := 7) rfl (Eq.trans rfl ex12) (by decide) rfl (fun ls hl => ?_)
          refine lv_goto (tgt := 37) hx hb dX4_best_88 (by decide) ?_
          exact ih v7_37 r10 x12 ls hf (lv_sub hl [4, 5, 6, 7, 1, 2, 0] rfl)
  unfold fX4_best at hf
  refine lv_iload_n hx hb dX4_best_0 rfl (lv_at hl 1 rfl) ?_
  obtain ⟨r2, hc1, hf⟩ := bd_some hf
  have hP1 := hP.sub (ws' := []) [] rfl
  refine pCallSI ⟨hx, hb, hml, hown, hts⟩ (mtX4_isDigit l D cy z u1 r2 hc1) miX4_isDigit q478 ⟨Nat.le_of_ble_eq_true rfl, Nat.le_of_ble_eq_true rfl⟩ ⟨rfl, rfl⟩ hP1 hKK hS hA0 rfl hl.1 rfl (Nat.le_of_ble_eq_true rfl) dX4_best_1 ⟨Nat.zero_le _, Nat.zero_le _⟩ ?_
  refine lv_if_eq (tgt := 16) hx hb dX4_best_4 (by decide) (fun h => ?_) (fun h => ?_)
  · have hf := (if_pos h).symm.trans hf
    refine lv_bipush (v := -2) hx hb dX4_best_16 (by decide) ?_
    exact pretI hx hb hr hlk hf dX4_best_18
  · have hf := (if_neg h).symm.trans hf
    refine lv_iload_n hx hb dX4_best_7 rfl (lv_at hl 2 rfl) ?_
    refine lv_if_lt (tgt := 16) hx hb dX4_best_8 (by decide) (fun h => ?_) (fun h => ?_)
    · have hf := (if_pos h).symm.trans hf
      refine lv_bipush (v := -2) hx hb dX4_best_16 (by decide) ?_
      exact pretI hx hb hr hlk hf dX4_best_18
    · have hf := (if_neg h).symm.trans hf
      refine lv_iload_n hx hb dX4_best_11 rfl (lv_at hl 2 rfl) ?_
      refine lv_iconst (v := 1) hx hb dX4_best_12 (by decide) ?_
      refine lv_icmp_le (tgt := 19) hx hb dX4_best_13 (by decide) (fun h => ?_) (fun h => ?_)
      · have hf := (if_pos h).symm.trans hf
        refine lv_aload_n hx hb dX4_best_19 rfl (lv_at hl 0 rfl) ?_
        refine va_get (D := D) (ci := 4) (v := .ref (ad 1)) (C := RX4) (T := TX4) (N := 10) hx hb hts inX4 hown hKK.1 hP 0 rfl rfl 0 (by decide) (hts _ q170) (fun _ h => h) rfl dX4_best_20 ?_
        obtain ⟨r4, hc3, hf⟩ := bd_some hf
        have hP1 := hP.sub (ws' := wL cy (ad 1) (ad 2) (ad 3) (ad 4) (ad 5) S.1) [1, 2, 3, 4, 5] rfl
        refine pCallVL ⟨hx, hb, hml, hown, hts⟩ (mtX1_hiddenSet l D cy z (ad 1) (ad 2) (ad 3) (ad 4) (ad 5) S.1 r4 hc3) miX1_hiddenSet q379 ⟨Nat.le_of_ble_eq_true rfl, Nat.le_of_ble_eq_true rfl⟩ ⟨rfl, rfl⟩ hP1 hKK hS hA0 (va_recv hKK.1 hP1 (ci := 1) (q0 := 0) rfl rfl) rfl hl.1 rfl (Nat.le_of_ble_eq_true rfl) dX4_best_23 ⟨Nat.zero_le _, Nat.zero_le _⟩ ?_
        refine lv_lstore_n (lv' := [(3, .long r4), (0, .ref (ad 0)), (1, .int u1), (2, .int u2)]) hx hb dX4_best_26 rfl hl (by decide) rfl (fun ls hl => ?_)
        refine lv_iconst (v := 0) hx hb dX4_best_27 (by decide) ?_
        refine lv_istore (lv' := [(5, .int (0 : Int32)), (3, .long r4), (0, .ref (ad 0)), (1, .int u1), (2, .int u2)]) hx hb dX4_best_28 hl (by decide) rfl (fun ls hl => ?_)
        refine lv_bipush (v := 37) hx hb dX4_best_30 (by decide) ?_
        refine lv_istore (lv' := [(6, .int (37 : Int32)), (5, .int (0 : Int32)), (3, .long r4), (0, .ref (ad 0)), (1, .int u1), (2, .int u2)]) hx hb dX4_best_32 hl (by decide) rfl (fun ls hl => ?_)
        refine lv_iconst (v := 0) hx hb dX4_best_34 (by decide) ?_
        refine lv_istore (lv' := [(7, .int (0 : Int32)), (6, .int (37 : Int32)), (5, .int (0 : Int32)), (3, .long r4), (0, .ref (ad 0)), (1, .int u1), (2, .int u2)]) hx hb dX4_best_35 hl (by decide) rfl (fun ls hl => ?_)
        refine w_37 u1 u2 r4 _ ?_ _ (0 : Int32) (37 : Int32) (0 : Int32) ls hf (lv_sub hl [4, 5, 6, 3, 2, 1, 0] rfl)
        · intro y13 y14 ls hf hl
          refine lv_iload_n hx hb dX4_best_91 rfl (lv_at hl 0 rfl) ?_
          refine lv_if_ne (tgt := 100) hx hb dX4_best_92 (by decide) (fun h => ?_) (fun h => ?_)
          · have hf := (if_neg h).symm.trans hf
            refine lv_iload hx hb dX4_best_100 (lv_at hl 2 rfl) ?_
            exact pretI hx hb hr hlk hf dX4_best_102
          · have hf := (if_pos h).symm.trans hf
            refine lv_iload hx hb dX4_best_95 (lv_at hl 1 rfl) ?_
            refine lv_goto (tgt := 102) hx hb dX4_best_97 (by decide) ?_
            exact pretI hx hb hr hlk hf dX4_best_102
      · have hf := (if_neg h).symm.trans hf
        refine lv_bipush (v := -2) hx hb dX4_best_16 (by decide) ?_
        exact pretI hx hb hr hlk hf dX4_best_18

abbrev rmX4_two : Room := { frames := 5, cells := 0, slots := 0, locals := 131 }
theorem miX4_two : miV yX4_two cX4_two 12 (some .int) 2 := ⟨q585, q40, q583, q584, by decide +kernel⟩
set_option maxHeartbeats 4000000 in
set_option maxRecDepth 100000 in
theorem mtX4_two (l : Launch) (D : va_G) (cy : Nat → ClassId) (z : zT) (ad : Nat → Nat) (S : tH) (u1 : Int32) (u2 : Int32) (r0 : Int32) (S0 : tH) (hf : fX4_two S u1 u2 = some (r0, S0)) : mmet l yX4_two cX4_two 12 (some .int) rmX4_two D cy z (wH cy ad S) (wH cy ad S0) [.ref (ad 0), .int u1, .int u2] (some (.int r0)) := by
  refine mmet_of (by decide +kernel) (Nat.le_of_ble_eq_true rfl) (fun p e s m below meth c hx hb hr hml hown hts hlk hP hD hS hA0 hKK ls hl => ?_)
  have hown : s.vm.findClass "HillSight" = some m.cls := hown
  have hl : lv_has ls 12 [(0, .ref (ad 0)), (1, .int u1), (2, .int u2)] := hl
  have w_73 : ∀ (S_73 : tH) (g2_73 : Int32) (g3_73 : Int64) (g5_73 : Int32) (g9_73 : Int32) (k131 : Int32 → Int32 → Int32 → Option (Int32 × tH)) (hk131 : ∀ (v6_73 : Int32) (v7_73 : Int32) (v8_73 : Int32) (H : Heap) (locs : List Loc) (ls : Array Slot), k131 v6_73 v7_73 v8_73 = some (r0, S0) → va_P D vwCl (wH cy ad S_73) H → va_D (adr (wH cy ad S)) (wH cy ad S_73) → va_S (adr (wH cy ad S)) s.heap H locs → lv_has ls 12 [(0, .ref (ad 0)), (2, .int g2_73), (3, .long g3_73), (5, .int g5_73), (6, .int v6_73), (7, .int v7_73), (8, .int v8_73), (9, .int g9_73)] → W p l e rmX4_two s m ([.ref (ad 0), .int u1, .int u2] : List Value).toArray below meth c H locs 0 0 (MQ below (mQ D (wH cy ad S) (wH cy ad S0) (some (.int r0))) ([.ref (ad 0), .int u1, .int u2] : List Value).toArray s 0 0 (adr (wH cy ad S))) (F0 m 131 ls [])) (n : Nat) (v6_73 : Int32) (v7_73 : Int32) (v8_73 : Int32) (v10_73 : Int32) (H : Heap) (locs : List Loc) (ls : Array Slot), fX4_two_73 S_73 g2_73 g3_73 g5_73 g9_73 k131 n v6_73 v7_73 v8_73 v10_73 = some (r0, S0) → va_P D vwCl (wH cy ad S_73) H → va_D (adr (wH cy ad S)) (wH cy ad S_73) → va_S (adr (wH cy ad S)) s.heap H locs → lv_has ls 12 [(0, .ref (ad 0)), (2, .int g2_73), (3, .long g3_73), (5, .int g5_73), (6, .int v6_73), (7, .int v7_73), (8, .int v8_73), (9, .int g9_73), (10, .int v10_73)] → W p l e rmX4_two s m ([.ref (ad 0), .int u1, .int u2] : List Value).toArray below meth c H locs 0 0 (MQ below (mQ D (wH cy ad S) (wH cy ad S0) (some (.int r0))) ([.ref (ad 0), .int u1, .int u2] : List Value).toArray s 0 0 (adr (wH cy ad S))) (F0 m 73 ls []) := by
    intro S_73 g2_73 g3_73 g5_73 g9_73 k131 hk131 n
    induction n with
    | zero =>
      intro v6_73 v7_73 v8_73 v10_73 H locs ls hf hP hD hS hl
      cases (show (none : Option (Int32 × tH)) = some (r0, S0) from hf)
    | succ n ih =>
      intro v6_73 v7_73 v8_73 v10_73 H locs ls hf hP hD hS hl
      rw [fX4_two_73] at hf
      refine lv_iload hx hb dX4_two_73 (lv_at hl 8 rfl) ?_
      refine lv_iload hx hb dX4_two_75 (lv_at hl 3 rfl) ?_
      refine lv_icmp_ge (tgt := 131) hx hb dX4_two_77 (by decide) (fun h => ?_) (fun h => ?_)
      · have hf := (if_pos h).symm.trans hf
        exact hk131 v6_73 v7_73 v8_73 _ _ ls hf hP hD hS (lv_sub hl [0, 1, 2, 3, 4, 5, 6, 7] rfl)
      · have hf := (if_neg h).symm.trans hf
        refine lv_lload_n hx hb dX4_two_80 rfl (lv_at hl 2 rfl) ?_
        refine lv_aload_n hx hb dX4_two_81 rfl (lv_at hl 0 rfl) ?_
        refine va_get (D := D) (ci := 4) (v := .ref (ad 31)) (C := RX4) (T := TX4) (N := 10) hx hb hts inX4 hown hKK.1 hP 0 rfl rfl 8 (by decide) (hts _ q178) (fun _ h => h) rfl dX4_two_82 ?_
        refine lv_iload hx hb dX4_two_85 (lv_at hl 7 rfl) ?_
        obtain ⟨hg10, hf⟩ := gd_some hf
        refine va_lald hx hb hKK.1 hP 31 1 rfl rfl (inb_in hg10) dX4_two_87 ?_
        refine lv_aload_n hx hb dX4_two_88 rfl (lv_at hl 0 rfl) ?_
        refine va_get (D := D) (ci := 4) (v := .ref (ad 31)) (C := RX4) (T := TX4) (N := 10) hx hb hts inX4 hown hKK.1 hP 0 rfl rfl 8 (by decide) (hts _ q178) (fun _ h => h) rfl dX4_two_89 ?_
        refine lv_iload hx hb dX4_two_92 (lv_at hl 8 rfl) ?_
        obtain ⟨hg11, hf⟩ := gd_some hf
        refine va_lald hx hb hKK.1 hP 31 1 rfl rfl (inb_in hg11) dX4_two_94 ?_
        refine lv_lor hx hb dX4_two_95 ?_
        refine lv_ldc2 hx hb hown (hts _ q543) dX4_two_96 ?_
        refine lv_lxor hx hb dX4_two_99 ?_
        refine lv_land hx hb dX4_two_100 ?_
        obtain ⟨r13, hc12, hf⟩ := bd_some hf
        have hP1 := hP.sub (ws' := []) [] rfl
        refine pCallSI ⟨hx, hb, hml, hown, hts⟩ (mtJ13_bitCount_95d88 l D cy z (g3_73 &&& (((S_73.2.2.2.2.2.2.2.2.1 g9_73.toNatClampNeg) ||| (S_73.2.2.2.2.2.2.2.2.1 v10_73.toNatClampNeg)) ^^^ (-1 : Int64))) r13 hc12) miJ13_bitCount_95d88 q420 ⟨Nat.le_of_ble_eq_true rfl, Nat.le_of_ble_eq_true rfl⟩ ⟨rfl, rfl⟩ hP1 hKK hS hA0 rfl hl.1 rfl (Nat.le_of_ble_eq_true rfl) dX4_two_101 ⟨Nat.zero_le _, Nat.zero_le _⟩ ?_
        refine lv_istore (lv' := [(11, .int r13), (0, .ref (ad 0)), (2, .int g2_73), (3, .long g3_73), (5, .int g5_73), (6, .int v6_73), (7, .int v7_73), (8, .int v8_73), (9, .int g9_73), (10, .int v10_73)]) hx hb dX4_two_104 hl (by decide) rfl (fun ls hl => ?_)
        refine lv_iload hx hb dX4_two_106 (lv_at hl 0 rfl) ?_
        refine lv_iload hx hb dX4_two_108 (lv_at hl 7 rfl) ?_
        refine lv_icmp_ge (tgt := 125) hx hb dX4_two_110 (by decide) (fun h => ?_) (fun h => ?_)
        · have hf := (if_pos h).symm.trans hf
          obtain ⟨x14, ex14, hf⟩ := nm_ex hf
          refine lv_iinc (v := x14) (lv' := [(10, .int x14), (11, .int r13), (0, .ref (ad 0)), (2, .int g2_73), (3, .long g3_73), (5, .int g5_73), (6, .int v6_73), (7, .int v7_73), (8, .int v8_73), (9, .int g9_73)]) hx hb dX4_two_125 hl (k := 9) rfl (Eq.trans rfl ex14) (by decide) rfl (fun ls hl => ?_)
          refine lv_goto (tgt := 73) hx hb dX4_two_128 (by decide) ?_
          exact ih v6_73 v7_73 v8_73 x14 _ _ ls hf hP hD hS (lv_sub hl [2, 3, 4, 5, 6, 7, 8, 9, 0] rfl)
        · have hf := (if_neg h).symm.trans hf
          refine lv_iload hx hb dX4_two_113 (lv_at hl 0 rfl) ?_
          refine lv_istore (lv' := [(8, .int r13), (11, .int r13), (0, .ref (ad 0)), (2, .int g2_73), (3, .long g3_73), (5, .int g5_73), (6, .int v6_73), (7, .int v7_73), (9, .int g9_73), (10, .int v10_73)]) hx hb dX4_two_115 hl (by decide) rfl (fun ls hl => ?_)
          refine lv_iload hx hb dX4_two_117 (lv_at hl 8 rfl) ?_
          refine lv_istore (lv' := [(6, .int g9_73), (8, .int r13), (11, .int r13), (0, .ref (ad 0)), (2, .int g2_73), (3, .long g3_73), (5, .int g5_73), (7, .int v7_73), (9, .int g9_73), (10, .int v10_73)]) hx hb dX4_two_119 hl (by decide) rfl (fun ls hl => ?_)
          refine lv_iload hx hb dX4_two_121 (lv_at hl 9 rfl) ?_
          refine lv_istore (lv' := [(7, .int v10_73), (6, .int g9_73), (8, .int r13), (11, .int r13), (0, .ref (ad 0)), (2, .int g2_73), (3, .long g3_73), (5, .int g5_73), (9, .int g9_73), (10, .int v10_73)]) hx hb dX4_two_123 hl (by decide) rfl (fun ls hl => ?_)
          obtain ⟨x15, ex15, hf⟩ := nm_ex hf
          refine lv_iinc (v := x15) (lv' := [(10, .int x15), (7, .int v10_73), (6, .int g9_73), (8, .int r13), (11, .int r13), (0, .ref (ad 0)), (2, .int g2_73), (3, .long g3_73), (5, .int g5_73), (9, .int g9_73)]) hx hb dX4_two_125 hl (k := 9) rfl (Eq.trans rfl ex15) (by decide) rfl (fun ls hl => ?_)
          refine lv_goto (tgt := 73) hx hb dX4_two_128 (by decide) ?_
          exact ih g9_73 v10_73 r13 x15 _ _ ls hf hP hD hS (lv_sub hl [5, 6, 7, 8, 2, 1, 3, 9, 0] rfl)
  have w_62 : ∀ (S_62 : tH) (g2_62 : Int32) (g3_62 : Int64) (g5_62 : Int32) (k137 : Int32 → Int32 → Int32 → Option (Int32 × tH)) (hk137 : ∀ (v6_62 : Int32) (v7_62 : Int32) (v8_62 : Int32) (H : Heap) (locs : List Loc) (ls : Array Slot), k137 v6_62 v7_62 v8_62 = some (r0, S0) → va_P D vwCl (wH cy ad S_62) H → va_D (adr (wH cy ad S)) (wH cy ad S_62) → va_S (adr (wH cy ad S)) s.heap H locs → lv_has ls 12 [(2, .int g2_62), (6, .int v6_62), (7, .int v7_62), (8, .int v8_62)] → W p l e rmX4_two s m ([.ref (ad 0), .int u1, .int u2] : List Value).toArray below meth c H locs 0 0 (MQ below (mQ D (wH cy ad S) (wH cy ad S0) (some (.int r0))) ([.ref (ad 0), .int u1, .int u2] : List Value).toArray s 0 0 (adr (wH cy ad S))) (F0 m 137 ls [])) (n : Nat) (v6_62 : Int32) (v7_62 : Int32) (v8_62 : Int32) (v9_62 : Int32) (H : Heap) (locs : List Loc) (ls : Array Slot), fX4_two_62 S_62 g2_62 g3_62 g5_62 k137 n v6_62 v7_62 v8_62 v9_62 = some (r0, S0) → va_P D vwCl (wH cy ad S_62) H → va_D (adr (wH cy ad S)) (wH cy ad S_62) → va_S (adr (wH cy ad S)) s.heap H locs → lv_has ls 12 [(0, .ref (ad 0)), (2, .int g2_62), (3, .long g3_62), (5, .int g5_62), (6, .int v6_62), (7, .int v7_62), (8, .int v8_62), (9, .int v9_62)] → W p l e rmX4_two s m ([.ref (ad 0), .int u1, .int u2] : List Value).toArray below meth c H locs 0 0 (MQ below (mQ D (wH cy ad S) (wH cy ad S0) (some (.int r0))) ([.ref (ad 0), .int u1, .int u2] : List Value).toArray s 0 0 (adr (wH cy ad S))) (F0 m 62 ls []) := by
    intro S_62 g2_62 g3_62 g5_62 k137 hk137 n
    induction n with
    | zero =>
      intro v6_62 v7_62 v8_62 v9_62 H locs ls hf hP hD hS hl
      cases (show (none : Option (Int32 × tH)) = some (r0, S0) from hf)
    | succ n ih =>
      intro v6_62 v7_62 v8_62 v9_62 H locs ls hf hP hD hS hl
      rw [fX4_two_62] at hf
      refine lv_iload hx hb dX4_two_62 (lv_at hl 7 rfl) ?_
      refine lv_iload hx hb dX4_two_64 (lv_at hl 3 rfl) ?_
      refine lv_icmp_ge (tgt := 137) hx hb dX4_two_66 (by decide) (fun h => ?_) (fun h => ?_)
      · have hf := (if_pos h).symm.trans hf
        exact hk137 v6_62 v7_62 v8_62 _ _ ls hf hP hD hS (lv_sub hl [1, 4, 5, 6] rfl)
      · have hf := (if_neg h).symm.trans hf
        refine lv_iload hx hb dX4_two_69 (lv_at hl 7 rfl) ?_
        refine lv_istore (lv' := [(10, .int v9_62), (0, .ref (ad 0)), (2, .int g2_62), (3, .long g3_62), (5, .int g5_62), (6, .int v6_62), (7, .int v7_62), (8, .int v8_62), (9, .int v9_62)]) hx hb dX4_two_71 hl (by decide) rfl (fun ls hl => ?_)
        refine w_73 S_62 g2_62 g3_62 g5_62 v9_62 _ ?_ _ v6_62 v7_62 v8_62 v9_62 _ _ ls hf hP hD hS (lv_sub hl [1, 2, 3, 4, 5, 6, 7, 8, 0] rfl)
        · intro y16 y17 y18 H locs ls hf hP hD hS hl
          obtain ⟨x19, ex19, hf⟩ := nm_ex hf
          refine lv_iinc (v := x19) (lv' := [(9, .int x19), (0, .ref (ad 0)), (2, .int g2_62), (3, .long g3_62), (5, .int g5_62), (6, .int y16), (7, .int y17), (8, .int y18)]) hx hb dX4_two_131 hl (k := 7) rfl (Eq.trans rfl ex19) (by decide) rfl (fun ls hl => ?_)
          refine lv_goto (tgt := 62) hx hb dX4_two_134 (by decide) ?_
          exact ih y16 y17 y18 x19 _ _ ls hf hP hD hS (lv_sub hl [1, 2, 3, 4, 5, 6, 7, 0] rfl)
  unfold fX4_two at hf
  refine lv_iload_n hx hb dX4_two_0 rfl (lv_at hl 1 rfl) ?_
  obtain ⟨r2, hc1, hf⟩ := bd_some hf
  have hP1 := hP.sub (ws' := []) [] rfl
  refine pCallSI ⟨hx, hb, hml, hown, hts⟩ (mtX4_isDigit l D cy z u1 r2 hc1) miX4_isDigit q478 ⟨Nat.le_of_ble_eq_true rfl, Nat.le_of_ble_eq_true rfl⟩ ⟨rfl, rfl⟩ hP1 hKK hS hA0 rfl hl.1 rfl (Nat.le_of_ble_eq_true rfl) dX4_two_1 ⟨Nat.zero_le _, Nat.zero_le _⟩ ?_
  refine lv_if_eq (tgt := 16) hx hb dX4_two_4 (by decide) (fun h => ?_) (fun h => ?_)
  · have hf := (if_pos h).symm.trans hf
    refine lv_bipush (v := -2) hx hb dX4_two_16 (by decide) ?_
    cases hf
    exact mretI hx hb hr hlk hP hS dX4_two_18
  · have hf := (if_neg h).symm.trans hf
    refine lv_iload_n hx hb dX4_two_7 rfl (lv_at hl 2 rfl) ?_
    refine lv_if_lt (tgt := 16) hx hb dX4_two_8 (by decide) (fun h => ?_) (fun h => ?_)
    · have hf := (if_pos h).symm.trans hf
      refine lv_bipush (v := -2) hx hb dX4_two_16 (by decide) ?_
      cases hf
      exact mretI hx hb hr hlk hP hS dX4_two_18
    · have hf := (if_neg h).symm.trans hf
      refine lv_iload_n hx hb dX4_two_11 rfl (lv_at hl 2 rfl) ?_
      refine lv_iconst (v := 2) hx hb dX4_two_12 (by decide) ?_
      refine lv_icmp_le (tgt := 19) hx hb dX4_two_13 (by decide) (fun h => ?_) (fun h => ?_)
      · have hf := (if_pos h).symm.trans hf
        refine lv_aload_n hx hb dX4_two_19 rfl (lv_at hl 0 rfl) ?_
        refine lv_iload_n hx hb dX4_two_20 rfl (lv_at hl 1 rfl) ?_
        obtain ⟨y4, hc3, hf⟩ := bd_some hf
        refine mCallWVV ⟨hx, hb, hml, hown, hts⟩ (mtX4_fillViews l D cy z ad S u1 y4 hc3) miX4_fillViews q586 ⟨Nat.le_of_ble_eq_true rfl, Nat.le_of_ble_eq_true rfl⟩ ⟨rfl, rfl⟩ hP hD hKK hA0 (va_recv hKK.1 hP (ci := 4) (q0 := 0) rfl rfl) rfl hl.1 rfl (Nat.le_of_ble_eq_true rfl) dX4_two_21 ⟨Nat.zero_le _, Nat.zero_le _⟩ hS rfl (fun H locs hP hD hS => ?_)
        have hP : va_P D vwCl (wH cy ad y4) H := hP
        have hD : va_D (adr (wH cy ad S)) (wH cy ad y4) := hD
        refine lv_aload_n hx hb dX4_two_24 rfl (lv_at hl 0 rfl) ?_
        refine va_get (D := D) (ci := 4) (v := .ref (ad 1)) (C := RX4) (T := TX4) (N := 10) hx hb hts inX4 hown hKK.1 hP 0 rfl rfl 0 (by decide) (hts _ q170) (fun _ h => h) rfl dX4_two_25 ?_
        obtain ⟨r6, hc5, hf⟩ := bd_some hf
        have hP1 := hP.sub (ws' := wL cy (ad 1) (ad 2) (ad 3) (ad 4) (ad 5) y4.1) [1, 2, 3, 4, 5] rfl
        refine pCallVL ⟨hx, hb, hml, hown, hts⟩ (mtX1_hiddenSet l D cy z (ad 1) (ad 2) (ad 3) (ad 4) (ad 5) y4.1 r6 hc5) miX1_hiddenSet q379 ⟨Nat.le_of_ble_eq_true rfl, Nat.le_of_ble_eq_true rfl⟩ ⟨rfl, rfl⟩ hP1 hKK hS hA0 (va_recv hKK.1 hP1 (ci := 1) (q0 := 0) rfl rfl) rfl hl.1 rfl (Nat.le_of_ble_eq_true rfl) dX4_two_28 ⟨Nat.zero_le _, Nat.zero_le _⟩ ?_
        refine lv_lstore_n (lv' := [(3, .long r6), (0, .ref (ad 0)), (1, .int u1), (2, .int u2)]) hx hb dX4_two_31 rfl hl (by decide) rfl (fun ls hl => ?_)
        refine lv_aload_n hx hb dX4_two_32 rfl (lv_at hl 1 rfl) ?_
        refine va_get (D := D) (ci := 4) (v := .ref (ad 1)) (C := RX4) (T := TX4) (N := 10) hx hb hts inX4 hown hKK.1 hP 0 rfl rfl 0 (by decide) (hts _ q170) (fun _ h => h) rfl dX4_two_33 ?_
        obtain ⟨r8, hc7, hf⟩ := bd_some hf
        have hP1 := hP.sub (ws' := wL cy (ad 1) (ad 2) (ad 3) (ad 4) (ad 5) y4.1) [1, 2, 3, 4, 5] rfl
        refine pCallVI ⟨hx, hb, hml, hown, hts⟩ (mtX1_cellCount l D cy z (ad 1) (ad 2) (ad 3) (ad 4) (ad 5) y4.1 r8 hc7) miX1_cellCount q374 ⟨Nat.le_of_ble_eq_true rfl, Nat.le_of_ble_eq_true rfl⟩ ⟨rfl, rfl⟩ hP1 hKK hS hA0 (va_recv hKK.1 hP1 (ci := 1) (q0 := 0) rfl rfl) rfl hl.1 rfl (Nat.le_of_ble_eq_true rfl) dX4_two_36 ⟨Nat.zero_le _, Nat.zero_le _⟩ ?_
        refine lv_aload_n hx hb dX4_two_39 rfl (lv_at hl 1 rfl) ?_
        refine va_get (D := D) (ci := 4) (v := .ref (ad 31)) (C := RX4) (T := TX4) (N := 10) hx hb hts inX4 hown hKK.1 hP 0 rfl rfl 8 (by decide) (hts _ q178) (fun _ h => h) rfl dX4_two_40 ?_
        refine va_alen hx hb hKK.1 hP 31 1 rfl rfl (v := 36) rfl dX4_two_43 ?_
        refine va_mmin hx hb (hml.trans hl.1.symm) hown (hts _ q590) (hts _ q256) (hts _ q47) (hts _ q257) (Nat.le_of_ble_eq_true rfl) (Nat.le_of_ble_eq_true rfl) (Nat.zero_le _) (Nat.zero_le _) dX4_two_44 ?_
        refine nm_i hf (fun x9 hf => ?_)
        refine lv_istore (lv' := [(5, .int x9), (3, .long r6), (0, .ref (ad 0)), (1, .int u1), (2, .int u2)]) hx hb dX4_two_47 hl (by decide) rfl (fun ls hl => ?_)
        refine lv_iconst (v := 0) hx hb dX4_two_49 (by decide) ?_
        refine lv_istore (lv' := [(6, .int (0 : Int32)), (5, .int x9), (3, .long r6), (0, .ref (ad 0)), (1, .int u1), (2, .int u2)]) hx hb dX4_two_50 hl (by decide) rfl (fun ls hl => ?_)
        refine lv_iconst (v := 0) hx hb dX4_two_52 (by decide) ?_
        refine lv_istore (lv' := [(7, .int (0 : Int32)), (6, .int (0 : Int32)), (5, .int x9), (3, .long r6), (0, .ref (ad 0)), (1, .int u1), (2, .int u2)]) hx hb dX4_two_53 hl (by decide) rfl (fun ls hl => ?_)
        refine lv_bipush (v := 37) hx hb dX4_two_55 (by decide) ?_
        refine lv_istore (lv' := [(8, .int (37 : Int32)), (7, .int (0 : Int32)), (6, .int (0 : Int32)), (5, .int x9), (3, .long r6), (0, .ref (ad 0)), (1, .int u1), (2, .int u2)]) hx hb dX4_two_57 hl (by decide) rfl (fun ls hl => ?_)
        refine lv_iconst (v := 0) hx hb dX4_two_59 (by decide) ?_
        refine lv_istore (lv' := [(9, .int (0 : Int32)), (8, .int (37 : Int32)), (7, .int (0 : Int32)), (6, .int (0 : Int32)), (5, .int x9), (3, .long r6), (0, .ref (ad 0)), (1, .int u1), (2, .int u2)]) hx hb dX4_two_60 hl (by decide) rfl (fun ls hl => ?_)
        refine w_62 y4 u2 r6 x9 _ ?_ _ (0 : Int32) (0 : Int32) (37 : Int32) (0 : Int32) _ _ ls hf hP hD hS (lv_sub hl [6, 8, 5, 4, 3, 2, 1, 0] rfl)
        · intro y20 y21 y22 H locs ls hf hP hD hS hl
          refine lv_iload_n hx hb dX4_two_137 rfl (lv_at hl 0 rfl) ?_
          refine lv_iconst (v := 2) hx hb dX4_two_138 (by decide) ?_
          refine lv_icmp_ne (tgt := 145) hx hb dX4_two_139 (by decide) (fun h => ?_) (fun h => ?_)
          · have hf := (if_neg h).symm.trans hf
            refine lv_iload_n hx hb dX4_two_145 rfl (lv_at hl 0 rfl) ?_
            refine lv_if_ne (tgt := 154) hx hb dX4_two_146 (by decide) (fun h => ?_) (fun h => ?_)
            · have hf := (if_neg h).symm.trans hf
              refine lv_iload hx hb dX4_two_154 (lv_at hl 2 rfl) ?_
              cases hf
              exact mretI hx hb hr hlk hP hS dX4_two_156
            · have hf := (if_pos h).symm.trans hf
              refine lv_iload hx hb dX4_two_149 (lv_at hl 1 rfl) ?_
              refine lv_goto (tgt := 156) hx hb dX4_two_151 (by decide) ?_
              cases hf
              exact mretI hx hb hr hlk hP hS dX4_two_156
          · have hf := (if_pos h).symm.trans hf
            refine lv_iload hx hb dX4_two_142 (lv_at hl 3 rfl) ?_
            cases hf
            exact mretI hx hb hr hlk hP hS dX4_two_144
      · have hf := (if_neg h).symm.trans hf
        refine lv_bipush (v := -2) hx hb dX4_two_16 (by decide) ?_
        cases hf
        exact mretI hx hb hr hlk hP hS dX4_two_18

abbrev rmX4_part : Room := { frames := 5, cells := 0, slots := 0, locals := 131 }
theorem miX4_part : miV yX4_part cX4_part 3 (some .int) 1 := ⟨q594, q40, q592, q593, by decide +kernel⟩
set_option maxHeartbeats 4000000 in
set_option maxRecDepth 100000 in
theorem mtX4_part (l : Launch) (D : va_G) (cy : Nat → ClassId) (z : zT) (ad : Nat → Nat) (S : tH) (u1 : Int32) (r0 : Int32) (hf : fX4_part S u1 = some r0) : pmet l yX4_part cX4_part 3 (some .int) rmX4_part D cy z (wH cy ad S) [.ref (ad 0), .int u1] (some (.int r0)) := by
  refine pmet_of (by decide +kernel) (Nat.le_of_ble_eq_true rfl) (fun p e s m below meth c hx hb hr hml hown hts hlk hP hKK ls hl => ?_)
  have hS : va_S noF s.heap s.heap [] := va_S.rf
  have hA0 : ∀ q, noF q → zA z q := fun _ h => h.elim
  have hown : s.vm.findClass "HillSight" = some m.cls := hown
  have hl : lv_has ls 3 [(0, .ref (ad 0)), (1, .int u1)] := hl
  unfold fX4_part at hf
  refine lv_aload_n hx hb dX4_part_0 rfl (lv_at hl 0 rfl) ?_
  refine va_get (D := D) (ci := 4) (v := .ref (ad 1)) (C := RX4) (T := TX4) (N := 10) hx hb hts inX4 hown hKK.1 hP 0 rfl rfl 0 (by decide) (hts _ q170) (fun _ h => h) rfl dX4_part_1 ?_
  obtain ⟨r2, hc1, hf⟩ := bd_some hf
  have hP1 := hP.sub (ws' := wL cy (ad 1) (ad 2) (ad 3) (ad 4) (ad 5) S.1) [1, 2, 3, 4, 5] rfl
  refine pCallVI ⟨hx, hb, hml, hown, hts⟩ (mtX1_cellCount l D cy z (ad 1) (ad 2) (ad 3) (ad 4) (ad 5) S.1 r2 hc1) miX1_cellCount q374 ⟨Nat.le_of_ble_eq_true rfl, Nat.le_of_ble_eq_true rfl⟩ ⟨rfl, rfl⟩ hP1 hKK hS hA0 (va_recv hKK.1 hP1 (ci := 1) (q0 := 0) rfl rfl) rfl hl.1 rfl (Nat.le_of_ble_eq_true rfl) dX4_part_4 ⟨Nat.zero_le _, Nat.zero_le _⟩ ?_
  refine lv_istore_n (lv' := [(2, .int r2), (0, .ref (ad 0)), (1, .int u1)]) hx hb dX4_part_7 rfl hl (by decide) rfl (fun ls hl => ?_)
  refine lv_iload_n hx hb dX4_part_8 rfl (lv_at hl 0 rfl) ?_
  refine lv_aload_n hx hb dX4_part_9 rfl (lv_at hl 1 rfl) ?_
  refine va_get (D := D) (ci := 4) (v := .ref (ad 1)) (C := RX4) (T := TX4) (N := 10) hx hb hts inX4 hown hKK.1 hP 0 rfl rfl 0 (by decide) (hts _ q170) (fun _ h => h) rfl dX4_part_10 ?_
  obtain ⟨r4, hc3, hf⟩ := bd_some hf
  have hP1 := hP.sub (ws' := wL cy (ad 1) (ad 2) (ad 3) (ad 4) (ad 5) S.1) [1, 2, 3, 4, 5] rfl
  refine pCallVL ⟨hx, hb, hml, hown, hts⟩ (mtX1_hiddenSet l D cy z (ad 1) (ad 2) (ad 3) (ad 4) (ad 5) S.1 r4 hc3) miX1_hiddenSet q379 ⟨Nat.le_of_ble_eq_true rfl, Nat.le_of_ble_eq_true rfl⟩ ⟨rfl, rfl⟩ hP1 hKK hS hA0 (va_recv hKK.1 hP1 (ci := 1) (q0 := 0) rfl rfl) rfl hl.1 rfl (Nat.le_of_ble_eq_true rfl) dX4_part_13 ⟨Nat.zero_le _, Nat.zero_le _⟩ ?_
  obtain ⟨r6, hc5, hf⟩ := bd_some hf
  have hP1 := hP.sub (ws' := []) [] rfl
  refine pCallSI ⟨hx, hb, hml, hown, hts⟩ (mtJ13_bitCount_95d88 l D cy z r4 r6 hc5) miJ13_bitCount_95d88 q420 ⟨Nat.le_of_ble_eq_true rfl, Nat.le_of_ble_eq_true rfl⟩ ⟨rfl, rfl⟩ hP1 hKK hS hA0 rfl hl.1 rfl (Nat.le_of_ble_eq_true rfl) dX4_part_16 ⟨Nat.zero_le _, Nat.zero_le _⟩ ?_
  refine lv_isub hx hb dX4_part_19 ?_
  refine lv_iload_n hx hb dX4_part_20 rfl (lv_at hl 0 rfl) ?_
  refine lv_iload_n hx hb dX4_part_21 rfl (lv_at hl 2 rfl) ?_
  obtain ⟨r8, hc7, hf⟩ := bd_some hf
  have hP1 := hP.sub (ws' := []) [] rfl
  refine pCallSI ⟨hx, hb, hml, hown, hts⟩ (mtX4_lowestTerms l D cy z (r2 - r6) r2 u1 r8 hc7) miX4_lowestTerms q595 ⟨Nat.le_of_ble_eq_true rfl, Nat.le_of_ble_eq_true rfl⟩ ⟨rfl, rfl⟩ hP1 hKK hS hA0 rfl hl.1 rfl (Nat.le_of_ble_eq_true rfl) dX4_part_22 ⟨Nat.zero_le _, Nat.zero_le _⟩ ?_
  exact pretI hx hb hr hlk hf dX4_part_25

abbrev rmX4_judge : Room := { frames := 6, cells := 0, slots := 0, locals := 157 }
theorem miX4_judge : miV yX4_judge cX4_judge 7 (some .int) 2 := ⟨q601, q40, q599, q600, by decide +kernel⟩
set_option maxHeartbeats 4000000 in
set_option maxRecDepth 100000 in
theorem mtX4_judge (l : Launch) (D : va_G) (cy : Nat → ClassId) (z : zT) (ad : Nat → Nat) (S : tH) (u1 : Int32) (u2 : Int64) (r0 : Int32) (S0 : tH) (hf : fX4_judge S u1 u2 = some (r0, S0)) : mmet l yX4_judge cX4_judge 7 (some .int) rmX4_judge D cy z (wH cy ad S) (wH cy ad S0) [.ref (ad 0), .int u1, .long u2] (some (.int r0)) := by
  refine mmet_of (by decide +kernel) (Nat.le_of_ble_eq_true rfl) (fun p e s m below meth c hx hb hr hml hown hts hlk hP hD hS hA0 hKK ls hl => ?_)
  have hown : s.vm.findClass "HillSight" = some m.cls := hown
  have hl : lv_has ls 7 [(0, .ref (ad 0)), (1, .int u1), (2, .long u2)] := hl
  have w_25 : ∀ (S_25 : tH) (g1_25 : Int32) (g2_25 : Int64) (k45 : Int64 → Option (Int32 × tH)) (hk45 : ∀ (v4_25 : Int64) (H : Heap) (locs : List Loc) (ls : Array Slot), k45 v4_25 = some (r0, S0) → va_P D vwCl (wH cy ad S_25) H → va_D (adr (wH cy ad S)) (wH cy ad S_25) → va_S (adr (wH cy ad S)) s.heap H locs → lv_has ls 7 [(0, .ref (ad 0)), (1, .int g1_25), (2, .long g2_25), (4, .long v4_25)] → W p l e rmX4_judge s m ([.ref (ad 0), .int u1, .long u2] : List Value).toArray below meth c H locs 0 0 (MQ below (mQ D (wH cy ad S) (wH cy ad S0) (some (.int r0))) ([.ref (ad 0), .int u1, .long u2] : List Value).toArray s 0 0 (adr (wH cy ad S))) (F0 m 45 ls [])) (n : Nat) (v4_25 : Int64) (v6_25 : Int32) (H : Heap) (locs : List Loc) (ls : Array Slot), fX4_judge_25 S_25 g1_25 g2_25 k45 n v4_25 v6_25 = some (r0, S0) → va_P D vwCl (wH cy ad S_25) H → va_D (adr (wH cy ad S)) (wH cy ad S_25) → va_S (adr (wH cy ad S)) s.heap H locs → lv_has ls 7 [(0, .ref (ad 0)), (1, .int g1_25), (2, .long g2_25), (4, .long v4_25), (6, .int v6_25)] → W p l e rmX4_judge s m ([.ref (ad 0), .int u1, .long u2] : List Value).toArray below meth c H locs 0 0 (MQ below (mQ D (wH cy ad S) (wH cy ad S0) (some (.int r0))) ([.ref (ad 0), .int u1, .long u2] : List Value).toArray s 0 0 (adr (wH cy ad S))) (F0 m 25 ls []) := by
    intro S_25 g1_25 g2_25 k45 hk45 n
    induction n with
    | zero =>
      intro v4_25 v6_25 H locs ls hf hP hD hS hl
      cases (show (none : Option (Int32 × tH)) = some (r0, S0) from hf)
    | succ n ih =>
      intro v4_25 v6_25 H locs ls hf hP hD hS hl
      rw [fX4_judge_25] at hf
      refine lv_iload hx hb dX4_judge_25 (lv_at hl 4 rfl) ?_
      refine lv_iload_n hx hb dX4_judge_27 rfl (lv_at hl 1 rfl) ?_
      refine lv_icmp_ge (tgt := 45) hx hb dX4_judge_28 (by decide) (fun h => ?_) (fun h => ?_)
      · have hf := (if_pos h).symm.trans hf
        exact hk45 v4_25 _ _ ls hf hP hD hS (lv_sub hl [0, 1, 2, 3] rfl)
      · have hf := (if_neg h).symm.trans hf
        refine lv_lload hx hb dX4_judge_31 (lv_at hl 3 rfl) ?_
        refine lv_ldc2 hx hb hown (hts _ q602) dX4_judge_33 ?_
        refine lv_lmul hx hb dX4_judge_36 ?_
        refine nm_l hf (fun x1 hf => ?_)
        refine lv_lstore (lv' := [(4, .long x1), (0, .ref (ad 0)), (1, .int g1_25), (2, .long g2_25), (6, .int v6_25)]) hx hb dX4_judge_37 hl (by decide) rfl (fun ls hl => ?_)
        obtain ⟨x2, ex2, hf⟩ := nm_ex hf
        refine lv_iinc (v := x2) (lv' := [(6, .int x2), (4, .long x1), (0, .ref (ad 0)), (1, .int g1_25), (2, .long g2_25)]) hx hb dX4_judge_39 hl (k := 4) rfl (Eq.trans rfl ex2) (by decide) rfl (fun ls hl => ?_)
        refine lv_goto (tgt := 25) hx hb dX4_judge_42 (by decide) ?_
        exact ih x1 x2 _ _ ls hf hP hD hS (lv_sub hl [2, 3, 4, 1, 0] rfl)
  have w_69 : ∀ (g1_69 : Int32) (g2_69 : Int64) (k106 : Int32 → tH → Option (Int32 × tH)) (hk106 : ∀ (v6_69 : Int32) (S_69 : tH) (H : Heap) (locs : List Loc) (ls : Array Slot), k106 v6_69 S_69 = some (r0, S0) → va_P D vwCl (wH cy ad S_69) H → va_D (adr (wH cy ad S)) (wH cy ad S_69) → va_S (adr (wH cy ad S)) s.heap H locs → lv_has ls 7 [(6, .int v6_69)] → W p l e rmX4_judge s m ([.ref (ad 0), .int u1, .long u2] : List Value).toArray below meth c H locs 0 0 (MQ below (mQ D (wH cy ad S) (wH cy ad S0) (some (.int r0))) ([.ref (ad 0), .int u1, .long u2] : List Value).toArray s 0 0 (adr (wH cy ad S))) (F0 m 106 ls [])) (k115 : tH → Option (Int32 × tH)) (hk115 : ∀ (S_69 : tH) (H : Heap) (locs : List Loc) (ls : Array Slot), k115 S_69 = some (r0, S0) → va_P D vwCl (wH cy ad S_69) H → va_D (adr (wH cy ad S)) (wH cy ad S_69) → va_S (adr (wH cy ad S)) s.heap H locs → lv_has ls 7 [] → W p l e rmX4_judge s m ([.ref (ad 0), .int u1, .long u2] : List Value).toArray below meth c H locs 0 0 (MQ below (mQ D (wH cy ad S) (wH cy ad S0) (some (.int r0))) ([.ref (ad 0), .int u1, .long u2] : List Value).toArray s 0 0 (adr (wH cy ad S))) (F0 m 115 ls [])) (n : Nat) (v4_69 : Int64) (v6_69 : Int32) (S_69 : tH) (H : Heap) (locs : List Loc) (ls : Array Slot), fX4_judge_69 g1_69 g2_69 k106 k115 n v4_69 v6_69 S_69 = some (r0, S0) → va_P D vwCl (wH cy ad S_69) H → va_D (adr (wH cy ad S)) (wH cy ad S_69) → va_S (adr (wH cy ad S)) s.heap H locs → lv_has ls 7 [(0, .ref (ad 0)), (1, .int g1_69), (2, .long g2_69), (4, .long v4_69), (6, .int v6_69)] → W p l e rmX4_judge s m ([.ref (ad 0), .int u1, .long u2] : List Value).toArray below meth c H locs 0 0 (MQ below (mQ D (wH cy ad S) (wH cy ad S0) (some (.int r0))) ([.ref (ad 0), .int u1, .long u2] : List Value).toArray s 0 0 (adr (wH cy ad S))) (F0 m 69 ls []) := by
    intro g1_69 g2_69 k106 hk106 k115 hk115 n
    induction n with
    | zero =>
      intro v4_69 v6_69 S_69 H locs ls hf hP hD hS hl
      cases (show (none : Option (Int32 × tH)) = some (r0, S0) from hf)
    | succ n ih =>
      intro v4_69 v6_69 S_69 H locs ls hf hP hD hS hl
      rw [fX4_judge_69] at hf
      refine lv_iload hx hb dX4_judge_69 (lv_at hl 4 rfl) ?_
      refine lv_iload_n hx hb dX4_judge_71 rfl (lv_at hl 1 rfl) ?_
      refine lv_icmp_ge (tgt := 115) hx hb dX4_judge_72 (by decide) (fun h => ?_) (fun h => ?_)
      · have hf := (if_pos h).symm.trans hf
        exact hk115 S_69 _ _ ls hf hP hD hS (lv_sub hl [] rfl)
      · have hf := (if_neg h).symm.trans hf
        refine lv_lload hx hb dX4_judge_75 (lv_at hl 3 rfl) ?_
        refine lv_ldc2 hx hb hown (hts _ q602) dX4_judge_77 ?_
        refine lv_ldiv hx hb dX4_judge_80 (by decide) ?_
        refine nm_l hf (fun x6 hf => ?_)
        refine lv_lstore (lv' := [(4, .long x6), (0, .ref (ad 0)), (1, .int g1_69), (2, .long g2_69), (6, .int v6_69)]) hx hb dX4_judge_81 hl (by decide) rfl (fun ls hl => ?_)
        refine lv_lload hx hb dX4_judge_83 (lv_at hl 0 rfl) ?_
        refine lv_lconst (v := 1) hx hb dX4_judge_85 (by decide) ?_
        refine W.lcmp hx hb dX4_judge_86 ?_
        refine lv_if_lt (tgt := 106) hx hb dX4_judge_87 (by decide) (fun h => ?_) (fun h => ?_)
        · have hf := (if_pos h).symm.trans hf
          exact hk106 v6_69 S_69 _ _ ls hf hP hD hS (lv_sub hl [4] rfl)
        · have hf := (if_neg h).symm.trans hf
          refine lv_aload_n hx hb dX4_judge_90 rfl (lv_at hl 1 rfl) ?_
          refine lv_lload_n hx hb dX4_judge_91 rfl (lv_at hl 3 rfl) ?_
          refine lv_lload hx hb dX4_judge_92 (lv_at hl 0 rfl) ?_
          obtain ⟨hg7, hf⟩ := gd_some hf
          refine lv_ldiv hx hb dX4_judge_94 (nzl_ne hg7) ?_
          refine lv_ldc2 hx hb hown (hts _ q602) dX4_judge_95 ?_
          refine lv_lrem hx hb dX4_judge_98 (by decide) ?_
          refine lv_l2i hx hb dX4_judge_99 rfl ?_
          obtain ⟨y9, hc8, hf⟩ := bd_some hf
          refine mCallWVI ⟨hx, hb, hml, hown, hts⟩ (mtX4_holds l D cy z ad S_69 (((g2_69 / x6) - (g2_69 / x6) / (100000 : Int64) * (100000 : Int64)).toInt32) y9.1 y9.2 hc8) miX4_holds q603 ⟨Nat.le_of_ble_eq_true rfl, Nat.le_of_ble_eq_true rfl⟩ ⟨rfl, rfl⟩ hP hD hKK hA0 (va_recv hKK.1 hP (ci := 4) (q0 := 0) rfl rfl) rfl hl.1 rfl (Nat.le_of_ble_eq_true rfl) dX4_judge_100 ⟨Nat.zero_le _, Nat.zero_le _⟩ hS rfl (fun H locs hP hD hS => ?_)
          have hP : va_P D vwCl (wH cy ad y9.2) H := hP
          have hD : va_D (adr (wH cy ad S)) (wH cy ad y9.2) := hD
          refine lv_if_ne (tgt := 109) hx hb dX4_judge_103 (by decide) (fun h => ?_) (fun h => ?_)
          · have hf := (if_neg h).symm.trans hf
            obtain ⟨x10, ex10, hf⟩ := nm_ex hf
            refine lv_iinc (v := x10) (lv' := [(6, .int x10), (4, .long x6), (0, .ref (ad 0)), (1, .int g1_69), (2, .long g2_69)]) hx hb dX4_judge_109 hl (k := 4) rfl (Eq.trans rfl ex10) (by decide) rfl (fun ls hl => ?_)
            refine lv_goto (tgt := 69) hx hb dX4_judge_112 (by decide) ?_
            exact ih x6 x10 y9.2 _ _ ls hf hP hD hS (lv_sub hl [2, 3, 4, 1, 0] rfl)
          · have hf := (if_pos h).symm.trans hf
            exact hk106 v6_69 y9.2 _ _ ls hf hP hD hS (lv_sub hl [4] rfl)
  unfold fX4_judge at hf
  refine lv_iload_n hx hb dX4_judge_0 rfl (lv_at hl 1 rfl) ?_
  refine lv_iconst (v := 1) hx hb dX4_judge_1 (by decide) ?_
  refine lv_icmp_lt (tgt := 16) hx hb dX4_judge_2 (by decide) (fun h => ?_) (fun h => ?_)
  · have hf := (if_pos h).symm.trans hf
    refine lv_bipush (v := -2) hx hb dX4_judge_16 (by decide) ?_
    cases hf
    exact mretI hx hb hr hlk hP hS dX4_judge_18
  · have hf := (if_neg h).symm.trans hf
    refine lv_iload_n hx hb dX4_judge_5 rfl (lv_at hl 1 rfl) ?_
    refine lv_iconst (v := 3) hx hb dX4_judge_6 (by decide) ?_
    refine lv_icmp_gt (tgt := 16) hx hb dX4_judge_7 (by decide) (fun h => ?_) (fun h => ?_)
    · have hf := (if_pos h).symm.trans hf
      refine lv_bipush (v := -2) hx hb dX4_judge_16 (by decide) ?_
      cases hf
      exact mretI hx hb hr hlk hP hS dX4_judge_18
    · have hf := (if_neg h).symm.trans hf
      refine lv_lload_n hx hb dX4_judge_10 rfl (lv_at hl 2 rfl) ?_
      refine lv_lconst (v := 0) hx hb dX4_judge_11 (by decide) ?_
      refine W.lcmp hx hb dX4_judge_12 ?_
      refine lv_if_ge (tgt := 19) hx hb dX4_judge_13 (by decide) (fun h => ?_) (fun h => ?_)
      · have hf := (if_pos h).symm.trans hf
        refine lv_lconst (v := 1) hx hb dX4_judge_19 (by decide) ?_
        refine lv_lstore (lv' := [(4, .long (1 : Int64)), (0, .ref (ad 0)), (1, .int u1), (2, .long u2)]) hx hb dX4_judge_20 hl (by decide) rfl (fun ls hl => ?_)
        refine lv_iconst (v := 0) hx hb dX4_judge_22 (by decide) ?_
        refine lv_istore (lv' := [(6, .int (0 : Int32)), (4, .long (1 : Int64)), (0, .ref (ad 0)), (1, .int u1), (2, .long u2)]) hx hb dX4_judge_23 hl (by decide) rfl (fun ls hl => ?_)
        refine w_25 S u1 u2 _ ?_ _ (1 : Int64) (0 : Int32) _ _ ls hf hP hD hS (lv_sub hl [2, 3, 4, 1, 0] rfl)
        · intro y3 H locs ls hf hP hD hS hl
          refine lv_lload_n hx hb dX4_judge_45 rfl (lv_at hl 2 rfl) ?_
          refine lv_lload hx hb dX4_judge_46 (lv_at hl 3 rfl) ?_
          refine W.lcmp hx hb dX4_judge_48 ?_
          refine lv_if_lt (tgt := 55) hx hb dX4_judge_49 (by decide) (fun h => ?_) (fun h => ?_)
          · have hf := (if_pos h).symm.trans hf
            refine lv_aload_n hx hb dX4_judge_55 rfl (lv_at hl 0 rfl) ?_
            refine va_get (D := D) (ci := 4) (v := .ref (ad 6)) (C := RX4) (T := TX4) (N := 10) hx hb hts inX4 hown hKK.1 hP 0 rfl rfl 1 (by decide) (hts _ q171) (fun _ h => h) rfl dX4_judge_56 ?_
            refine lv_aload_n hx hb dX4_judge_59 rfl (lv_at hl 0 rfl) ?_
            refine va_get (D := D) (ci := 4) (v := .ref (ad 1)) (C := RX4) (T := TX4) (N := 10) hx hb hts inX4 hown hKK.1 hP 0 rfl rfl 0 (by decide) (hts _ q170) (fun _ h => h) rfl dX4_judge_60 ?_
            obtain ⟨y5, hc4, hf⟩ := bd_some hf
            have hP1 := hP.sub (ws' := wL cy (ad 6) (ad 7) (ad 8) (ad 9) (ad 10) S.2.1 ++ wL cy (ad 1) (ad 2) (ad 3) (ad 4) (ad 5) S.1) [6, 7, 8, 9, 10, 1, 2, 3, 4, 5] rfl
            have hD1 := hD.sub (ws' := wL cy (ad 6) (ad 7) (ad 8) (ad 9) (ad 10) S.2.1 ++ wL cy (ad 1) (ad 2) (ad 3) (ad 4) (ad 5) S.1) [6, 7, 8, 9, 10, 1, 2, 3, 4, 5] (by decide) rfl
            refine mCallVV ⟨hx, hb, hml, hown, hts⟩ (mtX1_copyFrom l D cy z (ad 6) (ad 7) (ad 8) (ad 9) (ad 10) (ad 1) (ad 2) (ad 3) (ad 4) (ad 5) S.2.1 S.1 y5 hc4) miX1_copyFrom q367 ⟨Nat.le_of_ble_eq_true rfl, Nat.le_of_ble_eq_true rfl⟩ ⟨rfl, rfl⟩ hP1 hD1 hKK hA0 (va_recv hKK.1 hP1 (ci := 1) (q0 := 0) rfl rfl) rfl hl.1 rfl (Nat.le_of_ble_eq_true rfl) dX4_judge_63 ⟨Nat.zero_le _, Nat.zero_le _⟩ hS hP hD [6, 7, 8, 9, 10, 1, 2, 3, 4, 5] rfl rfl (ws' := wH cy ad (S.1, y5, S.2.2.1, S.2.2.2.1, S.2.2.2.2.1, S.2.2.2.2.2.1, S.2.2.2.2.2.2.1, S.2.2.2.2.2.2.2.1, S.2.2.2.2.2.2.2.2.1, S.2.2.2.2.2.2.2.2.2)) rfl (fun H locs hP hD hS => ?_)
            refine lv_iconst (v := 0) hx hb dX4_judge_66 (by decide) ?_
            refine lv_istore (lv' := [(6, .int (0 : Int32)), (0, .ref (ad 0)), (1, .int u1), (2, .long u2), (4, .long y3)]) hx hb dX4_judge_67 hl (by decide) rfl (fun ls hl => ?_)
            refine w_69 u1 u2 _ ?_ _ ?_ _ y3 (0 : Int32) (S.1, y5, S.2.2.1, S.2.2.2.1, S.2.2.2.2.1, S.2.2.2.2.2.1, S.2.2.2.2.2.2.1, S.2.2.2.2.2.2.2.1, S.2.2.2.2.2.2.2.2.1, S.2.2.2.2.2.2.2.2.2) _ _ ls hf hP hD hS (lv_sub hl [1, 2, 3, 4, 0] rfl)
            · intro y11 S12 H locs ls hf hP hD hS hl
              refine lv_iload hx hb dX4_judge_106 (lv_at hl 0 rfl) ?_
              cases hf
              exact mretI hx hb hr hlk hP hS dX4_judge_108
            · intro S13 H locs ls hf hP hD hS hl
              refine lv_bipush (v := -9) hx hb dX4_judge_115 (by decide) ?_
              cases hf
              exact mretI hx hb hr hlk hP hS dX4_judge_117
          · have hf := (if_neg h).symm.trans hf
            refine lv_bipush (v := -2) hx hb dX4_judge_52 (by decide) ?_
            cases hf
            exact mretI hx hb hr hlk hP hS dX4_judge_54
      · have hf := (if_neg h).symm.trans hf
        refine lv_bipush (v := -2) hx hb dX4_judge_16 (by decide) ?_
        cases hf
        exact mretI hx hb hr hlk hP hS dX4_judge_18

abbrev rmX4_find : Room := { frames := 1, cells := 0, slots := 0, locals := 22 }
theorem miX4_find : miV yX4_find cX4_find 3 (some .int) 2 := ⟨q611, q40, q609, q610, by decide +kernel⟩
set_option maxHeartbeats 4000000 in
set_option maxRecDepth 100000 in
theorem mtX4_find (l : Launch) (D : va_G) (cy : Nat → ClassId) (z : zT) (ad : Nat → Nat) (S : tH) (u1 : Int32) (u2 : Int32) (r0 : Int32) (S0 : tH) (hf : fX4_find S u1 u2 = some (r0, S0)) : mmet l yX4_find cX4_find 3 (some .int) rmX4_find D cy z (wH cy ad S) (wH cy ad S0) [.ref (ad 0), .int u1, .int u2] (some (.int r0)) := by
  refine mmet_of (by decide +kernel) (Nat.le_of_ble_eq_true rfl) (fun p e s m below meth c hx hb hr hml hown hts hlk hP hD hS hA0 hKK ls hl => ?_)
  have hown : s.vm.findClass "HillSight" = some m.cls := hown
  have hl : lv_has ls 3 [(0, .ref (ad 0)), (1, .int u1), (2, .int u2)] := hl
  unfold fX4_find at hf
  refine lv_aload_n hx hb dX4_find_0 rfl (lv_at hl 0 rfl) ?_
  refine va_get (D := D) (ci := 4) (v := .ref (ad 1)) (C := RX4) (T := TX4) (N := 10) hx hb hts inX4 hown hKK.1 hP 0 rfl rfl 0 (by decide) (hts _ q170) (fun _ h => h) rfl dX4_find_1 ?_
  refine lv_iload_n hx hb dX4_find_4 rfl (lv_at hl 1 rfl) ?_
  obtain ⟨r2, hc1, hf⟩ := bd_some hf
  have hP1 := hP.sub (ws' := wL cy (ad 1) (ad 2) (ad 3) (ad 4) (ad 5) S.1) [1, 2, 3, 4, 5] rfl
  refine pCallVI ⟨hx, hb, hml, hown, hts⟩ (mtX1_hasCell l D cy z (ad 1) (ad 2) (ad 3) (ad 4) (ad 5) S.1 u1 r2 hc1) miX1_hasCell q438 ⟨Nat.le_of_ble_eq_true rfl, Nat.le_of_ble_eq_true rfl⟩ ⟨rfl, rfl⟩ hP1 hKK hS hA0 (va_recv hKK.1 hP1 (ci := 1) (q0 := 0) rfl rfl) rfl hl.1 rfl (Nat.le_of_ble_eq_true rfl) dX4_find_5 ⟨Nat.zero_le _, Nat.zero_le _⟩ ?_
  refine lv_if_ne (tgt := 13) hx hb dX4_find_8 (by decide) (fun h => ?_) (fun h => ?_)
  · have hf := (if_neg h).symm.trans hf
    refine lv_iload_n hx hb dX4_find_13 rfl (lv_at hl 2 rfl) ?_
    refine lv_if_eq (tgt := 25) hx hb dX4_find_14 (by decide) (fun h => ?_) (fun h => ?_)
    · have hf := (if_pos h).symm.trans hf
      refine lv_aload_n hx hb dX4_find_25 rfl (lv_at hl 0 rfl) ?_
      refine va_get (D := D) (ci := 4) (v := .ref (ad 28)) (C := RX4) (T := TX4) (N := 10) hx hb hts inX4 hown hKK.1 hP 0 rfl rfl 7 (by decide) (hts _ q177) (fun _ h => h) rfl dX4_find_26 ?_
      refine lv_iload_n hx hb dX4_find_29 rfl (lv_at hl 1 rfl) ?_
      refine lv_iload_n hx hb dX4_find_30 rfl (lv_at hl 2 rfl) ?_
      refine lv_iconst (v := 1) hx hb dX4_find_31 (by decide) ?_
      refine lv_icmp_ne (tgt := 39) hx hb dX4_find_32 (by decide) (fun h => ?_) (fun h => ?_)
      · have hf := (if_neg h).symm.trans hf
        refine lv_iconst (v := 0) hx hb dX4_find_39 (by decide) ?_
        obtain ⟨y4, hc3, hf⟩ := bd_some hf
        have hP1 := hP.sub (ws' := wO cy (ad 28) (ad 29) (ad 30) S.2.2.2.2.2.2.2.1) [28, 29, 30] rfl
        have hD1 := hD.sub (ws' := wO cy (ad 28) (ad 29) (ad 30) S.2.2.2.2.2.2.2.1) [28, 29, 30] (by decide) rfl
        refine mCallVI ⟨hx, hb, hml, hown, hts⟩ (mtX3_add l D cy z (ad 28) (ad 29) (ad 30) S.2.2.2.2.2.2.2.1 u1 (0 : Int32) y4.1 y4.2 hc3) miX3_add q612 ⟨Nat.le_of_ble_eq_true rfl, Nat.le_of_ble_eq_true rfl⟩ ⟨rfl, rfl⟩ hP1 hD1 hKK hA0 (va_recv hKK.1 hP1 (ci := 3) (q0 := 0) rfl rfl) rfl hl.1 rfl (Nat.le_of_ble_eq_true rfl) dX4_find_40 ⟨Nat.zero_le _, Nat.zero_le _⟩ hS hP hD [28, 29, 30] rfl rfl (ws' := wH cy ad (S.1, S.2.1, S.2.2.1, S.2.2.2.1, S.2.2.2.2.1, S.2.2.2.2.2.1, S.2.2.2.2.2.2.1, y4.2, S.2.2.2.2.2.2.2.2.1, S.2.2.2.2.2.2.2.2.2)) rfl (fun H locs hP hD hS => ?_)
        refine lv_if_eq (tgt := 56) hx hb dX4_find_43 (by decide) (fun h => ?_) (fun h => ?_)
        · have hf := (if_pos h).symm.trans hf
          refine lv_bipush (v := -4) hx hb dX4_find_56 (by decide) ?_
          cases hf
          exact mretI hx hb hr hlk hP hS dX4_find_58
        · have hf := (if_neg h).symm.trans hf
          refine lv_aload_n hx hb dX4_find_46 rfl (lv_at hl 0 rfl) ?_
          refine va_get (D := D) (ci := 4) (v := .ref (ad 28)) (C := RX4) (T := TX4) (N := 10) hx hb hts inX4 hown hKK.1 hP 0 rfl rfl 7 (by decide) (hts _ q177) (fun _ h => h) rfl dX4_find_47 ?_
          refine va_get (D := D) (ci := 3) (v := .int y4.2.2.2) (C := RX3) (T := TX3) (N := 3) hx hb hts inX3 hown hKK.1 hP 28 rfl rfl 2 (by decide) (hts _ q161) (fun _ h => h) rfl dX4_find_50 ?_
          refine lv_goto (tgt := 58) hx hb dX4_find_53 (by decide) ?_
          cases hf
          exact mretI hx hb hr hlk hP hS dX4_find_58
      · have hf := (if_pos h).symm.trans hf
        refine lv_iconst (v := 1) hx hb dX4_find_35 (by decide) ?_
        refine lv_goto (tgt := 40) hx hb dX4_find_36 (by decide) ?_
        obtain ⟨y6, hc5, hf⟩ := bd_some hf
        have hP1 := hP.sub (ws' := wO cy (ad 28) (ad 29) (ad 30) S.2.2.2.2.2.2.2.1) [28, 29, 30] rfl
        have hD1 := hD.sub (ws' := wO cy (ad 28) (ad 29) (ad 30) S.2.2.2.2.2.2.2.1) [28, 29, 30] (by decide) rfl
        refine mCallVI ⟨hx, hb, hml, hown, hts⟩ (mtX3_add l D cy z (ad 28) (ad 29) (ad 30) S.2.2.2.2.2.2.2.1 u1 (1 : Int32) y6.1 y6.2 hc5) miX3_add q612 ⟨Nat.le_of_ble_eq_true rfl, Nat.le_of_ble_eq_true rfl⟩ ⟨rfl, rfl⟩ hP1 hD1 hKK hA0 (va_recv hKK.1 hP1 (ci := 3) (q0 := 0) rfl rfl) rfl hl.1 rfl (Nat.le_of_ble_eq_true rfl) dX4_find_40 ⟨Nat.zero_le _, Nat.zero_le _⟩ hS hP hD [28, 29, 30] rfl rfl (ws' := wH cy ad (S.1, S.2.1, S.2.2.1, S.2.2.2.1, S.2.2.2.2.1, S.2.2.2.2.2.1, S.2.2.2.2.2.2.1, y6.2, S.2.2.2.2.2.2.2.2.1, S.2.2.2.2.2.2.2.2.2)) rfl (fun H locs hP hD hS => ?_)
        refine lv_if_eq (tgt := 56) hx hb dX4_find_43 (by decide) (fun h => ?_) (fun h => ?_)
        · have hf := (if_pos h).symm.trans hf
          refine lv_bipush (v := -4) hx hb dX4_find_56 (by decide) ?_
          cases hf
          exact mretI hx hb hr hlk hP hS dX4_find_58
        · have hf := (if_neg h).symm.trans hf
          refine lv_aload_n hx hb dX4_find_46 rfl (lv_at hl 0 rfl) ?_
          refine va_get (D := D) (ci := 4) (v := .ref (ad 28)) (C := RX4) (T := TX4) (N := 10) hx hb hts inX4 hown hKK.1 hP 0 rfl rfl 7 (by decide) (hts _ q177) (fun _ h => h) rfl dX4_find_47 ?_
          refine va_get (D := D) (ci := 3) (v := .int y6.2.2.2) (C := RX3) (T := TX3) (N := 3) hx hb hts inX3 hown hKK.1 hP 28 rfl rfl 2 (by decide) (hts _ q161) (fun _ h => h) rfl dX4_find_50 ?_
          refine lv_goto (tgt := 58) hx hb dX4_find_53 (by decide) ?_
          cases hf
          exact mretI hx hb hr hlk hP hS dX4_find_58
    · have hf := (if_neg h).symm.trans hf
      refine lv_iload_n hx hb dX4_find_17 rfl (lv_at hl 2 rfl) ?_
      refine lv_iconst (v := 1) hx hb dX4_find_18 (by decide) ?_
      refine lv_icmp_eq (tgt := 25) hx hb dX4_find_19 (by decide) (fun h => ?_) (fun h => ?_)
      · have hf := (if_pos h).symm.trans hf
        refine lv_aload_n hx hb dX4_find_25 rfl (lv_at hl 0 rfl) ?_
        refine va_get (D := D) (ci := 4) (v := .ref (ad 28)) (C := RX4) (T := TX4) (N := 10) hx hb hts inX4 hown hKK.1 hP 0 rfl rfl 7 (by decide) (hts _ q177) (fun _ h => h) rfl dX4_find_26 ?_
        refine lv_iload_n hx hb dX4_find_29 rfl (lv_at hl 1 rfl) ?_
        refine lv_iload_n hx hb dX4_find_30 rfl (lv_at hl 2 rfl) ?_
        refine lv_iconst (v := 1) hx hb dX4_find_31 (by decide) ?_
        refine lv_icmp_ne (tgt := 39) hx hb dX4_find_32 (by decide) (fun h => ?_) (fun h => ?_)
        · have hf := (if_neg h).symm.trans hf
          refine lv_iconst (v := 0) hx hb dX4_find_39 (by decide) ?_
          obtain ⟨y8, hc7, hf⟩ := bd_some hf
          have hP1 := hP.sub (ws' := wO cy (ad 28) (ad 29) (ad 30) S.2.2.2.2.2.2.2.1) [28, 29, 30] rfl
          have hD1 := hD.sub (ws' := wO cy (ad 28) (ad 29) (ad 30) S.2.2.2.2.2.2.2.1) [28, 29, 30] (by decide) rfl
          refine mCallVI ⟨hx, hb, hml, hown, hts⟩ (mtX3_add l D cy z (ad 28) (ad 29) (ad 30) S.2.2.2.2.2.2.2.1 u1 (0 : Int32) y8.1 y8.2 hc7) miX3_add q612 ⟨Nat.le_of_ble_eq_true rfl, Nat.le_of_ble_eq_true rfl⟩ ⟨rfl, rfl⟩ hP1 hD1 hKK hA0 (va_recv hKK.1 hP1 (ci := 3) (q0 := 0) rfl rfl) rfl hl.1 rfl (Nat.le_of_ble_eq_true rfl) dX4_find_40 ⟨Nat.zero_le _, Nat.zero_le _⟩ hS hP hD [28, 29, 30] rfl rfl (ws' := wH cy ad (S.1, S.2.1, S.2.2.1, S.2.2.2.1, S.2.2.2.2.1, S.2.2.2.2.2.1, S.2.2.2.2.2.2.1, y8.2, S.2.2.2.2.2.2.2.2.1, S.2.2.2.2.2.2.2.2.2)) rfl (fun H locs hP hD hS => ?_)
          refine lv_if_eq (tgt := 56) hx hb dX4_find_43 (by decide) (fun h => ?_) (fun h => ?_)
          · have hf := (if_pos h).symm.trans hf
            refine lv_bipush (v := -4) hx hb dX4_find_56 (by decide) ?_
            cases hf
            exact mretI hx hb hr hlk hP hS dX4_find_58
          · have hf := (if_neg h).symm.trans hf
            refine lv_aload_n hx hb dX4_find_46 rfl (lv_at hl 0 rfl) ?_
            refine va_get (D := D) (ci := 4) (v := .ref (ad 28)) (C := RX4) (T := TX4) (N := 10) hx hb hts inX4 hown hKK.1 hP 0 rfl rfl 7 (by decide) (hts _ q177) (fun _ h => h) rfl dX4_find_47 ?_
            refine va_get (D := D) (ci := 3) (v := .int y8.2.2.2) (C := RX3) (T := TX3) (N := 3) hx hb hts inX3 hown hKK.1 hP 28 rfl rfl 2 (by decide) (hts _ q161) (fun _ h => h) rfl dX4_find_50 ?_
            refine lv_goto (tgt := 58) hx hb dX4_find_53 (by decide) ?_
            cases hf
            exact mretI hx hb hr hlk hP hS dX4_find_58
        · have hf := (if_pos h).symm.trans hf
          refine lv_iconst (v := 1) hx hb dX4_find_35 (by decide) ?_
          refine lv_goto (tgt := 40) hx hb dX4_find_36 (by decide) ?_
          obtain ⟨y10, hc9, hf⟩ := bd_some hf
          have hP1 := hP.sub (ws' := wO cy (ad 28) (ad 29) (ad 30) S.2.2.2.2.2.2.2.1) [28, 29, 30] rfl
          have hD1 := hD.sub (ws' := wO cy (ad 28) (ad 29) (ad 30) S.2.2.2.2.2.2.2.1) [28, 29, 30] (by decide) rfl
          refine mCallVI ⟨hx, hb, hml, hown, hts⟩ (mtX3_add l D cy z (ad 28) (ad 29) (ad 30) S.2.2.2.2.2.2.2.1 u1 (1 : Int32) y10.1 y10.2 hc9) miX3_add q612 ⟨Nat.le_of_ble_eq_true rfl, Nat.le_of_ble_eq_true rfl⟩ ⟨rfl, rfl⟩ hP1 hD1 hKK hA0 (va_recv hKK.1 hP1 (ci := 3) (q0 := 0) rfl rfl) rfl hl.1 rfl (Nat.le_of_ble_eq_true rfl) dX4_find_40 ⟨Nat.zero_le _, Nat.zero_le _⟩ hS hP hD [28, 29, 30] rfl rfl (ws' := wH cy ad (S.1, S.2.1, S.2.2.1, S.2.2.2.1, S.2.2.2.2.1, S.2.2.2.2.2.1, S.2.2.2.2.2.2.1, y10.2, S.2.2.2.2.2.2.2.2.1, S.2.2.2.2.2.2.2.2.2)) rfl (fun H locs hP hD hS => ?_)
          refine lv_if_eq (tgt := 56) hx hb dX4_find_43 (by decide) (fun h => ?_) (fun h => ?_)
          · have hf := (if_pos h).symm.trans hf
            refine lv_bipush (v := -4) hx hb dX4_find_56 (by decide) ?_
            cases hf
            exact mretI hx hb hr hlk hP hS dX4_find_58
          · have hf := (if_neg h).symm.trans hf
            refine lv_aload_n hx hb dX4_find_46 rfl (lv_at hl 0 rfl) ?_
            refine va_get (D := D) (ci := 4) (v := .ref (ad 28)) (C := RX4) (T := TX4) (N := 10) hx hb hts inX4 hown hKK.1 hP 0 rfl rfl 7 (by decide) (hts _ q177) (fun _ h => h) rfl dX4_find_47 ?_
            refine va_get (D := D) (ci := 3) (v := .int y10.2.2.2) (C := RX3) (T := TX3) (N := 3) hx hb hts inX3 hown hKK.1 hP 28 rfl rfl 2 (by decide) (hts _ q161) (fun _ h => h) rfl dX4_find_50 ?_
            refine lv_goto (tgt := 58) hx hb dX4_find_53 (by decide) ?_
            cases hf
            exact mretI hx hb hr hlk hP hS dX4_find_58
      · have hf := (if_neg h).symm.trans hf
        refine lv_bipush (v := -2) hx hb dX4_find_22 (by decide) ?_
        cases hf
        exact mretI hx hb hr hlk hP hS dX4_find_24
  · have hf := (if_pos h).symm.trans hf
    refine lv_iconst (v := -1) hx hb dX4_find_11 (by decide) ?_
    cases hf
    exact mretI hx hb hr hlk hP hS dX4_find_12

abbrev rmX4_lose : Room := { frames := 0, cells := 0, slots := 0, locals := 0 }
theorem miX4_lose : miV yX4_lose cX4_lose 2 (some .int) 0 := ⟨q619, q40, q617, q618, by decide +kernel⟩
set_option maxHeartbeats 4000000 in
set_option maxRecDepth 100000 in
theorem mtX4_lose (l : Launch) (D : va_G) (cy : Nat → ClassId) (z : zT) (ad : Nat → Nat) (S : tH) (r0 : Int32) (S0 : tH) (hf : fX4_lose S = some (r0, S0)) : mmet l yX4_lose cX4_lose 2 (some .int) rmX4_lose D cy z (wH cy ad S) (wH cy ad S0) [.ref (ad 0)] (some (.int r0)) := by
  refine mmet_of (by decide +kernel) (Nat.le_of_ble_eq_true rfl) (fun p e s m below meth c hx hb hr hml hown hts hlk hP hD hS hA0 hKK ls hl => ?_)
  have hown : s.vm.findClass "HillSight" = some m.cls := hown
  have hl : lv_has ls 2 [(0, .ref (ad 0))] := hl
  unfold fX4_lose at hf
  refine lv_aload_n hx hb dX4_lose_0 rfl (lv_at hl 0 rfl) ?_
  refine va_get (D := D) (ci := 4) (v := .ref (ad 28)) (C := RX4) (T := TX4) (N := 10) hx hb hts inX4 hown hKK.1 hP 0 rfl rfl 7 (by decide) (hts _ q177) (fun _ h => h) rfl dX4_lose_1 ?_
  refine va_get (D := D) (ci := 3) (v := .int S.2.2.2.2.2.2.2.1.2.2) (C := RX3) (T := TX3) (N := 3) hx hb hts inX3 hown hKK.1 hP 28 rfl rfl 2 (by decide) (hts _ q161) (fun _ h => h) rfl dX4_lose_4 ?_
  refine lv_istore_n (lv' := [(1, .int S.2.2.2.2.2.2.2.1.2.2), (0, .ref (ad 0))]) hx hb dX4_lose_7 rfl hl (by decide) rfl (fun ls hl => ?_)
  refine lv_aload_n hx hb dX4_lose_8 rfl (lv_at hl 1 rfl) ?_
  refine va_get (D := D) (ci := 4) (v := .ref (ad 28)) (C := RX4) (T := TX4) (N := 10) hx hb hts inX4 hown hKK.1 hP 0 rfl rfl 7 (by decide) (hts _ q177) (fun _ h => h) rfl dX4_lose_9 ?_
  refine lv_iconst (v := 0) hx hb dX4_lose_12 (by decide) ?_
  refine va_put (D := D) (ci := 3) (v := .int (0 : Int32)) (ty := .int) (C := RX3) (T := TX3) (N := 3) hx hb hts inX3 tyX3 tyX3_ok nmX3 hown hKK.1 hP hD hS 28 rfl rfl 2 (by decide) (hts _ q161) (fun _ h => h) rfl (by decide +kernel) rfl rfl (Nat.le_of_ble_eq_true rfl) dX4_lose_13 (fun H locs hP hD hS => ?_)
  have hP : va_P D vwCl (wH cy ad (S.1, S.2.1, S.2.2.1, S.2.2.2.1, S.2.2.2.2.1, S.2.2.2.2.2.1, S.2.2.2.2.2.2.1, (S.2.2.2.2.2.2.2.1.1, S.2.2.2.2.2.2.2.1.2.1, (0 : Int32)), S.2.2.2.2.2.2.2.2.1, S.2.2.2.2.2.2.2.2.2)) H := hP
  have hD : va_D (adr (wH cy ad S)) (wH cy ad (S.1, S.2.1, S.2.2.1, S.2.2.2.1, S.2.2.2.2.1, S.2.2.2.2.2.1, S.2.2.2.2.2.2.1, (S.2.2.2.2.2.2.2.1.1, S.2.2.2.2.2.2.2.1.2.1, (0 : Int32)), S.2.2.2.2.2.2.2.2.1, S.2.2.2.2.2.2.2.2.2)) := hD
  refine lv_iload_n hx hb dX4_lose_16 rfl (lv_at hl 0 rfl) ?_
  cases hf
  exact mretI hx hb hr hlk hP hS dX4_lose_17

abbrev rmX4_which : Room := { frames := 4, cells := 0, slots := 0, locals := 108 }
theorem miX4_which : miV yX4_which cX4_which 4 (some .long) 0 := ⟨q623, q40, q621, q622, by decide +kernel⟩
set_option maxHeartbeats 4000000 in
set_option maxRecDepth 100000 in
theorem mtX4_which (l : Launch) (D : va_G) (cy : Nat → ClassId) (z : zT) (ad : Nat → Nat) (S : tH) (r0 : Int64) (hf : fX4_which S = some r0) : pmet l yX4_which cX4_which 4 (some .long) rmX4_which D cy z (wH cy ad S) [.ref (ad 0)] (some (.long r0)) := by
  refine pmet_of (by decide +kernel) (Nat.le_of_ble_eq_true rfl) (fun p e s m below meth c hx hb hr hml hown hts hlk hP hKK ls hl => ?_)
  have hS : va_S noF s.heap s.heap [] := va_S.rf
  have hA0 : ∀ q, noF q → zA z q := fun _ h => h.elim
  have hown : s.vm.findClass "HillSight" = some m.cls := hown
  have hl : lv_has ls 4 [(0, .ref (ad 0))] := hl
  have w_4 : ∀ (k42 : Int64 → Option (Int64)) (hk42 : ∀ (v1_4 : Int64) (ls : Array Slot), k42 v1_4 = some r0 → lv_has ls 4 [(1, .long v1_4)] → W p l e rmX4_which s m ([.ref (ad 0)] : List Value).toArray below meth c s.heap [] 0 0 (MQ below (pQ (some (.long r0))) ([.ref (ad 0)] : List Value).toArray s 0 0 noF) (F0 m 42 ls [])) (n : Nat) (v1_4 : Int64) (v3_4 : Int32) (ls : Array Slot), fX4_which_4 S k42 n v1_4 v3_4 = some r0 → lv_has ls 4 [(0, .ref (ad 0)), (1, .long v1_4), (3, .int v3_4)] → W p l e rmX4_which s m ([.ref (ad 0)] : List Value).toArray below meth c s.heap [] 0 0 (MQ below (pQ (some (.long r0))) ([.ref (ad 0)] : List Value).toArray s 0 0 noF) (F0 m 4 ls []) := by
    intro k42 hk42 n
    induction n with
    | zero =>
      intro v1_4 v3_4 ls hf hl
      cases (show (none : Option (Int64)) = some r0 from hf)
    | succ n ih =>
      intro v1_4 v3_4 ls hf hl
      rw [fX4_which_4] at hf
      refine lv_iload_n hx hb dX4_which_4 rfl (lv_at hl 2 rfl) ?_
      refine lv_aload_n hx hb dX4_which_5 rfl (lv_at hl 0 rfl) ?_
      refine va_get (D := D) (ci := 4) (v := .ref (ad 1)) (C := RX4) (T := TX4) (N := 10) hx hb hts inX4 hown hKK.1 hP 0 rfl rfl 0 (by decide) (hts _ q170) (fun _ h => h) rfl dX4_which_6 ?_
      obtain ⟨r2, hc1, hf⟩ := bd_some hf
      have hP1 := hP.sub (ws' := wL cy (ad 1) (ad 2) (ad 3) (ad 4) (ad 5) S.1) [1, 2, 3, 4, 5] rfl
      refine pCallVI ⟨hx, hb, hml, hown, hts⟩ (mtX1_cellCount l D cy z (ad 1) (ad 2) (ad 3) (ad 4) (ad 5) S.1 r2 hc1) miX1_cellCount q374 ⟨Nat.le_of_ble_eq_true rfl, Nat.le_of_ble_eq_true rfl⟩ ⟨rfl, rfl⟩ hP1 hKK hS hA0 (va_recv hKK.1 hP1 (ci := 1) (q0 := 0) rfl rfl) rfl hl.1 rfl (Nat.le_of_ble_eq_true rfl) dX4_which_9 ⟨Nat.zero_le _, Nat.zero_le _⟩ ?_
      refine lv_icmp_ge (tgt := 42) hx hb dX4_which_12 (by decide) (fun h => ?_) (fun h => ?_)
      · have hf := (if_pos h).symm.trans hf
        exact hk42 v1_4 ls hf (lv_sub hl [1] rfl)
      · have hf := (if_neg h).symm.trans hf
        refine lv_aload_n hx hb dX4_which_15 rfl (lv_at hl 0 rfl) ?_
        refine va_get (D := D) (ci := 4) (v := .ref (ad 28)) (C := RX4) (T := TX4) (N := 10) hx hb hts inX4 hown hKK.1 hP 0 rfl rfl 7 (by decide) (hts _ q177) (fun _ h => h) rfl dX4_which_16 ?_
        refine lv_iload_n hx hb dX4_which_19 rfl (lv_at hl 2 rfl) ?_
        refine lv_aload_n hx hb dX4_which_20 rfl (lv_at hl 0 rfl) ?_
        refine va_get (D := D) (ci := 4) (v := .ref (ad 1)) (C := RX4) (T := TX4) (N := 10) hx hb hts inX4 hown hKK.1 hP 0 rfl rfl 0 (by decide) (hts _ q170) (fun _ h => h) rfl dX4_which_21 ?_
        obtain ⟨r4, hc3, hf⟩ := bd_some hf
        have hP1 := hP.sub (ws' := wO cy (ad 28) (ad 29) (ad 30) S.2.2.2.2.2.2.2.1 ++ wL cy (ad 1) (ad 2) (ad 3) (ad 4) (ad 5) S.1) [28, 29, 30, 1, 2, 3, 4, 5] rfl
        refine pCallVI ⟨hx, hb, hml, hown, hts⟩ (mtX3_agreeFrom l D cy z (ad 28) (ad 29) (ad 30) (ad 1) (ad 2) (ad 3) (ad 4) (ad 5) S.2.2.2.2.2.2.2.1 S.1 v3_4 r4 hc3) miX3_agreeFrom q624 ⟨Nat.le_of_ble_eq_true rfl, Nat.le_of_ble_eq_true rfl⟩ ⟨rfl, rfl⟩ hP1 hKK hS hA0 (va_recv hKK.1 hP1 (ci := 3) (q0 := 0) rfl rfl) rfl hl.1 rfl (Nat.le_of_ble_eq_true rfl) dX4_which_24 ⟨Nat.zero_le _, Nat.zero_le _⟩ ?_
        refine lv_if_eq (tgt := 36) hx hb dX4_which_27 (by decide) (fun h => ?_) (fun h => ?_)
        · have hf := (if_pos h).symm.trans hf
          obtain ⟨x5, ex5, hf⟩ := nm_ex hf
          refine lv_iinc (v := x5) (lv' := [(3, .int x5), (0, .ref (ad 0)), (1, .long v1_4)]) hx hb dX4_which_36 hl (k := 2) rfl (Eq.trans rfl ex5) (by decide) rfl (fun ls hl => ?_)
          refine lv_goto (tgt := 4) hx hb dX4_which_39 (by decide) ?_
          exact ih v1_4 x5 ls hf (lv_sub hl [1, 2, 0] rfl)
        · have hf := (if_neg h).symm.trans hf
          refine lv_lload_n hx hb dX4_which_30 rfl (lv_at hl 1 rfl) ?_
          refine lv_lconst (v := 1) hx hb dX4_which_31 (by decide) ?_
          refine lv_iload_n hx hb dX4_which_32 rfl (lv_at hl 2 rfl) ?_
          refine lv_lshl hx hb dX4_which_33 rfl ?_
          refine lv_lor hx hb dX4_which_34 ?_
          refine nm_l hf (fun x6 hf => ?_)
          refine lv_lstore_n (lv' := [(1, .long x6), (0, .ref (ad 0)), (3, .int v3_4)]) hx hb dX4_which_35 rfl hl (by decide) rfl (fun ls hl => ?_)
          obtain ⟨x7, ex7, hf⟩ := nm_ex hf
          refine lv_iinc (v := x7) (lv' := [(3, .int x7), (1, .long x6), (0, .ref (ad 0))]) hx hb dX4_which_36 hl (k := 2) rfl (Eq.trans rfl ex7) (by decide) rfl (fun ls hl => ?_)
          refine lv_goto (tgt := 4) hx hb dX4_which_39 (by decide) ?_
          exact ih x6 x7 ls hf (lv_sub hl [2, 1, 0] rfl)
  unfold fX4_which at hf
  refine lv_lconst (v := 0) hx hb dX4_which_0 (by decide) ?_
  refine lv_lstore_n (lv' := [(1, .long (0 : Int64)), (0, .ref (ad 0))]) hx hb dX4_which_1 rfl hl (by decide) rfl (fun ls hl => ?_)
  refine lv_iconst (v := 0) hx hb dX4_which_2 (by decide) ?_
  refine lv_istore_n (lv' := [(3, .int (0 : Int32)), (1, .long (0 : Int64)), (0, .ref (ad 0))]) hx hb dX4_which_3 rfl hl (by decide) rfl (fun ls hl => ?_)
  refine w_4 _ ?_ _ (0 : Int64) (0 : Int32) ls hf (lv_sub hl [2, 1, 0] rfl)
  · intro y8 ls hf hl
    refine lv_lload_n hx hb dX4_which_42 rfl (lv_at hl 0 rfl) ?_
    exact pretL hx hb hr hlk hf dX4_which_43

abbrev rmX4_share : Room := { frames := 5, cells := 0, slots := 0, locals := 129 }
theorem miX4_share : miV yX4_share cX4_share 8 (some .int) 2 := ⟨q633, q40, q631, q632, by decide +kernel⟩
set_option maxHeartbeats 4000000 in
set_option maxRecDepth 100000 in
theorem mtX4_share (l : Launch) (D : va_G) (cy : Nat → ClassId) (z : zT) (ad : Nat → Nat) (S : tH) (u1 : Int32) (u2 : Int32) (r0 : Int32) (hf : fX4_share S u1 u2 = some r0) : pmet l yX4_share cX4_share 8 (some .int) rmX4_share D cy z (wH cy ad S) [.ref (ad 0), .int u1, .int u2] (some (.int r0)) := by
  refine pmet_of (by decide +kernel) (Nat.le_of_ble_eq_true rfl) (fun p e s m below meth c hx hb hr hml hown hts hlk hP hKK ls hl => ?_)
  have hS : va_S noF s.heap s.heap [] := va_S.rf
  have hA0 : ∀ q, noF q → zA z q := fun _ h => h.elim
  have hown : s.vm.findClass "HillSight" = some m.cls := hown
  have hl : lv_has ls 8 [(0, .ref (ad 0)), (1, .int u1), (2, .int u2)] := hl
  have w_28 : ∀ (g2_28 : Int32) (g3_28 : Int64) (k85 : Int32 → Option (Int32)) (hk85 : ∀ (v5_28 : Int32) (ls : Array Slot), k85 v5_28 = some r0 → lv_has ls 8 [(2, .int g2_28), (5, .int v5_28)] → W p l e rmX4_share s m ([.ref (ad 0), .int u1, .int u2] : List Value).toArray below meth c s.heap [] 0 0 (MQ below (pQ (some (.int r0))) ([.ref (ad 0), .int u1, .int u2] : List Value).toArray s 0 0 noF) (F0 m 85 ls [])) (n : Nat) (v5_28 : Int32) (v6_28 : Int32) (ls : Array Slot), fX4_share_28 S g2_28 g3_28 k85 n v5_28 v6_28 = some r0 → lv_has ls 8 [(0, .ref (ad 0)), (2, .int g2_28), (3, .long g3_28), (5, .int v5_28), (6, .int v6_28)] → W p l e rmX4_share s m ([.ref (ad 0), .int u1, .int u2] : List Value).toArray below meth c s.heap [] 0 0 (MQ below (pQ (some (.int r0))) ([.ref (ad 0), .int u1, .int u2] : List Value).toArray s 0 0 noF) (F0 m 28 ls []) := by
    intro g2_28 g3_28 k85 hk85 n
    induction n with
    | zero =>
      intro v5_28 v6_28 ls hf hl
      cases (show (none : Option (Int32)) = some r0 from hf)
    | succ n ih =>
      intro v5_28 v6_28 ls hf hl
      rw [fX4_share_28] at hf
      refine lv_iload hx hb dX4_share_28 (lv_at hl 4 rfl) ?_
      refine lv_aload_n hx hb dX4_share_30 rfl (lv_at hl 0 rfl) ?_
      refine va_get (D := D) (ci := 4) (v := .ref (ad 1)) (C := RX4) (T := TX4) (N := 10) hx hb hts inX4 hown hKK.1 hP 0 rfl rfl 0 (by decide) (hts _ q170) (fun _ h => h) rfl dX4_share_31 ?_
      obtain ⟨r6, hc5, hf⟩ := bd_some hf
      have hP1 := hP.sub (ws' := wL cy (ad 1) (ad 2) (ad 3) (ad 4) (ad 5) S.1) [1, 2, 3, 4, 5] rfl
      refine pCallVI ⟨hx, hb, hml, hown, hts⟩ (mtX1_cellCount l D cy z (ad 1) (ad 2) (ad 3) (ad 4) (ad 5) S.1 r6 hc5) miX1_cellCount q374 ⟨Nat.le_of_ble_eq_true rfl, Nat.le_of_ble_eq_true rfl⟩ ⟨rfl, rfl⟩ hP1 hKK hS hA0 (va_recv hKK.1 hP1 (ci := 1) (q0 := 0) rfl rfl) rfl hl.1 rfl (Nat.le_of_ble_eq_true rfl) dX4_share_34 ⟨Nat.zero_le _, Nat.zero_le _⟩ ?_
      refine lv_icmp_ge (tgt := 85) hx hb dX4_share_37 (by decide) (fun h => ?_) (fun h => ?_)
      · have hf := (if_pos h).symm.trans hf
        exact hk85 v5_28 ls hf (lv_sub hl [1, 3] rfl)
      · have hf := (if_neg h).symm.trans hf
        refine lv_lload_n hx hb dX4_share_40 rfl (lv_at hl 2 rfl) ?_
        refine lv_iload hx hb dX4_share_41 (lv_at hl 4 rfl) ?_
        obtain ⟨r8, hc7, hf⟩ := bd_some hf
        have hP1 := hP.sub (ws' := []) [] rfl
        refine pCallSI ⟨hx, hb, hml, hown, hts⟩ (mtX4_contains l D cy z g3_28 v6_28 r8 hc7) miX4_contains q607 ⟨Nat.le_of_ble_eq_true rfl, Nat.le_of_ble_eq_true rfl⟩ ⟨rfl, rfl⟩ hP1 hKK hS hA0 rfl hl.1 rfl (Nat.le_of_ble_eq_true rfl) dX4_share_43 ⟨Nat.zero_le _, Nat.zero_le _⟩ ?_
        refine lv_if_eq (tgt := 61) hx hb dX4_share_46 (by decide) (fun h => ?_) (fun h => ?_)
        · have hf := (if_pos h).symm.trans hf
          refine lv_iconst (v := 0) hx hb dX4_share_61 (by decide) ?_
          refine lv_istore (lv' := [(7, .int (0 : Int32)), (0, .ref (ad 0)), (2, .int g2_28), (3, .long g3_28), (5, .int v5_28), (6, .int v6_28)]) hx hb dX4_share_62 hl (by decide) rfl (fun ls hl => ?_)
          refine lv_iload hx hb dX4_share_64 (lv_at hl 0 rfl) ?_
          refine lv_if_le (tgt := 79) hx hb dX4_share_66 (by decide) (fun _ => ?_) (fun h => absurd h (by decide))
          obtain ⟨x9, ex9, hf⟩ := nm_ex hf
          refine lv_iinc (v := x9) (lv' := [(6, .int x9), (7, .int (0 : Int32)), (0, .ref (ad 0)), (2, .int g2_28), (3, .long g3_28), (5, .int v5_28)]) hx hb dX4_share_79 hl (k := 5) rfl (Eq.trans rfl ex9) (by decide) rfl (fun ls hl => ?_)
          refine lv_goto (tgt := 28) hx hb dX4_share_82 (by decide) ?_
          exact ih v5_28 x9 ls hf (lv_sub hl [2, 3, 4, 5, 0] rfl)
        · have hf := (if_neg h).symm.trans hf
          refine lv_aload_n hx hb dX4_share_49 rfl (lv_at hl 0 rfl) ?_
          refine va_get (D := D) (ci := 4) (v := .ref (ad 1)) (C := RX4) (T := TX4) (N := 10) hx hb hts inX4 hown hKK.1 hP 0 rfl rfl 0 (by decide) (hts _ q170) (fun _ h => h) rfl dX4_share_50 ?_
          refine lv_iload hx hb dX4_share_53 (lv_at hl 4 rfl) ?_
          obtain ⟨r11, hc10, hf⟩ := bd_some hf
          have hP1 := hP.sub (ws' := wL cy (ad 1) (ad 2) (ad 3) (ad 4) (ad 5) S.1) [1, 2, 3, 4, 5] rfl
          refine pCallVI ⟨hx, hb, hml, hown, hts⟩ (mtX1_watchersOf l D cy z (ad 1) (ad 2) (ad 3) (ad 4) (ad 5) S.1 v6_28 r11 hc10) miX1_watchersOf q444 ⟨Nat.le_of_ble_eq_true rfl, Nat.le_of_ble_eq_true rfl⟩ ⟨rfl, rfl⟩ hP1 hKK hS hA0 (va_recv hKK.1 hP1 (ci := 1) (q0 := 0) rfl rfl) rfl hl.1 rfl (Nat.le_of_ble_eq_true rfl) dX4_share_55 ⟨Nat.zero_le _, Nat.zero_le _⟩ ?_
          refine lv_goto (tgt := 62) hx hb dX4_share_58 (by decide) ?_
          refine lv_istore (lv' := [(7, .int r11), (0, .ref (ad 0)), (2, .int g2_28), (3, .long g3_28), (5, .int v5_28), (6, .int v6_28)]) hx hb dX4_share_62 hl (by decide) rfl (fun ls hl => ?_)
          refine lv_iload hx hb dX4_share_64 (lv_at hl 0 rfl) ?_
          refine lv_if_le (tgt := 79) hx hb dX4_share_66 (by decide) (fun h => ?_) (fun h => ?_)
          · have hf := (if_pos h).symm.trans hf
            obtain ⟨x12, ex12, hf⟩ := nm_ex hf
            refine lv_iinc (v := x12) (lv' := [(6, .int x12), (7, .int r11), (0, .ref (ad 0)), (2, .int g2_28), (3, .long g3_28), (5, .int v5_28)]) hx hb dX4_share_79 hl (k := 5) rfl (Eq.trans rfl ex12) (by decide) rfl (fun ls hl => ?_)
            refine lv_goto (tgt := 28) hx hb dX4_share_82 (by decide) ?_
            exact ih v5_28 x12 ls hf (lv_sub hl [2, 3, 4, 5, 0] rfl)
          · have hf := (if_neg h).symm.trans hf
            refine lv_iload hx hb dX4_share_69 (lv_at hl 4 rfl) ?_
            refine lv_bipush (v := 60) hx hb dX4_share_71 (by decide) ?_
            refine lv_iload hx hb dX4_share_73 (lv_at hl 0 rfl) ?_
            obtain ⟨hg13, hf⟩ := gd_some hf
            refine lv_idiv hx hb dX4_share_75 (nz_ne hg13) ?_
            refine lv_iadd hx hb dX4_share_76 ?_
            refine nm_i hf (fun x14 hf => ?_)
            refine lv_istore (lv' := [(5, .int x14), (7, .int r11), (0, .ref (ad 0)), (2, .int g2_28), (3, .long g3_28), (6, .int v6_28)]) hx hb dX4_share_77 hl (by decide) rfl (fun ls hl => ?_)
            obtain ⟨x15, ex15, hf⟩ := nm_ex hf
            refine lv_iinc (v := x15) (lv' := [(6, .int x15), (5, .int x14), (7, .int r11), (0, .ref (ad 0)), (2, .int g2_28), (3, .long g3_28)]) hx hb dX4_share_79 hl (k := 5) rfl (Eq.trans rfl ex15) (by decide) rfl (fun ls hl => ?_)
            refine lv_goto (tgt := 28) hx hb dX4_share_82 (by decide) ?_
            exact ih x14 x15 ls hf (lv_sub hl [3, 4, 5, 1, 0] rfl)
  unfold fX4_share at hf
  refine lv_aload_n hx hb dX4_share_0 rfl (lv_at hl 0 rfl) ?_
  refine va_get (D := D) (ci := 4) (v := .ref (ad 1)) (C := RX4) (T := TX4) (N := 10) hx hb hts inX4 hown hKK.1 hP 0 rfl rfl 0 (by decide) (hts _ q170) (fun _ h => h) rfl dX4_share_1 ?_
  refine lv_iload_n hx hb dX4_share_4 rfl (lv_at hl 1 rfl) ?_
  obtain ⟨r2, hc1, hf⟩ := bd_some hf
  have hP1 := hP.sub (ws' := wL cy (ad 1) (ad 2) (ad 3) (ad 4) (ad 5) S.1) [1, 2, 3, 4, 5] rfl
  refine pCallVI ⟨hx, hb, hml, hown, hts⟩ (mtX1_hasTower l D cy z (ad 1) (ad 2) (ad 3) (ad 4) (ad 5) S.1 u1 r2 hc1) miX1_hasTower q460 ⟨Nat.le_of_ble_eq_true rfl, Nat.le_of_ble_eq_true rfl⟩ ⟨rfl, rfl⟩ hP1 hKK hS hA0 (va_recv hKK.1 hP1 (ci := 1) (q0 := 0) rfl rfl) rfl hl.1 rfl (Nat.le_of_ble_eq_true rfl) dX4_share_5 ⟨Nat.zero_le _, Nat.zero_le _⟩ ?_
  refine lv_if_ne (tgt := 13) hx hb dX4_share_8 (by decide) (fun h => ?_) (fun h => ?_)
  · have hf := (if_neg h).symm.trans hf
    refine lv_aload_n hx hb dX4_share_13 rfl (lv_at hl 0 rfl) ?_
    refine va_get (D := D) (ci := 4) (v := .ref (ad 1)) (C := RX4) (T := TX4) (N := 10) hx hb hts inX4 hown hKK.1 hP 0 rfl rfl 0 (by decide) (hts _ q170) (fun _ h => h) rfl dX4_share_14 ?_
    refine lv_iload_n hx hb dX4_share_17 rfl (lv_at hl 1 rfl) ?_
    obtain ⟨r4, hc3, hf⟩ := bd_some hf
    have hP1 := hP.sub (ws' := wL cy (ad 1) (ad 2) (ad 3) (ad 4) (ad 5) S.1) [1, 2, 3, 4, 5] rfl
    refine pCallVL ⟨hx, hb, hml, hown, hts⟩ (mtX1_towerView l D cy z (ad 1) (ad 2) (ad 3) (ad 4) (ad 5) S.1 u1 r4 hc3) miX1_towerView q464 ⟨Nat.le_of_ble_eq_true rfl, Nat.le_of_ble_eq_true rfl⟩ ⟨rfl, rfl⟩ hP1 hKK hS hA0 (va_recv hKK.1 hP1 (ci := 1) (q0 := 0) rfl rfl) rfl hl.1 rfl (Nat.le_of_ble_eq_true rfl) dX4_share_18 ⟨Nat.zero_le _, Nat.zero_le _⟩ ?_
    refine lv_lstore_n (lv' := [(3, .long r4), (0, .ref (ad 0)), (1, .int u1), (2, .int u2)]) hx hb dX4_share_21 rfl hl (by decide) rfl (fun ls hl => ?_)
    refine lv_iconst (v := 0) hx hb dX4_share_22 (by decide) ?_
    refine lv_istore (lv' := [(5, .int (0 : Int32)), (3, .long r4), (0, .ref (ad 0)), (1, .int u1), (2, .int u2)]) hx hb dX4_share_23 hl (by decide) rfl (fun ls hl => ?_)
    refine lv_iconst (v := 0) hx hb dX4_share_25 (by decide) ?_
    refine lv_istore (lv' := [(6, .int (0 : Int32)), (5, .int (0 : Int32)), (3, .long r4), (0, .ref (ad 0)), (1, .int u1), (2, .int u2)]) hx hb dX4_share_26 hl (by decide) rfl (fun ls hl => ?_)
    refine w_28 u2 r4 _ ?_ _ (0 : Int32) (0 : Int32) ls hf (lv_sub hl [3, 5, 2, 1, 0] rfl)
    · intro y16 ls hf hl
      refine lv_iload hx hb dX4_share_85 (lv_at hl 1 rfl) ?_
      refine lv_bipush (v := 60) hx hb dX4_share_87 (by decide) ?_
      refine lv_iload_n hx hb dX4_share_89 rfl (lv_at hl 0 rfl) ?_
      obtain ⟨r18, hc17, hf⟩ := bd_some hf
      have hP1 := hP.sub (ws' := []) [] rfl
      refine pCallSI ⟨hx, hb, hml, hown, hts⟩ (mtX4_lowestTerms l D cy z y16 (60 : Int32) u2 r18 hc17) miX4_lowestTerms q595 ⟨Nat.le_of_ble_eq_true rfl, Nat.le_of_ble_eq_true rfl⟩ ⟨rfl, rfl⟩ hP1 hKK hS hA0 rfl hl.1 rfl (Nat.le_of_ble_eq_true rfl) dX4_share_90 ⟨Nat.zero_le _, Nat.zero_le _⟩ ?_
      exact pretI hx hb hr hlk hf dX4_share_93
  · have hf := (if_pos h).symm.trans hf
    refine lv_iconst (v := -1) hx hb dX4_share_11 (by decide) ?_
    exact pretI hx hb hr hlk hf dX4_share_12

abbrev rmX4_chance : Room := { frames := 4, cells := 0, slots := 0, locals := 106 }
theorem miX4_chance : miV yX4_chance cX4_chance 8 (some .int) 3 := ⟨q637, q40, q635, q636, by decide +kernel⟩
set_option maxHeartbeats 4000000 in
set_option maxRecDepth 100000 in
theorem mtX4_chance (l : Launch) (D : va_G) (cy : Nat → ClassId) (z : zT) (ad : Nat → Nat) (S : tH) (u1 : Int32) (u2 : Int32) (u3 : Int32) (r0 : Int32) (hf : fX4_chance S u1 u2 u3 = some r0) : pmet l yX4_chance cX4_chance 8 (some .int) rmX4_chance D cy z (wH cy ad S) [.ref (ad 0), .int u1, .int u2, .int u3] (some (.int r0)) := by
  refine pmet_of (by decide +kernel) (Nat.le_of_ble_eq_true rfl) (fun p e s m below meth c hx hb hr hml hown hts hlk hP hKK ls hl => ?_)
  have hS : va_S noF s.heap s.heap [] := va_S.rf
  have hA0 : ∀ q, noF q → zA z q := fun _ h => h.elim
  have hown : s.vm.findClass "HillSight" = some m.cls := hown
  have hl : lv_has ls 8 [(0, .ref (ad 0)), (1, .int u1), (2, .int u2), (3, .int u3)] := hl
  have w_45 : ∀ (g2_45 : Int32) (g3_45 : Int32) (g6_45 : Int32) (k71 : Int32 → Int32 → Option (Int32)) (hk71 : ∀ (v4_45 : Int32) (v5_45 : Int32) (ls : Array Slot), k71 v4_45 v5_45 = some r0 → lv_has ls 8 [(3, .int g3_45), (4, .int v4_45), (5, .int v5_45)] → W p l e rmX4_chance s m ([.ref (ad 0), .int u1, .int u2, .int u3] : List Value).toArray below meth c s.heap [] 0 0 (MQ below (pQ (some (.int r0))) ([.ref (ad 0), .int u1, .int u2, .int u3] : List Value).toArray s 0 0 noF) (F0 m 71 ls [])) (n : Nat) (v4_45 : Int32) (v5_45 : Int32) (v7_45 : Int32) (ls : Array Slot), fX4_chance_45 S g2_45 g3_45 g6_45 k71 n v4_45 v5_45 v7_45 = some r0 → lv_has ls 8 [(2, .int g2_45), (3, .int g3_45), (4, .int v4_45), (5, .int v5_45), (6, .int g6_45), (7, .int v7_45)] → W p l e rmX4_chance s m ([.ref (ad 0), .int u1, .int u2, .int u3] : List Value).toArray below meth c s.heap [] 0 0 (MQ below (pQ (some (.int r0))) ([.ref (ad 0), .int u1, .int u2, .int u3] : List Value).toArray s 0 0 noF) (F0 m 45 ls []) := by
    intro g2_45 g3_45 g6_45 k71 hk71 n
    induction n with
    | zero =>
      intro v4_45 v5_45 v7_45 ls hf hl
      cases (show (none : Option (Int32)) = some r0 from hf)
    | succ n ih =>
      intro v4_45 v5_45 v7_45 ls hf hl
      rw [fX4_chance_45] at hf
      refine lv_iload hx hb dX4_chance_45 (lv_at hl 5 rfl) ?_
      refine lv_iload hx hb dX4_chance_47 (lv_at hl 4 rfl) ?_
      refine lv_icmp_ge (tgt := 71) hx hb dX4_chance_49 (by decide) (fun h => ?_) (fun h => ?_)
      · have hf := (if_pos h).symm.trans hf
        exact hk71 v4_45 v5_45 ls hf (lv_sub hl [1, 2, 3] rfl)
      · have hf := (if_neg h).symm.trans hf
        refine lv_iload hx hb dX4_chance_52 (lv_at hl 2 rfl) ?_
        refine lv_iload_n hx hb dX4_chance_54 rfl (lv_at hl 0 rfl) ?_
        refine lv_imul hx hb dX4_chance_55 ?_
        refine nm_i hf (fun x5 hf => ?_)
        refine lv_istore (lv' := [(4, .int x5), (2, .int g2_45), (3, .int g3_45), (5, .int v5_45), (6, .int g6_45), (7, .int v7_45)]) hx hb dX4_chance_56 hl (by decide) rfl (fun ls hl => ?_)
        refine lv_iload hx hb dX4_chance_58 (lv_at hl 3 rfl) ?_
        refine lv_bipush (v := 10) hx hb dX4_chance_60 (by decide) ?_
        refine lv_imul hx hb dX4_chance_62 ?_
        refine nm_i hf (fun x6 hf => ?_)
        refine lv_istore (lv' := [(5, .int x6), (4, .int x5), (2, .int g2_45), (3, .int g3_45), (6, .int g6_45), (7, .int v7_45)]) hx hb dX4_chance_63 hl (by decide) rfl (fun ls hl => ?_)
        obtain ⟨x7, ex7, hf⟩ := nm_ex hf
        refine lv_iinc (v := x7) (lv' := [(7, .int x7), (5, .int x6), (4, .int x5), (2, .int g2_45), (3, .int g3_45), (6, .int g6_45)]) hx hb dX4_chance_65 hl (k := 5) rfl (Eq.trans rfl ex7) (by decide) rfl (fun ls hl => ?_)
        refine lv_goto (tgt := 45) hx hb dX4_chance_68 (by decide) ?_
        exact ih x5 x6 x7 ls hf (lv_sub hl [3, 4, 2, 1, 5, 0] rfl)
  unfold fX4_chance at hf
  refine lv_aload_n hx hb dX4_chance_0 rfl (lv_at hl 0 rfl) ?_
  refine va_get (D := D) (ci := 4) (v := .ref (ad 1)) (C := RX4) (T := TX4) (N := 10) hx hb hts inX4 hown hKK.1 hP 0 rfl rfl 0 (by decide) (hts _ q170) (fun _ h => h) rfl dX4_chance_1 ?_
  refine lv_iload_n hx hb dX4_chance_4 rfl (lv_at hl 1 rfl) ?_
  obtain ⟨r2, hc1, hf⟩ := bd_some hf
  have hP1 := hP.sub (ws' := wL cy (ad 1) (ad 2) (ad 3) (ad 4) (ad 5) S.1) [1, 2, 3, 4, 5] rfl
  refine pCallVI ⟨hx, hb, hml, hown, hts⟩ (mtX1_hasCell l D cy z (ad 1) (ad 2) (ad 3) (ad 4) (ad 5) S.1 u1 r2 hc1) miX1_hasCell q438 ⟨Nat.le_of_ble_eq_true rfl, Nat.le_of_ble_eq_true rfl⟩ ⟨rfl, rfl⟩ hP1 hKK hS hA0 (va_recv hKK.1 hP1 (ci := 1) (q0 := 0) rfl rfl) rfl hl.1 rfl (Nat.le_of_ble_eq_true rfl) dX4_chance_5 ⟨Nat.zero_le _, Nat.zero_le _⟩ ?_
  refine lv_if_ne (tgt := 13) hx hb dX4_chance_8 (by decide) (fun h => ?_) (fun h => ?_)
  · have hf := (if_neg h).symm.trans hf
    refine lv_iload_n hx hb dX4_chance_13 rfl (lv_at hl 2 rfl) ?_
    refine lv_if_lt (tgt := 23) hx hb dX4_chance_14 (by decide) (fun h => ?_) (fun h => ?_)
    · have hf := (if_pos h).symm.trans hf
      refine lv_bipush (v := -2) hx hb dX4_chance_23 (by decide) ?_
      exact pretI hx hb hr hlk hf dX4_chance_25
    · have hf := (if_neg h).symm.trans hf
      refine lv_iload_n hx hb dX4_chance_17 rfl (lv_at hl 2 rfl) ?_
      refine lv_bipush (v := 10) hx hb dX4_chance_18 (by decide) ?_
      refine lv_icmp_le (tgt := 26) hx hb dX4_chance_20 (by decide) (fun h => ?_) (fun h => ?_)
      · have hf := (if_pos h).symm.trans hf
        refine lv_iconst (v := 1) hx hb dX4_chance_26 (by decide) ?_
        refine lv_istore (lv' := [(4, .int (1 : Int32)), (0, .ref (ad 0)), (1, .int u1), (2, .int u2), (3, .int u3)]) hx hb dX4_chance_27 hl (by decide) rfl (fun ls hl => ?_)
        refine lv_iconst (v := 1) hx hb dX4_chance_29 (by decide) ?_
        refine lv_istore (lv' := [(5, .int (1 : Int32)), (4, .int (1 : Int32)), (0, .ref (ad 0)), (1, .int u1), (2, .int u2), (3, .int u3)]) hx hb dX4_chance_30 hl (by decide) rfl (fun ls hl => ?_)
        refine lv_aload_n hx hb dX4_chance_32 rfl (lv_at hl 2 rfl) ?_
        refine va_get (D := D) (ci := 4) (v := .ref (ad 1)) (C := RX4) (T := TX4) (N := 10) hx hb hts inX4 hown hKK.1 hP 0 rfl rfl 0 (by decide) (hts _ q170) (fun _ h => h) rfl dX4_chance_33 ?_
        refine lv_iload_n hx hb dX4_chance_36 rfl (lv_at hl 3 rfl) ?_
        obtain ⟨r4, hc3, hf⟩ := bd_some hf
        have hP1 := hP.sub (ws' := wL cy (ad 1) (ad 2) (ad 3) (ad 4) (ad 5) S.1) [1, 2, 3, 4, 5] rfl
        refine pCallVI ⟨hx, hb, hml, hown, hts⟩ (mtX1_watchersOf l D cy z (ad 1) (ad 2) (ad 3) (ad 4) (ad 5) S.1 u1 r4 hc3) miX1_watchersOf q444 ⟨Nat.le_of_ble_eq_true rfl, Nat.le_of_ble_eq_true rfl⟩ ⟨rfl, rfl⟩ hP1 hKK hS hA0 (va_recv hKK.1 hP1 (ci := 1) (q0 := 0) rfl rfl) rfl hl.1 rfl (Nat.le_of_ble_eq_true rfl) dX4_chance_37 ⟨Nat.zero_le _, Nat.zero_le _⟩ ?_
        refine lv_istore (lv' := [(6, .int r4), (5, .int (1 : Int32)), (4, .int (1 : Int32)), (0, .ref (ad 0)), (1, .int u1), (2, .int u2), (3, .int u3)]) hx hb dX4_chance_40 hl (by decide) rfl (fun ls hl => ?_)
        refine lv_iconst (v := 0) hx hb dX4_chance_42 (by decide) ?_
        refine lv_istore (lv' := [(7, .int (0 : Int32)), (6, .int r4), (5, .int (1 : Int32)), (4, .int (1 : Int32)), (0, .ref (ad 0)), (1, .int u1), (2, .int u2), (3, .int u3)]) hx hb dX4_chance_43 hl (by decide) rfl (fun ls hl => ?_)
        refine w_45 u2 u3 r4 _ ?_ _ (1 : Int32) (1 : Int32) (0 : Int32) ls hf (lv_sub hl [6, 7, 3, 2, 1, 0] rfl)
        · intro y8 y9 ls hf hl
          refine lv_iload hx hb dX4_chance_71 (lv_at hl 2 rfl) ?_
          refine lv_iload hx hb dX4_chance_73 (lv_at hl 1 rfl) ?_
          refine lv_isub hx hb dX4_chance_75 ?_
          refine lv_iload hx hb dX4_chance_76 (lv_at hl 2 rfl) ?_
          refine lv_iload_n hx hb dX4_chance_78 rfl (lv_at hl 0 rfl) ?_
          obtain ⟨r11, hc10, hf⟩ := bd_some hf
          have hP1 := hP.sub (ws' := []) [] rfl
          refine pCallSI ⟨hx, hb, hml, hown, hts⟩ (mtX4_lowestTerms l D cy z (y9 - y8) y9 u3 r11 hc10) miX4_lowestTerms q595 ⟨Nat.le_of_ble_eq_true rfl, Nat.le_of_ble_eq_true rfl⟩ ⟨rfl, rfl⟩ hP1 hKK hS hA0 rfl hl.1 rfl (Nat.le_of_ble_eq_true rfl) dX4_chance_79 ⟨Nat.zero_le _, Nat.zero_le _⟩ ?_
          exact pretI hx hb hr hlk hf dX4_chance_82
      · have hf := (if_neg h).symm.trans hf
        refine lv_bipush (v := -2) hx hb dX4_chance_23 (by decide) ?_
        exact pretI hx hb hr hlk hf dX4_chance_25
  · have hf := (if_pos h).symm.trans hf
    refine lv_iconst (v := -1) hx hb dX4_chance_11 (by decide) ?_
    exact pretI hx hb hr hlk hf dX4_chance_12

abbrev rmX4_seed : Room := { frames := 0, cells := 0, slots := 0, locals := 0 }
theorem miX4_seed : miV yX4_seed cX4_seed 5 (some .long) 1 := ⟨q641, q40, q639, q640, by decide +kernel⟩
set_option maxHeartbeats 4000000 in
set_option maxRecDepth 100000 in
theorem mtX4_seed (l : Launch) (D : va_G) (cy : Nat → ClassId) (z : zT) (ad : Nat → Nat) (S : tH) (u1 : Int64) (r0 : Int64) (S0 : tH) (hf : fX4_seed S u1 = some (r0, S0)) : mmet l yX4_seed cX4_seed 5 (some .long) rmX4_seed D cy z (wH cy ad S) (wH cy ad S0) [.ref (ad 0), .long u1] (some (.long r0)) := by
  refine mmet_of (by decide +kernel) (Nat.le_of_ble_eq_true rfl) (fun p e s m below meth c hx hb hr hml hown hts hlk hP hD hS hA0 hKK ls hl => ?_)
  have hown : s.vm.findClass "HillSight" = some m.cls := hown
  have hl : lv_has ls 5 [(0, .ref (ad 0)), (1, .long u1)] := hl
  unfold fX4_seed at hf
  refine lv_aload_n hx hb dX4_seed_0 rfl (lv_at hl 0 rfl) ?_
  refine va_get (D := D) (ci := 4) (v := .long S.2.2.2.2.2.2.2.2.2) (C := RX4) (T := TX4) (N := 10) hx hb hts inX4 hown hKK.1 hP 0 rfl rfl 9 (by decide) (hts _ q179) (fun _ h => h) rfl dX4_seed_1 ?_
  refine lv_lstore_n (lv' := [(3, .long S.2.2.2.2.2.2.2.2.2), (0, .ref (ad 0)), (1, .long u1)]) hx hb dX4_seed_4 rfl hl (by decide) rfl (fun ls hl => ?_)
  refine lv_aload_n hx hb dX4_seed_5 rfl (lv_at hl 1 rfl) ?_
  refine lv_lload_n hx hb dX4_seed_6 rfl (lv_at hl 2 rfl) ?_
  refine va_put (D := D) (ci := 4) (v := .long u1) (ty := .long) (C := RX4) (T := TX4) (N := 10) hx hb hts inX4 tyX4 tyX4_ok nmX4 hown hKK.1 hP hD hS 0 rfl rfl 9 (by decide) (hts _ q179) (fun _ h => h) rfl (by decide +kernel) rfl rfl (Nat.le_of_ble_eq_true rfl) dX4_seed_7 (fun H locs hP hD hS => ?_)
  have hP : va_P D vwCl (wH cy ad (S.1, S.2.1, S.2.2.1, S.2.2.2.1, S.2.2.2.2.1, S.2.2.2.2.2.1, S.2.2.2.2.2.2.1, S.2.2.2.2.2.2.2.1, S.2.2.2.2.2.2.2.2.1, u1)) H := hP
  have hD : va_D (adr (wH cy ad S)) (wH cy ad (S.1, S.2.1, S.2.2.1, S.2.2.2.1, S.2.2.2.2.1, S.2.2.2.2.2.1, S.2.2.2.2.2.2.1, S.2.2.2.2.2.2.2.1, S.2.2.2.2.2.2.2.2.1, u1)) := hD
  refine lv_lload_n hx hb dX4_seed_10 rfl (lv_at hl 0 rfl) ?_
  cases hf
  exact mretL hx hb hr hlk hP hS dX4_seed_11

abbrev rmX4_drawn : Room := { frames := 5, cells := 0, slots := 0, locals := 131 }
theorem miX4_drawn : miV yX4_drawn cX4_drawn 6 (some .int) 1 := ⟨q645, q40, q643, q644, by decide +kernel⟩
set_option maxHeartbeats 4000000 in
set_option maxRecDepth 100000 in
theorem mtX4_drawn (l : Launch) (D : va_G) (cy : Nat → ClassId) (z : zT) (ad : Nat → Nat) (S : tH) (u1 : Int32) (r0 : Int32) (S0 : tH) (hf : fX4_drawn S u1 = some (r0, S0)) : mmet l yX4_drawn cX4_drawn 6 (some .int) rmX4_drawn D cy z (wH cy ad S) (wH cy ad S0) [.ref (ad 0), .int u1] (some (.int r0)) := by
  refine mmet_of (by decide +kernel) (Nat.le_of_ble_eq_true rfl) (fun p e s m below meth c hx hb hr hml hown hts hlk hP hD hS hA0 hKK ls hl => ?_)
  have hown : s.vm.findClass "HillSight" = some m.cls := hown
  have hl : lv_has ls 6 [(0, .ref (ad 0)), (1, .int u1)] := hl
  have w_42 : ∀ (g1_42 : Int32) (g2_42 : Int32) (k113 : Int32 → tH → Option (Int32 × tH)) (hk113 : ∀ (v3_42 : Int32) (S_42 : tH) (H : Heap) (locs : List Loc) (ls : Array Slot), k113 v3_42 S_42 = some (r0, S0) → va_P D vwCl (wH cy ad S_42) H → va_D (adr (wH cy ad S)) (wH cy ad S_42) → va_S (adr (wH cy ad S)) s.heap H locs → lv_has ls 6 [(3, .int v3_42)] → W p l e rmX4_drawn s m ([.ref (ad 0), .int u1] : List Value).toArray below meth c H locs 0 0 (MQ below (mQ D (wH cy ad S) (wH cy ad S0) (some (.int r0))) ([.ref (ad 0), .int u1] : List Value).toArray s 0 0 (adr (wH cy ad S))) (F0 m 113 ls [])) (n : Nat) (v3_42 : Int32) (v4_42 : Int32) (S_42 : tH) (H : Heap) (locs : List Loc) (ls : Array Slot), fX4_drawn_42 g1_42 g2_42 k113 n v3_42 v4_42 S_42 = some (r0, S0) → va_P D vwCl (wH cy ad S_42) H → va_D (adr (wH cy ad S)) (wH cy ad S_42) → va_S (adr (wH cy ad S)) s.heap H locs → lv_has ls 6 [(0, .ref (ad 0)), (1, .int g1_42), (2, .int g2_42), (3, .int v3_42), (4, .int v4_42)] → W p l e rmX4_drawn s m ([.ref (ad 0), .int u1] : List Value).toArray below meth c H locs 0 0 (MQ below (mQ D (wH cy ad S) (wH cy ad S0) (some (.int r0))) ([.ref (ad 0), .int u1] : List Value).toArray s 0 0 (adr (wH cy ad S))) (F0 m 42 ls []) := by
    intro g1_42 g2_42 k113 hk113 n
    induction n with
    | zero =>
      intro v3_42 v4_42 S_42 H locs ls hf hP hD hS hl
      cases (show (none : Option (Int32 × tH)) = some (r0, S0) from hf)
    | succ n ih =>
      intro v3_42 v4_42 S_42 H locs ls hf hP hD hS hl
      rw [fX4_drawn_42] at hf
      refine lv_iload hx hb dX4_drawn_42 (lv_at hl 4 rfl) ?_
      refine lv_iload_n hx hb dX4_drawn_44 rfl (lv_at hl 1 rfl) ?_
      refine lv_icmp_ge (tgt := 113) hx hb dX4_drawn_45 (by decide) (fun h => ?_) (fun h => ?_)
      · have hf := (if_pos h).symm.trans hf
        exact hk113 v3_42 S_42 _ _ ls hf hP hD hS (lv_sub hl [3] rfl)
      · have hf := (if_neg h).symm.trans hf
        refine lv_aload_n hx hb dX4_drawn_48 rfl (lv_at hl 0 rfl) ?_
        refine lv_aload_n hx hb dX4_drawn_49 rfl (lv_at hl 0 rfl) ?_
        refine va_get (D := D) (ci := 4) (v := .long S_42.2.2.2.2.2.2.2.2.2) (C := RX4) (T := TX4) (N := 10) hx hb hts inX4 hown hKK.1 hP 0 rfl rfl 9 (by decide) (hts _ q179) (fun _ h => h) rfl dX4_drawn_50 ?_
        refine lv_ldc2 hx hb hown (hts _ q647) dX4_drawn_53 ?_
        refine lv_lmul hx hb dX4_drawn_56 ?_
        refine lv_ldc2 hx hb hown (hts _ q648) dX4_drawn_57 ?_
        refine lv_ladd hx hb dX4_drawn_60 ?_
        refine nm_l hf (fun x6 hf => ?_)
        refine va_put (D := D) (ci := 4) (v := .long x6) (ty := .long) (C := RX4) (T := TX4) (N := 10) hx hb hts inX4 tyX4 tyX4_ok nmX4 hown hKK.1 hP hD hS 0 rfl rfl 9 (by decide) (hts _ q179) (fun _ h => h) rfl (by decide +kernel) rfl rfl (Nat.le_of_ble_eq_true rfl) dX4_drawn_61 (fun H locs hP hD hS => ?_)
        have hP : va_P D vwCl (wH cy ad (S_42.1, S_42.2.1, S_42.2.2.1, S_42.2.2.2.1, S_42.2.2.2.2.1, S_42.2.2.2.2.2.1, S_42.2.2.2.2.2.2.1, S_42.2.2.2.2.2.2.2.1, S_42.2.2.2.2.2.2.2.2.1, x6)) H := hP
        have hD : va_D (adr (wH cy ad S)) (wH cy ad (S_42.1, S_42.2.1, S_42.2.2.1, S_42.2.2.2.1, S_42.2.2.2.2.1, S_42.2.2.2.2.2.1, S_42.2.2.2.2.2.2.1, S_42.2.2.2.2.2.2.2.1, S_42.2.2.2.2.2.2.2.2.1, x6)) := hD
        refine lv_aload_n hx hb dX4_drawn_64 rfl (lv_at hl 0 rfl) ?_
        refine va_get (D := D) (ci := 4) (v := .long x6) (C := RX4) (T := TX4) (N := 10) hx hb hts inX4 hown hKK.1 hP 0 rfl rfl 9 (by decide) (hts _ q179) (fun _ h => h) rfl dX4_drawn_65 ?_
        refine lv_bipush (v := 33) hx hb dX4_drawn_68 (by decide) ?_
        refine lv_lushr hx hb dX4_drawn_70 rfl ?_
        refine lv_l2i hx hb dX4_drawn_71 rfl ?_
        refine nm_i hf (fun x7 hf => ?_)
        refine lv_istore (lv' := [(5, .int x7), (0, .ref (ad 0)), (1, .int g1_42), (2, .int g2_42), (3, .int v3_42), (4, .int v4_42)]) hx hb dX4_drawn_72 hl (by decide) rfl (fun ls hl => ?_)
        refine lv_aload_n hx hb dX4_drawn_74 rfl (lv_at hl 1 rfl) ?_
        refine va_get (D := D) (ci := 4) (v := .ref (ad 6)) (C := RX4) (T := TX4) (N := 10) hx hb hts inX4 hown hKK.1 hP 0 rfl rfl 1 (by decide) (hts _ q171) (fun _ h => h) rfl dX4_drawn_75 ?_
        refine lv_iload hx hb dX4_drawn_78 (lv_at hl 0 rfl) ?_
        refine lv_iload_n hx hb dX4_drawn_80 rfl (lv_at hl 3 rfl) ?_
        obtain ⟨hg8, hf⟩ := gd_some hf
        refine lv_irem hx hb dX4_drawn_81 (nz_ne hg8) ?_
        refine lv_iload hx hb dX4_drawn_82 (lv_at hl 0 rfl) ?_
        refine lv_bipush (v := 64) hx hb dX4_drawn_84 (by decide) ?_
        refine lv_idiv hx hb dX4_drawn_86 (by decide) ?_
        refine lv_bipush (v := 10) hx hb dX4_drawn_87 (by decide) ?_
        refine lv_irem hx hb dX4_drawn_89 (by decide) ?_
        obtain ⟨y10, hc9, hf⟩ := bd_some hf
        have hP1 := hP.sub (ws' := wL cy (ad 6) (ad 7) (ad 8) (ad 9) (ad 10) S_42.2.1) [6, 7, 8, 9, 10] rfl
        have hD1 := hD.sub (ws' := wL cy (ad 6) (ad 7) (ad 8) (ad 9) (ad 10) S_42.2.1) [6, 7, 8, 9, 10] (by decide) rfl
        refine mCallVI ⟨hx, hb, hml, hown, hts⟩ (mtX1_putHeight l D cy z (ad 6) (ad 7) (ad 8) (ad 9) (ad 10) S_42.2.1 (x7 - x7 / g2_42 * g2_42) ((x7 / (64 : Int32)) - (x7 / (64 : Int32)) / (10 : Int32) * (10 : Int32)) y10.1 y10.2 hc9) miX1_putHeight q489 ⟨Nat.le_of_ble_eq_true rfl, Nat.le_of_ble_eq_true rfl⟩ ⟨rfl, rfl⟩ hP1 hD1 hKK hA0 (va_recv hKK.1 hP1 (ci := 1) (q0 := 0) rfl rfl) rfl hl.1 rfl (Nat.le_of_ble_eq_true rfl) dX4_drawn_90 ⟨Nat.zero_le _, Nat.zero_le _⟩ hS hP hD [6, 7, 8, 9, 10] rfl rfl (ws' := wH cy ad (S_42.1, y10.2, S_42.2.2.1, S_42.2.2.2.1, S_42.2.2.2.2.1, S_42.2.2.2.2.2.1, S_42.2.2.2.2.2.2.1, S_42.2.2.2.2.2.2.2.1, S_42.2.2.2.2.2.2.2.2.1, x6)) rfl (fun H locs hP hD hS => ?_)
        refine lv_pop hx hb dX4_drawn_93 rfl ?_
        refine lv_iload_n hx hb dX4_drawn_94 rfl (lv_at hl 4 rfl) ?_
        refine lv_aload_n hx hb dX4_drawn_95 rfl (lv_at hl 1 rfl) ?_
        refine va_get (D := D) (ci := 4) (v := .ref (ad 6)) (C := RX4) (T := TX4) (N := 10) hx hb hts inX4 hown hKK.1 hP 0 rfl rfl 1 (by decide) (hts _ q171) (fun _ h => h) rfl dX4_drawn_96 ?_
        obtain ⟨r12, hc11, hf⟩ := bd_some hf
        have hP1 := hP.sub (ws' := wL cy (ad 6) (ad 7) (ad 8) (ad 9) (ad 10) y10.2) [6, 7, 8, 9, 10] rfl
        refine pCallVL ⟨hx, hb, hml, hown, hts⟩ (mtX1_hiddenSet l D cy z (ad 6) (ad 7) (ad 8) (ad 9) (ad 10) y10.2 r12 hc11) miX1_hiddenSet q379 ⟨Nat.le_of_ble_eq_true rfl, Nat.le_of_ble_eq_true rfl⟩ ⟨rfl, rfl⟩ hP1 hKK hS hA0 (va_recv hKK.1 hP1 (ci := 1) (q0 := 0) rfl rfl) rfl hl.1 rfl (Nat.le_of_ble_eq_true rfl) dX4_drawn_99 ⟨Nat.zero_le _, Nat.zero_le _⟩ ?_
        obtain ⟨r14, hc13, hf⟩ := bd_some hf
        have hP1 := hP.sub (ws' := []) [] rfl
        refine pCallSI ⟨hx, hb, hml, hown, hts⟩ (mtJ13_bitCount_95d88 l D cy z r12 r14 hc13) miJ13_bitCount_95d88 q420 ⟨Nat.le_of_ble_eq_true rfl, Nat.le_of_ble_eq_true rfl⟩ ⟨rfl, rfl⟩ hP1 hKK hS hA0 rfl hl.1 rfl (Nat.le_of_ble_eq_true rfl) dX4_drawn_102 ⟨Nat.zero_le _, Nat.zero_le _⟩ ?_
        refine lv_iadd hx hb dX4_drawn_105 ?_
        refine nm_i hf (fun x15 hf => ?_)
        refine lv_istore_n (lv' := [(3, .int x15), (5, .int x7), (0, .ref (ad 0)), (1, .int g1_42), (2, .int g2_42), (4, .int v4_42)]) hx hb dX4_drawn_106 rfl hl (by decide) rfl (fun ls hl => ?_)
        obtain ⟨x16, ex16, hf⟩ := nm_ex hf
        refine lv_iinc (v := x16) (lv' := [(4, .int x16), (3, .int x15), (5, .int x7), (0, .ref (ad 0)), (1, .int g1_42), (2, .int g2_42)]) hx hb dX4_drawn_107 hl (k := 5) rfl (Eq.trans rfl ex16) (by decide) rfl (fun ls hl => ?_)
        refine lv_goto (tgt := 42) hx hb dX4_drawn_110 (by decide) ?_
        exact ih x15 x16 (S_42.1, y10.2, S_42.2.2.1, S_42.2.2.2.1, S_42.2.2.2.2.1, S_42.2.2.2.2.2.1, S_42.2.2.2.2.2.2.1, S_42.2.2.2.2.2.2.2.1, S_42.2.2.2.2.2.2.2.2.1, x6) _ _ ls hf hP hD hS (lv_sub hl [3, 4, 5, 1, 0] rfl)
  unfold fX4_drawn at hf
  refine lv_iload_n hx hb dX4_drawn_0 rfl (lv_at hl 1 rfl) ?_
  refine lv_iconst (v := 1) hx hb dX4_drawn_1 (by decide) ?_
  refine lv_icmp_lt (tgt := 11) hx hb dX4_drawn_2 (by decide) (fun h => ?_) (fun h => ?_)
  · have hf := (if_pos h).symm.trans hf
    refine lv_bipush (v := -2) hx hb dX4_drawn_11 (by decide) ?_
    cases hf
    exact mretI hx hb hr hlk hP hS dX4_drawn_13
  · have hf := (if_neg h).symm.trans hf
    refine lv_iload_n hx hb dX4_drawn_5 rfl (lv_at hl 1 rfl) ?_
    refine lv_bipush (v := 20) hx hb dX4_drawn_6 (by decide) ?_
    refine lv_icmp_le (tgt := 14) hx hb dX4_drawn_8 (by decide) (fun h => ?_) (fun h => ?_)
    · have hf := (if_pos h).symm.trans hf
      refine lv_aload_n hx hb dX4_drawn_14 rfl (lv_at hl 0 rfl) ?_
      refine va_get (D := D) (ci := 4) (v := .ref (ad 6)) (C := RX4) (T := TX4) (N := 10) hx hb hts inX4 hown hKK.1 hP 0 rfl rfl 1 (by decide) (hts _ q171) (fun _ h => h) rfl dX4_drawn_15 ?_
      refine lv_aload_n hx hb dX4_drawn_18 rfl (lv_at hl 0 rfl) ?_
      refine va_get (D := D) (ci := 4) (v := .ref (ad 1)) (C := RX4) (T := TX4) (N := 10) hx hb hts inX4 hown hKK.1 hP 0 rfl rfl 0 (by decide) (hts _ q170) (fun _ h => h) rfl dX4_drawn_19 ?_
      obtain ⟨y2, hc1, hf⟩ := bd_some hf
      have hP1 := hP.sub (ws' := wL cy (ad 6) (ad 7) (ad 8) (ad 9) (ad 10) S.2.1 ++ wL cy (ad 1) (ad 2) (ad 3) (ad 4) (ad 5) S.1) [6, 7, 8, 9, 10, 1, 2, 3, 4, 5] rfl
      have hD1 := hD.sub (ws' := wL cy (ad 6) (ad 7) (ad 8) (ad 9) (ad 10) S.2.1 ++ wL cy (ad 1) (ad 2) (ad 3) (ad 4) (ad 5) S.1) [6, 7, 8, 9, 10, 1, 2, 3, 4, 5] (by decide) rfl
      refine mCallVV ⟨hx, hb, hml, hown, hts⟩ (mtX1_copyFrom l D cy z (ad 6) (ad 7) (ad 8) (ad 9) (ad 10) (ad 1) (ad 2) (ad 3) (ad 4) (ad 5) S.2.1 S.1 y2 hc1) miX1_copyFrom q367 ⟨Nat.le_of_ble_eq_true rfl, Nat.le_of_ble_eq_true rfl⟩ ⟨rfl, rfl⟩ hP1 hD1 hKK hA0 (va_recv hKK.1 hP1 (ci := 1) (q0 := 0) rfl rfl) rfl hl.1 rfl (Nat.le_of_ble_eq_true rfl) dX4_drawn_22 ⟨Nat.zero_le _, Nat.zero_le _⟩ hS hP hD [6, 7, 8, 9, 10, 1, 2, 3, 4, 5] rfl rfl (ws' := wH cy ad (S.1, y2, S.2.2.1, S.2.2.2.1, S.2.2.2.2.1, S.2.2.2.2.2.1, S.2.2.2.2.2.2.1, S.2.2.2.2.2.2.2.1, S.2.2.2.2.2.2.2.2.1, S.2.2.2.2.2.2.2.2.2)) rfl (fun H locs hP hD hS => ?_)
      refine lv_iconst (v := 1) hx hb dX4_drawn_25 (by decide) ?_
      refine lv_aload_n hx hb dX4_drawn_26 rfl (lv_at hl 0 rfl) ?_
      refine va_get (D := D) (ci := 4) (v := .ref (ad 6)) (C := RX4) (T := TX4) (N := 10) hx hb hts inX4 hown hKK.1 hP 0 rfl rfl 1 (by decide) (hts _ q171) (fun _ h => h) rfl dX4_drawn_27 ?_
      obtain ⟨r4, hc3, hf⟩ := bd_some hf
      have hP1 := hP.sub (ws' := wL cy (ad 6) (ad 7) (ad 8) (ad 9) (ad 10) y2) [6, 7, 8, 9, 10] rfl
      refine pCallVI ⟨hx, hb, hml, hown, hts⟩ (mtX1_cellCount l D cy z (ad 6) (ad 7) (ad 8) (ad 9) (ad 10) y2 r4 hc3) miX1_cellCount q374 ⟨Nat.le_of_ble_eq_true rfl, Nat.le_of_ble_eq_true rfl⟩ ⟨rfl, rfl⟩ hP1 hKK hS hA0 (va_recv hKK.1 hP1 (ci := 1) (q0 := 0) rfl rfl) rfl hl.1 rfl (Nat.le_of_ble_eq_true rfl) dX4_drawn_30 ⟨Nat.zero_le _, Nat.zero_le _⟩ ?_
      refine va_mmax hx hb (hml.trans hl.1.symm) hown (hts _ q646) (hts _ q296) (hts _ q47) (hts _ q297) (Nat.le_of_ble_eq_true rfl) (Nat.le_of_ble_eq_true rfl) (Nat.zero_le _) (Nat.zero_le _) dX4_drawn_33 ?_
      refine nm_i hf (fun x5 hf => ?_)
      refine lv_istore_n (lv' := [(2, .int x5), (0, .ref (ad 0)), (1, .int u1)]) hx hb dX4_drawn_36 rfl hl (by decide) rfl (fun ls hl => ?_)
      refine lv_iconst (v := 0) hx hb dX4_drawn_37 (by decide) ?_
      refine lv_istore_n (lv' := [(3, .int (0 : Int32)), (2, .int x5), (0, .ref (ad 0)), (1, .int u1)]) hx hb dX4_drawn_38 rfl hl (by decide) rfl (fun ls hl => ?_)
      refine lv_iconst (v := 0) hx hb dX4_drawn_39 (by decide) ?_
      refine lv_istore (lv' := [(4, .int (0 : Int32)), (3, .int (0 : Int32)), (2, .int x5), (0, .ref (ad 0)), (1, .int u1)]) hx hb dX4_drawn_40 hl (by decide) rfl (fun ls hl => ?_)
      refine w_42 u1 x5 _ ?_ _ (0 : Int32) (0 : Int32) (S.1, y2, S.2.2.1, S.2.2.2.1, S.2.2.2.2.1, S.2.2.2.2.2.1, S.2.2.2.2.2.2.1, S.2.2.2.2.2.2.2.1, S.2.2.2.2.2.2.2.2.1, S.2.2.2.2.2.2.2.2.2) _ _ ls hf hP hD hS (lv_sub hl [3, 4, 2, 1, 0] rfl)
      · intro y17 S18 H locs ls hf hP hD hS hl
        refine lv_iload_n hx hb dX4_drawn_113 rfl (lv_at hl 0 rfl) ?_
        cases hf
        exact mretI hx hb hr hlk hP hS dX4_drawn_114
    · have hf := (if_neg h).symm.trans hf
      refine lv_bipush (v := -2) hx hb dX4_drawn_11 (by decide) ?_
      cases hf
      exact mretI hx hb hr hlk hP hS dX4_drawn_13

abbrev rmX4_keep : Room := { frames := 2, cells := 0, slots := 0, locals := 61 }
theorem miX4_keep : miV yX4_keep cX4_keep 2 (some .int) 1 := ⟨q652, q40, q650, q651, by decide +kernel⟩
set_option maxHeartbeats 4000000 in
set_option maxRecDepth 100000 in
theorem mtX4_keep (l : Launch) (D : va_G) (cy : Nat → ClassId) (z : zT) (ad : Nat → Nat) (S : tH) (u1 : Int32) (r0 : Int32) (S0 : tH) (hf : fX4_keep S u1 = some (r0, S0)) : mmet l yX4_keep cX4_keep 2 (some .int) rmX4_keep D cy z (wH cy ad S) (wH cy ad S0) [.ref (ad 0), .int u1] (some (.int r0)) := by
  refine mmet_of (by decide +kernel) (Nat.le_of_ble_eq_true rfl) (fun p e s m below meth c hx hb hr hml hown hts hlk hP hD hS hA0 hKK ls hl => ?_)
  have hown : s.vm.findClass "HillSight" = some m.cls := hown
  have hl : lv_has ls 2 [(0, .ref (ad 0)), (1, .int u1)] := hl
  unfold fX4_keep at hf
  refine lv_iload_n hx hb dX4_keep_0 rfl (lv_at hl 1 rfl) ?_
  obtain ⟨r2, hc1, hf⟩ := bd_some hf
  have hP1 := hP.sub (ws' := []) [] rfl
  refine pCallSI ⟨hx, hb, hml, hown, hts⟩ (mtX4_isSlot l D cy z u1 r2 hc1) miX4_isSlot q653 ⟨Nat.le_of_ble_eq_true rfl, Nat.le_of_ble_eq_true rfl⟩ ⟨rfl, rfl⟩ hP1 hKK hS hA0 rfl hl.1 rfl (Nat.le_of_ble_eq_true rfl) dX4_keep_1 ⟨Nat.zero_le _, Nat.zero_le _⟩ ?_
  refine lv_if_ne (tgt := 9) hx hb dX4_keep_4 (by decide) (fun h => ?_) (fun h => ?_)
  · have hf := (if_neg h).symm.trans hf
    refine lv_aload_n hx hb dX4_keep_9 rfl (lv_at hl 0 rfl) ?_
    refine lv_iload_n hx hb dX4_keep_10 rfl (lv_at hl 1 rfl) ?_
    by_cases hs3 : u1 = 0
    · have hf := (if_pos hs3).symm.trans hf
      refine pCallVR ⟨hx, hb, hml, hown, hts⟩ (mtX4_slotLand l D cy z ad S u1 (ad 11) (if_pos hs3)) miX4_slotLand q656 ⟨Nat.le_of_ble_eq_true rfl, Nat.le_of_ble_eq_true rfl⟩ ⟨rfl, rfl⟩ hP hKK hS hA0 (va_recv hKK.1 hP (ci := 4) (q0 := 0) rfl rfl) rfl hl.1 rfl (Nat.le_of_ble_eq_true rfl) dX4_keep_11 ⟨Nat.zero_le _, Nat.zero_le _⟩ ?_
      refine lv_aload_n hx hb dX4_keep_14 rfl (lv_at hl 0 rfl) ?_
      refine va_get (D := D) (ci := 4) (v := .ref (ad 1)) (C := RX4) (T := TX4) (N := 10) hx hb hts inX4 hown hKK.1 hP 0 rfl rfl 0 (by decide) (hts _ q170) (fun _ h => h) rfl dX4_keep_15 ?_
      obtain ⟨y5, hc4, hf⟩ := bd_some hf
      have hP1 := hP.sub (ws' := wL cy (ad 11) (ad 12) (ad 13) (ad 14) (ad 15) S.2.2.1 ++ wL cy (ad 1) (ad 2) (ad 3) (ad 4) (ad 5) S.1) [11, 12, 13, 14, 15, 1, 2, 3, 4, 5] rfl
      have hD1 := hD.sub (ws' := wL cy (ad 11) (ad 12) (ad 13) (ad 14) (ad 15) S.2.2.1 ++ wL cy (ad 1) (ad 2) (ad 3) (ad 4) (ad 5) S.1) [11, 12, 13, 14, 15, 1, 2, 3, 4, 5] (by decide) rfl
      refine mCallVV ⟨hx, hb, hml, hown, hts⟩ (mtX1_copyFrom l D cy z (ad 11) (ad 12) (ad 13) (ad 14) (ad 15) (ad 1) (ad 2) (ad 3) (ad 4) (ad 5) S.2.2.1 S.1 y5 hc4) miX1_copyFrom q367 ⟨Nat.le_of_ble_eq_true rfl, Nat.le_of_ble_eq_true rfl⟩ ⟨rfl, rfl⟩ hP1 hD1 hKK hA0 (va_recv hKK.1 hP1 (ci := 1) (q0 := 0) rfl rfl) rfl hl.1 rfl (Nat.le_of_ble_eq_true rfl) dX4_keep_18 ⟨Nat.zero_le _, Nat.zero_le _⟩ hS hP hD [11, 12, 13, 14, 15, 1, 2, 3, 4, 5] rfl rfl (ws' := wH cy ad (S.1, S.2.1, y5, S.2.2.2.1, S.2.2.2.2.1, S.2.2.2.2.2.1, S.2.2.2.2.2.2.1, S.2.2.2.2.2.2.2.1, S.2.2.2.2.2.2.2.2.1, S.2.2.2.2.2.2.2.2.2)) rfl (fun H locs hP hD hS => ?_)
      refine lv_aload_n hx hb dX4_keep_21 rfl (lv_at hl 0 rfl) ?_
      refine lv_dup hx hb dX4_keep_22 rfl ?_
      refine va_get (D := D) (ci := 4) (v := .int S.2.2.2.2.1) (C := RX4) (T := TX4) (N := 10) hx hb hts inX4 hown hKK.1 hP 0 rfl rfl 4 (by decide) (hts _ q174) (fun _ h => h) rfl dX4_keep_23 ?_
      refine lv_iconst (v := 1) hx hb dX4_keep_26 (by decide) ?_
      refine lv_iload_n hx hb dX4_keep_27 rfl (lv_at hl 1 rfl) ?_
      refine lv_ishl hx hb dX4_keep_28 ?_
      refine lv_ior hx hb dX4_keep_29 ?_
      refine nm_i hf (fun x6 hf => ?_)
      refine va_put (D := D) (ci := 4) (v := .int x6) (ty := .int) (C := RX4) (T := TX4) (N := 10) hx hb hts inX4 tyX4 tyX4_ok nmX4 hown hKK.1 hP hD hS 0 rfl rfl 4 (by decide) (hts _ q174) (fun _ h => h) rfl (by decide +kernel) rfl rfl (Nat.le_of_ble_eq_true rfl) dX4_keep_30 (fun H locs hP hD hS => ?_)
      have hP : va_P D vwCl (wH cy ad (S.1, S.2.1, y5, S.2.2.2.1, x6, S.2.2.2.2.2.1, S.2.2.2.2.2.2.1, S.2.2.2.2.2.2.2.1, S.2.2.2.2.2.2.2.2.1, S.2.2.2.2.2.2.2.2.2)) H := hP
      have hD : va_D (adr (wH cy ad S)) (wH cy ad (S.1, S.2.1, y5, S.2.2.2.1, x6, S.2.2.2.2.2.1, S.2.2.2.2.2.2.1, S.2.2.2.2.2.2.2.1, S.2.2.2.2.2.2.2.2.1, S.2.2.2.2.2.2.2.2.2)) := hD
      refine lv_aload_n hx hb dX4_keep_33 rfl (lv_at hl 0 rfl) ?_
      refine va_get (D := D) (ci := 4) (v := .ref (ad 1)) (C := RX4) (T := TX4) (N := 10) hx hb hts inX4 hown hKK.1 hP 0 rfl rfl 0 (by decide) (hts _ q170) (fun _ h => h) rfl dX4_keep_34 ?_
      refine va_get (D := D) (ci := 1) (v := .int S.1.2.2.1) (C := RX1) (T := TX1) (N := 7) hx hb hts inX1 hown hKK.1 hP 1 rfl rfl 2 (by decide) (hts _ q81) (fun _ h => h) rfl dX4_keep_37 ?_
      cases hf
      exact mretI hx hb hr hlk hP hS dX4_keep_40
    have hf := (if_neg hs3).symm.trans hf
    refine pCallVR ⟨hx, hb, hml, hown, hts⟩ (mtX4_slotLand l D cy z ad S u1 (ad 16) (if_neg hs3)) miX4_slotLand q656 ⟨Nat.le_of_ble_eq_true rfl, Nat.le_of_ble_eq_true rfl⟩ ⟨rfl, rfl⟩ hP hKK hS hA0 (va_recv hKK.1 hP (ci := 4) (q0 := 0) rfl rfl) rfl hl.1 rfl (Nat.le_of_ble_eq_true rfl) dX4_keep_11 ⟨Nat.zero_le _, Nat.zero_le _⟩ ?_
    refine lv_aload_n hx hb dX4_keep_14 rfl (lv_at hl 0 rfl) ?_
    refine va_get (D := D) (ci := 4) (v := .ref (ad 1)) (C := RX4) (T := TX4) (N := 10) hx hb hts inX4 hown hKK.1 hP 0 rfl rfl 0 (by decide) (hts _ q170) (fun _ h => h) rfl dX4_keep_15 ?_
    obtain ⟨y8, hc7, hf⟩ := bd_some hf
    have hP1 := hP.sub (ws' := wL cy (ad 16) (ad 17) (ad 18) (ad 19) (ad 20) S.2.2.2.1 ++ wL cy (ad 1) (ad 2) (ad 3) (ad 4) (ad 5) S.1) [16, 17, 18, 19, 20, 1, 2, 3, 4, 5] rfl
    have hD1 := hD.sub (ws' := wL cy (ad 16) (ad 17) (ad 18) (ad 19) (ad 20) S.2.2.2.1 ++ wL cy (ad 1) (ad 2) (ad 3) (ad 4) (ad 5) S.1) [16, 17, 18, 19, 20, 1, 2, 3, 4, 5] (by decide) rfl
    refine mCallVV ⟨hx, hb, hml, hown, hts⟩ (mtX1_copyFrom l D cy z (ad 16) (ad 17) (ad 18) (ad 19) (ad 20) (ad 1) (ad 2) (ad 3) (ad 4) (ad 5) S.2.2.2.1 S.1 y8 hc7) miX1_copyFrom q367 ⟨Nat.le_of_ble_eq_true rfl, Nat.le_of_ble_eq_true rfl⟩ ⟨rfl, rfl⟩ hP1 hD1 hKK hA0 (va_recv hKK.1 hP1 (ci := 1) (q0 := 0) rfl rfl) rfl hl.1 rfl (Nat.le_of_ble_eq_true rfl) dX4_keep_18 ⟨Nat.zero_le _, Nat.zero_le _⟩ hS hP hD [16, 17, 18, 19, 20, 1, 2, 3, 4, 5] rfl rfl (ws' := wH cy ad (S.1, S.2.1, S.2.2.1, y8, S.2.2.2.2.1, S.2.2.2.2.2.1, S.2.2.2.2.2.2.1, S.2.2.2.2.2.2.2.1, S.2.2.2.2.2.2.2.2.1, S.2.2.2.2.2.2.2.2.2)) rfl (fun H locs hP hD hS => ?_)
    refine lv_aload_n hx hb dX4_keep_21 rfl (lv_at hl 0 rfl) ?_
    refine lv_dup hx hb dX4_keep_22 rfl ?_
    refine va_get (D := D) (ci := 4) (v := .int S.2.2.2.2.1) (C := RX4) (T := TX4) (N := 10) hx hb hts inX4 hown hKK.1 hP 0 rfl rfl 4 (by decide) (hts _ q174) (fun _ h => h) rfl dX4_keep_23 ?_
    refine lv_iconst (v := 1) hx hb dX4_keep_26 (by decide) ?_
    refine lv_iload_n hx hb dX4_keep_27 rfl (lv_at hl 1 rfl) ?_
    refine lv_ishl hx hb dX4_keep_28 ?_
    refine lv_ior hx hb dX4_keep_29 ?_
    refine nm_i hf (fun x9 hf => ?_)
    refine va_put (D := D) (ci := 4) (v := .int x9) (ty := .int) (C := RX4) (T := TX4) (N := 10) hx hb hts inX4 tyX4 tyX4_ok nmX4 hown hKK.1 hP hD hS 0 rfl rfl 4 (by decide) (hts _ q174) (fun _ h => h) rfl (by decide +kernel) rfl rfl (Nat.le_of_ble_eq_true rfl) dX4_keep_30 (fun H locs hP hD hS => ?_)
    have hP : va_P D vwCl (wH cy ad (S.1, S.2.1, S.2.2.1, y8, x9, S.2.2.2.2.2.1, S.2.2.2.2.2.2.1, S.2.2.2.2.2.2.2.1, S.2.2.2.2.2.2.2.2.1, S.2.2.2.2.2.2.2.2.2)) H := hP
    have hD : va_D (adr (wH cy ad S)) (wH cy ad (S.1, S.2.1, S.2.2.1, y8, x9, S.2.2.2.2.2.1, S.2.2.2.2.2.2.1, S.2.2.2.2.2.2.2.1, S.2.2.2.2.2.2.2.2.1, S.2.2.2.2.2.2.2.2.2)) := hD
    refine lv_aload_n hx hb dX4_keep_33 rfl (lv_at hl 0 rfl) ?_
    refine va_get (D := D) (ci := 4) (v := .ref (ad 1)) (C := RX4) (T := TX4) (N := 10) hx hb hts inX4 hown hKK.1 hP 0 rfl rfl 0 (by decide) (hts _ q170) (fun _ h => h) rfl dX4_keep_34 ?_
    refine va_get (D := D) (ci := 1) (v := .int S.1.2.2.1) (C := RX1) (T := TX1) (N := 7) hx hb hts inX1 hown hKK.1 hP 1 rfl rfl 2 (by decide) (hts _ q81) (fun _ h => h) rfl dX4_keep_37 ?_
    cases hf
    exact mretI hx hb hr hlk hP hS dX4_keep_40
  · have hf := (if_pos h).symm.trans hf
    refine lv_iconst (v := -1) hx hb dX4_keep_7 (by decide) ?_
    cases hf
    exact mretI hx hb hr hlk hP hS dX4_keep_8

abbrev rmX4_again : Room := { frames := 2, cells := 0, slots := 0, locals := 61 }
theorem miX4_again : miV yX4_again cX4_again 2 (some .int) 1 := ⟨q663, q40, q661, q662, by decide +kernel⟩
set_option maxHeartbeats 4000000 in
set_option maxRecDepth 100000 in
theorem mtX4_again (l : Launch) (D : va_G) (cy : Nat → ClassId) (z : zT) (ad : Nat → Nat) (S : tH) (u1 : Int32) (r0 : Int32) (S0 : tH) (hf : fX4_again S u1 = some (r0, S0)) : mmet l yX4_again cX4_again 2 (some .int) rmX4_again D cy z (wH cy ad S) (wH cy ad S0) [.ref (ad 0), .int u1] (some (.int r0)) := by
  refine mmet_of (by decide +kernel) (Nat.le_of_ble_eq_true rfl) (fun p e s m below meth c hx hb hr hml hown hts hlk hP hD hS hA0 hKK ls hl => ?_)
  have hown : s.vm.findClass "HillSight" = some m.cls := hown
  have hl : lv_has ls 2 [(0, .ref (ad 0)), (1, .int u1)] := hl
  unfold fX4_again at hf
  refine lv_iload_n hx hb dX4_again_0 rfl (lv_at hl 1 rfl) ?_
  obtain ⟨r2, hc1, hf⟩ := bd_some hf
  have hP1 := hP.sub (ws' := []) [] rfl
  refine pCallSI ⟨hx, hb, hml, hown, hts⟩ (mtX4_isSlot l D cy z u1 r2 hc1) miX4_isSlot q653 ⟨Nat.le_of_ble_eq_true rfl, Nat.le_of_ble_eq_true rfl⟩ ⟨rfl, rfl⟩ hP1 hKK hS hA0 rfl hl.1 rfl (Nat.le_of_ble_eq_true rfl) dX4_again_1 ⟨Nat.zero_le _, Nat.zero_le _⟩ ?_
  refine lv_if_ne (tgt := 9) hx hb dX4_again_4 (by decide) (fun h => ?_) (fun h => ?_)
  · have hf := (if_neg h).symm.trans hf
    refine lv_aload_n hx hb dX4_again_9 rfl (lv_at hl 0 rfl) ?_
    refine va_get (D := D) (ci := 4) (v := .int S.2.2.2.2.1) (C := RX4) (T := TX4) (N := 10) hx hb hts inX4 hown hKK.1 hP 0 rfl rfl 4 (by decide) (hts _ q174) (fun _ h => h) rfl dX4_again_10 ?_
    refine lv_iload_n hx hb dX4_again_13 rfl (lv_at hl 1 rfl) ?_
    refine lv_ishr hx hb dX4_again_14 ?_
    refine lv_iconst (v := 1) hx hb dX4_again_15 (by decide) ?_
    refine lv_iand hx hb dX4_again_16 ?_
    refine lv_if_ne (tgt := 23) hx hb dX4_again_17 (by decide) (fun h => ?_) (fun h => ?_)
    · have hf := (if_neg h).symm.trans hf
      refine lv_aload_n hx hb dX4_again_23 rfl (lv_at hl 0 rfl) ?_
      refine va_get (D := D) (ci := 4) (v := .ref (ad 1)) (C := RX4) (T := TX4) (N := 10) hx hb hts inX4 hown hKK.1 hP 0 rfl rfl 0 (by decide) (hts _ q170) (fun _ h => h) rfl dX4_again_24 ?_
      refine lv_aload_n hx hb dX4_again_27 rfl (lv_at hl 0 rfl) ?_
      refine lv_iload_n hx hb dX4_again_28 rfl (lv_at hl 1 rfl) ?_
      by_cases hs3 : u1 = 0
      · have hf := (if_pos hs3).symm.trans hf
        refine pCallVR ⟨hx, hb, hml, hown, hts⟩ (mtX4_slotLand l D cy z ad S u1 (ad 11) (if_pos hs3)) miX4_slotLand q656 ⟨Nat.le_of_ble_eq_true rfl, Nat.le_of_ble_eq_true rfl⟩ ⟨rfl, rfl⟩ hP hKK hS hA0 (va_recv hKK.1 hP (ci := 4) (q0 := 0) rfl rfl) rfl hl.1 rfl (Nat.le_of_ble_eq_true rfl) dX4_again_29 ⟨Nat.zero_le _, Nat.zero_le _⟩ ?_
        obtain ⟨y5, hc4, hf⟩ := bd_some hf
        have hP1 := hP.sub (ws' := wL cy (ad 1) (ad 2) (ad 3) (ad 4) (ad 5) S.1 ++ wL cy (ad 11) (ad 12) (ad 13) (ad 14) (ad 15) S.2.2.1) [1, 2, 3, 4, 5, 11, 12, 13, 14, 15] rfl
        have hD1 := hD.sub (ws' := wL cy (ad 1) (ad 2) (ad 3) (ad 4) (ad 5) S.1 ++ wL cy (ad 11) (ad 12) (ad 13) (ad 14) (ad 15) S.2.2.1) [1, 2, 3, 4, 5, 11, 12, 13, 14, 15] (by decide) rfl
        refine mCallVV ⟨hx, hb, hml, hown, hts⟩ (mtX1_copyFrom l D cy z (ad 1) (ad 2) (ad 3) (ad 4) (ad 5) (ad 11) (ad 12) (ad 13) (ad 14) (ad 15) S.1 S.2.2.1 y5 hc4) miX1_copyFrom q367 ⟨Nat.le_of_ble_eq_true rfl, Nat.le_of_ble_eq_true rfl⟩ ⟨rfl, rfl⟩ hP1 hD1 hKK hA0 (va_recv hKK.1 hP1 (ci := 1) (q0 := 0) rfl rfl) rfl hl.1 rfl (Nat.le_of_ble_eq_true rfl) dX4_again_32 ⟨Nat.zero_le _, Nat.zero_le _⟩ hS hP hD [1, 2, 3, 4, 5, 11, 12, 13, 14, 15] rfl rfl (ws' := wH cy ad (y5, S.2.1, S.2.2.1, S.2.2.2.1, S.2.2.2.2.1, S.2.2.2.2.2.1, S.2.2.2.2.2.2.1, S.2.2.2.2.2.2.2.1, S.2.2.2.2.2.2.2.2.1, S.2.2.2.2.2.2.2.2.2)) rfl (fun H locs hP hD hS => ?_)
        refine lv_aload_n hx hb dX4_again_35 rfl (lv_at hl 0 rfl) ?_
        refine va_get (D := D) (ci := 4) (v := .ref (ad 23)) (C := RX4) (T := TX4) (N := 10) hx hb hts inX4 hown hKK.1 hP 0 rfl rfl 6 (by decide) (hts _ q176) (fun _ h => h) rfl dX4_again_36 ?_
        refine lv_iconst (v := 0) hx hb dX4_again_39 (by decide) ?_
        refine va_put (D := D) (ci := 0) (v := .int (0 : Int32)) (ty := .int) (C := RX0) (T := TX0) (N := 5) hx hb hts inX0 tyX0 tyX0_ok nmX0 hown hKK.1 hP hD hS 23 rfl rfl 4 (by decide) (hts _ q140) (fun _ h => h) rfl (by decide +kernel) rfl rfl (Nat.le_of_ble_eq_true rfl) dX4_again_40 (fun H locs hP hD hS => ?_)
        have hP : va_P D vwCl (wH cy ad (y5, S.2.1, S.2.2.1, S.2.2.2.1, S.2.2.2.2.1, S.2.2.2.2.2.1, (S.2.2.2.2.2.2.1.1, S.2.2.2.2.2.2.1.2.1, S.2.2.2.2.2.2.1.2.2.1, S.2.2.2.2.2.2.1.2.2.2.1, (0 : Int32)), S.2.2.2.2.2.2.2.1, S.2.2.2.2.2.2.2.2.1, S.2.2.2.2.2.2.2.2.2)) H := hP
        have hD : va_D (adr (wH cy ad S)) (wH cy ad (y5, S.2.1, S.2.2.1, S.2.2.2.1, S.2.2.2.2.1, S.2.2.2.2.2.1, (S.2.2.2.2.2.2.1.1, S.2.2.2.2.2.2.1.2.1, S.2.2.2.2.2.2.1.2.2.1, S.2.2.2.2.2.2.1.2.2.2.1, (0 : Int32)), S.2.2.2.2.2.2.2.1, S.2.2.2.2.2.2.2.2.1, S.2.2.2.2.2.2.2.2.2)) := hD
        refine lv_aload_n hx hb dX4_again_43 rfl (lv_at hl 0 rfl) ?_
        refine va_get (D := D) (ci := 4) (v := .ref (ad 1)) (C := RX4) (T := TX4) (N := 10) hx hb hts inX4 hown hKK.1 hP 0 rfl rfl 0 (by decide) (hts _ q170) (fun _ h => h) rfl dX4_again_44 ?_
        refine va_get (D := D) (ci := 1) (v := .int y5.2.2.1) (C := RX1) (T := TX1) (N := 7) hx hb hts inX1 hown hKK.1 hP 1 rfl rfl 2 (by decide) (hts _ q81) (fun _ h => h) rfl dX4_again_47 ?_
        cases hf
        exact mretI hx hb hr hlk hP hS dX4_again_50
      have hf := (if_neg hs3).symm.trans hf
      refine pCallVR ⟨hx, hb, hml, hown, hts⟩ (mtX4_slotLand l D cy z ad S u1 (ad 16) (if_neg hs3)) miX4_slotLand q656 ⟨Nat.le_of_ble_eq_true rfl, Nat.le_of_ble_eq_true rfl⟩ ⟨rfl, rfl⟩ hP hKK hS hA0 (va_recv hKK.1 hP (ci := 4) (q0 := 0) rfl rfl) rfl hl.1 rfl (Nat.le_of_ble_eq_true rfl) dX4_again_29 ⟨Nat.zero_le _, Nat.zero_le _⟩ ?_
      obtain ⟨y7, hc6, hf⟩ := bd_some hf
      have hP1 := hP.sub (ws' := wL cy (ad 1) (ad 2) (ad 3) (ad 4) (ad 5) S.1 ++ wL cy (ad 16) (ad 17) (ad 18) (ad 19) (ad 20) S.2.2.2.1) [1, 2, 3, 4, 5, 16, 17, 18, 19, 20] rfl
      have hD1 := hD.sub (ws' := wL cy (ad 1) (ad 2) (ad 3) (ad 4) (ad 5) S.1 ++ wL cy (ad 16) (ad 17) (ad 18) (ad 19) (ad 20) S.2.2.2.1) [1, 2, 3, 4, 5, 16, 17, 18, 19, 20] (by decide) rfl
      refine mCallVV ⟨hx, hb, hml, hown, hts⟩ (mtX1_copyFrom l D cy z (ad 1) (ad 2) (ad 3) (ad 4) (ad 5) (ad 16) (ad 17) (ad 18) (ad 19) (ad 20) S.1 S.2.2.2.1 y7 hc6) miX1_copyFrom q367 ⟨Nat.le_of_ble_eq_true rfl, Nat.le_of_ble_eq_true rfl⟩ ⟨rfl, rfl⟩ hP1 hD1 hKK hA0 (va_recv hKK.1 hP1 (ci := 1) (q0 := 0) rfl rfl) rfl hl.1 rfl (Nat.le_of_ble_eq_true rfl) dX4_again_32 ⟨Nat.zero_le _, Nat.zero_le _⟩ hS hP hD [1, 2, 3, 4, 5, 16, 17, 18, 19, 20] rfl rfl (ws' := wH cy ad (y7, S.2.1, S.2.2.1, S.2.2.2.1, S.2.2.2.2.1, S.2.2.2.2.2.1, S.2.2.2.2.2.2.1, S.2.2.2.2.2.2.2.1, S.2.2.2.2.2.2.2.2.1, S.2.2.2.2.2.2.2.2.2)) rfl (fun H locs hP hD hS => ?_)
      refine lv_aload_n hx hb dX4_again_35 rfl (lv_at hl 0 rfl) ?_
      refine va_get (D := D) (ci := 4) (v := .ref (ad 23)) (C := RX4) (T := TX4) (N := 10) hx hb hts inX4 hown hKK.1 hP 0 rfl rfl 6 (by decide) (hts _ q176) (fun _ h => h) rfl dX4_again_36 ?_
      refine lv_iconst (v := 0) hx hb dX4_again_39 (by decide) ?_
      refine va_put (D := D) (ci := 0) (v := .int (0 : Int32)) (ty := .int) (C := RX0) (T := TX0) (N := 5) hx hb hts inX0 tyX0 tyX0_ok nmX0 hown hKK.1 hP hD hS 23 rfl rfl 4 (by decide) (hts _ q140) (fun _ h => h) rfl (by decide +kernel) rfl rfl (Nat.le_of_ble_eq_true rfl) dX4_again_40 (fun H locs hP hD hS => ?_)
      have hP : va_P D vwCl (wH cy ad (y7, S.2.1, S.2.2.1, S.2.2.2.1, S.2.2.2.2.1, S.2.2.2.2.2.1, (S.2.2.2.2.2.2.1.1, S.2.2.2.2.2.2.1.2.1, S.2.2.2.2.2.2.1.2.2.1, S.2.2.2.2.2.2.1.2.2.2.1, (0 : Int32)), S.2.2.2.2.2.2.2.1, S.2.2.2.2.2.2.2.2.1, S.2.2.2.2.2.2.2.2.2)) H := hP
      have hD : va_D (adr (wH cy ad S)) (wH cy ad (y7, S.2.1, S.2.2.1, S.2.2.2.1, S.2.2.2.2.1, S.2.2.2.2.2.1, (S.2.2.2.2.2.2.1.1, S.2.2.2.2.2.2.1.2.1, S.2.2.2.2.2.2.1.2.2.1, S.2.2.2.2.2.2.1.2.2.2.1, (0 : Int32)), S.2.2.2.2.2.2.2.1, S.2.2.2.2.2.2.2.2.1, S.2.2.2.2.2.2.2.2.2)) := hD
      refine lv_aload_n hx hb dX4_again_43 rfl (lv_at hl 0 rfl) ?_
      refine va_get (D := D) (ci := 4) (v := .ref (ad 1)) (C := RX4) (T := TX4) (N := 10) hx hb hts inX4 hown hKK.1 hP 0 rfl rfl 0 (by decide) (hts _ q170) (fun _ h => h) rfl dX4_again_44 ?_
      refine va_get (D := D) (ci := 1) (v := .int y7.2.2.1) (C := RX1) (T := TX1) (N := 7) hx hb hts inX1 hown hKK.1 hP 1 rfl rfl 2 (by decide) (hts _ q81) (fun _ h => h) rfl dX4_again_47 ?_
      cases hf
      exact mretI hx hb hr hlk hP hS dX4_again_50
    · have hf := (if_pos h).symm.trans hf
      refine lv_bipush (v := -3) hx hb dX4_again_20 (by decide) ?_
      cases hf
      exact mretI hx hb hr hlk hP hS dX4_again_22
  · have hf := (if_pos h).symm.trans hf
    refine lv_iconst (v := -1) hx hb dX4_again_7 (by decide) ?_
    cases hf
    exact mretI hx hb hr hlk hP hS dX4_again_8
