abbrev rmX5_takeSign : Room := { frames := 1, cells := 0, slots := 0, locals := 20 }
theorem miX5_takeSign : miV yX5_takeSign cX5_takeSign 3 (some .boolean) 1 := ⟨q777, q46, q776, q12, by decide +kernel⟩
set_option maxHeartbeats 4000000 in
set_option maxRecDepth 100000 in
theorem mtX5_takeSign (l : Launch) (D : va_G) (cy : Nat → ClassId) (z : zT) (ad : Nat → Nat) (M : tM) (u1 : Int32) (r0 : Int32) (M0 : tM) (hf : fX5_takeSign M u1 = some (r0, M0)) : mmet l yX5_takeSign cX5_takeSign 3 (some .boolean) rmX5_takeSign D cy z (wM cy ad M) (wM cy ad M0) [.ref (ad 0), .int u1] (some (.int r0)) := by
  refine mmet_of (by decide +kernel) (Nat.le_of_ble_eq_true rfl) (fun p e s m below meth c hx hb hr hml hown hts hlk hP hD hS hA0 hKK ls hl => ?_)
  have hown : s.vm.findClass "HillSightModel" = some m.cls := hown
  have hl : lv_has ls 3 [(0, .ref (ad 0)), (1, .int u1)] := hl
  unfold fX5_takeSign at hf
  refine lv_aload_n hx hb dX5_takeSign_0 rfl (lv_at hl 0 rfl) ?_
  refine lv_iload_n hx hb dX5_takeSign_1 rfl (lv_at hl 1 rfl) ?_
  refine va_put (D := D) (ci := 5) (v := .int u1) (ty := .int) (C := RX5) (T := TX5) (N := 24) hx hb hts inX5 tyX5 tyX5_ok nmX5 hown hKK.1 hP hD hS 0 rfl rfl 20 (by decide) (hts _ q693) (fun _ h => h) rfl (by decide +kernel) rfl rfl (Nat.le_of_ble_eq_true rfl) dX5_takeSign_2 (fun H locs hP hD hS => ?_)
  have hP : va_P D vwCl (wM cy ad ((M.1.1, M.1.2.1, M.1.2.2.1, M.1.2.2.2.1, M.1.2.2.2.2.1, M.1.2.2.2.2.2.1, M.1.2.2.2.2.2.2.1, M.1.2.2.2.2.2.2.2.1, M.1.2.2.2.2.2.2.2.2.1, M.1.2.2.2.2.2.2.2.2.2.1, u1, M.1.2.2.2.2.2.2.2.2.2.2.2), M.2.1, M.2.2.1, M.2.2.2.1, M.2.2.2.2.1, M.2.2.2.2.2.1, M.2.2.2.2.2.2.1, M.2.2.2.2.2.2.2.1, M.2.2.2.2.2.2.2.2.1, M.2.2.2.2.2.2.2.2.2.1, M.2.2.2.2.2.2.2.2.2.2.1, M.2.2.2.2.2.2.2.2.2.2.2.1, M.2.2.2.2.2.2.2.2.2.2.2.2)) H := hP
  have hD : va_D (adr (wM cy ad M)) (wM cy ad ((M.1.1, M.1.2.1, M.1.2.2.1, M.1.2.2.2.1, M.1.2.2.2.2.1, M.1.2.2.2.2.2.1, M.1.2.2.2.2.2.2.1, M.1.2.2.2.2.2.2.2.1, M.1.2.2.2.2.2.2.2.2.1, M.1.2.2.2.2.2.2.2.2.2.1, u1, M.1.2.2.2.2.2.2.2.2.2.2.2), M.2.1, M.2.2.1, M.2.2.2.1, M.2.2.2.2.1, M.2.2.2.2.2.1, M.2.2.2.2.2.2.1, M.2.2.2.2.2.2.2.1, M.2.2.2.2.2.2.2.2.1, M.2.2.2.2.2.2.2.2.2.1, M.2.2.2.2.2.2.2.2.2.2.1, M.2.2.2.2.2.2.2.2.2.2.2.1, M.2.2.2.2.2.2.2.2.2.2.2.2)) := hD
  refine lv_aload_n hx hb dX5_takeSign_5 rfl (lv_at hl 0 rfl) ?_
  refine lv_iconst (v := 1) hx hb dX5_takeSign_6 (by decide) ?_
  refine va_put (D := D) (ci := 5) (v := .int (1 : Int32)) (ty := .int) (C := RX5) (T := TX5) (N := 24) hx hb hts inX5 tyX5 tyX5_ok nmX5 hown hKK.1 hP hD hS 0 rfl rfl 21 (by decide) (hts _ q694) (fun _ h => h) rfl (by decide +kernel) rfl rfl (Nat.le_of_ble_eq_true rfl) dX5_takeSign_7 (fun H locs hP hD hS => ?_)
  have hP : va_P D vwCl (wM cy ad ((M.1.1, M.1.2.1, M.1.2.2.1, M.1.2.2.2.1, M.1.2.2.2.2.1, M.1.2.2.2.2.2.1, M.1.2.2.2.2.2.2.1, M.1.2.2.2.2.2.2.2.1, M.1.2.2.2.2.2.2.2.2.1, M.1.2.2.2.2.2.2.2.2.2.1, u1, (1 : Int32)), M.2.1, M.2.2.1, M.2.2.2.1, M.2.2.2.2.1, M.2.2.2.2.2.1, M.2.2.2.2.2.2.1, M.2.2.2.2.2.2.2.1, M.2.2.2.2.2.2.2.2.1, M.2.2.2.2.2.2.2.2.2.1, M.2.2.2.2.2.2.2.2.2.2.1, M.2.2.2.2.2.2.2.2.2.2.2.1, M.2.2.2.2.2.2.2.2.2.2.2.2)) H := hP
  have hD : va_D (adr (wM cy ad M)) (wM cy ad ((M.1.1, M.1.2.1, M.1.2.2.1, M.1.2.2.2.1, M.1.2.2.2.2.1, M.1.2.2.2.2.2.1, M.1.2.2.2.2.2.2.1, M.1.2.2.2.2.2.2.2.1, M.1.2.2.2.2.2.2.2.2.1, M.1.2.2.2.2.2.2.2.2.2.1, u1, (1 : Int32)), M.2.1, M.2.2.1, M.2.2.2.1, M.2.2.2.2.1, M.2.2.2.2.2.1, M.2.2.2.2.2.2.1, M.2.2.2.2.2.2.2.1, M.2.2.2.2.2.2.2.2.1, M.2.2.2.2.2.2.2.2.2.1, M.2.2.2.2.2.2.2.2.2.2.1, M.2.2.2.2.2.2.2.2.2.2.2.1, M.2.2.2.2.2.2.2.2.2.2.2.2)) := hD
  refine lv_iload_n hx hb dX5_takeSign_10 rfl (lv_at hl 1 rfl) ?_
  refine lv_bipush (v := 116) hx hb dX5_takeSign_11 (by decide) ?_
  refine lv_icmp_ne (tgt := 33) hx hb dX5_takeSign_13 (by decide) (fun h => ?_) (fun h => ?_)
  · have hf := (if_neg h).symm.trans hf
    refine lv_iload_n hx hb dX5_takeSign_33 rfl (lv_at hl 1 rfl) ?_
    obtain ⟨r2, hc1, hf⟩ := bd_some hf
    have hP1 := hP.sub (ws' := []) [] rfl
    refine pCallSI ⟨hx, hb, hml, hown, hts⟩ (mtX5_settingOf l D cy z u1 r2 hc1) miX5_settingOf q778 ⟨Nat.le_of_ble_eq_true rfl, Nat.le_of_ble_eq_true rfl⟩ ⟨rfl, rfl⟩ hP1 hKK hS hA0 rfl hl.1 rfl (Nat.le_of_ble_eq_true rfl) dX5_takeSign_34 ⟨Nat.zero_le _, Nat.zero_le _⟩ ?_
    refine lv_istore_n (lv' := [(2, .int r2), (0, .ref (ad 0)), (1, .int u1)]) hx hb dX5_takeSign_37 rfl hl (by decide) rfl (fun ls hl => ?_)
    refine lv_iload_n hx hb dX5_takeSign_38 rfl (lv_at hl 0 rfl) ?_
    refine lv_bipush (v := -9) hx hb dX5_takeSign_39 (by decide) ?_
    refine lv_icmp_eq (tgt := 57) hx hb dX5_takeSign_41 (by decide) (fun h => ?_) (fun h => ?_)
    · have hf := (if_pos h).symm.trans hf
      refine lv_iconst (v := 0) hx hb dX5_takeSign_57 (by decide) ?_
      cases hf
      exact mretZ hx hb hr hlk (by decide) hP hS dX5_takeSign_58
    · have hf := (if_neg h).symm.trans hf
      refine lv_aload_n hx hb dX5_takeSign_44 rfl (lv_at hl 1 rfl) ?_
      refine va_get (D := D) (ci := 5) (v := .ref (ad 10)) (C := RX5) (T := TX5) (N := 24) hx hb hts inX5 hown hKK.1 hP 0 rfl rfl 16 (by decide) (hts _ q689) (fun _ h => h) rfl dX5_takeSign_45 ?_
      refine lv_iload_n hx hb dX5_takeSign_48 rfl (lv_at hl 0 rfl) ?_
      obtain ⟨hg3, hf⟩ := gd_some hf
      refine va_zald hx hb hKK.1 hP 10 3 rfl rfl (inb_in hg3) dX5_takeSign_49 ?_
      refine lv_if_ne (tgt := 57) hx hb dX5_takeSign_50 (by decide) (fun h => ?_) (fun h => ?_)
      · have hf := (if_neg h).symm.trans hf
        refine lv_iconst (v := 0) hx hb dX5_takeSign_57 (by decide) ?_
        cases hf
        exact mretZ hx hb hr hlk (by decide) hP hS dX5_takeSign_58
      · have hf := (if_pos h).symm.trans hf
        refine lv_iconst (v := 1) hx hb dX5_takeSign_53 (by decide) ?_
        refine lv_goto (tgt := 58) hx hb dX5_takeSign_54 (by decide) ?_
        cases hf
        exact mretZ hx hb hr hlk (by decide) hP hS dX5_takeSign_58
  · have hf := (if_pos h).symm.trans hf
    refine lv_aload_n hx hb dX5_takeSign_16 rfl (lv_at hl 0 rfl) ?_
    refine va_get (D := D) (ci := 5) (v := .ref (ad 9)) (C := RX5) (T := TX5) (N := 24) hx hb hts inX5 hown hKK.1 hP 0 rfl rfl 15 (by decide) (hts _ q688) (fun _ h => h) rfl dX5_takeSign_17 ?_
    refine lv_bipush (v := 36) hx hb dX5_takeSign_20 (by decide) ?_
    refine va_iald hx hb hKK.1 hP 9 0 rfl rfl (inb_in (by decide)) dX5_takeSign_22 ?_
    refine lv_iconst (v := 5) hx hb dX5_takeSign_23 (by decide) ?_
    refine lv_icmp_ge (tgt := 31) hx hb dX5_takeSign_24 (by decide) (fun h => ?_) (fun h => ?_)
    · have hf := (if_pos h).symm.trans hf
      refine lv_iconst (v := 0) hx hb dX5_takeSign_31 (by decide) ?_
      cases hf
      exact mretZ hx hb hr hlk (by decide) hP hS dX5_takeSign_32
    · have hf := (if_neg h).symm.trans hf
      refine lv_iconst (v := 1) hx hb dX5_takeSign_27 (by decide) ?_
      refine lv_goto (tgt := 32) hx hb dX5_takeSign_28 (by decide) ?_
      cases hf
      exact mretZ hx hb hr hlk (by decide) hP hS dX5_takeSign_32

abbrev rmX5_takeInTower : Room := { frames := 1, cells := 0, slots := 0, locals := 25 }
theorem miX5_takeInTower : miV yX5_takeInTower cX5_takeInTower 4 (some .boolean) 1 := ⟨q784, q46, q783, q13, by decide +kernel⟩
set_option maxHeartbeats 4000000 in
set_option maxRecDepth 100000 in
theorem mtX5_takeInTower (l : Launch) (D : va_G) (cy : Nat → ClassId) (z : zT) (ad : Nat → Nat) (M : tM) (u1 : Int32) (r0 : Int32) (M0 : tM) (hf : fX5_takeInTower M u1 = some (r0, M0)) : mmet l yX5_takeInTower cX5_takeInTower 4 (some .boolean) rmX5_takeInTower D cy z (wM cy ad M) (wM cy ad M0) [.ref (ad 0), .int u1] (some (.int r0)) := by
  refine mmet_of (by decide +kernel) (Nat.le_of_ble_eq_true rfl) (fun p e s m below meth c hx hb hr hml hown hts hlk hP hD hS hA0 hKK ls hl => ?_)
  have hown : s.vm.findClass "HillSightModel" = some m.cls := hown
  have hl : lv_has ls 4 [(0, .ref (ad 0)), (1, .int u1)] := hl
  unfold fX5_takeInTower at hf
  refine lv_aload_n hx hb dX5_takeInTower_0 rfl (lv_at hl 0 rfl) ?_
  refine va_get (D := D) (ci := 5) (v := .ref (ad 9)) (C := RX5) (T := TX5) (N := 24) hx hb hts inX5 hown hKK.1 hP 0 rfl rfl 15 (by decide) (hts _ q688) (fun _ h => h) rfl dX5_takeInTower_1 ?_
  refine lv_bipush (v := 36) hx hb dX5_takeInTower_4 (by decide) ?_
  refine va_iald hx hb hKK.1 hP 9 0 rfl rfl (inb_in (by decide)) dX5_takeInTower_6 ?_
  refine nm_i hf (fun x1 hf => ?_)
  refine lv_istore_n (lv' := [(2, .int x1), (0, .ref (ad 0)), (1, .int u1)]) hx hb dX5_takeInTower_7 rfl hl (by decide) rfl (fun ls hl => ?_)
  refine lv_aload_n hx hb dX5_takeInTower_8 rfl (lv_at hl 1 rfl) ?_
  refine va_get (D := D) (ci := 5) (v := .int M.1.2.2.2.2.2.2.2.1) (C := RX5) (T := TX5) (N := 24) hx hb hts inX5 hown hKK.1 hP 0 rfl rfl 17 (by decide) (hts _ q690) (fun _ h => h) rfl dX5_takeInTower_9 ?_
  refine lv_aload_n hx hb dX5_takeInTower_12 rfl (lv_at hl 1 rfl) ?_
  refine va_get (D := D) (ci := 5) (v := .int M.1.2.2.2.2.2.2.2.2.1) (C := RX5) (T := TX5) (N := 24) hx hb hts inX5 hown hKK.1 hP 0 rfl rfl 18 (by decide) (hts _ q691) (fun _ h => h) rfl dX5_takeInTower_13 ?_
  refine lv_imul hx hb dX5_takeInTower_16 ?_
  refine lv_iconst (v := 1) hx hb dX5_takeInTower_17 (by decide) ?_
  refine lv_isub hx hb dX5_takeInTower_18 ?_
  refine nm_i hf (fun x2 hf => ?_)
  refine lv_istore_n (lv' := [(3, .int x2), (2, .int x1), (0, .ref (ad 0)), (1, .int u1)]) hx hb dX5_takeInTower_19 rfl hl (by decide) rfl (fun ls hl => ?_)
  refine lv_aload_n hx hb dX5_takeInTower_20 rfl (lv_at hl 2 rfl) ?_
  refine va_get (D := D) (ci := 5) (v := .int M.1.2.2.2.2.2.2.2.2.2.2.2) (C := RX5) (T := TX5) (N := 24) hx hb hts inX5 hown hKK.1 hP 0 rfl rfl 21 (by decide) (hts _ q694) (fun _ h => h) rfl dX5_takeInTower_21 ?_
  refine lv_iconst (v := 1) hx hb dX5_takeInTower_24 (by decide) ?_
  refine lv_icmp_ne (tgt := 70) hx hb dX5_takeInTower_25 (by decide) (fun h => ?_) (fun h => ?_)
  · have hf := (if_neg h).symm.trans hf
    refine lv_aload_n hx hb dX5_takeInTower_70 rfl (lv_at hl 2 rfl) ?_
    refine va_get (D := D) (ci := 5) (v := .int M.1.2.2.2.2.2.2.2.2.2.2.2) (C := RX5) (T := TX5) (N := 24) hx hb hts inX5 hown hKK.1 hP 0 rfl rfl 21 (by decide) (hts _ q694) (fun _ h => h) rfl dX5_takeInTower_71 ?_
    refine lv_iconst (v := 2) hx hb dX5_takeInTower_74 (by decide) ?_
    refine lv_icmp_ne (tgt := 119) hx hb dX5_takeInTower_75 (by decide) (fun h => ?_) (fun h => ?_)
    · have hf := (if_neg h).symm.trans hf
      refine lv_aload_n hx hb dX5_takeInTower_119 rfl (lv_at hl 2 rfl) ?_
      refine va_get (D := D) (ci := 5) (v := .ref (ad 9)) (C := RX5) (T := TX5) (N := 24) hx hb hts inX5 hown hKK.1 hP 0 rfl rfl 15 (by decide) (hts _ q688) (fun _ h => h) rfl dX5_takeInTower_120 ?_
      refine lv_bipush (v := 42) hx hb dX5_takeInTower_123 (by decide) ?_
      refine lv_iload_n hx hb dX5_takeInTower_125 rfl (lv_at hl 1 rfl) ?_
      refine lv_iadd hx hb dX5_takeInTower_126 ?_
      refine lv_iload_n hx hb dX5_takeInTower_127 rfl (lv_at hl 3 rfl) ?_
      obtain ⟨hg3, hf⟩ := gd_some hf
      refine va_iast hx hb hKK.1 hP hD hS 9 0 rfl rfl (inb_in hg3) dX5_takeInTower_128 (fun H locs hP hD hS => ?_)
      have hP : va_P D vwCl (wM cy ad (M.1, M.2.1, M.2.2.1, M.2.2.2.1, M.2.2.2.2.1, M.2.2.2.2.2.1, M.2.2.2.2.2.2.1, M.2.2.2.2.2.2.2.1, M.2.2.2.2.2.2.2.2.1, (upd M.2.2.2.2.2.2.2.2.2.1 ((42 : Int32) + x1).toNatClampNeg u1), M.2.2.2.2.2.2.2.2.2.2.1, M.2.2.2.2.2.2.2.2.2.2.2.1, M.2.2.2.2.2.2.2.2.2.2.2.2)) H := hP
      have hD : va_D (adr (wM cy ad M)) (wM cy ad (M.1, M.2.1, M.2.2.1, M.2.2.2.1, M.2.2.2.2.1, M.2.2.2.2.2.1, M.2.2.2.2.2.2.1, M.2.2.2.2.2.2.2.1, M.2.2.2.2.2.2.2.2.1, (upd M.2.2.2.2.2.2.2.2.2.1 ((42 : Int32) + x1).toNatClampNeg u1), M.2.2.2.2.2.2.2.2.2.2.1, M.2.2.2.2.2.2.2.2.2.2.2.1, M.2.2.2.2.2.2.2.2.2.2.2.2)) := hD
      refine lv_aload_n hx hb dX5_takeInTower_129 rfl (lv_at hl 2 rfl) ?_
      refine va_get (D := D) (ci := 5) (v := .ref (ad 9)) (C := RX5) (T := TX5) (N := 24) hx hb hts inX5 hown hKK.1 hP 0 rfl rfl 15 (by decide) (hts _ q688) (fun _ h => h) rfl dX5_takeInTower_130 ?_
      refine lv_bipush (v := 36) hx hb dX5_takeInTower_133 (by decide) ?_
      refine lv_dup2_11 hx hb dX5_takeInTower_135 rfl rfl ?_
      refine va_iald hx hb hKK.1 hP 9 0 rfl rfl (inb_in (by decide)) dX5_takeInTower_136 ?_
      refine lv_iconst (v := 1) hx hb dX5_takeInTower_137 (by decide) ?_
      refine lv_iadd hx hb dX5_takeInTower_138 ?_
      refine va_iast hx hb hKK.1 hP hD hS 9 0 rfl rfl (inb_in (by decide)) dX5_takeInTower_139 (fun H locs hP hD hS => ?_)
      have hP : va_P D vwCl (wM cy ad (M.1, M.2.1, M.2.2.1, M.2.2.2.1, M.2.2.2.2.1, M.2.2.2.2.2.1, M.2.2.2.2.2.2.1, M.2.2.2.2.2.2.2.1, M.2.2.2.2.2.2.2.2.1, (upd (upd M.2.2.2.2.2.2.2.2.2.1 ((42 : Int32) + x1).toNatClampNeg u1) (36 : Int32).toNatClampNeg (((upd M.2.2.2.2.2.2.2.2.2.1 ((42 : Int32) + x1).toNatClampNeg u1) (36 : Int32).toNatClampNeg) + (1 : Int32))), M.2.2.2.2.2.2.2.2.2.2.1, M.2.2.2.2.2.2.2.2.2.2.2.1, M.2.2.2.2.2.2.2.2.2.2.2.2)) H := hP
      have hD : va_D (adr (wM cy ad M)) (wM cy ad (M.1, M.2.1, M.2.2.1, M.2.2.2.1, M.2.2.2.2.1, M.2.2.2.2.2.1, M.2.2.2.2.2.2.1, M.2.2.2.2.2.2.2.1, M.2.2.2.2.2.2.2.2.1, (upd (upd M.2.2.2.2.2.2.2.2.2.1 ((42 : Int32) + x1).toNatClampNeg u1) (36 : Int32).toNatClampNeg (((upd M.2.2.2.2.2.2.2.2.2.1 ((42 : Int32) + x1).toNatClampNeg u1) (36 : Int32).toNatClampNeg) + (1 : Int32))), M.2.2.2.2.2.2.2.2.2.2.1, M.2.2.2.2.2.2.2.2.2.2.2.1, M.2.2.2.2.2.2.2.2.2.2.2.2)) := hD
      refine lv_aload_n hx hb dX5_takeInTower_140 rfl (lv_at hl 2 rfl) ?_
      refine lv_iconst (v := 0) hx hb dX5_takeInTower_141 (by decide) ?_
      refine va_put (D := D) (ci := 5) (v := .int (0 : Int32)) (ty := .int) (C := RX5) (T := TX5) (N := 24) hx hb hts inX5 tyX5 tyX5_ok nmX5 hown hKK.1 hP hD hS 0 rfl rfl 21 (by decide) (hts _ q694) (fun _ h => h) rfl (by decide +kernel) rfl rfl (Nat.le_of_ble_eq_true rfl) dX5_takeInTower_142 (fun H locs hP hD hS => ?_)
      have hP : va_P D vwCl (wM cy ad ((M.1.1, M.1.2.1, M.1.2.2.1, M.1.2.2.2.1, M.1.2.2.2.2.1, M.1.2.2.2.2.2.1, M.1.2.2.2.2.2.2.1, M.1.2.2.2.2.2.2.2.1, M.1.2.2.2.2.2.2.2.2.1, M.1.2.2.2.2.2.2.2.2.2.1, M.1.2.2.2.2.2.2.2.2.2.2.1, (0 : Int32)), M.2.1, M.2.2.1, M.2.2.2.1, M.2.2.2.2.1, M.2.2.2.2.2.1, M.2.2.2.2.2.2.1, M.2.2.2.2.2.2.2.1, M.2.2.2.2.2.2.2.2.1, (upd (upd M.2.2.2.2.2.2.2.2.2.1 ((42 : Int32) + x1).toNatClampNeg u1) (36 : Int32).toNatClampNeg (((upd M.2.2.2.2.2.2.2.2.2.1 ((42 : Int32) + x1).toNatClampNeg u1) (36 : Int32).toNatClampNeg) + (1 : Int32))), M.2.2.2.2.2.2.2.2.2.2.1, M.2.2.2.2.2.2.2.2.2.2.2.1, M.2.2.2.2.2.2.2.2.2.2.2.2)) H := hP
      have hD : va_D (adr (wM cy ad M)) (wM cy ad ((M.1.1, M.1.2.1, M.1.2.2.1, M.1.2.2.2.1, M.1.2.2.2.2.1, M.1.2.2.2.2.2.1, M.1.2.2.2.2.2.2.1, M.1.2.2.2.2.2.2.2.1, M.1.2.2.2.2.2.2.2.2.1, M.1.2.2.2.2.2.2.2.2.2.1, M.1.2.2.2.2.2.2.2.2.2.2.1, (0 : Int32)), M.2.1, M.2.2.1, M.2.2.2.1, M.2.2.2.2.1, M.2.2.2.2.2.1, M.2.2.2.2.2.2.1, M.2.2.2.2.2.2.2.1, M.2.2.2.2.2.2.2.2.1, (upd (upd M.2.2.2.2.2.2.2.2.2.1 ((42 : Int32) + x1).toNatClampNeg u1) (36 : Int32).toNatClampNeg (((upd M.2.2.2.2.2.2.2.2.2.1 ((42 : Int32) + x1).toNatClampNeg u1) (36 : Int32).toNatClampNeg) + (1 : Int32))), M.2.2.2.2.2.2.2.2.2.2.1, M.2.2.2.2.2.2.2.2.2.2.2.1, M.2.2.2.2.2.2.2.2.2.2.2.2)) := hD
      refine lv_iload_n hx hb dX5_takeInTower_145 rfl (lv_at hl 3 rfl) ?_
      refine lv_if_lt (tgt := 153) hx hb dX5_takeInTower_146 (by decide) (fun h => ?_) (fun h => ?_)
      · have hf := (if_pos h).symm.trans hf
        refine lv_iconst (v := 0) hx hb dX5_takeInTower_153 (by decide) ?_
        cases hf
        exact mretZ hx hb hr hlk (by decide) hP hS dX5_takeInTower_154
      · have hf := (if_neg h).symm.trans hf
        refine lv_iconst (v := 1) hx hb dX5_takeInTower_149 (by decide) ?_
        refine lv_goto (tgt := 154) hx hb dX5_takeInTower_150 (by decide) ?_
        cases hf
        exact mretZ hx hb hr hlk (by decide) hP hS dX5_takeInTower_154
    · have hf := (if_pos h).symm.trans hf
      refine lv_aload_n hx hb dX5_takeInTower_78 rfl (lv_at hl 2 rfl) ?_
      refine va_get (D := D) (ci := 5) (v := .ref (ad 9)) (C := RX5) (T := TX5) (N := 24) hx hb hts inX5 hown hKK.1 hP 0 rfl rfl 15 (by decide) (hts _ q688) (fun _ h => h) rfl dX5_takeInTower_79 ?_
      refine lv_bipush (v := 37) hx hb dX5_takeInTower_82 (by decide) ?_
      refine lv_iload_n hx hb dX5_takeInTower_84 rfl (lv_at hl 1 rfl) ?_
      refine lv_iadd hx hb dX5_takeInTower_85 ?_
      refine lv_dup2_11 hx hb dX5_takeInTower_86 rfl rfl ?_
      obtain ⟨hg4, hf⟩ := gd_some hf
      refine va_iald hx hb hKK.1 hP 9 0 rfl rfl (inb_in hg4) dX5_takeInTower_87 ?_
      refine lv_iload_n hx hb dX5_takeInTower_88 rfl (lv_at hl 3 rfl) ?_
      refine lv_iadd hx hb dX5_takeInTower_89 ?_
      obtain ⟨hg5, hf⟩ := gd_some hf
      refine va_iast hx hb hKK.1 hP hD hS 9 0 rfl rfl (inb_in hg5) dX5_takeInTower_90 (fun H locs hP hD hS => ?_)
      have hP : va_P D vwCl (wM cy ad (M.1, M.2.1, M.2.2.1, M.2.2.2.1, M.2.2.2.2.1, M.2.2.2.2.2.1, M.2.2.2.2.2.2.1, M.2.2.2.2.2.2.2.1, M.2.2.2.2.2.2.2.2.1, (upd M.2.2.2.2.2.2.2.2.2.1 ((37 : Int32) + x1).toNatClampNeg ((M.2.2.2.2.2.2.2.2.2.1 ((37 : Int32) + x1).toNatClampNeg) + u1)), M.2.2.2.2.2.2.2.2.2.2.1, M.2.2.2.2.2.2.2.2.2.2.2.1, M.2.2.2.2.2.2.2.2.2.2.2.2)) H := hP
      have hD : va_D (adr (wM cy ad M)) (wM cy ad (M.1, M.2.1, M.2.2.1, M.2.2.2.1, M.2.2.2.2.1, M.2.2.2.2.2.1, M.2.2.2.2.2.2.1, M.2.2.2.2.2.2.2.1, M.2.2.2.2.2.2.2.2.1, (upd M.2.2.2.2.2.2.2.2.2.1 ((37 : Int32) + x1).toNatClampNeg ((M.2.2.2.2.2.2.2.2.2.1 ((37 : Int32) + x1).toNatClampNeg) + u1)), M.2.2.2.2.2.2.2.2.2.2.1, M.2.2.2.2.2.2.2.2.2.2.2.1, M.2.2.2.2.2.2.2.2.2.2.2.2)) := hD
      refine lv_aload_n hx hb dX5_takeInTower_91 rfl (lv_at hl 2 rfl) ?_
      refine lv_iconst (v := 3) hx hb dX5_takeInTower_92 (by decide) ?_
      refine va_put (D := D) (ci := 5) (v := .int (3 : Int32)) (ty := .int) (C := RX5) (T := TX5) (N := 24) hx hb hts inX5 tyX5 tyX5_ok nmX5 hown hKK.1 hP hD hS 0 rfl rfl 21 (by decide) (hts _ q694) (fun _ h => h) rfl (by decide +kernel) rfl rfl (Nat.le_of_ble_eq_true rfl) dX5_takeInTower_93 (fun H locs hP hD hS => ?_)
      have hP : va_P D vwCl (wM cy ad ((M.1.1, M.1.2.1, M.1.2.2.1, M.1.2.2.2.1, M.1.2.2.2.2.1, M.1.2.2.2.2.2.1, M.1.2.2.2.2.2.2.1, M.1.2.2.2.2.2.2.2.1, M.1.2.2.2.2.2.2.2.2.1, M.1.2.2.2.2.2.2.2.2.2.1, M.1.2.2.2.2.2.2.2.2.2.2.1, (3 : Int32)), M.2.1, M.2.2.1, M.2.2.2.1, M.2.2.2.2.1, M.2.2.2.2.2.1, M.2.2.2.2.2.2.1, M.2.2.2.2.2.2.2.1, M.2.2.2.2.2.2.2.2.1, (upd M.2.2.2.2.2.2.2.2.2.1 ((37 : Int32) + x1).toNatClampNeg ((M.2.2.2.2.2.2.2.2.2.1 ((37 : Int32) + x1).toNatClampNeg) + u1)), M.2.2.2.2.2.2.2.2.2.2.1, M.2.2.2.2.2.2.2.2.2.2.2.1, M.2.2.2.2.2.2.2.2.2.2.2.2)) H := hP
      have hD : va_D (adr (wM cy ad M)) (wM cy ad ((M.1.1, M.1.2.1, M.1.2.2.1, M.1.2.2.2.1, M.1.2.2.2.2.1, M.1.2.2.2.2.2.1, M.1.2.2.2.2.2.2.1, M.1.2.2.2.2.2.2.2.1, M.1.2.2.2.2.2.2.2.2.1, M.1.2.2.2.2.2.2.2.2.2.1, M.1.2.2.2.2.2.2.2.2.2.2.1, (3 : Int32)), M.2.1, M.2.2.1, M.2.2.2.1, M.2.2.2.2.1, M.2.2.2.2.2.1, M.2.2.2.2.2.2.1, M.2.2.2.2.2.2.2.1, M.2.2.2.2.2.2.2.2.1, (upd M.2.2.2.2.2.2.2.2.2.1 ((37 : Int32) + x1).toNatClampNeg ((M.2.2.2.2.2.2.2.2.2.1 ((37 : Int32) + x1).toNatClampNeg) + u1)), M.2.2.2.2.2.2.2.2.2.2.1, M.2.2.2.2.2.2.2.2.2.2.2.1, M.2.2.2.2.2.2.2.2.2.2.2.2)) := hD
      refine lv_iload_n hx hb dX5_takeInTower_96 rfl (lv_at hl 3 rfl) ?_
      refine lv_if_lt (tgt := 117) hx hb dX5_takeInTower_97 (by decide) (fun h => ?_) (fun h => ?_)
      · have hf := (if_pos h).symm.trans hf
        refine lv_iconst (v := 0) hx hb dX5_takeInTower_117 (by decide) ?_
        cases hf
        exact mretZ hx hb hr hlk (by decide) hP hS dX5_takeInTower_118
      · have hf := (if_neg h).symm.trans hf
        refine lv_aload_n hx hb dX5_takeInTower_100 rfl (lv_at hl 2 rfl) ?_
        refine va_get (D := D) (ci := 5) (v := .ref (ad 9)) (C := RX5) (T := TX5) (N := 24) hx hb hts inX5 hown hKK.1 hP 0 rfl rfl 15 (by decide) (hts _ q688) (fun _ h => h) rfl dX5_takeInTower_101 ?_
        refine lv_bipush (v := 37) hx hb dX5_takeInTower_104 (by decide) ?_
        refine lv_iload_n hx hb dX5_takeInTower_106 rfl (lv_at hl 1 rfl) ?_
        refine lv_iadd hx hb dX5_takeInTower_107 ?_
        obtain ⟨hg6, hf⟩ := gd_some hf
        refine va_iald hx hb hKK.1 hP 9 0 rfl rfl (inb_in hg6) dX5_takeInTower_108 ?_
        refine lv_iload_n hx hb dX5_takeInTower_109 rfl (lv_at hl 0 rfl) ?_
        refine lv_icmp_gt (tgt := 117) hx hb dX5_takeInTower_110 (by decide) (fun h => ?_) (fun h => ?_)
        · have hf := (if_pos h).symm.trans hf
          refine lv_iconst (v := 0) hx hb dX5_takeInTower_117 (by decide) ?_
          cases hf
          exact mretZ hx hb hr hlk (by decide) hP hS dX5_takeInTower_118
        · have hf := (if_neg h).symm.trans hf
          refine lv_iconst (v := 1) hx hb dX5_takeInTower_113 (by decide) ?_
          refine lv_goto (tgt := 118) hx hb dX5_takeInTower_114 (by decide) ?_
          cases hf
          exact mretZ hx hb hr hlk (by decide) hP hS dX5_takeInTower_118
  · have hf := (if_pos h).symm.trans hf
    refine lv_aload_n hx hb dX5_takeInTower_28 rfl (lv_at hl 2 rfl) ?_
    refine va_get (D := D) (ci := 5) (v := .ref (ad 9)) (C := RX5) (T := TX5) (N := 24) hx hb hts inX5 hown hKK.1 hP 0 rfl rfl 15 (by decide) (hts _ q688) (fun _ h => h) rfl dX5_takeInTower_29 ?_
    refine lv_bipush (v := 37) hx hb dX5_takeInTower_32 (by decide) ?_
    refine lv_iload_n hx hb dX5_takeInTower_34 rfl (lv_at hl 1 rfl) ?_
    refine lv_iadd hx hb dX5_takeInTower_35 ?_
    refine lv_bipush (v := 10) hx hb dX5_takeInTower_36 (by decide) ?_
    refine lv_iload_n hx hb dX5_takeInTower_38 rfl (lv_at hl 3 rfl) ?_
    refine lv_imul hx hb dX5_takeInTower_39 ?_
    obtain ⟨hg7, hf⟩ := gd_some hf
    refine va_iast hx hb hKK.1 hP hD hS 9 0 rfl rfl (inb_in hg7) dX5_takeInTower_40 (fun H locs hP hD hS => ?_)
    have hP : va_P D vwCl (wM cy ad (M.1, M.2.1, M.2.2.1, M.2.2.2.1, M.2.2.2.2.1, M.2.2.2.2.2.1, M.2.2.2.2.2.2.1, M.2.2.2.2.2.2.2.1, M.2.2.2.2.2.2.2.2.1, (upd M.2.2.2.2.2.2.2.2.2.1 ((37 : Int32) + x1).toNatClampNeg ((10 : Int32) * u1)), M.2.2.2.2.2.2.2.2.2.2.1, M.2.2.2.2.2.2.2.2.2.2.2.1, M.2.2.2.2.2.2.2.2.2.2.2.2)) H := hP
    have hD : va_D (adr (wM cy ad M)) (wM cy ad (M.1, M.2.1, M.2.2.1, M.2.2.2.1, M.2.2.2.2.1, M.2.2.2.2.2.1, M.2.2.2.2.2.2.1, M.2.2.2.2.2.2.2.1, M.2.2.2.2.2.2.2.2.1, (upd M.2.2.2.2.2.2.2.2.2.1 ((37 : Int32) + x1).toNatClampNeg ((10 : Int32) * u1)), M.2.2.2.2.2.2.2.2.2.2.1, M.2.2.2.2.2.2.2.2.2.2.2.1, M.2.2.2.2.2.2.2.2.2.2.2.2)) := hD
    refine lv_aload_n hx hb dX5_takeInTower_41 rfl (lv_at hl 2 rfl) ?_
    refine lv_iconst (v := 2) hx hb dX5_takeInTower_42 (by decide) ?_
    refine va_put (D := D) (ci := 5) (v := .int (2 : Int32)) (ty := .int) (C := RX5) (T := TX5) (N := 24) hx hb hts inX5 tyX5 tyX5_ok nmX5 hown hKK.1 hP hD hS 0 rfl rfl 21 (by decide) (hts _ q694) (fun _ h => h) rfl (by decide +kernel) rfl rfl (Nat.le_of_ble_eq_true rfl) dX5_takeInTower_43 (fun H locs hP hD hS => ?_)
    have hP : va_P D vwCl (wM cy ad ((M.1.1, M.1.2.1, M.1.2.2.1, M.1.2.2.2.1, M.1.2.2.2.2.1, M.1.2.2.2.2.2.1, M.1.2.2.2.2.2.2.1, M.1.2.2.2.2.2.2.2.1, M.1.2.2.2.2.2.2.2.2.1, M.1.2.2.2.2.2.2.2.2.2.1, M.1.2.2.2.2.2.2.2.2.2.2.1, (2 : Int32)), M.2.1, M.2.2.1, M.2.2.2.1, M.2.2.2.2.1, M.2.2.2.2.2.1, M.2.2.2.2.2.2.1, M.2.2.2.2.2.2.2.1, M.2.2.2.2.2.2.2.2.1, (upd M.2.2.2.2.2.2.2.2.2.1 ((37 : Int32) + x1).toNatClampNeg ((10 : Int32) * u1)), M.2.2.2.2.2.2.2.2.2.2.1, M.2.2.2.2.2.2.2.2.2.2.2.1, M.2.2.2.2.2.2.2.2.2.2.2.2)) H := hP
    have hD : va_D (adr (wM cy ad M)) (wM cy ad ((M.1.1, M.1.2.1, M.1.2.2.1, M.1.2.2.2.1, M.1.2.2.2.2.1, M.1.2.2.2.2.2.1, M.1.2.2.2.2.2.2.1, M.1.2.2.2.2.2.2.2.1, M.1.2.2.2.2.2.2.2.2.1, M.1.2.2.2.2.2.2.2.2.2.1, M.1.2.2.2.2.2.2.2.2.2.2.1, (2 : Int32)), M.2.1, M.2.2.1, M.2.2.2.1, M.2.2.2.2.1, M.2.2.2.2.2.1, M.2.2.2.2.2.2.1, M.2.2.2.2.2.2.2.1, M.2.2.2.2.2.2.2.2.1, (upd M.2.2.2.2.2.2.2.2.2.1 ((37 : Int32) + x1).toNatClampNeg ((10 : Int32) * u1)), M.2.2.2.2.2.2.2.2.2.2.1, M.2.2.2.2.2.2.2.2.2.2.2.1, M.2.2.2.2.2.2.2.2.2.2.2.2)) := hD
    refine lv_bipush (v := 10) hx hb dX5_takeInTower_46 (by decide) ?_
    refine lv_iload_n hx hb dX5_takeInTower_48 rfl (lv_at hl 3 rfl) ?_
    refine lv_imul hx hb dX5_takeInTower_49 ?_
    refine lv_i2l hx hb dX5_takeInTower_50 rfl ?_
    refine lv_lconst (v := 0) hx hb dX5_takeInTower_51 (by decide) ?_
    refine lv_iload_n hx hb dX5_takeInTower_52 rfl (lv_at hl 0 rfl) ?_
    refine lv_i2l hx hb dX5_takeInTower_53 rfl ?_
    obtain ⟨r9, hc8, hf⟩ := bd_some hf
    have hP1 := hP.sub (ws' := []) [] rfl
    refine pCallSI ⟨hx, hb, hml, hown, hts⟩ (mtX5_in l D cy z (((10 : Int32) * u1).toInt64) (0 : Int64) x2.toInt64 r9 hc8) miX5_in q751 ⟨Nat.le_of_ble_eq_true rfl, Nat.le_of_ble_eq_true rfl⟩ ⟨rfl, rfl⟩ hP1 hKK hS hA0 rfl hl.1 rfl (Nat.le_of_ble_eq_true rfl) dX5_takeInTower_54 ⟨Nat.zero_le _, Nat.zero_le _⟩ ?_
    refine lv_if_eq (tgt := 68) hx hb dX5_takeInTower_57 (by decide) (fun h => ?_) (fun h => ?_)
    · have hf := (if_pos h).symm.trans hf
      refine lv_iconst (v := 0) hx hb dX5_takeInTower_68 (by decide) ?_
      cases hf
      exact mretZ hx hb hr hlk (by decide) hP hS dX5_takeInTower_69
    · have hf := (if_neg h).symm.trans hf
      refine lv_iload_n hx hb dX5_takeInTower_60 rfl (lv_at hl 3 rfl) ?_
      refine lv_if_lt (tgt := 68) hx hb dX5_takeInTower_61 (by decide) (fun h => ?_) (fun h => ?_)
      · have hf := (if_pos h).symm.trans hf
        refine lv_iconst (v := 0) hx hb dX5_takeInTower_68 (by decide) ?_
        cases hf
        exact mretZ hx hb hr hlk (by decide) hP hS dX5_takeInTower_69
      · have hf := (if_neg h).symm.trans hf
        refine lv_iconst (v := 1) hx hb dX5_takeInTower_64 (by decide) ?_
        refine lv_goto (tgt := 69) hx hb dX5_takeInTower_65 (by decide) ?_
        cases hf
        exact mretZ hx hb hr hlk (by decide) hP hS dX5_takeInTower_69

abbrev rmX5_takeLetter : Room := { frames := 2, cells := 0, slots := 0, locals := 48 }
theorem miX5_takeLetter : miV yX5_takeLetter cX5_takeLetter 5 (some .boolean) 2 := ⟨q769, q46, q768, q11, by decide +kernel⟩
set_option maxHeartbeats 4000000 in
set_option maxRecDepth 100000 in
theorem mtX5_takeLetter (l : Launch) (D : va_G) (cy : Nat → ClassId) (z : zT) (ad : Nat → Nat) (M : tM) (u1 : Int32) (u2 : Int32) (r0 : Int32) (M0 : tM) (hf : fX5_takeLetter M u1 u2 = some (r0, M0)) : mmet l yX5_takeLetter cX5_takeLetter 5 (some .boolean) rmX5_takeLetter D cy z (wM cy ad M) (wM cy ad M0) [.ref (ad 0), .int u1, .int u2] (some (.int r0)) := by
  refine mmet_of (by decide +kernel) (Nat.le_of_ble_eq_true rfl) (fun p e s m below meth c hx hb hr hml hown hts hlk hP hD hS hA0 hKK ls hl => ?_)
  have hown : s.vm.findClass "HillSightModel" = some m.cls := hown
  have hl : lv_has ls 5 [(0, .ref (ad 0)), (1, .int u1), (2, .int u2)] := hl
  unfold fX5_takeLetter at hf
  refine lv_iload_n hx hb dX5_takeLetter_0 rfl (lv_at hl 2 rfl) ?_
  refine lv_i2l hx hb dX5_takeLetter_1 rfl ?_
  refine lv_ldc2 hx hb hown (hts _ q770) dX5_takeLetter_2 ?_
  refine lv_ldc2 hx hb hown (hts _ q771) dX5_takeLetter_5 ?_
  obtain ⟨r2, hc1, hf⟩ := bd_some hf
  have hP1 := hP.sub (ws' := []) [] rfl
  refine pCallSI ⟨hx, hb, hml, hown, hts⟩ (mtX5_in l D cy z u2.toInt64 (48 : Int64) (57 : Int64) r2 hc1) miX5_in q751 ⟨Nat.le_of_ble_eq_true rfl, Nat.le_of_ble_eq_true rfl⟩ ⟨rfl, rfl⟩ hP1 hKK hS hA0 rfl hl.1 rfl (Nat.le_of_ble_eq_true rfl) dX5_takeLetter_8 ⟨Nat.zero_le _, Nat.zero_le _⟩ ?_
  refine lv_if_eq (tgt := 21) hx hb dX5_takeLetter_11 (by decide) (fun h => ?_) (fun h => ?_)
  · have hf := (if_pos h).symm.trans hf
    refine lv_bipush (v := -9) hx hb dX5_takeLetter_21 (by decide) ?_
    refine lv_istore_n (lv' := [(3, .int (-9 : Int32)), (0, .ref (ad 0)), (1, .int u1), (2, .int u2)]) hx hb dX5_takeLetter_23 rfl hl (by decide) rfl (fun ls hl => ?_)
    refine lv_iload_n hx hb dX5_takeLetter_24 rfl (lv_at hl 2 rfl) ?_
    refine lv_if_ne (tgt := 40) hx hb dX5_takeLetter_25 (by decide) (fun h => ?_) (fun h => ?_)
    · have hf := (if_neg h).symm.trans hf
      refine lv_iload_n hx hb dX5_takeLetter_40 rfl (lv_at hl 2 rfl) ?_
      refine lv_iconst (v := 1) hx hb dX5_takeLetter_41 (by decide) ?_
      refine lv_icmp_ne (tgt := 62) hx hb dX5_takeLetter_42 (by decide) (fun h => ?_) (fun h => ?_)
      · have hf := (if_neg h).symm.trans hf
        refine lv_iload_n hx hb dX5_takeLetter_62 rfl (lv_at hl 2 rfl) ?_
        refine lv_iconst (v := 2) hx hb dX5_takeLetter_63 (by decide) ?_
        refine lv_icmp_ne (tgt := 84) hx hb dX5_takeLetter_64 (by decide) (fun h => ?_) (fun h => ?_)
        · have hf := (if_neg h).symm.trans hf
          refine lv_aload_n hx hb dX5_takeLetter_84 rfl (lv_at hl 1 rfl) ?_
          refine va_get (D := D) (ci := 5) (v := .int M.1.2.2.2.2.2.2.2.2.2.1) (C := RX5) (T := TX5) (N := 24) hx hb hts inX5 hown hKK.1 hP 0 rfl rfl 19 (by decide) (hts _ q692) (fun _ h => h) rfl dX5_takeLetter_85 ?_
          refine lv_aload_n hx hb dX5_takeLetter_88 rfl (lv_at hl 1 rfl) ?_
          refine va_get (D := D) (ci := 5) (v := .int M.1.2.2.2.2.2.2.2.1) (C := RX5) (T := TX5) (N := 24) hx hb hts inX5 hown hKK.1 hP 0 rfl rfl 17 (by decide) (hts _ q690) (fun _ h => h) rfl dX5_takeLetter_89 ?_
          refine lv_aload_n hx hb dX5_takeLetter_92 rfl (lv_at hl 1 rfl) ?_
          refine va_get (D := D) (ci := 5) (v := .int M.1.2.2.2.2.2.2.2.2.1) (C := RX5) (T := TX5) (N := 24) hx hb hts inX5 hown hKK.1 hP 0 rfl rfl 18 (by decide) (hts _ q691) (fun _ h => h) rfl dX5_takeLetter_93 ?_
          refine lv_imul hx hb dX5_takeLetter_96 ?_
          refine lv_icmp_ge (tgt := 130) hx hb dX5_takeLetter_97 (by decide) (fun h => ?_) (fun h => ?_)
          · have hf := (if_pos h).symm.trans hf
            refine lv_aload_n hx hb dX5_takeLetter_130 rfl (lv_at hl 1 rfl) ?_
            refine va_get (D := D) (ci := 5) (v := .int M.1.2.2.2.2.2.2.2.2.2.2.2) (C := RX5) (T := TX5) (N := 24) hx hb hts inX5 hown hKK.1 hP 0 rfl rfl 21 (by decide) (hts _ q694) (fun _ h => h) rfl dX5_takeLetter_131 ?_
            refine lv_if_ne (tgt := 143) hx hb dX5_takeLetter_134 (by decide) (fun h => ?_) (fun h => ?_)
            · have hf := (if_neg h).symm.trans hf
              refine lv_aload_n hx hb dX5_takeLetter_143 rfl (lv_at hl 1 rfl) ?_
              refine va_get (D := D) (ci := 5) (v := .int M.1.2.2.2.2.2.2.2.2.2.2.1) (C := RX5) (T := TX5) (N := 24) hx hb hts inX5 hown hKK.1 hP 0 rfl rfl 20 (by decide) (hts _ q693) (fun _ h => h) rfl dX5_takeLetter_144 ?_
              refine lv_bipush (v := 116) hx hb dX5_takeLetter_147 (by decide) ?_
              refine lv_icmp_ne (tgt := 158) hx hb dX5_takeLetter_149 (by decide) (fun h => ?_) (fun h => ?_)
              · have hf := (if_neg h).symm.trans hf
                refine lv_aload_n hx hb dX5_takeLetter_158 rfl (lv_at hl 1 rfl) ?_
                refine va_get (D := D) (ci := 5) (v := .int M.1.2.2.2.2.2.2.2.2.2.2.1) (C := RX5) (T := TX5) (N := 24) hx hb hts inX5 hown hKK.1 hP 0 rfl rfl 20 (by decide) (hts _ q693) (fun _ h => h) rfl dX5_takeLetter_159 ?_
                obtain ⟨r4, hc3, hf⟩ := bd_some hf
                have hP1 := hP.sub (ws' := []) [] rfl
                refine pCallSI ⟨hx, hb, hml, hown, hts⟩ (mtX5_settingOf l D cy z M.1.2.2.2.2.2.2.2.2.2.2.1 r4 hc3) miX5_settingOf q778 ⟨Nat.le_of_ble_eq_true rfl, Nat.le_of_ble_eq_true rfl⟩ ⟨rfl, rfl⟩ hP1 hKK hS hA0 rfl hl.1 rfl (Nat.le_of_ble_eq_true rfl) dX5_takeLetter_162 ⟨Nat.zero_le _, Nat.zero_le _⟩ ?_
                refine lv_istore (lv' := [(4, .int r4), (3, .int (-9 : Int32)), (0, .ref (ad 0)), (1, .int u1), (2, .int u2)]) hx hb dX5_takeLetter_165 hl (by decide) rfl (fun ls hl => ?_)
                refine lv_aload_n hx hb dX5_takeLetter_167 rfl (lv_at hl 2 rfl) ?_
                refine va_get (D := D) (ci := 5) (v := .ref (ad 9)) (C := RX5) (T := TX5) (N := 24) hx hb hts inX5 hown hKK.1 hP 0 rfl rfl 15 (by decide) (hts _ q688) (fun _ h => h) rfl dX5_takeLetter_168 ?_
                refine lv_bipush (v := 47) hx hb dX5_takeLetter_171 (by decide) ?_
                refine lv_iload hx hb dX5_takeLetter_173 (lv_at hl 0 rfl) ?_
                refine lv_iadd hx hb dX5_takeLetter_175 ?_
                refine lv_iload_n hx hb dX5_takeLetter_176 rfl (lv_at hl 1 rfl) ?_
                obtain ⟨hg5, hf⟩ := gd_some hf
                refine va_iast hx hb hKK.1 hP hD hS 9 0 rfl rfl (inb_in hg5) dX5_takeLetter_177 (fun H locs hP hD hS => ?_)
                have hP : va_P D vwCl (wM cy ad (M.1, M.2.1, M.2.2.1, M.2.2.2.1, M.2.2.2.2.1, M.2.2.2.2.2.1, M.2.2.2.2.2.2.1, M.2.2.2.2.2.2.2.1, M.2.2.2.2.2.2.2.2.1, (upd M.2.2.2.2.2.2.2.2.2.1 ((47 : Int32) + r4).toNatClampNeg (-9 : Int32)), M.2.2.2.2.2.2.2.2.2.2.1, M.2.2.2.2.2.2.2.2.2.2.2.1, M.2.2.2.2.2.2.2.2.2.2.2.2)) H := hP
                have hD : va_D (adr (wM cy ad M)) (wM cy ad (M.1, M.2.1, M.2.2.1, M.2.2.2.1, M.2.2.2.2.1, M.2.2.2.2.2.1, M.2.2.2.2.2.2.1, M.2.2.2.2.2.2.2.1, M.2.2.2.2.2.2.2.2.1, (upd M.2.2.2.2.2.2.2.2.2.1 ((47 : Int32) + r4).toNatClampNeg (-9 : Int32)), M.2.2.2.2.2.2.2.2.2.2.1, M.2.2.2.2.2.2.2.2.2.2.2.1, M.2.2.2.2.2.2.2.2.2.2.2.2)) := hD
                refine lv_aload_n hx hb dX5_takeLetter_178 rfl (lv_at hl 2 rfl) ?_
                refine va_get (D := D) (ci := 5) (v := .ref (ad 10)) (C := RX5) (T := TX5) (N := 24) hx hb hts inX5 hown hKK.1 hP 0 rfl rfl 16 (by decide) (hts _ q689) (fun _ h => h) rfl dX5_takeLetter_179 ?_
                refine lv_iload hx hb dX5_takeLetter_182 (lv_at hl 0 rfl) ?_
                refine lv_iconst (v := 1) hx hb dX5_takeLetter_184 (by decide) ?_
                obtain ⟨hg6, hf⟩ := gd_some hf
                refine va_zast hx hb hKK.1 hP hD hS 10 3 rfl rfl (inb_in hg6) dX5_takeLetter_185 (fun H locs hP hD hS => ?_)
                have hP : va_P D vwCl (wM cy ad (M.1, M.2.1, M.2.2.1, M.2.2.2.1, M.2.2.2.2.1, M.2.2.2.2.2.1, M.2.2.2.2.2.2.1, M.2.2.2.2.2.2.2.1, M.2.2.2.2.2.2.2.2.1, (upd M.2.2.2.2.2.2.2.2.2.1 ((47 : Int32) + r4).toNatClampNeg (-9 : Int32)), (upd M.2.2.2.2.2.2.2.2.2.2.1 r4.toNatClampNeg (vp_nar .boolean (1 : Int32))), M.2.2.2.2.2.2.2.2.2.2.2.1, M.2.2.2.2.2.2.2.2.2.2.2.2)) H := hP
                have hD : va_D (adr (wM cy ad M)) (wM cy ad (M.1, M.2.1, M.2.2.1, M.2.2.2.1, M.2.2.2.2.1, M.2.2.2.2.2.1, M.2.2.2.2.2.2.1, M.2.2.2.2.2.2.2.1, M.2.2.2.2.2.2.2.2.1, (upd M.2.2.2.2.2.2.2.2.2.1 ((47 : Int32) + r4).toNatClampNeg (-9 : Int32)), (upd M.2.2.2.2.2.2.2.2.2.2.1 r4.toNatClampNeg (vp_nar .boolean (1 : Int32))), M.2.2.2.2.2.2.2.2.2.2.2.1, M.2.2.2.2.2.2.2.2.2.2.2.2)) := hD
                refine lv_aload_n hx hb dX5_takeLetter_186 rfl (lv_at hl 2 rfl) ?_
                refine lv_iconst (v := 0) hx hb dX5_takeLetter_187 (by decide) ?_
                refine va_put (D := D) (ci := 5) (v := .int (0 : Int32)) (ty := .int) (C := RX5) (T := TX5) (N := 24) hx hb hts inX5 tyX5 tyX5_ok nmX5 hown hKK.1 hP hD hS 0 rfl rfl 21 (by decide) (hts _ q694) (fun _ h => h) rfl (by decide +kernel) rfl rfl (Nat.le_of_ble_eq_true rfl) dX5_takeLetter_188 (fun H locs hP hD hS => ?_)
                have hP : va_P D vwCl (wM cy ad ((M.1.1, M.1.2.1, M.1.2.2.1, M.1.2.2.2.1, M.1.2.2.2.2.1, M.1.2.2.2.2.2.1, M.1.2.2.2.2.2.2.1, M.1.2.2.2.2.2.2.2.1, M.1.2.2.2.2.2.2.2.2.1, M.1.2.2.2.2.2.2.2.2.2.1, M.1.2.2.2.2.2.2.2.2.2.2.1, (0 : Int32)), M.2.1, M.2.2.1, M.2.2.2.1, M.2.2.2.2.1, M.2.2.2.2.2.1, M.2.2.2.2.2.2.1, M.2.2.2.2.2.2.2.1, M.2.2.2.2.2.2.2.2.1, (upd M.2.2.2.2.2.2.2.2.2.1 ((47 : Int32) + r4).toNatClampNeg (-9 : Int32)), (upd M.2.2.2.2.2.2.2.2.2.2.1 r4.toNatClampNeg (vp_nar .boolean (1 : Int32))), M.2.2.2.2.2.2.2.2.2.2.2.1, M.2.2.2.2.2.2.2.2.2.2.2.2)) H := hP
                have hD : va_D (adr (wM cy ad M)) (wM cy ad ((M.1.1, M.1.2.1, M.1.2.2.1, M.1.2.2.2.1, M.1.2.2.2.2.1, M.1.2.2.2.2.2.1, M.1.2.2.2.2.2.2.1, M.1.2.2.2.2.2.2.2.1, M.1.2.2.2.2.2.2.2.2.1, M.1.2.2.2.2.2.2.2.2.2.1, M.1.2.2.2.2.2.2.2.2.2.2.1, (0 : Int32)), M.2.1, M.2.2.1, M.2.2.2.1, M.2.2.2.2.1, M.2.2.2.2.2.1, M.2.2.2.2.2.2.1, M.2.2.2.2.2.2.2.1, M.2.2.2.2.2.2.2.2.1, (upd M.2.2.2.2.2.2.2.2.2.1 ((47 : Int32) + r4).toNatClampNeg (-9 : Int32)), (upd M.2.2.2.2.2.2.2.2.2.2.1 r4.toNatClampNeg (vp_nar .boolean (1 : Int32))), M.2.2.2.2.2.2.2.2.2.2.2.1, M.2.2.2.2.2.2.2.2.2.2.2.2)) := hD
                refine lv_iload_n hx hb dX5_takeLetter_191 rfl (lv_at hl 1 rfl) ?_
                refine lv_iload hx hb dX5_takeLetter_192 (lv_at hl 0 rfl) ?_
                refine lv_iconst (v := 3) hx hb dX5_takeLetter_194 (by decide) ?_
                refine lv_icmp_ne (tgt := 202) hx hb dX5_takeLetter_195 (by decide) (fun h => ?_) (fun h => ?_)
                · have hf := (if_neg h).symm.trans hf
                  refine lv_iconst (v := 0) hx hb dX5_takeLetter_202 (by decide) ?_
                  refine lv_icmp_lt (tgt := 210) hx hb dX5_takeLetter_203 (by decide) (fun _ => ?_) (fun h => absurd h (by decide))
                  refine lv_iconst (v := 0) hx hb dX5_takeLetter_210 (by decide) ?_
                  cases hf
                  exact mretZ hx hb hr hlk (by decide) hP hS dX5_takeLetter_211
                · have hf := (if_pos h).symm.trans hf
                  refine lv_iconst (v := 1) hx hb dX5_takeLetter_198 (by decide) ?_
                  refine lv_goto (tgt := 203) hx hb dX5_takeLetter_199 (by decide) ?_
                  refine lv_icmp_lt (tgt := 210) hx hb dX5_takeLetter_203 (by decide) (fun _ => ?_) (fun h => absurd h (by decide))
                  refine lv_iconst (v := 0) hx hb dX5_takeLetter_210 (by decide) ?_
                  cases hf
                  exact mretZ hx hb hr hlk (by decide) hP hS dX5_takeLetter_211
              · have hf := (if_pos h).symm.trans hf
                refine lv_aload_n hx hb dX5_takeLetter_152 rfl (lv_at hl 1 rfl) ?_
                refine lv_iload_n hx hb dX5_takeLetter_153 rfl (lv_at hl 0 rfl) ?_
                obtain ⟨y8, hc7, hf⟩ := bd_some hf
                refine mCallWVI ⟨hx, hb, hml, hown, hts⟩ (mtX5_takeInTower l D cy z ad M (-9 : Int32) y8.1 y8.2 hc7) miX5_takeInTower q781 ⟨Nat.le_of_ble_eq_true rfl, Nat.le_of_ble_eq_true rfl⟩ ⟨rfl, rfl⟩ hP hD hKK hA0 (va_recv hKK.1 hP (ci := 5) (q0 := 0) rfl rfl) rfl hl.1 rfl (Nat.le_of_ble_eq_true rfl) dX5_takeLetter_154 ⟨Nat.zero_le _, Nat.zero_le _⟩ hS rfl (fun H locs hP hD hS => ?_)
                have hP : va_P D vwCl (wM cy ad y8.2) H := hP
                have hD : va_D (adr (wM cy ad M)) (wM cy ad y8.2) := hD
                obtain ⟨hz, hf⟩ := gd_some hf
                cases hf
                exact mretZ hx hb hr hlk hz hP hS dX5_takeLetter_157
            · have hf := (if_pos h).symm.trans hf
              refine lv_aload_n hx hb dX5_takeLetter_137 rfl (lv_at hl 1 rfl) ?_
              refine lv_iload_n hx hb dX5_takeLetter_138 rfl (lv_at hl 3 rfl) ?_
              obtain ⟨y10, hc9, hf⟩ := bd_some hf
              refine mCallWVI ⟨hx, hb, hml, hown, hts⟩ (mtX5_takeSign l D cy z ad M u2 y10.1 y10.2 hc9) miX5_takeSign q774 ⟨Nat.le_of_ble_eq_true rfl, Nat.le_of_ble_eq_true rfl⟩ ⟨rfl, rfl⟩ hP hD hKK hA0 (va_recv hKK.1 hP (ci := 5) (q0 := 0) rfl rfl) rfl hl.1 rfl (Nat.le_of_ble_eq_true rfl) dX5_takeLetter_139 ⟨Nat.zero_le _, Nat.zero_le _⟩ hS rfl (fun H locs hP hD hS => ?_)
              have hP : va_P D vwCl (wM cy ad y10.2) H := hP
              have hD : va_D (adr (wM cy ad M)) (wM cy ad y10.2) := hD
              obtain ⟨hz, hf⟩ := gd_some hf
              cases hf
              exact mretZ hx hb hr hlk hz hP hS dX5_takeLetter_142
          · have hf := (if_neg h).symm.trans hf
            refine lv_aload_n hx hb dX5_takeLetter_100 rfl (lv_at hl 1 rfl) ?_
            refine va_get (D := D) (ci := 5) (v := .ref (ad 9)) (C := RX5) (T := TX5) (N := 24) hx hb hts inX5 hown hKK.1 hP 0 rfl rfl 15 (by decide) (hts _ q688) (fun _ h => h) rfl dX5_takeLetter_101 ?_
            refine lv_aload_n hx hb dX5_takeLetter_104 rfl (lv_at hl 1 rfl) ?_
            refine va_get (D := D) (ci := 5) (v := .int M.1.2.2.2.2.2.2.2.2.2.1) (C := RX5) (T := TX5) (N := 24) hx hb hts inX5 hown hKK.1 hP 0 rfl rfl 19 (by decide) (hts _ q692) (fun _ h => h) rfl dX5_takeLetter_105 ?_
            refine lv_iload_n hx hb dX5_takeLetter_108 rfl (lv_at hl 0 rfl) ?_
            obtain ⟨hg11, hf⟩ := gd_some hf
            refine va_iast hx hb hKK.1 hP hD hS 9 0 rfl rfl (inb_in hg11) dX5_takeLetter_109 (fun H locs hP hD hS => ?_)
            have hP : va_P D vwCl (wM cy ad (M.1, M.2.1, M.2.2.1, M.2.2.2.1, M.2.2.2.2.1, M.2.2.2.2.2.1, M.2.2.2.2.2.2.1, M.2.2.2.2.2.2.2.1, M.2.2.2.2.2.2.2.2.1, (upd M.2.2.2.2.2.2.2.2.2.1 M.1.2.2.2.2.2.2.2.2.2.1.toNatClampNeg (-9 : Int32)), M.2.2.2.2.2.2.2.2.2.2.1, M.2.2.2.2.2.2.2.2.2.2.2.1, M.2.2.2.2.2.2.2.2.2.2.2.2)) H := hP
            have hD : va_D (adr (wM cy ad M)) (wM cy ad (M.1, M.2.1, M.2.2.1, M.2.2.2.1, M.2.2.2.2.1, M.2.2.2.2.2.1, M.2.2.2.2.2.2.1, M.2.2.2.2.2.2.2.1, M.2.2.2.2.2.2.2.2.1, (upd M.2.2.2.2.2.2.2.2.2.1 M.1.2.2.2.2.2.2.2.2.2.1.toNatClampNeg (-9 : Int32)), M.2.2.2.2.2.2.2.2.2.2.1, M.2.2.2.2.2.2.2.2.2.2.2.1, M.2.2.2.2.2.2.2.2.2.2.2.2)) := hD
            refine lv_aload_n hx hb dX5_takeLetter_110 rfl (lv_at hl 1 rfl) ?_
            refine lv_dup hx hb dX5_takeLetter_111 rfl ?_
            refine va_get (D := D) (ci := 5) (v := .int M.1.2.2.2.2.2.2.2.2.2.1) (C := RX5) (T := TX5) (N := 24) hx hb hts inX5 hown hKK.1 hP 0 rfl rfl 19 (by decide) (hts _ q692) (fun _ h => h) rfl dX5_takeLetter_112 ?_
            refine lv_iconst (v := 1) hx hb dX5_takeLetter_115 (by decide) ?_
            refine lv_iadd hx hb dX5_takeLetter_116 ?_
            refine nm_i hf (fun x12 hf => ?_)
            refine va_put (D := D) (ci := 5) (v := .int x12) (ty := .int) (C := RX5) (T := TX5) (N := 24) hx hb hts inX5 tyX5 tyX5_ok nmX5 hown hKK.1 hP hD hS 0 rfl rfl 19 (by decide) (hts _ q692) (fun _ h => h) rfl (by decide +kernel) rfl rfl (Nat.le_of_ble_eq_true rfl) dX5_takeLetter_117 (fun H locs hP hD hS => ?_)
            have hP : va_P D vwCl (wM cy ad ((M.1.1, M.1.2.1, M.1.2.2.1, M.1.2.2.2.1, M.1.2.2.2.2.1, M.1.2.2.2.2.2.1, M.1.2.2.2.2.2.2.1, M.1.2.2.2.2.2.2.2.1, M.1.2.2.2.2.2.2.2.2.1, x12, M.1.2.2.2.2.2.2.2.2.2.2.1, M.1.2.2.2.2.2.2.2.2.2.2.2), M.2.1, M.2.2.1, M.2.2.2.1, M.2.2.2.2.1, M.2.2.2.2.2.1, M.2.2.2.2.2.2.1, M.2.2.2.2.2.2.2.1, M.2.2.2.2.2.2.2.2.1, (upd M.2.2.2.2.2.2.2.2.2.1 M.1.2.2.2.2.2.2.2.2.2.1.toNatClampNeg (-9 : Int32)), M.2.2.2.2.2.2.2.2.2.2.1, M.2.2.2.2.2.2.2.2.2.2.2.1, M.2.2.2.2.2.2.2.2.2.2.2.2)) H := hP
            have hD : va_D (adr (wM cy ad M)) (wM cy ad ((M.1.1, M.1.2.1, M.1.2.2.1, M.1.2.2.2.1, M.1.2.2.2.2.1, M.1.2.2.2.2.2.1, M.1.2.2.2.2.2.2.1, M.1.2.2.2.2.2.2.2.1, M.1.2.2.2.2.2.2.2.2.1, x12, M.1.2.2.2.2.2.2.2.2.2.2.1, M.1.2.2.2.2.2.2.2.2.2.2.2), M.2.1, M.2.2.1, M.2.2.2.1, M.2.2.2.2.1, M.2.2.2.2.2.1, M.2.2.2.2.2.2.1, M.2.2.2.2.2.2.2.1, M.2.2.2.2.2.2.2.2.1, (upd M.2.2.2.2.2.2.2.2.2.1 M.1.2.2.2.2.2.2.2.2.2.1.toNatClampNeg (-9 : Int32)), M.2.2.2.2.2.2.2.2.2.2.1, M.2.2.2.2.2.2.2.2.2.2.2.1, M.2.2.2.2.2.2.2.2.2.2.2.2)) := hD
            refine lv_iload_n hx hb dX5_takeLetter_120 rfl (lv_at hl 0 rfl) ?_
            refine lv_if_lt (tgt := 128) hx hb dX5_takeLetter_121 (by decide) (fun _ => ?_) (fun h => absurd h (by decide))
            refine lv_iconst (v := 0) hx hb dX5_takeLetter_128 (by decide) ?_
            cases hf
            exact mretZ hx hb hr hlk (by decide) hP hS dX5_takeLetter_129
        · have hf := (if_pos h).symm.trans hf
          refine lv_aload_n hx hb dX5_takeLetter_67 rfl (lv_at hl 1 rfl) ?_
          refine lv_iload_n hx hb dX5_takeLetter_68 rfl (lv_at hl 0 rfl) ?_
          refine va_put (D := D) (ci := 5) (v := .int (-9 : Int32)) (ty := .int) (C := RX5) (T := TX5) (N := 24) hx hb hts inX5 tyX5 tyX5_ok nmX5 hown hKK.1 hP hD hS 0 rfl rfl 18 (by decide) (hts _ q691) (fun _ h => h) rfl (by decide +kernel) rfl rfl (Nat.le_of_ble_eq_true rfl) dX5_takeLetter_69 (fun H locs hP hD hS => ?_)
          have hP : va_P D vwCl (wM cy ad ((M.1.1, M.1.2.1, M.1.2.2.1, M.1.2.2.2.1, M.1.2.2.2.2.1, M.1.2.2.2.2.2.1, M.1.2.2.2.2.2.2.1, M.1.2.2.2.2.2.2.2.1, (-9 : Int32), M.1.2.2.2.2.2.2.2.2.2.1, M.1.2.2.2.2.2.2.2.2.2.2.1, M.1.2.2.2.2.2.2.2.2.2.2.2), M.2.1, M.2.2.1, M.2.2.2.1, M.2.2.2.2.1, M.2.2.2.2.2.1, M.2.2.2.2.2.2.1, M.2.2.2.2.2.2.2.1, M.2.2.2.2.2.2.2.2.1, M.2.2.2.2.2.2.2.2.2.1, M.2.2.2.2.2.2.2.2.2.2.1, M.2.2.2.2.2.2.2.2.2.2.2.1, M.2.2.2.2.2.2.2.2.2.2.2.2)) H := hP
          have hD : va_D (adr (wM cy ad M)) (wM cy ad ((M.1.1, M.1.2.1, M.1.2.2.1, M.1.2.2.2.1, M.1.2.2.2.2.1, M.1.2.2.2.2.2.1, M.1.2.2.2.2.2.2.1, M.1.2.2.2.2.2.2.2.1, (-9 : Int32), M.1.2.2.2.2.2.2.2.2.2.1, M.1.2.2.2.2.2.2.2.2.2.2.1, M.1.2.2.2.2.2.2.2.2.2.2.2), M.2.1, M.2.2.1, M.2.2.2.1, M.2.2.2.2.1, M.2.2.2.2.2.1, M.2.2.2.2.2.2.1, M.2.2.2.2.2.2.2.1, M.2.2.2.2.2.2.2.2.1, M.2.2.2.2.2.2.2.2.2.1, M.2.2.2.2.2.2.2.2.2.2.1, M.2.2.2.2.2.2.2.2.2.2.2.1, M.2.2.2.2.2.2.2.2.2.2.2.2)) := hD
          refine lv_iload_n hx hb dX5_takeLetter_72 rfl (lv_at hl 0 rfl) ?_
          refine lv_i2l hx hb dX5_takeLetter_73 rfl ?_
          refine lv_ldc2 hx hb hown (hts _ q772) dX5_takeLetter_74 ?_
          refine lv_ldc2 hx hb hown (hts _ q773) dX5_takeLetter_77 ?_
          obtain ⟨r14, hc13, hf⟩ := bd_some hf
          have hP1 := hP.sub (ws' := []) [] rfl
          refine pCallSI ⟨hx, hb, hml, hown, hts⟩ (mtX5_in l D cy z ((-9 : Int32).toInt64) (2 : Int64) (6 : Int64) r14 hc13) miX5_in q751 ⟨Nat.le_of_ble_eq_true rfl, Nat.le_of_ble_eq_true rfl⟩ ⟨rfl, rfl⟩ hP1 hKK hS hA0 rfl hl.1 rfl (Nat.le_of_ble_eq_true rfl) dX5_takeLetter_80 ⟨Nat.zero_le _, Nat.zero_le _⟩ ?_
          obtain ⟨hz, hf⟩ := gd_some hf
          cases hf
          exact mretZ hx hb hr hlk hz hP hS dX5_takeLetter_83
      · have hf := (if_pos h).symm.trans hf
        refine lv_aload_n hx hb dX5_takeLetter_45 rfl (lv_at hl 1 rfl) ?_
        refine lv_iload_n hx hb dX5_takeLetter_46 rfl (lv_at hl 0 rfl) ?_
        refine va_put (D := D) (ci := 5) (v := .int (-9 : Int32)) (ty := .int) (C := RX5) (T := TX5) (N := 24) hx hb hts inX5 tyX5 tyX5_ok nmX5 hown hKK.1 hP hD hS 0 rfl rfl 17 (by decide) (hts _ q690) (fun _ h => h) rfl (by decide +kernel) rfl rfl (Nat.le_of_ble_eq_true rfl) dX5_takeLetter_47 (fun H locs hP hD hS => ?_)
        have hP : va_P D vwCl (wM cy ad ((M.1.1, M.1.2.1, M.1.2.2.1, M.1.2.2.2.1, M.1.2.2.2.2.1, M.1.2.2.2.2.2.1, M.1.2.2.2.2.2.2.1, (-9 : Int32), M.1.2.2.2.2.2.2.2.2.1, M.1.2.2.2.2.2.2.2.2.2.1, M.1.2.2.2.2.2.2.2.2.2.2.1, M.1.2.2.2.2.2.2.2.2.2.2.2), M.2.1, M.2.2.1, M.2.2.2.1, M.2.2.2.2.1, M.2.2.2.2.2.1, M.2.2.2.2.2.2.1, M.2.2.2.2.2.2.2.1, M.2.2.2.2.2.2.2.2.1, M.2.2.2.2.2.2.2.2.2.1, M.2.2.2.2.2.2.2.2.2.2.1, M.2.2.2.2.2.2.2.2.2.2.2.1, M.2.2.2.2.2.2.2.2.2.2.2.2)) H := hP
        have hD : va_D (adr (wM cy ad M)) (wM cy ad ((M.1.1, M.1.2.1, M.1.2.2.1, M.1.2.2.2.1, M.1.2.2.2.2.1, M.1.2.2.2.2.2.1, M.1.2.2.2.2.2.2.1, (-9 : Int32), M.1.2.2.2.2.2.2.2.2.1, M.1.2.2.2.2.2.2.2.2.2.1, M.1.2.2.2.2.2.2.2.2.2.2.1, M.1.2.2.2.2.2.2.2.2.2.2.2), M.2.1, M.2.2.1, M.2.2.2.1, M.2.2.2.2.1, M.2.2.2.2.2.1, M.2.2.2.2.2.2.1, M.2.2.2.2.2.2.2.1, M.2.2.2.2.2.2.2.2.1, M.2.2.2.2.2.2.2.2.2.1, M.2.2.2.2.2.2.2.2.2.2.1, M.2.2.2.2.2.2.2.2.2.2.2.1, M.2.2.2.2.2.2.2.2.2.2.2.2)) := hD
        refine lv_iload_n hx hb dX5_takeLetter_50 rfl (lv_at hl 0 rfl) ?_
        refine lv_i2l hx hb dX5_takeLetter_51 rfl ?_
        refine lv_ldc2 hx hb hown (hts _ q772) dX5_takeLetter_52 ?_
        refine lv_ldc2 hx hb hown (hts _ q773) dX5_takeLetter_55 ?_
        obtain ⟨r16, hc15, hf⟩ := bd_some hf
        have hP1 := hP.sub (ws' := []) [] rfl
        refine pCallSI ⟨hx, hb, hml, hown, hts⟩ (mtX5_in l D cy z ((-9 : Int32).toInt64) (2 : Int64) (6 : Int64) r16 hc15) miX5_in q751 ⟨Nat.le_of_ble_eq_true rfl, Nat.le_of_ble_eq_true rfl⟩ ⟨rfl, rfl⟩ hP1 hKK hS hA0 rfl hl.1 rfl (Nat.le_of_ble_eq_true rfl) dX5_takeLetter_58 ⟨Nat.zero_le _, Nat.zero_le _⟩ ?_
        obtain ⟨hz, hf⟩ := gd_some hf
        cases hf
        exact mretZ hx hb hr hlk hz hP hS dX5_takeLetter_61
    · have hf := (if_pos h).symm.trans hf
      refine lv_iload_n hx hb dX5_takeLetter_28 rfl (lv_at hl 3 rfl) ?_
      refine lv_bipush (v := 71) hx hb dX5_takeLetter_29 (by decide) ?_
      refine lv_icmp_ne (tgt := 38) hx hb dX5_takeLetter_31 (by decide) (fun h => ?_) (fun h => ?_)
      · have hf := (if_neg h).symm.trans hf
        refine lv_iconst (v := 0) hx hb dX5_takeLetter_38 (by decide) ?_
        cases hf
        exact mretZ hx hb hr hlk (by decide) hP hS dX5_takeLetter_39
      · have hf := (if_pos h).symm.trans hf
        refine lv_iconst (v := 1) hx hb dX5_takeLetter_34 (by decide) ?_
        refine lv_goto (tgt := 39) hx hb dX5_takeLetter_35 (by decide) ?_
        cases hf
        exact mretZ hx hb hr hlk (by decide) hP hS dX5_takeLetter_39
  · have hf := (if_neg h).symm.trans hf
    refine lv_iload_n hx hb dX5_takeLetter_14 rfl (lv_at hl 2 rfl) ?_
    refine lv_bipush (v := 48) hx hb dX5_takeLetter_15 (by decide) ?_
    refine lv_isub hx hb dX5_takeLetter_17 ?_
    refine lv_goto (tgt := 23) hx hb dX5_takeLetter_18 (by decide) ?_
    refine nm_i hf (fun x17 hf => ?_)
    refine lv_istore_n (lv' := [(3, .int x17), (0, .ref (ad 0)), (1, .int u1), (2, .int u2)]) hx hb dX5_takeLetter_23 rfl hl (by decide) rfl (fun ls hl => ?_)
    refine lv_iload_n hx hb dX5_takeLetter_24 rfl (lv_at hl 2 rfl) ?_
    refine lv_if_ne (tgt := 40) hx hb dX5_takeLetter_25 (by decide) (fun h => ?_) (fun h => ?_)
    · have hf := (if_neg h).symm.trans hf
      refine lv_iload_n hx hb dX5_takeLetter_40 rfl (lv_at hl 2 rfl) ?_
      refine lv_iconst (v := 1) hx hb dX5_takeLetter_41 (by decide) ?_
      refine lv_icmp_ne (tgt := 62) hx hb dX5_takeLetter_42 (by decide) (fun h => ?_) (fun h => ?_)
      · have hf := (if_neg h).symm.trans hf
        refine lv_iload_n hx hb dX5_takeLetter_62 rfl (lv_at hl 2 rfl) ?_
        refine lv_iconst (v := 2) hx hb dX5_takeLetter_63 (by decide) ?_
        refine lv_icmp_ne (tgt := 84) hx hb dX5_takeLetter_64 (by decide) (fun h => ?_) (fun h => ?_)
        · have hf := (if_neg h).symm.trans hf
          refine lv_aload_n hx hb dX5_takeLetter_84 rfl (lv_at hl 1 rfl) ?_
          refine va_get (D := D) (ci := 5) (v := .int M.1.2.2.2.2.2.2.2.2.2.1) (C := RX5) (T := TX5) (N := 24) hx hb hts inX5 hown hKK.1 hP 0 rfl rfl 19 (by decide) (hts _ q692) (fun _ h => h) rfl dX5_takeLetter_85 ?_
          refine lv_aload_n hx hb dX5_takeLetter_88 rfl (lv_at hl 1 rfl) ?_
          refine va_get (D := D) (ci := 5) (v := .int M.1.2.2.2.2.2.2.2.1) (C := RX5) (T := TX5) (N := 24) hx hb hts inX5 hown hKK.1 hP 0 rfl rfl 17 (by decide) (hts _ q690) (fun _ h => h) rfl dX5_takeLetter_89 ?_
          refine lv_aload_n hx hb dX5_takeLetter_92 rfl (lv_at hl 1 rfl) ?_
          refine va_get (D := D) (ci := 5) (v := .int M.1.2.2.2.2.2.2.2.2.1) (C := RX5) (T := TX5) (N := 24) hx hb hts inX5 hown hKK.1 hP 0 rfl rfl 18 (by decide) (hts _ q691) (fun _ h => h) rfl dX5_takeLetter_93 ?_
          refine lv_imul hx hb dX5_takeLetter_96 ?_
          refine lv_icmp_ge (tgt := 130) hx hb dX5_takeLetter_97 (by decide) (fun h => ?_) (fun h => ?_)
          · have hf := (if_pos h).symm.trans hf
            refine lv_aload_n hx hb dX5_takeLetter_130 rfl (lv_at hl 1 rfl) ?_
            refine va_get (D := D) (ci := 5) (v := .int M.1.2.2.2.2.2.2.2.2.2.2.2) (C := RX5) (T := TX5) (N := 24) hx hb hts inX5 hown hKK.1 hP 0 rfl rfl 21 (by decide) (hts _ q694) (fun _ h => h) rfl dX5_takeLetter_131 ?_
            refine lv_if_ne (tgt := 143) hx hb dX5_takeLetter_134 (by decide) (fun h => ?_) (fun h => ?_)
            · have hf := (if_neg h).symm.trans hf
              refine lv_aload_n hx hb dX5_takeLetter_143 rfl (lv_at hl 1 rfl) ?_
              refine va_get (D := D) (ci := 5) (v := .int M.1.2.2.2.2.2.2.2.2.2.2.1) (C := RX5) (T := TX5) (N := 24) hx hb hts inX5 hown hKK.1 hP 0 rfl rfl 20 (by decide) (hts _ q693) (fun _ h => h) rfl dX5_takeLetter_144 ?_
              refine lv_bipush (v := 116) hx hb dX5_takeLetter_147 (by decide) ?_
              refine lv_icmp_ne (tgt := 158) hx hb dX5_takeLetter_149 (by decide) (fun h => ?_) (fun h => ?_)
              · have hf := (if_neg h).symm.trans hf
                refine lv_aload_n hx hb dX5_takeLetter_158 rfl (lv_at hl 1 rfl) ?_
                refine va_get (D := D) (ci := 5) (v := .int M.1.2.2.2.2.2.2.2.2.2.2.1) (C := RX5) (T := TX5) (N := 24) hx hb hts inX5 hown hKK.1 hP 0 rfl rfl 20 (by decide) (hts _ q693) (fun _ h => h) rfl dX5_takeLetter_159 ?_
                obtain ⟨r19, hc18, hf⟩ := bd_some hf
                have hP1 := hP.sub (ws' := []) [] rfl
                refine pCallSI ⟨hx, hb, hml, hown, hts⟩ (mtX5_settingOf l D cy z M.1.2.2.2.2.2.2.2.2.2.2.1 r19 hc18) miX5_settingOf q778 ⟨Nat.le_of_ble_eq_true rfl, Nat.le_of_ble_eq_true rfl⟩ ⟨rfl, rfl⟩ hP1 hKK hS hA0 rfl hl.1 rfl (Nat.le_of_ble_eq_true rfl) dX5_takeLetter_162 ⟨Nat.zero_le _, Nat.zero_le _⟩ ?_
                refine lv_istore (lv' := [(4, .int r19), (3, .int x17), (0, .ref (ad 0)), (1, .int u1), (2, .int u2)]) hx hb dX5_takeLetter_165 hl (by decide) rfl (fun ls hl => ?_)
                refine lv_aload_n hx hb dX5_takeLetter_167 rfl (lv_at hl 2 rfl) ?_
                refine va_get (D := D) (ci := 5) (v := .ref (ad 9)) (C := RX5) (T := TX5) (N := 24) hx hb hts inX5 hown hKK.1 hP 0 rfl rfl 15 (by decide) (hts _ q688) (fun _ h => h) rfl dX5_takeLetter_168 ?_
                refine lv_bipush (v := 47) hx hb dX5_takeLetter_171 (by decide) ?_
                refine lv_iload hx hb dX5_takeLetter_173 (lv_at hl 0 rfl) ?_
                refine lv_iadd hx hb dX5_takeLetter_175 ?_
                refine lv_iload_n hx hb dX5_takeLetter_176 rfl (lv_at hl 1 rfl) ?_
                obtain ⟨hg20, hf⟩ := gd_some hf
                refine va_iast hx hb hKK.1 hP hD hS 9 0 rfl rfl (inb_in hg20) dX5_takeLetter_177 (fun H locs hP hD hS => ?_)
                have hP : va_P D vwCl (wM cy ad (M.1, M.2.1, M.2.2.1, M.2.2.2.1, M.2.2.2.2.1, M.2.2.2.2.2.1, M.2.2.2.2.2.2.1, M.2.2.2.2.2.2.2.1, M.2.2.2.2.2.2.2.2.1, (upd M.2.2.2.2.2.2.2.2.2.1 ((47 : Int32) + r19).toNatClampNeg x17), M.2.2.2.2.2.2.2.2.2.2.1, M.2.2.2.2.2.2.2.2.2.2.2.1, M.2.2.2.2.2.2.2.2.2.2.2.2)) H := hP
                have hD : va_D (adr (wM cy ad M)) (wM cy ad (M.1, M.2.1, M.2.2.1, M.2.2.2.1, M.2.2.2.2.1, M.2.2.2.2.2.1, M.2.2.2.2.2.2.1, M.2.2.2.2.2.2.2.1, M.2.2.2.2.2.2.2.2.1, (upd M.2.2.2.2.2.2.2.2.2.1 ((47 : Int32) + r19).toNatClampNeg x17), M.2.2.2.2.2.2.2.2.2.2.1, M.2.2.2.2.2.2.2.2.2.2.2.1, M.2.2.2.2.2.2.2.2.2.2.2.2)) := hD
                refine lv_aload_n hx hb dX5_takeLetter_178 rfl (lv_at hl 2 rfl) ?_
                refine va_get (D := D) (ci := 5) (v := .ref (ad 10)) (C := RX5) (T := TX5) (N := 24) hx hb hts inX5 hown hKK.1 hP 0 rfl rfl 16 (by decide) (hts _ q689) (fun _ h => h) rfl dX5_takeLetter_179 ?_
                refine lv_iload hx hb dX5_takeLetter_182 (lv_at hl 0 rfl) ?_
                refine lv_iconst (v := 1) hx hb dX5_takeLetter_184 (by decide) ?_
                obtain ⟨hg21, hf⟩ := gd_some hf
                refine va_zast hx hb hKK.1 hP hD hS 10 3 rfl rfl (inb_in hg21) dX5_takeLetter_185 (fun H locs hP hD hS => ?_)
                have hP : va_P D vwCl (wM cy ad (M.1, M.2.1, M.2.2.1, M.2.2.2.1, M.2.2.2.2.1, M.2.2.2.2.2.1, M.2.2.2.2.2.2.1, M.2.2.2.2.2.2.2.1, M.2.2.2.2.2.2.2.2.1, (upd M.2.2.2.2.2.2.2.2.2.1 ((47 : Int32) + r19).toNatClampNeg x17), (upd M.2.2.2.2.2.2.2.2.2.2.1 r19.toNatClampNeg (vp_nar .boolean (1 : Int32))), M.2.2.2.2.2.2.2.2.2.2.2.1, M.2.2.2.2.2.2.2.2.2.2.2.2)) H := hP
                have hD : va_D (adr (wM cy ad M)) (wM cy ad (M.1, M.2.1, M.2.2.1, M.2.2.2.1, M.2.2.2.2.1, M.2.2.2.2.2.1, M.2.2.2.2.2.2.1, M.2.2.2.2.2.2.2.1, M.2.2.2.2.2.2.2.2.1, (upd M.2.2.2.2.2.2.2.2.2.1 ((47 : Int32) + r19).toNatClampNeg x17), (upd M.2.2.2.2.2.2.2.2.2.2.1 r19.toNatClampNeg (vp_nar .boolean (1 : Int32))), M.2.2.2.2.2.2.2.2.2.2.2.1, M.2.2.2.2.2.2.2.2.2.2.2.2)) := hD
                refine lv_aload_n hx hb dX5_takeLetter_186 rfl (lv_at hl 2 rfl) ?_
                refine lv_iconst (v := 0) hx hb dX5_takeLetter_187 (by decide) ?_
                refine va_put (D := D) (ci := 5) (v := .int (0 : Int32)) (ty := .int) (C := RX5) (T := TX5) (N := 24) hx hb hts inX5 tyX5 tyX5_ok nmX5 hown hKK.1 hP hD hS 0 rfl rfl 21 (by decide) (hts _ q694) (fun _ h => h) rfl (by decide +kernel) rfl rfl (Nat.le_of_ble_eq_true rfl) dX5_takeLetter_188 (fun H locs hP hD hS => ?_)
                have hP : va_P D vwCl (wM cy ad ((M.1.1, M.1.2.1, M.1.2.2.1, M.1.2.2.2.1, M.1.2.2.2.2.1, M.1.2.2.2.2.2.1, M.1.2.2.2.2.2.2.1, M.1.2.2.2.2.2.2.2.1, M.1.2.2.2.2.2.2.2.2.1, M.1.2.2.2.2.2.2.2.2.2.1, M.1.2.2.2.2.2.2.2.2.2.2.1, (0 : Int32)), M.2.1, M.2.2.1, M.2.2.2.1, M.2.2.2.2.1, M.2.2.2.2.2.1, M.2.2.2.2.2.2.1, M.2.2.2.2.2.2.2.1, M.2.2.2.2.2.2.2.2.1, (upd M.2.2.2.2.2.2.2.2.2.1 ((47 : Int32) + r19).toNatClampNeg x17), (upd M.2.2.2.2.2.2.2.2.2.2.1 r19.toNatClampNeg (vp_nar .boolean (1 : Int32))), M.2.2.2.2.2.2.2.2.2.2.2.1, M.2.2.2.2.2.2.2.2.2.2.2.2)) H := hP
                have hD : va_D (adr (wM cy ad M)) (wM cy ad ((M.1.1, M.1.2.1, M.1.2.2.1, M.1.2.2.2.1, M.1.2.2.2.2.1, M.1.2.2.2.2.2.1, M.1.2.2.2.2.2.2.1, M.1.2.2.2.2.2.2.2.1, M.1.2.2.2.2.2.2.2.2.1, M.1.2.2.2.2.2.2.2.2.2.1, M.1.2.2.2.2.2.2.2.2.2.2.1, (0 : Int32)), M.2.1, M.2.2.1, M.2.2.2.1, M.2.2.2.2.1, M.2.2.2.2.2.1, M.2.2.2.2.2.2.1, M.2.2.2.2.2.2.2.1, M.2.2.2.2.2.2.2.2.1, (upd M.2.2.2.2.2.2.2.2.2.1 ((47 : Int32) + r19).toNatClampNeg x17), (upd M.2.2.2.2.2.2.2.2.2.2.1 r19.toNatClampNeg (vp_nar .boolean (1 : Int32))), M.2.2.2.2.2.2.2.2.2.2.2.1, M.2.2.2.2.2.2.2.2.2.2.2.2)) := hD
                refine lv_iload_n hx hb dX5_takeLetter_191 rfl (lv_at hl 1 rfl) ?_
                refine lv_iload hx hb dX5_takeLetter_192 (lv_at hl 0 rfl) ?_
                refine lv_iconst (v := 3) hx hb dX5_takeLetter_194 (by decide) ?_
                refine lv_icmp_ne (tgt := 202) hx hb dX5_takeLetter_195 (by decide) (fun h => ?_) (fun h => ?_)
                · have hf := (if_neg h).symm.trans hf
                  refine lv_iconst (v := 0) hx hb dX5_takeLetter_202 (by decide) ?_
                  refine lv_icmp_lt (tgt := 210) hx hb dX5_takeLetter_203 (by decide) (fun h => ?_) (fun h => ?_)
                  · have hf := (if_pos h).symm.trans hf
                    refine lv_iconst (v := 0) hx hb dX5_takeLetter_210 (by decide) ?_
                    cases hf
                    exact mretZ hx hb hr hlk (by decide) hP hS dX5_takeLetter_211
                  · have hf := (if_neg h).symm.trans hf
                    refine lv_iconst (v := 1) hx hb dX5_takeLetter_206 (by decide) ?_
                    refine lv_goto (tgt := 211) hx hb dX5_takeLetter_207 (by decide) ?_
                    cases hf
                    exact mretZ hx hb hr hlk (by decide) hP hS dX5_takeLetter_211
                · have hf := (if_pos h).symm.trans hf
                  refine lv_iconst (v := 1) hx hb dX5_takeLetter_198 (by decide) ?_
                  refine lv_goto (tgt := 203) hx hb dX5_takeLetter_199 (by decide) ?_
                  refine lv_icmp_lt (tgt := 210) hx hb dX5_takeLetter_203 (by decide) (fun h => ?_) (fun h => ?_)
                  · have hf := (if_pos h).symm.trans hf
                    refine lv_iconst (v := 0) hx hb dX5_takeLetter_210 (by decide) ?_
                    cases hf
                    exact mretZ hx hb hr hlk (by decide) hP hS dX5_takeLetter_211
                  · have hf := (if_neg h).symm.trans hf
                    refine lv_iconst (v := 1) hx hb dX5_takeLetter_206 (by decide) ?_
                    refine lv_goto (tgt := 211) hx hb dX5_takeLetter_207 (by decide) ?_
                    cases hf
                    exact mretZ hx hb hr hlk (by decide) hP hS dX5_takeLetter_211
              · have hf := (if_pos h).symm.trans hf
                refine lv_aload_n hx hb dX5_takeLetter_152 rfl (lv_at hl 1 rfl) ?_
                refine lv_iload_n hx hb dX5_takeLetter_153 rfl (lv_at hl 0 rfl) ?_
                obtain ⟨y23, hc22, hf⟩ := bd_some hf
                refine mCallWVI ⟨hx, hb, hml, hown, hts⟩ (mtX5_takeInTower l D cy z ad M x17 y23.1 y23.2 hc22) miX5_takeInTower q781 ⟨Nat.le_of_ble_eq_true rfl, Nat.le_of_ble_eq_true rfl⟩ ⟨rfl, rfl⟩ hP hD hKK hA0 (va_recv hKK.1 hP (ci := 5) (q0 := 0) rfl rfl) rfl hl.1 rfl (Nat.le_of_ble_eq_true rfl) dX5_takeLetter_154 ⟨Nat.zero_le _, Nat.zero_le _⟩ hS rfl (fun H locs hP hD hS => ?_)
                have hP : va_P D vwCl (wM cy ad y23.2) H := hP
                have hD : va_D (adr (wM cy ad M)) (wM cy ad y23.2) := hD
                obtain ⟨hz, hf⟩ := gd_some hf
                cases hf
                exact mretZ hx hb hr hlk hz hP hS dX5_takeLetter_157
            · have hf := (if_pos h).symm.trans hf
              refine lv_aload_n hx hb dX5_takeLetter_137 rfl (lv_at hl 1 rfl) ?_
              refine lv_iload_n hx hb dX5_takeLetter_138 rfl (lv_at hl 3 rfl) ?_
              obtain ⟨y25, hc24, hf⟩ := bd_some hf
              refine mCallWVI ⟨hx, hb, hml, hown, hts⟩ (mtX5_takeSign l D cy z ad M u2 y25.1 y25.2 hc24) miX5_takeSign q774 ⟨Nat.le_of_ble_eq_true rfl, Nat.le_of_ble_eq_true rfl⟩ ⟨rfl, rfl⟩ hP hD hKK hA0 (va_recv hKK.1 hP (ci := 5) (q0 := 0) rfl rfl) rfl hl.1 rfl (Nat.le_of_ble_eq_true rfl) dX5_takeLetter_139 ⟨Nat.zero_le _, Nat.zero_le _⟩ hS rfl (fun H locs hP hD hS => ?_)
              have hP : va_P D vwCl (wM cy ad y25.2) H := hP
              have hD : va_D (adr (wM cy ad M)) (wM cy ad y25.2) := hD
              obtain ⟨hz, hf⟩ := gd_some hf
              cases hf
              exact mretZ hx hb hr hlk hz hP hS dX5_takeLetter_142
          · have hf := (if_neg h).symm.trans hf
            refine lv_aload_n hx hb dX5_takeLetter_100 rfl (lv_at hl 1 rfl) ?_
            refine va_get (D := D) (ci := 5) (v := .ref (ad 9)) (C := RX5) (T := TX5) (N := 24) hx hb hts inX5 hown hKK.1 hP 0 rfl rfl 15 (by decide) (hts _ q688) (fun _ h => h) rfl dX5_takeLetter_101 ?_
            refine lv_aload_n hx hb dX5_takeLetter_104 rfl (lv_at hl 1 rfl) ?_
            refine va_get (D := D) (ci := 5) (v := .int M.1.2.2.2.2.2.2.2.2.2.1) (C := RX5) (T := TX5) (N := 24) hx hb hts inX5 hown hKK.1 hP 0 rfl rfl 19 (by decide) (hts _ q692) (fun _ h => h) rfl dX5_takeLetter_105 ?_
            refine lv_iload_n hx hb dX5_takeLetter_108 rfl (lv_at hl 0 rfl) ?_
            obtain ⟨hg26, hf⟩ := gd_some hf
            refine va_iast hx hb hKK.1 hP hD hS 9 0 rfl rfl (inb_in hg26) dX5_takeLetter_109 (fun H locs hP hD hS => ?_)
            have hP : va_P D vwCl (wM cy ad (M.1, M.2.1, M.2.2.1, M.2.2.2.1, M.2.2.2.2.1, M.2.2.2.2.2.1, M.2.2.2.2.2.2.1, M.2.2.2.2.2.2.2.1, M.2.2.2.2.2.2.2.2.1, (upd M.2.2.2.2.2.2.2.2.2.1 M.1.2.2.2.2.2.2.2.2.2.1.toNatClampNeg x17), M.2.2.2.2.2.2.2.2.2.2.1, M.2.2.2.2.2.2.2.2.2.2.2.1, M.2.2.2.2.2.2.2.2.2.2.2.2)) H := hP
            have hD : va_D (adr (wM cy ad M)) (wM cy ad (M.1, M.2.1, M.2.2.1, M.2.2.2.1, M.2.2.2.2.1, M.2.2.2.2.2.1, M.2.2.2.2.2.2.1, M.2.2.2.2.2.2.2.1, M.2.2.2.2.2.2.2.2.1, (upd M.2.2.2.2.2.2.2.2.2.1 M.1.2.2.2.2.2.2.2.2.2.1.toNatClampNeg x17), M.2.2.2.2.2.2.2.2.2.2.1, M.2.2.2.2.2.2.2.2.2.2.2.1, M.2.2.2.2.2.2.2.2.2.2.2.2)) := hD
            refine lv_aload_n hx hb dX5_takeLetter_110 rfl (lv_at hl 1 rfl) ?_
            refine lv_dup hx hb dX5_takeLetter_111 rfl ?_
            refine va_get (D := D) (ci := 5) (v := .int M.1.2.2.2.2.2.2.2.2.2.1) (C := RX5) (T := TX5) (N := 24) hx hb hts inX5 hown hKK.1 hP 0 rfl rfl 19 (by decide) (hts _ q692) (fun _ h => h) rfl dX5_takeLetter_112 ?_
            refine lv_iconst (v := 1) hx hb dX5_takeLetter_115 (by decide) ?_
            refine lv_iadd hx hb dX5_takeLetter_116 ?_
            refine nm_i hf (fun x27 hf => ?_)
            refine va_put (D := D) (ci := 5) (v := .int x27) (ty := .int) (C := RX5) (T := TX5) (N := 24) hx hb hts inX5 tyX5 tyX5_ok nmX5 hown hKK.1 hP hD hS 0 rfl rfl 19 (by decide) (hts _ q692) (fun _ h => h) rfl (by decide +kernel) rfl rfl (Nat.le_of_ble_eq_true rfl) dX5_takeLetter_117 (fun H locs hP hD hS => ?_)
            have hP : va_P D vwCl (wM cy ad ((M.1.1, M.1.2.1, M.1.2.2.1, M.1.2.2.2.1, M.1.2.2.2.2.1, M.1.2.2.2.2.2.1, M.1.2.2.2.2.2.2.1, M.1.2.2.2.2.2.2.2.1, M.1.2.2.2.2.2.2.2.2.1, x27, M.1.2.2.2.2.2.2.2.2.2.2.1, M.1.2.2.2.2.2.2.2.2.2.2.2), M.2.1, M.2.2.1, M.2.2.2.1, M.2.2.2.2.1, M.2.2.2.2.2.1, M.2.2.2.2.2.2.1, M.2.2.2.2.2.2.2.1, M.2.2.2.2.2.2.2.2.1, (upd M.2.2.2.2.2.2.2.2.2.1 M.1.2.2.2.2.2.2.2.2.2.1.toNatClampNeg x17), M.2.2.2.2.2.2.2.2.2.2.1, M.2.2.2.2.2.2.2.2.2.2.2.1, M.2.2.2.2.2.2.2.2.2.2.2.2)) H := hP
            have hD : va_D (adr (wM cy ad M)) (wM cy ad ((M.1.1, M.1.2.1, M.1.2.2.1, M.1.2.2.2.1, M.1.2.2.2.2.1, M.1.2.2.2.2.2.1, M.1.2.2.2.2.2.2.1, M.1.2.2.2.2.2.2.2.1, M.1.2.2.2.2.2.2.2.2.1, x27, M.1.2.2.2.2.2.2.2.2.2.2.1, M.1.2.2.2.2.2.2.2.2.2.2.2), M.2.1, M.2.2.1, M.2.2.2.1, M.2.2.2.2.1, M.2.2.2.2.2.1, M.2.2.2.2.2.2.1, M.2.2.2.2.2.2.2.1, M.2.2.2.2.2.2.2.2.1, (upd M.2.2.2.2.2.2.2.2.2.1 M.1.2.2.2.2.2.2.2.2.2.1.toNatClampNeg x17), M.2.2.2.2.2.2.2.2.2.2.1, M.2.2.2.2.2.2.2.2.2.2.2.1, M.2.2.2.2.2.2.2.2.2.2.2.2)) := hD
            refine lv_iload_n hx hb dX5_takeLetter_120 rfl (lv_at hl 0 rfl) ?_
            refine lv_if_lt (tgt := 128) hx hb dX5_takeLetter_121 (by decide) (fun h => ?_) (fun h => ?_)
            · have hf := (if_pos h).symm.trans hf
              refine lv_iconst (v := 0) hx hb dX5_takeLetter_128 (by decide) ?_
              cases hf
              exact mretZ hx hb hr hlk (by decide) hP hS dX5_takeLetter_129
            · have hf := (if_neg h).symm.trans hf
              refine lv_iconst (v := 1) hx hb dX5_takeLetter_124 (by decide) ?_
              refine lv_goto (tgt := 129) hx hb dX5_takeLetter_125 (by decide) ?_
              cases hf
              exact mretZ hx hb hr hlk (by decide) hP hS dX5_takeLetter_129
        · have hf := (if_pos h).symm.trans hf
          refine lv_aload_n hx hb dX5_takeLetter_67 rfl (lv_at hl 1 rfl) ?_
          refine lv_iload_n hx hb dX5_takeLetter_68 rfl (lv_at hl 0 rfl) ?_
          refine va_put (D := D) (ci := 5) (v := .int x17) (ty := .int) (C := RX5) (T := TX5) (N := 24) hx hb hts inX5 tyX5 tyX5_ok nmX5 hown hKK.1 hP hD hS 0 rfl rfl 18 (by decide) (hts _ q691) (fun _ h => h) rfl (by decide +kernel) rfl rfl (Nat.le_of_ble_eq_true rfl) dX5_takeLetter_69 (fun H locs hP hD hS => ?_)
          have hP : va_P D vwCl (wM cy ad ((M.1.1, M.1.2.1, M.1.2.2.1, M.1.2.2.2.1, M.1.2.2.2.2.1, M.1.2.2.2.2.2.1, M.1.2.2.2.2.2.2.1, M.1.2.2.2.2.2.2.2.1, x17, M.1.2.2.2.2.2.2.2.2.2.1, M.1.2.2.2.2.2.2.2.2.2.2.1, M.1.2.2.2.2.2.2.2.2.2.2.2), M.2.1, M.2.2.1, M.2.2.2.1, M.2.2.2.2.1, M.2.2.2.2.2.1, M.2.2.2.2.2.2.1, M.2.2.2.2.2.2.2.1, M.2.2.2.2.2.2.2.2.1, M.2.2.2.2.2.2.2.2.2.1, M.2.2.2.2.2.2.2.2.2.2.1, M.2.2.2.2.2.2.2.2.2.2.2.1, M.2.2.2.2.2.2.2.2.2.2.2.2)) H := hP
          have hD : va_D (adr (wM cy ad M)) (wM cy ad ((M.1.1, M.1.2.1, M.1.2.2.1, M.1.2.2.2.1, M.1.2.2.2.2.1, M.1.2.2.2.2.2.1, M.1.2.2.2.2.2.2.1, M.1.2.2.2.2.2.2.2.1, x17, M.1.2.2.2.2.2.2.2.2.2.1, M.1.2.2.2.2.2.2.2.2.2.2.1, M.1.2.2.2.2.2.2.2.2.2.2.2), M.2.1, M.2.2.1, M.2.2.2.1, M.2.2.2.2.1, M.2.2.2.2.2.1, M.2.2.2.2.2.2.1, M.2.2.2.2.2.2.2.1, M.2.2.2.2.2.2.2.2.1, M.2.2.2.2.2.2.2.2.2.1, M.2.2.2.2.2.2.2.2.2.2.1, M.2.2.2.2.2.2.2.2.2.2.2.1, M.2.2.2.2.2.2.2.2.2.2.2.2)) := hD
          refine lv_iload_n hx hb dX5_takeLetter_72 rfl (lv_at hl 0 rfl) ?_
          refine lv_i2l hx hb dX5_takeLetter_73 rfl ?_
          refine lv_ldc2 hx hb hown (hts _ q772) dX5_takeLetter_74 ?_
          refine lv_ldc2 hx hb hown (hts _ q773) dX5_takeLetter_77 ?_
          obtain ⟨r29, hc28, hf⟩ := bd_some hf
          have hP1 := hP.sub (ws' := []) [] rfl
          refine pCallSI ⟨hx, hb, hml, hown, hts⟩ (mtX5_in l D cy z x17.toInt64 (2 : Int64) (6 : Int64) r29 hc28) miX5_in q751 ⟨Nat.le_of_ble_eq_true rfl, Nat.le_of_ble_eq_true rfl⟩ ⟨rfl, rfl⟩ hP1 hKK hS hA0 rfl hl.1 rfl (Nat.le_of_ble_eq_true rfl) dX5_takeLetter_80 ⟨Nat.zero_le _, Nat.zero_le _⟩ ?_
          obtain ⟨hz, hf⟩ := gd_some hf
          cases hf
          exact mretZ hx hb hr hlk hz hP hS dX5_takeLetter_83
      · have hf := (if_pos h).symm.trans hf
        refine lv_aload_n hx hb dX5_takeLetter_45 rfl (lv_at hl 1 rfl) ?_
        refine lv_iload_n hx hb dX5_takeLetter_46 rfl (lv_at hl 0 rfl) ?_
        refine va_put (D := D) (ci := 5) (v := .int x17) (ty := .int) (C := RX5) (T := TX5) (N := 24) hx hb hts inX5 tyX5 tyX5_ok nmX5 hown hKK.1 hP hD hS 0 rfl rfl 17 (by decide) (hts _ q690) (fun _ h => h) rfl (by decide +kernel) rfl rfl (Nat.le_of_ble_eq_true rfl) dX5_takeLetter_47 (fun H locs hP hD hS => ?_)
        have hP : va_P D vwCl (wM cy ad ((M.1.1, M.1.2.1, M.1.2.2.1, M.1.2.2.2.1, M.1.2.2.2.2.1, M.1.2.2.2.2.2.1, M.1.2.2.2.2.2.2.1, x17, M.1.2.2.2.2.2.2.2.2.1, M.1.2.2.2.2.2.2.2.2.2.1, M.1.2.2.2.2.2.2.2.2.2.2.1, M.1.2.2.2.2.2.2.2.2.2.2.2), M.2.1, M.2.2.1, M.2.2.2.1, M.2.2.2.2.1, M.2.2.2.2.2.1, M.2.2.2.2.2.2.1, M.2.2.2.2.2.2.2.1, M.2.2.2.2.2.2.2.2.1, M.2.2.2.2.2.2.2.2.2.1, M.2.2.2.2.2.2.2.2.2.2.1, M.2.2.2.2.2.2.2.2.2.2.2.1, M.2.2.2.2.2.2.2.2.2.2.2.2)) H := hP
        have hD : va_D (adr (wM cy ad M)) (wM cy ad ((M.1.1, M.1.2.1, M.1.2.2.1, M.1.2.2.2.1, M.1.2.2.2.2.1, M.1.2.2.2.2.2.1, M.1.2.2.2.2.2.2.1, x17, M.1.2.2.2.2.2.2.2.2.1, M.1.2.2.2.2.2.2.2.2.2.1, M.1.2.2.2.2.2.2.2.2.2.2.1, M.1.2.2.2.2.2.2.2.2.2.2.2), M.2.1, M.2.2.1, M.2.2.2.1, M.2.2.2.2.1, M.2.2.2.2.2.1, M.2.2.2.2.2.2.1, M.2.2.2.2.2.2.2.1, M.2.2.2.2.2.2.2.2.1, M.2.2.2.2.2.2.2.2.2.1, M.2.2.2.2.2.2.2.2.2.2.1, M.2.2.2.2.2.2.2.2.2.2.2.1, M.2.2.2.2.2.2.2.2.2.2.2.2)) := hD
        refine lv_iload_n hx hb dX5_takeLetter_50 rfl (lv_at hl 0 rfl) ?_
        refine lv_i2l hx hb dX5_takeLetter_51 rfl ?_
        refine lv_ldc2 hx hb hown (hts _ q772) dX5_takeLetter_52 ?_
        refine lv_ldc2 hx hb hown (hts _ q773) dX5_takeLetter_55 ?_
        obtain ⟨r31, hc30, hf⟩ := bd_some hf
        have hP1 := hP.sub (ws' := []) [] rfl
        refine pCallSI ⟨hx, hb, hml, hown, hts⟩ (mtX5_in l D cy z x17.toInt64 (2 : Int64) (6 : Int64) r31 hc30) miX5_in q751 ⟨Nat.le_of_ble_eq_true rfl, Nat.le_of_ble_eq_true rfl⟩ ⟨rfl, rfl⟩ hP1 hKK hS hA0 rfl hl.1 rfl (Nat.le_of_ble_eq_true rfl) dX5_takeLetter_58 ⟨Nat.zero_le _, Nat.zero_le _⟩ ?_
        obtain ⟨hz, hf⟩ := gd_some hf
        cases hf
        exact mretZ hx hb hr hlk hz hP hS dX5_takeLetter_61
    · have hf := (if_pos h).symm.trans hf
      refine lv_iload_n hx hb dX5_takeLetter_28 rfl (lv_at hl 3 rfl) ?_
      refine lv_bipush (v := 71) hx hb dX5_takeLetter_29 (by decide) ?_
      refine lv_icmp_ne (tgt := 38) hx hb dX5_takeLetter_31 (by decide) (fun h => ?_) (fun h => ?_)
      · have hf := (if_neg h).symm.trans hf
        refine lv_iconst (v := 0) hx hb dX5_takeLetter_38 (by decide) ?_
        cases hf
        exact mretZ hx hb hr hlk (by decide) hP hS dX5_takeLetter_39
      · have hf := (if_pos h).symm.trans hf
        refine lv_iconst (v := 1) hx hb dX5_takeLetter_34 (by decide) ?_
        refine lv_goto (tgt := 39) hx hb dX5_takeLetter_35 (by decide) ?_
        cases hf
        exact mretZ hx hb hr hlk (by decide) hP hS dX5_takeLetter_39

abbrev rmX5_readText : Room := { frames := 3, cells := 0, slots := 0, locals := 72 }
theorem miX5_readText : miV yX5_readText cX5_readText 2 (some .int) 0 := ⟨q765, q46, q764, q10, by decide +kernel⟩
set_option maxHeartbeats 4000000 in
set_option maxRecDepth 100000 in
theorem mtX5_readText (l : Launch) (D : va_G) (cy : Nat → ClassId) (z : zT) (ad : Nat → Nat) (M : tM) (r0 : Int32) (M0 : tM) (hf : fX5_readText M = some (r0, M0)) : mmet l yX5_readText cX5_readText 2 (some .int) rmX5_readText D cy z (wM cy ad M) (wM cy ad M0) [.ref (ad 0)] (some (.int r0)) := by
  refine mmet_of (by decide +kernel) (Nat.le_of_ble_eq_true rfl) (fun p e s m below meth c hx hb hr hml hown hts hlk hP hD hS hA0 hKK ls hl => ?_)
  have hown : s.vm.findClass "HillSightModel" = some m.cls := hown
  have hl : lv_has ls 2 [(0, .ref (ad 0))] := hl
  have w_9 : ∀ (k27 : tM → Option (Int32 × tM)) (hk27 : ∀ (M_9 : tM) (H : Heap) (locs : List Loc) (ls : Array Slot), k27 M_9 = some (r0, M0) → va_P D vwCl (wM cy ad M_9) H → va_D (adr (wM cy ad M)) (wM cy ad M_9) → va_S (adr (wM cy ad M)) s.heap H locs → lv_has ls 2 [(0, .ref (ad 0))] → W p l e rmX5_readText s m ([.ref (ad 0)] : List Value).toArray below meth c H locs 0 0 (MQ below (mQ D (wM cy ad M) (wM cy ad M0) (some (.int r0))) ([.ref (ad 0)] : List Value).toArray s 0 0 (adr (wM cy ad M))) (F0 m 27 ls [])) (n : Nat) (v1_9 : Int32) (M_9 : tM) (H : Heap) (locs : List Loc) (ls : Array Slot), fX5_readText_9 k27 n v1_9 M_9 = some (r0, M0) → va_P D vwCl (wM cy ad M_9) H → va_D (adr (wM cy ad M)) (wM cy ad M_9) → va_S (adr (wM cy ad M)) s.heap H locs → lv_has ls 2 [(0, .ref (ad 0)), (1, .int v1_9)] → W p l e rmX5_readText s m ([.ref (ad 0)] : List Value).toArray below meth c H locs 0 0 (MQ below (mQ D (wM cy ad M) (wM cy ad M0) (some (.int r0))) ([.ref (ad 0)] : List Value).toArray s 0 0 (adr (wM cy ad M))) (F0 m 9 ls []) := by
    intro k27 hk27 n
    induction n with
    | zero =>
      intro v1_9 M_9 H locs ls hf hP hD hS hl
      cases (show (none : Option (Int32 × tM)) = some (r0, M0) from hf)
    | succ n ih =>
      intro v1_9 M_9 H locs ls hf hP hD hS hl
      rw [fX5_readText_9] at hf
      refine lv_iload_n hx hb dX5_readText_9 rfl (lv_at hl 1 rfl) ?_
      refine lv_iconst (v := 4) hx hb dX5_readText_10 (by decide) ?_
      refine lv_icmp_ge (tgt := 27) hx hb dX5_readText_11 (by decide) (fun h => ?_) (fun h => ?_)
      · have hf := (if_pos h).symm.trans hf
        exact hk27 M_9 _ _ ls hf hP hD hS (lv_sub hl [0] rfl)
      · have hf := (if_neg h).symm.trans hf
        refine lv_aload_n hx hb dX5_readText_14 rfl (lv_at hl 0 rfl) ?_
        refine va_get (D := D) (ci := 5) (v := .ref (ad 10)) (C := RX5) (T := TX5) (N := 24) hx hb hts inX5 hown hKK.1 hP 0 rfl rfl 16 (by decide) (hts _ q689) (fun _ h => h) rfl dX5_readText_15 ?_
        refine lv_iload_n hx hb dX5_readText_18 rfl (lv_at hl 1 rfl) ?_
        refine lv_iconst (v := 0) hx hb dX5_readText_19 (by decide) ?_
        obtain ⟨hg3, hf⟩ := gd_some hf
        refine va_zast hx hb hKK.1 hP hD hS 10 3 rfl rfl (inb_in hg3) dX5_readText_20 (fun H locs hP hD hS => ?_)
        have hP : va_P D vwCl (wM cy ad (M_9.1, M_9.2.1, M_9.2.2.1, M_9.2.2.2.1, M_9.2.2.2.2.1, M_9.2.2.2.2.2.1, M_9.2.2.2.2.2.2.1, M_9.2.2.2.2.2.2.2.1, M_9.2.2.2.2.2.2.2.2.1, M_9.2.2.2.2.2.2.2.2.2.1, (upd M_9.2.2.2.2.2.2.2.2.2.2.1 v1_9.toNatClampNeg (vp_nar .boolean (0 : Int32))), M_9.2.2.2.2.2.2.2.2.2.2.2.1, M_9.2.2.2.2.2.2.2.2.2.2.2.2)) H := hP
        have hD : va_D (adr (wM cy ad M)) (wM cy ad (M_9.1, M_9.2.1, M_9.2.2.1, M_9.2.2.2.1, M_9.2.2.2.2.1, M_9.2.2.2.2.2.1, M_9.2.2.2.2.2.2.1, M_9.2.2.2.2.2.2.2.1, M_9.2.2.2.2.2.2.2.2.1, M_9.2.2.2.2.2.2.2.2.2.1, (upd M_9.2.2.2.2.2.2.2.2.2.2.1 v1_9.toNatClampNeg (vp_nar .boolean (0 : Int32))), M_9.2.2.2.2.2.2.2.2.2.2.2.1, M_9.2.2.2.2.2.2.2.2.2.2.2.2)) := hD
        obtain ⟨x4, ex4, hf⟩ := nm_ex hf
        refine lv_iinc (v := x4) (lv' := [(1, .int x4), (0, .ref (ad 0))]) hx hb dX5_readText_21 hl (k := 1) rfl (Eq.trans rfl ex4) (by decide) rfl (fun ls hl => ?_)
        refine lv_goto (tgt := 9) hx hb dX5_readText_24 (by decide) ?_
        exact ih x4 (M_9.1, M_9.2.1, M_9.2.2.1, M_9.2.2.2.1, M_9.2.2.2.2.1, M_9.2.2.2.2.2.1, M_9.2.2.2.2.2.2.1, M_9.2.2.2.2.2.2.2.1, M_9.2.2.2.2.2.2.2.2.1, M_9.2.2.2.2.2.2.2.2.2.1, (upd M_9.2.2.2.2.2.2.2.2.2.2.1 v1_9.toNatClampNeg (vp_nar .boolean (0 : Int32))), M_9.2.2.2.2.2.2.2.2.2.2.2.1, M_9.2.2.2.2.2.2.2.2.2.2.2.2) _ _ ls hf hP hD hS (lv_sub hl [1, 0] rfl)
  have w_39 : ∀ (k61 : Int32 → tM → Option (Int32 × tM)) (hk61 : ∀ (v1_39 : Int32) (M_39 : tM) (H : Heap) (locs : List Loc) (ls : Array Slot), k61 v1_39 M_39 = some (r0, M0) → va_P D vwCl (wM cy ad M_39) H → va_D (adr (wM cy ad M)) (wM cy ad M_39) → va_S (adr (wM cy ad M)) s.heap H locs → lv_has ls 2 [(1, .int v1_39)] → W p l e rmX5_readText s m ([.ref (ad 0)] : List Value).toArray below meth c H locs 0 0 (MQ below (mQ D (wM cy ad M) (wM cy ad M0) (some (.int r0))) ([.ref (ad 0)] : List Value).toArray s 0 0 (adr (wM cy ad M))) (F0 m 61 ls [])) (k69 : tM → Option (Int32 × tM)) (hk69 : ∀ (M_39 : tM) (H : Heap) (locs : List Loc) (ls : Array Slot), k69 M_39 = some (r0, M0) → va_P D vwCl (wM cy ad M_39) H → va_D (adr (wM cy ad M)) (wM cy ad M_39) → va_S (adr (wM cy ad M)) s.heap H locs → lv_has ls 2 [(0, .ref (ad 0))] → W p l e rmX5_readText s m ([.ref (ad 0)] : List Value).toArray below meth c H locs 0 0 (MQ below (mQ D (wM cy ad M) (wM cy ad M0) (some (.int r0))) ([.ref (ad 0)] : List Value).toArray s 0 0 (adr (wM cy ad M))) (F0 m 69 ls [])) (n : Nat) (v1_39 : Int32) (M_39 : tM) (H : Heap) (locs : List Loc) (ls : Array Slot), fX5_readText_39 k61 k69 n v1_39 M_39 = some (r0, M0) → va_P D vwCl (wM cy ad M_39) H → va_D (adr (wM cy ad M)) (wM cy ad M_39) → va_S (adr (wM cy ad M)) s.heap H locs → lv_has ls 2 [(0, .ref (ad 0)), (1, .int v1_39)] → W p l e rmX5_readText s m ([.ref (ad 0)] : List Value).toArray below meth c H locs 0 0 (MQ below (mQ D (wM cy ad M) (wM cy ad M0) (some (.int r0))) ([.ref (ad 0)] : List Value).toArray s 0 0 (adr (wM cy ad M))) (F0 m 39 ls []) := by
    intro k61 hk61 k69 hk69 n
    induction n with
    | zero =>
      intro v1_39 M_39 H locs ls hf hP hD hS hl
      cases (show (none : Option (Int32 × tM)) = some (r0, M0) from hf)
    | succ n ih =>
      intro v1_39 M_39 H locs ls hf hP hD hS hl
      rw [fX5_readText_39] at hf
      refine lv_iload_n hx hb dX5_readText_39 rfl (lv_at hl 1 rfl) ?_
      refine lv_aload_n hx hb dX5_readText_40 rfl (lv_at hl 0 rfl) ?_
      refine va_get (D := D) (ci := 5) (v := .int M_39.1.1) (C := RX5) (T := TX5) (N := 24) hx hb hts inX5 hown hKK.1 hP 0 rfl rfl 1 (by decide) (hts _ q674) (fun _ h => h) rfl dX5_readText_41 ?_
      refine lv_icmp_ge (tgt := 69) hx hb dX5_readText_44 (by decide) (fun h => ?_) (fun h => ?_)
      · have hf := (if_pos h).symm.trans hf
        exact hk69 M_39 _ _ ls hf hP hD hS (lv_sub hl [0] rfl)
      · have hf := (if_neg h).symm.trans hf
        refine lv_aload_n hx hb dX5_readText_47 rfl (lv_at hl 0 rfl) ?_
        refine lv_iload_n hx hb dX5_readText_48 rfl (lv_at hl 1 rfl) ?_
        refine lv_aload_n hx hb dX5_readText_49 rfl (lv_at hl 0 rfl) ?_
        refine va_get (D := D) (ci := 5) (v := .ref (ad 1)) (C := RX5) (T := TX5) (N := 24) hx hb hts inX5 hown hKK.1 hP 0 rfl rfl 0 (by decide) (hts _ q673) (fun _ h => h) rfl dX5_readText_50 ?_
        refine lv_iload_n hx hb dX5_readText_53 rfl (lv_at hl 1 rfl) ?_
        obtain ⟨hg6, hf⟩ := gd_some hf
        refine va_iald hx hb hKK.1 hP 1 0 rfl rfl (inb_in hg6) dX5_readText_54 ?_
        obtain ⟨y8, hc7, hf⟩ := bd_some hf
        refine mCallWVI ⟨hx, hb, hml, hown, hts⟩ (mtX5_takeLetter l D cy z ad M_39 v1_39 (M_39.2.1 v1_39.toNatClampNeg) y8.1 y8.2 hc7) miX5_takeLetter q766 ⟨Nat.le_of_ble_eq_true rfl, Nat.le_of_ble_eq_true rfl⟩ ⟨rfl, rfl⟩ hP hD hKK hA0 (va_recv hKK.1 hP (ci := 5) (q0 := 0) rfl rfl) rfl hl.1 rfl (Nat.le_of_ble_eq_true rfl) dX5_readText_55 ⟨Nat.zero_le _, Nat.zero_le _⟩ hS rfl (fun H locs hP hD hS => ?_)
        have hP : va_P D vwCl (wM cy ad y8.2) H := hP
        have hD : va_D (adr (wM cy ad M)) (wM cy ad y8.2) := hD
        refine lv_if_ne (tgt := 63) hx hb dX5_readText_58 (by decide) (fun h => ?_) (fun h => ?_)
        · have hf := (if_neg h).symm.trans hf
          obtain ⟨x9, ex9, hf⟩ := nm_ex hf
          refine lv_iinc (v := x9) (lv' := [(1, .int x9), (0, .ref (ad 0))]) hx hb dX5_readText_63 hl (k := 1) rfl (Eq.trans rfl ex9) (by decide) rfl (fun ls hl => ?_)
          refine lv_goto (tgt := 39) hx hb dX5_readText_66 (by decide) ?_
          exact ih x9 y8.2 _ _ ls hf hP hD hS (lv_sub hl [1, 0] rfl)
        · have hf := (if_pos h).symm.trans hf
          exact hk61 v1_39 y8.2 _ _ ls hf hP hD hS (lv_sub hl [1] rfl)
  unfold fX5_readText at hf
  refine lv_aload_n hx hb dX5_readText_0 rfl (lv_at hl 0 rfl) ?_
  refine va_get (D := D) (ci := 5) (v := .ref (ad 9)) (C := RX5) (T := TX5) (N := 24) hx hb hts inX5 hown hKK.1 hP 0 rfl rfl 15 (by decide) (hts _ q688) (fun _ h => h) rfl dX5_readText_1 ?_
  obtain ⟨y2, hc1, hf⟩ := bd_some hf
  have hP1 := hP.sub (ws' := [arI cy (ad 9) 51 M.2.2.2.2.2.2.2.2.2.1]) [9] rfl
  have hD1 := hD.sub (ws' := [arI cy (ad 9) 51 M.2.2.2.2.2.2.2.2.2.1]) [9] (by decide) rfl
  refine mCallSV ⟨hx, hb, hml, hown, hts⟩ (mtX5_clear l D cy z (ad 9) M.2.2.2.2.2.2.2.2.2.1 y2 hc1) miX5_clear q670 ⟨Nat.le_of_ble_eq_true rfl, Nat.le_of_ble_eq_true rfl⟩ ⟨rfl, rfl⟩ hP1 hD1 hKK hA0 rfl hl.1 rfl (Nat.le_of_ble_eq_true rfl) dX5_readText_4 ⟨Nat.zero_le _, Nat.zero_le _⟩ hS hP hD [9] rfl rfl (ws' := wM cy ad (M.1, M.2.1, M.2.2.1, M.2.2.2.1, M.2.2.2.2.1, M.2.2.2.2.2.1, M.2.2.2.2.2.2.1, M.2.2.2.2.2.2.2.1, M.2.2.2.2.2.2.2.2.1, y2, M.2.2.2.2.2.2.2.2.2.2.1, M.2.2.2.2.2.2.2.2.2.2.2.1, M.2.2.2.2.2.2.2.2.2.2.2.2)) rfl (fun H locs hP hD hS => ?_)
  refine lv_iconst (v := 0) hx hb dX5_readText_7 (by decide) ?_
  refine lv_istore_n (lv' := [(1, .int (0 : Int32)), (0, .ref (ad 0))]) hx hb dX5_readText_8 rfl hl (by decide) rfl (fun ls hl => ?_)
  refine w_9 _ ?_ _ (0 : Int32) (M.1, M.2.1, M.2.2.1, M.2.2.2.1, M.2.2.2.2.1, M.2.2.2.2.2.1, M.2.2.2.2.2.2.1, M.2.2.2.2.2.2.2.1, M.2.2.2.2.2.2.2.2.1, y2, M.2.2.2.2.2.2.2.2.2.2.1, M.2.2.2.2.2.2.2.2.2.2.2.1, M.2.2.2.2.2.2.2.2.2.2.2.2) _ _ ls hf hP hD hS (lv_sub hl [1, 0] rfl)
  · intro M5 H locs ls hf hP hD hS hl
    refine lv_aload_n hx hb dX5_readText_27 rfl (lv_at hl 0 rfl) ?_
    refine lv_iconst (v := 0) hx hb dX5_readText_28 (by decide) ?_
    refine va_put (D := D) (ci := 5) (v := .int (0 : Int32)) (ty := .int) (C := RX5) (T := TX5) (N := 24) hx hb hts inX5 tyX5 tyX5_ok nmX5 hown hKK.1 hP hD hS 0 rfl rfl 19 (by decide) (hts _ q692) (fun _ h => h) rfl (by decide +kernel) rfl rfl (Nat.le_of_ble_eq_true rfl) dX5_readText_29 (fun H locs hP hD hS => ?_)
    have hP : va_P D vwCl (wM cy ad ((M5.1.1, M5.1.2.1, M5.1.2.2.1, M5.1.2.2.2.1, M5.1.2.2.2.2.1, M5.1.2.2.2.2.2.1, M5.1.2.2.2.2.2.2.1, M5.1.2.2.2.2.2.2.2.1, M5.1.2.2.2.2.2.2.2.2.1, (0 : Int32), M5.1.2.2.2.2.2.2.2.2.2.2.1, M5.1.2.2.2.2.2.2.2.2.2.2.2), M5.2.1, M5.2.2.1, M5.2.2.2.1, M5.2.2.2.2.1, M5.2.2.2.2.2.1, M5.2.2.2.2.2.2.1, M5.2.2.2.2.2.2.2.1, M5.2.2.2.2.2.2.2.2.1, M5.2.2.2.2.2.2.2.2.2.1, M5.2.2.2.2.2.2.2.2.2.2.1, M5.2.2.2.2.2.2.2.2.2.2.2.1, M5.2.2.2.2.2.2.2.2.2.2.2.2)) H := hP
    have hD : va_D (adr (wM cy ad M)) (wM cy ad ((M5.1.1, M5.1.2.1, M5.1.2.2.1, M5.1.2.2.2.1, M5.1.2.2.2.2.1, M5.1.2.2.2.2.2.1, M5.1.2.2.2.2.2.2.1, M5.1.2.2.2.2.2.2.2.1, M5.1.2.2.2.2.2.2.2.2.1, (0 : Int32), M5.1.2.2.2.2.2.2.2.2.2.2.1, M5.1.2.2.2.2.2.2.2.2.2.2.2), M5.2.1, M5.2.2.1, M5.2.2.2.1, M5.2.2.2.2.1, M5.2.2.2.2.2.1, M5.2.2.2.2.2.2.1, M5.2.2.2.2.2.2.2.1, M5.2.2.2.2.2.2.2.2.1, M5.2.2.2.2.2.2.2.2.2.1, M5.2.2.2.2.2.2.2.2.2.2.1, M5.2.2.2.2.2.2.2.2.2.2.2.1, M5.2.2.2.2.2.2.2.2.2.2.2.2)) := hD
    refine lv_aload_n hx hb dX5_readText_32 rfl (lv_at hl 0 rfl) ?_
    refine lv_iconst (v := 0) hx hb dX5_readText_33 (by decide) ?_
    refine va_put (D := D) (ci := 5) (v := .int (0 : Int32)) (ty := .int) (C := RX5) (T := TX5) (N := 24) hx hb hts inX5 tyX5 tyX5_ok nmX5 hown hKK.1 hP hD hS 0 rfl rfl 21 (by decide) (hts _ q694) (fun _ h => h) rfl (by decide +kernel) rfl rfl (Nat.le_of_ble_eq_true rfl) dX5_readText_34 (fun H locs hP hD hS => ?_)
    have hP : va_P D vwCl (wM cy ad ((M5.1.1, M5.1.2.1, M5.1.2.2.1, M5.1.2.2.2.1, M5.1.2.2.2.2.1, M5.1.2.2.2.2.2.1, M5.1.2.2.2.2.2.2.1, M5.1.2.2.2.2.2.2.2.1, M5.1.2.2.2.2.2.2.2.2.1, (0 : Int32), M5.1.2.2.2.2.2.2.2.2.2.2.1, (0 : Int32)), M5.2.1, M5.2.2.1, M5.2.2.2.1, M5.2.2.2.2.1, M5.2.2.2.2.2.1, M5.2.2.2.2.2.2.1, M5.2.2.2.2.2.2.2.1, M5.2.2.2.2.2.2.2.2.1, M5.2.2.2.2.2.2.2.2.2.1, M5.2.2.2.2.2.2.2.2.2.2.1, M5.2.2.2.2.2.2.2.2.2.2.2.1, M5.2.2.2.2.2.2.2.2.2.2.2.2)) H := hP
    have hD : va_D (adr (wM cy ad M)) (wM cy ad ((M5.1.1, M5.1.2.1, M5.1.2.2.1, M5.1.2.2.2.1, M5.1.2.2.2.2.1, M5.1.2.2.2.2.2.1, M5.1.2.2.2.2.2.2.1, M5.1.2.2.2.2.2.2.2.1, M5.1.2.2.2.2.2.2.2.2.1, (0 : Int32), M5.1.2.2.2.2.2.2.2.2.2.2.1, (0 : Int32)), M5.2.1, M5.2.2.1, M5.2.2.2.1, M5.2.2.2.2.1, M5.2.2.2.2.2.1, M5.2.2.2.2.2.2.1, M5.2.2.2.2.2.2.2.1, M5.2.2.2.2.2.2.2.2.1, M5.2.2.2.2.2.2.2.2.2.1, M5.2.2.2.2.2.2.2.2.2.2.1, M5.2.2.2.2.2.2.2.2.2.2.2.1, M5.2.2.2.2.2.2.2.2.2.2.2.2)) := hD
    refine lv_iconst (v := 0) hx hb dX5_readText_37 (by decide) ?_
    refine lv_istore_n (lv' := [(1, .int (0 : Int32)), (0, .ref (ad 0))]) hx hb dX5_readText_38 rfl hl (by decide) rfl (fun ls hl => ?_)
    refine w_39 _ ?_ _ ?_ _ (0 : Int32) ((M5.1.1, M5.1.2.1, M5.1.2.2.1, M5.1.2.2.2.1, M5.1.2.2.2.2.1, M5.1.2.2.2.2.2.1, M5.1.2.2.2.2.2.2.1, M5.1.2.2.2.2.2.2.2.1, M5.1.2.2.2.2.2.2.2.2.1, (0 : Int32), M5.1.2.2.2.2.2.2.2.2.2.2.1, (0 : Int32)), M5.2.1, M5.2.2.1, M5.2.2.2.1, M5.2.2.2.2.1, M5.2.2.2.2.2.1, M5.2.2.2.2.2.2.1, M5.2.2.2.2.2.2.2.1, M5.2.2.2.2.2.2.2.2.1, M5.2.2.2.2.2.2.2.2.2.1, M5.2.2.2.2.2.2.2.2.2.2.1, M5.2.2.2.2.2.2.2.2.2.2.2.1, M5.2.2.2.2.2.2.2.2.2.2.2.2) _ _ ls hf hP hD hS (lv_sub hl [1, 0] rfl)
    · intro y10 M11 H locs ls hf hP hD hS hl
      refine lv_iload_n hx hb dX5_readText_61 rfl (lv_at hl 0 rfl) ?_
      cases hf
      exact mretI hx hb hr hlk hP hS dX5_readText_62
    · intro M12 H locs ls hf hP hD hS hl
      refine lv_aload_n hx hb dX5_readText_69 rfl (lv_at hl 0 rfl) ?_
      refine va_get (D := D) (ci := 5) (v := .int M12.1.1) (C := RX5) (T := TX5) (N := 24) hx hb hts inX5 hown hKK.1 hP 0 rfl rfl 1 (by decide) (hts _ q674) (fun _ h => h) rfl dX5_readText_70 ?_
      refine lv_iconst (v := 3) hx hb dX5_readText_73 (by decide) ?_
      refine lv_icmp_lt (tgt := 100) hx hb dX5_readText_74 (by decide) (fun h => ?_) (fun h => ?_)
      · have hf := (if_pos h).symm.trans hf
        refine lv_aload_n hx hb dX5_readText_100 rfl (lv_at hl 0 rfl) ?_
        refine va_get (D := D) (ci := 5) (v := .int M12.1.1) (C := RX5) (T := TX5) (N := 24) hx hb hts inX5 hown hKK.1 hP 0 rfl rfl 1 (by decide) (hts _ q674) (fun _ h => h) rfl dX5_readText_101 ?_
        refine lv_goto (tgt := 109) hx hb dX5_readText_104 (by decide) ?_
        cases hf
        exact mretI hx hb hr hlk hP hS dX5_readText_109
      · have hf := (if_neg h).symm.trans hf
        refine lv_aload_n hx hb dX5_readText_77 rfl (lv_at hl 0 rfl) ?_
        refine va_get (D := D) (ci := 5) (v := .int M12.1.2.2.2.2.2.2.2.2.2.1) (C := RX5) (T := TX5) (N := 24) hx hb hts inX5 hown hKK.1 hP 0 rfl rfl 19 (by decide) (hts _ q692) (fun _ h => h) rfl dX5_readText_78 ?_
        refine lv_aload_n hx hb dX5_readText_81 rfl (lv_at hl 0 rfl) ?_
        refine va_get (D := D) (ci := 5) (v := .int M12.1.2.2.2.2.2.2.2.1) (C := RX5) (T := TX5) (N := 24) hx hb hts inX5 hown hKK.1 hP 0 rfl rfl 17 (by decide) (hts _ q690) (fun _ h => h) rfl dX5_readText_82 ?_
        refine lv_aload_n hx hb dX5_readText_85 rfl (lv_at hl 0 rfl) ?_
        refine va_get (D := D) (ci := 5) (v := .int M12.1.2.2.2.2.2.2.2.2.1) (C := RX5) (T := TX5) (N := 24) hx hb hts inX5 hown hKK.1 hP 0 rfl rfl 18 (by decide) (hts _ q691) (fun _ h => h) rfl dX5_readText_86 ?_
        refine lv_imul hx hb dX5_readText_89 ?_
        refine lv_icmp_lt (tgt := 100) hx hb dX5_readText_90 (by decide) (fun h => ?_) (fun h => ?_)
        · have hf := (if_pos h).symm.trans hf
          refine lv_aload_n hx hb dX5_readText_100 rfl (lv_at hl 0 rfl) ?_
          refine va_get (D := D) (ci := 5) (v := .int M12.1.1) (C := RX5) (T := TX5) (N := 24) hx hb hts inX5 hown hKK.1 hP 0 rfl rfl 1 (by decide) (hts _ q674) (fun _ h => h) rfl dX5_readText_101 ?_
          refine lv_goto (tgt := 109) hx hb dX5_readText_104 (by decide) ?_
          cases hf
          exact mretI hx hb hr hlk hP hS dX5_readText_109
        · have hf := (if_neg h).symm.trans hf
          refine lv_aload_n hx hb dX5_readText_93 rfl (lv_at hl 0 rfl) ?_
          refine va_get (D := D) (ci := 5) (v := .int M12.1.2.2.2.2.2.2.2.2.2.2.2) (C := RX5) (T := TX5) (N := 24) hx hb hts inX5 hown hKK.1 hP 0 rfl rfl 21 (by decide) (hts _ q694) (fun _ h => h) rfl dX5_readText_94 ?_
          refine lv_if_le (tgt := 107) hx hb dX5_readText_97 (by decide) (fun h => ?_) (fun h => ?_)
          · have hf := (if_pos h).symm.trans hf
            refine lv_bipush (v := -9) hx hb dX5_readText_107 (by decide) ?_
            cases hf
            exact mretI hx hb hr hlk hP hS dX5_readText_109
          · have hf := (if_neg h).symm.trans hf
            refine lv_aload_n hx hb dX5_readText_100 rfl (lv_at hl 0 rfl) ?_
            refine va_get (D := D) (ci := 5) (v := .int M12.1.1) (C := RX5) (T := TX5) (N := 24) hx hb hts inX5 hown hKK.1 hP 0 rfl rfl 1 (by decide) (hts _ q674) (fun _ h => h) rfl dX5_readText_101 ?_
            refine lv_goto (tgt := 109) hx hb dX5_readText_104 (by decide) ?_
            cases hf
            exact mretI hx hb hr hlk hP hS dX5_readText_109

abbrev rmX5_write : Room := { frames := 1, cells := 0, slots := 0, locals := 25 }
theorem miX5_write : miV yX5_write cX5_write 2 (some .int) 1 := ⟨q749, q46, q747, q748, by decide +kernel⟩
set_option maxHeartbeats 4000000 in
set_option maxRecDepth 100000 in
theorem mtX5_write (l : Launch) (D : va_G) (cy : Nat → ClassId) (z : zT) (ad : Nat → Nat) (M : tM) (u1 : Int32) (r0 : Int32) (M0 : tM) (hf : fX5_write M u1 = some (r0, M0)) : mmet l yX5_write cX5_write 2 (some .int) rmX5_write D cy z (wM cy ad M) (wM cy ad M0) [.ref (ad 0), .int u1] (some (.int r0)) := by
  refine mmet_of (by decide +kernel) (Nat.le_of_ble_eq_true rfl) (fun p e s m below meth c hx hb hr hml hown hts hlk hP hD hS hA0 hKK ls hl => ?_)
  have hown : s.vm.findClass "HillSightModel" = some m.cls := hown
  have hl : lv_has ls 2 [(0, .ref (ad 0)), (1, .int u1)] := hl
  unfold fX5_write at hf
  refine lv_iload_n hx hb dX5_write_0 rfl (lv_at hl 1 rfl) ?_
  refine lv_i2l hx hb dX5_write_1 rfl ?_
  refine lv_lconst (v := 0) hx hb dX5_write_2 (by decide) ?_
  refine lv_ldc2 hx hb hown (hts _ q750) dX5_write_3 ?_
  obtain ⟨r2, hc1, hf⟩ := bd_some hf
  have hP1 := hP.sub (ws' := []) [] rfl
  refine pCallSI ⟨hx, hb, hml, hown, hts⟩ (mtX5_in l D cy z u1.toInt64 (0 : Int64) (255 : Int64) r2 hc1) miX5_in q751 ⟨Nat.le_of_ble_eq_true rfl, Nat.le_of_ble_eq_true rfl⟩ ⟨rfl, rfl⟩ hP1 hKK hS hA0 rfl hl.1 rfl (Nat.le_of_ble_eq_true rfl) dX5_write_6 ⟨Nat.zero_le _, Nat.zero_le _⟩ ?_
  refine lv_if_ne (tgt := 15) hx hb dX5_write_9 (by decide) (fun h => ?_) (fun h => ?_)
  · have hf := (if_neg h).symm.trans hf
    refine lv_aload_n hx hb dX5_write_15 rfl (lv_at hl 0 rfl) ?_
    refine va_get (D := D) (ci := 5) (v := .int M.1.1) (C := RX5) (T := TX5) (N := 24) hx hb hts inX5 hown hKK.1 hP 0 rfl rfl 1 (by decide) (hts _ q674) (fun _ h => h) rfl dX5_write_16 ?_
    refine lv_bipush (v := 90) hx hb dX5_write_19 (by decide) ?_
    refine lv_icmp_ne (tgt := 27) hx hb dX5_write_21 (by decide) (fun h => ?_) (fun h => ?_)
    · have hf := (if_neg h).symm.trans hf
      refine lv_aload_n hx hb dX5_write_27 rfl (lv_at hl 0 rfl) ?_
      refine va_get (D := D) (ci := 5) (v := .ref (ad 1)) (C := RX5) (T := TX5) (N := 24) hx hb hts inX5 hown hKK.1 hP 0 rfl rfl 0 (by decide) (hts _ q673) (fun _ h => h) rfl dX5_write_28 ?_
      refine lv_aload_n hx hb dX5_write_31 rfl (lv_at hl 0 rfl) ?_
      refine va_get (D := D) (ci := 5) (v := .int M.1.1) (C := RX5) (T := TX5) (N := 24) hx hb hts inX5 hown hKK.1 hP 0 rfl rfl 1 (by decide) (hts _ q674) (fun _ h => h) rfl dX5_write_32 ?_
      refine lv_iload_n hx hb dX5_write_35 rfl (lv_at hl 1 rfl) ?_
      obtain ⟨hg3, hf⟩ := gd_some hf
      refine va_iast hx hb hKK.1 hP hD hS 1 0 rfl rfl (inb_in hg3) dX5_write_36 (fun H locs hP hD hS => ?_)
      have hP : va_P D vwCl (wM cy ad (M.1, (upd M.2.1 M.1.1.toNatClampNeg u1), M.2.2.1, M.2.2.2.1, M.2.2.2.2.1, M.2.2.2.2.2.1, M.2.2.2.2.2.2.1, M.2.2.2.2.2.2.2.1, M.2.2.2.2.2.2.2.2.1, M.2.2.2.2.2.2.2.2.2.1, M.2.2.2.2.2.2.2.2.2.2.1, M.2.2.2.2.2.2.2.2.2.2.2.1, M.2.2.2.2.2.2.2.2.2.2.2.2)) H := hP
      have hD : va_D (adr (wM cy ad M)) (wM cy ad (M.1, (upd M.2.1 M.1.1.toNatClampNeg u1), M.2.2.1, M.2.2.2.1, M.2.2.2.2.1, M.2.2.2.2.2.1, M.2.2.2.2.2.2.1, M.2.2.2.2.2.2.2.1, M.2.2.2.2.2.2.2.2.1, M.2.2.2.2.2.2.2.2.2.1, M.2.2.2.2.2.2.2.2.2.2.1, M.2.2.2.2.2.2.2.2.2.2.2.1, M.2.2.2.2.2.2.2.2.2.2.2.2)) := hD
      refine lv_aload_n hx hb dX5_write_37 rfl (lv_at hl 0 rfl) ?_
      refine lv_dup hx hb dX5_write_38 rfl ?_
      refine va_get (D := D) (ci := 5) (v := .int M.1.1) (C := RX5) (T := TX5) (N := 24) hx hb hts inX5 hown hKK.1 hP 0 rfl rfl 1 (by decide) (hts _ q674) (fun _ h => h) rfl dX5_write_39 ?_
      refine lv_iconst (v := 1) hx hb dX5_write_42 (by decide) ?_
      refine lv_iadd hx hb dX5_write_43 ?_
      refine nm_i hf (fun x4 hf => ?_)
      refine va_put (D := D) (ci := 5) (v := .int x4) (ty := .int) (C := RX5) (T := TX5) (N := 24) hx hb hts inX5 tyX5 tyX5_ok nmX5 hown hKK.1 hP hD hS 0 rfl rfl 1 (by decide) (hts _ q674) (fun _ h => h) rfl (by decide +kernel) rfl rfl (Nat.le_of_ble_eq_true rfl) dX5_write_44 (fun H locs hP hD hS => ?_)
      have hP : va_P D vwCl (wM cy ad ((x4, M.1.2.1, M.1.2.2.1, M.1.2.2.2.1, M.1.2.2.2.2.1, M.1.2.2.2.2.2.1, M.1.2.2.2.2.2.2.1, M.1.2.2.2.2.2.2.2.1, M.1.2.2.2.2.2.2.2.2.1, M.1.2.2.2.2.2.2.2.2.2.1, M.1.2.2.2.2.2.2.2.2.2.2.1, M.1.2.2.2.2.2.2.2.2.2.2.2), (upd M.2.1 M.1.1.toNatClampNeg u1), M.2.2.1, M.2.2.2.1, M.2.2.2.2.1, M.2.2.2.2.2.1, M.2.2.2.2.2.2.1, M.2.2.2.2.2.2.2.1, M.2.2.2.2.2.2.2.2.1, M.2.2.2.2.2.2.2.2.2.1, M.2.2.2.2.2.2.2.2.2.2.1, M.2.2.2.2.2.2.2.2.2.2.2.1, M.2.2.2.2.2.2.2.2.2.2.2.2)) H := hP
      have hD : va_D (adr (wM cy ad M)) (wM cy ad ((x4, M.1.2.1, M.1.2.2.1, M.1.2.2.2.1, M.1.2.2.2.2.1, M.1.2.2.2.2.2.1, M.1.2.2.2.2.2.2.1, M.1.2.2.2.2.2.2.2.1, M.1.2.2.2.2.2.2.2.2.1, M.1.2.2.2.2.2.2.2.2.2.1, M.1.2.2.2.2.2.2.2.2.2.2.1, M.1.2.2.2.2.2.2.2.2.2.2.2), (upd M.2.1 M.1.1.toNatClampNeg u1), M.2.2.1, M.2.2.2.1, M.2.2.2.2.1, M.2.2.2.2.2.1, M.2.2.2.2.2.2.1, M.2.2.2.2.2.2.2.1, M.2.2.2.2.2.2.2.2.1, M.2.2.2.2.2.2.2.2.2.1, M.2.2.2.2.2.2.2.2.2.2.1, M.2.2.2.2.2.2.2.2.2.2.2.1, M.2.2.2.2.2.2.2.2.2.2.2.2)) := hD
      refine lv_aload_n hx hb dX5_write_47 rfl (lv_at hl 0 rfl) ?_
      refine va_get (D := D) (ci := 5) (v := .int x4) (C := RX5) (T := TX5) (N := 24) hx hb hts inX5 hown hKK.1 hP 0 rfl rfl 1 (by decide) (hts _ q674) (fun _ h => h) rfl dX5_write_48 ?_
      cases hf
      exact mretI hx hb hr hlk hP hS dX5_write_51
    · have hf := (if_pos h).symm.trans hf
      refine lv_bipush (v := -4) hx hb dX5_write_24 (by decide) ?_
      cases hf
      exact mretI hx hb hr hlk hP hS dX5_write_26
  · have hf := (if_pos h).symm.trans hf
    refine lv_bipush (v := -2) hx hb dX5_write_12 (by decide) ?_
    cases hf
    exact mretI hx hb hr hlk hP hS dX5_write_14

abbrev rmX5_wipe : Room := { frames := 0, cells := 0, slots := 0, locals := 0 }
theorem miX5_wipe : miV yX5_wipe cX5_wipe 2 (some .int) 0 := ⟨q757, q46, q755, q756, by decide +kernel⟩
set_option maxHeartbeats 4000000 in
set_option maxRecDepth 100000 in
theorem mtX5_wipe (l : Launch) (D : va_G) (cy : Nat → ClassId) (z : zT) (ad : Nat → Nat) (M : tM) (r0 : Int32) (M0 : tM) (hf : fX5_wipe M = some (r0, M0)) : mmet l yX5_wipe cX5_wipe 2 (some .int) rmX5_wipe D cy z (wM cy ad M) (wM cy ad M0) [.ref (ad 0)] (some (.int r0)) := by
  refine mmet_of (by decide +kernel) (Nat.le_of_ble_eq_true rfl) (fun p e s m below meth c hx hb hr hml hown hts hlk hP hD hS hA0 hKK ls hl => ?_)
  have hown : s.vm.findClass "HillSightModel" = some m.cls := hown
  have hl : lv_has ls 2 [(0, .ref (ad 0))] := hl
  unfold fX5_wipe at hf
  refine lv_aload_n hx hb dX5_wipe_0 rfl (lv_at hl 0 rfl) ?_
  refine va_get (D := D) (ci := 5) (v := .int M.1.1) (C := RX5) (T := TX5) (N := 24) hx hb hts inX5 hown hKK.1 hP 0 rfl rfl 1 (by decide) (hts _ q674) (fun _ h => h) rfl dX5_wipe_1 ?_
  refine lv_istore_n (lv' := [(1, .int M.1.1), (0, .ref (ad 0))]) hx hb dX5_wipe_4 rfl hl (by decide) rfl (fun ls hl => ?_)
  refine lv_aload_n hx hb dX5_wipe_5 rfl (lv_at hl 1 rfl) ?_
  refine lv_iconst (v := 0) hx hb dX5_wipe_6 (by decide) ?_
  refine va_put (D := D) (ci := 5) (v := .int (0 : Int32)) (ty := .int) (C := RX5) (T := TX5) (N := 24) hx hb hts inX5 tyX5 tyX5_ok nmX5 hown hKK.1 hP hD hS 0 rfl rfl 1 (by decide) (hts _ q674) (fun _ h => h) rfl (by decide +kernel) rfl rfl (Nat.le_of_ble_eq_true rfl) dX5_wipe_7 (fun H locs hP hD hS => ?_)
  have hP : va_P D vwCl (wM cy ad (((0 : Int32), M.1.2.1, M.1.2.2.1, M.1.2.2.2.1, M.1.2.2.2.2.1, M.1.2.2.2.2.2.1, M.1.2.2.2.2.2.2.1, M.1.2.2.2.2.2.2.2.1, M.1.2.2.2.2.2.2.2.2.1, M.1.2.2.2.2.2.2.2.2.2.1, M.1.2.2.2.2.2.2.2.2.2.2.1, M.1.2.2.2.2.2.2.2.2.2.2.2), M.2.1, M.2.2.1, M.2.2.2.1, M.2.2.2.2.1, M.2.2.2.2.2.1, M.2.2.2.2.2.2.1, M.2.2.2.2.2.2.2.1, M.2.2.2.2.2.2.2.2.1, M.2.2.2.2.2.2.2.2.2.1, M.2.2.2.2.2.2.2.2.2.2.1, M.2.2.2.2.2.2.2.2.2.2.2.1, M.2.2.2.2.2.2.2.2.2.2.2.2)) H := hP
  have hD : va_D (adr (wM cy ad M)) (wM cy ad (((0 : Int32), M.1.2.1, M.1.2.2.1, M.1.2.2.2.1, M.1.2.2.2.2.1, M.1.2.2.2.2.2.1, M.1.2.2.2.2.2.2.1, M.1.2.2.2.2.2.2.2.1, M.1.2.2.2.2.2.2.2.2.1, M.1.2.2.2.2.2.2.2.2.2.1, M.1.2.2.2.2.2.2.2.2.2.2.1, M.1.2.2.2.2.2.2.2.2.2.2.2), M.2.1, M.2.2.1, M.2.2.2.1, M.2.2.2.2.1, M.2.2.2.2.2.1, M.2.2.2.2.2.2.1, M.2.2.2.2.2.2.2.1, M.2.2.2.2.2.2.2.2.1, M.2.2.2.2.2.2.2.2.2.1, M.2.2.2.2.2.2.2.2.2.2.1, M.2.2.2.2.2.2.2.2.2.2.2.1, M.2.2.2.2.2.2.2.2.2.2.2.2)) := hD
  refine lv_iload_n hx hb dX5_wipe_10 rfl (lv_at hl 0 rfl) ?_
  cases hf
  exact mretI hx hb hr hlk hP hS dX5_wipe_11

abbrev rmX5_fault : Room := { frames := 4, cells := 0, slots := 0, locals := 93 }
theorem miX5_fault : miV yX5_fault cX5_fault 1 (some .int) 0 := ⟨q761, q46, q759, q760, by decide +kernel⟩
set_option maxHeartbeats 4000000 in
set_option maxRecDepth 100000 in
theorem mtX5_fault (l : Launch) (D : va_G) (cy : Nat → ClassId) (z : zT) (ad : Nat → Nat) (M : tM) (r0 : Int32) (M0 : tM) (hf : fX5_fault M = some (r0, M0)) : mmet l yX5_fault cX5_fault 1 (some .int) rmX5_fault D cy z (wM cy ad M) (wM cy ad M0) [.ref (ad 0)] (some (.int r0)) := by
  refine mmet_of (by decide +kernel) (Nat.le_of_ble_eq_true rfl) (fun p e s m below meth c hx hb hr hml hown hts hlk hP hD hS hA0 hKK ls hl => ?_)
  have hown : s.vm.findClass "HillSightModel" = some m.cls := hown
  have hl : lv_has ls 1 [(0, .ref (ad 0))] := hl
  unfold fX5_fault at hf
  refine lv_aload_n hx hb dX5_fault_0 rfl (lv_at hl 0 rfl) ?_
  obtain ⟨y2, hc1, hf⟩ := bd_some hf
  refine mCallWVI ⟨hx, hb, hml, hown, hts⟩ (mtX5_readText l D cy z ad M y2.1 y2.2 hc1) miX5_readText q762 ⟨Nat.le_of_ble_eq_true rfl, Nat.le_of_ble_eq_true rfl⟩ ⟨rfl, rfl⟩ hP hD hKK hA0 (va_recv hKK.1 hP (ci := 5) (q0 := 0) rfl rfl) rfl hl.1 rfl (Nat.le_of_ble_eq_true rfl) dX5_fault_1 ⟨Nat.zero_le _, Nat.zero_le _⟩ hS rfl (fun H locs hP hD hS => ?_)
  have hP : va_P D vwCl (wM cy ad y2.2) H := hP
  have hD : va_D (adr (wM cy ad M)) (wM cy ad y2.2) := hD
  cases hf
  exact mretI hx hb hr hlk hP hS dX5_fault_4

abbrev rmX5_map : Room := { frames := 4, cells := 0, slots := 0, locals := 93 }
theorem miX5_map : miV yX5_map cX5_map 1 (some .int) 0 := ⟨q788, q46, q786, q787, by decide +kernel⟩
set_option maxHeartbeats 4000000 in
set_option maxRecDepth 100000 in
theorem mtX5_map (l : Launch) (D : va_G) (cy : Nat → ClassId) (z : zT) (ad : Nat → Nat) (M : tM) (r0 : Int32) (M0 : tM) (hf : fX5_map M = some (r0, M0)) : mmet l yX5_map cX5_map 1 (some .int) rmX5_map D cy z (wM cy ad M) (wM cy ad M0) [.ref (ad 0)] (some (.int r0)) := by
  refine mmet_of (by decide +kernel) (Nat.le_of_ble_eq_true rfl) (fun p e s m below meth c hx hb hr hml hown hts hlk hP hD hS hA0 hKK ls hl => ?_)
  have hown : s.vm.findClass "HillSightModel" = some m.cls := hown
  have hl : lv_has ls 1 [(0, .ref (ad 0))] := hl
  unfold fX5_map at hf
  refine lv_aload_n hx hb dX5_map_0 rfl (lv_at hl 0 rfl) ?_
  obtain ⟨y2, hc1, hf⟩ := bd_some hf
  refine mCallWVI ⟨hx, hb, hml, hown, hts⟩ (mtX5_readText l D cy z ad M y2.1 y2.2 hc1) miX5_readText q762 ⟨Nat.le_of_ble_eq_true rfl, Nat.le_of_ble_eq_true rfl⟩ ⟨rfl, rfl⟩ hP hD hKK hA0 (va_recv hKK.1 hP (ci := 5) (q0 := 0) rfl rfl) rfl hl.1 rfl (Nat.le_of_ble_eq_true rfl) dX5_map_1 ⟨Nat.zero_le _, Nat.zero_le _⟩ hS rfl (fun H locs hP hD hS => ?_)
  have hP : va_P D vwCl (wM cy ad y2.2) H := hP
  have hD : va_D (adr (wM cy ad M)) (wM cy ad y2.2) := hD
  refine lv_bipush (v := -9) hx hb dX5_map_4 (by decide) ?_
  refine lv_icmp_eq (tgt := 12) hx hb dX5_map_6 (by decide) (fun h => ?_) (fun h => ?_)
  · have hf := (if_pos h).symm.trans hf
    refine lv_aload_n hx hb dX5_map_12 rfl (lv_at hl 0 rfl) ?_
    refine lv_aload_n hx hb dX5_map_13 rfl (lv_at hl 0 rfl) ?_
    refine va_get (D := D) (ci := 5) (v := .int y2.2.1.2.2.2.2.2.2.2.1) (C := RX5) (T := TX5) (N := 24) hx hb hts inX5 hown hKK.1 hP 0 rfl rfl 17 (by decide) (hts _ q690) (fun _ h => h) rfl dX5_map_14 ?_
    refine va_put (D := D) (ci := 5) (v := .int y2.2.1.2.2.2.2.2.2.2.1) (ty := .int) (C := RX5) (T := TX5) (N := 24) hx hb hts inX5 tyX5 tyX5_ok nmX5 hown hKK.1 hP hD hS 0 rfl rfl 2 (by decide) (hts _ q675) (fun _ h => h) rfl (by decide +kernel) rfl rfl (Nat.le_of_ble_eq_true rfl) dX5_map_17 (fun H locs hP hD hS => ?_)
    have hP : va_P D vwCl (wM cy ad ((y2.2.1.1, y2.2.1.2.2.2.2.2.2.2.1, y2.2.1.2.2.1, y2.2.1.2.2.2.1, y2.2.1.2.2.2.2.1, y2.2.1.2.2.2.2.2.1, y2.2.1.2.2.2.2.2.2.1, y2.2.1.2.2.2.2.2.2.2.1, y2.2.1.2.2.2.2.2.2.2.2.1, y2.2.1.2.2.2.2.2.2.2.2.2.1, y2.2.1.2.2.2.2.2.2.2.2.2.2.1, y2.2.1.2.2.2.2.2.2.2.2.2.2.2), y2.2.2.1, y2.2.2.2.1, y2.2.2.2.2.1, y2.2.2.2.2.2.1, y2.2.2.2.2.2.2.1, y2.2.2.2.2.2.2.2.1, y2.2.2.2.2.2.2.2.2.1, y2.2.2.2.2.2.2.2.2.2.1, y2.2.2.2.2.2.2.2.2.2.2.1, y2.2.2.2.2.2.2.2.2.2.2.2.1, y2.2.2.2.2.2.2.2.2.2.2.2.2.1, y2.2.2.2.2.2.2.2.2.2.2.2.2.2)) H := hP
    have hD : va_D (adr (wM cy ad M)) (wM cy ad ((y2.2.1.1, y2.2.1.2.2.2.2.2.2.2.1, y2.2.1.2.2.1, y2.2.1.2.2.2.1, y2.2.1.2.2.2.2.1, y2.2.1.2.2.2.2.2.1, y2.2.1.2.2.2.2.2.2.1, y2.2.1.2.2.2.2.2.2.2.1, y2.2.1.2.2.2.2.2.2.2.2.1, y2.2.1.2.2.2.2.2.2.2.2.2.1, y2.2.1.2.2.2.2.2.2.2.2.2.2.1, y2.2.1.2.2.2.2.2.2.2.2.2.2.2), y2.2.2.1, y2.2.2.2.1, y2.2.2.2.2.1, y2.2.2.2.2.2.1, y2.2.2.2.2.2.2.1, y2.2.2.2.2.2.2.2.1, y2.2.2.2.2.2.2.2.2.1, y2.2.2.2.2.2.2.2.2.2.1, y2.2.2.2.2.2.2.2.2.2.2.1, y2.2.2.2.2.2.2.2.2.2.2.2.1, y2.2.2.2.2.2.2.2.2.2.2.2.2.1, y2.2.2.2.2.2.2.2.2.2.2.2.2.2)) := hD
    refine lv_aload_n hx hb dX5_map_20 rfl (lv_at hl 0 rfl) ?_
    refine lv_aload_n hx hb dX5_map_21 rfl (lv_at hl 0 rfl) ?_
    refine va_get (D := D) (ci := 5) (v := .int y2.2.1.2.2.2.2.2.2.2.2.1) (C := RX5) (T := TX5) (N := 24) hx hb hts inX5 hown hKK.1 hP 0 rfl rfl 18 (by decide) (hts _ q691) (fun _ h => h) rfl dX5_map_22 ?_
    refine va_put (D := D) (ci := 5) (v := .int y2.2.1.2.2.2.2.2.2.2.2.1) (ty := .int) (C := RX5) (T := TX5) (N := 24) hx hb hts inX5 tyX5 tyX5_ok nmX5 hown hKK.1 hP hD hS 0 rfl rfl 3 (by decide) (hts _ q676) (fun _ h => h) rfl (by decide +kernel) rfl rfl (Nat.le_of_ble_eq_true rfl) dX5_map_25 (fun H locs hP hD hS => ?_)
    have hP : va_P D vwCl (wM cy ad ((y2.2.1.1, y2.2.1.2.2.2.2.2.2.2.1, y2.2.1.2.2.2.2.2.2.2.2.1, y2.2.1.2.2.2.1, y2.2.1.2.2.2.2.1, y2.2.1.2.2.2.2.2.1, y2.2.1.2.2.2.2.2.2.1, y2.2.1.2.2.2.2.2.2.2.1, y2.2.1.2.2.2.2.2.2.2.2.1, y2.2.1.2.2.2.2.2.2.2.2.2.1, y2.2.1.2.2.2.2.2.2.2.2.2.2.1, y2.2.1.2.2.2.2.2.2.2.2.2.2.2), y2.2.2.1, y2.2.2.2.1, y2.2.2.2.2.1, y2.2.2.2.2.2.1, y2.2.2.2.2.2.2.1, y2.2.2.2.2.2.2.2.1, y2.2.2.2.2.2.2.2.2.1, y2.2.2.2.2.2.2.2.2.2.1, y2.2.2.2.2.2.2.2.2.2.2.1, y2.2.2.2.2.2.2.2.2.2.2.2.1, y2.2.2.2.2.2.2.2.2.2.2.2.2.1, y2.2.2.2.2.2.2.2.2.2.2.2.2.2)) H := hP
    have hD : va_D (adr (wM cy ad M)) (wM cy ad ((y2.2.1.1, y2.2.1.2.2.2.2.2.2.2.1, y2.2.1.2.2.2.2.2.2.2.2.1, y2.2.1.2.2.2.1, y2.2.1.2.2.2.2.1, y2.2.1.2.2.2.2.2.1, y2.2.1.2.2.2.2.2.2.1, y2.2.1.2.2.2.2.2.2.2.1, y2.2.1.2.2.2.2.2.2.2.2.1, y2.2.1.2.2.2.2.2.2.2.2.2.1, y2.2.1.2.2.2.2.2.2.2.2.2.2.1, y2.2.1.2.2.2.2.2.2.2.2.2.2.2), y2.2.2.1, y2.2.2.2.1, y2.2.2.2.2.1, y2.2.2.2.2.2.1, y2.2.2.2.2.2.2.1, y2.2.2.2.2.2.2.2.1, y2.2.2.2.2.2.2.2.2.1, y2.2.2.2.2.2.2.2.2.2.1, y2.2.2.2.2.2.2.2.2.2.2.1, y2.2.2.2.2.2.2.2.2.2.2.2.1, y2.2.2.2.2.2.2.2.2.2.2.2.2.1, y2.2.2.2.2.2.2.2.2.2.2.2.2.2)) := hD
    refine lv_aload_n hx hb dX5_map_28 rfl (lv_at hl 0 rfl) ?_
    refine va_get (D := D) (ci := 5) (v := .ref (ad 9)) (C := RX5) (T := TX5) (N := 24) hx hb hts inX5 hown hKK.1 hP 0 rfl rfl 15 (by decide) (hts _ q688) (fun _ h => h) rfl dX5_map_29 ?_
    refine lv_aload_n hx hb dX5_map_32 rfl (lv_at hl 0 rfl) ?_
    refine va_get (D := D) (ci := 5) (v := .ref (ad 2)) (C := RX5) (T := TX5) (N := 24) hx hb hts inX5 hown hKK.1 hP 0 rfl rfl 4 (by decide) (hts _ q677) (fun _ h => h) rfl dX5_map_33 ?_
    obtain ⟨y4, hc3, hf⟩ := bd_some hf
    have hP1 := hP.sub (ws' := [arI cy (ad 9) 51 y2.2.2.2.2.2.2.2.2.2.2.1, arI cy (ad 2) 51 y2.2.2.2.1]) [9, 2] rfl
    have hD1 := hD.sub (ws' := [arI cy (ad 9) 51 y2.2.2.2.2.2.2.2.2.2.2.1, arI cy (ad 2) 51 y2.2.2.2.1]) [9, 2] (by decide) rfl
    refine mCallSV ⟨hx, hb, hml, hown, hts⟩ (mtX5_copy l D cy z (ad 9) (ad 2) y2.2.2.2.2.2.2.2.2.2.2.1 y2.2.2.2.1 y4 hc3) miX5_copy q789 ⟨Nat.le_of_ble_eq_true rfl, Nat.le_of_ble_eq_true rfl⟩ ⟨rfl, rfl⟩ hP1 hD1 hKK hA0 rfl hl.1 rfl (Nat.le_of_ble_eq_true rfl) dX5_map_36 ⟨Nat.zero_le _, Nat.zero_le _⟩ hS hP hD [9, 2] rfl rfl (ws' := wM cy ad ((y2.2.1.1, y2.2.1.2.2.2.2.2.2.2.1, y2.2.1.2.2.2.2.2.2.2.2.1, y2.2.1.2.2.2.1, y2.2.1.2.2.2.2.1, y2.2.1.2.2.2.2.2.1, y2.2.1.2.2.2.2.2.2.1, y2.2.1.2.2.2.2.2.2.2.1, y2.2.1.2.2.2.2.2.2.2.2.1, y2.2.1.2.2.2.2.2.2.2.2.2.1, y2.2.1.2.2.2.2.2.2.2.2.2.2.1, y2.2.1.2.2.2.2.2.2.2.2.2.2.2), y2.2.2.1, y4, y2.2.2.2.2.1, y2.2.2.2.2.2.1, y2.2.2.2.2.2.2.1, y2.2.2.2.2.2.2.2.1, y2.2.2.2.2.2.2.2.2.1, y2.2.2.2.2.2.2.2.2.2.1, y2.2.2.2.2.2.2.2.2.2.2.1, y2.2.2.2.2.2.2.2.2.2.2.2.1, y2.2.2.2.2.2.2.2.2.2.2.2.2.1, y2.2.2.2.2.2.2.2.2.2.2.2.2.2)) rfl (fun H locs hP hD hS => ?_)
    refine lv_aload_n hx hb dX5_map_39 rfl (lv_at hl 0 rfl) ?_
    refine lv_iconst (v := 0) hx hb dX5_map_40 (by decide) ?_
    refine va_put (D := D) (ci := 5) (v := .int (0 : Int32)) (ty := .int) (C := RX5) (T := TX5) (N := 24) hx hb hts inX5 tyX5 tyX5_ok nmX5 hown hKK.1 hP hD hS 0 rfl rfl 7 (by decide) (hts _ q680) (fun _ h => h) rfl (by decide +kernel) rfl rfl (Nat.le_of_ble_eq_true rfl) dX5_map_41 (fun H locs hP hD hS => ?_)
    have hP : va_P D vwCl (wM cy ad ((y2.2.1.1, y2.2.1.2.2.2.2.2.2.2.1, y2.2.1.2.2.2.2.2.2.2.2.1, (0 : Int32), y2.2.1.2.2.2.2.1, y2.2.1.2.2.2.2.2.1, y2.2.1.2.2.2.2.2.2.1, y2.2.1.2.2.2.2.2.2.2.1, y2.2.1.2.2.2.2.2.2.2.2.1, y2.2.1.2.2.2.2.2.2.2.2.2.1, y2.2.1.2.2.2.2.2.2.2.2.2.2.1, y2.2.1.2.2.2.2.2.2.2.2.2.2.2), y2.2.2.1, y4, y2.2.2.2.2.1, y2.2.2.2.2.2.1, y2.2.2.2.2.2.2.1, y2.2.2.2.2.2.2.2.1, y2.2.2.2.2.2.2.2.2.1, y2.2.2.2.2.2.2.2.2.2.1, y2.2.2.2.2.2.2.2.2.2.2.1, y2.2.2.2.2.2.2.2.2.2.2.2.1, y2.2.2.2.2.2.2.2.2.2.2.2.2.1, y2.2.2.2.2.2.2.2.2.2.2.2.2.2)) H := hP
    have hD : va_D (adr (wM cy ad M)) (wM cy ad ((y2.2.1.1, y2.2.1.2.2.2.2.2.2.2.1, y2.2.1.2.2.2.2.2.2.2.2.1, (0 : Int32), y2.2.1.2.2.2.2.1, y2.2.1.2.2.2.2.2.1, y2.2.1.2.2.2.2.2.2.1, y2.2.1.2.2.2.2.2.2.2.1, y2.2.1.2.2.2.2.2.2.2.2.1, y2.2.1.2.2.2.2.2.2.2.2.2.1, y2.2.1.2.2.2.2.2.2.2.2.2.2.1, y2.2.1.2.2.2.2.2.2.2.2.2.2.2), y2.2.2.1, y4, y2.2.2.2.2.1, y2.2.2.2.2.2.1, y2.2.2.2.2.2.2.1, y2.2.2.2.2.2.2.2.1, y2.2.2.2.2.2.2.2.2.1, y2.2.2.2.2.2.2.2.2.2.1, y2.2.2.2.2.2.2.2.2.2.2.1, y2.2.2.2.2.2.2.2.2.2.2.2.1, y2.2.2.2.2.2.2.2.2.2.2.2.2.1, y2.2.2.2.2.2.2.2.2.2.2.2.2.2)) := hD
    refine lv_aload_n hx hb dX5_map_44 rfl (lv_at hl 0 rfl) ?_
    refine va_get (D := D) (ci := 5) (v := .ref (ad 6)) (C := RX5) (T := TX5) (N := 24) hx hb hts inX5 hown hKK.1 hP 0 rfl rfl 10 (by decide) (hts _ q683) (fun _ h => h) rfl dX5_map_45 ?_
    refine lv_iconst (v := 0) hx hb dX5_map_48 (by decide) ?_
    refine lv_iconst (v := 0) hx hb dX5_map_49 (by decide) ?_
    refine va_zast hx hb hKK.1 hP hD hS 6 3 rfl rfl (inb_in (by decide)) dX5_map_50 (fun H locs hP hD hS => ?_)
    have hP : va_P D vwCl (wM cy ad ((y2.2.1.1, y2.2.1.2.2.2.2.2.2.2.1, y2.2.1.2.2.2.2.2.2.2.2.1, (0 : Int32), y2.2.1.2.2.2.2.1, y2.2.1.2.2.2.2.2.1, y2.2.1.2.2.2.2.2.2.1, y2.2.1.2.2.2.2.2.2.2.1, y2.2.1.2.2.2.2.2.2.2.2.1, y2.2.1.2.2.2.2.2.2.2.2.2.1, y2.2.1.2.2.2.2.2.2.2.2.2.2.1, y2.2.1.2.2.2.2.2.2.2.2.2.2.2), y2.2.2.1, y4, y2.2.2.2.2.1, y2.2.2.2.2.2.1, y2.2.2.2.2.2.2.1, (upd y2.2.2.2.2.2.2.2.1 (0 : Int32).toNatClampNeg (vp_nar .boolean (0 : Int32))), y2.2.2.2.2.2.2.2.2.1, y2.2.2.2.2.2.2.2.2.2.1, y2.2.2.2.2.2.2.2.2.2.2.1, y2.2.2.2.2.2.2.2.2.2.2.2.1, y2.2.2.2.2.2.2.2.2.2.2.2.2.1, y2.2.2.2.2.2.2.2.2.2.2.2.2.2)) H := hP
    have hD : va_D (adr (wM cy ad M)) (wM cy ad ((y2.2.1.1, y2.2.1.2.2.2.2.2.2.2.1, y2.2.1.2.2.2.2.2.2.2.2.1, (0 : Int32), y2.2.1.2.2.2.2.1, y2.2.1.2.2.2.2.2.1, y2.2.1.2.2.2.2.2.2.1, y2.2.1.2.2.2.2.2.2.2.1, y2.2.1.2.2.2.2.2.2.2.2.1, y2.2.1.2.2.2.2.2.2.2.2.2.1, y2.2.1.2.2.2.2.2.2.2.2.2.2.1, y2.2.1.2.2.2.2.2.2.2.2.2.2.2), y2.2.2.1, y4, y2.2.2.2.2.1, y2.2.2.2.2.2.1, y2.2.2.2.2.2.2.1, (upd y2.2.2.2.2.2.2.2.1 (0 : Int32).toNatClampNeg (vp_nar .boolean (0 : Int32))), y2.2.2.2.2.2.2.2.2.1, y2.2.2.2.2.2.2.2.2.2.1, y2.2.2.2.2.2.2.2.2.2.2.1, y2.2.2.2.2.2.2.2.2.2.2.2.1, y2.2.2.2.2.2.2.2.2.2.2.2.2.1, y2.2.2.2.2.2.2.2.2.2.2.2.2.2)) := hD
    refine lv_aload_n hx hb dX5_map_51 rfl (lv_at hl 0 rfl) ?_
    refine va_get (D := D) (ci := 5) (v := .ref (ad 6)) (C := RX5) (T := TX5) (N := 24) hx hb hts inX5 hown hKK.1 hP 0 rfl rfl 10 (by decide) (hts _ q683) (fun _ h => h) rfl dX5_map_52 ?_
    refine lv_iconst (v := 1) hx hb dX5_map_55 (by decide) ?_
    refine lv_iconst (v := 0) hx hb dX5_map_56 (by decide) ?_
    refine va_zast hx hb hKK.1 hP hD hS 6 3 rfl rfl (inb_in (by decide)) dX5_map_57 (fun H locs hP hD hS => ?_)
    have hP : va_P D vwCl (wM cy ad ((y2.2.1.1, y2.2.1.2.2.2.2.2.2.2.1, y2.2.1.2.2.2.2.2.2.2.2.1, (0 : Int32), y2.2.1.2.2.2.2.1, y2.2.1.2.2.2.2.2.1, y2.2.1.2.2.2.2.2.2.1, y2.2.1.2.2.2.2.2.2.2.1, y2.2.1.2.2.2.2.2.2.2.2.1, y2.2.1.2.2.2.2.2.2.2.2.2.1, y2.2.1.2.2.2.2.2.2.2.2.2.2.1, y2.2.1.2.2.2.2.2.2.2.2.2.2.2), y2.2.2.1, y4, y2.2.2.2.2.1, y2.2.2.2.2.2.1, y2.2.2.2.2.2.2.1, (upd (upd y2.2.2.2.2.2.2.2.1 (0 : Int32).toNatClampNeg (vp_nar .boolean (0 : Int32))) (1 : Int32).toNatClampNeg (vp_nar .boolean (0 : Int32))), y2.2.2.2.2.2.2.2.2.1, y2.2.2.2.2.2.2.2.2.2.1, y2.2.2.2.2.2.2.2.2.2.2.1, y2.2.2.2.2.2.2.2.2.2.2.2.1, y2.2.2.2.2.2.2.2.2.2.2.2.2.1, y2.2.2.2.2.2.2.2.2.2.2.2.2.2)) H := hP
    have hD : va_D (adr (wM cy ad M)) (wM cy ad ((y2.2.1.1, y2.2.1.2.2.2.2.2.2.2.1, y2.2.1.2.2.2.2.2.2.2.2.1, (0 : Int32), y2.2.1.2.2.2.2.1, y2.2.1.2.2.2.2.2.1, y2.2.1.2.2.2.2.2.2.1, y2.2.1.2.2.2.2.2.2.2.1, y2.2.1.2.2.2.2.2.2.2.2.1, y2.2.1.2.2.2.2.2.2.2.2.2.1, y2.2.1.2.2.2.2.2.2.2.2.2.2.1, y2.2.1.2.2.2.2.2.2.2.2.2.2.2), y2.2.2.1, y4, y2.2.2.2.2.1, y2.2.2.2.2.2.1, y2.2.2.2.2.2.2.1, (upd (upd y2.2.2.2.2.2.2.2.1 (0 : Int32).toNatClampNeg (vp_nar .boolean (0 : Int32))) (1 : Int32).toNatClampNeg (vp_nar .boolean (0 : Int32))), y2.2.2.2.2.2.2.2.2.1, y2.2.2.2.2.2.2.2.2.2.1, y2.2.2.2.2.2.2.2.2.2.2.1, y2.2.2.2.2.2.2.2.2.2.2.2.1, y2.2.2.2.2.2.2.2.2.2.2.2.2.1, y2.2.2.2.2.2.2.2.2.2.2.2.2.2)) := hD
    refine lv_aload_n hx hb dX5_map_58 rfl (lv_at hl 0 rfl) ?_
    obtain ⟨r6, hc5, hf⟩ := bd_some hf
    have hP1 := hP.sub (ws' := [moC ad (y2.2.1.1, y2.2.1.2.2.2.2.2.2.2.1, y2.2.1.2.2.2.2.2.2.2.2.1, (0 : Int32), y2.2.1.2.2.2.2.1, y2.2.1.2.2.2.2.2.1, y2.2.1.2.2.2.2.2.2.1, y2.2.1.2.2.2.2.2.2.2.1, y2.2.1.2.2.2.2.2.2.2.2.1, y2.2.1.2.2.2.2.2.2.2.2.2.1, y2.2.1.2.2.2.2.2.2.2.2.2.2.1, y2.2.1.2.2.2.2.2.2.2.2.2.2.2)]) [0] rfl
    refine pCallVI ⟨hx, hb, hml, hown, hts⟩ (mtX5_cells l D cy z ad (y2.2.1.1, y2.2.1.2.2.2.2.2.2.2.1, y2.2.1.2.2.2.2.2.2.2.2.1, (0 : Int32), y2.2.1.2.2.2.2.1, y2.2.1.2.2.2.2.2.1, y2.2.1.2.2.2.2.2.2.1, y2.2.1.2.2.2.2.2.2.2.1, y2.2.1.2.2.2.2.2.2.2.2.1, y2.2.1.2.2.2.2.2.2.2.2.2.1, y2.2.1.2.2.2.2.2.2.2.2.2.2.1, y2.2.1.2.2.2.2.2.2.2.2.2.2.2) r6 hc5) miX5_cells q792 ⟨Nat.le_of_ble_eq_true rfl, Nat.le_of_ble_eq_true rfl⟩ ⟨rfl, rfl⟩ hP1 hKK hS hA0 (va_recv hKK.1 hP1 (ci := 5) (q0 := 0) rfl rfl) rfl hl.1 rfl (Nat.le_of_ble_eq_true rfl) dX5_map_59 ⟨Nat.zero_le _, Nat.zero_le _⟩ ?_
    cases hf
    exact mretI hx hb hr hlk hP hS dX5_map_62
  · have hf := (if_neg h).symm.trans hf
    refine lv_bipush (v := -3) hx hb dX5_map_9 (by decide) ?_
    cases hf
    exact mretI hx hb hr hlk hP hS dX5_map_11

abbrev rmX5_about : Room := { frames := 11, cells := 0, slots := 0, locals := 276 }
theorem miX5_about : miV yX5_about cX5_about 2 (some .int) 1 := ⟨q799, q46, q797, q798, by decide +kernel⟩
set_option maxHeartbeats 4000000 in
set_option maxRecDepth 100000 in
theorem mtX5_about (l : Launch) (D : va_G) (cy : Nat → ClassId) (z : zT) (ad : Nat → Nat) (M : tM) (u1 : Int32) (r0 : Int32) (M0 : tM) (hf : fX5_about M u1 = some (r0, M0)) : mmet l yX5_about cX5_about 2 (some .int) rmX5_about D cy z (wM cy ad M) (wM cy ad M0) [.ref (ad 0), .int u1] (some (.int r0)) := by
  refine mmet_of (by decide +kernel) (Nat.le_of_ble_eq_true rfl) (fun p e s m below meth c hx hb hr hml hown hts hlk hP hD hS hA0 hKK ls hl => ?_)
  have hown : s.vm.findClass "HillSightModel" = some m.cls := hown
  have hl : lv_has ls 2 [(0, .ref (ad 0)), (1, .int u1)] := hl
  unfold fX5_about at hf
  refine lv_iload_n hx hb dX5_about_0 rfl (lv_at hl 1 rfl) ?_
  by_cases h0 : u1 = 0
  · have hf := (if_pos h0).symm.trans hf
    refine sw_hit (tgt := 64) hx hb dX5_about_1 h0 (by decide) (by decide) rfl (by decide) ?_
    refine lv_aload_n hx hb dX5_about_64 rfl (lv_at hl 0 rfl) ?_
    refine va_get (D := D) (ci := 5) (v := .int M.1.2.1) (C := RX5) (T := TX5) (N := 24) hx hb hts inX5 hown hKK.1 hP 0 rfl rfl 2 (by decide) (hts _ q675) (fun _ h => h) rfl dX5_about_65 ?_
    cases hf
    exact mretI hx hb hr hlk hP hS dX5_about_68
  have hf := (if_neg h0).symm.trans hf
  by_cases h1 : u1 = 1
  · have hf := (if_pos h1).symm.trans hf
    refine sw_hit (tgt := 69) hx hb dX5_about_1 h1 (by decide) (by decide) rfl (by decide) ?_
    refine lv_aload_n hx hb dX5_about_69 rfl (lv_at hl 0 rfl) ?_
    refine va_get (D := D) (ci := 5) (v := .int M.1.2.2.1) (C := RX5) (T := TX5) (N := 24) hx hb hts inX5 hown hKK.1 hP 0 rfl rfl 3 (by decide) (hts _ q676) (fun _ h => h) rfl dX5_about_70 ?_
    cases hf
    exact mretI hx hb hr hlk hP hS dX5_about_73
  have hf := (if_neg h1).symm.trans hf
  by_cases h2 : u1 = 2
  · have hf := (if_pos h2).symm.trans hf
    refine sw_hit (tgt := 74) hx hb dX5_about_1 h2 (by decide) (by decide) rfl (by decide) ?_
    refine lv_aload_n hx hb dX5_about_74 rfl (lv_at hl 0 rfl) ?_
    refine va_get (D := D) (ci := 5) (v := .ref (ad 2)) (C := RX5) (T := TX5) (N := 24) hx hb hts inX5 hown hKK.1 hP 0 rfl rfl 4 (by decide) (hts _ q677) (fun _ h => h) rfl dX5_about_75 ?_
    refine lv_bipush (v := 36) hx hb dX5_about_78 (by decide) ?_
    refine va_iald hx hb hKK.1 hP 2 0 rfl rfl (inb_in (by decide)) dX5_about_80 ?_
    cases hf
    exact mretI hx hb hr hlk hP hS dX5_about_81
  have hf := (if_neg h2).symm.trans hf
  by_cases h3 : u1 = 3
  · have hf := (if_pos h3).symm.trans hf
    refine sw_hit (tgt := 82) hx hb dX5_about_1 h3 (by decide) (by decide) rfl (by decide) ?_
    refine lv_aload_n hx hb dX5_about_82 rfl (lv_at hl 0 rfl) ?_
    refine va_get (D := D) (ci := 5) (v := .ref (ad 2)) (C := RX5) (T := TX5) (N := 24) hx hb hts inX5 hown hKK.1 hP 0 rfl rfl 4 (by decide) (hts _ q677) (fun _ h => h) rfl dX5_about_83 ?_
    refine lv_bipush (v := 47) hx hb dX5_about_86 (by decide) ?_
    refine va_iald hx hb hKK.1 hP 2 0 rfl rfl (inb_in (by decide)) dX5_about_88 ?_
    cases hf
    exact mretI hx hb hr hlk hP hS dX5_about_89
  have hf := (if_neg h3).symm.trans hf
  by_cases h4 : u1 = 4
  · have hf := (if_pos h4).symm.trans hf
    refine sw_hit (tgt := 90) hx hb dX5_about_1 h4 (by decide) (by decide) rfl (by decide) ?_
    refine lv_aload_n hx hb dX5_about_90 rfl (lv_at hl 0 rfl) ?_
    refine va_get (D := D) (ci := 5) (v := .ref (ad 2)) (C := RX5) (T := TX5) (N := 24) hx hb hts inX5 hown hKK.1 hP 0 rfl rfl 4 (by decide) (hts _ q677) (fun _ h => h) rfl dX5_about_91 ?_
    refine lv_bipush (v := 48) hx hb dX5_about_94 (by decide) ?_
    refine va_iald hx hb hKK.1 hP 2 0 rfl rfl (inb_in (by decide)) dX5_about_96 ?_
    cases hf
    exact mretI hx hb hr hlk hP hS dX5_about_97
  have hf := (if_neg h4).symm.trans hf
  by_cases h5 : u1 = 5
  · have hf := (if_pos h5).symm.trans hf
    refine sw_hit (tgt := 98) hx hb dX5_about_1 h5 (by decide) (by decide) rfl (by decide) ?_
    refine lv_aload_n hx hb dX5_about_98 rfl (lv_at hl 0 rfl) ?_
    refine va_get (D := D) (ci := 5) (v := .ref (ad 2)) (C := RX5) (T := TX5) (N := 24) hx hb hts inX5 hown hKK.1 hP 0 rfl rfl 4 (by decide) (hts _ q677) (fun _ h => h) rfl dX5_about_99 ?_
    refine lv_bipush (v := 49) hx hb dX5_about_102 (by decide) ?_
    refine va_iald hx hb hKK.1 hP 2 0 rfl rfl (inb_in (by decide)) dX5_about_104 ?_
    cases hf
    exact mretI hx hb hr hlk hP hS dX5_about_105
  have hf := (if_neg h5).symm.trans hf
  by_cases h6 : u1 = 6
  · have hf := (if_pos h6).symm.trans hf
    refine sw_hit (tgt := 106) hx hb dX5_about_1 h6 (by decide) (by decide) rfl (by decide) ?_
    refine lv_aload_n hx hb dX5_about_106 rfl (lv_at hl 0 rfl) ?_
    refine va_get (D := D) (ci := 5) (v := .ref (ad 2)) (C := RX5) (T := TX5) (N := 24) hx hb hts inX5 hown hKK.1 hP 0 rfl rfl 4 (by decide) (hts _ q677) (fun _ h => h) rfl dX5_about_107 ?_
    refine lv_bipush (v := 50) hx hb dX5_about_110 (by decide) ?_
    refine va_iald hx hb hKK.1 hP 2 0 rfl rfl (inb_in (by decide)) dX5_about_112 ?_
    cases hf
    exact mretI hx hb hr hlk hP hS dX5_about_113
  have hf := (if_neg h6).symm.trans hf
  by_cases h7 : u1 = 7
  · have hf := (if_pos h7).symm.trans hf
    refine sw_hit (tgt := 114) hx hb dX5_about_1 h7 (by decide) (by decide) rfl (by decide) ?_
    refine lv_aload_n hx hb dX5_about_114 rfl (lv_at hl 0 rfl) ?_
    refine lv_aload_n hx hb dX5_about_115 rfl (lv_at hl 0 rfl) ?_
    refine va_get (D := D) (ci := 5) (v := .ref (ad 2)) (C := RX5) (T := TX5) (N := 24) hx hb hts inX5 hown hKK.1 hP 0 rfl rfl 4 (by decide) (hts _ q677) (fun _ h => h) rfl dX5_about_116 ?_
    obtain ⟨r2, hc1, hf⟩ := bd_some hf
    have hP1 := hP.sub (ws' := [moC ad M.1, arI cy (ad 2) 51 M.2.2.1]) [0, 2] rfl
    refine pCallVI ⟨hx, hb, hml, hown, hts⟩ (mtX5_hidden l D cy z ad (ad 2) M.1 M.2.2.1 r2 hc1) miX5_hidden q800 ⟨Nat.le_of_ble_eq_true rfl, Nat.le_of_ble_eq_true rfl⟩ ⟨rfl, rfl⟩ hP1 hKK hS hA0 (va_recv hKK.1 hP1 (ci := 5) (q0 := 0) rfl rfl) rfl hl.1 rfl (Nat.le_of_ble_eq_true rfl) dX5_about_119 ⟨Nat.zero_le _, Nat.zero_le _⟩ ?_
    cases hf
    exact mretI hx hb hr hlk hP hS dX5_about_122
  have hf := (if_neg h7).symm.trans hf
  by_cases h8 : u1 = 8
  · have hf := (if_pos h8).symm.trans hf
    refine sw_hit (tgt := 123) hx hb dX5_about_1 h8 (by decide) (by decide) rfl (by decide) ?_
    refine lv_aload_n hx hb dX5_about_123 rfl (lv_at hl 0 rfl) ?_
    refine lv_aload_n hx hb dX5_about_124 rfl (lv_at hl 0 rfl) ?_
    refine va_get (D := D) (ci := 5) (v := .ref (ad 2)) (C := RX5) (T := TX5) (N := 24) hx hb hts inX5 hown hKK.1 hP 0 rfl rfl 4 (by decide) (hts _ q677) (fun _ h => h) rfl dX5_about_125 ?_
    obtain ⟨y4, hc3, hf⟩ := bd_some hf
    have hP1 := hP.sub (ws' := [moC ad M.1, arI cy (ad 2) 51 M.2.2.1, arI cy (ad 12) 36 M.2.2.2.2.2.2.2.2.2.2.2.2]) [0, 2, 12] rfl
    have hD1 := hD.sub (ws' := [moC ad M.1, arI cy (ad 2) 51 M.2.2.1, arI cy (ad 12) 36 M.2.2.2.2.2.2.2.2.2.2.2.2]) [0, 2, 12] (by decide) rfl
    refine mCallVI ⟨hx, hb, hml, hown, hts⟩ (mtX5_layHollows l D cy z ad (ad 2) M.1 M.2.2.1 M.2.2.2.2.2.2.2.2.2.2.2.2 y4.1 y4.2 hc3) miX5_layHollows q853 ⟨Nat.le_of_ble_eq_true rfl, Nat.le_of_ble_eq_true rfl⟩ ⟨rfl, rfl⟩ hP1 hD1 hKK hA0 (va_recv hKK.1 hP1 (ci := 5) (q0 := 0) rfl rfl) rfl hl.1 rfl (Nat.le_of_ble_eq_true rfl) dX5_about_128 ⟨Nat.zero_le _, Nat.zero_le _⟩ hS hP hD [0, 2, 12] rfl rfl (ws' := wM cy ad (M.1, M.2.1, M.2.2.1, M.2.2.2.1, M.2.2.2.2.1, M.2.2.2.2.2.1, M.2.2.2.2.2.2.1, M.2.2.2.2.2.2.2.1, M.2.2.2.2.2.2.2.2.1, M.2.2.2.2.2.2.2.2.2.1, M.2.2.2.2.2.2.2.2.2.2.1, M.2.2.2.2.2.2.2.2.2.2.2.1, y4.2)) rfl (fun H locs hP hD hS => ?_)
    cases hf
    exact mretI hx hb hr hlk hP hS dX5_about_131
  have hf := (if_neg h8).symm.trans hf
  by_cases h9 : u1 = 9
  · have hf := (if_pos h9).symm.trans hf
    refine sw_hit (tgt := 132) hx hb dX5_about_1 h9 (by decide) (by decide) rfl (by decide) ?_
    refine lv_aload_n hx hb dX5_about_132 rfl (lv_at hl 0 rfl) ?_
    refine va_get (D := D) (ci := 5) (v := .int M.1.2.2.2.1) (C := RX5) (T := TX5) (N := 24) hx hb hts inX5 hown hKK.1 hP 0 rfl rfl 7 (by decide) (hts _ q680) (fun _ h => h) rfl dX5_about_133 ?_
    cases hf
    exact mretI hx hb hr hlk hP hS dX5_about_136
  have hf := (if_neg h9).symm.trans hf
  by_cases h10 : u1 = 10
  · have hf := (if_pos h10).symm.trans hf
    refine sw_hit (tgt := 137) hx hb dX5_about_1 h10 (by decide) (by decide) rfl (by decide) ?_
    refine lv_aload_n hx hb dX5_about_137 rfl (lv_at hl 0 rfl) ?_
    refine va_get (D := D) (ci := 5) (v := .int M.1.2.2.2.2.2.1) (C := RX5) (T := TX5) (N := 24) hx hb hts inX5 hown hKK.1 hP 0 rfl rfl 13 (by decide) (hts _ q686) (fun _ h => h) rfl dX5_about_138 ?_
    cases hf
    exact mretI hx hb hr hlk hP hS dX5_about_141
  have hf := (if_neg h10).symm.trans hf
  by_cases h11 : u1 = 11
  · have hf := (if_pos h11).symm.trans hf
    refine sw_hit (tgt := 142) hx hb dX5_about_1 h11 (by decide) (by decide) rfl (by decide) ?_
    refine lv_aload_n hx hb dX5_about_142 rfl (lv_at hl 0 rfl) ?_
    refine va_get (D := D) (ci := 5) (v := .int M.1.1) (C := RX5) (T := TX5) (N := 24) hx hb hts inX5 hown hKK.1 hP 0 rfl rfl 1 (by decide) (hts _ q674) (fun _ h => h) rfl dX5_about_143 ?_
    cases hf
    exact mretI hx hb hr hlk hP hS dX5_about_146
  have hf := (if_neg h11).symm.trans hf
  refine lv_tableOut (tgt := 147) hx hb dX5_about_1 (show (u1).toInt < 0 ∨ 11 < (u1).toInt by have e0 := lv_neT h0 (a := 0) (by decide); have e1 := lv_neT h1 (a := 1) (by decide); have e2 := lv_neT h2 (a := 2) (by decide); have e3 := lv_neT h3 (a := 3) (by decide); have e4 := lv_neT h4 (a := 4) (by decide); have e5 := lv_neT h5 (a := 5) (by decide); have e6 := lv_neT h6 (a := 6) (by decide); have e7 := lv_neT h7 (a := 7) (by decide); have e8 := lv_neT h8 (a := 8) (by decide); have e9 := lv_neT h9 (a := 9) (by decide); have e10 := lv_neT h10 (a := 10) (by decide); have e11 := lv_neT h11 (a := 11) (by decide); omega) (by decide) ?_
  refine lv_bipush (v := -2) hx hb dX5_about_147 (by decide) ?_
  cases hf
  exact mretI hx hb hr hlk hP hS dX5_about_149

abbrev rmX5_cell : Room := { frames := 11, cells := 0, slots := 0, locals := 276 }
theorem miX5_cell : miV yX5_cell cX5_cell 3 (some .int) 2 := ⟨q864, q46, q862, q863, by decide +kernel⟩
set_option maxHeartbeats 4000000 in
set_option maxRecDepth 100000 in
theorem mtX5_cell (l : Launch) (D : va_G) (cy : Nat → ClassId) (z : zT) (ad : Nat → Nat) (M : tM) (u1 : Int32) (u2 : Int32) (r0 : Int32) (M0 : tM) (hf : fX5_cell M u1 u2 = some (r0, M0)) : mmet l yX5_cell cX5_cell 3 (some .int) rmX5_cell D cy z (wM cy ad M) (wM cy ad M0) [.ref (ad 0), .int u1, .int u2] (some (.int r0)) := by
  refine mmet_of (by decide +kernel) (Nat.le_of_ble_eq_true rfl) (fun p e s m below meth c hx hb hr hml hown hts hlk hP hD hS hA0 hKK ls hl => ?_)
  have hown : s.vm.findClass "HillSightModel" = some m.cls := hown
  have hl : lv_has ls 3 [(0, .ref (ad 0)), (1, .int u1), (2, .int u2)] := hl
  unfold fX5_cell at hf
  refine lv_aload_n hx hb dX5_cell_0 rfl (lv_at hl 0 rfl) ?_
  refine lv_iload_n hx hb dX5_cell_1 rfl (lv_at hl 1 rfl) ?_
  obtain ⟨r2, hc1, hf⟩ := bd_some hf
  have hP1 := hP.sub (ws' := [moC ad M.1]) [0] rfl
  refine pCallVI ⟨hx, hb, hml, hown, hts⟩ (mtX5_isCell l D cy z ad M.1 u1 r2 hc1) miX5_isCell q865 ⟨Nat.le_of_ble_eq_true rfl, Nat.le_of_ble_eq_true rfl⟩ ⟨rfl, rfl⟩ hP1 hKK hS hA0 (va_recv hKK.1 hP1 (ci := 5) (q0 := 0) rfl rfl) rfl hl.1 rfl (Nat.le_of_ble_eq_true rfl) dX5_cell_2 ⟨Nat.zero_le _, Nat.zero_le _⟩ ?_
  refine lv_if_ne (tgt := 10) hx hb dX5_cell_5 (by decide) (fun h => ?_) (fun h => ?_)
  · have hf := (if_neg h).symm.trans hf
    refine lv_iload_n hx hb dX5_cell_10 rfl (lv_at hl 2 rfl) ?_
    by_cases h0 : u2 = 0
    · have hf := (if_pos h0).symm.trans hf
      refine sw_hit (tgt := 44) hx hb dX5_cell_11 h0 (by decide) (by decide) rfl (by decide) ?_
      refine lv_aload_n hx hb dX5_cell_44 rfl (lv_at hl 0 rfl) ?_
      refine va_get (D := D) (ci := 5) (v := .ref (ad 2)) (C := RX5) (T := TX5) (N := 24) hx hb hts inX5 hown hKK.1 hP 0 rfl rfl 4 (by decide) (hts _ q677) (fun _ h => h) rfl dX5_cell_45 ?_
      refine lv_iload_n hx hb dX5_cell_48 rfl (lv_at hl 1 rfl) ?_
      obtain ⟨hg3, hf⟩ := gd_some hf
      refine va_iald hx hb hKK.1 hP 2 0 rfl rfl (inb_in hg3) dX5_cell_49 ?_
      cases hf
      exact mretI hx hb hr hlk hP hS dX5_cell_50
    have hf := (if_neg h0).symm.trans hf
    by_cases h1 : u2 = 1
    · have hf := (if_pos h1).symm.trans hf
      refine sw_hit (tgt := 51) hx hb dX5_cell_11 h1 (by decide) (by decide) rfl (by decide) ?_
      refine lv_aload_n hx hb dX5_cell_51 rfl (lv_at hl 0 rfl) ?_
      refine lv_iload_n hx hb dX5_cell_52 rfl (lv_at hl 1 rfl) ?_
      obtain ⟨r5, hc4, hf⟩ := bd_some hf
      have hP1 := hP.sub (ws' := [moC ad M.1, arI cy (ad 2) 51 M.2.2.1]) [0, 2] rfl
      refine pCallVI ⟨hx, hb, hml, hown, hts⟩ (mtX5_towersOn l D cy z ad M.1 M.2.2.1 u1 r5 hc4) miX5_towersOn q869 ⟨Nat.le_of_ble_eq_true rfl, Nat.le_of_ble_eq_true rfl⟩ ⟨rfl, rfl⟩ hP1 hKK hS hA0 (va_recv hKK.1 hP1 (ci := 5) (q0 := 0) rfl rfl) rfl hl.1 rfl (Nat.le_of_ble_eq_true rfl) dX5_cell_53 ⟨Nat.zero_le _, Nat.zero_le _⟩ ?_
      cases hf
      exact mretI hx hb hr hlk hP hS dX5_cell_56
    have hf := (if_neg h1).symm.trans hf
    by_cases h2 : u2 = 2
    · have hf := (if_pos h2).symm.trans hf
      refine sw_hit (tgt := 57) hx hb dX5_cell_11 h2 (by decide) (by decide) rfl (by decide) ?_
      refine lv_aload_n hx hb dX5_cell_57 rfl (lv_at hl 0 rfl) ?_
      refine lv_iload_n hx hb dX5_cell_58 rfl (lv_at hl 1 rfl) ?_
      obtain ⟨r7, hc6, hf⟩ := bd_some hf
      have hP1 := hP.sub (ws' := [moC ad M.1, arI cy (ad 2) 51 M.2.2.1]) [0, 2] rfl
      refine pCallVI ⟨hx, hb, hml, hown, hts⟩ (mtX5_watchersOf l D cy z ad M.1 M.2.2.1 u1 r7 hc6) miX5_watchersOf q873 ⟨Nat.le_of_ble_eq_true rfl, Nat.le_of_ble_eq_true rfl⟩ ⟨rfl, rfl⟩ hP1 hKK hS hA0 (va_recv hKK.1 hP1 (ci := 5) (q0 := 0) rfl rfl) rfl hl.1 rfl (Nat.le_of_ble_eq_true rfl) dX5_cell_59 ⟨Nat.zero_le _, Nat.zero_le _⟩ ?_
      cases hf
      exact mretI hx hb hr hlk hP hS dX5_cell_62
    have hf := (if_neg h2).symm.trans hf
    by_cases h3 : u2 = 3
    · have hf := (if_pos h3).symm.trans hf
      refine sw_hit (tgt := 63) hx hb dX5_cell_11 h3 (by decide) (by decide) rfl (by decide) ?_
      refine lv_aload_n hx hb dX5_cell_63 rfl (lv_at hl 0 rfl) ?_
      refine lv_aload_n hx hb dX5_cell_64 rfl (lv_at hl 0 rfl) ?_
      refine va_get (D := D) (ci := 5) (v := .ref (ad 2)) (C := RX5) (T := TX5) (N := 24) hx hb hts inX5 hown hKK.1 hP 0 rfl rfl 4 (by decide) (hts _ q677) (fun _ h => h) rfl dX5_cell_65 ?_
      refine lv_iload_n hx hb dX5_cell_68 rfl (lv_at hl 1 rfl) ?_
      refine lv_aload_n hx hb dX5_cell_69 rfl (lv_at hl 0 rfl) ?_
      refine va_get (D := D) (ci := 5) (v := .ref (ad 2)) (C := RX5) (T := TX5) (N := 24) hx hb hts inX5 hown hKK.1 hP 0 rfl rfl 4 (by decide) (hts _ q677) (fun _ h => h) rfl dX5_cell_70 ?_
      refine lv_bipush (v := 47) hx hb dX5_cell_73 (by decide) ?_
      refine va_iald hx hb hKK.1 hP 2 0 rfl rfl (inb_in (by decide)) dX5_cell_75 ?_
      obtain ⟨r9, hc8, hf⟩ := bd_some hf
      have hP1 := hP.sub (ws' := [moC ad M.1, arI cy (ad 2) 51 M.2.2.1]) [0, 2] rfl
      refine pCallVL ⟨hx, hb, hml, hown, hts⟩ (mtX5_viewOf l D cy z ad (ad 2) M.1 M.2.2.1 u1 (M.2.2.1 (47 : Int32).toNatClampNeg) r9 hc8) miX5_viewOf q812 ⟨Nat.le_of_ble_eq_true rfl, Nat.le_of_ble_eq_true rfl⟩ ⟨rfl, rfl⟩ hP1 hKK hS hA0 (va_recv hKK.1 hP1 (ci := 5) (q0 := 0) rfl rfl) rfl hl.1 rfl (Nat.le_of_ble_eq_true rfl) dX5_cell_76 ⟨Nat.zero_le _, Nat.zero_le _⟩ ?_
      obtain ⟨r11, hc10, hf⟩ := bd_some hf
      have hP1 := hP.sub (ws' := []) [] rfl
      refine pCallSI ⟨hx, hb, hml, hown, hts⟩ (mtX5_ones l D cy z r9 r11 hc10) miX5_ones q847 ⟨Nat.le_of_ble_eq_true rfl, Nat.le_of_ble_eq_true rfl⟩ ⟨rfl, rfl⟩ hP1 hKK hS hA0 rfl hl.1 rfl (Nat.le_of_ble_eq_true rfl) dX5_cell_79 ⟨Nat.zero_le _, Nat.zero_le _⟩ ?_
      cases hf
      exact mretI hx hb hr hlk hP hS dX5_cell_82
    have hf := (if_neg h3).symm.trans hf
    by_cases h4 : u2 = 4
    · have hf := (if_pos h4).symm.trans hf
      refine sw_hit (tgt := 83) hx hb dX5_cell_11 h4 (by decide) (by decide) rfl (by decide) ?_
      refine lv_aload_n hx hb dX5_cell_83 rfl (lv_at hl 0 rfl) ?_
      refine lv_aload_n hx hb dX5_cell_84 rfl (lv_at hl 0 rfl) ?_
      refine va_get (D := D) (ci := 5) (v := .ref (ad 2)) (C := RX5) (T := TX5) (N := 24) hx hb hts inX5 hown hKK.1 hP 0 rfl rfl 4 (by decide) (hts _ q677) (fun _ h => h) rfl dX5_cell_85 ?_
      obtain ⟨y13, hc12, hf⟩ := bd_some hf
      have hP1 := hP.sub (ws' := [moC ad M.1, arI cy (ad 2) 51 M.2.2.1, arI cy (ad 12) 36 M.2.2.2.2.2.2.2.2.2.2.2.2]) [0, 2, 12] rfl
      have hD1 := hD.sub (ws' := [moC ad M.1, arI cy (ad 2) 51 M.2.2.1, arI cy (ad 12) 36 M.2.2.2.2.2.2.2.2.2.2.2.2]) [0, 2, 12] (by decide) rfl
      refine mCallVI ⟨hx, hb, hml, hown, hts⟩ (mtX5_layHollows l D cy z ad (ad 2) M.1 M.2.2.1 M.2.2.2.2.2.2.2.2.2.2.2.2 y13.1 y13.2 hc12) miX5_layHollows q853 ⟨Nat.le_of_ble_eq_true rfl, Nat.le_of_ble_eq_true rfl⟩ ⟨rfl, rfl⟩ hP1 hD1 hKK hA0 (va_recv hKK.1 hP1 (ci := 5) (q0 := 0) rfl rfl) rfl hl.1 rfl (Nat.le_of_ble_eq_true rfl) dX5_cell_88 ⟨Nat.zero_le _, Nat.zero_le _⟩ hS hP hD [0, 2, 12] rfl rfl (ws' := wM cy ad (M.1, M.2.1, M.2.2.1, M.2.2.2.1, M.2.2.2.2.1, M.2.2.2.2.2.1, M.2.2.2.2.2.2.1, M.2.2.2.2.2.2.2.1, M.2.2.2.2.2.2.2.2.1, M.2.2.2.2.2.2.2.2.2.1, M.2.2.2.2.2.2.2.2.2.2.1, M.2.2.2.2.2.2.2.2.2.2.2.1, y13.2)) rfl (fun H locs hP hD hS => ?_)
      refine lv_pop hx hb dX5_cell_91 rfl ?_
      refine lv_aload_n hx hb dX5_cell_92 rfl (lv_at hl 0 rfl) ?_
      refine va_get (D := D) (ci := 5) (v := .ref (ad 12)) (C := RX5) (T := TX5) (N := 24) hx hb hts inX5 hown hKK.1 hP 0 rfl rfl 23 (by decide) (hts _ q696) (fun _ h => h) rfl dX5_cell_93 ?_
      refine lv_iload_n hx hb dX5_cell_96 rfl (lv_at hl 1 rfl) ?_
      obtain ⟨hg14, hf⟩ := gd_some hf
      refine va_iald hx hb hKK.1 hP 12 0 rfl rfl (inb_in hg14) dX5_cell_97 ?_
      refine lv_bipush (v := -9) hx hb dX5_cell_98 (by decide) ?_
      refine lv_icmp_ne (tgt := 108) hx hb dX5_cell_100 (by decide) (fun h => ?_) (fun h => ?_)
      · have hf := (if_neg h).symm.trans hf
        refine lv_aload_n hx hb dX5_cell_108 rfl (lv_at hl 0 rfl) ?_
        refine lv_aload_n hx hb dX5_cell_109 rfl (lv_at hl 0 rfl) ?_
        refine va_get (D := D) (ci := 5) (v := .ref (ad 12)) (C := RX5) (T := TX5) (N := 24) hx hb hts inX5 hown hKK.1 hP 0 rfl rfl 23 (by decide) (hts _ q696) (fun _ h => h) rfl dX5_cell_110 ?_
        refine lv_iload_n hx hb dX5_cell_113 rfl (lv_at hl 1 rfl) ?_
        obtain ⟨hg15, hf⟩ := gd_some hf
        refine va_iald hx hb hKK.1 hP 12 0 rfl rfl (inb_in hg15) dX5_cell_114 ?_
        obtain ⟨r17, hc16, hf⟩ := bd_some hf
        have hP1 := hP.sub (ws' := [moC ad M.1, arI cy (ad 12) 36 y13.2]) [0, 12] rfl
        refine pCallVI ⟨hx, hb, hml, hown, hts⟩ (mtX5_numberOf l D cy z ad M.1 y13.2 (y13.2 u1.toNatClampNeg) r17 hc16) miX5_numberOf q877 ⟨Nat.le_of_ble_eq_true rfl, Nat.le_of_ble_eq_true rfl⟩ ⟨rfl, rfl⟩ hP1 hKK hS hA0 (va_recv hKK.1 hP1 (ci := 5) (q0 := 0) rfl rfl) rfl hl.1 rfl (Nat.le_of_ble_eq_true rfl) dX5_cell_115 ⟨Nat.zero_le _, Nat.zero_le _⟩ ?_
        cases hf
        exact mretI hx hb hr hlk hP hS dX5_cell_118
      · have hf := (if_pos h).symm.trans hf
        refine lv_bipush (v := -9) hx hb dX5_cell_103 (by decide) ?_
        refine lv_goto (tgt := 118) hx hb dX5_cell_105 (by decide) ?_
        cases hf
        exact mretI hx hb hr hlk hP hS dX5_cell_118
    have hf := (if_neg h4).symm.trans hf
    refine lv_tableOut (tgt := 119) hx hb dX5_cell_11 (show (u2).toInt < 0 ∨ 4 < (u2).toInt by have e0 := lv_neT h0 (a := 0) (by decide); have e1 := lv_neT h1 (a := 1) (by decide); have e2 := lv_neT h2 (a := 2) (by decide); have e3 := lv_neT h3 (a := 3) (by decide); have e4 := lv_neT h4 (a := 4) (by decide); omega) (by decide) ?_
    refine lv_bipush (v := -2) hx hb dX5_cell_119 (by decide) ?_
    cases hf
    exact mretI hx hb hr hlk hP hS dX5_cell_121
  · have hf := (if_pos h).symm.trans hf
    refine lv_iconst (v := -1) hx hb dX5_cell_8 (by decide) ?_
    cases hf
    exact mretI hx hb hr hlk hP hS dX5_cell_9

abbrev rmX5_tower : Room := { frames := 10, cells := 0, slots := 0, locals := 250 }
theorem miX5_tower : miV yX5_tower cX5_tower 3 (some .int) 2 := ⟨q884, q46, q882, q883, by decide +kernel⟩
set_option maxHeartbeats 4000000 in
set_option maxRecDepth 100000 in
theorem mtX5_tower (l : Launch) (D : va_G) (cy : Nat → ClassId) (z : zT) (ad : Nat → Nat) (o : tMo) (w : tA) (u1 : Int32) (u2 : Int32) (r0 : Int32) (hf : fX5_tower o w u1 u2 = some r0) : pmet l yX5_tower cX5_tower 3 (some .int) rmX5_tower D cy z ([moC ad o, arI cy (ad 2) 51 w]) [.ref (ad 0), .int u1, .int u2] (some (.int r0)) := by
  refine pmet_of (by decide +kernel) (Nat.le_of_ble_eq_true rfl) (fun p e s m below meth c hx hb hr hml hown hts hlk hP hKK ls hl => ?_)
  have hS : va_S noF s.heap s.heap [] := va_S.rf
  have hA0 : ∀ q, noF q → zA z q := fun _ h => h.elim
  have hown : s.vm.findClass "HillSightModel" = some m.cls := hown
  have hl : lv_has ls 3 [(0, .ref (ad 0)), (1, .int u1), (2, .int u2)] := hl
  unfold fX5_tower at hf
  refine lv_aload_n hx hb dX5_tower_0 rfl (lv_at hl 0 rfl) ?_
  refine lv_iload_n hx hb dX5_tower_1 rfl (lv_at hl 1 rfl) ?_
  obtain ⟨r2, hc1, hf⟩ := bd_some hf
  refine pCallVI ⟨hx, hb, hml, hown, hts⟩ (mtX5_isTower l D cy z ad o w u1 r2 hc1) miX5_isTower q885 ⟨Nat.le_of_ble_eq_true rfl, Nat.le_of_ble_eq_true rfl⟩ ⟨rfl, rfl⟩ hP hKK hS hA0 (va_recv hKK.1 hP (ci := 5) (q0 := 0) rfl rfl) rfl hl.1 rfl (Nat.le_of_ble_eq_true rfl) dX5_tower_2 ⟨Nat.zero_le _, Nat.zero_le _⟩ ?_
  refine lv_if_ne (tgt := 10) hx hb dX5_tower_5 (by decide) (fun h => ?_) (fun h => ?_)
  · have hf := (if_neg h).symm.trans hf
    refine lv_iload_n hx hb dX5_tower_10 rfl (lv_at hl 2 rfl) ?_
    by_cases h0 : u2 = 0
    · have hf := (if_pos h0).symm.trans hf
      refine sw_hit (tgt := 40) hx hb dX5_tower_11 h0 (by decide) (by decide) rfl (by decide) ?_
      refine lv_aload_n hx hb dX5_tower_40 rfl (lv_at hl 0 rfl) ?_
      refine va_get (D := D) (ci := 5) (v := .ref (ad 2)) (C := RX5) (T := TX5) (N := 24) hx hb hts inX5 hown hKK.1 hP 0 rfl rfl 4 (by decide) (hts _ q677) (fun _ h => h) rfl dX5_tower_41 ?_
      refine lv_bipush (v := 37) hx hb dX5_tower_44 (by decide) ?_
      refine lv_iload_n hx hb dX5_tower_46 rfl (lv_at hl 1 rfl) ?_
      refine lv_iadd hx hb dX5_tower_47 ?_
      obtain ⟨hg3, hf⟩ := gd_some hf
      refine va_iald hx hb hKK.1 hP 1 0 rfl rfl (inb_in hg3) dX5_tower_48 ?_
      exact pretI hx hb hr hlk hf dX5_tower_49
    have hf := (if_neg h0).symm.trans hf
    by_cases h1 : u2 = 1
    · have hf := (if_pos h1).symm.trans hf
      refine sw_hit (tgt := 50) hx hb dX5_tower_11 h1 (by decide) (by decide) rfl (by decide) ?_
      refine lv_aload_n hx hb dX5_tower_50 rfl (lv_at hl 0 rfl) ?_
      refine va_get (D := D) (ci := 5) (v := .ref (ad 2)) (C := RX5) (T := TX5) (N := 24) hx hb hts inX5 hown hKK.1 hP 0 rfl rfl 4 (by decide) (hts _ q677) (fun _ h => h) rfl dX5_tower_51 ?_
      refine lv_bipush (v := 42) hx hb dX5_tower_54 (by decide) ?_
      refine lv_iload_n hx hb dX5_tower_56 rfl (lv_at hl 1 rfl) ?_
      refine lv_iadd hx hb dX5_tower_57 ?_
      obtain ⟨hg4, hf⟩ := gd_some hf
      refine va_iald hx hb hKK.1 hP 1 0 rfl rfl (inb_in hg4) dX5_tower_58 ?_
      exact pretI hx hb hr hlk hf dX5_tower_59
    have hf := (if_neg h1).symm.trans hf
    by_cases h2 : u2 = 2
    · have hf := (if_pos h2).symm.trans hf
      refine sw_hit (tgt := 60) hx hb dX5_tower_11 h2 (by decide) (by decide) rfl (by decide) ?_
      refine lv_aload_n hx hb dX5_tower_60 rfl (lv_at hl 0 rfl) ?_
      refine lv_aload_n hx hb dX5_tower_61 rfl (lv_at hl 0 rfl) ?_
      refine va_get (D := D) (ci := 5) (v := .ref (ad 2)) (C := RX5) (T := TX5) (N := 24) hx hb hts inX5 hown hKK.1 hP 0 rfl rfl 4 (by decide) (hts _ q677) (fun _ h => h) rfl dX5_tower_62 ?_
      refine lv_iload_n hx hb dX5_tower_65 rfl (lv_at hl 1 rfl) ?_
      obtain ⟨r6, hc5, hf⟩ := bd_some hf
      refine pCallVL ⟨hx, hb, hml, hown, hts⟩ (mtX5_watchedBy l D cy z ad (ad 2) o w u1 r6 hc5) miX5_watchedBy q808 ⟨Nat.le_of_ble_eq_true rfl, Nat.le_of_ble_eq_true rfl⟩ ⟨rfl, rfl⟩ hP hKK hS hA0 (va_recv hKK.1 hP (ci := 5) (q0 := 0) rfl rfl) rfl hl.1 rfl (Nat.le_of_ble_eq_true rfl) dX5_tower_66 ⟨Nat.zero_le _, Nat.zero_le _⟩ ?_
      obtain ⟨r8, hc7, hf⟩ := bd_some hf
      have hP1 := hP.sub (ws' := []) [] rfl
      refine pCallSI ⟨hx, hb, hml, hown, hts⟩ (mtX5_ones l D cy z r6 r8 hc7) miX5_ones q847 ⟨Nat.le_of_ble_eq_true rfl, Nat.le_of_ble_eq_true rfl⟩ ⟨rfl, rfl⟩ hP1 hKK hS hA0 rfl hl.1 rfl (Nat.le_of_ble_eq_true rfl) dX5_tower_69 ⟨Nat.zero_le _, Nat.zero_le _⟩ ?_
      exact pretI hx hb hr hlk hf dX5_tower_72
    have hf := (if_neg h2).symm.trans hf
    by_cases h3 : u2 = 3
    · have hf := (if_pos h3).symm.trans hf
      refine sw_hit (tgt := 73) hx hb dX5_tower_11 h3 (by decide) (by decide) rfl (by decide) ?_
      refine lv_aload_n hx hb dX5_tower_73 rfl (lv_at hl 0 rfl) ?_
      refine lv_iload_n hx hb dX5_tower_74 rfl (lv_at hl 1 rfl) ?_
      obtain ⟨r10, hc9, hf⟩ := bd_some hf
      refine pCallVI ⟨hx, hb, hml, hown, hts⟩ (mtX5_ownOf l D cy z ad o w u1 r10 hc9) miX5_ownOf q889 ⟨Nat.le_of_ble_eq_true rfl, Nat.le_of_ble_eq_true rfl⟩ ⟨rfl, rfl⟩ hP hKK hS hA0 (va_recv hKK.1 hP (ci := 5) (q0 := 0) rfl rfl) rfl hl.1 rfl (Nat.le_of_ble_eq_true rfl) dX5_tower_75 ⟨Nat.zero_le _, Nat.zero_le _⟩ ?_
      exact pretI hx hb hr hlk hf dX5_tower_78
    have hf := (if_neg h3).symm.trans hf
    refine lv_tableOut (tgt := 79) hx hb dX5_tower_11 (show (u2).toInt < 0 ∨ 3 < (u2).toInt by have e0 := lv_neT h0 (a := 0) (by decide); have e1 := lv_neT h1 (a := 1) (by decide); have e2 := lv_neT h2 (a := 2) (by decide); have e3 := lv_neT h3 (a := 3) (by decide); omega) (by decide) ?_
    refine lv_bipush (v := -2) hx hb dX5_tower_79 (by decide) ?_
    exact pretI hx hb hr hlk hf dX5_tower_81
  · have hf := (if_pos h).symm.trans hf
    refine lv_iconst (v := -1) hx hb dX5_tower_8 (by decide) ?_
    exact pretI hx hb hr hlk hf dX5_tower_9

abbrev rmX5_note : Room := { frames := 0, cells := 0, slots := 0, locals := 0 }
theorem miX5_note : miV yX5_note cX5_note 2 none 0 := ⟨q902, q46, q901, q33, by decide +kernel⟩
set_option maxHeartbeats 4000000 in
set_option maxRecDepth 100000 in
theorem mtX5_note (l : Launch) (D : va_G) (cy : Nat → ClassId) (z : zT) (ad : Nat → Nat) (M : tM) (M0 : tM) (hf : fX5_note M = some M0) : mmet l yX5_note cX5_note 2 none rmX5_note D cy z (wM cy ad M) (wM cy ad M0) [.ref (ad 0)] none := by
  refine mmet_of (by decide +kernel) (Nat.le_of_ble_eq_true rfl) (fun p e s m below meth c hx hb hr hml hown hts hlk hP hD hS hA0 hKK ls hl => ?_)
  have hown : s.vm.findClass "HillSightModel" = some m.cls := hown
  have hl : lv_has ls 2 [(0, .ref (ad 0))] := hl
  have w_2 : ∀ (k34 : tM → Option (tM)) (hk34 : ∀ (M_2 : tM) (H : Heap) (locs : List Loc) (ls : Array Slot), k34 M_2 = some M0 → va_P D vwCl (wM cy ad M_2) H → va_D (adr (wM cy ad M)) (wM cy ad M_2) → va_S (adr (wM cy ad M)) s.heap H locs → lv_has ls 2 [(0, .ref (ad 0))] → W p l e rmX5_note s m ([.ref (ad 0)] : List Value).toArray below meth c H locs 0 0 (MQ below (mQ D (wM cy ad M) (wM cy ad M0) none) ([.ref (ad 0)] : List Value).toArray s 0 0 (adr (wM cy ad M))) (F0 m 34 ls [])) (n : Nat) (v1_2 : Int32) (M_2 : tM) (H : Heap) (locs : List Loc) (ls : Array Slot), fX5_note_2 k34 n v1_2 M_2 = some M0 → va_P D vwCl (wM cy ad M_2) H → va_D (adr (wM cy ad M)) (wM cy ad M_2) → va_S (adr (wM cy ad M)) s.heap H locs → lv_has ls 2 [(0, .ref (ad 0)), (1, .int v1_2)] → W p l e rmX5_note s m ([.ref (ad 0)] : List Value).toArray below meth c H locs 0 0 (MQ below (mQ D (wM cy ad M) (wM cy ad M0) none) ([.ref (ad 0)] : List Value).toArray s 0 0 (adr (wM cy ad M))) (F0 m 2 ls []) := by
    intro k34 hk34 n
    induction n with
    | zero =>
      intro v1_2 M_2 H locs ls hf hP hD hS hl
      cases (show (none : Option (tM)) = some M0 from hf)
    | succ n ih =>
      intro v1_2 M_2 H locs ls hf hP hD hS hl
      rw [fX5_note_2] at hf
      refine lv_iload_n hx hb dX5_note_2 rfl (lv_at hl 1 rfl) ?_
      refine lv_bipush (v := 51) hx hb dX5_note_3 (by decide) ?_
      refine lv_icmp_ge (tgt := 34) hx hb dX5_note_5 (by decide) (fun h => ?_) (fun h => ?_)
      · have hf := (if_pos h).symm.trans hf
        exact hk34 M_2 _ _ ls hf hP hD hS (lv_sub hl [0] rfl)
      · have hf := (if_neg h).symm.trans hf
        refine lv_aload_n hx hb dX5_note_8 rfl (lv_at hl 0 rfl) ?_
        refine va_get (D := D) (ci := 5) (v := .ref (ad 4)) (C := RX5) (T := TX5) (N := 24) hx hb hts inX5 hown hKK.1 hP 0 rfl rfl 6 (by decide) (hts _ q679) (fun _ h => h) rfl dX5_note_9 ?_
        refine lv_bipush (v := 51) hx hb dX5_note_12 (by decide) ?_
        refine lv_aload_n hx hb dX5_note_14 rfl (lv_at hl 0 rfl) ?_
        refine va_get (D := D) (ci := 5) (v := .int M_2.1.2.2.2.2.1) (C := RX5) (T := TX5) (N := 24) hx hb hts inX5 hown hKK.1 hP 0 rfl rfl 8 (by decide) (hts _ q681) (fun _ h => h) rfl dX5_note_15 ?_
        refine lv_imul hx hb dX5_note_18 ?_
        refine lv_iload_n hx hb dX5_note_19 rfl (lv_at hl 1 rfl) ?_
        refine lv_iadd hx hb dX5_note_20 ?_
        refine lv_aload_n hx hb dX5_note_21 rfl (lv_at hl 0 rfl) ?_
        refine va_get (D := D) (ci := 5) (v := .ref (ad 2)) (C := RX5) (T := TX5) (N := 24) hx hb hts inX5 hown hKK.1 hP 0 rfl rfl 4 (by decide) (hts _ q677) (fun _ h => h) rfl dX5_note_22 ?_
        refine lv_iload_n hx hb dX5_note_25 rfl (lv_at hl 1 rfl) ?_
        obtain ⟨hg1, hf⟩ := gd_some hf
        refine va_iald hx hb hKK.1 hP 2 0 rfl rfl (inb_in hg1) dX5_note_26 ?_
        obtain ⟨hg2, hf⟩ := gd_some hf
        refine va_iast hx hb hKK.1 hP hD hS 4 0 rfl rfl (inb_in hg2) dX5_note_27 (fun H locs hP hD hS => ?_)
        have hP : va_P D vwCl (wM cy ad (M_2.1, M_2.2.1, M_2.2.2.1, M_2.2.2.2.1, (upd M_2.2.2.2.2.1 (((51 : Int32) * M_2.1.2.2.2.2.1) + v1_2).toNatClampNeg (M_2.2.2.1 v1_2.toNatClampNeg)), M_2.2.2.2.2.2.1, M_2.2.2.2.2.2.2.1, M_2.2.2.2.2.2.2.2.1, M_2.2.2.2.2.2.2.2.2.1, M_2.2.2.2.2.2.2.2.2.2.1, M_2.2.2.2.2.2.2.2.2.2.2.1, M_2.2.2.2.2.2.2.2.2.2.2.2.1, M_2.2.2.2.2.2.2.2.2.2.2.2.2)) H := hP
        have hD : va_D (adr (wM cy ad M)) (wM cy ad (M_2.1, M_2.2.1, M_2.2.2.1, M_2.2.2.2.1, (upd M_2.2.2.2.2.1 (((51 : Int32) * M_2.1.2.2.2.2.1) + v1_2).toNatClampNeg (M_2.2.2.1 v1_2.toNatClampNeg)), M_2.2.2.2.2.2.1, M_2.2.2.2.2.2.2.1, M_2.2.2.2.2.2.2.2.1, M_2.2.2.2.2.2.2.2.2.1, M_2.2.2.2.2.2.2.2.2.2.1, M_2.2.2.2.2.2.2.2.2.2.2.1, M_2.2.2.2.2.2.2.2.2.2.2.2.1, M_2.2.2.2.2.2.2.2.2.2.2.2.2)) := hD
        obtain ⟨x3, ex3, hf⟩ := nm_ex hf
        refine lv_iinc (v := x3) (lv' := [(1, .int x3), (0, .ref (ad 0))]) hx hb dX5_note_28 hl (k := 1) rfl (Eq.trans rfl ex3) (by decide) rfl (fun ls hl => ?_)
        refine lv_goto (tgt := 2) hx hb dX5_note_31 (by decide) ?_
        exact ih x3 (M_2.1, M_2.2.1, M_2.2.2.1, M_2.2.2.2.1, (upd M_2.2.2.2.2.1 (((51 : Int32) * M_2.1.2.2.2.2.1) + v1_2).toNatClampNeg (M_2.2.2.1 v1_2.toNatClampNeg)), M_2.2.2.2.2.2.1, M_2.2.2.2.2.2.2.1, M_2.2.2.2.2.2.2.2.1, M_2.2.2.2.2.2.2.2.2.1, M_2.2.2.2.2.2.2.2.2.2.1, M_2.2.2.2.2.2.2.2.2.2.2.1, M_2.2.2.2.2.2.2.2.2.2.2.2.1, M_2.2.2.2.2.2.2.2.2.2.2.2.2) _ _ ls hf hP hD hS (lv_sub hl [1, 0] rfl)
  unfold fX5_note at hf
  refine lv_iconst (v := 0) hx hb dX5_note_0 (by decide) ?_
  refine lv_istore_n (lv' := [(1, .int (0 : Int32)), (0, .ref (ad 0))]) hx hb dX5_note_1 rfl hl (by decide) rfl (fun ls hl => ?_)
  refine w_2 _ ?_ _ (0 : Int32) M _ _ ls hf hP hD hS (lv_sub hl [1, 0] rfl)
  · intro M4 H locs ls hf hP hD hS hl
    refine lv_aload_n hx hb dX5_note_34 rfl (lv_at hl 0 rfl) ?_
    refine lv_aload_n hx hb dX5_note_35 rfl (lv_at hl 0 rfl) ?_
    refine va_get (D := D) (ci := 5) (v := .int M4.1.2.2.2.2.1) (C := RX5) (T := TX5) (N := 24) hx hb hts inX5 hown hKK.1 hP 0 rfl rfl 8 (by decide) (hts _ q681) (fun _ h => h) rfl dX5_note_36 ?_
    refine lv_iconst (v := 1) hx hb dX5_note_39 (by decide) ?_
    refine lv_iadd hx hb dX5_note_40 ?_
    refine lv_bipush (v := 14) hx hb dX5_note_41 (by decide) ?_
    refine lv_irem hx hb dX5_note_43 (by decide) ?_
    refine nm_i hf (fun x5 hf => ?_)
    refine va_put (D := D) (ci := 5) (v := .int x5) (ty := .int) (C := RX5) (T := TX5) (N := 24) hx hb hts inX5 tyX5 tyX5_ok nmX5 hown hKK.1 hP hD hS 0 rfl rfl 8 (by decide) (hts _ q681) (fun _ h => h) rfl (by decide +kernel) rfl rfl (Nat.le_of_ble_eq_true rfl) dX5_note_44 (fun H locs hP hD hS => ?_)
    have hP : va_P D vwCl (wM cy ad ((M4.1.1, M4.1.2.1, M4.1.2.2.1, M4.1.2.2.2.1, x5, M4.1.2.2.2.2.2.1, M4.1.2.2.2.2.2.2.1, M4.1.2.2.2.2.2.2.2.1, M4.1.2.2.2.2.2.2.2.2.1, M4.1.2.2.2.2.2.2.2.2.2.1, M4.1.2.2.2.2.2.2.2.2.2.2.1, M4.1.2.2.2.2.2.2.2.2.2.2.2), M4.2.1, M4.2.2.1, M4.2.2.2.1, M4.2.2.2.2.1, M4.2.2.2.2.2.1, M4.2.2.2.2.2.2.1, M4.2.2.2.2.2.2.2.1, M4.2.2.2.2.2.2.2.2.1, M4.2.2.2.2.2.2.2.2.2.1, M4.2.2.2.2.2.2.2.2.2.2.1, M4.2.2.2.2.2.2.2.2.2.2.2.1, M4.2.2.2.2.2.2.2.2.2.2.2.2)) H := hP
    have hD : va_D (adr (wM cy ad M)) (wM cy ad ((M4.1.1, M4.1.2.1, M4.1.2.2.1, M4.1.2.2.2.1, x5, M4.1.2.2.2.2.2.1, M4.1.2.2.2.2.2.2.1, M4.1.2.2.2.2.2.2.2.1, M4.1.2.2.2.2.2.2.2.2.1, M4.1.2.2.2.2.2.2.2.2.2.1, M4.1.2.2.2.2.2.2.2.2.2.2.1, M4.1.2.2.2.2.2.2.2.2.2.2.2), M4.2.1, M4.2.2.1, M4.2.2.2.1, M4.2.2.2.2.1, M4.2.2.2.2.2.1, M4.2.2.2.2.2.2.1, M4.2.2.2.2.2.2.2.1, M4.2.2.2.2.2.2.2.2.1, M4.2.2.2.2.2.2.2.2.2.1, M4.2.2.2.2.2.2.2.2.2.2.1, M4.2.2.2.2.2.2.2.2.2.2.2.1, M4.2.2.2.2.2.2.2.2.2.2.2.2)) := hD
    refine lv_aload_n hx hb dX5_note_47 rfl (lv_at hl 0 rfl) ?_
    refine lv_aload_n hx hb dX5_note_48 rfl (lv_at hl 0 rfl) ?_
    refine va_get (D := D) (ci := 5) (v := .int M4.1.2.2.2.1) (C := RX5) (T := TX5) (N := 24) hx hb hts inX5 hown hKK.1 hP 0 rfl rfl 7 (by decide) (hts _ q680) (fun _ h => h) rfl dX5_note_49 ?_
    refine lv_bipush (v := 14) hx hb dX5_note_52 (by decide) ?_
    refine lv_icmp_ge (tgt := 66) hx hb dX5_note_54 (by decide) (fun h => ?_) (fun h => ?_)
    · have hf := (if_pos h).symm.trans hf
      refine lv_bipush (v := 14) hx hb dX5_note_66 (by decide) ?_
      refine va_put (D := D) (ci := 5) (v := .int (14 : Int32)) (ty := .int) (C := RX5) (T := TX5) (N := 24) hx hb hts inX5 tyX5 tyX5_ok nmX5 hown hKK.1 hP hD hS 0 rfl rfl 7 (by decide) (hts _ q680) (fun _ h => h) rfl (by decide +kernel) rfl rfl (Nat.le_of_ble_eq_true rfl) dX5_note_68 (fun H locs hP hD hS => ?_)
      have hP : va_P D vwCl (wM cy ad ((M4.1.1, M4.1.2.1, M4.1.2.2.1, (14 : Int32), x5, M4.1.2.2.2.2.2.1, M4.1.2.2.2.2.2.2.1, M4.1.2.2.2.2.2.2.2.1, M4.1.2.2.2.2.2.2.2.2.1, M4.1.2.2.2.2.2.2.2.2.2.1, M4.1.2.2.2.2.2.2.2.2.2.2.1, M4.1.2.2.2.2.2.2.2.2.2.2.2), M4.2.1, M4.2.2.1, M4.2.2.2.1, M4.2.2.2.2.1, M4.2.2.2.2.2.1, M4.2.2.2.2.2.2.1, M4.2.2.2.2.2.2.2.1, M4.2.2.2.2.2.2.2.2.1, M4.2.2.2.2.2.2.2.2.2.1, M4.2.2.2.2.2.2.2.2.2.2.1, M4.2.2.2.2.2.2.2.2.2.2.2.1, M4.2.2.2.2.2.2.2.2.2.2.2.2)) H := hP
      have hD : va_D (adr (wM cy ad M)) (wM cy ad ((M4.1.1, M4.1.2.1, M4.1.2.2.1, (14 : Int32), x5, M4.1.2.2.2.2.2.1, M4.1.2.2.2.2.2.2.1, M4.1.2.2.2.2.2.2.2.1, M4.1.2.2.2.2.2.2.2.2.1, M4.1.2.2.2.2.2.2.2.2.2.1, M4.1.2.2.2.2.2.2.2.2.2.2.1, M4.1.2.2.2.2.2.2.2.2.2.2.2), M4.2.1, M4.2.2.1, M4.2.2.2.1, M4.2.2.2.2.1, M4.2.2.2.2.2.1, M4.2.2.2.2.2.2.1, M4.2.2.2.2.2.2.2.1, M4.2.2.2.2.2.2.2.2.1, M4.2.2.2.2.2.2.2.2.2.1, M4.2.2.2.2.2.2.2.2.2.2.1, M4.2.2.2.2.2.2.2.2.2.2.2.1, M4.2.2.2.2.2.2.2.2.2.2.2.2)) := hD
      cases hf
      exact mretV hx hb hr hlk hP hS dX5_note_71
    · have hf := (if_neg h).symm.trans hf
      refine lv_aload_n hx hb dX5_note_57 rfl (lv_at hl 0 rfl) ?_
      refine va_get (D := D) (ci := 5) (v := .int M4.1.2.2.2.1) (C := RX5) (T := TX5) (N := 24) hx hb hts inX5 hown hKK.1 hP 0 rfl rfl 7 (by decide) (hts _ q680) (fun _ h => h) rfl dX5_note_58 ?_
      refine lv_iconst (v := 1) hx hb dX5_note_61 (by decide) ?_
      refine lv_iadd hx hb dX5_note_62 ?_
      refine lv_goto (tgt := 68) hx hb dX5_note_63 (by decide) ?_
      refine nm_i hf (fun x6 hf => ?_)
      refine va_put (D := D) (ci := 5) (v := .int x6) (ty := .int) (C := RX5) (T := TX5) (N := 24) hx hb hts inX5 tyX5 tyX5_ok nmX5 hown hKK.1 hP hD hS 0 rfl rfl 7 (by decide) (hts _ q680) (fun _ h => h) rfl (by decide +kernel) rfl rfl (Nat.le_of_ble_eq_true rfl) dX5_note_68 (fun H locs hP hD hS => ?_)
      have hP : va_P D vwCl (wM cy ad ((M4.1.1, M4.1.2.1, M4.1.2.2.1, x6, x5, M4.1.2.2.2.2.2.1, M4.1.2.2.2.2.2.2.1, M4.1.2.2.2.2.2.2.2.1, M4.1.2.2.2.2.2.2.2.2.1, M4.1.2.2.2.2.2.2.2.2.2.1, M4.1.2.2.2.2.2.2.2.2.2.2.1, M4.1.2.2.2.2.2.2.2.2.2.2.2), M4.2.1, M4.2.2.1, M4.2.2.2.1, M4.2.2.2.2.1, M4.2.2.2.2.2.1, M4.2.2.2.2.2.2.1, M4.2.2.2.2.2.2.2.1, M4.2.2.2.2.2.2.2.2.1, M4.2.2.2.2.2.2.2.2.2.1, M4.2.2.2.2.2.2.2.2.2.2.1, M4.2.2.2.2.2.2.2.2.2.2.2.1, M4.2.2.2.2.2.2.2.2.2.2.2.2)) H := hP
      have hD : va_D (adr (wM cy ad M)) (wM cy ad ((M4.1.1, M4.1.2.1, M4.1.2.2.1, x6, x5, M4.1.2.2.2.2.2.1, M4.1.2.2.2.2.2.2.1, M4.1.2.2.2.2.2.2.2.1, M4.1.2.2.2.2.2.2.2.2.1, M4.1.2.2.2.2.2.2.2.2.2.1, M4.1.2.2.2.2.2.2.2.2.2.2.1, M4.1.2.2.2.2.2.2.2.2.2.2.2), M4.2.1, M4.2.2.1, M4.2.2.2.1, M4.2.2.2.2.1, M4.2.2.2.2.2.1, M4.2.2.2.2.2.2.1, M4.2.2.2.2.2.2.2.1, M4.2.2.2.2.2.2.2.2.1, M4.2.2.2.2.2.2.2.2.2.1, M4.2.2.2.2.2.2.2.2.2.2.1, M4.2.2.2.2.2.2.2.2.2.2.2.1, M4.2.2.2.2.2.2.2.2.2.2.2.2)) := hD
      cases hf
      exact mretV hx hb hr hlk hP hS dX5_note_71

abbrev rmX5_raise : Room := { frames := 2, cells := 0, slots := 0, locals := 46 }
theorem miX5_raise : miV yX5_raise cX5_raise 4 (some .int) 2 := ⟨q897, q46, q895, q896, by decide +kernel⟩
set_option maxHeartbeats 4000000 in
set_option maxRecDepth 100000 in
theorem mtX5_raise (l : Launch) (D : va_G) (cy : Nat → ClassId) (z : zT) (ad : Nat → Nat) (M : tM) (u1 : Int32) (u2 : Int32) (r0 : Int32) (M0 : tM) (hf : fX5_raise M u1 u2 = some (r0, M0)) : mmet l yX5_raise cX5_raise 4 (some .int) rmX5_raise D cy z (wM cy ad M) (wM cy ad M0) [.ref (ad 0), .int u1, .int u2] (some (.int r0)) := by
  refine mmet_of (by decide +kernel) (Nat.le_of_ble_eq_true rfl) (fun p e s m below meth c hx hb hr hml hown hts hlk hP hD hS hA0 hKK ls hl => ?_)
  have hown : s.vm.findClass "HillSightModel" = some m.cls := hown
  have hl : lv_has ls 4 [(0, .ref (ad 0)), (1, .int u1), (2, .int u2)] := hl
  unfold fX5_raise at hf
  refine lv_aload_n hx hb dX5_raise_0 rfl (lv_at hl 0 rfl) ?_
  refine lv_iload_n hx hb dX5_raise_1 rfl (lv_at hl 1 rfl) ?_
  obtain ⟨r2, hc1, hf⟩ := bd_some hf
  have hP1 := hP.sub (ws' := [moC ad M.1]) [0] rfl
  refine pCallVI ⟨hx, hb, hml, hown, hts⟩ (mtX5_isCell l D cy z ad M.1 u1 r2 hc1) miX5_isCell q865 ⟨Nat.le_of_ble_eq_true rfl, Nat.le_of_ble_eq_true rfl⟩ ⟨rfl, rfl⟩ hP1 hKK hS hA0 (va_recv hKK.1 hP1 (ci := 5) (q0 := 0) rfl rfl) rfl hl.1 rfl (Nat.le_of_ble_eq_true rfl) dX5_raise_2 ⟨Nat.zero_le _, Nat.zero_le _⟩ ?_
  refine lv_if_ne (tgt := 10) hx hb dX5_raise_5 (by decide) (fun h => ?_) (fun h => ?_)
  · have hf := (if_neg h).symm.trans hf
    refine lv_iload_n hx hb dX5_raise_10 rfl (lv_at hl 2 rfl) ?_
    refine lv_i2l hx hb dX5_raise_11 rfl ?_
    refine lv_lconst (v := 0) hx hb dX5_raise_12 (by decide) ?_
    refine lv_ldc2 hx hb hown (hts _ q898) dX5_raise_13 ?_
    obtain ⟨r4, hc3, hf⟩ := bd_some hf
    have hP1 := hP.sub (ws' := []) [] rfl
    refine pCallSI ⟨hx, hb, hml, hown, hts⟩ (mtX5_in l D cy z u2.toInt64 (0 : Int64) (9 : Int64) r4 hc3) miX5_in q751 ⟨Nat.le_of_ble_eq_true rfl, Nat.le_of_ble_eq_true rfl⟩ ⟨rfl, rfl⟩ hP1 hKK hS hA0 rfl hl.1 rfl (Nat.le_of_ble_eq_true rfl) dX5_raise_16 ⟨Nat.zero_le _, Nat.zero_le _⟩ ?_
    refine lv_if_ne (tgt := 25) hx hb dX5_raise_19 (by decide) (fun h => ?_) (fun h => ?_)
    · have hf := (if_neg h).symm.trans hf
      refine lv_aload_n hx hb dX5_raise_25 rfl (lv_at hl 0 rfl) ?_
      obtain ⟨y6, hc5, hf⟩ := bd_some hf
      refine mCallWVV ⟨hx, hb, hml, hown, hts⟩ (mtX5_note l D cy z ad M y6 hc5) miX5_note q899 ⟨Nat.le_of_ble_eq_true rfl, Nat.le_of_ble_eq_true rfl⟩ ⟨rfl, rfl⟩ hP hD hKK hA0 (va_recv hKK.1 hP (ci := 5) (q0 := 0) rfl rfl) rfl hl.1 rfl (Nat.le_of_ble_eq_true rfl) dX5_raise_26 ⟨Nat.zero_le _, Nat.zero_le _⟩ hS rfl (fun H locs hP hD hS => ?_)
      have hP : va_P D vwCl (wM cy ad y6) H := hP
      have hD : va_D (adr (wM cy ad M)) (wM cy ad y6) := hD
      refine lv_aload_n hx hb dX5_raise_29 rfl (lv_at hl 0 rfl) ?_
      refine va_get (D := D) (ci := 5) (v := .ref (ad 2)) (C := RX5) (T := TX5) (N := 24) hx hb hts inX5 hown hKK.1 hP 0 rfl rfl 4 (by decide) (hts _ q677) (fun _ h => h) rfl dX5_raise_30 ?_
      refine lv_iload_n hx hb dX5_raise_33 rfl (lv_at hl 1 rfl) ?_
      obtain ⟨hg7, hf⟩ := gd_some hf
      refine va_iald hx hb hKK.1 hP 2 0 rfl rfl (inb_in hg7) dX5_raise_34 ?_
      refine nm_i hf (fun x8 hf => ?_)
      refine lv_istore_n (lv' := [(3, .int x8), (0, .ref (ad 0)), (1, .int u1), (2, .int u2)]) hx hb dX5_raise_35 rfl hl (by decide) rfl (fun ls hl => ?_)
      refine lv_aload_n hx hb dX5_raise_36 rfl (lv_at hl 1 rfl) ?_
      refine va_get (D := D) (ci := 5) (v := .ref (ad 2)) (C := RX5) (T := TX5) (N := 24) hx hb hts inX5 hown hKK.1 hP 0 rfl rfl 4 (by decide) (hts _ q677) (fun _ h => h) rfl dX5_raise_37 ?_
      refine lv_iload_n hx hb dX5_raise_40 rfl (lv_at hl 2 rfl) ?_
      refine lv_iload_n hx hb dX5_raise_41 rfl (lv_at hl 3 rfl) ?_
      obtain ⟨hg9, hf⟩ := gd_some hf
      refine va_iast hx hb hKK.1 hP hD hS 2 0 rfl rfl (inb_in hg9) dX5_raise_42 (fun H locs hP hD hS => ?_)
      have hP : va_P D vwCl (wM cy ad (y6.1, y6.2.1, (upd y6.2.2.1 u1.toNatClampNeg u2), y6.2.2.2.1, y6.2.2.2.2.1, y6.2.2.2.2.2.1, y6.2.2.2.2.2.2.1, y6.2.2.2.2.2.2.2.1, y6.2.2.2.2.2.2.2.2.1, y6.2.2.2.2.2.2.2.2.2.1, y6.2.2.2.2.2.2.2.2.2.2.1, y6.2.2.2.2.2.2.2.2.2.2.2.1, y6.2.2.2.2.2.2.2.2.2.2.2.2)) H := hP
      have hD : va_D (adr (wM cy ad M)) (wM cy ad (y6.1, y6.2.1, (upd y6.2.2.1 u1.toNatClampNeg u2), y6.2.2.2.1, y6.2.2.2.2.1, y6.2.2.2.2.2.1, y6.2.2.2.2.2.2.1, y6.2.2.2.2.2.2.2.1, y6.2.2.2.2.2.2.2.2.1, y6.2.2.2.2.2.2.2.2.2.1, y6.2.2.2.2.2.2.2.2.2.2.1, y6.2.2.2.2.2.2.2.2.2.2.2.1, y6.2.2.2.2.2.2.2.2.2.2.2.2)) := hD
      refine lv_iload_n hx hb dX5_raise_43 rfl (lv_at hl 0 rfl) ?_
      cases hf
      exact mretI hx hb hr hlk hP hS dX5_raise_44
    · have hf := (if_pos h).symm.trans hf
      refine lv_bipush (v := -2) hx hb dX5_raise_22 (by decide) ?_
      cases hf
      exact mretI hx hb hr hlk hP hS dX5_raise_24
  · have hf := (if_pos h).symm.trans hf
    refine lv_iconst (v := -1) hx hb dX5_raise_8 (by decide) ?_
    cases hf
    exact mretI hx hb hr hlk hP hS dX5_raise_9

abbrev rmX5_build : Room := { frames := 2, cells := 0, slots := 0, locals := 46 }
theorem miX5_build : miV yX5_build cX5_build 3 (some .int) 2 := ⟨q906, q46, q904, q905, by decide +kernel⟩
set_option maxHeartbeats 4000000 in
set_option maxRecDepth 100000 in
theorem mtX5_build (l : Launch) (D : va_G) (cy : Nat → ClassId) (z : zT) (ad : Nat → Nat) (M : tM) (u1 : Int32) (u2 : Int32) (r0 : Int32) (M0 : tM) (hf : fX5_build M u1 u2 = some (r0, M0)) : mmet l yX5_build cX5_build 3 (some .int) rmX5_build D cy z (wM cy ad M) (wM cy ad M0) [.ref (ad 0), .int u1, .int u2] (some (.int r0)) := by
  refine mmet_of (by decide +kernel) (Nat.le_of_ble_eq_true rfl) (fun p e s m below meth c hx hb hr hml hown hts hlk hP hD hS hA0 hKK ls hl => ?_)
  have hown : s.vm.findClass "HillSightModel" = some m.cls := hown
  have hl : lv_has ls 3 [(0, .ref (ad 0)), (1, .int u1), (2, .int u2)] := hl
  unfold fX5_build at hf
  refine lv_aload_n hx hb dX5_build_0 rfl (lv_at hl 0 rfl) ?_
  refine lv_iload_n hx hb dX5_build_1 rfl (lv_at hl 1 rfl) ?_
  obtain ⟨r2, hc1, hf⟩ := bd_some hf
  have hP1 := hP.sub (ws' := [moC ad M.1]) [0] rfl
  refine pCallVI ⟨hx, hb, hml, hown, hts⟩ (mtX5_isCell l D cy z ad M.1 u1 r2 hc1) miX5_isCell q865 ⟨Nat.le_of_ble_eq_true rfl, Nat.le_of_ble_eq_true rfl⟩ ⟨rfl, rfl⟩ hP1 hKK hS hA0 (va_recv hKK.1 hP1 (ci := 5) (q0 := 0) rfl rfl) rfl hl.1 rfl (Nat.le_of_ble_eq_true rfl) dX5_build_2 ⟨Nat.zero_le _, Nat.zero_le _⟩ ?_
  refine lv_if_ne (tgt := 10) hx hb dX5_build_5 (by decide) (fun h => ?_) (fun h => ?_)
  · have hf := (if_neg h).symm.trans hf
    refine lv_iload_n hx hb dX5_build_10 rfl (lv_at hl 2 rfl) ?_
    refine lv_i2l hx hb dX5_build_11 rfl ?_
    refine lv_lconst (v := 0) hx hb dX5_build_12 (by decide) ?_
    refine lv_ldc2 hx hb hown (hts _ q898) dX5_build_13 ?_
    obtain ⟨r4, hc3, hf⟩ := bd_some hf
    have hP1 := hP.sub (ws' := []) [] rfl
    refine pCallSI ⟨hx, hb, hml, hown, hts⟩ (mtX5_in l D cy z u2.toInt64 (0 : Int64) (9 : Int64) r4 hc3) miX5_in q751 ⟨Nat.le_of_ble_eq_true rfl, Nat.le_of_ble_eq_true rfl⟩ ⟨rfl, rfl⟩ hP1 hKK hS hA0 rfl hl.1 rfl (Nat.le_of_ble_eq_true rfl) dX5_build_16 ⟨Nat.zero_le _, Nat.zero_le _⟩ ?_
    refine lv_if_ne (tgt := 25) hx hb dX5_build_19 (by decide) (fun h => ?_) (fun h => ?_)
    · have hf := (if_neg h).symm.trans hf
      refine lv_aload_n hx hb dX5_build_25 rfl (lv_at hl 0 rfl) ?_
      refine va_get (D := D) (ci := 5) (v := .ref (ad 2)) (C := RX5) (T := TX5) (N := 24) hx hb hts inX5 hown hKK.1 hP 0 rfl rfl 4 (by decide) (hts _ q677) (fun _ h => h) rfl dX5_build_26 ?_
      refine lv_bipush (v := 36) hx hb dX5_build_29 (by decide) ?_
      refine va_iald hx hb hKK.1 hP 2 0 rfl rfl (inb_in (by decide)) dX5_build_31 ?_
      refine lv_iconst (v := 5) hx hb dX5_build_32 (by decide) ?_
      refine lv_icmp_ne (tgt := 39) hx hb dX5_build_33 (by decide) (fun h => ?_) (fun h => ?_)
      · have hf := (if_neg h).symm.trans hf
        refine lv_aload_n hx hb dX5_build_39 rfl (lv_at hl 0 rfl) ?_
        obtain ⟨y6, hc5, hf⟩ := bd_some hf
        refine mCallWVV ⟨hx, hb, hml, hown, hts⟩ (mtX5_note l D cy z ad M y6 hc5) miX5_note q899 ⟨Nat.le_of_ble_eq_true rfl, Nat.le_of_ble_eq_true rfl⟩ ⟨rfl, rfl⟩ hP hD hKK hA0 (va_recv hKK.1 hP (ci := 5) (q0 := 0) rfl rfl) rfl hl.1 rfl (Nat.le_of_ble_eq_true rfl) dX5_build_40 ⟨Nat.zero_le _, Nat.zero_le _⟩ hS rfl (fun H locs hP hD hS => ?_)
        have hP : va_P D vwCl (wM cy ad y6) H := hP
        have hD : va_D (adr (wM cy ad M)) (wM cy ad y6) := hD
        refine lv_aload_n hx hb dX5_build_43 rfl (lv_at hl 0 rfl) ?_
        refine va_get (D := D) (ci := 5) (v := .ref (ad 2)) (C := RX5) (T := TX5) (N := 24) hx hb hts inX5 hown hKK.1 hP 0 rfl rfl 4 (by decide) (hts _ q677) (fun _ h => h) rfl dX5_build_44 ?_
        refine lv_iload_n hx hb dX5_build_47 rfl (lv_at hl 1 rfl) ?_
        refine lv_iload_n hx hb dX5_build_48 rfl (lv_at hl 2 rfl) ?_
        obtain ⟨y8, hc7, hf⟩ := bd_some hf
        have hP1 := hP.sub (ws' := [arI cy (ad 2) 51 y6.2.2.1]) [2] rfl
        have hD1 := hD.sub (ws' := [arI cy (ad 2) 51 y6.2.2.1]) [2] (by decide) rfl
        refine mCallSV ⟨hx, hb, hml, hown, hts⟩ (mtX5_buildOn l D cy z (ad 2) y6.2.2.1 u1 u2 y8 hc7) miX5_buildOn q907 ⟨Nat.le_of_ble_eq_true rfl, Nat.le_of_ble_eq_true rfl⟩ ⟨rfl, rfl⟩ hP1 hD1 hKK hA0 rfl hl.1 rfl (Nat.le_of_ble_eq_true rfl) dX5_build_49 ⟨Nat.zero_le _, Nat.zero_le _⟩ hS hP hD [2] rfl rfl (ws' := wM cy ad (y6.1, y6.2.1, y8, y6.2.2.2.1, y6.2.2.2.2.1, y6.2.2.2.2.2.1, y6.2.2.2.2.2.2.1, y6.2.2.2.2.2.2.2.1, y6.2.2.2.2.2.2.2.2.1, y6.2.2.2.2.2.2.2.2.2.1, y6.2.2.2.2.2.2.2.2.2.2.1, y6.2.2.2.2.2.2.2.2.2.2.2.1, y6.2.2.2.2.2.2.2.2.2.2.2.2)) rfl (fun H locs hP hD hS => ?_)
        refine lv_aload_n hx hb dX5_build_52 rfl (lv_at hl 0 rfl) ?_
        refine va_get (D := D) (ci := 5) (v := .ref (ad 2)) (C := RX5) (T := TX5) (N := 24) hx hb hts inX5 hown hKK.1 hP 0 rfl rfl 4 (by decide) (hts _ q677) (fun _ h => h) rfl dX5_build_53 ?_
        refine lv_bipush (v := 36) hx hb dX5_build_56 (by decide) ?_
        refine va_iald hx hb hKK.1 hP 2 0 rfl rfl (inb_in (by decide)) dX5_build_58 ?_
        cases hf
        exact mretI hx hb hr hlk hP hS dX5_build_59
      · have hf := (if_pos h).symm.trans hf
        refine lv_bipush (v := -4) hx hb dX5_build_36 (by decide) ?_
        cases hf
        exact mretI hx hb hr hlk hP hS dX5_build_38
    · have hf := (if_pos h).symm.trans hf
      refine lv_bipush (v := -2) hx hb dX5_build_22 (by decide) ?_
      cases hf
      exact mretI hx hb hr hlk hP hS dX5_build_24
  · have hf := (if_pos h).symm.trans hf
    refine lv_iconst (v := -1) hx hb dX5_build_8 (by decide) ?_
    cases hf
    exact mretI hx hb hr hlk hP hS dX5_build_9

abbrev rmX5_raze : Room := { frames := 2, cells := 0, slots := 0, locals := 46 }
theorem miX5_raze : miV yX5_raze cX5_raze 2 (some .int) 1 := ⟨q913, q46, q911, q912, by decide +kernel⟩
set_option maxHeartbeats 4000000 in
set_option maxRecDepth 100000 in
theorem mtX5_raze (l : Launch) (D : va_G) (cy : Nat → ClassId) (z : zT) (ad : Nat → Nat) (M : tM) (u1 : Int32) (r0 : Int32) (M0 : tM) (hf : fX5_raze M u1 = some (r0, M0)) : mmet l yX5_raze cX5_raze 2 (some .int) rmX5_raze D cy z (wM cy ad M) (wM cy ad M0) [.ref (ad 0), .int u1] (some (.int r0)) := by
  refine mmet_of (by decide +kernel) (Nat.le_of_ble_eq_true rfl) (fun p e s m below meth c hx hb hr hml hown hts hlk hP hD hS hA0 hKK ls hl => ?_)
  have hown : s.vm.findClass "HillSightModel" = some m.cls := hown
  have hl : lv_has ls 2 [(0, .ref (ad 0)), (1, .int u1)] := hl
  unfold fX5_raze at hf
  refine lv_aload_n hx hb dX5_raze_0 rfl (lv_at hl 0 rfl) ?_
  refine lv_iload_n hx hb dX5_raze_1 rfl (lv_at hl 1 rfl) ?_
  obtain ⟨r2, hc1, hf⟩ := bd_some hf
  have hP1 := hP.sub (ws' := [moC ad M.1, arI cy (ad 2) 51 M.2.2.1]) [0, 2] rfl
  refine pCallVI ⟨hx, hb, hml, hown, hts⟩ (mtX5_isTower l D cy z ad M.1 M.2.2.1 u1 r2 hc1) miX5_isTower q885 ⟨Nat.le_of_ble_eq_true rfl, Nat.le_of_ble_eq_true rfl⟩ ⟨rfl, rfl⟩ hP1 hKK hS hA0 (va_recv hKK.1 hP1 (ci := 5) (q0 := 0) rfl rfl) rfl hl.1 rfl (Nat.le_of_ble_eq_true rfl) dX5_raze_2 ⟨Nat.zero_le _, Nat.zero_le _⟩ ?_
  refine lv_if_ne (tgt := 10) hx hb dX5_raze_5 (by decide) (fun h => ?_) (fun h => ?_)
  · have hf := (if_neg h).symm.trans hf
    refine lv_aload_n hx hb dX5_raze_10 rfl (lv_at hl 0 rfl) ?_
    obtain ⟨y4, hc3, hf⟩ := bd_some hf
    refine mCallWVV ⟨hx, hb, hml, hown, hts⟩ (mtX5_note l D cy z ad M y4 hc3) miX5_note q899 ⟨Nat.le_of_ble_eq_true rfl, Nat.le_of_ble_eq_true rfl⟩ ⟨rfl, rfl⟩ hP hD hKK hA0 (va_recv hKK.1 hP (ci := 5) (q0 := 0) rfl rfl) rfl hl.1 rfl (Nat.le_of_ble_eq_true rfl) dX5_raze_11 ⟨Nat.zero_le _, Nat.zero_le _⟩ hS rfl (fun H locs hP hD hS => ?_)
    have hP : va_P D vwCl (wM cy ad y4) H := hP
    have hD : va_D (adr (wM cy ad M)) (wM cy ad y4) := hD
    refine lv_aload_n hx hb dX5_raze_14 rfl (lv_at hl 0 rfl) ?_
    refine va_get (D := D) (ci := 5) (v := .ref (ad 2)) (C := RX5) (T := TX5) (N := 24) hx hb hts inX5 hown hKK.1 hP 0 rfl rfl 4 (by decide) (hts _ q677) (fun _ h => h) rfl dX5_raze_15 ?_
    refine lv_iload_n hx hb dX5_raze_18 rfl (lv_at hl 1 rfl) ?_
    obtain ⟨y6, hc5, hf⟩ := bd_some hf
    have hP1 := hP.sub (ws' := [arI cy (ad 2) 51 y4.2.2.1]) [2] rfl
    have hD1 := hD.sub (ws' := [arI cy (ad 2) 51 y4.2.2.1]) [2] (by decide) rfl
    refine mCallSV ⟨hx, hb, hml, hown, hts⟩ (mtX5_razeOf l D cy z (ad 2) y4.2.2.1 u1 y6 hc5) miX5_razeOf q914 ⟨Nat.le_of_ble_eq_true rfl, Nat.le_of_ble_eq_true rfl⟩ ⟨rfl, rfl⟩ hP1 hD1 hKK hA0 rfl hl.1 rfl (Nat.le_of_ble_eq_true rfl) dX5_raze_19 ⟨Nat.zero_le _, Nat.zero_le _⟩ hS hP hD [2] rfl rfl (ws' := wM cy ad (y4.1, y4.2.1, y6, y4.2.2.2.1, y4.2.2.2.2.1, y4.2.2.2.2.2.1, y4.2.2.2.2.2.2.1, y4.2.2.2.2.2.2.2.1, y4.2.2.2.2.2.2.2.2.1, y4.2.2.2.2.2.2.2.2.2.1, y4.2.2.2.2.2.2.2.2.2.2.1, y4.2.2.2.2.2.2.2.2.2.2.2.1, y4.2.2.2.2.2.2.2.2.2.2.2.2)) rfl (fun H locs hP hD hS => ?_)
    refine lv_aload_n hx hb dX5_raze_22 rfl (lv_at hl 0 rfl) ?_
    refine va_get (D := D) (ci := 5) (v := .ref (ad 2)) (C := RX5) (T := TX5) (N := 24) hx hb hts inX5 hown hKK.1 hP 0 rfl rfl 4 (by decide) (hts _ q677) (fun _ h => h) rfl dX5_raze_23 ?_
    refine lv_bipush (v := 36) hx hb dX5_raze_26 (by decide) ?_
    refine va_iald hx hb hKK.1 hP 2 0 rfl rfl (inb_in (by decide)) dX5_raze_28 ?_
    cases hf
    exact mretI hx hb hr hlk hP hS dX5_raze_29
  · have hf := (if_pos h).symm.trans hf
    refine lv_iconst (v := -1) hx hb dX5_raze_8 (by decide) ?_
    cases hf
    exact mretI hx hb hr hlk hP hS dX5_raze_9

abbrev rmX5_set : Room := { frames := 2, cells := 0, slots := 0, locals := 46 }
theorem miX5_set : miV yX5_set cX5_set 4 (some .int) 2 := ⟨q920, q46, q918, q919, by decide +kernel⟩
set_option maxHeartbeats 4000000 in
set_option maxRecDepth 100000 in
theorem mtX5_set (l : Launch) (D : va_G) (cy : Nat → ClassId) (z : zT) (ad : Nat → Nat) (M : tM) (u1 : Int32) (u2 : Int32) (r0 : Int32) (M0 : tM) (hf : fX5_set M u1 u2 = some (r0, M0)) : mmet l yX5_set cX5_set 4 (some .int) rmX5_set D cy z (wM cy ad M) (wM cy ad M0) [.ref (ad 0), .int u1, .int u2] (some (.int r0)) := by
  refine mmet_of (by decide +kernel) (Nat.le_of_ble_eq_true rfl) (fun p e s m below meth c hx hb hr hml hown hts hlk hP hD hS hA0 hKK ls hl => ?_)
  have hown : s.vm.findClass "HillSightModel" = some m.cls := hown
  have hl : lv_has ls 4 [(0, .ref (ad 0)), (1, .int u1), (2, .int u2)] := hl
  unfold fX5_set at hf
  refine lv_iload_n hx hb dX5_set_0 rfl (lv_at hl 1 rfl) ?_
  refine lv_iload_n hx hb dX5_set_1 rfl (lv_at hl 2 rfl) ?_
  obtain ⟨r2, hc1, hf⟩ := bd_some hf
  have hP1 := hP.sub (ws' := []) [] rfl
  refine pCallSI ⟨hx, hb, hml, hown, hts⟩ (mtX5_maySet l D cy z u1 u2 r2 hc1) miX5_maySet q921 ⟨Nat.le_of_ble_eq_true rfl, Nat.le_of_ble_eq_true rfl⟩ ⟨rfl, rfl⟩ hP1 hKK hS hA0 rfl hl.1 rfl (Nat.le_of_ble_eq_true rfl) dX5_set_2 ⟨Nat.zero_le _, Nat.zero_le _⟩ ?_
  refine lv_if_ne (tgt := 11) hx hb dX5_set_5 (by decide) (fun h => ?_) (fun h => ?_)
  · have hf := (if_neg h).symm.trans hf
    refine lv_aload_n hx hb dX5_set_11 rfl (lv_at hl 0 rfl) ?_
    obtain ⟨y4, hc3, hf⟩ := bd_some hf
    refine mCallWVV ⟨hx, hb, hml, hown, hts⟩ (mtX5_note l D cy z ad M y4 hc3) miX5_note q899 ⟨Nat.le_of_ble_eq_true rfl, Nat.le_of_ble_eq_true rfl⟩ ⟨rfl, rfl⟩ hP hD hKK hA0 (va_recv hKK.1 hP (ci := 5) (q0 := 0) rfl rfl) rfl hl.1 rfl (Nat.le_of_ble_eq_true rfl) dX5_set_12 ⟨Nat.zero_le _, Nat.zero_le _⟩ hS rfl (fun H locs hP hD hS => ?_)
    have hP : va_P D vwCl (wM cy ad y4) H := hP
    have hD : va_D (adr (wM cy ad M)) (wM cy ad y4) := hD
    refine lv_aload_n hx hb dX5_set_15 rfl (lv_at hl 0 rfl) ?_
    refine va_get (D := D) (ci := 5) (v := .ref (ad 2)) (C := RX5) (T := TX5) (N := 24) hx hb hts inX5 hown hKK.1 hP 0 rfl rfl 4 (by decide) (hts _ q677) (fun _ h => h) rfl dX5_set_16 ?_
    refine lv_bipush (v := 47) hx hb dX5_set_19 (by decide) ?_
    refine lv_iload_n hx hb dX5_set_21 rfl (lv_at hl 1 rfl) ?_
    refine lv_iadd hx hb dX5_set_22 ?_
    obtain ⟨hg5, hf⟩ := gd_some hf
    refine va_iald hx hb hKK.1 hP 2 0 rfl rfl (inb_in hg5) dX5_set_23 ?_
    refine nm_i hf (fun x6 hf => ?_)
    refine lv_istore_n (lv' := [(3, .int x6), (0, .ref (ad 0)), (1, .int u1), (2, .int u2)]) hx hb dX5_set_24 rfl hl (by decide) rfl (fun ls hl => ?_)
    refine lv_aload_n hx hb dX5_set_25 rfl (lv_at hl 1 rfl) ?_
    refine va_get (D := D) (ci := 5) (v := .ref (ad 2)) (C := RX5) (T := TX5) (N := 24) hx hb hts inX5 hown hKK.1 hP 0 rfl rfl 4 (by decide) (hts _ q677) (fun _ h => h) rfl dX5_set_26 ?_
    refine lv_bipush (v := 47) hx hb dX5_set_29 (by decide) ?_
    refine lv_iload_n hx hb dX5_set_31 rfl (lv_at hl 2 rfl) ?_
    refine lv_iadd hx hb dX5_set_32 ?_
    refine lv_iload_n hx hb dX5_set_33 rfl (lv_at hl 3 rfl) ?_
    obtain ⟨hg7, hf⟩ := gd_some hf
    refine va_iast hx hb hKK.1 hP hD hS 2 0 rfl rfl (inb_in hg7) dX5_set_34 (fun H locs hP hD hS => ?_)
    have hP : va_P D vwCl (wM cy ad (y4.1, y4.2.1, (upd y4.2.2.1 ((47 : Int32) + u1).toNatClampNeg u2), y4.2.2.2.1, y4.2.2.2.2.1, y4.2.2.2.2.2.1, y4.2.2.2.2.2.2.1, y4.2.2.2.2.2.2.2.1, y4.2.2.2.2.2.2.2.2.1, y4.2.2.2.2.2.2.2.2.2.1, y4.2.2.2.2.2.2.2.2.2.2.1, y4.2.2.2.2.2.2.2.2.2.2.2.1, y4.2.2.2.2.2.2.2.2.2.2.2.2)) H := hP
    have hD : va_D (adr (wM cy ad M)) (wM cy ad (y4.1, y4.2.1, (upd y4.2.2.1 ((47 : Int32) + u1).toNatClampNeg u2), y4.2.2.2.1, y4.2.2.2.2.1, y4.2.2.2.2.2.1, y4.2.2.2.2.2.2.1, y4.2.2.2.2.2.2.2.1, y4.2.2.2.2.2.2.2.2.1, y4.2.2.2.2.2.2.2.2.2.1, y4.2.2.2.2.2.2.2.2.2.2.1, y4.2.2.2.2.2.2.2.2.2.2.2.1, y4.2.2.2.2.2.2.2.2.2.2.2.2)) := hD
    refine lv_iload_n hx hb dX5_set_35 rfl (lv_at hl 0 rfl) ?_
    cases hf
    exact mretI hx hb hr hlk hP hS dX5_set_36
  · have hf := (if_pos h).symm.trans hf
    refine lv_bipush (v := -2) hx hb dX5_set_8 (by decide) ?_
    cases hf
    exact mretI hx hb hr hlk hP hS dX5_set_10

abbrev rmX5_undo : Room := { frames := 0, cells := 0, slots := 0, locals := 0 }
theorem miX5_undo : miV yX5_undo cX5_undo 2 (some .int) 0 := ⟨q928, q46, q926, q927, by decide +kernel⟩
set_option maxHeartbeats 4000000 in
set_option maxRecDepth 100000 in
theorem mtX5_undo (l : Launch) (D : va_G) (cy : Nat → ClassId) (z : zT) (ad : Nat → Nat) (M : tM) (r0 : Int32) (M0 : tM) (hf : fX5_undo M = some (r0, M0)) : mmet l yX5_undo cX5_undo 2 (some .int) rmX5_undo D cy z (wM cy ad M) (wM cy ad M0) [.ref (ad 0)] (some (.int r0)) := by
  refine mmet_of (by decide +kernel) (Nat.le_of_ble_eq_true rfl) (fun p e s m below meth c hx hb hr hml hown hts hlk hP hD hS hA0 hKK ls hl => ?_)
  have hown : s.vm.findClass "HillSightModel" = some m.cls := hown
  have hl : lv_has ls 2 [(0, .ref (ad 0))] := hl
  have w_38 : ∀ (k70 : tM → Option (Int32 × tM)) (hk70 : ∀ (M_38 : tM) (H : Heap) (locs : List Loc) (ls : Array Slot), k70 M_38 = some (r0, M0) → va_P D vwCl (wM cy ad M_38) H → va_D (adr (wM cy ad M)) (wM cy ad M_38) → va_S (adr (wM cy ad M)) s.heap H locs → lv_has ls 2 [(0, .ref (ad 0))] → W p l e rmX5_undo s m ([.ref (ad 0)] : List Value).toArray below meth c H locs 0 0 (MQ below (mQ D (wM cy ad M) (wM cy ad M0) (some (.int r0))) ([.ref (ad 0)] : List Value).toArray s 0 0 (adr (wM cy ad M))) (F0 m 70 ls [])) (n : Nat) (v1_38 : Int32) (M_38 : tM) (H : Heap) (locs : List Loc) (ls : Array Slot), fX5_undo_38 k70 n v1_38 M_38 = some (r0, M0) → va_P D vwCl (wM cy ad M_38) H → va_D (adr (wM cy ad M)) (wM cy ad M_38) → va_S (adr (wM cy ad M)) s.heap H locs → lv_has ls 2 [(0, .ref (ad 0)), (1, .int v1_38)] → W p l e rmX5_undo s m ([.ref (ad 0)] : List Value).toArray below meth c H locs 0 0 (MQ below (mQ D (wM cy ad M) (wM cy ad M0) (some (.int r0))) ([.ref (ad 0)] : List Value).toArray s 0 0 (adr (wM cy ad M))) (F0 m 38 ls []) := by
    intro k70 hk70 n
    induction n with
    | zero =>
      intro v1_38 M_38 H locs ls hf hP hD hS hl
      cases (show (none : Option (Int32 × tM)) = some (r0, M0) from hf)
    | succ n ih =>
      intro v1_38 M_38 H locs ls hf hP hD hS hl
      rw [fX5_undo_38] at hf
      refine lv_iload_n hx hb dX5_undo_38 rfl (lv_at hl 1 rfl) ?_
      refine lv_bipush (v := 51) hx hb dX5_undo_39 (by decide) ?_
      refine lv_icmp_ge (tgt := 70) hx hb dX5_undo_41 (by decide) (fun h => ?_) (fun h => ?_)
      · have hf := (if_pos h).symm.trans hf
        exact hk70 M_38 _ _ ls hf hP hD hS (lv_sub hl [0] rfl)
      · have hf := (if_neg h).symm.trans hf
        refine lv_aload_n hx hb dX5_undo_44 rfl (lv_at hl 0 rfl) ?_
        refine va_get (D := D) (ci := 5) (v := .ref (ad 2)) (C := RX5) (T := TX5) (N := 24) hx hb hts inX5 hown hKK.1 hP 0 rfl rfl 4 (by decide) (hts _ q677) (fun _ h => h) rfl dX5_undo_45 ?_
        refine lv_iload_n hx hb dX5_undo_48 rfl (lv_at hl 1 rfl) ?_
        refine lv_aload_n hx hb dX5_undo_49 rfl (lv_at hl 0 rfl) ?_
        refine va_get (D := D) (ci := 5) (v := .ref (ad 4)) (C := RX5) (T := TX5) (N := 24) hx hb hts inX5 hown hKK.1 hP 0 rfl rfl 6 (by decide) (hts _ q679) (fun _ h => h) rfl dX5_undo_50 ?_
        refine lv_bipush (v := 51) hx hb dX5_undo_53 (by decide) ?_
        refine lv_aload_n hx hb dX5_undo_55 rfl (lv_at hl 0 rfl) ?_
        refine va_get (D := D) (ci := 5) (v := .int M_38.1.2.2.2.2.1) (C := RX5) (T := TX5) (N := 24) hx hb hts inX5 hown hKK.1 hP 0 rfl rfl 8 (by decide) (hts _ q681) (fun _ h => h) rfl dX5_undo_56 ?_
        refine lv_imul hx hb dX5_undo_59 ?_
        refine lv_iload_n hx hb dX5_undo_60 rfl (lv_at hl 1 rfl) ?_
        refine lv_iadd hx hb dX5_undo_61 ?_
        obtain ⟨hg3, hf⟩ := gd_some hf
        refine va_iald hx hb hKK.1 hP 4 0 rfl rfl (inb_in hg3) dX5_undo_62 ?_
        obtain ⟨hg4, hf⟩ := gd_some hf
        refine va_iast hx hb hKK.1 hP hD hS 2 0 rfl rfl (inb_in hg4) dX5_undo_63 (fun H locs hP hD hS => ?_)
        have hP : va_P D vwCl (wM cy ad (M_38.1, M_38.2.1, (upd M_38.2.2.1 v1_38.toNatClampNeg (M_38.2.2.2.2.1 (((51 : Int32) * M_38.1.2.2.2.2.1) + v1_38).toNatClampNeg)), M_38.2.2.2.1, M_38.2.2.2.2.1, M_38.2.2.2.2.2.1, M_38.2.2.2.2.2.2.1, M_38.2.2.2.2.2.2.2.1, M_38.2.2.2.2.2.2.2.2.1, M_38.2.2.2.2.2.2.2.2.2.1, M_38.2.2.2.2.2.2.2.2.2.2.1, M_38.2.2.2.2.2.2.2.2.2.2.2.1, M_38.2.2.2.2.2.2.2.2.2.2.2.2)) H := hP
        have hD : va_D (adr (wM cy ad M)) (wM cy ad (M_38.1, M_38.2.1, (upd M_38.2.2.1 v1_38.toNatClampNeg (M_38.2.2.2.2.1 (((51 : Int32) * M_38.1.2.2.2.2.1) + v1_38).toNatClampNeg)), M_38.2.2.2.1, M_38.2.2.2.2.1, M_38.2.2.2.2.2.1, M_38.2.2.2.2.2.2.1, M_38.2.2.2.2.2.2.2.1, M_38.2.2.2.2.2.2.2.2.1, M_38.2.2.2.2.2.2.2.2.2.1, M_38.2.2.2.2.2.2.2.2.2.2.1, M_38.2.2.2.2.2.2.2.2.2.2.2.1, M_38.2.2.2.2.2.2.2.2.2.2.2.2)) := hD
        obtain ⟨x5, ex5, hf⟩ := nm_ex hf
        refine lv_iinc (v := x5) (lv' := [(1, .int x5), (0, .ref (ad 0))]) hx hb dX5_undo_64 hl (k := 1) rfl (Eq.trans rfl ex5) (by decide) rfl (fun ls hl => ?_)
        refine lv_goto (tgt := 38) hx hb dX5_undo_67 (by decide) ?_
        exact ih x5 (M_38.1, M_38.2.1, (upd M_38.2.2.1 v1_38.toNatClampNeg (M_38.2.2.2.2.1 (((51 : Int32) * M_38.1.2.2.2.2.1) + v1_38).toNatClampNeg)), M_38.2.2.2.1, M_38.2.2.2.2.1, M_38.2.2.2.2.2.1, M_38.2.2.2.2.2.2.1, M_38.2.2.2.2.2.2.2.1, M_38.2.2.2.2.2.2.2.2.1, M_38.2.2.2.2.2.2.2.2.2.1, M_38.2.2.2.2.2.2.2.2.2.2.1, M_38.2.2.2.2.2.2.2.2.2.2.2.1, M_38.2.2.2.2.2.2.2.2.2.2.2.2) _ _ ls hf hP hD hS (lv_sub hl [1, 0] rfl)
  unfold fX5_undo at hf
  refine lv_aload_n hx hb dX5_undo_0 rfl (lv_at hl 0 rfl) ?_
  refine va_get (D := D) (ci := 5) (v := .int M.1.2.2.2.1) (C := RX5) (T := TX5) (N := 24) hx hb hts inX5 hown hKK.1 hP 0 rfl rfl 7 (by decide) (hts _ q680) (fun _ h => h) rfl dX5_undo_1 ?_
  refine lv_if_ne (tgt := 10) hx hb dX5_undo_4 (by decide) (fun h => ?_) (fun h => ?_)
  · have hf := (if_neg h).symm.trans hf
    refine lv_aload_n hx hb dX5_undo_10 rfl (lv_at hl 0 rfl) ?_
    refine lv_dup hx hb dX5_undo_11 rfl ?_
    refine va_get (D := D) (ci := 5) (v := .int M.1.2.2.2.1) (C := RX5) (T := TX5) (N := 24) hx hb hts inX5 hown hKK.1 hP 0 rfl rfl 7 (by decide) (hts _ q680) (fun _ h => h) rfl dX5_undo_12 ?_
    refine lv_iconst (v := 1) hx hb dX5_undo_15 (by decide) ?_
    refine lv_isub hx hb dX5_undo_16 ?_
    refine nm_i hf (fun x1 hf => ?_)
    refine va_put (D := D) (ci := 5) (v := .int x1) (ty := .int) (C := RX5) (T := TX5) (N := 24) hx hb hts inX5 tyX5 tyX5_ok nmX5 hown hKK.1 hP hD hS 0 rfl rfl 7 (by decide) (hts _ q680) (fun _ h => h) rfl (by decide +kernel) rfl rfl (Nat.le_of_ble_eq_true rfl) dX5_undo_17 (fun H locs hP hD hS => ?_)
    have hP : va_P D vwCl (wM cy ad ((M.1.1, M.1.2.1, M.1.2.2.1, x1, M.1.2.2.2.2.1, M.1.2.2.2.2.2.1, M.1.2.2.2.2.2.2.1, M.1.2.2.2.2.2.2.2.1, M.1.2.2.2.2.2.2.2.2.1, M.1.2.2.2.2.2.2.2.2.2.1, M.1.2.2.2.2.2.2.2.2.2.2.1, M.1.2.2.2.2.2.2.2.2.2.2.2), M.2.1, M.2.2.1, M.2.2.2.1, M.2.2.2.2.1, M.2.2.2.2.2.1, M.2.2.2.2.2.2.1, M.2.2.2.2.2.2.2.1, M.2.2.2.2.2.2.2.2.1, M.2.2.2.2.2.2.2.2.2.1, M.2.2.2.2.2.2.2.2.2.2.1, M.2.2.2.2.2.2.2.2.2.2.2.1, M.2.2.2.2.2.2.2.2.2.2.2.2)) H := hP
    have hD : va_D (adr (wM cy ad M)) (wM cy ad ((M.1.1, M.1.2.1, M.1.2.2.1, x1, M.1.2.2.2.2.1, M.1.2.2.2.2.2.1, M.1.2.2.2.2.2.2.1, M.1.2.2.2.2.2.2.2.1, M.1.2.2.2.2.2.2.2.2.1, M.1.2.2.2.2.2.2.2.2.2.1, M.1.2.2.2.2.2.2.2.2.2.2.1, M.1.2.2.2.2.2.2.2.2.2.2.2), M.2.1, M.2.2.1, M.2.2.2.1, M.2.2.2.2.1, M.2.2.2.2.2.1, M.2.2.2.2.2.2.1, M.2.2.2.2.2.2.2.1, M.2.2.2.2.2.2.2.2.1, M.2.2.2.2.2.2.2.2.2.1, M.2.2.2.2.2.2.2.2.2.2.1, M.2.2.2.2.2.2.2.2.2.2.2.1, M.2.2.2.2.2.2.2.2.2.2.2.2)) := hD
    refine lv_aload_n hx hb dX5_undo_20 rfl (lv_at hl 0 rfl) ?_
    refine lv_aload_n hx hb dX5_undo_21 rfl (lv_at hl 0 rfl) ?_
    refine va_get (D := D) (ci := 5) (v := .int M.1.2.2.2.2.1) (C := RX5) (T := TX5) (N := 24) hx hb hts inX5 hown hKK.1 hP 0 rfl rfl 8 (by decide) (hts _ q681) (fun _ h => h) rfl dX5_undo_22 ?_
    refine lv_bipush (v := 14) hx hb dX5_undo_25 (by decide) ?_
    refine lv_iadd hx hb dX5_undo_27 ?_
    refine lv_iconst (v := 1) hx hb dX5_undo_28 (by decide) ?_
    refine lv_isub hx hb dX5_undo_29 ?_
    refine lv_bipush (v := 14) hx hb dX5_undo_30 (by decide) ?_
    refine lv_irem hx hb dX5_undo_32 (by decide) ?_
    refine nm_i hf (fun x2 hf => ?_)
    refine va_put (D := D) (ci := 5) (v := .int x2) (ty := .int) (C := RX5) (T := TX5) (N := 24) hx hb hts inX5 tyX5 tyX5_ok nmX5 hown hKK.1 hP hD hS 0 rfl rfl 8 (by decide) (hts _ q681) (fun _ h => h) rfl (by decide +kernel) rfl rfl (Nat.le_of_ble_eq_true rfl) dX5_undo_33 (fun H locs hP hD hS => ?_)
    have hP : va_P D vwCl (wM cy ad ((M.1.1, M.1.2.1, M.1.2.2.1, x1, x2, M.1.2.2.2.2.2.1, M.1.2.2.2.2.2.2.1, M.1.2.2.2.2.2.2.2.1, M.1.2.2.2.2.2.2.2.2.1, M.1.2.2.2.2.2.2.2.2.2.1, M.1.2.2.2.2.2.2.2.2.2.2.1, M.1.2.2.2.2.2.2.2.2.2.2.2), M.2.1, M.2.2.1, M.2.2.2.1, M.2.2.2.2.1, M.2.2.2.2.2.1, M.2.2.2.2.2.2.1, M.2.2.2.2.2.2.2.1, M.2.2.2.2.2.2.2.2.1, M.2.2.2.2.2.2.2.2.2.1, M.2.2.2.2.2.2.2.2.2.2.1, M.2.2.2.2.2.2.2.2.2.2.2.1, M.2.2.2.2.2.2.2.2.2.2.2.2)) H := hP
    have hD : va_D (adr (wM cy ad M)) (wM cy ad ((M.1.1, M.1.2.1, M.1.2.2.1, x1, x2, M.1.2.2.2.2.2.1, M.1.2.2.2.2.2.2.1, M.1.2.2.2.2.2.2.2.1, M.1.2.2.2.2.2.2.2.2.1, M.1.2.2.2.2.2.2.2.2.2.1, M.1.2.2.2.2.2.2.2.2.2.2.1, M.1.2.2.2.2.2.2.2.2.2.2.2), M.2.1, M.2.2.1, M.2.2.2.1, M.2.2.2.2.1, M.2.2.2.2.2.1, M.2.2.2.2.2.2.1, M.2.2.2.2.2.2.2.1, M.2.2.2.2.2.2.2.2.1, M.2.2.2.2.2.2.2.2.2.1, M.2.2.2.2.2.2.2.2.2.2.1, M.2.2.2.2.2.2.2.2.2.2.2.1, M.2.2.2.2.2.2.2.2.2.2.2.2)) := hD
    refine lv_iconst (v := 0) hx hb dX5_undo_36 (by decide) ?_
    refine lv_istore_n (lv' := [(1, .int (0 : Int32)), (0, .ref (ad 0))]) hx hb dX5_undo_37 rfl hl (by decide) rfl (fun ls hl => ?_)
    refine w_38 _ ?_ _ (0 : Int32) ((M.1.1, M.1.2.1, M.1.2.2.1, x1, x2, M.1.2.2.2.2.2.1, M.1.2.2.2.2.2.2.1, M.1.2.2.2.2.2.2.2.1, M.1.2.2.2.2.2.2.2.2.1, M.1.2.2.2.2.2.2.2.2.2.1, M.1.2.2.2.2.2.2.2.2.2.2.1, M.1.2.2.2.2.2.2.2.2.2.2.2), M.2.1, M.2.2.1, M.2.2.2.1, M.2.2.2.2.1, M.2.2.2.2.2.1, M.2.2.2.2.2.2.1, M.2.2.2.2.2.2.2.1, M.2.2.2.2.2.2.2.2.1, M.2.2.2.2.2.2.2.2.2.1, M.2.2.2.2.2.2.2.2.2.2.1, M.2.2.2.2.2.2.2.2.2.2.2.1, M.2.2.2.2.2.2.2.2.2.2.2.2) _ _ ls hf hP hD hS (lv_sub hl [1, 0] rfl)
    · intro M6 H locs ls hf hP hD hS hl
      refine lv_aload_n hx hb dX5_undo_70 rfl (lv_at hl 0 rfl) ?_
      refine va_get (D := D) (ci := 5) (v := .int M6.1.2.2.2.1) (C := RX5) (T := TX5) (N := 24) hx hb hts inX5 hown hKK.1 hP 0 rfl rfl 7 (by decide) (hts _ q680) (fun _ h => h) rfl dX5_undo_71 ?_
      cases hf
      exact mretI hx hb hr hlk hP hS dX5_undo_74
  · have hf := (if_pos h).symm.trans hf
    refine lv_bipush (v := -3) hx hb dX5_undo_7 (by decide) ?_
    cases hf
    exact mretI hx hb hr hlk hP hS dX5_undo_9

abbrev rmX5_sees : Room := { frames := 8, cells := 0, slots := 0, locals := 201 }
theorem miX5_sees : miV yX5_sees cX5_sees 4 (some .int) 3 := ⟨q932, q46, q930, q931, by decide +kernel⟩
set_option maxHeartbeats 4000000 in
set_option maxRecDepth 100000 in
theorem mtX5_sees (l : Launch) (D : va_G) (cy : Nat → ClassId) (z : zT) (ad : Nat → Nat) (o : tMo) (w : tA) (u1 : Int32) (u2 : Int32) (u3 : Int32) (r0 : Int32) (hf : fX5_sees o w u1 u2 u3 = some r0) : pmet l yX5_sees cX5_sees 4 (some .int) rmX5_sees D cy z ([moC ad o, arI cy (ad 2) 51 w]) [.ref (ad 0), .int u1, .int u2, .int u3] (some (.int r0)) := by
  refine pmet_of (by decide +kernel) (Nat.le_of_ble_eq_true rfl) (fun p e s m below meth c hx hb hr hml hown hts hlk hP hKK ls hl => ?_)
  have hS : va_S noF s.heap s.heap [] := va_S.rf
  have hA0 : ∀ q, noF q → zA z q := fun _ h => h.elim
  have hown : s.vm.findClass "HillSightModel" = some m.cls := hown
  have hl : lv_has ls 4 [(0, .ref (ad 0)), (1, .int u1), (2, .int u2), (3, .int u3)] := hl
  unfold fX5_sees at hf
  refine lv_aload_n hx hb dX5_sees_0 rfl (lv_at hl 0 rfl) ?_
  refine lv_iload_n hx hb dX5_sees_1 rfl (lv_at hl 1 rfl) ?_
  obtain ⟨r2, hc1, hf⟩ := bd_some hf
  have hP1 := hP.sub (ws' := [moC ad o]) [0] rfl
  refine pCallVI ⟨hx, hb, hml, hown, hts⟩ (mtX5_isCell l D cy z ad o u1 r2 hc1) miX5_isCell q865 ⟨Nat.le_of_ble_eq_true rfl, Nat.le_of_ble_eq_true rfl⟩ ⟨rfl, rfl⟩ hP1 hKK hS hA0 (va_recv hKK.1 hP1 (ci := 5) (q0 := 0) rfl rfl) rfl hl.1 rfl (Nat.le_of_ble_eq_true rfl) dX5_sees_2 ⟨Nat.zero_le _, Nat.zero_le _⟩ ?_
  refine lv_if_eq (tgt := 16) hx hb dX5_sees_5 (by decide) (fun h => ?_) (fun h => ?_)
  · have hf := (if_pos h).symm.trans hf
    refine lv_iconst (v := -1) hx hb dX5_sees_16 (by decide) ?_
    exact pretI hx hb hr hlk hf dX5_sees_17
  · have hf := (if_neg h).symm.trans hf
    refine lv_aload_n hx hb dX5_sees_8 rfl (lv_at hl 0 rfl) ?_
    refine lv_iload_n hx hb dX5_sees_9 rfl (lv_at hl 2 rfl) ?_
    obtain ⟨r4, hc3, hf⟩ := bd_some hf
    have hP1 := hP.sub (ws' := [moC ad o]) [0] rfl
    refine pCallVI ⟨hx, hb, hml, hown, hts⟩ (mtX5_isCell l D cy z ad o u2 r4 hc3) miX5_isCell q865 ⟨Nat.le_of_ble_eq_true rfl, Nat.le_of_ble_eq_true rfl⟩ ⟨rfl, rfl⟩ hP1 hKK hS hA0 (va_recv hKK.1 hP1 (ci := 5) (q0 := 0) rfl rfl) rfl hl.1 rfl (Nat.le_of_ble_eq_true rfl) dX5_sees_10 ⟨Nat.zero_le _, Nat.zero_le _⟩ ?_
    refine lv_if_ne (tgt := 18) hx hb dX5_sees_13 (by decide) (fun h => ?_) (fun h => ?_)
    · have hf := (if_neg h).symm.trans hf
      refine lv_iload_n hx hb dX5_sees_18 rfl (lv_at hl 3 rfl) ?_
      by_cases h0 : u3 = 0
      · have hf := (if_pos h0).symm.trans hf
        refine sw_hit (tgt := 52) hx hb dX5_sees_19 h0 (by decide) (by decide) rfl (by decide) ?_
        refine lv_aload_n hx hb dX5_sees_52 rfl (lv_at hl 0 rfl) ?_
        refine lv_aload_n hx hb dX5_sees_53 rfl (lv_at hl 0 rfl) ?_
        refine va_get (D := D) (ci := 5) (v := .ref (ad 2)) (C := RX5) (T := TX5) (N := 24) hx hb hts inX5 hown hKK.1 hP 0 rfl rfl 4 (by decide) (hts _ q677) (fun _ h => h) rfl dX5_sees_54 ?_
        refine lv_iload_n hx hb dX5_sees_57 rfl (lv_at hl 1 rfl) ?_
        refine lv_aload_n hx hb dX5_sees_58 rfl (lv_at hl 0 rfl) ?_
        refine va_get (D := D) (ci := 5) (v := .ref (ad 2)) (C := RX5) (T := TX5) (N := 24) hx hb hts inX5 hown hKK.1 hP 0 rfl rfl 4 (by decide) (hts _ q677) (fun _ h => h) rfl dX5_sees_59 ?_
        refine lv_bipush (v := 47) hx hb dX5_sees_62 (by decide) ?_
        refine va_iald hx hb hKK.1 hP 1 0 rfl rfl (inb_in (by decide)) dX5_sees_64 ?_
        refine lv_iload_n hx hb dX5_sees_65 rfl (lv_at hl 2 rfl) ?_
        obtain ⟨r6, hc5, hf⟩ := bd_some hf
        refine pCallVI ⟨hx, hb, hml, hown, hts⟩ (mtX5_isSeen l D cy z ad (ad 2) o w u1 (w (47 : Int32).toNatClampNeg) u2 r6 hc5) miX5_isSeen q816 ⟨Nat.le_of_ble_eq_true rfl, Nat.le_of_ble_eq_true rfl⟩ ⟨rfl, rfl⟩ hP hKK hS hA0 (va_recv hKK.1 hP (ci := 5) (q0 := 0) rfl rfl) rfl hl.1 rfl (Nat.le_of_ble_eq_true rfl) dX5_sees_66 ⟨Nat.zero_le _, Nat.zero_le _⟩ ?_
        refine lv_if_eq (tgt := 76) hx hb dX5_sees_69 (by decide) (fun h => ?_) (fun h => ?_)
        · have hf := (if_pos h).symm.trans hf
          refine lv_iconst (v := 0) hx hb dX5_sees_76 (by decide) ?_
          exact pretI hx hb hr hlk hf dX5_sees_77
        · have hf := (if_neg h).symm.trans hf
          refine lv_iconst (v := 1) hx hb dX5_sees_72 (by decide) ?_
          refine lv_goto (tgt := 77) hx hb dX5_sees_73 (by decide) ?_
          exact pretI hx hb hr hlk hf dX5_sees_77
      have hf := (if_neg h0).symm.trans hf
      by_cases h1 : u3 = 1
      · have hf := (if_pos h1).symm.trans hf
        refine sw_hit (tgt := 78) hx hb dX5_sees_19 h1 (by decide) (by decide) rfl (by decide) ?_
        refine lv_aload_n hx hb dX5_sees_78 rfl (lv_at hl 0 rfl) ?_
        refine lv_iload_n hx hb dX5_sees_79 rfl (lv_at hl 1 rfl) ?_
        refine lv_iload_n hx hb dX5_sees_80 rfl (lv_at hl 2 rfl) ?_
        obtain ⟨r8, hc7, hf⟩ := bd_some hf
        have hP1 := hP.sub (ws' := [moC ad o]) [0] rfl
        refine pCallVI ⟨hx, hb, hml, hown, hts⟩ (mtX5_distance l D cy z ad o u1 u2 r8 hc7) miX5_distance q820 ⟨Nat.le_of_ble_eq_true rfl, Nat.le_of_ble_eq_true rfl⟩ ⟨rfl, rfl⟩ hP1 hKK hS hA0 (va_recv hKK.1 hP1 (ci := 5) (q0 := 0) rfl rfl) rfl hl.1 rfl (Nat.le_of_ble_eq_true rfl) dX5_sees_81 ⟨Nat.zero_le _, Nat.zero_le _⟩ ?_
        exact pretI hx hb hr hlk hf dX5_sees_84
      have hf := (if_neg h1).symm.trans hf
      by_cases h2 : u3 = 2
      · have hf := (if_pos h2).symm.trans hf
        refine sw_hit (tgt := 85) hx hb dX5_sees_19 h2 (by decide) (by decide) rfl (by decide) ?_
        refine lv_aload_n hx hb dX5_sees_85 rfl (lv_at hl 0 rfl) ?_
        refine lv_iload_n hx hb dX5_sees_86 rfl (lv_at hl 1 rfl) ?_
        refine lv_iload_n hx hb dX5_sees_87 rfl (lv_at hl 2 rfl) ?_
        obtain ⟨r10, hc9, hf⟩ := bd_some hf
        refine pCallVI ⟨hx, hb, hml, hown, hts⟩ (mtX5_firstInWay l D cy z ad o w u1 u2 r10 hc9) miX5_firstInWay q933 ⟨Nat.le_of_ble_eq_true rfl, Nat.le_of_ble_eq_true rfl⟩ ⟨rfl, rfl⟩ hP hKK hS hA0 (va_recv hKK.1 hP (ci := 5) (q0 := 0) rfl rfl) rfl hl.1 rfl (Nat.le_of_ble_eq_true rfl) dX5_sees_88 ⟨Nat.zero_le _, Nat.zero_le _⟩ ?_
        exact pretI hx hb hr hlk hf dX5_sees_91
      have hf := (if_neg h2).symm.trans hf
      by_cases h3 : u3 = 3
      · have hf := (if_pos h3).symm.trans hf
        refine sw_hit (tgt := 92) hx hb dX5_sees_19 h3 (by decide) (by decide) rfl (by decide) ?_
        refine lv_aload_n hx hb dX5_sees_92 rfl (lv_at hl 0 rfl) ?_
        refine lv_iload_n hx hb dX5_sees_93 rfl (lv_at hl 1 rfl) ?_
        refine lv_iload_n hx hb dX5_sees_94 rfl (lv_at hl 2 rfl) ?_
        obtain ⟨r12, hc11, hf⟩ := bd_some hf
        have hP1 := hP.sub (ws' := [moC ad o]) [0] rfl
        refine pCallVI ⟨hx, hb, hml, hown, hts⟩ (mtX5_distance l D cy z ad o u1 u2 r12 hc11) miX5_distance q820 ⟨Nat.le_of_ble_eq_true rfl, Nat.le_of_ble_eq_true rfl⟩ ⟨rfl, rfl⟩ hP1 hKK hS hA0 (va_recv hKK.1 hP1 (ci := 5) (q0 := 0) rfl rfl) rfl hl.1 rfl (Nat.le_of_ble_eq_true rfl) dX5_sees_95 ⟨Nat.zero_le _, Nat.zero_le _⟩ ?_
        refine lv_iconst (v := 2) hx hb dX5_sees_98 (by decide) ?_
        refine lv_icmp_ge (tgt := 107) hx hb dX5_sees_99 (by decide) (fun h => ?_) (fun h => ?_)
        · have hf := (if_pos h).symm.trans hf
          refine lv_sipush (v := 1000) hx hb dX5_sees_107 (by decide) ?_
          refine lv_aload_n hx hb dX5_sees_110 rfl (lv_at hl 0 rfl) ?_
          refine lv_aload_n hx hb dX5_sees_111 rfl (lv_at hl 0 rfl) ?_
          refine va_get (D := D) (ci := 5) (v := .ref (ad 2)) (C := RX5) (T := TX5) (N := 24) hx hb hts inX5 hown hKK.1 hP 0 rfl rfl 4 (by decide) (hts _ q677) (fun _ h => h) rfl dX5_sees_112 ?_
          refine lv_iload_n hx hb dX5_sees_115 rfl (lv_at hl 1 rfl) ?_
          refine lv_aload_n hx hb dX5_sees_116 rfl (lv_at hl 0 rfl) ?_
          refine va_get (D := D) (ci := 5) (v := .ref (ad 2)) (C := RX5) (T := TX5) (N := 24) hx hb hts inX5 hown hKK.1 hP 0 rfl rfl 4 (by decide) (hts _ q677) (fun _ h => h) rfl dX5_sees_117 ?_
          refine lv_iload_n hx hb dX5_sees_120 rfl (lv_at hl 1 rfl) ?_
          obtain ⟨hg13, hf⟩ := gd_some hf
          refine va_iald hx hb hKK.1 hP 1 0 rfl rfl (inb_in hg13) dX5_sees_121 ?_
          refine lv_aload_n hx hb dX5_sees_122 rfl (lv_at hl 0 rfl) ?_
          refine va_get (D := D) (ci := 5) (v := .ref (ad 2)) (C := RX5) (T := TX5) (N := 24) hx hb hts inX5 hown hKK.1 hP 0 rfl rfl 4 (by decide) (hts _ q677) (fun _ h => h) rfl dX5_sees_123 ?_
          refine lv_bipush (v := 47) hx hb dX5_sees_126 (by decide) ?_
          refine va_iald hx hb hKK.1 hP 1 0 rfl rfl (inb_in (by decide)) dX5_sees_128 ?_
          refine lv_iadd hx hb dX5_sees_129 ?_
          refine lv_iload_n hx hb dX5_sees_130 rfl (lv_at hl 2 rfl) ?_
          obtain ⟨r15, hc14, hf⟩ := bd_some hf
          refine pCallVI ⟨hx, hb, hml, hown, hts⟩ (mtX5_mostOver l D cy z ad (ad 2) o w u1 ((w u1.toNatClampNeg) + (w (47 : Int32).toNatClampNeg)) u2 r15 hc14) miX5_mostOver q827 ⟨Nat.le_of_ble_eq_true rfl, Nat.le_of_ble_eq_true rfl⟩ ⟨rfl, rfl⟩ hP hKK hS hA0 (va_recv hKK.1 hP (ci := 5) (q0 := 0) rfl rfl) rfl hl.1 rfl (Nat.le_of_ble_eq_true rfl) dX5_sees_131 ⟨Nat.zero_le _, Nat.zero_le _⟩ ?_
          refine lv_iadd hx hb dX5_sees_134 ?_
          exact pretI hx hb hr hlk hf dX5_sees_135
        · have hf := (if_neg h).symm.trans hf
          refine lv_bipush (v := -9) hx hb dX5_sees_102 (by decide) ?_
          refine lv_goto (tgt := 135) hx hb dX5_sees_104 (by decide) ?_
          exact pretI hx hb hr hlk hf dX5_sees_135
      have hf := (if_neg h3).symm.trans hf
      by_cases h4 : u3 = 4
      · have hf := (if_pos h4).symm.trans hf
        refine sw_hit (tgt := 136) hx hb dX5_sees_19 h4 (by decide) (by decide) rfl (by decide) ?_
        refine lv_aload_n hx hb dX5_sees_136 rfl (lv_at hl 0 rfl) ?_
        refine lv_iload_n hx hb dX5_sees_137 rfl (lv_at hl 1 rfl) ?_
        refine lv_iload_n hx hb dX5_sees_138 rfl (lv_at hl 2 rfl) ?_
        obtain ⟨r17, hc16, hf⟩ := bd_some hf
        refine pCallVI ⟨hx, hb, hml, hown, hts⟩ (mtX5_needed l D cy z ad o w u1 u2 r17 hc16) miX5_needed q937 ⟨Nat.le_of_ble_eq_true rfl, Nat.le_of_ble_eq_true rfl⟩ ⟨rfl, rfl⟩ hP hKK hS hA0 (va_recv hKK.1 hP (ci := 5) (q0 := 0) rfl rfl) rfl hl.1 rfl (Nat.le_of_ble_eq_true rfl) dX5_sees_139 ⟨Nat.zero_le _, Nat.zero_le _⟩ ?_
        exact pretI hx hb hr hlk hf dX5_sees_142
      have hf := (if_neg h4).symm.trans hf
      refine lv_tableOut (tgt := 143) hx hb dX5_sees_19 (show (u3).toInt < 0 ∨ 4 < (u3).toInt by have e0 := lv_neT h0 (a := 0) (by decide); have e1 := lv_neT h1 (a := 1) (by decide); have e2 := lv_neT h2 (a := 2) (by decide); have e3 := lv_neT h3 (a := 3) (by decide); have e4 := lv_neT h4 (a := 4) (by decide); omega) (by decide) ?_
      refine lv_bipush (v := -2) hx hb dX5_sees_143 (by decide) ?_
      exact pretI hx hb hr hlk hf dX5_sees_145
    · have hf := (if_pos h).symm.trans hf
      refine lv_iconst (v := -1) hx hb dX5_sees_16 (by decide) ?_
      exact pretI hx hb hr hlk hf dX5_sees_17

abbrev rmX5_view : Room := { frames := 8, cells := 0, slots := 0, locals := 204 }
theorem miX5_view : miV yX5_view cX5_view 2 (some .long) 1 := ⟨q944, q46, q942, q943, by decide +kernel⟩
set_option maxHeartbeats 4000000 in
set_option maxRecDepth 100000 in
theorem mtX5_view (l : Launch) (D : va_G) (cy : Nat → ClassId) (z : zT) (ad : Nat → Nat) (o : tMo) (w : tA) (u1 : Int32) (r0 : Int64) (hf : fX5_view o w u1 = some r0) : pmet l yX5_view cX5_view 2 (some .long) rmX5_view D cy z ([moC ad o, arI cy (ad 2) 51 w]) [.ref (ad 0), .int u1] (some (.long r0)) := by
  refine pmet_of (by decide +kernel) (Nat.le_of_ble_eq_true rfl) (fun p e s m below meth c hx hb hr hml hown hts hlk hP hKK ls hl => ?_)
  have hS : va_S noF s.heap s.heap [] := va_S.rf
  have hA0 : ∀ q, noF q → zA z q := fun _ h => h.elim
  have hown : s.vm.findClass "HillSightModel" = some m.cls := hown
  have hl : lv_has ls 2 [(0, .ref (ad 0)), (1, .int u1)] := hl
  unfold fX5_view at hf
  refine lv_aload_n hx hb dX5_view_0 rfl (lv_at hl 0 rfl) ?_
  refine lv_iload_n hx hb dX5_view_1 rfl (lv_at hl 1 rfl) ?_
  obtain ⟨r2, hc1, hf⟩ := bd_some hf
  have hP1 := hP.sub (ws' := [moC ad o]) [0] rfl
  refine pCallVI ⟨hx, hb, hml, hown, hts⟩ (mtX5_isCell l D cy z ad o u1 r2 hc1) miX5_isCell q865 ⟨Nat.le_of_ble_eq_true rfl, Nat.le_of_ble_eq_true rfl⟩ ⟨rfl, rfl⟩ hP1 hKK hS hA0 (va_recv hKK.1 hP1 (ci := 5) (q0 := 0) rfl rfl) rfl hl.1 rfl (Nat.le_of_ble_eq_true rfl) dX5_view_2 ⟨Nat.zero_le _, Nat.zero_le _⟩ ?_
  refine lv_if_eq (tgt := 27) hx hb dX5_view_5 (by decide) (fun h => ?_) (fun h => ?_)
  · have hf := (if_pos h).symm.trans hf
    refine lv_ldc2 hx hb hown (hts _ q893) dX5_view_27 ?_
    exact pretL hx hb hr hlk hf dX5_view_30
  · have hf := (if_neg h).symm.trans hf
    refine lv_aload_n hx hb dX5_view_8 rfl (lv_at hl 0 rfl) ?_
    refine lv_aload_n hx hb dX5_view_9 rfl (lv_at hl 0 rfl) ?_
    refine va_get (D := D) (ci := 5) (v := .ref (ad 2)) (C := RX5) (T := TX5) (N := 24) hx hb hts inX5 hown hKK.1 hP 0 rfl rfl 4 (by decide) (hts _ q677) (fun _ h => h) rfl dX5_view_10 ?_
    refine lv_iload_n hx hb dX5_view_13 rfl (lv_at hl 1 rfl) ?_
    refine lv_aload_n hx hb dX5_view_14 rfl (lv_at hl 0 rfl) ?_
    refine va_get (D := D) (ci := 5) (v := .ref (ad 2)) (C := RX5) (T := TX5) (N := 24) hx hb hts inX5 hown hKK.1 hP 0 rfl rfl 4 (by decide) (hts _ q677) (fun _ h => h) rfl dX5_view_15 ?_
    refine lv_bipush (v := 47) hx hb dX5_view_18 (by decide) ?_
    refine va_iald hx hb hKK.1 hP 1 0 rfl rfl (inb_in (by decide)) dX5_view_20 ?_
    obtain ⟨r4, hc3, hf⟩ := bd_some hf
    refine pCallVL ⟨hx, hb, hml, hown, hts⟩ (mtX5_viewOf l D cy z ad (ad 2) o w u1 (w (47 : Int32).toNatClampNeg) r4 hc3) miX5_viewOf q812 ⟨Nat.le_of_ble_eq_true rfl, Nat.le_of_ble_eq_true rfl⟩ ⟨rfl, rfl⟩ hP hKK hS hA0 (va_recv hKK.1 hP (ci := 5) (q0 := 0) rfl rfl) rfl hl.1 rfl (Nat.le_of_ble_eq_true rfl) dX5_view_21 ⟨Nat.zero_le _, Nat.zero_le _⟩ ?_
    refine lv_goto (tgt := 30) hx hb dX5_view_24 (by decide) ?_
    exact pretL hx hb hr hlk hf dX5_view_30

abbrev rmX5_watched : Room := { frames := 9, cells := 0, slots := 0, locals := 226 }
theorem miX5_watched : miV yX5_watched cX5_watched 2 (some .long) 1 := ⟨q948, q46, q946, q947, by decide +kernel⟩
set_option maxHeartbeats 4000000 in
set_option maxRecDepth 100000 in
theorem mtX5_watched (l : Launch) (D : va_G) (cy : Nat → ClassId) (z : zT) (ad : Nat → Nat) (o : tMo) (w : tA) (u1 : Int32) (r0 : Int64) (hf : fX5_watched o w u1 = some r0) : pmet l yX5_watched cX5_watched 2 (some .long) rmX5_watched D cy z ([moC ad o, arI cy (ad 2) 51 w]) [.ref (ad 0), .int u1] (some (.long r0)) := by
  refine pmet_of (by decide +kernel) (Nat.le_of_ble_eq_true rfl) (fun p e s m below meth c hx hb hr hml hown hts hlk hP hKK ls hl => ?_)
  have hS : va_S noF s.heap s.heap [] := va_S.rf
  have hA0 : ∀ q, noF q → zA z q := fun _ h => h.elim
  have hown : s.vm.findClass "HillSightModel" = some m.cls := hown
  have hl : lv_has ls 2 [(0, .ref (ad 0)), (1, .int u1)] := hl
  unfold fX5_watched at hf
  refine lv_aload_n hx hb dX5_watched_0 rfl (lv_at hl 0 rfl) ?_
  refine lv_iload_n hx hb dX5_watched_1 rfl (lv_at hl 1 rfl) ?_
  obtain ⟨r2, hc1, hf⟩ := bd_some hf
  refine pCallVI ⟨hx, hb, hml, hown, hts⟩ (mtX5_isTower l D cy z ad o w u1 r2 hc1) miX5_isTower q885 ⟨Nat.le_of_ble_eq_true rfl, Nat.le_of_ble_eq_true rfl⟩ ⟨rfl, rfl⟩ hP hKK hS hA0 (va_recv hKK.1 hP (ci := 5) (q0 := 0) rfl rfl) rfl hl.1 rfl (Nat.le_of_ble_eq_true rfl) dX5_watched_2 ⟨Nat.zero_le _, Nat.zero_le _⟩ ?_
  refine lv_if_eq (tgt := 20) hx hb dX5_watched_5 (by decide) (fun h => ?_) (fun h => ?_)
  · have hf := (if_pos h).symm.trans hf
    refine lv_ldc2 hx hb hown (hts _ q893) dX5_watched_20 ?_
    exact pretL hx hb hr hlk hf dX5_watched_23
  · have hf := (if_neg h).symm.trans hf
    refine lv_aload_n hx hb dX5_watched_8 rfl (lv_at hl 0 rfl) ?_
    refine lv_aload_n hx hb dX5_watched_9 rfl (lv_at hl 0 rfl) ?_
    refine va_get (D := D) (ci := 5) (v := .ref (ad 2)) (C := RX5) (T := TX5) (N := 24) hx hb hts inX5 hown hKK.1 hP 0 rfl rfl 4 (by decide) (hts _ q677) (fun _ h => h) rfl dX5_watched_10 ?_
    refine lv_iload_n hx hb dX5_watched_13 rfl (lv_at hl 1 rfl) ?_
    obtain ⟨r4, hc3, hf⟩ := bd_some hf
    refine pCallVL ⟨hx, hb, hml, hown, hts⟩ (mtX5_watchedBy l D cy z ad (ad 2) o w u1 r4 hc3) miX5_watchedBy q808 ⟨Nat.le_of_ble_eq_true rfl, Nat.le_of_ble_eq_true rfl⟩ ⟨rfl, rfl⟩ hP hKK hS hA0 (va_recv hKK.1 hP (ci := 5) (q0 := 0) rfl rfl) rfl hl.1 rfl (Nat.le_of_ble_eq_true rfl) dX5_watched_14 ⟨Nat.zero_le _, Nat.zero_le _⟩ ?_
    refine lv_goto (tgt := 23) hx hb dX5_watched_17 (by decide) ?_
    exact pretL hx hb hr hlk hf dX5_watched_23

abbrev rmX5_joined : Room := { frames := 9, cells := 0, slots := 0, locals := 226 }
theorem miX5_joined : miV yX5_joined cX5_joined 7 (some .long) 1 := ⟨q952, q46, q950, q951, by decide +kernel⟩
set_option maxHeartbeats 4000000 in
set_option maxRecDepth 100000 in
theorem mtX5_joined (l : Launch) (D : va_G) (cy : Nat → ClassId) (z : zT) (ad : Nat → Nat) (o : tMo) (w : tA) (u1 : Int32) (r0 : Int64) (hf : fX5_joined o w u1 = some r0) : pmet l yX5_joined cX5_joined 7 (some .long) rmX5_joined D cy z ([moC ad o, arI cy (ad 2) 51 w]) [.ref (ad 0), .int u1] (some (.long r0)) := by
  refine pmet_of (by decide +kernel) (Nat.le_of_ble_eq_true rfl) (fun p e s m below meth c hx hb hr hml hown hts hlk hP hKK ls hl => ?_)
  have hS : va_S noF s.heap s.heap [] := va_S.rf
  have hA0 : ∀ q, noF q → zA z q := fun _ h => h.elim
  have hown : s.vm.findClass "HillSightModel" = some m.cls := hown
  have hl : lv_has ls 7 [(0, .ref (ad 0)), (1, .int u1)] := hl
  have w_21 : ∀ (g1_21 : Int32) (k105 : Int64 → Option (Int64)) (hk105 : ∀ (v2_21 : Int64) (ls : Array Slot), k105 v2_21 = some r0 → lv_has ls 7 [(2, .long v2_21)] → W p l e rmX5_joined s m ([.ref (ad 0), .int u1] : List Value).toArray below meth c s.heap [] 0 0 (MQ below (pQ (some (.long r0))) ([.ref (ad 0), .int u1] : List Value).toArray s 0 0 noF) (F0 m 105 ls [])) (n : Nat) (v2_21 : Int64) (v4_21 : Int32) (ls : Array Slot), fX5_joined_21 o w g1_21 k105 n v2_21 v4_21 = some r0 → lv_has ls 7 [(0, .ref (ad 0)), (1, .int g1_21), (2, .long v2_21), (4, .int v4_21)] → W p l e rmX5_joined s m ([.ref (ad 0), .int u1] : List Value).toArray below meth c s.heap [] 0 0 (MQ below (pQ (some (.long r0))) ([.ref (ad 0), .int u1] : List Value).toArray s 0 0 noF) (F0 m 21 ls []) := by
    intro g1_21 k105 hk105 n
    induction n with
    | zero =>
      intro v2_21 v4_21 ls hf hl
      cases (show (none : Option (Int64)) = some r0 from hf)
    | succ n ih =>
      intro v2_21 v4_21 ls hf hl
      rw [fX5_joined_21] at hf
      refine lv_iload hx hb dX5_joined_21 (lv_at hl 3 rfl) ?_
      refine lv_aload_n hx hb dX5_joined_23 rfl (lv_at hl 0 rfl) ?_
      refine va_get (D := D) (ci := 5) (v := .ref (ad 2)) (C := RX5) (T := TX5) (N := 24) hx hb hts inX5 hown hKK.1 hP 0 rfl rfl 4 (by decide) (hts _ q677) (fun _ h => h) rfl dX5_joined_24 ?_
      refine lv_bipush (v := 36) hx hb dX5_joined_27 (by decide) ?_
      refine va_iald hx hb hKK.1 hP 1 0 rfl rfl (inb_in (by decide)) dX5_joined_29 ?_
      refine lv_icmp_ge (tgt := 105) hx hb dX5_joined_30 (by decide) (fun h => ?_) (fun h => ?_)
      · have hf := (if_pos h).symm.trans hf
        exact hk105 v2_21 ls hf (lv_sub hl [2] rfl)
      · have hf := (if_neg h).symm.trans hf
        refine lv_aload_n hx hb dX5_joined_33 rfl (lv_at hl 0 rfl) ?_
        refine lv_aload_n hx hb dX5_joined_34 rfl (lv_at hl 0 rfl) ?_
        refine va_get (D := D) (ci := 5) (v := .ref (ad 2)) (C := RX5) (T := TX5) (N := 24) hx hb hts inX5 hown hKK.1 hP 0 rfl rfl 4 (by decide) (hts _ q677) (fun _ h => h) rfl dX5_joined_35 ?_
        refine lv_iload hx hb dX5_joined_38 (lv_at hl 3 rfl) ?_
        obtain ⟨r4, hc3, hf⟩ := bd_some hf
        refine pCallVL ⟨hx, hb, hml, hown, hts⟩ (mtX5_watchedBy l D cy z ad (ad 2) o w v4_21 r4 hc3) miX5_watchedBy q808 ⟨Nat.le_of_ble_eq_true rfl, Nat.le_of_ble_eq_true rfl⟩ ⟨rfl, rfl⟩ hP hKK hS hA0 (va_recv hKK.1 hP (ci := 5) (q0 := 0) rfl rfl) rfl hl.1 rfl (Nat.le_of_ble_eq_true rfl) dX5_joined_40 ⟨Nat.zero_le _, Nat.zero_le _⟩ ?_
        refine lv_lstore (lv' := [(5, .long r4), (0, .ref (ad 0)), (1, .int g1_21), (2, .long v2_21), (4, .int v4_21)]) hx hb dX5_joined_43 hl (by decide) rfl (fun ls hl => ?_)
        refine lv_iload hx hb dX5_joined_45 (lv_at hl 4 rfl) ?_
        refine lv_if_ne (tgt := 55) hx hb dX5_joined_47 (by decide) (fun h => ?_) (fun h => ?_)
        · have hf := (if_neg h).symm.trans hf
          refine lv_iload_n hx hb dX5_joined_55 rfl (lv_at hl 2 rfl) ?_
          refine lv_if_ne (tgt := 66) hx hb dX5_joined_56 (by decide) (fun h => ?_) (fun h => ?_)
          · have hf := (if_neg h).symm.trans hf
            refine lv_iload_n hx hb dX5_joined_66 rfl (lv_at hl 2 rfl) ?_
            refine lv_iconst (v := 1) hx hb dX5_joined_67 (by decide) ?_
            refine lv_icmp_ne (tgt := 78) hx hb dX5_joined_68 (by decide) (fun h => ?_) (fun h => ?_)
            · have hf := (if_neg h).symm.trans hf
              refine lv_iload_n hx hb dX5_joined_78 rfl (lv_at hl 2 rfl) ?_
              refine lv_iconst (v := 2) hx hb dX5_joined_79 (by decide) ?_
              refine lv_icmp_ne (tgt := 90) hx hb dX5_joined_80 (by decide) (fun h => ?_) (fun h => ?_)
              · have hf := (if_neg h).symm.trans hf
                refine lv_lload_n hx hb dX5_joined_90 rfl (lv_at hl 3 rfl) ?_
                refine lv_lload hx hb dX5_joined_91 (lv_at hl 0 rfl) ?_
                refine lv_ldc2 hx hb hown (hts _ q893) dX5_joined_93 ?_
                refine lv_lxor hx hb dX5_joined_96 ?_
                refine lv_land hx hb dX5_joined_97 ?_
                refine nm_l hf (fun x5 hf => ?_)
                refine lv_lstore_n (lv' := [(2, .long x5), (5, .long r4), (0, .ref (ad 0)), (1, .int g1_21), (4, .int v4_21)]) hx hb dX5_joined_98 rfl hl (by decide) rfl (fun ls hl => ?_)
                obtain ⟨x6, ex6, hf⟩ := nm_ex hf
                refine lv_iinc (v := x6) (lv' := [(4, .int x6), (2, .long x5), (5, .long r4), (0, .ref (ad 0)), (1, .int g1_21)]) hx hb dX5_joined_99 hl (k := 4) rfl (Eq.trans rfl ex6) (by decide) rfl (fun ls hl => ?_)
                refine lv_goto (tgt := 21) hx hb dX5_joined_102 (by decide) ?_
                exact ih x5 x6 ls hf (lv_sub hl [3, 4, 1, 0] rfl)
              · have hf := (if_pos h).symm.trans hf
                refine lv_lload_n hx hb dX5_joined_83 rfl (lv_at hl 3 rfl) ?_
                refine lv_lload hx hb dX5_joined_84 (lv_at hl 0 rfl) ?_
                refine lv_lxor hx hb dX5_joined_86 ?_
                refine lv_goto (tgt := 98) hx hb dX5_joined_87 (by decide) ?_
                refine nm_l hf (fun x7 hf => ?_)
                refine lv_lstore_n (lv' := [(2, .long x7), (5, .long r4), (0, .ref (ad 0)), (1, .int g1_21), (4, .int v4_21)]) hx hb dX5_joined_98 rfl hl (by decide) rfl (fun ls hl => ?_)
                obtain ⟨x8, ex8, hf⟩ := nm_ex hf
                refine lv_iinc (v := x8) (lv' := [(4, .int x8), (2, .long x7), (5, .long r4), (0, .ref (ad 0)), (1, .int g1_21)]) hx hb dX5_joined_99 hl (k := 4) rfl (Eq.trans rfl ex8) (by decide) rfl (fun ls hl => ?_)
                refine lv_goto (tgt := 21) hx hb dX5_joined_102 (by decide) ?_
                exact ih x7 x8 ls hf (lv_sub hl [3, 4, 1, 0] rfl)
            · have hf := (if_pos h).symm.trans hf
              refine lv_lload_n hx hb dX5_joined_71 rfl (lv_at hl 3 rfl) ?_
              refine lv_lload hx hb dX5_joined_72 (lv_at hl 0 rfl) ?_
              refine lv_land hx hb dX5_joined_74 ?_
              refine lv_goto (tgt := 98) hx hb dX5_joined_75 (by decide) ?_
              refine nm_l hf (fun x9 hf => ?_)
              refine lv_lstore_n (lv' := [(2, .long x9), (5, .long r4), (0, .ref (ad 0)), (1, .int g1_21), (4, .int v4_21)]) hx hb dX5_joined_98 rfl hl (by decide) rfl (fun ls hl => ?_)
              obtain ⟨x10, ex10, hf⟩ := nm_ex hf
              refine lv_iinc (v := x10) (lv' := [(4, .int x10), (2, .long x9), (5, .long r4), (0, .ref (ad 0)), (1, .int g1_21)]) hx hb dX5_joined_99 hl (k := 4) rfl (Eq.trans rfl ex10) (by decide) rfl (fun ls hl => ?_)
              refine lv_goto (tgt := 21) hx hb dX5_joined_102 (by decide) ?_
              exact ih x9 x10 ls hf (lv_sub hl [3, 4, 1, 0] rfl)
          · have hf := (if_pos h).symm.trans hf
            refine lv_lload_n hx hb dX5_joined_59 rfl (lv_at hl 3 rfl) ?_
            refine lv_lload hx hb dX5_joined_60 (lv_at hl 0 rfl) ?_
            refine lv_lor hx hb dX5_joined_62 ?_
            refine lv_goto (tgt := 98) hx hb dX5_joined_63 (by decide) ?_
            refine nm_l hf (fun x11 hf => ?_)
            refine lv_lstore_n (lv' := [(2, .long x11), (5, .long r4), (0, .ref (ad 0)), (1, .int g1_21), (4, .int v4_21)]) hx hb dX5_joined_98 rfl hl (by decide) rfl (fun ls hl => ?_)
            obtain ⟨x12, ex12, hf⟩ := nm_ex hf
            refine lv_iinc (v := x12) (lv' := [(4, .int x12), (2, .long x11), (5, .long r4), (0, .ref (ad 0)), (1, .int g1_21)]) hx hb dX5_joined_99 hl (k := 4) rfl (Eq.trans rfl ex12) (by decide) rfl (fun ls hl => ?_)
            refine lv_goto (tgt := 21) hx hb dX5_joined_102 (by decide) ?_
            exact ih x11 x12 ls hf (lv_sub hl [3, 4, 1, 0] rfl)
        · have hf := (if_pos h).symm.trans hf
          refine lv_lload hx hb dX5_joined_50 (lv_at hl 0 rfl) ?_
          refine lv_goto (tgt := 98) hx hb dX5_joined_52 (by decide) ?_
          refine lv_lstore_n (lv' := [(2, .long r4), (5, .long r4), (0, .ref (ad 0)), (1, .int g1_21), (4, .int v4_21)]) hx hb dX5_joined_98 rfl hl (by decide) rfl (fun ls hl => ?_)
          obtain ⟨x13, ex13, hf⟩ := nm_ex hf
          refine lv_iinc (v := x13) (lv' := [(4, .int x13), (2, .long r4), (5, .long r4), (0, .ref (ad 0)), (1, .int g1_21)]) hx hb dX5_joined_99 hl (k := 4) rfl (Eq.trans rfl ex13) (by decide) rfl (fun ls hl => ?_)
          refine lv_goto (tgt := 21) hx hb dX5_joined_102 (by decide) ?_
          exact ih r4 x13 ls hf (lv_sub hl [3, 4, 1, 0] rfl)
  unfold fX5_joined at hf
  refine lv_iload_n hx hb dX5_joined_0 rfl (lv_at hl 1 rfl) ?_
  refine lv_i2l hx hb dX5_joined_1 rfl ?_
  refine lv_lconst (v := 0) hx hb dX5_joined_2 (by decide) ?_
  refine lv_ldc2 hx hb hown (hts _ q924) dX5_joined_3 ?_
  obtain ⟨r2, hc1, hf⟩ := bd_some hf
  have hP1 := hP.sub (ws' := []) [] rfl
  refine pCallSI ⟨hx, hb, hml, hown, hts⟩ (mtX5_in l D cy z u1.toInt64 (0 : Int64) (3 : Int64) r2 hc1) miX5_in q751 ⟨Nat.le_of_ble_eq_true rfl, Nat.le_of_ble_eq_true rfl⟩ ⟨rfl, rfl⟩ hP1 hKK hS hA0 rfl hl.1 rfl (Nat.le_of_ble_eq_true rfl) dX5_joined_6 ⟨Nat.zero_le _, Nat.zero_le _⟩ ?_
  refine lv_if_ne (tgt := 16) hx hb dX5_joined_9 (by decide) (fun h => ?_) (fun h => ?_)
  · have hf := (if_neg h).symm.trans hf
    refine lv_lconst (v := 0) hx hb dX5_joined_16 (by decide) ?_
    refine lv_lstore_n (lv' := [(2, .long (0 : Int64)), (0, .ref (ad 0)), (1, .int u1)]) hx hb dX5_joined_17 rfl hl (by decide) rfl (fun ls hl => ?_)
    refine lv_iconst (v := 0) hx hb dX5_joined_18 (by decide) ?_
    refine lv_istore (lv' := [(4, .int (0 : Int32)), (2, .long (0 : Int64)), (0, .ref (ad 0)), (1, .int u1)]) hx hb dX5_joined_19 hl (by decide) rfl (fun ls hl => ?_)
    refine w_21 u1 _ ?_ _ (0 : Int64) (0 : Int32) ls hf (lv_sub hl [2, 3, 1, 0] rfl)
    · intro y14 ls hf hl
      refine lv_lload_n hx hb dX5_joined_105 rfl (lv_at hl 0 rfl) ?_
      exact pretL hx hb hr hlk hf dX5_joined_106
  · have hf := (if_pos h).symm.trans hf
    refine lv_ldc2 hx hb hown (hts _ q953) dX5_joined_12 ?_
    exact pretL hx hb hr hlk hf dX5_joined_15

abbrev rmX5_hollow : Room := { frames := 11, cells := 0, slots := 0, locals := 276 }
theorem miX5_hollow : miV yX5_hollow cX5_hollow 5 (some .long) 1 := ⟨q957, q46, q955, q956, by decide +kernel⟩
set_option maxHeartbeats 4000000 in
set_option maxRecDepth 100000 in
theorem mtX5_hollow (l : Launch) (D : va_G) (cy : Nat → ClassId) (z : zT) (ad : Nat → Nat) (M : tM) (u1 : Int32) (r0 : Int64) (M0 : tM) (hf : fX5_hollow M u1 = some (r0, M0)) : mmet l yX5_hollow cX5_hollow 5 (some .long) rmX5_hollow D cy z (wM cy ad M) (wM cy ad M0) [.ref (ad 0), .int u1] (some (.long r0)) := by
  refine mmet_of (by decide +kernel) (Nat.le_of_ble_eq_true rfl) (fun p e s m below meth c hx hb hr hml hown hts hlk hP hD hS hA0 hKK ls hl => ?_)
  have hown : s.vm.findClass "HillSightModel" = some m.cls := hown
  have hl : lv_has ls 5 [(0, .ref (ad 0)), (1, .int u1)] := hl
  have w_29 : ∀ (g1_29 : Int32) (k82 : Int64 → tM → Option (Int64 × tM)) (hk82 : ∀ (v2_29 : Int64) (M_29 : tM) (H : Heap) (locs : List Loc) (ls : Array Slot), k82 v2_29 M_29 = some (r0, M0) → va_P D vwCl (wM cy ad M_29) H → va_D (adr (wM cy ad M)) (wM cy ad M_29) → va_S (adr (wM cy ad M)) s.heap H locs → lv_has ls 5 [(2, .long v2_29)] → W p l e rmX5_hollow s m ([.ref (ad 0), .int u1] : List Value).toArray below meth c H locs 0 0 (MQ below (mQ D (wM cy ad M) (wM cy ad M0) (some (.long r0))) ([.ref (ad 0), .int u1] : List Value).toArray s 0 0 (adr (wM cy ad M))) (F0 m 82 ls [])) (n : Nat) (v2_29 : Int64) (v4_29 : Int32) (M_29 : tM) (H : Heap) (locs : List Loc) (ls : Array Slot), fX5_hollow_29 g1_29 k82 n v2_29 v4_29 M_29 = some (r0, M0) → va_P D vwCl (wM cy ad M_29) H → va_D (adr (wM cy ad M)) (wM cy ad M_29) → va_S (adr (wM cy ad M)) s.heap H locs → lv_has ls 5 [(0, .ref (ad 0)), (1, .int g1_29), (2, .long v2_29), (4, .int v4_29)] → W p l e rmX5_hollow s m ([.ref (ad 0), .int u1] : List Value).toArray below meth c H locs 0 0 (MQ below (mQ D (wM cy ad M) (wM cy ad M0) (some (.long r0))) ([.ref (ad 0), .int u1] : List Value).toArray s 0 0 (adr (wM cy ad M))) (F0 m 29 ls []) := by
    intro g1_29 k82 hk82 n
    induction n with
    | zero =>
      intro v2_29 v4_29 M_29 H locs ls hf hP hD hS hl
      cases (show (none : Option (Int64 × tM)) = some (r0, M0) from hf)
    | succ n ih =>
      intro v2_29 v4_29 M_29 H locs ls hf hP hD hS hl
      rw [fX5_hollow_29] at hf
      refine lv_iload hx hb dX5_hollow_29 (lv_at hl 3 rfl) ?_
      refine lv_aload_n hx hb dX5_hollow_31 rfl (lv_at hl 0 rfl) ?_
      obtain ⟨r6, hc5, hf⟩ := bd_some hf
      have hP1 := hP.sub (ws' := [moC ad M_29.1]) [0] rfl
      refine pCallVI ⟨hx, hb, hml, hown, hts⟩ (mtX5_cells l D cy z ad M_29.1 r6 hc5) miX5_cells q792 ⟨Nat.le_of_ble_eq_true rfl, Nat.le_of_ble_eq_true rfl⟩ ⟨rfl, rfl⟩ hP1 hKK hS hA0 (va_recv hKK.1 hP1 (ci := 5) (q0 := 0) rfl rfl) rfl hl.1 rfl (Nat.le_of_ble_eq_true rfl) dX5_hollow_32 ⟨Nat.zero_le _, Nat.zero_le _⟩ ?_
      refine lv_icmp_ge (tgt := 82) hx hb dX5_hollow_35 (by decide) (fun h => ?_) (fun h => ?_)
      · have hf := (if_pos h).symm.trans hf
        exact hk82 v2_29 M_29 _ _ ls hf hP hD hS (lv_sub hl [2] rfl)
      · have hf := (if_neg h).symm.trans hf
        refine lv_lload_n hx hb dX5_hollow_38 rfl (lv_at hl 2 rfl) ?_
        refine lv_aload_n hx hb dX5_hollow_39 rfl (lv_at hl 0 rfl) ?_
        refine va_get (D := D) (ci := 5) (v := .ref (ad 12)) (C := RX5) (T := TX5) (N := 24) hx hb hts inX5 hown hKK.1 hP 0 rfl rfl 23 (by decide) (hts _ q696) (fun _ h => h) rfl dX5_hollow_40 ?_
        refine lv_iload hx hb dX5_hollow_43 (lv_at hl 3 rfl) ?_
        obtain ⟨hg7, hf⟩ := gd_some hf
        refine va_iald hx hb hKK.1 hP 12 0 rfl rfl (inb_in hg7) dX5_hollow_45 ?_
        refine lv_bipush (v := -9) hx hb dX5_hollow_46 (by decide) ?_
        refine lv_icmp_eq (tgt := 73) hx hb dX5_hollow_48 (by decide) (fun h => ?_) (fun h => ?_)
        · have hf := (if_pos h).symm.trans hf
          refine lv_lconst (v := 0) hx hb dX5_hollow_73 (by decide) ?_
          refine lv_lor hx hb dX5_hollow_74 ?_
          refine nm_l hf (fun x8 hf => ?_)
          refine lv_lstore_n (lv' := [(2, .long x8), (0, .ref (ad 0)), (1, .int g1_29), (4, .int v4_29)]) hx hb dX5_hollow_75 rfl hl (by decide) rfl (fun ls hl => ?_)
          obtain ⟨x9, ex9, hf⟩ := nm_ex hf
          refine lv_iinc (v := x9) (lv' := [(4, .int x9), (2, .long x8), (0, .ref (ad 0)), (1, .int g1_29)]) hx hb dX5_hollow_76 hl (k := 3) rfl (Eq.trans rfl ex9) (by decide) rfl (fun ls hl => ?_)
          refine lv_goto (tgt := 29) hx hb dX5_hollow_79 (by decide) ?_
          exact ih x8 x9 M_29 _ _ ls hf hP hD hS (lv_sub hl [2, 3, 1, 0] rfl)
        · have hf := (if_neg h).symm.trans hf
          refine lv_aload_n hx hb dX5_hollow_51 rfl (lv_at hl 0 rfl) ?_
          refine lv_aload_n hx hb dX5_hollow_52 rfl (lv_at hl 0 rfl) ?_
          refine va_get (D := D) (ci := 5) (v := .ref (ad 12)) (C := RX5) (T := TX5) (N := 24) hx hb hts inX5 hown hKK.1 hP 0 rfl rfl 23 (by decide) (hts _ q696) (fun _ h => h) rfl dX5_hollow_53 ?_
          refine lv_iload hx hb dX5_hollow_56 (lv_at hl 3 rfl) ?_
          obtain ⟨hg10, hf⟩ := gd_some hf
          refine va_iald hx hb hKK.1 hP 12 0 rfl rfl (inb_in hg10) dX5_hollow_58 ?_
          obtain ⟨r12, hc11, hf⟩ := bd_some hf
          have hP1 := hP.sub (ws' := [moC ad M_29.1, arI cy (ad 12) 36 M_29.2.2.2.2.2.2.2.2.2.2.2.2]) [0, 12] rfl
          refine pCallVI ⟨hx, hb, hml, hown, hts⟩ (mtX5_numberOf l D cy z ad M_29.1 M_29.2.2.2.2.2.2.2.2.2.2.2.2 (M_29.2.2.2.2.2.2.2.2.2.2.2.2 v4_29.toNatClampNeg) r12 hc11) miX5_numberOf q877 ⟨Nat.le_of_ble_eq_true rfl, Nat.le_of_ble_eq_true rfl⟩ ⟨rfl, rfl⟩ hP1 hKK hS hA0 (va_recv hKK.1 hP1 (ci := 5) (q0 := 0) rfl rfl) rfl hl.1 rfl (Nat.le_of_ble_eq_true rfl) dX5_hollow_59 ⟨Nat.zero_le _, Nat.zero_le _⟩ ?_
          refine lv_iload_n hx hb dX5_hollow_62 rfl (lv_at hl 1 rfl) ?_
          refine lv_icmp_ne (tgt := 73) hx hb dX5_hollow_63 (by decide) (fun h => ?_) (fun h => ?_)
          · have hf := (if_neg h).symm.trans hf
            refine lv_lconst (v := 0) hx hb dX5_hollow_73 (by decide) ?_
            refine lv_lor hx hb dX5_hollow_74 ?_
            refine nm_l hf (fun x13 hf => ?_)
            refine lv_lstore_n (lv' := [(2, .long x13), (0, .ref (ad 0)), (1, .int g1_29), (4, .int v4_29)]) hx hb dX5_hollow_75 rfl hl (by decide) rfl (fun ls hl => ?_)
            obtain ⟨x14, ex14, hf⟩ := nm_ex hf
            refine lv_iinc (v := x14) (lv' := [(4, .int x14), (2, .long x13), (0, .ref (ad 0)), (1, .int g1_29)]) hx hb dX5_hollow_76 hl (k := 3) rfl (Eq.trans rfl ex14) (by decide) rfl (fun ls hl => ?_)
            refine lv_goto (tgt := 29) hx hb dX5_hollow_79 (by decide) ?_
            exact ih x13 x14 M_29 _ _ ls hf hP hD hS (lv_sub hl [2, 3, 1, 0] rfl)
          · have hf := (if_pos h).symm.trans hf
            refine lv_lconst (v := 1) hx hb dX5_hollow_66 (by decide) ?_
            refine lv_iload hx hb dX5_hollow_67 (lv_at hl 3 rfl) ?_
            refine lv_lshl hx hb dX5_hollow_69 rfl ?_
            refine lv_goto (tgt := 74) hx hb dX5_hollow_70 (by decide) ?_
            refine lv_lor hx hb dX5_hollow_74 ?_
            refine nm_l hf (fun x15 hf => ?_)
            refine lv_lstore_n (lv' := [(2, .long x15), (0, .ref (ad 0)), (1, .int g1_29), (4, .int v4_29)]) hx hb dX5_hollow_75 rfl hl (by decide) rfl (fun ls hl => ?_)
            obtain ⟨x16, ex16, hf⟩ := nm_ex hf
            refine lv_iinc (v := x16) (lv' := [(4, .int x16), (2, .long x15), (0, .ref (ad 0)), (1, .int g1_29)]) hx hb dX5_hollow_76 hl (k := 3) rfl (Eq.trans rfl ex16) (by decide) rfl (fun ls hl => ?_)
            refine lv_goto (tgt := 29) hx hb dX5_hollow_79 (by decide) ?_
            exact ih x15 x16 M_29 _ _ ls hf hP hD hS (lv_sub hl [2, 3, 1, 0] rfl)
  unfold fX5_hollow at hf
  refine lv_iload_n hx hb dX5_hollow_0 rfl (lv_at hl 1 rfl) ?_
  refine lv_i2l hx hb dX5_hollow_1 rfl ?_
  refine lv_lconst (v := 0) hx hb dX5_hollow_2 (by decide) ?_
  refine lv_aload_n hx hb dX5_hollow_3 rfl (lv_at hl 0 rfl) ?_
  refine lv_aload_n hx hb dX5_hollow_4 rfl (lv_at hl 0 rfl) ?_
  refine va_get (D := D) (ci := 5) (v := .ref (ad 2)) (C := RX5) (T := TX5) (N := 24) hx hb hts inX5 hown hKK.1 hP 0 rfl rfl 4 (by decide) (hts _ q677) (fun _ h => h) rfl dX5_hollow_5 ?_
  obtain ⟨y2, hc1, hf⟩ := bd_some hf
  have hP1 := hP.sub (ws' := [moC ad M.1, arI cy (ad 2) 51 M.2.2.1, arI cy (ad 12) 36 M.2.2.2.2.2.2.2.2.2.2.2.2]) [0, 2, 12] rfl
  have hD1 := hD.sub (ws' := [moC ad M.1, arI cy (ad 2) 51 M.2.2.1, arI cy (ad 12) 36 M.2.2.2.2.2.2.2.2.2.2.2.2]) [0, 2, 12] (by decide) rfl
  refine mCallVI ⟨hx, hb, hml, hown, hts⟩ (mtX5_layHollows l D cy z ad (ad 2) M.1 M.2.2.1 M.2.2.2.2.2.2.2.2.2.2.2.2 y2.1 y2.2 hc1) miX5_layHollows q853 ⟨Nat.le_of_ble_eq_true rfl, Nat.le_of_ble_eq_true rfl⟩ ⟨rfl, rfl⟩ hP1 hD1 hKK hA0 (va_recv hKK.1 hP1 (ci := 5) (q0 := 0) rfl rfl) rfl hl.1 rfl (Nat.le_of_ble_eq_true rfl) dX5_hollow_8 ⟨Nat.zero_le _, Nat.zero_le _⟩ hS hP hD [0, 2, 12] rfl rfl (ws' := wM cy ad (M.1, M.2.1, M.2.2.1, M.2.2.2.1, M.2.2.2.2.1, M.2.2.2.2.2.1, M.2.2.2.2.2.2.1, M.2.2.2.2.2.2.2.1, M.2.2.2.2.2.2.2.2.1, M.2.2.2.2.2.2.2.2.2.1, M.2.2.2.2.2.2.2.2.2.2.1, M.2.2.2.2.2.2.2.2.2.2.2.1, y2.2)) rfl (fun H locs hP hD hS => ?_)
  refine lv_iconst (v := 1) hx hb dX5_hollow_11 (by decide) ?_
  refine lv_isub hx hb dX5_hollow_12 ?_
  refine lv_i2l hx hb dX5_hollow_13 rfl ?_
  obtain ⟨r4, hc3, hf⟩ := bd_some hf
  have hP1 := hP.sub (ws' := []) [] rfl
  refine pCallSI ⟨hx, hb, hml, hown, hts⟩ (mtX5_in l D cy z u1.toInt64 (0 : Int64) ((y2.1 - (1 : Int32)).toInt64) r4 hc3) miX5_in q751 ⟨Nat.le_of_ble_eq_true rfl, Nat.le_of_ble_eq_true rfl⟩ ⟨rfl, rfl⟩ hP1 hKK hS hA0 rfl hl.1 rfl (Nat.le_of_ble_eq_true rfl) dX5_hollow_14 ⟨Nat.zero_le _, Nat.zero_le _⟩ ?_
  refine lv_if_ne (tgt := 24) hx hb dX5_hollow_17 (by decide) (fun h => ?_) (fun h => ?_)
  · have hf := (if_neg h).symm.trans hf
    refine lv_lconst (v := 0) hx hb dX5_hollow_24 (by decide) ?_
    refine lv_lstore_n (lv' := [(2, .long (0 : Int64)), (0, .ref (ad 0)), (1, .int u1)]) hx hb dX5_hollow_25 rfl hl (by decide) rfl (fun ls hl => ?_)
    refine lv_iconst (v := 0) hx hb dX5_hollow_26 (by decide) ?_
    refine lv_istore (lv' := [(4, .int (0 : Int32)), (2, .long (0 : Int64)), (0, .ref (ad 0)), (1, .int u1)]) hx hb dX5_hollow_27 hl (by decide) rfl (fun ls hl => ?_)
    refine w_29 u1 _ ?_ _ (0 : Int64) (0 : Int32) (M.1, M.2.1, M.2.2.1, M.2.2.2.1, M.2.2.2.2.1, M.2.2.2.2.2.1, M.2.2.2.2.2.2.1, M.2.2.2.2.2.2.2.1, M.2.2.2.2.2.2.2.2.1, M.2.2.2.2.2.2.2.2.2.1, M.2.2.2.2.2.2.2.2.2.2.1, M.2.2.2.2.2.2.2.2.2.2.2.1, y2.2) _ _ ls hf hP hD hS (lv_sub hl [2, 3, 1, 0] rfl)
    · intro y17 M18 H locs ls hf hP hD hS hl
      refine lv_lload_n hx hb dX5_hollow_82 rfl (lv_at hl 0 rfl) ?_
      cases hf
      exact mretL hx hb hr hlk hP hS dX5_hollow_83
  · have hf := (if_pos h).symm.trans hf
    refine lv_ldc2 hx hb hown (hts _ q893) dX5_hollow_20 ?_
    cases hf
    exact mretL hx hb hr hlk hP hS dX5_hollow_23

abbrev rmX5_last : Room := { frames := 7, cells := 0, slots := 0, locals := 178 }
theorem miX5_last : miV yX5_last cX5_last 9 (some .int) 2 := ⟨q961, q46, q959, q960, by decide +kernel⟩
set_option maxHeartbeats 4000000 in
set_option maxRecDepth 100000 in
theorem mtX5_last (l : Launch) (D : va_G) (cy : Nat → ClassId) (z : zT) (ad : Nat → Nat) (o : tMo) (w : tA) (u1 : Int32) (u2 : Int32) (r0 : Int32) (hf : fX5_last o w u1 u2 = some r0) : pmet l yX5_last cX5_last 9 (some .int) rmX5_last D cy z ([moC ad o, arI cy (ad 2) 51 w]) [.ref (ad 0), .int u1, .int u2] (some (.int r0)) := by
  refine pmet_of (by decide +kernel) (Nat.le_of_ble_eq_true rfl) (fun p e s m below meth c hx hb hr hml hown hts hlk hP hKK ls hl => ?_)
  have hS : va_S noF s.heap s.heap [] := va_S.rf
  have hA0 : ∀ q, noF q → zA z q := fun _ h => h.elim
  have hown : s.vm.findClass "HillSightModel" = some m.cls := hown
  have hl : lv_has ls 9 [(0, .ref (ad 0)), (1, .int u1), (2, .int u2)] := hl
  have w_104 : ∀ (g1_104 : Int32) (g3_104 : Int32) (g4_104 : Int32) (k196 : Int32 → Option (Int32)) (hk196 : ∀ (v7_104 : Int32) (ls : Array Slot), k196 v7_104 = some r0 → lv_has ls 9 [(7, .int v7_104)] → W p l e rmX5_last s m ([.ref (ad 0), .int u1, .int u2] : List Value).toArray below meth c s.heap [] 0 0 (MQ below (pQ (some (.int r0))) ([.ref (ad 0), .int u1, .int u2] : List Value).toArray s 0 0 noF) (F0 m 196 ls [])) (n : Nat) (v5_104 : Int32) (v6_104 : Int32) (v7_104 : Int32) (ls : Array Slot), fX5_last_104 o w g1_104 g3_104 g4_104 k196 n v5_104 v6_104 v7_104 = some r0 → lv_has ls 9 [(0, .ref (ad 0)), (1, .int g1_104), (3, .int g3_104), (4, .int g4_104), (5, .int v5_104), (6, .int v6_104), (7, .int v7_104)] → W p l e rmX5_last s m ([.ref (ad 0), .int u1, .int u2] : List Value).toArray below meth c s.heap [] 0 0 (MQ below (pQ (some (.int r0))) ([.ref (ad 0), .int u1, .int u2] : List Value).toArray s 0 0 noF) (F0 m 104 ls []) := by
    intro g1_104 g3_104 g4_104 k196 hk196 n
    induction n with
    | zero =>
      intro v5_104 v6_104 v7_104 ls hf hl
      cases (show (none : Option (Int32)) = some r0 from hf)
    | succ n ih =>
      intro v5_104 v6_104 v7_104 ls hf hl
      rw [fX5_last_104] at hf
      refine lv_iload hx hb dX5_last_104 (lv_at hl 4 rfl) ?_
      refine lv_i2l hx hb dX5_last_106 rfl ?_
      refine lv_lconst (v := 0) hx hb dX5_last_107 (by decide) ?_
      refine lv_aload_n hx hb dX5_last_108 rfl (lv_at hl 0 rfl) ?_
      refine va_get (D := D) (ci := 5) (v := .int o.2.1) (C := RX5) (T := TX5) (N := 24) hx hb hts inX5 hown hKK.1 hP 0 rfl rfl 2 (by decide) (hts _ q675) (fun _ h => h) rfl dX5_last_109 ?_
      refine lv_iconst (v := 1) hx hb dX5_last_112 (by decide) ?_
      refine lv_isub hx hb dX5_last_113 ?_
      refine lv_i2l hx hb dX5_last_114 rfl ?_
      obtain ⟨r12, hc11, hf⟩ := bd_some hf
      have hP1 := hP.sub (ws' := []) [] rfl
      refine pCallSI ⟨hx, hb, hml, hown, hts⟩ (mtX5_in l D cy z v5_104.toInt64 (0 : Int64) ((o.2.1 - (1 : Int32)).toInt64) r12 hc11) miX5_in q751 ⟨Nat.le_of_ble_eq_true rfl, Nat.le_of_ble_eq_true rfl⟩ ⟨rfl, rfl⟩ hP1 hKK hS hA0 rfl hl.1 rfl (Nat.le_of_ble_eq_true rfl) dX5_last_115 ⟨Nat.zero_le _, Nat.zero_le _⟩ ?_
      refine lv_if_eq (tgt := 196) hx hb dX5_last_118 (by decide) (fun h => ?_) (fun h => ?_)
      · have hf := (if_pos h).symm.trans hf
        exact hk196 v7_104 ls hf (lv_sub hl [6] rfl)
      · have hf := (if_neg h).symm.trans hf
        refine lv_iload hx hb dX5_last_121 (lv_at hl 5 rfl) ?_
        refine lv_i2l hx hb dX5_last_123 rfl ?_
        refine lv_lconst (v := 0) hx hb dX5_last_124 (by decide) ?_
        refine lv_aload_n hx hb dX5_last_125 rfl (lv_at hl 0 rfl) ?_
        refine va_get (D := D) (ci := 5) (v := .int o.2.2.1) (C := RX5) (T := TX5) (N := 24) hx hb hts inX5 hown hKK.1 hP 0 rfl rfl 3 (by decide) (hts _ q676) (fun _ h => h) rfl dX5_last_126 ?_
        refine lv_iconst (v := 1) hx hb dX5_last_129 (by decide) ?_
        refine lv_isub hx hb dX5_last_130 ?_
        refine lv_i2l hx hb dX5_last_131 rfl ?_
        obtain ⟨r14, hc13, hf⟩ := bd_some hf
        have hP1 := hP.sub (ws' := []) [] rfl
        refine pCallSI ⟨hx, hb, hml, hown, hts⟩ (mtX5_in l D cy z v6_104.toInt64 (0 : Int64) ((o.2.2.1 - (1 : Int32)).toInt64) r14 hc13) miX5_in q751 ⟨Nat.le_of_ble_eq_true rfl, Nat.le_of_ble_eq_true rfl⟩ ⟨rfl, rfl⟩ hP1 hKK hS hA0 rfl hl.1 rfl (Nat.le_of_ble_eq_true rfl) dX5_last_132 ⟨Nat.zero_le _, Nat.zero_le _⟩ ?_
        refine lv_if_eq (tgt := 196) hx hb dX5_last_135 (by decide) (fun h => ?_) (fun h => ?_)
        · have hf := (if_pos h).symm.trans hf
          exact hk196 v7_104 ls hf (lv_sub hl [6] rfl)
        · have hf := (if_neg h).symm.trans hf
          refine lv_aload_n hx hb dX5_last_138 rfl (lv_at hl 0 rfl) ?_
          refine va_get (D := D) (ci := 5) (v := .int o.2.1) (C := RX5) (T := TX5) (N := 24) hx hb hts inX5 hown hKK.1 hP 0 rfl rfl 2 (by decide) (hts _ q675) (fun _ h => h) rfl dX5_last_139 ?_
          refine lv_iload hx hb dX5_last_142 (lv_at hl 5 rfl) ?_
          refine lv_imul hx hb dX5_last_144 ?_
          refine lv_iload hx hb dX5_last_145 (lv_at hl 4 rfl) ?_
          refine lv_iadd hx hb dX5_last_147 ?_
          refine nm_i hf (fun x15 hf => ?_)
          refine lv_istore (lv' := [(8, .int x15), (0, .ref (ad 0)), (1, .int g1_104), (3, .int g3_104), (4, .int g4_104), (5, .int v5_104), (6, .int v6_104), (7, .int v7_104)]) hx hb dX5_last_148 hl (by decide) rfl (fun ls hl => ?_)
          refine lv_aload_n hx hb dX5_last_150 rfl (lv_at hl 1 rfl) ?_
          refine lv_aload_n hx hb dX5_last_151 rfl (lv_at hl 1 rfl) ?_
          refine va_get (D := D) (ci := 5) (v := .ref (ad 2)) (C := RX5) (T := TX5) (N := 24) hx hb hts inX5 hown hKK.1 hP 0 rfl rfl 4 (by decide) (hts _ q677) (fun _ h => h) rfl dX5_last_152 ?_
          refine lv_iload_n hx hb dX5_last_155 rfl (lv_at hl 2 rfl) ?_
          refine lv_aload_n hx hb dX5_last_156 rfl (lv_at hl 1 rfl) ?_
          refine va_get (D := D) (ci := 5) (v := .ref (ad 2)) (C := RX5) (T := TX5) (N := 24) hx hb hts inX5 hown hKK.1 hP 0 rfl rfl 4 (by decide) (hts _ q677) (fun _ h => h) rfl dX5_last_157 ?_
          refine lv_bipush (v := 47) hx hb dX5_last_160 (by decide) ?_
          refine va_iald hx hb hKK.1 hP 1 0 rfl rfl (inb_in (by decide)) dX5_last_162 ?_
          refine lv_iload hx hb dX5_last_163 (lv_at hl 0 rfl) ?_
          obtain ⟨r17, hc16, hf⟩ := bd_some hf
          refine pCallVI ⟨hx, hb, hml, hown, hts⟩ (mtX5_isSeen l D cy z ad (ad 2) o w g1_104 (w (47 : Int32).toNatClampNeg) x15 r17 hc16) miX5_isSeen q816 ⟨Nat.le_of_ble_eq_true rfl, Nat.le_of_ble_eq_true rfl⟩ ⟨rfl, rfl⟩ hP hKK hS hA0 (va_recv hKK.1 hP (ci := 5) (q0 := 0) rfl rfl) rfl hl.1 rfl (Nat.le_of_ble_eq_true rfl) dX5_last_165 ⟨Nat.zero_le _, Nat.zero_le _⟩ ?_
          refine lv_if_eq (tgt := 176) hx hb dX5_last_168 (by decide) (fun h => ?_) (fun h => ?_)
          · have hf := (if_pos h).symm.trans hf
            refine lv_iload hx hb dX5_last_176 (lv_at hl 7 rfl) ?_
            refine lv_istore (lv' := [(7, .int v7_104), (8, .int x15), (0, .ref (ad 0)), (1, .int g1_104), (3, .int g3_104), (4, .int g4_104), (5, .int v5_104), (6, .int v6_104)]) hx hb dX5_last_178 hl (by decide) rfl (fun ls hl => ?_)
            refine lv_iload hx hb dX5_last_180 (lv_at hl 6 rfl) ?_
            refine lv_iload_n hx hb dX5_last_182 rfl (lv_at hl 4 rfl) ?_
            refine lv_iadd hx hb dX5_last_183 ?_
            refine nm_i hf (fun x18 hf => ?_)
            refine lv_istore (lv' := [(5, .int x18), (7, .int v7_104), (8, .int x15), (0, .ref (ad 0)), (1, .int g1_104), (3, .int g3_104), (4, .int g4_104), (6, .int v6_104)]) hx hb dX5_last_184 hl (by decide) rfl (fun ls hl => ?_)
            refine lv_iload hx hb dX5_last_186 (lv_at hl 7 rfl) ?_
            refine lv_iload hx hb dX5_last_188 (lv_at hl 6 rfl) ?_
            refine lv_iadd hx hb dX5_last_190 ?_
            refine nm_i hf (fun x19 hf => ?_)
            refine lv_istore (lv' := [(6, .int x19), (5, .int x18), (7, .int v7_104), (8, .int x15), (0, .ref (ad 0)), (1, .int g1_104), (3, .int g3_104), (4, .int g4_104)]) hx hb dX5_last_191 hl (by decide) rfl (fun ls hl => ?_)
            refine lv_goto (tgt := 104) hx hb dX5_last_193 (by decide) ?_
            exact ih x18 x19 v7_104 ls hf (lv_sub hl [4, 5, 6, 7, 1, 0, 2] rfl)
          · have hf := (if_neg h).symm.trans hf
            refine lv_iload hx hb dX5_last_171 (lv_at hl 0 rfl) ?_
            refine lv_goto (tgt := 178) hx hb dX5_last_173 (by decide) ?_
            refine lv_istore (lv' := [(7, .int x15), (8, .int x15), (0, .ref (ad 0)), (1, .int g1_104), (3, .int g3_104), (4, .int g4_104), (5, .int v5_104), (6, .int v6_104)]) hx hb dX5_last_178 hl (by decide) rfl (fun ls hl => ?_)
            refine lv_iload hx hb dX5_last_180 (lv_at hl 6 rfl) ?_
            refine lv_iload_n hx hb dX5_last_182 rfl (lv_at hl 4 rfl) ?_
            refine lv_iadd hx hb dX5_last_183 ?_
            refine nm_i hf (fun x20 hf => ?_)
            refine lv_istore (lv' := [(5, .int x20), (7, .int x15), (8, .int x15), (0, .ref (ad 0)), (1, .int g1_104), (3, .int g3_104), (4, .int g4_104), (6, .int v6_104)]) hx hb dX5_last_184 hl (by decide) rfl (fun ls hl => ?_)
            refine lv_iload hx hb dX5_last_186 (lv_at hl 7 rfl) ?_
            refine lv_iload hx hb dX5_last_188 (lv_at hl 6 rfl) ?_
            refine lv_iadd hx hb dX5_last_190 ?_
            refine nm_i hf (fun x21 hf => ?_)
            refine lv_istore (lv' := [(6, .int x21), (5, .int x20), (7, .int x15), (8, .int x15), (0, .ref (ad 0)), (1, .int g1_104), (3, .int g3_104), (4, .int g4_104)]) hx hb dX5_last_191 hl (by decide) rfl (fun ls hl => ?_)
            refine lv_goto (tgt := 104) hx hb dX5_last_193 (by decide) ?_
            exact ih x20 x21 x15 ls hf (lv_sub hl [4, 5, 6, 7, 1, 0, 2] rfl)
  unfold fX5_last at hf
  refine lv_aload_n hx hb dX5_last_0 rfl (lv_at hl 0 rfl) ?_
  refine lv_iload_n hx hb dX5_last_1 rfl (lv_at hl 1 rfl) ?_
  obtain ⟨r2, hc1, hf⟩ := bd_some hf
  have hP1 := hP.sub (ws' := [moC ad o]) [0] rfl
  refine pCallVI ⟨hx, hb, hml, hown, hts⟩ (mtX5_isCell l D cy z ad o u1 r2 hc1) miX5_isCell q865 ⟨Nat.le_of_ble_eq_true rfl, Nat.le_of_ble_eq_true rfl⟩ ⟨rfl, rfl⟩ hP1 hKK hS hA0 (va_recv hKK.1 hP1 (ci := 5) (q0 := 0) rfl rfl) rfl hl.1 rfl (Nat.le_of_ble_eq_true rfl) dX5_last_2 ⟨Nat.zero_le _, Nat.zero_le _⟩ ?_
  refine lv_if_ne (tgt := 10) hx hb dX5_last_5 (by decide) (fun h => ?_) (fun h => ?_)
  · have hf := (if_neg h).symm.trans hf
    refine lv_iload_n hx hb dX5_last_10 rfl (lv_at hl 2 rfl) ?_
    refine lv_i2l hx hb dX5_last_11 rfl ?_
    refine lv_lconst (v := 0) hx hb dX5_last_12 (by decide) ?_
    refine lv_ldc2 hx hb hown (hts _ q962) dX5_last_13 ?_
    obtain ⟨r4, hc3, hf⟩ := bd_some hf
    have hP1 := hP.sub (ws' := []) [] rfl
    refine pCallSI ⟨hx, hb, hml, hown, hts⟩ (mtX5_in l D cy z u2.toInt64 (0 : Int64) (7 : Int64) r4 hc3) miX5_in q751 ⟨Nat.le_of_ble_eq_true rfl, Nat.le_of_ble_eq_true rfl⟩ ⟨rfl, rfl⟩ hP1 hKK hS hA0 rfl hl.1 rfl (Nat.le_of_ble_eq_true rfl) dX5_last_16 ⟨Nat.zero_le _, Nat.zero_le _⟩ ?_
    refine lv_if_ne (tgt := 25) hx hb dX5_last_19 (by decide) (fun h => ?_) (fun h => ?_)
    · have hf := (if_neg h).symm.trans hf
      refine lv_iload_n hx hb dX5_last_25 rfl (lv_at hl 2 rfl) ?_
      refine lv_iconst (v := 2) hx hb dX5_last_26 (by decide) ?_
      refine lv_icmp_lt (tgt := 36) hx hb dX5_last_27 (by decide) (fun h => ?_) (fun h => ?_)
      · have hf := (if_pos h).symm.trans hf
        refine lv_iconst (v := 1) hx hb dX5_last_36 (by decide) ?_
        refine lv_goto (tgt := 56) hx hb dX5_last_37 (by decide) ?_
        refine lv_istore_n (lv' := [(3, .int (1 : Int32)), (0, .ref (ad 0)), (1, .int u1), (2, .int u2)]) hx hb dX5_last_56 rfl hl (by decide) rfl (fun ls hl => ?_)
        refine lv_iload_n hx hb dX5_last_57 rfl (lv_at hl 3 rfl) ?_
        refine lv_i2l hx hb dX5_last_58 rfl ?_
        refine lv_lconst (v := 1) hx hb dX5_last_59 (by decide) ?_
        refine lv_ldc2 hx hb hown (hts _ q924) dX5_last_60 ?_
        obtain ⟨r6, hc5, hf⟩ := bd_some hf
        have hP1 := hP.sub (ws' := []) [] rfl
        refine pCallSI ⟨hx, hb, hml, hown, hts⟩ (mtX5_in l D cy z u2.toInt64 (1 : Int64) (3 : Int64) r6 hc5) miX5_in q751 ⟨Nat.le_of_ble_eq_true rfl, Nat.le_of_ble_eq_true rfl⟩ ⟨rfl, rfl⟩ hP1 hKK hS hA0 rfl hl.1 rfl (Nat.le_of_ble_eq_true rfl) dX5_last_63 ⟨Nat.zero_le _, Nat.zero_le _⟩ ?_
        refine lv_if_eq (tgt := 73) hx hb dX5_last_66 (by decide) (fun h => ?_) (fun h => ?_)
        · have hf := (if_pos h).symm.trans hf
          refine lv_iload_n hx hb dX5_last_73 rfl (lv_at hl 3 rfl) ?_
          refine lv_iconst (v := 4) hx hb dX5_last_74 (by decide) ?_
          refine lv_icmp_le (tgt := 82) hx hb dX5_last_75 (by decide) (fun h => ?_) (fun h => ?_)
          · have hf := (if_pos h).symm.trans hf
            refine lv_iconst (v := 0) hx hb dX5_last_82 (by decide) ?_
            refine lv_istore (lv' := [(4, .int (0 : Int32)), (3, .int (1 : Int32)), (0, .ref (ad 0)), (1, .int u1), (2, .int u2)]) hx hb dX5_last_83 hl (by decide) rfl (fun ls hl => ?_)
            refine lv_iload_n hx hb dX5_last_85 rfl (lv_at hl 3 rfl) ?_
            refine lv_aload_n hx hb dX5_last_86 rfl (lv_at hl 2 rfl) ?_
            refine va_get (D := D) (ci := 5) (v := .int o.2.1) (C := RX5) (T := TX5) (N := 24) hx hb hts inX5 hown hKK.1 hP 0 rfl rfl 2 (by decide) (hts _ q675) (fun _ h => h) rfl dX5_last_87 ?_
            obtain ⟨hg7, hf⟩ := gd_some hf
            refine lv_irem hx hb dX5_last_90 (nz_ne hg7) ?_
            refine nm_i hf (fun x8 hf => ?_)
            refine lv_istore (lv' := [(5, .int x8), (4, .int (0 : Int32)), (3, .int (1 : Int32)), (0, .ref (ad 0)), (1, .int u1), (2, .int u2)]) hx hb dX5_last_91 hl (by decide) rfl (fun ls hl => ?_)
            refine lv_iload_n hx hb dX5_last_93 rfl (lv_at hl 4 rfl) ?_
            refine lv_aload_n hx hb dX5_last_94 rfl (lv_at hl 3 rfl) ?_
            refine va_get (D := D) (ci := 5) (v := .int o.2.1) (C := RX5) (T := TX5) (N := 24) hx hb hts inX5 hown hKK.1 hP 0 rfl rfl 2 (by decide) (hts _ q675) (fun _ h => h) rfl dX5_last_95 ?_
            obtain ⟨hg9, hf⟩ := gd_some hf
            refine lv_idiv hx hb dX5_last_98 (nz_ne hg9) ?_
            refine nm_i hf (fun x10 hf => ?_)
            refine lv_istore (lv' := [(6, .int x10), (5, .int x8), (4, .int (0 : Int32)), (3, .int (1 : Int32)), (0, .ref (ad 0)), (1, .int u1), (2, .int u2)]) hx hb dX5_last_99 hl (by decide) rfl (fun ls hl => ?_)
            refine lv_iload_n hx hb dX5_last_101 rfl (lv_at hl 5 rfl) ?_
            refine lv_istore (lv' := [(7, .int u1), (6, .int x10), (5, .int x8), (4, .int (0 : Int32)), (3, .int (1 : Int32)), (0, .ref (ad 0)), (1, .int u1), (2, .int u2)]) hx hb dX5_last_102 hl (by decide) rfl (fun ls hl => ?_)
            refine w_104 u1 (1 : Int32) (0 : Int32) _ ?_ _ x8 x10 u1 ls hf (lv_sub hl [5, 6, 4, 3, 2, 1, 0] rfl)
            · intro y22 ls hf hl
              refine lv_iload hx hb dX5_last_196 (lv_at hl 0 rfl) ?_
              exact pretI hx hb hr hlk hf dX5_last_198
          · have hf := (if_neg h).symm.trans hf
            refine lv_iconst (v := -1) hx hb dX5_last_78 (by decide) ?_
            refine lv_goto (tgt := 83) hx hb dX5_last_79 (by decide) ?_
            refine lv_istore (lv' := [(4, .int (-1 : Int32)), (3, .int (1 : Int32)), (0, .ref (ad 0)), (1, .int u1), (2, .int u2)]) hx hb dX5_last_83 hl (by decide) rfl (fun ls hl => ?_)
            refine lv_iload_n hx hb dX5_last_85 rfl (lv_at hl 3 rfl) ?_
            refine lv_aload_n hx hb dX5_last_86 rfl (lv_at hl 2 rfl) ?_
            refine va_get (D := D) (ci := 5) (v := .int o.2.1) (C := RX5) (T := TX5) (N := 24) hx hb hts inX5 hown hKK.1 hP 0 rfl rfl 2 (by decide) (hts _ q675) (fun _ h => h) rfl dX5_last_87 ?_
            obtain ⟨hg23, hf⟩ := gd_some hf
            refine lv_irem hx hb dX5_last_90 (nz_ne hg23) ?_
            refine nm_i hf (fun x24 hf => ?_)
            refine lv_istore (lv' := [(5, .int x24), (4, .int (-1 : Int32)), (3, .int (1 : Int32)), (0, .ref (ad 0)), (1, .int u1), (2, .int u2)]) hx hb dX5_last_91 hl (by decide) rfl (fun ls hl => ?_)
            refine lv_iload_n hx hb dX5_last_93 rfl (lv_at hl 4 rfl) ?_
            refine lv_aload_n hx hb dX5_last_94 rfl (lv_at hl 3 rfl) ?_
            refine va_get (D := D) (ci := 5) (v := .int o.2.1) (C := RX5) (T := TX5) (N := 24) hx hb hts inX5 hown hKK.1 hP 0 rfl rfl 2 (by decide) (hts _ q675) (fun _ h => h) rfl dX5_last_95 ?_
            obtain ⟨hg25, hf⟩ := gd_some hf
            refine lv_idiv hx hb dX5_last_98 (nz_ne hg25) ?_
            refine nm_i hf (fun x26 hf => ?_)
            refine lv_istore (lv' := [(6, .int x26), (5, .int x24), (4, .int (-1 : Int32)), (3, .int (1 : Int32)), (0, .ref (ad 0)), (1, .int u1), (2, .int u2)]) hx hb dX5_last_99 hl (by decide) rfl (fun ls hl => ?_)
            refine lv_iload_n hx hb dX5_last_101 rfl (lv_at hl 5 rfl) ?_
            refine lv_istore (lv' := [(7, .int u1), (6, .int x26), (5, .int x24), (4, .int (-1 : Int32)), (3, .int (1 : Int32)), (0, .ref (ad 0)), (1, .int u1), (2, .int u2)]) hx hb dX5_last_102 hl (by decide) rfl (fun ls hl => ?_)
            refine w_104 u1 (1 : Int32) (-1 : Int32) _ ?_ _ x24 x26 u1 ls hf (lv_sub hl [5, 6, 4, 3, 2, 1, 0] rfl)
            · intro y27 ls hf hl
              refine lv_iload hx hb dX5_last_196 (lv_at hl 0 rfl) ?_
              exact pretI hx hb hr hlk hf dX5_last_198
        · have hf := (if_neg h).symm.trans hf
          refine lv_iconst (v := 1) hx hb dX5_last_69 (by decide) ?_
          refine lv_goto (tgt := 83) hx hb dX5_last_70 (by decide) ?_
          refine lv_istore (lv' := [(4, .int (1 : Int32)), (3, .int (1 : Int32)), (0, .ref (ad 0)), (1, .int u1), (2, .int u2)]) hx hb dX5_last_83 hl (by decide) rfl (fun ls hl => ?_)
          refine lv_iload_n hx hb dX5_last_85 rfl (lv_at hl 3 rfl) ?_
          refine lv_aload_n hx hb dX5_last_86 rfl (lv_at hl 2 rfl) ?_
          refine va_get (D := D) (ci := 5) (v := .int o.2.1) (C := RX5) (T := TX5) (N := 24) hx hb hts inX5 hown hKK.1 hP 0 rfl rfl 2 (by decide) (hts _ q675) (fun _ h => h) rfl dX5_last_87 ?_
          obtain ⟨hg28, hf⟩ := gd_some hf
          refine lv_irem hx hb dX5_last_90 (nz_ne hg28) ?_
          refine nm_i hf (fun x29 hf => ?_)
          refine lv_istore (lv' := [(5, .int x29), (4, .int (1 : Int32)), (3, .int (1 : Int32)), (0, .ref (ad 0)), (1, .int u1), (2, .int u2)]) hx hb dX5_last_91 hl (by decide) rfl (fun ls hl => ?_)
          refine lv_iload_n hx hb dX5_last_93 rfl (lv_at hl 4 rfl) ?_
          refine lv_aload_n hx hb dX5_last_94 rfl (lv_at hl 3 rfl) ?_
          refine va_get (D := D) (ci := 5) (v := .int o.2.1) (C := RX5) (T := TX5) (N := 24) hx hb hts inX5 hown hKK.1 hP 0 rfl rfl 2 (by decide) (hts _ q675) (fun _ h => h) rfl dX5_last_95 ?_
          obtain ⟨hg30, hf⟩ := gd_some hf
          refine lv_idiv hx hb dX5_last_98 (nz_ne hg30) ?_
          refine nm_i hf (fun x31 hf => ?_)
          refine lv_istore (lv' := [(6, .int x31), (5, .int x29), (4, .int (1 : Int32)), (3, .int (1 : Int32)), (0, .ref (ad 0)), (1, .int u1), (2, .int u2)]) hx hb dX5_last_99 hl (by decide) rfl (fun ls hl => ?_)
          refine lv_iload_n hx hb dX5_last_101 rfl (lv_at hl 5 rfl) ?_
          refine lv_istore (lv' := [(7, .int u1), (6, .int x31), (5, .int x29), (4, .int (1 : Int32)), (3, .int (1 : Int32)), (0, .ref (ad 0)), (1, .int u1), (2, .int u2)]) hx hb dX5_last_102 hl (by decide) rfl (fun ls hl => ?_)
          refine w_104 u1 (1 : Int32) (1 : Int32) _ ?_ _ x29 x31 u1 ls hf (lv_sub hl [5, 6, 4, 3, 2, 1, 0] rfl)
          · intro y32 ls hf hl
            refine lv_iload hx hb dX5_last_196 (lv_at hl 0 rfl) ?_
            exact pretI hx hb hr hlk hf dX5_last_198
      · have hf := (if_neg h).symm.trans hf
        refine lv_iload_n hx hb dX5_last_30 rfl (lv_at hl 2 rfl) ?_
        refine lv_bipush (v := 7) hx hb dX5_last_31 (by decide) ?_
        refine lv_icmp_ne (tgt := 40) hx hb dX5_last_33 (by decide) (fun h => ?_) (fun h => ?_)
        · have hf := (if_neg h).symm.trans hf
          refine lv_iload_n hx hb dX5_last_40 rfl (lv_at hl 2 rfl) ?_
          refine lv_iconst (v := 2) hx hb dX5_last_41 (by decide) ?_
          refine lv_icmp_le (tgt := 55) hx hb dX5_last_42 (by decide) (fun h => ?_) (fun h => ?_)
          · have hf := (if_pos h).symm.trans hf
            refine lv_iconst (v := 0) hx hb dX5_last_55 (by decide) ?_
            refine lv_istore_n (lv' := [(3, .int (0 : Int32)), (0, .ref (ad 0)), (1, .int u1), (2, .int u2)]) hx hb dX5_last_56 rfl hl (by decide) rfl (fun ls hl => ?_)
            refine lv_iload_n hx hb dX5_last_57 rfl (lv_at hl 3 rfl) ?_
            refine lv_i2l hx hb dX5_last_58 rfl ?_
            refine lv_lconst (v := 1) hx hb dX5_last_59 (by decide) ?_
            refine lv_ldc2 hx hb hown (hts _ q924) dX5_last_60 ?_
            obtain ⟨r34, hc33, hf⟩ := bd_some hf
            have hP1 := hP.sub (ws' := []) [] rfl
            refine pCallSI ⟨hx, hb, hml, hown, hts⟩ (mtX5_in l D cy z u2.toInt64 (1 : Int64) (3 : Int64) r34 hc33) miX5_in q751 ⟨Nat.le_of_ble_eq_true rfl, Nat.le_of_ble_eq_true rfl⟩ ⟨rfl, rfl⟩ hP1 hKK hS hA0 rfl hl.1 rfl (Nat.le_of_ble_eq_true rfl) dX5_last_63 ⟨Nat.zero_le _, Nat.zero_le _⟩ ?_
            refine lv_if_eq (tgt := 73) hx hb dX5_last_66 (by decide) (fun h => ?_) (fun h => ?_)
            · have hf := (if_pos h).symm.trans hf
              refine lv_iload_n hx hb dX5_last_73 rfl (lv_at hl 3 rfl) ?_
              refine lv_iconst (v := 4) hx hb dX5_last_74 (by decide) ?_
              refine lv_icmp_le (tgt := 82) hx hb dX5_last_75 (by decide) (fun h => ?_) (fun h => ?_)
              · have hf := (if_pos h).symm.trans hf
                refine lv_iconst (v := 0) hx hb dX5_last_82 (by decide) ?_
                refine lv_istore (lv' := [(4, .int (0 : Int32)), (3, .int (0 : Int32)), (0, .ref (ad 0)), (1, .int u1), (2, .int u2)]) hx hb dX5_last_83 hl (by decide) rfl (fun ls hl => ?_)
                refine lv_iload_n hx hb dX5_last_85 rfl (lv_at hl 3 rfl) ?_
                refine lv_aload_n hx hb dX5_last_86 rfl (lv_at hl 2 rfl) ?_
                refine va_get (D := D) (ci := 5) (v := .int o.2.1) (C := RX5) (T := TX5) (N := 24) hx hb hts inX5 hown hKK.1 hP 0 rfl rfl 2 (by decide) (hts _ q675) (fun _ h => h) rfl dX5_last_87 ?_
                obtain ⟨hg35, hf⟩ := gd_some hf
                refine lv_irem hx hb dX5_last_90 (nz_ne hg35) ?_
                refine nm_i hf (fun x36 hf => ?_)
                refine lv_istore (lv' := [(5, .int x36), (4, .int (0 : Int32)), (3, .int (0 : Int32)), (0, .ref (ad 0)), (1, .int u1), (2, .int u2)]) hx hb dX5_last_91 hl (by decide) rfl (fun ls hl => ?_)
                refine lv_iload_n hx hb dX5_last_93 rfl (lv_at hl 4 rfl) ?_
                refine lv_aload_n hx hb dX5_last_94 rfl (lv_at hl 3 rfl) ?_
                refine va_get (D := D) (ci := 5) (v := .int o.2.1) (C := RX5) (T := TX5) (N := 24) hx hb hts inX5 hown hKK.1 hP 0 rfl rfl 2 (by decide) (hts _ q675) (fun _ h => h) rfl dX5_last_95 ?_
                obtain ⟨hg37, hf⟩ := gd_some hf
                refine lv_idiv hx hb dX5_last_98 (nz_ne hg37) ?_
                refine nm_i hf (fun x38 hf => ?_)
                refine lv_istore (lv' := [(6, .int x38), (5, .int x36), (4, .int (0 : Int32)), (3, .int (0 : Int32)), (0, .ref (ad 0)), (1, .int u1), (2, .int u2)]) hx hb dX5_last_99 hl (by decide) rfl (fun ls hl => ?_)
                refine lv_iload_n hx hb dX5_last_101 rfl (lv_at hl 5 rfl) ?_
                refine lv_istore (lv' := [(7, .int u1), (6, .int x38), (5, .int x36), (4, .int (0 : Int32)), (3, .int (0 : Int32)), (0, .ref (ad 0)), (1, .int u1), (2, .int u2)]) hx hb dX5_last_102 hl (by decide) rfl (fun ls hl => ?_)
                refine w_104 u1 (0 : Int32) (0 : Int32) _ ?_ _ x36 x38 u1 ls hf (lv_sub hl [5, 6, 4, 3, 2, 1, 0] rfl)
                · intro y39 ls hf hl
                  refine lv_iload hx hb dX5_last_196 (lv_at hl 0 rfl) ?_
                  exact pretI hx hb hr hlk hf dX5_last_198
              · have hf := (if_neg h).symm.trans hf
                refine lv_iconst (v := -1) hx hb dX5_last_78 (by decide) ?_
                refine lv_goto (tgt := 83) hx hb dX5_last_79 (by decide) ?_
                refine lv_istore (lv' := [(4, .int (-1 : Int32)), (3, .int (0 : Int32)), (0, .ref (ad 0)), (1, .int u1), (2, .int u2)]) hx hb dX5_last_83 hl (by decide) rfl (fun ls hl => ?_)
                refine lv_iload_n hx hb dX5_last_85 rfl (lv_at hl 3 rfl) ?_
                refine lv_aload_n hx hb dX5_last_86 rfl (lv_at hl 2 rfl) ?_
                refine va_get (D := D) (ci := 5) (v := .int o.2.1) (C := RX5) (T := TX5) (N := 24) hx hb hts inX5 hown hKK.1 hP 0 rfl rfl 2 (by decide) (hts _ q675) (fun _ h => h) rfl dX5_last_87 ?_
                obtain ⟨hg40, hf⟩ := gd_some hf
                refine lv_irem hx hb dX5_last_90 (nz_ne hg40) ?_
                refine nm_i hf (fun x41 hf => ?_)
                refine lv_istore (lv' := [(5, .int x41), (4, .int (-1 : Int32)), (3, .int (0 : Int32)), (0, .ref (ad 0)), (1, .int u1), (2, .int u2)]) hx hb dX5_last_91 hl (by decide) rfl (fun ls hl => ?_)
                refine lv_iload_n hx hb dX5_last_93 rfl (lv_at hl 4 rfl) ?_
                refine lv_aload_n hx hb dX5_last_94 rfl (lv_at hl 3 rfl) ?_
                refine va_get (D := D) (ci := 5) (v := .int o.2.1) (C := RX5) (T := TX5) (N := 24) hx hb hts inX5 hown hKK.1 hP 0 rfl rfl 2 (by decide) (hts _ q675) (fun _ h => h) rfl dX5_last_95 ?_
                obtain ⟨hg42, hf⟩ := gd_some hf
                refine lv_idiv hx hb dX5_last_98 (nz_ne hg42) ?_
                refine nm_i hf (fun x43 hf => ?_)
                refine lv_istore (lv' := [(6, .int x43), (5, .int x41), (4, .int (-1 : Int32)), (3, .int (0 : Int32)), (0, .ref (ad 0)), (1, .int u1), (2, .int u2)]) hx hb dX5_last_99 hl (by decide) rfl (fun ls hl => ?_)
                refine lv_iload_n hx hb dX5_last_101 rfl (lv_at hl 5 rfl) ?_
                refine lv_istore (lv' := [(7, .int u1), (6, .int x43), (5, .int x41), (4, .int (-1 : Int32)), (3, .int (0 : Int32)), (0, .ref (ad 0)), (1, .int u1), (2, .int u2)]) hx hb dX5_last_102 hl (by decide) rfl (fun ls hl => ?_)
                refine w_104 u1 (0 : Int32) (-1 : Int32) _ ?_ _ x41 x43 u1 ls hf (lv_sub hl [5, 6, 4, 3, 2, 1, 0] rfl)
                · intro y44 ls hf hl
                  refine lv_iload hx hb dX5_last_196 (lv_at hl 0 rfl) ?_
                  exact pretI hx hb hr hlk hf dX5_last_198
            · have hf := (if_neg h).symm.trans hf
              refine lv_iconst (v := 1) hx hb dX5_last_69 (by decide) ?_
              refine lv_goto (tgt := 83) hx hb dX5_last_70 (by decide) ?_
              refine lv_istore (lv' := [(4, .int (1 : Int32)), (3, .int (0 : Int32)), (0, .ref (ad 0)), (1, .int u1), (2, .int u2)]) hx hb dX5_last_83 hl (by decide) rfl (fun ls hl => ?_)
              refine lv_iload_n hx hb dX5_last_85 rfl (lv_at hl 3 rfl) ?_
              refine lv_aload_n hx hb dX5_last_86 rfl (lv_at hl 2 rfl) ?_
              refine va_get (D := D) (ci := 5) (v := .int o.2.1) (C := RX5) (T := TX5) (N := 24) hx hb hts inX5 hown hKK.1 hP 0 rfl rfl 2 (by decide) (hts _ q675) (fun _ h => h) rfl dX5_last_87 ?_
              obtain ⟨hg45, hf⟩ := gd_some hf
              refine lv_irem hx hb dX5_last_90 (nz_ne hg45) ?_
              refine nm_i hf (fun x46 hf => ?_)
              refine lv_istore (lv' := [(5, .int x46), (4, .int (1 : Int32)), (3, .int (0 : Int32)), (0, .ref (ad 0)), (1, .int u1), (2, .int u2)]) hx hb dX5_last_91 hl (by decide) rfl (fun ls hl => ?_)
              refine lv_iload_n hx hb dX5_last_93 rfl (lv_at hl 4 rfl) ?_
              refine lv_aload_n hx hb dX5_last_94 rfl (lv_at hl 3 rfl) ?_
              refine va_get (D := D) (ci := 5) (v := .int o.2.1) (C := RX5) (T := TX5) (N := 24) hx hb hts inX5 hown hKK.1 hP 0 rfl rfl 2 (by decide) (hts _ q675) (fun _ h => h) rfl dX5_last_95 ?_
              obtain ⟨hg47, hf⟩ := gd_some hf
              refine lv_idiv hx hb dX5_last_98 (nz_ne hg47) ?_
              refine nm_i hf (fun x48 hf => ?_)
              refine lv_istore (lv' := [(6, .int x48), (5, .int x46), (4, .int (1 : Int32)), (3, .int (0 : Int32)), (0, .ref (ad 0)), (1, .int u1), (2, .int u2)]) hx hb dX5_last_99 hl (by decide) rfl (fun ls hl => ?_)
              refine lv_iload_n hx hb dX5_last_101 rfl (lv_at hl 5 rfl) ?_
              refine lv_istore (lv' := [(7, .int u1), (6, .int x48), (5, .int x46), (4, .int (1 : Int32)), (3, .int (0 : Int32)), (0, .ref (ad 0)), (1, .int u1), (2, .int u2)]) hx hb dX5_last_102 hl (by decide) rfl (fun ls hl => ?_)
              refine w_104 u1 (0 : Int32) (1 : Int32) _ ?_ _ x46 x48 u1 ls hf (lv_sub hl [5, 6, 4, 3, 2, 1, 0] rfl)
              · intro y49 ls hf hl
                refine lv_iload hx hb dX5_last_196 (lv_at hl 0 rfl) ?_
                exact pretI hx hb hr hlk hf dX5_last_198
          · have hf := (if_neg h).symm.trans hf
            refine lv_iload_n hx hb dX5_last_45 rfl (lv_at hl 2 rfl) ?_
            refine lv_bipush (v := 6) hx hb dX5_last_46 (by decide) ?_
            refine lv_icmp_ge (tgt := 55) hx hb dX5_last_48 (by decide) (fun h => ?_) (fun h => ?_)
            · have hf := (if_pos h).symm.trans hf
              refine lv_iconst (v := 0) hx hb dX5_last_55 (by decide) ?_
              refine lv_istore_n (lv' := [(3, .int (0 : Int32)), (0, .ref (ad 0)), (1, .int u1), (2, .int u2)]) hx hb dX5_last_56 rfl hl (by decide) rfl (fun ls hl => ?_)
              refine lv_iload_n hx hb dX5_last_57 rfl (lv_at hl 3 rfl) ?_
              refine lv_i2l hx hb dX5_last_58 rfl ?_
              refine lv_lconst (v := 1) hx hb dX5_last_59 (by decide) ?_
              refine lv_ldc2 hx hb hown (hts _ q924) dX5_last_60 ?_
              obtain ⟨r51, hc50, hf⟩ := bd_some hf
              have hP1 := hP.sub (ws' := []) [] rfl
              refine pCallSI ⟨hx, hb, hml, hown, hts⟩ (mtX5_in l D cy z u2.toInt64 (1 : Int64) (3 : Int64) r51 hc50) miX5_in q751 ⟨Nat.le_of_ble_eq_true rfl, Nat.le_of_ble_eq_true rfl⟩ ⟨rfl, rfl⟩ hP1 hKK hS hA0 rfl hl.1 rfl (Nat.le_of_ble_eq_true rfl) dX5_last_63 ⟨Nat.zero_le _, Nat.zero_le _⟩ ?_
              refine lv_if_eq (tgt := 73) hx hb dX5_last_66 (by decide) (fun h => ?_) (fun h => ?_)
              · have hf := (if_pos h).symm.trans hf
                refine lv_iload_n hx hb dX5_last_73 rfl (lv_at hl 3 rfl) ?_
                refine lv_iconst (v := 4) hx hb dX5_last_74 (by decide) ?_
                refine lv_icmp_le (tgt := 82) hx hb dX5_last_75 (by decide) (fun h => ?_) (fun h => ?_)
                · have hf := (if_pos h).symm.trans hf
                  refine lv_iconst (v := 0) hx hb dX5_last_82 (by decide) ?_
                  refine lv_istore (lv' := [(4, .int (0 : Int32)), (3, .int (0 : Int32)), (0, .ref (ad 0)), (1, .int u1), (2, .int u2)]) hx hb dX5_last_83 hl (by decide) rfl (fun ls hl => ?_)
                  refine lv_iload_n hx hb dX5_last_85 rfl (lv_at hl 3 rfl) ?_
                  refine lv_aload_n hx hb dX5_last_86 rfl (lv_at hl 2 rfl) ?_
                  refine va_get (D := D) (ci := 5) (v := .int o.2.1) (C := RX5) (T := TX5) (N := 24) hx hb hts inX5 hown hKK.1 hP 0 rfl rfl 2 (by decide) (hts _ q675) (fun _ h => h) rfl dX5_last_87 ?_
                  obtain ⟨hg52, hf⟩ := gd_some hf
                  refine lv_irem hx hb dX5_last_90 (nz_ne hg52) ?_
                  refine nm_i hf (fun x53 hf => ?_)
                  refine lv_istore (lv' := [(5, .int x53), (4, .int (0 : Int32)), (3, .int (0 : Int32)), (0, .ref (ad 0)), (1, .int u1), (2, .int u2)]) hx hb dX5_last_91 hl (by decide) rfl (fun ls hl => ?_)
                  refine lv_iload_n hx hb dX5_last_93 rfl (lv_at hl 4 rfl) ?_
                  refine lv_aload_n hx hb dX5_last_94 rfl (lv_at hl 3 rfl) ?_
                  refine va_get (D := D) (ci := 5) (v := .int o.2.1) (C := RX5) (T := TX5) (N := 24) hx hb hts inX5 hown hKK.1 hP 0 rfl rfl 2 (by decide) (hts _ q675) (fun _ h => h) rfl dX5_last_95 ?_
                  obtain ⟨hg54, hf⟩ := gd_some hf
                  refine lv_idiv hx hb dX5_last_98 (nz_ne hg54) ?_
                  refine nm_i hf (fun x55 hf => ?_)
                  refine lv_istore (lv' := [(6, .int x55), (5, .int x53), (4, .int (0 : Int32)), (3, .int (0 : Int32)), (0, .ref (ad 0)), (1, .int u1), (2, .int u2)]) hx hb dX5_last_99 hl (by decide) rfl (fun ls hl => ?_)
                  refine lv_iload_n hx hb dX5_last_101 rfl (lv_at hl 5 rfl) ?_
                  refine lv_istore (lv' := [(7, .int u1), (6, .int x55), (5, .int x53), (4, .int (0 : Int32)), (3, .int (0 : Int32)), (0, .ref (ad 0)), (1, .int u1), (2, .int u2)]) hx hb dX5_last_102 hl (by decide) rfl (fun ls hl => ?_)
                  refine w_104 u1 (0 : Int32) (0 : Int32) _ ?_ _ x53 x55 u1 ls hf (lv_sub hl [5, 6, 4, 3, 2, 1, 0] rfl)
                  · intro y56 ls hf hl
                    refine lv_iload hx hb dX5_last_196 (lv_at hl 0 rfl) ?_
                    exact pretI hx hb hr hlk hf dX5_last_198
                · have hf := (if_neg h).symm.trans hf
                  refine lv_iconst (v := -1) hx hb dX5_last_78 (by decide) ?_
                  refine lv_goto (tgt := 83) hx hb dX5_last_79 (by decide) ?_
                  refine lv_istore (lv' := [(4, .int (-1 : Int32)), (3, .int (0 : Int32)), (0, .ref (ad 0)), (1, .int u1), (2, .int u2)]) hx hb dX5_last_83 hl (by decide) rfl (fun ls hl => ?_)
                  refine lv_iload_n hx hb dX5_last_85 rfl (lv_at hl 3 rfl) ?_
                  refine lv_aload_n hx hb dX5_last_86 rfl (lv_at hl 2 rfl) ?_
                  refine va_get (D := D) (ci := 5) (v := .int o.2.1) (C := RX5) (T := TX5) (N := 24) hx hb hts inX5 hown hKK.1 hP 0 rfl rfl 2 (by decide) (hts _ q675) (fun _ h => h) rfl dX5_last_87 ?_
                  obtain ⟨hg57, hf⟩ := gd_some hf
                  refine lv_irem hx hb dX5_last_90 (nz_ne hg57) ?_
                  refine nm_i hf (fun x58 hf => ?_)
                  refine lv_istore (lv' := [(5, .int x58), (4, .int (-1 : Int32)), (3, .int (0 : Int32)), (0, .ref (ad 0)), (1, .int u1), (2, .int u2)]) hx hb dX5_last_91 hl (by decide) rfl (fun ls hl => ?_)
                  refine lv_iload_n hx hb dX5_last_93 rfl (lv_at hl 4 rfl) ?_
                  refine lv_aload_n hx hb dX5_last_94 rfl (lv_at hl 3 rfl) ?_
                  refine va_get (D := D) (ci := 5) (v := .int o.2.1) (C := RX5) (T := TX5) (N := 24) hx hb hts inX5 hown hKK.1 hP 0 rfl rfl 2 (by decide) (hts _ q675) (fun _ h => h) rfl dX5_last_95 ?_
                  obtain ⟨hg59, hf⟩ := gd_some hf
                  refine lv_idiv hx hb dX5_last_98 (nz_ne hg59) ?_
                  refine nm_i hf (fun x60 hf => ?_)
                  refine lv_istore (lv' := [(6, .int x60), (5, .int x58), (4, .int (-1 : Int32)), (3, .int (0 : Int32)), (0, .ref (ad 0)), (1, .int u1), (2, .int u2)]) hx hb dX5_last_99 hl (by decide) rfl (fun ls hl => ?_)
                  refine lv_iload_n hx hb dX5_last_101 rfl (lv_at hl 5 rfl) ?_
                  refine lv_istore (lv' := [(7, .int u1), (6, .int x60), (5, .int x58), (4, .int (-1 : Int32)), (3, .int (0 : Int32)), (0, .ref (ad 0)), (1, .int u1), (2, .int u2)]) hx hb dX5_last_102 hl (by decide) rfl (fun ls hl => ?_)
                  refine w_104 u1 (0 : Int32) (-1 : Int32) _ ?_ _ x58 x60 u1 ls hf (lv_sub hl [5, 6, 4, 3, 2, 1, 0] rfl)
                  · intro y61 ls hf hl
                    refine lv_iload hx hb dX5_last_196 (lv_at hl 0 rfl) ?_
                    exact pretI hx hb hr hlk hf dX5_last_198
              · have hf := (if_neg h).symm.trans hf
                refine lv_iconst (v := 1) hx hb dX5_last_69 (by decide) ?_
                refine lv_goto (tgt := 83) hx hb dX5_last_70 (by decide) ?_
                refine lv_istore (lv' := [(4, .int (1 : Int32)), (3, .int (0 : Int32)), (0, .ref (ad 0)), (1, .int u1), (2, .int u2)]) hx hb dX5_last_83 hl (by decide) rfl (fun ls hl => ?_)
                refine lv_iload_n hx hb dX5_last_85 rfl (lv_at hl 3 rfl) ?_
                refine lv_aload_n hx hb dX5_last_86 rfl (lv_at hl 2 rfl) ?_
                refine va_get (D := D) (ci := 5) (v := .int o.2.1) (C := RX5) (T := TX5) (N := 24) hx hb hts inX5 hown hKK.1 hP 0 rfl rfl 2 (by decide) (hts _ q675) (fun _ h => h) rfl dX5_last_87 ?_
                obtain ⟨hg62, hf⟩ := gd_some hf
                refine lv_irem hx hb dX5_last_90 (nz_ne hg62) ?_
                refine nm_i hf (fun x63 hf => ?_)
                refine lv_istore (lv' := [(5, .int x63), (4, .int (1 : Int32)), (3, .int (0 : Int32)), (0, .ref (ad 0)), (1, .int u1), (2, .int u2)]) hx hb dX5_last_91 hl (by decide) rfl (fun ls hl => ?_)
                refine lv_iload_n hx hb dX5_last_93 rfl (lv_at hl 4 rfl) ?_
                refine lv_aload_n hx hb dX5_last_94 rfl (lv_at hl 3 rfl) ?_
                refine va_get (D := D) (ci := 5) (v := .int o.2.1) (C := RX5) (T := TX5) (N := 24) hx hb hts inX5 hown hKK.1 hP 0 rfl rfl 2 (by decide) (hts _ q675) (fun _ h => h) rfl dX5_last_95 ?_
                obtain ⟨hg64, hf⟩ := gd_some hf
                refine lv_idiv hx hb dX5_last_98 (nz_ne hg64) ?_
                refine nm_i hf (fun x65 hf => ?_)
                refine lv_istore (lv' := [(6, .int x65), (5, .int x63), (4, .int (1 : Int32)), (3, .int (0 : Int32)), (0, .ref (ad 0)), (1, .int u1), (2, .int u2)]) hx hb dX5_last_99 hl (by decide) rfl (fun ls hl => ?_)
                refine lv_iload_n hx hb dX5_last_101 rfl (lv_at hl 5 rfl) ?_
                refine lv_istore (lv' := [(7, .int u1), (6, .int x65), (5, .int x63), (4, .int (1 : Int32)), (3, .int (0 : Int32)), (0, .ref (ad 0)), (1, .int u1), (2, .int u2)]) hx hb dX5_last_102 hl (by decide) rfl (fun ls hl => ?_)
                refine w_104 u1 (0 : Int32) (1 : Int32) _ ?_ _ x63 x65 u1 ls hf (lv_sub hl [5, 6, 4, 3, 2, 1, 0] rfl)
                · intro y66 ls hf hl
                  refine lv_iload hx hb dX5_last_196 (lv_at hl 0 rfl) ?_
                  exact pretI hx hb hr hlk hf dX5_last_198
            · have hf := (if_neg h).symm.trans hf
              refine lv_iconst (v := -1) hx hb dX5_last_51 (by decide) ?_
              refine lv_goto (tgt := 56) hx hb dX5_last_52 (by decide) ?_
              refine lv_istore_n (lv' := [(3, .int (-1 : Int32)), (0, .ref (ad 0)), (1, .int u1), (2, .int u2)]) hx hb dX5_last_56 rfl hl (by decide) rfl (fun ls hl => ?_)
              refine lv_iload_n hx hb dX5_last_57 rfl (lv_at hl 3 rfl) ?_
              refine lv_i2l hx hb dX5_last_58 rfl ?_
              refine lv_lconst (v := 1) hx hb dX5_last_59 (by decide) ?_
              refine lv_ldc2 hx hb hown (hts _ q924) dX5_last_60 ?_
              obtain ⟨r68, hc67, hf⟩ := bd_some hf
              have hP1 := hP.sub (ws' := []) [] rfl
              refine pCallSI ⟨hx, hb, hml, hown, hts⟩ (mtX5_in l D cy z u2.toInt64 (1 : Int64) (3 : Int64) r68 hc67) miX5_in q751 ⟨Nat.le_of_ble_eq_true rfl, Nat.le_of_ble_eq_true rfl⟩ ⟨rfl, rfl⟩ hP1 hKK hS hA0 rfl hl.1 rfl (Nat.le_of_ble_eq_true rfl) dX5_last_63 ⟨Nat.zero_le _, Nat.zero_le _⟩ ?_
              refine lv_if_eq (tgt := 73) hx hb dX5_last_66 (by decide) (fun h => ?_) (fun h => ?_)
              · have hf := (if_pos h).symm.trans hf
                refine lv_iload_n hx hb dX5_last_73 rfl (lv_at hl 3 rfl) ?_
                refine lv_iconst (v := 4) hx hb dX5_last_74 (by decide) ?_
                refine lv_icmp_le (tgt := 82) hx hb dX5_last_75 (by decide) (fun h => ?_) (fun h => ?_)
                · have hf := (if_pos h).symm.trans hf
                  refine lv_iconst (v := 0) hx hb dX5_last_82 (by decide) ?_
                  refine lv_istore (lv' := [(4, .int (0 : Int32)), (3, .int (-1 : Int32)), (0, .ref (ad 0)), (1, .int u1), (2, .int u2)]) hx hb dX5_last_83 hl (by decide) rfl (fun ls hl => ?_)
                  refine lv_iload_n hx hb dX5_last_85 rfl (lv_at hl 3 rfl) ?_
                  refine lv_aload_n hx hb dX5_last_86 rfl (lv_at hl 2 rfl) ?_
                  refine va_get (D := D) (ci := 5) (v := .int o.2.1) (C := RX5) (T := TX5) (N := 24) hx hb hts inX5 hown hKK.1 hP 0 rfl rfl 2 (by decide) (hts _ q675) (fun _ h => h) rfl dX5_last_87 ?_
                  obtain ⟨hg69, hf⟩ := gd_some hf
                  refine lv_irem hx hb dX5_last_90 (nz_ne hg69) ?_
                  refine nm_i hf (fun x70 hf => ?_)
                  refine lv_istore (lv' := [(5, .int x70), (4, .int (0 : Int32)), (3, .int (-1 : Int32)), (0, .ref (ad 0)), (1, .int u1), (2, .int u2)]) hx hb dX5_last_91 hl (by decide) rfl (fun ls hl => ?_)
                  refine lv_iload_n hx hb dX5_last_93 rfl (lv_at hl 4 rfl) ?_
                  refine lv_aload_n hx hb dX5_last_94 rfl (lv_at hl 3 rfl) ?_
                  refine va_get (D := D) (ci := 5) (v := .int o.2.1) (C := RX5) (T := TX5) (N := 24) hx hb hts inX5 hown hKK.1 hP 0 rfl rfl 2 (by decide) (hts _ q675) (fun _ h => h) rfl dX5_last_95 ?_
                  obtain ⟨hg71, hf⟩ := gd_some hf
                  refine lv_idiv hx hb dX5_last_98 (nz_ne hg71) ?_
                  refine nm_i hf (fun x72 hf => ?_)
                  refine lv_istore (lv' := [(6, .int x72), (5, .int x70), (4, .int (0 : Int32)), (3, .int (-1 : Int32)), (0, .ref (ad 0)), (1, .int u1), (2, .int u2)]) hx hb dX5_last_99 hl (by decide) rfl (fun ls hl => ?_)
                  refine lv_iload_n hx hb dX5_last_101 rfl (lv_at hl 5 rfl) ?_
                  refine lv_istore (lv' := [(7, .int u1), (6, .int x72), (5, .int x70), (4, .int (0 : Int32)), (3, .int (-1 : Int32)), (0, .ref (ad 0)), (1, .int u1), (2, .int u2)]) hx hb dX5_last_102 hl (by decide) rfl (fun ls hl => ?_)
                  refine w_104 u1 (-1 : Int32) (0 : Int32) _ ?_ _ x70 x72 u1 ls hf (lv_sub hl [5, 6, 4, 3, 2, 1, 0] rfl)
                  · intro y73 ls hf hl
                    refine lv_iload hx hb dX5_last_196 (lv_at hl 0 rfl) ?_
                    exact pretI hx hb hr hlk hf dX5_last_198
                · have hf := (if_neg h).symm.trans hf
                  refine lv_iconst (v := -1) hx hb dX5_last_78 (by decide) ?_
                  refine lv_goto (tgt := 83) hx hb dX5_last_79 (by decide) ?_
                  refine lv_istore (lv' := [(4, .int (-1 : Int32)), (3, .int (-1 : Int32)), (0, .ref (ad 0)), (1, .int u1), (2, .int u2)]) hx hb dX5_last_83 hl (by decide) rfl (fun ls hl => ?_)
                  refine lv_iload_n hx hb dX5_last_85 rfl (lv_at hl 3 rfl) ?_
                  refine lv_aload_n hx hb dX5_last_86 rfl (lv_at hl 2 rfl) ?_
                  refine va_get (D := D) (ci := 5) (v := .int o.2.1) (C := RX5) (T := TX5) (N := 24) hx hb hts inX5 hown hKK.1 hP 0 rfl rfl 2 (by decide) (hts _ q675) (fun _ h => h) rfl dX5_last_87 ?_
                  obtain ⟨hg74, hf⟩ := gd_some hf
                  refine lv_irem hx hb dX5_last_90 (nz_ne hg74) ?_
                  refine nm_i hf (fun x75 hf => ?_)
                  refine lv_istore (lv' := [(5, .int x75), (4, .int (-1 : Int32)), (3, .int (-1 : Int32)), (0, .ref (ad 0)), (1, .int u1), (2, .int u2)]) hx hb dX5_last_91 hl (by decide) rfl (fun ls hl => ?_)
                  refine lv_iload_n hx hb dX5_last_93 rfl (lv_at hl 4 rfl) ?_
                  refine lv_aload_n hx hb dX5_last_94 rfl (lv_at hl 3 rfl) ?_
                  refine va_get (D := D) (ci := 5) (v := .int o.2.1) (C := RX5) (T := TX5) (N := 24) hx hb hts inX5 hown hKK.1 hP 0 rfl rfl 2 (by decide) (hts _ q675) (fun _ h => h) rfl dX5_last_95 ?_
                  obtain ⟨hg76, hf⟩ := gd_some hf
                  refine lv_idiv hx hb dX5_last_98 (nz_ne hg76) ?_
                  refine nm_i hf (fun x77 hf => ?_)
                  refine lv_istore (lv' := [(6, .int x77), (5, .int x75), (4, .int (-1 : Int32)), (3, .int (-1 : Int32)), (0, .ref (ad 0)), (1, .int u1), (2, .int u2)]) hx hb dX5_last_99 hl (by decide) rfl (fun ls hl => ?_)
                  refine lv_iload_n hx hb dX5_last_101 rfl (lv_at hl 5 rfl) ?_
                  refine lv_istore (lv' := [(7, .int u1), (6, .int x77), (5, .int x75), (4, .int (-1 : Int32)), (3, .int (-1 : Int32)), (0, .ref (ad 0)), (1, .int u1), (2, .int u2)]) hx hb dX5_last_102 hl (by decide) rfl (fun ls hl => ?_)
                  refine w_104 u1 (-1 : Int32) (-1 : Int32) _ ?_ _ x75 x77 u1 ls hf (lv_sub hl [5, 6, 4, 3, 2, 1, 0] rfl)
                  · intro y78 ls hf hl
                    refine lv_iload hx hb dX5_last_196 (lv_at hl 0 rfl) ?_
                    exact pretI hx hb hr hlk hf dX5_last_198
              · have hf := (if_neg h).symm.trans hf
                refine lv_iconst (v := 1) hx hb dX5_last_69 (by decide) ?_
                refine lv_goto (tgt := 83) hx hb dX5_last_70 (by decide) ?_
                refine lv_istore (lv' := [(4, .int (1 : Int32)), (3, .int (-1 : Int32)), (0, .ref (ad 0)), (1, .int u1), (2, .int u2)]) hx hb dX5_last_83 hl (by decide) rfl (fun ls hl => ?_)
                refine lv_iload_n hx hb dX5_last_85 rfl (lv_at hl 3 rfl) ?_
                refine lv_aload_n hx hb dX5_last_86 rfl (lv_at hl 2 rfl) ?_
                refine va_get (D := D) (ci := 5) (v := .int o.2.1) (C := RX5) (T := TX5) (N := 24) hx hb hts inX5 hown hKK.1 hP 0 rfl rfl 2 (by decide) (hts _ q675) (fun _ h => h) rfl dX5_last_87 ?_
                obtain ⟨hg79, hf⟩ := gd_some hf
                refine lv_irem hx hb dX5_last_90 (nz_ne hg79) ?_
                refine nm_i hf (fun x80 hf => ?_)
                refine lv_istore (lv' := [(5, .int x80), (4, .int (1 : Int32)), (3, .int (-1 : Int32)), (0, .ref (ad 0)), (1, .int u1), (2, .int u2)]) hx hb dX5_last_91 hl (by decide) rfl (fun ls hl => ?_)
                refine lv_iload_n hx hb dX5_last_93 rfl (lv_at hl 4 rfl) ?_
                refine lv_aload_n hx hb dX5_last_94 rfl (lv_at hl 3 rfl) ?_
                refine va_get (D := D) (ci := 5) (v := .int o.2.1) (C := RX5) (T := TX5) (N := 24) hx hb hts inX5 hown hKK.1 hP 0 rfl rfl 2 (by decide) (hts _ q675) (fun _ h => h) rfl dX5_last_95 ?_
                obtain ⟨hg81, hf⟩ := gd_some hf
                refine lv_idiv hx hb dX5_last_98 (nz_ne hg81) ?_
                refine nm_i hf (fun x82 hf => ?_)
                refine lv_istore (lv' := [(6, .int x82), (5, .int x80), (4, .int (1 : Int32)), (3, .int (-1 : Int32)), (0, .ref (ad 0)), (1, .int u1), (2, .int u2)]) hx hb dX5_last_99 hl (by decide) rfl (fun ls hl => ?_)
                refine lv_iload_n hx hb dX5_last_101 rfl (lv_at hl 5 rfl) ?_
                refine lv_istore (lv' := [(7, .int u1), (6, .int x82), (5, .int x80), (4, .int (1 : Int32)), (3, .int (-1 : Int32)), (0, .ref (ad 0)), (1, .int u1), (2, .int u2)]) hx hb dX5_last_102 hl (by decide) rfl (fun ls hl => ?_)
                refine w_104 u1 (-1 : Int32) (1 : Int32) _ ?_ _ x80 x82 u1 ls hf (lv_sub hl [5, 6, 4, 3, 2, 1, 0] rfl)
                · intro y83 ls hf hl
                  refine lv_iload hx hb dX5_last_196 (lv_at hl 0 rfl) ?_
                  exact pretI hx hb hr hlk hf dX5_last_198
        · have hf := (if_pos h).symm.trans hf
          refine lv_iconst (v := 1) hx hb dX5_last_36 (by decide) ?_
          refine lv_goto (tgt := 56) hx hb dX5_last_37 (by decide) ?_
          refine lv_istore_n (lv' := [(3, .int (1 : Int32)), (0, .ref (ad 0)), (1, .int u1), (2, .int u2)]) hx hb dX5_last_56 rfl hl (by decide) rfl (fun ls hl => ?_)
          refine lv_iload_n hx hb dX5_last_57 rfl (lv_at hl 3 rfl) ?_
          refine lv_i2l hx hb dX5_last_58 rfl ?_
          refine lv_lconst (v := 1) hx hb dX5_last_59 (by decide) ?_
          refine lv_ldc2 hx hb hown (hts _ q924) dX5_last_60 ?_
          obtain ⟨r85, hc84, hf⟩ := bd_some hf
          have hP1 := hP.sub (ws' := []) [] rfl
          refine pCallSI ⟨hx, hb, hml, hown, hts⟩ (mtX5_in l D cy z u2.toInt64 (1 : Int64) (3 : Int64) r85 hc84) miX5_in q751 ⟨Nat.le_of_ble_eq_true rfl, Nat.le_of_ble_eq_true rfl⟩ ⟨rfl, rfl⟩ hP1 hKK hS hA0 rfl hl.1 rfl (Nat.le_of_ble_eq_true rfl) dX5_last_63 ⟨Nat.zero_le _, Nat.zero_le _⟩ ?_
          refine lv_if_eq (tgt := 73) hx hb dX5_last_66 (by decide) (fun h => ?_) (fun h => ?_)
          · have hf := (if_pos h).symm.trans hf
            refine lv_iload_n hx hb dX5_last_73 rfl (lv_at hl 3 rfl) ?_
            refine lv_iconst (v := 4) hx hb dX5_last_74 (by decide) ?_
            refine lv_icmp_le (tgt := 82) hx hb dX5_last_75 (by decide) (fun h => ?_) (fun h => ?_)
            · have hf := (if_pos h).symm.trans hf
              refine lv_iconst (v := 0) hx hb dX5_last_82 (by decide) ?_
              refine lv_istore (lv' := [(4, .int (0 : Int32)), (3, .int (1 : Int32)), (0, .ref (ad 0)), (1, .int u1), (2, .int u2)]) hx hb dX5_last_83 hl (by decide) rfl (fun ls hl => ?_)
              refine lv_iload_n hx hb dX5_last_85 rfl (lv_at hl 3 rfl) ?_
              refine lv_aload_n hx hb dX5_last_86 rfl (lv_at hl 2 rfl) ?_
              refine va_get (D := D) (ci := 5) (v := .int o.2.1) (C := RX5) (T := TX5) (N := 24) hx hb hts inX5 hown hKK.1 hP 0 rfl rfl 2 (by decide) (hts _ q675) (fun _ h => h) rfl dX5_last_87 ?_
              obtain ⟨hg86, hf⟩ := gd_some hf
              refine lv_irem hx hb dX5_last_90 (nz_ne hg86) ?_
              refine nm_i hf (fun x87 hf => ?_)
              refine lv_istore (lv' := [(5, .int x87), (4, .int (0 : Int32)), (3, .int (1 : Int32)), (0, .ref (ad 0)), (1, .int u1), (2, .int u2)]) hx hb dX5_last_91 hl (by decide) rfl (fun ls hl => ?_)
              refine lv_iload_n hx hb dX5_last_93 rfl (lv_at hl 4 rfl) ?_
              refine lv_aload_n hx hb dX5_last_94 rfl (lv_at hl 3 rfl) ?_
              refine va_get (D := D) (ci := 5) (v := .int o.2.1) (C := RX5) (T := TX5) (N := 24) hx hb hts inX5 hown hKK.1 hP 0 rfl rfl 2 (by decide) (hts _ q675) (fun _ h => h) rfl dX5_last_95 ?_
              obtain ⟨hg88, hf⟩ := gd_some hf
              refine lv_idiv hx hb dX5_last_98 (nz_ne hg88) ?_
              refine nm_i hf (fun x89 hf => ?_)
              refine lv_istore (lv' := [(6, .int x89), (5, .int x87), (4, .int (0 : Int32)), (3, .int (1 : Int32)), (0, .ref (ad 0)), (1, .int u1), (2, .int u2)]) hx hb dX5_last_99 hl (by decide) rfl (fun ls hl => ?_)
              refine lv_iload_n hx hb dX5_last_101 rfl (lv_at hl 5 rfl) ?_
              refine lv_istore (lv' := [(7, .int u1), (6, .int x89), (5, .int x87), (4, .int (0 : Int32)), (3, .int (1 : Int32)), (0, .ref (ad 0)), (1, .int u1), (2, .int u2)]) hx hb dX5_last_102 hl (by decide) rfl (fun ls hl => ?_)
              refine w_104 u1 (1 : Int32) (0 : Int32) _ ?_ _ x87 x89 u1 ls hf (lv_sub hl [5, 6, 4, 3, 2, 1, 0] rfl)
              · intro y90 ls hf hl
                refine lv_iload hx hb dX5_last_196 (lv_at hl 0 rfl) ?_
                exact pretI hx hb hr hlk hf dX5_last_198
            · have hf := (if_neg h).symm.trans hf
              refine lv_iconst (v := -1) hx hb dX5_last_78 (by decide) ?_
              refine lv_goto (tgt := 83) hx hb dX5_last_79 (by decide) ?_
              refine lv_istore (lv' := [(4, .int (-1 : Int32)), (3, .int (1 : Int32)), (0, .ref (ad 0)), (1, .int u1), (2, .int u2)]) hx hb dX5_last_83 hl (by decide) rfl (fun ls hl => ?_)
              refine lv_iload_n hx hb dX5_last_85 rfl (lv_at hl 3 rfl) ?_
              refine lv_aload_n hx hb dX5_last_86 rfl (lv_at hl 2 rfl) ?_
              refine va_get (D := D) (ci := 5) (v := .int o.2.1) (C := RX5) (T := TX5) (N := 24) hx hb hts inX5 hown hKK.1 hP 0 rfl rfl 2 (by decide) (hts _ q675) (fun _ h => h) rfl dX5_last_87 ?_
              obtain ⟨hg91, hf⟩ := gd_some hf
              refine lv_irem hx hb dX5_last_90 (nz_ne hg91) ?_
              refine nm_i hf (fun x92 hf => ?_)
              refine lv_istore (lv' := [(5, .int x92), (4, .int (-1 : Int32)), (3, .int (1 : Int32)), (0, .ref (ad 0)), (1, .int u1), (2, .int u2)]) hx hb dX5_last_91 hl (by decide) rfl (fun ls hl => ?_)
              refine lv_iload_n hx hb dX5_last_93 rfl (lv_at hl 4 rfl) ?_
              refine lv_aload_n hx hb dX5_last_94 rfl (lv_at hl 3 rfl) ?_
              refine va_get (D := D) (ci := 5) (v := .int o.2.1) (C := RX5) (T := TX5) (N := 24) hx hb hts inX5 hown hKK.1 hP 0 rfl rfl 2 (by decide) (hts _ q675) (fun _ h => h) rfl dX5_last_95 ?_
              obtain ⟨hg93, hf⟩ := gd_some hf
              refine lv_idiv hx hb dX5_last_98 (nz_ne hg93) ?_
              refine nm_i hf (fun x94 hf => ?_)
              refine lv_istore (lv' := [(6, .int x94), (5, .int x92), (4, .int (-1 : Int32)), (3, .int (1 : Int32)), (0, .ref (ad 0)), (1, .int u1), (2, .int u2)]) hx hb dX5_last_99 hl (by decide) rfl (fun ls hl => ?_)
              refine lv_iload_n hx hb dX5_last_101 rfl (lv_at hl 5 rfl) ?_
              refine lv_istore (lv' := [(7, .int u1), (6, .int x94), (5, .int x92), (4, .int (-1 : Int32)), (3, .int (1 : Int32)), (0, .ref (ad 0)), (1, .int u1), (2, .int u2)]) hx hb dX5_last_102 hl (by decide) rfl (fun ls hl => ?_)
              refine w_104 u1 (1 : Int32) (-1 : Int32) _ ?_ _ x92 x94 u1 ls hf (lv_sub hl [5, 6, 4, 3, 2, 1, 0] rfl)
              · intro y95 ls hf hl
                refine lv_iload hx hb dX5_last_196 (lv_at hl 0 rfl) ?_
                exact pretI hx hb hr hlk hf dX5_last_198
          · have hf := (if_neg h).symm.trans hf
            refine lv_iconst (v := 1) hx hb dX5_last_69 (by decide) ?_
            refine lv_goto (tgt := 83) hx hb dX5_last_70 (by decide) ?_
            refine lv_istore (lv' := [(4, .int (1 : Int32)), (3, .int (1 : Int32)), (0, .ref (ad 0)), (1, .int u1), (2, .int u2)]) hx hb dX5_last_83 hl (by decide) rfl (fun ls hl => ?_)
            refine lv_iload_n hx hb dX5_last_85 rfl (lv_at hl 3 rfl) ?_
            refine lv_aload_n hx hb dX5_last_86 rfl (lv_at hl 2 rfl) ?_
            refine va_get (D := D) (ci := 5) (v := .int o.2.1) (C := RX5) (T := TX5) (N := 24) hx hb hts inX5 hown hKK.1 hP 0 rfl rfl 2 (by decide) (hts _ q675) (fun _ h => h) rfl dX5_last_87 ?_
            obtain ⟨hg96, hf⟩ := gd_some hf
            refine lv_irem hx hb dX5_last_90 (nz_ne hg96) ?_
            refine nm_i hf (fun x97 hf => ?_)
            refine lv_istore (lv' := [(5, .int x97), (4, .int (1 : Int32)), (3, .int (1 : Int32)), (0, .ref (ad 0)), (1, .int u1), (2, .int u2)]) hx hb dX5_last_91 hl (by decide) rfl (fun ls hl => ?_)
            refine lv_iload_n hx hb dX5_last_93 rfl (lv_at hl 4 rfl) ?_
            refine lv_aload_n hx hb dX5_last_94 rfl (lv_at hl 3 rfl) ?_
            refine va_get (D := D) (ci := 5) (v := .int o.2.1) (C := RX5) (T := TX5) (N := 24) hx hb hts inX5 hown hKK.1 hP 0 rfl rfl 2 (by decide) (hts _ q675) (fun _ h => h) rfl dX5_last_95 ?_
            obtain ⟨hg98, hf⟩ := gd_some hf
            refine lv_idiv hx hb dX5_last_98 (nz_ne hg98) ?_
            refine nm_i hf (fun x99 hf => ?_)
            refine lv_istore (lv' := [(6, .int x99), (5, .int x97), (4, .int (1 : Int32)), (3, .int (1 : Int32)), (0, .ref (ad 0)), (1, .int u1), (2, .int u2)]) hx hb dX5_last_99 hl (by decide) rfl (fun ls hl => ?_)
            refine lv_iload_n hx hb dX5_last_101 rfl (lv_at hl 5 rfl) ?_
            refine lv_istore (lv' := [(7, .int u1), (6, .int x99), (5, .int x97), (4, .int (1 : Int32)), (3, .int (1 : Int32)), (0, .ref (ad 0)), (1, .int u1), (2, .int u2)]) hx hb dX5_last_102 hl (by decide) rfl (fun ls hl => ?_)
            refine w_104 u1 (1 : Int32) (1 : Int32) _ ?_ _ x97 x99 u1 ls hf (lv_sub hl [5, 6, 4, 3, 2, 1, 0] rfl)
            · intro y100 ls hf hl
              refine lv_iload hx hb dX5_last_196 (lv_at hl 0 rfl) ?_
              exact pretI hx hb hr hlk hf dX5_last_198
    · have hf := (if_pos h).symm.trans hf
      refine lv_bipush (v := -2) hx hb dX5_last_22 (by decide) ?_
      exact pretI hx hb hr hlk hf dX5_last_24
  · have hf := (if_pos h).symm.trans hf
    refine lv_iconst (v := -1) hx hb dX5_last_8 (by decide) ?_
    exact pretI hx hb hr hlk hf dX5_last_9

abbrev rmX5_layViews : Room := { frames := 8, cells := 0, slots := 0, locals := 204 }
theorem miX5_layViews : miV yX5_layViews cX5_layViews 3 none 1 := ⟨q970, q46, q969, q36, by decide +kernel⟩
set_option maxHeartbeats 4000000 in
set_option maxRecDepth 100000 in
theorem mtX5_layViews (l : Launch) (D : va_G) (cy : Nat → ClassId) (z : zT) (ad : Nat → Nat) (M : tM) (u1 : Int32) (M0 : tM) (hf : fX5_layViews M u1 = some M0) : mmet l yX5_layViews cX5_layViews 3 none rmX5_layViews D cy z (wM cy ad M) (wM cy ad M0) [.ref (ad 0), .int u1] none := by
  refine mmet_of (by decide +kernel) (Nat.le_of_ble_eq_true rfl) (fun p e s m below meth c hx hb hr hml hown hts hlk hP hD hS hA0 hKK ls hl => ?_)
  have hown : s.vm.findClass "HillSightModel" = some m.cls := hown
  have hl : lv_has ls 3 [(0, .ref (ad 0)), (1, .int u1)] := hl
  have w_2 : ∀ (g1_2 : Int32) (k32 : tM → Option (tM)) (hk32 : ∀ (M_2 : tM) (H : Heap) (locs : List Loc) (ls : Array Slot), k32 M_2 = some M0 → va_P D vwCl (wM cy ad M_2) H → va_D (adr (wM cy ad M)) (wM cy ad M_2) → va_S (adr (wM cy ad M)) s.heap H locs → lv_has ls 3 [] → W p l e rmX5_layViews s m ([.ref (ad 0), .int u1] : List Value).toArray below meth c H locs 0 0 (MQ below (mQ D (wM cy ad M) (wM cy ad M0) none) ([.ref (ad 0), .int u1] : List Value).toArray s 0 0 (adr (wM cy ad M))) (F0 m 32 ls [])) (n : Nat) (v2_2 : Int32) (M_2 : tM) (H : Heap) (locs : List Loc) (ls : Array Slot), fX5_layViews_2 g1_2 k32 n v2_2 M_2 = some M0 → va_P D vwCl (wM cy ad M_2) H → va_D (adr (wM cy ad M)) (wM cy ad M_2) → va_S (adr (wM cy ad M)) s.heap H locs → lv_has ls 3 [(0, .ref (ad 0)), (1, .int g1_2), (2, .int v2_2)] → W p l e rmX5_layViews s m ([.ref (ad 0), .int u1] : List Value).toArray below meth c H locs 0 0 (MQ below (mQ D (wM cy ad M) (wM cy ad M0) none) ([.ref (ad 0), .int u1] : List Value).toArray s 0 0 (adr (wM cy ad M))) (F0 m 2 ls []) := by
    intro g1_2 k32 hk32 n
    induction n with
    | zero =>
      intro v2_2 M_2 H locs ls hf hP hD hS hl
      cases (show (none : Option (tM)) = some M0 from hf)
    | succ n ih =>
      intro v2_2 M_2 H locs ls hf hP hD hS hl
      rw [fX5_layViews_2] at hf
      refine lv_iload_n hx hb dX5_layViews_2 rfl (lv_at hl 2 rfl) ?_
      refine lv_aload_n hx hb dX5_layViews_3 rfl (lv_at hl 0 rfl) ?_
      obtain ⟨r2, hc1, hf⟩ := bd_some hf
      have hP1 := hP.sub (ws' := [moC ad M_2.1]) [0] rfl
      refine pCallVI ⟨hx, hb, hml, hown, hts⟩ (mtX5_cells l D cy z ad M_2.1 r2 hc1) miX5_cells q792 ⟨Nat.le_of_ble_eq_true rfl, Nat.le_of_ble_eq_true rfl⟩ ⟨rfl, rfl⟩ hP1 hKK hS hA0 (va_recv hKK.1 hP1 (ci := 5) (q0 := 0) rfl rfl) rfl hl.1 rfl (Nat.le_of_ble_eq_true rfl) dX5_layViews_4 ⟨Nat.zero_le _, Nat.zero_le _⟩ ?_
      refine lv_icmp_ge (tgt := 32) hx hb dX5_layViews_7 (by decide) (fun h => ?_) (fun h => ?_)
      · have hf := (if_pos h).symm.trans hf
        exact hk32 M_2 _ _ ls hf hP hD hS (lv_sub hl [] rfl)
      · have hf := (if_neg h).symm.trans hf
        refine lv_aload_n hx hb dX5_layViews_10 rfl (lv_at hl 0 rfl) ?_
        refine va_get (D := D) (ci := 5) (v := .ref (ad 11)) (C := RX5) (T := TX5) (N := 24) hx hb hts inX5 hown hKK.1 hP 0 rfl rfl 22 (by decide) (hts _ q695) (fun _ h => h) rfl dX5_layViews_11 ?_
        refine lv_iload_n hx hb dX5_layViews_14 rfl (lv_at hl 2 rfl) ?_
        refine lv_aload_n hx hb dX5_layViews_15 rfl (lv_at hl 0 rfl) ?_
        refine lv_aload_n hx hb dX5_layViews_16 rfl (lv_at hl 0 rfl) ?_
        refine va_get (D := D) (ci := 5) (v := .ref (ad 2)) (C := RX5) (T := TX5) (N := 24) hx hb hts inX5 hown hKK.1 hP 0 rfl rfl 4 (by decide) (hts _ q677) (fun _ h => h) rfl dX5_layViews_17 ?_
        refine lv_iload_n hx hb dX5_layViews_20 rfl (lv_at hl 2 rfl) ?_
        refine lv_iload_n hx hb dX5_layViews_21 rfl (lv_at hl 1 rfl) ?_
        obtain ⟨r4, hc3, hf⟩ := bd_some hf
        have hP1 := hP.sub (ws' := [moC ad M_2.1, arI cy (ad 2) 51 M_2.2.2.1]) [0, 2] rfl
        refine pCallVL ⟨hx, hb, hml, hown, hts⟩ (mtX5_viewOf l D cy z ad (ad 2) M_2.1 M_2.2.2.1 v2_2 g1_2 r4 hc3) miX5_viewOf q812 ⟨Nat.le_of_ble_eq_true rfl, Nat.le_of_ble_eq_true rfl⟩ ⟨rfl, rfl⟩ hP1 hKK hS hA0 (va_recv hKK.1 hP1 (ci := 5) (q0 := 0) rfl rfl) rfl hl.1 rfl (Nat.le_of_ble_eq_true rfl) dX5_layViews_22 ⟨Nat.zero_le _, Nat.zero_le _⟩ ?_
        obtain ⟨hg5, hf⟩ := gd_some hf
        refine va_last hx hb hKK.1 hP hD hS 11 1 rfl rfl (inb_in hg5) dX5_layViews_25 (fun H locs hP hD hS => ?_)
        have hP : va_P D vwCl (wM cy ad (M_2.1, M_2.2.1, M_2.2.2.1, M_2.2.2.2.1, M_2.2.2.2.2.1, M_2.2.2.2.2.2.1, M_2.2.2.2.2.2.2.1, M_2.2.2.2.2.2.2.2.1, M_2.2.2.2.2.2.2.2.2.1, M_2.2.2.2.2.2.2.2.2.2.1, M_2.2.2.2.2.2.2.2.2.2.2.1, (vp_updL M_2.2.2.2.2.2.2.2.2.2.2.2.1 v2_2.toNatClampNeg r4), M_2.2.2.2.2.2.2.2.2.2.2.2.2)) H := hP
        have hD : va_D (adr (wM cy ad M)) (wM cy ad (M_2.1, M_2.2.1, M_2.2.2.1, M_2.2.2.2.1, M_2.2.2.2.2.1, M_2.2.2.2.2.2.1, M_2.2.2.2.2.2.2.1, M_2.2.2.2.2.2.2.2.1, M_2.2.2.2.2.2.2.2.2.1, M_2.2.2.2.2.2.2.2.2.2.1, M_2.2.2.2.2.2.2.2.2.2.2.1, (vp_updL M_2.2.2.2.2.2.2.2.2.2.2.2.1 v2_2.toNatClampNeg r4), M_2.2.2.2.2.2.2.2.2.2.2.2.2)) := hD
        obtain ⟨x6, ex6, hf⟩ := nm_ex hf
        refine lv_iinc (v := x6) (lv' := [(2, .int x6), (0, .ref (ad 0)), (1, .int g1_2)]) hx hb dX5_layViews_26 hl (k := 2) rfl (Eq.trans rfl ex6) (by decide) rfl (fun ls hl => ?_)
        refine lv_goto (tgt := 2) hx hb dX5_layViews_29 (by decide) ?_
        exact ih x6 (M_2.1, M_2.2.1, M_2.2.2.1, M_2.2.2.2.1, M_2.2.2.2.2.1, M_2.2.2.2.2.2.1, M_2.2.2.2.2.2.2.1, M_2.2.2.2.2.2.2.2.1, M_2.2.2.2.2.2.2.2.2.1, M_2.2.2.2.2.2.2.2.2.2.1, M_2.2.2.2.2.2.2.2.2.2.2.1, (vp_updL M_2.2.2.2.2.2.2.2.2.2.2.2.1 v2_2.toNatClampNeg r4), M_2.2.2.2.2.2.2.2.2.2.2.2.2) _ _ ls hf hP hD hS (lv_sub hl [1, 2, 0] rfl)
  unfold fX5_layViews at hf
  refine lv_iconst (v := 0) hx hb dX5_layViews_0 (by decide) ?_
  refine lv_istore_n (lv' := [(2, .int (0 : Int32)), (0, .ref (ad 0)), (1, .int u1)]) hx hb dX5_layViews_1 rfl hl (by decide) rfl (fun ls hl => ?_)
  refine w_2 u1 _ ?_ _ (0 : Int32) M _ _ ls hf hP hD hS (lv_sub hl [1, 2, 0] rfl)
  · intro M7 H locs ls hf hP hD hS hl
    cases hf
    exact mretV hx hb hr hlk hP hS dX5_layViews_32

abbrev rmX5_best : Room := { frames := 10, cells := 0, slots := 0, locals := 250 }
theorem miX5_best : miV yX5_best cX5_best 9 (some .int) 2 := ⟨q966, q46, q964, q965, by decide +kernel⟩
set_option maxHeartbeats 4000000 in
set_option maxRecDepth 100000 in
theorem mtX5_best (l : Launch) (D : va_G) (cy : Nat → ClassId) (z : zT) (ad : Nat → Nat) (M : tM) (u1 : Int32) (u2 : Int32) (r0 : Int32) (M0 : tM) (hf : fX5_best M u1 u2 = some (r0, M0)) : mmet l yX5_best cX5_best 9 (some .int) rmX5_best D cy z (wM cy ad M) (wM cy ad M0) [.ref (ad 0), .int u1, .int u2] (some (.int r0)) := by
  refine mmet_of (by decide +kernel) (Nat.le_of_ble_eq_true rfl) (fun p e s m below meth c hx hb hr hml hown hts hlk hP hD hS hA0 hKK ls hl => ?_)
  have hown : s.vm.findClass "HillSightModel" = some m.cls := hown
  have hl : lv_has ls 9 [(0, .ref (ad 0)), (1, .int u1), (2, .int u2)] := hl
  have w_49 : ∀ (M_49 : tM) (g2_49 : Int32) (g3_49 : Int64) (k115 : Int32 → Int32 → Option (Int32 × tM)) (hk115 : ∀ (v5_49 : Int32) (v6_49 : Int32) (H : Heap) (locs : List Loc) (ls : Array Slot), k115 v5_49 v6_49 = some (r0, M0) → va_P D vwCl (wM cy ad M_49) H → va_D (adr (wM cy ad M)) (wM cy ad M_49) → va_S (adr (wM cy ad M)) s.heap H locs → lv_has ls 9 [(2, .int g2_49), (5, .int v5_49), (6, .int v6_49)] → W p l e rmX5_best s m ([.ref (ad 0), .int u1, .int u2] : List Value).toArray below meth c H locs 0 0 (MQ below (mQ D (wM cy ad M) (wM cy ad M0) (some (.int r0))) ([.ref (ad 0), .int u1, .int u2] : List Value).toArray s 0 0 (adr (wM cy ad M))) (F0 m 115 ls [])) (n : Nat) (v5_49 : Int32) (v6_49 : Int32) (v7_49 : Int32) (H : Heap) (locs : List Loc) (ls : Array Slot), fX5_best_49 M_49 g2_49 g3_49 k115 n v5_49 v6_49 v7_49 = some (r0, M0) → va_P D vwCl (wM cy ad M_49) H → va_D (adr (wM cy ad M)) (wM cy ad M_49) → va_S (adr (wM cy ad M)) s.heap H locs → lv_has ls 9 [(0, .ref (ad 0)), (2, .int g2_49), (3, .long g3_49), (5, .int v5_49), (6, .int v6_49), (7, .int v7_49)] → W p l e rmX5_best s m ([.ref (ad 0), .int u1, .int u2] : List Value).toArray below meth c H locs 0 0 (MQ below (mQ D (wM cy ad M) (wM cy ad M0) (some (.int r0))) ([.ref (ad 0), .int u1, .int u2] : List Value).toArray s 0 0 (adr (wM cy ad M))) (F0 m 49 ls []) := by
    intro M_49 g2_49 g3_49 k115 hk115 n
    induction n with
    | zero =>
      intro v5_49 v6_49 v7_49 H locs ls hf hP hD hS hl
      cases (show (none : Option (Int32 × tM)) = some (r0, M0) from hf)
    | succ n ih =>
      intro v5_49 v6_49 v7_49 H locs ls hf hP hD hS hl
      rw [fX5_best_49] at hf
      refine lv_iload hx hb dX5_best_49 (lv_at hl 5 rfl) ?_
      refine lv_aload_n hx hb dX5_best_51 rfl (lv_at hl 0 rfl) ?_
      obtain ⟨r10, hc9, hf⟩ := bd_some hf
      have hP1 := hP.sub (ws' := [moC ad M_49.1]) [0] rfl
      refine pCallVI ⟨hx, hb, hml, hown, hts⟩ (mtX5_cells l D cy z ad M_49.1 r10 hc9) miX5_cells q792 ⟨Nat.le_of_ble_eq_true rfl, Nat.le_of_ble_eq_true rfl⟩ ⟨rfl, rfl⟩ hP1 hKK hS hA0 (va_recv hKK.1 hP1 (ci := 5) (q0 := 0) rfl rfl) rfl hl.1 rfl (Nat.le_of_ble_eq_true rfl) dX5_best_52 ⟨Nat.zero_le _, Nat.zero_le _⟩ ?_
      refine lv_icmp_ge (tgt := 115) hx hb dX5_best_55 (by decide) (fun h => ?_) (fun h => ?_)
      · have hf := (if_pos h).symm.trans hf
        exact hk115 v5_49 v6_49 _ _ ls hf hP hD hS (lv_sub hl [1, 3, 4] rfl)
      · have hf := (if_neg h).symm.trans hf
        refine lv_aload_n hx hb dX5_best_58 rfl (lv_at hl 0 rfl) ?_
        obtain ⟨r12, hc11, hf⟩ := bd_some hf
        have hP1 := hP.sub (ws' := [moC ad M_49.1]) [0] rfl
        refine pCallVI ⟨hx, hb, hml, hown, hts⟩ (mtX5_cells l D cy z ad M_49.1 r12 hc11) miX5_cells q792 ⟨Nat.le_of_ble_eq_true rfl, Nat.le_of_ble_eq_true rfl⟩ ⟨rfl, rfl⟩ hP1 hKK hS hA0 (va_recv hKK.1 hP1 (ci := 5) (q0 := 0) rfl rfl) rfl hl.1 rfl (Nat.le_of_ble_eq_true rfl) dX5_best_59 ⟨Nat.zero_le _, Nat.zero_le _⟩ ?_
        refine lv_lload_n hx hb dX5_best_62 rfl (lv_at hl 2 rfl) ?_
        refine lv_aload_n hx hb dX5_best_63 rfl (lv_at hl 0 rfl) ?_
        refine va_get (D := D) (ci := 5) (v := .ref (ad 11)) (C := RX5) (T := TX5) (N := 24) hx hb hts inX5 hown hKK.1 hP 0 rfl rfl 22 (by decide) (hts _ q695) (fun _ h => h) rfl dX5_best_64 ?_
        refine lv_iload hx hb dX5_best_67 (lv_at hl 5 rfl) ?_
        obtain ⟨hg13, hf⟩ := gd_some hf
        refine va_lald hx hb hKK.1 hP 11 1 rfl rfl (inb_in hg13) dX5_best_69 ?_
        refine lv_lor hx hb dX5_best_70 ?_
        obtain ⟨r15, hc14, hf⟩ := bd_some hf
        have hP1 := hP.sub (ws' := []) [] rfl
        refine pCallSI ⟨hx, hb, hml, hown, hts⟩ (mtX5_ones l D cy z (g3_49 ||| (M_49.2.2.2.2.2.2.2.2.2.2.2.1 v7_49.toNatClampNeg)) r15 hc14) miX5_ones q847 ⟨Nat.le_of_ble_eq_true rfl, Nat.le_of_ble_eq_true rfl⟩ ⟨rfl, rfl⟩ hP1 hKK hS hA0 rfl hl.1 rfl (Nat.le_of_ble_eq_true rfl) dX5_best_71 ⟨Nat.zero_le _, Nat.zero_le _⟩ ?_
        refine lv_isub hx hb dX5_best_74 ?_
        refine nm_i hf (fun x16 hf => ?_)
        refine lv_istore (lv' := [(8, .int x16), (0, .ref (ad 0)), (2, .int g2_49), (3, .long g3_49), (5, .int v5_49), (6, .int v6_49), (7, .int v7_49)]) hx hb dX5_best_75 hl (by decide) rfl (fun ls hl => ?_)
        refine lv_iload hx hb dX5_best_77 (lv_at hl 0 rfl) ?_
        refine lv_iload hx hb dX5_best_79 (lv_at hl 4 rfl) ?_
        refine lv_icmp_ge (tgt := 89) hx hb dX5_best_81 (by decide) (fun h => ?_) (fun h => ?_)
        · have hf := (if_pos h).symm.trans hf
          refine lv_iload hx hb dX5_best_89 (lv_at hl 5 rfl) ?_
          refine lv_istore (lv' := [(6, .int v6_49), (8, .int x16), (0, .ref (ad 0)), (2, .int g2_49), (3, .long g3_49), (5, .int v5_49), (7, .int v7_49)]) hx hb dX5_best_91 hl (by decide) rfl (fun ls hl => ?_)
          refine lv_iload hx hb dX5_best_93 (lv_at hl 1 rfl) ?_
          refine lv_iload hx hb dX5_best_95 (lv_at hl 5 rfl) ?_
          refine lv_icmp_ge (tgt := 105) hx hb dX5_best_97 (by decide) (fun h => ?_) (fun h => ?_)
          · have hf := (if_pos h).symm.trans hf
            refine lv_iload hx hb dX5_best_105 (lv_at hl 5 rfl) ?_
            refine lv_istore (lv' := [(5, .int v5_49), (6, .int v6_49), (8, .int x16), (0, .ref (ad 0)), (2, .int g2_49), (3, .long g3_49), (7, .int v7_49)]) hx hb dX5_best_107 hl (by decide) rfl (fun ls hl => ?_)
            obtain ⟨x17, ex17, hf⟩ := nm_ex hf
            refine lv_iinc (v := x17) (lv' := [(7, .int x17), (5, .int v5_49), (6, .int v6_49), (8, .int x16), (0, .ref (ad 0)), (2, .int g2_49), (3, .long g3_49)]) hx hb dX5_best_109 hl (k := 6) rfl (Eq.trans rfl ex17) (by decide) rfl (fun ls hl => ?_)
            refine lv_goto (tgt := 49) hx hb dX5_best_112 (by decide) ?_
            exact ih v5_49 v6_49 x17 _ _ ls hf hP hD hS (lv_sub hl [4, 5, 6, 1, 2, 0] rfl)
          · have hf := (if_neg h).symm.trans hf
            refine lv_iload hx hb dX5_best_100 (lv_at hl 1 rfl) ?_
            refine lv_goto (tgt := 107) hx hb dX5_best_102 (by decide) ?_
            refine lv_istore (lv' := [(5, .int x16), (6, .int v6_49), (8, .int x16), (0, .ref (ad 0)), (2, .int g2_49), (3, .long g3_49), (7, .int v7_49)]) hx hb dX5_best_107 hl (by decide) rfl (fun ls hl => ?_)
            obtain ⟨x18, ex18, hf⟩ := nm_ex hf
            refine lv_iinc (v := x18) (lv' := [(7, .int x18), (5, .int x16), (6, .int v6_49), (8, .int x16), (0, .ref (ad 0)), (2, .int g2_49), (3, .long g3_49)]) hx hb dX5_best_109 hl (k := 6) rfl (Eq.trans rfl ex18) (by decide) rfl (fun ls hl => ?_)
            refine lv_goto (tgt := 49) hx hb dX5_best_112 (by decide) ?_
            exact ih x16 v6_49 x18 _ _ ls hf hP hD hS (lv_sub hl [4, 5, 6, 1, 2, 0] rfl)
        · have hf := (if_neg h).symm.trans hf
          refine lv_iload hx hb dX5_best_84 (lv_at hl 6 rfl) ?_
          refine lv_goto (tgt := 91) hx hb dX5_best_86 (by decide) ?_
          refine lv_istore (lv' := [(6, .int v7_49), (8, .int x16), (0, .ref (ad 0)), (2, .int g2_49), (3, .long g3_49), (5, .int v5_49), (7, .int v7_49)]) hx hb dX5_best_91 hl (by decide) rfl (fun ls hl => ?_)
          refine lv_iload hx hb dX5_best_93 (lv_at hl 1 rfl) ?_
          refine lv_iload hx hb dX5_best_95 (lv_at hl 5 rfl) ?_
          refine lv_icmp_ge (tgt := 105) hx hb dX5_best_97 (by decide) (fun h => ?_) (fun h => ?_)
          · have hf := (if_pos h).symm.trans hf
            refine lv_iload hx hb dX5_best_105 (lv_at hl 5 rfl) ?_
            refine lv_istore (lv' := [(5, .int v5_49), (6, .int v7_49), (8, .int x16), (0, .ref (ad 0)), (2, .int g2_49), (3, .long g3_49), (7, .int v7_49)]) hx hb dX5_best_107 hl (by decide) rfl (fun ls hl => ?_)
            obtain ⟨x19, ex19, hf⟩ := nm_ex hf
            refine lv_iinc (v := x19) (lv' := [(7, .int x19), (5, .int v5_49), (6, .int v7_49), (8, .int x16), (0, .ref (ad 0)), (2, .int g2_49), (3, .long g3_49)]) hx hb dX5_best_109 hl (k := 6) rfl (Eq.trans rfl ex19) (by decide) rfl (fun ls hl => ?_)
            refine lv_goto (tgt := 49) hx hb dX5_best_112 (by decide) ?_
            exact ih v5_49 v7_49 x19 _ _ ls hf hP hD hS (lv_sub hl [4, 5, 6, 1, 2, 0] rfl)
          · have hf := (if_neg h).symm.trans hf
            refine lv_iload hx hb dX5_best_100 (lv_at hl 1 rfl) ?_
            refine lv_goto (tgt := 107) hx hb dX5_best_102 (by decide) ?_
            refine lv_istore (lv' := [(5, .int x16), (6, .int v7_49), (8, .int x16), (0, .ref (ad 0)), (2, .int g2_49), (3, .long g3_49), (7, .int v7_49)]) hx hb dX5_best_107 hl (by decide) rfl (fun ls hl => ?_)
            obtain ⟨x20, ex20, hf⟩ := nm_ex hf
            refine lv_iinc (v := x20) (lv' := [(7, .int x20), (5, .int x16), (6, .int v7_49), (8, .int x16), (0, .ref (ad 0)), (2, .int g2_49), (3, .long g3_49)]) hx hb dX5_best_109 hl (k := 6) rfl (Eq.trans rfl ex20) (by decide) rfl (fun ls hl => ?_)
            refine lv_goto (tgt := 49) hx hb dX5_best_112 (by decide) ?_
            exact ih x16 v7_49 x20 _ _ ls hf hP hD hS (lv_sub hl [4, 5, 6, 1, 2, 0] rfl)
  unfold fX5_best at hf
  refine lv_iload_n hx hb dX5_best_0 rfl (lv_at hl 1 rfl) ?_
  refine lv_i2l hx hb dX5_best_1 rfl ?_
  refine lv_lconst (v := 0) hx hb dX5_best_2 (by decide) ?_
  refine lv_ldc2 hx hb hown (hts _ q898) dX5_best_3 ?_
  obtain ⟨r2, hc1, hf⟩ := bd_some hf
  have hP1 := hP.sub (ws' := []) [] rfl
  refine pCallSI ⟨hx, hb, hml, hown, hts⟩ (mtX5_in l D cy z u1.toInt64 (0 : Int64) (9 : Int64) r2 hc1) miX5_in q751 ⟨Nat.le_of_ble_eq_true rfl, Nat.le_of_ble_eq_true rfl⟩ ⟨rfl, rfl⟩ hP1 hKK hS hA0 rfl hl.1 rfl (Nat.le_of_ble_eq_true rfl) dX5_best_6 ⟨Nat.zero_le _, Nat.zero_le _⟩ ?_
  refine lv_if_eq (tgt := 22) hx hb dX5_best_9 (by decide) (fun h => ?_) (fun h => ?_)
  · have hf := (if_pos h).symm.trans hf
    refine lv_bipush (v := -2) hx hb dX5_best_22 (by decide) ?_
    cases hf
    exact mretI hx hb hr hlk hP hS dX5_best_24
  · have hf := (if_neg h).symm.trans hf
    refine lv_iload_n hx hb dX5_best_12 rfl (lv_at hl 2 rfl) ?_
    refine lv_i2l hx hb dX5_best_13 rfl ?_
    refine lv_lconst (v := 0) hx hb dX5_best_14 (by decide) ?_
    refine lv_lconst (v := 1) hx hb dX5_best_15 (by decide) ?_
    obtain ⟨r4, hc3, hf⟩ := bd_some hf
    have hP1 := hP.sub (ws' := []) [] rfl
    refine pCallSI ⟨hx, hb, hml, hown, hts⟩ (mtX5_in l D cy z u2.toInt64 (0 : Int64) (1 : Int64) r4 hc3) miX5_in q751 ⟨Nat.le_of_ble_eq_true rfl, Nat.le_of_ble_eq_true rfl⟩ ⟨rfl, rfl⟩ hP1 hKK hS hA0 rfl hl.1 rfl (Nat.le_of_ble_eq_true rfl) dX5_best_16 ⟨Nat.zero_le _, Nat.zero_le _⟩ ?_
    refine lv_if_ne (tgt := 25) hx hb dX5_best_19 (by decide) (fun h => ?_) (fun h => ?_)
    · have hf := (if_neg h).symm.trans hf
      refine lv_aload_n hx hb dX5_best_25 rfl (lv_at hl 0 rfl) ?_
      refine lv_iload_n hx hb dX5_best_26 rfl (lv_at hl 1 rfl) ?_
      obtain ⟨y6, hc5, hf⟩ := bd_some hf
      refine mCallWVV ⟨hx, hb, hml, hown, hts⟩ (mtX5_layViews l D cy z ad M u1 y6 hc5) miX5_layViews q967 ⟨Nat.le_of_ble_eq_true rfl, Nat.le_of_ble_eq_true rfl⟩ ⟨rfl, rfl⟩ hP hD hKK hA0 (va_recv hKK.1 hP (ci := 5) (q0 := 0) rfl rfl) rfl hl.1 rfl (Nat.le_of_ble_eq_true rfl) dX5_best_27 ⟨Nat.zero_le _, Nat.zero_le _⟩ hS rfl (fun H locs hP hD hS => ?_)
      have hP : va_P D vwCl (wM cy ad y6) H := hP
      have hD : va_D (adr (wM cy ad M)) (wM cy ad y6) := hD
      refine lv_aload_n hx hb dX5_best_30 rfl (lv_at hl 0 rfl) ?_
      refine lv_aload_n hx hb dX5_best_31 rfl (lv_at hl 0 rfl) ?_
      refine va_get (D := D) (ci := 5) (v := .ref (ad 2)) (C := RX5) (T := TX5) (N := 24) hx hb hts inX5 hown hKK.1 hP 0 rfl rfl 4 (by decide) (hts _ q677) (fun _ h => h) rfl dX5_best_32 ?_
      obtain ⟨r8, hc7, hf⟩ := bd_some hf
      have hP1 := hP.sub (ws' := [moC ad y6.1, arI cy (ad 2) 51 y6.2.2.1]) [0, 2] rfl
      refine pCallVL ⟨hx, hb, hml, hown, hts⟩ (mtX5_watchedByAny l D cy z ad (ad 2) y6.1 y6.2.2.1 r8 hc7) miX5_watchedByAny q804 ⟨Nat.le_of_ble_eq_true rfl, Nat.le_of_ble_eq_true rfl⟩ ⟨rfl, rfl⟩ hP1 hKK hS hA0 (va_recv hKK.1 hP1 (ci := 5) (q0 := 0) rfl rfl) rfl hl.1 rfl (Nat.le_of_ble_eq_true rfl) dX5_best_35 ⟨Nat.zero_le _, Nat.zero_le _⟩ ?_
      refine lv_lstore_n (lv' := [(3, .long r8), (0, .ref (ad 0)), (1, .int u1), (2, .int u2)]) hx hb dX5_best_38 rfl hl (by decide) rfl (fun ls hl => ?_)
      refine lv_bipush (v := 37) hx hb dX5_best_39 (by decide) ?_
      refine lv_istore (lv' := [(5, .int (37 : Int32)), (3, .long r8), (0, .ref (ad 0)), (1, .int u1), (2, .int u2)]) hx hb dX5_best_41 hl (by decide) rfl (fun ls hl => ?_)
      refine lv_iconst (v := 0) hx hb dX5_best_43 (by decide) ?_
      refine lv_istore (lv' := [(6, .int (0 : Int32)), (5, .int (37 : Int32)), (3, .long r8), (0, .ref (ad 0)), (1, .int u1), (2, .int u2)]) hx hb dX5_best_44 hl (by decide) rfl (fun ls hl => ?_)
      refine lv_iconst (v := 0) hx hb dX5_best_46 (by decide) ?_
      refine lv_istore (lv' := [(7, .int (0 : Int32)), (6, .int (0 : Int32)), (5, .int (37 : Int32)), (3, .long r8), (0, .ref (ad 0)), (1, .int u1), (2, .int u2)]) hx hb dX5_best_47 hl (by decide) rfl (fun ls hl => ?_)
      refine w_49 y6 u2 r8 _ ?_ _ (37 : Int32) (0 : Int32) (0 : Int32) _ _ ls hf hP hD hS (lv_sub hl [4, 6, 3, 2, 1, 0] rfl)
      · intro y21 y22 H locs ls hf hP hD hS hl
        refine lv_iload_n hx hb dX5_best_115 rfl (lv_at hl 0 rfl) ?_
        refine lv_if_ne (tgt := 124) hx hb dX5_best_116 (by decide) (fun h => ?_) (fun h => ?_)
        · have hf := (if_neg h).symm.trans hf
          refine lv_iload hx hb dX5_best_124 (lv_at hl 1 rfl) ?_
          cases hf
          exact mretI hx hb hr hlk hP hS dX5_best_126
        · have hf := (if_pos h).symm.trans hf
          refine lv_iload hx hb dX5_best_119 (lv_at hl 2 rfl) ?_
          refine lv_goto (tgt := 126) hx hb dX5_best_121 (by decide) ?_
          cases hf
          exact mretI hx hb hr hlk hP hS dX5_best_126
    · have hf := (if_pos h).symm.trans hf
      refine lv_bipush (v := -2) hx hb dX5_best_22 (by decide) ?_
      cases hf
      exact mretI hx hb hr hlk hP hS dX5_best_24

abbrev rmX5_two : Room := { frames := 10, cells := 0, slots := 0, locals := 250 }
theorem miX5_two : miV yX5_two cX5_two 11 (some .int) 2 := ⟨q974, q46, q972, q973, by decide +kernel⟩
set_option maxHeartbeats 4000000 in
set_option maxRecDepth 100000 in
theorem mtX5_two (l : Launch) (D : va_G) (cy : Nat → ClassId) (z : zT) (ad : Nat → Nat) (M : tM) (u1 : Int32) (u2 : Int32) (r0 : Int32) (M0 : tM) (hf : fX5_two M u1 u2 = some (r0, M0)) : mmet l yX5_two cX5_two 11 (some .int) rmX5_two D cy z (wM cy ad M) (wM cy ad M0) [.ref (ad 0), .int u1, .int u2] (some (.int r0)) := by
  refine mmet_of (by decide +kernel) (Nat.le_of_ble_eq_true rfl) (fun p e s m below meth c hx hb hr hml hown hts hlk hP hD hS hA0 hKK ls hl => ?_)
  have hown : s.vm.findClass "HillSightModel" = some m.cls := hown
  have hl : lv_has ls 11 [(0, .ref (ad 0)), (1, .int u1), (2, .int u2)] := hl
  have w_51 : ∀ (M_51 : tM) (g2_51 : Int32) (g3_51 : Int64) (k155 : Int32 → Int32 → Option (Int32 × tM)) (hk155 : ∀ (v5_51 : Int32) (v6_51 : Int32) (H : Heap) (locs : List Loc) (ls : Array Slot), k155 v5_51 v6_51 = some (r0, M0) → va_P D vwCl (wM cy ad M_51) H → va_D (adr (wM cy ad M)) (wM cy ad M_51) → va_S (adr (wM cy ad M)) s.heap H locs → lv_has ls 11 [(0, .ref (ad 0)), (2, .int g2_51), (5, .int v5_51), (6, .int v6_51)] → W p l e rmX5_two s m ([.ref (ad 0), .int u1, .int u2] : List Value).toArray below meth c H locs 0 0 (MQ below (mQ D (wM cy ad M) (wM cy ad M0) (some (.int r0))) ([.ref (ad 0), .int u1, .int u2] : List Value).toArray s 0 0 (adr (wM cy ad M))) (F0 m 155 ls [])) (n : Nat) (v5_51 : Int32) (v6_51 : Int32) (v7_51 : Int32) (H : Heap) (locs : List Loc) (ls : Array Slot), fX5_two_51 M_51 g2_51 g3_51 k155 n v5_51 v6_51 v7_51 = some (r0, M0) → va_P D vwCl (wM cy ad M_51) H → va_D (adr (wM cy ad M)) (wM cy ad M_51) → va_S (adr (wM cy ad M)) s.heap H locs → lv_has ls 11 [(0, .ref (ad 0)), (2, .int g2_51), (3, .long g3_51), (5, .int v5_51), (6, .int v6_51), (7, .int v7_51)] → W p l e rmX5_two s m ([.ref (ad 0), .int u1, .int u2] : List Value).toArray below meth c H locs 0 0 (MQ below (mQ D (wM cy ad M) (wM cy ad M0) (some (.int r0))) ([.ref (ad 0), .int u1, .int u2] : List Value).toArray s 0 0 (adr (wM cy ad M))) (F0 m 51 ls []) := by
    intro M_51 g2_51 g3_51 k155 hk155 n
    induction n with
    | zero =>
      intro v5_51 v6_51 v7_51 H locs ls hf hP hD hS hl
      cases (show (none : Option (Int32 × tM)) = some (r0, M0) from hf)
    | succ n ih =>
      intro v5_51 v6_51 v7_51 H locs ls hf hP hD hS hl
      rw [fX5_two_51] at hf
      refine lv_iload hx hb dX5_two_51 (lv_at hl 5 rfl) ?_
      refine lv_aload_n hx hb dX5_two_53 rfl (lv_at hl 0 rfl) ?_
      obtain ⟨r10, hc9, hf⟩ := bd_some hf
      have hP1 := hP.sub (ws' := [moC ad M_51.1]) [0] rfl
      refine pCallVI ⟨hx, hb, hml, hown, hts⟩ (mtX5_cells l D cy z ad M_51.1 r10 hc9) miX5_cells q792 ⟨Nat.le_of_ble_eq_true rfl, Nat.le_of_ble_eq_true rfl⟩ ⟨rfl, rfl⟩ hP1 hKK hS hA0 (va_recv hKK.1 hP1 (ci := 5) (q0 := 0) rfl rfl) rfl hl.1 rfl (Nat.le_of_ble_eq_true rfl) dX5_two_54 ⟨Nat.zero_le _, Nat.zero_le _⟩ ?_
      refine lv_aload_n hx hb dX5_two_57 rfl (lv_at hl 0 rfl) ?_
      obtain ⟨r12, hc11, hf⟩ := bd_some hf
      have hP1 := hP.sub (ws' := [moC ad M_51.1]) [0] rfl
      refine pCallVI ⟨hx, hb, hml, hown, hts⟩ (mtX5_cells l D cy z ad M_51.1 r12 hc11) miX5_cells q792 ⟨Nat.le_of_ble_eq_true rfl, Nat.le_of_ble_eq_true rfl⟩ ⟨rfl, rfl⟩ hP1 hKK hS hA0 (va_recv hKK.1 hP1 (ci := 5) (q0 := 0) rfl rfl) rfl hl.1 rfl (Nat.le_of_ble_eq_true rfl) dX5_two_58 ⟨Nat.zero_le _, Nat.zero_le _⟩ ?_
      refine lv_imul hx hb dX5_two_61 ?_
      refine lv_icmp_ge (tgt := 155) hx hb dX5_two_62 (by decide) (fun h => ?_) (fun h => ?_)
      · have hf := (if_pos h).symm.trans hf
        exact hk155 v5_51 v6_51 _ _ ls hf hP hD hS (lv_sub hl [0, 1, 3, 4] rfl)
      · have hf := (if_neg h).symm.trans hf
        refine lv_iload hx hb dX5_two_65 (lv_at hl 5 rfl) ?_
        refine lv_aload_n hx hb dX5_two_67 rfl (lv_at hl 0 rfl) ?_
        obtain ⟨r14, hc13, hf⟩ := bd_some hf
        have hP1 := hP.sub (ws' := [moC ad M_51.1]) [0] rfl
        refine pCallVI ⟨hx, hb, hml, hown, hts⟩ (mtX5_cells l D cy z ad M_51.1 r14 hc13) miX5_cells q792 ⟨Nat.le_of_ble_eq_true rfl, Nat.le_of_ble_eq_true rfl⟩ ⟨rfl, rfl⟩ hP1 hKK hS hA0 (va_recv hKK.1 hP1 (ci := 5) (q0 := 0) rfl rfl) rfl hl.1 rfl (Nat.le_of_ble_eq_true rfl) dX5_two_68 ⟨Nat.zero_le _, Nat.zero_le _⟩ ?_
        obtain ⟨hg15, hf⟩ := gd_some hf
        refine lv_idiv hx hb dX5_two_71 (nz_ne hg15) ?_
        refine nm_i hf (fun x16 hf => ?_)
        refine lv_istore (lv' := [(8, .int x16), (0, .ref (ad 0)), (2, .int g2_51), (3, .long g3_51), (5, .int v5_51), (6, .int v6_51), (7, .int v7_51)]) hx hb dX5_two_72 hl (by decide) rfl (fun ls hl => ?_)
        refine lv_iload hx hb dX5_two_74 (lv_at hl 6 rfl) ?_
        refine lv_aload_n hx hb dX5_two_76 rfl (lv_at hl 1 rfl) ?_
        obtain ⟨r18, hc17, hf⟩ := bd_some hf
        have hP1 := hP.sub (ws' := [moC ad M_51.1]) [0] rfl
        refine pCallVI ⟨hx, hb, hml, hown, hts⟩ (mtX5_cells l D cy z ad M_51.1 r18 hc17) miX5_cells q792 ⟨Nat.le_of_ble_eq_true rfl, Nat.le_of_ble_eq_true rfl⟩ ⟨rfl, rfl⟩ hP1 hKK hS hA0 (va_recv hKK.1 hP1 (ci := 5) (q0 := 0) rfl rfl) rfl hl.1 rfl (Nat.le_of_ble_eq_true rfl) dX5_two_77 ⟨Nat.zero_le _, Nat.zero_le _⟩ ?_
        obtain ⟨hg19, hf⟩ := gd_some hf
        refine lv_irem hx hb dX5_two_80 (nz_ne hg19) ?_
        refine nm_i hf (fun x20 hf => ?_)
        refine lv_istore (lv' := [(9, .int x20), (8, .int x16), (0, .ref (ad 0)), (2, .int g2_51), (3, .long g3_51), (5, .int v5_51), (6, .int v6_51), (7, .int v7_51)]) hx hb dX5_two_81 hl (by decide) rfl (fun ls hl => ?_)
        refine lv_iload hx hb dX5_two_83 (lv_at hl 1 rfl) ?_
        refine lv_iload hx hb dX5_two_85 (lv_at hl 0 rfl) ?_
        refine lv_icmp_gt (tgt := 149) hx hb dX5_two_87 (by decide) (fun h => ?_) (fun h => ?_)
        · have hf := (if_pos h).symm.trans hf
          obtain ⟨x21, ex21, hf⟩ := nm_ex hf
          refine lv_iinc (v := x21) (lv' := [(7, .int x21), (9, .int x20), (8, .int x16), (0, .ref (ad 0)), (2, .int g2_51), (3, .long g3_51), (5, .int v5_51), (6, .int v6_51)]) hx hb dX5_two_149 hl (k := 7) rfl (Eq.trans rfl ex21) (by decide) rfl (fun ls hl => ?_)
          refine lv_goto (tgt := 51) hx hb dX5_two_152 (by decide) ?_
          exact ih v5_51 v6_51 x21 _ _ ls hf hP hD hS (lv_sub hl [3, 4, 5, 6, 7, 0] rfl)
        · have hf := (if_neg h).symm.trans hf
          refine lv_aload_n hx hb dX5_two_90 rfl (lv_at hl 2 rfl) ?_
          obtain ⟨r23, hc22, hf⟩ := bd_some hf
          have hP1 := hP.sub (ws' := [moC ad M_51.1]) [0] rfl
          refine pCallVI ⟨hx, hb, hml, hown, hts⟩ (mtX5_cells l D cy z ad M_51.1 r23 hc22) miX5_cells q792 ⟨Nat.le_of_ble_eq_true rfl, Nat.le_of_ble_eq_true rfl⟩ ⟨rfl, rfl⟩ hP1 hKK hS hA0 (va_recv hKK.1 hP1 (ci := 5) (q0 := 0) rfl rfl) rfl hl.1 rfl (Nat.le_of_ble_eq_true rfl) dX5_two_91 ⟨Nat.zero_le _, Nat.zero_le _⟩ ?_
          refine lv_lload_n hx hb dX5_two_94 rfl (lv_at hl 4 rfl) ?_
          refine lv_aload_n hx hb dX5_two_95 rfl (lv_at hl 2 rfl) ?_
          refine va_get (D := D) (ci := 5) (v := .ref (ad 11)) (C := RX5) (T := TX5) (N := 24) hx hb hts inX5 hown hKK.1 hP 0 rfl rfl 22 (by decide) (hts _ q695) (fun _ h => h) rfl dX5_two_96 ?_
          refine lv_iload hx hb dX5_two_99 (lv_at hl 1 rfl) ?_
          obtain ⟨hg24, hf⟩ := gd_some hf
          refine va_lald hx hb hKK.1 hP 11 1 rfl rfl (inb_in hg24) dX5_two_101 ?_
          refine lv_lor hx hb dX5_two_102 ?_
          refine lv_aload_n hx hb dX5_two_103 rfl (lv_at hl 2 rfl) ?_
          refine va_get (D := D) (ci := 5) (v := .ref (ad 11)) (C := RX5) (T := TX5) (N := 24) hx hb hts inX5 hown hKK.1 hP 0 rfl rfl 22 (by decide) (hts _ q695) (fun _ h => h) rfl dX5_two_104 ?_
          refine lv_iload hx hb dX5_two_107 (lv_at hl 0 rfl) ?_
          obtain ⟨hg25, hf⟩ := gd_some hf
          refine va_lald hx hb hKK.1 hP 11 1 rfl rfl (inb_in hg25) dX5_two_109 ?_
          refine lv_lor hx hb dX5_two_110 ?_
          obtain ⟨r27, hc26, hf⟩ := bd_some hf
          have hP1 := hP.sub (ws' := []) [] rfl
          refine pCallSI ⟨hx, hb, hml, hown, hts⟩ (mtX5_ones l D cy z ((g3_51 ||| (M_51.2.2.2.2.2.2.2.2.2.2.2.1 x16.toNatClampNeg)) ||| (M_51.2.2.2.2.2.2.2.2.2.2.2.1 x20.toNatClampNeg)) r27 hc26) miX5_ones q847 ⟨Nat.le_of_ble_eq_true rfl, Nat.le_of_ble_eq_true rfl⟩ ⟨rfl, rfl⟩ hP1 hKK hS hA0 rfl hl.1 rfl (Nat.le_of_ble_eq_true rfl) dX5_two_111 ⟨Nat.zero_le _, Nat.zero_le _⟩ ?_
          refine lv_isub hx hb dX5_two_114 ?_
          refine nm_i hf (fun x28 hf => ?_)
          refine lv_istore (lv' := [(10, .int x28), (9, .int x20), (8, .int x16), (0, .ref (ad 0)), (2, .int g2_51), (3, .long g3_51), (5, .int v5_51), (6, .int v6_51), (7, .int v7_51)]) hx hb dX5_two_115 hl (by decide) rfl (fun ls hl => ?_)
          refine lv_iload hx hb dX5_two_117 (lv_at hl 0 rfl) ?_
          refine lv_iload hx hb dX5_two_119 (lv_at hl 6 rfl) ?_
          refine lv_icmp_ge (tgt := 129) hx hb dX5_two_121 (by decide) (fun h => ?_) (fun h => ?_)
          · have hf := (if_pos h).symm.trans hf
            refine lv_iload hx hb dX5_two_129 (lv_at hl 7 rfl) ?_
            refine lv_istore (lv' := [(6, .int v6_51), (10, .int x28), (9, .int x20), (8, .int x16), (0, .ref (ad 0)), (2, .int g2_51), (3, .long g3_51), (5, .int v5_51), (7, .int v7_51)]) hx hb dX5_two_131 hl (by decide) rfl (fun ls hl => ?_)
            refine lv_iload hx hb dX5_two_133 (lv_at hl 1 rfl) ?_
            refine lv_iload hx hb dX5_two_135 (lv_at hl 7 rfl) ?_
            refine lv_icmp_ge (tgt := 145) hx hb dX5_two_137 (by decide) (fun h => ?_) (fun h => ?_)
            · have hf := (if_pos h).symm.trans hf
              refine lv_iload hx hb dX5_two_145 (lv_at hl 7 rfl) ?_
              refine lv_istore (lv' := [(5, .int v5_51), (6, .int v6_51), (10, .int x28), (9, .int x20), (8, .int x16), (0, .ref (ad 0)), (2, .int g2_51), (3, .long g3_51), (7, .int v7_51)]) hx hb dX5_two_147 hl (by decide) rfl (fun ls hl => ?_)
              obtain ⟨x29, ex29, hf⟩ := nm_ex hf
              refine lv_iinc (v := x29) (lv' := [(7, .int x29), (5, .int v5_51), (6, .int v6_51), (10, .int x28), (9, .int x20), (8, .int x16), (0, .ref (ad 0)), (2, .int g2_51), (3, .long g3_51)]) hx hb dX5_two_149 hl (k := 8) rfl (Eq.trans rfl ex29) (by decide) rfl (fun ls hl => ?_)
              refine lv_goto (tgt := 51) hx hb dX5_two_152 (by decide) ?_
              exact ih v5_51 v6_51 x29 _ _ ls hf hP hD hS (lv_sub hl [6, 7, 8, 1, 2, 0] rfl)
            · have hf := (if_neg h).symm.trans hf
              refine lv_iload hx hb dX5_two_140 (lv_at hl 1 rfl) ?_
              refine lv_goto (tgt := 147) hx hb dX5_two_142 (by decide) ?_
              refine lv_istore (lv' := [(5, .int x28), (6, .int v6_51), (10, .int x28), (9, .int x20), (8, .int x16), (0, .ref (ad 0)), (2, .int g2_51), (3, .long g3_51), (7, .int v7_51)]) hx hb dX5_two_147 hl (by decide) rfl (fun ls hl => ?_)
              obtain ⟨x30, ex30, hf⟩ := nm_ex hf
              refine lv_iinc (v := x30) (lv' := [(7, .int x30), (5, .int x28), (6, .int v6_51), (10, .int x28), (9, .int x20), (8, .int x16), (0, .ref (ad 0)), (2, .int g2_51), (3, .long g3_51)]) hx hb dX5_two_149 hl (k := 8) rfl (Eq.trans rfl ex30) (by decide) rfl (fun ls hl => ?_)
              refine lv_goto (tgt := 51) hx hb dX5_two_152 (by decide) ?_
              exact ih x28 v6_51 x30 _ _ ls hf hP hD hS (lv_sub hl [6, 7, 8, 1, 2, 0] rfl)
          · have hf := (if_neg h).symm.trans hf
            refine lv_iload hx hb dX5_two_124 (lv_at hl 8 rfl) ?_
            refine lv_goto (tgt := 131) hx hb dX5_two_126 (by decide) ?_
            refine lv_istore (lv' := [(6, .int v7_51), (10, .int x28), (9, .int x20), (8, .int x16), (0, .ref (ad 0)), (2, .int g2_51), (3, .long g3_51), (5, .int v5_51), (7, .int v7_51)]) hx hb dX5_two_131 hl (by decide) rfl (fun ls hl => ?_)
            refine lv_iload hx hb dX5_two_133 (lv_at hl 1 rfl) ?_
            refine lv_iload hx hb dX5_two_135 (lv_at hl 7 rfl) ?_
            refine lv_icmp_ge (tgt := 145) hx hb dX5_two_137 (by decide) (fun h => ?_) (fun h => ?_)
            · have hf := (if_pos h).symm.trans hf
              refine lv_iload hx hb dX5_two_145 (lv_at hl 7 rfl) ?_
              refine lv_istore (lv' := [(5, .int v5_51), (6, .int v7_51), (10, .int x28), (9, .int x20), (8, .int x16), (0, .ref (ad 0)), (2, .int g2_51), (3, .long g3_51), (7, .int v7_51)]) hx hb dX5_two_147 hl (by decide) rfl (fun ls hl => ?_)
              obtain ⟨x31, ex31, hf⟩ := nm_ex hf
              refine lv_iinc (v := x31) (lv' := [(7, .int x31), (5, .int v5_51), (6, .int v7_51), (10, .int x28), (9, .int x20), (8, .int x16), (0, .ref (ad 0)), (2, .int g2_51), (3, .long g3_51)]) hx hb dX5_two_149 hl (k := 8) rfl (Eq.trans rfl ex31) (by decide) rfl (fun ls hl => ?_)
              refine lv_goto (tgt := 51) hx hb dX5_two_152 (by decide) ?_
              exact ih v5_51 v7_51 x31 _ _ ls hf hP hD hS (lv_sub hl [6, 7, 8, 1, 2, 0] rfl)
            · have hf := (if_neg h).symm.trans hf
              refine lv_iload hx hb dX5_two_140 (lv_at hl 1 rfl) ?_
              refine lv_goto (tgt := 147) hx hb dX5_two_142 (by decide) ?_
              refine lv_istore (lv' := [(5, .int x28), (6, .int v7_51), (10, .int x28), (9, .int x20), (8, .int x16), (0, .ref (ad 0)), (2, .int g2_51), (3, .long g3_51), (7, .int v7_51)]) hx hb dX5_two_147 hl (by decide) rfl (fun ls hl => ?_)
              obtain ⟨x32, ex32, hf⟩ := nm_ex hf
              refine lv_iinc (v := x32) (lv' := [(7, .int x32), (5, .int x28), (6, .int v7_51), (10, .int x28), (9, .int x20), (8, .int x16), (0, .ref (ad 0)), (2, .int g2_51), (3, .long g3_51)]) hx hb dX5_two_149 hl (k := 8) rfl (Eq.trans rfl ex32) (by decide) rfl (fun ls hl => ?_)
              refine lv_goto (tgt := 51) hx hb dX5_two_152 (by decide) ?_
              exact ih x28 v7_51 x32 _ _ ls hf hP hD hS (lv_sub hl [6, 7, 8, 1, 2, 0] rfl)
  unfold fX5_two at hf
  refine lv_iload_n hx hb dX5_two_0 rfl (lv_at hl 1 rfl) ?_
  refine lv_i2l hx hb dX5_two_1 rfl ?_
  refine lv_lconst (v := 0) hx hb dX5_two_2 (by decide) ?_
  refine lv_ldc2 hx hb hown (hts _ q898) dX5_two_3 ?_
  obtain ⟨r2, hc1, hf⟩ := bd_some hf
  have hP1 := hP.sub (ws' := []) [] rfl
  refine pCallSI ⟨hx, hb, hml, hown, hts⟩ (mtX5_in l D cy z u1.toInt64 (0 : Int64) (9 : Int64) r2 hc1) miX5_in q751 ⟨Nat.le_of_ble_eq_true rfl, Nat.le_of_ble_eq_true rfl⟩ ⟨rfl, rfl⟩ hP1 hKK hS hA0 rfl hl.1 rfl (Nat.le_of_ble_eq_true rfl) dX5_two_6 ⟨Nat.zero_le _, Nat.zero_le _⟩ ?_
  refine lv_if_eq (tgt := 24) hx hb dX5_two_9 (by decide) (fun h => ?_) (fun h => ?_)
  · have hf := (if_pos h).symm.trans hf
    refine lv_bipush (v := -2) hx hb dX5_two_24 (by decide) ?_
    cases hf
    exact mretI hx hb hr hlk hP hS dX5_two_26
  · have hf := (if_neg h).symm.trans hf
    refine lv_iload_n hx hb dX5_two_12 rfl (lv_at hl 2 rfl) ?_
    refine lv_i2l hx hb dX5_two_13 rfl ?_
    refine lv_lconst (v := 0) hx hb dX5_two_14 (by decide) ?_
    refine lv_ldc2 hx hb hown (hts _ q772) dX5_two_15 ?_
    obtain ⟨r4, hc3, hf⟩ := bd_some hf
    have hP1 := hP.sub (ws' := []) [] rfl
    refine pCallSI ⟨hx, hb, hml, hown, hts⟩ (mtX5_in l D cy z u2.toInt64 (0 : Int64) (2 : Int64) r4 hc3) miX5_in q751 ⟨Nat.le_of_ble_eq_true rfl, Nat.le_of_ble_eq_true rfl⟩ ⟨rfl, rfl⟩ hP1 hKK hS hA0 rfl hl.1 rfl (Nat.le_of_ble_eq_true rfl) dX5_two_18 ⟨Nat.zero_le _, Nat.zero_le _⟩ ?_
    refine lv_if_ne (tgt := 27) hx hb dX5_two_21 (by decide) (fun h => ?_) (fun h => ?_)
    · have hf := (if_neg h).symm.trans hf
      refine lv_aload_n hx hb dX5_two_27 rfl (lv_at hl 0 rfl) ?_
      refine lv_iload_n hx hb dX5_two_28 rfl (lv_at hl 1 rfl) ?_
      obtain ⟨y6, hc5, hf⟩ := bd_some hf
      refine mCallWVV ⟨hx, hb, hml, hown, hts⟩ (mtX5_layViews l D cy z ad M u1 y6 hc5) miX5_layViews q967 ⟨Nat.le_of_ble_eq_true rfl, Nat.le_of_ble_eq_true rfl⟩ ⟨rfl, rfl⟩ hP hD hKK hA0 (va_recv hKK.1 hP (ci := 5) (q0 := 0) rfl rfl) rfl hl.1 rfl (Nat.le_of_ble_eq_true rfl) dX5_two_29 ⟨Nat.zero_le _, Nat.zero_le _⟩ hS rfl (fun H locs hP hD hS => ?_)
      have hP : va_P D vwCl (wM cy ad y6) H := hP
      have hD : va_D (adr (wM cy ad M)) (wM cy ad y6) := hD
      refine lv_aload_n hx hb dX5_two_32 rfl (lv_at hl 0 rfl) ?_
      refine lv_aload_n hx hb dX5_two_33 rfl (lv_at hl 0 rfl) ?_
      refine va_get (D := D) (ci := 5) (v := .ref (ad 2)) (C := RX5) (T := TX5) (N := 24) hx hb hts inX5 hown hKK.1 hP 0 rfl rfl 4 (by decide) (hts _ q677) (fun _ h => h) rfl dX5_two_34 ?_
      obtain ⟨r8, hc7, hf⟩ := bd_some hf
      have hP1 := hP.sub (ws' := [moC ad y6.1, arI cy (ad 2) 51 y6.2.2.1]) [0, 2] rfl
      refine pCallVL ⟨hx, hb, hml, hown, hts⟩ (mtX5_watchedByAny l D cy z ad (ad 2) y6.1 y6.2.2.1 r8 hc7) miX5_watchedByAny q804 ⟨Nat.le_of_ble_eq_true rfl, Nat.le_of_ble_eq_true rfl⟩ ⟨rfl, rfl⟩ hP1 hKK hS hA0 (va_recv hKK.1 hP1 (ci := 5) (q0 := 0) rfl rfl) rfl hl.1 rfl (Nat.le_of_ble_eq_true rfl) dX5_two_37 ⟨Nat.zero_le _, Nat.zero_le _⟩ ?_
      refine lv_lstore_n (lv' := [(3, .long r8), (0, .ref (ad 0)), (1, .int u1), (2, .int u2)]) hx hb dX5_two_40 rfl hl (by decide) rfl (fun ls hl => ?_)
      refine lv_bipush (v := 37) hx hb dX5_two_41 (by decide) ?_
      refine lv_istore (lv' := [(5, .int (37 : Int32)), (3, .long r8), (0, .ref (ad 0)), (1, .int u1), (2, .int u2)]) hx hb dX5_two_43 hl (by decide) rfl (fun ls hl => ?_)
      refine lv_iconst (v := 0) hx hb dX5_two_45 (by decide) ?_
      refine lv_istore (lv' := [(6, .int (0 : Int32)), (5, .int (37 : Int32)), (3, .long r8), (0, .ref (ad 0)), (1, .int u1), (2, .int u2)]) hx hb dX5_two_46 hl (by decide) rfl (fun ls hl => ?_)
      refine lv_iconst (v := 0) hx hb dX5_two_48 (by decide) ?_
      refine lv_istore (lv' := [(7, .int (0 : Int32)), (6, .int (0 : Int32)), (5, .int (37 : Int32)), (3, .long r8), (0, .ref (ad 0)), (1, .int u1), (2, .int u2)]) hx hb dX5_two_49 hl (by decide) rfl (fun ls hl => ?_)
      refine w_51 y6 u2 r8 _ ?_ _ (37 : Int32) (0 : Int32) (0 : Int32) _ _ ls hf hP hD hS (lv_sub hl [4, 6, 3, 2, 1, 0] rfl)
      · intro y33 y34 H locs ls hf hP hD hS hl
        refine lv_iload_n hx hb dX5_two_155 rfl (lv_at hl 1 rfl) ?_
        refine lv_if_ne (tgt := 169) hx hb dX5_two_156 (by decide) (fun h => ?_) (fun h => ?_)
        · have hf := (if_neg h).symm.trans hf
          refine lv_iload_n hx hb dX5_two_169 rfl (lv_at hl 1 rfl) ?_
          refine lv_iconst (v := 1) hx hb dX5_two_170 (by decide) ?_
          refine lv_icmp_ne (tgt := 184) hx hb dX5_two_171 (by decide) (fun h => ?_) (fun h => ?_)
          · have hf := (if_neg h).symm.trans hf
            refine lv_iload hx hb dX5_two_184 (lv_at hl 2 rfl) ?_
            cases hf
            exact mretI hx hb hr hlk hP hS dX5_two_186
          · have hf := (if_pos h).symm.trans hf
            refine lv_iload hx hb dX5_two_174 (lv_at hl 3 rfl) ?_
            refine lv_aload_n hx hb dX5_two_176 rfl (lv_at hl 0 rfl) ?_
            obtain ⟨r36, hc35, hf⟩ := bd_some hf
            have hP1 := hP.sub (ws' := [moC ad y6.1]) [0] rfl
            refine pCallVI ⟨hx, hb, hml, hown, hts⟩ (mtX5_cells l D cy z ad y6.1 r36 hc35) miX5_cells q792 ⟨Nat.le_of_ble_eq_true rfl, Nat.le_of_ble_eq_true rfl⟩ ⟨rfl, rfl⟩ hP1 hKK hS hA0 (va_recv hKK.1 hP1 (ci := 5) (q0 := 0) rfl rfl) rfl hl.1 rfl (Nat.le_of_ble_eq_true rfl) dX5_two_177 ⟨Nat.zero_le _, Nat.zero_le _⟩ ?_
            obtain ⟨hg37, hf⟩ := gd_some hf
            refine lv_irem hx hb dX5_two_180 (nz_ne hg37) ?_
            refine lv_goto (tgt := 186) hx hb dX5_two_181 (by decide) ?_
            cases hf
            exact mretI hx hb hr hlk hP hS dX5_two_186
        · have hf := (if_pos h).symm.trans hf
          refine lv_iload hx hb dX5_two_159 (lv_at hl 3 rfl) ?_
          refine lv_aload_n hx hb dX5_two_161 rfl (lv_at hl 0 rfl) ?_
          obtain ⟨r39, hc38, hf⟩ := bd_some hf
          have hP1 := hP.sub (ws' := [moC ad y6.1]) [0] rfl
          refine pCallVI ⟨hx, hb, hml, hown, hts⟩ (mtX5_cells l D cy z ad y6.1 r39 hc38) miX5_cells q792 ⟨Nat.le_of_ble_eq_true rfl, Nat.le_of_ble_eq_true rfl⟩ ⟨rfl, rfl⟩ hP1 hKK hS hA0 (va_recv hKK.1 hP1 (ci := 5) (q0 := 0) rfl rfl) rfl hl.1 rfl (Nat.le_of_ble_eq_true rfl) dX5_two_162 ⟨Nat.zero_le _, Nat.zero_le _⟩ ?_
          obtain ⟨hg40, hf⟩ := gd_some hf
          refine lv_idiv hx hb dX5_two_165 (nz_ne hg40) ?_
          refine lv_goto (tgt := 186) hx hb dX5_two_166 (by decide) ?_
          cases hf
          exact mretI hx hb hr hlk hP hS dX5_two_186
    · have hf := (if_pos h).symm.trans hf
      refine lv_bipush (v := -2) hx hb dX5_two_24 (by decide) ?_
      cases hf
      exact mretI hx hb hr hlk hP hS dX5_two_26

abbrev rmX5_part : Room := { frames := 11, cells := 0, slots := 0, locals := 271 }
theorem miX5_part : miV yX5_part cX5_part 2 (some .int) 1 := ⟨q978, q46, q976, q977, by decide +kernel⟩
set_option maxHeartbeats 4000000 in
set_option maxRecDepth 100000 in
theorem mtX5_part (l : Launch) (D : va_G) (cy : Nat → ClassId) (z : zT) (ad : Nat → Nat) (o : tMo) (w : tA) (u1 : Int32) (r0 : Int32) (hf : fX5_part o w u1 = some r0) : pmet l yX5_part cX5_part 2 (some .int) rmX5_part D cy z ([moC ad o, arI cy (ad 2) 51 w]) [.ref (ad 0), .int u1] (some (.int r0)) := by
  refine pmet_of (by decide +kernel) (Nat.le_of_ble_eq_true rfl) (fun p e s m below meth c hx hb hr hml hown hts hlk hP hKK ls hl => ?_)
  have hS : va_S noF s.heap s.heap [] := va_S.rf
  have hA0 : ∀ q, noF q → zA z q := fun _ h => h.elim
  have hown : s.vm.findClass "HillSightModel" = some m.cls := hown
  have hl : lv_has ls 2 [(0, .ref (ad 0)), (1, .int u1)] := hl
  unfold fX5_part at hf
  refine lv_aload_n hx hb dX5_part_0 rfl (lv_at hl 0 rfl) ?_
  obtain ⟨r2, hc1, hf⟩ := bd_some hf
  have hP1 := hP.sub (ws' := [moC ad o]) [0] rfl
  refine pCallVI ⟨hx, hb, hml, hown, hts⟩ (mtX5_cells l D cy z ad o r2 hc1) miX5_cells q792 ⟨Nat.le_of_ble_eq_true rfl, Nat.le_of_ble_eq_true rfl⟩ ⟨rfl, rfl⟩ hP1 hKK hS hA0 (va_recv hKK.1 hP1 (ci := 5) (q0 := 0) rfl rfl) rfl hl.1 rfl (Nat.le_of_ble_eq_true rfl) dX5_part_1 ⟨Nat.zero_le _, Nat.zero_le _⟩ ?_
  refine lv_aload_n hx hb dX5_part_4 rfl (lv_at hl 0 rfl) ?_
  refine lv_aload_n hx hb dX5_part_5 rfl (lv_at hl 0 rfl) ?_
  refine va_get (D := D) (ci := 5) (v := .ref (ad 2)) (C := RX5) (T := TX5) (N := 24) hx hb hts inX5 hown hKK.1 hP 0 rfl rfl 4 (by decide) (hts _ q677) (fun _ h => h) rfl dX5_part_6 ?_
  obtain ⟨r4, hc3, hf⟩ := bd_some hf
  refine pCallVI ⟨hx, hb, hml, hown, hts⟩ (mtX5_hidden l D cy z ad (ad 2) o w r4 hc3) miX5_hidden q800 ⟨Nat.le_of_ble_eq_true rfl, Nat.le_of_ble_eq_true rfl⟩ ⟨rfl, rfl⟩ hP hKK hS hA0 (va_recv hKK.1 hP (ci := 5) (q0 := 0) rfl rfl) rfl hl.1 rfl (Nat.le_of_ble_eq_true rfl) dX5_part_9 ⟨Nat.zero_le _, Nat.zero_le _⟩ ?_
  refine lv_isub hx hb dX5_part_12 ?_
  refine lv_aload_n hx hb dX5_part_13 rfl (lv_at hl 0 rfl) ?_
  obtain ⟨r6, hc5, hf⟩ := bd_some hf
  have hP1 := hP.sub (ws' := [moC ad o]) [0] rfl
  refine pCallVI ⟨hx, hb, hml, hown, hts⟩ (mtX5_cells l D cy z ad o r6 hc5) miX5_cells q792 ⟨Nat.le_of_ble_eq_true rfl, Nat.le_of_ble_eq_true rfl⟩ ⟨rfl, rfl⟩ hP1 hKK hS hA0 (va_recv hKK.1 hP1 (ci := 5) (q0 := 0) rfl rfl) rfl hl.1 rfl (Nat.le_of_ble_eq_true rfl) dX5_part_14 ⟨Nat.zero_le _, Nat.zero_le _⟩ ?_
  refine lv_iload_n hx hb dX5_part_17 rfl (lv_at hl 1 rfl) ?_
  obtain ⟨r8, hc7, hf⟩ := bd_some hf
  have hP1 := hP.sub (ws' := []) [] rfl
  refine pCallSI ⟨hx, hb, hml, hown, hts⟩ (mtX5_fraction l D cy z (r2 - r4) r6 u1 r8 hc7) miX5_fraction q979 ⟨Nat.le_of_ble_eq_true rfl, Nat.le_of_ble_eq_true rfl⟩ ⟨rfl, rfl⟩ hP1 hKK hS hA0 rfl hl.1 rfl (Nat.le_of_ble_eq_true rfl) dX5_part_18 ⟨Nat.zero_le _, Nat.zero_le _⟩ ?_
  exact pretI hx hb hr hlk hf dX5_part_21

abbrev rmX5_judged : Room := { frames := 11, cells := 0, slots := 0, locals := 276 }
theorem miX5_judged : miV yX5_judged cX5_judged 7 (some .boolean) 1 := ⟨q993, q46, q992, q37, by decide +kernel⟩
set_option maxHeartbeats 4000000 in
set_option maxRecDepth 100000 in
theorem mtX5_judged (l : Launch) (D : va_G) (cy : Nat → ClassId) (z : zT) (ad : Nat → Nat) (M : tM) (u1 : Int32) (r0 : Int32) (M0 : tM) (hf : fX5_judged M u1 = some (r0, M0)) : mmet l yX5_judged cX5_judged 7 (some .boolean) rmX5_judged D cy z (wM cy ad M) (wM cy ad M0) [.ref (ad 0), .int u1] (some (.int r0)) := by
  refine mmet_of (by decide +kernel) (Nat.le_of_ble_eq_true rfl) (fun p e s m below meth c hx hb hr hml hown hts hlk hP hD hS hA0 hKK ls hl => ?_)
  have hown : s.vm.findClass "HillSightModel" = some m.cls := hown
  have hl : lv_has ls 7 [(0, .ref (ad 0)), (1, .int u1)] := hl
  unfold fX5_judged at hf
  refine lv_iload_n hx hb dX5_judged_0 rfl (lv_at hl 1 rfl) ?_
  refine lv_bipush (v := 100) hx hb dX5_judged_1 (by decide) ?_
  refine lv_idiv hx hb dX5_judged_3 (by decide) ?_
  refine lv_bipush (v := 100) hx hb dX5_judged_4 (by decide) ?_
  refine lv_irem hx hb dX5_judged_6 (by decide) ?_
  refine nm_i hf (fun x1 hf => ?_)
  refine lv_istore_n (lv' := [(2, .int x1), (0, .ref (ad 0)), (1, .int u1)]) hx hb dX5_judged_7 rfl hl (by decide) rfl (fun ls hl => ?_)
  refine lv_iload_n hx hb dX5_judged_8 rfl (lv_at hl 2 rfl) ?_
  refine lv_bipush (v := 10) hx hb dX5_judged_9 (by decide) ?_
  refine lv_idiv hx hb dX5_judged_11 (by decide) ?_
  refine lv_bipush (v := 10) hx hb dX5_judged_12 (by decide) ?_
  refine lv_irem hx hb dX5_judged_14 (by decide) ?_
  refine nm_i hf (fun x2 hf => ?_)
  refine lv_istore_n (lv' := [(3, .int x2), (2, .int x1), (0, .ref (ad 0)), (1, .int u1)]) hx hb dX5_judged_15 rfl hl (by decide) rfl (fun ls hl => ?_)
  refine lv_iload_n hx hb dX5_judged_16 rfl (lv_at hl 3 rfl) ?_
  refine lv_bipush (v := 10) hx hb dX5_judged_17 (by decide) ?_
  refine lv_irem hx hb dX5_judged_19 (by decide) ?_
  refine nm_i hf (fun x3 hf => ?_)
  refine lv_istore (lv' := [(4, .int x3), (3, .int x2), (2, .int x1), (0, .ref (ad 0)), (1, .int u1)]) hx hb dX5_judged_20 hl (by decide) rfl (fun ls hl => ?_)
  refine lv_iload_n hx hb dX5_judged_22 rfl (lv_at hl 4 rfl) ?_
  refine lv_sipush (v := 1000) hx hb dX5_judged_23 (by decide) ?_
  refine lv_idiv hx hb dX5_judged_26 (by decide) ?_
  refine lv_bipush (v := 10) hx hb dX5_judged_27 (by decide) ?_
  refine lv_irem hx hb dX5_judged_29 (by decide) ?_
  refine nm_i hf (fun x4 hf => ?_)
  refine lv_istore (lv' := [(5, .int x4), (4, .int x3), (3, .int x2), (2, .int x1), (0, .ref (ad 0)), (1, .int u1)]) hx hb dX5_judged_30 hl (by decide) rfl (fun ls hl => ?_)
  refine lv_iload_n hx hb dX5_judged_32 rfl (lv_at hl 5 rfl) ?_
  refine lv_bipush (v := 100) hx hb dX5_judged_33 (by decide) ?_
  refine lv_idiv hx hb dX5_judged_35 (by decide) ?_
  refine lv_bipush (v := 10) hx hb dX5_judged_36 (by decide) ?_
  refine lv_irem hx hb dX5_judged_38 (by decide) ?_
  refine nm_i hf (fun x5 hf => ?_)
  refine lv_istore (lv' := [(6, .int x5), (5, .int x4), (4, .int x3), (3, .int x2), (2, .int x1), (0, .ref (ad 0)), (1, .int u1)]) hx hb dX5_judged_39 hl (by decide) rfl (fun ls hl => ?_)
  refine lv_iload_n hx hb dX5_judged_41 rfl (lv_at hl 6 rfl) ?_
  refine lv_sipush (v := 10000) hx hb dX5_judged_42 (by decide) ?_
  refine lv_idiv hx hb dX5_judged_45 (by decide) ?_
  by_cases h1 : (u1 / (10000 : Int32)) = 1
  · have hf := (if_pos h1).symm.trans hf
    refine sw_hit (tgt := 88) hx hb dX5_judged_46 h1 (by decide) (by decide) rfl (by decide) ?_
    refine lv_aload_n hx hb dX5_judged_88 rfl (lv_at hl 5 rfl) ?_
    refine lv_iload_n hx hb dX5_judged_89 rfl (lv_at hl 4 rfl) ?_
    obtain ⟨r7, hc6, hf⟩ := bd_some hf
    have hP1 := hP.sub (ws' := [moC ad M.1]) [0] rfl
    refine pCallVI ⟨hx, hb, hml, hown, hts⟩ (mtX5_isCell l D cy z ad M.1 x1 r7 hc6) miX5_isCell q865 ⟨Nat.le_of_ble_eq_true rfl, Nat.le_of_ble_eq_true rfl⟩ ⟨rfl, rfl⟩ hP1 hKK hS hA0 (va_recv hKK.1 hP1 (ci := 5) (q0 := 0) rfl rfl) rfl hl.1 rfl (Nat.le_of_ble_eq_true rfl) dX5_judged_90 ⟨Nat.zero_le _, Nat.zero_le _⟩ ?_
    refine lv_if_eq (tgt := 101) hx hb dX5_judged_93 (by decide) (fun h => ?_) (fun h => ?_)
    · have hf := (if_pos h).symm.trans hf
      refine lv_iconst (v := 0) hx hb dX5_judged_101 (by decide) ?_
      cases hf
      exact mretZ hx hb hr hlk (by decide) hP hS dX5_judged_102
    · have hf := (if_neg h).symm.trans hf
      refine lv_iload hx hb dX5_judged_96 (lv_at hl 2 rfl) ?_
      refine lv_if_eq (tgt := 103) hx hb dX5_judged_98 (by decide) (fun h => ?_) (fun h => ?_)
      · have hf := (if_pos h).symm.trans hf
        refine lv_aload_n hx hb dX5_judged_103 rfl (lv_at hl 5 rfl) ?_
        refine va_get (D := D) (ci := 5) (v := .ref (ad 3)) (C := RX5) (T := TX5) (N := 24) hx hb hts inX5 hown hKK.1 hP 0 rfl rfl 5 (by decide) (hts _ q678) (fun _ h => h) rfl dX5_judged_104 ?_
        refine lv_iload_n hx hb dX5_judged_107 rfl (lv_at hl 4 rfl) ?_
        refine lv_iload_n hx hb dX5_judged_108 rfl (lv_at hl 3 rfl) ?_
        obtain ⟨hg8, hf⟩ := gd_some hf
        refine va_iast hx hb hKK.1 hP hD hS 3 0 rfl rfl (inb_in hg8) dX5_judged_109 (fun H locs hP hD hS => ?_)
        have hP : va_P D vwCl (wM cy ad (M.1, M.2.1, M.2.2.1, (upd M.2.2.2.1 x1.toNatClampNeg x2), M.2.2.2.2.1, M.2.2.2.2.2.1, M.2.2.2.2.2.2.1, M.2.2.2.2.2.2.2.1, M.2.2.2.2.2.2.2.2.1, M.2.2.2.2.2.2.2.2.2.1, M.2.2.2.2.2.2.2.2.2.2.1, M.2.2.2.2.2.2.2.2.2.2.2.1, M.2.2.2.2.2.2.2.2.2.2.2.2)) H := hP
        have hD : va_D (adr (wM cy ad M)) (wM cy ad (M.1, M.2.1, M.2.2.1, (upd M.2.2.2.1 x1.toNatClampNeg x2), M.2.2.2.2.1, M.2.2.2.2.2.1, M.2.2.2.2.2.2.1, M.2.2.2.2.2.2.2.1, M.2.2.2.2.2.2.2.2.1, M.2.2.2.2.2.2.2.2.2.1, M.2.2.2.2.2.2.2.2.2.2.1, M.2.2.2.2.2.2.2.2.2.2.2.1, M.2.2.2.2.2.2.2.2.2.2.2.2)) := hD
        refine lv_iconst (v := 1) hx hb dX5_judged_110 (by decide) ?_
        cases hf
        exact mretZ hx hb hr hlk (by decide) hP hS dX5_judged_111
      · have hf := (if_neg h).symm.trans hf
        refine lv_iconst (v := 0) hx hb dX5_judged_101 (by decide) ?_
        cases hf
        exact mretZ hx hb hr hlk (by decide) hP hS dX5_judged_102
  have hf := (if_neg h1).symm.trans hf
  by_cases h2 : (u1 / (10000 : Int32)) = 2
  · have hf := (if_pos h2).symm.trans hf
    refine sw_hit (tgt := 112) hx hb dX5_judged_46 h2 (by decide) (by decide) rfl (by decide) ?_
    refine lv_aload_n hx hb dX5_judged_112 rfl (lv_at hl 5 rfl) ?_
    refine lv_iload_n hx hb dX5_judged_113 rfl (lv_at hl 4 rfl) ?_
    obtain ⟨r10, hc9, hf⟩ := bd_some hf
    have hP1 := hP.sub (ws' := [moC ad M.1]) [0] rfl
    refine pCallVI ⟨hx, hb, hml, hown, hts⟩ (mtX5_isCell l D cy z ad M.1 x1 r10 hc9) miX5_isCell q865 ⟨Nat.le_of_ble_eq_true rfl, Nat.le_of_ble_eq_true rfl⟩ ⟨rfl, rfl⟩ hP1 hKK hS hA0 (va_recv hKK.1 hP1 (ci := 5) (q0 := 0) rfl rfl) rfl hl.1 rfl (Nat.le_of_ble_eq_true rfl) dX5_judged_114 ⟨Nat.zero_le _, Nat.zero_le _⟩ ?_
    refine lv_if_eq (tgt := 136) hx hb dX5_judged_117 (by decide) (fun h => ?_) (fun h => ?_)
    · have hf := (if_pos h).symm.trans hf
      refine lv_iconst (v := 0) hx hb dX5_judged_136 (by decide) ?_
      cases hf
      exact mretZ hx hb hr hlk (by decide) hP hS dX5_judged_137
    · have hf := (if_neg h).symm.trans hf
      refine lv_iload hx hb dX5_judged_120 (lv_at hl 2 rfl) ?_
      refine lv_if_ne (tgt := 136) hx hb dX5_judged_122 (by decide) (fun h => ?_) (fun h => ?_)
      · have hf := (if_neg h).symm.trans hf
        refine lv_iconst (v := 0) hx hb dX5_judged_136 (by decide) ?_
        cases hf
        exact mretZ hx hb hr hlk (by decide) hP hS dX5_judged_137
      · have hf := (if_pos h).symm.trans hf
        refine lv_aload_n hx hb dX5_judged_125 rfl (lv_at hl 5 rfl) ?_
        refine va_get (D := D) (ci := 5) (v := .ref (ad 3)) (C := RX5) (T := TX5) (N := 24) hx hb hts inX5 hown hKK.1 hP 0 rfl rfl 5 (by decide) (hts _ q678) (fun _ h => h) rfl dX5_judged_126 ?_
        refine lv_bipush (v := 36) hx hb dX5_judged_129 (by decide) ?_
        refine va_iald hx hb hKK.1 hP 3 0 rfl rfl (inb_in (by decide)) dX5_judged_131 ?_
        refine lv_iconst (v := 5) hx hb dX5_judged_132 (by decide) ?_
        refine lv_icmp_ne (tgt := 138) hx hb dX5_judged_133 (by decide) (fun h => ?_) (fun h => ?_)
        · have hf := (if_neg h).symm.trans hf
          refine lv_aload_n hx hb dX5_judged_138 rfl (lv_at hl 5 rfl) ?_
          refine va_get (D := D) (ci := 5) (v := .ref (ad 3)) (C := RX5) (T := TX5) (N := 24) hx hb hts inX5 hown hKK.1 hP 0 rfl rfl 5 (by decide) (hts _ q678) (fun _ h => h) rfl dX5_judged_139 ?_
          refine lv_iload_n hx hb dX5_judged_142 rfl (lv_at hl 4 rfl) ?_
          refine lv_iload_n hx hb dX5_judged_143 rfl (lv_at hl 3 rfl) ?_
          obtain ⟨y12, hc11, hf⟩ := bd_some hf
          have hP1 := hP.sub (ws' := [arI cy (ad 3) 51 M.2.2.2.1]) [3] rfl
          have hD1 := hD.sub (ws' := [arI cy (ad 3) 51 M.2.2.2.1]) [3] (by decide) rfl
          refine mCallSV ⟨hx, hb, hml, hown, hts⟩ (mtX5_buildOn l D cy z (ad 3) M.2.2.2.1 x1 x2 y12 hc11) miX5_buildOn q907 ⟨Nat.le_of_ble_eq_true rfl, Nat.le_of_ble_eq_true rfl⟩ ⟨rfl, rfl⟩ hP1 hD1 hKK hA0 rfl hl.1 rfl (Nat.le_of_ble_eq_true rfl) dX5_judged_144 ⟨Nat.zero_le _, Nat.zero_le _⟩ hS hP hD [3] rfl rfl (ws' := wM cy ad (M.1, M.2.1, M.2.2.1, y12, M.2.2.2.2.1, M.2.2.2.2.2.1, M.2.2.2.2.2.2.1, M.2.2.2.2.2.2.2.1, M.2.2.2.2.2.2.2.2.1, M.2.2.2.2.2.2.2.2.2.1, M.2.2.2.2.2.2.2.2.2.2.1, M.2.2.2.2.2.2.2.2.2.2.2.1, M.2.2.2.2.2.2.2.2.2.2.2.2)) rfl (fun H locs hP hD hS => ?_)
          refine lv_iconst (v := 1) hx hb dX5_judged_147 (by decide) ?_
          cases hf
          exact mretZ hx hb hr hlk (by decide) hP hS dX5_judged_148
        · have hf := (if_pos h).symm.trans hf
          refine lv_iconst (v := 0) hx hb dX5_judged_136 (by decide) ?_
          cases hf
          exact mretZ hx hb hr hlk (by decide) hP hS dX5_judged_137
  have hf := (if_neg h2).symm.trans hf
  by_cases h3 : (u1 / (10000 : Int32)) = 3
  · have hf := (if_pos h3).symm.trans hf
    refine sw_hit (tgt := 149) hx hb dX5_judged_46 h3 (by decide) (by decide) rfl (by decide) ?_
    refine lv_iload hx hb dX5_judged_149 (lv_at hl 1 rfl) ?_
    refine lv_aload_n hx hb dX5_judged_151 rfl (lv_at hl 5 rfl) ?_
    refine va_get (D := D) (ci := 5) (v := .ref (ad 3)) (C := RX5) (T := TX5) (N := 24) hx hb hts inX5 hown hKK.1 hP 0 rfl rfl 5 (by decide) (hts _ q678) (fun _ h => h) rfl dX5_judged_152 ?_
    refine lv_bipush (v := 36) hx hb dX5_judged_155 (by decide) ?_
    refine va_iald hx hb hKK.1 hP 3 0 rfl rfl (inb_in (by decide)) dX5_judged_157 ?_
    refine lv_icmp_ge (tgt := 169) hx hb dX5_judged_158 (by decide) (fun h => ?_) (fun h => ?_)
    · have hf := (if_pos h).symm.trans hf
      refine lv_iconst (v := 0) hx hb dX5_judged_169 (by decide) ?_
      cases hf
      exact mretZ hx hb hr hlk (by decide) hP hS dX5_judged_170
    · have hf := (if_neg h).symm.trans hf
      refine lv_iload_n hx hb dX5_judged_161 rfl (lv_at hl 6 rfl) ?_
      refine lv_sipush (v := 1000) hx hb dX5_judged_162 (by decide) ?_
      refine lv_irem hx hb dX5_judged_165 (by decide) ?_
      refine lv_if_eq (tgt := 171) hx hb dX5_judged_166 (by decide) (fun h => ?_) (fun h => ?_)
      · have hf := (if_pos h).symm.trans hf
        refine lv_aload_n hx hb dX5_judged_171 rfl (lv_at hl 5 rfl) ?_
        refine va_get (D := D) (ci := 5) (v := .ref (ad 3)) (C := RX5) (T := TX5) (N := 24) hx hb hts inX5 hown hKK.1 hP 0 rfl rfl 5 (by decide) (hts _ q678) (fun _ h => h) rfl dX5_judged_172 ?_
        refine lv_iload hx hb dX5_judged_175 (lv_at hl 1 rfl) ?_
        obtain ⟨y14, hc13, hf⟩ := bd_some hf
        have hP1 := hP.sub (ws' := [arI cy (ad 3) 51 M.2.2.2.1]) [3] rfl
        have hD1 := hD.sub (ws' := [arI cy (ad 3) 51 M.2.2.2.1]) [3] (by decide) rfl
        refine mCallSV ⟨hx, hb, hml, hown, hts⟩ (mtX5_razeOf l D cy z (ad 3) M.2.2.2.1 x4 y14 hc13) miX5_razeOf q914 ⟨Nat.le_of_ble_eq_true rfl, Nat.le_of_ble_eq_true rfl⟩ ⟨rfl, rfl⟩ hP1 hD1 hKK hA0 rfl hl.1 rfl (Nat.le_of_ble_eq_true rfl) dX5_judged_177 ⟨Nat.zero_le _, Nat.zero_le _⟩ hS hP hD [3] rfl rfl (ws' := wM cy ad (M.1, M.2.1, M.2.2.1, y14, M.2.2.2.2.1, M.2.2.2.2.2.1, M.2.2.2.2.2.2.1, M.2.2.2.2.2.2.2.1, M.2.2.2.2.2.2.2.2.1, M.2.2.2.2.2.2.2.2.2.1, M.2.2.2.2.2.2.2.2.2.2.1, M.2.2.2.2.2.2.2.2.2.2.2.1, M.2.2.2.2.2.2.2.2.2.2.2.2)) rfl (fun H locs hP hD hS => ?_)
        refine lv_iconst (v := 1) hx hb dX5_judged_180 (by decide) ?_
        cases hf
        exact mretZ hx hb hr hlk (by decide) hP hS dX5_judged_181
      · have hf := (if_neg h).symm.trans hf
        refine lv_iconst (v := 0) hx hb dX5_judged_169 (by decide) ?_
        cases hf
        exact mretZ hx hb hr hlk (by decide) hP hS dX5_judged_170
  have hf := (if_neg h3).symm.trans hf
  by_cases h4 : (u1 / (10000 : Int32)) = 4
  · have hf := (if_pos h4).symm.trans hf
    refine sw_hit (tgt := 182) hx hb dX5_judged_46 h4 (by decide) (by decide) rfl (by decide) ?_
    refine lv_iload_n hx hb dX5_judged_182 rfl (lv_at hl 6 rfl) ?_
    refine lv_bipush (v := 100) hx hb dX5_judged_183 (by decide) ?_
    refine lv_irem hx hb dX5_judged_185 (by decide) ?_
    refine lv_if_ne (tgt := 205) hx hb dX5_judged_186 (by decide) (fun h => ?_) (fun h => ?_)
    · have hf := (if_neg h).symm.trans hf
      refine lv_iconst (v := 0) hx hb dX5_judged_205 (by decide) ?_
      cases hf
      exact mretZ hx hb hr hlk (by decide) hP hS dX5_judged_206
    · have hf := (if_pos h).symm.trans hf
      refine lv_aload_n hx hb dX5_judged_189 rfl (lv_at hl 5 rfl) ?_
      refine lv_aload_n hx hb dX5_judged_190 rfl (lv_at hl 5 rfl) ?_
      refine va_get (D := D) (ci := 5) (v := .ref (ad 3)) (C := RX5) (T := TX5) (N := 24) hx hb hts inX5 hown hKK.1 hP 0 rfl rfl 5 (by decide) (hts _ q678) (fun _ h => h) rfl dX5_judged_191 ?_
      obtain ⟨r16, hc15, hf⟩ := bd_some hf
      have hP1 := hP.sub (ws' := [moC ad M.1, arI cy (ad 3) 51 M.2.2.2.1]) [0, 3] rfl
      refine pCallVI ⟨hx, hb, hml, hown, hts⟩ (mtX5_hidden l D cy z ad (ad 3) M.1 M.2.2.2.1 r16 hc15) miX5_hidden q800 ⟨Nat.le_of_ble_eq_true rfl, Nat.le_of_ble_eq_true rfl⟩ ⟨rfl, rfl⟩ hP1 hKK hS hA0 (va_recv hKK.1 hP1 (ci := 5) (q0 := 0) rfl rfl) rfl hl.1 rfl (Nat.le_of_ble_eq_true rfl) dX5_judged_194 ⟨Nat.zero_le _, Nat.zero_le _⟩ ?_
      refine lv_iload_n hx hb dX5_judged_197 rfl (lv_at hl 4 rfl) ?_
      refine lv_icmp_ne (tgt := 205) hx hb dX5_judged_198 (by decide) (fun h => ?_) (fun h => ?_)
      · have hf := (if_neg h).symm.trans hf
        refine lv_iconst (v := 0) hx hb dX5_judged_205 (by decide) ?_
        cases hf
        exact mretZ hx hb hr hlk (by decide) hP hS dX5_judged_206
      · have hf := (if_pos h).symm.trans hf
        refine lv_iconst (v := 1) hx hb dX5_judged_201 (by decide) ?_
        refine lv_goto (tgt := 206) hx hb dX5_judged_202 (by decide) ?_
        cases hf
        exact mretZ hx hb hr hlk (by decide) hP hS dX5_judged_206
  have hf := (if_neg h4).symm.trans hf
  by_cases h5 : (u1 / (10000 : Int32)) = 5
  · have hf := (if_pos h5).symm.trans hf
    refine sw_hit (tgt := 207) hx hb dX5_judged_46 h5 (by decide) (by decide) rfl (by decide) ?_
    refine lv_aload_n hx hb dX5_judged_207 rfl (lv_at hl 5 rfl) ?_
    refine lv_iload_n hx hb dX5_judged_208 rfl (lv_at hl 4 rfl) ?_
    obtain ⟨r18, hc17, hf⟩ := bd_some hf
    have hP1 := hP.sub (ws' := [moC ad M.1]) [0] rfl
    refine pCallVI ⟨hx, hb, hml, hown, hts⟩ (mtX5_isCell l D cy z ad M.1 x1 r18 hc17) miX5_isCell q865 ⟨Nat.le_of_ble_eq_true rfl, Nat.le_of_ble_eq_true rfl⟩ ⟨rfl, rfl⟩ hP1 hKK hS hA0 (va_recv hKK.1 hP1 (ci := 5) (q0 := 0) rfl rfl) rfl hl.1 rfl (Nat.le_of_ble_eq_true rfl) dX5_judged_209 ⟨Nat.zero_le _, Nat.zero_le _⟩ ?_
    refine lv_if_eq (tgt := 254) hx hb dX5_judged_212 (by decide) (fun h => ?_) (fun h => ?_)
    · have hf := (if_pos h).symm.trans hf
      refine lv_iconst (v := 0) hx hb dX5_judged_254 (by decide) ?_
      cases hf
      exact mretZ hx hb hr hlk (by decide) hP hS dX5_judged_255
    · have hf := (if_neg h).symm.trans hf
      refine lv_iload_n hx hb dX5_judged_215 rfl (lv_at hl 3 rfl) ?_
      refine lv_iconst (v := 2) hx hb dX5_judged_216 (by decide) ?_
      refine lv_icmp_ge (tgt := 254) hx hb dX5_judged_217 (by decide) (fun h => ?_) (fun h => ?_)
      · have hf := (if_pos h).symm.trans hf
        refine lv_iconst (v := 0) hx hb dX5_judged_254 (by decide) ?_
        cases hf
        exact mretZ hx hb hr hlk (by decide) hP hS dX5_judged_255
      · have hf := (if_neg h).symm.trans hf
        refine lv_iload hx hb dX5_judged_220 (lv_at hl 2 rfl) ?_
        refine lv_if_ne (tgt := 254) hx hb dX5_judged_222 (by decide) (fun h => ?_) (fun h => ?_)
        · have hf := (if_neg h).symm.trans hf
          refine lv_iconst (v := 0) hx hb dX5_judged_254 (by decide) ?_
          cases hf
          exact mretZ hx hb hr hlk (by decide) hP hS dX5_judged_255
        · have hf := (if_pos h).symm.trans hf
          refine lv_aload_n hx hb dX5_judged_225 rfl (lv_at hl 5 rfl) ?_
          refine lv_aload_n hx hb dX5_judged_226 rfl (lv_at hl 5 rfl) ?_
          refine va_get (D := D) (ci := 5) (v := .ref (ad 3)) (C := RX5) (T := TX5) (N := 24) hx hb hts inX5 hown hKK.1 hP 0 rfl rfl 5 (by decide) (hts _ q678) (fun _ h => h) rfl dX5_judged_227 ?_
          obtain ⟨r20, hc19, hf⟩ := bd_some hf
          have hP1 := hP.sub (ws' := [moC ad M.1, arI cy (ad 3) 51 M.2.2.2.1]) [0, 3] rfl
          refine pCallVL ⟨hx, hb, hml, hown, hts⟩ (mtX5_watchedByAny l D cy z ad (ad 3) M.1 M.2.2.2.1 r20 hc19) miX5_watchedByAny q804 ⟨Nat.le_of_ble_eq_true rfl, Nat.le_of_ble_eq_true rfl⟩ ⟨rfl, rfl⟩ hP1 hKK hS hA0 (va_recv hKK.1 hP1 (ci := 5) (q0 := 0) rfl rfl) rfl hl.1 rfl (Nat.le_of_ble_eq_true rfl) dX5_judged_230 ⟨Nat.zero_le _, Nat.zero_le _⟩ ?_
          refine lv_iload_n hx hb dX5_judged_233 rfl (lv_at hl 4 rfl) ?_
          obtain ⟨r22, hc21, hf⟩ := bd_some hf
          have hP1 := hP.sub (ws' := []) [] rfl
          refine pCallSI ⟨hx, hb, hml, hown, hts⟩ (mtX5_has l D cy z r20 x1 r22 hc21) miX5_has q850 ⟨Nat.le_of_ble_eq_true rfl, Nat.le_of_ble_eq_true rfl⟩ ⟨rfl, rfl⟩ hP1 hKK hS hA0 rfl hl.1 rfl (Nat.le_of_ble_eq_true rfl) dX5_judged_234 ⟨Nat.zero_le _, Nat.zero_le _⟩ ?_
          refine lv_iload_n hx hb dX5_judged_237 rfl (lv_at hl 3 rfl) ?_
          refine lv_iconst (v := 1) hx hb dX5_judged_238 (by decide) ?_
          refine lv_icmp_ne (tgt := 246) hx hb dX5_judged_239 (by decide) (fun h => ?_) (fun h => ?_)
          · have hf := (if_neg h).symm.trans hf
            refine lv_iconst (v := 0) hx hb dX5_judged_246 (by decide) ?_
            refine lv_icmp_ne (tgt := 254) hx hb dX5_judged_247 (by decide) (fun h => ?_) (fun h => ?_)
            · have hf := (if_neg h).symm.trans hf
              refine lv_iconst (v := 0) hx hb dX5_judged_254 (by decide) ?_
              cases hf
              exact mretZ hx hb hr hlk (by decide) hP hS dX5_judged_255
            · have hf := (if_pos h).symm.trans hf
              refine lv_iconst (v := 1) hx hb dX5_judged_250 (by decide) ?_
              refine lv_goto (tgt := 255) hx hb dX5_judged_251 (by decide) ?_
              cases hf
              exact mretZ hx hb hr hlk (by decide) hP hS dX5_judged_255
          · have hf := (if_pos h).symm.trans hf
            refine lv_iconst (v := 1) hx hb dX5_judged_242 (by decide) ?_
            refine lv_goto (tgt := 247) hx hb dX5_judged_243 (by decide) ?_
            refine lv_icmp_ne (tgt := 254) hx hb dX5_judged_247 (by decide) (fun h => ?_) (fun h => ?_)
            · have hf := (if_neg h).symm.trans hf
              refine lv_iconst (v := 0) hx hb dX5_judged_254 (by decide) ?_
              cases hf
              exact mretZ hx hb hr hlk (by decide) hP hS dX5_judged_255
            · have hf := (if_pos h).symm.trans hf
              refine lv_iconst (v := 1) hx hb dX5_judged_250 (by decide) ?_
              refine lv_goto (tgt := 255) hx hb dX5_judged_251 (by decide) ?_
              cases hf
              exact mretZ hx hb hr hlk (by decide) hP hS dX5_judged_255
  have hf := (if_neg h5).symm.trans hf
  by_cases h6 : (u1 / (10000 : Int32)) = 6
  · have hf := (if_pos h6).symm.trans hf
    refine sw_hit (tgt := 256) hx hb dX5_judged_46 h6 (by decide) (by decide) rfl (by decide) ?_
    refine lv_iload hx hb dX5_judged_256 (lv_at hl 1 rfl) ?_
    refine lv_iload hx hb dX5_judged_258 (lv_at hl 0 rfl) ?_
    obtain ⟨r24, hc23, hf⟩ := bd_some hf
    have hP1 := hP.sub (ws' := []) [] rfl
    refine pCallSI ⟨hx, hb, hml, hown, hts⟩ (mtX5_maySet l D cy z x4 x5 r24 hc23) miX5_maySet q921 ⟨Nat.le_of_ble_eq_true rfl, Nat.le_of_ble_eq_true rfl⟩ ⟨rfl, rfl⟩ hP1 hKK hS hA0 rfl hl.1 rfl (Nat.le_of_ble_eq_true rfl) dX5_judged_260 ⟨Nat.zero_le _, Nat.zero_le _⟩ ?_
    refine lv_if_eq (tgt := 273) hx hb dX5_judged_263 (by decide) (fun h => ?_) (fun h => ?_)
    · have hf := (if_pos h).symm.trans hf
      refine lv_iconst (v := 0) hx hb dX5_judged_273 (by decide) ?_
      cases hf
      exact mretZ hx hb hr hlk (by decide) hP hS dX5_judged_274
    · have hf := (if_neg h).symm.trans hf
      refine lv_iload_n hx hb dX5_judged_266 rfl (lv_at hl 6 rfl) ?_
      refine lv_bipush (v := 100) hx hb dX5_judged_267 (by decide) ?_
      refine lv_irem hx hb dX5_judged_269 (by decide) ?_
      refine lv_if_eq (tgt := 275) hx hb dX5_judged_270 (by decide) (fun h => ?_) (fun h => ?_)
      · have hf := (if_pos h).symm.trans hf
        refine lv_aload_n hx hb dX5_judged_275 rfl (lv_at hl 5 rfl) ?_
        refine va_get (D := D) (ci := 5) (v := .ref (ad 3)) (C := RX5) (T := TX5) (N := 24) hx hb hts inX5 hown hKK.1 hP 0 rfl rfl 5 (by decide) (hts _ q678) (fun _ h => h) rfl dX5_judged_276 ?_
        refine lv_bipush (v := 47) hx hb dX5_judged_279 (by decide) ?_
        refine lv_iload hx hb dX5_judged_281 (lv_at hl 1 rfl) ?_
        refine lv_iadd hx hb dX5_judged_283 ?_
        refine lv_iload hx hb dX5_judged_284 (lv_at hl 0 rfl) ?_
        obtain ⟨hg25, hf⟩ := gd_some hf
        refine va_iast hx hb hKK.1 hP hD hS 3 0 rfl rfl (inb_in hg25) dX5_judged_286 (fun H locs hP hD hS => ?_)
        have hP : va_P D vwCl (wM cy ad (M.1, M.2.1, M.2.2.1, (upd M.2.2.2.1 ((47 : Int32) + x4).toNatClampNeg x5), M.2.2.2.2.1, M.2.2.2.2.2.1, M.2.2.2.2.2.2.1, M.2.2.2.2.2.2.2.1, M.2.2.2.2.2.2.2.2.1, M.2.2.2.2.2.2.2.2.2.1, M.2.2.2.2.2.2.2.2.2.2.1, M.2.2.2.2.2.2.2.2.2.2.2.1, M.2.2.2.2.2.2.2.2.2.2.2.2)) H := hP
        have hD : va_D (adr (wM cy ad M)) (wM cy ad (M.1, M.2.1, M.2.2.1, (upd M.2.2.2.1 ((47 : Int32) + x4).toNatClampNeg x5), M.2.2.2.2.1, M.2.2.2.2.2.1, M.2.2.2.2.2.2.1, M.2.2.2.2.2.2.2.1, M.2.2.2.2.2.2.2.2.1, M.2.2.2.2.2.2.2.2.2.1, M.2.2.2.2.2.2.2.2.2.2.1, M.2.2.2.2.2.2.2.2.2.2.2.1, M.2.2.2.2.2.2.2.2.2.2.2.2)) := hD
        refine lv_iconst (v := 1) hx hb dX5_judged_287 (by decide) ?_
        cases hf
        exact mretZ hx hb hr hlk (by decide) hP hS dX5_judged_288
      · have hf := (if_neg h).symm.trans hf
        refine lv_iconst (v := 0) hx hb dX5_judged_273 (by decide) ?_
        cases hf
        exact mretZ hx hb hr hlk (by decide) hP hS dX5_judged_274
  have hf := (if_neg h6).symm.trans hf
  by_cases h7 : (u1 / (10000 : Int32)) = 7
  · have hf := (if_pos h7).symm.trans hf
    refine sw_hit (tgt := 289) hx hb dX5_judged_46 h7 (by decide) (by decide) rfl (by decide) ?_
    refine lv_iload_n hx hb dX5_judged_289 rfl (lv_at hl 6 rfl) ?_
    refine lv_sipush (v := 1000) hx hb dX5_judged_290 (by decide) ?_
    refine lv_irem hx hb dX5_judged_293 (by decide) ?_
    refine lv_if_ne (tgt := 314) hx hb dX5_judged_294 (by decide) (fun h => ?_) (fun h => ?_)
    · have hf := (if_neg h).symm.trans hf
      refine lv_iconst (v := 0) hx hb dX5_judged_314 (by decide) ?_
      cases hf
      exact mretZ hx hb hr hlk (by decide) hP hS dX5_judged_315
    · have hf := (if_pos h).symm.trans hf
      refine lv_aload_n hx hb dX5_judged_297 rfl (lv_at hl 5 rfl) ?_
      refine lv_aload_n hx hb dX5_judged_298 rfl (lv_at hl 5 rfl) ?_
      refine va_get (D := D) (ci := 5) (v := .ref (ad 3)) (C := RX5) (T := TX5) (N := 24) hx hb hts inX5 hown hKK.1 hP 0 rfl rfl 5 (by decide) (hts _ q678) (fun _ h => h) rfl dX5_judged_299 ?_
      obtain ⟨y27, hc26, hf⟩ := bd_some hf
      have hP1 := hP.sub (ws' := [moC ad M.1, arI cy (ad 3) 51 M.2.2.2.1, arI cy (ad 12) 36 M.2.2.2.2.2.2.2.2.2.2.2.2]) [0, 3, 12] rfl
      have hD1 := hD.sub (ws' := [moC ad M.1, arI cy (ad 3) 51 M.2.2.2.1, arI cy (ad 12) 36 M.2.2.2.2.2.2.2.2.2.2.2.2]) [0, 3, 12] (by decide) rfl
      refine mCallVI ⟨hx, hb, hml, hown, hts⟩ (mtX5_layHollows l D cy z ad (ad 3) M.1 M.2.2.2.1 M.2.2.2.2.2.2.2.2.2.2.2.2 y27.1 y27.2 hc26) miX5_layHollows q853 ⟨Nat.le_of_ble_eq_true rfl, Nat.le_of_ble_eq_true rfl⟩ ⟨rfl, rfl⟩ hP1 hD1 hKK hA0 (va_recv hKK.1 hP1 (ci := 5) (q0 := 0) rfl rfl) rfl hl.1 rfl (Nat.le_of_ble_eq_true rfl) dX5_judged_302 ⟨Nat.zero_le _, Nat.zero_le _⟩ hS hP hD [0, 3, 12] rfl rfl (ws' := wM cy ad (M.1, M.2.1, M.2.2.1, M.2.2.2.1, M.2.2.2.2.1, M.2.2.2.2.2.1, M.2.2.2.2.2.2.1, M.2.2.2.2.2.2.2.1, M.2.2.2.2.2.2.2.2.1, M.2.2.2.2.2.2.2.2.2.1, M.2.2.2.2.2.2.2.2.2.2.1, M.2.2.2.2.2.2.2.2.2.2.2.1, y27.2)) rfl (fun H locs hP hD hS => ?_)
      refine lv_iload hx hb dX5_judged_305 (lv_at hl 1 rfl) ?_
      refine lv_icmp_ne (tgt := 314) hx hb dX5_judged_307 (by decide) (fun h => ?_) (fun h => ?_)
      · have hf := (if_neg h).symm.trans hf
        refine lv_iconst (v := 0) hx hb dX5_judged_314 (by decide) ?_
        cases hf
        exact mretZ hx hb hr hlk (by decide) hP hS dX5_judged_315
      · have hf := (if_pos h).symm.trans hf
        refine lv_iconst (v := 1) hx hb dX5_judged_310 (by decide) ?_
        refine lv_goto (tgt := 315) hx hb dX5_judged_311 (by decide) ?_
        cases hf
        exact mretZ hx hb hr hlk (by decide) hP hS dX5_judged_315
  have hf := (if_neg h7).symm.trans hf
  refine lv_tableOut (tgt := 316) hx hb dX5_judged_46 (show ((u1 / (10000 : Int32))).toInt < 1 ∨ 7 < ((u1 / (10000 : Int32))).toInt by have e1 := lv_neT h1 (a := 1) (by decide); have e2 := lv_neT h2 (a := 2) (by decide); have e3 := lv_neT h3 (a := 3) (by decide); have e4 := lv_neT h4 (a := 4) (by decide); have e5 := lv_neT h5 (a := 5) (by decide); have e6 := lv_neT h6 (a := 6) (by decide); have e7 := lv_neT h7 (a := 7) (by decide); omega) (by decide) ?_
  refine lv_iconst (v := 0) hx hb dX5_judged_316 (by decide) ?_
  cases hf
  exact mretZ hx hb hr hlk (by decide) hP hS dX5_judged_317

abbrev rmX5_judge : Room := { frames := 12, cells := 0, slots := 0, locals := 302 }
theorem miX5_judge : miV yX5_judge cX5_judge 5 (some .int) 2 := ⟨q985, q46, q983, q984, by decide +kernel⟩
set_option maxHeartbeats 4000000 in
set_option maxRecDepth 100000 in
theorem mtX5_judge (l : Launch) (D : va_G) (cy : Nat → ClassId) (z : zT) (ad : Nat → Nat) (M : tM) (u1 : Int32) (u2 : Int64) (r0 : Int32) (M0 : tM) (hf : fX5_judge M u1 u2 = some (r0, M0)) : mmet l yX5_judge cX5_judge 5 (some .int) rmX5_judge D cy z (wM cy ad M) (wM cy ad M0) [.ref (ad 0), .int u1, .long u2] (some (.int r0)) := by
  refine mmet_of (by decide +kernel) (Nat.le_of_ble_eq_true rfl) (fun p e s m below meth c hx hb hr hml hown hts hlk hP hD hS hA0 hKK ls hl => ?_)
  have hown : s.vm.findClass "HillSightModel" = some m.cls := hown
  have hl : lv_has ls 5 [(0, .ref (ad 0)), (1, .int u1), (2, .long u2)] := hl
  have w_43 : ∀ (g1_43 : Int32) (g2_43 : Int64) (k72 : Int32 → tM → Option (Int32 × tM)) (hk72 : ∀ (v4_43 : Int32) (M_43 : tM) (H : Heap) (locs : List Loc) (ls : Array Slot), k72 v4_43 M_43 = some (r0, M0) → va_P D vwCl (wM cy ad M_43) H → va_D (adr (wM cy ad M)) (wM cy ad M_43) → va_S (adr (wM cy ad M)) s.heap H locs → lv_has ls 5 [(4, .int v4_43)] → W p l e rmX5_judge s m ([.ref (ad 0), .int u1, .long u2] : List Value).toArray below meth c H locs 0 0 (MQ below (mQ D (wM cy ad M) (wM cy ad M0) (some (.int r0))) ([.ref (ad 0), .int u1, .long u2] : List Value).toArray s 0 0 (adr (wM cy ad M))) (F0 m 72 ls [])) (k81 : tM → Option (Int32 × tM)) (hk81 : ∀ (M_43 : tM) (H : Heap) (locs : List Loc) (ls : Array Slot), k81 M_43 = some (r0, M0) → va_P D vwCl (wM cy ad M_43) H → va_D (adr (wM cy ad M)) (wM cy ad M_43) → va_S (adr (wM cy ad M)) s.heap H locs → lv_has ls 5 [] → W p l e rmX5_judge s m ([.ref (ad 0), .int u1, .long u2] : List Value).toArray below meth c H locs 0 0 (MQ below (mQ D (wM cy ad M) (wM cy ad M0) (some (.int r0))) ([.ref (ad 0), .int u1, .long u2] : List Value).toArray s 0 0 (adr (wM cy ad M))) (F0 m 81 ls [])) (n : Nat) (v4_43 : Int32) (M_43 : tM) (H : Heap) (locs : List Loc) (ls : Array Slot), fX5_judge_43 g1_43 g2_43 k72 k81 n v4_43 M_43 = some (r0, M0) → va_P D vwCl (wM cy ad M_43) H → va_D (adr (wM cy ad M)) (wM cy ad M_43) → va_S (adr (wM cy ad M)) s.heap H locs → lv_has ls 5 [(0, .ref (ad 0)), (1, .int g1_43), (2, .long g2_43), (4, .int v4_43)] → W p l e rmX5_judge s m ([.ref (ad 0), .int u1, .long u2] : List Value).toArray below meth c H locs 0 0 (MQ below (mQ D (wM cy ad M) (wM cy ad M0) (some (.int r0))) ([.ref (ad 0), .int u1, .long u2] : List Value).toArray s 0 0 (adr (wM cy ad M))) (F0 m 43 ls []) := by
    intro g1_43 g2_43 k72 hk72 k81 hk81 n
    induction n with
    | zero =>
      intro v4_43 M_43 H locs ls hf hP hD hS hl
      cases (show (none : Option (Int32 × tM)) = some (r0, M0) from hf)
    | succ n ih =>
      intro v4_43 M_43 H locs ls hf hP hD hS hl
      rw [fX5_judge_43] at hf
      refine lv_iload hx hb dX5_judge_43 (lv_at hl 3 rfl) ?_
      refine lv_iload_n hx hb dX5_judge_45 rfl (lv_at hl 1 rfl) ?_
      refine lv_icmp_ge (tgt := 81) hx hb dX5_judge_46 (by decide) (fun h => ?_) (fun h => ?_)
      · have hf := (if_pos h).symm.trans hf
        exact hk81 M_43 _ _ ls hf hP hD hS (lv_sub hl [] rfl)
      · have hf := (if_neg h).symm.trans hf
        refine lv_aload_n hx hb dX5_judge_49 rfl (lv_at hl 0 rfl) ?_
        refine lv_lload_n hx hb dX5_judge_50 rfl (lv_at hl 2 rfl) ?_
        refine lv_iload_n hx hb dX5_judge_51 rfl (lv_at hl 1 rfl) ?_
        refine lv_iconst (v := 1) hx hb dX5_judge_52 (by decide) ?_
        refine lv_isub hx hb dX5_judge_53 ?_
        refine lv_iload hx hb dX5_judge_54 (lv_at hl 3 rfl) ?_
        refine lv_isub hx hb dX5_judge_56 ?_
        obtain ⟨r10, hc9, hf⟩ := bd_some hf
        have hP1 := hP.sub (ws' := []) [] rfl
        refine pCallSL ⟨hx, hb, hml, hown, hts⟩ (mtX5_hundredThousands l D cy z ((g1_43 - (1 : Int32)) - v4_43) r10 hc9) miX5_hundredThousands q986 ⟨Nat.le_of_ble_eq_true rfl, Nat.le_of_ble_eq_true rfl⟩ ⟨rfl, rfl⟩ hP1 hKK hS hA0 rfl hl.1 rfl (Nat.le_of_ble_eq_true rfl) dX5_judge_57 ⟨Nat.zero_le _, Nat.zero_le _⟩ ?_
        obtain ⟨hg11, hf⟩ := gd_some hf
        refine lv_ldiv hx hb dX5_judge_60 (nzl_ne hg11) ?_
        refine lv_ldc2 hx hb hown (hts _ q989) dX5_judge_61 ?_
        refine lv_lrem hx hb dX5_judge_64 (by decide) ?_
        refine lv_l2i hx hb dX5_judge_65 rfl ?_
        obtain ⟨y13, hc12, hf⟩ := bd_some hf
        refine mCallWVI ⟨hx, hb, hml, hown, hts⟩ (mtX5_judged l D cy z ad M_43 (((g2_43 / r10) - (g2_43 / r10) / (100000 : Int64) * (100000 : Int64)).toInt32) y13.1 y13.2 hc12) miX5_judged q990 ⟨Nat.le_of_ble_eq_true rfl, Nat.le_of_ble_eq_true rfl⟩ ⟨rfl, rfl⟩ hP hD hKK hA0 (va_recv hKK.1 hP (ci := 5) (q0 := 0) rfl rfl) rfl hl.1 rfl (Nat.le_of_ble_eq_true rfl) dX5_judge_66 ⟨Nat.zero_le _, Nat.zero_le _⟩ hS rfl (fun H locs hP hD hS => ?_)
        have hP : va_P D vwCl (wM cy ad y13.2) H := hP
        have hD : va_D (adr (wM cy ad M)) (wM cy ad y13.2) := hD
        refine lv_if_ne (tgt := 75) hx hb dX5_judge_69 (by decide) (fun h => ?_) (fun h => ?_)
        · have hf := (if_neg h).symm.trans hf
          obtain ⟨x14, ex14, hf⟩ := nm_ex hf
          refine lv_iinc (v := x14) (lv' := [(4, .int x14), (0, .ref (ad 0)), (1, .int g1_43), (2, .long g2_43)]) hx hb dX5_judge_75 hl (k := 3) rfl (Eq.trans rfl ex14) (by decide) rfl (fun ls hl => ?_)
          refine lv_goto (tgt := 43) hx hb dX5_judge_78 (by decide) ?_
          exact ih x14 y13.2 _ _ ls hf hP hD hS (lv_sub hl [1, 2, 3, 0] rfl)
        · have hf := (if_pos h).symm.trans hf
          exact hk72 v4_43 y13.2 _ _ ls hf hP hD hS (lv_sub hl [3] rfl)
  unfold fX5_judge at hf
  refine lv_iload_n hx hb dX5_judge_0 rfl (lv_at hl 1 rfl) ?_
  refine lv_i2l hx hb dX5_judge_1 rfl ?_
  refine lv_lconst (v := 1) hx hb dX5_judge_2 (by decide) ?_
  refine lv_ldc2 hx hb hown (hts _ q924) dX5_judge_3 ?_
  obtain ⟨r2, hc1, hf⟩ := bd_some hf
  have hP1 := hP.sub (ws' := []) [] rfl
  refine pCallSI ⟨hx, hb, hml, hown, hts⟩ (mtX5_in l D cy z u1.toInt64 (1 : Int64) (3 : Int64) r2 hc1) miX5_in q751 ⟨Nat.le_of_ble_eq_true rfl, Nat.le_of_ble_eq_true rfl⟩ ⟨rfl, rfl⟩ hP1 hKK hS hA0 rfl hl.1 rfl (Nat.le_of_ble_eq_true rfl) dX5_judge_6 ⟨Nat.zero_le _, Nat.zero_le _⟩ ?_
  refine lv_if_eq (tgt := 26) hx hb dX5_judge_9 (by decide) (fun h => ?_) (fun h => ?_)
  · have hf := (if_pos h).symm.trans hf
    refine lv_bipush (v := -2) hx hb dX5_judge_26 (by decide) ?_
    cases hf
    exact mretI hx hb hr hlk hP hS dX5_judge_28
  · have hf := (if_neg h).symm.trans hf
    refine lv_lload_n hx hb dX5_judge_12 rfl (lv_at hl 2 rfl) ?_
    refine lv_lconst (v := 0) hx hb dX5_judge_13 (by decide) ?_
    refine lv_iload_n hx hb dX5_judge_14 rfl (lv_at hl 1 rfl) ?_
    obtain ⟨r4, hc3, hf⟩ := bd_some hf
    have hP1 := hP.sub (ws' := []) [] rfl
    refine pCallSL ⟨hx, hb, hml, hown, hts⟩ (mtX5_hundredThousands l D cy z u1 r4 hc3) miX5_hundredThousands q986 ⟨Nat.le_of_ble_eq_true rfl, Nat.le_of_ble_eq_true rfl⟩ ⟨rfl, rfl⟩ hP1 hKK hS hA0 rfl hl.1 rfl (Nat.le_of_ble_eq_true rfl) dX5_judge_15 ⟨Nat.zero_le _, Nat.zero_le _⟩ ?_
    refine lv_lconst (v := 1) hx hb dX5_judge_18 (by decide) ?_
    refine lv_lsub hx hb dX5_judge_19 ?_
    obtain ⟨r6, hc5, hf⟩ := bd_some hf
    have hP1 := hP.sub (ws' := []) [] rfl
    refine pCallSI ⟨hx, hb, hml, hown, hts⟩ (mtX5_in l D cy z u2 (0 : Int64) (r4 - (1 : Int64)) r6 hc5) miX5_in q751 ⟨Nat.le_of_ble_eq_true rfl, Nat.le_of_ble_eq_true rfl⟩ ⟨rfl, rfl⟩ hP1 hKK hS hA0 rfl hl.1 rfl (Nat.le_of_ble_eq_true rfl) dX5_judge_20 ⟨Nat.zero_le _, Nat.zero_le _⟩ ?_
    refine lv_if_ne (tgt := 29) hx hb dX5_judge_23 (by decide) (fun h => ?_) (fun h => ?_)
    · have hf := (if_neg h).symm.trans hf
      refine lv_aload_n hx hb dX5_judge_29 rfl (lv_at hl 0 rfl) ?_
      refine va_get (D := D) (ci := 5) (v := .ref (ad 2)) (C := RX5) (T := TX5) (N := 24) hx hb hts inX5 hown hKK.1 hP 0 rfl rfl 4 (by decide) (hts _ q677) (fun _ h => h) rfl dX5_judge_30 ?_
      refine lv_aload_n hx hb dX5_judge_33 rfl (lv_at hl 0 rfl) ?_
      refine va_get (D := D) (ci := 5) (v := .ref (ad 3)) (C := RX5) (T := TX5) (N := 24) hx hb hts inX5 hown hKK.1 hP 0 rfl rfl 5 (by decide) (hts _ q678) (fun _ h => h) rfl dX5_judge_34 ?_
      obtain ⟨y8, hc7, hf⟩ := bd_some hf
      have hP1 := hP.sub (ws' := [arI cy (ad 2) 51 M.2.2.1, arI cy (ad 3) 51 M.2.2.2.1]) [2, 3] rfl
      have hD1 := hD.sub (ws' := [arI cy (ad 2) 51 M.2.2.1, arI cy (ad 3) 51 M.2.2.2.1]) [2, 3] (by decide) rfl
      refine mCallSV ⟨hx, hb, hml, hown, hts⟩ (mtX5_copy l D cy z (ad 2) (ad 3) M.2.2.1 M.2.2.2.1 y8 hc7) miX5_copy q789 ⟨Nat.le_of_ble_eq_true rfl, Nat.le_of_ble_eq_true rfl⟩ ⟨rfl, rfl⟩ hP1 hD1 hKK hA0 rfl hl.1 rfl (Nat.le_of_ble_eq_true rfl) dX5_judge_37 ⟨Nat.zero_le _, Nat.zero_le _⟩ hS hP hD [2, 3] rfl rfl (ws' := wM cy ad (M.1, M.2.1, M.2.2.1, y8, M.2.2.2.2.1, M.2.2.2.2.2.1, M.2.2.2.2.2.2.1, M.2.2.2.2.2.2.2.1, M.2.2.2.2.2.2.2.2.1, M.2.2.2.2.2.2.2.2.2.1, M.2.2.2.2.2.2.2.2.2.2.1, M.2.2.2.2.2.2.2.2.2.2.2.1, M.2.2.2.2.2.2.2.2.2.2.2.2)) rfl (fun H locs hP hD hS => ?_)
      refine lv_iconst (v := 0) hx hb dX5_judge_40 (by decide) ?_
      refine lv_istore (lv' := [(4, .int (0 : Int32)), (0, .ref (ad 0)), (1, .int u1), (2, .long u2)]) hx hb dX5_judge_41 hl (by decide) rfl (fun ls hl => ?_)
      refine w_43 u1 u2 _ ?_ _ ?_ _ (0 : Int32) (M.1, M.2.1, M.2.2.1, y8, M.2.2.2.2.1, M.2.2.2.2.2.1, M.2.2.2.2.2.2.1, M.2.2.2.2.2.2.2.1, M.2.2.2.2.2.2.2.2.1, M.2.2.2.2.2.2.2.2.2.1, M.2.2.2.2.2.2.2.2.2.2.1, M.2.2.2.2.2.2.2.2.2.2.2.1, M.2.2.2.2.2.2.2.2.2.2.2.2) _ _ ls hf hP hD hS (lv_sub hl [1, 2, 3, 0] rfl)
      · intro y15 M16 H locs ls hf hP hD hS hl
        refine lv_iload hx hb dX5_judge_72 (lv_at hl 0 rfl) ?_
        cases hf
        exact mretI hx hb hr hlk hP hS dX5_judge_74
      · intro M17 H locs ls hf hP hD hS hl
        refine lv_bipush (v := -9) hx hb dX5_judge_81 (by decide) ?_
        cases hf
        exact mretI hx hb hr hlk hP hS dX5_judge_83
    · have hf := (if_pos h).symm.trans hf
      refine lv_bipush (v := -2) hx hb dX5_judge_26 (by decide) ?_
      cases hf
      exact mretI hx hb hr hlk hP hS dX5_judge_28

abbrev rmX5_find : Room := { frames := 2, cells := 0, slots := 0, locals := 46 }
theorem miX5_find : miV yX5_find cX5_find 3 (some .int) 2 := ⟨q997, q46, q995, q996, by decide +kernel⟩
set_option maxHeartbeats 4000000 in
set_option maxRecDepth 100000 in
theorem mtX5_find (l : Launch) (D : va_G) (cy : Nat → ClassId) (z : zT) (ad : Nat → Nat) (M : tM) (u1 : Int32) (u2 : Int32) (r0 : Int32) (M0 : tM) (hf : fX5_find M u1 u2 = some (r0, M0)) : mmet l yX5_find cX5_find 3 (some .int) rmX5_find D cy z (wM cy ad M) (wM cy ad M0) [.ref (ad 0), .int u1, .int u2] (some (.int r0)) := by
  refine mmet_of (by decide +kernel) (Nat.le_of_ble_eq_true rfl) (fun p e s m below meth c hx hb hr hml hown hts hlk hP hD hS hA0 hKK ls hl => ?_)
  have hown : s.vm.findClass "HillSightModel" = some m.cls := hown
  have hl : lv_has ls 3 [(0, .ref (ad 0)), (1, .int u1), (2, .int u2)] := hl
  unfold fX5_find at hf
  refine lv_aload_n hx hb dX5_find_0 rfl (lv_at hl 0 rfl) ?_
  refine lv_iload_n hx hb dX5_find_1 rfl (lv_at hl 1 rfl) ?_
  obtain ⟨r2, hc1, hf⟩ := bd_some hf
  have hP1 := hP.sub (ws' := [moC ad M.1]) [0] rfl
  refine pCallVI ⟨hx, hb, hml, hown, hts⟩ (mtX5_isCell l D cy z ad M.1 u1 r2 hc1) miX5_isCell q865 ⟨Nat.le_of_ble_eq_true rfl, Nat.le_of_ble_eq_true rfl⟩ ⟨rfl, rfl⟩ hP1 hKK hS hA0 (va_recv hKK.1 hP1 (ci := 5) (q0 := 0) rfl rfl) rfl hl.1 rfl (Nat.le_of_ble_eq_true rfl) dX5_find_2 ⟨Nat.zero_le _, Nat.zero_le _⟩ ?_
  refine lv_if_ne (tgt := 10) hx hb dX5_find_5 (by decide) (fun h => ?_) (fun h => ?_)
  · have hf := (if_neg h).symm.trans hf
    refine lv_iload_n hx hb dX5_find_10 rfl (lv_at hl 2 rfl) ?_
    refine lv_i2l hx hb dX5_find_11 rfl ?_
    refine lv_lconst (v := 0) hx hb dX5_find_12 (by decide) ?_
    refine lv_lconst (v := 1) hx hb dX5_find_13 (by decide) ?_
    obtain ⟨r4, hc3, hf⟩ := bd_some hf
    have hP1 := hP.sub (ws' := []) [] rfl
    refine pCallSI ⟨hx, hb, hml, hown, hts⟩ (mtX5_in l D cy z u2.toInt64 (0 : Int64) (1 : Int64) r4 hc3) miX5_in q751 ⟨Nat.le_of_ble_eq_true rfl, Nat.le_of_ble_eq_true rfl⟩ ⟨rfl, rfl⟩ hP1 hKK hS hA0 rfl hl.1 rfl (Nat.le_of_ble_eq_true rfl) dX5_find_14 ⟨Nat.zero_le _, Nat.zero_le _⟩ ?_
    refine lv_if_ne (tgt := 23) hx hb dX5_find_17 (by decide) (fun h => ?_) (fun h => ?_)
    · have hf := (if_neg h).symm.trans hf
      refine lv_aload_n hx hb dX5_find_23 rfl (lv_at hl 0 rfl) ?_
      refine va_get (D := D) (ci := 5) (v := .int M.1.2.2.2.2.2.1) (C := RX5) (T := TX5) (N := 24) hx hb hts inX5 hown hKK.1 hP 0 rfl rfl 13 (by decide) (hts _ q686) (fun _ h => h) rfl dX5_find_24 ?_
      refine lv_bipush (v := 6) hx hb dX5_find_27 (by decide) ?_
      refine lv_icmp_ne (tgt := 35) hx hb dX5_find_29 (by decide) (fun h => ?_) (fun h => ?_)
      · have hf := (if_neg h).symm.trans hf
        refine lv_aload_n hx hb dX5_find_35 rfl (lv_at hl 0 rfl) ?_
        refine va_get (D := D) (ci := 5) (v := .ref (ad 7)) (C := RX5) (T := TX5) (N := 24) hx hb hts inX5 hown hKK.1 hP 0 rfl rfl 11 (by decide) (hts _ q684) (fun _ h => h) rfl dX5_find_36 ?_
        refine lv_aload_n hx hb dX5_find_39 rfl (lv_at hl 0 rfl) ?_
        refine va_get (D := D) (ci := 5) (v := .int M.1.2.2.2.2.2.1) (C := RX5) (T := TX5) (N := 24) hx hb hts inX5 hown hKK.1 hP 0 rfl rfl 13 (by decide) (hts _ q686) (fun _ h => h) rfl dX5_find_40 ?_
        refine lv_iload_n hx hb dX5_find_43 rfl (lv_at hl 1 rfl) ?_
        obtain ⟨hg5, hf⟩ := gd_some hf
        refine va_iast hx hb hKK.1 hP hD hS 7 0 rfl rfl (inb_in hg5) dX5_find_44 (fun H locs hP hD hS => ?_)
        have hP : va_P D vwCl (wM cy ad (M.1, M.2.1, M.2.2.1, M.2.2.2.1, M.2.2.2.2.1, M.2.2.2.2.2.1, M.2.2.2.2.2.2.1, (upd M.2.2.2.2.2.2.2.1 M.1.2.2.2.2.2.1.toNatClampNeg u1), M.2.2.2.2.2.2.2.2.1, M.2.2.2.2.2.2.2.2.2.1, M.2.2.2.2.2.2.2.2.2.2.1, M.2.2.2.2.2.2.2.2.2.2.2.1, M.2.2.2.2.2.2.2.2.2.2.2.2)) H := hP
        have hD : va_D (adr (wM cy ad M)) (wM cy ad (M.1, M.2.1, M.2.2.1, M.2.2.2.1, M.2.2.2.2.1, M.2.2.2.2.2.1, M.2.2.2.2.2.2.1, (upd M.2.2.2.2.2.2.2.1 M.1.2.2.2.2.2.1.toNatClampNeg u1), M.2.2.2.2.2.2.2.2.1, M.2.2.2.2.2.2.2.2.2.1, M.2.2.2.2.2.2.2.2.2.2.1, M.2.2.2.2.2.2.2.2.2.2.2.1, M.2.2.2.2.2.2.2.2.2.2.2.2)) := hD
        refine lv_aload_n hx hb dX5_find_45 rfl (lv_at hl 0 rfl) ?_
        refine va_get (D := D) (ci := 5) (v := .ref (ad 8)) (C := RX5) (T := TX5) (N := 24) hx hb hts inX5 hown hKK.1 hP 0 rfl rfl 12 (by decide) (hts _ q685) (fun _ h => h) rfl dX5_find_46 ?_
        refine lv_aload_n hx hb dX5_find_49 rfl (lv_at hl 0 rfl) ?_
        refine va_get (D := D) (ci := 5) (v := .int M.1.2.2.2.2.2.1) (C := RX5) (T := TX5) (N := 24) hx hb hts inX5 hown hKK.1 hP 0 rfl rfl 13 (by decide) (hts _ q686) (fun _ h => h) rfl dX5_find_50 ?_
        refine lv_iload_n hx hb dX5_find_53 rfl (lv_at hl 2 rfl) ?_
        obtain ⟨hg6, hf⟩ := gd_some hf
        refine va_iast hx hb hKK.1 hP hD hS 8 0 rfl rfl (inb_in hg6) dX5_find_54 (fun H locs hP hD hS => ?_)
        have hP : va_P D vwCl (wM cy ad (M.1, M.2.1, M.2.2.1, M.2.2.2.1, M.2.2.2.2.1, M.2.2.2.2.2.1, M.2.2.2.2.2.2.1, (upd M.2.2.2.2.2.2.2.1 M.1.2.2.2.2.2.1.toNatClampNeg u1), (upd M.2.2.2.2.2.2.2.2.1 M.1.2.2.2.2.2.1.toNatClampNeg u2), M.2.2.2.2.2.2.2.2.2.1, M.2.2.2.2.2.2.2.2.2.2.1, M.2.2.2.2.2.2.2.2.2.2.2.1, M.2.2.2.2.2.2.2.2.2.2.2.2)) H := hP
        have hD : va_D (adr (wM cy ad M)) (wM cy ad (M.1, M.2.1, M.2.2.1, M.2.2.2.1, M.2.2.2.2.1, M.2.2.2.2.2.1, M.2.2.2.2.2.2.1, (upd M.2.2.2.2.2.2.2.1 M.1.2.2.2.2.2.1.toNatClampNeg u1), (upd M.2.2.2.2.2.2.2.2.1 M.1.2.2.2.2.2.1.toNatClampNeg u2), M.2.2.2.2.2.2.2.2.2.1, M.2.2.2.2.2.2.2.2.2.2.1, M.2.2.2.2.2.2.2.2.2.2.2.1, M.2.2.2.2.2.2.2.2.2.2.2.2)) := hD
        refine lv_aload_n hx hb dX5_find_55 rfl (lv_at hl 0 rfl) ?_
        refine lv_dup hx hb dX5_find_56 rfl ?_
        refine va_get (D := D) (ci := 5) (v := .int M.1.2.2.2.2.2.1) (C := RX5) (T := TX5) (N := 24) hx hb hts inX5 hown hKK.1 hP 0 rfl rfl 13 (by decide) (hts _ q686) (fun _ h => h) rfl dX5_find_57 ?_
        refine lv_iconst (v := 1) hx hb dX5_find_60 (by decide) ?_
        refine lv_iadd hx hb dX5_find_61 ?_
        refine nm_i hf (fun x7 hf => ?_)
        refine va_put (D := D) (ci := 5) (v := .int x7) (ty := .int) (C := RX5) (T := TX5) (N := 24) hx hb hts inX5 tyX5 tyX5_ok nmX5 hown hKK.1 hP hD hS 0 rfl rfl 13 (by decide) (hts _ q686) (fun _ h => h) rfl (by decide +kernel) rfl rfl (Nat.le_of_ble_eq_true rfl) dX5_find_62 (fun H locs hP hD hS => ?_)
        have hP : va_P D vwCl (wM cy ad ((M.1.1, M.1.2.1, M.1.2.2.1, M.1.2.2.2.1, M.1.2.2.2.2.1, x7, M.1.2.2.2.2.2.2.1, M.1.2.2.2.2.2.2.2.1, M.1.2.2.2.2.2.2.2.2.1, M.1.2.2.2.2.2.2.2.2.2.1, M.1.2.2.2.2.2.2.2.2.2.2.1, M.1.2.2.2.2.2.2.2.2.2.2.2), M.2.1, M.2.2.1, M.2.2.2.1, M.2.2.2.2.1, M.2.2.2.2.2.1, M.2.2.2.2.2.2.1, (upd M.2.2.2.2.2.2.2.1 M.1.2.2.2.2.2.1.toNatClampNeg u1), (upd M.2.2.2.2.2.2.2.2.1 M.1.2.2.2.2.2.1.toNatClampNeg u2), M.2.2.2.2.2.2.2.2.2.1, M.2.2.2.2.2.2.2.2.2.2.1, M.2.2.2.2.2.2.2.2.2.2.2.1, M.2.2.2.2.2.2.2.2.2.2.2.2)) H := hP
        have hD : va_D (adr (wM cy ad M)) (wM cy ad ((M.1.1, M.1.2.1, M.1.2.2.1, M.1.2.2.2.1, M.1.2.2.2.2.1, x7, M.1.2.2.2.2.2.2.1, M.1.2.2.2.2.2.2.2.1, M.1.2.2.2.2.2.2.2.2.1, M.1.2.2.2.2.2.2.2.2.2.1, M.1.2.2.2.2.2.2.2.2.2.2.1, M.1.2.2.2.2.2.2.2.2.2.2.2), M.2.1, M.2.2.1, M.2.2.2.1, M.2.2.2.2.1, M.2.2.2.2.2.1, M.2.2.2.2.2.2.1, (upd M.2.2.2.2.2.2.2.1 M.1.2.2.2.2.2.1.toNatClampNeg u1), (upd M.2.2.2.2.2.2.2.2.1 M.1.2.2.2.2.2.1.toNatClampNeg u2), M.2.2.2.2.2.2.2.2.2.1, M.2.2.2.2.2.2.2.2.2.2.1, M.2.2.2.2.2.2.2.2.2.2.2.1, M.2.2.2.2.2.2.2.2.2.2.2.2)) := hD
        refine lv_aload_n hx hb dX5_find_65 rfl (lv_at hl 0 rfl) ?_
        refine va_get (D := D) (ci := 5) (v := .int x7) (C := RX5) (T := TX5) (N := 24) hx hb hts inX5 hown hKK.1 hP 0 rfl rfl 13 (by decide) (hts _ q686) (fun _ h => h) rfl dX5_find_66 ?_
        cases hf
        exact mretI hx hb hr hlk hP hS dX5_find_69
      · have hf := (if_pos h).symm.trans hf
        refine lv_bipush (v := -4) hx hb dX5_find_32 (by decide) ?_
        cases hf
        exact mretI hx hb hr hlk hP hS dX5_find_34
    · have hf := (if_pos h).symm.trans hf
      refine lv_bipush (v := -2) hx hb dX5_find_20 (by decide) ?_
      cases hf
      exact mretI hx hb hr hlk hP hS dX5_find_22
  · have hf := (if_pos h).symm.trans hf
    refine lv_iconst (v := -1) hx hb dX5_find_8 (by decide) ?_
    cases hf
    exact mretI hx hb hr hlk hP hS dX5_find_9

abbrev rmX5_lose : Room := { frames := 0, cells := 0, slots := 0, locals := 0 }
theorem miX5_lose : miV yX5_lose cX5_lose 2 (some .int) 0 := ⟨q1001, q46, q999, q1000, by decide +kernel⟩
set_option maxHeartbeats 4000000 in
set_option maxRecDepth 100000 in
theorem mtX5_lose (l : Launch) (D : va_G) (cy : Nat → ClassId) (z : zT) (ad : Nat → Nat) (M : tM) (r0 : Int32) (M0 : tM) (hf : fX5_lose M = some (r0, M0)) : mmet l yX5_lose cX5_lose 2 (some .int) rmX5_lose D cy z (wM cy ad M) (wM cy ad M0) [.ref (ad 0)] (some (.int r0)) := by
  refine mmet_of (by decide +kernel) (Nat.le_of_ble_eq_true rfl) (fun p e s m below meth c hx hb hr hml hown hts hlk hP hD hS hA0 hKK ls hl => ?_)
  have hown : s.vm.findClass "HillSightModel" = some m.cls := hown
  have hl : lv_has ls 2 [(0, .ref (ad 0))] := hl
  unfold fX5_lose at hf
  refine lv_aload_n hx hb dX5_lose_0 rfl (lv_at hl 0 rfl) ?_
  refine va_get (D := D) (ci := 5) (v := .int M.1.2.2.2.2.2.1) (C := RX5) (T := TX5) (N := 24) hx hb hts inX5 hown hKK.1 hP 0 rfl rfl 13 (by decide) (hts _ q686) (fun _ h => h) rfl dX5_lose_1 ?_
  refine lv_istore_n (lv' := [(1, .int M.1.2.2.2.2.2.1), (0, .ref (ad 0))]) hx hb dX5_lose_4 rfl hl (by decide) rfl (fun ls hl => ?_)
  refine lv_aload_n hx hb dX5_lose_5 rfl (lv_at hl 1 rfl) ?_
  refine lv_iconst (v := 0) hx hb dX5_lose_6 (by decide) ?_
  refine va_put (D := D) (ci := 5) (v := .int (0 : Int32)) (ty := .int) (C := RX5) (T := TX5) (N := 24) hx hb hts inX5 tyX5 tyX5_ok nmX5 hown hKK.1 hP hD hS 0 rfl rfl 13 (by decide) (hts _ q686) (fun _ h => h) rfl (by decide +kernel) rfl rfl (Nat.le_of_ble_eq_true rfl) dX5_lose_7 (fun H locs hP hD hS => ?_)
  have hP : va_P D vwCl (wM cy ad ((M.1.1, M.1.2.1, M.1.2.2.1, M.1.2.2.2.1, M.1.2.2.2.2.1, (0 : Int32), M.1.2.2.2.2.2.2.1, M.1.2.2.2.2.2.2.2.1, M.1.2.2.2.2.2.2.2.2.1, M.1.2.2.2.2.2.2.2.2.2.1, M.1.2.2.2.2.2.2.2.2.2.2.1, M.1.2.2.2.2.2.2.2.2.2.2.2), M.2.1, M.2.2.1, M.2.2.2.1, M.2.2.2.2.1, M.2.2.2.2.2.1, M.2.2.2.2.2.2.1, M.2.2.2.2.2.2.2.1, M.2.2.2.2.2.2.2.2.1, M.2.2.2.2.2.2.2.2.2.1, M.2.2.2.2.2.2.2.2.2.2.1, M.2.2.2.2.2.2.2.2.2.2.2.1, M.2.2.2.2.2.2.2.2.2.2.2.2)) H := hP
  have hD : va_D (adr (wM cy ad M)) (wM cy ad ((M.1.1, M.1.2.1, M.1.2.2.1, M.1.2.2.2.1, M.1.2.2.2.2.1, (0 : Int32), M.1.2.2.2.2.2.2.1, M.1.2.2.2.2.2.2.2.1, M.1.2.2.2.2.2.2.2.2.1, M.1.2.2.2.2.2.2.2.2.2.1, M.1.2.2.2.2.2.2.2.2.2.2.1, M.1.2.2.2.2.2.2.2.2.2.2.2), M.2.1, M.2.2.1, M.2.2.2.1, M.2.2.2.2.1, M.2.2.2.2.2.1, M.2.2.2.2.2.2.1, M.2.2.2.2.2.2.2.1, M.2.2.2.2.2.2.2.2.1, M.2.2.2.2.2.2.2.2.2.1, M.2.2.2.2.2.2.2.2.2.2.1, M.2.2.2.2.2.2.2.2.2.2.2.1, M.2.2.2.2.2.2.2.2.2.2.2.2)) := hD
  refine lv_iload_n hx hb dX5_lose_10 rfl (lv_at hl 0 rfl) ?_
  cases hf
  exact mretI hx hb hr hlk hP hS dX5_lose_11

abbrev rmX5_which : Room := { frames := 7, cells := 0, slots := 0, locals := 178 }
theorem miX5_which : miV yX5_which cX5_which 7 (some .long) 0 := ⟨q1005, q46, q1003, q1004, by decide +kernel⟩
set_option maxHeartbeats 4000000 in
set_option maxRecDepth 100000 in
theorem mtX5_which (l : Launch) (D : va_G) (cy : Nat → ClassId) (z : zT) (ad : Nat → Nat) (M : tM) (r0 : Int64) (hf : fX5_which M = some r0) : pmet l yX5_which cX5_which 7 (some .long) rmX5_which D cy z (wM cy ad M) [.ref (ad 0)] (some (.long r0)) := by
  refine pmet_of (by decide +kernel) (Nat.le_of_ble_eq_true rfl) (fun p e s m below meth c hx hb hr hml hown hts hlk hP hKK ls hl => ?_)
  have hS : va_S noF s.heap s.heap [] := va_S.rf
  have hA0 : ∀ q, noF q → zA z q := fun _ h => h.elim
  have hown : s.vm.findClass "HillSightModel" = some m.cls := hown
  have hl : lv_has ls 7 [(0, .ref (ad 0))] := hl
  have w_18 : ∀ (g1_18 : Int64) (g3_18 : Int32) (k113 : Int32 → Option (Int64)) (hk113 : ∀ (v4_18 : Int32) (ls : Array Slot), k113 v4_18 = some r0 → lv_has ls 7 [(0, .ref (ad 0)), (1, .long g1_18), (3, .int g3_18), (4, .int v4_18)] → W p l e rmX5_which s m ([.ref (ad 0)] : List Value).toArray below meth c s.heap [] 0 0 (MQ below (pQ (some (.long r0))) ([.ref (ad 0)] : List Value).toArray s 0 0 noF) (F0 m 113 ls [])) (n : Nat) (v4_18 : Int32) (v5_18 : Int32) (ls : Array Slot), fX5_which_18 M g1_18 g3_18 k113 n v4_18 v5_18 = some r0 → lv_has ls 7 [(0, .ref (ad 0)), (1, .long g1_18), (3, .int g3_18), (4, .int v4_18), (5, .int v5_18)] → W p l e rmX5_which s m ([.ref (ad 0)] : List Value).toArray below meth c s.heap [] 0 0 (MQ below (pQ (some (.long r0))) ([.ref (ad 0)] : List Value).toArray s 0 0 noF) (F0 m 18 ls []) := by
    intro g1_18 g3_18 k113 hk113 n
    induction n with
    | zero =>
      intro v4_18 v5_18 ls hf hl
      cases (show (none : Option (Int64)) = some r0 from hf)
    | succ n ih =>
      intro v4_18 v5_18 ls hf hl
      rw [fX5_which_18] at hf
      refine lv_iload hx hb dX5_which_18 (lv_at hl 4 rfl) ?_
      refine lv_aload_n hx hb dX5_which_20 rfl (lv_at hl 0 rfl) ?_
      refine va_get (D := D) (ci := 5) (v := .int M.1.2.2.2.2.2.1) (C := RX5) (T := TX5) (N := 24) hx hb hts inX5 hown hKK.1 hP 0 rfl rfl 13 (by decide) (hts _ q686) (fun _ h => h) rfl dX5_which_21 ?_
      refine lv_icmp_ge (tgt := 113) hx hb dX5_which_24 (by decide) (fun h => ?_) (fun h => ?_)
      · have hf := (if_pos h).symm.trans hf
        exact hk113 v4_18 ls hf (lv_sub hl [0, 1, 2, 3] rfl)
      · have hf := (if_neg h).symm.trans hf
        refine lv_aload_n hx hb dX5_which_27 rfl (lv_at hl 0 rfl) ?_
        refine lv_aload_n hx hb dX5_which_28 rfl (lv_at hl 0 rfl) ?_
        refine va_get (D := D) (ci := 5) (v := .ref (ad 7)) (C := RX5) (T := TX5) (N := 24) hx hb hts inX5 hown hKK.1 hP 0 rfl rfl 11 (by decide) (hts _ q684) (fun _ h => h) rfl dX5_which_29 ?_
        refine lv_iload hx hb dX5_which_32 (lv_at hl 4 rfl) ?_
        obtain ⟨hg3, hf⟩ := gd_some hf
        refine va_iald hx hb hKK.1 hP 7 0 rfl rfl (inb_in hg3) dX5_which_34 ?_
        obtain ⟨r5, hc4, hf⟩ := bd_some hf
        have hP1 := hP.sub (ws' := [moC ad M.1]) [0] rfl
        refine pCallVI ⟨hx, hb, hml, hown, hts⟩ (mtX5_isCell l D cy z ad M.1 (M.2.2.2.2.2.2.2.1 v5_18.toNatClampNeg) r5 hc4) miX5_isCell q865 ⟨Nat.le_of_ble_eq_true rfl, Nat.le_of_ble_eq_true rfl⟩ ⟨rfl, rfl⟩ hP1 hKK hS hA0 (va_recv hKK.1 hP1 (ci := 5) (q0 := 0) rfl rfl) rfl hl.1 rfl (Nat.le_of_ble_eq_true rfl) dX5_which_35 ⟨Nat.zero_le _, Nat.zero_le _⟩ ?_
        refine lv_if_eq (tgt := 71) hx hb dX5_which_38 (by decide) (fun h => ?_) (fun h => ?_)
        · have hf := (if_pos h).symm.trans hf
          refine lv_iconst (v := 0) hx hb dX5_which_71 (by decide) ?_
          refine lv_istore (lv' := [(6, .int (0 : Int32)), (0, .ref (ad 0)), (1, .long g1_18), (3, .int g3_18), (4, .int v4_18), (5, .int v5_18)]) hx hb dX5_which_72 hl (by decide) rfl (fun ls hl => ?_)
          refine lv_iload hx hb dX5_which_74 (lv_at hl 4 rfl) ?_
          refine lv_if_eq (tgt := 104) hx hb dX5_which_76 (by decide) (fun h => ?_) (fun h => ?_)
          · have hf := (if_pos h).symm.trans hf
            refine lv_iconst (v := 0) hx hb dX5_which_104 (by decide) ?_
            refine lv_istore (lv' := [(4, .int (0 : Int32)), (6, .int (0 : Int32)), (0, .ref (ad 0)), (1, .long g1_18), (3, .int g3_18), (5, .int v5_18)]) hx hb dX5_which_105 hl (by decide) rfl (fun ls hl => ?_)
            obtain ⟨x6, ex6, hf⟩ := nm_ex hf
            refine lv_iinc (v := x6) (lv' := [(5, .int x6), (4, .int (0 : Int32)), (6, .int (0 : Int32)), (0, .ref (ad 0)), (1, .long g1_18), (3, .int g3_18)]) hx hb dX5_which_107 hl (k := 5) rfl (Eq.trans rfl ex6) (by decide) rfl (fun ls hl => ?_)
            refine lv_goto (tgt := 18) hx hb dX5_which_110 (by decide) ?_
            exact ih (0 : Int32) x6 ls hf (lv_sub hl [3, 4, 5, 1, 0] rfl)
          · have hf := (if_neg h).symm.trans hf
            refine lv_iload hx hb dX5_which_79 (lv_at hl 0 rfl) ?_
            refine lv_aload_n hx hb dX5_which_81 rfl (lv_at hl 1 rfl) ?_
            refine va_get (D := D) (ci := 5) (v := .ref (ad 8)) (C := RX5) (T := TX5) (N := 24) hx hb hts inX5 hown hKK.1 hP 0 rfl rfl 12 (by decide) (hts _ q685) (fun _ h => h) rfl dX5_which_82 ?_
            refine lv_iload hx hb dX5_which_85 (lv_at hl 5 rfl) ?_
            obtain ⟨hg7, hf⟩ := gd_some hf
            refine va_iald hx hb hKK.1 hP 8 0 rfl rfl (inb_in hg7) dX5_which_87 ?_
            refine lv_iconst (v := 1) hx hb dX5_which_88 (by decide) ?_
            refine lv_icmp_ne (tgt := 96) hx hb dX5_which_89 (by decide) (fun h => ?_) (fun h => ?_)
            · have hf := (if_neg h).symm.trans hf
              refine lv_iconst (v := 0) hx hb dX5_which_96 (by decide) ?_
              refine lv_icmp_ne (tgt := 104) hx hb dX5_which_97 (by decide) (fun h => absurd h (by decide)) (fun _ => ?_)
              refine lv_iconst (v := 1) hx hb dX5_which_100 (by decide) ?_
              refine lv_goto (tgt := 105) hx hb dX5_which_101 (by decide) ?_
              refine lv_istore (lv' := [(4, .int (1 : Int32)), (6, .int (0 : Int32)), (0, .ref (ad 0)), (1, .long g1_18), (3, .int g3_18), (5, .int v5_18)]) hx hb dX5_which_105 hl (by decide) rfl (fun ls hl => ?_)
              obtain ⟨x8, ex8, hf⟩ := nm_ex hf
              refine lv_iinc (v := x8) (lv' := [(5, .int x8), (4, .int (1 : Int32)), (6, .int (0 : Int32)), (0, .ref (ad 0)), (1, .long g1_18), (3, .int g3_18)]) hx hb dX5_which_107 hl (k := 5) rfl (Eq.trans rfl ex8) (by decide) rfl (fun ls hl => ?_)
              refine lv_goto (tgt := 18) hx hb dX5_which_110 (by decide) ?_
              exact ih (1 : Int32) x8 ls hf (lv_sub hl [3, 4, 5, 1, 0] rfl)
            · have hf := (if_pos h).symm.trans hf
              refine lv_iconst (v := 1) hx hb dX5_which_92 (by decide) ?_
              refine lv_goto (tgt := 97) hx hb dX5_which_93 (by decide) ?_
              refine lv_icmp_ne (tgt := 104) hx hb dX5_which_97 (by decide) (fun _ => ?_) (fun h => absurd h (by decide))
              refine lv_iconst (v := 0) hx hb dX5_which_104 (by decide) ?_
              refine lv_istore (lv' := [(4, .int (0 : Int32)), (6, .int (0 : Int32)), (0, .ref (ad 0)), (1, .long g1_18), (3, .int g3_18), (5, .int v5_18)]) hx hb dX5_which_105 hl (by decide) rfl (fun ls hl => ?_)
              obtain ⟨x9, ex9, hf⟩ := nm_ex hf
              refine lv_iinc (v := x9) (lv' := [(5, .int x9), (4, .int (0 : Int32)), (6, .int (0 : Int32)), (0, .ref (ad 0)), (1, .long g1_18), (3, .int g3_18)]) hx hb dX5_which_107 hl (k := 5) rfl (Eq.trans rfl ex9) (by decide) rfl (fun ls hl => ?_)
              refine lv_goto (tgt := 18) hx hb dX5_which_110 (by decide) ?_
              exact ih (0 : Int32) x9 ls hf (lv_sub hl [3, 4, 5, 1, 0] rfl)
        · have hf := (if_neg h).symm.trans hf
          refine lv_aload_n hx hb dX5_which_41 rfl (lv_at hl 0 rfl) ?_
          refine lv_aload_n hx hb dX5_which_42 rfl (lv_at hl 0 rfl) ?_
          refine va_get (D := D) (ci := 5) (v := .ref (ad 2)) (C := RX5) (T := TX5) (N := 24) hx hb hts inX5 hown hKK.1 hP 0 rfl rfl 4 (by decide) (hts _ q677) (fun _ h => h) rfl dX5_which_43 ?_
          refine lv_iload_n hx hb dX5_which_46 rfl (lv_at hl 2 rfl) ?_
          refine lv_aload_n hx hb dX5_which_47 rfl (lv_at hl 0 rfl) ?_
          refine va_get (D := D) (ci := 5) (v := .ref (ad 2)) (C := RX5) (T := TX5) (N := 24) hx hb hts inX5 hown hKK.1 hP 0 rfl rfl 4 (by decide) (hts _ q677) (fun _ h => h) rfl dX5_which_48 ?_
          refine lv_bipush (v := 47) hx hb dX5_which_51 (by decide) ?_
          refine va_iald hx hb hKK.1 hP 2 0 rfl rfl (inb_in (by decide)) dX5_which_53 ?_
          refine lv_aload_n hx hb dX5_which_54 rfl (lv_at hl 0 rfl) ?_
          refine va_get (D := D) (ci := 5) (v := .ref (ad 7)) (C := RX5) (T := TX5) (N := 24) hx hb hts inX5 hown hKK.1 hP 0 rfl rfl 11 (by decide) (hts _ q684) (fun _ h => h) rfl dX5_which_55 ?_
          refine lv_iload hx hb dX5_which_58 (lv_at hl 4 rfl) ?_
          obtain ⟨hg10, hf⟩ := gd_some hf
          refine va_iald hx hb hKK.1 hP 7 0 rfl rfl (inb_in hg10) dX5_which_60 ?_
          obtain ⟨r12, hc11, hf⟩ := bd_some hf
          have hP1 := hP.sub (ws' := [moC ad M.1, arI cy (ad 2) 51 M.2.2.1]) [0, 2] rfl
          refine pCallVI ⟨hx, hb, hml, hown, hts⟩ (mtX5_isSeen l D cy z ad (ad 2) M.1 M.2.2.1 g3_18 (M.2.2.1 (47 : Int32).toNatClampNeg) (M.2.2.2.2.2.2.2.1 v5_18.toNatClampNeg) r12 hc11) miX5_isSeen q816 ⟨Nat.le_of_ble_eq_true rfl, Nat.le_of_ble_eq_true rfl⟩ ⟨rfl, rfl⟩ hP1 hKK hS hA0 (va_recv hKK.1 hP1 (ci := 5) (q0 := 0) rfl rfl) rfl hl.1 rfl (Nat.le_of_ble_eq_true rfl) dX5_which_61 ⟨Nat.zero_le _, Nat.zero_le _⟩ ?_
          refine lv_if_eq (tgt := 71) hx hb dX5_which_64 (by decide) (fun h => ?_) (fun h => ?_)
          · have hf := (if_pos h).symm.trans hf
            refine lv_iconst (v := 0) hx hb dX5_which_71 (by decide) ?_
            refine lv_istore (lv' := [(6, .int (0 : Int32)), (0, .ref (ad 0)), (1, .long g1_18), (3, .int g3_18), (4, .int v4_18), (5, .int v5_18)]) hx hb dX5_which_72 hl (by decide) rfl (fun ls hl => ?_)
            refine lv_iload hx hb dX5_which_74 (lv_at hl 4 rfl) ?_
            refine lv_if_eq (tgt := 104) hx hb dX5_which_76 (by decide) (fun h => ?_) (fun h => ?_)
            · have hf := (if_pos h).symm.trans hf
              refine lv_iconst (v := 0) hx hb dX5_which_104 (by decide) ?_
              refine lv_istore (lv' := [(4, .int (0 : Int32)), (6, .int (0 : Int32)), (0, .ref (ad 0)), (1, .long g1_18), (3, .int g3_18), (5, .int v5_18)]) hx hb dX5_which_105 hl (by decide) rfl (fun ls hl => ?_)
              obtain ⟨x13, ex13, hf⟩ := nm_ex hf
              refine lv_iinc (v := x13) (lv' := [(5, .int x13), (4, .int (0 : Int32)), (6, .int (0 : Int32)), (0, .ref (ad 0)), (1, .long g1_18), (3, .int g3_18)]) hx hb dX5_which_107 hl (k := 5) rfl (Eq.trans rfl ex13) (by decide) rfl (fun ls hl => ?_)
              refine lv_goto (tgt := 18) hx hb dX5_which_110 (by decide) ?_
              exact ih (0 : Int32) x13 ls hf (lv_sub hl [3, 4, 5, 1, 0] rfl)
            · have hf := (if_neg h).symm.trans hf
              refine lv_iload hx hb dX5_which_79 (lv_at hl 0 rfl) ?_
              refine lv_aload_n hx hb dX5_which_81 rfl (lv_at hl 1 rfl) ?_
              refine va_get (D := D) (ci := 5) (v := .ref (ad 8)) (C := RX5) (T := TX5) (N := 24) hx hb hts inX5 hown hKK.1 hP 0 rfl rfl 12 (by decide) (hts _ q685) (fun _ h => h) rfl dX5_which_82 ?_
              refine lv_iload hx hb dX5_which_85 (lv_at hl 5 rfl) ?_
              obtain ⟨hg14, hf⟩ := gd_some hf
              refine va_iald hx hb hKK.1 hP 8 0 rfl rfl (inb_in hg14) dX5_which_87 ?_
              refine lv_iconst (v := 1) hx hb dX5_which_88 (by decide) ?_
              refine lv_icmp_ne (tgt := 96) hx hb dX5_which_89 (by decide) (fun h => ?_) (fun h => ?_)
              · have hf := (if_neg h).symm.trans hf
                refine lv_iconst (v := 0) hx hb dX5_which_96 (by decide) ?_
                refine lv_icmp_ne (tgt := 104) hx hb dX5_which_97 (by decide) (fun h => absurd h (by decide)) (fun _ => ?_)
                refine lv_iconst (v := 1) hx hb dX5_which_100 (by decide) ?_
                refine lv_goto (tgt := 105) hx hb dX5_which_101 (by decide) ?_
                refine lv_istore (lv' := [(4, .int (1 : Int32)), (6, .int (0 : Int32)), (0, .ref (ad 0)), (1, .long g1_18), (3, .int g3_18), (5, .int v5_18)]) hx hb dX5_which_105 hl (by decide) rfl (fun ls hl => ?_)
                obtain ⟨x15, ex15, hf⟩ := nm_ex hf
                refine lv_iinc (v := x15) (lv' := [(5, .int x15), (4, .int (1 : Int32)), (6, .int (0 : Int32)), (0, .ref (ad 0)), (1, .long g1_18), (3, .int g3_18)]) hx hb dX5_which_107 hl (k := 5) rfl (Eq.trans rfl ex15) (by decide) rfl (fun ls hl => ?_)
                refine lv_goto (tgt := 18) hx hb dX5_which_110 (by decide) ?_
                exact ih (1 : Int32) x15 ls hf (lv_sub hl [3, 4, 5, 1, 0] rfl)
              · have hf := (if_pos h).symm.trans hf
                refine lv_iconst (v := 1) hx hb dX5_which_92 (by decide) ?_
                refine lv_goto (tgt := 97) hx hb dX5_which_93 (by decide) ?_
                refine lv_icmp_ne (tgt := 104) hx hb dX5_which_97 (by decide) (fun _ => ?_) (fun h => absurd h (by decide))
                refine lv_iconst (v := 0) hx hb dX5_which_104 (by decide) ?_
                refine lv_istore (lv' := [(4, .int (0 : Int32)), (6, .int (0 : Int32)), (0, .ref (ad 0)), (1, .long g1_18), (3, .int g3_18), (5, .int v5_18)]) hx hb dX5_which_105 hl (by decide) rfl (fun ls hl => ?_)
                obtain ⟨x16, ex16, hf⟩ := nm_ex hf
                refine lv_iinc (v := x16) (lv' := [(5, .int x16), (4, .int (0 : Int32)), (6, .int (0 : Int32)), (0, .ref (ad 0)), (1, .long g1_18), (3, .int g3_18)]) hx hb dX5_which_107 hl (k := 5) rfl (Eq.trans rfl ex16) (by decide) rfl (fun ls hl => ?_)
                refine lv_goto (tgt := 18) hx hb dX5_which_110 (by decide) ?_
                exact ih (0 : Int32) x16 ls hf (lv_sub hl [3, 4, 5, 1, 0] rfl)
          · have hf := (if_neg h).symm.trans hf
            refine lv_iconst (v := 1) hx hb dX5_which_67 (by decide) ?_
            refine lv_goto (tgt := 72) hx hb dX5_which_68 (by decide) ?_
            refine lv_istore (lv' := [(6, .int (1 : Int32)), (0, .ref (ad 0)), (1, .long g1_18), (3, .int g3_18), (4, .int v4_18), (5, .int v5_18)]) hx hb dX5_which_72 hl (by decide) rfl (fun ls hl => ?_)
            refine lv_iload hx hb dX5_which_74 (lv_at hl 4 rfl) ?_
            refine lv_if_eq (tgt := 104) hx hb dX5_which_76 (by decide) (fun h => ?_) (fun h => ?_)
            · have hf := (if_pos h).symm.trans hf
              refine lv_iconst (v := 0) hx hb dX5_which_104 (by decide) ?_
              refine lv_istore (lv' := [(4, .int (0 : Int32)), (6, .int (1 : Int32)), (0, .ref (ad 0)), (1, .long g1_18), (3, .int g3_18), (5, .int v5_18)]) hx hb dX5_which_105 hl (by decide) rfl (fun ls hl => ?_)
              obtain ⟨x17, ex17, hf⟩ := nm_ex hf
              refine lv_iinc (v := x17) (lv' := [(5, .int x17), (4, .int (0 : Int32)), (6, .int (1 : Int32)), (0, .ref (ad 0)), (1, .long g1_18), (3, .int g3_18)]) hx hb dX5_which_107 hl (k := 5) rfl (Eq.trans rfl ex17) (by decide) rfl (fun ls hl => ?_)
              refine lv_goto (tgt := 18) hx hb dX5_which_110 (by decide) ?_
              exact ih (0 : Int32) x17 ls hf (lv_sub hl [3, 4, 5, 1, 0] rfl)
            · have hf := (if_neg h).symm.trans hf
              refine lv_iload hx hb dX5_which_79 (lv_at hl 0 rfl) ?_
              refine lv_aload_n hx hb dX5_which_81 rfl (lv_at hl 1 rfl) ?_
              refine va_get (D := D) (ci := 5) (v := .ref (ad 8)) (C := RX5) (T := TX5) (N := 24) hx hb hts inX5 hown hKK.1 hP 0 rfl rfl 12 (by decide) (hts _ q685) (fun _ h => h) rfl dX5_which_82 ?_
              refine lv_iload hx hb dX5_which_85 (lv_at hl 5 rfl) ?_
              obtain ⟨hg18, hf⟩ := gd_some hf
              refine va_iald hx hb hKK.1 hP 8 0 rfl rfl (inb_in hg18) dX5_which_87 ?_
              refine lv_iconst (v := 1) hx hb dX5_which_88 (by decide) ?_
              refine lv_icmp_ne (tgt := 96) hx hb dX5_which_89 (by decide) (fun h => ?_) (fun h => ?_)
              · have hf := (if_neg h).symm.trans hf
                refine lv_iconst (v := 0) hx hb dX5_which_96 (by decide) ?_
                refine lv_icmp_ne (tgt := 104) hx hb dX5_which_97 (by decide) (fun _ => ?_) (fun h => absurd h (by decide))
                refine lv_iconst (v := 0) hx hb dX5_which_104 (by decide) ?_
                refine lv_istore (lv' := [(4, .int (0 : Int32)), (6, .int (1 : Int32)), (0, .ref (ad 0)), (1, .long g1_18), (3, .int g3_18), (5, .int v5_18)]) hx hb dX5_which_105 hl (by decide) rfl (fun ls hl => ?_)
                obtain ⟨x19, ex19, hf⟩ := nm_ex hf
                refine lv_iinc (v := x19) (lv' := [(5, .int x19), (4, .int (0 : Int32)), (6, .int (1 : Int32)), (0, .ref (ad 0)), (1, .long g1_18), (3, .int g3_18)]) hx hb dX5_which_107 hl (k := 5) rfl (Eq.trans rfl ex19) (by decide) rfl (fun ls hl => ?_)
                refine lv_goto (tgt := 18) hx hb dX5_which_110 (by decide) ?_
                exact ih (0 : Int32) x19 ls hf (lv_sub hl [3, 4, 5, 1, 0] rfl)
              · have hf := (if_pos h).symm.trans hf
                refine lv_iconst (v := 1) hx hb dX5_which_92 (by decide) ?_
                refine lv_goto (tgt := 97) hx hb dX5_which_93 (by decide) ?_
                refine lv_icmp_ne (tgt := 104) hx hb dX5_which_97 (by decide) (fun h => absurd h (by decide)) (fun _ => ?_)
                refine lv_iconst (v := 1) hx hb dX5_which_100 (by decide) ?_
                refine lv_goto (tgt := 105) hx hb dX5_which_101 (by decide) ?_
                refine lv_istore (lv' := [(4, .int (1 : Int32)), (6, .int (1 : Int32)), (0, .ref (ad 0)), (1, .long g1_18), (3, .int g3_18), (5, .int v5_18)]) hx hb dX5_which_105 hl (by decide) rfl (fun ls hl => ?_)
                obtain ⟨x20, ex20, hf⟩ := nm_ex hf
                refine lv_iinc (v := x20) (lv' := [(5, .int x20), (4, .int (1 : Int32)), (6, .int (1 : Int32)), (0, .ref (ad 0)), (1, .long g1_18), (3, .int g3_18)]) hx hb dX5_which_107 hl (k := 5) rfl (Eq.trans rfl ex20) (by decide) rfl (fun ls hl => ?_)
                refine lv_goto (tgt := 18) hx hb dX5_which_110 (by decide) ?_
                exact ih (1 : Int32) x20 ls hf (lv_sub hl [3, 4, 5, 1, 0] rfl)
  have w_4 : ∀ (k134 : Int64 → Option (Int64)) (hk134 : ∀ (v1_4 : Int64) (ls : Array Slot), k134 v1_4 = some r0 → lv_has ls 7 [(1, .long v1_4)] → W p l e rmX5_which s m ([.ref (ad 0)] : List Value).toArray below meth c s.heap [] 0 0 (MQ below (pQ (some (.long r0))) ([.ref (ad 0)] : List Value).toArray s 0 0 noF) (F0 m 134 ls [])) (n : Nat) (v1_4 : Int64) (v3_4 : Int32) (ls : Array Slot), fX5_which_4 M k134 n v1_4 v3_4 = some r0 → lv_has ls 7 [(0, .ref (ad 0)), (1, .long v1_4), (3, .int v3_4)] → W p l e rmX5_which s m ([.ref (ad 0)] : List Value).toArray below meth c s.heap [] 0 0 (MQ below (pQ (some (.long r0))) ([.ref (ad 0)] : List Value).toArray s 0 0 noF) (F0 m 4 ls []) := by
    intro k134 hk134 n
    induction n with
    | zero =>
      intro v1_4 v3_4 ls hf hl
      cases (show (none : Option (Int64)) = some r0 from hf)
    | succ n ih =>
      intro v1_4 v3_4 ls hf hl
      rw [fX5_which_4] at hf
      refine lv_iload_n hx hb dX5_which_4 rfl (lv_at hl 2 rfl) ?_
      refine lv_aload_n hx hb dX5_which_5 rfl (lv_at hl 0 rfl) ?_
      obtain ⟨r2, hc1, hf⟩ := bd_some hf
      have hP1 := hP.sub (ws' := [moC ad M.1]) [0] rfl
      refine pCallVI ⟨hx, hb, hml, hown, hts⟩ (mtX5_cells l D cy z ad M.1 r2 hc1) miX5_cells q792 ⟨Nat.le_of_ble_eq_true rfl, Nat.le_of_ble_eq_true rfl⟩ ⟨rfl, rfl⟩ hP1 hKK hS hA0 (va_recv hKK.1 hP1 (ci := 5) (q0 := 0) rfl rfl) rfl hl.1 rfl (Nat.le_of_ble_eq_true rfl) dX5_which_6 ⟨Nat.zero_le _, Nat.zero_le _⟩ ?_
      refine lv_icmp_ge (tgt := 134) hx hb dX5_which_9 (by decide) (fun h => ?_) (fun h => ?_)
      · have hf := (if_pos h).symm.trans hf
        exact hk134 v1_4 ls hf (lv_sub hl [1] rfl)
      · have hf := (if_neg h).symm.trans hf
        refine lv_iconst (v := 1) hx hb dX5_which_12 (by decide) ?_
        refine lv_istore (lv' := [(4, .int (1 : Int32)), (0, .ref (ad 0)), (1, .long v1_4), (3, .int v3_4)]) hx hb dX5_which_13 hl (by decide) rfl (fun ls hl => ?_)
        refine lv_iconst (v := 0) hx hb dX5_which_15 (by decide) ?_
        refine lv_istore (lv' := [(5, .int (0 : Int32)), (4, .int (1 : Int32)), (0, .ref (ad 0)), (1, .long v1_4), (3, .int v3_4)]) hx hb dX5_which_16 hl (by decide) rfl (fun ls hl => ?_)
        refine w_18 v1_4 v3_4 _ ?_ _ (1 : Int32) (0 : Int32) ls hf (lv_sub hl [2, 3, 4, 1, 0] rfl)
        · intro y21 ls hf hl
          refine lv_lload_n hx hb dX5_which_113 rfl (lv_at hl 1 rfl) ?_
          refine lv_iload hx hb dX5_which_114 (lv_at hl 3 rfl) ?_
          refine lv_if_eq (tgt := 125) hx hb dX5_which_116 (by decide) (fun h => ?_) (fun h => ?_)
          · have hf := (if_pos h).symm.trans hf
            refine lv_lconst (v := 0) hx hb dX5_which_125 (by decide) ?_
            refine lv_lor hx hb dX5_which_126 ?_
            refine nm_l hf (fun x22 hf => ?_)
            refine lv_lstore_n (lv' := [(1, .long x22), (0, .ref (ad 0)), (3, .int v3_4), (4, .int y21)]) hx hb dX5_which_127 rfl hl (by decide) rfl (fun ls hl => ?_)
            obtain ⟨x23, ex23, hf⟩ := nm_ex hf
            refine lv_iinc (v := x23) (lv' := [(3, .int x23), (1, .long x22), (0, .ref (ad 0)), (4, .int y21)]) hx hb dX5_which_128 hl (k := 2) rfl (Eq.trans rfl ex23) (by decide) rfl (fun ls hl => ?_)
            refine lv_goto (tgt := 4) hx hb dX5_which_131 (by decide) ?_
            exact ih x22 x23 ls hf (lv_sub hl [2, 1, 0] rfl)
          · have hf := (if_neg h).symm.trans hf
            refine lv_lconst (v := 1) hx hb dX5_which_119 (by decide) ?_
            refine lv_iload_n hx hb dX5_which_120 rfl (lv_at hl 2 rfl) ?_
            refine lv_lshl hx hb dX5_which_121 rfl ?_
            refine lv_goto (tgt := 126) hx hb dX5_which_122 (by decide) ?_
            refine lv_lor hx hb dX5_which_126 ?_
            refine nm_l hf (fun x24 hf => ?_)
            refine lv_lstore_n (lv' := [(1, .long x24), (0, .ref (ad 0)), (3, .int v3_4), (4, .int y21)]) hx hb dX5_which_127 rfl hl (by decide) rfl (fun ls hl => ?_)
            obtain ⟨x25, ex25, hf⟩ := nm_ex hf
            refine lv_iinc (v := x25) (lv' := [(3, .int x25), (1, .long x24), (0, .ref (ad 0)), (4, .int y21)]) hx hb dX5_which_128 hl (k := 2) rfl (Eq.trans rfl ex25) (by decide) rfl (fun ls hl => ?_)
            refine lv_goto (tgt := 4) hx hb dX5_which_131 (by decide) ?_
            exact ih x24 x25 ls hf (lv_sub hl [2, 1, 0] rfl)
  unfold fX5_which at hf
  refine lv_lconst (v := 0) hx hb dX5_which_0 (by decide) ?_
  refine lv_lstore_n (lv' := [(1, .long (0 : Int64)), (0, .ref (ad 0))]) hx hb dX5_which_1 rfl hl (by decide) rfl (fun ls hl => ?_)
  refine lv_iconst (v := 0) hx hb dX5_which_2 (by decide) ?_
  refine lv_istore_n (lv' := [(3, .int (0 : Int32)), (1, .long (0 : Int64)), (0, .ref (ad 0))]) hx hb dX5_which_3 rfl hl (by decide) rfl (fun ls hl => ?_)
  refine w_4 _ ?_ _ (0 : Int64) (0 : Int32) ls hf (lv_sub hl [2, 1, 0] rfl)
  · intro y26 ls hf hl
    refine lv_lload_n hx hb dX5_which_134 rfl (lv_at hl 0 rfl) ?_
    exact pretL hx hb hr hlk hf dX5_which_135

abbrev rmX5_share : Room := { frames := 10, cells := 0, slots := 0, locals := 250 }
theorem miX5_share : miV yX5_share cX5_share 7 (some .int) 2 := ⟨q1009, q46, q1007, q1008, by decide +kernel⟩
set_option maxHeartbeats 4000000 in
set_option maxRecDepth 100000 in
theorem mtX5_share (l : Launch) (D : va_G) (cy : Nat → ClassId) (z : zT) (ad : Nat → Nat) (o : tMo) (w : tA) (u1 : Int32) (u2 : Int32) (r0 : Int32) (hf : fX5_share o w u1 u2 = some r0) : pmet l yX5_share cX5_share 7 (some .int) rmX5_share D cy z ([moC ad o, arI cy (ad 2) 51 w]) [.ref (ad 0), .int u1, .int u2] (some (.int r0)) := by
  refine pmet_of (by decide +kernel) (Nat.le_of_ble_eq_true rfl) (fun p e s m below meth c hx hb hr hml hown hts hlk hP hKK ls hl => ?_)
  have hS : va_S noF s.heap s.heap [] := va_S.rf
  have hA0 : ∀ q, noF q → zA z q := fun _ h => h.elim
  have hown : s.vm.findClass "HillSightModel" = some m.cls := hown
  have hl : lv_has ls 7 [(0, .ref (ad 0)), (1, .int u1), (2, .int u2)] := hl
  have w_24 : ∀ (g1_24 : Int32) (g2_24 : Int32) (g3_24 : Int32) (k98 : Int32 → Option (Int32)) (hk98 : ∀ (v4_24 : Int32) (ls : Array Slot), k98 v4_24 = some r0 → lv_has ls 7 [(2, .int g2_24), (3, .int g3_24), (4, .int v4_24)] → W p l e rmX5_share s m ([.ref (ad 0), .int u1, .int u2] : List Value).toArray below meth c s.heap [] 0 0 (MQ below (pQ (some (.int r0))) ([.ref (ad 0), .int u1, .int u2] : List Value).toArray s 0 0 noF) (F0 m 98 ls [])) (n : Nat) (v4_24 : Int32) (v5_24 : Int32) (ls : Array Slot), fX5_share_24 o w g1_24 g2_24 g3_24 k98 n v4_24 v5_24 = some r0 → lv_has ls 7 [(0, .ref (ad 0)), (1, .int g1_24), (2, .int g2_24), (3, .int g3_24), (4, .int v4_24), (5, .int v5_24)] → W p l e rmX5_share s m ([.ref (ad 0), .int u1, .int u2] : List Value).toArray below meth c s.heap [] 0 0 (MQ below (pQ (some (.int r0))) ([.ref (ad 0), .int u1, .int u2] : List Value).toArray s 0 0 noF) (F0 m 24 ls []) := by
    intro g1_24 g2_24 g3_24 k98 hk98 n
    induction n with
    | zero =>
      intro v4_24 v5_24 ls hf hl
      cases (show (none : Option (Int32)) = some r0 from hf)
    | succ n ih =>
      intro v4_24 v5_24 ls hf hl
      rw [fX5_share_24] at hf
      refine lv_iload hx hb dX5_share_24 (lv_at hl 5 rfl) ?_
      refine lv_iconst (v := 1) hx hb dX5_share_26 (by decide) ?_
      refine lv_iload_n hx hb dX5_share_27 rfl (lv_at hl 3 rfl) ?_
      refine lv_ishl hx hb dX5_share_28 ?_
      refine lv_icmp_ge (tgt := 98) hx hb dX5_share_29 (by decide) (fun h => ?_) (fun h => ?_)
      · have hf := (if_pos h).symm.trans hf
        exact hk98 v4_24 ls hf (lv_sub hl [2, 3, 4] rfl)
      · have hf := (if_neg h).symm.trans hf
        refine lv_iload hx hb dX5_share_32 (lv_at hl 5 rfl) ?_
        refine lv_i2l hx hb dX5_share_34 rfl ?_
        obtain ⟨r5, hc4, hf⟩ := bd_some hf
        have hP1 := hP.sub (ws' := []) [] rfl
        refine pCallSI ⟨hx, hb, hml, hown, hts⟩ (mtX5_ones l D cy z v5_24.toInt64 r5 hc4) miX5_ones q847 ⟨Nat.le_of_ble_eq_true rfl, Nat.le_of_ble_eq_true rfl⟩ ⟨rfl, rfl⟩ hP1 hKK hS hA0 rfl hl.1 rfl (Nat.le_of_ble_eq_true rfl) dX5_share_35 ⟨Nat.zero_le _, Nat.zero_le _⟩ ?_
        refine lv_istore (lv' := [(6, .int r5), (0, .ref (ad 0)), (1, .int g1_24), (2, .int g2_24), (3, .int g3_24), (4, .int v4_24), (5, .int v5_24)]) hx hb dX5_share_38 hl (by decide) rfl (fun ls hl => ?_)
        refine lv_iload hx hb dX5_share_40 (lv_at hl 5 rfl) ?_
        refine lv_iload hx hb dX5_share_42 (lv_at hl 6 rfl) ?_
        refine lv_i2l hx hb dX5_share_44 rfl ?_
        refine lv_iload_n hx hb dX5_share_45 rfl (lv_at hl 2 rfl) ?_
        obtain ⟨r7, hc6, hf⟩ := bd_some hf
        have hP1 := hP.sub (ws' := []) [] rfl
        refine pCallSI ⟨hx, hb, hml, hown, hts⟩ (mtX5_has l D cy z v5_24.toInt64 g1_24 r7 hc6) miX5_has q850 ⟨Nat.le_of_ble_eq_true rfl, Nat.le_of_ble_eq_true rfl⟩ ⟨rfl, rfl⟩ hP1 hKK hS hA0 rfl hl.1 rfl (Nat.le_of_ble_eq_true rfl) dX5_share_46 ⟨Nat.zero_le _, Nat.zero_le _⟩ ?_
        refine lv_if_eq (tgt := 56) hx hb dX5_share_49 (by decide) (fun h => ?_) (fun h => ?_)
        · have hf := (if_pos h).symm.trans hf
          refine lv_iload hx hb dX5_share_56 (lv_at hl 0 rfl) ?_
          obtain ⟨r9, hc8, hf⟩ := bd_some hf
          have hP1 := hP.sub (ws' := []) [] rfl
          refine pCallSI ⟨hx, hb, hml, hown, hts⟩ (mtX5_factorial l D cy z r5 r9 hc8) miX5_factorial q1010 ⟨Nat.le_of_ble_eq_true rfl, Nat.le_of_ble_eq_true rfl⟩ ⟨rfl, rfl⟩ hP1 hKK hS hA0 rfl hl.1 rfl (Nat.le_of_ble_eq_true rfl) dX5_share_58 ⟨Nat.zero_le _, Nat.zero_le _⟩ ?_
          refine lv_iload_n hx hb dX5_share_61 rfl (lv_at hl 4 rfl) ?_
          refine lv_iconst (v := 1) hx hb dX5_share_62 (by decide) ?_
          refine lv_isub hx hb dX5_share_63 ?_
          refine lv_iload hx hb dX5_share_64 (lv_at hl 0 rfl) ?_
          refine lv_isub hx hb dX5_share_66 ?_
          obtain ⟨r11, hc10, hf⟩ := bd_some hf
          have hP1 := hP.sub (ws' := []) [] rfl
          refine pCallSI ⟨hx, hb, hml, hown, hts⟩ (mtX5_factorial l D cy z ((g3_24 - (1 : Int32)) - r5) r11 hc10) miX5_factorial q1010 ⟨Nat.le_of_ble_eq_true rfl, Nat.le_of_ble_eq_true rfl⟩ ⟨rfl, rfl⟩ hP1 hKK hS hA0 rfl hl.1 rfl (Nat.le_of_ble_eq_true rfl) dX5_share_67 ⟨Nat.zero_le _, Nat.zero_le _⟩ ?_
          refine lv_imul hx hb dX5_share_70 ?_
          refine lv_aload_n hx hb dX5_share_71 rfl (lv_at hl 1 rfl) ?_
          refine lv_iload hx hb dX5_share_72 (lv_at hl 6 rfl) ?_
          refine lv_iconst (v := 1) hx hb dX5_share_74 (by decide) ?_
          refine lv_iload_n hx hb dX5_share_75 rfl (lv_at hl 2 rfl) ?_
          refine lv_ishl hx hb dX5_share_76 ?_
          refine lv_ior hx hb dX5_share_77 ?_
          obtain ⟨r13, hc12, hf⟩ := bd_some hf
          refine pCallVI ⟨hx, hb, hml, hown, hts⟩ (mtX5_worth l D cy z ad o w (v5_24 ||| ((1 : Int32) <<< (g1_24 &&& 31))) r13 hc12) miX5_worth q1013 ⟨Nat.le_of_ble_eq_true rfl, Nat.le_of_ble_eq_true rfl⟩ ⟨rfl, rfl⟩ hP hKK hS hA0 (va_recv hKK.1 hP (ci := 5) (q0 := 0) rfl rfl) rfl hl.1 rfl (Nat.le_of_ble_eq_true rfl) dX5_share_78 ⟨Nat.zero_le _, Nat.zero_le _⟩ ?_
          refine lv_aload_n hx hb dX5_share_81 rfl (lv_at hl 1 rfl) ?_
          refine lv_iload hx hb dX5_share_82 (lv_at hl 6 rfl) ?_
          obtain ⟨r15, hc14, hf⟩ := bd_some hf
          refine pCallVI ⟨hx, hb, hml, hown, hts⟩ (mtX5_worth l D cy z ad o w v5_24 r15 hc14) miX5_worth q1013 ⟨Nat.le_of_ble_eq_true rfl, Nat.le_of_ble_eq_true rfl⟩ ⟨rfl, rfl⟩ hP hKK hS hA0 (va_recv hKK.1 hP (ci := 5) (q0 := 0) rfl rfl) rfl hl.1 rfl (Nat.le_of_ble_eq_true rfl) dX5_share_84 ⟨Nat.zero_le _, Nat.zero_le _⟩ ?_
          refine lv_isub hx hb dX5_share_87 ?_
          refine lv_imul hx hb dX5_share_88 ?_
          refine lv_iadd hx hb dX5_share_89 ?_
          refine nm_i hf (fun x16 hf => ?_)
          refine lv_istore (lv' := [(4, .int x16), (6, .int r5), (0, .ref (ad 0)), (1, .int g1_24), (2, .int g2_24), (3, .int g3_24), (5, .int v5_24)]) hx hb dX5_share_90 hl (by decide) rfl (fun ls hl => ?_)
          obtain ⟨x17, ex17, hf⟩ := nm_ex hf
          refine lv_iinc (v := x17) (lv' := [(5, .int x17), (4, .int x16), (6, .int r5), (0, .ref (ad 0)), (1, .int g1_24), (2, .int g2_24), (3, .int g3_24)]) hx hb dX5_share_92 hl (k := 6) rfl (Eq.trans rfl ex17) (by decide) rfl (fun ls hl => ?_)
          refine lv_goto (tgt := 24) hx hb dX5_share_95 (by decide) ?_
          exact ih x16 x17 ls hf (lv_sub hl [3, 4, 5, 6, 1, 0] rfl)
        · have hf := (if_neg h).symm.trans hf
          refine lv_iconst (v := 0) hx hb dX5_share_52 (by decide) ?_
          refine lv_goto (tgt := 89) hx hb dX5_share_53 (by decide) ?_
          refine lv_iadd hx hb dX5_share_89 ?_
          refine nm_i hf (fun x18 hf => ?_)
          refine lv_istore (lv' := [(4, .int x18), (6, .int r5), (0, .ref (ad 0)), (1, .int g1_24), (2, .int g2_24), (3, .int g3_24), (5, .int v5_24)]) hx hb dX5_share_90 hl (by decide) rfl (fun ls hl => ?_)
          obtain ⟨x19, ex19, hf⟩ := nm_ex hf
          refine lv_iinc (v := x19) (lv' := [(5, .int x19), (4, .int x18), (6, .int r5), (0, .ref (ad 0)), (1, .int g1_24), (2, .int g2_24), (3, .int g3_24)]) hx hb dX5_share_92 hl (k := 6) rfl (Eq.trans rfl ex19) (by decide) rfl (fun ls hl => ?_)
          refine lv_goto (tgt := 24) hx hb dX5_share_95 (by decide) ?_
          exact ih x18 x19 ls hf (lv_sub hl [3, 4, 5, 6, 1, 0] rfl)
  unfold fX5_share at hf
  refine lv_aload_n hx hb dX5_share_0 rfl (lv_at hl 0 rfl) ?_
  refine lv_iload_n hx hb dX5_share_1 rfl (lv_at hl 1 rfl) ?_
  obtain ⟨r2, hc1, hf⟩ := bd_some hf
  refine pCallVI ⟨hx, hb, hml, hown, hts⟩ (mtX5_isTower l D cy z ad o w u1 r2 hc1) miX5_isTower q885 ⟨Nat.le_of_ble_eq_true rfl, Nat.le_of_ble_eq_true rfl⟩ ⟨rfl, rfl⟩ hP hKK hS hA0 (va_recv hKK.1 hP (ci := 5) (q0 := 0) rfl rfl) rfl hl.1 rfl (Nat.le_of_ble_eq_true rfl) dX5_share_2 ⟨Nat.zero_le _, Nat.zero_le _⟩ ?_
  refine lv_if_ne (tgt := 10) hx hb dX5_share_5 (by decide) (fun h => ?_) (fun h => ?_)
  · have hf := (if_neg h).symm.trans hf
    refine lv_aload_n hx hb dX5_share_10 rfl (lv_at hl 0 rfl) ?_
    refine va_get (D := D) (ci := 5) (v := .ref (ad 2)) (C := RX5) (T := TX5) (N := 24) hx hb hts inX5 hown hKK.1 hP 0 rfl rfl 4 (by decide) (hts _ q677) (fun _ h => h) rfl dX5_share_11 ?_
    refine lv_bipush (v := 36) hx hb dX5_share_14 (by decide) ?_
    refine va_iald hx hb hKK.1 hP 1 0 rfl rfl (inb_in (by decide)) dX5_share_16 ?_
    refine nm_i hf (fun x3 hf => ?_)
    refine lv_istore_n (lv' := [(3, .int x3), (0, .ref (ad 0)), (1, .int u1), (2, .int u2)]) hx hb dX5_share_17 rfl hl (by decide) rfl (fun ls hl => ?_)
    refine lv_iconst (v := 0) hx hb dX5_share_18 (by decide) ?_
    refine lv_istore (lv' := [(4, .int (0 : Int32)), (3, .int x3), (0, .ref (ad 0)), (1, .int u1), (2, .int u2)]) hx hb dX5_share_19 hl (by decide) rfl (fun ls hl => ?_)
    refine lv_iconst (v := 0) hx hb dX5_share_21 (by decide) ?_
    refine lv_istore (lv' := [(5, .int (0 : Int32)), (4, .int (0 : Int32)), (3, .int x3), (0, .ref (ad 0)), (1, .int u1), (2, .int u2)]) hx hb dX5_share_22 hl (by decide) rfl (fun ls hl => ?_)
    refine w_24 u1 u2 x3 _ ?_ _ (0 : Int32) (0 : Int32) ls hf (lv_sub hl [3, 4, 5, 2, 1, 0] rfl)
    · intro y20 ls hf hl
      refine lv_iload hx hb dX5_share_98 (lv_at hl 2 rfl) ?_
      refine lv_iload_n hx hb dX5_share_100 rfl (lv_at hl 1 rfl) ?_
      obtain ⟨r22, hc21, hf⟩ := bd_some hf
      have hP1 := hP.sub (ws' := []) [] rfl
      refine pCallSI ⟨hx, hb, hml, hown, hts⟩ (mtX5_factorial l D cy z x3 r22 hc21) miX5_factorial q1010 ⟨Nat.le_of_ble_eq_true rfl, Nat.le_of_ble_eq_true rfl⟩ ⟨rfl, rfl⟩ hP1 hKK hS hA0 rfl hl.1 rfl (Nat.le_of_ble_eq_true rfl) dX5_share_101 ⟨Nat.zero_le _, Nat.zero_le _⟩ ?_
      refine lv_iload_n hx hb dX5_share_104 rfl (lv_at hl 0 rfl) ?_
      obtain ⟨r24, hc23, hf⟩ := bd_some hf
      have hP1 := hP.sub (ws' := []) [] rfl
      refine pCallSI ⟨hx, hb, hml, hown, hts⟩ (mtX5_fraction l D cy z y20 r22 u2 r24 hc23) miX5_fraction q979 ⟨Nat.le_of_ble_eq_true rfl, Nat.le_of_ble_eq_true rfl⟩ ⟨rfl, rfl⟩ hP1 hKK hS hA0 rfl hl.1 rfl (Nat.le_of_ble_eq_true rfl) dX5_share_105 ⟨Nat.zero_le _, Nat.zero_le _⟩ ?_
      exact pretI hx hb hr hlk hf dX5_share_108
  · have hf := (if_pos h).symm.trans hf
    refine lv_iconst (v := -1) hx hb dX5_share_8 (by decide) ?_
    exact pretI hx hb hr hlk hf dX5_share_9

abbrev rmX5_chance : Room := { frames := 8, cells := 0, slots := 0, locals := 201 }
theorem miX5_chance : miV yX5_chance cX5_chance 5 (some .int) 3 := ⟨q1020, q46, q1018, q1019, by decide +kernel⟩
set_option maxHeartbeats 4000000 in
set_option maxRecDepth 100000 in
theorem mtX5_chance (l : Launch) (D : va_G) (cy : Nat → ClassId) (z : zT) (ad : Nat → Nat) (o : tMo) (w : tA) (u1 : Int32) (u2 : Int32) (u3 : Int32) (r0 : Int32) (hf : fX5_chance o w u1 u2 u3 = some r0) : pmet l yX5_chance cX5_chance 5 (some .int) rmX5_chance D cy z ([moC ad o, arI cy (ad 2) 51 w]) [.ref (ad 0), .int u1, .int u2, .int u3] (some (.int r0)) := by
  refine pmet_of (by decide +kernel) (Nat.le_of_ble_eq_true rfl) (fun p e s m below meth c hx hb hr hml hown hts hlk hP hKK ls hl => ?_)
  have hS : va_S noF s.heap s.heap [] := va_S.rf
  have hA0 : ∀ q, noF q → zA z q := fun _ h => h.elim
  have hown : s.vm.findClass "HillSightModel" = some m.cls := hown
  have hl : lv_has ls 5 [(0, .ref (ad 0)), (1, .int u1), (2, .int u2), (3, .int u3)] := hl
  unfold fX5_chance at hf
  refine lv_aload_n hx hb dX5_chance_0 rfl (lv_at hl 0 rfl) ?_
  refine lv_iload_n hx hb dX5_chance_1 rfl (lv_at hl 1 rfl) ?_
  obtain ⟨r2, hc1, hf⟩ := bd_some hf
  have hP1 := hP.sub (ws' := [moC ad o]) [0] rfl
  refine pCallVI ⟨hx, hb, hml, hown, hts⟩ (mtX5_isCell l D cy z ad o u1 r2 hc1) miX5_isCell q865 ⟨Nat.le_of_ble_eq_true rfl, Nat.le_of_ble_eq_true rfl⟩ ⟨rfl, rfl⟩ hP1 hKK hS hA0 (va_recv hKK.1 hP1 (ci := 5) (q0 := 0) rfl rfl) rfl hl.1 rfl (Nat.le_of_ble_eq_true rfl) dX5_chance_2 ⟨Nat.zero_le _, Nat.zero_le _⟩ ?_
  refine lv_if_ne (tgt := 10) hx hb dX5_chance_5 (by decide) (fun h => ?_) (fun h => ?_)
  · have hf := (if_neg h).symm.trans hf
    refine lv_iload_n hx hb dX5_chance_10 rfl (lv_at hl 2 rfl) ?_
    refine lv_i2l hx hb dX5_chance_11 rfl ?_
    refine lv_lconst (v := 0) hx hb dX5_chance_12 (by decide) ?_
    refine lv_ldc2 hx hb hown (hts _ q1021) dX5_chance_13 ?_
    obtain ⟨r4, hc3, hf⟩ := bd_some hf
    have hP1 := hP.sub (ws' := []) [] rfl
    refine pCallSI ⟨hx, hb, hml, hown, hts⟩ (mtX5_in l D cy z u2.toInt64 (0 : Int64) (10 : Int64) r4 hc3) miX5_in q751 ⟨Nat.le_of_ble_eq_true rfl, Nat.le_of_ble_eq_true rfl⟩ ⟨rfl, rfl⟩ hP1 hKK hS hA0 rfl hl.1 rfl (Nat.le_of_ble_eq_true rfl) dX5_chance_16 ⟨Nat.zero_le _, Nat.zero_le _⟩ ?_
    refine lv_if_ne (tgt := 25) hx hb dX5_chance_19 (by decide) (fun h => ?_) (fun h => ?_)
    · have hf := (if_neg h).symm.trans hf
      refine lv_aload_n hx hb dX5_chance_25 rfl (lv_at hl 0 rfl) ?_
      refine lv_iload_n hx hb dX5_chance_26 rfl (lv_at hl 1 rfl) ?_
      obtain ⟨r6, hc5, hf⟩ := bd_some hf
      refine pCallVI ⟨hx, hb, hml, hown, hts⟩ (mtX5_watchersOf l D cy z ad o w u1 r6 hc5) miX5_watchersOf q873 ⟨Nat.le_of_ble_eq_true rfl, Nat.le_of_ble_eq_true rfl⟩ ⟨rfl, rfl⟩ hP hKK hS hA0 (va_recv hKK.1 hP (ci := 5) (q0 := 0) rfl rfl) rfl hl.1 rfl (Nat.le_of_ble_eq_true rfl) dX5_chance_27 ⟨Nat.zero_le _, Nat.zero_le _⟩ ?_
      refine lv_istore (lv' := [(4, .int r6), (0, .ref (ad 0)), (1, .int u1), (2, .int u2), (3, .int u3)]) hx hb dX5_chance_30 hl (by decide) rfl (fun ls hl => ?_)
      refine lv_bipush (v := 10) hx hb dX5_chance_32 (by decide) ?_
      refine lv_iload hx hb dX5_chance_34 (lv_at hl 0 rfl) ?_
      obtain ⟨r8, hc7, hf⟩ := bd_some hf
      have hP1 := hP.sub (ws' := []) [] rfl
      refine pCallSI ⟨hx, hb, hml, hown, hts⟩ (mtX5_power l D cy z (10 : Int32) r6 r8 hc7) miX5_power q1022 ⟨Nat.le_of_ble_eq_true rfl, Nat.le_of_ble_eq_true rfl⟩ ⟨rfl, rfl⟩ hP1 hKK hS hA0 rfl hl.1 rfl (Nat.le_of_ble_eq_true rfl) dX5_chance_36 ⟨Nat.zero_le _, Nat.zero_le _⟩ ?_
      refine lv_iload_n hx hb dX5_chance_39 rfl (lv_at hl 3 rfl) ?_
      refine lv_iload hx hb dX5_chance_40 (lv_at hl 0 rfl) ?_
      obtain ⟨r10, hc9, hf⟩ := bd_some hf
      have hP1 := hP.sub (ws' := []) [] rfl
      refine pCallSI ⟨hx, hb, hml, hown, hts⟩ (mtX5_power l D cy z u2 r6 r10 hc9) miX5_power q1022 ⟨Nat.le_of_ble_eq_true rfl, Nat.le_of_ble_eq_true rfl⟩ ⟨rfl, rfl⟩ hP1 hKK hS hA0 rfl hl.1 rfl (Nat.le_of_ble_eq_true rfl) dX5_chance_42 ⟨Nat.zero_le _, Nat.zero_le _⟩ ?_
      refine lv_isub hx hb dX5_chance_45 ?_
      refine lv_bipush (v := 10) hx hb dX5_chance_46 (by decide) ?_
      refine lv_iload hx hb dX5_chance_48 (lv_at hl 0 rfl) ?_
      obtain ⟨r12, hc11, hf⟩ := bd_some hf
      have hP1 := hP.sub (ws' := []) [] rfl
      refine pCallSI ⟨hx, hb, hml, hown, hts⟩ (mtX5_power l D cy z (10 : Int32) r6 r12 hc11) miX5_power q1022 ⟨Nat.le_of_ble_eq_true rfl, Nat.le_of_ble_eq_true rfl⟩ ⟨rfl, rfl⟩ hP1 hKK hS hA0 rfl hl.1 rfl (Nat.le_of_ble_eq_true rfl) dX5_chance_50 ⟨Nat.zero_le _, Nat.zero_le _⟩ ?_
      refine lv_iload_n hx hb dX5_chance_53 rfl (lv_at hl 4 rfl) ?_
      obtain ⟨r14, hc13, hf⟩ := bd_some hf
      have hP1 := hP.sub (ws' := []) [] rfl
      refine pCallSI ⟨hx, hb, hml, hown, hts⟩ (mtX5_fraction l D cy z (r8 - r10) r12 u3 r14 hc13) miX5_fraction q979 ⟨Nat.le_of_ble_eq_true rfl, Nat.le_of_ble_eq_true rfl⟩ ⟨rfl, rfl⟩ hP1 hKK hS hA0 rfl hl.1 rfl (Nat.le_of_ble_eq_true rfl) dX5_chance_54 ⟨Nat.zero_le _, Nat.zero_le _⟩ ?_
      exact pretI hx hb hr hlk hf dX5_chance_57
    · have hf := (if_pos h).symm.trans hf
      refine lv_bipush (v := -2) hx hb dX5_chance_22 (by decide) ?_
      exact pretI hx hb hr hlk hf dX5_chance_24
  · have hf := (if_pos h).symm.trans hf
    refine lv_iconst (v := -1) hx hb dX5_chance_8 (by decide) ?_
    exact pretI hx hb hr hlk hf dX5_chance_9

abbrev rmX5_seed : Room := { frames := 0, cells := 0, slots := 0, locals := 0 }
theorem miX5_seed : miV yX5_seed cX5_seed 5 (some .long) 1 := ⟨q1028, q46, q1026, q1027, by decide +kernel⟩
set_option maxHeartbeats 4000000 in
set_option maxRecDepth 100000 in
theorem mtX5_seed (l : Launch) (D : va_G) (cy : Nat → ClassId) (z : zT) (ad : Nat → Nat) (M : tM) (u1 : Int64) (r0 : Int64) (M0 : tM) (hf : fX5_seed M u1 = some (r0, M0)) : mmet l yX5_seed cX5_seed 5 (some .long) rmX5_seed D cy z (wM cy ad M) (wM cy ad M0) [.ref (ad 0), .long u1] (some (.long r0)) := by
  refine mmet_of (by decide +kernel) (Nat.le_of_ble_eq_true rfl) (fun p e s m below meth c hx hb hr hml hown hts hlk hP hD hS hA0 hKK ls hl => ?_)
  have hown : s.vm.findClass "HillSightModel" = some m.cls := hown
  have hl : lv_has ls 5 [(0, .ref (ad 0)), (1, .long u1)] := hl
  unfold fX5_seed at hf
  refine lv_aload_n hx hb dX5_seed_0 rfl (lv_at hl 0 rfl) ?_
  refine va_get (D := D) (ci := 5) (v := .long M.1.2.2.2.2.2.2.1) (C := RX5) (T := TX5) (N := 24) hx hb hts inX5 hown hKK.1 hP 0 rfl rfl 14 (by decide) (hts _ q687) (fun _ h => h) rfl dX5_seed_1 ?_
  refine lv_lstore_n (lv' := [(3, .long M.1.2.2.2.2.2.2.1), (0, .ref (ad 0)), (1, .long u1)]) hx hb dX5_seed_4 rfl hl (by decide) rfl (fun ls hl => ?_)
  refine lv_aload_n hx hb dX5_seed_5 rfl (lv_at hl 1 rfl) ?_
  refine lv_lload_n hx hb dX5_seed_6 rfl (lv_at hl 2 rfl) ?_
  refine va_put (D := D) (ci := 5) (v := .long u1) (ty := .long) (C := RX5) (T := TX5) (N := 24) hx hb hts inX5 tyX5 tyX5_ok nmX5 hown hKK.1 hP hD hS 0 rfl rfl 14 (by decide) (hts _ q687) (fun _ h => h) rfl (by decide +kernel) rfl rfl (Nat.le_of_ble_eq_true rfl) dX5_seed_7 (fun H locs hP hD hS => ?_)
  have hP : va_P D vwCl (wM cy ad ((M.1.1, M.1.2.1, M.1.2.2.1, M.1.2.2.2.1, M.1.2.2.2.2.1, M.1.2.2.2.2.2.1, u1, M.1.2.2.2.2.2.2.2.1, M.1.2.2.2.2.2.2.2.2.1, M.1.2.2.2.2.2.2.2.2.2.1, M.1.2.2.2.2.2.2.2.2.2.2.1, M.1.2.2.2.2.2.2.2.2.2.2.2), M.2.1, M.2.2.1, M.2.2.2.1, M.2.2.2.2.1, M.2.2.2.2.2.1, M.2.2.2.2.2.2.1, M.2.2.2.2.2.2.2.1, M.2.2.2.2.2.2.2.2.1, M.2.2.2.2.2.2.2.2.2.1, M.2.2.2.2.2.2.2.2.2.2.1, M.2.2.2.2.2.2.2.2.2.2.2.1, M.2.2.2.2.2.2.2.2.2.2.2.2)) H := hP
  have hD : va_D (adr (wM cy ad M)) (wM cy ad ((M.1.1, M.1.2.1, M.1.2.2.1, M.1.2.2.2.1, M.1.2.2.2.2.1, M.1.2.2.2.2.2.1, u1, M.1.2.2.2.2.2.2.2.1, M.1.2.2.2.2.2.2.2.2.1, M.1.2.2.2.2.2.2.2.2.2.1, M.1.2.2.2.2.2.2.2.2.2.2.1, M.1.2.2.2.2.2.2.2.2.2.2.2), M.2.1, M.2.2.1, M.2.2.2.1, M.2.2.2.2.1, M.2.2.2.2.2.1, M.2.2.2.2.2.2.1, M.2.2.2.2.2.2.2.1, M.2.2.2.2.2.2.2.2.1, M.2.2.2.2.2.2.2.2.2.1, M.2.2.2.2.2.2.2.2.2.2.1, M.2.2.2.2.2.2.2.2.2.2.2.1, M.2.2.2.2.2.2.2.2.2.2.2.2)) := hD
  refine lv_lload_n hx hb dX5_seed_10 rfl (lv_at hl 0 rfl) ?_
  cases hf
  exact mretL hx hb hr hlk hP hS dX5_seed_11

abbrev rmX5_drawn : Room := { frames := 11, cells := 0, slots := 0, locals := 271 }
theorem miX5_drawn : miV yX5_drawn cX5_drawn 5 (some .int) 1 := ⟨q1032, q46, q1030, q1031, by decide +kernel⟩
set_option maxHeartbeats 4000000 in
set_option maxRecDepth 100000 in
theorem mtX5_drawn (l : Launch) (D : va_G) (cy : Nat → ClassId) (z : zT) (ad : Nat → Nat) (M : tM) (u1 : Int32) (r0 : Int32) (M0 : tM) (hf : fX5_drawn M u1 = some (r0, M0)) : mmet l yX5_drawn cX5_drawn 5 (some .int) rmX5_drawn D cy z (wM cy ad M) (wM cy ad M0) [.ref (ad 0), .int u1] (some (.int r0)) := by
  refine mmet_of (by decide +kernel) (Nat.le_of_ble_eq_true rfl) (fun p e s m below meth c hx hb hr hml hown hts hlk hP hD hS hA0 hKK ls hl => ?_)
  have hown : s.vm.findClass "HillSightModel" = some m.cls := hown
  have hl : lv_has ls 5 [(0, .ref (ad 0)), (1, .int u1)] := hl
  have w_30 : ∀ (g1_30 : Int32) (k98 : Int32 → tM → Option (Int32 × tM)) (hk98 : ∀ (v2_30 : Int32) (M_30 : tM) (H : Heap) (locs : List Loc) (ls : Array Slot), k98 v2_30 M_30 = some (r0, M0) → va_P D vwCl (wM cy ad M_30) H → va_D (adr (wM cy ad M)) (wM cy ad M_30) → va_S (adr (wM cy ad M)) s.heap H locs → lv_has ls 5 [(2, .int v2_30)] → W p l e rmX5_drawn s m ([.ref (ad 0), .int u1] : List Value).toArray below meth c H locs 0 0 (MQ below (mQ D (wM cy ad M) (wM cy ad M0) (some (.int r0))) ([.ref (ad 0), .int u1] : List Value).toArray s 0 0 (adr (wM cy ad M))) (F0 m 98 ls [])) (n : Nat) (v2_30 : Int32) (v3_30 : Int32) (M_30 : tM) (H : Heap) (locs : List Loc) (ls : Array Slot), fX5_drawn_30 g1_30 k98 n v2_30 v3_30 M_30 = some (r0, M0) → va_P D vwCl (wM cy ad M_30) H → va_D (adr (wM cy ad M)) (wM cy ad M_30) → va_S (adr (wM cy ad M)) s.heap H locs → lv_has ls 5 [(0, .ref (ad 0)), (1, .int g1_30), (2, .int v2_30), (3, .int v3_30)] → W p l e rmX5_drawn s m ([.ref (ad 0), .int u1] : List Value).toArray below meth c H locs 0 0 (MQ below (mQ D (wM cy ad M) (wM cy ad M0) (some (.int r0))) ([.ref (ad 0), .int u1] : List Value).toArray s 0 0 (adr (wM cy ad M))) (F0 m 30 ls []) := by
    intro g1_30 k98 hk98 n
    induction n with
    | zero =>
      intro v2_30 v3_30 M_30 H locs ls hf hP hD hS hl
      cases (show (none : Option (Int32 × tM)) = some (r0, M0) from hf)
    | succ n ih =>
      intro v2_30 v3_30 M_30 H locs ls hf hP hD hS hl
      rw [fX5_drawn_30] at hf
      refine lv_iload_n hx hb dX5_drawn_30 rfl (lv_at hl 3 rfl) ?_
      refine lv_iload_n hx hb dX5_drawn_31 rfl (lv_at hl 1 rfl) ?_
      refine lv_icmp_ge (tgt := 98) hx hb dX5_drawn_32 (by decide) (fun h => ?_) (fun h => ?_)
      · have hf := (if_pos h).symm.trans hf
        exact hk98 v2_30 M_30 _ _ ls hf hP hD hS (lv_sub hl [2] rfl)
      · have hf := (if_neg h).symm.trans hf
        refine lv_aload_n hx hb dX5_drawn_35 rfl (lv_at hl 0 rfl) ?_
        refine lv_aload_n hx hb dX5_drawn_36 rfl (lv_at hl 0 rfl) ?_
        refine va_get (D := D) (ci := 5) (v := .long M_30.1.2.2.2.2.2.2.1) (C := RX5) (T := TX5) (N := 24) hx hb hts inX5 hown hKK.1 hP 0 rfl rfl 14 (by decide) (hts _ q687) (fun _ h => h) rfl dX5_drawn_37 ?_
        refine lv_ldc2 hx hb hown (hts _ q1034) dX5_drawn_40 ?_
        refine lv_lmul hx hb dX5_drawn_43 ?_
        refine lv_ldc2 hx hb hown (hts _ q1035) dX5_drawn_44 ?_
        refine lv_ladd hx hb dX5_drawn_47 ?_
        refine nm_l hf (fun x5 hf => ?_)
        refine va_put (D := D) (ci := 5) (v := .long x5) (ty := .long) (C := RX5) (T := TX5) (N := 24) hx hb hts inX5 tyX5 tyX5_ok nmX5 hown hKK.1 hP hD hS 0 rfl rfl 14 (by decide) (hts _ q687) (fun _ h => h) rfl (by decide +kernel) rfl rfl (Nat.le_of_ble_eq_true rfl) dX5_drawn_48 (fun H locs hP hD hS => ?_)
        have hP : va_P D vwCl (wM cy ad ((M_30.1.1, M_30.1.2.1, M_30.1.2.2.1, M_30.1.2.2.2.1, M_30.1.2.2.2.2.1, M_30.1.2.2.2.2.2.1, x5, M_30.1.2.2.2.2.2.2.2.1, M_30.1.2.2.2.2.2.2.2.2.1, M_30.1.2.2.2.2.2.2.2.2.2.1, M_30.1.2.2.2.2.2.2.2.2.2.2.1, M_30.1.2.2.2.2.2.2.2.2.2.2.2), M_30.2.1, M_30.2.2.1, M_30.2.2.2.1, M_30.2.2.2.2.1, M_30.2.2.2.2.2.1, M_30.2.2.2.2.2.2.1, M_30.2.2.2.2.2.2.2.1, M_30.2.2.2.2.2.2.2.2.1, M_30.2.2.2.2.2.2.2.2.2.1, M_30.2.2.2.2.2.2.2.2.2.2.1, M_30.2.2.2.2.2.2.2.2.2.2.2.1, M_30.2.2.2.2.2.2.2.2.2.2.2.2)) H := hP
        have hD : va_D (adr (wM cy ad M)) (wM cy ad ((M_30.1.1, M_30.1.2.1, M_30.1.2.2.1, M_30.1.2.2.2.1, M_30.1.2.2.2.2.1, M_30.1.2.2.2.2.2.1, x5, M_30.1.2.2.2.2.2.2.2.1, M_30.1.2.2.2.2.2.2.2.2.1, M_30.1.2.2.2.2.2.2.2.2.2.1, M_30.1.2.2.2.2.2.2.2.2.2.2.1, M_30.1.2.2.2.2.2.2.2.2.2.2.2), M_30.2.1, M_30.2.2.1, M_30.2.2.2.1, M_30.2.2.2.2.1, M_30.2.2.2.2.2.1, M_30.2.2.2.2.2.2.1, M_30.2.2.2.2.2.2.2.1, M_30.2.2.2.2.2.2.2.2.1, M_30.2.2.2.2.2.2.2.2.2.1, M_30.2.2.2.2.2.2.2.2.2.2.1, M_30.2.2.2.2.2.2.2.2.2.2.2.1, M_30.2.2.2.2.2.2.2.2.2.2.2.2)) := hD
        refine lv_aload_n hx hb dX5_drawn_51 rfl (lv_at hl 0 rfl) ?_
        refine va_get (D := D) (ci := 5) (v := .long x5) (C := RX5) (T := TX5) (N := 24) hx hb hts inX5 hown hKK.1 hP 0 rfl rfl 14 (by decide) (hts _ q687) (fun _ h => h) rfl dX5_drawn_52 ?_
        refine lv_bipush (v := 33) hx hb dX5_drawn_55 (by decide) ?_
        refine lv_lushr hx hb dX5_drawn_57 rfl ?_
        refine lv_l2i hx hb dX5_drawn_58 rfl ?_
        refine nm_i hf (fun x6 hf => ?_)
        refine lv_istore (lv' := [(4, .int x6), (0, .ref (ad 0)), (1, .int g1_30), (2, .int v2_30), (3, .int v3_30)]) hx hb dX5_drawn_59 hl (by decide) rfl (fun ls hl => ?_)
        refine lv_aload_n hx hb dX5_drawn_61 rfl (lv_at hl 1 rfl) ?_
        refine va_get (D := D) (ci := 5) (v := .ref (ad 3)) (C := RX5) (T := TX5) (N := 24) hx hb hts inX5 hown hKK.1 hP 0 rfl rfl 5 (by decide) (hts _ q678) (fun _ h => h) rfl dX5_drawn_62 ?_
        refine lv_iload hx hb dX5_drawn_65 (lv_at hl 0 rfl) ?_
        refine lv_aload_n hx hb dX5_drawn_67 rfl (lv_at hl 1 rfl) ?_
        obtain ⟨r8, hc7, hf⟩ := bd_some hf
        have hP1 := hP.sub (ws' := [moC ad (M_30.1.1, M_30.1.2.1, M_30.1.2.2.1, M_30.1.2.2.2.1, M_30.1.2.2.2.2.1, M_30.1.2.2.2.2.2.1, x5, M_30.1.2.2.2.2.2.2.2.1, M_30.1.2.2.2.2.2.2.2.2.1, M_30.1.2.2.2.2.2.2.2.2.2.1, M_30.1.2.2.2.2.2.2.2.2.2.2.1, M_30.1.2.2.2.2.2.2.2.2.2.2.2)]) [0] rfl
        refine pCallVI ⟨hx, hb, hml, hown, hts⟩ (mtX5_cells l D cy z ad (M_30.1.1, M_30.1.2.1, M_30.1.2.2.1, M_30.1.2.2.2.1, M_30.1.2.2.2.2.1, M_30.1.2.2.2.2.2.1, x5, M_30.1.2.2.2.2.2.2.2.1, M_30.1.2.2.2.2.2.2.2.2.1, M_30.1.2.2.2.2.2.2.2.2.2.1, M_30.1.2.2.2.2.2.2.2.2.2.2.1, M_30.1.2.2.2.2.2.2.2.2.2.2.2) r8 hc7) miX5_cells q792 ⟨Nat.le_of_ble_eq_true rfl, Nat.le_of_ble_eq_true rfl⟩ ⟨rfl, rfl⟩ hP1 hKK hS hA0 (va_recv hKK.1 hP1 (ci := 5) (q0 := 0) rfl rfl) rfl hl.1 rfl (Nat.le_of_ble_eq_true rfl) dX5_drawn_68 ⟨Nat.zero_le _, Nat.zero_le _⟩ ?_
        obtain ⟨hg9, hf⟩ := gd_some hf
        refine lv_irem hx hb dX5_drawn_71 (nz_ne hg9) ?_
        refine lv_iload hx hb dX5_drawn_72 (lv_at hl 0 rfl) ?_
        refine lv_bipush (v := 64) hx hb dX5_drawn_74 (by decide) ?_
        refine lv_idiv hx hb dX5_drawn_76 (by decide) ?_
        refine lv_bipush (v := 10) hx hb dX5_drawn_77 (by decide) ?_
        refine lv_irem hx hb dX5_drawn_79 (by decide) ?_
        obtain ⟨hg10, hf⟩ := gd_some hf
        refine va_iast hx hb hKK.1 hP hD hS 3 0 rfl rfl (inb_in hg10) dX5_drawn_80 (fun H locs hP hD hS => ?_)
        have hP : va_P D vwCl (wM cy ad ((M_30.1.1, M_30.1.2.1, M_30.1.2.2.1, M_30.1.2.2.2.1, M_30.1.2.2.2.2.1, M_30.1.2.2.2.2.2.1, x5, M_30.1.2.2.2.2.2.2.2.1, M_30.1.2.2.2.2.2.2.2.2.1, M_30.1.2.2.2.2.2.2.2.2.2.1, M_30.1.2.2.2.2.2.2.2.2.2.2.1, M_30.1.2.2.2.2.2.2.2.2.2.2.2), M_30.2.1, M_30.2.2.1, (upd M_30.2.2.2.1 (x6 - x6 / r8 * r8).toNatClampNeg ((x6 / (64 : Int32)) - (x6 / (64 : Int32)) / (10 : Int32) * (10 : Int32))), M_30.2.2.2.2.1, M_30.2.2.2.2.2.1, M_30.2.2.2.2.2.2.1, M_30.2.2.2.2.2.2.2.1, M_30.2.2.2.2.2.2.2.2.1, M_30.2.2.2.2.2.2.2.2.2.1, M_30.2.2.2.2.2.2.2.2.2.2.1, M_30.2.2.2.2.2.2.2.2.2.2.2.1, M_30.2.2.2.2.2.2.2.2.2.2.2.2)) H := hP
        have hD : va_D (adr (wM cy ad M)) (wM cy ad ((M_30.1.1, M_30.1.2.1, M_30.1.2.2.1, M_30.1.2.2.2.1, M_30.1.2.2.2.2.1, M_30.1.2.2.2.2.2.1, x5, M_30.1.2.2.2.2.2.2.2.1, M_30.1.2.2.2.2.2.2.2.2.1, M_30.1.2.2.2.2.2.2.2.2.2.1, M_30.1.2.2.2.2.2.2.2.2.2.2.1, M_30.1.2.2.2.2.2.2.2.2.2.2.2), M_30.2.1, M_30.2.2.1, (upd M_30.2.2.2.1 (x6 - x6 / r8 * r8).toNatClampNeg ((x6 / (64 : Int32)) - (x6 / (64 : Int32)) / (10 : Int32) * (10 : Int32))), M_30.2.2.2.2.1, M_30.2.2.2.2.2.1, M_30.2.2.2.2.2.2.1, M_30.2.2.2.2.2.2.2.1, M_30.2.2.2.2.2.2.2.2.1, M_30.2.2.2.2.2.2.2.2.2.1, M_30.2.2.2.2.2.2.2.2.2.2.1, M_30.2.2.2.2.2.2.2.2.2.2.2.1, M_30.2.2.2.2.2.2.2.2.2.2.2.2)) := hD
        refine lv_iload_n hx hb dX5_drawn_81 rfl (lv_at hl 3 rfl) ?_
        refine lv_aload_n hx hb dX5_drawn_82 rfl (lv_at hl 1 rfl) ?_
        refine lv_aload_n hx hb dX5_drawn_83 rfl (lv_at hl 1 rfl) ?_
        refine va_get (D := D) (ci := 5) (v := .ref (ad 3)) (C := RX5) (T := TX5) (N := 24) hx hb hts inX5 hown hKK.1 hP 0 rfl rfl 5 (by decide) (hts _ q678) (fun _ h => h) rfl dX5_drawn_84 ?_
        obtain ⟨r12, hc11, hf⟩ := bd_some hf
        have hP1 := hP.sub (ws' := [moC ad (M_30.1.1, M_30.1.2.1, M_30.1.2.2.1, M_30.1.2.2.2.1, M_30.1.2.2.2.2.1, M_30.1.2.2.2.2.2.1, x5, M_30.1.2.2.2.2.2.2.2.1, M_30.1.2.2.2.2.2.2.2.2.1, M_30.1.2.2.2.2.2.2.2.2.2.1, M_30.1.2.2.2.2.2.2.2.2.2.2.1, M_30.1.2.2.2.2.2.2.2.2.2.2.2), arI cy (ad 3) 51 (upd M_30.2.2.2.1 (x6 - x6 / r8 * r8).toNatClampNeg ((x6 / (64 : Int32)) - (x6 / (64 : Int32)) / (10 : Int32) * (10 : Int32)))]) [0, 3] rfl
        refine pCallVI ⟨hx, hb, hml, hown, hts⟩ (mtX5_hidden l D cy z ad (ad 3) (M_30.1.1, M_30.1.2.1, M_30.1.2.2.1, M_30.1.2.2.2.1, M_30.1.2.2.2.2.1, M_30.1.2.2.2.2.2.1, x5, M_30.1.2.2.2.2.2.2.2.1, M_30.1.2.2.2.2.2.2.2.2.1, M_30.1.2.2.2.2.2.2.2.2.2.1, M_30.1.2.2.2.2.2.2.2.2.2.2.1, M_30.1.2.2.2.2.2.2.2.2.2.2.2) (upd M_30.2.2.2.1 (x6 - x6 / r8 * r8).toNatClampNeg ((x6 / (64 : Int32)) - (x6 / (64 : Int32)) / (10 : Int32) * (10 : Int32))) r12 hc11) miX5_hidden q800 ⟨Nat.le_of_ble_eq_true rfl, Nat.le_of_ble_eq_true rfl⟩ ⟨rfl, rfl⟩ hP1 hKK hS hA0 (va_recv hKK.1 hP1 (ci := 5) (q0 := 0) rfl rfl) rfl hl.1 rfl (Nat.le_of_ble_eq_true rfl) dX5_drawn_87 ⟨Nat.zero_le _, Nat.zero_le _⟩ ?_
        refine lv_iadd hx hb dX5_drawn_90 ?_
        refine nm_i hf (fun x13 hf => ?_)
        refine lv_istore_n (lv' := [(2, .int x13), (4, .int x6), (0, .ref (ad 0)), (1, .int g1_30), (3, .int v3_30)]) hx hb dX5_drawn_91 rfl hl (by decide) rfl (fun ls hl => ?_)
        obtain ⟨x14, ex14, hf⟩ := nm_ex hf
        refine lv_iinc (v := x14) (lv' := [(3, .int x14), (2, .int x13), (4, .int x6), (0, .ref (ad 0)), (1, .int g1_30)]) hx hb dX5_drawn_92 hl (k := 4) rfl (Eq.trans rfl ex14) (by decide) rfl (fun ls hl => ?_)
        refine lv_goto (tgt := 30) hx hb dX5_drawn_95 (by decide) ?_
        exact ih x13 x14 ((M_30.1.1, M_30.1.2.1, M_30.1.2.2.1, M_30.1.2.2.2.1, M_30.1.2.2.2.2.1, M_30.1.2.2.2.2.2.1, x5, M_30.1.2.2.2.2.2.2.2.1, M_30.1.2.2.2.2.2.2.2.2.1, M_30.1.2.2.2.2.2.2.2.2.2.1, M_30.1.2.2.2.2.2.2.2.2.2.2.1, M_30.1.2.2.2.2.2.2.2.2.2.2.2), M_30.2.1, M_30.2.2.1, (upd M_30.2.2.2.1 (x6 - x6 / r8 * r8).toNatClampNeg ((x6 / (64 : Int32)) - (x6 / (64 : Int32)) / (10 : Int32) * (10 : Int32))), M_30.2.2.2.2.1, M_30.2.2.2.2.2.1, M_30.2.2.2.2.2.2.1, M_30.2.2.2.2.2.2.2.1, M_30.2.2.2.2.2.2.2.2.1, M_30.2.2.2.2.2.2.2.2.2.1, M_30.2.2.2.2.2.2.2.2.2.2.1, M_30.2.2.2.2.2.2.2.2.2.2.2.1, M_30.2.2.2.2.2.2.2.2.2.2.2.2) _ _ ls hf hP hD hS (lv_sub hl [3, 4, 1, 0] rfl)
  unfold fX5_drawn at hf
  refine lv_iload_n hx hb dX5_drawn_0 rfl (lv_at hl 1 rfl) ?_
  refine lv_i2l hx hb dX5_drawn_1 rfl ?_
  refine lv_lconst (v := 1) hx hb dX5_drawn_2 (by decide) ?_
  refine lv_ldc2 hx hb hown (hts _ q1033) dX5_drawn_3 ?_
  obtain ⟨r2, hc1, hf⟩ := bd_some hf
  have hP1 := hP.sub (ws' := []) [] rfl
  refine pCallSI ⟨hx, hb, hml, hown, hts⟩ (mtX5_in l D cy z u1.toInt64 (1 : Int64) (20 : Int64) r2 hc1) miX5_in q751 ⟨Nat.le_of_ble_eq_true rfl, Nat.le_of_ble_eq_true rfl⟩ ⟨rfl, rfl⟩ hP1 hKK hS hA0 rfl hl.1 rfl (Nat.le_of_ble_eq_true rfl) dX5_drawn_6 ⟨Nat.zero_le _, Nat.zero_le _⟩ ?_
  refine lv_if_ne (tgt := 15) hx hb dX5_drawn_9 (by decide) (fun h => ?_) (fun h => ?_)
  · have hf := (if_neg h).symm.trans hf
    refine lv_aload_n hx hb dX5_drawn_15 rfl (lv_at hl 0 rfl) ?_
    refine va_get (D := D) (ci := 5) (v := .ref (ad 2)) (C := RX5) (T := TX5) (N := 24) hx hb hts inX5 hown hKK.1 hP 0 rfl rfl 4 (by decide) (hts _ q677) (fun _ h => h) rfl dX5_drawn_16 ?_
    refine lv_aload_n hx hb dX5_drawn_19 rfl (lv_at hl 0 rfl) ?_
    refine va_get (D := D) (ci := 5) (v := .ref (ad 3)) (C := RX5) (T := TX5) (N := 24) hx hb hts inX5 hown hKK.1 hP 0 rfl rfl 5 (by decide) (hts _ q678) (fun _ h => h) rfl dX5_drawn_20 ?_
    obtain ⟨y4, hc3, hf⟩ := bd_some hf
    have hP1 := hP.sub (ws' := [arI cy (ad 2) 51 M.2.2.1, arI cy (ad 3) 51 M.2.2.2.1]) [2, 3] rfl
    have hD1 := hD.sub (ws' := [arI cy (ad 2) 51 M.2.2.1, arI cy (ad 3) 51 M.2.2.2.1]) [2, 3] (by decide) rfl
    refine mCallSV ⟨hx, hb, hml, hown, hts⟩ (mtX5_copy l D cy z (ad 2) (ad 3) M.2.2.1 M.2.2.2.1 y4 hc3) miX5_copy q789 ⟨Nat.le_of_ble_eq_true rfl, Nat.le_of_ble_eq_true rfl⟩ ⟨rfl, rfl⟩ hP1 hD1 hKK hA0 rfl hl.1 rfl (Nat.le_of_ble_eq_true rfl) dX5_drawn_23 ⟨Nat.zero_le _, Nat.zero_le _⟩ hS hP hD [2, 3] rfl rfl (ws' := wM cy ad (M.1, M.2.1, M.2.2.1, y4, M.2.2.2.2.1, M.2.2.2.2.2.1, M.2.2.2.2.2.2.1, M.2.2.2.2.2.2.2.1, M.2.2.2.2.2.2.2.2.1, M.2.2.2.2.2.2.2.2.2.1, M.2.2.2.2.2.2.2.2.2.2.1, M.2.2.2.2.2.2.2.2.2.2.2.1, M.2.2.2.2.2.2.2.2.2.2.2.2)) rfl (fun H locs hP hD hS => ?_)
    refine lv_iconst (v := 0) hx hb dX5_drawn_26 (by decide) ?_
    refine lv_istore_n (lv' := [(2, .int (0 : Int32)), (0, .ref (ad 0)), (1, .int u1)]) hx hb dX5_drawn_27 rfl hl (by decide) rfl (fun ls hl => ?_)
    refine lv_iconst (v := 0) hx hb dX5_drawn_28 (by decide) ?_
    refine lv_istore_n (lv' := [(3, .int (0 : Int32)), (2, .int (0 : Int32)), (0, .ref (ad 0)), (1, .int u1)]) hx hb dX5_drawn_29 rfl hl (by decide) rfl (fun ls hl => ?_)
    refine w_30 u1 _ ?_ _ (0 : Int32) (0 : Int32) (M.1, M.2.1, M.2.2.1, y4, M.2.2.2.2.1, M.2.2.2.2.2.1, M.2.2.2.2.2.2.1, M.2.2.2.2.2.2.2.1, M.2.2.2.2.2.2.2.2.1, M.2.2.2.2.2.2.2.2.2.1, M.2.2.2.2.2.2.2.2.2.2.1, M.2.2.2.2.2.2.2.2.2.2.2.1, M.2.2.2.2.2.2.2.2.2.2.2.2) _ _ ls hf hP hD hS (lv_sub hl [2, 3, 1, 0] rfl)
    · intro y15 M16 H locs ls hf hP hD hS hl
      refine lv_iload_n hx hb dX5_drawn_98 rfl (lv_at hl 0 rfl) ?_
      cases hf
      exact mretI hx hb hr hlk hP hS dX5_drawn_99
  · have hf := (if_pos h).symm.trans hf
    refine lv_bipush (v := -2) hx hb dX5_drawn_12 (by decide) ?_
    cases hf
    exact mretI hx hb hr hlk hP hS dX5_drawn_14

abbrev rmX5_keep : Room := { frames := 1, cells := 0, slots := 0, locals := 25 }
theorem miX5_keep : miV yX5_keep cX5_keep 3 (some .int) 1 := ⟨q1039, q46, q1037, q1038, by decide +kernel⟩
set_option maxHeartbeats 4000000 in
set_option maxRecDepth 100000 in
theorem mtX5_keep (l : Launch) (D : va_G) (cy : Nat → ClassId) (z : zT) (ad : Nat → Nat) (M : tM) (u1 : Int32) (r0 : Int32) (M0 : tM) (hf : fX5_keep M u1 = some (r0, M0)) : mmet l yX5_keep cX5_keep 3 (some .int) rmX5_keep D cy z (wM cy ad M) (wM cy ad M0) [.ref (ad 0), .int u1] (some (.int r0)) := by
  refine mmet_of (by decide +kernel) (Nat.le_of_ble_eq_true rfl) (fun p e s m below meth c hx hb hr hml hown hts hlk hP hD hS hA0 hKK ls hl => ?_)
  have hown : s.vm.findClass "HillSightModel" = some m.cls := hown
  have hl : lv_has ls 3 [(0, .ref (ad 0)), (1, .int u1)] := hl
  have w_21 : ∀ (g1_21 : Int32) (k50 : tM → Option (Int32 × tM)) (hk50 : ∀ (M_21 : tM) (H : Heap) (locs : List Loc) (ls : Array Slot), k50 M_21 = some (r0, M0) → va_P D vwCl (wM cy ad M_21) H → va_D (adr (wM cy ad M)) (wM cy ad M_21) → va_S (adr (wM cy ad M)) s.heap H locs → lv_has ls 3 [(0, .ref (ad 0))] → W p l e rmX5_keep s m ([.ref (ad 0), .int u1] : List Value).toArray below meth c H locs 0 0 (MQ below (mQ D (wM cy ad M) (wM cy ad M0) (some (.int r0))) ([.ref (ad 0), .int u1] : List Value).toArray s 0 0 (adr (wM cy ad M))) (F0 m 50 ls [])) (n : Nat) (v2_21 : Int32) (M_21 : tM) (H : Heap) (locs : List Loc) (ls : Array Slot), fX5_keep_21 g1_21 k50 n v2_21 M_21 = some (r0, M0) → va_P D vwCl (wM cy ad M_21) H → va_D (adr (wM cy ad M)) (wM cy ad M_21) → va_S (adr (wM cy ad M)) s.heap H locs → lv_has ls 3 [(0, .ref (ad 0)), (1, .int g1_21), (2, .int v2_21)] → W p l e rmX5_keep s m ([.ref (ad 0), .int u1] : List Value).toArray below meth c H locs 0 0 (MQ below (mQ D (wM cy ad M) (wM cy ad M0) (some (.int r0))) ([.ref (ad 0), .int u1] : List Value).toArray s 0 0 (adr (wM cy ad M))) (F0 m 21 ls []) := by
    intro g1_21 k50 hk50 n
    induction n with
    | zero =>
      intro v2_21 M_21 H locs ls hf hP hD hS hl
      cases (show (none : Option (Int32 × tM)) = some (r0, M0) from hf)
    | succ n ih =>
      intro v2_21 M_21 H locs ls hf hP hD hS hl
      rw [fX5_keep_21] at hf
      refine lv_iload_n hx hb dX5_keep_21 rfl (lv_at hl 2 rfl) ?_
      refine lv_bipush (v := 51) hx hb dX5_keep_22 (by decide) ?_
      refine lv_icmp_ge (tgt := 50) hx hb dX5_keep_24 (by decide) (fun h => ?_) (fun h => ?_)
      · have hf := (if_pos h).symm.trans hf
        exact hk50 M_21 _ _ ls hf hP hD hS (lv_sub hl [0] rfl)
      · have hf := (if_neg h).symm.trans hf
        refine lv_aload_n hx hb dX5_keep_27 rfl (lv_at hl 0 rfl) ?_
        refine va_get (D := D) (ci := 5) (v := .ref (ad 5)) (C := RX5) (T := TX5) (N := 24) hx hb hts inX5 hown hKK.1 hP 0 rfl rfl 9 (by decide) (hts _ q682) (fun _ h => h) rfl dX5_keep_28 ?_
        refine lv_bipush (v := 51) hx hb dX5_keep_31 (by decide) ?_
        refine lv_iload_n hx hb dX5_keep_33 rfl (lv_at hl 1 rfl) ?_
        refine lv_imul hx hb dX5_keep_34 ?_
        refine lv_iload_n hx hb dX5_keep_35 rfl (lv_at hl 2 rfl) ?_
        refine lv_iadd hx hb dX5_keep_36 ?_
        refine lv_aload_n hx hb dX5_keep_37 rfl (lv_at hl 0 rfl) ?_
        refine va_get (D := D) (ci := 5) (v := .ref (ad 2)) (C := RX5) (T := TX5) (N := 24) hx hb hts inX5 hown hKK.1 hP 0 rfl rfl 4 (by decide) (hts _ q677) (fun _ h => h) rfl dX5_keep_38 ?_
        refine lv_iload_n hx hb dX5_keep_41 rfl (lv_at hl 2 rfl) ?_
        obtain ⟨hg4, hf⟩ := gd_some hf
        refine va_iald hx hb hKK.1 hP 2 0 rfl rfl (inb_in hg4) dX5_keep_42 ?_
        obtain ⟨hg5, hf⟩ := gd_some hf
        refine va_iast hx hb hKK.1 hP hD hS 5 0 rfl rfl (inb_in hg5) dX5_keep_43 (fun H locs hP hD hS => ?_)
        have hP : va_P D vwCl (wM cy ad (M_21.1, M_21.2.1, M_21.2.2.1, M_21.2.2.2.1, M_21.2.2.2.2.1, (upd M_21.2.2.2.2.2.1 (((51 : Int32) * g1_21) + v2_21).toNatClampNeg (M_21.2.2.1 v2_21.toNatClampNeg)), M_21.2.2.2.2.2.2.1, M_21.2.2.2.2.2.2.2.1, M_21.2.2.2.2.2.2.2.2.1, M_21.2.2.2.2.2.2.2.2.2.1, M_21.2.2.2.2.2.2.2.2.2.2.1, M_21.2.2.2.2.2.2.2.2.2.2.2.1, M_21.2.2.2.2.2.2.2.2.2.2.2.2)) H := hP
        have hD : va_D (adr (wM cy ad M)) (wM cy ad (M_21.1, M_21.2.1, M_21.2.2.1, M_21.2.2.2.1, M_21.2.2.2.2.1, (upd M_21.2.2.2.2.2.1 (((51 : Int32) * g1_21) + v2_21).toNatClampNeg (M_21.2.2.1 v2_21.toNatClampNeg)), M_21.2.2.2.2.2.2.1, M_21.2.2.2.2.2.2.2.1, M_21.2.2.2.2.2.2.2.2.1, M_21.2.2.2.2.2.2.2.2.2.1, M_21.2.2.2.2.2.2.2.2.2.2.1, M_21.2.2.2.2.2.2.2.2.2.2.2.1, M_21.2.2.2.2.2.2.2.2.2.2.2.2)) := hD
        obtain ⟨x6, ex6, hf⟩ := nm_ex hf
        refine lv_iinc (v := x6) (lv' := [(2, .int x6), (0, .ref (ad 0)), (1, .int g1_21)]) hx hb dX5_keep_44 hl (k := 2) rfl (Eq.trans rfl ex6) (by decide) rfl (fun ls hl => ?_)
        refine lv_goto (tgt := 21) hx hb dX5_keep_47 (by decide) ?_
        exact ih x6 (M_21.1, M_21.2.1, M_21.2.2.1, M_21.2.2.2.1, M_21.2.2.2.2.1, (upd M_21.2.2.2.2.2.1 (((51 : Int32) * g1_21) + v2_21).toNatClampNeg (M_21.2.2.1 v2_21.toNatClampNeg)), M_21.2.2.2.2.2.2.1, M_21.2.2.2.2.2.2.2.1, M_21.2.2.2.2.2.2.2.2.1, M_21.2.2.2.2.2.2.2.2.2.1, M_21.2.2.2.2.2.2.2.2.2.2.1, M_21.2.2.2.2.2.2.2.2.2.2.2.1, M_21.2.2.2.2.2.2.2.2.2.2.2.2) _ _ ls hf hP hD hS (lv_sub hl [1, 2, 0] rfl)
  unfold fX5_keep at hf
  refine lv_iload_n hx hb dX5_keep_0 rfl (lv_at hl 1 rfl) ?_
  refine lv_i2l hx hb dX5_keep_1 rfl ?_
  refine lv_lconst (v := 0) hx hb dX5_keep_2 (by decide) ?_
  refine lv_lconst (v := 1) hx hb dX5_keep_3 (by decide) ?_
  obtain ⟨r2, hc1, hf⟩ := bd_some hf
  have hP1 := hP.sub (ws' := []) [] rfl
  refine pCallSI ⟨hx, hb, hml, hown, hts⟩ (mtX5_in l D cy z u1.toInt64 (0 : Int64) (1 : Int64) r2 hc1) miX5_in q751 ⟨Nat.le_of_ble_eq_true rfl, Nat.le_of_ble_eq_true rfl⟩ ⟨rfl, rfl⟩ hP1 hKK hS hA0 rfl hl.1 rfl (Nat.le_of_ble_eq_true rfl) dX5_keep_4 ⟨Nat.zero_le _, Nat.zero_le _⟩ ?_
  refine lv_if_ne (tgt := 12) hx hb dX5_keep_7 (by decide) (fun h => ?_) (fun h => ?_)
  · have hf := (if_neg h).symm.trans hf
    refine lv_aload_n hx hb dX5_keep_12 rfl (lv_at hl 0 rfl) ?_
    refine va_get (D := D) (ci := 5) (v := .ref (ad 6)) (C := RX5) (T := TX5) (N := 24) hx hb hts inX5 hown hKK.1 hP 0 rfl rfl 10 (by decide) (hts _ q683) (fun _ h => h) rfl dX5_keep_13 ?_
    refine lv_iload_n hx hb dX5_keep_16 rfl (lv_at hl 1 rfl) ?_
    refine lv_iconst (v := 1) hx hb dX5_keep_17 (by decide) ?_
    obtain ⟨hg3, hf⟩ := gd_some hf
    refine va_zast hx hb hKK.1 hP hD hS 6 3 rfl rfl (inb_in hg3) dX5_keep_18 (fun H locs hP hD hS => ?_)
    have hP : va_P D vwCl (wM cy ad (M.1, M.2.1, M.2.2.1, M.2.2.2.1, M.2.2.2.2.1, M.2.2.2.2.2.1, (upd M.2.2.2.2.2.2.1 u1.toNatClampNeg (vp_nar .boolean (1 : Int32))), M.2.2.2.2.2.2.2.1, M.2.2.2.2.2.2.2.2.1, M.2.2.2.2.2.2.2.2.2.1, M.2.2.2.2.2.2.2.2.2.2.1, M.2.2.2.2.2.2.2.2.2.2.2.1, M.2.2.2.2.2.2.2.2.2.2.2.2)) H := hP
    have hD : va_D (adr (wM cy ad M)) (wM cy ad (M.1, M.2.1, M.2.2.1, M.2.2.2.1, M.2.2.2.2.1, M.2.2.2.2.2.1, (upd M.2.2.2.2.2.2.1 u1.toNatClampNeg (vp_nar .boolean (1 : Int32))), M.2.2.2.2.2.2.2.1, M.2.2.2.2.2.2.2.2.1, M.2.2.2.2.2.2.2.2.2.1, M.2.2.2.2.2.2.2.2.2.2.1, M.2.2.2.2.2.2.2.2.2.2.2.1, M.2.2.2.2.2.2.2.2.2.2.2.2)) := hD
    refine lv_iconst (v := 0) hx hb dX5_keep_19 (by decide) ?_
    refine lv_istore_n (lv' := [(2, .int (0 : Int32)), (0, .ref (ad 0)), (1, .int u1)]) hx hb dX5_keep_20 rfl hl (by decide) rfl (fun ls hl => ?_)
    refine w_21 u1 _ ?_ _ (0 : Int32) (M.1, M.2.1, M.2.2.1, M.2.2.2.1, M.2.2.2.2.1, M.2.2.2.2.2.1, (upd M.2.2.2.2.2.2.1 u1.toNatClampNeg (vp_nar .boolean (1 : Int32))), M.2.2.2.2.2.2.2.1, M.2.2.2.2.2.2.2.2.1, M.2.2.2.2.2.2.2.2.2.1, M.2.2.2.2.2.2.2.2.2.2.1, M.2.2.2.2.2.2.2.2.2.2.2.1, M.2.2.2.2.2.2.2.2.2.2.2.2) _ _ ls hf hP hD hS (lv_sub hl [1, 2, 0] rfl)
    · intro M7 H locs ls hf hP hD hS hl
      refine lv_aload_n hx hb dX5_keep_50 rfl (lv_at hl 0 rfl) ?_
      refine va_get (D := D) (ci := 5) (v := .ref (ad 2)) (C := RX5) (T := TX5) (N := 24) hx hb hts inX5 hown hKK.1 hP 0 rfl rfl 4 (by decide) (hts _ q677) (fun _ h => h) rfl dX5_keep_51 ?_
      refine lv_bipush (v := 36) hx hb dX5_keep_54 (by decide) ?_
      refine va_iald hx hb hKK.1 hP 2 0 rfl rfl (inb_in (by decide)) dX5_keep_56 ?_
      cases hf
      exact mretI hx hb hr hlk hP hS dX5_keep_57
  · have hf := (if_pos h).symm.trans hf
    refine lv_iconst (v := -1) hx hb dX5_keep_10 (by decide) ?_
    cases hf
    exact mretI hx hb hr hlk hP hS dX5_keep_11

abbrev rmX5_again : Room := { frames := 1, cells := 0, slots := 0, locals := 25 }
theorem miX5_again : miV yX5_again cX5_again 3 (some .int) 1 := ⟨q1043, q46, q1041, q1042, by decide +kernel⟩
set_option maxHeartbeats 4000000 in
set_option maxRecDepth 100000 in
theorem mtX5_again (l : Launch) (D : va_G) (cy : Nat → ClassId) (z : zT) (ad : Nat → Nat) (M : tM) (u1 : Int32) (r0 : Int32) (M0 : tM) (hf : fX5_again M u1 = some (r0, M0)) : mmet l yX5_again cX5_again 3 (some .int) rmX5_again D cy z (wM cy ad M) (wM cy ad M0) [.ref (ad 0), .int u1] (some (.int r0)) := by
  refine mmet_of (by decide +kernel) (Nat.le_of_ble_eq_true rfl) (fun p e s m below meth c hx hb hr hml hown hts hlk hP hD hS hA0 hKK ls hl => ?_)
  have hown : s.vm.findClass "HillSightModel" = some m.cls := hown
  have hl : lv_has ls 3 [(0, .ref (ad 0)), (1, .int u1)] := hl
  have w_26 : ∀ (g1_26 : Int32) (k55 : tM → Option (Int32 × tM)) (hk55 : ∀ (M_26 : tM) (H : Heap) (locs : List Loc) (ls : Array Slot), k55 M_26 = some (r0, M0) → va_P D vwCl (wM cy ad M_26) H → va_D (adr (wM cy ad M)) (wM cy ad M_26) → va_S (adr (wM cy ad M)) s.heap H locs → lv_has ls 3 [(0, .ref (ad 0))] → W p l e rmX5_again s m ([.ref (ad 0), .int u1] : List Value).toArray below meth c H locs 0 0 (MQ below (mQ D (wM cy ad M) (wM cy ad M0) (some (.int r0))) ([.ref (ad 0), .int u1] : List Value).toArray s 0 0 (adr (wM cy ad M))) (F0 m 55 ls [])) (n : Nat) (v2_26 : Int32) (M_26 : tM) (H : Heap) (locs : List Loc) (ls : Array Slot), fX5_again_26 g1_26 k55 n v2_26 M_26 = some (r0, M0) → va_P D vwCl (wM cy ad M_26) H → va_D (adr (wM cy ad M)) (wM cy ad M_26) → va_S (adr (wM cy ad M)) s.heap H locs → lv_has ls 3 [(0, .ref (ad 0)), (1, .int g1_26), (2, .int v2_26)] → W p l e rmX5_again s m ([.ref (ad 0), .int u1] : List Value).toArray below meth c H locs 0 0 (MQ below (mQ D (wM cy ad M) (wM cy ad M0) (some (.int r0))) ([.ref (ad 0), .int u1] : List Value).toArray s 0 0 (adr (wM cy ad M))) (F0 m 26 ls []) := by
    intro g1_26 k55 hk55 n
    induction n with
    | zero =>
      intro v2_26 M_26 H locs ls hf hP hD hS hl
      cases (show (none : Option (Int32 × tM)) = some (r0, M0) from hf)
    | succ n ih =>
      intro v2_26 M_26 H locs ls hf hP hD hS hl
      rw [fX5_again_26] at hf
      refine lv_iload_n hx hb dX5_again_26 rfl (lv_at hl 2 rfl) ?_
      refine lv_bipush (v := 51) hx hb dX5_again_27 (by decide) ?_
      refine lv_icmp_ge (tgt := 55) hx hb dX5_again_29 (by decide) (fun h => ?_) (fun h => ?_)
      · have hf := (if_pos h).symm.trans hf
        exact hk55 M_26 _ _ ls hf hP hD hS (lv_sub hl [0] rfl)
      · have hf := (if_neg h).symm.trans hf
        refine lv_aload_n hx hb dX5_again_32 rfl (lv_at hl 0 rfl) ?_
        refine va_get (D := D) (ci := 5) (v := .ref (ad 2)) (C := RX5) (T := TX5) (N := 24) hx hb hts inX5 hown hKK.1 hP 0 rfl rfl 4 (by decide) (hts _ q677) (fun _ h => h) rfl dX5_again_33 ?_
        refine lv_iload_n hx hb dX5_again_36 rfl (lv_at hl 2 rfl) ?_
        refine lv_aload_n hx hb dX5_again_37 rfl (lv_at hl 0 rfl) ?_
        refine va_get (D := D) (ci := 5) (v := .ref (ad 5)) (C := RX5) (T := TX5) (N := 24) hx hb hts inX5 hown hKK.1 hP 0 rfl rfl 9 (by decide) (hts _ q682) (fun _ h => h) rfl dX5_again_38 ?_
        refine lv_bipush (v := 51) hx hb dX5_again_41 (by decide) ?_
        refine lv_iload_n hx hb dX5_again_43 rfl (lv_at hl 1 rfl) ?_
        refine lv_imul hx hb dX5_again_44 ?_
        refine lv_iload_n hx hb dX5_again_45 rfl (lv_at hl 2 rfl) ?_
        refine lv_iadd hx hb dX5_again_46 ?_
        obtain ⟨hg4, hf⟩ := gd_some hf
        refine va_iald hx hb hKK.1 hP 5 0 rfl rfl (inb_in hg4) dX5_again_47 ?_
        obtain ⟨hg5, hf⟩ := gd_some hf
        refine va_iast hx hb hKK.1 hP hD hS 2 0 rfl rfl (inb_in hg5) dX5_again_48 (fun H locs hP hD hS => ?_)
        have hP : va_P D vwCl (wM cy ad (M_26.1, M_26.2.1, (upd M_26.2.2.1 v2_26.toNatClampNeg (M_26.2.2.2.2.2.1 (((51 : Int32) * g1_26) + v2_26).toNatClampNeg)), M_26.2.2.2.1, M_26.2.2.2.2.1, M_26.2.2.2.2.2.1, M_26.2.2.2.2.2.2.1, M_26.2.2.2.2.2.2.2.1, M_26.2.2.2.2.2.2.2.2.1, M_26.2.2.2.2.2.2.2.2.2.1, M_26.2.2.2.2.2.2.2.2.2.2.1, M_26.2.2.2.2.2.2.2.2.2.2.2.1, M_26.2.2.2.2.2.2.2.2.2.2.2.2)) H := hP
        have hD : va_D (adr (wM cy ad M)) (wM cy ad (M_26.1, M_26.2.1, (upd M_26.2.2.1 v2_26.toNatClampNeg (M_26.2.2.2.2.2.1 (((51 : Int32) * g1_26) + v2_26).toNatClampNeg)), M_26.2.2.2.1, M_26.2.2.2.2.1, M_26.2.2.2.2.2.1, M_26.2.2.2.2.2.2.1, M_26.2.2.2.2.2.2.2.1, M_26.2.2.2.2.2.2.2.2.1, M_26.2.2.2.2.2.2.2.2.2.1, M_26.2.2.2.2.2.2.2.2.2.2.1, M_26.2.2.2.2.2.2.2.2.2.2.2.1, M_26.2.2.2.2.2.2.2.2.2.2.2.2)) := hD
        obtain ⟨x6, ex6, hf⟩ := nm_ex hf
        refine lv_iinc (v := x6) (lv' := [(2, .int x6), (0, .ref (ad 0)), (1, .int g1_26)]) hx hb dX5_again_49 hl (k := 2) rfl (Eq.trans rfl ex6) (by decide) rfl (fun ls hl => ?_)
        refine lv_goto (tgt := 26) hx hb dX5_again_52 (by decide) ?_
        exact ih x6 (M_26.1, M_26.2.1, (upd M_26.2.2.1 v2_26.toNatClampNeg (M_26.2.2.2.2.2.1 (((51 : Int32) * g1_26) + v2_26).toNatClampNeg)), M_26.2.2.2.1, M_26.2.2.2.2.1, M_26.2.2.2.2.2.1, M_26.2.2.2.2.2.2.1, M_26.2.2.2.2.2.2.2.1, M_26.2.2.2.2.2.2.2.2.1, M_26.2.2.2.2.2.2.2.2.2.1, M_26.2.2.2.2.2.2.2.2.2.2.1, M_26.2.2.2.2.2.2.2.2.2.2.2.1, M_26.2.2.2.2.2.2.2.2.2.2.2.2) _ _ ls hf hP hD hS (lv_sub hl [1, 2, 0] rfl)
  unfold fX5_again at hf
  refine lv_iload_n hx hb dX5_again_0 rfl (lv_at hl 1 rfl) ?_
  refine lv_i2l hx hb dX5_again_1 rfl ?_
  refine lv_lconst (v := 0) hx hb dX5_again_2 (by decide) ?_
  refine lv_lconst (v := 1) hx hb dX5_again_3 (by decide) ?_
  obtain ⟨r2, hc1, hf⟩ := bd_some hf
  have hP1 := hP.sub (ws' := []) [] rfl
  refine pCallSI ⟨hx, hb, hml, hown, hts⟩ (mtX5_in l D cy z u1.toInt64 (0 : Int64) (1 : Int64) r2 hc1) miX5_in q751 ⟨Nat.le_of_ble_eq_true rfl, Nat.le_of_ble_eq_true rfl⟩ ⟨rfl, rfl⟩ hP1 hKK hS hA0 rfl hl.1 rfl (Nat.le_of_ble_eq_true rfl) dX5_again_4 ⟨Nat.zero_le _, Nat.zero_le _⟩ ?_
  refine lv_if_ne (tgt := 12) hx hb dX5_again_7 (by decide) (fun h => ?_) (fun h => ?_)
  · have hf := (if_neg h).symm.trans hf
    refine lv_aload_n hx hb dX5_again_12 rfl (lv_at hl 0 rfl) ?_
    refine va_get (D := D) (ci := 5) (v := .ref (ad 6)) (C := RX5) (T := TX5) (N := 24) hx hb hts inX5 hown hKK.1 hP 0 rfl rfl 10 (by decide) (hts _ q683) (fun _ h => h) rfl dX5_again_13 ?_
    refine lv_iload_n hx hb dX5_again_16 rfl (lv_at hl 1 rfl) ?_
    obtain ⟨hg3, hf⟩ := gd_some hf
    refine va_zald hx hb hKK.1 hP 6 3 rfl rfl (inb_in hg3) dX5_again_17 ?_
    refine lv_if_ne (tgt := 24) hx hb dX5_again_18 (by decide) (fun h => ?_) (fun h => ?_)
    · have hf := (if_neg h).symm.trans hf
      refine lv_iconst (v := 0) hx hb dX5_again_24 (by decide) ?_
      refine lv_istore_n (lv' := [(2, .int (0 : Int32)), (0, .ref (ad 0)), (1, .int u1)]) hx hb dX5_again_25 rfl hl (by decide) rfl (fun ls hl => ?_)
      refine w_26 u1 _ ?_ _ (0 : Int32) M _ _ ls hf hP hD hS (lv_sub hl [1, 2, 0] rfl)
      · intro M7 H locs ls hf hP hD hS hl
        refine lv_aload_n hx hb dX5_again_55 rfl (lv_at hl 0 rfl) ?_
        refine lv_iconst (v := 0) hx hb dX5_again_56 (by decide) ?_
        refine va_put (D := D) (ci := 5) (v := .int (0 : Int32)) (ty := .int) (C := RX5) (T := TX5) (N := 24) hx hb hts inX5 tyX5 tyX5_ok nmX5 hown hKK.1 hP hD hS 0 rfl rfl 7 (by decide) (hts _ q680) (fun _ h => h) rfl (by decide +kernel) rfl rfl (Nat.le_of_ble_eq_true rfl) dX5_again_57 (fun H locs hP hD hS => ?_)
        have hP : va_P D vwCl (wM cy ad ((M7.1.1, M7.1.2.1, M7.1.2.2.1, (0 : Int32), M7.1.2.2.2.2.1, M7.1.2.2.2.2.2.1, M7.1.2.2.2.2.2.2.1, M7.1.2.2.2.2.2.2.2.1, M7.1.2.2.2.2.2.2.2.2.1, M7.1.2.2.2.2.2.2.2.2.2.1, M7.1.2.2.2.2.2.2.2.2.2.2.1, M7.1.2.2.2.2.2.2.2.2.2.2.2), M7.2.1, M7.2.2.1, M7.2.2.2.1, M7.2.2.2.2.1, M7.2.2.2.2.2.1, M7.2.2.2.2.2.2.1, M7.2.2.2.2.2.2.2.1, M7.2.2.2.2.2.2.2.2.1, M7.2.2.2.2.2.2.2.2.2.1, M7.2.2.2.2.2.2.2.2.2.2.1, M7.2.2.2.2.2.2.2.2.2.2.2.1, M7.2.2.2.2.2.2.2.2.2.2.2.2)) H := hP
        have hD : va_D (adr (wM cy ad M)) (wM cy ad ((M7.1.1, M7.1.2.1, M7.1.2.2.1, (0 : Int32), M7.1.2.2.2.2.1, M7.1.2.2.2.2.2.1, M7.1.2.2.2.2.2.2.1, M7.1.2.2.2.2.2.2.2.1, M7.1.2.2.2.2.2.2.2.2.1, M7.1.2.2.2.2.2.2.2.2.2.1, M7.1.2.2.2.2.2.2.2.2.2.2.1, M7.1.2.2.2.2.2.2.2.2.2.2.2), M7.2.1, M7.2.2.1, M7.2.2.2.1, M7.2.2.2.2.1, M7.2.2.2.2.2.1, M7.2.2.2.2.2.2.1, M7.2.2.2.2.2.2.2.1, M7.2.2.2.2.2.2.2.2.1, M7.2.2.2.2.2.2.2.2.2.1, M7.2.2.2.2.2.2.2.2.2.2.1, M7.2.2.2.2.2.2.2.2.2.2.2.1, M7.2.2.2.2.2.2.2.2.2.2.2.2)) := hD
        refine lv_aload_n hx hb dX5_again_60 rfl (lv_at hl 0 rfl) ?_
        refine va_get (D := D) (ci := 5) (v := .ref (ad 2)) (C := RX5) (T := TX5) (N := 24) hx hb hts inX5 hown hKK.1 hP 0 rfl rfl 4 (by decide) (hts _ q677) (fun _ h => h) rfl dX5_again_61 ?_
        refine lv_bipush (v := 36) hx hb dX5_again_64 (by decide) ?_
        refine va_iald hx hb hKK.1 hP 2 0 rfl rfl (inb_in (by decide)) dX5_again_66 ?_
        cases hf
        exact mretI hx hb hr hlk hP hS dX5_again_67
    · have hf := (if_pos h).symm.trans hf
      refine lv_bipush (v := -3) hx hb dX5_again_21 (by decide) ?_
      cases hf
      exact mretI hx hb hr hlk hP hS dX5_again_23
  · have hf := (if_pos h).symm.trans hf
    refine lv_iconst (v := -1) hx hb dX5_again_10 (by decide) ?_
    cases hf
    exact mretI hx hb hr hlk hP hS dX5_again_11
