abbrev rmJ0_coder_7d493 : Room := { frames := 0, cells := 0, slots := 0, locals := 0 }
theorem miJ0_coder_7d493 : miV yJ0_coder_7d493 cJ0_coder_7d493 1 (some .byte) 0 := ⟨q288, q48, q286, q287, by decide +kernel⟩
set_option maxHeartbeats 4000000 in
set_option maxRecDepth 100000 in
theorem mtJ0_coder_7d493 (l : Launch) (D : va_G) (cy : Nat → ClassId) (z : zT)  (r0 : Int32) (hf : fJ0_coder_7d493 = some r0) : pmet l yJ0_coder_7d493 cJ0_coder_7d493 1 (some .byte) rmJ0_coder_7d493 D cy z ([]) [.ref (z.2.2.2.1 0)] (some (.int r0)) := by
  refine pmet_of (by decide +kernel) (Nat.le_of_ble_eq_true rfl) (fun p e s m below meth c hx hb hr hml hown hts hlk hP hKK ls hl => ?_)
  have hS : va_S noF s.heap s.heap [] := va_S.rf
  have hA0 : ∀ q, noF q → zA z q := fun _ h => h.elim
  have hown : s.vm.findClass "java/lang/String" = some m.cls := hown
  have hl : lv_has ls 1 [(0, .ref (z.2.2.2.1 0))] := hl
  unfold fJ0_coder_7d493 at hf
  refine va_gets hx hb hKK.2.2.2.2.2.2.1 (hS.wid hA0) hown (hts _ q279) (fun _ h => h) dJ0_coder_7d493_0 ?_
  refine lv_if_eq (tgt := 13) hx hb dJ0_coder_7d493_3 (by decide) (fun h => absurd h (by decide)) (fun _ => ?_)
  refine lv_aload_n hx hb dJ0_coder_7d493_6 rfl (lv_at hl 0 rfl) ?_
  refine vk_getf hx hb (hKK.2.2.2.2.2.2.2.1.1 0 (by decide)).2.1 (hS.wid hA0) hown (hts _ q1045) (fun _ h => h) dJ0_coder_7d493_7 ?_
  refine lv_goto (tgt := 14) hx hb dJ0_coder_7d493_10 (by decide) ?_
  exact pretB hx hb hr hlk rfl hf dJ0_coder_7d493_14

abbrev rmJ0_isLatin1_aae02 : Room := { frames := 0, cells := 0, slots := 0, locals := 0 }
theorem miJ0_isLatin1_aae02 : miV yJ0_isLatin1_aae02 cJ0_isLatin1_aae02 1 (some .boolean) 0 := ⟨q278, q48, q276, q277, by decide +kernel⟩
set_option maxHeartbeats 4000000 in
set_option maxRecDepth 100000 in
theorem mtJ0_isLatin1_aae02 (l : Launch) (D : va_G) (cy : Nat → ClassId) (z : zT)  (r0 : Int32) (hf : fJ0_isLatin1_aae02 = some r0) : pmet l yJ0_isLatin1_aae02 cJ0_isLatin1_aae02 1 (some .boolean) rmJ0_isLatin1_aae02 D cy z ([]) [.ref (z.2.2.2.1 0)] (some (.int r0)) := by
  refine pmet_of (by decide +kernel) (Nat.le_of_ble_eq_true rfl) (fun p e s m below meth c hx hb hr hml hown hts hlk hP hKK ls hl => ?_)
  have hS : va_S noF s.heap s.heap [] := va_S.rf
  have hA0 : ∀ q, noF q → zA z q := fun _ h => h.elim
  have hown : s.vm.findClass "java/lang/String" = some m.cls := hown
  have hl : lv_has ls 1 [(0, .ref (z.2.2.2.1 0))] := hl
  unfold fJ0_isLatin1_aae02 at hf
  refine va_gets hx hb hKK.2.2.2.2.2.2.1 (hS.wid hA0) hown (hts _ q279) (fun _ h => h) dJ0_isLatin1_aae02_0 ?_
  refine lv_if_eq (tgt := 17) hx hb dJ0_isLatin1_aae02_3 (by decide) (fun h => absurd h (by decide)) (fun _ => ?_)
  refine lv_aload_n hx hb dJ0_isLatin1_aae02_6 rfl (lv_at hl 0 rfl) ?_
  refine vk_getf hx hb (hKK.2.2.2.2.2.2.2.1.1 0 (by decide)).2.1 (hS.wid hA0) hown (hts _ q1045) (fun _ h => h) dJ0_isLatin1_aae02_7 ?_
  refine lv_if_ne (tgt := 17) hx hb dJ0_isLatin1_aae02_10 (by decide) (fun h => absurd h (by decide)) (fun _ => ?_)
  refine lv_iconst (v := 1) hx hb dJ0_isLatin1_aae02_13 (by decide) ?_
  refine lv_goto (tgt := 18) hx hb dJ0_isLatin1_aae02_14 (by decide) ?_
  exact pretZ hx hb hr hlk (by decide) hf dJ0_isLatin1_aae02_18

abbrev rmJ0_length_8abf5 : Room := { frames := 1, cells := 0, slots := 0, locals := 20 }
theorem miJ0_length_8abf5 : miV yJ0_length_8abf5 cJ0_length_8abf5 1 (some .int) 0 := ⟨q284, q48, q282, q283, by decide +kernel⟩
set_option maxHeartbeats 4000000 in
set_option maxRecDepth 100000 in
theorem mtJ0_length_8abf5 (l : Launch) (D : va_G) (cy : Nat → ClassId) (z : zT)  (r0 : Int32) (hf : fJ0_length_8abf5 = some r0) : pmet l yJ0_length_8abf5 cJ0_length_8abf5 1 (some .int) rmJ0_length_8abf5 D cy z ([]) [.ref (z.2.2.2.1 0)] (some (.int r0)) := by
  refine pmet_of (by decide +kernel) (Nat.le_of_ble_eq_true rfl) (fun p e s m below meth c hx hb hr hml hown hts hlk hP hKK ls hl => ?_)
  have hS : va_S noF s.heap s.heap [] := va_S.rf
  have hA0 : ∀ q, noF q → zA z q := fun _ h => h.elim
  have hown : s.vm.findClass "java/lang/String" = some m.cls := hown
  have hl : lv_has ls 1 [(0, .ref (z.2.2.2.1 0))] := hl
  unfold fJ0_length_8abf5 at hf
  refine lv_aload_n hx hb dJ0_length_8abf5_0 rfl (lv_at hl 0 rfl) ?_
  refine vk_getf hx hb (hKK.2.2.2.2.2.2.2.1.1 0 (by decide)).2.2.1 (hS.wid hA0) hown (hts _ q1046) (fun _ h => h) dJ0_length_8abf5_1 ?_
  refine va_tlen hx hb (hKK.2.2.2.2.2.2.2.1.1 0 (by decide)).2.2.2 (hS.wid hA0) (v := 4) (by decide) dJ0_length_8abf5_4 ?_
  refine lv_aload_n hx hb dJ0_length_8abf5_5 rfl (lv_at hl 0 rfl) ?_
  obtain ⟨r2, hc1, hf⟩ := bd_some hf
  refine pCallVI ⟨hx, hb, hml, hown, hts⟩ (mtJ0_coder_7d493 l D cy z  r2 hc1) miJ0_coder_7d493 q285 ⟨Nat.le_of_ble_eq_true rfl, Nat.le_of_ble_eq_true rfl⟩ ⟨rfl, rfl⟩ hP hKK hS hA0 (vk_recv (i := 0) hKK.2.2.2.2.2.2.2.1 (by decide) (hS.wid hA0)) rfl hl.1 rfl (Nat.le_of_ble_eq_true rfl) dJ0_length_8abf5_6 ⟨Nat.zero_le _, Nat.zero_le _⟩ ?_
  refine lv_ishr hx hb dJ0_length_8abf5_9 ?_
  exact pretI hx hb hr hlk hf dJ0_length_8abf5_10

abbrev rmJ1_canEncode_9a6ad : Room := { frames := 0, cells := 0, slots := 0, locals := 0 }
theorem miJ1_canEncode_9a6ad : miS yJ1_canEncode_9a6ad cJ1_canEncode_9a6ad 1 (some .boolean) 1 := ⟨q294, q49, q293, by decide +kernel⟩
set_option maxHeartbeats 4000000 in
set_option maxRecDepth 100000 in
theorem mtJ1_canEncode_9a6ad (l : Launch) (D : va_G) (cy : Nat → ClassId) (z : zT)  (u1 : Int32) (r0 : Int32) (hf : fJ1_canEncode_9a6ad u1 = some r0) : pmet l yJ1_canEncode_9a6ad cJ1_canEncode_9a6ad 1 (some .boolean) rmJ1_canEncode_9a6ad D cy z ([]) [.int u1] (some (.int r0)) := by
  refine pmet_of (by decide +kernel) (Nat.le_of_ble_eq_true rfl) (fun p e s m below meth c hx hb hr hml hown hts hlk hP hKK ls hl => ?_)
  have hS : va_S noF s.heap s.heap [] := va_S.rf
  have hA0 : ∀ q, noF q → zA z q := fun _ h => h.elim
  have hown : s.vm.findClass "java/lang/StringLatin1" = some m.cls := hown
  have hl : lv_has ls 1 [(0, .int u1)] := hl
  unfold fJ1_canEncode_9a6ad at hf
  refine lv_iload_n hx hb dJ1_canEncode_9a6ad_0 rfl (lv_at hl 0 rfl) ?_
  refine lv_if_lt (tgt := 15) hx hb dJ1_canEncode_9a6ad_1 (by decide) (fun h => ?_) (fun h => ?_)
  · have hf := (if_pos h).symm.trans hf
    refine lv_iconst (v := 0) hx hb dJ1_canEncode_9a6ad_15 (by decide) ?_
    exact pretZ hx hb hr hlk (by decide) hf dJ1_canEncode_9a6ad_16
  · have hf := (if_neg h).symm.trans hf
    refine lv_iload_n hx hb dJ1_canEncode_9a6ad_4 rfl (lv_at hl 0 rfl) ?_
    refine lv_sipush (v := 255) hx hb dJ1_canEncode_9a6ad_5 (by decide) ?_
    refine lv_icmp_gt (tgt := 15) hx hb dJ1_canEncode_9a6ad_8 (by decide) (fun h => ?_) (fun h => ?_)
    · have hf := (if_pos h).symm.trans hf
      refine lv_iconst (v := 0) hx hb dJ1_canEncode_9a6ad_15 (by decide) ?_
      exact pretZ hx hb hr hlk (by decide) hf dJ1_canEncode_9a6ad_16
    · have hf := (if_neg h).symm.trans hf
      refine lv_iconst (v := 1) hx hb dJ1_canEncode_9a6ad_11 (by decide) ?_
      refine lv_goto (tgt := 16) hx hb dJ1_canEncode_9a6ad_12 (by decide) ?_
      exact pretZ hx hb hr hlk (by decide) hf dJ1_canEncode_9a6ad_16

abbrev rmJ1_indexOfChar_4cfef : Room := { frames := 0, cells := 0, slots := 0, locals := 0 }
theorem miJ1_indexOfChar_4cfef : miS yJ1_indexOfChar_4cfef cJ1_indexOfChar_4cfef 6 (some .int) 4 := ⟨q301, q49, q300, by decide +kernel⟩
set_option maxHeartbeats 4000000 in
set_option maxRecDepth 100000 in
theorem mtJ1_indexOfChar_4cfef (l : Launch) (D : va_G) (cy : Nat → ClassId) (z : zT)  (u2 : Int32) (u3 : Int32) (u4 : Int32) (r0 : Int32) (hf : fJ1_indexOfChar_4cfef u2 u3 u4 = some r0) : pmet l yJ1_indexOfChar_4cfef cJ1_indexOfChar_4cfef 6 (some .int) rmJ1_indexOfChar_4cfef D cy z ([]) [.ref (z.2.2.2.2 0), .int u2, .int u3, .int u4] (some (.int r0)) := by
  refine pmet_of (by decide +kernel) (Nat.le_of_ble_eq_true rfl) (fun p e s m below meth c hx hb hr hml hown hts hlk hP hKK ls hl => ?_)
  have hS : va_S noF s.heap s.heap [] := va_S.rf
  have hA0 : ∀ q, noF q → zA z q := fun _ h => h.elim
  have hown : s.vm.findClass "java/lang/StringLatin1" = some m.cls := hown
  have hl : lv_has ls 6 [(0, .ref (z.2.2.2.2 0)), (1, .int u2), (2, .int u3), (3, .int u4)] := hl
  have w_7 : ∀ (g3_7 : Int32) (g4_7 : Int32) (k22 : Int32 → Option (Int32)) (hk22 : ∀ (v5_7 : Int32) (ls : Array Slot), k22 v5_7 = some r0 → lv_has ls 6 [(5, .int v5_7)] → W p l e rmJ1_indexOfChar_4cfef s m ([.ref (z.2.2.2.2 0), .int u2, .int u3, .int u4] : List Value).toArray below meth c s.heap [] 0 0 (MQ below (pQ (some (.int r0))) ([.ref (z.2.2.2.2 0), .int u2, .int u3, .int u4] : List Value).toArray s 0 0 noF) (F0 m 22 ls [])) (k31 : Option (Int32)) (hk31 : ∀ (ls : Array Slot), k31 = some r0 → lv_has ls 6 [] → W p l e rmJ1_indexOfChar_4cfef s m ([.ref (z.2.2.2.2 0), .int u2, .int u3, .int u4] : List Value).toArray below meth c s.heap [] 0 0 (MQ below (pQ (some (.int r0))) ([.ref (z.2.2.2.2 0), .int u2, .int u3, .int u4] : List Value).toArray s 0 0 noF) (F0 m 31 ls [])) (n : Nat) (v5_7 : Int32) (ls : Array Slot), fJ1_indexOfChar_4cfef_7 g3_7 g4_7 k22 k31 n v5_7 = some r0 → lv_has ls 6 [(0, .ref (z.2.2.2.2 0)), (3, .int g3_7), (4, .int g4_7), (5, .int v5_7)] → W p l e rmJ1_indexOfChar_4cfef s m ([.ref (z.2.2.2.2 0), .int u2, .int u3, .int u4] : List Value).toArray below meth c s.heap [] 0 0 (MQ below (pQ (some (.int r0))) ([.ref (z.2.2.2.2 0), .int u2, .int u3, .int u4] : List Value).toArray s 0 0 noF) (F0 m 7 ls []) := by
    intro g3_7 g4_7 k22 hk22 k31 hk31 n
    induction n with
    | zero =>
      intro v5_7 ls hf hl
      cases (show (none : Option (Int32)) = some r0 from hf)
    | succ n ih =>
      intro v5_7 ls hf hl
      rw [fJ1_indexOfChar_4cfef_7] at hf
      refine lv_iload hx hb dJ1_indexOfChar_4cfef_7 (lv_at hl 3 rfl) ?_
      refine lv_iload_n hx hb dJ1_indexOfChar_4cfef_9 rfl (lv_at hl 1 rfl) ?_
      refine lv_icmp_ge (tgt := 31) hx hb dJ1_indexOfChar_4cfef_10 (by decide) (fun h => ?_) (fun h => ?_)
      · have hf := (if_pos h).symm.trans hf
        exact hk31 ls hf (lv_sub hl [] rfl)
      · have hf := (if_neg h).symm.trans hf
        refine lv_aload_n hx hb dJ1_indexOfChar_4cfef_13 rfl (lv_at hl 0 rfl) ?_
        refine lv_iload hx hb dJ1_indexOfChar_4cfef_14 (lv_at hl 3 rfl) ?_
        obtain ⟨hg2, hf⟩ := gd_some hf
        refine va_tb hx hb (hKK.2.2.2.2.2.2.2.1.1 0 (by decide)).2.2.2 (hS.wid hA0) (inb_in hg2) rfl dJ1_indexOfChar_4cfef_16 ?_
        refine lv_iload hx hb dJ1_indexOfChar_4cfef_17 (lv_at hl 2 rfl) ?_
        refine lv_icmp_ne (tgt := 25) hx hb dJ1_indexOfChar_4cfef_19 (by decide) (fun h => ?_) (fun h => ?_)
        · have hf := (if_neg h).symm.trans hf
          obtain ⟨x3, ex3, hf⟩ := nm_ex hf
          refine lv_iinc (v := x3) (lv' := [(5, .int x3), (0, .ref (z.2.2.2.2 0)), (3, .int g3_7), (4, .int g4_7)]) hx hb dJ1_indexOfChar_4cfef_25 hl (k := 3) rfl (Eq.trans rfl ex3) (by decide) rfl (fun ls hl => ?_)
          refine lv_goto (tgt := 7) hx hb dJ1_indexOfChar_4cfef_28 (by decide) ?_
          exact ih x3 ls hf (lv_sub hl [1, 2, 3, 0] rfl)
        · have hf := (if_pos h).symm.trans hf
          exact hk22 v5_7 ls hf (lv_sub hl [3] rfl)
  unfold fJ1_indexOfChar_4cfef at hf
  refine lv_iload_n hx hb dJ1_indexOfChar_4cfef_0 rfl (lv_at hl 1 rfl) ?_
  refine lv_i2b hx hb dJ1_indexOfChar_4cfef_1 rfl ?_
  refine nm_i hf (fun x1 hf => ?_)
  refine lv_istore (lv' := [(4, .int x1), (0, .ref (z.2.2.2.2 0)), (1, .int u2), (2, .int u3), (3, .int u4)]) hx hb dJ1_indexOfChar_4cfef_2 hl (by decide) rfl (fun ls hl => ?_)
  refine lv_iload_n hx hb dJ1_indexOfChar_4cfef_4 rfl (lv_at hl 3 rfl) ?_
  refine lv_istore (lv' := [(5, .int u3), (4, .int x1), (0, .ref (z.2.2.2.2 0)), (1, .int u2), (2, .int u3), (3, .int u4)]) hx hb dJ1_indexOfChar_4cfef_5 hl (by decide) rfl (fun ls hl => ?_)
  refine w_7 u4 x1 _ ?_ _ ?_ _ u3 ls hf (lv_sub hl [2, 5, 1, 0] rfl)
  · intro y4 ls hf hl
    refine lv_iload hx hb dJ1_indexOfChar_4cfef_22 (lv_at hl 0 rfl) ?_
    exact pretI hx hb hr hlk hf dJ1_indexOfChar_4cfef_24
  · intro  ls hf hl
    refine lv_iconst (v := -1) hx hb dJ1_indexOfChar_4cfef_31 (by decide) ?_
    exact pretI hx hb hr hlk hf dJ1_indexOfChar_4cfef_32

abbrev rmJ1_indexOf_4cfef : Room := { frames := 1, cells := 0, slots := 0, locals := 25 }
theorem miJ1_indexOf_4cfef : miS yJ1_indexOf_4cfef cJ1_indexOf_4cfef 4 (some .int) 4 := ⟨q291, q49, q290, by decide +kernel⟩
set_option maxHeartbeats 4000000 in
set_option maxRecDepth 100000 in
theorem mtJ1_indexOf_4cfef (l : Launch) (D : va_G) (cy : Nat → ClassId) (z : zT)  (u2 : Int32) (u3 : Int32) (u4 : Int32) (r0 : Int32) (hf : fJ1_indexOf_4cfef u2 u3 u4 = some r0) : pmet l yJ1_indexOf_4cfef cJ1_indexOf_4cfef 4 (some .int) rmJ1_indexOf_4cfef D cy z ([]) [.ref (z.2.2.2.2 0), .int u2, .int u3, .int u4] (some (.int r0)) := by
  refine pmet_of (by decide +kernel) (Nat.le_of_ble_eq_true rfl) (fun p e s m below meth c hx hb hr hml hown hts hlk hP hKK ls hl => ?_)
  have hS : va_S noF s.heap s.heap [] := va_S.rf
  have hA0 : ∀ q, noF q → zA z q := fun _ h => h.elim
  have hown : s.vm.findClass "java/lang/StringLatin1" = some m.cls := hown
  have hl : lv_has ls 4 [(0, .ref (z.2.2.2.2 0)), (1, .int u2), (2, .int u3), (3, .int u4)] := hl
  unfold fJ1_indexOf_4cfef at hf
  refine lv_iload_n hx hb dJ1_indexOf_4cfef_0 rfl (lv_at hl 1 rfl) ?_
  obtain ⟨r2, hc1, hf⟩ := bd_some hf
  refine pCallSI ⟨hx, hb, hml, hown, hts⟩ (mtJ1_canEncode_9a6ad l D cy z u2 r2 hc1) miJ1_canEncode_9a6ad q292 ⟨Nat.le_of_ble_eq_true rfl, Nat.le_of_ble_eq_true rfl⟩ ⟨rfl, rfl⟩ hP hKK hS hA0 rfl hl.1 rfl (Nat.le_of_ble_eq_true rfl) dJ1_indexOf_4cfef_1 ⟨Nat.zero_le _, Nat.zero_le _⟩ ?_
  refine lv_if_ne (tgt := 9) hx hb dJ1_indexOf_4cfef_4 (by decide) (fun h => ?_) (fun h => ?_)
  · have hf := (if_neg h).symm.trans hf
    refine lv_iload_n hx hb dJ1_indexOf_4cfef_9 rfl (lv_at hl 2 rfl) ?_
    refine lv_iconst (v := 0) hx hb dJ1_indexOf_4cfef_10 (by decide) ?_
    refine va_mmax hx hb (hml.trans hl.1.symm) hown (hts _ q295) (hts _ q296) (hts _ q47) (hts _ q297) (Nat.le_of_ble_eq_true rfl) (Nat.le_of_ble_eq_true rfl) (Nat.zero_le _) (Nat.zero_le _) dJ1_indexOf_4cfef_11 ?_
    refine nm_i hf (fun x3 hf => ?_)
    refine lv_istore_n (lv' := [(2, .int x3), (0, .ref (z.2.2.2.2 0)), (1, .int u2), (3, .int u4)]) hx hb dJ1_indexOf_4cfef_14 rfl hl (by decide) rfl (fun ls hl => ?_)
    refine lv_iload_n hx hb dJ1_indexOf_4cfef_15 rfl (lv_at hl 3 rfl) ?_
    refine lv_aload_n hx hb dJ1_indexOf_4cfef_16 rfl (lv_at hl 1 rfl) ?_
    refine va_tlen hx hb (hKK.2.2.2.2.2.2.2.1.1 0 (by decide)).2.2.2 (hS.wid hA0) (v := 4) (by decide) dJ1_indexOf_4cfef_17 ?_
    refine va_mmin hx hb (hml.trans hl.1.symm) hown (hts _ q298) (hts _ q256) (hts _ q47) (hts _ q257) (Nat.le_of_ble_eq_true rfl) (Nat.le_of_ble_eq_true rfl) (Nat.zero_le _) (Nat.zero_le _) dJ1_indexOf_4cfef_18 ?_
    refine nm_i hf (fun x4 hf => ?_)
    refine lv_istore_n (lv' := [(3, .int x4), (2, .int x3), (0, .ref (z.2.2.2.2 0)), (1, .int u2)]) hx hb dJ1_indexOf_4cfef_21 rfl hl (by decide) rfl (fun ls hl => ?_)
    refine lv_iload_n hx hb dJ1_indexOf_4cfef_22 rfl (lv_at hl 1 rfl) ?_
    refine lv_iload_n hx hb dJ1_indexOf_4cfef_23 rfl (lv_at hl 0 rfl) ?_
    refine lv_icmp_lt (tgt := 29) hx hb dJ1_indexOf_4cfef_24 (by decide) (fun h => ?_) (fun h => ?_)
    · have hf := (if_pos h).symm.trans hf
      refine lv_aload_n hx hb dJ1_indexOf_4cfef_29 rfl (lv_at hl 2 rfl) ?_
      refine lv_iload_n hx hb dJ1_indexOf_4cfef_30 rfl (lv_at hl 3 rfl) ?_
      refine lv_iload_n hx hb dJ1_indexOf_4cfef_31 rfl (lv_at hl 1 rfl) ?_
      refine lv_iload_n hx hb dJ1_indexOf_4cfef_32 rfl (lv_at hl 0 rfl) ?_
      obtain ⟨r6, hc5, hf⟩ := bd_some hf
      refine pCallSI ⟨hx, hb, hml, hown, hts⟩ (mtJ1_indexOfChar_4cfef l D cy z u2 x3 x4 r6 hc5) miJ1_indexOfChar_4cfef q299 ⟨Nat.le_of_ble_eq_true rfl, Nat.le_of_ble_eq_true rfl⟩ ⟨rfl, rfl⟩ hP hKK hS hA0 rfl hl.1 rfl (Nat.le_of_ble_eq_true rfl) dJ1_indexOf_4cfef_33 ⟨Nat.zero_le _, Nat.zero_le _⟩ ?_
      exact pretI hx hb hr hlk hf dJ1_indexOf_4cfef_36
    · have hf := (if_neg h).symm.trans hf
      refine lv_iconst (v := -1) hx hb dJ1_indexOf_4cfef_27 (by decide) ?_
      exact pretI hx hb hr hlk hf dJ1_indexOf_4cfef_28
  · have hf := (if_pos h).symm.trans hf
    refine lv_iconst (v := -1) hx hb dJ1_indexOf_4cfef_7 (by decide) ?_
    exact pretI hx hb hr hlk hf dJ1_indexOf_4cfef_8

abbrev rmJ0_indexOf_7cf53 : Room := { frames := 2, cells := 0, slots := 0, locals := 48 }
theorem miJ0_indexOf_7cf53 : miV yJ0_indexOf_7cf53 cJ0_indexOf_7cf53 3 (some .int) 2 := ⟨q274, q48, q272, q273, by decide +kernel⟩
set_option maxHeartbeats 4000000 in
set_option maxRecDepth 100000 in
theorem mtJ0_indexOf_7cf53 (l : Launch) (D : va_G) (cy : Nat → ClassId) (z : zT)  (u1 : Int32) (u2 : Int32) (r0 : Int32) (hf : fJ0_indexOf_7cf53 u1 u2 = some r0) : pmet l yJ0_indexOf_7cf53 cJ0_indexOf_7cf53 3 (some .int) rmJ0_indexOf_7cf53 D cy z ([]) [.ref (z.2.2.2.1 0), .int u1, .int u2] (some (.int r0)) := by
  refine pmet_of (by decide +kernel) (Nat.le_of_ble_eq_true rfl) (fun p e s m below meth c hx hb hr hml hown hts hlk hP hKK ls hl => ?_)
  have hS : va_S noF s.heap s.heap [] := va_S.rf
  have hA0 : ∀ q, noF q → zA z q := fun _ h => h.elim
  have hown : s.vm.findClass "java/lang/String" = some m.cls := hown
  have hl : lv_has ls 3 [(0, .ref (z.2.2.2.1 0)), (1, .int u1), (2, .int u2)] := hl
  unfold fJ0_indexOf_7cf53 at hf
  refine lv_aload_n hx hb dJ0_indexOf_7cf53_0 rfl (lv_at hl 0 rfl) ?_
  obtain ⟨r2, hc1, hf⟩ := bd_some hf
  refine pCallVI ⟨hx, hb, hml, hown, hts⟩ (mtJ0_isLatin1_aae02 l D cy z  r2 hc1) miJ0_isLatin1_aae02 q275 ⟨Nat.le_of_ble_eq_true rfl, Nat.le_of_ble_eq_true rfl⟩ ⟨rfl, rfl⟩ hP hKK hS hA0 (vk_recv (i := 0) hKK.2.2.2.2.2.2.2.1 (by decide) (hS.wid hA0)) rfl hl.1 rfl (Nat.le_of_ble_eq_true rfl) dJ0_indexOf_7cf53_1 ⟨Nat.zero_le _, Nat.zero_le _⟩ ?_
  refine lv_if_eq (tgt := 23) hx hb dJ0_indexOf_7cf53_4 (by decide) (fun h => ?_) (fun h => ?_)
  · have hf := (if_pos h).symm.trans hf
    refine lv_aload_n hx hb dJ0_indexOf_7cf53_23 rfl (lv_at hl 0 rfl) ?_
    refine vk_getf hx hb (hKK.2.2.2.2.2.2.2.1.1 0 (by decide)).2.2.1 (hS.wid hA0) hown (hts _ q1046) (fun _ h => h) dJ0_indexOf_7cf53_24 ?_
    refine lv_iload_n hx hb dJ0_indexOf_7cf53_27 rfl (lv_at hl 1 rfl) ?_
    refine lv_iload_n hx hb dJ0_indexOf_7cf53_28 rfl (lv_at hl 2 rfl) ?_
    refine lv_aload_n hx hb dJ0_indexOf_7cf53_29 rfl (lv_at hl 0 rfl) ?_
    obtain ⟨r4, hc3, hf⟩ := bd_some hf
    refine pCallVI ⟨hx, hb, hml, hown, hts⟩ (mtJ0_length_8abf5 l D cy z  r4 hc3) miJ0_length_8abf5 q281 ⟨Nat.le_of_ble_eq_true rfl, Nat.le_of_ble_eq_true rfl⟩ ⟨rfl, rfl⟩ hP hKK hS hA0 (vk_recv (i := 0) hKK.2.2.2.2.2.2.2.1 (by decide) (hS.wid hA0)) rfl hl.1 rfl (Nat.le_of_ble_eq_true rfl) dJ0_indexOf_7cf53_30 ⟨Nat.zero_le _, Nat.zero_le _⟩ ?_
    cases hf
  · have hf := (if_neg h).symm.trans hf
    refine lv_aload_n hx hb dJ0_indexOf_7cf53_7 rfl (lv_at hl 0 rfl) ?_
    refine vk_getf hx hb (hKK.2.2.2.2.2.2.2.1.1 0 (by decide)).2.2.1 (hS.wid hA0) hown (hts _ q1046) (fun _ h => h) dJ0_indexOf_7cf53_8 ?_
    refine lv_iload_n hx hb dJ0_indexOf_7cf53_11 rfl (lv_at hl 1 rfl) ?_
    refine lv_iload_n hx hb dJ0_indexOf_7cf53_12 rfl (lv_at hl 2 rfl) ?_
    refine lv_aload_n hx hb dJ0_indexOf_7cf53_13 rfl (lv_at hl 0 rfl) ?_
    obtain ⟨r6, hc5, hf⟩ := bd_some hf
    refine pCallVI ⟨hx, hb, hml, hown, hts⟩ (mtJ0_length_8abf5 l D cy z  r6 hc5) miJ0_length_8abf5 q281 ⟨Nat.le_of_ble_eq_true rfl, Nat.le_of_ble_eq_true rfl⟩ ⟨rfl, rfl⟩ hP hKK hS hA0 (vk_recv (i := 0) hKK.2.2.2.2.2.2.2.1 (by decide) (hS.wid hA0)) rfl hl.1 rfl (Nat.le_of_ble_eq_true rfl) dJ0_indexOf_7cf53_14 ⟨Nat.zero_le _, Nat.zero_le _⟩ ?_
    obtain ⟨r8, hc7, hf⟩ := bd_some hf
    refine pCallSI ⟨hx, hb, hml, hown, hts⟩ (mtJ1_indexOf_4cfef l D cy z u1 u2 r6 r8 hc7) miJ1_indexOf_4cfef q289 ⟨Nat.le_of_ble_eq_true rfl, Nat.le_of_ble_eq_true rfl⟩ ⟨rfl, rfl⟩ hP hKK hS hA0 rfl hl.1 rfl (Nat.le_of_ble_eq_true rfl) dJ0_indexOf_7cf53_17 ⟨Nat.zero_le _, Nat.zero_le _⟩ ?_
    refine lv_goto (tgt := 36) hx hb dJ0_indexOf_7cf53_20 (by decide) ?_
    exact pretI hx hb hr hlk hf dJ0_indexOf_7cf53_36

abbrev rmJ0_indexOf_0f7a4 : Room := { frames := 3, cells := 0, slots := 0, locals := 70 }
theorem miJ0_indexOf_0f7a4 : miV yJ0_indexOf_0f7a4 cJ0_indexOf_0f7a4 2 (some .int) 1 := ⟨q270, q48, q268, q269, by decide +kernel⟩
set_option maxHeartbeats 4000000 in
set_option maxRecDepth 100000 in
theorem mtJ0_indexOf_0f7a4 (l : Launch) (D : va_G) (cy : Nat → ClassId) (z : zT)  (u1 : Int32) (r0 : Int32) (hf : fJ0_indexOf_0f7a4 u1 = some r0) : pmet l yJ0_indexOf_0f7a4 cJ0_indexOf_0f7a4 2 (some .int) rmJ0_indexOf_0f7a4 D cy z ([]) [.ref (z.2.2.2.1 0), .int u1] (some (.int r0)) := by
  refine pmet_of (by decide +kernel) (Nat.le_of_ble_eq_true rfl) (fun p e s m below meth c hx hb hr hml hown hts hlk hP hKK ls hl => ?_)
  have hS : va_S noF s.heap s.heap [] := va_S.rf
  have hA0 : ∀ q, noF q → zA z q := fun _ h => h.elim
  have hown : s.vm.findClass "java/lang/String" = some m.cls := hown
  have hl : lv_has ls 2 [(0, .ref (z.2.2.2.1 0)), (1, .int u1)] := hl
  unfold fJ0_indexOf_0f7a4 at hf
  refine lv_aload_n hx hb dJ0_indexOf_0f7a4_0 rfl (lv_at hl 0 rfl) ?_
  refine lv_iload_n hx hb dJ0_indexOf_0f7a4_1 rfl (lv_at hl 1 rfl) ?_
  refine lv_iconst (v := 0) hx hb dJ0_indexOf_0f7a4_2 (by decide) ?_
  obtain ⟨r2, hc1, hf⟩ := bd_some hf
  refine pCallVI ⟨hx, hb, hml, hown, hts⟩ (mtJ0_indexOf_7cf53 l D cy z u1 (0 : Int32) r2 hc1) miJ0_indexOf_7cf53 q271 ⟨Nat.le_of_ble_eq_true rfl, Nat.le_of_ble_eq_true rfl⟩ ⟨rfl, rfl⟩ hP hKK hS hA0 (vk_recv (i := 0) hKK.2.2.2.2.2.2.2.1 (by decide) (hS.wid hA0)) rfl hl.1 rfl (Nat.le_of_ble_eq_true rfl) dJ0_indexOf_0f7a4_3 ⟨Nat.zero_le _, Nat.zero_le _⟩ ?_
  exact pretI hx hb hr hlk hf dJ0_indexOf_0f7a4_6

abbrev rmX2_append : Room := { frames := 0, cells := 0, slots := 0, locals := 0 }
theorem miX2_append : miV yX2_append cX2_append 2 (some .boolean) 1 := ⟨q209, q43, q207, q208, by decide +kernel⟩
set_option maxHeartbeats 4000000 in
set_option maxRecDepth 100000 in
theorem mtX2_append (l : Launch) (D : va_G) (cy : Nat → ClassId) (z : zT) (k0 k1 : Nat) (X : tX) (u1 : Int32) (r0 : Int32) (X0 : tX) (hf : fX2_append X u1 = some (r0, X0)) : mmet l yX2_append cX2_append 2 (some .boolean) rmX2_append D cy z (wX cy k0 k1 X) (wX cy k0 k1 X0) [.ref k0, .int u1] (some (.int r0)) := by
  refine mmet_of (by decide +kernel) (Nat.le_of_ble_eq_true rfl) (fun p e s m below meth c hx hb hr hml hown hts hlk hP hD hS hA0 hKK ls hl => ?_)
  have hown : s.vm.findClass "HillSight$MapText" = some m.cls := hown
  have hl : lv_has ls 2 [(0, .ref k0), (1, .int u1)] := hl
  unfold fX2_append at hf
  refine lv_aload_n hx hb dX2_append_0 rfl (lv_at hl 0 rfl) ?_
  refine va_get (D := D) (ci := 2) (v := .int X.2.1) (C := RX2) (T := TX2) (N := 4) hx hb hts inX2 hown hKK.1 hP 0 rfl rfl 1 (by decide) (hts _ q114) (fun _ h => h) rfl dX2_append_1 ?_
  refine lv_if_lt (tgt := 16) hx hb dX2_append_4 (by decide) (fun h => ?_) (fun h => ?_)
  · have hf := (if_pos h).symm.trans hf
    refine lv_iconst (v := 0) hx hb dX2_append_16 (by decide) ?_
    cases hf
    exact mretZ hx hb hr hlk (by decide) hP hS dX2_append_17
  · have hf := (if_neg h).symm.trans hf
    refine lv_aload_n hx hb dX2_append_7 rfl (lv_at hl 0 rfl) ?_
    refine va_get (D := D) (ci := 2) (v := .int X.2.1) (C := RX2) (T := TX2) (N := 4) hx hb hts inX2 hown hKK.1 hP 0 rfl rfl 1 (by decide) (hts _ q114) (fun _ h => h) rfl dX2_append_8 ?_
    refine lv_bipush (v := 90) hx hb dX2_append_11 (by decide) ?_
    refine lv_icmp_lt (tgt := 18) hx hb dX2_append_13 (by decide) (fun h => ?_) (fun h => ?_)
    · have hf := (if_pos h).symm.trans hf
      refine lv_aload_n hx hb dX2_append_18 rfl (lv_at hl 0 rfl) ?_
      refine va_get (D := D) (ci := 2) (v := .ref k1) (C := RX2) (T := TX2) (N := 4) hx hb hts inX2 hown hKK.1 hP 0 rfl rfl 0 (by decide) (hts _ q113) (fun _ h => h) rfl dX2_append_19 ?_
      refine lv_aload_n hx hb dX2_append_22 rfl (lv_at hl 0 rfl) ?_
      refine va_get (D := D) (ci := 2) (v := .int X.2.1) (C := RX2) (T := TX2) (N := 4) hx hb hts inX2 hown hKK.1 hP 0 rfl rfl 1 (by decide) (hts _ q114) (fun _ h => h) rfl dX2_append_23 ?_
      refine lv_iload_n hx hb dX2_append_26 rfl (lv_at hl 1 rfl) ?_
      obtain ⟨hg1, hf⟩ := gd_some hf
      refine va_cast hx hb hKK.1 hP hD hS 1 2 rfl rfl (inb_in hg1) dX2_append_27 (fun H locs hP hD hS => ?_)
      have hP : va_P D vwCl (wX cy k0 k1 ((upd X.1 X.2.1.toNatClampNeg (vp_nar .char u1)), X.2.1, X.2.2.1, X.2.2.2)) H := hP
      have hD : va_D (adr (wX cy k0 k1 X)) (wX cy k0 k1 ((upd X.1 X.2.1.toNatClampNeg (vp_nar .char u1)), X.2.1, X.2.2.1, X.2.2.2)) := hD
      refine lv_aload_n hx hb dX2_append_28 rfl (lv_at hl 0 rfl) ?_
      refine lv_dup hx hb dX2_append_29 rfl ?_
      refine va_get (D := D) (ci := 2) (v := .int X.2.1) (C := RX2) (T := TX2) (N := 4) hx hb hts inX2 hown hKK.1 hP 0 rfl rfl 1 (by decide) (hts _ q114) (fun _ h => h) rfl dX2_append_30 ?_
      refine lv_iconst (v := 1) hx hb dX2_append_33 (by decide) ?_
      refine lv_iadd hx hb dX2_append_34 ?_
      refine nm_i hf (fun x2 hf => ?_)
      refine va_put (D := D) (ci := 2) (v := .int x2) (ty := .int) (C := RX2) (T := TX2) (N := 4) hx hb hts inX2 tyX2 tyX2_ok nmX2 hown hKK.1 hP hD hS 0 rfl rfl 1 (by decide) (hts _ q114) (fun _ h => h) rfl (by decide +kernel) rfl rfl (Nat.le_of_ble_eq_true rfl) dX2_append_35 (fun H locs hP hD hS => ?_)
      have hP : va_P D vwCl (wX cy k0 k1 ((upd X.1 X.2.1.toNatClampNeg (vp_nar .char u1)), x2, X.2.2.1, X.2.2.2)) H := hP
      have hD : va_D (adr (wX cy k0 k1 X)) (wX cy k0 k1 ((upd X.1 X.2.1.toNatClampNeg (vp_nar .char u1)), x2, X.2.2.1, X.2.2.2)) := hD
      refine lv_iconst (v := 1) hx hb dX2_append_38 (by decide) ?_
      cases hf
      exact mretZ hx hb hr hlk (by decide) hP hS dX2_append_39
    · have hf := (if_neg h).symm.trans hf
      refine lv_iconst (v := 0) hx hb dX2_append_16 (by decide) ?_
      cases hf
      exact mretZ hx hb hr hlk (by decide) hP hS dX2_append_17

abbrev rmX2_nextLetter : Room := { frames := 0, cells := 0, slots := 0, locals := 0 }
theorem miX2_nextLetter : miV yX2_nextLetter cX2_nextLetter 1 (some .int) 0 := ⟨q225, q43, q224, q0, by decide +kernel⟩
set_option maxHeartbeats 4000000 in
set_option maxRecDepth 100000 in
theorem mtX2_nextLetter (l : Launch) (D : va_G) (cy : Nat → ClassId) (z : zT) (k0 k1 : Nat) (X : tX) (r0 : Int32) (hf : fX2_nextLetter X = some r0) : pmet l yX2_nextLetter cX2_nextLetter 1 (some .int) rmX2_nextLetter D cy z (wX cy k0 k1 X) [.ref k0] (some (.int r0)) := by
  refine pmet_of (by decide +kernel) (Nat.le_of_ble_eq_true rfl) (fun p e s m below meth c hx hb hr hml hown hts hlk hP hKK ls hl => ?_)
  have hS : va_S noF s.heap s.heap [] := va_S.rf
  have hA0 : ∀ q, noF q → zA z q := fun _ h => h.elim
  have hown : s.vm.findClass "HillSight$MapText" = some m.cls := hown
  have hl : lv_has ls 1 [(0, .ref k0)] := hl
  unfold fX2_nextLetter at hf
  refine lv_aload_n hx hb dX2_nextLetter_0 rfl (lv_at hl 0 rfl) ?_
  refine va_get (D := D) (ci := 2) (v := .int X.2.2.1) (C := RX2) (T := TX2) (N := 4) hx hb hts inX2 hown hKK.1 hP 0 rfl rfl 2 (by decide) (hts _ q116) (fun _ h => h) rfl dX2_nextLetter_1 ?_
  refine lv_if_lt (tgt := 39) hx hb dX2_nextLetter_4 (by decide) (fun h => ?_) (fun h => ?_)
  · have hf := (if_pos h).symm.trans hf
    refine lv_iconst (v := -1) hx hb dX2_nextLetter_39 (by decide) ?_
    exact pretI hx hb hr hlk hf dX2_nextLetter_40
  · have hf := (if_neg h).symm.trans hf
    refine lv_aload_n hx hb dX2_nextLetter_7 rfl (lv_at hl 0 rfl) ?_
    refine va_get (D := D) (ci := 2) (v := .int X.2.2.1) (C := RX2) (T := TX2) (N := 4) hx hb hts inX2 hown hKK.1 hP 0 rfl rfl 2 (by decide) (hts _ q116) (fun _ h => h) rfl dX2_nextLetter_8 ?_
    refine lv_aload_n hx hb dX2_nextLetter_11 rfl (lv_at hl 0 rfl) ?_
    refine va_get (D := D) (ci := 2) (v := .int X.2.1) (C := RX2) (T := TX2) (N := 4) hx hb hts inX2 hown hKK.1 hP 0 rfl rfl 1 (by decide) (hts _ q114) (fun _ h => h) rfl dX2_nextLetter_12 ?_
    refine lv_icmp_ge (tgt := 39) hx hb dX2_nextLetter_15 (by decide) (fun h => ?_) (fun h => ?_)
    · have hf := (if_pos h).symm.trans hf
      refine lv_iconst (v := -1) hx hb dX2_nextLetter_39 (by decide) ?_
      exact pretI hx hb hr hlk hf dX2_nextLetter_40
    · have hf := (if_neg h).symm.trans hf
      refine lv_aload_n hx hb dX2_nextLetter_18 rfl (lv_at hl 0 rfl) ?_
      refine va_get (D := D) (ci := 2) (v := .int X.2.2.1) (C := RX2) (T := TX2) (N := 4) hx hb hts inX2 hown hKK.1 hP 0 rfl rfl 2 (by decide) (hts _ q116) (fun _ h => h) rfl dX2_nextLetter_19 ?_
      refine lv_bipush (v := 90) hx hb dX2_nextLetter_22 (by decide) ?_
      refine lv_icmp_ge (tgt := 39) hx hb dX2_nextLetter_24 (by decide) (fun h => ?_) (fun h => ?_)
      · have hf := (if_pos h).symm.trans hf
        refine lv_iconst (v := -1) hx hb dX2_nextLetter_39 (by decide) ?_
        exact pretI hx hb hr hlk hf dX2_nextLetter_40
      · have hf := (if_neg h).symm.trans hf
        refine lv_aload_n hx hb dX2_nextLetter_27 rfl (lv_at hl 0 rfl) ?_
        refine va_get (D := D) (ci := 2) (v := .ref k1) (C := RX2) (T := TX2) (N := 4) hx hb hts inX2 hown hKK.1 hP 0 rfl rfl 0 (by decide) (hts _ q113) (fun _ h => h) rfl dX2_nextLetter_28 ?_
        refine lv_aload_n hx hb dX2_nextLetter_31 rfl (lv_at hl 0 rfl) ?_
        refine va_get (D := D) (ci := 2) (v := .int X.2.2.1) (C := RX2) (T := TX2) (N := 4) hx hb hts inX2 hown hKK.1 hP 0 rfl rfl 2 (by decide) (hts _ q116) (fun _ h => h) rfl dX2_nextLetter_32 ?_
        obtain ⟨hg1, hf⟩ := gd_some hf
        refine va_cald hx hb hKK.1 hP 1 2 rfl rfl (inb_in hg1) dX2_nextLetter_35 ?_
        refine lv_goto (tgt := 40) hx hb dX2_nextLetter_36 (by decide) ?_
        exact pretI hx hb hr hlk hf dX2_nextLetter_40

abbrev rmX2_readDigit : Room := { frames := 1, cells := 0, slots := 0, locals := 20 }
theorem miX2_readDigit : miV yX2_readDigit cX2_readDigit 4 (some .int) 2 := ⟨q229, q43, q228, q1, by decide +kernel⟩
set_option maxHeartbeats 4000000 in
set_option maxRecDepth 100000 in
theorem mtX2_readDigit (l : Launch) (D : va_G) (cy : Nat → ClassId) (z : zT) (k0 k1 : Nat) (X : tX) (u1 : Int32) (u2 : Int32) (r0 : Int32) (X0 : tX) (hf : fX2_readDigit X u1 u2 = some (r0, X0)) : mmet l yX2_readDigit cX2_readDigit 4 (some .int) rmX2_readDigit D cy z (wX cy k0 k1 X) (wX cy k0 k1 X0) [.ref k0, .int u1, .int u2] (some (.int r0)) := by
  refine mmet_of (by decide +kernel) (Nat.le_of_ble_eq_true rfl) (fun p e s m below meth c hx hb hr hml hown hts hlk hP hD hS hA0 hKK ls hl => ?_)
  have hown : s.vm.findClass "HillSight$MapText" = some m.cls := hown
  have hl : lv_has ls 4 [(0, .ref k0), (1, .int u1), (2, .int u2)] := hl
  unfold fX2_readDigit at hf
  refine lv_aload_n hx hb dX2_readDigit_0 rfl (lv_at hl 0 rfl) ?_
  obtain ⟨r2, hc1, hf⟩ := bd_some hf
  refine pCallVI ⟨hx, hb, hml, hown, hts⟩ (mtX2_nextLetter l D cy z k0 k1 X r2 hc1) miX2_nextLetter q222 ⟨Nat.le_of_ble_eq_true rfl, Nat.le_of_ble_eq_true rfl⟩ ⟨rfl, rfl⟩ hP hKK hS hA0 (va_recv hKK.1 hP (ci := 2) (q0 := 0) rfl rfl) rfl hl.1 rfl (Nat.le_of_ble_eq_true rfl) dX2_readDigit_1 ⟨Nat.zero_le _, Nat.zero_le _⟩ ?_
  refine lv_bipush (v := 48) hx hb dX2_readDigit_4 (by decide) ?_
  refine lv_isub hx hb dX2_readDigit_6 ?_
  refine nm_i hf (fun x3 hf => ?_)
  refine lv_istore_n (lv' := [(3, .int x3), (0, .ref k0), (1, .int u1), (2, .int u2)]) hx hb dX2_readDigit_7 rfl hl (by decide) rfl (fun ls hl => ?_)
  refine lv_iload_n hx hb dX2_readDigit_8 rfl (lv_at hl 0 rfl) ?_
  refine lv_iload_n hx hb dX2_readDigit_9 rfl (lv_at hl 2 rfl) ?_
  refine lv_icmp_lt (tgt := 18) hx hb dX2_readDigit_10 (by decide) (fun h => ?_) (fun h => ?_)
  · have hf := (if_pos h).symm.trans hf
    refine lv_iconst (v := -1) hx hb dX2_readDigit_18 (by decide) ?_
    cases hf
    exact mretI hx hb hr hlk hP hS dX2_readDigit_19
  · have hf := (if_neg h).symm.trans hf
    refine lv_iload_n hx hb dX2_readDigit_13 rfl (lv_at hl 0 rfl) ?_
    refine lv_iload_n hx hb dX2_readDigit_14 rfl (lv_at hl 3 rfl) ?_
    refine lv_icmp_le (tgt := 20) hx hb dX2_readDigit_15 (by decide) (fun h => ?_) (fun h => ?_)
    · have hf := (if_pos h).symm.trans hf
      refine lv_aload_n hx hb dX2_readDigit_20 rfl (lv_at hl 1 rfl) ?_
      refine lv_dup hx hb dX2_readDigit_21 rfl ?_
      refine va_get (D := D) (ci := 2) (v := .int X.2.2.1) (C := RX2) (T := TX2) (N := 4) hx hb hts inX2 hown hKK.1 hP 0 rfl rfl 2 (by decide) (hts _ q116) (fun _ h => h) rfl dX2_readDigit_22 ?_
      refine lv_iconst (v := 1) hx hb dX2_readDigit_25 (by decide) ?_
      refine lv_iadd hx hb dX2_readDigit_26 ?_
      refine nm_i hf (fun x4 hf => ?_)
      refine va_put (D := D) (ci := 2) (v := .int x4) (ty := .int) (C := RX2) (T := TX2) (N := 4) hx hb hts inX2 tyX2 tyX2_ok nmX2 hown hKK.1 hP hD hS 0 rfl rfl 2 (by decide) (hts _ q116) (fun _ h => h) rfl (by decide +kernel) rfl rfl (Nat.le_of_ble_eq_true rfl) dX2_readDigit_27 (fun H locs hP hD hS => ?_)
      have hP : va_P D vwCl (wX cy k0 k1 (X.1, X.2.1, x4, X.2.2.2)) H := hP
      have hD : va_D (adr (wX cy k0 k1 X)) (wX cy k0 k1 (X.1, X.2.1, x4, X.2.2.2)) := hD
      refine lv_iload_n hx hb dX2_readDigit_30 rfl (lv_at hl 0 rfl) ?_
      cases hf
      exact mretI hx hb hr hlk hP hS dX2_readDigit_31
    · have hf := (if_neg h).symm.trans hf
      refine lv_iconst (v := -1) hx hb dX2_readDigit_18 (by decide) ?_
      cases hf
      exact mretI hx hb hr hlk hP hS dX2_readDigit_19

abbrev rmX2_readHeights : Room := { frames := 2, cells := 0, slots := 0, locals := 43 }
theorem miX2_readHeights : miV yX2_readHeights cX2_readHeights 4 (some .boolean) 1 := ⟨q234, q43, q233, q2, by decide +kernel⟩
set_option maxHeartbeats 4000000 in
set_option maxRecDepth 100000 in
theorem mtX2_readHeights (l : Launch) (D : va_G) (cy : Nat → ClassId) (z : zT) (k0 k1 j0 j1 j2 j3 j4 : Nat) (X : tX) (L : tL) (r0 : Int32) (X0 : tX) (L0 : tL) (hf : fX2_readHeights X L = some (r0, X0, L0)) : mmet l yX2_readHeights cX2_readHeights 4 (some .boolean) rmX2_readHeights D cy z (wX cy k0 k1 X ++ wL cy j0 j1 j2 j3 j4 L) (wX cy k0 k1 X0 ++ wL cy j0 j1 j2 j3 j4 L0) [.ref k0, .ref j0] (some (.int r0)) := by
  refine mmet_of (by decide +kernel) (Nat.le_of_ble_eq_true rfl) (fun p e s m below meth c hx hb hr hml hown hts hlk hP hD hS hA0 hKK ls hl => ?_)
  have hown : s.vm.findClass "HillSight$MapText" = some m.cls := hown
  have hl : lv_has ls 4 [(0, .ref k0), (1, .ref j0)] := hl
  have w_2 : ∀ (k22 : tX → tL → Option (Int32 × tX × tL)) (hk22 : ∀ (X_2 : tX) (L_2 : tL) (H : Heap) (locs : List Loc) (ls : Array Slot), k22 X_2 L_2 = some (r0, X0, L0) → va_P D vwCl (wX cy k0 k1 X_2 ++ wL cy j0 j1 j2 j3 j4 L_2) H → va_D (adr (wX cy k0 k1 X ++ wL cy j0 j1 j2 j3 j4 L)) (wX cy k0 k1 X_2 ++ wL cy j0 j1 j2 j3 j4 L_2) → va_S (adr (wX cy k0 k1 X ++ wL cy j0 j1 j2 j3 j4 L)) s.heap H locs → lv_has ls 4 [] → W p l e rmX2_readHeights s m ([.ref k0, .ref j0] : List Value).toArray below meth c H locs 0 0 (MQ below (mQ D (wX cy k0 k1 X ++ wL cy j0 j1 j2 j3 j4 L) (wX cy k0 k1 X0 ++ wL cy j0 j1 j2 j3 j4 L0) (some (.int r0))) ([.ref k0, .ref j0] : List Value).toArray s 0 0 (adr (wX cy k0 k1 X ++ wL cy j0 j1 j2 j3 j4 L))) (F0 m 22 ls [])) (k37 : tX → tL → Option (Int32 × tX × tL)) (hk37 : ∀ (X_2 : tX) (L_2 : tL) (H : Heap) (locs : List Loc) (ls : Array Slot), k37 X_2 L_2 = some (r0, X0, L0) → va_P D vwCl (wX cy k0 k1 X_2 ++ wL cy j0 j1 j2 j3 j4 L_2) H → va_D (adr (wX cy k0 k1 X ++ wL cy j0 j1 j2 j3 j4 L)) (wX cy k0 k1 X_2 ++ wL cy j0 j1 j2 j3 j4 L_2) → va_S (adr (wX cy k0 k1 X ++ wL cy j0 j1 j2 j3 j4 L)) s.heap H locs → lv_has ls 4 [] → W p l e rmX2_readHeights s m ([.ref k0, .ref j0] : List Value).toArray below meth c H locs 0 0 (MQ below (mQ D (wX cy k0 k1 X ++ wL cy j0 j1 j2 j3 j4 L) (wX cy k0 k1 X0 ++ wL cy j0 j1 j2 j3 j4 L0) (some (.int r0))) ([.ref k0, .ref j0] : List Value).toArray s 0 0 (adr (wX cy k0 k1 X ++ wL cy j0 j1 j2 j3 j4 L))) (F0 m 37 ls [])) (n : Nat) (v2_2 : Int32) (X_2 : tX) (L_2 : tL) (H : Heap) (locs : List Loc) (ls : Array Slot), fX2_readHeights_2 k22 k37 n v2_2 X_2 L_2 = some (r0, X0, L0) → va_P D vwCl (wX cy k0 k1 X_2 ++ wL cy j0 j1 j2 j3 j4 L_2) H → va_D (adr (wX cy k0 k1 X ++ wL cy j0 j1 j2 j3 j4 L)) (wX cy k0 k1 X_2 ++ wL cy j0 j1 j2 j3 j4 L_2) → va_S (adr (wX cy k0 k1 X ++ wL cy j0 j1 j2 j3 j4 L)) s.heap H locs → lv_has ls 4 [(0, .ref k0), (1, .ref j0), (2, .int v2_2)] → W p l e rmX2_readHeights s m ([.ref k0, .ref j0] : List Value).toArray below meth c H locs 0 0 (MQ below (mQ D (wX cy k0 k1 X ++ wL cy j0 j1 j2 j3 j4 L) (wX cy k0 k1 X0 ++ wL cy j0 j1 j2 j3 j4 L0) (some (.int r0))) ([.ref k0, .ref j0] : List Value).toArray s 0 0 (adr (wX cy k0 k1 X ++ wL cy j0 j1 j2 j3 j4 L))) (F0 m 2 ls []) := by
    intro k22 hk22 k37 hk37 n
    induction n with
    | zero =>
      intro v2_2 X_2 L_2 H locs ls hf hP hD hS hl
      cases (show (none : Option (Int32 × tX × tL)) = some (r0, X0, L0) from hf)
    | succ n ih =>
      intro v2_2 X_2 L_2 H locs ls hf hP hD hS hl
      rw [fX2_readHeights_2] at hf
      refine lv_iload_n hx hb dX2_readHeights_2 rfl (lv_at hl 2 rfl) ?_
      refine lv_aload_n hx hb dX2_readHeights_3 rfl (lv_at hl 1 rfl) ?_
      obtain ⟨r2, hc1, hf⟩ := bd_some hf
      have hP1 := hP.sub (ws' := wL cy j0 j1 j2 j3 j4 L_2) [2, 3, 4, 5, 6] rfl
      refine pCallVI ⟨hx, hb, hml, hown, hts⟩ (mtX1_cellCount l D cy z j0 j1 j2 j3 j4 L_2 r2 hc1) miX1_cellCount q235 ⟨Nat.le_of_ble_eq_true rfl, Nat.le_of_ble_eq_true rfl⟩ ⟨rfl, rfl⟩ hP1 hKK hS hA0 (va_recv hKK.1 hP1 (ci := 1) (q0 := 0) rfl rfl) rfl hl.1 rfl (Nat.le_of_ble_eq_true rfl) dX2_readHeights_4 ⟨Nat.zero_le _, Nat.zero_le _⟩ ?_
      refine lv_icmp_ge (tgt := 37) hx hb dX2_readHeights_7 (by decide) (fun h => ?_) (fun h => ?_)
      · have hf := (if_pos h).symm.trans hf
        exact hk37 X_2 L_2 _ _ ls hf hP hD hS (lv_sub hl [] rfl)
      · have hf := (if_neg h).symm.trans hf
        refine lv_aload_n hx hb dX2_readHeights_10 rfl (lv_at hl 0 rfl) ?_
        refine lv_iconst (v := 0) hx hb dX2_readHeights_11 (by decide) ?_
        refine lv_bipush (v := 9) hx hb dX2_readHeights_12 (by decide) ?_
        obtain ⟨y4, hc3, hf⟩ := bd_some hf
        have hP1 := hP.sub (ws' := wX cy k0 k1 X_2) [0, 1] rfl
        have hD1 := hD.sub (ws' := wX cy k0 k1 X_2) [0, 1] (by decide) rfl
        refine mCallVI ⟨hx, hb, hml, hown, hts⟩ (mtX2_readDigit l D cy z k0 k1 X_2 (0 : Int32) (9 : Int32) y4.1 y4.2 hc3) miX2_readDigit q226 ⟨Nat.le_of_ble_eq_true rfl, Nat.le_of_ble_eq_true rfl⟩ ⟨rfl, rfl⟩ hP1 hD1 hKK hA0 (va_recv hKK.1 hP1 (ci := 2) (q0 := 0) rfl rfl) rfl hl.1 rfl (Nat.le_of_ble_eq_true rfl) dX2_readHeights_14 ⟨Nat.zero_le _, Nat.zero_le _⟩ hS hP hD [0, 1] rfl rfl (ws' := wX cy k0 k1 y4.2 ++ wL cy j0 j1 j2 j3 j4 L_2) rfl (fun H locs hP hD hS => ?_)
        refine lv_istore_n (lv' := [(3, .int y4.1), (0, .ref k0), (1, .ref j0), (2, .int v2_2)]) hx hb dX2_readHeights_17 rfl hl (by decide) rfl (fun ls hl => ?_)
        refine lv_iload_n hx hb dX2_readHeights_18 rfl (lv_at hl 0 rfl) ?_
        refine lv_if_ge (tgt := 24) hx hb dX2_readHeights_19 (by decide) (fun h => ?_) (fun h => ?_)
        · have hf := (if_pos h).symm.trans hf
          refine lv_aload_n hx hb dX2_readHeights_24 rfl (lv_at hl 2 rfl) ?_
          refine lv_iload_n hx hb dX2_readHeights_25 rfl (lv_at hl 3 rfl) ?_
          refine lv_iload_n hx hb dX2_readHeights_26 rfl (lv_at hl 0 rfl) ?_
          obtain ⟨y6, hc5, hf⟩ := bd_some hf
          have hP1 := hP.sub (ws' := wL cy j0 j1 j2 j3 j4 L_2) [2, 3, 4, 5, 6] rfl
          have hD1 := hD.sub (ws' := wL cy j0 j1 j2 j3 j4 L_2) [2, 3, 4, 5, 6] (by decide) rfl
          refine mCallVI ⟨hx, hb, hml, hown, hts⟩ (mtX1_putHeight l D cy z j0 j1 j2 j3 j4 L_2 v2_2 y4.1 y6.1 y6.2 hc5) miX1_putHeight q239 ⟨Nat.le_of_ble_eq_true rfl, Nat.le_of_ble_eq_true rfl⟩ ⟨rfl, rfl⟩ hP1 hD1 hKK hA0 (va_recv hKK.1 hP1 (ci := 1) (q0 := 0) rfl rfl) rfl hl.1 rfl (Nat.le_of_ble_eq_true rfl) dX2_readHeights_27 ⟨Nat.zero_le _, Nat.zero_le _⟩ hS hP hD [2, 3, 4, 5, 6] rfl rfl (ws' := wX cy k0 k1 y4.2 ++ wL cy j0 j1 j2 j3 j4 y6.2) rfl (fun H locs hP hD hS => ?_)
          refine lv_pop hx hb dX2_readHeights_30 rfl ?_
          obtain ⟨x7, ex7, hf⟩ := nm_ex hf
          refine lv_iinc (v := x7) (lv' := [(2, .int x7), (3, .int y4.1), (0, .ref k0), (1, .ref j0)]) hx hb dX2_readHeights_31 hl (k := 3) rfl (Eq.trans rfl ex7) (by decide) rfl (fun ls hl => ?_)
          refine lv_goto (tgt := 2) hx hb dX2_readHeights_34 (by decide) ?_
          exact ih x7 y4.2 y6.2 _ _ ls hf hP hD hS (lv_sub hl [2, 3, 0] rfl)
        · have hf := (if_neg h).symm.trans hf
          exact hk22 y4.2 L_2 _ _ ls hf hP hD hS (lv_sub hl [] rfl)
  unfold fX2_readHeights at hf
  refine lv_iconst (v := 0) hx hb dX2_readHeights_0 (by decide) ?_
  refine lv_istore_n (lv' := [(2, .int (0 : Int32)), (0, .ref k0), (1, .ref j0)]) hx hb dX2_readHeights_1 rfl hl (by decide) rfl (fun ls hl => ?_)
  refine w_2 _ ?_ _ ?_ _ (0 : Int32) X L _ _ ls hf hP hD hS (lv_sub hl [1, 2, 0] rfl)
  · intro X8 L9 H locs ls hf hP hD hS hl
    refine lv_iconst (v := 0) hx hb dX2_readHeights_22 (by decide) ?_
    cases hf
    exact mretZ hx hb hr hlk (by decide) hP hS dX2_readHeights_23
  · intro X10 L11 H locs ls hf hP hD hS hl
    refine lv_iconst (v := 1) hx hb dX2_readHeights_37 (by decide) ?_
    cases hf
    exact mretZ hx hb hr hlk (by decide) hP hS dX2_readHeights_38

abbrev rmX2_readTower : Room := { frames := 2, cells := 0, slots := 0, locals := 45 }
theorem miX2_readTower : miV yX2_readTower cX2_readTower 6 (some .boolean) 1 := ⟨q254, q43, q253, q4, by decide +kernel⟩
set_option maxHeartbeats 4000000 in
set_option maxRecDepth 100000 in
theorem mtX2_readTower (l : Launch) (D : va_G) (cy : Nat → ClassId) (z : zT) (k0 k1 j0 j1 j2 j3 j4 : Nat) (X : tX) (L : tL) (r0 : Int32) (X0 : tX) (L0 : tL) (hf : fX2_readTower X L = some (r0, X0, L0)) : mmet l yX2_readTower cX2_readTower 6 (some .boolean) rmX2_readTower D cy z (wX cy k0 k1 X ++ wL cy j0 j1 j2 j3 j4 L) (wX cy k0 k1 X0 ++ wL cy j0 j1 j2 j3 j4 L0) [.ref k0, .ref j0] (some (.int r0)) := by
  refine mmet_of (by decide +kernel) (Nat.le_of_ble_eq_true rfl) (fun p e s m below meth c hx hb hr hml hown hts hlk hP hD hS hA0 hKK ls hl => ?_)
  have hown : s.vm.findClass "HillSight$MapText" = some m.cls := hown
  have hl : lv_has ls 6 [(0, .ref k0), (1, .ref j0)] := hl
  unfold fX2_readTower at hf
  refine lv_aload_n hx hb dX2_readTower_0 rfl (lv_at hl 1 rfl) ?_
  refine va_get (D := D) (ci := 1) (v := .int L.2.2.1) (C := RX1) (T := TX1) (N := 7) hx hb hts inX1 hown hKK.1 hP 2 rfl rfl 2 (by decide) (hts _ q82) (fun _ h => h) rfl dX2_readTower_1 ?_
  refine lv_iconst (v := 5) hx hb dX2_readTower_4 (by decide) ?_
  refine lv_icmp_lt (tgt := 10) hx hb dX2_readTower_5 (by decide) (fun h => ?_) (fun h => ?_)
  · have hf := (if_pos h).symm.trans hf
    refine lv_aload_n hx hb dX2_readTower_10 rfl (lv_at hl 0 rfl) ?_
    refine lv_dup hx hb dX2_readTower_11 rfl ?_
    refine va_get (D := D) (ci := 2) (v := .int X.2.2.1) (C := RX2) (T := TX2) (N := 4) hx hb hts inX2 hown hKK.1 hP 0 rfl rfl 2 (by decide) (hts _ q116) (fun _ h => h) rfl dX2_readTower_12 ?_
    refine lv_iconst (v := 1) hx hb dX2_readTower_15 (by decide) ?_
    refine lv_iadd hx hb dX2_readTower_16 ?_
    refine nm_i hf (fun x1 hf => ?_)
    refine va_put (D := D) (ci := 2) (v := .int x1) (ty := .int) (C := RX2) (T := TX2) (N := 4) hx hb hts inX2 tyX2 tyX2_ok nmX2 hown hKK.1 hP hD hS 0 rfl rfl 2 (by decide) (hts _ q116) (fun _ h => h) rfl (by decide +kernel) rfl rfl (Nat.le_of_ble_eq_true rfl) dX2_readTower_17 (fun H locs hP hD hS => ?_)
    have hP : va_P D vwCl (wX cy k0 k1 (X.1, X.2.1, x1, X.2.2.2) ++ wL cy j0 j1 j2 j3 j4 L) H := hP
    have hD : va_D (adr (wX cy k0 k1 X ++ wL cy j0 j1 j2 j3 j4 L)) (wX cy k0 k1 (X.1, X.2.1, x1, X.2.2.2) ++ wL cy j0 j1 j2 j3 j4 L) := hD
    refine lv_aload_n hx hb dX2_readTower_20 rfl (lv_at hl 1 rfl) ?_
    obtain ⟨r3, hc2, hf⟩ := bd_some hf
    have hP1 := hP.sub (ws' := wL cy j0 j1 j2 j3 j4 L) [2, 3, 4, 5, 6] rfl
    refine pCallVI ⟨hx, hb, hml, hown, hts⟩ (mtX1_cellCount l D cy z j0 j1 j2 j3 j4 L r3 hc2) miX1_cellCount q235 ⟨Nat.le_of_ble_eq_true rfl, Nat.le_of_ble_eq_true rfl⟩ ⟨rfl, rfl⟩ hP1 hKK hS hA0 (va_recv hKK.1 hP1 (ci := 1) (q0 := 0) rfl rfl) rfl hl.1 rfl (Nat.le_of_ble_eq_true rfl) dX2_readTower_21 ⟨Nat.zero_le _, Nat.zero_le _⟩ ?_
    refine lv_iconst (v := 1) hx hb dX2_readTower_24 (by decide) ?_
    refine lv_isub hx hb dX2_readTower_25 ?_
    refine nm_i hf (fun x4 hf => ?_)
    refine lv_istore_n (lv' := [(2, .int x4), (0, .ref k0), (1, .ref j0)]) hx hb dX2_readTower_26 rfl hl (by decide) rfl (fun ls hl => ?_)
    refine lv_aload_n hx hb dX2_readTower_27 rfl (lv_at hl 1 rfl) ?_
    refine lv_iconst (v := 0) hx hb dX2_readTower_28 (by decide) ?_
    refine lv_iload_n hx hb dX2_readTower_29 rfl (lv_at hl 0 rfl) ?_
    refine lv_bipush (v := 10) hx hb dX2_readTower_30 (by decide) ?_
    refine lv_idiv hx hb dX2_readTower_32 (by decide) ?_
    obtain ⟨y6, hc5, hf⟩ := bd_some hf
    have hP1 := hP.sub (ws' := wX cy k0 k1 (X.1, X.2.1, x1, X.2.2.2)) [0, 1] rfl
    have hD1 := hD.sub (ws' := wX cy k0 k1 (X.1, X.2.1, x1, X.2.2.2)) [0, 1] (by decide) rfl
    refine mCallVI ⟨hx, hb, hml, hown, hts⟩ (mtX2_readDigit l D cy z k0 k1 (X.1, X.2.1, x1, X.2.2.2) (0 : Int32) (x4 / (10 : Int32)) y6.1 y6.2 hc5) miX2_readDigit q226 ⟨Nat.le_of_ble_eq_true rfl, Nat.le_of_ble_eq_true rfl⟩ ⟨rfl, rfl⟩ hP1 hD1 hKK hA0 (va_recv hKK.1 hP1 (ci := 2) (q0 := 0) rfl rfl) rfl hl.1 rfl (Nat.le_of_ble_eq_true rfl) dX2_readTower_33 ⟨Nat.zero_le _, Nat.zero_le _⟩ hS hP hD [0, 1] rfl rfl (ws' := wX cy k0 k1 y6.2 ++ wL cy j0 j1 j2 j3 j4 L) rfl (fun H locs hP hD hS => ?_)
    refine lv_istore_n (lv' := [(3, .int y6.1), (2, .int x4), (0, .ref k0), (1, .ref j0)]) hx hb dX2_readTower_36 rfl hl (by decide) rfl (fun ls hl => ?_)
    refine lv_iload_n hx hb dX2_readTower_37 rfl (lv_at hl 0 rfl) ?_
    refine lv_if_ge (tgt := 45) hx hb dX2_readTower_38 (by decide) (fun h => ?_) (fun h => ?_)
    · have hf := (if_pos h).symm.trans hf
      refine lv_aload_n hx hb dX2_readTower_45 rfl (lv_at hl 2 rfl) ?_
      refine lv_iconst (v := 0) hx hb dX2_readTower_46 (by decide) ?_
      refine lv_bipush (v := 9) hx hb dX2_readTower_47 (by decide) ?_
      refine lv_iload_n hx hb dX2_readTower_49 rfl (lv_at hl 1 rfl) ?_
      refine lv_bipush (v := 10) hx hb dX2_readTower_50 (by decide) ?_
      refine lv_iload_n hx hb dX2_readTower_52 rfl (lv_at hl 0 rfl) ?_
      refine lv_imul hx hb dX2_readTower_53 ?_
      refine lv_isub hx hb dX2_readTower_54 ?_
      refine va_mmin hx hb (hml.trans hl.1.symm) hown (hts _ q255) (hts _ q256) (hts _ q47) (hts _ q257) (Nat.le_of_ble_eq_true rfl) (Nat.le_of_ble_eq_true rfl) (Nat.zero_le _) (Nat.zero_le _) dX2_readTower_55 ?_
      obtain ⟨y8, hc7, hf⟩ := bd_some hf
      have hP1 := hP.sub (ws' := wX cy k0 k1 y6.2) [0, 1] rfl
      have hD1 := hD.sub (ws' := wX cy k0 k1 y6.2) [0, 1] (by decide) rfl
      refine mCallVI ⟨hx, hb, hml, hown, hts⟩ (mtX2_readDigit l D cy z k0 k1 y6.2 (0 : Int32) (if (x4 - ((10 : Int32) * y6.1)) < (9 : Int32) then (x4 - ((10 : Int32) * y6.1)) else (9 : Int32)) y8.1 y8.2 hc7) miX2_readDigit q226 ⟨Nat.le_of_ble_eq_true rfl, Nat.le_of_ble_eq_true rfl⟩ ⟨rfl, rfl⟩ hP1 hD1 hKK hA0 (va_recv hKK.1 hP1 (ci := 2) (q0 := 0) rfl rfl) rfl hl.1 rfl (Nat.le_of_ble_eq_true rfl) dX2_readTower_58 ⟨Nat.zero_le _, Nat.zero_le _⟩ hS hP hD [0, 1] rfl rfl (ws' := wX cy k0 k1 y8.2 ++ wL cy j0 j1 j2 j3 j4 L) rfl (fun H locs hP hD hS => ?_)
      refine lv_istore (lv' := [(4, .int y8.1), (3, .int y6.1), (2, .int x4), (0, .ref k0), (1, .ref j0)]) hx hb dX2_readTower_61 hl (by decide) rfl (fun ls hl => ?_)
      refine lv_iload hx hb dX2_readTower_63 (lv_at hl 0 rfl) ?_
      refine lv_if_ge (tgt := 72) hx hb dX2_readTower_65 (by decide) (fun h => ?_) (fun h => ?_)
      · have hf := (if_pos h).symm.trans hf
        refine lv_aload_n hx hb dX2_readTower_72 rfl (lv_at hl 3 rfl) ?_
        refine lv_iconst (v := 0) hx hb dX2_readTower_73 (by decide) ?_
        refine lv_bipush (v := 9) hx hb dX2_readTower_74 (by decide) ?_
        obtain ⟨y10, hc9, hf⟩ := bd_some hf
        have hP1 := hP.sub (ws' := wX cy k0 k1 y8.2) [0, 1] rfl
        have hD1 := hD.sub (ws' := wX cy k0 k1 y8.2) [0, 1] (by decide) rfl
        refine mCallVI ⟨hx, hb, hml, hown, hts⟩ (mtX2_readDigit l D cy z k0 k1 y8.2 (0 : Int32) (9 : Int32) y10.1 y10.2 hc9) miX2_readDigit q226 ⟨Nat.le_of_ble_eq_true rfl, Nat.le_of_ble_eq_true rfl⟩ ⟨rfl, rfl⟩ hP1 hD1 hKK hA0 (va_recv hKK.1 hP1 (ci := 2) (q0 := 0) rfl rfl) rfl hl.1 rfl (Nat.le_of_ble_eq_true rfl) dX2_readTower_76 ⟨Nat.zero_le _, Nat.zero_le _⟩ hS hP hD [0, 1] rfl rfl (ws' := wX cy k0 k1 y10.2 ++ wL cy j0 j1 j2 j3 j4 L) rfl (fun H locs hP hD hS => ?_)
        refine lv_istore (lv' := [(5, .int y10.1), (4, .int y8.1), (3, .int y6.1), (2, .int x4), (0, .ref k0), (1, .ref j0)]) hx hb dX2_readTower_79 hl (by decide) rfl (fun ls hl => ?_)
        refine lv_iload hx hb dX2_readTower_81 (lv_at hl 0 rfl) ?_
        refine lv_if_lt (tgt := 110) hx hb dX2_readTower_83 (by decide) (fun h => ?_) (fun h => ?_)
        · have hf := (if_pos h).symm.trans hf
          refine lv_iconst (v := 0) hx hb dX2_readTower_110 (by decide) ?_
          cases hf
          exact mretZ hx hb hr hlk (by decide) hP hS dX2_readTower_111
        · have hf := (if_neg h).symm.trans hf
          refine lv_aload_n hx hb dX2_readTower_86 rfl (lv_at hl 5 rfl) ?_
          refine lv_aload_n hx hb dX2_readTower_87 rfl (lv_at hl 5 rfl) ?_
          refine va_get (D := D) (ci := 1) (v := .int L.2.2.1) (C := RX1) (T := TX1) (N := 7) hx hb hts inX1 hown hKK.1 hP 2 rfl rfl 2 (by decide) (hts _ q82) (fun _ h => h) rfl dX2_readTower_88 ?_
          refine lv_bipush (v := 10) hx hb dX2_readTower_91 (by decide) ?_
          refine lv_iload_n hx hb dX2_readTower_93 rfl (lv_at hl 2 rfl) ?_
          refine lv_imul hx hb dX2_readTower_94 ?_
          refine lv_iload hx hb dX2_readTower_95 (lv_at hl 1 rfl) ?_
          refine lv_iadd hx hb dX2_readTower_97 ?_
          refine lv_iload hx hb dX2_readTower_98 (lv_at hl 0 rfl) ?_
          obtain ⟨y12, hc11, hf⟩ := bd_some hf
          have hP1 := hP.sub (ws' := wL cy j0 j1 j2 j3 j4 L) [2, 3, 4, 5, 6] rfl
          have hD1 := hD.sub (ws' := wL cy j0 j1 j2 j3 j4 L) [2, 3, 4, 5, 6] (by decide) rfl
          refine mCallVI ⟨hx, hb, hml, hown, hts⟩ (mtX1_putTower l D cy z j0 j1 j2 j3 j4 L L.2.2.1 (((10 : Int32) * y6.1) + y8.1) y10.1 y12.1 y12.2 hc11) miX1_putTower q258 ⟨Nat.le_of_ble_eq_true rfl, Nat.le_of_ble_eq_true rfl⟩ ⟨rfl, rfl⟩ hP1 hD1 hKK hA0 (va_recv hKK.1 hP1 (ci := 1) (q0 := 0) rfl rfl) rfl hl.1 rfl (Nat.le_of_ble_eq_true rfl) dX2_readTower_100 ⟨Nat.zero_le _, Nat.zero_le _⟩ hS hP hD [2, 3, 4, 5, 6] rfl rfl (ws' := wX cy k0 k1 y10.2 ++ wL cy j0 j1 j2 j3 j4 y12.2) rfl (fun H locs hP hD hS => ?_)
          refine lv_if_eq (tgt := 110) hx hb dX2_readTower_103 (by decide) (fun h => ?_) (fun h => ?_)
          · have hf := (if_pos h).symm.trans hf
            refine lv_iconst (v := 0) hx hb dX2_readTower_110 (by decide) ?_
            cases hf
            exact mretZ hx hb hr hlk (by decide) hP hS dX2_readTower_111
          · have hf := (if_neg h).symm.trans hf
            refine lv_iconst (v := 1) hx hb dX2_readTower_106 (by decide) ?_
            refine lv_goto (tgt := 111) hx hb dX2_readTower_107 (by decide) ?_
            cases hf
            exact mretZ hx hb hr hlk (by decide) hP hS dX2_readTower_111
      · have hf := (if_neg h).symm.trans hf
        refine lv_iconst (v := -1) hx hb dX2_readTower_68 (by decide) ?_
        refine lv_goto (tgt := 79) hx hb dX2_readTower_69 (by decide) ?_
        refine lv_istore (lv' := [(5, .int (-1 : Int32)), (4, .int y8.1), (3, .int y6.1), (2, .int x4), (0, .ref k0), (1, .ref j0)]) hx hb dX2_readTower_79 hl (by decide) rfl (fun ls hl => ?_)
        refine lv_iload hx hb dX2_readTower_81 (lv_at hl 0 rfl) ?_
        refine lv_if_lt (tgt := 110) hx hb dX2_readTower_83 (by decide) (fun _ => ?_) (fun h => absurd h (by decide))
        refine lv_iconst (v := 0) hx hb dX2_readTower_110 (by decide) ?_
        cases hf
        exact mretZ hx hb hr hlk (by decide) hP hS dX2_readTower_111
    · have hf := (if_neg h).symm.trans hf
      refine lv_iconst (v := -1) hx hb dX2_readTower_41 (by decide) ?_
      refine lv_goto (tgt := 61) hx hb dX2_readTower_42 (by decide) ?_
      refine lv_istore (lv' := [(4, .int (-1 : Int32)), (3, .int y6.1), (2, .int x4), (0, .ref k0), (1, .ref j0)]) hx hb dX2_readTower_61 hl (by decide) rfl (fun ls hl => ?_)
      refine lv_iload hx hb dX2_readTower_63 (lv_at hl 0 rfl) ?_
      refine lv_if_ge (tgt := 72) hx hb dX2_readTower_65 (by decide) (fun h => absurd h (by decide)) (fun _ => ?_)
      refine lv_iconst (v := -1) hx hb dX2_readTower_68 (by decide) ?_
      refine lv_goto (tgt := 79) hx hb dX2_readTower_69 (by decide) ?_
      refine lv_istore (lv' := [(5, .int (-1 : Int32)), (4, .int (-1 : Int32)), (3, .int y6.1), (2, .int x4), (0, .ref k0), (1, .ref j0)]) hx hb dX2_readTower_79 hl (by decide) rfl (fun ls hl => ?_)
      refine lv_iload hx hb dX2_readTower_81 (lv_at hl 0 rfl) ?_
      refine lv_if_lt (tgt := 110) hx hb dX2_readTower_83 (by decide) (fun _ => ?_) (fun h => absurd h (by decide))
      refine lv_iconst (v := 0) hx hb dX2_readTower_110 (by decide) ?_
      cases hf
      exact mretZ hx hb hr hlk (by decide) hP hS dX2_readTower_111
  · have hf := (if_neg h).symm.trans hf
    refine lv_iconst (v := 0) hx hb dX2_readTower_8 (by decide) ?_
    cases hf
    exact mretZ hx hb hr hlk (by decide) hP hS dX2_readTower_9

abbrev rmX2_readSetting : Room := { frames := 4, cells := 0, slots := 0, locals := 91 }
theorem miX2_readSetting : miV yX2_readSetting cX2_readSetting 5 (some .boolean) 1 := ⟨q265, q43, q264, q5, by decide +kernel⟩
set_option maxHeartbeats 4000000 in
set_option maxRecDepth 100000 in
theorem mtX2_readSetting (l : Launch) (D : va_G) (cy : Nat → ClassId) (z : zT) (k0 k1 j0 j1 j2 j3 j4 : Nat) (X : tX) (L : tL) (r0 : Int32) (X0 : tX) (L0 : tL) (hf : fX2_readSetting X L = some (r0, X0, L0)) : mmet l yX2_readSetting cX2_readSetting 5 (some .boolean) rmX2_readSetting D cy z (wX cy k0 k1 X ++ wL cy j0 j1 j2 j3 j4 L) (wX cy k0 k1 X0 ++ wL cy j0 j1 j2 j3 j4 L0) [.ref k0, .ref j0] (some (.int r0)) := by
  refine mmet_of (by decide +kernel) (Nat.le_of_ble_eq_true rfl) (fun p e s m below meth c hx hb hr hml hown hts hlk hP hD hS hA0 hKK ls hl => ?_)
  have hown : s.vm.findClass "HillSight$MapText" = some m.cls := hown
  have hl : lv_has ls 5 [(0, .ref k0), (1, .ref j0)] := hl
  unfold fX2_readSetting at hf
  refine lv_aload_n hx hb dX2_readSetting_0 rfl (lv_at hl 0 rfl) ?_
  obtain ⟨r2, hc1, hf⟩ := bd_some hf
  have hP1 := hP.sub (ws' := wX cy k0 k1 X) [0, 1] rfl
  refine pCallVI ⟨hx, hb, hml, hown, hts⟩ (mtX2_nextLetter l D cy z k0 k1 X r2 hc1) miX2_nextLetter q222 ⟨Nat.le_of_ble_eq_true rfl, Nat.le_of_ble_eq_true rfl⟩ ⟨rfl, rfl⟩ hP1 hKK hS hA0 (va_recv hKK.1 hP1 (ci := 2) (q0 := 0) rfl rfl) rfl hl.1 rfl (Nat.le_of_ble_eq_true rfl) dX2_readSetting_1 ⟨Nat.zero_le _, Nat.zero_le _⟩ ?_
  refine lv_istore_n (lv' := [(2, .int r2), (0, .ref k0), (1, .ref j0)]) hx hb dX2_readSetting_4 rfl hl (by decide) rfl (fun ls hl => ?_)
  refine lv_iload_n hx hb dX2_readSetting_5 rfl (lv_at hl 0 rfl) ?_
  refine lv_if_ge (tgt := 13) hx hb dX2_readSetting_6 (by decide) (fun h => ?_) (fun h => ?_)
  · have hf := (if_pos h).symm.trans hf
    refine va_ldcS hx hb hown hKK.2.2.2.2.2.2.2.2 dX2_readSetting_13 ?_
    refine lv_iload_n hx hb dX2_readSetting_15 rfl (lv_at hl 0 rfl) ?_
    refine lv_i2c hx hb dX2_readSetting_16 rfl ?_
    obtain ⟨r4, hc3, hf⟩ := bd_some hf
    have hP1 := hP.sub (ws' := []) [] rfl
    refine pCallVI ⟨hx, hb, hml, hown, hts⟩ (mtJ0_indexOf_0f7a4 l D cy z ((r2.toUInt32 % 65536).toInt32) r4 hc3) miJ0_indexOf_0f7a4 q267 ⟨Nat.le_of_ble_eq_true rfl, Nat.le_of_ble_eq_true rfl⟩ ⟨rfl, rfl⟩ hP1 hKK hS hA0 (vk_recv (i := 0) hKK.2.2.2.2.2.2.2.1 (by decide) (hS.wid hA0)) rfl hl.1 rfl (Nat.le_of_ble_eq_true rfl) dX2_readSetting_17 ⟨Nat.zero_le _, Nat.zero_le _⟩ ?_
    refine lv_istore_n (lv' := [(3, .int r4), (2, .int r2), (0, .ref k0), (1, .ref j0)]) hx hb dX2_readSetting_20 rfl hl (by decide) rfl (fun ls hl => ?_)
    refine lv_iload_n hx hb dX2_readSetting_21 rfl (lv_at hl 0 rfl) ?_
    refine lv_if_lt (tgt := 36) hx hb dX2_readSetting_22 (by decide) (fun h => ?_) (fun h => ?_)
    · have hf := (if_pos h).symm.trans hf
      refine lv_iconst (v := 0) hx hb dX2_readSetting_36 (by decide) ?_
      cases hf
      exact mretZ hx hb hr hlk (by decide) hP hS dX2_readSetting_37
    · have hf := (if_neg h).symm.trans hf
      refine lv_aload_n hx hb dX2_readSetting_25 rfl (lv_at hl 2 rfl) ?_
      refine va_get (D := D) (ci := 2) (v := .int X.2.2.2) (C := RX2) (T := TX2) (N := 4) hx hb hts inX2 hown hKK.1 hP 0 rfl rfl 3 (by decide) (hts _ q118) (fun _ h => h) rfl dX2_readSetting_26 ?_
      refine lv_iload_n hx hb dX2_readSetting_29 rfl (lv_at hl 0 rfl) ?_
      refine lv_ishr hx hb dX2_readSetting_30 ?_
      refine lv_iconst (v := 1) hx hb dX2_readSetting_31 (by decide) ?_
      refine lv_iand hx hb dX2_readSetting_32 ?_
      refine lv_if_eq (tgt := 38) hx hb dX2_readSetting_33 (by decide) (fun h => ?_) (fun h => ?_)
      · have hf := (if_pos h).symm.trans hf
        refine lv_aload_n hx hb dX2_readSetting_38 rfl (lv_at hl 2 rfl) ?_
        refine lv_dup hx hb dX2_readSetting_39 rfl ?_
        refine va_get (D := D) (ci := 2) (v := .int X.2.2.1) (C := RX2) (T := TX2) (N := 4) hx hb hts inX2 hown hKK.1 hP 0 rfl rfl 2 (by decide) (hts _ q116) (fun _ h => h) rfl dX2_readSetting_40 ?_
        refine lv_iconst (v := 1) hx hb dX2_readSetting_43 (by decide) ?_
        refine lv_iadd hx hb dX2_readSetting_44 ?_
        refine nm_i hf (fun x5 hf => ?_)
        refine va_put (D := D) (ci := 2) (v := .int x5) (ty := .int) (C := RX2) (T := TX2) (N := 4) hx hb hts inX2 tyX2 tyX2_ok nmX2 hown hKK.1 hP hD hS 0 rfl rfl 2 (by decide) (hts _ q116) (fun _ h => h) rfl (by decide +kernel) rfl rfl (Nat.le_of_ble_eq_true rfl) dX2_readSetting_45 (fun H locs hP hD hS => ?_)
        have hP : va_P D vwCl (wX cy k0 k1 (X.1, X.2.1, x5, X.2.2.2) ++ wL cy j0 j1 j2 j3 j4 L) H := hP
        have hD : va_D (adr (wX cy k0 k1 X ++ wL cy j0 j1 j2 j3 j4 L)) (wX cy k0 k1 (X.1, X.2.1, x5, X.2.2.2) ++ wL cy j0 j1 j2 j3 j4 L) := hD
        refine lv_aload_n hx hb dX2_readSetting_48 rfl (lv_at hl 2 rfl) ?_
        refine lv_iload_n hx hb dX2_readSetting_49 rfl (lv_at hl 0 rfl) ?_
        obtain ⟨r7, hc6, hf⟩ := bd_some hf
        have hP1 := hP.sub (ws' := []) [] rfl
        refine pCallSNI ⟨hx, hb, hml, hown, hts⟩ (mtX4_lowestValue l D cy z r4 r7 hc6) miX4_lowestValue hKK.2.1.1 ⟨Nat.le_of_ble_eq_true rfl, Nat.le_of_ble_eq_true rfl⟩ ⟨rfl, rfl⟩ hP1 hKK hS hA0 rfl hl.1 rfl (Nat.le_of_ble_eq_true rfl) dX2_readSetting_50 ⟨Nat.zero_le _, Nat.zero_le _⟩ ?_
        refine lv_bipush (v := 9) hx hb dX2_readSetting_53 (by decide) ?_
        obtain ⟨y9, hc8, hf⟩ := bd_some hf
        have hP1 := hP.sub (ws' := wX cy k0 k1 (X.1, X.2.1, x5, X.2.2.2)) [0, 1] rfl
        have hD1 := hD.sub (ws' := wX cy k0 k1 (X.1, X.2.1, x5, X.2.2.2)) [0, 1] (by decide) rfl
        refine mCallVI ⟨hx, hb, hml, hown, hts⟩ (mtX2_readDigit l D cy z k0 k1 (X.1, X.2.1, x5, X.2.2.2) r7 (9 : Int32) y9.1 y9.2 hc8) miX2_readDigit q226 ⟨Nat.le_of_ble_eq_true rfl, Nat.le_of_ble_eq_true rfl⟩ ⟨rfl, rfl⟩ hP1 hD1 hKK hA0 (va_recv hKK.1 hP1 (ci := 2) (q0 := 0) rfl rfl) rfl hl.1 rfl (Nat.le_of_ble_eq_true rfl) dX2_readSetting_55 ⟨Nat.zero_le _, Nat.zero_le _⟩ hS hP hD [0, 1] rfl rfl (ws' := wX cy k0 k1 y9.2 ++ wL cy j0 j1 j2 j3 j4 L) rfl (fun H locs hP hD hS => ?_)
        refine lv_istore (lv' := [(4, .int y9.1), (3, .int r4), (2, .int r2), (0, .ref k0), (1, .ref j0)]) hx hb dX2_readSetting_58 hl (by decide) rfl (fun ls hl => ?_)
        refine lv_aload_n hx hb dX2_readSetting_60 rfl (lv_at hl 3 rfl) ?_
        refine lv_dup hx hb dX2_readSetting_61 rfl ?_
        refine va_get (D := D) (ci := 2) (v := .int y9.2.2.2.2) (C := RX2) (T := TX2) (N := 4) hx hb hts inX2 hown hKK.1 hP 0 rfl rfl 3 (by decide) (hts _ q118) (fun _ h => h) rfl dX2_readSetting_62 ?_
        refine lv_iconst (v := 1) hx hb dX2_readSetting_65 (by decide) ?_
        refine lv_iload_n hx hb dX2_readSetting_66 rfl (lv_at hl 1 rfl) ?_
        refine lv_ishl hx hb dX2_readSetting_67 ?_
        refine lv_ior hx hb dX2_readSetting_68 ?_
        refine nm_i hf (fun x10 hf => ?_)
        refine va_put (D := D) (ci := 2) (v := .int x10) (ty := .int) (C := RX2) (T := TX2) (N := 4) hx hb hts inX2 tyX2 tyX2_ok nmX2 hown hKK.1 hP hD hS 0 rfl rfl 3 (by decide) (hts _ q118) (fun _ h => h) rfl (by decide +kernel) rfl rfl (Nat.le_of_ble_eq_true rfl) dX2_readSetting_69 (fun H locs hP hD hS => ?_)
        have hP : va_P D vwCl (wX cy k0 k1 (y9.2.1, y9.2.2.1, y9.2.2.2.1, x10) ++ wL cy j0 j1 j2 j3 j4 L) H := hP
        have hD : va_D (adr (wX cy k0 k1 X ++ wL cy j0 j1 j2 j3 j4 L)) (wX cy k0 k1 (y9.2.1, y9.2.2.1, y9.2.2.2.1, x10) ++ wL cy j0 j1 j2 j3 j4 L) := hD
        refine lv_iload hx hb dX2_readSetting_72 (lv_at hl 0 rfl) ?_
        refine lv_if_lt (tgt := 91) hx hb dX2_readSetting_74 (by decide) (fun h => ?_) (fun h => ?_)
        · have hf := (if_pos h).symm.trans hf
          refine lv_iconst (v := 0) hx hb dX2_readSetting_91 (by decide) ?_
          cases hf
          exact mretZ hx hb hr hlk (by decide) hP hS dX2_readSetting_92
        · have hf := (if_neg h).symm.trans hf
          refine lv_aload_n hx hb dX2_readSetting_77 rfl (lv_at hl 4 rfl) ?_
          refine lv_iload_n hx hb dX2_readSetting_78 rfl (lv_at hl 1 rfl) ?_
          refine lv_iload hx hb dX2_readSetting_79 (lv_at hl 0 rfl) ?_
          obtain ⟨y12, hc11, hf⟩ := bd_some hf
          have hP1 := hP.sub (ws' := wL cy j0 j1 j2 j3 j4 L) [2, 3, 4, 5, 6] rfl
          have hD1 := hD.sub (ws' := wL cy j0 j1 j2 j3 j4 L) [2, 3, 4, 5, 6] (by decide) rfl
          refine mCallVI ⟨hx, hb, hml, hown, hts⟩ (mtX1_putSetting l D cy z j0 j1 j2 j3 j4 L r4 y9.1 y12.1 y12.2 hc11) miX1_putSetting q354 ⟨Nat.le_of_ble_eq_true rfl, Nat.le_of_ble_eq_true rfl⟩ ⟨rfl, rfl⟩ hP1 hD1 hKK hA0 (va_recv hKK.1 hP1 (ci := 1) (q0 := 0) rfl rfl) rfl hl.1 rfl (Nat.le_of_ble_eq_true rfl) dX2_readSetting_81 ⟨Nat.zero_le _, Nat.zero_le _⟩ hS hP hD [2, 3, 4, 5, 6] rfl rfl (ws' := wX cy k0 k1 (y9.2.1, y9.2.2.1, y9.2.2.2.1, x10) ++ wL cy j0 j1 j2 j3 j4 y12.2) rfl (fun H locs hP hD hS => ?_)
          refine lv_if_eq (tgt := 91) hx hb dX2_readSetting_84 (by decide) (fun h => ?_) (fun h => ?_)
          · have hf := (if_pos h).symm.trans hf
            refine lv_iconst (v := 0) hx hb dX2_readSetting_91 (by decide) ?_
            cases hf
            exact mretZ hx hb hr hlk (by decide) hP hS dX2_readSetting_92
          · have hf := (if_neg h).symm.trans hf
            refine lv_iconst (v := 1) hx hb dX2_readSetting_87 (by decide) ?_
            refine lv_goto (tgt := 92) hx hb dX2_readSetting_88 (by decide) ?_
            cases hf
            exact mretZ hx hb hr hlk (by decide) hP hS dX2_readSetting_92
      · have hf := (if_neg h).symm.trans hf
        refine lv_iconst (v := 0) hx hb dX2_readSetting_36 (by decide) ?_
        cases hf
        exact mretZ hx hb hr hlk (by decide) hP hS dX2_readSetting_37
  · have hf := (if_neg h).symm.trans hf
    refine lv_iconst (v := -1) hx hb dX2_readSetting_9 (by decide) ?_
    refine lv_goto (tgt := 20) hx hb dX2_readSetting_10 (by decide) ?_
    refine lv_istore_n (lv' := [(3, .int (-1 : Int32)), (2, .int r2), (0, .ref k0), (1, .ref j0)]) hx hb dX2_readSetting_20 rfl hl (by decide) rfl (fun ls hl => ?_)
    refine lv_iload_n hx hb dX2_readSetting_21 rfl (lv_at hl 0 rfl) ?_
    refine lv_if_lt (tgt := 36) hx hb dX2_readSetting_22 (by decide) (fun _ => ?_) (fun h => absurd h (by decide))
    refine lv_iconst (v := 0) hx hb dX2_readSetting_36 (by decide) ?_
    cases hf
    exact mretZ hx hb hr hlk (by decide) hP hS dX2_readSetting_37

abbrev rmX2_readParts : Room := { frames := 5, cells := 0, slots := 0, locals := 115 }
theorem miX2_readParts : miV yX2_readParts cX2_readParts 4 (some .boolean) 1 := ⟨q250, q43, q249, q3, by decide +kernel⟩
set_option maxHeartbeats 4000000 in
set_option maxRecDepth 100000 in
theorem mtX2_readParts (l : Launch) (D : va_G) (cy : Nat → ClassId) (z : zT) (k0 k1 j0 j1 j2 j3 j4 : Nat) (X : tX) (L : tL) (r0 : Int32) (X0 : tX) (L0 : tL) (hf : fX2_readParts X L = some (r0, X0, L0)) : mmet l yX2_readParts cX2_readParts 4 (some .boolean) rmX2_readParts D cy z (wX cy k0 k1 X ++ wL cy j0 j1 j2 j3 j4 L) (wX cy k0 k1 X0 ++ wL cy j0 j1 j2 j3 j4 L0) [.ref k0, .ref j0] (some (.int r0)) := by
  refine mmet_of (by decide +kernel) (Nat.le_of_ble_eq_true rfl) (fun p e s m below meth c hx hb hr hml hown hts hlk hP hD hS hA0 hKK ls hl => ?_)
  have hown : s.vm.findClass "HillSight$MapText" = some m.cls := hown
  have hl : lv_has ls 4 [(0, .ref k0), (1, .ref j0)] := hl
  have w_2 : ∀ (k46 : tX → tL → Option (Int32 × tX × tL)) (hk46 : ∀ (X_2 : tX) (L_2 : tL) (H : Heap) (locs : List Loc) (ls : Array Slot), k46 X_2 L_2 = some (r0, X0, L0) → va_P D vwCl (wX cy k0 k1 X_2 ++ wL cy j0 j1 j2 j3 j4 L_2) H → va_D (adr (wX cy k0 k1 X ++ wL cy j0 j1 j2 j3 j4 L)) (wX cy k0 k1 X_2 ++ wL cy j0 j1 j2 j3 j4 L_2) → va_S (adr (wX cy k0 k1 X ++ wL cy j0 j1 j2 j3 j4 L)) s.heap H locs → lv_has ls 4 [] → W p l e rmX2_readParts s m ([.ref k0, .ref j0] : List Value).toArray below meth c H locs 0 0 (MQ below (mQ D (wX cy k0 k1 X ++ wL cy j0 j1 j2 j3 j4 L) (wX cy k0 k1 X0 ++ wL cy j0 j1 j2 j3 j4 L0) (some (.int r0))) ([.ref k0, .ref j0] : List Value).toArray s 0 0 (adr (wX cy k0 k1 X ++ wL cy j0 j1 j2 j3 j4 L))) (F0 m 46 ls [])) (k54 : tX → tL → Option (Int32 × tX × tL)) (hk54 : ∀ (X_2 : tX) (L_2 : tL) (H : Heap) (locs : List Loc) (ls : Array Slot), k54 X_2 L_2 = some (r0, X0, L0) → va_P D vwCl (wX cy k0 k1 X_2 ++ wL cy j0 j1 j2 j3 j4 L_2) H → va_D (adr (wX cy k0 k1 X ++ wL cy j0 j1 j2 j3 j4 L)) (wX cy k0 k1 X_2 ++ wL cy j0 j1 j2 j3 j4 L_2) → va_S (adr (wX cy k0 k1 X ++ wL cy j0 j1 j2 j3 j4 L)) s.heap H locs → lv_has ls 4 [] → W p l e rmX2_readParts s m ([.ref k0, .ref j0] : List Value).toArray below meth c H locs 0 0 (MQ below (mQ D (wX cy k0 k1 X ++ wL cy j0 j1 j2 j3 j4 L) (wX cy k0 k1 X0 ++ wL cy j0 j1 j2 j3 j4 L0) (some (.int r0))) ([.ref k0, .ref j0] : List Value).toArray s 0 0 (adr (wX cy k0 k1 X ++ wL cy j0 j1 j2 j3 j4 L))) (F0 m 54 ls [])) (n : Nat) (v2_2 : Int32) (X_2 : tX) (L_2 : tL) (H : Heap) (locs : List Loc) (ls : Array Slot), fX2_readParts_2 k46 k54 n v2_2 X_2 L_2 = some (r0, X0, L0) → va_P D vwCl (wX cy k0 k1 X_2 ++ wL cy j0 j1 j2 j3 j4 L_2) H → va_D (adr (wX cy k0 k1 X ++ wL cy j0 j1 j2 j3 j4 L)) (wX cy k0 k1 X_2 ++ wL cy j0 j1 j2 j3 j4 L_2) → va_S (adr (wX cy k0 k1 X ++ wL cy j0 j1 j2 j3 j4 L)) s.heap H locs → lv_has ls 4 [(0, .ref k0), (1, .ref j0), (2, .int v2_2)] → W p l e rmX2_readParts s m ([.ref k0, .ref j0] : List Value).toArray below meth c H locs 0 0 (MQ below (mQ D (wX cy k0 k1 X ++ wL cy j0 j1 j2 j3 j4 L) (wX cy k0 k1 X0 ++ wL cy j0 j1 j2 j3 j4 L0) (some (.int r0))) ([.ref k0, .ref j0] : List Value).toArray s 0 0 (adr (wX cy k0 k1 X ++ wL cy j0 j1 j2 j3 j4 L))) (F0 m 2 ls []) := by
    intro k46 hk46 k54 hk54 n
    induction n with
    | zero =>
      intro v2_2 X_2 L_2 H locs ls hf hP hD hS hl
      cases (show (none : Option (Int32 × tX × tL)) = some (r0, X0, L0) from hf)
    | succ n ih =>
      intro v2_2 X_2 L_2 H locs ls hf hP hD hS hl
      rw [fX2_readParts_2] at hf
      refine lv_iload_n hx hb dX2_readParts_2 rfl (lv_at hl 2 rfl) ?_
      refine lv_bipush (v := 90) hx hb dX2_readParts_3 (by decide) ?_
      refine lv_icmp_ge (tgt := 54) hx hb dX2_readParts_5 (by decide) (fun h => ?_) (fun h => ?_)
      · have hf := (if_pos h).symm.trans hf
        exact hk54 X_2 L_2 _ _ ls hf hP hD hS (lv_sub hl [] rfl)
      · have hf := (if_neg h).symm.trans hf
        refine lv_aload_n hx hb dX2_readParts_8 rfl (lv_at hl 0 rfl) ?_
        refine va_get (D := D) (ci := 2) (v := .int X_2.2.2.1) (C := RX2) (T := TX2) (N := 4) hx hb hts inX2 hown hKK.1 hP 0 rfl rfl 2 (by decide) (hts _ q116) (fun _ h => h) rfl dX2_readParts_9 ?_
        refine lv_aload_n hx hb dX2_readParts_12 rfl (lv_at hl 0 rfl) ?_
        refine va_get (D := D) (ci := 2) (v := .int X_2.2.1) (C := RX2) (T := TX2) (N := 4) hx hb hts inX2 hown hKK.1 hP 0 rfl rfl 1 (by decide) (hts _ q114) (fun _ h => h) rfl dX2_readParts_13 ?_
        refine lv_icmp_ge (tgt := 54) hx hb dX2_readParts_16 (by decide) (fun h => ?_) (fun h => ?_)
        · have hf := (if_pos h).symm.trans hf
          exact hk54 X_2 L_2 _ _ ls hf hP hD hS (lv_sub hl [] rfl)
        · have hf := (if_neg h).symm.trans hf
          refine lv_aload_n hx hb dX2_readParts_19 rfl (lv_at hl 0 rfl) ?_
          obtain ⟨r2, hc1, hf⟩ := bd_some hf
          have hP1 := hP.sub (ws' := wX cy k0 k1 X_2) [0, 1] rfl
          refine pCallVI ⟨hx, hb, hml, hown, hts⟩ (mtX2_nextLetter l D cy z k0 k1 X_2 r2 hc1) miX2_nextLetter q222 ⟨Nat.le_of_ble_eq_true rfl, Nat.le_of_ble_eq_true rfl⟩ ⟨rfl, rfl⟩ hP1 hKK hS hA0 (va_recv hKK.1 hP1 (ci := 2) (q0 := 0) rfl rfl) rfl hl.1 rfl (Nat.le_of_ble_eq_true rfl) dX2_readParts_20 ⟨Nat.zero_le _, Nat.zero_le _⟩ ?_
          refine lv_bipush (v := 116) hx hb dX2_readParts_23 (by decide) ?_
          refine lv_icmp_ne (tgt := 36) hx hb dX2_readParts_25 (by decide) (fun h => ?_) (fun h => ?_)
          · have hf := (if_neg h).symm.trans hf
            refine lv_aload_n hx hb dX2_readParts_36 rfl (lv_at hl 0 rfl) ?_
            refine lv_aload_n hx hb dX2_readParts_37 rfl (lv_at hl 1 rfl) ?_
            obtain ⟨y4, hc3, hf⟩ := bd_some hf
            refine mCallWVI ⟨hx, hb, hml, hown, hts⟩ (mtX2_readSetting l D cy z k0 k1 j0 j1 j2 j3 j4 X_2 L_2 y4.1 y4.2.1 y4.2.2 hc3) miX2_readSetting q262 ⟨Nat.le_of_ble_eq_true rfl, Nat.le_of_ble_eq_true rfl⟩ ⟨rfl, rfl⟩ hP hD hKK hA0 (va_recv hKK.1 hP (ci := 2) (q0 := 0) rfl rfl) rfl hl.1 rfl (Nat.le_of_ble_eq_true rfl) dX2_readParts_38 ⟨Nat.zero_le _, Nat.zero_le _⟩ hS rfl (fun H locs hP hD hS => ?_)
            have hP : va_P D vwCl (wX cy k0 k1 y4.2.1 ++ wL cy j0 j1 j2 j3 j4 y4.2.2) H := hP
            have hD : va_D (adr (wX cy k0 k1 X ++ wL cy j0 j1 j2 j3 j4 L)) (wX cy k0 k1 y4.2.1 ++ wL cy j0 j1 j2 j3 j4 y4.2.2) := hD
            refine lv_istore_n (lv' := [(3, .int y4.1), (0, .ref k0), (1, .ref j0), (2, .int v2_2)]) hx hb dX2_readParts_41 rfl hl (by decide) rfl (fun ls hl => ?_)
            refine lv_iload_n hx hb dX2_readParts_42 rfl (lv_at hl 0 rfl) ?_
            refine lv_if_ne (tgt := 48) hx hb dX2_readParts_43 (by decide) (fun h => ?_) (fun h => ?_)
            · have hf := (if_neg h).symm.trans hf
              obtain ⟨x5, ex5, hf⟩ := nm_ex hf
              refine lv_iinc (v := x5) (lv' := [(2, .int x5), (3, .int y4.1), (0, .ref k0), (1, .ref j0)]) hx hb dX2_readParts_48 hl (k := 3) rfl (Eq.trans rfl ex5) (by decide) rfl (fun ls hl => ?_)
              refine lv_goto (tgt := 2) hx hb dX2_readParts_51 (by decide) ?_
              exact ih x5 y4.2.1 y4.2.2 _ _ ls hf hP hD hS (lv_sub hl [2, 3, 0] rfl)
            · have hf := (if_pos h).symm.trans hf
              exact hk46 y4.2.1 y4.2.2 _ _ ls hf hP hD hS (lv_sub hl [] rfl)
          · have hf := (if_pos h).symm.trans hf
            refine lv_aload_n hx hb dX2_readParts_28 rfl (lv_at hl 0 rfl) ?_
            refine lv_aload_n hx hb dX2_readParts_29 rfl (lv_at hl 1 rfl) ?_
            obtain ⟨y7, hc6, hf⟩ := bd_some hf
            refine mCallWVI ⟨hx, hb, hml, hown, hts⟩ (mtX2_readTower l D cy z k0 k1 j0 j1 j2 j3 j4 X_2 L_2 y7.1 y7.2.1 y7.2.2 hc6) miX2_readTower q251 ⟨Nat.le_of_ble_eq_true rfl, Nat.le_of_ble_eq_true rfl⟩ ⟨rfl, rfl⟩ hP hD hKK hA0 (va_recv hKK.1 hP (ci := 2) (q0 := 0) rfl rfl) rfl hl.1 rfl (Nat.le_of_ble_eq_true rfl) dX2_readParts_30 ⟨Nat.zero_le _, Nat.zero_le _⟩ hS rfl (fun H locs hP hD hS => ?_)
            have hP : va_P D vwCl (wX cy k0 k1 y7.2.1 ++ wL cy j0 j1 j2 j3 j4 y7.2.2) H := hP
            have hD : va_D (adr (wX cy k0 k1 X ++ wL cy j0 j1 j2 j3 j4 L)) (wX cy k0 k1 y7.2.1 ++ wL cy j0 j1 j2 j3 j4 y7.2.2) := hD
            refine lv_goto (tgt := 41) hx hb dX2_readParts_33 (by decide) ?_
            refine lv_istore_n (lv' := [(3, .int y7.1), (0, .ref k0), (1, .ref j0), (2, .int v2_2)]) hx hb dX2_readParts_41 rfl hl (by decide) rfl (fun ls hl => ?_)
            refine lv_iload_n hx hb dX2_readParts_42 rfl (lv_at hl 0 rfl) ?_
            refine lv_if_ne (tgt := 48) hx hb dX2_readParts_43 (by decide) (fun h => ?_) (fun h => ?_)
            · have hf := (if_neg h).symm.trans hf
              obtain ⟨x8, ex8, hf⟩ := nm_ex hf
              refine lv_iinc (v := x8) (lv' := [(2, .int x8), (3, .int y7.1), (0, .ref k0), (1, .ref j0)]) hx hb dX2_readParts_48 hl (k := 3) rfl (Eq.trans rfl ex8) (by decide) rfl (fun ls hl => ?_)
              refine lv_goto (tgt := 2) hx hb dX2_readParts_51 (by decide) ?_
              exact ih x8 y7.2.1 y7.2.2 _ _ ls hf hP hD hS (lv_sub hl [2, 3, 0] rfl)
            · have hf := (if_pos h).symm.trans hf
              exact hk46 y7.2.1 y7.2.2 _ _ ls hf hP hD hS (lv_sub hl [] rfl)
  unfold fX2_readParts at hf
  refine lv_iconst (v := 0) hx hb dX2_readParts_0 (by decide) ?_
  refine lv_istore_n (lv' := [(2, .int (0 : Int32)), (0, .ref k0), (1, .ref j0)]) hx hb dX2_readParts_1 rfl hl (by decide) rfl (fun ls hl => ?_)
  refine w_2 _ ?_ _ ?_ _ (0 : Int32) X L _ _ ls hf hP hD hS (lv_sub hl [1, 2, 0] rfl)
  · intro X9 L10 H locs ls hf hP hD hS hl
    refine lv_iconst (v := 0) hx hb dX2_readParts_46 (by decide) ?_
    cases hf
    exact mretZ hx hb hr hlk (by decide) hP hS dX2_readParts_47
  · intro X11 L12 H locs ls hf hP hD hS hl
    refine lv_iconst (v := 1) hx hb dX2_readParts_54 (by decide) ?_
    cases hf
    exact mretZ hx hb hr hlk (by decide) hP hS dX2_readParts_55

abbrev rmX2_readInto : Room := { frames := 6, cells := 0, slots := 0, locals := 138 }
theorem miX2_readInto : miV yX2_readInto cX2_readInto 4 (some .boolean) 1 := ⟨q221, q43, q219, q220, by decide +kernel⟩
set_option maxHeartbeats 4000000 in
set_option maxRecDepth 100000 in
theorem mtX2_readInto (l : Launch) (D : va_G) (cy : Nat → ClassId) (z : zT) (k0 k1 j0 j1 j2 j3 j4 : Nat) (X : tX) (L : tL) (r0 : Int32) (X0 : tX) (L0 : tL) (hf : fX2_readInto X L = some (r0, X0, L0)) : mmet l yX2_readInto cX2_readInto 4 (some .boolean) rmX2_readInto D cy z (wX cy k0 k1 X ++ wL cy j0 j1 j2 j3 j4 L) (wX cy k0 k1 X0 ++ wL cy j0 j1 j2 j3 j4 L0) [.ref k0, .ref j0] (some (.int r0)) := by
  refine mmet_of (by decide +kernel) (Nat.le_of_ble_eq_true rfl) (fun p e s m below meth c hx hb hr hml hown hts hlk hP hD hS hA0 hKK ls hl => ?_)
  have hown : s.vm.findClass "HillSight$MapText" = some m.cls := hown
  have hl : lv_has ls 4 [(0, .ref k0), (1, .ref j0)] := hl
  unfold fX2_readInto at hf
  refine lv_aload_n hx hb dX2_readInto_0 rfl (lv_at hl 0 rfl) ?_
  refine lv_iconst (v := 0) hx hb dX2_readInto_1 (by decide) ?_
  refine va_put (D := D) (ci := 2) (v := .int (0 : Int32)) (ty := .int) (C := RX2) (T := TX2) (N := 4) hx hb hts inX2 tyX2 tyX2_ok nmX2 hown hKK.1 hP hD hS 0 rfl rfl 2 (by decide) (hts _ q116) (fun _ h => h) rfl (by decide +kernel) rfl rfl (Nat.le_of_ble_eq_true rfl) dX2_readInto_2 (fun H locs hP hD hS => ?_)
  have hP : va_P D vwCl (wX cy k0 k1 (X.1, X.2.1, (0 : Int32), X.2.2.2) ++ wL cy j0 j1 j2 j3 j4 L) H := hP
  have hD : va_D (adr (wX cy k0 k1 X ++ wL cy j0 j1 j2 j3 j4 L)) (wX cy k0 k1 (X.1, X.2.1, (0 : Int32), X.2.2.2) ++ wL cy j0 j1 j2 j3 j4 L) := hD
  refine lv_aload_n hx hb dX2_readInto_5 rfl (lv_at hl 0 rfl) ?_
  refine lv_iconst (v := 0) hx hb dX2_readInto_6 (by decide) ?_
  refine va_put (D := D) (ci := 2) (v := .int (0 : Int32)) (ty := .int) (C := RX2) (T := TX2) (N := 4) hx hb hts inX2 tyX2 tyX2_ok nmX2 hown hKK.1 hP hD hS 0 rfl rfl 3 (by decide) (hts _ q118) (fun _ h => h) rfl (by decide +kernel) rfl rfl (Nat.le_of_ble_eq_true rfl) dX2_readInto_7 (fun H locs hP hD hS => ?_)
  have hP : va_P D vwCl (wX cy k0 k1 (X.1, X.2.1, (0 : Int32), (0 : Int32)) ++ wL cy j0 j1 j2 j3 j4 L) H := hP
  have hD : va_D (adr (wX cy k0 k1 X ++ wL cy j0 j1 j2 j3 j4 L)) (wX cy k0 k1 (X.1, X.2.1, (0 : Int32), (0 : Int32)) ++ wL cy j0 j1 j2 j3 j4 L) := hD
  refine lv_aload_n hx hb dX2_readInto_10 rfl (lv_at hl 0 rfl) ?_
  obtain ⟨r2, hc1, hf⟩ := bd_some hf
  have hP1 := hP.sub (ws' := wX cy k0 k1 (X.1, X.2.1, (0 : Int32), (0 : Int32))) [0, 1] rfl
  refine pCallVI ⟨hx, hb, hml, hown, hts⟩ (mtX2_nextLetter l D cy z k0 k1 (X.1, X.2.1, (0 : Int32), (0 : Int32)) r2 hc1) miX2_nextLetter q222 ⟨Nat.le_of_ble_eq_true rfl, Nat.le_of_ble_eq_true rfl⟩ ⟨rfl, rfl⟩ hP1 hKK hS hA0 (va_recv hKK.1 hP1 (ci := 2) (q0 := 0) rfl rfl) rfl hl.1 rfl (Nat.le_of_ble_eq_true rfl) dX2_readInto_11 ⟨Nat.zero_le _, Nat.zero_le _⟩ ?_
  refine lv_bipush (v := 71) hx hb dX2_readInto_14 (by decide) ?_
  refine lv_icmp_eq (tgt := 21) hx hb dX2_readInto_16 (by decide) (fun h => ?_) (fun h => ?_)
  · have hf := (if_pos h).symm.trans hf
    refine lv_aload_n hx hb dX2_readInto_21 rfl (lv_at hl 0 rfl) ?_
    refine lv_dup hx hb dX2_readInto_22 rfl ?_
    refine va_get (D := D) (ci := 2) (v := .int (0 : Int32)) (C := RX2) (T := TX2) (N := 4) hx hb hts inX2 hown hKK.1 hP 0 rfl rfl 2 (by decide) (hts _ q116) (fun _ h => h) rfl dX2_readInto_23 ?_
    refine lv_iconst (v := 1) hx hb dX2_readInto_26 (by decide) ?_
    refine lv_iadd hx hb dX2_readInto_27 ?_
    refine nm_i hf (fun x3 hf => ?_)
    refine va_put (D := D) (ci := 2) (v := .int x3) (ty := .int) (C := RX2) (T := TX2) (N := 4) hx hb hts inX2 tyX2 tyX2_ok nmX2 hown hKK.1 hP hD hS 0 rfl rfl 2 (by decide) (hts _ q116) (fun _ h => h) rfl (by decide +kernel) rfl rfl (Nat.le_of_ble_eq_true rfl) dX2_readInto_28 (fun H locs hP hD hS => ?_)
    have hP : va_P D vwCl (wX cy k0 k1 (X.1, X.2.1, x3, (0 : Int32)) ++ wL cy j0 j1 j2 j3 j4 L) H := hP
    have hD : va_D (adr (wX cy k0 k1 X ++ wL cy j0 j1 j2 j3 j4 L)) (wX cy k0 k1 (X.1, X.2.1, x3, (0 : Int32)) ++ wL cy j0 j1 j2 j3 j4 L) := hD
    refine lv_aload_n hx hb dX2_readInto_31 rfl (lv_at hl 0 rfl) ?_
    refine lv_iconst (v := 2) hx hb dX2_readInto_32 (by decide) ?_
    refine lv_bipush (v := 6) hx hb dX2_readInto_33 (by decide) ?_
    obtain ⟨y5, hc4, hf⟩ := bd_some hf
    have hP1 := hP.sub (ws' := wX cy k0 k1 (X.1, X.2.1, x3, (0 : Int32))) [0, 1] rfl
    have hD1 := hD.sub (ws' := wX cy k0 k1 (X.1, X.2.1, x3, (0 : Int32))) [0, 1] (by decide) rfl
    refine mCallVI ⟨hx, hb, hml, hown, hts⟩ (mtX2_readDigit l D cy z k0 k1 (X.1, X.2.1, x3, (0 : Int32)) (2 : Int32) (6 : Int32) y5.1 y5.2 hc4) miX2_readDigit q226 ⟨Nat.le_of_ble_eq_true rfl, Nat.le_of_ble_eq_true rfl⟩ ⟨rfl, rfl⟩ hP1 hD1 hKK hA0 (va_recv hKK.1 hP1 (ci := 2) (q0 := 0) rfl rfl) rfl hl.1 rfl (Nat.le_of_ble_eq_true rfl) dX2_readInto_35 ⟨Nat.zero_le _, Nat.zero_le _⟩ hS hP hD [0, 1] rfl rfl (ws' := wX cy k0 k1 y5.2 ++ wL cy j0 j1 j2 j3 j4 L) rfl (fun H locs hP hD hS => ?_)
    refine lv_istore_n (lv' := [(2, .int y5.1), (0, .ref k0), (1, .ref j0)]) hx hb dX2_readInto_38 rfl hl (by decide) rfl (fun ls hl => ?_)
    refine lv_iload_n hx hb dX2_readInto_39 rfl (lv_at hl 0 rfl) ?_
    refine lv_if_ge (tgt := 47) hx hb dX2_readInto_40 (by decide) (fun h => ?_) (fun h => ?_)
    · have hf := (if_pos h).symm.trans hf
      refine lv_aload_n hx hb dX2_readInto_47 rfl (lv_at hl 1 rfl) ?_
      refine lv_iconst (v := 2) hx hb dX2_readInto_48 (by decide) ?_
      refine lv_bipush (v := 6) hx hb dX2_readInto_49 (by decide) ?_
      obtain ⟨y7, hc6, hf⟩ := bd_some hf
      have hP1 := hP.sub (ws' := wX cy k0 k1 y5.2) [0, 1] rfl
      have hD1 := hD.sub (ws' := wX cy k0 k1 y5.2) [0, 1] (by decide) rfl
      refine mCallVI ⟨hx, hb, hml, hown, hts⟩ (mtX2_readDigit l D cy z k0 k1 y5.2 (2 : Int32) (6 : Int32) y7.1 y7.2 hc6) miX2_readDigit q226 ⟨Nat.le_of_ble_eq_true rfl, Nat.le_of_ble_eq_true rfl⟩ ⟨rfl, rfl⟩ hP1 hD1 hKK hA0 (va_recv hKK.1 hP1 (ci := 2) (q0 := 0) rfl rfl) rfl hl.1 rfl (Nat.le_of_ble_eq_true rfl) dX2_readInto_51 ⟨Nat.zero_le _, Nat.zero_le _⟩ hS hP hD [0, 1] rfl rfl (ws' := wX cy k0 k1 y7.2 ++ wL cy j0 j1 j2 j3 j4 L) rfl (fun H locs hP hD hS => ?_)
      refine lv_istore_n (lv' := [(3, .int y7.1), (2, .int y5.1), (0, .ref k0), (1, .ref j0)]) hx hb dX2_readInto_54 rfl hl (by decide) rfl (fun ls hl => ?_)
      refine lv_iload_n hx hb dX2_readInto_55 rfl (lv_at hl 0 rfl) ?_
      refine lv_if_ge (tgt := 61) hx hb dX2_readInto_56 (by decide) (fun h => ?_) (fun h => ?_)
      · have hf := (if_pos h).symm.trans hf
        refine lv_aload_n hx hb dX2_readInto_61 rfl (lv_at hl 3 rfl) ?_
        refine lv_iload_n hx hb dX2_readInto_62 rfl (lv_at hl 1 rfl) ?_
        refine lv_iload_n hx hb dX2_readInto_63 rfl (lv_at hl 0 rfl) ?_
        obtain ⟨y9, hc8, hf⟩ := bd_some hf
        have hP1 := hP.sub (ws' := wL cy j0 j1 j2 j3 j4 L) [2, 3, 4, 5, 6] rfl
        have hD1 := hD.sub (ws' := wL cy j0 j1 j2 j3 j4 L) [2, 3, 4, 5, 6] (by decide) rfl
        refine mCallVV ⟨hx, hb, hml, hown, hts⟩ (mtX1_startAnew l D cy z j0 j1 j2 j3 j4 L y5.1 y7.1 y9 hc8) miX1_startAnew q230 ⟨Nat.le_of_ble_eq_true rfl, Nat.le_of_ble_eq_true rfl⟩ ⟨rfl, rfl⟩ hP1 hD1 hKK hA0 (va_recv hKK.1 hP1 (ci := 1) (q0 := 0) rfl rfl) rfl hl.1 rfl (Nat.le_of_ble_eq_true rfl) dX2_readInto_64 ⟨Nat.zero_le _, Nat.zero_le _⟩ hS hP hD [2, 3, 4, 5, 6] rfl rfl (ws' := wX cy k0 k1 y7.2 ++ wL cy j0 j1 j2 j3 j4 y9) rfl (fun H locs hP hD hS => ?_)
        refine lv_aload_n hx hb dX2_readInto_67 rfl (lv_at hl 2 rfl) ?_
        refine lv_aload_n hx hb dX2_readInto_68 rfl (lv_at hl 3 rfl) ?_
        obtain ⟨y11, hc10, hf⟩ := bd_some hf
        refine mCallWVI ⟨hx, hb, hml, hown, hts⟩ (mtX2_readHeights l D cy z k0 k1 j0 j1 j2 j3 j4 y7.2 y9 y11.1 y11.2.1 y11.2.2 hc10) miX2_readHeights q231 ⟨Nat.le_of_ble_eq_true rfl, Nat.le_of_ble_eq_true rfl⟩ ⟨rfl, rfl⟩ hP hD hKK hA0 (va_recv hKK.1 hP (ci := 2) (q0 := 0) rfl rfl) rfl hl.1 rfl (Nat.le_of_ble_eq_true rfl) dX2_readInto_69 ⟨Nat.zero_le _, Nat.zero_le _⟩ hS rfl (fun H locs hP hD hS => ?_)
        have hP : va_P D vwCl (wX cy k0 k1 y11.2.1 ++ wL cy j0 j1 j2 j3 j4 y11.2.2) H := hP
        have hD : va_D (adr (wX cy k0 k1 X ++ wL cy j0 j1 j2 j3 j4 L)) (wX cy k0 k1 y11.2.1 ++ wL cy j0 j1 j2 j3 j4 y11.2.2) := hD
        refine lv_if_eq (tgt := 87) hx hb dX2_readInto_72 (by decide) (fun h => ?_) (fun h => ?_)
        · have hf := (if_pos h).symm.trans hf
          refine lv_iconst (v := 0) hx hb dX2_readInto_87 (by decide) ?_
          cases hf
          exact mretZ hx hb hr hlk (by decide) hP hS dX2_readInto_88
        · have hf := (if_neg h).symm.trans hf
          refine lv_aload_n hx hb dX2_readInto_75 rfl (lv_at hl 2 rfl) ?_
          refine lv_aload_n hx hb dX2_readInto_76 rfl (lv_at hl 3 rfl) ?_
          obtain ⟨y13, hc12, hf⟩ := bd_some hf
          refine mCallWVI ⟨hx, hb, hml, hown, hts⟩ (mtX2_readParts l D cy z k0 k1 j0 j1 j2 j3 j4 y11.2.1 y11.2.2 y13.1 y13.2.1 y13.2.2 hc12) miX2_readParts q247 ⟨Nat.le_of_ble_eq_true rfl, Nat.le_of_ble_eq_true rfl⟩ ⟨rfl, rfl⟩ hP hD hKK hA0 (va_recv hKK.1 hP (ci := 2) (q0 := 0) rfl rfl) rfl hl.1 rfl (Nat.le_of_ble_eq_true rfl) dX2_readInto_77 ⟨Nat.zero_le _, Nat.zero_le _⟩ hS rfl (fun H locs hP hD hS => ?_)
          have hP : va_P D vwCl (wX cy k0 k1 y13.2.1 ++ wL cy j0 j1 j2 j3 j4 y13.2.2) H := hP
          have hD : va_D (adr (wX cy k0 k1 X ++ wL cy j0 j1 j2 j3 j4 L)) (wX cy k0 k1 y13.2.1 ++ wL cy j0 j1 j2 j3 j4 y13.2.2) := hD
          refine lv_if_eq (tgt := 87) hx hb dX2_readInto_80 (by decide) (fun h => ?_) (fun h => ?_)
          · have hf := (if_pos h).symm.trans hf
            refine lv_iconst (v := 0) hx hb dX2_readInto_87 (by decide) ?_
            cases hf
            exact mretZ hx hb hr hlk (by decide) hP hS dX2_readInto_88
          · have hf := (if_neg h).symm.trans hf
            refine lv_iconst (v := 1) hx hb dX2_readInto_83 (by decide) ?_
            refine lv_goto (tgt := 88) hx hb dX2_readInto_84 (by decide) ?_
            cases hf
            exact mretZ hx hb hr hlk (by decide) hP hS dX2_readInto_88
      · have hf := (if_neg h).symm.trans hf
        refine lv_iconst (v := 0) hx hb dX2_readInto_59 (by decide) ?_
        cases hf
        exact mretZ hx hb hr hlk (by decide) hP hS dX2_readInto_60
    · have hf := (if_neg h).symm.trans hf
      refine lv_iconst (v := -1) hx hb dX2_readInto_43 (by decide) ?_
      refine lv_goto (tgt := 54) hx hb dX2_readInto_44 (by decide) ?_
      refine lv_istore_n (lv' := [(3, .int (-1 : Int32)), (2, .int y5.1), (0, .ref k0), (1, .ref j0)]) hx hb dX2_readInto_54 rfl hl (by decide) rfl (fun ls hl => ?_)
      refine lv_iload_n hx hb dX2_readInto_55 rfl (lv_at hl 0 rfl) ?_
      refine lv_if_ge (tgt := 61) hx hb dX2_readInto_56 (by decide) (fun h => absurd h (by decide)) (fun _ => ?_)
      refine lv_iconst (v := 0) hx hb dX2_readInto_59 (by decide) ?_
      cases hf
      exact mretZ hx hb hr hlk (by decide) hP hS dX2_readInto_60
  · have hf := (if_neg h).symm.trans hf
    refine lv_iconst (v := 0) hx hb dX2_readInto_19 (by decide) ?_
    cases hf
    exact mretZ hx hb hr hlk (by decide) hP hS dX2_readInto_20

abbrev rmX0_forgetOldest : Room := { frames := 0, cells := 0, slots := 0, locals := 0 }
theorem miX0_forgetOldest : miV yX0_forgetOldest cX0_forgetOldest 2 none 0 := ⟨q488, q44, q487, q6, by decide +kernel⟩
set_option maxHeartbeats 4000000 in
set_option maxRecDepth 100000 in
theorem mtX0_forgetOldest (l : Launch) (D : va_G) (cy : Nat → ClassId) (z : zT) (k0 k1 k2 k3 k4 : Nat) (J : tJ) (J0 : tJ) (hf : fX0_forgetOldest J = some J0) : mmet l yX0_forgetOldest cX0_forgetOldest 2 none rmX0_forgetOldest D cy z (wJ cy k0 k1 k2 k3 k4 J) (wJ cy k0 k1 k2 k3 k4 J0) [.ref k0] none := by
  refine mmet_of (by decide +kernel) (Nat.le_of_ble_eq_true rfl) (fun p e s m below meth c hx hb hr hml hown hts hlk hP hD hS hA0 hKK ls hl => ?_)
  have hown : s.vm.findClass "HillSight$Journal" = some m.cls := hown
  have hl : lv_has ls 2 [(0, .ref k0)] := hl
  have w_2 : ∀ (k70 : tJ → Option (tJ)) (hk70 : ∀ (J_2 : tJ) (H : Heap) (locs : List Loc) (ls : Array Slot), k70 J_2 = some J0 → va_P D vwCl (wJ cy k0 k1 k2 k3 k4 J_2) H → va_D (adr (wJ cy k0 k1 k2 k3 k4 J)) (wJ cy k0 k1 k2 k3 k4 J_2) → va_S (adr (wJ cy k0 k1 k2 k3 k4 J)) s.heap H locs → lv_has ls 2 [(0, .ref k0)] → W p l e rmX0_forgetOldest s m ([.ref k0] : List Value).toArray below meth c H locs 0 0 (MQ below (mQ D (wJ cy k0 k1 k2 k3 k4 J) (wJ cy k0 k1 k2 k3 k4 J0) none) ([.ref k0] : List Value).toArray s 0 0 (adr (wJ cy k0 k1 k2 k3 k4 J))) (F0 m 70 ls [])) (n : Nat) (v1_2 : Int32) (J_2 : tJ) (H : Heap) (locs : List Loc) (ls : Array Slot), fX0_forgetOldest_2 k70 n v1_2 J_2 = some J0 → va_P D vwCl (wJ cy k0 k1 k2 k3 k4 J_2) H → va_D (adr (wJ cy k0 k1 k2 k3 k4 J)) (wJ cy k0 k1 k2 k3 k4 J_2) → va_S (adr (wJ cy k0 k1 k2 k3 k4 J)) s.heap H locs → lv_has ls 2 [(0, .ref k0), (1, .int v1_2)] → W p l e rmX0_forgetOldest s m ([.ref k0] : List Value).toArray below meth c H locs 0 0 (MQ below (mQ D (wJ cy k0 k1 k2 k3 k4 J) (wJ cy k0 k1 k2 k3 k4 J0) none) ([.ref k0] : List Value).toArray s 0 0 (adr (wJ cy k0 k1 k2 k3 k4 J))) (F0 m 2 ls []) := by
    intro k70 hk70 n
    induction n with
    | zero =>
      intro v1_2 J_2 H locs ls hf hP hD hS hl
      cases (show (none : Option (tJ)) = some J0 from hf)
    | succ n ih =>
      intro v1_2 J_2 H locs ls hf hP hD hS hl
      rw [fX0_forgetOldest_2] at hf
      refine lv_iload_n hx hb dX0_forgetOldest_2 rfl (lv_at hl 1 rfl) ?_
      refine lv_bipush (v := 14) hx hb dX0_forgetOldest_3 (by decide) ?_
      refine lv_icmp_ge (tgt := 70) hx hb dX0_forgetOldest_5 (by decide) (fun h => ?_) (fun h => ?_)
      · have hf := (if_pos h).symm.trans hf
        exact hk70 J_2 _ _ ls hf hP hD hS (lv_sub hl [0] rfl)
      · have hf := (if_neg h).symm.trans hf
        refine lv_aload_n hx hb dX0_forgetOldest_8 rfl (lv_at hl 0 rfl) ?_
        refine va_get (D := D) (ci := 0) (v := .ref k1) (C := RX0) (T := TX0) (N := 5) hx hb hts inX0 hown hKK.1 hP 0 rfl rfl 0 (by decide) (hts _ q135) (fun _ h => h) rfl dX0_forgetOldest_9 ?_
        refine lv_iload_n hx hb dX0_forgetOldest_12 rfl (lv_at hl 1 rfl) ?_
        refine lv_iconst (v := 1) hx hb dX0_forgetOldest_13 (by decide) ?_
        refine lv_isub hx hb dX0_forgetOldest_14 ?_
        refine lv_aload_n hx hb dX0_forgetOldest_15 rfl (lv_at hl 0 rfl) ?_
        refine va_get (D := D) (ci := 0) (v := .ref k1) (C := RX0) (T := TX0) (N := 5) hx hb hts inX0 hown hKK.1 hP 0 rfl rfl 0 (by decide) (hts _ q135) (fun _ h => h) rfl dX0_forgetOldest_16 ?_
        refine lv_iload_n hx hb dX0_forgetOldest_19 rfl (lv_at hl 1 rfl) ?_
        obtain ⟨hg1, hf⟩ := gd_some hf
        refine va_iald hx hb hKK.1 hP 1 0 rfl rfl (inb_in hg1) dX0_forgetOldest_20 ?_
        obtain ⟨hg2, hf⟩ := gd_some hf
        refine va_iast hx hb hKK.1 hP hD hS 1 0 rfl rfl (inb_in hg2) dX0_forgetOldest_21 (fun H locs hP hD hS => ?_)
        have hP : va_P D vwCl (wJ cy k0 k1 k2 k3 k4 ((upd J_2.1 (v1_2 - (1 : Int32)).toNatClampNeg (J_2.1 v1_2.toNatClampNeg)), J_2.2.1, J_2.2.2.1, J_2.2.2.2.1, J_2.2.2.2.2)) H := hP
        have hD : va_D (adr (wJ cy k0 k1 k2 k3 k4 J)) (wJ cy k0 k1 k2 k3 k4 ((upd J_2.1 (v1_2 - (1 : Int32)).toNatClampNeg (J_2.1 v1_2.toNatClampNeg)), J_2.2.1, J_2.2.2.1, J_2.2.2.2.1, J_2.2.2.2.2)) := hD
        refine lv_aload_n hx hb dX0_forgetOldest_22 rfl (lv_at hl 0 rfl) ?_
        refine va_get (D := D) (ci := 0) (v := .ref k2) (C := RX0) (T := TX0) (N := 5) hx hb hts inX0 hown hKK.1 hP 0 rfl rfl 1 (by decide) (hts _ q136) (fun _ h => h) rfl dX0_forgetOldest_23 ?_
        refine lv_iload_n hx hb dX0_forgetOldest_26 rfl (lv_at hl 1 rfl) ?_
        refine lv_iconst (v := 1) hx hb dX0_forgetOldest_27 (by decide) ?_
        refine lv_isub hx hb dX0_forgetOldest_28 ?_
        refine lv_aload_n hx hb dX0_forgetOldest_29 rfl (lv_at hl 0 rfl) ?_
        refine va_get (D := D) (ci := 0) (v := .ref k2) (C := RX0) (T := TX0) (N := 5) hx hb hts inX0 hown hKK.1 hP 0 rfl rfl 1 (by decide) (hts _ q136) (fun _ h => h) rfl dX0_forgetOldest_30 ?_
        refine lv_iload_n hx hb dX0_forgetOldest_33 rfl (lv_at hl 1 rfl) ?_
        obtain ⟨hg3, hf⟩ := gd_some hf
        refine va_iald hx hb hKK.1 hP 2 0 rfl rfl (inb_in hg3) dX0_forgetOldest_34 ?_
        obtain ⟨hg4, hf⟩ := gd_some hf
        refine va_iast hx hb hKK.1 hP hD hS 2 0 rfl rfl (inb_in hg4) dX0_forgetOldest_35 (fun H locs hP hD hS => ?_)
        have hP : va_P D vwCl (wJ cy k0 k1 k2 k3 k4 ((upd J_2.1 (v1_2 - (1 : Int32)).toNatClampNeg (J_2.1 v1_2.toNatClampNeg)), (upd J_2.2.1 (v1_2 - (1 : Int32)).toNatClampNeg (J_2.2.1 v1_2.toNatClampNeg)), J_2.2.2.1, J_2.2.2.2.1, J_2.2.2.2.2)) H := hP
        have hD : va_D (adr (wJ cy k0 k1 k2 k3 k4 J)) (wJ cy k0 k1 k2 k3 k4 ((upd J_2.1 (v1_2 - (1 : Int32)).toNatClampNeg (J_2.1 v1_2.toNatClampNeg)), (upd J_2.2.1 (v1_2 - (1 : Int32)).toNatClampNeg (J_2.2.1 v1_2.toNatClampNeg)), J_2.2.2.1, J_2.2.2.2.1, J_2.2.2.2.2)) := hD
        refine lv_aload_n hx hb dX0_forgetOldest_36 rfl (lv_at hl 0 rfl) ?_
        refine va_get (D := D) (ci := 0) (v := .ref k3) (C := RX0) (T := TX0) (N := 5) hx hb hts inX0 hown hKK.1 hP 0 rfl rfl 2 (by decide) (hts _ q137) (fun _ h => h) rfl dX0_forgetOldest_37 ?_
        refine lv_iload_n hx hb dX0_forgetOldest_40 rfl (lv_at hl 1 rfl) ?_
        refine lv_iconst (v := 1) hx hb dX0_forgetOldest_41 (by decide) ?_
        refine lv_isub hx hb dX0_forgetOldest_42 ?_
        refine lv_aload_n hx hb dX0_forgetOldest_43 rfl (lv_at hl 0 rfl) ?_
        refine va_get (D := D) (ci := 0) (v := .ref k3) (C := RX0) (T := TX0) (N := 5) hx hb hts inX0 hown hKK.1 hP 0 rfl rfl 2 (by decide) (hts _ q137) (fun _ h => h) rfl dX0_forgetOldest_44 ?_
        refine lv_iload_n hx hb dX0_forgetOldest_47 rfl (lv_at hl 1 rfl) ?_
        obtain ⟨hg5, hf⟩ := gd_some hf
        refine va_iald hx hb hKK.1 hP 3 0 rfl rfl (inb_in hg5) dX0_forgetOldest_48 ?_
        obtain ⟨hg6, hf⟩ := gd_some hf
        refine va_iast hx hb hKK.1 hP hD hS 3 0 rfl rfl (inb_in hg6) dX0_forgetOldest_49 (fun H locs hP hD hS => ?_)
        have hP : va_P D vwCl (wJ cy k0 k1 k2 k3 k4 ((upd J_2.1 (v1_2 - (1 : Int32)).toNatClampNeg (J_2.1 v1_2.toNatClampNeg)), (upd J_2.2.1 (v1_2 - (1 : Int32)).toNatClampNeg (J_2.2.1 v1_2.toNatClampNeg)), (upd J_2.2.2.1 (v1_2 - (1 : Int32)).toNatClampNeg (J_2.2.2.1 v1_2.toNatClampNeg)), J_2.2.2.2.1, J_2.2.2.2.2)) H := hP
        have hD : va_D (adr (wJ cy k0 k1 k2 k3 k4 J)) (wJ cy k0 k1 k2 k3 k4 ((upd J_2.1 (v1_2 - (1 : Int32)).toNatClampNeg (J_2.1 v1_2.toNatClampNeg)), (upd J_2.2.1 (v1_2 - (1 : Int32)).toNatClampNeg (J_2.2.1 v1_2.toNatClampNeg)), (upd J_2.2.2.1 (v1_2 - (1 : Int32)).toNatClampNeg (J_2.2.2.1 v1_2.toNatClampNeg)), J_2.2.2.2.1, J_2.2.2.2.2)) := hD
        refine lv_aload_n hx hb dX0_forgetOldest_50 rfl (lv_at hl 0 rfl) ?_
        refine va_get (D := D) (ci := 0) (v := .ref k4) (C := RX0) (T := TX0) (N := 5) hx hb hts inX0 hown hKK.1 hP 0 rfl rfl 3 (by decide) (hts _ q138) (fun _ h => h) rfl dX0_forgetOldest_51 ?_
        refine lv_iload_n hx hb dX0_forgetOldest_54 rfl (lv_at hl 1 rfl) ?_
        refine lv_iconst (v := 1) hx hb dX0_forgetOldest_55 (by decide) ?_
        refine lv_isub hx hb dX0_forgetOldest_56 ?_
        refine lv_aload_n hx hb dX0_forgetOldest_57 rfl (lv_at hl 0 rfl) ?_
        refine va_get (D := D) (ci := 0) (v := .ref k4) (C := RX0) (T := TX0) (N := 5) hx hb hts inX0 hown hKK.1 hP 0 rfl rfl 3 (by decide) (hts _ q138) (fun _ h => h) rfl dX0_forgetOldest_58 ?_
        refine lv_iload_n hx hb dX0_forgetOldest_61 rfl (lv_at hl 1 rfl) ?_
        obtain ⟨hg7, hf⟩ := gd_some hf
        refine va_iald hx hb hKK.1 hP 4 0 rfl rfl (inb_in hg7) dX0_forgetOldest_62 ?_
        obtain ⟨hg8, hf⟩ := gd_some hf
        refine va_iast hx hb hKK.1 hP hD hS 4 0 rfl rfl (inb_in hg8) dX0_forgetOldest_63 (fun H locs hP hD hS => ?_)
        have hP : va_P D vwCl (wJ cy k0 k1 k2 k3 k4 ((upd J_2.1 (v1_2 - (1 : Int32)).toNatClampNeg (J_2.1 v1_2.toNatClampNeg)), (upd J_2.2.1 (v1_2 - (1 : Int32)).toNatClampNeg (J_2.2.1 v1_2.toNatClampNeg)), (upd J_2.2.2.1 (v1_2 - (1 : Int32)).toNatClampNeg (J_2.2.2.1 v1_2.toNatClampNeg)), (upd J_2.2.2.2.1 (v1_2 - (1 : Int32)).toNatClampNeg (J_2.2.2.2.1 v1_2.toNatClampNeg)), J_2.2.2.2.2)) H := hP
        have hD : va_D (adr (wJ cy k0 k1 k2 k3 k4 J)) (wJ cy k0 k1 k2 k3 k4 ((upd J_2.1 (v1_2 - (1 : Int32)).toNatClampNeg (J_2.1 v1_2.toNatClampNeg)), (upd J_2.2.1 (v1_2 - (1 : Int32)).toNatClampNeg (J_2.2.1 v1_2.toNatClampNeg)), (upd J_2.2.2.1 (v1_2 - (1 : Int32)).toNatClampNeg (J_2.2.2.1 v1_2.toNatClampNeg)), (upd J_2.2.2.2.1 (v1_2 - (1 : Int32)).toNatClampNeg (J_2.2.2.2.1 v1_2.toNatClampNeg)), J_2.2.2.2.2)) := hD
        obtain ⟨x9, ex9, hf⟩ := nm_ex hf
        refine lv_iinc (v := x9) (lv' := [(1, .int x9), (0, .ref k0)]) hx hb dX0_forgetOldest_64 hl (k := 1) rfl (Eq.trans rfl ex9) (by decide) rfl (fun ls hl => ?_)
        refine lv_goto (tgt := 2) hx hb dX0_forgetOldest_67 (by decide) ?_
        exact ih x9 ((upd J_2.1 (v1_2 - (1 : Int32)).toNatClampNeg (J_2.1 v1_2.toNatClampNeg)), (upd J_2.2.1 (v1_2 - (1 : Int32)).toNatClampNeg (J_2.2.1 v1_2.toNatClampNeg)), (upd J_2.2.2.1 (v1_2 - (1 : Int32)).toNatClampNeg (J_2.2.2.1 v1_2.toNatClampNeg)), (upd J_2.2.2.2.1 (v1_2 - (1 : Int32)).toNatClampNeg (J_2.2.2.2.1 v1_2.toNatClampNeg)), J_2.2.2.2.2) _ _ ls hf hP hD hS (lv_sub hl [1, 0] rfl)
  unfold fX0_forgetOldest at hf
  refine lv_iconst (v := 1) hx hb dX0_forgetOldest_0 (by decide) ?_
  refine lv_istore_n (lv' := [(1, .int (1 : Int32)), (0, .ref k0)]) hx hb dX0_forgetOldest_1 rfl hl (by decide) rfl (fun ls hl => ?_)
  refine w_2 _ ?_ _ (1 : Int32) J _ _ ls hf hP hD hS (lv_sub hl [1, 0] rfl)
  · intro J10 H locs ls hf hP hD hS hl
    refine lv_aload_n hx hb dX0_forgetOldest_70 rfl (lv_at hl 0 rfl) ?_
    refine lv_bipush (v := 13) hx hb dX0_forgetOldest_71 (by decide) ?_
    refine va_put (D := D) (ci := 0) (v := .int (13 : Int32)) (ty := .int) (C := RX0) (T := TX0) (N := 5) hx hb hts inX0 tyX0 tyX0_ok nmX0 hown hKK.1 hP hD hS 0 rfl rfl 4 (by decide) (hts _ q139) (fun _ h => h) rfl (by decide +kernel) rfl rfl (Nat.le_of_ble_eq_true rfl) dX0_forgetOldest_73 (fun H locs hP hD hS => ?_)
    have hP : va_P D vwCl (wJ cy k0 k1 k2 k3 k4 (J10.1, J10.2.1, J10.2.2.1, J10.2.2.2.1, (13 : Int32))) H := hP
    have hD : va_D (adr (wJ cy k0 k1 k2 k3 k4 J)) (wJ cy k0 k1 k2 k3 k4 (J10.1, J10.2.1, J10.2.2.1, J10.2.2.2.1, (13 : Int32))) := hD
    cases hf
    exact mretV hx hb hr hlk hP hS dX0_forgetOldest_76

abbrev rmX0_note : Room := { frames := 1, cells := 0, slots := 0, locals := 21 }
theorem miX0_note : miV yX0_note cX0_note 5 none 4 := ⟨q484, q44, q482, q483, by decide +kernel⟩
set_option maxHeartbeats 4000000 in
set_option maxRecDepth 100000 in
theorem mtX0_note (l : Launch) (D : va_G) (cy : Nat → ClassId) (z : zT) (k0 k1 k2 k3 k4 : Nat) (J : tJ) (u1 : Int32) (u2 : Int32) (u3 : Int32) (u4 : Int32) (J0 : tJ) (hf : fX0_note J u1 u2 u3 u4 = some J0) : mmet l yX0_note cX0_note 5 none rmX0_note D cy z (wJ cy k0 k1 k2 k3 k4 J) (wJ cy k0 k1 k2 k3 k4 J0) [.ref k0, .int u1, .int u2, .int u3, .int u4] none := by
  refine mmet_of (by decide +kernel) (Nat.le_of_ble_eq_true rfl) (fun p e s m below meth c hx hb hr hml hown hts hlk hP hD hS hA0 hKK ls hl => ?_)
  have hown : s.vm.findClass "HillSight$Journal" = some m.cls := hown
  have hl : lv_has ls 5 [(0, .ref k0), (1, .int u1), (2, .int u2), (3, .int u3), (4, .int u4)] := hl
  unfold fX0_note at hf
  refine lv_aload_n hx hb dX0_note_0 rfl (lv_at hl 0 rfl) ?_
  refine va_get (D := D) (ci := 0) (v := .int J.2.2.2.2) (C := RX0) (T := TX0) (N := 5) hx hb hts inX0 hown hKK.1 hP 0 rfl rfl 4 (by decide) (hts _ q139) (fun _ h => h) rfl dX0_note_1 ?_
  refine lv_bipush (v := 14) hx hb dX0_note_4 (by decide) ?_
  refine lv_icmp_lt (tgt := 13) hx hb dX0_note_6 (by decide) (fun h => ?_) (fun h => ?_)
  · have hf := (if_pos h).symm.trans hf
    refine lv_aload_n hx hb dX0_note_13 rfl (lv_at hl 0 rfl) ?_
    refine va_get (D := D) (ci := 0) (v := .int J.2.2.2.2) (C := RX0) (T := TX0) (N := 5) hx hb hts inX0 hown hKK.1 hP 0 rfl rfl 4 (by decide) (hts _ q139) (fun _ h => h) rfl dX0_note_14 ?_
    refine lv_if_lt (tgt := 29) hx hb dX0_note_17 (by decide) (fun h => ?_) (fun h => ?_)
    · have hf := (if_pos h).symm.trans hf
      cases hf
      exact mretV hx hb hr hlk hP hS dX0_note_29
    · have hf := (if_neg h).symm.trans hf
      refine lv_aload_n hx hb dX0_note_20 rfl (lv_at hl 0 rfl) ?_
      refine va_get (D := D) (ci := 0) (v := .int J.2.2.2.2) (C := RX0) (T := TX0) (N := 5) hx hb hts inX0 hown hKK.1 hP 0 rfl rfl 4 (by decide) (hts _ q139) (fun _ h => h) rfl dX0_note_21 ?_
      refine lv_bipush (v := 14) hx hb dX0_note_24 (by decide) ?_
      refine lv_icmp_lt (tgt := 30) hx hb dX0_note_26 (by decide) (fun h => ?_) (fun h => ?_)
      · have hf := (if_pos h).symm.trans hf
        refine lv_aload_n hx hb dX0_note_30 rfl (lv_at hl 0 rfl) ?_
        refine va_get (D := D) (ci := 0) (v := .ref k1) (C := RX0) (T := TX0) (N := 5) hx hb hts inX0 hown hKK.1 hP 0 rfl rfl 0 (by decide) (hts _ q135) (fun _ h => h) rfl dX0_note_31 ?_
        refine lv_aload_n hx hb dX0_note_34 rfl (lv_at hl 0 rfl) ?_
        refine va_get (D := D) (ci := 0) (v := .int J.2.2.2.2) (C := RX0) (T := TX0) (N := 5) hx hb hts inX0 hown hKK.1 hP 0 rfl rfl 4 (by decide) (hts _ q139) (fun _ h => h) rfl dX0_note_35 ?_
        refine lv_iload_n hx hb dX0_note_38 rfl (lv_at hl 1 rfl) ?_
        obtain ⟨hg1, hf⟩ := gd_some hf
        refine va_iast hx hb hKK.1 hP hD hS 1 0 rfl rfl (inb_in hg1) dX0_note_39 (fun H locs hP hD hS => ?_)
        have hP : va_P D vwCl (wJ cy k0 k1 k2 k3 k4 ((upd J.1 J.2.2.2.2.toNatClampNeg u1), J.2.1, J.2.2.1, J.2.2.2.1, J.2.2.2.2)) H := hP
        have hD : va_D (adr (wJ cy k0 k1 k2 k3 k4 J)) (wJ cy k0 k1 k2 k3 k4 ((upd J.1 J.2.2.2.2.toNatClampNeg u1), J.2.1, J.2.2.1, J.2.2.2.1, J.2.2.2.2)) := hD
        refine lv_aload_n hx hb dX0_note_40 rfl (lv_at hl 0 rfl) ?_
        refine va_get (D := D) (ci := 0) (v := .ref k2) (C := RX0) (T := TX0) (N := 5) hx hb hts inX0 hown hKK.1 hP 0 rfl rfl 1 (by decide) (hts _ q136) (fun _ h => h) rfl dX0_note_41 ?_
        refine lv_aload_n hx hb dX0_note_44 rfl (lv_at hl 0 rfl) ?_
        refine va_get (D := D) (ci := 0) (v := .int J.2.2.2.2) (C := RX0) (T := TX0) (N := 5) hx hb hts inX0 hown hKK.1 hP 0 rfl rfl 4 (by decide) (hts _ q139) (fun _ h => h) rfl dX0_note_45 ?_
        refine lv_iload_n hx hb dX0_note_48 rfl (lv_at hl 2 rfl) ?_
        obtain ⟨hg2, hf⟩ := gd_some hf
        refine va_iast hx hb hKK.1 hP hD hS 2 0 rfl rfl (inb_in hg2) dX0_note_49 (fun H locs hP hD hS => ?_)
        have hP : va_P D vwCl (wJ cy k0 k1 k2 k3 k4 ((upd J.1 J.2.2.2.2.toNatClampNeg u1), (upd J.2.1 J.2.2.2.2.toNatClampNeg u2), J.2.2.1, J.2.2.2.1, J.2.2.2.2)) H := hP
        have hD : va_D (adr (wJ cy k0 k1 k2 k3 k4 J)) (wJ cy k0 k1 k2 k3 k4 ((upd J.1 J.2.2.2.2.toNatClampNeg u1), (upd J.2.1 J.2.2.2.2.toNatClampNeg u2), J.2.2.1, J.2.2.2.1, J.2.2.2.2)) := hD
        refine lv_aload_n hx hb dX0_note_50 rfl (lv_at hl 0 rfl) ?_
        refine va_get (D := D) (ci := 0) (v := .ref k3) (C := RX0) (T := TX0) (N := 5) hx hb hts inX0 hown hKK.1 hP 0 rfl rfl 2 (by decide) (hts _ q137) (fun _ h => h) rfl dX0_note_51 ?_
        refine lv_aload_n hx hb dX0_note_54 rfl (lv_at hl 0 rfl) ?_
        refine va_get (D := D) (ci := 0) (v := .int J.2.2.2.2) (C := RX0) (T := TX0) (N := 5) hx hb hts inX0 hown hKK.1 hP 0 rfl rfl 4 (by decide) (hts _ q139) (fun _ h => h) rfl dX0_note_55 ?_
        refine lv_iload_n hx hb dX0_note_58 rfl (lv_at hl 3 rfl) ?_
        obtain ⟨hg3, hf⟩ := gd_some hf
        refine va_iast hx hb hKK.1 hP hD hS 3 0 rfl rfl (inb_in hg3) dX0_note_59 (fun H locs hP hD hS => ?_)
        have hP : va_P D vwCl (wJ cy k0 k1 k2 k3 k4 ((upd J.1 J.2.2.2.2.toNatClampNeg u1), (upd J.2.1 J.2.2.2.2.toNatClampNeg u2), (upd J.2.2.1 J.2.2.2.2.toNatClampNeg u3), J.2.2.2.1, J.2.2.2.2)) H := hP
        have hD : va_D (adr (wJ cy k0 k1 k2 k3 k4 J)) (wJ cy k0 k1 k2 k3 k4 ((upd J.1 J.2.2.2.2.toNatClampNeg u1), (upd J.2.1 J.2.2.2.2.toNatClampNeg u2), (upd J.2.2.1 J.2.2.2.2.toNatClampNeg u3), J.2.2.2.1, J.2.2.2.2)) := hD
        refine lv_aload_n hx hb dX0_note_60 rfl (lv_at hl 0 rfl) ?_
        refine va_get (D := D) (ci := 0) (v := .ref k4) (C := RX0) (T := TX0) (N := 5) hx hb hts inX0 hown hKK.1 hP 0 rfl rfl 3 (by decide) (hts _ q138) (fun _ h => h) rfl dX0_note_61 ?_
        refine lv_aload_n hx hb dX0_note_64 rfl (lv_at hl 0 rfl) ?_
        refine va_get (D := D) (ci := 0) (v := .int J.2.2.2.2) (C := RX0) (T := TX0) (N := 5) hx hb hts inX0 hown hKK.1 hP 0 rfl rfl 4 (by decide) (hts _ q139) (fun _ h => h) rfl dX0_note_65 ?_
        refine lv_iload hx hb dX0_note_68 (lv_at hl 4 rfl) ?_
        obtain ⟨hg4, hf⟩ := gd_some hf
        refine va_iast hx hb hKK.1 hP hD hS 4 0 rfl rfl (inb_in hg4) dX0_note_70 (fun H locs hP hD hS => ?_)
        have hP : va_P D vwCl (wJ cy k0 k1 k2 k3 k4 ((upd J.1 J.2.2.2.2.toNatClampNeg u1), (upd J.2.1 J.2.2.2.2.toNatClampNeg u2), (upd J.2.2.1 J.2.2.2.2.toNatClampNeg u3), (upd J.2.2.2.1 J.2.2.2.2.toNatClampNeg u4), J.2.2.2.2)) H := hP
        have hD : va_D (adr (wJ cy k0 k1 k2 k3 k4 J)) (wJ cy k0 k1 k2 k3 k4 ((upd J.1 J.2.2.2.2.toNatClampNeg u1), (upd J.2.1 J.2.2.2.2.toNatClampNeg u2), (upd J.2.2.1 J.2.2.2.2.toNatClampNeg u3), (upd J.2.2.2.1 J.2.2.2.2.toNatClampNeg u4), J.2.2.2.2)) := hD
        refine lv_aload_n hx hb dX0_note_71 rfl (lv_at hl 0 rfl) ?_
        refine lv_dup hx hb dX0_note_72 rfl ?_
        refine va_get (D := D) (ci := 0) (v := .int J.2.2.2.2) (C := RX0) (T := TX0) (N := 5) hx hb hts inX0 hown hKK.1 hP 0 rfl rfl 4 (by decide) (hts _ q139) (fun _ h => h) rfl dX0_note_73 ?_
        refine lv_iconst (v := 1) hx hb dX0_note_76 (by decide) ?_
        refine lv_iadd hx hb dX0_note_77 ?_
        refine nm_i hf (fun x5 hf => ?_)
        refine va_put (D := D) (ci := 0) (v := .int x5) (ty := .int) (C := RX0) (T := TX0) (N := 5) hx hb hts inX0 tyX0 tyX0_ok nmX0 hown hKK.1 hP hD hS 0 rfl rfl 4 (by decide) (hts _ q139) (fun _ h => h) rfl (by decide +kernel) rfl rfl (Nat.le_of_ble_eq_true rfl) dX0_note_78 (fun H locs hP hD hS => ?_)
        have hP : va_P D vwCl (wJ cy k0 k1 k2 k3 k4 ((upd J.1 J.2.2.2.2.toNatClampNeg u1), (upd J.2.1 J.2.2.2.2.toNatClampNeg u2), (upd J.2.2.1 J.2.2.2.2.toNatClampNeg u3), (upd J.2.2.2.1 J.2.2.2.2.toNatClampNeg u4), x5)) H := hP
        have hD : va_D (adr (wJ cy k0 k1 k2 k3 k4 J)) (wJ cy k0 k1 k2 k3 k4 ((upd J.1 J.2.2.2.2.toNatClampNeg u1), (upd J.2.1 J.2.2.2.2.toNatClampNeg u2), (upd J.2.2.1 J.2.2.2.2.toNatClampNeg u3), (upd J.2.2.2.1 J.2.2.2.2.toNatClampNeg u4), x5)) := hD
        cases hf
        exact mretV hx hb hr hlk hP hS dX0_note_81
      · have hf := (if_neg h).symm.trans hf
        cases hf
        exact mretV hx hb hr hlk hP hS dX0_note_29
  · have hf := (if_neg h).symm.trans hf
    refine lv_aload_n hx hb dX0_note_9 rfl (lv_at hl 0 rfl) ?_
    obtain ⟨y7, hc6, hf⟩ := bd_some hf
    refine mCallWVV ⟨hx, hb, hml, hown, hts⟩ (mtX0_forgetOldest l D cy z k0 k1 k2 k3 k4 J y7 hc6) miX0_forgetOldest q485 ⟨Nat.le_of_ble_eq_true rfl, Nat.le_of_ble_eq_true rfl⟩ ⟨rfl, rfl⟩ hP hD hKK hA0 (va_recv hKK.1 hP (ci := 0) (q0 := 0) rfl rfl) rfl hl.1 rfl (Nat.le_of_ble_eq_true rfl) dX0_note_10 ⟨Nat.zero_le _, Nat.zero_le _⟩ hS rfl (fun H locs hP hD hS => ?_)
    have hP : va_P D vwCl (wJ cy k0 k1 k2 k3 k4 y7) H := hP
    have hD : va_D (adr (wJ cy k0 k1 k2 k3 k4 J)) (wJ cy k0 k1 k2 k3 k4 y7) := hD
    refine lv_aload_n hx hb dX0_note_13 rfl (lv_at hl 0 rfl) ?_
    refine va_get (D := D) (ci := 0) (v := .int y7.2.2.2.2) (C := RX0) (T := TX0) (N := 5) hx hb hts inX0 hown hKK.1 hP 0 rfl rfl 4 (by decide) (hts _ q139) (fun _ h => h) rfl dX0_note_14 ?_
    refine lv_if_lt (tgt := 29) hx hb dX0_note_17 (by decide) (fun h => ?_) (fun h => ?_)
    · have hf := (if_pos h).symm.trans hf
      cases hf
      exact mretV hx hb hr hlk hP hS dX0_note_29
    · have hf := (if_neg h).symm.trans hf
      refine lv_aload_n hx hb dX0_note_20 rfl (lv_at hl 0 rfl) ?_
      refine va_get (D := D) (ci := 0) (v := .int y7.2.2.2.2) (C := RX0) (T := TX0) (N := 5) hx hb hts inX0 hown hKK.1 hP 0 rfl rfl 4 (by decide) (hts _ q139) (fun _ h => h) rfl dX0_note_21 ?_
      refine lv_bipush (v := 14) hx hb dX0_note_24 (by decide) ?_
      refine lv_icmp_lt (tgt := 30) hx hb dX0_note_26 (by decide) (fun h => ?_) (fun h => ?_)
      · have hf := (if_pos h).symm.trans hf
        refine lv_aload_n hx hb dX0_note_30 rfl (lv_at hl 0 rfl) ?_
        refine va_get (D := D) (ci := 0) (v := .ref k1) (C := RX0) (T := TX0) (N := 5) hx hb hts inX0 hown hKK.1 hP 0 rfl rfl 0 (by decide) (hts _ q135) (fun _ h => h) rfl dX0_note_31 ?_
        refine lv_aload_n hx hb dX0_note_34 rfl (lv_at hl 0 rfl) ?_
        refine va_get (D := D) (ci := 0) (v := .int y7.2.2.2.2) (C := RX0) (T := TX0) (N := 5) hx hb hts inX0 hown hKK.1 hP 0 rfl rfl 4 (by decide) (hts _ q139) (fun _ h => h) rfl dX0_note_35 ?_
        refine lv_iload_n hx hb dX0_note_38 rfl (lv_at hl 1 rfl) ?_
        obtain ⟨hg8, hf⟩ := gd_some hf
        refine va_iast hx hb hKK.1 hP hD hS 1 0 rfl rfl (inb_in hg8) dX0_note_39 (fun H locs hP hD hS => ?_)
        have hP : va_P D vwCl (wJ cy k0 k1 k2 k3 k4 ((upd y7.1 y7.2.2.2.2.toNatClampNeg u1), y7.2.1, y7.2.2.1, y7.2.2.2.1, y7.2.2.2.2)) H := hP
        have hD : va_D (adr (wJ cy k0 k1 k2 k3 k4 J)) (wJ cy k0 k1 k2 k3 k4 ((upd y7.1 y7.2.2.2.2.toNatClampNeg u1), y7.2.1, y7.2.2.1, y7.2.2.2.1, y7.2.2.2.2)) := hD
        refine lv_aload_n hx hb dX0_note_40 rfl (lv_at hl 0 rfl) ?_
        refine va_get (D := D) (ci := 0) (v := .ref k2) (C := RX0) (T := TX0) (N := 5) hx hb hts inX0 hown hKK.1 hP 0 rfl rfl 1 (by decide) (hts _ q136) (fun _ h => h) rfl dX0_note_41 ?_
        refine lv_aload_n hx hb dX0_note_44 rfl (lv_at hl 0 rfl) ?_
        refine va_get (D := D) (ci := 0) (v := .int y7.2.2.2.2) (C := RX0) (T := TX0) (N := 5) hx hb hts inX0 hown hKK.1 hP 0 rfl rfl 4 (by decide) (hts _ q139) (fun _ h => h) rfl dX0_note_45 ?_
        refine lv_iload_n hx hb dX0_note_48 rfl (lv_at hl 2 rfl) ?_
        obtain ⟨hg9, hf⟩ := gd_some hf
        refine va_iast hx hb hKK.1 hP hD hS 2 0 rfl rfl (inb_in hg9) dX0_note_49 (fun H locs hP hD hS => ?_)
        have hP : va_P D vwCl (wJ cy k0 k1 k2 k3 k4 ((upd y7.1 y7.2.2.2.2.toNatClampNeg u1), (upd y7.2.1 y7.2.2.2.2.toNatClampNeg u2), y7.2.2.1, y7.2.2.2.1, y7.2.2.2.2)) H := hP
        have hD : va_D (adr (wJ cy k0 k1 k2 k3 k4 J)) (wJ cy k0 k1 k2 k3 k4 ((upd y7.1 y7.2.2.2.2.toNatClampNeg u1), (upd y7.2.1 y7.2.2.2.2.toNatClampNeg u2), y7.2.2.1, y7.2.2.2.1, y7.2.2.2.2)) := hD
        refine lv_aload_n hx hb dX0_note_50 rfl (lv_at hl 0 rfl) ?_
        refine va_get (D := D) (ci := 0) (v := .ref k3) (C := RX0) (T := TX0) (N := 5) hx hb hts inX0 hown hKK.1 hP 0 rfl rfl 2 (by decide) (hts _ q137) (fun _ h => h) rfl dX0_note_51 ?_
        refine lv_aload_n hx hb dX0_note_54 rfl (lv_at hl 0 rfl) ?_
        refine va_get (D := D) (ci := 0) (v := .int y7.2.2.2.2) (C := RX0) (T := TX0) (N := 5) hx hb hts inX0 hown hKK.1 hP 0 rfl rfl 4 (by decide) (hts _ q139) (fun _ h => h) rfl dX0_note_55 ?_
        refine lv_iload_n hx hb dX0_note_58 rfl (lv_at hl 3 rfl) ?_
        obtain ⟨hg10, hf⟩ := gd_some hf
        refine va_iast hx hb hKK.1 hP hD hS 3 0 rfl rfl (inb_in hg10) dX0_note_59 (fun H locs hP hD hS => ?_)
        have hP : va_P D vwCl (wJ cy k0 k1 k2 k3 k4 ((upd y7.1 y7.2.2.2.2.toNatClampNeg u1), (upd y7.2.1 y7.2.2.2.2.toNatClampNeg u2), (upd y7.2.2.1 y7.2.2.2.2.toNatClampNeg u3), y7.2.2.2.1, y7.2.2.2.2)) H := hP
        have hD : va_D (adr (wJ cy k0 k1 k2 k3 k4 J)) (wJ cy k0 k1 k2 k3 k4 ((upd y7.1 y7.2.2.2.2.toNatClampNeg u1), (upd y7.2.1 y7.2.2.2.2.toNatClampNeg u2), (upd y7.2.2.1 y7.2.2.2.2.toNatClampNeg u3), y7.2.2.2.1, y7.2.2.2.2)) := hD
        refine lv_aload_n hx hb dX0_note_60 rfl (lv_at hl 0 rfl) ?_
        refine va_get (D := D) (ci := 0) (v := .ref k4) (C := RX0) (T := TX0) (N := 5) hx hb hts inX0 hown hKK.1 hP 0 rfl rfl 3 (by decide) (hts _ q138) (fun _ h => h) rfl dX0_note_61 ?_
        refine lv_aload_n hx hb dX0_note_64 rfl (lv_at hl 0 rfl) ?_
        refine va_get (D := D) (ci := 0) (v := .int y7.2.2.2.2) (C := RX0) (T := TX0) (N := 5) hx hb hts inX0 hown hKK.1 hP 0 rfl rfl 4 (by decide) (hts _ q139) (fun _ h => h) rfl dX0_note_65 ?_
        refine lv_iload hx hb dX0_note_68 (lv_at hl 4 rfl) ?_
        obtain ⟨hg11, hf⟩ := gd_some hf
        refine va_iast hx hb hKK.1 hP hD hS 4 0 rfl rfl (inb_in hg11) dX0_note_70 (fun H locs hP hD hS => ?_)
        have hP : va_P D vwCl (wJ cy k0 k1 k2 k3 k4 ((upd y7.1 y7.2.2.2.2.toNatClampNeg u1), (upd y7.2.1 y7.2.2.2.2.toNatClampNeg u2), (upd y7.2.2.1 y7.2.2.2.2.toNatClampNeg u3), (upd y7.2.2.2.1 y7.2.2.2.2.toNatClampNeg u4), y7.2.2.2.2)) H := hP
        have hD : va_D (adr (wJ cy k0 k1 k2 k3 k4 J)) (wJ cy k0 k1 k2 k3 k4 ((upd y7.1 y7.2.2.2.2.toNatClampNeg u1), (upd y7.2.1 y7.2.2.2.2.toNatClampNeg u2), (upd y7.2.2.1 y7.2.2.2.2.toNatClampNeg u3), (upd y7.2.2.2.1 y7.2.2.2.2.toNatClampNeg u4), y7.2.2.2.2)) := hD
        refine lv_aload_n hx hb dX0_note_71 rfl (lv_at hl 0 rfl) ?_
        refine lv_dup hx hb dX0_note_72 rfl ?_
        refine va_get (D := D) (ci := 0) (v := .int y7.2.2.2.2) (C := RX0) (T := TX0) (N := 5) hx hb hts inX0 hown hKK.1 hP 0 rfl rfl 4 (by decide) (hts _ q139) (fun _ h => h) rfl dX0_note_73 ?_
        refine lv_iconst (v := 1) hx hb dX0_note_76 (by decide) ?_
        refine lv_iadd hx hb dX0_note_77 ?_
        refine nm_i hf (fun x12 hf => ?_)
        refine va_put (D := D) (ci := 0) (v := .int x12) (ty := .int) (C := RX0) (T := TX0) (N := 5) hx hb hts inX0 tyX0 tyX0_ok nmX0 hown hKK.1 hP hD hS 0 rfl rfl 4 (by decide) (hts _ q139) (fun _ h => h) rfl (by decide +kernel) rfl rfl (Nat.le_of_ble_eq_true rfl) dX0_note_78 (fun H locs hP hD hS => ?_)
        have hP : va_P D vwCl (wJ cy k0 k1 k2 k3 k4 ((upd y7.1 y7.2.2.2.2.toNatClampNeg u1), (upd y7.2.1 y7.2.2.2.2.toNatClampNeg u2), (upd y7.2.2.1 y7.2.2.2.2.toNatClampNeg u3), (upd y7.2.2.2.1 y7.2.2.2.2.toNatClampNeg u4), x12)) H := hP
        have hD : va_D (adr (wJ cy k0 k1 k2 k3 k4 J)) (wJ cy k0 k1 k2 k3 k4 ((upd y7.1 y7.2.2.2.2.toNatClampNeg u1), (upd y7.2.1 y7.2.2.2.2.toNatClampNeg u2), (upd y7.2.2.1 y7.2.2.2.2.toNatClampNeg u3), (upd y7.2.2.2.1 y7.2.2.2.2.toNatClampNeg u4), x12)) := hD
        cases hf
        exact mretV hx hb hr hlk hP hS dX0_note_81
      · have hf := (if_neg h).symm.trans hf
        cases hf
        exact mretV hx hb hr hlk hP hS dX0_note_29

abbrev rmX0_takeBack : Room := { frames := 3, cells := 0, slots := 0, locals := 63 }
theorem miX0_takeBack : miV yX0_takeBack cX0_takeBack 4 none 1 := ⟨q516, q44, q514, q515, by decide +kernel⟩
set_option maxHeartbeats 4000000 in
set_option maxRecDepth 100000 in
theorem mtX0_takeBack (l : Launch) (D : va_G) (cy : Nat → ClassId) (z : zT) (k0 k1 k2 k3 k4 j0 j1 j2 j3 j4 : Nat) (J : tJ) (L : tL) (J0 : tJ) (L0 : tL) (hf : fX0_takeBack J L = some (J0, L0)) : mmet l yX0_takeBack cX0_takeBack 4 none rmX0_takeBack D cy z (wJ cy k0 k1 k2 k3 k4 J ++ wL cy j0 j1 j2 j3 j4 L) (wJ cy k0 k1 k2 k3 k4 J0 ++ wL cy j0 j1 j2 j3 j4 L0) [.ref k0, .ref j0] none := by
  refine mmet_of (by decide +kernel) (Nat.le_of_ble_eq_true rfl) (fun p e s m below meth c hx hb hr hml hown hts hlk hP hD hS hA0 hKK ls hl => ?_)
  have hown : s.vm.findClass "HillSight$Journal" = some m.cls := hown
  have hl : lv_has ls 4 [(0, .ref k0), (1, .ref j0)] := hl
  unfold fX0_takeBack at hf
  refine lv_aload_n hx hb dX0_takeBack_0 rfl (lv_at hl 0 rfl) ?_
  refine va_get (D := D) (ci := 0) (v := .int J.2.2.2.2) (C := RX0) (T := TX0) (N := 5) hx hb hts inX0 hown hKK.1 hP 0 rfl rfl 4 (by decide) (hts _ q139) (fun _ h => h) rfl dX0_takeBack_1 ?_
  refine lv_iconst (v := 1) hx hb dX0_takeBack_4 (by decide) ?_
  refine lv_icmp_lt (tgt := 17) hx hb dX0_takeBack_5 (by decide) (fun h => ?_) (fun h => ?_)
  · have hf := (if_pos h).symm.trans hf
    cases hf
    exact mretV hx hb hr hlk hP hS dX0_takeBack_17
  · have hf := (if_neg h).symm.trans hf
    refine lv_aload_n hx hb dX0_takeBack_8 rfl (lv_at hl 0 rfl) ?_
    refine va_get (D := D) (ci := 0) (v := .int J.2.2.2.2) (C := RX0) (T := TX0) (N := 5) hx hb hts inX0 hown hKK.1 hP 0 rfl rfl 4 (by decide) (hts _ q139) (fun _ h => h) rfl dX0_takeBack_9 ?_
    refine lv_bipush (v := 14) hx hb dX0_takeBack_12 (by decide) ?_
    refine lv_icmp_le (tgt := 18) hx hb dX0_takeBack_14 (by decide) (fun h => ?_) (fun h => ?_)
    · have hf := (if_pos h).symm.trans hf
      refine lv_aload_n hx hb dX0_takeBack_18 rfl (lv_at hl 0 rfl) ?_
      refine lv_dup hx hb dX0_takeBack_19 rfl ?_
      refine va_get (D := D) (ci := 0) (v := .int J.2.2.2.2) (C := RX0) (T := TX0) (N := 5) hx hb hts inX0 hown hKK.1 hP 0 rfl rfl 4 (by decide) (hts _ q139) (fun _ h => h) rfl dX0_takeBack_20 ?_
      refine lv_iconst (v := 1) hx hb dX0_takeBack_23 (by decide) ?_
      refine lv_isub hx hb dX0_takeBack_24 ?_
      refine nm_i hf (fun x1 hf => ?_)
      refine va_put (D := D) (ci := 0) (v := .int x1) (ty := .int) (C := RX0) (T := TX0) (N := 5) hx hb hts inX0 tyX0 tyX0_ok nmX0 hown hKK.1 hP hD hS 0 rfl rfl 4 (by decide) (hts _ q139) (fun _ h => h) rfl (by decide +kernel) rfl rfl (Nat.le_of_ble_eq_true rfl) dX0_takeBack_25 (fun H locs hP hD hS => ?_)
      have hP : va_P D vwCl (wJ cy k0 k1 k2 k3 k4 (J.1, J.2.1, J.2.2.1, J.2.2.2.1, x1) ++ wL cy j0 j1 j2 j3 j4 L) H := hP
      have hD : va_D (adr (wJ cy k0 k1 k2 k3 k4 J ++ wL cy j0 j1 j2 j3 j4 L)) (wJ cy k0 k1 k2 k3 k4 (J.1, J.2.1, J.2.2.1, J.2.2.2.1, x1) ++ wL cy j0 j1 j2 j3 j4 L) := hD
      refine lv_aload_n hx hb dX0_takeBack_28 rfl (lv_at hl 0 rfl) ?_
      refine va_get (D := D) (ci := 0) (v := .ref k2) (C := RX0) (T := TX0) (N := 5) hx hb hts inX0 hown hKK.1 hP 0 rfl rfl 1 (by decide) (hts _ q136) (fun _ h => h) rfl dX0_takeBack_29 ?_
      refine lv_aload_n hx hb dX0_takeBack_32 rfl (lv_at hl 0 rfl) ?_
      refine va_get (D := D) (ci := 0) (v := .int x1) (C := RX0) (T := TX0) (N := 5) hx hb hts inX0 hown hKK.1 hP 0 rfl rfl 4 (by decide) (hts _ q139) (fun _ h => h) rfl dX0_takeBack_33 ?_
      obtain ⟨hg2, hf⟩ := gd_some hf
      refine va_iald hx hb hKK.1 hP 2 0 rfl rfl (inb_in hg2) dX0_takeBack_36 ?_
      refine nm_i hf (fun x3 hf => ?_)
      refine lv_istore_n (lv' := [(2, .int x3), (0, .ref k0), (1, .ref j0)]) hx hb dX0_takeBack_37 rfl hl (by decide) rfl (fun ls hl => ?_)
      refine lv_aload_n hx hb dX0_takeBack_38 rfl (lv_at hl 1 rfl) ?_
      refine va_get (D := D) (ci := 0) (v := .ref k3) (C := RX0) (T := TX0) (N := 5) hx hb hts inX0 hown hKK.1 hP 0 rfl rfl 2 (by decide) (hts _ q137) (fun _ h => h) rfl dX0_takeBack_39 ?_
      refine lv_aload_n hx hb dX0_takeBack_42 rfl (lv_at hl 1 rfl) ?_
      refine va_get (D := D) (ci := 0) (v := .int x1) (C := RX0) (T := TX0) (N := 5) hx hb hts inX0 hown hKK.1 hP 0 rfl rfl 4 (by decide) (hts _ q139) (fun _ h => h) rfl dX0_takeBack_43 ?_
      obtain ⟨hg4, hf⟩ := gd_some hf
      refine va_iald hx hb hKK.1 hP 3 0 rfl rfl (inb_in hg4) dX0_takeBack_46 ?_
      refine nm_i hf (fun x5 hf => ?_)
      refine lv_istore_n (lv' := [(3, .int x5), (2, .int x3), (0, .ref k0), (1, .ref j0)]) hx hb dX0_takeBack_47 rfl hl (by decide) rfl (fun ls hl => ?_)
      refine lv_aload_n hx hb dX0_takeBack_48 rfl (lv_at hl 2 rfl) ?_
      refine va_get (D := D) (ci := 0) (v := .ref k1) (C := RX0) (T := TX0) (N := 5) hx hb hts inX0 hown hKK.1 hP 0 rfl rfl 0 (by decide) (hts _ q135) (fun _ h => h) rfl dX0_takeBack_49 ?_
      refine lv_aload_n hx hb dX0_takeBack_52 rfl (lv_at hl 2 rfl) ?_
      refine va_get (D := D) (ci := 0) (v := .int x1) (C := RX0) (T := TX0) (N := 5) hx hb hts inX0 hown hKK.1 hP 0 rfl rfl 4 (by decide) (hts _ q139) (fun _ h => h) rfl dX0_takeBack_53 ?_
      obtain ⟨hg6, hf⟩ := gd_some hf
      refine va_iald hx hb hKK.1 hP 1 0 rfl rfl (inb_in hg6) dX0_takeBack_56 ?_
      by_cases h0 : (J.1 x1.toNatClampNeg) = 0
      · have hf := (if_pos h0).symm.trans hf
        refine sw_hit (tgt := 84) hx hb dX0_takeBack_57 h0 (by decide) (by decide) rfl (by decide) ?_
        refine lv_aload_n hx hb dX0_takeBack_84 rfl (lv_at hl 3 rfl) ?_
        refine lv_iload_n hx hb dX0_takeBack_85 rfl (lv_at hl 1 rfl) ?_
        refine lv_iload_n hx hb dX0_takeBack_86 rfl (lv_at hl 0 rfl) ?_
        obtain ⟨y8, hc7, hf⟩ := bd_some hf
        have hP1 := hP.sub (ws' := wL cy j0 j1 j2 j3 j4 L) [5, 6, 7, 8, 9] rfl
        have hD1 := hD.sub (ws' := wL cy j0 j1 j2 j3 j4 L) [5, 6, 7, 8, 9] (by decide) rfl
        refine mCallVI ⟨hx, hb, hml, hown, hts⟩ (mtX1_putHeight l D cy z j0 j1 j2 j3 j4 L x3 x5 y8.1 y8.2 hc7) miX1_putHeight q517 ⟨Nat.le_of_ble_eq_true rfl, Nat.le_of_ble_eq_true rfl⟩ ⟨rfl, rfl⟩ hP1 hD1 hKK hA0 (va_recv hKK.1 hP1 (ci := 1) (q0 := 0) rfl rfl) rfl hl.1 rfl (Nat.le_of_ble_eq_true rfl) dX0_takeBack_87 ⟨Nat.zero_le _, Nat.zero_le _⟩ hS hP hD [5, 6, 7, 8, 9] rfl rfl (ws' := wJ cy k0 k1 k2 k3 k4 (J.1, J.2.1, J.2.2.1, J.2.2.2.1, x1) ++ wL cy j0 j1 j2 j3 j4 y8.2) rfl (fun H locs hP hD hS => ?_)
        refine lv_pop hx hb dX0_takeBack_90 rfl ?_
        refine lv_goto (tgt := 129) hx hb dX0_takeBack_91 (by decide) ?_
        cases hf
        exact mretV hx hb hr hlk hP hS dX0_takeBack_129
      have hf := (if_neg h0).symm.trans hf
      by_cases h1 : (J.1 x1.toNatClampNeg) = 1
      · have hf := (if_pos h1).symm.trans hf
        refine sw_hit (tgt := 94) hx hb dX0_takeBack_57 h1 (by decide) (by decide) rfl (by decide) ?_
        refine lv_aload_n hx hb dX0_takeBack_94 rfl (lv_at hl 3 rfl) ?_
        refine lv_iload_n hx hb dX0_takeBack_95 rfl (lv_at hl 1 rfl) ?_
        obtain ⟨y10, hc9, hf⟩ := bd_some hf
        have hP1 := hP.sub (ws' := wL cy j0 j1 j2 j3 j4 L) [5, 6, 7, 8, 9] rfl
        have hD1 := hD.sub (ws' := wL cy j0 j1 j2 j3 j4 L) [5, 6, 7, 8, 9] (by decide) rfl
        refine mCallVI ⟨hx, hb, hml, hown, hts⟩ (mtX1_dropTower l D cy z j0 j1 j2 j3 j4 L x3 y10.1 y10.2 hc9) miX1_dropTower q518 ⟨Nat.le_of_ble_eq_true rfl, Nat.le_of_ble_eq_true rfl⟩ ⟨rfl, rfl⟩ hP1 hD1 hKK hA0 (va_recv hKK.1 hP1 (ci := 1) (q0 := 0) rfl rfl) rfl hl.1 rfl (Nat.le_of_ble_eq_true rfl) dX0_takeBack_96 ⟨Nat.zero_le _, Nat.zero_le _⟩ hS hP hD [5, 6, 7, 8, 9] rfl rfl (ws' := wJ cy k0 k1 k2 k3 k4 (J.1, J.2.1, J.2.2.1, J.2.2.2.1, x1) ++ wL cy j0 j1 j2 j3 j4 y10.2) rfl (fun H locs hP hD hS => ?_)
        refine lv_pop hx hb dX0_takeBack_99 rfl ?_
        refine lv_goto (tgt := 129) hx hb dX0_takeBack_100 (by decide) ?_
        cases hf
        exact mretV hx hb hr hlk hP hS dX0_takeBack_129
      have hf := (if_neg h1).symm.trans hf
      by_cases h2 : (J.1 x1.toNatClampNeg) = 2
      · have hf := (if_pos h2).symm.trans hf
        refine sw_hit (tgt := 103) hx hb dX0_takeBack_57 h2 (by decide) (by decide) rfl (by decide) ?_
        refine lv_aload_n hx hb dX0_takeBack_103 rfl (lv_at hl 3 rfl) ?_
        refine lv_iload_n hx hb dX0_takeBack_104 rfl (lv_at hl 1 rfl) ?_
        refine lv_iload_n hx hb dX0_takeBack_105 rfl (lv_at hl 0 rfl) ?_
        refine lv_aload_n hx hb dX0_takeBack_106 rfl (lv_at hl 2 rfl) ?_
        refine va_get (D := D) (ci := 0) (v := .ref k4) (C := RX0) (T := TX0) (N := 5) hx hb hts inX0 hown hKK.1 hP 0 rfl rfl 3 (by decide) (hts _ q138) (fun _ h => h) rfl dX0_takeBack_107 ?_
        refine lv_aload_n hx hb dX0_takeBack_110 rfl (lv_at hl 2 rfl) ?_
        refine va_get (D := D) (ci := 0) (v := .int x1) (C := RX0) (T := TX0) (N := 5) hx hb hts inX0 hown hKK.1 hP 0 rfl rfl 4 (by decide) (hts _ q139) (fun _ h => h) rfl dX0_takeBack_111 ?_
        obtain ⟨hg11, hf⟩ := gd_some hf
        refine va_iald hx hb hKK.1 hP 4 0 rfl rfl (inb_in hg11) dX0_takeBack_114 ?_
        obtain ⟨y13, hc12, hf⟩ := bd_some hf
        have hP1 := hP.sub (ws' := wL cy j0 j1 j2 j3 j4 L) [5, 6, 7, 8, 9] rfl
        have hD1 := hD.sub (ws' := wL cy j0 j1 j2 j3 j4 L) [5, 6, 7, 8, 9] (by decide) rfl
        refine mCallVI ⟨hx, hb, hml, hown, hts⟩ (mtX1_putTower l D cy z j0 j1 j2 j3 j4 L x3 x5 (J.2.2.2.1 x1.toNatClampNeg) y13.1 y13.2 hc12) miX1_putTower q519 ⟨Nat.le_of_ble_eq_true rfl, Nat.le_of_ble_eq_true rfl⟩ ⟨rfl, rfl⟩ hP1 hD1 hKK hA0 (va_recv hKK.1 hP1 (ci := 1) (q0 := 0) rfl rfl) rfl hl.1 rfl (Nat.le_of_ble_eq_true rfl) dX0_takeBack_115 ⟨Nat.zero_le _, Nat.zero_le _⟩ hS hP hD [5, 6, 7, 8, 9] rfl rfl (ws' := wJ cy k0 k1 k2 k3 k4 (J.1, J.2.1, J.2.2.1, J.2.2.2.1, x1) ++ wL cy j0 j1 j2 j3 j4 y13.2) rfl (fun H locs hP hD hS => ?_)
        refine lv_pop hx hb dX0_takeBack_118 rfl ?_
        refine lv_goto (tgt := 129) hx hb dX0_takeBack_119 (by decide) ?_
        cases hf
        exact mretV hx hb hr hlk hP hS dX0_takeBack_129
      have hf := (if_neg h2).symm.trans hf
      refine lv_tableOut (tgt := 122) hx hb dX0_takeBack_57 (show ((J.1 x1.toNatClampNeg)).toInt < 0 ∨ 2 < ((J.1 x1.toNatClampNeg)).toInt by have e0 := lv_neT h0 (a := 0) (by decide); have e1 := lv_neT h1 (a := 1) (by decide); have e2 := lv_neT h2 (a := 2) (by decide); omega) (by decide) ?_
      refine lv_aload_n hx hb dX0_takeBack_122 rfl (lv_at hl 3 rfl) ?_
      refine lv_iload_n hx hb dX0_takeBack_123 rfl (lv_at hl 1 rfl) ?_
      refine lv_iload_n hx hb dX0_takeBack_124 rfl (lv_at hl 0 rfl) ?_
      obtain ⟨y15, hc14, hf⟩ := bd_some hf
      have hP1 := hP.sub (ws' := wL cy j0 j1 j2 j3 j4 L) [5, 6, 7, 8, 9] rfl
      have hD1 := hD.sub (ws' := wL cy j0 j1 j2 j3 j4 L) [5, 6, 7, 8, 9] (by decide) rfl
      refine mCallVI ⟨hx, hb, hml, hown, hts⟩ (mtX1_putSetting l D cy z j0 j1 j2 j3 j4 L x3 x5 y15.1 y15.2 hc14) miX1_putSetting q520 ⟨Nat.le_of_ble_eq_true rfl, Nat.le_of_ble_eq_true rfl⟩ ⟨rfl, rfl⟩ hP1 hD1 hKK hA0 (va_recv hKK.1 hP1 (ci := 1) (q0 := 0) rfl rfl) rfl hl.1 rfl (Nat.le_of_ble_eq_true rfl) dX0_takeBack_125 ⟨Nat.zero_le _, Nat.zero_le _⟩ hS hP hD [5, 6, 7, 8, 9] rfl rfl (ws' := wJ cy k0 k1 k2 k3 k4 (J.1, J.2.1, J.2.2.1, J.2.2.2.1, x1) ++ wL cy j0 j1 j2 j3 j4 y15.2) rfl (fun H locs hP hD hS => ?_)
      refine lv_pop hx hb dX0_takeBack_128 rfl ?_
      cases hf
      exact mretV hx hb hr hlk hP hS dX0_takeBack_129
    · have hf := (if_neg h).symm.trans hf
      cases hf
      exact mretV hx hb hr hlk hP hS dX0_takeBack_17

abbrev rmX3_add : Room := { frames := 0, cells := 0, slots := 0, locals := 0 }
theorem miX3_add : miV yX3_add cX3_add 3 (some .boolean) 2 := ⟨q615, q45, q613, q614, by decide +kernel⟩
set_option maxHeartbeats 4000000 in
set_option maxRecDepth 100000 in
theorem mtX3_add (l : Launch) (D : va_G) (cy : Nat → ClassId) (z : zT) (k0 k1 k2 : Nat) (O : tO) (u1 : Int32) (u2 : Int32) (r0 : Int32) (O0 : tO) (hf : fX3_add O u1 u2 = some (r0, O0)) : mmet l yX3_add cX3_add 3 (some .boolean) rmX3_add D cy z (wO cy k0 k1 k2 O) (wO cy k0 k1 k2 O0) [.ref k0, .int u1, .int u2] (some (.int r0)) := by
  refine mmet_of (by decide +kernel) (Nat.le_of_ble_eq_true rfl) (fun p e s m below meth c hx hb hr hml hown hts hlk hP hD hS hA0 hKK ls hl => ?_)
  have hown : s.vm.findClass "HillSight$Observations" = some m.cls := hown
  have hl : lv_has ls 3 [(0, .ref k0), (1, .int u1), (2, .int u2)] := hl
  unfold fX3_add at hf
  refine lv_aload_n hx hb dX3_add_0 rfl (lv_at hl 0 rfl) ?_
  refine va_get (D := D) (ci := 3) (v := .int O.2.2) (C := RX3) (T := TX3) (N := 3) hx hb hts inX3 hown hKK.1 hP 0 rfl rfl 2 (by decide) (hts _ q160) (fun _ h => h) rfl dX3_add_1 ?_
  refine lv_if_lt (tgt := 16) hx hb dX3_add_4 (by decide) (fun h => ?_) (fun h => ?_)
  · have hf := (if_pos h).symm.trans hf
    refine lv_iconst (v := 0) hx hb dX3_add_16 (by decide) ?_
    cases hf
    exact mretZ hx hb hr hlk (by decide) hP hS dX3_add_17
  · have hf := (if_neg h).symm.trans hf
    refine lv_aload_n hx hb dX3_add_7 rfl (lv_at hl 0 rfl) ?_
    refine va_get (D := D) (ci := 3) (v := .int O.2.2) (C := RX3) (T := TX3) (N := 3) hx hb hts inX3 hown hKK.1 hP 0 rfl rfl 2 (by decide) (hts _ q160) (fun _ h => h) rfl dX3_add_8 ?_
    refine lv_bipush (v := 6) hx hb dX3_add_11 (by decide) ?_
    refine lv_icmp_lt (tgt := 18) hx hb dX3_add_13 (by decide) (fun h => ?_) (fun h => ?_)
    · have hf := (if_pos h).symm.trans hf
      refine lv_aload_n hx hb dX3_add_18 rfl (lv_at hl 0 rfl) ?_
      refine va_get (D := D) (ci := 3) (v := .ref k1) (C := RX3) (T := TX3) (N := 3) hx hb hts inX3 hown hKK.1 hP 0 rfl rfl 0 (by decide) (hts _ q158) (fun _ h => h) rfl dX3_add_19 ?_
      refine lv_aload_n hx hb dX3_add_22 rfl (lv_at hl 0 rfl) ?_
      refine va_get (D := D) (ci := 3) (v := .int O.2.2) (C := RX3) (T := TX3) (N := 3) hx hb hts inX3 hown hKK.1 hP 0 rfl rfl 2 (by decide) (hts _ q160) (fun _ h => h) rfl dX3_add_23 ?_
      refine lv_iload_n hx hb dX3_add_26 rfl (lv_at hl 1 rfl) ?_
      obtain ⟨hg1, hf⟩ := gd_some hf
      refine va_iast hx hb hKK.1 hP hD hS 1 0 rfl rfl (inb_in hg1) dX3_add_27 (fun H locs hP hD hS => ?_)
      have hP : va_P D vwCl (wO cy k0 k1 k2 ((upd O.1 O.2.2.toNatClampNeg u1), O.2.1, O.2.2)) H := hP
      have hD : va_D (adr (wO cy k0 k1 k2 O)) (wO cy k0 k1 k2 ((upd O.1 O.2.2.toNatClampNeg u1), O.2.1, O.2.2)) := hD
      refine lv_aload_n hx hb dX3_add_28 rfl (lv_at hl 0 rfl) ?_
      refine va_get (D := D) (ci := 3) (v := .ref k2) (C := RX3) (T := TX3) (N := 3) hx hb hts inX3 hown hKK.1 hP 0 rfl rfl 1 (by decide) (hts _ q159) (fun _ h => h) rfl dX3_add_29 ?_
      refine lv_aload_n hx hb dX3_add_32 rfl (lv_at hl 0 rfl) ?_
      refine va_get (D := D) (ci := 3) (v := .int O.2.2) (C := RX3) (T := TX3) (N := 3) hx hb hts inX3 hown hKK.1 hP 0 rfl rfl 2 (by decide) (hts _ q160) (fun _ h => h) rfl dX3_add_33 ?_
      refine lv_iload_n hx hb dX3_add_36 rfl (lv_at hl 2 rfl) ?_
      obtain ⟨hg2, hf⟩ := gd_some hf
      refine va_zast hx hb hKK.1 hP hD hS 2 3 rfl rfl (inb_in hg2) dX3_add_37 (fun H locs hP hD hS => ?_)
      have hP : va_P D vwCl (wO cy k0 k1 k2 ((upd O.1 O.2.2.toNatClampNeg u1), (upd O.2.1 O.2.2.toNatClampNeg (vp_nar .boolean u2)), O.2.2)) H := hP
      have hD : va_D (adr (wO cy k0 k1 k2 O)) (wO cy k0 k1 k2 ((upd O.1 O.2.2.toNatClampNeg u1), (upd O.2.1 O.2.2.toNatClampNeg (vp_nar .boolean u2)), O.2.2)) := hD
      refine lv_aload_n hx hb dX3_add_38 rfl (lv_at hl 0 rfl) ?_
      refine lv_dup hx hb dX3_add_39 rfl ?_
      refine va_get (D := D) (ci := 3) (v := .int O.2.2) (C := RX3) (T := TX3) (N := 3) hx hb hts inX3 hown hKK.1 hP 0 rfl rfl 2 (by decide) (hts _ q160) (fun _ h => h) rfl dX3_add_40 ?_
      refine lv_iconst (v := 1) hx hb dX3_add_43 (by decide) ?_
      refine lv_iadd hx hb dX3_add_44 ?_
      refine nm_i hf (fun x3 hf => ?_)
      refine va_put (D := D) (ci := 3) (v := .int x3) (ty := .int) (C := RX3) (T := TX3) (N := 3) hx hb hts inX3 tyX3 tyX3_ok nmX3 hown hKK.1 hP hD hS 0 rfl rfl 2 (by decide) (hts _ q160) (fun _ h => h) rfl (by decide +kernel) rfl rfl (Nat.le_of_ble_eq_true rfl) dX3_add_45 (fun H locs hP hD hS => ?_)
      have hP : va_P D vwCl (wO cy k0 k1 k2 ((upd O.1 O.2.2.toNatClampNeg u1), (upd O.2.1 O.2.2.toNatClampNeg (vp_nar .boolean u2)), x3)) H := hP
      have hD : va_D (adr (wO cy k0 k1 k2 O)) (wO cy k0 k1 k2 ((upd O.1 O.2.2.toNatClampNeg u1), (upd O.2.1 O.2.2.toNatClampNeg (vp_nar .boolean u2)), x3)) := hD
      refine lv_iconst (v := 1) hx hb dX3_add_48 (by decide) ?_
      cases hf
      exact mretZ hx hb hr hlk (by decide) hP hS dX3_add_49
    · have hf := (if_neg h).symm.trans hf
      refine lv_iconst (v := 0) hx hb dX3_add_16 (by decide) ?_
      cases hf
      exact mretZ hx hb hr hlk (by decide) hP hS dX3_add_17

abbrev rmX3_agreeFrom : Room := { frames := 3, cells := 0, slots := 0, locals := 83 }
theorem miX3_agreeFrom : miV yX3_agreeFrom cX3_agreeFrom 6 (some .boolean) 2 := ⟨q627, q45, q625, q626, by decide +kernel⟩
set_option maxHeartbeats 4000000 in
set_option maxRecDepth 100000 in
theorem mtX3_agreeFrom (l : Launch) (D : va_G) (cy : Nat → ClassId) (z : zT) (k0 k1 k2 j0 j1 j2 j3 j4 : Nat) (O : tO) (L : tL) (u1 : Int32) (r0 : Int32) (hf : fX3_agreeFrom O L u1 = some r0) : pmet l yX3_agreeFrom cX3_agreeFrom 6 (some .boolean) rmX3_agreeFrom D cy z (wO cy k0 k1 k2 O ++ wL cy j0 j1 j2 j3 j4 L) [.ref k0, .int u1, .ref j0] (some (.int r0)) := by
  refine pmet_of (by decide +kernel) (Nat.le_of_ble_eq_true rfl) (fun p e s m below meth c hx hb hr hml hown hts hlk hP hKK ls hl => ?_)
  have hS : va_S noF s.heap s.heap [] := va_S.rf
  have hA0 : ∀ q, noF q → zA z q := fun _ h => h.elim
  have hown : s.vm.findClass "HillSight$Observations" = some m.cls := hown
  have hl : lv_has ls 6 [(0, .ref k0), (1, .int u1), (2, .ref j0)] := hl
  have w_10 : ∀ (g1_10 : Int32) (g3_10 : Int32) (k75 : Option (Int32)) (hk75 : ∀ (ls : Array Slot), k75 = some r0 → lv_has ls 6 [] → W p l e rmX3_agreeFrom s m ([.ref k0, .int u1, .ref j0] : List Value).toArray below meth c s.heap [] 0 0 (MQ below (pQ (some (.int r0))) ([.ref k0, .int u1, .ref j0] : List Value).toArray s 0 0 noF) (F0 m 75 ls [])) (k83 : Option (Int32)) (hk83 : ∀ (ls : Array Slot), k83 = some r0 → lv_has ls 6 [] → W p l e rmX3_agreeFrom s m ([.ref k0, .int u1, .ref j0] : List Value).toArray below meth c s.heap [] 0 0 (MQ below (pQ (some (.int r0))) ([.ref k0, .int u1, .ref j0] : List Value).toArray s 0 0 noF) (F0 m 83 ls [])) (n : Nat) (v4_10 : Int32) (ls : Array Slot), fX3_agreeFrom_10 O L g1_10 g3_10 k75 k83 n v4_10 = some r0 → lv_has ls 6 [(0, .ref k0), (1, .int g1_10), (2, .ref j0), (3, .int g3_10), (4, .int v4_10)] → W p l e rmX3_agreeFrom s m ([.ref k0, .int u1, .ref j0] : List Value).toArray below meth c s.heap [] 0 0 (MQ below (pQ (some (.int r0))) ([.ref k0, .int u1, .ref j0] : List Value).toArray s 0 0 noF) (F0 m 10 ls []) := by
    intro g1_10 g3_10 k75 hk75 k83 hk83 n
    induction n with
    | zero =>
      intro v4_10 ls hf hl
      cases (show (none : Option (Int32)) = some r0 from hf)
    | succ n ih =>
      intro v4_10 ls hf hl
      rw [fX3_agreeFrom_10] at hf
      refine lv_iload hx hb dX3_agreeFrom_10 (lv_at hl 4 rfl) ?_
      refine lv_aload_n hx hb dX3_agreeFrom_12 rfl (lv_at hl 0 rfl) ?_
      refine va_get (D := D) (ci := 3) (v := .int O.2.2) (C := RX3) (T := TX3) (N := 3) hx hb hts inX3 hown hKK.1 hP 0 rfl rfl 2 (by decide) (hts _ q160) (fun _ h => h) rfl dX3_agreeFrom_13 ?_
      refine lv_icmp_ge (tgt := 83) hx hb dX3_agreeFrom_16 (by decide) (fun h => ?_) (fun h => ?_)
      · have hf := (if_pos h).symm.trans hf
        exact hk83 ls hf (lv_sub hl [] rfl)
      · have hf := (if_neg h).symm.trans hf
        refine lv_iload hx hb dX3_agreeFrom_19 (lv_at hl 4 rfl) ?_
        refine lv_bipush (v := 6) hx hb dX3_agreeFrom_21 (by decide) ?_
        refine lv_icmp_ge (tgt := 83) hx hb dX3_agreeFrom_23 (by decide) (fun h => ?_) (fun h => ?_)
        · have hf := (if_pos h).symm.trans hf
          exact hk83 ls hf (lv_sub hl [] rfl)
        · have hf := (if_neg h).symm.trans hf
          refine lv_aload_n hx hb dX3_agreeFrom_26 rfl (lv_at hl 2 rfl) ?_
          refine lv_aload_n hx hb dX3_agreeFrom_27 rfl (lv_at hl 0 rfl) ?_
          refine va_get (D := D) (ci := 3) (v := .ref k1) (C := RX3) (T := TX3) (N := 3) hx hb hts inX3 hown hKK.1 hP 0 rfl rfl 0 (by decide) (hts _ q158) (fun _ h => h) rfl dX3_agreeFrom_28 ?_
          refine lv_iload hx hb dX3_agreeFrom_31 (lv_at hl 4 rfl) ?_
          obtain ⟨hg2, hf⟩ := gd_some hf
          refine va_iald hx hb hKK.1 hP 1 0 rfl rfl (inb_in hg2) dX3_agreeFrom_33 ?_
          obtain ⟨r4, hc3, hf⟩ := bd_some hf
          have hP1 := hP.sub (ws' := wL cy j0 j1 j2 j3 j4 L) [3, 4, 5, 6, 7] rfl
          refine pCallVI ⟨hx, hb, hml, hown, hts⟩ (mtX1_hasCell l D cy z j0 j1 j2 j3 j4 L (O.1 v4_10.toNatClampNeg) r4 hc3) miX1_hasCell q628 ⟨Nat.le_of_ble_eq_true rfl, Nat.le_of_ble_eq_true rfl⟩ ⟨rfl, rfl⟩ hP1 hKK hS hA0 (va_recv hKK.1 hP1 (ci := 1) (q0 := 0) rfl rfl) rfl hl.1 rfl (Nat.le_of_ble_eq_true rfl) dX3_agreeFrom_34 ⟨Nat.zero_le _, Nat.zero_le _⟩ ?_
          refine lv_if_eq (tgt := 60) hx hb dX3_agreeFrom_37 (by decide) (fun h => ?_) (fun h => ?_)
          · have hf := (if_pos h).symm.trans hf
            refine lv_iconst (v := 0) hx hb dX3_agreeFrom_60 (by decide) ?_
            refine lv_istore (lv' := [(5, .int (0 : Int32)), (0, .ref k0), (1, .int g1_10), (2, .ref j0), (3, .int g3_10), (4, .int v4_10)]) hx hb dX3_agreeFrom_61 hl (by decide) rfl (fun ls hl => ?_)
            refine lv_iload hx hb dX3_agreeFrom_63 (lv_at hl 0 rfl) ?_
            refine lv_aload_n hx hb dX3_agreeFrom_65 rfl (lv_at hl 1 rfl) ?_
            refine va_get (D := D) (ci := 3) (v := .ref k2) (C := RX3) (T := TX3) (N := 3) hx hb hts inX3 hown hKK.1 hP 0 rfl rfl 1 (by decide) (hts _ q159) (fun _ h => h) rfl dX3_agreeFrom_66 ?_
            refine lv_iload hx hb dX3_agreeFrom_69 (lv_at hl 5 rfl) ?_
            obtain ⟨hg5, hf⟩ := gd_some hf
            refine va_zald hx hb hKK.1 hP 2 3 rfl rfl (inb_in hg5) dX3_agreeFrom_71 ?_
            refine lv_icmp_eq (tgt := 77) hx hb dX3_agreeFrom_72 (by decide) (fun h => ?_) (fun h => ?_)
            · have hf := (if_pos h).symm.trans hf
              obtain ⟨x6, ex6, hf⟩ := nm_ex hf
              refine lv_iinc (v := x6) (lv' := [(4, .int x6), (5, .int (0 : Int32)), (0, .ref k0), (1, .int g1_10), (2, .ref j0), (3, .int g3_10)]) hx hb dX3_agreeFrom_77 hl (k := 5) rfl (Eq.trans rfl ex6) (by decide) rfl (fun ls hl => ?_)
              refine lv_goto (tgt := 10) hx hb dX3_agreeFrom_80 (by decide) ?_
              exact ih x6 ls hf (lv_sub hl [2, 3, 4, 5, 0] rfl)
            · have hf := (if_neg h).symm.trans hf
              exact hk75 ls hf (lv_sub hl [] rfl)
          · have hf := (if_neg h).symm.trans hf
            refine lv_aload_n hx hb dX3_agreeFrom_40 rfl (lv_at hl 2 rfl) ?_
            refine lv_iload_n hx hb dX3_agreeFrom_41 rfl (lv_at hl 1 rfl) ?_
            refine lv_iload_n hx hb dX3_agreeFrom_42 rfl (lv_at hl 3 rfl) ?_
            refine lv_aload_n hx hb dX3_agreeFrom_43 rfl (lv_at hl 0 rfl) ?_
            refine va_get (D := D) (ci := 3) (v := .ref k1) (C := RX3) (T := TX3) (N := 3) hx hb hts inX3 hown hKK.1 hP 0 rfl rfl 0 (by decide) (hts _ q158) (fun _ h => h) rfl dX3_agreeFrom_44 ?_
            refine lv_iload hx hb dX3_agreeFrom_47 (lv_at hl 4 rfl) ?_
            obtain ⟨hg7, hf⟩ := gd_some hf
            refine va_iald hx hb hKK.1 hP 1 0 rfl rfl (inb_in hg7) dX3_agreeFrom_49 ?_
            obtain ⟨r9, hc8, hf⟩ := bd_some hf
            have hP1 := hP.sub (ws' := wL cy j0 j1 j2 j3 j4 L) [3, 4, 5, 6, 7] rfl
            refine pCallVI ⟨hx, hb, hml, hown, hts⟩ (mtX1_canSee l D cy z j0 j1 j2 j3 j4 L g1_10 g3_10 (O.1 v4_10.toNatClampNeg) r9 hc8) miX1_canSee q629 ⟨Nat.le_of_ble_eq_true rfl, Nat.le_of_ble_eq_true rfl⟩ ⟨rfl, rfl⟩ hP1 hKK hS hA0 (va_recv hKK.1 hP1 (ci := 1) (q0 := 0) rfl rfl) rfl hl.1 rfl (Nat.le_of_ble_eq_true rfl) dX3_agreeFrom_50 ⟨Nat.zero_le _, Nat.zero_le _⟩ ?_
            refine lv_if_eq (tgt := 60) hx hb dX3_agreeFrom_53 (by decide) (fun h => ?_) (fun h => ?_)
            · have hf := (if_pos h).symm.trans hf
              refine lv_iconst (v := 0) hx hb dX3_agreeFrom_60 (by decide) ?_
              refine lv_istore (lv' := [(5, .int (0 : Int32)), (0, .ref k0), (1, .int g1_10), (2, .ref j0), (3, .int g3_10), (4, .int v4_10)]) hx hb dX3_agreeFrom_61 hl (by decide) rfl (fun ls hl => ?_)
              refine lv_iload hx hb dX3_agreeFrom_63 (lv_at hl 0 rfl) ?_
              refine lv_aload_n hx hb dX3_agreeFrom_65 rfl (lv_at hl 1 rfl) ?_
              refine va_get (D := D) (ci := 3) (v := .ref k2) (C := RX3) (T := TX3) (N := 3) hx hb hts inX3 hown hKK.1 hP 0 rfl rfl 1 (by decide) (hts _ q159) (fun _ h => h) rfl dX3_agreeFrom_66 ?_
              refine lv_iload hx hb dX3_agreeFrom_69 (lv_at hl 5 rfl) ?_
              obtain ⟨hg10, hf⟩ := gd_some hf
              refine va_zald hx hb hKK.1 hP 2 3 rfl rfl (inb_in hg10) dX3_agreeFrom_71 ?_
              refine lv_icmp_eq (tgt := 77) hx hb dX3_agreeFrom_72 (by decide) (fun h => ?_) (fun h => ?_)
              · have hf := (if_pos h).symm.trans hf
                obtain ⟨x11, ex11, hf⟩ := nm_ex hf
                refine lv_iinc (v := x11) (lv' := [(4, .int x11), (5, .int (0 : Int32)), (0, .ref k0), (1, .int g1_10), (2, .ref j0), (3, .int g3_10)]) hx hb dX3_agreeFrom_77 hl (k := 5) rfl (Eq.trans rfl ex11) (by decide) rfl (fun ls hl => ?_)
                refine lv_goto (tgt := 10) hx hb dX3_agreeFrom_80 (by decide) ?_
                exact ih x11 ls hf (lv_sub hl [2, 3, 4, 5, 0] rfl)
              · have hf := (if_neg h).symm.trans hf
                exact hk75 ls hf (lv_sub hl [] rfl)
            · have hf := (if_neg h).symm.trans hf
              refine lv_iconst (v := 1) hx hb dX3_agreeFrom_56 (by decide) ?_
              refine lv_goto (tgt := 61) hx hb dX3_agreeFrom_57 (by decide) ?_
              refine lv_istore (lv' := [(5, .int (1 : Int32)), (0, .ref k0), (1, .int g1_10), (2, .ref j0), (3, .int g3_10), (4, .int v4_10)]) hx hb dX3_agreeFrom_61 hl (by decide) rfl (fun ls hl => ?_)
              refine lv_iload hx hb dX3_agreeFrom_63 (lv_at hl 0 rfl) ?_
              refine lv_aload_n hx hb dX3_agreeFrom_65 rfl (lv_at hl 1 rfl) ?_
              refine va_get (D := D) (ci := 3) (v := .ref k2) (C := RX3) (T := TX3) (N := 3) hx hb hts inX3 hown hKK.1 hP 0 rfl rfl 1 (by decide) (hts _ q159) (fun _ h => h) rfl dX3_agreeFrom_66 ?_
              refine lv_iload hx hb dX3_agreeFrom_69 (lv_at hl 5 rfl) ?_
              obtain ⟨hg12, hf⟩ := gd_some hf
              refine va_zald hx hb hKK.1 hP 2 3 rfl rfl (inb_in hg12) dX3_agreeFrom_71 ?_
              refine lv_icmp_eq (tgt := 77) hx hb dX3_agreeFrom_72 (by decide) (fun h => ?_) (fun h => ?_)
              · have hf := (if_pos h).symm.trans hf
                obtain ⟨x13, ex13, hf⟩ := nm_ex hf
                refine lv_iinc (v := x13) (lv' := [(4, .int x13), (5, .int (1 : Int32)), (0, .ref k0), (1, .int g1_10), (2, .ref j0), (3, .int g3_10)]) hx hb dX3_agreeFrom_77 hl (k := 5) rfl (Eq.trans rfl ex13) (by decide) rfl (fun ls hl => ?_)
                refine lv_goto (tgt := 10) hx hb dX3_agreeFrom_80 (by decide) ?_
                exact ih x13 ls hf (lv_sub hl [2, 3, 4, 5, 0] rfl)
              · have hf := (if_neg h).symm.trans hf
                exact hk75 ls hf (lv_sub hl [] rfl)
  unfold fX3_agreeFrom at hf
  refine lv_aload_n hx hb dX3_agreeFrom_0 rfl (lv_at hl 2 rfl) ?_
  refine va_get (D := D) (ci := 1) (v := .ref j4) (C := RX1) (T := TX1) (N := 7) hx hb hts inX1 hown hKK.1 hP 3 rfl rfl 6 (by decide) (hts _ q89) (fun _ h => h) rfl dX3_agreeFrom_1 ?_
  refine lv_iconst (v := 0) hx hb dX3_agreeFrom_4 (by decide) ?_
  refine va_iald hx hb hKK.1 hP 7 0 rfl rfl (inb_in (by decide)) dX3_agreeFrom_5 ?_
  refine nm_i hf (fun x1 hf => ?_)
  refine lv_istore_n (lv' := [(3, .int x1), (0, .ref k0), (1, .int u1), (2, .ref j0)]) hx hb dX3_agreeFrom_6 rfl hl (by decide) rfl (fun ls hl => ?_)
  refine lv_iconst (v := 0) hx hb dX3_agreeFrom_7 (by decide) ?_
  refine lv_istore (lv' := [(4, .int (0 : Int32)), (3, .int x1), (0, .ref k0), (1, .int u1), (2, .ref j0)]) hx hb dX3_agreeFrom_8 hl (by decide) rfl (fun ls hl => ?_)
  refine w_10 u1 x1 _ ?_ _ ?_ _ (0 : Int32) ls hf (lv_sub hl [2, 3, 4, 1, 0] rfl)
  · intro  ls hf hl
    refine lv_iconst (v := 0) hx hb dX3_agreeFrom_75 (by decide) ?_
    exact pretZ hx hb hr hlk (by decide) hf dX3_agreeFrom_76
  · intro  ls hf hl
    refine lv_iconst (v := 1) hx hb dX3_agreeFrom_83 (by decide) ?_
    exact pretZ hx hb hr hlk (by decide) hf dX3_agreeFrom_84
