abbrev rmX5_in : Room := { frames := 0, cells := 0, slots := 0, locals := 0 }
theorem miX5_in : miS yX5_in cX5_in 6 (some .boolean) 3 := ⟨q753, q46, q752, by decide +kernel⟩
set_option maxHeartbeats 4000000 in
set_option maxRecDepth 100000 in
theorem mtX5_in (l : Launch) (D : va_G) (cy : Nat → ClassId) (z : zT)  (u1 : Int64) (u2 : Int64) (u3 : Int64) (r0 : Int32) (hf : fX5_in u1 u2 u3 = some r0) : pmet l yX5_in cX5_in 6 (some .boolean) rmX5_in D cy z ([]) [.long u1, .long u2, .long u3] (some (.int r0)) := by
  refine pmet_of (by decide +kernel) (Nat.le_of_ble_eq_true rfl) (fun p e s m below meth c hx hb hr hml hown hts hlk hP hKK ls hl => ?_)
  have hS : va_S noF s.heap s.heap [] := va_S.rf
  have hA0 : ∀ q, noF q → zA z q := fun _ h => h.elim
  have hown : s.vm.findClass "HillSightModel" = some m.cls := hown
  have hl : lv_has ls 6 [(0, .long u1), (2, .long u2), (4, .long u3)] := hl
  unfold fX5_in at hf
  refine lv_lload_n hx hb dX5_in_0 rfl (lv_at hl 0 rfl) ?_
  refine lv_lload_n hx hb dX5_in_1 rfl (lv_at hl 1 rfl) ?_
  refine W.lcmp hx hb dX5_in_2 ?_
  refine lv_if_lt (tgt := 17) hx hb dX5_in_3 (by decide) (fun h => ?_) (fun h => ?_)
  · have hf := (if_pos h).symm.trans hf
    refine lv_iconst (v := 0) hx hb dX5_in_17 (by decide) ?_
    exact pretZ hx hb hr hlk (by decide) hf dX5_in_18
  · have hf := (if_neg h).symm.trans hf
    refine lv_lload_n hx hb dX5_in_6 rfl (lv_at hl 0 rfl) ?_
    refine lv_lload hx hb dX5_in_7 (lv_at hl 2 rfl) ?_
    refine W.lcmp hx hb dX5_in_9 ?_
    refine lv_if_gt (tgt := 17) hx hb dX5_in_10 (by decide) (fun h => ?_) (fun h => ?_)
    · have hf := (if_pos h).symm.trans hf
      refine lv_iconst (v := 0) hx hb dX5_in_17 (by decide) ?_
      exact pretZ hx hb hr hlk (by decide) hf dX5_in_18
    · have hf := (if_neg h).symm.trans hf
      refine lv_iconst (v := 1) hx hb dX5_in_13 (by decide) ?_
      refine lv_goto (tgt := 18) hx hb dX5_in_14 (by decide) ?_
      exact pretZ hx hb hr hlk (by decide) hf dX5_in_18

abbrev rmX5_has : Room := { frames := 0, cells := 0, slots := 0, locals := 0 }
theorem miX5_has : miS yX5_has cX5_has 3 (some .boolean) 2 := ⟨q852, q46, q851, by decide +kernel⟩
set_option maxHeartbeats 4000000 in
set_option maxRecDepth 100000 in
theorem mtX5_has (l : Launch) (D : va_G) (cy : Nat → ClassId) (z : zT)  (u1 : Int64) (u2 : Int32) (r0 : Int32) (hf : fX5_has u1 u2 = some r0) : pmet l yX5_has cX5_has 3 (some .boolean) rmX5_has D cy z ([]) [.long u1, .int u2] (some (.int r0)) := by
  refine pmet_of (by decide +kernel) (Nat.le_of_ble_eq_true rfl) (fun p e s m below meth c hx hb hr hml hown hts hlk hP hKK ls hl => ?_)
  have hS : va_S noF s.heap s.heap [] := va_S.rf
  have hA0 : ∀ q, noF q → zA z q := fun _ h => h.elim
  have hown : s.vm.findClass "HillSightModel" = some m.cls := hown
  have hl : lv_has ls 3 [(0, .long u1), (2, .int u2)] := hl
  unfold fX5_has at hf
  refine lv_lload_n hx hb dX5_has_0 rfl (lv_at hl 0 rfl) ?_
  refine lv_iload_n hx hb dX5_has_1 rfl (lv_at hl 1 rfl) ?_
  refine lv_lshr hx hb dX5_has_2 rfl ?_
  refine lv_lconst (v := 1) hx hb dX5_has_3 (by decide) ?_
  refine lv_land hx hb dX5_has_4 ?_
  refine lv_lconst (v := 1) hx hb dX5_has_5 (by decide) ?_
  refine W.lcmp hx hb dX5_has_6 ?_
  refine lv_if_ne (tgt := 14) hx hb dX5_has_7 (by decide) (fun h => ?_) (fun h => ?_)
  · have hf := (if_neg h).symm.trans hf
    refine lv_iconst (v := 0) hx hb dX5_has_14 (by decide) ?_
    exact pretZ hx hb hr hlk (by decide) hf dX5_has_15
  · have hf := (if_pos h).symm.trans hf
    refine lv_iconst (v := 1) hx hb dX5_has_10 (by decide) ?_
    refine lv_goto (tgt := 15) hx hb dX5_has_11 (by decide) ?_
    exact pretZ hx hb hr hlk (by decide) hf dX5_has_15

abbrev rmX5_ones : Room := { frames := 1, cells := 0, slots := 0, locals := 22 }
theorem miX5_ones : miS yX5_ones cX5_ones 4 (some .int) 1 := ⟨q849, q46, q848, by decide +kernel⟩
set_option maxHeartbeats 4000000 in
set_option maxRecDepth 100000 in
theorem mtX5_ones (l : Launch) (D : va_G) (cy : Nat → ClassId) (z : zT)  (u1 : Int64) (r0 : Int32) (hf : fX5_ones u1 = some r0) : pmet l yX5_ones cX5_ones 4 (some .int) rmX5_ones D cy z ([]) [.long u1] (some (.int r0)) := by
  refine pmet_of (by decide +kernel) (Nat.le_of_ble_eq_true rfl) (fun p e s m below meth c hx hb hr hml hown hts hlk hP hKK ls hl => ?_)
  have hS : va_S noF s.heap s.heap [] := va_S.rf
  have hA0 : ∀ q, noF q → zA z q := fun _ h => h.elim
  have hown : s.vm.findClass "HillSightModel" = some m.cls := hown
  have hl : lv_has ls 4 [(0, .long u1)] := hl
  have w_4 : ∀ (g0_4 : Int64) (k32 : Int32 → Option (Int32)) (hk32 : ∀ (v2_4 : Int32) (ls : Array Slot), k32 v2_4 = some r0 → lv_has ls 4 [(2, .int v2_4)] → W p l e rmX5_ones s m ([.long u1] : List Value).toArray below meth c s.heap [] 0 0 (MQ below (pQ (some (.int r0))) ([.long u1] : List Value).toArray s 0 0 noF) (F0 m 32 ls [])) (n : Nat) (v2_4 : Int32) (v3_4 : Int32) (ls : Array Slot), fX5_ones_4 g0_4 k32 n v2_4 v3_4 = some r0 → lv_has ls 4 [(0, .long g0_4), (2, .int v2_4), (3, .int v3_4)] → W p l e rmX5_ones s m ([.long u1] : List Value).toArray below meth c s.heap [] 0 0 (MQ below (pQ (some (.int r0))) ([.long u1] : List Value).toArray s 0 0 noF) (F0 m 4 ls []) := by
    intro g0_4 k32 hk32 n
    induction n with
    | zero =>
      intro v2_4 v3_4 ls hf hl
      cases (show (none : Option (Int32)) = some r0 from hf)
    | succ n ih =>
      intro v2_4 v3_4 ls hf hl
      rw [fX5_ones_4] at hf
      refine lv_iload_n hx hb dX5_ones_4 rfl (lv_at hl 2 rfl) ?_
      refine lv_bipush (v := 36) hx hb dX5_ones_5 (by decide) ?_
      refine lv_icmp_ge (tgt := 32) hx hb dX5_ones_7 (by decide) (fun h => ?_) (fun h => ?_)
      · have hf := (if_pos h).symm.trans hf
        exact hk32 v2_4 ls hf (lv_sub hl [1] rfl)
      · have hf := (if_neg h).symm.trans hf
        refine lv_iload_n hx hb dX5_ones_10 rfl (lv_at hl 1 rfl) ?_
        refine lv_lload_n hx hb dX5_ones_11 rfl (lv_at hl 0 rfl) ?_
        refine lv_iload_n hx hb dX5_ones_12 rfl (lv_at hl 2 rfl) ?_
        obtain ⟨r2, hc1, hf⟩ := bd_some hf
        refine pCallSI ⟨hx, hb, hml, hown, hts⟩ (mtX5_has l D cy z g0_4 v3_4 r2 hc1) miX5_has q850 ⟨Nat.le_of_ble_eq_true rfl, Nat.le_of_ble_eq_true rfl⟩ ⟨rfl, rfl⟩ hP hKK hS hA0 rfl hl.1 rfl (Nat.le_of_ble_eq_true rfl) dX5_ones_13 ⟨Nat.zero_le _, Nat.zero_le _⟩ ?_
        refine lv_if_eq (tgt := 23) hx hb dX5_ones_16 (by decide) (fun h => ?_) (fun h => ?_)
        · have hf := (if_pos h).symm.trans hf
          refine lv_iconst (v := 0) hx hb dX5_ones_23 (by decide) ?_
          refine lv_iadd hx hb dX5_ones_24 ?_
          refine nm_i hf (fun x3 hf => ?_)
          refine lv_istore_n (lv' := [(2, .int x3), (0, .long g0_4), (3, .int v3_4)]) hx hb dX5_ones_25 rfl hl (by decide) rfl (fun ls hl => ?_)
          obtain ⟨x4, ex4, hf⟩ := nm_ex hf
          refine lv_iinc (v := x4) (lv' := [(3, .int x4), (2, .int x3), (0, .long g0_4)]) hx hb dX5_ones_26 hl (k := 2) rfl (Eq.trans rfl ex4) (by decide) rfl (fun ls hl => ?_)
          refine lv_goto (tgt := 4) hx hb dX5_ones_29 (by decide) ?_
          exact ih x3 x4 ls hf (lv_sub hl [2, 1, 0] rfl)
        · have hf := (if_neg h).symm.trans hf
          refine lv_iconst (v := 1) hx hb dX5_ones_19 (by decide) ?_
          refine lv_goto (tgt := 24) hx hb dX5_ones_20 (by decide) ?_
          refine lv_iadd hx hb dX5_ones_24 ?_
          refine nm_i hf (fun x5 hf => ?_)
          refine lv_istore_n (lv' := [(2, .int x5), (0, .long g0_4), (3, .int v3_4)]) hx hb dX5_ones_25 rfl hl (by decide) rfl (fun ls hl => ?_)
          obtain ⟨x6, ex6, hf⟩ := nm_ex hf
          refine lv_iinc (v := x6) (lv' := [(3, .int x6), (2, .int x5), (0, .long g0_4)]) hx hb dX5_ones_26 hl (k := 2) rfl (Eq.trans rfl ex6) (by decide) rfl (fun ls hl => ?_)
          refine lv_goto (tgt := 4) hx hb dX5_ones_29 (by decide) ?_
          exact ih x5 x6 ls hf (lv_sub hl [2, 1, 0] rfl)
  unfold fX5_ones at hf
  refine lv_iconst (v := 0) hx hb dX5_ones_0 (by decide) ?_
  refine lv_istore_n (lv' := [(2, .int (0 : Int32)), (0, .long u1)]) hx hb dX5_ones_1 rfl hl (by decide) rfl (fun ls hl => ?_)
  refine lv_iconst (v := 0) hx hb dX5_ones_2 (by decide) ?_
  refine lv_istore_n (lv' := [(3, .int (0 : Int32)), (2, .int (0 : Int32)), (0, .long u1)]) hx hb dX5_ones_3 rfl hl (by decide) rfl (fun ls hl => ?_)
  refine w_4 u1 _ ?_ _ (0 : Int32) (0 : Int32) ls hf (lv_sub hl [2, 1, 0] rfl)
  · intro y7 ls hf hl
    refine lv_iload_n hx hb dX5_ones_32 rfl (lv_at hl 0 rfl) ?_
    exact pretI hx hb hr hlk hf dX5_ones_33

abbrev rmX5_power : Room := { frames := 0, cells := 0, slots := 0, locals := 0 }
theorem miX5_power : miS yX5_power cX5_power 4 (some .int) 2 := ⟨q1024, q46, q1023, by decide +kernel⟩
set_option maxHeartbeats 4000000 in
set_option maxRecDepth 100000 in
theorem mtX5_power (l : Launch) (D : va_G) (cy : Nat → ClassId) (z : zT)  (u1 : Int32) (u2 : Int32) (r0 : Int32) (hf : fX5_power u1 u2 = some r0) : pmet l yX5_power cX5_power 4 (some .int) rmX5_power D cy z ([]) [.int u1, .int u2] (some (.int r0)) := by
  refine pmet_of (by decide +kernel) (Nat.le_of_ble_eq_true rfl) (fun p e s m below meth c hx hb hr hml hown hts hlk hP hKK ls hl => ?_)
  have hS : va_S noF s.heap s.heap [] := va_S.rf
  have hA0 : ∀ q, noF q → zA z q := fun _ h => h.elim
  have hown : s.vm.findClass "HillSightModel" = some m.cls := hown
  have hl : lv_has ls 4 [(0, .int u1), (1, .int u2)] := hl
  have w_4 : ∀ (g0_4 : Int32) (g1_4 : Int32) (k19 : Int32 → Option (Int32)) (hk19 : ∀ (v2_4 : Int32) (ls : Array Slot), k19 v2_4 = some r0 → lv_has ls 4 [(2, .int v2_4)] → W p l e rmX5_power s m ([.int u1, .int u2] : List Value).toArray below meth c s.heap [] 0 0 (MQ below (pQ (some (.int r0))) ([.int u1, .int u2] : List Value).toArray s 0 0 noF) (F0 m 19 ls [])) (n : Nat) (v2_4 : Int32) (v3_4 : Int32) (ls : Array Slot), fX5_power_4 g0_4 g1_4 k19 n v2_4 v3_4 = some r0 → lv_has ls 4 [(0, .int g0_4), (1, .int g1_4), (2, .int v2_4), (3, .int v3_4)] → W p l e rmX5_power s m ([.int u1, .int u2] : List Value).toArray below meth c s.heap [] 0 0 (MQ below (pQ (some (.int r0))) ([.int u1, .int u2] : List Value).toArray s 0 0 noF) (F0 m 4 ls []) := by
    intro g0_4 g1_4 k19 hk19 n
    induction n with
    | zero =>
      intro v2_4 v3_4 ls hf hl
      cases (show (none : Option (Int32)) = some r0 from hf)
    | succ n ih =>
      intro v2_4 v3_4 ls hf hl
      rw [fX5_power_4] at hf
      refine lv_iload_n hx hb dX5_power_4 rfl (lv_at hl 3 rfl) ?_
      refine lv_iload_n hx hb dX5_power_5 rfl (lv_at hl 1 rfl) ?_
      refine lv_icmp_ge (tgt := 19) hx hb dX5_power_6 (by decide) (fun h => ?_) (fun h => ?_)
      · have hf := (if_pos h).symm.trans hf
        exact hk19 v2_4 ls hf (lv_sub hl [2] rfl)
      · have hf := (if_neg h).symm.trans hf
        refine lv_iload_n hx hb dX5_power_9 rfl (lv_at hl 2 rfl) ?_
        refine lv_iload_n hx hb dX5_power_10 rfl (lv_at hl 0 rfl) ?_
        refine lv_imul hx hb dX5_power_11 ?_
        refine nm_i hf (fun x1 hf => ?_)
        refine lv_istore_n (lv' := [(2, .int x1), (0, .int g0_4), (1, .int g1_4), (3, .int v3_4)]) hx hb dX5_power_12 rfl hl (by decide) rfl (fun ls hl => ?_)
        obtain ⟨x2, ex2, hf⟩ := nm_ex hf
        refine lv_iinc (v := x2) (lv' := [(3, .int x2), (2, .int x1), (0, .int g0_4), (1, .int g1_4)]) hx hb dX5_power_13 hl (k := 3) rfl (Eq.trans rfl ex2) (by decide) rfl (fun ls hl => ?_)
        refine lv_goto (tgt := 4) hx hb dX5_power_16 (by decide) ?_
        exact ih x1 x2 ls hf (lv_sub hl [2, 3, 1, 0] rfl)
  unfold fX5_power at hf
  refine lv_iconst (v := 1) hx hb dX5_power_0 (by decide) ?_
  refine lv_istore_n (lv' := [(2, .int (1 : Int32)), (0, .int u1), (1, .int u2)]) hx hb dX5_power_1 rfl hl (by decide) rfl (fun ls hl => ?_)
  refine lv_iconst (v := 0) hx hb dX5_power_2 (by decide) ?_
  refine lv_istore_n (lv' := [(3, .int (0 : Int32)), (2, .int (1 : Int32)), (0, .int u1), (1, .int u2)]) hx hb dX5_power_3 rfl hl (by decide) rfl (fun ls hl => ?_)
  refine w_4 u1 u2 _ ?_ _ (1 : Int32) (0 : Int32) ls hf (lv_sub hl [2, 3, 1, 0] rfl)
  · intro y3 ls hf hl
    refine lv_iload_n hx hb dX5_power_19 rfl (lv_at hl 0 rfl) ?_
    exact pretI hx hb hr hlk hf dX5_power_20

abbrev rmX5_factorial : Room := { frames := 0, cells := 0, slots := 0, locals := 0 }
theorem miX5_factorial : miS yX5_factorial cX5_factorial 3 (some .int) 1 := ⟨q1012, q46, q1011, by decide +kernel⟩
set_option maxHeartbeats 4000000 in
set_option maxRecDepth 100000 in
theorem mtX5_factorial (l : Launch) (D : va_G) (cy : Nat → ClassId) (z : zT)  (u1 : Int32) (r0 : Int32) (hf : fX5_factorial u1 = some r0) : pmet l yX5_factorial cX5_factorial 3 (some .int) rmX5_factorial D cy z ([]) [.int u1] (some (.int r0)) := by
  refine pmet_of (by decide +kernel) (Nat.le_of_ble_eq_true rfl) (fun p e s m below meth c hx hb hr hml hown hts hlk hP hKK ls hl => ?_)
  have hS : va_S noF s.heap s.heap [] := va_S.rf
  have hA0 : ∀ q, noF q → zA z q := fun _ h => h.elim
  have hown : s.vm.findClass "HillSightModel" = some m.cls := hown
  have hl : lv_has ls 3 [(0, .int u1)] := hl
  have w_4 : ∀ (g0_4 : Int32) (k19 : Int32 → Option (Int32)) (hk19 : ∀ (v1_4 : Int32) (ls : Array Slot), k19 v1_4 = some r0 → lv_has ls 3 [(1, .int v1_4)] → W p l e rmX5_factorial s m ([.int u1] : List Value).toArray below meth c s.heap [] 0 0 (MQ below (pQ (some (.int r0))) ([.int u1] : List Value).toArray s 0 0 noF) (F0 m 19 ls [])) (n : Nat) (v1_4 : Int32) (v2_4 : Int32) (ls : Array Slot), fX5_factorial_4 g0_4 k19 n v1_4 v2_4 = some r0 → lv_has ls 3 [(0, .int g0_4), (1, .int v1_4), (2, .int v2_4)] → W p l e rmX5_factorial s m ([.int u1] : List Value).toArray below meth c s.heap [] 0 0 (MQ below (pQ (some (.int r0))) ([.int u1] : List Value).toArray s 0 0 noF) (F0 m 4 ls []) := by
    intro g0_4 k19 hk19 n
    induction n with
    | zero =>
      intro v1_4 v2_4 ls hf hl
      cases (show (none : Option (Int32)) = some r0 from hf)
    | succ n ih =>
      intro v1_4 v2_4 ls hf hl
      rw [fX5_factorial_4] at hf
      refine lv_iload_n hx hb dX5_factorial_4 rfl (lv_at hl 2 rfl) ?_
      refine lv_iload_n hx hb dX5_factorial_5 rfl (lv_at hl 0 rfl) ?_
      refine lv_icmp_gt (tgt := 19) hx hb dX5_factorial_6 (by decide) (fun h => ?_) (fun h => ?_)
      · have hf := (if_pos h).symm.trans hf
        exact hk19 v1_4 ls hf (lv_sub hl [1] rfl)
      · have hf := (if_neg h).symm.trans hf
        refine lv_iload_n hx hb dX5_factorial_9 rfl (lv_at hl 1 rfl) ?_
        refine lv_iload_n hx hb dX5_factorial_10 rfl (lv_at hl 2 rfl) ?_
        refine lv_imul hx hb dX5_factorial_11 ?_
        refine nm_i hf (fun x1 hf => ?_)
        refine lv_istore_n (lv' := [(1, .int x1), (0, .int g0_4), (2, .int v2_4)]) hx hb dX5_factorial_12 rfl hl (by decide) rfl (fun ls hl => ?_)
        obtain ⟨x2, ex2, hf⟩ := nm_ex hf
        refine lv_iinc (v := x2) (lv' := [(2, .int x2), (1, .int x1), (0, .int g0_4)]) hx hb dX5_factorial_13 hl (k := 2) rfl (Eq.trans rfl ex2) (by decide) rfl (fun ls hl => ?_)
        refine lv_goto (tgt := 4) hx hb dX5_factorial_16 (by decide) ?_
        exact ih x1 x2 ls hf (lv_sub hl [2, 1, 0] rfl)
  unfold fX5_factorial at hf
  refine lv_iconst (v := 1) hx hb dX5_factorial_0 (by decide) ?_
  refine lv_istore_n (lv' := [(1, .int (1 : Int32)), (0, .int u1)]) hx hb dX5_factorial_1 rfl hl (by decide) rfl (fun ls hl => ?_)
  refine lv_iconst (v := 2) hx hb dX5_factorial_2 (by decide) ?_
  refine lv_istore_n (lv' := [(2, .int (2 : Int32)), (1, .int (1 : Int32)), (0, .int u1)]) hx hb dX5_factorial_3 rfl hl (by decide) rfl (fun ls hl => ?_)
  refine w_4 u1 _ ?_ _ (1 : Int32) (2 : Int32) ls hf (lv_sub hl [2, 1, 0] rfl)
  · intro y3 ls hf hl
    refine lv_iload_n hx hb dX5_factorial_19 rfl (lv_at hl 0 rfl) ?_
    exact pretI hx hb hr hlk hf dX5_factorial_20

abbrev rmX5_fraction : Room := { frames := 0, cells := 0, slots := 0, locals := 0 }
theorem miX5_fraction : miS yX5_fraction cX5_fraction 6 (some .int) 3 := ⟨q981, q46, q980, by decide +kernel⟩
set_option maxHeartbeats 4000000 in
set_option maxRecDepth 100000 in
theorem mtX5_fraction (l : Launch) (D : va_G) (cy : Nat → ClassId) (z : zT)  (u1 : Int32) (u2 : Int32) (u3 : Int32) (r0 : Int32) (hf : fX5_fraction u1 u2 u3 = some r0) : pmet l yX5_fraction cX5_fraction 6 (some .int) rmX5_fraction D cy z ([]) [.int u1, .int u2, .int u3] (some (.int r0)) := by
  refine pmet_of (by decide +kernel) (Nat.le_of_ble_eq_true rfl) (fun p e s m below meth c hx hb hr hml hown hts hlk hP hKK ls hl => ?_)
  have hS : va_S noF s.heap s.heap [] := va_S.rf
  have hA0 : ∀ q, noF q → zA z q := fun _ h => h.elim
  have hown : s.vm.findClass "HillSightModel" = some m.cls := hown
  have hl : lv_has ls 6 [(0, .int u1), (1, .int u2), (2, .int u3)] := hl
  have w_14 : ∀ (g0_14 : Int32) (g1_14 : Int32) (g2_14 : Int32) (k35 : Int32 → Option (Int32)) (hk35 : ∀ (v3_14 : Int32) (ls : Array Slot), k35 v3_14 = some r0 → lv_has ls 6 [(0, .int g0_14), (1, .int g1_14), (2, .int g2_14), (3, .int v3_14)] → W p l e rmX5_fraction s m ([.int u1, .int u2, .int u3] : List Value).toArray below meth c s.heap [] 0 0 (MQ below (pQ (some (.int r0))) ([.int u1, .int u2, .int u3] : List Value).toArray s 0 0 noF) (F0 m 35 ls [])) (n : Nat) (v3_14 : Int32) (v4_14 : Int32) (ls : Array Slot), fX5_fraction_14 g0_14 g1_14 g2_14 k35 n v3_14 v4_14 = some r0 → lv_has ls 6 [(0, .int g0_14), (1, .int g1_14), (2, .int g2_14), (3, .int v3_14), (4, .int v4_14)] → W p l e rmX5_fraction s m ([.int u1, .int u2, .int u3] : List Value).toArray below meth c s.heap [] 0 0 (MQ below (pQ (some (.int r0))) ([.int u1, .int u2, .int u3] : List Value).toArray s 0 0 noF) (F0 m 14 ls []) := by
    intro g0_14 g1_14 g2_14 k35 hk35 n
    induction n with
    | zero =>
      intro v3_14 v4_14 ls hf hl
      cases (show (none : Option (Int32)) = some r0 from hf)
    | succ n ih =>
      intro v3_14 v4_14 ls hf hl
      rw [fX5_fraction_14] at hf
      refine lv_iload hx hb dX5_fraction_14 (lv_at hl 4 rfl) ?_
      refine lv_if_eq (tgt := 35) hx hb dX5_fraction_16 (by decide) (fun h => ?_) (fun h => ?_)
      · have hf := (if_pos h).symm.trans hf
        exact hk35 v3_14 ls hf (lv_sub hl [0, 1, 2, 3] rfl)
      · have hf := (if_neg h).symm.trans hf
        refine lv_iload_n hx hb dX5_fraction_19 rfl (lv_at hl 3 rfl) ?_
        refine lv_iload hx hb dX5_fraction_20 (lv_at hl 4 rfl) ?_
        obtain ⟨hg1, hf⟩ := gd_some hf
        refine lv_irem hx hb dX5_fraction_22 (nz_ne hg1) ?_
        refine nm_i hf (fun x2 hf => ?_)
        refine lv_istore (lv' := [(5, .int x2), (0, .int g0_14), (1, .int g1_14), (2, .int g2_14), (3, .int v3_14), (4, .int v4_14)]) hx hb dX5_fraction_23 hl (by decide) rfl (fun ls hl => ?_)
        refine lv_iload hx hb dX5_fraction_25 (lv_at hl 5 rfl) ?_
        refine lv_istore_n (lv' := [(3, .int v4_14), (5, .int x2), (0, .int g0_14), (1, .int g1_14), (2, .int g2_14), (4, .int v4_14)]) hx hb dX5_fraction_27 rfl hl (by decide) rfl (fun ls hl => ?_)
        refine lv_iload hx hb dX5_fraction_28 (lv_at hl 1 rfl) ?_
        refine lv_istore (lv' := [(4, .int x2), (3, .int v4_14), (5, .int x2), (0, .int g0_14), (1, .int g1_14), (2, .int g2_14)]) hx hb dX5_fraction_30 hl (by decide) rfl (fun ls hl => ?_)
        refine lv_goto (tgt := 14) hx hb dX5_fraction_32 (by decide) ?_
        exact ih v4_14 x2 ls hf (lv_sub hl [3, 4, 5, 1, 0] rfl)
  unfold fX5_fraction at hf
  refine lv_iload_n hx hb dX5_fraction_0 rfl (lv_at hl 0 rfl) ?_
  refine lv_if_ge (tgt := 9) hx hb dX5_fraction_1 (by decide) (fun h => ?_) (fun h => ?_)
  · have hf := (if_pos h).symm.trans hf
    refine lv_iload_n hx hb dX5_fraction_9 rfl (lv_at hl 0 rfl) ?_
    refine lv_istore_n (lv' := [(3, .int u1), (0, .int u1), (1, .int u2), (2, .int u3)]) hx hb dX5_fraction_10 rfl hl (by decide) rfl (fun ls hl => ?_)
    refine lv_iload_n hx hb dX5_fraction_11 rfl (lv_at hl 2 rfl) ?_
    refine lv_istore (lv' := [(4, .int u2), (3, .int u1), (0, .int u1), (1, .int u2), (2, .int u3)]) hx hb dX5_fraction_12 hl (by decide) rfl (fun ls hl => ?_)
    refine w_14 u1 u2 u3 _ ?_ _ u1 u2 ls hf (lv_sub hl [2, 3, 4, 1, 0] rfl)
    · intro y3 ls hf hl
      refine lv_iload_n hx hb dX5_fraction_35 rfl (lv_at hl 2 rfl) ?_
      refine lv_if_eq (tgt := 45) hx hb dX5_fraction_36 (by decide) (fun h => ?_) (fun h => ?_)
      · have hf := (if_pos h).symm.trans hf
        refine lv_iload_n hx hb dX5_fraction_45 rfl (lv_at hl 1 rfl) ?_
        refine lv_iload_n hx hb dX5_fraction_46 rfl (lv_at hl 3 rfl) ?_
        obtain ⟨hg4, hf⟩ := gd_some hf
        refine lv_idiv hx hb dX5_fraction_47 (nz_ne hg4) ?_
        exact pretI hx hb hr hlk hf dX5_fraction_48
      · have hf := (if_neg h).symm.trans hf
        refine lv_iload_n hx hb dX5_fraction_39 rfl (lv_at hl 0 rfl) ?_
        refine lv_iload_n hx hb dX5_fraction_40 rfl (lv_at hl 3 rfl) ?_
        obtain ⟨hg5, hf⟩ := gd_some hf
        refine lv_idiv hx hb dX5_fraction_41 (nz_ne hg5) ?_
        refine lv_goto (tgt := 48) hx hb dX5_fraction_42 (by decide) ?_
        exact pretI hx hb hr hlk hf dX5_fraction_48
  · have hf := (if_neg h).symm.trans hf
    refine lv_iload_n hx hb dX5_fraction_4 rfl (lv_at hl 0 rfl) ?_
    refine lv_ineg hx hb dX5_fraction_5 ?_
    refine lv_goto (tgt := 10) hx hb dX5_fraction_6 (by decide) ?_
    refine nm_i hf (fun x6 hf => ?_)
    refine lv_istore_n (lv' := [(3, .int x6), (0, .int u1), (1, .int u2), (2, .int u3)]) hx hb dX5_fraction_10 rfl hl (by decide) rfl (fun ls hl => ?_)
    refine lv_iload_n hx hb dX5_fraction_11 rfl (lv_at hl 2 rfl) ?_
    refine lv_istore (lv' := [(4, .int u2), (3, .int x6), (0, .int u1), (1, .int u2), (2, .int u3)]) hx hb dX5_fraction_12 hl (by decide) rfl (fun ls hl => ?_)
    refine w_14 u1 u2 u3 _ ?_ _ x6 u2 ls hf (lv_sub hl [2, 3, 4, 1, 0] rfl)
    · intro y7 ls hf hl
      refine lv_iload_n hx hb dX5_fraction_35 rfl (lv_at hl 2 rfl) ?_
      refine lv_if_eq (tgt := 45) hx hb dX5_fraction_36 (by decide) (fun h => ?_) (fun h => ?_)
      · have hf := (if_pos h).symm.trans hf
        refine lv_iload_n hx hb dX5_fraction_45 rfl (lv_at hl 1 rfl) ?_
        refine lv_iload_n hx hb dX5_fraction_46 rfl (lv_at hl 3 rfl) ?_
        obtain ⟨hg8, hf⟩ := gd_some hf
        refine lv_idiv hx hb dX5_fraction_47 (nz_ne hg8) ?_
        exact pretI hx hb hr hlk hf dX5_fraction_48
      · have hf := (if_neg h).symm.trans hf
        refine lv_iload_n hx hb dX5_fraction_39 rfl (lv_at hl 0 rfl) ?_
        refine lv_iload_n hx hb dX5_fraction_40 rfl (lv_at hl 3 rfl) ?_
        obtain ⟨hg9, hf⟩ := gd_some hf
        refine lv_idiv hx hb dX5_fraction_41 (nz_ne hg9) ?_
        refine lv_goto (tgt := 48) hx hb dX5_fraction_42 (by decide) ?_
        exact pretI hx hb hr hlk hf dX5_fraction_48

abbrev rmX5_settingOf : Room := { frames := 0, cells := 0, slots := 0, locals := 0 }
theorem miX5_settingOf : miS yX5_settingOf cX5_settingOf 1 (some .int) 1 := ⟨q780, q46, q779, by decide +kernel⟩
set_option maxHeartbeats 4000000 in
set_option maxRecDepth 100000 in
theorem mtX5_settingOf (l : Launch) (D : va_G) (cy : Nat → ClassId) (z : zT)  (u1 : Int32) (r0 : Int32) (hf : fX5_settingOf u1 = some r0) : pmet l yX5_settingOf cX5_settingOf 1 (some .int) rmX5_settingOf D cy z ([]) [.int u1] (some (.int r0)) := by
  refine pmet_of (by decide +kernel) (Nat.le_of_ble_eq_true rfl) (fun p e s m below meth c hx hb hr hml hown hts hlk hP hKK ls hl => ?_)
  have hS : va_S noF s.heap s.heap [] := va_S.rf
  have hA0 : ∀ q, noF q → zA z q := fun _ h => h.elim
  have hown : s.vm.findClass "HillSightModel" = some m.cls := hown
  have hl : lv_has ls 1 [(0, .int u1)] := hl
  unfold fX5_settingOf at hf
  refine lv_iload_n hx hb dX5_settingOf_0 rfl (lv_at hl 0 rfl) ?_
  refine lv_bipush (v := 101) hx hb dX5_settingOf_1 (by decide) ?_
  refine lv_icmp_ne (tgt := 10) hx hb dX5_settingOf_3 (by decide) (fun h => ?_) (fun h => ?_)
  · have hf := (if_neg h).symm.trans hf
    refine lv_iload_n hx hb dX5_settingOf_10 rfl (lv_at hl 0 rfl) ?_
    refine lv_bipush (v := 109) hx hb dX5_settingOf_11 (by decide) ?_
    refine lv_icmp_ne (tgt := 20) hx hb dX5_settingOf_13 (by decide) (fun h => ?_) (fun h => ?_)
    · have hf := (if_neg h).symm.trans hf
      refine lv_iload_n hx hb dX5_settingOf_20 rfl (lv_at hl 0 rfl) ?_
      refine lv_bipush (v := 98) hx hb dX5_settingOf_21 (by decide) ?_
      refine lv_icmp_ne (tgt := 30) hx hb dX5_settingOf_23 (by decide) (fun h => ?_) (fun h => ?_)
      · have hf := (if_neg h).symm.trans hf
        refine lv_iload_n hx hb dX5_settingOf_30 rfl (lv_at hl 0 rfl) ?_
        refine lv_bipush (v := 115) hx hb dX5_settingOf_31 (by decide) ?_
        refine lv_icmp_ne (tgt := 40) hx hb dX5_settingOf_33 (by decide) (fun h => ?_) (fun h => ?_)
        · have hf := (if_neg h).symm.trans hf
          refine lv_bipush (v := -9) hx hb dX5_settingOf_40 (by decide) ?_
          exact pretI hx hb hr hlk hf dX5_settingOf_42
        · have hf := (if_pos h).symm.trans hf
          refine lv_iconst (v := 3) hx hb dX5_settingOf_36 (by decide) ?_
          refine lv_goto (tgt := 42) hx hb dX5_settingOf_37 (by decide) ?_
          exact pretI hx hb hr hlk hf dX5_settingOf_42
      · have hf := (if_pos h).symm.trans hf
        refine lv_iconst (v := 2) hx hb dX5_settingOf_26 (by decide) ?_
        refine lv_goto (tgt := 42) hx hb dX5_settingOf_27 (by decide) ?_
        exact pretI hx hb hr hlk hf dX5_settingOf_42
    · have hf := (if_pos h).symm.trans hf
      refine lv_iconst (v := 1) hx hb dX5_settingOf_16 (by decide) ?_
      refine lv_goto (tgt := 42) hx hb dX5_settingOf_17 (by decide) ?_
      exact pretI hx hb hr hlk hf dX5_settingOf_42
  · have hf := (if_pos h).symm.trans hf
    refine lv_iconst (v := 0) hx hb dX5_settingOf_6 (by decide) ?_
    refine lv_goto (tgt := 42) hx hb dX5_settingOf_7 (by decide) ?_
    exact pretI hx hb hr hlk hf dX5_settingOf_42

abbrev rmX5_size : Room := { frames := 0, cells := 0, slots := 0, locals := 0 }
theorem miX5_size : miS yX5_size cX5_size 1 (some .int) 1 := ⟨q826, q46, q825, by decide +kernel⟩
set_option maxHeartbeats 4000000 in
set_option maxRecDepth 100000 in
theorem mtX5_size (l : Launch) (D : va_G) (cy : Nat → ClassId) (z : zT)  (u1 : Int32) (r0 : Int32) (hf : fX5_size u1 = some r0) : pmet l yX5_size cX5_size 1 (some .int) rmX5_size D cy z ([]) [.int u1] (some (.int r0)) := by
  refine pmet_of (by decide +kernel) (Nat.le_of_ble_eq_true rfl) (fun p e s m below meth c hx hb hr hml hown hts hlk hP hKK ls hl => ?_)
  have hS : va_S noF s.heap s.heap [] := va_S.rf
  have hA0 : ∀ q, noF q → zA z q := fun _ h => h.elim
  have hown : s.vm.findClass "HillSightModel" = some m.cls := hown
  have hl : lv_has ls 1 [(0, .int u1)] := hl
  unfold fX5_size at hf
  refine lv_iload_n hx hb dX5_size_0 rfl (lv_at hl 0 rfl) ?_
  refine lv_if_ge (tgt := 9) hx hb dX5_size_1 (by decide) (fun h => ?_) (fun h => ?_)
  · have hf := (if_pos h).symm.trans hf
    refine lv_iload_n hx hb dX5_size_9 rfl (lv_at hl 0 rfl) ?_
    exact pretI hx hb hr hlk hf dX5_size_10
  · have hf := (if_neg h).symm.trans hf
    refine lv_iload_n hx hb dX5_size_4 rfl (lv_at hl 0 rfl) ?_
    refine lv_ineg hx hb dX5_size_5 ?_
    refine lv_goto (tgt := 10) hx hb dX5_size_6 (by decide) ?_
    exact pretI hx hb hr hlk hf dX5_size_10

abbrev rmX5_nearest : Room := { frames := 0, cells := 0, slots := 0, locals := 0 }
theorem miX5_nearest : miS yX5_nearest cX5_nearest 5 (some .int) 3 := ⟨q846, q46, q845, by decide +kernel⟩
set_option maxHeartbeats 4000000 in
set_option maxRecDepth 100000 in
theorem mtX5_nearest (l : Launch) (D : va_G) (cy : Nat → ClassId) (z : zT)  (u1 : Int32) (u2 : Int32) (u3 : Int32) (r0 : Int32) (hf : fX5_nearest u1 u2 u3 = some r0) : pmet l yX5_nearest cX5_nearest 5 (some .int) rmX5_nearest D cy z ([]) [.int u1, .int u2, .int u3] (some (.int r0)) := by
  refine pmet_of (by decide +kernel) (Nat.le_of_ble_eq_true rfl) (fun p e s m below meth c hx hb hr hml hown hts hlk hP hKK ls hl => ?_)
  have hS : va_S noF s.heap s.heap [] := va_S.rf
  have hA0 : ∀ q, noF q → zA z q := fun _ h => h.elim
  have hown : s.vm.findClass "HillSightModel" = some m.cls := hown
  have hl : lv_has ls 5 [(0, .int u1), (1, .int u2), (2, .int u3)] := hl
  unfold fX5_nearest at hf
  refine lv_iload_n hx hb dX5_nearest_0 rfl (lv_at hl 0 rfl) ?_
  refine lv_if_lt (tgt := 10) hx hb dX5_nearest_1 (by decide) (fun h => ?_) (fun h => ?_)
  · have hf := (if_pos h).symm.trans hf
    refine lv_iload_n hx hb dX5_nearest_10 rfl (lv_at hl 0 rfl) ?_
    refine lv_ineg hx hb dX5_nearest_11 ?_
    refine lv_iload_n hx hb dX5_nearest_12 rfl (lv_at hl 1 rfl) ?_
    refine lv_iadd hx hb dX5_nearest_13 ?_
    refine lv_iconst (v := 1) hx hb dX5_nearest_14 (by decide) ?_
    refine lv_isub hx hb dX5_nearest_15 ?_
    refine lv_iload_n hx hb dX5_nearest_16 rfl (lv_at hl 1 rfl) ?_
    obtain ⟨hg1, hf⟩ := gd_some hf
    refine lv_idiv hx hb dX5_nearest_17 (nz_ne hg1) ?_
    refine lv_ineg hx hb dX5_nearest_18 ?_
    refine nm_i hf (fun x2 hf => ?_)
    refine lv_istore_n (lv' := [(3, .int x2), (0, .int u1), (1, .int u2), (2, .int u3)]) hx hb dX5_nearest_19 rfl hl (by decide) rfl (fun ls hl => ?_)
    refine lv_iconst (v := 2) hx hb dX5_nearest_20 (by decide) ?_
    refine lv_iload_n hx hb dX5_nearest_21 rfl (lv_at hl 1 rfl) ?_
    refine lv_iload_n hx hb dX5_nearest_22 rfl (lv_at hl 0 rfl) ?_
    refine lv_iload_n hx hb dX5_nearest_23 rfl (lv_at hl 2 rfl) ?_
    refine lv_imul hx hb dX5_nearest_24 ?_
    refine lv_isub hx hb dX5_nearest_25 ?_
    refine lv_imul hx hb dX5_nearest_26 ?_
    refine nm_i hf (fun x3 hf => ?_)
    refine lv_istore (lv' := [(4, .int x3), (3, .int x2), (0, .int u1), (1, .int u2), (2, .int u3)]) hx hb dX5_nearest_27 hl (by decide) rfl (fun ls hl => ?_)
    refine lv_iload hx hb dX5_nearest_29 (lv_at hl 0 rfl) ?_
    refine lv_iload_n hx hb dX5_nearest_31 rfl (lv_at hl 3 rfl) ?_
    refine lv_icmp_gt (tgt := 45) hx hb dX5_nearest_32 (by decide) (fun h => ?_) (fun h => ?_)
    · have hf := (if_pos h).symm.trans hf
      refine lv_iload_n hx hb dX5_nearest_45 rfl (lv_at hl 1 rfl) ?_
      refine lv_iconst (v := 1) hx hb dX5_nearest_46 (by decide) ?_
      refine lv_iadd hx hb dX5_nearest_47 ?_
      refine lv_goto (tgt := 52) hx hb dX5_nearest_48 (by decide) ?_
      exact pretI hx hb hr hlk hf dX5_nearest_52
    · have hf := (if_neg h).symm.trans hf
      refine lv_iload hx hb dX5_nearest_35 (lv_at hl 0 rfl) ?_
      refine lv_iload_n hx hb dX5_nearest_37 rfl (lv_at hl 3 rfl) ?_
      refine lv_icmp_ne (tgt := 51) hx hb dX5_nearest_38 (by decide) (fun h => ?_) (fun h => ?_)
      · have hf := (if_neg h).symm.trans hf
        refine lv_iload_n hx hb dX5_nearest_51 rfl (lv_at hl 1 rfl) ?_
        exact pretI hx hb hr hlk hf dX5_nearest_52
      · have hf := (if_pos h).symm.trans hf
        refine lv_iload_n hx hb dX5_nearest_41 rfl (lv_at hl 4 rfl) ?_
        refine lv_if_eq (tgt := 51) hx hb dX5_nearest_42 (by decide) (fun h => ?_) (fun h => ?_)
        · have hf := (if_pos h).symm.trans hf
          refine lv_iload_n hx hb dX5_nearest_51 rfl (lv_at hl 1 rfl) ?_
          exact pretI hx hb hr hlk hf dX5_nearest_52
        · have hf := (if_neg h).symm.trans hf
          refine lv_iload_n hx hb dX5_nearest_45 rfl (lv_at hl 1 rfl) ?_
          refine lv_iconst (v := 1) hx hb dX5_nearest_46 (by decide) ?_
          refine lv_iadd hx hb dX5_nearest_47 ?_
          refine lv_goto (tgt := 52) hx hb dX5_nearest_48 (by decide) ?_
          exact pretI hx hb hr hlk hf dX5_nearest_52
  · have hf := (if_neg h).symm.trans hf
    refine lv_iload_n hx hb dX5_nearest_4 rfl (lv_at hl 0 rfl) ?_
    refine lv_iload_n hx hb dX5_nearest_5 rfl (lv_at hl 1 rfl) ?_
    obtain ⟨hg4, hf⟩ := gd_some hf
    refine lv_idiv hx hb dX5_nearest_6 (nz_ne hg4) ?_
    refine lv_goto (tgt := 19) hx hb dX5_nearest_7 (by decide) ?_
    refine nm_i hf (fun x5 hf => ?_)
    refine lv_istore_n (lv' := [(3, .int x5), (0, .int u1), (1, .int u2), (2, .int u3)]) hx hb dX5_nearest_19 rfl hl (by decide) rfl (fun ls hl => ?_)
    refine lv_iconst (v := 2) hx hb dX5_nearest_20 (by decide) ?_
    refine lv_iload_n hx hb dX5_nearest_21 rfl (lv_at hl 1 rfl) ?_
    refine lv_iload_n hx hb dX5_nearest_22 rfl (lv_at hl 0 rfl) ?_
    refine lv_iload_n hx hb dX5_nearest_23 rfl (lv_at hl 2 rfl) ?_
    refine lv_imul hx hb dX5_nearest_24 ?_
    refine lv_isub hx hb dX5_nearest_25 ?_
    refine lv_imul hx hb dX5_nearest_26 ?_
    refine nm_i hf (fun x6 hf => ?_)
    refine lv_istore (lv' := [(4, .int x6), (3, .int x5), (0, .int u1), (1, .int u2), (2, .int u3)]) hx hb dX5_nearest_27 hl (by decide) rfl (fun ls hl => ?_)
    refine lv_iload hx hb dX5_nearest_29 (lv_at hl 0 rfl) ?_
    refine lv_iload_n hx hb dX5_nearest_31 rfl (lv_at hl 3 rfl) ?_
    refine lv_icmp_gt (tgt := 45) hx hb dX5_nearest_32 (by decide) (fun h => ?_) (fun h => ?_)
    · have hf := (if_pos h).symm.trans hf
      refine lv_iload_n hx hb dX5_nearest_45 rfl (lv_at hl 1 rfl) ?_
      refine lv_iconst (v := 1) hx hb dX5_nearest_46 (by decide) ?_
      refine lv_iadd hx hb dX5_nearest_47 ?_
      refine lv_goto (tgt := 52) hx hb dX5_nearest_48 (by decide) ?_
      exact pretI hx hb hr hlk hf dX5_nearest_52
    · have hf := (if_neg h).symm.trans hf
      refine lv_iload hx hb dX5_nearest_35 (lv_at hl 0 rfl) ?_
      refine lv_iload_n hx hb dX5_nearest_37 rfl (lv_at hl 3 rfl) ?_
      refine lv_icmp_ne (tgt := 51) hx hb dX5_nearest_38 (by decide) (fun h => ?_) (fun h => ?_)
      · have hf := (if_neg h).symm.trans hf
        refine lv_iload_n hx hb dX5_nearest_51 rfl (lv_at hl 1 rfl) ?_
        exact pretI hx hb hr hlk hf dX5_nearest_52
      · have hf := (if_pos h).symm.trans hf
        refine lv_iload_n hx hb dX5_nearest_41 rfl (lv_at hl 4 rfl) ?_
        refine lv_if_eq (tgt := 51) hx hb dX5_nearest_42 (by decide) (fun h => ?_) (fun h => ?_)
        · have hf := (if_pos h).symm.trans hf
          refine lv_iload_n hx hb dX5_nearest_51 rfl (lv_at hl 1 rfl) ?_
          exact pretI hx hb hr hlk hf dX5_nearest_52
        · have hf := (if_neg h).symm.trans hf
          refine lv_iload_n hx hb dX5_nearest_45 rfl (lv_at hl 1 rfl) ?_
          refine lv_iconst (v := 1) hx hb dX5_nearest_46 (by decide) ?_
          refine lv_iadd hx hb dX5_nearest_47 ?_
          refine lv_goto (tgt := 52) hx hb dX5_nearest_48 (by decide) ?_
          exact pretI hx hb hr hlk hf dX5_nearest_52

abbrev rmX5_maySet : Room := { frames := 1, cells := 0, slots := 0, locals := 25 }
theorem miX5_maySet : miS yX5_maySet cX5_maySet 2 (some .boolean) 2 := ⟨q923, q46, q922, by decide +kernel⟩
set_option maxHeartbeats 4000000 in
set_option maxRecDepth 100000 in
theorem mtX5_maySet (l : Launch) (D : va_G) (cy : Nat → ClassId) (z : zT)  (u1 : Int32) (u2 : Int32) (r0 : Int32) (hf : fX5_maySet u1 u2 = some r0) : pmet l yX5_maySet cX5_maySet 2 (some .boolean) rmX5_maySet D cy z ([]) [.int u1, .int u2] (some (.int r0)) := by
  refine pmet_of (by decide +kernel) (Nat.le_of_ble_eq_true rfl) (fun p e s m below meth c hx hb hr hml hown hts hlk hP hKK ls hl => ?_)
  have hS : va_S noF s.heap s.heap [] := va_S.rf
  have hA0 : ∀ q, noF q → zA z q := fun _ h => h.elim
  have hown : s.vm.findClass "HillSightModel" = some m.cls := hown
  have hl : lv_has ls 2 [(0, .int u1), (1, .int u2)] := hl
  unfold fX5_maySet at hf
  refine lv_iload_n hx hb dX5_maySet_0 rfl (lv_at hl 0 rfl) ?_
  refine lv_i2l hx hb dX5_maySet_1 rfl ?_
  refine lv_lconst (v := 0) hx hb dX5_maySet_2 (by decide) ?_
  refine lv_ldc2 hx hb hown (hts _ q924) dX5_maySet_3 ?_
  obtain ⟨r2, hc1, hf⟩ := bd_some hf
  refine pCallSI ⟨hx, hb, hml, hown, hts⟩ (mtX5_in l D cy z u1.toInt64 (0 : Int64) (3 : Int64) r2 hc1) miX5_in q751 ⟨Nat.le_of_ble_eq_true rfl, Nat.le_of_ble_eq_true rfl⟩ ⟨rfl, rfl⟩ hP hKK hS hA0 rfl hl.1 rfl (Nat.le_of_ble_eq_true rfl) dX5_maySet_6 ⟨Nat.zero_le _, Nat.zero_le _⟩ ?_
  refine lv_if_eq (tgt := 37) hx hb dX5_maySet_9 (by decide) (fun h => ?_) (fun h => ?_)
  · have hf := (if_pos h).symm.trans hf
    refine lv_iconst (v := 0) hx hb dX5_maySet_37 (by decide) ?_
    exact pretZ hx hb hr hlk (by decide) hf dX5_maySet_38
  · have hf := (if_neg h).symm.trans hf
    refine lv_iload_n hx hb dX5_maySet_12 rfl (lv_at hl 1 rfl) ?_
    refine lv_i2l hx hb dX5_maySet_13 rfl ?_
    refine lv_iload_n hx hb dX5_maySet_14 rfl (lv_at hl 0 rfl) ?_
    refine lv_iconst (v := 3) hx hb dX5_maySet_15 (by decide) ?_
    refine lv_icmp_ne (tgt := 23) hx hb dX5_maySet_16 (by decide) (fun h => ?_) (fun h => ?_)
    · have hf := (if_neg h).symm.trans hf
      refine lv_lconst (v := 0) hx hb dX5_maySet_23 (by decide) ?_
      refine lv_ldc2 hx hb hown (hts _ q898) dX5_maySet_24 ?_
      obtain ⟨r4, hc3, hf⟩ := bd_some hf
      refine pCallSI ⟨hx, hb, hml, hown, hts⟩ (mtX5_in l D cy z u2.toInt64 (0 : Int64) (9 : Int64) r4 hc3) miX5_in q751 ⟨Nat.le_of_ble_eq_true rfl, Nat.le_of_ble_eq_true rfl⟩ ⟨rfl, rfl⟩ hP hKK hS hA0 rfl hl.1 rfl (Nat.le_of_ble_eq_true rfl) dX5_maySet_27 ⟨Nat.zero_le _, Nat.zero_le _⟩ ?_
      refine lv_if_eq (tgt := 37) hx hb dX5_maySet_30 (by decide) (fun h => ?_) (fun h => ?_)
      · have hf := (if_pos h).symm.trans hf
        refine lv_iconst (v := 0) hx hb dX5_maySet_37 (by decide) ?_
        exact pretZ hx hb hr hlk (by decide) hf dX5_maySet_38
      · have hf := (if_neg h).symm.trans hf
        refine lv_iconst (v := 1) hx hb dX5_maySet_33 (by decide) ?_
        refine lv_goto (tgt := 38) hx hb dX5_maySet_34 (by decide) ?_
        exact pretZ hx hb hr hlk (by decide) hf dX5_maySet_38
    · have hf := (if_pos h).symm.trans hf
      refine lv_lconst (v := 1) hx hb dX5_maySet_19 (by decide) ?_
      refine lv_goto (tgt := 24) hx hb dX5_maySet_20 (by decide) ?_
      refine lv_ldc2 hx hb hown (hts _ q898) dX5_maySet_24 ?_
      obtain ⟨r6, hc5, hf⟩ := bd_some hf
      refine pCallSI ⟨hx, hb, hml, hown, hts⟩ (mtX5_in l D cy z u2.toInt64 (1 : Int64) (9 : Int64) r6 hc5) miX5_in q751 ⟨Nat.le_of_ble_eq_true rfl, Nat.le_of_ble_eq_true rfl⟩ ⟨rfl, rfl⟩ hP hKK hS hA0 rfl hl.1 rfl (Nat.le_of_ble_eq_true rfl) dX5_maySet_27 ⟨Nat.zero_le _, Nat.zero_le _⟩ ?_
      refine lv_if_eq (tgt := 37) hx hb dX5_maySet_30 (by decide) (fun h => ?_) (fun h => ?_)
      · have hf := (if_pos h).symm.trans hf
        refine lv_iconst (v := 0) hx hb dX5_maySet_37 (by decide) ?_
        exact pretZ hx hb hr hlk (by decide) hf dX5_maySet_38
      · have hf := (if_neg h).symm.trans hf
        refine lv_iconst (v := 1) hx hb dX5_maySet_33 (by decide) ?_
        refine lv_goto (tgt := 38) hx hb dX5_maySet_34 (by decide) ?_
        exact pretZ hx hb hr hlk (by decide) hf dX5_maySet_38

abbrev rmX5_hundredThousands : Room := { frames := 0, cells := 0, slots := 0, locals := 0 }
theorem miX5_hundredThousands : miS yX5_hundredThousands cX5_hundredThousands 4 (some .long) 1 := ⟨q988, q46, q987, by decide +kernel⟩
set_option maxHeartbeats 4000000 in
set_option maxRecDepth 100000 in
theorem mtX5_hundredThousands (l : Launch) (D : va_G) (cy : Nat → ClassId) (z : zT)  (u1 : Int32) (r0 : Int64) (hf : fX5_hundredThousands u1 = some r0) : pmet l yX5_hundredThousands cX5_hundredThousands 4 (some .long) rmX5_hundredThousands D cy z ([]) [.int u1] (some (.long r0)) := by
  refine pmet_of (by decide +kernel) (Nat.le_of_ble_eq_true rfl) (fun p e s m below meth c hx hb hr hml hown hts hlk hP hKK ls hl => ?_)
  have hS : va_S noF s.heap s.heap [] := va_S.rf
  have hA0 : ∀ q, noF q → zA z q := fun _ h => h.elim
  have hown : s.vm.findClass "HillSightModel" = some m.cls := hown
  have hl : lv_has ls 4 [(0, .int u1)] := hl
  have w_4 : ∀ (g0_4 : Int32) (k21 : Int64 → Option (Int64)) (hk21 : ∀ (v1_4 : Int64) (ls : Array Slot), k21 v1_4 = some r0 → lv_has ls 4 [(1, .long v1_4)] → W p l e rmX5_hundredThousands s m ([.int u1] : List Value).toArray below meth c s.heap [] 0 0 (MQ below (pQ (some (.long r0))) ([.int u1] : List Value).toArray s 0 0 noF) (F0 m 21 ls [])) (n : Nat) (v1_4 : Int64) (v3_4 : Int32) (ls : Array Slot), fX5_hundredThousands_4 g0_4 k21 n v1_4 v3_4 = some r0 → lv_has ls 4 [(0, .int g0_4), (1, .long v1_4), (3, .int v3_4)] → W p l e rmX5_hundredThousands s m ([.int u1] : List Value).toArray below meth c s.heap [] 0 0 (MQ below (pQ (some (.long r0))) ([.int u1] : List Value).toArray s 0 0 noF) (F0 m 4 ls []) := by
    intro g0_4 k21 hk21 n
    induction n with
    | zero =>
      intro v1_4 v3_4 ls hf hl
      cases (show (none : Option (Int64)) = some r0 from hf)
    | succ n ih =>
      intro v1_4 v3_4 ls hf hl
      rw [fX5_hundredThousands_4] at hf
      refine lv_iload_n hx hb dX5_hundredThousands_4 rfl (lv_at hl 2 rfl) ?_
      refine lv_iload_n hx hb dX5_hundredThousands_5 rfl (lv_at hl 0 rfl) ?_
      refine lv_icmp_ge (tgt := 21) hx hb dX5_hundredThousands_6 (by decide) (fun h => ?_) (fun h => ?_)
      · have hf := (if_pos h).symm.trans hf
        exact hk21 v1_4 ls hf (lv_sub hl [1] rfl)
      · have hf := (if_neg h).symm.trans hf
        refine lv_lload_n hx hb dX5_hundredThousands_9 rfl (lv_at hl 1 rfl) ?_
        refine lv_ldc2 hx hb hown (hts _ q989) dX5_hundredThousands_10 ?_
        refine lv_lmul hx hb dX5_hundredThousands_13 ?_
        refine nm_l hf (fun x1 hf => ?_)
        refine lv_lstore_n (lv' := [(1, .long x1), (0, .int g0_4), (3, .int v3_4)]) hx hb dX5_hundredThousands_14 rfl hl (by decide) rfl (fun ls hl => ?_)
        obtain ⟨x2, ex2, hf⟩ := nm_ex hf
        refine lv_iinc (v := x2) (lv' := [(3, .int x2), (1, .long x1), (0, .int g0_4)]) hx hb dX5_hundredThousands_15 hl (k := 2) rfl (Eq.trans rfl ex2) (by decide) rfl (fun ls hl => ?_)
        refine lv_goto (tgt := 4) hx hb dX5_hundredThousands_18 (by decide) ?_
        exact ih x1 x2 ls hf (lv_sub hl [2, 1, 0] rfl)
  unfold fX5_hundredThousands at hf
  refine lv_lconst (v := 1) hx hb dX5_hundredThousands_0 (by decide) ?_
  refine lv_lstore_n (lv' := [(1, .long (1 : Int64)), (0, .int u1)]) hx hb dX5_hundredThousands_1 rfl hl (by decide) rfl (fun ls hl => ?_)
  refine lv_iconst (v := 0) hx hb dX5_hundredThousands_2 (by decide) ?_
  refine lv_istore_n (lv' := [(3, .int (0 : Int32)), (1, .long (1 : Int64)), (0, .int u1)]) hx hb dX5_hundredThousands_3 rfl hl (by decide) rfl (fun ls hl => ?_)
  refine w_4 u1 _ ?_ _ (1 : Int64) (0 : Int32) ls hf (lv_sub hl [2, 1, 0] rfl)
  · intro y3 ls hf hl
    refine lv_lload_n hx hb dX5_hundredThousands_21 rfl (lv_at hl 0 rfl) ?_
    exact pretL hx hb hr hlk hf dX5_hundredThousands_22

abbrev rmX5_clear : Room := { frames := 0, cells := 0, slots := 0, locals := 0 }
theorem miX5_clear : miS yX5_clear cX5_clear 2 none 1 := ⟨q672, q46, q671, by decide +kernel⟩
set_option maxHeartbeats 4000000 in
set_option maxRecDepth 100000 in
theorem mtX5_clear (l : Launch) (D : va_G) (cy : Nat → ClassId) (z : zT) (k0 : Nat) (w : tA) (w0 : tA) (hf : fX5_clear w = some w0) : mmet l yX5_clear cX5_clear 2 none rmX5_clear D cy z ([arI cy k0 51 w]) ([arI cy k0 51 w0]) [.ref k0] none := by
  refine mmet_of (by decide +kernel) (Nat.le_of_ble_eq_true rfl) (fun p e s m below meth c hx hb hr hml hown hts hlk hP hD hS hA0 hKK ls hl => ?_)
  have hown : s.vm.findClass "HillSightModel" = some m.cls := hown
  have hl : lv_has ls 2 [(0, .ref k0)] := hl
  have w_2 : ∀ (k18 : tA → Option (tA)) (hk18 : ∀ (w_2 : tA) (H : Heap) (locs : List Loc) (ls : Array Slot), k18 w_2 = some w0 → va_P D vwCl ([arI cy k0 51 w_2]) H → va_D (adr ([arI cy k0 51 w])) ([arI cy k0 51 w_2]) → va_S (adr ([arI cy k0 51 w])) s.heap H locs → lv_has ls 2 [(0, .ref k0)] → W p l e rmX5_clear s m ([.ref k0] : List Value).toArray below meth c H locs 0 0 (MQ below (mQ D ([arI cy k0 51 w]) ([arI cy k0 51 w0]) none) ([.ref k0] : List Value).toArray s 0 0 (adr ([arI cy k0 51 w]))) (F0 m 18 ls [])) (n : Nat) (v1_2 : Int32) (w_2 : tA) (H : Heap) (locs : List Loc) (ls : Array Slot), fX5_clear_2 k18 n v1_2 w_2 = some w0 → va_P D vwCl ([arI cy k0 51 w_2]) H → va_D (adr ([arI cy k0 51 w])) ([arI cy k0 51 w_2]) → va_S (adr ([arI cy k0 51 w])) s.heap H locs → lv_has ls 2 [(0, .ref k0), (1, .int v1_2)] → W p l e rmX5_clear s m ([.ref k0] : List Value).toArray below meth c H locs 0 0 (MQ below (mQ D ([arI cy k0 51 w]) ([arI cy k0 51 w0]) none) ([.ref k0] : List Value).toArray s 0 0 (adr ([arI cy k0 51 w]))) (F0 m 2 ls []) := by
    intro k18 hk18 n
    induction n with
    | zero =>
      intro v1_2 w_2 H locs ls hf hP hD hS hl
      cases (show (none : Option (tA)) = some w0 from hf)
    | succ n ih =>
      intro v1_2 w_2 H locs ls hf hP hD hS hl
      rw [fX5_clear_2] at hf
      refine lv_iload_n hx hb dX5_clear_2 rfl (lv_at hl 1 rfl) ?_
      refine lv_bipush (v := 51) hx hb dX5_clear_3 (by decide) ?_
      refine lv_icmp_ge (tgt := 18) hx hb dX5_clear_5 (by decide) (fun h => ?_) (fun h => ?_)
      · have hf := (if_pos h).symm.trans hf
        exact hk18 w_2 _ _ ls hf hP hD hS (lv_sub hl [0] rfl)
      · have hf := (if_neg h).symm.trans hf
        refine lv_aload_n hx hb dX5_clear_8 rfl (lv_at hl 0 rfl) ?_
        refine lv_iload_n hx hb dX5_clear_9 rfl (lv_at hl 1 rfl) ?_
        refine lv_iconst (v := 0) hx hb dX5_clear_10 (by decide) ?_
        obtain ⟨hg1, hf⟩ := gd_some hf
        refine va_iast hx hb hKK.1 hP hD hS 0 0 rfl rfl (inb_in hg1) dX5_clear_11 (fun H locs hP hD hS => ?_)
        have hP : va_P D vwCl ([arI cy k0 51 (upd w_2 v1_2.toNatClampNeg (0 : Int32))]) H := hP
        have hD : va_D (adr ([arI cy k0 51 w])) ([arI cy k0 51 (upd w_2 v1_2.toNatClampNeg (0 : Int32))]) := hD
        obtain ⟨x2, ex2, hf⟩ := nm_ex hf
        refine lv_iinc (v := x2) (lv' := [(1, .int x2), (0, .ref k0)]) hx hb dX5_clear_12 hl (k := 1) rfl (Eq.trans rfl ex2) (by decide) rfl (fun ls hl => ?_)
        refine lv_goto (tgt := 2) hx hb dX5_clear_15 (by decide) ?_
        exact ih x2 (upd w_2 v1_2.toNatClampNeg (0 : Int32)) _ _ ls hf hP hD hS (lv_sub hl [1, 0] rfl)
  unfold fX5_clear at hf
  refine lv_iconst (v := 0) hx hb dX5_clear_0 (by decide) ?_
  refine lv_istore_n (lv' := [(1, .int (0 : Int32)), (0, .ref k0)]) hx hb dX5_clear_1 rfl hl (by decide) rfl (fun ls hl => ?_)
  refine w_2 _ ?_ _ (0 : Int32) w _ _ ls hf hP hD hS (lv_sub hl [1, 0] rfl)
  · intro w3 H locs ls hf hP hD hS hl
    refine lv_aload_n hx hb dX5_clear_18 rfl (lv_at hl 0 rfl) ?_
    refine lv_bipush (v := 47) hx hb dX5_clear_19 (by decide) ?_
    refine lv_iconst (v := 1) hx hb dX5_clear_21 (by decide) ?_
    refine va_iast hx hb hKK.1 hP hD hS 0 0 rfl rfl (inb_in (by decide)) dX5_clear_22 (fun H locs hP hD hS => ?_)
    have hP : va_P D vwCl ([arI cy k0 51 (upd w3 (47 : Int32).toNatClampNeg (1 : Int32))]) H := hP
    have hD : va_D (adr ([arI cy k0 51 w])) ([arI cy k0 51 (upd w3 (47 : Int32).toNatClampNeg (1 : Int32))]) := hD
    refine lv_aload_n hx hb dX5_clear_23 rfl (lv_at hl 0 rfl) ?_
    refine lv_bipush (v := 50) hx hb dX5_clear_24 (by decide) ?_
    refine lv_bipush (v := 9) hx hb dX5_clear_26 (by decide) ?_
    refine va_iast hx hb hKK.1 hP hD hS 0 0 rfl rfl (inb_in (by decide)) dX5_clear_28 (fun H locs hP hD hS => ?_)
    have hP : va_P D vwCl ([arI cy k0 51 (upd (upd w3 (47 : Int32).toNatClampNeg (1 : Int32)) (50 : Int32).toNatClampNeg (9 : Int32))]) H := hP
    have hD : va_D (adr ([arI cy k0 51 w])) ([arI cy k0 51 (upd (upd w3 (47 : Int32).toNatClampNeg (1 : Int32)) (50 : Int32).toNatClampNeg (9 : Int32))]) := hD
    cases hf
    exact mretV hx hb hr hlk hP hS dX5_clear_29

abbrev rmX5_copy : Room := { frames := 0, cells := 0, slots := 0, locals := 0 }
theorem miX5_copy : miS yX5_copy cX5_copy 3 none 2 := ⟨q791, q46, q790, by decide +kernel⟩
set_option maxHeartbeats 4000000 in
set_option maxRecDepth 100000 in
theorem mtX5_copy (l : Launch) (D : va_G) (cy : Nat → ClassId) (z : zT) (k0 k1 : Nat) (w : tA) (v : tA) (v0 : tA) (hf : fX5_copy w v = some v0) : mmet l yX5_copy cX5_copy 3 none rmX5_copy D cy z ([arI cy k0 51 w, arI cy k1 51 v]) ([arI cy k0 51 w, arI cy k1 51 v0]) [.ref k0, .ref k1] none := by
  refine mmet_of (by decide +kernel) (Nat.le_of_ble_eq_true rfl) (fun p e s m below meth c hx hb hr hml hown hts hlk hP hD hS hA0 hKK ls hl => ?_)
  have hown : s.vm.findClass "HillSightModel" = some m.cls := hown
  have hl : lv_has ls 3 [(0, .ref k0), (1, .ref k1)] := hl
  have w_2 : ∀ (k20 : tA → Option (tA)) (hk20 : ∀ (v_2 : tA) (H : Heap) (locs : List Loc) (ls : Array Slot), k20 v_2 = some v0 → va_P D vwCl ([arI cy k0 51 w, arI cy k1 51 v_2]) H → va_D (adr ([arI cy k0 51 w, arI cy k1 51 v])) ([arI cy k0 51 w, arI cy k1 51 v_2]) → va_S (adr ([arI cy k0 51 w, arI cy k1 51 v])) s.heap H locs → lv_has ls 3 [] → W p l e rmX5_copy s m ([.ref k0, .ref k1] : List Value).toArray below meth c H locs 0 0 (MQ below (mQ D ([arI cy k0 51 w, arI cy k1 51 v]) ([arI cy k0 51 w, arI cy k1 51 v0]) none) ([.ref k0, .ref k1] : List Value).toArray s 0 0 (adr ([arI cy k0 51 w, arI cy k1 51 v]))) (F0 m 20 ls [])) (n : Nat) (v2_2 : Int32) (v_2 : tA) (H : Heap) (locs : List Loc) (ls : Array Slot), fX5_copy_2 w k20 n v2_2 v_2 = some v0 → va_P D vwCl ([arI cy k0 51 w, arI cy k1 51 v_2]) H → va_D (adr ([arI cy k0 51 w, arI cy k1 51 v])) ([arI cy k0 51 w, arI cy k1 51 v_2]) → va_S (adr ([arI cy k0 51 w, arI cy k1 51 v])) s.heap H locs → lv_has ls 3 [(0, .ref k0), (1, .ref k1), (2, .int v2_2)] → W p l e rmX5_copy s m ([.ref k0, .ref k1] : List Value).toArray below meth c H locs 0 0 (MQ below (mQ D ([arI cy k0 51 w, arI cy k1 51 v]) ([arI cy k0 51 w, arI cy k1 51 v0]) none) ([.ref k0, .ref k1] : List Value).toArray s 0 0 (adr ([arI cy k0 51 w, arI cy k1 51 v]))) (F0 m 2 ls []) := by
    intro k20 hk20 n
    induction n with
    | zero =>
      intro v2_2 v_2 H locs ls hf hP hD hS hl
      cases (show (none : Option (tA)) = some v0 from hf)
    | succ n ih =>
      intro v2_2 v_2 H locs ls hf hP hD hS hl
      rw [fX5_copy_2] at hf
      refine lv_iload_n hx hb dX5_copy_2 rfl (lv_at hl 2 rfl) ?_
      refine lv_bipush (v := 51) hx hb dX5_copy_3 (by decide) ?_
      refine lv_icmp_ge (tgt := 20) hx hb dX5_copy_5 (by decide) (fun h => ?_) (fun h => ?_)
      · have hf := (if_pos h).symm.trans hf
        exact hk20 v_2 _ _ ls hf hP hD hS (lv_sub hl [] rfl)
      · have hf := (if_neg h).symm.trans hf
        refine lv_aload_n hx hb dX5_copy_8 rfl (lv_at hl 1 rfl) ?_
        refine lv_iload_n hx hb dX5_copy_9 rfl (lv_at hl 2 rfl) ?_
        refine lv_aload_n hx hb dX5_copy_10 rfl (lv_at hl 0 rfl) ?_
        refine lv_iload_n hx hb dX5_copy_11 rfl (lv_at hl 2 rfl) ?_
        obtain ⟨hg1, hf⟩ := gd_some hf
        refine va_iald hx hb hKK.1 hP 0 0 rfl rfl (inb_in hg1) dX5_copy_12 ?_
        obtain ⟨hg2, hf⟩ := gd_some hf
        refine va_iast hx hb hKK.1 hP hD hS 1 0 rfl rfl (inb_in hg2) dX5_copy_13 (fun H locs hP hD hS => ?_)
        have hP : va_P D vwCl ([arI cy k0 51 w, arI cy k1 51 (upd v_2 v2_2.toNatClampNeg (w v2_2.toNatClampNeg))]) H := hP
        have hD : va_D (adr ([arI cy k0 51 w, arI cy k1 51 v])) ([arI cy k0 51 w, arI cy k1 51 (upd v_2 v2_2.toNatClampNeg (w v2_2.toNatClampNeg))]) := hD
        obtain ⟨x3, ex3, hf⟩ := nm_ex hf
        refine lv_iinc (v := x3) (lv' := [(2, .int x3), (0, .ref k0), (1, .ref k1)]) hx hb dX5_copy_14 hl (k := 2) rfl (Eq.trans rfl ex3) (by decide) rfl (fun ls hl => ?_)
        refine lv_goto (tgt := 2) hx hb dX5_copy_17 (by decide) ?_
        exact ih x3 (upd v_2 v2_2.toNatClampNeg (w v2_2.toNatClampNeg)) _ _ ls hf hP hD hS (lv_sub hl [1, 2, 0] rfl)
  unfold fX5_copy at hf
  refine lv_iconst (v := 0) hx hb dX5_copy_0 (by decide) ?_
  refine lv_istore_n (lv' := [(2, .int (0 : Int32)), (0, .ref k0), (1, .ref k1)]) hx hb dX5_copy_1 rfl hl (by decide) rfl (fun ls hl => ?_)
  refine w_2 _ ?_ _ (0 : Int32) v _ _ ls hf hP hD hS (lv_sub hl [1, 2, 0] rfl)
  · intro v4 H locs ls hf hP hD hS hl
    cases hf
    exact mretV hx hb hr hlk hP hS dX5_copy_20

abbrev rmX5_buildOn : Room := { frames := 0, cells := 0, slots := 0, locals := 0 }
theorem miX5_buildOn : miS yX5_buildOn cX5_buildOn 3 none 3 := ⟨q909, q46, q908, by decide +kernel⟩
set_option maxHeartbeats 4000000 in
set_option maxRecDepth 100000 in
theorem mtX5_buildOn (l : Launch) (D : va_G) (cy : Nat → ClassId) (z : zT) (k0 : Nat) (w : tA) (u2 : Int32) (u3 : Int32) (w0 : tA) (hf : fX5_buildOn w u2 u3 = some w0) : mmet l yX5_buildOn cX5_buildOn 3 none rmX5_buildOn D cy z ([arI cy k0 51 w]) ([arI cy k0 51 w0]) [.ref k0, .int u2, .int u3] none := by
  refine mmet_of (by decide +kernel) (Nat.le_of_ble_eq_true rfl) (fun p e s m below meth c hx hb hr hml hown hts hlk hP hD hS hA0 hKK ls hl => ?_)
  have hown : s.vm.findClass "HillSightModel" = some m.cls := hown
  have hl : lv_has ls 3 [(0, .ref k0), (1, .int u2), (2, .int u3)] := hl
  unfold fX5_buildOn at hf
  refine lv_aload_n hx hb dX5_buildOn_0 rfl (lv_at hl 0 rfl) ?_
  refine lv_bipush (v := 37) hx hb dX5_buildOn_1 (by decide) ?_
  refine lv_aload_n hx hb dX5_buildOn_3 rfl (lv_at hl 0 rfl) ?_
  refine lv_bipush (v := 36) hx hb dX5_buildOn_4 (by decide) ?_
  refine va_iald hx hb hKK.1 hP 0 0 rfl rfl (inb_in (by decide)) dX5_buildOn_6 ?_
  refine lv_iadd hx hb dX5_buildOn_7 ?_
  refine lv_iload_n hx hb dX5_buildOn_8 rfl (lv_at hl 1 rfl) ?_
  obtain ⟨hg1, hf⟩ := gd_some hf
  refine va_iast hx hb hKK.1 hP hD hS 0 0 rfl rfl (inb_in hg1) dX5_buildOn_9 (fun H locs hP hD hS => ?_)
  have hP : va_P D vwCl ([arI cy k0 51 (upd w ((37 : Int32) + (w (36 : Int32).toNatClampNeg)).toNatClampNeg u2)]) H := hP
  have hD : va_D (adr ([arI cy k0 51 w])) ([arI cy k0 51 (upd w ((37 : Int32) + (w (36 : Int32).toNatClampNeg)).toNatClampNeg u2)]) := hD
  refine lv_aload_n hx hb dX5_buildOn_10 rfl (lv_at hl 0 rfl) ?_
  refine lv_bipush (v := 42) hx hb dX5_buildOn_11 (by decide) ?_
  refine lv_aload_n hx hb dX5_buildOn_13 rfl (lv_at hl 0 rfl) ?_
  refine lv_bipush (v := 36) hx hb dX5_buildOn_14 (by decide) ?_
  refine va_iald hx hb hKK.1 hP 0 0 rfl rfl (inb_in (by decide)) dX5_buildOn_16 ?_
  refine lv_iadd hx hb dX5_buildOn_17 ?_
  refine lv_iload_n hx hb dX5_buildOn_18 rfl (lv_at hl 2 rfl) ?_
  obtain ⟨hg2, hf⟩ := gd_some hf
  refine va_iast hx hb hKK.1 hP hD hS 0 0 rfl rfl (inb_in hg2) dX5_buildOn_19 (fun H locs hP hD hS => ?_)
  have hP : va_P D vwCl ([arI cy k0 51 (upd (upd w ((37 : Int32) + (w (36 : Int32).toNatClampNeg)).toNatClampNeg u2) ((42 : Int32) + ((upd w ((37 : Int32) + (w (36 : Int32).toNatClampNeg)).toNatClampNeg u2) (36 : Int32).toNatClampNeg)).toNatClampNeg u3)]) H := hP
  have hD : va_D (adr ([arI cy k0 51 w])) ([arI cy k0 51 (upd (upd w ((37 : Int32) + (w (36 : Int32).toNatClampNeg)).toNatClampNeg u2) ((42 : Int32) + ((upd w ((37 : Int32) + (w (36 : Int32).toNatClampNeg)).toNatClampNeg u2) (36 : Int32).toNatClampNeg)).toNatClampNeg u3)]) := hD
  refine lv_aload_n hx hb dX5_buildOn_20 rfl (lv_at hl 0 rfl) ?_
  refine lv_bipush (v := 36) hx hb dX5_buildOn_21 (by decide) ?_
  refine lv_dup2_11 hx hb dX5_buildOn_23 rfl rfl ?_
  refine va_iald hx hb hKK.1 hP 0 0 rfl rfl (inb_in (by decide)) dX5_buildOn_24 ?_
  refine lv_iconst (v := 1) hx hb dX5_buildOn_25 (by decide) ?_
  refine lv_iadd hx hb dX5_buildOn_26 ?_
  refine va_iast hx hb hKK.1 hP hD hS 0 0 rfl rfl (inb_in (by decide)) dX5_buildOn_27 (fun H locs hP hD hS => ?_)
  have hP : va_P D vwCl ([arI cy k0 51 (upd (upd (upd w ((37 : Int32) + (w (36 : Int32).toNatClampNeg)).toNatClampNeg u2) ((42 : Int32) + ((upd w ((37 : Int32) + (w (36 : Int32).toNatClampNeg)).toNatClampNeg u2) (36 : Int32).toNatClampNeg)).toNatClampNeg u3) (36 : Int32).toNatClampNeg (((upd (upd w ((37 : Int32) + (w (36 : Int32).toNatClampNeg)).toNatClampNeg u2) ((42 : Int32) + ((upd w ((37 : Int32) + (w (36 : Int32).toNatClampNeg)).toNatClampNeg u2) (36 : Int32).toNatClampNeg)).toNatClampNeg u3) (36 : Int32).toNatClampNeg) + (1 : Int32)))]) H := hP
  have hD : va_D (adr ([arI cy k0 51 w])) ([arI cy k0 51 (upd (upd (upd w ((37 : Int32) + (w (36 : Int32).toNatClampNeg)).toNatClampNeg u2) ((42 : Int32) + ((upd w ((37 : Int32) + (w (36 : Int32).toNatClampNeg)).toNatClampNeg u2) (36 : Int32).toNatClampNeg)).toNatClampNeg u3) (36 : Int32).toNatClampNeg (((upd (upd w ((37 : Int32) + (w (36 : Int32).toNatClampNeg)).toNatClampNeg u2) ((42 : Int32) + ((upd w ((37 : Int32) + (w (36 : Int32).toNatClampNeg)).toNatClampNeg u2) (36 : Int32).toNatClampNeg)).toNatClampNeg u3) (36 : Int32).toNatClampNeg) + (1 : Int32)))]) := hD
  cases hf
  exact mretV hx hb hr hlk hP hS dX5_buildOn_28

abbrev rmX5_razeOf : Room := { frames := 0, cells := 0, slots := 0, locals := 0 }
theorem miX5_razeOf : miS yX5_razeOf cX5_razeOf 3 none 2 := ⟨q916, q46, q915, by decide +kernel⟩
set_option maxHeartbeats 4000000 in
set_option maxRecDepth 100000 in
theorem mtX5_razeOf (l : Launch) (D : va_G) (cy : Nat → ClassId) (z : zT) (k0 : Nat) (w : tA) (u2 : Int32) (w0 : tA) (hf : fX5_razeOf w u2 = some w0) : mmet l yX5_razeOf cX5_razeOf 3 none rmX5_razeOf D cy z ([arI cy k0 51 w]) ([arI cy k0 51 w0]) [.ref k0, .int u2] none := by
  refine mmet_of (by decide +kernel) (Nat.le_of_ble_eq_true rfl) (fun p e s m below meth c hx hb hr hml hown hts hlk hP hD hS hA0 hKK ls hl => ?_)
  have hown : s.vm.findClass "HillSightModel" = some m.cls := hown
  have hl : lv_has ls 3 [(0, .ref k0), (1, .int u2)] := hl
  have w_10 : ∀ (k52 : tA → Option (tA)) (hk52 : ∀ (w_10 : tA) (H : Heap) (locs : List Loc) (ls : Array Slot), k52 w_10 = some w0 → va_P D vwCl ([arI cy k0 51 w_10]) H → va_D (adr ([arI cy k0 51 w])) ([arI cy k0 51 w_10]) → va_S (adr ([arI cy k0 51 w])) s.heap H locs → lv_has ls 3 [] → W p l e rmX5_razeOf s m ([.ref k0, .int u2] : List Value).toArray below meth c H locs 0 0 (MQ below (mQ D ([arI cy k0 51 w]) ([arI cy k0 51 w0]) none) ([.ref k0, .int u2] : List Value).toArray s 0 0 (adr ([arI cy k0 51 w]))) (F0 m 52 ls [])) (n : Nat) (v2_10 : Int32) (w_10 : tA) (H : Heap) (locs : List Loc) (ls : Array Slot), fX5_razeOf_10 k52 n v2_10 w_10 = some w0 → va_P D vwCl ([arI cy k0 51 w_10]) H → va_D (adr ([arI cy k0 51 w])) ([arI cy k0 51 w_10]) → va_S (adr ([arI cy k0 51 w])) s.heap H locs → lv_has ls 3 [(0, .ref k0), (2, .int v2_10)] → W p l e rmX5_razeOf s m ([.ref k0, .int u2] : List Value).toArray below meth c H locs 0 0 (MQ below (mQ D ([arI cy k0 51 w]) ([arI cy k0 51 w0]) none) ([.ref k0, .int u2] : List Value).toArray s 0 0 (adr ([arI cy k0 51 w]))) (F0 m 10 ls []) := by
    intro k52 hk52 n
    induction n with
    | zero =>
      intro v2_10 w_10 H locs ls hf hP hD hS hl
      cases (show (none : Option (tA)) = some w0 from hf)
    | succ n ih =>
      intro v2_10 w_10 H locs ls hf hP hD hS hl
      rw [fX5_razeOf_10] at hf
      refine lv_iload_n hx hb dX5_razeOf_10 rfl (lv_at hl 1 rfl) ?_
      refine lv_aload_n hx hb dX5_razeOf_11 rfl (lv_at hl 0 rfl) ?_
      refine lv_bipush (v := 36) hx hb dX5_razeOf_12 (by decide) ?_
      refine va_iald hx hb hKK.1 hP 0 0 rfl rfl (inb_in (by decide)) dX5_razeOf_14 ?_
      refine lv_icmp_ge (tgt := 52) hx hb dX5_razeOf_15 (by decide) (fun h => ?_) (fun h => ?_)
      · have hf := (if_pos h).symm.trans hf
        exact hk52 w_10 _ _ ls hf hP hD hS (lv_sub hl [] rfl)
      · have hf := (if_neg h).symm.trans hf
        refine lv_aload_n hx hb dX5_razeOf_18 rfl (lv_at hl 0 rfl) ?_
        refine lv_bipush (v := 37) hx hb dX5_razeOf_19 (by decide) ?_
        refine lv_iload_n hx hb dX5_razeOf_21 rfl (lv_at hl 1 rfl) ?_
        refine lv_iadd hx hb dX5_razeOf_22 ?_
        refine lv_aload_n hx hb dX5_razeOf_23 rfl (lv_at hl 0 rfl) ?_
        refine lv_bipush (v := 37) hx hb dX5_razeOf_24 (by decide) ?_
        refine lv_iload_n hx hb dX5_razeOf_26 rfl (lv_at hl 1 rfl) ?_
        refine lv_iadd hx hb dX5_razeOf_27 ?_
        refine lv_iconst (v := 1) hx hb dX5_razeOf_28 (by decide) ?_
        refine lv_iadd hx hb dX5_razeOf_29 ?_
        obtain ⟨hg1, hf⟩ := gd_some hf
        refine va_iald hx hb hKK.1 hP 0 0 rfl rfl (inb_in hg1) dX5_razeOf_30 ?_
        obtain ⟨hg2, hf⟩ := gd_some hf
        refine va_iast hx hb hKK.1 hP hD hS 0 0 rfl rfl (inb_in hg2) dX5_razeOf_31 (fun H locs hP hD hS => ?_)
        have hP : va_P D vwCl ([arI cy k0 51 (upd w_10 ((37 : Int32) + v2_10).toNatClampNeg (w_10 (((37 : Int32) + v2_10) + (1 : Int32)).toNatClampNeg))]) H := hP
        have hD : va_D (adr ([arI cy k0 51 w])) ([arI cy k0 51 (upd w_10 ((37 : Int32) + v2_10).toNatClampNeg (w_10 (((37 : Int32) + v2_10) + (1 : Int32)).toNatClampNeg))]) := hD
        refine lv_aload_n hx hb dX5_razeOf_32 rfl (lv_at hl 0 rfl) ?_
        refine lv_bipush (v := 42) hx hb dX5_razeOf_33 (by decide) ?_
        refine lv_iload_n hx hb dX5_razeOf_35 rfl (lv_at hl 1 rfl) ?_
        refine lv_iadd hx hb dX5_razeOf_36 ?_
        refine lv_aload_n hx hb dX5_razeOf_37 rfl (lv_at hl 0 rfl) ?_
        refine lv_bipush (v := 42) hx hb dX5_razeOf_38 (by decide) ?_
        refine lv_iload_n hx hb dX5_razeOf_40 rfl (lv_at hl 1 rfl) ?_
        refine lv_iadd hx hb dX5_razeOf_41 ?_
        refine lv_iconst (v := 1) hx hb dX5_razeOf_42 (by decide) ?_
        refine lv_iadd hx hb dX5_razeOf_43 ?_
        obtain ⟨hg3, hf⟩ := gd_some hf
        refine va_iald hx hb hKK.1 hP 0 0 rfl rfl (inb_in hg3) dX5_razeOf_44 ?_
        obtain ⟨hg4, hf⟩ := gd_some hf
        refine va_iast hx hb hKK.1 hP hD hS 0 0 rfl rfl (inb_in hg4) dX5_razeOf_45 (fun H locs hP hD hS => ?_)
        have hP : va_P D vwCl ([arI cy k0 51 (upd (upd w_10 ((37 : Int32) + v2_10).toNatClampNeg (w_10 (((37 : Int32) + v2_10) + (1 : Int32)).toNatClampNeg)) ((42 : Int32) + v2_10).toNatClampNeg ((upd w_10 ((37 : Int32) + v2_10).toNatClampNeg (w_10 (((37 : Int32) + v2_10) + (1 : Int32)).toNatClampNeg)) (((42 : Int32) + v2_10) + (1 : Int32)).toNatClampNeg))]) H := hP
        have hD : va_D (adr ([arI cy k0 51 w])) ([arI cy k0 51 (upd (upd w_10 ((37 : Int32) + v2_10).toNatClampNeg (w_10 (((37 : Int32) + v2_10) + (1 : Int32)).toNatClampNeg)) ((42 : Int32) + v2_10).toNatClampNeg ((upd w_10 ((37 : Int32) + v2_10).toNatClampNeg (w_10 (((37 : Int32) + v2_10) + (1 : Int32)).toNatClampNeg)) (((42 : Int32) + v2_10) + (1 : Int32)).toNatClampNeg))]) := hD
        obtain ⟨x5, ex5, hf⟩ := nm_ex hf
        refine lv_iinc (v := x5) (lv' := [(2, .int x5), (0, .ref k0)]) hx hb dX5_razeOf_46 hl (k := 1) rfl (Eq.trans rfl ex5) (by decide) rfl (fun ls hl => ?_)
        refine lv_goto (tgt := 10) hx hb dX5_razeOf_49 (by decide) ?_
        exact ih x5 (upd (upd w_10 ((37 : Int32) + v2_10).toNatClampNeg (w_10 (((37 : Int32) + v2_10) + (1 : Int32)).toNatClampNeg)) ((42 : Int32) + v2_10).toNatClampNeg ((upd w_10 ((37 : Int32) + v2_10).toNatClampNeg (w_10 (((37 : Int32) + v2_10) + (1 : Int32)).toNatClampNeg)) (((42 : Int32) + v2_10) + (1 : Int32)).toNatClampNeg)) _ _ ls hf hP hD hS (lv_sub hl [1, 0] rfl)
  unfold fX5_razeOf at hf
  refine lv_aload_n hx hb dX5_razeOf_0 rfl (lv_at hl 0 rfl) ?_
  refine lv_bipush (v := 36) hx hb dX5_razeOf_1 (by decide) ?_
  refine lv_dup2_11 hx hb dX5_razeOf_3 rfl rfl ?_
  refine va_iald hx hb hKK.1 hP 0 0 rfl rfl (inb_in (by decide)) dX5_razeOf_4 ?_
  refine lv_iconst (v := 1) hx hb dX5_razeOf_5 (by decide) ?_
  refine lv_isub hx hb dX5_razeOf_6 ?_
  refine va_iast hx hb hKK.1 hP hD hS 0 0 rfl rfl (inb_in (by decide)) dX5_razeOf_7 (fun H locs hP hD hS => ?_)
  have hP : va_P D vwCl ([arI cy k0 51 (upd w (36 : Int32).toNatClampNeg ((w (36 : Int32).toNatClampNeg) - (1 : Int32)))]) H := hP
  have hD : va_D (adr ([arI cy k0 51 w])) ([arI cy k0 51 (upd w (36 : Int32).toNatClampNeg ((w (36 : Int32).toNatClampNeg) - (1 : Int32)))]) := hD
  refine lv_iload_n hx hb dX5_razeOf_8 rfl (lv_at hl 1 rfl) ?_
  refine lv_istore_n (lv' := [(2, .int u2), (0, .ref k0), (1, .int u2)]) hx hb dX5_razeOf_9 rfl hl (by decide) rfl (fun ls hl => ?_)
  refine w_10 _ ?_ _ u2 (upd w (36 : Int32).toNatClampNeg ((w (36 : Int32).toNatClampNeg) - (1 : Int32))) _ _ ls hf hP hD hS (lv_sub hl [1, 0] rfl)
  · intro w6 H locs ls hf hP hD hS hl
    cases hf
    exact mretV hx hb hr hlk hP hS dX5_razeOf_52

abbrev rmX5_cells : Room := { frames := 0, cells := 0, slots := 0, locals := 0 }
theorem miX5_cells : miV yX5_cells cX5_cells 1 (some .int) 0 := ⟨q795, q46, q794, q14, by decide +kernel⟩
set_option maxHeartbeats 4000000 in
set_option maxRecDepth 100000 in
theorem mtX5_cells (l : Launch) (D : va_G) (cy : Nat → ClassId) (z : zT) (ad : Nat → Nat) (o : tMo) (r0 : Int32) (hf : fX5_cells o = some r0) : pmet l yX5_cells cX5_cells 1 (some .int) rmX5_cells D cy z ([moC ad o]) [.ref (ad 0)] (some (.int r0)) := by
  refine pmet_of (by decide +kernel) (Nat.le_of_ble_eq_true rfl) (fun p e s m below meth c hx hb hr hml hown hts hlk hP hKK ls hl => ?_)
  have hS : va_S noF s.heap s.heap [] := va_S.rf
  have hA0 : ∀ q, noF q → zA z q := fun _ h => h.elim
  have hown : s.vm.findClass "HillSightModel" = some m.cls := hown
  have hl : lv_has ls 1 [(0, .ref (ad 0))] := hl
  unfold fX5_cells at hf
  refine lv_aload_n hx hb dX5_cells_0 rfl (lv_at hl 0 rfl) ?_
  refine va_get (D := D) (ci := 5) (v := .int o.2.1) (C := RX5) (T := TX5) (N := 24) hx hb hts inX5 hown hKK.1 hP 0 rfl rfl 2 (by decide) (hts _ q675) (fun _ h => h) rfl dX5_cells_1 ?_
  refine lv_aload_n hx hb dX5_cells_4 rfl (lv_at hl 0 rfl) ?_
  refine va_get (D := D) (ci := 5) (v := .int o.2.2.1) (C := RX5) (T := TX5) (N := 24) hx hb hts inX5 hown hKK.1 hP 0 rfl rfl 3 (by decide) (hts _ q676) (fun _ h => h) rfl dX5_cells_5 ?_
  refine lv_imul hx hb dX5_cells_8 ?_
  exact pretI hx hb hr hlk hf dX5_cells_9

abbrev rmX5_isCell : Room := { frames := 1, cells := 0, slots := 0, locals := 25 }
theorem miX5_isCell : miV yX5_isCell cX5_isCell 2 (some .boolean) 1 := ⟨q868, q46, q867, q27, by decide +kernel⟩
set_option maxHeartbeats 4000000 in
set_option maxRecDepth 100000 in
theorem mtX5_isCell (l : Launch) (D : va_G) (cy : Nat → ClassId) (z : zT) (ad : Nat → Nat) (o : tMo) (u1 : Int32) (r0 : Int32) (hf : fX5_isCell o u1 = some r0) : pmet l yX5_isCell cX5_isCell 2 (some .boolean) rmX5_isCell D cy z ([moC ad o]) [.ref (ad 0), .int u1] (some (.int r0)) := by
  refine pmet_of (by decide +kernel) (Nat.le_of_ble_eq_true rfl) (fun p e s m below meth c hx hb hr hml hown hts hlk hP hKK ls hl => ?_)
  have hS : va_S noF s.heap s.heap [] := va_S.rf
  have hA0 : ∀ q, noF q → zA z q := fun _ h => h.elim
  have hown : s.vm.findClass "HillSightModel" = some m.cls := hown
  have hl : lv_has ls 2 [(0, .ref (ad 0)), (1, .int u1)] := hl
  unfold fX5_isCell at hf
  refine lv_iload_n hx hb dX5_isCell_0 rfl (lv_at hl 1 rfl) ?_
  refine lv_i2l hx hb dX5_isCell_1 rfl ?_
  refine lv_lconst (v := 0) hx hb dX5_isCell_2 (by decide) ?_
  refine lv_aload_n hx hb dX5_isCell_3 rfl (lv_at hl 0 rfl) ?_
  obtain ⟨r2, hc1, hf⟩ := bd_some hf
  refine pCallVI ⟨hx, hb, hml, hown, hts⟩ (mtX5_cells l D cy z ad o r2 hc1) miX5_cells q792 ⟨Nat.le_of_ble_eq_true rfl, Nat.le_of_ble_eq_true rfl⟩ ⟨rfl, rfl⟩ hP hKK hS hA0 (va_recv hKK.1 hP (ci := 5) (q0 := 0) rfl rfl) rfl hl.1 rfl (Nat.le_of_ble_eq_true rfl) dX5_isCell_4 ⟨Nat.zero_le _, Nat.zero_le _⟩ ?_
  refine lv_iconst (v := 1) hx hb dX5_isCell_7 (by decide) ?_
  refine lv_isub hx hb dX5_isCell_8 ?_
  refine lv_i2l hx hb dX5_isCell_9 rfl ?_
  obtain ⟨r4, hc3, hf⟩ := bd_some hf
  have hP1 := hP.sub (ws' := []) [] rfl
  refine pCallSI ⟨hx, hb, hml, hown, hts⟩ (mtX5_in l D cy z u1.toInt64 (0 : Int64) ((r2 - (1 : Int32)).toInt64) r4 hc3) miX5_in q751 ⟨Nat.le_of_ble_eq_true rfl, Nat.le_of_ble_eq_true rfl⟩ ⟨rfl, rfl⟩ hP1 hKK hS hA0 rfl hl.1 rfl (Nat.le_of_ble_eq_true rfl) dX5_isCell_10 ⟨Nat.zero_le _, Nat.zero_le _⟩ ?_
  obtain ⟨hz, hf⟩ := gd_some hf
  exact pretZ hx hb hr hlk hz hf dX5_isCell_13

abbrev rmX5_isTower : Room := { frames := 1, cells := 0, slots := 0, locals := 25 }
theorem miX5_isTower : miV yX5_isTower cX5_isTower 2 (some .boolean) 1 := ⟨q888, q46, q887, q31, by decide +kernel⟩
set_option maxHeartbeats 4000000 in
set_option maxRecDepth 100000 in
theorem mtX5_isTower (l : Launch) (D : va_G) (cy : Nat → ClassId) (z : zT) (ad : Nat → Nat) (o : tMo) (w : tA) (u1 : Int32) (r0 : Int32) (hf : fX5_isTower o w u1 = some r0) : pmet l yX5_isTower cX5_isTower 2 (some .boolean) rmX5_isTower D cy z ([moC ad o, arI cy (ad 2) 51 w]) [.ref (ad 0), .int u1] (some (.int r0)) := by
  refine pmet_of (by decide +kernel) (Nat.le_of_ble_eq_true rfl) (fun p e s m below meth c hx hb hr hml hown hts hlk hP hKK ls hl => ?_)
  have hS : va_S noF s.heap s.heap [] := va_S.rf
  have hA0 : ∀ q, noF q → zA z q := fun _ h => h.elim
  have hown : s.vm.findClass "HillSightModel" = some m.cls := hown
  have hl : lv_has ls 2 [(0, .ref (ad 0)), (1, .int u1)] := hl
  unfold fX5_isTower at hf
  refine lv_iload_n hx hb dX5_isTower_0 rfl (lv_at hl 1 rfl) ?_
  refine lv_i2l hx hb dX5_isTower_1 rfl ?_
  refine lv_lconst (v := 0) hx hb dX5_isTower_2 (by decide) ?_
  refine lv_aload_n hx hb dX5_isTower_3 rfl (lv_at hl 0 rfl) ?_
  refine va_get (D := D) (ci := 5) (v := .ref (ad 2)) (C := RX5) (T := TX5) (N := 24) hx hb hts inX5 hown hKK.1 hP 0 rfl rfl 4 (by decide) (hts _ q677) (fun _ h => h) rfl dX5_isTower_4 ?_
  refine lv_bipush (v := 36) hx hb dX5_isTower_7 (by decide) ?_
  refine va_iald hx hb hKK.1 hP 1 0 rfl rfl (inb_in (by decide)) dX5_isTower_9 ?_
  refine lv_iconst (v := 1) hx hb dX5_isTower_10 (by decide) ?_
  refine lv_isub hx hb dX5_isTower_11 ?_
  refine lv_i2l hx hb dX5_isTower_12 rfl ?_
  obtain ⟨r2, hc1, hf⟩ := bd_some hf
  have hP1 := hP.sub (ws' := []) [] rfl
  refine pCallSI ⟨hx, hb, hml, hown, hts⟩ (mtX5_in l D cy z u1.toInt64 (0 : Int64) (((w (36 : Int32).toNatClampNeg) - (1 : Int32)).toInt64) r2 hc1) miX5_in q751 ⟨Nat.le_of_ble_eq_true rfl, Nat.le_of_ble_eq_true rfl⟩ ⟨rfl, rfl⟩ hP1 hKK hS hA0 rfl hl.1 rfl (Nat.le_of_ble_eq_true rfl) dX5_isTower_13 ⟨Nat.zero_le _, Nat.zero_le _⟩ ?_
  obtain ⟨hz, hf⟩ := gd_some hf
  exact pretZ hx hb hr hlk hz hf dX5_isTower_16

abbrev rmX5_distance : Room := { frames := 1, cells := 0, slots := 0, locals := 20 }
theorem miX5_distance : miV yX5_distance cX5_distance 5 (some .int) 2 := ⟨q823, q46, q822, q20, by decide +kernel⟩
set_option maxHeartbeats 4000000 in
set_option maxRecDepth 100000 in
theorem mtX5_distance (l : Launch) (D : va_G) (cy : Nat → ClassId) (z : zT) (ad : Nat → Nat) (o : tMo) (u1 : Int32) (u2 : Int32) (r0 : Int32) (hf : fX5_distance o u1 u2 = some r0) : pmet l yX5_distance cX5_distance 5 (some .int) rmX5_distance D cy z ([moC ad o]) [.ref (ad 0), .int u1, .int u2] (some (.int r0)) := by
  refine pmet_of (by decide +kernel) (Nat.le_of_ble_eq_true rfl) (fun p e s m below meth c hx hb hr hml hown hts hlk hP hKK ls hl => ?_)
  have hS : va_S noF s.heap s.heap [] := va_S.rf
  have hA0 : ∀ q, noF q → zA z q := fun _ h => h.elim
  have hown : s.vm.findClass "HillSightModel" = some m.cls := hown
  have hl : lv_has ls 5 [(0, .ref (ad 0)), (1, .int u1), (2, .int u2)] := hl
  unfold fX5_distance at hf
  refine lv_iload_n hx hb dX5_distance_0 rfl (lv_at hl 2 rfl) ?_
  refine lv_aload_n hx hb dX5_distance_1 rfl (lv_at hl 0 rfl) ?_
  refine va_get (D := D) (ci := 5) (v := .int o.2.1) (C := RX5) (T := TX5) (N := 24) hx hb hts inX5 hown hKK.1 hP 0 rfl rfl 2 (by decide) (hts _ q675) (fun _ h => h) rfl dX5_distance_2 ?_
  obtain ⟨hg1, hf⟩ := gd_some hf
  refine lv_irem hx hb dX5_distance_5 (nz_ne hg1) ?_
  refine lv_iload_n hx hb dX5_distance_6 rfl (lv_at hl 1 rfl) ?_
  refine lv_aload_n hx hb dX5_distance_7 rfl (lv_at hl 0 rfl) ?_
  refine va_get (D := D) (ci := 5) (v := .int o.2.1) (C := RX5) (T := TX5) (N := 24) hx hb hts inX5 hown hKK.1 hP 0 rfl rfl 2 (by decide) (hts _ q675) (fun _ h => h) rfl dX5_distance_8 ?_
  obtain ⟨hg2, hf⟩ := gd_some hf
  refine lv_irem hx hb dX5_distance_11 (nz_ne hg2) ?_
  refine lv_isub hx hb dX5_distance_12 ?_
  obtain ⟨r4, hc3, hf⟩ := bd_some hf
  have hP1 := hP.sub (ws' := []) [] rfl
  refine pCallSI ⟨hx, hb, hml, hown, hts⟩ (mtX5_size l D cy z ((u2 - u2 / o.2.1 * o.2.1) - (u1 - u1 / o.2.1 * o.2.1)) r4 hc3) miX5_size q824 ⟨Nat.le_of_ble_eq_true rfl, Nat.le_of_ble_eq_true rfl⟩ ⟨rfl, rfl⟩ hP1 hKK hS hA0 rfl hl.1 rfl (Nat.le_of_ble_eq_true rfl) dX5_distance_13 ⟨Nat.zero_le _, Nat.zero_le _⟩ ?_
  refine lv_istore_n (lv' := [(3, .int r4), (0, .ref (ad 0)), (1, .int u1), (2, .int u2)]) hx hb dX5_distance_16 rfl hl (by decide) rfl (fun ls hl => ?_)
  refine lv_iload_n hx hb dX5_distance_17 rfl (lv_at hl 3 rfl) ?_
  refine lv_aload_n hx hb dX5_distance_18 rfl (lv_at hl 1 rfl) ?_
  refine va_get (D := D) (ci := 5) (v := .int o.2.1) (C := RX5) (T := TX5) (N := 24) hx hb hts inX5 hown hKK.1 hP 0 rfl rfl 2 (by decide) (hts _ q675) (fun _ h => h) rfl dX5_distance_19 ?_
  obtain ⟨hg5, hf⟩ := gd_some hf
  refine lv_idiv hx hb dX5_distance_22 (nz_ne hg5) ?_
  refine lv_iload_n hx hb dX5_distance_23 rfl (lv_at hl 2 rfl) ?_
  refine lv_aload_n hx hb dX5_distance_24 rfl (lv_at hl 1 rfl) ?_
  refine va_get (D := D) (ci := 5) (v := .int o.2.1) (C := RX5) (T := TX5) (N := 24) hx hb hts inX5 hown hKK.1 hP 0 rfl rfl 2 (by decide) (hts _ q675) (fun _ h => h) rfl dX5_distance_25 ?_
  obtain ⟨hg6, hf⟩ := gd_some hf
  refine lv_idiv hx hb dX5_distance_28 (nz_ne hg6) ?_
  refine lv_isub hx hb dX5_distance_29 ?_
  obtain ⟨r8, hc7, hf⟩ := bd_some hf
  have hP1 := hP.sub (ws' := []) [] rfl
  refine pCallSI ⟨hx, hb, hml, hown, hts⟩ (mtX5_size l D cy z ((u2 / o.2.1) - (u1 / o.2.1)) r8 hc7) miX5_size q824 ⟨Nat.le_of_ble_eq_true rfl, Nat.le_of_ble_eq_true rfl⟩ ⟨rfl, rfl⟩ hP1 hKK hS hA0 rfl hl.1 rfl (Nat.le_of_ble_eq_true rfl) dX5_distance_30 ⟨Nat.zero_le _, Nat.zero_le _⟩ ?_
  refine lv_istore (lv' := [(4, .int r8), (3, .int r4), (0, .ref (ad 0)), (1, .int u1), (2, .int u2)]) hx hb dX5_distance_33 hl (by decide) rfl (fun ls hl => ?_)
  refine lv_iload_n hx hb dX5_distance_35 rfl (lv_at hl 1 rfl) ?_
  refine lv_iload hx hb dX5_distance_36 (lv_at hl 0 rfl) ?_
  refine lv_icmp_le (tgt := 45) hx hb dX5_distance_38 (by decide) (fun h => ?_) (fun h => ?_)
  · have hf := (if_pos h).symm.trans hf
    refine lv_iload hx hb dX5_distance_45 (lv_at hl 0 rfl) ?_
    exact pretI hx hb hr hlk hf dX5_distance_47
  · have hf := (if_neg h).symm.trans hf
    refine lv_iload_n hx hb dX5_distance_41 rfl (lv_at hl 1 rfl) ?_
    refine lv_goto (tgt := 47) hx hb dX5_distance_42 (by decide) ?_
    exact pretI hx hb hr hlk hf dX5_distance_47

abbrev rmX5_cellAt : Room := { frames := 2, cells := 0, slots := 0, locals := 44 }
theorem miX5_cellAt : miV yX5_cellAt cX5_cellAt 8 (some .int) 4 := ⟨q843, q46, q842, q24, by decide +kernel⟩
set_option maxHeartbeats 4000000 in
set_option maxRecDepth 100000 in
theorem mtX5_cellAt (l : Launch) (D : va_G) (cy : Nat → ClassId) (z : zT) (ad : Nat → Nat) (o : tMo) (u1 : Int32) (u2 : Int32) (u3 : Int32) (u4 : Int32) (r0 : Int32) (hf : fX5_cellAt o u1 u2 u3 u4 = some r0) : pmet l yX5_cellAt cX5_cellAt 8 (some .int) rmX5_cellAt D cy z ([moC ad o]) [.ref (ad 0), .int u1, .int u2, .int u3, .int u4] (some (.int r0)) := by
  refine pmet_of (by decide +kernel) (Nat.le_of_ble_eq_true rfl) (fun p e s m below meth c hx hb hr hml hown hts hlk hP hKK ls hl => ?_)
  have hS : va_S noF s.heap s.heap [] := va_S.rf
  have hA0 : ∀ q, noF q → zA z q := fun _ h => h.elim
  have hown : s.vm.findClass "HillSightModel" = some m.cls := hown
  have hl : lv_has ls 8 [(0, .ref (ad 0)), (1, .int u1), (2, .int u2), (3, .int u3), (4, .int u4)] := hl
  unfold fX5_cellAt at hf
  refine lv_aload_n hx hb dX5_cellAt_0 rfl (lv_at hl 0 rfl) ?_
  refine lv_iload_n hx hb dX5_cellAt_1 rfl (lv_at hl 1 rfl) ?_
  refine lv_iload_n hx hb dX5_cellAt_2 rfl (lv_at hl 2 rfl) ?_
  obtain ⟨r2, hc1, hf⟩ := bd_some hf
  refine pCallVI ⟨hx, hb, hml, hown, hts⟩ (mtX5_distance l D cy z ad o u1 u2 r2 hc1) miX5_distance q820 ⟨Nat.le_of_ble_eq_true rfl, Nat.le_of_ble_eq_true rfl⟩ ⟨rfl, rfl⟩ hP hKK hS hA0 (va_recv hKK.1 hP (ci := 5) (q0 := 0) rfl rfl) rfl hl.1 rfl (Nat.le_of_ble_eq_true rfl) dX5_cellAt_3 ⟨Nat.zero_le _, Nat.zero_le _⟩ ?_
  refine lv_istore (lv' := [(5, .int r2), (0, .ref (ad 0)), (1, .int u1), (2, .int u2), (3, .int u3), (4, .int u4)]) hx hb dX5_cellAt_6 hl (by decide) rfl (fun ls hl => ?_)
  refine lv_iload_n hx hb dX5_cellAt_8 rfl (lv_at hl 2 rfl) ?_
  refine lv_aload_n hx hb dX5_cellAt_9 rfl (lv_at hl 1 rfl) ?_
  refine va_get (D := D) (ci := 5) (v := .int o.2.1) (C := RX5) (T := TX5) (N := 24) hx hb hts inX5 hown hKK.1 hP 0 rfl rfl 2 (by decide) (hts _ q675) (fun _ h => h) rfl dX5_cellAt_10 ?_
  obtain ⟨hg3, hf⟩ := gd_some hf
  refine lv_irem hx hb dX5_cellAt_13 (nz_ne hg3) ?_
  refine lv_iload_n hx hb dX5_cellAt_14 rfl (lv_at hl 4 rfl) ?_
  refine lv_iload_n hx hb dX5_cellAt_15 rfl (lv_at hl 3 rfl) ?_
  refine lv_aload_n hx hb dX5_cellAt_16 rfl (lv_at hl 1 rfl) ?_
  refine va_get (D := D) (ci := 5) (v := .int o.2.1) (C := RX5) (T := TX5) (N := 24) hx hb hts inX5 hown hKK.1 hP 0 rfl rfl 2 (by decide) (hts _ q675) (fun _ h => h) rfl dX5_cellAt_17 ?_
  obtain ⟨hg4, hf⟩ := gd_some hf
  refine lv_irem hx hb dX5_cellAt_20 (nz_ne hg4) ?_
  refine lv_iload_n hx hb dX5_cellAt_21 rfl (lv_at hl 2 rfl) ?_
  refine lv_aload_n hx hb dX5_cellAt_22 rfl (lv_at hl 1 rfl) ?_
  refine va_get (D := D) (ci := 5) (v := .int o.2.1) (C := RX5) (T := TX5) (N := 24) hx hb hts inX5 hown hKK.1 hP 0 rfl rfl 2 (by decide) (hts _ q675) (fun _ h => h) rfl dX5_cellAt_23 ?_
  obtain ⟨hg5, hf⟩ := gd_some hf
  refine lv_irem hx hb dX5_cellAt_26 (nz_ne hg5) ?_
  refine lv_isub hx hb dX5_cellAt_27 ?_
  refine lv_imul hx hb dX5_cellAt_28 ?_
  refine lv_iload hx hb dX5_cellAt_29 (lv_at hl 0 rfl) ?_
  refine lv_iload hx hb dX5_cellAt_31 (lv_at hl 5 rfl) ?_
  obtain ⟨r7, hc6, hf⟩ := bd_some hf
  have hP1 := hP.sub (ws' := []) [] rfl
  refine pCallSI ⟨hx, hb, hml, hown, hts⟩ (mtX5_nearest l D cy z (u3 * ((u2 - u2 / o.2.1 * o.2.1) - (u1 - u1 / o.2.1 * o.2.1))) r2 u4 r7 hc6) miX5_nearest q844 ⟨Nat.le_of_ble_eq_true rfl, Nat.le_of_ble_eq_true rfl⟩ ⟨rfl, rfl⟩ hP1 hKK hS hA0 rfl hl.1 rfl (Nat.le_of_ble_eq_true rfl) dX5_cellAt_33 ⟨Nat.zero_le _, Nat.zero_le _⟩ ?_
  refine lv_iadd hx hb dX5_cellAt_36 ?_
  refine nm_i hf (fun x8 hf => ?_)
  refine lv_istore (lv' := [(6, .int x8), (5, .int r2), (0, .ref (ad 0)), (1, .int u1), (2, .int u2), (3, .int u3), (4, .int u4)]) hx hb dX5_cellAt_37 hl (by decide) rfl (fun ls hl => ?_)
  refine lv_iload_n hx hb dX5_cellAt_39 rfl (lv_at hl 3 rfl) ?_
  refine lv_aload_n hx hb dX5_cellAt_40 rfl (lv_at hl 2 rfl) ?_
  refine va_get (D := D) (ci := 5) (v := .int o.2.1) (C := RX5) (T := TX5) (N := 24) hx hb hts inX5 hown hKK.1 hP 0 rfl rfl 2 (by decide) (hts _ q675) (fun _ h => h) rfl dX5_cellAt_41 ?_
  obtain ⟨hg9, hf⟩ := gd_some hf
  refine lv_idiv hx hb dX5_cellAt_44 (nz_ne hg9) ?_
  refine lv_iload_n hx hb dX5_cellAt_45 rfl (lv_at hl 5 rfl) ?_
  refine lv_iload_n hx hb dX5_cellAt_46 rfl (lv_at hl 4 rfl) ?_
  refine lv_aload_n hx hb dX5_cellAt_47 rfl (lv_at hl 2 rfl) ?_
  refine va_get (D := D) (ci := 5) (v := .int o.2.1) (C := RX5) (T := TX5) (N := 24) hx hb hts inX5 hown hKK.1 hP 0 rfl rfl 2 (by decide) (hts _ q675) (fun _ h => h) rfl dX5_cellAt_48 ?_
  obtain ⟨hg10, hf⟩ := gd_some hf
  refine lv_idiv hx hb dX5_cellAt_51 (nz_ne hg10) ?_
  refine lv_iload_n hx hb dX5_cellAt_52 rfl (lv_at hl 3 rfl) ?_
  refine lv_aload_n hx hb dX5_cellAt_53 rfl (lv_at hl 2 rfl) ?_
  refine va_get (D := D) (ci := 5) (v := .int o.2.1) (C := RX5) (T := TX5) (N := 24) hx hb hts inX5 hown hKK.1 hP 0 rfl rfl 2 (by decide) (hts _ q675) (fun _ h => h) rfl dX5_cellAt_54 ?_
  obtain ⟨hg11, hf⟩ := gd_some hf
  refine lv_idiv hx hb dX5_cellAt_57 (nz_ne hg11) ?_
  refine lv_isub hx hb dX5_cellAt_58 ?_
  refine lv_imul hx hb dX5_cellAt_59 ?_
  refine lv_iload hx hb dX5_cellAt_60 (lv_at hl 1 rfl) ?_
  refine lv_iload hx hb dX5_cellAt_62 (lv_at hl 6 rfl) ?_
  obtain ⟨r13, hc12, hf⟩ := bd_some hf
  have hP1 := hP.sub (ws' := []) [] rfl
  refine pCallSI ⟨hx, hb, hml, hown, hts⟩ (mtX5_nearest l D cy z (u3 * ((u2 / o.2.1) - (u1 / o.2.1))) r2 u4 r13 hc12) miX5_nearest q844 ⟨Nat.le_of_ble_eq_true rfl, Nat.le_of_ble_eq_true rfl⟩ ⟨rfl, rfl⟩ hP1 hKK hS hA0 rfl hl.1 rfl (Nat.le_of_ble_eq_true rfl) dX5_cellAt_64 ⟨Nat.zero_le _, Nat.zero_le _⟩ ?_
  refine lv_iadd hx hb dX5_cellAt_67 ?_
  refine nm_i hf (fun x14 hf => ?_)
  refine lv_istore (lv' := [(7, .int x14), (6, .int x8), (5, .int r2), (0, .ref (ad 0)), (1, .int u1), (2, .int u2), (3, .int u3), (4, .int u4)]) hx hb dX5_cellAt_68 hl (by decide) rfl (fun ls hl => ?_)
  refine lv_aload_n hx hb dX5_cellAt_70 rfl (lv_at hl 3 rfl) ?_
  refine va_get (D := D) (ci := 5) (v := .int o.2.1) (C := RX5) (T := TX5) (N := 24) hx hb hts inX5 hown hKK.1 hP 0 rfl rfl 2 (by decide) (hts _ q675) (fun _ h => h) rfl dX5_cellAt_71 ?_
  refine lv_iload hx hb dX5_cellAt_74 (lv_at hl 0 rfl) ?_
  refine lv_imul hx hb dX5_cellAt_76 ?_
  refine lv_iload hx hb dX5_cellAt_77 (lv_at hl 1 rfl) ?_
  refine lv_iadd hx hb dX5_cellAt_79 ?_
  exact pretI hx hb hr hlk hf dX5_cellAt_80

abbrev rmX5_overBy : Room := { frames := 3, cells := 0, slots := 0, locals := 71 }
theorem miX5_overBy : miV yX5_overBy cX5_overBy 10 (some .int) 6 := ⟨q839, q46, q838, q23, by decide +kernel⟩
set_option maxHeartbeats 4000000 in
set_option maxRecDepth 100000 in
theorem mtX5_overBy (l : Launch) (D : va_G) (cy : Nat → ClassId) (z : zT) (ad : Nat → Nat) (kr : Nat) (o : tMo) (w : tA) (u2 : Int32) (u3 : Int32) (u4 : Int32) (u5 : Int32) (u6 : Int32) (r0 : Int32) (hf : fX5_overBy o w u2 u3 u4 u5 u6 = some r0) : pmet l yX5_overBy cX5_overBy 10 (some .int) rmX5_overBy D cy z ([moC ad o, arI cy kr 51 w]) [.ref (ad 0), .ref kr, .int u2, .int u3, .int u4, .int u5, .int u6] (some (.int r0)) := by
  refine pmet_of (by decide +kernel) (Nat.le_of_ble_eq_true rfl) (fun p e s m below meth c hx hb hr hml hown hts hlk hP hKK ls hl => ?_)
  have hS : va_S noF s.heap s.heap [] := va_S.rf
  have hA0 : ∀ q, noF q → zA z q := fun _ h => h.elim
  have hown : s.vm.findClass "HillSightModel" = some m.cls := hown
  have hl : lv_has ls 10 [(0, .ref (ad 0)), (1, .ref kr), (2, .int u2), (3, .int u3), (4, .int u4), (5, .int u5), (6, .int u6)] := hl
  unfold fX5_overBy at hf
  refine lv_aload_n hx hb dX5_overBy_0 rfl (lv_at hl 0 rfl) ?_
  refine lv_iload_n hx hb dX5_overBy_1 rfl (lv_at hl 2 rfl) ?_
  refine lv_iload hx hb dX5_overBy_2 (lv_at hl 4 rfl) ?_
  obtain ⟨r2, hc1, hf⟩ := bd_some hf
  have hP1 := hP.sub (ws' := [moC ad o]) [0] rfl
  refine pCallVI ⟨hx, hb, hml, hown, hts⟩ (mtX5_distance l D cy z ad o u2 u4 r2 hc1) miX5_distance q820 ⟨Nat.le_of_ble_eq_true rfl, Nat.le_of_ble_eq_true rfl⟩ ⟨rfl, rfl⟩ hP1 hKK hS hA0 (va_recv hKK.1 hP1 (ci := 5) (q0 := 0) rfl rfl) rfl hl.1 rfl (Nat.le_of_ble_eq_true rfl) dX5_overBy_4 ⟨Nat.zero_le _, Nat.zero_le _⟩ ?_
  refine lv_istore (lv' := [(7, .int r2), (0, .ref (ad 0)), (1, .ref kr), (2, .int u2), (3, .int u3), (4, .int u4), (5, .int u5), (6, .int u6)]) hx hb dX5_overBy_7 hl (by decide) rfl (fun ls hl => ?_)
  refine lv_aload_n hx hb dX5_overBy_9 rfl (lv_at hl 2 rfl) ?_
  refine lv_aload_n hx hb dX5_overBy_10 rfl (lv_at hl 1 rfl) ?_
  refine lv_iload_n hx hb dX5_overBy_11 rfl (lv_at hl 3 rfl) ?_
  refine lv_iload hx hb dX5_overBy_12 (lv_at hl 5 rfl) ?_
  refine lv_iload hx hb dX5_overBy_14 (lv_at hl 6 rfl) ?_
  refine lv_iload hx hb dX5_overBy_16 (lv_at hl 7 rfl) ?_
  obtain ⟨r4, hc3, hf⟩ := bd_some hf
  have hP1 := hP.sub (ws' := [moC ad o]) [0] rfl
  refine pCallVI ⟨hx, hb, hml, hown, hts⟩ (mtX5_cellAt l D cy z ad o u2 u4 u5 u6 r4 hc3) miX5_cellAt q840 ⟨Nat.le_of_ble_eq_true rfl, Nat.le_of_ble_eq_true rfl⟩ ⟨rfl, rfl⟩ hP1 hKK hS hA0 (va_recv hKK.1 hP1 (ci := 5) (q0 := 0) rfl rfl) rfl hl.1 rfl (Nat.le_of_ble_eq_true rfl) dX5_overBy_18 ⟨Nat.zero_le _, Nat.zero_le _⟩ ?_
  obtain ⟨hg5, hf⟩ := gd_some hf
  refine va_iald hx hb hKK.1 hP 1 0 rfl rfl (inb_in hg5) dX5_overBy_21 ?_
  refine nm_i hf (fun x6 hf => ?_)
  refine lv_istore (lv' := [(8, .int x6), (7, .int r2), (0, .ref (ad 0)), (1, .ref kr), (2, .int u2), (3, .int u3), (4, .int u4), (5, .int u5), (6, .int u6)]) hx hb dX5_overBy_22 hl (by decide) rfl (fun ls hl => ?_)
  refine lv_aload_n hx hb dX5_overBy_24 rfl (lv_at hl 3 rfl) ?_
  refine lv_iload hx hb dX5_overBy_25 (lv_at hl 6 rfl) ?_
  obtain ⟨hg7, hf⟩ := gd_some hf
  refine va_iald hx hb hKK.1 hP 1 0 rfl rfl (inb_in hg7) dX5_overBy_27 ?_
  refine lv_aload_n hx hb dX5_overBy_28 rfl (lv_at hl 3 rfl) ?_
  refine lv_bipush (v := 48) hx hb dX5_overBy_29 (by decide) ?_
  refine va_iald hx hb hKK.1 hP 1 0 rfl rfl (inb_in (by decide)) dX5_overBy_31 ?_
  refine lv_iadd hx hb dX5_overBy_32 ?_
  refine nm_i hf (fun x8 hf => ?_)
  refine lv_istore (lv' := [(9, .int x8), (8, .int x6), (7, .int r2), (0, .ref (ad 0)), (1, .ref kr), (2, .int u2), (3, .int u3), (4, .int u4), (5, .int u5), (6, .int u6)]) hx hb dX5_overBy_33 hl (by decide) rfl (fun ls hl => ?_)
  refine lv_bipush (v := 10) hx hb dX5_overBy_35 (by decide) ?_
  refine lv_iload hx hb dX5_overBy_37 (lv_at hl 2 rfl) ?_
  refine lv_imul hx hb dX5_overBy_39 ?_
  refine lv_iload hx hb dX5_overBy_40 (lv_at hl 1 rfl) ?_
  refine lv_imul hx hb dX5_overBy_42 ?_
  refine lv_iload hx hb dX5_overBy_43 (lv_at hl 2 rfl) ?_
  refine lv_aload_n hx hb dX5_overBy_45 rfl (lv_at hl 4 rfl) ?_
  refine lv_bipush (v := 49) hx hb dX5_overBy_46 (by decide) ?_
  refine va_iald hx hb hKK.1 hP 1 0 rfl rfl (inb_in (by decide)) dX5_overBy_48 ?_
  refine lv_imul hx hb dX5_overBy_49 ?_
  refine lv_iload hx hb dX5_overBy_50 (lv_at hl 8 rfl) ?_
  refine lv_imul hx hb dX5_overBy_52 ?_
  refine lv_iload hx hb dX5_overBy_53 (lv_at hl 2 rfl) ?_
  refine lv_iload hx hb dX5_overBy_55 (lv_at hl 8 rfl) ?_
  refine lv_isub hx hb dX5_overBy_57 ?_
  refine lv_imul hx hb dX5_overBy_58 ?_
  refine lv_iadd hx hb dX5_overBy_59 ?_
  refine lv_bipush (v := 10) hx hb dX5_overBy_60 (by decide) ?_
  refine lv_iload_n hx hb dX5_overBy_62 rfl (lv_at hl 6 rfl) ?_
  refine lv_iload hx hb dX5_overBy_63 (lv_at hl 2 rfl) ?_
  refine lv_iload hx hb dX5_overBy_65 (lv_at hl 8 rfl) ?_
  refine lv_isub hx hb dX5_overBy_67 ?_
  refine lv_imul hx hb dX5_overBy_68 ?_
  refine lv_iload hx hb dX5_overBy_69 (lv_at hl 0 rfl) ?_
  refine lv_iload hx hb dX5_overBy_71 (lv_at hl 8 rfl) ?_
  refine lv_imul hx hb dX5_overBy_73 ?_
  refine lv_iadd hx hb dX5_overBy_74 ?_
  refine lv_imul hx hb dX5_overBy_75 ?_
  refine lv_isub hx hb dX5_overBy_76 ?_
  exact pretI hx hb hr hlk hf dX5_overBy_77

abbrev rmX5_over : Room := { frames := 4, cells := 0, slots := 0, locals := 100 }
theorem miX5_over : miV yX5_over cX5_over 8 (some .int) 5 := ⟨q835, q46, q834, q22, by decide +kernel⟩
set_option maxHeartbeats 4000000 in
set_option maxRecDepth 100000 in
theorem mtX5_over (l : Launch) (D : va_G) (cy : Nat → ClassId) (z : zT) (ad : Nat → Nat) (kr : Nat) (o : tMo) (w : tA) (u2 : Int32) (u3 : Int32) (u4 : Int32) (u5 : Int32) (r0 : Int32) (hf : fX5_over o w u2 u3 u4 u5 = some r0) : pmet l yX5_over cX5_over 8 (some .int) rmX5_over D cy z ([moC ad o, arI cy kr 51 w]) [.ref (ad 0), .ref kr, .int u2, .int u3, .int u4, .int u5] (some (.int r0)) := by
  refine pmet_of (by decide +kernel) (Nat.le_of_ble_eq_true rfl) (fun p e s m below meth c hx hb hr hml hown hts hlk hP hKK ls hl => ?_)
  have hS : va_S noF s.heap s.heap [] := va_S.rf
  have hA0 : ∀ q, noF q → zA z q := fun _ h => h.elim
  have hown : s.vm.findClass "HillSightModel" = some m.cls := hown
  have hl : lv_has ls 8 [(0, .ref (ad 0)), (1, .ref kr), (2, .int u2), (3, .int u3), (4, .int u4), (5, .int u5)] := hl
  unfold fX5_over at hf
  refine lv_aload_n hx hb dX5_over_0 rfl (lv_at hl 0 rfl) ?_
  refine lv_aload_n hx hb dX5_over_1 rfl (lv_at hl 1 rfl) ?_
  refine lv_iload_n hx hb dX5_over_2 rfl (lv_at hl 2 rfl) ?_
  refine lv_iload_n hx hb dX5_over_3 rfl (lv_at hl 3 rfl) ?_
  refine lv_iload hx hb dX5_over_4 (lv_at hl 4 rfl) ?_
  refine lv_iload hx hb dX5_over_6 (lv_at hl 5 rfl) ?_
  refine lv_iconst (v := 0) hx hb dX5_over_8 (by decide) ?_
  obtain ⟨r2, hc1, hf⟩ := bd_some hf
  refine pCallVI ⟨hx, hb, hml, hown, hts⟩ (mtX5_overBy l D cy z ad kr o w u2 u3 u4 u5 (0 : Int32) r2 hc1) miX5_overBy q836 ⟨Nat.le_of_ble_eq_true rfl, Nat.le_of_ble_eq_true rfl⟩ ⟨rfl, rfl⟩ hP hKK hS hA0 (va_recv hKK.1 hP (ci := 5) (q0 := 0) rfl rfl) rfl hl.1 rfl (Nat.le_of_ble_eq_true rfl) dX5_over_9 ⟨Nat.zero_le _, Nat.zero_le _⟩ ?_
  refine lv_istore (lv' := [(6, .int r2), (0, .ref (ad 0)), (1, .ref kr), (2, .int u2), (3, .int u3), (4, .int u4), (5, .int u5)]) hx hb dX5_over_12 hl (by decide) rfl (fun ls hl => ?_)
  refine lv_aload_n hx hb dX5_over_14 rfl (lv_at hl 1 rfl) ?_
  refine lv_aload_n hx hb dX5_over_15 rfl (lv_at hl 2 rfl) ?_
  refine lv_iload_n hx hb dX5_over_16 rfl (lv_at hl 3 rfl) ?_
  refine lv_iload_n hx hb dX5_over_17 rfl (lv_at hl 4 rfl) ?_
  refine lv_iload hx hb dX5_over_18 (lv_at hl 5 rfl) ?_
  refine lv_iload hx hb dX5_over_20 (lv_at hl 6 rfl) ?_
  refine lv_iconst (v := 1) hx hb dX5_over_22 (by decide) ?_
  obtain ⟨r4, hc3, hf⟩ := bd_some hf
  refine pCallVI ⟨hx, hb, hml, hown, hts⟩ (mtX5_overBy l D cy z ad kr o w u2 u3 u4 u5 (1 : Int32) r4 hc3) miX5_overBy q836 ⟨Nat.le_of_ble_eq_true rfl, Nat.le_of_ble_eq_true rfl⟩ ⟨rfl, rfl⟩ hP hKK hS hA0 (va_recv hKK.1 hP (ci := 5) (q0 := 0) rfl rfl) rfl hl.1 rfl (Nat.le_of_ble_eq_true rfl) dX5_over_23 ⟨Nat.zero_le _, Nat.zero_le _⟩ ?_
  refine lv_istore (lv' := [(7, .int r4), (6, .int r2), (0, .ref (ad 0)), (1, .ref kr), (2, .int u2), (3, .int u3), (4, .int u4), (5, .int u5)]) hx hb dX5_over_26 hl (by decide) rfl (fun ls hl => ?_)
  refine lv_iload hx hb dX5_over_28 (lv_at hl 1 rfl) ?_
  refine lv_iload hx hb dX5_over_30 (lv_at hl 0 rfl) ?_
  refine lv_icmp_le (tgt := 40) hx hb dX5_over_32 (by decide) (fun h => ?_) (fun h => ?_)
  · have hf := (if_pos h).symm.trans hf
    refine lv_iload hx hb dX5_over_40 (lv_at hl 0 rfl) ?_
    exact pretI hx hb hr hlk hf dX5_over_42
  · have hf := (if_neg h).symm.trans hf
    refine lv_iload hx hb dX5_over_35 (lv_at hl 1 rfl) ?_
    refine lv_goto (tgt := 42) hx hb dX5_over_37 (by decide) ?_
    exact pretI hx hb hr hlk hf dX5_over_42

abbrev rmX5_mostOver : Room := { frames := 5, cells := 0, slots := 0, locals := 127 }
theorem miX5_mostOver : miV yX5_mostOver cX5_mostOver 8 (some .int) 4 := ⟨q830, q46, q829, q21, by decide +kernel⟩
set_option maxHeartbeats 4000000 in
set_option maxRecDepth 100000 in
theorem mtX5_mostOver (l : Launch) (D : va_G) (cy : Nat → ClassId) (z : zT) (ad : Nat → Nat) (kr : Nat) (o : tMo) (w : tA) (u2 : Int32) (u3 : Int32) (u4 : Int32) (r0 : Int32) (hf : fX5_mostOver o w u2 u3 u4 = some r0) : pmet l yX5_mostOver cX5_mostOver 8 (some .int) rmX5_mostOver D cy z ([moC ad o, arI cy kr 51 w]) [.ref (ad 0), .ref kr, .int u2, .int u3, .int u4] (some (.int r0)) := by
  refine pmet_of (by decide +kernel) (Nat.le_of_ble_eq_true rfl) (fun p e s m below meth c hx hb hr hml hown hts hlk hP hKK ls hl => ?_)
  have hS : va_S noF s.heap s.heap [] := va_S.rf
  have hA0 : ∀ q, noF q → zA z q := fun _ h => h.elim
  have hown : s.vm.findClass "HillSightModel" = some m.cls := hown
  have hl : lv_has ls 8 [(0, .ref (ad 0)), (1, .ref kr), (2, .int u2), (3, .int u3), (4, .int u4)] := hl
  have w_7 : ∀ (g2_7 : Int32) (g3_7 : Int32) (g4_7 : Int32) (k54 : Int32 → Option (Int32)) (hk54 : ∀ (v5_7 : Int32) (ls : Array Slot), k54 v5_7 = some r0 → lv_has ls 8 [(5, .int v5_7)] → W p l e rmX5_mostOver s m ([.ref (ad 0), .ref kr, .int u2, .int u3, .int u4] : List Value).toArray below meth c s.heap [] 0 0 (MQ below (pQ (some (.int r0))) ([.ref (ad 0), .ref kr, .int u2, .int u3, .int u4] : List Value).toArray s 0 0 noF) (F0 m 54 ls [])) (n : Nat) (v5_7 : Int32) (v6_7 : Int32) (ls : Array Slot), fX5_mostOver_7 o w g2_7 g3_7 g4_7 k54 n v5_7 v6_7 = some r0 → lv_has ls 8 [(0, .ref (ad 0)), (1, .ref kr), (2, .int g2_7), (3, .int g3_7), (4, .int g4_7), (5, .int v5_7), (6, .int v6_7)] → W p l e rmX5_mostOver s m ([.ref (ad 0), .ref kr, .int u2, .int u3, .int u4] : List Value).toArray below meth c s.heap [] 0 0 (MQ below (pQ (some (.int r0))) ([.ref (ad 0), .ref kr, .int u2, .int u3, .int u4] : List Value).toArray s 0 0 noF) (F0 m 7 ls []) := by
    intro g2_7 g3_7 g4_7 k54 hk54 n
    induction n with
    | zero =>
      intro v5_7 v6_7 ls hf hl
      cases (show (none : Option (Int32)) = some r0 from hf)
    | succ n ih =>
      intro v5_7 v6_7 ls hf hl
      rw [fX5_mostOver_7] at hf
      refine lv_iload hx hb dX5_mostOver_7 (lv_at hl 6 rfl) ?_
      refine lv_aload_n hx hb dX5_mostOver_9 rfl (lv_at hl 0 rfl) ?_
      refine lv_iload_n hx hb dX5_mostOver_10 rfl (lv_at hl 2 rfl) ?_
      refine lv_iload hx hb dX5_mostOver_11 (lv_at hl 4 rfl) ?_
      obtain ⟨r2, hc1, hf⟩ := bd_some hf
      have hP1 := hP.sub (ws' := [moC ad o]) [0] rfl
      refine pCallVI ⟨hx, hb, hml, hown, hts⟩ (mtX5_distance l D cy z ad o g2_7 g4_7 r2 hc1) miX5_distance q820 ⟨Nat.le_of_ble_eq_true rfl, Nat.le_of_ble_eq_true rfl⟩ ⟨rfl, rfl⟩ hP1 hKK hS hA0 (va_recv hKK.1 hP1 (ci := 5) (q0 := 0) rfl rfl) rfl hl.1 rfl (Nat.le_of_ble_eq_true rfl) dX5_mostOver_13 ⟨Nat.zero_le _, Nat.zero_le _⟩ ?_
      refine lv_icmp_ge (tgt := 54) hx hb dX5_mostOver_16 (by decide) (fun h => ?_) (fun h => ?_)
      · have hf := (if_pos h).symm.trans hf
        exact hk54 v5_7 ls hf (lv_sub hl [5] rfl)
      · have hf := (if_neg h).symm.trans hf
        refine lv_aload_n hx hb dX5_mostOver_19 rfl (lv_at hl 0 rfl) ?_
        refine lv_aload_n hx hb dX5_mostOver_20 rfl (lv_at hl 1 rfl) ?_
        refine lv_iload_n hx hb dX5_mostOver_21 rfl (lv_at hl 2 rfl) ?_
        refine lv_iload_n hx hb dX5_mostOver_22 rfl (lv_at hl 3 rfl) ?_
        refine lv_iload hx hb dX5_mostOver_23 (lv_at hl 4 rfl) ?_
        refine lv_iload hx hb dX5_mostOver_25 (lv_at hl 6 rfl) ?_
        obtain ⟨r4, hc3, hf⟩ := bd_some hf
        refine pCallVI ⟨hx, hb, hml, hown, hts⟩ (mtX5_over l D cy z ad kr o w g2_7 g3_7 g4_7 v6_7 r4 hc3) miX5_over q832 ⟨Nat.le_of_ble_eq_true rfl, Nat.le_of_ble_eq_true rfl⟩ ⟨rfl, rfl⟩ hP hKK hS hA0 (va_recv hKK.1 hP (ci := 5) (q0 := 0) rfl rfl) rfl hl.1 rfl (Nat.le_of_ble_eq_true rfl) dX5_mostOver_27 ⟨Nat.zero_le _, Nat.zero_le _⟩ ?_
        refine lv_istore (lv' := [(7, .int r4), (0, .ref (ad 0)), (1, .ref kr), (2, .int g2_7), (3, .int g3_7), (4, .int g4_7), (5, .int v5_7), (6, .int v6_7)]) hx hb dX5_mostOver_30 hl (by decide) rfl (fun ls hl => ?_)
        refine lv_iload hx hb dX5_mostOver_32 (lv_at hl 0 rfl) ?_
        refine lv_iload hx hb dX5_mostOver_34 (lv_at hl 6 rfl) ?_
        refine lv_icmp_le (tgt := 44) hx hb dX5_mostOver_36 (by decide) (fun h => ?_) (fun h => ?_)
        · have hf := (if_pos h).symm.trans hf
          refine lv_iload hx hb dX5_mostOver_44 (lv_at hl 6 rfl) ?_
          refine lv_istore (lv' := [(5, .int v5_7), (7, .int r4), (0, .ref (ad 0)), (1, .ref kr), (2, .int g2_7), (3, .int g3_7), (4, .int g4_7), (6, .int v6_7)]) hx hb dX5_mostOver_46 hl (by decide) rfl (fun ls hl => ?_)
          obtain ⟨x5, ex5, hf⟩ := nm_ex hf
          refine lv_iinc (v := x5) (lv' := [(6, .int x5), (5, .int v5_7), (7, .int r4), (0, .ref (ad 0)), (1, .ref kr), (2, .int g2_7), (3, .int g3_7), (4, .int g4_7)]) hx hb dX5_mostOver_48 hl (k := 7) rfl (Eq.trans rfl ex5) (by decide) rfl (fun ls hl => ?_)
          refine lv_goto (tgt := 7) hx hb dX5_mostOver_51 (by decide) ?_
          exact ih v5_7 x5 ls hf (lv_sub hl [3, 4, 5, 6, 7, 1, 0] rfl)
        · have hf := (if_neg h).symm.trans hf
          refine lv_iload hx hb dX5_mostOver_39 (lv_at hl 0 rfl) ?_
          refine lv_goto (tgt := 46) hx hb dX5_mostOver_41 (by decide) ?_
          refine lv_istore (lv' := [(5, .int r4), (7, .int r4), (0, .ref (ad 0)), (1, .ref kr), (2, .int g2_7), (3, .int g3_7), (4, .int g4_7), (6, .int v6_7)]) hx hb dX5_mostOver_46 hl (by decide) rfl (fun ls hl => ?_)
          obtain ⟨x6, ex6, hf⟩ := nm_ex hf
          refine lv_iinc (v := x6) (lv' := [(6, .int x6), (5, .int r4), (7, .int r4), (0, .ref (ad 0)), (1, .ref kr), (2, .int g2_7), (3, .int g3_7), (4, .int g4_7)]) hx hb dX5_mostOver_48 hl (k := 7) rfl (Eq.trans rfl ex6) (by decide) rfl (fun ls hl => ?_)
          refine lv_goto (tgt := 7) hx hb dX5_mostOver_51 (by decide) ?_
          exact ih r4 x6 ls hf (lv_sub hl [3, 4, 5, 6, 7, 1, 0] rfl)
  unfold fX5_mostOver at hf
  refine lv_ldc hx hb hown (hts _ q831) dX5_mostOver_0 ?_
  refine lv_istore (lv' := [(5, .int (-1000000 : Int32)), (0, .ref (ad 0)), (1, .ref kr), (2, .int u2), (3, .int u3), (4, .int u4)]) hx hb dX5_mostOver_2 hl (by decide) rfl (fun ls hl => ?_)
  refine lv_iconst (v := 1) hx hb dX5_mostOver_4 (by decide) ?_
  refine lv_istore (lv' := [(6, .int (1 : Int32)), (5, .int (-1000000 : Int32)), (0, .ref (ad 0)), (1, .ref kr), (2, .int u2), (3, .int u3), (4, .int u4)]) hx hb dX5_mostOver_5 hl (by decide) rfl (fun ls hl => ?_)
  refine w_7 u2 u3 u4 _ ?_ _ (-1000000 : Int32) (1 : Int32) ls hf (lv_sub hl [2, 3, 4, 5, 6, 1, 0] rfl)
  · intro y7 ls hf hl
    refine lv_iload hx hb dX5_mostOver_54 (lv_at hl 0 rfl) ?_
    exact pretI hx hb hr hlk hf dX5_mostOver_56

abbrev rmX5_isSeen : Room := { frames := 6, cells := 0, slots := 0, locals := 154 }
theorem miX5_isSeen : miV yX5_isSeen cX5_isSeen 5 (some .boolean) 4 := ⟨q819, q46, q818, q19, by decide +kernel⟩
set_option maxHeartbeats 4000000 in
set_option maxRecDepth 100000 in
theorem mtX5_isSeen (l : Launch) (D : va_G) (cy : Nat → ClassId) (z : zT) (ad : Nat → Nat) (kr : Nat) (o : tMo) (w : tA) (u2 : Int32) (u3 : Int32) (u4 : Int32) (r0 : Int32) (hf : fX5_isSeen o w u2 u3 u4 = some r0) : pmet l yX5_isSeen cX5_isSeen 5 (some .boolean) rmX5_isSeen D cy z ([moC ad o, arI cy kr 51 w]) [.ref (ad 0), .ref kr, .int u2, .int u3, .int u4] (some (.int r0)) := by
  refine pmet_of (by decide +kernel) (Nat.le_of_ble_eq_true rfl) (fun p e s m below meth c hx hb hr hml hown hts hlk hP hKK ls hl => ?_)
  have hS : va_S noF s.heap s.heap [] := va_S.rf
  have hA0 : ∀ q, noF q → zA z q := fun _ h => h.elim
  have hown : s.vm.findClass "HillSightModel" = some m.cls := hown
  have hl : lv_has ls 5 [(0, .ref (ad 0)), (1, .ref kr), (2, .int u2), (3, .int u3), (4, .int u4)] := hl
  unfold fX5_isSeen at hf
  refine lv_iload_n hx hb dX5_isSeen_0 rfl (lv_at hl 2 rfl) ?_
  refine lv_iload hx hb dX5_isSeen_1 (lv_at hl 4 rfl) ?_
  refine lv_icmp_eq (tgt := 36) hx hb dX5_isSeen_3 (by decide) (fun h => ?_) (fun h => ?_)
  · have hf := (if_pos h).symm.trans hf
    refine lv_iconst (v := 1) hx hb dX5_isSeen_36 (by decide) ?_
    refine lv_goto (tgt := 41) hx hb dX5_isSeen_37 (by decide) ?_
    exact pretZ hx hb hr hlk (by decide) hf dX5_isSeen_41
  · have hf := (if_neg h).symm.trans hf
    refine lv_aload_n hx hb dX5_isSeen_6 rfl (lv_at hl 0 rfl) ?_
    refine lv_iload_n hx hb dX5_isSeen_7 rfl (lv_at hl 2 rfl) ?_
    refine lv_iload hx hb dX5_isSeen_8 (lv_at hl 4 rfl) ?_
    obtain ⟨r2, hc1, hf⟩ := bd_some hf
    have hP1 := hP.sub (ws' := [moC ad o]) [0] rfl
    refine pCallVI ⟨hx, hb, hml, hown, hts⟩ (mtX5_distance l D cy z ad o u2 u4 r2 hc1) miX5_distance q820 ⟨Nat.le_of_ble_eq_true rfl, Nat.le_of_ble_eq_true rfl⟩ ⟨rfl, rfl⟩ hP1 hKK hS hA0 (va_recv hKK.1 hP1 (ci := 5) (q0 := 0) rfl rfl) rfl hl.1 rfl (Nat.le_of_ble_eq_true rfl) dX5_isSeen_10 ⟨Nat.zero_le _, Nat.zero_le _⟩ ?_
    refine lv_aload_n hx hb dX5_isSeen_13 rfl (lv_at hl 1 rfl) ?_
    refine lv_bipush (v := 50) hx hb dX5_isSeen_14 (by decide) ?_
    refine va_iald hx hb hKK.1 hP 1 0 rfl rfl (inb_in (by decide)) dX5_isSeen_16 ?_
    refine lv_icmp_gt (tgt := 40) hx hb dX5_isSeen_17 (by decide) (fun h => ?_) (fun h => ?_)
    · have hf := (if_pos h).symm.trans hf
      refine lv_iconst (v := 0) hx hb dX5_isSeen_40 (by decide) ?_
      exact pretZ hx hb hr hlk (by decide) hf dX5_isSeen_41
    · have hf := (if_neg h).symm.trans hf
      refine lv_aload_n hx hb dX5_isSeen_20 rfl (lv_at hl 0 rfl) ?_
      refine lv_aload_n hx hb dX5_isSeen_21 rfl (lv_at hl 1 rfl) ?_
      refine lv_iload_n hx hb dX5_isSeen_22 rfl (lv_at hl 2 rfl) ?_
      refine lv_aload_n hx hb dX5_isSeen_23 rfl (lv_at hl 1 rfl) ?_
      refine lv_iload_n hx hb dX5_isSeen_24 rfl (lv_at hl 2 rfl) ?_
      obtain ⟨hg3, hf⟩ := gd_some hf
      refine va_iald hx hb hKK.1 hP 1 0 rfl rfl (inb_in hg3) dX5_isSeen_25 ?_
      refine lv_iload_n hx hb dX5_isSeen_26 rfl (lv_at hl 3 rfl) ?_
      refine lv_iadd hx hb dX5_isSeen_27 ?_
      refine lv_iload hx hb dX5_isSeen_28 (lv_at hl 4 rfl) ?_
      obtain ⟨r5, hc4, hf⟩ := bd_some hf
      refine pCallVI ⟨hx, hb, hml, hown, hts⟩ (mtX5_mostOver l D cy z ad kr o w u2 ((w u2.toNatClampNeg) + u3) u4 r5 hc4) miX5_mostOver q827 ⟨Nat.le_of_ble_eq_true rfl, Nat.le_of_ble_eq_true rfl⟩ ⟨rfl, rfl⟩ hP hKK hS hA0 (va_recv hKK.1 hP (ci := 5) (q0 := 0) rfl rfl) rfl hl.1 rfl (Nat.le_of_ble_eq_true rfl) dX5_isSeen_30 ⟨Nat.zero_le _, Nat.zero_le _⟩ ?_
      refine lv_if_gt (tgt := 40) hx hb dX5_isSeen_33 (by decide) (fun h => ?_) (fun h => ?_)
      · have hf := (if_pos h).symm.trans hf
        refine lv_iconst (v := 0) hx hb dX5_isSeen_40 (by decide) ?_
        exact pretZ hx hb hr hlk (by decide) hf dX5_isSeen_41
      · have hf := (if_neg h).symm.trans hf
        refine lv_iconst (v := 1) hx hb dX5_isSeen_36 (by decide) ?_
        refine lv_goto (tgt := 41) hx hb dX5_isSeen_37 (by decide) ?_
        exact pretZ hx hb hr hlk (by decide) hf dX5_isSeen_41

abbrev rmX5_viewOf : Room := { frames := 7, cells := 0, slots := 0, locals := 178 }
theorem miX5_viewOf : miV yX5_viewOf cX5_viewOf 7 (some .long) 3 := ⟨q815, q46, q814, q18, by decide +kernel⟩
set_option maxHeartbeats 4000000 in
set_option maxRecDepth 100000 in
theorem mtX5_viewOf (l : Launch) (D : va_G) (cy : Nat → ClassId) (z : zT) (ad : Nat → Nat) (kr : Nat) (o : tMo) (w : tA) (u2 : Int32) (u3 : Int32) (r0 : Int64) (hf : fX5_viewOf o w u2 u3 = some r0) : pmet l yX5_viewOf cX5_viewOf 7 (some .long) rmX5_viewOf D cy z ([moC ad o, arI cy kr 51 w]) [.ref (ad 0), .ref kr, .int u2, .int u3] (some (.long r0)) := by
  refine pmet_of (by decide +kernel) (Nat.le_of_ble_eq_true rfl) (fun p e s m below meth c hx hb hr hml hown hts hlk hP hKK ls hl => ?_)
  have hS : va_S noF s.heap s.heap [] := va_S.rf
  have hA0 : ∀ q, noF q → zA z q := fun _ h => h.elim
  have hown : s.vm.findClass "HillSightModel" = some m.cls := hown
  have hl : lv_has ls 7 [(0, .ref (ad 0)), (1, .ref kr), (2, .int u2), (3, .int u3)] := hl
  have w_6 : ∀ (g2_6 : Int32) (g3_6 : Int32) (k46 : Int64 → Option (Int64)) (hk46 : ∀ (v4_6 : Int64) (ls : Array Slot), k46 v4_6 = some r0 → lv_has ls 7 [(4, .long v4_6)] → W p l e rmX5_viewOf s m ([.ref (ad 0), .ref kr, .int u2, .int u3] : List Value).toArray below meth c s.heap [] 0 0 (MQ below (pQ (some (.long r0))) ([.ref (ad 0), .ref kr, .int u2, .int u3] : List Value).toArray s 0 0 noF) (F0 m 46 ls [])) (n : Nat) (v4_6 : Int64) (v6_6 : Int32) (ls : Array Slot), fX5_viewOf_6 o w g2_6 g3_6 k46 n v4_6 v6_6 = some r0 → lv_has ls 7 [(0, .ref (ad 0)), (1, .ref kr), (2, .int g2_6), (3, .int g3_6), (4, .long v4_6), (6, .int v6_6)] → W p l e rmX5_viewOf s m ([.ref (ad 0), .ref kr, .int u2, .int u3] : List Value).toArray below meth c s.heap [] 0 0 (MQ below (pQ (some (.long r0))) ([.ref (ad 0), .ref kr, .int u2, .int u3] : List Value).toArray s 0 0 noF) (F0 m 6 ls []) := by
    intro g2_6 g3_6 k46 hk46 n
    induction n with
    | zero =>
      intro v4_6 v6_6 ls hf hl
      cases (show (none : Option (Int64)) = some r0 from hf)
    | succ n ih =>
      intro v4_6 v6_6 ls hf hl
      rw [fX5_viewOf_6] at hf
      refine lv_iload hx hb dX5_viewOf_6 (lv_at hl 5 rfl) ?_
      refine lv_aload_n hx hb dX5_viewOf_8 rfl (lv_at hl 0 rfl) ?_
      obtain ⟨r2, hc1, hf⟩ := bd_some hf
      have hP1 := hP.sub (ws' := [moC ad o]) [0] rfl
      refine pCallVI ⟨hx, hb, hml, hown, hts⟩ (mtX5_cells l D cy z ad o r2 hc1) miX5_cells q792 ⟨Nat.le_of_ble_eq_true rfl, Nat.le_of_ble_eq_true rfl⟩ ⟨rfl, rfl⟩ hP1 hKK hS hA0 (va_recv hKK.1 hP1 (ci := 5) (q0 := 0) rfl rfl) rfl hl.1 rfl (Nat.le_of_ble_eq_true rfl) dX5_viewOf_9 ⟨Nat.zero_le _, Nat.zero_le _⟩ ?_
      refine lv_icmp_ge (tgt := 46) hx hb dX5_viewOf_12 (by decide) (fun h => ?_) (fun h => ?_)
      · have hf := (if_pos h).symm.trans hf
        exact hk46 v4_6 ls hf (lv_sub hl [4] rfl)
      · have hf := (if_neg h).symm.trans hf
        refine lv_lload hx hb dX5_viewOf_15 (lv_at hl 4 rfl) ?_
        refine lv_aload_n hx hb dX5_viewOf_17 rfl (lv_at hl 0 rfl) ?_
        refine lv_aload_n hx hb dX5_viewOf_18 rfl (lv_at hl 1 rfl) ?_
        refine lv_iload_n hx hb dX5_viewOf_19 rfl (lv_at hl 2 rfl) ?_
        refine lv_iload_n hx hb dX5_viewOf_20 rfl (lv_at hl 3 rfl) ?_
        refine lv_iload hx hb dX5_viewOf_21 (lv_at hl 5 rfl) ?_
        obtain ⟨r4, hc3, hf⟩ := bd_some hf
        refine pCallVI ⟨hx, hb, hml, hown, hts⟩ (mtX5_isSeen l D cy z ad kr o w g2_6 g3_6 v6_6 r4 hc3) miX5_isSeen q816 ⟨Nat.le_of_ble_eq_true rfl, Nat.le_of_ble_eq_true rfl⟩ ⟨rfl, rfl⟩ hP hKK hS hA0 (va_recv hKK.1 hP (ci := 5) (q0 := 0) rfl rfl) rfl hl.1 rfl (Nat.le_of_ble_eq_true rfl) dX5_viewOf_23 ⟨Nat.zero_le _, Nat.zero_le _⟩ ?_
        refine lv_if_eq (tgt := 36) hx hb dX5_viewOf_26 (by decide) (fun h => ?_) (fun h => ?_)
        · have hf := (if_pos h).symm.trans hf
          refine lv_lconst (v := 0) hx hb dX5_viewOf_36 (by decide) ?_
          refine lv_lor hx hb dX5_viewOf_37 ?_
          refine nm_l hf (fun x5 hf => ?_)
          refine lv_lstore (lv' := [(4, .long x5), (0, .ref (ad 0)), (1, .ref kr), (2, .int g2_6), (3, .int g3_6), (6, .int v6_6)]) hx hb dX5_viewOf_38 hl (by decide) rfl (fun ls hl => ?_)
          obtain ⟨x6, ex6, hf⟩ := nm_ex hf
          refine lv_iinc (v := x6) (lv' := [(6, .int x6), (4, .long x5), (0, .ref (ad 0)), (1, .ref kr), (2, .int g2_6), (3, .int g3_6)]) hx hb dX5_viewOf_40 hl (k := 5) rfl (Eq.trans rfl ex6) (by decide) rfl (fun ls hl => ?_)
          refine lv_goto (tgt := 6) hx hb dX5_viewOf_43 (by decide) ?_
          exact ih x5 x6 ls hf (lv_sub hl [2, 3, 4, 5, 1, 0] rfl)
        · have hf := (if_neg h).symm.trans hf
          refine lv_lconst (v := 1) hx hb dX5_viewOf_29 (by decide) ?_
          refine lv_iload hx hb dX5_viewOf_30 (lv_at hl 5 rfl) ?_
          refine lv_lshl hx hb dX5_viewOf_32 rfl ?_
          refine lv_goto (tgt := 37) hx hb dX5_viewOf_33 (by decide) ?_
          refine lv_lor hx hb dX5_viewOf_37 ?_
          refine nm_l hf (fun x7 hf => ?_)
          refine lv_lstore (lv' := [(4, .long x7), (0, .ref (ad 0)), (1, .ref kr), (2, .int g2_6), (3, .int g3_6), (6, .int v6_6)]) hx hb dX5_viewOf_38 hl (by decide) rfl (fun ls hl => ?_)
          obtain ⟨x8, ex8, hf⟩ := nm_ex hf
          refine lv_iinc (v := x8) (lv' := [(6, .int x8), (4, .long x7), (0, .ref (ad 0)), (1, .ref kr), (2, .int g2_6), (3, .int g3_6)]) hx hb dX5_viewOf_40 hl (k := 5) rfl (Eq.trans rfl ex8) (by decide) rfl (fun ls hl => ?_)
          refine lv_goto (tgt := 6) hx hb dX5_viewOf_43 (by decide) ?_
          exact ih x7 x8 ls hf (lv_sub hl [2, 3, 4, 5, 1, 0] rfl)
  unfold fX5_viewOf at hf
  refine lv_lconst (v := 0) hx hb dX5_viewOf_0 (by decide) ?_
  refine lv_lstore (lv' := [(4, .long (0 : Int64)), (0, .ref (ad 0)), (1, .ref kr), (2, .int u2), (3, .int u3)]) hx hb dX5_viewOf_1 hl (by decide) rfl (fun ls hl => ?_)
  refine lv_iconst (v := 0) hx hb dX5_viewOf_3 (by decide) ?_
  refine lv_istore (lv' := [(6, .int (0 : Int32)), (4, .long (0 : Int64)), (0, .ref (ad 0)), (1, .ref kr), (2, .int u2), (3, .int u3)]) hx hb dX5_viewOf_4 hl (by decide) rfl (fun ls hl => ?_)
  refine w_6 u2 u3 _ ?_ _ (0 : Int64) (0 : Int32) ls hf (lv_sub hl [2, 3, 4, 5, 1, 0] rfl)
  · intro y9 ls hf hl
    refine lv_lload hx hb dX5_viewOf_46 (lv_at hl 0 rfl) ?_
    exact pretL hx hb hr hlk hf dX5_viewOf_48

abbrev rmX5_watchedBy : Room := { frames := 8, cells := 0, slots := 0, locals := 204 }
theorem miX5_watchedBy : miV yX5_watchedBy cX5_watchedBy 3 (some .long) 2 := ⟨q811, q46, q810, q17, by decide +kernel⟩
set_option maxHeartbeats 4000000 in
set_option maxRecDepth 100000 in
theorem mtX5_watchedBy (l : Launch) (D : va_G) (cy : Nat → ClassId) (z : zT) (ad : Nat → Nat) (kr : Nat) (o : tMo) (w : tA) (u2 : Int32) (r0 : Int64) (hf : fX5_watchedBy o w u2 = some r0) : pmet l yX5_watchedBy cX5_watchedBy 3 (some .long) rmX5_watchedBy D cy z ([moC ad o, arI cy kr 51 w]) [.ref (ad 0), .ref kr, .int u2] (some (.long r0)) := by
  refine pmet_of (by decide +kernel) (Nat.le_of_ble_eq_true rfl) (fun p e s m below meth c hx hb hr hml hown hts hlk hP hKK ls hl => ?_)
  have hS : va_S noF s.heap s.heap [] := va_S.rf
  have hA0 : ∀ q, noF q → zA z q := fun _ h => h.elim
  have hown : s.vm.findClass "HillSightModel" = some m.cls := hown
  have hl : lv_has ls 3 [(0, .ref (ad 0)), (1, .ref kr), (2, .int u2)] := hl
  unfold fX5_watchedBy at hf
  refine lv_aload_n hx hb dX5_watchedBy_0 rfl (lv_at hl 0 rfl) ?_
  refine lv_aload_n hx hb dX5_watchedBy_1 rfl (lv_at hl 1 rfl) ?_
  refine lv_aload_n hx hb dX5_watchedBy_2 rfl (lv_at hl 1 rfl) ?_
  refine lv_bipush (v := 37) hx hb dX5_watchedBy_3 (by decide) ?_
  refine lv_iload_n hx hb dX5_watchedBy_5 rfl (lv_at hl 2 rfl) ?_
  refine lv_iadd hx hb dX5_watchedBy_6 ?_
  obtain ⟨hg1, hf⟩ := gd_some hf
  refine va_iald hx hb hKK.1 hP 1 0 rfl rfl (inb_in hg1) dX5_watchedBy_7 ?_
  refine lv_aload_n hx hb dX5_watchedBy_8 rfl (lv_at hl 1 rfl) ?_
  refine lv_bipush (v := 42) hx hb dX5_watchedBy_9 (by decide) ?_
  refine lv_iload_n hx hb dX5_watchedBy_11 rfl (lv_at hl 2 rfl) ?_
  refine lv_iadd hx hb dX5_watchedBy_12 ?_
  obtain ⟨hg2, hf⟩ := gd_some hf
  refine va_iald hx hb hKK.1 hP 1 0 rfl rfl (inb_in hg2) dX5_watchedBy_13 ?_
  obtain ⟨r4, hc3, hf⟩ := bd_some hf
  refine pCallVL ⟨hx, hb, hml, hown, hts⟩ (mtX5_viewOf l D cy z ad kr o w (w ((37 : Int32) + u2).toNatClampNeg) (w ((42 : Int32) + u2).toNatClampNeg) r4 hc3) miX5_viewOf q812 ⟨Nat.le_of_ble_eq_true rfl, Nat.le_of_ble_eq_true rfl⟩ ⟨rfl, rfl⟩ hP hKK hS hA0 (va_recv hKK.1 hP (ci := 5) (q0 := 0) rfl rfl) rfl hl.1 rfl (Nat.le_of_ble_eq_true rfl) dX5_watchedBy_14 ⟨Nat.zero_le _, Nat.zero_le _⟩ ?_
  exact pretL hx hb hr hlk hf dX5_watchedBy_17

abbrev rmX5_watchedByAny : Room := { frames := 9, cells := 0, slots := 0, locals := 226 }
theorem miX5_watchedByAny : miV yX5_watchedByAny cX5_watchedByAny 5 (some .long) 1 := ⟨q807, q46, q806, q16, by decide +kernel⟩
set_option maxHeartbeats 4000000 in
set_option maxRecDepth 100000 in
theorem mtX5_watchedByAny (l : Launch) (D : va_G) (cy : Nat → ClassId) (z : zT) (ad : Nat → Nat) (kr : Nat) (o : tMo) (w : tA) (r0 : Int64) (hf : fX5_watchedByAny o w = some r0) : pmet l yX5_watchedByAny cX5_watchedByAny 5 (some .long) rmX5_watchedByAny D cy z ([moC ad o, arI cy kr 51 w]) [.ref (ad 0), .ref kr] (some (.long r0)) := by
  refine pmet_of (by decide +kernel) (Nat.le_of_ble_eq_true rfl) (fun p e s m below meth c hx hb hr hml hown hts hlk hP hKK ls hl => ?_)
  have hS : va_S noF s.heap s.heap [] := va_S.rf
  have hA0 : ∀ q, noF q → zA z q := fun _ h => h.elim
  have hown : s.vm.findClass "HillSightModel" = some m.cls := hown
  have hl : lv_has ls 5 [(0, .ref (ad 0)), (1, .ref kr)] := hl
  have w_5 : ∀ (k30 : Int64 → Option (Int64)) (hk30 : ∀ (v2_5 : Int64) (ls : Array Slot), k30 v2_5 = some r0 → lv_has ls 5 [(2, .long v2_5)] → W p l e rmX5_watchedByAny s m ([.ref (ad 0), .ref kr] : List Value).toArray below meth c s.heap [] 0 0 (MQ below (pQ (some (.long r0))) ([.ref (ad 0), .ref kr] : List Value).toArray s 0 0 noF) (F0 m 30 ls [])) (n : Nat) (v2_5 : Int64) (v4_5 : Int32) (ls : Array Slot), fX5_watchedByAny_5 o w k30 n v2_5 v4_5 = some r0 → lv_has ls 5 [(0, .ref (ad 0)), (1, .ref kr), (2, .long v2_5), (4, .int v4_5)] → W p l e rmX5_watchedByAny s m ([.ref (ad 0), .ref kr] : List Value).toArray below meth c s.heap [] 0 0 (MQ below (pQ (some (.long r0))) ([.ref (ad 0), .ref kr] : List Value).toArray s 0 0 noF) (F0 m 5 ls []) := by
    intro k30 hk30 n
    induction n with
    | zero =>
      intro v2_5 v4_5 ls hf hl
      cases (show (none : Option (Int64)) = some r0 from hf)
    | succ n ih =>
      intro v2_5 v4_5 ls hf hl
      rw [fX5_watchedByAny_5] at hf
      refine lv_iload hx hb dX5_watchedByAny_5 (lv_at hl 3 rfl) ?_
      refine lv_aload_n hx hb dX5_watchedByAny_7 rfl (lv_at hl 1 rfl) ?_
      refine lv_bipush (v := 36) hx hb dX5_watchedByAny_8 (by decide) ?_
      refine va_iald hx hb hKK.1 hP 1 0 rfl rfl (inb_in (by decide)) dX5_watchedByAny_10 ?_
      refine lv_icmp_ge (tgt := 30) hx hb dX5_watchedByAny_11 (by decide) (fun h => ?_) (fun h => ?_)
      · have hf := (if_pos h).symm.trans hf
        exact hk30 v2_5 ls hf (lv_sub hl [2] rfl)
      · have hf := (if_neg h).symm.trans hf
        refine lv_lload_n hx hb dX5_watchedByAny_14 rfl (lv_at hl 2 rfl) ?_
        refine lv_aload_n hx hb dX5_watchedByAny_15 rfl (lv_at hl 0 rfl) ?_
        refine lv_aload_n hx hb dX5_watchedByAny_16 rfl (lv_at hl 1 rfl) ?_
        refine lv_iload hx hb dX5_watchedByAny_17 (lv_at hl 3 rfl) ?_
        obtain ⟨r2, hc1, hf⟩ := bd_some hf
        refine pCallVL ⟨hx, hb, hml, hown, hts⟩ (mtX5_watchedBy l D cy z ad kr o w v4_5 r2 hc1) miX5_watchedBy q808 ⟨Nat.le_of_ble_eq_true rfl, Nat.le_of_ble_eq_true rfl⟩ ⟨rfl, rfl⟩ hP hKK hS hA0 (va_recv hKK.1 hP (ci := 5) (q0 := 0) rfl rfl) rfl hl.1 rfl (Nat.le_of_ble_eq_true rfl) dX5_watchedByAny_19 ⟨Nat.zero_le _, Nat.zero_le _⟩ ?_
        refine lv_lor hx hb dX5_watchedByAny_22 ?_
        refine nm_l hf (fun x3 hf => ?_)
        refine lv_lstore_n (lv' := [(2, .long x3), (0, .ref (ad 0)), (1, .ref kr), (4, .int v4_5)]) hx hb dX5_watchedByAny_23 rfl hl (by decide) rfl (fun ls hl => ?_)
        obtain ⟨x4, ex4, hf⟩ := nm_ex hf
        refine lv_iinc (v := x4) (lv' := [(4, .int x4), (2, .long x3), (0, .ref (ad 0)), (1, .ref kr)]) hx hb dX5_watchedByAny_24 hl (k := 3) rfl (Eq.trans rfl ex4) (by decide) rfl (fun ls hl => ?_)
        refine lv_goto (tgt := 5) hx hb dX5_watchedByAny_27 (by decide) ?_
        exact ih x3 x4 ls hf (lv_sub hl [2, 3, 1, 0] rfl)
  unfold fX5_watchedByAny at hf
  refine lv_lconst (v := 0) hx hb dX5_watchedByAny_0 (by decide) ?_
  refine lv_lstore_n (lv' := [(2, .long (0 : Int64)), (0, .ref (ad 0)), (1, .ref kr)]) hx hb dX5_watchedByAny_1 rfl hl (by decide) rfl (fun ls hl => ?_)
  refine lv_iconst (v := 0) hx hb dX5_watchedByAny_2 (by decide) ?_
  refine lv_istore (lv' := [(4, .int (0 : Int32)), (2, .long (0 : Int64)), (0, .ref (ad 0)), (1, .ref kr)]) hx hb dX5_watchedByAny_3 hl (by decide) rfl (fun ls hl => ?_)
  refine w_5 _ ?_ _ (0 : Int64) (0 : Int32) ls hf (lv_sub hl [2, 3, 1, 0] rfl)
  · intro y5 ls hf hl
    refine lv_lload_n hx hb dX5_watchedByAny_30 rfl (lv_at hl 0 rfl) ?_
    exact pretL hx hb hr hlk hf dX5_watchedByAny_31

abbrev rmX5_hidden : Room := { frames := 10, cells := 0, slots := 0, locals := 250 }
theorem miX5_hidden : miV yX5_hidden cX5_hidden 2 (some .int) 1 := ⟨q803, q46, q802, q15, by decide +kernel⟩
set_option maxHeartbeats 4000000 in
set_option maxRecDepth 100000 in
theorem mtX5_hidden (l : Launch) (D : va_G) (cy : Nat → ClassId) (z : zT) (ad : Nat → Nat) (kr : Nat) (o : tMo) (w : tA) (r0 : Int32) (hf : fX5_hidden o w = some r0) : pmet l yX5_hidden cX5_hidden 2 (some .int) rmX5_hidden D cy z ([moC ad o, arI cy kr 51 w]) [.ref (ad 0), .ref kr] (some (.int r0)) := by
  refine pmet_of (by decide +kernel) (Nat.le_of_ble_eq_true rfl) (fun p e s m below meth c hx hb hr hml hown hts hlk hP hKK ls hl => ?_)
  have hS : va_S noF s.heap s.heap [] := va_S.rf
  have hA0 : ∀ q, noF q → zA z q := fun _ h => h.elim
  have hown : s.vm.findClass "HillSightModel" = some m.cls := hown
  have hl : lv_has ls 2 [(0, .ref (ad 0)), (1, .ref kr)] := hl
  unfold fX5_hidden at hf
  refine lv_aload_n hx hb dX5_hidden_0 rfl (lv_at hl 0 rfl) ?_
  obtain ⟨r2, hc1, hf⟩ := bd_some hf
  have hP1 := hP.sub (ws' := [moC ad o]) [0] rfl
  refine pCallVI ⟨hx, hb, hml, hown, hts⟩ (mtX5_cells l D cy z ad o r2 hc1) miX5_cells q792 ⟨Nat.le_of_ble_eq_true rfl, Nat.le_of_ble_eq_true rfl⟩ ⟨rfl, rfl⟩ hP1 hKK hS hA0 (va_recv hKK.1 hP1 (ci := 5) (q0 := 0) rfl rfl) rfl hl.1 rfl (Nat.le_of_ble_eq_true rfl) dX5_hidden_1 ⟨Nat.zero_le _, Nat.zero_le _⟩ ?_
  refine lv_aload_n hx hb dX5_hidden_4 rfl (lv_at hl 0 rfl) ?_
  refine lv_aload_n hx hb dX5_hidden_5 rfl (lv_at hl 1 rfl) ?_
  obtain ⟨r4, hc3, hf⟩ := bd_some hf
  refine pCallVL ⟨hx, hb, hml, hown, hts⟩ (mtX5_watchedByAny l D cy z ad kr o w r4 hc3) miX5_watchedByAny q804 ⟨Nat.le_of_ble_eq_true rfl, Nat.le_of_ble_eq_true rfl⟩ ⟨rfl, rfl⟩ hP hKK hS hA0 (va_recv hKK.1 hP (ci := 5) (q0 := 0) rfl rfl) rfl hl.1 rfl (Nat.le_of_ble_eq_true rfl) dX5_hidden_6 ⟨Nat.zero_le _, Nat.zero_le _⟩ ?_
  obtain ⟨r6, hc5, hf⟩ := bd_some hf
  have hP1 := hP.sub (ws' := []) [] rfl
  refine pCallSI ⟨hx, hb, hml, hown, hts⟩ (mtX5_ones l D cy z r4 r6 hc5) miX5_ones q847 ⟨Nat.le_of_ble_eq_true rfl, Nat.le_of_ble_eq_true rfl⟩ ⟨rfl, rfl⟩ hP1 hKK hS hA0 rfl hl.1 rfl (Nat.le_of_ble_eq_true rfl) dX5_hidden_9 ⟨Nat.zero_le _, Nat.zero_le _⟩ ?_
  refine lv_isub hx hb dX5_hidden_12 ?_
  exact pretI hx hb hr hlk hf dX5_hidden_13

abbrev rmX5_draw : Room := { frames := 0, cells := 0, slots := 0, locals := 0 }
theorem miX5_draw : miV yX5_draw cX5_draw 4 (some .boolean) 2 := ⟨q860, q46, q859, q26, by decide +kernel⟩
set_option maxHeartbeats 4000000 in
set_option maxRecDepth 100000 in
theorem mtX5_draw (l : Launch) (D : va_G) (cy : Nat → ClassId) (z : zT) (ad : Nat → Nat) (o : tMo) (ho : tA) (u1 : Int32) (u2 : Int32) (r0 : Int32) (ho0 : tA) (hf : fX5_draw o ho u1 u2 = some (r0, ho0)) : mmet l yX5_draw cX5_draw 4 (some .boolean) rmX5_draw D cy z ([moC ad o, arI cy (ad 12) 36 ho]) ([moC ad o, arI cy (ad 12) 36 ho0]) [.ref (ad 0), .int u1, .int u2] (some (.int r0)) := by
  refine mmet_of (by decide +kernel) (Nat.le_of_ble_eq_true rfl) (fun p e s m below meth c hx hb hr hml hown hts hlk hP hD hS hA0 hKK ls hl => ?_)
  have hown : s.vm.findClass "HillSightModel" = some m.cls := hown
  have hl : lv_has ls 4 [(0, .ref (ad 0)), (1, .int u1), (2, .int u2)] := hl
  unfold fX5_draw at hf
  refine lv_aload_n hx hb dX5_draw_0 rfl (lv_at hl 0 rfl) ?_
  refine va_get (D := D) (ci := 5) (v := .ref (ad 12)) (C := RX5) (T := TX5) (N := 24) hx hb hts inX5 hown hKK.1 hP 0 rfl rfl 23 (by decide) (hts _ q696) (fun _ h => h) rfl dX5_draw_1 ?_
  refine lv_iload_n hx hb dX5_draw_4 rfl (lv_at hl 1 rfl) ?_
  obtain ⟨hg1, hf⟩ := gd_some hf
  refine va_iald hx hb hKK.1 hP 1 0 rfl rfl (inb_in hg1) dX5_draw_5 ?_
  refine lv_bipush (v := -9) hx hb dX5_draw_6 (by decide) ?_
  refine lv_icmp_eq (tgt := 37) hx hb dX5_draw_8 (by decide) (fun h => ?_) (fun h => ?_)
  · have hf := (if_pos h).symm.trans hf
    refine lv_iconst (v := 0) hx hb dX5_draw_37 (by decide) ?_
    cases hf
    exact mretZ hx hb hr hlk (by decide) hP hS dX5_draw_38
  · have hf := (if_neg h).symm.trans hf
    refine lv_aload_n hx hb dX5_draw_11 rfl (lv_at hl 0 rfl) ?_
    refine va_get (D := D) (ci := 5) (v := .ref (ad 12)) (C := RX5) (T := TX5) (N := 24) hx hb hts inX5 hown hKK.1 hP 0 rfl rfl 23 (by decide) (hts _ q696) (fun _ h => h) rfl dX5_draw_12 ?_
    refine lv_iload_n hx hb dX5_draw_15 rfl (lv_at hl 2 rfl) ?_
    obtain ⟨hg2, hf⟩ := gd_some hf
    refine va_iald hx hb hKK.1 hP 1 0 rfl rfl (inb_in hg2) dX5_draw_16 ?_
    refine lv_bipush (v := -9) hx hb dX5_draw_17 (by decide) ?_
    refine lv_icmp_eq (tgt := 37) hx hb dX5_draw_19 (by decide) (fun h => ?_) (fun h => ?_)
    · have hf := (if_pos h).symm.trans hf
      refine lv_iconst (v := 0) hx hb dX5_draw_37 (by decide) ?_
      cases hf
      exact mretZ hx hb hr hlk (by decide) hP hS dX5_draw_38
    · have hf := (if_neg h).symm.trans hf
      refine lv_aload_n hx hb dX5_draw_22 rfl (lv_at hl 0 rfl) ?_
      refine va_get (D := D) (ci := 5) (v := .ref (ad 12)) (C := RX5) (T := TX5) (N := 24) hx hb hts inX5 hown hKK.1 hP 0 rfl rfl 23 (by decide) (hts _ q696) (fun _ h => h) rfl dX5_draw_23 ?_
      refine lv_iload_n hx hb dX5_draw_26 rfl (lv_at hl 1 rfl) ?_
      obtain ⟨hg3, hf⟩ := gd_some hf
      refine va_iald hx hb hKK.1 hP 1 0 rfl rfl (inb_in hg3) dX5_draw_27 ?_
      refine lv_aload_n hx hb dX5_draw_28 rfl (lv_at hl 0 rfl) ?_
      refine va_get (D := D) (ci := 5) (v := .ref (ad 12)) (C := RX5) (T := TX5) (N := 24) hx hb hts inX5 hown hKK.1 hP 0 rfl rfl 23 (by decide) (hts _ q696) (fun _ h => h) rfl dX5_draw_29 ?_
      refine lv_iload_n hx hb dX5_draw_32 rfl (lv_at hl 2 rfl) ?_
      obtain ⟨hg4, hf⟩ := gd_some hf
      refine va_iald hx hb hKK.1 hP 1 0 rfl rfl (inb_in hg4) dX5_draw_33 ?_
      refine lv_icmp_ne (tgt := 39) hx hb dX5_draw_34 (by decide) (fun h => ?_) (fun h => ?_)
      · have hf := (if_neg h).symm.trans hf
        refine lv_aload_n hx hb dX5_draw_39 rfl (lv_at hl 0 rfl) ?_
        refine va_get (D := D) (ci := 5) (v := .ref (ad 12)) (C := RX5) (T := TX5) (N := 24) hx hb hts inX5 hown hKK.1 hP 0 rfl rfl 23 (by decide) (hts _ q696) (fun _ h => h) rfl dX5_draw_40 ?_
        refine lv_iload_n hx hb dX5_draw_43 rfl (lv_at hl 1 rfl) ?_
        obtain ⟨hg5, hf⟩ := gd_some hf
        refine va_iald hx hb hKK.1 hP 1 0 rfl rfl (inb_in hg5) dX5_draw_44 ?_
        refine lv_aload_n hx hb dX5_draw_45 rfl (lv_at hl 0 rfl) ?_
        refine va_get (D := D) (ci := 5) (v := .ref (ad 12)) (C := RX5) (T := TX5) (N := 24) hx hb hts inX5 hown hKK.1 hP 0 rfl rfl 23 (by decide) (hts _ q696) (fun _ h => h) rfl dX5_draw_46 ?_
        refine lv_iload_n hx hb dX5_draw_49 rfl (lv_at hl 2 rfl) ?_
        obtain ⟨hg6, hf⟩ := gd_some hf
        refine va_iald hx hb hKK.1 hP 1 0 rfl rfl (inb_in hg6) dX5_draw_50 ?_
        refine lv_icmp_ge (tgt := 63) hx hb dX5_draw_51 (by decide) (fun h => ?_) (fun h => ?_)
        · have hf := (if_pos h).symm.trans hf
          refine lv_aload_n hx hb dX5_draw_63 rfl (lv_at hl 0 rfl) ?_
          refine va_get (D := D) (ci := 5) (v := .ref (ad 12)) (C := RX5) (T := TX5) (N := 24) hx hb hts inX5 hown hKK.1 hP 0 rfl rfl 23 (by decide) (hts _ q696) (fun _ h => h) rfl dX5_draw_64 ?_
          refine lv_iload_n hx hb dX5_draw_67 rfl (lv_at hl 2 rfl) ?_
          obtain ⟨hg7, hf⟩ := gd_some hf
          refine va_iald hx hb hKK.1 hP 1 0 rfl rfl (inb_in hg7) dX5_draw_68 ?_
          refine nm_i hf (fun x8 hf => ?_)
          refine lv_istore_n (lv' := [(3, .int x8), (0, .ref (ad 0)), (1, .int u1), (2, .int u2)]) hx hb dX5_draw_69 rfl hl (by decide) rfl (fun ls hl => ?_)
          refine lv_aload_n hx hb dX5_draw_70 rfl (lv_at hl 1 rfl) ?_
          refine va_get (D := D) (ci := 5) (v := .ref (ad 12)) (C := RX5) (T := TX5) (N := 24) hx hb hts inX5 hown hKK.1 hP 0 rfl rfl 23 (by decide) (hts _ q696) (fun _ h => h) rfl dX5_draw_71 ?_
          refine lv_iload_n hx hb dX5_draw_74 rfl (lv_at hl 2 rfl) ?_
          refine lv_iload_n hx hb dX5_draw_75 rfl (lv_at hl 0 rfl) ?_
          obtain ⟨hg9, hf⟩ := gd_some hf
          refine va_iast hx hb hKK.1 hP hD hS 1 0 rfl rfl (inb_in hg9) dX5_draw_76 (fun H locs hP hD hS => ?_)
          have hP : va_P D vwCl ([moC ad o, arI cy (ad 12) 36 (upd ho u1.toNatClampNeg x8)]) H := hP
          have hD : va_D (adr ([moC ad o, arI cy (ad 12) 36 ho])) ([moC ad o, arI cy (ad 12) 36 (upd ho u1.toNatClampNeg x8)]) := hD
          refine lv_aload_n hx hb dX5_draw_77 rfl (lv_at hl 1 rfl) ?_
          refine va_get (D := D) (ci := 5) (v := .ref (ad 12)) (C := RX5) (T := TX5) (N := 24) hx hb hts inX5 hown hKK.1 hP 0 rfl rfl 23 (by decide) (hts _ q696) (fun _ h => h) rfl dX5_draw_78 ?_
          refine lv_iload_n hx hb dX5_draw_81 rfl (lv_at hl 3 rfl) ?_
          refine lv_iload_n hx hb dX5_draw_82 rfl (lv_at hl 0 rfl) ?_
          obtain ⟨hg10, hf⟩ := gd_some hf
          refine va_iast hx hb hKK.1 hP hD hS 1 0 rfl rfl (inb_in hg10) dX5_draw_83 (fun H locs hP hD hS => ?_)
          have hP : va_P D vwCl ([moC ad o, arI cy (ad 12) 36 (upd (upd ho u1.toNatClampNeg x8) u2.toNatClampNeg x8)]) H := hP
          have hD : va_D (adr ([moC ad o, arI cy (ad 12) 36 ho])) ([moC ad o, arI cy (ad 12) 36 (upd (upd ho u1.toNatClampNeg x8) u2.toNatClampNeg x8)]) := hD
          refine lv_iconst (v := 1) hx hb dX5_draw_84 (by decide) ?_
          cases hf
          exact mretZ hx hb hr hlk (by decide) hP hS dX5_draw_85
        · have hf := (if_neg h).symm.trans hf
          refine lv_aload_n hx hb dX5_draw_54 rfl (lv_at hl 0 rfl) ?_
          refine va_get (D := D) (ci := 5) (v := .ref (ad 12)) (C := RX5) (T := TX5) (N := 24) hx hb hts inX5 hown hKK.1 hP 0 rfl rfl 23 (by decide) (hts _ q696) (fun _ h => h) rfl dX5_draw_55 ?_
          refine lv_iload_n hx hb dX5_draw_58 rfl (lv_at hl 1 rfl) ?_
          obtain ⟨hg11, hf⟩ := gd_some hf
          refine va_iald hx hb hKK.1 hP 1 0 rfl rfl (inb_in hg11) dX5_draw_59 ?_
          refine lv_goto (tgt := 69) hx hb dX5_draw_60 (by decide) ?_
          refine nm_i hf (fun x12 hf => ?_)
          refine lv_istore_n (lv' := [(3, .int x12), (0, .ref (ad 0)), (1, .int u1), (2, .int u2)]) hx hb dX5_draw_69 rfl hl (by decide) rfl (fun ls hl => ?_)
          refine lv_aload_n hx hb dX5_draw_70 rfl (lv_at hl 1 rfl) ?_
          refine va_get (D := D) (ci := 5) (v := .ref (ad 12)) (C := RX5) (T := TX5) (N := 24) hx hb hts inX5 hown hKK.1 hP 0 rfl rfl 23 (by decide) (hts _ q696) (fun _ h => h) rfl dX5_draw_71 ?_
          refine lv_iload_n hx hb dX5_draw_74 rfl (lv_at hl 2 rfl) ?_
          refine lv_iload_n hx hb dX5_draw_75 rfl (lv_at hl 0 rfl) ?_
          obtain ⟨hg13, hf⟩ := gd_some hf
          refine va_iast hx hb hKK.1 hP hD hS 1 0 rfl rfl (inb_in hg13) dX5_draw_76 (fun H locs hP hD hS => ?_)
          have hP : va_P D vwCl ([moC ad o, arI cy (ad 12) 36 (upd ho u1.toNatClampNeg x12)]) H := hP
          have hD : va_D (adr ([moC ad o, arI cy (ad 12) 36 ho])) ([moC ad o, arI cy (ad 12) 36 (upd ho u1.toNatClampNeg x12)]) := hD
          refine lv_aload_n hx hb dX5_draw_77 rfl (lv_at hl 1 rfl) ?_
          refine va_get (D := D) (ci := 5) (v := .ref (ad 12)) (C := RX5) (T := TX5) (N := 24) hx hb hts inX5 hown hKK.1 hP 0 rfl rfl 23 (by decide) (hts _ q696) (fun _ h => h) rfl dX5_draw_78 ?_
          refine lv_iload_n hx hb dX5_draw_81 rfl (lv_at hl 3 rfl) ?_
          refine lv_iload_n hx hb dX5_draw_82 rfl (lv_at hl 0 rfl) ?_
          obtain ⟨hg14, hf⟩ := gd_some hf
          refine va_iast hx hb hKK.1 hP hD hS 1 0 rfl rfl (inb_in hg14) dX5_draw_83 (fun H locs hP hD hS => ?_)
          have hP : va_P D vwCl ([moC ad o, arI cy (ad 12) 36 (upd (upd ho u1.toNatClampNeg x12) u2.toNatClampNeg x12)]) H := hP
          have hD : va_D (adr ([moC ad o, arI cy (ad 12) 36 ho])) ([moC ad o, arI cy (ad 12) 36 (upd (upd ho u1.toNatClampNeg x12) u2.toNatClampNeg x12)]) := hD
          refine lv_iconst (v := 1) hx hb dX5_draw_84 (by decide) ?_
          cases hf
          exact mretZ hx hb hr hlk (by decide) hP hS dX5_draw_85
      · have hf := (if_pos h).symm.trans hf
        refine lv_iconst (v := 0) hx hb dX5_draw_37 (by decide) ?_
        cases hf
        exact mretZ hx hb hr hlk (by decide) hP hS dX5_draw_38

abbrev rmX5_layHollows : Room := { frames := 10, cells := 0, slots := 0, locals := 250 }
theorem miX5_layHollows : miV yX5_layHollows cX5_layHollows 7 (some .int) 1 := ⟨q856, q46, q855, q25, by decide +kernel⟩
set_option maxHeartbeats 4000000 in
set_option maxRecDepth 100000 in
theorem mtX5_layHollows (l : Launch) (D : va_G) (cy : Nat → ClassId) (z : zT) (ad : Nat → Nat) (kr : Nat) (o : tMo) (w : tA) (ho : tA) (r0 : Int32) (ho0 : tA) (hf : fX5_layHollows o w ho = some (r0, ho0)) : mmet l yX5_layHollows cX5_layHollows 7 (some .int) rmX5_layHollows D cy z ([moC ad o, arI cy kr 51 w, arI cy (ad 12) 36 ho]) ([moC ad o, arI cy kr 51 w, arI cy (ad 12) 36 ho0]) [.ref (ad 0), .ref kr] (some (.int r0)) := by
  refine mmet_of (by decide +kernel) (Nat.le_of_ble_eq_true rfl) (fun p e s m below meth c hx hb hr hml hown hts hlk hP hD hS hA0 hKK ls hl => ?_)
  have hown : s.vm.findClass "HillSightModel" = some m.cls := hown
  have hl : lv_has ls 7 [(0, .ref (ad 0)), (1, .ref kr)] := hl
  have w_9 : ∀ (g2_9 : Int64) (k47 : tA → Option (Int32 × tA)) (hk47 : ∀ (ho_9 : tA) (H : Heap) (locs : List Loc) (ls : Array Slot), k47 ho_9 = some (r0, ho0) → va_P D vwCl ([moC ad o, arI cy kr 51 w, arI cy (ad 12) 36 ho_9]) H → va_D (adr ([moC ad o, arI cy kr 51 w, arI cy (ad 12) 36 ho])) ([moC ad o, arI cy kr 51 w, arI cy (ad 12) 36 ho_9]) → va_S (adr ([moC ad o, arI cy kr 51 w, arI cy (ad 12) 36 ho])) s.heap H locs → lv_has ls 7 [(0, .ref (ad 0))] → W p l e rmX5_layHollows s m ([.ref (ad 0), .ref kr] : List Value).toArray below meth c H locs 0 0 (MQ below (mQ D ([moC ad o, arI cy kr 51 w, arI cy (ad 12) 36 ho]) ([moC ad o, arI cy kr 51 w, arI cy (ad 12) 36 ho0]) (some (.int r0))) ([.ref (ad 0), .ref kr] : List Value).toArray s 0 0 (adr ([moC ad o, arI cy kr 51 w, arI cy (ad 12) 36 ho]))) (F0 m 47 ls [])) (n : Nat) (v4_9 : Int32) (ho_9 : tA) (H : Heap) (locs : List Loc) (ls : Array Slot), fX5_layHollows_9 o w g2_9 k47 n v4_9 ho_9 = some (r0, ho0) → va_P D vwCl ([moC ad o, arI cy kr 51 w, arI cy (ad 12) 36 ho_9]) H → va_D (adr ([moC ad o, arI cy kr 51 w, arI cy (ad 12) 36 ho])) ([moC ad o, arI cy kr 51 w, arI cy (ad 12) 36 ho_9]) → va_S (adr ([moC ad o, arI cy kr 51 w, arI cy (ad 12) 36 ho])) s.heap H locs → lv_has ls 7 [(0, .ref (ad 0)), (2, .long g2_9), (4, .int v4_9)] → W p l e rmX5_layHollows s m ([.ref (ad 0), .ref kr] : List Value).toArray below meth c H locs 0 0 (MQ below (mQ D ([moC ad o, arI cy kr 51 w, arI cy (ad 12) 36 ho]) ([moC ad o, arI cy kr 51 w, arI cy (ad 12) 36 ho0]) (some (.int r0))) ([.ref (ad 0), .ref kr] : List Value).toArray s 0 0 (adr ([moC ad o, arI cy kr 51 w, arI cy (ad 12) 36 ho]))) (F0 m 9 ls []) := by
    intro g2_9 k47 hk47 n
    induction n with
    | zero =>
      intro v4_9 ho_9 H locs ls hf hP hD hS hl
      cases (show (none : Option (Int32 × tA)) = some (r0, ho0) from hf)
    | succ n ih =>
      intro v4_9 ho_9 H locs ls hf hP hD hS hl
      rw [fX5_layHollows_9] at hf
      refine lv_iload hx hb dX5_layHollows_9 (lv_at hl 2 rfl) ?_
      refine lv_aload_n hx hb dX5_layHollows_11 rfl (lv_at hl 0 rfl) ?_
      obtain ⟨r4, hc3, hf⟩ := bd_some hf
      have hP1 := hP.sub (ws' := [moC ad o]) [0] rfl
      refine pCallVI ⟨hx, hb, hml, hown, hts⟩ (mtX5_cells l D cy z ad o r4 hc3) miX5_cells q792 ⟨Nat.le_of_ble_eq_true rfl, Nat.le_of_ble_eq_true rfl⟩ ⟨rfl, rfl⟩ hP1 hKK hS hA0 (va_recv hKK.1 hP1 (ci := 5) (q0 := 0) rfl rfl) rfl hl.1 rfl (Nat.le_of_ble_eq_true rfl) dX5_layHollows_12 ⟨Nat.zero_le _, Nat.zero_le _⟩ ?_
      refine lv_icmp_ge (tgt := 47) hx hb dX5_layHollows_15 (by decide) (fun h => ?_) (fun h => ?_)
      · have hf := (if_pos h).symm.trans hf
        exact hk47 ho_9 _ _ ls hf hP hD hS (lv_sub hl [0] rfl)
      · have hf := (if_neg h).symm.trans hf
        refine lv_aload_n hx hb dX5_layHollows_18 rfl (lv_at hl 0 rfl) ?_
        refine va_get (D := D) (ci := 5) (v := .ref (ad 12)) (C := RX5) (T := TX5) (N := 24) hx hb hts inX5 hown hKK.1 hP 0 rfl rfl 23 (by decide) (hts _ q696) (fun _ h => h) rfl dX5_layHollows_19 ?_
        refine lv_iload hx hb dX5_layHollows_22 (lv_at hl 2 rfl) ?_
        refine lv_lload_n hx hb dX5_layHollows_24 rfl (lv_at hl 1 rfl) ?_
        refine lv_iload hx hb dX5_layHollows_25 (lv_at hl 2 rfl) ?_
        obtain ⟨r6, hc5, hf⟩ := bd_some hf
        have hP1 := hP.sub (ws' := []) [] rfl
        refine pCallSI ⟨hx, hb, hml, hown, hts⟩ (mtX5_has l D cy z g2_9 v4_9 r6 hc5) miX5_has q850 ⟨Nat.le_of_ble_eq_true rfl, Nat.le_of_ble_eq_true rfl⟩ ⟨rfl, rfl⟩ hP1 hKK hS hA0 rfl hl.1 rfl (Nat.le_of_ble_eq_true rfl) dX5_layHollows_27 ⟨Nat.zero_le _, Nat.zero_le _⟩ ?_
        refine lv_if_eq (tgt := 38) hx hb dX5_layHollows_30 (by decide) (fun h => ?_) (fun h => ?_)
        · have hf := (if_pos h).symm.trans hf
          refine lv_iload hx hb dX5_layHollows_38 (lv_at hl 2 rfl) ?_
          obtain ⟨hg7, hf⟩ := gd_some hf
          refine va_iast hx hb hKK.1 hP hD hS 2 0 rfl rfl (inb_in hg7) dX5_layHollows_40 (fun H locs hP hD hS => ?_)
          have hP : va_P D vwCl ([moC ad o, arI cy kr 51 w, arI cy (ad 12) 36 (upd ho_9 v4_9.toNatClampNeg v4_9)]) H := hP
          have hD : va_D (adr ([moC ad o, arI cy kr 51 w, arI cy (ad 12) 36 ho])) ([moC ad o, arI cy kr 51 w, arI cy (ad 12) 36 (upd ho_9 v4_9.toNatClampNeg v4_9)]) := hD
          obtain ⟨x8, ex8, hf⟩ := nm_ex hf
          refine lv_iinc (v := x8) (lv' := [(4, .int x8), (0, .ref (ad 0)), (2, .long g2_9)]) hx hb dX5_layHollows_41 hl (k := 2) rfl (Eq.trans rfl ex8) (by decide) rfl (fun ls hl => ?_)
          refine lv_goto (tgt := 9) hx hb dX5_layHollows_44 (by decide) ?_
          exact ih x8 (upd ho_9 v4_9.toNatClampNeg v4_9) _ _ ls hf hP hD hS (lv_sub hl [1, 2, 0] rfl)
        · have hf := (if_neg h).symm.trans hf
          refine lv_bipush (v := -9) hx hb dX5_layHollows_33 (by decide) ?_
          refine lv_goto (tgt := 40) hx hb dX5_layHollows_35 (by decide) ?_
          obtain ⟨hg9, hf⟩ := gd_some hf
          refine va_iast hx hb hKK.1 hP hD hS 2 0 rfl rfl (inb_in hg9) dX5_layHollows_40 (fun H locs hP hD hS => ?_)
          have hP : va_P D vwCl ([moC ad o, arI cy kr 51 w, arI cy (ad 12) 36 (upd ho_9 v4_9.toNatClampNeg (-9 : Int32))]) H := hP
          have hD : va_D (adr ([moC ad o, arI cy kr 51 w, arI cy (ad 12) 36 ho])) ([moC ad o, arI cy kr 51 w, arI cy (ad 12) 36 (upd ho_9 v4_9.toNatClampNeg (-9 : Int32))]) := hD
          obtain ⟨x10, ex10, hf⟩ := nm_ex hf
          refine lv_iinc (v := x10) (lv' := [(4, .int x10), (0, .ref (ad 0)), (2, .long g2_9)]) hx hb dX5_layHollows_41 hl (k := 2) rfl (Eq.trans rfl ex10) (by decide) rfl (fun ls hl => ?_)
          refine lv_goto (tgt := 9) hx hb dX5_layHollows_44 (by decide) ?_
          exact ih x10 (upd ho_9 v4_9.toNatClampNeg (-9 : Int32)) _ _ ls hf hP hD hS (lv_sub hl [1, 2, 0] rfl)
  have w_61 : ∀ (k169 : Int32 → tA → Option (Int32 × tA)) (hk169 : ∀ (v4_61 : Int32) (ho_61 : tA) (H : Heap) (locs : List Loc) (ls : Array Slot), k169 v4_61 ho_61 = some (r0, ho0) → va_P D vwCl ([moC ad o, arI cy kr 51 w, arI cy (ad 12) 36 ho_61]) H → va_D (adr ([moC ad o, arI cy kr 51 w, arI cy (ad 12) 36 ho])) ([moC ad o, arI cy kr 51 w, arI cy (ad 12) 36 ho_61]) → va_S (adr ([moC ad o, arI cy kr 51 w, arI cy (ad 12) 36 ho])) s.heap H locs → lv_has ls 7 [(0, .ref (ad 0)), (4, .int v4_61)] → W p l e rmX5_layHollows s m ([.ref (ad 0), .ref kr] : List Value).toArray below meth c H locs 0 0 (MQ below (mQ D ([moC ad o, arI cy kr 51 w, arI cy (ad 12) 36 ho]) ([moC ad o, arI cy kr 51 w, arI cy (ad 12) 36 ho0]) (some (.int r0))) ([.ref (ad 0), .ref kr] : List Value).toArray s 0 0 (adr ([moC ad o, arI cy kr 51 w, arI cy (ad 12) 36 ho]))) (F0 m 169 ls [])) (n : Nat) (v4_61 : Int32) (v5_61 : Int32) (ho_61 : tA) (H : Heap) (locs : List Loc) (ls : Array Slot), fX5_layHollows_61 o w k169 n v4_61 v5_61 ho_61 = some (r0, ho0) → va_P D vwCl ([moC ad o, arI cy kr 51 w, arI cy (ad 12) 36 ho_61]) H → va_D (adr ([moC ad o, arI cy kr 51 w, arI cy (ad 12) 36 ho])) ([moC ad o, arI cy kr 51 w, arI cy (ad 12) 36 ho_61]) → va_S (adr ([moC ad o, arI cy kr 51 w, arI cy (ad 12) 36 ho])) s.heap H locs → lv_has ls 7 [(0, .ref (ad 0)), (4, .int v4_61), (5, .int v5_61)] → W p l e rmX5_layHollows s m ([.ref (ad 0), .ref kr] : List Value).toArray below meth c H locs 0 0 (MQ below (mQ D ([moC ad o, arI cy kr 51 w, arI cy (ad 12) 36 ho]) ([moC ad o, arI cy kr 51 w, arI cy (ad 12) 36 ho0]) (some (.int r0))) ([.ref (ad 0), .ref kr] : List Value).toArray s 0 0 (adr ([moC ad o, arI cy kr 51 w, arI cy (ad 12) 36 ho]))) (F0 m 61 ls []) := by
    intro k169 hk169 n
    induction n with
    | zero =>
      intro v4_61 v5_61 ho_61 H locs ls hf hP hD hS hl
      cases (show (none : Option (Int32 × tA)) = some (r0, ho0) from hf)
    | succ n ih =>
      intro v4_61 v5_61 ho_61 H locs ls hf hP hD hS hl
      rw [fX5_layHollows_61] at hf
      refine lv_iload hx hb dX5_layHollows_61 (lv_at hl 2 rfl) ?_
      refine lv_aload_n hx hb dX5_layHollows_63 rfl (lv_at hl 0 rfl) ?_
      obtain ⟨r13, hc12, hf⟩ := bd_some hf
      have hP1 := hP.sub (ws' := [moC ad o]) [0] rfl
      refine pCallVI ⟨hx, hb, hml, hown, hts⟩ (mtX5_cells l D cy z ad o r13 hc12) miX5_cells q792 ⟨Nat.le_of_ble_eq_true rfl, Nat.le_of_ble_eq_true rfl⟩ ⟨rfl, rfl⟩ hP1 hKK hS hA0 (va_recv hKK.1 hP1 (ci := 5) (q0 := 0) rfl rfl) rfl hl.1 rfl (Nat.le_of_ble_eq_true rfl) dX5_layHollows_64 ⟨Nat.zero_le _, Nat.zero_le _⟩ ?_
      refine lv_icmp_ge (tgt := 169) hx hb dX5_layHollows_67 (by decide) (fun h => ?_) (fun h => ?_)
      · have hf := (if_pos h).symm.trans hf
        exact hk169 v4_61 ho_61 _ _ ls hf hP hD hS (lv_sub hl [0, 1] rfl)
      · have hf := (if_neg h).symm.trans hf
        refine lv_aload_n hx hb dX5_layHollows_70 rfl (lv_at hl 0 rfl) ?_
        refine lv_iload hx hb dX5_layHollows_71 (lv_at hl 2 rfl) ?_
        refine lv_iload hx hb dX5_layHollows_73 (lv_at hl 2 rfl) ?_
        refine lv_aload_n hx hb dX5_layHollows_75 rfl (lv_at hl 0 rfl) ?_
        refine va_get (D := D) (ci := 5) (v := .int o.2.1) (C := RX5) (T := TX5) (N := 24) hx hb hts inX5 hown hKK.1 hP 0 rfl rfl 2 (by decide) (hts _ q675) (fun _ h => h) rfl dX5_layHollows_76 ?_
        obtain ⟨hg14, hf⟩ := gd_some hf
        refine lv_irem hx hb dX5_layHollows_79 (nz_ne hg14) ?_
        refine lv_iconst (v := 1) hx hb dX5_layHollows_80 (by decide) ?_
        refine lv_iadd hx hb dX5_layHollows_81 ?_
        refine lv_aload_n hx hb dX5_layHollows_82 rfl (lv_at hl 0 rfl) ?_
        refine va_get (D := D) (ci := 5) (v := .int o.2.1) (C := RX5) (T := TX5) (N := 24) hx hb hts inX5 hown hKK.1 hP 0 rfl rfl 2 (by decide) (hts _ q675) (fun _ h => h) rfl dX5_layHollows_83 ?_
        refine lv_icmp_ge (tgt := 96) hx hb dX5_layHollows_86 (by decide) (fun h => ?_) (fun h => ?_)
        · have hf := (if_pos h).symm.trans hf
          refine lv_iload hx hb dX5_layHollows_96 (lv_at hl 2 rfl) ?_
          obtain ⟨y16, hc15, hf⟩ := bd_some hf
          have hP1 := hP.sub (ws' := [moC ad o, arI cy (ad 12) 36 ho_61]) [0, 2] rfl
          have hD1 := hD.sub (ws' := [moC ad o, arI cy (ad 12) 36 ho_61]) [0, 2] (by decide) rfl
          refine mCallVI ⟨hx, hb, hml, hown, hts⟩ (mtX5_draw l D cy z ad o ho_61 v5_61 v5_61 y16.1 y16.2 hc15) miX5_draw q857 ⟨Nat.le_of_ble_eq_true rfl, Nat.le_of_ble_eq_true rfl⟩ ⟨rfl, rfl⟩ hP1 hD1 hKK hA0 (va_recv hKK.1 hP1 (ci := 5) (q0 := 0) rfl rfl) rfl hl.1 rfl (Nat.le_of_ble_eq_true rfl) dX5_layHollows_98 ⟨Nat.zero_le _, Nat.zero_le _⟩ hS hP hD [0, 2] rfl rfl (ws' := [moC ad o, arI cy kr 51 w, arI cy (ad 12) 36 y16.2]) rfl (fun H locs hP hD hS => ?_)
          refine lv_if_ne (tgt := 109) hx hb dX5_layHollows_101 (by decide) (fun h => ?_) (fun h => ?_)
          · have hf := (if_neg h).symm.trans hf
            refine lv_iconst (v := 1) hx hb dX5_layHollows_109 (by decide) ?_
            refine lv_goto (tgt := 114) hx hb dX5_layHollows_110 (by decide) ?_
            refine lv_istore (lv' := [(4, .int (1 : Int32)), (0, .ref (ad 0)), (5, .int v5_61)]) hx hb dX5_layHollows_114 hl (by decide) rfl (fun ls hl => ?_)
            refine lv_aload_n hx hb dX5_layHollows_116 rfl (lv_at hl 1 rfl) ?_
            refine lv_iload hx hb dX5_layHollows_117 (lv_at hl 2 rfl) ?_
            refine lv_iload hx hb dX5_layHollows_119 (lv_at hl 2 rfl) ?_
            refine lv_aload_n hx hb dX5_layHollows_121 rfl (lv_at hl 1 rfl) ?_
            refine va_get (D := D) (ci := 5) (v := .int o.2.1) (C := RX5) (T := TX5) (N := 24) hx hb hts inX5 hown hKK.1 hP 0 rfl rfl 2 (by decide) (hts _ q675) (fun _ h => h) rfl dX5_layHollows_122 ?_
            refine lv_iadd hx hb dX5_layHollows_125 ?_
            refine lv_aload_n hx hb dX5_layHollows_126 rfl (lv_at hl 1 rfl) ?_
            obtain ⟨r18, hc17, hf⟩ := bd_some hf
            have hP1 := hP.sub (ws' := [moC ad o]) [0] rfl
            refine pCallVI ⟨hx, hb, hml, hown, hts⟩ (mtX5_cells l D cy z ad o r18 hc17) miX5_cells q792 ⟨Nat.le_of_ble_eq_true rfl, Nat.le_of_ble_eq_true rfl⟩ ⟨rfl, rfl⟩ hP1 hKK hS hA0 (va_recv hKK.1 hP1 (ci := 5) (q0 := 0) rfl rfl) rfl hl.1 rfl (Nat.le_of_ble_eq_true rfl) dX5_layHollows_127 ⟨Nat.zero_le _, Nat.zero_le _⟩ ?_
            refine lv_icmp_ge (tgt := 143) hx hb dX5_layHollows_130 (by decide) (fun h => ?_) (fun h => ?_)
            · have hf := (if_pos h).symm.trans hf
              refine lv_iload hx hb dX5_layHollows_143 (lv_at hl 2 rfl) ?_
              obtain ⟨y20, hc19, hf⟩ := bd_some hf
              have hP1 := hP.sub (ws' := [moC ad o, arI cy (ad 12) 36 y16.2]) [0, 2] rfl
              have hD1 := hD.sub (ws' := [moC ad o, arI cy (ad 12) 36 y16.2]) [0, 2] (by decide) rfl
              refine mCallVI ⟨hx, hb, hml, hown, hts⟩ (mtX5_draw l D cy z ad o y16.2 v5_61 v5_61 y20.1 y20.2 hc19) miX5_draw q857 ⟨Nat.le_of_ble_eq_true rfl, Nat.le_of_ble_eq_true rfl⟩ ⟨rfl, rfl⟩ hP1 hD1 hKK hA0 (va_recv hKK.1 hP1 (ci := 5) (q0 := 0) rfl rfl) rfl hl.1 rfl (Nat.le_of_ble_eq_true rfl) dX5_layHollows_145 ⟨Nat.zero_le _, Nat.zero_le _⟩ hS hP hD [0, 2] rfl rfl (ws' := [moC ad o, arI cy kr 51 w, arI cy (ad 12) 36 y20.2]) rfl (fun H locs hP hD hS => ?_)
              refine lv_if_ne (tgt := 156) hx hb dX5_layHollows_148 (by decide) (fun h => ?_) (fun h => ?_)
              · have hf := (if_neg h).symm.trans hf
                refine lv_iconst (v := 1) hx hb dX5_layHollows_156 (by decide) ?_
                refine lv_goto (tgt := 161) hx hb dX5_layHollows_157 (by decide) ?_
                refine lv_istore (lv' := [(4, .int (1 : Int32)), (0, .ref (ad 0)), (5, .int v5_61)]) hx hb dX5_layHollows_161 hl (by decide) rfl (fun ls hl => ?_)
                obtain ⟨x21, ex21, hf⟩ := nm_ex hf
                refine lv_iinc (v := x21) (lv' := [(5, .int x21), (4, .int (1 : Int32)), (0, .ref (ad 0))]) hx hb dX5_layHollows_163 hl (k := 2) rfl (Eq.trans rfl ex21) (by decide) rfl (fun ls hl => ?_)
                refine lv_goto (tgt := 61) hx hb dX5_layHollows_166 (by decide) ?_
                exact ih (1 : Int32) x21 y20.2 _ _ ls hf hP hD hS (lv_sub hl [2, 1, 0] rfl)
              · have hf := (if_pos h).symm.trans hf
                refine lv_iload hx hb dX5_layHollows_151 (lv_at hl 0 rfl) ?_
                refine lv_if_eq (tgt := 160) hx hb dX5_layHollows_153 (by decide) (fun h => absurd h (by decide)) (fun _ => ?_)
                refine lv_iconst (v := 1) hx hb dX5_layHollows_156 (by decide) ?_
                refine lv_goto (tgt := 161) hx hb dX5_layHollows_157 (by decide) ?_
                refine lv_istore (lv' := [(4, .int (1 : Int32)), (0, .ref (ad 0)), (5, .int v5_61)]) hx hb dX5_layHollows_161 hl (by decide) rfl (fun ls hl => ?_)
                obtain ⟨x22, ex22, hf⟩ := nm_ex hf
                refine lv_iinc (v := x22) (lv' := [(5, .int x22), (4, .int (1 : Int32)), (0, .ref (ad 0))]) hx hb dX5_layHollows_163 hl (k := 2) rfl (Eq.trans rfl ex22) (by decide) rfl (fun ls hl => ?_)
                refine lv_goto (tgt := 61) hx hb dX5_layHollows_166 (by decide) ?_
                exact ih (1 : Int32) x22 y20.2 _ _ ls hf hP hD hS (lv_sub hl [2, 1, 0] rfl)
            · have hf := (if_neg h).symm.trans hf
              refine lv_iload hx hb dX5_layHollows_133 (lv_at hl 2 rfl) ?_
              refine lv_aload_n hx hb dX5_layHollows_135 rfl (lv_at hl 1 rfl) ?_
              refine va_get (D := D) (ci := 5) (v := .int o.2.1) (C := RX5) (T := TX5) (N := 24) hx hb hts inX5 hown hKK.1 hP 0 rfl rfl 2 (by decide) (hts _ q675) (fun _ h => h) rfl dX5_layHollows_136 ?_
              refine lv_iadd hx hb dX5_layHollows_139 ?_
              refine lv_goto (tgt := 145) hx hb dX5_layHollows_140 (by decide) ?_
              obtain ⟨y24, hc23, hf⟩ := bd_some hf
              have hP1 := hP.sub (ws' := [moC ad o, arI cy (ad 12) 36 y16.2]) [0, 2] rfl
              have hD1 := hD.sub (ws' := [moC ad o, arI cy (ad 12) 36 y16.2]) [0, 2] (by decide) rfl
              refine mCallVI ⟨hx, hb, hml, hown, hts⟩ (mtX5_draw l D cy z ad o y16.2 v5_61 (v5_61 + o.2.1) y24.1 y24.2 hc23) miX5_draw q857 ⟨Nat.le_of_ble_eq_true rfl, Nat.le_of_ble_eq_true rfl⟩ ⟨rfl, rfl⟩ hP1 hD1 hKK hA0 (va_recv hKK.1 hP1 (ci := 5) (q0 := 0) rfl rfl) rfl hl.1 rfl (Nat.le_of_ble_eq_true rfl) dX5_layHollows_145 ⟨Nat.zero_le _, Nat.zero_le _⟩ hS hP hD [0, 2] rfl rfl (ws' := [moC ad o, arI cy kr 51 w, arI cy (ad 12) 36 y24.2]) rfl (fun H locs hP hD hS => ?_)
              refine lv_if_ne (tgt := 156) hx hb dX5_layHollows_148 (by decide) (fun h => ?_) (fun h => ?_)
              · have hf := (if_neg h).symm.trans hf
                refine lv_iconst (v := 1) hx hb dX5_layHollows_156 (by decide) ?_
                refine lv_goto (tgt := 161) hx hb dX5_layHollows_157 (by decide) ?_
                refine lv_istore (lv' := [(4, .int (1 : Int32)), (0, .ref (ad 0)), (5, .int v5_61)]) hx hb dX5_layHollows_161 hl (by decide) rfl (fun ls hl => ?_)
                obtain ⟨x25, ex25, hf⟩ := nm_ex hf
                refine lv_iinc (v := x25) (lv' := [(5, .int x25), (4, .int (1 : Int32)), (0, .ref (ad 0))]) hx hb dX5_layHollows_163 hl (k := 2) rfl (Eq.trans rfl ex25) (by decide) rfl (fun ls hl => ?_)
                refine lv_goto (tgt := 61) hx hb dX5_layHollows_166 (by decide) ?_
                exact ih (1 : Int32) x25 y24.2 _ _ ls hf hP hD hS (lv_sub hl [2, 1, 0] rfl)
              · have hf := (if_pos h).symm.trans hf
                refine lv_iload hx hb dX5_layHollows_151 (lv_at hl 0 rfl) ?_
                refine lv_if_eq (tgt := 160) hx hb dX5_layHollows_153 (by decide) (fun h => absurd h (by decide)) (fun _ => ?_)
                refine lv_iconst (v := 1) hx hb dX5_layHollows_156 (by decide) ?_
                refine lv_goto (tgt := 161) hx hb dX5_layHollows_157 (by decide) ?_
                refine lv_istore (lv' := [(4, .int (1 : Int32)), (0, .ref (ad 0)), (5, .int v5_61)]) hx hb dX5_layHollows_161 hl (by decide) rfl (fun ls hl => ?_)
                obtain ⟨x26, ex26, hf⟩ := nm_ex hf
                refine lv_iinc (v := x26) (lv' := [(5, .int x26), (4, .int (1 : Int32)), (0, .ref (ad 0))]) hx hb dX5_layHollows_163 hl (k := 2) rfl (Eq.trans rfl ex26) (by decide) rfl (fun ls hl => ?_)
                refine lv_goto (tgt := 61) hx hb dX5_layHollows_166 (by decide) ?_
                exact ih (1 : Int32) x26 y24.2 _ _ ls hf hP hD hS (lv_sub hl [2, 1, 0] rfl)
          · have hf := (if_pos h).symm.trans hf
            refine lv_iload hx hb dX5_layHollows_104 (lv_at hl 1 rfl) ?_
            refine lv_if_eq (tgt := 113) hx hb dX5_layHollows_106 (by decide) (fun h => ?_) (fun h => ?_)
            · have hf := (if_pos h).symm.trans hf
              refine lv_iconst (v := 0) hx hb dX5_layHollows_113 (by decide) ?_
              refine lv_istore (lv' := [(4, .int (0 : Int32)), (0, .ref (ad 0)), (5, .int v5_61)]) hx hb dX5_layHollows_114 hl (by decide) rfl (fun ls hl => ?_)
              refine lv_aload_n hx hb dX5_layHollows_116 rfl (lv_at hl 1 rfl) ?_
              refine lv_iload hx hb dX5_layHollows_117 (lv_at hl 2 rfl) ?_
              refine lv_iload hx hb dX5_layHollows_119 (lv_at hl 2 rfl) ?_
              refine lv_aload_n hx hb dX5_layHollows_121 rfl (lv_at hl 1 rfl) ?_
              refine va_get (D := D) (ci := 5) (v := .int o.2.1) (C := RX5) (T := TX5) (N := 24) hx hb hts inX5 hown hKK.1 hP 0 rfl rfl 2 (by decide) (hts _ q675) (fun _ h => h) rfl dX5_layHollows_122 ?_
              refine lv_iadd hx hb dX5_layHollows_125 ?_
              refine lv_aload_n hx hb dX5_layHollows_126 rfl (lv_at hl 1 rfl) ?_
              obtain ⟨r28, hc27, hf⟩ := bd_some hf
              have hP1 := hP.sub (ws' := [moC ad o]) [0] rfl
              refine pCallVI ⟨hx, hb, hml, hown, hts⟩ (mtX5_cells l D cy z ad o r28 hc27) miX5_cells q792 ⟨Nat.le_of_ble_eq_true rfl, Nat.le_of_ble_eq_true rfl⟩ ⟨rfl, rfl⟩ hP1 hKK hS hA0 (va_recv hKK.1 hP1 (ci := 5) (q0 := 0) rfl rfl) rfl hl.1 rfl (Nat.le_of_ble_eq_true rfl) dX5_layHollows_127 ⟨Nat.zero_le _, Nat.zero_le _⟩ ?_
              refine lv_icmp_ge (tgt := 143) hx hb dX5_layHollows_130 (by decide) (fun h => ?_) (fun h => ?_)
              · have hf := (if_pos h).symm.trans hf
                refine lv_iload hx hb dX5_layHollows_143 (lv_at hl 2 rfl) ?_
                obtain ⟨y30, hc29, hf⟩ := bd_some hf
                have hP1 := hP.sub (ws' := [moC ad o, arI cy (ad 12) 36 y16.2]) [0, 2] rfl
                have hD1 := hD.sub (ws' := [moC ad o, arI cy (ad 12) 36 y16.2]) [0, 2] (by decide) rfl
                refine mCallVI ⟨hx, hb, hml, hown, hts⟩ (mtX5_draw l D cy z ad o y16.2 v5_61 v5_61 y30.1 y30.2 hc29) miX5_draw q857 ⟨Nat.le_of_ble_eq_true rfl, Nat.le_of_ble_eq_true rfl⟩ ⟨rfl, rfl⟩ hP1 hD1 hKK hA0 (va_recv hKK.1 hP1 (ci := 5) (q0 := 0) rfl rfl) rfl hl.1 rfl (Nat.le_of_ble_eq_true rfl) dX5_layHollows_145 ⟨Nat.zero_le _, Nat.zero_le _⟩ hS hP hD [0, 2] rfl rfl (ws' := [moC ad o, arI cy kr 51 w, arI cy (ad 12) 36 y30.2]) rfl (fun H locs hP hD hS => ?_)
                refine lv_if_ne (tgt := 156) hx hb dX5_layHollows_148 (by decide) (fun h => ?_) (fun h => ?_)
                · have hf := (if_neg h).symm.trans hf
                  refine lv_iconst (v := 1) hx hb dX5_layHollows_156 (by decide) ?_
                  refine lv_goto (tgt := 161) hx hb dX5_layHollows_157 (by decide) ?_
                  refine lv_istore (lv' := [(4, .int (1 : Int32)), (0, .ref (ad 0)), (5, .int v5_61)]) hx hb dX5_layHollows_161 hl (by decide) rfl (fun ls hl => ?_)
                  obtain ⟨x31, ex31, hf⟩ := nm_ex hf
                  refine lv_iinc (v := x31) (lv' := [(5, .int x31), (4, .int (1 : Int32)), (0, .ref (ad 0))]) hx hb dX5_layHollows_163 hl (k := 2) rfl (Eq.trans rfl ex31) (by decide) rfl (fun ls hl => ?_)
                  refine lv_goto (tgt := 61) hx hb dX5_layHollows_166 (by decide) ?_
                  exact ih (1 : Int32) x31 y30.2 _ _ ls hf hP hD hS (lv_sub hl [2, 1, 0] rfl)
                · have hf := (if_pos h).symm.trans hf
                  refine lv_iload hx hb dX5_layHollows_151 (lv_at hl 0 rfl) ?_
                  refine lv_if_eq (tgt := 160) hx hb dX5_layHollows_153 (by decide) (fun _ => ?_) (fun h => absurd h (by decide))
                  refine lv_iconst (v := 0) hx hb dX5_layHollows_160 (by decide) ?_
                  refine lv_istore (lv' := [(4, .int (0 : Int32)), (0, .ref (ad 0)), (5, .int v5_61)]) hx hb dX5_layHollows_161 hl (by decide) rfl (fun ls hl => ?_)
                  obtain ⟨x32, ex32, hf⟩ := nm_ex hf
                  refine lv_iinc (v := x32) (lv' := [(5, .int x32), (4, .int (0 : Int32)), (0, .ref (ad 0))]) hx hb dX5_layHollows_163 hl (k := 2) rfl (Eq.trans rfl ex32) (by decide) rfl (fun ls hl => ?_)
                  refine lv_goto (tgt := 61) hx hb dX5_layHollows_166 (by decide) ?_
                  exact ih (0 : Int32) x32 y30.2 _ _ ls hf hP hD hS (lv_sub hl [2, 1, 0] rfl)
              · have hf := (if_neg h).symm.trans hf
                refine lv_iload hx hb dX5_layHollows_133 (lv_at hl 2 rfl) ?_
                refine lv_aload_n hx hb dX5_layHollows_135 rfl (lv_at hl 1 rfl) ?_
                refine va_get (D := D) (ci := 5) (v := .int o.2.1) (C := RX5) (T := TX5) (N := 24) hx hb hts inX5 hown hKK.1 hP 0 rfl rfl 2 (by decide) (hts _ q675) (fun _ h => h) rfl dX5_layHollows_136 ?_
                refine lv_iadd hx hb dX5_layHollows_139 ?_
                refine lv_goto (tgt := 145) hx hb dX5_layHollows_140 (by decide) ?_
                obtain ⟨y34, hc33, hf⟩ := bd_some hf
                have hP1 := hP.sub (ws' := [moC ad o, arI cy (ad 12) 36 y16.2]) [0, 2] rfl
                have hD1 := hD.sub (ws' := [moC ad o, arI cy (ad 12) 36 y16.2]) [0, 2] (by decide) rfl
                refine mCallVI ⟨hx, hb, hml, hown, hts⟩ (mtX5_draw l D cy z ad o y16.2 v5_61 (v5_61 + o.2.1) y34.1 y34.2 hc33) miX5_draw q857 ⟨Nat.le_of_ble_eq_true rfl, Nat.le_of_ble_eq_true rfl⟩ ⟨rfl, rfl⟩ hP1 hD1 hKK hA0 (va_recv hKK.1 hP1 (ci := 5) (q0 := 0) rfl rfl) rfl hl.1 rfl (Nat.le_of_ble_eq_true rfl) dX5_layHollows_145 ⟨Nat.zero_le _, Nat.zero_le _⟩ hS hP hD [0, 2] rfl rfl (ws' := [moC ad o, arI cy kr 51 w, arI cy (ad 12) 36 y34.2]) rfl (fun H locs hP hD hS => ?_)
                refine lv_if_ne (tgt := 156) hx hb dX5_layHollows_148 (by decide) (fun h => ?_) (fun h => ?_)
                · have hf := (if_neg h).symm.trans hf
                  refine lv_iconst (v := 1) hx hb dX5_layHollows_156 (by decide) ?_
                  refine lv_goto (tgt := 161) hx hb dX5_layHollows_157 (by decide) ?_
                  refine lv_istore (lv' := [(4, .int (1 : Int32)), (0, .ref (ad 0)), (5, .int v5_61)]) hx hb dX5_layHollows_161 hl (by decide) rfl (fun ls hl => ?_)
                  obtain ⟨x35, ex35, hf⟩ := nm_ex hf
                  refine lv_iinc (v := x35) (lv' := [(5, .int x35), (4, .int (1 : Int32)), (0, .ref (ad 0))]) hx hb dX5_layHollows_163 hl (k := 2) rfl (Eq.trans rfl ex35) (by decide) rfl (fun ls hl => ?_)
                  refine lv_goto (tgt := 61) hx hb dX5_layHollows_166 (by decide) ?_
                  exact ih (1 : Int32) x35 y34.2 _ _ ls hf hP hD hS (lv_sub hl [2, 1, 0] rfl)
                · have hf := (if_pos h).symm.trans hf
                  refine lv_iload hx hb dX5_layHollows_151 (lv_at hl 0 rfl) ?_
                  refine lv_if_eq (tgt := 160) hx hb dX5_layHollows_153 (by decide) (fun _ => ?_) (fun h => absurd h (by decide))
                  refine lv_iconst (v := 0) hx hb dX5_layHollows_160 (by decide) ?_
                  refine lv_istore (lv' := [(4, .int (0 : Int32)), (0, .ref (ad 0)), (5, .int v5_61)]) hx hb dX5_layHollows_161 hl (by decide) rfl (fun ls hl => ?_)
                  obtain ⟨x36, ex36, hf⟩ := nm_ex hf
                  refine lv_iinc (v := x36) (lv' := [(5, .int x36), (4, .int (0 : Int32)), (0, .ref (ad 0))]) hx hb dX5_layHollows_163 hl (k := 2) rfl (Eq.trans rfl ex36) (by decide) rfl (fun ls hl => ?_)
                  refine lv_goto (tgt := 61) hx hb dX5_layHollows_166 (by decide) ?_
                  exact ih (0 : Int32) x36 y34.2 _ _ ls hf hP hD hS (lv_sub hl [2, 1, 0] rfl)
            · have hf := (if_neg h).symm.trans hf
              refine lv_iconst (v := 1) hx hb dX5_layHollows_109 (by decide) ?_
              refine lv_goto (tgt := 114) hx hb dX5_layHollows_110 (by decide) ?_
              refine lv_istore (lv' := [(4, .int (1 : Int32)), (0, .ref (ad 0)), (5, .int v5_61)]) hx hb dX5_layHollows_114 hl (by decide) rfl (fun ls hl => ?_)
              refine lv_aload_n hx hb dX5_layHollows_116 rfl (lv_at hl 1 rfl) ?_
              refine lv_iload hx hb dX5_layHollows_117 (lv_at hl 2 rfl) ?_
              refine lv_iload hx hb dX5_layHollows_119 (lv_at hl 2 rfl) ?_
              refine lv_aload_n hx hb dX5_layHollows_121 rfl (lv_at hl 1 rfl) ?_
              refine va_get (D := D) (ci := 5) (v := .int o.2.1) (C := RX5) (T := TX5) (N := 24) hx hb hts inX5 hown hKK.1 hP 0 rfl rfl 2 (by decide) (hts _ q675) (fun _ h => h) rfl dX5_layHollows_122 ?_
              refine lv_iadd hx hb dX5_layHollows_125 ?_
              refine lv_aload_n hx hb dX5_layHollows_126 rfl (lv_at hl 1 rfl) ?_
              obtain ⟨r38, hc37, hf⟩ := bd_some hf
              have hP1 := hP.sub (ws' := [moC ad o]) [0] rfl
              refine pCallVI ⟨hx, hb, hml, hown, hts⟩ (mtX5_cells l D cy z ad o r38 hc37) miX5_cells q792 ⟨Nat.le_of_ble_eq_true rfl, Nat.le_of_ble_eq_true rfl⟩ ⟨rfl, rfl⟩ hP1 hKK hS hA0 (va_recv hKK.1 hP1 (ci := 5) (q0 := 0) rfl rfl) rfl hl.1 rfl (Nat.le_of_ble_eq_true rfl) dX5_layHollows_127 ⟨Nat.zero_le _, Nat.zero_le _⟩ ?_
              refine lv_icmp_ge (tgt := 143) hx hb dX5_layHollows_130 (by decide) (fun h => ?_) (fun h => ?_)
              · have hf := (if_pos h).symm.trans hf
                refine lv_iload hx hb dX5_layHollows_143 (lv_at hl 2 rfl) ?_
                obtain ⟨y40, hc39, hf⟩ := bd_some hf
                have hP1 := hP.sub (ws' := [moC ad o, arI cy (ad 12) 36 y16.2]) [0, 2] rfl
                have hD1 := hD.sub (ws' := [moC ad o, arI cy (ad 12) 36 y16.2]) [0, 2] (by decide) rfl
                refine mCallVI ⟨hx, hb, hml, hown, hts⟩ (mtX5_draw l D cy z ad o y16.2 v5_61 v5_61 y40.1 y40.2 hc39) miX5_draw q857 ⟨Nat.le_of_ble_eq_true rfl, Nat.le_of_ble_eq_true rfl⟩ ⟨rfl, rfl⟩ hP1 hD1 hKK hA0 (va_recv hKK.1 hP1 (ci := 5) (q0 := 0) rfl rfl) rfl hl.1 rfl (Nat.le_of_ble_eq_true rfl) dX5_layHollows_145 ⟨Nat.zero_le _, Nat.zero_le _⟩ hS hP hD [0, 2] rfl rfl (ws' := [moC ad o, arI cy kr 51 w, arI cy (ad 12) 36 y40.2]) rfl (fun H locs hP hD hS => ?_)
                refine lv_if_ne (tgt := 156) hx hb dX5_layHollows_148 (by decide) (fun h => ?_) (fun h => ?_)
                · have hf := (if_neg h).symm.trans hf
                  refine lv_iconst (v := 1) hx hb dX5_layHollows_156 (by decide) ?_
                  refine lv_goto (tgt := 161) hx hb dX5_layHollows_157 (by decide) ?_
                  refine lv_istore (lv' := [(4, .int (1 : Int32)), (0, .ref (ad 0)), (5, .int v5_61)]) hx hb dX5_layHollows_161 hl (by decide) rfl (fun ls hl => ?_)
                  obtain ⟨x41, ex41, hf⟩ := nm_ex hf
                  refine lv_iinc (v := x41) (lv' := [(5, .int x41), (4, .int (1 : Int32)), (0, .ref (ad 0))]) hx hb dX5_layHollows_163 hl (k := 2) rfl (Eq.trans rfl ex41) (by decide) rfl (fun ls hl => ?_)
                  refine lv_goto (tgt := 61) hx hb dX5_layHollows_166 (by decide) ?_
                  exact ih (1 : Int32) x41 y40.2 _ _ ls hf hP hD hS (lv_sub hl [2, 1, 0] rfl)
                · have hf := (if_pos h).symm.trans hf
                  refine lv_iload hx hb dX5_layHollows_151 (lv_at hl 0 rfl) ?_
                  refine lv_if_eq (tgt := 160) hx hb dX5_layHollows_153 (by decide) (fun h => absurd h (by decide)) (fun _ => ?_)
                  refine lv_iconst (v := 1) hx hb dX5_layHollows_156 (by decide) ?_
                  refine lv_goto (tgt := 161) hx hb dX5_layHollows_157 (by decide) ?_
                  refine lv_istore (lv' := [(4, .int (1 : Int32)), (0, .ref (ad 0)), (5, .int v5_61)]) hx hb dX5_layHollows_161 hl (by decide) rfl (fun ls hl => ?_)
                  obtain ⟨x42, ex42, hf⟩ := nm_ex hf
                  refine lv_iinc (v := x42) (lv' := [(5, .int x42), (4, .int (1 : Int32)), (0, .ref (ad 0))]) hx hb dX5_layHollows_163 hl (k := 2) rfl (Eq.trans rfl ex42) (by decide) rfl (fun ls hl => ?_)
                  refine lv_goto (tgt := 61) hx hb dX5_layHollows_166 (by decide) ?_
                  exact ih (1 : Int32) x42 y40.2 _ _ ls hf hP hD hS (lv_sub hl [2, 1, 0] rfl)
              · have hf := (if_neg h).symm.trans hf
                refine lv_iload hx hb dX5_layHollows_133 (lv_at hl 2 rfl) ?_
                refine lv_aload_n hx hb dX5_layHollows_135 rfl (lv_at hl 1 rfl) ?_
                refine va_get (D := D) (ci := 5) (v := .int o.2.1) (C := RX5) (T := TX5) (N := 24) hx hb hts inX5 hown hKK.1 hP 0 rfl rfl 2 (by decide) (hts _ q675) (fun _ h => h) rfl dX5_layHollows_136 ?_
                refine lv_iadd hx hb dX5_layHollows_139 ?_
                refine lv_goto (tgt := 145) hx hb dX5_layHollows_140 (by decide) ?_
                obtain ⟨y44, hc43, hf⟩ := bd_some hf
                have hP1 := hP.sub (ws' := [moC ad o, arI cy (ad 12) 36 y16.2]) [0, 2] rfl
                have hD1 := hD.sub (ws' := [moC ad o, arI cy (ad 12) 36 y16.2]) [0, 2] (by decide) rfl
                refine mCallVI ⟨hx, hb, hml, hown, hts⟩ (mtX5_draw l D cy z ad o y16.2 v5_61 (v5_61 + o.2.1) y44.1 y44.2 hc43) miX5_draw q857 ⟨Nat.le_of_ble_eq_true rfl, Nat.le_of_ble_eq_true rfl⟩ ⟨rfl, rfl⟩ hP1 hD1 hKK hA0 (va_recv hKK.1 hP1 (ci := 5) (q0 := 0) rfl rfl) rfl hl.1 rfl (Nat.le_of_ble_eq_true rfl) dX5_layHollows_145 ⟨Nat.zero_le _, Nat.zero_le _⟩ hS hP hD [0, 2] rfl rfl (ws' := [moC ad o, arI cy kr 51 w, arI cy (ad 12) 36 y44.2]) rfl (fun H locs hP hD hS => ?_)
                refine lv_if_ne (tgt := 156) hx hb dX5_layHollows_148 (by decide) (fun h => ?_) (fun h => ?_)
                · have hf := (if_neg h).symm.trans hf
                  refine lv_iconst (v := 1) hx hb dX5_layHollows_156 (by decide) ?_
                  refine lv_goto (tgt := 161) hx hb dX5_layHollows_157 (by decide) ?_
                  refine lv_istore (lv' := [(4, .int (1 : Int32)), (0, .ref (ad 0)), (5, .int v5_61)]) hx hb dX5_layHollows_161 hl (by decide) rfl (fun ls hl => ?_)
                  obtain ⟨x45, ex45, hf⟩ := nm_ex hf
                  refine lv_iinc (v := x45) (lv' := [(5, .int x45), (4, .int (1 : Int32)), (0, .ref (ad 0))]) hx hb dX5_layHollows_163 hl (k := 2) rfl (Eq.trans rfl ex45) (by decide) rfl (fun ls hl => ?_)
                  refine lv_goto (tgt := 61) hx hb dX5_layHollows_166 (by decide) ?_
                  exact ih (1 : Int32) x45 y44.2 _ _ ls hf hP hD hS (lv_sub hl [2, 1, 0] rfl)
                · have hf := (if_pos h).symm.trans hf
                  refine lv_iload hx hb dX5_layHollows_151 (lv_at hl 0 rfl) ?_
                  refine lv_if_eq (tgt := 160) hx hb dX5_layHollows_153 (by decide) (fun h => absurd h (by decide)) (fun _ => ?_)
                  refine lv_iconst (v := 1) hx hb dX5_layHollows_156 (by decide) ?_
                  refine lv_goto (tgt := 161) hx hb dX5_layHollows_157 (by decide) ?_
                  refine lv_istore (lv' := [(4, .int (1 : Int32)), (0, .ref (ad 0)), (5, .int v5_61)]) hx hb dX5_layHollows_161 hl (by decide) rfl (fun ls hl => ?_)
                  obtain ⟨x46, ex46, hf⟩ := nm_ex hf
                  refine lv_iinc (v := x46) (lv' := [(5, .int x46), (4, .int (1 : Int32)), (0, .ref (ad 0))]) hx hb dX5_layHollows_163 hl (k := 2) rfl (Eq.trans rfl ex46) (by decide) rfl (fun ls hl => ?_)
                  refine lv_goto (tgt := 61) hx hb dX5_layHollows_166 (by decide) ?_
                  exact ih (1 : Int32) x46 y44.2 _ _ ls hf hP hD hS (lv_sub hl [2, 1, 0] rfl)
        · have hf := (if_neg h).symm.trans hf
          refine lv_iload hx hb dX5_layHollows_89 (lv_at hl 2 rfl) ?_
          refine lv_iconst (v := 1) hx hb dX5_layHollows_91 (by decide) ?_
          refine lv_iadd hx hb dX5_layHollows_92 ?_
          refine lv_goto (tgt := 98) hx hb dX5_layHollows_93 (by decide) ?_
          obtain ⟨y48, hc47, hf⟩ := bd_some hf
          have hP1 := hP.sub (ws' := [moC ad o, arI cy (ad 12) 36 ho_61]) [0, 2] rfl
          have hD1 := hD.sub (ws' := [moC ad o, arI cy (ad 12) 36 ho_61]) [0, 2] (by decide) rfl
          refine mCallVI ⟨hx, hb, hml, hown, hts⟩ (mtX5_draw l D cy z ad o ho_61 v5_61 (v5_61 + (1 : Int32)) y48.1 y48.2 hc47) miX5_draw q857 ⟨Nat.le_of_ble_eq_true rfl, Nat.le_of_ble_eq_true rfl⟩ ⟨rfl, rfl⟩ hP1 hD1 hKK hA0 (va_recv hKK.1 hP1 (ci := 5) (q0 := 0) rfl rfl) rfl hl.1 rfl (Nat.le_of_ble_eq_true rfl) dX5_layHollows_98 ⟨Nat.zero_le _, Nat.zero_le _⟩ hS hP hD [0, 2] rfl rfl (ws' := [moC ad o, arI cy kr 51 w, arI cy (ad 12) 36 y48.2]) rfl (fun H locs hP hD hS => ?_)
          refine lv_if_ne (tgt := 109) hx hb dX5_layHollows_101 (by decide) (fun h => ?_) (fun h => ?_)
          · have hf := (if_neg h).symm.trans hf
            refine lv_iconst (v := 1) hx hb dX5_layHollows_109 (by decide) ?_
            refine lv_goto (tgt := 114) hx hb dX5_layHollows_110 (by decide) ?_
            refine lv_istore (lv' := [(4, .int (1 : Int32)), (0, .ref (ad 0)), (5, .int v5_61)]) hx hb dX5_layHollows_114 hl (by decide) rfl (fun ls hl => ?_)
            refine lv_aload_n hx hb dX5_layHollows_116 rfl (lv_at hl 1 rfl) ?_
            refine lv_iload hx hb dX5_layHollows_117 (lv_at hl 2 rfl) ?_
            refine lv_iload hx hb dX5_layHollows_119 (lv_at hl 2 rfl) ?_
            refine lv_aload_n hx hb dX5_layHollows_121 rfl (lv_at hl 1 rfl) ?_
            refine va_get (D := D) (ci := 5) (v := .int o.2.1) (C := RX5) (T := TX5) (N := 24) hx hb hts inX5 hown hKK.1 hP 0 rfl rfl 2 (by decide) (hts _ q675) (fun _ h => h) rfl dX5_layHollows_122 ?_
            refine lv_iadd hx hb dX5_layHollows_125 ?_
            refine lv_aload_n hx hb dX5_layHollows_126 rfl (lv_at hl 1 rfl) ?_
            obtain ⟨r50, hc49, hf⟩ := bd_some hf
            have hP1 := hP.sub (ws' := [moC ad o]) [0] rfl
            refine pCallVI ⟨hx, hb, hml, hown, hts⟩ (mtX5_cells l D cy z ad o r50 hc49) miX5_cells q792 ⟨Nat.le_of_ble_eq_true rfl, Nat.le_of_ble_eq_true rfl⟩ ⟨rfl, rfl⟩ hP1 hKK hS hA0 (va_recv hKK.1 hP1 (ci := 5) (q0 := 0) rfl rfl) rfl hl.1 rfl (Nat.le_of_ble_eq_true rfl) dX5_layHollows_127 ⟨Nat.zero_le _, Nat.zero_le _⟩ ?_
            refine lv_icmp_ge (tgt := 143) hx hb dX5_layHollows_130 (by decide) (fun h => ?_) (fun h => ?_)
            · have hf := (if_pos h).symm.trans hf
              refine lv_iload hx hb dX5_layHollows_143 (lv_at hl 2 rfl) ?_
              obtain ⟨y52, hc51, hf⟩ := bd_some hf
              have hP1 := hP.sub (ws' := [moC ad o, arI cy (ad 12) 36 y48.2]) [0, 2] rfl
              have hD1 := hD.sub (ws' := [moC ad o, arI cy (ad 12) 36 y48.2]) [0, 2] (by decide) rfl
              refine mCallVI ⟨hx, hb, hml, hown, hts⟩ (mtX5_draw l D cy z ad o y48.2 v5_61 v5_61 y52.1 y52.2 hc51) miX5_draw q857 ⟨Nat.le_of_ble_eq_true rfl, Nat.le_of_ble_eq_true rfl⟩ ⟨rfl, rfl⟩ hP1 hD1 hKK hA0 (va_recv hKK.1 hP1 (ci := 5) (q0 := 0) rfl rfl) rfl hl.1 rfl (Nat.le_of_ble_eq_true rfl) dX5_layHollows_145 ⟨Nat.zero_le _, Nat.zero_le _⟩ hS hP hD [0, 2] rfl rfl (ws' := [moC ad o, arI cy kr 51 w, arI cy (ad 12) 36 y52.2]) rfl (fun H locs hP hD hS => ?_)
              refine lv_if_ne (tgt := 156) hx hb dX5_layHollows_148 (by decide) (fun h => ?_) (fun h => ?_)
              · have hf := (if_neg h).symm.trans hf
                refine lv_iconst (v := 1) hx hb dX5_layHollows_156 (by decide) ?_
                refine lv_goto (tgt := 161) hx hb dX5_layHollows_157 (by decide) ?_
                refine lv_istore (lv' := [(4, .int (1 : Int32)), (0, .ref (ad 0)), (5, .int v5_61)]) hx hb dX5_layHollows_161 hl (by decide) rfl (fun ls hl => ?_)
                obtain ⟨x53, ex53, hf⟩ := nm_ex hf
                refine lv_iinc (v := x53) (lv' := [(5, .int x53), (4, .int (1 : Int32)), (0, .ref (ad 0))]) hx hb dX5_layHollows_163 hl (k := 2) rfl (Eq.trans rfl ex53) (by decide) rfl (fun ls hl => ?_)
                refine lv_goto (tgt := 61) hx hb dX5_layHollows_166 (by decide) ?_
                exact ih (1 : Int32) x53 y52.2 _ _ ls hf hP hD hS (lv_sub hl [2, 1, 0] rfl)
              · have hf := (if_pos h).symm.trans hf
                refine lv_iload hx hb dX5_layHollows_151 (lv_at hl 0 rfl) ?_
                refine lv_if_eq (tgt := 160) hx hb dX5_layHollows_153 (by decide) (fun h => absurd h (by decide)) (fun _ => ?_)
                refine lv_iconst (v := 1) hx hb dX5_layHollows_156 (by decide) ?_
                refine lv_goto (tgt := 161) hx hb dX5_layHollows_157 (by decide) ?_
                refine lv_istore (lv' := [(4, .int (1 : Int32)), (0, .ref (ad 0)), (5, .int v5_61)]) hx hb dX5_layHollows_161 hl (by decide) rfl (fun ls hl => ?_)
                obtain ⟨x54, ex54, hf⟩ := nm_ex hf
                refine lv_iinc (v := x54) (lv' := [(5, .int x54), (4, .int (1 : Int32)), (0, .ref (ad 0))]) hx hb dX5_layHollows_163 hl (k := 2) rfl (Eq.trans rfl ex54) (by decide) rfl (fun ls hl => ?_)
                refine lv_goto (tgt := 61) hx hb dX5_layHollows_166 (by decide) ?_
                exact ih (1 : Int32) x54 y52.2 _ _ ls hf hP hD hS (lv_sub hl [2, 1, 0] rfl)
            · have hf := (if_neg h).symm.trans hf
              refine lv_iload hx hb dX5_layHollows_133 (lv_at hl 2 rfl) ?_
              refine lv_aload_n hx hb dX5_layHollows_135 rfl (lv_at hl 1 rfl) ?_
              refine va_get (D := D) (ci := 5) (v := .int o.2.1) (C := RX5) (T := TX5) (N := 24) hx hb hts inX5 hown hKK.1 hP 0 rfl rfl 2 (by decide) (hts _ q675) (fun _ h => h) rfl dX5_layHollows_136 ?_
              refine lv_iadd hx hb dX5_layHollows_139 ?_
              refine lv_goto (tgt := 145) hx hb dX5_layHollows_140 (by decide) ?_
              obtain ⟨y56, hc55, hf⟩ := bd_some hf
              have hP1 := hP.sub (ws' := [moC ad o, arI cy (ad 12) 36 y48.2]) [0, 2] rfl
              have hD1 := hD.sub (ws' := [moC ad o, arI cy (ad 12) 36 y48.2]) [0, 2] (by decide) rfl
              refine mCallVI ⟨hx, hb, hml, hown, hts⟩ (mtX5_draw l D cy z ad o y48.2 v5_61 (v5_61 + o.2.1) y56.1 y56.2 hc55) miX5_draw q857 ⟨Nat.le_of_ble_eq_true rfl, Nat.le_of_ble_eq_true rfl⟩ ⟨rfl, rfl⟩ hP1 hD1 hKK hA0 (va_recv hKK.1 hP1 (ci := 5) (q0 := 0) rfl rfl) rfl hl.1 rfl (Nat.le_of_ble_eq_true rfl) dX5_layHollows_145 ⟨Nat.zero_le _, Nat.zero_le _⟩ hS hP hD [0, 2] rfl rfl (ws' := [moC ad o, arI cy kr 51 w, arI cy (ad 12) 36 y56.2]) rfl (fun H locs hP hD hS => ?_)
              refine lv_if_ne (tgt := 156) hx hb dX5_layHollows_148 (by decide) (fun h => ?_) (fun h => ?_)
              · have hf := (if_neg h).symm.trans hf
                refine lv_iconst (v := 1) hx hb dX5_layHollows_156 (by decide) ?_
                refine lv_goto (tgt := 161) hx hb dX5_layHollows_157 (by decide) ?_
                refine lv_istore (lv' := [(4, .int (1 : Int32)), (0, .ref (ad 0)), (5, .int v5_61)]) hx hb dX5_layHollows_161 hl (by decide) rfl (fun ls hl => ?_)
                obtain ⟨x57, ex57, hf⟩ := nm_ex hf
                refine lv_iinc (v := x57) (lv' := [(5, .int x57), (4, .int (1 : Int32)), (0, .ref (ad 0))]) hx hb dX5_layHollows_163 hl (k := 2) rfl (Eq.trans rfl ex57) (by decide) rfl (fun ls hl => ?_)
                refine lv_goto (tgt := 61) hx hb dX5_layHollows_166 (by decide) ?_
                exact ih (1 : Int32) x57 y56.2 _ _ ls hf hP hD hS (lv_sub hl [2, 1, 0] rfl)
              · have hf := (if_pos h).symm.trans hf
                refine lv_iload hx hb dX5_layHollows_151 (lv_at hl 0 rfl) ?_
                refine lv_if_eq (tgt := 160) hx hb dX5_layHollows_153 (by decide) (fun h => absurd h (by decide)) (fun _ => ?_)
                refine lv_iconst (v := 1) hx hb dX5_layHollows_156 (by decide) ?_
                refine lv_goto (tgt := 161) hx hb dX5_layHollows_157 (by decide) ?_
                refine lv_istore (lv' := [(4, .int (1 : Int32)), (0, .ref (ad 0)), (5, .int v5_61)]) hx hb dX5_layHollows_161 hl (by decide) rfl (fun ls hl => ?_)
                obtain ⟨x58, ex58, hf⟩ := nm_ex hf
                refine lv_iinc (v := x58) (lv' := [(5, .int x58), (4, .int (1 : Int32)), (0, .ref (ad 0))]) hx hb dX5_layHollows_163 hl (k := 2) rfl (Eq.trans rfl ex58) (by decide) rfl (fun ls hl => ?_)
                refine lv_goto (tgt := 61) hx hb dX5_layHollows_166 (by decide) ?_
                exact ih (1 : Int32) x58 y56.2 _ _ ls hf hP hD hS (lv_sub hl [2, 1, 0] rfl)
          · have hf := (if_pos h).symm.trans hf
            refine lv_iload hx hb dX5_layHollows_104 (lv_at hl 1 rfl) ?_
            refine lv_if_eq (tgt := 113) hx hb dX5_layHollows_106 (by decide) (fun h => ?_) (fun h => ?_)
            · have hf := (if_pos h).symm.trans hf
              refine lv_iconst (v := 0) hx hb dX5_layHollows_113 (by decide) ?_
              refine lv_istore (lv' := [(4, .int (0 : Int32)), (0, .ref (ad 0)), (5, .int v5_61)]) hx hb dX5_layHollows_114 hl (by decide) rfl (fun ls hl => ?_)
              refine lv_aload_n hx hb dX5_layHollows_116 rfl (lv_at hl 1 rfl) ?_
              refine lv_iload hx hb dX5_layHollows_117 (lv_at hl 2 rfl) ?_
              refine lv_iload hx hb dX5_layHollows_119 (lv_at hl 2 rfl) ?_
              refine lv_aload_n hx hb dX5_layHollows_121 rfl (lv_at hl 1 rfl) ?_
              refine va_get (D := D) (ci := 5) (v := .int o.2.1) (C := RX5) (T := TX5) (N := 24) hx hb hts inX5 hown hKK.1 hP 0 rfl rfl 2 (by decide) (hts _ q675) (fun _ h => h) rfl dX5_layHollows_122 ?_
              refine lv_iadd hx hb dX5_layHollows_125 ?_
              refine lv_aload_n hx hb dX5_layHollows_126 rfl (lv_at hl 1 rfl) ?_
              obtain ⟨r60, hc59, hf⟩ := bd_some hf
              have hP1 := hP.sub (ws' := [moC ad o]) [0] rfl
              refine pCallVI ⟨hx, hb, hml, hown, hts⟩ (mtX5_cells l D cy z ad o r60 hc59) miX5_cells q792 ⟨Nat.le_of_ble_eq_true rfl, Nat.le_of_ble_eq_true rfl⟩ ⟨rfl, rfl⟩ hP1 hKK hS hA0 (va_recv hKK.1 hP1 (ci := 5) (q0 := 0) rfl rfl) rfl hl.1 rfl (Nat.le_of_ble_eq_true rfl) dX5_layHollows_127 ⟨Nat.zero_le _, Nat.zero_le _⟩ ?_
              refine lv_icmp_ge (tgt := 143) hx hb dX5_layHollows_130 (by decide) (fun h => ?_) (fun h => ?_)
              · have hf := (if_pos h).symm.trans hf
                refine lv_iload hx hb dX5_layHollows_143 (lv_at hl 2 rfl) ?_
                obtain ⟨y62, hc61, hf⟩ := bd_some hf
                have hP1 := hP.sub (ws' := [moC ad o, arI cy (ad 12) 36 y48.2]) [0, 2] rfl
                have hD1 := hD.sub (ws' := [moC ad o, arI cy (ad 12) 36 y48.2]) [0, 2] (by decide) rfl
                refine mCallVI ⟨hx, hb, hml, hown, hts⟩ (mtX5_draw l D cy z ad o y48.2 v5_61 v5_61 y62.1 y62.2 hc61) miX5_draw q857 ⟨Nat.le_of_ble_eq_true rfl, Nat.le_of_ble_eq_true rfl⟩ ⟨rfl, rfl⟩ hP1 hD1 hKK hA0 (va_recv hKK.1 hP1 (ci := 5) (q0 := 0) rfl rfl) rfl hl.1 rfl (Nat.le_of_ble_eq_true rfl) dX5_layHollows_145 ⟨Nat.zero_le _, Nat.zero_le _⟩ hS hP hD [0, 2] rfl rfl (ws' := [moC ad o, arI cy kr 51 w, arI cy (ad 12) 36 y62.2]) rfl (fun H locs hP hD hS => ?_)
                refine lv_if_ne (tgt := 156) hx hb dX5_layHollows_148 (by decide) (fun h => ?_) (fun h => ?_)
                · have hf := (if_neg h).symm.trans hf
                  refine lv_iconst (v := 1) hx hb dX5_layHollows_156 (by decide) ?_
                  refine lv_goto (tgt := 161) hx hb dX5_layHollows_157 (by decide) ?_
                  refine lv_istore (lv' := [(4, .int (1 : Int32)), (0, .ref (ad 0)), (5, .int v5_61)]) hx hb dX5_layHollows_161 hl (by decide) rfl (fun ls hl => ?_)
                  obtain ⟨x63, ex63, hf⟩ := nm_ex hf
                  refine lv_iinc (v := x63) (lv' := [(5, .int x63), (4, .int (1 : Int32)), (0, .ref (ad 0))]) hx hb dX5_layHollows_163 hl (k := 2) rfl (Eq.trans rfl ex63) (by decide) rfl (fun ls hl => ?_)
                  refine lv_goto (tgt := 61) hx hb dX5_layHollows_166 (by decide) ?_
                  exact ih (1 : Int32) x63 y62.2 _ _ ls hf hP hD hS (lv_sub hl [2, 1, 0] rfl)
                · have hf := (if_pos h).symm.trans hf
                  refine lv_iload hx hb dX5_layHollows_151 (lv_at hl 0 rfl) ?_
                  refine lv_if_eq (tgt := 160) hx hb dX5_layHollows_153 (by decide) (fun _ => ?_) (fun h => absurd h (by decide))
                  refine lv_iconst (v := 0) hx hb dX5_layHollows_160 (by decide) ?_
                  refine lv_istore (lv' := [(4, .int (0 : Int32)), (0, .ref (ad 0)), (5, .int v5_61)]) hx hb dX5_layHollows_161 hl (by decide) rfl (fun ls hl => ?_)
                  obtain ⟨x64, ex64, hf⟩ := nm_ex hf
                  refine lv_iinc (v := x64) (lv' := [(5, .int x64), (4, .int (0 : Int32)), (0, .ref (ad 0))]) hx hb dX5_layHollows_163 hl (k := 2) rfl (Eq.trans rfl ex64) (by decide) rfl (fun ls hl => ?_)
                  refine lv_goto (tgt := 61) hx hb dX5_layHollows_166 (by decide) ?_
                  exact ih (0 : Int32) x64 y62.2 _ _ ls hf hP hD hS (lv_sub hl [2, 1, 0] rfl)
              · have hf := (if_neg h).symm.trans hf
                refine lv_iload hx hb dX5_layHollows_133 (lv_at hl 2 rfl) ?_
                refine lv_aload_n hx hb dX5_layHollows_135 rfl (lv_at hl 1 rfl) ?_
                refine va_get (D := D) (ci := 5) (v := .int o.2.1) (C := RX5) (T := TX5) (N := 24) hx hb hts inX5 hown hKK.1 hP 0 rfl rfl 2 (by decide) (hts _ q675) (fun _ h => h) rfl dX5_layHollows_136 ?_
                refine lv_iadd hx hb dX5_layHollows_139 ?_
                refine lv_goto (tgt := 145) hx hb dX5_layHollows_140 (by decide) ?_
                obtain ⟨y66, hc65, hf⟩ := bd_some hf
                have hP1 := hP.sub (ws' := [moC ad o, arI cy (ad 12) 36 y48.2]) [0, 2] rfl
                have hD1 := hD.sub (ws' := [moC ad o, arI cy (ad 12) 36 y48.2]) [0, 2] (by decide) rfl
                refine mCallVI ⟨hx, hb, hml, hown, hts⟩ (mtX5_draw l D cy z ad o y48.2 v5_61 (v5_61 + o.2.1) y66.1 y66.2 hc65) miX5_draw q857 ⟨Nat.le_of_ble_eq_true rfl, Nat.le_of_ble_eq_true rfl⟩ ⟨rfl, rfl⟩ hP1 hD1 hKK hA0 (va_recv hKK.1 hP1 (ci := 5) (q0 := 0) rfl rfl) rfl hl.1 rfl (Nat.le_of_ble_eq_true rfl) dX5_layHollows_145 ⟨Nat.zero_le _, Nat.zero_le _⟩ hS hP hD [0, 2] rfl rfl (ws' := [moC ad o, arI cy kr 51 w, arI cy (ad 12) 36 y66.2]) rfl (fun H locs hP hD hS => ?_)
                refine lv_if_ne (tgt := 156) hx hb dX5_layHollows_148 (by decide) (fun h => ?_) (fun h => ?_)
                · have hf := (if_neg h).symm.trans hf
                  refine lv_iconst (v := 1) hx hb dX5_layHollows_156 (by decide) ?_
                  refine lv_goto (tgt := 161) hx hb dX5_layHollows_157 (by decide) ?_
                  refine lv_istore (lv' := [(4, .int (1 : Int32)), (0, .ref (ad 0)), (5, .int v5_61)]) hx hb dX5_layHollows_161 hl (by decide) rfl (fun ls hl => ?_)
                  obtain ⟨x67, ex67, hf⟩ := nm_ex hf
                  refine lv_iinc (v := x67) (lv' := [(5, .int x67), (4, .int (1 : Int32)), (0, .ref (ad 0))]) hx hb dX5_layHollows_163 hl (k := 2) rfl (Eq.trans rfl ex67) (by decide) rfl (fun ls hl => ?_)
                  refine lv_goto (tgt := 61) hx hb dX5_layHollows_166 (by decide) ?_
                  exact ih (1 : Int32) x67 y66.2 _ _ ls hf hP hD hS (lv_sub hl [2, 1, 0] rfl)
                · have hf := (if_pos h).symm.trans hf
                  refine lv_iload hx hb dX5_layHollows_151 (lv_at hl 0 rfl) ?_
                  refine lv_if_eq (tgt := 160) hx hb dX5_layHollows_153 (by decide) (fun _ => ?_) (fun h => absurd h (by decide))
                  refine lv_iconst (v := 0) hx hb dX5_layHollows_160 (by decide) ?_
                  refine lv_istore (lv' := [(4, .int (0 : Int32)), (0, .ref (ad 0)), (5, .int v5_61)]) hx hb dX5_layHollows_161 hl (by decide) rfl (fun ls hl => ?_)
                  obtain ⟨x68, ex68, hf⟩ := nm_ex hf
                  refine lv_iinc (v := x68) (lv' := [(5, .int x68), (4, .int (0 : Int32)), (0, .ref (ad 0))]) hx hb dX5_layHollows_163 hl (k := 2) rfl (Eq.trans rfl ex68) (by decide) rfl (fun ls hl => ?_)
                  refine lv_goto (tgt := 61) hx hb dX5_layHollows_166 (by decide) ?_
                  exact ih (0 : Int32) x68 y66.2 _ _ ls hf hP hD hS (lv_sub hl [2, 1, 0] rfl)
            · have hf := (if_neg h).symm.trans hf
              refine lv_iconst (v := 1) hx hb dX5_layHollows_109 (by decide) ?_
              refine lv_goto (tgt := 114) hx hb dX5_layHollows_110 (by decide) ?_
              refine lv_istore (lv' := [(4, .int (1 : Int32)), (0, .ref (ad 0)), (5, .int v5_61)]) hx hb dX5_layHollows_114 hl (by decide) rfl (fun ls hl => ?_)
              refine lv_aload_n hx hb dX5_layHollows_116 rfl (lv_at hl 1 rfl) ?_
              refine lv_iload hx hb dX5_layHollows_117 (lv_at hl 2 rfl) ?_
              refine lv_iload hx hb dX5_layHollows_119 (lv_at hl 2 rfl) ?_
              refine lv_aload_n hx hb dX5_layHollows_121 rfl (lv_at hl 1 rfl) ?_
              refine va_get (D := D) (ci := 5) (v := .int o.2.1) (C := RX5) (T := TX5) (N := 24) hx hb hts inX5 hown hKK.1 hP 0 rfl rfl 2 (by decide) (hts _ q675) (fun _ h => h) rfl dX5_layHollows_122 ?_
              refine lv_iadd hx hb dX5_layHollows_125 ?_
              refine lv_aload_n hx hb dX5_layHollows_126 rfl (lv_at hl 1 rfl) ?_
              obtain ⟨r70, hc69, hf⟩ := bd_some hf
              have hP1 := hP.sub (ws' := [moC ad o]) [0] rfl
              refine pCallVI ⟨hx, hb, hml, hown, hts⟩ (mtX5_cells l D cy z ad o r70 hc69) miX5_cells q792 ⟨Nat.le_of_ble_eq_true rfl, Nat.le_of_ble_eq_true rfl⟩ ⟨rfl, rfl⟩ hP1 hKK hS hA0 (va_recv hKK.1 hP1 (ci := 5) (q0 := 0) rfl rfl) rfl hl.1 rfl (Nat.le_of_ble_eq_true rfl) dX5_layHollows_127 ⟨Nat.zero_le _, Nat.zero_le _⟩ ?_
              refine lv_icmp_ge (tgt := 143) hx hb dX5_layHollows_130 (by decide) (fun h => ?_) (fun h => ?_)
              · have hf := (if_pos h).symm.trans hf
                refine lv_iload hx hb dX5_layHollows_143 (lv_at hl 2 rfl) ?_
                obtain ⟨y72, hc71, hf⟩ := bd_some hf
                have hP1 := hP.sub (ws' := [moC ad o, arI cy (ad 12) 36 y48.2]) [0, 2] rfl
                have hD1 := hD.sub (ws' := [moC ad o, arI cy (ad 12) 36 y48.2]) [0, 2] (by decide) rfl
                refine mCallVI ⟨hx, hb, hml, hown, hts⟩ (mtX5_draw l D cy z ad o y48.2 v5_61 v5_61 y72.1 y72.2 hc71) miX5_draw q857 ⟨Nat.le_of_ble_eq_true rfl, Nat.le_of_ble_eq_true rfl⟩ ⟨rfl, rfl⟩ hP1 hD1 hKK hA0 (va_recv hKK.1 hP1 (ci := 5) (q0 := 0) rfl rfl) rfl hl.1 rfl (Nat.le_of_ble_eq_true rfl) dX5_layHollows_145 ⟨Nat.zero_le _, Nat.zero_le _⟩ hS hP hD [0, 2] rfl rfl (ws' := [moC ad o, arI cy kr 51 w, arI cy (ad 12) 36 y72.2]) rfl (fun H locs hP hD hS => ?_)
                refine lv_if_ne (tgt := 156) hx hb dX5_layHollows_148 (by decide) (fun h => ?_) (fun h => ?_)
                · have hf := (if_neg h).symm.trans hf
                  refine lv_iconst (v := 1) hx hb dX5_layHollows_156 (by decide) ?_
                  refine lv_goto (tgt := 161) hx hb dX5_layHollows_157 (by decide) ?_
                  refine lv_istore (lv' := [(4, .int (1 : Int32)), (0, .ref (ad 0)), (5, .int v5_61)]) hx hb dX5_layHollows_161 hl (by decide) rfl (fun ls hl => ?_)
                  obtain ⟨x73, ex73, hf⟩ := nm_ex hf
                  refine lv_iinc (v := x73) (lv' := [(5, .int x73), (4, .int (1 : Int32)), (0, .ref (ad 0))]) hx hb dX5_layHollows_163 hl (k := 2) rfl (Eq.trans rfl ex73) (by decide) rfl (fun ls hl => ?_)
                  refine lv_goto (tgt := 61) hx hb dX5_layHollows_166 (by decide) ?_
                  exact ih (1 : Int32) x73 y72.2 _ _ ls hf hP hD hS (lv_sub hl [2, 1, 0] rfl)
                · have hf := (if_pos h).symm.trans hf
                  refine lv_iload hx hb dX5_layHollows_151 (lv_at hl 0 rfl) ?_
                  refine lv_if_eq (tgt := 160) hx hb dX5_layHollows_153 (by decide) (fun h => absurd h (by decide)) (fun _ => ?_)
                  refine lv_iconst (v := 1) hx hb dX5_layHollows_156 (by decide) ?_
                  refine lv_goto (tgt := 161) hx hb dX5_layHollows_157 (by decide) ?_
                  refine lv_istore (lv' := [(4, .int (1 : Int32)), (0, .ref (ad 0)), (5, .int v5_61)]) hx hb dX5_layHollows_161 hl (by decide) rfl (fun ls hl => ?_)
                  obtain ⟨x74, ex74, hf⟩ := nm_ex hf
                  refine lv_iinc (v := x74) (lv' := [(5, .int x74), (4, .int (1 : Int32)), (0, .ref (ad 0))]) hx hb dX5_layHollows_163 hl (k := 2) rfl (Eq.trans rfl ex74) (by decide) rfl (fun ls hl => ?_)
                  refine lv_goto (tgt := 61) hx hb dX5_layHollows_166 (by decide) ?_
                  exact ih (1 : Int32) x74 y72.2 _ _ ls hf hP hD hS (lv_sub hl [2, 1, 0] rfl)
              · have hf := (if_neg h).symm.trans hf
                refine lv_iload hx hb dX5_layHollows_133 (lv_at hl 2 rfl) ?_
                refine lv_aload_n hx hb dX5_layHollows_135 rfl (lv_at hl 1 rfl) ?_
                refine va_get (D := D) (ci := 5) (v := .int o.2.1) (C := RX5) (T := TX5) (N := 24) hx hb hts inX5 hown hKK.1 hP 0 rfl rfl 2 (by decide) (hts _ q675) (fun _ h => h) rfl dX5_layHollows_136 ?_
                refine lv_iadd hx hb dX5_layHollows_139 ?_
                refine lv_goto (tgt := 145) hx hb dX5_layHollows_140 (by decide) ?_
                obtain ⟨y76, hc75, hf⟩ := bd_some hf
                have hP1 := hP.sub (ws' := [moC ad o, arI cy (ad 12) 36 y48.2]) [0, 2] rfl
                have hD1 := hD.sub (ws' := [moC ad o, arI cy (ad 12) 36 y48.2]) [0, 2] (by decide) rfl
                refine mCallVI ⟨hx, hb, hml, hown, hts⟩ (mtX5_draw l D cy z ad o y48.2 v5_61 (v5_61 + o.2.1) y76.1 y76.2 hc75) miX5_draw q857 ⟨Nat.le_of_ble_eq_true rfl, Nat.le_of_ble_eq_true rfl⟩ ⟨rfl, rfl⟩ hP1 hD1 hKK hA0 (va_recv hKK.1 hP1 (ci := 5) (q0 := 0) rfl rfl) rfl hl.1 rfl (Nat.le_of_ble_eq_true rfl) dX5_layHollows_145 ⟨Nat.zero_le _, Nat.zero_le _⟩ hS hP hD [0, 2] rfl rfl (ws' := [moC ad o, arI cy kr 51 w, arI cy (ad 12) 36 y76.2]) rfl (fun H locs hP hD hS => ?_)
                refine lv_if_ne (tgt := 156) hx hb dX5_layHollows_148 (by decide) (fun h => ?_) (fun h => ?_)
                · have hf := (if_neg h).symm.trans hf
                  refine lv_iconst (v := 1) hx hb dX5_layHollows_156 (by decide) ?_
                  refine lv_goto (tgt := 161) hx hb dX5_layHollows_157 (by decide) ?_
                  refine lv_istore (lv' := [(4, .int (1 : Int32)), (0, .ref (ad 0)), (5, .int v5_61)]) hx hb dX5_layHollows_161 hl (by decide) rfl (fun ls hl => ?_)
                  obtain ⟨x77, ex77, hf⟩ := nm_ex hf
                  refine lv_iinc (v := x77) (lv' := [(5, .int x77), (4, .int (1 : Int32)), (0, .ref (ad 0))]) hx hb dX5_layHollows_163 hl (k := 2) rfl (Eq.trans rfl ex77) (by decide) rfl (fun ls hl => ?_)
                  refine lv_goto (tgt := 61) hx hb dX5_layHollows_166 (by decide) ?_
                  exact ih (1 : Int32) x77 y76.2 _ _ ls hf hP hD hS (lv_sub hl [2, 1, 0] rfl)
                · have hf := (if_pos h).symm.trans hf
                  refine lv_iload hx hb dX5_layHollows_151 (lv_at hl 0 rfl) ?_
                  refine lv_if_eq (tgt := 160) hx hb dX5_layHollows_153 (by decide) (fun h => absurd h (by decide)) (fun _ => ?_)
                  refine lv_iconst (v := 1) hx hb dX5_layHollows_156 (by decide) ?_
                  refine lv_goto (tgt := 161) hx hb dX5_layHollows_157 (by decide) ?_
                  refine lv_istore (lv' := [(4, .int (1 : Int32)), (0, .ref (ad 0)), (5, .int v5_61)]) hx hb dX5_layHollows_161 hl (by decide) rfl (fun ls hl => ?_)
                  obtain ⟨x78, ex78, hf⟩ := nm_ex hf
                  refine lv_iinc (v := x78) (lv' := [(5, .int x78), (4, .int (1 : Int32)), (0, .ref (ad 0))]) hx hb dX5_layHollows_163 hl (k := 2) rfl (Eq.trans rfl ex78) (by decide) rfl (fun ls hl => ?_)
                  refine lv_goto (tgt := 61) hx hb dX5_layHollows_166 (by decide) ?_
                  exact ih (1 : Int32) x78 y76.2 _ _ ls hf hP hD hS (lv_sub hl [2, 1, 0] rfl)
  have w_50 : ∀ (k172 : tA → Option (Int32 × tA)) (hk172 : ∀ (ho_50 : tA) (H : Heap) (locs : List Loc) (ls : Array Slot), k172 ho_50 = some (r0, ho0) → va_P D vwCl ([moC ad o, arI cy kr 51 w, arI cy (ad 12) 36 ho_50]) H → va_D (adr ([moC ad o, arI cy kr 51 w, arI cy (ad 12) 36 ho])) ([moC ad o, arI cy kr 51 w, arI cy (ad 12) 36 ho_50]) → va_S (adr ([moC ad o, arI cy kr 51 w, arI cy (ad 12) 36 ho])) s.heap H locs → lv_has ls 7 [(0, .ref (ad 0))] → W p l e rmX5_layHollows s m ([.ref (ad 0), .ref kr] : List Value).toArray below meth c H locs 0 0 (MQ below (mQ D ([moC ad o, arI cy kr 51 w, arI cy (ad 12) 36 ho]) ([moC ad o, arI cy kr 51 w, arI cy (ad 12) 36 ho0]) (some (.int r0))) ([.ref (ad 0), .ref kr] : List Value).toArray s 0 0 (adr ([moC ad o, arI cy kr 51 w, arI cy (ad 12) 36 ho]))) (F0 m 172 ls [])) (n : Nat) (v4_50 : Int32) (ho_50 : tA) (H : Heap) (locs : List Loc) (ls : Array Slot), fX5_layHollows_50 o w k172 n v4_50 ho_50 = some (r0, ho0) → va_P D vwCl ([moC ad o, arI cy kr 51 w, arI cy (ad 12) 36 ho_50]) H → va_D (adr ([moC ad o, arI cy kr 51 w, arI cy (ad 12) 36 ho])) ([moC ad o, arI cy kr 51 w, arI cy (ad 12) 36 ho_50]) → va_S (adr ([moC ad o, arI cy kr 51 w, arI cy (ad 12) 36 ho])) s.heap H locs → lv_has ls 7 [(0, .ref (ad 0)), (4, .int v4_50)] → W p l e rmX5_layHollows s m ([.ref (ad 0), .ref kr] : List Value).toArray below meth c H locs 0 0 (MQ below (mQ D ([moC ad o, arI cy kr 51 w, arI cy (ad 12) 36 ho]) ([moC ad o, arI cy kr 51 w, arI cy (ad 12) 36 ho0]) (some (.int r0))) ([.ref (ad 0), .ref kr] : List Value).toArray s 0 0 (adr ([moC ad o, arI cy kr 51 w, arI cy (ad 12) 36 ho]))) (F0 m 50 ls []) := by
    intro k172 hk172 n
    induction n with
    | zero =>
      intro v4_50 ho_50 H locs ls hf hP hD hS hl
      cases (show (none : Option (Int32 × tA)) = some (r0, ho0) from hf)
    | succ n ih =>
      intro v4_50 ho_50 H locs ls hf hP hD hS hl
      rw [fX5_layHollows_50] at hf
      refine lv_iload hx hb dX5_layHollows_50 (lv_at hl 1 rfl) ?_
      refine lv_if_eq (tgt := 172) hx hb dX5_layHollows_52 (by decide) (fun h => ?_) (fun h => ?_)
      · have hf := (if_pos h).symm.trans hf
        exact hk172 ho_50 _ _ ls hf hP hD hS (lv_sub hl [0] rfl)
      · have hf := (if_neg h).symm.trans hf
        refine lv_iconst (v := 0) hx hb dX5_layHollows_55 (by decide) ?_
        refine lv_istore (lv' := [(4, .int (0 : Int32)), (0, .ref (ad 0))]) hx hb dX5_layHollows_56 hl (by decide) rfl (fun ls hl => ?_)
        refine lv_iconst (v := 0) hx hb dX5_layHollows_58 (by decide) ?_
        refine lv_istore (lv' := [(5, .int (0 : Int32)), (4, .int (0 : Int32)), (0, .ref (ad 0))]) hx hb dX5_layHollows_59 hl (by decide) rfl (fun ls hl => ?_)
        refine w_61 _ ?_ _ (0 : Int32) (0 : Int32) ho_50 _ _ ls hf hP hD hS (lv_sub hl [2, 1, 0] rfl)
        · intro y79 ho80 H locs ls hf hP hD hS hl
          refine lv_goto (tgt := 50) hx hb dX5_layHollows_169 (by decide) ?_
          exact ih y79 ho80 _ _ ls hf hP hD hS (lv_sub hl [0, 1] rfl)
  have w_178 : ∀ (ho_178 : tA) (k215 : Int32 → Option (Int32 × tA)) (hk215 : ∀ (v5_178 : Int32) (H : Heap) (locs : List Loc) (ls : Array Slot), k215 v5_178 = some (r0, ho0) → va_P D vwCl ([moC ad o, arI cy kr 51 w, arI cy (ad 12) 36 ho_178]) H → va_D (adr ([moC ad o, arI cy kr 51 w, arI cy (ad 12) 36 ho])) ([moC ad o, arI cy kr 51 w, arI cy (ad 12) 36 ho_178]) → va_S (adr ([moC ad o, arI cy kr 51 w, arI cy (ad 12) 36 ho])) s.heap H locs → lv_has ls 7 [(5, .int v5_178)] → W p l e rmX5_layHollows s m ([.ref (ad 0), .ref kr] : List Value).toArray below meth c H locs 0 0 (MQ below (mQ D ([moC ad o, arI cy kr 51 w, arI cy (ad 12) 36 ho]) ([moC ad o, arI cy kr 51 w, arI cy (ad 12) 36 ho0]) (some (.int r0))) ([.ref (ad 0), .ref kr] : List Value).toArray s 0 0 (adr ([moC ad o, arI cy kr 51 w, arI cy (ad 12) 36 ho]))) (F0 m 215 ls [])) (n : Nat) (v5_178 : Int32) (v6_178 : Int32) (H : Heap) (locs : List Loc) (ls : Array Slot), fX5_layHollows_178 o w ho_178 k215 n v5_178 v6_178 = some (r0, ho0) → va_P D vwCl ([moC ad o, arI cy kr 51 w, arI cy (ad 12) 36 ho_178]) H → va_D (adr ([moC ad o, arI cy kr 51 w, arI cy (ad 12) 36 ho])) ([moC ad o, arI cy kr 51 w, arI cy (ad 12) 36 ho_178]) → va_S (adr ([moC ad o, arI cy kr 51 w, arI cy (ad 12) 36 ho])) s.heap H locs → lv_has ls 7 [(0, .ref (ad 0)), (5, .int v5_178), (6, .int v6_178)] → W p l e rmX5_layHollows s m ([.ref (ad 0), .ref kr] : List Value).toArray below meth c H locs 0 0 (MQ below (mQ D ([moC ad o, arI cy kr 51 w, arI cy (ad 12) 36 ho]) ([moC ad o, arI cy kr 51 w, arI cy (ad 12) 36 ho0]) (some (.int r0))) ([.ref (ad 0), .ref kr] : List Value).toArray s 0 0 (adr ([moC ad o, arI cy kr 51 w, arI cy (ad 12) 36 ho]))) (F0 m 178 ls []) := by
    intro ho_178 k215 hk215 n
    induction n with
    | zero =>
      intro v5_178 v6_178 H locs ls hf hP hD hS hl
      cases (show (none : Option (Int32 × tA)) = some (r0, ho0) from hf)
    | succ n ih =>
      intro v5_178 v6_178 H locs ls hf hP hD hS hl
      rw [fX5_layHollows_178] at hf
      refine lv_iload hx hb dX5_layHollows_178 (lv_at hl 2 rfl) ?_
      refine lv_aload_n hx hb dX5_layHollows_180 rfl (lv_at hl 0 rfl) ?_
      obtain ⟨r83, hc82, hf⟩ := bd_some hf
      have hP1 := hP.sub (ws' := [moC ad o]) [0] rfl
      refine pCallVI ⟨hx, hb, hml, hown, hts⟩ (mtX5_cells l D cy z ad o r83 hc82) miX5_cells q792 ⟨Nat.le_of_ble_eq_true rfl, Nat.le_of_ble_eq_true rfl⟩ ⟨rfl, rfl⟩ hP1 hKK hS hA0 (va_recv hKK.1 hP1 (ci := 5) (q0 := 0) rfl rfl) rfl hl.1 rfl (Nat.le_of_ble_eq_true rfl) dX5_layHollows_181 ⟨Nat.zero_le _, Nat.zero_le _⟩ ?_
      refine lv_icmp_ge (tgt := 215) hx hb dX5_layHollows_184 (by decide) (fun h => ?_) (fun h => ?_)
      · have hf := (if_pos h).symm.trans hf
        exact hk215 v5_178 _ _ ls hf hP hD hS (lv_sub hl [1] rfl)
      · have hf := (if_neg h).symm.trans hf
        refine lv_iload hx hb dX5_layHollows_187 (lv_at hl 1 rfl) ?_
        refine lv_aload_n hx hb dX5_layHollows_189 rfl (lv_at hl 0 rfl) ?_
        refine va_get (D := D) (ci := 5) (v := .ref (ad 12)) (C := RX5) (T := TX5) (N := 24) hx hb hts inX5 hown hKK.1 hP 0 rfl rfl 23 (by decide) (hts _ q696) (fun _ h => h) rfl dX5_layHollows_190 ?_
        refine lv_iload hx hb dX5_layHollows_193 (lv_at hl 2 rfl) ?_
        obtain ⟨hg84, hf⟩ := gd_some hf
        refine va_iald hx hb hKK.1 hP 2 0 rfl rfl (inb_in hg84) dX5_layHollows_195 ?_
        refine lv_iload hx hb dX5_layHollows_196 (lv_at hl 2 rfl) ?_
        refine lv_icmp_ne (tgt := 205) hx hb dX5_layHollows_198 (by decide) (fun h => ?_) (fun h => ?_)
        · have hf := (if_neg h).symm.trans hf
          refine lv_iconst (v := 0) hx hb dX5_layHollows_205 (by decide) ?_
          refine lv_iadd hx hb dX5_layHollows_206 ?_
          refine nm_i hf (fun x85 hf => ?_)
          refine lv_istore (lv' := [(5, .int x85), (0, .ref (ad 0)), (6, .int v6_178)]) hx hb dX5_layHollows_207 hl (by decide) rfl (fun ls hl => ?_)
          obtain ⟨x86, ex86, hf⟩ := nm_ex hf
          refine lv_iinc (v := x86) (lv' := [(6, .int x86), (5, .int x85), (0, .ref (ad 0))]) hx hb dX5_layHollows_209 hl (k := 2) rfl (Eq.trans rfl ex86) (by decide) rfl (fun ls hl => ?_)
          refine lv_goto (tgt := 178) hx hb dX5_layHollows_212 (by decide) ?_
          exact ih x85 x86 _ _ ls hf hP hD hS (lv_sub hl [2, 1, 0] rfl)
        · have hf := (if_pos h).symm.trans hf
          refine lv_iconst (v := 1) hx hb dX5_layHollows_201 (by decide) ?_
          refine lv_goto (tgt := 206) hx hb dX5_layHollows_202 (by decide) ?_
          refine lv_iadd hx hb dX5_layHollows_206 ?_
          refine nm_i hf (fun x87 hf => ?_)
          refine lv_istore (lv' := [(5, .int x87), (0, .ref (ad 0)), (6, .int v6_178)]) hx hb dX5_layHollows_207 hl (by decide) rfl (fun ls hl => ?_)
          obtain ⟨x88, ex88, hf⟩ := nm_ex hf
          refine lv_iinc (v := x88) (lv' := [(6, .int x88), (5, .int x87), (0, .ref (ad 0))]) hx hb dX5_layHollows_209 hl (k := 2) rfl (Eq.trans rfl ex88) (by decide) rfl (fun ls hl => ?_)
          refine lv_goto (tgt := 178) hx hb dX5_layHollows_212 (by decide) ?_
          exact ih x87 x88 _ _ ls hf hP hD hS (lv_sub hl [2, 1, 0] rfl)
  unfold fX5_layHollows at hf
  refine lv_aload_n hx hb dX5_layHollows_0 rfl (lv_at hl 0 rfl) ?_
  refine lv_aload_n hx hb dX5_layHollows_1 rfl (lv_at hl 1 rfl) ?_
  obtain ⟨r2, hc1, hf⟩ := bd_some hf
  have hP1 := hP.sub (ws' := [moC ad o, arI cy kr 51 w]) [0, 1] rfl
  refine pCallVL ⟨hx, hb, hml, hown, hts⟩ (mtX5_watchedByAny l D cy z ad kr o w r2 hc1) miX5_watchedByAny q804 ⟨Nat.le_of_ble_eq_true rfl, Nat.le_of_ble_eq_true rfl⟩ ⟨rfl, rfl⟩ hP1 hKK hS hA0 (va_recv hKK.1 hP1 (ci := 5) (q0 := 0) rfl rfl) rfl hl.1 rfl (Nat.le_of_ble_eq_true rfl) dX5_layHollows_2 ⟨Nat.zero_le _, Nat.zero_le _⟩ ?_
  refine lv_lstore_n (lv' := [(2, .long r2), (0, .ref (ad 0)), (1, .ref kr)]) hx hb dX5_layHollows_5 rfl hl (by decide) rfl (fun ls hl => ?_)
  refine lv_iconst (v := 0) hx hb dX5_layHollows_6 (by decide) ?_
  refine lv_istore (lv' := [(4, .int (0 : Int32)), (2, .long r2), (0, .ref (ad 0)), (1, .ref kr)]) hx hb dX5_layHollows_7 hl (by decide) rfl (fun ls hl => ?_)
  refine w_9 r2 _ ?_ _ (0 : Int32) ho _ _ ls hf hP hD hS (lv_sub hl [2, 1, 0] rfl)
  · intro ho11 H locs ls hf hP hD hS hl
    refine lv_iconst (v := 1) hx hb dX5_layHollows_47 (by decide) ?_
    refine lv_istore (lv' := [(4, .int (1 : Int32)), (0, .ref (ad 0))]) hx hb dX5_layHollows_48 hl (by decide) rfl (fun ls hl => ?_)
    refine w_50 _ ?_ _ (1 : Int32) ho11 _ _ ls hf hP hD hS (lv_sub hl [1, 0] rfl)
    · intro ho81 H locs ls hf hP hD hS hl
      refine lv_iconst (v := 0) hx hb dX5_layHollows_172 (by decide) ?_
      refine lv_istore (lv' := [(5, .int (0 : Int32)), (0, .ref (ad 0))]) hx hb dX5_layHollows_173 hl (by decide) rfl (fun ls hl => ?_)
      refine lv_iconst (v := 0) hx hb dX5_layHollows_175 (by decide) ?_
      refine lv_istore (lv' := [(6, .int (0 : Int32)), (5, .int (0 : Int32)), (0, .ref (ad 0))]) hx hb dX5_layHollows_176 hl (by decide) rfl (fun ls hl => ?_)
      refine w_178 ho81 _ ?_ _ (0 : Int32) (0 : Int32) _ _ ls hf hP hD hS (lv_sub hl [2, 1, 0] rfl)
      · intro y89 H locs ls hf hP hD hS hl
        refine lv_iload hx hb dX5_layHollows_215 (lv_at hl 0 rfl) ?_
        cases hf
        exact mretI hx hb hr hlk hP hS dX5_layHollows_217

abbrev rmX5_numberOf : Room := { frames := 0, cells := 0, slots := 0, locals := 0 }
theorem miX5_numberOf : miV yX5_numberOf cX5_numberOf 4 (some .int) 1 := ⟨q880, q46, q879, q30, by decide +kernel⟩
set_option maxHeartbeats 4000000 in
set_option maxRecDepth 100000 in
theorem mtX5_numberOf (l : Launch) (D : va_G) (cy : Nat → ClassId) (z : zT) (ad : Nat → Nat) (o : tMo) (ho : tA) (u1 : Int32) (r0 : Int32) (hf : fX5_numberOf o ho u1 = some r0) : pmet l yX5_numberOf cX5_numberOf 4 (some .int) rmX5_numberOf D cy z ([moC ad o, arI cy (ad 12) 36 ho]) [.ref (ad 0), .int u1] (some (.int r0)) := by
  refine pmet_of (by decide +kernel) (Nat.le_of_ble_eq_true rfl) (fun p e s m below meth c hx hb hr hml hown hts hlk hP hKK ls hl => ?_)
  have hS : va_S noF s.heap s.heap [] := va_S.rf
  have hA0 : ∀ q, noF q → zA z q := fun _ h => h.elim
  have hown : s.vm.findClass "HillSightModel" = some m.cls := hown
  have hl : lv_has ls 4 [(0, .ref (ad 0)), (1, .int u1)] := hl
  have w_4 : ∀ (g1_4 : Int32) (k33 : Int32 → Option (Int32)) (hk33 : ∀ (v2_4 : Int32) (ls : Array Slot), k33 v2_4 = some r0 → lv_has ls 4 [(2, .int v2_4)] → W p l e rmX5_numberOf s m ([.ref (ad 0), .int u1] : List Value).toArray below meth c s.heap [] 0 0 (MQ below (pQ (some (.int r0))) ([.ref (ad 0), .int u1] : List Value).toArray s 0 0 noF) (F0 m 33 ls [])) (n : Nat) (v2_4 : Int32) (v3_4 : Int32) (ls : Array Slot), fX5_numberOf_4 o ho g1_4 k33 n v2_4 v3_4 = some r0 → lv_has ls 4 [(0, .ref (ad 0)), (1, .int g1_4), (2, .int v2_4), (3, .int v3_4)] → W p l e rmX5_numberOf s m ([.ref (ad 0), .int u1] : List Value).toArray below meth c s.heap [] 0 0 (MQ below (pQ (some (.int r0))) ([.ref (ad 0), .int u1] : List Value).toArray s 0 0 noF) (F0 m 4 ls []) := by
    intro g1_4 k33 hk33 n
    induction n with
    | zero =>
      intro v2_4 v3_4 ls hf hl
      cases (show (none : Option (Int32)) = some r0 from hf)
    | succ n ih =>
      intro v2_4 v3_4 ls hf hl
      rw [fX5_numberOf_4] at hf
      refine lv_iload_n hx hb dX5_numberOf_4 rfl (lv_at hl 3 rfl) ?_
      refine lv_iload_n hx hb dX5_numberOf_5 rfl (lv_at hl 1 rfl) ?_
      refine lv_icmp_ge (tgt := 33) hx hb dX5_numberOf_6 (by decide) (fun h => ?_) (fun h => ?_)
      · have hf := (if_pos h).symm.trans hf
        exact hk33 v2_4 ls hf (lv_sub hl [2] rfl)
      · have hf := (if_neg h).symm.trans hf
        refine lv_iload_n hx hb dX5_numberOf_9 rfl (lv_at hl 2 rfl) ?_
        refine lv_aload_n hx hb dX5_numberOf_10 rfl (lv_at hl 0 rfl) ?_
        refine va_get (D := D) (ci := 5) (v := .ref (ad 12)) (C := RX5) (T := TX5) (N := 24) hx hb hts inX5 hown hKK.1 hP 0 rfl rfl 23 (by decide) (hts _ q696) (fun _ h => h) rfl dX5_numberOf_11 ?_
        refine lv_iload_n hx hb dX5_numberOf_14 rfl (lv_at hl 3 rfl) ?_
        obtain ⟨hg1, hf⟩ := gd_some hf
        refine va_iald hx hb hKK.1 hP 1 0 rfl rfl (inb_in hg1) dX5_numberOf_15 ?_
        refine lv_iload_n hx hb dX5_numberOf_16 rfl (lv_at hl 3 rfl) ?_
        refine lv_icmp_ne (tgt := 24) hx hb dX5_numberOf_17 (by decide) (fun h => ?_) (fun h => ?_)
        · have hf := (if_neg h).symm.trans hf
          refine lv_iconst (v := 0) hx hb dX5_numberOf_24 (by decide) ?_
          refine lv_iadd hx hb dX5_numberOf_25 ?_
          refine nm_i hf (fun x2 hf => ?_)
          refine lv_istore_n (lv' := [(2, .int x2), (0, .ref (ad 0)), (1, .int g1_4), (3, .int v3_4)]) hx hb dX5_numberOf_26 rfl hl (by decide) rfl (fun ls hl => ?_)
          obtain ⟨x3, ex3, hf⟩ := nm_ex hf
          refine lv_iinc (v := x3) (lv' := [(3, .int x3), (2, .int x2), (0, .ref (ad 0)), (1, .int g1_4)]) hx hb dX5_numberOf_27 hl (k := 3) rfl (Eq.trans rfl ex3) (by decide) rfl (fun ls hl => ?_)
          refine lv_goto (tgt := 4) hx hb dX5_numberOf_30 (by decide) ?_
          exact ih x2 x3 ls hf (lv_sub hl [2, 3, 1, 0] rfl)
        · have hf := (if_pos h).symm.trans hf
          refine lv_iconst (v := 1) hx hb dX5_numberOf_20 (by decide) ?_
          refine lv_goto (tgt := 25) hx hb dX5_numberOf_21 (by decide) ?_
          refine lv_iadd hx hb dX5_numberOf_25 ?_
          refine nm_i hf (fun x4 hf => ?_)
          refine lv_istore_n (lv' := [(2, .int x4), (0, .ref (ad 0)), (1, .int g1_4), (3, .int v3_4)]) hx hb dX5_numberOf_26 rfl hl (by decide) rfl (fun ls hl => ?_)
          obtain ⟨x5, ex5, hf⟩ := nm_ex hf
          refine lv_iinc (v := x5) (lv' := [(3, .int x5), (2, .int x4), (0, .ref (ad 0)), (1, .int g1_4)]) hx hb dX5_numberOf_27 hl (k := 3) rfl (Eq.trans rfl ex5) (by decide) rfl (fun ls hl => ?_)
          refine lv_goto (tgt := 4) hx hb dX5_numberOf_30 (by decide) ?_
          exact ih x4 x5 ls hf (lv_sub hl [2, 3, 1, 0] rfl)
  unfold fX5_numberOf at hf
  refine lv_iconst (v := 0) hx hb dX5_numberOf_0 (by decide) ?_
  refine lv_istore_n (lv' := [(2, .int (0 : Int32)), (0, .ref (ad 0)), (1, .int u1)]) hx hb dX5_numberOf_1 rfl hl (by decide) rfl (fun ls hl => ?_)
  refine lv_iconst (v := 0) hx hb dX5_numberOf_2 (by decide) ?_
  refine lv_istore_n (lv' := [(3, .int (0 : Int32)), (2, .int (0 : Int32)), (0, .ref (ad 0)), (1, .int u1)]) hx hb dX5_numberOf_3 rfl hl (by decide) rfl (fun ls hl => ?_)
  refine w_4 u1 _ ?_ _ (0 : Int32) (0 : Int32) ls hf (lv_sub hl [2, 3, 1, 0] rfl)
  · intro y6 ls hf hl
    refine lv_iload_n hx hb dX5_numberOf_33 rfl (lv_at hl 0 rfl) ?_
    exact pretI hx hb hr hlk hf dX5_numberOf_34

abbrev rmX5_towersOn : Room := { frames := 0, cells := 0, slots := 0, locals := 0 }
theorem miX5_towersOn : miV yX5_towersOn cX5_towersOn 4 (some .int) 1 := ⟨q872, q46, q871, q28, by decide +kernel⟩
set_option maxHeartbeats 4000000 in
set_option maxRecDepth 100000 in
theorem mtX5_towersOn (l : Launch) (D : va_G) (cy : Nat → ClassId) (z : zT) (ad : Nat → Nat) (o : tMo) (w : tA) (u1 : Int32) (r0 : Int32) (hf : fX5_towersOn o w u1 = some r0) : pmet l yX5_towersOn cX5_towersOn 4 (some .int) rmX5_towersOn D cy z ([moC ad o, arI cy (ad 2) 51 w]) [.ref (ad 0), .int u1] (some (.int r0)) := by
  refine pmet_of (by decide +kernel) (Nat.le_of_ble_eq_true rfl) (fun p e s m below meth c hx hb hr hml hown hts hlk hP hKK ls hl => ?_)
  have hS : va_S noF s.heap s.heap [] := va_S.rf
  have hA0 : ∀ q, noF q → zA z q := fun _ h => h.elim
  have hown : s.vm.findClass "HillSightModel" = some m.cls := hown
  have hl : lv_has ls 4 [(0, .ref (ad 0)), (1, .int u1)] := hl
  have w_4 : ∀ (g1_4 : Int32) (k44 : Int32 → Option (Int32)) (hk44 : ∀ (v2_4 : Int32) (ls : Array Slot), k44 v2_4 = some r0 → lv_has ls 4 [(2, .int v2_4)] → W p l e rmX5_towersOn s m ([.ref (ad 0), .int u1] : List Value).toArray below meth c s.heap [] 0 0 (MQ below (pQ (some (.int r0))) ([.ref (ad 0), .int u1] : List Value).toArray s 0 0 noF) (F0 m 44 ls [])) (n : Nat) (v2_4 : Int32) (v3_4 : Int32) (ls : Array Slot), fX5_towersOn_4 o w g1_4 k44 n v2_4 v3_4 = some r0 → lv_has ls 4 [(0, .ref (ad 0)), (1, .int g1_4), (2, .int v2_4), (3, .int v3_4)] → W p l e rmX5_towersOn s m ([.ref (ad 0), .int u1] : List Value).toArray below meth c s.heap [] 0 0 (MQ below (pQ (some (.int r0))) ([.ref (ad 0), .int u1] : List Value).toArray s 0 0 noF) (F0 m 4 ls []) := by
    intro g1_4 k44 hk44 n
    induction n with
    | zero =>
      intro v2_4 v3_4 ls hf hl
      cases (show (none : Option (Int32)) = some r0 from hf)
    | succ n ih =>
      intro v2_4 v3_4 ls hf hl
      rw [fX5_towersOn_4] at hf
      refine lv_iload_n hx hb dX5_towersOn_4 rfl (lv_at hl 3 rfl) ?_
      refine lv_aload_n hx hb dX5_towersOn_5 rfl (lv_at hl 0 rfl) ?_
      refine va_get (D := D) (ci := 5) (v := .ref (ad 2)) (C := RX5) (T := TX5) (N := 24) hx hb hts inX5 hown hKK.1 hP 0 rfl rfl 4 (by decide) (hts _ q677) (fun _ h => h) rfl dX5_towersOn_6 ?_
      refine lv_bipush (v := 36) hx hb dX5_towersOn_9 (by decide) ?_
      refine va_iald hx hb hKK.1 hP 1 0 rfl rfl (inb_in (by decide)) dX5_towersOn_11 ?_
      refine lv_icmp_ge (tgt := 44) hx hb dX5_towersOn_12 (by decide) (fun h => ?_) (fun h => ?_)
      · have hf := (if_pos h).symm.trans hf
        exact hk44 v2_4 ls hf (lv_sub hl [2] rfl)
      · have hf := (if_neg h).symm.trans hf
        refine lv_iload_n hx hb dX5_towersOn_15 rfl (lv_at hl 2 rfl) ?_
        refine lv_aload_n hx hb dX5_towersOn_16 rfl (lv_at hl 0 rfl) ?_
        refine va_get (D := D) (ci := 5) (v := .ref (ad 2)) (C := RX5) (T := TX5) (N := 24) hx hb hts inX5 hown hKK.1 hP 0 rfl rfl 4 (by decide) (hts _ q677) (fun _ h => h) rfl dX5_towersOn_17 ?_
        refine lv_bipush (v := 37) hx hb dX5_towersOn_20 (by decide) ?_
        refine lv_iload_n hx hb dX5_towersOn_22 rfl (lv_at hl 3 rfl) ?_
        refine lv_iadd hx hb dX5_towersOn_23 ?_
        obtain ⟨hg1, hf⟩ := gd_some hf
        refine va_iald hx hb hKK.1 hP 1 0 rfl rfl (inb_in hg1) dX5_towersOn_24 ?_
        refine lv_iload_n hx hb dX5_towersOn_25 rfl (lv_at hl 1 rfl) ?_
        refine lv_icmp_ne (tgt := 35) hx hb dX5_towersOn_26 (by decide) (fun h => ?_) (fun h => ?_)
        · have hf := (if_neg h).symm.trans hf
          refine lv_iconst (v := 0) hx hb dX5_towersOn_35 (by decide) ?_
          refine lv_ior hx hb dX5_towersOn_36 ?_
          refine nm_i hf (fun x2 hf => ?_)
          refine lv_istore_n (lv' := [(2, .int x2), (0, .ref (ad 0)), (1, .int g1_4), (3, .int v3_4)]) hx hb dX5_towersOn_37 rfl hl (by decide) rfl (fun ls hl => ?_)
          obtain ⟨x3, ex3, hf⟩ := nm_ex hf
          refine lv_iinc (v := x3) (lv' := [(3, .int x3), (2, .int x2), (0, .ref (ad 0)), (1, .int g1_4)]) hx hb dX5_towersOn_38 hl (k := 3) rfl (Eq.trans rfl ex3) (by decide) rfl (fun ls hl => ?_)
          refine lv_goto (tgt := 4) hx hb dX5_towersOn_41 (by decide) ?_
          exact ih x2 x3 ls hf (lv_sub hl [2, 3, 1, 0] rfl)
        · have hf := (if_pos h).symm.trans hf
          refine lv_iconst (v := 1) hx hb dX5_towersOn_29 (by decide) ?_
          refine lv_iload_n hx hb dX5_towersOn_30 rfl (lv_at hl 3 rfl) ?_
          refine lv_ishl hx hb dX5_towersOn_31 ?_
          refine lv_goto (tgt := 36) hx hb dX5_towersOn_32 (by decide) ?_
          refine lv_ior hx hb dX5_towersOn_36 ?_
          refine nm_i hf (fun x4 hf => ?_)
          refine lv_istore_n (lv' := [(2, .int x4), (0, .ref (ad 0)), (1, .int g1_4), (3, .int v3_4)]) hx hb dX5_towersOn_37 rfl hl (by decide) rfl (fun ls hl => ?_)
          obtain ⟨x5, ex5, hf⟩ := nm_ex hf
          refine lv_iinc (v := x5) (lv' := [(3, .int x5), (2, .int x4), (0, .ref (ad 0)), (1, .int g1_4)]) hx hb dX5_towersOn_38 hl (k := 3) rfl (Eq.trans rfl ex5) (by decide) rfl (fun ls hl => ?_)
          refine lv_goto (tgt := 4) hx hb dX5_towersOn_41 (by decide) ?_
          exact ih x4 x5 ls hf (lv_sub hl [2, 3, 1, 0] rfl)
  unfold fX5_towersOn at hf
  refine lv_iconst (v := 0) hx hb dX5_towersOn_0 (by decide) ?_
  refine lv_istore_n (lv' := [(2, .int (0 : Int32)), (0, .ref (ad 0)), (1, .int u1)]) hx hb dX5_towersOn_1 rfl hl (by decide) rfl (fun ls hl => ?_)
  refine lv_iconst (v := 0) hx hb dX5_towersOn_2 (by decide) ?_
  refine lv_istore_n (lv' := [(3, .int (0 : Int32)), (2, .int (0 : Int32)), (0, .ref (ad 0)), (1, .int u1)]) hx hb dX5_towersOn_3 rfl hl (by decide) rfl (fun ls hl => ?_)
  refine w_4 u1 _ ?_ _ (0 : Int32) (0 : Int32) ls hf (lv_sub hl [2, 3, 1, 0] rfl)
  · intro y6 ls hf hl
    refine lv_iload_n hx hb dX5_towersOn_44 rfl (lv_at hl 0 rfl) ?_
    exact pretI hx hb hr hlk hf dX5_towersOn_45

abbrev rmX5_watchersOf : Room := { frames := 7, cells := 0, slots := 0, locals := 178 }
theorem miX5_watchersOf : miV yX5_watchersOf cX5_watchersOf 4 (some .int) 1 := ⟨q876, q46, q875, q29, by decide +kernel⟩
set_option maxHeartbeats 4000000 in
set_option maxRecDepth 100000 in
theorem mtX5_watchersOf (l : Launch) (D : va_G) (cy : Nat → ClassId) (z : zT) (ad : Nat → Nat) (o : tMo) (w : tA) (u1 : Int32) (r0 : Int32) (hf : fX5_watchersOf o w u1 = some r0) : pmet l yX5_watchersOf cX5_watchersOf 4 (some .int) rmX5_watchersOf D cy z ([moC ad o, arI cy (ad 2) 51 w]) [.ref (ad 0), .int u1] (some (.int r0)) := by
  refine pmet_of (by decide +kernel) (Nat.le_of_ble_eq_true rfl) (fun p e s m below meth c hx hb hr hml hown hts hlk hP hKK ls hl => ?_)
  have hS : va_S noF s.heap s.heap [] := va_S.rf
  have hA0 : ∀ q, noF q → zA z q := fun _ h => h.elim
  have hown : s.vm.findClass "HillSightModel" = some m.cls := hown
  have hl : lv_has ls 4 [(0, .ref (ad 0)), (1, .int u1)] := hl
  have w_4 : ∀ (g1_4 : Int32) (k59 : Int32 → Option (Int32)) (hk59 : ∀ (v2_4 : Int32) (ls : Array Slot), k59 v2_4 = some r0 → lv_has ls 4 [(2, .int v2_4)] → W p l e rmX5_watchersOf s m ([.ref (ad 0), .int u1] : List Value).toArray below meth c s.heap [] 0 0 (MQ below (pQ (some (.int r0))) ([.ref (ad 0), .int u1] : List Value).toArray s 0 0 noF) (F0 m 59 ls [])) (n : Nat) (v2_4 : Int32) (v3_4 : Int32) (ls : Array Slot), fX5_watchersOf_4 o w g1_4 k59 n v2_4 v3_4 = some r0 → lv_has ls 4 [(0, .ref (ad 0)), (1, .int g1_4), (2, .int v2_4), (3, .int v3_4)] → W p l e rmX5_watchersOf s m ([.ref (ad 0), .int u1] : List Value).toArray below meth c s.heap [] 0 0 (MQ below (pQ (some (.int r0))) ([.ref (ad 0), .int u1] : List Value).toArray s 0 0 noF) (F0 m 4 ls []) := by
    intro g1_4 k59 hk59 n
    induction n with
    | zero =>
      intro v2_4 v3_4 ls hf hl
      cases (show (none : Option (Int32)) = some r0 from hf)
    | succ n ih =>
      intro v2_4 v3_4 ls hf hl
      rw [fX5_watchersOf_4] at hf
      refine lv_iload_n hx hb dX5_watchersOf_4 rfl (lv_at hl 3 rfl) ?_
      refine lv_aload_n hx hb dX5_watchersOf_5 rfl (lv_at hl 0 rfl) ?_
      refine va_get (D := D) (ci := 5) (v := .ref (ad 2)) (C := RX5) (T := TX5) (N := 24) hx hb hts inX5 hown hKK.1 hP 0 rfl rfl 4 (by decide) (hts _ q677) (fun _ h => h) rfl dX5_watchersOf_6 ?_
      refine lv_bipush (v := 36) hx hb dX5_watchersOf_9 (by decide) ?_
      refine va_iald hx hb hKK.1 hP 1 0 rfl rfl (inb_in (by decide)) dX5_watchersOf_11 ?_
      refine lv_icmp_ge (tgt := 59) hx hb dX5_watchersOf_12 (by decide) (fun h => ?_) (fun h => ?_)
      · have hf := (if_pos h).symm.trans hf
        exact hk59 v2_4 ls hf (lv_sub hl [2] rfl)
      · have hf := (if_neg h).symm.trans hf
        refine lv_iload_n hx hb dX5_watchersOf_15 rfl (lv_at hl 2 rfl) ?_
        refine lv_aload_n hx hb dX5_watchersOf_16 rfl (lv_at hl 0 rfl) ?_
        refine lv_aload_n hx hb dX5_watchersOf_17 rfl (lv_at hl 0 rfl) ?_
        refine va_get (D := D) (ci := 5) (v := .ref (ad 2)) (C := RX5) (T := TX5) (N := 24) hx hb hts inX5 hown hKK.1 hP 0 rfl rfl 4 (by decide) (hts _ q677) (fun _ h => h) rfl dX5_watchersOf_18 ?_
        refine lv_aload_n hx hb dX5_watchersOf_21 rfl (lv_at hl 0 rfl) ?_
        refine va_get (D := D) (ci := 5) (v := .ref (ad 2)) (C := RX5) (T := TX5) (N := 24) hx hb hts inX5 hown hKK.1 hP 0 rfl rfl 4 (by decide) (hts _ q677) (fun _ h => h) rfl dX5_watchersOf_22 ?_
        refine lv_bipush (v := 37) hx hb dX5_watchersOf_25 (by decide) ?_
        refine lv_iload_n hx hb dX5_watchersOf_27 rfl (lv_at hl 3 rfl) ?_
        refine lv_iadd hx hb dX5_watchersOf_28 ?_
        obtain ⟨hg1, hf⟩ := gd_some hf
        refine va_iald hx hb hKK.1 hP 1 0 rfl rfl (inb_in hg1) dX5_watchersOf_29 ?_
        refine lv_aload_n hx hb dX5_watchersOf_30 rfl (lv_at hl 0 rfl) ?_
        refine va_get (D := D) (ci := 5) (v := .ref (ad 2)) (C := RX5) (T := TX5) (N := 24) hx hb hts inX5 hown hKK.1 hP 0 rfl rfl 4 (by decide) (hts _ q677) (fun _ h => h) rfl dX5_watchersOf_31 ?_
        refine lv_bipush (v := 42) hx hb dX5_watchersOf_34 (by decide) ?_
        refine lv_iload_n hx hb dX5_watchersOf_36 rfl (lv_at hl 3 rfl) ?_
        refine lv_iadd hx hb dX5_watchersOf_37 ?_
        obtain ⟨hg2, hf⟩ := gd_some hf
        refine va_iald hx hb hKK.1 hP 1 0 rfl rfl (inb_in hg2) dX5_watchersOf_38 ?_
        refine lv_iload_n hx hb dX5_watchersOf_39 rfl (lv_at hl 1 rfl) ?_
        obtain ⟨r4, hc3, hf⟩ := bd_some hf
        refine pCallVI ⟨hx, hb, hml, hown, hts⟩ (mtX5_isSeen l D cy z ad (ad 2) o w (w ((37 : Int32) + v3_4).toNatClampNeg) (w ((42 : Int32) + v3_4).toNatClampNeg) g1_4 r4 hc3) miX5_isSeen q816 ⟨Nat.le_of_ble_eq_true rfl, Nat.le_of_ble_eq_true rfl⟩ ⟨rfl, rfl⟩ hP hKK hS hA0 (va_recv hKK.1 hP (ci := 5) (q0 := 0) rfl rfl) rfl hl.1 rfl (Nat.le_of_ble_eq_true rfl) dX5_watchersOf_40 ⟨Nat.zero_le _, Nat.zero_le _⟩ ?_
        refine lv_if_eq (tgt := 50) hx hb dX5_watchersOf_43 (by decide) (fun h => ?_) (fun h => ?_)
        · have hf := (if_pos h).symm.trans hf
          refine lv_iconst (v := 0) hx hb dX5_watchersOf_50 (by decide) ?_
          refine lv_iadd hx hb dX5_watchersOf_51 ?_
          refine nm_i hf (fun x5 hf => ?_)
          refine lv_istore_n (lv' := [(2, .int x5), (0, .ref (ad 0)), (1, .int g1_4), (3, .int v3_4)]) hx hb dX5_watchersOf_52 rfl hl (by decide) rfl (fun ls hl => ?_)
          obtain ⟨x6, ex6, hf⟩ := nm_ex hf
          refine lv_iinc (v := x6) (lv' := [(3, .int x6), (2, .int x5), (0, .ref (ad 0)), (1, .int g1_4)]) hx hb dX5_watchersOf_53 hl (k := 3) rfl (Eq.trans rfl ex6) (by decide) rfl (fun ls hl => ?_)
          refine lv_goto (tgt := 4) hx hb dX5_watchersOf_56 (by decide) ?_
          exact ih x5 x6 ls hf (lv_sub hl [2, 3, 1, 0] rfl)
        · have hf := (if_neg h).symm.trans hf
          refine lv_iconst (v := 1) hx hb dX5_watchersOf_46 (by decide) ?_
          refine lv_goto (tgt := 51) hx hb dX5_watchersOf_47 (by decide) ?_
          refine lv_iadd hx hb dX5_watchersOf_51 ?_
          refine nm_i hf (fun x7 hf => ?_)
          refine lv_istore_n (lv' := [(2, .int x7), (0, .ref (ad 0)), (1, .int g1_4), (3, .int v3_4)]) hx hb dX5_watchersOf_52 rfl hl (by decide) rfl (fun ls hl => ?_)
          obtain ⟨x8, ex8, hf⟩ := nm_ex hf
          refine lv_iinc (v := x8) (lv' := [(3, .int x8), (2, .int x7), (0, .ref (ad 0)), (1, .int g1_4)]) hx hb dX5_watchersOf_53 hl (k := 3) rfl (Eq.trans rfl ex8) (by decide) rfl (fun ls hl => ?_)
          refine lv_goto (tgt := 4) hx hb dX5_watchersOf_56 (by decide) ?_
          exact ih x7 x8 ls hf (lv_sub hl [2, 3, 1, 0] rfl)
  unfold fX5_watchersOf at hf
  refine lv_iconst (v := 0) hx hb dX5_watchersOf_0 (by decide) ?_
  refine lv_istore_n (lv' := [(2, .int (0 : Int32)), (0, .ref (ad 0)), (1, .int u1)]) hx hb dX5_watchersOf_1 rfl hl (by decide) rfl (fun ls hl => ?_)
  refine lv_iconst (v := 0) hx hb dX5_watchersOf_2 (by decide) ?_
  refine lv_istore_n (lv' := [(3, .int (0 : Int32)), (2, .int (0 : Int32)), (0, .ref (ad 0)), (1, .int u1)]) hx hb dX5_watchersOf_3 rfl hl (by decide) rfl (fun ls hl => ?_)
  refine w_4 u1 _ ?_ _ (0 : Int32) (0 : Int32) ls hf (lv_sub hl [2, 3, 1, 0] rfl)
  · intro y9 ls hf hl
    refine lv_iload_n hx hb dX5_watchersOf_59 rfl (lv_at hl 0 rfl) ?_
    exact pretI hx hb hr hlk hf dX5_watchersOf_60

abbrev rmX5_ownOf : Room := { frames := 9, cells := 0, slots := 0, locals := 226 }
theorem miX5_ownOf : miV yX5_ownOf cX5_ownOf 5 (some .int) 1 := ⟨q892, q46, q891, q32, by decide +kernel⟩
set_option maxHeartbeats 4000000 in
set_option maxRecDepth 100000 in
theorem mtX5_ownOf (l : Launch) (D : va_G) (cy : Nat → ClassId) (z : zT) (ad : Nat → Nat) (o : tMo) (w : tA) (u1 : Int32) (r0 : Int32) (hf : fX5_ownOf o w u1 = some r0) : pmet l yX5_ownOf cX5_ownOf 5 (some .int) rmX5_ownOf D cy z ([moC ad o, arI cy (ad 2) 51 w]) [.ref (ad 0), .int u1] (some (.int r0)) := by
  refine pmet_of (by decide +kernel) (Nat.le_of_ble_eq_true rfl) (fun p e s m below meth c hx hb hr hml hown hts hlk hP hKK ls hl => ?_)
  have hS : va_S noF s.heap s.heap [] := va_S.rf
  have hA0 : ∀ q, noF q → zA z q := fun _ h => h.elim
  have hown : s.vm.findClass "HillSightModel" = some m.cls := hown
  have hl : lv_has ls 5 [(0, .ref (ad 0)), (1, .int u1)] := hl
  have w_5 : ∀ (g1_5 : Int32) (k46 : Int64 → Option (Int32)) (hk46 : ∀ (v2_5 : Int64) (ls : Array Slot), k46 v2_5 = some r0 → lv_has ls 5 [(0, .ref (ad 0)), (1, .int g1_5), (2, .long v2_5)] → W p l e rmX5_ownOf s m ([.ref (ad 0), .int u1] : List Value).toArray below meth c s.heap [] 0 0 (MQ below (pQ (some (.int r0))) ([.ref (ad 0), .int u1] : List Value).toArray s 0 0 noF) (F0 m 46 ls [])) (n : Nat) (v2_5 : Int64) (v4_5 : Int32) (ls : Array Slot), fX5_ownOf_5 o w g1_5 k46 n v2_5 v4_5 = some r0 → lv_has ls 5 [(0, .ref (ad 0)), (1, .int g1_5), (2, .long v2_5), (4, .int v4_5)] → W p l e rmX5_ownOf s m ([.ref (ad 0), .int u1] : List Value).toArray below meth c s.heap [] 0 0 (MQ below (pQ (some (.int r0))) ([.ref (ad 0), .int u1] : List Value).toArray s 0 0 noF) (F0 m 5 ls []) := by
    intro g1_5 k46 hk46 n
    induction n with
    | zero =>
      intro v2_5 v4_5 ls hf hl
      cases (show (none : Option (Int32)) = some r0 from hf)
    | succ n ih =>
      intro v2_5 v4_5 ls hf hl
      rw [fX5_ownOf_5] at hf
      refine lv_iload hx hb dX5_ownOf_5 (lv_at hl 3 rfl) ?_
      refine lv_aload_n hx hb dX5_ownOf_7 rfl (lv_at hl 0 rfl) ?_
      refine va_get (D := D) (ci := 5) (v := .ref (ad 2)) (C := RX5) (T := TX5) (N := 24) hx hb hts inX5 hown hKK.1 hP 0 rfl rfl 4 (by decide) (hts _ q677) (fun _ h => h) rfl dX5_ownOf_8 ?_
      refine lv_bipush (v := 36) hx hb dX5_ownOf_11 (by decide) ?_
      refine va_iald hx hb hKK.1 hP 1 0 rfl rfl (inb_in (by decide)) dX5_ownOf_13 ?_
      refine lv_icmp_ge (tgt := 46) hx hb dX5_ownOf_14 (by decide) (fun h => ?_) (fun h => ?_)
      · have hf := (if_pos h).symm.trans hf
        exact hk46 v2_5 ls hf (lv_sub hl [0, 1, 2] rfl)
      · have hf := (if_neg h).symm.trans hf
        refine lv_lload_n hx hb dX5_ownOf_17 rfl (lv_at hl 2 rfl) ?_
        refine lv_iload hx hb dX5_ownOf_18 (lv_at hl 3 rfl) ?_
        refine lv_iload_n hx hb dX5_ownOf_20 rfl (lv_at hl 1 rfl) ?_
        refine lv_icmp_ne (tgt := 28) hx hb dX5_ownOf_21 (by decide) (fun h => ?_) (fun h => ?_)
        · have hf := (if_neg h).symm.trans hf
          refine lv_aload_n hx hb dX5_ownOf_28 rfl (lv_at hl 0 rfl) ?_
          refine lv_aload_n hx hb dX5_ownOf_29 rfl (lv_at hl 0 rfl) ?_
          refine va_get (D := D) (ci := 5) (v := .ref (ad 2)) (C := RX5) (T := TX5) (N := 24) hx hb hts inX5 hown hKK.1 hP 0 rfl rfl 4 (by decide) (hts _ q677) (fun _ h => h) rfl dX5_ownOf_30 ?_
          refine lv_iload hx hb dX5_ownOf_33 (lv_at hl 3 rfl) ?_
          obtain ⟨r2, hc1, hf⟩ := bd_some hf
          refine pCallVL ⟨hx, hb, hml, hown, hts⟩ (mtX5_watchedBy l D cy z ad (ad 2) o w v4_5 r2 hc1) miX5_watchedBy q808 ⟨Nat.le_of_ble_eq_true rfl, Nat.le_of_ble_eq_true rfl⟩ ⟨rfl, rfl⟩ hP hKK hS hA0 (va_recv hKK.1 hP (ci := 5) (q0 := 0) rfl rfl) rfl hl.1 rfl (Nat.le_of_ble_eq_true rfl) dX5_ownOf_35 ⟨Nat.zero_le _, Nat.zero_le _⟩ ?_
          refine lv_lor hx hb dX5_ownOf_38 ?_
          refine nm_l hf (fun x3 hf => ?_)
          refine lv_lstore_n (lv' := [(2, .long x3), (0, .ref (ad 0)), (1, .int g1_5), (4, .int v4_5)]) hx hb dX5_ownOf_39 rfl hl (by decide) rfl (fun ls hl => ?_)
          obtain ⟨x4, ex4, hf⟩ := nm_ex hf
          refine lv_iinc (v := x4) (lv' := [(4, .int x4), (2, .long x3), (0, .ref (ad 0)), (1, .int g1_5)]) hx hb dX5_ownOf_40 hl (k := 3) rfl (Eq.trans rfl ex4) (by decide) rfl (fun ls hl => ?_)
          refine lv_goto (tgt := 5) hx hb dX5_ownOf_43 (by decide) ?_
          exact ih x3 x4 ls hf (lv_sub hl [2, 3, 1, 0] rfl)
        · have hf := (if_pos h).symm.trans hf
          refine lv_lconst (v := 0) hx hb dX5_ownOf_24 (by decide) ?_
          refine lv_goto (tgt := 38) hx hb dX5_ownOf_25 (by decide) ?_
          refine lv_lor hx hb dX5_ownOf_38 ?_
          refine nm_l hf (fun x5 hf => ?_)
          refine lv_lstore_n (lv' := [(2, .long x5), (0, .ref (ad 0)), (1, .int g1_5), (4, .int v4_5)]) hx hb dX5_ownOf_39 rfl hl (by decide) rfl (fun ls hl => ?_)
          obtain ⟨x6, ex6, hf⟩ := nm_ex hf
          refine lv_iinc (v := x6) (lv' := [(4, .int x6), (2, .long x5), (0, .ref (ad 0)), (1, .int g1_5)]) hx hb dX5_ownOf_40 hl (k := 3) rfl (Eq.trans rfl ex6) (by decide) rfl (fun ls hl => ?_)
          refine lv_goto (tgt := 5) hx hb dX5_ownOf_43 (by decide) ?_
          exact ih x5 x6 ls hf (lv_sub hl [2, 3, 1, 0] rfl)
  unfold fX5_ownOf at hf
  refine lv_lconst (v := 0) hx hb dX5_ownOf_0 (by decide) ?_
  refine lv_lstore_n (lv' := [(2, .long (0 : Int64)), (0, .ref (ad 0)), (1, .int u1)]) hx hb dX5_ownOf_1 rfl hl (by decide) rfl (fun ls hl => ?_)
  refine lv_iconst (v := 0) hx hb dX5_ownOf_2 (by decide) ?_
  refine lv_istore (lv' := [(4, .int (0 : Int32)), (2, .long (0 : Int64)), (0, .ref (ad 0)), (1, .int u1)]) hx hb dX5_ownOf_3 hl (by decide) rfl (fun ls hl => ?_)
  refine w_5 u1 _ ?_ _ (0 : Int64) (0 : Int32) ls hf (lv_sub hl [2, 3, 1, 0] rfl)
  · intro y7 ls hf hl
    refine lv_aload_n hx hb dX5_ownOf_46 rfl (lv_at hl 0 rfl) ?_
    refine lv_aload_n hx hb dX5_ownOf_47 rfl (lv_at hl 0 rfl) ?_
    refine va_get (D := D) (ci := 5) (v := .ref (ad 2)) (C := RX5) (T := TX5) (N := 24) hx hb hts inX5 hown hKK.1 hP 0 rfl rfl 4 (by decide) (hts _ q677) (fun _ h => h) rfl dX5_ownOf_48 ?_
    refine lv_iload_n hx hb dX5_ownOf_51 rfl (lv_at hl 1 rfl) ?_
    obtain ⟨r9, hc8, hf⟩ := bd_some hf
    refine pCallVL ⟨hx, hb, hml, hown, hts⟩ (mtX5_watchedBy l D cy z ad (ad 2) o w u1 r9 hc8) miX5_watchedBy q808 ⟨Nat.le_of_ble_eq_true rfl, Nat.le_of_ble_eq_true rfl⟩ ⟨rfl, rfl⟩ hP hKK hS hA0 (va_recv hKK.1 hP (ci := 5) (q0 := 0) rfl rfl) rfl hl.1 rfl (Nat.le_of_ble_eq_true rfl) dX5_ownOf_52 ⟨Nat.zero_le _, Nat.zero_le _⟩ ?_
    refine lv_lload_n hx hb dX5_ownOf_55 rfl (lv_at hl 2 rfl) ?_
    refine lv_ldc2 hx hb hown (hts _ q893) dX5_ownOf_56 ?_
    refine lv_lxor hx hb dX5_ownOf_59 ?_
    refine lv_land hx hb dX5_ownOf_60 ?_
    obtain ⟨r11, hc10, hf⟩ := bd_some hf
    have hP1 := hP.sub (ws' := []) [] rfl
    refine pCallSI ⟨hx, hb, hml, hown, hts⟩ (mtX5_ones l D cy z (r9 &&& (y7 ^^^ (-1 : Int64))) r11 hc10) miX5_ones q847 ⟨Nat.le_of_ble_eq_true rfl, Nat.le_of_ble_eq_true rfl⟩ ⟨rfl, rfl⟩ hP1 hKK hS hA0 rfl hl.1 rfl (Nat.le_of_ble_eq_true rfl) dX5_ownOf_61 ⟨Nat.zero_le _, Nat.zero_le _⟩ ?_
    exact pretI hx hb hr hlk hf dX5_ownOf_64

abbrev rmX5_firstInWay : Room := { frames := 5, cells := 0, slots := 0, locals := 127 }
theorem miX5_firstInWay : miV yX5_firstInWay cX5_firstInWay 4 (some .int) 2 := ⟨q936, q46, q935, q34, by decide +kernel⟩
set_option maxHeartbeats 4000000 in
set_option maxRecDepth 100000 in
theorem mtX5_firstInWay (l : Launch) (D : va_G) (cy : Nat → ClassId) (z : zT) (ad : Nat → Nat) (o : tMo) (w : tA) (u1 : Int32) (u2 : Int32) (r0 : Int32) (hf : fX5_firstInWay o w u1 u2 = some r0) : pmet l yX5_firstInWay cX5_firstInWay 4 (some .int) rmX5_firstInWay D cy z ([moC ad o, arI cy (ad 2) 51 w]) [.ref (ad 0), .int u1, .int u2] (some (.int r0)) := by
  refine pmet_of (by decide +kernel) (Nat.le_of_ble_eq_true rfl) (fun p e s m below meth c hx hb hr hml hown hts hlk hP hKK ls hl => ?_)
  have hS : va_S noF s.heap s.heap [] := va_S.rf
  have hA0 : ∀ q, noF q → zA z q := fun _ h => h.elim
  have hown : s.vm.findClass "HillSightModel" = some m.cls := hown
  have hl : lv_has ls 4 [(0, .ref (ad 0)), (1, .int u1), (2, .int u2)] := hl
  have w_2 : ∀ (g1_2 : Int32) (g2_2 : Int32) (k40 : Int32 → Option (Int32)) (hk40 : ∀ (v3_2 : Int32) (ls : Array Slot), k40 v3_2 = some r0 → lv_has ls 4 [(3, .int v3_2)] → W p l e rmX5_firstInWay s m ([.ref (ad 0), .int u1, .int u2] : List Value).toArray below meth c s.heap [] 0 0 (MQ below (pQ (some (.int r0))) ([.ref (ad 0), .int u1, .int u2] : List Value).toArray s 0 0 noF) (F0 m 40 ls [])) (k48 : Option (Int32)) (hk48 : ∀ (ls : Array Slot), k48 = some r0 → lv_has ls 4 [] → W p l e rmX5_firstInWay s m ([.ref (ad 0), .int u1, .int u2] : List Value).toArray below meth c s.heap [] 0 0 (MQ below (pQ (some (.int r0))) ([.ref (ad 0), .int u1, .int u2] : List Value).toArray s 0 0 noF) (F0 m 48 ls [])) (n : Nat) (v3_2 : Int32) (ls : Array Slot), fX5_firstInWay_2 o w g1_2 g2_2 k40 k48 n v3_2 = some r0 → lv_has ls 4 [(0, .ref (ad 0)), (1, .int g1_2), (2, .int g2_2), (3, .int v3_2)] → W p l e rmX5_firstInWay s m ([.ref (ad 0), .int u1, .int u2] : List Value).toArray below meth c s.heap [] 0 0 (MQ below (pQ (some (.int r0))) ([.ref (ad 0), .int u1, .int u2] : List Value).toArray s 0 0 noF) (F0 m 2 ls []) := by
    intro g1_2 g2_2 k40 hk40 k48 hk48 n
    induction n with
    | zero =>
      intro v3_2 ls hf hl
      cases (show (none : Option (Int32)) = some r0 from hf)
    | succ n ih =>
      intro v3_2 ls hf hl
      rw [fX5_firstInWay_2] at hf
      refine lv_iload_n hx hb dX5_firstInWay_2 rfl (lv_at hl 3 rfl) ?_
      refine lv_aload_n hx hb dX5_firstInWay_3 rfl (lv_at hl 0 rfl) ?_
      refine lv_iload_n hx hb dX5_firstInWay_4 rfl (lv_at hl 1 rfl) ?_
      refine lv_iload_n hx hb dX5_firstInWay_5 rfl (lv_at hl 2 rfl) ?_
      obtain ⟨r2, hc1, hf⟩ := bd_some hf
      have hP1 := hP.sub (ws' := [moC ad o]) [0] rfl
      refine pCallVI ⟨hx, hb, hml, hown, hts⟩ (mtX5_distance l D cy z ad o g1_2 g2_2 r2 hc1) miX5_distance q820 ⟨Nat.le_of_ble_eq_true rfl, Nat.le_of_ble_eq_true rfl⟩ ⟨rfl, rfl⟩ hP1 hKK hS hA0 (va_recv hKK.1 hP1 (ci := 5) (q0 := 0) rfl rfl) rfl hl.1 rfl (Nat.le_of_ble_eq_true rfl) dX5_firstInWay_6 ⟨Nat.zero_le _, Nat.zero_le _⟩ ?_
      refine lv_icmp_ge (tgt := 48) hx hb dX5_firstInWay_9 (by decide) (fun h => ?_) (fun h => ?_)
      · have hf := (if_pos h).symm.trans hf
        exact hk48 ls hf (lv_sub hl [] rfl)
      · have hf := (if_neg h).symm.trans hf
        refine lv_aload_n hx hb dX5_firstInWay_12 rfl (lv_at hl 0 rfl) ?_
        refine lv_aload_n hx hb dX5_firstInWay_13 rfl (lv_at hl 0 rfl) ?_
        refine va_get (D := D) (ci := 5) (v := .ref (ad 2)) (C := RX5) (T := TX5) (N := 24) hx hb hts inX5 hown hKK.1 hP 0 rfl rfl 4 (by decide) (hts _ q677) (fun _ h => h) rfl dX5_firstInWay_14 ?_
        refine lv_iload_n hx hb dX5_firstInWay_17 rfl (lv_at hl 1 rfl) ?_
        refine lv_aload_n hx hb dX5_firstInWay_18 rfl (lv_at hl 0 rfl) ?_
        refine va_get (D := D) (ci := 5) (v := .ref (ad 2)) (C := RX5) (T := TX5) (N := 24) hx hb hts inX5 hown hKK.1 hP 0 rfl rfl 4 (by decide) (hts _ q677) (fun _ h => h) rfl dX5_firstInWay_19 ?_
        refine lv_iload_n hx hb dX5_firstInWay_22 rfl (lv_at hl 1 rfl) ?_
        obtain ⟨hg3, hf⟩ := gd_some hf
        refine va_iald hx hb hKK.1 hP 1 0 rfl rfl (inb_in hg3) dX5_firstInWay_23 ?_
        refine lv_aload_n hx hb dX5_firstInWay_24 rfl (lv_at hl 0 rfl) ?_
        refine va_get (D := D) (ci := 5) (v := .ref (ad 2)) (C := RX5) (T := TX5) (N := 24) hx hb hts inX5 hown hKK.1 hP 0 rfl rfl 4 (by decide) (hts _ q677) (fun _ h => h) rfl dX5_firstInWay_25 ?_
        refine lv_bipush (v := 47) hx hb dX5_firstInWay_28 (by decide) ?_
        refine va_iald hx hb hKK.1 hP 1 0 rfl rfl (inb_in (by decide)) dX5_firstInWay_30 ?_
        refine lv_iadd hx hb dX5_firstInWay_31 ?_
        refine lv_iload_n hx hb dX5_firstInWay_32 rfl (lv_at hl 2 rfl) ?_
        refine lv_iload_n hx hb dX5_firstInWay_33 rfl (lv_at hl 3 rfl) ?_
        obtain ⟨r5, hc4, hf⟩ := bd_some hf
        refine pCallVI ⟨hx, hb, hml, hown, hts⟩ (mtX5_over l D cy z ad (ad 2) o w g1_2 ((w g1_2.toNatClampNeg) + (w (47 : Int32).toNatClampNeg)) g2_2 v3_2 r5 hc4) miX5_over q832 ⟨Nat.le_of_ble_eq_true rfl, Nat.le_of_ble_eq_true rfl⟩ ⟨rfl, rfl⟩ hP hKK hS hA0 (va_recv hKK.1 hP (ci := 5) (q0 := 0) rfl rfl) rfl hl.1 rfl (Nat.le_of_ble_eq_true rfl) dX5_firstInWay_34 ⟨Nat.zero_le _, Nat.zero_le _⟩ ?_
        refine lv_if_le (tgt := 42) hx hb dX5_firstInWay_37 (by decide) (fun h => ?_) (fun h => ?_)
        · have hf := (if_pos h).symm.trans hf
          obtain ⟨x6, ex6, hf⟩ := nm_ex hf
          refine lv_iinc (v := x6) (lv' := [(3, .int x6), (0, .ref (ad 0)), (1, .int g1_2), (2, .int g2_2)]) hx hb dX5_firstInWay_42 hl (k := 3) rfl (Eq.trans rfl ex6) (by decide) rfl (fun ls hl => ?_)
          refine lv_goto (tgt := 2) hx hb dX5_firstInWay_45 (by decide) ?_
          exact ih x6 ls hf (lv_sub hl [1, 2, 3, 0] rfl)
        · have hf := (if_neg h).symm.trans hf
          exact hk40 v3_2 ls hf (lv_sub hl [3] rfl)
  unfold fX5_firstInWay at hf
  refine lv_iconst (v := 1) hx hb dX5_firstInWay_0 (by decide) ?_
  refine lv_istore_n (lv' := [(3, .int (1 : Int32)), (0, .ref (ad 0)), (1, .int u1), (2, .int u2)]) hx hb dX5_firstInWay_1 rfl hl (by decide) rfl (fun ls hl => ?_)
  refine w_2 u1 u2 _ ?_ _ ?_ _ (1 : Int32) ls hf (lv_sub hl [1, 2, 3, 0] rfl)
  · intro y7 ls hf hl
    refine lv_iload_n hx hb dX5_firstInWay_40 rfl (lv_at hl 0 rfl) ?_
    exact pretI hx hb hr hlk hf dX5_firstInWay_41
  · intro  ls hf hl
    refine lv_bipush (v := -9) hx hb dX5_firstInWay_48 (by decide) ?_
    exact pretI hx hb hr hlk hf dX5_firstInWay_50

abbrev rmX5_needed : Room := { frames := 7, cells := 0, slots := 0, locals := 178 }
theorem miX5_needed : miV yX5_needed cX5_needed 4 (some .int) 2 := ⟨q940, q46, q939, q35, by decide +kernel⟩
set_option maxHeartbeats 4000000 in
set_option maxRecDepth 100000 in
theorem mtX5_needed (l : Launch) (D : va_G) (cy : Nat → ClassId) (z : zT) (ad : Nat → Nat) (o : tMo) (w : tA) (u1 : Int32) (u2 : Int32) (r0 : Int32) (hf : fX5_needed o w u1 u2 = some r0) : pmet l yX5_needed cX5_needed 4 (some .int) rmX5_needed D cy z ([moC ad o, arI cy (ad 2) 51 w]) [.ref (ad 0), .int u1, .int u2] (some (.int r0)) := by
  refine pmet_of (by decide +kernel) (Nat.le_of_ble_eq_true rfl) (fun p e s m below meth c hx hb hr hml hown hts hlk hP hKK ls hl => ?_)
  have hS : va_S noF s.heap s.heap [] := va_S.rf
  have hA0 : ∀ q, noF q → zA z q := fun _ h => h.elim
  have hown : s.vm.findClass "HillSightModel" = some m.cls := hown
  have hl : lv_has ls 4 [(0, .ref (ad 0)), (1, .int u1), (2, .int u2)] := hl
  have w_2 : ∀ (g1_2 : Int32) (g2_2 : Int32) (k28 : Int32 → Option (Int32)) (hk28 : ∀ (v3_2 : Int32) (ls : Array Slot), k28 v3_2 = some r0 → lv_has ls 4 [(3, .int v3_2)] → W p l e rmX5_needed s m ([.ref (ad 0), .int u1, .int u2] : List Value).toArray below meth c s.heap [] 0 0 (MQ below (pQ (some (.int r0))) ([.ref (ad 0), .int u1, .int u2] : List Value).toArray s 0 0 noF) (F0 m 28 ls [])) (n : Nat) (v3_2 : Int32) (ls : Array Slot), fX5_needed_2 o w g1_2 g2_2 k28 n v3_2 = some r0 → lv_has ls 4 [(0, .ref (ad 0)), (1, .int g1_2), (2, .int g2_2), (3, .int v3_2)] → W p l e rmX5_needed s m ([.ref (ad 0), .int u1, .int u2] : List Value).toArray below meth c s.heap [] 0 0 (MQ below (pQ (some (.int r0))) ([.ref (ad 0), .int u1, .int u2] : List Value).toArray s 0 0 noF) (F0 m 2 ls []) := by
    intro g1_2 g2_2 k28 hk28 n
    induction n with
    | zero =>
      intro v3_2 ls hf hl
      cases (show (none : Option (Int32)) = some r0 from hf)
    | succ n ih =>
      intro v3_2 ls hf hl
      rw [fX5_needed_2] at hf
      refine lv_iload_n hx hb dX5_needed_2 rfl (lv_at hl 3 rfl) ?_
      refine lv_bipush (v := 100) hx hb dX5_needed_3 (by decide) ?_
      refine lv_icmp_ge (tgt := 28) hx hb dX5_needed_5 (by decide) (fun h => ?_) (fun h => ?_)
      · have hf := (if_pos h).symm.trans hf
        exact hk28 v3_2 ls hf (lv_sub hl [3] rfl)
      · have hf := (if_neg h).symm.trans hf
        refine lv_aload_n hx hb dX5_needed_8 rfl (lv_at hl 0 rfl) ?_
        refine lv_aload_n hx hb dX5_needed_9 rfl (lv_at hl 0 rfl) ?_
        refine va_get (D := D) (ci := 5) (v := .ref (ad 2)) (C := RX5) (T := TX5) (N := 24) hx hb hts inX5 hown hKK.1 hP 0 rfl rfl 4 (by decide) (hts _ q677) (fun _ h => h) rfl dX5_needed_10 ?_
        refine lv_iload_n hx hb dX5_needed_13 rfl (lv_at hl 1 rfl) ?_
        refine lv_iload_n hx hb dX5_needed_14 rfl (lv_at hl 3 rfl) ?_
        refine lv_iload_n hx hb dX5_needed_15 rfl (lv_at hl 2 rfl) ?_
        obtain ⟨r2, hc1, hf⟩ := bd_some hf
        refine pCallVI ⟨hx, hb, hml, hown, hts⟩ (mtX5_isSeen l D cy z ad (ad 2) o w g1_2 v3_2 g2_2 r2 hc1) miX5_isSeen q816 ⟨Nat.le_of_ble_eq_true rfl, Nat.le_of_ble_eq_true rfl⟩ ⟨rfl, rfl⟩ hP hKK hS hA0 (va_recv hKK.1 hP (ci := 5) (q0 := 0) rfl rfl) rfl hl.1 rfl (Nat.le_of_ble_eq_true rfl) dX5_needed_16 ⟨Nat.zero_le _, Nat.zero_le _⟩ ?_
        refine lv_if_ne (tgt := 28) hx hb dX5_needed_19 (by decide) (fun h => ?_) (fun h => ?_)
        · have hf := (if_neg h).symm.trans hf
          exact hk28 v3_2 ls hf (lv_sub hl [3] rfl)
        · have hf := (if_pos h).symm.trans hf
          obtain ⟨x3, ex3, hf⟩ := nm_ex hf
          refine lv_iinc (v := x3) (lv' := [(3, .int x3), (0, .ref (ad 0)), (1, .int g1_2), (2, .int g2_2)]) hx hb dX5_needed_22 hl (k := 3) rfl (Eq.trans rfl ex3) (by decide) rfl (fun ls hl => ?_)
          refine lv_goto (tgt := 2) hx hb dX5_needed_25 (by decide) ?_
          exact ih x3 ls hf (lv_sub hl [1, 2, 3, 0] rfl)
  unfold fX5_needed at hf
  refine lv_iconst (v := 0) hx hb dX5_needed_0 (by decide) ?_
  refine lv_istore_n (lv' := [(3, .int (0 : Int32)), (0, .ref (ad 0)), (1, .int u1), (2, .int u2)]) hx hb dX5_needed_1 rfl hl (by decide) rfl (fun ls hl => ?_)
  refine w_2 u1 u2 _ ?_ _ (0 : Int32) ls hf (lv_sub hl [1, 2, 3, 0] rfl)
  · intro y4 ls hf hl
    refine lv_iload_n hx hb dX5_needed_28 rfl (lv_at hl 0 rfl) ?_
    refine lv_bipush (v := 100) hx hb dX5_needed_29 (by decide) ?_
    refine lv_icmp_ne (tgt := 39) hx hb dX5_needed_31 (by decide) (fun h => ?_) (fun h => ?_)
    · have hf := (if_neg h).symm.trans hf
      refine lv_iload_n hx hb dX5_needed_39 rfl (lv_at hl 0 rfl) ?_
      exact pretI hx hb hr hlk hf dX5_needed_40
    · have hf := (if_pos h).symm.trans hf
      refine lv_bipush (v := -9) hx hb dX5_needed_34 (by decide) ?_
      refine lv_goto (tgt := 40) hx hb dX5_needed_36 (by decide) ?_
      exact pretI hx hb hr hlk hf dX5_needed_40

abbrev rmX5_worth : Room := { frames := 9, cells := 0, slots := 0, locals := 226 }
theorem miX5_worth : miV yX5_worth cX5_worth 5 (some .int) 1 := ⟨q1016, q46, q1015, q38, by decide +kernel⟩
set_option maxHeartbeats 4000000 in
set_option maxRecDepth 100000 in
theorem mtX5_worth (l : Launch) (D : va_G) (cy : Nat → ClassId) (z : zT) (ad : Nat → Nat) (o : tMo) (w : tA) (u1 : Int32) (r0 : Int32) (hf : fX5_worth o w u1 = some r0) : pmet l yX5_worth cX5_worth 5 (some .int) rmX5_worth D cy z ([moC ad o, arI cy (ad 2) 51 w]) [.ref (ad 0), .int u1] (some (.int r0)) := by
  refine pmet_of (by decide +kernel) (Nat.le_of_ble_eq_true rfl) (fun p e s m below meth c hx hb hr hml hown hts hlk hP hKK ls hl => ?_)
  have hS : va_S noF s.heap s.heap [] := va_S.rf
  have hA0 : ∀ q, noF q → zA z q := fun _ h => h.elim
  have hown : s.vm.findClass "HillSightModel" = some m.cls := hown
  have hl : lv_has ls 5 [(0, .ref (ad 0)), (1, .int u1)] := hl
  have w_5 : ∀ (g1_5 : Int32) (k50 : Int64 → Option (Int32)) (hk50 : ∀ (v2_5 : Int64) (ls : Array Slot), k50 v2_5 = some r0 → lv_has ls 5 [(2, .long v2_5)] → W p l e rmX5_worth s m ([.ref (ad 0), .int u1] : List Value).toArray below meth c s.heap [] 0 0 (MQ below (pQ (some (.int r0))) ([.ref (ad 0), .int u1] : List Value).toArray s 0 0 noF) (F0 m 50 ls [])) (n : Nat) (v2_5 : Int64) (v4_5 : Int32) (ls : Array Slot), fX5_worth_5 o w g1_5 k50 n v2_5 v4_5 = some r0 → lv_has ls 5 [(0, .ref (ad 0)), (1, .int g1_5), (2, .long v2_5), (4, .int v4_5)] → W p l e rmX5_worth s m ([.ref (ad 0), .int u1] : List Value).toArray below meth c s.heap [] 0 0 (MQ below (pQ (some (.int r0))) ([.ref (ad 0), .int u1] : List Value).toArray s 0 0 noF) (F0 m 5 ls []) := by
    intro g1_5 k50 hk50 n
    induction n with
    | zero =>
      intro v2_5 v4_5 ls hf hl
      cases (show (none : Option (Int32)) = some r0 from hf)
    | succ n ih =>
      intro v2_5 v4_5 ls hf hl
      rw [fX5_worth_5] at hf
      refine lv_iload hx hb dX5_worth_5 (lv_at hl 3 rfl) ?_
      refine lv_aload_n hx hb dX5_worth_7 rfl (lv_at hl 0 rfl) ?_
      refine va_get (D := D) (ci := 5) (v := .ref (ad 2)) (C := RX5) (T := TX5) (N := 24) hx hb hts inX5 hown hKK.1 hP 0 rfl rfl 4 (by decide) (hts _ q677) (fun _ h => h) rfl dX5_worth_8 ?_
      refine lv_bipush (v := 36) hx hb dX5_worth_11 (by decide) ?_
      refine va_iald hx hb hKK.1 hP 1 0 rfl rfl (inb_in (by decide)) dX5_worth_13 ?_
      refine lv_icmp_ge (tgt := 50) hx hb dX5_worth_14 (by decide) (fun h => ?_) (fun h => ?_)
      · have hf := (if_pos h).symm.trans hf
        exact hk50 v2_5 ls hf (lv_sub hl [2] rfl)
      · have hf := (if_neg h).symm.trans hf
        refine lv_lload_n hx hb dX5_worth_17 rfl (lv_at hl 2 rfl) ?_
        refine lv_iload_n hx hb dX5_worth_18 rfl (lv_at hl 1 rfl) ?_
        refine lv_i2l hx hb dX5_worth_19 rfl ?_
        refine lv_iload hx hb dX5_worth_20 (lv_at hl 3 rfl) ?_
        obtain ⟨r2, hc1, hf⟩ := bd_some hf
        have hP1 := hP.sub (ws' := []) [] rfl
        refine pCallSI ⟨hx, hb, hml, hown, hts⟩ (mtX5_has l D cy z g1_5.toInt64 v4_5 r2 hc1) miX5_has q850 ⟨Nat.le_of_ble_eq_true rfl, Nat.le_of_ble_eq_true rfl⟩ ⟨rfl, rfl⟩ hP1 hKK hS hA0 rfl hl.1 rfl (Nat.le_of_ble_eq_true rfl) dX5_worth_22 ⟨Nat.zero_le _, Nat.zero_le _⟩ ?_
        refine lv_if_eq (tgt := 41) hx hb dX5_worth_25 (by decide) (fun h => ?_) (fun h => ?_)
        · have hf := (if_pos h).symm.trans hf
          refine lv_lconst (v := 0) hx hb dX5_worth_41 (by decide) ?_
          refine lv_lor hx hb dX5_worth_42 ?_
          refine nm_l hf (fun x3 hf => ?_)
          refine lv_lstore_n (lv' := [(2, .long x3), (0, .ref (ad 0)), (1, .int g1_5), (4, .int v4_5)]) hx hb dX5_worth_43 rfl hl (by decide) rfl (fun ls hl => ?_)
          obtain ⟨x4, ex4, hf⟩ := nm_ex hf
          refine lv_iinc (v := x4) (lv' := [(4, .int x4), (2, .long x3), (0, .ref (ad 0)), (1, .int g1_5)]) hx hb dX5_worth_44 hl (k := 3) rfl (Eq.trans rfl ex4) (by decide) rfl (fun ls hl => ?_)
          refine lv_goto (tgt := 5) hx hb dX5_worth_47 (by decide) ?_
          exact ih x3 x4 ls hf (lv_sub hl [2, 3, 1, 0] rfl)
        · have hf := (if_neg h).symm.trans hf
          refine lv_aload_n hx hb dX5_worth_28 rfl (lv_at hl 0 rfl) ?_
          refine lv_aload_n hx hb dX5_worth_29 rfl (lv_at hl 0 rfl) ?_
          refine va_get (D := D) (ci := 5) (v := .ref (ad 2)) (C := RX5) (T := TX5) (N := 24) hx hb hts inX5 hown hKK.1 hP 0 rfl rfl 4 (by decide) (hts _ q677) (fun _ h => h) rfl dX5_worth_30 ?_
          refine lv_iload hx hb dX5_worth_33 (lv_at hl 3 rfl) ?_
          obtain ⟨r6, hc5, hf⟩ := bd_some hf
          refine pCallVL ⟨hx, hb, hml, hown, hts⟩ (mtX5_watchedBy l D cy z ad (ad 2) o w v4_5 r6 hc5) miX5_watchedBy q808 ⟨Nat.le_of_ble_eq_true rfl, Nat.le_of_ble_eq_true rfl⟩ ⟨rfl, rfl⟩ hP hKK hS hA0 (va_recv hKK.1 hP (ci := 5) (q0 := 0) rfl rfl) rfl hl.1 rfl (Nat.le_of_ble_eq_true rfl) dX5_worth_35 ⟨Nat.zero_le _, Nat.zero_le _⟩ ?_
          refine lv_goto (tgt := 42) hx hb dX5_worth_38 (by decide) ?_
          refine lv_lor hx hb dX5_worth_42 ?_
          refine nm_l hf (fun x7 hf => ?_)
          refine lv_lstore_n (lv' := [(2, .long x7), (0, .ref (ad 0)), (1, .int g1_5), (4, .int v4_5)]) hx hb dX5_worth_43 rfl hl (by decide) rfl (fun ls hl => ?_)
          obtain ⟨x8, ex8, hf⟩ := nm_ex hf
          refine lv_iinc (v := x8) (lv' := [(4, .int x8), (2, .long x7), (0, .ref (ad 0)), (1, .int g1_5)]) hx hb dX5_worth_44 hl (k := 3) rfl (Eq.trans rfl ex8) (by decide) rfl (fun ls hl => ?_)
          refine lv_goto (tgt := 5) hx hb dX5_worth_47 (by decide) ?_
          exact ih x7 x8 ls hf (lv_sub hl [2, 3, 1, 0] rfl)
  unfold fX5_worth at hf
  refine lv_lconst (v := 0) hx hb dX5_worth_0 (by decide) ?_
  refine lv_lstore_n (lv' := [(2, .long (0 : Int64)), (0, .ref (ad 0)), (1, .int u1)]) hx hb dX5_worth_1 rfl hl (by decide) rfl (fun ls hl => ?_)
  refine lv_iconst (v := 0) hx hb dX5_worth_2 (by decide) ?_
  refine lv_istore (lv' := [(4, .int (0 : Int32)), (2, .long (0 : Int64)), (0, .ref (ad 0)), (1, .int u1)]) hx hb dX5_worth_3 hl (by decide) rfl (fun ls hl => ?_)
  refine w_5 u1 _ ?_ _ (0 : Int64) (0 : Int32) ls hf (lv_sub hl [2, 3, 1, 0] rfl)
  · intro y9 ls hf hl
    refine lv_lload_n hx hb dX5_worth_50 rfl (lv_at hl 0 rfl) ?_
    obtain ⟨r11, hc10, hf⟩ := bd_some hf
    have hP1 := hP.sub (ws' := []) [] rfl
    refine pCallSI ⟨hx, hb, hml, hown, hts⟩ (mtX5_ones l D cy z y9 r11 hc10) miX5_ones q847 ⟨Nat.le_of_ble_eq_true rfl, Nat.le_of_ble_eq_true rfl⟩ ⟨rfl, rfl⟩ hP1 hKK hS hA0 rfl hl.1 rfl (Nat.le_of_ble_eq_true rfl) dX5_worth_51 ⟨Nat.zero_le _, Nat.zero_le _⟩ ?_
    exact pretI hx hb hr hlk hf dX5_worth_54
