def S0of (L0 : tL) : tH := (L0, L0, L0, L0, 0, ((fun _ => 0), 0, 0, 0), ((fun _ => 0), (fun _ => 0), (fun _ => 0), (fun _ => 0), 0), ((fun _ => 0), (fun _ => 0), 0), (fun _ => 0), 0)
def M0of (w0 : tA) : tM := ((0, 2, 2, 0, 0, 0, 0, 0, 0, 0, 0, 0), (fun _ => 0), w0, (fun _ => 0), (fun _ => 0), (fun _ => 0), (fun _ => 0), (fun _ => 0), (fun _ => 0), (fun _ => 0), (fun _ => 0), (fun _ => 0), (fun _ => 0))
theorem lq351 : (Jvm.Cond.methodLinkNest "HillSight$MapText" (79 : Nat) ({ cls := "HillSight", name := "lowestValue", desc := "(I)I" } : Jvm.MethodName) "HillSight") ∈ lw_tbl := List.mem_of_getElem? (i := 351) (by decide +kernel)
theorem lq358 : (Jvm.Cond.methodLinkNest "HillSight$Land" (57 : Nat) ({ cls := "HillSight", name := "isSetting", desc := "(II)Z" } : Jvm.MethodName) "HillSight") ∈ lw_tbl := List.mem_of_getElem? (i := 358) (by decide +kernel)
theorem lq453 : (Jvm.Cond.methodLinkNest "HillSight$Land" (108 : Nat) ({ cls := "HillSight", name := "contains", desc := "(JI)Z" } : Jvm.MethodName) "HillSight") ∈ lw_tbl := List.mem_of_getElem? (i := 453) (by decide +kernel)
theorem lq109 : (Jvm.Cond.methodLinkNest "HillSight" (27 : Nat) ({ cls := "HillSight$MapText", name := "<init>", desc := "()V" } : Jvm.MethodName) "HillSight") ∈ lw_tbl := List.mem_of_getElem? (i := 109) (by decide +kernel)
theorem lq131 : (Jvm.Cond.methodLinkNest "HillSight" (34 : Nat) ({ cls := "HillSight$Journal", name := "<init>", desc := "()V" } : Jvm.MethodName) "HillSight") ∈ lw_tbl := List.mem_of_getElem? (i := 131) (by decide +kernel)
theorem lq154 : (Jvm.Cond.methodLinkNest "HillSight" (41 : Nat) ({ cls := "HillSight$Observations", name := "<init>", desc := "()V" } : Jvm.MethodName) "HillSight") ∈ lw_tbl := List.mem_of_getElem? (i := 154) (by decide +kernel)
theorem lq569 : (Jvm.Cond.laysStatic "HillSight" "COLUMN_STEPS" "[I") ∈ lw_tbl := List.mem_of_getElem? (i := 569) (by decide +kernel)
theorem lq573 : (Jvm.Cond.laysStatic "HillSight" "ROW_STEPS" "[I") ∈ lw_tbl := List.mem_of_getElem? (i := 573) (by decide +kernel)
theorem lq280 : (Jvm.Cond.laysStatic "java/lang/String" "COMPACT_STRINGS" "Z") ∈ lw_tbl := List.mem_of_getElem? (i := 280) (by decide +kernel)
theorem lq266 : (Jvm.Cond.stringRef "HillSight$MapText" (71 : Nat) "embs") ∈ lw_tbl := List.mem_of_getElem? (i := 266) (by decide +kernel)
set_option maxHeartbeats 4000000 in
set_option maxRecDepth 100000 in
theorem start_sta {s : State} {b : Nat} (hts0 : ∀ w ∈ lw_tbl, w.before #[Value.ref b] s = true) (hgv : (Jvm.Cond.and given_1 narrow_1).before #[Value.ref b] s = true) : ∃ z : zT, z.1 = s.heap.size ∧ sta z s s.heap := by
  have hs := flat_of_before _ hgv
  have hA : ∀ a : Nat, a < s.heap.size → ¬ (fun q : Nat => s.heap.size ≤ q) a := fun a h => Nat.not_le.mpr h
  obtain ⟨tc, htc, hTtc⟩ := va_Tof (args := #[Value.ref b]) (s := s) (tm := (Term.static "HillSight" "COLUMN_STEPS" "[I")) (ty := .int) (N := 8) (f := fun j => .int (tabC j)) (A := (fun q : Nat => s.heap.size ≤ q)) (by decide) (hs (Cond.arrayOf (Term.static "HillSight" "COLUMN_STEPS" "[I") .int) (by decide +kernel)) (va_eqt (hs (Cond.eq (.length (Term.static "HillSight" "COLUMN_STEPS" "[I")) (.int 8)) (by decide +kernel))) (fun j hj => by
    match j, hj with
    | 0, _ => exact va_eqt (hs (Cond.eq (.elem (Term.static "HillSight" "COLUMN_STEPS" "[I") (.int 0)) (.int 1)) (by decide +kernel))
    | 1, _ => exact va_eqt (hs (Cond.eq (.elem (Term.static "HillSight" "COLUMN_STEPS" "[I") (.int 1)) (.int 1)) (by decide +kernel))
    | 2, _ => exact va_eqt (hs (Cond.eq (.elem (Term.static "HillSight" "COLUMN_STEPS" "[I") (.int 2)) (.int 0)) (by decide +kernel))
    | 3, _ => exact va_eqt (hs (Cond.eq (.elem (Term.static "HillSight" "COLUMN_STEPS" "[I") (.int 3)) (.int (-1))) (by decide +kernel))
    | 4, _ => exact va_eqt (hs (Cond.eq (.elem (Term.static "HillSight" "COLUMN_STEPS" "[I") (.int 4)) (.int (-1))) (by decide +kernel))
    | 5, _ => exact va_eqt (hs (Cond.eq (.elem (Term.static "HillSight" "COLUMN_STEPS" "[I") (.int 5)) (.int (-1))) (by decide +kernel))
    | 6, _ => exact va_eqt (hs (Cond.eq (.elem (Term.static "HillSight" "COLUMN_STEPS" "[I") (.int 6)) (.int 0)) (by decide +kernel))
    | 7, _ => exact va_eqt (hs (Cond.eq (.elem (Term.static "HillSight" "COLUMN_STEPS" "[I") (.int 7)) (.int 1)) (by decide +kernel))
    | k + 8, hj => exact absurd hj (by omega)) hA
  obtain ⟨tr, htr, hTtr⟩ := va_Tof (args := #[Value.ref b]) (s := s) (tm := (Term.static "HillSight" "ROW_STEPS" "[I")) (ty := .int) (N := 8) (f := fun j => .int (tabR j)) (A := (fun q : Nat => s.heap.size ≤ q)) (by decide) (hs (Cond.arrayOf (Term.static "HillSight" "ROW_STEPS" "[I") .int) (by decide +kernel)) (va_eqt (hs (Cond.eq (.length (Term.static "HillSight" "ROW_STEPS" "[I")) (.int 8)) (by decide +kernel))) (fun j hj => by
    match j, hj with
    | 0, _ => exact va_eqt (hs (Cond.eq (.elem (Term.static "HillSight" "ROW_STEPS" "[I") (.int 0)) (.int 0)) (by decide +kernel))
    | 1, _ => exact va_eqt (hs (Cond.eq (.elem (Term.static "HillSight" "ROW_STEPS" "[I") (.int 1)) (.int 1)) (by decide +kernel))
    | 2, _ => exact va_eqt (hs (Cond.eq (.elem (Term.static "HillSight" "ROW_STEPS" "[I") (.int 2)) (.int 1)) (by decide +kernel))
    | 3, _ => exact va_eqt (hs (Cond.eq (.elem (Term.static "HillSight" "ROW_STEPS" "[I") (.int 3)) (.int 1)) (by decide +kernel))
    | 4, _ => exact va_eqt (hs (Cond.eq (.elem (Term.static "HillSight" "ROW_STEPS" "[I") (.int 4)) (.int 0)) (by decide +kernel))
    | 5, _ => exact va_eqt (hs (Cond.eq (.elem (Term.static "HillSight" "ROW_STEPS" "[I") (.int 5)) (.int (-1))) (by decide +kernel))
    | 6, _ => exact va_eqt (hs (Cond.eq (.elem (Term.static "HillSight" "ROW_STEPS" "[I") (.int 6)) (.int (-1))) (by decide +kernel))
    | 7, _ => exact va_eqt (hs (Cond.eq (.elem (Term.static "HillSight" "ROW_STEPS" "[I") (.int 7)) (.int (-1))) (by decide +kernel))
    | k + 8, hj => exact absurd hj (by omega)) hA
  obtain ⟨adK, adV, hSt, hSa⟩ := vk_Sof (args := #[Value.ref b]) (s := s) (N := 1) (tm := (fun _ : Nat => Term.string "HillSight$MapText" 71)) (len := [4]) (byt := bytE) (A := (fun q : Nat => s.heap.size ≤ q))
    (fun i hi => by match i, hi with | 0, _ => decide | k + 1, hi => exact absurd hi (by omega))
    (fun i _ => hs (Cond.exactly (Term.string "HillSight$MapText" 71) "java/lang/String") (by decide +kernel))
    (fun i _ => hs (Cond.eq (.field (Term.string "HillSight$MapText" 71) "java/lang/String" "coder" "B") (.int 0)) (by decide +kernel))
    (fun i _ => hs (Cond.arrayOf (Term.field (Term.string "HillSight$MapText" 71) "java/lang/String" "value" "[B") .byte) (by decide +kernel))
    (fun i hi => by match i, hi with | 0, _ => exact hs (Cond.eq (.length (Term.field (Term.string "HillSight$MapText" 71) "java/lang/String" "value" "[B")) (.int 4)) (by decide +kernel) | k + 1, hi => exact absurd hi (by omega))
    (fun i hi j hj => by
      match i, hi, j, hj with
      | 0, _, 0, _ => exact hs (Cond.eq (.elem (Term.field (Term.string "HillSight$MapText" 71) "java/lang/String" "value" "[B") (.int 0)) (.int 101)) (by decide +kernel)
      | 0, _, 1, _ => exact hs (Cond.eq (.elem (Term.field (Term.string "HillSight$MapText" 71) "java/lang/String" "value" "[B") (.int 1)) (.int 109)) (by decide +kernel)
      | 0, _, 2, _ => exact hs (Cond.eq (.elem (Term.field (Term.string "HillSight$MapText" 71) "java/lang/String" "value" "[B") (.int 2)) (.int 98)) (by decide +kernel)
      | 0, _, 3, _ => exact hs (Cond.eq (.elem (Term.field (Term.string "HillSight$MapText" 71) "java/lang/String" "value" "[B") (.int 3)) (.int 115)) (by decide +kernel)
      | 0, _, k + 4, hj => exact absurd (show k + 4 < 4 from hj) (by omega)
      | k + 1, hi, _, _ => exact absurd hi (by omega))
    (fun i j hi hj hij => absurd (show i = j by omega) hij) hA
  refine ⟨(s.heap.size, tc, tr, adK, adV), rfl, va_Zref (hts0 _ lq569) (hts0 _ (gtb_lw q40)) htc hA, hTtc, va_Zref (hts0 _ lq573) (hts0 _ (gtb_lw q40)) htr hA, hTtr, va_Zof (hts0 _ lq280) (hts0 _ (gtb_lw q48)) (va_eqi (hs (Cond.eq (.static "java/lang/String" "COMPACT_STRINGS" "Z") (.int 1)) (by decide +kernel))) hA, hSt, vk_R.of (hts0 _ lq266) (hSa 0 (by decide))⟩
theorem start_arr {s : State} {args : Array Value} {ty : FieldType} (h : (Cond.arrayClass ty).before args s = true) (hp : ∀ (cA : ClassId), s.vm.findClass ("[" ++ ty.toString) = some cA → va_RA s cA ty) : ∃ cA : ClassId, ArrOfT s cA ty ∧ va_RA s cA ty := by
  obtain ⟨cA, kA, comp, h1, h2, h3⟩ := Cond.arrayClass_spec h
  exact ⟨cA, fun n z => ⟨fun k h => (by cases h), kA, h2, comp, h3⟩, hp cA h1⟩
set_option maxHeartbeats 4000000 in
set_option maxRecDepth 100000 in
theorem start_kK {s : State} {b : Nat} (hts0 : ∀ w ∈ lw_tbl, w.before #[Value.ref b] s = true) (hgv : (Jvm.Cond.and given_1 narrow_1).before #[Value.ref b] s = true) : ∃ (D : va_G) (cy : Nat → ClassId) (z : zT), z.1 = s.heap.size ∧ kK D cy z s s.heap := by
  obtain ⟨z, hz, hsta⟩ := start_sta hts0 hgv
  have hts : ∀ w ∈ gtb, w.before #[Value.ref b] s = true := fun w h => hts0 w (gtb_lw h)
  obtain ⟨c0, i0, hKn0⟩ := u_known (C := RX0) (T := TX0) (N := 5) (n := 5) hts inX0 (hts _ q130)
  obtain ⟨c1, i1, hKn1⟩ := u_known (C := RX1) (T := TX1) (N := 7) (n := 7) hts inX1 (hts _ q64)
  obtain ⟨c2, i2, hKn2⟩ := u_known (C := RX2) (T := TX2) (N := 4) (n := 4) hts inX2 (hts _ q108)
  obtain ⟨c3, i3, hKn3⟩ := u_known (C := RX3) (T := TX3) (N := 3) (n := 3) hts inX3 (hts _ q153)
  obtain ⟨c4, i4, hKn4⟩ := u_known (C := RX4) (T := TX4) (N := 10) (n := 10) hts inX4 (hts _ q56)
  obtain ⟨c5, i5, hKn5⟩ := u_known (C := RX5) (T := TX5) (N := 24) (n := 24) hts inX5 (hts _ q665)
  obtain ⟨y_int, hy1_int, hy2_int⟩ := start_arr (ty := .int) (hts _ q106) (fun cA h => h)
  obtain ⟨y_long, hy1_long, hy2_long⟩ := start_arr (ty := .long) (hts _ q201) (fun cA h => h)
  obtain ⟨y_char, hy1_char, hy2_char⟩ := start_arr (ty := .char) (hts _ q128) (fun cA h => h)
  obtain ⟨y_boolean, hy1_boolean, hy2_boolean⟩ := start_arr (ty := .boolean) (hts _ q169) (fun cA h => h)
  refine ⟨(fun k => [c0, c1, c2, c3, c4, c5].getD k c5, fun k => [i0, i1, i2, i3, i4, i5].getD k i5), fun k => [y_int, y_long, y_char, y_boolean].getD k y_boolean, z, hz, ⟨?_, ?_⟩, ⟨va_Nw.of rfl (hts0 _ lq351), va_Nw.of rfl (hts0 _ lq358), va_Nw.of rfl (hts0 _ lq453), va_Nw.of rfl (hts0 _ lq109), va_Nw.of rfl (hts0 _ lq131), va_Nw.of rfl (hts0 _ lq154)⟩, hsta⟩
  · intro k q hq
    match k, hq with
    | 0, hq => cases hq; exact hKn0
    | 1, hq => cases hq; exact hKn1
    | 2, hq => cases hq; exact hKn2
    | 3, hq => cases hq; exact hKn3
    | 4, hq => cases hq; exact hKn4
    | 5, hq => cases hq; exact hKn5
    | k + 6, hq => simp [vwCl] at hq
  · intro k q hq
    match k, hq with
    | 0, hq => cases hq; exact ⟨hy1_int, hy2_int⟩
    | 1, hq => cases hq; exact ⟨hy1_long, hy2_long⟩
    | 2, hq => cases hq; exact ⟨hy1_char, hy2_char⟩
    | 3, hq => cases hq; exact ⟨hy1_boolean, hy2_boolean⟩
    | k + 4, hq => simp [tyL] at hq
set_option maxHeartbeats 4000000 in
set_option maxRecDepth 100000 in
theorem whole_gen (Sim : tH → tM → Prop) (st_write : stp_write Sim) (st_wipe : stp_wipe Sim) (st_fault : stp_fault Sim) (st_map : stp_map Sim) (st_about : stp_about Sim) (st_cell : stp_cell Sim) (st_tower : stp_tower Sim) (st_raise : stp_raise Sim) (st_build : stp_build Sim) (st_raze : stp_raze Sim) (st_set : stp_set Sim) (st_undo : stp_undo Sim) (st_sees : stp_sees Sim) (st_view : stp_view Sim) (st_watched : stp_watched Sim) (st_joined : stp_joined Sim) (st_hollow : stp_hollow Sim) (st_last : stp_last Sim) (st_best : stp_best Sim) (st_two : stp_two Sim) (st_part : stp_part Sim) (st_judge : stp_judge Sim) (st_find : stp_find Sim) (st_lose : stp_lose Sim) (st_which : stp_which Sim) (st_share : stp_share Sim) (st_chance : stp_chance Sim) (st_seed : stp_seed Sim) (st_drawn : stp_drawn Sim) (st_keep : stp_keep Sim) (st_again : stp_again Sim) (L0 : tL) (hf4 : fX1_startAnew ((0 : Int32), (0 : Int32), (0 : Int32), ((fun _ => 0) : tA), ((fun _ => 0) : tA), ((fun _ => 0) : tA), ((fun _ => 0) : tA)) 2 2 = some L0) (w0 : tA) (hf5 : fX5_clear ((fun _ => 0)) = some w0) (hsim : Sim (S0of L0) (M0of w0)) {p : Program} {e : Env} {s : State} {m : MethodId} {below : List Frame} {meth : Method} {c : Code} (l : Launch) {b L : Nat} {xs : Nat → Int32} (hL : L ≤ 2048) (C0 : lw_At p s m meth c b L xs) : W p l e room_1 s m #[Value.ref b] below meth c s.heap [] 0 0 (lw_Z below #[Value.ref b] s) (entryFrame m ([Value.ref b] : List Value).toArray 4) := by
  obtain ⟨hx, hb, hr, hml, hown, hts0, hX, hbl, hlocks, hgv⟩ := id C0
  have hown : s.vm.findClass "HillSightLaw" = some m.cls := hown
  have hts : ∀ w ∈ gtb, w.before #[Value.ref b] s = true := fun w h => hts0 w (gtb_lw h)
  obtain ⟨D, cy, z, hz, hKK⟩ := start_kK hts0 hgv
  have hA : ∀ q : Nat, s.heap.size ≤ q → (fun q : Nat => s.heap.size ≤ q) q := fun _ h => h
  have hA0 : ∀ q : Nat, (fun q : Nat => s.heap.size ≤ q) q → zA z q := fun q h => by show z.1 ≤ q; rw [hz]; exact h
  have hS : va_S (fun q : Nat => s.heap.size ≤ q) s.heap s.heap [] := va_S.rf
  have hP : va_P D vwCl [] s.heap := fun k q h => by simp at h
  have hD : va_D (fun q : Nat => s.heap.size ≤ q) [] := ⟨fun i j p q h => by simp at h, fun k q h => by simp at h⟩
  have hl := lv_entry ([.ref b]) (n := 4) (Nat.le_of_ble_eq_true rfl)
  rw [lg_entry_eq]
  generalize (lg_sl ([.ref b]) ++ List.replicate (4 - (lg_sl ([.ref b])).length) Slot.unset).toArray = ls at hl ⊢
  have hl : lv_has ls 4 [(0, .ref b)] := hl
  refine va_new (ci := 4) (fs := [.null, .null, .null, .null, .int 0, .null, .null, .null, .null, .long 0]) (C := RX4) (T := TX4) (N := 10) hx hb hts inX4 tyX4 tyX4_ok hown (hts _ q55) (hts _ q56) (hts _ q40) hKK.1 hP hD hS hA rfl (fun j hj => by rcases (show j = 0 ∨ j = 1 ∨ j = 2 ∨ j = 3 ∨ j = 4 ∨ j = 5 ∨ j = 6 ∨ j = 7 ∨ j = 8 ∨ j = 9 by omega) with rfl | rfl | rfl | rfl | rfl | rfl | rfl | rfl | rfl | rfl <;> rfl) (Nat.le_of_ble_eq_true rfl) (Nat.le_of_ble_eq_true rfl) dL_law_0 (fun qx H hP hD hS => ?_)
  have hP : va_P D vwCl ([] ++ [(qx, .inr (4, [.null, .null, .null, .null, .int 0, .null, .null, .null, .null, .long 0]))]) H := hP
  have hD : va_D (fun q : Nat => s.heap.size ≤ q) ([] ++ [(qx, .inr (4, [.null, .null, .null, .null, .int 0, .null, .null, .null, .null, .long 0]))]) := hD
  refine W.widen (k := 1) (n := 10) (by omega) (by omega) ?_
  refine lv_dup hx hb dL_law_3 rfl ?_
  refine cCallI ⟨hx, hb, hml, hown, hts⟩ (ctX4 l D cy z qx H.size L0 hf4) miX4_init q57 ⟨Nat.le_of_ble_eq_true rfl, Nat.le_of_ble_eq_true rfl⟩ ⟨rfl, rfl⟩ hP hD hS hA hA0 hKK hl.1 (Nat.le_of_ble_eq_true rfl) dL_law_4 ⟨Nat.le_of_ble_eq_true rfl, Nat.le_of_ble_eq_true rfl⟩ (fun w1 H locs hB hP hD hS => ?_)
  obtain ⟨ad, rfl, rfl⟩ := hB
  refine W.widen (k := 32) (n := 444) (by omega) (by omega) ?_
  have hP : va_P D vwCl (wH cy ad (S0of L0)) H := hP
  have hD : va_D (fun q : Nat => s.heap.size ≤ q) (wH cy ad (S0of L0)) := hD
  refine lv_astore_n (lv' := [(1, .ref (ad 0)), (0, .ref b)]) hx hb dL_law_7 rfl hl (by decide) rfl (fun ls hl => ?_)
  refine va_new (ci := 5) (fs := [.null, .int 0, .int 0, .int 0, .null, .null, .null, .int 0, .int 0, .null, .null, .null, .null, .int 0, .long 0, .null, .null, .int 0, .int 0, .int 0, .int 0, .int 0, .null, .null]) (C := RX5) (T := TX5) (N := 24) hx hb hts inX5 tyX5 tyX5_ok hown (hts _ q664) (hts _ q665) (hts _ q46) hKK.1 hP hD hS hA rfl (fun j hj => by rcases (show j = 0 ∨ j = 1 ∨ j = 2 ∨ j = 3 ∨ j = 4 ∨ j = 5 ∨ j = 6 ∨ j = 7 ∨ j = 8 ∨ j = 9 ∨ j = 10 ∨ j = 11 ∨ j = 12 ∨ j = 13 ∨ j = 14 ∨ j = 15 ∨ j = 16 ∨ j = 17 ∨ j = 18 ∨ j = 19 ∨ j = 20 ∨ j = 21 ∨ j = 22 ∨ j = 23 by omega) with rfl | rfl | rfl | rfl | rfl | rfl | rfl | rfl | rfl | rfl | rfl | rfl | rfl | rfl | rfl | rfl | rfl | rfl | rfl | rfl | rfl | rfl | rfl | rfl <;> rfl) (Nat.le_of_ble_eq_true rfl) (Nat.le_of_ble_eq_true rfl) dL_law_8 (fun qm H hP hD hS => ?_)
  refine W.widen (k := 33) (n := 468) (by omega) (by omega) ?_
  refine lv_dup hx hb dL_law_11 rfl ?_
  refine cCallI ⟨hx, hb, hml, hown, hts⟩ (ctX5 l D cy z qm H.size w0 hf5) miX5_init q666 ⟨Nat.le_of_ble_eq_true rfl, Nat.le_of_ble_eq_true rfl⟩ ⟨rfl, rfl⟩ hP hD hS hA hA0 hKK hl.1 (Nat.le_of_ble_eq_true rfl) dL_law_12 ⟨Nat.le_of_ble_eq_true rfl, Nat.le_of_ble_eq_true rfl⟩ (fun w1 H locs hB hP hD hS => ?_)
  obtain ⟨bd, rfl, rfl⟩ := hB
  refine W.widen (k := 45) (n := 1617) (by omega) (by omega) ?_
  have hP : va_P D vwCl (wH cy ad (S0of L0) ++ wM cy bd (M0of w0)) H := hP
  have hD : va_D (fun q : Nat => s.heap.size ≤ q) (wH cy ad (S0of L0) ++ wM cy bd (M0of w0)) := hD
  have hPx : va_P D vwCl (wH cy ad (S0of L0)) H := fun k q hk => hP k q (by rw [List.getElem?_append_left (List.getElem?_eq_some_iff.mp hk).1]; exact hk)
  have hPm : va_P D vwCl (wM cy bd (M0of w0)) H := fun k q hk => hP ((wH cy ad (S0of L0)).length + k) q (by rw [List.getElem?_append_right (Nat.le_add_right _ _), Nat.add_sub_cancel_left]; exact hk)
  refine lv_astore_n (lv' := [(2, .ref (bd 0)), (1, .ref (ad 0)), (0, .ref b)]) hx hb dL_law_15 rfl hl (by decide) rfl (fun ls hl => ?_)
  refine lv_iconst (v := 0) hx hb dL_law_16 (by decide) ?_
  refine lv_istore_n (lv' := [(3, .int 0), (2, .ref (bd 0)), (1, .ref (ad 0)), (0, .ref b)]) hx hb dL_law_17 rfl hl (by decide) rfl (fun ls hl => ?_)
  exact law_loop Sim st_write st_wipe st_fault st_map st_about st_cell st_tower st_raise st_build st_raze st_set st_undo st_sees st_view st_watched st_joined st_hollow st_last st_best st_two st_part st_judge st_find st_lose st_which st_share st_chance st_seed st_drawn st_keep st_again l hL C0 D cy z hz hKK ad bd (L + 1) 0 0 (Nat.zero_le L) (by omega) nI_0.symm (S0of L0) (M0of w0) hsim H locs ls hPx hPm hD hS hl
