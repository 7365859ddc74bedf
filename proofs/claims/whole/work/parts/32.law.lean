set_option maxHeartbeats 16000000 in
set_option maxRecDepth 100000 in
theorem law_loop (Sim : tH → tM → Prop) (st_write : stp_write Sim) (st_wipe : stp_wipe Sim) (st_fault : stp_fault Sim) (st_map : stp_map Sim) (st_about : stp_about Sim) (st_cell : stp_cell Sim) (st_tower : stp_tower Sim) (st_raise : stp_raise Sim) (st_build : stp_build Sim) (st_raze : stp_raze Sim) (st_set : stp_set Sim) (st_undo : stp_undo Sim) (st_sees : stp_sees Sim) (st_view : stp_view Sim) (st_watched : stp_watched Sim) (st_joined : stp_joined Sim) (st_hollow : stp_hollow Sim) (st_last : stp_last Sim) (st_best : stp_best Sim) (st_two : stp_two Sim) (st_part : stp_part Sim) (st_judge : stp_judge Sim) (st_find : stp_find Sim) (st_lose : stp_lose Sim) (st_which : stp_which Sim) (st_share : stp_share Sim) (st_chance : stp_chance Sim) (st_seed : stp_seed Sim) (st_drawn : stp_drawn Sim) (st_keep : stp_keep Sim) (st_again : stp_again Sim) {p : Program} {e : Env} {s : State} {m : MethodId} {below : List Frame} {meth : Method} {c : Code} (l : Launch) {b L : Nat} {xs : Nat → Int32} (hL : L ≤ 2048) (C0 : lw_At p s m meth c b L xs) (D : va_G) (cy : Nat → ClassId) (z : zT) (hz : z.1 = s.heap.size) (hKK : kK D cy z s s.heap) (ad bd : Nat → Nat) : ∀ (n i : Nat) (x3 : Int32), i ≤ L → L < n + i → x3 = nI i → ∀ (S : tH) (M : tM), Sim S M → ∀ (H : Heap) (locs : List Loc) (ls : Array Slot), va_P D vwCl (wH cy ad S) H → va_P D vwCl (wM cy bd M) H → va_D (fun q : Nat => s.heap.size ≤ q) (wH cy ad S ++ wM cy bd M) → va_S (fun q : Nat => s.heap.size ≤ q) s.heap H locs → lv_has ls 4 [(3, .int x3), (2, .ref (bd 0)), (1, .ref (ad 0)), (0, .ref b)] → W p l e room_1 s m #[Value.ref b] below meth c H locs 45 1617 (lw_Z below #[Value.ref b] s) (F0 m 18 ls []) := by
  obtain ⟨hx, hb, hr, hml, hown, hts0, hX, hbl, hlocks, hgv⟩ := id C0
  have hown : s.vm.findClass "HillSightLaw" = some m.cls := hown
  have hts : ∀ w ∈ gtb, w.before #[Value.ref b] s = true := fun w h => hts0 w (gtb_lw h)
  have hA0 : ∀ q : Nat, (fun q : Nat => s.heap.size ≤ q) q → zA z q := fun q h => by show z.1 ≤ q; rw [hz]; exact h
  have hbA : ¬ (fun q : Nat => s.heap.size ≤ q) b := Nat.not_le.mpr hbl
  intro n
  induction n with
  | zero =>
    intro i x3 h1 h2
    omega
  | succ n ih =>
    intro i x3 hiL hn ex3 S M hsim H locs ls hPx hPm hD hS hl
    refine lv_iload_n hx hb dL_law_18 rfl (lv_at hl 0 rfl) ?_
    refine lv_aload_n hx hb dL_law_19 rfl (lv_at hl 3 rfl) ?_
    refine va_slen hx hb hX hbl hbA hS dL_law_20 ?_
    refine lv_iconst (v := 4) hx hb dL_law_21 (by decide) ?_
    refine lv_isub hx hb dL_law_22 ?_
    have hcmp : (nI L - 4).toInt = (L : Int) - 4 := pk_sub_toInt (a := L) (b := 4) (by omega) (by decide)
    have hx3 : x3.toInt = (i : Int) := by rw [ex3]; exact nI_toInt (by omega)
    refine lv_icmp_gt (tgt := 1095) hx hb dL_law_23 (by decide) (fun h => ?_) (fun h => ?_)
    · refine lv_iconst (v := 1) hx hb dL_law_1095 (by decide) ?_
      refine va_forget (fun q h => hS.2.2 q h) ?_
      exact lw_ret hx hb hr hlocks dL_law_1096
    · have h4 : i + 4 ≤ L := by
        have h5 : ¬ (nI L - 4).toInt < x3.toInt := fun q => h (Int32.lt_iff_toInt_lt.mpr q)
        rw [hcmp, hx3] at h5
        omega
      have hi0 : vp_in x3 L := by rw [ex3]; exact vp_in_nI (by omega) (by omega)
      have hi1 : vp_in (x3 + 1) L := by rw [ex3, show (1 : Int32) = nI 1 from rfl, nI_add]; exact vp_in_nI (by omega) (by omega)
      have hi2 : vp_in (x3 + 2) L := by rw [ex3, show (2 : Int32) = nI 2 from rfl, nI_add]; exact vp_in_nI (by omega) (by omega)
      have hi3 : vp_in (x3 + 3) L := by rw [ex3, show (3 : Int32) = nI 3 from rfl, nI_add]; exact vp_in_nI (by omega) (by omega)
      have hnext : ∀ (S : tH) (M : tM), Sim S M → ∀ (H : Heap) (locs : List Loc) (ls : Array Slot), va_P D vwCl (wH cy ad S) H → va_P D vwCl (wM cy bd M) H → va_D (fun q : Nat => s.heap.size ≤ q) (wH cy ad S ++ wM cy bd M) → va_S (fun q : Nat => s.heap.size ≤ q) s.heap H locs → lv_has ls 4 [(3, .int x3), (2, .ref (bd 0)), (1, .ref (ad 0)), (0, .ref b)] → W p l e room_1 s m #[Value.ref b] below meth c H locs 45 1617 (lw_Z below #[Value.ref b] s) (F0 m 1089 ls []) := by
        intro S M hsim H locs ls hPx hPm hD hS hl
        obtain ⟨x4, ex4⟩ : ∃ y : Int32, x3 + 4 = y := ⟨_, rfl⟩
        refine lv_iinc (v := x4) (lv' := [(3, .int x4), (2, .ref (bd 0)), (1, .ref (ad 0)), (0, .ref b)]) hx hb dL_law_1089 hl (k := 0) rfl (Eq.trans rfl ex4) (by decide) rfl (fun ls hl => ?_)
        refine lv_goto (tgt := 18) hx hb dL_law_1092 (by decide) ?_
        exact ih (i + 4) x4 (by omega) (by omega) (by rw [← ex4, ex3, show (4 : Int32) = nI 4 from rfl, nI_add]) S M hsim H locs ls hPx hPm hD hS hl
      refine lv_aload_n hx hb dL_law_26 rfl (lv_at hl 3 rfl) ?_
      refine lv_iload_n hx hb dL_law_27 rfl (lv_at hl 0 rfl) ?_
      refine va_sld hx hb hX hbl hbA hS hi0 dL_law_28 ?_
      refine lv_bipush (v := 31) hx hb dL_law_29 (by decide) ?_
      refine lv_iand hx hb dL_law_31 ?_
      refine lv_topi (fun xk exk => ?_)
      by_cases h0 : xk = 0
      · refine sw_hit (tgt := 172) hx hb dL_law_32 h0 (by decide) (by decide) rfl (by decide) ?_
        refine lv_aload_n hx hb dL_law_172 rfl (lv_at hl 2 rfl) ?_
        refine lv_aload_n hx hb dL_law_173 rfl (lv_at hl 3 rfl) ?_
        refine lv_iload_n hx hb dL_law_174 rfl (lv_at hl 0 rfl) ?_
        refine lv_iconst (v := 1) hx hb dL_law_175 (by decide) ?_
        refine lv_iadd hx hb dL_law_176 ?_
        refine va_sld hx hb hX hbl hbA hS hi1 dL_law_177 ?_
        obtain ⟨r1, S2, M3, hx4, hx5, hsim2⟩ := st_write S M hsim (xs (x3 + (1 : Int32)).toNatClampNeg)
        refine callL ⟨hx, hb, hml, hown, hts⟩ (mtX4_write l D cy z ad S (xs (x3 + (1 : Int32)).toNatClampNeg) r1 S2 hx4) miX4_write q202 ⟨Nat.le_of_ble_eq_true rfl, Nat.le_of_ble_eq_true rfl⟩ ⟨rfl, rfl⟩ hPx hPm hD hKK hA0 (va_recv hKK.1 hPx (ci := 4) (q0 := 0) rfl rfl) rfl hl.1 rfl (Nat.le_of_ble_eq_true rfl) dL_law_178 ⟨Nat.le_of_ble_eq_true rfl, Nat.le_of_ble_eq_true rfl⟩ hS rfl (fun H locs hPx hPm hD hS => ?_)
        refine W.eq (g2 := F0 m 181 ls [.int r1]) rfl ?_
        refine lv_aload_n hx hb dL_law_181 rfl (lv_at hl 1 rfl) ?_
        refine lv_aload_n hx hb dL_law_182 rfl (lv_at hl 3 rfl) ?_
        refine lv_iload_n hx hb dL_law_183 rfl (lv_at hl 0 rfl) ?_
        refine lv_iconst (v := 1) hx hb dL_law_184 (by decide) ?_
        refine lv_iadd hx hb dL_law_185 ?_
        refine va_sld hx hb hX hbl hbA hS hi1 dL_law_186 ?_
        refine callR ⟨hx, hb, hml, hown, hts⟩ (mtX5_write l D cy z bd M (xs (x3 + (1 : Int32)).toNatClampNeg) r1 M3 hx5) miX5_write q746 ⟨Nat.le_of_ble_eq_true rfl, Nat.le_of_ble_eq_true rfl⟩ ⟨rfl, rfl⟩ hPm hPx hD hKK hA0 (va_recv hKK.1 hPm (ci := 5) (q0 := 0) rfl rfl) rfl hl.1 rfl (Nat.le_of_ble_eq_true rfl) dL_law_187 ⟨Nat.le_of_ble_eq_true rfl, Nat.le_of_ble_eq_true rfl⟩ hS rfl (fun H locs hPm hPx hD hS => ?_)
        refine W.eq (g2 := F0 m 190 ls [.int r1, .int r1]) rfl ?_
        refine lv_icmp_eq (tgt := 1089) hx hb dL_law_190 (by decide) (fun _ => ?_) (fun h => absurd rfl h)
        exact hnext S2 M3 hsim2 _ _ ls hPx hPm hD hS hl
      by_cases h1 : xk = 1
      · refine sw_hit (tgt := 195) hx hb dL_law_32 h1 (by decide) (by decide) rfl (by decide) ?_
        refine lv_aload_n hx hb dL_law_195 rfl (lv_at hl 2 rfl) ?_
        obtain ⟨r4, S5, M6, hx4, hx5, hsim2⟩ := st_wipe S M hsim ()
        refine callL ⟨hx, hb, hml, hown, hts⟩ (mtX4_wipe l D cy z ad S  r4 S5 hx4) miX4_wipe q210 ⟨Nat.le_of_ble_eq_true rfl, Nat.le_of_ble_eq_true rfl⟩ ⟨rfl, rfl⟩ hPx hPm hD hKK hA0 (va_recv hKK.1 hPx (ci := 4) (q0 := 0) rfl rfl) rfl hl.1 rfl (Nat.le_of_ble_eq_true rfl) dL_law_196 ⟨Nat.le_of_ble_eq_true rfl, Nat.le_of_ble_eq_true rfl⟩ hS rfl (fun H locs hPx hPm hD hS => ?_)
        refine W.eq (g2 := F0 m 199 ls [.int r4]) rfl ?_
        refine lv_aload_n hx hb dL_law_199 rfl (lv_at hl 1 rfl) ?_
        refine callR ⟨hx, hb, hml, hown, hts⟩ (mtX5_wipe l D cy z bd M  r4 M6 hx5) miX5_wipe q754 ⟨Nat.le_of_ble_eq_true rfl, Nat.le_of_ble_eq_true rfl⟩ ⟨rfl, rfl⟩ hPm hPx hD hKK hA0 (va_recv hKK.1 hPm (ci := 5) (q0 := 0) rfl rfl) rfl hl.1 rfl (Nat.le_of_ble_eq_true rfl) dL_law_200 ⟨Nat.le_of_ble_eq_true rfl, Nat.le_of_ble_eq_true rfl⟩ hS rfl (fun H locs hPm hPx hD hS => ?_)
        refine W.eq (g2 := F0 m 203 ls [.int r4, .int r4]) rfl ?_
        refine lv_icmp_eq (tgt := 1089) hx hb dL_law_203 (by decide) (fun _ => ?_) (fun h => absurd rfl h)
        exact hnext S5 M6 hsim2 _ _ ls hPx hPm hD hS hl
      by_cases h2 : xk = 2
      · refine sw_hit (tgt := 208) hx hb dL_law_32 h2 (by decide) (by decide) rfl (by decide) ?_
        refine lv_aload_n hx hb dL_law_208 rfl (lv_at hl 2 rfl) ?_
        obtain ⟨r7, S8, M9, hx4, hx5, hsim2⟩ := st_fault S M hsim ()
        refine callL ⟨hx, hb, hml, hown, hts⟩ (mtX4_fault l D cy z ad S  r7 S8 hx4) miX4_fault q214 ⟨Nat.le_of_ble_eq_true rfl, Nat.le_of_ble_eq_true rfl⟩ ⟨rfl, rfl⟩ hPx hPm hD hKK hA0 (va_recv hKK.1 hPx (ci := 4) (q0 := 0) rfl rfl) rfl hl.1 rfl (Nat.le_of_ble_eq_true rfl) dL_law_209 ⟨Nat.le_of_ble_eq_true rfl, Nat.le_of_ble_eq_true rfl⟩ hS rfl (fun H locs hPx hPm hD hS => ?_)
        refine W.eq (g2 := F0 m 212 ls [.int r7]) rfl ?_
        refine lv_aload_n hx hb dL_law_212 rfl (lv_at hl 1 rfl) ?_
        refine callR ⟨hx, hb, hml, hown, hts⟩ (mtX5_fault l D cy z bd M  r7 M9 hx5) miX5_fault q758 ⟨Nat.le_of_ble_eq_true rfl, Nat.le_of_ble_eq_true rfl⟩ ⟨rfl, rfl⟩ hPm hPx hD hKK hA0 (va_recv hKK.1 hPm (ci := 5) (q0 := 0) rfl rfl) rfl hl.1 rfl (Nat.le_of_ble_eq_true rfl) dL_law_213 ⟨Nat.le_of_ble_eq_true rfl, Nat.le_of_ble_eq_true rfl⟩ hS rfl (fun H locs hPm hPx hD hS => ?_)
        refine W.eq (g2 := F0 m 216 ls [.int r7, .int r7]) rfl ?_
        refine lv_icmp_eq (tgt := 1089) hx hb dL_law_216 (by decide) (fun _ => ?_) (fun h => absurd rfl h)
        exact hnext S8 M9 hsim2 _ _ ls hPx hPm hD hS hl
      by_cases h3 : xk = 3
      · refine sw_hit (tgt := 221) hx hb dL_law_32 h3 (by decide) (by decide) rfl (by decide) ?_
        refine lv_aload_n hx hb dL_law_221 rfl (lv_at hl 2 rfl) ?_
        obtain ⟨r10, S11, M12, hx4, hx5, hsim2⟩ := st_map S M hsim ()
        refine callL ⟨hx, hb, hml, hown, hts⟩ (mtX4_map l D cy z ad S  r10 S11 hx4) miX4_map q363 ⟨Nat.le_of_ble_eq_true rfl, Nat.le_of_ble_eq_true rfl⟩ ⟨rfl, rfl⟩ hPx hPm hD hKK hA0 (va_recv hKK.1 hPx (ci := 4) (q0 := 0) rfl rfl) rfl hl.1 rfl (Nat.le_of_ble_eq_true rfl) dL_law_222 ⟨Nat.le_of_ble_eq_true rfl, Nat.le_of_ble_eq_true rfl⟩ hS rfl (fun H locs hPx hPm hD hS => ?_)
        refine W.eq (g2 := F0 m 225 ls [.int r10]) rfl ?_
        refine lv_aload_n hx hb dL_law_225 rfl (lv_at hl 1 rfl) ?_
        refine callR ⟨hx, hb, hml, hown, hts⟩ (mtX5_map l D cy z bd M  r10 M12 hx5) miX5_map q785 ⟨Nat.le_of_ble_eq_true rfl, Nat.le_of_ble_eq_true rfl⟩ ⟨rfl, rfl⟩ hPm hPx hD hKK hA0 (va_recv hKK.1 hPm (ci := 5) (q0 := 0) rfl rfl) rfl hl.1 rfl (Nat.le_of_ble_eq_true rfl) dL_law_226 ⟨Nat.le_of_ble_eq_true rfl, Nat.le_of_ble_eq_true rfl⟩ hS rfl (fun H locs hPm hPx hD hS => ?_)
        refine W.eq (g2 := F0 m 229 ls [.int r10, .int r10]) rfl ?_
        refine lv_icmp_eq (tgt := 1089) hx hb dL_law_229 (by decide) (fun _ => ?_) (fun h => absurd rfl h)
        exact hnext S11 M12 hsim2 _ _ ls hPx hPm hD hS hl
      by_cases h4 : xk = 4
      · refine sw_hit (tgt := 234) hx hb dL_law_32 h4 (by decide) (by decide) rfl (by decide) ?_
        refine lv_aload_n hx hb dL_law_234 rfl (lv_at hl 2 rfl) ?_
        refine lv_aload_n hx hb dL_law_235 rfl (lv_at hl 3 rfl) ?_
        refine lv_iload_n hx hb dL_law_236 rfl (lv_at hl 0 rfl) ?_
        refine lv_iconst (v := 1) hx hb dL_law_237 (by decide) ?_
        refine lv_iadd hx hb dL_law_238 ?_
        refine va_sld hx hb hX hbl hbA hS hi1 dL_law_239 ?_
        obtain ⟨r13, M14, hx4, hx5, hsim2⟩ := st_about S M hsim (xs (x3 + (1 : Int32)).toNatClampNeg)
        refine pCallVI ⟨hx, hb, hml, hown, hts⟩ (mtX4_about l D cy z ad S (xs (x3 + (1 : Int32)).toNatClampNeg) r13 hx4) miX4_about q375 ⟨Nat.le_of_ble_eq_true rfl, Nat.le_of_ble_eq_true rfl⟩ ⟨rfl, rfl⟩ hPx hKK hS hA0 (va_recv hKK.1 hPx (ci := 4) (q0 := 0) rfl rfl) rfl hl.1 rfl (Nat.le_of_ble_eq_true rfl) dL_law_240 ⟨Nat.le_of_ble_eq_true rfl, Nat.le_of_ble_eq_true rfl⟩ ?_
        refine lv_aload_n hx hb dL_law_243 rfl (lv_at hl 1 rfl) ?_
        refine lv_aload_n hx hb dL_law_244 rfl (lv_at hl 3 rfl) ?_
        refine lv_iload_n hx hb dL_law_245 rfl (lv_at hl 0 rfl) ?_
        refine lv_iconst (v := 1) hx hb dL_law_246 (by decide) ?_
        refine lv_iadd hx hb dL_law_247 ?_
        refine va_sld hx hb hX hbl hbA hS hi1 dL_law_248 ?_
        refine callR ⟨hx, hb, hml, hown, hts⟩ (mtX5_about l D cy z bd M (xs (x3 + (1 : Int32)).toNatClampNeg) r13 M14 hx5) miX5_about q796 ⟨Nat.le_of_ble_eq_true rfl, Nat.le_of_ble_eq_true rfl⟩ ⟨rfl, rfl⟩ hPm hPx hD hKK hA0 (va_recv hKK.1 hPm (ci := 5) (q0 := 0) rfl rfl) rfl hl.1 rfl (Nat.le_of_ble_eq_true rfl) dL_law_249 ⟨Nat.le_of_ble_eq_true rfl, Nat.le_of_ble_eq_true rfl⟩ hS rfl (fun H locs hPm hPx hD hS => ?_)
        refine W.eq (g2 := F0 m 252 ls [.int r13, .int r13]) rfl ?_
        refine lv_icmp_eq (tgt := 1089) hx hb dL_law_252 (by decide) (fun _ => ?_) (fun h => absurd rfl h)
        exact hnext S M14 hsim2 _ _ ls hPx hPm hD hS hl
      by_cases h5 : xk = 5
      · refine sw_hit (tgt := 257) hx hb dL_law_32 h5 (by decide) (by decide) rfl (by decide) ?_
        refine lv_aload_n hx hb dL_law_257 rfl (lv_at hl 2 rfl) ?_
        refine lv_aload_n hx hb dL_law_258 rfl (lv_at hl 3 rfl) ?_
        refine lv_iload_n hx hb dL_law_259 rfl (lv_at hl 0 rfl) ?_
        refine lv_iconst (v := 1) hx hb dL_law_260 (by decide) ?_
        refine lv_iadd hx hb dL_law_261 ?_
        refine va_sld hx hb hX hbl hbA hS hi1 dL_law_262 ?_
        refine lv_aload_n hx hb dL_law_263 rfl (lv_at hl 3 rfl) ?_
        refine lv_iload_n hx hb dL_law_264 rfl (lv_at hl 0 rfl) ?_
        refine lv_iconst (v := 2) hx hb dL_law_265 (by decide) ?_
        refine lv_iadd hx hb dL_law_266 ?_
        refine va_sld hx hb hX hbl hbA hS hi2 dL_law_267 ?_
        obtain ⟨r15, M16, hx4, hx5, hsim2⟩ := st_cell S M hsim (xs (x3 + (1 : Int32)).toNatClampNeg) (xs (x3 + (2 : Int32)).toNatClampNeg)
        refine pCallVI ⟨hx, hb, hml, hown, hts⟩ (mtX4_cell l D cy z ad S (xs (x3 + (1 : Int32)).toNatClampNeg) (xs (x3 + (2 : Int32)).toNatClampNeg) r15 hx4) miX4_cell q434 ⟨Nat.le_of_ble_eq_true rfl, Nat.le_of_ble_eq_true rfl⟩ ⟨rfl, rfl⟩ hPx hKK hS hA0 (va_recv hKK.1 hPx (ci := 4) (q0 := 0) rfl rfl) rfl hl.1 rfl (Nat.le_of_ble_eq_true rfl) dL_law_268 ⟨Nat.le_of_ble_eq_true rfl, Nat.le_of_ble_eq_true rfl⟩ ?_
        refine lv_aload_n hx hb dL_law_271 rfl (lv_at hl 1 rfl) ?_
        refine lv_aload_n hx hb dL_law_272 rfl (lv_at hl 3 rfl) ?_
        refine lv_iload_n hx hb dL_law_273 rfl (lv_at hl 0 rfl) ?_
        refine lv_iconst (v := 1) hx hb dL_law_274 (by decide) ?_
        refine lv_iadd hx hb dL_law_275 ?_
        refine va_sld hx hb hX hbl hbA hS hi1 dL_law_276 ?_
        refine lv_aload_n hx hb dL_law_277 rfl (lv_at hl 3 rfl) ?_
        refine lv_iload_n hx hb dL_law_278 rfl (lv_at hl 0 rfl) ?_
        refine lv_iconst (v := 2) hx hb dL_law_279 (by decide) ?_
        refine lv_iadd hx hb dL_law_280 ?_
        refine va_sld hx hb hX hbl hbA hS hi2 dL_law_281 ?_
        refine callR ⟨hx, hb, hml, hown, hts⟩ (mtX5_cell l D cy z bd M (xs (x3 + (1 : Int32)).toNatClampNeg) (xs (x3 + (2 : Int32)).toNatClampNeg) r15 M16 hx5) miX5_cell q861 ⟨Nat.le_of_ble_eq_true rfl, Nat.le_of_ble_eq_true rfl⟩ ⟨rfl, rfl⟩ hPm hPx hD hKK hA0 (va_recv hKK.1 hPm (ci := 5) (q0 := 0) rfl rfl) rfl hl.1 rfl (Nat.le_of_ble_eq_true rfl) dL_law_282 ⟨Nat.le_of_ble_eq_true rfl, Nat.le_of_ble_eq_true rfl⟩ hS rfl (fun H locs hPm hPx hD hS => ?_)
        refine W.eq (g2 := F0 m 285 ls [.int r15, .int r15]) rfl ?_
        refine lv_icmp_eq (tgt := 1089) hx hb dL_law_285 (by decide) (fun _ => ?_) (fun h => absurd rfl h)
        exact hnext S M16 hsim2 _ _ ls hPx hPm hD hS hl
      by_cases h6 : xk = 6
      · refine sw_hit (tgt := 290) hx hb dL_law_32 h6 (by decide) (by decide) rfl (by decide) ?_
        refine lv_aload_n hx hb dL_law_290 rfl (lv_at hl 2 rfl) ?_
        refine lv_aload_n hx hb dL_law_291 rfl (lv_at hl 3 rfl) ?_
        refine lv_iload_n hx hb dL_law_292 rfl (lv_at hl 0 rfl) ?_
        refine lv_iconst (v := 1) hx hb dL_law_293 (by decide) ?_
        refine lv_iadd hx hb dL_law_294 ?_
        refine va_sld hx hb hX hbl hbA hS hi1 dL_law_295 ?_
        refine lv_aload_n hx hb dL_law_296 rfl (lv_at hl 3 rfl) ?_
        refine lv_iload_n hx hb dL_law_297 rfl (lv_at hl 0 rfl) ?_
        refine lv_iconst (v := 2) hx hb dL_law_298 (by decide) ?_
        refine lv_iadd hx hb dL_law_299 ?_
        refine va_sld hx hb hX hbl hbA hS hi2 dL_law_300 ?_
        obtain ⟨r17, hx4, hx5⟩ := st_tower S M hsim (xs (x3 + (1 : Int32)).toNatClampNeg) (xs (x3 + (2 : Int32)).toNatClampNeg)
        refine pCallVI ⟨hx, hb, hml, hown, hts⟩ (mtX4_tower l D cy z ad S (xs (x3 + (1 : Int32)).toNatClampNeg) (xs (x3 + (2 : Int32)).toNatClampNeg) r17 hx4) miX4_tower q456 ⟨Nat.le_of_ble_eq_true rfl, Nat.le_of_ble_eq_true rfl⟩ ⟨rfl, rfl⟩ hPx hKK hS hA0 (va_recv hKK.1 hPx (ci := 4) (q0 := 0) rfl rfl) rfl hl.1 rfl (Nat.le_of_ble_eq_true rfl) dL_law_301 ⟨Nat.le_of_ble_eq_true rfl, Nat.le_of_ble_eq_true rfl⟩ ?_
        refine lv_aload_n hx hb dL_law_304 rfl (lv_at hl 1 rfl) ?_
        refine lv_aload_n hx hb dL_law_305 rfl (lv_at hl 3 rfl) ?_
        refine lv_iload_n hx hb dL_law_306 rfl (lv_at hl 0 rfl) ?_
        refine lv_iconst (v := 1) hx hb dL_law_307 (by decide) ?_
        refine lv_iadd hx hb dL_law_308 ?_
        refine va_sld hx hb hX hbl hbA hS hi1 dL_law_309 ?_
        refine lv_aload_n hx hb dL_law_310 rfl (lv_at hl 3 rfl) ?_
        refine lv_iload_n hx hb dL_law_311 rfl (lv_at hl 0 rfl) ?_
        refine lv_iconst (v := 2) hx hb dL_law_312 (by decide) ?_
        refine lv_iadd hx hb dL_law_313 ?_
        refine va_sld hx hb hX hbl hbA hS hi2 dL_law_314 ?_
        have hP1 := hPm.sub (ws' := [moC bd M.1, arI cy (bd 2) 51 M.2.2.1]) [0, 2] rfl
        refine pCallVI ⟨hx, hb, hml, hown, hts⟩ (mtX5_tower l D cy z bd M.1 M.2.2.1 (xs (x3 + (1 : Int32)).toNatClampNeg) (xs (x3 + (2 : Int32)).toNatClampNeg) r17 hx5) miX5_tower q881 ⟨Nat.le_of_ble_eq_true rfl, Nat.le_of_ble_eq_true rfl⟩ ⟨rfl, rfl⟩ hP1 hKK hS hA0 (va_recv hKK.1 hP1 (ci := 5) (q0 := 0) rfl rfl) rfl hl.1 rfl (Nat.le_of_ble_eq_true rfl) dL_law_315 ⟨Nat.le_of_ble_eq_true rfl, Nat.le_of_ble_eq_true rfl⟩ ?_
        refine lv_icmp_eq (tgt := 1089) hx hb dL_law_318 (by decide) (fun _ => ?_) (fun h => absurd rfl h)
        exact hnext S M hsim _ _ ls hPx hPm hD hS hl
      by_cases h7 : xk = 7
      · refine sw_hit (tgt := 323) hx hb dL_law_32 h7 (by decide) (by decide) rfl (by decide) ?_
        refine lv_aload_n hx hb dL_law_323 rfl (lv_at hl 2 rfl) ?_
        refine lv_aload_n hx hb dL_law_324 rfl (lv_at hl 3 rfl) ?_
        refine lv_iload_n hx hb dL_law_325 rfl (lv_at hl 0 rfl) ?_
        refine lv_iconst (v := 1) hx hb dL_law_326 (by decide) ?_
        refine lv_iadd hx hb dL_law_327 ?_
        refine va_sld hx hb hX hbl hbA hS hi1 dL_law_328 ?_
        refine lv_aload_n hx hb dL_law_329 rfl (lv_at hl 3 rfl) ?_
        refine lv_iload_n hx hb dL_law_330 rfl (lv_at hl 0 rfl) ?_
        refine lv_iconst (v := 2) hx hb dL_law_331 (by decide) ?_
        refine lv_iadd hx hb dL_law_332 ?_
        refine va_sld hx hb hX hbl hbA hS hi2 dL_law_333 ?_
        obtain ⟨r18, S19, M20, hx4, hx5, hsim2⟩ := st_raise S M hsim (xs (x3 + (1 : Int32)).toNatClampNeg) (xs (x3 + (2 : Int32)).toNatClampNeg)
        refine callL ⟨hx, hb, hml, hown, hts⟩ (mtX4_raise l D cy z ad S (xs (x3 + (1 : Int32)).toNatClampNeg) (xs (x3 + (2 : Int32)).toNatClampNeg) r18 S19 hx4) miX4_raise q474 ⟨Nat.le_of_ble_eq_true rfl, Nat.le_of_ble_eq_true rfl⟩ ⟨rfl, rfl⟩ hPx hPm hD hKK hA0 (va_recv hKK.1 hPx (ci := 4) (q0 := 0) rfl rfl) rfl hl.1 rfl (Nat.le_of_ble_eq_true rfl) dL_law_334 ⟨Nat.le_of_ble_eq_true rfl, Nat.le_of_ble_eq_true rfl⟩ hS rfl (fun H locs hPx hPm hD hS => ?_)
        refine W.eq (g2 := F0 m 337 ls [.int r18]) rfl ?_
        refine lv_aload_n hx hb dL_law_337 rfl (lv_at hl 1 rfl) ?_
        refine lv_aload_n hx hb dL_law_338 rfl (lv_at hl 3 rfl) ?_
        refine lv_iload_n hx hb dL_law_339 rfl (lv_at hl 0 rfl) ?_
        refine lv_iconst (v := 1) hx hb dL_law_340 (by decide) ?_
        refine lv_iadd hx hb dL_law_341 ?_
        refine va_sld hx hb hX hbl hbA hS hi1 dL_law_342 ?_
        refine lv_aload_n hx hb dL_law_343 rfl (lv_at hl 3 rfl) ?_
        refine lv_iload_n hx hb dL_law_344 rfl (lv_at hl 0 rfl) ?_
        refine lv_iconst (v := 2) hx hb dL_law_345 (by decide) ?_
        refine lv_iadd hx hb dL_law_346 ?_
        refine va_sld hx hb hX hbl hbA hS hi2 dL_law_347 ?_
        refine callR ⟨hx, hb, hml, hown, hts⟩ (mtX5_raise l D cy z bd M (xs (x3 + (1 : Int32)).toNatClampNeg) (xs (x3 + (2 : Int32)).toNatClampNeg) r18 M20 hx5) miX5_raise q894 ⟨Nat.le_of_ble_eq_true rfl, Nat.le_of_ble_eq_true rfl⟩ ⟨rfl, rfl⟩ hPm hPx hD hKK hA0 (va_recv hKK.1 hPm (ci := 5) (q0 := 0) rfl rfl) rfl hl.1 rfl (Nat.le_of_ble_eq_true rfl) dL_law_348 ⟨Nat.le_of_ble_eq_true rfl, Nat.le_of_ble_eq_true rfl⟩ hS rfl (fun H locs hPm hPx hD hS => ?_)
        refine W.eq (g2 := F0 m 351 ls [.int r18, .int r18]) rfl ?_
        refine lv_icmp_eq (tgt := 1089) hx hb dL_law_351 (by decide) (fun _ => ?_) (fun h => absurd rfl h)
        exact hnext S19 M20 hsim2 _ _ ls hPx hPm hD hS hl
      by_cases h8 : xk = 8
      · refine sw_hit (tgt := 356) hx hb dL_law_32 h8 (by decide) (by decide) rfl (by decide) ?_
        refine lv_aload_n hx hb dL_law_356 rfl (lv_at hl 2 rfl) ?_
        refine lv_aload_n hx hb dL_law_357 rfl (lv_at hl 3 rfl) ?_
        refine lv_iload_n hx hb dL_law_358 rfl (lv_at hl 0 rfl) ?_
        refine lv_iconst (v := 1) hx hb dL_law_359 (by decide) ?_
        refine lv_iadd hx hb dL_law_360 ?_
        refine va_sld hx hb hX hbl hbA hS hi1 dL_law_361 ?_
        refine lv_aload_n hx hb dL_law_362 rfl (lv_at hl 3 rfl) ?_
        refine lv_iload_n hx hb dL_law_363 rfl (lv_at hl 0 rfl) ?_
        refine lv_iconst (v := 2) hx hb dL_law_364 (by decide) ?_
        refine lv_iadd hx hb dL_law_365 ?_
        refine va_sld hx hb hX hbl hbA hS hi2 dL_law_366 ?_
        obtain ⟨r21, S22, M23, hx4, hx5, hsim2⟩ := st_build S M hsim (xs (x3 + (1 : Int32)).toNatClampNeg) (xs (x3 + (2 : Int32)).toNatClampNeg)
        refine callL ⟨hx, hb, hml, hown, hts⟩ (mtX4_build l D cy z ad S (xs (x3 + (1 : Int32)).toNatClampNeg) (xs (x3 + (2 : Int32)).toNatClampNeg) r21 S22 hx4) miX4_build q490 ⟨Nat.le_of_ble_eq_true rfl, Nat.le_of_ble_eq_true rfl⟩ ⟨rfl, rfl⟩ hPx hPm hD hKK hA0 (va_recv hKK.1 hPx (ci := 4) (q0 := 0) rfl rfl) rfl hl.1 rfl (Nat.le_of_ble_eq_true rfl) dL_law_367 ⟨Nat.le_of_ble_eq_true rfl, Nat.le_of_ble_eq_true rfl⟩ hS rfl (fun H locs hPx hPm hD hS => ?_)
        refine W.eq (g2 := F0 m 370 ls [.int r21]) rfl ?_
        refine lv_aload_n hx hb dL_law_370 rfl (lv_at hl 1 rfl) ?_
        refine lv_aload_n hx hb dL_law_371 rfl (lv_at hl 3 rfl) ?_
        refine lv_iload_n hx hb dL_law_372 rfl (lv_at hl 0 rfl) ?_
        refine lv_iconst (v := 1) hx hb dL_law_373 (by decide) ?_
        refine lv_iadd hx hb dL_law_374 ?_
        refine va_sld hx hb hX hbl hbA hS hi1 dL_law_375 ?_
        refine lv_aload_n hx hb dL_law_376 rfl (lv_at hl 3 rfl) ?_
        refine lv_iload_n hx hb dL_law_377 rfl (lv_at hl 0 rfl) ?_
        refine lv_iconst (v := 2) hx hb dL_law_378 (by decide) ?_
        refine lv_iadd hx hb dL_law_379 ?_
        refine va_sld hx hb hX hbl hbA hS hi2 dL_law_380 ?_
        refine callR ⟨hx, hb, hml, hown, hts⟩ (mtX5_build l D cy z bd M (xs (x3 + (1 : Int32)).toNatClampNeg) (xs (x3 + (2 : Int32)).toNatClampNeg) r21 M23 hx5) miX5_build q903 ⟨Nat.le_of_ble_eq_true rfl, Nat.le_of_ble_eq_true rfl⟩ ⟨rfl, rfl⟩ hPm hPx hD hKK hA0 (va_recv hKK.1 hPm (ci := 5) (q0 := 0) rfl rfl) rfl hl.1 rfl (Nat.le_of_ble_eq_true rfl) dL_law_381 ⟨Nat.le_of_ble_eq_true rfl, Nat.le_of_ble_eq_true rfl⟩ hS rfl (fun H locs hPm hPx hD hS => ?_)
        refine W.eq (g2 := F0 m 384 ls [.int r21, .int r21]) rfl ?_
        refine lv_icmp_eq (tgt := 1089) hx hb dL_law_384 (by decide) (fun _ => ?_) (fun h => absurd rfl h)
        exact hnext S22 M23 hsim2 _ _ ls hPx hPm hD hS hl
      by_cases h9 : xk = 9
      · refine sw_hit (tgt := 389) hx hb dL_law_32 h9 (by decide) (by decide) rfl (by decide) ?_
        refine lv_aload_n hx hb dL_law_389 rfl (lv_at hl 2 rfl) ?_
        refine lv_aload_n hx hb dL_law_390 rfl (lv_at hl 3 rfl) ?_
        refine lv_iload_n hx hb dL_law_391 rfl (lv_at hl 0 rfl) ?_
        refine lv_iconst (v := 1) hx hb dL_law_392 (by decide) ?_
        refine lv_iadd hx hb dL_law_393 ?_
        refine va_sld hx hb hX hbl hbA hS hi1 dL_law_394 ?_
        obtain ⟨r24, S25, M26, hx4, hx5, hsim2⟩ := st_raze S M hsim (xs (x3 + (1 : Int32)).toNatClampNeg)
        refine callL ⟨hx, hb, hml, hown, hts⟩ (mtX4_raze l D cy z ad S (xs (x3 + (1 : Int32)).toNatClampNeg) r24 S25 hx4) miX4_raze q495 ⟨Nat.le_of_ble_eq_true rfl, Nat.le_of_ble_eq_true rfl⟩ ⟨rfl, rfl⟩ hPx hPm hD hKK hA0 (va_recv hKK.1 hPx (ci := 4) (q0 := 0) rfl rfl) rfl hl.1 rfl (Nat.le_of_ble_eq_true rfl) dL_law_395 ⟨Nat.le_of_ble_eq_true rfl, Nat.le_of_ble_eq_true rfl⟩ hS rfl (fun H locs hPx hPm hD hS => ?_)
        refine W.eq (g2 := F0 m 398 ls [.int r24]) rfl ?_
        refine lv_aload_n hx hb dL_law_398 rfl (lv_at hl 1 rfl) ?_
        refine lv_aload_n hx hb dL_law_399 rfl (lv_at hl 3 rfl) ?_
        refine lv_iload_n hx hb dL_law_400 rfl (lv_at hl 0 rfl) ?_
        refine lv_iconst (v := 1) hx hb dL_law_401 (by decide) ?_
        refine lv_iadd hx hb dL_law_402 ?_
        refine va_sld hx hb hX hbl hbA hS hi1 dL_law_403 ?_
        refine callR ⟨hx, hb, hml, hown, hts⟩ (mtX5_raze l D cy z bd M (xs (x3 + (1 : Int32)).toNatClampNeg) r24 M26 hx5) miX5_raze q910 ⟨Nat.le_of_ble_eq_true rfl, Nat.le_of_ble_eq_true rfl⟩ ⟨rfl, rfl⟩ hPm hPx hD hKK hA0 (va_recv hKK.1 hPm (ci := 5) (q0 := 0) rfl rfl) rfl hl.1 rfl (Nat.le_of_ble_eq_true rfl) dL_law_404 ⟨Nat.le_of_ble_eq_true rfl, Nat.le_of_ble_eq_true rfl⟩ hS rfl (fun H locs hPm hPx hD hS => ?_)
        refine W.eq (g2 := F0 m 407 ls [.int r24, .int r24]) rfl ?_
        refine lv_icmp_eq (tgt := 1089) hx hb dL_law_407 (by decide) (fun _ => ?_) (fun h => absurd rfl h)
        exact hnext S25 M26 hsim2 _ _ ls hPx hPm hD hS hl
      by_cases h10 : xk = 10
      · refine sw_hit (tgt := 412) hx hb dL_law_32 h10 (by decide) (by decide) rfl (by decide) ?_
        refine lv_aload_n hx hb dL_law_412 rfl (lv_at hl 2 rfl) ?_
        refine lv_aload_n hx hb dL_law_413 rfl (lv_at hl 3 rfl) ?_
        refine lv_iload_n hx hb dL_law_414 rfl (lv_at hl 0 rfl) ?_
        refine lv_iconst (v := 1) hx hb dL_law_415 (by decide) ?_
        refine lv_iadd hx hb dL_law_416 ?_
        refine va_sld hx hb hX hbl hbA hS hi1 dL_law_417 ?_
        refine lv_aload_n hx hb dL_law_418 rfl (lv_at hl 3 rfl) ?_
        refine lv_iload_n hx hb dL_law_419 rfl (lv_at hl 0 rfl) ?_
        refine lv_iconst (v := 2) hx hb dL_law_420 (by decide) ?_
        refine lv_iadd hx hb dL_law_421 ?_
        refine va_sld hx hb hX hbl hbA hS hi2 dL_law_422 ?_
        obtain ⟨r27, S28, M29, hx4, hx5, hsim2⟩ := st_set S M hsim (xs (x3 + (1 : Int32)).toNatClampNeg) (xs (x3 + (2 : Int32)).toNatClampNeg)
        refine callL ⟨hx, hb, hml, hown, hts⟩ (mtX4_set l D cy z ad S (xs (x3 + (1 : Int32)).toNatClampNeg) (xs (x3 + (2 : Int32)).toNatClampNeg) r27 S28 hx4) miX4_set q503 ⟨Nat.le_of_ble_eq_true rfl, Nat.le_of_ble_eq_true rfl⟩ ⟨rfl, rfl⟩ hPx hPm hD hKK hA0 (va_recv hKK.1 hPx (ci := 4) (q0 := 0) rfl rfl) rfl hl.1 rfl (Nat.le_of_ble_eq_true rfl) dL_law_423 ⟨Nat.le_of_ble_eq_true rfl, Nat.le_of_ble_eq_true rfl⟩ hS rfl (fun H locs hPx hPm hD hS => ?_)
        refine W.eq (g2 := F0 m 426 ls [.int r27]) rfl ?_
        refine lv_aload_n hx hb dL_law_426 rfl (lv_at hl 1 rfl) ?_
        refine lv_aload_n hx hb dL_law_427 rfl (lv_at hl 3 rfl) ?_
        refine lv_iload_n hx hb dL_law_428 rfl (lv_at hl 0 rfl) ?_
        refine lv_iconst (v := 1) hx hb dL_law_429 (by decide) ?_
        refine lv_iadd hx hb dL_law_430 ?_
        refine va_sld hx hb hX hbl hbA hS hi1 dL_law_431 ?_
        refine lv_aload_n hx hb dL_law_432 rfl (lv_at hl 3 rfl) ?_
        refine lv_iload_n hx hb dL_law_433 rfl (lv_at hl 0 rfl) ?_
        refine lv_iconst (v := 2) hx hb dL_law_434 (by decide) ?_
        refine lv_iadd hx hb dL_law_435 ?_
        refine va_sld hx hb hX hbl hbA hS hi2 dL_law_436 ?_
        refine callR ⟨hx, hb, hml, hown, hts⟩ (mtX5_set l D cy z bd M (xs (x3 + (1 : Int32)).toNatClampNeg) (xs (x3 + (2 : Int32)).toNatClampNeg) r27 M29 hx5) miX5_set q917 ⟨Nat.le_of_ble_eq_true rfl, Nat.le_of_ble_eq_true rfl⟩ ⟨rfl, rfl⟩ hPm hPx hD hKK hA0 (va_recv hKK.1 hPm (ci := 5) (q0 := 0) rfl rfl) rfl hl.1 rfl (Nat.le_of_ble_eq_true rfl) dL_law_437 ⟨Nat.le_of_ble_eq_true rfl, Nat.le_of_ble_eq_true rfl⟩ hS rfl (fun H locs hPm hPx hD hS => ?_)
        refine W.eq (g2 := F0 m 440 ls [.int r27, .int r27]) rfl ?_
        refine lv_icmp_eq (tgt := 1089) hx hb dL_law_440 (by decide) (fun _ => ?_) (fun h => absurd rfl h)
        exact hnext S28 M29 hsim2 _ _ ls hPx hPm hD hS hl
      by_cases h11 : xk = 11
      · refine sw_hit (tgt := 445) hx hb dL_law_32 h11 (by decide) (by decide) rfl (by decide) ?_
        refine lv_aload_n hx hb dL_law_445 rfl (lv_at hl 2 rfl) ?_
        obtain ⟨r30, S31, M32, hx4, hx5, hsim2⟩ := st_undo S M hsim ()
        refine callL ⟨hx, hb, hml, hown, hts⟩ (mtX4_undo l D cy z ad S  r30 S31 hx4) miX4_undo q509 ⟨Nat.le_of_ble_eq_true rfl, Nat.le_of_ble_eq_true rfl⟩ ⟨rfl, rfl⟩ hPx hPm hD hKK hA0 (va_recv hKK.1 hPx (ci := 4) (q0 := 0) rfl rfl) rfl hl.1 rfl (Nat.le_of_ble_eq_true rfl) dL_law_446 ⟨Nat.le_of_ble_eq_true rfl, Nat.le_of_ble_eq_true rfl⟩ hS rfl (fun H locs hPx hPm hD hS => ?_)
        refine W.eq (g2 := F0 m 449 ls [.int r30]) rfl ?_
        refine lv_aload_n hx hb dL_law_449 rfl (lv_at hl 1 rfl) ?_
        refine callR ⟨hx, hb, hml, hown, hts⟩ (mtX5_undo l D cy z bd M  r30 M32 hx5) miX5_undo q925 ⟨Nat.le_of_ble_eq_true rfl, Nat.le_of_ble_eq_true rfl⟩ ⟨rfl, rfl⟩ hPm hPx hD hKK hA0 (va_recv hKK.1 hPm (ci := 5) (q0 := 0) rfl rfl) rfl hl.1 rfl (Nat.le_of_ble_eq_true rfl) dL_law_450 ⟨Nat.le_of_ble_eq_true rfl, Nat.le_of_ble_eq_true rfl⟩ hS rfl (fun H locs hPm hPx hD hS => ?_)
        refine W.eq (g2 := F0 m 453 ls [.int r30, .int r30]) rfl ?_
        refine lv_icmp_eq (tgt := 1089) hx hb dL_law_453 (by decide) (fun _ => ?_) (fun h => absurd rfl h)
        exact hnext S31 M32 hsim2 _ _ ls hPx hPm hD hS hl
      by_cases h12 : xk = 12
      · refine sw_hit (tgt := 458) hx hb dL_law_32 h12 (by decide) (by decide) rfl (by decide) ?_
        refine lv_aload_n hx hb dL_law_458 rfl (lv_at hl 2 rfl) ?_
        refine lv_aload_n hx hb dL_law_459 rfl (lv_at hl 3 rfl) ?_
        refine lv_iload_n hx hb dL_law_460 rfl (lv_at hl 0 rfl) ?_
        refine lv_iconst (v := 1) hx hb dL_law_461 (by decide) ?_
        refine lv_iadd hx hb dL_law_462 ?_
        refine va_sld hx hb hX hbl hbA hS hi1 dL_law_463 ?_
        refine lv_aload_n hx hb dL_law_464 rfl (lv_at hl 3 rfl) ?_
        refine lv_iload_n hx hb dL_law_465 rfl (lv_at hl 0 rfl) ?_
        refine lv_iconst (v := 2) hx hb dL_law_466 (by decide) ?_
        refine lv_iadd hx hb dL_law_467 ?_
        refine va_sld hx hb hX hbl hbA hS hi2 dL_law_468 ?_
        refine lv_aload_n hx hb dL_law_469 rfl (lv_at hl 3 rfl) ?_
        refine lv_iload_n hx hb dL_law_470 rfl (lv_at hl 0 rfl) ?_
        refine lv_iconst (v := 3) hx hb dL_law_471 (by decide) ?_
        refine lv_iadd hx hb dL_law_472 ?_
        refine va_sld hx hb hX hbl hbA hS hi3 dL_law_473 ?_
        obtain ⟨r33, hx4, hx5⟩ := st_sees S M hsim (xs (x3 + (1 : Int32)).toNatClampNeg) (xs (x3 + (2 : Int32)).toNatClampNeg) (xs (x3 + (3 : Int32)).toNatClampNeg)
        refine pCallVI ⟨hx, hb, hml, hown, hts⟩ (mtX4_sees l D cy z ad S (xs (x3 + (1 : Int32)).toNatClampNeg) (xs (x3 + (2 : Int32)).toNatClampNeg) (xs (x3 + (3 : Int32)).toNatClampNeg) r33 hx4) miX4_sees q521 ⟨Nat.le_of_ble_eq_true rfl, Nat.le_of_ble_eq_true rfl⟩ ⟨rfl, rfl⟩ hPx hKK hS hA0 (va_recv hKK.1 hPx (ci := 4) (q0 := 0) rfl rfl) rfl hl.1 rfl (Nat.le_of_ble_eq_true rfl) dL_law_474 ⟨Nat.le_of_ble_eq_true rfl, Nat.le_of_ble_eq_true rfl⟩ ?_
        refine lv_aload_n hx hb dL_law_477 rfl (lv_at hl 1 rfl) ?_
        refine lv_aload_n hx hb dL_law_478 rfl (lv_at hl 3 rfl) ?_
        refine lv_iload_n hx hb dL_law_479 rfl (lv_at hl 0 rfl) ?_
        refine lv_iconst (v := 1) hx hb dL_law_480 (by decide) ?_
        refine lv_iadd hx hb dL_law_481 ?_
        refine va_sld hx hb hX hbl hbA hS hi1 dL_law_482 ?_
        refine lv_aload_n hx hb dL_law_483 rfl (lv_at hl 3 rfl) ?_
        refine lv_iload_n hx hb dL_law_484 rfl (lv_at hl 0 rfl) ?_
        refine lv_iconst (v := 2) hx hb dL_law_485 (by decide) ?_
        refine lv_iadd hx hb dL_law_486 ?_
        refine va_sld hx hb hX hbl hbA hS hi2 dL_law_487 ?_
        refine lv_aload_n hx hb dL_law_488 rfl (lv_at hl 3 rfl) ?_
        refine lv_iload_n hx hb dL_law_489 rfl (lv_at hl 0 rfl) ?_
        refine lv_iconst (v := 3) hx hb dL_law_490 (by decide) ?_
        refine lv_iadd hx hb dL_law_491 ?_
        refine va_sld hx hb hX hbl hbA hS hi3 dL_law_492 ?_
        have hP1 := hPm.sub (ws' := [moC bd M.1, arI cy (bd 2) 51 M.2.2.1]) [0, 2] rfl
        refine pCallVI ⟨hx, hb, hml, hown, hts⟩ (mtX5_sees l D cy z bd M.1 M.2.2.1 (xs (x3 + (1 : Int32)).toNatClampNeg) (xs (x3 + (2 : Int32)).toNatClampNeg) (xs (x3 + (3 : Int32)).toNatClampNeg) r33 hx5) miX5_sees q929 ⟨Nat.le_of_ble_eq_true rfl, Nat.le_of_ble_eq_true rfl⟩ ⟨rfl, rfl⟩ hP1 hKK hS hA0 (va_recv hKK.1 hP1 (ci := 5) (q0 := 0) rfl rfl) rfl hl.1 rfl (Nat.le_of_ble_eq_true rfl) dL_law_493 ⟨Nat.le_of_ble_eq_true rfl, Nat.le_of_ble_eq_true rfl⟩ ?_
        refine lv_icmp_eq (tgt := 1089) hx hb dL_law_496 (by decide) (fun _ => ?_) (fun h => absurd rfl h)
        exact hnext S M hsim _ _ ls hPx hPm hD hS hl
      by_cases h13 : xk = 13
      · refine sw_hit (tgt := 501) hx hb dL_law_32 h13 (by decide) (by decide) rfl (by decide) ?_
        refine lv_aload_n hx hb dL_law_501 rfl (lv_at hl 2 rfl) ?_
        refine lv_aload_n hx hb dL_law_502 rfl (lv_at hl 3 rfl) ?_
        refine lv_iload_n hx hb dL_law_503 rfl (lv_at hl 0 rfl) ?_
        refine lv_iconst (v := 1) hx hb dL_law_504 (by decide) ?_
        refine lv_iadd hx hb dL_law_505 ?_
        refine va_sld hx hb hX hbl hbA hS hi1 dL_law_506 ?_
        obtain ⟨r34, hx4, hx5⟩ := st_view S M hsim (xs (x3 + (1 : Int32)).toNatClampNeg)
        refine pCallVL ⟨hx, hb, hml, hown, hts⟩ (mtX4_view l D cy z ad S (xs (x3 + (1 : Int32)).toNatClampNeg) r34 hx4) miX4_view q539 ⟨Nat.le_of_ble_eq_true rfl, Nat.le_of_ble_eq_true rfl⟩ ⟨rfl, rfl⟩ hPx hKK hS hA0 (va_recv hKK.1 hPx (ci := 4) (q0 := 0) rfl rfl) rfl hl.1 rfl (Nat.le_of_ble_eq_true rfl) dL_law_507 ⟨Nat.le_of_ble_eq_true rfl, Nat.le_of_ble_eq_true rfl⟩ ?_
        refine lv_aload_n hx hb dL_law_510 rfl (lv_at hl 1 rfl) ?_
        refine lv_aload_n hx hb dL_law_511 rfl (lv_at hl 3 rfl) ?_
        refine lv_iload_n hx hb dL_law_512 rfl (lv_at hl 0 rfl) ?_
        refine lv_iconst (v := 1) hx hb dL_law_513 (by decide) ?_
        refine lv_iadd hx hb dL_law_514 ?_
        refine va_sld hx hb hX hbl hbA hS hi1 dL_law_515 ?_
        have hP1 := hPm.sub (ws' := [moC bd M.1, arI cy (bd 2) 51 M.2.2.1]) [0, 2] rfl
        refine pCallVL ⟨hx, hb, hml, hown, hts⟩ (mtX5_view l D cy z bd M.1 M.2.2.1 (xs (x3 + (1 : Int32)).toNatClampNeg) r34 hx5) miX5_view q941 ⟨Nat.le_of_ble_eq_true rfl, Nat.le_of_ble_eq_true rfl⟩ ⟨rfl, rfl⟩ hP1 hKK hS hA0 (va_recv hKK.1 hP1 (ci := 5) (q0 := 0) rfl rfl) rfl hl.1 rfl (Nat.le_of_ble_eq_true rfl) dL_law_516 ⟨Nat.le_of_ble_eq_true rfl, Nat.le_of_ble_eq_true rfl⟩ ?_
        refine W.lcmp hx hb dL_law_519 ?_
        refine lv_if_eq (tgt := 1089) hx hb dL_law_520 (by decide) (fun _ => ?_) (fun h => absurd (lg_cmp_self r34) h)
        exact hnext S M hsim _ _ ls hPx hPm hD hS hl
      by_cases h14 : xk = 14
      · refine sw_hit (tgt := 525) hx hb dL_law_32 h14 (by decide) (by decide) rfl (by decide) ?_
        refine lv_aload_n hx hb dL_law_525 rfl (lv_at hl 2 rfl) ?_
        refine lv_aload_n hx hb dL_law_526 rfl (lv_at hl 3 rfl) ?_
        refine lv_iload_n hx hb dL_law_527 rfl (lv_at hl 0 rfl) ?_
        refine lv_iconst (v := 1) hx hb dL_law_528 (by decide) ?_
        refine lv_iadd hx hb dL_law_529 ?_
        refine va_sld hx hb hX hbl hbA hS hi1 dL_law_530 ?_
        obtain ⟨r35, hx4, hx5⟩ := st_watched S M hsim (xs (x3 + (1 : Int32)).toNatClampNeg)
        refine pCallVL ⟨hx, hb, hml, hown, hts⟩ (mtX4_watched l D cy z ad S (xs (x3 + (1 : Int32)).toNatClampNeg) r35 hx4) miX4_watched q544 ⟨Nat.le_of_ble_eq_true rfl, Nat.le_of_ble_eq_true rfl⟩ ⟨rfl, rfl⟩ hPx hKK hS hA0 (va_recv hKK.1 hPx (ci := 4) (q0 := 0) rfl rfl) rfl hl.1 rfl (Nat.le_of_ble_eq_true rfl) dL_law_531 ⟨Nat.le_of_ble_eq_true rfl, Nat.le_of_ble_eq_true rfl⟩ ?_
        refine lv_aload_n hx hb dL_law_534 rfl (lv_at hl 1 rfl) ?_
        refine lv_aload_n hx hb dL_law_535 rfl (lv_at hl 3 rfl) ?_
        refine lv_iload_n hx hb dL_law_536 rfl (lv_at hl 0 rfl) ?_
        refine lv_iconst (v := 1) hx hb dL_law_537 (by decide) ?_
        refine lv_iadd hx hb dL_law_538 ?_
        refine va_sld hx hb hX hbl hbA hS hi1 dL_law_539 ?_
        have hP1 := hPm.sub (ws' := [moC bd M.1, arI cy (bd 2) 51 M.2.2.1]) [0, 2] rfl
        refine pCallVL ⟨hx, hb, hml, hown, hts⟩ (mtX5_watched l D cy z bd M.1 M.2.2.1 (xs (x3 + (1 : Int32)).toNatClampNeg) r35 hx5) miX5_watched q945 ⟨Nat.le_of_ble_eq_true rfl, Nat.le_of_ble_eq_true rfl⟩ ⟨rfl, rfl⟩ hP1 hKK hS hA0 (va_recv hKK.1 hP1 (ci := 5) (q0 := 0) rfl rfl) rfl hl.1 rfl (Nat.le_of_ble_eq_true rfl) dL_law_540 ⟨Nat.le_of_ble_eq_true rfl, Nat.le_of_ble_eq_true rfl⟩ ?_
        refine W.lcmp hx hb dL_law_543 ?_
        refine lv_if_eq (tgt := 1089) hx hb dL_law_544 (by decide) (fun _ => ?_) (fun h => absurd (lg_cmp_self r35) h)
        exact hnext S M hsim _ _ ls hPx hPm hD hS hl
      by_cases h15 : xk = 15
      · refine sw_hit (tgt := 549) hx hb dL_law_32 h15 (by decide) (by decide) rfl (by decide) ?_
        refine lv_aload_n hx hb dL_law_549 rfl (lv_at hl 2 rfl) ?_
        refine lv_aload_n hx hb dL_law_550 rfl (lv_at hl 3 rfl) ?_
        refine lv_iload_n hx hb dL_law_551 rfl (lv_at hl 0 rfl) ?_
        refine lv_iconst (v := 1) hx hb dL_law_552 (by decide) ?_
        refine lv_iadd hx hb dL_law_553 ?_
        refine va_sld hx hb hX hbl hbA hS hi1 dL_law_554 ?_
        obtain ⟨r36, hx4, hx5⟩ := st_joined S M hsim (xs (x3 + (1 : Int32)).toNatClampNeg)
        refine pCallVL ⟨hx, hb, hml, hown, hts⟩ (mtX4_joined l D cy z ad S (xs (x3 + (1 : Int32)).toNatClampNeg) r36 hx4) miX4_joined q548 ⟨Nat.le_of_ble_eq_true rfl, Nat.le_of_ble_eq_true rfl⟩ ⟨rfl, rfl⟩ hPx hKK hS hA0 (va_recv hKK.1 hPx (ci := 4) (q0 := 0) rfl rfl) rfl hl.1 rfl (Nat.le_of_ble_eq_true rfl) dL_law_555 ⟨Nat.le_of_ble_eq_true rfl, Nat.le_of_ble_eq_true rfl⟩ ?_
        refine lv_aload_n hx hb dL_law_558 rfl (lv_at hl 1 rfl) ?_
        refine lv_aload_n hx hb dL_law_559 rfl (lv_at hl 3 rfl) ?_
        refine lv_iload_n hx hb dL_law_560 rfl (lv_at hl 0 rfl) ?_
        refine lv_iconst (v := 1) hx hb dL_law_561 (by decide) ?_
        refine lv_iadd hx hb dL_law_562 ?_
        refine va_sld hx hb hX hbl hbA hS hi1 dL_law_563 ?_
        have hP1 := hPm.sub (ws' := [moC bd M.1, arI cy (bd 2) 51 M.2.2.1]) [0, 2] rfl
        refine pCallVL ⟨hx, hb, hml, hown, hts⟩ (mtX5_joined l D cy z bd M.1 M.2.2.1 (xs (x3 + (1 : Int32)).toNatClampNeg) r36 hx5) miX5_joined q949 ⟨Nat.le_of_ble_eq_true rfl, Nat.le_of_ble_eq_true rfl⟩ ⟨rfl, rfl⟩ hP1 hKK hS hA0 (va_recv hKK.1 hP1 (ci := 5) (q0 := 0) rfl rfl) rfl hl.1 rfl (Nat.le_of_ble_eq_true rfl) dL_law_564 ⟨Nat.le_of_ble_eq_true rfl, Nat.le_of_ble_eq_true rfl⟩ ?_
        refine W.lcmp hx hb dL_law_567 ?_
        refine lv_if_eq (tgt := 1089) hx hb dL_law_568 (by decide) (fun _ => ?_) (fun h => absurd (lg_cmp_self r36) h)
        exact hnext S M hsim _ _ ls hPx hPm hD hS hl
      by_cases h16 : xk = 16
      · refine sw_hit (tgt := 573) hx hb dL_law_32 h16 (by decide) (by decide) rfl (by decide) ?_
        refine lv_aload_n hx hb dL_law_573 rfl (lv_at hl 2 rfl) ?_
        refine lv_aload_n hx hb dL_law_574 rfl (lv_at hl 3 rfl) ?_
        refine lv_iload_n hx hb dL_law_575 rfl (lv_at hl 0 rfl) ?_
        refine lv_iconst (v := 1) hx hb dL_law_576 (by decide) ?_
        refine lv_iadd hx hb dL_law_577 ?_
        refine va_sld hx hb hX hbl hbA hS hi1 dL_law_578 ?_
        obtain ⟨r37, M38, hx4, hx5, hsim2⟩ := st_hollow S M hsim (xs (x3 + (1 : Int32)).toNatClampNeg)
        refine pCallVL ⟨hx, hb, hml, hown, hts⟩ (mtX4_hollow l D cy z ad S (xs (x3 + (1 : Int32)).toNatClampNeg) r37 hx4) miX4_hollow q556 ⟨Nat.le_of_ble_eq_true rfl, Nat.le_of_ble_eq_true rfl⟩ ⟨rfl, rfl⟩ hPx hKK hS hA0 (va_recv hKK.1 hPx (ci := 4) (q0 := 0) rfl rfl) rfl hl.1 rfl (Nat.le_of_ble_eq_true rfl) dL_law_579 ⟨Nat.le_of_ble_eq_true rfl, Nat.le_of_ble_eq_true rfl⟩ ?_
        refine lv_aload_n hx hb dL_law_582 rfl (lv_at hl 1 rfl) ?_
        refine lv_aload_n hx hb dL_law_583 rfl (lv_at hl 3 rfl) ?_
        refine lv_iload_n hx hb dL_law_584 rfl (lv_at hl 0 rfl) ?_
        refine lv_iconst (v := 1) hx hb dL_law_585 (by decide) ?_
        refine lv_iadd hx hb dL_law_586 ?_
        refine va_sld hx hb hX hbl hbA hS hi1 dL_law_587 ?_
        refine callR ⟨hx, hb, hml, hown, hts⟩ (mtX5_hollow l D cy z bd M (xs (x3 + (1 : Int32)).toNatClampNeg) r37 M38 hx5) miX5_hollow q954 ⟨Nat.le_of_ble_eq_true rfl, Nat.le_of_ble_eq_true rfl⟩ ⟨rfl, rfl⟩ hPm hPx hD hKK hA0 (va_recv hKK.1 hPm (ci := 5) (q0 := 0) rfl rfl) rfl hl.1 rfl (Nat.le_of_ble_eq_true rfl) dL_law_588 ⟨Nat.le_of_ble_eq_true rfl, Nat.le_of_ble_eq_true rfl⟩ hS rfl (fun H locs hPm hPx hD hS => ?_)
        refine W.eq (g2 := F0 m 591 ls [.long r37, .long r37]) rfl ?_
        refine W.lcmp hx hb dL_law_591 ?_
        refine lv_if_eq (tgt := 1089) hx hb dL_law_592 (by decide) (fun _ => ?_) (fun h => absurd (lg_cmp_self r37) h)
        exact hnext S M38 hsim2 _ _ ls hPx hPm hD hS hl
      by_cases h17 : xk = 17
      · refine sw_hit (tgt := 597) hx hb dL_law_32 h17 (by decide) (by decide) rfl (by decide) ?_
        refine lv_aload_n hx hb dL_law_597 rfl (lv_at hl 2 rfl) ?_
        refine lv_aload_n hx hb dL_law_598 rfl (lv_at hl 3 rfl) ?_
        refine lv_iload_n hx hb dL_law_599 rfl (lv_at hl 0 rfl) ?_
        refine lv_iconst (v := 1) hx hb dL_law_600 (by decide) ?_
        refine lv_iadd hx hb dL_law_601 ?_
        refine va_sld hx hb hX hbl hbA hS hi1 dL_law_602 ?_
        refine lv_aload_n hx hb dL_law_603 rfl (lv_at hl 3 rfl) ?_
        refine lv_iload_n hx hb dL_law_604 rfl (lv_at hl 0 rfl) ?_
        refine lv_iconst (v := 2) hx hb dL_law_605 (by decide) ?_
        refine lv_iadd hx hb dL_law_606 ?_
        refine va_sld hx hb hX hbl hbA hS hi2 dL_law_607 ?_
        obtain ⟨r39, hx4, hx5⟩ := st_last S M hsim (xs (x3 + (1 : Int32)).toNatClampNeg) (xs (x3 + (2 : Int32)).toNatClampNeg)
        refine pCallVI ⟨hx, hb, hml, hown, hts⟩ (mtX4_last l D cy z ad S (xs (x3 + (1 : Int32)).toNatClampNeg) (xs (x3 + (2 : Int32)).toNatClampNeg) r39 hx4) miX4_last q564 ⟨Nat.le_of_ble_eq_true rfl, Nat.le_of_ble_eq_true rfl⟩ ⟨rfl, rfl⟩ hPx hKK hS hA0 (va_recv hKK.1 hPx (ci := 4) (q0 := 0) rfl rfl) rfl hl.1 rfl (Nat.le_of_ble_eq_true rfl) dL_law_608 ⟨Nat.le_of_ble_eq_true rfl, Nat.le_of_ble_eq_true rfl⟩ ?_
        refine lv_aload_n hx hb dL_law_611 rfl (lv_at hl 1 rfl) ?_
        refine lv_aload_n hx hb dL_law_612 rfl (lv_at hl 3 rfl) ?_
        refine lv_iload_n hx hb dL_law_613 rfl (lv_at hl 0 rfl) ?_
        refine lv_iconst (v := 1) hx hb dL_law_614 (by decide) ?_
        refine lv_iadd hx hb dL_law_615 ?_
        refine va_sld hx hb hX hbl hbA hS hi1 dL_law_616 ?_
        refine lv_aload_n hx hb dL_law_617 rfl (lv_at hl 3 rfl) ?_
        refine lv_iload_n hx hb dL_law_618 rfl (lv_at hl 0 rfl) ?_
        refine lv_iconst (v := 2) hx hb dL_law_619 (by decide) ?_
        refine lv_iadd hx hb dL_law_620 ?_
        refine va_sld hx hb hX hbl hbA hS hi2 dL_law_621 ?_
        have hP1 := hPm.sub (ws' := [moC bd M.1, arI cy (bd 2) 51 M.2.2.1]) [0, 2] rfl
        refine pCallVI ⟨hx, hb, hml, hown, hts⟩ (mtX5_last l D cy z bd M.1 M.2.2.1 (xs (x3 + (1 : Int32)).toNatClampNeg) (xs (x3 + (2 : Int32)).toNatClampNeg) r39 hx5) miX5_last q958 ⟨Nat.le_of_ble_eq_true rfl, Nat.le_of_ble_eq_true rfl⟩ ⟨rfl, rfl⟩ hP1 hKK hS hA0 (va_recv hKK.1 hP1 (ci := 5) (q0 := 0) rfl rfl) rfl hl.1 rfl (Nat.le_of_ble_eq_true rfl) dL_law_622 ⟨Nat.le_of_ble_eq_true rfl, Nat.le_of_ble_eq_true rfl⟩ ?_
        refine lv_icmp_eq (tgt := 1089) hx hb dL_law_625 (by decide) (fun _ => ?_) (fun h => absurd rfl h)
        exact hnext S M hsim _ _ ls hPx hPm hD hS hl
      by_cases h18 : xk = 18
      · refine sw_hit (tgt := 630) hx hb dL_law_32 h18 (by decide) (by decide) rfl (by decide) ?_
        refine lv_aload_n hx hb dL_law_630 rfl (lv_at hl 2 rfl) ?_
        refine lv_aload_n hx hb dL_law_631 rfl (lv_at hl 3 rfl) ?_
        refine lv_iload_n hx hb dL_law_632 rfl (lv_at hl 0 rfl) ?_
        refine lv_iconst (v := 1) hx hb dL_law_633 (by decide) ?_
        refine lv_iadd hx hb dL_law_634 ?_
        refine va_sld hx hb hX hbl hbA hS hi1 dL_law_635 ?_
        refine lv_aload_n hx hb dL_law_636 rfl (lv_at hl 3 rfl) ?_
        refine lv_iload_n hx hb dL_law_637 rfl (lv_at hl 0 rfl) ?_
        refine lv_iconst (v := 2) hx hb dL_law_638 (by decide) ?_
        refine lv_iadd hx hb dL_law_639 ?_
        refine va_sld hx hb hX hbl hbA hS hi2 dL_law_640 ?_
        obtain ⟨r40, M41, hx4, hx5, hsim2⟩ := st_best S M hsim (xs (x3 + (1 : Int32)).toNatClampNeg) (xs (x3 + (2 : Int32)).toNatClampNeg)
        refine pCallVI ⟨hx, hb, hml, hown, hts⟩ (mtX4_best l D cy z ad S (xs (x3 + (1 : Int32)).toNatClampNeg) (xs (x3 + (2 : Int32)).toNatClampNeg) r40 hx4) miX4_best q578 ⟨Nat.le_of_ble_eq_true rfl, Nat.le_of_ble_eq_true rfl⟩ ⟨rfl, rfl⟩ hPx hKK hS hA0 (va_recv hKK.1 hPx (ci := 4) (q0 := 0) rfl rfl) rfl hl.1 rfl (Nat.le_of_ble_eq_true rfl) dL_law_641 ⟨Nat.le_of_ble_eq_true rfl, Nat.le_of_ble_eq_true rfl⟩ ?_
        refine lv_aload_n hx hb dL_law_644 rfl (lv_at hl 1 rfl) ?_
        refine lv_aload_n hx hb dL_law_645 rfl (lv_at hl 3 rfl) ?_
        refine lv_iload_n hx hb dL_law_646 rfl (lv_at hl 0 rfl) ?_
        refine lv_iconst (v := 1) hx hb dL_law_647 (by decide) ?_
        refine lv_iadd hx hb dL_law_648 ?_
        refine va_sld hx hb hX hbl hbA hS hi1 dL_law_649 ?_
        refine lv_aload_n hx hb dL_law_650 rfl (lv_at hl 3 rfl) ?_
        refine lv_iload_n hx hb dL_law_651 rfl (lv_at hl 0 rfl) ?_
        refine lv_iconst (v := 2) hx hb dL_law_652 (by decide) ?_
        refine lv_iadd hx hb dL_law_653 ?_
        refine va_sld hx hb hX hbl hbA hS hi2 dL_law_654 ?_
        refine callR ⟨hx, hb, hml, hown, hts⟩ (mtX5_best l D cy z bd M (xs (x3 + (1 : Int32)).toNatClampNeg) (xs (x3 + (2 : Int32)).toNatClampNeg) r40 M41 hx5) miX5_best q963 ⟨Nat.le_of_ble_eq_true rfl, Nat.le_of_ble_eq_true rfl⟩ ⟨rfl, rfl⟩ hPm hPx hD hKK hA0 (va_recv hKK.1 hPm (ci := 5) (q0 := 0) rfl rfl) rfl hl.1 rfl (Nat.le_of_ble_eq_true rfl) dL_law_655 ⟨Nat.le_of_ble_eq_true rfl, Nat.le_of_ble_eq_true rfl⟩ hS rfl (fun H locs hPm hPx hD hS => ?_)
        refine W.eq (g2 := F0 m 658 ls [.int r40, .int r40]) rfl ?_
        refine lv_icmp_eq (tgt := 1089) hx hb dL_law_658 (by decide) (fun _ => ?_) (fun h => absurd rfl h)
        exact hnext S M41 hsim2 _ _ ls hPx hPm hD hS hl
      by_cases h19 : xk = 19
      · refine sw_hit (tgt := 663) hx hb dL_law_32 h19 (by decide) (by decide) rfl (by decide) ?_
        refine lv_aload_n hx hb dL_law_663 rfl (lv_at hl 2 rfl) ?_
        refine lv_aload_n hx hb dL_law_664 rfl (lv_at hl 3 rfl) ?_
        refine lv_iload_n hx hb dL_law_665 rfl (lv_at hl 0 rfl) ?_
        refine lv_iconst (v := 1) hx hb dL_law_666 (by decide) ?_
        refine lv_iadd hx hb dL_law_667 ?_
        refine va_sld hx hb hX hbl hbA hS hi1 dL_law_668 ?_
        refine lv_aload_n hx hb dL_law_669 rfl (lv_at hl 3 rfl) ?_
        refine lv_iload_n hx hb dL_law_670 rfl (lv_at hl 0 rfl) ?_
        refine lv_iconst (v := 2) hx hb dL_law_671 (by decide) ?_
        refine lv_iadd hx hb dL_law_672 ?_
        refine va_sld hx hb hX hbl hbA hS hi2 dL_law_673 ?_
        obtain ⟨r42, S43, M44, hx4, hx5, hsim2⟩ := st_two S M hsim (xs (x3 + (1 : Int32)).toNatClampNeg) (xs (x3 + (2 : Int32)).toNatClampNeg)
        refine callL ⟨hx, hb, hml, hown, hts⟩ (mtX4_two l D cy z ad S (xs (x3 + (1 : Int32)).toNatClampNeg) (xs (x3 + (2 : Int32)).toNatClampNeg) r42 S43 hx4) miX4_two q582 ⟨Nat.le_of_ble_eq_true rfl, Nat.le_of_ble_eq_true rfl⟩ ⟨rfl, rfl⟩ hPx hPm hD hKK hA0 (va_recv hKK.1 hPx (ci := 4) (q0 := 0) rfl rfl) rfl hl.1 rfl (Nat.le_of_ble_eq_true rfl) dL_law_674 ⟨Nat.le_of_ble_eq_true rfl, Nat.le_of_ble_eq_true rfl⟩ hS rfl (fun H locs hPx hPm hD hS => ?_)
        refine W.eq (g2 := F0 m 677 ls [.int r42]) rfl ?_
        refine lv_aload_n hx hb dL_law_677 rfl (lv_at hl 1 rfl) ?_
        refine lv_aload_n hx hb dL_law_678 rfl (lv_at hl 3 rfl) ?_
        refine lv_iload_n hx hb dL_law_679 rfl (lv_at hl 0 rfl) ?_
        refine lv_iconst (v := 1) hx hb dL_law_680 (by decide) ?_
        refine lv_iadd hx hb dL_law_681 ?_
        refine va_sld hx hb hX hbl hbA hS hi1 dL_law_682 ?_
        refine lv_aload_n hx hb dL_law_683 rfl (lv_at hl 3 rfl) ?_
        refine lv_iload_n hx hb dL_law_684 rfl (lv_at hl 0 rfl) ?_
        refine lv_iconst (v := 2) hx hb dL_law_685 (by decide) ?_
        refine lv_iadd hx hb dL_law_686 ?_
        refine va_sld hx hb hX hbl hbA hS hi2 dL_law_687 ?_
        refine callR ⟨hx, hb, hml, hown, hts⟩ (mtX5_two l D cy z bd M (xs (x3 + (1 : Int32)).toNatClampNeg) (xs (x3 + (2 : Int32)).toNatClampNeg) r42 M44 hx5) miX5_two q971 ⟨Nat.le_of_ble_eq_true rfl, Nat.le_of_ble_eq_true rfl⟩ ⟨rfl, rfl⟩ hPm hPx hD hKK hA0 (va_recv hKK.1 hPm (ci := 5) (q0 := 0) rfl rfl) rfl hl.1 rfl (Nat.le_of_ble_eq_true rfl) dL_law_688 ⟨Nat.le_of_ble_eq_true rfl, Nat.le_of_ble_eq_true rfl⟩ hS rfl (fun H locs hPm hPx hD hS => ?_)
        refine W.eq (g2 := F0 m 691 ls [.int r42, .int r42]) rfl ?_
        refine lv_icmp_eq (tgt := 1089) hx hb dL_law_691 (by decide) (fun _ => ?_) (fun h => absurd rfl h)
        exact hnext S43 M44 hsim2 _ _ ls hPx hPm hD hS hl
      by_cases h20 : xk = 20
      · refine sw_hit (tgt := 696) hx hb dL_law_32 h20 (by decide) (by decide) rfl (by decide) ?_
        refine lv_aload_n hx hb dL_law_696 rfl (lv_at hl 2 rfl) ?_
        refine lv_aload_n hx hb dL_law_697 rfl (lv_at hl 3 rfl) ?_
        refine lv_iload_n hx hb dL_law_698 rfl (lv_at hl 0 rfl) ?_
        refine lv_iconst (v := 1) hx hb dL_law_699 (by decide) ?_
        refine lv_iadd hx hb dL_law_700 ?_
        refine va_sld hx hb hX hbl hbA hS hi1 dL_law_701 ?_
        refine lv_if_eq (tgt := 709) hx hb dL_law_702 (by decide) (fun hb45 => ?_) (fun hb45 => ?_)
        · refine lv_iconst (v := 0) hx hb dL_law_709 (by decide) ?_
          obtain ⟨r46, hx4, hx5⟩ := st_part S M hsim (0 : Int32)
          refine pCallVI ⟨hx, hb, hml, hown, hts⟩ (mtX4_part l D cy z ad S (0 : Int32) r46 hx4) miX4_part q591 ⟨Nat.le_of_ble_eq_true rfl, Nat.le_of_ble_eq_true rfl⟩ ⟨rfl, rfl⟩ hPx hKK hS hA0 (va_recv hKK.1 hPx (ci := 4) (q0 := 0) rfl rfl) rfl hl.1 rfl (Nat.le_of_ble_eq_true rfl) dL_law_710 ⟨Nat.le_of_ble_eq_true rfl, Nat.le_of_ble_eq_true rfl⟩ ?_
          refine lv_aload_n hx hb dL_law_713 rfl (lv_at hl 1 rfl) ?_
          refine lv_aload_n hx hb dL_law_714 rfl (lv_at hl 3 rfl) ?_
          refine lv_iload_n hx hb dL_law_715 rfl (lv_at hl 0 rfl) ?_
          refine lv_iconst (v := 1) hx hb dL_law_716 (by decide) ?_
          refine lv_iadd hx hb dL_law_717 ?_
          refine va_sld hx hb hX hbl hbA hS hi1 dL_law_718 ?_
          refine lv_if_eq (tgt := 726) hx hb dL_law_719 (by decide) (fun _ => ?_) (fun h => absurd hb45 h)
          refine lv_iconst (v := 0) hx hb dL_law_726 (by decide) ?_
          have hP1 := hPm.sub (ws' := [moC bd M.1, arI cy (bd 2) 51 M.2.2.1]) [0, 2] rfl
          refine pCallVI ⟨hx, hb, hml, hown, hts⟩ (mtX5_part l D cy z bd M.1 M.2.2.1 (0 : Int32) r46 hx5) miX5_part q975 ⟨Nat.le_of_ble_eq_true rfl, Nat.le_of_ble_eq_true rfl⟩ ⟨rfl, rfl⟩ hP1 hKK hS hA0 (va_recv hKK.1 hP1 (ci := 5) (q0 := 0) rfl rfl) rfl hl.1 rfl (Nat.le_of_ble_eq_true rfl) dL_law_727 ⟨Nat.le_of_ble_eq_true rfl, Nat.le_of_ble_eq_true rfl⟩ ?_
          refine lv_icmp_eq (tgt := 1089) hx hb dL_law_730 (by decide) (fun _ => ?_) (fun h => absurd rfl h)
          exact hnext S M hsim _ _ ls hPx hPm hD hS hl
        · refine lv_iconst (v := 1) hx hb dL_law_705 (by decide) ?_
          refine lv_goto (tgt := 710) hx hb dL_law_706 (by decide) ?_
          obtain ⟨r47, hx4, hx5⟩ := st_part S M hsim (1 : Int32)
          refine pCallVI ⟨hx, hb, hml, hown, hts⟩ (mtX4_part l D cy z ad S (1 : Int32) r47 hx4) miX4_part q591 ⟨Nat.le_of_ble_eq_true rfl, Nat.le_of_ble_eq_true rfl⟩ ⟨rfl, rfl⟩ hPx hKK hS hA0 (va_recv hKK.1 hPx (ci := 4) (q0 := 0) rfl rfl) rfl hl.1 rfl (Nat.le_of_ble_eq_true rfl) dL_law_710 ⟨Nat.le_of_ble_eq_true rfl, Nat.le_of_ble_eq_true rfl⟩ ?_
          refine lv_aload_n hx hb dL_law_713 rfl (lv_at hl 1 rfl) ?_
          refine lv_aload_n hx hb dL_law_714 rfl (lv_at hl 3 rfl) ?_
          refine lv_iload_n hx hb dL_law_715 rfl (lv_at hl 0 rfl) ?_
          refine lv_iconst (v := 1) hx hb dL_law_716 (by decide) ?_
          refine lv_iadd hx hb dL_law_717 ?_
          refine va_sld hx hb hX hbl hbA hS hi1 dL_law_718 ?_
          refine lv_if_eq (tgt := 726) hx hb dL_law_719 (by decide) (fun h => absurd h hb45) (fun _ => ?_)
          refine lv_iconst (v := 1) hx hb dL_law_722 (by decide) ?_
          refine lv_goto (tgt := 727) hx hb dL_law_723 (by decide) ?_
          have hP1 := hPm.sub (ws' := [moC bd M.1, arI cy (bd 2) 51 M.2.2.1]) [0, 2] rfl
          refine pCallVI ⟨hx, hb, hml, hown, hts⟩ (mtX5_part l D cy z bd M.1 M.2.2.1 (1 : Int32) r47 hx5) miX5_part q975 ⟨Nat.le_of_ble_eq_true rfl, Nat.le_of_ble_eq_true rfl⟩ ⟨rfl, rfl⟩ hP1 hKK hS hA0 (va_recv hKK.1 hP1 (ci := 5) (q0 := 0) rfl rfl) rfl hl.1 rfl (Nat.le_of_ble_eq_true rfl) dL_law_727 ⟨Nat.le_of_ble_eq_true rfl, Nat.le_of_ble_eq_true rfl⟩ ?_
          refine lv_icmp_eq (tgt := 1089) hx hb dL_law_730 (by decide) (fun _ => ?_) (fun h => absurd rfl h)
          exact hnext S M hsim _ _ ls hPx hPm hD hS hl
      by_cases h21 : xk = 21
      · refine sw_hit (tgt := 735) hx hb dL_law_32 h21 (by decide) (by decide) rfl (by decide) ?_
        refine lv_aload_n hx hb dL_law_735 rfl (lv_at hl 2 rfl) ?_
        refine lv_aload_n hx hb dL_law_736 rfl (lv_at hl 3 rfl) ?_
        refine lv_iload_n hx hb dL_law_737 rfl (lv_at hl 0 rfl) ?_
        refine lv_iconst (v := 1) hx hb dL_law_738 (by decide) ?_
        refine lv_iadd hx hb dL_law_739 ?_
        refine va_sld hx hb hX hbl hbA hS hi1 dL_law_740 ?_
        refine lv_aload_n hx hb dL_law_741 rfl (lv_at hl 3 rfl) ?_
        refine lv_iload_n hx hb dL_law_742 rfl (lv_at hl 0 rfl) ?_
        refine lv_iconst (v := 2) hx hb dL_law_743 (by decide) ?_
        refine lv_iadd hx hb dL_law_744 ?_
        refine va_sld hx hb hX hbl hbA hS hi2 dL_law_745 ?_
        refine lv_i2l hx hb dL_law_746 rfl ?_
        refine lv_bipush (v := 32) hx hb dL_law_747 (by decide) ?_
        refine lv_lshl hx hb dL_law_749 rfl ?_
        refine lv_aload_n hx hb dL_law_750 rfl (lv_at hl 3 rfl) ?_
        refine lv_iload_n hx hb dL_law_751 rfl (lv_at hl 0 rfl) ?_
        refine lv_iconst (v := 3) hx hb dL_law_752 (by decide) ?_
        refine lv_iadd hx hb dL_law_753 ?_
        refine va_sld hx hb hX hbl hbA hS hi3 dL_law_754 ?_
        refine lv_i2l hx hb dL_law_755 rfl ?_
        refine lv_ldc2 hx hb hown (hts _ q1044) dL_law_756 ?_
        refine lv_land hx hb dL_law_759 ?_
        refine lv_lor hx hb dL_law_760 ?_
        obtain ⟨r48, S49, M50, hx4, hx5, hsim2⟩ := st_judge S M hsim (xs (x3 + (1 : Int32)).toNatClampNeg) (((xs (x3 + (2 : Int32)).toNatClampNeg).toInt64 <<< ((32 : Int32).toInt64 &&& 63)) ||| ((xs (x3 + (3 : Int32)).toNatClampNeg).toInt64 &&& (4294967295 : Int64)))
        refine callL ⟨hx, hb, hml, hown, hts⟩ (mtX4_judge l D cy z ad S (xs (x3 + (1 : Int32)).toNatClampNeg) (((xs (x3 + (2 : Int32)).toNatClampNeg).toInt64 <<< ((32 : Int32).toInt64 &&& 63)) ||| ((xs (x3 + (3 : Int32)).toNatClampNeg).toInt64 &&& (4294967295 : Int64))) r48 S49 hx4) miX4_judge q598 ⟨Nat.le_of_ble_eq_true rfl, Nat.le_of_ble_eq_true rfl⟩ ⟨rfl, rfl⟩ hPx hPm hD hKK hA0 (va_recv hKK.1 hPx (ci := 4) (q0 := 0) rfl rfl) rfl hl.1 rfl (Nat.le_of_ble_eq_true rfl) dL_law_761 ⟨Nat.le_of_ble_eq_true rfl, Nat.le_of_ble_eq_true rfl⟩ hS rfl (fun H locs hPx hPm hD hS => ?_)
        refine W.eq (g2 := F0 m 764 ls [.int r48]) rfl ?_
        refine lv_aload_n hx hb dL_law_764 rfl (lv_at hl 1 rfl) ?_
        refine lv_aload_n hx hb dL_law_765 rfl (lv_at hl 3 rfl) ?_
        refine lv_iload_n hx hb dL_law_766 rfl (lv_at hl 0 rfl) ?_
        refine lv_iconst (v := 1) hx hb dL_law_767 (by decide) ?_
        refine lv_iadd hx hb dL_law_768 ?_
        refine va_sld hx hb hX hbl hbA hS hi1 dL_law_769 ?_
        refine lv_aload_n hx hb dL_law_770 rfl (lv_at hl 3 rfl) ?_
        refine lv_iload_n hx hb dL_law_771 rfl (lv_at hl 0 rfl) ?_
        refine lv_iconst (v := 2) hx hb dL_law_772 (by decide) ?_
        refine lv_iadd hx hb dL_law_773 ?_
        refine va_sld hx hb hX hbl hbA hS hi2 dL_law_774 ?_
        refine lv_i2l hx hb dL_law_775 rfl ?_
        refine lv_bipush (v := 32) hx hb dL_law_776 (by decide) ?_
        refine lv_lshl hx hb dL_law_778 rfl ?_
        refine lv_aload_n hx hb dL_law_779 rfl (lv_at hl 3 rfl) ?_
        refine lv_iload_n hx hb dL_law_780 rfl (lv_at hl 0 rfl) ?_
        refine lv_iconst (v := 3) hx hb dL_law_781 (by decide) ?_
        refine lv_iadd hx hb dL_law_782 ?_
        refine va_sld hx hb hX hbl hbA hS hi3 dL_law_783 ?_
        refine lv_i2l hx hb dL_law_784 rfl ?_
        refine lv_ldc2 hx hb hown (hts _ q1044) dL_law_785 ?_
        refine lv_land hx hb dL_law_788 ?_
        refine lv_lor hx hb dL_law_789 ?_
        refine callR ⟨hx, hb, hml, hown, hts⟩ (mtX5_judge l D cy z bd M (xs (x3 + (1 : Int32)).toNatClampNeg) (((xs (x3 + (2 : Int32)).toNatClampNeg).toInt64 <<< ((32 : Int32).toInt64 &&& 63)) ||| ((xs (x3 + (3 : Int32)).toNatClampNeg).toInt64 &&& (4294967295 : Int64))) r48 M50 hx5) miX5_judge q982 ⟨Nat.le_of_ble_eq_true rfl, Nat.le_of_ble_eq_true rfl⟩ ⟨rfl, rfl⟩ hPm hPx hD hKK hA0 (va_recv hKK.1 hPm (ci := 5) (q0 := 0) rfl rfl) rfl hl.1 rfl (Nat.le_of_ble_eq_true rfl) dL_law_790 ⟨Nat.le_of_ble_eq_true rfl, Nat.le_of_ble_eq_true rfl⟩ hS rfl (fun H locs hPm hPx hD hS => ?_)
        refine W.eq (g2 := F0 m 793 ls [.int r48, .int r48]) rfl ?_
        refine lv_icmp_eq (tgt := 1089) hx hb dL_law_793 (by decide) (fun _ => ?_) (fun h => absurd rfl h)
        exact hnext S49 M50 hsim2 _ _ ls hPx hPm hD hS hl
      by_cases h22 : xk = 22
      · refine sw_hit (tgt := 798) hx hb dL_law_32 h22 (by decide) (by decide) rfl (by decide) ?_
        refine lv_aload_n hx hb dL_law_798 rfl (lv_at hl 2 rfl) ?_
        refine lv_aload_n hx hb dL_law_799 rfl (lv_at hl 3 rfl) ?_
        refine lv_iload_n hx hb dL_law_800 rfl (lv_at hl 0 rfl) ?_
        refine lv_iconst (v := 1) hx hb dL_law_801 (by decide) ?_
        refine lv_iadd hx hb dL_law_802 ?_
        refine va_sld hx hb hX hbl hbA hS hi1 dL_law_803 ?_
        refine lv_aload_n hx hb dL_law_804 rfl (lv_at hl 3 rfl) ?_
        refine lv_iload_n hx hb dL_law_805 rfl (lv_at hl 0 rfl) ?_
        refine lv_iconst (v := 2) hx hb dL_law_806 (by decide) ?_
        refine lv_iadd hx hb dL_law_807 ?_
        refine va_sld hx hb hX hbl hbA hS hi2 dL_law_808 ?_
        obtain ⟨r51, S52, M53, hx4, hx5, hsim2⟩ := st_find S M hsim (xs (x3 + (1 : Int32)).toNatClampNeg) (xs (x3 + (2 : Int32)).toNatClampNeg)
        refine callL ⟨hx, hb, hml, hown, hts⟩ (mtX4_find l D cy z ad S (xs (x3 + (1 : Int32)).toNatClampNeg) (xs (x3 + (2 : Int32)).toNatClampNeg) r51 S52 hx4) miX4_find q608 ⟨Nat.le_of_ble_eq_true rfl, Nat.le_of_ble_eq_true rfl⟩ ⟨rfl, rfl⟩ hPx hPm hD hKK hA0 (va_recv hKK.1 hPx (ci := 4) (q0 := 0) rfl rfl) rfl hl.1 rfl (Nat.le_of_ble_eq_true rfl) dL_law_809 ⟨Nat.le_of_ble_eq_true rfl, Nat.le_of_ble_eq_true rfl⟩ hS rfl (fun H locs hPx hPm hD hS => ?_)
        refine W.eq (g2 := F0 m 812 ls [.int r51]) rfl ?_
        refine lv_aload_n hx hb dL_law_812 rfl (lv_at hl 1 rfl) ?_
        refine lv_aload_n hx hb dL_law_813 rfl (lv_at hl 3 rfl) ?_
        refine lv_iload_n hx hb dL_law_814 rfl (lv_at hl 0 rfl) ?_
        refine lv_iconst (v := 1) hx hb dL_law_815 (by decide) ?_
        refine lv_iadd hx hb dL_law_816 ?_
        refine va_sld hx hb hX hbl hbA hS hi1 dL_law_817 ?_
        refine lv_aload_n hx hb dL_law_818 rfl (lv_at hl 3 rfl) ?_
        refine lv_iload_n hx hb dL_law_819 rfl (lv_at hl 0 rfl) ?_
        refine lv_iconst (v := 2) hx hb dL_law_820 (by decide) ?_
        refine lv_iadd hx hb dL_law_821 ?_
        refine va_sld hx hb hX hbl hbA hS hi2 dL_law_822 ?_
        refine callR ⟨hx, hb, hml, hown, hts⟩ (mtX5_find l D cy z bd M (xs (x3 + (1 : Int32)).toNatClampNeg) (xs (x3 + (2 : Int32)).toNatClampNeg) r51 M53 hx5) miX5_find q994 ⟨Nat.le_of_ble_eq_true rfl, Nat.le_of_ble_eq_true rfl⟩ ⟨rfl, rfl⟩ hPm hPx hD hKK hA0 (va_recv hKK.1 hPm (ci := 5) (q0 := 0) rfl rfl) rfl hl.1 rfl (Nat.le_of_ble_eq_true rfl) dL_law_823 ⟨Nat.le_of_ble_eq_true rfl, Nat.le_of_ble_eq_true rfl⟩ hS rfl (fun H locs hPm hPx hD hS => ?_)
        refine W.eq (g2 := F0 m 826 ls [.int r51, .int r51]) rfl ?_
        refine lv_icmp_eq (tgt := 1089) hx hb dL_law_826 (by decide) (fun _ => ?_) (fun h => absurd rfl h)
        exact hnext S52 M53 hsim2 _ _ ls hPx hPm hD hS hl
      by_cases h23 : xk = 23
      · refine sw_hit (tgt := 831) hx hb dL_law_32 h23 (by decide) (by decide) rfl (by decide) ?_
        refine lv_aload_n hx hb dL_law_831 rfl (lv_at hl 2 rfl) ?_
        obtain ⟨r54, S55, M56, hx4, hx5, hsim2⟩ := st_lose S M hsim ()
        refine callL ⟨hx, hb, hml, hown, hts⟩ (mtX4_lose l D cy z ad S  r54 S55 hx4) miX4_lose q616 ⟨Nat.le_of_ble_eq_true rfl, Nat.le_of_ble_eq_true rfl⟩ ⟨rfl, rfl⟩ hPx hPm hD hKK hA0 (va_recv hKK.1 hPx (ci := 4) (q0 := 0) rfl rfl) rfl hl.1 rfl (Nat.le_of_ble_eq_true rfl) dL_law_832 ⟨Nat.le_of_ble_eq_true rfl, Nat.le_of_ble_eq_true rfl⟩ hS rfl (fun H locs hPx hPm hD hS => ?_)
        refine W.eq (g2 := F0 m 835 ls [.int r54]) rfl ?_
        refine lv_aload_n hx hb dL_law_835 rfl (lv_at hl 1 rfl) ?_
        refine callR ⟨hx, hb, hml, hown, hts⟩ (mtX5_lose l D cy z bd M  r54 M56 hx5) miX5_lose q998 ⟨Nat.le_of_ble_eq_true rfl, Nat.le_of_ble_eq_true rfl⟩ ⟨rfl, rfl⟩ hPm hPx hD hKK hA0 (va_recv hKK.1 hPm (ci := 5) (q0 := 0) rfl rfl) rfl hl.1 rfl (Nat.le_of_ble_eq_true rfl) dL_law_836 ⟨Nat.le_of_ble_eq_true rfl, Nat.le_of_ble_eq_true rfl⟩ hS rfl (fun H locs hPm hPx hD hS => ?_)
        refine W.eq (g2 := F0 m 839 ls [.int r54, .int r54]) rfl ?_
        refine lv_icmp_eq (tgt := 1089) hx hb dL_law_839 (by decide) (fun _ => ?_) (fun h => absurd rfl h)
        exact hnext S55 M56 hsim2 _ _ ls hPx hPm hD hS hl
      by_cases h24 : xk = 24
      · refine sw_hit (tgt := 844) hx hb dL_law_32 h24 (by decide) (by decide) rfl (by decide) ?_
        refine lv_aload_n hx hb dL_law_844 rfl (lv_at hl 2 rfl) ?_
        obtain ⟨r57, hx4, hx5⟩ := st_which S M hsim ()
        refine pCallVL ⟨hx, hb, hml, hown, hts⟩ (mtX4_which l D cy z ad S  r57 hx4) miX4_which q620 ⟨Nat.le_of_ble_eq_true rfl, Nat.le_of_ble_eq_true rfl⟩ ⟨rfl, rfl⟩ hPx hKK hS hA0 (va_recv hKK.1 hPx (ci := 4) (q0 := 0) rfl rfl) rfl hl.1 rfl (Nat.le_of_ble_eq_true rfl) dL_law_845 ⟨Nat.le_of_ble_eq_true rfl, Nat.le_of_ble_eq_true rfl⟩ ?_
        refine lv_aload_n hx hb dL_law_848 rfl (lv_at hl 1 rfl) ?_
        refine pCallVL ⟨hx, hb, hml, hown, hts⟩ (mtX5_which l D cy z bd M  r57 hx5) miX5_which q1002 ⟨Nat.le_of_ble_eq_true rfl, Nat.le_of_ble_eq_true rfl⟩ ⟨rfl, rfl⟩ hPm hKK hS hA0 (va_recv hKK.1 hPm (ci := 5) (q0 := 0) rfl rfl) rfl hl.1 rfl (Nat.le_of_ble_eq_true rfl) dL_law_849 ⟨Nat.le_of_ble_eq_true rfl, Nat.le_of_ble_eq_true rfl⟩ ?_
        refine W.lcmp hx hb dL_law_852 ?_
        refine lv_if_eq (tgt := 1089) hx hb dL_law_853 (by decide) (fun _ => ?_) (fun h => absurd (lg_cmp_self r57) h)
        exact hnext S M hsim _ _ ls hPx hPm hD hS hl
      by_cases h25 : xk = 25
      · refine sw_hit (tgt := 858) hx hb dL_law_32 h25 (by decide) (by decide) rfl (by decide) ?_
        refine lv_aload_n hx hb dL_law_858 rfl (lv_at hl 2 rfl) ?_
        refine lv_aload_n hx hb dL_law_859 rfl (lv_at hl 3 rfl) ?_
        refine lv_iload_n hx hb dL_law_860 rfl (lv_at hl 0 rfl) ?_
        refine lv_iconst (v := 1) hx hb dL_law_861 (by decide) ?_
        refine lv_iadd hx hb dL_law_862 ?_
        refine va_sld hx hb hX hbl hbA hS hi1 dL_law_863 ?_
        refine lv_aload_n hx hb dL_law_864 rfl (lv_at hl 3 rfl) ?_
        refine lv_iload_n hx hb dL_law_865 rfl (lv_at hl 0 rfl) ?_
        refine lv_iconst (v := 2) hx hb dL_law_866 (by decide) ?_
        refine lv_iadd hx hb dL_law_867 ?_
        refine va_sld hx hb hX hbl hbA hS hi2 dL_law_868 ?_
        refine lv_if_eq (tgt := 876) hx hb dL_law_869 (by decide) (fun hb58 => ?_) (fun hb58 => ?_)
        · refine lv_iconst (v := 0) hx hb dL_law_876 (by decide) ?_
          obtain ⟨r59, hx4, hx5⟩ := st_share S M hsim (xs (x3 + (1 : Int32)).toNatClampNeg) (0 : Int32)
          refine pCallVI ⟨hx, hb, hml, hown, hts⟩ (mtX4_share l D cy z ad S (xs (x3 + (1 : Int32)).toNatClampNeg) (0 : Int32) r59 hx4) miX4_share q630 ⟨Nat.le_of_ble_eq_true rfl, Nat.le_of_ble_eq_true rfl⟩ ⟨rfl, rfl⟩ hPx hKK hS hA0 (va_recv hKK.1 hPx (ci := 4) (q0 := 0) rfl rfl) rfl hl.1 rfl (Nat.le_of_ble_eq_true rfl) dL_law_877 ⟨Nat.le_of_ble_eq_true rfl, Nat.le_of_ble_eq_true rfl⟩ ?_
          refine lv_aload_n hx hb dL_law_880 rfl (lv_at hl 1 rfl) ?_
          refine lv_aload_n hx hb dL_law_881 rfl (lv_at hl 3 rfl) ?_
          refine lv_iload_n hx hb dL_law_882 rfl (lv_at hl 0 rfl) ?_
          refine lv_iconst (v := 1) hx hb dL_law_883 (by decide) ?_
          refine lv_iadd hx hb dL_law_884 ?_
          refine va_sld hx hb hX hbl hbA hS hi1 dL_law_885 ?_
          refine lv_aload_n hx hb dL_law_886 rfl (lv_at hl 3 rfl) ?_
          refine lv_iload_n hx hb dL_law_887 rfl (lv_at hl 0 rfl) ?_
          refine lv_iconst (v := 2) hx hb dL_law_888 (by decide) ?_
          refine lv_iadd hx hb dL_law_889 ?_
          refine va_sld hx hb hX hbl hbA hS hi2 dL_law_890 ?_
          refine lv_if_eq (tgt := 898) hx hb dL_law_891 (by decide) (fun _ => ?_) (fun h => absurd hb58 h)
          refine lv_iconst (v := 0) hx hb dL_law_898 (by decide) ?_
          have hP1 := hPm.sub (ws' := [moC bd M.1, arI cy (bd 2) 51 M.2.2.1]) [0, 2] rfl
          refine pCallVI ⟨hx, hb, hml, hown, hts⟩ (mtX5_share l D cy z bd M.1 M.2.2.1 (xs (x3 + (1 : Int32)).toNatClampNeg) (0 : Int32) r59 hx5) miX5_share q1006 ⟨Nat.le_of_ble_eq_true rfl, Nat.le_of_ble_eq_true rfl⟩ ⟨rfl, rfl⟩ hP1 hKK hS hA0 (va_recv hKK.1 hP1 (ci := 5) (q0 := 0) rfl rfl) rfl hl.1 rfl (Nat.le_of_ble_eq_true rfl) dL_law_899 ⟨Nat.le_of_ble_eq_true rfl, Nat.le_of_ble_eq_true rfl⟩ ?_
          refine lv_icmp_eq (tgt := 1089) hx hb dL_law_902 (by decide) (fun _ => ?_) (fun h => absurd rfl h)
          exact hnext S M hsim _ _ ls hPx hPm hD hS hl
        · refine lv_iconst (v := 1) hx hb dL_law_872 (by decide) ?_
          refine lv_goto (tgt := 877) hx hb dL_law_873 (by decide) ?_
          obtain ⟨r60, hx4, hx5⟩ := st_share S M hsim (xs (x3 + (1 : Int32)).toNatClampNeg) (1 : Int32)
          refine pCallVI ⟨hx, hb, hml, hown, hts⟩ (mtX4_share l D cy z ad S (xs (x3 + (1 : Int32)).toNatClampNeg) (1 : Int32) r60 hx4) miX4_share q630 ⟨Nat.le_of_ble_eq_true rfl, Nat.le_of_ble_eq_true rfl⟩ ⟨rfl, rfl⟩ hPx hKK hS hA0 (va_recv hKK.1 hPx (ci := 4) (q0 := 0) rfl rfl) rfl hl.1 rfl (Nat.le_of_ble_eq_true rfl) dL_law_877 ⟨Nat.le_of_ble_eq_true rfl, Nat.le_of_ble_eq_true rfl⟩ ?_
          refine lv_aload_n hx hb dL_law_880 rfl (lv_at hl 1 rfl) ?_
          refine lv_aload_n hx hb dL_law_881 rfl (lv_at hl 3 rfl) ?_
          refine lv_iload_n hx hb dL_law_882 rfl (lv_at hl 0 rfl) ?_
          refine lv_iconst (v := 1) hx hb dL_law_883 (by decide) ?_
          refine lv_iadd hx hb dL_law_884 ?_
          refine va_sld hx hb hX hbl hbA hS hi1 dL_law_885 ?_
          refine lv_aload_n hx hb dL_law_886 rfl (lv_at hl 3 rfl) ?_
          refine lv_iload_n hx hb dL_law_887 rfl (lv_at hl 0 rfl) ?_
          refine lv_iconst (v := 2) hx hb dL_law_888 (by decide) ?_
          refine lv_iadd hx hb dL_law_889 ?_
          refine va_sld hx hb hX hbl hbA hS hi2 dL_law_890 ?_
          refine lv_if_eq (tgt := 898) hx hb dL_law_891 (by decide) (fun h => absurd h hb58) (fun _ => ?_)
          refine lv_iconst (v := 1) hx hb dL_law_894 (by decide) ?_
          refine lv_goto (tgt := 899) hx hb dL_law_895 (by decide) ?_
          have hP1 := hPm.sub (ws' := [moC bd M.1, arI cy (bd 2) 51 M.2.2.1]) [0, 2] rfl
          refine pCallVI ⟨hx, hb, hml, hown, hts⟩ (mtX5_share l D cy z bd M.1 M.2.2.1 (xs (x3 + (1 : Int32)).toNatClampNeg) (1 : Int32) r60 hx5) miX5_share q1006 ⟨Nat.le_of_ble_eq_true rfl, Nat.le_of_ble_eq_true rfl⟩ ⟨rfl, rfl⟩ hP1 hKK hS hA0 (va_recv hKK.1 hP1 (ci := 5) (q0 := 0) rfl rfl) rfl hl.1 rfl (Nat.le_of_ble_eq_true rfl) dL_law_899 ⟨Nat.le_of_ble_eq_true rfl, Nat.le_of_ble_eq_true rfl⟩ ?_
          refine lv_icmp_eq (tgt := 1089) hx hb dL_law_902 (by decide) (fun _ => ?_) (fun h => absurd rfl h)
          exact hnext S M hsim _ _ ls hPx hPm hD hS hl
      by_cases h26 : xk = 26
      · refine sw_hit (tgt := 907) hx hb dL_law_32 h26 (by decide) (by decide) rfl (by decide) ?_
        refine lv_aload_n hx hb dL_law_907 rfl (lv_at hl 2 rfl) ?_
        refine lv_aload_n hx hb dL_law_908 rfl (lv_at hl 3 rfl) ?_
        refine lv_iload_n hx hb dL_law_909 rfl (lv_at hl 0 rfl) ?_
        refine lv_iconst (v := 1) hx hb dL_law_910 (by decide) ?_
        refine lv_iadd hx hb dL_law_911 ?_
        refine va_sld hx hb hX hbl hbA hS hi1 dL_law_912 ?_
        refine lv_aload_n hx hb dL_law_913 rfl (lv_at hl 3 rfl) ?_
        refine lv_iload_n hx hb dL_law_914 rfl (lv_at hl 0 rfl) ?_
        refine lv_iconst (v := 2) hx hb dL_law_915 (by decide) ?_
        refine lv_iadd hx hb dL_law_916 ?_
        refine va_sld hx hb hX hbl hbA hS hi2 dL_law_917 ?_
        refine lv_aload_n hx hb dL_law_918 rfl (lv_at hl 3 rfl) ?_
        refine lv_iload_n hx hb dL_law_919 rfl (lv_at hl 0 rfl) ?_
        refine lv_iconst (v := 3) hx hb dL_law_920 (by decide) ?_
        refine lv_iadd hx hb dL_law_921 ?_
        refine va_sld hx hb hX hbl hbA hS hi3 dL_law_922 ?_
        refine lv_if_eq (tgt := 930) hx hb dL_law_923 (by decide) (fun hb61 => ?_) (fun hb61 => ?_)
        · refine lv_iconst (v := 0) hx hb dL_law_930 (by decide) ?_
          obtain ⟨r62, hx4, hx5⟩ := st_chance S M hsim (xs (x3 + (1 : Int32)).toNatClampNeg) (xs (x3 + (2 : Int32)).toNatClampNeg) (0 : Int32)
          refine pCallVI ⟨hx, hb, hml, hown, hts⟩ (mtX4_chance l D cy z ad S (xs (x3 + (1 : Int32)).toNatClampNeg) (xs (x3 + (2 : Int32)).toNatClampNeg) (0 : Int32) r62 hx4) miX4_chance q634 ⟨Nat.le_of_ble_eq_true rfl, Nat.le_of_ble_eq_true rfl⟩ ⟨rfl, rfl⟩ hPx hKK hS hA0 (va_recv hKK.1 hPx (ci := 4) (q0 := 0) rfl rfl) rfl hl.1 rfl (Nat.le_of_ble_eq_true rfl) dL_law_931 ⟨Nat.le_of_ble_eq_true rfl, Nat.le_of_ble_eq_true rfl⟩ ?_
          refine lv_aload_n hx hb dL_law_934 rfl (lv_at hl 1 rfl) ?_
          refine lv_aload_n hx hb dL_law_935 rfl (lv_at hl 3 rfl) ?_
          refine lv_iload_n hx hb dL_law_936 rfl (lv_at hl 0 rfl) ?_
          refine lv_iconst (v := 1) hx hb dL_law_937 (by decide) ?_
          refine lv_iadd hx hb dL_law_938 ?_
          refine va_sld hx hb hX hbl hbA hS hi1 dL_law_939 ?_
          refine lv_aload_n hx hb dL_law_940 rfl (lv_at hl 3 rfl) ?_
          refine lv_iload_n hx hb dL_law_941 rfl (lv_at hl 0 rfl) ?_
          refine lv_iconst (v := 2) hx hb dL_law_942 (by decide) ?_
          refine lv_iadd hx hb dL_law_943 ?_
          refine va_sld hx hb hX hbl hbA hS hi2 dL_law_944 ?_
          refine lv_aload_n hx hb dL_law_945 rfl (lv_at hl 3 rfl) ?_
          refine lv_iload_n hx hb dL_law_946 rfl (lv_at hl 0 rfl) ?_
          refine lv_iconst (v := 3) hx hb dL_law_947 (by decide) ?_
          refine lv_iadd hx hb dL_law_948 ?_
          refine va_sld hx hb hX hbl hbA hS hi3 dL_law_949 ?_
          refine lv_if_eq (tgt := 957) hx hb dL_law_950 (by decide) (fun _ => ?_) (fun h => absurd hb61 h)
          refine lv_iconst (v := 0) hx hb dL_law_957 (by decide) ?_
          have hP1 := hPm.sub (ws' := [moC bd M.1, arI cy (bd 2) 51 M.2.2.1]) [0, 2] rfl
          refine pCallVI ⟨hx, hb, hml, hown, hts⟩ (mtX5_chance l D cy z bd M.1 M.2.2.1 (xs (x3 + (1 : Int32)).toNatClampNeg) (xs (x3 + (2 : Int32)).toNatClampNeg) (0 : Int32) r62 hx5) miX5_chance q1017 ⟨Nat.le_of_ble_eq_true rfl, Nat.le_of_ble_eq_true rfl⟩ ⟨rfl, rfl⟩ hP1 hKK hS hA0 (va_recv hKK.1 hP1 (ci := 5) (q0 := 0) rfl rfl) rfl hl.1 rfl (Nat.le_of_ble_eq_true rfl) dL_law_958 ⟨Nat.le_of_ble_eq_true rfl, Nat.le_of_ble_eq_true rfl⟩ ?_
          refine lv_icmp_eq (tgt := 1089) hx hb dL_law_961 (by decide) (fun _ => ?_) (fun h => absurd rfl h)
          exact hnext S M hsim _ _ ls hPx hPm hD hS hl
        · refine lv_iconst (v := 1) hx hb dL_law_926 (by decide) ?_
          refine lv_goto (tgt := 931) hx hb dL_law_927 (by decide) ?_
          obtain ⟨r63, hx4, hx5⟩ := st_chance S M hsim (xs (x3 + (1 : Int32)).toNatClampNeg) (xs (x3 + (2 : Int32)).toNatClampNeg) (1 : Int32)
          refine pCallVI ⟨hx, hb, hml, hown, hts⟩ (mtX4_chance l D cy z ad S (xs (x3 + (1 : Int32)).toNatClampNeg) (xs (x3 + (2 : Int32)).toNatClampNeg) (1 : Int32) r63 hx4) miX4_chance q634 ⟨Nat.le_of_ble_eq_true rfl, Nat.le_of_ble_eq_true rfl⟩ ⟨rfl, rfl⟩ hPx hKK hS hA0 (va_recv hKK.1 hPx (ci := 4) (q0 := 0) rfl rfl) rfl hl.1 rfl (Nat.le_of_ble_eq_true rfl) dL_law_931 ⟨Nat.le_of_ble_eq_true rfl, Nat.le_of_ble_eq_true rfl⟩ ?_
          refine lv_aload_n hx hb dL_law_934 rfl (lv_at hl 1 rfl) ?_
          refine lv_aload_n hx hb dL_law_935 rfl (lv_at hl 3 rfl) ?_
          refine lv_iload_n hx hb dL_law_936 rfl (lv_at hl 0 rfl) ?_
          refine lv_iconst (v := 1) hx hb dL_law_937 (by decide) ?_
          refine lv_iadd hx hb dL_law_938 ?_
          refine va_sld hx hb hX hbl hbA hS hi1 dL_law_939 ?_
          refine lv_aload_n hx hb dL_law_940 rfl (lv_at hl 3 rfl) ?_
          refine lv_iload_n hx hb dL_law_941 rfl (lv_at hl 0 rfl) ?_
          refine lv_iconst (v := 2) hx hb dL_law_942 (by decide) ?_
          refine lv_iadd hx hb dL_law_943 ?_
          refine va_sld hx hb hX hbl hbA hS hi2 dL_law_944 ?_
          refine lv_aload_n hx hb dL_law_945 rfl (lv_at hl 3 rfl) ?_
          refine lv_iload_n hx hb dL_law_946 rfl (lv_at hl 0 rfl) ?_
          refine lv_iconst (v := 3) hx hb dL_law_947 (by decide) ?_
          refine lv_iadd hx hb dL_law_948 ?_
          refine va_sld hx hb hX hbl hbA hS hi3 dL_law_949 ?_
          refine lv_if_eq (tgt := 957) hx hb dL_law_950 (by decide) (fun h => absurd h hb61) (fun _ => ?_)
          refine lv_iconst (v := 1) hx hb dL_law_953 (by decide) ?_
          refine lv_goto (tgt := 958) hx hb dL_law_954 (by decide) ?_
          have hP1 := hPm.sub (ws' := [moC bd M.1, arI cy (bd 2) 51 M.2.2.1]) [0, 2] rfl
          refine pCallVI ⟨hx, hb, hml, hown, hts⟩ (mtX5_chance l D cy z bd M.1 M.2.2.1 (xs (x3 + (1 : Int32)).toNatClampNeg) (xs (x3 + (2 : Int32)).toNatClampNeg) (1 : Int32) r63 hx5) miX5_chance q1017 ⟨Nat.le_of_ble_eq_true rfl, Nat.le_of_ble_eq_true rfl⟩ ⟨rfl, rfl⟩ hP1 hKK hS hA0 (va_recv hKK.1 hP1 (ci := 5) (q0 := 0) rfl rfl) rfl hl.1 rfl (Nat.le_of_ble_eq_true rfl) dL_law_958 ⟨Nat.le_of_ble_eq_true rfl, Nat.le_of_ble_eq_true rfl⟩ ?_
          refine lv_icmp_eq (tgt := 1089) hx hb dL_law_961 (by decide) (fun _ => ?_) (fun h => absurd rfl h)
          exact hnext S M hsim _ _ ls hPx hPm hD hS hl
      by_cases h27 : xk = 27
      · refine sw_hit (tgt := 966) hx hb dL_law_32 h27 (by decide) (by decide) rfl (by decide) ?_
        refine lv_aload_n hx hb dL_law_966 rfl (lv_at hl 2 rfl) ?_
        refine lv_aload_n hx hb dL_law_967 rfl (lv_at hl 3 rfl) ?_
        refine lv_iload_n hx hb dL_law_968 rfl (lv_at hl 0 rfl) ?_
        refine lv_iconst (v := 1) hx hb dL_law_969 (by decide) ?_
        refine lv_iadd hx hb dL_law_970 ?_
        refine va_sld hx hb hX hbl hbA hS hi1 dL_law_971 ?_
        refine lv_i2l hx hb dL_law_972 rfl ?_
        refine lv_bipush (v := 32) hx hb dL_law_973 (by decide) ?_
        refine lv_lshl hx hb dL_law_975 rfl ?_
        refine lv_aload_n hx hb dL_law_976 rfl (lv_at hl 3 rfl) ?_
        refine lv_iload_n hx hb dL_law_977 rfl (lv_at hl 0 rfl) ?_
        refine lv_iconst (v := 2) hx hb dL_law_978 (by decide) ?_
        refine lv_iadd hx hb dL_law_979 ?_
        refine va_sld hx hb hX hbl hbA hS hi2 dL_law_980 ?_
        refine lv_i2l hx hb dL_law_981 rfl ?_
        refine lv_ldc2 hx hb hown (hts _ q1044) dL_law_982 ?_
        refine lv_land hx hb dL_law_985 ?_
        refine lv_lor hx hb dL_law_986 ?_
        obtain ⟨r64, S65, M66, hx4, hx5, hsim2⟩ := st_seed S M hsim (((xs (x3 + (1 : Int32)).toNatClampNeg).toInt64 <<< ((32 : Int32).toInt64 &&& 63)) ||| ((xs (x3 + (2 : Int32)).toNatClampNeg).toInt64 &&& (4294967295 : Int64)))
        refine callL ⟨hx, hb, hml, hown, hts⟩ (mtX4_seed l D cy z ad S (((xs (x3 + (1 : Int32)).toNatClampNeg).toInt64 <<< ((32 : Int32).toInt64 &&& 63)) ||| ((xs (x3 + (2 : Int32)).toNatClampNeg).toInt64 &&& (4294967295 : Int64))) r64 S65 hx4) miX4_seed q638 ⟨Nat.le_of_ble_eq_true rfl, Nat.le_of_ble_eq_true rfl⟩ ⟨rfl, rfl⟩ hPx hPm hD hKK hA0 (va_recv hKK.1 hPx (ci := 4) (q0 := 0) rfl rfl) rfl hl.1 rfl (Nat.le_of_ble_eq_true rfl) dL_law_987 ⟨Nat.le_of_ble_eq_true rfl, Nat.le_of_ble_eq_true rfl⟩ hS rfl (fun H locs hPx hPm hD hS => ?_)
        refine W.eq (g2 := F0 m 990 ls [.long r64]) rfl ?_
        refine lv_aload_n hx hb dL_law_990 rfl (lv_at hl 1 rfl) ?_
        refine lv_aload_n hx hb dL_law_991 rfl (lv_at hl 3 rfl) ?_
        refine lv_iload_n hx hb dL_law_992 rfl (lv_at hl 0 rfl) ?_
        refine lv_iconst (v := 1) hx hb dL_law_993 (by decide) ?_
        refine lv_iadd hx hb dL_law_994 ?_
        refine va_sld hx hb hX hbl hbA hS hi1 dL_law_995 ?_
        refine lv_i2l hx hb dL_law_996 rfl ?_
        refine lv_bipush (v := 32) hx hb dL_law_997 (by decide) ?_
        refine lv_lshl hx hb dL_law_999 rfl ?_
        refine lv_aload_n hx hb dL_law_1000 rfl (lv_at hl 3 rfl) ?_
        refine lv_iload_n hx hb dL_law_1001 rfl (lv_at hl 0 rfl) ?_
        refine lv_iconst (v := 2) hx hb dL_law_1002 (by decide) ?_
        refine lv_iadd hx hb dL_law_1003 ?_
        refine va_sld hx hb hX hbl hbA hS hi2 dL_law_1004 ?_
        refine lv_i2l hx hb dL_law_1005 rfl ?_
        refine lv_ldc2 hx hb hown (hts _ q1044) dL_law_1006 ?_
        refine lv_land hx hb dL_law_1009 ?_
        refine lv_lor hx hb dL_law_1010 ?_
        refine callR ⟨hx, hb, hml, hown, hts⟩ (mtX5_seed l D cy z bd M (((xs (x3 + (1 : Int32)).toNatClampNeg).toInt64 <<< ((32 : Int32).toInt64 &&& 63)) ||| ((xs (x3 + (2 : Int32)).toNatClampNeg).toInt64 &&& (4294967295 : Int64))) r64 M66 hx5) miX5_seed q1025 ⟨Nat.le_of_ble_eq_true rfl, Nat.le_of_ble_eq_true rfl⟩ ⟨rfl, rfl⟩ hPm hPx hD hKK hA0 (va_recv hKK.1 hPm (ci := 5) (q0 := 0) rfl rfl) rfl hl.1 rfl (Nat.le_of_ble_eq_true rfl) dL_law_1011 ⟨Nat.le_of_ble_eq_true rfl, Nat.le_of_ble_eq_true rfl⟩ hS rfl (fun H locs hPm hPx hD hS => ?_)
        refine W.eq (g2 := F0 m 1014 ls [.long r64, .long r64]) rfl ?_
        refine W.lcmp hx hb dL_law_1014 ?_
        refine lv_if_eq (tgt := 1089) hx hb dL_law_1015 (by decide) (fun _ => ?_) (fun h => absurd (lg_cmp_self r64) h)
        exact hnext S65 M66 hsim2 _ _ ls hPx hPm hD hS hl
      by_cases h28 : xk = 28
      · refine sw_hit (tgt := 1020) hx hb dL_law_32 h28 (by decide) (by decide) rfl (by decide) ?_
        refine lv_aload_n hx hb dL_law_1020 rfl (lv_at hl 2 rfl) ?_
        refine lv_aload_n hx hb dL_law_1021 rfl (lv_at hl 3 rfl) ?_
        refine lv_iload_n hx hb dL_law_1022 rfl (lv_at hl 0 rfl) ?_
        refine lv_iconst (v := 1) hx hb dL_law_1023 (by decide) ?_
        refine lv_iadd hx hb dL_law_1024 ?_
        refine va_sld hx hb hX hbl hbA hS hi1 dL_law_1025 ?_
        obtain ⟨r67, S68, M69, hx4, hx5, hsim2⟩ := st_drawn S M hsim (xs (x3 + (1 : Int32)).toNatClampNeg)
        refine callL ⟨hx, hb, hml, hown, hts⟩ (mtX4_drawn l D cy z ad S (xs (x3 + (1 : Int32)).toNatClampNeg) r67 S68 hx4) miX4_drawn q642 ⟨Nat.le_of_ble_eq_true rfl, Nat.le_of_ble_eq_true rfl⟩ ⟨rfl, rfl⟩ hPx hPm hD hKK hA0 (va_recv hKK.1 hPx (ci := 4) (q0 := 0) rfl rfl) rfl hl.1 rfl (Nat.le_of_ble_eq_true rfl) dL_law_1026 ⟨Nat.le_of_ble_eq_true rfl, Nat.le_of_ble_eq_true rfl⟩ hS rfl (fun H locs hPx hPm hD hS => ?_)
        refine W.eq (g2 := F0 m 1029 ls [.int r67]) rfl ?_
        refine lv_aload_n hx hb dL_law_1029 rfl (lv_at hl 1 rfl) ?_
        refine lv_aload_n hx hb dL_law_1030 rfl (lv_at hl 3 rfl) ?_
        refine lv_iload_n hx hb dL_law_1031 rfl (lv_at hl 0 rfl) ?_
        refine lv_iconst (v := 1) hx hb dL_law_1032 (by decide) ?_
        refine lv_iadd hx hb dL_law_1033 ?_
        refine va_sld hx hb hX hbl hbA hS hi1 dL_law_1034 ?_
        refine callR ⟨hx, hb, hml, hown, hts⟩ (mtX5_drawn l D cy z bd M (xs (x3 + (1 : Int32)).toNatClampNeg) r67 M69 hx5) miX5_drawn q1029 ⟨Nat.le_of_ble_eq_true rfl, Nat.le_of_ble_eq_true rfl⟩ ⟨rfl, rfl⟩ hPm hPx hD hKK hA0 (va_recv hKK.1 hPm (ci := 5) (q0 := 0) rfl rfl) rfl hl.1 rfl (Nat.le_of_ble_eq_true rfl) dL_law_1035 ⟨Nat.le_of_ble_eq_true rfl, Nat.le_of_ble_eq_true rfl⟩ hS rfl (fun H locs hPm hPx hD hS => ?_)
        refine W.eq (g2 := F0 m 1038 ls [.int r67, .int r67]) rfl ?_
        refine lv_icmp_eq (tgt := 1089) hx hb dL_law_1038 (by decide) (fun _ => ?_) (fun h => absurd rfl h)
        exact hnext S68 M69 hsim2 _ _ ls hPx hPm hD hS hl
      by_cases h29 : xk = 29
      · refine sw_hit (tgt := 1043) hx hb dL_law_32 h29 (by decide) (by decide) rfl (by decide) ?_
        refine lv_aload_n hx hb dL_law_1043 rfl (lv_at hl 2 rfl) ?_
        refine lv_aload_n hx hb dL_law_1044 rfl (lv_at hl 3 rfl) ?_
        refine lv_iload_n hx hb dL_law_1045 rfl (lv_at hl 0 rfl) ?_
        refine lv_iconst (v := 1) hx hb dL_law_1046 (by decide) ?_
        refine lv_iadd hx hb dL_law_1047 ?_
        refine va_sld hx hb hX hbl hbA hS hi1 dL_law_1048 ?_
        obtain ⟨r70, S71, M72, hx4, hx5, hsim2⟩ := st_keep S M hsim (xs (x3 + (1 : Int32)).toNatClampNeg)
        refine callL ⟨hx, hb, hml, hown, hts⟩ (mtX4_keep l D cy z ad S (xs (x3 + (1 : Int32)).toNatClampNeg) r70 S71 hx4) miX4_keep q649 ⟨Nat.le_of_ble_eq_true rfl, Nat.le_of_ble_eq_true rfl⟩ ⟨rfl, rfl⟩ hPx hPm hD hKK hA0 (va_recv hKK.1 hPx (ci := 4) (q0 := 0) rfl rfl) rfl hl.1 rfl (Nat.le_of_ble_eq_true rfl) dL_law_1049 ⟨Nat.le_of_ble_eq_true rfl, Nat.le_of_ble_eq_true rfl⟩ hS rfl (fun H locs hPx hPm hD hS => ?_)
        refine W.eq (g2 := F0 m 1052 ls [.int r70]) rfl ?_
        refine lv_aload_n hx hb dL_law_1052 rfl (lv_at hl 1 rfl) ?_
        refine lv_aload_n hx hb dL_law_1053 rfl (lv_at hl 3 rfl) ?_
        refine lv_iload_n hx hb dL_law_1054 rfl (lv_at hl 0 rfl) ?_
        refine lv_iconst (v := 1) hx hb dL_law_1055 (by decide) ?_
        refine lv_iadd hx hb dL_law_1056 ?_
        refine va_sld hx hb hX hbl hbA hS hi1 dL_law_1057 ?_
        refine callR ⟨hx, hb, hml, hown, hts⟩ (mtX5_keep l D cy z bd M (xs (x3 + (1 : Int32)).toNatClampNeg) r70 M72 hx5) miX5_keep q1036 ⟨Nat.le_of_ble_eq_true rfl, Nat.le_of_ble_eq_true rfl⟩ ⟨rfl, rfl⟩ hPm hPx hD hKK hA0 (va_recv hKK.1 hPm (ci := 5) (q0 := 0) rfl rfl) rfl hl.1 rfl (Nat.le_of_ble_eq_true rfl) dL_law_1058 ⟨Nat.le_of_ble_eq_true rfl, Nat.le_of_ble_eq_true rfl⟩ hS rfl (fun H locs hPm hPx hD hS => ?_)
        refine W.eq (g2 := F0 m 1061 ls [.int r70, .int r70]) rfl ?_
        refine lv_icmp_eq (tgt := 1089) hx hb dL_law_1061 (by decide) (fun _ => ?_) (fun h => absurd rfl h)
        exact hnext S71 M72 hsim2 _ _ ls hPx hPm hD hS hl
      by_cases h30 : xk = 30
      · refine sw_hit (tgt := 1066) hx hb dL_law_32 h30 (by decide) (by decide) rfl (by decide) ?_
        refine lv_aload_n hx hb dL_law_1066 rfl (lv_at hl 2 rfl) ?_
        refine lv_aload_n hx hb dL_law_1067 rfl (lv_at hl 3 rfl) ?_
        refine lv_iload_n hx hb dL_law_1068 rfl (lv_at hl 0 rfl) ?_
        refine lv_iconst (v := 1) hx hb dL_law_1069 (by decide) ?_
        refine lv_iadd hx hb dL_law_1070 ?_
        refine va_sld hx hb hX hbl hbA hS hi1 dL_law_1071 ?_
        obtain ⟨r73, S74, M75, hx4, hx5, hsim2⟩ := st_again S M hsim (xs (x3 + (1 : Int32)).toNatClampNeg)
        refine callL ⟨hx, hb, hml, hown, hts⟩ (mtX4_again l D cy z ad S (xs (x3 + (1 : Int32)).toNatClampNeg) r73 S74 hx4) miX4_again q660 ⟨Nat.le_of_ble_eq_true rfl, Nat.le_of_ble_eq_true rfl⟩ ⟨rfl, rfl⟩ hPx hPm hD hKK hA0 (va_recv hKK.1 hPx (ci := 4) (q0 := 0) rfl rfl) rfl hl.1 rfl (Nat.le_of_ble_eq_true rfl) dL_law_1072 ⟨Nat.le_of_ble_eq_true rfl, Nat.le_of_ble_eq_true rfl⟩ hS rfl (fun H locs hPx hPm hD hS => ?_)
        refine W.eq (g2 := F0 m 1075 ls [.int r73]) rfl ?_
        refine lv_aload_n hx hb dL_law_1075 rfl (lv_at hl 1 rfl) ?_
        refine lv_aload_n hx hb dL_law_1076 rfl (lv_at hl 3 rfl) ?_
        refine lv_iload_n hx hb dL_law_1077 rfl (lv_at hl 0 rfl) ?_
        refine lv_iconst (v := 1) hx hb dL_law_1078 (by decide) ?_
        refine lv_iadd hx hb dL_law_1079 ?_
        refine va_sld hx hb hX hbl hbA hS hi1 dL_law_1080 ?_
        refine callR ⟨hx, hb, hml, hown, hts⟩ (mtX5_again l D cy z bd M (xs (x3 + (1 : Int32)).toNatClampNeg) r73 M75 hx5) miX5_again q1040 ⟨Nat.le_of_ble_eq_true rfl, Nat.le_of_ble_eq_true rfl⟩ ⟨rfl, rfl⟩ hPm hPx hD hKK hA0 (va_recv hKK.1 hPm (ci := 5) (q0 := 0) rfl rfl) rfl hl.1 rfl (Nat.le_of_ble_eq_true rfl) dL_law_1081 ⟨Nat.le_of_ble_eq_true rfl, Nat.le_of_ble_eq_true rfl⟩ hS rfl (fun H locs hPm hPx hD hS => ?_)
        refine W.eq (g2 := F0 m 1084 ls [.int r73, .int r73]) rfl ?_
        refine lv_icmp_eq (tgt := 1089) hx hb dL_law_1084 (by decide) (fun _ => ?_) (fun h => absurd rfl h)
        exact hnext S74 M75 hsim2 _ _ ls hPx hPm hD hS hl
      refine lv_tableOut (tgt := 1089) hx hb dL_law_32 (show (xk).toInt < 0 ∨ 30 < (xk).toInt by have e0 := lv_neT h0 (a := 0) (by decide); have e1 := lv_neT h1 (a := 1) (by decide); have e2 := lv_neT h2 (a := 2) (by decide); have e3 := lv_neT h3 (a := 3) (by decide); have e4 := lv_neT h4 (a := 4) (by decide); have e5 := lv_neT h5 (a := 5) (by decide); have e6 := lv_neT h6 (a := 6) (by decide); have e7 := lv_neT h7 (a := 7) (by decide); have e8 := lv_neT h8 (a := 8) (by decide); have e9 := lv_neT h9 (a := 9) (by decide); have e10 := lv_neT h10 (a := 10) (by decide); have e11 := lv_neT h11 (a := 11) (by decide); have e12 := lv_neT h12 (a := 12) (by decide); have e13 := lv_neT h13 (a := 13) (by decide); have e14 := lv_neT h14 (a := 14) (by decide); have e15 := lv_neT h15 (a := 15) (by decide); have e16 := lv_neT h16 (a := 16) (by decide); have e17 := lv_neT h17 (a := 17) (by decide); have e18 := lv_neT h18 (a := 18) (by decide); have e19 := lv_neT h19 (a := 19) (by decide); have e20 := lv_neT h20 (a := 20) (by decide); have e21 := lv_neT h21 (a := 21) (by decide); have e22 := lv_neT h22 (a := 22) (by decide); have e23 := lv_neT h23 (a := 23) (by decide); have e24 := lv_neT h24 (a := 24) (by decide); have e25 := lv_neT h25 (a := 25) (by decide); have e26 := lv_neT h26 (a := 26) (by decide); have e27 := lv_neT h27 (a := 27) (by decide); have e28 := lv_neT h28 (a := 28) (by decide); have e29 := lv_neT h29 (a := 29) (by decide); have e30 := lv_neT h30 (a := 30) (by decide); omega) (by decide) ?_
      exact hnext S M hsim _ _ ls hPx hPm hD hS hl
