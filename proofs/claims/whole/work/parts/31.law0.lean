/-! THE CLAIM OUT OF ONE WALK OF THE LAW'S BODY. Your part is whole_start (and what it stands on); all else here is the same for every law, but numbers. -/
def R_law : String := "HillSightLaw"
def lw_P (b : Addr) (xs : List Int32) (args : Array Value) (s : State) : Prop := args = #[.ref b] ∧ s.IntsAt b xs ∧ xs.length ≤ 2048 ∧ (Jvm.Cond.and given_1 narrow_1).before args s = true
def lw_Q (_ : Array Value) (s : State) (o : Outcome) (t : State) : Prop := o = .returned (some (.int 1)) ∧ Framed s o t [] 45 1617
def lw_Z (below : List Frame) (a : Array Value) (s : State) : State → Prop := fun t => ∃ o, t.status = .running ∧ Ended t below o ∧ lw_Q a s o t
/-- the law's own end, with 1 on the stack, nothing written that was there before, its room as the claim has it -/
theorem lw_ret {p : Program} {l : Launch} {e : Env} {s : State} {m : MethodId} {below : List Frame} {meth : Method} {c : Code} {b : Nat} (hx : p.tables.exec = Jvm.exec) (hb : c.code = code) (hr : meth.sig.returnType = ret) (hlocks : meth.locks = false) {pc : Nat} {H : Heap} {ls : Array Slot} (hdg : decode code pc = .ok (.ireturn, 1)) : W p l e room_1 s m #[Value.ref b] below meth c H [] 45 1617 (lw_Z below #[Value.ref b] s) (F0 m pc ls [.int 1]) := by
  intro T hT X
  obtain ⟨fs, hret, hrun, hended, hW, hframe⟩ := X.leave (v := some (.int 1)) (hlocks := hlocks) (fun h => by rw [hr] at h; cases h)
  have hmeth' : T.vm.method? m = some meth := X.method'
  refine ⟨T.setFrames fs, ?_, .returned (some (.int 1)), hrun, hended, rfl, ⟨_, rfl⟩, hW, hframe⟩
  jvm_step X.here [X.here.top, hx, hb, hdg, hmeth', hr, ret, narrow_b1]
  (try refine ⟨rfl, ?_⟩); (try refine ⟨rfl, ?_⟩)
  first | (intro acts; rw [hret _ acts rfl rfl rfl]) | rw [hret _ _ rfl rfl rfl]
  exact Steps.refl _
/-- what holds at the law's entry: the machine, the code, the tables' words (any of lw_tbl by 'hts w (by decide +kernel)'), the script of L ints xs at the cell b, what the Statement gives of the start (any of its parts by flat_of_before) -/
def lw_At (p : Program) (s : State) (m : MethodId) (meth : Method) (c : Code) (b L : Nat) (xs : Nat → Int32) : Prop :=
  p.tables.exec = Jvm.exec ∧ c.code = code ∧ meth.sig.returnType = ret ∧ c.maxLocals = 4 ∧ s.vm.findClass R_law = some m.cls ∧ (∀ w ∈ lw_tbl, w.before #[Value.ref b] s = true) ∧ va_X b L xs s s.heap ∧ b < s.heap.size ∧ meth.locks = false ∧ (Jvm.Cond.and given_1 narrow_1).before #[Value.ref b] s = true
section LAWC
variable {p : Program} {l : Launch} {e : Env} {R : Room} {s : State} {m : MethodId} {args : Array Value} {below : List Frame} {meth : Method} {c : Code} {H : Heap} {locs : List Loc} {cells slots : Nat} {Q : State → Prop}
variable {y : MethodName} {bytes cc : ByteArray} {maxL nL n index pc : Nat} {ret : Option FieldType} {rm : Room} {own : String} {b : Addr} {As rest st0 : List Value} {ls : Array Slot} {D : va_G} {cy : Nat → ClassId} {z : zT} {w w' u : va_W} {v : Option Value} {A : Nat → Prop} {H0 : Heap}
theorem va_D.left {w u : va_W} (h : va_D A (w ++ u)) : va_D A w := by
  have key : ∀ (k : Nat) (q : Nat × va_E), w[k]? = some q → (w ++ u)[k]? = some q := fun k q hk => by
    rw [List.getElem?_append_left (List.getElem?_eq_some_iff.mp hk).1]; exact hk
  exact ⟨fun i j p q hi hj hpq => h.1 i j p q (key i p hi) (key j q hj) hpq, fun k q hk => h.2 k q (key k q hk)⟩
theorem va_D.right {w u : va_W} (h : va_D A (w ++ u)) : va_D A u := by
  have key : ∀ (k : Nat) (q : Nat × va_E), u[k]? = some q → (w ++ u)[w.length + k]? = some q := fun k q hk => by
    rw [List.getElem?_append_right (Nat.le_add_right _ _), Nat.add_sub_cancel_left]; exact hk
  refine ⟨fun i j p q hi hj hpq => ?_, fun k q hk => h.2 _ q (key k q hk)⟩
  have := h.1 _ _ p q (key i p hi) (key j q hj) hpq
  omega
theorem va_D.two {w u : va_W} (h : va_D A (w ++ u)) {i j : Nat} {x y : Nat × va_E} (hi : w[i]? = some x) (hj : u[j]? = some y) : x.1 ≠ y.1 := by
  intro e
  have hl := (List.getElem?_eq_some_iff.mp hi).1
  have := h.1 i (w.length + j) x y (by rw [List.getElem?_append_left hl]; exact hi) (by rw [List.getElem?_append_right (Nat.le_add_right _ _), Nat.add_sub_cancel_left]; exact hj) e
  omega
/-- a call that changes the first of two worlds -/
theorem goL {a : Array Value} (hr : va_Run p l e R s m args below meth c H locs cells slots 0 0 (F0 m pc ls st0) rest (mQ D w w' v a) (adr w)) (hS : va_S A H0 H locs) (hPu : va_P D vwCl u H) (hD : va_D A (w ++ u)) (hw : w'.map Prod.fst = w.map Prod.fst)
    (kk : ∀ (H1 : Heap) (locs1 : List Loc), va_P D vwCl w' H1 → va_P D vwCl u H1 → va_D A (w' ++ u) → va_S A H0 H1 locs1 → W p l e R s m args below meth c H1 locs1 cells slots Q (F0 m (pc + 3) ls (v.toList ++ rest))) : W p l e R s m args below meth c H locs cells slots Q (F0 m pc ls st0) := by
  have hsub : ∀ q, adr w q → A q := fun q ⟨j, e, hj⟩ => hD.left.2 j _ hj
  intro T hT X
  obtain ⟨v2, st₀, t, T', L, h0, X', hL, e1, e2, ⟨hv, hp, hz, hk⟩, st⟩ := hr T hT X
  cases hv
  rw [h0] at hz hk
  obtain ⟨t2, a1, b1⟩ := kk t.heap (locs ++ L) hp (fun k q hq => (hPu k q hq).kept (hk q.1 (hPu k q hq).lt (fun ⟨j, e, hj⟩ => hD.two hj hq rfl))) (hD.fst (by rw [List.map_append, List.map_append, hw]))
    ⟨Nat.le_trans hS.1 hz, fun q h1 h2 => by rw [hk q (Nat.lt_of_lt_of_le h1 hS.1) (fun z => h2 (hsub q z))]; exact hS.2.1 q h1 h2, fun q hq => by
      rcases List.mem_append.mp hq with h | h
      · exact hS.2.2 q h
      · exact hsub _ (hL q h)⟩ T' e1 X'
  exact ⟨t2, st t2 a1, b1⟩
/-- a call that changes the second of two worlds -/
theorem goR {a : Array Value} (hr : va_Run p l e R s m args below meth c H locs cells slots 0 0 (F0 m pc ls st0) rest (mQ D w w' v a) (adr w)) (hS : va_S A H0 H locs) (hPu : va_P D vwCl u H) (hD : va_D A (u ++ w)) (hw : w'.map Prod.fst = w.map Prod.fst)
    (kk : ∀ (H1 : Heap) (locs1 : List Loc), va_P D vwCl w' H1 → va_P D vwCl u H1 → va_D A (u ++ w') → va_S A H0 H1 locs1 → W p l e R s m args below meth c H1 locs1 cells slots Q (F0 m (pc + 3) ls (v.toList ++ rest))) : W p l e R s m args below meth c H locs cells slots Q (F0 m pc ls st0) := by
  have hsub : ∀ q, adr w q → A q := fun q ⟨j, e, hj⟩ => hD.right.2 j _ hj
  intro T hT X
  obtain ⟨v2, st₀, t, T', L, h0, X', hL, e1, e2, ⟨hv, hp, hz, hk⟩, st⟩ := hr T hT X
  cases hv
  rw [h0] at hz hk
  obtain ⟨t2, a1, b1⟩ := kk t.heap (locs ++ L) hp (fun k q hq => (hPu k q hq).kept (hk q.1 (hPu k q hq).lt (fun ⟨j, e, hj⟩ => hD.two hq hj rfl))) (hD.fst (by rw [List.map_append, List.map_append, hw]))
    ⟨Nat.le_trans hS.1 hz, fun q h1 h2 => by rw [hk q (Nat.lt_of_lt_of_le h1 hS.1) (fun z => h2 (hsub q z))]; exact hS.2.1 q h1 h2, fun q hq => by
      rcases List.mem_append.mp hq with h | h
      · exact hS.2.2 q h
      · exact hsub _ (hL q h)⟩ T' e1 X'
  exact ⟨t2, st t2 a1, b1⟩
theorem callL (S : CallFix p m c cc nL s args gtb own) (hM : mmet l y bytes maxL ret rm D cy z w w' (.ref b :: As) v) (mi : miV y bytes maxL ret n) (hl : Cond.methodLink own index y ∈ gtb) (hR : rm.frames + 1 ≤ R.frames ∧ 8 + (maxL + 11) + rm.locals ≤ R.locals) (hrm : rm.cells = 0 ∧ rm.slots = 0) (hPw : va_P D vwCl w H) (hPu : va_P D vwCl u H) (hD : va_D A (w ++ u)) (hKK : kK D cy z s s.heap) (hA : ∀ q, A q → zA z q) (hrecv : ∃ cellB : Cell, H[b]? = some cellB ∧ cellB.vm.isStatics = false ∧ s.vm.findClass y.cls = some cellB.cls)
    (hn : As.length = n) (hsize : ls.size = nL) (hst : st0 = As.reverse ++ .ref b :: rest) (hW : (rest.map fun v => v.category).sum ≤ 8) (hdg : decode cc pc = .ok (.invokevirtual index, 3)) (hf : cells ≤ R.cells ∧ slots ≤ R.slots) (hS : va_S A s.heap H locs) (hw : w'.map Prod.fst = w.map Prod.fst)
    (kk : ∀ (H1 : Heap) (locs1 : List Loc), va_P D vwCl w' H1 → va_P D vwCl u H1 → va_D A (w' ++ u) → va_S A s.heap H1 locs1 → W p l e R s m args below meth c H1 locs1 cells slots Q (F0 m (pc + 3) ls (v.toList ++ rest))) : W p l e R s m args below meth c H locs cells slots Q (F0 m pc ls st0) :=
  goL (va_runV (C := y.cls) S hM ⟨cwb S.2.2.2.2 mi.1 mi.2.1 hl mi.2.2.2.2 hR hrm, S.2.2.2.2 _ mi.2.2.1, S.2.2.2.2 _ mi.2.2.2.1⟩ ⟨mB_blind, hrecv, mB_at hPw hD.left hKK hS hA⟩ rfl hn hsize hst (lv_room hW) hdg hf) hS hPu hD hw kk
theorem callR (S : CallFix p m c cc nL s args gtb own) (hM : mmet l y bytes maxL ret rm D cy z w w' (.ref b :: As) v) (mi : miV y bytes maxL ret n) (hl : Cond.methodLink own index y ∈ gtb) (hR : rm.frames + 1 ≤ R.frames ∧ 8 + (maxL + 11) + rm.locals ≤ R.locals) (hrm : rm.cells = 0 ∧ rm.slots = 0) (hPw : va_P D vwCl w H) (hPu : va_P D vwCl u H) (hD : va_D A (u ++ w)) (hKK : kK D cy z s s.heap) (hA : ∀ q, A q → zA z q) (hrecv : ∃ cellB : Cell, H[b]? = some cellB ∧ cellB.vm.isStatics = false ∧ s.vm.findClass y.cls = some cellB.cls)
    (hn : As.length = n) (hsize : ls.size = nL) (hst : st0 = As.reverse ++ .ref b :: rest) (hW : (rest.map fun v => v.category).sum ≤ 8) (hdg : decode cc pc = .ok (.invokevirtual index, 3)) (hf : cells ≤ R.cells ∧ slots ≤ R.slots) (hS : va_S A s.heap H locs) (hw : w'.map Prod.fst = w.map Prod.fst)
    (kk : ∀ (H1 : Heap) (locs1 : List Loc), va_P D vwCl w' H1 → va_P D vwCl u H1 → va_D A (u ++ w') → va_S A s.heap H1 locs1 → W p l e R s m args below meth c H1 locs1 cells slots Q (F0 m (pc + 3) ls (v.toList ++ rest))) : W p l e R s m args below meth c H locs cells slots Q (F0 m pc ls st0) :=
  goR (va_runV (C := y.cls) S hM ⟨cwb S.2.2.2.2 mi.1 mi.2.1 hl mi.2.2.2.2 hR hrm, S.2.2.2.2 _ mi.2.2.1, S.2.2.2.2 _ mi.2.2.2.1⟩ ⟨mB_blind, hrecv, mB_at hPw hD.right hKK hS hA⟩ rfl hn hsize hst (lv_room hW) hdg hf) hS hPu hD hw kk
theorem lg_cmp_self (x : Int64) : lg_cmp x x = 0 := by simp [lg_cmp]
end LAWC
def stp_write (Sim : tH → tM → Prop) : Prop := ∀ (S : tH) (M : tM), Sim S M → ∀ (a1 : Int32), ∃ (r : Int32) (S' : tH) (M' : tM), fX4_write S a1 = some (r, S') ∧ fX5_write M a1 = some (r, M') ∧ Sim S' M'
def stp_wipe (Sim : tH → tM → Prop) : Prop := ∀ (S : tH) (M : tM), Sim S M → ∀ (_ : Unit), ∃ (r : Int32) (S' : tH) (M' : tM), fX4_wipe S = some (r, S') ∧ fX5_wipe M = some (r, M') ∧ Sim S' M'
def stp_fault (Sim : tH → tM → Prop) : Prop := ∀ (S : tH) (M : tM), Sim S M → ∀ (_ : Unit), ∃ (r : Int32) (S' : tH) (M' : tM), fX4_fault S = some (r, S') ∧ fX5_fault M = some (r, M') ∧ Sim S' M'
def stp_map (Sim : tH → tM → Prop) : Prop := ∀ (S : tH) (M : tM), Sim S M → ∀ (_ : Unit), ∃ (r : Int32) (S' : tH) (M' : tM), fX4_map S = some (r, S') ∧ fX5_map M = some (r, M') ∧ Sim S' M'
def stp_about (Sim : tH → tM → Prop) : Prop := ∀ (S : tH) (M : tM), Sim S M → ∀ (a1 : Int32), ∃ (r : Int32) (M' : tM), fX4_about S a1 = some r ∧ fX5_about M a1 = some (r, M') ∧ Sim S M'
def stp_cell (Sim : tH → tM → Prop) : Prop := ∀ (S : tH) (M : tM), Sim S M → ∀ (a1 : Int32) (a2 : Int32), ∃ (r : Int32) (M' : tM), fX4_cell S a1 a2 = some r ∧ fX5_cell M a1 a2 = some (r, M') ∧ Sim S M'
def stp_tower (Sim : tH → tM → Prop) : Prop := ∀ (S : tH) (M : tM), Sim S M → ∀ (a1 : Int32) (a2 : Int32), ∃ (r : Int32), fX4_tower S a1 a2 = some r ∧ fX5_tower M.1 M.2.2.1 a1 a2 = some r
def stp_raise (Sim : tH → tM → Prop) : Prop := ∀ (S : tH) (M : tM), Sim S M → ∀ (a1 : Int32) (a2 : Int32), ∃ (r : Int32) (S' : tH) (M' : tM), fX4_raise S a1 a2 = some (r, S') ∧ fX5_raise M a1 a2 = some (r, M') ∧ Sim S' M'
def stp_build (Sim : tH → tM → Prop) : Prop := ∀ (S : tH) (M : tM), Sim S M → ∀ (a1 : Int32) (a2 : Int32), ∃ (r : Int32) (S' : tH) (M' : tM), fX4_build S a1 a2 = some (r, S') ∧ fX5_build M a1 a2 = some (r, M') ∧ Sim S' M'
def stp_raze (Sim : tH → tM → Prop) : Prop := ∀ (S : tH) (M : tM), Sim S M → ∀ (a1 : Int32), ∃ (r : Int32) (S' : tH) (M' : tM), fX4_raze S a1 = some (r, S') ∧ fX5_raze M a1 = some (r, M') ∧ Sim S' M'
def stp_set (Sim : tH → tM → Prop) : Prop := ∀ (S : tH) (M : tM), Sim S M → ∀ (a1 : Int32) (a2 : Int32), ∃ (r : Int32) (S' : tH) (M' : tM), fX4_set S a1 a2 = some (r, S') ∧ fX5_set M a1 a2 = some (r, M') ∧ Sim S' M'
def stp_undo (Sim : tH → tM → Prop) : Prop := ∀ (S : tH) (M : tM), Sim S M → ∀ (_ : Unit), ∃ (r : Int32) (S' : tH) (M' : tM), fX4_undo S = some (r, S') ∧ fX5_undo M = some (r, M') ∧ Sim S' M'
def stp_sees (Sim : tH → tM → Prop) : Prop := ∀ (S : tH) (M : tM), Sim S M → ∀ (a1 : Int32) (a2 : Int32) (a3 : Int32), ∃ (r : Int32), fX4_sees S a1 a2 a3 = some r ∧ fX5_sees M.1 M.2.2.1 a1 a2 a3 = some r
def stp_view (Sim : tH → tM → Prop) : Prop := ∀ (S : tH) (M : tM), Sim S M → ∀ (a1 : Int32), ∃ (r : Int64), fX4_view S a1 = some r ∧ fX5_view M.1 M.2.2.1 a1 = some r
def stp_watched (Sim : tH → tM → Prop) : Prop := ∀ (S : tH) (M : tM), Sim S M → ∀ (a1 : Int32), ∃ (r : Int64), fX4_watched S a1 = some r ∧ fX5_watched M.1 M.2.2.1 a1 = some r
def stp_joined (Sim : tH → tM → Prop) : Prop := ∀ (S : tH) (M : tM), Sim S M → ∀ (a1 : Int32), ∃ (r : Int64), fX4_joined S a1 = some r ∧ fX5_joined M.1 M.2.2.1 a1 = some r
def stp_hollow (Sim : tH → tM → Prop) : Prop := ∀ (S : tH) (M : tM), Sim S M → ∀ (a1 : Int32), ∃ (r : Int64) (M' : tM), fX4_hollow S a1 = some r ∧ fX5_hollow M a1 = some (r, M') ∧ Sim S M'
def stp_last (Sim : tH → tM → Prop) : Prop := ∀ (S : tH) (M : tM), Sim S M → ∀ (a1 : Int32) (a2 : Int32), ∃ (r : Int32), fX4_last S a1 a2 = some r ∧ fX5_last M.1 M.2.2.1 a1 a2 = some r
def stp_best (Sim : tH → tM → Prop) : Prop := ∀ (S : tH) (M : tM), Sim S M → ∀ (a1 : Int32) (a2 : Int32), ∃ (r : Int32) (M' : tM), fX4_best S a1 a2 = some r ∧ fX5_best M a1 a2 = some (r, M') ∧ Sim S M'
def stp_two (Sim : tH → tM → Prop) : Prop := ∀ (S : tH) (M : tM), Sim S M → ∀ (a1 : Int32) (a2 : Int32), ∃ (r : Int32) (S' : tH) (M' : tM), fX4_two S a1 a2 = some (r, S') ∧ fX5_two M a1 a2 = some (r, M') ∧ Sim S' M'
def stp_part (Sim : tH → tM → Prop) : Prop := ∀ (S : tH) (M : tM), Sim S M → ∀ (a1 : Int32), ∃ (r : Int32), fX4_part S a1 = some r ∧ fX5_part M.1 M.2.2.1 a1 = some r
def stp_judge (Sim : tH → tM → Prop) : Prop := ∀ (S : tH) (M : tM), Sim S M → ∀ (a1 : Int32) (a2 : Int64), ∃ (r : Int32) (S' : tH) (M' : tM), fX4_judge S a1 a2 = some (r, S') ∧ fX5_judge M a1 a2 = some (r, M') ∧ Sim S' M'
def stp_find (Sim : tH → tM → Prop) : Prop := ∀ (S : tH) (M : tM), Sim S M → ∀ (a1 : Int32) (a2 : Int32), ∃ (r : Int32) (S' : tH) (M' : tM), fX4_find S a1 a2 = some (r, S') ∧ fX5_find M a1 a2 = some (r, M') ∧ Sim S' M'
def stp_lose (Sim : tH → tM → Prop) : Prop := ∀ (S : tH) (M : tM), Sim S M → ∀ (_ : Unit), ∃ (r : Int32) (S' : tH) (M' : tM), fX4_lose S = some (r, S') ∧ fX5_lose M = some (r, M') ∧ Sim S' M'
def stp_which (Sim : tH → tM → Prop) : Prop := ∀ (S : tH) (M : tM), Sim S M → ∀ (_ : Unit), ∃ (r : Int64), fX4_which S = some r ∧ fX5_which M = some r
def stp_share (Sim : tH → tM → Prop) : Prop := ∀ (S : tH) (M : tM), Sim S M → ∀ (a1 : Int32) (a2 : Int32), ∃ (r : Int32), fX4_share S a1 a2 = some r ∧ fX5_share M.1 M.2.2.1 a1 a2 = some r
def stp_chance (Sim : tH → tM → Prop) : Prop := ∀ (S : tH) (M : tM), Sim S M → ∀ (a1 : Int32) (a2 : Int32) (a3 : Int32), ∃ (r : Int32), fX4_chance S a1 a2 a3 = some r ∧ fX5_chance M.1 M.2.2.1 a1 a2 a3 = some r
def stp_seed (Sim : tH → tM → Prop) : Prop := ∀ (S : tH) (M : tM), Sim S M → ∀ (a1 : Int64), ∃ (r : Int64) (S' : tH) (M' : tM), fX4_seed S a1 = some (r, S') ∧ fX5_seed M a1 = some (r, M') ∧ Sim S' M'
def stp_drawn (Sim : tH → tM → Prop) : Prop := ∀ (S : tH) (M : tM), Sim S M → ∀ (a1 : Int32), ∃ (r : Int32) (S' : tH) (M' : tM), fX4_drawn S a1 = some (r, S') ∧ fX5_drawn M a1 = some (r, M') ∧ Sim S' M'
def stp_keep (Sim : tH → tM → Prop) : Prop := ∀ (S : tH) (M : tM), Sim S M → ∀ (a1 : Int32), ∃ (r : Int32) (S' : tH) (M' : tM), fX4_keep S a1 = some (r, S') ∧ fX5_keep M a1 = some (r, M') ∧ Sim S' M'
def stp_again (Sim : tH → tM → Prop) : Prop := ∀ (S : tH) (M : tM), Sim S M → ∀ (a1 : Int32), ∃ (r : Int32) (S' : tH) (M' : tM), fX4_again S a1 = some (r, S') ∧ fX5_again M a1 = some (r, M') ∧ Sim S' M'
