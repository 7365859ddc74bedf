/-! Own rows: contracts of methods that make no cell (read-only: pmet; changing their own cells: mmet), calls by contract, the pieces of the pure functions. -/
abbrev tA : Type := Nat → Int32
abbrev tB : Type := Nat → Int64
abbrev tyL (cy : Nat → ClassId) : List (ClassId × FieldType) := [(cy 0, .int), (cy 1, .long), (cy 2, .char), (cy 3, .boolean)]
def noF : Addr → Prop := fun _ => False
/-- the addresses of a world -/
def adr (w : va_W) : Nat → Prop := fun q => ∃ (k : Nat) (e : va_E), w[k]? = some (q, e)
def pQ (v : Option Value) : Array Value → State → Outcome → State → Prop := fun _ st oc t => oc = .returned v ∧ t.heap = st.heap
def mQ (D : va_G) (w w' : va_W) (v : Option Value) : Array Value → State → Outcome → State → Prop := fun _ st oc t => oc = .returned v ∧ va_P D vwCl w' t.heap ∧ va_F (adr w) st t
/-- what nobody writes: z.1: from which address on the worlds lie; the two static rows; the one text constant and its bytes -/
abbrev zT : Type := Nat × Nat × Nat × (Nat → Nat) × (Nat → Nat)
def zA (z : zT) : Nat → Prop := fun q => z.1 ≤ q
def tabC (j : Nat) : Int32 := [1, 1, 0, -1, -1, -1, 0, 1].getD j 0
def tabR (j : Nat) : Int32 := [0, 1, 1, 1, 0, -1, -1, -1].getD j 0
def bytE : List (List Int32) := [[101, 109, 98, 115]]
def nst (U : State) : Prop := va_Nw (.methodLinkNest "HillSight$MapText" 79 ⟨"HillSight", "lowestValue", "(I)I"⟩ "HillSight") U ∧ va_Nw (.methodLinkNest "HillSight$Land" 57 ⟨"HillSight", "isSetting", "(II)Z"⟩ "HillSight") U ∧ va_Nw (.methodLinkNest "HillSight$Land" 108 ⟨"HillSight", "contains", "(JI)Z"⟩ "HillSight") U ∧ va_Nw (.methodLinkNest "HillSight" 27 ⟨"HillSight$MapText", "<init>", "()V"⟩ "HillSight") U ∧ va_Nw (.methodLinkNest "HillSight" 34 ⟨"HillSight$Journal", "<init>", "()V"⟩ "HillSight") U ∧ va_Nw (.methodLinkNest "HillSight" 41 ⟨"HillSight$Observations", "<init>", "()V"⟩ "HillSight") U
def sta (z : zT) (U : State) (H : Heap) : Prop := va_Z "HillSight" "COLUMN_STEPS" "[I" (.ref z.2.1) (zA z) U H ∧ va_T .int z.2.1 8 (fun j => .int (tabC j)) (zA z) U H ∧ va_Z "HillSight" "ROW_STEPS" "[I" (.ref z.2.2.1) (zA z) U H ∧ va_T .int z.2.2.1 8 (fun j => .int (tabR j)) (zA z) U H ∧ va_Z "java/lang/String" "COMPACT_STRINGS" "Z" (.int 1) (zA z) U H ∧ vk_S 1 [4] bytE z.2.2.2.1 z.2.2.2.2 (zA z) U H ∧ vk_R "HillSight$MapText" 71 "embs" (z.2.2.2.1 0) U
def kK (D : va_G) (cy : Nat → ClassId) (z : zT) (U : State) (H : Heap) : Prop := va_K D vwCl (tyL cy) U ∧ nst U ∧ sta z U H
theorem kK.warm {D : va_G} {cy : Nat → ClassId} {z : zT} {s U : State} {H : Heap} (hW : s.WarmedH U.vm) (h : kK D cy z s H) : kK D cy z U H := by
  obtain ⟨h1, ⟨n1, n2, n3, n4, n5, n6⟩, a1, a2, a3, a4, a5, a6, a7⟩ := h
  exact ⟨va_K.moved hW.alike h1, ⟨n1.warmM hW, n2.warmM hW, n3.warmM hW, n4.warmM hW, n5.warmM hW, n6.warmM hW⟩, a1.moved hW.alike, a2.moved hW.alike, a3.moved hW.alike, a4.moved hW.alike, a5.moved hW.alike, a6.moved hW.alike, a7.warm hW⟩
theorem kK.same {D : va_G} {cy : Nat → ClassId} {z : zT} {s U : State} {H : Heap} (hv : U.vm = s.vm) (h : kK D cy z s H) : kK D cy z U H := by
  have ha : s.vm.Alike U.vm := by rw [hv]; exact Vm.Alike.refl _
  obtain ⟨h1, ⟨n1, n2, n3, n4, n5, n6⟩, a1, a2, a3, a4, a5, a6, a7⟩ := h
  exact ⟨va_K.moved ha h1, ⟨va_Nw.same rfl hv.symm n1, va_Nw.same rfl hv.symm n2, va_Nw.same rfl hv.symm n3, va_Nw.same rfl hv.symm n4, va_Nw.same rfl hv.symm n5, va_Nw.same rfl hv.symm n6⟩, a1.moved ha, a2.moved ha, a3.moved ha, a4.moved ha, a5.moved ha, a6.moved ha, a7.same hv⟩
theorem kK.kept {D : va_G} {cy : Nat → ClassId} {z : zT} {U : State} {H H1 : Heap} (hq : ∀ a : Nat, a < H.size → ¬ zA z a → H1[a]? = H[a]?) (h : kK D cy z U H) : kK D cy z U H1 := by
  obtain ⟨h1, h2, a1, a2, a3, a4, a5, a6, a7⟩ := h
  exact ⟨h1, h2, a1.kept hq, a2.kept hq, a3.kept hq, a4.kept hq, a5.kept hq, a6.kept hq, a7⟩
def pB (D : va_G) (cy : Nat → ClassId) (z : zT) (w : va_W) (U : State) : Prop := va_P D vwCl w U.heap ∧ kK D cy z U U.heap
def mB (D : va_G) (cy : Nat → ClassId) (z : zT) (w : va_W) (U : State) : Prop := va_P D vwCl w U.heap ∧ va_D (zA z) w ∧ kK D cy z U U.heap
/-- a method that reads the cells w and answers v, the heap as it was -/
def pmet (l : Launch) (y : MethodName) (cc : ByteArray) (maxL : Nat) (ret : Option FieldType) (rm : Room) (D : va_G) (cy : Nat → ClassId) (z : zT) (w : va_W) (av : List Value) (v : Option Value) : Prop :=
  Met l y (.code y cc maxL ret :: gtb) rm (va_Pc av (pB D cy z w)) (pQ v) 0 0 noF
/-- a method that turns the cells w into w', and answers v -/
def mmet (l : Launch) (y : MethodName) (cc : ByteArray) (maxL : Nat) (ret : Option FieldType) (rm : Room) (D : va_G) (cy : Nat → ClassId) (z : zT) (w w' : va_W) (av : List Value) (v : Option Value) : Prop :=
  Met l y (.code y cc maxL ret :: gtb) rm (va_Pc av (mB D cy z w)) (mQ D w w' v) 0 0 (adr w)
/-! the pieces of the pure functions -/
def gd {α : Type} (b : Bool) (k : Option α) : Option α := match b with
  | true => k
  | false => none
theorem gd_some {α : Type} {b : Bool} {k : Option α} {r : α} (h : gd b k = some r) : b = true ∧ k = some r := by
  cases b with
  | true => exact ⟨rfl, h⟩
  | false => cases h
theorem gd_true {α : Type} {b : Bool} (h : b = true) (k : Option α) : gd b k = k := by subst h; rfl
def inb (i : Int32) (n : Nat) : Bool := decide (¬ (i < 0 ∨ n ≤ i.toNatClampNeg))
theorem inb_in {i : Int32} {n : Nat} (h : inb i n = true) : vp_in i n := (of_decide_eq_true h : ¬ (i < 0 ∨ n ≤ i.toNatClampNeg))
def nz (y : Int32) : Bool := decide (¬ y = 0)
theorem nz_ne {y : Int32} (h : nz y = true) : ¬ y = 0 := of_decide_eq_true h
def nzl (y : Int64) : Bool := decide (¬ y = 0)
theorem nzl_ne {y : Int64} (h : nzl y = true) : ¬ y = 0 := of_decide_eq_true h
def zb (v : Int32) : Bool := decide (v = 0 ∨ v = 1)
theorem zb_n {v : Int32} (h : zb v = true) : narrow .boolean (.int v) = .int v := by
  rcases of_decide_eq_true h with h | h <;> subst h <;> rfl
def nm {α β : Type} (e : α) (k : α → β) : β := k e
theorem nm_ex {α β : Type} {e : α} {k : α → Option β} {r : β} (h : nm e k = some r) : ∃ z, e = z ∧ k z = some r := ⟨e, rfl, h⟩
theorem bd_some {α β : Type} {o : Option α} {k : α → Option β} {b : β} (h : o.bind k = some b) : ∃ a, o = some a ∧ k a = some b := by
  cases o with
  | none => cases h
  | some a => exact ⟨a, rfl, h⟩
/-! starts -/
theorem pmet_of {l : Launch} {y : MethodName} {cc : ByteArray} {maxL : Nat} {ret : Option FieldType} {rm : Room} {D : va_G} {cy : Nat → ClassId} {z : zT} {w : va_W} {av : List Value} {v : Option Value} (hy : plainName y.cls = true) (hlen : (lg_sl av).length ≤ maxL)
    (body : ∀ (p : Program) (e : Env) (s : State) (m : MethodId) (below : List Frame) (meth : Method) (c : Code), p.tables.exec = Jvm.exec → c.code = cc → meth.sig.returnType = ret → c.maxLocals = maxL → s.vm.findClass y.cls = some m.cls → (∀ w ∈ gtb, w.before av.toArray s = true) → meth.locks = false → va_P D vwCl w s.heap → kK D cy z s s.heap → ∀ ls : Array Slot, lv_has ls maxL (lv_args 0 av) →
      W p l e rm s m av.toArray below meth c s.heap [] 0 0 (MQ below (pQ v) av.toArray s 0 0 noF) (F0 m 0 ls [])) : pmet l y cc maxL ret rm D cy z w av v := by
  refine Met.ofW (cc := cc) (maxL := maxL) (ret := ret) hy rfl ?_
  intro p e s m args below meth c s₁ B hml hv
  obtain ⟨rfl, hP, hK⟩ := hv
  have hts := atoms_spec (ws := .code y cc maxL ret :: gtb) B.pre
  rw [lg_entry_eq]
  exact body p e s m below meth c B.exec B.bytes B.returns hml (findClass_of_methodNamed B.named) (fun w h => hts w (List.mem_cons_of_mem _ h)) B.notSynchronized hP hK _ (lv_entry av hlen)
theorem va_S.wid {A B : Nat → Prop} {H0 H : Heap} {locs : List Loc} (h : va_S A H0 H locs) (hAB : ∀ q, A q → B q) : va_S B H0 H locs := ⟨h.1, fun q h1 h2 => h.2.1 q h1 (fun z => h2 (hAB q z)), fun l hl => hAB _ (h.2.2 l hl)⟩
theorem adr_self {w : va_W} {A : Nat → Prop} (h : va_D A w) : va_D (adr w) w := ⟨h.1, fun k q hk => ⟨k, q.2, hk⟩⟩
theorem mmet_of {l : Launch} {y : MethodName} {cc : ByteArray} {maxL : Nat} {ret : Option FieldType} {rm : Room} {D : va_G} {cy : Nat → ClassId} {z : zT} {w w' : va_W} {av : List Value} {v : Option Value} (hy : plainName y.cls = true) (hlen : (lg_sl av).length ≤ maxL)
    (body : ∀ (p : Program) (e : Env) (s : State) (m : MethodId) (below : List Frame) (meth : Method) (c : Code), p.tables.exec = Jvm.exec → c.code = cc → meth.sig.returnType = ret → c.maxLocals = maxL → s.vm.findClass y.cls = some m.cls → (∀ w ∈ gtb, w.before av.toArray s = true) → meth.locks = false → va_P D vwCl w s.heap → va_D (adr w) w → va_S (adr w) s.heap s.heap [] → (∀ q, adr w q → zA z q) → kK D cy z s s.heap → ∀ ls : Array Slot, lv_has ls maxL (lv_args 0 av) →
      W p l e rm s m av.toArray below meth c s.heap [] 0 0 (MQ below (mQ D w w' v) av.toArray s 0 0 (adr w)) (F0 m 0 ls [])) : mmet l y cc maxL ret rm D cy z w w' av v := by
  refine Met.ofW (cc := cc) (maxL := maxL) (ret := ret) hy rfl ?_
  intro p e s m args below meth c s₁ B hml hv
  obtain ⟨rfl, hP, hD, hK⟩ := hv
  have hts := atoms_spec (ws := .code y cc maxL ret :: gtb) B.pre
  rw [lg_entry_eq]
  exact body p e s m below meth c B.exec B.bytes B.returns hml (findClass_of_methodNamed B.named) (fun w h => hts w (List.mem_cons_of_mem _ h)) B.notSynchronized hP (adr_self hD) va_S.rf (fun q ⟨k, e, h⟩ => hD.2 k _ h) hK _ (lv_entry av hlen)
/-! a world with some of its cells replaced, their addresses the same -/
def updW : va_W → List Nat → va_W → va_W
  | ws, i :: is, x :: xs => updW (ws.set i x) is xs
  | ws, _, _ => ws
theorem updW_at : ∀ (is : List Nat) (w' ws : va_W) (k : Nat) (q : Nat × va_E), is.length = w'.length → (updW ws is w')[k]? = some q → (∃ j : Nat, is[j]? = some k ∧ w'[j]? = some q) ∨ (k ∉ is ∧ ws[k]? = some q)
  | [], [], ws, k, q, _, h => Or.inr ⟨List.not_mem_nil, h⟩
  | [], _ :: _, _, _, _, hl, _ => by simp at hl
  | _ :: _, [], _, _, _, hl, _ => by simp at hl
  | i :: is, x :: xs, ws, k, q, hl, h => by
    rcases updW_at is xs (ws.set i x) k q (by simpa using hl) h with ⟨j, h1, h2⟩ | ⟨h1, h2⟩
    · exact Or.inl ⟨j + 1, h1, h2⟩
    · by_cases hk : k = i
      · subst hk
        have hlt : k < (ws.set k x).length := (List.getElem?_eq_some_iff.mp h2).1
        rw [List.length_set] at hlt
        rw [List.getElem?_set_self hlt] at h2
        exact Or.inl ⟨0, rfl, h2⟩
      · rw [List.getElem?_set_ne (Ne.symm hk)] at h2
        exact Or.inr ⟨fun hm => (List.mem_cons.mp hm).elim hk h1, h2⟩
theorem updW_fst : ∀ (is : List Nat) (w' ws : va_W), is.map (fun i => ws[i]?.map Prod.fst) = w'.map (fun x => some x.1) → (updW ws is w').map Prod.fst = ws.map Prod.fst
  | [], [], _, _ => rfl
  | [], _ :: _, _, _ => rfl
  | _ :: _, [], _, _ => rfl
  | i :: is, x :: xs, ws, h => by
    rw [List.map_cons, List.map_cons] at h
    obtain ⟨h1, h2⟩ := List.cons.inj h
    have e : (ws.set i x).map Prod.fst = ws.map Prod.fst := by
      rw [List.map_set]
      apply List.ext_getElem?
      intro j
      by_cases hj : j = i
      · subst hj
        by_cases hl : j < (ws.map Prod.fst).length
        · rw [List.getElem?_set_self hl, List.getElem?_map]
          exact h1.symm
        · rw [List.getElem?_eq_none (by rw [List.length_set]; omega), List.getElem?_eq_none (by omega)]
      · rw [List.getElem?_set_ne (Ne.symm hj)]
    have h3 : is.map (fun i => (ws.set i x)[i]?.map Prod.fst) = is.map (fun i => (ws.set i x)[i]?.map Prod.fst) := rfl
    have key : ∀ j : Nat, (ws.set i x)[j]?.map Prod.fst = ws[j]?.map Prod.fst := fun j => by
      rw [← List.getElem?_map, ← List.getElem?_map, e]
    show (updW (ws.set i x) is xs).map Prod.fst = _
    rw [updW_fst is xs (ws.set i x) (by rw [← h2]; exact List.map_congr_left (fun j _ => key j))]
    exact e
theorem va_D.fst {A : Nat → Prop} {w w2 : va_W} (h : va_D A w) (e : w2.map Prod.fst = w.map Prod.fst) : va_D A w2 := by
  have key : ∀ (k : Nat) (q : Nat × va_E), w2[k]? = some q → ∃ q0, w[k]? = some q0 ∧ q0.1 = q.1 := by
    intro k q hk
    have h1 : (w2.map Prod.fst)[k]? = some q.1 := by rw [List.getElem?_map, hk]; rfl
    rw [e, List.getElem?_map] at h1
    cases hw : w[k]? with
    | none => rw [hw] at h1; cases h1
    | some q0 => rw [hw] at h1; exact ⟨q0, rfl, Option.some.inj h1⟩
  refine ⟨fun i j x y hi hj hxy => ?_, fun k q hk => ?_⟩
  · obtain ⟨x0, h1, h2⟩ := key i x hi
    obtain ⟨y0, h3, h4⟩ := key j y hj
    exact h.1 i j x0 y0 h1 h3 (h2.trans (hxy.trans h4.symm))
  · obtain ⟨q0, h1, h2⟩ := key k q hk
    rw [← h2]
    exact h.2 k q0 h1
theorem updW_P {D : va_G} {A : Nat → Prop} {ws w w' : va_W} {H H1 : Heap} (hP : va_P D vwCl ws H) (hD : va_D A ws) (is : List Nat) (hC : is.map (fun i => ws[i]?) = w.map some) (hw : w'.map Prod.fst = w.map Prod.fst) (hP1 : va_P D vwCl w' H1) (hk : ∀ q : Nat, q < H.size → ¬ adr w q → H1[q]? = H[q]?) : va_P D vwCl (updW ws is w') H1 := by
  have hlen : is.length = w'.length := by
    have h1 := congrArg List.length hC
    have h2 := congrArg List.length hw
    simp only [List.length_map] at h1 h2
    omega
  intro k q hq
  rcases updW_at is w' ws k q hlen hq with ⟨j, -, h2⟩ | ⟨h1, h2⟩
  · exact hP1 j q h2
  · refine (hP k q h2).kept (hk q.1 (hP k q h2).lt (fun h => ?_))
    obtain ⟨j, e, hj⟩ := h
    have h3 : (is.map (fun i => ws[i]?))[j]? = some (some (q.1, e)) := by rw [hC, List.getElem?_map, hj]; rfl
    rw [List.getElem?_map] at h3
    cases hi : is[j]? with
    | none => rw [hi] at h3; cases h3
    | some i =>
      rw [hi] at h3
      have h4 := hD.1 k i q (q.1, e) h2 (Option.some.inj h3) rfl
      subst h4
      exact h1 (List.mem_of_getElem? hi)
theorem updW_D {A : Nat → Prop} {ws w w' : va_W} (hD : va_D A ws) (is : List Nat) (hC : is.map (fun i => ws[i]?) = w.map some) (hw : w'.map Prod.fst = w.map Prod.fst) : va_D A (updW ws is w') := by
  refine hD.fst (updW_fst is w' ws ?_)
  have h1 : is.map (fun i => ws[i]?.map Prod.fst) = (is.map (fun i => ws[i]?)).map (fun o => o.map Prod.fst) := by rw [List.map_map]; rfl
  rw [h1, hC, List.map_map]
  have h2 : w.map (fun x => some x.1) = (w.map Prod.fst).map some := by rw [List.map_map]; rfl
  have h3 : w'.map (fun x => some x.1) = (w'.map Prod.fst).map some := by rw [List.map_map]; rfl
  rw [h3, hw, ← h2]
  rfl
/-! what a call of a method needs of the tables -/
def miV (y : MethodName) (bytes : ByteArray) (maxL : Nat) (ret : Option FieldType) (n : Nat) : Prop := Cond.code y bytes maxL ret ∈ gtb ∧ Cond.initialized y.cls ∈ gtb ∧ Cond.instanceMethod y ∈ gtb ∧ Cond.selects y.cls y y ∈ gtb ∧ (y.cls ≠ "java/lang/invoke/MethodHandle" ∧ y.cls ≠ "java/lang/invoke/VarHandle" ∧ (parseMethodDescriptor y.desc).map (fun d => d.parameters.length) = some n)
def miS (y : MethodName) (bytes : ByteArray) (maxL : Nat) (ret : Option FieldType) (n : Nat) : Prop := Cond.code y bytes maxL ret ∈ gtb ∧ Cond.initialized y.cls ∈ gtb ∧ Cond.static y ∈ gtb ∧ (y.cls ≠ "java/lang/invoke/MethodHandle" ∧ y.cls ≠ "java/lang/invoke/VarHandle" ∧ (parseMethodDescriptor y.desc).map (fun d => d.parameters.length) = some n)
section OWN
variable {p : Program} {l : Launch} {e : Env} {R : Room} {s : State} {m : MethodId} {args : Array Value} {below : List Frame} {meth : Method} {c : Code} {H : Heap} {locs : List Loc} {cells slots : Nat} {Q : State → Prop}
variable {y : MethodName} {bytes cc : ByteArray} {maxL nL n index pc : Nat} {ret : Option FieldType} {rm : Room} {own host : String} {b : Addr} {As rest st0 : List Value} {ls : Array Slot} {D : va_G} {cy : Nat → ClassId} {z : zT} {w w' ws ws' : va_W} {v : Option Value} {A : Nat → Prop} {H0 : Heap}
theorem cwb (hts : ∀ w ∈ gtb, w.before args s = true) (hc : Cond.code y bytes maxL ret ∈ gtb) (hi : Cond.initialized y.cls ∈ gtb) (hl : Cond.methodLink own index y ∈ gtb) (hd : y.cls ≠ "java/lang/invoke/MethodHandle" ∧ y.cls ≠ "java/lang/invoke/VarHandle" ∧ (parseMethodDescriptor y.desc).map (fun d => d.parameters.length) = some n) (hR : rm.frames + 1 ≤ R.frames ∧ 8 + (maxL + 11) + rm.locals ≤ R.locals) (hrm : rm.cells = 0 ∧ rm.slots = 0) : CallB R s args own index y bytes maxL ret (.code y bytes maxL ret :: gtb) rm 0 0 n :=
  callB_of n hts (gtb_ok hc) rfl hrm.1 hrm.2 (hts _ hi) (hts _ hl) hd hR
theorem cwbN (hts : ∀ w ∈ gtb, w.before args s = true) (hc : Cond.code y bytes maxL ret ∈ gtb) (hi : Cond.initialized y.cls ∈ gtb) (hl : va_Nw (.methodLinkNest own index y host) s) (hd : y.cls ≠ "java/lang/invoke/MethodHandle" ∧ y.cls ≠ "java/lang/invoke/VarHandle" ∧ (parseMethodDescriptor y.desc).map (fun d => d.parameters.length) = some n) (hR : rm.frames + 1 ≤ R.frames ∧ 8 + (maxL + 11) + rm.locals ≤ R.locals) (hrm : rm.cells = 0 ∧ rm.slots = 0) : va_CN R s args own index y host bytes maxL ret (.code y bytes maxL ret :: gtb) rm 0 0 n :=
  va_cnB n hts (gtb_ok hc) rfl hrm.1 hrm.2 hl (hts _ hi) hd hR
theorem kK.at (hKK : kK D cy z s s.heap) (hS : va_S A s.heap H locs) (hA : ∀ q, A q → zA z q) {U : State} (hU : U.heap = H) (hW : s.WarmedH U.vm) : kK D cy z U U.heap := by
  rw [hU]
  exact (hKK.kept (fun a h1 h2 => hS.2.1 a h1 (fun q => h2 (hA a q)))).warm hW
theorem pB_blind : FrameBlind (va_Pc As (pB D cy z w)) := fun a U g mk q => ⟨q.1, q.2.1, kK.same (s := U) (U := U.calling g mk a) rfl q.2.2⟩
theorem mB_blind : FrameBlind (va_Pc As (mB D cy z w)) := fun a U g mk q => ⟨q.1, q.2.1, q.2.2.1, kK.same (s := U) (U := U.calling g mk a) rfl q.2.2.2⟩
theorem pB_at (hP : va_P D vwCl w H) (hKK : kK D cy z s s.heap) (hS : va_S A s.heap H locs) (hA : ∀ q, A q → zA z q) {av : List Value} : ∀ U : State, U.heap = H → s.WarmedH U.vm → va_Pc av (pB D cy z w) av.toArray U := fun U hU hW => ⟨rfl, by rw [hU]; exact hP, hKK.at hS hA hU hW⟩
theorem mB_at (hP : va_P D vwCl w H) (hD : va_D A w) (hKK : kK D cy z s s.heap) (hS : va_S A s.heap H locs) (hA : ∀ q, A q → zA z q) {av : List Value} : ∀ U : State, U.heap = H → s.WarmedH U.vm → va_Pc av (mB D cy z w) av.toArray U := fun U hU hW => ⟨rfl, by rw [hU]; exact hP, hD.weaken (fun _ q _ h => hA q.1 h), hKK.at hS hA hU hW⟩
theorem pGo {a : Array Value} (hr : va_Run p l e R s m args below meth c H locs cells slots 0 0 (F0 m pc ls st0) rest (pQ v a) noF) (kk : W p l e R s m args below meth c H locs cells slots Q (F0 m (pc + 3) ls (v.toList ++ rest))) : W p l e R s m args below meth c H locs cells slots Q (F0 m pc ls st0) := by
  intro T hT X
  obtain ⟨v2, st₀, t, T', L, h0, X', hL, e1, e2, ⟨hv, hh⟩, st⟩ := hr T hT X
  cases hv
  obtain ⟨t2, a1, b1⟩ := kk T' (by rw [e1, hh, h0]) (Stand.forget X' (fun q h => (hL q h).elim))
  exact ⟨t2, st t2 a1, b1⟩
theorem mGo {a : Array Value} (hr : va_Run p l e R s m args below meth c H locs cells slots 0 0 (F0 m pc ls st0) rest (mQ D w w' v a) (adr w)) (hS : va_S A H0 H locs) (hP : va_P D vwCl ws H) (hD : va_D A ws) (is : List Nat) (hC : is.map (fun i => ws[i]?) = w.map some) (hw : w'.map Prod.fst = w.map Prod.fst) (hu : updW ws is w' = ws')
    (kk : ∀ (H1 : Heap) (locs1 : List Loc), va_P D vwCl ws' H1 → va_D A ws' → va_S A H0 H1 locs1 → W p l e R s m args below meth c H1 locs1 cells slots Q (F0 m (pc + 3) ls (v.toList ++ rest))) : W p l e R s m args below meth c H locs cells slots Q (F0 m pc ls st0) := by
  have hsub : ∀ q, adr w q → A q := by
    intro q h
    obtain ⟨j, e, hj⟩ := h
    have h3 : (is.map (fun i => ws[i]?))[j]? = some (some (q, e)) := by rw [hC, List.getElem?_map, hj]; rfl
    rw [List.getElem?_map] at h3
    cases hi : is[j]? with
    | none => rw [hi] at h3; cases h3
    | some i => rw [hi] at h3; exact hD.2 i _ (Option.some.inj h3)
  intro T hT X
  obtain ⟨v2, st₀, t, T', L, h0, X', hL, e1, e2, ⟨hv, hp, hz, hk⟩, st⟩ := hr T hT X
  cases hv
  rw [h0] at hz hk
  subst hu
  obtain ⟨t2, a1, b1⟩ := kk t.heap (locs ++ L) (updW_P hP hD is hC hw hp hk) (updW_D hD is hC hw)
    ⟨Nat.le_trans hS.1 hz, fun q h1 h2 => by rw [hk q (Nat.lt_of_lt_of_le h1 hS.1) (fun z => h2 (hsub q z))]; exact hS.2.1 q h1 h2, fun q hq => by
      rcases List.mem_append.mp hq with h | h
      · exact hS.2.2 q h
      · exact hsub _ (hL q h)⟩ T' e1 X'
  exact ⟨t2, st t2 a1, b1⟩
theorem mGoW {a : Array Value} (hr : va_Run p l e R s m args below meth c H locs cells slots 0 0 (F0 m pc ls st0) rest (mQ D w w' v a) (adr w)) (hS : va_S A H0 H locs) (hD : va_D A w) (hw : w'.map Prod.fst = w.map Prod.fst)
    (kk : ∀ (H1 : Heap) (locs1 : List Loc), va_P D vwCl w' H1 → va_D A w' → va_S A H0 H1 locs1 → W p l e R s m args below meth c H1 locs1 cells slots Q (F0 m (pc + 3) ls (v.toList ++ rest))) : W p l e R s m args below meth c H locs cells slots Q (F0 m pc ls st0) := by
  have hsub : ∀ q, adr w q → A q := fun q ⟨j, e, hj⟩ => hD.2 j _ hj
  intro T hT X
  obtain ⟨v2, st₀, t, T', L, h0, X', hL, e1, e2, ⟨hv, hp, hz, hk⟩, st⟩ := hr T hT X
  cases hv
  rw [h0] at hz hk
  obtain ⟨t2, a1, b1⟩ := kk t.heap (locs ++ L) hp (hD.fst hw)
    ⟨Nat.le_trans hS.1 hz, fun q h1 h2 => by rw [hk q (Nat.lt_of_lt_of_le h1 hS.1) (fun z => h2 (hsub q z))]; exact hS.2.1 q h1 h2, fun q hq => by
      rcases List.mem_append.mp hq with h | h
      · exact hS.2.2 q h
      · exact hsub _ (hL q h)⟩ T' e1 X'
  exact ⟨t2, st t2 a1, b1⟩
/-- a call of an instance method that reads -/
theorem pCallV (S : CallFix p m c cc nL s args gtb own) (hM : pmet l y bytes maxL ret rm D cy z w (.ref b :: As) v) (mi : miV y bytes maxL ret n) (hl : Cond.methodLink own index y ∈ gtb) (hR : rm.frames + 1 ≤ R.frames ∧ 8 + (maxL + 11) + rm.locals ≤ R.locals) (hrm : rm.cells = 0 ∧ rm.slots = 0) (hP : va_P D vwCl w H) (hKK : kK D cy z s s.heap) (hS : va_S A s.heap H locs) (hA : ∀ q, A q → zA z q) (hrecv : ∃ cellB : Cell, H[b]? = some cellB ∧ cellB.vm.isStatics = false ∧ s.vm.findClass y.cls = some cellB.cls)
    (hn : As.length = n) (hsize : ls.size = nL) (hst : st0 = As.reverse ++ .ref b :: rest) (hW : (rest.map fun v => v.category).sum ≤ 8) (hdg : decode cc pc = .ok (.invokevirtual index, 3)) (hf : cells ≤ R.cells ∧ slots ≤ R.slots) (kk : W p l e R s m args below meth c H locs cells slots Q (F0 m (pc + 3) ls (v.toList ++ rest))) : W p l e R s m args below meth c H locs cells slots Q (F0 m pc ls st0) :=
  pGo (va_runV (C := y.cls) S hM ⟨cwb S.2.2.2.2 mi.1 mi.2.1 hl mi.2.2.2.2 hR hrm, S.2.2.2.2 _ mi.2.2.1, S.2.2.2.2 _ mi.2.2.2.1⟩ ⟨pB_blind, hrecv, pB_at hP hKK hS hA⟩ rfl hn hsize hst (lv_room hW) hdg hf) kk
theorem mCallV (S : CallFix p m c cc nL s args gtb own) (hM : mmet l y bytes maxL ret rm D cy z w w' (.ref b :: As) v) (mi : miV y bytes maxL ret n) (hl : Cond.methodLink own index y ∈ gtb) (hR : rm.frames + 1 ≤ R.frames ∧ 8 + (maxL + 11) + rm.locals ≤ R.locals) (hrm : rm.cells = 0 ∧ rm.slots = 0) (hPw : va_P D vwCl w H) (hDw : va_D A w) (hKK : kK D cy z s s.heap) (hA : ∀ q, A q → zA z q) (hrecv : ∃ cellB : Cell, H[b]? = some cellB ∧ cellB.vm.isStatics = false ∧ s.vm.findClass y.cls = some cellB.cls)
    (hn : As.length = n) (hsize : ls.size = nL) (hst : st0 = As.reverse ++ .ref b :: rest) (hW : (rest.map fun v => v.category).sum ≤ 8) (hdg : decode cc pc = .ok (.invokevirtual index, 3)) (hf : cells ≤ R.cells ∧ slots ≤ R.slots) (hS : va_S A s.heap H locs) (hP : va_P D vwCl ws H) (hD : va_D A ws) (is : List Nat) (hC : is.map (fun i => ws[i]?) = w.map some) (hw : w'.map Prod.fst = w.map Prod.fst) (hu : updW ws is w' = ws')
    (kk : ∀ (H1 : Heap) (locs1 : List Loc), va_P D vwCl ws' H1 → va_D A ws' → va_S A s.heap H1 locs1 → W p l e R s m args below meth c H1 locs1 cells slots Q (F0 m (pc + 3) ls (v.toList ++ rest))) : W p l e R s m args below meth c H locs cells slots Q (F0 m pc ls st0) :=
  mGo (va_runV (C := y.cls) S hM ⟨cwb S.2.2.2.2 mi.1 mi.2.1 hl mi.2.2.2.2 hR hrm, S.2.2.2.2 _ mi.2.2.1, S.2.2.2.2 _ mi.2.2.2.1⟩ ⟨mB_blind, hrecv, mB_at hPw hDw hKK hS hA⟩ rfl hn hsize hst (lv_room hW) hdg hf) hS hP hD is hC hw hu kk
theorem pCallS (S : CallFix p m c cc nL s args gtb own) (hM : pmet l y bytes maxL ret rm D cy z w As v) (mi : miS y bytes maxL ret n) (hl : Cond.methodLink own index y ∈ gtb) (hR : rm.frames + 1 ≤ R.frames ∧ 8 + (maxL + 11) + rm.locals ≤ R.locals) (hrm : rm.cells = 0 ∧ rm.slots = 0) (hP : va_P D vwCl w H) (hKK : kK D cy z s s.heap) (hS : va_S A s.heap H locs) (hA : ∀ q, A q → zA z q)
    (hn : As.length = n) (hsize : ls.size = nL) (hst : st0 = As.reverse ++ rest) (hW : (rest.map fun v => v.category).sum ≤ 8) (hdg : decode cc pc = .ok (.invokestatic index, 3)) (hf : cells ≤ R.cells ∧ slots ≤ R.slots) (kk : W p l e R s m args below meth c H locs cells slots Q (F0 m (pc + 3) ls (v.toList ++ rest))) : W p l e R s m args below meth c H locs cells slots Q (F0 m pc ls st0) :=
  pGo (va_runS S hM ⟨cwb S.2.2.2.2 mi.1 mi.2.1 hl mi.2.2.2 hR hrm, S.2.2.2.2 _ mi.2.2.1⟩ ⟨pB_blind, pB_at hP hKK hS hA⟩ rfl hn hsize hst (lv_room hW) hdg hf) kk
theorem mCallS (S : CallFix p m c cc nL s args gtb own) (hM : mmet l y bytes maxL ret rm D cy z w w' As v) (mi : miS y bytes maxL ret n) (hl : Cond.methodLink own index y ∈ gtb) (hR : rm.frames + 1 ≤ R.frames ∧ 8 + (maxL + 11) + rm.locals ≤ R.locals) (hrm : rm.cells = 0 ∧ rm.slots = 0) (hPw : va_P D vwCl w H) (hDw : va_D A w) (hKK : kK D cy z s s.heap) (hA : ∀ q, A q → zA z q)
    (hn : As.length = n) (hsize : ls.size = nL) (hst : st0 = As.reverse ++ rest) (hW : (rest.map fun v => v.category).sum ≤ 8) (hdg : decode cc pc = .ok (.invokestatic index, 3)) (hf : cells ≤ R.cells ∧ slots ≤ R.slots) (hS : va_S A s.heap H locs) (hP : va_P D vwCl ws H) (hD : va_D A ws) (is : List Nat) (hC : is.map (fun i => ws[i]?) = w.map some) (hw : w'.map Prod.fst = w.map Prod.fst) (hu : updW ws is w' = ws')
    (kk : ∀ (H1 : Heap) (locs1 : List Loc), va_P D vwCl ws' H1 → va_D A ws' → va_S A s.heap H1 locs1 → W p l e R s m args below meth c H1 locs1 cells slots Q (F0 m (pc + 3) ls (v.toList ++ rest))) : W p l e R s m args below meth c H locs cells slots Q (F0 m pc ls st0) :=
  mGo (va_runS S hM ⟨cwb S.2.2.2.2 mi.1 mi.2.1 hl mi.2.2.2 hR hrm, S.2.2.2.2 _ mi.2.2.1⟩ ⟨mB_blind, mB_at hPw hDw hKK hS hA⟩ rfl hn hsize hst (lv_room hW) hdg hf) hS hP hD is hC hw hu kk
/-- the same through a nest mate's private link -/
theorem pCallSN (S : CallFix p m c cc nL s args gtb own) (hM : pmet l y bytes maxL ret rm D cy z w As v) (mi : miS y bytes maxL ret n) (hl : va_Nw (.methodLinkNest own index y host) s) (hR : rm.frames + 1 ≤ R.frames ∧ 8 + (maxL + 11) + rm.locals ≤ R.locals) (hrm : rm.cells = 0 ∧ rm.slots = 0) (hP : va_P D vwCl w H) (hKK : kK D cy z s s.heap) (hS : va_S A s.heap H locs) (hA : ∀ q, A q → zA z q)
    (hn : As.length = n) (hsize : ls.size = nL) (hst : st0 = As.reverse ++ rest) (hW : (rest.map fun v => v.category).sum ≤ 8) (hdg : decode cc pc = .ok (.invokestatic index, 3)) (hf : cells ≤ R.cells ∧ slots ≤ R.slots) (kk : W p l e R s m args below meth c H locs cells slots Q (F0 m (pc + 3) ls (v.toList ++ rest))) : W p l e R s m args below meth c H locs cells slots Q (F0 m pc ls st0) :=
  pGo (va_runSN S hM ⟨cwbN S.2.2.2.2 mi.1 mi.2.1 hl mi.2.2.2 hR hrm, S.2.2.2.2 _ mi.2.2.1, trivial⟩ ⟨pB_blind, pB_at hP hKK hS hA⟩ rfl hn hsize hst (lv_room hW) hdg hf) kk
theorem pCallVI {r : Int32} (S : CallFix p m c cc nL s args gtb own) (hM : pmet l y bytes maxL ret rm D cy z w (.ref b :: As) (some (.int r))) (mi : miV y bytes maxL ret n) (hl : Cond.methodLink own index y ∈ gtb) (hR : rm.frames + 1 ≤ R.frames ∧ 8 + (maxL + 11) + rm.locals ≤ R.locals) (hrm : rm.cells = 0 ∧ rm.slots = 0) (hP : va_P D vwCl w H) (hKK : kK D cy z s s.heap) (hS : va_S A s.heap H locs) (hA : ∀ q, A q → zA z q) (hrecv : ∃ cellB : Cell, H[b]? = some cellB ∧ cellB.vm.isStatics = false ∧ s.vm.findClass y.cls = some cellB.cls)
    (hn : As.length = n) (hsize : ls.size = nL) (hst : st0 = As.reverse ++ .ref b :: rest) (hW : (rest.map fun v => v.category).sum ≤ 8) (hdg : decode cc pc = .ok (.invokevirtual index, 3)) (hf : cells ≤ R.cells ∧ slots ≤ R.slots) (kk : W p l e R s m args below meth c H locs cells slots Q (F0 m (pc + 3) ls (.int r :: rest))) : W p l e R s m args below meth c H locs cells slots Q (F0 m pc ls st0) :=
  pCallV (v := (some (.int r))) S hM mi hl hR hrm hP hKK hS hA hrecv hn hsize hst hW hdg hf kk
theorem pCallVL {r : Int64} (S : CallFix p m c cc nL s args gtb own) (hM : pmet l y bytes maxL ret rm D cy z w (.ref b :: As) (some (.long r))) (mi : miV y bytes maxL ret n) (hl : Cond.methodLink own index y ∈ gtb) (hR : rm.frames + 1 ≤ R.frames ∧ 8 + (maxL + 11) + rm.locals ≤ R.locals) (hrm : rm.cells = 0 ∧ rm.slots = 0) (hP : va_P D vwCl w H) (hKK : kK D cy z s s.heap) (hS : va_S A s.heap H locs) (hA : ∀ q, A q → zA z q) (hrecv : ∃ cellB : Cell, H[b]? = some cellB ∧ cellB.vm.isStatics = false ∧ s.vm.findClass y.cls = some cellB.cls)
    (hn : As.length = n) (hsize : ls.size = nL) (hst : st0 = As.reverse ++ .ref b :: rest) (hW : (rest.map fun v => v.category).sum ≤ 8) (hdg : decode cc pc = .ok (.invokevirtual index, 3)) (hf : cells ≤ R.cells ∧ slots ≤ R.slots) (kk : W p l e R s m args below meth c H locs cells slots Q (F0 m (pc + 3) ls (.long r :: rest))) : W p l e R s m args below meth c H locs cells slots Q (F0 m pc ls st0) :=
  pCallV (v := (some (.long r))) S hM mi hl hR hrm hP hKK hS hA hrecv hn hsize hst hW hdg hf kk
theorem pCallVV  (S : CallFix p m c cc nL s args gtb own) (hM : pmet l y bytes maxL ret rm D cy z w (.ref b :: As) none) (mi : miV y bytes maxL ret n) (hl : Cond.methodLink own index y ∈ gtb) (hR : rm.frames + 1 ≤ R.frames ∧ 8 + (maxL + 11) + rm.locals ≤ R.locals) (hrm : rm.cells = 0 ∧ rm.slots = 0) (hP : va_P D vwCl w H) (hKK : kK D cy z s s.heap) (hS : va_S A s.heap H locs) (hA : ∀ q, A q → zA z q) (hrecv : ∃ cellB : Cell, H[b]? = some cellB ∧ cellB.vm.isStatics = false ∧ s.vm.findClass y.cls = some cellB.cls)
    (hn : As.length = n) (hsize : ls.size = nL) (hst : st0 = As.reverse ++ .ref b :: rest) (hW : (rest.map fun v => v.category).sum ≤ 8) (hdg : decode cc pc = .ok (.invokevirtual index, 3)) (hf : cells ≤ R.cells ∧ slots ≤ R.slots) (kk : W p l e R s m args below meth c H locs cells slots Q (F0 m (pc + 3) ls (rest))) : W p l e R s m args below meth c H locs cells slots Q (F0 m pc ls st0) :=
  pCallV (v := none) S hM mi hl hR hrm hP hKK hS hA hrecv hn hsize hst hW hdg hf kk
theorem pCallVR {r : Nat} (S : CallFix p m c cc nL s args gtb own) (hM : pmet l y bytes maxL ret rm D cy z w (.ref b :: As) (some (.ref r))) (mi : miV y bytes maxL ret n) (hl : Cond.methodLink own index y ∈ gtb) (hR : rm.frames + 1 ≤ R.frames ∧ 8 + (maxL + 11) + rm.locals ≤ R.locals) (hrm : rm.cells = 0 ∧ rm.slots = 0) (hP : va_P D vwCl w H) (hKK : kK D cy z s s.heap) (hS : va_S A s.heap H locs) (hA : ∀ q, A q → zA z q) (hrecv : ∃ cellB : Cell, H[b]? = some cellB ∧ cellB.vm.isStatics = false ∧ s.vm.findClass y.cls = some cellB.cls)
    (hn : As.length = n) (hsize : ls.size = nL) (hst : st0 = As.reverse ++ .ref b :: rest) (hW : (rest.map fun v => v.category).sum ≤ 8) (hdg : decode cc pc = .ok (.invokevirtual index, 3)) (hf : cells ≤ R.cells ∧ slots ≤ R.slots) (kk : W p l e R s m args below meth c H locs cells slots Q (F0 m (pc + 3) ls (.ref r :: rest))) : W p l e R s m args below meth c H locs cells slots Q (F0 m pc ls st0) :=
  pCallV (v := (some (.ref r))) S hM mi hl hR hrm hP hKK hS hA hrecv hn hsize hst hW hdg hf kk
theorem mCallVI {r : Int32} (S : CallFix p m c cc nL s args gtb own) (hM : mmet l y bytes maxL ret rm D cy z w w' (.ref b :: As) (some (.int r))) (mi : miV y bytes maxL ret n) (hl : Cond.methodLink own index y ∈ gtb) (hR : rm.frames + 1 ≤ R.frames ∧ 8 + (maxL + 11) + rm.locals ≤ R.locals) (hrm : rm.cells = 0 ∧ rm.slots = 0) (hPw : va_P D vwCl w H) (hDw : va_D A w) (hKK : kK D cy z s s.heap) (hA : ∀ q, A q → zA z q) (hrecv : ∃ cellB : Cell, H[b]? = some cellB ∧ cellB.vm.isStatics = false ∧ s.vm.findClass y.cls = some cellB.cls)
    (hn : As.length = n) (hsize : ls.size = nL) (hst : st0 = As.reverse ++ .ref b :: rest) (hW : (rest.map fun v => v.category).sum ≤ 8) (hdg : decode cc pc = .ok (.invokevirtual index, 3)) (hf : cells ≤ R.cells ∧ slots ≤ R.slots) (hS : va_S A s.heap H locs) (hP : va_P D vwCl ws H) (hD : va_D A ws) (is : List Nat) (hC : is.map (fun i => ws[i]?) = w.map some) (hw : w'.map Prod.fst = w.map Prod.fst) (hu : updW ws is w' = ws')
    (kk : ∀ (H1 : Heap) (locs1 : List Loc), va_P D vwCl ws' H1 → va_D A ws' → va_S A s.heap H1 locs1 → W p l e R s m args below meth c H1 locs1 cells slots Q (F0 m (pc + 3) ls (.int r :: rest))) : W p l e R s m args below meth c H locs cells slots Q (F0 m pc ls st0) :=
  mCallV (v := (some (.int r))) S hM mi hl hR hrm hPw hDw hKK hA hrecv hn hsize hst hW hdg hf hS hP hD is hC hw hu kk
theorem mCallVL {r : Int64} (S : CallFix p m c cc nL s args gtb own) (hM : mmet l y bytes maxL ret rm D cy z w w' (.ref b :: As) (some (.long r))) (mi : miV y bytes maxL ret n) (hl : Cond.methodLink own index y ∈ gtb) (hR : rm.frames + 1 ≤ R.frames ∧ 8 + (maxL + 11) + rm.locals ≤ R.locals) (hrm : rm.cells = 0 ∧ rm.slots = 0) (hPw : va_P D vwCl w H) (hDw : va_D A w) (hKK : kK D cy z s s.heap) (hA : ∀ q, A q → zA z q) (hrecv : ∃ cellB : Cell, H[b]? = some cellB ∧ cellB.vm.isStatics = false ∧ s.vm.findClass y.cls = some cellB.cls)
    (hn : As.length = n) (hsize : ls.size = nL) (hst : st0 = As.reverse ++ .ref b :: rest) (hW : (rest.map fun v => v.category).sum ≤ 8) (hdg : decode cc pc = .ok (.invokevirtual index, 3)) (hf : cells ≤ R.cells ∧ slots ≤ R.slots) (hS : va_S A s.heap H locs) (hP : va_P D vwCl ws H) (hD : va_D A ws) (is : List Nat) (hC : is.map (fun i => ws[i]?) = w.map some) (hw : w'.map Prod.fst = w.map Prod.fst) (hu : updW ws is w' = ws')
    (kk : ∀ (H1 : Heap) (locs1 : List Loc), va_P D vwCl ws' H1 → va_D A ws' → va_S A s.heap H1 locs1 → W p l e R s m args below meth c H1 locs1 cells slots Q (F0 m (pc + 3) ls (.long r :: rest))) : W p l e R s m args below meth c H locs cells slots Q (F0 m pc ls st0) :=
  mCallV (v := (some (.long r))) S hM mi hl hR hrm hPw hDw hKK hA hrecv hn hsize hst hW hdg hf hS hP hD is hC hw hu kk
theorem mCallVV  (S : CallFix p m c cc nL s args gtb own) (hM : mmet l y bytes maxL ret rm D cy z w w' (.ref b :: As) none) (mi : miV y bytes maxL ret n) (hl : Cond.methodLink own index y ∈ gtb) (hR : rm.frames + 1 ≤ R.frames ∧ 8 + (maxL + 11) + rm.locals ≤ R.locals) (hrm : rm.cells = 0 ∧ rm.slots = 0) (hPw : va_P D vwCl w H) (hDw : va_D A w) (hKK : kK D cy z s s.heap) (hA : ∀ q, A q → zA z q) (hrecv : ∃ cellB : Cell, H[b]? = some cellB ∧ cellB.vm.isStatics = false ∧ s.vm.findClass y.cls = some cellB.cls)
    (hn : As.length = n) (hsize : ls.size = nL) (hst : st0 = As.reverse ++ .ref b :: rest) (hW : (rest.map fun v => v.category).sum ≤ 8) (hdg : decode cc pc = .ok (.invokevirtual index, 3)) (hf : cells ≤ R.cells ∧ slots ≤ R.slots) (hS : va_S A s.heap H locs) (hP : va_P D vwCl ws H) (hD : va_D A ws) (is : List Nat) (hC : is.map (fun i => ws[i]?) = w.map some) (hw : w'.map Prod.fst = w.map Prod.fst) (hu : updW ws is w' = ws')
    (kk : ∀ (H1 : Heap) (locs1 : List Loc), va_P D vwCl ws' H1 → va_D A ws' → va_S A s.heap H1 locs1 → W p l e R s m args below meth c H1 locs1 cells slots Q (F0 m (pc + 3) ls (rest))) : W p l e R s m args below meth c H locs cells slots Q (F0 m pc ls st0) :=
  mCallV (v := none) S hM mi hl hR hrm hPw hDw hKK hA hrecv hn hsize hst hW hdg hf hS hP hD is hC hw hu kk
theorem mCallVR {r : Nat} (S : CallFix p m c cc nL s args gtb own) (hM : mmet l y bytes maxL ret rm D cy z w w' (.ref b :: As) (some (.ref r))) (mi : miV y bytes maxL ret n) (hl : Cond.methodLink own index y ∈ gtb) (hR : rm.frames + 1 ≤ R.frames ∧ 8 + (maxL + 11) + rm.locals ≤ R.locals) (hrm : rm.cells = 0 ∧ rm.slots = 0) (hPw : va_P D vwCl w H) (hDw : va_D A w) (hKK : kK D cy z s s.heap) (hA : ∀ q, A q → zA z q) (hrecv : ∃ cellB : Cell, H[b]? = some cellB ∧ cellB.vm.isStatics = false ∧ s.vm.findClass y.cls = some cellB.cls)
    (hn : As.length = n) (hsize : ls.size = nL) (hst : st0 = As.reverse ++ .ref b :: rest) (hW : (rest.map fun v => v.category).sum ≤ 8) (hdg : decode cc pc = .ok (.invokevirtual index, 3)) (hf : cells ≤ R.cells ∧ slots ≤ R.slots) (hS : va_S A s.heap H locs) (hP : va_P D vwCl ws H) (hD : va_D A ws) (is : List Nat) (hC : is.map (fun i => ws[i]?) = w.map some) (hw : w'.map Prod.fst = w.map Prod.fst) (hu : updW ws is w' = ws')
    (kk : ∀ (H1 : Heap) (locs1 : List Loc), va_P D vwCl ws' H1 → va_D A ws' → va_S A s.heap H1 locs1 → W p l e R s m args below meth c H1 locs1 cells slots Q (F0 m (pc + 3) ls (.ref r :: rest))) : W p l e R s m args below meth c H locs cells slots Q (F0 m pc ls st0) :=
  mCallV (v := (some (.ref r))) S hM mi hl hR hrm hPw hDw hKK hA hrecv hn hsize hst hW hdg hf hS hP hD is hC hw hu kk
theorem pCallSI {r : Int32} (S : CallFix p m c cc nL s args gtb own) (hM : pmet l y bytes maxL ret rm D cy z w As (some (.int r))) (mi : miS y bytes maxL ret n) (hl : Cond.methodLink own index y ∈ gtb) (hR : rm.frames + 1 ≤ R.frames ∧ 8 + (maxL + 11) + rm.locals ≤ R.locals) (hrm : rm.cells = 0 ∧ rm.slots = 0) (hP : va_P D vwCl w H) (hKK : kK D cy z s s.heap) (hS : va_S A s.heap H locs) (hA : ∀ q, A q → zA z q)
    (hn : As.length = n) (hsize : ls.size = nL) (hst : st0 = As.reverse ++ rest) (hW : (rest.map fun v => v.category).sum ≤ 8) (hdg : decode cc pc = .ok (.invokestatic index, 3)) (hf : cells ≤ R.cells ∧ slots ≤ R.slots) (kk : W p l e R s m args below meth c H locs cells slots Q (F0 m (pc + 3) ls (.int r :: rest))) : W p l e R s m args below meth c H locs cells slots Q (F0 m pc ls st0) :=
  pCallS (v := (some (.int r))) S hM mi hl hR hrm hP hKK hS hA hn hsize hst hW hdg hf kk
theorem pCallSL {r : Int64} (S : CallFix p m c cc nL s args gtb own) (hM : pmet l y bytes maxL ret rm D cy z w As (some (.long r))) (mi : miS y bytes maxL ret n) (hl : Cond.methodLink own index y ∈ gtb) (hR : rm.frames + 1 ≤ R.frames ∧ 8 + (maxL + 11) + rm.locals ≤ R.locals) (hrm : rm.cells = 0 ∧ rm.slots = 0) (hP : va_P D vwCl w H) (hKK : kK D cy z s s.heap) (hS : va_S A s.heap H locs) (hA : ∀ q, A q → zA z q)
    (hn : As.length = n) (hsize : ls.size = nL) (hst : st0 = As.reverse ++ rest) (hW : (rest.map fun v => v.category).sum ≤ 8) (hdg : decode cc pc = .ok (.invokestatic index, 3)) (hf : cells ≤ R.cells ∧ slots ≤ R.slots) (kk : W p l e R s m args below meth c H locs cells slots Q (F0 m (pc + 3) ls (.long r :: rest))) : W p l e R s m args below meth c H locs cells slots Q (F0 m pc ls st0) :=
  pCallS (v := (some (.long r))) S hM mi hl hR hrm hP hKK hS hA hn hsize hst hW hdg hf kk
theorem pCallSV  (S : CallFix p m c cc nL s args gtb own) (hM : pmet l y bytes maxL ret rm D cy z w As none) (mi : miS y bytes maxL ret n) (hl : Cond.methodLink own index y ∈ gtb) (hR : rm.frames + 1 ≤ R.frames ∧ 8 + (maxL + 11) + rm.locals ≤ R.locals) (hrm : rm.cells = 0 ∧ rm.slots = 0) (hP : va_P D vwCl w H) (hKK : kK D cy z s s.heap) (hS : va_S A s.heap H locs) (hA : ∀ q, A q → zA z q)
    (hn : As.length = n) (hsize : ls.size = nL) (hst : st0 = As.reverse ++ rest) (hW : (rest.map fun v => v.category).sum ≤ 8) (hdg : decode cc pc = .ok (.invokestatic index, 3)) (hf : cells ≤ R.cells ∧ slots ≤ R.slots) (kk : W p l e R s m args below meth c H locs cells slots Q (F0 m (pc + 3) ls (rest))) : W p l e R s m args below meth c H locs cells slots Q (F0 m pc ls st0) :=
  pCallS (v := none) S hM mi hl hR hrm hP hKK hS hA hn hsize hst hW hdg hf kk
theorem pCallSR {r : Nat} (S : CallFix p m c cc nL s args gtb own) (hM : pmet l y bytes maxL ret rm D cy z w As (some (.ref r))) (mi : miS y bytes maxL ret n) (hl : Cond.methodLink own index y ∈ gtb) (hR : rm.frames + 1 ≤ R.frames ∧ 8 + (maxL + 11) + rm.locals ≤ R.locals) (hrm : rm.cells = 0 ∧ rm.slots = 0) (hP : va_P D vwCl w H) (hKK : kK D cy z s s.heap) (hS : va_S A s.heap H locs) (hA : ∀ q, A q → zA z q)
    (hn : As.length = n) (hsize : ls.size = nL) (hst : st0 = As.reverse ++ rest) (hW : (rest.map fun v => v.category).sum ≤ 8) (hdg : decode cc pc = .ok (.invokestatic index, 3)) (hf : cells ≤ R.cells ∧ slots ≤ R.slots) (kk : W p l e R s m args below meth c H locs cells slots Q (F0 m (pc + 3) ls (.ref r :: rest))) : W p l e R s m args below meth c H locs cells slots Q (F0 m pc ls st0) :=
  pCallS (v := (some (.ref r))) S hM mi hl hR hrm hP hKK hS hA hn hsize hst hW hdg hf kk
theorem mCallSI {r : Int32} (S : CallFix p m c cc nL s args gtb own) (hM : mmet l y bytes maxL ret rm D cy z w w' As (some (.int r))) (mi : miS y bytes maxL ret n) (hl : Cond.methodLink own index y ∈ gtb) (hR : rm.frames + 1 ≤ R.frames ∧ 8 + (maxL + 11) + rm.locals ≤ R.locals) (hrm : rm.cells = 0 ∧ rm.slots = 0) (hPw : va_P D vwCl w H) (hDw : va_D A w) (hKK : kK D cy z s s.heap) (hA : ∀ q, A q → zA z q)
    (hn : As.length = n) (hsize : ls.size = nL) (hst : st0 = As.reverse ++ rest) (hW : (rest.map fun v => v.category).sum ≤ 8) (hdg : decode cc pc = .ok (.invokestatic index, 3)) (hf : cells ≤ R.cells ∧ slots ≤ R.slots) (hS : va_S A s.heap H locs) (hP : va_P D vwCl ws H) (hD : va_D A ws) (is : List Nat) (hC : is.map (fun i => ws[i]?) = w.map some) (hw : w'.map Prod.fst = w.map Prod.fst) (hu : updW ws is w' = ws')
    (kk : ∀ (H1 : Heap) (locs1 : List Loc), va_P D vwCl ws' H1 → va_D A ws' → va_S A s.heap H1 locs1 → W p l e R s m args below meth c H1 locs1 cells slots Q (F0 m (pc + 3) ls (.int r :: rest))) : W p l e R s m args below meth c H locs cells slots Q (F0 m pc ls st0) :=
  mCallS (v := (some (.int r))) S hM mi hl hR hrm hPw hDw hKK hA hn hsize hst hW hdg hf hS hP hD is hC hw hu kk
theorem mCallSL {r : Int64} (S : CallFix p m c cc nL s args gtb own) (hM : mmet l y bytes maxL ret rm D cy z w w' As (some (.long r))) (mi : miS y bytes maxL ret n) (hl : Cond.methodLink own index y ∈ gtb) (hR : rm.frames + 1 ≤ R.frames ∧ 8 + (maxL + 11) + rm.locals ≤ R.locals) (hrm : rm.cells = 0 ∧ rm.slots = 0) (hPw : va_P D vwCl w H) (hDw : va_D A w) (hKK : kK D cy z s s.heap) (hA : ∀ q, A q → zA z q)
    (hn : As.length = n) (hsize : ls.size = nL) (hst : st0 = As.reverse ++ rest) (hW : (rest.map fun v => v.category).sum ≤ 8) (hdg : decode cc pc = .ok (.invokestatic index, 3)) (hf : cells ≤ R.cells ∧ slots ≤ R.slots) (hS : va_S A s.heap H locs) (hP : va_P D vwCl ws H) (hD : va_D A ws) (is : List Nat) (hC : is.map (fun i => ws[i]?) = w.map some) (hw : w'.map Prod.fst = w.map Prod.fst) (hu : updW ws is w' = ws')
    (kk : ∀ (H1 : Heap) (locs1 : List Loc), va_P D vwCl ws' H1 → va_D A ws' → va_S A s.heap H1 locs1 → W p l e R s m args below meth c H1 locs1 cells slots Q (F0 m (pc + 3) ls (.long r :: rest))) : W p l e R s m args below meth c H locs cells slots Q (F0 m pc ls st0) :=
  mCallS (v := (some (.long r))) S hM mi hl hR hrm hPw hDw hKK hA hn hsize hst hW hdg hf hS hP hD is hC hw hu kk
theorem mCallSV  (S : CallFix p m c cc nL s args gtb own) (hM : mmet l y bytes maxL ret rm D cy z w w' As none) (mi : miS y bytes maxL ret n) (hl : Cond.methodLink own index y ∈ gtb) (hR : rm.frames + 1 ≤ R.frames ∧ 8 + (maxL + 11) + rm.locals ≤ R.locals) (hrm : rm.cells = 0 ∧ rm.slots = 0) (hPw : va_P D vwCl w H) (hDw : va_D A w) (hKK : kK D cy z s s.heap) (hA : ∀ q, A q → zA z q)
    (hn : As.length = n) (hsize : ls.size = nL) (hst : st0 = As.reverse ++ rest) (hW : (rest.map fun v => v.category).sum ≤ 8) (hdg : decode cc pc = .ok (.invokestatic index, 3)) (hf : cells ≤ R.cells ∧ slots ≤ R.slots) (hS : va_S A s.heap H locs) (hP : va_P D vwCl ws H) (hD : va_D A ws) (is : List Nat) (hC : is.map (fun i => ws[i]?) = w.map some) (hw : w'.map Prod.fst = w.map Prod.fst) (hu : updW ws is w' = ws')
    (kk : ∀ (H1 : Heap) (locs1 : List Loc), va_P D vwCl ws' H1 → va_D A ws' → va_S A s.heap H1 locs1 → W p l e R s m args below meth c H1 locs1 cells slots Q (F0 m (pc + 3) ls (rest))) : W p l e R s m args below meth c H locs cells slots Q (F0 m pc ls st0) :=
  mCallS (v := none) S hM mi hl hR hrm hPw hDw hKK hA hn hsize hst hW hdg hf hS hP hD is hC hw hu kk
theorem mCallSR {r : Nat} (S : CallFix p m c cc nL s args gtb own) (hM : mmet l y bytes maxL ret rm D cy z w w' As (some (.ref r))) (mi : miS y bytes maxL ret n) (hl : Cond.methodLink own index y ∈ gtb) (hR : rm.frames + 1 ≤ R.frames ∧ 8 + (maxL + 11) + rm.locals ≤ R.locals) (hrm : rm.cells = 0 ∧ rm.slots = 0) (hPw : va_P D vwCl w H) (hDw : va_D A w) (hKK : kK D cy z s s.heap) (hA : ∀ q, A q → zA z q)
    (hn : As.length = n) (hsize : ls.size = nL) (hst : st0 = As.reverse ++ rest) (hW : (rest.map fun v => v.category).sum ≤ 8) (hdg : decode cc pc = .ok (.invokestatic index, 3)) (hf : cells ≤ R.cells ∧ slots ≤ R.slots) (hS : va_S A s.heap H locs) (hP : va_P D vwCl ws H) (hD : va_D A ws) (is : List Nat) (hC : is.map (fun i => ws[i]?) = w.map some) (hw : w'.map Prod.fst = w.map Prod.fst) (hu : updW ws is w' = ws')
    (kk : ∀ (H1 : Heap) (locs1 : List Loc), va_P D vwCl ws' H1 → va_D A ws' → va_S A s.heap H1 locs1 → W p l e R s m args below meth c H1 locs1 cells slots Q (F0 m (pc + 3) ls (.ref r :: rest))) : W p l e R s m args below meth c H locs cells slots Q (F0 m pc ls st0) :=
  mCallS (v := (some (.ref r))) S hM mi hl hR hrm hPw hDw hKK hA hn hsize hst hW hdg hf hS hP hD is hC hw hu kk
theorem pCallSNI {r : Int32} (S : CallFix p m c cc nL s args gtb own) (hM : pmet l y bytes maxL ret rm D cy z w As (some (.int r))) (mi : miS y bytes maxL ret n) (hl : va_Nw (.methodLinkNest own index y host) s) (hR : rm.frames + 1 ≤ R.frames ∧ 8 + (maxL + 11) + rm.locals ≤ R.locals) (hrm : rm.cells = 0 ∧ rm.slots = 0) (hP : va_P D vwCl w H) (hKK : kK D cy z s s.heap) (hS : va_S A s.heap H locs) (hA : ∀ q, A q → zA z q)
    (hn : As.length = n) (hsize : ls.size = nL) (hst : st0 = As.reverse ++ rest) (hW : (rest.map fun v => v.category).sum ≤ 8) (hdg : decode cc pc = .ok (.invokestatic index, 3)) (hf : cells ≤ R.cells ∧ slots ≤ R.slots) (kk : W p l e R s m args below meth c H locs cells slots Q (F0 m (pc + 3) ls (.int r :: rest))) : W p l e R s m args below meth c H locs cells slots Q (F0 m pc ls st0) :=
  pCallSN (v := (some (.int r))) S hM mi hl hR hrm hP hKK hS hA hn hsize hst hW hdg hf kk
theorem pCallSNL {r : Int64} (S : CallFix p m c cc nL s args gtb own) (hM : pmet l y bytes maxL ret rm D cy z w As (some (.long r))) (mi : miS y bytes maxL ret n) (hl : va_Nw (.methodLinkNest own index y host) s) (hR : rm.frames + 1 ≤ R.frames ∧ 8 + (maxL + 11) + rm.locals ≤ R.locals) (hrm : rm.cells = 0 ∧ rm.slots = 0) (hP : va_P D vwCl w H) (hKK : kK D cy z s s.heap) (hS : va_S A s.heap H locs) (hA : ∀ q, A q → zA z q)
    (hn : As.length = n) (hsize : ls.size = nL) (hst : st0 = As.reverse ++ rest) (hW : (rest.map fun v => v.category).sum ≤ 8) (hdg : decode cc pc = .ok (.invokestatic index, 3)) (hf : cells ≤ R.cells ∧ slots ≤ R.slots) (kk : W p l e R s m args below meth c H locs cells slots Q (F0 m (pc + 3) ls (.long r :: rest))) : W p l e R s m args below meth c H locs cells slots Q (F0 m pc ls st0) :=
  pCallSN (v := (some (.long r))) S hM mi hl hR hrm hP hKK hS hA hn hsize hst hW hdg hf kk
theorem pCallSNV  (S : CallFix p m c cc nL s args gtb own) (hM : pmet l y bytes maxL ret rm D cy z w As none) (mi : miS y bytes maxL ret n) (hl : va_Nw (.methodLinkNest own index y host) s) (hR : rm.frames + 1 ≤ R.frames ∧ 8 + (maxL + 11) + rm.locals ≤ R.locals) (hrm : rm.cells = 0 ∧ rm.slots = 0) (hP : va_P D vwCl w H) (hKK : kK D cy z s s.heap) (hS : va_S A s.heap H locs) (hA : ∀ q, A q → zA z q)
    (hn : As.length = n) (hsize : ls.size = nL) (hst : st0 = As.reverse ++ rest) (hW : (rest.map fun v => v.category).sum ≤ 8) (hdg : decode cc pc = .ok (.invokestatic index, 3)) (hf : cells ≤ R.cells ∧ slots ≤ R.slots) (kk : W p l e R s m args below meth c H locs cells slots Q (F0 m (pc + 3) ls (rest))) : W p l e R s m args below meth c H locs cells slots Q (F0 m pc ls st0) :=
  pCallSN (v := none) S hM mi hl hR hrm hP hKK hS hA hn hsize hst hW hdg hf kk
theorem pCallSNR {r : Nat} (S : CallFix p m c cc nL s args gtb own) (hM : pmet l y bytes maxL ret rm D cy z w As (some (.ref r))) (mi : miS y bytes maxL ret n) (hl : va_Nw (.methodLinkNest own index y host) s) (hR : rm.frames + 1 ≤ R.frames ∧ 8 + (maxL + 11) + rm.locals ≤ R.locals) (hrm : rm.cells = 0 ∧ rm.slots = 0) (hP : va_P D vwCl w H) (hKK : kK D cy z s s.heap) (hS : va_S A s.heap H locs) (hA : ∀ q, A q → zA z q)
    (hn : As.length = n) (hsize : ls.size = nL) (hst : st0 = As.reverse ++ rest) (hW : (rest.map fun v => v.category).sum ≤ 8) (hdg : decode cc pc = .ok (.invokestatic index, 3)) (hf : cells ≤ R.cells ∧ slots ≤ R.slots) (kk : W p l e R s m args below meth c H locs cells slots Q (F0 m (pc + 3) ls (.ref r :: rest))) : W p l e R s m args below meth c H locs cells slots Q (F0 m pc ls st0) :=
  pCallSN (v := (some (.ref r))) S hM mi hl hR hrm hP hKK hS hA hn hsize hst hW hdg hf kk
theorem mCallWV (S : CallFix p m c cc nL s args gtb own) (hM : mmet l y bytes maxL ret rm D cy z w w' (.ref b :: As) v) (mi : miV y bytes maxL ret n) (hl : Cond.methodLink own index y ∈ gtb) (hR : rm.frames + 1 ≤ R.frames ∧ 8 + (maxL + 11) + rm.locals ≤ R.locals) (hrm : rm.cells = 0 ∧ rm.slots = 0) (hPw : va_P D vwCl w H) (hDw : va_D A w) (hKK : kK D cy z s s.heap) (hA : ∀ q, A q → zA z q) (hrecv : ∃ cellB : Cell, H[b]? = some cellB ∧ cellB.vm.isStatics = false ∧ s.vm.findClass y.cls = some cellB.cls)
    (hn : As.length = n) (hsize : ls.size = nL) (hst : st0 = As.reverse ++ .ref b :: rest) (hW : (rest.map fun v => v.category).sum ≤ 8) (hdg : decode cc pc = .ok (.invokevirtual index, 3)) (hf : cells ≤ R.cells ∧ slots ≤ R.slots) (hS : va_S A s.heap H locs) (hw : w'.map Prod.fst = w.map Prod.fst)
    (kk : ∀ (H1 : Heap) (locs1 : List Loc), va_P D vwCl w' H1 → va_D A w' → va_S A s.heap H1 locs1 → W p l e R s m args below meth c H1 locs1 cells slots Q (F0 m (pc + 3) ls (v.toList ++ rest))) : W p l e R s m args below meth c H locs cells slots Q (F0 m pc ls st0) :=
  mGoW (va_runV (C := y.cls) S hM ⟨cwb S.2.2.2.2 mi.1 mi.2.1 hl mi.2.2.2.2 hR hrm, S.2.2.2.2 _ mi.2.2.1, S.2.2.2.2 _ mi.2.2.2.1⟩ ⟨mB_blind, hrecv, mB_at hPw hDw hKK hS hA⟩ rfl hn hsize hst (lv_room hW) hdg hf) hS hDw hw kk
theorem mCallWVI {r : Int32} (S : CallFix p m c cc nL s args gtb own) (hM : mmet l y bytes maxL ret rm D cy z w w' (.ref b :: As) (some (.int r))) (mi : miV y bytes maxL ret n) (hl : Cond.methodLink own index y ∈ gtb) (hR : rm.frames + 1 ≤ R.frames ∧ 8 + (maxL + 11) + rm.locals ≤ R.locals) (hrm : rm.cells = 0 ∧ rm.slots = 0) (hPw : va_P D vwCl w H) (hDw : va_D A w) (hKK : kK D cy z s s.heap) (hA : ∀ q, A q → zA z q) (hrecv : ∃ cellB : Cell, H[b]? = some cellB ∧ cellB.vm.isStatics = false ∧ s.vm.findClass y.cls = some cellB.cls)
    (hn : As.length = n) (hsize : ls.size = nL) (hst : st0 = As.reverse ++ .ref b :: rest) (hW : (rest.map fun v => v.category).sum ≤ 8) (hdg : decode cc pc = .ok (.invokevirtual index, 3)) (hf : cells ≤ R.cells ∧ slots ≤ R.slots) (hS : va_S A s.heap H locs) (hw : w'.map Prod.fst = w.map Prod.fst)
    (kk : ∀ (H1 : Heap) (locs1 : List Loc), va_P D vwCl w' H1 → va_D A w' → va_S A s.heap H1 locs1 → W p l e R s m args below meth c H1 locs1 cells slots Q (F0 m (pc + 3) ls (.int r :: rest))) : W p l e R s m args below meth c H locs cells slots Q (F0 m pc ls st0) :=
  mCallWV (v := (some (.int r))) S hM mi hl hR hrm hPw hDw hKK hA hrecv hn hsize hst hW hdg hf hS hw kk
theorem mCallWVL {r : Int64} (S : CallFix p m c cc nL s args gtb own) (hM : mmet l y bytes maxL ret rm D cy z w w' (.ref b :: As) (some (.long r))) (mi : miV y bytes maxL ret n) (hl : Cond.methodLink own index y ∈ gtb) (hR : rm.frames + 1 ≤ R.frames ∧ 8 + (maxL + 11) + rm.locals ≤ R.locals) (hrm : rm.cells = 0 ∧ rm.slots = 0) (hPw : va_P D vwCl w H) (hDw : va_D A w) (hKK : kK D cy z s s.heap) (hA : ∀ q, A q → zA z q) (hrecv : ∃ cellB : Cell, H[b]? = some cellB ∧ cellB.vm.isStatics = false ∧ s.vm.findClass y.cls = some cellB.cls)
    (hn : As.length = n) (hsize : ls.size = nL) (hst : st0 = As.reverse ++ .ref b :: rest) (hW : (rest.map fun v => v.category).sum ≤ 8) (hdg : decode cc pc = .ok (.invokevirtual index, 3)) (hf : cells ≤ R.cells ∧ slots ≤ R.slots) (hS : va_S A s.heap H locs) (hw : w'.map Prod.fst = w.map Prod.fst)
    (kk : ∀ (H1 : Heap) (locs1 : List Loc), va_P D vwCl w' H1 → va_D A w' → va_S A s.heap H1 locs1 → W p l e R s m args below meth c H1 locs1 cells slots Q (F0 m (pc + 3) ls (.long r :: rest))) : W p l e R s m args below meth c H locs cells slots Q (F0 m pc ls st0) :=
  mCallWV (v := (some (.long r))) S hM mi hl hR hrm hPw hDw hKK hA hrecv hn hsize hst hW hdg hf hS hw kk
theorem mCallWVV  (S : CallFix p m c cc nL s args gtb own) (hM : mmet l y bytes maxL ret rm D cy z w w' (.ref b :: As) none) (mi : miV y bytes maxL ret n) (hl : Cond.methodLink own index y ∈ gtb) (hR : rm.frames + 1 ≤ R.frames ∧ 8 + (maxL + 11) + rm.locals ≤ R.locals) (hrm : rm.cells = 0 ∧ rm.slots = 0) (hPw : va_P D vwCl w H) (hDw : va_D A w) (hKK : kK D cy z s s.heap) (hA : ∀ q, A q → zA z q) (hrecv : ∃ cellB : Cell, H[b]? = some cellB ∧ cellB.vm.isStatics = false ∧ s.vm.findClass y.cls = some cellB.cls)
    (hn : As.length = n) (hsize : ls.size = nL) (hst : st0 = As.reverse ++ .ref b :: rest) (hW : (rest.map fun v => v.category).sum ≤ 8) (hdg : decode cc pc = .ok (.invokevirtual index, 3)) (hf : cells ≤ R.cells ∧ slots ≤ R.slots) (hS : va_S A s.heap H locs) (hw : w'.map Prod.fst = w.map Prod.fst)
    (kk : ∀ (H1 : Heap) (locs1 : List Loc), va_P D vwCl w' H1 → va_D A w' → va_S A s.heap H1 locs1 → W p l e R s m args below meth c H1 locs1 cells slots Q (F0 m (pc + 3) ls (rest))) : W p l e R s m args below meth c H locs cells slots Q (F0 m pc ls st0) :=
  mCallWV (v := none) S hM mi hl hR hrm hPw hDw hKK hA hrecv hn hsize hst hW hdg hf hS hw kk
theorem mCallWS (S : CallFix p m c cc nL s args gtb own) (hM : mmet l y bytes maxL ret rm D cy z w w' As v) (mi : miS y bytes maxL ret n) (hl : Cond.methodLink own index y ∈ gtb) (hR : rm.frames + 1 ≤ R.frames ∧ 8 + (maxL + 11) + rm.locals ≤ R.locals) (hrm : rm.cells = 0 ∧ rm.slots = 0) (hPw : va_P D vwCl w H) (hDw : va_D A w) (hKK : kK D cy z s s.heap) (hA : ∀ q, A q → zA z q)
    (hn : As.length = n) (hsize : ls.size = nL) (hst : st0 = As.reverse ++ rest) (hW : (rest.map fun v => v.category).sum ≤ 8) (hdg : decode cc pc = .ok (.invokestatic index, 3)) (hf : cells ≤ R.cells ∧ slots ≤ R.slots) (hS : va_S A s.heap H locs) (hw : w'.map Prod.fst = w.map Prod.fst)
    (kk : ∀ (H1 : Heap) (locs1 : List Loc), va_P D vwCl w' H1 → va_D A w' → va_S A s.heap H1 locs1 → W p l e R s m args below meth c H1 locs1 cells slots Q (F0 m (pc + 3) ls (v.toList ++ rest))) : W p l e R s m args below meth c H locs cells slots Q (F0 m pc ls st0) :=
  mGoW (va_runS S hM ⟨cwb S.2.2.2.2 mi.1 mi.2.1 hl mi.2.2.2 hR hrm, S.2.2.2.2 _ mi.2.2.1⟩ ⟨mB_blind, mB_at hPw hDw hKK hS hA⟩ rfl hn hsize hst (lv_room hW) hdg hf) hS hDw hw kk
theorem mCallWSI {r : Int32} (S : CallFix p m c cc nL s args gtb own) (hM : mmet l y bytes maxL ret rm D cy z w w' As (some (.int r))) (mi : miS y bytes maxL ret n) (hl : Cond.methodLink own index y ∈ gtb) (hR : rm.frames + 1 ≤ R.frames ∧ 8 + (maxL + 11) + rm.locals ≤ R.locals) (hrm : rm.cells = 0 ∧ rm.slots = 0) (hPw : va_P D vwCl w H) (hDw : va_D A w) (hKK : kK D cy z s s.heap) (hA : ∀ q, A q → zA z q)
    (hn : As.length = n) (hsize : ls.size = nL) (hst : st0 = As.reverse ++ rest) (hW : (rest.map fun v => v.category).sum ≤ 8) (hdg : decode cc pc = .ok (.invokestatic index, 3)) (hf : cells ≤ R.cells ∧ slots ≤ R.slots) (hS : va_S A s.heap H locs) (hw : w'.map Prod.fst = w.map Prod.fst)
    (kk : ∀ (H1 : Heap) (locs1 : List Loc), va_P D vwCl w' H1 → va_D A w' → va_S A s.heap H1 locs1 → W p l e R s m args below meth c H1 locs1 cells slots Q (F0 m (pc + 3) ls (.int r :: rest))) : W p l e R s m args below meth c H locs cells slots Q (F0 m pc ls st0) :=
  mCallWS (v := (some (.int r))) S hM mi hl hR hrm hPw hDw hKK hA hn hsize hst hW hdg hf hS hw kk
theorem mCallWSL {r : Int64} (S : CallFix p m c cc nL s args gtb own) (hM : mmet l y bytes maxL ret rm D cy z w w' As (some (.long r))) (mi : miS y bytes maxL ret n) (hl : Cond.methodLink own index y ∈ gtb) (hR : rm.frames + 1 ≤ R.frames ∧ 8 + (maxL + 11) + rm.locals ≤ R.locals) (hrm : rm.cells = 0 ∧ rm.slots = 0) (hPw : va_P D vwCl w H) (hDw : va_D A w) (hKK : kK D cy z s s.heap) (hA : ∀ q, A q → zA z q)
    (hn : As.length = n) (hsize : ls.size = nL) (hst : st0 = As.reverse ++ rest) (hW : (rest.map fun v => v.category).sum ≤ 8) (hdg : decode cc pc = .ok (.invokestatic index, 3)) (hf : cells ≤ R.cells ∧ slots ≤ R.slots) (hS : va_S A s.heap H locs) (hw : w'.map Prod.fst = w.map Prod.fst)
    (kk : ∀ (H1 : Heap) (locs1 : List Loc), va_P D vwCl w' H1 → va_D A w' → va_S A s.heap H1 locs1 → W p l e R s m args below meth c H1 locs1 cells slots Q (F0 m (pc + 3) ls (.long r :: rest))) : W p l e R s m args below meth c H locs cells slots Q (F0 m pc ls st0) :=
  mCallWS (v := (some (.long r))) S hM mi hl hR hrm hPw hDw hKK hA hn hsize hst hW hdg hf hS hw kk
theorem mCallWSV  (S : CallFix p m c cc nL s args gtb own) (hM : mmet l y bytes maxL ret rm D cy z w w' As none) (mi : miS y bytes maxL ret n) (hl : Cond.methodLink own index y ∈ gtb) (hR : rm.frames + 1 ≤ R.frames ∧ 8 + (maxL + 11) + rm.locals ≤ R.locals) (hrm : rm.cells = 0 ∧ rm.slots = 0) (hPw : va_P D vwCl w H) (hDw : va_D A w) (hKK : kK D cy z s s.heap) (hA : ∀ q, A q → zA z q)
    (hn : As.length = n) (hsize : ls.size = nL) (hst : st0 = As.reverse ++ rest) (hW : (rest.map fun v => v.category).sum ≤ 8) (hdg : decode cc pc = .ok (.invokestatic index, 3)) (hf : cells ≤ R.cells ∧ slots ≤ R.slots) (hS : va_S A s.heap H locs) (hw : w'.map Prod.fst = w.map Prod.fst)
    (kk : ∀ (H1 : Heap) (locs1 : List Loc), va_P D vwCl w' H1 → va_D A w' → va_S A s.heap H1 locs1 → W p l e R s m args below meth c H1 locs1 cells slots Q (F0 m (pc + 3) ls (rest))) : W p l e R s m args below meth c H locs cells slots Q (F0 m pc ls st0) :=
  mCallWS (v := none) S hM mi hl hR hrm hPw hDw hKK hA hn hsize hst hW hdg hf hS hw kk
/-! returns -/
theorem pretI {v r : Int32} (hexec : p.tables.exec = Jvm.exec) (hb : c.code = cc) (hr : meth.sig.returnType = some .int) (hlk : meth.locks = false) (hf : some v = some r) (hdg : decode cc pc = .ok (.ireturn, 1)) : W p l e R s m args below meth c s.heap [] 0 0 (MQ below (pQ (some (.int r))) args s 0 0 noF) (F0 m pc ls [.int v]) := by
  cases hf
  exact W.iret hexec hb hr (fun t ht _ => ⟨rfl, ht⟩) (fun q h => by cases h) hdg hlk
theorem pretZ {v r : Int32} (hexec : p.tables.exec = Jvm.exec) (hb : c.code = cc) (hr : meth.sig.returnType = some .boolean) (hlk : meth.locks = false) (hn : zb v = true) (hf : some v = some r) (hdg : decode cc pc = .ok (.ireturn, 1)) : W p l e R s m args below meth c s.heap [] 0 0 (MQ below (pQ (some (.int r))) args s 0 0 noF) (F0 m pc ls [.int v]) := by
  cases hf
  exact W.zret hexec hb hr (zb_n hn) (fun t ht _ => ⟨rfl, ht⟩) (fun q h => by cases h) hdg hlk
theorem pretB {v r : Int32} (hexec : p.tables.exec = Jvm.exec) (hb : c.code = cc) (hr : meth.sig.returnType = some .byte) (hlk : meth.locks = false) (hn : narrow .byte (.int v) = .int v) (hf : some v = some r) (hdg : decode cc pc = .ok (.ireturn, 1)) : W p l e R s m args below meth c s.heap [] 0 0 (MQ below (pQ (some (.int r))) args s 0 0 noF) (F0 m pc ls [.int v]) := by
  cases hf
  exact W.zret hexec hb hr hn (fun t ht _ => ⟨rfl, ht⟩) (fun q h => by cases h) hdg hlk
theorem pretL {v r : Int64} (hexec : p.tables.exec = Jvm.exec) (hb : c.code = cc) (hr : meth.sig.returnType = some .long) (hlk : meth.locks = false) (hf : some v = some r) (hdg : decode cc pc = .ok (.lreturn, 1)) : W p l e R s m args below meth c s.heap [] 0 0 (MQ below (pQ (some (.long r))) args s 0 0 noF) (F0 m pc ls [.long v]) := by
  cases hf
  exact W.lret hexec hb hr (fun t ht _ => ⟨rfl, ht⟩) (fun q h => by cases h) hdg hlk
theorem pretR {v r : Nat} {cn : String} (hexec : p.tables.exec = Jvm.exec) (hb : c.code = cc) (hr : meth.sig.returnType = some (.object cn)) (hlk : meth.locks = false) (hf : some v = some r) (hdg : decode cc pc = .ok (.areturn, 1)) : W p l e R s m args below meth c s.heap [] 0 0 (MQ below (pQ (some (.ref r))) args s 0 0 noF) (F0 m pc ls [.ref v]) := by
  cases hf
  exact W.aret hexec hb hr (Or.inl ⟨_, rfl⟩) (Or.inr ⟨_, rfl⟩) (fun t ht _ => ⟨rfl, ht⟩) (fun q h => by cases h) hdg hlk
theorem mretI {v : Int32} (hexec : p.tables.exec = Jvm.exec) (hb : c.code = cc) (hr : meth.sig.returnType = some .int) (hlk : meth.locks = false) (hP : va_P D vwCl w' H) (hS : va_S (adr w) s.heap H locs) (hdg : decode cc pc = .ok (.ireturn, 1)) : W p l e R s m args below meth c H locs 0 0 (MQ below (mQ D w w' (some (.int v))) args s 0 0 (adr w)) (F0 m pc ls [.int v]) :=
  W.iret hexec hb hr (fun t ht _ => ⟨rfl, by rw [ht]; exact hP, hS.F ht⟩) hS.2.2 hdg hlk
theorem mretZ {v : Int32} (hexec : p.tables.exec = Jvm.exec) (hb : c.code = cc) (hr : meth.sig.returnType = some .boolean) (hlk : meth.locks = false) (hn : zb v = true) (hP : va_P D vwCl w' H) (hS : va_S (adr w) s.heap H locs) (hdg : decode cc pc = .ok (.ireturn, 1)) : W p l e R s m args below meth c H locs 0 0 (MQ below (mQ D w w' (some (.int v))) args s 0 0 (adr w)) (F0 m pc ls [.int v]) :=
  W.zret hexec hb hr (zb_n hn) (fun t ht _ => ⟨rfl, by rw [ht]; exact hP, hS.F ht⟩) hS.2.2 hdg hlk
theorem mretL {v : Int64} (hexec : p.tables.exec = Jvm.exec) (hb : c.code = cc) (hr : meth.sig.returnType = some .long) (hlk : meth.locks = false) (hP : va_P D vwCl w' H) (hS : va_S (adr w) s.heap H locs) (hdg : decode cc pc = .ok (.lreturn, 1)) : W p l e R s m args below meth c H locs 0 0 (MQ below (mQ D w w' (some (.long v))) args s 0 0 (adr w)) (F0 m pc ls [.long v]) :=
  W.lret hexec hb hr (fun t ht _ => ⟨rfl, by rw [ht]; exact hP, hS.F ht⟩) hS.2.2 hdg hlk
theorem mretV (hexec : p.tables.exec = Jvm.exec) (hb : c.code = cc) (hr : meth.sig.returnType = none) (hlk : meth.locks = false) (hP : va_P D vwCl w' H) (hS : va_S (adr w) s.heap H locs) (hdg : decode cc pc = .ok (.return_, 1)) : W p l e R s m args below meth c H locs 0 0 (MQ below (mQ D w w' none) args s 0 0 (adr w)) (F0 m pc ls []) :=
  W.vret hexec hb hr (fun t ht _ => ⟨rfl, by rw [ht]; exact hP, hS.F ht⟩) hS.2.2 hdg hlk
/-! naming, switches -/
theorem nm_i {β : Type} {x : Int32} {k : Int32 → Option β} {r : β} (hf : nm x k = some r) (kk : ∀ z : Int32, k z = some r → W p l e R s m args below meth c H locs cells slots Q (F0 m pc ls (.int z :: rest))) : W p l e R s m args below meth c H locs cells slots Q (F0 m pc ls (.int x :: rest)) := kk x hf
theorem nm_l {β : Type} {x : Int64} {k : Int64 → Option β} {r : β} (hf : nm x k = some r) (kk : ∀ z : Int64, k z = some r → W p l e R s m args below meth c H locs cells slots Q (F0 m pc ls (.long z :: rest))) : W p l e R s m args below meth c H locs cells slots Q (F0 m pc ls (.long x :: rest)) := kk x hf
theorem sw_hit (hexec : p.tables.exec = Jvm.exec) (hb : c.code = cc) {dflt lo hi : Int} {offs : Array Int} {len : Nat} {x k : Int32} {off : Int} {tgt : Nat} (hdg : decode cc pc = .ok (.tableswitch dflt lo hi offs, len)) (h : x = k) (h1 : ¬ k.toInt < lo) (h2 : ¬ hi < k.toInt) (ho : offs[(k.toInt - lo).toNat]? = some off) (ht : (pc : Int) + off = (tgt : Int))
    (kk : W p l e R s m args below meth c H locs cells slots Q (F0 m tgt ls rest)) : W p l e R s m args below meth c H locs cells slots Q (F0 m pc ls (.int x :: rest)) := by
  subst h
  exact lv_tableIn hexec hb hdg h1 h2 ho ht kk
end OWN
