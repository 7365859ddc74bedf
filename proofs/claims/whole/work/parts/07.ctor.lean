/-! Constructors: the object is there with its default fields; behind it a world that it is part of; all other cells of that world are new. -/
def cPre (D : va_G) (cy : Nat → ClassId) (z : zT) (h0 sz ci : Nat) (fs0 : List Value) (U : State) : Prop := U.heap.size = sz ∧ va_P D vwCl [(h0, .inr (ci, fs0))] U.heap ∧ zA z h0 ∧ kK D cy z U U.heap
def cQ (D : va_G) (h0 sz ci : Nat) (fs0 : List Value) (B : va_W → Prop) : Array Value → State → Outcome → State → Prop := fun _ st oc t => oc = .returned none ∧ (∃ w' : va_W, B w' ∧ va_P D vwCl w' t.heap ∧ va_D (va_A [(h0, .inr (ci, fs0))] sz) w') ∧ va_F (va_A [(h0, .inr (ci, fs0))] sz) st t
def cmet (l : Launch) (y : MethodName) (cc : ByteArray) (maxL : Nat) (rm : Room) (D : va_G) (cy : Nat → ClassId) (z : zT) (h0 sz ci : Nat) (fs0 : List Value) (B : va_W → Prop) (mc ms : Nat) : Prop :=
  Met l y (.code y cc maxL none :: gtb) rm (va_Pc [.ref h0] (cPre D cy z h0 sz ci fs0)) (cQ D h0 sz ci fs0 B) mc ms (va_A [(h0, .inr (ci, fs0))] sz)
theorem va_RA.find {U : State} {cA : ClassId} {ty : FieldType} (h : va_RA U cA ty) : U.vm.findClass ("[" ++ ty.toString) = some cA := by
  cases ty with
  | object C =>
    obtain ⟨_, _, _, _, _, h⟩ := h
    exact h
  | _ => exact h
theorem cmet_of {l : Launch} {y : MethodName} {cc : ByteArray} {maxL : Nat} {rm : Room} {D : va_G} {cy : Nat → ClassId} {z : zT} {h0 sz ci mc ms : Nat} {fs0 : List Value} {B : va_W → Prop} (hy : plainName y.cls = true) (hyn : y.name = "<init>") (hlen : 1 ≤ maxL)
    (body : ∀ (p : Program) (e : Env) (s : State) (m : MethodId) (below : List Frame) (meth : Method) (c : Code), p.tables.exec = Jvm.exec → c.code = cc → meth.sig.returnType = none → c.maxLocals = maxL → s.vm.findClass y.cls = some m.cls → (∀ w ∈ gtb, w.before ([.ref h0] : List Value).toArray s = true) → meth.locks = false → meth.name = "<init>" → va_P D vwCl [(h0, .inr (ci, fs0))] s.heap → va_D (va_A [(h0, .inr (ci, fs0))] sz) [(h0, .inr (ci, fs0))] → va_S (va_A [(h0, .inr (ci, fs0))] sz) s.heap s.heap [] → (∀ q, s.heap.size ≤ q → va_A [(h0, .inr (ci, fs0))] sz q) → (∀ q, va_A [(h0, .inr (ci, fs0))] sz q → zA z q) → kK D cy z s s.heap → ∀ ls : Array Slot, lv_has ls maxL [(0, .ref h0)] →
      W p l e rm s m ([.ref h0] : List Value).toArray below meth c s.heap [] 0 0 (MQ below (cQ D h0 sz ci fs0 B) ([.ref h0] : List Value).toArray s mc ms (va_A [(h0, .inr (ci, fs0))] sz)) (F0 m 0 ls [])) : cmet l y cc maxL rm D cy z h0 sz ci fs0 B mc ms := by
  refine Met.ofW (cc := cc) (maxL := maxL) (ret := none) hy rfl ?_
  intro p e s m args below meth c s₁ B0 hml hv
  obtain ⟨rfl, hsz, hP, hz, hK⟩ := hv
  have hts := atoms_spec (ws := .code y cc maxL none :: gtb) B0.pre
  rw [lg_entry_eq]
  have hlt : h0 < s.heap.size := (hP 0 _ rfl).lt
  have hD : va_D (fun _ => True) [(h0, (.inr (ci, fs0) : va_E))] := ⟨fun i j p q hi hj _ => by
    have h1 := (List.getElem?_eq_some_iff.mp hi).1
    have h2 := (List.getElem?_eq_some_iff.mp hj).1
    simp only [List.length_singleton] at h1 h2
    omega, fun _ _ _ => trivial⟩
  subst hsz
  exact body p e s m below meth c B0.exec B0.bytes B0.returns hml (findClass_of_methodNamed B0.named) (fun w h => hts w (List.mem_cons_of_mem _ h)) B0.notSynchronized ((name_of_methodNamed B0.named B0.method).1.trans hyn) hP hD.self va_S.rf (fun q h => Or.inr h) (fun q h => by
    rcases h with ⟨k, e, h⟩ | h
    · have h1 := (List.getElem?_eq_some_iff.mp h).1
      simp only [List.length_singleton] at h1
      have hk : k = 0 := by omega
      subst hk
      cases h
      exact hz
    · exact Nat.le_trans hz (Nat.le_trans (Nat.le_of_lt hlt) h)) hK _ (lv_entry [.ref h0] hlen)
section CTOR
variable {p : Program} {l : Launch} {e : Env} {R : Room} {s : State} {m : MethodId} {args : Array Value} {below : List Frame} {meth : Method} {c : Code} {H : Heap} {locs : List Loc} {cells slots : Nat} {Q : State → Prop}
variable {y : MethodName} {bytes cc : ByteArray} {maxL nL index pc : Nat} {rm : Room} {own host : String} {rest : List Value} {ls : Array Slot} {D : va_G} {cy : Nat → ClassId} {z : zT} {w wr ws : va_W} {A : Nat → Prop} {b ci mc ms : Nat} {fs0 : List Value} {B : va_W → Prop}
/-- a new array of a class that the tables have -/
theorem newC (hexec : p.tables.exec = Jvm.exec) (hb : c.code = cc) {atype : ArrayType} {ty : FieldType} (harr : (Cond.arrayClass (newarray.typeOf atype)).before args s = true) (hty : newarray.typeOf atype = ty) (hKK : kK D cy z s s.heap) (t0 : Nat) (ht : (tyL cy)[t0]? = some (cy t0, ty)) (hP : va_P D vwCl ws H) (hD : va_D A ws) (hS : va_S A s.heap H locs) (hA : ∀ q, s.heap.size ≤ q → A q)
    {n : Int32} {N' : Nat} {a0 : vp_A} (ha : ∀ cA : ClassId, vp_cell cA a0 = arrV cA N' (fun _ => defaultValue ty)) (hn : ¬ n < 0) (hN : n.toNatClampNeg = N') (hbytes : N' * componentBytes ty ≤ 536870912) (hcells : cells + 1 ≤ R.cells) (hslots : slots + N' ≤ R.slots) (hdg : decode cc pc = .ok (.newarray atype, 2))
    (kk : ∀ (q : Nat) (H1 : Heap), va_P D vwCl (ws ++ [(q, .inl (cy t0, a0))]) H1 → va_D A (ws ++ [(q, .inl (cy t0, a0))]) → va_S A s.heap H1 locs → W p l e R s m args below meth c H1 locs (cells + 1) (slots + N') Q (F0 m (pc + 2) ls (.ref q :: rest))) : W p l e R s m args below meth c H locs cells slots Q (F0 m pc ls (.int n :: rest)) := by
  refine va_newa hexec hb harr hty hKK.1 hP hD hS hA ha hn hN hbytes hcells hslots hdg (fun q cA H1 hK1 hP1 hD1 hS1 => ?_)
  have h1 := (hK1.2 4 (cA, ty) rfl).2.find
  have h2 := (hKK.1.2 t0 _ ht).2.find
  have h3 : cA = cy t0 := Option.some.inj (h1.symm.trans h2)
  subst h3
  exact kk q H1 hP1 hD1 hS1
/-- a return from a constructor -/
theorem cret {h0 sz : Nat} {w' : va_W} (hexec : p.tables.exec = Jvm.exec) (hb : c.code = cc) (hr : meth.sig.returnType = none) (hlk : meth.locks = false) (hB : B w') (hP : va_P D vwCl w' H) (hD : va_D (va_A [(h0, .inr (ci, fs0))] sz) w') (hS : va_S (va_A [(h0, .inr (ci, fs0))] sz) s.heap H locs) (hdg : decode cc pc = .ok (.return_, 1)) : W p l e R s m args below meth c H locs mc ms (MQ below (cQ D h0 sz ci fs0 B) args s mc ms (va_A [(h0, .inr (ci, fs0))] sz)) (F0 m pc ls []) :=
  W.vret hexec hb hr (fun t ht _ => ⟨rfl, ⟨w', hB, by rw [ht]; exact hP, hD⟩, hS.F ht⟩) hS.2.2 hdg hlk
theorem cGo {a : Array Value} (hr : va_Run p l e R s m args below meth c H locs cells slots mc ms (F0 m pc ls (.ref b :: rest)) rest (cQ D b H.size ci fs0 B a) (va_A [(b, .inr (ci, fs0))] H.size)) (hP : va_P D vwCl (wr ++ [(b, .inr (ci, fs0))]) H) (hD : va_D A (wr ++ [(b, .inr (ci, fs0))])) (hS : va_S A s.heap H locs) (hA : ∀ q, s.heap.size ≤ q → A q)
    (kk : ∀ (w1 : va_W) (H1 : Heap) (locs1 : List Loc), B w1 → va_P D vwCl (wr ++ w1) H1 → va_D A (wr ++ w1) → va_S A s.heap H1 locs1 → W p l e R s m args below meth c H1 locs1 (cells + mc) (slots + ms) Q (F0 m (pc + 3) ls rest)) : W p l e R s m args below meth c H locs cells slots Q (F0 m pc ls (.ref b :: rest)) := by
  have hlast : (wr ++ [(b, (.inr (ci, fs0) : va_E))])[wr.length]? = some (b, .inr (ci, fs0)) := by simp
  have hone : ∀ q, va_A [(b, .inr (ci, fs0))] H.size q → q = b ∨ H.size ≤ q := by
    intro q h
    rcases h with ⟨k, e, h⟩ | h
    · have h1 := (List.getElem?_eq_some_iff.mp h).1
      simp only [List.length_singleton] at h1
      have hk : k = 0 := by omega
      subst hk
      cases h
      exact Or.inl rfl
    · exact Or.inr h
  have hF : ∀ q, va_A [(b, .inr (ci, fs0))] H.size q → A q := by
    intro q h
    rcases hone q h with rfl | h
    · exact hD.2 _ _ hlast
    · exact hA q (Nat.le_trans hS.1 h)
  have hwr : ∀ (k : Nat) (q : Nat × va_E), wr[k]? = some q → (wr ++ [(b, (.inr (ci, fs0) : va_E))])[k]? = some q ∧ k < wr.length := fun k q hk => by
    have hl := (List.getElem?_eq_some_iff.mp hk).1
    exact ⟨by rw [List.getElem?_append_left hl]; exact hk, hl⟩
  have apart : ∀ (k : Nat) (q : Nat × va_E), wr[k]? = some q → q.1 < H.size ∧ ¬ va_A [(b, .inr (ci, fs0))] H.size q.1 := by
    intro k q hk
    obtain ⟨h1, h2⟩ := hwr k q hk
    have hl := (hP k q h1).lt
    refine ⟨hl, fun h => ?_⟩
    rcases hone _ h with h | h
    · have := hD.1 k wr.length q _ h1 hlast h
      omega
    · omega
  intro T hT X
  obtain ⟨v2, st₀, t, T', L, h0, X', hL, e1, e2, ⟨hv, ⟨w1, hB, hP1, hD1⟩, hz, hk⟩, st⟩ := hr T hT X
  cases hv
  rw [h0] at hz hk
  have hDwr : va_D A wr := ⟨fun i j p q hi hj hpq => hD.1 i j p q (hwr i p hi).1 (hwr j q hj).1 hpq, fun k q hk => hD.2 k q (hwr k q hk).1⟩
  obtain ⟨t2, a1, b1⟩ := kk w1 t.heap (locs ++ L) hB
    (va_P.app (fun k q hq => (hP k q (hwr k q hq).1).kept (hk q.1 (apart k q hq).1 (apart k q hq).2)) hP1)
    (va_D.app hDwr (hD1.weaken (fun k q _ h => hF q.1 h)) (fun i j x y hx hy hxy => (apart i x hx).2 (by rw [hxy]; exact hD1.2 j y hy)))
    ⟨Nat.le_trans hS.1 hz, fun q h1 h2 => by rw [hk q (Nat.lt_of_lt_of_le h1 hS.1) (fun z => h2 (hF q z))]; exact hS.2.1 q h1 h2, fun q hq => by
      rcases List.mem_append.mp hq with h | h
      · exact hS.2.2 q h
      · exact hF _ (hL q h)⟩ T' e1 X'
  exact ⟨t2, st t2 a1, b1⟩
theorem cP_blind {h0 sz : Nat} {As : List Value} : FrameBlind (va_Pc As (cPre D cy z h0 sz ci fs0)) := fun a U g mk q => ⟨q.1, q.2.1, q.2.2.1, q.2.2.2.1, kK.same (s := U) (U := U.calling g mk a) rfl q.2.2.2.2⟩
def miI (y : MethodName) (bytes : ByteArray) (maxL : Nat) : Prop := Cond.code y bytes maxL none ∈ gtb ∧ Cond.initialized y.cls ∈ gtb ∧ Cond.instanceMethod y ∈ gtb ∧ y.name = "<init>" ∧ (y.cls ≠ "java/lang/invoke/MethodHandle" ∧ y.cls ≠ "java/lang/invoke/VarHandle" ∧ (parseMethodDescriptor y.desc).map (fun d => d.parameters.length) = some 0)
theorem cP_at (hP : va_P D vwCl (wr ++ [(b, .inr (ci, fs0))]) H) (hD : va_D A (wr ++ [(b, .inr (ci, fs0))])) (hS : va_S A s.heap H locs) (hA0 : ∀ q, A q → zA z q) (hKK : kK D cy z s s.heap) : ∀ U : State, U.heap = H → s.WarmedH U.vm → va_Pc [.ref b] (cPre D cy z b H.size ci fs0) ([.ref b] : List Value).toArray U := by
  intro U hU hW
  have hlast : (wr ++ [(b, (.inr (ci, fs0) : va_E))])[wr.length]? = some (b, .inr (ci, fs0)) := by simp
  refine ⟨rfl, by rw [hU], ?_, hA0 _ (hD.2 _ _ hlast), hKK.at hS hA0 hU hW⟩
  rw [hU]
  intro k q hk
  have h1 := (List.getElem?_eq_some_iff.mp hk).1
  simp only [List.length_singleton] at h1
  have hk0 : k = 0 := by omega
  subst hk0
  cases hk
  exact hP _ _ hlast
theorem cCallI (S : CallFix p m c cc nL s args gtb own) (hM : cmet l y bytes maxL rm D cy z b H.size ci fs0 B mc ms) (mi : miI y bytes maxL) (hl : Cond.methodLink own index y ∈ gtb) (hR : rm.frames + 1 ≤ R.frames ∧ 8 + (maxL + 11) + rm.locals ≤ R.locals) (hrm : rm.cells = mc ∧ rm.slots = ms) (hP : va_P D vwCl (wr ++ [(b, .inr (ci, fs0))]) H) (hD : va_D A (wr ++ [(b, .inr (ci, fs0))])) (hS : va_S A s.heap H locs) (hA : ∀ q, s.heap.size ≤ q → A q) (hA0 : ∀ q, A q → zA z q) (hKK : kK D cy z s s.heap) (hsize : ls.size = nL) (hW : (rest.map fun v => v.category).sum ≤ 8) (hdg : decode cc pc = .ok (.invokespecial index, 3)) (hf : cells + mc ≤ R.cells ∧ slots + ms ≤ R.slots)
    (kk : ∀ (w1 : va_W) (H1 : Heap) (locs1 : List Loc), B w1 → va_P D vwCl (wr ++ w1) H1 → va_D A (wr ++ w1) → va_S A s.heap H1 locs1 → W p l e R s m args below meth c H1 locs1 (cells + mc) (slots + ms) Q (F0 m (pc + 3) ls rest)) : W p l e R s m args below meth c H locs cells slots Q (F0 m pc ls (.ref b :: rest)) :=
  cGo (va_runI (As := []) S hM ⟨callB_of 0 S.2.2.2.2 (gtb_ok mi.1) rfl hrm.1 hrm.2 (S.2.2.2.2 _ mi.2.1) (S.2.2.2.2 _ hl) mi.2.2.2.2 hR, mi.2.2.2.1, S.2.2.2.2 _ mi.2.2.1⟩ ⟨cP_blind, cP_at hP hD hS hA0 hKK⟩ rfl rfl hsize rfl (lv_room hW) hdg hf) hP hD hS hA kk
theorem cCallIN (S : CallFix p m c cc nL s args gtb own) (hM : cmet l y bytes maxL rm D cy z b H.size ci fs0 B mc ms) (mi : miI y bytes maxL) (hl : va_Nw (.methodLinkNest own index y host) s) (hR : rm.frames + 1 ≤ R.frames ∧ 8 + (maxL + 11) + rm.locals ≤ R.locals) (hrm : rm.cells = mc ∧ rm.slots = ms) (hP : va_P D vwCl (wr ++ [(b, .inr (ci, fs0))]) H) (hD : va_D A (wr ++ [(b, .inr (ci, fs0))])) (hS : va_S A s.heap H locs) (hA : ∀ q, s.heap.size ≤ q → A q) (hA0 : ∀ q, A q → zA z q) (hKK : kK D cy z s s.heap) (hsize : ls.size = nL) (hW : (rest.map fun v => v.category).sum ≤ 8) (hdg : decode cc pc = .ok (.invokespecial index, 3)) (hf : cells + mc ≤ R.cells ∧ slots + ms ≤ R.slots)
    (kk : ∀ (w1 : va_W) (H1 : Heap) (locs1 : List Loc), B w1 → va_P D vwCl (wr ++ w1) H1 → va_D A (wr ++ w1) → va_S A s.heap H1 locs1 → W p l e R s m args below meth c H1 locs1 (cells + mc) (slots + ms) Q (F0 m (pc + 3) ls rest)) : W p l e R s m args below meth c H locs cells slots Q (F0 m pc ls (.ref b :: rest)) :=
  cGo (va_runIN (As := []) S hM ⟨va_cnB 0 S.2.2.2.2 (gtb_ok mi.1) rfl hrm.1 hrm.2 hl (S.2.2.2.2 _ mi.2.1) mi.2.2.2.2 hR, mi.2.2.2.1, S.2.2.2.2 _ mi.2.2.1⟩ ⟨cP_blind, cP_at hP hD hS hA0 hKK⟩ rfl rfl hsize rfl (lv_room hW) hdg hf) hP hD hS hA kk
end CTOR
