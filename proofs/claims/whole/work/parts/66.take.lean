/-! The reference takes a letter. -/
def setX (M : tM) (nw nh fl sg ph : Int32) (row flg : tA) : tM := ((M.1.1, M.1.2.1, M.1.2.2.1, M.1.2.2.2.1, M.1.2.2.2.2.1, M.1.2.2.2.2.2.1, M.1.2.2.2.2.2.2.1, nw, nh, fl, sg, ph), M.2.1, M.2.2.1, M.2.2.2.1, M.2.2.2.2.1, M.2.2.2.2.2.1, M.2.2.2.2.2.2.1, M.2.2.2.2.2.2.2.1, M.2.2.2.2.2.2.2.2.1, row, flg, M.2.2.2.2.2.2.2.2.2.2.2.1, M.2.2.2.2.2.2.2.2.2.2.2.2)
def dg (v : Nat) : Int32 := if 48 ≤ v ∧ v ≤ 57 then nI (v - 48) else -9
theorem in_dig {v : Nat} (hv : v ≤ 255) : fX5_in (nI v).toInt64 (48 : Int64) (57 : Int64) = some (if 48 ≤ v ∧ v ≤ 57 then 1 else 0) := by
  rw [show (48 : Int64) = (nI 48).toInt64 from rfl, show (57 : Int64) = (nI 57).toInt64 from rfl, in_eq]
  by_cases h : 48 ≤ v ∧ v ≤ 57
  · rw [if_pos h, if_pos ⟨nI_le h.1 (by omega), nI_le h.2 (by omega)⟩]
  · rw [if_neg h]
    by_cases h1 : 48 ≤ v
    · rw [if_neg (fun q => nI_ge (a := 57) (b := v) (by omega) (by omega) q.2)]
    · rw [if_neg (fun q => nI_ge (a := v) (b := 48) (by omega) (by omega) q.1)]
theorem sub48 {v : Nat} (h : 48 ≤ v) : nI v - 48 = nI (v - 48) := by
  rw [show (48 : Int32) = nI 48 from rfl, pk_sub h]
theorem tl_0 (M : tM) {v : Nat} (hv : v ≤ 255) : fX5_takeLetter M (nI 0) (nI v) = some (bI (decide (v = 71)), M) := by
  rw [fX5_takeLetter, in_dig hv, some_bind]
  have e : ∀ A B : Option (Int32 × tM), (if nI v = (71 : Int32) then A else B) = if v = 71 then A else B := fun A B => ifn (by omega) (by decide) rfl rfl A B
  simp only [e]
  by_cases h : 48 ≤ v ∧ v ≤ 57
  · rw [if_pos h, if_neg one_ne, nm_eq, if_pos (by rfl), if_neg (by omega), decide_eq_false (by omega)]
    rfl
  · rw [if_neg h, if_pos rfl, if_pos (by rfl)]
    by_cases h7 : v = 71
    · rw [if_pos h7, decide_eq_true h7]
      rfl
    · rw [if_neg h7, decide_eq_false h7]
      rfl
theorem tl_cell (M : tM) {W H i p v : Nat} (hp : 3 ≤ p) (hp2 : p < 1000) (hv : v ≤ 255) (hi : i < W * H) (hW : W * H ≤ 36) (sg ph : Int32) (row flg : tA) : fX5_takeLetter (setX M (nI W) (nI H) (nI i) sg ph row flg) (nI p) (nI v) = some (bI (decide (48 ≤ v ∧ v ≤ 57)), setX M (nI W) (nI H) (nI (i + 1)) sg ph (upd row i (dg v)) flg) := by
  have n0 : ¬ nI p = 0 := nI_ne0 (by omega) (by omega)
  have n1 : ¬ nI p = (1 : Int32) := fun q => by have := (nI_eq (b := 1) (by omega) (by decide)).mp q; omega
  have n2 : ¬ nI p = (2 : Int32) := fun q => by have := (nI_eq (b := 2) (by omega) (by decide)).mp q; omega
  have hc : ¬ nI W * nI H ≤ nI i := by rw [pk_mul]; exact nI_ge hi (by omega)
  unfold dg
  rw [fX5_takeLetter, in_dig hv, some_bind]
  by_cases h : 48 ≤ v ∧ v ≤ 57
  · rw [if_pos h, if_neg one_ne, nm_eq, if_neg n0, if_neg n1, if_neg n2, show (setX M (nI W) (nI H) (nI i) sg ph row flg).1.2.2.2.2.2.2.2.1 = nI W from rfl, show (setX M (nI W) (nI H) (nI i) sg ph row flg).1.2.2.2.2.2.2.2.2.1 = nI H from rfl, show (setX M (nI W) (nI H) (nI i) sg ph row flg).1.2.2.2.2.2.2.2.2.2.1 = nI i from rfl, if_neg hc, gd_inb (by omega) (by decide), nm_eq, nI_add1, toN (by omega), sub48 h.1, if_neg (nI_pos (by omega)), if_pos h, decide_eq_true h]
    rfl
  · rw [if_neg h, if_pos rfl, if_neg n0, if_neg n1, if_neg n2, show (setX M (nI W) (nI H) (nI i) sg ph row flg).1.2.2.2.2.2.2.2.1 = nI W from rfl, show (setX M (nI W) (nI H) (nI i) sg ph row flg).1.2.2.2.2.2.2.2.2.1 = nI H from rfl, show (setX M (nI W) (nI H) (nI i) sg ph row flg).1.2.2.2.2.2.2.2.2.2.1 = nI i from rfl, if_neg hc, gd_inb (by omega) (by decide), nm_eq, nI_add1, toN (by omega), if_neg h, decide_eq_false h]
    rfl
