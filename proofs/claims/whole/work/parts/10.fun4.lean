def fX5_in (u1 : Int64) (u2 : Int64) (u3 : Int64) : Option (Int32) :=
  if (lg_cmp u1 u2) < 0 then some (0 : Int32) else if 0 < (lg_cmp u1 u3) then some (0 : Int32) else some (1 : Int32)

def fX5_has (u1 : Int64) (u2 : Int32) : Option (Int32) :=
  if (lg_cmp ((u1 >>> (u2.toInt64 &&& 63)) &&& (1 : Int64)) (1 : Int64)) = 0 then some (1 : Int32) else some (0 : Int32)

def fX5_ones_4 (g0_4 : Int64) (k32 : Int32 → Option (Int32)) : Nat → Int32 → Int32 → Option (Int32)
  | 0, _, _ => none
  | n + 1, v2_4, v3_4 => if (36 : Int32) ≤ v3_4 then k32 v2_4 else (fX5_has g0_4 v3_4).bind fun r2 => if r2 = 0 then nm ((v2_4 + (0 : Int32))) fun x3 => nm (v3_4 + (1 : Int32)) fun x4 => fX5_ones_4 g0_4 k32 n x3 x4 else nm ((v2_4 + (1 : Int32))) fun x5 => nm (v3_4 + (1 : Int32)) fun x6 => fX5_ones_4 g0_4 k32 n x5 x6
def fX5_ones (u1 : Int64) : Option (Int32) :=
  fX5_ones_4 u1 (fun y7 => some y7) 100000 (0 : Int32) (0 : Int32)

def fX5_power_4 (g0_4 : Int32) (g1_4 : Int32) (k19 : Int32 → Option (Int32)) : Nat → Int32 → Int32 → Option (Int32)
  | 0, _, _ => none
  | n + 1, v2_4, v3_4 => if g1_4 ≤ v3_4 then k19 v2_4 else nm ((v2_4 * g0_4)) fun x1 => nm (v3_4 + (1 : Int32)) fun x2 => fX5_power_4 g0_4 g1_4 k19 n x1 x2
def fX5_power (u1 : Int32) (u2 : Int32) : Option (Int32) :=
  fX5_power_4 u1 u2 (fun y3 => some y3) 100000 (1 : Int32) (0 : Int32)

def fX5_factorial_4 (g0_4 : Int32) (k19 : Int32 → Option (Int32)) : Nat → Int32 → Int32 → Option (Int32)
  | 0, _, _ => none
  | n + 1, v1_4, v2_4 => if g0_4 < v2_4 then k19 v1_4 else nm ((v1_4 * v2_4)) fun x1 => nm (v2_4 + (1 : Int32)) fun x2 => fX5_factorial_4 g0_4 k19 n x1 x2
def fX5_factorial (u1 : Int32) : Option (Int32) :=
  fX5_factorial_4 u1 (fun y3 => some y3) 100000 (1 : Int32) (2 : Int32)

def fX5_fraction_14 (g0_14 : Int32) (g1_14 : Int32) (g2_14 : Int32) (k35 : Int32 → Option (Int32)) : Nat → Int32 → Int32 → Option (Int32)
  | 0, _, _ => none
  | n + 1, v3_14, v4_14 => if v4_14 = 0 then k35 v3_14 else gd (nz v4_14) (nm ((v3_14 - v3_14 / v4_14 * v4_14)) fun x2 => fX5_fraction_14 g0_14 g1_14 g2_14 k35 n v4_14 x2)
def fX5_fraction (u1 : Int32) (u2 : Int32) (u3 : Int32) : Option (Int32) :=
  if 0 ≤ u1 then fX5_fraction_14 u1 u2 u3 (fun y3 => if u3 = 0 then gd (nz y3) (some (u2 / y3)) else gd (nz y3) (some (u1 / y3))) 100000 u1 u2 else nm ((-u1)) fun x6 => fX5_fraction_14 u1 u2 u3 (fun y7 => if u3 = 0 then gd (nz y7) (some (u2 / y7)) else gd (nz y7) (some (u1 / y7))) 100000 x6 u2

def fX5_settingOf (u1 : Int32) : Option (Int32) :=
  if u1 = (101 : Int32) then some (0 : Int32) else if u1 = (109 : Int32) then some (1 : Int32) else if u1 = (98 : Int32) then some (2 : Int32) else if u1 = (115 : Int32) then some (3 : Int32) else some (-9 : Int32)

def fX5_size (u1 : Int32) : Option (Int32) :=
  if 0 ≤ u1 then some u1 else some (-u1)

def fX5_nearest (u1 : Int32) (u2 : Int32) (u3 : Int32) : Option (Int32) :=
  if u1 < 0 then gd (nz u2) (nm ((-((((-u1) + u2) - (1 : Int32)) / u2))) fun x2 => nm (((2 : Int32) * (u1 - (x2 * u2)))) fun x3 => if u2 < x3 then some (x2 + (1 : Int32)) else if x3 = u2 then if u3 = 0 then some x2 else some (x2 + (1 : Int32)) else some x2) else gd (nz u2) (nm ((u1 / u2)) fun x5 => nm (((2 : Int32) * (u1 - (x5 * u2)))) fun x6 => if u2 < x6 then some (x5 + (1 : Int32)) else if x6 = u2 then if u3 = 0 then some x5 else some (x5 + (1 : Int32)) else some x5)

def fX5_maySet (u1 : Int32) (u2 : Int32) : Option (Int32) :=
  (fX5_in u1.toInt64 (0 : Int64) (3 : Int64)).bind fun r2 => if r2 = 0 then some (0 : Int32) else if u1 = (3 : Int32) then (fX5_in u2.toInt64 (1 : Int64) (9 : Int64)).bind fun r6 => if r6 = 0 then some (0 : Int32) else some (1 : Int32) else (fX5_in u2.toInt64 (0 : Int64) (9 : Int64)).bind fun r4 => if r4 = 0 then some (0 : Int32) else some (1 : Int32)

def fX5_hundredThousands_4 (g0_4 : Int32) (k21 : Int64 → Option (Int64)) : Nat → Int64 → Int32 → Option (Int64)
  | 0, _, _ => none
  | n + 1, v1_4, v3_4 => if g0_4 ≤ v3_4 then k21 v1_4 else nm ((v1_4 * (100000 : Int64))) fun x1 => nm (v3_4 + (1 : Int32)) fun x2 => fX5_hundredThousands_4 g0_4 k21 n x1 x2
def fX5_hundredThousands (u1 : Int32) : Option (Int64) :=
  fX5_hundredThousands_4 u1 (fun y3 => some y3) 100000 (1 : Int64) (0 : Int32)

def fX5_clear_2 (k18 : tA → Option (tA)) : Nat → Int32 → tA → Option (tA)
  | 0, _, _ => none
  | n + 1, v1_2, w_2 => if (51 : Int32) ≤ v1_2 then k18 w_2 else gd (inb v1_2 51) (nm (v1_2 + (1 : Int32)) fun x2 => fX5_clear_2 k18 n x2 (upd w_2 v1_2.toNatClampNeg (0 : Int32)))
def fX5_clear (w : tA) : Option (tA) :=
  fX5_clear_2 (fun w3 => some (upd (upd w3 (47 : Int32).toNatClampNeg (1 : Int32)) (50 : Int32).toNatClampNeg (9 : Int32))) 100000 (0 : Int32) w

def fX5_copy_2 (w : tA) (k20 : tA → Option (tA)) : Nat → Int32 → tA → Option (tA)
  | 0, _, _ => none
  | n + 1, v2_2, v_2 => if (51 : Int32) ≤ v2_2 then k20 v_2 else gd (inb v2_2 51) (gd (inb v2_2 51) (nm (v2_2 + (1 : Int32)) fun x3 => fX5_copy_2 w k20 n x3 (upd v_2 v2_2.toNatClampNeg (w v2_2.toNatClampNeg))))
def fX5_copy (w : tA) (v : tA) : Option (tA) :=
  fX5_copy_2 w (fun v4 => some v4) 100000 (0 : Int32) v

def fX5_buildOn (w : tA) (u2 : Int32) (u3 : Int32) : Option (tA) :=
  gd (inb ((37 : Int32) + (w (36 : Int32).toNatClampNeg)) 51) (gd (inb ((42 : Int32) + ((upd w ((37 : Int32) + (w (36 : Int32).toNatClampNeg)).toNatClampNeg u2) (36 : Int32).toNatClampNeg)) 51) (some (upd (upd (upd w ((37 : Int32) + (w (36 : Int32).toNatClampNeg)).toNatClampNeg u2) ((42 : Int32) + ((upd w ((37 : Int32) + (w (36 : Int32).toNatClampNeg)).toNatClampNeg u2) (36 : Int32).toNatClampNeg)).toNatClampNeg u3) (36 : Int32).toNatClampNeg (((upd (upd w ((37 : Int32) + (w (36 : Int32).toNatClampNeg)).toNatClampNeg u2) ((42 : Int32) + ((upd w ((37 : Int32) + (w (36 : Int32).toNatClampNeg)).toNatClampNeg u2) (36 : Int32).toNatClampNeg)).toNatClampNeg u3) (36 : Int32).toNatClampNeg) + (1 : Int32)))))

def fX5_razeOf_10 (k52 : tA → Option (tA)) : Nat → Int32 → tA → Option (tA)
  | 0, _, _ => none
  | n + 1, v2_10, w_10 => if (w_10 (36 : Int32).toNatClampNeg) ≤ v2_10 then k52 w_10 else gd (inb (((37 : Int32) + v2_10) + (1 : Int32)) 51) (gd (inb ((37 : Int32) + v2_10) 51) (gd (inb (((42 : Int32) + v2_10) + (1 : Int32)) 51) (gd (inb ((42 : Int32) + v2_10) 51) (nm (v2_10 + (1 : Int32)) fun x5 => fX5_razeOf_10 k52 n x5 (upd (upd w_10 ((37 : Int32) + v2_10).toNatClampNeg (w_10 (((37 : Int32) + v2_10) + (1 : Int32)).toNatClampNeg)) ((42 : Int32) + v2_10).toNatClampNeg ((upd w_10 ((37 : Int32) + v2_10).toNatClampNeg (w_10 (((37 : Int32) + v2_10) + (1 : Int32)).toNatClampNeg)) (((42 : Int32) + v2_10) + (1 : Int32)).toNatClampNeg))))))
def fX5_razeOf (w : tA) (u2 : Int32) : Option (tA) :=
  fX5_razeOf_10 (fun w6 => some w6) 100000 u2 (upd w (36 : Int32).toNatClampNeg ((w (36 : Int32).toNatClampNeg) - (1 : Int32)))

def fX5_cells (o : tMo) : Option (Int32) :=
  some (o.2.1 * o.2.2.1)

def fX5_isCell (o : tMo) (u1 : Int32) : Option (Int32) :=
  (fX5_cells o).bind fun r2 => (fX5_in u1.toInt64 (0 : Int64) ((r2 - (1 : Int32)).toInt64)).bind fun r4 => gd (zb r4) (some r4)

def fX5_isTower (o : tMo) (w : tA) (u1 : Int32) : Option (Int32) :=
  (fX5_in u1.toInt64 (0 : Int64) (((w (36 : Int32).toNatClampNeg) - (1 : Int32)).toInt64)).bind fun r2 => gd (zb r2) (some r2)

def fX5_distance (o : tMo) (u1 : Int32) (u2 : Int32) : Option (Int32) :=
  gd (nz o.2.1) (gd (nz o.2.1) ((fX5_size ((u2 - u2 / o.2.1 * o.2.1) - (u1 - u1 / o.2.1 * o.2.1))).bind fun r4 => gd (nz o.2.1) (gd (nz o.2.1) ((fX5_size ((u2 / o.2.1) - (u1 / o.2.1))).bind fun r8 => if r4 ≤ r8 then some r8 else some r4))))

def fX5_cellAt (o : tMo) (u1 : Int32) (u2 : Int32) (u3 : Int32) (u4 : Int32) : Option (Int32) :=
  (fX5_distance o u1 u2).bind fun r2 => gd (nz o.2.1) (gd (nz o.2.1) (gd (nz o.2.1) ((fX5_nearest (u3 * ((u2 - u2 / o.2.1 * o.2.1) - (u1 - u1 / o.2.1 * o.2.1))) r2 u4).bind fun r7 => nm (((u1 - u1 / o.2.1 * o.2.1) + r7)) fun x8 => gd (nz o.2.1) (gd (nz o.2.1) (gd (nz o.2.1) ((fX5_nearest (u3 * ((u2 / o.2.1) - (u1 / o.2.1))) r2 u4).bind fun r13 => nm (((u1 / o.2.1) + r13)) fun x14 => some ((o.2.1 * x14) + x8)))))))

def fX5_overBy (o : tMo) (w : tA) (u2 : Int32) (u3 : Int32) (u4 : Int32) (u5 : Int32) (u6 : Int32) : Option (Int32) :=
  (fX5_distance o u2 u4).bind fun r2 => (fX5_cellAt o u2 u4 u5 u6).bind fun r4 => gd (inb r4 51) (nm ((w r4.toNatClampNeg)) fun x6 => gd (inb u4 51) (nm (((w u4.toNatClampNeg) + (w (48 : Int32).toNatClampNeg))) fun x8 => some (((((10 : Int32) * r2) * x6) + (((r2 * (w (49 : Int32).toNatClampNeg)) * u5) * (r2 - u5))) - ((10 : Int32) * ((u3 * (r2 - u5)) + (x8 * u5))))))

def fX5_over (o : tMo) (w : tA) (u2 : Int32) (u3 : Int32) (u4 : Int32) (u5 : Int32) : Option (Int32) :=
  (fX5_overBy o w u2 u3 u4 u5 (0 : Int32)).bind fun r2 => (fX5_overBy o w u2 u3 u4 u5 (1 : Int32)).bind fun r4 => if r2 ≤ r4 then some r4 else some r2

def fX5_mostOver_7 (o : tMo) (w : tA) (g2_7 : Int32) (g3_7 : Int32) (g4_7 : Int32) (k54 : Int32 → Option (Int32)) : Nat → Int32 → Int32 → Option (Int32)
  | 0, _, _ => none
  | n + 1, v5_7, v6_7 => (fX5_distance o g2_7 g4_7).bind fun r2 => if r2 ≤ v6_7 then k54 v5_7 else (fX5_over o w g2_7 g3_7 g4_7 v6_7).bind fun r4 => if r4 ≤ v5_7 then nm (v6_7 + (1 : Int32)) fun x5 => fX5_mostOver_7 o w g2_7 g3_7 g4_7 k54 n v5_7 x5 else nm (v6_7 + (1 : Int32)) fun x6 => fX5_mostOver_7 o w g2_7 g3_7 g4_7 k54 n r4 x6
def fX5_mostOver (o : tMo) (w : tA) (u2 : Int32) (u3 : Int32) (u4 : Int32) : Option (Int32) :=
  fX5_mostOver_7 o w u2 u3 u4 (fun y7 => some y7) 100000 (-1000000 : Int32) (1 : Int32)

def fX5_isSeen (o : tMo) (w : tA) (u2 : Int32) (u3 : Int32) (u4 : Int32) : Option (Int32) :=
  if u2 = u4 then some (1 : Int32) else (fX5_distance o u2 u4).bind fun r2 => if (w (50 : Int32).toNatClampNeg) < r2 then some (0 : Int32) else gd (inb u2 51) ((fX5_mostOver o w u2 ((w u2.toNatClampNeg) + u3) u4).bind fun r5 => if 0 < r5 then some (0 : Int32) else some (1 : Int32))

def fX5_viewOf_6 (o : tMo) (w : tA) (g2_6 : Int32) (g3_6 : Int32) (k46 : Int64 → Option (Int64)) : Nat → Int64 → Int32 → Option (Int64)
  | 0, _, _ => none
  | n + 1, v4_6, v6_6 => (fX5_cells o).bind fun r2 => if r2 ≤ v6_6 then k46 v4_6 else (fX5_isSeen o w g2_6 g3_6 v6_6).bind fun r4 => if r4 = 0 then nm ((v4_6 ||| (0 : Int64))) fun x5 => nm (v6_6 + (1 : Int32)) fun x6 => fX5_viewOf_6 o w g2_6 g3_6 k46 n x5 x6 else nm ((v4_6 ||| ((1 : Int64) <<< (v6_6.toInt64 &&& 63)))) fun x7 => nm (v6_6 + (1 : Int32)) fun x8 => fX5_viewOf_6 o w g2_6 g3_6 k46 n x7 x8
def fX5_viewOf (o : tMo) (w : tA) (u2 : Int32) (u3 : Int32) : Option (Int64) :=
  fX5_viewOf_6 o w u2 u3 (fun y9 => some y9) 100000 (0 : Int64) (0 : Int32)

def fX5_watchedBy (o : tMo) (w : tA) (u2 : Int32) : Option (Int64) :=
  gd (inb ((37 : Int32) + u2) 51) (gd (inb ((42 : Int32) + u2) 51) ((fX5_viewOf o w (w ((37 : Int32) + u2).toNatClampNeg) (w ((42 : Int32) + u2).toNatClampNeg)).bind fun r4 => some r4))

def fX5_watchedByAny_5 (o : tMo) (w : tA) (k30 : Int64 → Option (Int64)) : Nat → Int64 → Int32 → Option (Int64)
  | 0, _, _ => none
  | n + 1, v2_5, v4_5 => if (w (36 : Int32).toNatClampNeg) ≤ v4_5 then k30 v2_5 else (fX5_watchedBy o w v4_5).bind fun r2 => nm ((v2_5 ||| r2)) fun x3 => nm (v4_5 + (1 : Int32)) fun x4 => fX5_watchedByAny_5 o w k30 n x3 x4
def fX5_watchedByAny (o : tMo) (w : tA) : Option (Int64) :=
  fX5_watchedByAny_5 o w (fun y5 => some y5) 100000 (0 : Int64) (0 : Int32)

def fX5_hidden (o : tMo) (w : tA) : Option (Int32) :=
  (fX5_cells o).bind fun r2 => (fX5_watchedByAny o w).bind fun r4 => (fX5_ones r4).bind fun r6 => some (r2 - r6)

def fX5_draw (o : tMo) (ho : tA) (u1 : Int32) (u2 : Int32) : Option (Int32 × tA) :=
  gd (inb u1 36) (if (ho u1.toNatClampNeg) = (-9 : Int32) then some ((0 : Int32), ho) else gd (inb u2 36) (if (ho u2.toNatClampNeg) = (-9 : Int32) then some ((0 : Int32), ho) else gd (inb u1 36) (gd (inb u2 36) (if (ho u1.toNatClampNeg) = (ho u2.toNatClampNeg) then some ((0 : Int32), ho) else gd (inb u1 36) (gd (inb u2 36) (if (ho u2.toNatClampNeg) ≤ (ho u1.toNatClampNeg) then gd (inb u2 36) (nm ((ho u2.toNatClampNeg)) fun x8 => gd (inb u1 36) (gd (inb u2 36) (some ((1 : Int32), (upd (upd ho u1.toNatClampNeg x8) u2.toNatClampNeg x8))))) else gd (inb u1 36) (nm ((ho u1.toNatClampNeg)) fun x12 => gd (inb u1 36) (gd (inb u2 36) (some ((1 : Int32), (upd (upd ho u1.toNatClampNeg x12) u2.toNatClampNeg x12)))))))))))

def fX5_layHollows_9 (o : tMo) (w : tA) (g2_9 : Int64) (k47 : tA → Option (Int32 × tA)) : Nat → Int32 → tA → Option (Int32 × tA)
  | 0, _, _ => none
  | n + 1, v4_9, ho_9 => (fX5_cells o).bind fun r4 => if r4 ≤ v4_9 then k47 ho_9 else (fX5_has g2_9 v4_9).bind fun r6 => if r6 = 0 then gd (inb v4_9 36) (nm (v4_9 + (1 : Int32)) fun x8 => fX5_layHollows_9 o w g2_9 k47 n x8 (upd ho_9 v4_9.toNatClampNeg v4_9)) else gd (inb v4_9 36) (nm (v4_9 + (1 : Int32)) fun x10 => fX5_layHollows_9 o w g2_9 k47 n x10 (upd ho_9 v4_9.toNatClampNeg (-9 : Int32)))
def fX5_layHollows_61 (o : tMo) (w : tA) (k169 : Int32 → tA → Option (Int32 × tA)) : Nat → Int32 → Int32 → tA → Option (Int32 × tA)
  | 0, _, _, _ => none
  | n + 1, v4_61, v5_61, ho_61 => (fX5_cells o).bind fun r13 => if r13 ≤ v5_61 then k169 v4_61 ho_61 else gd (nz o.2.1) (if o.2.1 ≤ ((v5_61 - v5_61 / o.2.1 * o.2.1) + (1 : Int32)) then (fX5_draw o ho_61 v5_61 v5_61).bind fun y16 => if y16.1 = 0 then if v4_61 = 0 then (fX5_cells o).bind fun r28 => if r28 ≤ (v5_61 + o.2.1) then (fX5_draw o y16.2 v5_61 v5_61).bind fun y30 => if y30.1 = 0 then nm (v5_61 + (1 : Int32)) fun x32 => fX5_layHollows_61 o w k169 n (0 : Int32) x32 y30.2 else nm (v5_61 + (1 : Int32)) fun x31 => fX5_layHollows_61 o w k169 n (1 : Int32) x31 y30.2 else (fX5_draw o y16.2 v5_61 (v5_61 + o.2.1)).bind fun y34 => if y34.1 = 0 then nm (v5_61 + (1 : Int32)) fun x36 => fX5_layHollows_61 o w k169 n (0 : Int32) x36 y34.2 else nm (v5_61 + (1 : Int32)) fun x35 => fX5_layHollows_61 o w k169 n (1 : Int32) x35 y34.2 else (fX5_cells o).bind fun r38 => if r38 ≤ (v5_61 + o.2.1) then (fX5_draw o y16.2 v5_61 v5_61).bind fun y40 => if y40.1 = 0 then nm (v5_61 + (1 : Int32)) fun x42 => fX5_layHollows_61 o w k169 n (1 : Int32) x42 y40.2 else nm (v5_61 + (1 : Int32)) fun x41 => fX5_layHollows_61 o w k169 n (1 : Int32) x41 y40.2 else (fX5_draw o y16.2 v5_61 (v5_61 + o.2.1)).bind fun y44 => if y44.1 = 0 then nm (v5_61 + (1 : Int32)) fun x46 => fX5_layHollows_61 o w k169 n (1 : Int32) x46 y44.2 else nm (v5_61 + (1 : Int32)) fun x45 => fX5_layHollows_61 o w k169 n (1 : Int32) x45 y44.2 else (fX5_cells o).bind fun r18 => if r18 ≤ (v5_61 + o.2.1) then (fX5_draw o y16.2 v5_61 v5_61).bind fun y20 => if y20.1 = 0 then nm (v5_61 + (1 : Int32)) fun x22 => fX5_layHollows_61 o w k169 n (1 : Int32) x22 y20.2 else nm (v5_61 + (1 : Int32)) fun x21 => fX5_layHollows_61 o w k169 n (1 : Int32) x21 y20.2 else (fX5_draw o y16.2 v5_61 (v5_61 + o.2.1)).bind fun y24 => if y24.1 = 0 then nm (v5_61 + (1 : Int32)) fun x26 => fX5_layHollows_61 o w k169 n (1 : Int32) x26 y24.2 else nm (v5_61 + (1 : Int32)) fun x25 => fX5_layHollows_61 o w k169 n (1 : Int32) x25 y24.2 else (fX5_draw o ho_61 v5_61 (v5_61 + (1 : Int32))).bind fun y48 => if y48.1 = 0 then if v4_61 = 0 then (fX5_cells o).bind fun r60 => if r60 ≤ (v5_61 + o.2.1) then (fX5_draw o y48.2 v5_61 v5_61).bind fun y62 => if y62.1 = 0 then nm (v5_61 + (1 : Int32)) fun x64 => fX5_layHollows_61 o w k169 n (0 : Int32) x64 y62.2 else nm (v5_61 + (1 : Int32)) fun x63 => fX5_layHollows_61 o w k169 n (1 : Int32) x63 y62.2 else (fX5_draw o y48.2 v5_61 (v5_61 + o.2.1)).bind fun y66 => if y66.1 = 0 then nm (v5_61 + (1 : Int32)) fun x68 => fX5_layHollows_61 o w k169 n (0 : Int32) x68 y66.2 else nm (v5_61 + (1 : Int32)) fun x67 => fX5_layHollows_61 o w k169 n (1 : Int32) x67 y66.2 else (fX5_cells o).bind fun r70 => if r70 ≤ (v5_61 + o.2.1) then (fX5_draw o y48.2 v5_61 v5_61).bind fun y72 => if y72.1 = 0 then nm (v5_61 + (1 : Int32)) fun x74 => fX5_layHollows_61 o w k169 n (1 : Int32) x74 y72.2 else nm (v5_61 + (1 : Int32)) fun x73 => fX5_layHollows_61 o w k169 n (1 : Int32) x73 y72.2 else (fX5_draw o y48.2 v5_61 (v5_61 + o.2.1)).bind fun y76 => if y76.1 = 0 then nm (v5_61 + (1 : Int32)) fun x78 => fX5_layHollows_61 o w k169 n (1 : Int32) x78 y76.2 else nm (v5_61 + (1 : Int32)) fun x77 => fX5_layHollows_61 o w k169 n (1 : Int32) x77 y76.2 else (fX5_cells o).bind fun r50 => if r50 ≤ (v5_61 + o.2.1) then (fX5_draw o y48.2 v5_61 v5_61).bind fun y52 => if y52.1 = 0 then nm (v5_61 + (1 : Int32)) fun x54 => fX5_layHollows_61 o w k169 n (1 : Int32) x54 y52.2 else nm (v5_61 + (1 : Int32)) fun x53 => fX5_layHollows_61 o w k169 n (1 : Int32) x53 y52.2 else (fX5_draw o y48.2 v5_61 (v5_61 + o.2.1)).bind fun y56 => if y56.1 = 0 then nm (v5_61 + (1 : Int32)) fun x58 => fX5_layHollows_61 o w k169 n (1 : Int32) x58 y56.2 else nm (v5_61 + (1 : Int32)) fun x57 => fX5_layHollows_61 o w k169 n (1 : Int32) x57 y56.2)
def fX5_layHollows_50 (o : tMo) (w : tA) (k172 : tA → Option (Int32 × tA)) : Nat → Int32 → tA → Option (Int32 × tA)
  | 0, _, _ => none
  | n + 1, v4_50, ho_50 => if v4_50 = 0 then k172 ho_50 else fX5_layHollows_61 o w (fun y79 ho80 => fX5_layHollows_50 o w k172 n y79 ho80) 100000 (0 : Int32) (0 : Int32) ho_50
def fX5_layHollows_178 (o : tMo) (w : tA) (ho_178 : tA) (k215 : Int32 → Option (Int32 × tA)) : Nat → Int32 → Int32 → Option (Int32 × tA)
  | 0, _, _ => none
  | n + 1, v5_178, v6_178 => (fX5_cells o).bind fun r83 => if r83 ≤ v6_178 then k215 v5_178 else gd (inb v6_178 36) (if (ho_178 v6_178.toNatClampNeg) = v6_178 then nm ((v5_178 + (1 : Int32))) fun x87 => nm (v6_178 + (1 : Int32)) fun x88 => fX5_layHollows_178 o w ho_178 k215 n x87 x88 else nm ((v5_178 + (0 : Int32))) fun x85 => nm (v6_178 + (1 : Int32)) fun x86 => fX5_layHollows_178 o w ho_178 k215 n x85 x86)
def fX5_layHollows (o : tMo) (w : tA) (ho : tA) : Option (Int32 × tA) :=
  (fX5_watchedByAny o w).bind fun r2 => fX5_layHollows_9 o w r2 (fun ho11 => fX5_layHollows_50 o w (fun ho81 => fX5_layHollows_178 o w ho81 (fun y89 => some (y89, ho81)) 100000 (0 : Int32) (0 : Int32)) 100000 (1 : Int32) ho11) 100000 (0 : Int32) ho

def fX5_numberOf_4 (o : tMo) (ho : tA) (g1_4 : Int32) (k33 : Int32 → Option (Int32)) : Nat → Int32 → Int32 → Option (Int32)
  | 0, _, _ => none
  | n + 1, v2_4, v3_4 => if g1_4 ≤ v3_4 then k33 v2_4 else gd (inb v3_4 36) (if (ho v3_4.toNatClampNeg) = v3_4 then nm ((v2_4 + (1 : Int32))) fun x4 => nm (v3_4 + (1 : Int32)) fun x5 => fX5_numberOf_4 o ho g1_4 k33 n x4 x5 else nm ((v2_4 + (0 : Int32))) fun x2 => nm (v3_4 + (1 : Int32)) fun x3 => fX5_numberOf_4 o ho g1_4 k33 n x2 x3)
def fX5_numberOf (o : tMo) (ho : tA) (u1 : Int32) : Option (Int32) :=
  fX5_numberOf_4 o ho u1 (fun y6 => some y6) 100000 (0 : Int32) (0 : Int32)

def fX5_towersOn_4 (o : tMo) (w : tA) (g1_4 : Int32) (k44 : Int32 → Option (Int32)) : Nat → Int32 → Int32 → Option (Int32)
  | 0, _, _ => none
  | n + 1, v2_4, v3_4 => if (w (36 : Int32).toNatClampNeg) ≤ v3_4 then k44 v2_4 else gd (inb ((37 : Int32) + v3_4) 51) (if (w ((37 : Int32) + v3_4).toNatClampNeg) = g1_4 then nm ((v2_4 ||| ((1 : Int32) <<< (v3_4 &&& 31)))) fun x4 => nm (v3_4 + (1 : Int32)) fun x5 => fX5_towersOn_4 o w g1_4 k44 n x4 x5 else nm ((v2_4 ||| (0 : Int32))) fun x2 => nm (v3_4 + (1 : Int32)) fun x3 => fX5_towersOn_4 o w g1_4 k44 n x2 x3)
def fX5_towersOn (o : tMo) (w : tA) (u1 : Int32) : Option (Int32) :=
  fX5_towersOn_4 o w u1 (fun y6 => some y6) 100000 (0 : Int32) (0 : Int32)

def fX5_watchersOf_4 (o : tMo) (w : tA) (g1_4 : Int32) (k59 : Int32 → Option (Int32)) : Nat → Int32 → Int32 → Option (Int32)
  | 0, _, _ => none
  | n + 1, v2_4, v3_4 => if (w (36 : Int32).toNatClampNeg) ≤ v3_4 then k59 v2_4 else gd (inb ((37 : Int32) + v3_4) 51) (gd (inb ((42 : Int32) + v3_4) 51) ((fX5_isSeen o w (w ((37 : Int32) + v3_4).toNatClampNeg) (w ((42 : Int32) + v3_4).toNatClampNeg) g1_4).bind fun r4 => if r4 = 0 then nm ((v2_4 + (0 : Int32))) fun x5 => nm (v3_4 + (1 : Int32)) fun x6 => fX5_watchersOf_4 o w g1_4 k59 n x5 x6 else nm ((v2_4 + (1 : Int32))) fun x7 => nm (v3_4 + (1 : Int32)) fun x8 => fX5_watchersOf_4 o w g1_4 k59 n x7 x8))
def fX5_watchersOf (o : tMo) (w : tA) (u1 : Int32) : Option (Int32) :=
  fX5_watchersOf_4 o w u1 (fun y9 => some y9) 100000 (0 : Int32) (0 : Int32)

def fX5_ownOf_5 (o : tMo) (w : tA) (g1_5 : Int32) (k46 : Int64 → Option (Int32)) : Nat → Int64 → Int32 → Option (Int32)
  | 0, _, _ => none
  | n + 1, v2_5, v4_5 => if (w (36 : Int32).toNatClampNeg) ≤ v4_5 then k46 v2_5 else if v4_5 = g1_5 then nm ((v2_5 ||| (0 : Int64))) fun x5 => nm (v4_5 + (1 : Int32)) fun x6 => fX5_ownOf_5 o w g1_5 k46 n x5 x6 else (fX5_watchedBy o w v4_5).bind fun r2 => nm ((v2_5 ||| r2)) fun x3 => nm (v4_5 + (1 : Int32)) fun x4 => fX5_ownOf_5 o w g1_5 k46 n x3 x4
def fX5_ownOf (o : tMo) (w : tA) (u1 : Int32) : Option (Int32) :=
  fX5_ownOf_5 o w u1 (fun y7 => (fX5_watchedBy o w u1).bind fun r9 => (fX5_ones (r9 &&& (y7 ^^^ (-1 : Int64)))).bind fun r11 => some r11) 100000 (0 : Int64) (0 : Int32)

def fX5_firstInWay_2 (o : tMo) (w : tA) (g1_2 : Int32) (g2_2 : Int32) (k40 : Int32 → Option (Int32)) (k48 : Option (Int32)) : Nat → Int32 → Option (Int32)
  | 0, _ => none
  | n + 1, v3_2 => (fX5_distance o g1_2 g2_2).bind fun r2 => if r2 ≤ v3_2 then k48 else gd (inb g1_2 51) ((fX5_over o w g1_2 ((w g1_2.toNatClampNeg) + (w (47 : Int32).toNatClampNeg)) g2_2 v3_2).bind fun r5 => if r5 ≤ 0 then nm (v3_2 + (1 : Int32)) fun x6 => fX5_firstInWay_2 o w g1_2 g2_2 k40 k48 n x6 else k40 v3_2)
def fX5_firstInWay (o : tMo) (w : tA) (u1 : Int32) (u2 : Int32) : Option (Int32) :=
  fX5_firstInWay_2 o w u1 u2 (fun y7 => some y7) (some (-9 : Int32)) 100000 (1 : Int32)

def fX5_needed_2 (o : tMo) (w : tA) (g1_2 : Int32) (g2_2 : Int32) (k28 : Int32 → Option (Int32)) : Nat → Int32 → Option (Int32)
  | 0, _ => none
  | n + 1, v3_2 => if (100 : Int32) ≤ v3_2 then k28 v3_2 else (fX5_isSeen o w g1_2 v3_2 g2_2).bind fun r2 => if r2 = 0 then nm (v3_2 + (1 : Int32)) fun x3 => fX5_needed_2 o w g1_2 g2_2 k28 n x3 else k28 v3_2
def fX5_needed (o : tMo) (w : tA) (u1 : Int32) (u2 : Int32) : Option (Int32) :=
  fX5_needed_2 o w u1 u2 (fun y4 => if y4 = (100 : Int32) then some (-9 : Int32) else some y4) 100000 (0 : Int32)

def fX5_worth_5 (o : tMo) (w : tA) (g1_5 : Int32) (k50 : Int64 → Option (Int32)) : Nat → Int64 → Int32 → Option (Int32)
  | 0, _, _ => none
  | n + 1, v2_5, v4_5 => if (w (36 : Int32).toNatClampNeg) ≤ v4_5 then k50 v2_5 else (fX5_has g1_5.toInt64 v4_5).bind fun r2 => if r2 = 0 then nm ((v2_5 ||| (0 : Int64))) fun x3 => nm (v4_5 + (1 : Int32)) fun x4 => fX5_worth_5 o w g1_5 k50 n x3 x4 else (fX5_watchedBy o w v4_5).bind fun r6 => nm ((v2_5 ||| r6)) fun x7 => nm (v4_5 + (1 : Int32)) fun x8 => fX5_worth_5 o w g1_5 k50 n x7 x8
def fX5_worth (o : tMo) (w : tA) (u1 : Int32) : Option (Int32) :=
  fX5_worth_5 o w u1 (fun y9 => (fX5_ones y9).bind fun r11 => some r11) 100000 (0 : Int64) (0 : Int32)
