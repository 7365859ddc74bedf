def fX4_isDigit (u1 : Int32) : Option (Int32) :=
  if u1 < 0 then some (0 : Int32) else if (9 : Int32) < u1 then some (0 : Int32) else some (1 : Int32)

def fX4_isSlot (u1 : Int32) : Option (Int32) :=
  if u1 = 0 then some (1 : Int32) else if u1 = (1 : Int32) then some (1 : Int32) else some (0 : Int32)

def fX4_lowestValue (u1 : Int32) : Option (Int32) :=
  if u1 = (3 : Int32) then some (1 : Int32) else some (0 : Int32)

def fX4_isSetting (u1 : Int32) (u2 : Int32) : Option (Int32) :=
  if u1 < 0 then some (0 : Int32) else if (4 : Int32) ≤ u1 then some (0 : Int32) else (fX4_lowestValue u1).bind fun r2 => if u2 < r2 then some (0 : Int32) else if (9 : Int32) < u2 then some (0 : Int32) else some (1 : Int32)

def fX4_contains (u1 : Int64) (u2 : Int32) : Option (Int32) :=
  if (lg_cmp (((u1.toUInt64 >>> (u2.toInt64.toUInt64 &&& Int64.toUInt64 63)).toInt64) &&& (1 : Int64)) (0 : Int64)) = 0 then some (0 : Int32) else some (1 : Int32)

def fX4_combine (u1 : Int32) (u2 : Int64) (u3 : Int64) : Option (Int64) :=
  if u1 = 0 then some (u2 ||| u3) else if u1 = 1 then some (u2 &&& u3) else if u1 = 2 then some (u2 ^^^ u3) else some (u2 &&& (u3 ^^^ (-1 : Int64)))

def fX4_lowestTerms_8 (g0_8 : Int32) (g1_8 : Int32) (g2_8 : Int32) (k39 : Int32 → Option (Int32)) : Nat → Int32 → Int32 → Int32 → Option (Int32)
  | 0, _, _, _ => none
  | n + 1, v3_8, v4_8, v5_8 => if (64 : Int32) ≤ v5_8 then k39 v3_8 else if v4_8 = 0 then k39 v3_8 else gd (nz v4_8) (nm ((v3_8 - v3_8 / v4_8 * v4_8)) fun x2 => nm (v5_8 + (1 : Int32)) fun x3 => fX4_lowestTerms_8 g0_8 g1_8 g2_8 k39 n v4_8 x2 x3)
def fX4_lowestTerms (u1 : Int32) (u2 : Int32) (u3 : Int32) : Option (Int32) :=
  fX4_lowestTerms_8 u1 u2 u3 (fun y4 => if y4 = 0 then some (0 : Int32) else if u3 = 0 then gd (nz y4) (some (u2 / y4)) else gd (nz y4) (some (u1 / y4))) 100000 u2 u1 (0 : Int32)

def fJ13_bitCount_95d88 (u1 : Int64) : Option (Int32) :=
  nm ((u1 - (((u1.toUInt64 >>> ((1 : Int32).toInt64.toUInt64 &&& Int64.toUInt64 63)).toInt64) &&& (6148914691236517205 : Int64)))) fun x1 => nm (((x1 &&& (3689348814741910323 : Int64)) + (((x1.toUInt64 >>> ((2 : Int32).toInt64.toUInt64 &&& Int64.toUInt64 63)).toInt64) &&& (3689348814741910323 : Int64)))) fun x2 => nm (((x2 + ((x2.toUInt64 >>> ((4 : Int32).toInt64.toUInt64 &&& Int64.toUInt64 63)).toInt64)) &&& (1085102592571150095 : Int64))) fun x3 => nm ((x3 + ((x3.toUInt64 >>> ((8 : Int32).toInt64.toUInt64 &&& Int64.toUInt64 63)).toInt64))) fun x4 => nm ((x4 + ((x4.toUInt64 >>> ((16 : Int32).toInt64.toUInt64 &&& Int64.toUInt64 63)).toInt64))) fun x5 => nm ((x5 + ((x5.toUInt64 >>> ((32 : Int32).toInt64.toUInt64 &&& Int64.toUInt64 63)).toInt64))) fun x6 => some (x6.toInt32 &&& (127 : Int32))

def fJ7_fill_53178_5 (g1_5 : Int32) (g3_5 : Int32) (k20 : tA → Option (tA)) : Nat → Int32 → tA → Option (tA)
  | 0, _, _ => none
  | n + 1, v2_5, w_5 => if g3_5 ≤ v2_5 then k20 w_5 else gd (inb v2_5 36) (nm (v2_5 + (1 : Int32)) fun x2 => fJ7_fill_53178_5 g1_5 g3_5 k20 n x2 (upd w_5 v2_5.toNatClampNeg g1_5))
def fJ7_fill_53178 (w : tA) (u2 : Int32) : Option (tA) :=
  fJ7_fill_53178_5 u2 (36 : Int32) (fun w3 => some w3) 100000 (0 : Int32) w

def fX1_cellCount (L : tL) : Option (Int32) :=
  some (L.1 * L.2.1)

def fX1_hasCell (L : tL) (u1 : Int32) : Option (Int32) :=
  if u1 < 0 then some (0 : Int32) else if (L.1 * L.2.1) ≤ u1 then some (0 : Int32) else some (1 : Int32)

def fX1_hasTower (L : tL) (u1 : Int32) : Option (Int32) :=
  if u1 < 0 then some (0 : Int32) else if L.2.2.1 ≤ u1 then some (0 : Int32) else if (5 : Int32) ≤ u1 then some (0 : Int32) else some (1 : Int32)

def fX1_isInside (L : tL) (u1 : Int32) (u2 : Int32) : Option (Int32) :=
  if u1 < 0 then some (0 : Int32) else if L.1 ≤ u1 then some (0 : Int32) else if u2 < 0 then some (0 : Int32) else if L.2.1 ≤ u2 then some (0 : Int32) else some (1 : Int32)

def fX1_columnOf (L : tL) (u1 : Int32) : Option (Int32) :=
  if L.1 = 0 then some (0 : Int32) else gd (nz L.1) (some (u1 - u1 / L.1 * L.1))

def fX1_rowOf (L : tL) (u1 : Int32) : Option (Int32) :=
  if L.1 = 0 then some (0 : Int32) else gd (nz L.1) (some (u1 / L.1))

def fX1_heightOf (L : tL) (u1 : Int32) : Option (Int32) :=
  if u1 < 0 then some (0 : Int32) else if (36 : Int32) ≤ u1 then some (0 : Int32) else gd (inb u1 36) (some (L.2.2.2.1 u1.toNatClampNeg))

def fX1_putHeight (L : tL) (u1 : Int32) (u2 : Int32) : Option (Int32 × tL) :=
  (fX1_hasCell L u1).bind fun r2 => if r2 = 0 then some ((0 : Int32), L) else if u1 < (36 : Int32) then gd (inb u1 36) (some ((1 : Int32), (L.1, L.2.1, L.2.2.1, (upd L.2.2.2.1 u1.toNatClampNeg u2), L.2.2.2.2.1, L.2.2.2.2.2.1, L.2.2.2.2.2.2))) else some ((0 : Int32), L)

def fX1_putTower_36 (g1_36 : Int32) (g2_36 : Int32) (g3_36 : Int32) (k80 : tL → Option (Int32 × tL)) : Nat → Int32 → tL → Option (Int32 × tL)
  | 0, _, _ => none
  | n + 1, v4_36, L_36 => if v4_36 ≤ g1_36 then k80 L_36 else gd (inb (v4_36 - (1 : Int32)) 5) (gd (inb v4_36 5) (gd (inb (v4_36 - (1 : Int32)) 5) (gd (inb v4_36 5) (nm (v4_36 + (-1 : Int32)) fun x7 => fX1_putTower_36 g1_36 g2_36 g3_36 k80 n x7 (L_36.1, L_36.2.1, L_36.2.2.1, L_36.2.2.2.1, (upd L_36.2.2.2.2.1 v4_36.toNatClampNeg (L_36.2.2.2.2.1 (v4_36 - (1 : Int32)).toNatClampNeg)), (upd L_36.2.2.2.2.2.1 v4_36.toNatClampNeg (L_36.2.2.2.2.2.1 (v4_36 - (1 : Int32)).toNatClampNeg)), L_36.2.2.2.2.2.2)))))
def fX1_putTower (L : tL) (u1 : Int32) (u2 : Int32) (u3 : Int32) : Option (Int32 × tL) :=
  (fX1_hasCell L u2).bind fun r2 => if r2 = 0 then some ((0 : Int32), L) else if (5 : Int32) ≤ L.2.2.1 then some ((0 : Int32), L) else if u1 < 0 then some ((0 : Int32), L) else if u1 ≤ L.2.2.1 then fX1_putTower_36 u1 u2 u3 (fun L8 => gd (inb u1 5) (gd (inb u1 5) (nm ((L8.2.2.1 + (1 : Int32))) fun x11 => some ((1 : Int32), (L8.1, L8.2.1, x11, L8.2.2.2.1, (upd L8.2.2.2.2.1 u1.toNatClampNeg u2), (upd L8.2.2.2.2.2.1 u1.toNatClampNeg u3), L8.2.2.2.2.2.2))))) 100000 L.2.2.1 L else some ((0 : Int32), L)

def fX1_dropTower_14 (k61 : tL → Option (Int32 × tL)) : Nat → Int32 → tL → Option (Int32 × tL)
  | 0, _, _ => none
  | n + 1, v2_14, L_14 => if L_14.2.2.1 ≤ v2_14 then k61 L_14 else if (5 : Int32) ≤ v2_14 then k61 L_14 else gd (inb v2_14 5) (gd (inb (v2_14 - (1 : Int32)) 5) (gd (inb v2_14 5) (gd (inb (v2_14 - (1 : Int32)) 5) (nm (v2_14 + (1 : Int32)) fun x8 => fX1_dropTower_14 k61 n x8 (L_14.1, L_14.2.1, L_14.2.2.1, L_14.2.2.2.1, (upd L_14.2.2.2.2.1 (v2_14 - (1 : Int32)).toNatClampNeg (L_14.2.2.2.2.1 v2_14.toNatClampNeg)), (upd L_14.2.2.2.2.2.1 (v2_14 - (1 : Int32)).toNatClampNeg (L_14.2.2.2.2.2.1 v2_14.toNatClampNeg)), L_14.2.2.2.2.2.2)))))
def fX1_dropTower (L : tL) (u1 : Int32) : Option (Int32 × tL) :=
  (fX1_hasTower L u1).bind fun r2 => if r2 = 0 then some ((0 : Int32), L) else nm ((u1 + (1 : Int32))) fun x3 => fX1_dropTower_14 (fun L9 => nm ((L9.2.2.1 - (1 : Int32))) fun x10 => some ((1 : Int32), (L9.1, L9.2.1, x10, L9.2.2.2.1, L9.2.2.2.2.1, L9.2.2.2.2.2.1, L9.2.2.2.2.2.2))) 100000 x3 L

def fX1_putSetting (L : tL) (u1 : Int32) (u2 : Int32) : Option (Int32 × tL) :=
  (fX4_isSetting u1 u2).bind fun r2 => if r2 = 0 then some ((0 : Int32), L) else gd (inb u1 4) (some ((1 : Int32), (L.1, L.2.1, L.2.2.1, L.2.2.2.1, L.2.2.2.2.1, L.2.2.2.2.2.1, (upd L.2.2.2.2.2.2 u1.toNatClampNeg u2))))

def fX1_distance (L : tL) (u1 : Int32) (u2 : Int32) : Option (Int32) :=
  (fX1_columnOf L u1).bind fun r2 => (fX1_columnOf L u2).bind fun r4 => nm ((if 0 ≤ (r2 - r4) then (r2 - r4) else 0 - (r2 - r4))) fun x5 => (fX1_rowOf L u1).bind fun r7 => (fX1_rowOf L u2).bind fun r9 => nm ((if 0 ≤ (r7 - r9) then (r7 - r9) else 0 - (r7 - r9))) fun x10 => some (if x5 < x10 then x10 else x5)

def fX1_cellAtStep (L : tL) (u1 : Int32) (u2 : Int32) (u3 : Int32) (u4 : Int32) (u5 : Int32) : Option (Int32) :=
  if u3 < (1 : Int32) then some u1 else if (1 : Int32) ≤ L.1 then nm ((u3 - u4)) fun x1 => gd (nz L.1) (gd (nz L.1) (gd (nz ((2 : Int32) * u3)) (nm ((((((2 : Int32) * (((u1 - u1 / L.1 * L.1) * x1) + ((u2 - u2 / L.1 * L.1) * u4))) + u3) - u5) / ((2 : Int32) * u3))) fun x5 => gd (nz L.1) (gd (nz L.1) (gd (nz ((2 : Int32) * u3)) (nm ((((((2 : Int32) * (((u1 / L.1) * x1) + ((u2 / L.1) * u4))) + u3) - u5) / ((2 : Int32) * u3))) fun x9 => some ((x9 * L.1) + x5))))))) else some u1

def fX1_excess (L : tL) (u1 : Int32) (u2 : Int32) (u3 : Int32) (u4 : Int32) (u5 : Int32) : Option (Int32) :=
  (fX1_cellAtStep L u1 u3 u4 u5 (0 : Int32)).bind fun r2 => (fX1_heightOf L r2).bind fun r4 => (fX1_cellAtStep L u1 u3 u4 u5 (1 : Int32)).bind fun r6 => (fX1_heightOf L r6).bind fun r8 => nm ((u4 - u5)) fun x9 => (fX1_heightOf L u1).bind fun r11 => nm ((r11 + u2)) fun x12 => (fX1_heightOf L u3).bind fun r14 => nm ((r14 + (L.2.2.2.2.2.2 (1 : Int32).toNatClampNeg))) fun x15 => some (((((10 : Int32) * u4) * (if r4 < r8 then r8 else r4)) + (((u4 * (L.2.2.2.2.2.2 (2 : Int32).toNatClampNeg)) * u5) * x9)) - ((10 : Int32) * ((x12 * x9) + (x15 * u5))))

def fX1_canSee_24 (L : tL) (g1_24 : Int32) (g2_24 : Int32) (g3_24 : Int32) (g4_24 : Int32) (k45 : Option (Int32)) (k53 : Option (Int32)) : Nat → Int32 → Option (Int32)
  | 0, _ => none
  | n + 1, v5_24 => if g4_24 ≤ v5_24 then k53 else (fX1_excess L g1_24 g2_24 g3_24 g4_24 v5_24).bind fun r4 => if r4 ≤ 0 then nm (v5_24 + (1 : Int32)) fun x5 => fX1_canSee_24 L g1_24 g2_24 g3_24 g4_24 k45 k53 n x5 else k45
def fX1_canSee (L : tL) (u1 : Int32) (u2 : Int32) (u3 : Int32) : Option (Int32) :=
  (fX1_distance L u1 u3).bind fun r2 => if r2 ≤ (L.2.2.2.2.2.2 (3 : Int32).toNatClampNeg) then fX1_canSee_24 L u1 u2 u3 r2 (some (0 : Int32)) (some (1 : Int32)) 100000 (1 : Int32) else some (0 : Int32)

def fX1_firstBlock_11 (L : tL) (g1_11 : Int32) (g2_11 : Int32) (g3_11 : Int32) (g4_11 : Int32) (k32 : Int32 → Option (Int32)) (k41 : Option (Int32)) : Nat → Int32 → Option (Int32)
  | 0, _ => none
  | n + 1, v5_11 => if g4_11 ≤ v5_11 then k41 else (fX1_excess L g1_11 g2_11 g3_11 g4_11 v5_11).bind fun r4 => if r4 ≤ 0 then nm (v5_11 + (1 : Int32)) fun x5 => fX1_firstBlock_11 L g1_11 g2_11 g3_11 g4_11 k32 k41 n x5 else k32 v5_11
def fX1_firstBlock (L : tL) (u1 : Int32) (u2 : Int32) (u3 : Int32) : Option (Int32) :=
  (fX1_distance L u1 u3).bind fun r2 => fX1_firstBlock_11 L u1 u2 u3 r2 (fun y6 => some y6) (some (-9 : Int32)) 100000 (1 : Int32)

def fX1_greatestExcess_23 (L : tL) (g1_23 : Int32) (g2_23 : Int32) (g3_23 : Int32) (g4_23 : Int32) (k54 : Int32 → Option (Int32)) : Nat → Int32 → Int32 → Option (Int32)
  | 0, _, _ => none
  | n + 1, v5_23, v6_23 => if g4_23 ≤ v6_23 then k54 v5_23 else (fX1_excess L g1_23 g2_23 g3_23 g4_23 v6_23).bind fun r6 => nm ((if v5_23 < r6 then r6 else v5_23)) fun x7 => nm (v6_23 + (1 : Int32)) fun x8 => fX1_greatestExcess_23 L g1_23 g2_23 g3_23 g4_23 k54 n x7 x8
def fX1_greatestExcess (L : tL) (u1 : Int32) (u2 : Int32) (u3 : Int32) : Option (Int32) :=
  (fX1_distance L u1 u3).bind fun r2 => (fX1_excess L u1 u2 u3 r2 (1 : Int32)).bind fun r4 => fX1_greatestExcess_23 L u1 u2 u3 r2 (fun y9 => some y9) 100000 r4 (2 : Int32)

def fX1_neededRise_2 (L : tL) (g1_2 : Int32) (g2_2 : Int32) (k18 : Int32 → Option (Int32)) (k26 : Option (Int32)) : Nat → Int32 → Option (Int32)
  | 0, _ => none
  | n + 1, v3_2 => if (99 : Int32) < v3_2 then k26 else (fX1_canSee L g1_2 v3_2 g2_2).bind fun r2 => if r2 = 0 then nm (v3_2 + (1 : Int32)) fun x3 => fX1_neededRise_2 L g1_2 g2_2 k18 k26 n x3 else k18 v3_2
def fX1_neededRise (L : tL) (u1 : Int32) (u2 : Int32) : Option (Int32) :=
  fX1_neededRise_2 L u1 u2 (fun y4 => some y4) (some (-9 : Int32)) 100000 (0 : Int32)

def fX1_viewFrom_5 (L : tL) (g1_5 : Int32) (g2_5 : Int32) (k43 : Int64 → Option (Int64)) : Nat → Int64 → Int32 → Option (Int64)
  | 0, _, _ => none
  | n + 1, v3_5, v5_5 => if (L.1 * L.2.1) ≤ v5_5 then k43 v3_5 else (fX1_canSee L g1_5 g2_5 v5_5).bind fun r2 => if r2 = 0 then nm (v5_5 + (1 : Int32)) fun x3 => fX1_viewFrom_5 L g1_5 g2_5 k43 n v3_5 x3 else nm ((v3_5 ||| ((1 : Int64) <<< (v5_5.toInt64 &&& 63)))) fun x4 => nm (v5_5 + (1 : Int32)) fun x5 => fX1_viewFrom_5 L g1_5 g2_5 k43 n x4 x5
def fX1_viewFrom (L : tL) (u1 : Int32) (u2 : Int32) : Option (Int64) :=
  fX1_viewFrom_5 L u1 u2 (fun y6 => some y6) 100000 (0 : Int64) (0 : Int32)

def fX1_towerView (L : tL) (u1 : Int32) : Option (Int64) :=
  (fX1_hasTower L u1).bind fun r2 => if r2 = 0 then some (0 : Int64) else gd (inb u1 5) (gd (inb u1 5) ((fX1_viewFrom L (L.2.2.2.2.1 u1.toNatClampNeg) (L.2.2.2.2.2.1 u1.toNatClampNeg)).bind fun r6 => some r6))

def fX1_seenAlone_9 (L : tL) (g1_9 : Int32) (k61 : Int64 → Option (Int64)) : Nat → Int64 → Int32 → Option (Int64)
  | 0, _, _ => none
  | n + 1, v2_9, v4_9 => if L.2.2.1 ≤ v4_9 then k61 v2_9 else if (5 : Int32) ≤ v4_9 then k61 v2_9 else if v4_9 = g1_9 then nm (v4_9 + (1 : Int32)) fun x3 => fX1_seenAlone_9 L g1_9 k61 n v2_9 x3 else gd (inb v4_9 5) (gd (inb v4_9 5) ((fX1_viewFrom L (L.2.2.2.2.1 v4_9.toNatClampNeg) (L.2.2.2.2.2.1 v4_9.toNatClampNeg)).bind fun r7 => nm ((v2_9 &&& (r7 ^^^ (-1 : Int64)))) fun x8 => nm (v4_9 + (1 : Int32)) fun x9 => fX1_seenAlone_9 L g1_9 k61 n x8 x9))
def fX1_seenAlone (L : tL) (u1 : Int32) : Option (Int64) :=
  (fX1_towerView L u1).bind fun r2 => fX1_seenAlone_9 L u1 (fun y10 => some y10) 100000 r2 (0 : Int32)

def fX1_hiddenSet_16 (L : tL) (k58 : Int64 → Option (Int64)) : Nat → Int64 → Int32 → Option (Int64)
  | 0, _, _ => none
  | n + 1, v1_16, v3_16 => if L.2.2.1 ≤ v3_16 then k58 v1_16 else if (5 : Int32) ≤ v3_16 then k58 v1_16 else gd (inb v3_16 5) (gd (inb v3_16 5) ((fX1_viewFrom L (L.2.2.2.2.1 v3_16.toNatClampNeg) (L.2.2.2.2.2.1 v3_16.toNatClampNeg)).bind fun r5 => nm ((v1_16 &&& (r5 ^^^ (-1 : Int64)))) fun x6 => nm (v3_16 + (1 : Int32)) fun x7 => fX1_hiddenSet_16 L k58 n x6 x7))
def fX1_hiddenSet (L : tL) : Option (Int64) :=
  nm ((((1 : Int64) <<< ((L.1 * L.2.1).toInt64 &&& 63)) - (1 : Int64))) fun x1 => fX1_hiddenSet_16 L (fun y8 => some y8) 100000 x1 (0 : Int32)

def fX1_towersOn_4 (L : tL) (g1_4 : Int32) (k39 : Int32 → Option (Int32)) : Nat → Int32 → Int32 → Option (Int32)
  | 0, _, _ => none
  | n + 1, v2_4, v3_4 => if L.2.2.1 ≤ v3_4 then k39 v2_4 else if (5 : Int32) ≤ v3_4 then k39 v2_4 else gd (inb v3_4 5) (if (L.2.2.2.2.1 v3_4.toNatClampNeg) = g1_4 then nm ((v2_4 ||| ((1 : Int32) <<< (v3_4 &&& 31)))) fun x3 => nm (v3_4 + (1 : Int32)) fun x4 => fX1_towersOn_4 L g1_4 k39 n x3 x4 else nm (v3_4 + (1 : Int32)) fun x2 => fX1_towersOn_4 L g1_4 k39 n v2_4 x2)
def fX1_towersOn (L : tL) (u1 : Int32) : Option (Int32) :=
  fX1_towersOn_4 L u1 (fun y5 => some y5) 100000 (0 : Int32) (0 : Int32)

def fX1_watchersOf_4 (L : tL) (g1_4 : Int32) (k46 : Int32 → Option (Int32)) : Nat → Int32 → Int32 → Option (Int32)
  | 0, _, _ => none
  | n + 1, v2_4, v3_4 => if L.2.2.1 ≤ v3_4 then k46 v2_4 else if (5 : Int32) ≤ v3_4 then k46 v2_4 else gd (inb v3_4 5) (gd (inb v3_4 5) ((fX1_canSee L (L.2.2.2.2.1 v3_4.toNatClampNeg) (L.2.2.2.2.2.1 v3_4.toNatClampNeg) g1_4).bind fun r4 => if r4 = 0 then nm (v3_4 + (1 : Int32)) fun x5 => fX1_watchersOf_4 L g1_4 k46 n v2_4 x5 else nm (v2_4 + (1 : Int32)) fun x6 => nm (v3_4 + (1 : Int32)) fun x7 => fX1_watchersOf_4 L g1_4 k46 n x6 x7))
def fX1_watchersOf (L : tL) (u1 : Int32) : Option (Int32) :=
  fX1_watchersOf_4 L u1 (fun y8 => some y8) 100000 (0 : Int32) (0 : Int32)

def fX1_lowestRegion_5 (L : tL) (g1_5 : Int64) (k32 : Int64 → Option (Int64)) : Nat → Int64 → Int32 → Option (Int64)
  | 0, _, _ => none
  | n + 1, v3_5, v5_5 => if L.2.1 ≤ v5_5 then k32 v3_5 else nm ((v3_5 ||| ((1 : Int64) <<< ((v5_5 * L.1).toInt64 &&& 63)))) fun x1 => nm (v5_5 + (1 : Int32)) fun x2 => fX1_lowestRegion_5 L g1_5 k32 n x1 x2
def fX1_lowestRegion_51 (L : tL) (g1_51 : Int64) (g3_51 : Int64) (g5_51 : Int64) (k117 : Int64 → Option (Int64)) : Nat → Int64 → Int32 → Option (Int64)
  | 0, _, _ => none
  | n + 1, v7_51, v9_51 => if (36 : Int32) ≤ v9_51 then k117 v7_51 else nm (((v7_51 &&& (g5_51 ^^^ (-1 : Int64))) <<< ((1 : Int32).toInt64 &&& 63))) fun x6 => nm (((v7_51 &&& (g3_51 ^^^ (-1 : Int64))).toUInt64 >>> ((1 : Int32).toInt64.toUInt64 &&& Int64.toUInt64 63)).toInt64) fun x7 => nm ((v7_51 ||| ((((x6 ||| x7) ||| (v7_51 <<< (L.1.toInt64 &&& 63))) ||| ((v7_51.toUInt64 >>> (L.1.toInt64.toUInt64 &&& Int64.toUInt64 63)).toInt64)) &&& g1_51))) fun x8 => nm (v9_51 + (1 : Int32)) fun x9 => fX1_lowestRegion_51 L g1_51 g3_51 g5_51 k117 n x8 x9
def fX1_lowestRegion (L : tL) (u1 : Int64) : Option (Int64) :=
  fX1_lowestRegion_5 L u1 (fun y3 => nm ((y3 <<< ((L.1 - (1 : Int32)).toInt64 &&& 63))) fun x4 => nm ((u1 &&& (-u1))) fun x5 => fX1_lowestRegion_51 L u1 y3 x4 (fun y10 => some y10) 100000 x5 (0 : Int32)) 100000 (0 : Int64) (0 : Int32)

def fX1_regionCount_5 (L : tL) (k36 : Int32 → Option (Int32)) : Nat → Int64 → Int32 → Option (Int32)
  | 0, _, _ => none
  | n + 1, v3_5, v5_5 => if (lg_cmp v3_5 (0 : Int64)) = 0 then k36 v5_5 else if (36 : Int32) ≤ v5_5 then k36 v5_5 else (fX1_lowestRegion L v3_5).bind fun r2 => nm ((v3_5 &&& (r2 ^^^ (-1 : Int64)))) fun x3 => nm (v5_5 + (1 : Int32)) fun x4 => fX1_regionCount_5 L k36 n x3 x4
def fX1_regionCount (L : tL) (u1 : Int64) : Option (Int32) :=
  fX1_regionCount_5 L (fun y5 => some y5) 100000 u1 (0 : Int32)

def fX1_regionNumbered_6 (L : tL) (g1_6 : Int32) (k40 : Int64 → Option (Int64)) : Nat → Int64 → Int32 → Option (Int64)
  | 0, _, _ => none
  | n + 1, v4_6, v6_6 => if g1_6 ≤ v6_6 then k40 v4_6 else if (36 : Int32) ≤ v6_6 then k40 v4_6 else (fX1_lowestRegion L v4_6).bind fun r2 => nm ((v4_6 &&& (r2 ^^^ (-1 : Int64)))) fun x3 => nm (v6_6 + (1 : Int32)) fun x4 => fX1_regionNumbered_6 L g1_6 k40 n x3 x4
def fX1_regionNumbered (L : tL) (u1 : Int32) (u2 : Int64) : Option (Int64) :=
  fX1_regionNumbered_6 L u1 (fun y5 => (fX1_lowestRegion L y5).bind fun r7 => some r7) 100000 u2 (0 : Int32)

def fX1_regionOf_6 (L : tL) (g1_6 : Int32) (k37 : Int32 → Option (Int32)) (k57 : Option (Int32)) : Nat → Int64 → Int32 → Option (Int32)
  | 0, _, _ => none
  | n + 1, v4_6, v6_6 => if (36 : Int32) ≤ v6_6 then k57 else if (lg_cmp v4_6 (0 : Int64)) = 0 then k57 else (fX1_lowestRegion L v4_6).bind fun r2 => (fX4_contains r2 g1_6).bind fun r4 => if r4 = 0 then nm ((v4_6 &&& (r2 ^^^ (-1 : Int64)))) fun x5 => nm (v6_6 + (1 : Int32)) fun x6 => fX1_regionOf_6 L g1_6 k37 k57 n x5 x6 else k37 v6_6
def fX1_regionOf (L : tL) (u1 : Int32) (u2 : Int64) : Option (Int32) :=
  fX1_regionOf_6 L u1 (fun y7 => some y7) (some (-9 : Int32)) 100000 u2 (0 : Int32)

def fX1_startAnew (L : tL) (u1 : Int32) (u2 : Int32) : Option (tL) :=
  (fJ7_fill_53178 L.2.2.2.1 (0 : Int32)).bind fun y2 => some (u1, u2, (0 : Int32), y2, L.2.2.2.2.1, L.2.2.2.2.2.1, (upd (upd (upd (upd L.2.2.2.2.2.2 (0 : Int32).toNatClampNeg (1 : Int32)) (1 : Int32).toNatClampNeg (0 : Int32)) (2 : Int32).toNatClampNeg (0 : Int32)) (3 : Int32).toNatClampNeg (9 : Int32)))

def fX1_copyFrom (L : tL) (K : tL) : Option (tL) :=
  some (K.1, K.2.1, K.2.2.1, (va_cpy K.2.2.2.1 L.2.2.2.1 (0 : Int32).toNatClampNeg (0 : Int32).toNatClampNeg (36 : Int32).toNatClampNeg), (va_cpy K.2.2.2.2.1 L.2.2.2.2.1 (0 : Int32).toNatClampNeg (0 : Int32).toNatClampNeg (5 : Int32).toNatClampNeg), (va_cpy K.2.2.2.2.2.1 L.2.2.2.2.2.1 (0 : Int32).toNatClampNeg (0 : Int32).toNatClampNeg (5 : Int32).toNatClampNeg), (va_cpy K.2.2.2.2.2.2 L.2.2.2.2.2.2 (0 : Int32).toNatClampNeg (0 : Int32).toNatClampNeg (4 : Int32).toNatClampNeg))
