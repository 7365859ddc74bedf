def fX4_slotLand (ad : Nat → Nat) (u1 : Int32) : Option (Nat) :=
  if u1 = 0 then some (ad 11) else some (ad 16)

def fX4_fillViews_2 (g1_2 : Int32) (k43 : tH → Option (tH)) : Nat → Int32 → tH → Option (tH)
  | 0, _, _ => none
  | n + 1, v2_2, S_2 => (fX1_cellCount S_2.1).bind fun r2 => if r2 ≤ v2_2 then k43 S_2 else if (36 : Int32) ≤ v2_2 then k43 S_2 else (fX1_viewFrom S_2.1 v2_2 g1_2).bind fun r4 => gd (inb v2_2 36) (nm (v2_2 + (1 : Int32)) fun x6 => fX4_fillViews_2 g1_2 k43 n x6 (S_2.1, S_2.2.1, S_2.2.2.1, S_2.2.2.2.1, S_2.2.2.2.2.1, S_2.2.2.2.2.2.1, S_2.2.2.2.2.2.2.1, S_2.2.2.2.2.2.2.2.1, (vp_updL S_2.2.2.2.2.2.2.2.2.1 v2_2.toNatClampNeg r4), S_2.2.2.2.2.2.2.2.2.2))
def fX4_fillViews (S : tH) (u1 : Int32) : Option (tH) :=
  fX4_fillViews_2 u1 (fun S7 => some S7) 100000 (0 : Int32) S

def fX4_holds (S : tH) (u1 : Int32) : Option (Int32 × tH) :=
  nm (((u1 / (1000 : Int32)) - (u1 / (1000 : Int32)) / (10 : Int32) * (10 : Int32))) fun x1 => nm (((u1 / (100 : Int32)) - (u1 / (100 : Int32)) / (10 : Int32) * (10 : Int32))) fun x2 => nm (((u1 / (10 : Int32)) - (u1 / (10 : Int32)) / (10 : Int32) * (10 : Int32))) fun x3 => nm ((u1 - u1 / (10 : Int32) * (10 : Int32))) fun x4 => nm ((((10 : Int32) * x1) + x2)) fun x5 => if x4 = 0 then if (u1 / (10000 : Int32)) = 1 then (fX1_putHeight S.2.1 x5 x3).bind fun y7 => gd (zb y7.1) (some (y7.1, (S.1, y7.2, S.2.2.1, S.2.2.2.1, S.2.2.2.2.1, S.2.2.2.2.2.1, S.2.2.2.2.2.2.1, S.2.2.2.2.2.2.2.1, S.2.2.2.2.2.2.2.2.1, S.2.2.2.2.2.2.2.2.2))) else if (u1 / (10000 : Int32)) = 2 then (fX1_putTower S.2.1 S.2.1.2.2.1 x5 x3).bind fun y9 => gd (zb y9.1) (some (y9.1, (S.1, y9.2, S.2.2.1, S.2.2.2.1, S.2.2.2.2.1, S.2.2.2.2.2.1, S.2.2.2.2.2.2.1, S.2.2.2.2.2.2.2.1, S.2.2.2.2.2.2.2.2.1, S.2.2.2.2.2.2.2.2.2))) else if (u1 / (10000 : Int32)) = 3 then if x2 = 0 then if x3 = 0 then (fX1_dropTower S.2.1 x1).bind fun y11 => if y11.1 = 0 then some ((0 : Int32), (S.1, y11.2, S.2.2.1, S.2.2.2.1, S.2.2.2.2.1, S.2.2.2.2.2.1, S.2.2.2.2.2.2.1, S.2.2.2.2.2.2.2.1, S.2.2.2.2.2.2.2.2.1, S.2.2.2.2.2.2.2.2.2)) else some ((1 : Int32), (S.1, y11.2, S.2.2.1, S.2.2.2.1, S.2.2.2.2.1, S.2.2.2.2.2.1, S.2.2.2.2.2.2.1, S.2.2.2.2.2.2.2.1, S.2.2.2.2.2.2.2.2.1, S.2.2.2.2.2.2.2.2.2)) else some ((0 : Int32), S) else some ((0 : Int32), S) else if (u1 / (10000 : Int32)) = 4 then if x3 = 0 then (fX1_hiddenSet S.2.1).bind fun r13 => (fJ13_bitCount_95d88 r13).bind fun r15 => if r15 = x5 then some ((1 : Int32), S) else some ((0 : Int32), S) else some ((0 : Int32), S) else if (u1 / (10000 : Int32)) = 5 then if (1 : Int32) < x3 then some ((0 : Int32), S) else (fX1_hasCell S.2.1 x5).bind fun r17 => if r17 = 0 then some ((0 : Int32), S) else (fX1_hiddenSet S.2.1).bind fun r19 => (fX4_contains r19 x5).bind fun r21 => if x3 = 0 then if r21 = (1 : Int32) then some ((1 : Int32), S) else some ((0 : Int32), S) else if r21 = (0 : Int32) then some ((1 : Int32), S) else some ((0 : Int32), S) else if (u1 / (10000 : Int32)) = 6 then if x3 = 0 then (fX1_putSetting S.2.1 x1 x2).bind fun y23 => if y23.1 = 0 then some ((0 : Int32), (S.1, y23.2, S.2.2.1, S.2.2.2.1, S.2.2.2.2.1, S.2.2.2.2.2.1, S.2.2.2.2.2.2.1, S.2.2.2.2.2.2.2.1, S.2.2.2.2.2.2.2.2.1, S.2.2.2.2.2.2.2.2.2)) else some ((1 : Int32), (S.1, y23.2, S.2.2.1, S.2.2.2.1, S.2.2.2.2.1, S.2.2.2.2.2.1, S.2.2.2.2.2.2.1, S.2.2.2.2.2.2.2.1, S.2.2.2.2.2.2.2.2.1, S.2.2.2.2.2.2.2.2.2)) else some ((0 : Int32), S) else if (u1 / (10000 : Int32)) = 7 then if x2 = 0 then if x3 = 0 then (fX1_hiddenSet S.2.1).bind fun r25 => (fX1_regionCount S.2.1 r25).bind fun r27 => if r27 = x1 then some ((1 : Int32), S) else some ((0 : Int32), S) else some ((0 : Int32), S) else some ((0 : Int32), S) else some ((0 : Int32), S) else some ((0 : Int32), S)

def fX4_write (S : tH) (u1 : Int32) : Option (Int32 × tH) :=
  if u1 < 0 then some ((-2 : Int32), S) else if u1 ≤ (255 : Int32) then (fX2_append S.2.2.2.2.2.1 ((u1.toUInt32 % 65536).toInt32)).bind fun y2 => if y2.1 = 0 then some ((-4 : Int32), (S.1, S.2.1, S.2.2.1, S.2.2.2.1, S.2.2.2.2.1, y2.2, S.2.2.2.2.2.2.1, S.2.2.2.2.2.2.2.1, S.2.2.2.2.2.2.2.2.1, S.2.2.2.2.2.2.2.2.2)) else some (y2.2.2.1, (S.1, S.2.1, S.2.2.1, S.2.2.2.1, S.2.2.2.2.1, y2.2, S.2.2.2.2.2.2.1, S.2.2.2.2.2.2.2.1, S.2.2.2.2.2.2.2.2.1, S.2.2.2.2.2.2.2.2.2)) else some ((-2 : Int32), S)

def fX4_wipe (S : tH) : Option (Int32 × tH) :=
  some (S.2.2.2.2.2.1.2.1, (S.1, S.2.1, S.2.2.1, S.2.2.2.1, S.2.2.2.2.1, (S.2.2.2.2.2.1.1, (0 : Int32), S.2.2.2.2.2.1.2.2.1, S.2.2.2.2.2.1.2.2.2), S.2.2.2.2.2.2.1, S.2.2.2.2.2.2.2.1, S.2.2.2.2.2.2.2.2.1, S.2.2.2.2.2.2.2.2.2))

def fX4_fault (S : tH) : Option (Int32 × tH) :=
  (fX2_readInto S.2.2.2.2.2.1 S.2.1).bind fun y2 => if y2.1 = 0 then some (y2.2.1.2.2.1, (S.1, y2.2.2, S.2.2.1, S.2.2.2.1, S.2.2.2.2.1, y2.2.1, S.2.2.2.2.2.2.1, S.2.2.2.2.2.2.2.1, S.2.2.2.2.2.2.2.2.1, S.2.2.2.2.2.2.2.2.2)) else some ((-9 : Int32), (S.1, y2.2.2, S.2.2.1, S.2.2.2.1, S.2.2.2.2.1, y2.2.1, S.2.2.2.2.2.2.1, S.2.2.2.2.2.2.2.1, S.2.2.2.2.2.2.2.2.1, S.2.2.2.2.2.2.2.2.2))

def fX4_map (S : tH) : Option (Int32 × tH) :=
  (fX2_readInto S.2.2.2.2.2.1 S.2.1).bind fun y2 => if y2.1 = 0 then some ((-3 : Int32), (S.1, y2.2.2, S.2.2.1, S.2.2.2.1, S.2.2.2.2.1, y2.2.1, S.2.2.2.2.2.2.1, S.2.2.2.2.2.2.2.1, S.2.2.2.2.2.2.2.2.1, S.2.2.2.2.2.2.2.2.2)) else (fX1_copyFrom S.1 y2.2.2).bind fun y4 => (fX1_cellCount y4).bind fun r6 => some (r6, (y4, y2.2.2, S.2.2.1, S.2.2.2.1, (0 : Int32), y2.2.1, (S.2.2.2.2.2.2.1.1, S.2.2.2.2.2.2.1.2.1, S.2.2.2.2.2.2.1.2.2.1, S.2.2.2.2.2.2.1.2.2.2.1, (0 : Int32)), S.2.2.2.2.2.2.2.1, S.2.2.2.2.2.2.2.2.1, S.2.2.2.2.2.2.2.2.2))

def fX4_about (S : tH) (u1 : Int32) : Option (Int32) :=
  if u1 = 0 then some S.1.1 else if u1 = 1 then some S.1.2.1 else if u1 = 2 then some S.1.2.2.1 else if u1 = 3 then some (S.1.2.2.2.2.2.2 (0 : Int32).toNatClampNeg) else if u1 = 4 then some (S.1.2.2.2.2.2.2 (1 : Int32).toNatClampNeg) else if u1 = 5 then some (S.1.2.2.2.2.2.2 (2 : Int32).toNatClampNeg) else if u1 = 6 then some (S.1.2.2.2.2.2.2 (3 : Int32).toNatClampNeg) else if u1 = 7 then (fX1_hiddenSet S.1).bind fun r2 => (fJ13_bitCount_95d88 r2).bind fun r4 => some r4 else if u1 = 8 then (fX1_hiddenSet S.1).bind fun r6 => (fX1_regionCount S.1 r6).bind fun r8 => some r8 else if u1 = 9 then some S.2.2.2.2.2.2.1.2.2.2.2 else if u1 = 10 then some S.2.2.2.2.2.2.2.1.2.2 else if u1 = 11 then some S.2.2.2.2.2.1.2.1 else some (-2 : Int32)

def fX4_cell (S : tH) (u1 : Int32) (u2 : Int32) : Option (Int32) :=
  (fX1_hasCell S.1 u1).bind fun r2 => if r2 = 0 then some (-1 : Int32) else if u2 = 0 then (fX1_heightOf S.1 u1).bind fun r4 => some r4 else if u2 = 1 then (fX1_towersOn S.1 u1).bind fun r6 => some r6 else if u2 = 2 then (fX1_watchersOf S.1 u1).bind fun r8 => some r8 else if u2 = 3 then (fX1_viewFrom S.1 u1 (S.1.2.2.2.2.2.2 (0 : Int32).toNatClampNeg)).bind fun r10 => (fJ13_bitCount_95d88 r10).bind fun r12 => some r12 else if u2 = 4 then (fX1_hiddenSet S.1).bind fun r14 => (fX1_regionOf S.1 u1 r14).bind fun r16 => some r16 else some (-2 : Int32)

def fX4_tower (S : tH) (u1 : Int32) (u2 : Int32) : Option (Int32) :=
  (fX1_hasTower S.1 u1).bind fun r2 => if r2 = 0 then some (-1 : Int32) else if u2 = 0 then gd (inb u1 5) (some (S.1.2.2.2.2.1 u1.toNatClampNeg)) else if u2 = 1 then gd (inb u1 5) (some (S.1.2.2.2.2.2.1 u1.toNatClampNeg)) else if u2 = 2 then (fX1_towerView S.1 u1).bind fun r6 => (fJ13_bitCount_95d88 r6).bind fun r8 => some r8 else if u2 = 3 then (fX1_seenAlone S.1 u1).bind fun r10 => (fJ13_bitCount_95d88 r10).bind fun r12 => some r12 else some (-2 : Int32)

def fX4_raise (S : tH) (u1 : Int32) (u2 : Int32) : Option (Int32 × tH) :=
  (fX1_hasCell S.1 u1).bind fun r2 => if r2 = 0 then some ((-1 : Int32), S) else (fX4_isDigit u2).bind fun r4 => if r4 = 0 then some ((-2 : Int32), S) else (fX1_heightOf S.1 u1).bind fun r6 => (fX0_note S.2.2.2.2.2.2.1 (0 : Int32) u1 r6 (0 : Int32)).bind fun y8 => (fX1_putHeight S.1 u1 u2).bind fun y10 => some (r6, (y10.2, S.2.1, S.2.2.1, S.2.2.2.1, S.2.2.2.2.1, S.2.2.2.2.2.1, y8, S.2.2.2.2.2.2.2.1, S.2.2.2.2.2.2.2.2.1, S.2.2.2.2.2.2.2.2.2))

def fX4_build (S : tH) (u1 : Int32) (u2 : Int32) : Option (Int32 × tH) :=
  (fX1_hasCell S.1 u1).bind fun r2 => if r2 = 0 then some ((-1 : Int32), S) else (fX4_isDigit u2).bind fun r4 => if r4 = 0 then some ((-2 : Int32), S) else if S.1.2.2.1 < (5 : Int32) then (fX0_note S.2.2.2.2.2.2.1 (1 : Int32) S.1.2.2.1 u1 u2).bind fun y6 => (fX1_putTower S.1 S.1.2.2.1 u1 u2).bind fun y8 => some (y8.2.2.2.1, (y8.2, S.2.1, S.2.2.1, S.2.2.2.1, S.2.2.2.2.1, S.2.2.2.2.2.1, y6, S.2.2.2.2.2.2.2.1, S.2.2.2.2.2.2.2.2.1, S.2.2.2.2.2.2.2.2.2)) else some ((-4 : Int32), S)

def fX4_raze (S : tH) (u1 : Int32) : Option (Int32 × tH) :=
  (fX1_hasTower S.1 u1).bind fun r2 => if r2 = 0 then some ((-1 : Int32), S) else gd (inb u1 5) (gd (inb u1 5) ((fX0_note S.2.2.2.2.2.2.1 (2 : Int32) u1 (S.1.2.2.2.2.1 u1.toNatClampNeg) (S.1.2.2.2.2.2.1 u1.toNatClampNeg)).bind fun y6 => (fX1_dropTower S.1 u1).bind fun y8 => some (y8.2.2.2.1, (y8.2, S.2.1, S.2.2.1, S.2.2.2.1, S.2.2.2.2.1, S.2.2.2.2.2.1, y6, S.2.2.2.2.2.2.2.1, S.2.2.2.2.2.2.2.2.1, S.2.2.2.2.2.2.2.2.2))))

def fX4_set (S : tH) (u1 : Int32) (u2 : Int32) : Option (Int32 × tH) :=
  (fX4_isSetting u1 u2).bind fun r2 => if r2 = 0 then some ((-2 : Int32), S) else gd (inb u1 4) (nm ((S.1.2.2.2.2.2.2 u1.toNatClampNeg)) fun x4 => (fX0_note S.2.2.2.2.2.2.1 (3 : Int32) u1 x4 (0 : Int32)).bind fun y6 => (fX1_putSetting S.1 u1 u2).bind fun y8 => some (x4, (y8.2, S.2.1, S.2.2.1, S.2.2.2.1, S.2.2.2.2.1, S.2.2.2.2.2.1, y6, S.2.2.2.2.2.2.2.1, S.2.2.2.2.2.2.2.2.1, S.2.2.2.2.2.2.2.2.2)))

def fX4_undo (S : tH) : Option (Int32 × tH) :=
  if S.2.2.2.2.2.2.1.2.2.2.2 = 0 then some ((-3 : Int32), S) else (fX0_takeBack S.2.2.2.2.2.2.1 S.1).bind fun y2 => some (y2.1.2.2.2.2, (y2.2, S.2.1, S.2.2.1, S.2.2.2.1, S.2.2.2.2.1, S.2.2.2.2.2.1, y2.1, S.2.2.2.2.2.2.2.1, S.2.2.2.2.2.2.2.2.1, S.2.2.2.2.2.2.2.2.2))

def fX4_sees (S : tH) (u1 : Int32) (u2 : Int32) (u3 : Int32) : Option (Int32) :=
  (fX1_hasCell S.1 u1).bind fun r2 => if r2 = 0 then some (-1 : Int32) else (fX1_hasCell S.1 u2).bind fun r4 => if r4 = 0 then some (-1 : Int32) else nm ((S.1.2.2.2.2.2.2 (0 : Int32).toNatClampNeg)) fun x5 => if u3 = 0 then (fX1_canSee S.1 u1 x5 u2).bind fun r7 => if r7 = 0 then some (0 : Int32) else some (1 : Int32) else if u3 = 1 then (fX1_distance S.1 u1 u2).bind fun r9 => some r9 else if u3 = 2 then (fX1_firstBlock S.1 u1 x5 u2).bind fun r11 => some r11 else if u3 = 3 then (fX1_distance S.1 u1 u2).bind fun r13 => if (2 : Int32) ≤ r13 then (fX1_greatestExcess S.1 u1 x5 u2).bind fun r15 => some ((1000 : Int32) + r15) else some (-9 : Int32) else if u3 = 4 then (fX1_neededRise S.1 u1 u2).bind fun r17 => some r17 else some (-2 : Int32)

def fX4_view (S : tH) (u1 : Int32) : Option (Int64) :=
  (fX1_hasCell S.1 u1).bind fun r2 => if r2 = 0 then some (-1 : Int64) else (fX1_viewFrom S.1 u1 (S.1.2.2.2.2.2.2 (0 : Int32).toNatClampNeg)).bind fun r4 => some r4

def fX4_watched (S : tH) (u1 : Int32) : Option (Int64) :=
  (fX1_hasTower S.1 u1).bind fun r2 => if r2 = 0 then some (-1 : Int64) else (fX1_towerView S.1 u1).bind fun r4 => some r4

def fX4_joined_39 (S : tH) (g1_39 : Int32) (k72 : Int64 → Option (Int64)) : Nat → Int64 → Int32 → Option (Int64)
  | 0, _, _ => none
  | n + 1, v2_39, v4_39 => if S.1.2.2.1 ≤ v4_39 then k72 v2_39 else (fX1_towerView S.1 v4_39).bind fun r4 => (fX4_combine g1_39 v2_39 r4).bind fun r6 => nm (v4_39 + (1 : Int32)) fun x7 => fX4_joined_39 S g1_39 k72 n r6 x7
def fX4_joined (S : tH) (u1 : Int32) : Option (Int64) :=
  if u1 < 0 then some (-2 : Int64) else if u1 ≤ (3 : Int32) then if S.1.2.2.1 = 0 then fX4_joined_39 S u1 (fun y9 => some y9) 100000 (0 : Int64) (1 : Int32) else (fX1_towerView S.1 (0 : Int32)).bind fun r2 => fX4_joined_39 S u1 (fun y8 => some y8) 100000 r2 (1 : Int32) else some (-2 : Int64)

def fX4_hollow (S : tH) (u1 : Int32) : Option (Int64) :=
  if u1 < 0 then some (-1 : Int64) else if u1 < (36 : Int32) then (fX1_hiddenSet S.1).bind fun r2 => (fX1_regionNumbered S.1 u1 r2).bind fun r4 => if (lg_cmp r4 (0 : Int64)) = 0 then some (-1 : Int64) else some r4 else some (-1 : Int64)

def fX4_last_64 (S : tH) (g1_64 : Int32) (g2_64 : Int32) (g3_64 : Int32) (k105 : Int32 → Option (Int32)) (k147 : Int32 → Option (Int32)) : Nat → Int32 → Int32 → Int32 → Int32 → Option (Int32)
  | 0, _, _, _, _ => none
  | n + 1, v4_64, v5_64, v6_64, v7_64 => if (36 : Int32) ≤ v7_64 then k147 v6_64 else gd (inb g2_64 8) (nm ((v4_64 + (tabC g2_64.toNatClampNeg))) fun x9 => gd (inb g2_64 8) (nm ((v5_64 + (tabR g2_64.toNatClampNeg))) fun x11 => (fX1_isInside S.1 x9 x11).bind fun r13 => if r13 = 0 then k105 v6_64 else nm (((x11 * S.1.1) + x9)) fun x14 => (fX1_canSee S.1 g1_64 g3_64 x14).bind fun r16 => if r16 = 0 then nm (v7_64 + (1 : Int32)) fun x17 => fX4_last_64 S g1_64 g2_64 g3_64 k105 k147 n x9 x11 v6_64 x17 else nm (v7_64 + (1 : Int32)) fun x18 => fX4_last_64 S g1_64 g2_64 g3_64 k105 k147 n x9 x11 x14 x18))
def fX4_last (S : tH) (u1 : Int32) (u2 : Int32) : Option (Int32) :=
  (fX1_hasCell S.1 u1).bind fun r2 => if r2 = 0 then some (-1 : Int32) else if u2 < 0 then some (-2 : Int32) else if u2 < (8 : Int32) then nm ((S.1.2.2.2.2.2.2 (0 : Int32).toNatClampNeg)) fun x3 => (fX1_columnOf S.1 u1).bind fun r5 => (fX1_rowOf S.1 u1).bind fun r7 => fX4_last_64 S u1 u2 x3 (fun y19 => some y19) (fun y20 => some y20) 100000 r5 r7 u1 (0 : Int32) else some (-2 : Int32)

def fX4_best_37 (S : tH) (g1_37 : Int32) (g2_37 : Int32) (g3_37 : Int64) (k91 : Int32 → Int32 → Option (Int32)) : Nat → Int32 → Int32 → Int32 → Option (Int32)
  | 0, _, _, _ => none
  | n + 1, v5_37, v6_37, v7_37 => (fX1_cellCount S.1).bind fun r6 => if r6 ≤ v7_37 then k91 v5_37 v6_37 else (fX1_viewFrom S.1 v7_37 g1_37).bind fun r8 => (fJ13_bitCount_95d88 (g3_37 &&& (r8 ^^^ (-1 : Int64)))).bind fun r10 => if v6_37 ≤ r10 then nm (v7_37 + (1 : Int32)) fun x11 => fX4_best_37 S g1_37 g2_37 g3_37 k91 n v5_37 v6_37 x11 else nm (v7_37 + (1 : Int32)) fun x12 => fX4_best_37 S g1_37 g2_37 g3_37 k91 n v7_37 r10 x12
def fX4_best (S : tH) (u1 : Int32) (u2 : Int32) : Option (Int32) :=
  (fX4_isDigit u1).bind fun r2 => if r2 = 0 then some (-2 : Int32) else if u2 < 0 then some (-2 : Int32) else if u2 ≤ (1 : Int32) then (fX1_hiddenSet S.1).bind fun r4 => fX4_best_37 S u1 u2 r4 (fun y13 y14 => if u2 = 0 then some y13 else some y14) 100000 (0 : Int32) (37 : Int32) (0 : Int32) else some (-2 : Int32)

def fX4_two_73 (S_73 : tH) (g2_73 : Int32) (g3_73 : Int64) (g5_73 : Int32) (g9_73 : Int32) (k131 : Int32 → Int32 → Int32 → Option (Int32 × tH)) : Nat → Int32 → Int32 → Int32 → Int32 → Option (Int32 × tH)
  | 0, _, _, _, _ => none
  | n + 1, v6_73, v7_73, v8_73, v10_73 => if g5_73 ≤ v10_73 then k131 v6_73 v7_73 v8_73 else gd (inb g9_73 36) (gd (inb v10_73 36) ((fJ13_bitCount_95d88 (g3_73 &&& (((S_73.2.2.2.2.2.2.2.2.1 g9_73.toNatClampNeg) ||| (S_73.2.2.2.2.2.2.2.2.1 v10_73.toNatClampNeg)) ^^^ (-1 : Int64)))).bind fun r13 => if v8_73 ≤ r13 then nm (v10_73 + (1 : Int32)) fun x14 => fX4_two_73 S_73 g2_73 g3_73 g5_73 g9_73 k131 n v6_73 v7_73 v8_73 x14 else nm (v10_73 + (1 : Int32)) fun x15 => fX4_two_73 S_73 g2_73 g3_73 g5_73 g9_73 k131 n g9_73 v10_73 r13 x15))
def fX4_two_62 (S_62 : tH) (g2_62 : Int32) (g3_62 : Int64) (g5_62 : Int32) (k137 : Int32 → Int32 → Int32 → Option (Int32 × tH)) : Nat → Int32 → Int32 → Int32 → Int32 → Option (Int32 × tH)
  | 0, _, _, _, _ => none
  | n + 1, v6_62, v7_62, v8_62, v9_62 => if g5_62 ≤ v9_62 then k137 v6_62 v7_62 v8_62 else fX4_two_73 S_62 g2_62 g3_62 g5_62 v9_62 (fun y16 y17 y18 => nm (v9_62 + (1 : Int32)) fun x19 => fX4_two_62 S_62 g2_62 g3_62 g5_62 k137 n y16 y17 y18 x19) 100000 v6_62 v7_62 v8_62 v9_62
def fX4_two (S : tH) (u1 : Int32) (u2 : Int32) : Option (Int32 × tH) :=
  (fX4_isDigit u1).bind fun r2 => if r2 = 0 then some ((-2 : Int32), S) else if u2 < 0 then some ((-2 : Int32), S) else if u2 ≤ (2 : Int32) then (fX4_fillViews S u1).bind fun y4 => (fX1_hiddenSet y4.1).bind fun r6 => (fX1_cellCount y4.1).bind fun r8 => nm ((if (36 : Int32) < r8 then (36 : Int32) else r8)) fun x9 => fX4_two_62 y4 u2 r6 x9 (fun y20 y21 y22 => if u2 = (2 : Int32) then some (y22, y4) else if u2 = 0 then some (y20, y4) else some (y21, y4)) 100000 (0 : Int32) (0 : Int32) (37 : Int32) (0 : Int32) else some ((-2 : Int32), S)

def fX4_part (S : tH) (u1 : Int32) : Option (Int32) :=
  (fX1_cellCount S.1).bind fun r2 => (fX1_hiddenSet S.1).bind fun r4 => (fJ13_bitCount_95d88 r4).bind fun r6 => (fX4_lowestTerms (r2 - r6) r2 u1).bind fun r8 => some r8

def fX4_judge_25 (S_25 : tH) (g1_25 : Int32) (g2_25 : Int64) (k45 : Int64 → Option (Int32 × tH)) : Nat → Int64 → Int32 → Option (Int32 × tH)
  | 0, _, _ => none
  | n + 1, v4_25, v6_25 => if g1_25 ≤ v6_25 then k45 v4_25 else nm ((v4_25 * (100000 : Int64))) fun x1 => nm (v6_25 + (1 : Int32)) fun x2 => fX4_judge_25 S_25 g1_25 g2_25 k45 n x1 x2
def fX4_judge_69 (g1_69 : Int32) (g2_69 : Int64) (k106 : Int32 → tH → Option (Int32 × tH)) (k115 : tH → Option (Int32 × tH)) : Nat → Int64 → Int32 → tH → Option (Int32 × tH)
  | 0, _, _, _ => none
  | n + 1, v4_69, v6_69, S_69 => if g1_69 ≤ v6_69 then k115 S_69 else nm ((v4_69 / (100000 : Int64))) fun x6 => if (lg_cmp x6 (1 : Int64)) < 0 then k106 v6_69 S_69 else gd (nzl x6) ((fX4_holds S_69 (((g2_69 / x6) - (g2_69 / x6) / (100000 : Int64) * (100000 : Int64)).toInt32)).bind fun y9 => if y9.1 = 0 then k106 v6_69 y9.2 else nm (v6_69 + (1 : Int32)) fun x10 => fX4_judge_69 g1_69 g2_69 k106 k115 n x6 x10 y9.2)
def fX4_judge (S : tH) (u1 : Int32) (u2 : Int64) : Option (Int32 × tH) :=
  if u1 < (1 : Int32) then some ((-2 : Int32), S) else if (3 : Int32) < u1 then some ((-2 : Int32), S) else if 0 ≤ (lg_cmp u2 (0 : Int64)) then fX4_judge_25 S u1 u2 (fun y3 => if (lg_cmp u2 y3) < 0 then (fX1_copyFrom S.2.1 S.1).bind fun y5 => fX4_judge_69 u1 u2 (fun y11 S12 => some (y11, S12)) (fun S13 => some ((-9 : Int32), S13)) 100000 y3 (0 : Int32) (S.1, y5, S.2.2.1, S.2.2.2.1, S.2.2.2.2.1, S.2.2.2.2.2.1, S.2.2.2.2.2.2.1, S.2.2.2.2.2.2.2.1, S.2.2.2.2.2.2.2.2.1, S.2.2.2.2.2.2.2.2.2) else some ((-2 : Int32), S)) 100000 (1 : Int64) (0 : Int32) else some ((-2 : Int32), S)

def fX4_find (S : tH) (u1 : Int32) (u2 : Int32) : Option (Int32 × tH) :=
  (fX1_hasCell S.1 u1).bind fun r2 => if r2 = 0 then some ((-1 : Int32), S) else if u2 = 0 then if u2 = (1 : Int32) then (fX3_add S.2.2.2.2.2.2.2.1 u1 (1 : Int32)).bind fun y6 => if y6.1 = 0 then some ((-4 : Int32), (S.1, S.2.1, S.2.2.1, S.2.2.2.1, S.2.2.2.2.1, S.2.2.2.2.2.1, S.2.2.2.2.2.2.1, y6.2, S.2.2.2.2.2.2.2.2.1, S.2.2.2.2.2.2.2.2.2)) else some (y6.2.2.2, (S.1, S.2.1, S.2.2.1, S.2.2.2.1, S.2.2.2.2.1, S.2.2.2.2.2.1, S.2.2.2.2.2.2.1, y6.2, S.2.2.2.2.2.2.2.2.1, S.2.2.2.2.2.2.2.2.2)) else (fX3_add S.2.2.2.2.2.2.2.1 u1 (0 : Int32)).bind fun y4 => if y4.1 = 0 then some ((-4 : Int32), (S.1, S.2.1, S.2.2.1, S.2.2.2.1, S.2.2.2.2.1, S.2.2.2.2.2.1, S.2.2.2.2.2.2.1, y4.2, S.2.2.2.2.2.2.2.2.1, S.2.2.2.2.2.2.2.2.2)) else some (y4.2.2.2, (S.1, S.2.1, S.2.2.1, S.2.2.2.1, S.2.2.2.2.1, S.2.2.2.2.2.1, S.2.2.2.2.2.2.1, y4.2, S.2.2.2.2.2.2.2.2.1, S.2.2.2.2.2.2.2.2.2)) else if u2 = (1 : Int32) then if u2 = (1 : Int32) then (fX3_add S.2.2.2.2.2.2.2.1 u1 (1 : Int32)).bind fun y10 => if y10.1 = 0 then some ((-4 : Int32), (S.1, S.2.1, S.2.2.1, S.2.2.2.1, S.2.2.2.2.1, S.2.2.2.2.2.1, S.2.2.2.2.2.2.1, y10.2, S.2.2.2.2.2.2.2.2.1, S.2.2.2.2.2.2.2.2.2)) else some (y10.2.2.2, (S.1, S.2.1, S.2.2.1, S.2.2.2.1, S.2.2.2.2.1, S.2.2.2.2.2.1, S.2.2.2.2.2.2.1, y10.2, S.2.2.2.2.2.2.2.2.1, S.2.2.2.2.2.2.2.2.2)) else (fX3_add S.2.2.2.2.2.2.2.1 u1 (0 : Int32)).bind fun y8 => if y8.1 = 0 then some ((-4 : Int32), (S.1, S.2.1, S.2.2.1, S.2.2.2.1, S.2.2.2.2.1, S.2.2.2.2.2.1, S.2.2.2.2.2.2.1, y8.2, S.2.2.2.2.2.2.2.2.1, S.2.2.2.2.2.2.2.2.2)) else some (y8.2.2.2, (S.1, S.2.1, S.2.2.1, S.2.2.2.1, S.2.2.2.2.1, S.2.2.2.2.2.1, S.2.2.2.2.2.2.1, y8.2, S.2.2.2.2.2.2.2.2.1, S.2.2.2.2.2.2.2.2.2)) else some ((-2 : Int32), S)

def fX4_lose (S : tH) : Option (Int32 × tH) :=
  some (S.2.2.2.2.2.2.2.1.2.2, (S.1, S.2.1, S.2.2.1, S.2.2.2.1, S.2.2.2.2.1, S.2.2.2.2.2.1, S.2.2.2.2.2.2.1, (S.2.2.2.2.2.2.2.1.1, S.2.2.2.2.2.2.2.1.2.1, (0 : Int32)), S.2.2.2.2.2.2.2.2.1, S.2.2.2.2.2.2.2.2.2))

def fX4_which_4 (S : tH) (k42 : Int64 → Option (Int64)) : Nat → Int64 → Int32 → Option (Int64)
  | 0, _, _ => none
  | n + 1, v1_4, v3_4 => (fX1_cellCount S.1).bind fun r2 => if r2 ≤ v3_4 then k42 v1_4 else (fX3_agreeFrom S.2.2.2.2.2.2.2.1 S.1 v3_4).bind fun r4 => if r4 = 0 then nm (v3_4 + (1 : Int32)) fun x5 => fX4_which_4 S k42 n v1_4 x5 else nm ((v1_4 ||| ((1 : Int64) <<< (v3_4.toInt64 &&& 63)))) fun x6 => nm (v3_4 + (1 : Int32)) fun x7 => fX4_which_4 S k42 n x6 x7
def fX4_which (S : tH) : Option (Int64) :=
  fX4_which_4 S (fun y8 => some y8) 100000 (0 : Int64) (0 : Int32)

def fX4_share_28 (S : tH) (g2_28 : Int32) (g3_28 : Int64) (k85 : Int32 → Option (Int32)) : Nat → Int32 → Int32 → Option (Int32)
  | 0, _, _ => none
  | n + 1, v5_28, v6_28 => (fX1_cellCount S.1).bind fun r6 => if r6 ≤ v6_28 then k85 v5_28 else (fX4_contains g3_28 v6_28).bind fun r8 => if r8 = 0 then nm (v6_28 + (1 : Int32)) fun x9 => fX4_share_28 S g2_28 g3_28 k85 n v5_28 x9 else (fX1_watchersOf S.1 v6_28).bind fun r11 => if r11 ≤ 0 then nm (v6_28 + (1 : Int32)) fun x12 => fX4_share_28 S g2_28 g3_28 k85 n v5_28 x12 else gd (nz r11) (nm ((v5_28 + ((60 : Int32) / r11))) fun x14 => nm (v6_28 + (1 : Int32)) fun x15 => fX4_share_28 S g2_28 g3_28 k85 n x14 x15)
def fX4_share (S : tH) (u1 : Int32) (u2 : Int32) : Option (Int32) :=
  (fX1_hasTower S.1 u1).bind fun r2 => if r2 = 0 then some (-1 : Int32) else (fX1_towerView S.1 u1).bind fun r4 => fX4_share_28 S u2 r4 (fun y16 => (fX4_lowestTerms y16 (60 : Int32) u2).bind fun r18 => some r18) 100000 (0 : Int32) (0 : Int32)

def fX4_chance_45 (S : tH) (g2_45 : Int32) (g3_45 : Int32) (g6_45 : Int32) (k71 : Int32 → Int32 → Option (Int32)) : Nat → Int32 → Int32 → Int32 → Option (Int32)
  | 0, _, _, _ => none
  | n + 1, v4_45, v5_45, v7_45 => if g6_45 ≤ v7_45 then k71 v4_45 v5_45 else nm ((v4_45 * g2_45)) fun x5 => nm ((v5_45 * (10 : Int32))) fun x6 => nm (v7_45 + (1 : Int32)) fun x7 => fX4_chance_45 S g2_45 g3_45 g6_45 k71 n x5 x6 x7
def fX4_chance (S : tH) (u1 : Int32) (u2 : Int32) (u3 : Int32) : Option (Int32) :=
  (fX1_hasCell S.1 u1).bind fun r2 => if r2 = 0 then some (-1 : Int32) else if u2 < 0 then some (-2 : Int32) else if u2 ≤ (10 : Int32) then (fX1_watchersOf S.1 u1).bind fun r4 => fX4_chance_45 S u2 u3 r4 (fun y8 y9 => (fX4_lowestTerms (y9 - y8) y9 u3).bind fun r11 => some r11) 100000 (1 : Int32) (1 : Int32) (0 : Int32) else some (-2 : Int32)

def fX4_seed (S : tH) (u1 : Int64) : Option (Int64 × tH) :=
  some (S.2.2.2.2.2.2.2.2.2, (S.1, S.2.1, S.2.2.1, S.2.2.2.1, S.2.2.2.2.1, S.2.2.2.2.2.1, S.2.2.2.2.2.2.1, S.2.2.2.2.2.2.2.1, S.2.2.2.2.2.2.2.2.1, u1))

def fX4_drawn_42 (g1_42 : Int32) (g2_42 : Int32) (k113 : Int32 → tH → Option (Int32 × tH)) : Nat → Int32 → Int32 → tH → Option (Int32 × tH)
  | 0, _, _, _ => none
  | n + 1, v3_42, v4_42, S_42 => if g1_42 ≤ v4_42 then k113 v3_42 S_42 else nm (((S_42.2.2.2.2.2.2.2.2.2 * (6364136223846793005 : Int64)) + (1442695040888963407 : Int64))) fun x6 => nm (((x6.toUInt64 >>> ((33 : Int32).toInt64.toUInt64 &&& Int64.toUInt64 63)).toInt64).toInt32) fun x7 => gd (nz g2_42) ((fX1_putHeight S_42.2.1 (x7 - x7 / g2_42 * g2_42) ((x7 / (64 : Int32)) - (x7 / (64 : Int32)) / (10 : Int32) * (10 : Int32))).bind fun y10 => (fX1_hiddenSet y10.2).bind fun r12 => (fJ13_bitCount_95d88 r12).bind fun r14 => nm ((v3_42 + r14)) fun x15 => nm (v4_42 + (1 : Int32)) fun x16 => fX4_drawn_42 g1_42 g2_42 k113 n x15 x16 (S_42.1, y10.2, S_42.2.2.1, S_42.2.2.2.1, S_42.2.2.2.2.1, S_42.2.2.2.2.2.1, S_42.2.2.2.2.2.2.1, S_42.2.2.2.2.2.2.2.1, S_42.2.2.2.2.2.2.2.2.1, x6))
def fX4_drawn (S : tH) (u1 : Int32) : Option (Int32 × tH) :=
  if u1 < (1 : Int32) then some ((-2 : Int32), S) else if u1 ≤ (20 : Int32) then (fX1_copyFrom S.2.1 S.1).bind fun y2 => (fX1_cellCount y2).bind fun r4 => nm ((if (1 : Int32) < r4 then r4 else (1 : Int32))) fun x5 => fX4_drawn_42 u1 x5 (fun y17 S18 => some (y17, S18)) 100000 (0 : Int32) (0 : Int32) (S.1, y2, S.2.2.1, S.2.2.2.1, S.2.2.2.2.1, S.2.2.2.2.2.1, S.2.2.2.2.2.2.1, S.2.2.2.2.2.2.2.1, S.2.2.2.2.2.2.2.2.1, S.2.2.2.2.2.2.2.2.2) else some ((-2 : Int32), S)

def fX4_keep (S : tH) (u1 : Int32) : Option (Int32 × tH) :=
  (fX4_isSlot u1).bind fun r2 => if r2 = 0 then some ((-1 : Int32), S) else if u1 = 0 then (fX1_copyFrom S.2.2.1 S.1).bind fun y5 => nm ((S.2.2.2.2.1 ||| ((1 : Int32) <<< (u1 &&& 31)))) fun x6 => some (S.1.2.2.1, (S.1, S.2.1, y5, S.2.2.2.1, x6, S.2.2.2.2.2.1, S.2.2.2.2.2.2.1, S.2.2.2.2.2.2.2.1, S.2.2.2.2.2.2.2.2.1, S.2.2.2.2.2.2.2.2.2)) else (fX1_copyFrom S.2.2.2.1 S.1).bind fun y8 => nm ((S.2.2.2.2.1 ||| ((1 : Int32) <<< (u1 &&& 31)))) fun x9 => some (S.1.2.2.1, (S.1, S.2.1, S.2.2.1, y8, x9, S.2.2.2.2.2.1, S.2.2.2.2.2.2.1, S.2.2.2.2.2.2.2.1, S.2.2.2.2.2.2.2.2.1, S.2.2.2.2.2.2.2.2.2))

def fX4_again (S : tH) (u1 : Int32) : Option (Int32 × tH) :=
  (fX4_isSlot u1).bind fun r2 => if r2 = 0 then some ((-1 : Int32), S) else if ((S.2.2.2.2.1 >>> (u1 &&& 31)) &&& (1 : Int32)) = 0 then some ((-3 : Int32), S) else if u1 = 0 then (fX1_copyFrom S.1 S.2.2.1).bind fun y5 => some (y5.2.2.1, (y5, S.2.1, S.2.2.1, S.2.2.2.1, S.2.2.2.2.1, S.2.2.2.2.2.1, (S.2.2.2.2.2.2.1.1, S.2.2.2.2.2.2.1.2.1, S.2.2.2.2.2.2.1.2.2.1, S.2.2.2.2.2.2.1.2.2.2.1, (0 : Int32)), S.2.2.2.2.2.2.2.1, S.2.2.2.2.2.2.2.2.1, S.2.2.2.2.2.2.2.2.2)) else (fX1_copyFrom S.1 S.2.2.2.1).bind fun y7 => some (y7.2.2.1, (y7, S.2.1, S.2.2.1, S.2.2.2.1, S.2.2.2.2.1, S.2.2.2.2.2.1, (S.2.2.2.2.2.2.1.1, S.2.2.2.2.2.2.1.2.1, S.2.2.2.2.2.2.1.2.2.1, S.2.2.2.2.2.2.1.2.2.2.1, (0 : Int32)), S.2.2.2.2.2.2.2.1, S.2.2.2.2.2.2.2.2.1, S.2.2.2.2.2.2.2.2.2))
