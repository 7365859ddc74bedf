def fJ0_coder_7d493 : Option (Int32) :=
  some (0 : Int32)

def fJ0_isLatin1_aae02 : Option (Int32) :=
  some (1 : Int32)

def fJ0_length_8abf5 : Option (Int32) :=
  (fJ0_coder_7d493).bind fun r2 => some ((4 : Int32) >>> (r2 &&& 31))

def fJ1_canEncode_9a6ad (u1 : Int32) : Option (Int32) :=
  if u1 < 0 then some (0 : Int32) else if (255 : Int32) < u1 then some (0 : Int32) else some (1 : Int32)

def fJ1_indexOfChar_4cfef_7 (g3_7 : Int32) (g4_7 : Int32) (k22 : Int32 → Option (Int32)) (k31 : Option (Int32)) : Nat → Int32 → Option (Int32)
  | 0, _ => none
  | n + 1, v5_7 => if g3_7 ≤ v5_7 then k31 else gd (inb v5_7 4) (if ((bytE.getD 0 []).getD v5_7.toNatClampNeg 0) = g4_7 then k22 v5_7 else nm (v5_7 + (1 : Int32)) fun x3 => fJ1_indexOfChar_4cfef_7 g3_7 g4_7 k22 k31 n x3)
def fJ1_indexOfChar_4cfef (u2 : Int32) (u3 : Int32) (u4 : Int32) : Option (Int32) :=
  nm (u2.toInt8.toInt32) fun x1 => fJ1_indexOfChar_4cfef_7 u4 x1 (fun y4 => some y4) (some (-1 : Int32)) 100000 u3

def fJ1_indexOf_4cfef (u2 : Int32) (u3 : Int32) (u4 : Int32) : Option (Int32) :=
  (fJ1_canEncode_9a6ad u2).bind fun r2 => if r2 = 0 then some (-1 : Int32) else nm ((if u3 < (0 : Int32) then (0 : Int32) else u3)) fun x3 => nm ((if (4 : Int32) < u4 then (4 : Int32) else u4)) fun x4 => if x3 < x4 then (fJ1_indexOfChar_4cfef u2 x3 x4).bind fun r6 => some r6 else some (-1 : Int32)

def fJ0_indexOf_7cf53 (u1 : Int32) (u2 : Int32) : Option (Int32) :=
  (fJ0_isLatin1_aae02).bind fun r2 => if r2 = 0 then (fJ0_length_8abf5).bind fun r4 => none else (fJ0_length_8abf5).bind fun r6 => (fJ1_indexOf_4cfef u1 u2 r6).bind fun r8 => some r8

def fJ0_indexOf_0f7a4 (u1 : Int32) : Option (Int32) :=
  (fJ0_indexOf_7cf53 u1 (0 : Int32)).bind fun r2 => some r2

def fX2_append (X : tX) (u1 : Int32) : Option (Int32 × tX) :=
  if X.2.1 < 0 then some ((0 : Int32), X) else if X.2.1 < (90 : Int32) then gd (inb X.2.1 90) (nm ((X.2.1 + (1 : Int32))) fun x2 => some ((1 : Int32), ((upd X.1 X.2.1.toNatClampNeg (vp_nar .char u1)), x2, X.2.2.1, X.2.2.2))) else some ((0 : Int32), X)

def fX2_nextLetter (X : tX) : Option (Int32) :=
  if X.2.2.1 < 0 then some (-1 : Int32) else if X.2.1 ≤ X.2.2.1 then some (-1 : Int32) else if (90 : Int32) ≤ X.2.2.1 then some (-1 : Int32) else gd (inb X.2.2.1 90) (some (X.1 X.2.2.1.toNatClampNeg))

def fX2_readDigit (X : tX) (u1 : Int32) (u2 : Int32) : Option (Int32 × tX) :=
  (fX2_nextLetter X).bind fun r2 => nm ((r2 - (48 : Int32))) fun x3 => if x3 < u1 then some ((-1 : Int32), X) else if x3 ≤ u2 then nm ((X.2.2.1 + (1 : Int32))) fun x4 => some (x3, (X.1, X.2.1, x4, X.2.2.2)) else some ((-1 : Int32), X)

def fX2_readHeights_2 (k22 : tX → tL → Option (Int32 × tX × tL)) (k37 : tX → tL → Option (Int32 × tX × tL)) : Nat → Int32 → tX → tL → Option (Int32 × tX × tL)
  | 0, _, _, _ => none
  | n + 1, v2_2, X_2, L_2 => (fX1_cellCount L_2).bind fun r2 => if r2 ≤ v2_2 then k37 X_2 L_2 else (fX2_readDigit X_2 (0 : Int32) (9 : Int32)).bind fun y4 => if 0 ≤ y4.1 then (fX1_putHeight L_2 v2_2 y4.1).bind fun y6 => nm (v2_2 + (1 : Int32)) fun x7 => fX2_readHeights_2 k22 k37 n x7 y4.2 y6.2 else k22 y4.2 L_2
def fX2_readHeights (X : tX) (L : tL) : Option (Int32 × tX × tL) :=
  fX2_readHeights_2 (fun X8 L9 => some ((0 : Int32), X8, L9)) (fun X10 L11 => some ((1 : Int32), X10, L11)) 100000 (0 : Int32) X L

def fX2_readTower (X : tX) (L : tL) : Option (Int32 × tX × tL) :=
  if L.2.2.1 < (5 : Int32) then nm ((X.2.2.1 + (1 : Int32))) fun x1 => (fX1_cellCount L).bind fun r3 => nm ((r3 - (1 : Int32))) fun x4 => (fX2_readDigit (X.1, X.2.1, x1, X.2.2.2) (0 : Int32) (x4 / (10 : Int32))).bind fun y6 => if 0 ≤ y6.1 then (fX2_readDigit y6.2 (0 : Int32) (if (x4 - ((10 : Int32) * y6.1)) < (9 : Int32) then (x4 - ((10 : Int32) * y6.1)) else (9 : Int32))).bind fun y8 => if 0 ≤ y8.1 then (fX2_readDigit y8.2 (0 : Int32) (9 : Int32)).bind fun y10 => if y10.1 < 0 then some ((0 : Int32), y10.2, L) else (fX1_putTower L L.2.2.1 (((10 : Int32) * y6.1) + y8.1) y10.1).bind fun y12 => if y12.1 = 0 then some ((0 : Int32), y10.2, y12.2) else some ((1 : Int32), y10.2, y12.2) else some ((0 : Int32), y8.2, L) else some ((0 : Int32), y6.2, L) else some ((0 : Int32), X, L)

def fX2_readSetting (X : tX) (L : tL) : Option (Int32 × tX × tL) :=
  (fX2_nextLetter X).bind fun r2 => if 0 ≤ r2 then (fJ0_indexOf_0f7a4 ((r2.toUInt32 % 65536).toInt32)).bind fun r4 => if r4 < 0 then some ((0 : Int32), X, L) else if ((X.2.2.2 >>> (r4 &&& 31)) &&& (1 : Int32)) = 0 then nm ((X.2.2.1 + (1 : Int32))) fun x5 => (fX4_lowestValue r4).bind fun r7 => (fX2_readDigit (X.1, X.2.1, x5, X.2.2.2) r7 (9 : Int32)).bind fun y9 => nm ((y9.2.2.2.2 ||| ((1 : Int32) <<< (r4 &&& 31)))) fun x10 => if y9.1 < 0 then some ((0 : Int32), (y9.2.1, y9.2.2.1, y9.2.2.2.1, x10), L) else (fX1_putSetting L r4 y9.1).bind fun y12 => if y12.1 = 0 then some ((0 : Int32), (y9.2.1, y9.2.2.1, y9.2.2.2.1, x10), y12.2) else some ((1 : Int32), (y9.2.1, y9.2.2.1, y9.2.2.2.1, x10), y12.2) else some ((0 : Int32), X, L) else some ((0 : Int32), X, L)

def fX2_readParts_2 (k46 : tX → tL → Option (Int32 × tX × tL)) (k54 : tX → tL → Option (Int32 × tX × tL)) : Nat → Int32 → tX → tL → Option (Int32 × tX × tL)
  | 0, _, _, _ => none
  | n + 1, v2_2, X_2, L_2 => if (90 : Int32) ≤ v2_2 then k54 X_2 L_2 else if X_2.2.1 ≤ X_2.2.2.1 then k54 X_2 L_2 else (fX2_nextLetter X_2).bind fun r2 => if r2 = (116 : Int32) then (fX2_readTower X_2 L_2).bind fun y7 => if y7.1 = 0 then k46 y7.2.1 y7.2.2 else nm (v2_2 + (1 : Int32)) fun x8 => fX2_readParts_2 k46 k54 n x8 y7.2.1 y7.2.2 else (fX2_readSetting X_2 L_2).bind fun y4 => if y4.1 = 0 then k46 y4.2.1 y4.2.2 else nm (v2_2 + (1 : Int32)) fun x5 => fX2_readParts_2 k46 k54 n x5 y4.2.1 y4.2.2
def fX2_readParts (X : tX) (L : tL) : Option (Int32 × tX × tL) :=
  fX2_readParts_2 (fun X9 L10 => some ((0 : Int32), X9, L10)) (fun X11 L12 => some ((1 : Int32), X11, L12)) 100000 (0 : Int32) X L

def fX2_readInto (X : tX) (L : tL) : Option (Int32 × tX × tL) :=
  (fX2_nextLetter (X.1, X.2.1, (0 : Int32), (0 : Int32))).bind fun r2 => if r2 = (71 : Int32) then nm (((0 : Int32) + (1 : Int32))) fun x3 => (fX2_readDigit (X.1, X.2.1, x3, (0 : Int32)) (2 : Int32) (6 : Int32)).bind fun y5 => if 0 ≤ y5.1 then (fX2_readDigit y5.2 (2 : Int32) (6 : Int32)).bind fun y7 => if 0 ≤ y7.1 then (fX1_startAnew L y5.1 y7.1).bind fun y9 => (fX2_readHeights y7.2 y9).bind fun y11 => if y11.1 = 0 then some ((0 : Int32), y11.2.1, y11.2.2) else (fX2_readParts y11.2.1 y11.2.2).bind fun y13 => if y13.1 = 0 then some ((0 : Int32), y13.2.1, y13.2.2) else some ((1 : Int32), y13.2.1, y13.2.2) else some ((0 : Int32), y7.2, L) else some ((0 : Int32), y5.2, L) else some ((0 : Int32), (X.1, X.2.1, (0 : Int32), (0 : Int32)), L)

def fX0_forgetOldest_2 (k70 : tJ → Option (tJ)) : Nat → Int32 → tJ → Option (tJ)
  | 0, _, _ => none
  | n + 1, v1_2, J_2 => if (14 : Int32) ≤ v1_2 then k70 J_2 else gd (inb v1_2 14) (gd (inb (v1_2 - (1 : Int32)) 14) (gd (inb v1_2 14) (gd (inb (v1_2 - (1 : Int32)) 14) (gd (inb v1_2 14) (gd (inb (v1_2 - (1 : Int32)) 14) (gd (inb v1_2 14) (gd (inb (v1_2 - (1 : Int32)) 14) (nm (v1_2 + (1 : Int32)) fun x9 => fX0_forgetOldest_2 k70 n x9 ((upd J_2.1 (v1_2 - (1 : Int32)).toNatClampNeg (J_2.1 v1_2.toNatClampNeg)), (upd J_2.2.1 (v1_2 - (1 : Int32)).toNatClampNeg (J_2.2.1 v1_2.toNatClampNeg)), (upd J_2.2.2.1 (v1_2 - (1 : Int32)).toNatClampNeg (J_2.2.2.1 v1_2.toNatClampNeg)), (upd J_2.2.2.2.1 (v1_2 - (1 : Int32)).toNatClampNeg (J_2.2.2.2.1 v1_2.toNatClampNeg)), J_2.2.2.2.2)))))))))
def fX0_forgetOldest (J : tJ) : Option (tJ) :=
  fX0_forgetOldest_2 (fun J10 => some (J10.1, J10.2.1, J10.2.2.1, J10.2.2.2.1, (13 : Int32))) 100000 (1 : Int32) J

def fX0_note (J : tJ) (u1 : Int32) (u2 : Int32) (u3 : Int32) (u4 : Int32) : Option (tJ) :=
  if J.2.2.2.2 < (14 : Int32) then if J.2.2.2.2 < 0 then some J else if J.2.2.2.2 < (14 : Int32) then gd (inb J.2.2.2.2 14) (gd (inb J.2.2.2.2 14) (gd (inb J.2.2.2.2 14) (gd (inb J.2.2.2.2 14) (nm ((J.2.2.2.2 + (1 : Int32))) fun x5 => some ((upd J.1 J.2.2.2.2.toNatClampNeg u1), (upd J.2.1 J.2.2.2.2.toNatClampNeg u2), (upd J.2.2.1 J.2.2.2.2.toNatClampNeg u3), (upd J.2.2.2.1 J.2.2.2.2.toNatClampNeg u4), x5))))) else some J else (fX0_forgetOldest J).bind fun y7 => if y7.2.2.2.2 < 0 then some y7 else if y7.2.2.2.2 < (14 : Int32) then gd (inb y7.2.2.2.2 14) (gd (inb y7.2.2.2.2 14) (gd (inb y7.2.2.2.2 14) (gd (inb y7.2.2.2.2 14) (nm ((y7.2.2.2.2 + (1 : Int32))) fun x12 => some ((upd y7.1 y7.2.2.2.2.toNatClampNeg u1), (upd y7.2.1 y7.2.2.2.2.toNatClampNeg u2), (upd y7.2.2.1 y7.2.2.2.2.toNatClampNeg u3), (upd y7.2.2.2.1 y7.2.2.2.2.toNatClampNeg u4), x12))))) else some y7

def fX0_takeBack (J : tJ) (L : tL) : Option (tJ × tL) :=
  if J.2.2.2.2 < (1 : Int32) then some (J, L) else if J.2.2.2.2 ≤ (14 : Int32) then nm ((J.2.2.2.2 - (1 : Int32))) fun x1 => gd (inb x1 14) (nm ((J.2.1 x1.toNatClampNeg)) fun x3 => gd (inb x1 14) (nm ((J.2.2.1 x1.toNatClampNeg)) fun x5 => gd (inb x1 14) (if (J.1 x1.toNatClampNeg) = 0 then (fX1_putHeight L x3 x5).bind fun y8 => some ((J.1, J.2.1, J.2.2.1, J.2.2.2.1, x1), y8.2) else if (J.1 x1.toNatClampNeg) = 1 then (fX1_dropTower L x3).bind fun y10 => some ((J.1, J.2.1, J.2.2.1, J.2.2.2.1, x1), y10.2) else if (J.1 x1.toNatClampNeg) = 2 then gd (inb x1 14) ((fX1_putTower L x3 x5 (J.2.2.2.1 x1.toNatClampNeg)).bind fun y13 => some ((J.1, J.2.1, J.2.2.1, J.2.2.2.1, x1), y13.2)) else (fX1_putSetting L x3 x5).bind fun y15 => some ((J.1, J.2.1, J.2.2.1, J.2.2.2.1, x1), y15.2)))) else some (J, L)

def fX3_add (O : tO) (u1 : Int32) (u2 : Int32) : Option (Int32 × tO) :=
  if O.2.2 < 0 then some ((0 : Int32), O) else if O.2.2 < (6 : Int32) then gd (inb O.2.2 6) (gd (inb O.2.2 6) (nm ((O.2.2 + (1 : Int32))) fun x3 => some ((1 : Int32), ((upd O.1 O.2.2.toNatClampNeg u1), (upd O.2.1 O.2.2.toNatClampNeg (vp_nar .boolean u2)), x3)))) else some ((0 : Int32), O)

def fX3_agreeFrom_10 (O : tO) (L : tL) (g1_10 : Int32) (g3_10 : Int32) (k75 : Option (Int32)) (k83 : Option (Int32)) : Nat → Int32 → Option (Int32)
  | 0, _ => none
  | n + 1, v4_10 => if O.2.2 ≤ v4_10 then k83 else if (6 : Int32) ≤ v4_10 then k83 else gd (inb v4_10 6) ((fX1_hasCell L (O.1 v4_10.toNatClampNeg)).bind fun r4 => if r4 = 0 then gd (inb v4_10 6) (if (0 : Int32) = (O.2.1 v4_10.toNatClampNeg) then nm (v4_10 + (1 : Int32)) fun x6 => fX3_agreeFrom_10 O L g1_10 g3_10 k75 k83 n x6 else k75) else gd (inb v4_10 6) ((fX1_canSee L g1_10 g3_10 (O.1 v4_10.toNatClampNeg)).bind fun r9 => if r9 = 0 then gd (inb v4_10 6) (if (0 : Int32) = (O.2.1 v4_10.toNatClampNeg) then nm (v4_10 + (1 : Int32)) fun x11 => fX3_agreeFrom_10 O L g1_10 g3_10 k75 k83 n x11 else k75) else gd (inb v4_10 6) (if (1 : Int32) = (O.2.1 v4_10.toNatClampNeg) then nm (v4_10 + (1 : Int32)) fun x13 => fX3_agreeFrom_10 O L g1_10 g3_10 k75 k83 n x13 else k75)))
def fX3_agreeFrom (O : tO) (L : tL) (u1 : Int32) : Option (Int32) :=
  nm ((L.2.2.2.2.2.2 (0 : Int32).toNatClampNeg)) fun x1 => fX3_agreeFrom_10 O L u1 x1 (some (0 : Int32)) (some (1 : Int32)) 100000 (0 : Int32)
