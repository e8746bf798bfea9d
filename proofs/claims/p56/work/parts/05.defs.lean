def fJ7_fill_d0a16_6 (N : Nat) (b0 : Nat) (len0 : Nat) (u1 : Int64) (u4 : Int32) : Nat → Mem → Int32 → Option Mem
  | 0, _, _ => none
  | n + 1, Mw, w3 => if u4 ≤ w3 then some Mw else gd w3 len0 (nm (sJ Mw b0 (w3 : Int32).toNatClampNeg u1) (fun M3 => fJ7_fill_d0a16_6 N b0 len0 u1 u4  n M3 (w3 + 1)))
def fJ7_fill_d0a16 (N : Nat) (M : Mem) (len0 : Nat) (b0 : Nat) (v1 : Int64) : Option Mem :=
  nm (nI len0) (fun x1 => fJ7_fill_d0a16_6 N b0 len0 v1 x1 N M 0)
def fX3_putRow (N : Nat) (M : Mem) (a : Nat) (v1 : Int32) (v2 : Int32) : Option Mem :=
  nm (sI M a 1 v1) (fun M1 => nm (sI M1 a 2 v2) (fun M2 => bd (fJ7_fill_d0a16 N M2 40 (a + 1) 0) (fun r3 => some r3)))
def fX3_isWay (N : Nat) (M : Mem) (a : Nat) : Option Int32 :=
  if (M.1 a 1) < 10 then some 0 else some 1
def fX3_isRow (N : Nat) (M : Mem) (a : Nat) : Option Int32 :=
  if (M.1 a 1) < 0 then some 0 else if 4 < (M.1 a 1) then some 0 else some 1
def fX3_hasPlaces (N : Nat) (M : Mem) (a : Nat) (v1 : Int32) (v2 : Int32) : Option Int32 :=
  if v1 < 0 then some 0 else if v2 < 0 then some 0 else if (M.1 a 2) < v1 then some 0 else if ((M.1 a 2) - v1) < v2 then some 0 else some 1
def fX3_put (N : Nat) (M : Mem) (a : Nat) (v1 : Int32) (v2 : Int64) : Option Mem :=
  if v1 < 0 then some M else if v1 < 40 then if (M.1 a 1) = 0 then gd v1 40 (nm (sJ M (a + 1) (v1 : Int32).toNatClampNeg ((((v2 : Int64).toInt32 : Int32).toInt8.toInt32 : Int32).toInt64)) (fun M5 => some M5)) else if (M.1 a 1) = 1 then gd v1 40 (nm (sJ M (a + 1) (v1 : Int32).toNatClampNeg ((((v2 : Int64).toInt32 : Int32).toInt16.toInt32 : Int32).toInt64)) (fun M8 => some M8)) else if (M.1 a 1) = 2 then gd v1 40 (nm (sJ M (a + 1) (v1 : Int32).toNatClampNeg (((v2 : Int64).toInt32 : Int32).toInt64)) (fun M11 => some M11)) else if (M.1 a 1) = 3 then gd v1 40 (nm (sJ M (a + 1) (v1 : Int32).toNatClampNeg v2) (fun M14 => some M14)) else if (M.1 a 1) = 4 then if (lg_cmp v2 0) = 0 then gd v1 40 (nm (sJ M (a + 1) (v1 : Int32).toNatClampNeg 0) (fun M18 => some M18)) else gd v1 40 (nm (sJ M (a + 1) (v1 : Int32).toNatClampNeg 1) (fun M20 => some M20)) else gd v1 40 (nm (sJ M (a + 1) (v1 : Int32).toNatClampNeg v2) (fun M22 => some M22)) else some M
def fX3_told (N : Nat) (M : Mem) (a : Nat) (v1 : Int32) : Option Int64 :=
  bd (fX3_isRow N M a) (fun r1 => if r1 = 0 then some 0 else bd (fX3_hasPlaces N M a v1 1) (fun r3 => if r3 = 0 then some 0 else gd v1 40 (some (M.2 (a + 1) (v1 : Int32).toNatClampNeg))))
def fX3_putWay (N : Nat) (M : Mem) (a : Nat) (v1 : Int32) (v2 : Int32) : Option Mem :=
  nm (sI M a 1 (10 + v1)) (fun M1 => nm (sI M1 a 2 0) (fun M2 => nm (sI M2 a 3 v2) (fun M3 => some M3)))
def fX3_toldSet_4 (N : Nat) (M : Mem) (a : Nat) : Nat → Int32 → Int32 → Option Int32
  | 0, _, _ => none
  | n + 1, w1, w2 => if 12 ≤ w2 then some w1 else bd (fX3_told N M a w2) (fun r2 => if (lg_cmp r2 0) = 0 then fX3_toldSet_4 N M a  n w1 (w2 + 1) else nm (w1 ||| (1 <<< (w2 &&& 31))) (fun x4 => fX3_toldSet_4 N M a  n x4 (w2 + 1)))
def fX3_toldSet (N : Nat) (M : Mem) (a : Nat) : Option Int32 :=
  fX3_toldSet_4 N M a N 0 0
def fX3_wayKind (N : Nat) (M : Mem) (a : Nat) : Option Int32 :=
  some ((M.1 a 1) - 10)
def fX3_isOfKind (N : Nat) (M : Mem) (a : Nat) (v1 : Int32) : Option Int32 :=
  bd (fX3_wayKind N M a) (fun r1 => if v1 = r1 then some 1 else if v1 = 0 then some 1 else if v1 = 1 then if r1 = 2 then some 1 else if v1 = 3 then if r1 = 4 then some 1 else some 0 else some 0 else if v1 = 3 then if r1 = 4 then some 1 else some 0 else some 0)
def fX3_saidAs (N : Nat) (M : Mem) (a : Nat) (v1 : Int32) : Option Int32 :=
  if v1 = 0 then some 0 else if v1 = 1 then bd (fX3_wayKind N M a) (fun r6 => if r6 = 2 then if (M.1 a 3) ≤ 500 then some 0 else some 1 else if v1 = 3 then bd (fX3_wayKind N M a) (fun r9 => if r9 = 4 then some ((M.1 a 3) / 100) else some (M.1 a 3)) else some (M.1 a 3)) else if v1 = 3 then bd (fX3_wayKind N M a) (fun r4 => if r4 = 4 then some ((M.1 a 3) / 100) else some (M.1 a 3)) else some (M.1 a 3)
def fX5_placeForNext (N : Nat) (M : Mem) (a : Nat) : Option (Option Nat) :=
  if (M.1 a 3) < 0 then some none else if 4 ≤ (M.1 a 3) then some none else gd (M.1 a 3) 4 (some (some ((a + 1) + 11 + 8 * ((M.1 a 3) : Int32).toNatClampNeg)))
def fJ0_coder_7d493 (N : Nat) (M : Mem) (a : Nat) : Option Int32 :=
  if (1 : Int32) = 0 then some 1 else some 0
def fJ0_length_8abf5 (N : Nat) (M : Mem) (a : Nat) : Option Int32 :=
  bd (fJ0_coder_7d493 N M a) (fun r1 => some ((nI (lenS.getD a 0)) >>> (r1 &&& 31)))
def fJ0_isLatin1_aae02 (N : Nat) (M : Mem) (a : Nat) : Option Int32 :=
  if (1 : Int32) = 0 then some 0 else if (0 : Int32) = 0 then some 1 else some 0
def fJ3_checkIndex_8e157 (N : Nat) (M : Mem) (v0 : Int32) (v1 : Int32) : Option Int32 :=
  if v0 < 0 then none else if v0 < v1 then some v0 else none
def fJ0_checkIndex_df160 (N : Nat) (M : Mem) (v0 : Int32) (v1 : Int32) : Option Unit :=
  bd (fJ3_checkIndex_8e157 N M v0 v1) (fun r1 => some ())
def fJ1_charAt_3b067 (N : Nat) (M : Mem) (b0 : Nat) (v1 : Int32) : Option Int32 :=
  bd (fJ0_checkIndex_df160 N M v1 (nI (lenS.getD b0 0))) (fun r1 => gd v1 (lenS.getD b0 0) (some ((((((bytS.getD b0 []).getD (v1 : Int32).toNatClampNeg 0) &&& 255) : Int32).toUInt32 % 65536).toInt32)))
def fJ0_charAt_5068e (N : Nat) (M : Mem) (a : Nat) (v1 : Int32) : Option Int32 :=
  bd (fJ0_isLatin1_aae02 N M a) (fun r1 => if r1 = 0 then none else bd (fJ1_charAt_3b067 N M a v1) (fun r3 => gc ((r3 : Int32).toUInt32.toUInt16.toUInt32.toInt32 = r3) (some r3)))
def fJ7_fill_53178_5 (N : Nat) (b0 : Nat) (len0 : Nat) (u1 : Int32) (u3 : Int32) : Nat → Mem → Int32 → Option Mem
  | 0, _, _ => none
  | n + 1, Mw, w2 => if u3 ≤ w2 then some Mw else gd w2 len0 (nm (sI Mw b0 (w2 : Int32).toNatClampNeg u1) (fun M3 => fJ7_fill_53178_5 N b0 len0 u1 u3  n M3 (w2 + 1)))
def fJ7_fill_53178 (N : Nat) (M : Mem) (len0 : Nat) (b0 : Nat) (v1 : Int32) : Option Mem :=
  nm (nI len0) (fun x1 => fJ7_fill_53178_5 N b0 len0 v1 x1 N M 0)
def fX4_clear (N : Nat) (M : Mem) (a : Nat) (v1 : Int32) : Option Mem :=
  nm (sI M a 7 v1) (fun M1 => nm (sI M1 a 8 0) (fun M2 => nm (sI M2 a 9 0) (fun M3 => bd (fJ7_fill_53178 N M3 12 (a + 1) 0) (fun r4 => bd (fJ7_fill_53178 N r4 12 (a + 2) 0) (fun r5 => bd (fJ7_fill_53178 N r5 12 (a + 3) 0) (fun r6 => bd (fJ7_fill_53178 N r6 12 (a + 4) (-1)) (fun r7 => bd (fJ7_fill_53178 N r7 12 (a + 5) 0) (fun r8 => bd (fJ7_fill_53178 N r8 144 (a + 6) 0) (fun r9 => bd (fJ7_fill_53178 N r9 12 (a + 7) 0) (fun r10 => some r10))))))))))
def fX4_hasPerson (N : Nat) (M : Mem) (a : Nat) (v1 : Int32) : Option Int32 :=
  if v1 < 0 then some 0 else if (M.1 a 7) ≤ v1 then some 0 else if 12 ≤ v1 then some 0 else some 1
def fX4_value (N : Nat) (M : Mem) (a : Nat) (v1 : Int32) (v2 : Int32) (v3 : Int32) : Option Mem :=
  bd (fX4_hasPerson N M a v1) (fun r1 => if r1 = 0 then some M else gd v1 12 (nm (sI M (a + 1) (v1 : Int32).toNatClampNeg v2) (fun M4 => nm (sI M4 (a + 2) (v1 : Int32).toNatClampNeg v3) (fun M5 => some M5))))
def fX4_hasPair (N : Nat) (M : Mem) (a : Nat) (v1 : Int32) (v2 : Int32) : Option Int32 :=
  bd (fX4_hasPerson N M a v1) (fun r1 => if r1 = 0 then some 0 else bd (fX4_hasPerson N M a v2) (fun r3 => if r3 = 0 then some 0 else if v1 = v2 then some 0 else some 1))
def fX4_priceAt (N : Nat) (M : Mem) (a : Nat) (v1 : Int32) (v2 : Int32) (v3 : Int32) : Option Mem :=
  nm ((12 * v1) + v2) (fun x1 => gd v1 12 (gd x1 144 (nm (sI M (a + 7) (v1 : Int32).toNatClampNeg ((M.1 (a + 7) (v1 : Int32).toNatClampNeg) + (v3 - (M.1 (a + 6) (x1 : Int32).toNatClampNeg)))) (fun M4 => nm (sI M4 (a + 6) (x1 : Int32).toNatClampNeg v3) (fun M5 => some M5)))))
def fX4_join (N : Nat) (M : Mem) (a : Nat) (v1 : Int32) (v2 : Int32) (v3 : Int32) : Option Mem :=
  bd (fX4_hasPair N M a v1 v2) (fun r1 => if r1 = 0 then some M else gd v1 12 (nm (sI M (a + 3) (v1 : Int32).toNatClampNeg ((M.1 (a + 3) (v1 : Int32).toNatClampNeg) ||| (1 <<< (v2 &&& 31)))) (fun M4 => gd v2 12 (nm (sI M4 (a + 3) (v2 : Int32).toNatClampNeg ((M4.1 (a + 3) (v2 : Int32).toNatClampNeg) ||| (1 <<< (v1 &&& 31)))) (fun M6 => bd (fX4_priceAt N M6 a v1 v2 v3) (fun r7 => bd (fX4_priceAt N r7 a v2 v1 v3) (fun r8 => some r8)))))))
def fX4_setMust (N : Nat) (M : Mem) (a : Nat) (v1 : Int32) (v2 : Int32) : Option Mem :=
  nm (1 <<< (v1 &&& 31)) (fun x1 => if v2 = 0 then nm (sI M a 9 ((M.1 a 9) &&& (x1 ^^^ (-1)))) (fun M3 => some M3) else nm (sI M a 9 ((M.1 a 9) ||| x1)) (fun M4 => some M4))
def fX4_isIn (N : Nat) (M : Mem) (v0 : Int32) (v1 : Int32) : Option Int32 :=
  if (v1 &&& (1 <<< (v0 &&& 31))) = 0 then some 0 else some 1
def fX4_areNear (N : Nat) (M : Mem) (a : Nat) (v1 : Int32) (v2 : Int32) : Option Int32 :=
  bd (fX4_hasPair N M a v1 v2) (fun r1 => if r1 = 0 then some 0 else gd v1 12 (bd (fX4_isIn N M v2 (M.1 (a + 3) (v1 : Int32).toNatClampNeg)) (fun r4 => if r4 = 0 then some 0 else some 1)))
def fX4_joinNeighbours_2 (N : Nat) (a : Nat) : Nat → Mem → Int32 → Option Mem
  | 0, _, _ => none
  | n + 1, Mw, w1 => if (Mw.1 a 7) ≤ w1 then some Mw else if (Mw.1 a 7) ≤ (w1 + 1) then bd (fX4_areNear N Mw a w1 0) (fun r3 => if r3 = 0 then bd (fX4_join N Mw a w1 0 0) (fun r5 => fX4_joinNeighbours_2 N a  n r5 (w1 + 1)) else fX4_joinNeighbours_2 N a  n Mw (w1 + 1)) else nm (w1 + 1) (fun x6 => bd (fX4_areNear N Mw a w1 x6) (fun r7 => if r7 = 0 then bd (fX4_join N Mw a w1 x6 0) (fun r9 => fX4_joinNeighbours_2 N a  n r9 (w1 + 1)) else fX4_joinNeighbours_2 N a  n Mw (w1 + 1)))
def fX4_joinNeighbours (N : Nat) (M : Mem) (a : Nat) : Option Mem :=
  fX4_joinNeighbours_2 N a N M 0
def fX4_joinAll_14 (N : Nat) (a : Nat) (u1 : Int32) (K44 : Mem → Option Mem) : Nat → Mem → Int32 → Option Mem
  | 0, _, _ => none
  | n + 1, Mw, w2 => if (Mw.1 a 7) ≤ w2 then K44 Mw else bd (fX4_areNear N Mw a u1 w2) (fun r2 => if r2 = 0 then bd (fX4_join N Mw a u1 w2 0) (fun r4 => fX4_joinAll_14 N a u1 K44 n r4 (w2 + 1)) else fX4_joinAll_14 N a u1 K44 n Mw (w2 + 1))
def fX4_joinAll_2 (N : Nat) (a : Nat) : Nat → Mem → Int32 → Option Mem
  | 0, _, _ => none
  | n + 1, Mw, w1 => if (Mw.1 a 7) ≤ w1 then some Mw else nm (w1 + 1) (fun x2 => fX4_joinAll_14 N a w1 (fun My14 => fX4_joinAll_2 N a  n My14 (w1 + 1)) N Mw x2)
def fX4_joinAll (N : Nat) (M : Mem) (a : Nat) : Option Mem :=
  fX4_joinAll_2 N a N M 0
def fX5_streetAt (N : Nat) (M : Mem) (a : Nat) (v1 : Int32) : Option (Option Nat) :=
  if v1 < 0 then some none else if (M.1 a 3) ≤ v1 then some none else if 4 ≤ v1 then some none else gd v1 4 (some (some ((a + 1) + 11 + 8 * (v1 : Int32).toNatClampNeg)))
def fJ6_bitCount_0f7a4 (N : Nat) (M : Mem) (v0 : Int32) : Option Int32 :=
  nm (v0 - ((((v0).toUInt32 >>> ((1 : Int32).toUInt32 &&& Int32.toUInt32 31)).toInt32) &&& 1431655765)) (fun x1 => nm ((x1 &&& 858993459) + ((((x1).toUInt32 >>> ((2 : Int32).toUInt32 &&& Int32.toUInt32 31)).toInt32) &&& 858993459)) (fun x2 => nm ((x2 + (((x2).toUInt32 >>> ((4 : Int32).toUInt32 &&& Int32.toUInt32 31)).toInt32)) &&& 252645135) (fun x3 => nm (x3 + (((x3).toUInt32 >>> ((8 : Int32).toUInt32 &&& Int32.toUInt32 31)).toInt32)) (fun x4 => nm (x4 + (((x4).toUInt32 >>> ((16 : Int32).toUInt32 &&& Int32.toUInt32 31)).toInt32)) (fun x5 => some (x5 &&& 63))))))
def fX4_ties_4 (N : Nat) (M : Mem) (a : Nat) : Nat → Int32 → Int32 → Option Int32
  | 0, _, _ => none
  | n + 1, w1, w2 => if (M.1 a 7) ≤ w2 then some (w1 / 2) else gd w2 12 (bd (fJ6_bitCount_0f7a4 N M (M.1 (a + 3) (w2 : Int32).toNatClampNeg)) (fun r3 => nm (w1 + r3) (fun x4 => fX4_ties_4 N M a  n x4 (w2 + 1))))
def fX4_ties (N : Nat) (M : Mem) (a : Nat) : Option Int32 :=
  fX4_ties_4 N M a N 0 0
def fX4_prices_4 (N : Nat) (M : Mem) (a : Nat) : Nat → Int32 → Int32 → Option Int32
  | 0, _, _ => none
  | n + 1, w1, w2 => if (M.1 a 7) ≤ w2 then some (w1 / 2) else gd w2 12 (nm (w1 + (M.1 (a + 7) (w2 : Int32).toNatClampNeg)) (fun x3 => fX4_prices_4 N M a  n x3 (w2 + 1)))
def fX4_prices (N : Nat) (M : Mem) (a : Nat) : Option Int32 :=
  fX4_prices_4 N M a N 0 0
def fX4_isMust (N : Nat) (M : Mem) (a : Nat) (v1 : Int32) : Option Int32 :=
  bd (fX4_isIn N M v1 (M.1 a 9)) (fun r1 => gc (r1 = 0 ∨ r1 = 1) (some r1))
def fX4_priceOf (N : Nat) (M : Mem) (a : Nat) (v1 : Int32) (v2 : Int32) : Option Int32 :=
  bd (fX4_areNear N M a v1 v2) (fun r1 => if r1 = 0 then some (-1) else gd ((12 * v1) + v2) 144 (some (M.1 (a + 6) (((12 * v1) + v2) : Int32).toNatClampNeg)))
def fX4_part (N : Nat) (M : Mem) (a : Nat) (v1 : Int32) (v2 : Int32) : Option Mem :=
  bd (fX4_hasPair N M a v1 v2) (fun r1 => if r1 = 0 then some M else gd v1 12 (nm (sI M (a + 3) (v1 : Int32).toNatClampNeg ((M.1 (a + 3) (v1 : Int32).toNatClampNeg) &&& ((1 <<< (v2 &&& 31)) ^^^ (-1)))) (fun M4 => gd v2 12 (nm (sI M4 (a + 3) (v2 : Int32).toNatClampNeg ((M4.1 (a + 3) (v2 : Int32).toNatClampNeg) &&& ((1 <<< (v1 &&& 31)) ^^^ (-1)))) (fun M6 => bd (fX4_priceAt N M6 a v1 v2 0) (fun r7 => bd (fX4_priceAt N r7 a v2 v1 0) (fun r8 => some r8)))))))
def fX4_giveWay (N : Nat) (M : Mem) (a : Nat) (v1 : Int32) (v2 : Int32) (v3 : Int32) : Option Mem :=
  bd (fX4_hasPerson N M a v1) (fun r1 => if r1 = 0 then some M else gd v1 12 (nm (sI M (a + 4) (v1 : Int32).toNatClampNeg v2) (fun M4 => nm (sI M4 (a + 5) (v1 : Int32).toNatClampNeg v3) (fun M5 => some M5))))
def fX4_sets (N : Nat) (M : Mem) (a : Nat) : Option Int32 :=
  some (1 <<< ((M.1 a 7) &&& 31))
def fX4_hasSet (N : Nat) (M : Mem) (a : Nat) (v1 : Int32) : Option Int32 :=
  if v1 < 0 then some 0 else bd (fX4_sets N M a) (fun r2 => if r2 ≤ v1 then some 0 else some 1)
def fX4_admit_44 (N : Nat) (a : Nat) (u1 : Int32) (u4 : Int32) : Nat → Mem → Int32 → Option (Int32 × Mem)
  | 0, _, _ => none
  | n + 1, Mw, w5 => if u4 ≤ w5 then some (u4, Mw) else bd (fX4_isIn N Mw w5 u1) (fun r2 => if r2 = 0 then fX4_admit_44 N a u1 u4  n Mw (w5 + 1) else bd (fX4_join N Mw a u4 w5 0) (fun r4 => fX4_admit_44 N a u1 u4  n r4 (w5 + 1)))
def fX4_admit (N : Nat) (M : Mem) (a : Nat) (v1 : Int32) (v2 : Int32) (v3 : Int32) : Option (Int32 × Mem) :=
  nm (M.1 a 7) (fun x1 => if x1 < 12 then nm (sI M a 7 ((M.1 a 7) + 1)) (fun M3 => bd (fX4_value N M3 a x1 v2 v3) (fun r4 => bd (fX4_giveWay N r4 a x1 (-1) 0) (fun r5 => fX4_admit_44 N a v1 x1 N r5 0))) else some ((-1), M))
def fX4_gainOf (N : Nat) (M : Mem) (a : Nat) (v1 : Int32) (v2 : Int32) : Option Int32 :=
  gd v1 12 (bd (fJ6_bitCount_0f7a4 N M (((M.1 (a + 3) (v1 : Int32).toNatClampNeg) ||| (1 <<< (v1 &&& 31))) &&& v2)) (fun r2 => if r2 ≤ 0 then bd (fX4_isIn N M v1 v2) (fun r4 => if r4 = 0 then some ((0 - 0) - (M.1 (a + 7) (v1 : Int32).toNatClampNeg)) else nm (M.1 (a + 1) (v1 : Int32).toNatClampNeg) (fun x6 => some ((0 - x6) - (M.1 (a + 7) (v1 : Int32).toNatClampNeg)))) else nm ((M.1 (a + 2) (v1 : Int32).toNatClampNeg) + ((M.1 a 8) * (r2 - 1))) (fun x7 => bd (fX4_isIn N M v1 v2) (fun r8 => if r8 = 0 then some ((x7 - 0) - (M.1 (a + 7) (v1 : Int32).toNatClampNeg)) else nm (M.1 (a + 1) (v1 : Int32).toNatClampNeg) (fun x10 => some ((x7 - x10) - (M.1 (a + 7) (v1 : Int32).toNatClampNeg)))))))
def fX4_goodOf_4 (N : Nat) (M : Mem) (a : Nat) (u1 : Int32) : Nat → Int32 → Int32 → Option Int32
  | 0, _, _ => none
  | n + 1, w2, w3 => if (M.1 a 7) ≤ w3 then some w2 else bd (fX4_gainOf N M a w3 u1) (fun r2 => nm (w2 + r2) (fun x3 => fX4_goodOf_4 N M a u1  n x3 (w3 + 1)))
def fX4_goodOf (N : Nat) (M : Mem) (a : Nat) (v1 : Int32) : Option Int32 :=
  fX4_goodOf_4 N M a v1 N 0 0
def fX4_edge (N : Nat) (M : Mem) (a : Nat) (v1 : Int32) (v2 : Int32) : Option Int32 :=
  gd v1 12 (if ((M.1 (a + 3) (v1 : Int32).toNatClampNeg) &&& v2) = 0 then nm (M.1 (a + 2) (v1 : Int32).toNatClampNeg) (fun x4 => some (x4 - (M.1 (a + 1) (v1 : Int32).toNatClampNeg))) else nm (M.1 a 8) (fun x3 => some (x3 - (M.1 (a + 1) (v1 : Int32).toNatClampNeg))))
def fX4_gainByChange (N : Nat) (M : Mem) (a : Nat) (v1 : Int32) (v2 : Int32) : Option Int32 :=
  bd (fX4_edge N M a v1 v2) (fun r1 => bd (fX4_isIn N M v1 v2) (fun r2 => if r2 = 0 then some r1 else some (-r1)))
def fX4_firstRestless_2 (N : Nat) (M : Mem) (a : Nat) (u1 : Int32) : Nat → Int32 → Option Int32
  | 0, _ => none
  | n + 1, w2 => if (M.1 a 7) ≤ w2 then some (-1) else bd (fX4_isMust N M a w2) (fun r2 => if r2 = 0 then bd (fX4_gainByChange N M a w2 u1) (fun r4 => if r4 ≤ 0 then fX4_firstRestless_2 N M a u1  n (w2 + 1) else some w2) else bd (fX4_isIn N M w2 u1) (fun r6 => if r6 = 0 then some w2 else fX4_firstRestless_2 N M a u1  n (w2 + 1)))
def fX4_firstRestless (N : Nat) (M : Mem) (a : Nat) (v1 : Int32) : Option Int32 :=
  fX4_firstRestless_2 N M a v1 N 0
def fX4_isRest (N : Nat) (M : Mem) (a : Nat) (v1 : Int32) : Option Int32 :=
  bd (fX4_firstRestless N M a v1) (fun r1 => if r1 = (-1) then some 1 else some 0)
def fX4_rests_4 (N : Nat) (M : Mem) (a : Nat) : Nat → Int32 → Int32 → Option Int32
  | 0, _, _ => none
  | n + 1, w1, w2 => bd (fX4_sets N M a) (fun r1 => if r1 ≤ w2 then some w1 else bd (fX4_isRest N M a w2) (fun r3 => if r3 = 0 then fX4_rests_4 N M a  n w1 (w2 + 1) else fX4_rests_4 N M a  n (w1 + 1) (w2 + 1)))
def fX4_rests (N : Nat) (M : Mem) (a : Nat) : Option Int32 :=
  fX4_rests_4 N M a N 0 0
def fX4_restNumber_4 (N : Nat) (M : Mem) (a : Nat) (u1 : Int32) : Nat → Int32 → Int32 → Option Int32
  | 0, _, _ => none
  | n + 1, w2, w3 => bd (fX4_sets N M a) (fun r1 => if r1 ≤ w3 then some (-1) else bd (fX4_isRest N M a w3) (fun r3 => if r3 = 0 then fX4_restNumber_4 N M a u1  n w2 (w3 + 1) else if w2 = u1 then some w3 else fX4_restNumber_4 N M a u1  n (w2 + 1) (w3 + 1)))
def fX4_restNumber (N : Nat) (M : Mem) (a : Nat) (v1 : Int32) : Option Int32 :=
  fX4_restNumber_4 N M a v1 N 0 0
def fX4_hasMustsIn (N : Nat) (M : Mem) (a : Nat) (v1 : Int32) : Option Int32 :=
  if ((M.1 a 9) &&& (v1 ^^^ (-1))) = 0 then some 1 else some 0
def fX4_costOf_4 (N : Nat) (M : Mem) (a : Nat) (u1 : Int32) : Nat → Int32 → Int32 → Option Int32
  | 0, _, _ => none
  | n + 1, w2, w3 => if (M.1 a 7) ≤ w3 then some w2 else bd (fX4_isIn N M w3 u1) (fun r2 => if r2 = 0 then fX4_costOf_4 N M a u1  n w2 (w3 + 1) else gd w3 12 (nm (w2 + (M.1 (a + 1) (w3 : Int32).toNatClampNeg)) (fun x5 => fX4_costOf_4 N M a u1  n x5 (w3 + 1))))
def fX4_costOf (N : Nat) (M : Mem) (a : Nat) (v1 : Int32) : Option Int32 :=
  fX4_costOf_4 N M a v1 N 0 0
def fX4_valueOf (N : Nat) (M : Mem) (a : Nat) (v1 : Int32) (v2 : Int32) : Option Int32 :=
  if v2 = 0 then bd (fJ6_bitCount_0f7a4 N M v1) (fun r2 => some (-r2)) else if v2 = 1 then bd (fJ6_bitCount_0f7a4 N M v1) (fun r4 => some r4) else if v2 = 2 then bd (fX4_costOf N M a v1) (fun r6 => some (-r6)) else if v2 = 3 then bd (fX4_goodOf N M a v1) (fun r8 => some r8) else if v2 = 4 then bd (fX4_goodOf N M a v1) (fun r10 => some (-r10)) else bd (fX4_goodOf N M a v1) (fun r11 => some r11)
def fX4_choose_8 (N : Nat) (M : Mem) (a : Nat) (u1 : Int32) (u2 : Int32) : Nat → Int32 → Int32 → Int32 → Option Int32
  | 0, _, _, _ => none
  | n + 1, w3, w4, w5 => bd (fX4_sets N M a) (fun r1 => if r1 ≤ w5 then some w3 else if u2 = 0 then bd (fX4_hasMustsIn N M a w5) (fun r4 => if r4 = 0 then fX4_choose_8 N M a u1 u2  n w3 w4 (w5 + 1) else bd (fX4_valueOf N M a w5 u1) (fun r6 => if w3 = (-1) then fX4_choose_8 N M a u1 u2  n w5 r6 (w5 + 1) else if r6 ≤ w4 then fX4_choose_8 N M a u1 u2  n w3 w4 (w5 + 1) else fX4_choose_8 N M a u1 u2  n w5 r6 (w5 + 1))) else bd (fX4_isRest N M a w5) (fun r9 => if r9 = 0 then fX4_choose_8 N M a u1 u2  n w3 w4 (w5 + 1) else bd (fX4_valueOf N M a w5 u1) (fun r11 => if w3 = (-1) then fX4_choose_8 N M a u1 u2  n w5 r11 (w5 + 1) else if r11 ≤ w4 then fX4_choose_8 N M a u1 u2  n w3 w4 (w5 + 1) else fX4_choose_8 N M a u1 u2  n w5 r11 (w5 + 1))))
def fX4_choose (N : Nat) (M : Mem) (a : Nat) (v1 : Int32) (v2 : Int32) : Option Int32 :=
  fX4_choose_8 N M a v1 v2 N (-1) 0 0
def fX0_see (N : Nat) (M : Mem) (a : Nat) (v1 : Int32) : Option Mem :=
  if v1 < 0 then some M else if 4096 ≤ v1 then some M else gd (v1 / 64) 64 (nm (sJ M (a + 1) ((v1 / 64) : Int32).toNatClampNeg ((M.2 (a + 1) ((v1 / 64) : Int32).toNatClampNeg) ||| (1 <<< (((v1 - v1 / 64 * 64) : Int32).toInt64 &&& 63)))) (fun M4 => some M4))
def fX4_wouldChange (N : Nat) (M : Mem) (a : Nat) (v1 : Int32) (v2 : Int32) : Option Int32 :=
  bd (fX4_isMust N M a v1) (fun r1 => if r1 = 0 then bd (fX4_gainByChange N M a v1 v2) (fun r3 => if r3 ≤ 0 then some 0 else some 1) else some 0)
def fX4_afterRound_4 (N : Nat) (M : Mem) (a : Nat) : Nat → Int32 → Int32 → Option Int32
  | 0, _, _ => none
  | n + 1, w2, w3 => if (M.1 a 7) ≤ w3 then some w2 else bd (fX4_wouldChange N M a w3 w2) (fun r2 => if r2 = 0 then fX4_afterRound_4 N M a  n w2 (w3 + 1) else nm (w2 ^^^ (1 <<< (w3 &&& 31))) (fun x4 => fX4_afterRound_4 N M a  n x4 (w3 + 1)))
def fX4_afterRound (N : Nat) (M : Mem) (a : Nat) (v1 : Int32) : Option Int32 :=
  fX4_afterRound_4 N M a N v1 0
def fX0_isSeen (N : Nat) (M : Mem) (a : Nat) (v1 : Int32) : Option Int32 :=
  if v1 < 0 then some 0 else if 4096 ≤ v1 then some 0 else gd (v1 / 64) 64 (if (lg_cmp ((M.2 (a + 1) ((v1 / 64) : Int32).toNatClampNeg) &&& (1 <<< (((v1 - v1 / 64 * 64) : Int32).toInt64 &&& 63))) 0) = 0 then some 0 else some 1)
def fX0_roundsBackTo_4 (N : Nat) (M : Mem) (b0 : Nat) (u1 : Int32) : Nat → Int32 → Int32 → Option Int32
  | 0, _, _ => none
  | n + 1, w2, w3 => if 4096 < w3 then some 0 else bd (fX4_afterRound N M b0 w2) (fun r2 => if r2 = u1 then some w3 else fX0_roundsBackTo_4 N M b0 u1  n r2 (w3 + 1))
def fX0_roundsBackTo (N : Nat) (M : Mem) (b0 : Nat) (v1 : Int32) : Option Int32 :=
  fX0_roundsBackTo_4 N M b0 v1 N v1 1
def fX0_run_25 (N : Nat) (a : Nat) (b1 : Nat) : Nat → Mem → Int32 → Option Mem
  | 0, _, _ => none
  | n + 1, Mw, w3 => if 4096 < w3 then some Mw else bd (fX0_see N Mw a (Mw.1 a 1)) (fun r2 => nm (r2.1 a 1) (fun x3 => bd (fX4_afterRound N r2 b1 x3) (fun r4 => nm (sI r2 a 1 r4) (fun M5 => bd (fJ6_bitCount_0f7a4 N M5 (x3 ^^^ (M5.1 a 1))) (fun r6 => nm (sI M5 a 2 ((M5.1 a 2) + r6)) (fun M7 => if (M7.1 a 1) = x3 then some M7 else bd (fX0_isSeen N M7 a (M7.1 a 1)) (fun r9 => if r9 = 0 then fX0_run_25 N a b1  n M7 (w3 + 1) else bd (fX0_roundsBackTo N M7 b1 (M7.1 a 1)) (fun r11 => nm (sI M7 a 3 r11) (fun M12 => some M12)))))))))
def fX0_run (N : Nat) (M : Mem) (a : Nat) (b1 : Nat) (v2 : Int32) : Option Mem :=
  bd (fJ7_fill_d0a16 N M 64 (a + 1) 0) (fun r1 => nm (sI r1 a 1 v2) (fun M2 => nm (sI M2 a 2 0) (fun M3 => nm (sI M3 a 3 0) (fun M4 => fX0_run_25 N a b1 N M4 0))))
def fX6_power_5 (N : Nat) (M : Mem) (u0 : Int64) (u2 : Int32) : Nat → Int64 → Int32 → Option Int64
  | 0, _, _ => none
  | n + 1, w3, w5 => if u2 ≤ w5 then some w3 else nm (w3 * u0) (fun x2 => fX6_power_5 N M u0 u2  n x2 (w5 + 1))
def fX6_power (N : Nat) (M : Mem) (v0 : Int64) (v2 : Int32) : Option Int64 :=
  fX6_power_5 N M v0 v2 N 1 0
def fX5_endsUpTo_4 (N : Nat) (M : Mem) (a : Nat) (u1 : Int32) : Nat → Int32 → Int32 → Option Int32
  | 0, _, _ => none
  | n + 1, w2, w3 => if u1 < w3 then some w2 else if 6 ≤ w3 then some w2 else gd w3 6 (nm (w2 + (w3 * (M.1 (a + 2) (w3 : Int32).toNatClampNeg))) (fun x4 => fX5_endsUpTo_4 N M a u1  n x4 (w3 + 1)))
def fX5_endsUpTo (N : Nat) (M : Mem) (a : Nat) (v1 : Int32) : Option Int32 :=
  fX5_endsUpTo_4 N M a v1 N 0 0
def fX5_isBarAtRest_22 (N : Nat) (M : Mem) (a : Nat) (u1 : Int32) (u2 : Int32) (u3 : Int32) (u4 : Int64) (u6 : Int64) : Nat → Int32 → Option Int32
  | 0, _ => none
  | n + 1, w8 => if 6 ≤ w8 then some 1 else bd (fX6_power N M u6 w8) (fun r2 => bd (fX6_power N M u4 w8) (fun r3 => if (lg_cmp (((u3 : Int32).toInt64) * r2) (((u2 : Int32).toInt64) * r3)) < 0 then gd w8 6 (if (M.1 (a + 2) (w8 : Int32).toNatClampNeg) ≤ 0 then fX5_isBarAtRest_22 N M a u1 u2 u3 u4 u6  n (w8 + 1) else if u1 < w8 then if (0 : Int32) = 0 then fX5_isBarAtRest_22 N M a u1 u2 u3 u4 u6  n (w8 + 1) else some 0 else if (0 : Int32) = 1 then fX5_isBarAtRest_22 N M a u1 u2 u3 u4 u6  n (w8 + 1) else some 0) else gd w8 6 (if (M.1 (a + 2) (w8 : Int32).toNatClampNeg) ≤ 0 then fX5_isBarAtRest_22 N M a u1 u2 u3 u4 u6  n (w8 + 1) else if u1 < w8 then if (1 : Int32) = 0 then fX5_isBarAtRest_22 N M a u1 u2 u3 u4 u6  n (w8 + 1) else some 0 else if (1 : Int32) = 1 then fX5_isBarAtRest_22 N M a u1 u2 u3 u4 u6  n (w8 + 1) else some 0)))
def fX5_isBarAtRest (N : Nat) (M : Mem) (a : Nat) (v1 : Int32) (v2 : Int32) (v3 : Int32) : Option Int32 :=
  bd (fX5_endsUpTo N M a 5) (fun r1 => nm ((r1 : Int32).toInt64) (fun x2 => bd (fX5_endsUpTo N M a v1) (fun r3 => nm (x2 - ((r3 : Int32).toInt64)) (fun x4 => fX5_isBarAtRest_22 N M a v1 v2 v3 x2 x4 N 0))))
def fX4_become (N : Nat) (M : Mem) (a : Nat) (b1 : Nat) : Option Mem :=
  nm (sI M a 7 (M.1 b1 7)) (fun M1 => nm (sI M1 a 8 (M1.1 b1 8)) (fun M2 => nm (sI M2 a 9 (M2.1 b1 9)) (fun M3 => gc ((¬ (0 : Int32) < 0) ∧ (¬ (0 : Int32) < 0) ∧ (¬ (12 : Int32) < 0) ∧ (0 : Int32).toNatClampNeg + (12 : Int32).toNatClampNeg ≤ 12 ∧ (0 : Int32).toNatClampNeg + (12 : Int32).toNatClampNeg ≤ 12) (nm (fI M3 (a + 1) (va_cpy (M3.1 (b1 + 1)) (M3.1 (a + 1)) (0 : Int32).toNatClampNeg (0 : Int32).toNatClampNeg (12 : Int32).toNatClampNeg)) (fun M5 => gc ((¬ (0 : Int32) < 0) ∧ (¬ (0 : Int32) < 0) ∧ (¬ (12 : Int32) < 0) ∧ (0 : Int32).toNatClampNeg + (12 : Int32).toNatClampNeg ≤ 12 ∧ (0 : Int32).toNatClampNeg + (12 : Int32).toNatClampNeg ≤ 12) (nm (fI M5 (a + 2) (va_cpy (M5.1 (b1 + 2)) (M5.1 (a + 2)) (0 : Int32).toNatClampNeg (0 : Int32).toNatClampNeg (12 : Int32).toNatClampNeg)) (fun M7 => gc ((¬ (0 : Int32) < 0) ∧ (¬ (0 : Int32) < 0) ∧ (¬ (12 : Int32) < 0) ∧ (0 : Int32).toNatClampNeg + (12 : Int32).toNatClampNeg ≤ 12 ∧ (0 : Int32).toNatClampNeg + (12 : Int32).toNatClampNeg ≤ 12) (nm (fI M7 (a + 3) (va_cpy (M7.1 (b1 + 3)) (M7.1 (a + 3)) (0 : Int32).toNatClampNeg (0 : Int32).toNatClampNeg (12 : Int32).toNatClampNeg)) (fun M9 => gc ((¬ (0 : Int32) < 0) ∧ (¬ (0 : Int32) < 0) ∧ (¬ (12 : Int32) < 0) ∧ (0 : Int32).toNatClampNeg + (12 : Int32).toNatClampNeg ≤ 12 ∧ (0 : Int32).toNatClampNeg + (12 : Int32).toNatClampNeg ≤ 12) (nm (fI M9 (a + 4) (va_cpy (M9.1 (b1 + 4)) (M9.1 (a + 4)) (0 : Int32).toNatClampNeg (0 : Int32).toNatClampNeg (12 : Int32).toNatClampNeg)) (fun M11 => gc ((¬ (0 : Int32) < 0) ∧ (¬ (0 : Int32) < 0) ∧ (¬ (12 : Int32) < 0) ∧ (0 : Int32).toNatClampNeg + (12 : Int32).toNatClampNeg ≤ 12 ∧ (0 : Int32).toNatClampNeg + (12 : Int32).toNatClampNeg ≤ 12) (nm (fI M11 (a + 5) (va_cpy (M11.1 (b1 + 5)) (M11.1 (a + 5)) (0 : Int32).toNatClampNeg (0 : Int32).toNatClampNeg (12 : Int32).toNatClampNeg)) (fun M13 => gc ((¬ (0 : Int32) < 0) ∧ (¬ (0 : Int32) < 0) ∧ (¬ (144 : Int32) < 0) ∧ (0 : Int32).toNatClampNeg + (144 : Int32).toNatClampNeg ≤ 144 ∧ (0 : Int32).toNatClampNeg + (144 : Int32).toNatClampNeg ≤ 144) (nm (fI M13 (a + 6) (va_cpy (M13.1 (b1 + 6)) (M13.1 (a + 6)) (0 : Int32).toNatClampNeg (0 : Int32).toNatClampNeg (144 : Int32).toNatClampNeg)) (fun M15 => gc ((¬ (0 : Int32) < 0) ∧ (¬ (0 : Int32) < 0) ∧ (¬ (12 : Int32) < 0) ∧ (0 : Int32).toNatClampNeg + (12 : Int32).toNatClampNeg ≤ 12 ∧ (0 : Int32).toNatClampNeg + (12 : Int32).toNatClampNeg ≤ 12) (nm (fI M15 (a + 7) (va_cpy (M15.1 (b1 + 7)) (M15.1 (a + 7)) (0 : Int32).toNatClampNeg (0 : Int32).toNatClampNeg (12 : Int32).toNatClampNeg)) (fun M17 => some M17)))))))))))))))))
def fX4_hasRestBelow_2 (N : Nat) (M : Mem) (a : Nat) (u1 : Int32) : Nat → Int32 → Option Int32
  | 0, _ => none
  | n + 1, w2 => bd (fX4_sets N M a) (fun r1 => if r1 ≤ w2 then some 0 else bd (fJ6_bitCount_0f7a4 N M w2) (fun r3 => if u1 ≤ r3 then fX4_hasRestBelow_2 N M a u1  n (w2 + 1) else bd (fX4_isRest N M a w2) (fun r5 => if r5 = 0 then fX4_hasRestBelow_2 N M a u1  n (w2 + 1) else some 1)))
def fX4_hasRestBelow (N : Nat) (M : Mem) (a : Nat) (v1 : Int32) : Option Int32 :=
  fX4_hasRestBelow_2 N M a v1 N 0
def fX4_needOf (N : Nat) (M : Mem) (a : Nat) (v1 : Int32) (v2 : Int32) : Option Int32 :=
  bd (fX4_wouldChange N M a v1 v2) (fun r1 => if r1 = 0 then some 0 else bd (fX4_gainByChange N M a v1 v2) (fun r3 => some r3))
def fX4_doesSurely (N : Nat) (M : Mem) (a : Nat) (v1 : Int32) (v2 : Int32) : Option Int32 :=
  gd v1 12 (nm (M.1 (a + 5) (v1 : Int32).toNatClampNeg) (fun x2 => if (M.1 (a + 4) (v1 : Int32).toNatClampNeg) = 1 then if x2 = 1 then some 1 else some 0 else if (M.1 (a + 4) (v1 : Int32).toNatClampNeg) = 2 then some 0 else if (M.1 (a + 4) (v1 : Int32).toNatClampNeg) = 3 then bd (fJ6_bitCount_0f7a4 N M (M.1 (a + 3) (v1 : Int32).toNatClampNeg)) (fun r7 => if x2 < r7 then some 0 else some 1) else if (M.1 (a + 4) (v1 : Int32).toNatClampNeg) = 4 then nm (x2 / 100) (fun x10 => if x10 ≤ 0 then some 0 else gc (¬ x10 = 0) (if (v2 - v2 / x10 * x10) = (x2 - x2 / 100 * 100) then some 1 else some 0)) else if (M.1 (a + 4) (v1 : Int32).toNatClampNeg) = 5 then bd (fX4_edge N M a v1 x2) (fun r15 => if r15 ≤ 0 then some 0 else some 1) else some 0))
def fX4_chanceOf (N : Nat) (M : Mem) (a : Nat) (v1 : Int32) (v2 : Int32) : Option Int32 :=
  bd (fX4_isMust N M a v1) (fun r1 => if r1 = 0 then gd v1 12 (if (M.1 (a + 4) (v1 : Int32).toNatClampNeg) = 2 then some (M.1 (a + 5) (v1 : Int32).toNatClampNeg) else bd (fX4_doesSurely N M a v1 v2) (fun r5 => if r5 = 0 then some 0 else some 1000)) else some 1000)
def fX5_draw (N : Nat) (M : Mem) (a : Nat) (v1 : Int32) : Option (Int32 × Mem) :=
  nm (sI M a 4 (((M.1 a 4) * 1103515245) + 12345)) (fun M1 => if v1 ≤ 0 then some (0, M1) else gc (¬ v1 = 0) (some ((((((M1.1 a 4)).toUInt32 >>> ((16 : Int32).toUInt32 &&& Int32.toUInt32 31)).toInt32) - ((((M1.1 a 4)).toUInt32 >>> ((16 : Int32).toUInt32 &&& Int32.toUInt32 31)).toInt32) / v1 * v1), M1)))
def fX4_lightAfter_5 (N : Nat) (M : Mem) (a : Nat) (u2 : Int32) : Nat → Int32 → Int32 → Option Int32
  | 0, _, _ => none
  | n + 1, w3, w4 => if (M.1 a 7) ≤ w4 then some w3 else bd (fX4_chanceOf N M a w4 u2) (fun r2 => nm ((w3 * (1000 - r2)) / 1000) (fun x3 => fX4_lightAfter_5 N M a u2  n x3 (w4 + 1)))
def fX4_lightAfter (N : Nat) (M : Mem) (a : Nat) (v1 : Int32) (v2 : Int32) : Option Int32 :=
  fX4_lightAfter_5 N M a v2 N v1 0
def fX2_start (N : Nat) (M : Mem) (a : Nat) (b1 : Nat) (v2 : Int32) : Option Mem :=
  bd (fX4_become N M (a + 1) b1) (fun r1 => nm (sI r1 a 1 1) (fun M2 => nm (sI M2 a 2 v2) (fun M3 => nm (sI M3 a 3 0) (fun M4 => nm (sI M4 a 4 0) (fun M5 => nm (sI M5 a 5 (-1)) (fun M6 => some M6))))))
def fX2_isDone (N : Nat) (M : Mem) (a : Nat) : Option Int32 :=
  bd (fX4_sets N M (a + 1)) (fun r1 => if (M.1 a 3) < r1 then some 0 else some 1)
def fX2_advance_7 (N : Nat) (a : Nat) (u1 : Int32) (u2 : Int32) : Nat → Mem → Int32 → Option (Int32 × Mem)
  | 0, _, _ => none
  | n + 1, Mw, w3 => if u1 ≤ w3 then some (((Mw.1 a 4) - u2), Mw) else bd (fX2_isDone N Mw a) (fun r2 => if r2 = 0 then bd (fX4_isRest N Mw (a + 1) (Mw.1 a 3)) (fun r4 => if r4 = 0 then nm (sI Mw a 3 ((Mw.1 a 3) + 1)) (fun M6 => fX2_advance_7 N a u1 u2  n M6 (w3 + 1)) else nm (sI Mw a 4 ((Mw.1 a 4) + 1)) (fun M7 => nm (sI M7 a 5 (M7.1 a 3)) (fun M8 => nm (sI M8 a 3 ((M8.1 a 3) + 1)) (fun M9 => fX2_advance_7 N a u1 u2  n M9 (w3 + 1))))) else some (((Mw.1 a 4) - u2), Mw))
def fX2_advance (N : Nat) (M : Mem) (a : Nat) (v1 : Int32) : Option (Int32 × Mem) :=
  nm (M.1 a 4) (fun x1 => fX2_advance_7 N a v1 x1 N M 0)
def fX2_become (N : Nat) (M : Mem) (a : Nat) (b1 : Nat) : Option Mem :=
  bd (fX4_become N M (a + 1) (b1 + 1)) (fun r1 => gc ((r1.1 b1 1) = 0 ∨ (r1.1 b1 1) = 1) (nm (sI r1 a 1 (r1.1 b1 1)) (fun M3 => nm (sI M3 a 2 (M3.1 b1 2)) (fun M4 => nm (sI M4 a 3 (M4.1 b1 3)) (fun M5 => nm (sI M5 a 4 (M5.1 b1 4)) (fun M6 => nm (sI M6 a 5 (M6.1 b1 5)) (fun M7 => some M7)))))))
def fX5_become_2 (N : Nat) (a : Nat) (b1 : Nat) : Nat → Mem → Int32 → Option Mem
  | 0, _, _ => none
  | n + 1, Mw, w2 => if (Mw.1 b1 3) ≤ w2 then gc ((¬ (0 : Int32) < 0) ∧ (¬ (0 : Int32) < 0) ∧ (¬ (6 : Int32) < 0) ∧ (0 : Int32).toNatClampNeg + (6 : Int32).toNatClampNeg ≤ 6 ∧ (0 : Int32).toNatClampNeg + (6 : Int32).toNatClampNeg ≤ 6) (nm (fI Mw (a + 2) (va_cpy (Mw.1 (b1 + 2)) (Mw.1 (a + 2)) (0 : Int32).toNatClampNeg (0 : Int32).toNatClampNeg (6 : Int32).toNatClampNeg)) (fun M3 => bd (fX2_become N M3 (a + 3) (b1 + 3)) (fun r4 => nm (sI r4 a 3 (r4.1 b1 3)) (fun M5 => nm (sI M5 a 4 (M5.1 b1 4)) (fun M6 => some M6))))) else if 4 ≤ w2 then gc ((¬ (0 : Int32) < 0) ∧ (¬ (0 : Int32) < 0) ∧ (¬ (6 : Int32) < 0) ∧ (0 : Int32).toNatClampNeg + (6 : Int32).toNatClampNeg ≤ 6 ∧ (0 : Int32).toNatClampNeg + (6 : Int32).toNatClampNeg ≤ 6) (nm (fI Mw (a + 2) (va_cpy (Mw.1 (b1 + 2)) (Mw.1 (a + 2)) (0 : Int32).toNatClampNeg (0 : Int32).toNatClampNeg (6 : Int32).toNatClampNeg)) (fun M9 => bd (fX2_become N M9 (a + 3) (b1 + 3)) (fun r10 => nm (sI r10 a 3 (r10.1 b1 3)) (fun M11 => nm (sI M11 a 4 (M11.1 b1 4)) (fun M12 => some M12))))) else gd w2 4 (bd (fX4_become N Mw ((a + 1) + 11 + 8 * (w2 : Int32).toNatClampNeg) ((b1 + 1) + 11 + 8 * (w2 : Int32).toNatClampNeg)) (fun r14 => fX5_become_2 N a b1  n r14 (w2 + 1)))
def fX5_become (N : Nat) (M : Mem) (a : Nat) (b1 : Nat) : Option Mem :=
  fX5_become_2 N a b1 N M 0
def fX1_append (N : Nat) (M : Mem) (a : Nat) (v1 : Int32) : Option Mem :=
  if 160 ≤ (M.1 a 1) then some M else gd (M.1 a 1) 160 (nm (sI M (a + 1) ((M.1 a 1) : Int32).toNatClampNeg v1) (fun M3 => nm (sI M3 a 1 ((M3.1 a 1) + 1)) (fun M4 => some M4)))
def fX1_empty (N : Nat) (M : Mem) (a : Nat) : Option Mem :=
  nm (sI M a 1 0) (fun M1 => some M1)
def fX1_sortOf (N : Nat) (M : Mem) (v0 : Int32) : Option Int32 :=
  if v0 < 97 then if v0 < 48 then if v0 = 59 then some 3 else some 4 else if 57 < v0 then if v0 = 59 then some 3 else some 4 else some 2 else if 122 < v0 then if v0 < 48 then if v0 = 59 then some 3 else some 4 else if 57 < v0 then if v0 = 59 then some 3 else some 4 else some 2 else some 1
def fX1_advance_134 (N : Nat) (a : Nat) : Nat → Mem → Option Mem
  | 0, _ => none
  | n + 1, Mw => if (Mw.1 a 1) ≤ (Mw.1 a 4) then some Mw else if 160 ≤ (Mw.1 a 4) then some Mw else gd (Mw.1 a 4) 160 (bd (fX1_sortOf N Mw (Mw.1 (a + 1) ((Mw.1 a 4) : Int32).toNatClampNeg)) (fun r4 => if r4 = (Mw.1 a 2) then nm (sI Mw a 4 ((Mw.1 a 4) + 1)) (fun M6 => fX1_advance_134 N a  n M6) else some Mw))
def fX1_advance_8 (N : Nat) (a : Nat) : Nat → Mem → Option Mem
  | 0, _ => none
  | n + 1, Mw => if (Mw.1 a 1) ≤ (Mw.1 a 3) then nm (sI Mw a 4 (Mw.1 a 3)) (fun M2 => if (M2.1 a 1) ≤ (M2.1 a 3) then nm (sI M2 a 2 0) (fun M4 => some M4) else if (M2.1 a 3) < 160 then gd (M2.1 a 3) 160 (bd (fX1_sortOf N M2 (M2.1 (a + 1) ((M2.1 a 3) : Int32).toNatClampNeg)) (fun r7 => nm (sI M2 a 2 r7) (fun M8 => nm (sI M8 a 4 ((M8.1 a 4) + 1)) (fun M9 => if (M9.1 a 2) = 3 then some M9 else if (M9.1 a 2) = 4 then some M9 else fX1_advance_134 N a N M9 )))) else nm (sI M2 a 2 0) (fun M12 => some M12)) else if 160 ≤ (Mw.1 a 3) then nm (sI Mw a 4 (Mw.1 a 3)) (fun M14 => if (M14.1 a 1) ≤ (M14.1 a 3) then nm (sI M14 a 2 0) (fun M16 => some M16) else if (M14.1 a 3) < 160 then gd (M14.1 a 3) 160 (bd (fX1_sortOf N M14 (M14.1 (a + 1) ((M14.1 a 3) : Int32).toNatClampNeg)) (fun r19 => nm (sI M14 a 2 r19) (fun M20 => nm (sI M20 a 4 ((M20.1 a 4) + 1)) (fun M21 => if (M21.1 a 2) = 3 then some M21 else if (M21.1 a 2) = 4 then some M21 else fX1_advance_134 N a N M21 )))) else nm (sI M14 a 2 0) (fun M24 => some M24)) else gd (Mw.1 a 3) 160 (if (Mw.1 (a + 1) ((Mw.1 a 3) : Int32).toNatClampNeg) = 32 then nm (sI Mw a 3 ((Mw.1 a 3) + 1)) (fun M38 => fX1_advance_8 N a  n M38) else nm (sI Mw a 4 (Mw.1 a 3)) (fun M27 => if (M27.1 a 1) ≤ (M27.1 a 3) then nm (sI M27 a 2 0) (fun M29 => some M29) else if (M27.1 a 3) < 160 then gd (M27.1 a 3) 160 (bd (fX1_sortOf N M27 (M27.1 (a + 1) ((M27.1 a 3) : Int32).toNatClampNeg)) (fun r32 => nm (sI M27 a 2 r32) (fun M33 => nm (sI M33 a 4 ((M33.1 a 4) + 1)) (fun M34 => if (M34.1 a 2) = 3 then some M34 else if (M34.1 a 2) = 4 then some M34 else fX1_advance_134 N a N M34 )))) else nm (sI M27 a 2 0) (fun M37 => some M37)))
def fX1_advance (N : Nat) (M : Mem) (a : Nat) : Option Mem :=
  nm (sI M a 3 (M.1 a 4)) (fun M1 => fX1_advance_8 N a N M1 )
def fX1_isWord_28 (N : Nat) (M : Mem) (a : Nat) (b1 : Nat) : Nat → Int32 → Option Int32
  | 0, _ => none
  | n + 1, w2 => bd (fJ0_length_8abf5 N M b1) (fun r1 => if r1 ≤ w2 then some 1 else if 160 ≤ ((M.1 a 3) + w2) then some 1 else gd ((M.1 a 3) + w2) 160 (bd (fJ0_charAt_5068e N M b1 w2) (fun r5 => if (M.1 (a + 1) (((M.1 a 3) + w2) : Int32).toNatClampNeg) = r5 then fX1_isWord_28 N M a b1  n (w2 + 1) else some 0)))
def fX1_isWord (N : Nat) (M : Mem) (a : Nat) (b1 : Nat) : Option Int32 :=
  if (M.1 a 2) = 1 then bd (fJ0_length_8abf5 N M b1) (fun r2 => if r2 = ((M.1 a 4) - (M.1 a 3)) then fX1_isWord_28 N M a b1 N 0 else some 0) else some 0
def fX1_passWord (N : Nat) (M : Mem) (a : Nat) (b1 : Nat) : Option (Int32 × Mem) :=
  bd (fX1_isWord N M a b1) (fun r1 => if r1 = 0 then some (0, M) else bd (fX1_advance N M a) (fun r3 => some (1, r3)))
def fX1_numberAtHand_24 (N : Nat) (M : Mem) (a : Nat) : Nat → Int32 → Int32 → Option Int32
  | 0, _, _ => none
  | n + 1, w1, w2 => if (M.1 a 4) ≤ w2 then some w1 else if 160 ≤ w2 then some w1 else gd w2 160 (nm (((10 * w1) + (M.1 (a + 1) (w2 : Int32).toNatClampNeg)) - 48) (fun x4 => fX1_numberAtHand_24 N M a  n x4 (w2 + 1)))
def fX1_numberAtHand (N : Nat) (M : Mem) (a : Nat) : Option Int32 :=
  if ((M.1 a 4) - (M.1 a 3)) ≤ 3 then nm (M.1 a 3) (fun x2 => fX1_numberAtHand_24 N M a N 0 x2) else some 1000
def fX1_passNumber (N : Nat) (M : Mem) (a : Nat) (v1 : Int32) (v2 : Int32) : Option (Int32 × Mem) :=
  if (M.1 a 2) = 2 then bd (fX1_numberAtHand N M a) (fun r7 => if (M.1 a 2) = 2 then if r7 < v1 then some (0, M) else if r7 ≤ v2 then nm (sI M a 5 r7) (fun M11 => bd (fX1_advance N M11 a) (fun r12 => some (1, r12))) else some (0, M) else some (0, M)) else if (M.1 a 2) = 2 then if (-1) < v1 then some (0, M) else if (-1) ≤ v2 then nm (sI M a 5 (-1)) (fun M5 => bd (fX1_advance N M5 a) (fun r6 => some (1, r6))) else some (0, M) else some (0, M)
def fX1_readForAll (N : Nat) (M : Mem) (a : Nat) (b1 : Nat) : Option (Int32 × Mem) :=
  bd (fX1_passNumber N M a 0 99) (fun r1 => if r1.1 = 0 then some (0, r1.2) else bd (fJ7_fill_53178 N r1.2 12 b1 (r1.2.1 a 5)) (fun r3 => some (1, r3)))
def fX1_readMore (N : Nat) (M : Mem) (a : Nat) (b1 : Nat) : Option (Int32 × Mem) :=
  bd (fX1_passNumber N M a 0 9) (fun r1 => if r1.1 = 0 then some (0, r1.2) else nm (sI r1.2 b1 8 (r1.2.1 a 5)) (fun M3 => some (1, M3)))
def fX1_readOne (N : Nat) (M : Mem) (a : Nat) (b1 : Nat) : Option (Int32 × Mem) :=
  bd (fX1_passNumber N M a 0 ((M.1 b1 7) - 1)) (fun r1 => if r1.1 = 0 then some (0, r1.2) else nm (r1.2.1 a 5) (fun x3 => bd (fX1_passWord N r1.2 a 1) (fun r4 => if r4.1 = 0 then some (0, r4.2) else bd (fX1_passNumber N r4.2 a 0 99) (fun r6 => if r6.1 = 0 then some (0, r6.2) else nm (r6.2.1 a 5) (fun x8 => bd (fX1_passWord N r6.2 a 2) (fun r9 => if r9.1 = 0 then some (0, r9.2) else bd (fX1_passNumber N r9.2 a 0 99) (fun r11 => if r11.1 = 0 then some (0, r11.2) else bd (fX4_value N r11.2 b1 x3 x8 (r11.2.1 a 5)) (fun r13 => some (1, r13)))))))))
def fX1_readTie (N : Nat) (M : Mem) (a : Nat) (b1 : Nat) : Option (Int32 × Mem) :=
  bd (fX1_passNumber N M a 0 ((M.1 b1 7) - 1)) (fun r1 => if r1.1 = 0 then some (0, r1.2) else nm (r1.2.1 a 5) (fun x3 => if (r1.2.1 a 2) = 2 then bd (fX1_numberAtHand N r1.2 a) (fun r15 => if r15 = x3 then some (0, r1.2) else bd (fX1_passNumber N r1.2 a 0 ((r1.2.1 b1 7) - 1)) (fun r17 => if r17.1 = 0 then some (0, r17.2) else nm (r17.2.1 a 5) (fun x19 => bd (fX1_passWord N r17.2 a 6) (fun r20 => if r20.1 = 0 then bd (fX4_join N r20.2 b1 x3 x19 0) (fun r22 => some (1, r22)) else bd (fX1_passNumber N r20.2 a 0 9) (fun r23 => if r23.1 = 0 then some (0, r23.2) else nm (r23.2.1 a 5) (fun x25 => bd (fX4_join N r23.2 b1 x3 x19 x25) (fun r26 => some (1, r26)))))))) else bd (fX1_passNumber N r1.2 a 0 ((r1.2.1 b1 7) - 1)) (fun r5 => if r5.1 = 0 then some (0, r5.2) else nm (r5.2.1 a 5) (fun x7 => bd (fX1_passWord N r5.2 a 6) (fun r8 => if r8.1 = 0 then bd (fX4_join N r8.2 b1 x3 x7 0) (fun r10 => some (1, r10)) else bd (fX1_passNumber N r8.2 a 0 9) (fun r11 => if r11.1 = 0 then some (0, r11.2) else nm (r11.2.1 a 5) (fun x13 => bd (fX4_join N r11.2 b1 x3 x7 x13) (fun r14 => some (1, r14)))))))))
def fX1_readMust (N : Nat) (M : Mem) (a : Nat) (b1 : Nat) : Option (Int32 × Mem) :=
  bd (fX1_passNumber N M a 0 ((M.1 b1 7) - 1)) (fun r1 => if r1.1 = 0 then some (0, r1.2) else bd (fX4_setMust N r1.2 b1 (r1.2.1 a 5) 1) (fun r3 => some (1, r3)))
def fX1_readStatement (N : Nat) (M : Mem) (a : Nat) (b1 : Nat) : Option (Int32 × Mem) :=
  bd (fX1_passWord N M a 1) (fun r1 => if r1.1 = 0 then bd (fX1_passWord N r1.2 a 2) (fun r3 => if r3.1 = 0 then bd (fX1_passWord N r3.2 a 3) (fun r5 => if r5.1 = 0 then bd (fX1_passWord N r5.2 a 4) (fun r7 => if r7.1 = 0 then bd (fX1_passWord N r7.2 a 5) (fun r9 => if r9.1 = 0 then bd (fX1_passWord N r9.2 a 7) (fun r11 => if r11.1 = 0 then if (r11.2.1 b1 7) < 3 then bd (fX1_passWord N r11.2 a 9) (fun r14 => if r14.1 = 0 then some (0, r14.2) else bd (fX4_joinAll N r14.2 b1) (fun r16 => some (1, r16))) else bd (fX1_passWord N r11.2 a 8) (fun r17 => if r17.1 = 0 then bd (fX1_passWord N r17.2 a 9) (fun r19 => if r19.1 = 0 then some (0, r19.2) else bd (fX4_joinAll N r19.2 b1) (fun r21 => some (1, r21))) else bd (fX4_joinNeighbours N r17.2 b1) (fun r22 => some (1, r22))) else bd (fX1_readMust N r11.2 a b1) (fun r23 => gc (r23.1 = 0 ∨ r23.1 = 1) (some (r23.1, r23.2)))) else bd (fX1_readTie N r9.2 a b1) (fun r25 => gc (r25.1 = 0 ∨ r25.1 = 1) (some (r25.1, r25.2)))) else bd (fX1_readOne N r7.2 a b1) (fun r27 => gc (r27.1 = 0 ∨ r27.1 = 1) (some (r27.1, r27.2)))) else bd (fX1_readMore N r5.2 a b1) (fun r29 => gc (r29.1 = 0 ∨ r29.1 = 1) (some (r29.1, r29.2)))) else bd (fX1_readForAll N r3.2 a (b1 + 2)) (fun r31 => gc (r31.1 = 0 ∨ r31.1 = 1) (some (r31.1, r31.2)))) else bd (fX1_readForAll N r1.2 a (b1 + 1)) (fun r33 => gc (r33.1 = 0 ∨ r33.1 = 1) (some (r33.1, r33.2))))
def fX1_readStreet_40 (N : Nat) (a : Nat) (b1 : Nat) : Nat → Mem → Int32 → Option (Int32 × Mem)
  | 0, _, _ => none
  | n + 1, Mw, w2 => if 160 ≤ w2 then if (Mw.1 a 2) = 0 then some (1, Mw) else some (0, Mw) else if (Mw.1 a 2) = 3 then bd (fX1_advance N Mw a) (fun r5 => bd (fX1_readStatement N r5 a b1) (fun r6 => if r6.1 = 0 then some (0, r6.2) else fX1_readStreet_40 N a b1  n r6.2 (w2 + 1))) else if (Mw.1 a 2) = 0 then some (1, Mw) else some (0, Mw)
def fX1_readStreet (N : Nat) (M : Mem) (a : Nat) (b1 : Nat) : Option (Int32 × Mem) :=
  nm (sI M a 4 0) (fun M1 => bd (fX1_advance N M1 a) (fun r2 => bd (fX1_passWord N r2 a 0) (fun r3 => if r3.1 = 0 then some (0, r3.2) else bd (fX1_passNumber N r3.2 a 1 12) (fun r5 => if r5.1 = 0 then some (0, r5.2) else bd (fX4_clear N r5.2 b1 (r5.2.1 a 5)) (fun r7 => fX1_readStreet_40 N a b1 N r7 0)))))
def fX7_refuse (N : Nat) (M : Mem) (a : Nat) (v1 : Int32) : Option (Int32 × Mem) :=
  gd (-v1) 8 (nm (sI M (a + 17) ((-v1) : Int32).toNatClampNeg ((M.1 (a + 17) ((-v1) : Int32).toNatClampNeg) + 1)) (fun M2 => some (v1, M2)))
def fX7_in (N : Nat) (M : Mem) (v0 : Int64) (v2 : Int64) (v4 : Int64) : Option Int32 :=
  if (lg_cmp v0 v2) < 0 then some 0 else if 0 < (lg_cmp v0 v4) then some 0 else some 1
def fX7_isStreet (N : Nat) (M : Mem) (a : Nat) (v1 : Int32) : Option Int32 :=
  bd (fX7_in N M ((v1 : Int32).toInt64) 0 ((((M.1 a 10) - 1) : Int32).toInt64)) (fun r1 => gc (r1 = 0 ∨ r1 = 1) (some r1))
def fX7_isPerson (N : Nat) (M : Mem) (a : Nat) (v1 : Int32) (v2 : Int32) : Option Int32 :=
  bd (fX7_isStreet N M a v1) (fun r1 => if r1 = 0 then some 0 else gd v1 5 (bd (fX7_in N M ((v2 : Int32).toInt64) 0 ((((M.1 (a + 18) (v1 : Int32).toNatClampNeg) - 1) : Int32).toInt64)) (fun r4 => if r4 = 0 then some 0 else some 1)))
def fX7_all (N : Nat) (M : Mem) (a : Nat) (v1 : Int32) : Option Int32 :=
  gd v1 5 (some ((1 <<< ((M.1 (a + 18) (v1 : Int32).toNatClampNeg) &&& 31)) - 1))
def fX7_isSet (N : Nat) (M : Mem) (a : Nat) (v1 : Int32) (v2 : Int64) : Option Int32 :=
  bd (fX7_isStreet N M a v1) (fun r1 => if r1 = 0 then some 0 else bd (fX7_all N M a v1) (fun r3 => bd (fX7_in N M v2 0 ((r3 : Int32).toInt64)) (fun r4 => if r4 = 0 then some 0 else some 1)))
def fX7_row_67 (N : Nat) (a : Nat) (u1 : Int32) : Nat → Mem → Int32 → Option (Int32 × Mem)
  | 0, _, _ => none
  | n + 1, Mw, w4 => if 40 ≤ w4 then some (1, Mw) else gd u1 8 (gd w4 40 (nm (sJ Mw ((a + 4) + 1 + (u1 : Int32).toNatClampNeg) (w4 : Int32).toNatClampNeg 0) (fun M4 => fX7_row_67 N a u1  n M4 (w4 + 1))))
def fX7_row (N : Nat) (M : Mem) (a : Nat) (v1 : Int32) (v2 : Int32) (v3 : Int32) : Option (Int32 × Mem) :=
  bd (fX7_in N M ((v1 : Int32).toInt64) 0 7) (fun r1 => if r1 = 0 then bd (fX7_refuse N M a (-2)) (fun r3 => some (r3.1, r3.2)) else bd (fX7_in N M ((v2 : Int32).toInt64) 0 4) (fun r4 => if r4 = 0 then bd (fX7_refuse N M a (-2)) (fun r6 => some (r6.1, r6.2)) else bd (fX7_in N M ((v3 : Int32).toInt64) 0 40) (fun r7 => if r7 = 0 then bd (fX7_refuse N M a (-2)) (fun r13 => some (r13.1, r13.2)) else gd v1 8 (nm (sI M (a + 1) (v1 : Int32).toNatClampNeg 1) (fun M10 => nm (sI M10 (a + 2) (v1 : Int32).toNatClampNeg v2) (fun M11 => nm (sI M11 (a + 3) (v1 : Int32).toNatClampNeg v3) (fun M12 => fX7_row_67 N a v1 N M12 0)))))))
def fX7_fit (N : Nat) (M : Mem) (v0 : Int32) (v1 : Int64) : Option Int64 :=
  if v0 = 0 then some ((((v1 : Int64).toInt32 : Int32).toInt8.toInt32 : Int32).toInt64) else if v0 = 1 then some ((((v1 : Int64).toInt32 : Int32).toInt16.toInt32 : Int32).toInt64) else if v0 = 2 then some (((v1 : Int64).toInt32 : Int32).toInt64) else if v0 = 3 then some v1 else if (lg_cmp v1 0) = 0 then some 0 else some 1
def fX7_set (N : Nat) (M : Mem) (a : Nat) (v1 : Int32) (v2 : Int32) (v3 : Int64) : Option (Int32 × Mem) :=
  bd (fX7_in N M ((v1 : Int32).toInt64) 0 7) (fun r1 => if r1 = 0 then bd (fX7_refuse N M a (-2)) (fun r14 => some (r14.1, r14.2)) else gd v1 8 (if (M.1 (a + 1) (v1 : Int32).toNatClampNeg) = 2 then bd (fX7_refuse N M a (-3)) (fun r13 => some (r13.1, r13.2)) else if (M.1 (a + 1) (v1 : Int32).toNatClampNeg) = 0 then bd (fX7_refuse N M a (-4)) (fun r12 => some (r12.1, r12.2)) else bd (fX7_in N M ((v2 : Int32).toInt64) 0 ((((M.1 (a + 3) (v1 : Int32).toNatClampNeg) - 1) : Int32).toInt64)) (fun r6 => if r6 = 0 then bd (fX7_refuse N M a (-2)) (fun r11 => some (r11.1, r11.2)) else bd (fX7_fit N M (M.1 (a + 2) (v1 : Int32).toNatClampNeg) v3) (fun r8 => gd v2 40 (nm (sJ M ((a + 4) + 1 + (v1 : Int32).toNatClampNeg) (v2 : Int32).toNatClampNeg r8) (fun M10 => some (1, M10)))))))
def fX7_copy_225 (N : Nat) (a : Nat) (u2 : Int32) (u4 : Int32) (u5 : Int32) : Nat → Mem → Int32 → Option (Int32 × Mem)
  | 0, _, _ => none
  | n + 1, Mw, w6 => if u5 ≤ w6 then some (u5, Mw) else gd u2 8 (gd w6 40 (gd (u4 + w6) 40 (nm (sJ Mw ((a + 4) + 1 + (u2 : Int32).toNatClampNeg) ((u4 + w6) : Int32).toNatClampNeg (Mw.2 (a + 15) (w6 : Int32).toNatClampNeg)) (fun M5 => fX7_copy_225 N a u2 u4 u5  n M5 (w6 + 1)))))
def fX7_copy_191 (N : Nat) (a : Nat) (u1 : Int32) (u2 : Int32) (u3 : Int32) (u4 : Int32) (u5 : Int32) : Nat → Mem → Int32 → Option (Int32 × Mem)
  | 0, _, _ => none
  | n + 1, Mw, w6 => if u5 ≤ w6 then fX7_copy_225 N a u2 u4 u5 N Mw 0 else gd u1 8 (gd (u3 + w6) 40 (gd w6 40 (nm (sJ Mw (a + 15) (w6 : Int32).toNatClampNeg (Mw.2 ((a + 4) + 1 + (u1 : Int32).toNatClampNeg) ((u3 + w6) : Int32).toNatClampNeg)) (fun M9 => fX7_copy_191 N a u1 u2 u3 u4 u5  n M9 (w6 + 1)))))
def fX7_copy (N : Nat) (M : Mem) (a : Nat) (v1 : Int32) (v2 : Int32) (v3 : Int32) (v4 : Int32) (v5 : Int32) : Option (Int32 × Mem) :=
  bd (fX7_in N M ((v1 : Int32).toInt64) 0 7) (fun r1 => if r1 = 0 then bd (fX7_refuse N M a (-2)) (fun r3 => some (r3.1, r3.2)) else bd (fX7_in N M ((v2 : Int32).toInt64) 0 7) (fun r4 => if r4 = 0 then bd (fX7_refuse N M a (-2)) (fun r70 => some (r70.1, r70.2)) else gd v1 8 (if (M.1 (a + 1) (v1 : Int32).toNatClampNeg) = 2 then bd (fX7_refuse N M a (-3)) (fun r8 => some (r8.1, r8.2)) else gd v2 8 (if (M.1 (a + 1) (v2 : Int32).toNatClampNeg) = 2 then bd (fX7_refuse N M a (-3)) (fun r11 => some (r11.1, r11.2)) else if (M.1 (a + 1) (v1 : Int32).toNatClampNeg) = 1 then if (M.1 (a + 1) (v2 : Int32).toNatClampNeg) = 1 then if (M.1 (a + 2) (v1 : Int32).toNatClampNeg) = (M.1 (a + 2) (v2 : Int32).toNatClampNeg) then if (M.1 (a + 1) (v1 : Int32).toNatClampNeg) = 0 then bd (fX7_refuse N M a (-4)) (fun r52 => some (r52.1, r52.2)) else if (M.1 (a + 1) (v2 : Int32).toNatClampNeg) = 0 then bd (fX7_refuse N M a (-4)) (fun r68 => some (r68.1, r68.2)) else if v5 < 0 then bd (fX7_refuse N M a (-2)) (fun r55 => some (r55.1, r55.2)) else if v3 < 0 then bd (fX7_refuse N M a (-2)) (fun r57 => some (r57.1, r57.2)) else if v4 < 0 then bd (fX7_refuse N M a (-2)) (fun r59 => some (r59.1, r59.2)) else if (M.1 (a + 3) (v1 : Int32).toNatClampNeg) < v5 then bd (fX7_refuse N M a (-2)) (fun r61 => some (r61.1, r61.2)) else if (M.1 (a + 3) (v2 : Int32).toNatClampNeg) < v5 then bd (fX7_refuse N M a (-2)) (fun r63 => some (r63.1, r63.2)) else if ((M.1 (a + 3) (v1 : Int32).toNatClampNeg) - v5) < v3 then bd (fX7_refuse N M a (-2)) (fun r65 => some (r65.1, r65.2)) else if v4 ≤ ((M.1 (a + 3) (v2 : Int32).toNatClampNeg) - v5) then fX7_copy_191 N a v1 v2 v3 v4 v5 N M 0 else bd (fX7_refuse N M a (-2)) (fun r67 => some (r67.1, r67.2)) else bd (fX7_refuse N M a (-3)) (fun r69 => some (r69.1, r69.2)) else if (M.1 (a + 1) (v1 : Int32).toNatClampNeg) = 0 then bd (fX7_refuse N M a (-4)) (fun r33 => some (r33.1, r33.2)) else if (M.1 (a + 1) (v2 : Int32).toNatClampNeg) = 0 then bd (fX7_refuse N M a (-4)) (fun r49 => some (r49.1, r49.2)) else if v5 < 0 then bd (fX7_refuse N M a (-2)) (fun r36 => some (r36.1, r36.2)) else if v3 < 0 then bd (fX7_refuse N M a (-2)) (fun r38 => some (r38.1, r38.2)) else if v4 < 0 then bd (fX7_refuse N M a (-2)) (fun r40 => some (r40.1, r40.2)) else if (M.1 (a + 3) (v1 : Int32).toNatClampNeg) < v5 then bd (fX7_refuse N M a (-2)) (fun r42 => some (r42.1, r42.2)) else if (M.1 (a + 3) (v2 : Int32).toNatClampNeg) < v5 then bd (fX7_refuse N M a (-2)) (fun r44 => some (r44.1, r44.2)) else if ((M.1 (a + 3) (v1 : Int32).toNatClampNeg) - v5) < v3 then bd (fX7_refuse N M a (-2)) (fun r46 => some (r46.1, r46.2)) else if v4 ≤ ((M.1 (a + 3) (v2 : Int32).toNatClampNeg) - v5) then fX7_copy_191 N a v1 v2 v3 v4 v5 N M 0 else bd (fX7_refuse N M a (-2)) (fun r48 => some (r48.1, r48.2)) else if (M.1 (a + 1) (v1 : Int32).toNatClampNeg) = 0 then bd (fX7_refuse N M a (-4)) (fun r14 => some (r14.1, r14.2)) else if (M.1 (a + 1) (v2 : Int32).toNatClampNeg) = 0 then bd (fX7_refuse N M a (-4)) (fun r30 => some (r30.1, r30.2)) else if v5 < 0 then bd (fX7_refuse N M a (-2)) (fun r17 => some (r17.1, r17.2)) else if v3 < 0 then bd (fX7_refuse N M a (-2)) (fun r19 => some (r19.1, r19.2)) else if v4 < 0 then bd (fX7_refuse N M a (-2)) (fun r21 => some (r21.1, r21.2)) else if (M.1 (a + 3) (v1 : Int32).toNatClampNeg) < v5 then bd (fX7_refuse N M a (-2)) (fun r23 => some (r23.1, r23.2)) else if (M.1 (a + 3) (v2 : Int32).toNatClampNeg) < v5 then bd (fX7_refuse N M a (-2)) (fun r25 => some (r25.1, r25.2)) else if ((M.1 (a + 3) (v1 : Int32).toNatClampNeg) - v5) < v3 then bd (fX7_refuse N M a (-2)) (fun r27 => some (r27.1, r27.2)) else if v4 ≤ ((M.1 (a + 3) (v2 : Int32).toNatClampNeg) - v5) then fX7_copy_191 N a v1 v2 v3 v4 v5 N M 0 else bd (fX7_refuse N M a (-2)) (fun r29 => some (r29.1, r29.2))))))
def fX7_element (N : Nat) (M : Mem) (a : Nat) (v1 : Int32) (v2 : Int32) : Option Int64 :=
  bd (fX7_in N M ((v1 : Int32).toInt64) 0 7) (fun r1 => if r1 = 0 then some 0 else gd v1 8 (if (M.1 (a + 1) (v1 : Int32).toNatClampNeg) = 1 then bd (fX7_in N M ((v2 : Int32).toInt64) 0 ((((M.1 (a + 3) (v1 : Int32).toNatClampNeg) - 1) : Int32).toInt64)) (fun r5 => if r5 = 0 then some 0 else gd v2 40 (some (M.2 ((a + 4) + 1 + (v1 : Int32).toNatClampNeg) (v2 : Int32).toNatClampNeg))) else some 0))
def fX7_holds (N : Nat) (M : Mem) (a : Nat) (v1 : Int32) : Option Int32 :=
  bd (fX7_in N M ((v1 : Int32).toInt64) 0 7) (fun r1 => if r1 = 0 then some (-1) else gd v1 8 (if (M.1 (a + 1) (v1 : Int32).toNatClampNeg) = 0 then some (-1) else if (M.1 (a + 1) (v1 : Int32).toNatClampNeg) = 1 then some (M.1 (a + 2) (v1 : Int32).toNatClampNeg) else some (10 + (M.1 (a + 13) (v1 : Int32).toNatClampNeg))))
def fX7_mayBy (N : Nat) (M : Mem) (v0 : Int32) (v1 : Int32) : Option Int32 :=
  if v0 = 1 then bd (fX7_in N M ((v1 : Int32).toInt64) 0 1) (fun r2 => gc (r2 = 0 ∨ r2 = 1) (some r2)) else if v0 = 2 then bd (fX7_in N M ((v1 : Int32).toInt64) 0 1000) (fun r5 => gc (r5 = 0 ∨ r5 = 1) (some r5)) else if v0 = 3 then bd (fX7_in N M ((v1 : Int32).toInt64) 0 11) (fun r8 => gc (r8 = 0 ∨ r8 = 1) (some r8)) else if v0 = 4 then if v1 < 0 then some 0 else bd (fX7_in N M (((v1 / 100) : Int32).toInt64) 1 9) (fun r12 => if r12 = 0 then some 0 else if (v1 / 100) ≤ (v1 - v1 / 100 * 100) then some 0 else some 1) else bd (fX7_in N M ((v1 : Int32).toInt64) 0 7) (fun r15 => gc (r15 = 0 ∨ r15 = 1) (some r15))
def fX7_way_86 (N : Nat) (M : Mem) (a : Nat) (u1 : Int32) (u2 : Int32) (u3 : Int32) : Nat → Int32 → Int32 → Option (Int32 × Mem)
  | 0, _, _ => none
  | n + 1, w4, w5 => gd u3 8 (if (M.1 (a + 3) (u3 : Int32).toNatClampNeg) ≤ w5 then gd u1 8 (nm (sI M (a + 1) (u1 : Int32).toNatClampNeg 2) (fun M4 => nm (sI M4 (a + 13) (u1 : Int32).toNatClampNeg u2) (fun M5 => nm (sI M5 (a + 14) (u1 : Int32).toNatClampNeg w4) (fun M6 => some (1, M6))))) else if 12 ≤ w5 then gd u1 8 (nm (sI M (a + 1) (u1 : Int32).toNatClampNeg 2) (fun M9 => nm (sI M9 (a + 13) (u1 : Int32).toNatClampNeg u2) (fun M10 => nm (sI M10 (a + 14) (u1 : Int32).toNatClampNeg w4) (fun M11 => some (1, M11))))) else gd w5 40 (if (lg_cmp (M.2 ((a + 4) + 1 + (u3 : Int32).toNatClampNeg) (w5 : Int32).toNatClampNeg) 0) = 0 then nm (w4 ||| 0) (fun x14 => fX7_way_86 N M a u1 u2 u3  n x14 (w5 + 1)) else nm (w4 ||| (1 <<< (w5 &&& 31))) (fun x15 => fX7_way_86 N M a u1 u2 u3  n x15 (w5 + 1))))
def fX7_way (N : Nat) (M : Mem) (a : Nat) (v1 : Int32) (v2 : Int32) (v3 : Int32) : Option (Int32 × Mem) :=
  bd (fX7_in N M ((v1 : Int32).toInt64) 0 7) (fun r1 => if r1 = 0 then bd (fX7_refuse N M a (-2)) (fun r3 => some (r3.1, r3.2)) else bd (fX7_in N M ((v2 : Int32).toInt64) 1 5) (fun r4 => if r4 = 0 then bd (fX7_refuse N M a (-2)) (fun r6 => some (r6.1, r6.2)) else bd (fX7_mayBy N M v2 v3) (fun r7 => if r7 = 0 then bd (fX7_refuse N M a (-2)) (fun r19 => some (r19.1, r19.2)) else if v2 = 5 then gd v3 8 (if (M.1 (a + 1) (v3 : Int32).toNatClampNeg) = 2 then bd (fX7_refuse N M a (-3)) (fun r18 => some (r18.1, r18.2)) else if (M.1 (a + 1) (v3 : Int32).toNatClampNeg) = 0 then bd (fX7_refuse N M a (-4)) (fun r17 => some (r17.1, r17.2)) else fX7_way_86 N M a v1 v2 v3 N 0 0) else gd v1 8 (nm (sI M (a + 1) (v1 : Int32).toNatClampNeg 2) (fun M11 => nm (sI M11 (a + 13) (v1 : Int32).toNatClampNeg v2) (fun M12 => nm (sI M12 (a + 14) (v1 : Int32).toNatClampNeg v3) (fun M13 => some (1, M13))))))))
def fX7_isUnder (N : Nat) (M : Mem) (v0 : Int32) (v1 : Int32) : Option Int32 :=
  if v1 = 0 then some 1 else if v0 = v1 then some 1 else if v1 = 1 then if v0 = 2 then some 1 else if v1 = 3 then if v0 = 4 then some 1 else some 0 else some 0 else if v1 = 3 then if v0 = 4 then some 1 else some 0 else some 0
def fX7_says (N : Nat) (M : Mem) (a : Nat) (v1 : Int32) (v2 : Int32) : Option (Int32 × Mem) :=
  bd (fX7_in N M ((v1 : Int32).toInt64) 0 7) (fun r1 => if r1 = 0 then bd (fX7_refuse N M a (-2)) (fun r3 => some (r3.1, r3.2)) else bd (fX7_in N M ((v2 : Int32).toInt64) 0 5) (fun r4 => if r4 = 0 then bd (fX7_refuse N M a (-2)) (fun r31 => some (r31.1, r31.2)) else gd v1 8 (if (M.1 (a + 1) (v1 : Int32).toNatClampNeg) = 1 then bd (fX7_refuse N M a (-3)) (fun r8 => some (r8.1, r8.2)) else if (M.1 (a + 1) (v1 : Int32).toNatClampNeg) = 2 then bd (fX7_isUnder N M (M.1 (a + 13) (v1 : Int32).toNatClampNeg) v2) (fun r19 => if r19 = 0 then bd (fX7_refuse N M a (-3)) (fun r30 => some (r30.1, r30.2)) else if (M.1 (a + 1) (v1 : Int32).toNatClampNeg) = 0 then bd (fX7_refuse N M a (-4)) (fun r29 => some (r29.1, r29.2)) else if v2 = 0 then some (0, M) else if v2 = 1 then if (M.1 (a + 13) (v1 : Int32).toNatClampNeg) = 2 then if (M.1 (a + 14) (v1 : Int32).toNatClampNeg) ≤ 500 then some (0, M) else some (1, M) else some ((M.1 (a + 14) (v1 : Int32).toNatClampNeg), M) else if v2 = 2 then some ((M.1 (a + 14) (v1 : Int32).toNatClampNeg), M) else if v2 = 3 then if (M.1 (a + 13) (v1 : Int32).toNatClampNeg) = 4 then some (((M.1 (a + 14) (v1 : Int32).toNatClampNeg) / 100), M) else some ((M.1 (a + 14) (v1 : Int32).toNatClampNeg), M) else some ((M.1 (a + 14) (v1 : Int32).toNatClampNeg), M)) else if (M.1 (a + 1) (v1 : Int32).toNatClampNeg) = 0 then bd (fX7_refuse N M a (-4)) (fun r18 => some (r18.1, r18.2)) else if v2 = 0 then some (0, M) else if v2 = 1 then if (M.1 (a + 13) (v1 : Int32).toNatClampNeg) = 2 then if (M.1 (a + 14) (v1 : Int32).toNatClampNeg) ≤ 500 then some (0, M) else some (1, M) else some ((M.1 (a + 14) (v1 : Int32).toNatClampNeg), M) else if v2 = 2 then some ((M.1 (a + 14) (v1 : Int32).toNatClampNeg), M) else if v2 = 3 then if (M.1 (a + 13) (v1 : Int32).toNatClampNeg) = 4 then some (((M.1 (a + 14) (v1 : Int32).toNatClampNeg) / 100), M) else some ((M.1 (a + 14) (v1 : Int32).toNatClampNeg), M) else some ((M.1 (a + 14) (v1 : Int32).toNatClampNeg), M))))
def fX7_feed_42 (N : Nat) (a : Nat) (u1 : Int32) : Nat → Mem → Int32 → Option (Int32 × Mem)
  | 0, _, _ => none
  | n + 1, Mw, w3 => if w3 < 0 then some ((Mw.1 a 8), Mw) else nm (sI Mw a 8 ((Mw.1 a 8) + 1)) (fun M2 => gd (Mw.1 a 8) 160 (nm (sI M2 (a + 16) ((Mw.1 a 8) : Int32).toNatClampNeg ((u1 >>> ((8 * w3) &&& 31)) &&& 255)) (fun M4 => fX7_feed_42 N a u1  n M4 (w3 + (-1)))))
def fX7_feed (N : Nat) (M : Mem) (a : Nat) (v1 : Int32) (v2 : Int32) : Option (Int32 × Mem) :=
  bd (fX7_in N M ((v2 : Int32).toInt64) 1 4) (fun r1 => if r1 = 0 then bd (fX7_refuse N M a (-2)) (fun r6 => some (r6.1, r6.2)) else if v2 ≤ (160 - (M.1 a 8)) then nm (v2 - 1) (fun x4 => fX7_feed_42 N a v1 N M x4) else bd (fX7_refuse N M a (-6)) (fun r5 => some (r5.1, r5.2)))
def fX7_wipe (N : Nat) (M : Mem) (a : Nat) : Option (Int32 × Mem) :=
  nm (M.1 a 8) (fun x1 => nm (sI M a 8 0) (fun M2 => some (x1, M2)))
def fX7_isLetter (N : Nat) (M : Mem) (v0 : Int32) : Option Int32 :=
  if v0 < 97 then some 0 else if 122 < v0 then some 0 else some 1
def fX7_isDigit (N : Nat) (M : Mem) (v0 : Int32) : Option Int32 :=
  if v0 < 48 then some 0 else if 57 < v0 then some 0 else some 1
def fX7_look_149 (N : Nat) (a : Nat) : Nat → Mem → Option Mem
  | 0, _ => none
  | n + 1, Mw => if (Mw.1 a 8) ≤ (Mw.1 a 27) then some Mw else gd (Mw.1 a 27) 160 (bd (fX7_isDigit N Mw (Mw.1 (a + 16) ((Mw.1 a 27) : Int32).toNatClampNeg)) (fun r3 => if r3 = 0 then some Mw else if 3 ≤ ((Mw.1 a 27) - (Mw.1 a 29)) then nm (sJ Mw a 30 100000) (fun M6 => nm (sI M6 a 27 ((M6.1 a 27) + 1)) (fun M7 => fX7_look_149 N a  n M7)) else nm (sJ Mw a 30 ((((Mw.2 a 30) * 10) + (((Mw.1 (a + 16) ((Mw.1 a 27) : Int32).toNatClampNeg) : Int32).toInt64)) - 48)) (fun M8 => nm (sI M8 a 27 ((M8.1 a 27) + 1)) (fun M9 => fX7_look_149 N a  n M9))))
def fX7_look_90 (N : Nat) (a : Nat) : Nat → Mem → Option Mem
  | 0, _ => none
  | n + 1, Mw => if (Mw.1 a 8) ≤ (Mw.1 a 27) then some Mw else gd (Mw.1 a 27) 160 (bd (fX7_isLetter N Mw (Mw.1 (a + 16) ((Mw.1 a 27) : Int32).toNatClampNeg)) (fun r3 => if r3 = 0 then some Mw else nm (sI Mw a 27 ((Mw.1 a 27) + 1)) (fun M5 => fX7_look_90 N a  n M5)))
def fX7_look_0 (N : Nat) (a : Nat) : Nat → Mem → Option Mem
  | 0, _ => none
  | n + 1, Mw => if (Mw.1 a 8) ≤ (Mw.1 a 27) then nm (sI Mw a 29 (Mw.1 a 27)) (fun M2 => nm (sJ M2 a 30 0) (fun M3 => if (M3.1 a 27) = (M3.1 a 8) then nm (sI M3 a 28 0) (fun M17 => some M17) else gd (M3.1 a 27) 160 (bd (fX7_isLetter N M3 (M3.1 (a + 16) ((M3.1 a 27) : Int32).toNatClampNeg)) (fun r6 => if r6 = 0 then bd (fX7_isDigit N M3 (M3.1 (a + 16) ((M3.1 a 27) : Int32).toNatClampNeg)) (fun r8 => if r8 = 0 then if (M3.1 (a + 16) ((M3.1 a 27) : Int32).toNatClampNeg) = 59 then nm (sI M3 a 28 3) (fun M13 => nm (sI M13 a 27 ((M13.1 a 27) + 1)) (fun M14 => some M14)) else nm (sI M3 a 28 4) (fun M11 => nm (sI M11 a 27 ((M11.1 a 27) + 1)) (fun M12 => some M12)) else nm (sI M3 a 28 2) (fun M15 => fX7_look_149 N a N M15 )) else nm (sI M3 a 28 1) (fun M16 => fX7_look_90 N a N M16 ))))) else gd (Mw.1 a 27) 160 (if (Mw.1 (a + 16) ((Mw.1 a 27) : Int32).toNatClampNeg) = 32 then nm (sI Mw a 27 ((Mw.1 a 27) + 1)) (fun M36 => fX7_look_0 N a  n M36) else nm (sI Mw a 29 (Mw.1 a 27)) (fun M20 => nm (sJ M20 a 30 0) (fun M21 => if (M21.1 a 27) = (M21.1 a 8) then nm (sI M21 a 28 0) (fun M35 => some M35) else gd (M21.1 a 27) 160 (bd (fX7_isLetter N M21 (M21.1 (a + 16) ((M21.1 a 27) : Int32).toNatClampNeg)) (fun r24 => if r24 = 0 then bd (fX7_isDigit N M21 (M21.1 (a + 16) ((M21.1 a 27) : Int32).toNatClampNeg)) (fun r26 => if r26 = 0 then if (M21.1 (a + 16) ((M21.1 a 27) : Int32).toNatClampNeg) = 59 then nm (sI M21 a 28 3) (fun M31 => nm (sI M31 a 27 ((M31.1 a 27) + 1)) (fun M32 => some M32)) else nm (sI M21 a 28 4) (fun M29 => nm (sI M29 a 27 ((M29.1 a 27) + 1)) (fun M30 => some M30)) else nm (sI M21 a 28 2) (fun M33 => fX7_look_149 N a N M33 )) else nm (sI M21 a 28 1) (fun M34 => fX7_look_90 N a N M34 ))))))
def fX7_look (N : Nat) (M : Mem) (a : Nat) : Option Mem :=
  fX7_look_0 N a N M 
def fX7_wrong (N : Nat) (M : Mem) (a : Nat) : Option (Int32 × Mem) :=
  nm (sI M a 31 (M.1 a 29)) (fun M1 => some (0, M1))
def fX7_isWord_28 (N : Nat) (M : Mem) (a : Nat) (b1 : Nat) : Nat → Int32 → Option Int32
  | 0, _ => none
  | n + 1, w2 => bd (fJ0_length_8abf5 N M b1) (fun r1 => if r1 ≤ w2 then some 1 else gd ((M.1 a 29) + w2) 160 (bd (fJ0_charAt_5068e N M b1 w2) (fun r4 => if (M.1 (a + 16) (((M.1 a 29) + w2) : Int32).toNatClampNeg) = r4 then fX7_isWord_28 N M a b1  n (w2 + 1) else some 0)))
def fX7_isWord (N : Nat) (M : Mem) (a : Nat) (b1 : Nat) : Option Int32 :=
  if (M.1 a 28) = 1 then bd (fJ0_length_8abf5 N M b1) (fun r2 => if ((M.1 a 27) - (M.1 a 29)) = r2 then fX7_isWord_28 N M a b1 N 0 else some 0) else some 0
def fX7_word (N : Nat) (M : Mem) (a : Nat) (b1 : Nat) : Option (Int32 × Mem) :=
  bd (fX7_isWord N M a b1) (fun r1 => if r1 = 0 then bd (fX7_wrong N M a) (fun r4 => gc (r4.1 = 0 ∨ r4.1 = 1) (some (r4.1, r4.2))) else bd (fX7_look N M a) (fun r3 => some (1, r3)))
def fX7_number (N : Nat) (M : Mem) (a : Nat) (v1 : Int32) (v2 : Int32) : Option (Int32 × Mem) :=
  if (M.1 a 28) = 2 then bd (fX7_in N M (M.2 a 30) ((v1 : Int32).toInt64) ((v2 : Int32).toInt64)) (fun r4 => if r4 = 0 then bd (fX7_wrong N M a) (fun r8 => gc (r8.1 = 0 ∨ r8.1 = 1) (some (r8.1, r8.2))) else nm (sI M a 32 (((M.2 a 30) : Int64).toInt32)) (fun M6 => bd (fX7_look N M6 a) (fun r7 => some (1, r7)))) else bd (fX7_wrong N M a) (fun r2 => gc (r2.1 = 0 ∨ r2.1 = 1) (some (r2.1, r2.2)))
def fX7_tieThem (N : Nat) (M : Mem) (a : Nat) (v1 : Int32) (v2 : Int32) (v3 : Int32) (v4 : Int32) : Option Mem :=
  gd v1 5 (gd v2 12 (nm (sI M ((a + 33) + 1 + (v1 : Int32).toNatClampNeg) (v2 : Int32).toNatClampNeg ((M.1 ((a + 33) + 1 + (v1 : Int32).toNatClampNeg) (v2 : Int32).toNatClampNeg) ||| (1 <<< (v3 &&& 31)))) (fun M3 => gd v3 12 (nm (sI M3 ((a + 33) + 1 + (v1 : Int32).toNatClampNeg) (v3 : Int32).toNatClampNeg ((M3.1 ((a + 33) + 1 + (v1 : Int32).toNatClampNeg) (v3 : Int32).toNatClampNeg) ||| (1 <<< (v2 &&& 31)))) (fun M5 => gd ((v2 * 12) + v3) 144 (nm (sI M5 ((a + 39) + 1 + (v1 : Int32).toNatClampNeg) (((v2 * 12) + v3) : Int32).toNatClampNeg v4) (fun M7 => gd ((v3 * 12) + v2) 144 (nm (sI M7 ((a + 39) + 1 + (v1 : Int32).toNatClampNeg) (((v3 * 12) + v2) : Int32).toNatClampNeg v4) (fun M9 => some M9)))))))))
def fX7_tieNew (N : Nat) (M : Mem) (a : Nat) (v1 : Int32) (v2 : Int32) (v3 : Int32) : Option Mem :=
  if v2 = v3 then some M else gd v1 5 (gd v2 12 (if (((M.1 ((a + 33) + 1 + (v1 : Int32).toNatClampNeg) (v2 : Int32).toNatClampNeg) >>> (v3 &&& 31)) &&& 1) = 0 then bd (fX7_tieThem N M a v1 v2 v3 0) (fun r5 => some r5) else some M))
def fX7_tieTold (N : Nat) (M : Mem) (a : Nat) (v1 : Int32) (v2 : Int32) : Option (Int32 × Mem) :=
  bd (fX7_look N M a) (fun r1 => bd (fX7_number N r1 a 0 (v2 - 1)) (fun r2 => if r2.1 = 0 then some (0, r2.2) else nm (r2.2.1 a 32) (fun x4 => if (r2.2.1 a 28) = 2 then if (lg_cmp (r2.2.2 a 30) ((x4 : Int32).toInt64)) = 0 then bd (fX7_wrong N r2.2 a) (fun r29 => gc (r29.1 = 0 ∨ r29.1 = 1) (some (r29.1, r29.2))) else bd (fX7_number N r2.2 a 0 (v2 - 1)) (fun r18 => if r18.1 = 0 then some (0, r18.2) else nm (r18.2.1 a 32) (fun x20 => bd (fX7_isWord N r18.2 a 6) (fun r21 => if r21 = 0 then bd (fX7_tieThem N r18.2 a v1 x4 x20 0) (fun r23 => some (1, r23)) else bd (fX7_look N r18.2 a) (fun r24 => bd (fX7_number N r24 a 0 9) (fun r25 => if r25.1 = 0 then some (0, r25.2) else nm (r25.2.1 a 32) (fun x27 => bd (fX7_tieThem N r25.2 a v1 x4 x20 x27) (fun r28 => some (1, r28)))))))) else bd (fX7_number N r2.2 a 0 (v2 - 1)) (fun r6 => if r6.1 = 0 then some (0, r6.2) else nm (r6.2.1 a 32) (fun x8 => bd (fX7_isWord N r6.2 a 6) (fun r9 => if r9 = 0 then bd (fX7_tieThem N r6.2 a v1 x4 x8 0) (fun r11 => some (1, r11)) else bd (fX7_look N r6.2 a) (fun r12 => bd (fX7_number N r12 a 0 9) (fun r13 => if r13.1 = 0 then some (0, r13.2) else nm (r13.2.1 a 32) (fun x15 => bd (fX7_tieThem N r13.2 a v1 x4 x8 x15) (fun r16 => some (1, r16)))))))))))
def fX7_statement_69 (N : Nat) (a : Nat) (g3 : Nat) (u2 : Int32) : Nat → Mem → Int32 → Option (Int32 × Mem)
  | 0, _, _ => none
  | n + 1, Mw, w4 => if u2 ≤ w4 then some (1, Mw) else gd w4 12 (nm (sI Mw g3 (w4 : Int32).toNatClampNeg (Mw.1 a 32)) (fun M3 => fX7_statement_69 N a g3 u2  n M3 (w4 + 1)))
def fX7_statement_353 (N : Nat) (a : Nat) (u1 : Int32) (u2 : Int32) (u3 : Int32) (K373 : Mem → Option (Int32 × Mem)) : Nat → Mem → Int32 → Option (Int32 × Mem)
  | 0, _, _ => none
  | n + 1, Mw, w4 => if u3 ≤ w4 then K373 Mw else bd (fX7_tieNew N Mw a u1 w4 u3) (fun r2 => fX7_statement_353 N a u1 u2 u3 K373 n r2 (w4 + 1))
def fX7_statement_345 (N : Nat) (a : Nat) (u1 : Int32) (u2 : Int32) : Nat → Mem → Int32 → Option (Int32 × Mem)
  | 0, _, _ => none
  | n + 1, Mw, w3 => if u2 ≤ w3 then some (1, Mw) else fX7_statement_353 N a u1 u2 w3 (fun My353 => fX7_statement_345 N a u1 u2  n My353 (w3 + 1)) N Mw 0
def fX7_statement_306 (N : Nat) (a : Nat) (u1 : Int32) (u2 : Int32) : Nat → Mem → Int32 → Option (Int32 × Mem)
  | 0, _, _ => none
  | n + 1, Mw, w3 => if u2 ≤ w3 then some (1, Mw) else gc (¬ u2 = 0) (bd (fX7_tieNew N Mw a u1 w3 ((w3 + 1) - (w3 + 1) / u2 * u2)) (fun r3 => fX7_statement_306 N a u1 u2  n r3 (w3 + 1)))
def fX7_statement (N : Nat) (M : Mem) (a : Nat) (v1 : Int32) : Option (Int32 × Mem) :=
  gd v1 5 (nm (M.1 (a + 18) (v1 : Int32).toNatClampNeg) (fun x2 => bd (fX7_isWord N M a 1) (fun r3 => if r3 = 0 then bd (fX7_isWord N M a 2) (fun r13 => if r13 = 0 then bd (fX7_isWord N M a 3) (fun r15 => if r15 = 0 then bd (fX7_isWord N M a 4) (fun r17 => if r17 = 0 then bd (fX7_isWord N M a 5) (fun r19 => if r19 = 0 then bd (fX7_isWord N M a 7) (fun r21 => if r21 = 0 then bd (fX7_isWord N M a 8) (fun r23 => if r23 = 0 then bd (fX7_isWord N M a 9) (fun r25 => if r25 = 0 then bd (fX7_wrong N M a) (fun r27 => gc (r27.1 = 0 ∨ r27.1 = 1) (some (r27.1, r27.2))) else bd (fX7_look N M a) (fun r29 => fX7_statement_345 N a v1 x2 N r29 0)) else if x2 < 3 then bd (fX7_isWord N M a 9) (fun r31 => if r31 = 0 then bd (fX7_wrong N M a) (fun r33 => gc (r33.1 = 0 ∨ r33.1 = 1) (some (r33.1, r33.2))) else bd (fX7_look N M a) (fun r35 => fX7_statement_345 N a v1 x2 N r35 0)) else bd (fX7_look N M a) (fun r36 => fX7_statement_306 N a v1 x2 N r36 0)) else bd (fX7_look N M a) (fun r37 => bd (fX7_number N r37 a 0 (x2 - 1)) (fun r38 => if r38.1 = 0 then some (0, r38.2) else nm (sI r38.2 (a + 20) (v1 : Int32).toNatClampNeg ((r38.2.1 (a + 20) (v1 : Int32).toNatClampNeg) ||| (1 <<< ((r38.2.1 a 32) &&& 31)))) (fun M40 => some (1, M40))))) else bd (fX7_tieTold N M a v1 x2) (fun r41 => gc (r41.1 = 0 ∨ r41.1 = 1) (some (r41.1, r41.2)))) else bd (fX7_look N M a) (fun r43 => bd (fX7_number N r43 a 0 (x2 - 1)) (fun r44 => if r44.1 = 0 then some (0, r44.2) else nm (r44.2.1 a 32) (fun x46 => bd (fX7_word N r44.2 a 1) (fun r47 => if r47.1 = 0 then some (0, r47.2) else bd (fX7_number N r47.2 a 0 99) (fun r49 => if r49.1 = 0 then some (0, r49.2) else gd x46 12 (nm (sI r49.2 ((a + 21) + 1 + (v1 : Int32).toNatClampNeg) (x46 : Int32).toNatClampNeg (r49.2.1 a 32)) (fun M52 => bd (fX7_word N M52 a 2) (fun r53 => if r53.1 = 0 then some (0, r53.2) else bd (fX7_number N r53.2 a 0 99) (fun r55 => if r55.1 = 0 then some (0, r55.2) else nm (sI r55.2 ((a + 27) + 1 + (v1 : Int32).toNatClampNeg) (x46 : Int32).toNatClampNeg (r55.2.1 a 32)) (fun M57 => some (1, M57)))))))))))) else bd (fX7_look N M a) (fun r58 => bd (fX7_number N r58 a 0 9) (fun r59 => if r59.1 = 0 then some (0, r59.2) else nm (sI r59.2 (a + 19) (v1 : Int32).toNatClampNeg (r59.2.1 a 32)) (fun M61 => some (1, M61))))) else bd (fX7_isWord N M a 1) (fun r62 => if r62 = 0 then bd (fX7_look N M a) (fun r64 => bd (fX7_number N r64 a 0 99) (fun r65 => if r65.1 = 0 then some (0, r65.2) else fX7_statement_69 N a ((a + 27) + 1 + (v1 : Int32).toNatClampNeg) x2 N r65.2 0)) else bd (fX7_look N M a) (fun r67 => bd (fX7_number N r67 a 0 99) (fun r68 => if r68.1 = 0 then some (0, r68.2) else fX7_statement_69 N a ((a + 21) + 1 + (v1 : Int32).toNatClampNeg) x2 N r68.2 0)))) else bd (fX7_isWord N M a 1) (fun r5 => if r5 = 0 then bd (fX7_look N M a) (fun r7 => bd (fX7_number N r7 a 0 99) (fun r8 => if r8.1 = 0 then some (0, r8.2) else fX7_statement_69 N a ((a + 27) + 1 + (v1 : Int32).toNatClampNeg) x2 N r8.2 0)) else bd (fX7_look N M a) (fun r10 => bd (fX7_number N r10 a 0 99) (fun r11 => if r11.1 = 0 then some (0, r11.2) else fX7_statement_69 N a ((a + 21) + 1 + (v1 : Int32).toNatClampNeg) x2 N r11.2 0))))))
def fX7_empty_47 (N : Nat) (a : Nat) (u1 : Int32) (u2 : Int32) : Nat → Mem → Int32 → Option Mem
  | 0, _, _ => none
  | n + 1, Mw, w3 => if 12 ≤ w3 then some Mw else gd u1 5 (gd ((u2 * 12) + w3) 144 (nm (sI Mw ((a + 39) + 1 + (u1 : Int32).toNatClampNeg) (((u2 * 12) + w3) : Int32).toNatClampNeg 0) (fun M4 => gd ((w3 * 12) + u2) 144 (nm (sI M4 ((a + 39) + 1 + (u1 : Int32).toNatClampNeg) (((w3 * 12) + u2) : Int32).toNatClampNeg 0) (fun M6 => fX7_empty_47 N a u1 u2  n M6 (w3 + 1))))))
def fX7_empty (N : Nat) (M : Mem) (a : Nat) (v1 : Int32) (v2 : Int32) : Option Mem :=
  gd v1 5 (gd v2 12 (nm (sI M ((a + 21) + 1 + (v1 : Int32).toNatClampNeg) (v2 : Int32).toNatClampNeg 0) (fun M3 => nm (sI M3 ((a + 27) + 1 + (v1 : Int32).toNatClampNeg) (v2 : Int32).toNatClampNeg 0) (fun M4 => nm (sI M4 ((a + 33) + 1 + (v1 : Int32).toNatClampNeg) (v2 : Int32).toNatClampNeg 0) (fun M5 => nm (sI M5 ((a + 45) + 1 + (v1 : Int32).toNatClampNeg) (v2 : Int32).toNatClampNeg 0) (fun M6 => nm (sI M6 ((a + 51) + 1 + (v1 : Int32).toNatClampNeg) (v2 : Int32).toNatClampNeg 0) (fun M7 => fX7_empty_47 N a v1 v2 N M7 0)))))))
def fX7_read_74 (N : Nat) (a : Nat) (u1 : Int32) : Nat → Mem → Option (Int32 × Mem)
  | 0, _ => none
  | n + 1, Mw => if (Mw.1 a 28) = 0 then some (1, Mw) else if (Mw.1 a 28) = 3 then bd (fX7_look N Mw a) (fun r3 => bd (fX7_statement N r3 a u1) (fun r4 => if r4.1 = 0 then some (0, r4.2) else fX7_read_74 N a u1  n r4.2)) else bd (fX7_wrong N Mw a) (fun r6 => gc (r6.1 = 0 ∨ r6.1 = 1) (some (r6.1, r6.2)))
def fX7_read_16 (N : Nat) (a : Nat) (u1 : Int32) : Nat → Mem → Int32 → Option (Int32 × Mem)
  | 0, _, _ => none
  | n + 1, Mw, w2 => if 12 ≤ w2 then nm (sI Mw a 27 0) (fun M2 => bd (fX7_look N M2 a) (fun r3 => bd (fX7_word N r3 a 0) (fun r4 => if r4.1 = 0 then some (0, r4.2) else bd (fX7_number N r4.2 a 1 12) (fun r6 => if r6.1 = 0 then some (0, r6.2) else gd u1 5 (nm (sI r6.2 (a + 18) (u1 : Int32).toNatClampNeg (r6.2.1 a 32)) (fun M9 => fX7_read_74 N a u1 N M9 )))))) else bd (fX7_empty N Mw a u1 w2) (fun r10 => fX7_read_16 N a u1  n r10 (w2 + 1))
def fX7_read (N : Nat) (M : Mem) (a : Nat) (v1 : Int32) : Option (Int32 × Mem) :=
  gd v1 5 (nm (sI M (a + 19) (v1 : Int32).toNatClampNeg 0) (fun M2 => nm (sI M2 (a + 20) (v1 : Int32).toNatClampNeg 0) (fun M3 => fX7_read_16 N a v1 N M3 0)))
def fX7_street (N : Nat) (M : Mem) (a : Nat) : Option (Int32 × Mem) :=
  if (M.1 a 10) = 4 then bd (fX7_refuse N M a (-6)) (fun r7 => some (r7.1, r7.2)) else bd (fX7_read N M a (M.1 a 10)) (fun r2 => nm (sI r2.2 a 8 0) (fun M3 => if r2.1 = 0 then bd (fX7_refuse N M3 a (-2)) (fun r6 => some (((-20) - (r6.2.1 a 31)), r6.2)) else nm (sI M3 a 10 ((M3.1 a 10) + 1)) (fun M5 => some ((M3.1 a 10), M5))))
def fX7_bits_4 (N : Nat) (M : Mem) (u0 : Int32) : Nat → Int32 → Int32 → Option Int32
  | 0, _, _ => none
  | n + 1, w1, w2 => if 32 ≤ w2 then some w1 else nm (w1 + ((u0 >>> (w2 &&& 31)) &&& 1)) (fun x2 => fX7_bits_4 N M u0  n x2 (w2 + 1))
def fX7_bits (N : Nat) (M : Mem) (v0 : Int32) : Option Int32 :=
  fX7_bits_4 N M v0 N 0 0
def fX7_pricesOf_5 (N : Nat) (M : Mem) (a : Nat) (u1 : Int32) (u2 : Int32) : Nat → Int32 → Int32 → Option Int32
  | 0, _, _ => none
  | n + 1, w3, w4 => gd u1 5 (if (M.1 (a + 18) (u1 : Int32).toNatClampNeg) ≤ w4 then some w3 else gd u2 12 (if (((M.1 ((a + 33) + 1 + (u1 : Int32).toNatClampNeg) (u2 : Int32).toNatClampNeg) >>> (w4 &&& 31)) &&& 1) = 0 then nm (w3 + 0) (fun x5 => fX7_pricesOf_5 N M a u1 u2  n x5 (w4 + 1)) else gd ((u2 * 12) + w4) 144 (nm (w3 + (M.1 ((a + 39) + 1 + (u1 : Int32).toNatClampNeg) (((u2 * 12) + w4) : Int32).toNatClampNeg)) (fun x7 => fX7_pricesOf_5 N M a u1 u2  n x7 (w4 + 1)))))
def fX7_pricesOf (N : Nat) (M : Mem) (a : Nat) (v1 : Int32) (v2 : Int32) : Option Int32 :=
  fX7_pricesOf_5 N M a v1 v2 N 0 0
def fX7_streetOf_35 (N : Nat) (M : Mem) (a : Nat) (u1 : Int32) (u2 : Int32) : Nat → Int32 → Int32 → Int32 → Option (Int32 × Mem)
  | 0, _, _, _ => none
  | n + 1, w3, w4, w5 => gd u1 5 (if (M.1 (a + 18) (u1 : Int32).toNatClampNeg) ≤ w5 then if u2 = 0 then some ((M.1 (a + 18) (u1 : Int32).toNatClampNeg), M) else if u2 = 1 then some ((w3 / 2), M) else if u2 = 2 then some ((M.1 (a + 19) (u1 : Int32).toNatClampNeg), M) else if u2 = 3 then some ((M.1 (a + 20) (u1 : Int32).toNatClampNeg), M) else some ((w4 / 2), M) else gd w5 12 (bd (fX7_bits N M (M.1 ((a + 33) + 1 + (u1 : Int32).toNatClampNeg) (w5 : Int32).toNatClampNeg)) (fun r8 => nm (w3 + r8) (fun x9 => bd (fX7_pricesOf N M a u1 w5) (fun r10 => nm (w4 + r10) (fun x11 => fX7_streetOf_35 N M a u1 u2  n x9 x11 (w5 + 1)))))))
def fX7_streetOf (N : Nat) (M : Mem) (a : Nat) (v1 : Int32) (v2 : Int32) : Option (Int32 × Mem) :=
  bd (fX7_isStreet N M a v1) (fun r1 => if r1 = 0 then bd (fX7_refuse N M a (-2)) (fun r3 => some (r3.1, r3.2)) else bd (fX7_in N M ((v2 : Int32).toInt64) 0 4) (fun r4 => if r4 = 0 then bd (fX7_refuse N M a (-2)) (fun r12 => some (r12.1, r12.2)) else fX7_streetOf_35 N M a v1 v2 N 0 0 0))
def fX7_personOf (N : Nat) (M : Mem) (a : Nat) (v1 : Int32) (v2 : Int32) (v3 : Int32) : Option (Int32 × Mem) :=
  bd (fX7_isPerson N M a v1 v2) (fun r1 => if r1 = 0 then bd (fX7_refuse N M a (-2)) (fun r3 => some (r3.1, r3.2)) else bd (fX7_in N M ((v3 : Int32).toInt64) 0 5) (fun r4 => if r4 = 0 then bd (fX7_refuse N M a (-2)) (fun r22 => some (r22.1, r22.2)) else if v3 = 0 then gd v1 5 (gd v2 12 (some ((M.1 ((a + 21) + 1 + (v1 : Int32).toNatClampNeg) (v2 : Int32).toNatClampNeg), M))) else if v3 = 1 then gd v1 5 (gd v2 12 (some ((M.1 ((a + 27) + 1 + (v1 : Int32).toNatClampNeg) (v2 : Int32).toNatClampNeg), M))) else if v3 = 2 then gd v1 5 (gd v2 12 (some ((M.1 ((a + 33) + 1 + (v1 : Int32).toNatClampNeg) (v2 : Int32).toNatClampNeg), M))) else if v3 = 3 then gd v1 5 (some ((((M.1 (a + 20) (v1 : Int32).toNatClampNeg) >>> (v2 &&& 31)) &&& 1), M)) else if v3 = 4 then gd v1 5 (gd v2 12 (if (M.1 ((a + 45) + 1 + (v1 : Int32).toNatClampNeg) (v2 : Int32).toNatClampNeg) = 0 then some ((-1), M) else some ((M.1 ((a + 45) + 1 + (v1 : Int32).toNatClampNeg) (v2 : Int32).toNatClampNeg), M))) else bd (fX7_pricesOf N M a v1 v2) (fun r21 => some (r21, M))))
def fX7_alter (N : Nat) (M : Mem) (a : Nat) (v1 : Int32) (v2 : Int32) (v3 : Int32) (v4 : Int32) : Option (Int32 × Mem) :=
  bd (fX7_isPerson N M a v1 v2) (fun r1 => if r1 = 0 then bd (fX7_refuse N M a (-2)) (fun r3 => some (r3.1, r3.2)) else bd (fX7_in N M ((v3 : Int32).toInt64) 0 1) (fun r4 => if r4 = 0 then bd (fX7_refuse N M a (-2)) (fun r6 => some (r6.1, r6.2)) else bd (fX7_in N M ((v4 : Int32).toInt64) 0 99) (fun r7 => if r7 = 0 then bd (fX7_refuse N M a (-2)) (fun r18 => some (r18.1, r18.2)) else if v3 = 0 then gd v1 5 (gd v2 12 (nm (M.1 ((a + 21) + 1 + (v1 : Int32).toNatClampNeg) (v2 : Int32).toNatClampNeg) (fun x16 => nm (sI M ((a + 21) + 1 + (v1 : Int32).toNatClampNeg) (v2 : Int32).toNatClampNeg v4) (fun M17 => some (x16, M17))))) else gd v1 5 (gd v2 12 (nm (M.1 ((a + 27) + 1 + (v1 : Int32).toNatClampNeg) (v2 : Int32).toNatClampNeg) (fun x12 => nm (sI M ((a + 27) + 1 + (v1 : Int32).toNatClampNeg) (v2 : Int32).toNatClampNeg v4) (fun M13 => some (x12, M13))))))))
def fX7_tie (N : Nat) (M : Mem) (a : Nat) (v1 : Int32) (v2 : Int32) (v3 : Int32) (v4 : Int32) : Option (Int32 × Mem) :=
  bd (fX7_isPerson N M a v1 v2) (fun r1 => if r1 = 0 then bd (fX7_refuse N M a (-2)) (fun r3 => some (r3.1, r3.2)) else bd (fX7_isPerson N M a v1 v3) (fun r4 => if r4 = 0 then bd (fX7_refuse N M a (-2)) (fun r6 => some (r6.1, r6.2)) else if v2 = v3 then bd (fX7_refuse N M a (-2)) (fun r8 => some (r8.1, r8.2)) else bd (fX7_in N M ((v4 : Int32).toInt64) (-1) 9) (fun r9 => if r9 = 0 then bd (fX7_refuse N M a (-2)) (fun r38 => some (r38.1, r38.2)) else gd v1 5 (gd v2 12 (if (((M.1 ((a + 33) + 1 + (v1 : Int32).toNatClampNeg) (v2 : Int32).toNatClampNeg) >>> (v3 &&& 31)) &&& 1) = 0 then if v4 = (-1) then bd (fX7_tieThem N M a v1 v2 v3 0) (fun r20 => if v4 = (-1) then nm (sI r20 ((a + 33) + 1 + (v1 : Int32).toNatClampNeg) (v2 : Int32).toNatClampNeg ((r20.1 ((a + 33) + 1 + (v1 : Int32).toNatClampNeg) (v2 : Int32).toNatClampNeg) &&& ((1 <<< (v3 &&& 31)) ^^^ (-1)))) (fun M22 => gd v3 12 (nm (sI M22 ((a + 33) + 1 + (v1 : Int32).toNatClampNeg) (v3 : Int32).toNatClampNeg ((M22.1 ((a + 33) + 1 + (v1 : Int32).toNatClampNeg) (v3 : Int32).toNatClampNeg) &&& ((1 <<< (v2 &&& 31)) ^^^ (-1)))) (fun M24 => some ((-1), M24)))) else some ((-1), r20)) else bd (fX7_tieThem N M a v1 v2 v3 v4) (fun r15 => if v4 = (-1) then nm (sI r15 ((a + 33) + 1 + (v1 : Int32).toNatClampNeg) (v2 : Int32).toNatClampNeg ((r15.1 ((a + 33) + 1 + (v1 : Int32).toNatClampNeg) (v2 : Int32).toNatClampNeg) &&& ((1 <<< (v3 &&& 31)) ^^^ (-1)))) (fun M17 => gd v3 12 (nm (sI M17 ((a + 33) + 1 + (v1 : Int32).toNatClampNeg) (v3 : Int32).toNatClampNeg ((M17.1 ((a + 33) + 1 + (v1 : Int32).toNatClampNeg) (v3 : Int32).toNatClampNeg) &&& ((1 <<< (v2 &&& 31)) ^^^ (-1)))) (fun M19 => some ((-1), M19)))) else some ((-1), r15)) else gd ((v2 * 12) + v3) 144 (nm (M.1 ((a + 39) + 1 + (v1 : Int32).toNatClampNeg) (((v2 * 12) + v3) : Int32).toNatClampNeg) (fun x26 => if v4 = (-1) then bd (fX7_tieThem N M a v1 v2 v3 0) (fun r33 => if v4 = (-1) then nm (sI r33 ((a + 33) + 1 + (v1 : Int32).toNatClampNeg) (v2 : Int32).toNatClampNeg ((r33.1 ((a + 33) + 1 + (v1 : Int32).toNatClampNeg) (v2 : Int32).toNatClampNeg) &&& ((1 <<< (v3 &&& 31)) ^^^ (-1)))) (fun M35 => gd v3 12 (nm (sI M35 ((a + 33) + 1 + (v1 : Int32).toNatClampNeg) (v3 : Int32).toNatClampNeg ((M35.1 ((a + 33) + 1 + (v1 : Int32).toNatClampNeg) (v3 : Int32).toNatClampNeg) &&& ((1 <<< (v2 &&& 31)) ^^^ (-1)))) (fun M37 => some (x26, M37)))) else some (x26, r33)) else bd (fX7_tieThem N M a v1 v2 v3 v4) (fun r28 => if v4 = (-1) then nm (sI r28 ((a + 33) + 1 + (v1 : Int32).toNatClampNeg) (v2 : Int32).toNatClampNeg ((r28.1 ((a + 33) + 1 + (v1 : Int32).toNatClampNeg) (v2 : Int32).toNatClampNeg) &&& ((1 <<< (v3 &&& 31)) ^^^ (-1)))) (fun M30 => gd v3 12 (nm (sI M30 ((a + 33) + 1 + (v1 : Int32).toNatClampNeg) (v3 : Int32).toNatClampNeg ((M30.1 ((a + 33) + 1 + (v1 : Int32).toNatClampNeg) (v3 : Int32).toNatClampNeg) &&& ((1 <<< (v2 &&& 31)) ^^^ (-1)))) (fun M32 => some (x26, M32)))) else some (x26, r28)))))))))
def fX7_must (N : Nat) (M : Mem) (a : Nat) (v1 : Int32) (v2 : Int32) (v3 : Int32) : Option (Int32 × Mem) :=
  bd (fX7_isPerson N M a v1 v2) (fun r1 => if r1 = 0 then bd (fX7_refuse N M a (-2)) (fun r8 => some (r8.1, r8.2)) else gd v1 5 (nm (((M.1 (a + 20) (v1 : Int32).toNatClampNeg) >>> (v2 &&& 31)) &&& 1) (fun x4 => if v3 = 0 then nm (sI M (a + 20) (v1 : Int32).toNatClampNeg ((M.1 (a + 20) (v1 : Int32).toNatClampNeg) &&& ((1 <<< (v2 &&& 31)) ^^^ (-1)))) (fun M6 => some (x4, M6)) else nm (sI M (a + 20) (v1 : Int32).toNatClampNeg ((M.1 (a + 20) (v1 : Int32).toNatClampNeg) ||| (1 <<< (v2 &&& 31)))) (fun M7 => some (x4, M7)))))
def fX7_take (N : Nat) (M : Mem) (a : Nat) (v1 : Int32) (v2 : Int32) (v3 : Int32) : Option (Int32 × Mem) :=
  bd (fX7_isPerson N M a v1 v2) (fun r1 => if r1 = 0 then bd (fX7_refuse N M a (-2)) (fun r3 => some (r3.1, r3.2)) else bd (fX7_in N M ((v3 : Int32).toInt64) (-1) 7) (fun r4 => if r4 = 0 then bd (fX7_refuse N M a (-2)) (fun r19 => some (r19.1, r19.2)) else if v3 = (-1) then gd v1 5 (gd v2 12 (nm (sI M ((a + 45) + 1 + (v1 : Int32).toNatClampNeg) (v2 : Int32).toNatClampNeg 0) (fun M18 => some (1, M18)))) else gd v3 8 (if (M.1 (a + 1) (v3 : Int32).toNatClampNeg) = 1 then bd (fX7_refuse N M a (-3)) (fun r15 => some (r15.1, r15.2)) else if (M.1 (a + 1) (v3 : Int32).toNatClampNeg) = 0 then bd (fX7_refuse N M a (-4)) (fun r14 => some (r14.1, r14.2)) else gd v1 5 (gd v2 12 (nm (sI M ((a + 45) + 1 + (v1 : Int32).toNatClampNeg) (v2 : Int32).toNatClampNeg (M.1 (a + 13) (v3 : Int32).toNatClampNeg)) (fun M12 => nm (sI M12 ((a + 51) + 1 + (v1 : Int32).toNatClampNeg) (v2 : Int32).toNatClampNeg (M12.1 (a + 14) (v3 : Int32).toNatClampNeg)) (fun M13 => some (1, M13))))))))
def fX7_come_120 (N : Nat) (a : Nat) (u1 : Int32) (u2 : Int32) (u5 : Int32) : Nat → Mem → Int32 → Option (Int32 × Mem)
  | 0, _, _ => none
  | n + 1, Mw, w6 => if u5 ≤ w6 then some (u5, Mw) else if ((u2 >>> (w6 &&& 31)) &&& 1) = 0 then fX7_come_120 N a u1 u2 u5  n Mw (w6 + 1) else bd (fX7_tieThem N Mw a u1 u5 w6 0) (fun r3 => fX7_come_120 N a u1 u2 u5  n r3 (w6 + 1))
def fX7_come (N : Nat) (M : Mem) (a : Nat) (v1 : Int32) (v2 : Int32) (v3 : Int32) (v4 : Int32) : Option (Int32 × Mem) :=
  bd (fX7_isSet N M a v1 ((v2 : Int32).toInt64)) (fun r1 => if r1 = 0 then bd (fX7_refuse N M a (-2)) (fun r3 => some (r3.1, r3.2)) else bd (fX7_in N M ((v3 : Int32).toInt64) 0 99) (fun r4 => if r4 = 0 then bd (fX7_refuse N M a (-2)) (fun r6 => some (r6.1, r6.2)) else bd (fX7_in N M ((v4 : Int32).toInt64) 0 99) (fun r7 => if r7 = 0 then bd (fX7_refuse N M a (-2)) (fun r19 => some (r19.1, r19.2)) else gd v1 5 (nm (M.1 (a + 18) (v1 : Int32).toNatClampNeg) (fun x10 => if x10 = 12 then bd (fX7_refuse N M a (-6)) (fun r18 => some (r18.1, r18.2)) else bd (fX7_empty N M a v1 x10) (fun r12 => nm (sI r12 (a + 20) (v1 : Int32).toNatClampNeg ((r12.1 (a + 20) (v1 : Int32).toNatClampNeg) &&& ((1 <<< (x10 &&& 31)) ^^^ (-1)))) (fun M13 => nm (sI M13 (a + 18) (v1 : Int32).toNatClampNeg (x10 + 1)) (fun M14 => gd x10 12 (nm (sI M14 ((a + 21) + 1 + (v1 : Int32).toNatClampNeg) (x10 : Int32).toNatClampNeg v3) (fun M16 => nm (sI M16 ((a + 27) + 1 + (v1 : Int32).toNatClampNeg) (x10 : Int32).toNatClampNeg v4) (fun M17 => fX7_come_120 N a v1 v2 x10 N M17 0)))))))))))
def fX7_gainOf (N : Nat) (M : Mem) (a : Nat) (v1 : Int32) (v2 : Int32) (v3 : Int32) : Option Int32 :=
  gd v1 5 (gd v2 12 (bd (fX7_bits N M (v3 &&& ((M.1 ((a + 33) + 1 + (v1 : Int32).toNatClampNeg) (v2 : Int32).toNatClampNeg) ||| (1 <<< (v2 &&& 31))))) (fun r3 => if r3 ≤ 0 then if ((v3 >>> (v2 &&& 31)) &&& 1) = 0 then bd (fX7_pricesOf N M a v1 v2) (fun r6 => some ((0 - 0) - r6)) else bd (fX7_pricesOf N M a v1 v2) (fun r7 => some ((0 - (M.1 ((a + 21) + 1 + (v1 : Int32).toNatClampNeg) (v2 : Int32).toNatClampNeg)) - r7)) else nm ((M.1 ((a + 27) + 1 + (v1 : Int32).toNatClampNeg) (v2 : Int32).toNatClampNeg) + ((M.1 (a + 19) (v1 : Int32).toNatClampNeg) * (r3 - 1))) (fun x8 => if ((v3 >>> (v2 &&& 31)) &&& 1) = 0 then bd (fX7_pricesOf N M a v1 v2) (fun r10 => some ((x8 - 0) - r10)) else bd (fX7_pricesOf N M a v1 v2) (fun r11 => some ((x8 - (M.1 ((a + 21) + 1 + (v1 : Int32).toNatClampNeg) (v2 : Int32).toNatClampNeg)) - r11))))))
def fX7_goodOf_5 (N : Nat) (M : Mem) (a : Nat) (u1 : Int32) (u2 : Int32) : Nat → Int32 → Int32 → Option Int32
  | 0, _, _ => none
  | n + 1, w3, w4 => gd u1 5 (if (M.1 (a + 18) (u1 : Int32).toNatClampNeg) ≤ w4 then some w3 else bd (fX7_gainOf N M a u1 w4 u2) (fun r3 => nm (w3 + r3) (fun x4 => fX7_goodOf_5 N M a u1 u2  n x4 (w4 + 1))))
def fX7_goodOf (N : Nat) (M : Mem) (a : Nat) (v1 : Int32) (v2 : Int32) : Option Int32 :=
  fX7_goodOf_5 N M a v1 v2 N 0 0
def fX7_would (N : Nat) (M : Mem) (a : Nat) (v1 : Int32) (v2 : Int32) (v3 : Int32) : Option Int32 :=
  gd v1 5 (if (((M.1 (a + 20) (v1 : Int32).toNatClampNeg) >>> (v2 &&& 31)) &&& 1) = 0 then bd (fX7_gainOf N M a v1 v2 (v3 ^^^ (1 <<< (v2 &&& 31)))) (fun r3 => bd (fX7_gainOf N M a v1 v2 v3) (fun r4 => if r3 ≤ r4 then some 0 else some 1)) else some 0)
def fX7_firstOf_2 (N : Nat) (M : Mem) (a : Nat) (u1 : Int32) (u2 : Int32) : Nat → Int32 → Option Int32
  | 0, _ => none
  | n + 1, w3 => gd u1 5 (if (M.1 (a + 18) (u1 : Int32).toNatClampNeg) ≤ w3 then some (-1) else if (((M.1 (a + 20) (u1 : Int32).toNatClampNeg) >>> (w3 &&& 31)) &&& 1) = 0 then if (0 : Int32) = 0 then bd (fX7_would N M a u1 w3 u2) (fun r5 => if r5 = 0 then fX7_firstOf_2 N M a u1 u2  n (w3 + 1) else some w3) else some w3 else if ((u2 >>> (w3 &&& 31)) &&& 1) = 0 then if (1 : Int32) = 0 then bd (fX7_would N M a u1 w3 u2) (fun r12 => if r12 = 0 then fX7_firstOf_2 N M a u1 u2  n (w3 + 1) else some w3) else some w3 else if (0 : Int32) = 0 then bd (fX7_would N M a u1 w3 u2) (fun r9 => if r9 = 0 then fX7_firstOf_2 N M a u1 u2  n (w3 + 1) else some w3) else some w3)
def fX7_firstOf (N : Nat) (M : Mem) (a : Nat) (v1 : Int32) (v2 : Int32) : Option Int32 :=
  fX7_firstOf_2 N M a v1 v2 N 0
def fX7_gain (N : Nat) (M : Mem) (a : Nat) (v1 : Int32) (v2 : Int32) (v3 : Int32) : Option (Int32 × Mem) :=
  bd (fX7_isPerson N M a v1 v2) (fun r1 => if r1 = 0 then bd (fX7_refuse N M a (-2)) (fun r3 => some (((-1000000) + r3.1), r3.2)) else bd (fX7_isSet N M a v1 ((v3 : Int32).toInt64)) (fun r4 => if r4 = 0 then bd (fX7_refuse N M a (-2)) (fun r7 => some (((-1000000) + r7.1), r7.2)) else bd (fX7_gainOf N M a v1 v2 v3) (fun r6 => some (r6, M))))
def fX7_total (N : Nat) (M : Mem) (a : Nat) (v1 : Int32) (v2 : Int32) : Option (Int32 × Mem) :=
  bd (fX7_isSet N M a v1 ((v2 : Int32).toInt64)) (fun r1 => if r1 = 0 then bd (fX7_refuse N M a (-2)) (fun r3 => some (((-1000000) + r3.1), r3.2)) else bd (fX7_goodOf N M a v1 v2) (fun r4 => some (r4, M)))
def fX7_judge (N : Nat) (M : Mem) (a : Nat) (v1 : Int32) (v2 : Int32) : Option (Int32 × Mem) :=
  bd (fX7_isSet N M a v1 ((v2 : Int32).toInt64)) (fun r1 => if r1 = 0 then bd (fX7_refuse N M a (-2)) (fun r3 => some (r3.1, r3.2)) else bd (fX7_firstOf N M a v1 v2) (fun r4 => some (r4, M)))
def fX7_isRest (N : Nat) (M : Mem) (a : Nat) (v1 : Int32) (v2 : Int32) : Option Int32 :=
  bd (fX7_firstOf N M a v1 v2) (fun r1 => if r1 = (-1) then some 1 else some 0)
def fX7_countRests_4 (N : Nat) (M : Mem) (a : Nat) (u1 : Int32) : Nat → Int32 → Int32 → Option Int32
  | 0, _, _ => none
  | n + 1, w2, w3 => bd (fX7_all N M a u1) (fun r1 => if r1 < w3 then some w2 else bd (fX7_isRest N M a u1 w3) (fun r3 => if r3 = 0 then nm (w2 + 0) (fun x5 => fX7_countRests_4 N M a u1  n x5 (w3 + 1)) else nm (w2 + 1) (fun x6 => fX7_countRests_4 N M a u1  n x6 (w3 + 1))))
def fX7_countRests (N : Nat) (M : Mem) (a : Nat) (v1 : Int32) : Option Int32 :=
  fX7_countRests_4 N M a v1 N 0 0
def fX7_count (N : Nat) (M : Mem) (a : Nat) (v1 : Int32) : Option (Int32 × Mem) :=
  bd (fX7_isStreet N M a v1) (fun r1 => if r1 = 0 then bd (fX7_refuse N M a (-2)) (fun r3 => some (r3.1, r3.2)) else bd (fX7_countRests N M a v1) (fun r4 => some (r4, M)))
def fX7_costOf_5 (N : Nat) (M : Mem) (a : Nat) (u1 : Int32) (u2 : Int32) : Nat → Int32 → Int32 → Option Int32
  | 0, _, _ => none
  | n + 1, w3, w4 => gd u1 5 (if (M.1 (a + 18) (u1 : Int32).toNatClampNeg) ≤ w4 then some w3 else if ((u2 >>> (w4 &&& 31)) &&& 1) = 0 then nm (w3 + 0) (fun x4 => fX7_costOf_5 N M a u1 u2  n x4 (w4 + 1)) else gd w4 12 (nm (w3 + (M.1 ((a + 21) + 1 + (u1 : Int32).toNatClampNeg) (w4 : Int32).toNatClampNeg)) (fun x6 => fX7_costOf_5 N M a u1 u2  n x6 (w4 + 1))))
def fX7_costOf (N : Nat) (M : Mem) (a : Nat) (v1 : Int32) (v2 : Int32) : Option Int32 :=
  fX7_costOf_5 N M a v1 v2 N 0 0
def fX7_worthOf (N : Nat) (M : Mem) (a : Nat) (v1 : Int32) (v2 : Int32) (v3 : Int32) : Option Int32 :=
  if v3 = 0 then bd (fX7_bits N M v2) (fun r2 => some (-r2)) else if v3 = 1 then bd (fX7_bits N M v2) (fun r4 => some r4) else if v3 = 2 then bd (fX7_costOf N M a v1 v2) (fun r6 => some (-r6)) else if v3 = 3 then bd (fX7_goodOf N M a v1 v2) (fun r8 => some r8) else bd (fX7_goodOf N M a v1 v2) (fun r9 => some (-r9))
def fX7_seek_8 (N : Nat) (M : Mem) (a : Nat) (u1 : Int32) (u2 : Int32) : Nat → Int32 → Int32 → Int32 → Option Int32
  | 0, _, _, _ => none
  | n + 1, w3, w4, w5 => bd (fX7_all N M a u1) (fun r1 => if r1 < w5 then some w3 else bd (fX7_isRest N M a u1 w5) (fun r3 => if r3 = 0 then fX7_seek_8 N M a u1 u2  n w3 w4 (w5 + 1) else bd (fX7_worthOf N M a u1 w5 u2) (fun r5 => if w3 = (-1) then fX7_seek_8 N M a u1 u2  n w5 r5 (w5 + 1) else if r5 ≤ w4 then fX7_seek_8 N M a u1 u2  n w3 w4 (w5 + 1) else fX7_seek_8 N M a u1 u2  n w5 r5 (w5 + 1))))
def fX7_seek (N : Nat) (M : Mem) (a : Nat) (v1 : Int32) (v2 : Int32) : Option Int32 :=
  fX7_seek_8 N M a v1 v2 N (-1) 0 0
def fX7_sought (N : Nat) (M : Mem) (a : Nat) (v1 : Int32) (v2 : Int32) : Option (Int32 × Mem) :=
  bd (fX7_isStreet N M a v1) (fun r1 => if r1 = 0 then bd (fX7_refuse N M a (-2)) (fun r3 => some (r3.1, r3.2)) else bd (fX7_seek N M a v1 v2) (fun r4 => some (r4, M)))
def fX7_rest_24 (N : Nat) (M : Mem) (a : Nat) (u1 : Int32) : Nat → Int32 → Int32 → Option (Int32 × Mem)
  | 0, _, _ => none
  | n + 1, w3, w4 => bd (fX7_all N M a u1) (fun r1 => if r1 < w4 then bd (fX7_refuse N M a (-2)) (fun r3 => some (r3.1, r3.2)) else bd (fX7_isRest N M a u1 w4) (fun r4 => if r4 = 0 then fX7_rest_24 N M a u1  n w3 (w4 + 1) else if w3 = 0 then some (w4, M) else fX7_rest_24 N M a u1  n (w3 + (-1)) (w4 + 1)))
def fX7_rest (N : Nat) (M : Mem) (a : Nat) (v1 : Int32) (v2 : Int32) : Option (Int32 × Mem) :=
  bd (fX7_isStreet N M a v1) (fun r1 => if r1 = 0 then bd (fX7_refuse N M a (-2)) (fun r3 => some (r3.1, r3.2)) else if 0 ≤ v2 then fX7_rest_24 N M a v1 N v2 0 else bd (fX7_refuse N M a (-2)) (fun r7 => some (r7.1, r7.2)))
def fX7_fewest (N : Nat) (M : Mem) (a : Nat) (v1 : Int32) : Option (Int32 × Mem) :=
  bd (fX7_sought N M a v1 0) (fun r1 => some (r1.1, r1.2))
def fX7_most (N : Nat) (M : Mem) (a : Nat) (v1 : Int32) : Option (Int32 × Mem) :=
  bd (fX7_sought N M a v1 1) (fun r1 => some (r1.1, r1.2))
def fX7_cheap (N : Nat) (M : Mem) (a : Nat) (v1 : Int32) : Option (Int32 × Mem) :=
  bd (fX7_sought N M a v1 2) (fun r1 => some (r1.1, r1.2))
def fX7_best (N : Nat) (M : Mem) (a : Nat) (v1 : Int32) : Option (Int32 × Mem) :=
  bd (fX7_sought N M a v1 3) (fun r1 => some (r1.1, r1.2))
def fX7_goodSet_7 (N : Nat) (M : Mem) (a : Nat) (u1 : Int32) : Nat → Int32 → Int32 → Int32 → Option Int32
  | 0, _, _, _ => none
  | n + 1, w2, w3, w4 => bd (fX7_all N M a u1) (fun r1 => if r1 < w4 then some w2 else gd u1 5 (if (w4 &&& (M.1 (a + 20) (u1 : Int32).toNatClampNeg)) = (M.1 (a + 20) (u1 : Int32).toNatClampNeg) then bd (fX7_goodOf N M a u1 w4) (fun r5 => if w2 = (-1) then fX7_goodSet_7 N M a u1  n w4 r5 (w4 + 1) else if r5 ≤ w3 then fX7_goodSet_7 N M a u1  n w2 w3 (w4 + 1) else fX7_goodSet_7 N M a u1  n w4 r5 (w4 + 1)) else fX7_goodSet_7 N M a u1  n w2 w3 (w4 + 1)))
def fX7_goodSet (N : Nat) (M : Mem) (a : Nat) (v1 : Int32) : Option Int32 :=
  fX7_goodSet_7 N M a v1 N (-1) 0 0
def fX7_good (N : Nat) (M : Mem) (a : Nat) (v1 : Int32) : Option (Int32 × Mem) :=
  bd (fX7_isStreet N M a v1) (fun r1 => if r1 = 0 then bd (fX7_refuse N M a (-2)) (fun r3 => some (r3.1, r3.2)) else bd (fX7_goodSet N M a v1) (fun r4 => some (r4, M)))
def fX7_below (N : Nat) (M : Mem) (a : Nat) (v1 : Int32) (v2 : Int32) : Option Int32 :=
  bd (fX7_seek N M a v1 v2) (fun r1 => if r1 = (-1) then some (-1) else bd (fX7_goodSet N M a v1) (fun r3 => bd (fX7_goodOf N M a v1 r3) (fun r4 => bd (fX7_goodOf N M a v1 r1) (fun r5 => some (r4 - r5)))))
def fX7_lost (N : Nat) (M : Mem) (a : Nat) (v1 : Int32) : Option (Int32 × Mem) :=
  bd (fX7_isStreet N M a v1) (fun r1 => if r1 = 0 then bd (fX7_refuse N M a (-2)) (fun r3 => some (r3.1, r3.2)) else bd (fX7_below N M a v1 3) (fun r4 => some (r4, M)))
def fX7_beside (N : Nat) (M : Mem) (a : Nat) (v1 : Int32) : Option (Int32 × Mem) :=
  bd (fX7_isStreet N M a v1) (fun r1 => if r1 = 0 then bd (fX7_refuse N M a (-2)) (fun r3 => some (r3.1, r3.2)) else bd (fX7_below N M a v1 4) (fun r4 => some (r4, M)))
def fX7_inTurn_38 (N : Nat) (M : Mem) (a : Nat) (u1 : Int32) (u4 : Int32) (K76 : Int32 → Int32 → Option Mem) : Nat → Int32 → Int32 → Int32 → Option Mem
  | 0, _, _, _ => none
  | n + 1, w3, w6, w7 => gd u1 5 (if (M.1 (a + 18) (u1 : Int32).toNatClampNeg) ≤ w7 then K76 w3 w6 else bd (fX7_would N M a u1 w7 w3) (fun r3 => if r3 = 0 then fX7_inTurn_38 N M a u1 u4 K76 n w3 w6 (w7 + 1) else nm (w3 ^^^ (1 <<< (w7 &&& 31))) (fun x5 => fX7_inTurn_38 N M a u1 u4 K76 n x5 (w6 + 1) (w7 + 1))))
def fX7_inTurn_104 (N : Nat) (M : Mem) (a : Nat) (u1 : Int32) (u3 : Int32) (u4 : Int32) (K138 : Unit → Option Mem) : Nat → Int32 → Option Mem
  | 0, _ => none
  | n + 1, w7 => if u4 ≤ w7 then K138 () else gd w7 4097 (if (M.1 (a + 58) (w7 : Int32).toNatClampNeg) = u3 then nm (sI M a 36 (u4 - w7)) (fun M4 => some M4) else fX7_inTurn_104 N M a u1 u3 u4 K138 n (w7 + 1))
def fX7_inTurn_29 (N : Nat) (a : Nat) (u1 : Int32) : Nat → Mem → Int32 → Int32 → Option Mem
  | 0, _, _, _ => none
  | n + 1, Mw, w3, w4 => fX7_inTurn_38 N Mw a u1 w4 (fun y38_3 y38_6 => nm (sI Mw a 35 ((Mw.1 a 35) + y38_6)) (fun M6 => nm (sI M6 a 34 y38_3) (fun M7 => if y38_6 = 0 then some M7 else fX7_inTurn_104 N M7 a u1 y38_3 (w4 + 1) (fun uu => gd (w4 + 1) 4097 (nm (sI M7 (a + 58) ((w4 + 1) : Int32).toNatClampNeg y38_3) (fun M10 => fX7_inTurn_29 N a u1  n M10 y38_3 (w4 + 1)))) N 0))) N w3 0 0
def fX7_inTurn (N : Nat) (M : Mem) (a : Nat) (v1 : Int32) (v2 : Int32) : Option Mem :=
  gd v1 5 (nm (v2 ||| (M.1 (a + 20) (v1 : Int32).toNatClampNeg)) (fun x2 => nm (sI M (a + 58) (0 : Int32).toNatClampNeg x2) (fun M3 => nm (sI M3 a 35 0) (fun M4 => nm (sI M4 a 36 0) (fun M5 => fX7_inTurn_29 N a v1 N M5 x2 0)))))
def fX7_go (N : Nat) (M : Mem) (a : Nat) (v1 : Int32) (v2 : Int32) : Option (Int32 × Mem) :=
  bd (fX7_isSet N M a v1 ((v2 : Int32).toInt64)) (fun r1 => if r1 = 0 then bd (fX7_refuse N M a (-2)) (fun r6 => some (r6.1, r6.2)) else bd (fX7_inTurn N M a v1 v2) (fun r3 => if (r3.1 a 36) ≤ 0 then some ((r3.1 a 34), r3) else bd (fX7_refuse N r3 a (-5)) (fun r5 => some (r5.1, r5.2))))
def fX7_turns (N : Nat) (M : Mem) (a : Nat) (v1 : Int32) (v2 : Int32) : Option (Int32 × Mem) :=
  bd (fX7_isSet N M a v1 ((v2 : Int32).toInt64)) (fun r1 => if r1 = 0 then bd (fX7_refuse N M a (-2)) (fun r4 => some (r4.1, r4.2)) else bd (fX7_inTurn N M a v1 v2) (fun r3 => some ((r3.1 a 35), r3)))
def fX7_ring (N : Nat) (M : Mem) (a : Nat) (v1 : Int32) (v2 : Int32) : Option (Int32 × Mem) :=
  bd (fX7_isSet N M a v1 ((v2 : Int32).toInt64)) (fun r1 => if r1 = 0 then bd (fX7_refuse N M a (-2)) (fun r4 => some (r4.1, r4.2)) else bd (fX7_inTurn N M a v1 v2) (fun r3 => some ((r3.1 a 36), r3)))
def fX7_power_5 (N : Nat) (M : Mem) (u0 : Int64) (u2 : Int32) : Nat → Int64 → Int32 → Option Int64
  | 0, _, _ => none
  | n + 1, w3, w5 => if u2 ≤ w5 then some w3 else nm (w3 * u0) (fun x2 => fX7_power_5 N M u0 u2  n x2 (w5 + 1))
def fX7_power (N : Nat) (M : Mem) (v0 : Int64) (v2 : Int32) : Option Int64 :=
  fX7_power_5 N M v0 v2 N 1 0
def fX7_areChances (N : Nat) (M : Mem) (v0 : Int32) (v1 : Int32) (v2 : Int32) : Option Int32 :=
  bd (fX7_in N M ((v0 : Int32).toInt64) 1 99) (fun r1 => if r1 = 0 then some 0 else bd (fX7_in N M ((v1 : Int32).toInt64) 1 99) (fun r3 => if r3 = 0 then some 0 else bd (fX7_in N M ((v2 : Int32).toInt64) 1 5) (fun r5 => if r5 = 0 then some 0 else some 1)))
def fX7_lotOf_4 (N : Nat) (M : Mem) (u0 : Int32) (u1 : Int32) (u2 : Int32) : Nat → Int32 → Option Int32
  | 0, _ => none
  | n + 1, w3 => if w3 ≤ 0 then some 0 else bd (fX7_power N M (((1000 - w3) : Int32).toInt64) u2) (fun r2 => bd (fX7_power N M 1000 u2) (fun r3 => if (lg_cmp (((u1 : Int32).toInt64) * r2) (((u0 : Int32).toInt64) * r3)) < 0 then fX7_lotOf_4 N M u0 u1 u2  n (w3 + (-1)) else some w3))
def fX7_lotOf (N : Nat) (M : Mem) (v0 : Int32) (v1 : Int32) (v2 : Int32) : Option Int32 :=
  fX7_lotOf_4 N M v0 v1 v2 N 1000
def fX7_lot (N : Nat) (M : Mem) (a : Nat) (v1 : Int32) (v2 : Int32) (v3 : Int32) : Option (Int32 × Mem) :=
  bd (fX7_areChances N M v1 v2 v3) (fun r1 => if r1 = 0 then bd (fX7_refuse N M a (-2)) (fun r3 => some (r3.1, r3.2)) else bd (fX7_lotOf N M v1 v2 v3) (fun r4 => some (r4, M)))
def fX7_nobody (N : Nat) (M : Mem) (a : Nat) (v1 : Int32) (v2 : Int32) (v3 : Int32) : Option (Int32 × Mem) :=
  bd (fX7_areChances N M v1 v2 v3) (fun r1 => if r1 = 0 then bd (fX7_refuse N M a (-2)) (fun r7 => some (r7.1, r7.2)) else bd (fX7_lotOf N M v1 v2 v3) (fun r3 => bd (fX7_power N M (((1000 - r3) : Int32).toInt64) (v3 + 1)) (fun r4 => bd (fX7_power N M 1000 (v3 - 1)) (fun r5 => gc (¬ r5 = 0) (some (((r4 / r5) : Int64).toInt32, M))))))
def fX7_know (N : Nat) (M : Mem) (a : Nat) (v1 : Int32) (v2 : Int32) : Option (Int32 × Mem) :=
  bd (fX7_in N M ((v1 : Int32).toInt64) 0 5) (fun r1 => if r1 = 0 then bd (fX7_refuse N M a (-2)) (fun r3 => some (r3.1, r3.2)) else bd (fX7_in N M ((v2 : Int32).toInt64) 0 20) (fun r4 => if r4 = 0 then bd (fX7_refuse N M a (-2)) (fun r9 => some (r9.1, r9.2)) else gd v1 6 (nm (M.1 (a + 57) (v1 : Int32).toNatClampNeg) (fun x7 => nm (sI M (a + 57) (v1 : Int32).toNatClampNeg v2) (fun M8 => some (x7, M8))))))
def fX7_bar_107 (N : Nat) (M : Mem) (a : Nat) (u1 : Int32) (u2 : Int32) (u3 : Int64) (u5 : Int64) (u7 : Int32) (K188 : Int32 → Option (Int32 × Mem)) : Nat → Int32 → Int32 → Option (Int32 × Mem)
  | 0, _, _ => none
  | n + 1, w8, w9 => if 5 < w9 then K188 w8 else bd (fX7_power N M (u3 - u5) w9) (fun r2 => bd (fX7_power N M u3 w9) (fun r3 => if (lg_cmp (((u2 : Int32).toInt64) * r2) (((u1 : Int32).toInt64) * r3)) < 0 then gd w9 6 (if (M.1 (a + 57) (w9 : Int32).toNatClampNeg) = 0 then nm (w8 &&& 1) (fun x7 => fX7_bar_107 N M a u1 u2 u3 u5 u7 K188 n x7 (w9 + 1)) else if u7 < w9 then if (0 : Int32) = 0 then nm (w8 &&& 1) (fun x11 => fX7_bar_107 N M a u1 u2 u3 u5 u7 K188 n x11 (w9 + 1)) else nm (w8 &&& 0) (fun x10 => fX7_bar_107 N M a u1 u2 u3 u5 u7 K188 n x10 (w9 + 1)) else if (0 : Int32) = 1 then nm (w8 &&& 1) (fun x14 => fX7_bar_107 N M a u1 u2 u3 u5 u7 K188 n x14 (w9 + 1)) else nm (w8 &&& 0) (fun x13 => fX7_bar_107 N M a u1 u2 u3 u5 u7 K188 n x13 (w9 + 1))) else gd w9 6 (if (M.1 (a + 57) (w9 : Int32).toNatClampNeg) = 0 then nm (w8 &&& 1) (fun x17 => fX7_bar_107 N M a u1 u2 u3 u5 u7 K188 n x17 (w9 + 1)) else if u7 < w9 then if (1 : Int32) = 0 then nm (w8 &&& 1) (fun x21 => fX7_bar_107 N M a u1 u2 u3 u5 u7 K188 n x21 (w9 + 1)) else nm (w8 &&& 0) (fun x20 => fX7_bar_107 N M a u1 u2 u3 u5 u7 K188 n x20 (w9 + 1)) else if (1 : Int32) = 1 then nm (w8 &&& 1) (fun x24 => fX7_bar_107 N M a u1 u2 u3 u5 u7 K188 n x24 (w9 + 1)) else nm (w8 &&& 0) (fun x23 => fX7_bar_107 N M a u1 u2 u3 u5 u7 K188 n x23 (w9 + 1)))))
def fX7_bar_69 (N : Nat) (M : Mem) (a : Nat) (u1 : Int32) (u2 : Int32) (u3 : Int64) : Nat → Int64 → Int32 → Option (Int32 × Mem)
  | 0, _, _ => none
  | n + 1, w5, w7 => if 5 < w7 then some ((-1), M) else if 0 ≤ w7 then gd w7 6 (nm (w5 + (((w7 : Int32).toInt64) * (((M.1 (a + 57) (w7 : Int32).toNatClampNeg) : Int32).toInt64))) (fun x4 => fX7_bar_107 N M a u1 u2 u3 x4 w7 (fun y107_8 => if y107_8 = 0 then fX7_bar_69 N M a u1 u2 u3  n x4 (w7 + 1) else some ((w7 + 1), M)) N 1 0)) else nm (w5 + 0) (fun x26 => fX7_bar_107 N M a u1 u2 u3 x26 w7 (fun y107_8 => if y107_8 = 0 then fX7_bar_69 N M a u1 u2 u3  n x26 (w7 + 1) else some ((w7 + 1), M)) N 1 0)
def fX7_bar_36 (N : Nat) (M : Mem) (a : Nat) (u1 : Int32) (u2 : Int32) : Nat → Int64 → Int32 → Option (Int32 × Mem)
  | 0, _, _ => none
  | n + 1, w3, w5 => if 5 < w5 then fX7_bar_69 N M a u1 u2 w3 N 0 (-1) else gd w5 6 (nm (w3 + (((w5 : Int32).toInt64) * (((M.1 (a + 57) (w5 : Int32).toNatClampNeg) : Int32).toInt64))) (fun x29 => fX7_bar_36 N M a u1 u2  n x29 (w5 + 1)))
def fX7_bar (N : Nat) (M : Mem) (a : Nat) (v1 : Int32) (v2 : Int32) : Option (Int32 × Mem) :=
  bd (fX7_in N M ((v1 : Int32).toInt64) 1 99) (fun r1 => if r1 = 0 then bd (fX7_refuse N M a (-2)) (fun r3 => some (r3.1, r3.2)) else bd (fX7_in N M ((v2 : Int32).toInt64) 1 99) (fun r4 => if r4 = 0 then bd (fX7_refuse N M a (-2)) (fun r30 => some (r30.1, r30.2)) else fX7_bar_36 N M a v1 v2 N 0 0))
def fX7_cuts_34 (N : Nat) (a : Nat) (u1 : Int32) (u2 : Int32) (u3 : Int32) (K153 : Mem → Option (Int32 × Mem)) : Nat → Mem → Int32 → Option (Int32 × Mem)
  | 0, _, _ => none
  | n + 1, Mw, w4 => gd u1 5 (if (Mw.1 (a + 18) (u1 : Int32).toNatClampNeg) ≤ w4 then K153 Mw else gd u3 12 (if (((Mw.1 ((a + 33) + 1 + (u1 : Int32).toNatClampNeg) (u3 : Int32).toNatClampNeg) >>> (w4 &&& 31)) &&& 1) = 0 then fX7_cuts_34 N a u1 u2 u3 K153 n Mw (w4 + 1) else bd (fX7_gainOf N Mw a u1 u3 u2) (fun r5 => bd (fX7_gainOf N Mw a u1 w4 u2) (fun r6 => bd (fX7_tie N Mw a u1 u3 w4 (-1)) (fun r7 => bd (fX7_gainOf N r7.2 a u1 u3 u2) (fun r8 => if r5 < r8 then bd (fX7_tie N r7.2 a u1 u3 w4 r7.1) (fun r10 => if (1 : Int32) = 0 then fX7_cuts_34 N a u1 u2 u3 K153 n r10.2 (w4 + 1) else some (((100 * u3) + w4), r10.2)) else bd (fX7_gainOf N r7.2 a u1 w4 u2) (fun r12 => if r12 ≤ r6 then bd (fX7_tie N r7.2 a u1 u3 w4 r7.1) (fun r14 => if (0 : Int32) = 0 then fX7_cuts_34 N a u1 u2 u3 K153 n r14.2 (w4 + 1) else some (((100 * u3) + w4), r14.2)) else bd (fX7_tie N r7.2 a u1 u3 w4 r7.1) (fun r16 => if (1 : Int32) = 0 then fX7_cuts_34 N a u1 u2 u3 K153 n r16.2 (w4 + 1) else some (((100 * u3) + w4), r16.2)))))))))
def fX7_cuts_19 (N : Nat) (a : Nat) (u1 : Int32) (u2 : Int32) : Nat → Mem → Int32 → Option (Int32 × Mem)
  | 0, _, _ => none
  | n + 1, Mw, w3 => gd u1 5 (if (Mw.1 (a + 18) (u1 : Int32).toNatClampNeg) ≤ w3 then some ((-1), Mw) else nm (w3 + 1) (fun x3 => fX7_cuts_34 N a u1 u2 w3 (fun My34 => fX7_cuts_19 N a u1 u2  n My34 (w3 + 1)) N Mw x3))
def fX7_cuts (N : Nat) (M : Mem) (a : Nat) (v1 : Int32) (v2 : Int32) : Option (Int32 × Mem) :=
  bd (fX7_isSet N M a v1 ((v2 : Int32).toInt64)) (fun r1 => if r1 = 0 then bd (fX7_refuse N M a (-2)) (fun r18 => some (r18.1, r18.2)) else fX7_cuts_19 N a v1 v2 N M 0)
def fX7_adds_49 (N : Nat) (a : Nat) (u1 : Int32) (u2 : Int32) (u3 : Int32) (u4 : Int32) (K172 : Mem → Option (Int32 × Mem)) : Nat → Mem → Int32 → Option (Int32 × Mem)
  | 0, _, _ => none
  | n + 1, Mw, w5 => gd u1 5 (if (Mw.1 (a + 18) (u1 : Int32).toNatClampNeg) ≤ w5 then K172 Mw else gd u4 12 (if (((Mw.1 ((a + 33) + 1 + (u1 : Int32).toNatClampNeg) (u4 : Int32).toNatClampNeg) >>> (w5 &&& 31)) &&& 1) = 0 then bd (fX7_gainOf N Mw a u1 u4 u2) (fun r5 => bd (fX7_gainOf N Mw a u1 w5 u2) (fun r6 => bd (fX7_tie N Mw a u1 u4 w5 u3) (fun r7 => bd (fX7_gainOf N r7.2 a u1 u4 u2) (fun r8 => if r8 ≤ r5 then bd (fX7_tie N r7.2 a u1 u4 w5 (-1)) (fun r10 => if (0 : Int32) = 0 then fX7_adds_49 N a u1 u2 u3 u4 K172 n r10.2 (w5 + 1) else some (((100 * u4) + w5), r10.2)) else bd (fX7_gainOf N r7.2 a u1 w5 u2) (fun r12 => if r12 ≤ r6 then bd (fX7_tie N r7.2 a u1 u4 w5 (-1)) (fun r14 => if (0 : Int32) = 0 then fX7_adds_49 N a u1 u2 u3 u4 K172 n r14.2 (w5 + 1) else some (((100 * u4) + w5), r14.2)) else bd (fX7_tie N r7.2 a u1 u4 w5 (-1)) (fun r16 => if (1 : Int32) = 0 then fX7_adds_49 N a u1 u2 u3 u4 K172 n r16.2 (w5 + 1) else some (((100 * u4) + w5), r16.2))))))) else fX7_adds_49 N a u1 u2 u3 u4 K172 n Mw (w5 + 1)))
def fX7_adds_32 (N : Nat) (a : Nat) (u1 : Int32) (u2 : Int32) (u3 : Int32) : Nat → Mem → Int32 → Option (Int32 × Mem)
  | 0, _, _ => none
  | n + 1, Mw, w4 => gd u1 5 (if (Mw.1 (a + 18) (u1 : Int32).toNatClampNeg) ≤ w4 then some ((-1), Mw) else nm (w4 + 1) (fun x3 => fX7_adds_49 N a u1 u2 u3 w4 (fun My49 => fX7_adds_32 N a u1 u2 u3  n My49 (w4 + 1)) N Mw x3))
def fX7_adds (N : Nat) (M : Mem) (a : Nat) (v1 : Int32) (v2 : Int32) (v3 : Int32) : Option (Int32 × Mem) :=
  bd (fX7_isSet N M a v1 ((v2 : Int32).toInt64)) (fun r1 => if r1 = 0 then bd (fX7_refuse N M a (-2)) (fun r3 => some (r3.1, r3.2)) else bd (fX7_in N M ((v3 : Int32).toInt64) 0 9) (fun r4 => if r4 = 0 then bd (fX7_refuse N M a (-2)) (fun r18 => some (r18.1, r18.2)) else fX7_adds_32 N a v1 v2 v3 N M 0))
def fX7_less_51 (N : Nat) (a : Nat) (u1 : Int32) (u2 : Int32) (u3 : Int32) (K138 : Mem → Option (Int32 × Mem)) : Nat → Mem → Int32 → Option (Int32 × Mem)
  | 0, _, _ => none
  | n + 1, Mw, w4 => gd u1 5 (if (Mw.1 (a + 18) (u1 : Int32).toNatClampNeg) ≤ w4 then K138 Mw else gd u3 12 (if (((Mw.1 ((a + 33) + 1 + (u1 : Int32).toNatClampNeg) (u3 : Int32).toNatClampNeg) >>> (w4 &&& 31)) &&& 1) = 0 then bd (fX7_tie N Mw a u1 u3 w4 0) (fun r5 => bd (fX7_seek N r5.2 a u1 0) (fun r6 => bd (fX7_tie N r5.2 a u1 u3 w4 (-1)) (fun r7 => if r6 = (-1) then fX7_less_51 N a u1 u2 u3 K138 n r7.2 (w4 + 1) else bd (fX7_bits N r7.2 r6) (fun r9 => bd (fX7_bits N r7.2 u2) (fun r10 => if r10 ≤ r9 then fX7_less_51 N a u1 u2 u3 K138 n r7.2 (w4 + 1) else some (((100 * u3) + w4), r7.2)))))) else fX7_less_51 N a u1 u2 u3 K138 n Mw (w4 + 1)))
def fX7_less_36 (N : Nat) (a : Nat) (u1 : Int32) (u2 : Int32) : Nat → Mem → Int32 → Option (Int32 × Mem)
  | 0, _, _ => none
  | n + 1, Mw, w3 => gd u1 5 (if (Mw.1 (a + 18) (u1 : Int32).toNatClampNeg) ≤ w3 then some ((-1), Mw) else nm (w3 + 1) (fun x3 => fX7_less_51 N a u1 u2 w3 (fun My51 => fX7_less_36 N a u1 u2  n My51 (w3 + 1)) N Mw x3))
def fX7_less (N : Nat) (M : Mem) (a : Nat) (v1 : Int32) : Option (Int32 × Mem) :=
  bd (fX7_isStreet N M a v1) (fun r1 => if r1 = 0 then bd (fX7_refuse N M a (-2)) (fun r13 => some (r13.1, r13.2)) else bd (fX7_seek N M a v1 0) (fun r3 => if r3 = (-1) then bd (fX7_refuse N M a (-5)) (fun r12 => some (r12.1, r12.2)) else fX7_less_36 N a v1 r3 N M 0))
def fX7_needOf (N : Nat) (M : Mem) (a : Nat) (v1 : Int32) (v2 : Int32) (v3 : Int32) : Option Int32 :=
  gd v1 5 (if (((M.1 (a + 20) (v1 : Int32).toNatClampNeg) >>> (v2 &&& 31)) &&& 1) = 0 then bd (fX7_gainOf N M a v1 v2 (v3 ^^^ (1 <<< (v2 &&& 31)))) (fun r3 => bd (fX7_gainOf N M a v1 v2 v3) (fun r4 => nm (r3 - r4) (fun x5 => if x5 ≤ 0 then some 0 else some x5))) else some 0)
def fX7_need (N : Nat) (M : Mem) (a : Nat) (v1 : Int32) (v2 : Int32) (v3 : Int32) : Option (Int32 × Mem) :=
  bd (fX7_isPerson N M a v1 v2) (fun r1 => if r1 = 0 then bd (fX7_refuse N M a (-2)) (fun r3 => some (r3.1, r3.2)) else bd (fX7_isSet N M a v1 ((v3 : Int32).toInt64)) (fun r4 => if r4 = 0 then bd (fX7_refuse N M a (-2)) (fun r6 => some (r6.1, r6.2)) else bd (fX7_needOf N M a v1 v2 v3) (fun r7 => some (r7, M))))
def fX7_pay_42 (N : Nat) (M : Mem) (a : Nat) (u1 : Int32) (u2 : Int32) : Nat → Int32 → Int32 → Option (Int32 × Mem)
  | 0, _, _ => none
  | n + 1, w3, w4 => gd u1 5 (if (M.1 (a + 18) (u1 : Int32).toNatClampNeg) ≤ w4 then some (w3, M) else bd (fX7_needOf N M a u1 w4 u2) (fun r3 => nm (w3 + r3) (fun x4 => fX7_pay_42 N M a u1 u2  n x4 (w4 + 1))))
def fX7_pay (N : Nat) (M : Mem) (a : Nat) (v1 : Int32) (v2 : Int32) : Option (Int32 × Mem) :=
  bd (fX7_isSet N M a v1 ((v2 : Int32).toInt64)) (fun r1 => if r1 = 0 then bd (fX7_refuse N M a (-2)) (fun r6 => some (r6.1, r6.2)) else gd v1 5 (if ((M.1 (a + 20) (v1 : Int32).toNatClampNeg) &&& (v2 ^^^ (-1))) = 0 then fX7_pay_42 N M a v1 v2 N 0 0 else bd (fX7_refuse N M a (-5)) (fun r5 => some (r5.1, r5.2))))
def fX7_few_42 (N : Nat) (M : Mem) (a : Nat) (u1 : Int32) (u2 : Int32) : Nat → Int32 → Int32 → Option (Int32 × Mem)
  | 0, _, _ => none
  | n + 1, w3, w4 => gd u1 5 (if (M.1 (a + 18) (u1 : Int32).toNatClampNeg) ≤ w4 then some (w3, M) else bd (fX7_needOf N M a u1 w4 u2) (fun r3 => if r3 ≤ 0 then nm (w3 + 0) (fun x5 => fX7_few_42 N M a u1 u2  n x5 (w4 + 1)) else nm (w3 + 1) (fun x6 => fX7_few_42 N M a u1 u2  n x6 (w4 + 1))))
def fX7_few (N : Nat) (M : Mem) (a : Nat) (v1 : Int32) (v2 : Int32) : Option (Int32 × Mem) :=
  bd (fX7_isSet N M a v1 ((v2 : Int32).toInt64)) (fun r1 => if r1 = 0 then bd (fX7_refuse N M a (-2)) (fun r8 => some (r8.1, r8.2)) else gd v1 5 (if ((M.1 (a + 20) (v1 : Int32).toNatClampNeg) &&& (v2 ^^^ (-1))) = 0 then fX7_few_42 N M a v1 v2 N 0 0 else bd (fX7_refuse N M a (-5)) (fun r7 => some (r7.1, r7.2))))
def fX7_rota_148 (N : Nat) (M : Mem) (a : Nat) (u1 : Int32) (u2 : Int32) (u3 : Int32) (u4 : Int32) (K210 : Int32 → Option (Int32 × Mem)) : Nat → Int32 → Int32 → Option (Int32 × Mem)
  | 0, _, _ => none
  | n + 1, w5, w6 => if u3 ≤ w6 then K210 w5 else gd u2 8 (gd w6 40 (gd u1 5 (nm ((((M.2 ((a + 4) + 1 + (u2 : Int32).toNatClampNeg) (w6 : Int32).toNatClampNeg) : Int64).toInt32) ||| (M.1 (a + 20) (u1 : Int32).toNatClampNeg)) (fun x5 => bd (fX7_gainOf N M a u1 u4 (x5 &&& ((1 <<< (u4 &&& 31)) ^^^ (-1)))) (fun r6 => bd (fX7_gainOf N M a u1 u4 x5) (fun r7 => nm (w5 + (r6 - r7)) (fun x8 => fX7_rota_148 N M a u1 u2 u3 u4 K210 n x8 (w6 + 1))))))))
def fX7_rota_131 (N : Nat) (M : Mem) (a : Nat) (u1 : Int32) (u2 : Int32) (u3 : Int32) : Nat → Int32 → Option (Int32 × Mem)
  | 0, _ => none
  | n + 1, w4 => gd u1 5 (if (M.1 (a + 18) (u1 : Int32).toNatClampNeg) ≤ w4 then some ((-1), M) else fX7_rota_148 N M a u1 u2 u3 w4 (fun y148_5 => gd u1 5 (if (((M.1 (a + 20) (u1 : Int32).toNatClampNeg) >>> (w4 &&& 31)) &&& 1) = 0 then if y148_5 ≤ 0 then fX7_rota_131 N M a u1 u2 u3  n (w4 + 1) else some (w4, M) else fX7_rota_131 N M a u1 u2 u3  n (w4 + 1))) N 0 0)
def fX7_rota_92 (N : Nat) (M : Mem) (a : Nat) (u1 : Int32) (u2 : Int32) (u3 : Int32) : Nat → Int32 → Option (Int32 × Mem)
  | 0, _ => none
  | n + 1, w4 => if u3 ≤ w4 then fX7_rota_131 N M a u1 u2 u3 N 0 else gd u2 8 (gd w4 40 (bd (fX7_isSet N M a u1 (M.2 ((a + 4) + 1 + (u2 : Int32).toNatClampNeg) (w4 : Int32).toNatClampNeg)) (fun r14 => if r14 = 0 then bd (fX7_refuse N M a (-2)) (fun r16 => some (r16.1, r16.2)) else fX7_rota_92 N M a u1 u2 u3  n (w4 + 1))))
def fX7_rota (N : Nat) (M : Mem) (a : Nat) (v1 : Int32) (v2 : Int32) (v3 : Int32) : Option (Int32 × Mem) :=
  bd (fX7_isStreet N M a v1) (fun r1 => if r1 = 0 then bd (fX7_refuse N M a (-2)) (fun r3 => some (r3.1, r3.2)) else bd (fX7_in N M ((v2 : Int32).toInt64) 0 7) (fun r4 => if r4 = 0 then bd (fX7_refuse N M a (-2)) (fun r6 => some (r6.1, r6.2)) else bd (fX7_in N M ((v3 : Int32).toInt64) 1 40) (fun r7 => if r7 = 0 then bd (fX7_refuse N M a (-2)) (fun r20 => some (r20.1, r20.2)) else gd v2 8 (if (M.1 (a + 1) (v2 : Int32).toNatClampNeg) = 2 then bd (fX7_refuse N M a (-3)) (fun r19 => some (r19.1, r19.2)) else if (M.1 (a + 1) (v2 : Int32).toNatClampNeg) = 0 then bd (fX7_refuse N M a (-4)) (fun r18 => some (r18.1, r18.2)) else if v3 ≤ (M.1 (a + 3) (v2 : Int32).toNatClampNeg) then fX7_rota_92 N M a v1 v2 v3 N 0 else bd (fX7_refuse N M a (-2)) (fun r17 => some (r17.1, r17.2))))))
def fX7_seed (N : Nat) (M : Mem) (a : Nat) (v1 : Int32) : Option (Int32 × Mem) :=
  nm (M.1 a 21) (fun x1 => nm (sI M a 21 v1) (fun M2 => some (x1, M2)))
def fX7_draw (N : Nat) (M : Mem) (a : Nat) (v1 : Int32) : Option (Int32 × Mem) :=
  nm (sI M a 21 (((M.1 a 21) * 1103515245) + 12345)) (fun M1 => gc (¬ v1 = 0) (some ((((((M1.1 a 21)).toUInt32 >>> ((16 : Int32).toUInt32 &&& Int32.toUInt32 31)).toInt32) - ((((M1.1 a 21)).toUInt32 >>> ((16 : Int32).toUInt32 &&& Int32.toUInt32 31)).toInt32) / v1 * v1), M1)))
def fX7_thousandths (N : Nat) (M : Mem) (a : Nat) (v1 : Int32) (v2 : Int32) (v3 : Int32) : Option Int32 :=
  gd v1 5 (if (((M.1 (a + 20) (v1 : Int32).toNatClampNeg) >>> (v2 &&& 31)) &&& 1) = 0 then gd v2 12 (nm (M.1 ((a + 51) + 1 + (v1 : Int32).toNatClampNeg) (v2 : Int32).toNatClampNeg) (fun x4 => if (M.1 ((a + 45) + 1 + (v1 : Int32).toNatClampNeg) (v2 : Int32).toNatClampNeg) = 1 then if x4 = 1 then if (1 : Int32) = 0 then some 0 else some 1000 else if (0 : Int32) = 0 then some 0 else some 1000 else if (M.1 ((a + 45) + 1 + (v1 : Int32).toNatClampNeg) (v2 : Int32).toNatClampNeg) = 2 then some x4 else if (M.1 ((a + 45) + 1 + (v1 : Int32).toNatClampNeg) (v2 : Int32).toNatClampNeg) = 3 then bd (fX7_bits N M (M.1 ((a + 33) + 1 + (v1 : Int32).toNatClampNeg) (v2 : Int32).toNatClampNeg)) (fun r11 => if x4 < r11 then if (0 : Int32) = 0 then some 0 else some 1000 else if (1 : Int32) = 0 then some 0 else some 1000) else if (M.1 ((a + 45) + 1 + (v1 : Int32).toNatClampNeg) (v2 : Int32).toNatClampNeg) = 4 then gc (¬ (x4 / 100) = 0) (if (v3 - v3 / (x4 / 100) * (x4 / 100)) = (x4 - x4 / 100 * 100) then if (1 : Int32) = 0 then some 0 else some 1000 else if (0 : Int32) = 0 then some 0 else some 1000) else if (M.1 ((a + 45) + 1 + (v1 : Int32).toNatClampNeg) (v2 : Int32).toNatClampNeg) = 5 then bd (fX7_all N M a v1) (fun r21 => nm ((x4 &&& r21) &&& ((1 <<< (v2 &&& 31)) ^^^ (-1))) (fun x22 => bd (fX7_gainOf N M a v1 v2 (x22 ||| (1 <<< (v2 &&& 31)))) (fun r23 => bd (fX7_gainOf N M a v1 v2 x22) (fun r24 => if r23 ≤ r24 then if (0 : Int32) = 0 then some 0 else some 1000 else if (1 : Int32) = 0 then some 0 else some 1000)))) else if (0 : Int32) = 0 then some 0 else some 1000)) else some 1000)
def fX7_doers_32 (N : Nat) (a : Nat) (u1 : Int32) (u2 : Int32) : Nat → Mem → Int32 → Int32 → Option (Int32 × Mem)
  | 0, _, _, _ => none
  | n + 1, Mw, w3, w4 => gd u1 5 (if (Mw.1 (a + 18) (u1 : Int32).toNatClampNeg) ≤ w4 then some (w3, Mw) else bd (fX7_thousandths N Mw a u1 w4 u2) (fun r3 => if (((Mw.1 (a + 20) (u1 : Int32).toNatClampNeg) >>> (w4 &&& 31)) &&& 1) = 0 then gd w4 12 (if (Mw.1 ((a + 45) + 1 + (u1 : Int32).toNatClampNeg) (w4 : Int32).toNatClampNeg) = 2 then if (1 : Int32) = 0 then if r3 = 1000 then if (1 : Int32) = 0 then nm (w3 ||| 0) (fun x45 => fX7_doers_32 N a u1 u2  n Mw x45 (w4 + 1)) else nm (w3 ||| (1 <<< (w4 &&& 31))) (fun x46 => fX7_doers_32 N a u1 u2  n Mw x46 (w4 + 1)) else if (0 : Int32) = 0 then nm (w3 ||| 0) (fun x42 => fX7_doers_32 N a u1 u2  n Mw x42 (w4 + 1)) else nm (w3 ||| (1 <<< (w4 &&& 31))) (fun x43 => fX7_doers_32 N a u1 u2  n Mw x43 (w4 + 1)) else bd (fX7_draw N Mw a 1000) (fun r47 => if r3 ≤ r47.1 then if (0 : Int32) = 0 then nm (w3 ||| 0) (fun x50 => fX7_doers_32 N a u1 u2  n r47.2 x50 (w4 + 1)) else nm (w3 ||| (1 <<< (w4 &&& 31))) (fun x51 => fX7_doers_32 N a u1 u2  n r47.2 x51 (w4 + 1)) else if (1 : Int32) = 0 then nm (w3 ||| 0) (fun x53 => fX7_doers_32 N a u1 u2  n r47.2 x53 (w4 + 1)) else nm (w3 ||| (1 <<< (w4 &&& 31))) (fun x54 => fX7_doers_32 N a u1 u2  n r47.2 x54 (w4 + 1))) else if (0 : Int32) = 0 then if r3 = 1000 then if (1 : Int32) = 0 then nm (w3 ||| 0) (fun x29 => fX7_doers_32 N a u1 u2  n Mw x29 (w4 + 1)) else nm (w3 ||| (1 <<< (w4 &&& 31))) (fun x30 => fX7_doers_32 N a u1 u2  n Mw x30 (w4 + 1)) else if (0 : Int32) = 0 then nm (w3 ||| 0) (fun x26 => fX7_doers_32 N a u1 u2  n Mw x26 (w4 + 1)) else nm (w3 ||| (1 <<< (w4 &&& 31))) (fun x27 => fX7_doers_32 N a u1 u2  n Mw x27 (w4 + 1)) else bd (fX7_draw N Mw a 1000) (fun r31 => if r3 ≤ r31.1 then if (0 : Int32) = 0 then nm (w3 ||| 0) (fun x34 => fX7_doers_32 N a u1 u2  n r31.2 x34 (w4 + 1)) else nm (w3 ||| (1 <<< (w4 &&& 31))) (fun x35 => fX7_doers_32 N a u1 u2  n r31.2 x35 (w4 + 1)) else if (1 : Int32) = 0 then nm (w3 ||| 0) (fun x37 => fX7_doers_32 N a u1 u2  n r31.2 x37 (w4 + 1)) else nm (w3 ||| (1 <<< (w4 &&& 31))) (fun x38 => fX7_doers_32 N a u1 u2  n r31.2 x38 (w4 + 1)))) else if (0 : Int32) = 0 then if r3 = 1000 then if (1 : Int32) = 0 then nm (w3 ||| 0) (fun x11 => fX7_doers_32 N a u1 u2  n Mw x11 (w4 + 1)) else nm (w3 ||| (1 <<< (w4 &&& 31))) (fun x12 => fX7_doers_32 N a u1 u2  n Mw x12 (w4 + 1)) else if (0 : Int32) = 0 then nm (w3 ||| 0) (fun x8 => fX7_doers_32 N a u1 u2  n Mw x8 (w4 + 1)) else nm (w3 ||| (1 <<< (w4 &&& 31))) (fun x9 => fX7_doers_32 N a u1 u2  n Mw x9 (w4 + 1)) else bd (fX7_draw N Mw a 1000) (fun r13 => if r3 ≤ r13.1 then if (0 : Int32) = 0 then nm (w3 ||| 0) (fun x16 => fX7_doers_32 N a u1 u2  n r13.2 x16 (w4 + 1)) else nm (w3 ||| (1 <<< (w4 &&& 31))) (fun x17 => fX7_doers_32 N a u1 u2  n r13.2 x17 (w4 + 1)) else if (1 : Int32) = 0 then nm (w3 ||| 0) (fun x19 => fX7_doers_32 N a u1 u2  n r13.2 x19 (w4 + 1)) else nm (w3 ||| (1 <<< (w4 &&& 31))) (fun x20 => fX7_doers_32 N a u1 u2  n r13.2 x20 (w4 + 1)))))
def fX7_doers (N : Nat) (M : Mem) (a : Nat) (v1 : Int32) (v2 : Int32) : Option (Int32 × Mem) :=
  bd (fX7_isStreet N M a v1) (fun r1 => if r1 = 0 then bd (fX7_refuse N M a (-2)) (fun r3 => some (r3.1, r3.2)) else bd (fX7_in N M ((v2 : Int32).toInt64) 0 999) (fun r4 => if r4 = 0 then bd (fX7_refuse N M a (-2)) (fun r55 => some (r55.1, r55.2)) else fX7_doers_32 N a v1 v2 N M 0 0))
def fX7_hourOf_6 (N : Nat) (M : Mem) (a : Nat) (u1 : Int32) (u3 : Int32) : Nat → Int32 → Int32 → Option Int32
  | 0, _, _ => none
  | n + 1, w4, w5 => gd u1 5 (if (M.1 (a + 18) (u1 : Int32).toNatClampNeg) ≤ w5 then some w4 else bd (fX7_thousandths N M a u1 w5 u3) (fun r3 => nm ((((((w4 : Int32).toInt64) * (((1000 - r3) : Int32).toInt64)) / 1000) : Int64).toInt32) (fun x4 => fX7_hourOf_6 N M a u1 u3  n x4 (w5 + 1))))
def fX7_hourOf (N : Nat) (M : Mem) (a : Nat) (v1 : Int32) (v2 : Int32) (v3 : Int32) : Option Int32 :=
  fX7_hourOf_6 N M a v1 v3 N v2 0
def fX7_light_34 (N : Nat) (M : Mem) (a : Nat) (u1 : Int32) (u2 : Int32) : Nat → Int32 → Int32 → Option (Int32 × Mem)
  | 0, _, _ => none
  | n + 1, w3, w4 => if u2 < w4 then some (w3, M) else bd (fX7_hourOf N M a u1 w3 w4) (fun r2 => fX7_light_34 N M a u1 u2  n r2 (w4 + 1))
def fX7_light (N : Nat) (M : Mem) (a : Nat) (v1 : Int32) (v2 : Int32) : Option (Int32 × Mem) :=
  bd (fX7_isStreet N M a v1) (fun r1 => if r1 = 0 then bd (fX7_refuse N M a (-2)) (fun r3 => some (r3.1, r3.2)) else bd (fX7_in N M ((v2 : Int32).toInt64) 1 99) (fun r4 => if r4 = 0 then bd (fX7_refuse N M a (-2)) (fun r6 => some (r6.1, r6.2)) else fX7_light_34 N M a v1 v2 N 1000000 1))
def fX7_late_34 (N : Nat) (M : Mem) (a : Nat) (u1 : Int32) (u2 : Int32) : Nat → Int32 → Int32 → Option (Int32 × Mem)
  | 0, _, _ => none
  | n + 1, w3, w4 => if 99 < w4 then some ((-1), M) else bd (fX7_hourOf N M a u1 w3 w4) (fun r2 => if u2 < r2 then fX7_late_34 N M a u1 u2  n r2 (w4 + 1) else some (w4, M))
def fX7_late (N : Nat) (M : Mem) (a : Nat) (v1 : Int32) (v2 : Int32) : Option (Int32 × Mem) :=
  bd (fX7_isStreet N M a v1) (fun r1 => if r1 = 0 then bd (fX7_refuse N M a (-2)) (fun r3 => some (r3.1, r3.2)) else bd (fX7_in N M ((v2 : Int32).toInt64) 0 1000000) (fun r4 => if r4 = 0 then bd (fX7_refuse N M a (-2)) (fun r6 => some (r6.1, r6.2)) else fX7_late_34 N M a v1 v2 N 1000000 1))
def fX7_over_2 (N : Nat) (b0 : Nat) (b1 : Nat) (len0 : Nat) (len1 : Nat) : Nat → Mem → Int32 → Option Mem
  | 0, _, _ => none
  | n + 1, Mw, w2 => if (nI len0) ≤ w2 then some Mw else gd w2 len0 (gd w2 len1 (nm (sI Mw b1 (w2 : Int32).toNatClampNeg (Mw.1 b0 (w2 : Int32).toNatClampNeg)) (fun M4 => fX7_over_2 N b0 b1 len0 len1  n M4 (w2 + 1))))
def fX7_over (N : Nat) (M : Mem) (len0 : Nat) (b0 : Nat) (len1 : Nat) (b1 : Nat) : Option Mem :=
  fX7_over_2 N b0 b1 len0 len1 N M 0
def fX7_begin (N : Nat) (M : Mem) (a : Nat) (v1 : Int32) : Option (Int32 × Mem) :=
  bd (fX7_isStreet N M a v1) (fun r1 => if r1 = 0 then bd (fX7_refuse N M a (-2)) (fun r15 => some (r15.1, r15.2)) else gd v1 5 (nm (sI M (a + 18) (4 : Int32).toNatClampNeg (M.1 (a + 18) (v1 : Int32).toNatClampNeg)) (fun M4 => nm (sI M4 (a + 19) (4 : Int32).toNatClampNeg (M4.1 (a + 19) (v1 : Int32).toNatClampNeg)) (fun M5 => nm (sI M5 (a + 20) (4 : Int32).toNatClampNeg (M5.1 (a + 20) (v1 : Int32).toNatClampNeg)) (fun M6 => bd (fX7_over N M6 12 ((a + 21) + 1 + (v1 : Int32).toNatClampNeg) 12 ((a + 21) + 1 + (4 : Int32).toNatClampNeg)) (fun r7 => bd (fX7_over N r7 12 ((a + 27) + 1 + (v1 : Int32).toNatClampNeg) 12 ((a + 27) + 1 + (4 : Int32).toNatClampNeg)) (fun r8 => bd (fX7_over N r8 12 ((a + 33) + 1 + (v1 : Int32).toNatClampNeg) 12 ((a + 33) + 1 + (4 : Int32).toNatClampNeg)) (fun r9 => bd (fX7_over N r9 144 ((a + 39) + 1 + (v1 : Int32).toNatClampNeg) 144 ((a + 39) + 1 + (4 : Int32).toNatClampNeg)) (fun r10 => nm (sI r10 a 22 v1) (fun M11 => nm (sI M11 a 23 0) (fun M12 => nm (sI M12 a 24 0) (fun M13 => nm (sI M13 a 25 (-1)) (fun M14 => some ((1 <<< ((M14.1 (a + 18) (v1 : Int32).toNatClampNeg) &&& 31)), M14))))))))))))))
def fX7_isDone (N : Nat) (M : Mem) (a : Nat) : Option Int32 :=
  bd (fX7_all N M a 4) (fun r1 => if (M.1 a 23) ≤ r1 then some 0 else some 1)
def fX7_step_45 (N : Nat) (a : Nat) (u1 : Int32) : Nat → Mem → Int32 → Int32 → Option (Int32 × Mem)
  | 0, _, _, _ => none
  | n + 1, Mw, w2, w3 => if u1 ≤ w3 then nm (sI Mw a 24 ((Mw.1 a 24) + w2)) (fun M2 => some (w2, M2)) else bd (fX7_isDone N Mw a) (fun r3 => if r3 = 0 then bd (fX7_isRest N Mw a 4 (Mw.1 a 23)) (fun r6 => if r6 = 0 then nm (sI Mw a 23 ((Mw.1 a 23) + 1)) (fun M8 => fX7_step_45 N a u1  n M8 w2 (w3 + 1)) else nm (sI Mw a 25 (Mw.1 a 23)) (fun M9 => nm (sI M9 a 23 ((M9.1 a 23) + 1)) (fun M10 => fX7_step_45 N a u1  n M10 (w2 + 1) (w3 + 1)))) else nm (sI Mw a 24 ((Mw.1 a 24) + w2)) (fun M5 => some (w2, M5)))
def fX7_step (N : Nat) (M : Mem) (a : Nat) (v1 : Int32) : Option (Int32 × Mem) :=
  bd (fX7_in N M ((v1 : Int32).toInt64) 1 999) (fun r1 => if r1 = 0 then bd (fX7_refuse N M a (-2)) (fun r12 => some (r12.1, r12.2)) else if (M.1 a 22) = (-1) then bd (fX7_refuse N M a (-5)) (fun r4 => some (r4.1, r4.2)) else bd (fX7_isDone N M a) (fun r5 => if r5 = 0 then fX7_step_45 N a v1 N M 0 0 else bd (fX7_refuse N M a (-5)) (fun r11 => some (r11.1, r11.2))))
def fX7_search (N : Nat) (M : Mem) (a : Nat) (v1 : Int32) : Option (Int32 × Mem) :=
  bd (fX7_in N M ((v1 : Int32).toInt64) 0 4) (fun r1 => if r1 = 0 then bd (fX7_refuse N M a (-2)) (fun r11 => some (r11.1, r11.2)) else if (M.1 a 22) = (-1) then bd (fX7_refuse N M a (-5)) (fun r10 => some (r10.1, r10.2)) else if v1 = 0 then some ((M.1 a 22), M) else if v1 = 1 then some ((M.1 a 23), M) else if v1 = 2 then some ((M.1 a 24), M) else if v1 = 3 then some ((M.1 a 25), M) else bd (fX7_isDone N M a) (fun r8 => if r8 = 0 then some (0, M) else some (1, M)))
def fX7_takeFrom_43 (N : Nat) (a : Nat) (b1 : Nat) : Nat → Mem → Int32 → Option Mem
  | 0, _, _ => none
  | n + 1, Mw, w2 => if 5 ≤ w2 then bd (fX7_over N Mw 6 (b1 + 57) 6 (a + 57)) (fun r2 => nm (sI r2 a 21 (r2.1 b1 21)) (fun M3 => nm (sI M3 a 22 (M3.1 b1 22)) (fun M4 => nm (sI M4 a 23 (M4.1 b1 23)) (fun M5 => nm (sI M5 a 24 (M5.1 b1 24)) (fun M6 => nm (sI M6 a 25 (M6.1 b1 25)) (fun M7 => some M7)))))) else gd w2 5 (bd (fX7_over N Mw 12 ((b1 + 21) + 1 + (w2 : Int32).toNatClampNeg) 12 ((a + 21) + 1 + (w2 : Int32).toNatClampNeg)) (fun r9 => bd (fX7_over N r9 12 ((b1 + 27) + 1 + (w2 : Int32).toNatClampNeg) 12 ((a + 27) + 1 + (w2 : Int32).toNatClampNeg)) (fun r10 => bd (fX7_over N r10 12 ((b1 + 33) + 1 + (w2 : Int32).toNatClampNeg) 12 ((a + 33) + 1 + (w2 : Int32).toNatClampNeg)) (fun r11 => bd (fX7_over N r11 144 ((b1 + 39) + 1 + (w2 : Int32).toNatClampNeg) 144 ((a + 39) + 1 + (w2 : Int32).toNatClampNeg)) (fun r12 => bd (fX7_over N r12 12 ((b1 + 45) + 1 + (w2 : Int32).toNatClampNeg) 12 ((a + 45) + 1 + (w2 : Int32).toNatClampNeg)) (fun r13 => bd (fX7_over N r13 12 ((b1 + 51) + 1 + (w2 : Int32).toNatClampNeg) 12 ((a + 51) + 1 + (w2 : Int32).toNatClampNeg)) (fun r14 => fX7_takeFrom_43 N a b1  n r14 (w2 + 1))))))))
def fX7_takeFrom (N : Nat) (M : Mem) (a : Nat) (b1 : Nat) : Option Mem :=
  nm (sI M a 10 (M.1 b1 10)) (fun M1 => bd (fX7_over N M1 5 (b1 + 18) 5 (a + 18)) (fun r2 => bd (fX7_over N r2 5 (b1 + 19) 5 (a + 19)) (fun r3 => bd (fX7_over N r3 5 (b1 + 20) 5 (a + 20)) (fun r4 => fX7_takeFrom_43 N a b1 N r4 0))))
def fX7_back (N : Nat) (M : Mem) (a : Nat) : Option (Int32 × Mem) :=
  if M.1 a 26 = 0 then bd (fX7_refuse N M a (-5)) (fun r2 => some (r2.1, r2.2)) else bd (fX7_takeFrom N M a (a + 59)) (fun r4 => some (1, r4))
def fX7_status_51 (N : Nat) (M : Mem) (a : Nat) : Nat → Int32 → Int32 → Option Int32
  | 0, _, _ => none
  | n + 1, w2, w3 => if 8 ≤ w3 then some w2 else gd w3 8 (if (M.1 (a + 1) (w3 : Int32).toNatClampNeg) = 0 then nm (w2 + 0) (fun x4 => fX7_status_51 N M a  n x4 (w3 + 1)) else nm (w2 + 1) (fun x5 => fX7_status_51 N M a  n x5 (w3 + 1)))
def fX7_status (N : Nat) (M : Mem) (a : Nat) (v1 : Int32) : Option Int32 :=
  if v1 = 0 then some (M.1 a 10) else if v1 = 1 then some (M.1 a 8) else if v1 = 2 then some (M.1 a 21) else if v1 = 3 then fX7_status_51 N M a N 0 0 else bd (fX7_in N M ((v1 : Int32).toInt64) 12 16) (fun r6 => if r6 = 0 then some (-1) else gd (v1 - 10) 8 (some (M.1 (a + 17) ((v1 - 10) : Int32).toNatClampNeg)))
def fX6_isWithin (N : Nat) (M : Mem) (v0 : Int32) (v1 : Int32) (v2 : Int32) : Option Int32 :=
  if v0 < v1 then some 0 else if v2 < v0 then some 0 else some 1
def fX6_shelfAt (N : Nat) (M : Mem) (a : Nat) (v1 : Int32) : Option (Option Nat) :=
  bd (fX6_isWithin N M v1 0 7) (fun r1 => if r1 = 0 then some none else gd v1 8 (some (some ((a + 1) + 102 + 2 * (v1 : Int32).toNatClampNeg))))
def fX6_refuse (N : Nat) (M : Mem) (a : Nat) (v1 : Int32) : Option (Int32 × Mem) :=
  nm ((-2) - v1) (fun x1 => if x1 < 0 then some (v1, M) else if 5 ≤ x1 then some (v1, M) else gd x1 5 (nm (sI M (a + 102) (x1 : Int32).toNatClampNeg ((M.1 (a + 102) (x1 : Int32).toNatClampNeg) + 1)) (fun M5 => some (v1, M5))))
def fX6_row (N : Nat) (M : Mem) (a : Nat) (v1 : Int32) (v2 : Int32) (v3 : Int32) : Option (Int32 × Mem) :=
  bd (fX6_shelfAt N M a v1) (fun r1 => onO r1 (bd (fX6_refuse N M a (-2)) (fun r3 => some (r3.1, r3.2))) (fun q2 => gc (kd q2 = 3 ∧ q2 + 2 ≤ a + 119) (bd (fX6_isWithin N M v2 0 4) (fun r4 => if r4 = 0 then bd (fX6_refuse N M a (-2)) (fun r6 => some (r6.1, r6.2)) else bd (fX6_isWithin N M v3 0 40) (fun r7 => if r7 = 0 then bd (fX6_refuse N M a (-2)) (fun r10 => some (r10.1, r10.2)) else bd (fX3_putRow N M q2 v2 v3) (fun r9 => some (1, r9)))))))
def fX6_set (N : Nat) (M : Mem) (a : Nat) (v1 : Int32) (v2 : Int32) (v3 : Int64) : Option (Int32 × Mem) :=
  bd (fX6_shelfAt N M a v1) (fun r1 => onO r1 (bd (fX6_refuse N M a (-2)) (fun r3 => some (r3.1, r3.2))) (fun q2 => gc (kd q2 = 3 ∧ q2 + 2 ≤ a + 119) (bd (fX3_isWay N M q2) (fun r4 => if r4 = 0 then bd (fX3_isRow N M q2) (fun r6 => if r6 = 0 then bd (fX6_refuse N M a (-4)) (fun r12 => some (r12.1, r12.2)) else bd (fX3_hasPlaces N M q2 v2 1) (fun r8 => if r8 = 0 then bd (fX6_refuse N M a (-2)) (fun r11 => some (r11.1, r11.2)) else bd (fX3_put N M q2 v2 v3) (fun r10 => some (1, r10)))) else bd (fX6_refuse N M a (-3)) (fun r13 => some (r13.1, r13.2))))))
def fX6_copy (N : Nat) (M : Mem) (a : Nat) (v1 : Int32) (v2 : Int32) (v3 : Int32) (v4 : Int32) (v5 : Int32) : Option (Int32 × Mem) :=
  bd (fX6_shelfAt N M a v1) (fun r1 => onO r1 (bd (fX6_shelfAt N M a v2) (fun r3 => onO r3 (bd (fX6_refuse N M a (-2)) (fun r5 => some (r5.1, r5.2))) (fun q4 => gc (kd q4 = 3 ∧ q4 + 2 ≤ a + 119) (bd (fX6_refuse N M a (-2)) (fun r6 => some (r6.1, r6.2)))))) (fun q2 => gc (kd q2 = 3 ∧ q2 + 2 ≤ a + 119) (bd (fX6_shelfAt N M a v2) (fun r7 => onO r7 (bd (fX6_refuse N M a (-2)) (fun r9 => some (r9.1, r9.2))) (fun q8 => gc (kd q8 = 3 ∧ q8 + 2 ≤ a + 119) (bd (fX3_isWay N M q2) (fun r10 => if r10 = 0 then bd (fX3_isWay N M q8) (fun r13 => if r13 = 0 then bd (fX3_isRow N M q2) (fun r15 => if r15 = 0 then bd (fX3_isRow N M q2) (fun r17 => if r17 = 0 then bd (fX6_refuse N M a (-4)) (fun r19 => some (r19.1, r19.2)) else bd (fX3_isRow N M q8) (fun r20 => if r20 = 0 then bd (fX6_refuse N M a (-4)) (fun r30 => some (r30.1, r30.2)) else bd (fX3_hasPlaces N M q2 v3 v5) (fun r22 => if r22 = 0 then bd (fX6_refuse N M a (-2)) (fun r24 => some (r24.1, r24.2)) else bd (fX3_hasPlaces N M q8 v4 v5) (fun r25 => if r25 = 0 then bd (fX6_refuse N M a (-2)) (fun r29 => some (r29.1, r29.2)) else gc ((¬ (v3 : Int32) < 0) ∧ (¬ (v4 : Int32) < 0) ∧ (¬ (v5 : Int32) < 0) ∧ (v3 : Int32).toNatClampNeg + (v5 : Int32).toNatClampNeg ≤ 40 ∧ (v4 : Int32).toNatClampNeg + (v5 : Int32).toNatClampNeg ≤ 40) (nm (fJ M (q8 + 1) (va_cpy (M.2 (q2 + 1)) (M.2 (q8 + 1)) (v3 : Int32).toNatClampNeg (v4 : Int32).toNatClampNeg (v5 : Int32).toNatClampNeg)) (fun M28 => some (v5, M28))))))) else bd (fX3_isRow N M q8) (fun r31 => if r31 = 0 then bd (fX3_isRow N M q2) (fun r33 => if r33 = 0 then bd (fX6_refuse N M a (-4)) (fun r35 => some (r35.1, r35.2)) else bd (fX3_isRow N M q8) (fun r36 => if r36 = 0 then bd (fX6_refuse N M a (-4)) (fun r46 => some (r46.1, r46.2)) else bd (fX3_hasPlaces N M q2 v3 v5) (fun r38 => if r38 = 0 then bd (fX6_refuse N M a (-2)) (fun r40 => some (r40.1, r40.2)) else bd (fX3_hasPlaces N M q8 v4 v5) (fun r41 => if r41 = 0 then bd (fX6_refuse N M a (-2)) (fun r45 => some (r45.1, r45.2)) else gc ((¬ (v3 : Int32) < 0) ∧ (¬ (v4 : Int32) < 0) ∧ (¬ (v5 : Int32) < 0) ∧ (v3 : Int32).toNatClampNeg + (v5 : Int32).toNatClampNeg ≤ 40 ∧ (v4 : Int32).toNatClampNeg + (v5 : Int32).toNatClampNeg ≤ 40) (nm (fJ M (q8 + 1) (va_cpy (M.2 (q2 + 1)) (M.2 (q8 + 1)) (v3 : Int32).toNatClampNeg (v4 : Int32).toNatClampNeg (v5 : Int32).toNatClampNeg)) (fun M44 => some (v5, M44))))))) else if (M.1 q2 1) = (M.1 q8 1) then bd (fX3_isRow N M q2) (fun r48 => if r48 = 0 then bd (fX6_refuse N M a (-4)) (fun r50 => some (r50.1, r50.2)) else bd (fX3_isRow N M q8) (fun r51 => if r51 = 0 then bd (fX6_refuse N M a (-4)) (fun r61 => some (r61.1, r61.2)) else bd (fX3_hasPlaces N M q2 v3 v5) (fun r53 => if r53 = 0 then bd (fX6_refuse N M a (-2)) (fun r55 => some (r55.1, r55.2)) else bd (fX3_hasPlaces N M q8 v4 v5) (fun r56 => if r56 = 0 then bd (fX6_refuse N M a (-2)) (fun r60 => some (r60.1, r60.2)) else gc ((¬ (v3 : Int32) < 0) ∧ (¬ (v4 : Int32) < 0) ∧ (¬ (v5 : Int32) < 0) ∧ (v3 : Int32).toNatClampNeg + (v5 : Int32).toNatClampNeg ≤ 40 ∧ (v4 : Int32).toNatClampNeg + (v5 : Int32).toNatClampNeg ≤ 40) (nm (fJ M (q8 + 1) (va_cpy (M.2 (q2 + 1)) (M.2 (q8 + 1)) (v3 : Int32).toNatClampNeg (v4 : Int32).toNatClampNeg (v5 : Int32).toNatClampNeg)) (fun M59 => some (v5, M59))))))) else bd (fX6_refuse N M a (-3)) (fun r62 => some (r62.1, r62.2)))) else bd (fX6_refuse N M a (-3)) (fun r63 => some (r63.1, r63.2))) else bd (fX6_refuse N M a (-3)) (fun r12 => some (r12.1, r12.2)))))))))
def fX6_element (N : Nat) (M : Mem) (a : Nat) (v1 : Int32) (v2 : Int32) : Option Int64 :=
  bd (fX6_shelfAt N M a v1) (fun r1 => onO r1 (some 0) (fun q2 => gc (kd q2 = 3 ∧ q2 + 2 ≤ a + 119) (bd (fX3_told N M q2 v2) (fun r3 => some r3))))
def fX6_holds (N : Nat) (M : Mem) (a : Nat) (v1 : Int32) : Option Int32 :=
  bd (fX6_shelfAt N M a v1) (fun r1 => onO r1 (some (-1)) (fun q2 => gc (kd q2 = 3 ∧ q2 + 2 ≤ a + 119) (some (M.1 q2 1))))
def fX6_isWayToldBy (N : Nat) (M : Mem) (v0 : Int32) (v1 : Int32) : Option Int32 :=
  if v0 = 1 then bd (fX6_isWithin N M v1 0 1) (fun r2 => gc (r2 = 0 ∨ r2 = 1) (some r2)) else if v0 = 2 then bd (fX6_isWithin N M v1 0 1000) (fun r5 => gc (r5 = 0 ∨ r5 = 1) (some r5)) else if v0 = 3 then bd (fX6_isWithin N M v1 0 11) (fun r8 => gc (r8 = 0 ∨ r8 = 1) (some r8)) else if v0 = 4 then bd (fX6_isWithin N M v1 100 999) (fun r11 => if r11 = 0 then some 0 else if (v1 / 100) ≤ (v1 - v1 / 100 * 100) then some 0 else some 1) else if v0 = 5 then bd (fX6_isWithin N M v1 0 7) (fun r15 => gc (r15 = 0 ∨ r15 = 1) (some r15)) else some 0
def fX6_way (N : Nat) (M : Mem) (a : Nat) (v1 : Int32) (v2 : Int32) (v3 : Int32) : Option (Int32 × Mem) :=
  bd (fX6_shelfAt N M a v1) (fun r1 => onO r1 (bd (fX6_refuse N M a (-2)) (fun r3 => some (r3.1, r3.2))) (fun q2 => gc (kd q2 = 3 ∧ q2 + 2 ≤ a + 119) (bd (fX6_isWayToldBy N M v2 v3) (fun r4 => if r4 = 0 then bd (fX6_refuse N M a (-2)) (fun r19 => some (r19.1, r19.2)) else if v2 = 5 then bd (fX6_shelfAt N M a v3) (fun r7 => onO r7 (bd (fX6_refuse N M a (-2)) (fun r9 => some (r9.1, r9.2))) (fun q8 => gc (kd q8 = 3 ∧ q8 + 2 ≤ a + 119) (bd (fX3_isWay N M q8) (fun r10 => if r10 = 0 then bd (fX3_isRow N M q8) (fun r12 => if r12 = 0 then bd (fX6_refuse N M a (-4)) (fun r16 => some (r16.1, r16.2)) else bd (fX3_toldSet N M q8) (fun r14 => bd (fX3_putWay N M q2 5 r14) (fun r15 => some (1, r15)))) else bd (fX6_refuse N M a (-3)) (fun r17 => some (r17.1, r17.2)))))) else bd (fX3_putWay N M q2 v2 v3) (fun r18 => some (1, r18))))))
def fX6_says (N : Nat) (M : Mem) (a : Nat) (v1 : Int32) (v2 : Int32) : Option (Int32 × Mem) :=
  bd (fX6_shelfAt N M a v1) (fun r1 => onO r1 (bd (fX6_refuse N M a (-2)) (fun r3 => some (r3.1, r3.2))) (fun q2 => gc (kd q2 = 3 ∧ q2 + 2 ≤ a + 119) (bd (fX6_isWithin N M v2 0 5) (fun r4 => if r4 = 0 then bd (fX6_refuse N M a (-2)) (fun r16 => some (r16.1, r16.2)) else bd (fX3_isRow N M q2) (fun r6 => if r6 = 0 then bd (fX3_isWay N M q2) (fun r8 => if r8 = 0 then bd (fX6_refuse N M a (-4)) (fun r14 => some (r14.1, r14.2)) else bd (fX3_isOfKind N M q2 v2) (fun r10 => if r10 = 0 then bd (fX6_refuse N M a (-3)) (fun r12 => some (r12.1, r12.2)) else bd (fX3_saidAs N M q2 v2) (fun r13 => some (r13, M)))) else bd (fX6_refuse N M a (-3)) (fun r15 => some (r15.1, r15.2)))))))
def fX6_feed_42 (N : Nat) (a : Nat) (u1 : Int32) : Nat → Mem → Int32 → Option (Int32 × Mem)
  | 0, _, _ => none
  | n + 1, Mw, w3 => if w3 < 0 then some ((Mw.1 (a + 2) 1), Mw) else bd (fX1_append N Mw (a + 2) ((((u1).toUInt32 >>> (((8 * w3) : Int32).toUInt32 &&& Int32.toUInt32 31)).toInt32) &&& 255)) (fun r2 => fX6_feed_42 N a u1  n r2 (w3 + (-1)))
def fX6_feed (N : Nat) (M : Mem) (a : Nat) (v1 : Int32) (v2 : Int32) : Option (Int32 × Mem) :=
  bd (fX6_isWithin N M v2 1 4) (fun r1 => if r1 = 0 then bd (fX6_refuse N M a (-2)) (fun r6 => some (r6.1, r6.2)) else if v2 ≤ (160 - (M.1 (a + 2) 1)) then nm (v2 - 1) (fun x4 => fX6_feed_42 N a v1 N M x4) else bd (fX6_refuse N M a (-6)) (fun r5 => some (r5.1, r5.2)))
def fX6_wipe (N : Nat) (M : Mem) (a : Nat) : Option (Int32 × Mem) :=
  nm (M.1 (a + 2) 1) (fun x1 => bd (fX1_empty N M (a + 2)) (fun r2 => some (x1, r2)))
def fX6_street (N : Nat) (M : Mem) (a : Nat) : Option (Int32 × Mem) :=
  bd (fX5_placeForNext N M (a + 4)) (fun r1 => onO r1 (bd (fX6_refuse N M a (-6)) (fun r3 => some (r3.1, r3.2))) (fun q2 => gc (kd q2 = 4 ∧ q2 + 8 ≤ a + 119) (bd (fX1_readStreet N M (a + 2) q2) (fun r4 => nm (r4.2.1 (a + 2) 3) (fun x5 => bd (fX1_empty N r4.2 (a + 2)) (fun r6 => if r4.1 = 0 then bd (fX6_refuse N r6 a (-2)) (fun r9 => some (((-20) - x5), r9.2)) else nm (sI r6 (a + 4) 3 ((r6.1 (a + 4) 3) + 1)) (fun M8 => some (((M8.1 (a + 4) 3) - 1), M8))))))))
def fX6_streetOf (N : Nat) (M : Mem) (a : Nat) (v1 : Int32) (v2 : Int32) : Option (Int32 × Mem) :=
  bd (fX5_streetAt N M (a + 4) v1) (fun r1 => onO r1 (bd (fX6_refuse N M a (-2)) (fun r3 => some (r3.1, r3.2))) (fun q2 => gc (kd q2 = 4 ∧ q2 + 8 ≤ a + 119) (if v2 = 0 then some ((M.1 q2 7), M) else if v2 = 1 then bd (fX4_ties N M q2) (fun r6 => some (r6, M)) else if v2 = 2 then some ((M.1 q2 8), M) else if v2 = 3 then some ((M.1 q2 9), M) else if v2 = 4 then bd (fX4_prices N M q2) (fun r10 => some (r10, M)) else bd (fX6_refuse N M a (-2)) (fun r11 => some (r11.1, r11.2)))))
def fX6_personOf (N : Nat) (M : Mem) (a : Nat) (v1 : Int32) (v2 : Int32) (v3 : Int32) : Option (Int32 × Mem) :=
  bd (fX5_streetAt N M (a + 4) v1) (fun r1 => onO r1 (bd (fX6_refuse N M a (-2)) (fun r3 => some (r3.1, r3.2))) (fun q2 => gc (kd q2 = 4 ∧ q2 + 8 ≤ a + 119) (bd (fX4_hasPerson N M q2 v2) (fun r4 => if r4 = 0 then bd (fX6_refuse N M a (-2)) (fun r20 => some (r20.1, r20.2)) else if v3 = 0 then gd v2 12 (some ((M.1 (q2 + 1) (v2 : Int32).toNatClampNeg), M)) else if v3 = 1 then gd v2 12 (some ((M.1 (q2 + 2) (v2 : Int32).toNatClampNeg), M)) else if v3 = 2 then gd v2 12 (some ((M.1 (q2 + 3) (v2 : Int32).toNatClampNeg), M)) else if v3 = 3 then bd (fX4_isMust N M q2 v2) (fun r13 => if r13 = 0 then some (0, M) else some (1, M)) else if v3 = 4 then gd v2 12 (some ((M.1 (q2 + 4) (v2 : Int32).toNatClampNeg), M)) else if v3 = 5 then gd v2 12 (some ((M.1 (q2 + 7) (v2 : Int32).toNatClampNeg), M)) else bd (fX6_refuse N M a (-2)) (fun r19 => some (r19.1, r19.2))))))
def fX6_alter (N : Nat) (M : Mem) (a : Nat) (v1 : Int32) (v2 : Int32) (v3 : Int32) (v4 : Int32) : Option (Int32 × Mem) :=
  bd (fX5_streetAt N M (a + 4) v1) (fun r1 => onO r1 (bd (fX6_refuse N M a (-2)) (fun r3 => some (r3.1, r3.2))) (fun q2 => gc (kd q2 = 4 ∧ q2 + 8 ≤ a + 119) (bd (fX4_hasPerson N M q2 v2) (fun r4 => if r4 = 0 then bd (fX6_refuse N M a (-2)) (fun r6 => some (r6.1, r6.2)) else bd (fX6_isWithin N M v3 0 1) (fun r7 => if r7 = 0 then bd (fX6_refuse N M a (-2)) (fun r9 => some (r9.1, r9.2)) else bd (fX6_isWithin N M v4 0 99) (fun r10 => if r10 = 0 then bd (fX6_refuse N M a (-2)) (fun r19 => some (r19.1, r19.2)) else if v3 = 0 then gd v2 12 (nm (M.1 (q2 + 1) (v2 : Int32).toNatClampNeg) (fun x17 => nm (sI M (q2 + 1) (v2 : Int32).toNatClampNeg v4) (fun M18 => some (x17, M18)))) else gd v2 12 (nm (M.1 (q2 + 2) (v2 : Int32).toNatClampNeg) (fun x14 => nm (sI M (q2 + 2) (v2 : Int32).toNatClampNeg v4) (fun M15 => some (x14, M15))))))))))
def fX6_tie (N : Nat) (M : Mem) (a : Nat) (v1 : Int32) (v2 : Int32) (v3 : Int32) (v4 : Int32) : Option (Int32 × Mem) :=
  bd (fX5_streetAt N M (a + 4) v1) (fun r1 => onO r1 (bd (fX6_refuse N M a (-2)) (fun r3 => some (r3.1, r3.2))) (fun q2 => gc (kd q2 = 4 ∧ q2 + 8 ≤ a + 119) (bd (fX4_hasPair N M q2 v2 v3) (fun r4 => if r4 = 0 then bd (fX6_refuse N M a (-2)) (fun r6 => some (r6.1, r6.2)) else bd (fX6_isWithin N M v4 (-1) 9) (fun r7 => if r7 = 0 then bd (fX6_refuse N M a (-2)) (fun r13 => some (r13.1, r13.2)) else bd (fX4_priceOf N M q2 v2 v3) (fun r9 => if v4 = (-1) then bd (fX4_part N M q2 v2 v3) (fun r12 => some (r9, r12)) else bd (fX4_join N M q2 v2 v3 v4) (fun r11 => some (r9, r11))))))))
def fX6_must (N : Nat) (M : Mem) (a : Nat) (v1 : Int32) (v2 : Int32) (v3 : Int32) : Option (Int32 × Mem) :=
  bd (fX5_streetAt N M (a + 4) v1) (fun r1 => onO r1 (bd (fX6_refuse N M a (-2)) (fun r3 => some (r3.1, r3.2))) (fun q2 => gc (kd q2 = 4 ∧ q2 + 8 ≤ a + 119) (bd (fX4_hasPerson N M q2 v2) (fun r4 => if r4 = 0 then bd (fX6_refuse N M a (-2)) (fun r10 => some (r10.1, r10.2)) else bd (fX4_isMust N M q2 v2) (fun r6 => if r6 = 0 then bd (fX4_setMust N M q2 v2 v3) (fun r8 => some (0, r8)) else bd (fX4_setMust N M q2 v2 v3) (fun r9 => some (1, r9)))))))
def fX6_take (N : Nat) (M : Mem) (a : Nat) (v1 : Int32) (v2 : Int32) (v3 : Int32) : Option (Int32 × Mem) :=
  bd (fX5_streetAt N M (a + 4) v1) (fun r1 => onO r1 (bd (fX6_refuse N M a (-2)) (fun r3 => some (r3.1, r3.2))) (fun q2 => gc (kd q2 = 4 ∧ q2 + 8 ≤ a + 119) (bd (fX4_hasPerson N M q2 v2) (fun r4 => if r4 = 0 then bd (fX6_refuse N M a (-2)) (fun r19 => some (r19.1, r19.2)) else if v3 = (-1) then bd (fX4_giveWay N M q2 v2 (-1) 0) (fun r18 => some (1, r18)) else bd (fX6_shelfAt N M a v3) (fun r7 => onO r7 (bd (fX6_refuse N M a (-2)) (fun r9 => some (r9.1, r9.2))) (fun q8 => gc (kd q8 = 3 ∧ q8 + 2 ≤ a + 119) (bd (fX3_isRow N M q8) (fun r10 => if r10 = 0 then bd (fX3_isWay N M q8) (fun r12 => if r12 = 0 then bd (fX6_refuse N M a (-4)) (fun r16 => some (r16.1, r16.2)) else bd (fX3_wayKind N M q8) (fun r14 => bd (fX4_giveWay N M q2 v2 r14 (M.1 q8 3)) (fun r15 => some (1, r15)))) else bd (fX6_refuse N M a (-3)) (fun r17 => some (r17.1, r17.2))))))))))
def fX6_come (N : Nat) (M : Mem) (a : Nat) (v1 : Int32) (v2 : Int32) (v3 : Int32) (v4 : Int32) : Option (Int32 × Mem) :=
  bd (fX5_streetAt N M (a + 4) v1) (fun r1 => onO r1 (bd (fX6_refuse N M a (-2)) (fun r3 => some (r3.1, r3.2))) (fun q2 => gc (kd q2 = 4 ∧ q2 + 8 ≤ a + 119) (bd (fX4_hasSet N M q2 v2) (fun r4 => if r4 = 0 then bd (fX6_refuse N M a (-2)) (fun r6 => some (r6.1, r6.2)) else bd (fX6_isWithin N M v3 0 99) (fun r7 => if r7 = 0 then bd (fX6_refuse N M a (-2)) (fun r9 => some (r9.1, r9.2)) else bd (fX6_isWithin N M v4 0 99) (fun r10 => if r10 = 0 then bd (fX6_refuse N M a (-2)) (fun r15 => some (r15.1, r15.2)) else if (M.1 q2 7) < 12 then bd (fX4_admit N M q2 v2 v3 v4) (fun r13 => some (r13.1, r13.2)) else bd (fX6_refuse N M a (-6)) (fun r14 => some (r14.1, r14.2))))))))
def fX6_gain (N : Nat) (M : Mem) (a : Nat) (v1 : Int32) (v2 : Int32) (v3 : Int32) : Option (Int32 × Mem) :=
  bd (fX5_streetAt N M (a + 4) v1) (fun r1 => onO r1 (bd (fX6_refuse N M a (-2)) (fun r3 => some (((-1000000) + r3.1), r3.2))) (fun q2 => gc (kd q2 = 4 ∧ q2 + 8 ≤ a + 119) (bd (fX4_hasPerson N M q2 v2) (fun r4 => if r4 = 0 then bd (fX6_refuse N M a (-2)) (fun r6 => some (((-1000000) + r6.1), r6.2)) else bd (fX4_hasSet N M q2 v3) (fun r7 => if r7 = 0 then bd (fX6_refuse N M a (-2)) (fun r10 => some (((-1000000) + r10.1), r10.2)) else bd (fX4_gainOf N M q2 v2 v3) (fun r9 => some (r9, M)))))))
def fX6_streetWithSet (N : Nat) (M : Mem) (a : Nat) (v1 : Int32) (v2 : Int32) : Option (Option Nat) :=
  bd (fX5_streetAt N M (a + 4) v1) (fun r1 => onO r1 (some none) (fun q2 => gc (kd q2 = 4 ∧ q2 + 8 ≤ a + 119) (bd (fX4_hasSet N M q2 v2) (fun r3 => if r3 = 0 then some none else some (some q2)))))
def fX6_total (N : Nat) (M : Mem) (a : Nat) (v1 : Int32) (v2 : Int32) : Option (Int32 × Mem) :=
  bd (fX6_streetWithSet N M a v1 v2) (fun r1 => onO r1 (bd (fX6_refuse N M a (-2)) (fun r3 => some (((-1000000) + r3.1), r3.2))) (fun q2 => gc (kd q2 = 4 ∧ q2 + 8 ≤ a + 119) (bd (fX4_goodOf N M q2 v2) (fun r4 => some (r4, M)))))
def fX6_judge (N : Nat) (M : Mem) (a : Nat) (v1 : Int32) (v2 : Int32) : Option (Int32 × Mem) :=
  bd (fX6_streetWithSet N M a v1 v2) (fun r1 => onO r1 (bd (fX6_refuse N M a (-2)) (fun r3 => some (r3.1, r3.2))) (fun q2 => gc (kd q2 = 4 ∧ q2 + 8 ≤ a + 119) (bd (fX4_firstRestless N M q2 v2) (fun r4 => some (r4, M)))))
def fX6_count (N : Nat) (M : Mem) (a : Nat) (v1 : Int32) : Option (Int32 × Mem) :=
  bd (fX5_streetAt N M (a + 4) v1) (fun r1 => onO r1 (bd (fX6_refuse N M a (-2)) (fun r3 => some (r3.1, r3.2))) (fun q2 => gc (kd q2 = 4 ∧ q2 + 8 ≤ a + 119) (bd (fX4_rests N M q2) (fun r4 => some (r4, M)))))
def fX6_rest (N : Nat) (M : Mem) (a : Nat) (v1 : Int32) (v2 : Int32) : Option (Int32 × Mem) :=
  bd (fX5_streetAt N M (a + 4) v1) (fun r1 => onO r1 (bd (fX6_refuse N M a (-2)) (fun r3 => some (r3.1, r3.2))) (fun q2 => gc (kd q2 = 4 ∧ q2 + 8 ≤ a + 119) (if 0 ≤ v2 then bd (fX4_restNumber N M q2 v2) (fun r5 => if r5 = (-1) then bd (fX6_refuse N M a (-2)) (fun r7 => some (r7.1, r7.2)) else some (r5, M)) else bd (fX6_refuse N M a (-2)) (fun r8 => some (r8.1, r8.2)))))
def fX6_restBy (N : Nat) (M : Mem) (a : Nat) (v1 : Int32) (v2 : Int32) : Option (Int32 × Mem) :=
  bd (fX5_streetAt N M (a + 4) v1) (fun r1 => onO r1 (bd (fX6_refuse N M a (-2)) (fun r3 => some (r3.1, r3.2))) (fun q2 => gc (kd q2 = 4 ∧ q2 + 8 ≤ a + 119) (bd (fX4_choose N M q2 v2 1) (fun r4 => some (r4, M)))))
def fX6_fewest (N : Nat) (M : Mem) (a : Nat) (v1 : Int32) : Option (Int32 × Mem) :=
  bd (fX6_restBy N M a v1 0) (fun r1 => some (r1.1, r1.2))
def fX6_most (N : Nat) (M : Mem) (a : Nat) (v1 : Int32) : Option (Int32 × Mem) :=
  bd (fX6_restBy N M a v1 1) (fun r1 => some (r1.1, r1.2))
def fX6_cheap (N : Nat) (M : Mem) (a : Nat) (v1 : Int32) : Option (Int32 × Mem) :=
  bd (fX6_restBy N M a v1 2) (fun r1 => some (r1.1, r1.2))
def fX6_best (N : Nat) (M : Mem) (a : Nat) (v1 : Int32) : Option (Int32 × Mem) :=
  bd (fX6_restBy N M a v1 3) (fun r1 => some (r1.1, r1.2))
def fX6_good (N : Nat) (M : Mem) (a : Nat) (v1 : Int32) : Option (Int32 × Mem) :=
  bd (fX5_streetAt N M (a + 4) v1) (fun r1 => onO r1 (bd (fX6_refuse N M a (-2)) (fun r3 => some (r3.1, r3.2))) (fun q2 => gc (kd q2 = 4 ∧ q2 + 8 ≤ a + 119) (bd (fX4_choose N M q2 3 0) (fun r4 => some (r4, M)))))
def fX6_belowGood (N : Nat) (M : Mem) (a : Nat) (v1 : Int32) (v2 : Int32) : Option (Int32 × Mem) :=
  bd (fX5_streetAt N M (a + 4) v1) (fun r1 => onO r1 (bd (fX6_refuse N M a (-2)) (fun r3 => some (r3.1, r3.2))) (fun q2 => gc (kd q2 = 4 ∧ q2 + 8 ≤ a + 119) (bd (fX4_choose N M q2 v2 1) (fun r4 => if r4 = (-1) then some ((-1), M) else bd (fX4_choose N M q2 3 0) (fun r6 => bd (fX4_goodOf N M q2 r6) (fun r7 => bd (fX4_goodOf N M q2 r4) (fun r8 => some ((r7 - r8), M))))))))
def fX6_lost (N : Nat) (M : Mem) (a : Nat) (v1 : Int32) : Option (Int32 × Mem) :=
  bd (fX6_belowGood N M a v1 3) (fun r1 => some (r1.1, r1.2))
def fX6_beside (N : Nat) (M : Mem) (a : Nat) (v1 : Int32) : Option (Int32 × Mem) :=
  bd (fX6_belowGood N M a v1 4) (fun r1 => some (r1.1, r1.2))
def fX6_go (N : Nat) (M : Mem) (a : Nat) (v1 : Int32) (v2 : Int32) : Option (Int32 × Mem) :=
  bd (fX6_streetWithSet N M a v1 v2) (fun r1 => onO r1 (bd (fX6_refuse N M a (-2)) (fun r3 => some (r3.1, r3.2))) (fun q2 => gc (kd q2 = 4 ∧ q2 + 8 ≤ a + 119) (bd (fX0_run N M (a + 100) q2 (v2 ||| (M.1 q2 9))) (fun r4 => if (r4.1 (a + 100) 3) ≤ 0 then some ((r4.1 (a + 100) 1), r4) else bd (fX6_refuse N r4 a (-5)) (fun r6 => some (r6.1, r6.2))))))
def fX6_turns (N : Nat) (M : Mem) (a : Nat) (v1 : Int32) (v2 : Int32) : Option (Int32 × Mem) :=
  bd (fX6_streetWithSet N M a v1 v2) (fun r1 => onO r1 (bd (fX6_refuse N M a (-2)) (fun r3 => some (r3.1, r3.2))) (fun q2 => gc (kd q2 = 4 ∧ q2 + 8 ≤ a + 119) (bd (fX0_run N M (a + 100) q2 (v2 ||| (M.1 q2 9))) (fun r4 => some ((r4.1 (a + 100) 2), r4)))))
def fX6_ring (N : Nat) (M : Mem) (a : Nat) (v1 : Int32) (v2 : Int32) : Option (Int32 × Mem) :=
  bd (fX6_streetWithSet N M a v1 v2) (fun r1 => onO r1 (bd (fX6_refuse N M a (-2)) (fun r3 => some (r3.1, r3.2))) (fun q2 => gc (kd q2 = 4 ∧ q2 + 8 ≤ a + 119) (bd (fX0_run N M (a + 100) q2 (v2 ||| (M.1 q2 9))) (fun r4 => some ((r4.1 (a + 100) 3), r4)))))
def fX6_isAlike (N : Nat) (M : Mem) (v0 : Int32) (v1 : Int32) (v2 : Int32) : Option Int32 :=
  bd (fX6_isWithin N M v0 1 99) (fun r1 => if r1 = 0 then some 0 else bd (fX6_isWithin N M v1 1 99) (fun r3 => if r3 = 0 then some 0 else bd (fX6_isWithin N M v2 1 5) (fun r5 => if r5 = 0 then some 0 else some 1)))
def fX6_greatestLot_4 (N : Nat) (M : Mem) (u0 : Int32) (u1 : Int32) (u2 : Int32) : Nat → Int32 → Option Int32
  | 0, _ => none
  | n + 1, w3 => if w3 ≤ 0 then some 0 else bd (fX6_power N M (((1000 - w3) : Int32).toInt64) u2) (fun r2 => bd (fX6_power N M 1000 u2) (fun r3 => if (lg_cmp (((u1 : Int32).toInt64) * r2) (((u0 : Int32).toInt64) * r3)) < 0 then fX6_greatestLot_4 N M u0 u1 u2  n (w3 + (-1)) else some w3))
def fX6_greatestLot (N : Nat) (M : Mem) (v0 : Int32) (v1 : Int32) (v2 : Int32) : Option Int32 :=
  fX6_greatestLot_4 N M v0 v1 v2 N 1000
def fX6_lot (N : Nat) (M : Mem) (a : Nat) (v1 : Int32) (v2 : Int32) (v3 : Int32) : Option (Int32 × Mem) :=
  bd (fX6_isAlike N M v1 v2 v3) (fun r1 => if r1 = 0 then bd (fX6_refuse N M a (-2)) (fun r3 => some (r3.1, r3.2)) else bd (fX6_greatestLot N M v1 v2 v3) (fun r4 => some (r4, M)))
def fX6_nobody (N : Nat) (M : Mem) (a : Nat) (v1 : Int32) (v2 : Int32) (v3 : Int32) : Option (Int32 × Mem) :=
  bd (fX6_isAlike N M v1 v2 v3) (fun r1 => if r1 = 0 then bd (fX6_refuse N M a (-2)) (fun r9 => some (r9.1, r9.2)) else bd (fX6_greatestLot N M v1 v2 v3) (fun r3 => nm (1000 - r3) (fun x4 => bd (fX6_power N M 1000 (v3 - 1)) (fun r5 => if (lg_cmp r5 0) ≤ 0 then some (0, M) else bd (fX6_power N M ((x4 : Int32).toInt64) (v3 + 1)) (fun r7 => gc (¬ r5 = 0) (some (((r7 / r5) : Int64).toInt32, M)))))))
def fX6_know (N : Nat) (M : Mem) (a : Nat) (v1 : Int32) (v2 : Int32) : Option (Int32 × Mem) :=
  bd (fX6_isWithin N M v1 0 5) (fun r1 => if r1 = 0 then bd (fX6_refuse N M a (-2)) (fun r3 => some (r3.1, r3.2)) else bd (fX6_isWithin N M v2 0 20) (fun r4 => if r4 = 0 then bd (fX6_refuse N M a (-2)) (fun r9 => some (r9.1, r9.2)) else gd v1 6 (nm (M.1 ((a + 4) + 2) (v1 : Int32).toNatClampNeg) (fun x7 => nm (sI M ((a + 4) + 2) (v1 : Int32).toNatClampNeg v2) (fun M8 => some (x7, M8))))))
def fX6_bar_29 (N : Nat) (M : Mem) (a : Nat) (u1 : Int32) (u2 : Int32) : Nat → Int32 → Option (Int32 × Mem)
  | 0, _ => none
  | n + 1, w3 => if 6 ≤ w3 then some ((-1), M) else bd (fX5_isBarAtRest N M (a + 4) w3 u1 u2) (fun r2 => if r2 = 0 then fX6_bar_29 N M a u1 u2  n (w3 + 1) else some ((w3 + 1), M))
def fX6_bar (N : Nat) (M : Mem) (a : Nat) (v1 : Int32) (v2 : Int32) : Option (Int32 × Mem) :=
  bd (fX6_isWithin N M v1 1 99) (fun r1 => if r1 = 0 then bd (fX6_refuse N M a (-2)) (fun r3 => some (r3.1, r3.2)) else bd (fX6_isWithin N M v2 1 99) (fun r4 => if r4 = 0 then bd (fX6_refuse N M a (-2)) (fun r6 => some (r6.1, r6.2)) else fX6_bar_29 N M a v1 v2 N (-1)))
def fX6_isCut (N : Nat) (M : Mem) (a : Nat) (b1 : Nat) (v2 : Int32) (v3 : Int32) (v4 : Int32) : Option (Int32 × Mem) :=
  bd (fX4_part N M (a + 92) v2 v3) (fun r1 => bd (fX4_gainOf N r1 (a + 92) v2 v4) (fun r2 => bd (fX4_gainOf N r1 b1 v2 v4) (fun r3 => if r3 < r2 then bd (fX4_priceOf N r1 b1 v2 v3) (fun r5 => bd (fX4_join N r1 (a + 92) v2 v3 r5) (fun r6 => some (1, r6))) else bd (fX4_gainOf N r1 (a + 92) v3 v4) (fun r7 => bd (fX4_gainOf N r1 b1 v3 v4) (fun r8 => if r7 ≤ r8 then bd (fX4_priceOf N r1 b1 v2 v3) (fun r10 => bd (fX4_join N r1 (a + 92) v2 v3 r10) (fun r11 => some (0, r11))) else bd (fX4_priceOf N r1 b1 v2 v3) (fun r12 => bd (fX4_join N r1 (a + 92) v2 v3 r12) (fun r13 => some (1, r13))))))))
def fX6_pairNumber (N : Nat) (M : Mem) (v0 : Int32) (v1 : Int32) : Option Int32 :=
  some ((100 * v0) + v1)
def fX6_cuts_44 (N : Nat) (a : Nat) (q2 : Nat) (u2 : Int32) (u4 : Int32) (K91 : Mem → Option (Int32 × Mem)) : Nat → Mem → Int32 → Option (Int32 × Mem)
  | 0, _, _ => none
  | n + 1, Mw, w5 => if (Mw.1 q2 7) ≤ w5 then K91 Mw else bd (fX4_areNear N Mw q2 u4 w5) (fun r2 => if r2 = 0 then fX6_cuts_44 N a q2 u2 u4 K91 n Mw (w5 + 1) else bd (fX6_isCut N Mw a q2 u4 w5 u2) (fun r4 => if r4.1 = 0 then fX6_cuts_44 N a q2 u2 u4 K91 n r4.2 (w5 + 1) else bd (fX6_pairNumber N r4.2 u4 w5) (fun r6 => some (r6, r4.2))))
def fX6_cuts_29 (N : Nat) (a : Nat) (q2 : Nat) (u2 : Int32) : Nat → Mem → Int32 → Option (Int32 × Mem)
  | 0, _, _ => none
  | n + 1, Mw, w4 => if (Mw.1 q2 7) ≤ w4 then some ((-1), Mw) else nm (w4 + 1) (fun x2 => fX6_cuts_44 N a q2 u2 w4 (fun My44 => fX6_cuts_29 N a q2 u2  n My44 (w4 + 1)) N Mw x2)
def fX6_cuts (N : Nat) (M : Mem) (a : Nat) (v1 : Int32) (v2 : Int32) : Option (Int32 × Mem) :=
  bd (fX6_streetWithSet N M a v1 v2) (fun r1 => onO r1 (bd (fX6_refuse N M a (-2)) (fun r3 => some (r3.1, r3.2))) (fun q2 => gc (kd q2 = 4 ∧ q2 + 8 ≤ a + 119) (bd (fX4_become N M (a + 92) q2) (fun r4 => fX6_cuts_29 N a q2 v2 N r4 0))))
def fX6_isAdded (N : Nat) (M : Mem) (a : Nat) (b1 : Nat) (v2 : Int32) (v3 : Int32) (v4 : Int32) (v5 : Int32) : Option (Int32 × Mem) :=
  bd (fX4_join N M (a + 92) v2 v3 v5) (fun r1 => bd (fX4_gainOf N r1 (a + 92) v2 v4) (fun r2 => bd (fX4_gainOf N r1 b1 v2 v4) (fun r3 => if r2 ≤ r3 then bd (fX4_part N r1 (a + 92) v2 v3) (fun r5 => some (0, r5)) else bd (fX4_gainOf N r1 (a + 92) v3 v4) (fun r6 => bd (fX4_gainOf N r1 b1 v3 v4) (fun r7 => if r6 ≤ r7 then bd (fX4_part N r1 (a + 92) v2 v3) (fun r9 => some (0, r9)) else bd (fX4_part N r1 (a + 92) v2 v3) (fun r10 => some (1, r10)))))))
def fX6_adds_58 (N : Nat) (a : Nat) (q2 : Nat) (u2 : Int32) (u3 : Int32) (u5 : Int32) (K109 : Mem → Option (Int32 × Mem)) : Nat → Mem → Int32 → Option (Int32 × Mem)
  | 0, _, _ => none
  | n + 1, Mw, w6 => if (Mw.1 q2 7) ≤ w6 then K109 Mw else bd (fX4_areNear N Mw q2 u5 w6) (fun r2 => if r2 = 0 then bd (fX6_isAdded N Mw a q2 u5 w6 u2 u3) (fun r4 => if r4.1 = 0 then fX6_adds_58 N a q2 u2 u3 u5 K109 n r4.2 (w6 + 1) else bd (fX6_pairNumber N r4.2 u5 w6) (fun r6 => some (r6, r4.2))) else fX6_adds_58 N a q2 u2 u3 u5 K109 n Mw (w6 + 1))
def fX6_adds_42 (N : Nat) (a : Nat) (q2 : Nat) (u2 : Int32) (u3 : Int32) : Nat → Mem → Int32 → Option (Int32 × Mem)
  | 0, _, _ => none
  | n + 1, Mw, w5 => if (Mw.1 q2 7) ≤ w5 then some ((-1), Mw) else nm (w5 + 1) (fun x2 => fX6_adds_58 N a q2 u2 u3 w5 (fun My58 => fX6_adds_42 N a q2 u2 u3  n My58 (w5 + 1)) N Mw x2)
def fX6_adds (N : Nat) (M : Mem) (a : Nat) (v1 : Int32) (v2 : Int32) (v3 : Int32) : Option (Int32 × Mem) :=
  bd (fX6_streetWithSet N M a v1 v2) (fun r1 => onO r1 (bd (fX6_refuse N M a (-2)) (fun r3 => some (r3.1, r3.2))) (fun q2 => gc (kd q2 = 4 ∧ q2 + 8 ≤ a + 119) (bd (fX6_isWithin N M v3 0 9) (fun r4 => if r4 = 0 then bd (fX6_refuse N M a (-2)) (fun r7 => some (r7.1, r7.2)) else bd (fX4_become N M (a + 92) q2) (fun r6 => fX6_adds_42 N a q2 v2 v3 N r6 0)))))
def fX6_isLessened (N : Nat) (M : Mem) (a : Nat) (v1 : Int32) (v2 : Int32) (v3 : Int32) : Option (Int32 × Mem) :=
  bd (fX4_join N M (a + 92) v1 v2 0) (fun r1 => bd (fX4_hasRestBelow N r1 (a + 92) v3) (fun r2 => bd (fX4_part N r1 (a + 92) v1 v2) (fun r3 => gc (r2 = 0 ∨ r2 = 1) (some (r2, r3)))))
def fX6_less_71 (N : Nat) (a : Nat) (q2 : Nat) (u4 : Int32) (u5 : Int32) (K118 : Mem → Option (Int32 × Mem)) : Nat → Mem → Int32 → Option (Int32 × Mem)
  | 0, _, _ => none
  | n + 1, Mw, w6 => if (Mw.1 q2 7) ≤ w6 then K118 Mw else bd (fX4_areNear N Mw q2 u5 w6) (fun r2 => if r2 = 0 then bd (fX6_isLessened N Mw a u5 w6 u4) (fun r4 => if r4.1 = 0 then fX6_less_71 N a q2 u4 u5 K118 n r4.2 (w6 + 1) else bd (fX6_pairNumber N r4.2 u5 w6) (fun r6 => some (r6, r4.2))) else fX6_less_71 N a q2 u4 u5 K118 n Mw (w6 + 1))
def fX6_less_56 (N : Nat) (a : Nat) (q2 : Nat) (u4 : Int32) : Nat → Mem → Int32 → Option (Int32 × Mem)
  | 0, _, _ => none
  | n + 1, Mw, w5 => if (Mw.1 q2 7) ≤ w5 then some ((-1), Mw) else nm (w5 + 1) (fun x2 => fX6_less_71 N a q2 u4 w5 (fun My71 => fX6_less_56 N a q2 u4  n My71 (w5 + 1)) N Mw x2)
def fX6_less (N : Nat) (M : Mem) (a : Nat) (v1 : Int32) : Option (Int32 × Mem) :=
  bd (fX5_streetAt N M (a + 4) v1) (fun r1 => onO r1 (bd (fX6_refuse N M a (-2)) (fun r3 => some (r3.1, r3.2))) (fun q2 => gc (kd q2 = 4 ∧ q2 + 8 ≤ a + 119) (bd (fX4_choose N M q2 0 1) (fun r4 => if r4 = (-1) then bd (fX6_refuse N M a (-5)) (fun r8 => some (r8.1, r8.2)) else bd (fX4_become N M (a + 92) q2) (fun r6 => bd (fJ6_bitCount_0f7a4 N r6 r4) (fun r7 => fX6_less_56 N a q2 r7 N r6 0))))))
def fX6_need (N : Nat) (M : Mem) (a : Nat) (v1 : Int32) (v2 : Int32) (v3 : Int32) : Option (Int32 × Mem) :=
  bd (fX5_streetAt N M (a + 4) v1) (fun r1 => onO r1 (bd (fX6_refuse N M a (-2)) (fun r3 => some (r3.1, r3.2))) (fun q2 => gc (kd q2 = 4 ∧ q2 + 8 ≤ a + 119) (bd (fX4_hasPerson N M q2 v2) (fun r4 => if r4 = 0 then bd (fX6_refuse N M a (-2)) (fun r6 => some (r6.1, r6.2)) else bd (fX4_hasSet N M q2 v3) (fun r7 => if r7 = 0 then bd (fX6_refuse N M a (-2)) (fun r10 => some (r10.1, r10.2)) else bd (fX4_needOf N M q2 v2 v3) (fun r9 => some (r9, M)))))))
def fX6_pay_39 (N : Nat) (M : Mem) (a : Nat) (q2 : Nat) (u2 : Int32) : Nat → Int32 → Int32 → Option (Int32 × Mem)
  | 0, _, _ => none
  | n + 1, w4, w5 => if (M.1 q2 7) ≤ w5 then some (w4, M) else bd (fX4_needOf N M q2 w5 u2) (fun r2 => nm (w4 + r2) (fun x3 => fX6_pay_39 N M a q2 u2  n x3 (w5 + 1)))
def fX6_pay (N : Nat) (M : Mem) (a : Nat) (v1 : Int32) (v2 : Int32) : Option (Int32 × Mem) :=
  bd (fX6_streetWithSet N M a v1 v2) (fun r1 => onO r1 (bd (fX6_refuse N M a (-2)) (fun r3 => some (r3.1, r3.2))) (fun q2 => gc (kd q2 = 4 ∧ q2 + 8 ≤ a + 119) (bd (fX4_hasMustsIn N M q2 v2) (fun r4 => if r4 = 0 then bd (fX6_refuse N M a (-5)) (fun r6 => some (r6.1, r6.2)) else fX6_pay_39 N M a q2 v2 N 0 0))))
def fX6_few_39 (N : Nat) (M : Mem) (a : Nat) (q2 : Nat) (u2 : Int32) : Nat → Int32 → Int32 → Option (Int32 × Mem)
  | 0, _, _ => none
  | n + 1, w4, w5 => if (M.1 q2 7) ≤ w5 then some (w4, M) else bd (fX4_needOf N M q2 w5 u2) (fun r2 => if r2 ≤ 0 then fX6_few_39 N M a q2 u2  n w4 (w5 + 1) else fX6_few_39 N M a q2 u2  n (w4 + 1) (w5 + 1))
def fX6_few (N : Nat) (M : Mem) (a : Nat) (v1 : Int32) (v2 : Int32) : Option (Int32 × Mem) :=
  bd (fX6_streetWithSet N M a v1 v2) (fun r1 => onO r1 (bd (fX6_refuse N M a (-2)) (fun r3 => some (r3.1, r3.2))) (fun q2 => gc (kd q2 = 4 ∧ q2 + 8 ≤ a + 119) (bd (fX4_hasMustsIn N M q2 v2) (fun r4 => if r4 = 0 then bd (fX6_refuse N M a (-5)) (fun r6 => some (r6.1, r6.2)) else fX6_few_39 N M a q2 v2 N 0 0))))
def fX6_isRota_13 (N : Nat) (M : Mem) (b0 : Nat) (b1 : Nat) (u2 : Int32) : Nat → Int32 → Option Int32
  | 0, _ => none
  | n + 1, w3 => if u2 ≤ w3 then some 1 else bd (fX3_told N M b1 w3) (fun r2 => if (lg_cmp r2 0) < 0 then some 0 else bd (fX4_sets N M b0) (fun r4 => if (lg_cmp r2 ((r4 : Int32).toInt64)) < 0 then fX6_isRota_13 N M b0 b1 u2  n (w3 + 1) else some 0))
def fX6_isRota (N : Nat) (M : Mem) (b0 : Nat) (b1 : Nat) (v2 : Int32) : Option Int32 :=
  bd (fX3_hasPlaces N M b1 0 v2) (fun r1 => if r1 = 0 then some 0 else fX6_isRota_13 N M b0 b1 v2 N 0)
def fX6_gainByLeaving_6 (N : Nat) (M : Mem) (b0 : Nat) (b2 : Nat) (u1 : Int32) (u3 : Int32) : Nat → Int32 → Int32 → Option Int32
  | 0, _, _ => none
  | n + 1, w4, w5 => if u3 ≤ w5 then some w4 else bd (fX3_told N M b2 w5) (fun r2 => nm (((r2 : Int64).toInt32) ||| (M.1 b0 9)) (fun x3 => bd (fX4_gainOf N M b0 u1 (x3 &&& ((1 <<< (u1 &&& 31)) ^^^ (-1)))) (fun r4 => bd (fX4_gainOf N M b0 u1 x3) (fun r5 => nm (w4 + (r4 - r5)) (fun x6 => fX6_gainByLeaving_6 N M b0 b2 u1 u3  n x6 (w5 + 1))))))
def fX6_gainByLeaving (N : Nat) (M : Mem) (b0 : Nat) (v1 : Int32) (b2 : Nat) (v3 : Int32) : Option Int32 :=
  fX6_gainByLeaving_6 N M b0 b2 v1 v3 N 0 0
def fX6_rota_95 (N : Nat) (M : Mem) (a : Nat) (q2 : Nat) (q8 : Nat) (u3 : Int32) : Nat → Int32 → Option (Int32 × Mem)
  | 0, _ => none
  | n + 1, w6 => if (M.1 q2 7) ≤ w6 then some ((-1), M) else bd (fX4_isMust N M q2 w6) (fun r2 => if r2 = 0 then bd (fX6_gainByLeaving N M q2 w6 q8 u3) (fun r4 => if r4 ≤ 0 then fX6_rota_95 N M a q2 q8 u3  n (w6 + 1) else some (w6, M)) else fX6_rota_95 N M a q2 q8 u3  n (w6 + 1))
def fX6_rota (N : Nat) (M : Mem) (a : Nat) (v1 : Int32) (v2 : Int32) (v3 : Int32) : Option (Int32 × Mem) :=
  bd (fX5_streetAt N M (a + 4) v1) (fun r1 => onO r1 (bd (fX6_shelfAt N M a v2) (fun r3 => onO r3 (bd (fX6_refuse N M a (-2)) (fun r5 => some (r5.1, r5.2))) (fun q4 => gc (kd q4 = 3 ∧ q4 + 2 ≤ a + 119) (bd (fX6_refuse N M a (-2)) (fun r6 => some (r6.1, r6.2)))))) (fun q2 => gc (kd q2 = 4 ∧ q2 + 8 ≤ a + 119) (bd (fX6_shelfAt N M a v2) (fun r7 => onO r7 (bd (fX6_refuse N M a (-2)) (fun r9 => some (r9.1, r9.2))) (fun q8 => gc (kd q8 = 3 ∧ q8 + 2 ≤ a + 119) (bd (fX6_isWithin N M v3 1 40) (fun r10 => if r10 = 0 then bd (fX6_refuse N M a (-2)) (fun r21 => some (r21.1, r21.2)) else bd (fX3_isWay N M q8) (fun r12 => if r12 = 0 then bd (fX3_isRow N M q8) (fun r14 => if r14 = 0 then bd (fX6_refuse N M a (-4)) (fun r19 => some (r19.1, r19.2)) else bd (fX6_isRota N M q2 q8 v3) (fun r16 => if r16 = 0 then bd (fX6_refuse N M a (-2)) (fun r18 => some (r18.1, r18.2)) else fX6_rota_95 N M a q2 q8 v3 N 0)) else bd (fX6_refuse N M a (-3)) (fun r20 => some (r20.1, r20.2))))))))))
def fX6_doers_37 (N : Nat) (a : Nat) (q2 : Nat) (u2 : Int32) : Nat → Mem → Int32 → Int32 → Option (Int32 × Mem)
  | 0, _, _, _ => none
  | n + 1, Mw, w4, w5 => if (Mw.1 q2 7) ≤ w5 then some (w4, Mw) else bd (fX4_chanceOf N Mw q2 w5 u2) (fun r2 => gd w5 12 (if (Mw.1 (q2 + 4) (w5 : Int32).toNatClampNeg) = 2 then bd (fX4_isMust N Mw q2 w5) (fun r11 => if r11 = 0 then if (1 : Int32) = 0 then if r2 ≤ 0 then fX6_doers_37 N a q2 u2  n Mw w4 (w5 + 1) else nm (w4 ||| (1 <<< (w5 &&& 31))) (fun x21 => fX6_doers_37 N a q2 u2  n Mw x21 (w5 + 1)) else bd (fX5_draw N Mw (a + 4) 1000) (fun r22 => if r2 ≤ r22.1 then fX6_doers_37 N a q2 u2  n r22.2 w4 (w5 + 1) else nm (w4 ||| (1 <<< (w5 &&& 31))) (fun x24 => fX6_doers_37 N a q2 u2  n r22.2 x24 (w5 + 1))) else if (0 : Int32) = 0 then if r2 ≤ 0 then fX6_doers_37 N a q2 u2  n Mw w4 (w5 + 1) else nm (w4 ||| (1 <<< (w5 &&& 31))) (fun x15 => fX6_doers_37 N a q2 u2  n Mw x15 (w5 + 1)) else bd (fX5_draw N Mw (a + 4) 1000) (fun r16 => if r2 ≤ r16.1 then fX6_doers_37 N a q2 u2  n r16.2 w4 (w5 + 1) else nm (w4 ||| (1 <<< (w5 &&& 31))) (fun x18 => fX6_doers_37 N a q2 u2  n r16.2 x18 (w5 + 1)))) else if (0 : Int32) = 0 then if r2 ≤ 0 then fX6_doers_37 N a q2 u2  n Mw w4 (w5 + 1) else nm (w4 ||| (1 <<< (w5 &&& 31))) (fun x7 => fX6_doers_37 N a q2 u2  n Mw x7 (w5 + 1)) else bd (fX5_draw N Mw (a + 4) 1000) (fun r8 => if r2 ≤ r8.1 then fX6_doers_37 N a q2 u2  n r8.2 w4 (w5 + 1) else nm (w4 ||| (1 <<< (w5 &&& 31))) (fun x10 => fX6_doers_37 N a q2 u2  n r8.2 x10 (w5 + 1)))))
def fX6_doers (N : Nat) (M : Mem) (a : Nat) (v1 : Int32) (v2 : Int32) : Option (Int32 × Mem) :=
  bd (fX5_streetAt N M (a + 4) v1) (fun r1 => onO r1 (bd (fX6_refuse N M a (-2)) (fun r3 => some (r3.1, r3.2))) (fun q2 => gc (kd q2 = 4 ∧ q2 + 8 ≤ a + 119) (bd (fX6_isWithin N M v2 0 999) (fun r4 => if r4 = 0 then bd (fX6_refuse N M a (-2)) (fun r25 => some (r25.1, r25.2)) else fX6_doers_37 N a q2 v2 N M 0 0))))
def fX6_light_38 (N : Nat) (M : Mem) (a : Nat) (q2 : Nat) (u2 : Int32) : Nat → Int32 → Int32 → Option (Int32 × Mem)
  | 0, _, _ => none
  | n + 1, w4, w5 => if u2 < w5 then some (w4, M) else bd (fX4_lightAfter N M q2 w4 w5) (fun r2 => fX6_light_38 N M a q2 u2  n r2 (w5 + 1))
def fX6_light (N : Nat) (M : Mem) (a : Nat) (v1 : Int32) (v2 : Int32) : Option (Int32 × Mem) :=
  bd (fX5_streetAt N M (a + 4) v1) (fun r1 => onO r1 (bd (fX6_refuse N M a (-2)) (fun r3 => some (r3.1, r3.2))) (fun q2 => gc (kd q2 = 4 ∧ q2 + 8 ≤ a + 119) (bd (fX6_isWithin N M v2 1 99) (fun r4 => if r4 = 0 then bd (fX6_refuse N M a (-2)) (fun r6 => some (r6.1, r6.2)) else fX6_light_38 N M a q2 v2 N 1000000 1))))
def fX6_late_39 (N : Nat) (M : Mem) (a : Nat) (q2 : Nat) (u2 : Int32) : Nat → Int32 → Int32 → Option (Int32 × Mem)
  | 0, _, _ => none
  | n + 1, w4, w5 => if 99 < w5 then some ((-1), M) else bd (fX4_lightAfter N M q2 w4 w5) (fun r2 => if u2 < r2 then fX6_late_39 N M a q2 u2  n r2 (w5 + 1) else some (w5, M))
def fX6_late (N : Nat) (M : Mem) (a : Nat) (v1 : Int32) (v2 : Int32) : Option (Int32 × Mem) :=
  bd (fX5_streetAt N M (a + 4) v1) (fun r1 => onO r1 (bd (fX6_refuse N M a (-2)) (fun r3 => some (r3.1, r3.2))) (fun q2 => gc (kd q2 = 4 ∧ q2 + 8 ≤ a + 119) (bd (fX6_isWithin N M v2 0 1000000) (fun r4 => if r4 = 0 then bd (fX6_refuse N M a (-2)) (fun r6 => some (r6.1, r6.2)) else fX6_late_39 N M a q2 v2 N 1000000 1))))
def fX6_seed (N : Nat) (M : Mem) (a : Nat) (v1 : Int32) : Option (Int32 × Mem) :=
  nm (M.1 (a + 4) 4) (fun x1 => nm (sI M (a + 4) 4 v1) (fun M2 => some (x1, M2)))
def fX6_begin (N : Nat) (M : Mem) (a : Nat) (v1 : Int32) : Option (Int32 × Mem) :=
  bd (fX5_streetAt N M (a + 4) v1) (fun r1 => onO r1 (bd (fX6_refuse N M a (-2)) (fun r3 => some (r3.1, r3.2))) (fun q2 => gc (kd q2 = 4 ∧ q2 + 8 ≤ a + 119) (bd (fX2_start N M ((a + 4) + 3) q2 v1) (fun r4 => bd (fX4_sets N r4 q2) (fun r5 => some (r5, r4))))))
def fX6_step (N : Nat) (M : Mem) (a : Nat) (v1 : Int32) : Option (Int32 × Mem) :=
  bd (fX6_isWithin N M v1 1 999) (fun r1 => if r1 = 0 then bd (fX6_refuse N M a (-2)) (fun r9 => some (r9.1, r9.2)) else if (M.1 ((a + 4) + 3) 1) = 0 then bd (fX6_refuse N M a (-5)) (fun r4 => some (r4.1, r4.2)) else bd (fX2_isDone N M ((a + 4) + 3)) (fun r5 => if r5 = 0 then bd (fX2_advance N M ((a + 4) + 3) v1) (fun r7 => some (r7.1, r7.2)) else bd (fX6_refuse N M a (-5)) (fun r8 => some (r8.1, r8.2))))
def fX6_search (N : Nat) (M : Mem) (a : Nat) (v1 : Int32) : Option (Int32 × Mem) :=
  bd (fX6_isWithin N M v1 0 4) (fun r1 => if r1 = 0 then bd (fX6_refuse N M a (-2)) (fun r11 => some (r11.1, r11.2)) else if (M.1 ((a + 4) + 3) 1) = 0 then bd (fX6_refuse N M a (-5)) (fun r10 => some (r10.1, r10.2)) else if v1 = 0 then some ((M.1 ((a + 4) + 3) 2), M) else if v1 = 1 then some ((M.1 ((a + 4) + 3) 3), M) else if v1 = 2 then some ((M.1 ((a + 4) + 3) 4), M) else if v1 = 3 then some ((M.1 ((a + 4) + 3) 5), M) else bd (fX2_isDone N M ((a + 4) + 3)) (fun r8 => if r8 = 0 then some (0, M) else some (1, M)))
def fX6_image (N : Nat) (M : Mem) (a : Nat) : Option (Int32 × Mem) :=
  bd (fX5_become N M (a + 48) (a + 4)) (fun r1 => nm (sI r1 a 7 1) (fun M2 => some (1, M2)))
def fX6_back (N : Nat) (M : Mem) (a : Nat) : Option (Int32 × Mem) :=
  if (M.1 a 7) = 0 then bd (fX6_refuse N M a (-5)) (fun r3 => some (r3.1, r3.2)) else bd (fX5_become N M (a + 4) (a + 48)) (fun r2 => some (1, r2))
def fX6_shelvesInUse_4 (N : Nat) (M : Mem) (a : Nat) : Nat → Int32 → Int32 → Option Int32
  | 0, _, _ => none
  | n + 1, w1, w2 => if 8 ≤ w2 then some w1 else gd w2 8 (if (M.1 ((a + 1) + 102 + 2 * (w2 : Int32).toNatClampNeg) 1) = (-1) then fX6_shelvesInUse_4 N M a  n w1 (w2 + 1) else fX6_shelvesInUse_4 N M a  n (w1 + 1) (w2 + 1))
def fX6_shelvesInUse (N : Nat) (M : Mem) (a : Nat) : Option Int32 :=
  fX6_shelvesInUse_4 N M a N 0 0
def fX6_status (N : Nat) (M : Mem) (a : Nat) (v1 : Int32) : Option Int32 :=
  if v1 = 0 then some (M.1 (a + 4) 3) else if v1 = 1 then some (M.1 (a + 2) 1) else if v1 = 2 then some (M.1 (a + 4) 4) else if v1 = 3 then bd (fX6_shelvesInUse N M a) (fun r5 => some r5) else bd (fX6_isWithin N M v1 12 16) (fun r6 => if r6 = 0 then some (-1) else gd (v1 - 12) 5 (some (M.1 (a + 102) ((v1 - 12) : Int32).toNatClampNeg)))
