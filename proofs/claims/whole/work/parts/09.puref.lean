def fX7_in (S : St) (x0 : Int32) (x1 : Int32) (x2 : Int32) : Option Int32 :=
  if x0 < x1 then some (0 : Int32) else if x2 < x0 then some (0 : Int32) else some (1 : Int32)
def bX7_leavesState_109 (x1 : Int32) (S : St) (x2 : Int32) : Option (Bool × St × Int32) :=
  if (16 : Int32) ≤ x2 then some (false, S, x2) else chk x2 16 (chk ((x1 + (4 : Int32)) + x2) 408 (chk x2 16 (chk ((x1 + (20 : Int32)) + x2) 408 (chk x2 16 (chk ((x1 + (36 : Int32)) + x2) 408 (chk x2 16 (chk ((x1 + (52 : Int32)) + x2) 408 (some (true, (pR (pR (pR (pR S 6 ((x1 + (4 : Int32)) + x2) (gR S 2 x2)) 6 ((x1 + (20 : Int32)) + x2) (gR S 3 x2)) 6 ((x1 + (36 : Int32)) + x2) (gR S 4 x2)) 6 ((x1 + (52 : Int32)) + x2) (gR S 5 x2)), (x2 + (1 : Int32)))))))))))
def fX7_leavesState_49 (S : St) : Option St :=
  chk ((68 : Int32) * (gF S 8)) 408 (chk (((68 : Int32) * (gF S 8)) + (1 : Int32)) 408 (chk (((68 : Int32) * (gF S 8)) + (2 : Int32)) 408 (chk (((68 : Int32) * (gF S 8)) + (3 : Int32)) 408 (bq2 (lp (fun q => bX7_leavesState_109 ((68 : Int32) * (gF S 8)) q.1 q.2) fu ((pR (pR (pR (pR S 6 ((68 : Int32) * (gF S 8)) (gF S 1)) 6 (((68 : Int32) * (gF S 8)) + (1 : Int32)) (gF S 2)) 6 (((68 : Int32) * (gF S 8)) + (2 : Int32)) (gR S 1 (0 : Int32))) 6 (((68 : Int32) * (gF S 8)) + (3 : Int32)) (gR S 1 (1 : Int32))), (0 : Int32))) (fun S15 y2_15 => some (pF S15 8 ((gF S15 8) + (1 : Int32))))))))
def bX7_leavesState_11 (S : St) (x1 : Int32) : Option (Bool × St × Int32) :=
  if (340 : Int32) ≤ x1 then some (false, S, x1) else chk (x1 + (68 : Int32)) 408 (chk x1 408 (some (true, (pR S 6 x1 (gR S 6 (x1 + (68 : Int32)))), (x1 + (1 : Int32)))))
def fX7_leavesState (S : St) : Option St :=
  if (gF S 8) = (6 : Int32) then bq2 (lp (fun q => bX7_leavesState_11 q.1 q.2) fu (S, (0 : Int32))) (fun S19 y1_19 => fX7_leavesState_49 (pF S19 8 ((gF S19 8) - (1 : Int32)))) else fX7_leavesState_49 S
def fX7_bad (S : St) : Option (Int32 × St) :=
  some ((-2 : Int32), (pR S 0 (0 : Int32) ((gR S 0 (0 : Int32)) + (1 : Int32))))
def fX7_sides (S : St) (x1 : Int32) : Option (Int32 × St) :=
  bq1 (fX7_in S x1 (1 : Int32) (4 : Int32)) (fun r1 => if r1 = (0 : Int32) then bq2 (fX7_bad S) (fun r4 S4 => some (r4, S4)) else bq1 (fX7_leavesState S) (fun S3 => some ((gF S3 1), (pF (pF S3 1 x1) 2 (0 : Int32)))))
def fX7_corners (S : St) : Option Int32 :=
  some ((1 : Int32) <<< ((gF S 1) &&& (31 : Int32)))
def fX7_isCorner (S : St) (x1 : Int32) : Option Int32 :=
  bq1 (fX7_corners S) (fun r1 => bq1 (fX7_in S x1 (0 : Int32) (r1 - (1 : Int32))) (fun r2 => zb r2 (some r2)))
def fX7_isRank (S : St) (x0 : Int32) : Option Int32 :=
  bq1 (fX7_in S x0 (0 : Int32) (99 : Int32)) (fun r1 => zb r1 (some r1))
def fX7_comes (S : St) (x1 : Int32) (x2 : Int32) (x3 : Int32) (x4 : Int32) : Option St :=
  chk (gF S 2) 16 (chk (gF S 2) 16 (chk (gF S 2) 16 (chk (gF S 2) 16 (some (pF (pR (pR (pR (pR S 2 (gF S 2) x1) 3 (gF S 2) x2) 4 (gF S 2) x3) 5 (gF S 2) x4) 2 ((gF S 2) + (1 : Int32)))))))
def fX7_full (S : St) : Option (Int32 × St) :=
  some ((-4 : Int32), (pR S 0 (2 : Int32) ((gR S 0 (2 : Int32)) + (1 : Int32))))
def fX7_parcel_32 (S : St) : Option (Int32 × St) :=
  bq2 (fX7_bad S) (fun r3 S3 => some (r3, S3))
def fX7_parcel (S : St) (x1 : Int32) (x2 : Int32) (x3 : Int32) (x4 : Int32) : Option (Int32 × St) :=
  bq1 (fX7_isCorner S x1) (fun r1 => if r1 = (0 : Int32) then fX7_parcel_32 S else bq1 (fX7_isCorner S x2) (fun r4 => if r4 = (0 : Int32) then fX7_parcel_32 S else bq1 (fX7_isCorner S x3) (fun r6 => if r6 = (0 : Int32) then fX7_parcel_32 S else bq1 (fX7_isRank S x4) (fun r8 => if r8 = (0 : Int32) then fX7_parcel_32 S else if (gF S 2) = (16 : Int32) then bq2 (fX7_full S) (fun r13 S13 => some (r13, S13)) else bq1 (fX7_leavesState S) (fun S11 => bq1 (fX7_comes S11 x1 x2 x3 x4) (fun S12 => some (((gF S12 2) - (1 : Int32)), S12)))))))
def fX7_isParcel (S : St) (x1 : Int32) : Option Int32 :=
  bq1 (fX7_in S x1 (0 : Int32) ((gF S 2) - (1 : Int32))) (fun r1 => zb r1 (some r1))
def fX7_tells (S : St) (x1 : Int32) (x2 : Int32) : Option Int32 :=
  if x2 = (0 : Int32) then chk x1 16 (some (gR S 2 x1)) else if x2 = (1 : Int32) then chk x1 16 (some (gR S 3 x1)) else if x2 = (2 : Int32) then chk x1 16 (some (gR S 4 x1)) else chk x1 16 (some (gR S 5 x1))
def fX7_sets_40 (S : St) : Option (Int32 × St) :=
  bq2 (fX7_bad S) (fun r3 S3 => some (r3, S3))
def fX7_sets_118 (S : St) (x1 : Int32) (x2 : Int32) (x3 : Int32) (x4 : Int32) (s0 : Int32) (s1 : Int32) : Option (Int32 × St) :=
  chk s1 16 (if x2 = (3 : Int32) then chk x1 16 (some (x4, (pR (pR S 4 s1 s0) 5 x1 x3))) else chk x1 16 (chk x1 16 (some (x4, (pR (pR S 4 s1 s0) 5 x1 (gR S 5 x1))))))
def fX7_sets_97 (S : St) (x1 : Int32) (x2 : Int32) (x3 : Int32) (x4 : Int32) (s0 : Int32) (s1 : Int32) : Option (Int32 × St) :=
  chk s1 16 (if x2 = (2 : Int32) then fX7_sets_118 (pR S 3 s1 s0) x1 x2 x3 x4 x3 x1 else chk x1 16 (fX7_sets_118 (pR S 3 s1 s0) x1 x2 x3 x4 (gR S 4 x1) x1))
def fX7_sets_76 (S : St) (x1 : Int32) (x2 : Int32) (x3 : Int32) (x4 : Int32) (s0 : Int32) (s1 : Int32) : Option (Int32 × St) :=
  chk s1 16 (if x2 = (1 : Int32) then fX7_sets_97 (pR S 2 s1 s0) x1 x2 x3 x4 x3 x1 else chk x1 16 (fX7_sets_97 (pR S 2 s1 s0) x1 x2 x3 x4 (gR S 3 x1) x1))
def fX7_sets_45 (S : St) (x1 : Int32) (x2 : Int32) (x3 : Int32) : Option (Int32 × St) :=
  bq1 (fX7_leavesState S) (fun S9 => bq1 (fX7_tells S9 x1 x2) (fun r10 => if x2 = (0 : Int32) then fX7_sets_76 S9 x1 x2 x3 r10 x3 x1 else chk x1 16 (fX7_sets_76 S9 x1 x2 x3 r10 (gR S9 2 x1) x1)))
def fX7_sets (S : St) (x1 : Int32) (x2 : Int32) (x3 : Int32) : Option (Int32 × St) :=
  bq1 (fX7_isParcel S x1) (fun r1 => if r1 = (0 : Int32) then fX7_sets_40 S else bq1 (fX7_in S x2 (0 : Int32) (3 : Int32)) (fun r4 => if r4 = (0 : Int32) then fX7_sets_40 S else if x2 = (3 : Int32) then bq1 (fX7_isRank S x3) (fun r24 => if r24 = (0 : Int32) then fX7_sets_40 S else fX7_sets_45 S x1 x2 x3) else bq1 (fX7_isCorner S x3) (fun r7 => if r7 = (0 : Int32) then fX7_sets_40 S else fX7_sets_45 S x1 x2 x3)))
def fX7_rules_26 (S : St) : Option (Int32 × St) :=
  bq2 (fX7_bad S) (fun r3 S3 => some (r3, S3))
def fX7_rules_20 (S : St) (x1 : Int32) (x2 : Int32) (s0 : Int32) (s1 : Int32) (s2 : Int32) : Option (Int32 × St) :=
  bq1 (fX7_in S s2 s1 s0) (fun r5 => if r5 = (0 : Int32) then fX7_rules_26 S else bq1 (fX7_leavesState S) (fun S7 => chk x1 2 (chk x1 2 (some ((gR S7 1 x1), (pR S7 1 x1 x2))))))
def fX7_rules (S : St) (x1 : Int32) (x2 : Int32) : Option (Int32 × St) :=
  bq1 (fX7_in S x1 (0 : Int32) (1 : Int32)) (fun r1 => if r1 = (0 : Int32) then fX7_rules_26 S else if x1 = (0 : Int32) then fX7_rules_20 S x1 x2 (1 : Int32) (0 : Int32) x2 else fX7_rules_20 S x1 x2 (3 : Int32) (0 : Int32) x2)
def fX7_empties (S : St) : Option (Int32 × St) :=
  bq1 (fX7_leavesState S) (fun S1 => some ((gF S1 2), (pF S1 2 (0 : Int32))))
def bX7_turned_4 (S : St) (x1 : Int32) (x2 : Int32) (x3 : Int32) : Option (Bool × Int32 × Int32) :=
  if (gF S 1) ≤ x3 then some (false, x2, x3) else some (true, (x2 ||| (((x1 >>> (x3 &&& (31 : Int32))) &&& (1 : Int32)) <<< ((((gF S 1) - (1 : Int32)) - x3) &&& (31 : Int32)))), (x3 + (1 : Int32)))
def fX7_turned (S : St) (x1 : Int32) : Option Int32 :=
  bq2 (lp (fun q => bX7_turned_4 S x1 q.1 q.2) fu ((0 : Int32), (0 : Int32))) (fun y2_2 y3_2 => some y2_2)
def fX7_fills_19 (S : St) : Option (Int32 × St) :=
  bq2 (fX7_bad S) (fun r3 S3 => some (r3, S3))
def fX7_fills_118 (S : St) (x3 : Int32) (x4 : Int64) (x6 : Int32) (s0 : Int32) : Option (Bool × St × Int64 × Int32) :=
  nzl (Int32.toInt64 x3) (bq1 (fX7_comes S x6 s0 (Int64.toInt32 ((x4 / (65536 : Int64)) - (x4 / (65536 : Int64)) / (Int32.toInt64 x3) * (Int32.toInt64 x3))) (Int64.toInt32 ((x4 / (1024 : Int64)) - (x4 / (1024 : Int64)) / (100 : Int64) * (100 : Int64)))) (fun S14 => some (true, S14, x4, (x6 + (1 : Int32)))))
def bX7_fills_45 (x1 : Int32) (x3 : Int32) (S : St) (x4 : Int64) (x6 : Int32) : Option (Bool × St × Int64 × Int32) :=
  if x3 ≤ x6 then some (false, S, x4, x6) else if x1 = (0 : Int32) then fX7_fills_118 S x3 (((x4 * (1103515245 : Int64)) + (12345 : Int64)) - ((x4 * (1103515245 : Int64)) + (12345 : Int64)) / (2147483648 : Int64) * (2147483648 : Int64)) x6 ((x3 - (1 : Int32)) - x6) else if x1 = (1 : Int32) then bq1 (fX7_turned S x6) (fun r16 => fX7_fills_118 S x3 (((x4 * (1103515245 : Int64)) + (12345 : Int64)) - ((x4 * (1103515245 : Int64)) + (12345 : Int64)) / (2147483648 : Int64) * (2147483648 : Int64)) x6 r16) else if x1 = (2 : Int32) then nz x3 (fX7_fills_118 S x3 (((x4 * (1103515245 : Int64)) + (12345 : Int64)) - ((x4 * (1103515245 : Int64)) + (12345 : Int64)) / (2147483648 : Int64) * (2147483648 : Int64)) x6 ((x6 + (1 : Int32)) - (x6 + (1 : Int32)) / x3 * x3)) else nzl (Int32.toInt64 x3) (fX7_fills_118 S x3 (((x4 * (1103515245 : Int64)) + (12345 : Int64)) - ((x4 * (1103515245 : Int64)) + (12345 : Int64)) / (2147483648 : Int64) * (2147483648 : Int64)) x6 (Int64.toInt32 (((((x4 * (1103515245 : Int64)) + (12345 : Int64)) - ((x4 * (1103515245 : Int64)) + (12345 : Int64)) / (2147483648 : Int64) * (2147483648 : Int64)) / (32768 : Int64)) - ((((x4 * (1103515245 : Int64)) + (12345 : Int64)) - ((x4 * (1103515245 : Int64)) + (12345 : Int64)) / (2147483648 : Int64) * (2147483648 : Int64)) / (32768 : Int64)) / (Int32.toInt64 x3) * (Int32.toInt64 x3))))
def fX7_fills (S : St) (x1 : Int32) (x2 : Int32) : Option (Int32 × St) :=
  bq1 (fX7_in S x1 (0 : Int32) (3 : Int32)) (fun r1 => if r1 = (0 : Int32) then fX7_fills_19 S else bq1 (fX7_in S x2 (0 : Int32) (999999 : Int32)) (fun r4 => if r4 = (0 : Int32) then fX7_fills_19 S else bq1 (fX7_leavesState S) (fun S6 => bq1 (fX7_corners S6) (fun r7 => bq3 (lp (fun q => bX7_fills_45 x1 r7 q.1 q.2.1 q.2.2) fu ((pF S6 2 (0 : Int32)), (Int32.toInt64 x2), (0 : Int32))) (fun S17 y4_17 y6_17 => some ((gF S17 2), S17))))))
def fX7_comesLeg_38 (S : St) (x1 : Int32) (x3 : Int32) (x4 : Int32) (x5 : Int32) (s0 : Int32) : Option (Bool × St × Int32 × Int32) :=
  if (((x4 ^^^ x3) >>> (s0 &&& (31 : Int32))) &&& (1 : Int32)) = (1 : Int32) then chk x1 16 (chk x1 16 (chk x1 16 (chk (((9 : Int32) * x1) + (gR (pR S 7 x1 ((gR S 7 x1) + (1 : Int32))) 7 x1)) 144 (some (true, (pR (pR S 7 x1 ((gR S 7 x1) + (1 : Int32))) 9 (((9 : Int32) * x1) + (gR (pR S 7 x1 ((gR S 7 x1) + (1 : Int32))) 7 x1)) (x4 ^^^ ((1 : Int32) <<< (s0 &&& (31 : Int32))))), (x4 ^^^ ((1 : Int32) <<< (s0 &&& (31 : Int32)))), (x5 + (1 : Int32))))))) else some (true, S, x4, (x5 + (1 : Int32)))
def bX7_comesLeg_6 (x1 : Int32) (x3 : Int32) (S : St) (x4 : Int32) (x5 : Int32) : Option (Bool × St × Int32 × Int32) :=
  if (gF S 1) ≤ x5 then some (false, S, x4, x5) else if (gR S 1 (0 : Int32)) = (0 : Int32) then fX7_comesLeg_38 S x1 x3 x4 x5 x5 else fX7_comesLeg_38 S x1 x3 x4 x5 (((gF S 1) - (1 : Int32)) - x5)
def fX7_comesLeg (S : St) (x1 : Int32) (x2 : Int32) (x3 : Int32) : Option St :=
  bq3 (lp (fun q => bX7_comesLeg_6 x1 x3 q.1 q.2.1 q.2.2) fu (S, x2, (0 : Int32))) (fun S8 y4_8 y5_8 => some S8)
def fX7_setWay (S : St) (x1 : Int32) (x2 : Int32) : Option St :=
  chk x1 16 (chk x1 16 (chk ((9 : Int32) * x1) 144 (chk x1 16 (bq1 (fX7_comesLeg (pR (pR S 7 x1 (0 : Int32)) 9 ((9 : Int32) * x1) (gR S 2 x1)) x1 (gR S 2 x1) x2) (fun S5 => chk x1 16 (chk x1 16 (chk x1 16 (bq1 (fX7_comesLeg (pR S5 8 x1 (gR S5 7 x1)) x1 x2 (gR S5 3 x1)) (fun S9 => some S9)))))))))
def bX7_setWays_2 (S : St) (x1 : Int32) : Option (Bool × St × Int32) :=
  if (gF S 2) ≤ x1 then some (false, S, x1) else chk x1 16 (bq1 (fX7_setWay S x1 (gR S 4 x1)) (fun S3 => some (true, S3, (x1 + (1 : Int32)))))
def fX7_setWays (S : St) : Option St :=
  bq2 (lp (fun q => bX7_setWays_2 q.1 q.2) fu (S, (0 : Int32))) (fun S4 y1_4 => some S4)
def fX7_edgeOf (S : St) (x1 : Int32) (x2 : Int32) : Option Int32 :=
  chk (((9 : Int32) * x1) + x2) 144 (chk ((((9 : Int32) * x1) + x2) + (1 : Int32)) 144 (if ((gR S 9 (((9 : Int32) * x1) + x2)) ^^^ (gR S 9 ((((9 : Int32) * x1) + x2) + (1 : Int32)))) = (1 : Int32) then some (((4 : Int32) * (gR S 9 (((9 : Int32) * x1) + x2))) + (0 : Int32)) else if ((gR S 9 (((9 : Int32) * x1) + x2)) ^^^ (gR S 9 ((((9 : Int32) * x1) + x2) + (1 : Int32)))) = (2 : Int32) then some (((4 : Int32) * (gR S 9 (((9 : Int32) * x1) + x2))) + (1 : Int32)) else if ((gR S 9 (((9 : Int32) * x1) + x2)) ^^^ (gR S 9 ((((9 : Int32) * x1) + x2) + (1 : Int32)))) = (4 : Int32) then some (((4 : Int32) * (gR S 9 (((9 : Int32) * x1) + x2))) + (2 : Int32)) else some (((4 : Int32) * (gR S 9 (((9 : Int32) * x1) + x2))) + (3 : Int32))))
def bX7_uses_5 (S : St) (x1 : Int32) (x2 : Int32) (x3 : Int32) (x4 : Int32) : Option (Bool × Int32 × Int32) :=
  chk x1 16 (if (gR S 7 x1) ≤ x4 then some (false, x3, x4) else if x3 = (0 : Int32) then bq1 (fX7_edgeOf S x1 x4) (fun r4 => if r4 = x2 then some (true, (1 : Int32), (x4 + (1 : Int32))) else some (true, (0 : Int32), (x4 + (1 : Int32)))) else some (true, (1 : Int32), (x4 + (1 : Int32))))
def fX7_uses (S : St) (x1 : Int32) (x2 : Int32) : Option Int32 :=
  bq2 (lp (fun q => bX7_uses_5 S x1 x2 q.1 q.2) fu ((0 : Int32), (0 : Int32))) (fun y3_6 y4_6 => zb y3_6 (some y3_6))
def bX7_metBy_18 (S : St) (x1 : Int32) (x3 : Int32) (x4 : Int32) (x5 : Int32) : Option (Bool × Int32 × Int32) :=
  chk x1 16 (if (gR S 7 x1) ≤ x5 then some (false, x4, x5) else if x4 = (0 : Int32) then bq1 (fX7_edgeOf S x1 x5) (fun r5 => bq1 (fX7_uses S x3 r5) (fun r6 => if r6 = (0 : Int32) then some (true, (0 : Int32), (x5 + (1 : Int32))) else some (true, (1 : Int32), (x5 + (1 : Int32))))) else some (true, (1 : Int32), (x5 + (1 : Int32))))
def bX7_metBy_4 (S : St) (x1 : Int32) (x2 : Int32) (x3 : Int32) : Option (Bool × Int32 × Int32) :=
  if (gF S 2) ≤ x3 then some (false, x2, x3) else bq2 (lp (fun q => bX7_metBy_18 S x1 x3 q.1 q.2) fu ((0 : Int32), (0 : Int32))) (fun y4_8 y5_8 => if y4_8 = (0 : Int32) then some (true, (x2 + (0 : Int32)), (x3 + (1 : Int32))) else if x3 = x1 then some (true, (x2 + (0 : Int32)), (x3 + (1 : Int32))) else some (true, (x2 + (1 : Int32)), (x3 + (1 : Int32))))
def fX7_metBy (S : St) (x1 : Int32) : Option Int32 :=
  bq2 (lp (fun q => bX7_metBy_4 S x1 q.1 q.2) fu ((0 : Int32), (0 : Int32))) (fun y2_11 y3_11 => some y2_11)
def fX7_ofBy (S : St) (x1 : Int32) (x2 : Int32) : Option (Int32 × St) :=
  if (4 : Int32) ≤ x2 then bq1 (fX7_setWays S) (fun S2 => if x2 = (4 : Int32) then chk x1 16 (some ((gR S2 7 x1), S2)) else bq1 (fX7_metBy S2 x1) (fun r4 => some (r4, S2))) else bq1 (fX7_tells S x1 x2) (fun r6 => some (r6, S))
def fX7_of_26 (S : St) : Option (Int32 × St) :=
  bq2 (fX7_bad S) (fun r3 S3 => some (r3, S3))
def fX7_of (S : St) (x1 : Int32) (x2 : Int32) : Option (Int32 × St) :=
  bq1 (fX7_isParcel S x1) (fun r1 => if r1 = (0 : Int32) then fX7_of_26 S else bq1 (fX7_in S x2 (0 : Int32) (5 : Int32)) (fun r4 => if r4 = (0 : Int32) then fX7_of_26 S else bq2 (fX7_ofBy S x1 x2) (fun r6 S6 => some (r6, S6))))
def fX7_step_12 (S : St) : Option (Int32 × St) :=
  bq2 (fX7_bad S) (fun r3 S3 => some (r3, S3))
def fX7_step (S : St) (x1 : Int32) (x2 : Int32) : Option (Int32 × St) :=
  bq1 (fX7_isParcel S x1) (fun r1 => if r1 = (0 : Int32) then fX7_step_12 S else if (0 : Int32) ≤ x2 then bq1 (fX7_setWays S) (fun S5 => chk x1 16 (if (gR S5 7 x1) < x2 then some ((-5 : Int32), S5) else chk (((9 : Int32) * x1) + x2) 144 (some ((gR S5 9 (((9 : Int32) * x1) + x2)), S5)))) else fX7_step_12 S)
def fX7_isEdge (S : St) (x1 : Int32) (x2 : Int32) : Option Int32 :=
  bq1 (fX7_isCorner S x1) (fun r1 => if r1 = (0 : Int32) then some (0 : Int32) else bq1 (fX7_in S x2 (0 : Int32) ((gF S 1) - (1 : Int32))) (fun r3 => if r3 = (0 : Int32) then some (0 : Int32) else some (1 : Int32)))
def bX7_noLoads_2 (S : St) (x1 : Int32) : Option (Bool × St × Int32) :=
  if (64 : Int32) ≤ x1 then some (false, S, x1) else chk x1 64 (some (true, (pR S 10 x1 (0 : Int32)), (x1 + (1 : Int32))))
def fX7_noLoads (S : St) : Option St :=
  bq2 (lp (fun q => bX7_noLoads_2 q.1 q.2) fu (S, (0 : Int32))) (fun S3 y1_3 => some S3)
def bX7_loadsBy_2 (x1 : Int32) (x2 : Int32) (S : St) (x3 : Int32) : Option (Bool × St × Int32) :=
  chk x1 16 (if (gR S 7 x1) ≤ x3 then some (false, S, x3) else bq1 (fX7_edgeOf S x1 x3) (fun r3 => chk r3 64 (chk r3 64 (some (true, (pR S 10 r3 ((gR S 10 r3) + x2)), (x3 + (1 : Int32)))))))
def fX7_loadsBy (S : St) (x1 : Int32) (x2 : Int32) : Option St :=
  bq2 (lp (fun q => bX7_loadsBy_2 x1 x2 q.1 q.2) fu (S, (0 : Int32))) (fun S6 y3_6 => some S6)
def bX7_setLoads_10 (S : St) (x1 : Int32) : Option (Bool × St × Int32) :=
  if (gF S 2) ≤ x1 then some (false, S, x1) else bq1 (fX7_loadsBy S x1 (1 : Int32)) (fun S4 => some (true, S4, (x1 + (1 : Int32))))
def fX7_setLoads (S : St) : Option St :=
  bq1 (fX7_setWays S) (fun S1 => bq1 (fX7_noLoads S1) (fun S2 => bq2 (lp (fun q => bX7_setLoads_10 q.1 q.2) fu (S2, (0 : Int32))) (fun S5 y1_5 => some S5)))
def fX7_load (S : St) (x1 : Int32) (x2 : Int32) : Option (Int32 × St) :=
  bq1 (fX7_isEdge S x1 x2) (fun r1 => if r1 = (0 : Int32) then bq2 (fX7_bad S) (fun r5 S5 => some (r5, S5)) else bq1 (fX7_setLoads S) (fun S3 => chk (((4 : Int32) * x1) + x2) 64 (some ((gR S3 10 (((4 : Int32) * x1) + x2)), S3))))
def bX7_most_4 (S : St) (x1 : Int32) (x2 : Int32) : Option (Bool × Int32 × Int32) :=
  if (64 : Int32) ≤ x2 then some (false, x1, x2) else chk x2 64 (if (gR S 10 x2) ≤ x1 then some (true, x1, (x2 + (1 : Int32))) else chk x2 64 (some (true, (gR S 10 x2), (x2 + (1 : Int32)))))
def fX7_most (S : St) : Option Int32 :=
  bq2 (lp (fun q => bX7_most_4 S q.1 q.2) fu ((0 : Int32), (0 : Int32))) (fun y1_5 y2_5 => some y1_5)
def bX7_firstOf_5 (S : St) (x1 : Int32) (x2 : Int32) (x3 : Int32) : Option (Bool × Int32 × Int32) :=
  if x3 < (0 : Int32) then some (false, x2, x3) else bq1 (fX7_isEdge S (x3 / (4 : Int32)) (x3 - x3 / (4 : Int32) * (4 : Int32))) (fun r2 => if r2 = (0 : Int32) then some (true, x2, (x3 + (-1 : Int32))) else chk x3 64 (if (gR S 10 x3) = x1 then some (true, x3, (x3 + (-1 : Int32))) else some (true, x2, (x3 + (-1 : Int32)))))
def fX7_firstOf (S : St) (x1 : Int32) : Option Int32 :=
  bq2 (lp (fun q => bX7_firstOf_5 S x1 q.1 q.2) fu ((-1 : Int32), (63 : Int32))) (fun y2_6 y3_6 => some y2_6)
def fX7_tenTimes (S : St) (x0 : Int32) : Option Int32 :=
  if x0 = (-1 : Int32) then some (-1 : Int32) else some (((10 : Int32) * (x0 / (4 : Int32))) + (x0 - x0 / (4 : Int32) * (4 : Int32)))
def fX7_loadsTell_56 (S : St) (x4 : Int32) (x5 : Int32) (s0 : Int32) (s1 : Int32) : Option (Bool × Int32 × Int32 × Int32) :=
  chk x5 64 (if (gR S 10 x5) ≤ (0 : Int32) then some (true, (s1 + s0), (x4 + (0 : Int32)), (x5 + (1 : Int32))) else some (true, (s1 + s0), (x4 + (1 : Int32)), (x5 + (1 : Int32))))
def fX7_loadsTell_55 (S : St) (x4 : Int32) (x5 : Int32) (s0 : Int32) : Option (Bool × Int32 × Int32 × Int32) :=
  fX7_loadsTell_56 S x4 x5 (0 : Int32) s0
def bX7_loadsTell_17 (S : St) (x2 : Int32) (x3 : Int32) (x4 : Int32) (x5 : Int32) : Option (Bool × Int32 × Int32 × Int32) :=
  if (64 : Int32) ≤ x5 then some (false, x3, x4, x5) else bq1 (fX7_isEdge S (x5 / (4 : Int32)) (x5 - x5 / (4 : Int32) * (4 : Int32))) (fun r4 => if r4 = (0 : Int32) then fX7_loadsTell_55 S x4 x5 x3 else chk x5 64 (if (gR S 10 x5) = x2 then fX7_loadsTell_56 S x4 x5 (1 : Int32) x3 else fX7_loadsTell_55 S x4 x5 x3))
def fX7_loadsTell (S : St) (x1 : Int32) : Option (Int32 × St) :=
  bq1 (fX7_setLoads S) (fun S1 => bq1 (fX7_most S1) (fun r2 => bq3 (lp (fun q => bX7_loadsTell_17 S1 r2 q.1 q.2.1 q.2.2) fu ((0 : Int32), (0 : Int32), (0 : Int32))) (fun y3_10 y4_10 y5_10 => if x1 = (0 : Int32) then some (r2, S1) else if x1 = (1 : Int32) then some (y3_10, S1) else if x1 = (2 : Int32) then some (y4_10, S1) else if r2 = (0 : Int32) then some ((-1 : Int32), S1) else bq1 (fX7_firstOf S1 r2) (fun r15 => bq1 (fX7_tenTimes S1 r15) (fun r16 => some (r16, S1))))))
def fX7_loads (S : St) (x1 : Int32) : Option (Int32 × St) :=
  bq1 (fX7_in S x1 (0 : Int32) (3 : Int32)) (fun r1 => if r1 = (0 : Int32) then bq2 (fX7_bad S) (fun r3 S3 => some (r3, S3)) else bq2 (fX7_loadsTell S x1) (fun r4 S4 => some (r4, S4)))
def bX7_addsDrawn_2 (x1 : Int32) (S : St) (x2 : Int32) : Option (Bool × St × Int32) :=
  bq1 (fX7_corners S) (fun r1 => if r1 ≤ x2 then some (false, S, x2) else bq1 (fX7_setWay S x1 x2) (fun S3 => bq1 (fX7_loadsBy S3 x1 (1 : Int32)) (fun S4 => some (true, S4, (x2 + (1 : Int32))))))
def fX7_addsDrawn (S : St) (x1 : Int32) : Option St :=
  bq2 (lp (fun q => bX7_addsDrawn_2 x1 q.1 q.2) fu (S, (0 : Int32))) (fun S5 y2_5 => chk x1 16 (bq1 (fX7_setWay S5 x1 (gR S5 4 x1)) (fun S7 => some S7)))
def bX7_setExpected_10 (x1 : Int32) (S : St) (x2 : Int32) : Option (Bool × St × Int32) :=
  if (gF S 2) ≤ x2 then some (false, S, x2) else if x1 ≤ x2 then bq1 (fX7_addsDrawn S x2) (fun S5 => some (true, S5, (x2 + (1 : Int32)))) else bq1 (fX7_corners S) (fun r6 => bq1 (fX7_loadsBy S x2 r6) (fun S7 => some (true, S7, (x2 + (1 : Int32)))))
def fX7_setExpected (S : St) (x1 : Int32) : Option St :=
  bq1 (fX7_setWays S) (fun S1 => bq1 (fX7_noLoads S1) (fun S2 => bq2 (lp (fun q => bX7_setExpected_10 x1 q.1 q.2) fu (S2, (0 : Int32))) (fun S8 y2_8 => some S8)))
def bX7_tellsPart_7 (x2 : Int32) (x3 : Int32) : Option (Bool × Int32 × Int32) :=
  if x3 = (0 : Int32) then some (false, x2, x3) else nz x3 (some (true, x3, (x2 - x2 / x3 * x3)))
def fX7_tellsPart (S : St) (x1 : Int32) : Option St :=
  bq1 (fX7_corners S) (fun r1 => bq2 (lp (fun q => bX7_tellsPart_7 q.1 q.2) fu (x1, r1)) (fun y2_4 y3_4 => nz y2_4 (bq1 (fX7_corners (pF S 14 (x1 / y2_4))) (fun r6 => nz y2_4 (some (pF (pF S 14 (x1 / y2_4)) 15 (r6 / y2_4)))))))
def fX7_expected_19 (S : St) : Option (Int32 × St) :=
  bq2 (fX7_bad S) (fun r3 S3 => some (r3, S3))
def fX7_expected (S : St) (x1 : Int32) (x2 : Int32) (x3 : Int32) : Option (Int32 × St) :=
  bq1 (fX7_isEdge S x1 x2) (fun r1 => if r1 = (0 : Int32) then fX7_expected_19 S else bq1 (fX7_in S x3 (0 : Int32) (16 : Int32)) (fun r4 => if r4 = (0 : Int32) then fX7_expected_19 S else bq1 (fX7_setExpected S x3) (fun S6 => chk (((4 : Int32) * x1) + x2) 64 (bq1 (fX7_tellsPart S6 (gR S6 10 (((4 : Int32) * x1) + x2))) (fun S8 => some ((1 : Int32), S8))))))
def fX7_part (S : St) (x1 : Int32) : Option (Int32 × St) :=
  bq1 (fX7_in S x1 (0 : Int32) (1 : Int32)) (fun r1 => if r1 = (0 : Int32) then bq2 (fX7_bad S) (fun r4 S4 => some (r4, S4)) else if x1 = (0 : Int32) then some ((gF S 14), S) else some ((gF S 15), S))
def fX7_no (S : St) : Option (Int32 × St) :=
  some ((-3 : Int32), (pR S 0 (1 : Int32) ((gR S 0 (1 : Int32)) + (1 : Int32))))
def fX7_greatest (S : St) : Option (Int32 × St) :=
  if (gF S 2) = (0 : Int32) then bq2 (fX7_no S) (fun r7 S7 => some (r7, S7)) else bq1 (fX7_setExpected S (0 : Int32)) (fun S2 => bq1 (fX7_most S2) (fun r3 => bq1 (fX7_tellsPart S2 r3) (fun S4 => bq1 (fX7_firstOf S4 r3) (fun r5 => bq1 (fX7_tenTimes S4 r5) (fun r6 => some (r6, S4))))))
def bX7_squares_4 (S : St) (x1 : Int64) (x3 : Int32) : Option (Bool × Int64 × Int32) :=
  if (64 : Int32) ≤ x3 then some (false, x1, x3) else chk x3 64 (chk x3 64 (some (true, (x1 + ((Int32.toInt64 (gR S 10 x3)) * (Int32.toInt64 (gR S 10 x3)))), (x3 + (1 : Int32)))))
def fX7_squares (S : St) : Option Int64 :=
  bq2 (lp (fun q => bX7_squares_4 S q.1 q.2) fu ((0 : Int64), (0 : Int32))) (fun y1_4 y3_4 => some y1_4)
def fX7_choosesFor_71 (S : St) (x6 : Int32) (x7 : Int32) (x8 : Int64) : Option (Bool × St × Int32 × Int32 × Int64 × Int32) :=
  some (true, S, x6, x7, x8, (x6 + (1 : Int32)))
def bX7_choosesFor_10 (x1 : Int32) (S : St) (x2 : Int32) (x3 : Int32) (x4 : Int64) (x6 : Int32) : Option (Bool × St × Int32 × Int32 × Int64 × Int32) :=
  bq1 (fX7_corners S) (fun r1 => if r1 ≤ x6 then some (false, S, x2, x3, x4, x6) else chk x1 16 (bq1 (fX7_setExpected (pR S 4 x1 x6) (x1 + (1 : Int32))) (fun S4 => bq1 (fX7_most S4) (fun r5 => bq1 (fX7_squares S4) (fun r6 => if x6 = (0 : Int32) then fX7_choosesFor_71 S4 x6 r5 r6 else if r5 < x3 then fX7_choosesFor_71 S4 x6 r5 r6 else if r5 = x3 then if (0 : Int32) ≤ (lg_cmp r6 x4) then some (true, S4, x2, x3, x4, (x6 + (1 : Int32))) else fX7_choosesFor_71 S4 x6 r5 r6 else some (true, S4, x2, x3, x4, (x6 + (1 : Int32))))))))
def fX7_choosesFor (S : St) (x1 : Int32) : Option St :=
  bq5 (lp (fun q => bX7_choosesFor_10 x1 q.1 q.2.1 q.2.2.1 q.2.2.2.1 q.2.2.2.2) fu (S, (0 : Int32), (0 : Int32), (0 : Int64), (0 : Int32))) (fun S11 y2_11 y3_11 y4_11 y6_11 => chk x1 16 (some (pR S11 4 x1 y2_11)))
def bX7_chooses_18 (S : St) (x1 : Int32) : Option (Bool × St × Int32) :=
  if (gF S 2) ≤ x1 then some (false, S, x1) else bq1 (fX7_choosesFor S x1) (fun S4 => some (true, S4, (x1 + (1 : Int32))))
def fX7_chooses (S : St) : Option (Int32 × St) :=
  if (gF S 2) = (0 : Int32) then bq2 (fX7_no S) (fun r8 S8 => some (r8, S8)) else bq1 (fX7_leavesState S) (fun S2 => bq2 (lp (fun q => bX7_chooses_18 q.1 q.2) fu (S2, (0 : Int32))) (fun S5 y1_5 => bq1 (fX7_setLoads S5) (fun S6 => bq1 (fX7_most S6) (fun r7 => some (r7, S6)))))
def fX7_isHome (S : St) (x1 : Int32) : Option Int32 :=
  chk x1 16 (chk x1 16 (if (gR S 11 x1) = (gR S 7 x1) then some (1 : Int32) else some (0 : Int32)))
def bX7_allHome_4 (S : St) (x1 : Int32) (x2 : Int32) : Option (Bool × Int32 × Int32) :=
  if (gF S 2) ≤ x2 then some (false, x1, x2) else if x1 = (0 : Int32) then some (true, (0 : Int32), (x2 + (1 : Int32))) else bq1 (fX7_isHome S x2) (fun r3 => if r3 = (0 : Int32) then some (true, (0 : Int32), (x2 + (1 : Int32))) else some (true, (1 : Int32), (x2 + (1 : Int32))))
def fX7_allHome (S : St) : Option Int32 :=
  bq2 (lp (fun q => bX7_allHome_4 S q.1 q.2) fu ((1 : Int32), (0 : Int32))) (fun y1_5 y2_5 => zb y1_5 (some y1_5))
def fX7_isAhead_133 (x1 : Int32) (x2 : Int32) (s0 : Int32) : Option Int32 :=
  if s0 = (0 : Int32) then if x2 ≤ x1 then some (0 : Int32) else some (1 : Int32) else if s0 ≤ (0 : Int32) then some (0 : Int32) else some (1 : Int32)
def fX7_isAhead_110 (S : St) (x1 : Int32) (x2 : Int32) (x4 : Int32) : Option Int32 :=
  if x4 = (0 : Int32) then chk x1 16 (chk x2 16 (fX7_isAhead_133 x1 x2 ((gR S 5 x1) - (gR S 5 x2)))) else fX7_isAhead_133 x1 x2 x4
def fX7_isAhead_107 (S : St) (x1 : Int32) (x2 : Int32) (s0 : Int32) (s1 : Int32) : Option Int32 :=
  fX7_isAhead_110 S x1 x2 (s1 - s0)
def fX7_isAhead_87 (S : St) (x1 : Int32) (x2 : Int32) (s0 : Int32) : Option Int32 :=
  chk x2 16 (chk x2 16 (if (gR S 11 x2) < (gR S 8 x2) then fX7_isAhead_107 S x1 x2 (0 : Int32) s0 else fX7_isAhead_107 S x1 x2 (1 : Int32) s0))
def fX7_isAhead (S : St) (x1 : Int32) (x2 : Int32) (x3 : Int32) : Option Int32 :=
  if x3 = (0 : Int32) then chk x2 16 (chk x1 16 (fX7_isAhead_110 S x1 x2 ((gR S 12 x2) - (gR S 12 x1)))) else if x3 = (2 : Int32) then chk x1 16 (chk x1 16 (chk x2 16 (chk x2 16 (fX7_isAhead_110 S x1 x2 ((((gR S 7 x1) - (gR S 11 x1)) - (gR S 7 x2)) + (gR S 11 x2)))))) else if x3 = (3 : Int32) then chk x1 16 (chk x1 16 (if (gR S 11 x1) < (gR S 8 x1) then fX7_isAhead_87 S x1 x2 (0 : Int32) else fX7_isAhead_87 S x1 x2 (1 : Int32))) else fX7_isAhead_110 S x1 x2 (0 : Int32)
def bX7_setGoing_46 (S : St) (x1 : Int32) (x2 : Int32) (x3 : Int32) (x4 : Int32) (x5 : Int32) (x6 : Int32) : Option (Bool × Int32 × Int32 × Int32) :=
  if (gF S 2) ≤ x6 then some (false, x4, x5, x6) else bq1 (fX7_isHome S x6) (fun r8 => if r8 = (0 : Int32) then chk x6 16 (bq1 (fX7_edgeOf S x6 (gR S 11 x6)) (fun r11 => if r11 = x3 then if x4 = (0 : Int32) then some (true, (0 : Int32), (x5 + (1 : Int32)), (x6 + (1 : Int32))) else if x6 = x2 then some (true, (1 : Int32), (x5 + (1 : Int32)), (x6 + (1 : Int32))) else bq1 (fX7_isAhead S x2 x6 x1) (fun r15 => if r15 = (0 : Int32) then some (true, (0 : Int32), (x5 + (1 : Int32)), (x6 + (1 : Int32))) else some (true, (1 : Int32), (x5 + (1 : Int32)), (x6 + (1 : Int32)))) else some (true, x4, x5, (x6 + (1 : Int32))))) else some (true, x4, x5, (x6 + (1 : Int32))))
def fX7_setGoing_134 (S : St) (x2 : Int32) (x5 : Int32) (s0 : Int32) (s1 : Int32) : Option (Bool × St × Int32) :=
  chk s1 16 (if x5 ≤ (gF S 21) then some (true, (pF (pR S 15 s1 s0) 21 (gF S 21)), (x2 + (1 : Int32))) else some (true, (pF (pR S 15 s1 s0) 21 x5), (x2 + (1 : Int32))))
def bX7_setGoing_2 (x1 : Int32) (S : St) (x2 : Int32) : Option (Bool × St × Int32) :=
  if (gF S 2) ≤ x2 then some (false, S, x2) else chk x2 16 (bq1 (fX7_isHome (pR S 15 x2 (0 : Int32)) x2) (fun r3 => if r3 = (0 : Int32) then chk x2 16 (bq1 (fX7_edgeOf (pR S 15 x2 (0 : Int32)) x2 (gR S 11 x2)) (fun r6 => bq3 (lp (fun q => bX7_setGoing_46 (pR S 15 x2 (0 : Int32)) x1 x2 r6 q.1 q.2.1 q.2.2) fu ((1 : Int32), (0 : Int32), (0 : Int32))) (fun y4_17 y5_17 y6_17 => if y4_17 = (0 : Int32) then fX7_setGoing_134 (pR S 15 x2 (0 : Int32)) x2 y5_17 (0 : Int32) x2 else fX7_setGoing_134 (pR S 15 x2 (0 : Int32)) x2 y5_17 (1 : Int32) x2))) else some (true, (pR S 15 x2 (0 : Int32)), (x2 + (1 : Int32)))))
def fX7_setGoing (S : St) (x1 : Int32) : Option St :=
  bq2 (lp (fun q => bX7_setGoing_2 x1 q.1 q.2) fu (S, (0 : Int32))) (fun S21 y2_21 => some S21)
def bX7_goesTick_17 (S : St) (x2 : Int32) : Option (Bool × St × Int32) :=
  if (gF S 2) ≤ x2 then some (false, S, x2) else bq1 (fX7_isHome S x2) (fun r3 => if r3 = (0 : Int32) then chk x2 16 (if (gR S 15 x2) = (1 : Int32) then chk x2 16 (chk x2 16 (chk x2 16 (chk x2 16 (some (true, (pR (pR (pR S 11 x2 ((gR S 11 x2) + (1 : Int32))) 12 x2 (gF S 20)) 13 x2 (gF S 20)), (x2 + (1 : Int32))))))) else chk x2 16 (chk x2 16 (some (true, (pR S 14 x2 ((gR S 14 x2) + (1 : Int32))), (x2 + (1 : Int32)))))) else some (true, S, (x2 + (1 : Int32))))
def fX7_goesTick (S : St) (x1 : Int32) : Option St :=
  bq1 (fX7_setGoing (pF S 20 ((gF S 20) + (1 : Int32))) x1) (fun S1 => bq2 (lp (fun q => bX7_goesTick_17 q.1 q.2) fu (S1, (0 : Int32))) (fun S13 y2_13 => some S13))
def bX7_runs_16 (S : St) (x3 : Int32) : Option (Bool × St × Int32) :=
  if (gF S 2) ≤ x3 then some (false, S, x3) else chk x3 16 (chk x3 16 (chk x3 16 (chk x3 16 (some (true, (pR (pR (pR (pR S 11 x3 (0 : Int32)) 12 x3 (0 : Int32)) 13 x3 (0 : Int32)) 14 x3 (0 : Int32)), (x3 + (1 : Int32)))))))
def bX7_runs_58 (x1 : Int32) (x2 : Int32) (S : St) : Option (Bool × St) :=
  if x2 ≤ (gF S 20) then some (false, S) else bq1 (fX7_allHome S) (fun r9 => if r9 = (0 : Int32) then bq1 (fX7_goesTick S x1) (fun S11 => some (true, S11)) else some (false, S))
def fX7_runs (S : St) (x1 : Int32) (x2 : Int32) : Option St :=
  bq1 (fX7_setWays S) (fun S1 => bq2 (lp (fun q => bX7_runs_16 q.1 q.2) fu ((pF (pF S1 20 (0 : Int32)) 21 (0 : Int32)), (0 : Int32))) (fun S7 y3_7 => bq1 (lp (fun q => bX7_runs_58 x1 x2 q) fu S7) (fun S12 => some S12)))
def fX7_runTells_71 (S : St) (x2 : Int32) (x3 : Int32) (x5 : Int32) (s0 : Int32) : Option (Bool × Int32 × Int32 × Int32 × Int32) :=
  chk x5 16 (if (gR S 14 x5) ≤ x3 then some (true, x2, x3, s0, (x5 + (1 : Int32))) else chk x5 16 (some (true, x2, (gR S 14 x5), s0, (x5 + (1 : Int32)))))
def bX7_runTells_34 (S : St) (x2 : Int32) (x3 : Int32) (x4 : Int32) (x5 : Int32) : Option (Bool × Int32 × Int32 × Int32 × Int32) :=
  if (gF S 2) ≤ x5 then some (false, x2, x3, x4, x5) else chk x5 16 (chk x5 16 (if (gR S 14 x5) ≤ x3 then fX7_runTells_71 S (x2 + (gR S 14 x5)) x3 x5 x4 else fX7_runTells_71 S (x2 + (gR S 14 x5)) x3 x5 x5))
def fX7_runTells_29 (S : St) (x1 : Int32) (x2 : Int32) (x3 : Int32) (s0 : Int32) : Option (Int32 × St) :=
  bq4 (lp (fun q => bX7_runTells_34 S q.1 q.2.1 q.2.2.1 q.2.2.2) fu (x2, x3, s0, (0 : Int32))) (fun y2_10 y3_10 y4_10 y5_10 => if x1 = (0 : Int32) then some ((gF S 20), S) else if x1 = (1 : Int32) then some (y2_10, S) else if x1 = (2 : Int32) then some (y3_10, S) else if x1 = (3 : Int32) then some (y4_10, S) else some ((gF S 21), S))
def fX7_runTells (S : St) (x1 : Int32) : Option (Int32 × St) :=
  bq1 (fX7_runs S (gR S 1 (1 : Int32)) (9999 : Int32)) (fun S1 => if (gF S1 2) = (0 : Int32) then fX7_runTells_29 S1 x1 (0 : Int32) (0 : Int32) (-1 : Int32) else fX7_runTells_29 S1 x1 (0 : Int32) (0 : Int32) (0 : Int32))
def fX7_run (S : St) (x1 : Int32) : Option (Int32 × St) :=
  bq1 (fX7_in S x1 (0 : Int32) (4 : Int32)) (fun r1 => if r1 = (0 : Int32) then bq2 (fX7_bad S) (fun r3 S3 => some (r3, S3)) else bq2 (fX7_runTells S x1) (fun r4 S4 => some (r4, S4)))
def fX7_ran_33 (S : St) : Option (Int32 × St) :=
  bq2 (fX7_bad S) (fun r3 S3 => some (r3, S3))
def fX7_ran_57 (S : St) (x1 : Int32) (x2 : Int32) (s0 : Int32) (s1 : Int32) : Option (Int32 × St) :=
  bq1 (fX7_runs S s1 s0) (fun S8 => if x2 = (0 : Int32) then chk x1 16 (some ((gR S8 13 x1), S8)) else if x2 = (1 : Int32) then chk x1 16 (some ((gR S8 14 x1), S8)) else chk x1 16 (chk (((9 : Int32) * x1) + (gR S8 11 x1)) 144 (some ((gR S8 9 (((9 : Int32) * x1) + (gR S8 11 x1))), S8))))
def fX7_ran_38 (S : St) (x1 : Int32) (x2 : Int32) (x3 : Int32) : Option (Int32 × St) :=
  if x2 = (2 : Int32) then fX7_ran_57 S x1 x2 x3 (gR S 1 (1 : Int32)) else fX7_ran_57 S x1 x2 (9999 : Int32) (gR S 1 (1 : Int32))
def fX7_ran (S : St) (x1 : Int32) (x2 : Int32) (x3 : Int32) : Option (Int32 × St) :=
  bq1 (fX7_isParcel S x1) (fun r1 => if r1 = (0 : Int32) then fX7_ran_33 S else bq1 (fX7_in S x2 (0 : Int32) (2 : Int32)) (fun r4 => if r4 = (0 : Int32) then fX7_ran_33 S else if x2 = (2 : Int32) then bq1 (fX7_in S x3 (0 : Int32) (400 : Int32)) (fun r15 => if r15 = (0 : Int32) then fX7_ran_33 S else fX7_ran_38 S x1 x2 x3) else fX7_ran_38 S x1 x2 x3))
def fX7_best_55 (S : St) (x3 : Int32) (x4 : Int32) (s0 : Int32) : Option (Bool × St × Int32 × Int32 × Int32) :=
  if x4 = (0 : Int32) then some (true, S, s0, (gF S 20), (x4 + (1 : Int32))) else if x3 ≤ (gF S 20) then some (true, S, s0, x3, (x4 + (1 : Int32))) else some (true, S, s0, (gF S 20), (x4 + (1 : Int32)))
def fX7_best_49 (S : St) (x3 : Int32) (x4 : Int32) : Option (Bool × St × Int32 × Int32 × Int32) :=
  fX7_best_55 S x3 x4 x4
def bX7_best_21 (S : St) (x2 : Int32) (x3 : Int32) (x4 : Int32) : Option (Bool × St × Int32 × Int32 × Int32) :=
  if (4 : Int32) ≤ x4 then some (false, S, x2, x3, x4) else bq1 (fX7_runs S x4 (9999 : Int32)) (fun S4 => if x4 = (0 : Int32) then fX7_best_49 S4 x3 x4 else if x3 ≤ (gF S4 20) then fX7_best_55 S4 x3 x4 x2 else fX7_best_49 S4 x3 x4)
def fX7_best (S : St) (x1 : Int32) : Option (Int32 × St) :=
  bq1 (fX7_in S x1 (0 : Int32) (1 : Int32)) (fun r1 => if r1 = (0 : Int32) then bq2 (fX7_bad S) (fun r11 S11 => some (r11, S11)) else bq4 (lp (fun q => bX7_best_21 q.1 q.2.1 q.2.2.1 q.2.2.2) fu (S, (0 : Int32), (0 : Int32), (0 : Int32))) (fun S9 y2_9 y3_9 y4_9 => if x1 = (0 : Int32) then some (y2_9, S9) else some (y3_9, S9)))
def bX7_straight_6 (S : St) (x1 : Int32) : Option (Bool × St × Int32) :=
  if (gF S 2) ≤ x1 then some (false, S, x1) else chk x1 16 (bq1 (fX7_setWay S x1 (gR S 2 x1)) (fun S4 => bq1 (fX7_loadsBy S4 x1 (1 : Int32)) (fun S5 => some (true, S5, (x1 + (1 : Int32))))))
def fX7_straight (S : St) : Option (Int32 × St) :=
  bq1 (fX7_noLoads S) (fun S1 => bq2 (lp (fun q => bX7_straight_6 q.1 q.2) fu (S1, (0 : Int32))) (fun S6 y1_6 => bq1 (fX7_most S6) (fun r7 => some (r7, S6))))
def fX7_type (S : St) (x1 : Int32) : Option (Int32 × St) :=
  bq1 (fX7_in S x1 (0 : Int32) (127 : Int32)) (fun r1 => if r1 = (0 : Int32) then bq2 (fX7_bad S) (fun r6 S6 => some (r6, S6)) else if (gF S 24) = (120 : Int32) then bq2 (fX7_full S) (fun r5 S5 => some (r5, S5)) else chk (gF S 24) 120 (some (((gF S 24) + (1 : Int32)), (pF (pR S 16 (gF S 24) x1) 24 ((gF S 24) + (1 : Int32))))))
def fX7_clear (S : St) : Option (Int32 × St) :=
  some ((gF S 24), (pF S 24 (0 : Int32)))
def fX7_here (S : St) : Option Int32 :=
  if (gF S 24) ≤ (gF S 25) then some (-1 : Int32) else chk (gF S 25) 120 (some (gR S 16 (gF S 25)))
def bX7_skips_0 (S : St) : Option (Bool × St) :=
  bq1 (fX7_here S) (fun r1 => if r1 = (32 : Int32) then some (true, (pF S 25 ((gF S 25) + (1 : Int32)))) else some (false, S))
def fX7_skips (S : St) : Option St :=
  bq1 (lp (fun q => bX7_skips_0 q) fu S) (fun S3 => some (pF S3 26 (gF S3 25)))
def fX7_number_43 (S : St) (x2 : Int32) (s0 : Int32) : Option (Bool × St × Int32 × Int32) :=
  some (true, (pF S 25 ((gF S 25) + (1 : Int32))), (x2 + (1 : Int32)), s0)
def bX7_number_8 (S : St) (x2 : Int32) (x3 : Int32) : Option (Bool × St × Int32 × Int32) :=
  bq1 (fX7_here S) (fun r2 => bq1 (fX7_in S r2 (48 : Int32) (57 : Int32)) (fun r3 => if r3 = (0 : Int32) then some (false, S, x2, x3) else if (2 : Int32) ≤ x2 then fX7_number_43 S x2 x3 else bq1 (fX7_here S) (fun r6 => fX7_number_43 S x2 ((((10 : Int32) * x3) + r6) - (48 : Int32)))))
def fX7_number (S : St) (x1 : Int32) : Option (Int32 × St) :=
  bq1 (fX7_skips S) (fun S1 => bq3 (lp (fun q => bX7_number_8 q.1 q.2.1 q.2.2) fu (S1, (0 : Int32), (0 : Int32))) (fun S7 y2_7 y3_7 => bq1 (fX7_in (pF S7 27 y3_7) y2_7 (1 : Int32) (2 : Int32)) (fun r8 => if r8 = (0 : Int32) then some ((0 : Int32), (pF S7 27 y3_7)) else if x1 < y3_7 then some ((0 : Int32), (pF S7 27 y3_7)) else some ((1 : Int32), (pF S7 27 y3_7)))))
def fX7_sign (S : St) (x1 : Int32) : Option (Int32 × St) :=
  bq1 (fX7_skips S) (fun S1 => bq1 (fX7_here S1) (fun r2 => if r2 = x1 then some ((1 : Int32), (pF S1 25 ((gF S1 25) + (1 : Int32)))) else some ((0 : Int32), S1)))
def fX7_readsParcel_124 (S : St) (x1 : Int32) (x2 : Int32) (x3 : Int32) (x4 : Int32) (x5 : Int32) : Option (Int32 × St) :=
  bq2 (fX7_sign S (59 : Int32)) (fun r15 S15 => if r15 = (0 : Int32) then some ((0 : Int32), S15) else if x1 = (0 : Int32) then some ((1 : Int32), (pF S15 28 ((gF S15 28) + (1 : Int32)))) else bq1 (fX7_comes (pF S15 28 ((gF S15 28) + (1 : Int32))) x2 x3 x4 x5) (fun S18 => some ((1 : Int32), S18)))
def fX7_readsParcel_98 (S : St) (x1 : Int32) (x2 : Int32) (x3 : Int32) (x4 : Int32) (x5 : Int32) : Option (Int32 × St) :=
  bq2 (fX7_sign S (42 : Int32)) (fun r13 S13 => if r13 = (0 : Int32) then fX7_readsParcel_124 S13 x1 x2 x3 x4 x5 else bq2 (fX7_number S13 (99 : Int32)) (fun r19 S19 => if r19 = (0 : Int32) then some ((0 : Int32), S19) else fX7_readsParcel_124 S19 x1 x2 x3 x4 (gF S19 27)))
def fX7_readsParcel (S : St) (x1 : Int32) : Option (Int32 × St) :=
  bq1 (fX7_skips S) (fun S1 => if (gF S1 28) = (16 : Int32) then some ((0 : Int32), S1) else bq1 (fX7_corners S1) (fun r3 => bq2 (fX7_number S1 (r3 - (1 : Int32))) (fun r4 S4 => if r4 = (0 : Int32) then some ((0 : Int32), S4) else bq2 (fX7_sign S4 (62 : Int32)) (fun r6 S6 => if r6 = (0 : Int32) then some ((0 : Int32), S6) else bq1 (fX7_corners S6) (fun r8 => bq2 (fX7_number S6 (r8 - (1 : Int32))) (fun r9 S9 => if r9 = (0 : Int32) then some ((0 : Int32), S9) else bq2 (fX7_sign S9 (47 : Int32)) (fun r11 S11 => if r11 = (0 : Int32) then fX7_readsParcel_98 S11 x1 (gF S4 27) (gF S9 27) (gF S4 27) (0 : Int32) else bq1 (fX7_corners S11) (fun r21 => bq2 (fX7_number S11 (r21 - (1 : Int32))) (fun r22 S22 => if r22 = (0 : Int32) then some ((0 : Int32), S22) else fX7_readsParcel_98 S22 x1 (gF S4 27) (gF S9 27) (gF S22 27) (0 : Int32))))))))))
def bX7_goesThrough_41 (x1 : Int32) (S : St) : Option (Bool × St × Option Int32) :=
  if (gF S 24) ≤ (gF S 25) then some (false, S, none) else bq2 (fX7_readsParcel S x1) (fun r4 S4 => if r4 = (0 : Int32) then some (false, S4, (some ((-10 : Int32) - (gF S4 26)))) else bq1 (fX7_skips S4) (fun S6 => some (true, S6, none)))
def fX7_goesThrough (S : St) (x1 : Int32) : Option (Int32 × St) :=
  bq1 (fX7_skips (pF (pF S 25 (0 : Int32)) 28 (gF S 2))) (fun S1 => if (gF S1 25) = (gF S1 24) then some (((-10 : Int32) - (gF S1 24)), S1) else bq2 (lp (fun q => bX7_goesThrough_41 x1 q.1) fu (S1, none)) (fun S7 yr7 => rto yr7 (fun r => some (r, S7)) (some (((gF S7 28) - (gF S 2)), S7))))
def fX7_reads (S : St) : Option (Int32 × St) :=
  bq2 (fX7_goesThrough S (0 : Int32)) (fun r1 S1 => if (0 : Int32) ≤ r1 then bq1 (fX7_leavesState S1) (fun S3 => bq2 (fX7_goesThrough S3 (1 : Int32)) (fun r4 S4 => some (r4, S4))) else some (r1, S1))
def bX7_back_82 (x1 : Int32) (S : St) (x2 : Int32) : Option (Bool × St × Int32) :=
  if (16 : Int32) ≤ x2 then some (false, S, x2) else chk ((x1 + (4 : Int32)) + x2) 408 (chk x2 16 (chk ((x1 + (20 : Int32)) + x2) 408 (chk x2 16 (chk ((x1 + (36 : Int32)) + x2) 408 (chk x2 16 (chk ((x1 + (52 : Int32)) + x2) 408 (chk x2 16 (some (true, (pR (pR (pR (pR S 2 x2 (gR S 6 ((x1 + (4 : Int32)) + x2))) 3 x2 (gR S 6 ((x1 + (20 : Int32)) + x2))) 4 x2 (gR S 6 ((x1 + (36 : Int32)) + x2))) 5 x2 (gR S 6 ((x1 + (52 : Int32)) + x2))), (x2 + (1 : Int32)))))))))))
def fX7_back (S : St) : Option (Int32 × St) :=
  if (gF S 8) = (0 : Int32) then bq2 (fX7_no S) (fun r16 S16 => some (r16, S16)) else chk ((68 : Int32) * ((gF S 8) - (1 : Int32))) 408 (chk (((68 : Int32) * ((gF S 8) - (1 : Int32))) + (1 : Int32)) 408 (chk (((68 : Int32) * ((gF S 8) - (1 : Int32))) + (2 : Int32)) 408 (chk (((68 : Int32) * ((gF S 8) - (1 : Int32))) + (3 : Int32)) 408 (bq2 (lp (fun q => bX7_back_82 ((68 : Int32) * ((gF S 8) - (1 : Int32))) q.1 q.2) fu ((pR (pR (pF (pF (pF S 8 ((gF S 8) - (1 : Int32))) 1 (gR S 6 ((68 : Int32) * ((gF S 8) - (1 : Int32))))) 2 (gR S 6 (((68 : Int32) * ((gF S 8) - (1 : Int32))) + (1 : Int32)))) 1 (0 : Int32) (gR S 6 (((68 : Int32) * ((gF S 8) - (1 : Int32))) + (2 : Int32)))) 1 (1 : Int32) (gR S 6 (((68 : Int32) * ((gF S 8) - (1 : Int32))) + (3 : Int32)))), (0 : Int32))) (fun S15 y2_15 => some ((gF S15 8), S15))))))
def fX7_toldBy (S : St) (x1 : Int32) : Option Int32 :=
  if (3 : Int32) ≤ x1 then if x1 = (3 : Int32) then some (gF S 24) else if x1 = (4 : Int32) then some (gF S 1) else if x1 = (5 : Int32) then some (gF S 2) else if x1 = (8 : Int32) then some (gF S 8) else chk (x1 - (6 : Int32)) 2 (some (gR S 1 (x1 - (6 : Int32)))) else chk x1 3 (some (gR S 0 x1))
def fX7_told (S : St) (x1 : Int32) : Option (Int32 × St) :=
  bq1 (fX7_in S x1 (0 : Int32) (8 : Int32)) (fun r1 => if r1 = (0 : Int32) then bq2 (fX7_bad S) (fun r3 S3 => some (r3, S3)) else bq1 (fX7_toldBy S x1) (fun r4 => some (r4, S)))
def bX7_digest_6 (S : St) (x1 : Int64) (x3 : Int32) : Option (Bool × Int64 × Int32) :=
  if (9 : Int32) ≤ x3 then some (false, x1, x3) else bq1 (fX7_toldBy S x3) (fun r2 => some (true, (((31 : Int64) * x1) + (Int32.toInt64 r2)), (x3 + (1 : Int32))))
def bX7_digest_44 (x3 : Int32) (S : St) (x1 : Int64) (x4 : Int32) : Option (Bool × St × Int64 × Int32) :=
  if (6 : Int32) ≤ x4 then some (false, S, x1, x4) else bq2 (fX7_ofBy S x3 x4) (fun r6 S6 => some (true, S6, (((31 : Int64) * x1) + (Int32.toInt64 r6)), (x4 + (1 : Int32))))
def bX7_digest_33 (S : St) (x1 : Int64) (x3 : Int32) : Option (Bool × St × Int64 × Int32) :=
  if (gF S 2) ≤ x3 then some (false, S, x1, x3) else bq3 (lp (fun q => bX7_digest_44 x3 q.1 q.2.1 q.2.2) fu (S, x1, (0 : Int32))) (fun S7 y1_7 y4_7 => some (true, S7, y1_7, (x3 + (1 : Int32))))
def bX7_digest_104 (S : St) (x1 : Int64) (x3 : Int32) : Option (Bool × St × Int64 × Int32) :=
  if (3 : Int32) ≤ x3 then some (false, S, x1, x3) else bq2 (fX7_loadsTell S x3) (fun r10 S10 => some (true, S10, (((31 : Int64) * x1) + (Int32.toInt64 r10)), (x3 + (1 : Int32))))
def bX7_digest_130 (S : St) (x1 : Int64) (x3 : Int32) : Option (Bool × St × Int64 × Int32) :=
  if (3 : Int32) ≤ x3 then some (false, S, x1, x3) else bq2 (fX7_runTells S x3) (fun r13 S13 => some (true, S13, (((31 : Int64) * x1) + (Int32.toInt64 r13)), (x3 + (1 : Int32))))
def fX7_digest (S : St) : Option (Int64 × St) :=
  bq2 (lp (fun q => bX7_digest_6 S q.1 q.2) fu ((2141 : Int64), (0 : Int32))) (fun y1_3 y3_3 => bq3 (lp (fun q => bX7_digest_33 q.1 q.2.1 q.2.2) fu (S, y1_3, (0 : Int32))) (fun S8 y1_8 y3_8 => bq3 (lp (fun q => bX7_digest_104 q.1 q.2.1 q.2.2) fu (S8, (((31 : Int64) * (((31 : Int64) * y1_8) + (Int32.toInt64 (gF S8 14)))) + (Int32.toInt64 (gF S8 15))), (0 : Int32))) (fun S11 y1_11 y3_11 => bq3 (lp (fun q => bX7_digest_130 q.1 q.2.1 q.2.2) fu (S11, y1_11, (0 : Int32))) (fun S14 y1_14 y3_14 => some (y1_14, S14)))))
def fX6_refuse (S : St) (x1 : Int32) : Option (Int32 × St) :=
  if ((-2 : Int32) - x1) < (0 : Int32) then some (x1, S) else if (3 : Int32) ≤ ((-2 : Int32) - x1) then some (x1, S) else chk ((-2 : Int32) - x1) 3 (chk ((-2 : Int32) - x1) 3 (some (x1, (pR S 7 ((-2 : Int32) - x1) ((gR S 7 ((-2 : Int32) - x1)) + (1 : Int32))))))
def fX3_take (d s : Nat) (S : St) : Option St :=
  some (pC (pF (pF (pF (pF S (4 * d + 0) (gF S (4 * s + 0))) (4 * d + 1) (gF (pF S (4 * d + 0) (gF S (4 * s + 0))) (4 * s + 1))) (4 * d + 2) (gF (pF (pF S (4 * d + 0) (gF S (4 * s + 0))) (4 * d + 1) (gF (pF S (4 * d + 0) (gF S (4 * s + 0))) (4 * s + 1))) (4 * s + 2))) (4 * d + 3) (gF (pF (pF (pF S (4 * d + 0) (gF S (4 * s + 0))) (4 * d + 1) (gF (pF S (4 * d + 0) (gF S (4 * s + 0))) (4 * s + 1))) (4 * d + 2) (gF (pF (pF S (4 * d + 0) (gF S (4 * s + 0))) (4 * d + 1) (gF (pF S (4 * d + 0) (gF S (4 * s + 0))) (4 * s + 1))) (4 * s + 2))) (4 * s + 3))) d s)
def fX0_keep (S : St) : Option St :=
  chk (((gF S 31) + (1 : Int32)) - ((gF S 31) + (1 : Int32)) / (6 : Int32) * (6 : Int32)) 6 (bq1 (fX3_take (1 + ((((gF S 31) + (1 : Int32)) - ((gF S 31) + (1 : Int32)) / (6 : Int32) * (6 : Int32))).toNatClampNeg) 0 (pF S 31 (((gF S 31) + (1 : Int32)) - ((gF S 31) + (1 : Int32)) / (6 : Int32) * (6 : Int32)))) (fun S2 => some (pF S2 30 (if (6 : Int32) < ((gF S2 30) + (1 : Int32)) then (6 : Int32) else ((gF S2 30) + (1 : Int32))))))
def fX6_sides_10 (S : St) : Option (Int32 × St) :=
  bq2 (fX6_refuse S (-2 : Int32)) (fun r2 S2 => some (r2, S2))
def fX6_sides (S : St) (x1 : Int32) : Option (Int32 × St) :=
  if x1 < (1 : Int32) then fX6_sides_10 S else if x1 ≤ (4 : Int32) then bq1 (fX0_keep S) (fun S4 => some ((gF S4 0), (pF (pF S4 0 x1) 3 (0 : Int32)))) else fX6_sides_10 S
def fX3_corners (S : St) : Option Int32 :=
  some ((1 : Int32) <<< ((gF S 0) &&& (31 : Int32)))
def fX3_allows_19 (s0 : Int32) (s1 : Int32) : Option Int32 :=
  if s0 ≤ s1 then some (0 : Int32) else some (1 : Int32)
def fX3_allows (S : St) (x1 : Int32) (x2 : Int32) : Option Int32 :=
  if x2 < (0 : Int32) then some (0 : Int32) else if x1 = (3 : Int32) then fX3_allows_19 (100 : Int32) x2 else bq1 (fX3_corners S) (fun r3 => fX3_allows_19 r3 x2)
def fX3_change (S : St) (x1 : Int32) (x2 : Int32) (x3 : Int32) : Option St :=
  chk ((x1 * (4 : Int32)) + x2) 64 (some (pR S 0 ((x1 * (4 : Int32)) + x2) x3))
def fX3_add (S : St) (x1 : Int32) (x2 : Int32) (x3 : Int32) (x4 : Int32) : Option St :=
  if (gF S 3) < (16 : Int32) then bq1 (fX3_change S (gF S 3) (0 : Int32) x1) (fun S2 => bq1 (fX3_change S2 (gF S2 3) (1 : Int32) x2) (fun S3 => bq1 (fX3_change S3 (gF S3 3) (2 : Int32) x3) (fun S4 => bq1 (fX3_change S4 (gF S4 3) (3 : Int32) x4) (fun S5 => some (pF S5 3 ((gF S5 3) + (1 : Int32))))))) else some S
def fX6_parcel_49 (S : St) : Option (Int32 × St) :=
  bq2 (fX6_refuse S (-2 : Int32)) (fun r3 S3 => some (r3, S3))
def fX6_parcel (S : St) (x1 : Int32) (x2 : Int32) (x3 : Int32) (x4 : Int32) : Option (Int32 × St) :=
  bq1 (fX3_allows S (0 : Int32) x1) (fun r1 => if r1 = (0 : Int32) then fX6_parcel_49 S else bq1 (fX3_allows S (1 : Int32) x2) (fun r4 => if r4 = (0 : Int32) then fX6_parcel_49 S else bq1 (fX3_allows S (2 : Int32) x3) (fun r6 => if r6 = (0 : Int32) then fX6_parcel_49 S else bq1 (fX3_allows S (3 : Int32) x4) (fun r8 => if r8 = (0 : Int32) then fX6_parcel_49 S else if (gF S 3) < (16 : Int32) then bq1 (fX0_keep S) (fun S11 => bq1 (fX3_add S11 x1 x2 x3 x4) (fun S12 => some (((gF S12 3) - (1 : Int32)), S12))) else bq2 (fX6_refuse S (-4 : Int32)) (fun r13 S13 => some (r13, S13))))))
def fX3_has (S : St) (x1 : Int32) : Option Int32 :=
  if x1 < (0 : Int32) then some (0 : Int32) else if (gF S 3) ≤ x1 then some (0 : Int32) else some (1 : Int32)
def fX3_trait (S : St) (x1 : Int32) (x2 : Int32) : Option Int32 :=
  chk ((x1 * (4 : Int32)) + x2) 64 (some (gR S 0 ((x1 * (4 : Int32)) + x2)))
def fX6_sets_32 (S : St) : Option (Int32 × St) :=
  bq2 (fX6_refuse S (-2 : Int32)) (fun r3 S3 => some (r3, S3))
def fX6_sets (S : St) (x1 : Int32) (x2 : Int32) (x3 : Int32) : Option (Int32 × St) :=
  bq1 (fX3_has S x1) (fun r1 => if r1 = (0 : Int32) then fX6_sets_32 S else if x2 < (0 : Int32) then fX6_sets_32 S else if (4 : Int32) ≤ x2 then fX6_sets_32 S else bq1 (fX3_allows S x2 x3) (fun r6 => if r6 = (0 : Int32) then fX6_sets_32 S else bq1 (fX0_keep S) (fun S8 => bq1 (fX3_trait S8 x1 x2) (fun r9 => bq1 (fX3_change S8 x1 x2 x3) (fun S10 => some (r9, S10))))))
def fX6_rules_88 (S : St) (x2 : Int32) (x3 : Int32) (s0 : Int32) : Option (Int32 × St) :=
  if x3 = (0 : Int32) then some (s0, (pF S 2 x2)) else some (s0, (pF S 1 x2))
def fX6_rules_56 (S : St) (x2 : Int32) (x3 : Int32) : Option (Int32 × St) :=
  bq1 (fX0_keep S) (fun S4 => if x3 = (0 : Int32) then fX6_rules_88 S4 x2 x3 (gF S4 2) else fX6_rules_88 S4 x2 x3 (gF S4 1))
def fX6_rules_38 (S : St) (x2 : Int32) (x3 : Int32) (s0 : Int32) : Option (Int32 × St) :=
  if x3 = (0 : Int32) then if s0 = (0 : Int32) then bq2 (fX6_refuse S (-2 : Int32)) (fun r8 S8 => some (r8, S8)) else fX6_rules_56 S x2 x3 else fX6_rules_56 S x2 x3
def fX6_rules_37 (S : St) (x2 : Int32) (x3 : Int32) : Option (Int32 × St) :=
  fX6_rules_38 S x2 x3 (0 : Int32)
def fX6_rules_18 (S : St) (x1 : Int32) (x2 : Int32) (s0 : Int32) : Option (Int32 × St) :=
  if x1 = (1 : Int32) then if x2 < (0 : Int32) then fX6_rules_37 S x2 s0 else if (4 : Int32) ≤ x2 then fX6_rules_37 S x2 s0 else fX6_rules_38 S x2 s0 (1 : Int32) else fX6_rules_37 S x2 s0
def fX6_rules_17 (S : St) (x1 : Int32) (x2 : Int32) : Option (Int32 × St) :=
  fX6_rules_18 S x1 x2 (0 : Int32)
def fX6_rules (S : St) (x1 : Int32) (x2 : Int32) : Option (Int32 × St) :=
  if x1 = (0 : Int32) then if x2 < (0 : Int32) then fX6_rules_17 S x1 x2 else if (2 : Int32) ≤ x2 then fX6_rules_17 S x1 x2 else fX6_rules_18 S x1 x2 (1 : Int32) else fX6_rules_17 S x1 x2
def fX6_empties (S : St) : Option (Int32 × St) :=
  bq1 (fX0_keep S) (fun S1 => some ((gF S1 3), (pF S1 3 (0 : Int32))))
def bX3_partner_39 (S : St) (x1 : Int32) (x4 : Int32) (x5 : Int32) : Option (Bool × Int32 × Int32) :=
  if (gF S 0) ≤ x5 then some (false, x4, x5) else some (true, (((2 : Int32) * x4) + ((x1 >>> (x5 &&& (31 : Int32))) - (x1 >>> (x5 &&& (31 : Int32))) / (2 : Int32) * (2 : Int32))), (x5 + (1 : Int32)))
def fX3_partner (S : St) (x1 : Int32) (x2 : Int32) : Option Int32 :=
  bq1 (fX3_corners S) (fun r1 => if x2 = (0 : Int32) then some ((r1 - (1 : Int32)) - x1) else if x2 = (2 : Int32) then if x1 = (r1 - (1 : Int32)) then some (0 : Int32) else some (x1 + (1 : Int32)) else bq2 (lp (fun q => bX3_partner_39 S x1 q.1 q.2) fu ((0 : Int32), (0 : Int32))) (fun y4_5 y5_5 => some y4_5))
def fX6_fills_19 (S : St) : Option (Int32 × St) :=
  bq2 (fX6_refuse S (-2 : Int32)) (fun r2 S2 => some (r2, S2))
def fX6_fills_110 (S : St) (x3 : Int32) (x4 : Int64) (x6 : Int32) (s0 : Int32) : Option (Bool × St × Int64 × Int32) :=
  nzl (Int32.toInt64 x3) (bq1 (fX3_add S x6 s0 (Int64.toInt32 ((x4 / (65536 : Int64)) - (x4 / (65536 : Int64)) / (Int32.toInt64 x3) * (Int32.toInt64 x3))) (Int64.toInt32 ((x4 / (1024 : Int64)) - (x4 / (1024 : Int64)) / (100 : Int64) * (100 : Int64)))) (fun S12 => some (true, S12, x4, (x6 + (1 : Int32)))))
def bX6_fills_60 (x1 : Int32) (x3 : Int32) (S : St) (x4 : Int64) (x6 : Int32) : Option (Bool × St × Int64 × Int32) :=
  if x3 ≤ x6 then some (false, S, x4, x6) else if x1 = (3 : Int32) then nzl (Int32.toInt64 x3) (fX6_fills_110 S x3 (((x4 * (1103515245 : Int64)) + (12345 : Int64)) - ((x4 * (1103515245 : Int64)) + (12345 : Int64)) / (2147483648 : Int64) * (2147483648 : Int64)) x6 (Int64.toInt32 (((((x4 * (1103515245 : Int64)) + (12345 : Int64)) - ((x4 * (1103515245 : Int64)) + (12345 : Int64)) / (2147483648 : Int64) * (2147483648 : Int64)) / (32768 : Int64)) - ((((x4 * (1103515245 : Int64)) + (12345 : Int64)) - ((x4 * (1103515245 : Int64)) + (12345 : Int64)) / (2147483648 : Int64) * (2147483648 : Int64)) / (32768 : Int64)) / (Int32.toInt64 x3) * (Int32.toInt64 x3)))) else bq1 (fX3_partner S x6 x1) (fun r10 => fX6_fills_110 S x3 (((x4 * (1103515245 : Int64)) + (12345 : Int64)) - ((x4 * (1103515245 : Int64)) + (12345 : Int64)) / (2147483648 : Int64) * (2147483648 : Int64)) x6 r10)
def fX6_fills (S : St) (x1 : Int32) (x2 : Int32) : Option (Int32 × St) :=
  if x1 < (0 : Int32) then fX6_fills_19 S else if (3 : Int32) < x1 then fX6_fills_19 S else if x2 < (0 : Int32) then fX6_fills_19 S else if x2 ≤ (999999 : Int32) then bq1 (fX0_keep S) (fun S6 => bq1 (fX3_corners (pF S6 3 (0 : Int32))) (fun r7 => bq3 (lp (fun q => bX6_fills_60 x1 r7 q.1 q.2.1 q.2.2) fu ((pF S6 3 (0 : Int32)), (Int32.toInt64 x2), (0 : Int32))) (fun S14 y4_14 y6_14 => some ((gF S14 3), S14)))) else fX6_fills_19 S
def fX5_addLeg_36 (S : St) (x2 : Int32) (x4 : Int32) (x5 : Int32) (x6 : Int32) (s0 : Int32) : Option (Bool × St × Int32 × Int32) :=
  if ((x5 ^^^ x4) &&& ((1 : Int32) <<< (s0 &&& (31 : Int32)))) = (0 : Int32) then some (true, S, x5, (x6 + (1 : Int32))) else chk x2 16 (chk ((x2 * (8 : Int32)) + (gR S 8 x2)) 128 (chk x2 16 (chk x2 16 (chk x2 16 (chk x2 16 (some (true, (pR (pE (pR S 10 ((x2 * (8 : Int32)) + (gR S 8 x2)) ((x5 * (4 : Int32)) + s0)) x2 ((gE S x2) ||| ((1 : Int64) <<< (Int32.toInt64 ((x5 * (4 : Int32)) + s0) &&& (63 : Int64))))) 8 x2 ((gR S 8 x2) + (1 : Int32))), (x5 ^^^ ((1 : Int32) <<< (s0 &&& (31 : Int32)))), (x6 + (1 : Int32)))))))))
def bX5_addLeg_6 (x2 : Int32) (x4 : Int32) (S : St) (x5 : Int32) (x6 : Int32) : Option (Bool × St × Int32 × Int32) :=
  if (gF S 0) ≤ x6 then some (false, S, x5, x6) else if (gF S 1) = (0 : Int32) then fX5_addLeg_36 S x2 x4 x5 x6 x6 else fX5_addLeg_36 S x2 x4 x5 x6 (((gF S 0) - (1 : Int32)) - x6)
def fX5_addLeg (S : St) (x2 : Int32) (x3 : Int32) (x4 : Int32) : Option St :=
  bq3 (lp (fun q => bX5_addLeg_6 x2 x4 q.1 q.2.1 q.2.2) fu (S, x3, (0 : Int32))) (fun S10 y5_10 y6_10 => some S10)
def fX5_trace (S : St) (x2 : Int32) (x3 : Int32) : Option St :=
  chk x2 16 (chk x2 16 (bq1 (fX3_trait (pE (pR S 8 x2 (0 : Int32)) x2 (0 : Int64)) x2 (0 : Int32)) (fun r3 => bq1 (fX5_addLeg (pE (pR S 8 x2 (0 : Int32)) x2 (0 : Int64)) x2 r3 x3) (fun S4 => chk x2 16 (chk x2 16 (bq1 (fX3_trait (pR S4 9 x2 (gR S4 8 x2)) x2 (1 : Int32)) (fun r7 => bq1 (fX5_addLeg (pR S4 9 x2 (gR S4 8 x2)) x2 x3 r7) (fun S8 => some S8))))))))
def bX5_follow_2 (S : St) (x2 : Int32) : Option (Bool × St × Int32) :=
  if (gF S 3) ≤ x2 then some (false, S, x2) else bq1 (fX3_trait S x2 (2 : Int32)) (fun r2 => bq1 (fX5_trace S x2 r2) (fun S3 => some (true, S3, (x2 + (1 : Int32)))))
def fX5_follow (S : St) : Option St :=
  bq2 (lp (fun q => bX5_follow_2 q.1 q.2) fu (S, (0 : Int32))) (fun S4 y2_4 => some S4)
def bX5_meetings_5 (S : St) (x1 : Int32) (x2 : Int32) (x3 : Int32) (x4 : Int32) : Option (Bool × Int32 × Int32) :=
  if x2 ≤ x4 then some (false, x3, x4) else if x4 = x1 then some (true, x3, (x4 + (1 : Int32))) else chk x4 16 (chk x1 16 (if (lg_cmp ((gE S x4) &&& (gE S x1)) (0 : Int64)) = (0 : Int32) then some (true, x3, (x4 + (1 : Int32))) else some (true, (x3 + (1 : Int32)), (x4 + (1 : Int32)))))
def fX5_meetings (S : St) (x1 : Int32) (x2 : Int32) : Option Int32 :=
  bq2 (lp (fun q => bX5_meetings_5 S x1 x2 q.1 q.2) fu ((0 : Int32), (0 : Int32))) (fun y3_6 y4_6 => some y3_6)
def fX6_factOf (S : St) (x1 : Int32) (x2 : Int32) : Option Int32 :=
  if x2 = (4 : Int32) then chk x1 16 (some (gR S 8 x1)) else if x2 = (5 : Int32) then bq1 (fX5_meetings S x1 (gF S 3)) (fun r4 => some r4) else bq1 (fX3_trait S x1 x2) (fun r5 => some r5)
def fX6_of_20 (S : St) : Option (Int32 × St) :=
  bq2 (fX6_refuse S (-2 : Int32)) (fun r3 S3 => some (r3, S3))
def fX6_of (S : St) (x1 : Int32) (x2 : Int32) : Option (Int32 × St) :=
  bq1 (fX3_has S x1) (fun r1 => if r1 = (0 : Int32) then fX6_of_20 S else if x2 < (0 : Int32) then fX6_of_20 S else if x2 ≤ (5 : Int32) then bq1 (fX5_follow S) (fun S6 => bq1 (fX6_factOf S6 x1 x2) (fun r7 => some (r7, S6))) else fX6_of_20 S)
def fX5_edge (S : St) (x1 : Int32) (x2 : Int32) : Option Int32 :=
  chk ((x1 * (8 : Int32)) + x2) 128 (some (gR S 10 ((x1 * (8 : Int32)) + x2)))
def fX5_cornerBehind (S : St) (x2 : Int32) (x3 : Int32) : Option Int32 :=
  chk x2 16 (if (gR S 8 x2) ≤ x3 then bq1 (fX3_trait S x2 (1 : Int32)) (fun r3 => some r3) else bq1 (fX5_edge S x2 x3) (fun r4 => some (r4 / (4 : Int32))))
def fX6_step_15 (S : St) : Option (Int32 × St) :=
  bq2 (fX6_refuse S (-2 : Int32)) (fun r3 S3 => some (r3, S3))
def fX6_step (S : St) (x1 : Int32) (x2 : Int32) : Option (Int32 × St) :=
  bq1 (fX3_has S x1) (fun r1 => if r1 = (0 : Int32) then fX6_step_15 S else if (0 : Int32) ≤ x2 then bq1 (fX5_follow S) (fun S5 => chk x1 16 (if x2 ≤ (gR S5 8 x1) then bq1 (fX5_cornerBehind S5 x1 x2) (fun r8 => some (r8, S5)) else some ((-5 : Int32), S5))) else fX6_step_15 S)
def fX3_hasEdge (S : St) (x1 : Int32) (x2 : Int32) : Option Int32 :=
  if x1 < (0 : Int32) then some (0 : Int32) else bq1 (fX3_corners S) (fun r2 => if r2 ≤ x1 then some (0 : Int32) else if x2 < (0 : Int32) then some (0 : Int32) else if (gF S 0) ≤ x2 then some (0 : Int32) else some (1 : Int32))
def bfill_23_5 (x1 : Int32) (x3 : Int32) (S : St) (x2 : Int32) : Option (Bool × St × Int32) :=
  if x3 ≤ x2 then some (false, S, x2) else chk x2 64 (some (true, (pR S 11 x2 x1), (x2 + (1 : Int32))))
def ffill_23 (S : St) (x1 : Int32) : Option St :=
  bq2 (lp (fun q => bfill_23_5 x1 (64 : Int32) q.1 q.2) fu (S, (0 : Int32))) (fun S3 y2_3 => some S3)
def fX1_empty (S : St) : Option St :=
  bq1 (ffill_23 S (0 : Int32)) (fun S1 => some S1)
def bX1_add_3 (x2 : Int32) (x3 : Int32) (S : St) (x4 : Int32) : Option (Bool × St × Int32) :=
  chk x2 16 (if (gR S 8 x2) ≤ x4 then some (false, S, x4) else bq1 (fX5_edge S x2 x4) (fun r3 => chk r3 64 (chk r3 64 (some (true, (pR S 11 r3 ((gR S 11 r3) + x3)), (x4 + (1 : Int32)))))))
def fX1_add (S : St) (x2 : Int32) (x3 : Int32) : Option St :=
  bq2 (lp (fun q => bX1_add_3 x2 x3 q.1 q.2) fu (S, (0 : Int32))) (fun S6 y4_6 => some S6)
def bX6_tallyWays_20 (S : St) (x1 : Int32) : Option (Bool × St × Int32) :=
  if (gF S 3) ≤ x1 then some (false, S, x1) else bq1 (fX1_add S x1 (1 : Int32)) (fun S4 => some (true, S4, (x1 + (1 : Int32))))
def fX6_tallyWays (S : St) : Option St :=
  bq1 (fX5_follow S) (fun S1 => bq1 (fX1_empty S1) (fun S2 => bq2 (lp (fun q => bX6_tallyWays_20 q.1 q.2) fu (S2, (0 : Int32))) (fun S5 y1_5 => some S5)))
def fX6_load (S : St) (x1 : Int32) (x2 : Int32) : Option (Int32 × St) :=
  bq1 (fX3_hasEdge S x1 x2) (fun r1 => if r1 = (0 : Int32) then bq2 (fX6_refuse S (-2 : Int32)) (fun r5 S5 => some (r5, S5)) else bq1 (fX6_tallyWays S) (fun S3 => chk ((x1 * (4 : Int32)) + x2) 64 (some ((gR S3 11 ((x1 * (4 : Int32)) + x2)), S3))))
def bX1_firstGreatest_4 (S : St) (x1 : Int32) (x2 : Int32) : Option (Bool × Int32 × Int32) :=
  if (64 : Int32) ≤ x2 then some (false, x1, x2) else chk x2 64 (chk x1 64 (if (gR S 11 x2) ≤ (gR S 11 x1) then some (true, x1, (x2 + (1 : Int32))) else some (true, x2, (x2 + (1 : Int32)))))
def fX1_firstGreatest (S : St) : Option Int32 :=
  bq2 (lp (fun q => bX1_firstGreatest_4 S q.1 q.2) fu ((0 : Int32), (1 : Int32))) (fun y1_5 y2_5 => some y1_5)
def bX1_countAtLeast_17 (S : St) (x1 : Int32) (x4 : Int32) (x3 : Int32) (x5 : Int32) : Option (Bool × Int32 × Int32) :=
  if (gF S 0) ≤ x5 then some (false, x3, x5) else chk ((x4 * (4 : Int32)) + x5) 64 (if (gR S 11 ((x4 * (4 : Int32)) + x5)) < x1 then some (true, x3, (x5 + (1 : Int32))) else some (true, (x3 + (1 : Int32)), (x5 + (1 : Int32))))
def bX1_countAtLeast_5 (S : St) (x1 : Int32) (x3 : Int32) (x4 : Int32) : Option (Bool × Int32 × Int32) :=
  bq1 (fX3_corners S) (fun r1 => if r1 ≤ x4 then some (false, x3, x4) else bq2 (lp (fun q => bX1_countAtLeast_17 S x1 x4 q.1 q.2) fu (x3, (0 : Int32))) (fun y3_6 y5_6 => some (true, y3_6, (x4 + (1 : Int32)))))
def fX1_countAtLeast (S : St) (x1 : Int32) : Option Int32 :=
  bq2 (lp (fun q => bX1_countAtLeast_5 S x1 q.1 q.2) fu ((0 : Int32), (0 : Int32))) (fun y3_7 y4_7 => some y3_7)
def fX6_nameOf (S : St) (x0 : Int32) : Option Int32 :=
  some (((x0 / (4 : Int32)) * (10 : Int32)) + (x0 - x0 / (4 : Int32) * (4 : Int32)))
def fX6_loadsFact (S : St) (x1 : Int32) : Option Int32 :=
  bq1 (fX1_firstGreatest S) (fun r1 => chk r1 64 (if x1 = (0 : Int32) then some (gR S 11 r1) else if x1 = (1 : Int32) then bq1 (fX1_countAtLeast S (gR S 11 r1)) (fun r5 => some r5) else if x1 = (2 : Int32) then bq1 (fX1_countAtLeast S (1 : Int32)) (fun r7 => some r7) else if (gR S 11 r1) = (0 : Int32) then some (-1 : Int32) else bq1 (fX6_nameOf S r1) (fun r9 => some r9)))
def fX6_loads_9 (S : St) : Option (Int32 × St) :=
  bq2 (fX6_refuse S (-2 : Int32)) (fun r2 S2 => some (r2, S2))
def fX6_loads (S : St) (x1 : Int32) : Option (Int32 × St) :=
  if x1 < (0 : Int32) then fX6_loads_9 S else if x1 ≤ (3 : Int32) then bq1 (fX6_tallyWays S) (fun S4 => bq1 (fX6_loadsFact S4 x1) (fun r5 => some (r5, S4))) else fX6_loads_9 S
def bX6_addDrawn_11 (x1 : Int32) (x2 : Int32) (x3 : Int32) (S : St) (x4 : Int32) : Option (Bool × St × Int32) :=
  if x3 ≤ x4 then some (false, S, x4) else bq1 (fX5_trace S x1 x4) (fun S3 => bq1 (fX1_add S3 x1 x2) (fun S4 => some (true, S4, (x4 + (1 : Int32)))))
def fX6_addDrawn (S : St) (x1 : Int32) (x2 : Int32) : Option St :=
  bq1 (fX3_corners S) (fun r1 => bq2 (lp (fun q => bX6_addDrawn_11 x1 x2 r1 q.1 q.2) fu (S, (0 : Int32))) (fun S5 y4_5 => some S5))
def bX6_tallyMean_9 (x1 : Int32) (S : St) (x2 : Int32) : Option (Bool × St × Int32) :=
  if (gF S 3) ≤ x2 then some (false, S, x2) else if x1 ≤ x2 then bq1 (fX6_addDrawn S x2 (1 : Int32)) (fun S4 => some (true, S4, (x2 + (1 : Int32)))) else bq1 (fX3_trait S x2 (2 : Int32)) (fun r5 => bq1 (fX5_trace S x2 r5) (fun S6 => bq1 (fX3_corners S6) (fun r7 => bq1 (fX1_add S6 x2 r7) (fun S8 => some (true, S8, (x2 + (1 : Int32)))))))
def fX6_tallyMean (S : St) (x1 : Int32) : Option St :=
  bq1 (fX1_empty S) (fun S1 => bq2 (lp (fun q => bX6_tallyMean_9 x1 q.1 q.2) fu (S1, (0 : Int32))) (fun S9 y2_9 => some S9))
def bX6_setFraction_18 (S : St) (x2 : Int32) : Option (Bool × St × Int32) :=
  if (4 : Int32) ≤ x2 then some (false, S, x2) else if (gF S 29) ≤ (1 : Int32) then some (false, S, x2) else if ((gF S 28) - (gF S 28) / (2 : Int32) * (2 : Int32)) = (0 : Int32) then some (true, (pF (pF S 28 ((gF S 28) / (2 : Int32))) 29 ((gF S 29) / (2 : Int32))), (x2 + (1 : Int32))) else some (false, S, x2)
def fX6_setFraction (S : St) (x1 : Int32) : Option St :=
  bq1 (fX3_corners (pF S 28 x1)) (fun r1 => bq2 (lp (fun q => bX6_setFraction_18 q.1 q.2) fu ((pF (pF S 28 x1) 29 r1), (0 : Int32))) (fun S5 y2_5 => some S5))
def fX6_expected_22 (S : St) : Option (Int32 × St) :=
  bq2 (fX6_refuse S (-2 : Int32)) (fun r3 S3 => some (r3, S3))
def fX6_expected (S : St) (x1 : Int32) (x2 : Int32) (x3 : Int32) : Option (Int32 × St) :=
  bq1 (fX3_hasEdge S x1 x2) (fun r1 => if r1 = (0 : Int32) then fX6_expected_22 S else if x3 < (0 : Int32) then fX6_expected_22 S else if x3 ≤ (16 : Int32) then bq1 (fX6_tallyMean S x3) (fun S6 => chk ((x1 * (4 : Int32)) + x2) 64 (bq1 (fX6_setFraction S6 (gR S6 11 ((x1 * (4 : Int32)) + x2))) (fun S8 => some ((1 : Int32), S8)))) else fX6_expected_22 S)
def fX6_part_9 (S : St) : Option (Int32 × St) :=
  bq2 (fX6_refuse S (-2 : Int32)) (fun r2 S2 => some (r2, S2))
def fX6_part (S : St) (x1 : Int32) : Option (Int32 × St) :=
  if x1 < (0 : Int32) then fX6_part_9 S else if x1 ≤ (1 : Int32) then if x1 = (0 : Int32) then some ((gF S 28), S) else some ((gF S 29), S) else fX6_part_9 S
def fX6_greatest (S : St) : Option (Int32 × St) :=
  if (gF S 3) = (0 : Int32) then bq2 (fX6_refuse S (-3 : Int32)) (fun r7 S7 => some (r7, S7)) else bq1 (fX6_tallyMean S (0 : Int32)) (fun S2 => bq1 (fX1_firstGreatest S2) (fun r3 => chk r3 64 (bq1 (fX6_setFraction S2 (gR S2 11 r3)) (fun S5 => bq1 (fX6_nameOf S5 r3) (fun r6 => some (r6, S5))))))
def bX1_squares_4 (S : St) (x1 : Int32) (x2 : Int32) : Option (Bool × Int32 × Int32) :=
  if (64 : Int32) ≤ x2 then some (false, x1, x2) else chk x2 64 (chk x2 64 (some (true, (x1 + ((gR S 11 x2) * (gR S 11 x2))), (x2 + (1 : Int32)))))
def fX1_squares (S : St) : Option Int32 :=
  bq2 (lp (fun q => bX1_squares_4 S q.1 q.2) fu ((0 : Int32), (0 : Int32))) (fun y1_4 y2_4 => some y1_4)
def fX6_chooseBetween_121 (S : St) (x1 : Int32) (x2 : Int32) (x3 : Int32) (x4 : Int32) (x5 : Int32) (x6 : Int32) : Option (Bool × St × Int32 × Int32 × Int32 × Int32) :=
  bq1 (fX1_add S x1 (-x2)) (fun S10 => some (true, S10, x3, x4, x5, (x6 + (1 : Int32))))
def fX6_chooseBetween_110 (S : St) (x1 : Int32) (x2 : Int32) (x6 : Int32) (x7 : Int32) (x8 : Int32) : Option (Bool × St × Int32 × Int32 × Int32 × Int32) :=
  fX6_chooseBetween_121 S x1 x2 x6 x7 x8 x6
def bX6_chooseBetween_25 (x1 : Int32) (x2 : Int32) (S : St) (x3 : Int32) (x4 : Int32) (x5 : Int32) (x6 : Int32) : Option (Bool × St × Int32 × Int32 × Int32 × Int32) :=
  if x2 ≤ x6 then some (false, S, x3, x4, x5, x6) else bq1 (fX5_trace S x1 x6) (fun S4 => bq1 (fX1_add S4 x1 x2) (fun S5 => bq1 (fX1_firstGreatest S5) (fun r6 => chk r6 64 (bq1 (fX1_squares S5) (fun r8 => if x6 = (0 : Int32) then fX6_chooseBetween_110 S5 x1 x2 x6 (gR S5 11 r6) r8 else if (gR S5 11 r6) < x4 then fX6_chooseBetween_110 S5 x1 x2 x6 (gR S5 11 r6) r8 else if (gR S5 11 r6) = x4 then if x5 ≤ r8 then fX6_chooseBetween_121 S5 x1 x2 x3 x4 x5 x6 else fX6_chooseBetween_110 S5 x1 x2 x6 (gR S5 11 r6) r8 else fX6_chooseBetween_121 S5 x1 x2 x3 x4 x5 x6)))))
def fX6_chooseBetween (S : St) (x1 : Int32) : Option St :=
  bq1 (fX6_addDrawn S x1 (-1 : Int32)) (fun S1 => bq1 (fX3_corners S1) (fun r2 => bq5 (lp (fun q => bX6_chooseBetween_25 x1 r2 q.1 q.2.1 q.2.2.1 q.2.2.2.1 q.2.2.2.2) fu (S1, (0 : Int32), (0 : Int32), (0 : Int32), (0 : Int32))) (fun S14 y3_14 y4_14 y5_14 y6_14 => bq1 (fX3_change S14 x1 (2 : Int32) y3_14) (fun S15 => bq1 (fX5_trace S15 x1 y3_14) (fun S16 => bq1 (fX1_add S16 x1 r2) (fun S17 => some S17))))))
def bX6_chooses_35 (S : St) (x1 : Int32) : Option (Bool × St × Int32) :=
  if (gF S 3) ≤ x1 then some (false, S, x1) else bq1 (fX6_chooseBetween S x1) (fun S5 => some (true, S5, (x1 + (1 : Int32))))
def fX6_chooses (S : St) : Option (Int32 × St) :=
  if (gF S 3) = (0 : Int32) then bq2 (fX6_refuse S (-3 : Int32)) (fun r9 S9 => some (r9, S9)) else bq1 (fX0_keep S) (fun S2 => bq1 (fX6_tallyMean S2 (0 : Int32)) (fun S3 => bq2 (lp (fun q => bX6_chooses_35 q.1 q.2) fu (S3, (0 : Int32))) (fun S6 y1_6 => bq1 (fX6_tallyWays S6) (fun S7 => bq1 (fX6_loadsFact S7 (0 : Int32)) (fun r8 => some (r8, S7))))))
def bfill_25_5 (x1 : Int32) (x3 : Int32) (S : St) (x2 : Int32) : Option (Bool × St × Int32) :=
  if x3 ≤ x2 then some (false, S, x2) else chk x2 16 (some (true, (pR S 12 x2 x1), (x2 + (1 : Int32))))
def ffill_25 (S : St) (x1 : Int32) : Option St :=
  bq2 (lp (fun q => bfill_25_5 x1 (16 : Int32) q.1 q.2) fu (S, (0 : Int32))) (fun S3 y2_3 => some S3)
def bfill_26_5 (x1 : Int32) (x3 : Int32) (S : St) (x2 : Int32) : Option (Bool × St × Int32) :=
  if x3 ≤ x2 then some (false, S, x2) else chk x2 16 (some (true, (pR S 13 x2 x1), (x2 + (1 : Int32))))
def ffill_26 (S : St) (x1 : Int32) : Option St :=
  bq2 (lp (fun q => bfill_26_5 x1 (16 : Int32) q.1 q.2) fu (S, (0 : Int32))) (fun S3 y2_3 => some S3)
def bfill_27_5 (x1 : Int32) (x3 : Int32) (S : St) (x2 : Int32) : Option (Bool × St × Int32) :=
  if x3 ≤ x2 then some (false, S, x2) else chk x2 16 (some (true, (pR S 14 x2 x1), (x2 + (1 : Int32))))
def ffill_27 (S : St) (x1 : Int32) : Option St :=
  bq2 (lp (fun q => bfill_27_5 x1 (16 : Int32) q.1 q.2) fu (S, (0 : Int32))) (fun S3 y2_3 => some S3)
def bfill_28_5 (x1 : Int32) (x3 : Int32) (S : St) (x2 : Int32) : Option (Bool × St × Int32) :=
  if x3 ≤ x2 then some (false, S, x2) else chk x2 16 (some (true, (pR S 15 x2 x1), (x2 + (1 : Int32))))
def ffill_28 (S : St) (x1 : Int32) : Option St :=
  bq2 (lp (fun q => bfill_28_5 x1 (16 : Int32) q.1 q.2) fu (S, (0 : Int32))) (fun S3 y2_3 => some S3)
def bX4_look_5 (S : St) (x3 : Int32) (x4 : Int32) : Option (Bool × St × Int32 × Int32) :=
  if (gF S 3) ≤ x4 then some (false, S, x3, x4) else chk x4 16 (chk x4 16 (chk x4 16 (if (gR S 8 x4) ≤ (gR S 14 x4) then some (true, (pR S 16 x4 (-1 : Int32)), x3, (x4 + (1 : Int32))) else chk x4 16 (bq1 (fX5_edge (pR S 16 x4 (-1 : Int32)) x4 (gR S 14 x4)) (fun r7 => chk x4 16 (chk r7 64 (chk r7 64 (some (true, (pR (pR (pR (pR S 16 x4 (-1 : Int32)) 16 x4 r7) 17 r7 (0 : Int32)) 18 r7 (-1 : Int32)), (1 : Int32), (x4 + (1 : Int32)))))))))))
def fX4_look (S : St) : Option (Int32 × St) :=
  bq3 (lp (fun q => bX4_look_5 q.1 q.2.1 q.2.2) fu (S, (0 : Int32), (0 : Int32))) (fun S11 y3_11 y4_11 => zb y3_11 (some (y3_11, S11)))
def fX4_legOf (S : St) (x2 : Int32) : Option Int32 :=
  chk x2 16 (chk x2 16 (if (gR S 9 x2) ≤ (gR S 14 x2) then some (2 : Int32) else some (1 : Int32)))
def fX4_lead (S : St) (x2 : Int32) (x3 : Int32) (x4 : Int32) : Option Int32 :=
  if x2 = (0 : Int32) then chk x4 16 (chk x3 16 (some ((gR S 15 x4) - (gR S 15 x3)))) else if x2 = (1 : Int32) then some (0 : Int32) else if x2 = (2 : Int32) then chk x3 16 (chk x3 16 (chk x4 16 (chk x4 16 (some (((gR S 8 x3) - (gR S 14 x3)) - ((gR S 8 x4) - (gR S 14 x4))))))) else if x2 = (3 : Int32) then bq1 (fX4_legOf S x3) (fun r11 => bq1 (fX4_legOf S x4) (fun r12 => some (r11 - r12))) else some (0 : Int32)
def fX4_isAhead (S : St) (x3 : Int32) (x4 : Int32) (x5 : Int32) : Option Int32 :=
  bq1 (fX4_lead S x3 x4 x5) (fun r1 => if r1 = (0 : Int32) then bq1 (fX3_trait S x4 (3 : Int32)) (fun r3 => bq1 (fX3_trait S x5 (3 : Int32)) (fun r4 => if r3 = r4 then if x5 ≤ x4 then some (0 : Int32) else some (1 : Int32) else if r3 ≤ r4 then some (0 : Int32) else some (1 : Int32))) else if r1 ≤ (0 : Int32) then some (0 : Int32) else some (1 : Int32))
def fX4_contest_86 (S : St) (x4 : Int32) (x5 : Int32) : Option (Bool × St × Int32) :=
  chk x5 64 (some (true, (pR S 18 x5 x4), (x4 + (1 : Int32))))
def bX4_contest_3 (x3 : Int32) (S : St) (x4 : Int32) : Option (Bool × St × Int32) :=
  if (gF S 3) ≤ x4 then some (false, S, x4) else chk x4 16 (if (gR S 16 x4) = (-1 : Int32) then some (true, S, (x4 + (1 : Int32))) else chk (gR S 16 x4) 64 (chk (gR S 16 x4) 64 (chk (gR S 16 x4) 64 (chk (gR S 16 x4) 64 (if (gR S 18 (gR S 16 x4)) = (-1 : Int32) then fX4_contest_86 (pF (pR S 17 (gR S 16 x4) ((gR S 17 (gR S 16 x4)) + (1 : Int32))) 33 (if (gF S 33) < (gR (pR S 17 (gR S 16 x4) ((gR S 17 (gR S 16 x4)) + (1 : Int32))) 17 (gR S 16 x4)) then (gR (pR S 17 (gR S 16 x4) ((gR S 17 (gR S 16 x4)) + (1 : Int32))) 17 (gR S 16 x4)) else (gF S 33))) x4 (gR S 16 x4) else chk (gR S 16 x4) 64 (bq1 (fX4_isAhead (pF (pR S 17 (gR S 16 x4) ((gR S 17 (gR S 16 x4)) + (1 : Int32))) 33 (if (gF S 33) < (gR (pR S 17 (gR S 16 x4) ((gR S 17 (gR S 16 x4)) + (1 : Int32))) 17 (gR S 16 x4)) then (gR (pR S 17 (gR S 16 x4) ((gR S 17 (gR S 16 x4)) + (1 : Int32))) 17 (gR S 16 x4)) else (gF S 33))) x3 x4 (gR S 18 (gR S 16 x4))) (fun r11 => if r11 = (0 : Int32) then some (true, (pF (pR S 17 (gR S 16 x4) ((gR S 17 (gR S 16 x4)) + (1 : Int32))) 33 (if (gF S 33) < (gR (pR S 17 (gR S 16 x4) ((gR S 17 (gR S 16 x4)) + (1 : Int32))) 17 (gR S 16 x4)) then (gR (pR S 17 (gR S 16 x4) ((gR S 17 (gR S 16 x4)) + (1 : Int32))) 17 (gR S 16 x4)) else (gF S 33))), (x4 + (1 : Int32))) else fX4_contest_86 (pF (pR S 17 (gR S 16 x4) ((gR S 17 (gR S 16 x4)) + (1 : Int32))) 33 (if (gF S 33) < (gR (pR S 17 (gR S 16 x4) ((gR S 17 (gR S 16 x4)) + (1 : Int32))) 17 (gR S 16 x4)) then (gR (pR S 17 (gR S 16 x4) ((gR S 17 (gR S 16 x4)) + (1 : Int32))) 17 (gR S 16 x4)) else (gF S 33))) x4 (gR S 16 x4))))))))
def fX4_contest (S : St) (x3 : Int32) : Option St :=
  bq2 (lp (fun q => bX4_contest_3 x3 q.1 q.2) fu (S, (0 : Int32))) (fun S13 y4_13 => some S13)
def bX4_move_2 (x2 : Int32) (S : St) (x3 : Int32) : Option (Bool × St × Int32) :=
  if (gF S 3) ≤ x3 then some (false, S, x3) else chk x3 16 (if (gR S 16 x3) = (-1 : Int32) then some (true, S, (x3 + (1 : Int32))) else chk (gR S 16 x3) 64 (if (gR S 18 (gR S 16 x3)) = x3 then chk x3 16 (chk x3 16 (chk x3 16 (chk x3 16 (some (true, (pR (pR (pR S 14 x3 ((gR S 14 x3) + (1 : Int32))) 15 x3 x2) 12 x3 x2), (x3 + (1 : Int32))))))) else chk x3 16 (chk x3 16 (some (true, (pR S 13 x3 ((gR S 13 x3) + (1 : Int32))), (x3 + (1 : Int32)))))))
def fX4_move (S : St) (x2 : Int32) : Option St :=
  bq2 (lp (fun q => bX4_move_2 x2 q.1 q.2) fu (S, (0 : Int32))) (fun S12 y3_12 => some S12)
def bX4_flow_45 (x3 : Int32) (x4 : Int32) (S : St) (x5 : Int32) : Option (Bool × St × Int32) :=
  if x4 < x5 then some (false, S, x5) else bq2 (fX4_look S) (fun r6 S6 => if r6 = (0 : Int32) then some (false, S6, x5) else bq1 (fX4_contest S6 x3) (fun S8 => bq1 (fX4_move S8 x5) (fun S9 => some (true, (pF S9 32 x5), (x5 + (1 : Int32))))))
def fX4_flow (S : St) (x3 : Int32) (x4 : Int32) : Option St :=
  bq1 (ffill_25 (pF (pF S 32 (0 : Int32)) 33 (0 : Int32)) (0 : Int32)) (fun S1 => bq1 (ffill_26 S1 (0 : Int32)) (fun S2 => bq1 (ffill_27 S2 (0 : Int32)) (fun S3 => bq1 (ffill_28 S3 (0 : Int32)) (fun S4 => bq2 (lp (fun q => bX4_flow_45 x3 x4 q.1 q.2) fu (S4, (1 : Int32))) (fun S10 y5_10 => some S10)))))
def bX4_mostDelayed_4 (S : St) (x1 : Int32) (x2 : Int32) (x3 : Int32) : Option (Bool × Int32 × Int32) :=
  if x1 ≤ x3 then some (false, x2, x3) else if x2 = (-1 : Int32) then some (true, x3, (x3 + (1 : Int32))) else chk x3 16 (chk x2 16 (if (gR S 13 x3) ≤ (gR S 13 x2) then some (true, x2, (x3 + (1 : Int32))) else some (true, x3, (x3 + (1 : Int32)))))
def fX4_mostDelayed (S : St) (x1 : Int32) : Option Int32 :=
  bq2 (lp (fun q => bX4_mostDelayed_4 S x1 q.1 q.2) fu ((-1 : Int32), (0 : Int32))) (fun y2_6 y3_6 => some y2_6)
def bX4_delayOfAll_4 (S : St) (x1 : Int32) (x2 : Int32) (x3 : Int32) : Option (Bool × Int32 × Int32) :=
  if x1 ≤ x3 then some (false, x2, x3) else chk x3 16 (some (true, (x2 + (gR S 13 x3)), (x3 + (1 : Int32))))
def fX4_delayOfAll (S : St) (x1 : Int32) : Option Int32 :=
  bq2 (lp (fun q => bX4_delayOfAll_4 S x1 q.1 q.2) fu ((0 : Int32), (0 : Int32))) (fun y2_3 y3_3 => some y2_3)
def fX6_runFact (S : St) (x1 : Int32) : Option Int32 :=
  bq1 (fX4_mostDelayed S (gF S 3)) (fun r1 => if x1 = (0 : Int32) then some (gF S 32) else if x1 = (1 : Int32) then bq1 (fX4_delayOfAll S (gF S 3)) (fun r4 => some r4) else if x1 = (2 : Int32) then if r1 = (-1 : Int32) then some (0 : Int32) else chk r1 16 (some (gR S 13 r1)) else if x1 = (3 : Int32) then some r1 else some (gF S 33))
def fX6_run_9 (S : St) : Option (Int32 × St) :=
  bq2 (fX6_refuse S (-2 : Int32)) (fun r2 S2 => some (r2, S2))
def fX6_run (S : St) (x1 : Int32) : Option (Int32 × St) :=
  if x1 < (0 : Int32) then fX6_run_9 S else if x1 ≤ (4 : Int32) then bq1 (fX5_follow S) (fun S4 => bq1 (fX4_flow S4 (gF S4 2) (400 : Int32)) (fun S5 => bq1 (fX6_runFact S5 x1) (fun r6 => some (r6, S5)))) else fX6_run_9 S
def fX6_ran_20 (S : St) : Option (Int32 × St) :=
  bq2 (fX6_refuse S (-2 : Int32)) (fun r3 S3 => some (r3, S3))
def fX6_ran_92 (S : St) (x1 : Int32) (x2 : Int32) (s0 : Int32) (s1 : Int32) : Option (Int32 × St) :=
  bq1 (fX4_flow S s1 s0) (fun S9 => if x2 = (0 : Int32) then chk x1 16 (some ((gR S9 12 x1), S9)) else if x2 = (1 : Int32) then chk x1 16 (some ((gR S9 13 x1), S9)) else chk x1 16 (bq1 (fX5_cornerBehind S9 x1 (gR S9 14 x1)) (fun r15 => some (r15, S9))))
def fX6_ran_50 (S : St) (x1 : Int32) (x2 : Int32) (x3 : Int32) : Option (Int32 × St) :=
  bq1 (fX5_follow S) (fun S7 => if x2 = (2 : Int32) then fX6_ran_92 S7 x1 x2 x3 (gF S7 2) else fX6_ran_92 S7 x1 x2 (400 : Int32) (gF S7 2))
def fX6_ran_43 (S : St) : Option (Int32 × St) :=
  bq2 (fX6_refuse S (-2 : Int32)) (fun r17 S17 => some (r17, S17))
def fX6_ran (S : St) (x1 : Int32) (x2 : Int32) (x3 : Int32) : Option (Int32 × St) :=
  bq1 (fX3_has S x1) (fun r1 => if r1 = (0 : Int32) then fX6_ran_20 S else if x2 < (0 : Int32) then fX6_ran_20 S else if x2 ≤ (2 : Int32) then if x2 = (2 : Int32) then if x3 < (0 : Int32) then fX6_ran_43 S else if x3 ≤ (400 : Int32) then fX6_ran_50 S x1 x2 x3 else fX6_ran_43 S else fX6_ran_50 S x1 x2 x3 else fX6_ran_20 S)
def fX6_best_9 (S : St) : Option (Int32 × St) :=
  bq2 (fX6_refuse S (-2 : Int32)) (fun r2 S2 => some (r2, S2))
def bX6_best_36 (S : St) (x2 : Int32) (x3 : Int32) (x4 : Int32) : Option (Bool × St × Int32 × Int32 × Int32) :=
  if (4 : Int32) ≤ x4 then some (false, S, x2, x3, x4) else bq1 (fX4_flow S x4 (400 : Int32)) (fun S6 => if x3 ≤ (gF S6 32) then some (true, S6, x2, x3, (x4 + (1 : Int32))) else some (true, S6, x4, (gF S6 32), (x4 + (1 : Int32))))
def fX6_best (S : St) (x1 : Int32) : Option (Int32 × St) :=
  if x1 < (0 : Int32) then fX6_best_9 S else if x1 ≤ (1 : Int32) then bq1 (fX5_follow S) (fun S4 => bq4 (lp (fun q => bX6_best_36 q.1 q.2.1 q.2.2.1 q.2.2.2) fu (S4, (0 : Int32), (400 : Int32), (0 : Int32))) (fun S8 y2_8 y3_8 y4_8 => if x1 = (0 : Int32) then some (y2_8, S8) else some (y3_8, S8))) else fX6_best_9 S
def bX6_straight_9 (S : St) (x1 : Int32) : Option (Bool × St × Int32) :=
  if (gF S 3) ≤ x1 then some (false, S, x1) else bq1 (fX3_trait S x1 (0 : Int32)) (fun r3 => bq1 (fX5_trace S x1 r3) (fun S4 => bq1 (fX1_add S4 x1 (1 : Int32)) (fun S5 => some (true, S5, (x1 + (1 : Int32))))))
def fX6_straight (S : St) : Option (Int32 × St) :=
  bq1 (fX1_empty S) (fun S1 => bq2 (lp (fun q => bX6_straight_9 q.1 q.2) fu (S1, (0 : Int32))) (fun S6 y1_6 => bq1 (fX6_loadsFact S6 (0 : Int32)) (fun r7 => some (r7, S6))))
def fX2_append (S : St) (x1 : Int32) : Option St :=
  if (120 : Int32) ≤ (gF S 34) then some S else chk (gF S 34) 120 (some (pF (pR S 19 (gF S 34) (vp_nar .byte (Int8.toInt32 (Int32.toInt8 x1)))) 34 ((gF S 34) + (1 : Int32))))
def fX6_type_11 (S : St) : Option (Int32 × St) :=
  bq2 (fX6_refuse S (-2 : Int32)) (fun r2 S2 => some (r2, S2))
def fX6_type (S : St) (x1 : Int32) : Option (Int32 × St) :=
  if x1 < (0 : Int32) then fX6_type_11 S else if x1 < (128 : Int32) then if (gF S 34) < (120 : Int32) then bq1 (fX2_append S x1) (fun S5 => some ((gF S5 34), S5)) else bq2 (fX6_refuse S (-4 : Int32)) (fun r6 S6 => some (r6, S6)) else fX6_type_11 S
def fX6_clear (S : St) : Option (Int32 × St) :=
  some ((gF S 34), (pF S 34 (0 : Int32)))
def bX2_skipBlanks_0 (S : St) : Option (Bool × St) :=
  if (gF S 34) ≤ (gF S 37) then some (false, S) else chk (gF S 37) 120 (if (gR S 19 (gF S 37)) = (32 : Int32) then some (true, (pF S 37 ((gF S 37) + (1 : Int32)))) else some (false, S))
def fX2_skipBlanks (S : St) : Option St :=
  bq1 (lp (fun q => bX2_skipBlanks_0 q) fu S) (fun S4 => some S4)
def fX2_failAt (S : St) (x1 : Int32) : Option St :=
  if (gF S 35) = (-1 : Int32) then some (pF S 35 x1) else some S
def bX2_readNumber_21 (x1 : Int32) (S : St) (x3 : Int32) : Option (Bool × St × Int32) :=
  if (gF S 34) ≤ (gF S 37) then some (false, S, x3) else chk (gF S 37) 120 (if (gR S 19 (gF S 37)) < (48 : Int32) then some (false, S, x3) else chk (gF S 37) 120 (if (57 : Int32) < (gR S 19 (gF S 37)) then some (false, S, x3) else chk (gF S 37) 120 (some (true, (pF S 37 ((gF S 37) + (1 : Int32))), (if x1 < ((((10 : Int32) * x3) + (gR S 19 (gF S 37))) - (48 : Int32)) then x1 else ((((10 : Int32) * x3) + (gR S 19 (gF S 37))) - (48 : Int32)))))))
def fX2_readNumber_118 (S : St) (x2 : Int32) (x3 : Int32) : Option (Int32 × St) :=
  bq1 (fX2_failAt S x2) (fun S11 => some (x3, S11))
def fX2_readNumber (S : St) (x1 : Int32) : Option (Int32 × St) :=
  if (gF S 35) = (-1 : Int32) then bq1 (fX2_skipBlanks S) (fun S2 => bq2 (lp (fun q => bX2_readNumber_21 x1 q.1 q.2) fu (S2, (0 : Int32))) (fun S9 y3_9 => if (gF S9 37) = (gF S2 37) then fX2_readNumber_118 S9 (gF S2 37) y3_9 else if (2 : Int32) < ((gF S9 37) - (gF S2 37)) then fX2_readNumber_118 S9 (gF S2 37) y3_9 else if y3_9 < x1 then some (y3_9, S9) else fX2_readNumber_118 S9 (gF S2 37) y3_9)) else some ((0 : Int32), S)
def fX2_takes (S : St) (x1 : Int32) : Option (Int32 × St) :=
  if (gF S 35) = (-1 : Int32) then bq1 (fX2_skipBlanks S) (fun S2 => if (gF S2 34) ≤ (gF S2 37) then some ((0 : Int32), S2) else chk (gF S2 37) 120 (if (gR S2 19 (gF S2 37)) = x1 then some ((1 : Int32), (pF S2 37 ((gF S2 37) + (1 : Int32)))) else some ((0 : Int32), S2))) else some ((0 : Int32), S)
def fX2_need (S : St) (x1 : Int32) : Option St :=
  bq2 (fX2_takes S x1) (fun r1 S1 => if r1 = (0 : Int32) then bq1 (fX2_failAt S1 (gF S1 37)) (fun S3 => some S3) else some S1)
def fX2_readParcel_78 (S : St) (x3 : Int32) (x4 : Int32) (x5 : Int32) (s0 : Int32) : Option St :=
  bq1 (fX2_need S (59 : Int32)) (fun S9 => if (gF S9 35) = (-1 : Int32) then chk (((gF S9 36) * (4 : Int32)) + (0 : Int32)) 64 (chk (((gF S9 36) * (4 : Int32)) + (1 : Int32)) 64 (chk (((gF S9 36) * (4 : Int32)) + (2 : Int32)) 64 (chk (((gF S9 36) * (4 : Int32)) + (3 : Int32)) 64 (some (pF (pR (pR (pR (pR S9 20 (((gF S9 36) * (4 : Int32)) + (0 : Int32)) x3) 20 (((gF S9 36) * (4 : Int32)) + (1 : Int32)) x4) 20 (((gF S9 36) * (4 : Int32)) + (2 : Int32)) x5) 20 (((gF S9 36) * (4 : Int32)) + (3 : Int32)) s0) 36 ((gF S9 36) + (1 : Int32))))))) else some S9)
def fX2_readParcel_57 (S : St) (x3 : Int32) (x4 : Int32) (s0 : Int32) : Option St :=
  bq2 (fX2_takes S (42 : Int32)) (fun r7 S7 => if r7 = (0 : Int32) then fX2_readParcel_78 S7 x3 x4 s0 (0 : Int32) else bq2 (fX2_readNumber S7 (100 : Int32)) (fun r15 S15 => fX2_readParcel_78 S15 x3 x4 s0 r15))
def fX2_readParcel (S : St) (x1 : Int32) (x2 : Int32) : Option St :=
  if (x1 + (gF S 36)) < (16 : Int32) then bq2 (fX2_readNumber S x2) (fun r2 S2 => bq1 (fX2_need S2 (62 : Int32)) (fun S3 => bq2 (fX2_readNumber S3 x2) (fun r4 S4 => bq2 (fX2_takes S4 (47 : Int32)) (fun r5 S5 => if r5 = (0 : Int32) then fX2_readParcel_57 S5 r2 r4 r2 else bq2 (fX2_readNumber S5 x2) (fun r16 S16 => fX2_readParcel_57 S16 r2 r4 r16))))) else bq1 (fX2_failAt S (gF S 37)) (fun S17 => some S17)
def bX2_read_40 (x1 : Int32) (x2 : Int32) (S : St) (x3 : Int32) : Option (Bool × St × Int32) :=
  if (120 : Int32) ≤ x3 then some (false, S, x3) else if (gF S 34) ≤ (gF S 37) then some (false, S, x3) else if (gF S 35) = (-1 : Int32) then bq1 (fX2_readParcel S x1 x2) (fun S6 => bq1 (fX2_skipBlanks S6) (fun S7 => some (true, S7, (x3 + (1 : Int32))))) else some (false, S, x3)
def fX2_read_38 (S : St) (x1 : Int32) (x2 : Int32) : Option St :=
  bq2 (lp (fun q => bX2_read_40 x1 x2 q.1 q.2) fu (S, (0 : Int32))) (fun S8 y3_8 => some S8)
def fX2_read (S : St) (x1 : Int32) (x2 : Int32) : Option St :=
  bq1 (fX2_skipBlanks (pF (pF (pF S 35 (-1 : Int32)) 36 (0 : Int32)) 37 (0 : Int32))) (fun S1 => if (gF S1 37) < (gF S1 34) then fX2_read_38 S1 x1 x2 else bq1 (fX2_failAt S1 (gF S1 34)) (fun S9 => fX2_read_38 S9 x1 x2))
def fX2_trait (S : St) (x1 : Int32) (x2 : Int32) : Option Int32 :=
  chk ((x1 * (4 : Int32)) + x2) 64 (some (gR S 20 ((x1 * (4 : Int32)) + x2)))
def bX6_reads_56 (S : St) (x1 : Int32) : Option (Bool × St × Int32) :=
  if (gF S 36) ≤ x1 then some (false, S, x1) else bq1 (fX2_trait S x1 (0 : Int32)) (fun r6 => bq1 (fX2_trait S x1 (1 : Int32)) (fun r7 => bq1 (fX2_trait S x1 (2 : Int32)) (fun r8 => bq1 (fX2_trait S x1 (3 : Int32)) (fun r9 => bq1 (fX3_add S r6 r7 r8 r9) (fun S10 => some (true, S10, (x1 + (1 : Int32))))))))
def fX6_reads (S : St) : Option (Int32 × St) :=
  bq1 (fX3_corners S) (fun r1 => bq1 (fX2_read S (gF S 3) r1) (fun S2 => if (gF S2 35) = (-1 : Int32) then bq1 (fX0_keep S2) (fun S4 => bq2 (lp (fun q => bX6_reads_56 q.1 q.2) fu (S4, (0 : Int32))) (fun S11 y1_11 => some ((gF S11 36), S11))) else some (((-10 : Int32) - (gF S2 35)), S2)))
def fX0_restore (S : St) : Option St :=
  if (gF S 30) = (0 : Int32) then some S else chk (gF S 31) 6 (bq1 (fX3_take 0 (1 + ((gF S 31)).toNatClampNeg) S) (fun S3 => some (pF (pF S3 31 ((((gF S3 31) + (6 : Int32)) - (1 : Int32)) - (((gF S3 31) + (6 : Int32)) - (1 : Int32)) / (6 : Int32) * (6 : Int32))) 30 ((gF S3 30) - (1 : Int32)))))
def fX6_back (S : St) : Option (Int32 × St) :=
  if (gF S 30) = (0 : Int32) then bq2 (fX6_refuse S (-3 : Int32)) (fun r3 S3 => some (r3, S3)) else bq1 (fX0_restore S) (fun S2 => some ((gF S2 30), S2))
def fX6_told_10 (S : St) : Option (Int32 × St) :=
  bq2 (fX6_refuse S (-2 : Int32)) (fun r2 S2 => some (r2, S2))
def fX6_told (S : St) (x1 : Int32) : Option (Int32 × St) :=
  if x1 < (0 : Int32) then fX6_told_10 S else if x1 ≤ (8 : Int32) then if x1 = (3 : Int32) then some ((gF S 34), S) else if x1 = (4 : Int32) then some ((gF S 0), S) else if x1 = (5 : Int32) then some ((gF S 3), S) else if x1 = (6 : Int32) then some ((gF S 1), S) else if x1 = (7 : Int32) then some ((gF S 2), S) else if x1 = (8 : Int32) then some ((gF S 30), S) else chk x1 3 (some ((gR S 7 x1), S)) else fX6_told_10 S
def bX6_digest_6 (S : St) (x1 : Int64) (x3 : Int32) : Option (Bool × St × Int64 × Int32) :=
  if (8 : Int32) < x3 then some (false, S, x1, x3) else bq2 (fX6_told S x3) (fun r2 S2 => some (true, S2, (((31 : Int64) * x1) + (Int32.toInt64 r2)), (x3 + (1 : Int32))))
def bX6_digest_51 (S : St) (x3 : Int32) (x1 : Int64) (x4 : Int32) : Option (Bool × Int64 × Int32) :=
  if (5 : Int32) < x4 then some (false, x1, x4) else bq1 (fX6_factOf S x3 x4) (fun r7 => some (true, (((31 : Int64) * x1) + (Int32.toInt64 r7)), (x4 + (1 : Int32))))
def bX6_digest_37 (S : St) (x1 : Int64) (x3 : Int32) : Option (Bool × Int64 × Int32) :=
  if (gF S 3) ≤ x3 then some (false, x1, x3) else bq2 (lp (fun q => bX6_digest_51 S x3 q.1 q.2) fu (x1, (0 : Int32))) (fun y1_8 y4_8 => some (true, y1_8, (x3 + (1 : Int32))))
def bX6_digest_110 (S : St) (x1 : Int64) (x3 : Int32) : Option (Bool × Int64 × Int32) :=
  if (2 : Int32) < x3 then some (false, x1, x3) else bq1 (fX6_loadsFact S x3) (fun r11 => some (true, (((31 : Int64) * x1) + (Int32.toInt64 r11)), (x3 + (1 : Int32))))
def bX6_digest_161 (S : St) (x1 : Int64) (x3 : Int32) : Option (Bool × Int64 × Int32) :=
  if (2 : Int32) < x3 then some (false, x1, x3) else bq1 (fX6_runFact S x3) (fun r15 => some (true, (((31 : Int64) * x1) + (Int32.toInt64 r15)), (x3 + (1 : Int32))))
def fX6_digest (S : St) : Option (Int64 × St) :=
  bq3 (lp (fun q => bX6_digest_6 q.1 q.2.1 q.2.2) fu (S, (2141 : Int64), (0 : Int32))) (fun S3 y1_3 y3_3 => bq1 (fX6_tallyWays S3) (fun S4 => bq2 (lp (fun q => bX6_digest_37 S4 q.1 q.2) fu (y1_3, (0 : Int32))) (fun y1_9 y3_9 => bq2 (lp (fun q => bX6_digest_110 S4 q.1 q.2) fu ((((31 : Int64) * (((31 : Int64) * y1_9) + (Int32.toInt64 (gF S4 28)))) + (Int32.toInt64 (gF S4 29))), (0 : Int32))) (fun y1_12 y3_12 => bq1 (fX4_flow S4 (gF S4 2) (400 : Int32)) (fun S13 => bq2 (lp (fun q => bX6_digest_161 S13 q.1 q.2) fu (y1_12, (0 : Int32))) (fun y1_16 y3_16 => some (y1_16, S13)))))))
