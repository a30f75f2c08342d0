def fJ7_fill_031fb_5 (P : PL) : Nat → CS → Int32 → Int32 → Int32 → Option (CS)
  | 0, _, _, _, _ => none
  | n + 1, g, y1, y2, y3 => if y3 ≤ y2 then (some g) else (chk (ib y2 2304) (chk (is8 y1) (bnd (tA g 28 (ix y2) y1) (fun g1 => bnd (y2 + (1 : Int32)) (fun x2 => fJ7_fill_031fb_5 P n g1 y1 x2 y3)))))
def fJ7_fill_031fb (P : PL) (g : CS) (a1 : Int32) : Option (CS) :=
  fJ7_fill_031fb_5 P fuel g a1 (0 : Int32) (2304 : Int32)
def fX1_at (a0 : Int32) (a1 : Int32) : Option (Int32) :=
  some ((jush a0 (jshl a1 (2 : Int32))) &&& (15 : Int32))
def fX4_bounded (a0 : Int64) : Option (Int32) :=
  if (lg_cmp a0 (1000000 : Int64)) ≤ 0 then (if 0 ≤ (lg_cmp a0 (-1000000 : Int64)) then (some a0.toInt32) else (some (-1000000 : Int32))) else (some (1000000 : Int32))
def fX4_join_102 (y1 : Int32) (y2 : Int32) : Option (Int64) :=
  some ((y1 ||| y2).toInt64)
def fX4_join (a0 : Int32) (a1 : Int32) (a2 : Int32) : Option (Int64) :=
  if a0 = (-12 : Int32) then (some ((a1 &&& a2).toInt64)) else (if a0 = (-10 : Int32) then (if a1 ≤ a2 then (some (0 : Int64)) else (some (1 : Int64))) else (if a0 = (-9 : Int32) then (if a2 ≤ a1 then (some (0 : Int64)) else (some (1 : Int64))) else (if a0 = (-8 : Int32) then (if a1 = a2 then (some (1 : Int64)) else (some (0 : Int64))) else (if a0 = (-7 : Int32) then (some (a1.toInt64 * a2.toInt64)) else (if a0 = (-6 : Int32) then (some ((a1 - a2).toInt64)) else (if a0 = (-5 : Int32) then (some ((a1 + a2).toInt64)) else (fX4_join_102 a1 a2)))))))
def fX4_pop (P : PL) (g : CS) : Option (Int32 × CS) :=
  if (1 : Int32) ≤ (g.1 10 1) then (bnd (tI g 10 1 ((g.1 10 1) - (1 : Int32))) (fun g1 => chk (ib (g1.1 10 1) 64) (some (g1.2.1 11 (ix (g1.1 10 1)), g1)))) else (some ((0 : Int32), g))
def fX4_push (P : PL) (g : CS) (a0 : Int32) : Option (CS) :=
  if (64 : Int32) ≤ (g.1 10 1) then (some g) else (chk (ib (g.1 10 1) 64) (bnd (tA g 11 (ix (g.1 10 1)) a0) (fun g1 => bnd (tI g1 10 1 ((g1.1 10 1) + (1 : Int32))) (fun g2 => some g2))))
def fX4_reckon_127 (P : PL) (k8 : CS → Nat → Int32 → Int32 → Int32 → Int32 → Int32 → Option (Int32 × CS)) (g : CS) (y1 : Nat) (y2 : Int32) (y3 : Int32) (y4 : Int32) (y5 : Int32) (y6 : Int32) (y7 : Int32) : Option (Int32 × CS) :=
  if y7 < 0 then (bndc (fX4_pop P g ) (fun x1 g2 => bndc (fX4_pop P g2 ) (fun x3 g4 => bndv (fX4_join y7 x3 x1) (fun x5 => bndv (fX4_bounded x5) (fun x6 => bndv (fX4_push P g4 x6) (fun g7 => bnd (y6 + (1 : Int32)) (fun x8 => k8 g7 y1 y2 y3 y4 y5 x8))))))) else (bndv (fX4_push P g y7) (fun g9 => bnd (y6 + (1 : Int32)) (fun x10 => k8 g9 y1 y2 y3 y4 y5 x10)))
def fX4_reckon_8 (P : PL) : Nat → CS → Nat → Int32 → Int32 → Int32 → Int32 → Int32 → Option (Int32 × CS)
  | 0, _, _, _, _, _, _, _ => none
  | n + 1, g, y1, y2, y3, y4, y5, y6 => chk (inL P y1) (if (nI (P.2.2 y1).1) ≤ y6 then (bndc (fX4_pop P g ) (fun x11 g12 => some (x11, g12))) else (chk (inL P y1) (chk (ib y6 (P.2.2 y1).1) (bnd ((P.2.2 y1).2 (ix y6)) (fun x13 => if x13 = (-11 : Int32) then (bndc (fX4_pop P g ) (fun x14 g15 => bndv (fX4_push P g15 ((1 : Int32) - x14)) (fun g16 => bnd (y6 + (1 : Int32)) (fun x17 => fX4_reckon_8 P n g16 y1 y2 y3 y4 y5 x17)))) else (if x13 = (-4 : Int32) then (bndv (fX4_push P g y5) (fun g22 => bnd (y6 + (1 : Int32)) (fun x23 => fX4_reckon_8 P n g22 y1 y2 y3 y4 y5 x23))) else (if x13 = (-3 : Int32) then (bndv (fX4_push P g y4) (fun g26 => bnd (y6 + (1 : Int32)) (fun x27 => fX4_reckon_8 P n g26 y1 y2 y3 y4 y5 x27))) else (if x13 = (-2 : Int32) then (bndv (fX4_push P g y3) (fun g30 => bnd (y6 + (1 : Int32)) (fun x31 => fX4_reckon_8 P n g30 y1 y2 y3 y4 y5 x31))) else (if x13 = (-1 : Int32) then (bndv (fX4_push P g y2) (fun g34 => bnd (y6 + (1 : Int32)) (fun x35 => fX4_reckon_8 P n g34 y1 y2 y3 y4 y5 x35))) else (fX4_reckon_127 P (fX4_reckon_8 P n) g y1 y2 y3 y4 y5 y6 x13))))))))))
def fX4_reckon (P : PL) (g : CS) (a0 : Nat) (a1 : Int32) (a2 : Int32) (a3 : Int32) (a4 : Int32) : Option (Int32 × CS) :=
  bnd (tI g 10 1 (0 : Int32)) (fun g38 => fX4_reckon_8 P fuel g38 a0 a1 a2 a3 a4 (0 : Int32))
def fX6_pace (P : PL) (g : CS) (o : Nat) (a0 : Int32) (a1 : Int32) (a2 : Int32) : Option (Int32 × CS) :=
  chk (inL P (g.2.2.2 o 10)) (if (nI (P.2.2 (g.2.2.2 o 10)).1) = 0 then (some ((0 : Int32), g)) else (if (1 : Int32) ≤ (g.1 o 1) then (bndv (fX1_at (g.1 o 4) a0) (fun x1 => bndc (fX4_reckon P g (g.2.2.2 o 10) a0 x1 a1 a2) (fun x2 g3 => chk (nz (g3.1 o 1)) (some (jfm x2 (g3.1 o 1), g3))))) else (some ((0 : Int32), g))))
def fX0_paceOf_59 (P : PL) (g : CS) (y4 : Int32) : Option (Int32 × CS) :=
  chk (ib y4 2304) (some (g.2.1 28 (ix y4), g))
def fX0_paceOf (P : PL) (g : CS) (a0 : Int32) (a1 : Int32) (a2 : Int32) : Option (Int32 × CS) :=
  bnd ((((a0 * (6 : Int32)) + a1) * (64 : Int32)) + a2) (fun x1 => if x1 < 0 then (some ((0 : Int32), g)) else (if x1 < (2304 : Int32) then (chk (ib x1 2304) (if (g.2.1 28 (ix x1)) = (-1 : Int32) then (bndc (fX6_pace P g 30 a0 a1 a2) (fun x2 g3 => chk (ib x1 2304) (chk (is8 x2.toInt8.toInt32) (bnd (tA g3 28 (ix x1) x2.toInt8.toInt32) (fun g4 => fX0_paceOf_59 P g4 x1))))) else (fX0_paceOf_59 P g x1))) else (some ((0 : Int32), g))))
def fX1_plus (a0 : Int32) (a1 : Int32) (a2 : Int32) : Option (Int32) :=
  bnd (a0 + a1) (fun x1 => bnd (jush ((x1 + (((8 : Int32) - a2) * (1118481 : Int32))) &&& (8947848 : Int32)) (3 : Int32)) (fun x2 => some (x1 - (x2 * a2))))
def fX1_votesAt (a0 : Int64) (a1 : Int32) : Option (Int32) :=
  some (((jushL a0 (jshl a1 (3 : Int32))).toInt32) &&& (255 : Int32))
def fX6_isStuck (P : PL) (g : CS) (o : Nat) (a0 : Int32) : Option (Int32 × CS) :=
  if ((jshr (g.1 o 5) a0) &&& (1 : Int32)) = 0 then (some ((0 : Int32), g)) else (some ((1 : Int32), g))
def fX6_votesIn_81 (P : PL) (k14 : CS → Nat → Int64 → Int32 → Int32 → Int32 → Option (Int64 × CS)) (g : CS) (y0 : Nat) (y2 : Int64) (y4 : Int32) (y5 : Int32) (y6 : Int32) : Option (Int64 × CS) :=
  bnd (jush y4 (4 : Int32)) (fun x1 => bnd (jush y5 (4 : Int32)) (fun x2 => bnd (y6 + (1 : Int32)) (fun x3 => k14 g y0 y2 x1 x2 x3)))
def fX6_votesIn_65 (P : PL) (k14 : CS → Nat → Int64 → Int32 → Int32 → Int32 → Option (Int64 × CS)) (g : CS) (y0 : Nat) (y2 : Int64) (y4 : Int32) (y5 : Int32) (y6 : Int32) (t0 : Int32) : Option (Int64 × CS) :=
  bnd (y2 + (jshlL ((y5 &&& (15 : Int32)).toInt64) (jshl t0 (3 : Int32)))) (fun x4 => fX6_votesIn_81 P k14 g y0 x4 y4 y5 y6)
def fX6_votesIn_14 (P : PL) : Nat → CS → Nat → Int64 → Int32 → Int32 → Int32 → Option (Int64 × CS)
  | 0, _, _, _, _, _, _ => none
  | n + 1, g, y0, y2, y4, y5, y6 => if (g.1 y0 1) ≤ y6 then (some (y2, g)) else (bnd (y4 &&& (15 : Int32)) (fun x5 => if x5 = 0 then (fX6_votesIn_81 P (fX6_votesIn_14 P n) g y0 y2 y4 y5 y6) else (if (g.1 y0 1) ≤ (y6 + x5) then (fX6_votesIn_65 P (fX6_votesIn_14 P n) g y0 y2 y4 y5 y6 ((y6 + x5) - (g.1 y0 1))) else (fX6_votesIn_65 P (fX6_votesIn_14 P n) g y0 y2 y4 y5 y6 (y6 + x5)))))
def fX6_votesIn (P : PL) (g : CS) (o : Nat) (a0 : Int32) : Option (Int64 × CS) :=
  bnd (g.1 o 4) (fun x6 => fX6_votesIn_14 P fuel g o (0 : Int64) a0 x6 (0 : Int32))
def fX0_behindMinute_15 (P : PL) : Nat → CS → Int32 → Int64 → Int32 → Int32 → Option (Int32 × CS)
  | 0, _, _, _, _, _ => none
  | n + 1, g, y1, y2, y4, y5 => if (g.1 30 1) ≤ y5 then (bndv (fX1_plus y1 y4 (g.1 30 1)) (fun x1 => some (x1, g))) else (bndc (fX6_isStuck P g 30 y5) (fun x2 g3 => if x2 = 0 then (bndv (fX1_at y1 y5) (fun x5 => bndv (fX1_votesAt y2 y5) (fun x6 => bndc (fX0_paceOf P g3 y5 x5 x6) (fun x7 g8 => bnd (y4 ||| (jshl x7 (jshl y5 (2 : Int32)))) (fun x9 => bnd (y5 + (1 : Int32)) (fun x10 => fX0_behindMinute_15 P n g8 y1 y2 x9 x10)))))) else (bnd (y5 + (1 : Int32)) (fun x4 => fX0_behindMinute_15 P n g3 y1 y2 y4 x4))))
def fX0_behindMinute (P : PL) (g : CS) (a0 : Int32) : Option (Int32 × CS) :=
  bndc (fX6_votesIn P g 30 a0) (fun x11 g12 => fX0_behindMinute_15 P fuel g12 a0 x11 (0 : Int32) (0 : Int32))
def fX0_settle_153 (P : PL) : Nat → CS → Int32 → Int32 → Int32 → Option (CS)
  | 0, _, _, _, _ => none
  | n + 1, g, y1, y2, y4 => if (200000 : Int32) ≤ y4 then (some g) else (if y1 = y2 then (some g) else (bndc (fX0_behindMinute P g y1) (fun x1 g2 => bndc (fX0_behindMinute P g2 y2) (fun x3 g4 => bnd (tI g4 27 3 ((g4.1 27 3) + (1 : Int32))) (fun g5 => bnd (y4 + (1 : Int32)) (fun x6 => fX0_settle_153 P n g5 x1 x3 x6))))))
def fX0_settle_124 (P : PL) : Nat → CS → Int32 → Int32 → Int32 → Option (CS)
  | 0, _, _, _, _ => none
  | n + 1, g, y1, y2, y4 => if (g.1 27 4) ≤ y4 then (bnd (tI g 27 3 (0 : Int32)) (fun g7 => fX0_settle_153 P fuel g7 y1 y2 (0 : Int32))) else (bndc (fX0_behindMinute P g y2) (fun x8 g9 => bnd (y4 + (1 : Int32)) (fun x10 => fX0_settle_124 P n g9 y1 x8 x10)))
def fX0_settle_111 (P : PL) (g : CS) : Option (CS) :=
  bnd (g.1 30 3) (fun x11 => fX0_settle_124 P fuel g x11 x11 (0 : Int32))
def fX0_settle_89 (P : PL) (k58 : CS → Int32 → Int32 → Int32 → Int32 → Option (CS)) (g : CS) (y1 : Int32) (y2 : Int32) (y3 : Int32) (y4 : Int32) : Option (CS) :=
  bndc (fX0_behindMinute P g y2) (fun x12 g13 => bnd (tI g13 27 4 ((g13.1 27 4) + (1 : Int32))) (fun g14 => bnd (y4 + (1 : Int32)) (fun x15 => k58 g14 y1 x12 y3 x15)))
def fX0_settle_58 (P : PL) : Nat → CS → Int32 → Int32 → Int32 → Int32 → Option (CS)
  | 0, _, _, _, _, _ => none
  | n + 1, g, y1, y2, y3, y4 => if (200000 : Int32) ≤ y4 then (fX0_settle_111 P g) else (if y1 = y2 then (fX0_settle_111 P g) else (if (g.1 27 4) = y3 then (bnd (y3 * (2 : Int32)) (fun x16 => bnd (tI g 27 4 (0 : Int32)) (fun g17 => fX0_settle_89 P (fX0_settle_58 P n) g17 y2 y2 x16 y4))) else (fX0_settle_89 P (fX0_settle_58 P n) g y1 y2 y3 y4)))
def fX0_settle (P : PL) (g : CS) : Option (CS) :=
  if (g.1 27 1) = (g.1 30 7) then (some g) else (bnd (tI g 27 1 (g.1 30 7)) (fun g18 => bndv (fJ7_fill_031fb P g18 (-1 : Int32)) (fun g19 => bnd (g19.1 30 3) (fun x20 => bndc (fX0_behindMinute P g19 x20) (fun x21 g22 => bnd (tI g22 27 4 (1 : Int32)) (fun g23 => fX0_settle_58 P fuel g23 x20 x21 (1 : Int32) (0 : Int32)))))))
def fX0_lookIn_52 (P : PL) : Nat → CS → Int32 → Int32 → Int32 → Option (Int32 × CS)
  | 0, _, _, _, _ => none
  | n + 1, g, y2, y3, y4 => if y2 ≤ y4 then (some (y3, g)) else (bndc (fX0_behindMinute P g y3) (fun x1 g2 => bnd (y4 + (1 : Int32)) (fun x3 => fX0_lookIn_52 P n g2 y2 x1 x3)))
def fX0_lookIn_40 (P : PL) (g : CS) (t0 : Int32) : Option (Int32 × CS) :=
  bnd (g.1 30 3) (fun x4 => fX0_lookIn_52 P fuel g t0 x4 (0 : Int32))
def fX0_lookIn_20 (P : PL) (g : CS) (y1 : Int32) : Option (Int32 × CS) :=
  fX0_lookIn_40 P g y1
def fX0_lookIn (P : PL) (g : CS) (a0 : Int32) : Option (Int32 × CS) :=
  bndv (fX0_settle P g ) (fun g5 => if a0 < (g5.1 27 3) then (fX0_lookIn_20 P g5 a0) else (if (1 : Int32) ≤ (g5.1 27 4) then (chk (nz (g5.1 27 4)) (fX0_lookIn_40 P g5 ((g5.1 27 3) + (jrem (a0 - (g5.1 27 3)) (g5.1 27 4))))) else (fX0_lookIn_20 P g5 a0)))
def fX6_chairOf_47 (P : PL) (k15 : CS → Nat → Int64 → Int32 → Int32 → Int32 → Option (Int32 × CS)) (g : CS) (y0 : Nat) (y2 : Int64) (y4 : Int32) (y5 : Int32) (y6 : Int32) : Option (Int32 × CS) :=
  bnd (jushL y2 (8 : Int32)) (fun x1 => bnd (y6 + (1 : Int32)) (fun x2 => k15 g y0 x1 y4 y5 x2))
def fX6_chairOf_15 (P : PL) : Nat → CS → Nat → Int64 → Int32 → Int32 → Int32 → Option (Int32 × CS)
  | 0, _, _, _, _, _, _ => none
  | n + 1, g, y0, y2, y4, y5, y6 => if (g.1 y0 1) ≤ y6 then (some (y4, g)) else (bnd (y2.toInt32 &&& (255 : Int32)) (fun x3 => if x3 ≤ y5 then (fX6_chairOf_47 P (fX6_chairOf_15 P n) g y0 y2 y4 y5 y6) else (fX6_chairOf_47 P (fX6_chairOf_15 P n) g y0 y2 y6 x3 y6)))
def fX6_chairOf (P : PL) (g : CS) (o : Nat) (a0 : Int32) : Option (Int32 × CS) :=
  bndc (fX6_votesIn P g o a0) (fun x4 g5 => fX6_chairOf_15 P fuel g5 o x4 (-1 : Int32) (0 : Int32) (0 : Int32))
def fX0_reignOf_87 (P : PL) (k18 : CS → Int32 → Int32 → Int32 → Int32 → Int32 → Option (Int32 × CS)) (g : CS) (y1 : Int32) (y2 : Int32) (y3 : Int32) (y4 : Int32) (y5 : Int32) : Option (Int32 × CS) :=
  bndc (fX0_behindMinute P g y3) (fun x1 g2 => bnd (y5 + (1 : Int32)) (fun x3 => k18 g2 y1 y2 x1 y4 x3))
def fX0_reignOf_84 (P : PL) (k18 : CS → Int32 → Int32 → Int32 → Int32 → Int32 → Option (Int32 × CS)) (g : CS) (y1 : Int32) (y2 : Int32) (y3 : Int32) (y5 : Int32) (t0 : Int32) (t1 : Int32) : Option (Int32 × CS) :=
  bnd (t0 + t1) (fun x4 => fX0_reignOf_87 P k18 g y1 y2 y3 x4 y5)
def fX0_reignOf_69 (P : PL) (k18 : CS → Int32 → Int32 → Int32 → Int32 → Int32 → Option (Int32 × CS)) (g : CS) (y1 : Int32) (y2 : Int32) (y3 : Int32) (y5 : Int32) (t0 : Int32) : Option (Int32 × CS) :=
  fX0_reignOf_84 P k18 g y1 y2 y3 y5 t0 (1 : Int32)
def fX0_reignOf_18 (P : PL) : Nat → CS → Int32 → Int32 → Int32 → Int32 → Int32 → Option (Int32 × CS)
  | 0, _, _, _, _, _, _ => none
  | n + 1, g, y1, y2, y3, y4, y5 => if y2 < y5 then (some (y4, g)) else (if ((g.1 27 3) + (g.1 27 4)) ≤ y5 then (some (y4, g)) else (bndc (fX6_chairOf P g 30 y3) (fun x5 g6 => if x5 = y1 then (if y5 < (g6.1 27 3) then (fX0_reignOf_69 P (fX0_reignOf_18 P n) g6 y1 y2 y3 y5 y4) else (if (1 : Int32) ≤ (g6.1 27 4) then (chk (nz (g6.1 27 4)) (fX0_reignOf_84 P (fX0_reignOf_18 P n) g6 y1 y2 y3 y5 y4 ((1 : Int32) + ((y2 - y5) / (g6.1 27 4))))) else (fX0_reignOf_69 P (fX0_reignOf_18 P n) g6 y1 y2 y3 y5 y4))) else (fX0_reignOf_87 P (fX0_reignOf_18 P n) g6 y1 y2 y3 y4 y5))))
def fX0_reignOf (P : PL) (g : CS) (a0 : Int32) (a1 : Int32) : Option (Int32 × CS) :=
  bndv (fX0_settle P g ) (fun g7 => bnd (g7.1 30 3) (fun x8 => fX0_reignOf_18 P fuel g7 a0 a1 x8 (0 : Int32) (0 : Int32)))
def fX0_firstOf_14 (P : PL) : Nat → CS → Int32 → Int32 → Int32 → Option (Int32 × CS)
  | 0, _, _, _, _ => none
  | n + 1, g, y1, y2, y3 => if ((g.1 27 3) + (g.1 27 4)) ≤ y3 then (some ((-1 : Int32), g)) else (bndc (fX6_chairOf P g 30 y2) (fun x1 g2 => if x1 = y1 then (some (y3, g2)) else (bndc (fX0_behindMinute P g2 y2) (fun x3 g4 => bnd (y3 + (1 : Int32)) (fun x5 => fX0_firstOf_14 P n g4 y1 x3 x5)))))
def fX0_firstOf (P : PL) (g : CS) (a0 : Int32) : Option (Int32 × CS) :=
  bndv (fX0_settle P g ) (fun g6 => bnd (g6.1 30 3) (fun x7 => fX0_firstOf_14 P fuel g6 a0 x7 (0 : Int32)))
def fX1_with (a0 : Int32) (a1 : Int32) (a2 : Int32) : Option (Int32) :=
  bnd (jshl a1 (2 : Int32)) (fun x1 => some ((a0 &&& ((jshl (15 : Int32) x1) ^^^ (-1 : Int32))) ||| (jshl (a2 &&& (15 : Int32)) x1)))
def fX1_ofBits_4 : Nat → Int32 → Int32 → Int32 → Option (Int32)
  | 0, _, _, _ => none
  | n + 1, y0, y1, y2 => if (6 : Int32) ≤ y2 then (some y1) else (bnd (y1 ||| (jshl ((jshr y0 y2) &&& (1 : Int32)) (jshl y2 (2 : Int32)))) (fun x1 => bnd (y2 + (1 : Int32)) (fun x2 => fX1_ofBits_4 n y0 x1 x2)))
def fX1_ofBits (a0 : Int32) : Option (Int32) :=
  fX1_ofBits_4 fuel a0 (0 : Int32) (0 : Int32)
def fX1_kneesIn_4 : Nat → Int32 → Int32 → Int32 → Int32 → Option (Int32)
  | 0, _, _, _, _ => none
  | n + 1, y0, y1, y2, y3 => if y1 ≤ y3 then (some y2) else (bndv (fX1_at y0 y3) (fun x1 => if x1 = 0 then (bnd (y3 + (1 : Int32)) (fun x2 => fX1_kneesIn_4 n y0 y1 y2 x2)) else (if y1 ≤ (y3 + x1) then (bnd (y3 + (1 : Int32)) (fun x3 => fX1_kneesIn_4 n y0 y1 y2 x3)) else (bndv (fX1_at y0 (y3 + x1)) (fun x4 => if x4 = (y1 - x1) then (bnd (y2 + (1 : Int32)) (fun x6 => bnd (y3 + (1 : Int32)) (fun x7 => fX1_kneesIn_4 n y0 y1 x6 x7))) else (bnd (y3 + (1 : Int32)) (fun x5 => fX1_kneesIn_4 n y0 y1 y2 x5)))))))
def fX1_kneesIn (a0 : Int32) (a1 : Int32) : Option (Int32) :=
  fX1_kneesIn_4 fuel a0 a1 (0 : Int32) (0 : Int32)
def fX2_begin_40 (P : PL) (g : CS) (t1 : Int32) : Option (CS) :=
  chk (isB t1) (bnd (tI g 6 10 t1) (fun g1 => if (g1.1 6 10) = 0 then (bnd (tI g1 6 6 (0 : Int32)) (fun g2 => some g2)) else (bnd (tI g1 6 6 (1 : Int32)) (fun g3 => some g3))))
def fX2_begin (P : PL) (g : CS) (a0 : Int32) : Option (CS) :=
  bnd (tI g 6 5 a0) (fun g4 => bnd (tI g4 6 1 (0 : Int32)) (fun g5 => bnd (tI g5 6 4 (0 : Int32)) (fun g6 => bnd (tI g6 6 7 (0 : Int32)) (fun g7 => bnd (tI g7 6 8 (0 : Int32)) (fun g8 => bnd (tI g8 6 9 (1 : Int32)) (fun g9 => if a0 = 0 then (fX2_begin_40 P g9 (1 : Int32)) else (fX2_begin_40 P g9 (0 : Int32))))))))
def fX2_isWhole (P : PL) (g : CS) : Option (Int32 × CS) :=
  if (g.1 6 9) = 0 then (if (g.1 6 8) = 0 then (if (g.1 6 6) = (1 : Int32) then (some ((0 : Int32), g)) else (some ((1 : Int32), g))) else (some ((0 : Int32), g))) else (some ((0 : Int32), g))
def fX2_emit (P : PL) (g : CS) (a0 : Int32) : Option (CS) :=
  if (900 : Int32) ≤ (g.1 6 1) then (some g) else (chk (ib (g.1 6 1) 900) (bnd (tA g 7 (ix (g.1 6 1)) a0) (fun g1 => bnd (tI g1 6 1 ((g1.1 6 1) + (1 : Int32))) (fun g2 => some g2))))
def fX8_signAt (P : PL) (g : CS) (a0 : Int32) : Option (Int32 × CS) :=
  if a0 < 0 then (some ((-1 : Int32), g)) else (if (g.1 5 1) ≤ a0 then (some ((-1 : Int32), g)) else (chk (ib a0 900) (some ((g.2.1 1 (ix a0)) &&& (255 : Int32), g))))
def fX8_isWord_28 (P : PL) : Nat → CS → Nat → Int32 → Option (Int32 × CS)
  | 0, _, _, _ => none
  | n + 1, g, y1, y2 => if (nI (tx y1).length) ≤ y2 then (some ((1 : Int32), g)) else (bndc (fX8_signAt P g ((g.1 5 4) + y2)) (fun x1 g2 => chk (ib y2 (tx y1).length) (if x1 = ((tx y1).getD (ix y2) 0) then (bnd (y2 + (1 : Int32)) (fun x3 => fX8_isWord_28 P n g2 y1 x3)) else (some ((0 : Int32), g2)))))
def fX8_isWord (P : PL) (g : CS) (a0 : Nat) : Option (Int32 × CS) :=
  if (g.1 5 3) = (1 : Int32) then (if ((g.1 5 2) - (g.1 5 4)) = (nI (tx a0).length) then (fX8_isWord_28 P fuel g a0 (0 : Int32)) else (some ((0 : Int32), g))) else (some ((0 : Int32), g))
def fX2_nameOf_75 (P : PL) (g : CS) : Option (Int32 × CS) :=
  if (g.1 6 5) = (2 : Int32) then (bndc (fX8_isWord P g 12) (fun x1 g2 => if x1 = 0 then (some ((0 : Int32), g2)) else (some ((-4 : Int32), g2)))) else (some ((0 : Int32), g))
def fX2_nameOf_59 (P : PL) (g : CS) : Option (Int32 × CS) :=
  if (g.1 6 5) = 0 then (bndc (fX8_isWord P g 11) (fun x3 g4 => if x3 = 0 then (fX2_nameOf_75 P g4) else (some ((-4 : Int32), g4)))) else (fX2_nameOf_75 P g)
def fX2_nameOf_39 (P : PL) (g : CS) : Option (Int32 × CS) :=
  if (g.1 6 5) = (2 : Int32) then (bndc (fX8_isWord P g 10) (fun x5 g6 => if x5 = 0 then (fX2_nameOf_59 P g6) else (some ((-3 : Int32), g6)))) else (fX2_nameOf_59 P g)
def fX2_nameOf (P : PL) (g : CS) : Option (Int32 × CS) :=
  bndc (fX8_isWord P g 7) (fun x7 g8 => if x7 = 0 then (bndc (fX8_isWord P g8 8) (fun x9 g10 => if x9 = 0 then (if (g10.1 6 5) = 0 then (bndc (fX8_isWord P g10 9) (fun x11 g12 => if x11 = 0 then (fX2_nameOf_39 P g12) else (some ((-3 : Int32), g12)))) else (fX2_nameOf_39 P g10)) else (some ((-2 : Int32), g10)))) else (some ((-1 : Int32), g8)))
def fX2_push (P : PL) (g : CS) (a0 : Int32) : Option (CS) :=
  if (64 : Int32) ≤ (g.1 6 4) then (some g) else (chk (ib (g.1 6 4) 64) (bnd (tA g 8 (ix (g.1 6 4)) a0) (fun g1 => chk (ib (g1.1 6 4) 64) (bnd (tA g1 9 (ix (g1.1 6 4)) (g1.1 6 6)) (fun g2 => bnd (tI g2 6 4 ((g2.1 6 4) + (1 : Int32))) (fun g3 => some g3))))))
def fX2_open_42 (P : PL) (g : CS) (y1 : Int32) : Option (Int32 × CS) :=
  if y1 = (-14 : Int32) then (bnd (tI g 6 6 (0 : Int32)) (fun g1 => bnd (tI g1 6 10 (0 : Int32)) (fun g2 => some ((0 : Int32), g2)))) else (some ((0 : Int32), g))
def fX2_open (P : PL) (g : CS) (a0 : Int32) : Option (Int32 × CS) :=
  if (g.1 6 7) < (6 : Int32) then (bnd (tI g 6 7 ((g.1 6 7) + (1 : Int32))) (fun g3 => bndv (fX2_push P g3 a0) (fun g4 => if a0 = (-11 : Int32) then (fX2_open_42 P g4 a0) else (bnd (tI g4 6 8 ((g4.1 6 8) + (1 : Int32))) (fun g5 => fX2_open_42 P g5 a0))))) else (some ((4 : Int32), g))
def fX8_isSignOf (P : PL) (g : CS) (a0 : Int32) : Option (Int32 × CS) :=
  if (g.1 5 3) = (3 : Int32) then (if (g.1 5 5) = a0 then (some ((1 : Int32), g)) else (some ((0 : Int32), g))) else (some ((0 : Int32), g))
def fX2_takeOperand_87 (P : PL) (g : CS) : Option (Int32 × CS) :=
  bndc (fX8_isSignOf P g (40 : Int32)) (fun x1 g2 => if x1 = 0 then (some ((2 : Int32), g2)) else (bndc (fX2_open P g2 (-14 : Int32)) (fun x3 g4 => some (x3, g4))))
def fX2_takeOperand_64 (P : PL) (g : CS) : Option (Int32 × CS) :=
  if (g.1 6 10) = 0 then (fX2_takeOperand_87 P g) else (bndc (fX8_isSignOf P g (91 : Int32)) (fun x5 g6 => if x5 = 0 then (fX2_takeOperand_87 P g6) else (bndc (fX2_open P g6 (-15 : Int32)) (fun x7 g8 => some (x7, g8)))))
def fX2_takeOperand_31 (P : PL) (g : CS) (t1 : Int32) : Option (Int32 × CS) :=
  bndv (fX2_emit P g t1) (fun g9 => bnd (tI g9 6 9 (0 : Int32)) (fun g10 => some ((0 : Int32), g10)))
def fX2_takeOperand_18 (P : PL) (g : CS) (y2 : Int32) : Option (Int32 × CS) :=
  if y2 = 0 then (fX2_takeOperand_31 P g (g.1 5 5)) else (fX2_takeOperand_31 P g y2)
def fX2_takeOperand (P : PL) (g : CS) : Option (Int32 × CS) :=
  bndc (fX2_nameOf P g ) (fun x11 g12 => if (g12.1 5 3) = (2 : Int32) then (fX2_takeOperand_18 P g12 x11) else (if x11 = 0 then (if (g12.1 6 10) = 0 then (fX2_takeOperand_64 P g12) else (bndc (fX8_isWord P g12 13) (fun x13 g14 => if x13 = 0 then (fX2_takeOperand_64 P g14) else (bndc (fX2_open P g14 (-11 : Int32)) (fun x15 g16 => some (x15, g16)))))) else (fX2_takeOperand_18 P g12 x11)))
def fX2_bondOf (a0 : Int32) : Option (Int32) :=
  if a0 = (-13 : Int32) then (some (1 : Int32)) else (if a0 = (-12 : Int32) then (some (2 : Int32)) else (if a0 = (-11 : Int32) then (some (3 : Int32)) else (if a0 = (-10 : Int32) then (some (4 : Int32)) else (if a0 = (-9 : Int32) then (some (4 : Int32)) else (if a0 = (-8 : Int32) then (some (4 : Int32)) else (if a0 = (-7 : Int32) then (some (6 : Int32)) else (if a0 = (-6 : Int32) then (some (5 : Int32)) else (if a0 = (-5 : Int32) then (some (5 : Int32)) else (some (0 : Int32))))))))))
def fX2_unwind_0 (P : PL) : Nat → CS → Int32 → Option (CS)
  | 0, _, _ => none
  | n + 1, g, y1 => if (g.1 6 4) ≤ 0 then (some g) else (chk (ib ((g.1 6 4) - (1 : Int32)) 64) (bndv (fX2_bondOf (g.2.1 8 (ix ((g.1 6 4) - (1 : Int32))))) (fun x1 => if x1 < y1 then (some g) else (bnd (tI g 6 4 ((g.1 6 4) - (1 : Int32))) (fun g2 => chk (ib (g2.1 6 4) 64) (bndv (fX2_emit P g2 (g2.2.1 8 (ix (g2.1 6 4)))) (fun g3 => chk (ib (g3.1 6 4) 64) (if (g3.2.1 8 (ix (g3.1 6 4))) = (-11 : Int32) then (bnd (tI g3 6 7 ((g3.1 6 7) - (1 : Int32))) (fun g4 => fX2_unwind_0 P n g4 y1)) else (fX2_unwind_0 P n g3 y1)))))))))
def fX2_unwind (P : PL) (g : CS) (a0 : Int32) : Option (CS) :=
  fX2_unwind_0 P fuel g a0
def fX2_close_53 (P : PL) (g : CS) : Option (CS) :=
  bnd (tI g 6 8 ((g.1 6 8) - (1 : Int32))) (fun g1 => bnd (tI g1 6 7 ((g1.1 6 7) - (1 : Int32))) (fun g2 => some g2))
def fX2_close_50 (P : PL) (g : CS) (t1 : Int32) : Option (CS) :=
  bnd (tI g 6 6 t1) (fun g3 => fX2_close_53 P g3)
def fX2_close (P : PL) (g : CS) : Option (CS) :=
  bndv (fX2_unwind P g (1 : Int32)) (fun g4 => if (g4.1 6 4) ≤ 0 then (fX2_close_53 P g4) else (bnd (tI g4 6 4 ((g4.1 6 4) - (1 : Int32))) (fun g5 => chk (ib (g5.1 6 4) 64) (if (g5.2.1 8 (ix (g5.1 6 4))) = (-15 : Int32) then (fX2_close_50 P g5 (3 : Int32)) else (chk (ib (g5.1 6 4) 64) (fX2_close_50 P g5 (g5.2.1 9 (ix (g5.1 6 4)))))))))
def fX2_isComparison_18 : Option (Int32) :=
  some (1 : Int32)
def fX2_isComparison (a0 : Int32) : Option (Int32) :=
  if a0 = (-8 : Int32) then (fX2_isComparison_18 ) else (if a0 = (-9 : Int32) then (fX2_isComparison_18 ) else (if a0 = (-10 : Int32) then (fX2_isComparison_18 ) else (some (0 : Int32))))
def fX2_link (P : PL) (g : CS) (a0 : Int32) : Option (CS) :=
  bndv (fX2_bondOf a0) (fun x1 => bndv (fX2_unwind P g x1) (fun g2 => bndv (fX2_push P g2 a0) (fun g3 => bnd (tI g3 6 9 (1 : Int32)) (fun g4 => some g4))))
def fX2_linkOf (a0 : Int32) : Option (Int32) :=
  if a0 = (42 : Int32) then (some (-7 : Int32)) else (if a0 = (43 : Int32) then (some (-5 : Int32)) else (if a0 = (45 : Int32) then (some (-6 : Int32)) else (if a0 = (60 : Int32) then (some (-9 : Int32)) else (if a0 = (61 : Int32) then (some (-8 : Int32)) else (if a0 = (62 : Int32) then (some (-10 : Int32)) else (some (0 : Int32)))))))
def fX2_takeLink_198 (P : PL) (g : CS) (t1 : Int32) : Option (Int32 × CS) :=
  bnd (tI g 6 6 t1) (fun g1 => bnd (tI g1 6 10 (0 : Int32)) (fun g2 => some ((0 : Int32), g2)))
def fX2_takeLink_179 (P : PL) (g : CS) (y3 : Int32) (y4 : Int32) : Option (Int32 × CS) :=
  bndv (fX2_link P g y3) (fun g3 => if y4 = 0 then (fX2_takeLink_198 P g3 (g3.1 6 6)) else (fX2_takeLink_198 P g3 (2 : Int32)))
def fX2_takeLink_140 (P : PL) (g : CS) (t0 : Int32) : Option (Int32 × CS) :=
  if t0 = 0 then (some ((2 : Int32), g)) else (bndv (fX2_isComparison t0) (fun x4 => if x4 = 0 then (if (g.1 6 6) = (3 : Int32) then (some ((2 : Int32), g)) else (fX2_takeLink_179 P g t0 x4)) else (if (g.1 6 6) = (1 : Int32) then (fX2_takeLink_179 P g t0 x4) else (some ((2 : Int32), g)))))
def fX2_takeLink_121 (P : PL) (g : CS) : Option (Int32 × CS) :=
  if (g.1 5 3) = (3 : Int32) then (bndv (fX2_linkOf (g.1 5 5)) (fun x5 => fX2_takeLink_140 P g x5)) else (fX2_takeLink_140 P g (0 : Int32))
def fX2_takeLink_115 (P : PL) (g : CS) : Option (Int32 × CS) :=
  bndv (fX2_close P g ) (fun g6 => some ((0 : Int32), g6))
def fX2_takeLink_76 (P : PL) (g : CS) (y2 : Int32) : Option (Int32 × CS) :=
  if (g.1 6 8) ≤ 0 then (fX2_takeLink_121 P g) else (if y2 = 0 then (if (g.1 6 6) = 0 then (bndc (fX8_isSignOf P g (41 : Int32)) (fun x7 g8 => if x7 = 0 then (fX2_takeLink_121 P g8) else (fX2_takeLink_115 P g8))) else (fX2_takeLink_121 P g)) else (bndc (fX8_isSignOf P g (93 : Int32)) (fun x9 g10 => if x9 = 0 then (fX2_takeLink_121 P g10) else (fX2_takeLink_115 P g10))))
def fX2_takeLink_61 (P : PL) (g : CS) (t1 : Int32) : Option (Int32 × CS) :=
  bndv (fX2_link P g t1) (fun g11 => bnd (tI g11 6 6 (1 : Int32)) (fun g12 => bnd (tI g12 6 10 (1 : Int32)) (fun g13 => some ((0 : Int32), g13))))
def fX2_takeLink_44 (P : PL) (g : CS) : Option (Int32 × CS) :=
  bndc (fX8_isWord P g 14) (fun x14 g15 => if x14 = 0 then (fX2_takeLink_61 P g15 (-13 : Int32)) else (fX2_takeLink_61 P g15 (-12 : Int32)))
def fX2_takeLink_21 (P : PL) (g : CS) (t0 : Int32) : Option (Int32 × CS) :=
  if t0 = 0 then (fX2_takeLink_76 P g t0) else (bndc (fX8_isWord P g 14) (fun x16 g17 => if x16 = 0 then (bndc (fX8_isWord P g17 15) (fun x18 g19 => if x18 = 0 then (fX2_takeLink_76 P g19 t0) else (fX2_takeLink_44 P g19))) else (fX2_takeLink_44 P g17)))
def fX2_takeLink_16 (P : PL) (g : CS) : Option (Int32 × CS) :=
  fX2_takeLink_21 P g (1 : Int32)
def fX2_takeLink (P : PL) (g : CS) : Option (Int32 × CS) :=
  if (g.1 6 6) = (2 : Int32) then (fX2_takeLink_16 P g) else (if (g.1 6 6) = (3 : Int32) then (fX2_takeLink_16 P g) else (fX2_takeLink_21 P g (0 : Int32)))
def fX3_refuse_17 (P : PL) (g : CS) (t1 : Int32) : Option (CS) :=
  bnd (tI g 4 2 t1) (fun g1 => bnd (tI g1 4 3 (g1.1 5 4)) (fun g2 => some g2))
def fX3_refuse (P : PL) (g : CS) (a0 : Int32) : Option (CS) :=
  if (g.1 5 3) = (4 : Int32) then (fX3_refuse_17 P g (1 : Int32)) else (fX3_refuse_17 P g a0)
def fX8_isBlank_12 : Option (Int32) :=
  some (1 : Int32)
def fX8_isBlank (a0 : Int32) : Option (Int32) :=
  if a0 = (10 : Int32) then (fX8_isBlank_12 ) else (if a0 = (32 : Int32) then (fX8_isBlank_12 ) else (some (0 : Int32)))
def fX8_isDigit (a0 : Int32) : Option (Int32) :=
  if a0 < (48 : Int32) then (some (0 : Int32)) else (if (57 : Int32) < a0 then (some (0 : Int32)) else (some (1 : Int32)))
def fX8_isLetter (a0 : Int32) : Option (Int32) :=
  if a0 < (97 : Int32) then (some (0 : Int32)) else (if (122 : Int32) < a0 then (some (0 : Int32)) else (some (1 : Int32)))
def fX8_isSign (a0 : Int32) : Option (Int32) :=
  if a0 = (40 : Int32) then (some (1 : Int32)) else (if a0 = (41 : Int32) then (some (1 : Int32)) else (if a0 = (42 : Int32) then (some (1 : Int32)) else (if a0 = (43 : Int32) then (some (1 : Int32)) else (if a0 = (45 : Int32) then (some (1 : Int32)) else (if a0 = (58 : Int32) then (some (1 : Int32)) else (if a0 = (59 : Int32) then (some (1 : Int32)) else (if a0 = (60 : Int32) then (some (1 : Int32)) else (if a0 = (61 : Int32) then (some (1 : Int32)) else (if a0 = (62 : Int32) then (some (1 : Int32)) else (if a0 = (91 : Int32) then (some (1 : Int32)) else (if a0 = (93 : Int32) then (some (1 : Int32)) else (some (0 : Int32)))))))))))))
def fX8_step_253 (P : PL) (g : CS) (t1 : Int32) : Option (CS) :=
  bnd (tI g 5 3 t1) (fun g1 => bnd (tI g1 5 2 ((g1.1 5 2) + (1 : Int32))) (fun g2 => some g2))
def fX8_step_231 (P : PL) (g : CS) (t1 : Int32) : Option (CS) :=
  bnd (tI g 5 3 t1) (fun g3 => some g3)
def fX8_step_212 (P : PL) (g : CS) : Option (CS) :=
  if (3 : Int32) < ((g.1 5 2) - (g.1 5 4)) then (fX8_step_231 P g (4 : Int32)) else (fX8_step_231 P g (2 : Int32))
def fX8_step_145 (P : PL) : Nat → CS → Option (CS)
  | 0, _ => none
  | n + 1, g => if (g.1 5 1) ≤ (g.1 5 2) then (fX8_step_212 P g) else (bndc (fX8_signAt P g (g.1 5 2)) (fun x4 g5 => bndv (fX8_isDigit x4) (fun x6 => if x6 = 0 then (fX8_step_212 P g5) else (bndc (fX8_signAt P g5 (g5.1 5 2)) (fun x7 g8 => bnd (tI g8 5 5 (jmin ((((g5.1 5 5) * (10 : Int32)) + x7) - (48 : Int32)) (1000 : Int32))) (fun g9 => bnd (tI g9 5 2 ((g9.1 5 2) + (1 : Int32))) (fun g10 => fX8_step_145 P n g10)))))))
def fX8_step_92 (P : PL) : Nat → CS → Option (CS)
  | 0, _ => none
  | n + 1, g => if (g.1 5 1) ≤ (g.1 5 2) then (some g) else (bndc (fX8_signAt P g (g.1 5 2)) (fun x11 g12 => bndv (fX8_isLetter x11) (fun x13 => if x13 = 0 then (some g12) else (bnd (tI g12 5 2 ((g12.1 5 2) + (1 : Int32))) (fun g14 => fX8_step_92 P n g14)))))
def fX8_step_38 (P : PL) (g : CS) : Option (CS) :=
  bnd (tI g 5 4 (g.1 5 2)) (fun g15 => bndc (fX8_signAt P g15 (g15.1 5 2)) (fun x16 g17 => bnd (tI g17 5 5 x16) (fun g18 => if (g18.1 5 2) < (g18.1 5 1) then (bndv (fX8_isLetter (g18.1 5 5)) (fun x19 => if x19 = 0 then (bndv (fX8_isDigit (g18.1 5 5)) (fun x20 => if x20 = 0 then (bndv (fX8_isSign (g18.1 5 5)) (fun x21 => if x21 = 0 then (fX8_step_253 P g18 (4 : Int32)) else (fX8_step_253 P g18 (3 : Int32)))) else (bnd (tI g18 5 5 (0 : Int32)) (fun g22 => fX8_step_145 P fuel g22)))) else (bnd (tI g18 5 3 (1 : Int32)) (fun g23 => fX8_step_92 P fuel g23)))) else (bnd (tI g18 5 3 (0 : Int32)) (fun g24 => some g24)))))
def fX8_step_0 (P : PL) : Nat → CS → Option (CS)
  | 0, _ => none
  | n + 1, g => if (g.1 5 1) ≤ (g.1 5 2) then (fX8_step_38 P g) else (bndc (fX8_signAt P g (g.1 5 2)) (fun x25 g26 => bndv (fX8_isBlank x25) (fun x27 => if x27 = 0 then (fX8_step_38 P g26) else (bnd (tI g26 5 2 ((g26.1 5 2) + (1 : Int32))) (fun g28 => fX8_step_0 P n g28)))))
def fX8_step (P : PL) (g : CS) : Option (CS) :=
  fX8_step_0 P fuel g
def fX3_takeSign (P : PL) (g : CS) (a0 : Int32) : Option (CS) :=
  if (g.1 4 2) = 0 then (bndc (fX8_isSignOf P g a0) (fun x1 g2 => if x1 = 0 then (bndv (fX3_refuse P g2 (2 : Int32)) (fun g3 => some g3)) else (bndv (fX8_step P g2 ) (fun g4 => some g4)))) else (some g)
def fX3_endLine (P : PL) (g : CS) : Option (CS) :=
  bndv (fX3_takeSign P g (59 : Int32)) (fun g1 => if (g1.1 4 2) = 0 then (bnd (tI g1 4 5 ((g1.1 4 5) + (1 : Int32))) (fun g2 => some g2)) else (some g1))
def fX3_takeNumber_45 (P : PL) (g : CS) (y1 : Int32) : Option (Int32 × CS) :=
  bndv (fX3_refuse P g (3 : Int32)) (fun g1 => some (y1, g1))
def fX3_takeNumber (P : PL) (g : CS) (a0 : Int32) (a1 : Int32) : Option (Int32 × CS) :=
  if (g.1 4 2) = 0 then (bnd (g.1 5 5) (fun x2 => if (g.1 5 3) = (2 : Int32) then (if x2 < a0 then (fX3_takeNumber_45 P g a0) else (if x2 ≤ a1 then (bndv (fX8_step P g ) (fun g3 => some (x2, g3))) else (fX3_takeNumber_45 P g a0))) else (bndv (fX3_refuse P g (2 : Int32)) (fun g4 => some (a0, g4))))) else (some (a0, g))
def fX3_readBoard (P : PL) (g : CS) : Option (CS) :=
  bndc (fX8_isWord P g 1) (fun x1 g2 => if x1 = 0 then (bndv (fX3_refuse P g2 (2 : Int32)) (fun g10 => some g10)) else (bndv (fX8_step P g2 ) (fun g3 => bndc (fX3_takeNumber P g3 (2 : Int32) (6 : Int32)) (fun x4 g5 => bnd (tI g5 4 4 x4) (fun g6 => bndv (fX1_ofBits ((jshl (1 : Int32) (g6.1 4 4)) - (1 : Int32))) (fun x7 => bnd (tI g6 4 7 x7) (fun g8 => bndv (fX3_endLine P g8 ) (fun g9 => some g9))))))))
def fX3_readFlag (P : PL) (g : CS) (a0 : Int32) : Option (CS) :=
  bndc (fX8_isWord P g 3) (fun x1 g2 => if x1 = 0 then (bndc (fX8_isWord P g2 4) (fun x3 g4 => if x3 = 0 then (bndc (fX8_isWord P g4 5) (fun x5 g6 => if x5 = 0 then (bndv (fX3_refuse P g6 (2 : Int32)) (fun g7 => some g7)) else (bndv (fX8_step P g6 ) (fun g8 => bnd (tI g8 4 8 ((g8.1 4 8) ||| (jshl (1 : Int32) a0))) (fun g9 => some g9))))) else (bndv (fX8_step P g4 ) (fun g10 => bndc (fX3_takeNumber P g10 (1 : Int32) (9 : Int32)) (fun x11 g12 => bndv (fX1_with (g10.1 4 7) a0 x11) (fun x13 => bnd (tI g12 4 7 x13) (fun g14 => some g14))))))) else (bndv (fX8_step P g2 ) (fun g15 => bndc (fX3_takeNumber P g15 (0 : Int32) ((g15.1 4 4) - (1 : Int32))) (fun x16 g17 => bndv (fX1_with (g15.1 4 6) a0 x16) (fun x18 => bnd (tI g17 4 6 x18) (fun g19 => some g19))))))
def fX3_readMember_21 (P : PL) : Nat → CS → Int32 → Int32 → Option (CS)
  | 0, _, _, _ => none
  | n + 1, g, y1, y2 => if (900 : Int32) ≤ y2 then (some g) else (if (g.1 4 2) = 0 then (if (g.1 5 3) = (1 : Int32) then (bndv (fX3_readFlag P g y1) (fun g1 => bnd (y2 + (1 : Int32)) (fun x2 => fX3_readMember_21 P n g1 y1 x2))) else (some g)) else (some g))
def fX3_readMember (P : PL) (g : CS) : Option (CS) :=
  bndv (fX8_step P g ) (fun g3 => bndc (fX3_takeNumber P g3 (0 : Int32) ((g3.1 4 4) - (1 : Int32))) (fun x4 g5 => fX3_readMember_21 P fuel g5 x4 (0 : Int32)))
def fX3_lawEnds (P : PL) (g : CS) : Option (Int32 × CS) :=
  bndc (fX2_isWhole P g ) (fun x1 g2 => if x1 = 0 then (some ((0 : Int32), g2)) else (bndc (fX8_isSignOf P g2 (59 : Int32)) (fun x3 g4 => if x3 = 0 then (some ((0 : Int32), g4)) else (some ((1 : Int32), g4)))))
def fX6_draggedBy_26 (P : PL) : Nat → CS → Nat → Int32 → Int32 → Int32 → Int32 → Option (Int32 × CS)
  | 0, _, _, _, _, _, _ => none
  | n + 1, g, y0, y1, y2, y3, y4 => if (g.1 y0 1) ≤ y4 then (some (y2, g)) else (bnd (jabs (y4 - y1)) (fun x1 => bnd (jmin x1 ((g.1 y0 1) - x1)) (fun x2 => if y4 = y1 then (bnd (y4 + (1 : Int32)) (fun x3 => fX6_draggedBy_26 P n g y0 y1 y2 y3 x3)) else (bndc (fX4_reckon P g (g.2.2.2 y0 8) y1 y3 y4 x2) (fun x4 g5 => if x4 = 0 then (bnd (y4 + (1 : Int32)) (fun x6 => fX6_draggedBy_26 P n g5 y0 y1 y2 y3 x6)) else (bnd (y2 ||| (jshl (1 : Int32) y4)) (fun x7 => bnd (y4 + (1 : Int32)) (fun x8 => fX6_draggedBy_26 P n g5 y0 y1 x7 y3 x8))))))))
def fX6_draggedBy (P : PL) (g : CS) (o : Nat) (a0 : Int32) : Option (Int32 × CS) :=
  bnd (jshl (1 : Int32) a0) (fun x9 => chk (inL P (g.2.2.2 o 8)) (if (nI (P.2.2 (g.2.2.2 o 8)).1) = 0 then (some (x9, g)) else (bndv (fX1_at (g.1 o 4) a0) (fun x10 => fX6_draggedBy_26 P fuel g o a0 x9 x10 (0 : Int32)))))
def fX6_price (P : PL) (g : CS) (o : Nat) (a0 : Int32) : Option (Int32 × CS) :=
  chk (inL P (g.2.2.2 o 9)) (if (nI (P.2.2 (g.2.2.2 o 9)).1) = 0 then (some ((1 : Int32), g)) else (bndv (fX1_at (g.1 o 4) a0) (fun x1 => bndc (fX4_reckon P g (g.2.2.2 o 9) a0 x1 (0 : Int32) (0 : Int32)) (fun x2 g3 => some (jmax (1 : Int32) (jmin (99 : Int32) x2), g3)))))
def fX10_reckonLaws_17 (P : PL) : Nat → CS → Int32 → Option (CS)
  | 0, _, _ => none
  | n + 1, g, y1 => if (g.1 30 1) ≤ y1 then (bnd (tI g 12 1 (g.1 30 7)) (fun g1 => some g1)) else (bndc (fX6_draggedBy P g 30 y1) (fun x2 g3 => chk (ib y1 6) (bnd (tA g3 13 (ix y1) x2) (fun g4 => bndc (fX6_price P g4 30 y1) (fun x5 g6 => chk (ib y1 6) (bnd (tA g6 14 (ix y1) x5) (fun g7 => bnd (y1 + (1 : Int32)) (fun x8 => fX10_reckonLaws_17 P n g7 x8))))))))
def fX10_reckonLaws (P : PL) (g : CS) : Option (CS) :=
  if (g.1 12 1) = (g.1 30 7) then (some g) else (fX10_reckonLaws_17 P fuel g (0 : Int32))
def fX10_begin_27 (P : PL) : Nat → CS → Int32 → Int32 → Option (CS)
  | 0, _, _, _ => none
  | n + 1, g, y1, y2 => if (g.1 12 6) ≤ y2 then (bnd (tI g 12 9 (g.1 30 3)) (fun g1 => bnd (tI g1 12 10 (0 : Int32)) (fun g2 => bnd (tI g2 12 11 (0 : Int32)) (fun g3 => bnd (tI g3 12 12 (0 : Int32)) (fun g4 => some g4))))) else (if ((jshr y1 y2) &&& (1 : Int32)) = 0 then (chk (ib (g.1 12 7) 6) (bnd (tA g 15 (ix (g.1 12 7)) y2) (fun g6 => bnd (tI g6 12 7 ((g6.1 12 7) + (1 : Int32))) (fun g7 => chk (ib y2 6) (bndv (fX1_ofBits ((g7.2.1 13 (ix y2)) &&& (y1 ^^^ (-1 : Int32)))) (fun x8 => chk (ib y2 6) (bnd (tA g7 16 (ix y2) x8) (fun g9 => bnd (tI g9 12 8 ((g9.1 12 8) * (g9.1 12 6))) (fun g10 => bnd (y2 + (1 : Int32)) (fun x11 => fX10_begin_27 P n g10 y1 x11)))))))))) else (bnd (y2 + (1 : Int32)) (fun x5 => fX10_begin_27 P n g y1 x5)))
def fX10_begin (P : PL) (g : CS) (a0 : Int32) : Option (CS) :=
  bndv (fX10_reckonLaws P g ) (fun g12 => bnd (tI g12 12 6 (g12.1 30 1)) (fun g13 => bnd (tI g13 12 7 (0 : Int32)) (fun g14 => bnd (tI g14 12 8 (1 : Int32)) (fun g15 => fX10_begin_27 P fuel g15 a0 (0 : Int32)))))
def fX10_freeAt (P : PL) (g : CS) (a0 : Int32) : Option (Int32 × CS) :=
  if a0 < 0 then (some ((0 : Int32), g)) else (if (g.1 12 7) ≤ a0 then (some ((0 : Int32), g)) else (chk (ib a0 6) (some (g.2.1 15 (ix a0), g))))
def fX10_pullAt (P : PL) (g : CS) (a0 : Int32) : Option (Int32 × CS) :=
  if a0 < 0 then (some ((0 : Int32), g)) else (if (g.1 12 7) ≤ a0 then (some ((0 : Int32), g)) else (chk (ib a0 6) (chk (ib (g.2.1 15 (ix a0)) 6) (some (g.2.1 16 (ix (g.2.1 15 (ix a0))), g)))))
def fX5_list_44 (P : PL) (k21 : CS → Int32 → Int32 → Int32 → Option (CS)) : Nat → CS → Int32 → Int32 → Int32 → Int32 → Int32 → Option (CS)
  | 0, _, _, _, _, _, _ => none
  | n + 1, g, y1, y2, y3, y4, y5 => if (g.1 30 1) ≤ y5 then (bnd (y3 + (1 : Int32)) (fun x1 => k21 g y1 y2 x1)) else (bndc (fX10_pullAt P g y3) (fun x2 g3 => bndv (fX1_plus y4 x2 (g3.1 30 1)) (fun x4 => if (x4 &&& y1) = y2 then (if (30 : Int32) ≤ (g3.1 22 2) then (bnd (y5 + (1 : Int32)) (fun x6 => fX5_list_44 P k21 n g3 y1 y2 y3 x4 x6)) else (bndc (fX10_freeAt P g3 y3) (fun x7 g8 => chk (ib (g3.1 22 2) 30) (bnd (tA g8 23 (ix (g3.1 22 2)) (((10 : Int32) * x7) + y5)) (fun g9 => chk (ib (g9.1 22 2) 30) (bnd (tA g9 24 (ix (g9.1 22 2)) x4) (fun g10 => bnd (tI g10 22 2 ((g10.1 22 2) + (1 : Int32))) (fun g11 => bnd (y5 + (1 : Int32)) (fun x12 => fX5_list_44 P k21 n g11 y1 y2 y3 x4 x12))))))))) else (bnd (y5 + (1 : Int32)) (fun x5 => fX5_list_44 P k21 n g3 y1 y2 y3 x4 x5)))))
def fX5_list_21 (P : PL) : Nat → CS → Int32 → Int32 → Int32 → Option (CS)
  | 0, _, _, _, _ => none
  | n + 1, g, y1, y2, y3 => if (g.1 12 7) ≤ y3 then (some g) else (bnd (g.1 30 3) (fun x13 => fX5_list_44 P (fX5_list_21 P n) fuel g y1 y2 y3 x13 (1 : Int32)))
def fX5_list (P : PL) (g : CS) (a0 : Int32) (a1 : Int32) : Option (CS) :=
  bnd (tI g 22 2 (0 : Int32)) (fun g14 => bndv (fX10_begin P g14 (g14.1 30 5)) (fun g15 => fX5_list_21 P fuel g15 a0 a1 (0 : Int32)))
def fJ7_fill_53178_5 (P : PL) : Nat → CS → Nat → Int32 → Int32 → Int32 → Option (CS)
  | 0, _, _, _, _, _ => none
  | n + 1, g, y0, y1, y2, y3 => if y3 ≤ y2 then (some g) else (chk (ib y2 6) (bnd (tA g y0 (ix y2) y1) (fun g1 => bnd (y2 + (1 : Int32)) (fun x2 => fJ7_fill_53178_5 P n g1 y0 y1 x2 y3))))
def fJ7_fill_53178 (P : PL) (g : CS) (a0 : Nat) (a1 : Int32) : Option (CS) :=
  fJ7_fill_53178_5 P fuel g a0 a1 (0 : Int32) (6 : Int32)
def fX5_mostAlike_12 (P : PL) : Nat → CS → Int32 → Int32 → Int32 → Option (Int32 × CS)
  | 0, _, _, _, _ => none
  | n + 1, g, y1, y2, y3 => if (g.1 22 2) ≤ y3 then (some (y2, g)) else (chk (ib y3 30) (bndv (fX1_at (g.2.1 24 (ix y3)) y1) (fun x1 => if (6 : Int32) ≤ x1 then (bnd (y3 + (1 : Int32)) (fun x2 => fX5_mostAlike_12 P n g y1 y2 x2)) else (chk (ib x1 6) (chk (ib x1 6) (bnd (tA g 25 (ix x1) ((g.2.1 25 (ix x1)) + (1 : Int32))) (fun g3 => chk (ib x1 6) (bnd (jmax y2 (g3.2.1 25 (ix x1))) (fun x4 => bnd (y3 + (1 : Int32)) (fun x5 => fX5_mostAlike_12 P n g3 y1 x4 x5))))))))))
def fX5_mostAlike (P : PL) (g : CS) (a0 : Int32) : Option (Int32 × CS) :=
  bndv (fJ7_fill_53178 P g 25 (0 : Int32)) (fun g6 => fX5_mostAlike_12 P fuel g6 a0 (0 : Int32) (0 : Int32))
def fX5_share_57 (P : PL) (r_share : CS → Int32 → Int32 → Int32 → Int32 → Option (CS)) : Nat → CS → Int32 → Int32 → Int32 → Int32 → Int32 → Int32 → Option (CS)
  | 0, _, _, _, _, _, _, _ => none
  | n + 1, g, y1, y2, y4, y5, y6, y7 => if y2 < y7 then (some g) else (bndv (r_share g (y1 + (1 : Int32)) (y2 - y7) y5 (y4 * y6)) (fun g1 => bndc (fX10_pullAt P g1 y1) (fun x2 g3 => bndv (fX1_plus y5 x2 (g3.1 30 1)) (fun x4 => chk (nz (y7 + (1 : Int32))) (bnd ((y6 * (y2 - y7)) / (y7 + (1 : Int32))) (fun x5 => bnd (y7 + (1 : Int32)) (fun x6 => fX5_share_57 P r_share n g3 y1 y2 y4 x4 x5 x6)))))))
def fX5_share_15 (P : PL) (r_share : CS → Int32 → Int32 → Int32 → Int32 → Option (CS)) (g : CS) (y2 : Int32) (y3 : Int32) (y4 : Int32) : Option (CS) :=
  bndc (fX6_chairOf P g 30 y3) (fun x7 g8 => if y2 = 0 then (if x7 = (-1 : Int32) then (some g8) else (chk (ib x7 6) (chk (ib x7 6) (bnd (tA g8 26 (ix x7) ((g8.2.1 26 (ix x7)) + y4)) (fun g9 => some g9))))) else (some g8))
def fX5_shareB (P : PL) (r_share : CS → Int32 → Int32 → Int32 → Int32 → Option (CS)) (g : CS) (a1 : Int32) (a2 : Int32) (a3 : Int32) (a4 : Int32) : Option (CS) :=
  if (g.1 12 7) ≤ a1 then (fX5_share_15 P r_share g a2 a3 a4) else (if a2 = 0 then (fX5_share_15 P r_share g a2 a3 a4) else (fX5_share_57 P r_share fuel g a1 a2 a4 a3 (1 : Int32) (0 : Int32)))
def fX5_shareD (P : PL) : Nat → CS → Int32 → Int32 → Int32 → Int32 → Option (CS)
  | 0, _, _, _, _, _ => none
  | n + 1, g, a1, a2, a3, a4 => fX5_shareB P (fX5_shareD P n) g a1 a2 a3 a4
def fX5_share (P : PL) (g : CS) (a1 : Int32) (a2 : Int32) (a3 : Int32) (a4 : Int32) : Option (CS) := fX5_shareD P 10 g a1 a2 a3 a4
def fX5_scatter_83 (P : PL) (g : CS) (t1 : Int32) (t2 : Int32) : Option (CS) :=
  bndv (fX5_share P g t1 t2 (g.1 30 3) (1 : Int32)) (fun g1 => some g1)
def fX5_scatter_66 (P : PL) (g : CS) (y1 : Int32) : Option (CS) :=
  if (g.1 12 7) ≤ 0 then (fX5_scatter_83 P g (0 : Int32) (0 : Int32)) else (fX5_scatter_83 P g (0 : Int32) y1)
def fX5_scatter_29 (P : PL) : Nat → CS → Int32 → Int32 → Option (CS)
  | 0, _, _, _ => none
  | n + 1, g, y1, y2 => if y1 ≤ y2 then (fX5_scatter_66 P g y1) else (if (g.1 12 7) ≤ 0 then (fX5_scatter_66 P g y1) else (bnd (tI g 22 7 ((g.1 22 7) * (g.1 12 7))) (fun g2 => bnd (y2 + (1 : Int32)) (fun x3 => fX5_scatter_29 P n g2 y1 x3))))
def fX5_scatter (P : PL) (g : CS) (a0 : Int32) : Option (CS) :=
  bndv (fJ7_fill_53178 P g 26 (0 : Int32)) (fun g4 => bndv (fX10_begin P g4 (g4.1 30 5)) (fun g5 => bnd (tI g5 22 7 (1 : Int32)) (fun g6 => fX5_scatter_29 P fuel g6 a0 (0 : Int32))))
def fX6_settleAs (P : PL) (g : CS) (o : Nat) : Option (CS) :=
  bnd (tI g o 1 (g.1 4 4)) (fun g1 => bnd (tI g1 o 2 (g1.1 4 5)) (fun g2 => bnd (tI g2 o 3 (g2.1 4 6)) (fun g3 => bnd (tI g3 o 4 (g3.1 4 7)) (fun g4 => bnd (tI g4 o 5 (g4.1 4 8)) (fun g5 => bnd (tF g5 o 8 (g5.2.2.2 4 9)) (fun g6 => bnd (tF g6 o 9 (g6.2.2.2 4 10)) (fun g7 => bnd (tF g7 o 10 (g7.2.2.2 4 11)) (fun g8 => bnd (tI g8 o 6 (0 : Int32)) (fun g9 => bnd (tI g9 o 7 ((g9.1 o 7) + (1 : Int32))) (fun g10 => some g10))))))))))
def fX6_become (P : PL) (g : CS) (o : Nat) (a0 : Nat) : Option (CS) :=
  bnd (tI g o 1 (g.1 a0 1)) (fun g1 => bnd (tI g1 o 2 (g1.1 a0 2)) (fun g2 => bnd (tI g2 o 3 (g2.1 a0 3)) (fun g3 => bnd (tI g3 o 4 (g3.1 a0 4)) (fun g4 => bnd (tI g4 o 5 (g4.1 a0 5)) (fun g5 => bnd (tF g5 o 8 (g5.2.2.2 a0 8)) (fun g6 => bnd (tF g6 o 9 (g6.2.2.2 a0 9)) (fun g7 => bnd (tF g7 o 10 (g7.2.2.2 a0 10)) (fun g8 => bnd (tI g8 o 6 (g8.1 a0 6)) (fun g9 => chk (cpb (0 : Int32) (0 : Int32) (10 : Int32) 10) (bnd (tC g9 (a0 + 10) (o + 10) (ix (0 : Int32)) (ix (0 : Int32)) (ix (10 : Int32))) (fun g10 => bnd (tI g10 o 7 ((g10.1 o 7) + (1 : Int32))) (fun g11 => some g11))))))))))))
def fX6_has (P : PL) (g : CS) (o : Nat) (a0 : Int32) : Option (Int32 × CS) :=
  if a0 < 0 then (some ((0 : Int32), g)) else (if (g.1 o 1) ≤ a0 then (some ((0 : Int32), g)) else (some ((1 : Int32), g)))
def fX6_faced (P : PL) (g : CS) (o : Nat) (a0 : Int32) : Option (Int32 × CS) :=
  bndv (fX1_at (g.1 o 3) a0) (fun x1 => if x1 = 0 then (some ((-1 : Int32), g)) else (if (g.1 o 1) ≤ (a0 + x1) then (some ((a0 + x1) - (g.1 o 1), g)) else (some (a0 + x1, g))))
def fX6_lookingOut_4 (P : PL) : Nat → CS → Nat → Int32 → Int32 → Option (Int32 × CS)
  | 0, _, _, _, _ => none
  | n + 1, g, y0, y1, y2 => if (g.1 y0 1) ≤ y2 then (some (y1, g)) else (bndv (fX1_at (g.1 y0 3) y2) (fun x1 => if x1 = 0 then (bnd (y1 ||| (jshl (1 : Int32) y2)) (fun x3 => bnd (y2 + (1 : Int32)) (fun x4 => fX6_lookingOut_4 P n g y0 x3 x4))) else (bnd (y2 + (1 : Int32)) (fun x2 => fX6_lookingOut_4 P n g y0 y1 x2))))
def fX6_lookingOut (P : PL) (g : CS) (o : Nat) : Option (Int32 × CS) :=
  fX6_lookingOut_4 P fuel g o (0 : Int32) (0 : Int32)
def fX6_weightsTogether_4 (P : PL) : Nat → CS → Nat → Int32 → Int32 → Option (Int32 × CS)
  | 0, _, _, _, _ => none
  | n + 1, g, y0, y1, y2 => if (g.1 y0 1) ≤ y2 then (some (y1, g)) else (bndv (fX1_at (g.1 y0 4) y2) (fun x1 => bnd (y1 + x1) (fun x2 => bnd (y2 + (1 : Int32)) (fun x3 => fX6_weightsTogether_4 P n g y0 x2 x3))))
def fX6_weightsTogether (P : PL) (g : CS) (o : Nat) : Option (Int32 × CS) :=
  fX6_weightsTogether_4 P fuel g o (0 : Int32) (0 : Int32)
def fX6_turningWith (P : PL) (g : CS) (o : Nat) (a0 : Int32) : Option (Int32 × CS) :=
  bndc (fX6_isStuck P g o a0) (fun x1 g2 => if x1 = 0 then (bndc (fX6_draggedBy P g2 o a0) (fun x3 g4 => some (x3 &&& ((g4.1 o 5) ^^^ (-1 : Int32)), g4))) else (some ((0 : Int32), g2)))
def fX6_passMinute_14 (P : PL) : Nat → CS → Nat → Int64 → Int32 → Int32 → Option (CS)
  | 0, _, _, _, _, _ => none
  | n + 1, g, y0, y1, y3, y4 => if (g.1 y0 1) ≤ y4 then (bndv (fX1_plus (g.1 y0 3) y3 (g.1 y0 1)) (fun x1 => bnd (tI g y0 3 x1) (fun g2 => some g2))) else (bndc (fX6_isStuck P g y0 y4) (fun x3 g4 => if x3 = 0 then (bndv (fX1_at (g4.1 y0 3) y4) (fun x6 => bndv (fX1_votesAt y1 y4) (fun x7 => bndc (fX6_pace P g4 y0 y4 x6 x7) (fun x8 g9 => bnd (y3 ||| (jshl x8 (jshl y4 (2 : Int32)))) (fun x10 => bnd (y4 + (1 : Int32)) (fun x11 => fX6_passMinute_14 P n g9 y0 y1 x10 x11)))))) else (bnd (y4 + (1 : Int32)) (fun x5 => fX6_passMinute_14 P n g4 y0 y1 y3 x5))))
def fX6_passMinute (P : PL) (g : CS) (o : Nat) : Option (CS) :=
  bndc (fX6_votesIn P g o (g.1 o 3)) (fun x12 g13 => fX6_passMinute_14 P fuel g13 o x12 (0 : Int32) (0 : Int32))
def fX6_remember_30 (P : PL) (g : CS) (y0 : Nat) : Option (CS) :=
  chk (ib (g.1 y0 6) 10) (bnd (tL g (y0 + 10) (ix (g.1 y0 6)) (((jshlL ((g.1 y0 5).toInt64) (48 : Int32)) ||| (jshlL ((g.1 y0 4).toInt64) (24 : Int32))) ||| ((g.1 y0 3).toInt64))) (fun g1 => bnd (tI g1 y0 6 ((g1.1 y0 6) + (1 : Int32))) (fun g2 => bnd (tI g2 y0 7 ((g2.1 y0 7) + (1 : Int32))) (fun g3 => some g3))))
def fX6_remember (P : PL) (g : CS) (o : Nat) : Option (CS) :=
  if (g.1 o 6) < (10 : Int32) then (fX6_remember_30 P g o) else (chk (cpb (1 : Int32) (0 : Int32) (9 : Int32) 10) (bnd (tC g (o + 10) (o + 10) (ix (1 : Int32)) (ix (0 : Int32)) (ix (9 : Int32))) (fun g4 => bnd (tI g4 o 6 (9 : Int32)) (fun g5 => fX6_remember_30 P g5 o))))
def fX6_takeBack (P : PL) (g : CS) (o : Nat) : Option (CS) :=
  if (1 : Int32) ≤ (g.1 o 6) then (bnd (tI g o 6 ((g.1 o 6) - (1 : Int32))) (fun g1 => chk (ib (g1.1 o 6) 10) (bnd (g1.2.2.1 (o + 10) (ix (g1.1 o 6))) (fun x2 => bnd (tI g1 o 3 (x2.toInt32 &&& (16777215 : Int32))) (fun g3 => bnd (tI g3 o 4 (((jushL x2 (24 : Int32)).toInt32) &&& (16777215 : Int32))) (fun g4 => bnd (tI g4 o 5 ((jushL x2 (48 : Int32)).toInt32)) (fun g5 => bnd (tI g5 o 7 ((g5.1 o 7) + (1 : Int32))) (fun g6 => some g6)))))))) else (some g)
def fX6_turnBy (P : PL) (g : CS) (o : Nat) (a0 : Int32) (a1 : Int32) : Option (Int32 × CS) :=
  bndc (fX6_has P g o a0) (fun x1 g2 => if x1 = 0 then (some ((1 : Int32), g2)) else (if a1 < (1 : Int32) then (some ((1 : Int32), g2)) else (if a1 < (g2.1 o 1) then (bndc (fX6_isStuck P g2 o a0) (fun x3 g4 => if x3 = 0 then (bndv (fX6_remember P g4 o) (fun g5 => bndc (fX6_turningWith P g5 o a0) (fun x6 g7 => bndv (fX1_ofBits x6) (fun x8 => bndv (fX1_plus (g5.1 o 3) (a1 * x8) (g7.1 o 1)) (fun x9 => bnd (tI g7 o 3 x9) (fun g10 => some ((0 : Int32), g10))))))) else (some ((2 : Int32), g4)))) else (some ((1 : Int32), g2)))))
def fX6_giveWeight (P : PL) (g : CS) (o : Nat) (a0 : Int32) (a1 : Int32) : Option (Int32 × CS) :=
  bndc (fX6_has P g o a0) (fun x1 g2 => if x1 = 0 then (some ((1 : Int32), g2)) else (if a1 < (1 : Int32) then (some ((1 : Int32), g2)) else (if a1 ≤ (9 : Int32) then (bndv (fX6_remember P g2 o) (fun g3 => bndv (fX1_with (g3.1 o 4) a0 a1) (fun x4 => bnd (tI g3 o 4 x4) (fun g5 => some ((0 : Int32), g5))))) else (some ((1 : Int32), g2)))))
def fX6_toggleStuck (P : PL) (g : CS) (o : Nat) (a0 : Int32) : Option (Int32 × CS) :=
  bndc (fX6_has P g o a0) (fun x1 g2 => if x1 = 0 then (some ((1 : Int32), g2)) else (bndv (fX6_remember P g2 o) (fun g3 => bnd (tI g3 o 5 ((g3.1 o 5) ^^^ (jshl (1 : Int32) a0))) (fun g4 => some ((0 : Int32), g4)))))
def fX6_enact (P : PL) (g : CS) (o : Nat) (a0 : Int64) : Option (Int32 × CS) :=
  if (lg_cmp a0 (-1 : Int64)) < 0 then (some ((1 : Int32), g)) else (if (lg_cmp a0 (299 : Int64)) ≤ 0 then (bnd a0.toInt32 (fun x1 => if x1 = (-1 : Int32) then (bndv (fX6_remember P g o) (fun g8 => bndv (fX6_passMinute P g8 o) (fun g9 => some ((0 : Int32), g9)))) else (if (100 : Int32) ≤ x1 then (if (200 : Int32) ≤ x1 then (bndc (fX6_toggleStuck P g o (x1 - (200 : Int32))) (fun x2 g3 => some (x2, g3))) else (chk (nz (10 : Int32)) (chk (nz (10 : Int32)) (bndc (fX6_giveWeight P g o ((x1 - (100 : Int32)) / (10 : Int32)) (jrem x1 (10 : Int32))) (fun x4 g5 => some (x4, g5)))))) else (chk (nz (10 : Int32)) (chk (nz (10 : Int32)) (bndc (fX6_turnBy P g o (x1 / (10 : Int32)) (jrem x1 (10 : Int32))) (fun x6 g7 => some (x6, g7)))))))) else (some ((1 : Int32), g)))
def fX7_manyTurns (P : PL) (g : CS) : Option (Int32 × CS) :=
  bndv (fX10_begin P g (g.1 30 5)) (fun g1 => some (g1.1 12 8, g1))
def fX10_advance_14 (P : PL) : Nat → CS → Int32 → Int32 → Option (CS)
  | 0, _, _, _ => none
  | n + 1, g, y1, y2 => if y2 < 0 then (some g) else (chk (ib y2 6) (bnd (g.2.1 15 (ix y2)) (fun x1 => bnd (jshl x1 (2 : Int32)) (fun x2 => chk (ib x1 6) (bndv (fX1_plus (g.1 12 9) (g.2.1 16 (ix x1)) (g.1 12 6)) (fun x3 => bnd (tI g 12 9 x3) (fun g4 => if y1 ≤ ((jush (g4.1 12 11) x2) &&& (15 : Int32)) then (bnd (tI g4 12 11 ((g4.1 12 11) - (jshl y1 x2))) (fun g5 => chk (ib x1 6) (bnd (tI g5 12 10 ((g5.1 12 10) - (y1 * (g5.2.1 14 (ix x1))))) (fun g6 => bnd (tI g6 12 12 ((g6.1 12 12) &&& ((jshl (1 : Int32) x1) ^^^ (-1 : Int32)))) (fun g7 => bnd (y2 + (-1 : Int32)) (fun x8 => fX10_advance_14 P n g7 y1 x8)))))) else (bnd (tI g4 12 11 ((g4.1 12 11) + (jshl (1 : Int32) x2))) (fun g9 => chk (ib x1 6) (bnd (tI g9 12 10 ((g9.1 12 10) + (g9.2.1 14 (ix x1)))) (fun g10 => bnd (tI g10 12 12 ((g10.1 12 12) ||| (jshl (1 : Int32) x1))) (fun g11 => some g11))))))))))))
def fX10_advance (P : PL) (g : CS) : Option (CS) :=
  bnd ((g.1 12 6) - (1 : Int32)) (fun x12 => bnd ((g.1 12 7) - (1 : Int32)) (fun x13 => fX10_advance_14 P fuel g x12 x13))
def fX7_tell_161 (P : PL) (k83 : CS → Int32 → Int32 → Int32 → Option (CS)) (g : CS) (y1 : Int32) (y2 : Int32) (y3 : Int32) : Option (CS) :=
  bndv (fX10_advance P g ) (fun g1 => bnd (y3 + (1 : Int32)) (fun x2 => k83 g1 y1 y2 x2))
def fX7_tell_139 (P : PL) (k83 : CS → Int32 → Int32 → Int32 → Option (CS)) (g : CS) (y1 : Int32) (y2 : Int32) (y3 : Int32) : Option (CS) :=
  bnd (tI g 17 8 (g.1 12 10)) (fun g3 => bnd (tI g3 17 9 (g3.1 12 11)) (fun g4 => fX7_tell_161 P k83 g4 y1 y2 y3))
def fX7_tell_83 (P : PL) : Nat → CS → Int32 → Int32 → Int32 → Option (CS)
  | 0, _, _, _, _ => none
  | n + 1, g, y1, y2, y3 => if (g.1 12 8) ≤ y3 then (some g) else (if ((g.1 12 9) &&& y1) = y2 then (bnd (tI g 17 7 ((g.1 17 7) + (1 : Int32))) (fun g5 => if (g5.1 17 8) = (-1 : Int32) then (fX7_tell_139 P (fX7_tell_83 P n) g5 y1 y2 y3) else (if (g5.1 17 8) ≤ (g5.1 12 10) then (fX7_tell_161 P (fX7_tell_83 P n) g5 y1 y2 y3) else (fX7_tell_139 P (fX7_tell_83 P n) g5 y1 y2 y3)))) else (fX7_tell_161 P (fX7_tell_83 P n) g y1 y2 y3))
def fX7_tell_31 (P : PL) (g : CS) (y1 : Int32) (y2 : Int32) : Option (CS) :=
  bnd (tI g 17 4 (g.1 30 7)) (fun g6 => bnd (tI g6 17 5 y1) (fun g7 => bnd (tI g7 17 6 y2) (fun g8 => bnd (tI g8 17 7 (0 : Int32)) (fun g9 => bnd (tI g9 17 8 (-1 : Int32)) (fun g10 => bnd (tI g10 17 9 (0 : Int32)) (fun g11 => bndv (fX10_begin P g11 (g11.1 30 5)) (fun g12 => fX7_tell_83 P fuel g12 y1 y2 (0 : Int32))))))))
def fX7_tell (P : PL) (g : CS) (a0 : Int32) (a1 : Int32) : Option (CS) :=
  if (g.1 17 4) = (g.1 30 7) then (if (g.1 17 5) = a0 then (if (g.1 17 6) = a1 then (some g) else (fX7_tell_31 P g a0 a1)) else (fX7_tell_31 P g a0 a1)) else (fX7_tell_31 P g a0 a1)
def fJ6_bitCount_0f7a4 (a0 : Int32) : Option (Int32) :=
  bnd (a0 - ((jush a0 (1 : Int32)) &&& (1431655765 : Int32))) (fun x1 => bnd ((x1 &&& (858993459 : Int32)) + ((jush x1 (2 : Int32)) &&& (858993459 : Int32))) (fun x2 => bnd ((x2 + (jush x2 (4 : Int32))) &&& (252645135 : Int32)) (fun x3 => bnd (x3 + (jush x3 (8 : Int32))) (fun x4 => bnd (x4 + (jush x4 (16 : Int32))) (fun x5 => some (x5 &&& (63 : Int32)))))))
def fX7_isLess_23 : Option (Int32) :=
  some (1 : Int32)
def fX7_isLess (a0 : Int32) (a1 : Int32) : Option (Int32) :=
  bndv (fJ6_bitCount_0f7a4 a0) (fun x1 => bndv (fJ6_bitCount_0f7a4 a1) (fun x2 => bnd (x1 - x2) (fun x3 => if x3 < 0 then (fX7_isLess_23 ) else (if x3 = 0 then (if a1 ≤ a0 then (some (0 : Int32)) else (fX7_isLess_23 )) else (some (0 : Int32))))))
def fX7_seat_91 (P : PL) (g : CS) (y1 : Int32) : Option (CS) :=
  chk (ib y1 6) (bnd (tA g 21 (ix y1) (g.1 12 12)) (fun g1 => some g1))
def fX7_seat_62 (P : PL) (g : CS) (y1 : Int32) : Option (CS) :=
  chk (ib y1 6) (if (g.2.1 21 (ix y1)) = (-1 : Int32) then (fX7_seat_91 P g y1) else (chk (ib y1 6) (bndv (fX7_isLess (g.1 12 12) (g.2.1 21 (ix y1))) (fun x2 => if x2 = 0 then (some g) else (fX7_seat_91 P g y1)))))
def fX7_seat_36 (P : PL) (g : CS) (y1 : Int32) : Option (CS) :=
  chk (ib y1 6) (bnd (tA g 19 (ix y1) (g.1 12 10)) (fun g3 => chk (ib y1 6) (bnd (tA g3 20 (ix y1) (g3.1 12 11)) (fun g4 => fX7_seat_62 P g4 y1))))
def fX7_seat (P : PL) (g : CS) (a0 : Int32) : Option (CS) :=
  chk (ib a0 6) (chk (ib a0 6) (bnd (tA g 18 (ix a0) ((g.2.1 18 (ix a0)) + (1 : Int32))) (fun g5 => chk (ib a0 6) (if (g5.2.1 19 (ix a0)) = (-1 : Int32) then (fX7_seat_36 P g5 a0) else (chk (ib a0 6) (if (g5.2.1 19 (ix a0)) ≤ (g5.1 12 10) then (fX7_seat_62 P g5 a0) else (fX7_seat_36 P g5 a0)))))))
def fX7_seatAll_110 (P : PL) (k74 : CS → Int32 → Option (CS)) (g : CS) (y1 : Int32) : Option (CS) :=
  bndv (fX10_advance P g ) (fun g1 => bnd (y1 + (1 : Int32)) (fun x2 => k74 g1 x2))
def fX7_seatAll_74 (P : PL) : Nat → CS → Int32 → Option (CS)
  | 0, _, _ => none
  | n + 1, g, y1 => if (g.1 12 8) ≤ y1 then (some g) else (bndc (fX6_chairOf P g 30 (g.1 12 9)) (fun x3 g4 => if x3 = (-1 : Int32) then (fX7_seatAll_110 P (fX7_seatAll_74 P n) g4 y1) else (bndv (fX7_seat P g4 x3) (fun g5 => fX7_seatAll_110 P (fX7_seatAll_74 P n) g5 y1))))
def fX7_seatAll (P : PL) (g : CS) : Option (CS) :=
  if (g.1 17 2) = (g.1 30 7) then (some g) else (bnd (tI g 17 2 (g.1 30 7)) (fun g6 => bndv (fJ7_fill_53178 P g6 18 (0 : Int32)) (fun g7 => bndv (fJ7_fill_53178 P g7 19 (-1 : Int32)) (fun g8 => bndv (fJ7_fill_53178 P g8 20 (0 : Int32)) (fun g9 => bndv (fJ7_fill_53178 P g9 21 (-1 : Int32)) (fun g10 => bndv (fX10_begin P g10 (g10.1 30 5)) (fun g11 => fX7_seatAll_74 P fuel g11 (0 : Int32))))))))
def fX7_reaches_10 (P : PL) : Nat → CS → Int32 → Int32 → Option (Int32 × CS)
  | 0, _, _, _ => none
  | n + 1, g, y1, y3 => if (g.1 12 8) ≤ y3 then (some ((0 : Int32), g)) else (bndc (fX6_chairOf P g 30 (g.1 12 9)) (fun x1 g2 => if x1 = y1 then (some ((1 : Int32), g2)) else (bndv (fX10_advance P g2 ) (fun g3 => bnd (y3 + (1 : Int32)) (fun x4 => fX7_reaches_10 P n g3 y1 x4)))))
def fX7_reaches (P : PL) (g : CS) (a0 : Int32) (a1 : Int32) : Option (Int32 × CS) :=
  bndv (fX10_begin P g a1) (fun g5 => fX7_reaches_10 P fuel g5 a0 (0 : Int32))
def fX7_pairAll_133 (P : PL) (k47 : CS → Int32 → Option (CS)) (g : CS) (y1 : Int32) : Option (CS) :=
  bndv (fX10_advance P g ) (fun g1 => bnd (y1 + (1 : Int32)) (fun x2 => k47 g1 x2))
def fX7_pairAll_106 (P : PL) (k47 : CS → Int32 → Option (CS)) (g : CS) (y1 : Int32) (y2 : Int32) : Option (CS) :=
  bnd (tI g 17 10 y2) (fun g3 => bnd (tI g3 17 11 (g3.1 12 10)) (fun g4 => bnd (tI g4 17 12 (g4.1 12 11)) (fun g5 => fX7_pairAll_133 P k47 g5 y1)))
def fX7_pairAll_47 (P : PL) : Nat → CS → Int32 → Option (CS)
  | 0, _, _ => none
  | n + 1, g, y1 => if (g.1 12 8) ≤ y1 then (some g) else (bndv (fX1_kneesIn (g.1 12 9) (g.1 30 1)) (fun x6 => if (g.1 17 10) < x6 then (fX7_pairAll_106 P (fX7_pairAll_47 P n) g y1 x6) else (if x6 = (g.1 17 10) then (if (g.1 17 11) ≤ (g.1 12 10) then (fX7_pairAll_133 P (fX7_pairAll_47 P n) g y1) else (fX7_pairAll_106 P (fX7_pairAll_47 P n) g y1 x6)) else (fX7_pairAll_133 P (fX7_pairAll_47 P n) g y1))))
def fX7_pairAll (P : PL) (g : CS) : Option (CS) :=
  if (g.1 17 3) = (g.1 30 7) then (some g) else (bnd (tI g 17 3 (g.1 30 7)) (fun g7 => bnd (tI g7 17 10 (-1 : Int32)) (fun g8 => bndv (fX10_begin P g8 (g8.1 30 5)) (fun g9 => fX7_pairAll_47 P fuel g9 (0 : Int32)))))
def fX8_begin (P : PL) (g : CS) (a0 : Int32) : Option (CS) :=
  bnd (tI g 5 1 (jmin a0 (900 : Int32))) (fun g1 => bnd (tI g1 5 2 (0 : Int32)) (fun g2 => bndv (fX8_step P g2 ) (fun g3 => some g3)))
def fJ7_fill_d0a16_6 (P : PL) : Nat → CS → Nat → Int64 → Int32 → Int32 → Option (CS)
  | 0, _, _, _, _, _ => none
  | n + 1, g, y0, y1, y3, y4 => if y4 ≤ y3 then (some g) else (chk (ib y3 30) (bnd (tL g (y0 + 10) (ix y3) y1) (fun g1 => bnd (y3 + (1 : Int32)) (fun x2 => fJ7_fill_d0a16_6 P n g1 y0 y1 x2 y4))))
def fJ7_fill_d0a16 (P : PL) (g : CS) (a0 : Nat) (a1 : Int64) : Option (CS) :=
  fJ7_fill_d0a16_6 P fuel g a0 a1 (0 : Int32) (30 : Int32)
def fX9_clearTo (P : PL) (g : CS) (o : Nat) (a0 : Int32) (a1 : Int32) : Option (CS) :=
  bnd (tI g o 1 a0) (fun g1 => bnd (tI g1 o 0 a1) (fun g2 => bndv (fJ7_fill_d0a16 P g2 o (0 : Int64)) (fun g3 => some g3)))
def fX9_get (P : PL) (g : CS) (o : Nat) (a0 : Int32) : Option (Int64 × CS) :=
  if a0 < 0 then (some ((0 : Int64), g)) else (if (30 : Int32) ≤ a0 then (some ((0 : Int64), g)) else (chk (ib a0 30) (some (g.2.2.1 (o + 10) (ix a0), g))))
def fX9_cut (P : PL) (g : CS) (o : Nat) (a0 : Int64) : Option (Int64 × CS) :=
  bnd (g.1 o 1) (fun x1 => if x1 = (0 : Int32) then (some (a0.toInt32.toInt8.toInt32.toInt64, g)) else (if x1 = (1 : Int32) then (some (a0.toInt32.toInt16.toInt32.toInt64, g)) else (if x1 = (2 : Int32) then (some (a0.toInt32.toInt64, g)) else (some (a0, g)))))
def fX9_put (P : PL) (g : CS) (o : Nat) (a0 : Int32) (a1 : Int64) : Option (Int64 × CS) :=
  bndc (fX9_cut P g o a1) (fun x1 g2 => if a0 < 0 then (some (x1, g2)) else (if (30 : Int32) ≤ a0 then (some (x1, g2)) else (chk (ib a0 30) (bnd (tL g2 (o + 10) (ix a0) x1) (fun g3 => some (x1, g3))))))
def fX9_tellsLook_12 (P : PL) : Nat → CS → Nat → Int32 → Int32 → Option (Int32 × CS)
  | 0, _, _, _, _ => none
  | n + 1, g, y0, y1, y2 => if y1 ≤ y2 then (some ((1 : Int32), g)) else (bndc (fX9_get P g y0 y2) (fun x1 g2 => if (lg_cmp x1 (-1 : Int64)) < 0 then (some ((0 : Int32), g2)) else (bndc (fX9_get P g2 y0 y2) (fun x3 g4 => if (lg_cmp x3 y1.toInt64) < 0 then (bnd (y2 + (1 : Int32)) (fun x5 => fX9_tellsLook_12 P n g4 y0 y1 x5)) else (some ((0 : Int32), g4))))))
def fX9_tellsLook (P : PL) (g : CS) (o : Nat) (a0 : Int32) : Option (Int32 × CS) :=
  if (g.1 o 0) = a0 then (fX9_tellsLook_12 P fuel g o a0 (0 : Int32)) else (some ((0 : Int32), g))
def fX9_maskOf_4 (P : PL) : Nat → CS → Nat → Int32 → Int32 → Int32 → Option (Int32 × CS)
  | 0, _, _, _, _, _ => none
  | n + 1, g, y0, y1, y2, y3 => if y1 ≤ y3 then (some (y2, g)) else (bndc (fX9_get P g y0 y3) (fun x1 g2 => if (lg_cmp x1 (-1 : Int64)) = 0 then (bnd (y3 + (1 : Int32)) (fun x3 => fX9_maskOf_4 P n g2 y0 y1 y2 x3)) else (bndv (fX1_with y2 y3 (15 : Int32)) (fun x4 => bnd (y3 + (1 : Int32)) (fun x5 => fX9_maskOf_4 P n g2 y0 y1 x4 x5)))))
def fX9_maskOf (P : PL) (g : CS) (o : Nat) (a0 : Int32) : Option (Int32 × CS) :=
  fX9_maskOf_4 P fuel g o a0 (0 : Int32) (0 : Int32)
def fX9_aimsOf_4 (P : PL) : Nat → CS → Nat → Int32 → Int32 → Int32 → Option (Int32 × CS)
  | 0, _, _, _, _, _ => none
  | n + 1, g, y0, y1, y2, y3 => if y1 ≤ y3 then (some (y2, g)) else (bndc (fX9_get P g y0 y3) (fun x1 g2 => if (lg_cmp x1 (-1 : Int64)) = 0 then (bnd (y3 + (1 : Int32)) (fun x3 => fX9_aimsOf_4 P n g2 y0 y1 y2 x3)) else (bndc (fX9_get P g2 y0 y3) (fun x4 g5 => bndv (fX1_with y2 y3 x4.toInt32) (fun x6 => bnd (y3 + (1 : Int32)) (fun x7 => fX9_aimsOf_4 P n g5 y0 y1 x6 x7))))))
def fX9_aimsOf (P : PL) (g : CS) (o : Nat) (a0 : Int32) : Option (Int32 × CS) :=
  fX9_aimsOf_4 P fuel g o a0 (0 : Int32) (0 : Int32)
def fX11_append_3 (P : PL) : Nat → CS → Int32 → Int32 → Option (CS)
  | 0, _, _, _ => none
  | n + 1, g, y1, y2 => if y2 < 0 then (some g) else (if (900 : Int32) ≤ (g.1 0 1) then (some g) else (chk (ib (g.1 0 1) 900) (chk (is8 ((jush y1 y2).toInt8.toInt32)) (bnd (tA g 1 (ix (g.1 0 1)) ((jush y1 y2).toInt8.toInt32)) (fun g1 => bnd (tI g1 0 1 ((g1.1 0 1) + (1 : Int32))) (fun g2 => bnd (y2 + (-8 : Int32)) (fun x3 => fX11_append_3 P n g2 y1 x3)))))))
def fX11_append (P : PL) (g : CS) (a0 : Int32) : Option (CS) :=
  fX11_append_3 P fuel g a0 (24 : Int32)
def fX11_feed (P : PL) (g : CS) (a0 : Int32) (a1 : Int32) (a2 : Int32) (a3 : Int32) (a4 : Int32) : Option (Int32 × CS) :=
  if ((g.1 0 1) + (20 : Int32)) ≤ (900 : Int32) then (bndv (fX11_append P g a0) (fun g1 => bndv (fX11_append P g1 a1) (fun g2 => bndv (fX11_append P g2 a2) (fun g3 => bndv (fX11_append P g3 a3) (fun g4 => bndv (fX11_append P g4 a4) (fun g5 => some (g5.1 0 1, g5))))))) else (some ((-1 : Int32), g))
def fX11_fault (P : PL) (g : CS) (a0 : Int32) : Option (Int32 × CS) :=
  if a0 = 0 then (some (g.1 0 2, g)) else (if a0 = (1 : Int32) then (some (g.1 0 3, g)) else (some ((-1 : Int32), g)))
def fX11_needMember (P : PL) (g : CS) (a0 : Int32) : Option ((Nat ⊕ Unit) × CS) :=
  bndc (fX6_has P g 30 a0) (fun x1 g2 => if x1 = 0 then (some (Sum.inl 2, g2)) else (some (Sum.inr (), g2)))
def fX11_member (P : PL) (g : CS) (a0 : Int32) (a1 : Int32) : Option ((Nat ⊕ Int32) × CS) :=
  bndx (fX11_needMember P g a0) (fun x1 g2 => if a1 = (0 : Int32) then (bndv (fX1_at (g2.1 30 3) a0) (fun x3 => some (Sum.inr x3, g2))) else (if a1 = (1 : Int32) then (bndc (fX6_faced P g2 30 a0) (fun x5 g6 => some (Sum.inr x5, g6))) else (if a1 = (2 : Int32) then (bndv (fX1_at (g2.1 30 4) a0) (fun x9 => some (Sum.inr x9, g2))) else (if a1 = (3 : Int32) then (bndc (fX6_votesIn P g2 30 (g2.1 30 3)) (fun x11 g12 => bndv (fX1_votesAt x11 a0) (fun x13 => some (Sum.inr x13, g12)))) else (if a1 = (4 : Int32) then (bndc (fX6_isStuck P g2 30 a0) (fun x17 g18 => if x17 = 0 then (some (Sum.inr (0 : Int32), g18)) else (some (Sum.inr (1 : Int32), g18)))) else (if a1 = (5 : Int32) then (bndc (fX6_price P g2 30 a0) (fun x21 g22 => some (Sum.inr x21, g22))) else (some (Sum.inl 1, g2))))))))
def fX11_chair (P : PL) (g : CS) : Option (Int32 × CS) :=
  bndc (fX6_chairOf P g 30 (g.1 30 3)) (fun x1 g2 => some (x1, g2))
def fX11_drags (P : PL) (g : CS) (a0 : Int32) : Option ((Nat ⊕ Int32) × CS) :=
  bndx (fX11_needMember P g a0) (fun x1 g2 => bndc (fX6_turningWith P g2 30 a0) (fun x3 g4 => some (Sum.inr x3, g4)))
def fX11_goes (P : PL) (g : CS) (a0 : Int32) : Option ((Nat ⊕ Int32) × CS) :=
  bndx (fX11_needMember P g a0) (fun x1 g2 => bndc (fX6_isStuck P g2 30 a0) (fun x3 g4 => if x3 = 0 then (bndc (fX6_votesIn P g4 30 (g4.1 30 3)) (fun x5 g6 => bndv (fX1_votesAt x5 a0) (fun x7 => bndv (fX1_at (g6.1 30 3) a0) (fun x8 => bndc (fX6_pace P g6 30 a0 x8 x7) (fun x9 g10 => some (Sum.inr x9, g10)))))) else (some (Sum.inr (0 : Int32), g4))))
def fX11_turn (P : PL) (g : CS) (a0 : Int32) (a1 : Int32) : Option (Int32 × CS) :=
  bndc (fX6_turnBy P g 30 a0 a1) (fun x1 g2 => if x1 = 0 then (bndc (fX6_price P g2 30 a0) (fun x3 g4 => some (a1 * x3, g4))) else (some (-x1, g2)))
def fX11_weigh_26 (P : PL) (g : CS) (y1 : Int32) (y2 : Int32) (t0 : Int32) : Option (Int32 × CS) :=
  bndc (fX6_giveWeight P g 30 y1 y2) (fun x1 g2 => if x1 = 0 then (some (t0, g2)) else (some (-x1, g2)))
def fX11_weigh (P : PL) (g : CS) (a0 : Int32) (a1 : Int32) : Option (Int32 × CS) :=
  bndc (fX6_has P g 30 a0) (fun x3 g4 => if x3 = 0 then (fX11_weigh_26 P g4 a0 a1 (0 : Int32)) else (bndv (fX1_at (g4.1 30 4) a0) (fun x5 => fX11_weigh_26 P g4 a0 a1 x5)))
def fX11_stick (P : PL) (g : CS) (a0 : Int32) : Option (Int32 × CS) :=
  bndc (fX6_toggleStuck P g 30 a0) (fun x1 g2 => if x1 = 0 then (bndc (fX6_isStuck P g2 30 a0) (fun x3 g4 => if x3 = 0 then (some ((0 : Int32), g4)) else (some ((1 : Int32), g4)))) else (some (-x1, g2)))
def fX11_minutes_86 (P : PL) (k48 : CS → Int32 → Int32 → Int32 → Int32 → Option ((Nat ⊕ Int32) × CS)) (g : CS) (y1 : Int32) (y2 : Int32) (y4 : Int32) (y5 : Int32) : Option ((Nat ⊕ Int32) × CS) :=
  bnd (y4 + (1 : Int32)) (fun x1 => k48 g y1 y2 y5 x1)
def fX11_minutes_48 (P : PL) : Nat → CS → Int32 → Int32 → Int32 → Int32 → Option ((Nat ⊕ Int32) × CS)
  | 0, _, _, _, _, _ => none
  | n + 1, g, y1, y2, y3, y4 => if y1 ≤ y4 then (some (Sum.inr y2, g)) else (bndv (fX6_passMinute P g 30) (fun g2 => bndc (fX6_chairOf P g2 30 (g2.1 30 3)) (fun x3 g4 => if x3 = y3 then (fX11_minutes_86 P (fX11_minutes_48 P n) g4 y1 y2 y4 x3) else (bnd (y2 + (1 : Int32)) (fun x5 => fX11_minutes_86 P (fX11_minutes_48 P n) g4 y1 x5 y4 x3)))))
def fX11_minutes (P : PL) (g : CS) (a0 : Int32) : Option ((Nat ⊕ Int32) × CS) :=
  if a0 < (1 : Int32) then (some (Sum.inl 1, g)) else (if a0 ≤ (99 : Int32) then (bndv (fX6_remember P g 30) (fun g6 => bndc (fX6_chairOf P g6 30 (g6.1 30 3)) (fun x7 g8 => fX11_minutes_48 P fuel g8 a0 (0 : Int32) x7 (0 : Int32)))) else (some (Sum.inl 1, g)))
def fX11_undo_34 (P : PL) : Nat → CS → Int32 → Int32 → Option ((Nat ⊕ Int32) × CS)
  | 0, _, _, _ => none
  | n + 1, g, y1, y2 => if y1 ≤ y2 then (some (Sum.inr (g.1 30 6), g)) else (bndv (fX6_takeBack P g 30) (fun g1 => bnd (y2 + (1 : Int32)) (fun x2 => fX11_undo_34 P n g1 y1 x2)))
def fX11_undo (P : PL) (g : CS) (a0 : Int32) : Option ((Nat ⊕ Int32) × CS) :=
  if a0 < (1 : Int32) then (some (Sum.inl 1, g)) else (if (10 : Int32) < a0 then (some (Sum.inl 1, g)) else (if a0 ≤ (g.1 30 6) then (fX11_undo_34 P fuel g a0 (0 : Int32)) else (some (Sum.inl 1, g))))
def fX11_needTray (P : PL) (g : CS) (a0 : Int32) : Option ((Nat ⊕ Nat) × CS) :=
  if a0 < 0 then (some (Sum.inl 2, g)) else (if a0 < (4 : Int32) then (chk (ib a0 4) (bnd (50 + ix a0) (fun o1 => chk (okTb o1) (if (g.1 o1 0) = (-1 : Int32) then (some (Sum.inl 3, g)) else (some (Sum.inr o1, g)))))) else (some (Sum.inl 2, g)))
def fX11_judge_93 (P : PL) (g : CS) (y2 : Int32) (y4 : Int32) (y5 : Int32) : Option ((Nat ⊕ Int32) × CS) :=
  if y2 = (0 : Int32) then (some (Sum.inr y5, g)) else (if y2 = (1 : Int32) then (some (Sum.inr y4, g)) else (if y2 = (2 : Int32) then (bndc (fX6_chairOf P g 31 (g.1 31 3)) (fun x1 g2 => some (Sum.inr x1, g2))) else (some (Sum.inr (g.1 31 5), g))))
def fX11_judge_45 (P : PL) : Nat → CS → Int32 → Nat → Int32 → Int32 → Int32 → Option ((Nat ⊕ Int32) × CS)
  | 0, _, _, _, _, _, _ => none
  | n + 1, g, y2, y3, y4, y5, y6 => if (g.1 y3 0) ≤ y6 then (fX11_judge_93 P g y2 y4 y5) else (if y4 = 0 then (bndc (fX9_get P g y3 y6) (fun x5 g6 => bndc (fX6_enact P g6 31 x5) (fun x7 g8 => if x7 = 0 then (bnd (y6 + (1 : Int32)) (fun x10 => fX11_judge_45 P n g8 y2 y3 x7 (-1 : Int32) x10)) else (bnd (y6 + (1 : Int32)) (fun x9 => fX11_judge_45 P n g8 y2 y3 x7 y6 x9))))) else (fX11_judge_93 P g y2 y4 y5))
def fX11_judge (P : PL) (g : CS) (a0 : Int32) (a1 : Int32) : Option ((Nat ⊕ Int32) × CS) :=
  bndx (fX11_needTray P g a0) (fun o11 g12 => chk (okTb o11) (if a1 < 0 then (some (Sum.inl 1, g12)) else (if a1 ≤ (3 : Int32) then (bndv (fX6_become P g12 31 30) (fun g13 => fX11_judge_45 P fuel g13 a1 o11 (0 : Int32) (-1 : Int32) (0 : Int32))) else (some (Sum.inl 1, g12)))))
def fX11_perform_8 (P : PL) : Nat → CS → Nat → Int32 → Option ((Nat ⊕ Int32) × CS)
  | 0, _, _, _ => none
  | n + 1, g, y2, y3 => if (g.1 y2 0) ≤ y3 then (some (Sum.inr y3, g)) else (bndc (fX9_get P g y2 y3) (fun x1 g2 => bndc (fX6_enact P g2 30 x1) (fun x3 g4 => if x3 = 0 then (bnd (y3 + (1 : Int32)) (fun x5 => fX11_perform_8 P n g4 y2 x5)) else (some (Sum.inr y3, g4)))))
def fX11_perform (P : PL) (g : CS) (a0 : Int32) : Option ((Nat ⊕ Int32) × CS) :=
  bndx (fX11_needTray P g a0) (fun o6 g7 => chk (okTb o6) (fX11_perform_8 P fuel g7 o6 (0 : Int32)))
def fX11_drawnFrom (a0 : Int32) : Option (Int32) :=
  some (((1103515245 : Int32) * a0) + (12345 : Int32))
def fX11_enactDrawn_66 (P : PL) (g : CS) (y2 : Int32) (y3 : Int32) : Option (Int32 × CS) :=
  bndc (fX6_turnBy P g 30 y2 y3) (fun x1 g2 => some (x1, g2))
def fX11_enactDrawn (P : PL) (g : CS) (a0 : Int32) (a1 : Int32) (a2 : Int32) : Option (Int32 × CS) :=
  if a0 = (0 : Int32) then (bndc (fX6_enact P g 30 (-1 : Int64)) (fun x3 g4 => some (x3, g4))) else (if a0 = (3 : Int32) then (bndc (fX6_giveWeight P g 30 a1 a2) (fun x7 g8 => some (x7, g8))) else (if a0 = (4 : Int32) then (bndc (fX6_toggleStuck P g 30 a1) (fun x11 g12 => some (x11, g12))) else (fX11_enactDrawn_66 P g a1 a2)))
def fX11_session_111 (P : PL) (k29 : CS → Int32 → Int32 → Int32 → Int32 → Option ((Nat ⊕ Int32) × CS)) (g : CS) (y2 : Int32) (y3 : Int32) (y4 : Int32) (y5 : Int32) (y6 : Int32) (y7 : Int32) (y8 : Int32) : Option ((Nat ⊕ Int32) × CS) :=
  bndc (fX11_enactDrawn P g y6 y7 y8) (fun x1 g2 => if x1 = 0 then (bnd (y4 + (1 : Int32)) (fun x4 => bnd (y5 + (1 : Int32)) (fun x5 => k29 g2 y2 y3 x4 x5))) else (bnd (y5 + (1 : Int32)) (fun x3 => k29 g2 y2 y3 y4 x3)))
def fX11_session_107 (P : PL) (k29 : CS → Int32 → Int32 → Int32 → Int32 → Option ((Nat ⊕ Int32) × CS)) (g : CS) (y2 : Int32) (y3 : Int32) (y4 : Int32) (y5 : Int32) (y6 : Int32) (y7 : Int32) (t0 : Int32) (t1 : Int32) (t2 : Int32) : Option ((Nat ⊕ Int32) × CS) :=
  chk (nz t2) (bnd (t0 + (jrem t1 t2)) (fun x6 => fX11_session_111 P k29 g y2 y3 y4 y5 y6 y7 x6))
def fX11_session_73 (P : PL) (k29 : CS → Int32 → Int32 → Int32 → Int32 → Option ((Nat ⊕ Int32) × CS)) (g : CS) (y2 : Int32) (y3 : Int32) (y4 : Int32) (y5 : Int32) (y6 : Int32) (y7 : Int32) (y8 : Int32) : Option ((Nat ⊕ Int32) × CS) :=
  if y6 < (1 : Int32) then (fX11_session_111 P k29 g y2 y3 y4 y5 y6 y7 y8) else (if (3 : Int32) < y6 then (fX11_session_111 P k29 g y2 y3 y4 y5 y6 y7 y8) else (bndv (fX11_drawnFrom y3) (fun x7 => if y6 = (3 : Int32) then (fX11_session_107 P k29 g y2 x7 y4 y5 y6 y7 (1 : Int32) (jush x7 (16 : Int32)) (9 : Int32)) else (fX11_session_107 P k29 g y2 x7 y4 y5 y6 y7 (1 : Int32) (jush x7 (16 : Int32)) (5 : Int32)))))
def fX11_session_29 (P : PL) : Nat → CS → Int32 → Int32 → Int32 → Int32 → Option ((Nat ⊕ Int32) × CS)
  | 0, _, _, _, _, _ => none
  | n + 1, g, y2, y3, y4, y5 => if y2 ≤ y5 then (some (Sum.inr y4, g)) else (bndv (fX11_drawnFrom y3) (fun x8 => chk (nz (5 : Int32)) (bnd (jrem (jush x8 (16 : Int32)) (5 : Int32)) (fun x9 => if x9 = 0 then (fX11_session_73 P (fX11_session_29 P n) g y2 x8 y4 y5 x9 (0 : Int32) (0 : Int32)) else (bndv (fX11_drawnFrom x8) (fun x10 => chk (nz (6 : Int32)) (bnd (jrem (jush x10 (16 : Int32)) (6 : Int32)) (fun x11 => fX11_session_73 P (fX11_session_29 P n) g y2 x10 y4 y5 x9 x11 (0 : Int32)))))))))
def fX11_session (P : PL) (g : CS) (a0 : Int32) (a1 : Int32) : Option ((Nat ⊕ Int32) × CS) :=
  if a1 < (1 : Int32) then (some (Sum.inl 1, g)) else (if a1 ≤ (30 : Int32) then (fX11_session_29 P fuel g a1 a0 (0 : Int32) (0 : Int32)) else (some (Sum.inl 1, g)))
def fX11_needLook (P : PL) (g : CS) (a0 : Int32) : Option ((Nat ⊕ Nat) × CS) :=
  bndx (fX11_needTray P g a0) (fun o1 g2 => chk (okTb o1) (bndc (fX9_tellsLook P g2 o1 (g2.1 30 1)) (fun x3 g4 => if x3 = 0 then (some (Sum.inl 1, g4)) else (some (Sum.inr o1, g4)))))
def fX11_needPathQuestion (P : PL) (g : CS) (a0 : Int32) : Option ((Nat ⊕ Unit) × CS) :=
  if a0 = 0 then (some (Sum.inr (), g)) else (if a0 < (10 : Int32) then (some (Sum.inl 1, g)) else (if a0 < (16 : Int32) then (some (Sum.inr (), g)) else (some (Sum.inl 1, g))))
def fX11_pathAnswer (P : PL) (g : CS) (a0 : Int32) (a1 : Int32) (a2 : Int32) : Option (Int32 × CS) :=
  if a0 = (-1 : Int32) then (some (a0, g)) else (if a2 = 0 then (some (a0, g)) else (bnd (a2 - (10 : Int32)) (fun x1 => bndc (fX6_has P g 30 x1) (fun x2 g3 => if x2 = 0 then (some ((-1 : Int32), g3)) else (bndv (fX1_at a1 x1) (fun x4 => some (x4, g3)))))))
def fX11_cheapest (P : PL) (g : CS) (a0 : Int32) (a1 : Int32) : Option ((Nat ⊕ Int32) × CS) :=
  bndx (fX11_needLook P g a0) (fun o1 g2 => chk (okTb o1) (bndx (fX11_needPathQuestion P g2 a1) (fun x3 g4 => bndc (fX9_maskOf P g4 o1 (g4.1 30 1)) (fun x5 g6 => bndc (fX9_aimsOf P g6 o1 (g6.1 30 1)) (fun x7 g8 => bndv (fX7_tell P g8 x5 x7) (fun g9 => bndc (fX11_pathAnswer P g9 (g9.1 17 8) (g9.1 17 9) a1) (fun x10 g11 => some (Sum.inr x10, g11))))))))
def fX11_ways (P : PL) (g : CS) (a0 : Int32) : Option ((Nat ⊕ Int32) × CS) :=
  bndx (fX11_needLook P g a0) (fun o1 g2 => chk (okTb o1) (bndc (fX9_maskOf P g2 o1 (g2.1 30 1)) (fun x3 g4 => bndc (fX9_aimsOf P g4 o1 (g4.1 30 1)) (fun x5 g6 => bndv (fX7_tell P g6 x3 x5) (fun g7 => some (Sum.inr (g7.1 17 7), g7))))))
def fX11_throne (P : PL) (g : CS) (a0 : Int32) (a1 : Int32) : Option ((Nat ⊕ Int32) × CS) :=
  bndx (fX11_needMember P g a0) (fun x1 g2 => bndx (fX11_needPathQuestion P g2 a1) (fun x3 g4 => bndv (fX7_seatAll P g4 ) (fun g5 => chk (ib a0 6) (chk (ib a0 6) (bndc (fX11_pathAnswer P g5 (g5.2.1 19 (ix a0)) (g5.2.1 20 (ix a0)) a1) (fun x6 g7 => some (Sum.inr x6, g7)))))))
def fX11_idle (P : PL) (g : CS) : Option (Int32 × CS) :=
  bndv (fX7_tell P g (16777215 : Int32) (g.1 30 3)) (fun g1 => some (g1.1 17 7, g1))
def fX11_looks (P : PL) (g : CS) : Option (Int32 × CS) :=
  bndc (fX11_idle P g ) (fun x1 g2 => if x1 ≤ 0 then (some ((0 : Int32), g2)) else (bndc (fX7_manyTurns P g2 ) (fun x3 g4 => chk (nz x1) (some (x3 / x1, g4)))))
def fX11_power (P : PL) (g : CS) (a0 : Int32) : Option ((Nat ⊕ Int32) × CS) :=
  bndx (fX11_needMember P g a0) (fun x1 g2 => bndv (fX7_seatAll P g2 ) (fun g3 => bndc (fX11_idle P g3 ) (fun x4 g5 => if x4 ≤ 0 then (some (Sum.inr (0 : Int32), g5)) else (chk (ib a0 6) (chk (nz x4) (some (Sum.inr ((g5.2.1 18 (ix a0)) / x4), g5)))))))
def fX11_strongest_11 (P : PL) : Nat → CS → Int32 → Int32 → Option (Int32 × CS)
  | 0, _, _, _ => none
  | n + 1, g, y1, y2 => if (g.1 30 1) ≤ y2 then (some (y1, g)) else (chk (ib y2 6) (chk (ib y1 6) (if (g.2.1 18 (ix y2)) ≤ (g.2.1 18 (ix y1)) then (bnd (y2 + (1 : Int32)) (fun x1 => fX11_strongest_11 P n g y1 x1)) else (bnd (y2 + (1 : Int32)) (fun x2 => fX11_strongest_11 P n g y2 x2)))))
def fX11_strongest (P : PL) (g : CS) : Option (Int32 × CS) :=
  bndv (fX7_seatAll P g ) (fun g3 => fX11_strongest_11 P fuel g3 (0 : Int32) (1 : Int32))
def fX11_motion_36 (P : PL) : Nat → CS → Int32 → Int32 → Option ((Nat ⊕ Int32) × CS)
  | 0, _, _, _ => none
  | n + 1, g, y1, y2 => if (g.1 22 2) ≤ y2 then (some (Sum.inr (-1 : Int32), g)) else (chk (ib y2 30) (bndc (fX6_chairOf P g 30 (g.2.1 24 (ix y2))) (fun x1 g2 => if x1 = y1 then (chk (ib y2 30) (some (Sum.inr (g2.2.1 23 (ix y2)), g2))) else (bnd (y2 + (1 : Int32)) (fun x3 => fX11_motion_36 P n g2 y1 x3)))))
def fX11_motion (P : PL) (g : CS) (a0 : Int32) : Option ((Nat ⊕ Int32) × CS) :=
  bndx (fX11_needMember P g a0) (fun x4 g5 => bndc (fX6_chairOf P g5 30 (g5.1 30 3)) (fun x6 g7 => if x6 = a0 then (some (Sum.inr (-1 : Int32), g7)) else (bndv (fX5_list P g7 (0 : Int32) (0 : Int32)) (fun g8 => fX11_motion_36 P fuel g8 a0 (0 : Int32)))))
def fX11_helps_25 (P : PL) (g : CS) (y1 : Int32) (y2 : Int32) : Option ((Nat ⊕ Int32) × CS) :=
  bndv (fX7_seatAll P g ) (fun g1 => chk (ib y1 6) (bnd (g1.2.1 21 (ix y1)) (fun x2 => if x2 = (-1 : Int32) then (some (Sum.inr (-1 : Int32), g1)) else (if y2 = 0 then (bndv (fJ6_bitCount_0f7a4 x2) (fun x3 => some (Sum.inr x3, g1))) else (some (Sum.inr x2, g1))))))
def fX11_helps (P : PL) (g : CS) (a0 : Int32) (a1 : Int32) : Option ((Nat ⊕ Int32) × CS) :=
  bndx (fX11_needMember P g a0) (fun x4 g5 => if a1 = 0 then (fX11_helps_25 P g5 a0 a1) else (if a1 = (1 : Int32) then (fX11_helps_25 P g5 a0 a1) else (some (Sum.inl 1, g5))))
def fX11_vetoes_29 (P : PL) : Nat → CS → Int32 → Int32 → Int32 → Option ((Nat ⊕ Int32) × CS)
  | 0, _, _, _, _ => none
  | n + 1, g, y1, y2, y3 => if (g.1 30 1) ≤ y3 then (some (Sum.inr y2, g)) else (bndc (fX6_isStuck P g 30 y3) (fun x1 g2 => if x1 = 0 then (bndc (fX7_reaches P g2 y1 ((g2.1 30 5) ||| (jshl (1 : Int32) y3))) (fun x4 g5 => if x4 = 0 then (bnd (y2 ||| (jshl (1 : Int32) y3)) (fun x7 => bnd (y3 + (1 : Int32)) (fun x8 => fX11_vetoes_29 P n g5 y1 x7 x8))) else (bnd (y3 + (1 : Int32)) (fun x6 => fX11_vetoes_29 P n g5 y1 y2 x6)))) else (bnd (y3 + (1 : Int32)) (fun x3 => fX11_vetoes_29 P n g2 y1 y2 x3))))
def fX11_vetoes (P : PL) (g : CS) (a0 : Int32) : Option ((Nat ⊕ Int32) × CS) :=
  bndx (fX11_needMember P g a0) (fun x9 g10 => bndc (fX7_reaches P g10 a0 (g10.1 30 5)) (fun x11 g12 => if x11 = 0 then (some (Sum.inr (0 : Int32), g12)) else (fX11_vetoes_29 P fuel g12 a0 (0 : Int32) (0 : Int32))))
def fX11_knees_54 (P : PL) (g : CS) (t1 : Int32) (t2 : Int32) (t3 : Int32) : Option ((Nat ⊕ Int32) × CS) :=
  bndc (fX11_pathAnswer P g t1 t2 t3) (fun x1 g2 => some (Sum.inr x1, g2))
def fX11_knees_10 (P : PL) (g : CS) (y1 : Int32) : Option ((Nat ⊕ Int32) × CS) :=
  bndv (fX7_pairAll P g ) (fun g3 => if y1 = 0 then (some (Sum.inr (g3.1 17 10), g3)) else (if y1 = (1 : Int32) then (fX11_knees_54 P g3 (g3.1 17 11) (g3.1 17 12) (0 : Int32)) else (fX11_knees_54 P g3 (g3.1 17 11) (g3.1 17 12) y1)))
def fX11_knees (P : PL) (g : CS) (a0 : Int32) : Option ((Nat ⊕ Int32) × CS) :=
  if a0 = (1 : Int32) then (fX11_knees_10 P g a0) else (bndx (fX11_needPathQuestion P g a0) (fun x4 g5 => fX11_knees_10 P g5 a0))
def fX11_settles_20 (P : PL) (g : CS) (y1 : Int32) : Option ((Nat ⊕ Int32) × CS) :=
  bndv (fX0_settle P g ) (fun g1 => if y1 = 0 then (some (Sum.inr (g1.1 27 3), g1)) else (some (Sum.inr (g1.1 27 4), g1)))
def fX11_settles (P : PL) (g : CS) (a0 : Int32) : Option ((Nat ⊕ Int32) × CS) :=
  if a0 = 0 then (fX11_settles_20 P g a0) else (if a0 = (1 : Int32) then (fX11_settles_20 P g a0) else (some (Sum.inl 1, g)))
def fX11_needMinutes (P : PL) (g : CS) (a0 : Int32) (a1 : Int32) : Option ((Nat ⊕ Unit) × CS) :=
  if a0 < 0 then (some (Sum.inl 1, g)) else (if a0 ≤ a1 then (some (Sum.inr (), g)) else (some (Sum.inl 1, g)))
def fX11_chairIn (P : PL) (g : CS) (a0 : Int32) : Option ((Nat ⊕ Int32) × CS) :=
  bndx (fX11_needMinutes P g a0 (99999 : Int32)) (fun x1 g2 => bndc (fX0_lookIn P g2 a0) (fun x3 g4 => bndc (fX6_chairOf P g4 30 x3) (fun x5 g6 => some (Sum.inr x5, g6))))
def fX11_aimIn (P : PL) (g : CS) (a0 : Int32) (a1 : Int32) : Option ((Nat ⊕ Int32) × CS) :=
  bndx (fX11_needMember P g a0) (fun x1 g2 => bndx (fX11_needMinutes P g2 a1 (99999 : Int32)) (fun x3 g4 => bndc (fX0_lookIn P g4 a1) (fun x5 g6 => bndv (fX1_at x5 a0) (fun x7 => some (Sum.inr x7, g6)))))
def fX11_reign (P : PL) (g : CS) (a0 : Int32) (a1 : Int32) : Option ((Nat ⊕ Int32) × CS) :=
  bndx (fX11_needMember P g a0) (fun x1 g2 => bndx (fX11_needMinutes P g2 a1 (9999 : Int32)) (fun x3 g4 => bndc (fX0_reignOf P g4 a0 a1) (fun x5 g6 => some (Sum.inr x5, g6))))
def fX11_first (P : PL) (g : CS) (a0 : Int32) : Option ((Nat ⊕ Int32) × CS) :=
  bndx (fX11_needMember P g a0) (fun x1 g2 => bndc (fX0_firstOf P g2 a0) (fun x3 g4 => some (Sum.inr x3, g4)))
def fX11_listSeen (P : PL) (g : CS) (a0 : Int32) : Option ((Nat ⊕ Int32) × CS) :=
  bndx (fX11_needLook P g a0) (fun o1 g2 => chk (okTb o1) (bndc (fX9_maskOf P g2 o1 (g2.1 30 1)) (fun x3 g4 => bndc (fX9_aimsOf P g4 o1 (g4.1 30 1)) (fun x5 g6 => bndv (fX5_list P g6 x3 x5) (fun g7 => some (Sum.inr x3, g7))))))
def fX11_seen (P : PL) (g : CS) (a0 : Int32) : Option ((Nat ⊕ Int32) × CS) :=
  bndx (fX11_listSeen P g a0) (fun x1 g2 => some (Sum.inr (g2.1 22 2), g2))
def fX11_seenAt (P : PL) (g : CS) (a0 : Int32) (a1 : Int32) : Option ((Nat ⊕ Int32) × CS) :=
  bndx (fX11_needLook P g a0) (fun o1 g2 => chk (okTb o1) (if 0 ≤ a1 then (bndc (fX9_maskOf P g2 o1 (g2.1 30 1)) (fun x3 g4 => bndc (fX9_aimsOf P g4 o1 (g4.1 30 1)) (fun x5 g6 => bndv (fX5_list P g6 x3 x5) (fun g7 => if (g7.1 22 2) ≤ a1 then (some (Sum.inr (-1 : Int32), g7)) else (chk (ib a1 30) (some (Sum.inr (g7.2.1 23 (ix a1)), g7))))))) else (some (Sum.inl 1, g2))))
def fX11_ask_34 (P : PL) : Nat → CS → Int32 → Int32 → Int32 → Int32 → Option ((Nat ⊕ Int32) × CS)
  | 0, _, _, _, _, _ => none
  | n + 1, g, y2, y3, y4, y5 => if (g.1 30 1) ≤ y5 then (some (Sum.inr y3, g)) else (bndv (fX1_at y2 y5) (fun x1 => if x1 = 0 then (bndc (fX5_mostAlike P g y5) (fun x3 g4 => if y4 ≤ x3 then (bnd (y5 + (1 : Int32)) (fun x5 => fX11_ask_34 P n g4 y2 y3 y4 x5)) else (bnd (y5 + (1 : Int32)) (fun x6 => fX11_ask_34 P n g4 y2 y5 x3 x6)))) else (bnd (y5 + (1 : Int32)) (fun x2 => fX11_ask_34 P n g y2 y3 y4 x2))))
def fX11_ask (P : PL) (g : CS) (a0 : Int32) : Option ((Nat ⊕ Int32) × CS) :=
  bndx (fX11_listSeen P g a0) (fun x7 g8 => if (g8.1 22 2) = 0 then (some (Sum.inr (-1 : Int32), g8)) else (bnd ((g8.1 22 2) + (1 : Int32)) (fun x9 => fX11_ask_34 P fuel g8 x7 (-1 : Int32) x9 (0 : Int32))))
def fX11_commonMeasure_7 : Nat → Int32 → Int32 → Int32 → Option (Int32)
  | 0, _, _, _ => none
  | n + 1, y2, y3, y4 => if (64 : Int32) ≤ y4 then (some y2) else (if y3 ≤ 0 then (some y2) else (chk (nz y3) (bnd (jrem y2 y3) (fun x1 => bnd (y4 + (1 : Int32)) (fun x2 => fX11_commonMeasure_7 n y3 x1 x2)))))
def fX11_commonMeasure (a0 : Int32) (a1 : Int32) : Option (Int32) :=
  fX11_commonMeasure_7 fuel a0 a1 (0 : Int32)
def fX11_needChances (P : PL) (g : CS) (a0 : Int32) : Option ((Nat ⊕ Unit) × CS) :=
  if a0 < 0 then (some (Sum.inl 1, g)) else (if a0 ≤ (6 : Int32) then (some (Sum.inr (), g)) else (some (Sum.inl 1, g)))
def fX11_chance_30 (P : PL) (g : CS) (y1 : Int32) (y2 : Int32) (y3 : Int32) : Option ((Nat ⊕ Int32) × CS) :=
  bndv (fX5_scatter P g y2) (fun g1 => chk (ib y1 6) (bnd (g1.2.1 26 (ix y1)) (fun x2 => bnd (g1.1 22 7) (fun x3 => bndv (fX11_commonMeasure x2 x3) (fun x4 => if (1 : Int32) ≤ x4 then (if y3 = 0 then (chk (nz x4) (some (Sum.inr (x2 / x4), g1))) else (chk (nz x4) (some (Sum.inr (x3 / x4), g1)))) else (some (Sum.inr (0 : Int32), g1)))))))
def fX11_chance (P : PL) (g : CS) (a0 : Int32) (a1 : Int32) (a2 : Int32) : Option ((Nat ⊕ Int32) × CS) :=
  bndx (fX11_needMember P g a0) (fun x5 g6 => bndx (fX11_needChances P g6 a1) (fun x7 g8 => if a2 = 0 then (fX11_chance_30 P g8 a0 a1 a2) else (if a2 = (1 : Int32) then (fX11_chance_30 P g8 a0 a1 a2) else (some (Sum.inl 1, g8)))))
def fX11_likeliest_20 (P : PL) : Nat → CS → Int32 → Int32 → Int32 → Option ((Nat ⊕ Int32) × CS)
  | 0, _, _, _, _ => none
  | n + 1, g, y2, y3, y4 => if (g.1 30 1) ≤ y4 then (some (Sum.inr y2, g)) else (chk (ib y4 6) (if (g.2.1 26 (ix y4)) ≤ y3 then (bnd (y4 + (1 : Int32)) (fun x1 => fX11_likeliest_20 P n g y2 y3 x1)) else (chk (ib y4 6) (bnd (g.2.1 26 (ix y4)) (fun x2 => bnd (y4 + (1 : Int32)) (fun x3 => fX11_likeliest_20 P n g y4 x2 x3))))))
def fX11_likeliest (P : PL) (g : CS) (a0 : Int32) : Option ((Nat ⊕ Int32) × CS) :=
  bndx (fX11_needChances P g a0) (fun x4 g5 => bndv (fX5_scatter P g5 a0) (fun g6 => fX11_likeliest_20 P fuel g6 (-1 : Int32) (0 : Int32) (0 : Int32)))
def fX11_tray (P : PL) (g : CS) (a0 : Int32) (a1 : Int32) (a2 : Int32) : Option ((Nat ⊕ Unit) × CS) :=
  if a0 < 0 then (some (Sum.inl 2, g)) else (if a0 < (4 : Int32) then (if a1 < 0 then (some (Sum.inl 1, g)) else (if (3 : Int32) < a1 then (some (Sum.inl 1, g)) else (if a2 < 0 then (some (Sum.inl 1, g)) else (if a2 ≤ (30 : Int32) then (chk (ib a0 4) (bnd (50 + ix a0) (fun o1 => chk (okTb o1) (bndv (fX9_clearTo P g o1 a1 a2) (fun g2 => some (Sum.inr (), g2)))))) else (some (Sum.inl 1, g)))))) else (some (Sum.inl 2, g)))
def fX11_write (P : PL) (g : CS) (a0 : Int32) (a1 : Int32) (a2 : Int64) : Option ((Nat ⊕ Int64) × CS) :=
  bndx (fX11_needTray P g a0) (fun o1 g2 => chk (okTb o1) (if a1 < 0 then (some (Sum.inl 4, g2)) else (if a1 < (g2.1 o1 0) then (bndc (fX9_put P g2 o1 a1 a2) (fun x3 g4 => some (Sum.inr x3, g4))) else (some (Sum.inl 4, g2)))))
def fX11_copy_43 (P : PL) : Nat → CS → Nat → Int32 → Int32 → Int32 → Option ((Nat ⊕ Int32) × CS)
  | 0, _, _, _, _, _ => none
  | n + 1, g, y3, y4, y5, y6 => if y5 ≤ y6 then (some (Sum.inr y5, g)) else (bndv (fX1_at y4 y6) (fun x1 => bndc (fX9_put P g y3 y6 x1.toInt64) (fun x2 g3 => bnd (y6 + (1 : Int32)) (fun x4 => fX11_copy_43 P n g3 y3 y4 y5 x4))))
def fX11_copy (P : PL) (g : CS) (a0 : Int32) (a1 : Int32) : Option ((Nat ⊕ Int32) × CS) :=
  bndx (fX11_needTray P g a0) (fun o5 g6 => chk (okTb o5) (bndx (fX11_needMinutes P g6 a1 (99999 : Int32)) (fun x7 g8 => bndc (fX0_lookIn P g8 a1) (fun x9 g10 => bnd (jmin (g10.1 o5 0) (g10.1 30 1)) (fun x11 => fX11_copy_43 P fuel g10 o5 x9 x11 (0 : Int32))))))
def fX11_needImage (P : PL) (g : CS) (a0 : Int32) : Option ((Nat ⊕ Unit) × CS) :=
  if a0 < 0 then (some (Sum.inl 2, g)) else (if a0 < (3 : Int32) then (some (Sum.inr (), g)) else (some (Sum.inl 2, g)))
def fX11_image (P : PL) (g : CS) (a0 : Int32) : Option ((Nat ⊕ Unit) × CS) :=
  bndx (fX11_needImage P g a0) (fun x1 g2 => chk (ib a0 3) (bnd (32 + ix a0) (fun o3 => chk (okSb o3) (bndv (fX6_become P g2 o3 30) (fun g4 => bnd (tI g4 0 4 ((g4.1 0 4) ||| (jshl (1 : Int32) a0))) (fun g5 => some (Sum.inr (), g5)))))))
def fX11_restore (P : PL) (g : CS) (a0 : Int32) : Option ((Nat ⊕ Unit) × CS) :=
  bndx (fX11_needImage P g a0) (fun x1 g2 => if ((jshr (g2.1 0 4) a0) &&& (1 : Int32)) = 0 then (some (Sum.inl 3, g2)) else (chk (ib a0 3) (bnd (32 + ix a0) (fun o3 => chk (okSb o3) (bndv (fX6_become P g2 30 o3) (fun g4 => some (Sum.inr (), g4)))))))
def fX11_count (P : PL) (g : CS) (a0 : Int32) : Option (Int32 × CS) :=
  if a0 = (0 : Int32) then (some (g.1 30 2, g)) else (if a0 = (1 : Int32) then (some (g.1 30 1, g)) else (if a0 = (2 : Int32) then (some (g.1 30 5, g)) else (if a0 = (3 : Int32) then (bndc (fX6_lookingOut P g 30) (fun x1 g2 => some (x1, g2))) else (if a0 = (4 : Int32) then (bndv (fX1_kneesIn (g.1 30 3) (g.1 30 1)) (fun x5 => some (x5, g))) else (if a0 = (5 : Int32) then (bndc (fX6_weightsTogether P g 30) (fun x7 g8 => some (x7, g8))) else (if a0 = (6 : Int32) then (some (g.1 30 6, g)) else (if a0 = (7 : Int32) then (some (g.1 0 1, g)) else (some ((-1 : Int32), g)))))))))
