def fX12_thrown (g : MS) : Option (Int32 × MS) :=
  some (g.1 4, g)
def fX12_fails (g : MS) (a0 : Int32) : Option (Int32 × MS) :=
  bnd (sI g 4 a0) (fun g1 => some ((0 : Int32), g1))
def fX12_within (a0 : Int64) (a1 : Int64) (a2 : Int64) : Option (Int32) :=
  if (lg_cmp a0 a1) < 0 then (some (0 : Int32)) else (if 0 < (lg_cmp a0 a2) then (some (0 : Int32)) else (some (1 : Int32)))
def fX12_has (a0 : Int32) (a1 : Int32) : Option (Int32) :=
  if ((jshr a0 a1) &&& (1 : Int32)) = (1 : Int32) then (some (1 : Int32)) else (some (0 : Int32))
def fX12_bits_4 : Nat → Int32 → Int32 → Option (Int32)
  | 0, _, _ => none
  | n + 1, y1, y2 => if y2 = 0 then (some y1) else (bnd (y1 + (1 : Int32)) (fun x1 => bnd (y2 &&& (y2 - (1 : Int32))) (fun x2 => fX12_bits_4 n x1 x2)))
def fX12_bits (a0 : Int32) : Option (Int32) :=
  fX12_bits_4 fuel (0 : Int32) a0
def fX12_feed_76 (k23 : MS → Int32 → Int32 → Int32 → Int32 → Int32 → Int32 → Option (Int32 × MS)) (g : MS) (y1 : Int32) (y2 : Int32) (y3 : Int32) (y4 : Int32) (y5 : Int32) (y6 : Int32) (t0 : Int32) : Option (Int32 × MS) :=
  chk (ib (g.1 6) 900) (bnd (sA g 5 (ix (g.1 6)) ((jush t0 ((24 : Int32) - ((8 : Int32) * (y6 &&& (3 : Int32))))) &&& (255 : Int32))) (fun g1 => bnd (sI g1 6 ((g1.1 6) + (1 : Int32))) (fun g2 => bnd (y6 + (1 : Int32)) (fun x3 => k23 g2 y1 y2 y3 y4 y5 x3))))
def fX12_feed_23 : Nat → MS → Int32 → Int32 → Int32 → Int32 → Int32 → Int32 → Option (Int32 × MS)
  | 0, _, _, _, _, _, _, _ => none
  | n + 1, g, y1, y2, y3, y4, y5, y6 => if (20 : Int32) ≤ y6 then (some (g.1 6, g)) else (if (4 : Int32) ≤ y6 then (if (8 : Int32) ≤ y6 then (if (12 : Int32) ≤ y6 then (if (16 : Int32) ≤ y6 then (fX12_feed_76 (fX12_feed_23 n) g y1 y2 y3 y4 y5 y6 y5) else (fX12_feed_76 (fX12_feed_23 n) g y1 y2 y3 y4 y5 y6 y4)) else (fX12_feed_76 (fX12_feed_23 n) g y1 y2 y3 y4 y5 y6 y3)) else (fX12_feed_76 (fX12_feed_23 n) g y1 y2 y3 y4 y5 y6 y2)) else (fX12_feed_76 (fX12_feed_23 n) g y1 y2 y3 y4 y5 y6 y1))
def fX12_feed (g : MS) (a0 : Int32) (a1 : Int32) (a2 : Int32) (a3 : Int32) (a4 : Int32) : Option (Int32 × MS) :=
  bnd (sI g 4 (0 : Int32)) (fun g4 => if ((g4.1 6) + (20 : Int32)) ≤ (900 : Int32) then (fX12_feed_23 fuel g4 a0 a1 a2 a3 a4 (0 : Int32)) else (some ((-1 : Int32), g4)))
def fX12_see (g : MS) (a0 : Int32) : Option (Int32 × MS) :=
  if (g.1 7) ≤ a0 then (some ((0 : Int32), g)) else (chk (ib a0 900) (some (g.2.1 5 (ix a0), g)))
def fX12_isLetter (a0 : Int32) : Option (Int32) :=
  if a0 < (97 : Int32) then (some (0 : Int32)) else (if (122 : Int32) < a0 then (some (0 : Int32)) else (some (1 : Int32)))
def fX12_isDigit (a0 : Int32) : Option (Int32) :=
  if a0 < (48 : Int32) then (some (0 : Int32)) else (if (57 : Int32) < a0 then (some (0 : Int32)) else (some (1 : Int32)))
def fX12_isSignByte_82 : Option (Int32) :=
  some (1 : Int32)
def fX12_isSignByte_41 (y0 : Int32) (t0 : Int32) : Option (Int32) :=
  if t0 = 0 then (if y0 = (59 : Int32) then (fX12_isSignByte_82 ) else (if y0 = (43 : Int32) then (fX12_isSignByte_82 ) else (if y0 = (45 : Int32) then (fX12_isSignByte_82 ) else (if y0 = (42 : Int32) then (fX12_isSignByte_82 ) else (if y0 = (40 : Int32) then (fX12_isSignByte_82 ) else (if y0 = (41 : Int32) then (fX12_isSignByte_82 ) else (some (0 : Int32)))))))) else (fX12_isSignByte_82 )
def fX12_isSignByte_36 (y0 : Int32) : Option (Int32) :=
  fX12_isSignByte_41 y0 (1 : Int32)
def fX12_isSignByte (a0 : Int32) : Option (Int32) :=
  if a0 = (91 : Int32) then (fX12_isSignByte_36 a0) else (if a0 = (93 : Int32) then (fX12_isSignByte_36 a0) else (if a0 = (61 : Int32) then (fX12_isSignByte_36 a0) else (if a0 = (60 : Int32) then (fX12_isSignByte_36 a0) else (if a0 = (62 : Int32) then (fX12_isSignByte_36 a0) else (if a0 = (58 : Int32) then (fX12_isSignByte_36 a0) else (fX12_isSignByte_41 a0 (0 : Int32)))))))
def fX12_readsOn_250 (g : MS) (t1 : Int32) : Option (MS) :=
  bnd (sI g 10 t1) (fun g1 => bnd (sI g1 8 ((g1.1 8) + (1 : Int32))) (fun g2 => some g2))
def fX12_readsOn_231 (g : MS) (t1 : Int32) : Option (MS) :=
  bnd (sI g 10 t1) (fun g3 => some g3)
def fX12_readsOn_196 (k141 : MS → Option (MS)) (g : MS) (t1 : Int32) : Option (MS) :=
  bnd (sI g 11 t1) (fun g4 => bnd (sI g4 8 ((g4.1 8) + (1 : Int32))) (fun g5 => k141 g5))
def fX12_readsOn_141 : Nat → MS → Option (MS)
  | 0, _ => none
  | n + 1, g => bndc (fX12_see g (g.1 8)) (fun x6 g7 => bndv (fX12_isDigit x6) (fun x8 => if x8 = 0 then (if ((g7.1 8) - (g7.1 9)) ≤ (3 : Int32) then (fX12_readsOn_231 g7 (2 : Int32)) else (fX12_readsOn_231 g7 (3 : Int32))) else (if (3 : Int32) ≤ ((g7.1 8) - (g7.1 9)) then (fX12_readsOn_196 (fX12_readsOn_141 n) g7 (g7.1 11)) else (chk (ib (g7.1 8) 900) (fX12_readsOn_196 (fX12_readsOn_141 n) g7 ((((10 : Int32) * (g7.1 11)) + (g7.2.1 5 (ix (g7.1 8)))) - (48 : Int32)))))))
def fX12_readsOn_94 : Nat → MS → Option (MS)
  | 0, _ => none
  | n + 1, g => bndc (fX12_see g (g.1 8)) (fun x9 g10 => bndv (fX12_isLetter x9) (fun x11 => if x11 = 0 then (bnd (sI g10 10 (1 : Int32)) (fun g12 => some g12)) else (bnd (sI g10 8 ((g10.1 8) + (1 : Int32))) (fun g13 => fX12_readsOn_94 n g13))))
def fX12_readsOn_52 (g : MS) : Option (MS) :=
  bnd (sI g 9 (g.1 8)) (fun g14 => if (g14.1 8) < (g14.1 7) then (chk (ib (g14.1 8) 900) (bnd (g14.2.1 5 (ix (g14.1 8))) (fun x15 => bndv (fX12_isLetter x15) (fun x16 => if x16 = 0 then (bndv (fX12_isDigit x15) (fun x17 => if x17 = 0 then (bndv (fX12_isSignByte x15) (fun x18 => if x18 = 0 then (fX12_readsOn_250 g14 (3 : Int32)) else (fX12_readsOn_250 g14 x15))) else (bnd (sI g14 11 (0 : Int32)) (fun g19 => fX12_readsOn_141 fuel g19)))) else (fX12_readsOn_94 fuel g14))))) else (bnd (sI g14 10 (0 : Int32)) (fun g20 => some g20)))
def fX12_readsOn_39 (k0 : MS → Option (MS)) (g : MS) : Option (MS) :=
  bnd (sI g 8 ((g.1 8) + (1 : Int32))) (fun g21 => k0 g21)
def fX12_readsOn_0 : Nat → MS → Option (MS)
  | 0, _ => none
  | n + 1, g => if (g.1 7) ≤ (g.1 8) then (fX12_readsOn_52 g) else (chk (ib (g.1 8) 900) (if (g.2.1 5 (ix (g.1 8))) = (32 : Int32) then (fX12_readsOn_39 (fX12_readsOn_0 n) g) else (chk (ib (g.1 8) 900) (if (g.2.1 5 (ix (g.1 8))) = (10 : Int32) then (fX12_readsOn_39 (fX12_readsOn_0 n) g) else (fX12_readsOn_52 g)))))
def fX12_readsOn (g : MS) : Option (MS) :=
  fX12_readsOn_0 fuel g
def fX12_blames_22 (g : MS) (t1 : Int32) : Option (MS) :=
  bnd (sI g 12 t1) (fun g1 => bnd (sI g1 13 (g1.1 9)) (fun g2 => some g2))
def fX12_blames (g : MS) (a0 : Int32) : Option (MS) :=
  if (g.1 12) = 0 then (if (g.1 10) = (3 : Int32) then (fX12_blames_22 g (1 : Int32)) else (fX12_blames_22 g a0)) else (some g)
def fX12_isWord_39 : Nat → MS → Nat → Int32 → Int32 → Option (Int32 × MS)
  | 0, _, _, _, _ => none
  | n + 1, g, y1, y2, y3 => if y2 = 0 then (chk (isB y2) (some (y2, g))) else (if (nI (tx y1).length) ≤ y3 then (chk (isB y2) (some (y2, g))) else (chk (ib ((g.1 9) + y3) 900) (chk (ib y3 (tx y1).length) (if (g.2.1 5 (ix ((g.1 9) + y3))) = ((tx y1).getD (ix y3) 0) then (bnd (y3 + (1 : Int32)) (fun x2 => fX12_isWord_39 n g y1 (1 : Int32) x2)) else (bnd (y3 + (1 : Int32)) (fun x1 => fX12_isWord_39 n g y1 (0 : Int32) x1))))))
def fX12_isWord_36 (g : MS) (y1 : Nat) (t0 : Int32) : Option (Int32 × MS) :=
  fX12_isWord_39 fuel g y1 t0 (0 : Int32)
def fX12_isWord_35 (g : MS) (y1 : Nat) : Option (Int32 × MS) :=
  fX12_isWord_36 g y1 (0 : Int32)
def fX12_isWord (g : MS) (a0 : Nat) : Option (Int32 × MS) :=
  if (g.1 12) = 0 then (if (g.1 10) = (1 : Int32) then (if ((g.1 8) - (g.1 9)) = (nI (tx a0).length) then (fX12_isWord_36 g a0 (1 : Int32)) else (fX12_isWord_35 g a0)) else (fX12_isWord_35 g a0)) else (fX12_isWord_35 g a0)
def fX12_took (g : MS) (a0 : Nat) : Option (Int32 × MS) :=
  bndc (fX12_isWord g a0) (fun x1 g2 => if x1 = 0 then (chk (isB x1) (some (x1, g2))) else (bndv (fX12_readsOn g2 ) (fun g3 => chk (isB x1) (some (x1, g3)))))
def fX12_isSign (g : MS) (a0 : Int32) : Option (Int32 × MS) :=
  if (g.1 12) = 0 then (if (g.1 10) = a0 then (some ((1 : Int32), g)) else (some ((0 : Int32), g))) else (some ((0 : Int32), g))
def fX12_mustSign_13 (g : MS) : Option (MS) :=
  if (g.1 12) = 0 then (bndv (fX12_readsOn g ) (fun g1 => some g1)) else (some g)
def fX12_mustSign (g : MS) (a0 : Int32) : Option (MS) :=
  if (g.1 10) = a0 then (fX12_mustSign_13 g) else (bndv (fX12_blames g (2 : Int32)) (fun g2 => fX12_mustSign_13 g2))
def fX12_number_52 (g : MS) (y1 : Int32) (y3 : Int32) : Option (Int32 × MS) :=
  if (g.1 12) = 0 then (some (y3, g)) else (some (y1, g))
def fX12_number_36 (g : MS) (y1 : Int32) : Option (Int32 × MS) :=
  bnd (g.1 11) (fun x1 => if (g.1 12) = 0 then (bndv (fX12_readsOn g ) (fun g2 => fX12_number_52 g2 y1 x1)) else (fX12_number_52 g y1 x1))
def fX12_number (g : MS) (a0 : Int32) (a1 : Int32) : Option (Int32 × MS) :=
  if (g.1 10) = (2 : Int32) then (bndv (fX12_within ((g.1 11).toInt64) a0.toInt64 a1.toInt64) (fun x3 => if x3 = 0 then (bndv (fX12_blames g (3 : Int32)) (fun g4 => fX12_number_36 g4 a0)) else (fX12_number_36 g a0))) else (bndv (fX12_blames g (2 : Int32)) (fun g5 => fX12_number_36 g5 a0))
def fX12_mustWord (g : MS) (a0 : Nat) : Option (MS) :=
  bndc (fX12_took g a0) (fun x1 g2 => if x1 = 0 then (bndv (fX12_blames g2 (2 : Int32)) (fun g3 => some g3)) else (some g2))
def fX12_laysStep (g : MS) (a0 : Int32) : Option (MS) :=
  if (g.1 12) = 0 then (chk (ib (g.1 17) 2850) (chk (ib ((g.1 18) + (g.2.1 1 (ix (g.1 17)))) 2850) (bnd (sA g 1 (ix ((g.1 18) + (g.2.1 1 (ix (g.1 17))))) a0) (fun g1 => chk (ib (g1.1 17) 2850) (chk (ib (g1.1 17) 2850) (bnd (sA g1 1 (ix (g1.1 17)) ((g1.2.1 1 (ix (g1.1 17))) + (1 : Int32))) (fun g2 => some g2))))))) else (some g)
def fX12_beginsLaw (g : MS) (a0 : Int32) (a1 : Int32) : Option (MS) :=
  bnd (sI g 17 a0) (fun g1 => bnd (sI g1 18 a1) (fun g2 => chk (ib a0 2850) (bnd (sA g2 1 (ix a0) (0 : Int32)) (fun g3 => bndv (fX12_mustSign g3 (58 : Int32)) (fun g4 => some g4)))))
def fX12_goesIn_14 (g : MS) : Option (MS) :=
  bnd (sI g 16 ((g.1 16) + (1 : Int32))) (fun g1 => if (g1.1 12) = 0 then (bndv (fX12_readsOn g1 ) (fun g2 => some g2)) else (some g1))
def fX12_goesIn (g : MS) : Option (MS) :=
  if (g.1 16) = (6 : Int32) then (bndv (fX12_blames g (4 : Int32)) (fun g3 => fX12_goesIn_14 g3)) else (fX12_goesIn_14 g)
def fX12_lawWord_72 (g : MS) (t1 : Nat) : Option (Int32 × MS) :=
  bndc (fX12_took g t1) (fun x1 g2 => if x1 = 0 then (some ((-1 : Int32), g2)) else (some ((3 : Int32), g2)))
def fX12_lawWord_48 (g : MS) (t1 : Nat) : Option (Int32 × MS) :=
  bndc (fX12_took g t1) (fun x3 g4 => if x3 = 0 then (if (g4.1 17) = (2 : Int32) then (fX12_lawWord_72 g4 47) else (fX12_lawWord_72 g4 48)) else (some ((2 : Int32), g4)))
def fX12_lawWord (g : MS) : Option (Int32 × MS) :=
  bndc (fX12_took g 44) (fun x5 g6 => if x5 = 0 then (bndc (fX12_took g6 40) (fun x7 g8 => if x7 = 0 then (if (g8.1 17) = (3 : Int32) then (some ((-1 : Int32), g8)) else (if (g8.1 17) = (2 : Int32) then (fX12_lawWord_48 g8 45) else (fX12_lawWord_48 g8 46))) else (some ((1 : Int32), g8)))) else (some ((0 : Int32), g6)))
def fX12_readAtomB (r_readSum : MS → Option (MS)) (g : MS) : Option (MS) :=
  if (g.1 12) = 0 then (bndc (fX12_lawWord g ) (fun x1 g2 => if x1 = (-1 : Int32) then (bndc (fX12_isSign g2 (40 : Int32)) (fun x3 g4 => if x3 = 0 then (bndc (fX12_number g4 (0 : Int32) (999 : Int32)) (fun x5 g6 => bndv (fX12_laysStep g6 ((1000 : Int32) + x5)) (fun g7 => some g7))) else (bndv (fX12_goesIn g4 ) (fun g8 => bndv (r_readSum g8 ) (fun g9 => bndv (fX12_mustSign g9 (41 : Int32)) (fun g10 => bnd (sI g10 16 ((g10.1 16) - (1 : Int32))) (fun g11 => some g11))))))) else (bndv (fX12_laysStep g2 ((100 : Int32) + x1)) (fun g12 => some g12)))) else (some g)
def fX12_readTerm_4 (r_readSum : MS → Option (MS)) : Nat → MS → Option (MS)
  | 0, _ => none
  | n + 1, g => bndc (fX12_isSign g (42 : Int32)) (fun x1 g2 => if x1 = 0 then (some g2) else (bndv (fX12_readsOn g2 ) (fun g3 => bndv (fX12_readAtomB r_readSum g3 ) (fun g4 => bndv (fX12_laysStep g4 (12 : Int32)) (fun g5 => fX12_readTerm_4 r_readSum n g5)))))
def fX12_readTermB (r_readSum : MS → Option (MS)) (g : MS) : Option (MS) :=
  bndv (fX12_readAtomB r_readSum g ) (fun g6 => fX12_readTerm_4 r_readSum fuel g6)
def fX12_readSum_49 (r_readSum : MS → Option (MS)) (k4 : MS → Option (MS)) (g : MS) (t1 : Int32) : Option (MS) :=
  bndv (fX12_laysStep g t1) (fun g1 => k4 g1)
def fX12_readSum_22 (r_readSum : MS → Option (MS)) (k4 : MS → Option (MS)) (g : MS) : Option (MS) :=
  bnd (g.1 10) (fun x2 => bndv (fX12_readsOn g ) (fun g3 => bndv (fX12_readTermB r_readSum g3 ) (fun g4 => if x2 = (43 : Int32) then (fX12_readSum_49 r_readSum k4 g4 (10 : Int32)) else (fX12_readSum_49 r_readSum k4 g4 (11 : Int32)))))
def fX12_readSum_4 (r_readSum : MS → Option (MS)) : Nat → MS → Option (MS)
  | 0, _ => none
  | n + 1, g => bndc (fX12_isSign g (43 : Int32)) (fun x5 g6 => if x5 = 0 then (bndc (fX12_isSign g6 (45 : Int32)) (fun x7 g8 => if x7 = 0 then (some g8) else (fX12_readSum_22 r_readSum (fX12_readSum_4 r_readSum n) g8))) else (fX12_readSum_22 r_readSum (fX12_readSum_4 r_readSum n) g6))
def fX12_readSumB (r_readSum : MS → Option (MS)) (g : MS) : Option (MS) :=
  bndv (fX12_readTermB r_readSum g ) (fun g9 => fX12_readSum_4 r_readSum fuel g9)
def fX12_readSumD : Nat → MS → Option (MS)
  | 0, _ => none
  | n + 1, g => fX12_readSumB (fX12_readSumD n) g
def fX12_readSum (g : MS) : Option (MS) := fX12_readSumD 12 g
def fX12_readUnit_152 (r_readUnit : MS → Option (MS)) (r_readTruth : MS → Option (MS)) (g : MS) (t1 : Int32) : Option (MS) :=
  bndv (fX12_laysStep g t1) (fun g1 => some g1)
def fX12_readUnit_123 (r_readUnit : MS → Option (MS)) (r_readTruth : MS → Option (MS)) (g : MS) (y1 : Int32) : Option (MS) :=
  bndv (fX12_readSum g ) (fun g2 => if y1 = (61 : Int32) then (fX12_readUnit_152 r_readUnit r_readTruth g2 (13 : Int32)) else (if y1 = (60 : Int32) then (fX12_readUnit_152 r_readUnit r_readTruth g2 (14 : Int32)) else (fX12_readUnit_152 r_readUnit r_readTruth g2 (15 : Int32))))
def fX12_readUnit_112 (r_readUnit : MS → Option (MS)) (r_readTruth : MS → Option (MS)) (g : MS) (y1 : Int32) : Option (MS) :=
  if (g.1 12) = 0 then (bndv (fX12_readsOn g ) (fun g3 => fX12_readUnit_123 r_readUnit r_readTruth g3 y1)) else (fX12_readUnit_123 r_readUnit r_readTruth g y1)
def fX12_readUnitB (r_readUnit : MS → Option (MS)) (r_readTruth : MS → Option (MS)) (g : MS) : Option (MS) :=
  if (g.1 12) = 0 then (bndc (fX12_isWord g 43) (fun x4 g5 => if x4 = 0 then (bndc (fX12_isSign g5 (91 : Int32)) (fun x6 g7 => if x6 = 0 then (bndv (fX12_readSum g7 ) (fun g8 => bnd (g8.1 10) (fun x9 => if x9 = (61 : Int32) then (fX12_readUnit_112 r_readUnit r_readTruth g8 x9) else (if x9 = (60 : Int32) then (fX12_readUnit_112 r_readUnit r_readTruth g8 x9) else (if x9 = (62 : Int32) then (fX12_readUnit_112 r_readUnit r_readTruth g8 x9) else (bndv (fX12_blames g8 (2 : Int32)) (fun g10 => fX12_readUnit_112 r_readUnit r_readTruth g10 x9))))))) else (bndv (fX12_goesIn g7 ) (fun g11 => bndv (r_readTruth g11 ) (fun g12 => bndv (fX12_mustSign g12 (93 : Int32)) (fun g13 => bnd (sI g13 16 ((g13.1 16) - (1 : Int32))) (fun g14 => some g14))))))) else (bndv (fX12_goesIn g5 ) (fun g15 => bndv (r_readUnit g15 ) (fun g16 => bndv (fX12_laysStep g16 (18 : Int32)) (fun g17 => bnd (sI g17 16 ((g17.1 16) - (1 : Int32))) (fun g18 => some g18))))))) else (some g)
def fX12_readBoth_4 (r_readUnit : MS → Option (MS)) (r_readTruth : MS → Option (MS)) : Nat → MS → Option (MS)
  | 0, _ => none
  | n + 1, g => bndc (fX12_took g 49) (fun x1 g2 => if x1 = 0 then (some g2) else (bndv (r_readUnit g2 ) (fun g3 => bndv (fX12_laysStep g3 (16 : Int32)) (fun g4 => fX12_readBoth_4 r_readUnit r_readTruth n g4))))
def fX12_readBothB (r_readUnit : MS → Option (MS)) (r_readTruth : MS → Option (MS)) (g : MS) : Option (MS) :=
  bndv (r_readUnit g ) (fun g5 => fX12_readBoth_4 r_readUnit r_readTruth fuel g5)
def fX12_readTruth_4 (r_readUnit : MS → Option (MS)) (r_readTruth : MS → Option (MS)) : Nat → MS → Option (MS)
  | 0, _ => none
  | n + 1, g => bndc (fX12_took g 50) (fun x1 g2 => if x1 = 0 then (some g2) else (bndv (fX12_readBothB r_readUnit r_readTruth g2 ) (fun g3 => bndv (fX12_laysStep g3 (17 : Int32)) (fun g4 => fX12_readTruth_4 r_readUnit r_readTruth n g4))))
def fX12_readTruthB (r_readUnit : MS → Option (MS)) (r_readTruth : MS → Option (MS)) (g : MS) : Option (MS) :=
  bndv (fX12_readBothB r_readUnit r_readTruth g ) (fun g5 => fX12_readTruth_4 r_readUnit r_readTruth fuel g5)
def fX12_readTUD : Nat → Bool → MS → Option (MS)
  | 0, _, _ => none
  | n + 1, false, g => fX12_readUnitB (fX12_readTUD n false) (fX12_readTUD n true) g
  | n + 1, true, g => fX12_readTruthB (fX12_readTUD n false) (fX12_readTUD n true) g
def fX12_readTruth (g : MS) : Option (MS) := fX12_readTUD 16 true g
def fX12_readMember_16 : Nat → MS → Int32 → Int32 → Option (MS)
  | 0, _, _, _ => none
  | n + 1, g, y1, y2 => if (g.1 12) = 0 then (if y2 = 0 then (some g) else (bndc (fX12_took g 39) (fun x1 g2 => if x1 = 0 then (bndc (fX12_took g2 40) (fun x3 g4 => if x3 = 0 then (bndc (fX12_took g4 41) (fun x5 g6 => if x5 = 0 then (fX12_readMember_16 n g6 y1 (0 : Int32)) else (chk (ib (18 : Int32) 2850) (chk (ib (18 : Int32) 2850) (bnd (sA g6 1 (ix (18 : Int32)) ((g6.2.1 1 (ix (18 : Int32))) ||| (jshl (1 : Int32) y1))) (fun g7 => fX12_readMember_16 n g7 y1 y2)))))) else (bndc (fX12_number g4 (1 : Int32) (9 : Int32)) (fun x8 g9 => chk (ib ((12 : Int32) + y1) 2850) (bnd (sA g9 1 (ix ((12 : Int32) + y1)) x8) (fun g10 => fX12_readMember_16 n g10 y1 y2)))))) else (chk (ib (1 : Int32) 2850) (bndc (fX12_number g2 (0 : Int32) ((g2.2.1 1 (ix (1 : Int32))) - (1 : Int32))) (fun x11 g12 => chk (ib ((6 : Int32) + y1) 2850) (bnd (sA g12 1 (ix ((6 : Int32) + y1)) x11) (fun g13 => fX12_readMember_16 n g13 y1 y2)))))))) else (some g)
def fX12_readMember (g : MS) : Option (MS) :=
  chk (ib (1 : Int32) 2850) (bndc (fX12_number g (0 : Int32) ((g.2.1 1 (ix (1 : Int32))) - (1 : Int32))) (fun x14 g15 => fX12_readMember_16 fuel g15 x14 (1 : Int32)))
def fX12_readStop (g : MS) : Option (MS) :=
  bndv (fX12_mustSign g (59 : Int32)) (fun g1 => if (g1.1 12) = 0 then (chk (ib (0 : Int32) 2850) (chk (ib (0 : Int32) 2850) (bnd (sA g1 1 (ix (0 : Int32)) ((g1.2.1 1 (ix (0 : Int32))) + (1 : Int32))) (fun g2 => some g2)))) else (some g1))
def fX12_readLine_93 (g : MS) : Option (MS) :=
  bndv (fX12_readStop g ) (fun g1 => some g1)
def fX12_readLine (g : MS) : Option (MS) :=
  bndc (fX12_took g 38) (fun x2 g3 => if x2 = 0 then (bndc (fX12_took g3 42) (fun x4 g5 => if x4 = 0 then (bndc (fX12_took g5 51) (fun x6 g7 => if x6 = 0 then (bndc (fX12_took g7 52) (fun x8 g9 => if x8 = 0 then (bndv (fX12_blames g9 (2 : Int32)) (fun g10 => fX12_readLine_93 g10)) else (bndv (fX12_beginsLaw g9 (4 : Int32) (1949 : Int32)) (fun g11 => bndv (fX12_readSum g11 ) (fun g12 => fX12_readLine_93 g12))))) else (bndv (fX12_beginsLaw g7 (3 : Int32) (1049 : Int32)) (fun g13 => bndv (fX12_readSum g13 ) (fun g14 => fX12_readLine_93 g14))))) else (bndv (fX12_beginsLaw g5 (2 : Int32) (149 : Int32)) (fun g15 => bndv (fX12_readTruth g15 ) (fun g16 => fX12_readLine_93 g16))))) else (bndv (fX12_readMember g3 ) (fun g17 => fX12_readLine_93 g17)))
def fX12_board_188 : Nat → MS → Int32 → Option (Int32 × MS)
  | 0, _, _ => none
  | n + 1, g, y2 => if (2850 : Int32) ≤ y2 then (chk (ib (0 : Int32) 2850) (some (g.2.1 0 (ix (0 : Int32)), g))) else (chk (ib y2 2850) (chk (ib y2 2850) (bnd (sA g 0 (ix y2) (g.2.1 1 (ix y2))) (fun g1 => bnd (y2 + (1 : Int32)) (fun x2 => fX12_board_188 n g1 x2)))))
def fX12_board_168 (g : MS) (t1 : Int32) : Option (Int32 × MS) :=
  bnd (sI g 15 t1) (fun g3 => if (g3.1 12) = 0 then (fX12_board_188 fuel g3 (0 : Int32)) else (some ((-10 : Int32) - (g3.1 12), g3)))
def fX12_board_144 (g : MS) : Option (Int32 × MS) :=
  bnd (sI g 14 (g.1 12)) (fun g4 => if (g4.1 12) = 0 then (fX12_board_168 g4 (-1 : Int32)) else (fX12_board_168 g4 (g4.1 13)))
def fX12_board_123 : Nat → MS → Option (Int32 × MS)
  | 0, _ => none
  | n + 1, g => if (g.1 12) = 0 then (if (g.1 10) = 0 then (fX12_board_144 g) else (bndv (fX12_readLine g ) (fun g5 => fX12_board_123 n g5))) else (fX12_board_144 g)
def fX12_board_74 : Nat → MS → Int32 → Option (Int32 × MS)
  | 0, _, _ => none
  | n + 1, g, y2 => if (6 : Int32) ≤ y2 then (bndv (fX12_readsOn g ) (fun g6 => bndv (fX12_mustWord g6 37) (fun g7 => bndc (fX12_number g7 (2 : Int32) (6 : Int32)) (fun x8 g9 => chk (ib (1 : Int32) 2850) (bnd (sA g9 1 (ix (1 : Int32)) x8) (fun g10 => bndv (fX12_readStop g10 ) (fun g11 => fX12_board_123 fuel g11))))))) else (chk (ib ((12 : Int32) + y2) 2850) (bnd (sA g 1 (ix ((12 : Int32) + y2)) (1 : Int32)) (fun g12 => bnd (y2 + (1 : Int32)) (fun x13 => fX12_board_74 n g12 x13))))
def fX12_board_52 : Nat → MS → Int32 → Option (Int32 × MS)
  | 0, _, _ => none
  | n + 1, g, y2 => if (2850 : Int32) ≤ y2 then (fX12_board_74 fuel g (0 : Int32)) else (chk (ib y2 2850) (bnd (sA g 1 (ix y2) (0 : Int32)) (fun g14 => bnd (y2 + (1 : Int32)) (fun x15 => fX12_board_52 n g14 x15))))
def fX12_board (g : MS) (a0 : Int32) : Option (Int32 × MS) :=
  bnd (sI g 4 (0 : Int32)) (fun g16 => bndv (fX12_within a0.toInt64 (0 : Int64) ((g16.1 6).toInt64)) (fun x17 => if x17 = 0 then (bndc (fX12_fails g16 (1 : Int32)) (fun x23 g24 => some (x23, g24))) else (bnd (sI g16 7 a0) (fun g18 => bnd (sI g18 6 (0 : Int32)) (fun g19 => bnd (sI g19 8 (0 : Int32)) (fun g20 => bnd (sI g20 12 (0 : Int32)) (fun g21 => bnd (sI g21 16 (0 : Int32)) (fun g22 => fX12_board_52 fuel g22 (0 : Int32)))))))))
def fX12_fault (g : MS) (a0 : Int32) : Option (Int32 × MS) :=
  bnd (sI g 4 (0 : Int32)) (fun g1 => if a0 = 0 then (some (g1.1 14, g1)) else (if a0 = (1 : Int32) then (some (g1.1 15, g1)) else (some ((-1 : Int32), g1))))
def fX12_size (g : MS) : Option (Int32 × MS) :=
  chk (ib (1 : Int32) 2850) (some (g.2.1 0 (ix (1 : Int32)), g))
def fX12_isMember (g : MS) (a0 : Int64) : Option (Int32 × MS) :=
  bndc (fX12_size g ) (fun x1 g2 => bndv (fX12_within a0 (0 : Int64) ((x1 - (1 : Int32)).toInt64)) (fun x3 => chk (isB x3) (some (x3, g2))))
def fX12_isStuck (g : MS) (a0 : Int32) : Option (Int32 × MS) :=
  chk (ib (18 : Int32) 2850) (bndv (fX12_has (g.2.1 0 (ix (18 : Int32))) a0) (fun x1 => chk (isB x1) (some (x1, g))))
def fX12_bound (a0 : Int64) : Option (Int32) :=
  some ((jmaxL (-1000000 : Int64) (jminL (1000000 : Int64) a0)).toInt32)
def fX12_done (a0 : Int32) (a1 : Int64) (a2 : Int64) : Option (Int32) :=
  if a0 = (10 : Int32) then (bndv (fX12_bound (a1 + a2)) (fun x1 => some x1)) else (if a0 = (11 : Int32) then (bndv (fX12_bound (a1 - a2)) (fun x2 => some x2)) else (if a0 = (12 : Int32) then (bndv (fX12_bound (a1 * a2)) (fun x3 => some x3)) else (if a0 = (13 : Int32) then (if (lg_cmp a1 a2) = 0 then (some (1 : Int32)) else (some (0 : Int32))) else (if a0 = (14 : Int32) then (if 0 ≤ (lg_cmp a1 a2) then (some (0 : Int32)) else (some (1 : Int32))) else (if a0 = (15 : Int32) then (if (lg_cmp a1 a2) ≤ 0 then (some (0 : Int32)) else (some (1 : Int32))) else (if a0 = (16 : Int32) then (if (lg_cmp (a1 + a2) (1 : Int64)) ≤ 0 then (some (0 : Int32)) else (some (1 : Int32))) else (if (lg_cmp (a1 + a2) (0 : Int64)) ≤ 0 then (some (0 : Int32)) else (some (1 : Int32)))))))))
def fX12_lawOf_66 (k5 : MS → Int32 → Int32 → Int32 → Int32 → Option (Int32 × MS)) (g : MS) (y1 : Int32) (y2 : Int32) (y3 : Int32) (y4 : Int32) (t1 : Int32) (t2 : Int32) : Option (Int32 × MS) :=
  chk (ib t1 64) (bnd (sA g 19 (ix t1) t2) (fun g1 => bnd (y3 + (1 : Int32)) (fun x2 => bnd (y4 + (1 : Int32)) (fun x3 => k5 g1 y1 y2 x2 x3))))
def fX12_lawOf_5 : Nat → MS → Int32 → Int32 → Int32 → Int32 → Option (Int32 × MS)
  | 0, _, _, _, _, _ => none
  | n + 1, g, y1, y2, y3, y4 => chk (ib y1 2850) (if (g.2.1 0 (ix y1)) ≤ y4 then (chk (ib (0 : Int32) 64) (some (g.2.1 19 (ix (0 : Int32)), g))) else (chk (ib (y2 + y4) 2850) (bnd (g.2.1 0 (ix (y2 + y4))) (fun x4 => if x4 < (100 : Int32) then (if x4 = (18 : Int32) then (chk (ib (y3 - (1 : Int32)) 64) (chk (ib (y3 - (1 : Int32)) 64) (bnd (sA g 19 (ix (y3 - (1 : Int32))) ((1 : Int32) - (g.2.1 19 (ix (y3 - (1 : Int32)))))) (fun g9 => bnd (y4 + (1 : Int32)) (fun x10 => fX12_lawOf_5 n g9 y1 y2 y3 x10))))) else (bnd (y3 + (-1 : Int32)) (fun x5 => chk (ib (x5 - (1 : Int32)) 64) (chk (ib x5 64) (bndv (fX12_done x4 ((g.2.1 19 (ix (x5 - (1 : Int32)))).toInt64) ((g.2.1 19 (ix x5)).toInt64)) (fun x6 => chk (ib (x5 - (1 : Int32)) 64) (bnd (sA g 19 (ix (x5 - (1 : Int32))) x6) (fun g7 => bnd (y4 + (1 : Int32)) (fun x8 => fX12_lawOf_5 n g7 y1 y2 x5 x8))))))))) else (if x4 < (1000 : Int32) then (chk (ib (x4 - (100 : Int32)) 4) (fX12_lawOf_66 (fX12_lawOf_5 n) g y1 y2 y3 y4 y3 (g.2.1 20 (ix (x4 - (100 : Int32)))))) else (fX12_lawOf_66 (fX12_lawOf_5 n) g y1 y2 y3 y4 y3 (x4 - (1000 : Int32))))))))
def fX12_lawOf (g : MS) (a0 : Int32) (a1 : Int32) : Option (Int32 × MS) :=
  fX12_lawOf_5 fuel g a0 a1 (0 : Int32) (0 : Int32)
def fX12_asks (g : MS) (a0 : Int32) (a1 : Int32) (a2 : Int32) : Option (MS) :=
  chk (ib (0 : Int32) 4) (bnd (sA g 20 (ix (0 : Int32)) a0) (fun g1 => chk (ib ((12 : Int32) + a0) 2850) (chk (ib (1 : Int32) 4) (bnd (sA g1 20 (ix (1 : Int32)) (g1.2.1 0 (ix ((12 : Int32) + a0)))) (fun g2 => chk (ib (2 : Int32) 4) (bnd (sA g2 20 (ix (2 : Int32)) a1) (fun g3 => chk (ib (3 : Int32) 4) (bnd (sA g3 20 (ix (3 : Int32)) a2) (fun g4 => some g4)))))))))
def fX12_apart (g : MS) (a0 : Int32) (a1 : Int32) : Option (Int32 × MS) :=
  bnd (jabs (a0 - a1)) (fun x1 => bndc (fX12_size g ) (fun x2 g3 => some (jmin x1 (x2 - x1), g3)))
def fX12_goesAlong (g : MS) (a0 : Int32) (a1 : Int32) : Option (Int32 × MS) :=
  bndc (fX12_isStuck g a0) (fun x1 g2 => if x1 = 0 then (bndc (fX12_isStuck g2 a1) (fun x3 g4 => if x3 = 0 then (if a0 = a1 then (some ((1 : Int32), g4)) else (chk (ib (2 : Int32) 2850) (if (g4.2.1 0 (ix (2 : Int32))) = 0 then (some ((0 : Int32), g4)) else (bndc (fX12_apart g4 a0 a1) (fun x5 g6 => bndv (fX12_asks g6 a0 a1 x5) (fun g7 => bndc (fX12_lawOf g7 (2 : Int32) (149 : Int32)) (fun x8 g9 => if x8 = (1 : Int32) then (some ((1 : Int32), g9)) else (some ((0 : Int32), g9))))))))) else (some ((0 : Int32), g4)))) else (some ((0 : Int32), g2)))
def fX12_draggedBy_29 (k4 : MS → Int32 → Int32 → Int32 → Option (Int32 × MS)) (g : MS) (y1 : Int32) (y3 : Int32) (t0 : Int32) (t1 : Int32) : Option (Int32 × MS) :=
  bnd (t0 ||| t1) (fun x1 => bnd (y3 + (1 : Int32)) (fun x2 => k4 g y1 x1 x2))
def fX12_draggedBy_4 : Nat → MS → Int32 → Int32 → Int32 → Option (Int32 × MS)
  | 0, _, _, _, _ => none
  | n + 1, g, y1, y2, y3 => bndc (fX12_size g ) (fun x3 g4 => if x3 ≤ y3 then (some (y2, g4)) else (bndc (fX12_goesAlong g4 y1 y3) (fun x5 g6 => if x5 = 0 then (fX12_draggedBy_29 (fX12_draggedBy_4 n) g6 y1 y3 y2 (0 : Int32)) else (fX12_draggedBy_29 (fX12_draggedBy_4 n) g6 y1 y3 y2 (jshl (1 : Int32) y3)))))
def fX12_draggedBy (g : MS) (a0 : Int32) : Option (Int32 × MS) :=
  fX12_draggedBy_4 fuel g a0 (0 : Int32) (0 : Int32)
def fX12_notchCosts (g : MS) (a0 : Int32) : Option (Int32 × MS) :=
  chk (ib (3 : Int32) 2850) (if (g.2.1 0 (ix (3 : Int32))) = 0 then (some ((1 : Int32), g)) else (bndv (fX12_asks g a0 (0 : Int32) (0 : Int32)) (fun g1 => bndc (fX12_lawOf g1 (3 : Int32) (1049 : Int32)) (fun x2 g3 => some (jmax (1 : Int32) (jmin (99 : Int32) x2), g3)))))
def fX12_aimsNow_2 : Nat → MS → Int32 → Option (MS)
  | 0, _, _ => none
  | n + 1, g, y1 => bndc (fX12_size g ) (fun x1 g2 => if x1 ≤ y1 then (some g2) else (chk (ib ((6 : Int32) + y1) 2850) (chk (ib y1 6) (bnd (sA g2 21 (ix y1) (g2.2.1 0 (ix ((6 : Int32) + y1)))) (fun g3 => bnd (y1 + (1 : Int32)) (fun x4 => fX12_aimsNow_2 n g3 x4))))))
def fX12_aimsNow (g : MS) : Option (MS) :=
  fX12_aimsNow_2 fuel g (0 : Int32)
def fX12_faced (g : MS) (a0 : Int32) : Option (Int32 × MS) :=
  chk (ib a0 6) (if (g.2.1 21 (ix a0)) = 0 then (some ((-1 : Int32), g)) else (chk (ib a0 6) (bndc (fX12_size g ) (fun x1 g2 => chk (nz x1) (some (jrem (a0 + (g.2.1 21 (ix a0))) x1, g2))))))
def fX12_laysVotes_25 : Nat → MS → Int32 → Option (MS)
  | 0, _, _ => none
  | n + 1, g, y1 => bndc (fX12_size g ) (fun x1 g2 => if x1 ≤ y1 then (some g2) else (chk (ib y1 6) (if (g2.2.1 21 (ix y1)) = 0 then (bnd (y1 + (1 : Int32)) (fun x3 => fX12_laysVotes_25 n g2 x3)) else (bndc (fX12_faced g2 y1) (fun x4 g5 => chk (ib x4 6) (chk (ib ((12 : Int32) + y1) 2850) (chk (ib x4 6) (bnd (sA g5 22 (ix x4) ((g5.2.1 22 (ix x4)) + (g5.2.1 0 (ix ((12 : Int32) + y1))))) (fun g6 => bnd (y1 + (1 : Int32)) (fun x7 => fX12_laysVotes_25 n g6 x7))))))))))
def fX12_laysVotes_2 : Nat → MS → Int32 → Option (MS)
  | 0, _, _ => none
  | n + 1, g, y1 => bndc (fX12_size g ) (fun x8 g9 => if x8 ≤ y1 then (fX12_laysVotes_25 fuel g9 (0 : Int32)) else (chk (ib y1 6) (bnd (sA g9 22 (ix y1) (0 : Int32)) (fun g10 => bnd (y1 + (1 : Int32)) (fun x11 => fX12_laysVotes_2 n g10 x11)))))
def fX12_laysVotes (g : MS) : Option (MS) :=
  fX12_laysVotes_2 fuel g (0 : Int32)
def fX12_chairBy_37 (k8 : MS → Int32 → Int32 → Option (Int32 × MS)) (g : MS) (y1 : Int32) (y2 : Int32) (t0 : Int32) (t1 : Int32) : Option (Int32 × MS) :=
  if t0 ≤ t1 then (bnd (y2 + (1 : Int32)) (fun x1 => k8 g y1 x1)) else (bnd (y2 + (1 : Int32)) (fun x2 => k8 g y2 x2))
def fX12_chairBy_8 : Nat → MS → Int32 → Int32 → Option (Int32 × MS)
  | 0, _, _, _ => none
  | n + 1, g, y1, y2 => bndc (fX12_size g ) (fun x3 g4 => if x3 ≤ y2 then (some (y1, g4)) else (chk (ib y2 6) (if y1 = (-1 : Int32) then (fX12_chairBy_37 (fX12_chairBy_8 n) g4 y1 y2 (g4.2.1 22 (ix y2)) (0 : Int32)) else (chk (ib y1 6) (fX12_chairBy_37 (fX12_chairBy_8 n) g4 y1 y2 (g4.2.1 22 (ix y2)) (g4.2.1 22 (ix y1)))))))
def fX12_chairBy (g : MS) : Option (Int32 × MS) :=
  bndv (fX12_laysVotes g ) (fun g5 => fX12_chairBy_8 fuel g5 (-1 : Int32) (0 : Int32))
def fX12_chairNow (g : MS) : Option (Int32 × MS) :=
  bndv (fX12_aimsNow g ) (fun g1 => bndc (fX12_chairBy g1 ) (fun x2 g3 => some (x2, g3)))
def fX12_kneesBy_43 (k4 : MS → Int32 → Int32 → Option (Int32 × MS)) (k14 : MS → Int32 → Int32 → Int32 → Option (Int32 × MS)) (g : MS) (y2 : Int32) (y3 : Int32) (t0 : Int32) (t1 : Int32) : Option (Int32 × MS) :=
  bnd (t0 + t1) (fun x1 => bnd (y3 + (1 : Int32)) (fun x2 => k14 g x1 y2 x2))
def fX12_kneesBy_42 (k4 : MS → Int32 → Int32 → Option (Int32 × MS)) (k14 : MS → Int32 → Int32 → Int32 → Option (Int32 × MS)) (g : MS) (y2 : Int32) (y3 : Int32) (t0 : Int32) : Option (Int32 × MS) :=
  fX12_kneesBy_43 k4 k14 g y2 y3 t0 (0 : Int32)
def fX12_kneesBy_14 (k4 : MS → Int32 → Int32 → Option (Int32 × MS)) : Nat → MS → Int32 → Int32 → Int32 → Option (Int32 × MS)
  | 0, _, _, _, _ => none
  | n + 1, g, y1, y2, y3 => if y2 ≤ y3 then (bnd (y2 + (1 : Int32)) (fun x3 => k4 g y1 x3)) else (bndc (fX12_faced g y2) (fun x4 g5 => if x4 = y3 then (bndc (fX12_faced g5 y3) (fun x6 g7 => if x6 = y2 then (fX12_kneesBy_43 k4 (fX12_kneesBy_14 k4 n) g7 y2 y3 y1 (1 : Int32)) else (fX12_kneesBy_42 k4 (fX12_kneesBy_14 k4 n) g7 y2 y3 y1))) else (fX12_kneesBy_42 k4 (fX12_kneesBy_14 k4 n) g5 y2 y3 y1)))
def fX12_kneesBy_4 : Nat → MS → Int32 → Int32 → Option (Int32 × MS)
  | 0, _, _, _ => none
  | n + 1, g, y1, y2 => bndc (fX12_size g ) (fun x8 g9 => if x8 ≤ y2 then (some (y1, g9)) else (fX12_kneesBy_14 (fX12_kneesBy_4 n) fuel g9 y1 y2 (0 : Int32)))
def fX12_kneesBy (g : MS) : Option (Int32 × MS) :=
  fX12_kneesBy_4 fuel g (0 : Int32) (0 : Int32)
def fX12_goesBy (g : MS) (a0 : Int32) : Option (Int32 × MS) :=
  chk (ib (4 : Int32) 2850) (if (g.2.1 0 (ix (4 : Int32))) = 0 then (some ((0 : Int32), g)) else (chk (ib a0 6) (chk (ib a0 6) (bndv (fX12_asks g a0 (g.2.1 21 (ix a0)) (g.2.1 22 (ix a0))) (fun g1 => bndc (fX12_lawOf g1 (4 : Int32) (1949 : Int32)) (fun x2 g3 => bndc (fX12_size g3 ) (fun x4 g5 => chk (nz x4) (bnd (jrem x2 x4) (fun x6 => if 0 ≤ x6 then (some (x6, g5)) else (bndc (fX12_size g5 ) (fun x7 g8 => some (x6 + x7, g8))))))))))))
def fX12_minute_45 : Nat → MS → Int32 → Option (MS)
  | 0, _, _ => none
  | n + 1, g, y1 => bndc (fX12_size g ) (fun x1 g2 => if x1 ≤ y1 then (some g2) else (chk (ib y1 6) (chk (ib y1 6) (bndc (fX12_size g2 ) (fun x3 g4 => chk (nz x3) (chk (ib y1 6) (bnd (sA g4 21 (ix y1) (jrem ((g2.2.1 21 (ix y1)) + (g2.2.1 23 (ix y1))) x3)) (fun g5 => bnd (y1 + (1 : Int32)) (fun x6 => fX12_minute_45 n g5 x6)))))))))
def fX12_minute_6 : Nat → MS → Int32 → Option (MS)
  | 0, _, _ => none
  | n + 1, g, y1 => bndc (fX12_size g ) (fun x7 g8 => if x7 ≤ y1 then (fX12_minute_45 fuel g8 (0 : Int32)) else (bndc (fX12_isStuck g8 y1) (fun x9 g10 => if x9 = 0 then (bndc (fX12_goesBy g10 y1) (fun x11 g12 => chk (ib y1 6) (bnd (sA g12 23 (ix y1) x11) (fun g13 => bnd (y1 + (1 : Int32)) (fun x14 => fX12_minute_6 n g13 x14))))) else (chk (ib y1 6) (bnd (sA g10 23 (ix y1) (0 : Int32)) (fun g15 => bnd (y1 + (1 : Int32)) (fun x16 => fX12_minute_6 n g15 x16)))))))
def fX12_minute (g : MS) : Option (MS) :=
  bndv (fX12_laysVotes g ) (fun g17 => fX12_minute_6 fuel g17 (0 : Int32))
def fX12_member_31 (g : MS) (y1 : Int32) (y2 : Int32) (t1 : Int32) : Option (Int32 × MS) :=
  bnd (sI g 4 t1) (fun g1 => if (g1.1 4) ≤ 0 then (bndv (fX12_aimsNow g1 ) (fun g2 => bndv (fX12_laysVotes g2 ) (fun g3 => if y2 = (0 : Int32) then (chk (ib y1 6) (some (g3.2.1 21 (ix y1), g3))) else (if y2 = (1 : Int32) then (bndc (fX12_faced g3 y1) (fun x4 g5 => some (x4, g5))) else (if y2 = (2 : Int32) then (chk (ib ((12 : Int32) + y1) 2850) (some (g3.2.1 0 (ix ((12 : Int32) + y1)), g3))) else (if y2 = (3 : Int32) then (chk (ib y1 6) (some (g3.2.1 22 (ix y1), g3))) else (if y2 = (4 : Int32) then (bndc (fX12_isStuck g3 y1) (fun x6 g7 => if x6 = 0 then (some ((0 : Int32), g7)) else (some ((1 : Int32), g7)))) else (bndc (fX12_notchCosts g3 y1) (fun x8 g9 => some (x8, g9)))))))))) else (some ((0 : Int32), g1)))
def fX12_member (g : MS) (a0 : Int32) (a1 : Int32) : Option (Int32 × MS) :=
  bndc (fX12_isMember g a0.toInt64) (fun x10 g11 => if x10 = 0 then (fX12_member_31 g11 a0 a1 (1 : Int32)) else (bndv (fX12_within a1.toInt64 (0 : Int64) (5 : Int64)) (fun x12 => if x12 = 0 then (fX12_member_31 g11 a0 a1 (2 : Int32)) else (fX12_member_31 g11 a0 a1 (0 : Int32)))))
def fX12_chair (g : MS) : Option (Int32 × MS) :=
  bnd (sI g 4 (0 : Int32)) (fun g1 => bndc (fX12_chairNow g1 ) (fun x2 g3 => some (x2, g3)))
def fX12_drags (g : MS) (a0 : Int32) : Option (Int32 × MS) :=
  bnd (sI g 4 (0 : Int32)) (fun g1 => bndc (fX12_isMember g1 a0.toInt64) (fun x2 g3 => if x2 = 0 then (bndc (fX12_fails g3 (1 : Int32)) (fun x4 g5 => some (x4, g5))) else (bndc (fX12_draggedBy g3 a0) (fun x6 g7 => some (x6, g7)))))
def fX12_goes (g : MS) (a0 : Int32) : Option (Int32 × MS) :=
  bnd (sI g 4 (0 : Int32)) (fun g1 => bndc (fX12_isMember g1 a0.toInt64) (fun x2 g3 => if x2 = 0 then (bndc (fX12_fails g3 (1 : Int32)) (fun x10 g11 => some (x10, g11))) else (bndv (fX12_aimsNow g3 ) (fun g4 => bndv (fX12_laysVotes g4 ) (fun g5 => bndc (fX12_isStuck g5 a0) (fun x6 g7 => if x6 = 0 then (bndc (fX12_goesBy g7 a0) (fun x8 g9 => some (x8, g9))) else (some ((0 : Int32), g7))))))))
def fX12_keeps_54 : Nat → MS → Int32 → Option (MS)
  | 0, _, _ => none
  | n + 1, g, y1 => if (13 : Int32) ≤ y1 then (chk (ib (5 : Int32) 2850) (chk (ib (5 : Int32) 2850) (bnd (sA g 0 (ix (5 : Int32)) ((g.2.1 0 (ix (5 : Int32))) + (1 : Int32))) (fun g1 => some g1)))) else (chk (ib (5 : Int32) 2850) (chk (ib ((6 : Int32) + y1) 2850) (chk (ib (((19 : Int32) + ((13 : Int32) * (g.2.1 0 (ix (5 : Int32))))) + y1) 2850) (bnd (sA g 0 (ix (((19 : Int32) + ((13 : Int32) * (g.2.1 0 (ix (5 : Int32))))) + y1)) (g.2.1 0 (ix ((6 : Int32) + y1)))) (fun g2 => bnd (y1 + (1 : Int32)) (fun x3 => fX12_keeps_54 n g2 x3))))))
def fX12_keeps_14 : Nat → MS → Int32 → Option (MS)
  | 0, _, _ => none
  | n + 1, g, y1 => if (136 : Int32) ≤ y1 then (chk (ib (5 : Int32) 2850) (chk (ib (5 : Int32) 2850) (bnd (sA g 0 (ix (5 : Int32)) ((g.2.1 0 (ix (5 : Int32))) - (1 : Int32))) (fun g4 => fX12_keeps_54 fuel g4 (0 : Int32))))) else (chk (ib (y1 + (13 : Int32)) 2850) (chk (ib y1 2850) (bnd (sA g 0 (ix y1) (g.2.1 0 (ix (y1 + (13 : Int32))))) (fun g5 => bnd (y1 + (1 : Int32)) (fun x6 => fX12_keeps_14 n g5 x6)))))
def fX12_keeps (g : MS) : Option (MS) :=
  chk (ib (5 : Int32) 2850) (if (g.2.1 0 (ix (5 : Int32))) = (10 : Int32) then (fX12_keeps_14 fuel g (19 : Int32)) else (fX12_keeps_54 fuel g (0 : Int32)))
def fX12_putsAside_2 : Nat → MS → Int32 → Option (MS)
  | 0, _, _ => none
  | n + 1, g, y1 => if (13 : Int32) ≤ y1 then (some g) else (chk (ib ((6 : Int32) + y1) 2850) (chk (ib y1 13) (bnd (sA g 24 (ix y1) (g.2.1 0 (ix ((6 : Int32) + y1)))) (fun g1 => bnd (y1 + (1 : Int32)) (fun x2 => fX12_putsAside_2 n g1 x2)))))
def fX12_putsAside (g : MS) : Option (MS) :=
  fX12_putsAside_2 fuel g (0 : Int32)
def fX12_putsBack_2 : Nat → MS → Int32 → Option (MS)
  | 0, _, _ => none
  | n + 1, g, y1 => if (13 : Int32) ≤ y1 then (some g) else (chk (ib y1 13) (chk (ib ((6 : Int32) + y1) 2850) (bnd (sA g 0 (ix ((6 : Int32) + y1)) (g.2.1 24 (ix y1))) (fun g1 => bnd (y1 + (1 : Int32)) (fun x2 => fX12_putsBack_2 n g1 x2)))))
def fX12_putsBack (g : MS) : Option (MS) :=
  fX12_putsBack_2 fuel g (0 : Int32)
def fX12_whyTurn_23 (g : MS) : Option (Int32 × MS) :=
  some ((1 : Int32), g)
def fX12_whyTurn (g : MS) (a0 : Int64) (a1 : Int64) : Option (Int32 × MS) :=
  bndc (fX12_isMember g a0) (fun x1 g2 => if x1 = 0 then (fX12_whyTurn_23 g2) else (bndc (fX12_size g2 ) (fun x3 g4 => bndv (fX12_within a1 (1 : Int64) ((x3 - (1 : Int32)).toInt64)) (fun x5 => if x5 = 0 then (fX12_whyTurn_23 g4) else (bndc (fX12_isStuck g4 a0.toInt32) (fun x6 g7 => if x6 = 0 then (some ((0 : Int32), g7)) else (some ((2 : Int32), g7))))))))
def fX12_turnsBy_9 : Nat → MS → Int32 → Int32 → Int32 → Option (MS)
  | 0, _, _, _, _ => none
  | n + 1, g, y2, y3, y4 => bndc (fX12_size g ) (fun x1 g2 => if x1 ≤ y4 then (some g2) else (bndv (fX12_has y3 y4) (fun x3 => if x3 = 0 then (bnd (y4 + (1 : Int32)) (fun x4 => fX12_turnsBy_9 n g2 y2 y3 x4)) else (chk (ib ((6 : Int32) + y4) 2850) (bndc (fX12_size g2 ) (fun x5 g6 => chk (nz x5) (chk (ib ((6 : Int32) + y4) 2850) (bnd (sA g6 0 (ix ((6 : Int32) + y4)) (jrem ((g2.2.1 0 (ix ((6 : Int32) + y4))) + y2) x5)) (fun g7 => bnd (y4 + (1 : Int32)) (fun x8 => fX12_turnsBy_9 n g7 y2 y3 x8))))))))))
def fX12_turnsBy (g : MS) (a0 : Int32) (a1 : Int32) : Option (MS) :=
  bndc (fX12_draggedBy g a0) (fun x9 g10 => fX12_turnsBy_9 fuel g10 a1 x9 (0 : Int32))
def fX12_minuteNow_10 : Nat → MS → Int32 → Option (MS)
  | 0, _, _ => none
  | n + 1, g, y1 => bndc (fX12_size g ) (fun x1 g2 => if x1 ≤ y1 then (some g2) else (chk (ib y1 6) (chk (ib ((6 : Int32) + y1) 2850) (bnd (sA g2 0 (ix ((6 : Int32) + y1)) (g2.2.1 21 (ix y1))) (fun g3 => bnd (y1 + (1 : Int32)) (fun x4 => fX12_minuteNow_10 n g3 x4))))))
def fX12_minuteNow (g : MS) : Option (MS) :=
  bndv (fX12_aimsNow g ) (fun g5 => bndv (fX12_minute g5 ) (fun g6 => fX12_minuteNow_10 fuel g6 (0 : Int32)))
def fX12_turn (g : MS) (a0 : Int32) (a1 : Int32) : Option (Int32 × MS) :=
  bnd (sI g 4 (0 : Int32)) (fun g1 => bndc (fX12_whyTurn g1 a0.toInt64 a1.toInt64) (fun x2 g3 => if x2 = 0 then (bndv (fX12_keeps g3 ) (fun g4 => bndv (fX12_turnsBy g4 a0 a1) (fun g5 => bndc (fX12_notchCosts g5 a0) (fun x6 g7 => some (a1 * x6, g7))))) else (some (-x2, g3))))
def fX12_weigh (g : MS) (a0 : Int32) (a1 : Int32) : Option (Int32 × MS) :=
  bnd (sI g 4 (0 : Int32)) (fun g1 => bndc (fX12_isMember g1 a0.toInt64) (fun x2 g3 => if x2 = 0 then (some ((-1 : Int32), g3)) else (bndv (fX12_within a1.toInt64 (1 : Int64) (9 : Int64)) (fun x4 => if x4 = 0 then (some ((-1 : Int32), g3)) else (bndv (fX12_keeps g3 ) (fun g5 => chk (ib ((12 : Int32) + a0) 2850) (bnd (g5.2.1 0 (ix ((12 : Int32) + a0))) (fun x6 => chk (ib ((12 : Int32) + a0) 2850) (bnd (sA g5 0 (ix ((12 : Int32) + a0)) a1) (fun g7 => some (x6, g7)))))))))))
def fX12_stick (g : MS) (a0 : Int32) : Option (Int32 × MS) :=
  bnd (sI g 4 (0 : Int32)) (fun g1 => bndc (fX12_isMember g1 a0.toInt64) (fun x2 g3 => if x2 = 0 then (some ((-1 : Int32), g3)) else (bndv (fX12_keeps g3 ) (fun g4 => chk (ib (18 : Int32) 2850) (chk (ib (18 : Int32) 2850) (bnd (sA g4 0 (ix (18 : Int32)) ((g4.2.1 0 (ix (18 : Int32))) ^^^ (jshl (1 : Int32) a0))) (fun g5 => bndc (fX12_isStuck g5 a0) (fun x6 g7 => if x6 = 0 then (some ((0 : Int32), g7)) else (some ((1 : Int32), g7))))))))))
def fX12_minutes_65 (k37 : MS → Int32 → Int32 → Int32 → Int32 → Option (Int32 × MS)) (g : MS) (y1 : Int32) (y4 : Int32) (y5 : Int32) (t0 : Int32) (t1 : Int32) : Option (Int32 × MS) :=
  bnd (t0 + t1) (fun x1 => bnd (y4 + (1 : Int32)) (fun x2 => k37 g y1 x1 y5 x2))
def fX12_minutes_37 : Nat → MS → Int32 → Int32 → Int32 → Int32 → Option (Int32 × MS)
  | 0, _, _, _, _, _ => none
  | n + 1, g, y1, y2, y3, y4 => if y1 ≤ y4 then (some (y2, g)) else (bndv (fX12_minuteNow g ) (fun g3 => bndc (fX12_chairNow g3 ) (fun x4 g5 => if x4 = y3 then (fX12_minutes_65 (fX12_minutes_37 n) g5 y1 y4 x4 y2 (0 : Int32)) else (fX12_minutes_65 (fX12_minutes_37 n) g5 y1 y4 x4 y2 (1 : Int32)))))
def fX12_minutes (g : MS) (a0 : Int32) : Option (Int32 × MS) :=
  bnd (sI g 4 (0 : Int32)) (fun g6 => bndv (fX12_within a0.toInt64 (1 : Int64) (99 : Int64)) (fun x7 => if x7 = 0 then (bndc (fX12_fails g6 (1 : Int32)) (fun x11 g12 => some (x11, g12))) else (bndv (fX12_keeps g6 ) (fun g8 => bndc (fX12_chairNow g8 ) (fun x9 g10 => fX12_minutes_37 fuel g10 a0 (0 : Int32) x9 (0 : Int32))))))
def fX12_undo_45 : Nat → MS → Int32 → Option (Int32 × MS)
  | 0, _, _ => none
  | n + 1, g, y2 => if (13 : Int32) ≤ y2 then (chk (ib (5 : Int32) 2850) (some (g.2.1 0 (ix (5 : Int32)), g))) else (chk (ib (5 : Int32) 2850) (chk (ib (((19 : Int32) + ((13 : Int32) * (g.2.1 0 (ix (5 : Int32))))) + y2) 2850) (chk (ib ((6 : Int32) + y2) 2850) (bnd (sA g 0 (ix ((6 : Int32) + y2)) (g.2.1 0 (ix (((19 : Int32) + ((13 : Int32) * (g.2.1 0 (ix (5 : Int32))))) + y2)))) (fun g1 => bnd (y2 + (1 : Int32)) (fun x2 => fX12_undo_45 n g1 x2))))))
def fX12_undo_27 (g : MS) : Option (Int32 × MS) :=
  bndc (fX12_fails g (1 : Int32)) (fun x3 g4 => some (x3, g4))
def fX12_undo (g : MS) (a0 : Int32) : Option (Int32 × MS) :=
  bnd (sI g 4 (0 : Int32)) (fun g5 => bndv (fX12_within a0.toInt64 (1 : Int64) (10 : Int64)) (fun x6 => if x6 = 0 then (fX12_undo_27 g5) else (chk (ib (5 : Int32) 2850) (if a0 ≤ (g5.2.1 0 (ix (5 : Int32))) then (chk (ib (5 : Int32) 2850) (chk (ib (5 : Int32) 2850) (bnd (sA g5 0 (ix (5 : Int32)) ((g5.2.1 0 (ix (5 : Int32))) - a0)) (fun g7 => fX12_undo_45 fuel g7 (0 : Int32))))) else (fX12_undo_27 g5)))))
def fX12_isTray (a0 : Int32) : Option (Int32) :=
  bndv (fX12_within a0.toInt64 (0 : Int64) (3 : Int64)) (fun x1 => chk (isB x1) (some x1))
def fX12_trayFault (g : MS) (a0 : Int32) : Option (Int32 × MS) :=
  bndv (fX12_isTray a0) (fun x1 => if x1 = 0 then (some ((1 : Int32), g)) else (chk (ib a0 4) (if (g.2.1 45 (ix a0)) = (-1 : Int32) then (some ((2 : Int32), g)) else (some ((0 : Int32), g)))))
def fX12_whyTold (g : MS) (a0 : Int64) : Option (Int32 × MS) :=
  if (lg_cmp a0 (-1 : Int64)) = 0 then (some ((0 : Int32), g)) else (bndv (fX12_within a0 (0 : Int64) (99 : Int64)) (fun x1 => if x1 = 0 then (bndv (fX12_within a0 (100 : Int64) (199 : Int64)) (fun x2 => if x2 = 0 then (bndv (fX12_within a0 (200 : Int64) (299 : Int64)) (fun x3 => if x3 = 0 then (some ((1 : Int32), g)) else (bndc (fX12_isMember g (a0 - (200 : Int64))) (fun x4 g5 => if x4 = 0 then (some ((1 : Int32), g5)) else (some ((0 : Int32), g5)))))) else (chk (nzL (10 : Int64)) (bndc (fX12_isMember g ((a0 - (100 : Int64)) / (10 : Int64))) (fun x6 g7 => if x6 = 0 then (some ((1 : Int32), g7)) else (chk (nzL (10 : Int64)) (if (lg_cmp (jremL a0 (10 : Int64)) (0 : Int64)) ≤ 0 then (some ((1 : Int32), g7)) else (some ((0 : Int32), g7))))))))) else (chk (nzL (10 : Int64)) (chk (nzL (10 : Int64)) (bndc (fX12_whyTurn g (a0 / (10 : Int64)) (jremL a0 (10 : Int64))) (fun x8 g9 => some (x8, g9)))))))
def fX12_does (g : MS) (a0 : Int32) : Option (MS) :=
  if a0 = (-1 : Int32) then (bndv (fX12_minuteNow g ) (fun g4 => some g4)) else (if (100 : Int32) ≤ a0 then (if (200 : Int32) ≤ a0 then (chk (ib (18 : Int32) 2850) (chk (ib (18 : Int32) 2850) (bnd (sA g 0 (ix (18 : Int32)) ((g.2.1 0 (ix (18 : Int32))) ^^^ (jshl (1 : Int32) (a0 - (200 : Int32))))) (fun g1 => some g1)))) else (chk (nz (10 : Int32)) (chk (nz (10 : Int32)) (chk (ib ((12 : Int32) + ((a0 - (100 : Int32)) / (10 : Int32))) 2850) (bnd (sA g 0 (ix ((12 : Int32) + ((a0 - (100 : Int32)) / (10 : Int32)))) (jrem a0 (10 : Int32))) (fun g2 => some g2)))))) else (chk (nz (10 : Int32)) (chk (nz (10 : Int32)) (bndv (fX12_turnsBy g (a0 / (10 : Int32)) (jrem a0 (10 : Int32))) (fun g3 => some g3)))))
def fX12_judge_122 (g : MS) (y2 : Int32) (y3 : Int32) (y4 : Int32) : Option (Int32 × MS) :=
  bndc (fX12_chairNow g ) (fun x1 g2 => chk (ib (18 : Int32) 2850) (bnd (g2.2.1 0 (ix (18 : Int32))) (fun x3 => bndv (fX12_putsBack g2 ) (fun g4 => if y2 = 0 then (some (y3, g4)) else (if y2 = (1 : Int32) then (some (y4, g4)) else (if y2 = (2 : Int32) then (some (x1, g4)) else (some (x3, g4))))))))
def fX12_judge_54 : Nat → MS → Int32 → Int32 → Int32 → Int32 → Int32 → Option (Int32 × MS)
  | 0, _, _, _, _, _, _ => none
  | n + 1, g, y1, y2, y3, y4, y5 => chk (ib y1 4) (if (g.2.1 46 (ix y1)) ≤ y5 then (fX12_judge_122 g y2 y3 y4) else (if y3 = (-1 : Int32) then (chk (ib (((30 : Int32) * y1) + y5) 120) (bndc (fX12_whyTold g (g.2.2 (ix (((30 : Int32) * y1) + y5)))) (fun x5 g6 => if x5 = 0 then (chk (ib (((30 : Int32) * y1) + y5) 120) (bndv (fX12_does g6 ((g6.2.2 (ix (((30 : Int32) * y1) + y5))).toInt32)) (fun g8 => bnd (y5 + (1 : Int32)) (fun x9 => fX12_judge_54 n g8 y1 y2 y3 x5 x9)))) else (bnd (y5 + (1 : Int32)) (fun x7 => fX12_judge_54 n g6 y1 y2 y5 x5 x7))))) else (fX12_judge_122 g y2 y3 y4)))
def fX12_judge_33 (g : MS) (y1 : Int32) (y2 : Int32) : Option (Int32 × MS) :=
  if (g.1 4) ≤ 0 then (bndv (fX12_putsAside g ) (fun g10 => fX12_judge_54 fuel g10 y1 y2 (-1 : Int32) (0 : Int32) (0 : Int32))) else (some ((0 : Int32), g))
def fX12_judge (g : MS) (a0 : Int32) (a1 : Int32) : Option (Int32 × MS) :=
  bndc (fX12_trayFault g a0) (fun x11 g12 => bnd (sI g12 4 x11) (fun g13 => if (g13.1 4) = 0 then (bndv (fX12_within a1.toInt64 (0 : Int64) (3 : Int64)) (fun x14 => if x14 = 0 then (bnd (sI g13 4 (3 : Int32)) (fun g15 => fX12_judge_33 g15 a0 a1)) else (fX12_judge_33 g13 a0 a1))) else (fX12_judge_33 g13 a0 a1)))
def fX12_perform_20 : Nat → MS → Int32 → Int32 → Option (Int32 × MS)
  | 0, _, _, _ => none
  | n + 1, g, y1, y2 => chk (ib y1 4) (if (g.2.1 46 (ix y1)) ≤ y2 then (some (y2, g)) else (chk (ib (((30 : Int32) * y1) + y2) 120) (bndc (fX12_whyTold g (g.2.2 (ix (((30 : Int32) * y1) + y2)))) (fun x1 g2 => if x1 = 0 then (bndv (fX12_keeps g2 ) (fun g3 => chk (ib (((30 : Int32) * y1) + y2) 120) (bndv (fX12_does g3 ((g3.2.2 (ix (((30 : Int32) * y1) + y2))).toInt32)) (fun g4 => bnd (y2 + (1 : Int32)) (fun x5 => fX12_perform_20 n g4 y1 x5))))) else (some (y2, g2))))))
def fX12_perform (g : MS) (a0 : Int32) : Option (Int32 × MS) :=
  bndc (fX12_trayFault g a0) (fun x6 g7 => bnd (sI g7 4 x6) (fun g8 => if (g8.1 4) ≤ 0 then (fX12_perform_20 fuel g8 a0 (0 : Int32)) else (some ((0 : Int32), g8))))
def fX12_draw (g : MS) (a0 : Int32) : Option (Int32 × MS) :=
  bnd (sI g 25 (((1103515245 : Int32) * (g.1 25)) + (12345 : Int32))) (fun g1 => chk (nz a0) (some (jrem (jush (g1.1 25) (16 : Int32)) a0, g1)))
def fX12_drawn (g : MS) (a0 : Int32) (a1 : Int32) : Option (Int32 × MS) :=
  if a0 = (4 : Int32) then (some ((200 : Int32) + a1, g)) else (if a0 = (3 : Int32) then (bndc (fX12_draw g (9 : Int32)) (fun x3 g4 => some (((101 : Int32) + ((10 : Int32) * a1)) + x3, g4))) else (bndc (fX12_draw g (5 : Int32)) (fun x1 g2 => some (((1 : Int32) + ((10 : Int32) * a1)) + x1, g2))))
def fX12_session_67 (k33 : MS → Int32 → Int32 → Int32 → Option (Int32 × MS)) (g : MS) (y2 : Int32) (y3 : Int32) (y4 : Int32) (t0 : Int32) : Option (Int32 × MS) :=
  bndc (fX12_whyTold g t0.toInt64) (fun x1 g2 => if x1 = 0 then (bndv (fX12_keeps g2 ) (fun g3 => bndv (fX12_does g3 t0) (fun g4 => bnd (y3 + (1 : Int32)) (fun x5 => bnd (y4 + (1 : Int32)) (fun x6 => k33 g4 y2 x5 x6))))) else (bnd (y4 + (1 : Int32)) (fun x7 => k33 g2 y2 y3 x7)))
def fX12_session_33 : Nat → MS → Int32 → Int32 → Int32 → Option (Int32 × MS)
  | 0, _, _, _, _ => none
  | n + 1, g, y2, y3, y4 => if y2 ≤ y4 then (some (y3, g)) else (bndc (fX12_draw g (5 : Int32)) (fun x8 g9 => if x8 = 0 then (fX12_session_67 (fX12_session_33 n) g9 y2 y3 y4 (-1 : Int32)) else (bndc (fX12_draw g9 (6 : Int32)) (fun x10 g11 => bndc (fX12_drawn g11 x8 x10) (fun x12 g13 => fX12_session_67 (fX12_session_33 n) g13 y2 y3 y4 x12)))))
def fX12_session (g : MS) (a0 : Int32) (a1 : Int32) : Option (Int32 × MS) :=
  bnd (sI g 4 (0 : Int32)) (fun g14 => bndv (fX12_within a1.toInt64 (1 : Int64) (30 : Int64)) (fun x15 => if x15 = 0 then (bndc (fX12_fails g14 (1 : Int32)) (fun x17 g18 => some (x17, g18))) else (bnd (sI g14 25 a0) (fun g16 => fX12_session_33 fuel g16 a1 (0 : Int32) (0 : Int32)))))
def fX12_laysAlong_2 : Nat → MS → Int32 → Option (MS)
  | 0, _, _ => none
  | n + 1, g, y1 => bndc (fX12_size g ) (fun x1 g2 => if x1 ≤ y1 then (some g2) else (bndc (fX12_draggedBy g2 y1) (fun x3 g4 => chk (ib y1 6) (bnd (sA g4 27 (ix y1) x3) (fun g5 => bndc (fX12_notchCosts g5 y1) (fun x6 g7 => chk (ib y1 6) (bnd (sA g7 28 (ix y1) x6) (fun g8 => bnd (y1 + (1 : Int32)) (fun x9 => fX12_laysAlong_2 n g8 x9)))))))))
def fX12_laysAlong (g : MS) : Option (MS) :=
  fX12_laysAlong_2 fuel g (0 : Int32)
def fX12_aimsBehind_16 (k6 : MS → Int32 → Option (MS)) : Nat → MS → Int32 → Int32 → Option (MS)
  | 0, _, _, _ => none
  | n + 1, g, y1, y2 => bndc (fX12_size g ) (fun x1 g2 => if x1 ≤ y2 then (bnd (y1 + (1 : Int32)) (fun x3 => k6 g2 x3)) else (chk (ib y1 6) (bndv (fX12_has (g2.2.1 27 (ix y1)) y2) (fun x4 => if x4 = 0 then (bnd (y2 + (1 : Int32)) (fun x5 => fX12_aimsBehind_16 k6 n g2 y1 x5)) else (chk (ib y2 6) (chk (ib y1 6) (bndc (fX12_size g2 ) (fun x6 g7 => chk (nz x6) (chk (ib y2 6) (bnd (sA g7 21 (ix y2) (jrem ((g2.2.1 21 (ix y2)) + (g2.2.1 26 (ix y1))) x6)) (fun g8 => bnd (y2 + (1 : Int32)) (fun x9 => fX12_aimsBehind_16 k6 n g8 y1 x9))))))))))))
def fX12_aimsBehind_6 : Nat → MS → Int32 → Option (MS)
  | 0, _, _ => none
  | n + 1, g, y1 => bndc (fX12_size g ) (fun x10 g11 => if x10 ≤ y1 then (some g11) else (fX12_aimsBehind_16 (fX12_aimsBehind_6 n) fuel g11 y1 (0 : Int32)))
def fX12_aimsBehind (g : MS) : Option (MS) :=
  bndv (fX12_aimsNow g ) (fun g12 => fX12_aimsBehind_6 fuel g12 (0 : Int32))
def fX12_costOf_4 : Nat → MS → Int32 → Int32 → Option (Int32 × MS)
  | 0, _, _, _ => none
  | n + 1, g, y1, y2 => bndc (fX12_size g ) (fun x1 g2 => if x1 ≤ y2 then (some (y1, g2)) else (chk (ib y2 6) (chk (ib y2 6) (bnd (y1 + ((g2.2.1 28 (ix y2)) * (g2.2.1 26 (ix y2)))) (fun x3 => bnd (y2 + (1 : Int32)) (fun x4 => fX12_costOf_4 n g2 x3 x4))))))
def fX12_costOf (g : MS) : Option (Int32 × MS) :=
  fX12_costOf_4 fuel g (0 : Int32) (0 : Int32)
def fX12_lookCode_4 : Nat → MS → Int32 → Int32 → Option (Int32 × MS)
  | 0, _, _, _ => none
  | n + 1, g, y1, y2 => bndc (fX12_size g ) (fun x1 g2 => if x1 ≤ y2 then (some (y1, g2)) else (chk (ib y2 6) (bnd (((6 : Int32) * y1) + (g2.2.1 21 (ix y2))) (fun x3 => bnd (y2 + (1 : Int32)) (fun x4 => fX12_lookCode_4 n g2 x3 x4)))))
def fX12_lookCode (g : MS) : Option (Int32 × MS) :=
  fX12_lookCode_4 fuel g (0 : Int32) (0 : Int32)
def fX12_keepsRow_10 : Nat → MS → Int32 → Option (MS)
  | 0, _, _ => none
  | n + 1, g, y1 => if (6 : Int32) ≤ y1 then (some g) else (bndc (fX12_size g ) (fun x1 g2 => if x1 ≤ y1 then (chk (ib y1 6) (bnd (sA g2 29 (ix y1) (-1 : Int32)) (fun g3 => bnd (y1 + (1 : Int32)) (fun x4 => fX12_keepsRow_10 n g3 x4)))) else (chk (ib y1 6) (chk (ib y1 6) (bnd (sA g2 29 (ix y1) (g2.2.1 26 (ix y1))) (fun g5 => bnd (y1 + (1 : Int32)) (fun x6 => fX12_keepsRow_10 n g5 x6)))))))
def fX12_keepsRow (g : MS) : Option (MS) :=
  bndc (fX12_costOf g ) (fun x7 g8 => bnd (sI g8 36 x7) (fun g9 => fX12_keepsRow_10 fuel g9 (0 : Int32)))
def fX12_isAsNow_2 : Nat → MS → Int32 → Option (Int32 × MS)
  | 0, _, _ => none
  | n + 1, g, y1 => bndc (fX12_size g ) (fun x1 g2 => if x1 ≤ y1 then (some ((1 : Int32), g2)) else (chk (ib y1 6) (chk (ib ((6 : Int32) + y1) 2850) (if (g2.2.1 21 (ix y1)) = (g2.2.1 0 (ix ((6 : Int32) + y1))) then (bnd (y1 + (1 : Int32)) (fun x3 => fX12_isAsNow_2 n g2 x3)) else (some ((0 : Int32), g2))))))
def fX12_isAsNow (g : MS) : Option (Int32 × MS) :=
  fX12_isAsNow_2 fuel g (0 : Int32)
def fX12_looksSo_2 : Nat → MS → Int32 → Int32 → Option (Int32 × MS)
  | 0, _, _, _ => none
  | n + 1, g, y1, y2 => bndc (fX12_size g ) (fun x1 g2 => if x1 ≤ y2 then (some ((1 : Int32), g2)) else (chk (ib (((30 : Int32) * y1) + y2) 120) (if (lg_cmp (g2.2.2 (ix (((30 : Int32) * y1) + y2))) (-1 : Int64)) = 0 then (bnd (y2 + (1 : Int32)) (fun x3 => fX12_looksSo_2 n g2 y1 x3)) else (chk (ib (((30 : Int32) * y1) + y2) 120) (chk (ib y2 6) (if (lg_cmp (g2.2.2 (ix (((30 : Int32) * y1) + y2))) ((g2.2.1 21 (ix y2)).toInt64)) = 0 then (bnd (y2 + (1 : Int32)) (fun x4 => fX12_looksSo_2 n g2 y1 x4)) else (some ((0 : Int32), g2))))))))
def fX12_looksSo (g : MS) (a0 : Int32) : Option (Int32 × MS) :=
  fX12_looksSo_2 fuel g a0 (0 : Int32)
def fX12_seesHelp_29 (k4 : MS → Int32 → Int32 → Option (MS)) (g : MS) (y2 : Int32) (t0 : Int32) (t1 : Int32) : Option (MS) :=
  bnd (t0 ||| t1) (fun x1 => bnd (y2 + (1 : Int32)) (fun x2 => k4 g x1 x2))
def fX12_seesHelp_4 : Nat → MS → Int32 → Int32 → Option (MS)
  | 0, _, _, _ => none
  | n + 1, g, y1, y2 => bndc (fX12_size g ) (fun x3 g4 => if x3 ≤ y2 then (if (g4.1 38) = (-1 : Int32) then (bnd (sI g4 38 y1) (fun g5 => some g5)) else (bndv (fX12_bits y1) (fun x6 => bndv (fX12_bits (g4.1 38)) (fun x7 => if x6 < x7 then (bnd (sI g4 38 y1) (fun g8 => some g8)) else (bndv (fX12_bits y1) (fun x9 => bndv (fX12_bits (g4.1 38)) (fun x10 => if x9 = x10 then (if (g4.1 38) ≤ y1 then (some g4) else (bnd (sI g4 38 y1) (fun g11 => some g11))) else (some g4)))))))) else (chk (ib y2 6) (if (g4.2.1 26 (ix y2)) ≤ 0 then (fX12_seesHelp_29 (fX12_seesHelp_4 n) g4 y2 y1 (0 : Int32)) else (fX12_seesHelp_29 (fX12_seesHelp_4 n) g4 y2 y1 (jshl (1 : Int32) y2)))))
def fX12_seesHelp (g : MS) : Option (MS) :=
  fX12_seesHelp_4 fuel g (0 : Int32) (0 : Int32)
def fX12_seesKnees_33 (g : MS) (y1 : Int32) : Option (MS) :=
  bnd (sI g 37 y1) (fun g1 => bndv (fX12_keepsRow g1 ) (fun g2 => some g2))
def fX12_seesKnees (g : MS) : Option (MS) :=
  bndc (fX12_kneesBy g ) (fun x3 g4 => if x3 < (g4.1 37) then (some g4) else (if x3 = (g4.1 37) then (bndc (fX12_costOf g4 ) (fun x5 g6 => if x5 < (g6.1 36) then (fX12_seesKnees_33 g6 x3) else (some g6))) else (fX12_seesKnees_33 g4 x3)))
def fX12_seesLook (g : MS) : Option (MS) :=
  bndc (fX12_lookCode g ) (fun x1 g2 => chk (ib x1 46656) (if (g2.2.1 31 (ix x1)) = 0 then (chk (ib x1 46656) (bnd (sA g2 31 (ix x1) (1 : Int32)) (fun g3 => bnd (sI g3 35 ((g3.1 35) + (1 : Int32))) (fun g4 => bndc (fX12_chairBy g4 ) (fun x5 g6 => if x5 = (-1 : Int32) then (some g6) else (chk (ib x5 6) (chk (ib x5 6) (bnd (sA g6 30 (ix x5) ((g6.2.1 30 (ix x5)) + (1 : Int32))) (fun g7 => some g7))))))))) else (some g2)))
def fX12_seesOne (g : MS) : Option (MS) :=
  bnd (sI g 35 ((g.1 35) + (1 : Int32))) (fun g1 => bndc (fX12_costOf g1 ) (fun x2 g3 => if (g3.1 36) ≤ x2 then (some g3) else (bndv (fX12_keepsRow g3 ) (fun g4 => some g4))))
def fX12_sees_111 (g : MS) (t1 : Int32) (t2 : Int32) : Option (MS) :=
  bnd (sI g 35 (t1 + t2)) (fun g1 => some g1)
def fX12_sees (g : MS) : Option (MS) :=
  bndv (fX12_aimsBehind g ) (fun g2 => bnd (g2.1 32) (fun x3 => if x3 = (0 : Int32) then (bndc (fX12_looksSo g2 (g2.1 33)) (fun x4 g5 => if x4 = 0 then (some g5) else (bndv (fX12_seesOne g5 ) (fun g6 => some g6)))) else (if x3 = (1 : Int32) then (bndc (fX12_chairBy g2 ) (fun x7 g8 => if x7 = (g8.1 34) then (bndv (fX12_seesOne g8 ) (fun g9 => some g9)) else (some g8))) else (if x3 = (2 : Int32) then (bndv (fX12_seesKnees g2 ) (fun g10 => some g10)) else (if x3 = (3 : Int32) then (bndv (fX12_seesLook g2 ) (fun g11 => some g11)) else (if x3 = (4 : Int32) then (bndc (fX12_isAsNow g2 ) (fun x12 g13 => if x12 = 0 then (fX12_sees_111 g13 (g2.1 35) (0 : Int32)) else (fX12_sees_111 g13 (g2.1 35) (1 : Int32)))) else (bndc (fX12_chairBy g2 ) (fun x14 g15 => if x14 = (g15.1 34) then (bndv (fX12_seesHelp g15 ) (fun g16 => some g16)) else (some g15)))))))))
def fX12_goesRows_34 (r_goesRows : MS → Int32 → Option (MS)) : Nat → MS → Int32 → Int32 → Int32 → Option (MS)
  | 0, _, _, _, _ => none
  | n + 1, g, y1, y2, y3 => if y2 < y3 then (chk (ib y1 6) (bnd (sA g 26 (ix y1) (0 : Int32)) (fun g1 => some g1))) else (chk (ib y1 6) (bnd (sA g 26 (ix y1) y3) (fun g2 => bndv (r_goesRows g2 (y1 + (1 : Int32))) (fun g3 => bnd (y3 + (1 : Int32)) (fun x4 => fX12_goesRows_34 r_goesRows n g3 y1 y2 x4)))))
def fX12_goesRows_31 (r_goesRows : MS → Int32 → Option (MS)) (g : MS) (y1 : Int32) (t0 : Int32) : Option (MS) :=
  fX12_goesRows_34 r_goesRows fuel g y1 t0 (0 : Int32)
def fX12_goesRowsB (r_goesRows : MS → Int32 → Option (MS)) (g : MS) (a0 : Int32) : Option (MS) :=
  bndc (fX12_size g ) (fun x5 g6 => if a0 = x5 then (bndv (fX12_sees g6 ) (fun g11 => some g11)) else (bndc (fX12_isStuck g6 a0) (fun x7 g8 => if x7 = 0 then (bndc (fX12_size g8 ) (fun x9 g10 => fX12_goesRows_31 r_goesRows g10 a0 (x9 - (1 : Int32)))) else (fX12_goesRows_31 r_goesRows g8 a0 (0 : Int32)))))
def fX12_goesRowsD : Nat → MS → Int32 → Option (MS)
  | 0, _, _ => none
  | n + 1, g, a0 => fX12_goesRowsB (fX12_goesRowsD n) g a0
def fX12_goesRows (g : MS) (a0 : Int32) : Option (MS) := fX12_goesRowsD 12 g a0
def fX12_asksRows (g : MS) (a0 : Int32) : Option (MS) :=
  bnd (sI g 32 a0) (fun g1 => bnd (sI g1 35 (0 : Int32)) (fun g2 => bnd (sI g2 36 (536870912 : Int32)) (fun g3 => bnd (sI g3 37 (-1 : Int32)) (fun g4 => bnd (sI g4 38 (-1 : Int32)) (fun g5 => bndv (fX12_laysAlong g5 ) (fun g6 => bndv (fX12_goesRows g6 (0 : Int32)) (fun g7 => some g7)))))))
def fX12_lookFault_81 (g : MS) (y3 : Int32) : Option (Int32 × MS) :=
  if y3 = 0 then (some ((3 : Int32), g)) else (some ((0 : Int32), g))
def fX12_lookFault_34 : Nat → MS → Int32 → Int32 → Int32 → Option (Int32 × MS)
  | 0, _, _, _, _ => none
  | n + 1, g, y1, y3, y4 => chk (ib y1 4) (if (g.2.1 46 (ix y1)) ≤ y4 then (fX12_lookFault_81 g y3) else (if y3 = 0 then (fX12_lookFault_81 g y3) else (chk (ib (((30 : Int32) * y1) + y4) 120) (bndc (fX12_size g ) (fun x1 g2 => bndv (fX12_within (g.2.2 (ix (((30 : Int32) * y1) + y4))) (-1 : Int64) ((x1 - (1 : Int32)).toInt64)) (fun x3 => bnd (y4 + (1 : Int32)) (fun x4 => fX12_lookFault_34 n g2 y1 x3 x4)))))))
def fX12_lookFault_30 (g : MS) (y1 : Int32) (t0 : Int32) : Option (Int32 × MS) :=
  fX12_lookFault_34 fuel g y1 t0 (0 : Int32)
def fX12_lookFault (g : MS) (a0 : Int32) : Option (Int32 × MS) :=
  bndc (fX12_trayFault g a0) (fun x5 g6 => if x5 = 0 then (chk (ib a0 4) (bndc (fX12_size g6 ) (fun x7 g8 => if (g6.2.1 46 (ix a0)) = x7 then (fX12_lookFault_30 g8 a0 (1 : Int32)) else (fX12_lookFault_30 g8 a0 (0 : Int32))))) else (some (x5, g6)))
def fX12_isWhat_18 : Option (Int32) :=
  some (1 : Int32)
def fX12_isWhat (a0 : Int32) : Option (Int32) :=
  if a0 = 0 then (fX12_isWhat_18 ) else (bndv (fX12_within a0.toInt64 (10 : Int64) (15 : Int64)) (fun x1 => if x1 = 0 then (some (0 : Int32)) else (fX12_isWhat_18 )))
def fX12_toldRow (g : MS) (a0 : Int32) : Option (Int32 × MS) :=
  if (g.1 36) = (536870912 : Int32) then (some ((-1 : Int32), g)) else (if a0 = 0 then (some (g.1 36, g)) else (chk (ib (a0 - (10 : Int32)) 6) (some (g.2.1 29 (ix (a0 - (10 : Int32))), g))))
def fX12_cheapest_28 (g : MS) (y1 : Int32) (y2 : Int32) : Option (Int32 × MS) :=
  if (g.1 4) ≤ 0 then (bnd (sI g 33 y1) (fun g1 => bndv (fX12_asksRows g1 (0 : Int32)) (fun g2 => bndc (fX12_toldRow g2 y2) (fun x3 g4 => some (x3, g4))))) else (some ((0 : Int32), g))
def fX12_cheapest (g : MS) (a0 : Int32) (a1 : Int32) : Option (Int32 × MS) :=
  bndc (fX12_lookFault g a0) (fun x5 g6 => bnd (sI g6 4 x5) (fun g7 => if (g7.1 4) = 0 then (bndv (fX12_isWhat a1) (fun x8 => if x8 = 0 then (bnd (sI g7 4 (3 : Int32)) (fun g9 => fX12_cheapest_28 g9 a0 a1)) else (fX12_cheapest_28 g7 a0 a1))) else (fX12_cheapest_28 g7 a0 a1)))
def fX12_ways (g : MS) (a0 : Int32) : Option (Int32 × MS) :=
  bndc (fX12_lookFault g a0) (fun x1 g2 => bnd (sI g2 4 x1) (fun g3 => if (g3.1 4) ≤ 0 then (bnd (sI g3 33 a0) (fun g4 => bndv (fX12_asksRows g4 (0 : Int32)) (fun g5 => some (g5.1 35, g5)))) else (some ((0 : Int32), g3))))
def fX12_throne_26 (g : MS) (y1 : Int32) (y2 : Int32) (t1 : Int32) : Option (Int32 × MS) :=
  bnd (sI g 4 t1) (fun g1 => if (g1.1 4) ≤ 0 then (bnd (sI g1 34 y1) (fun g2 => bndv (fX12_asksRows g2 (1 : Int32)) (fun g3 => bndc (fX12_toldRow g3 y2) (fun x4 g5 => some (x4, g5))))) else (some ((0 : Int32), g1)))
def fX12_throne (g : MS) (a0 : Int32) (a1 : Int32) : Option (Int32 × MS) :=
  bndc (fX12_isMember g a0.toInt64) (fun x6 g7 => if x6 = 0 then (fX12_throne_26 g7 a0 a1 (1 : Int32)) else (bndv (fX12_isWhat a1) (fun x8 => if x8 = 0 then (fX12_throne_26 g7 a0 a1 (2 : Int32)) else (fX12_throne_26 g7 a0 a1 (0 : Int32)))))
def fX12_laysLooks_23 : Nat → MS → Int32 → Option (MS)
  | 0, _, _ => none
  | n + 1, g, y1 => if (6 : Int32) ≤ y1 then (bndv (fX12_asksRows g (3 : Int32)) (fun g1 => some g1)) else (chk (ib y1 6) (bnd (sA g 30 (ix y1) (0 : Int32)) (fun g2 => bnd (y1 + (1 : Int32)) (fun x3 => fX12_laysLooks_23 n g2 x3))))
def fX12_laysLooks_2 : Nat → MS → Int32 → Option (MS)
  | 0, _, _ => none
  | n + 1, g, y1 => if (46656 : Int32) ≤ y1 then (fX12_laysLooks_23 fuel g (0 : Int32)) else (chk (ib y1 46656) (bnd (sA g 31 (ix y1) (0 : Int32)) (fun g4 => bnd (y1 + (1 : Int32)) (fun x5 => fX12_laysLooks_2 n g4 x5))))
def fX12_laysLooks (g : MS) : Option (MS) :=
  fX12_laysLooks_2 fuel g (0 : Int32)
def fX12_looks (g : MS) : Option (Int32 × MS) :=
  bnd (sI g 4 (0 : Int32)) (fun g1 => bndv (fX12_laysLooks g1 ) (fun g2 => some (g2.1 35, g2)))
def fX12_idle (g : MS) : Option (Int32 × MS) :=
  bnd (sI g 4 (0 : Int32)) (fun g1 => bndv (fX12_asksRows g1 (4 : Int32)) (fun g2 => some (g2.1 35, g2)))
def fX12_power (g : MS) (a0 : Int32) : Option (Int32 × MS) :=
  bnd (sI g 4 (0 : Int32)) (fun g1 => bndc (fX12_isMember g1 a0.toInt64) (fun x2 g3 => if x2 = 0 then (bndc (fX12_fails g3 (1 : Int32)) (fun x5 g6 => some (x5, g6))) else (bndv (fX12_laysLooks g3 ) (fun g4 => chk (ib a0 6) (some (g4.2.1 30 (ix a0), g4))))))
def fX12_strongest_13 : Nat → MS → Int32 → Int32 → Option (Int32 × MS)
  | 0, _, _, _ => none
  | n + 1, g, y1, y2 => bndc (fX12_size g ) (fun x1 g2 => if x1 ≤ y2 then (some (y1, g2)) else (chk (ib y2 6) (chk (ib y1 6) (if (g2.2.1 30 (ix y2)) ≤ (g2.2.1 30 (ix y1)) then (bnd (y2 + (1 : Int32)) (fun x3 => fX12_strongest_13 n g2 y1 x3)) else (bnd (y2 + (1 : Int32)) (fun x4 => fX12_strongest_13 n g2 y2 x4))))))
def fX12_strongest (g : MS) : Option (Int32 × MS) :=
  bnd (sI g 4 (0 : Int32)) (fun g5 => bndv (fX12_laysLooks g5 ) (fun g6 => fX12_strongest_13 fuel g6 (0 : Int32) (1 : Int32)))
def fX12_aimsBehindOne_2 : Nat → MS → Int32 → Int32 → Int32 → Option (MS)
  | 0, _, _, _, _ => none
  | n + 1, g, y1, y2, y3 => bndc (fX12_size g ) (fun x1 g2 => if x1 ≤ y3 then (bndv (fX12_aimsBehind g2 ) (fun g3 => chk (ib y1 6) (bnd (sA g3 26 (ix y1) (0 : Int32)) (fun g4 => some g4)))) else (if y3 = y1 then (chk (ib y3 6) (bnd (sA g2 26 (ix y3) y2) (fun g7 => bnd (y3 + (1 : Int32)) (fun x8 => fX12_aimsBehindOne_2 n g7 y1 y2 x8)))) else (chk (ib y3 6) (bnd (sA g2 26 (ix y3) (0 : Int32)) (fun g5 => bnd (y3 + (1 : Int32)) (fun x6 => fX12_aimsBehindOne_2 n g5 y1 y2 x6))))))
def fX12_aimsBehindOne (g : MS) (a0 : Int32) (a1 : Int32) : Option (MS) :=
  fX12_aimsBehindOne_2 fuel g a0 a1 (0 : Int32)
def fX12_motion_36 : Nat → MS → Int32 → Int32 → Option (Int32 × MS)
  | 0, _, _, _ => none
  | n + 1, g, y1, y2 => bndc (fX12_size g ) (fun x1 g2 => if ((10 : Int32) * x1) ≤ y2 then (some ((-1 : Int32), g2)) else (chk (nz (10 : Int32)) (chk (nz (10 : Int32)) (bndc (fX12_whyTurn g2 ((y2 / (10 : Int32)).toInt64) ((jrem y2 (10 : Int32)).toInt64)) (fun x3 g4 => if x3 = 0 then (chk (nz (10 : Int32)) (chk (nz (10 : Int32)) (bndv (fX12_aimsBehindOne g4 (y2 / (10 : Int32)) (jrem y2 (10 : Int32))) (fun g5 => bndc (fX12_chairBy g5 ) (fun x6 g7 => if x6 = y1 then (some (y2, g7)) else (bnd (y2 + (1 : Int32)) (fun x8 => fX12_motion_36 n g7 y1 x8))))))) else (bnd (y2 + (1 : Int32)) (fun x9 => fX12_motion_36 n g4 y1 x9)))))))
def fX12_motion (g : MS) (a0 : Int32) : Option (Int32 × MS) :=
  bnd (sI g 4 (0 : Int32)) (fun g10 => bndc (fX12_isMember g10 a0.toInt64) (fun x11 g12 => if x11 = 0 then (bndc (fX12_fails g12 (1 : Int32)) (fun x16 g17 => some (x16, g17))) else (bndc (fX12_chairNow g12 ) (fun x13 g14 => if x13 = a0 then (some ((-1 : Int32), g14)) else (bndv (fX12_laysAlong g14 ) (fun g15 => fX12_motion_36 fuel g15 a0 (0 : Int32)))))))
def fX12_helps_64 (g : MS) : Option (Int32 × MS) :=
  some (g.1 38, g)
def fX12_helps_29 (g : MS) (y1 : Int32) (y2 : Int32) (t1 : Int32) : Option (Int32 × MS) :=
  bnd (sI g 4 t1) (fun g1 => if (g1.1 4) ≤ 0 then (bnd (sI g1 34 y1) (fun g2 => bndv (fX12_asksRows g2 (5 : Int32)) (fun g3 => if (g3.1 38) = (-1 : Int32) then (fX12_helps_64 g3) else (if y2 = (1 : Int32) then (fX12_helps_64 g3) else (bndv (fX12_bits (g3.1 38)) (fun x4 => some (x4, g3))))))) else (some ((0 : Int32), g1)))
def fX12_helps (g : MS) (a0 : Int32) (a1 : Int32) : Option (Int32 × MS) :=
  bndc (fX12_isMember g a0.toInt64) (fun x5 g6 => if x5 = 0 then (fX12_helps_29 g6 a0 a1 (1 : Int32)) else (bndv (fX12_within a1.toInt64 (0 : Int64) (1 : Int64)) (fun x7 => if x7 = 0 then (fX12_helps_29 g6 a0 a1 (2 : Int32)) else (fX12_helps_29 g6 a0 a1 (0 : Int32)))))
def fX12_vetoes_110 (k43 : MS → Int32 → Int32 → Option (Int32 × MS)) (g : MS) (y3 : Int32) (t0 : Int32) (t1 : Int32) : Option (Int32 × MS) :=
  bnd (t0 ||| t1) (fun x1 => bnd (y3 + (1 : Int32)) (fun x2 => k43 g x1 x2))
def fX12_vetoes_43 : Nat → MS → Int32 → Int32 → Option (Int32 × MS)
  | 0, _, _, _ => none
  | n + 1, g, y2, y3 => bndc (fX12_size g ) (fun x3 g4 => if x3 ≤ y3 then (some (y2, g4)) else (bndc (fX12_isStuck g4 y3) (fun x5 g6 => if x5 = 0 then (chk (ib (18 : Int32) 2850) (chk (ib (18 : Int32) 2850) (bnd (sA g6 0 (ix (18 : Int32)) ((g6.2.1 0 (ix (18 : Int32))) ||| (jshl (1 : Int32) y3))) (fun g7 => bndv (fX12_asksRows g7 (1 : Int32)) (fun g8 => chk (ib (18 : Int32) 2850) (chk (ib (18 : Int32) 2850) (bnd (sA g8 0 (ix (18 : Int32)) ((g8.2.1 0 (ix (18 : Int32))) &&& ((jshl (1 : Int32) y3) ^^^ (-1 : Int32)))) (fun g9 => if (g9.1 35) = 0 then (fX12_vetoes_110 (fX12_vetoes_43 n) g9 y3 y2 (jshl (1 : Int32) y3)) else (fX12_vetoes_110 (fX12_vetoes_43 n) g9 y3 y2 (0 : Int32)))))))))) else (bnd (y3 + (1 : Int32)) (fun x10 => fX12_vetoes_43 n g6 y2 x10)))))
def fX12_vetoes (g : MS) (a0 : Int32) : Option (Int32 × MS) :=
  bnd (sI g 4 (0 : Int32)) (fun g11 => bndc (fX12_isMember g11 a0.toInt64) (fun x12 g13 => if x12 = 0 then (bndc (fX12_fails g13 (1 : Int32)) (fun x16 g17 => some (x16, g17))) else (bnd (sI g13 34 a0) (fun g14 => bndv (fX12_asksRows g14 (1 : Int32)) (fun g15 => if (g15.1 35) = 0 then (some ((0 : Int32), g15)) else (fX12_vetoes_43 fuel g15 (0 : Int32) (0 : Int32)))))))
def fX12_knees_23 (g : MS) (y1 : Int32) : Option (Int32 × MS) :=
  bndv (fX12_asksRows g (2 : Int32)) (fun g1 => if y1 = 0 then (some (g1.1 37, g1)) else (if y1 = (1 : Int32) then (some (g1.1 36, g1)) else (chk (ib (y1 - (10 : Int32)) 6) (some (g1.2.1 29 (ix (y1 - (10 : Int32))), g1)))))
def fX12_knees (g : MS) (a0 : Int32) : Option (Int32 × MS) :=
  bnd (sI g 4 (0 : Int32)) (fun g2 => if a0 = (1 : Int32) then (fX12_knees_23 g2 a0) else (bndv (fX12_isWhat a0) (fun x3 => if x3 = 0 then (bndc (fX12_fails g2 (1 : Int32)) (fun x4 g5 => some (x4, g5))) else (fX12_knees_23 g2 a0))))
def fX12_laysRound_27 : Nat → MS → Int32 → Option (MS)
  | 0, _, _ => none
  | n + 1, g, y1 => bndc (fX12_lookCode g ) (fun x1 g2 => chk (ib x1 46656) (if (g2.2.1 39 (ix x1)) = (-1 : Int32) then (bndc (fX12_lookCode g2 ) (fun x7 g8 => chk (ib x7 46656) (bnd (sA g8 39 (ix x7) y1) (fun g9 => bndv (fX12_minute g9 ) (fun g10 => bnd (y1 + (1 : Int32)) (fun x11 => fX12_laysRound_27 n g10 x11)))))) else (bndc (fX12_lookCode g2 ) (fun x3 g4 => chk (ib x3 46656) (bnd (sI g4 40 (g4.2.1 39 (ix x3))) (fun g5 => bnd (sI g5 41 (y1 - (g5.1 40))) (fun g6 => some g6)))))))
def fX12_laysRound_2 : Nat → MS → Int32 → Option (MS)
  | 0, _, _ => none
  | n + 1, g, y1 => if (46656 : Int32) ≤ y1 then (bndv (fX12_aimsNow g ) (fun g12 => fX12_laysRound_27 fuel g12 (0 : Int32))) else (chk (ib y1 46656) (bnd (sA g 39 (ix y1) (-1 : Int32)) (fun g13 => bnd (y1 + (1 : Int32)) (fun x14 => fX12_laysRound_2 n g13 x14))))
def fX12_laysRound (g : MS) : Option (MS) :=
  fX12_laysRound_2 fuel g (0 : Int32)
def fX12_aimsIn_39 : Nat → MS → Int32 → Int32 → Option (MS)
  | 0, _, _, _ => none
  | n + 1, g, y2, y3 => if y2 ≤ y3 then (some g) else (bndv (fX12_minute g ) (fun g1 => bnd (y3 + (1 : Int32)) (fun x2 => fX12_aimsIn_39 n g1 y2 x2)))
def fX12_aimsIn_32 (g : MS) (t0 : Int32) : Option (MS) :=
  bndv (fX12_aimsNow g ) (fun g3 => fX12_aimsIn_39 fuel g3 t0 (0 : Int32))
def fX12_aimsIn (g : MS) (a0 : Int32) : Option (MS) :=
  bndv (fX12_laysRound g ) (fun g4 => if (g4.1 40) ≤ a0 then (chk (nz (g4.1 41)) (fX12_aimsIn_32 g4 ((g4.1 40) + (jrem (a0 - (g4.1 40)) (g4.1 41))))) else (fX12_aimsIn_32 g4 a0))
def fX12_settles (g : MS) (a0 : Int32) : Option (Int32 × MS) :=
  bnd (sI g 4 (0 : Int32)) (fun g1 => bndv (fX12_within a0.toInt64 (0 : Int64) (1 : Int64)) (fun x2 => if x2 = 0 then (bndc (fX12_fails g1 (1 : Int32)) (fun x4 g5 => some (x4, g5))) else (bndv (fX12_laysRound g1 ) (fun g3 => if a0 = 0 then (some (g3.1 40, g3)) else (some (g3.1 41, g3))))))
def fX12_isFar (a0 : Int32) : Option (Int32) :=
  bndv (fX12_within a0.toInt64 (0 : Int64) (99999 : Int64)) (fun x1 => chk (isB x1) (some x1))
def fX12_chairIn (g : MS) (a0 : Int32) : Option (Int32 × MS) :=
  bnd (sI g 4 (0 : Int32)) (fun g1 => bndv (fX12_isFar a0) (fun x2 => if x2 = 0 then (bndc (fX12_fails g1 (1 : Int32)) (fun x6 g7 => some (x6, g7))) else (bndv (fX12_aimsIn g1 a0) (fun g3 => bndc (fX12_chairBy g3 ) (fun x4 g5 => some (x4, g5))))))
def fX12_aimIn_26 (g : MS) (y1 : Int32) (y2 : Int32) (t1 : Int32) : Option (Int32 × MS) :=
  bnd (sI g 4 t1) (fun g1 => if (g1.1 4) ≤ 0 then (bndv (fX12_aimsIn g1 y2) (fun g2 => chk (ib y1 6) (some (g2.2.1 21 (ix y1), g2)))) else (some ((0 : Int32), g1)))
def fX12_aimIn (g : MS) (a0 : Int32) (a1 : Int32) : Option (Int32 × MS) :=
  bndc (fX12_isMember g a0.toInt64) (fun x3 g4 => if x3 = 0 then (fX12_aimIn_26 g4 a0 a1 (1 : Int32)) else (bndv (fX12_isFar a1) (fun x5 => if x5 = 0 then (fX12_aimIn_26 g4 a0 a1 (2 : Int32)) else (fX12_aimIn_26 g4 a0 a1 (0 : Int32)))))
def fX12_reign_72 (k52 : MS → Int32 → Int32 → Int32 → Int32 → Option (Int32 × MS)) (g : MS) (y1 : Int32) (y2 : Int32) (y4 : Int32) (t0 : Int32) (t1 : Int32) : Option (Int32 × MS) :=
  bnd (t0 + t1) (fun x1 => bndv (fX12_minute g ) (fun g2 => bnd (y4 + (1 : Int32)) (fun x3 => k52 g2 y1 y2 x1 x3)))
def fX12_reign_52 : Nat → MS → Int32 → Int32 → Int32 → Int32 → Option (Int32 × MS)
  | 0, _, _, _, _, _ => none
  | n + 1, g, y1, y2, y3, y4 => if y2 < y4 then (some (y3, g)) else (bndc (fX12_chairBy g ) (fun x4 g5 => if x4 = y1 then (fX12_reign_72 (fX12_reign_52 n) g5 y1 y2 y4 y3 (1 : Int32)) else (fX12_reign_72 (fX12_reign_52 n) g5 y1 y2 y4 y3 (0 : Int32))))
def fX12_reign_31 (g : MS) (y1 : Int32) (y2 : Int32) (t1 : Int32) : Option (Int32 × MS) :=
  bnd (sI g 4 t1) (fun g6 => if (g6.1 4) ≤ 0 then (bndv (fX12_aimsNow g6 ) (fun g7 => fX12_reign_52 fuel g7 y1 y2 (0 : Int32) (0 : Int32))) else (some ((0 : Int32), g6)))
def fX12_reign (g : MS) (a0 : Int32) (a1 : Int32) : Option (Int32 × MS) :=
  bndc (fX12_isMember g a0.toInt64) (fun x8 g9 => if x8 = 0 then (fX12_reign_31 g9 a0 a1 (1 : Int32)) else (bndv (fX12_within a1.toInt64 (0 : Int64) (9999 : Int64)) (fun x10 => if x10 = 0 then (fX12_reign_31 g9 a0 a1 (2 : Int32)) else (fX12_reign_31 g9 a0 a1 (0 : Int32)))))
def fX12_first_30 : Nat → MS → Int32 → Int32 → Option (Int32 × MS)
  | 0, _, _, _ => none
  | n + 1, g, y1, y2 => if ((g.1 40) + (g.1 41)) ≤ y2 then (some ((-1 : Int32), g)) else (bndc (fX12_chairBy g ) (fun x1 g2 => if x1 = y1 then (some (y2, g2)) else (bndv (fX12_minute g2 ) (fun g3 => bnd (y2 + (1 : Int32)) (fun x4 => fX12_first_30 n g3 y1 x4)))))
def fX12_first (g : MS) (a0 : Int32) : Option (Int32 × MS) :=
  bnd (sI g 4 (0 : Int32)) (fun g5 => bndc (fX12_isMember g5 a0.toInt64) (fun x6 g7 => if x6 = 0 then (bndc (fX12_fails g7 (1 : Int32)) (fun x10 g11 => some (x10, g11))) else (bndv (fX12_laysRound g7 ) (fun g8 => bndv (fX12_aimsNow g8 ) (fun g9 => fX12_first_30 fuel g9 a0 (0 : Int32))))))
def fX12_laysSeen_77 (k11 : MS → Int32 → Int32 → Option (MS)) : Nat → MS → Int32 → Int32 → Int32 → Option (MS)
  | 0, _, _, _, _ => none
  | n + 1, g, y1, y2, y3 => bndc (fX12_size g ) (fun x1 g2 => if x1 ≤ y3 then (bnd (sI g2 44 ((g2.1 44) + (1 : Int32))) (fun g3 => bnd (y2 + (1 : Int32)) (fun x4 => k11 g3 y1 x4))) else (chk (ib y3 6) (chk (ib (((6 : Int32) * (g2.1 44)) + y3) 180) (bnd (sA g2 43 (ix (((6 : Int32) * (g2.1 44)) + y3)) (g2.2.1 21 (ix y3))) (fun g5 => bnd (y3 + (1 : Int32)) (fun x6 => fX12_laysSeen_77 k11 n g5 y1 y2 x6))))))
def fX12_laysSeen_11 : Nat → MS → Int32 → Int32 → Option (MS)
  | 0, _, _, _ => none
  | n + 1, g, y1, y2 => bndc (fX12_size g ) (fun x7 g8 => if ((10 : Int32) * x7) ≤ y2 then (some g8) else (chk (nz (10 : Int32)) (chk (nz (10 : Int32)) (bndc (fX12_whyTurn g8 ((y2 / (10 : Int32)).toInt64) ((jrem y2 (10 : Int32)).toInt64)) (fun x9 g10 => if x9 = 0 then (chk (nz (10 : Int32)) (chk (nz (10 : Int32)) (bndv (fX12_aimsBehindOne g10 (y2 / (10 : Int32)) (jrem y2 (10 : Int32))) (fun g11 => bndc (fX12_looksSo g11 y1) (fun x12 g13 => if x12 = 0 then (bnd (y2 + (1 : Int32)) (fun x15 => fX12_laysSeen_11 n g13 y1 x15)) else (chk (ib (g13.1 44) 30) (bnd (sA g13 42 (ix (g13.1 44)) y2) (fun g14 => fX12_laysSeen_77 (fX12_laysSeen_11 n) fuel g14 y1 y2 (0 : Int32))))))))) else (bnd (y2 + (1 : Int32)) (fun x16 => fX12_laysSeen_11 n g10 y1 x16)))))))
def fX12_laysSeen (g : MS) (a0 : Int32) : Option (MS) :=
  bnd (sI g 44 (0 : Int32)) (fun g17 => bndv (fX12_laysAlong g17 ) (fun g18 => fX12_laysSeen_11 fuel g18 a0 (0 : Int32)))
def fX12_seen (g : MS) (a0 : Int32) : Option (Int32 × MS) :=
  bndc (fX12_lookFault g a0) (fun x1 g2 => bnd (sI g2 4 x1) (fun g3 => if (g3.1 4) ≤ 0 then (bndv (fX12_laysSeen g3 a0) (fun g4 => some (g4.1 44, g4))) else (some ((0 : Int32), g3))))
def fX12_seenAt_25 (g : MS) (y1 : Int32) (y2 : Int32) : Option (Int32 × MS) :=
  if (g.1 4) ≤ 0 then (bndv (fX12_laysSeen g y1) (fun g1 => if (g1.1 44) ≤ y2 then (some ((-1 : Int32), g1)) else (chk (ib y2 30) (some (g1.2.1 42 (ix y2), g1))))) else (some ((0 : Int32), g))
def fX12_seenAt (g : MS) (a0 : Int32) (a1 : Int32) : Option (Int32 × MS) :=
  bndc (fX12_lookFault g a0) (fun x2 g3 => bnd (sI g3 4 x2) (fun g4 => if (g4.1 4) = 0 then (if 0 ≤ a1 then (fX12_seenAt_25 g4 a0 a1) else (bnd (sI g4 4 (3 : Int32)) (fun g5 => fX12_seenAt_25 g5 a0 a1))) else (fX12_seenAt_25 g4 a0 a1)))
def fX12_mostAlike_60 (k4 : MS → Int32 → Int32 → Int32 → Option (Int32 × MS)) (k18 : MS → Int32 → Int32 → Int32 → Int32 → Int32 → Option (Int32 × MS)) (g : MS) (y1 : Int32) (y2 : Int32) (y3 : Int32) (y5 : Int32) (t0 : Int32) (t1 : Int32) : Option (Int32 × MS) :=
  bnd (t0 + t1) (fun x1 => bnd (y5 + (1 : Int32)) (fun x2 => k18 g y1 y2 y3 x1 x2))
def fX12_mostAlike_18 (k4 : MS → Int32 → Int32 → Int32 → Option (Int32 × MS)) : Nat → MS → Int32 → Int32 → Int32 → Int32 → Int32 → Option (Int32 × MS)
  | 0, _, _, _, _, _, _ => none
  | n + 1, g, y1, y2, y3, y4, y5 => if (g.1 44) ≤ y5 then (bnd (jmax y2 y4) (fun x3 => bnd (y3 + (1 : Int32)) (fun x4 => k4 g y1 x3 x4))) else (chk (ib (((6 : Int32) * y5) + y1) 180) (chk (ib (((6 : Int32) * y3) + y1) 180) (if (g.2.1 43 (ix (((6 : Int32) * y5) + y1))) = (g.2.1 43 (ix (((6 : Int32) * y3) + y1))) then (fX12_mostAlike_60 k4 (fX12_mostAlike_18 k4 n) g y1 y2 y3 y5 y4 (1 : Int32)) else (fX12_mostAlike_60 k4 (fX12_mostAlike_18 k4 n) g y1 y2 y3 y5 y4 (0 : Int32)))))
def fX12_mostAlike_4 : Nat → MS → Int32 → Int32 → Int32 → Option (Int32 × MS)
  | 0, _, _, _, _ => none
  | n + 1, g, y1, y2, y3 => if (g.1 44) ≤ y3 then (some (y2, g)) else (fX12_mostAlike_18 (fX12_mostAlike_4 n) fuel g y1 y2 y3 (0 : Int32) (0 : Int32))
def fX12_mostAlike (g : MS) (a0 : Int32) : Option (Int32 × MS) :=
  fX12_mostAlike_4 fuel g a0 (0 : Int32) (0 : Int32)
def fX12_ask_32 : Nat → MS → Int32 → Int32 → Int32 → Int32 → Option (Int32 × MS)
  | 0, _, _, _, _, _ => none
  | n + 1, g, y1, y2, y3, y4 => bndc (fX12_size g ) (fun x1 g2 => if x1 ≤ y4 then (some (y2, g2)) else (if (g2.1 44) ≤ 0 then (some (y2, g2)) else (chk (ib (((30 : Int32) * y1) + y4) 120) (if (lg_cmp (g2.2.2 (ix (((30 : Int32) * y1) + y4))) (-1 : Int64)) = 0 then (bndc (fX12_mostAlike g2 y4) (fun x4 g5 => if x4 < y3 then (bndc (fX12_mostAlike g5 y4) (fun x6 g7 => bnd (y4 + (1 : Int32)) (fun x8 => fX12_ask_32 n g7 y1 y4 x6 x8))) else (bnd (y4 + (1 : Int32)) (fun x9 => fX12_ask_32 n g5 y1 y2 y3 x9)))) else (bnd (y4 + (1 : Int32)) (fun x3 => fX12_ask_32 n g2 y1 y2 y3 x3))))))
def fX12_ask (g : MS) (a0 : Int32) : Option (Int32 × MS) :=
  bndc (fX12_lookFault g a0) (fun x10 g11 => bnd (sI g11 4 x10) (fun g12 => if (g12.1 4) ≤ 0 then (bndv (fX12_laysSeen g12 a0) (fun g13 => fX12_ask_32 fuel g13 a0 (-1 : Int32) (536870912 : Int32) (0 : Int32))) else (some ((0 : Int32), g12))))
def fX12_loose_26 (k4 : MS → Int32 → Int32 → Option (Int32 × MS)) (g : MS) (y2 : Int32) (t0 : Int32) (t1 : Int32) : Option (Int32 × MS) :=
  bnd (t0 + t1) (fun x1 => bnd (y2 + (1 : Int32)) (fun x2 => k4 g x1 x2))
def fX12_loose_4 : Nat → MS → Int32 → Int32 → Option (Int32 × MS)
  | 0, _, _, _ => none
  | n + 1, g, y1, y2 => bndc (fX12_size g ) (fun x3 g4 => if x3 ≤ y2 then (some (y1, g4)) else (bndc (fX12_isStuck g4 y2) (fun x5 g6 => if x5 = 0 then (fX12_loose_26 (fX12_loose_4 n) g6 y2 y1 (1 : Int32)) else (fX12_loose_26 (fX12_loose_4 n) g6 y2 y1 (0 : Int32)))))
def fX12_loose (g : MS) : Option (Int32 × MS) :=
  fX12_loose_4 fuel g (0 : Int32) (0 : Int32)
def fX12_goesChance_38 (r_goesChance : MS → Int32 → Option (MS)) : Nat → MS → Int32 → Int32 → Option (MS)
  | 0, _, _, _ => none
  | n + 1, g, y1, y2 => bndc (fX12_size g ) (fun x1 g2 => if x1 ≤ y2 then (some g2) else (bndc (fX12_isStuck g2 y2) (fun x3 g4 => if x3 = 0 then (chk (ib y2 6) (chk (ib y2 6) (bnd (sA g4 26 (ix y2) ((g4.2.1 26 (ix y2)) + (1 : Int32))) (fun g5 => bndv (r_goesChance g5 (y1 - (1 : Int32))) (fun g6 => chk (ib y2 6) (chk (ib y2 6) (bnd (sA g6 26 (ix y2) ((g6.2.1 26 (ix y2)) - (1 : Int32))) (fun g7 => bnd (y2 + (1 : Int32)) (fun x8 => fX12_goesChance_38 r_goesChance n g7 y1 x8))))))))) else (bnd (y2 + (1 : Int32)) (fun x9 => fX12_goesChance_38 r_goesChance n g4 y1 x9)))))
def fX12_goesChance_11 (r_goesChance : MS → Int32 → Option (MS)) (g : MS) : Option (MS) :=
  bndv (fX12_aimsBehind g ) (fun g10 => bndc (fX12_chairBy g10 ) (fun x11 g12 => if x11 = (-1 : Int32) then (some g12) else (chk (ib x11 6) (chk (ib x11 6) (bnd (sA g12 30 (ix x11) ((g12.2.1 30 (ix x11)) + (1 : Int32))) (fun g13 => some g13))))))
def fX12_goesChanceB (r_goesChance : MS → Int32 → Option (MS)) (g : MS) (a0 : Int32) : Option (MS) :=
  if a0 = 0 then (fX12_goesChance_11 r_goesChance g) else (bndc (fX12_loose g ) (fun x14 g15 => if x14 = 0 then (fX12_goesChance_11 r_goesChance g15) else (fX12_goesChance_38 r_goesChance fuel g15 a0 (0 : Int32))))
def fX12_goesChanceD : Nat → MS → Int32 → Option (MS)
  | 0, _, _ => none
  | n + 1, g, a0 => fX12_goesChanceB (fX12_goesChanceD n) g a0
def fX12_goesChance (g : MS) (a0 : Int32) : Option (MS) := fX12_goesChanceD 12 g a0
def fX12_laysChance_2 : Nat → MS → Int32 → Int32 → Option (MS)
  | 0, _, _, _ => none
  | n + 1, g, y1, y2 => if (6 : Int32) ≤ y2 then (bndv (fX12_laysAlong g ) (fun g1 => bndv (fX12_goesChance g1 y1) (fun g2 => some g2))) else (chk (ib y2 6) (bnd (sA g 30 (ix y2) (0 : Int32)) (fun g3 => chk (ib y2 6) (bnd (sA g3 26 (ix y2) (0 : Int32)) (fun g4 => bnd (y2 + (1 : Int32)) (fun x5 => fX12_laysChance_2 n g4 y1 x5))))))
def fX12_laysChance (g : MS) (a0 : Int32) : Option (MS) :=
  fX12_laysChance_2 fuel g a0 (0 : Int32)
def fX12_common_4 : Nat → Int32 → Int32 → Option (Int32)
  | 0, _, _ => none
  | n + 1, y2, y3 => if y3 = 0 then (some y2) else (chk (nz y3) (bnd (jrem y2 y3) (fun x1 => fX12_common_4 n y3 x1)))
def fX12_common (a0 : Int32) (a1 : Int32) : Option (Int32) :=
  fX12_common_4 fuel a0 a1
def fX12_chance_92 (g : MS) (y1 : Int32) (y3 : Int32) (y4 : Int32) : Option (Int32 × MS) :=
  chk (ib y1 6) (bndv (fX12_common y4 (g.2.1 30 (ix y1))) (fun x1 => if y3 = 0 then (chk (ib y1 6) (chk (nz x1) (some ((g.2.1 30 (ix y1)) / x1, g)))) else (chk (nz x1) (some (y4 / x1, g)))))
def fX12_chance_64 : Nat → MS → Int32 → Int32 → Int32 → Int32 → Int32 → Option (Int32 × MS)
  | 0, _, _, _, _, _, _ => none
  | n + 1, g, y1, y2, y3, y4, y5 => if y2 ≤ y5 then (fX12_chance_92 g y1 y3 y4) else (bndc (fX12_loose g ) (fun x2 g3 => if x2 ≤ 0 then (fX12_chance_92 g3 y1 y3 y4) else (bndc (fX12_loose g3 ) (fun x4 g5 => bnd (y4 * x4) (fun x6 => bnd (y5 + (1 : Int32)) (fun x7 => fX12_chance_64 n g5 y1 y2 y3 x6 x7))))))
def fX12_chance_41 (g : MS) (y1 : Int32) (y2 : Int32) (y3 : Int32) (t1 : Int32) : Option (Int32 × MS) :=
  bnd (sI g 4 t1) (fun g8 => if (g8.1 4) ≤ 0 then (bndv (fX12_laysChance g8 y2) (fun g9 => fX12_chance_64 fuel g9 y1 y2 y3 (1 : Int32) (0 : Int32))) else (some ((0 : Int32), g8)))
def fX12_chance_40 (g : MS) (y1 : Int32) (y2 : Int32) (y3 : Int32) : Option (Int32 × MS) :=
  fX12_chance_41 g y1 y2 y3 (2 : Int32)
def fX12_chance (g : MS) (a0 : Int32) (a1 : Int32) (a2 : Int32) : Option (Int32 × MS) :=
  bndc (fX12_isMember g a0.toInt64) (fun x10 g11 => if x10 = 0 then (fX12_chance_41 g11 a0 a1 a2 (1 : Int32)) else (bndv (fX12_within a1.toInt64 (0 : Int64) (6 : Int64)) (fun x12 => if x12 = 0 then (fX12_chance_40 g11 a0 a1 a2) else (bndv (fX12_within a2.toInt64 (0 : Int64) (1 : Int64)) (fun x13 => if x13 = 0 then (fX12_chance_40 g11 a0 a1 a2) else (fX12_chance_41 g11 a0 a1 a2 (0 : Int32)))))))
def fX12_likeliest_61 (k32 : MS → Int32 → Int32 → Option (Int32 × MS)) (g : MS) (y2 : Int32) (y3 : Int32) (t0 : Int32) (t1 : Int32) : Option (Int32 × MS) :=
  if t0 ≤ t1 then (bnd (y3 + (1 : Int32)) (fun x1 => k32 g y2 x1)) else (bnd (y3 + (1 : Int32)) (fun x2 => k32 g y3 x2))
def fX12_likeliest_32 : Nat → MS → Int32 → Int32 → Option (Int32 × MS)
  | 0, _, _, _ => none
  | n + 1, g, y2, y3 => bndc (fX12_size g ) (fun x3 g4 => if x3 ≤ y3 then (some (y2, g4)) else (chk (ib y3 6) (if y2 = (-1 : Int32) then (fX12_likeliest_61 (fX12_likeliest_32 n) g4 y2 y3 (g4.2.1 30 (ix y3)) (0 : Int32)) else (chk (ib y2 6) (fX12_likeliest_61 (fX12_likeliest_32 n) g4 y2 y3 (g4.2.1 30 (ix y3)) (g4.2.1 30 (ix y2)))))))
def fX12_likeliest (g : MS) (a0 : Int32) : Option (Int32 × MS) :=
  bnd (sI g 4 (0 : Int32)) (fun g5 => bndv (fX12_within a0.toInt64 (0 : Int64) (6 : Int64)) (fun x6 => if x6 = 0 then (bndc (fX12_fails g5 (1 : Int32)) (fun x8 g9 => some (x8, g9))) else (bndv (fX12_laysChance g5 a0) (fun g7 => fX12_likeliest_32 fuel g7 (-1 : Int32) (0 : Int32)))))
def fX12_tray_69 : Nat → MS → Int32 → Int32 → Option (MS)
  | 0, _, _, _ => none
  | n + 1, g, y1, y4 => if (30 : Int32) ≤ y4 then (some g) else (chk (ib (((30 : Int32) * y1) + y4) 120) (bnd (sL g (ix (((30 : Int32) * y1) + y4)) (0 : Int64)) (fun g1 => bnd (y4 + (1 : Int32)) (fun x2 => fX12_tray_69 n g1 y1 x2))))
def fX12_tray_41 (g : MS) (y1 : Int32) (y2 : Int32) (y3 : Int32) (t1 : Int32) : Option (MS) :=
  bnd (sI g 4 t1) (fun g3 => if (g3.1 4) ≤ 0 then (chk (ib y1 4) (bnd (sA g3 45 (ix y1) y2) (fun g4 => chk (ib y1 4) (bnd (sA g4 46 (ix y1) y3) (fun g5 => fX12_tray_69 fuel g5 y1 (0 : Int32)))))) else (some g3))
def fX12_tray_36 (g : MS) (y1 : Int32) (y2 : Int32) (y3 : Int32) : Option (MS) :=
  fX12_tray_41 g y1 y2 y3 (2 : Int32)
def fX12_tray (g : MS) (a0 : Int32) (a1 : Int32) (a2 : Int32) : Option (MS) :=
  bndv (fX12_isTray a0) (fun x6 => if x6 = 0 then (fX12_tray_41 g a0 a1 a2 (1 : Int32)) else (bndv (fX12_within a1.toInt64 (0 : Int64) (3 : Int64)) (fun x7 => if x7 = 0 then (fX12_tray_36 g a0 a1 a2) else (bndv (fX12_within a2.toInt64 (0 : Int64) (30 : Int64)) (fun x8 => if x8 = 0 then (fX12_tray_36 g a0 a1 a2) else (fX12_tray_41 g a0 a1 a2 (0 : Int32)))))))
def fX12_cut (g : MS) (a0 : Int32) (a1 : Int32) (a2 : Int64) : Option (Int64 × MS) :=
  chk (ib a0 4) (bnd ((64 : Int32) - (jshl (8 : Int32) (g.2.1 45 (ix a0)))) (fun x1 => chk (ib (((30 : Int32) * a0) + a1) 120) (bnd (sL g (ix (((30 : Int32) * a0) + a1)) (jshrL (jshlL a2 x1) x1)) (fun g2 => chk (ib (((30 : Int32) * a0) + a1) 120) (some (g2.2.2 (ix (((30 : Int32) * a0) + a1)), g2))))))
def fX12_write (g : MS) (a0 : Int32) (a1 : Int32) (a2 : Int64) : Option (Int64 × MS) :=
  bndc (fX12_trayFault g a0) (fun x1 g2 => bnd (sI g2 4 x1) (fun g3 => if (g3.1 4) ≤ 0 then (chk (ib a0 4) (bndv (fX12_within a1.toInt64 (0 : Int64) (((g3.2.1 46 (ix a0)) - (1 : Int32)).toInt64)) (fun x4 => if x4 = 0 then (bndc (fX12_fails g3 (3 : Int32)) (fun x5 g6 => some (x5.toInt64, g6))) else (bndc (fX12_cut g3 a0 a1 a2) (fun x7 g8 => some (x7, g8)))))) else (some ((0 : Int64), g3))))
def fX12_copy_59 : Nat → MS → Int32 → Int32 → Int32 → Option (Int32 × MS)
  | 0, _, _, _, _ => none
  | n + 1, g, y1, y3, y4 => if y3 ≤ y4 then (some (y3, g)) else (chk (ib y4 6) (bndc (fX12_cut g y1 y4 ((g.2.1 21 (ix y4)).toInt64)) (fun x1 g2 => bnd (y4 + (1 : Int32)) (fun x3 => fX12_copy_59 n g2 y1 y3 x3))))
def fX12_copy_28 (g : MS) (y1 : Int32) (y2 : Int32) : Option (Int32 × MS) :=
  if (g.1 4) ≤ 0 then (bndv (fX12_aimsIn g y2) (fun g4 => chk (ib y1 4) (bndc (fX12_size g4 ) (fun x5 g6 => bnd (jmin (g4.2.1 46 (ix y1)) x5) (fun x7 => fX12_copy_59 fuel g6 y1 x7 (0 : Int32)))))) else (some ((0 : Int32), g))
def fX12_copy (g : MS) (a0 : Int32) (a1 : Int32) : Option (Int32 × MS) :=
  bndc (fX12_trayFault g a0) (fun x8 g9 => bnd (sI g9 4 x8) (fun g10 => if (g10.1 4) = 0 then (bndv (fX12_isFar a1) (fun x11 => if x11 = 0 then (bnd (sI g10 4 (3 : Int32)) (fun g12 => fX12_copy_28 g12 a0 a1)) else (fX12_copy_28 g10 a0 a1))) else (fX12_copy_28 g10 a0 a1)))
def fX12_image_38 : Nat → MS → Int32 → Int32 → Option (MS)
  | 0, _, _, _ => none
  | n + 1, g, y1, y2 => if (2850 : Int32) ≤ y2 then (some g) else (chk (ib y2 2850) (chk (ib (((2850 : Int32) * y1) + y2) 8550) (bnd (sA g 2 (ix (((2850 : Int32) * y1) + y2)) (g.2.1 0 (ix y2))) (fun g1 => bnd (y2 + (1 : Int32)) (fun x2 => fX12_image_38 n g1 y1 x2)))))
def fX12_image_18 (g : MS) (y1 : Int32) (t1 : Int32) : Option (MS) :=
  bnd (sI g 4 t1) (fun g3 => if (g3.1 4) ≤ 0 then (chk (ib y1 3) (bnd (sA g3 3 (ix y1) (1 : Int32)) (fun g4 => fX12_image_38 fuel g4 y1 (0 : Int32)))) else (some g3))
def fX12_image (g : MS) (a0 : Int32) : Option (MS) :=
  bndv (fX12_within a0.toInt64 (0 : Int64) (2 : Int64)) (fun x5 => if x5 = 0 then (fX12_image_18 g a0 (1 : Int32)) else (fX12_image_18 g a0 (0 : Int32)))
def fX12_restore_44 : Nat → MS → Int32 → Int32 → Option (MS)
  | 0, _, _, _ => none
  | n + 1, g, y1, y2 => if (2850 : Int32) ≤ y2 then (some g) else (chk (ib (((2850 : Int32) * y1) + y2) 8550) (chk (ib y2 2850) (bnd (sA g 0 (ix y2) (g.2.1 2 (ix (((2850 : Int32) * y1) + y2)))) (fun g1 => bnd (y2 + (1 : Int32)) (fun x2 => fX12_restore_44 n g1 y1 x2)))))
def fX12_restore_31 (g : MS) (y1 : Int32) (t1 : Int32) : Option (MS) :=
  bnd (sI g 4 t1) (fun g3 => if (g3.1 4) ≤ 0 then (fX12_restore_44 fuel g3 y1 (0 : Int32)) else (some g3))
def fX12_restore (g : MS) (a0 : Int32) : Option (MS) :=
  bndv (fX12_within a0.toInt64 (0 : Int64) (2 : Int64)) (fun x4 => if x4 = 0 then (fX12_restore_31 g a0 (1 : Int32)) else (chk (ib a0 3) (if (g.2.1 3 (ix a0)) = 0 then (fX12_restore_31 g a0 (2 : Int32)) else (fX12_restore_31 g a0 (0 : Int32)))))
def fX12_outs_32 (k4 : MS → Int32 → Int32 → Option (Int32 × MS)) (g : MS) (y2 : Int32) (t0 : Int32) (t1 : Int32) : Option (Int32 × MS) :=
  bnd (t0 ||| t1) (fun x1 => bnd (y2 + (1 : Int32)) (fun x2 => k4 g x1 x2))
def fX12_outs_4 : Nat → MS → Int32 → Int32 → Option (Int32 × MS)
  | 0, _, _, _ => none
  | n + 1, g, y1, y2 => bndc (fX12_size g ) (fun x3 g4 => if x3 ≤ y2 then (some (y1, g4)) else (chk (ib ((6 : Int32) + y2) 2850) (if (g4.2.1 0 (ix ((6 : Int32) + y2))) = 0 then (fX12_outs_32 (fX12_outs_4 n) g4 y2 y1 (jshl (1 : Int32) y2)) else (fX12_outs_32 (fX12_outs_4 n) g4 y2 y1 (0 : Int32)))))
def fX12_outs (g : MS) : Option (Int32 × MS) :=
  fX12_outs_4 fuel g (0 : Int32) (0 : Int32)
def fX12_weights_4 : Nat → MS → Int32 → Int32 → Option (Int32 × MS)
  | 0, _, _, _ => none
  | n + 1, g, y1, y2 => bndc (fX12_size g ) (fun x1 g2 => if x1 ≤ y2 then (some (y1, g2)) else (chk (ib ((12 : Int32) + y2) 2850) (bnd (y1 + (g2.2.1 0 (ix ((12 : Int32) + y2)))) (fun x3 => bnd (y2 + (1 : Int32)) (fun x4 => fX12_weights_4 n g2 x3 x4)))))
def fX12_weights (g : MS) : Option (Int32 × MS) :=
  fX12_weights_4 fuel g (0 : Int32) (0 : Int32)
def fX12_count (g : MS) (a0 : Int32) : Option (Int32 × MS) :=
  bnd (sI g 4 (0 : Int32)) (fun g1 => bndv (fX12_aimsNow g1 ) (fun g2 => if a0 = (0 : Int32) then (chk (ib (0 : Int32) 2850) (some (g2.2.1 0 (ix (0 : Int32)), g2))) else (if a0 = (1 : Int32) then (bndc (fX12_size g2 ) (fun x3 g4 => some (x3, g4))) else (if a0 = (2 : Int32) then (chk (ib (18 : Int32) 2850) (some (g2.2.1 0 (ix (18 : Int32)), g2))) else (if a0 = (3 : Int32) then (bndc (fX12_outs g2 ) (fun x5 g6 => some (x5, g6))) else (if a0 = (4 : Int32) then (bndc (fX12_kneesBy g2 ) (fun x7 g8 => some (x7, g8))) else (if a0 = (5 : Int32) then (bndc (fX12_weights g2 ) (fun x9 g10 => some (x9, g10))) else (if a0 = (6 : Int32) then (chk (ib (5 : Int32) 2850) (some (g2.2.1 0 (ix (5 : Int32)), g2))) else (if a0 = (7 : Int32) then (some (g2.1 6, g2)) else (some ((-1 : Int32), g2)))))))))))
