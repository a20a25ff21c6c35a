/-! what each method does, as a function; by wip/whole/gen/emit.py out of the bytecode -/
def f_X0_begin (b0 : Nat) (a1 : Int32) (M : Mem) : Option (Mem) :=
  if 100 ≤ (M b0 6) then some M else (wr M (b0 + 1) 100 (M b0 6) a1).bind fun M2 => (wr M2 (b0 + 3) 100 (M2 b0 6) 0).bind fun M3 => (wr M3 (b0 + 4) 100 (M3 b0 6) 0).bind fun M4 => (wr M4 (b0 + 5) 100 (M4 b0 6) 0).bind fun M5 => (stf M5 b0 6 ((M5 b0 6) + 1)).bind fun M6 => some M6
def f_J9_floorMod_7cf53 (a0 : Int32) (a1 : Int32) (M : Mem) : Option (Int32) :=
  (rmI a0 a1).bind fun x1 => if 0 ≤ (a0 ^^^ a1) then some x1 else if x1 = 0 then some x1 else some (x1 + a1)
def f_X8_isRest (g0 : Nat) (a0 : Int32) (M : Mem) : Option (Int32) :=
  (rd M g0 10 2).bind fun x1 => (f_J9_floorMod_7cf53 (a0 - x1) 60 M).bind fun r2 => (rd M g0 10 3).bind fun x3 => if x3 ≤ r2 then some 0 else some 1
def f_X8_limitAt (g0 : Nat) (a0 : Int32) (M : Mem) : Option (Int32) :=
  (f_X8_isRest g0 a0 M).bind fun r1 => if r1 = 0 then (rd M g0 10 0).bind fun x3 => some x3 else (rd M g0 10 1).bind fun x4 => some x4
def f_X0_extend (b0 : Nat) (a1 : Int32) (a2 : Int32) (a3 : Int32) (M : Mem) : Option (Mem) :=
  if ((M b0 6) - 1) < 0 then some M else (wr M (b0 + 2) 100 ((M b0 6) - 1) a1).bind fun M2 => (rd M2 (b0 + 3) 100 ((M b0 6) - 1)).bind fun x3 => (wr M2 (b0 + 3) 100 ((M b0 6) - 1) (x3 + 1)).bind fun M4 => (rd M4 (b0 + 4) 100 ((M b0 6) - 1)).bind fun x5 => (wr M4 (b0 + 4) 100 ((M b0 6) - 1) (mxI x5 a2)).bind fun M6 => (rd M6 (b0 + 5) 100 ((M b0 6) - 1)).bind fun x7 => (wr M6 (b0 + 5) 100 ((M b0 6) - 1) (x7 + a3)).bind fun M8 => some M8
def f_X0_markOwners_l17 (b0 : Nat) (v1 : Int32) (z : Int32 × Mem) : Option ((Int32 × Mem) ⊕ (Mem)) :=
  (rd z.2 (b0 + 2) 100 v1).bind fun x3 => if x3 < z.1 then some (.inr z.2) else (wr z.2 (b0 + 6) 200 z.1 v1).bind fun M5 => some (.inl ((z.1 + 1), M5))
def f_X0_markOwners_l2 (b0 : Nat) (z : Int32 × Mem) : Option ((Int32 × Mem) ⊕ (Mem)) :=
  if (z.2 b0 6) ≤ z.1 then some (.inr z.2) else (rd z.2 (b0 + 1) 100 z.1).bind fun x2 => (loopN (f_X0_markOwners_l17 b0 z.1) FU (x2, z.2)).bind fun o6 => some (.inl ((z.1 + 1), o6))
def f_X0_markOwners (b0 : Nat) (M : Mem) : Option (Mem) :=
  (loopN (f_X0_markOwners_l2 b0) FU (0, M)).bind fun o7 => some o7
def f_X0_find_j98 (b0 : Nat) (b1 : Nat) (g2 : Nat) (v3 : Int32) (v4 : Int32) (v5 : Int32) (M : Mem) : Option ((Int32 × Int32 × Mem) ⊕ (Int32 × Mem)) :=
  some (.inl (v4, (v5 + 1), M))
def f_X0_find_j55 (b0 : Nat) (b1 : Nat) (g2 : Nat) (v3 : Int32) (v5 : Int32) (M : Mem) : Option ((Int32 × Int32 × Mem) ⊕ (Int32 × Mem)) :=
  (rd M (b1 + 2) 200 v5).bind fun x8 => (f_X8_limitAt g2 v5 M).bind fun r9 => (rd M (b1 + 1) 200 v5).bind fun x10 => (f_X0_extend b0 v5 x10 (x8 - (10 * r9)) M).bind fun r11 => f_X0_find_j98 b0 b1 g2 v3 0 v5 r11
def f_X0_find_l16 (b0 : Nat) (b1 : Nat) (g2 : Nat) (v3 : Int32) (z : Int32 × Int32 × Mem) : Option ((Int32 × Int32 × Mem) ⊕ (Int32 × Mem)) :=
  if (z.2.2 b1 3) ≤ z.2.1 then some (.inr (z.1, z.2.2)) else (wr z.2.2 (b0 + 6) 200 z.2.1 (-1)).bind fun M4 => (rd M4 (b1 + 3) 200 z.2.1).bind fun x5 => if x5 = 0 then if z.1 < v3 then f_X0_find_j55 b0 b1 g2 v3 z.2.1 M4 else (f_X0_begin b0 z.2.1 M4).bind fun r12 => f_X0_find_j55 b0 b1 g2 v3 z.2.1 r12 else f_X0_find_j98 b0 b1 g2 v3 (z.1 + 1) z.2.1 M4
def f_X0_find_j116 (b0 : Nat) (b1 : Nat) (g2 : Nat) (s1 : Int32) (M : Mem) : Option (Mem) :=
  (stz M b0 7 s1).bind fun M15 => (f_X0_markOwners b0 M15).bind fun r16 => some r16
def f_X0_find (b0 : Nat) (b1 : Nat) (g2 : Nat) (M : Mem) : Option (Mem) :=
  (rd M g2 10 6).bind fun x1 => (stf M b0 6 0).bind fun M2 => (loopN (f_X0_find_l16 b0 b1 g2 x1) FU (x1, 0, M2)).bind fun o13 => if x1 ≤ o13.1 then f_X0_find_j116 b0 b1 g2 0 o13.2 else f_X0_find_j116 b0 b1 g2 1 o13.2
def f_X0_weightOfAll_l4 (b0 : Nat) (M : Mem) (z : Int32 × Int32) : Option ((Int32 × Int32) ⊕ (Int32)) :=
  if (M b0 6) ≤ z.2 then some (.inr z.1) else (rd M (b0 + 5) 100 z.2).bind fun x2 => some (.inl ((z.1 + x2), (z.2 + 1)))
def f_X0_weightOfAll (b0 : Nat) (M : Mem) : Option (Int32) :=
  (loopN (f_X0_weightOfAll_l4 b0 M) FU (0, 0)).bind fun o3 => some o3
def f_X0_heaviest_j34 (b0 : Nat) (v1 : Int32) (v2 : Int32) (M : Mem) : Option ((Int32 × Int32) ⊕ (Int32)) :=
  some (.inl (v1, (v2 + 1)))
def f_X0_heaviest_j32 (b0 : Nat) (v2 : Int32) (M : Mem) : Option ((Int32 × Int32) ⊕ (Int32)) :=
  f_X0_heaviest_j34 b0 v2 v2 M
def f_X0_heaviest_l4 (b0 : Nat) (M : Mem) (z : Int32 × Int32) : Option ((Int32 × Int32) ⊕ (Int32)) :=
  if (M b0 6) ≤ z.2 then some (.inr z.1) else if z.1 = (-1) then f_X0_heaviest_j32 b0 z.2 M else (rd M (b0 + 5) 100 z.2).bind fun x3 => (rd M (b0 + 5) 100 z.1).bind fun x4 => if x3 ≤ x4 then f_X0_heaviest_j34 b0 z.1 z.2 M else f_X0_heaviest_j32 b0 z.2 M
def f_X0_heaviest (b0 : Nat) (M : Mem) : Option (Int32) :=
  (loopN (f_X0_heaviest_l4 b0 M) FU ((-1), 0)).bind fun o6 => some o6
def f_X5_takeOver (b0 : Nat) (b1 : Nat) (M : Mem) : Option (Mem) :=
  (cpy M (b1 + 1) 200 0 (b0 + 1) 200 0 200).bind fun M1 => (cpy M1 (b1 + 2) 200 0 (b0 + 2) 200 0 200).bind fun M2 => (cpy M2 (b1 + 3) 10 0 (b0 + 3) 10 0 10).bind fun M3 => (cpy M3 (b1 + 4) 20 0 (b0 + 4) 20 0 20).bind fun M4 => (stf M4 b0 4 (M4 b1 4)).bind fun M5 => (stf M5 b0 5 (M5 b1 5)).bind fun M6 => some M6
def f_X1_keep (b0 : Nat) (M : Mem) : Option (Mem) :=
  (rgI (M 46 1)).bind fun k1 => (f_X5_takeOver (6 + 5 * k1) b0 M).bind fun r2 => (rmI ((r2 46 1) + 1) 8).bind fun x3 => (stf r2 46 1 x3).bind fun M4 => (stf M4 46 2 (mnI ((M4 46 2) + 1) 8)).bind fun M5 => some M5
def f_X4_isCounted_j19 (b0 : Nat) (M : Mem) : Option (Int32) :=
  some 1
def f_X4_isCounted (b0 : Nat) (a1 : Int32) (M : Mem) : Option (Int32) :=
  (rd M (b0 + 3) 200 a1).bind fun x1 => if x1 = 0 then f_X4_isCounted_j19 b0 M else (rd M (b0 + 3) 200 a1).bind fun x3 => if x3 = 3 then f_X4_isCounted_j19 b0 M else some 0
def f_X2_highestReached (a0 : Int32) (M : Mem) : Option (Int32) :=
  (dvI a0 10).bind fun x1 => some (mxI (0 : Int32) (mnI (140 : Int32) x1))
def f_X2_tally_l2 (b0 : Nat) (z : Int32 × Mem) : Option ((Int32 × Mem) ⊕ (Mem)) :=
  if 140 < z.1 then some (.inr z.2) else (wr z.2 89 141 z.1 0).bind fun M2 => some (.inl ((z.1 + 1), M2))
def f_X2_tally_j58 (b0 : Nat) (v2 : Int32) (M : Mem) : Option ((Int32 × Mem) ⊕ (Mem)) :=
  some (.inl ((v2 + 1), M))
def f_X2_tally_l24 (b0 : Nat) (z : Int32 × Mem) : Option ((Int32 × Mem) ⊕ (Mem)) :=
  if (z.2 b0 3) ≤ z.1 then some (.inr z.2) else (f_X4_isCounted b0 z.1 z.2).bind fun r5 => if r5 = 0 then f_X2_tally_j58 b0 z.1 z.2 else (rd z.2 (b0 + 1) 200 z.1).bind fun x7 => (f_X2_highestReached x7 z.2).bind fun r8 => (rd z.2 89 141 r8).bind fun x9 => (wr z.2 89 141 r8 (x9 + 1)).bind fun M10 => f_X2_tally_j58 b0 z.1 M10
def f_X2_tally_l68 (b0 : Nat) (z : Int32 × Mem) : Option ((Int32 × Mem) ⊕ (Mem)) :=
  if z.1 < 0 then some (.inr z.2) else (rd z.2 89 141 z.1).bind fun x13 => (rd z.2 89 141 (z.1 + 1)).bind fun x14 => (wr z.2 89 141 z.1 (x13 + x14)).bind fun M15 => some (.inl ((z.1 + (-1)), M15))
def f_X2_tally (b0 : Nat) (M : Mem) : Option (Mem) :=
  (loopN (f_X2_tally_l2 b0) FU (0, M)).bind fun o3 => (loopN (f_X2_tally_l24 b0) FU (0, o3)).bind fun o11 => (loopN (f_X2_tally_l68 b0) FU (139, o11)).bind fun o16 => some o16
def f_X2_levelOfPercent_l11 (v1 : Int32) (v2 : Int32) (M : Mem) (z : Int32) : Option ((Int32) ⊕ ((Unit) ⊕ (Int32))) :=
  if z ≤ 0 then some (.inr (.inl ())) else (rd M 89 141 z).bind fun x3 => if (x3 * 100) < (v1 * v2) then some (.inl (z + (-1))) else some (.inr (.inr z))
def f_X2_levelOfPercent (a1 : Int32) (a2 : Int32) (M : Mem) : Option (Int32) :=
  if 1 ≤ a2 then (loopN (f_X2_levelOfPercent_l11 a1 a2 M) FU 140).bind fun o5 => Sum.elim (fun o5 => some 0) (fun r6 => some r6) o5 else some (-1)
def f_X3_putInOrder_l20 (b0 : Nat) (b1 : Nat) (v2 : Int32) (v3 : Int32) (z : Int32 × Mem) : Option ((Int32 × Mem) ⊕ (Int32 × Mem)) :=
  if z.1 ≤ 0 then some (.inr (z.1, z.2)) else (rd z.2 (b0 + 3) 20 (z.1 - 1)).bind fun x4 => (rd z.2 (b1 + 4) 20 x4).bind fun x5 => if x5 ≤ v3 then some (.inr (z.1, z.2)) else (rd z.2 (b0 + 3) 20 (z.1 - 1)).bind fun x7 => (wr z.2 (b0 + 3) 20 z.1 x7).bind fun M8 => some (.inl ((z.1 + (-1)), M8))
def f_X3_putInOrder_j65 (b0 : Nat) (b1 : Nat) (v2 : Int32) (v4 : Int32) (M : Mem) : Option ((Int32 × Mem) ⊕ (Mem)) :=
  (wr M (b0 + 3) 20 v4 v2).bind fun M10 => some (.inl ((v2 + 1), M10))
def f_X3_putInOrder_l2 (b0 : Nat) (b1 : Nat) (z : Int32 × Mem) : Option ((Int32 × Mem) ⊕ (Mem)) :=
  if (z.2 b0 3) ≤ z.1 then some (.inr z.2) else (rd z.2 (b1 + 4) 20 z.1).bind fun x2 => (loopN (f_X3_putInOrder_l20 b0 b1 z.1 x2) FU (z.1, z.2)).bind fun o9 => f_X3_putInOrder_j65 b0 b1 z.1 o9.1 o9.2
def f_X3_putInOrder (b0 : Nat) (b1 : Nat) (M : Mem) : Option (Mem) :=
  (loopN (f_X3_putInOrder_l2 b0 b1) FU (0, M)).bind fun o11 => some o11
def f_X3_bestFor_j101 (b0 : Nat) (b1 : Nat) (v1 : Int32) (v3 : Int32) (v4 : Int32) (v5 : Int32) (M : Mem) : Option ((Int32 × Int32) ⊕ (Int32)) :=
  some (.inl (v4, (v5 + 1)))
def f_X3_bestFor_j97 (b0 : Nat) (b1 : Nat) (v1 : Int32) (v3 : Int32) (v5 : Int32) (M : Mem) : Option ((Int32 × Int32) ⊕ (Int32)) :=
  f_X3_bestFor_j101 b0 b1 v1 v3 v5 v5 M
def f_X3_bestFor_j62 (b0 : Nat) (b1 : Nat) (v1 : Int32) (v3 : Int32) (v4 : Int32) (v5 : Int32) (v6 : Int32) (s0 : Int32) (M : Mem) : Option ((Int32 × Int32) ⊕ (Int32)) :=
  if v6 = 0 then f_X3_bestFor_j101 b0 b1 v1 v3 v4 v5 M else if s0 = 0 then f_X3_bestFor_j101 b0 b1 v1 v3 v4 v5 M else if v4 = (-1) then f_X3_bestFor_j97 b0 b1 v1 v3 v5 M else (rd M (b1 + 4) 100 v5).bind fun x9 => (rd M (b1 + 4) 100 v4).bind fun x10 => if x9 ≤ x10 then f_X3_bestFor_j101 b0 b1 v1 v3 v4 v5 M else f_X3_bestFor_j97 b0 b1 v1 v3 v5 M
def f_X3_bestFor_j61 (b0 : Nat) (b1 : Nat) (v1 : Int32) (v3 : Int32) (v4 : Int32) (v5 : Int32) (v6 : Int32) (M : Mem) : Option ((Int32 × Int32) ⊕ (Int32)) :=
  f_X3_bestFor_j62 b0 b1 v1 v3 v4 v5 v6 0 M
def f_X3_bestFor_j31 (b0 : Nat) (b1 : Nat) (v1 : Int32) (v3 : Int32) (v4 : Int32) (v5 : Int32) (s0 : Int32) (M : Mem) : Option ((Int32 × Int32) ⊕ (Int32)) :=
  (rd M (b1 + 1) 100 v5).bind fun x4 => if v1 < x4 then f_X3_bestFor_j61 b0 b1 v1 v3 v4 v5 s0 M else (rd M (b1 + 2) 100 v5).bind fun x12 => if x12 < (v1 - v3) then f_X3_bestFor_j61 b0 b1 v1 v3 v4 v5 s0 M else f_X3_bestFor_j62 b0 b1 v1 v3 v4 v5 s0 1 M
def f_X3_bestFor_l6 (b0 : Nat) (b1 : Nat) (v1 : Int32) (v3 : Int32) (M : Mem) (z : Int32 × Int32) : Option ((Int32 × Int32) ⊕ (Int32)) :=
  if (M b1 6) ≤ z.2 then some (.inr z.1) else (rd M (b0 + 2) 100 z.2).bind fun x2 => if x2 = (-1) then f_X3_bestFor_j31 b0 b1 v1 v3 z.1 z.2 1 M else f_X3_bestFor_j31 b0 b1 v1 v3 z.1 z.2 0 M
def f_X3_bestFor (b0 : Nat) (b1 : Nat) (a1 : Int32) (a3 : Int32) (M : Mem) : Option (Int32) :=
  (loopN (f_X3_bestFor_l6 b0 b1 a1 a3 M) FU ((-1), 0)).bind fun o14 => some o14
def f_X3_match_l16 (b0 : Nat) (b1 : Nat) (b2 : Nat) (v3 : Int32) (z : Int32 × Mem) : Option ((Int32 × Mem) ⊕ (Mem)) :=
  if (z.2 b2 6) ≤ z.1 then some (.inr z.2) else (wr z.2 (b0 + 2) 100 z.1 (-1)).bind fun M4 => some (.inl ((z.1 + 1), M4))
def f_X3_match_j118 (b0 : Nat) (b1 : Nat) (b2 : Nat) (v3 : Int32) (v4 : Int32) (M : Mem) : Option ((Int32 × Mem) ⊕ (Mem)) :=
  some (.inl ((v4 + 1), M))
def f_X3_match_l47 (b0 : Nat) (b1 : Nat) (b2 : Nat) (v3 : Int32) (z : Int32 × Mem) : Option ((Int32 × Mem) ⊕ (Mem)) :=
  if (z.2 b0 3) ≤ z.1 then some (.inr z.2) else (rd z.2 (b0 + 3) 20 z.1).bind fun x8 => (rd z.2 (b1 + 4) 20 x8).bind fun x9 => (f_X3_bestFor b0 b2 x9 v3 z.2).bind fun r10 => (wr z.2 (b0 + 1) 20 x8 r10).bind fun M11 => if r10 = (-1) then f_X3_match_j118 b0 b1 b2 v3 z.1 M11 else (wr M11 (b0 + 2) 100 r10 x8).bind fun M13 => (stf M13 b0 4 ((M13 b0 4) + 1)).bind fun M14 => f_X3_match_j118 b0 b1 b2 v3 z.1 M14
def f_X3_match (b0 : Nat) (b1 : Nat) (b2 : Nat) (a3 : Int32) (M : Mem) : Option (Mem) :=
  (stf M b0 3 (M b1 5)).bind fun M1 => (stf M1 b0 4 0).bind fun M2 => (loopN (f_X3_match_l16 b0 b1 b2 a3) FU (0, M2)).bind fun o5 => (f_X3_putInOrder b0 b1 o5).bind fun r6 => (loopN (f_X3_match_l47 b0 b1 b2 a3) FU (0, r6)).bind fun o15 => some o15
def f_X8_moved (a0 : Int32) (a1 : Int32) (a2 : Int32) (M : Mem) : Option (Int32) :=
  if 1 ≤ a2 then (dvI ((10 * a1) - a0) a2).bind fun x2 => some (a0 + x2) else some a0
def f_X4_moveArms_l16 (b0 : Nat) (b1 : Nat) (g2 : Nat) (z : Int32 × Int32 × Int32 × Mem) : Option ((Int32 × Int32 × Int32 × Mem) ⊕ (Mem)) :=
  if (z.2.2.2 b0 3) ≤ z.2.2.1 then some (.inr z.2.2.2) else (rd z.2.2.2 (b1 + 1) 200 z.2.2.1).bind fun x3 => (rd z.2.2.2 g2 10 8).bind fun x4 => (f_X8_moved z.1 x3 x4 z.2.2.2).bind fun r5 => (rd z.2.2.2 (b1 + 1) 200 z.2.2.1).bind fun x6 => (rd z.2.2.2 g2 10 9).bind fun x7 => (f_X8_moved z.2.1 x6 x7 z.2.2.2).bind fun r8 => (wr z.2.2.2 (b0 + 1) 200 z.2.2.1 r5).bind fun M9 => (wr M9 (b0 + 2) 200 z.2.2.1 r8).bind fun M10 => some (.inl (r5, r8, (z.2.2.1 + 1), M10))
def f_X4_moveArms (b0 : Nat) (b1 : Nat) (g2 : Nat) (M : Mem) : Option (Mem) :=
  (stf M b0 3 (M b1 4)).bind fun M1 => (loopN (f_X4_moveArms_l16 b0 b1 g2) FU (0, 0, 0, M1)).bind fun o11 => some o11
def f_X4_isSoonAfterWind (b0 : Nat) (a1 : Int32) (a2 : Int32) (M : Mem) : Option (Int32) :=
  if (M b0 7) = (-1) then some 0 else if a2 < (a1 - (M b0 7)) then some 0 else some 1
def f_X4_judge_j103 (b0 : Nat) (b1 : Nat) (g2 : Nat) (v3 : Int32) (M : Mem) : Option ((Int32 × Mem) ⊕ (Mem)) :=
  some (.inl ((v3 + 1), M))
def f_X4_judge_j102 (b0 : Nat) (b1 : Nat) (g2 : Nat) (v3 : Int32) (s1 : Int32) (s2 : Int32) (M : Mem) : Option ((Int32 × Mem) ⊕ (Mem)) :=
  (wr M (b0 + 3) 200 s1 s2).bind fun M13 => f_X4_judge_j103 b0 b1 g2 v3 M13
def f_X4_judge_j85 (b0 : Nat) (b1 : Nat) (g2 : Nat) (v3 : Int32) (s0 : Int32) (M : Mem) : Option ((Int32 × Mem) ⊕ (Mem)) :=
  if s0 = 0 then f_X4_judge_j102 b0 b1 g2 v3 v3 3 M else f_X4_judge_j102 b0 b1 g2 v3 v3 0 M
def f_X4_judge_l7 (b0 : Nat) (b1 : Nat) (g2 : Nat) (z : Int32 × Mem) : Option ((Int32 × Mem) ⊕ (Mem)) :=
  if (z.2 b0 3) ≤ z.1 then some (.inr z.2) else (rd z.2 (b1 + 2) 200 z.1).bind fun x3 => (rd z.2 g2 10 4).bind fun x4 => if x3 < x4 then (rd z.2 g2 10 5).bind fun x6 => (f_X4_isSoonAfterWind b0 z.1 x6 z.2).bind fun r7 => if r7 = 0 then (rd z.2 (b0 + 2) 200 z.1).bind fun x9 => (f_X8_limitAt g2 z.1 z.2).bind fun r10 => if x9 ≤ (10 * r10) then f_X4_judge_j85 b0 b1 g2 z.1 0 z.2 else f_X4_judge_j85 b0 b1 g2 z.1 1 z.2 else (wr z.2 (b0 + 3) 200 z.1 2).bind fun M14 => f_X4_judge_j103 b0 b1 g2 z.1 M14 else (wr z.2 (b0 + 3) 200 z.1 1).bind fun M15 => (stf M15 b0 7 z.1).bind fun M16 => f_X4_judge_j103 b0 b1 g2 z.1 M16
def f_X4_judge (b0 : Nat) (b1 : Nat) (g2 : Nat) (M : Mem) : Option (Mem) :=
  (stf M b0 7 (-1)).bind fun M1 => (loopN (f_X4_judge_l7 b0 b1 g2) FU (0, M1)).bind fun o17 => some o17
def f_X4_tally_j88 (b0 : Nat) (g1 : Nat) (v2 : Int32) (s1 : Int32) (s2 : Int32) (M : Mem) : Option ((Int32 × Mem) ⊕ (Mem)) :=
  (stf M b0 6 (s1 + s2)).bind fun M13 => some (.inl ((v2 + 1), M13))
def f_X4_tally_j65 (b0 : Nat) (g1 : Nat) (v2 : Int32) (s1 : Int32) (s2 : Int32) (M : Mem) : Option ((Int32 × Mem) ⊕ (Mem)) :=
  (stf M b0 5 (s1 + s2)).bind fun M10 => (rd M10 (b0 + 3) 200 v2).bind fun x11 => if x11 = 0 then f_X4_tally_j88 b0 g1 v2 (M10 b0 6) 1 M10 else f_X4_tally_j88 b0 g1 v2 (M10 b0 6) 0 M10
def f_X4_tally_j43 (b0 : Nat) (g1 : Nat) (v2 : Int32) (s1 : Int32) (s2 : Int32) (M : Mem) : Option ((Int32 × Mem) ⊕ (Mem)) :=
  (stf M b0 4 (s1 + s2)).bind fun M7 => (f_X8_isRest g1 v2 M7).bind fun r8 => if r8 = 0 then f_X4_tally_j65 b0 g1 v2 (M7 b0 5) 0 M7 else f_X4_tally_j65 b0 g1 v2 (M7 b0 5) 1 M7
def f_X4_tally_l17 (b0 : Nat) (g1 : Nat) (z : Int32 × Mem) : Option ((Int32 × Mem) ⊕ (Mem)) :=
  if (z.2 b0 3) ≤ z.1 then some (.inr z.2) else (f_X4_isCounted b0 z.1 z.2).bind fun r5 => if r5 = 0 then f_X4_tally_j43 b0 g1 z.1 (z.2 b0 4) 0 z.2 else f_X4_tally_j43 b0 g1 z.1 (z.2 b0 4) 1 z.2
def f_X4_tally (b0 : Nat) (g1 : Nat) (M : Mem) : Option (Mem) :=
  (stf M b0 4 0).bind fun M1 => (stf M1 b0 5 0).bind fun M2 => (stf M2 b0 6 0).bind fun M3 => (loopN (f_X4_tally_l17 b0 g1) FU (0, M3)).bind fun o14 => some o14
def f_X4_lastSlowPlace (b0 : Nat) (M : Mem) : Option (Int32) :=
  if 1 ≤ (M b0 3) then (rd M (b0 + 2) 200 ((M b0 3) - 1)).bind fun x2 => some x2 else some 0
def f_X4_shareAbove (b0 : Nat) (M : Mem) : Option (UInt64) :=
  if 1 ≤ (M b0 4) then (ddv (FP.i2d (M b0 6)) (FP.i2d (M b0 4))).bind fun x2 => some x2 else some 0
def f_X5_hasMinute (b0 : Nat) (a1 : Int32) (M : Mem) : Option (Int32) :=
  if a1 < 0 then some 0 else if (M b0 4) ≤ a1 then some 0 else some 1
def f_X5_hasComplaint (b0 : Nat) (a1 : Int32) (M : Mem) : Option (Int32) :=
  if a1 < 0 then some 0 else if (M b0 5) ≤ a1 then some 0 else some 1
def f_X5_addMinutes_l3 (b0 : Nat) (v1 : Int32) (v2 : Int32) (v3 : Int32) (z : Int32 × Mem) : Option ((Int32 × Mem) ⊕ (Mem)) :=
  if v3 ≤ z.1 then some (.inr z.2) else if 200 ≤ (z.2 b0 4) then some (.inr z.2) else (wr z.2 (b0 + 1) 200 (z.2 b0 4) v1).bind fun M3 => (wr M3 (b0 + 2) 200 (M3 b0 4) v2).bind fun M4 => (stf M4 b0 4 ((M4 b0 4) + 1)).bind fun M5 => some (.inl ((z.1 + 1), M5))
def f_X5_addMinutes (b0 : Nat) (a1 : Int32) (a2 : Int32) (a3 : Int32) (M : Mem) : Option (Mem) :=
  (loopN (f_X5_addMinutes_l3 b0 a1 a2 a3) FU (0, M)).bind fun o6 => some o6
def f_X5_dropMinutes_l9 (b0 : Nat) (v1 : Int32) (v2 : Int32) (z : Int32 × Mem) : Option ((Int32 × Mem) ⊕ (Mem)) :=
  if v2 ≤ z.1 then some (.inr z.2) else (rd z.2 (b0 + 1) 200 (z.1 + v1)).bind fun x2 => (wr z.2 (b0 + 1) 200 z.1 x2).bind fun M3 => (rd M3 (b0 + 2) 200 (z.1 + v1)).bind fun x4 => (wr M3 (b0 + 2) 200 z.1 x4).bind fun M5 => some (.inl ((z.1 + 1), M5))
def f_X5_dropMinutes_l55 (b0 : Nat) (v1 : Int32) (z : Int32 × Mem) : Option ((Int32 × Mem) ⊕ (Mem)) :=
  if (z.2 b0 5) ≤ z.1 then some (.inr z.2) else (rd z.2 (b0 + 4) 20 z.1).bind fun x9 => (wr z.2 (b0 + 4) 20 z.1 (mxI (0 : Int32) (x9 - v1))).bind fun M10 => some (.inl ((z.1 + 1), M10))
def f_X5_dropMinutes (b0 : Nat) (a1 : Int32) (M : Mem) : Option (Mem) :=
  (loopN (f_X5_dropMinutes_l9 b0 a1 ((M b0 4) - a1)) FU (0, M)).bind fun o6 => (stf o6 b0 4 ((M b0 4) - a1)).bind fun M7 => (loopN (f_X5_dropMinutes_l55 b0 a1) FU (0, M7)).bind fun o11 => some o11
def f_X5_addComplaint (b0 : Nat) (a1 : Int32) (M : Mem) : Option (Mem) :=
  if 20 ≤ (M b0 5) then some M else (wr M (b0 + 4) 20 (M b0 5) a1).bind fun M2 => (stf M2 b0 5 ((M2 b0 5) + 1)).bind fun M3 => some M3
def f_X5_dropComplaint_l2 (b0 : Nat) (z : Int32 × Mem) : Option ((Int32 × Mem) ⊕ (Mem)) :=
  if (z.2 b0 5) ≤ (z.1 + 1) then some (.inr z.2) else (rd z.2 (b0 + 4) 20 (z.1 + 1)).bind fun x2 => (wr z.2 (b0 + 4) 20 z.1 x2).bind fun M3 => some (.inl ((z.1 + 1), M3))
def f_X5_dropComplaint (b0 : Nat) (a1 : Int32) (M : Mem) : Option (Mem) :=
  (loopN (f_X5_dropComplaint_l2 b0) FU (a1, M)).bind fun o4 => (stf o4 b0 5 ((o4 b0 5) - 1)).bind fun M5 => some M5
def f_X7_takeSettings (b0 : Nat) (g1 : Nat) (M : Mem) : Option (Mem) :=
  (cpy M g1 10 0 (b0 + 1) 10 0 10).bind fun M1 => some M1
def f_X7_look (b0 : Nat) (b1 : Nat) (M : Mem) : Option (Mem) :=
  (f_X4_moveArms (b0 + 2) b1 (b0 + 1) M).bind fun r1 => (f_X4_judge (b0 + 2) b1 (b0 + 1) r1).bind fun r2 => (f_X4_tally (b0 + 2) (b0 + 1) r2).bind fun r3 => (f_X0_find (b0 + 6) (b0 + 2) (b0 + 1) r3).bind fun r4 => (rd r4 (b0 + 1) 10 7).bind fun x5 => (f_X3_match (b0 + 13) b1 (b0 + 6) x5 r4).bind fun r6 => some r6
def f_X7_numberOf (b0 : Nat) (a1 : Int32) (M : Mem) : Option (Int32) :=
  if a1 = 0 then some (M (b0 + 2) 3) else if a1 = 1 then some (M (b0 + 2) 4) else if a1 = 2 then some ((M (b0 + 2) 3) - (M (b0 + 2) 4)) else if a1 = 3 then some (M (b0 + 2) 5) else if a1 = 4 then some (M (b0 + 2) 6) else if a1 = 5 then some (M (b0 + 6) 6) else if a1 = 6 then some (M (b0 + 13) 3) else if a1 = 7 then some (M (b0 + 13) 4) else if a1 = 8 then (f_X0_weightOfAll (b0 + 6) M).bind fun r10 => some r10 else if a1 = 9 then (f_X0_heaviest (b0 + 6) M).bind fun r12 => some r12 else if (M (b0 + 6) 7) = 0 then some 0 else some 1
def f_X7_isAboveWithLimit_j34 (b0 : Nat) (v1 : Int32) (s0 : Int32) (M : Mem) : Option (Int32) :=
  (rd M (b0 + 2 + 2) 200 v1).bind fun x5 => if x5 ≤ (10 * s0) then some 0 else some 1
def f_X7_isAboveWithLimit (b0 : Nat) (a1 : Int32) (a2 : Int32) (M : Mem) : Option (Int32) :=
  (f_X4_isCounted (b0 + 2) a1 M).bind fun r1 => if r1 = 0 then some 0 else (f_X8_isRest (b0 + 1) a1 M).bind fun r3 => if r3 = 0 then f_X7_isAboveWithLimit_j34 b0 a1 a2 M else (rd M (b0 + 1) 10 1).bind fun x7 => f_X7_isAboveWithLimit_j34 b0 a1 x7 M
def f_X7_exceedancesWithLimit_j54 (b0 : Nat) (v1 : Int32) (v2 : Int32) (v3 : Int32) (v4 : Int32) (v5 : Int32) (M : Mem) : Option ((Int32 × Int32 × Int32) ⊕ (Int32)) :=
  some (.inl (v3, v4, (v5 + 1)))
def f_X7_exceedancesWithLimit_j46 (b0 : Nat) (v1 : Int32) (v2 : Int32) (v4 : Int32) (v5 : Int32) (M : Mem) : Option ((Int32 × Int32 × Int32) ⊕ (Int32)) :=
  f_X7_exceedancesWithLimit_j54 b0 v1 v2 0 v4 v5 M
def f_X7_exceedancesWithLimit_l16 (b0 : Nat) (v1 : Int32) (v2 : Int32) (M : Mem) (z : Int32 × Int32 × Int32) : Option ((Int32 × Int32 × Int32) ⊕ (Int32)) :=
  if (M (b0 + 2) 3) ≤ z.2.2 then some (.inr z.2.1) else (f_X7_isAboveWithLimit b0 z.2.2 v1 M).bind fun r3 => if r3 = 0 then f_X7_exceedancesWithLimit_j54 b0 v1 v2 (z.1 + 1) z.2.1 z.2.2 M else if z.1 < v2 then f_X7_exceedancesWithLimit_j46 b0 v1 v2 z.2.1 z.2.2 M else f_X7_exceedancesWithLimit_j46 b0 v1 v2 (z.2.1 + 1) z.2.2 M
def f_X7_exceedancesWithLimit (b0 : Nat) (a1 : Int32) (M : Mem) : Option (Int32) :=
  (rd M (b0 + 1) 10 6).bind fun x1 => (loopN (f_X7_exceedancesWithLimit_l16 b0 a1 x1 M) FU (x1, 0, 0)).bind fun o6 => some o6
def f_X7_leastLimitFor_l2 (b0 : Nat) (v1 : Int32) (M : Mem) (z : Int32) : Option ((Int32) ⊕ ((Unit) ⊕ (Int32))) :=
  if 140 < z then some (.inr (.inl ())) else (f_X7_exceedancesWithLimit b0 z M).bind fun r2 => if v1 < r2 then some (.inl (z + 1)) else some (.inr (.inr z))
def f_X7_leastLimitFor (b0 : Nat) (a1 : Int32) (M : Mem) : Option (Int32) :=
  (loopN (f_X7_leastLimitFor_l2 b0 a1 M) FU 0).bind fun o4 => Sum.elim (fun o4 => some (-1)) (fun r5 => some r5) o4
def f_X7_minutesUntilAbove_j82 (b0 : Nat) (v1 : Int32) (v2 : Int32) (v3 : Int32) (M : Mem) : Option ((Int32 × Int32) ⊕ ((Unit) ⊕ (Int32))) :=
  some (.inl (v2, (v3 + 1)))
def f_X7_minutesUntilAbove_l10 (b0 : Nat) (v1 : Int32) (M : Mem) (z : Int32 × Int32) : Option ((Int32 × Int32) ⊕ ((Unit) ⊕ (Int32))) :=
  if 100 < z.2 then some (.inr (.inl ())) else (rd M (b0 + 1) 10 9).bind fun x3 => (f_X8_moved z.1 v1 x3 M).bind fun r4 => (rd M (b0 + 1) 10 5).bind fun x5 => (f_X4_isSoonAfterWind (b0 + 2) (((M (b0 + 2) 3) + z.2) - 1) x5 M).bind fun r6 => if r6 = 0 then (f_X8_limitAt (b0 + 1) (((M (b0 + 2) 3) + z.2) - 1) M).bind fun r8 => if r4 ≤ (10 * r8) then f_X7_minutesUntilAbove_j82 b0 v1 r4 z.2 M else some (.inr (.inr z.2)) else f_X7_minutesUntilAbove_j82 b0 v1 r4 z.2 M
def f_X7_minutesUntilAbove (b0 : Nat) (a1 : Int32) (M : Mem) : Option (Int32) :=
  (f_X4_lastSlowPlace (b0 + 2) M).bind fun r1 => (loopN (f_X7_minutesUntilAbove_l10 b0 a1 M) FU (r1, 1)).bind fun o10 => Sum.elim (fun o10 => some (-1)) (fun r11 => some r11) o10
def f_X8_isSetting (a0 : Int32) (M : Mem) : Option (Int32) :=
  if a0 < 0 then some 0 else if 10 ≤ a0 then some 0 else some 1
def f_X8_fitsSetting (a0 : Int32) (a1 : Int32) (M : Mem) : Option (Int32) :=
  (f_X8_isSetting a0 M).bind fun r1 => if r1 = 0 then some 0 else (rdS 0 a0).bind fun x3 => if a1 < x3 then some 0 else (rdS 1 a0).bind fun x5 => if x5 < a1 then some 0 else some 1
def f_X8_readAgain (M : Mem) : Option (Mem) :=
  (f_X7_takeSettings 54 4 M).bind fun r1 => (f_X7_look 54 1 r1).bind fun r2 => (f_X2_tally 56 r2).bind fun r3 => some r3
def f_X8_set (a1 : Int32) (a2 : Int32) (M : Mem) : Option (Int32 × Mem) :=
  (f_X8_isSetting a1 M).bind fun r1 => if r1 = 0 then none else (f_X8_fitsSetting a1 a2 M).bind fun r3 => if r3 = 0 then none else (f_X1_keep 1 M).bind fun r5 => (rd r5 4 10 a1).bind fun x6 => (wr r5 4 10 a1 a2).bind fun M7 => (f_X8_readAgain M7).bind fun r8 => some (x6, r8)
def f_X8_isLevel (a0 : Int32) (M : Mem) : Option (Int32) :=
  if a0 < 0 then some 0 else if 140 < a0 then some 0 else some 1
def f_X8_isWind (a0 : Int32) (M : Mem) : Option (Int32) :=
  if a0 < 0 then some 0 else if 40 < a0 then some 0 else some 1
def f_X8_tell_j25 (M : Mem) : Option (Int32 × Mem) :=
  none
def f_X8_tell (a1 : Int32) (a2 : Int32) (a3 : Int32) (M : Mem) : Option (Int32 × Mem) :=
  (f_X8_isLevel a1 M).bind fun r1 => if r1 = 0 then f_X8_tell_j25 M else (f_X8_isWind a2 M).bind fun r3 => if r3 = 0 then f_X8_tell_j25 M else if a3 < 1 then f_X8_tell_j25 M else if a3 ≤ 60 then if ((M 1 4) + a3) ≤ 200 then (f_X1_keep 1 M).bind fun r8 => (f_X5_addMinutes 1 a1 a2 a3 r8).bind fun r9 => (f_X8_readAgain r9).bind fun r10 => some ((r10 1 4), r10) else none else f_X8_tell_j25 M
def f_X8_correct_j35 (M : Mem) : Option (Int32 × Mem) :=
  none
def f_X8_correct (a1 : Int32) (a2 : Int32) (a3 : Int32) (M : Mem) : Option (Int32 × Mem) :=
  (f_X5_hasMinute 1 a1 M).bind fun r1 => if r1 = 0 then none else (f_X8_isLevel a2 M).bind fun r3 => if r3 = 0 then f_X8_correct_j35 M else (f_X8_isWind a3 M).bind fun r5 => if r5 = 0 then f_X8_correct_j35 M else (f_X1_keep 1 M).bind fun r7 => (wr r7 2 200 a1 a2).bind fun M8 => (wr M8 3 200 a1 a3).bind fun M9 => (f_X8_readAgain M9).bind fun r10 => some ((r10 60 6), r10)
def f_X8_forget_j16 (M : Mem) : Option (Int32 × Mem) :=
  none
def f_X8_forget (a1 : Int32) (M : Mem) : Option (Int32 × Mem) :=
  if a1 < 1 then f_X8_forget_j16 M else if a1 ≤ (M 1 4) then (f_X1_keep 1 M).bind fun r3 => (f_X5_dropMinutes 1 a1 r3).bind fun r4 => (f_X8_readAgain r4).bind fun r5 => some ((r5 1 4), r5) else f_X8_forget_j16 M
def f_X8_complain_j11 (M : Mem) : Option (Int32 × Mem) :=
  none
def f_X8_complain (a1 : Int32) (M : Mem) : Option (Int32 × Mem) :=
  if a1 < 0 then f_X8_complain_j11 M else if a1 ≤ 300 then if (M 1 5) < 20 then (f_X1_keep 1 M).bind fun r4 => (f_X5_addComplaint 1 a1 r4).bind fun r5 => (f_X8_readAgain r5).bind fun r6 => some ((r4 1 5), r6) else none else f_X8_complain_j11 M
def f_X8_withdraw (a1 : Int32) (M : Mem) : Option (Int32 × Mem) :=
  (f_X5_hasComplaint 1 a1 M).bind fun r1 => if r1 = 0 then none else (f_X1_keep 1 M).bind fun r3 => (rd r3 68 20 a1).bind fun x4 => (f_X5_dropComplaint 1 a1 r3).bind fun r5 => (f_X8_readAgain r5).bind fun r6 => some (x4, r6)
def f_X8_minuteProperty (a1 : Int32) (a2 : Int32) (M : Mem) : Option (Int32) :=
  if a2 = 0 then (rd M 2 200 a1).bind fun x2 => some x2 else if a2 = 1 then (rd M 3 200 a1).bind fun x4 => some x4 else if a2 = 2 then (rd M 57 200 a1).bind fun x6 => some x6 else if a2 = 3 then (rd M 58 200 a1).bind fun x8 => some x8 else if a2 = 4 then (f_X8_limitAt 4 a1 M).bind fun r10 => some r10 else if a2 = 5 then (f_X8_isRest 4 a1 M).bind fun r12 => if r12 = 0 then some 0 else some 1 else if a2 = 6 then (rd M 59 200 a1).bind fun x15 => some x15 else (rd M 66 200 a1).bind fun x16 => some x16
def f_X8_minute_j31 (M : Mem) : Option (Int32) :=
  none
def f_X8_minute (a1 : Int32) (a2 : Int32) (M : Mem) : Option (Int32) :=
  (f_X5_hasMinute 1 a1 M).bind fun r1 => if r1 = 0 then none else if a2 < 0 then f_X8_minute_j31 M else if a2 ≤ 7 then (f_X8_minuteProperty a1 a2 M).bind fun r5 => some r5 else f_X8_minute_j31 M
def f_X8_exceedanceProperty (a1 : Int32) (a2 : Int32) (M : Mem) : Option (Int32) :=
  if a2 = 0 then (rd M 61 100 a1).bind fun x2 => some x2 else if a2 = 1 then (rd M 62 100 a1).bind fun x4 => some x4 else if a2 = 2 then (rd M 63 100 a1).bind fun x6 => some x6 else if a2 = 3 then (rd M 64 100 a1).bind fun x8 => some x8 else if a2 = 4 then (rd M 65 100 a1).bind fun x10 => some x10 else (rd M 69 100 a1).bind fun x11 => some x11
def f_X8_exceedance_j18 (M : Mem) : Option (Int32) :=
  none
def f_X8_exceedance_j37 (M : Mem) : Option (Int32) :=
  none
def f_X8_exceedance (a1 : Int32) (a2 : Int32) (M : Mem) : Option (Int32) :=
  if a1 < 0 then f_X8_exceedance_j18 M else if a1 < (M 60 6) then if a2 < 0 then f_X8_exceedance_j37 M else if a2 ≤ 5 then (f_X8_exceedanceProperty a1 a2 M).bind fun r5 => some r5 else f_X8_exceedance_j37 M else f_X8_exceedance_j18 M
def f_X8_complaintProperty (a1 : Int32) (a2 : Int32) (M : Mem) : Option (Int32) :=
  if a2 = 0 then (rd M 5 20 a1).bind fun x3 => some x3 else (rd M 68 20 a1).bind fun x2 => some x2
def f_X8_complaint_j30 (M : Mem) : Option (Int32) :=
  none
def f_X8_complaint (a1 : Int32) (a2 : Int32) (M : Mem) : Option (Int32) :=
  (f_X5_hasComplaint 1 a1 M).bind fun r1 => if r1 = 0 then none else if a2 < 0 then f_X8_complaint_j30 M else if a2 ≤ 1 then (f_X8_complaintProperty a1 a2 M).bind fun r5 => some r5 else f_X8_complaint_j30 M
def f_X8_levelCount (a1 : Int32) (M : Mem) : Option (Int32) :=
  (f_X8_isLevel a1 M).bind fun r1 => if r1 = 0 then none else (rd M 89 141 a1).bind fun x3 => some x3
def f_X8_percentLevel_j11 (M : Mem) : Option (Int32) :=
  none
def f_X8_percentLevel (a1 : Int32) (M : Mem) : Option (Int32) :=
  if a1 < 1 then f_X8_percentLevel_j11 M else if a1 ≤ 100 then (f_X2_levelOfPercent a1 (M 56 4) M).bind fun r3 => some r3 else f_X8_percentLevel_j11 M
def f_X8_numberOf (a1 : Int32) (M : Mem) : Option (Int32) :=
  if a1 = 10 then some (M 46 2) else (f_X7_numberOf 54 a1 M).bind fun r2 => some r2
def f_X8_count_j10 (M : Mem) : Option (Int32) :=
  none
def f_X8_count (a1 : Int32) (M : Mem) : Option (Int32) :=
  if a1 < 0 then f_X8_count_j10 M else if a1 ≤ 11 then (f_X8_numberOf a1 M).bind fun r3 => some r3 else f_X8_count_j10 M
def f_X8_setting (a1 : Int32) (M : Mem) : Option (Int32) :=
  (f_X8_isSetting a1 M).bind fun r1 => if r1 = 0 then none else (rd M 4 10 a1).bind fun x3 => some x3
def f_X8_ifSet_j35 (M : Mem) : Option (Int32 × Mem) :=
  none
def f_X8_ifSet (a1 : Int32) (a2 : Int32) (a3 : Int32) (M : Mem) : Option (Int32 × Mem) :=
  (f_X8_isSetting a1 M).bind fun r1 => if r1 = 0 then none else (f_X8_fitsSetting a1 a2 M).bind fun r3 => if r3 = 0 then f_X8_ifSet_j35 M else if a3 < 0 then f_X8_ifSet_j35 M else if a3 ≤ 9 then (f_X7_takeSettings 71 4 M).bind fun r7 => (wr r7 72 10 a1 a2).bind fun M8 => (f_X7_look 71 1 M8).bind fun r9 => (f_X7_numberOf 71 a3 r9).bind fun r10 => some (r10, r9) else f_X8_ifSet_j35 M
def f_X8_leastLimit_j11 (M : Mem) : Option (Int32) :=
  none
def f_X8_leastLimit (a1 : Int32) (M : Mem) : Option (Int32) :=
  if a1 < 0 then f_X8_leastLimit_j11 M else if a1 ≤ 200 then (f_X7_leastLimitFor 54 a1 M).bind fun r3 => some r3 else f_X8_leastLimit_j11 M
def f_X8_aboveIn (a1 : Int32) (M : Mem) : Option (Int32) :=
  (f_X8_isLevel a1 M).bind fun r1 => if r1 = 0 then none else (f_X7_minutesUntilAbove 54 a1 M).bind fun r3 => some r3
def f_X8_share (M : Mem) : Option (UInt64) :=
  (f_X4_shareAbove 56 M).bind fun r1 => some r1
def f_L_at (a0 : Int32) (a1 : Int32) (M : Mem) : Option (Int32) :=
  (rmI (ushr a0 1) a1).bind fun x1 => some x1
def f_L_rest_j16 (v2 : Int32) (M : Mem) : Option (Int32) :=
  (rd M 94 10 3).bind fun x4 => if x4 ≤ v2 then some 0 else some 1
def f_L_rest (a0 : Int32) (M : Mem) : Option (Int32) :=
  (rmI a0 60).bind fun x1 => (rd M 94 10 2).bind fun x2 => if 0 ≤ (x1 - x2) then f_L_rest_j16 (x1 - x2) M else f_L_rest_j16 ((x1 - x2) + 60) M
def f_L_limit (a0 : Int32) (M : Mem) : Option (Int32) :=
  (f_L_rest a0 M).bind fun r1 => if r1 = 0 then (rd M 94 10 0).bind fun x3 => some x3 else (rd M 94 10 1).bind fun x4 => some x4
def f_L_lay_j236 (v8 : Int32) (v9 : Int32) (v10 : Int32) (v11 : Int32) (v12 : Int32) (v13 : Int32) (M : Mem) : Option ((Int32 × Int32 × Int32 × Int32 × Int32 × Int32 × Mem) ⊕ (Mem)) :=
  some (.inl (v8, v9, v10, v11, v12, (v13 + 1), M))
def f_L_lay_j225 (v8 : Int32) (v9 : Int32) (v10 : Int32) (v11 : Int32) (v13 : Int32) (M : Mem) : Option ((Int32 × Int32 × Int32 × Int32 × Int32 × Int32 × Mem) ⊕ (Mem)) :=
  (wr M 98 60 v13 v11).bind fun M25 => f_L_lay_j236 v8 v9 v10 v11 v13 v13 M25
def f_L_lay_j192 (v8 : Int32) (v9 : Int32) (v10 : Int32) (v13 : Int32) (M : Mem) : Option ((Int32 × Int32 × Int32 × Int32 × Int32 × Int32 × Mem) ⊕ (Mem)) :=
  f_L_lay_j225 v8 v9 v10 v13 v13 M
def f_L_lay_l205 (v8 : Int32) (v9 : Int32) (v10 : Int32) (v11 : Int32) (v13 : Int32) (z : Int32 × Mem) : Option ((Int32 × Mem) ⊕ (Mem)) :=
  if v13 ≤ z.1 then some (.inr z.2) else (wr z.2 98 60 z.1 v11).bind fun M29 => some (.inl ((z.1 + 1), M29))
def f_L_lay_j161 (v8 : Int32) (v9 : Int32) (v10 : Int32) (v11 : Int32) (v12 : Int32) (v13 : Int32) (s1 : Int32) (s2 : Int32) (M : Mem) : Option ((Int32 × Int32 × Int32 × Int32 × Int32 × Int32 × Mem) ⊕ (Mem)) :=
  (wr M 97 60 s1 s2).bind fun M21 => (rd M21 97 60 v13).bind fun x22 => if x22 ≤ 0 then if v11 < 0 then f_L_lay_j192 v8 v9 v10 v13 M21 else (rd M21 94 10 6).bind fun x26 => if ((v13 - v12) - 1) < x26 then (loopN (f_L_lay_l205 v8 v9 v10 v11 v13) FU ((v12 + 1), M21)).bind fun o30 => f_L_lay_j225 v8 v9 v10 v11 v13 o30 else f_L_lay_j192 v8 v9 v10 v13 M21 else f_L_lay_j236 v8 v9 v10 v11 v12 v13 M21
def f_L_lay_j114 (v8 : Int32) (v9 : Int32) (v10 : Int32) (v11 : Int32) (v12 : Int32) (v13 : Int32) (v14 : Int32) (M : Mem) : Option ((Int32 × Int32 × Int32 × Int32 × Int32 × Int32 × Mem) ⊕ (Mem)) :=
  if v14 = 0 then (rd M 94 10 5).bind fun x17 => if x17 < (v13 - v10) then (f_L_limit v13 M).bind fun r19 => if v9 ≤ (10 * r19) then f_L_lay_j161 v8 v9 v10 v11 v12 v13 v13 3 M else f_L_lay_j161 v8 v9 v10 v11 v12 v13 v13 0 M else f_L_lay_j161 v8 v9 v10 v11 v12 v13 v13 2 M else f_L_lay_j161 v8 v9 v10 v11 v12 v13 v13 1 M
def f_L_lay_j103 (v8 : Int32) (v9 : Int32) (v10 : Int32) (v11 : Int32) (v12 : Int32) (v13 : Int32) (s0 : Int32) (M : Mem) : Option ((Int32 × Int32 × Int32 × Int32 × Int32 × Int32 × Mem) ⊕ (Mem)) :=
  if s0 = 0 then f_L_lay_j114 v8 v9 v10 v11 v12 v13 s0 M else f_L_lay_j114 v8 v9 v13 v11 v12 v13 s0 M
def f_L_lay_l20 (z : Int32 × Int32 × Int32 × Int32 × Int32 × Int32 × Mem) : Option ((Int32 × Int32 × Int32 × Int32 × Int32 × Int32 × Mem) ⊕ (Mem)) :=
  (rd z.2.2.2.2.2.2 93 2 0).bind fun x1 => if x1 ≤ z.2.2.2.2.2.1 then some (.inr z.2.2.2.2.2.2) else (rd z.2.2.2.2.2.2 90 60 z.2.2.2.2.2.1).bind fun x3 => (rd z.2.2.2.2.2.2 94 10 8).bind fun x4 => (dvI ((10 * x3) - z.1) x4).bind fun x5 => (rd z.2.2.2.2.2.2 90 60 z.2.2.2.2.2.1).bind fun x6 => (rd z.2.2.2.2.2.2 94 10 9).bind fun x7 => (dvI ((10 * x6) - z.2.1) x7).bind fun x8 => (wr z.2.2.2.2.2.2 95 60 z.2.2.2.2.2.1 (z.1 + x5)).bind fun M9 => (wr M9 96 60 z.2.2.2.2.2.1 (z.2.1 + x8)).bind fun M10 => (wr M10 98 60 z.2.2.2.2.2.1 (-1)).bind fun M11 => (rd M11 91 60 z.2.2.2.2.2.1).bind fun x12 => (rd M11 94 10 4).bind fun x13 => if x12 < x13 then f_L_lay_j103 (z.1 + x5) (z.2.1 + x8) z.2.2.1 z.2.2.2.1 z.2.2.2.2.1 z.2.2.2.2.2.1 0 M11 else f_L_lay_j103 (z.1 + x5) (z.2.1 + x8) z.2.2.1 z.2.2.2.1 z.2.2.2.2.1 z.2.2.2.2.2.1 1 M11
def f_L_lay (M : Mem) : Option (Mem) :=
  (loopN (f_L_lay_l20) FU (0, 0, (-100), (-1), (-100), 0, M)).bind fun o31 => some o31
def f_L_exceedances_j24 (v3 : Int32) (s0 : Int32) (s1 : Int32) (M : Mem) : Option ((Int32 × Int32) ⊕ (Int32)) :=
  some (.inl ((s0 + s1), (v3 + 1)))
def f_L_exceedances_l4 (M : Mem) (z : Int32 × Int32) : Option ((Int32 × Int32) ⊕ (Int32)) :=
  (rd M 93 2 0).bind fun x1 => if x1 ≤ z.2 then some (.inr z.1) else (rd M 98 60 z.2).bind fun x3 => if x3 = z.2 then f_L_exceedances_j24 z.2 z.1 1 M else f_L_exceedances_j24 z.2 z.1 0 M
def f_L_exceedances (M : Mem) : Option (Int32) :=
  (loopN (f_L_exceedances_l4 M) FU (0, 0)).bind fun o5 => some o5
def f_L_part_j133 (v0 : Int32) (v1 : Int32) (v8 : Int32) (v9 : Int32) (M : Mem) : Option ((Int32 × Int32) ⊕ (Int32)) :=
  some (.inl (v8, (v9 + 1)))
def f_L_part_j131 (v0 : Int32) (v1 : Int32) (v9 : Int32) (s0 : Int32) (M : Mem) : Option ((Int32 × Int32) ⊕ (Int32)) :=
  f_L_part_j133 v0 v1 s0 v9 M
def f_L_part_j130 (v0 : Int32) (v1 : Int32) (v9 : Int32) (s0 : Int32) (s1 : Int32) (M : Mem) : Option ((Int32 × Int32) ⊕ (Int32)) :=
  f_L_part_j131 v0 v1 v9 (s0 + s1) M
def f_L_part_j99 (v0 : Int32) (v1 : Int32) (v8 : Int32) (v9 : Int32) (M : Mem) : Option ((Int32 × Int32) ⊕ (Int32)) :=
  f_L_part_j131 v0 v1 v9 v8 M
def f_L_part_j67 (v0 : Int32) (v1 : Int32) (v9 : Int32) (s0 : Int32) (s1 : Int32) (M : Mem) : Option ((Int32 × Int32) ⊕ (Int32)) :=
  f_L_part_j131 v0 v1 v9 (s0 + s1) M
def f_L_part_j39 (v0 : Int32) (v1 : Int32) (v8 : Int32) (v9 : Int32) (s0 : Int32) (M : Mem) : Option ((Int32 × Int32) ⊕ (Int32)) :=
  if v1 = 0 then f_L_part_j131 v0 v1 v9 v9 M else if v1 = 1 then if s0 = 0 then f_L_part_j67 v0 v1 v9 v8 0 M else f_L_part_j67 v0 v1 v9 v8 1 M else if v1 = 2 then if s0 = 0 then f_L_part_j99 v0 v1 v8 v9 M else (rd M 95 60 v9).bind fun x14 => if x14 ≤ v8 then f_L_part_j99 v0 v1 v8 v9 M else (rd M 95 60 v9).bind fun x16 => f_L_part_j131 v0 v1 v9 x16 M else if s0 = 0 then f_L_part_j130 v0 v1 v9 v8 0 M else (rd M 96 60 v9).bind fun x11 => (f_L_limit v9 M).bind fun r12 => f_L_part_j130 v0 v1 v9 v8 (x11 - (10 * r12)) M
def f_L_part_l6 (v0 : Int32) (v1 : Int32) (M : Mem) (z : Int32 × Int32) : Option ((Int32 × Int32) ⊕ (Int32)) :=
  (rd M 93 2 0).bind fun x1 => if x1 ≤ z.2 then some (.inr z.1) else (rd M 98 60 z.2).bind fun x3 => if x3 = v0 then (rd M 97 60 z.2).bind fun x5 => if x5 = 0 then f_L_part_j39 v0 v1 z.1 z.2 1 M else f_L_part_j39 v0 v1 z.1 z.2 0 M else f_L_part_j133 v0 v1 z.1 z.2 M
def f_L_part (a0 : Int32) (a1 : Int32) (M : Mem) : Option (Int32) :=
  (loopN (f_L_part_l6 a0 a1 M) FU (0, a0)).bind fun o18 => some o18
def f_L_match_l6 (g0 : Nat) (v8 : Int32) (z : Int32 × Mem) : Option ((Int32 × Mem) ⊕ (Mem)) :=
  (rd z.2 93 2 1).bind fun x1 => if x1 ≤ z.1 then some (.inr z.2) else (wr z.2 g0 6 z.1 (-1)).bind fun M3 => some (.inl ((z.1 + 1), M3))
def f_L_match_j81 (g0 : Nat) (v8 : Int32) (v9 : Int32) (v10 : Int32) (v11 : Int32) (M : Mem) : Option ((Int32 × Int32) ⊕ (Int32)) :=
  some (.inl (v10, (v11 + (-1))))
def f_L_match_j77 (g0 : Nat) (v8 : Int32) (v9 : Int32) (v11 : Int32) (M : Mem) : Option ((Int32 × Int32) ⊕ (Int32)) :=
  f_L_match_j81 g0 v8 v9 v11 v11 M
def f_L_match_l46 (g0 : Nat) (v8 : Int32) (v9 : Int32) (M : Mem) (z : Int32 × Int32) : Option ((Int32 × Int32) ⊕ (Int32)) :=
  if z.2 < 0 then some (.inr z.1) else if ((v8 >>> (z.2 &&& 31)) &&& 1) = 0 then if z.1 < 0 then f_L_match_j77 g0 v8 v9 z.2 M else (rd M 92 6 z.2).bind fun x11 => (rd M 92 6 z.1).bind fun x12 => if x12 < x11 then f_L_match_j81 g0 v8 v9 z.1 z.2 M else f_L_match_j77 g0 v8 v9 z.2 M else f_L_match_j81 g0 v8 v9 z.1 z.2 M
def f_L_match_j250 (g0 : Nat) (v8 : Int32) (v9 : Int32) (v10 : Int32) (v11 : Int32) (v12 : Int32) (M : Mem) : Option ((Int32 × Int32) ⊕ (Int32)) :=
  some (.inl (v11, (v12 + 1)))
def f_L_match_j193 (g0 : Nat) (v8 : Int32) (v9 : Int32) (v10 : Int32) (v11 : Int32) (v12 : Int32) (v14 : Int32) (s0 : Int32) (M : Mem) : Option ((Int32 × Int32) ⊕ (Int32)) :=
  some (.inl (s0, (v14 + 1)))
def f_L_match_j192 (g0 : Nat) (v8 : Int32) (v9 : Int32) (v10 : Int32) (v11 : Int32) (v12 : Int32) (v14 : Int32) (M : Mem) : Option ((Int32 × Int32) ⊕ (Int32)) :=
  f_L_match_j193 g0 v8 v9 v10 v11 v12 v14 0 M
def f_L_match_l166 (g0 : Nat) (v8 : Int32) (v9 : Int32) (v10 : Int32) (v11 : Int32) (v12 : Int32) (M : Mem) (z : Int32 × Int32) : Option ((Int32 × Int32) ⊕ (Int32)) :=
  (rd M 93 2 1).bind fun x25 => if x25 ≤ z.2 then some (.inr z.1) else if z.1 = 0 then f_L_match_j192 g0 v8 v9 v10 v11 v12 z.2 M else (rd M g0 6 z.2).bind fun x28 => if x28 = v12 then f_L_match_j192 g0 v8 v9 v10 v11 v12 z.2 M else f_L_match_j193 g0 v8 v9 v10 v11 v12 z.2 1 M
def f_L_match_j246 (g0 : Nat) (v8 : Int32) (v9 : Int32) (v10 : Int32) (v12 : Int32) (M : Mem) : Option ((Int32 × Int32) ⊕ (Int32)) :=
  f_L_match_j250 g0 v8 v9 v10 v12 v12 M
def f_L_match_l102 (g0 : Nat) (v8 : Int32) (v9 : Int32) (v10 : Int32) (M : Mem) (z : Int32 × Int32) : Option ((Int32 × Int32) ⊕ (Int32)) :=
  (rd M 93 2 0).bind fun x15 => if x15 ≤ z.2 then some (.inr z.1) else (rd M 92 6 v10).bind fun x17 => if x17 < z.2 then some (.inr z.1) else (rd M 98 60 z.2).bind fun x19 => if x19 = z.2 then (f_L_part z.2 0 M).bind fun r21 => (rd M 92 6 v10).bind fun x22 => (rd M 94 10 7).bind fun x23 => if (x22 - x23) ≤ r21 then (loopN (f_L_match_l166 g0 v8 v9 v10 z.1 z.2 M) FU (1, 0)).bind fun o30 => if o30 = 0 then f_L_match_j250 g0 v8 v9 v10 z.1 z.2 M else if z.1 < 0 then f_L_match_j246 g0 v8 v9 v10 z.2 M else (f_L_part z.2 2 M).bind fun r33 => (f_L_part z.1 2 M).bind fun r34 => if r33 ≤ r34 then f_L_match_j250 g0 v8 v9 v10 z.1 z.2 M else f_L_match_j246 g0 v8 v9 v10 z.2 M else f_L_match_j250 g0 v8 v9 v10 z.1 z.2 M else f_L_match_j250 g0 v8 v9 v10 z.1 z.2 M
def f_L_match_j256 (g0 : Nat) (v8 : Int32) (v9 : Int32) (v10 : Int32) (v11 : Int32) (M : Mem) : Option ((Int32 × Int32 × Mem) ⊕ (Mem)) :=
  (wr M g0 6 v10 v11).bind fun M37 => some (.inl (v8, (v9 + 1), M37))
def f_L_match_l28 (g0 : Nat) (z : Int32 × Int32 × Mem) : Option ((Int32 × Int32 × Mem) ⊕ (Mem)) :=
  (rd z.2.2 93 2 1).bind fun x5 => if x5 ≤ z.2.1 then some (.inr z.2.2) else (rd z.2.2 93 2 1).bind fun x7 => (loopN (f_L_match_l46 g0 z.1 z.2.1 z.2.2) FU ((-1), (x7 - 1))).bind fun o14 => (loopN (f_L_match_l102 g0 (z.1 ||| ((1 : Int32) <<< (o14 &&& 31))) z.2.1 o14 z.2.2) FU ((-1), 0)).bind fun o36 => f_L_match_j256 g0 (z.1 ||| ((1 : Int32) <<< (o14 &&& 31))) z.2.1 o14 o36 z.2.2
def f_L_match (g0 : Nat) (M : Mem) : Option (Mem) :=
  (loopN (f_L_match_l6 g0 0) FU (0, M)).bind fun o4 => (loopN (f_L_match_l28 g0) FU (0, 0, o4)).bind fun o38 => some o38
def f_L_number_j22 (v0 : Int32) (v3 : Int32) (s0 : Int32) (s1 : Int32) (M : Mem) : Option ((Int32 × Int32) ⊕ (Int32)) :=
  some (.inl ((s0 + s1), (v3 + 1)))
def f_L_number_l4 (v0 : Int32) (M : Mem) (z : Int32 × Int32) : Option ((Int32 × Int32) ⊕ (Int32)) :=
  if v0 < z.2 then some (.inr z.1) else (rd M 98 60 z.2).bind fun x2 => if x2 = z.2 then f_L_number_j22 v0 z.2 z.1 1 M else f_L_number_j22 v0 z.2 z.1 0 M
def f_L_number (a0 : Int32) (M : Mem) : Option (Int32) :=
  (loopN (f_L_number_l4 a0 M) FU ((-1), 0)).bind fun o4 => some o4
def f_L_counted_j247 (g0 : Nat) (v0 : Int32) (v9 : Int32) (v10 : Int32) (v11 : Int32) (M : Mem) : Option ((Int32 × Int32 × Int32) ⊕ (Int32)) :=
  some (.inl (v9, v10, (v11 + 1)))
def f_L_counted_j234 (g0 : Nat) (v0 : Int32) (v11 : Int32) (v12 : Int32) (M : Mem) : Option ((Int32 × Int32 × Int32) ⊕ (Int32)) :=
  (f_L_number v11 M).bind fun r16 => f_L_counted_j247 g0 v0 r16 v12 v11 M
def f_L_counted_j206 (g0 : Nat) (v0 : Int32) (v9 : Int32) (v10 : Int32) (v11 : Int32) (v12 : Int32) (M : Mem) : Option ((Int32 × Int32 × Int32) ⊕ (Int32)) :=
  if v0 = 9 then (rd M 98 60 v11).bind fun x13 => if x13 = v11 then if v9 < 0 then f_L_counted_j234 g0 v0 v11 v12 M else if v12 ≤ v10 then f_L_counted_j247 g0 v0 v9 v10 v11 M else f_L_counted_j234 g0 v0 v11 v12 M else f_L_counted_j247 g0 v0 v9 v10 v11 M else f_L_counted_j247 g0 v0 v9 v10 v11 M
def f_L_counted_j193 (g0 : Nat) (v0 : Int32) (v9 : Int32) (v10 : Int32) (v11 : Int32) (v12 : Int32) (M : Mem) : Option ((Int32 × Int32 × Int32) ⊕ (Int32)) :=
  if v0 = 8 then f_L_counted_j206 g0 v0 (v9 + v12) v10 v11 v12 M else f_L_counted_j206 g0 v0 v9 v10 v11 v12 M
def f_L_counted_j190 (g0 : Nat) (v0 : Int32) (v10 : Int32) (v11 : Int32) (v12 : Int32) (s0 : Int32) (s1 : Int32) (M : Mem) : Option ((Int32 × Int32 × Int32) ⊕ (Int32)) :=
  f_L_counted_j193 g0 v0 (s0 + s1) v10 v11 v12 M
def f_L_counted_j170 (g0 : Nat) (v0 : Int32) (v9 : Int32) (v10 : Int32) (v11 : Int32) (v12 : Int32) (M : Mem) : Option ((Int32 × Int32 × Int32) ⊕ (Int32)) :=
  if v0 = 4 then (rd M 97 60 v11).bind fun x18 => if x18 = 0 then f_L_counted_j190 g0 v0 v10 v11 v12 v9 1 M else f_L_counted_j190 g0 v0 v10 v11 v12 v9 0 M else f_L_counted_j193 g0 v0 v9 v10 v11 v12 M
def f_L_counted_j167 (g0 : Nat) (v0 : Int32) (v10 : Int32) (v11 : Int32) (v12 : Int32) (s0 : Int32) (s1 : Int32) (M : Mem) : Option ((Int32 × Int32 × Int32) ⊕ (Int32)) :=
  f_L_counted_j170 g0 v0 (s0 + s1) v10 v11 v12 M
def f_L_counted_j146 (g0 : Nat) (v0 : Int32) (v9 : Int32) (v10 : Int32) (v11 : Int32) (v12 : Int32) (M : Mem) : Option ((Int32 × Int32 × Int32) ⊕ (Int32)) :=
  if v0 = 3 then (f_L_rest v11 M).bind fun r20 => if r20 = 0 then f_L_counted_j167 g0 v0 v10 v11 v12 v9 0 M else f_L_counted_j167 g0 v0 v10 v11 v12 v9 1 M else f_L_counted_j170 g0 v0 v9 v10 v11 v12 M
def f_L_counted_j143 (g0 : Nat) (v0 : Int32) (v10 : Int32) (v11 : Int32) (v12 : Int32) (s0 : Int32) (s1 : Int32) (M : Mem) : Option ((Int32 × Int32 × Int32) ⊕ (Int32)) :=
  f_L_counted_j146 g0 v0 (s0 + s1) v10 v11 v12 M
def f_L_counted_j138 (g0 : Nat) (v0 : Int32) (v10 : Int32) (v11 : Int32) (v12 : Int32) (s0 : Int32) (M : Mem) : Option ((Int32 × Int32 × Int32) ⊕ (Int32)) :=
  f_L_counted_j143 g0 v0 v10 v11 v12 s0 1 M
def f_L_counted_j113 (g0 : Nat) (v0 : Int32) (v9 : Int32) (v10 : Int32) (v11 : Int32) (v12 : Int32) (M : Mem) : Option ((Int32 × Int32 × Int32) ⊕ (Int32)) :=
  if v0 = 2 then (rd M 97 60 v11).bind fun x22 => if x22 = 1 then f_L_counted_j138 g0 v0 v10 v11 v12 v9 M else (rd M 97 60 v11).bind fun x24 => if x24 = 2 then f_L_counted_j138 g0 v0 v10 v11 v12 v9 M else f_L_counted_j143 g0 v0 v10 v11 v12 v9 0 M else f_L_counted_j146 g0 v0 v9 v10 v11 v12 M
def f_L_counted_j110 (g0 : Nat) (v0 : Int32) (v10 : Int32) (v11 : Int32) (v12 : Int32) (s0 : Int32) (s1 : Int32) (M : Mem) : Option ((Int32 × Int32 × Int32) ⊕ (Int32)) :=
  f_L_counted_j113 g0 v0 (s0 + s1) v10 v11 v12 M
def f_L_counted_j105 (g0 : Nat) (v0 : Int32) (v10 : Int32) (v11 : Int32) (v12 : Int32) (s0 : Int32) (M : Mem) : Option ((Int32 × Int32 × Int32) ⊕ (Int32)) :=
  f_L_counted_j110 g0 v0 v10 v11 v12 s0 1 M
def f_L_counted_j79 (g0 : Nat) (v0 : Int32) (v9 : Int32) (v10 : Int32) (v11 : Int32) (s0 : Int32) (M : Mem) : Option ((Int32 × Int32 × Int32) ⊕ (Int32)) :=
  if v0 = 1 then (rd M 97 60 v11).bind fun x26 => if x26 = 0 then f_L_counted_j105 g0 v0 v10 v11 s0 v9 M else (rd M 97 60 v11).bind fun x28 => if x28 = 3 then f_L_counted_j105 g0 v0 v10 v11 s0 v9 M else f_L_counted_j110 g0 v0 v10 v11 s0 v9 0 M else f_L_counted_j113 g0 v0 v9 v10 v11 s0 M
def f_L_counted_l41 (g0 : Nat) (v0 : Int32) (M : Mem) (z : Int32 × Int32 × Int32) : Option ((Int32 × Int32 × Int32) ⊕ (Int32)) :=
  (rd M 93 2 0).bind fun x3 => if x3 ≤ z.2.2 then some (.inr z.1) else (rd M 98 60 z.2.2).bind fun x5 => if x5 = z.2.2 then (f_L_part z.2.2 3 M).bind fun r30 => f_L_counted_j79 g0 v0 z.1 z.2.1 z.2.2 r30 M else f_L_counted_j79 g0 v0 z.1 z.2.1 z.2.2 0 M
def f_L_counted_j285 (g0 : Nat) (v0 : Int32) (v11 : Int32) (s0 : Int32) (s1 : Int32) (M : Mem) : Option ((Int32 × Int32) ⊕ (Int32)) :=
  some (.inl ((s0 + s1), (v11 + 1)))
def f_L_counted_l256 (g0 : Nat) (v0 : Int32) (M : Mem) (z : Int32 × Int32) : Option ((Int32 × Int32) ⊕ (Int32)) :=
  (rd M 93 2 1).bind fun x32 => if x32 ≤ z.2 then some (.inr z.1) else if v0 = 7 then (rd M g0 6 z.2).bind fun x35 => if x35 < 0 then f_L_counted_j285 g0 v0 z.2 z.1 0 M else f_L_counted_j285 g0 v0 z.2 z.1 1 M else some (.inr z.1)
def f_L_counted_j294 (g0 : Nat) (v0 : Int32) (v9 : Int32) (M : Mem) : Option (Int32 × Mem) :=
  if v0 = 0 then (rd M 93 2 0).bind fun x43 => some (x43, M) else if v0 = 5 then (f_L_exceedances M).bind fun r42 => some (r42, M) else if v0 = 6 then (rd M 93 2 1).bind fun x41 => some (x41, M) else some (v9, M)
def f_L_counted_j33 (g0 : Nat) (v0 : Int32) (s0 : Int32) (M : Mem) : Option (Int32 × Mem) :=
  (loopN (f_L_counted_l41 g0 v0 M) FU (s0, 0, 0)).bind fun o31 => (loopN (f_L_counted_l256 g0 v0 M) FU (o31, 0)).bind fun o37 => f_L_counted_j294 g0 v0 o37 M
def f_L_counted_j6 (g0 : Nat) (v0 : Int32) (M : Mem) : Option (Int32 × Mem) :=
  (f_L_match g0 M).bind fun r1 => if v0 = 9 then f_L_counted_j33 g0 v0 (-1) r1 else f_L_counted_j33 g0 v0 0 r1
def f_L_counted (g0 : Nat) (a0 : Int32) (M : Mem) : Option (Int32 × Mem) :=
  f_L_counted_j6 g0 a0 (rset M g0 (fun _ => 0))
def f_L_value_j56 (v1 : Int32) (M : Mem) : Option (Int32) :=
  (f_L_at v1 61 M).bind fun r4 => some r4
def f_L_value_j107 (v1 : Int32) (M : Mem) : Option (Int32) :=
  (f_L_at v1 20 M).bind fun r9 => some (1 + r9)
def f_L_value_j25 (s0 : Int32) (s1 : Int32) (M : Mem) : Option (Int32) :=
  (f_L_at s0 s1 M).bind fun r17 => some r17
def f_L_value (a0 : Int32) (a1 : Int32) (M : Mem) : Option (Int32) :=
  if 2 ≤ a0 then if a0 = 2 then (f_L_at a1 60 M).bind fun r14 => some r14 else if a0 = 3 then f_L_value_j56 a1 M else if a0 = 7 then f_L_value_j56 a1 M else if a0 = 4 then (f_L_at a1 41 M).bind fun r13 => some (1 + r13) else if a0 = 5 then (f_L_at a1 21 M).bind fun r12 => some r12 else if a0 = 6 then f_L_value_j107 a1 M else if a0 = 8 then f_L_value_j107 a1 M else (f_L_at a1 50 M).bind fun r11 => some (1 + r11) else (f_L_at (a1 >>> (9 &&& 31)) 3 M).bind fun r15 => if r15 = 0 then f_L_value_j25 a1 141 M else f_L_value_j25 a1 60 M
def f_L_told_j283 (v1 : Int32) (v12 : Int32) (v13 : Int32) (v15 : Int32) (s0 : Int32) (M : Mem) : Option ((Int32 × Int32) ⊕ (Int32)) :=
  some (.inl (s0, (v15 + 1)))
def f_L_told_l257 (v1 : Int32) (v12 : Int32) (v13 : Int32) (M : Mem) (z : Int32 × Int32) : Option ((Int32 × Int32) ⊕ (Int32)) :=
  (rd M 93 2 1).bind fun x36 => if x36 ≤ z.2 then some (.inr z.1) else (rd M 99 6 z.2).bind fun x38 => if x38 = v12 then f_L_told_j283 v1 v12 v13 z.2 z.2 M else f_L_told_j283 v1 v12 v13 z.2 z.1 M
def f_L_told_l320 (v1 : Int32) (v12 : Int32) (v13 : Int32) (M : Mem) (z : Int32) : Option ((Int32) ⊕ ((Unit) ⊕ (Int32 × Mem))) :=
  if 4 ≤ z then some (.inr (.inl ())) else (f_X8_exceedance v13 (z + 1) M).bind fun r46 => (f_L_part v12 z M).bind fun r47 => if r46 = r47 then some (.inl (z + 1)) else some (.inr (.inr (0, M)))
def f_L_told_j366 (v1 : Int32) (v12 : Int32) (M : Mem) : Option ((Int32) ⊕ ((Unit) ⊕ (Int32 × Mem))) :=
  some (.inl (v12 + 1))
def f_L_told_j224 (v1 : Int32) (v12 : Int32) (s0 : Int32) (s1 : Int32) (M : Mem) : Option ((Int32) ⊕ ((Unit) ⊕ (Int32 × Mem))) :=
  if s0 = s1 then (rd M 98 60 v12).bind fun x33 => if x33 = v12 then (f_L_number v12 M).bind fun r35 => (loopN (f_L_told_l257 v1 v12 r35 M) FU ((-1), 0)).bind fun o40 => (f_X8_exceedance r35 0 M).bind fun r41 => if r41 = v12 then (f_X8_exceedance r35 5 M).bind fun r43 => if r43 = o40 then (loopN (f_L_told_l320 v1 v12 r35 M) FU 0).bind fun o49 => Sum.elim (fun o49 => f_L_told_j366 v1 v12 M) (fun r50 => some (.inr (.inr r50))) o49 else some (.inr (.inr (0, M))) else some (.inr (.inr (0, M))) else f_L_told_j366 v1 v12 M else some (.inr (.inr (0, M)))
def f_L_told_j175 (v1 : Int32) (v12 : Int32) (s0 : Int32) (s1 : Int32) (M : Mem) : Option ((Int32) ⊕ ((Unit) ⊕ (Int32 × Mem))) :=
  if s0 = s1 then (f_X8_minute v12 6 M).bind fun r24 => (rd M 97 60 v12).bind fun x25 => if r24 = x25 then (f_X8_minute v12 7 M).bind fun r27 => (rd M 98 60 v12).bind fun x28 => if 0 ≤ x28 then (rd M 98 60 v12).bind fun x30 => (f_L_number x30 M).bind fun r31 => f_L_told_j224 v1 v12 r27 r31 M else f_L_told_j224 v1 v12 r27 (-1) M else some (.inr (.inr (0, M))) else some (.inr (.inr (0, M)))
def f_L_told_l69 (v1 : Int32) (M : Mem) (z : Int32) : Option ((Int32) ⊕ ((Unit) ⊕ (Int32 × Mem))) :=
  (rd M 93 2 0).bind fun x3 => if x3 ≤ z then some (.inr (.inl ())) else (f_X8_minute z 0 M).bind fun r5 => (rd M 90 60 z).bind fun x6 => if r5 = x6 then (f_X8_minute z 1 M).bind fun r8 => (rd M 91 60 z).bind fun x9 => if r8 = x9 then (f_X8_minute z 2 M).bind fun r11 => (rd M 95 60 z).bind fun x12 => if r11 = x12 then (f_X8_minute z 3 M).bind fun r14 => (rd M 96 60 z).bind fun x15 => if r14 = x15 then (f_X8_minute z 4 M).bind fun r17 => (f_L_limit z M).bind fun r18 => if r17 = r18 then (f_X8_minute z 5 M).bind fun r20 => (f_L_rest z M).bind fun r21 => if r21 = 0 then f_L_told_j175 v1 z r20 0 M else f_L_told_j175 v1 z r20 1 M else some (.inr (.inr (0, M))) else some (.inr (.inr (0, M))) else some (.inr (.inr (0, M))) else some (.inr (.inr (0, M))) else some (.inr (.inr (0, M)))
def f_L_told_j428 (v1 : Int32) (v12 : Int32) (s0 : Int32) (s1 : Int32) (M : Mem) : Option ((Int32) ⊕ ((Unit) ⊕ (Int32 × Mem))) :=
  if s0 = s1 then some (.inl (v12 + 1)) else some (.inr (.inr (0, M)))
def f_L_told_l375 (v1 : Int32) (M : Mem) (z : Int32) : Option ((Int32) ⊕ ((Unit) ⊕ (Int32 × Mem))) :=
  (rd M 93 2 1).bind fun x52 => if x52 ≤ z then some (.inr (.inl ())) else (f_X8_complaint z 0 M).bind fun r54 => (rd M 92 6 z).bind fun x55 => if r54 = x55 then (f_X8_complaint z 1 M).bind fun r57 => (rd M 99 6 z).bind fun x58 => if 0 ≤ x58 then (rd M 99 6 z).bind fun x60 => (f_L_number x60 M).bind fun r61 => f_L_told_j428 v1 z r57 r61 M else f_L_told_j428 v1 z r57 (-1) M else some (.inr (.inr (0, M)))
def f_L_told_l442 (v1 : Int32) (z : Int32 × Mem) : Option ((Int32 × Mem) ⊕ ((Mem) ⊕ (Int32 × Mem))) :=
  if 10 ≤ z.1 then some (.inr (.inl z.2)) else (f_X8_setting z.1 z.2).bind fun r65 => (rd z.2 94 10 z.1).bind fun x66 => if r65 = x66 then (f_X8_count z.1 z.2).bind fun r68 => (f_L_counted 100 z.1 z.2).bind fun r69 => if r68 = r69.1 then some (.inl ((z.1 + 1), r69.2)) else some (.inr (.inr (0, r69.2))) else some (.inr (.inr (0, z.2)))
def f_L_told_j609 (v12 : Int32) (v13 : Int32) (v14 : Int32) (v15 : Int32) (v16 : Int32) (v17 : Int32) (v19 : Int32) (s0 : Int32) (s1 : Int32) (M : Mem) : Option ((Int32 × Int32) ⊕ (Int32)) :=
  some (.inl ((s0 + s1), (v19 + 1)))
def f_L_told_j608 (v12 : Int32) (v13 : Int32) (v14 : Int32) (v15 : Int32) (v16 : Int32) (v17 : Int32) (v19 : Int32) (s0 : Int32) (M : Mem) : Option ((Int32 × Int32) ⊕ (Int32)) :=
  f_L_told_j609 v12 v13 v14 v15 v16 v17 v19 s0 0 M
def f_L_told_j591 (v12 : Int32) (v13 : Int32) (v14 : Int32) (v15 : Int32) (v16 : Int32) (v17 : Int32) (v19 : Int32) (s0 : Int32) (M : Mem) : Option ((Int32 × Int32) ⊕ (Int32)) :=
  (rd M 95 60 v19).bind fun x80 => if x80 < (10 * v17) then f_L_told_j608 v12 v13 v14 v15 v16 v17 v19 s0 M else f_L_told_j609 v12 v13 v14 v15 v16 v17 v19 s0 1 M
def f_L_told_l563 (v12 : Int32) (v13 : Int32) (v14 : Int32) (v15 : Int32) (v16 : Int32) (v17 : Int32) (M : Mem) (z : Int32 × Int32) : Option ((Int32 × Int32) ⊕ (Int32)) :=
  (rd M 93 2 0).bind fun x76 => if x76 ≤ z.2 then some (.inr z.1) else (rd M 97 60 z.2).bind fun x78 => if x78 = 0 then f_L_told_j591 v12 v13 v14 v15 v16 v17 z.2 z.1 M else (rd M 97 60 z.2).bind fun x82 => if x82 = 3 then f_L_told_j591 v12 v13 v14 v15 v16 v17 z.2 z.1 M else f_L_told_j608 v12 v13 v14 v15 v16 v17 z.2 z.1 M
def f_L_told_j659 (v12 : Int32) (v13 : Int32) (v14 : Int32) (v15 : Int32) (v17 : Int32) (s0 : Int32) (M : Mem) : Option ((Int32 × Int32 × Int32) ⊕ (Int32 × Int32)) :=
  some (.inl (v15, s0, (v17 + 1)))
def f_L_told_j657 (v12 : Int32) (v13 : Int32) (v14 : Int32) (v15 : Int32) (v16 : Int32) (v17 : Int32) (M : Mem) : Option ((Int32 × Int32 × Int32) ⊕ (Int32 × Int32)) :=
  f_L_told_j659 v12 v13 v14 v15 v17 v16 M
def f_L_told_j632 (v12 : Int32) (v13 : Int32) (v14 : Int32) (v16 : Int32) (v17 : Int32) (v18 : Int32) (s0 : Int32) (M : Mem) : Option ((Int32 × Int32 × Int32) ⊕ (Int32 × Int32)) :=
  if v14 ≤ 0 then f_L_told_j657 v12 v13 v14 s0 v16 v17 M else if (100 * v18) < (v13 * v14) then f_L_told_j657 v12 v13 v14 s0 v16 v17 M else f_L_told_j659 v12 v13 v14 s0 v17 v17 M
def f_L_told_l549 (v12 : Int32) (v13 : Int32) (v14 : Int32) (M : Mem) (z : Int32 × Int32 × Int32) : Option ((Int32 × Int32 × Int32) ⊕ (Int32 × Int32)) :=
  if 141 ≤ z.2.2 then some (.inr (z.1, z.2.1)) else (loopN (f_L_told_l563 v12 v13 v14 z.1 z.2.1 z.2.2 M) FU (0, 0)).bind fun o84 => if z.2.2 = v12 then f_L_told_j632 v12 v13 v14 z.2.1 z.2.2 o84 o84 M else f_L_told_j632 v12 v13 v14 z.2.1 z.2.2 o84 z.1 M
def f_L_told_j730 (v12 : Int32) (v13 : Int32) (v14 : Int32) (v15 : Int32) (v16 : Int32) (v17 : Int32) (v19 : Int32) (s0 : Int32) (M : Mem) : Option ((Int32 × Int32) ⊕ (Int32)) :=
  some (.inl (s0, (v19 + 1)))
def f_L_told_l699 (v12 : Int32) (v13 : Int32) (v14 : Int32) (v15 : Int32) (v16 : Int32) (v17 : Int32) (M : Mem) (z : Int32 × Int32) : Option ((Int32 × Int32) ⊕ (Int32)) :=
  (rd M 93 2 0).bind fun x91 => if x91 ≤ z.2 then some (.inr z.1) else (rd M 97 60 z.2).bind fun x93 => if x93 = 0 then (rd M 93 2 0).bind fun x95 => f_L_told_j730 v12 v13 v14 v15 v16 v17 z.2 ((x95 - 1) - z.2) M else f_L_told_j730 v12 v13 v14 v15 v16 v17 z.2 z.1 M
def f_L_told_j806 (s0 : UInt64) (s1 : UInt64) (M : Mem) : Option (Int32 × Mem) :=
  if (Op.cmpValue (FP.dcmp s0 s1) .l) = 0 then some (1, M) else some (0, M)
def f_L_told_j781 (v14 : Int32) (v17 : Int32) (s0 : Int32) (s1 : Int32) (M : Mem) : Option (Int32 × Mem) :=
  if s0 = s1 then (f_X8_share M).bind fun r105 => if v14 = 0 then f_L_told_j806 r105 0 M else (dml 0x3ff0000000000000 (FP.i2d v17)).bind fun x107 => (ddv x107 (FP.i2d v14)).bind fun x108 => f_L_told_j806 r105 x108 M else some (0, M)
def f_L_told_j738 (v12 : Int32) (v13 : Int32) (v14 : Int32) (v15 : Int32) (v16 : Int32) (v17 : Int32) (v18 : Int32) (M : Mem) : Option (Int32 × Mem) :=
  (f_X8_levelCount v12 M).bind fun r97 => if r97 = v15 then (f_X8_percentLevel v13 M).bind fun r99 => if r99 = v16 then (f_X8_count 11 M).bind fun r101 => (rd M 94 10 6).bind fun x102 => if x102 ≤ v18 then f_L_told_j781 v14 v17 r101 0 M else f_L_told_j781 v14 v17 r101 1 M else some (0, M) else some (0, M)
def f_L_told_j667 (v12 : Int32) (v13 : Int32) (v14 : Int32) (v15 : Int32) (v16 : Int32) (M : Mem) : Option (Int32 × Mem) :=
  (f_L_counted 100 4 M).bind fun r89 => (rd r89.2 93 2 0).bind fun x90 => (loopN (f_L_told_l699 v12 v13 v14 v15 v16 r89.1 r89.2) FU ((x90 + 100), 0)).bind fun o96 => f_L_told_j738 v12 v13 v14 v15 v16 r89.1 o96 r89.2
def f_L_told_j499 (v1 : Int32) (M : Mem) : Option (Int32 × Mem) :=
  (f_L_at v1 141 M).bind fun r72 => (f_L_at (v1 >>> (3 &&& 31)) 100 M).bind fun r73 => (f_L_counted 100 1 M).bind fun r74 => (loopN (f_L_told_l549 r72 (1 + r73) r74.1 r74.2) FU (0, (-1), 0)).bind fun o88 => f_L_told_j667 r72 (1 + r73) r74.1 o88.1 o88.2 r74.2
def f_L_told_j439 (v1 : Int32) (M : Mem) : Option (Int32 × Mem) :=
  (loopN (f_L_told_l442 v1) FU (0, M)).bind fun o71 => Sum.elim (fun o71 => f_L_told_j499 v1 o71) (fun r110 => some r110) o71
def f_L_told_j372 (v1 : Int32) (M : Mem) : Option (Int32 × Mem) :=
  (loopN (f_L_told_l375 v1 M) FU 0).bind fun o63 => Sum.elim (fun o63 => f_L_told_j439 v1 M) (fun r111 => some r111) o63
def f_L_told_j30 (v1 : Int32) (M : Mem) : Option (Int32 × Mem) :=
  (f_L_lay M).bind fun r1 => (f_L_match 99 r1).bind fun r2 => (loopN (f_L_told_l69 v1 r2) FU 0).bind fun o51 => Sum.elim (fun o51 => f_L_told_j372 v1 r2) (fun r112 => some r112) o51
def f_L_told (a1 : Int32) (M : Mem) : Option (Int32 × Mem) :=
  f_L_told_j30 a1 (rset (rset (rset (rset (rset M 95 (fun _ => 0)) 96 (fun _ => 0)) 97 (fun _ => 0)) 98 (fun _ => 0)) 99 (fun _ => 0))
def f_L_ahead_j198 (v1 : Int32) (v14 : Int32) (v17 : Int32) (v19 : Int32) (s0 : Int32) (M : Mem) : Option ((Int32 × Int32 × Mem) ⊕ (Int32 × Mem)) :=
  some (.inl (s0, (v19 + (-1)), M))
def f_L_ahead_l150 (v1 : Int32) (v14 : Int32) (v17 : Int32) (z : Int32 × Int32 × Mem) : Option ((Int32 × Int32 × Mem) ⊕ (Int32 × Mem)) :=
  if z.2.1 < 0 then some (.inr (z.1, z.2.2)) else (wr z.2.2 94 10 0 z.2.1).bind fun M14 => (f_L_lay M14).bind fun r15 => (f_L_exceedances r15).bind fun r16 => if v17 < r16 then f_L_ahead_j198 v1 v14 v17 z.2.1 z.1 r15 else f_L_ahead_j198 v1 v14 v17 z.2.1 z.2.1 r15
def f_L_ahead_j312 (v19 : Int32) (v20 : Int32) (v22 : Int32) (s0 : Int32) (M : Mem) : Option ((Int32 × Int32) ⊕ (Int32)) :=
  some (.inl (s0, (v22 + 1)))
def f_L_ahead_l284 (v19 : Int32) (v20 : Int32) (M : Mem) (z : Int32 × Int32) : Option ((Int32 × Int32) ⊕ (Int32)) :=
  (rd M 93 2 0).bind fun x28 => if x28 ≤ z.2 then some (.inr z.1) else (rd M 91 60 z.2).bind fun x30 => (rd M 94 10 4).bind fun x31 => if x30 < x31 then f_L_ahead_j312 v19 v20 z.2 z.1 M else f_L_ahead_j312 v19 v20 z.2 z.2 M
def f_L_ahead_j399 (v19 : Int32) (v20 : Int32) (v21 : Int32) (v22 : Int32) (v23 : Int32) (M : Mem) : Option ((Int32 × Int32 × Int32) ⊕ (Int32)) :=
  some (.inl (v20, v22, (v23 + 1)))
def f_L_ahead_l326 (v19 : Int32) (v21 : Int32) (M : Mem) (z : Int32 × Int32 × Int32) : Option ((Int32 × Int32 × Int32) ⊕ (Int32)) :=
  if 100 < z.2.2 then some (.inr z.2.1) else if 0 ≤ z.2.1 then some (.inr z.2.1) else (rd M 93 2 0).bind fun x36 => (rd M 94 10 9).bind fun x37 => (dvI ((10 * v19) - z.1) x37).bind fun x38 => (rd M 94 10 5).bind fun x39 => if (((x36 + z.2.2) - 1) - v21) ≤ x39 then f_L_ahead_j399 v19 (z.1 + x38) v21 z.2.1 z.2.2 M else (f_L_limit ((x36 + z.2.2) - 1) M).bind fun r41 => if (z.1 + x38) ≤ (10 * r41) then f_L_ahead_j399 v19 (z.1 + x38) v21 z.2.1 z.2.2 M else f_L_ahead_j399 v19 (z.1 + x38) v21 z.2.2 z.2.2 M
def f_L_ahead_j405 (v19 : Int32) (v22 : Int32) (M : Mem) : Option (Int32 × Mem) :=
  (f_X8_aboveIn v19 M).bind fun r44 => if r44 = v22 then some (1, M) else some (0, M)
def f_L_ahead_j320 (v19 : Int32) (v20 : Int32) (v21 : Int32) (M : Mem) : Option (Int32 × Mem) :=
  (loopN (f_L_ahead_l326 v19 v21 M) FU (v20, (-1), 1)).bind fun o43 => f_L_ahead_j405 v19 o43 M
def f_L_ahead_j275 (v19 : Int32) (s0 : Int32) (M : Mem) : Option (Int32 × Mem) :=
  (loopN (f_L_ahead_l284 v19 s0 M) FU ((-100), 0)).bind fun o33 => f_L_ahead_j320 v19 s0 o33 M
def f_L_ahead_j206 (v1 : Int32) (v14 : Int32) (v17 : Int32) (v18 : Int32) (M : Mem) : Option (Int32 × Mem) :=
  (wr M 94 10 0 v14).bind fun M19 => (f_X8_leastLimit v17 M19).bind fun r20 => if r20 = v18 then (f_L_lay M19).bind fun r22 => (f_L_at (v1 >>> (7 &&& 31)) 141 r22).bind fun r23 => (rd r22 93 2 0).bind fun x24 => if x24 = 0 then f_L_ahead_j275 r23 0 r22 else (rd r22 93 2 0).bind fun x26 => (rd r22 96 60 (x26 - 1)).bind fun x27 => f_L_ahead_j275 r23 x27 r22 else some (0, M19)
def f_L_ahead_j24 (v1 : Int32) (v2 : Int32) (M : Mem) : Option (Int32 × Mem) :=
  (f_L_at v1 10 M).bind fun r1 => (f_L_at (v1 >>> (4 &&& 31)) 10 M).bind fun r2 => (rd M 94 10 r1).bind fun x3 => (f_L_value r1 v2 M).bind fun r4 => (wr M 94 10 r1 r4).bind fun M5 => (f_L_lay M5).bind fun r6 => (f_L_counted 99 r2 r6).bind fun r7 => (wr r7.2 94 10 r1 x3).bind fun M8 => (f_X8_ifSet r1 r4 r2 M8).bind fun r9 => if r9.1 = r7.1 then (f_L_at (v2 >>> (5 &&& 31)) 4 r9.2).bind fun r11 => (rd r9.2 94 10 0).bind fun x12 => (loopN (f_L_ahead_l150 v1 x12 r11) FU ((-1), 140, r9.2)).bind fun o18 => f_L_ahead_j206 v1 x12 r11 o18.1 o18.2 else some (0, r9.2)
def f_L_ahead (a1 : Int32) (a2 : Int32) (M : Mem) : Option (Int32 × Mem) :=
  f_L_ahead_j24 a1 a2 (rset (rset (rset (rset M 95 (fun _ => 0)) 96 (fun _ => 0)) 97 (fun _ => 0)) 98 (fun _ => 0))
def f_L_act_l125 (v9 : Int32) (v10 : Int32) (v11 : Int32) (z : Int32 × Mem) : Option ((Int32 × Mem) ⊕ (Mem)) :=
  if v11 ≤ z.1 then some (.inr z.2) else (rd z.2 93 2 0).bind fun x15 => (wr z.2 90 60 x15 v9).bind fun M16 => (rd M16 93 2 0).bind fun x17 => (wr M16 91 60 x17 v10).bind fun M18 => (rd M18 93 2 0).bind fun x19 => (wr M18 93 2 0 (x19 + 1)).bind fun M20 => some (.inl ((z.1 + 1), M20))
def f_L_act_j95 (v3 : Int32) (v9 : Int32) (v10 : Int32) (M : Mem) : Option (Int32 × Mem) :=
  (f_L_at (v3 >>> (6 &&& 31)) 12 M).bind fun r11 => (rd M 93 2 0).bind fun x12 => if (x12 + (1 + r11)) ≤ 60 then (loopN (f_L_act_l125 v9 v10 (1 + r11)) FU (0, M)).bind fun o21 => (f_X8_tell v9 v10 (1 + r11) o21).bind fun r22 => (rd r22.2 93 2 0).bind fun x23 => if r22.1 = x23 then some (1, r22.2) else some (0, r22.2) else some (1, M)
def f_L_act_l523 (v11 : Int32) (v12 : Int32) (z : Int32 × Mem) : Option ((Int32 × Mem) ⊕ (Mem)) :=
  (rd z.2 93 2 1).bind fun x45 => if x45 ≤ z.1 then some (.inr z.2) else (rd z.2 92 6 (z.1 + 1)).bind fun x47 => (wr z.2 92 6 z.1 x47).bind fun M48 => some (.inl ((z.1 + 1), M48))
def f_L_act_j437 (s1 : Int32) (s2 : Int32) (s3 : Int32) (M : Mem) : Option (Int32 × Mem) :=
  (f_L_at s2 s3 M).bind fun r57 => (wr M 92 6 s1 r57).bind fun M58 => (rd M58 93 2 1).bind fun x59 => (wr M58 93 2 1 (x59 + 1)).bind fun M60 => (rd M60 93 2 1).bind fun x61 => (rd M60 92 6 (x61 - 1)).bind fun x62 => (f_X8_complain x62 M60).bind fun r63 => (rd r63.2 93 2 1).bind fun x64 => if r63.1 = (x64 - 1) then some (1, r63.2) else some (0, r63.2)
def f_L_act_l292 (v11 : Int32) (z : Int32 × Mem) : Option ((Int32 × Mem) ⊕ (Mem)) :=
  (rd z.2 93 2 0).bind fun x71 => if x71 ≤ z.1 then some (.inr z.2) else (rd z.2 90 60 (z.1 + v11)).bind fun x73 => (wr z.2 90 60 z.1 x73).bind fun M74 => (rd M74 91 60 (z.1 + v11)).bind fun x75 => (wr M74 91 60 z.1 x75).bind fun M76 => some (.inl ((z.1 + 1), M76))
def f_L_act_j371 (v11 : Int32) (v12 : Int32) (s1 : Int32) (s2 : Int32) (M : Mem) : Option ((Int32 × Mem) ⊕ (Mem)) :=
  (wr M 92 6 s1 s2).bind fun M82 => some (.inl ((v12 + 1), M82))
def f_L_act_l336 (v11 : Int32) (z : Int32 × Mem) : Option ((Int32 × Mem) ⊕ (Mem)) :=
  (rd z.2 93 2 1).bind fun x78 => if x78 ≤ z.1 then some (.inr z.2) else (rd z.2 92 6 z.1).bind fun x80 => if x80 ≤ v11 then f_L_act_j371 v11 z.1 z.1 0 z.2 else (rd z.2 92 6 z.1).bind fun x83 => f_L_act_j371 v11 z.1 z.1 (x83 - v11) z.2
def f_L_act_j274 (s0 : Int32) (s1 : Int32) (s2 : Int32) (M : Mem) : Option (Int32 × Mem) :=
  (f_L_at s1 s2 M).bind fun r68 => (rd M 93 2 0).bind fun x69 => (wr M 93 2 0 (x69 - (s0 + r68))).bind fun M70 => (loopN (f_L_act_l292 (s0 + r68)) FU (0, M70)).bind fun o77 => (loopN (f_L_act_l336 (s0 + r68)) FU (0, o77)).bind fun o84 => (f_X8_forget (s0 + r68) o84).bind fun r85 => (rd r85.2 93 2 0).bind fun x86 => if r85.1 = x86 then some (1, r85.2) else some (0, r85.2)
def f_L_act_j80 (v1 : Int32) (v2 : Int32) (v3 : Int32) (v9 : Int32) (s0 : Int32) (M : Mem) : Option (Int32 × Mem) :=
  if v1 < 6 then f_L_act_j95 v3 v9 s0 M else (rd M 93 2 0).bind fun x25 => if x25 = 0 then f_L_act_j95 v3 v9 s0 M else if 8 ≤ v1 then if v1 = 8 then (rd M 93 2 0).bind fun x66 => if 9 ≤ x66 then f_L_act_j274 1 v3 9 M else (rd M 93 2 0).bind fun x88 => f_L_act_j274 1 v3 x88 M else if 11 ≤ v1 then if v1 = 11 then (rd M 93 2 1).bind fun x38 => if x38 = 0 then some (1, M) else (rd M 93 2 1).bind fun x40 => (f_L_at v2 x40 M).bind fun r41 => (f_X8_complaint r41 1 M).bind fun r42 => (rd M 93 2 1).bind fun x43 => (wr M 93 2 1 (x43 - 1)).bind fun M44 => (loopN (f_L_act_l523 r41 r42) FU (r41, M44)).bind fun o49 => (f_X8_withdraw r41 o49).bind fun r50 => if r50.1 = r42 then some (1, r50.2) else some (0, r50.2) else (f_L_at v2 10 M).bind fun r31 => (rd M 94 10 r31).bind fun x32 => (f_L_value r31 v3 M).bind fun r33 => (wr M 94 10 r31 r33).bind fun M34 => (rd M34 94 10 r31).bind fun x35 => (f_X8_set r31 x35 M34).bind fun r36 => if r36.1 = x32 then some (1, r36.2) else some (0, r36.2) else (rd M 93 2 1).bind fun x52 => if x52 = 6 then some (1, M) else (rd M 93 2 1).bind fun x54 => (f_L_at v2 3 M).bind fun r55 => if r55 = 0 then f_L_act_j437 x54 v3 301 M else f_L_act_j437 x54 v3 60 M else (rd M 93 2 0).bind fun x89 => (f_L_at (v2 >>> (9 &&& 31)) x89 M).bind fun r90 => (wr M 90 60 r90 v9).bind fun M91 => (wr M91 91 60 r90 s0).bind fun M92 => (f_X8_correct r90 v9 s0 M92).bind fun r93 => (f_X8_count 5 r93.2).bind fun r94 => if r93.1 = r94 then some (1, r93.2) else some (0, r93.2)
def f_L_act_j53 (v1 : Int32) (v2 : Int32) (v3 : Int32) (v9 : Int32) (M : Mem) : Option (Int32 × Mem) :=
  (f_L_at v3 4 M).bind fun r7 => if r7 = 0 then (f_L_at (v3 >>> (2 &&& 31)) 41 M).bind fun r96 => f_L_act_j80 v1 v2 v3 v9 r96 M else (f_L_at (v3 >>> (2 &&& 31)) 12 M).bind fun r9 => f_L_act_j80 v1 v2 v3 v9 r9 M
def f_L_act_j37 (v1 : Int32) (v2 : Int32) (v3 : Int32) (s0 : Int32) (s1 : Int32) (M : Mem) : Option (Int32 × Mem) :=
  if (s0 + s1) ≤ 140 then f_L_act_j53 v1 v2 v3 (s0 + s1) M else f_L_act_j53 v1 v2 v3 140 M
def f_L_act_j19 (v1 : Int32) (v2 : Int32) (v3 : Int32) (s0 : Int32) (s1 : Int32) (M : Mem) : Option (Int32 × Mem) :=
  (f_L_at s0 s1 M).bind fun r3 => (f_L_at v2 3 M).bind fun r4 => if r4 = 1 then f_L_act_j37 v1 v2 v3 r3 50 M else f_L_act_j37 v1 v2 v3 r3 0 M
def f_L_act (a1 : Int32) (a2 : Int32) (a3 : Int32) (M : Mem) : Option (Int32 × Mem) :=
  (f_L_at a2 3 M).bind fun r1 => if r1 = 0 then f_L_act_j19 a1 a2 a3 (a2 >>> (2 &&& 31)) 141 M else f_L_act_j19 a1 a2 a3 (a2 >>> (2 &&& 31)) 60 M
