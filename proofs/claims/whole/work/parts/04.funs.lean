/-! what each method does, as a function; by wip/whole/gen/emit.py out of the bytecode -/
def f_X0_begin (b0 : Nat) (a1 : Int32) (M : Mem) : Option (Mem) :=
  if 100 ≤ (M b0 6) then some M else (wr M (b0 + 1) 100 (M b0 6) a1).bind fun M2 => (wr M2 (b0 + 3) 100 (M2 b0 6) 0).bind fun M3 => (wr M3 (b0 + 4) 100 (M3 b0 6) 0).bind fun M4 => (wr M4 (b0 + 5) 100 (M4 b0 6) 0).bind fun M5 => (stf M5 b0 6 ((M5 b0 6) + 1)).bind fun M6 => some M6
def f_J9_floorMod_7cf53 (a0 : Int32) (a1 : Int32) (M : Mem) : Option (Int32) :=
  (rmI a0 a1).bind fun x1 => if 0 ≤ (a0 ^^^ a1) then some x1 else if x1 = 0 then some x1 else some (x1 + a1)
def f_X8_isRest (g0 : Nat) (a0 : Int32) (M : Mem) : Option (Int32) :=
  (rd M g0 10 2).bind fun x1 => (f_J9_floorMod_7cf53 (a0 - x1) 60 M).bind fun r2 => (rd M g0 10 3).bind fun x3 => if x3 ≤ r2 then some 0 else some 1
def f_X8_limitAt (g0 : Nat) (a0 : Int32) (M : Mem) : Option (Int32) :=
  (f_X8_isRest g0 a0 M).bind fun r1 => if r1 = 0 then (rd M g0 10 0).bind fun x3 => some x3 else (rd M g0 10 1).bind fun x4 => some x4
def f_X0_extend (b0 : Nat) (a1 : Int32) (a2 : Int32) (a3 : Int32) (M : Mem) : Option (Mem) :=
  if ((M b0 6) - 1) < 0 then some M else (wr M (b0 + 2) 100 ((M b0 6) - 1) a1).bind fun M2 => (rd M2 (b0 + 3) 100 ((M b0 6) - 1)).bind fun x3 => (wr M2 (b0 + 3) 100 ((M b0 6) - 1) (x3 + 1)).bind fun M4 => (rd M4 (b0 + 4) 100 ((M b0 6) - 1)).bind fun x5 => (wr M4 (b0 + 4) 100 ((M b0 6) - 1) (mxI x5 a2)).bind fun M6 => (rd M6 (b0 + 5) 100 ((M b0 6) - 1)).bind fun x7 => (wr M6 (b0 + 5) 100 ((M b0 6) - 1) (x7 + a3)).bind fun M8 => some M8
def f_X0_markOwners_l17 (b0 : Nat) (v1 : Int32) (z : Int32 × Mem) : Option ((Int32 × Mem) ⊕ (Mem)) :=
  (rd z.2 (b0 + 2) 100 v1).bind fun x3 => if x3 < z.1 then some (.inr z.2) else (wr z.2 (b0 + 6) 200 z.1 v1).bind fun M5 => some (.inl ((z.1 + 1), M5))
def f_X0_markOwners_l2 (b0 : Nat) (z : Int32 × Mem) : Option ((Int32 × Mem) ⊕ (Mem)) :=
  if (z.2 b0 6) ≤ z.1 then some (.inr z.2) else (rd z.2 (b0 + 1) 100 z.1).bind fun x2 => (loopN (f_X0_markOwners_l17 b0 z.1) FU (x2, z.2)).bind fun o6 => some (.inl ((z.1 + 1), o6))
def f_X0_markOwners (b0 : Nat) (M : Mem) : Option (Mem) :=
  (loopN (f_X0_markOwners_l2 b0) FU (0, M)).bind fun o7 => some o7
def f_X0_find_j98 (b0 : Nat) (b1 : Nat) (g2 : Nat) (v3 : Int32) (v4 : Int32) (v5 : Int32) (M : Mem) : Option ((Int32 × Int32 × Mem) ⊕ (Int32 × Mem)) :=
  some (.inl (v4, (v5 + 1), M))
def f_X0_find_j55 (b0 : Nat) (b1 : Nat) (g2 : Nat) (v3 : Int32) (v5 : Int32) (M : Mem) : Option ((Int32 × Int32 × Mem) ⊕ (Int32 × Mem)) :=
  (rd M (b1 + 2) 200 v5).bind fun x8 => (f_X8_limitAt g2 v5 M).bind fun r9 => (rd M (b1 + 1) 200 v5).bind fun x10 => (f_X0_extend b0 v5 x10 (x8 - (10 * r9)) M).bind fun r11 => f_X0_find_j98 b0 b1 g2 v3 0 v5 r11
def f_X0_find_l16 (b0 : Nat) (b1 : Nat) (g2 : Nat) (v3 : Int32) (z : Int32 × Int32 × Mem) : Option ((Int32 × Int32 × Mem) ⊕ (Int32 × Mem)) :=
  if (z.2.2 b1 3) ≤ z.2.1 then some (.inr (z.1, z.2.2)) else (wr z.2.2 (b0 + 6) 200 z.2.1 (-1)).bind fun M4 => (rd M4 (b1 + 3) 200 z.2.1).bind fun x5 => if x5 = 0 then if z.1 < v3 then f_X0_find_j55 b0 b1 g2 v3 z.2.1 M4 else (f_X0_begin b0 z.2.1 M4).bind fun r12 => f_X0_find_j55 b0 b1 g2 v3 z.2.1 r12 else f_X0_find_j98 b0 b1 g2 v3 (z.1 + 1) z.2.1 M4
def f_X0_find_j116 (b0 : Nat) (b1 : Nat) (g2 : Nat) (s1 : Int32) (M : Mem) : Option (Mem) :=
  (stz M b0 7 s1).bind fun M15 => (f_X0_markOwners b0 M15).bind fun r16 => some r16
def f_X0_find (b0 : Nat) (b1 : Nat) (g2 : Nat) (M : Mem) : Option (Mem) :=
  (rd M g2 10 6).bind fun x1 => (stf M b0 6 0).bind fun M2 => (loopN (f_X0_find_l16 b0 b1 g2 x1) FU (x1, 0, M2)).bind fun o13 => if x1 ≤ o13.1 then f_X0_find_j116 b0 b1 g2 0 o13.2 else f_X0_find_j116 b0 b1 g2 1 o13.2
def f_X0_weightOfAll_l4 (b0 : Nat) (M : Mem) (z : Int32 × Int32) : Option ((Int32 × Int32) ⊕ (Int32)) :=
  if (M b0 6) ≤ z.2 then some (.inr z.1) else (rd M (b0 + 5) 100 z.2).bind fun x2 => some (.inl ((z.1 + x2), (z.2 + 1)))
def f_X0_weightOfAll (b0 : Nat) (M : Mem) : Option (Int32) :=
  (loopN (f_X0_weightOfAll_l4 b0 M) FU (0, 0)).bind fun o3 => some o3
def f_X0_heaviest_j34 (b0 : Nat) (v1 : Int32) (v2 : Int32) (M : Mem) : Option ((Int32 × Int32) ⊕ (Int32)) :=
  some (.inl (v1, (v2 + 1)))
def f_X0_heaviest_j32 (b0 : Nat) (v2 : Int32) (M : Mem) : Option ((Int32 × Int32) ⊕ (Int32)) :=
  f_X0_heaviest_j34 b0 v2 v2 M
def f_X0_heaviest_l4 (b0 : Nat) (M : Mem) (z : Int32 × Int32) : Option ((Int32 × Int32) ⊕ (Int32)) :=
  if (M b0 6) ≤ z.2 then some (.inr z.1) else if z.1 = (-1) then f_X0_heaviest_j32 b0 z.2 M else (rd M (b0 + 5) 100 z.2).bind fun x3 => (rd M (b0 + 5) 100 z.1).bind fun x4 => if x3 ≤ x4 then f_X0_heaviest_j34 b0 z.1 z.2 M else f_X0_heaviest_j32 b0 z.2 M
def f_X0_heaviest (b0 : Nat) (M : Mem) : Option (Int32) :=
  (loopN (f_X0_heaviest_l4 b0 M) FU ((-1), 0)).bind fun o6 => some o6
def f_X5_takeOver (b0 : Nat) (b1 : Nat) (M : Mem) : Option (Mem) :=
  (cpy M (b1 + 1) 200 0 (b0 + 1) 200 0 200).bind fun M1 => (cpy M1 (b1 + 2) 200 0 (b0 + 2) 200 0 200).bind fun M2 => (cpy M2 (b1 + 3) 10 0 (b0 + 3) 10 0 10).bind fun M3 => (cpy M3 (b1 + 4) 20 0 (b0 + 4) 20 0 20).bind fun M4 => (stf M4 b0 4 (M4 b1 4)).bind fun M5 => (stf M5 b0 5 (M5 b1 5)).bind fun M6 => some M6
def f_X1_keep (b0 : Nat) (M : Mem) : Option (Mem) :=
  (rgI (M 46 1)).bind fun k1 => (f_X5_takeOver (6 + 5 * k1) b0 M).bind fun r2 => (rmI ((r2 46 1) + 1) 8).bind fun x3 => (stf r2 46 1 x3).bind fun M4 => (stf M4 46 2 (mnI ((M4 46 2) + 1) 8)).bind fun M5 => some M5
def f_X1_giveBack (b0 : Nat) (M : Mem) : Option (Mem) :=
  (rmI (((M 46 1) + 8) - 1) 8).bind fun x1 => (stf M 46 1 x1).bind fun M2 => (stf M2 46 2 ((M2 46 2) - 1)).bind fun M3 => (rgI (M3 46 1)).bind fun k4 => (f_X5_takeOver b0 (6 + 5 * k4) M3).bind fun r5 => some r5
def f_X4_isCounted_j19 (b0 : Nat) (M : Mem) : Option (Int32) :=
  some 1
def f_X4_isCounted (b0 : Nat) (a1 : Int32) (M : Mem) : Option (Int32) :=
  (rd M (b0 + 3) 200 a1).bind fun x1 => if x1 = 0 then f_X4_isCounted_j19 b0 M else (rd M (b0 + 3) 200 a1).bind fun x3 => if x3 = 3 then f_X4_isCounted_j19 b0 M else some 0
def f_X2_highestReached (a0 : Int32) (M : Mem) : Option (Int32) :=
  (dvI a0 10).bind fun x1 => some (mxI (0 : Int32) (mnI (140 : Int32) x1))
def f_X2_tally_l2 (b0 : Nat) (z : Int32 × Mem) : Option ((Int32 × Mem) ⊕ (Mem)) :=
  if 140 < z.1 then some (.inr z.2) else (wr z.2 89 141 z.1 0).bind fun M2 => some (.inl ((z.1 + 1), M2))
def f_X2_tally_j58 (b0 : Nat) (v2 : Int32) (M : Mem) : Option ((Int32 × Mem) ⊕ (Mem)) :=
  some (.inl ((v2 + 1), M))
def f_X2_tally_l24 (b0 : Nat) (z : Int32 × Mem) : Option ((Int32 × Mem) ⊕ (Mem)) :=
  if (z.2 b0 3) ≤ z.1 then some (.inr z.2) else (f_X4_isCounted b0 z.1 z.2).bind fun r5 => if r5 = 0 then f_X2_tally_j58 b0 z.1 z.2 else (rd z.2 (b0 + 1) 200 z.1).bind fun x7 => (f_X2_highestReached x7 z.2).bind fun r8 => (rd z.2 89 141 r8).bind fun x9 => (wr z.2 89 141 r8 (x9 + 1)).bind fun M10 => f_X2_tally_j58 b0 z.1 M10
def f_X2_tally_l68 (b0 : Nat) (z : Int32 × Mem) : Option ((Int32 × Mem) ⊕ (Mem)) :=
  if z.1 < 0 then some (.inr z.2) else (rd z.2 89 141 z.1).bind fun x13 => (rd z.2 89 141 (z.1 + 1)).bind fun x14 => (wr z.2 89 141 z.1 (x13 + x14)).bind fun M15 => some (.inl ((z.1 + (-1)), M15))
def f_X2_tally (b0 : Nat) (M : Mem) : Option (Mem) :=
  (loopN (f_X2_tally_l2 b0) FU (0, M)).bind fun o3 => (loopN (f_X2_tally_l24 b0) FU (0, o3)).bind fun o11 => (loopN (f_X2_tally_l68 b0) FU (139, o11)).bind fun o16 => some o16
def f_X2_levelOfPercent_l11 (v1 : Int32) (v2 : Int32) (M : Mem) (z : Int32) : Option ((Int32) ⊕ ((Unit) ⊕ (Int32))) :=
  if z ≤ 0 then some (.inr (.inl ())) else (rd M 89 141 z).bind fun x3 => if (x3 * 100) < (v1 * v2) then some (.inl (z + (-1))) else some (.inr (.inr z))
def f_X2_levelOfPercent (a1 : Int32) (a2 : Int32) (M : Mem) : Option (Int32) :=
  if 1 ≤ a2 then (loopN (f_X2_levelOfPercent_l11 a1 a2 M) FU 140).bind fun o5 => Sum.elim (fun o5 => some 0) (fun r6 => some r6) o5 else some (-1)
def f_X3_putInOrder_l20 (b0 : Nat) (b1 : Nat) (v2 : Int32) (v3 : Int32) (z : Int32 × Mem) : Option ((Int32 × Mem) ⊕ (Int32 × Mem)) :=
  if z.1 ≤ 0 then some (.inr (z.1, z.2)) else (rd z.2 (b0 + 3) 20 (z.1 - 1)).bind fun x4 => (rd z.2 (b1 + 4) 20 x4).bind fun x5 => if x5 ≤ v3 then some (.inr (z.1, z.2)) else (rd z.2 (b0 + 3) 20 (z.1 - 1)).bind fun x7 => (wr z.2 (b0 + 3) 20 z.1 x7).bind fun M8 => some (.inl ((z.1 + (-1)), M8))
def f_X3_putInOrder_j65 (b0 : Nat) (b1 : Nat) (v2 : Int32) (v4 : Int32) (M : Mem) : Option ((Int32 × Mem) ⊕ (Mem)) :=
  (wr M (b0 + 3) 20 v4 v2).bind fun M10 => some (.inl ((v2 + 1), M10))
def f_X3_putInOrder_l2 (b0 : Nat) (b1 : Nat) (z : Int32 × Mem) : Option ((Int32 × Mem) ⊕ (Mem)) :=
  if (z.2 b0 3) ≤ z.1 then some (.inr z.2) else (rd z.2 (b1 + 4) 20 z.1).bind fun x2 => (loopN (f_X3_putInOrder_l20 b0 b1 z.1 x2) FU (z.1, z.2)).bind fun o9 => f_X3_putInOrder_j65 b0 b1 z.1 o9.1 o9.2
def f_X3_putInOrder (b0 : Nat) (b1 : Nat) (M : Mem) : Option (Mem) :=
  (loopN (f_X3_putInOrder_l2 b0 b1) FU (0, M)).bind fun o11 => some o11
def f_X3_bestFor_j101 (b0 : Nat) (b1 : Nat) (v1 : Int32) (v3 : Int32) (v4 : Int32) (v5 : Int32) (M : Mem) : Option ((Int32 × Int32) ⊕ (Int32)) :=
  some (.inl (v4, (v5 + 1)))
def f_X3_bestFor_j97 (b0 : Nat) (b1 : Nat) (v1 : Int32) (v3 : Int32) (v5 : Int32) (M : Mem) : Option ((Int32 × Int32) ⊕ (Int32)) :=
  f_X3_bestFor_j101 b0 b1 v1 v3 v5 v5 M
def f_X3_bestFor_j62 (b0 : Nat) (b1 : Nat) (v1 : Int32) (v3 : Int32) (v4 : Int32) (v5 : Int32) (v6 : Int32) (s0 : Int32) (M : Mem) : Option ((Int32 × Int32) ⊕ (Int32)) :=
  if v6 = 0 then f_X3_bestFor_j101 b0 b1 v1 v3 v4 v5 M else if s0 = 0 then f_X3_bestFor_j101 b0 b1 v1 v3 v4 v5 M else if v4 = (-1) then f_X3_bestFor_j97 b0 b1 v1 v3 v5 M else (rd M (b1 + 4) 100 v5).bind fun x9 => (rd M (b1 + 4) 100 v4).bind fun x10 => if x9 ≤ x10 then f_X3_bestFor_j101 b0 b1 v1 v3 v4 v5 M else f_X3_bestFor_j97 b0 b1 v1 v3 v5 M
def f_X3_bestFor_j61 (b0 : Nat) (b1 : Nat) (v1 : Int32) (v3 : Int32) (v4 : Int32) (v5 : Int32) (v6 : Int32) (M : Mem) : Option ((Int32 × Int32) ⊕ (Int32)) :=
  f_X3_bestFor_j62 b0 b1 v1 v3 v4 v5 v6 0 M
def f_X3_bestFor_j31 (b0 : Nat) (b1 : Nat) (v1 : Int32) (v3 : Int32) (v4 : Int32) (v5 : Int32) (s0 : Int32) (M : Mem) : Option ((Int32 × Int32) ⊕ (Int32)) :=
  (rd M (b1 + 1) 100 v5).bind fun x4 => if v1 < x4 then f_X3_bestFor_j61 b0 b1 v1 v3 v4 v5 s0 M else (rd M (b1 + 2) 100 v5).bind fun x12 => if x12 < (v1 - v3) then f_X3_bestFor_j61 b0 b1 v1 v3 v4 v5 s0 M else f_X3_bestFor_j62 b0 b1 v1 v3 v4 v5 s0 1 M
def f_X3_bestFor_l6 (b0 : Nat) (b1 : Nat) (v1 : Int32) (v3 : Int32) (M : Mem) (z : Int32 × Int32) : Option ((Int32 × Int32) ⊕ (Int32)) :=
  if (M b1 6) ≤ z.2 then some (.inr z.1) else (rd M (b0 + 2) 100 z.2).bind fun x2 => if x2 = (-1) then f_X3_bestFor_j31 b0 b1 v1 v3 z.1 z.2 1 M else f_X3_bestFor_j31 b0 b1 v1 v3 z.1 z.2 0 M
def f_X3_bestFor (b0 : Nat) (b1 : Nat) (a1 : Int32) (a3 : Int32) (M : Mem) : Option (Int32) :=
  (loopN (f_X3_bestFor_l6 b0 b1 a1 a3 M) FU ((-1), 0)).bind fun o14 => some o14
def f_X3_match_l16 (b0 : Nat) (b1 : Nat) (b2 : Nat) (v3 : Int32) (z : Int32 × Mem) : Option ((Int32 × Mem) ⊕ (Mem)) :=
  if (z.2 b2 6) ≤ z.1 then some (.inr z.2) else (wr z.2 (b0 + 2) 100 z.1 (-1)).bind fun M4 => some (.inl ((z.1 + 1), M4))
def f_X3_match_j118 (b0 : Nat) (b1 : Nat) (b2 : Nat) (v3 : Int32) (v4 : Int32) (M : Mem) : Option ((Int32 × Mem) ⊕ (Mem)) :=
  some (.inl ((v4 + 1), M))
def f_X3_match_l47 (b0 : Nat) (b1 : Nat) (b2 : Nat) (v3 : Int32) (z : Int32 × Mem) : Option ((Int32 × Mem) ⊕ (Mem)) :=
  if (z.2 b0 3) ≤ z.1 then some (.inr z.2) else (rd z.2 (b0 + 3) 20 z.1).bind fun x8 => (rd z.2 (b1 + 4) 20 x8).bind fun x9 => (f_X3_bestFor b0 b2 x9 v3 z.2).bind fun r10 => (wr z.2 (b0 + 1) 20 x8 r10).bind fun M11 => if r10 = (-1) then f_X3_match_j118 b0 b1 b2 v3 z.1 M11 else (wr M11 (b0 + 2) 100 r10 x8).bind fun M13 => (stf M13 b0 4 ((M13 b0 4) + 1)).bind fun M14 => f_X3_match_j118 b0 b1 b2 v3 z.1 M14
def f_X3_match (b0 : Nat) (b1 : Nat) (b2 : Nat) (a3 : Int32) (M : Mem) : Option (Mem) :=
  (stf M b0 3 (M b1 5)).bind fun M1 => (stf M1 b0 4 0).bind fun M2 => (loopN (f_X3_match_l16 b0 b1 b2 a3) FU (0, M2)).bind fun o5 => (f_X3_putInOrder b0 b1 o5).bind fun r6 => (loopN (f_X3_match_l47 b0 b1 b2 a3) FU (0, r6)).bind fun o15 => some o15
def f_X8_moved (a0 : Int32) (a1 : Int32) (a2 : Int32) (M : Mem) : Option (Int32) :=
  if 1 ≤ a2 then (dvI ((10 * a1) - a0) a2).bind fun x2 => some (a0 + x2) else some a0
def f_X4_moveArms_l16 (b0 : Nat) (b1 : Nat) (g2 : Nat) (z : Int32 × Int32 × Int32 × Mem) : Option ((Int32 × Int32 × Int32 × Mem) ⊕ (Mem)) :=
  if (z.2.2.2 b0 3) ≤ z.2.2.1 then some (.inr z.2.2.2) else (rd z.2.2.2 (b1 + 1) 200 z.2.2.1).bind fun x3 => (rd z.2.2.2 g2 10 8).bind fun x4 => (f_X8_moved z.1 x3 x4 z.2.2.2).bind fun r5 => (rd z.2.2.2 (b1 + 1) 200 z.2.2.1).bind fun x6 => (rd z.2.2.2 g2 10 9).bind fun x7 => (f_X8_moved z.2.1 x6 x7 z.2.2.2).bind fun r8 => (wr z.2.2.2 (b0 + 1) 200 z.2.2.1 r5).bind fun M9 => (wr M9 (b0 + 2) 200 z.2.2.1 r8).bind fun M10 => some (.inl (r5, r8, (z.2.2.1 + 1), M10))
def f_X4_moveArms (b0 : Nat) (b1 : Nat) (g2 : Nat) (M : Mem) : Option (Mem) :=
  (stf M b0 3 (M b1 4)).bind fun M1 => (loopN (f_X4_moveArms_l16 b0 b1 g2) FU (0, 0, 0, M1)).bind fun o11 => some o11
def f_X4_isSoonAfterWind (b0 : Nat) (a1 : Int32) (a2 : Int32) (M : Mem) : Option (Int32) :=
  if (M b0 7) = (-1) then some 0 else if a2 < (a1 - (M b0 7)) then some 0 else some 1
def f_X4_judge_j103 (b0 : Nat) (b1 : Nat) (g2 : Nat) (v3 : Int32) (M : Mem) : Option ((Int32 × Mem) ⊕ (Mem)) :=
  some (.inl ((v3 + 1), M))
def f_X4_judge_j102 (b0 : Nat) (b1 : Nat) (g2 : Nat) (v3 : Int32) (s1 : Int32) (s2 : Int32) (M : Mem) : Option ((Int32 × Mem) ⊕ (Mem)) :=
  (wr M (b0 + 3) 200 s1 s2).bind fun M13 => f_X4_judge_j103 b0 b1 g2 v3 M13
def f_X4_judge_j85 (b0 : Nat) (b1 : Nat) (g2 : Nat) (v3 : Int32) (s0 : Int32) (M : Mem) : Option ((Int32 × Mem) ⊕ (Mem)) :=
  if s0 = 0 then f_X4_judge_j102 b0 b1 g2 v3 v3 3 M else f_X4_judge_j102 b0 b1 g2 v3 v3 0 M
def f_X4_judge_l7 (b0 : Nat) (b1 : Nat) (g2 : Nat) (z : Int32 × Mem) : Option ((Int32 × Mem) ⊕ (Mem)) :=
  if (z.2 b0 3) ≤ z.1 then some (.inr z.2) else (rd z.2 (b1 + 2) 200 z.1).bind fun x3 => (rd z.2 g2 10 4).bind fun x4 => if x3 < x4 then (rd z.2 g2 10 5).bind fun x6 => (f_X4_isSoonAfterWind b0 z.1 x6 z.2).bind fun r7 => if r7 = 0 then (rd z.2 (b0 + 2) 200 z.1).bind fun x9 => (f_X8_limitAt g2 z.1 z.2).bind fun r10 => if x9 ≤ (10 * r10) then f_X4_judge_j85 b0 b1 g2 z.1 0 z.2 else f_X4_judge_j85 b0 b1 g2 z.1 1 z.2 else (wr z.2 (b0 + 3) 200 z.1 2).bind fun M14 => f_X4_judge_j103 b0 b1 g2 z.1 M14 else (wr z.2 (b0 + 3) 200 z.1 1).bind fun M15 => (stf M15 b0 7 z.1).bind fun M16 => f_X4_judge_j103 b0 b1 g2 z.1 M16
def f_X4_judge (b0 : Nat) (b1 : Nat) (g2 : Nat) (M : Mem) : Option (Mem) :=
  (stf M b0 7 (-1)).bind fun M1 => (loopN (f_X4_judge_l7 b0 b1 g2) FU (0, M1)).bind fun o17 => some o17
def f_X4_tally_j88 (b0 : Nat) (g1 : Nat) (v2 : Int32) (s1 : Int32) (s2 : Int32) (M : Mem) : Option ((Int32 × Mem) ⊕ (Mem)) :=
  (stf M b0 6 (s1 + s2)).bind fun M13 => some (.inl ((v2 + 1), M13))
def f_X4_tally_j65 (b0 : Nat) (g1 : Nat) (v2 : Int32) (s1 : Int32) (s2 : Int32) (M : Mem) : Option ((Int32 × Mem) ⊕ (Mem)) :=
  (stf M b0 5 (s1 + s2)).bind fun M10 => (rd M10 (b0 + 3) 200 v2).bind fun x11 => if x11 = 0 then f_X4_tally_j88 b0 g1 v2 (M10 b0 6) 1 M10 else f_X4_tally_j88 b0 g1 v2 (M10 b0 6) 0 M10
def f_X4_tally_j43 (b0 : Nat) (g1 : Nat) (v2 : Int32) (s1 : Int32) (s2 : Int32) (M : Mem) : Option ((Int32 × Mem) ⊕ (Mem)) :=
  (stf M b0 4 (s1 + s2)).bind fun M7 => (f_X8_isRest g1 v2 M7).bind fun r8 => if r8 = 0 then f_X4_tally_j65 b0 g1 v2 (M7 b0 5) 0 M7 else f_X4_tally_j65 b0 g1 v2 (M7 b0 5) 1 M7
def f_X4_tally_l17 (b0 : Nat) (g1 : Nat) (z : Int32 × Mem) : Option ((Int32 × Mem) ⊕ (Mem)) :=
  if (z.2 b0 3) ≤ z.1 then some (.inr z.2) else (f_X4_isCounted b0 z.1 z.2).bind fun r5 => if r5 = 0 then f_X4_tally_j43 b0 g1 z.1 (z.2 b0 4) 0 z.2 else f_X4_tally_j43 b0 g1 z.1 (z.2 b0 4) 1 z.2
def f_X4_tally (b0 : Nat) (g1 : Nat) (M : Mem) : Option (Mem) :=
  (stf M b0 4 0).bind fun M1 => (stf M1 b0 5 0).bind fun M2 => (stf M2 b0 6 0).bind fun M3 => (loopN (f_X4_tally_l17 b0 g1) FU (0, M3)).bind fun o14 => some o14
def f_X4_lastSlowPlace (b0 : Nat) (M : Mem) : Option (Int32) :=
  if 1 ≤ (M b0 3) then (rd M (b0 + 2) 200 ((M b0 3) - 1)).bind fun x2 => some x2 else some 0
def f_X4_shareAbove (b0 : Nat) (M : Mem) : Option (UInt64) :=
  if 1 ≤ (M b0 4) then (ddv (FP.i2d (M b0 6)) (FP.i2d (M b0 4))).bind fun x2 => some x2 else some 0
def f_X5_hasMinute (b0 : Nat) (a1 : Int32) (M : Mem) : Option (Int32) :=
  if a1 < 0 then some 0 else if (M b0 4) ≤ a1 then some 0 else some 1
def f_X5_hasComplaint (b0 : Nat) (a1 : Int32) (M : Mem) : Option (Int32) :=
  if a1 < 0 then some 0 else if (M b0 5) ≤ a1 then some 0 else some 1
def f_X5_addMinutes_l3 (b0 : Nat) (v1 : Int32) (v2 : Int32) (v3 : Int32) (z : Int32 × Mem) : Option ((Int32 × Mem) ⊕ (Mem)) :=
  if v3 ≤ z.1 then some (.inr z.2) else if 200 ≤ (z.2 b0 4) then some (.inr z.2) else (wr z.2 (b0 + 1) 200 (z.2 b0 4) v1).bind fun M3 => (wr M3 (b0 + 2) 200 (M3 b0 4) v2).bind fun M4 => (stf M4 b0 4 ((M4 b0 4) + 1)).bind fun M5 => some (.inl ((z.1 + 1), M5))
def f_X5_addMinutes (b0 : Nat) (a1 : Int32) (a2 : Int32) (a3 : Int32) (M : Mem) : Option (Mem) :=
  (loopN (f_X5_addMinutes_l3 b0 a1 a2 a3) FU (0, M)).bind fun o6 => some o6
def f_X5_dropMinutes_l9 (b0 : Nat) (v1 : Int32) (v2 : Int32) (z : Int32 × Mem) : Option ((Int32 × Mem) ⊕ (Mem)) :=
  if v2 ≤ z.1 then some (.inr z.2) else (rd z.2 (b0 + 1) 200 (z.1 + v1)).bind fun x2 => (wr z.2 (b0 + 1) 200 z.1 x2).bind fun M3 => (rd M3 (b0 + 2) 200 (z.1 + v1)).bind fun x4 => (wr M3 (b0 + 2) 200 z.1 x4).bind fun M5 => some (.inl ((z.1 + 1), M5))
def f_X5_dropMinutes_l55 (b0 : Nat) (v1 : Int32) (z : Int32 × Mem) : Option ((Int32 × Mem) ⊕ (Mem)) :=
  if (z.2 b0 5) ≤ z.1 then some (.inr z.2) else (rd z.2 (b0 + 4) 20 z.1).bind fun x9 => (wr z.2 (b0 + 4) 20 z.1 (mxI (0 : Int32) (x9 - v1))).bind fun M10 => some (.inl ((z.1 + 1), M10))
def f_X5_dropMinutes (b0 : Nat) (a1 : Int32) (M : Mem) : Option (Mem) :=
  (loopN (f_X5_dropMinutes_l9 b0 a1 ((M b0 4) - a1)) FU (0, M)).bind fun o6 => (stf o6 b0 4 ((M b0 4) - a1)).bind fun M7 => (loopN (f_X5_dropMinutes_l55 b0 a1) FU (0, M7)).bind fun o11 => some o11
def f_X5_addComplaint (b0 : Nat) (a1 : Int32) (M : Mem) : Option (Mem) :=
  if 20 ≤ (M b0 5) then some M else (wr M (b0 + 4) 20 (M b0 5) a1).bind fun M2 => (stf M2 b0 5 ((M2 b0 5) + 1)).bind fun M3 => some M3
def f_X5_dropComplaint_l2 (b0 : Nat) (z : Int32 × Mem) : Option ((Int32 × Mem) ⊕ (Mem)) :=
  if (z.2 b0 5) ≤ (z.1 + 1) then some (.inr z.2) else (rd z.2 (b0 + 4) 20 (z.1 + 1)).bind fun x2 => (wr z.2 (b0 + 4) 20 z.1 x2).bind fun M3 => some (.inl ((z.1 + 1), M3))
def f_X5_dropComplaint (b0 : Nat) (a1 : Int32) (M : Mem) : Option (Mem) :=
  (loopN (f_X5_dropComplaint_l2 b0) FU (a1, M)).bind fun o4 => (stf o4 b0 5 ((o4 b0 5) - 1)).bind fun M5 => some M5
def f_X6_addCode (a1 : Int32) (M : Mem) : Option (Mem) :=
  if 60 ≤ (M 48 1) then some M else (wr M 49 60 (M 48 1) a1).bind fun M2 => (stf M2 48 1 ((M2 48 1) + 1)).bind fun M3 => some M3
def f_X6_beginNumber (a1 : Int32) (M : Mem) : Option (Mem) :=
  (stf M 48 7 a1).bind fun M1 => (wr M1 53 3 a1 (-1)).bind fun M2 => some M2
def f_X6_beginPart (M : Mem) : Option (Mem) :=
  (wr M 53 3 1 0).bind fun M1 => (wr M1 53 3 2 1).bind fun M2 => (f_X6_beginNumber 0 M2).bind fun r3 => some r3
def f_X6_takesDigit_j68 (v1 : Int32) (v2 : Int32) (v3 : Int32) (M : Mem) : Option (Int32 × Mem) :=
  if v3 = 0 then (bz v3).bind fun x5 => some (x5, M) else (wr M 53 3 (M 48 7) ((10 * v2) + v1)).bind fun M6 => (bz v3).bind fun x7 => some (x7, M6)
def f_X6_takesDigit_j67 (v1 : Int32) (v2 : Int32) (s0 : Int32) (M : Mem) : Option (Int32 × Mem) :=
  f_X6_takesDigit_j68 v1 v2 s0 M
def f_X6_takesDigit_j66 (v1 : Int32) (v2 : Int32) (M : Mem) : Option (Int32 × Mem) :=
  f_X6_takesDigit_j67 v1 v2 0 M
def f_X6_takesDigit_j35 (v1 : Int32) (s0 : Int32) (M : Mem) : Option (Int32 × Mem) :=
  f_X6_takesDigit_j68 v1 0 s0 M
def f_X6_takesDigit_j30 (v1 : Int32) (M : Mem) : Option (Int32 × Mem) :=
  f_X6_takesDigit_j35 v1 1 M
def f_X6_takesDigit (a1 : Int32) (M : Mem) : Option (Int32 × Mem) :=
  (rd M 53 3 (M 48 7)).bind fun x1 => if x1 = (-1) then if 0 < a1 then f_X6_takesDigit_j30 a1 M else (rdS 3 (M 48 7)).bind fun x11 => if x11 = 0 then f_X6_takesDigit_j30 a1 M else f_X6_takesDigit_j35 a1 0 M else if x1 ≤ 0 then f_X6_takesDigit_j66 a1 x1 M else (rdS 4 (M 48 7)).bind fun x8 => if x8 < ((10 * x1) + a1) then f_X6_takesDigit_j66 a1 x1 M else f_X6_takesDigit_j67 a1 x1 1 M
def f_X6_numberIsWhole (M : Mem) : Option (Int32) :=
  (rd M 53 3 (M 48 7)).bind fun x1 => if x1 = (-1) then some 0 else (rd M 53 3 (M 48 7)).bind fun x3 => (rdS 3 (M 48 7)).bind fun x4 => if x3 < x4 then some 0 else some 1
def f_X6_endPart (M : Mem) : Option (Mem) :=
  if 30 ≤ (M 48 5) then some M else (rd M 53 3 0).bind fun x2 => (wr M 50 30 (M 48 5) x2).bind fun M3 => (rd M3 53 3 1).bind fun x4 => (wr M3 51 30 (M3 48 5) x4).bind fun M5 => (rd M5 53 3 2).bind fun x6 => (wr M5 52 30 (M5 48 5) x6).bind fun M7 => (stf M7 48 5 ((M7 48 5) + 1)).bind fun M8 => some M8
def f_X6_takes_j71 (v1 : Int32) (M : Mem) : Option (Int32 × Mem) :=
  if v1 = 59 then (f_X6_endPart M).bind fun r7 => (f_X6_beginPart r7).bind fun r8 => some (1, r8) else some (0, M)
def f_X6_takes_j50 (v1 : Int32) (M : Mem) : Option (Int32 × Mem) :=
  if v1 = 42 then if (M 48 7) = 2 then f_X6_takes_j71 v1 M else (f_X6_beginNumber 2 M).bind fun r10 => some (1, r10) else f_X6_takes_j71 v1 M
def f_X6_takes_j21 (v1 : Int32) (M : Mem) : Option (Int32 × Mem) :=
  (f_X6_numberIsWhole M).bind fun r2 => if r2 = 0 then some (0, M) else if v1 = 64 then if (M 48 7) = 0 then (f_X6_beginNumber 1 M).bind fun r12 => some (1, r12) else f_X6_takes_j50 v1 M else f_X6_takes_j50 v1 M
def f_X6_takes (a1 : Int32) (M : Mem) : Option (Int32 × Mem) :=
  if a1 < 48 then f_X6_takes_j21 a1 M else if 57 < a1 then f_X6_takes_j21 a1 M else (f_X6_takesDigit (a1 - 48) M).bind fun r14 => (bz r14.1).bind fun x15 => some (x15, r14.2)
def f_X6_read_l11 (z : Int32 × Mem) : Option ((Int32 × Mem) ⊕ (Int32 × Mem)) :=
  if (z.2 48 1) ≤ z.1 then some (.inr (z.1, z.2)) else (rd z.2 49 60 z.1).bind fun x4 => (f_X6_takes x4 z.2).bind fun r5 => if r5.1 = 0 then some (.inr (z.1, r5.2)) else some (.inl ((z.1 + 1), r5.2))
def f_X6_read (M : Mem) : Option (Int32 × Mem) :=
  (stf M 48 5 0).bind fun M1 => (f_X6_beginPart M1).bind fun r2 => (loopN (f_X6_read_l11) FU (0, r2)).bind fun o7 => some (o7.1, o7.2)
def f_X6_isWhole (M : Mem) : Option (Int32 × Mem) :=
  (f_X6_read M).bind fun r1 => if r1.1 < (r1.2 48 1) then some (0, r1.2) else (f_X6_numberIsWhole r1.2).bind fun r3 => if r3 = 0 then some (0, r1.2) else (f_X6_endPart r1.2).bind fun r5 => some (1, r5)
def f_X6_minutesInParts_l4 (M : Mem) (z : Int32 × Int32) : Option ((Int32 × Int32) ⊕ (Int32)) :=
  if (M 48 5) ≤ z.2 then some (.inr z.1) else (rd M 52 30 z.2).bind fun x2 => some (.inl ((z.1 + x2), (z.2 + 1)))
def f_X6_minutesInParts (M : Mem) : Option (Int32) :=
  (loopN (f_X6_minutesInParts_l4 M) FU (0, 0)).bind fun o3 => some o3
def f_X7_takeSettings (b0 : Nat) (g1 : Nat) (M : Mem) : Option (Mem) :=
  (cpy M g1 10 0 (b0 + 1) 10 0 10).bind fun M1 => some M1
def f_X7_look (b0 : Nat) (b1 : Nat) (M : Mem) : Option (Mem) :=
  (f_X4_moveArms (b0 + 2) b1 (b0 + 1) M).bind fun r1 => (f_X4_judge (b0 + 2) b1 (b0 + 1) r1).bind fun r2 => (f_X4_tally (b0 + 2) (b0 + 1) r2).bind fun r3 => (f_X0_find (b0 + 6) (b0 + 2) (b0 + 1) r3).bind fun r4 => (rd r4 (b0 + 1) 10 7).bind fun x5 => (f_X3_match (b0 + 13) b1 (b0 + 6) x5 r4).bind fun r6 => some r6
def f_X7_numberOf (b0 : Nat) (a1 : Int32) (M : Mem) : Option (Int32) :=
  if a1 = 0 then some (M (b0 + 2) 3) else if a1 = 1 then some (M (b0 + 2) 4) else if a1 = 2 then some ((M (b0 + 2) 3) - (M (b0 + 2) 4)) else if a1 = 3 then some (M (b0 + 2) 5) else if a1 = 4 then some (M (b0 + 2) 6) else if a1 = 5 then some (M (b0 + 6) 6) else if a1 = 6 then some (M (b0 + 13) 3) else if a1 = 7 then some (M (b0 + 13) 4) else if a1 = 8 then (f_X0_weightOfAll (b0 + 6) M).bind fun r10 => some r10 else if a1 = 9 then (f_X0_heaviest (b0 + 6) M).bind fun r12 => some r12 else if (M (b0 + 6) 7) = 0 then some 0 else some 1
def f_X7_isAboveWithLimit_j34 (b0 : Nat) (v1 : Int32) (s0 : Int32) (M : Mem) : Option (Int32) :=
  (rd M (b0 + 2 + 2) 200 v1).bind fun x5 => if x5 ≤ (10 * s0) then some 0 else some 1
def f_X7_isAboveWithLimit (b0 : Nat) (a1 : Int32) (a2 : Int32) (M : Mem) : Option (Int32) :=
  (f_X4_isCounted (b0 + 2) a1 M).bind fun r1 => if r1 = 0 then some 0 else (f_X8_isRest (b0 + 1) a1 M).bind fun r3 => if r3 = 0 then f_X7_isAboveWithLimit_j34 b0 a1 a2 M else (rd M (b0 + 1) 10 1).bind fun x7 => f_X7_isAboveWithLimit_j34 b0 a1 x7 M
def f_X7_exceedancesWithLimit_j54 (b0 : Nat) (v1 : Int32) (v2 : Int32) (v3 : Int32) (v4 : Int32) (v5 : Int32) (M : Mem) : Option ((Int32 × Int32 × Int32) ⊕ (Int32)) :=
  some (.inl (v3, v4, (v5 + 1)))
def f_X7_exceedancesWithLimit_j46 (b0 : Nat) (v1 : Int32) (v2 : Int32) (v4 : Int32) (v5 : Int32) (M : Mem) : Option ((Int32 × Int32 × Int32) ⊕ (Int32)) :=
  f_X7_exceedancesWithLimit_j54 b0 v1 v2 0 v4 v5 M
def f_X7_exceedancesWithLimit_l16 (b0 : Nat) (v1 : Int32) (v2 : Int32) (M : Mem) (z : Int32 × Int32 × Int32) : Option ((Int32 × Int32 × Int32) ⊕ (Int32)) :=
  if (M (b0 + 2) 3) ≤ z.2.2 then some (.inr z.2.1) else (f_X7_isAboveWithLimit b0 z.2.2 v1 M).bind fun r3 => if r3 = 0 then f_X7_exceedancesWithLimit_j54 b0 v1 v2 (z.1 + 1) z.2.1 z.2.2 M else if z.1 < v2 then f_X7_exceedancesWithLimit_j46 b0 v1 v2 z.2.1 z.2.2 M else f_X7_exceedancesWithLimit_j46 b0 v1 v2 (z.2.1 + 1) z.2.2 M
def f_X7_exceedancesWithLimit (b0 : Nat) (a1 : Int32) (M : Mem) : Option (Int32) :=
  (rd M (b0 + 1) 10 6).bind fun x1 => (loopN (f_X7_exceedancesWithLimit_l16 b0 a1 x1 M) FU (x1, 0, 0)).bind fun o6 => some o6
def f_X7_leastLimitFor_l2 (b0 : Nat) (v1 : Int32) (M : Mem) (z : Int32) : Option ((Int32) ⊕ ((Unit) ⊕ (Int32))) :=
  if 140 < z then some (.inr (.inl ())) else (f_X7_exceedancesWithLimit b0 z M).bind fun r2 => if v1 < r2 then some (.inl (z + 1)) else some (.inr (.inr z))
def f_X7_leastLimitFor (b0 : Nat) (a1 : Int32) (M : Mem) : Option (Int32) :=
  (loopN (f_X7_leastLimitFor_l2 b0 a1 M) FU 0).bind fun o4 => Sum.elim (fun o4 => some (-1)) (fun r5 => some r5) o4
def f_X7_minutesUntilAbove_j82 (b0 : Nat) (v1 : Int32) (v2 : Int32) (v3 : Int32) (M : Mem) : Option ((Int32 × Int32) ⊕ ((Unit) ⊕ (Int32))) :=
  some (.inl (v2, (v3 + 1)))
def f_X7_minutesUntilAbove_l10 (b0 : Nat) (v1 : Int32) (M : Mem) (z : Int32 × Int32) : Option ((Int32 × Int32) ⊕ ((Unit) ⊕ (Int32))) :=
  if 100 < z.2 then some (.inr (.inl ())) else (rd M (b0 + 1) 10 9).bind fun x3 => (f_X8_moved z.1 v1 x3 M).bind fun r4 => (rd M (b0 + 1) 10 5).bind fun x5 => (f_X4_isSoonAfterWind (b0 + 2) (((M (b0 + 2) 3) + z.2) - 1) x5 M).bind fun r6 => if r6 = 0 then (f_X8_limitAt (b0 + 1) (((M (b0 + 2) 3) + z.2) - 1) M).bind fun r8 => if r4 ≤ (10 * r8) then f_X7_minutesUntilAbove_j82 b0 v1 r4 z.2 M else some (.inr (.inr z.2)) else f_X7_minutesUntilAbove_j82 b0 v1 r4 z.2 M
def f_X7_minutesUntilAbove (b0 : Nat) (a1 : Int32) (M : Mem) : Option (Int32) :=
  (f_X4_lastSlowPlace (b0 + 2) M).bind fun r1 => (loopN (f_X7_minutesUntilAbove_l10 b0 a1 M) FU (r1, 1)).bind fun o10 => Sum.elim (fun o10 => some (-1)) (fun r11 => some r11) o10
def f_X8_isSetting (a0 : Int32) (M : Mem) : Option (Int32) :=
  if a0 < 0 then some 0 else if 10 ≤ a0 then some 0 else some 1
def f_X8_fitsSetting (a0 : Int32) (a1 : Int32) (M : Mem) : Option (Int32) :=
  (f_X8_isSetting a0 M).bind fun r1 => if r1 = 0 then some 0 else (rdS 0 a0).bind fun x3 => if a1 < x3 then some 0 else (rdS 1 a0).bind fun x5 => if x5 < a1 then some 0 else some 1
def f_X8_readAgain (M : Mem) : Option (Mem) :=
  (f_X7_takeSettings 54 4 M).bind fun r1 => (f_X7_look 54 1 r1).bind fun r2 => (f_X2_tally 56 r2).bind fun r3 => some r3
def f_X8_set (a1 : Int32) (a2 : Int32) (M : Mem) : Option ((Nat × Mem) ⊕ (Int32 × Mem)) :=
  (f_X8_isSetting a1 M).bind fun r1 => if r1 = 0 then some (.inl (0, M)) else (f_X8_fitsSetting a1 a2 M).bind fun r3 => if r3 = 0 then some (.inl (1, M)) else (f_X1_keep 1 M).bind fun r5 => (rd r5 4 10 a1).bind fun x6 => (wr r5 4 10 a1 a2).bind fun M7 => (f_X8_readAgain M7).bind fun r8 => some (.inr (x6, r8))
def f_X8_isLevel (a0 : Int32) (M : Mem) : Option (Int32) :=
  if a0 < 0 then some 0 else if 140 < a0 then some 0 else some 1
def f_X8_isWind (a0 : Int32) (M : Mem) : Option (Int32) :=
  if a0 < 0 then some 0 else if 40 < a0 then some 0 else some 1
def f_X8_tell_j25 (M : Mem) : Option ((Nat × Mem) ⊕ (Int32 × Mem)) :=
  some (.inl (1, M))
def f_X8_tell (a1 : Int32) (a2 : Int32) (a3 : Int32) (M : Mem) : Option ((Nat × Mem) ⊕ (Int32 × Mem)) :=
  (f_X8_isLevel a1 M).bind fun r1 => if r1 = 0 then f_X8_tell_j25 M else (f_X8_isWind a2 M).bind fun r3 => if r3 = 0 then f_X8_tell_j25 M else if a3 < 1 then f_X8_tell_j25 M else if a3 ≤ 60 then if ((M 1 4) + a3) ≤ 200 then (f_X1_keep 1 M).bind fun r8 => (f_X5_addMinutes 1 a1 a2 a3 r8).bind fun r9 => (f_X8_readAgain r9).bind fun r10 => some (.inr ((r10 1 4), r10)) else some (.inl (2, M)) else f_X8_tell_j25 M
def f_X8_correct_j35 (M : Mem) : Option ((Nat × Mem) ⊕ (Int32 × Mem)) :=
  some (.inl (1, M))
def f_X8_correct (a1 : Int32) (a2 : Int32) (a3 : Int32) (M : Mem) : Option ((Nat × Mem) ⊕ (Int32 × Mem)) :=
  (f_X5_hasMinute 1 a1 M).bind fun r1 => if r1 = 0 then some (.inl (0, M)) else (f_X8_isLevel a2 M).bind fun r3 => if r3 = 0 then f_X8_correct_j35 M else (f_X8_isWind a3 M).bind fun r5 => if r5 = 0 then f_X8_correct_j35 M else (f_X1_keep 1 M).bind fun r7 => (wr r7 2 200 a1 a2).bind fun M8 => (wr M8 3 200 a1 a3).bind fun M9 => (f_X8_readAgain M9).bind fun r10 => some (.inr ((r10 60 6), r10))
def f_X8_forget_j16 (M : Mem) : Option ((Nat × Mem) ⊕ (Int32 × Mem)) :=
  some (.inl (1, M))
def f_X8_forget (a1 : Int32) (M : Mem) : Option ((Nat × Mem) ⊕ (Int32 × Mem)) :=
  if a1 < 1 then f_X8_forget_j16 M else if a1 ≤ (M 1 4) then (f_X1_keep 1 M).bind fun r3 => (f_X5_dropMinutes 1 a1 r3).bind fun r4 => (f_X8_readAgain r4).bind fun r5 => some (.inr ((r5 1 4), r5)) else f_X8_forget_j16 M
def f_X8_complain_j11 (M : Mem) : Option ((Nat × Mem) ⊕ (Int32 × Mem)) :=
  some (.inl (1, M))
def f_X8_complain (a1 : Int32) (M : Mem) : Option ((Nat × Mem) ⊕ (Int32 × Mem)) :=
  if a1 < 0 then f_X8_complain_j11 M else if a1 ≤ 300 then if (M 1 5) < 20 then (f_X1_keep 1 M).bind fun r4 => (f_X5_addComplaint 1 a1 r4).bind fun r5 => (f_X8_readAgain r5).bind fun r6 => some (.inr ((r4 1 5), r6)) else some (.inl (2, M)) else f_X8_complain_j11 M
def f_X8_withdraw (a1 : Int32) (M : Mem) : Option ((Nat × Mem) ⊕ (Int32 × Mem)) :=
  (f_X5_hasComplaint 1 a1 M).bind fun r1 => if r1 = 0 then some (.inl (0, M)) else (f_X1_keep 1 M).bind fun r3 => (rd r3 68 20 a1).bind fun x4 => (f_X5_dropComplaint 1 a1 r3).bind fun r5 => (f_X8_readAgain r5).bind fun r6 => some (.inr (x4, r6))
def f_X8_append_j12 (M : Mem) : Option ((Nat × Mem) ⊕ (Int32 × Mem)) :=
  some (.inl (1, M))
def f_X8_append (a1 : Int32) (M : Mem) : Option ((Nat × Mem) ⊕ (Int32 × Mem)) :=
  if a1 < 33 then f_X8_append_j12 M else if a1 ≤ 126 then if (M 48 1) < 60 then (f_X6_addCode a1 M).bind fun r4 => some (.inr ((r4 48 1), r4)) else some (.inl (2, M)) else f_X8_append_j12 M
def f_X8_clearBuffer (M : Mem) : Option (Int32 × Mem) :=
  (stf M 48 1 0).bind fun M1 => some ((M 48 1), M1)
def f_X8_firstError (M : Mem) : Option (Int32 × Mem) :=
  (f_X6_read M).bind fun r1 => some (r1.1, r1.2)
def f_X8_load_l64 (z : Int32 × Mem) : Option ((Int32 × Mem) ⊕ (Mem)) :=
  if (z.2 48 5) ≤ z.1 then some (.inr z.2) else (rd z.2 50 30 z.1).bind fun x7 => (rd z.2 51 30 z.1).bind fun x8 => (rd z.2 52 30 z.1).bind fun x9 => (f_X5_addMinutes 1 x7 x8 x9 z.2).bind fun r10 => some (.inl ((z.1 + 1), r10))
def f_X8_load (M : Mem) : Option ((Nat × Mem) ⊕ (Int32 × Mem)) :=
  (f_X6_isWhole M).bind fun r1 => if r1.1 = 0 then some (.inl (1, r1.2)) else (f_X6_minutesInParts r1.2).bind fun r3 => if ((r1.2 1 4) + r3) ≤ 200 then (f_X1_keep 1 r1.2).bind fun r5 => (loopN (f_X8_load_l64) FU (0, r5)).bind fun o11 => (stf o11 48 1 0).bind fun M12 => (f_X8_readAgain M12).bind fun r13 => some (.inr ((r13 1 4), r13)) else some (.inl (2, r1.2))
def f_X8_undo (M : Mem) : Option ((Nat × Mem) ⊕ (Int32 × Mem)) :=
  if 1 ≤ (M 46 2) then (f_X1_giveBack 1 M).bind fun r2 => (f_X8_readAgain r2).bind fun r3 => some (.inr ((r3 46 2), r3)) else some (.inl (2, M))
def f_X8_minuteProperty (a1 : Int32) (a2 : Int32) (M : Mem) : Option (Int32) :=
  if a2 = 0 then (rd M 2 200 a1).bind fun x2 => some x2 else if a2 = 1 then (rd M 3 200 a1).bind fun x4 => some x4 else if a2 = 2 then (rd M 57 200 a1).bind fun x6 => some x6 else if a2 = 3 then (rd M 58 200 a1).bind fun x8 => some x8 else if a2 = 4 then (f_X8_limitAt 4 a1 M).bind fun r10 => some r10 else if a2 = 5 then (f_X8_isRest 4 a1 M).bind fun r12 => if r12 = 0 then some 0 else some 1 else if a2 = 6 then (rd M 59 200 a1).bind fun x15 => some x15 else (rd M 66 200 a1).bind fun x16 => some x16
def f_X8_minute_j31 (M : Mem) : Option (Nat ⊕ (Int32)) :=
  some (.inl 1)
def f_X8_minute (a1 : Int32) (a2 : Int32) (M : Mem) : Option (Nat ⊕ (Int32)) :=
  (f_X5_hasMinute 1 a1 M).bind fun r1 => if r1 = 0 then some (.inl 0) else if a2 < 0 then f_X8_minute_j31 M else if a2 ≤ 7 then (f_X8_minuteProperty a1 a2 M).bind fun r5 => some (.inr r5) else f_X8_minute_j31 M
def f_X8_exceedanceProperty (a1 : Int32) (a2 : Int32) (M : Mem) : Option (Int32) :=
  if a2 = 0 then (rd M 61 100 a1).bind fun x2 => some x2 else if a2 = 1 then (rd M 62 100 a1).bind fun x4 => some x4 else if a2 = 2 then (rd M 63 100 a1).bind fun x6 => some x6 else if a2 = 3 then (rd M 64 100 a1).bind fun x8 => some x8 else if a2 = 4 then (rd M 65 100 a1).bind fun x10 => some x10 else (rd M 69 100 a1).bind fun x11 => some x11
def f_X8_exceedance_j18 (M : Mem) : Option (Nat ⊕ (Int32)) :=
  some (.inl 0)
def f_X8_exceedance_j37 (M : Mem) : Option (Nat ⊕ (Int32)) :=
  some (.inl 1)
def f_X8_exceedance (a1 : Int32) (a2 : Int32) (M : Mem) : Option (Nat ⊕ (Int32)) :=
  if a1 < 0 then f_X8_exceedance_j18 M else if a1 < (M 60 6) then if a2 < 0 then f_X8_exceedance_j37 M else if a2 ≤ 5 then (f_X8_exceedanceProperty a1 a2 M).bind fun r5 => some (.inr r5) else f_X8_exceedance_j37 M else f_X8_exceedance_j18 M
def f_X8_complaintProperty (a1 : Int32) (a2 : Int32) (M : Mem) : Option (Int32) :=
  if a2 = 0 then (rd M 5 20 a1).bind fun x3 => some x3 else (rd M 68 20 a1).bind fun x2 => some x2
def f_X8_complaint_j30 (M : Mem) : Option (Nat ⊕ (Int32)) :=
  some (.inl 1)
def f_X8_complaint (a1 : Int32) (a2 : Int32) (M : Mem) : Option (Nat ⊕ (Int32)) :=
  (f_X5_hasComplaint 1 a1 M).bind fun r1 => if r1 = 0 then some (.inl 0) else if a2 < 0 then f_X8_complaint_j30 M else if a2 ≤ 1 then (f_X8_complaintProperty a1 a2 M).bind fun r5 => some (.inr r5) else f_X8_complaint_j30 M
def f_X8_levelCount (a1 : Int32) (M : Mem) : Option (Nat ⊕ (Int32)) :=
  (f_X8_isLevel a1 M).bind fun r1 => if r1 = 0 then some (.inl 1) else (rd M 89 141 a1).bind fun x3 => some (.inr x3)
def f_X8_percentLevel_j11 (M : Mem) : Option (Nat ⊕ (Int32)) :=
  some (.inl 1)
def f_X8_percentLevel (a1 : Int32) (M : Mem) : Option (Nat ⊕ (Int32)) :=
  if a1 < 1 then f_X8_percentLevel_j11 M else if a1 ≤ 100 then (f_X2_levelOfPercent a1 (M 56 4) M).bind fun r3 => some (.inr r3) else f_X8_percentLevel_j11 M
def f_X8_numberOf (a1 : Int32) (M : Mem) : Option (Int32) :=
  if a1 = 10 then some (M 46 2) else (f_X7_numberOf 54 a1 M).bind fun r2 => some r2
def f_X8_count_j10 (M : Mem) : Option (Nat ⊕ (Int32)) :=
  some (.inl 1)
def f_X8_count (a1 : Int32) (M : Mem) : Option (Nat ⊕ (Int32)) :=
  if a1 < 0 then f_X8_count_j10 M else if a1 ≤ 11 then (f_X8_numberOf a1 M).bind fun r3 => some (.inr r3) else f_X8_count_j10 M
def f_X8_setting (a1 : Int32) (M : Mem) : Option (Nat ⊕ (Int32)) :=
  (f_X8_isSetting a1 M).bind fun r1 => if r1 = 0 then some (.inl 0) else (rd M 4 10 a1).bind fun x3 => some (.inr x3)
def f_X8_ifSet_j35 (M : Mem) : Option ((Nat × Mem) ⊕ (Int32 × Mem)) :=
  some (.inl (1, M))
def f_X8_ifSet (a1 : Int32) (a2 : Int32) (a3 : Int32) (M : Mem) : Option ((Nat × Mem) ⊕ (Int32 × Mem)) :=
  (f_X8_isSetting a1 M).bind fun r1 => if r1 = 0 then some (.inl (0, M)) else (f_X8_fitsSetting a1 a2 M).bind fun r3 => if r3 = 0 then f_X8_ifSet_j35 M else if a3 < 0 then f_X8_ifSet_j35 M else if a3 ≤ 9 then (f_X7_takeSettings 71 4 M).bind fun r7 => (wr r7 72 10 a1 a2).bind fun M8 => (f_X7_look 71 1 M8).bind fun r9 => (f_X7_numberOf 71 a3 r9).bind fun r10 => some (.inr (r10, r9)) else f_X8_ifSet_j35 M
def f_X8_leastLimit_j11 (M : Mem) : Option (Nat ⊕ (Int32)) :=
  some (.inl 1)
def f_X8_leastLimit (a1 : Int32) (M : Mem) : Option (Nat ⊕ (Int32)) :=
  if a1 < 0 then f_X8_leastLimit_j11 M else if a1 ≤ 200 then (f_X7_leastLimitFor 54 a1 M).bind fun r3 => some (.inr r3) else f_X8_leastLimit_j11 M
def f_X8_aboveIn (a1 : Int32) (M : Mem) : Option (Nat ⊕ (Int32)) :=
  (f_X8_isLevel a1 M).bind fun r1 => if r1 = 0 then some (.inl 1) else (f_X7_minutesUntilAbove 54 a1 M).bind fun r3 => some (.inr r3)
def f_X8_share (M : Mem) : Option (UInt64) :=
  (f_X4_shareAbove 56 M).bind fun r1 => some r1
def f_X8_mixed (a0 : Int64) (a2 : Int64) (M : Mem) : Option (Int64) :=
  some ((31 * a0) + a2)
def f_X8_withMinutes_l16 (v3 : Int32) (M : Mem) (z : Int64 × Int32) : Option ((Int64 × Int32) ⊕ (Int64)) :=
  if 7 < z.2 then some (.inr z.1) else (f_X8_minuteProperty v3 z.2 M).bind fun r3 => (f_X8_mixed z.1 (Int32.toInt64 r3) M).bind fun r4 => some (.inl (r4, (z.2 + 1)))
def f_X8_withMinutes_l2 (M : Mem) (z : Int64 × Int32) : Option ((Int64 × Int32) ⊕ (Int64)) :=
  if (M 1 4) ≤ z.2 then some (.inr z.1) else (loopN (f_X8_withMinutes_l16 z.2 M) FU (z.1, 0)).bind fun o5 => some (.inl (o5, (z.2 + 1)))
def f_X8_withMinutes (a1 : Int64) (M : Mem) : Option (Int64) :=
  (loopN (f_X8_withMinutes_l2 M) FU (a1, 0)).bind fun o6 => some o6
def f_X8_withExceedances_l19 (v3 : Int32) (M : Mem) (z : Int64 × Int32) : Option ((Int64 × Int32) ⊕ (Int64)) :=
  if 5 < z.2 then some (.inr z.1) else (f_X8_exceedanceProperty v3 z.2 M).bind fun r3 => (f_X8_mixed z.1 (Int32.toInt64 r3) M).bind fun r4 => some (.inl (r4, (z.2 + 1)))
def f_X8_withExceedances_l2 (M : Mem) (z : Int64 × Int32) : Option ((Int64 × Int32) ⊕ (Int64)) :=
  if (M 60 6) ≤ z.2 then some (.inr z.1) else (loopN (f_X8_withExceedances_l19 z.2 M) FU (z.1, 0)).bind fun o5 => some (.inl (o5, (z.2 + 1)))
def f_X8_withExceedances (a1 : Int64) (M : Mem) : Option (Int64) :=
  (loopN (f_X8_withExceedances_l2 M) FU (a1, 0)).bind fun o6 => some o6
def f_X8_withComplaints_l2 (M : Mem) (z : Int64 × Int32) : Option ((Int64 × Int32) ⊕ (Int64)) :=
  if (M 1 5) ≤ z.2 then some (.inr z.1) else (f_X8_complaintProperty z.2 0 M).bind fun r2 => (f_X8_mixed z.1 (Int32.toInt64 r2) M).bind fun r3 => (f_X8_complaintProperty z.2 1 M).bind fun r4 => (f_X8_mixed r3 (Int32.toInt64 r4) M).bind fun r5 => some (.inl (r5, (z.2 + 1)))
def f_X8_withComplaints (a1 : Int64) (M : Mem) : Option (Int64) :=
  (loopN (f_X8_withComplaints_l2 M) FU (a1, 0)).bind fun o6 => some o6
def f_X8_withLevels_l2 (M : Mem) (z : Int64 × Int32) : Option ((Int64 × Int32) ⊕ (Int64)) :=
  if 140 < z.2 then some (.inr z.1) else (rd M 89 141 z.2).bind fun x2 => (f_X8_mixed z.1 (Int32.toInt64 x2) M).bind fun r3 => some (.inl (r3, (z.2 + 10)))
def f_X8_withLevels (a1 : Int64) (M : Mem) : Option (Int64) :=
  (loopN (f_X8_withLevels_l2 M) FU (a1, 0)).bind fun o4 => (f_X2_levelOfPercent 1 (M 56 4) M).bind fun r5 => (f_X8_mixed o4 (Int32.toInt64 r5) M).bind fun r6 => (f_X2_levelOfPercent 10 (M 56 4) M).bind fun r7 => (f_X8_mixed r6 (Int32.toInt64 r7) M).bind fun r8 => (f_X2_levelOfPercent 50 (M 56 4) M).bind fun r9 => (f_X8_mixed r8 (Int32.toInt64 r9) M).bind fun r10 => (f_X2_levelOfPercent 90 (M 56 4) M).bind fun r11 => (f_X8_mixed r10 (Int32.toInt64 r11) M).bind fun r12 => (f_X2_levelOfPercent 100 (M 56 4) M).bind fun r13 => (f_X8_mixed r12 (Int32.toInt64 r13) M).bind fun r14 => some r14
def f_X8_bitsOf_l18 (M : Mem) (z : UInt64 × Int64 × Int32) : Option ((UInt64 × Int64 × Int32) ⊕ (UInt64 × Int64)) :=
  if 60 ≤ z.2.2 then some (.inr (z.1, z.2.1)) else if 0 ≤ (Op.cmpValue (FP.dcmp z.1 0x3ff0000000000000) .g) then some (.inr (z.1, z.2.1)) else (dml z.1 4611686018427387904).bind fun x4 => some (.inl (x4, (z.2.1 - 1), (z.2.2 + 1)))
def f_X8_bitsOf_j49 (v2 : UInt64) (v4 : Int64) (M : Mem) : Option (Int64) :=
  (dsb v2 0x3ff0000000000000).bind fun x6 => (dml x6 4841369599423283200).bind fun x7 => some ((v4 <<< (Int32.toInt64 52 &&& 63)) + (FP.d2l x7))
def f_X8_bitsOf (a0 : UInt64) (M : Mem) : Option (Int64) :=
  if 0 < (Op.cmpValue (FP.dcmp a0 0) .g) then (loopN (f_X8_bitsOf_l18 M) FU (a0, 1023, 0)).bind fun o5 => f_X8_bitsOf_j49 o5.1 o5.2 M else some 0
def f_X8_withBuffer_l15 (M : Mem) (z : Int64 × Int32) : Option ((Int64 × Int32) ⊕ (Int64)) :=
  if (M 48 1) ≤ z.2 then some (.inr z.1) else (rd M 49 60 z.2).bind fun x3 => (f_X8_mixed z.1 (Int32.toInt64 x3) M).bind fun r4 => some (.inl (r4, (z.2 + 1)))
def f_X8_withBuffer (a1 : Int64) (M : Mem) : Option (Int64) :=
  (f_X8_mixed a1 (Int32.toInt64 (M 48 1)) M).bind fun r1 => (loopN (f_X8_withBuffer_l15 M) FU (r1, 0)).bind fun o5 => some o5
def f_X8_digest_l6 (M : Mem) (z : Int64 × Int32) : Option ((Int64 × Int32) ⊕ (Int64)) :=
  if 11 < z.2 then some (.inr z.1) else (f_X8_numberOf z.2 M).bind fun r2 => (f_X8_mixed z.1 (Int32.toInt64 r2) M).bind fun r3 => some (.inl (r3, (z.2 + 1)))
def f_X8_digest_l31 (M : Mem) (z : Int64 × Int32) : Option ((Int64 × Int32) ⊕ (Int64)) :=
  if 10 ≤ z.2 then some (.inr z.1) else (rd M 4 10 z.2).bind fun x6 => (f_X8_mixed z.1 (Int32.toInt64 x6) M).bind fun r7 => some (.inl (r7, (z.2 + 1)))
def f_X8_digest (M : Mem) : Option (Int64) :=
  (loopN (f_X8_digest_l6 M) FU (2161, 0)).bind fun o4 => (loopN (f_X8_digest_l31 M) FU (o4, 0)).bind fun o8 => (f_X8_withMinutes o8 M).bind fun r9 => (f_X8_withExceedances r9 M).bind fun r10 => (f_X8_withComplaints r10 M).bind fun r11 => (f_X8_withLevels r11 M).bind fun r12 => (f_X7_leastLimitFor 54 1 M).bind fun r13 => (f_X8_mixed r12 (Int32.toInt64 r13) M).bind fun r14 => (f_X7_minutesUntilAbove 54 80 M).bind fun r15 => (f_X8_mixed r14 (Int32.toInt64 r15) M).bind fun r16 => (f_X4_shareAbove 56 M).bind fun r17 => (f_X8_bitsOf r17 M).bind fun r18 => (f_X8_mixed r16 r18 M).bind fun r19 => (f_X8_withBuffer r19 M).bind fun r20 => some r20
def f_X9_thrown (M : Mem) : Option (Int32) :=
  some (M 90 0)
def f_X9_within (a0 : Int32) (a1 : Int32) (a2 : Int32) (M : Mem) : Option (Int32) :=
  if a0 < a1 then some 0 else if a2 < a0 then some 0 else some 1
def f_X9_of (a1 : Int32) (M : Mem) : Option (Int32) :=
  (rd M 91 432 (401 + a1)).bind fun x1 => some x1
def f_X9_isMinute (a1 : Int32) (M : Mem) : Option (Int32) :=
  (rd M 91 432 0).bind fun x1 => (f_X9_within a1 0 (x1 - 1) M).bind fun r2 => (bz r2).bind fun x3 => some x3
def f_X9_isRest (a1 : Int32) (M : Mem) : Option (Int32) :=
  (f_X9_of 2 M).bind fun r1 => (rmI ((a1 - r1) + 60) 60).bind fun x2 => (f_X9_of 3 M).bind fun r3 => if r3 ≤ x2 then some 0 else some 1
def f_X9_limitOf_j14 (s1 : Int32) (M : Mem) : Option (Int32) :=
  (f_X9_of s1 M).bind fun r3 => some r3
def f_X9_limitOf (a1 : Int32) (M : Mem) : Option (Int32) :=
  (f_X9_isRest a1 M).bind fun r1 => if r1 = 0 then f_X9_limitOf_j14 0 M else f_X9_limitOf_j14 1 M
def f_X9_whyNot_l20 (v1 : Int32) (M : Mem) (z : Int32) : Option ((Int32) ⊕ ((Unit) ⊕ (Int32))) :=
  if z < 0 then some (.inr (.inl ())) else (f_X9_of 5 M).bind fun r5 => if z < (v1 - r5) then some (.inr (.inl ())) else (rd M 95 300 z).bind fun x7 => (f_X9_of 4 M).bind fun r8 => if x7 < r8 then some (.inl (z + (-1))) else some (.inr (.inr 2))
def f_X9_whyNot_j57 (v1 : Int32) (M : Mem) : Option (Int32) :=
  (rd M 97 300 v1).bind fun x11 => (f_X9_limitOf v1 M).bind fun r12 => if x11 ≤ (10 * r12) then some 3 else some 0
def f_X9_whyNot (a1 : Int32) (M : Mem) : Option (Int32) :=
  (rd M 95 300 a1).bind fun x1 => (f_X9_of 4 M).bind fun r2 => if x1 < r2 then (loopN (f_X9_whyNot_l20 a1 M) FU (a1 - 1)).bind fun o10 => Sum.elim (fun o10 => f_X9_whyNot_j57 a1 M) (fun r14 => some r14) o10 else some 1
def f_X9_layArms_j43 (v1 : Int32) (v2 : Int32) (s0 : Int32) (M : Mem) : Option ((Int32 × Mem) ⊕ (Mem)) :=
  (rd M 94 300 v1).bind fun x6 => (f_X9_of 8 M).bind fun r7 => (dvI ((10 * x6) - v2) r7).bind fun x8 => (wr M 96 300 v1 (v2 + x8)).bind fun M9 => (rd M9 94 300 v1).bind fun x10 => (f_X9_of 9 M9).bind fun r11 => (dvI ((10 * x10) - s0) r11).bind fun x12 => (wr M9 97 300 v1 (s0 + x12)).bind fun M13 => some (.inl ((v1 + 1), M13))
def f_X9_layArms_j26 (v1 : Int32) (s0 : Int32) (M : Mem) : Option ((Int32 × Mem) ⊕ (Mem)) :=
  if v1 = 0 then f_X9_layArms_j43 v1 s0 0 M else (rd M 97 300 (v1 - 1)).bind fun x5 => f_X9_layArms_j43 v1 s0 x5 M
def f_X9_layArms_l2 (z : Int32 × Mem) : Option ((Int32 × Mem) ⊕ (Mem)) :=
  if (z.2 90 6) ≤ z.1 then some (.inr z.2) else if z.1 = 0 then f_X9_layArms_j26 z.1 0 z.2 else (rd z.2 96 300 (z.1 - 1)).bind fun x3 => f_X9_layArms_j26 z.1 x3 z.2
def f_X9_layArms (M : Mem) : Option (Mem) :=
  (loopN (f_X9_layArms_l2) FU (0, M)).bind fun o14 => some o14
def f_X9_addMinute_j52 (v1 : Int32) (v2 : Int32) (s1 : Int32) (s2 : Int32) (M : Mem) : Option (Mem) :=
  (wr M 103 300 s1 s2).bind fun M8 => (rd M8 104 300 v1).bind fun x9 => (rd M8 97 300 v2).bind fun x10 => (f_X9_limitOf v2 M8).bind fun r11 => (wr M8 104 300 v1 (x9 + (x10 - (10 * r11)))).bind fun M12 => some M12
def f_X9_addMinute (a1 : Int32) (a2 : Int32) (M : Mem) : Option (Mem) :=
  (wr M 101 300 a1 a2).bind fun M1 => (rd M1 102 300 a1).bind fun x2 => (wr M1 102 300 a1 (x2 + 1)).bind fun M3 => (rd M3 96 300 a2).bind fun x4 => (rd M3 103 300 a1).bind fun x5 => if x4 ≤ x5 then (rd M3 103 300 a1).bind fun x7 => f_X9_addMinute_j52 a1 a2 a1 x7 M3 else (rd M3 96 300 a2).bind fun x13 => f_X9_addMinute_j52 a1 a2 a1 x13 M3
def f_X9_layExceedances_j157 (v1 : Int32) (M : Mem) : Option ((Int32 × Mem) ⊕ (Mem)) :=
  some (.inl ((v1 + 1), M))
def f_X9_layExceedances_j109 (v1 : Int32) (M : Mem) : Option ((Int32 × Mem) ⊕ (Mem)) :=
  (f_X9_addMinute ((M 90 13) - 1) v1 M).bind fun r15 => f_X9_layExceedances_j157 v1 r15
def f_X9_layExceedances_l12 (z : Int32 × Mem) : Option ((Int32 × Mem) ⊕ (Mem)) :=
  if (z.2 90 6) ≤ z.1 then some (.inr z.2) else (f_X9_whyNot z.1 z.2).bind fun r4 => (wr z.2 98 300 z.1 r4).bind fun M5 => (wr M5 99 300 z.1 (-1)).bind fun M6 => (rd M6 98 300 z.1).bind fun x7 => if x7 = 0 then if (M6 90 19) = 0 then (wr M6 100 300 (M6 90 13) z.1).bind fun M16 => (wr M16 102 300 (M16 90 13) 0).bind fun M17 => (wr M17 103 300 (M17 90 13) 0).bind fun M18 => (wr M18 104 300 (M18 90 13) 0).bind fun M19 => (stf M19 90 13 ((M19 90 13) + 1)).bind fun M20 => (stz M20 90 19 1).bind fun M21 => f_X9_layExceedances_j109 z.1 M21 else f_X9_layExceedances_j109 z.1 M6 else if (M6 90 19) = 0 then f_X9_layExceedances_j157 z.1 M6 else (rd M6 101 300 ((M6 90 13) - 1)).bind fun x10 => (f_X9_of 6 M6).bind fun r11 => if (z.1 - x10) = r11 then (stz M6 90 19 0).bind fun M13 => f_X9_layExceedances_j157 z.1 M13 else f_X9_layExceedances_j157 z.1 M6
def f_X9_layExceedances_l180 (v1 : Int32) (z : Int32 × Mem) : Option ((Int32 × Mem) ⊕ (Mem)) :=
  (rd z.2 101 300 v1).bind fun x25 => if x25 < z.1 then some (.inr z.2) else (wr z.2 99 300 z.1 v1).bind fun M27 => some (.inl ((z.1 + 1), M27))
def f_X9_layExceedances_l165 (z : Int32 × Mem) : Option ((Int32 × Mem) ⊕ (Mem)) :=
  if (z.2 90 13) ≤ z.1 then some (.inr z.2) else (rd z.2 100 300 z.1).bind fun x24 => (loopN (f_X9_layExceedances_l180 z.1) FU (x24, z.2)).bind fun o28 => some (.inl ((z.1 + 1), o28))
def f_X9_layExceedances (M : Mem) : Option (Mem) :=
  (stf M 90 13 0).bind fun M1 => (stz M1 90 19 0).bind fun M2 => (loopN (f_X9_layExceedances_l12) FU (0, M2)).bind fun o22 => (loopN (f_X9_layExceedances_l165) FU (0, o22)).bind fun o29 => some o29
def f_X9_lay_j90 (v2 : Int32) (v3 : Int32) (s1 : Int32) (s2 : Int32) (M : Mem) : Option ((Int32 × Mem) ⊕ (Mem)) :=
  (wr M 95 300 s1 s2).bind fun M9 => some (.inl ((v3 + 1), M9))
def f_X9_lay_j63 (v2 : Int32) (v3 : Int32) (v4 : Int32) (s1 : Int32) (s2 : Int32) (M : Mem) : Option ((Int32 × Mem) ⊕ (Mem)) :=
  (wr M 94 300 s1 s2).bind fun M7 => if v4 = 0 then f_X9_lay_j90 v2 v3 v3 0 M7 else (rd M7 91 432 ((1 + (2 * v3)) + 1)).bind fun x10 => f_X9_lay_j90 v2 v3 v3 x10 M7
def f_X9_lay_j37 (v2 : Int32) (v3 : Int32) (s0 : Int32) (M : Mem) : Option ((Int32 × Mem) ⊕ (Mem)) :=
  if s0 = 0 then f_X9_lay_j63 v2 v3 s0 v3 v2 M else (rd M 91 432 (1 + (2 * v3))).bind fun x11 => f_X9_lay_j63 v2 v3 s0 v3 x11 M
def f_X9_lay_l14 (v2 : Int32) (z : Int32 × Mem) : Option ((Int32 × Mem) ⊕ (Mem)) :=
  if (z.2 90 6) ≤ z.1 then some (.inr z.2) else (rd z.2 91 432 0).bind fun x4 => if x4 ≤ z.1 then f_X9_lay_j37 v2 z.1 0 z.2 else f_X9_lay_j37 v2 z.1 1 z.2
def f_X9_lay (a1 : Int32) (a2 : Int32) (M : Mem) : Option (Mem) :=
  (rd M 91 432 0).bind fun x1 => (stf M 90 6 (x1 + a1)).bind fun M2 => (loopN (f_X9_lay_l14 a2) FU (0, M2)).bind fun o12 => (f_X9_layArms o12).bind fun r13 => (f_X9_layExceedances r13).bind fun r14 => some r14
def f_X9_matchFor_j86 (v1 : Int32) (v3 : Int32) (s0 : Int32) (M : Mem) : Option ((Int32 × Int32) ⊕ (Int32)) :=
  some (.inl (s0, (v3 + 1)))
def f_X9_matchFor_j85 (v1 : Int32) (v2 : Int32) (v3 : Int32) (M : Mem) : Option ((Int32 × Int32) ⊕ (Int32)) :=
  f_X9_matchFor_j86 v1 v3 v2 M
def f_X9_matchFor_j81 (v1 : Int32) (v3 : Int32) (M : Mem) : Option ((Int32 × Int32) ⊕ (Int32)) :=
  f_X9_matchFor_j86 v1 v3 v3 M
def f_X9_matchFor_j54 (v1 : Int32) (v2 : Int32) (v3 : Int32) (s0 : Int32) (M : Mem) : Option ((Int32 × Int32) ⊕ (Int32)) :=
  if s0 = 0 then f_X9_matchFor_j85 v1 v2 v3 M else if v2 = (-1) then f_X9_matchFor_j81 v1 v3 M else (rd M 103 300 v3).bind fun x6 => (rd M 103 300 v2).bind fun x7 => if x6 ≤ x7 then f_X9_matchFor_j85 v1 v2 v3 M else f_X9_matchFor_j81 v1 v3 M
def f_X9_matchFor_j53 (v1 : Int32) (v2 : Int32) (v3 : Int32) (M : Mem) : Option ((Int32 × Int32) ⊕ (Int32)) :=
  f_X9_matchFor_j54 v1 v2 v3 0 M
def f_X9_matchFor_l4 (v1 : Int32) (M : Mem) (z : Int32 × Int32) : Option ((Int32 × Int32) ⊕ (Int32)) :=
  if (M 90 13) ≤ z.2 then some (.inr z.1) else (rd M 106 300 z.2).bind fun x2 => if x2 = (-1) then (rd M 100 300 z.2).bind fun x9 => if v1 < x9 then f_X9_matchFor_j53 v1 z.1 z.2 M else (rd M 101 300 z.2).bind fun x11 => (f_X9_of 7 M).bind fun r12 => if x11 < (v1 - r12) then f_X9_matchFor_j53 v1 z.1 z.2 M else f_X9_matchFor_j54 v1 z.1 z.2 1 M else f_X9_matchFor_j53 v1 z.1 z.2 M
def f_X9_matchFor (a1 : Int32) (M : Mem) : Option (Int32) :=
  (loopN (f_X9_matchFor_l4 a1 M) FU ((-1), 0)).bind fun o14 => some o14
def f_X9_layMatches_l2 (z : Int32 × Mem) : Option ((Int32 × Mem) ⊕ (Mem)) :=
  if (z.2 90 13) ≤ z.1 then some (.inr z.2) else (wr z.2 106 300 z.1 (-1)).bind fun M2 => some (.inl ((z.1 + 1), M2))
def f_X9_layMatches_j93 (v1 : Int32) (v2 : Int32) (M : Mem) : Option ((Int32 × Mem) ⊕ (Mem)) :=
  some (.inl ((v2 + 1), M))
def f_X9_layMatches_l34 (v1 : Int32) (z : Int32 × Mem) : Option ((Int32 × Mem) ⊕ (Mem)) :=
  (rd z.2 91 432 411).bind fun x5 => if x5 ≤ z.1 then some (.inr z.2) else (rd z.2 91 432 (412 + z.1)).bind fun x7 => if x7 = v1 then (f_X9_matchFor v1 z.2).bind fun r9 => (wr z.2 105 20 z.1 r9).bind fun M10 => (rd M10 105 20 z.1).bind fun x11 => if x11 = (-1) then f_X9_layMatches_j93 v1 z.1 M10 else (rd M10 105 20 z.1).bind fun x13 => (wr M10 106 300 x13 z.1).bind fun M14 => f_X9_layMatches_j93 v1 z.1 M14 else f_X9_layMatches_j93 v1 z.1 z.2
def f_X9_layMatches_l25 (z : Int32 × Mem) : Option ((Int32 × Mem) ⊕ (Mem)) :=
  if 300 < z.1 then some (.inr z.2) else (loopN (f_X9_layMatches_l34 z.1) FU (0, z.2)).bind fun o15 => some (.inl ((z.1 + 1), o15))
def f_X9_layMatches (M : Mem) : Option (Mem) :=
  (loopN (f_X9_layMatches_l2) FU (0, M)).bind fun o3 => (loopN (f_X9_layMatches_l25) FU (0, o3)).bind fun o16 => some o16
def f_X9_layAll (M : Mem) : Option (Mem) :=
  (f_X9_lay 0 0 M).bind fun r1 => (f_X9_layMatches r1).bind fun r2 => some r2
def f_X9_save_l54 (z : Int32 × Mem) : Option ((Int32 × Mem) ⊕ (Mem)) :=
  if 432 ≤ z.1 then some (.inr z.2) else (rd z.2 91 432 z.1).bind fun x3 => (wr z.2 92 3456 ((432 * (z.2 90 2)) + z.1) x3).bind fun M4 => some (.inl ((z.1 + 1), M4))
def f_X9_save_j52 (M : Mem) : Option (Mem) :=
  (loopN (f_X9_save_l54) FU (0, M)).bind fun o5 => (stf o5 90 2 ((o5 90 2) + 1)).bind fun M6 => some M6
def f_X9_save_l13 (z : Int32 × Mem) : Option ((Int32 × Mem) ⊕ (Mem)) :=
  if 3456 ≤ z.1 then some (.inr z.2) else (rd z.2 92 3456 z.1).bind fun x8 => (wr z.2 92 3456 (z.1 - 432) x8).bind fun M9 => some (.inl ((z.1 + 1), M9))
def f_X9_save (M : Mem) : Option (Mem) :=
  if (M 90 2) = 8 then (loopN (f_X9_save_l13) FU (432, M)).bind fun o10 => (stf o10 90 2 ((o10 90 2) - 1)).bind fun M11 => f_X9_save_j52 M11 else f_X9_save_j52 M
def f_X9_undo_l37 (z : Int32 × Mem) : Option ((Int32 × Mem) ⊕ (Mem)) :=
  if 432 ≤ z.1 then some (.inr z.2) else (rd z.2 92 3456 ((432 * (z.2 90 2)) + z.1)).bind fun x6 => (wr z.2 91 432 z.1 x6).bind fun M7 => some (.inl ((z.1 + 1), M7))
def f_X9_undo_j13 (s1 : Int32) (M : Mem) : Option (Int32 × Mem) :=
  (stf M 90 0 s1).bind fun M2 => if (M2 90 0) ≤ 0 then (stf M2 90 2 ((M2 90 2) - 1)).bind fun M4 => (loopN (f_X9_undo_l37) FU (0, M4)).bind fun o8 => some ((o8 90 2), o8) else some (0, M2)
def f_X9_undo (M : Mem) : Option (Int32 × Mem) :=
  if (M 90 2) ≤ 0 then f_X9_undo_j13 1 M else f_X9_undo_j13 0 M
def f_X9_isSetting (a0 : Int32) (M : Mem) : Option (Int32) :=
  (f_X9_within a0 0 9 M).bind fun r1 => (bz r1).bind fun x2 => some x2
def f_X9_isValue (a0 : Int32) (a1 : Int32) (M : Mem) : Option (Int32) :=
  if a0 = 0 then (f_X9_within a1 0 140 M).bind fun r2 => (bz r2).bind fun x3 => some x3 else if a0 = 1 then (f_X9_within a1 0 140 M).bind fun r5 => (bz r5).bind fun x6 => some x6 else if a0 = 2 then (f_X9_within a1 0 59 M).bind fun r8 => (bz r8).bind fun x9 => some x9 else if a0 = 3 then (f_X9_within a1 0 60 M).bind fun r11 => (bz r11).bind fun x12 => some x12 else if a0 = 4 then (f_X9_within a1 1 41 M).bind fun r14 => (bz r14).bind fun x15 => some x15 else if a0 = 5 then (f_X9_within a1 0 20 M).bind fun r17 => (bz r17).bind fun x18 => some x18 else if a0 = 6 then (f_X9_within a1 1 20 M).bind fun r20 => (bz r20).bind fun x21 => some x21 else if a0 = 7 then (f_X9_within a1 0 60 M).bind fun r23 => (bz r23).bind fun x24 => some x24 else if a0 = 8 then (f_X9_within a1 1 20 M).bind fun r26 => (bz r26).bind fun x27 => some x27 else (f_X9_within a1 1 50 M).bind fun r28 => (bz r28).bind fun x29 => some x29
def f_X9_set_j25 (v1 : Int32) (v2 : Int32) (s1 : Int32) (M : Mem) : Option (Int32 × Mem) :=
  (stf M 90 0 s1).bind fun M5 => if (M5 90 0) ≤ 0 then (f_X9_save M5).bind fun r7 => (f_X9_of v1 r7).bind fun r8 => (wr r7 91 432 (401 + v1) v2).bind fun M9 => some (r8, M9) else some (0, M5)
def f_X9_set (a1 : Int32) (a2 : Int32) (M : Mem) : Option (Int32 × Mem) :=
  (f_X9_isSetting a1 M).bind fun r1 => if r1 = 0 then f_X9_set_j25 a1 a2 1 M else (f_X9_isValue a1 a2 M).bind fun r3 => if r3 = 0 then f_X9_set_j25 a1 a2 2 M else f_X9_set_j25 a1 a2 0 M
def f_X9_isTold (a0 : Int32) (a1 : Int32) (M : Mem) : Option (Int32) :=
  (f_X9_within a0 0 140 M).bind fun r1 => if r1 = 0 then some 0 else (f_X9_within a1 0 40 M).bind fun r3 => if r3 = 0 then some 0 else some 1
def f_X9_bring_l3 (v1 : Int32) (v2 : Int32) (v3 : Int32) (z : Int32 × Mem) : Option ((Int32 × Mem) ⊕ (Mem)) :=
  if v3 ≤ z.1 then some (.inr z.2) else (rd z.2 91 432 0).bind fun x2 => (wr z.2 91 432 (1 + (2 * x2)) v1).bind fun M3 => (rd M3 91 432 0).bind fun x4 => (wr M3 91 432 ((1 + (2 * x4)) + 1) v2).bind fun M5 => (rd M5 91 432 0).bind fun x6 => (wr M5 91 432 0 (x6 + 1)).bind fun M7 => some (.inl ((z.1 + 1), M7))
def f_X9_bring (a1 : Int32) (a2 : Int32) (a3 : Int32) (M : Mem) : Option (Mem) :=
  (loopN (f_X9_bring_l3 a1 a2 a3) FU (0, M)).bind fun o8 => some o8
def f_X9_tell_j54 (v1 : Int32) (v2 : Int32) (v3 : Int32) (s1 : Int32) (M : Mem) : Option (Int32 × Mem) :=
  (stf M 90 0 s1).bind fun M6 => if (M6 90 0) ≤ 0 then (f_X9_save M6).bind fun r8 => (f_X9_bring v1 v2 v3 r8).bind fun r9 => (rd r9 91 432 0).bind fun x10 => some (x10, r9) else some (0, M6)
def f_X9_tell_j23 (v1 : Int32) (v2 : Int32) (v3 : Int32) (s0 : Int32) (M : Mem) : Option (Int32 × Mem) :=
  if s0 = 0 then f_X9_tell_j54 v1 v2 v3 1 M else (rd M 91 432 0).bind fun x4 => if (x4 + v3) ≤ 200 then f_X9_tell_j54 v1 v2 v3 0 M else f_X9_tell_j54 v1 v2 v3 2 M
def f_X9_tell_j22 (v1 : Int32) (v2 : Int32) (v3 : Int32) (M : Mem) : Option (Int32 × Mem) :=
  f_X9_tell_j23 v1 v2 v3 0 M
def f_X9_tell (a1 : Int32) (a2 : Int32) (a3 : Int32) (M : Mem) : Option (Int32 × Mem) :=
  (f_X9_isTold a1 a2 M).bind fun r1 => if r1 = 0 then f_X9_tell_j22 a1 a2 a3 M else (f_X9_within a3 1 60 M).bind fun r11 => if r11 = 0 then f_X9_tell_j22 a1 a2 a3 M else f_X9_tell_j23 a1 a2 a3 1 M
def f_X9_correct_j26 (v1 : Int32) (v2 : Int32) (v3 : Int32) (s1 : Int32) (M : Mem) : Option (Int32 × Mem) :=
  (stf M 90 0 s1).bind fun M5 => if (M5 90 0) ≤ 0 then (f_X9_save M5).bind fun r7 => (wr r7 91 432 (1 + (2 * v1)) v2).bind fun M8 => (wr M8 91 432 ((1 + (2 * v1)) + 1) v3).bind fun M9 => (f_X9_lay 0 0 M9).bind fun r10 => some ((r10 90 13), r10) else some (0, M5)
def f_X9_correct (a1 : Int32) (a2 : Int32) (a3 : Int32) (M : Mem) : Option (Int32 × Mem) :=
  (f_X9_isMinute a1 M).bind fun r1 => if r1 = 0 then f_X9_correct_j26 a1 a2 a3 1 M else (f_X9_isTold a2 a3 M).bind fun r3 => if r3 = 0 then f_X9_correct_j26 a1 a2 a3 2 M else f_X9_correct_j26 a1 a2 a3 0 M
def f_X9_forget_l48 (v1 : Int32) (z : Int32 × Mem) : Option ((Int32 × Mem) ⊕ (Mem)) :=
  (rd z.2 91 432 0).bind fun x9 => if (2 * x9) ≤ z.1 then some (.inr z.2) else (rd z.2 91 432 ((1 + z.1) + (2 * v1))).bind fun x11 => (wr z.2 91 432 (1 + z.1) x11).bind fun M12 => some (.inl ((z.1 + 1), M12))
def f_X9_forget_j131 (v1 : Int32) (v2 : Int32) (s1 : Int32) (s2 : Int32) (M : Mem) : Option ((Int32 × Mem) ⊕ (Mem)) :=
  (wr M 91 432 s1 s2).bind fun M18 => some (.inl ((v2 + 1), M18))
def f_X9_forget_l88 (v1 : Int32) (z : Int32 × Mem) : Option ((Int32 × Mem) ⊕ (Mem)) :=
  (rd z.2 91 432 411).bind fun x14 => if x14 ≤ z.1 then some (.inr z.2) else (rd z.2 91 432 (412 + z.1)).bind fun x16 => if 0 ≤ (x16 - v1) then f_X9_forget_j131 v1 z.1 (412 + z.1) (x16 - v1) z.2 else f_X9_forget_j131 v1 z.1 (412 + z.1) 0 z.2
def f_X9_forget_j20 (v1 : Int32) (s1 : Int32) (M : Mem) : Option (Int32 × Mem) :=
  (stf M 90 0 s1).bind fun M4 => if (M4 90 0) ≤ 0 then (f_X9_save M4).bind fun r6 => (rd r6 91 432 0).bind fun x7 => (wr r6 91 432 0 (x7 - v1)).bind fun M8 => (loopN (f_X9_forget_l48 v1) FU (0, M8)).bind fun o13 => (loopN (f_X9_forget_l88 v1) FU (0, o13)).bind fun o19 => (rd o19 91 432 0).bind fun x20 => some (x20, o19) else some (0, M4)
def f_X9_forget (a1 : Int32) (M : Mem) : Option (Int32 × Mem) :=
  (rd M 91 432 0).bind fun x1 => (f_X9_within a1 1 x1 M).bind fun r2 => if r2 = 0 then f_X9_forget_j20 a1 1 M else f_X9_forget_j20 a1 0 M
def f_X9_complain_j34 (v1 : Int32) (s1 : Int32) (M : Mem) : Option (Int32 × Mem) :=
  (stf M 90 0 s1).bind fun M5 => if (M5 90 0) ≤ 0 then (f_X9_save M5).bind fun r7 => (rd r7 91 432 411).bind fun x8 => (wr r7 91 432 (412 + x8) v1).bind fun M9 => (rd M9 91 432 411).bind fun x10 => (wr M9 91 432 411 (x10 + 1)).bind fun M11 => (rd M11 91 432 411).bind fun x12 => some ((x12 - 1), M11) else some (0, M5)
def f_X9_complain (a1 : Int32) (M : Mem) : Option (Int32 × Mem) :=
  (f_X9_within a1 0 300 M).bind fun r1 => if r1 = 0 then f_X9_complain_j34 a1 1 M else (rd M 91 432 411).bind fun x3 => if x3 = 20 then f_X9_complain_j34 a1 2 M else f_X9_complain_j34 a1 0 M
def f_X9_isComplaint (a1 : Int32) (M : Mem) : Option (Int32) :=
  (rd M 91 432 411).bind fun x1 => (f_X9_within a1 0 (x1 - 1) M).bind fun r2 => (bz r2).bind fun x3 => some x3
def f_X9_withdraw_l59 (v2 : Int32) (z : Int32 × Mem) : Option ((Int32 × Mem) ⊕ (Mem)) :=
  (rd z.2 91 432 411).bind fun x10 => if (412 + x10) ≤ z.1 then some (.inr z.2) else (rd z.2 91 432 (z.1 + 1)).bind fun x12 => (wr z.2 91 432 z.1 x12).bind fun M13 => some (.inl ((z.1 + 1), M13))
def f_X9_withdraw_j14 (v1 : Int32) (s1 : Int32) (M : Mem) : Option (Int32 × Mem) :=
  (stf M 90 0 s1).bind fun M3 => if (M3 90 0) ≤ 0 then (f_X9_save M3).bind fun r5 => (f_X9_layAll r5).bind fun r6 => (rd r6 105 20 v1).bind fun x7 => (rd r6 91 432 411).bind fun x8 => (wr r6 91 432 411 (x8 - 1)).bind fun M9 => (loopN (f_X9_withdraw_l59 x7) FU ((412 + v1), M9)).bind fun o14 => some (x7, o14) else some (0, M3)
def f_X9_withdraw (a1 : Int32) (M : Mem) : Option (Int32 × Mem) :=
  (f_X9_isComplaint a1 M).bind fun r1 => if r1 = 0 then f_X9_withdraw_j14 a1 1 M else f_X9_withdraw_j14 a1 0 M
def f_X9_append_j30 (v1 : Int32) (s1 : Int32) (M : Mem) : Option (Int32 × Mem) :=
  (stf M 90 0 s1).bind fun M4 => if (M4 90 0) ≤ 0 then (wr M4 93 60 (M4 90 4) v1).bind fun M6 => (stf M6 90 4 ((M6 90 4) + 1)).bind fun M7 => some ((M7 90 4), M7) else some (0, M4)
def f_X9_append (a1 : Int32) (M : Mem) : Option (Int32 × Mem) :=
  (f_X9_within a1 33 126 M).bind fun r1 => if r1 = 0 then f_X9_append_j30 a1 1 M else if (M 90 4) = 60 then f_X9_append_j30 a1 2 M else f_X9_append_j30 a1 0 M
def f_X9_clearBuffer (M : Mem) : Option (Int32 × Mem) :=
  (stf M 90 0 0).bind fun M1 => (stf M1 90 4 0).bind fun M2 => some ((M1 90 4), M2)
def f_X9_beginPart (M : Mem) : Option (Mem) :=
  (stf M 90 22 0).bind fun M1 => (stf M1 90 23 0).bind fun M2 => (wr M2 107 96 (3 * (M2 90 24)) 0).bind fun M3 => (wr M3 107 96 ((3 * (M3 90 24)) + 1) 0).bind fun M4 => (wr M4 107 96 ((3 * (M4 90 24)) + 2) 1).bind fun M5 => some M5
def f_X9_takesDigit_j146 (v5 : Int32) (s1 : Int32) (s2 : Int32) (M : Mem) : Option (Int32 × Mem) :=
  (stf M 90 23 (s1 + s2)).bind fun M10 => (bz v5).bind fun x11 => some (x11, M10)
def f_X9_takesDigit_j130 (v5 : Int32) (s1 : Int32) (s2 : Int32) (M : Mem) : Option (Int32 × Mem) :=
  (wr M 107 96 s1 s2).bind fun M8 => if v5 = 0 then f_X9_takesDigit_j146 v5 (M8 90 23) 0 M8 else f_X9_takesDigit_j146 v5 (M8 90 23) 1 M8
def f_X9_takesDigit_j107 (v2 : Int32) (v4 : Int32) (s0 : Int32) (M : Mem) : Option (Int32 × Mem) :=
  if s0 = 0 then (rd M 107 96 v2).bind fun x7 => f_X9_takesDigit_j130 s0 v2 x7 M else f_X9_takesDigit_j130 s0 v2 v4 M
def f_X9_takesDigit_j106 (v2 : Int32) (v4 : Int32) (M : Mem) : Option (Int32 × Mem) :=
  f_X9_takesDigit_j107 v2 v4 0 M
def f_X9_takesDigit_j102 (v2 : Int32) (v4 : Int32) (M : Mem) : Option (Int32 × Mem) :=
  f_X9_takesDigit_j107 v2 v4 1 M
def f_X9_takesDigit_j63 (v1 : Int32) (v2 : Int32) (v3 : Int32) (s0 : Int32) (M : Mem) : Option (Int32 × Mem) :=
  if v3 < s0 then f_X9_takesDigit_j106 v2 s0 M else if (M 90 23) = 0 then if (M 90 22) < 2 then f_X9_takesDigit_j102 v2 s0 M else if v1 ≤ 0 then f_X9_takesDigit_j106 v2 s0 M else f_X9_takesDigit_j102 v2 s0 M else (rd M 107 96 v2).bind fun x13 => if x13 ≤ 0 then f_X9_takesDigit_j106 v2 s0 M else f_X9_takesDigit_j102 v2 s0 M
def f_X9_takesDigit_j40 (v1 : Int32) (v2 : Int32) (s0 : Int32) (M : Mem) : Option (Int32 × Mem) :=
  if (M 90 23) = 0 then f_X9_takesDigit_j63 v1 v2 s0 v1 M else (rd M 107 96 v2).bind fun x4 => f_X9_takesDigit_j63 v1 v2 s0 ((10 * x4) + v1) M
def f_X9_takesDigit (a1 : Int32) (M : Mem) : Option (Int32 × Mem) :=
  if (M 90 22) = 0 then f_X9_takesDigit_j40 a1 ((3 * (M 90 24)) + (M 90 22)) 140 M else if (M 90 22) = 1 then f_X9_takesDigit_j40 a1 ((3 * (M 90 24)) + (M 90 22)) 40 M else f_X9_takesDigit_j40 a1 ((3 * (M 90 24)) + (M 90 22)) 60 M
def f_X9_isPartOver_j32 (M : Mem) : Option (Int32) :=
  some 1
def f_X9_isPartOver (M : Mem) : Option (Int32) :=
  if (M 90 23) ≤ 0 then some 0 else if (M 90 22) < 2 then f_X9_isPartOver_j32 M else (rd M 107 96 ((3 * (M 90 24)) + 2)).bind fun x3 => if x3 ≤ 1 then some 0 else f_X9_isPartOver_j32 M
def f_X9_goTo (a1 : Int32) (M : Mem) : Option (Mem) :=
  (stf M 90 22 a1).bind fun M1 => (stf M1 90 23 0).bind fun M2 => some M2
def f_X9_takes_j76 (s1 : Int32) (M : Mem) : Option (Int32 × Mem) :=
  (f_X9_goTo s1 M).bind fun r13 => some (1, r13)
def f_X9_takes_j59 (v1 : Int32) (s0 : Int32) (M : Mem) : Option (Int32 × Mem) :=
  if s0 = 0 then if v1 = 59 then (f_X9_isPartOver M).bind fun r6 => if r6 = 0 then some (0, M) else (rd M 107 96 ((3 * (M 90 24)) + 2)).bind fun x8 => (stf M 90 25 ((M 90 25) + x8)).bind fun M9 => (stf M9 90 24 ((M9 90 24) + 1)).bind fun M10 => (f_X9_beginPart M10).bind fun r11 => some (1, r11) else some (0, M) else if v1 = 64 then f_X9_takes_j76 1 M else f_X9_takes_j76 2 M
def f_X9_takes_j58 (v1 : Int32) (M : Mem) : Option (Int32 × Mem) :=
  f_X9_takes_j59 v1 0 M
def f_X9_takes_j54 (v1 : Int32) (M : Mem) : Option (Int32 × Mem) :=
  f_X9_takes_j59 v1 1 M
def f_X9_takes_j40 (v1 : Int32) (M : Mem) : Option (Int32 × Mem) :=
  if v1 = 42 then if 2 ≤ (M 90 22) then f_X9_takes_j58 v1 M else f_X9_takes_j54 v1 M else f_X9_takes_j58 v1 M
def f_X9_takes (a1 : Int32) (M : Mem) : Option (Int32 × Mem) :=
  (f_X9_within a1 48 57 M).bind fun r1 => if r1 = 0 then if (M 90 23) ≤ 0 then f_X9_takes_j58 a1 M else if a1 = 64 then if (M 90 22) = 0 then f_X9_takes_j54 a1 M else f_X9_takes_j40 a1 M else f_X9_takes_j40 a1 M else (f_X9_takesDigit (a1 - 48) M).bind fun r18 => (bz r18.1).bind fun x19 => some (x19, r18.2)
def f_X9_readText_l16 (z : Int32 × Mem) : Option ((Int32 × Mem) ⊕ (Int32 × Mem)) :=
  if (z.2 90 4) ≤ z.1 then some (.inr (z.1, z.2)) else (rd z.2 93 60 z.1).bind fun x5 => (f_X9_takes x5 z.2).bind fun r6 => if r6.1 = 0 then some (.inr (z.1, r6.2)) else some (.inl ((z.1 + 1), r6.2))
def f_X9_readText (M : Mem) : Option (Int32 × Mem) :=
  (stf M 90 24 0).bind fun M1 => (stf M1 90 25 0).bind fun M2 => (f_X9_beginPart M2).bind fun r3 => (loopN (f_X9_readText_l16) FU (0, r3)).bind fun o8 => some (o8.1, o8.2)
def f_X9_firstError (M : Mem) : Option (Int32 × Mem) :=
  (stf M 90 0 0).bind fun M1 => (f_X9_readText M1).bind fun r2 => some (r2.1, r2.2)
def f_X9_load_l87 (z : Int32 × Mem) : Option ((Int32 × Mem) ⊕ (Mem)) :=
  if (z.2 90 24) < z.1 then some (.inr z.2) else (rd z.2 107 96 (3 * z.1)).bind fun x11 => (rd z.2 107 96 ((3 * z.1) + 1)).bind fun x12 => (rd z.2 107 96 ((3 * z.1) + 2)).bind fun x13 => (f_X9_bring x11 x12 x13 z.2).bind fun r14 => some (.inl ((z.1 + 1), r14))
def f_X9_load_j69 (s1 : Int32) (M : Mem) : Option (Int32 × Mem) :=
  (stf M 90 0 s1).bind fun M7 => if (M7 90 0) ≤ 0 then (f_X9_save M7).bind fun r9 => (loopN (f_X9_load_l87) FU (0, r9)).bind fun o15 => (stf o15 90 4 0).bind fun M16 => (rd M16 91 432 0).bind fun x17 => some (x17, M16) else some (0, M7)
def f_X9_load_j23 (s0 : Int32) (M : Mem) : Option (Int32 × Mem) :=
  if s0 = 0 then f_X9_load_j69 1 M else (rd M 91 432 0).bind fun x4 => (rd M 107 96 ((3 * (M 90 24)) + 2)).bind fun x5 => if ((x4 + (M 90 25)) + x5) ≤ 200 then f_X9_load_j69 0 M else f_X9_load_j69 2 M
def f_X9_load_j22 (M : Mem) : Option (Int32 × Mem) :=
  f_X9_load_j23 0 M
def f_X9_load (M : Mem) : Option (Int32 × Mem) :=
  (f_X9_readText M).bind fun r1 => if r1.1 = (r1.2 90 4) then (f_X9_isPartOver r1.2).bind fun r18 => if r18 = 0 then f_X9_load_j22 r1.2 else f_X9_load_j23 1 r1.2 else f_X9_load_j22 r1.2
def f_X9_minuteNow (a1 : Int32) (a2 : Int32) (M : Mem) : Option (Int32) :=
  if a2 = 0 then (rd M 94 300 a1).bind fun x2 => some x2 else if a2 = 1 then (rd M 95 300 a1).bind fun x4 => some x4 else if a2 = 2 then (rd M 96 300 a1).bind fun x6 => some x6 else if a2 = 3 then (rd M 97 300 a1).bind fun x8 => some x8 else if a2 = 4 then (f_X9_limitOf a1 M).bind fun r10 => some r10 else if a2 = 5 then (f_X9_isRest a1 M).bind fun r12 => if r12 = 0 then some 0 else some 1 else if a2 = 6 then (rd M 98 300 a1).bind fun x15 => some x15 else (rd M 99 300 a1).bind fun x16 => some x16
def f_X9_minute_j28 (v1 : Int32) (v2 : Int32) (s1 : Int32) (M : Mem) : Option (Int32 × Mem) :=
  (stf M 90 0 s1).bind fun M5 => if (M5 90 0) ≤ 0 then (f_X9_layAll M5).bind fun r7 => (f_X9_minuteNow v1 v2 r7).bind fun r8 => some (r8, r7) else some (0, M5)
def f_X9_minute (a1 : Int32) (a2 : Int32) (M : Mem) : Option (Int32 × Mem) :=
  (f_X9_isMinute a1 M).bind fun r1 => if r1 = 0 then f_X9_minute_j28 a1 a2 1 M else (f_X9_within a2 0 7 M).bind fun r3 => if r3 = 0 then f_X9_minute_j28 a1 a2 2 M else f_X9_minute_j28 a1 a2 0 M
def f_X9_exceedanceNow (a1 : Int32) (a2 : Int32) (M : Mem) : Option (Int32) :=
  if a2 = 0 then (rd M 100 300 a1).bind fun x2 => some x2 else if a2 = 1 then (rd M 101 300 a1).bind fun x4 => some x4 else if a2 = 2 then (rd M 102 300 a1).bind fun x6 => some x6 else if a2 = 3 then (rd M 103 300 a1).bind fun x8 => some x8 else if a2 = 4 then (rd M 104 300 a1).bind fun x10 => some x10 else (rd M 106 300 a1).bind fun x11 => some x11
def f_X9_exceedance_j37 (v1 : Int32) (v2 : Int32) (s1 : Int32) (M : Mem) : Option (Int32 × Mem) :=
  (stf M 90 0 s1).bind fun M6 => if (M6 90 0) ≤ 0 then (f_X9_exceedanceNow v1 v2 M6).bind fun r8 => some (r8, M6) else some (0, M6)
def f_X9_exceedance (a1 : Int32) (a2 : Int32) (M : Mem) : Option (Int32 × Mem) :=
  (f_X9_layAll M).bind fun r1 => (f_X9_within a1 0 ((r1 90 13) - 1) r1).bind fun r2 => if r2 = 0 then f_X9_exceedance_j37 a1 a2 1 r1 else (f_X9_within a2 0 5 r1).bind fun r4 => if r4 = 0 then f_X9_exceedance_j37 a1 a2 2 r1 else f_X9_exceedance_j37 a1 a2 0 r1
def f_X9_complaint_j27 (v1 : Int32) (v2 : Int32) (s1 : Int32) (M : Mem) : Option (Int32 × Mem) :=
  (stf M 90 0 s1).bind fun M5 => if (M5 90 0) ≤ 0 then (f_X9_layAll M5).bind fun r7 => if v2 = 0 then (rd r7 91 432 (412 + v1)).bind fun x10 => some (x10, r7) else (rd r7 105 20 v1).bind fun x9 => some (x9, r7) else some (0, M5)
def f_X9_complaint (a1 : Int32) (a2 : Int32) (M : Mem) : Option (Int32 × Mem) :=
  (f_X9_isComplaint a1 M).bind fun r1 => if r1 = 0 then f_X9_complaint_j27 a1 a2 1 M else (f_X9_within a2 0 1 M).bind fun r3 => if r3 = 0 then f_X9_complaint_j27 a1 a2 2 M else f_X9_complaint_j27 a1 a2 0 M
def f_X9_countFrom_j50 (v1 : Int32) (v3 : Int32) (s0 : Int32) (s1 : Int32) (M : Mem) : Option ((Int32 × Int32) ⊕ (Int32)) :=
  some (.inl ((s0 + s1), (v3 + 1)))
def f_X9_countFrom_j49 (v1 : Int32) (v3 : Int32) (s0 : Int32) (M : Mem) : Option ((Int32 × Int32) ⊕ (Int32)) :=
  f_X9_countFrom_j50 v1 v3 s0 0 M
def f_X9_countFrom_j32 (v1 : Int32) (v3 : Int32) (s0 : Int32) (M : Mem) : Option ((Int32 × Int32) ⊕ (Int32)) :=
  (rd M 96 300 v3).bind fun x4 => if x4 < (10 * v1) then f_X9_countFrom_j49 v1 v3 s0 M else f_X9_countFrom_j50 v1 v3 s0 1 M
def f_X9_countFrom_l4 (v1 : Int32) (M : Mem) (z : Int32 × Int32) : Option ((Int32 × Int32) ⊕ (Int32)) :=
  if (M 90 6) ≤ z.2 then some (.inr z.1) else (rd M 98 300 z.2).bind fun x2 => if x2 = 0 then f_X9_countFrom_j32 v1 z.2 z.1 M else (rd M 98 300 z.2).bind fun x6 => if x6 = 3 then f_X9_countFrom_j32 v1 z.2 z.1 M else f_X9_countFrom_j49 v1 z.2 z.1 M
def f_X9_countFrom (a1 : Int32) (M : Mem) : Option (Int32) :=
  (loopN (f_X9_countFrom_l4 a1 M) FU (0, 0)).bind fun o8 => some o8
def f_X9_levelCount_j17 (v1 : Int32) (s1 : Int32) (M : Mem) : Option (Int32 × Mem) :=
  (stf M 90 0 s1).bind fun M3 => if (M3 90 0) ≤ 0 then (f_X9_layAll M3).bind fun r5 => (f_X9_countFrom v1 r5).bind fun r6 => some (r6, r5) else some (0, M3)
def f_X9_levelCount (a1 : Int32) (M : Mem) : Option (Int32 × Mem) :=
  (f_X9_within a1 0 140 M).bind fun r1 => if r1 = 0 then f_X9_levelCount_j17 a1 1 M else f_X9_levelCount_j17 a1 0 M
def f_X9_percentNow_l18 (v1 : Int32) (v2 : Int32) (M : Mem) (z : Int32) : Option ((Int32) ⊕ (Int32)) :=
  if z ≤ 0 then some (.inr z) else (f_X9_countFrom z M).bind fun r4 => if (v1 * v2) ≤ (r4 * 100) then some (.inr z) else some (.inl (z + (-1)))
def f_X9_percentNow_j17 (v1 : Int32) (v2 : Int32) (s0 : Int32) (M : Mem) : Option (Int32) :=
  (loopN (f_X9_percentNow_l18 v1 v2 M) FU s0).bind fun o6 => some o6
def f_X9_percentNow (a1 : Int32) (M : Mem) : Option (Int32) :=
  (f_X9_countFrom 0 M).bind fun r1 => if r1 = 0 then f_X9_percentNow_j17 a1 r1 (-1) M else f_X9_percentNow_j17 a1 r1 140 M
def f_X9_percentLevel_j16 (v1 : Int32) (s1 : Int32) (M : Mem) : Option (Int32 × Mem) :=
  (stf M 90 0 s1).bind fun M3 => if (M3 90 0) ≤ 0 then (f_X9_layAll M3).bind fun r5 => (f_X9_percentNow v1 r5).bind fun r6 => some (r6, r5) else some (0, M3)
def f_X9_percentLevel (a1 : Int32) (M : Mem) : Option (Int32 × Mem) :=
  (f_X9_within a1 1 100 M).bind fun r1 => if r1 = 0 then f_X9_percentLevel_j16 a1 1 M else f_X9_percentLevel_j16 a1 0 M
def f_X9_minutesBy_j35 (v1 : Int32) (v2 : Int32) (v4 : Int32) (s0 : Int32) (s1 : Int32) (M : Mem) : Option ((Int32 × Int32) ⊕ (Int32)) :=
  some (.inl ((s0 + s1), (v4 + 1)))
def f_X9_minutesBy_l5 (v1 : Int32) (v2 : Int32) (M : Mem) (z : Int32 × Int32) : Option ((Int32 × Int32) ⊕ (Int32)) :=
  if (M 90 6) ≤ z.2 then some (.inr z.1) else (rd M 98 300 z.2).bind fun x2 => (f_X9_within x2 v1 v2 M).bind fun r3 => if r3 = 0 then f_X9_minutesBy_j35 v1 v2 z.2 z.1 0 M else f_X9_minutesBy_j35 v1 v2 z.2 z.1 1 M
def f_X9_minutesBy (a1 : Int32) (a2 : Int32) (M : Mem) : Option (Int32) :=
  (loopN (f_X9_minutesBy_l5 a1 a2 M) FU (0, 0)).bind fun o5 => some o5
def f_X9_restMany_j26 (v2 : Int32) (s0 : Int32) (s1 : Int32) (M : Mem) : Option ((Int32 × Int32) ⊕ (Int32)) :=
  some (.inl ((s0 + s1), (v2 + 1)))
def f_X9_restMany_l4 (M : Mem) (z : Int32 × Int32) : Option ((Int32 × Int32) ⊕ (Int32)) :=
  if (M 90 6) ≤ z.2 then some (.inr z.1) else (f_X9_isRest z.2 M).bind fun r2 => if r2 = 0 then f_X9_restMany_j26 z.2 z.1 0 M else f_X9_restMany_j26 z.2 z.1 1 M
def f_X9_restMany (M : Mem) : Option (Int32) :=
  (loopN (f_X9_restMany_l4 M) FU (0, 0)).bind fun o4 => some o4
def f_X9_matchedMany_j32 (v2 : Int32) (s0 : Int32) (s1 : Int32) (M : Mem) : Option ((Int32 × Int32) ⊕ (Int32)) :=
  some (.inl ((s0 + s1), (v2 + 1)))
def f_X9_matchedMany_l4 (M : Mem) (z : Int32 × Int32) : Option ((Int32 × Int32) ⊕ (Int32)) :=
  (rd M 91 432 411).bind fun x1 => if x1 ≤ z.2 then some (.inr z.1) else (rd M 105 20 z.2).bind fun x3 => if x3 = (-1) then f_X9_matchedMany_j32 z.2 z.1 0 M else f_X9_matchedMany_j32 z.2 z.1 1 M
def f_X9_matchedMany (M : Mem) : Option (Int32) :=
  (loopN (f_X9_matchedMany_l4 M) FU (0, 0)).bind fun o5 => some o5
def f_X9_weights_l4 (M : Mem) (z : Int32 × Int32) : Option ((Int32 × Int32) ⊕ (Int32)) :=
  if (M 90 13) ≤ z.2 then some (.inr z.1) else (rd M 104 300 z.2).bind fun x2 => some (.inl ((z.1 + x2), (z.2 + 1)))
def f_X9_weights (M : Mem) : Option (Int32) :=
  (loopN (f_X9_weights_l4 M) FU (0, 0)).bind fun o3 => some o3
def f_X9_heaviest_j37 (v2 : Int32) (s0 : Int32) (M : Mem) : Option ((Int32 × Int32) ⊕ (Int32)) :=
  some (.inl (s0, (v2 + 1)))
def f_X9_heaviest_j32 (v2 : Int32) (M : Mem) : Option ((Int32 × Int32) ⊕ (Int32)) :=
  f_X9_heaviest_j37 v2 v2 M
def f_X9_heaviest_l4 (M : Mem) (z : Int32 × Int32) : Option ((Int32 × Int32) ⊕ (Int32)) :=
  if (M 90 13) ≤ z.2 then some (.inr z.1) else if z.1 = (-1) then f_X9_heaviest_j32 z.2 M else (rd M 104 300 z.2).bind fun x3 => (rd M 104 300 z.1).bind fun x4 => if x3 ≤ x4 then f_X9_heaviest_j37 z.2 z.1 M else f_X9_heaviest_j32 z.2 M
def f_X9_heaviest (M : Mem) : Option (Int32) :=
  (loopN (f_X9_heaviest_l4 M) FU ((-1), 0)).bind fun o6 => some o6
def f_X9_counted (a1 : Int32) (M : Mem) : Option (Int32) :=
  if a1 = 0 then some (M 90 6) else if a1 = 1 then (f_X9_countFrom 0 M).bind fun r3 => some r3 else if a1 = 2 then (f_X9_minutesBy 1 2 M).bind fun r5 => some r5 else if a1 = 3 then (f_X9_restMany M).bind fun r7 => some r7 else if a1 = 4 then (f_X9_minutesBy 0 0 M).bind fun r9 => some r9 else if a1 = 5 then some (M 90 13) else if a1 = 6 then (rd M 91 432 411).bind fun x12 => some x12 else if a1 = 7 then (f_X9_matchedMany M).bind fun r14 => some r14 else if a1 = 8 then (f_X9_weights M).bind fun r16 => some r16 else if a1 = 9 then (f_X9_heaviest M).bind fun r18 => some r18 else if a1 = 10 then some (M 90 2) else if (M 90 19) = 0 then some 0 else some 1
def f_X9_count_j16 (v1 : Int32) (s1 : Int32) (M : Mem) : Option (Int32 × Mem) :=
  (stf M 90 0 s1).bind fun M3 => if (M3 90 0) ≤ 0 then (f_X9_layAll M3).bind fun r5 => (f_X9_counted v1 r5).bind fun r6 => some (r6, r5) else some (0, M3)
def f_X9_count (a1 : Int32) (M : Mem) : Option (Int32 × Mem) :=
  (f_X9_within a1 0 11 M).bind fun r1 => if r1 = 0 then f_X9_count_j16 a1 1 M else f_X9_count_j16 a1 0 M
def f_X9_setting_j13 (v1 : Int32) (s1 : Int32) (M : Mem) : Option (Int32 × Mem) :=
  (stf M 90 0 s1).bind fun M3 => if (M3 90 0) ≤ 0 then (f_X9_of v1 M3).bind fun r5 => some (r5, M3) else some (0, M3)
def f_X9_setting (a1 : Int32) (M : Mem) : Option (Int32 × Mem) :=
  (f_X9_isSetting a1 M).bind fun r1 => if r1 = 0 then f_X9_setting_j13 a1 1 M else f_X9_setting_j13 a1 0 M
def f_X9_withSetting (a1 : Int32) (a2 : Int32) (a3 : Int32) (M : Mem) : Option (Int32 × Mem) :=
  (f_X9_of a1 M).bind fun r1 => (wr M 91 432 (401 + a1) a2).bind fun M2 => (f_X9_layAll M2).bind fun r3 => (f_X9_counted a3 r3).bind fun r4 => (wr r3 91 432 (401 + a1) r1).bind fun M5 => some (r4, M5)
def f_X9_ifSet_j35 (v1 : Int32) (v2 : Int32) (v3 : Int32) (s1 : Int32) (M : Mem) : Option (Int32 × Mem) :=
  (stf M 90 0 s1).bind fun M5 => if (M5 90 0) ≤ 0 then (f_X9_withSetting v1 v2 v3 M5).bind fun r7 => some (r7.1, r7.2) else some (0, M5)
def f_X9_ifSet_j34 (v1 : Int32) (v2 : Int32) (v3 : Int32) (M : Mem) : Option (Int32 × Mem) :=
  f_X9_ifSet_j35 v1 v2 v3 2 M
def f_X9_ifSet (a1 : Int32) (a2 : Int32) (a3 : Int32) (M : Mem) : Option (Int32 × Mem) :=
  (f_X9_isSetting a1 M).bind fun r1 => if r1 = 0 then f_X9_ifSet_j35 a1 a2 a3 1 M else (f_X9_isValue a1 a2 M).bind fun r3 => if r3 = 0 then f_X9_ifSet_j34 a1 a2 a3 M else (f_X9_within a3 0 9 M).bind fun r8 => if r8 = 0 then f_X9_ifSet_j34 a1 a2 a3 M else f_X9_ifSet_j35 a1 a2 a3 0 M
def f_X9_leastNow_j54 (v1 : Int32) (v2 : Int32) (v4 : Int32) (s0 : Int32) (M : Mem) : Option ((Int32 × Int32 × Mem) ⊕ (Int32 × Mem)) :=
  some (.inl (s0, (v4 + 1), M))
def f_X9_leastNow_l11 (v1 : Int32) (v2 : Int32) (z : Int32 × Int32 × Mem) : Option ((Int32 × Int32 × Mem) ⊕ (Int32 × Mem)) :=
  if 140 < z.2.1 then some (.inr (z.1, z.2.2)) else if z.1 = (-1) then (wr z.2.2 91 432 401 z.2.1).bind fun M4 => (f_X9_lay 0 0 M4).bind fun r5 => if v1 < (r5 90 13) then f_X9_leastNow_j54 v1 v2 z.2.1 (-1) r5 else f_X9_leastNow_j54 v1 v2 z.2.1 z.2.1 r5 else some (.inr (z.1, z.2.2))
def f_X9_leastNow_j61 (v2 : Int32) (v3 : Int32) (M : Mem) : Option (Int32 × Mem) :=
  (wr M 91 432 401 v2).bind fun M8 => some (v3, M8)
def f_X9_leastNow (a1 : Int32) (M : Mem) : Option (Int32 × Mem) :=
  (f_X9_of 0 M).bind fun r1 => (loopN (f_X9_leastNow_l11 a1 r1) FU ((-1), 0, M)).bind fun o7 => f_X9_leastNow_j61 r1 o7.1 o7.2
def f_X9_leastLimit_j17 (v1 : Int32) (s1 : Int32) (M : Mem) : Option (Int32 × Mem) :=
  (stf M 90 0 s1).bind fun M3 => if (M3 90 0) ≤ 0 then (f_X9_leastNow v1 M3).bind fun r5 => some (r5.1, r5.2) else some (0, M3)
def f_X9_leastLimit (a1 : Int32) (M : Mem) : Option (Int32 × Mem) :=
  (f_X9_within a1 0 200 M).bind fun r1 => if r1 = 0 then f_X9_leastLimit_j17 a1 1 M else f_X9_leastLimit_j17 a1 0 M
def f_X9_aboveNow_l9 (M : Mem) (z : Int32) : Option ((Int32) ⊕ ((Unit) ⊕ (Int32 × Mem))) :=
  if 100 < z then some (.inr (.inl ())) else (rd M 91 432 0).bind fun x3 => (rd M 98 300 ((x3 + z) - 1)).bind fun x4 => if x4 = 0 then some (.inr (.inr (z, M))) else some (.inl (z + 1))
def f_X9_aboveNow (a1 : Int32) (M : Mem) : Option (Int32 × Mem) :=
  (f_X9_lay 100 a1 M).bind fun r1 => (loopN (f_X9_aboveNow_l9 r1) FU 1).bind fun o6 => Sum.elim (fun o6 => some ((-1), r1)) (fun r7 => some r7) o6
def f_X9_aboveIn_j17 (v1 : Int32) (s1 : Int32) (M : Mem) : Option (Int32 × Mem) :=
  (stf M 90 0 s1).bind fun M3 => if (M3 90 0) ≤ 0 then (f_X9_aboveNow v1 M3).bind fun r5 => some (r5.1, r5.2) else some (0, M3)
def f_X9_aboveIn (a1 : Int32) (M : Mem) : Option (Int32 × Mem) :=
  (f_X9_within a1 0 140 M).bind fun r1 => if r1 = 0 then f_X9_aboveIn_j17 a1 1 M else f_X9_aboveIn_j17 a1 0 M
def f_X9_shareNow (M : Mem) : Option (UInt64) :=
  (f_X9_countFrom 0 M).bind fun r1 => if r1 = 0 then some 0 else (f_X9_minutesBy 0 0 M).bind fun r3 => (dml 0x3ff0000000000000 (FP.i2d r3)).bind fun x4 => (ddv x4 (FP.i2d r1)).bind fun x5 => some x5
def f_X9_share (M : Mem) : Option (UInt64 × Mem) :=
  (stf M 90 0 0).bind fun M1 => (f_X9_layAll M1).bind fun r2 => (f_X9_shareNow r2).bind fun r3 => some (r3, r2)
def f_X9_mix (a1 : Int64) (M : Mem) (L : Lng) : Option (Lng) :=
  (stL L ((31 * (L 0)) + a1)).bind fun L1 => some L1
def f_X9_mixAll_l2 (M : Mem) (z : Int32 × Lng) : Option ((Int32 × Lng) ⊕ (Lng)) :=
  if 12 ≤ z.1 then some (.inr z.2) else (f_X9_counted z.1 M).bind fun r2 => (f_X9_mix (Int32.toInt64 r2) M z.2).bind fun r3 => some (.inl ((z.1 + 1), r3))
def f_X9_mixAll_l26 (M : Mem) (z : Int32 × Lng) : Option ((Int32 × Lng) ⊕ (Lng)) :=
  if 10 ≤ z.1 then some (.inr z.2) else (f_X9_of z.1 M).bind fun r6 => (f_X9_mix (Int32.toInt64 r6) M z.2).bind fun r7 => some (.inl ((z.1 + 1), r7))
def f_X9_mixAll_l50 (M : Mem) (z : Int32 × Lng) : Option ((Int32 × Lng) ⊕ (Lng)) :=
  if (8 * (M 90 6)) ≤ z.1 then some (.inr z.2) else (dvI z.1 8).bind fun x10 => (rmI z.1 8).bind fun x11 => (f_X9_minuteNow x10 x11 M).bind fun r12 => (f_X9_mix (Int32.toInt64 r12) M z.2).bind fun r13 => some (.inl ((z.1 + 1), r13))
def f_X9_mixAll_l86 (M : Mem) (z : Int32 × Lng) : Option ((Int32 × Lng) ⊕ (Lng)) :=
  if (6 * (M 90 13)) ≤ z.1 then some (.inr z.2) else (dvI z.1 6).bind fun x16 => (rmI z.1 6).bind fun x17 => (f_X9_exceedanceNow x16 x17 M).bind fun r18 => (f_X9_mix (Int32.toInt64 r18) M z.2).bind fun r19 => some (.inl ((z.1 + 1), r19))
def f_X9_mixAll_l122 (M : Mem) (z : Int32 × Lng) : Option ((Int32 × Lng) ⊕ (Lng)) :=
  (rd M 91 432 411).bind fun x21 => if x21 ≤ z.1 then some (.inr z.2) else (rd M 91 432 (412 + z.1)).bind fun x23 => (f_X9_mix (Int32.toInt64 x23) M z.2).bind fun r24 => (rd M 105 20 z.1).bind fun x25 => (f_X9_mix (Int32.toInt64 x25) M r24).bind fun r26 => some (.inl ((z.1 + 1), r26))
def f_X9_mixAll_l168 (M : Mem) (z : Int32 × Lng) : Option ((Int32 × Lng) ⊕ (Lng)) :=
  if 140 < z.1 then some (.inr z.2) else (f_X9_countFrom z.1 M).bind fun r29 => (f_X9_mix (Int32.toInt64 r29) M z.2).bind fun r30 => some (.inl ((z.1 + 10), r30))
def f_X9_mixAll (M : Mem) (L : Lng) : Option (Lng) :=
  (loopN (f_X9_mixAll_l2 M) FU (0, L)).bind fun o4 => (loopN (f_X9_mixAll_l26 M) FU (0, o4)).bind fun o8 => (loopN (f_X9_mixAll_l50 M) FU (0, o8)).bind fun o14 => (loopN (f_X9_mixAll_l86 M) FU (0, o14)).bind fun o20 => (loopN (f_X9_mixAll_l122 M) FU (0, o20)).bind fun o27 => (loopN (f_X9_mixAll_l168 M) FU (0, o27)).bind fun o31 => (f_X9_percentNow 1 M).bind fun r32 => (f_X9_mix (Int32.toInt64 r32) M o31).bind fun r33 => (f_X9_percentNow 10 M).bind fun r34 => (f_X9_mix (Int32.toInt64 r34) M r33).bind fun r35 => (f_X9_percentNow 50 M).bind fun r36 => (f_X9_mix (Int32.toInt64 r36) M r35).bind fun r37 => (f_X9_percentNow 90 M).bind fun r38 => (f_X9_mix (Int32.toInt64 r38) M r37).bind fun r39 => (f_X9_percentNow 100 M).bind fun r40 => (f_X9_mix (Int32.toInt64 r40) M r39).bind fun r41 => some r41
def f_Jxe99ae_isNaN_b9ae7 (a0 : UInt64) (M : Mem) : Option (Int32) :=
  if (Op.cmpValue (FP.dcmp a0 a0) .l) = 0 then some 0 else some 1
def f_Jxe99ae_doubleToLongBits_ccdee (a0 : UInt64) (M : Mem) : Option (Int64) :=
  (f_Jxe99ae_isNaN_b9ae7 a0 M).bind fun r1 => if r1 = 0 then some (UInt64.toInt64 a0) else some 9221120237041090560
def f_X9_digest_l65 (M : Mem) (z : Int32 × Lng) : Option ((Int32 × Lng) ⊕ (Lng)) :=
  if (M 90 4) ≤ z.1 then some (.inr z.2) else (rd M 93 60 z.1).bind fun x14 => (f_X9_mix (Int32.toInt64 x14) M z.2).bind fun r15 => some (.inl ((z.1 + 1), r15))
def f_X9_digest (M : Mem) (L : Lng) : Option (Int64 × Mem × Lng) :=
  (stf M 90 0 0).bind fun M1 => (stL L 2161).bind fun L2 => (f_X9_layAll M1).bind fun r3 => (f_X9_mixAll r3 L2).bind fun r4 => (f_X9_shareNow r3).bind fun r5 => (f_Jxe99ae_doubleToLongBits_ccdee r5 r3).bind fun r6 => (f_X9_leastNow 1 r3).bind fun r7 => (f_X9_mix (Int32.toInt64 r7.1) r7.2 r4).bind fun r8 => (f_X9_aboveNow 80 r7.2).bind fun r9 => (f_X9_mix (Int32.toInt64 r9.1) r9.2 r8).bind fun r10 => (f_X9_mix r6 r9.2 r10).bind fun r11 => (f_X9_mix (Int32.toInt64 (r9.2 90 4)) r9.2 r11).bind fun r12 => (loopN (f_X9_digest_l65 r9.2) FU (0, r12)).bind fun o16 => some ((o16 0), r9.2, o16)
