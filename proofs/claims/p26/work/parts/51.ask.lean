/-! class: percents, the least limit, how soon above -/
def pL (q : Nat → Bool) : Nat → Nat
  | 0 => 0
  | l + 1 => if q (l + 1) then l + 1 else pL q l
theorem pL_cong {q q' : Nat → Bool} : ∀ {n : Nat}, (∀ l, l ≤ n → q l = q' l) → pL q n = pL q' n
  | 0, _ => rfl
  | n + 1, h => by
    unfold pL
    rw [pL_cong (fun l hl => h l (by omega)), h (n + 1) (by omega)]
theorem pL_le (q : Nat → Bool) : ∀ n, pL q n ≤ n
  | 0 => Nat.le_refl 0
  | n + 1 => by
    have := pL_le q n
    unfold pL
    split <;> omega
def sPct (pc : Int32) (c : Nat) (G : Nat → Nat) : Int32 := if c = 0 then -1 else nI (pL (fun l => decide (pc * nI c ≤ nI (G l) * 100)) 140)
theorem percent_c {M : Mem} {pc : Int32} {c : Nat} {G : Nat → Nat} (hc : c ≤ 1000) (hG : ∀ l, l ≤ 140 → M 89 l = nI (G l)) : f_X2_levelOfPercent pc (nI c) M = some (sPct pc c G) := by
  have key : Ok (f_X2_levelOfPercent pc (nI c) M) (fun r => r = sPct pc c G) := by
    unfold f_X2_levelOfPercent sPct
    by_cases h0 : c = 0
    · rw [if_pos h0]
      exact Ok.neg (by rw [h0]; decide) (Ok.of rfl)
    rw [if_neg h0]
    refine Ok.pos ((n_le (a := 1) (by decide) (by omega)).mpr (by omega)) ?_
    refine Ok.bind (P := fun o => Sum.elim (fun _ => (0 : Int32)) (fun r => r) o = nI (pL (fun l => decide (pc * nI c ≤ nI (G l) * 100)) 140)) ?_ ?_
    · refine loop_FU (fun i z => z = nI (140 - i) ∧ pL (fun l => decide (pc * nI c ≤ nI (G l) * 100)) 140 = pL (fun l => decide (pc * nI c ≤ nI (G l) * 100)) (140 - i)) _ 140 (by omega) ?_ ?_ ⟨rfl, rfl⟩
      · rintro i z hi ⟨h1, h2⟩
        subst h1
        unfold f_X2_levelOfPercent_l11
        obtain ⟨k, hk⟩ : ∃ k, 140 - i = k + 1 := ⟨140 - i - 1, by omega⟩
        rw [hk] at h2 ⊢
        refine Ok.neg (fun q => by have := (n_le (b := 0) (by omega) (by decide)).mp q; omega) ?_
        refine Ok.eqb (rd_nI (by omega) (by decide)) ?_
        rw [hG _ (by omega)]
        refine Ok.ite (fun cd => ?_) (fun cd => ?_)
        · refine Ok.of ⟨?_, ?_⟩
          · rw [show 140 - (i + 1) = k by omega]
            exact nI_m1 (b := k + 1) (by omega)
          · rw [h2, show 140 - (i + 1) = k by omega]
            show (if decide (pc * nI c ≤ nI (G (k + 1)) * 100) then _ else _) = _
            rw [decide_eq_false (n_le' cd)]
            rfl
        · refine Ok.of ?_
          show nI (k + 1) = _
          rw [h2]
          show _ = nI (if decide (pc * nI c ≤ nI (G (k + 1)) * 100) then _ else _)
          rw [decide_eq_true (le_n cd)]
          rfl
      · rintro z ⟨h1, h2⟩
        subst h1
        unfold f_X2_levelOfPercent_l11
        exact Ok.pos (by decide) (Ok.of (by show 0 = _; rw [h2]; rfl))
    · rintro o ho
      rw [← ho]
      cases o with
      | inl u => exact Ok.of rfl
      | inr r => exact Ok.of rfl
  obtain ⟨r, h1, h2⟩ := key
  rw [h1, h2]
/-- the first of some that is so; one more than its number, 0: none is -/
def fI (q : Nat → Bool) : Nat → Nat
  | 0 => 0
  | k + 1 => if fI q k = 0 then (if q k then k + 1 else 0) else fI q k
theorem fI_le (q : Nat → Bool) : ∀ n, fI q n ≤ n
  | 0 => Nat.le_refl 0
  | n + 1 => by
    have := fI_le q n
    unfold fI
    split
    · split <;> omega
    · omega
theorem fI_cong {q q' : Nat → Bool} : ∀ {n : Nat}, (∀ l, l < n → q l = q' l) → fI q n = fI q' n
  | 0, _ => rfl
  | n + 1, h => by
    unfold fI
    rw [fI_cong (fun l hl => h l (by omega)), h n (by omega)]
theorem fI_st {q : Nat → Bool} {k : Nat} (h : fI q k ≠ 0) : ∀ d, fI q (k + d) = fI q k
  | 0 => rfl
  | d + 1 => by
    show (if fI q (k + d) = 0 then _ else fI q (k + d)) = _
    rw [fI_st h d, if_neg h]
theorem fI_hit {q : Nat → Bool} {k n : Nat} (h0 : fI q k = 0) (hq : q k = true) (hn : k < n) : fI q n = k + 1 := by
  have h1 : fI q (k + 1) = k + 1 := by
    unfold fI
    rw [if_pos h0, if_pos hq]
  have := fI_st (q := q) (k := k + 1) (by omega) (n - (k + 1))
  rw [show k + 1 + (n - (k + 1)) = n by omega] at this
  rw [this, h1]
theorem fI_miss {q : Nat → Bool} {k : Nat} (h0 : fI q k = 0) (hq : q k = false) : fI q (k + 1) = 0 := by
  unfold fI
  rw [if_pos h0, hq]
  rfl
theorem why0 {lv wd st : Nat → Int32} {m : Nat} : dA lv wd st m = (decide (¬ st 4 ≤ wd m) && (decide (¬ (0 < sLw wd st m ∧ m + 1 ≤ sLw wd st m + (st 5).toInt.toNat)) && decide (¬ dS lv st m ≤ 10 * sLim st m))) := by
  unfold dA sWhy dS
  by_cases h1 : st 4 ≤ wd m
  · rw [if_pos h1, decide_eq_false (not_not_intro h1)]
    rfl
  · rw [if_neg h1, decide_eq_true h1]
    by_cases h2 : 0 < sLw wd st m ∧ m + 1 ≤ sLw wd st m + (st 5).toInt.toNat
    · rw [if_pos h2, decide_eq_false (not_not_intro h2)]
      rfl
    · rw [if_neg h2, decide_eq_true h2]
      by_cases h3 : sArm lv (st 9) (m + 1) ≤ 10 * sLim st m
      · rw [if_pos h3, decide_eq_false (not_not_intro h3)]
        rfl
      · rw [if_neg h3, decide_eq_true h3]
        rfl
theorem whyc {lv wd st : Nat → Int32} {m : Nat} : cntd (sWhy lv wd st) m = (decide (¬ st 4 ≤ wd m) && decide (¬ (0 < sLw wd st m ∧ m + 1 ≤ sLw wd st m + (st 5).toInt.toNat))) := by
  unfold cntd sWhy
  by_cases h1 : st 4 ≤ wd m
  · rw [if_pos h1, decide_eq_false (not_not_intro h1)]
    rfl
  · rw [if_neg h1, decide_eq_true h1]
    by_cases h2 : 0 < sLw wd st m ∧ m + 1 ≤ sLw wd st m + (st 5).toInt.toNat
    · rw [if_pos h2, decide_eq_false (not_not_intro h2)]
      rfl
    · rw [if_neg h2, decide_eq_true h2]
      by_cases h3 : sArm lv (st 9) (m + 1) ≤ 10 * sLim st m
      · rw [if_pos h3]
        rfl
      · rw [if_neg h3]
        rfl
/-- another limit -/
def stL0 (st : Nat → Int32) (l : Nat) : Nat → Int32 := upd st 0 (nI l)
theorem stL0_n (st : Nat → Int32) (l : Nat) {k : Nat} (h : k ≠ 0) : stL0 st l k = st k := upd_n h
theorem stL0_lw (wd st : Nat → Int32) (l : Nat) : ∀ m, sLw wd (stL0 st l) m = sLw wd st m
  | 0 => rfl
  | m + 1 => by
    unfold sLw
    rw [stL0_lw wd st l m, stL0_n st l (by decide)]
theorem dA_l {lv wd st : Nat → Int32} {l m : Nat} : dA lv wd (stL0 st l) m = (cntd (sWhy lv wd st) m && decide (¬ dS lv st m ≤ 10 * (if sRest st m then st 1 else nI l))) := by
  rw [why0, whyc, stL0_lw, stL0_n st l (by decide), stL0_n st l (by decide), Bool.and_assoc]
  have e1 : dS lv (stL0 st l) m = dS lv st m := by
    unfold dS
    rw [stL0_n st l (by decide)]
  have e2 : sLim (stL0 st l) m = if sRest st m then st 1 else nI l := by
    unfold sLim
    have : sRest (stL0 st l) m = sRest st m := by
      unfold sRest
      rw [stL0_n st l (by decide), stL0_n st l (by decide)]
    by_cases h : sRest st m
    · rw [if_pos h, if_pos (this ▸ h), stL0_n st l (by decide)]
    · rw [if_neg h, if_neg (this ▸ h)]
      exact upd_s
  rw [e1, e2]
theorem gO_l (st : Nat → Int32) (l : Nat) : gO (stL0 st l) = gO st := by
  unfold gO
  rw [stL0_n st l (by decide)]
theorem withLimit_c {M : Mem} {u n nc l : Nat} {lv wd st cm : Nat → Int32} (hV : V u lv wd st cm n nc M) (hst : stOK st) (hn : n ≤ 200) (hl : l ≤ 140) : f_X7_exceedancesWithLimit u (nI l) M = some (nI (dC lv wd (stL0 st l) n)) := by
  obtain ⟨⟨h1, -⟩, h2, -, -, hg⟩ := hV
  have hst0 := stOK_cong hg.sy hst
  have hgo := gO_b hst
  have key : Ok (f_X7_exceedancesWithLimit u (nI l) M) (fun r => r = nI (dC lv wd (stL0 st l) n)) := by
    unfold f_X7_exceedancesWithLimit
    refine Ok.eqb (show rd M (u + 1) 10 6 = some (M (u + 1) 6) from rd_nI (k := 6) (by decide) (by decide)) ?_
    rw [hg 6 (by decide), hgo.1]
    refine Ok.bind (P := fun r => r = nI (dC lv wd (stL0 st l) n)) ?_ (fun r h => Ok.of h)
    unfold dC
    rw [gO_l]
    refine loop_FU (fun i z => z.1 = nI (xNa (gO st) (dA lv wd (stL0 st l)) i) ∧ xNa (gO st) (dA lv wd (stL0 st l)) i ≤ 20 + i ∧ z.2.1 = nI (xCnt (gO st) (dA lv wd (stL0 st l)) i) ∧ z.2.2 = nI i) _ n (by omega) ?_ ?_ ⟨rfl, by show gO st ≤ _; omega, rfl, rfl⟩
    · rintro i ⟨na, f, j⟩ hi ⟨q1, q2, q3, q4⟩
      dsimp only at q1 q2 q3 q4
      subst q1; subst q3; subst q4
      unfold f_X7_exceedancesWithLimit_l16
      dsimp only
      refine Ok.neg (by rw [h1]; exact nI_ge hi (by omega)) ?_
      have habv : f_X7_isAboveWithLimit u (nI i) (nI l) M = some (if dA lv wd (stL0 st l) i then 1 else 0) := by
        unfold f_X7_isAboveWithLimit
        rw [isCounted_c (by omega), Option.bind_some]
        have ec : cntd (M (u + 2 + 3)) i = cntd (sWhy lv wd st) i := by
          unfold cntd
          rw [show M (u + 2 + 3) i = _ from (h2 i hi).2.2]
        rw [ec, dA_l]
        by_cases hc : cntd (sWhy lv wd st) i
        · rw [if_pos hc, if_neg (by decide), isRest_c hst0 (by omega), Option.bind_some, hc, Bool.true_and]
          have fin : ∀ s0 : Int32, s0 = (if sRest st i then st 1 else nI l) → f_X7_isAboveWithLimit_j34 u (nI i) s0 M = some (if decide (¬ dS lv st i ≤ 10 * (if sRest st i then st 1 else nI l)) = true then 1 else 0) := by
            intro s0 hs
            unfold f_X7_isAboveWithLimit_j34
            rw [rd_nI (by omega) (by decide), Option.bind_some, show M (u + 2 + 2) i = _ from (h2 i hi).2.1, hs]
            by_cases hq : dS lv st i ≤ 10 * (if sRest st i then st 1 else nI l)
            · rw [if_pos hq, decide_eq_false (not_not_intro hq)]
              rfl
            · rw [if_neg hq, decide_eq_true hq]
              rfl
          have hr := sRest_cong hg i
          by_cases hq : sRest st i
          · rw [if_pos (show sRest (M (u + 1)) i from hr.mpr hq), if_neg (by decide), show rd M (u + 1) 10 1 = some (M (u + 1) 1) from rd_nI (k := 1) (by decide) (by decide), Option.bind_some]
            exact fin _ (by rw [if_pos hq, hg 1 (by decide)])
          · rw [if_neg (show ¬ sRest (M (u + 1)) i from fun q => hq (hr.mp q)), if_pos rfl]
            exact fin _ (by rw [if_neg hq])
        · rw [if_neg hc, if_pos rfl, show cntd (sWhy lv wd st) i = false by simpa using hc]
          rfl
      refine Ok.eqb habv ?_
      unfold f_X7_exceedancesWithLimit_j46 f_X7_exceedancesWithLimit_j54
      have n1 : xNa (gO st) (dA lv wd (stL0 st l)) (i + 1) = if dA lv wd (stL0 st l) i then 0 else xNa (gO st) (dA lv wd (stL0 st l)) i + 1 := rfl
      have n2 : xCnt (gO st) (dA lv wd (stL0 st l)) (i + 1) = xCnt (gO st) (dA lv wd (stL0 st l)) i + (if dA lv wd (stL0 st l) i && decide (gO st ≤ xNa (gO st) (dA lv wd (stL0 st l)) i) then 1 else 0) := rfl
      by_cases ha : dA lv wd (stL0 st l) i
      · rw [if_pos ha]
        refine Ok.neg (by decide) ?_
        refine Ok.ite (fun c => Ok.of ⟨?_, ?_, ?_, nI_1 i⟩) (fun c => Ok.of ⟨?_, ?_, ?_, nI_1 i⟩)
        · rw [n1, if_pos ha]; rfl
        · rw [n1, if_pos ha]; omega
        · rw [n2, ha, decide_eq_false (by have := (n_lt (by omega) (by omega)).mp c; omega)]; rfl
        · rw [n1, if_pos ha]; rfl
        · rw [n1, if_pos ha]; omega
        · rw [n2, ha, decide_eq_true (by have : ¬ xNa (gO st) (dA lv wd (stL0 st l)) i < gO st := fun q => c ((n_lt (by omega) (by omega)).mpr q); omega)]
          exact nI_1 _
      · rw [if_neg ha]
        refine Ok.pos rfl (Ok.of ⟨?_, ?_, ?_, nI_1 i⟩)
        · rw [n1, if_neg ha]; exact nI_1 _
        · rw [n1, if_neg ha]; omega
        · rw [n2, show dA lv wd (stL0 st l) i = false by simpa using ha]; rfl
    · rintro ⟨na, f, j⟩ ⟨q1, q2, q3, q4⟩
      dsimp only at q1 q2 q3 q4
      subst q4
      unfold f_X7_exceedancesWithLimit_l16
      dsimp only
      exact Ok.pos (by rw [h1]; exact nI_le (Nat.le_refl _) (by omega)) (Ok.of q3)
  obtain ⟨r, e1, e2⟩ := key
  rw [e1, e2]
def sLst (lv wd st : Nat → Int32) (n : Nat) (most : Int32) : Int32 := nI (fI (fun l => decide (nI (dC lv wd (stL0 st l) n) ≤ most)) 141) - 1
theorem least_c {M : Mem} {u n nc : Nat} {lv wd st cm : Nat → Int32} {most : Int32} (hV : V u lv wd st cm n nc M) (hst : stOK st) (hn : n ≤ 200) : f_X7_leastLimitFor u most M = some (sLst lv wd st n most) := by
  have key : Ok (f_X7_leastLimitFor u most M) (fun r => r = sLst lv wd st n most) := by
    unfold f_X7_leastLimitFor
    refine Ok.bind (P := fun o => Sum.elim (fun _ => (-1 : Int32)) (fun r => r) o = sLst lv wd st n most) ?_ ?_
    · refine loop_FU (fun i z => z = nI i ∧ fI (fun l => decide (nI (dC lv wd (stL0 st l) n) ≤ most)) i = 0) _ 141 (by omega) ?_ ?_ ⟨rfl, rfl⟩
      · rintro i z hi ⟨h1, h2⟩
        subst h1
        unfold f_X7_leastLimitFor_l2
        refine Ok.neg (fun q => by have := (n_lt (a := 140) (by decide) (by omega)).mp q; omega) ?_
        refine Ok.eqb (withLimit_c hV hst hn (by omega)) ?_
        refine Ok.ite (fun c => Ok.of ⟨nI_1 i, ?_⟩) (fun c => Ok.of ?_)
        · exact fI_miss h2 (decide_eq_false (n_le' c))
        · show nI i = nI _ - 1
          rw [fI_hit h2 (decide_eq_true (le_n c)) hi, nI_pred]
      · rintro z ⟨h1, h2⟩
        subst h1
        unfold f_X7_leastLimitFor_l2
        refine Ok.pos (by decide) (Ok.of ?_)
        show -1 = nI _ - 1
        rw [h2]
        rfl
    · rintro o ho
      rw [← ho]
      cases o with
      | inl u => exact Ok.of rfl
      | inr r => exact Ok.of rfl
  obtain ⟨r, h1, h2⟩ := key
  rw [h1, h2]
/-- what would be with more minutes of one level and no wind -/
def xLv (lv : Nat → Int32) (n : Nat) (loud : Int32) (m : Nat) : Int32 := if m < n then lv m else loud
def xWd (wd : Nat → Int32) (n : Nat) (m : Nat) : Int32 := if m < n then wd m else 0
theorem xLw {wd st : Nat → Int32} {n : Nat} (hst : stOK st) : ∀ k, sLw (xWd wd n) st (n + k) = sLw wd st n
  | 0 => by
    refine sLw_cong (fun k _ => rfl) (fun j hj => ?_)
    unfold xWd
    rw [if_pos (show j < n by omega)]
  | k + 1 => by
    show (if st 4 ≤ xWd wd n (n + k) then _ else sLw (xWd wd n) st (n + k)) = _
    rw [if_neg, xLw hst k]
    unfold xWd
    rw [if_neg (by omega)]
    intro q
    have := i_le.mp q
    have h4 := hst.2.2.2.2.1
    have e0 : (0 : Int32).toInt = 0 := rfl
    omega
def sAbv (lv wd st : Nat → Int32) (n : Nat) (loud : Int32) : Int32 := if fI (fun k => dA (xLv lv n loud) (xWd wd n) st (n + k)) 100 = 0 then -1 else nI (fI (fun k => dA (xLv lv n loud) (xWd wd n) st (n + k)) 100)
theorem until_c {M : Mem} {u n nc : Nat} {lv wd st cm : Nat → Int32} {loud : Int32} (hV : V u lv wd st cm n nc M) (hst : stOK st) (hn : n ≤ 200) : f_X7_minutesUntilAbove u loud M = some (sAbv lv wd st n loud) := by
  obtain ⟨⟨h1, -, -, -, h7⟩, h2, -, -, hg⟩ := hV
  have hst0 := stOK_cong hg.sy hst
  have key : Ok (f_X7_minutesUntilAbove u loud M) (fun r => r = sAbv lv wd st n loud) := by
    unfold f_X7_minutesUntilAbove
    have e0 : f_X4_lastSlowPlace (u + 2) M = some (sArm (xLv lv n loud) (st 9) n) := by
      unfold f_X4_lastSlowPlace
      have ea : sArm (xLv lv n loud) (st 9) n = sArm lv (st 9) n := arm_cong (fun m hm => by unfold xLv; rw [if_pos hm])
      rw [h1, ea]
      by_cases h0 : n = 0
      · rw [if_neg (by rw [h0]; decide), h0]
        rfl
      · rw [if_pos (show (1 : Int32) ≤ nI n from (n_le (a := 1) (b := n) (by decide) (by omega)).mpr (by omega)), nI_p1 (by omega), rd_nI (by omega) (by decide), Option.bind_some, show M (u + 2 + 2) (n - 1) = _ from (h2 (n - 1) (by omega)).2.1]
        unfold dS
        rw [show n - 1 + 1 = n by omega]
    refine Ok.eqb e0 ?_
    refine Ok.bind (P := fun o => Sum.elim (fun _ => (-1 : Int32)) (fun r => r) o = sAbv lv wd st n loud) ?_ ?_
    · refine loop_FU (fun i z => z.1 = sArm (xLv lv n loud) (st 9) (n + i) ∧ z.2 = nI (i + 1) ∧ fI (fun k => dA (xLv lv n loud) (xWd wd n) st (n + k)) i = 0) _ 100 (by omega) ?_ ?_ ⟨rfl, rfl, rfl⟩
      · rintro i ⟨pl, j⟩ hi ⟨q1, q2, q3⟩
        dsimp only at q1 q2 q3
        subst q1; subst q2
        unfold f_X7_minutesUntilAbove_l10
        dsimp only
        refine Ok.neg (fun q => by have := (n_lt (a := 100) (by decide) (by omega)).mp q; omega) ?_
        refine Ok.eqb (show rd M (u + 1) 10 9 = some (M (u + 1) 9) from rd_nI (k := 9) (by decide) (by decide)) ?_
        rw [hg 9 (by decide)]
        refine Ok.eqb (moved_c hst.2.2.2.2.2.2.2.2.2.1) ?_
        refine Ok.eqb (show rd M (u + 1) 10 5 = some (M (u + 1) 5) from rd_nI (k := 5) (by decide) (by decide)) ?_
        rw [hg 5 (by decide), h1, nI_add, show n + (i + 1) = (n + i) + 1 by omega, nI_pred]
        have hlw := sLw_le wd st n
        refine Ok.eqb (soon_c h7 (by omega) (by omega) hst.2.2.2.2.2.1) ?_
        have hpl : sArm (xLv lv n loud) (st 9) (n + i) + (10 * loud - sArm (xLv lv n loud) (st 9) (n + i)) / st 9 = sArm (xLv lv n loud) (st 9) (n + i + 1) := by
          show _ = sArm (xLv lv n loud) (st 9) (n + i) + (10 * xLv lv n loud (n + i) - sArm (xLv lv n loud) (st 9) (n + i)) / st 9
          rw [show xLv lv n loud (n + i) = loud by unfold xLv; rw [if_neg (by omega)]]
        rw [hpl]
        have hnw : ¬ st 4 ≤ xWd wd n (n + i) := by
          unfold xWd
          rw [if_neg (by omega)]
          intro q
          have := i_le.mp q
          have h4 := hst.2.2.2.2.1
          have e0 : (0 : Int32).toInt = 0 := rfl
          omega
        have hq := why0 (lv := xLv lv n loud) (wd := xWd wd n) (st := st) (m := n + i)
        rw [xLw hst, decide_eq_true hnw, Bool.true_and] at hq
        unfold f_X7_minutesUntilAbove_j82
        by_cases hs : 0 < sLw wd st n ∧ n + i + 1 ≤ sLw wd st n + (st 5).toInt.toNat
        · rw [if_pos hs]
          rw [decide_eq_false (not_not_intro hs), Bool.false_and] at hq
          exact Ok.neg (by decide) (Ok.of ⟨rfl, nI_1 _, fI_miss q3 hq⟩)
        · rw [if_neg hs]
          rw [decide_eq_true hs, Bool.true_and] at hq
          refine Ok.pos rfl ?_
          refine Ok.eqb (limitAt_c hst0 (by omega)) ?_
          rw [sLim_cong hg]
          refine Ok.ite (fun c => Ok.of ⟨rfl, nI_1 _, fI_miss q3 (hq.trans (decide_eq_false (not_not_intro c)))⟩) (fun c => Ok.of ?_)
          show nI (i + 1) = _
          unfold sAbv
          rw [fI_hit q3 (hq.trans (decide_eq_true c)) hi, if_neg (by omega)]
      · rintro ⟨pl, j⟩ ⟨q1, q2, q3⟩
        dsimp only at q1 q2 q3
        subst q2
        unfold f_X7_minutesUntilAbove_l10
        dsimp only
        refine Ok.pos (by decide) (Ok.of ?_)
        show -1 = sAbv lv wd st n loud
        unfold sAbv
        rw [if_pos q3]
    · rintro o ho
      rw [← ho]
      cases o with
      | inl u => exact Ok.of rfl
      | inr r => exact Ok.of rfl
  obtain ⟨r, h1, h2⟩ := key
  rw [h1, h2]
