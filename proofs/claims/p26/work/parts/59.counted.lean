/-! the law counts -/
section CountedK
variable {g0 a : Nat} {v mo m w : Int32} {M : Mem}
theorem k79 (h : a ≠ 1) (ha : a ≤ 9) : f_L_counted_j79 g0 (nI a) v mo m w M = f_L_counted_j113 g0 (nI a) v mo m w M := by
  unfold f_L_counted_j79
  exact if_neg (show ¬ nI a = 1 from nI_ne (b := 1) (by omega) (by decide) h)
theorem k113 (h : a ≠ 2) (ha : a ≤ 9) : f_L_counted_j113 g0 (nI a) v mo m w M = f_L_counted_j146 g0 (nI a) v mo m w M := by
  unfold f_L_counted_j113
  exact if_neg (show ¬ nI a = 2 from nI_ne (b := 2) (by omega) (by decide) h)
theorem k146 (h : a ≠ 3) (ha : a ≤ 9) : f_L_counted_j146 g0 (nI a) v mo m w M = f_L_counted_j170 g0 (nI a) v mo m w M := by
  unfold f_L_counted_j146
  exact if_neg (show ¬ nI a = 3 from nI_ne (b := 3) (by omega) (by decide) h)
theorem k170 (h : a ≠ 4) (ha : a ≤ 9) : f_L_counted_j170 g0 (nI a) v mo m w M = f_L_counted_j193 g0 (nI a) v mo m w M := by
  unfold f_L_counted_j170
  exact if_neg (show ¬ nI a = 4 from nI_ne (b := 4) (by omega) (by decide) h)
theorem k193 (h : a ≠ 8) (ha : a ≤ 9) : f_L_counted_j193 g0 (nI a) v mo m w M = f_L_counted_j206 g0 (nI a) v mo m w M := by
  unfold f_L_counted_j193
  exact if_neg (show ¬ nI a = 8 from nI_ne (b := 8) (by omega) (by decide) h)
theorem k206 (h : a ≠ 9) (ha : a ≤ 9) : f_L_counted_j206 g0 (nI a) v mo m w M = f_L_counted_j247 g0 (nI a) v mo m M := by
  unfold f_L_counted_j206
  exact if_neg (show ¬ nI a = 9 from nI_ne (b := 9) (by omega) (by decide) h)
end CountedK
/-- what is counted up to minute i -/
def vI (lv wd st : Nat → Int32) (n i : Nat) : Nat → Int32
  | 1 => nI (cB (cntd (sWhy lv wd st)) i)
  | 2 => nI i - nI (cB (cntd (sWhy lv wd st)) i)
  | 3 => nI (cB (fun m => decide (sRest st m)) i)
  | 4 => nI (cB (dA lv wd st) i)
  | 8 => sumW (xWt (gO st) (dA lv wd st) (dT lv st) n) (xCnt (gO st) (dA lv wd st) i)
  | 9 => nI (hvy (xWt (gO st) (dA lv wd st) (dT lv st) n) (xCnt (gO st) (dA lv wd st) i)) - 1
  | _ => 0
def mO (lv wd st : Nat → Int32) (n i : Nat) : Int32 := if hvy (xWt (gO st) (dA lv wd st) (dT lv st) n) (xCnt (gO st) (dA lv wd st) i) = 0 then 0 else xWt (gO st) (dA lv wd st) (dT lv st) n (hvy (xWt (gO st) (dA lv wd st) (dT lv st) n) (xCnt (gO st) (dA lv wd st) i) - 1)
theorem why4 (lv wd st : Nat → Int32) (m : Nat) : sWhy lv wd st m = 0 ∨ sWhy lv wd st m = 1 ∨ sWhy lv wd st m = 2 ∨ sWhy lv wd st m = 3 := by
  unfold sWhy
  split
  · exact Or.inr (Or.inl rfl)
  · split
    · exact Or.inr (Or.inr (Or.inl rfl))
    · split
      · exact Or.inr (Or.inr (Or.inr rfl))
      · exact Or.inl rfl
theorem cB_s (p : Nat → Bool) (m : Nat) : cB p (m + 1) = cB p m + (if p m then 1 else 0) := rfl
theorem cnt_loop {lv wd st : Nat → Int32} {n g0 a : Nat} {M : Mem} (hz : Lz lv wd st n M) (hst : stOK st) (hL : Ld lv wd st n M) (ha : a ≤ 9) : loopN (f_L_counted_l41 g0 (nI a) M) FU ((if a = 9 then -1 else 0), 0, 0) = some (vI lv wd st n n a) := by
  obtain ⟨hn, hg, hd, h98⟩ := Ld_Bm hz hst hL
  have hst0 := stOK_cong hz.2.2.2.sy hst
  have key : Ok (loopN (f_L_counted_l41 g0 (nI a) M) FU ((if a = 9 then -1 else 0), 0, 0)) (fun r => r = vI lv wd st n n a) := by
    refine loop_FU (fun i z => z.1 = vI lv wd st n i a ∧ (a = 9 → z.2.1 = mO lv wd st n i) ∧ z.2.2 = nI i) _ n (by omega) ?_ ?_ ⟨?_, fun _ => rfl, rfl⟩
    · rintro i ⟨v, mo, y⟩ hi ⟨h1, h2, h3⟩
      dsimp only at h1 h2 h3
      subst h1; subst h3
      unfold f_L_counted_l41
      dsimp only
      refine Ok.eqb r930 ?_
      rw [hd]
      refine Ok.neg (nI_ge hi (by omega)) ?_
      refine Ok.eqb (rd_nI (by omega) (by decide)) ?_
      rw [h98 i hi]
      have hs := b_self (g := gO st) (av := dA lv wd st) hg (show n ≤ 300 by omega) hi
      obtain ⟨-, -, a7, -⟩ := hL i hi
      have r97 : rd M 97 60 (nI i) = some (sWhy lv wd st i) := by
        rw [rd_nI (by omega) (by decide), a7]
      have r98 : rd M 98 60 (nI i) = some (bS (gO st) (dA lv wd st) n i) := by
        rw [rd_nI (by omega) (by decide), h98 i hi]
      have fin : ∀ v' mo' : Int32, v' = vI lv wd st n (i + 1) a → (a = 9 → mo' = mO lv wd st n (i + 1)) → Ok (f_L_counted_j247 g0 (nI a) v' mo' (nI i) M) (fun o => Sum.elim (fun z => z.1 = vI lv wd st n (i + 1) a ∧ (a = 9 → z.2.1 = mO lv wd st n (i + 1)) ∧ z.2.2 = nI (i + 1)) (fun r => r = vI lv wd st n n a) o) := by
        intro v' mo' q1 q2
        unfold f_L_counted_j247
        exact Ok.of ⟨q1, q2, nI_1 i⟩
      have hcs : cntd (sWhy lv wd st) i = (decide (sWhy lv wd st i = 0) || decide (sWhy lv wd st i = 3)) := rfl
      have go : ∀ wt : Int32, ((dA lv wd st i = true ∨ True) ∧ (xBg (gO st) (dA lv wd st) i = true → wt = xWt (gO st) (dA lv wd st) (dT lv st) n (xCnt (gO st) (dA lv wd st) i)) ∧ (¬ xBg (gO st) (dA lv wd st) i = true → wt = 0)) → Ok (f_L_counted_j79 g0 (nI a) (vI lv wd st n i a) mo (nI i) wt M) (fun o => Sum.elim (fun z => z.1 = vI lv wd st n (i + 1) a ∧ (a = 9 → z.2.1 = mO lv wd st n (i + 1)) ∧ z.2.2 = nI (i + 1)) (fun r => r = vI lv wd st n n a) o) := by
        rintro wt ⟨-, w1, w2⟩
        rcases (show a = 0 ∨ a = 5 ∨ a = 6 ∨ a = 7 ∨ a = 1 ∨ a = 2 ∨ a = 3 ∨ a = 4 ∨ a = 8 ∨ a = 9 by omega) with rfl | rfl | rfl | rfl | rfl | rfl | rfl | rfl | rfl | rfl
        · rw [k79 (by decide) (by decide), k113 (by decide) (by decide), k146 (by decide) (by decide), k170 (by decide) (by decide), k193 (by decide) (by decide), k206 (by decide) (by decide)]
          exact fin _ _ rfl (fun q => absurd q (by decide))
        · rw [k79 (by decide) (by decide), k113 (by decide) (by decide), k146 (by decide) (by decide), k170 (by decide) (by decide), k193 (by decide) (by decide), k206 (by decide) (by decide)]
          exact fin _ _ rfl (fun q => absurd q (by decide))
        · rw [k79 (by decide) (by decide), k113 (by decide) (by decide), k146 (by decide) (by decide), k170 (by decide) (by decide), k193 (by decide) (by decide), k206 (by decide) (by decide)]
          exact fin _ _ rfl (fun q => absurd q (by decide))
        · rw [k79 (by decide) (by decide), k113 (by decide) (by decide), k146 (by decide) (by decide), k170 (by decide) (by decide), k193 (by decide) (by decide), k206 (by decide) (by decide)]
          exact fin _ _ rfl (fun q => absurd q (by decide))
        · -- counted
          have tail : ∀ s : Int32, s = (if cntd (sWhy lv wd st) i then 1 else 0) → Ok (f_L_counted_j113 g0 (nI 1) (vI lv wd st n i 1 + s) mo (nI i) wt M) (fun o => Sum.elim (fun z => z.1 = vI lv wd st n (i + 1) 1 ∧ (1 = 9 → z.2.1 = mO lv wd st n (i + 1)) ∧ z.2.2 = nI (i + 1)) (fun r => r = vI lv wd st n n 1) o) := by
            intro s hs9
            rw [k113 (by decide) (by decide), k146 (by decide) (by decide), k170 (by decide) (by decide), k193 (by decide) (by decide), k206 (by decide) (by decide)]
            refine fin _ _ ?_ (fun q => absurd q (by decide))
            rw [hs9]
            show nI (cB (cntd (sWhy lv wd st)) i) + _ = nI (cB (cntd (sWhy lv wd st)) (i + 1))
            rw [cB_s]
            by_cases hq : cntd (sWhy lv wd st) i = true
            · rw [if_pos hq, if_pos hq]
              exact nI_1 _
            · rw [if_neg hq, if_neg hq]
              exact nI_add _ 0
          unfold f_L_counted_j79 f_L_counted_j105 f_L_counted_j110
          refine Ok.pos rfl (Ok.eqb r97 (Ok.ite (fun c => tail 1 ?_) (fun c => Ok.eqb r97 (Ok.ite (fun c2 => tail 1 ?_) (fun c2 => tail 0 ?_)))))
          · rw [hcs, decide_eq_true c, Bool.true_or, if_pos rfl]
          · rw [hcs, decide_eq_true c2, Bool.or_true, if_pos rfl]
          · rw [hcs, decide_eq_false c, decide_eq_false c2]
            rfl
        · -- not counted
          rw [k79 (by decide) (by decide)]
          have tail : ∀ s : Int32, s = (if cntd (sWhy lv wd st) i then 0 else 1) → Ok (f_L_counted_j146 g0 (nI 2) (vI lv wd st n i 2 + s) mo (nI i) wt M) (fun o => Sum.elim (fun z => z.1 = vI lv wd st n (i + 1) 2 ∧ (2 = 9 → z.2.1 = mO lv wd st n (i + 1)) ∧ z.2.2 = nI (i + 1)) (fun r => r = vI lv wd st n n 2) o) := by
            intro s hs9
            rw [k146 (by decide) (by decide), k170 (by decide) (by decide), k193 (by decide) (by decide), k206 (by decide) (by decide)]
            refine fin _ _ ?_ (fun q => absurd q (by decide))
            rw [hs9]
            have hle := cB_le (cntd (sWhy lv wd st)) i
            show nI i - nI (cB (cntd (sWhy lv wd st)) i) + _ = nI (i + 1) - nI (cB (cntd (sWhy lv wd st)) (i + 1))
            rw [cB_s]
            have e0 : (nI i - nI (cB (cntd (sWhy lv wd st)) i)).toInt = (i : Int) - (cB (cntd (sWhy lv wd st)) i : Int) := by
              rw [i_sub] <;> rw [i_nI (by omega), i_nI (by omega)] <;> omega
            have z0 : (0 : Int32).toInt = 0 := rfl
            have z1 : (1 : Int32).toInt = 1 := rfl
            refine i_eq.mpr ?_
            by_cases hq : cntd (sWhy lv wd st) i = true
            · rw [if_pos hq, if_pos hq]
              have e1 : (nI (i + 1) - nI (cB (cntd (sWhy lv wd st)) i + 1)).toInt = ((i + 1 : Nat) : Int) - ((cB (cntd (sWhy lv wd st)) i + 1 : Nat) : Int) := by
                rw [i_sub] <;> rw [i_nI (by omega), i_nI (by omega)] <;> omega
              rw [e1]
              rw [i_add] <;> rw [e0, z0] <;> omega
            · rw [if_neg hq, if_neg hq]
              have e1 : (nI (i + 1) - nI (cB (cntd (sWhy lv wd st)) i + 0)).toInt = ((i + 1 : Nat) : Int) - ((cB (cntd (sWhy lv wd st)) i : Nat) : Int) := by
                rw [Nat.add_zero]
                rw [i_sub] <;> rw [i_nI (by omega), i_nI (by omega)] <;> omega
              rw [e1]
              rw [i_add] <;> rw [e0, z1] <;> omega
          unfold f_L_counted_j113 f_L_counted_j138 f_L_counted_j143
          have hy := why4 lv wd st i
          refine Ok.pos rfl (Ok.eqb r97 (Ok.ite (fun c => tail 1 ?_) (fun c => Ok.eqb r97 (Ok.ite (fun c2 => tail 1 ?_) (fun c2 => tail 0 ?_)))))
          · rw [hcs, c]
            rfl
          · rw [hcs, c2]
            rfl
          · rcases hy with hy | hy | hy | hy
            · rw [hcs, hy]
              rfl
            · exact absurd hy c
            · exact absurd hy c2
            · rw [hcs, hy]
              rfl
        · -- rest
          rw [k79 (by decide) (by decide), k113 (by decide) (by decide)]
          have tail : ∀ s : Int32, s = (if sRest st i then 1 else 0) → Ok (f_L_counted_j170 g0 (nI 3) (vI lv wd st n i 3 + s) mo (nI i) wt M) (fun o => Sum.elim (fun z => z.1 = vI lv wd st n (i + 1) 3 ∧ (3 = 9 → z.2.1 = mO lv wd st n (i + 1)) ∧ z.2.2 = nI (i + 1)) (fun r => r = vI lv wd st n n 3) o) := by
            intro s hs9
            rw [k170 (by decide) (by decide), k193 (by decide) (by decide), k206 (by decide) (by decide)]
            refine fin _ _ ?_ (fun q => absurd q (by decide))
            rw [hs9]
            show nI (cB (fun m => decide (sRest st m)) i) + _ = nI (cB (fun m => decide (sRest st m)) (i + 1))
            rw [cB_s]
            by_cases hq : sRest st i
            · rw [if_pos hq, if_pos (decide_eq_true hq)]
              exact nI_1 _
            · rw [if_neg hq, if_neg (by simpa using hq)]
              exact nI_add _ 0
          unfold f_L_counted_j146 f_L_counted_j167
          refine Ok.pos rfl (Ok.eqb (rest_l hst0 (by omega)) ?_)
          have hr := sRest_cong hz.2.2.2 i
          by_cases hq : sRest st i
          · rw [if_pos (show sRest (M 94) i from hr.mpr hq)]
            exact Ok.neg (by decide) (tail 1 (by rw [if_pos hq]))
          · rw [if_neg (show ¬ sRest (M 94) i from fun q => hq (hr.mp q))]
            exact Ok.pos rfl (tail 0 (by rw [if_neg hq]))
        · -- above
          rw [k79 (by decide) (by decide), k113 (by decide) (by decide), k146 (by decide) (by decide)]
          have tail : ∀ s : Int32, s = (if dA lv wd st i then 1 else 0) → Ok (f_L_counted_j193 g0 (nI 4) (vI lv wd st n i 4 + s) mo (nI i) wt M) (fun o => Sum.elim (fun z => z.1 = vI lv wd st n (i + 1) 4 ∧ (4 = 9 → z.2.1 = mO lv wd st n (i + 1)) ∧ z.2.2 = nI (i + 1)) (fun r => r = vI lv wd st n n 4) o) := by
            intro s hs9
            rw [k193 (by decide) (by decide), k206 (by decide) (by decide)]
            refine fin _ _ ?_ (fun q => absurd q (by decide))
            rw [hs9]
            show nI (cB (dA lv wd st) i) + _ = nI (cB (dA lv wd st) (i + 1))
            rw [cB_s]
            by_cases hq : dA lv wd st i = true
            · rw [if_pos hq, if_pos hq]
              exact nI_1 _
            · rw [if_neg hq, if_neg hq]
              exact nI_add _ 0
          unfold f_L_counted_j170 f_L_counted_j190
          refine Ok.pos rfl (Ok.eqb r97 (Ok.ite (fun c => tail 1 ?_) (fun c => tail 0 ?_)))
          · unfold dA
            rw [decide_eq_true c]
            rfl
          · unfold dA
            rw [decide_eq_false c]
            rfl
        · -- all weights
          rw [k79 (by decide) (by decide), k113 (by decide) (by decide), k146 (by decide) (by decide), k170 (by decide) (by decide)]
          unfold f_L_counted_j193
          refine Ok.pos rfl ?_
          rw [k206 (by decide) (by decide)]
          refine fin _ _ ?_ (fun q => absurd q (by decide))
          show sumW _ (xCnt (gO st) (dA lv wd st) i) + wt = sumW _ (xCnt (gO st) (dA lv wd st) (i + 1))
          by_cases hb : xBg (gO st) (dA lv wd st) i = true
          · rw [(xBg_b hg hb).2.2, w1 hb]
            rfl
          · have h9 : xCnt (gO st) (dA lv wd st) (i + 1) = xCnt (gO st) (dA lv wd st) i := by
              show xCnt _ _ i + _ = _
              rw [if_neg hb]
              rfl
            rw [h9, w2 hb]
            exact Int32.add_zero _
        · -- the heaviest
          rw [k79 (by decide) (by decide), k113 (by decide) (by decide), k146 (by decide) (by decide), k170 (by decide) (by decide), k193 (by decide) (by decide)]
          have hmo := h2 rfl
          unfold f_L_counted_j206
          refine Ok.pos rfl (Ok.eqb r98 (Ok.ite (fun c => ?_) (fun c => ?_)))
          · have hb := hs.mp c
            have hE := (xBg_b hg hb).2.2
            have hw9 := w1 hb
            have hle := hvy_le (xWt (gO st) (dA lv wd st) (dT lv st) n) (xCnt (gO st) (dA lv wd st) i)
            have hCi := xCnt_le (av := dA lv wd st) hg i
            have hv1 : vI lv wd st n (i + 1) 9 = nI (hvy (xWt (gO st) (dA lv wd st) (dT lv st) n) (xCnt (gO st) (dA lv wd st) i + 1)) - 1 := by rw [← hE]; rfl
            have hm1 : mO lv wd st n (i + 1) = if hvy (xWt (gO st) (dA lv wd st) (dT lv st) n) (xCnt (gO st) (dA lv wd st) i + 1) = 0 then 0 else xWt (gO st) (dA lv wd st) (dT lv st) n (hvy (xWt (gO st) (dA lv wd st) (dT lv st) n) (xCnt (gO st) (dA lv wd st) i + 1) - 1) := by rw [← hE]; rfl
            have hv0 : vI lv wd st n i 9 = nI (hvy (xWt (gO st) (dA lv wd st) (dT lv st) n) (xCnt (gO st) (dA lv wd st) i)) - 1 := rfl
            have hm0 : mO lv wd st n i = if hvy (xWt (gO st) (dA lv wd st) (dT lv st) n) (xCnt (gO st) (dA lv wd st) i) = 0 then 0 else xWt (gO st) (dA lv wd st) (dT lv st) n (hvy (xWt (gO st) (dA lv wd st) (dT lv st) n) (xCnt (gO st) (dA lv wd st) i) - 1) := rfl
            have hstep : hvy (xWt (gO st) (dA lv wd st) (dT lv st) n) (xCnt (gO st) (dA lv wd st) i + 1) = if hvy (xWt (gO st) (dA lv wd st) (dT lv st) n) (xCnt (gO st) (dA lv wd st) i) = 0 ∨ xWt (gO st) (dA lv wd st) (dT lv st) n (hvy (xWt (gO st) (dA lv wd st) (dT lv st) n) (xCnt (gO st) (dA lv wd st) i) - 1) < xWt (gO st) (dA lv wd st) (dT lv st) n (xCnt (gO st) (dA lv wd st) i) then xCnt (gO st) (dA lv wd st) i + 1 else hvy (xWt (gO st) (dA lv wd st) (dT lv st) n) (xCnt (gO st) (dA lv wd st) i) := rfl
            have hnum := number_l (Ld_Bm hz hst hL) hb hi
            rw [hv1, hm1] at fin
            rw [hv0]
            rw [hm0] at hmo
            have take_ : (hvy (xWt (gO st) (dA lv wd st) (dT lv st) n) (xCnt (gO st) (dA lv wd st) i) = 0 ∨ xWt (gO st) (dA lv wd st) (dT lv st) n (hvy (xWt (gO st) (dA lv wd st) (dT lv st) n) (xCnt (gO st) (dA lv wd st) i) - 1) < xWt (gO st) (dA lv wd st) (dT lv st) n (xCnt (gO st) (dA lv wd st) i)) → Ok (f_L_counted_j234 g0 (nI 9) (nI i) wt M) (fun o => Sum.elim (fun z => z.1 = vI lv wd st n (i + 1) 9 ∧ (9 = 9 → z.2.1 = mO lv wd st n (i + 1)) ∧ z.2.2 = nI (i + 1)) (fun r => r = vI lv wd st n n 9) o) := by
              intro hq
              rw [if_pos hq] at hstep
              unfold f_L_counted_j234
              refine Ok.eqb hnum ?_
              rw [hv1, hm1]
              refine fin _ _ ?_ (fun _ => ?_)
              · rw [hstep, nI_pred]
              · rw [hstep, if_neg (by omega), Nat.add_sub_cancel]
                exact hw9
            generalize hH : hvy (xWt (gO st) (dA lv wd st) (dT lv st) n) (xCnt (gO st) (dA lv wd st) i) = h9 at hle hmo hstep take_ ⊢
            by_cases h0 : h9 = 0
            · exact Ok.pos (by rw [h0]; decide) (take_ (Or.inl h0))
            · obtain ⟨t, rfl⟩ : ∃ t, h9 = t + 1 := ⟨h9 - 1, by omega⟩
              rw [nI_pred]
              rw [Nat.add_sub_cancel] at hmo hstep take_
              rw [if_neg h0] at hmo
              refine Ok.neg (nI_pos (by omega)) ?_
              rw [hmo, hw9]
              rw [hw9] at take_
              refine Ok.ite (fun c2 => ?_) (fun c2 => take_ (Or.inr (lt_n c2)))
              have hno : ¬ (t + 1 = 0 ∨ xWt (gO st) (dA lv wd st) (dT lv st) n t < xWt (gO st) (dA lv wd st) (dT lv st) n (xCnt (gO st) (dA lv wd st) i)) := by
                rintro (q | q)
                · omega
                · exact n_lt' c2 q
              rw [if_neg hno] at hstep
              rw [hv1, hm1]
              refine fin _ _ ?_ (fun _ => ?_)
              · rw [hstep, nI_pred]
              · rw [hstep, if_neg (by omega), Nat.add_sub_cancel]
          · have h9 : xCnt (gO st) (dA lv wd st) (i + 1) = xCnt (gO st) (dA lv wd st) i := by
              show xCnt _ _ i + _ = _
              rw [if_neg (fun z => c (hs.mpr z))]
              rfl
            refine fin _ _ ?_ (fun _ => ?_)
            · show nI (hvy _ (xCnt (gO st) (dA lv wd st) i)) - 1 = nI (hvy _ (xCnt (gO st) (dA lv wd st) (i + 1))) - 1
              rw [h9]
            · rw [hmo]
              unfold mO
              rw [h9]
      refine Ok.ite (fun c => ?_) (fun c => go 0 ⟨Or.inr trivial, fun q => absurd (hs.mpr q) c, fun _ => rfl⟩)
      have hb := hs.mp c
      have p3 : f_L_part (nI i) 3 M = some (xWt (gO st) (dA lv wd st) (dT lv st) n (xCnt (gO st) (dA lv wd st) i)) := by
        rw [show (3 : Int32) = nI 3 from rfl, part_l hz hst hL hb hi (by omega)]
        rfl
      exact Ok.eqb p3 (go _ ⟨Or.inr trivial, fun _ => rfl, fun q => absurd hb q⟩)
    · rintro ⟨v, mo, y⟩ ⟨h1, -, h3⟩
      dsimp only at h1 h3
      subst h3
      unfold f_L_counted_l41
      dsimp only
      refine Ok.eqb r930 ?_
      rw [hd]
      exact Ok.pos (nI_le (Nat.le_refl _) (by omega)) (Ok.of h1)
    · rcases (show a = 0 ∨ a = 5 ∨ a = 6 ∨ a = 7 ∨ a = 1 ∨ a = 2 ∨ a = 3 ∨ a = 4 ∨ a = 8 ∨ a = 9 by omega) with rfl | rfl | rfl | rfl | rfl | rfl | rfl | rfl | rfl | rfl <;> first | rfl | exact (show (0 : Int32) = nI 0 - nI 0 by decide)
  obtain ⟨r, h1, h2⟩ := key
  rw [h1, h2]
theorem ma_loop {lv wd st cm : Nat → Int32} {n nc g0 a : Nat} {v0 : Int32} {M : Mem} (hc : Lc cm nc M) (ha : a ≤ 9) (hE : ∀ k, k < nc → M g0 k = bm (eF lv wd st n) ((dM lv wd st cm n nc).2.1 k)) (hg : 1 ≤ gO st) (hn : n ≤ 60)
    (hex : ∀ k, (dM lv wd st cm n nc).2.1 k = -1 ∨ ∃ e, e < dC lv wd st n ∧ (dM lv wd st cm n nc).2.1 k = nI e) (hv : a = 7 → v0 = 0) :
    loopN (f_L_counted_l256 g0 (nI a) M) FU (v0, 0) = some (if a = 7 then nI (dM lv wd st cm n nc).2.2 else v0) := by
  have hnc := hc.1
  have hd1 := hc.2.1
  by_cases h7 : a = 7
  · subst h7
    rw [hv rfl, if_pos rfl]
    have e9 : dM lv wd st cm n nc = mRun (eF lv wd st n) (eL lv wd st n) (eK lv wd st n) cm (st 7) (dC lv wd st n) (mL cm nc 301) := by
      unfold dM
      with_reducible rfl
    have hdc9 : dC lv wd st n = xCnt (gO st) (dA lv wd st) n := rfl
    have hcnt : (dM lv wd st cm n nc).2.2 = cB (fun k => decide ((dM lv wd st cm n nc).2.1 k ≠ -1)) nc := by
      rw [e9]
      exact mRun_cnt (v := 301) (by have := xCnt_le (av := dA lv wd st) hg n; omega) (by decide)
    have key : Ok (loopN (f_L_counted_l256 g0 (nI 7) M) FU (0, 0)) (fun r => r = nI (dM lv wd st cm n nc).2.2) := by
      refine loop_FU (fun i z => z.1 = nI (cB (fun k => decide ((dM lv wd st cm n nc).2.1 k ≠ -1)) i) ∧ z.2 = nI i) _ nc (by omega) ?_ ?_ ⟨rfl, rfl⟩
      · rintro i ⟨v, y⟩ hi ⟨h1, h2⟩
        dsimp only at h1 h2
        subst h1; subst h2
        unfold f_L_counted_l256 f_L_counted_j285
        dsimp only
        refine Ok.eqb r931 ?_
        rw [hd1]
        refine Ok.neg (nI_ge hi (by omega)) (Ok.pos rfl ?_)
        refine Ok.eqb (rd_nI (by omega) (by decide)) ?_
        rw [hE i hi]
        rcases hex i with hq | ⟨e, he, hq⟩
        · rw [hq, bm_1]
          refine Ok.pos (by decide) (Ok.of ⟨?_, nI_1 i⟩)
          rw [cB_s, if_neg (show ¬ decide ((dM lv wd st cm n nc).2.1 i ≠ -1) = true by rw [hq]; decide)]
          exact nI_add _ 0
        · obtain ⟨b, b1, b2, b3⟩ := x_ex (g := gO st) (av := dA lv wd st) n e he
          have hCn := xCnt_le (av := dA lv wd st) hg n
          have hdc : dC lv wd st n = xCnt (gO st) (dA lv wd st) n := rfl
          have hf := x_firstn hg b2 b1
          rw [b3] at hf
          rw [hq, bm_n (by omega), show eF lv wd st n e = nI b from hf]
          refine Ok.neg (nI_pos (by omega)) (Ok.of ⟨?_, nI_1 i⟩)
          rw [cB_s, if_pos (show decide ((dM lv wd st cm n nc).2.1 i ≠ -1) = true by rw [hq]; exact decide_eq_true (n_m1 (by omega)))]
          exact nI_1 _
      · rintro ⟨v, y⟩ ⟨h1, h2⟩
        dsimp only at h1 h2
        subst h2
        unfold f_L_counted_l256
        dsimp only
        refine Ok.eqb r931 ?_
        rw [hd1]
        exact Ok.pos (nI_le (Nat.le_refl _) (by omega)) (Ok.of (by rw [hcnt]; exact h1))
    obtain ⟨r, h1, h2⟩ := key
    rw [h1, h2]
  · rw [if_neg h7]
    have key : Ok (loopN (f_L_counted_l256 g0 (nI a) M) FU (v0, 0)) (fun r => r = v0) := by
      refine loop_FU (fun i z => i = 0 ∧ z = (v0, 0)) _ 0 (by omega) (fun i s hi _ => absurd hi (Nat.not_lt_zero i)) ?_ ⟨rfl, rfl⟩
      rintro z ⟨-, rfl⟩
      unfold f_L_counted_l256
      dsimp only
      refine Ok.eqb r931 (Ok.ite (fun _ => Ok.of rfl) (fun _ => Ok.neg (nI_ne (b := 7) (by omega) (by decide) h7) (Ok.of rfl)))
    obtain ⟨r, h1, h2⟩ := key
    rw [h1, h2]
theorem dM_ex {lv wd st cm : Nat → Int32} {n nc : Nat} (hnc : nc ≤ 20) (hg : 1 ≤ gO st) (hn : n ≤ 300) (hcm : ∀ k, k < nc → ∃ w, w ≤ 300 ∧ cm k = nI w) : MI (dC lv wd st n) nc (fun k => k < nc) (dM lv wd st cm n nc) := by
  have hCn := xCnt_le (av := dA lv wd st) hg n
  have hdc : dC lv wd st n = xCnt (gO st) (dA lv wd st) n := rfl
  have hpw := mL_pw (cm := cm) (c := nc) (v := 301) (by decide)
  have hrun : ∀ i, i ≤ (mL cm nc 301).length → MI (dC lv wd st n) nc (fun k => k ∈ (mL cm nc 301).take i) (mRun (eF lv wd st n) (eL lv wd st n) (eK lv wd st n) cm (st 7) (dC lv wd st n) ((mL cm nc 301).take i)) := by
    intro i
    induction i with
    | zero =>
      intro _
      refine ⟨fun e he => ⟨fun _ k _ z => n_m1 (by omega) z.symm, fun _ => rfl⟩, fun k => Or.inl rfl, fun k _ => rfl⟩
    | succ i ih =>
      intro hi
      obtain ⟨r, hr⟩ : ∃ r, (mL cm nc 301)[i]? = some r := by
        rw [List.getElem?_eq_getElem (by omega)]
        exact ⟨_, rfl⟩
      have hrm := (mL_mem (List.mem_of_getElem? hr)).1
      have hts := tk_s _ i r hr
      have hrn : ¬ r ∈ (mL cm nc 301).take i := by
        intro z
        obtain ⟨j, j1, j2⟩ := (tk_mem _ i r).mp z
        have := pw_get hpw j1 j2 hr
        unfold Ls at this
        omega
      rw [hts, mRun_snoc]
      have h9 := MI_step (fs := eF lv wd st n) (ls := eL lv wd st n) (pk := eK lv wd st n) (cm := cm) (p := st 7) (show dC lv wd st n < 1000 by omega) hrm (by omega) (ih (by omega)) hrn
      exact ⟨h9.1, h9.2.1, fun k hk => h9.2.2 k (fun z => hk (List.mem_append.mpr (Or.imp id List.mem_singleton.mpr z)))⟩
  have h := hrun (mL cm nc 301).length (Nat.le_refl _)
  rw [List.take_of_length_le (Nat.le_refl _)] at h
  have e9 : dM lv wd st cm n nc = mRun (eF lv wd st n) (eL lv wd st n) (eK lv wd st n) cm (st 7) (dC lv wd st n) (mL cm nc 301) := by
    unfold dM
    with_reducible rfl
  rw [e9]
  refine ⟨h.1, h.2.1, fun k hk => h.2.2 k (fun z => hk (mL_mem z).1)⟩
theorem counted_l {lv wd st cm : Nat → Int32} {n nc g0 a : Nat} {M : Mem} (hz : Lz lv wd st n M) (hst : stOK st) (hL : Ld lv wd st n M) (hc : Lc cm nc M) (hg0 : 98 < g0) (ha : a ≤ 9) :
    Ok (f_L_counted g0 (nI a) M) (fun r => r.1 = cN lv wd st cm n nc a ∧ Off (fun c => c = g0) M r.2) := by
  have hn := hz.1
  have hg := (gO_b hst).2.1
  unfold f_L_counted f_L_counted_j6
  have o1 : Off (fun c => c = g0) M (rset M g0 (fun _ => 0)) := Off.rf.rset rfl
  generalize rset M g0 (fun _ => 0) = M1 at o1 ⊢
  have z1 : Lz lv wd st n M1 := Lz_off hz (fun c a b => o1 c (by omega))
  have l1 : Ld lv wd st n M1 := Ld_off hL (fun c a b => o1 c (by omega))
  have c1 : Lc cm nc M1 := Lc_off hc (fun c a b => o1 c (by omega))
  refine Ok.bind (match_l z1 hst l1 c1 hg0) ?_
  rintro M2 ⟨e1, o2⟩
  have z2 : Lz lv wd st n M2 := Lz_off z1 (fun c a b => o2 c (by omega))
  have l2 : Ld lv wd st n M2 := Ld_off l1 (fun c a b => o2 c (by omega))
  have c2 : Lc cm nc M2 := Lc_off c1 (fun c a b => o2 c (by omega))
  have hmi := dM_ex (lv := lv) (wd := wd) (st := st) (cm := cm) (n := n) (nc := nc) (by have := hc.1; omega) hg (by omega) (fun k hk => (hc.2.2 k hk).2)
  have go : ∀ s0 : Int32, s0 = (if a = 9 then -1 else 0) → Ok (f_L_counted_j33 g0 (nI a) s0 M2) (fun r => r.1 = cN lv wd st cm n nc a ∧ Off (fun c => c = g0) M r.2) := by
    intro s0 hs
    subst hs
    unfold f_L_counted_j33
    refine Ok.eqb (cnt_loop z2 hst l2 ha) ?_
    refine Ok.eqb (ma_loop c2 ha e1 hg hn hmi.2.1 (fun q => by subst q; rfl)) ?_
    unfold f_L_counted_j294
    have hdc : dC lv wd st n = xCnt (gO st) (dA lv wd st) n := rfl
    rcases (show a = 0 ∨ a = 5 ∨ a = 6 ∨ a = 7 ∨ a = 1 ∨ a = 2 ∨ a = 3 ∨ a = 4 ∨ a = 8 ∨ a = 9 by omega) with rfl | rfl | rfl | rfl | rfl | rfl | rfl | rfl | rfl | rfl
    · exact Ok.pos rfl (Ok.eqb r930 (Ok.of ⟨z2.2.1, o1.tr o2⟩))
    · exact Ok.neg (by decide) (Ok.pos rfl (Ok.eqb (exceedances_l (Ld_Bm z2 hst l2)) (Ok.of ⟨rfl, o1.tr o2⟩)))
    · exact Ok.neg (by decide) (Ok.neg (by decide) (Ok.pos rfl (Ok.eqb r931 (Ok.of ⟨c2.2.1, o1.tr o2⟩))))
    all_goals exact Ok.neg (by decide) (Ok.neg (by decide) (Ok.neg (by decide) (Ok.of ⟨rfl, o1.tr o2⟩)))
  refine Ok.ite (fun c => go _ ?_) (fun c => go _ ?_)
  · have : a = 9 := Classical.byContradiction fun q => nI_ne (b := 9) (by omega) (by decide) q c
    rw [if_pos this]
  · rw [if_neg (fun q => c (by rw [q]; rfl))]
