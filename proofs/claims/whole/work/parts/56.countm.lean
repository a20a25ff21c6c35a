/-! model: what is counted -/
theorem n10 (l : Nat) : 10 * nI l = nI (10 * l) := nI_mul 10 l
theorem dF_r {lv st : Nat → Int32} {n m : Nat} (hl : lvOK lv n) (hst : stOK st) (hm : m < n) : ∃ f, f ≤ 1400 ∧ dF lv st m = nI f ∧ dH lv st m = f / 10 := by
  have h := arm_rng hl hst.2.2.2.2.2.2.2.2.1.1 (m + 1) (by omega)
  refine ⟨(dF lv st m).toInt.toNat, ?_, (nI_ex h.1).1, rfl⟩
  unfold dF
  omega
theorem countFrom_m {M : Mem} {lv wd st : Nat → Int32} {n l : Nat} (hM : Mx lv wd st n M) (hl : lvOK lv n) (hst : stOK st) (hn : n ≤ 200) (hl2 : l ≤ 140) : f_X9_countFrom (nI l) M = some (nI (cG (cntd (sWhy lv wd st)) (dH lv st) n l)) := by
  obtain ⟨h6, hA, -⟩ := hM
  have key : Ok (f_X9_countFrom (nI l) M) (fun r => r = nI (cG (cntd (sWhy lv wd st)) (dH lv st) n l)) := by
    unfold f_X9_countFrom
    refine Ok.bind (P := fun r => r = nI (cG (cntd (sWhy lv wd st)) (dH lv st) n l)) ?_ (fun r h => Ok.of h)
    refine loop_FU (fun i z => z.1 = nI (cG (cntd (sWhy lv wd st)) (dH lv st) i l) ∧ z.2 = nI i) _ n (by omega) ?_ ?_ ⟨rfl, rfl⟩
    · rintro i ⟨b, j⟩ hi ⟨h1, h2⟩
      dsimp only at h1 h2
      subst h1; subst h2
      unfold f_X9_countFrom_l4
      dsimp only
      refine Ok.neg (by rw [h6]; exact nI_ge hi (by omega)) ?_
      refine Ok.eqb (rd_nI (by omega) (by decide)) ?_
      rw [(hA i hi).2.2.1]
      have unf : cG (cntd (sWhy lv wd st)) (dH lv st) (i + 1) l = cG (cntd (sWhy lv wd st)) (dH lv st) i l + (if cntd (sWhy lv wd st) i && decide (l ≤ dH lv st i) then 1 else 0) := rfl
      have no : (cntd (sWhy lv wd st) i && decide (l ≤ dH lv st i)) = false → Ok (f_X9_countFrom_j49 (nI l) (nI i) (nI (cG (cntd (sWhy lv wd st)) (dH lv st) i l)) M) (fun o => Sum.elim (fun z => z.1 = nI (cG (cntd (sWhy lv wd st)) (dH lv st) (i + 1) l) ∧ z.2 = nI (i + 1)) (fun r => r = nI (cG (cntd (sWhy lv wd st)) (dH lv st) n l)) o) := by
        intro q
        unfold f_X9_countFrom_j49 f_X9_countFrom_j50
        refine Ok.of ⟨?_, nI_1 i⟩
        rw [unf, q]
        exact nI_add _ 0
      have co : cntd (sWhy lv wd st) i = true → Ok (f_X9_countFrom_j32 (nI l) (nI i) (nI (cG (cntd (sWhy lv wd st)) (dH lv st) i l)) M) (fun o => Sum.elim (fun z => z.1 = nI (cG (cntd (sWhy lv wd st)) (dH lv st) (i + 1) l) ∧ z.2 = nI (i + 1)) (fun r => r = nI (cG (cntd (sWhy lv wd st)) (dH lv st) n l)) o) := by
        intro q
        unfold f_X9_countFrom_j32
        refine Ok.eqb (rd_nI (by omega) (by decide)) ?_
        obtain ⟨f, hf, e1, e2⟩ := dF_r hl hst hi
        rw [(hA i hi).1, e1, n10]
        refine Ok.ite (fun c => ?_) (fun c => ?_)
        · refine no ?_
          have := (n_lt (by omega) (by omega)).mp c
          rw [e2, decide_eq_false (by omega), Bool.and_false]
        · unfold f_X9_countFrom_j50
          refine Ok.of ⟨?_, nI_1 i⟩
          have : ¬ f < 10 * l := fun r => c ((n_lt (by omega) (by omega)).mpr r)
          rw [unf, q, e2, decide_eq_true (by omega)]
          exact nI_1 _
      refine Ok.ite (fun c => co ?_) (fun c => ?_)
      · unfold cntd
        rw [c]
        rfl
      · refine Ok.eqb (rd_nI (by omega) (by decide)) ?_
        rw [(hA i hi).2.2.1]
        refine Ok.ite (fun c2 => co ?_) (fun c2 => no ?_)
        · unfold cntd
          rw [c2]
          rfl
        · unfold cntd
          rw [decide_eq_false c, decide_eq_false c2]
          rfl
    · rintro ⟨b, j⟩ ⟨h1, h2⟩
      dsimp only at h1 h2
      subst h2
      unfold f_X9_countFrom_l4
      dsimp only
      exact Ok.pos (by rw [h6]; exact nI_le (Nat.le_refl _) (by omega)) (Ok.of h1)
  obtain ⟨r, h1, h2⟩ := key
  rw [h1, h2]
theorem cG_0 (p : Nat → Bool) (H : Nat → Nat) (n : Nat) : cG p H n 0 = cB p n := by
  unfold cG
  refine cB_cong (fun m hm => ?_)
  rw [decide_eq_true (Nat.zero_le _), Bool.and_true]
theorem within_e (a b c : Int32) (M : Mem) : f_X9_within a b c M = some (if b ≤ a ∧ a ≤ c then 1 else 0) := by
  unfold f_X9_within
  by_cases h1 : a < b
  · rw [if_pos h1, if_neg (fun q => n_le' h1 q.1)]
  · rw [if_neg h1]
    by_cases h2 : c < a
    · rw [if_pos h2, if_neg (fun q => n_le' h2 q.2)]
    · rw [if_neg h2, if_pos ⟨le_n h1, le_n h2⟩]
theorem minutesBy_m {M : Mem} {lv wd st : Nat → Int32} {n : Nat} {a b : Int32} (hM : Mx lv wd st n M) (hn : n ≤ 200) : f_X9_minutesBy a b M = some (nI (cB (fun m => decide (a ≤ sWhy lv wd st m ∧ sWhy lv wd st m ≤ b)) n)) := by
  obtain ⟨h6, hA, -⟩ := hM
  have key : Ok (f_X9_minutesBy a b M) (fun r => r = nI (cB (fun m => decide (a ≤ sWhy lv wd st m ∧ sWhy lv wd st m ≤ b)) n)) := by
    unfold f_X9_minutesBy
    refine Ok.bind (P := fun r => r = nI (cB (fun m => decide (a ≤ sWhy lv wd st m ∧ sWhy lv wd st m ≤ b)) n)) ?_ (fun r h => Ok.of h)
    refine loop_FU (fun i z => z.1 = nI (cB (fun m => decide (a ≤ sWhy lv wd st m ∧ sWhy lv wd st m ≤ b)) i) ∧ z.2 = nI i) _ n (by omega) ?_ ?_ ⟨rfl, rfl⟩
    · rintro i ⟨x, j⟩ hi ⟨h1, h2⟩
      dsimp only at h1 h2
      subst h1; subst h2
      unfold f_X9_minutesBy_l5
      dsimp only
      refine Ok.neg (by rw [h6]; exact nI_ge hi (by omega)) ?_
      refine Ok.eqb (rd_nI (by omega) (by decide)) ?_
      rw [(hA i hi).2.2.1]
      refine Ok.eqb (within_e _ _ _ _) ?_
      have unf : cB (fun m => decide (a ≤ sWhy lv wd st m ∧ sWhy lv wd st m ≤ b)) (i + 1) = cB (fun m => decide (a ≤ sWhy lv wd st m ∧ sWhy lv wd st m ≤ b)) i + (if decide (a ≤ sWhy lv wd st i ∧ sWhy lv wd st i ≤ b) then 1 else 0) := rfl
      unfold f_X9_minutesBy_j35
      rw [unf]
      by_cases hq : a ≤ sWhy lv wd st i ∧ sWhy lv wd st i ≤ b
      · rw [if_pos hq, decide_eq_true hq]
        exact Ok.neg (by decide) (Ok.of ⟨nI_1 _, nI_1 i⟩)
      · rw [if_neg hq, decide_eq_false hq]
        exact Ok.pos rfl (Ok.of ⟨nI_add _ 0, nI_1 i⟩)
    · rintro ⟨x, j⟩ ⟨h1, h2⟩
      dsimp only at h1 h2
      subst h2
      unfold f_X9_minutesBy_l5
      dsimp only
      exact Ok.pos (by rw [h6]; exact nI_le (Nat.le_refl _) (by omega)) (Ok.of h1)
  obtain ⟨r, h1, h2⟩ := key
  rw [h1, h2]
theorem restMany_m {M : Mem} {n : Nat} (h6 : M 90 6 = nI n) (hst : stOK (mSt M)) (hn : n ≤ 200) : f_X9_restMany M = some (nI (cB (fun m => decide (sRest (mSt M) m)) n)) := by
  have key : Ok (f_X9_restMany M) (fun r => r = nI (cB (fun m => decide (sRest (mSt M) m)) n)) := by
    unfold f_X9_restMany
    refine Ok.bind (P := fun r => r = nI (cB (fun m => decide (sRest (mSt M) m)) n)) ?_ (fun r h => Ok.of h)
    refine loop_FU (fun i z => z.1 = nI (cB (fun m => decide (sRest (mSt M) m)) i) ∧ z.2 = nI i) _ n (by omega) ?_ ?_ ⟨rfl, rfl⟩
    · rintro i ⟨x, j⟩ hi ⟨h1, h2⟩
      dsimp only at h1 h2
      subst h1; subst h2
      unfold f_X9_restMany_l4
      dsimp only
      refine Ok.neg (by rw [h6]; exact nI_ge hi (by omega)) ?_
      refine Ok.eqb (isRest_m hst (by omega)) ?_
      have unf : cB (fun m => decide (sRest (mSt M) m)) (i + 1) = cB (fun m => decide (sRest (mSt M) m)) i + (if decide (sRest (mSt M) i) then 1 else 0) := rfl
      unfold f_X9_restMany_j26
      rw [unf]
      by_cases hq : sRest (mSt M) i
      · rw [if_pos hq, decide_eq_true hq]
        exact Ok.neg (by decide) (Ok.of ⟨nI_1 _, nI_1 i⟩)
      · rw [if_neg hq, decide_eq_false hq]
        exact Ok.pos rfl (Ok.of ⟨nI_add _ 0, nI_1 i⟩)
    · rintro ⟨x, j⟩ ⟨h1, h2⟩
      dsimp only at h1 h2
      subst h2
      unfold f_X9_restMany_l4
      dsimp only
      exact Ok.pos (by rw [h6]; exact nI_le (Nat.le_refl _) (by omega)) (Ok.of h1)
  obtain ⟨r, h1, h2⟩ := key
  rw [h1, h2]
theorem matchedMany_m {M : Mem} {ex : Nat → Int32} {nc : Nat} (hnc : nc ≤ 20) (hz : M 91 411 = nI nc) (he : ∀ k, k < nc → M 105 k = ex k) : f_X9_matchedMany M = some (nI (cB (fun k => decide (ex k ≠ -1)) nc)) := by
  have key : Ok (f_X9_matchedMany M) (fun r => r = nI (cB (fun k => decide (ex k ≠ -1)) nc)) := by
    unfold f_X9_matchedMany
    refine Ok.bind (P := fun r => r = nI (cB (fun k => decide (ex k ≠ -1)) nc)) ?_ (fun r h => Ok.of h)
    refine loop_FU (fun i z => z.1 = nI (cB (fun k => decide (ex k ≠ -1)) i) ∧ z.2 = nI i) _ nc (by omega) ?_ ?_ ⟨rfl, rfl⟩
    · rintro i ⟨x, j⟩ hi ⟨h1, h2⟩
      dsimp only at h1 h2
      subst h1; subst h2
      unfold f_X9_matchedMany_l4
      dsimp only
      refine Ok.eqb (show rd M 91 432 411 = some (M 91 411) from rd_nI (k := 411) (by decide) (by decide)) ?_
      refine Ok.neg (by rw [hz]; exact nI_ge hi (by omega)) ?_
      refine Ok.eqb (rd_nI (by omega) (by decide)) ?_
      rw [he i hi]
      have unf : cB (fun k => decide (ex k ≠ -1)) (i + 1) = cB (fun k => decide (ex k ≠ -1)) i + (if decide (ex i ≠ -1) then 1 else 0) := rfl
      unfold f_X9_matchedMany_j32
      rw [unf]
      refine Ok.ite (fun c => Ok.of ⟨?_, nI_1 i⟩) (fun c => Ok.of ⟨?_, nI_1 i⟩)
      · rw [decide_eq_false (not_not_intro c)]
        exact nI_add _ 0
      · rw [decide_eq_true c]
        exact nI_1 _
    · rintro ⟨x, j⟩ ⟨h1, h2⟩
      dsimp only at h1 h2
      subst h2
      unfold f_X9_matchedMany_l4
      dsimp only
      refine Ok.eqb (show rd M 91 432 411 = some (M 91 411) from rd_nI (k := 411) (by decide) (by decide)) ?_
      exact Ok.pos (by rw [hz]; exact nI_le (Nat.le_refl _) (by omega)) (Ok.of h1)
  obtain ⟨r, h1, h2⟩ := key
  rw [h1, h2]
theorem weights_m {M : Mem} {cnt : Nat} (hc : cnt ≤ 200) (h : M 90 13 = nI cnt) : f_X9_weights M = some (sumW (M 104) cnt) := by
  have key : Ok (f_X9_weights M) (fun r => r = sumW (M 104) cnt) := by
    unfold f_X9_weights
    refine Ok.bind (P := fun r => r = sumW (M 104) cnt) ?_ (fun r h => Ok.of h)
    refine loop_FU (fun i z => z.1 = sumW (M 104) i ∧ z.2 = nI i) _ cnt (by omega) ?_ ?_ ⟨rfl, rfl⟩
    · rintro i ⟨b, j⟩ hi ⟨h1, h2⟩
      dsimp only at h1 h2
      subst h1; subst h2
      unfold f_X9_weights_l4
      dsimp only
      refine Ok.neg (by rw [h]; exact nI_ge hi (by omega)) ?_
      exact Ok.eqb (rd_nI (by omega) (by decide)) (Ok.of ⟨rfl, nI_1 i⟩)
    · rintro ⟨b, j⟩ ⟨h1, h2⟩
      dsimp only at h1 h2
      subst h2
      unfold f_X9_weights_l4
      dsimp only
      exact Ok.pos (by rw [h]; exact nI_le (Nat.le_refl _) (by omega)) (Ok.of h1)
  obtain ⟨r, h1, h2⟩ := key
  rw [h1, h2]
theorem heaviest_m {M : Mem} {cnt : Nat} (hc : cnt ≤ 200) (h : M 90 13 = nI cnt) : f_X9_heaviest M = some (nI (hvy (M 104) cnt) - 1) := by
  have key : Ok (f_X9_heaviest M) (fun r => r = nI (hvy (M 104) cnt) - 1) := by
    unfold f_X9_heaviest
    refine Ok.bind (P := fun r => r = nI (hvy (M 104) cnt) - 1) ?_ (fun r h => Ok.of h)
    refine loop_FU (fun i z => z.1 = nI (hvy (M 104) i) - 1 ∧ z.2 = nI i) _ cnt (by omega) ?_ ?_ ⟨rfl, rfl⟩
    · rintro i ⟨b, j⟩ hi ⟨h1, h2⟩
      dsimp only at h1 h2
      subst h1; subst h2
      unfold f_X9_heaviest_l4
      dsimp only
      have hle := hvy_le (M 104) i
      refine Ok.neg (by rw [h]; exact nI_ge hi (by omega)) ?_
      unfold f_X9_heaviest_j32 f_X9_heaviest_j37
      have unf : hvy (M 104) (i + 1) = if hvy (M 104) i = 0 ∨ M 104 (hvy (M 104) i - 1) < M 104 i then i + 1 else hvy (M 104) i := rfl
      have tk : hvy (M 104) (i + 1) = i + 1 → nI i = nI (hvy (M 104) (i + 1)) - 1 := fun q => by rw [q, nI_pred]
      refine Ok.ite (fun c => ?_) (fun c => ?_)
      · exact Ok.of ⟨tk (by rw [unf, if_pos (Or.inl ((nIm1 (by omega)).mp c))]), nI_1 i⟩
      · have h0 : hvy (M 104) i ≠ 0 := fun q => c ((nIm1 (by omega)).mpr q)
        refine Ok.eqb (rd_nI (by omega) (by decide)) ?_
        refine Ok.eqb (by rw [nI_p1 (by omega)]; exact rd_nI (by omega) (by decide)) ?_
        refine Ok.ite (fun c2 => ?_) (fun c2 => ?_)
        · refine Ok.of ⟨?_, nI_1 i⟩
          rw [unf, if_neg]
          rintro (q | q)
          · exact h0 q
          · exact n_lt' c2 q
        · exact Ok.of ⟨tk (by rw [unf, if_pos (Or.inr (lt_n c2))]), nI_1 i⟩
    · rintro ⟨b, j⟩ ⟨h1, h2⟩
      dsimp only at h1 h2
      subst h2
      unfold f_X9_heaviest_l4
      dsimp only
      exact Ok.pos (by rw [h]; exact nI_le (Nat.le_refl _) (by omega)) (Ok.of h1)
  obtain ⟨r, h1, h2⟩ := key
  rw [h1, h2]
theorem why_12 (lv wd st : Nat → Int32) (m : Nat) : decide (1 ≤ sWhy lv wd st m ∧ sWhy lv wd st m ≤ 2) = !cntd (sWhy lv wd st) m := by
  unfold cntd sWhy
  split
  · rfl
  · split
    · rfl
    · split <;> rfl
theorem why_00 (lv wd st : Nat → Int32) (m : Nat) : decide (0 ≤ sWhy lv wd st m ∧ sWhy lv wd st m ≤ 0) = dA lv wd st m := by
  unfold dA sWhy
  split
  · rfl
  · split
    · rfl
    · split <;> rfl
theorem cB_not (p : Nat → Bool) : ∀ n, cB (fun m => !p m) n + cB p n = n
  | 0 => rfl
  | n + 1 => by
    have := cB_not p n
    unfold cB
    cases p n <;> simp <;> omega
theorem counted_m {M : Mem} {lv wd cm : Nat → Int32} {n nc : Nat} (hM : My lv wd (mSt M) cm n nc M) (hc : zC cm nc M) (hl : lvOK lv n) (hst : stOK (mSt M)) (hn : n ≤ 200) (a : Nat) (ha : a ≤ 11) : f_X9_counted (nI a) M = some (if a = 10 then M 90 2 else cN lv wd (mSt M) cm n nc a) := by
  obtain ⟨hx, h5, -⟩ := hM
  have hx2 := hx
  obtain ⟨h6, hA, h13, hI, h19, -⟩ := hx
  have hle : 2 * dC lv wd (mSt M) n ≤ n + 1 := xCnt_le (g := gO (mSt M)) (av := dA lv wd (mSt M)) (gO_b hst).2.1 n
  have hw : ∀ e, e < dC lv wd (mSt M) n → M 104 e = xWt (gO (mSt M)) (dA lv wd (mSt M)) (dT lv (mSt M)) n e := fun e he => (hI e he).2.2.2.2
  unfold f_X9_counted
  have d0 : a ≠ 0 → ¬ nI a = 0 := fun h => nI_ne (b := 0) (by omega) (by decide) h
  have d1 : a ≠ 1 → ¬ nI a = 1 := fun h => nI_ne (b := 1) (by omega) (by decide) h
  have d2 : a ≠ 2 → ¬ nI a = 2 := fun h => nI_ne (b := 2) (by omega) (by decide) h
  have d3 : a ≠ 3 → ¬ nI a = 3 := fun h => nI_ne (b := 3) (by omega) (by decide) h
  have d4 : a ≠ 4 → ¬ nI a = 4 := fun h => nI_ne (b := 4) (by omega) (by decide) h
  have d5 : a ≠ 5 → ¬ nI a = 5 := fun h => nI_ne (b := 5) (by omega) (by decide) h
  have d6 : a ≠ 6 → ¬ nI a = 6 := fun h => nI_ne (b := 6) (by omega) (by decide) h
  have d7 : a ≠ 7 → ¬ nI a = 7 := fun h => nI_ne (b := 7) (by omega) (by decide) h
  have d8 : a ≠ 8 → ¬ nI a = 8 := fun h => nI_ne (b := 8) (by omega) (by decide) h
  have d9 : a ≠ 9 → ¬ nI a = 9 := fun h => nI_ne (b := 9) (by omega) (by decide) h
  have d10 : a ≠ 10 → ¬ nI a = 10 := fun h => nI_ne (b := 10) (by omega) (by decide) h
  by_cases h0 : a = 0
  · subst h0
    rw [if_pos (show nI 0 = 0 from rfl), h6]
    rfl
  rw [if_neg (d0 h0)]
  by_cases h1 : a = 1
  · subst h1
    rw [if_pos (show nI 1 = 1 from rfl), show f_X9_countFrom 0 M = _ from countFrom_m (l := 0) hx2 hl hst hn (by omega), cG_0]
    rfl
  rw [if_neg (d1 h1)]
  by_cases h2 : a = 2
  · subst h2
    rw [if_pos (show nI 2 = 2 from rfl), minutesBy_m hx2 hn]
    show some (nI _) = some (nI n - nI _)
    have e1 : cB (fun m => decide (1 ≤ sWhy lv wd (mSt M) m ∧ sWhy lv wd (mSt M) m ≤ 2)) n = cB (fun m => !cntd (sWhy lv wd (mSt M)) m) n := cB_cong (fun m _ => why_12 lv wd (mSt M) m)
    have e2 := cB_not (cntd (sWhy lv wd (mSt M))) n
    rw [e1]
    refine congrArg some (i_eq.mpr ?_)
    rw [i_sub] <;> rw [i_nI (by omega), i_nI (by omega)] <;> try rw [i_nI (by omega)]
    all_goals omega
  rw [if_neg (d2 h2)]
  by_cases h3 : a = 3
  · subst h3
    rw [if_pos (show nI 3 = 3 from rfl), restMany_m h6 hst hn]
    rfl
  rw [if_neg (d3 h3)]
  by_cases h4 : a = 4
  · subst h4
    rw [if_pos (show nI 4 = 4 from rfl), minutesBy_m hx2 hn]
    show some (nI _) = some (nI _)
    rw [cB_cong (fun m _ => why_00 lv wd (mSt M) m)]
  rw [if_neg (d4 h4)]
  by_cases g5 : a = 5
  · subst g5
    rw [if_pos (show nI 5 = 5 from rfl), h13]
    rfl
  rw [if_neg (d5 g5)]
  by_cases g6 : a = 6
  · subst g6
    rw [if_pos (show nI 6 = 6 from rfl), show rd M 91 432 411 = some (M 91 411) from rd_nI (k := 411) (by decide) (by decide), hc.2.1]
    rfl
  rw [if_neg (d6 g6)]
  by_cases g7 : a = 7
  · subst g7
    rw [if_pos (show nI 7 = 7 from rfl), matchedMany_m hc.1 hc.2.1 h5]
    show some (nI _) = some (nI (dM lv wd (mSt M) cm n nc).2.2)
    unfold dM
    rw [mRun_cnt (by omega) (by decide)]
  rw [if_neg (d7 g7)]
  by_cases g8 : a = 8
  · subst g8
    rw [if_pos (show nI 8 = 8 from rfl), weights_m (by omega) h13, sumW_cong hw]
    rfl
  rw [if_neg (d8 g8)]
  by_cases g9 : a = 9
  · subst g9
    rw [if_pos (show nI 9 = 9 from rfl), heaviest_m (by omega) h13, hvy_cong hw]
    rfl
  rw [if_neg (d9 g9)]
  by_cases g10 : a = 10
  · subst g10
    rw [if_pos (show nI 10 = 10 from rfl)]
    rfl
  rw [if_neg (d10 g10), if_neg g10, h19]
  obtain ⟨b, rfl⟩ : ∃ b, a = b + 10 := ⟨a - 10, by omega⟩
  show _ = some (if xNa (gO (mSt M)) (dA lv wd (mSt M)) n < gO (mSt M) then 1 else 0)
  by_cases q : xNa (gO (mSt M)) (dA lv wd (mSt M)) n < gO (mSt M)
  · rw [if_pos q, if_neg (by decide)]
  · rw [if_neg q, if_pos rfl]
theorem percentNow_m {M : Mem} {lv wd st : Nat → Int32} {n : Nat} {pc : Int32} (hM : Mx lv wd st n M) (hl : lvOK lv n) (hst : stOK st) (hn : n ≤ 200) : f_X9_percentNow pc M = some (sPct pc (cB (cntd (sWhy lv wd st)) n) (cG (cntd (sWhy lv wd st)) (dH lv st) n)) := by
  have hcl := cB_le (cntd (sWhy lv wd st)) n
  have key : Ok (f_X9_percentNow pc M) (fun r => r = sPct pc (cB (cntd (sWhy lv wd st)) n) (cG (cntd (sWhy lv wd st)) (dH lv st) n)) := by
    unfold f_X9_percentNow sPct
    refine Ok.eqb (show f_X9_countFrom 0 M = _ from countFrom_m (l := 0) hM hl hst hn (by omega)) ?_
    rw [cG_0]
    generalize cB (cntd (sWhy lv wd st)) n = c at hcl ⊢
    unfold f_X9_percentNow_j17
    by_cases h0 : c = 0
    · rw [if_pos h0, h0]
      refine Ok.pos rfl (Ok.bind (P := fun r => r = -1) ?_ (fun r h => Ok.of h))
      refine loop_FU (fun i z => z = -1) _ 0 (by omega) (fun i s hi => absurd hi (Nat.not_lt_zero i)) ?_ rfl
      rintro z rfl
      unfold f_X9_percentNow_l18
      exact Ok.pos (by decide) (Ok.of rfl)
    rw [if_neg h0]
    refine Ok.neg (nI_ne0 (by omega) (by omega)) ?_
    refine Ok.bind (P := fun r => r = nI (pL (fun l => decide (pc * nI c ≤ nI (cG (cntd (sWhy lv wd st)) (dH lv st) n l) * 100)) 140)) ?_ (fun r h => Ok.of h)
    refine loop_FU (fun i z => z = nI (140 - i) ∧ pL (fun l => decide (pc * nI c ≤ nI (cG (cntd (sWhy lv wd st)) (dH lv st) n l) * 100)) 140 = pL (fun l => decide (pc * nI c ≤ nI (cG (cntd (sWhy lv wd st)) (dH lv st) n l) * 100)) (140 - i)) _ 140 (by omega) ?_ ?_ ⟨rfl, rfl⟩
    · rintro i z hi ⟨h1, h2⟩
      subst h1
      unfold f_X9_percentNow_l18
      obtain ⟨k, hk⟩ : ∃ k, 140 - i = k + 1 := ⟨140 - i - 1, by omega⟩
      rw [hk] at h2 ⊢
      refine Ok.neg (fun q => by have := (n_le (b := 0) (by omega) (by decide)).mp q; omega) ?_
      refine Ok.eqb (countFrom_m hM hl hst hn (by omega)) ?_
      refine Ok.ite (fun cd => Ok.of ?_) (fun cd => Ok.of ⟨?_, ?_⟩)
      · show nI (k + 1) = _
        rw [h2]
        show _ = nI (if decide (pc * nI c ≤ nI (cG (cntd (sWhy lv wd st)) (dH lv st) n (k + 1)) * 100) then _ else _)
        rw [decide_eq_true cd]
        rfl
      · rw [show 140 - (i + 1) = k by omega]
        exact nI_m1 (b := k + 1) (by omega)
      · rw [h2, show 140 - (i + 1) = k by omega]
        show (if decide (pc * nI c ≤ nI (cG (cntd (sWhy lv wd st)) (dH lv st) n (k + 1)) * 100) then _ else _) = _
        rw [decide_eq_false cd]
        rfl
    · rintro z ⟨h1, h2⟩
      subst h1
      unfold f_X9_percentNow_l18
      exact Ok.pos (by decide) (Ok.of (by rw [h2]; rfl))
  obtain ⟨r, h1, h2⟩ := key
  rw [h1, h2]
