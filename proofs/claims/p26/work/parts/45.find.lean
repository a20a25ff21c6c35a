/-! class: the exceedances are found -/
theorem ag_in {f h : Nat → Int32} {c k : Nat} {v : Int32} (a : ∀ e, e < c → f e = h e) : ∀ e, e < c → upd f k v e = upd h k v e := fun e he => by
  unfold upd
  split
  · rfl
  · exact a e he
theorem ag_new {f h : Nat → Int32} {c : Nat} {v : Int32} (a : ∀ e, e < c → f e = h e) : ∀ e, e < c + 1 → upd f c v e = upd h c v e := fun e he => by
  unfold upd
  split
  · rfl
  · exact a e (by omega)
theorem ag_two {f h : Nat → Int32} {c : Nat} {w v : Int32} (a : ∀ e, e < c → f e = h e) : ∀ e, e < c + 1 → upd (upd f c w) c v e = upd h c v e := fun e he => by
  unfold upd
  split
  · rfl
  · exact a e (by omega)
abbrev xCells (x : Nat) : Nat → Prop := fun c => x ≤ c ∧ c ≤ x + 6
theorem begin_c {N : Mem} {x c : Nat} {a : Int32} (h : N x 6 = nI c) (hc : c < 100) :
    Ok (f_X0_begin x a N) (fun N' => N' x = upd (N x) 6 (nI (c + 1)) ∧ N' (x + 1) = upd (N (x + 1)) c a ∧ N' (x + 2) = N (x + 2) ∧ N' (x + 3) = upd (N (x + 3)) c 0 ∧ N' (x + 4) = upd (N (x + 4)) c 0 ∧ N' (x + 5) = upd (N (x + 5)) c 0 ∧ N' (x + 6) = N (x + 6) ∧ Off (xCells x) N N') := by
  unfold f_X0_begin
  refine Ok.neg (by rw [h]; exact nI_ge (a := c) (b := 100) hc (by decide)) ?_
  refine Ok.eqb (by rw [h]; exact wr_nI hc (by decide)) ?_
  refine Ok.eqb (by rw [mset_o (by omega), h]; exact wr_nI hc (by decide)) ?_
  refine Ok.eqb (by rw [mset_o (by omega), mset_o (by omega), h]; exact wr_nI hc (by decide)) ?_
  refine Ok.eqb (by rw [mset_o (by omega), mset_o (by omega), mset_o (by omega), h]; exact wr_nI hc (by decide)) ?_
  rw [stf_e]
  refine Ok.eqb rfl (Ok.of ?_)
  have e : mset (mset (mset (mset N (x + 1) c a) (x + 3) c 0) (x + 4) c 0) (x + 5) c 0 x = N x := by rw [mset_o (by omega), mset_o (by omega), mset_o (by omega), mset_o (by omega)]
  rw [e, h, nI_1]
  refine ⟨by rw [mset_r, e], ?_, ?_, ?_, ?_, ?_, ?_, ?_⟩
  · rw [mset_o (by omega), mset_o (by omega), mset_o (by omega), mset_o (by omega), mset_r]
  · rw [mset_o (by omega), mset_o (by omega), mset_o (by omega), mset_o (by omega), mset_o (by omega)]
  · rw [mset_o (by omega), mset_o (by omega), mset_o (by omega), mset_r, mset_o (by omega)]
  · rw [mset_o (by omega), mset_o (by omega), mset_r, mset_o (by omega), mset_o (by omega)]
  · rw [mset_o (by omega), mset_r, mset_o (by omega), mset_o (by omega), mset_o (by omega)]
  · rw [mset_o (by omega), mset_o (by omega), mset_o (by omega), mset_o (by omega), mset_o (by omega)]
  · exact ((((Off.rf.set (by omega)).set (by omega)).set (by omega)).set (by omega)).set (by omega)
theorem extend_c {N : Mem} {x c : Nat} {a f w : Int32} (h : N x 6 = nI (c + 1)) (hc : c < 100) :
    Ok (f_X0_extend x a f w N) (fun N' => N' x = N x ∧ N' (x + 1) = N (x + 1) ∧ N' (x + 2) = upd (N (x + 2)) c a ∧ N' (x + 3) = upd (N (x + 3)) c (N (x + 3) c + 1) ∧ N' (x + 4) = upd (N (x + 4)) c (mxI (N (x + 4) c) f) ∧ N' (x + 5) = upd (N (x + 5)) c (N (x + 5) c + w) ∧ N' (x + 6) = N (x + 6) ∧ Off (xCells x) N N') := by
  unfold f_X0_extend
  rw [h, show nI (c + 1) - 1 = nI c from nI_pred c]
  refine Ok.neg (nI_pos (by omega)) ?_
  refine Ok.eqb (wr_nI hc (by decide)) ?_
  refine Ok.eqb (rd_nI hc (by decide)) ?_
  refine Ok.eqb (wr_nI hc (by decide)) ?_
  refine Ok.eqb (rd_nI hc (by decide)) ?_
  refine Ok.eqb (wr_nI hc (by decide)) ?_
  refine Ok.eqb (rd_nI hc (by decide)) ?_
  refine Ok.eqb (wr_nI hc (by decide)) (Ok.of ?_)
  refine ⟨?_, ?_, ?_, ?_, ?_, ?_, ?_, ?_⟩
  · rw [mset_o (by omega), mset_o (by omega), mset_o (by omega), mset_o (by omega)]
  · rw [mset_o (by omega), mset_o (by omega), mset_o (by omega), mset_o (by omega)]
  · rw [mset_o (by omega), mset_o (by omega), mset_o (by omega), mset_r]
  · rw [mset_o (by omega), mset_o (by omega), mset_r, mset_o (c' := x + 3) (by omega)]
  · rw [mset_o (by omega), mset_r, mset_o (c := x + 3) (c' := x + 4) (by omega), mset_o (c := x + 2) (c' := x + 4) (by omega)]
  · rw [mset_r, mset_o (c := x + 4) (c' := x + 5) (by omega), mset_o (c := x + 3) (c' := x + 5) (by omega), mset_o (c := x + 2) (c' := x + 5) (by omega)]
  · rw [mset_o (by omega), mset_o (by omega), mset_o (by omega), mset_o (by omega)]
  · exact (((Off.rf.set (by omega)).set (by omega)).set (by omega)).set (by omega)
def xInv (x g : Nat) (av : Nat → Bool) (F Wt : Nat → Int32) (m : Nat) (N : Mem) : Prop :=
  N x 6 = nI (xCnt g av m) ∧ ∀ e, e < xCnt g av m → N (x + 1) e = xFst g av m e ∧ N (x + 2) e = xLst g av m e ∧ N (x + 3) e = xAbo g av m e ∧ N (x + 4) e = xPk g av F m e ∧ N (x + 5) e = xWt g av Wt m e
/-- a minute that begins one -/
theorem xInv_b {x g : Nat} {av : Nat → Bool} {F Wt : Nat → Int32} {m : Nat} {N : Mem} (hg : 1 ≤ g) (hI : xInv x g av F Wt m N) (hb : xBg g av m = true) (hm : m < 200) :
    Ok ((f_X0_begin x (nI m) N).bind fun r12 => f_X0_extend x (nI m) (F m) (Wt m) r12) (fun N' => xInv x g av F Wt (m + 1) N' ∧ N' (x + 6) = N (x + 6) ∧ Off (xCells x) N N') := by
  obtain ⟨ha, hc, hc1⟩ := xBg_b hg hb
  have hc100 : xCnt g av m < 100 := by omega
  refine Ok.bind (begin_c hI.1 hc100) ?_
  rintro A ⟨a0, a1, a2, a3, a4, a5, a6, a7⟩
  refine Ok.mono (extend_c (c := xCnt g av m) (by rw [a0, upd_s]) hc100) ?_
  rintro B ⟨b0, b1, b2, b3, b4, b5, b6, b7⟩
  have i1 : ∀ e, e < xCnt g av m → N (x + 1) e = xFst g av m e := fun e he => (hI.2 e he).1
  have i2 : ∀ e, e < xCnt g av m → N (x + 2) e = xLst g av m e := fun e he => (hI.2 e he).2.1
  have i3 : ∀ e, e < xCnt g av m → N (x + 3) e = xAbo g av m e := fun e he => (hI.2 e he).2.2.1
  have i4 : ∀ e, e < xCnt g av m → N (x + 4) e = xPk g av F m e := fun e he => (hI.2 e he).2.2.2.1
  have i5 : ∀ e, e < xCnt g av m → N (x + 5) e = xWt g av Wt m e := fun e he => (hI.2 e he).2.2.2.2
  refine ⟨⟨?_, ?_⟩, by rw [b6, a6], a7.tr b7⟩
  · rw [b0, a0, upd_s, hc1]
  · rw [hc1]
    intro e he
    unfold xFst xLst xAbo xPk xWt
    rw [hc1, Nat.add_sub_cancel, if_pos ha, if_pos ha, if_pos ha, if_pos ha, if_pos hb, if_pos hb, if_pos hb, if_pos hb, b1, a1, b2, a2, b3, a3, b4, a4, b5, a5, upd_s, upd_s, upd_s]
    exact ⟨ag_new i1 e he, ag_new i2 e he, ag_two i3 e he, ag_two i4 e he, ag_two i5 e he⟩
/-- a minute above that begins none -/
theorem xInv_e {x g : Nat} {av : Nat → Bool} {F Wt : Nat → Int32} {m : Nat} {N : Mem} (hg : 1 ≤ g) (hI : xInv x g av F Wt m N) (hb : xBg g av m = false) (ha : av m = true) (hm : m < 200) :
    Ok (f_X0_extend x (nI m) (F m) (Wt m) N) (fun N' => xInv x g av F Wt (m + 1) N' ∧ N' (x + 6) = N (x + 6) ∧ Off (xCells x) N N') := by
  obtain ⟨hc, h1⟩ := xNb_b hg hb
  have h1c := (h1 ha).1
  have hle := xCnt_le (g := g) (av := av) hg m
  have hc0 : xCnt g av m = (xCnt g av m - 1) + 1 := by omega
  refine Ok.mono (extend_c (c := xCnt g av m - 1) (by rw [← hc0]; exact hI.1) (by omega)) ?_
  rintro B ⟨b0, b1, b2, b3, b4, b5, b6, b7⟩
  have i1 : ∀ e, e < xCnt g av m → N (x + 1) e = xFst g av m e := fun e he => (hI.2 e he).1
  have i2 : ∀ e, e < xCnt g av m → N (x + 2) e = xLst g av m e := fun e he => (hI.2 e he).2.1
  have i3 : ∀ e, e < xCnt g av m → N (x + 3) e = xAbo g av m e := fun e he => (hI.2 e he).2.2.1
  have i4 : ∀ e, e < xCnt g av m → N (x + 4) e = xPk g av F m e := fun e he => (hI.2 e he).2.2.2.1
  have i5 : ∀ e, e < xCnt g av m → N (x + 5) e = xWt g av Wt m e := fun e he => (hI.2 e he).2.2.2.2
  have hb' : ¬ xBg g av m = true := by rw [hb]; decide
  refine ⟨⟨?_, ?_⟩, b6, b7⟩
  · rw [b0, hc]
    exact hI.1
  · rw [hc]
    intro e he
    unfold xFst xLst xAbo xPk xWt
    rw [hc, if_pos ha, if_pos ha, if_pos ha, if_pos ha, if_neg hb', if_neg hb', if_neg hb', if_neg hb', b1, b2, b3, b4, b5, i3 _ (by omega), i4 _ (by omega), i5 _ (by omega)]
    exact ⟨i1 e he, ag_in i2 e he, ag_in i3 e he, ag_in i4 e he, ag_in i5 e he⟩
theorem xInv_n {x g : Nat} {av : Nat → Bool} {F Wt : Nat → Int32} {m : Nat} {N : Mem} (hg : 1 ≤ g) (hI : xInv x g av F Wt m N) (ha : av m = false) : xInv x g av F Wt (m + 1) N := by
  have hb : xBg g av m = false := by unfold xBg; rw [ha]; rfl
  have hc := (xNb_b hg hb).1
  have ha' : ¬ av m = true := by rw [ha]; decide
  have hb' : ¬ xBg g av m = true := by rw [hb]; decide
  refine ⟨by rw [hc]; exact hI.1, ?_⟩
  rw [hc]
  intro e he
  unfold xFst xLst xAbo xPk xWt
  rw [if_neg ha', if_neg ha', if_neg ha', if_neg ha', if_neg hb']
  exact hI.2 e he
theorem xInv_off {x g : Nat} {av : Nat → Bool} {F Wt : Nat → Int32} {m : Nat} {N N' : Mem} (hI : xInv x g av F Wt m N) (h0 : N' x 6 = N x 6) (h : ∀ c, x < c → c < x + 6 → N' c = N c) : xInv x g av F Wt m N' := by
  refine ⟨by rw [h0]; exact hI.1, fun e he => ?_⟩
  rw [h (x + 1) (by omega) (by omega), h (x + 2) (by omega) (by omega), h (x + 3) (by omega) (by omega), h (x + 4) (by omega) (by omega), h (x + 5) (by omega) (by omega)]
  exact hI.2 e he
/-- each exceedance's minutes are marked -/
theorem mark_c {N : Mem} {x g n : Nat} {av : Nat → Bool} {F Wt : Nat → Int32} (hg : 1 ≤ g) (hn : n ≤ 200) (hI : xInv x g av F Wt n N) (hO : ∀ m, m < n → N (x + 6) m = -1) :
    Ok (f_X0_markOwners x N) (fun N' => (∀ m, m < n → N' (x + 6) m = ownA (xFst g av n) (xLst g av n) (xCnt g av n) m) ∧ Off (fun c => c = x + 6) N N') := by
  have hle := xCnt_le (g := g) (av := av) hg n
  unfold f_X0_markOwners
  refine Ok.bind (P := fun N' => (∀ m, m < n → N' (x + 6) m = ownA (xFst g av n) (xLst g av n) (xCnt g av n) m) ∧ Off (fun c => c = x + 6) N N') ?_ (fun M' h => Ok.of h)
  refine loop_FU (fun i z => z.1 = nI i ∧ (∀ m, m < n → z.2 (x + 6) m = ownA (xFst g av n) (xLst g av n) i m) ∧ Off (fun c => c = x + 6) N z.2) _ (xCnt g av n) (by omega) ?_ ?_ ?_
  · rintro i ⟨j, K⟩ hi ⟨h1, h2, h3⟩
    dsimp only at h1 h2 h3
    subst h1
    unfold f_X0_markOwners_l2
    dsimp only
    refine Ok.neg (by rw [h3 x (by omega), hI.1]; exact nI_ge hi (by omega)) ?_
    refine Ok.eqb (rd_nI (by omega) (by decide)) ?_
    rw [h3 (x + 1) (by omega), (hI.2 i hi).1]
    obtain ⟨a, b, e1, e2, hab, hbn⟩ := xF_rng hg n i hi
    rw [e1]
    refine Ok.bind (P := fun K' => (∀ m, m < n → K' (x + 6) m = ownA (xFst g av n) (xLst g av n) (i + 1) m) ∧ Off (fun c => c = x + 6) N K') ?_ (fun K' h => Ok.of ⟨nI_1 i, h⟩)
    refine loop_FU (fun k z => z.1 = nI (a + k) ∧ (∀ m, m < n → z.2 (x + 6) m = if a ≤ m ∧ m < a + k then nI i else ownA (xFst g av n) (xLst g av n) i m) ∧ Off (fun c => c = x + 6) N z.2) _ (b + 1 - a) (by omega) ?_ ?_ ?_
    · rintro k ⟨j, K2⟩ hk ⟨g1, g2, g3⟩
      dsimp only at g1 g2 g3
      subst g1
      unfold f_X0_markOwners_l17
      dsimp only
      refine Ok.eqb (rd_nI (by omega) (by decide)) ?_
      refine Ok.neg (by rw [g3 (x + 2) (by omega), (hI.2 i hi).2.1, e2]; intro q; have := (n_lt (by omega) (by omega)).mp q; omega) ?_
      refine Ok.eqb (wr_nI (by omega) (by decide)) (Ok.of ⟨nI_1 _, fun m hm => ?_, g3.set rfl⟩)
      show mset _ _ _ _ _ m = _
      by_cases hmk : m = a + k
      · subst hmk
        rw [mset_s, if_pos (by omega)]
      · rw [mset_n hmk, g2 m hm]
        by_cases hq : a ≤ m ∧ m < a + k
        · rw [if_pos hq, if_pos (by omega)]
        · rw [if_neg hq, if_neg (by omega)]
    · rintro ⟨j, K2⟩ ⟨g1, g2, g3⟩
      dsimp only at g1 g2 g3
      subst g1
      unfold f_X0_markOwners_l17
      dsimp only
      refine Ok.eqb (rd_nI (by omega) (by decide)) ?_
      refine Ok.pos (by rw [g3 (x + 2) (by omega), (hI.2 i hi).2.1, e2]; exact (n_lt (by omega) (by omega)).mpr (by omega)) (Ok.of ⟨fun m hm => ?_, g3⟩)
      show K2 (x + 6) m = if xFst g av n i ≤ nI m ∧ nI m ≤ xLst g av n i then nI i else _
      rw [g2 m hm, e1, e2]
      by_cases hq : a ≤ m ∧ m < a + (b + 1 - a)
      · rw [if_pos hq, if_pos ⟨(n_le (by omega) (by omega)).mpr hq.1, (n_le (by omega) (by omega)).mpr (by omega)⟩]
      · rw [if_neg hq, if_neg (fun q => hq ⟨(n_le (by omega) (by omega)).mp q.1, by have := (n_le (by omega) (by omega)).mp q.2; omega⟩)]
    · refine ⟨rfl, fun m hm => ?_, h3⟩
      rw [if_neg (by omega)]
      exact h2 m hm
  · rintro ⟨j, K⟩ ⟨h1, h2, h3⟩
    dsimp only at h1 h2 h3
    subst h1
    unfold f_X0_markOwners_l2
    dsimp only
    refine Ok.pos (by rw [h3 x (by omega), hI.1]; exact nI_le (Nat.le_refl _) (by omega)) (Ok.of ⟨h2, h3⟩)
  · exact ⟨rfl, hO, Off.rf⟩
theorem find_c {M : Mem} {x u s g n : Nat} {av : Nat → Bool} {F Wt : Nat → Int32} (hn : n ≤ 200) (hu : M u 3 = nI n) (hst : stOK (M s)) (hg : M s 6 = nI g) (hgb : 1 ≤ g ∧ g ≤ 20) (hsx : s < x) (hux : u + 3 < x)
    (hav : ∀ m, m < n → av m = decide (M (u + 3) m = 0)) (hF : ∀ m, m < n → M (u + 1) m = F m) (hW : ∀ m, m < n → M (u + 2) m - 10 * sLim (M s) m = Wt m) :
    Ok (f_X0_find x u s M) (fun M' => xInv x g av F Wt n M' ∧ M' x 7 = (if xNa g av n < g then 1 else 0) ∧ (∀ m, m < n → M' (x + 6) m = ownA (xFst g av n) (xLst g av n) (xCnt g av n) m) ∧ Off (xCells x) M M') := by
  unfold f_X0_find
  refine Ok.eqb (show rd M s 10 6 = some (M s 6) from rd_nI (k := 6) (by decide) (by decide)) ?_
  rw [stf_e]
  refine Ok.eqb rfl ?_
  rw [hg]
  have hna : ∀ m, xNa g av m ≤ g + m := by
    intro m
    induction m with
    | zero => exact Nat.le_refl _
    | succ m ih =>
      unfold xNa
      split <;> omega
  refine Ok.bind (P := fun o => o.1 = nI (xNa g av n) ∧ xInv x g av F Wt n o.2 ∧ (∀ m, m < n → o.2 (x + 6) m = -1) ∧ Off (xCells x) M o.2) ?_ ?_
  · refine loop_FU (fun i z => z.1 = nI (xNa g av i) ∧ z.2.1 = nI i ∧ xInv x g av F Wt i z.2.2 ∧ (∀ m, m < i → z.2.2 (x + 6) m = -1) ∧ Off (xCells x) M z.2.2) _ n (by omega) ?_ ?_ ?_
    · rintro i ⟨na, j, N⟩ hi ⟨h1, h2, h3, h4, h5⟩
      dsimp only at h1 h2 h3 h4 h5
      subst h1; subst h2
      unfold f_X0_find_l16
      dsimp only
      have hnai := hna i
      refine Ok.neg (by rw [h5 u (by omega), hu]; exact nI_ge hi (by omega)) ?_
      refine Ok.eqb (wr_nI (by omega) (by decide)) ?_
      refine Ok.eqb (rd_nI (by omega) (by decide)) ?_
      have hO1 : Off (xCells x) M (mset N (x + 6) i (-1)) := h5.set (by omega)
      have hI1 : xInv x g av F Wt i (mset N (x + 6) i (-1)) := xInv_off h3 (by rw [mset_o (by omega)]) (fun c hc hc2 => mset_o (by omega))
      have hm1 : ∀ m, m < i + 1 → mset N (x + 6) i (-1) (x + 6) m = -1 := fun m hm => by
        by_cases hmi : m = i
        · subst hmi
          rw [mset_s]
        · rw [mset_n hmi]
          exact h4 m (by omega)
      generalize mset N (x + 6) i (-1) = N1 at hO1 hI1 hm1 ⊢
      rw [hO1 (u + 3) (by omega)]
      have hai := hav i hi
      unfold f_X0_find_j98
      have ext : ∀ K : Mem, K (x + 6) = N1 (x + 6) → Off (xCells x) M K → Ok (f_X0_extend x (nI i) (F i) (Wt i) K) (fun N' => xInv x g av F Wt (i + 1) N' ∧ N' (x + 6) = N1 (x + 6) ∧ Off (xCells x) M N') → av i = true →
          Ok (f_X0_find_j55 x u s (nI g) (nI i) K) (fun o => Sum.elim (fun z => z.1 = nI (xNa g av (i + 1)) ∧ z.2.1 = nI (i + 1) ∧ xInv x g av F Wt (i + 1) z.2.2 ∧ (∀ m, m < i + 1 → z.2.2 (x + 6) m = -1) ∧ Off (xCells x) M z.2.2) (fun o => o.1 = nI (xNa g av n) ∧ xInv x g av F Wt n o.2 ∧ (∀ m, m < n → o.2 (x + 6) m = -1) ∧ Off (xCells x) M o.2) o) := by
        intro K k1 k2 k3 k4
        unfold f_X0_find_j55
        refine Ok.eqb (rd_nI (by omega) (by decide)) ?_
        refine Ok.eqb (limitAt_c (by rw [k2 s (by omega)]; exact hst) (by omega)) ?_
        refine Ok.eqb (rd_nI (by omega) (by decide)) ?_
        rw [k2 (u + 2) (by omega), k2 s (by omega), k2 (u + 1) (by omega), hW i hi, hF i hi]
        refine Ok.bind k3 ?_
        rintro K' ⟨q1, q2, q3⟩
        unfold f_X0_find_j98
        refine Ok.of ⟨?_, nI_1 i, q1, fun m hm => ?_, q3⟩
        · show (0 : Int32) = nI (if av i then 0 else _)
          rw [if_pos k4]
          rfl
        · show K' (x + 6) m = -1
          rw [q2]
          exact hm1 m hm
      refine Ok.ite (fun c => ?_) (fun c => ?_)
      · have ha : av i = true := by rw [hai]; exact decide_eq_true c
        refine Ok.ite (fun c2 => ?_) (fun c2 => ?_)
        · have hb : xBg g av i = false := by
            unfold xBg
            rw [ha, Bool.true_and]
            exact decide_eq_false (by have := (n_lt (by omega) (by omega)).mp c2; omega)
          refine ext N1 rfl hO1 (Ok.mono (xInv_e hgb.1 hI1 hb ha (by omega)) ?_) ha
          rintro K ⟨q1, q2, q3⟩
          exact ⟨q1, q2, hO1.tr q3⟩
        · have hb : xBg g av i = true := by
            unfold xBg
            rw [ha, Bool.true_and]
            exact decide_eq_true (by have : ¬ xNa g av i < g := fun q => c2 ((n_lt (by omega) (by omega)).mpr q); omega)
          obtain ⟨r, hr, hr2⟩ := xInv_b hgb.1 hI1 hb (by omega)
          have hbb := xBg_b hgb.1 hb
          obtain ⟨K, hK, hK2⟩ := begin_c (a := nI i) hI1.1 (by omega)
          rw [hK] at hr ⊢
          refine ext K hK2.2.2.2.2.2.2.1 (hO1.tr hK2.2.2.2.2.2.2.2) ⟨r, hr, hr2.1, hr2.2.1, hO1.tr hr2.2.2⟩ ha
      · have ha : av i = false := by rw [hai]; exact decide_eq_false c
        refine Ok.of ⟨?_, nI_1 i, xInv_n hgb.1 hI1 ha, hm1, hO1⟩
        show nI (xNa g av i) + 1 = nI (if av i then 0 else _)
        rw [ha, if_neg (by decide)]
        exact nI_1 _
    · rintro ⟨na, j, N⟩ ⟨h1, h2, h3, h4, h5⟩
      dsimp only at h1 h2 h3 h4 h5
      subst h2
      unfold f_X0_find_l16
      dsimp only
      exact Ok.pos (by rw [h5 u (by omega), hu]; exact nI_le (Nat.le_refl _) (by omega)) (Ok.of ⟨h1, h3, h4, h5⟩)
    · refine ⟨rfl, rfl, ⟨?_, fun e he => absurd he (Nat.not_lt_zero e)⟩, fun m hm => absurd hm (Nat.not_lt_zero m), Off.rf.set (by omega)⟩
      show mset M x 6 0 x 6 = nI 0
      rw [mset_s]
      rfl
  · rintro ⟨na, N⟩ ⟨h1, h2, h3, h4⟩
    dsimp only at h1 h2 h3 h4
    subst h1
    dsimp only
    have hnan := hna n
    have fin : ∀ b : Int32, stz N x 7 b = some (mset N x 7 b) → b = (if xNa g av n < g then 1 else 0) → Ok (f_X0_find_j116 x u s b N) (fun M' => xInv x g av F Wt n M' ∧ M' x 7 = (if xNa g av n < g then 1 else 0) ∧ (∀ m, m < n → M' (x + 6) m = ownA (xFst g av n) (xLst g av n) (xCnt g av n) m) ∧ Off (xCells x) M M') := by
      intro b hb1 hb2
      unfold f_X0_find_j116
      refine Ok.eqb hb1 ?_
      have hI1 : xInv x g av F Wt n (mset N x 7 b) := xInv_off h2 (mset_n (by decide)) (fun c hc hc2 => mset_o (by omega))
      refine Ok.bind (mark_c hgb.1 hn hI1 (fun m hm => by rw [mset_o (by omega)]; exact h3 m hm)) ?_
      rintro K ⟨q1, q2⟩
      refine Ok.of ⟨xInv_off hI1 (by rw [q2 x (by omega)]) (fun c hc hc2 => q2 c (by omega)), ?_, q1, (h4.set (by omega)).tr (q2.mono (fun c hc => by rw [hc]; exact ⟨by omega, by omega⟩))⟩
      rw [q2 x (by omega), mset_s, hb2]
    refine Ok.ite (fun c => fin 0 stz_0 ?_) (fun c => fin 1 stz_1 ?_)
    · have := (n_le (by omega) (by omega)).mp c
      rw [if_neg (by omega)]
    · have : ¬ g ≤ xNa g av n := fun q => c ((n_le (by omega) (by omega)).mpr q)
      rw [if_pos (by omega)]
