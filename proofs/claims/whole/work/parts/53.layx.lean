/-! model: the exceedances are laid -/
def xCel (g : Nat) (av : Nat → Bool) (F Wt : Nat → Int32) (m : Nat) (N : Mem) : Prop :=
  ∀ e, e < xCnt g av m → N 100 e = xFst g av m e ∧ N 101 e = xLst g av m e ∧ N 102 e = xAbo g av m e ∧ N 103 e = xPk g av F m e ∧ N 104 e = xWt g av Wt m e
theorem xCel_n {g : Nat} {av : Nat → Bool} {F Wt : Nat → Int32} {m : Nat} {N : Mem} (hg : 1 ≤ g) (hI : xCel g av F Wt m N) (ha : av m = false) : xCnt g av (m + 1) = xCnt g av m ∧ xCel g av F Wt (m + 1) N := by
  have hb : xBg g av m = false := by unfold xBg; rw [ha]; rfl
  have hc := (xNb_b hg hb).1
  have ha' : ¬ av m = true := by rw [ha]; decide
  have hb' : ¬ xBg g av m = true := by rw [hb]; decide
  refine ⟨hc, ?_⟩
  unfold xCel
  rw [hc]
  intro e he
  unfold xFst xLst xAbo xPk xWt
  rw [if_neg ha', if_neg ha', if_neg ha', if_neg ha', if_neg hb']
  exact hI e he
theorem xCel_off {g : Nat} {av : Nat → Bool} {F Wt : Nat → Int32} {m : Nat} {N N' : Mem} (hI : xCel g av F Wt m N) (h : ∀ c, 100 ≤ c → c ≤ 104 → N' c = N c) : xCel g av F Wt m N' := by
  intro e he
  rw [h 100 (by omega) (by omega), h 101 (by omega) (by omega), h 102 (by omega) (by omega), h 103 (by omega) (by omega), h 104 (by omega) (by omega)]
  exact hI e he
abbrev oM : Nat → Prop := fun c => c = 101 ∨ c = 102 ∨ c = 103 ∨ c = 104
theorem add_m {N : Mem} {c v : Nat} (hc : c < 300) (hv : v < 300) (hst : stOK (mSt N)) :
    Ok (f_X9_addMinute (nI c) (nI v) N) (fun N' => N' 101 = upd (N 101) c (nI v) ∧ N' 102 = upd (N 102) c (N 102 c + 1) ∧ N' 103 = upd (N 103) c (mxI (N 103 c) (N 96 v)) ∧ N' 104 = upd (N 104) c (N 104 c + (N 97 v - 10 * sLim (mSt N) v)) ∧ Off oM N N') := by
  unfold f_X9_addMinute
  refine Ok.eqb (wr_nI hc (by decide)) ?_
  refine Ok.eqb (rd_nI hc (by decide)) ?_
  refine Ok.eqb (wr_nI hc (by decide)) ?_
  refine Ok.eqb (rd_nI hv (by decide)) ?_
  refine Ok.eqb (rd_nI hc (by decide)) ?_
  have o3 : ∀ a b, Off oM N (mset (mset N 101 c a) 102 c b) := fun a b => (Off.rf.set (by omega)).set (by omega)
  have main : ∀ x : Int32, x = mxI (N 103 c) (N 96 v) → Ok (f_X9_addMinute_j52 (nI c) (nI v) (nI c) x (mset (mset N 101 c (nI v)) 102 c (mset N 101 c (nI v) 102 c + 1))) (fun N' => N' 101 = upd (N 101) c (nI v) ∧ N' 102 = upd (N 102) c (N 102 c + 1) ∧ N' 103 = upd (N 103) c (mxI (N 103 c) (N 96 v)) ∧ N' 104 = upd (N 104) c (N 104 c + (N 97 v - 10 * sLim (mSt N) v)) ∧ Off oM N N') := by
    intro x hx
    unfold f_X9_addMinute_j52
    refine Ok.eqb (wr_nI hc (by decide)) ?_
    refine Ok.eqb (rd_nI hc (by decide)) ?_
    refine Ok.eqb (rd_nI hv (by decide)) ?_
    have eS : mSt (mset (mset (mset N 101 c (nI v)) 102 c (mset N 101 c (nI v) 102 c + 1)) 103 c x) = mSt N := by
      unfold mSt
      rw [mset_o (by decide), mset_o (by decide), mset_o (by decide)]
    refine Ok.eqb (limitOf_m (by rw [eS]; exact hst) (by omega)) ?_
    rw [eS]
    refine Ok.eqb (wr_nI hc (by decide)) (Ok.of ⟨?_, ?_, ?_, ?_, ?_⟩)
    · rw [mset_o (by decide), mset_o (by decide), mset_o (by decide), mset_r]
    · rw [mset_o (by decide), mset_o (by decide), mset_r, mset_o (c' := 102) (by decide)]
    · rw [mset_o (by decide), mset_r, mset_o (c := 102) (c' := 103) (by decide), mset_o (c := 101) (c' := 103) (by decide), hx]
    · rw [mset_r, mset_o (c := 103) (c' := 104) (by decide), mset_o (c := 102) (c' := 104) (by decide), mset_o (c := 101) (c' := 104) (by decide), mset_o (c := 103) (c' := 97) (by decide), mset_o (c := 102) (c' := 97) (by decide), mset_o (c := 101) (c' := 97) (by decide)]
    · exact ((o3 _ _).set (by omega)).set (by omega)
  have e96 : mset (mset N 101 c (nI v)) 102 c (mset N 101 c (nI v) 102 c + 1) 96 = N 96 := o3 _ _ 96 (by omega)
  have e103 : mset (mset N 101 c (nI v)) 102 c (mset N 101 c (nI v) 102 c + 1) 103 = N 103 := by rw [mset_o (by decide), mset_o (by decide)]
  rw [e96, e103]
  refine Ok.ite (fun q => ?_) (fun q => ?_)
  · refine Ok.eqb (rd_nI hc (by decide)) (main _ ?_)
    rw [e103]
    unfold mxI
    rw [if_neg (n_lt' q)]
  · refine Ok.eqb (rd_nI hv (by decide)) (main _ ?_)
    rw [e96]
    unfold mxI
    rw [if_pos (lt_n q)]
/-- the model's answers to what a view holds -/
def Mx (lv wd st : Nat → Int32) (n : Nat) (M : Mem) : Prop :=
  M 90 6 = nI n ∧ (∀ m, m < n → M 96 m = dF lv st m ∧ M 97 m = dS lv st m ∧ M 98 m = sWhy lv wd st m ∧ M 94 m = lv m ∧ M 95 m = wd m) ∧
  M 90 13 = nI (dC lv wd st n) ∧ xCel (gO st) (dA lv wd st) (dF lv st) (dT lv st) n M ∧ M 90 19 = (if xNa (gO st) (dA lv wd st) n < gO st then 1 else 0) ∧
  (∀ m, m < n → M 99 m = ownA (xFst (gO st) (dA lv wd st) n) (xLst (gO st) (dA lv wd st) n) (dC lv wd st n) m)
abbrev xM : Nat → Prop := fun c => c = 90 ∨ 98 ≤ c ∧ c ≤ 104
theorem layx_1 {M : Mem} {lv wd : Nat → Int32} {n : Nat} (hn : n ≤ 300) (hst : stOK (mSt M)) (h6 : M 90 6 = nI n) (hx0 : M 90 13 = 0) (hg0 : M 90 19 = 0)
    (hA : ∀ m, m < n → M 96 m = dF lv (mSt M) m ∧ M 97 m = dS lv (mSt M) m ∧ M 95 m = wd m) :
    Ok (loopN f_X9_layExceedances_l12 FU (0, M)) (fun N => (∀ m, m < n → N 98 m = sWhy lv wd (mSt M) m ∧ N 99 m = -1) ∧ N 90 13 = nI (dC lv wd (mSt M) n) ∧ xCel (gO (mSt M)) (dA lv wd (mSt M)) (dF lv (mSt M)) (dT lv (mSt M)) n N ∧ N 90 19 = (if xNa (gO (mSt M)) (dA lv wd (mSt M)) n < gO (mSt M) then 1 else 0) ∧ (∀ k, k ≠ 13 → k ≠ 19 → N 90 k = M 90 k) ∧ Off xM M N) := by
  have hgo := gO_b hst
  have hS : ∀ N : Mem, N 91 = M 91 → mSt N = mSt M := fun N h => by unfold mSt; rw [h]
  unfold dC
  generalize hav : dA lv wd (mSt M) = av
  generalize hgg : gO (mSt M) = g at hgo
  generalize hFF : dF lv (mSt M) = F
  generalize hTT : dT lv (mSt M) = T
  refine loop_FU (fun i z => z.1 = nI i ∧ (∀ m, m < i → z.2 98 m = sWhy lv wd (mSt M) m ∧ z.2 99 m = -1) ∧ z.2 90 13 = nI (xCnt g av i) ∧ xCel g av F T i z.2 ∧ z.2 90 19 = (if xNa g av i < g then 1 else 0) ∧ (∀ k, k ≠ 13 → k ≠ 19 → z.2 90 k = M 90 k) ∧ Off xM M z.2) _ n (by omega) ?_ ?_ ?_
  · rintro i ⟨j, N⟩ hi ⟨h1, h2, h3, h4, h5, h7, h8⟩
    dsimp only at h1 h2 h3 h4 h5 h7 h8
    subst h1
    unfold f_X9_layExceedances_l12
    dsimp only
    have hle := xCnt_le (g := g) (av := av) hgo.2.1 i
    have eS := hS N (h8 91 (by omega))
    refine Ok.neg (by rw [h7 6 (by decide) (by decide), h6]; exact nI_ge hi (by omega)) ?_
    refine Ok.eqb (whyNot_m (lv := lv) (wd := wd) (n := n) hn hi (fun m hm => by rw [h8 95 (by omega)]; exact (hA m hm).2.2) (by rw [h8 97 (by omega), eS]; exact (hA i hi).2.1) (by rw [eS]; exact hst)) ?_
    rw [eS]
    refine Ok.eqb (wr_nI (by omega) (by decide)) ?_
    refine Ok.eqb (wr_nI (by omega) (by decide)) ?_
    refine Ok.eqb (rd_nI (by omega) (by decide)) ?_
    have eW : mset (mset N 98 i (sWhy lv wd (mSt M) i)) 99 i (-1) 98 i = sWhy lv wd (mSt M) i := by rw [mset_o (by decide), mset_s]
    rw [eW]
    have o1 : Off xM M (mset (mset N 98 i (sWhy lv wd (mSt M) i)) 99 i (-1)) := (h8.set (by omega)).set (by omega)
    have w1 : ∀ m, m < i + 1 → mset (mset N 98 i (sWhy lv wd (mSt M) i)) 99 i (-1) 98 m = sWhy lv wd (mSt M) m ∧ mset (mset N 98 i (sWhy lv wd (mSt M) i)) 99 i (-1) 99 m = -1 := fun m hm => by
      by_cases hmi : m = i
      · subst hmi
        rw [eW, mset_s]
        exact ⟨rfl, rfl⟩
      · rw [mset_n hmi, mset_o (c' := 98) (by decide), mset_n hmi, mset_o (c' := 99) (by decide)]
        exact h2 m (by omega)
    have x1 : xCel g av F T i (mset (mset N 98 i (sWhy lv wd (mSt M) i)) 99 i (-1)) := xCel_off h4 (fun c hc hc2 => by rw [mset_o (by omega), mset_o (by omega)])
    have s1 : ∀ k, mset (mset N 98 i (sWhy lv wd (mSt M) i)) 99 i (-1) 90 k = N 90 k := fun k => by rw [mset_o (by decide), mset_o (by decide)]
    generalize mset (mset N 98 i (sWhy lv wd (mSt M) i)) 99 i (-1) = N1 at o1 w1 x1 s1 ⊢
    rw [s1, h5, s1, h3]
    have eS1 := hS N1 (o1 91 (by omega))
    have hF : ∀ N' : Mem, Off xM M N' → N' 96 i = F i ∧ N' 97 i - 10 * sLim (mSt N') i = T i := fun N' ho => by
      rw [ho 96 (by omega), ho 97 (by omega), hS N' (ho 91 (by omega)), (hA i hi).1, (hA i hi).2.1, ← hFF, ← hTT]
      exact ⟨rfl, rfl⟩
    have hai : av i = decide (sWhy lv wd (mSt M) i = 0) := by rw [← hav]; rfl
    -- behind an added minute
    have aft : ∀ K : Mem, Off xM M K → (∀ m, m < i + 1 → K 98 m = sWhy lv wd (mSt M) m ∧ K 99 m = -1) → (∀ k, k ≠ 13 → k ≠ 19 → K 90 k = M 90 k) → av i = true → K 90 13 = nI (xCnt g av (i + 1)) → K 90 19 = 1 → 1 ≤ xCnt g av (i + 1) → xCnt g av (i + 1) ≤ 200 →
        (∀ N' : Mem, N' 100 = K 100 → N' 101 = upd (K 101) (xCnt g av (i + 1) - 1) (nI i) → N' 102 = upd (K 102) (xCnt g av (i + 1) - 1) (K 102 (xCnt g av (i + 1) - 1) + 1) → N' 103 = upd (K 103) (xCnt g av (i + 1) - 1) (mxI (K 103 (xCnt g av (i + 1) - 1)) (F i)) → N' 104 = upd (K 104) (xCnt g av (i + 1) - 1) (K 104 (xCnt g av (i + 1) - 1) + T i) → xCel g av F T (i + 1) N') →
        Ok (f_X9_layExceedances_j109 (nI i) K) (fun o => Sum.elim (fun z => z.1 = nI (i + 1) ∧ (∀ m, m < i + 1 → z.2 98 m = sWhy lv wd (mSt M) m ∧ z.2 99 m = -1) ∧ z.2 90 13 = nI (xCnt g av (i + 1)) ∧ xCel g av F T (i + 1) z.2 ∧ z.2 90 19 = (if xNa g av (i + 1) < g then 1 else 0) ∧ (∀ k, k ≠ 13 → k ≠ 19 → z.2 90 k = M 90 k) ∧ Off xM M z.2) (fun N => (∀ m, m < n → N 98 m = sWhy lv wd (mSt M) m ∧ N 99 m = -1) ∧ N 90 13 = nI (xCnt g av n) ∧ xCel g av F T n N ∧ N 90 19 = (if xNa g av n < g then 1 else 0) ∧ (∀ k, k ≠ 13 → k ≠ 19 → N 90 k = M 90 k) ∧ Off xM M N) o) := by
      intro K k1 k2 k3 k4 k5 k6 k7 k8 k9
      unfold f_X9_layExceedances_j109
      rw [k5, nI_p1 k7]
      refine Ok.bind (add_m (by omega) (by omega) (by rw [hS K (k1 91 (by omega))]; exact hst)) ?_
      rintro K' ⟨q1, q2, q3, q4, q5⟩
      rw [(hF K k1).1] at q3
      rw [(hF K k1).2] at q4
      unfold f_X9_layExceedances_j157
      have e90 : K' 90 = K 90 := q5 90 (by omega)
      refine Ok.of ⟨nI_1 i, fun m hm => ?_, ?_, k9 K' (q5 100 (by omega)) q1 q2 q3 q4, ?_, fun k g1 g2 => ?_, k1.tr (q5.mono (fun c hc => by omega))⟩
      · dsimp only
        rw [q5 98 (by omega), q5 99 (by omega)]
        exact k2 m hm
      · dsimp only
        rw [e90]
        exact k5
      · dsimp only
        rw [e90, k6]
        show (1 : Int32) = if (if av i then 0 else xNa g av i + 1) < g then 1 else 0
        rw [if_pos k4, if_pos (by omega)]
      · dsimp only
        rw [e90]
        exact k3 k g1 g2
    have s7 : ∀ k, k ≠ 13 → k ≠ 19 → N1 90 k = M 90 k := fun k g1 g2 => by rw [s1]; exact h7 k g1 g2
    have i1 : ∀ e, e < xCnt g av i → N1 100 e = xFst g av i e := fun e he => (x1 e he).1
    have i2 : ∀ e, e < xCnt g av i → N1 101 e = xLst g av i e := fun e he => (x1 e he).2.1
    have i3 : ∀ e, e < xCnt g av i → N1 102 e = xAbo g av i e := fun e he => (x1 e he).2.2.1
    have i4 : ∀ e, e < xCnt g av i → N1 103 e = xPk g av F i e := fun e he => (x1 e he).2.2.2.1
    have i5 : ∀ e, e < xCnt g av i → N1 104 e = xWt g av T i e := fun e he => (x1 e he).2.2.2.2
    refine Ok.ite (fun c => ?_) (fun c => ?_)
    · have ha : av i = true := by rw [hai]; exact decide_eq_true c
      by_cases hna : xNa g av i < g
      · rw [if_pos hna]
        refine Ok.neg (by decide) ?_
        have hb : xBg g av i = false := by
          unfold xBg
          rw [ha, Bool.true_and]
          exact decide_eq_false (by omega)
        obtain ⟨hc, h1c⟩ := xNb_b hgo.2.1 hb
        have hb' : ¬ xBg g av i = true := by rw [hb]; decide
        have h1c2 := (h1c ha).1
        refine aft N1 o1 w1 s7 ha (by rw [s1, h3, hc]) (by rw [s1, h5, if_pos hna]) (by omega) (by omega) ?_
        intro N' p0 p1 p2 p3 p4
        rw [hc] at p1 p2 p3 p4
        intro e he
        rw [hc] at he
        unfold xFst xLst xAbo xPk xWt
        rw [hc, if_pos ha, if_pos ha, if_pos ha, if_pos ha, if_neg hb', if_neg hb', if_neg hb', if_neg hb', p0, p1, p2, p3, p4, i3 _ (by omega), i4 _ (by omega), i5 _ (by omega)]
        exact ⟨i1 e he, ag_in i2 e he, ag_in i3 e he, ag_in i4 e he, ag_in i5 e he⟩
      · rw [if_neg hna]
        refine Ok.pos rfl ?_
        have hb : xBg g av i = true := by
          unfold xBg
          rw [ha, Bool.true_and]
          exact decide_eq_true (by omega)
        obtain ⟨-, hc2, hc1⟩ := xBg_b hgo.2.1 hb
        have e13 : ∀ (K : Mem) c v, K 90 13 = nI (xCnt g av i) → c ≠ 90 → mset K c (xCnt g av i) v 90 13 = nI (xCnt g av i) := fun K c v hK hc9 => by rw [mset_o (by omega)]; exact hK
        have f0 : N1 90 13 = nI (xCnt g av i) := by rw [s1, h3]
        refine Ok.eqb (wr_nI (by omega) (by decide)) ?_
        have f1 := e13 N1 100 (nI i) f0 (by decide)
        refine Ok.eqb (by rw [f1]; exact wr_nI (by omega) (by decide)) ?_
        have f2 := e13 _ 102 0 f1 (by decide)
        refine Ok.eqb (by rw [f2]; exact wr_nI (by omega) (by decide)) ?_
        have f3 := e13 _ 103 0 f2 (by decide)
        refine Ok.eqb (by rw [f3]; exact wr_nI (by omega) (by decide)) ?_
        have f4 := e13 _ 104 0 f3 (by decide)
        rw [stf_e]
        refine Ok.eqb rfl ?_
        rw [stz_1]
        refine Ok.eqb rfl ?_
        rw [f4, nI_1]
        refine aft _ ((((((o1.set (by omega)).set (by omega)).set (by omega)).set (by omega)).set (by omega)).set (by omega)) (fun m hm => ?_) (fun k g1 g2 => ?_) ha ?_ mset_s (by omega) (by omega) ?_
        · rw [mset_o (c' := 98) (by decide), mset_o (c' := 98) (by decide), mset_o (c' := 98) (by decide), mset_o (c' := 98) (by decide), mset_o (c' := 98) (by decide), mset_o (c' := 98) (by decide), mset_o (c' := 99) (by decide), mset_o (c' := 99) (by decide), mset_o (c' := 99) (by decide), mset_o (c' := 99) (by decide), mset_o (c' := 99) (by decide), mset_o (c' := 99) (by decide)]
          exact w1 m hm
        · rw [mset_n g2, mset_n g1, mset_o (by decide), mset_o (by decide), mset_o (by decide), mset_o (by decide)]
          exact s7 k g1 g2
        · rw [mset_n (by decide), mset_s, hc1]
        · intro N' p0 p1 p2 p3 p4
          rw [hc1, Nat.add_sub_cancel] at p1 p2 p3 p4
          rw [mset_o (by decide), mset_o (by decide), mset_o (by decide), mset_o (by decide), mset_o (by decide), mset_r] at p0
          rw [mset_o (c' := 101) (by decide), mset_o (c' := 101) (by decide), mset_o (c' := 101) (by decide), mset_o (c' := 101) (by decide), mset_o (c' := 101) (by decide), mset_o (c' := 101) (by decide)] at p1
          rw [mset_o (c' := 102) (by decide), mset_o (c' := 102) (by decide), mset_o (c' := 102) (by decide), mset_o (c' := 102) (by decide), mset_r, mset_o (c' := 102) (by decide), upd_s] at p2
          rw [mset_o (c' := 103) (by decide), mset_o (c' := 103) (by decide), mset_o (c' := 103) (by decide), mset_r, mset_o (c' := 103) (by decide), mset_o (c' := 103) (by decide), upd_s] at p3
          rw [mset_o (c' := 104) (by decide), mset_o (c' := 104) (by decide), mset_r, mset_o (c' := 104) (by decide), mset_o (c' := 104) (by decide), mset_o (c' := 104) (by decide), upd_s] at p4
          intro e he
          rw [hc1] at he
          unfold xFst xLst xAbo xPk xWt
          rw [hc1, Nat.add_sub_cancel, if_pos ha, if_pos ha, if_pos ha, if_pos ha, if_pos hb, if_pos hb, if_pos hb, if_pos hb, p0, p1, p2, p3, p4]
          exact ⟨ag_new i1 e he, ag_new i2 e he, ag_two i3 e he, ag_two i4 e he, ag_two i5 e he⟩
    · have ha : av i = false := by rw [hai]; exact decide_eq_false c
      obtain ⟨hc, x2⟩ := xCel_n hgo.2.1 x1 ha
      have hna1 : xNa g av (i + 1) = xNa g av i + 1 := by
        show (if av i then 0 else _) = _
        rw [ha]
        rfl
      unfold f_X9_layExceedances_j157
      by_cases hna : xNa g av i < g
      · rw [if_pos hna]
        refine Ok.neg (by decide) ?_
        obtain ⟨l1, l2⟩ := xL_last hgo.2.1 i hna
        have h1c := ((xCnt_b (av := av) hgo.2.1 i).1 hna).2
        rw [nI_p1 h1c]
        refine Ok.eqb (rd_nI (by omega) (by decide)) ?_
        rw [i2 _ (by omega), l1]
        refine Ok.eqb (show f_X9_of 6 N1 = some (mSt N1 6) from of_m 6 (by decide)) ?_
        rw [eS1, hgo.1]
        have hsub : nI i - nI (i - 1 - xNa g av i) = nI (xNa g av i + 1) := by
          refine i_eq.mpr ?_
          rw [i_sub] <;> rw [i_nI (by omega), i_nI (by omega)]
          · rw [i_nI (by omega)]
            omega
          · omega
          · omega
        rw [hsub]
        refine Ok.ite (fun c2 => ?_) (fun c2 => ?_)
        · rw [stz_0]
          refine Ok.eqb rfl (Ok.of ⟨nI_1 i, fun m hm => ?_, ?_, xCel_off x2 (fun c hc hc2 => by dsimp only; rw [mset_o (by omega)]), ?_, fun k g1 g2 => ?_, o1.set (by omega)⟩)
          · dsimp only
            rw [mset_o (by decide), mset_o (by decide)]
            exact w1 m hm
          · dsimp only
            rw [mset_n (by decide), s1, h3, hc]
          · dsimp only
            have hgq : xNa g av i + 1 = g := (nI_eq (by omega) (by omega)).mp c2
            rw [mset_s, hna1, if_neg (by omega)]
          · dsimp only
            rw [mset_n g2]
            exact s7 k g1 g2
        · refine Ok.of ⟨nI_1 i, w1, by dsimp only; rw [s1, h3, hc], x2, ?_, s7, o1⟩
          have hgq : xNa g av i + 1 ≠ g := fun q => c2 (by rw [q])
          dsimp only
          rw [s1, h5, if_pos hna, hna1, if_pos (by omega)]
      · rw [if_neg hna]
        refine Ok.pos rfl (Ok.of ⟨nI_1 i, w1, by dsimp only; rw [s1, h3, hc], x2, ?_, s7, o1⟩)
        dsimp only
        rw [s1, h5, if_neg hna, hna1, if_neg (by omega)]
  · rintro ⟨j, N⟩ ⟨h1, h2, h3, h4, h5, h7, h8⟩
    dsimp only at h1 h2 h3 h4 h5 h7 h8
    subst h1
    unfold f_X9_layExceedances_l12
    dsimp only
    exact Ok.pos (by rw [h7 6 (by decide) (by decide), h6]; exact nI_le (Nat.le_refl _) (by omega)) (Ok.of ⟨h2, h3, h4, h5, h7, h8⟩)
  · refine ⟨rfl, fun m hm => absurd hm (Nat.not_lt_zero m), hx0, fun e he => absurd he (Nat.not_lt_zero e), ?_, fun k _ _ => rfl, Off.rf⟩
    show M 90 19 = if g < g then 1 else 0
    rw [if_neg (Nat.lt_irrefl _)]
    exact hg0
