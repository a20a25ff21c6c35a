/-! model: the questions that lay otherwise -/
theorem stOK_l {st : Nat → Int32} {l : Nat} (h : stOK st) (hl : l ≤ 140) : stOK (stL0 st l) := by
  obtain ⟨-, h⟩ := h
  unfold stOK
  rw [stL0_n st l (k := 1) (by decide), stL0_n st l (k := 2) (by decide), stL0_n st l (k := 3) (by decide), stL0_n st l (k := 4) (by decide), stL0_n st l (k := 5) (by decide), stL0_n st l (k := 6) (by decide), stL0_n st l (k := 7) (by decide), stL0_n st l (k := 8) (by decide), stL0_n st l (k := 9) (by decide)]
  refine ⟨?_, h⟩
  unfold stL0
  rw [upd_s, i_nI (by omega)]
  omega
/-- the fields of the model that a lay keeps -/
def Kp (M M' : Mem) : Prop := ∀ k, k ≠ 6 → k ≠ 13 → k ≠ 19 → M' 90 k = M 90 k
theorem leastNow_m {M : Mem} {lv wd : Nat → Int32} {n : Nat} {most : Int32} (hz : zM lv wd n M) (hZ : Zz lv wd n) (hst : stOK (mSt M)) :
    Ok (f_X9_leastNow most M) (fun r => r.1 = sLst lv wd (mSt M) n most ∧ Kp M r.2 ∧ Off layC M r.2) := by
  unfold f_X9_leastNow
  refine Ok.eqb (show f_X9_of 0 M = some (mSt M 0) from of_m 0 (by decide)) ?_
  refine Ok.bind (P := fun o => o.1 = sLst lv wd (mSt M) n most ∧ (∀ k, k ≠ 401 → o.2 91 k = M 91 k) ∧ Kp M o.2 ∧ Off (fun c => layC c ∨ c = 91) M o.2) ?_ ?_
  · refine loop_FU (fun i z => z.1 = nI (fI (fun l => decide (nI (dC lv wd (stL0 (mSt M) l) n) ≤ most)) i) - 1 ∧ z.2.1 = nI i ∧ (∀ k, k ≠ 401 → z.2.2 91 k = M 91 k) ∧ Kp M z.2.2 ∧ Off (fun c => layC c ∨ c = 91) M z.2.2) _ 141 (by omega) ?_ ?_ ⟨rfl, rfl, fun k _ => rfl, fun k _ _ _ => rfl, Off.rf⟩
    · rintro i ⟨r, j, N⟩ hi ⟨h1, h2, h3, h4, h5⟩
      dsimp only at h1 h2 h3 h4 h5
      subst h1; subst h2
      unfold f_X9_leastNow_l11
      dsimp only
      have hfl := fI_le (fun l => decide (nI (dC lv wd (stL0 (mSt M) l) n) ≤ most)) i
      refine Ok.neg (fun q => by have := (n_lt (a := 140) (by decide) (by omega)).mp q; omega) ?_
      refine Ok.ite (fun c => ?_) (fun c => ?_)
      · have h0 := (nIm1 (by omega)).mp c
        refine Ok.eqb (show wr N 91 432 401 (nI i) = some (mset N 91 401 (nI i)) from wr_nI (k := 401) (by decide) (by decide)) ?_
        have e91 : ∀ k, k ≠ 401 → mset N 91 401 (nI i) 91 k = M 91 k := fun k hk => by rw [mset_n hk]; exact h3 k hk
        have o1 : Off (fun c => layC c ∨ c = 91) M (mset N 91 401 (nI i)) := h5.set (Or.inr rfl)
        have k1 : Kp M (mset N 91 401 (nI i)) := fun k g1 g2 g3 => by rw [mset_o (by decide)]; exact h4 k g1 g2 g3
        have s1 : mSt (mset N 91 401 (nI i)) = stL0 (mSt M) i := by
          funext k
          unfold mSt stL0
          by_cases hk : k = 0
          · subst hk
            rw [upd_s]
            exact mset_s
          · rw [upd_n hk]
            exact e91 (401 + k) (by omega)
        have z1 : zM lv wd n (mset N 91 401 (nI i)) := by
          have hn := hz.1
          refine ⟨hn, by rw [e91 0 (by decide)]; exact hz.2.1, fun m hm => ?_⟩
          rw [e91 (1 + 2 * m) (by omega), e91 (2 + 2 * m) (by omega)]
          exact hz.2.2 m hm
        generalize mset N 91 401 (nI i) = N1 at e91 o1 k1 s1 z1 ⊢
        refine Ok.bind (lay0_m z1 hZ (by rw [s1]; exact stOK_l hst (by omega))) ?_
        rintro N2 ⟨a1, a2, a3⟩
        rw [s1] at a1
        rw [a1.2.2.1]
        have e2 : ∀ k, k ≠ 401 → N2 91 k = M 91 k := fun k hk => by rw [a3 91 (by omega)]; exact e91 k hk
        have k2 : Kp M N2 := fun k g1 g2 g3 => (a2 k g1 g2 g3).trans (k1 k g1 g2 g3)
        have o2 : Off (fun c => layC c ∨ c = 91) M N2 := o1.tr (a3.mono (fun c hc => Or.inl hc))
        unfold f_X9_leastNow_j54
        refine Ok.ite (fun c2 => Ok.of ⟨?_, nI_1 i, e2, k2, o2⟩) (fun c2 => Ok.of ⟨?_, nI_1 i, e2, k2, o2⟩)
        · rw [fI_miss h0 (decide_eq_false (n_le' c2))]
          rfl
        · rw [fI_hit h0 (decide_eq_true (le_n c2)) (Nat.lt_succ_self i), nI_pred]
      · have h0 : fI (fun l => decide (nI (dC lv wd (stL0 (mSt M) l) n) ≤ most)) i ≠ 0 := fun q => c ((nIm1 (by omega)).mpr q)
        refine Ok.of ⟨?_, h3, h4, h5⟩
        have := fI_st h0 (141 - i)
        rw [show i + (141 - i) = 141 by omega] at this
        unfold sLst
        rw [this]
    · rintro ⟨r, j, N⟩ ⟨h1, h2, h3, h4, h5⟩
      dsimp only at h1 h2 h3 h4 h5
      subst h2
      unfold f_X9_leastNow_l11
      dsimp only
      exact Ok.pos (by decide) (Ok.of ⟨h1, h3, h4, h5⟩)
  rintro ⟨r, N⟩ ⟨h1, h3, h4, h5⟩
  dsimp only at h1 h3 h4 h5
  unfold f_X9_leastNow_j61
  refine Ok.eqb (show wr N 91 432 401 (mSt M 0) = some (mset N 91 401 (mSt M 0)) from wr_nI (k := 401) (by decide) (by decide)) (Ok.of ⟨h1, fun k g1 g2 g3 => ?_, fun c hc => ?_⟩)
  · dsimp only
    rw [mset_o (by decide)]
    exact h4 k g1 g2 g3
  · dsimp only
    by_cases hc91 : c = 91
    · subst hc91
      rw [mset_r]
      funext k
      by_cases hk : k = 401
      · subst hk
        rw [upd_s]
        rfl
      · rw [upd_n hk]
        exact h3 k hk
    · rw [mset_o hc91]
      exact h5 c (fun q => q.elim hc hc91)
theorem aboveNow_m {M : Mem} {lv wd : Nat → Int32} {n : Nat} {loud : Int32} (hz : zM lv wd n M) (hst : stOK (mSt M)) :
    Ok (f_X9_aboveNow loud M) (fun r => r.1 = sAbv lv wd (mSt M) n loud ∧ Kp M r.2 ∧ Off layC M r.2) := by
  unfold f_X9_aboveNow
  have hn := hz.1
  refine Ok.bind (lay_m (more := 100) hz (by omega) hst) ?_
  rintro M1 ⟨a1, a2, a3⟩
  refine Ok.bind (P := fun o => (o = .inl () ∧ fI (fun k => dA (xLv lv n loud) (xWd wd n) (mSt M) (n + k)) 100 = 0) ∨ (∃ j, o = .inr (nI j, M1) ∧ fI (fun k => dA (xLv lv n loud) (xWd wd n) (mSt M) (n + k)) 100 = j ∧ j ≠ 0)) ?_ ?_
  · refine loop_FU (fun i z => z = nI (i + 1) ∧ fI (fun k => dA (xLv lv n loud) (xWd wd n) (mSt M) (n + k)) i = 0) _ 100 (by omega) ?_ ?_ ⟨rfl, rfl⟩
    · rintro i z hi ⟨h1, h2⟩
      subst h1
      unfold f_X9_aboveNow_l9
      refine Ok.neg (fun q => by have := (n_lt (a := 100) (by decide) (by omega)).mp q; omega) ?_
      refine Ok.eqb (show rd M1 91 432 0 = some (M1 91 0) from rd_nI (k := 0) (by decide) (by decide)) ?_
      rw [a3 91 (by omega), hz.2.1, nI_add, show n + (i + 1) = (n + i) + 1 by omega, nI_pred]
      refine Ok.eqb (rd_nI (by omega) (by decide)) ?_
      rw [(a1.2.1 (n + i) (by omega)).2.2.1]
      refine Ok.ite (fun c => Ok.of (Or.inr ⟨i + 1, rfl, ?_, by omega⟩)) (fun c => Ok.of ⟨nI_1 _, ?_⟩)
      · exact fI_hit h2 (decide_eq_true c) hi
      · exact fI_miss h2 (decide_eq_false c)
    · rintro z ⟨h1, h2⟩
      subst h1
      unfold f_X9_aboveNow_l9
      exact Ok.pos (by decide) (Ok.of (Or.inl ⟨rfl, h2⟩))
  rintro o (⟨rfl, h⟩ | ⟨j, rfl, h, hj⟩)
  · refine Ok.of ⟨?_, a2, a3⟩
    unfold sAbv
    rw [if_pos h]
  · refine Ok.of ⟨?_, a2, a3⟩
    unfold sAbv
    rw [h, if_neg hj]
theorem withSetting_m {M : Mem} {lv wd cm : Nat → Int32} {n nc a w : Nat} {v : Int32} (hz : zM lv wd n M) (hc : zC cm nc M) (hZ : Zz lv wd n) (hl : lvOK lv n) (ha : a < 10) (hw : w ≤ 9) (hst : stOK (upd (mSt M) a v)) :
    Ok (f_X9_withSetting (nI a) v (nI w) M) (fun r => r.1 = cN lv wd (upd (mSt M) a v) cm n nc w ∧ Kp M r.2 ∧ Off allC M r.2) := by
  unfold f_X9_withSetting
  have hn := hz.1
  refine Ok.eqb (of_m a (by omega)) ?_
  have i4 : (401 : Int32) + nI a = nI (401 + a) := nI_add 401 a
  rw [i4]
  refine Ok.eqb (wr_nI (by omega) (by decide)) ?_
  have e91 : ∀ k, k ≠ 401 + a → mset M 91 (401 + a) v 91 k = M 91 k := fun k hk => mset_n hk
  have o1 : Off (fun c => allC c ∨ c = 91) M (mset M 91 (401 + a) v) := Off.rf.set (Or.inr rfl)
  have k1 : Kp M (mset M 91 (401 + a) v) := fun k _ _ _ => by rw [mset_o (by decide)]
  have s1 : mSt (mset M 91 (401 + a) v) = upd (mSt M) a v := by
    funext k
    unfold mSt
    by_cases hk : k = a
    · subst hk
      rw [upd_s]
      exact mset_s
    · rw [upd_n hk]
      exact e91 (401 + k) (by omega)
  have z1 : zM lv wd n (mset M 91 (401 + a) v) := by
    refine ⟨hn, by rw [e91 0 (by omega)]; exact hz.2.1, fun m hm => ?_⟩
    rw [e91 (1 + 2 * m) (by omega), e91 (2 + 2 * m) (by omega)]
    exact hz.2.2 m hm
  have c1 : zC cm nc (mset M 91 (401 + a) v) := by
    have hnc := hc.1
    refine ⟨hnc, by rw [e91 411 (by omega)]; exact hc.2.1, fun k hk => ?_⟩
    rw [e91 (412 + k) (by omega)]
    exact hc.2.2 k hk
  generalize mset M 91 (401 + a) v = M1 at e91 o1 k1 s1 z1 c1 ⊢
  refine Ok.bind (layAll_m z1 c1 hZ (by rw [s1]; exact hst)) ?_
  rintro M2 ⟨a1, a2, a3⟩
  have s2 : mSt M2 = mSt M1 := by unfold mSt; rw [a3 91 (by omega)]
  have c2 : zC cm nc M2 := by unfold zC; rw [a3 91 (by omega)]; exact c1
  rw [← s2] at a1
  refine Ok.eqb (counted_m a1 c2 hl (by rw [s2, s1]; exact hst) hn w (by omega)) ?_
  refine Ok.eqb (wr_nI (by omega) (by decide)) (Ok.of ⟨?_, fun k g1 g2 g3 => ?_, fun c hc => ?_⟩)
  · dsimp only
    rw [if_neg (by omega), s2, s1]
  · dsimp only
    rw [mset_o (by decide)]
    exact (a2 k g1 g2 g3).trans (k1 k g1 g2 g3)
  · dsimp only
    by_cases hc91 : c = 91
    · subst hc91
      rw [mset_r]
      funext k
      by_cases hk : k = 401 + a
      · subst hk
        rw [upd_s]
        rfl
      · rw [upd_n hk, a3 91 (by omega)]
        exact e91 k hk
    · rw [mset_o hc91, a3 c hc]
      exact o1 c (fun q => q.elim hc hc91)
