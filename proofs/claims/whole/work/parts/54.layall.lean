theorem layx_2 {N : Mem} {g n : Nat} {av : Nat → Bool} {F Wt : Nat → Int32} (hg : 1 ≤ g) (hn : n ≤ 300) (hx : N 90 13 = nI (xCnt g av n)) (hI : xCel g av F Wt n N) (hO : ∀ m, m < n → N 99 m = -1) :
    Ok (loopN f_X9_layExceedances_l165 FU (0, N)) (fun N' => (∀ m, m < n → N' 99 m = ownA (xFst g av n) (xLst g av n) (xCnt g av n) m) ∧ Off (fun c => c = 99) N N') := by
  have hle := xCnt_le (g := g) (av := av) hg n
  refine loop_FU (fun i z => z.1 = nI i ∧ (∀ m, m < n → z.2 99 m = ownA (xFst g av n) (xLst g av n) i m) ∧ Off (fun c => c = 99) N z.2) _ (xCnt g av n) (by omega) ?_ ?_ ?_
  · rintro i ⟨j, K⟩ hi ⟨h1, h2, h3⟩
    dsimp only at h1 h2 h3
    subst h1
    unfold f_X9_layExceedances_l165
    dsimp only
    refine Ok.neg (by rw [h3 90 (by omega), hx]; exact nI_ge hi (by omega)) ?_
    refine Ok.eqb (rd_nI (by omega) (by decide)) ?_
    rw [h3 100 (by omega), (hI i hi).1]
    obtain ⟨a, b, e1, e2, hab, hbn⟩ := xF_rng hg n i hi
    rw [e1]
    refine Ok.bind (P := fun K' => (∀ m, m < n → K' 99 m = ownA (xFst g av n) (xLst g av n) (i + 1) m) ∧ Off (fun c => c = 99) N K') ?_ (fun K' h => Ok.of ⟨nI_1 i, h⟩)
    refine loop_FU (fun k z => z.1 = nI (a + k) ∧ (∀ m, m < n → z.2 99 m = if a ≤ m ∧ m < a + k then nI i else ownA (xFst g av n) (xLst g av n) i m) ∧ Off (fun c => c = 99) N z.2) _ (b + 1 - a) (by omega) ?_ ?_ ?_
    · rintro k ⟨j, K2⟩ hk ⟨g1, g2, g3⟩
      dsimp only at g1 g2 g3
      subst g1
      unfold f_X9_layExceedances_l180
      dsimp only
      refine Ok.eqb (rd_nI (by omega) (by decide)) ?_
      refine Ok.neg (by rw [g3 101 (by omega), (hI i hi).2.1, e2]; intro q; have := (n_lt (by omega) (by omega)).mp q; omega) ?_
      refine Ok.eqb (wr_nI (by omega) (by decide)) (Ok.of ⟨nI_1 _, fun m hm => ?_, g3.set rfl⟩)
      dsimp only
      by_cases hmk : m = a + k
      · subst hmk
        rw [mset_s, if_pos (by omega)]
      · rw [mset_n hmk, g2 m hm]
        by_cases hq : a ≤ m ∧ m < a + k
        · rw [if_pos hq, if_pos (by omega)]
        · rw [if_neg hq, if_neg (by omega)]
    · rintro ⟨j, K2⟩ ⟨g1, g2, g3⟩
      dsimp only at g1 g2 g3
      subst g1
      unfold f_X9_layExceedances_l180
      dsimp only
      refine Ok.eqb (rd_nI (by omega) (by decide)) ?_
      refine Ok.pos (by rw [g3 101 (by omega), (hI i hi).2.1, e2]; exact (n_lt (by omega) (by omega)).mpr (by omega)) (Ok.of ⟨fun m hm => ?_, g3⟩)
      show K2 99 m = if xFst g av n i ≤ nI m ∧ nI m ≤ xLst g av n i then nI i else _
      rw [g2 m hm, e1, e2]
      by_cases hq : a ≤ m ∧ m < a + (b + 1 - a)
      · rw [if_pos hq, if_pos ⟨(n_le (by omega) (by omega)).mpr hq.1, (n_le (by omega) (by omega)).mpr (by omega)⟩]
      · rw [if_neg hq, if_neg (fun q => hq ⟨(n_le (by omega) (by omega)).mp q.1, by have := (n_le (by omega) (by omega)).mp q.2; omega⟩)]
    · refine ⟨rfl, fun m hm => ?_, h3⟩
      rw [if_neg (by omega)]
      exact h2 m hm
  · rintro ⟨j, K⟩ ⟨h1, h2, h3⟩
    dsimp only at h1 h2 h3
    subst h1
    unfold f_X9_layExceedances_l165
    dsimp only
    refine Ok.pos (by rw [h3 90 (by omega), hx]; exact nI_le (Nat.le_refl _) (by omega)) (Ok.of ⟨h2, h3⟩)
  · exact ⟨rfl, hO, Off.rf⟩
/-- the cells that a lay may change, and the model's other fields -/
abbrev layC : Nat → Prop := fun c => c = 90 ∨ 94 ≤ c ∧ c ≤ 104
theorem lay_m {M : Mem} {lv wd : Nat → Int32} {n more : Nat} {loud : Int32} (hz : zM lv wd n M) (hm : n + more ≤ 300) (hst : stOK (mSt M)) :
    Ok (f_X9_lay (nI more) loud M) (fun M' => Mx (xLv lv n loud) (xWd wd n) (mSt M) (n + more) M' ∧ (∀ k, k ≠ 6 → k ≠ 13 → k ≠ 19 → M' 90 k = M 90 k) ∧ Off layC M M') := by
  unfold f_X9_lay
  have hn := hz.1
  refine Ok.eqb (show rd M 91 432 0 = some (M 91 0) from rd_nI (k := 0) (by decide) (by decide)) ?_
  rw [stf_e]
  refine Ok.eqb rfl ?_
  rw [hz.2.1, nI_add]
  have o1 : Off layC M (mset M 90 6 (nI (n + more))) := Off.rf.set (by omega)
  have k1 : ∀ k, k ≠ 6 → mset M 90 6 (nI (n + more)) 90 k = M 90 k := fun k hk => mset_n hk
  have k6 : mset M 90 6 (nI (n + more)) 90 6 = nI (n + more) := mset_s
  have z1 : zM lv wd n (mset M 90 6 (nI (n + more))) := by
    unfold zM
    rw [mset_o (by decide)]
    exact hz
  generalize mset M 90 6 (nI (n + more)) = M1 at o1 k1 k6 z1 ⊢
  refine Ok.bind (lay_copy (more := more) z1 hm k6) ?_
  rintro M2 ⟨a1, a2⟩
  have o2 : Off layC M M2 := o1.tr (a2.mono (fun c hc => by omega))
  have s2 : mSt M2 = mSt M := by unfold mSt; rw [o2 91 (by omega)]
  refine Ok.bind (lay_arms (lv := xLv lv n loud) hm (by rw [a2 90 (by omega)]; exact k6) (fun m hm => (a1 m hm).1) (by rw [s2]; exact hst)) ?_
  rintro M3 ⟨b1, b2⟩
  rw [s2] at b1
  have o3 : Off layC M M3 := o2.tr (b2.mono (fun c hc => by omega))
  have s3 : mSt M3 = mSt M := by unfold mSt; rw [o3 91 (by omega)]
  have e90 : M3 90 = M1 90 := (b2 90 (by omega)).trans (a2 90 (by omega))
  unfold f_X9_layExceedances
  rw [stf_e]
  refine Ok.bind (P := fun M' => Mx (xLv lv n loud) (xWd wd n) (mSt M) (n + more) M' ∧ (∀ k, k ≠ 6 → k ≠ 13 → k ≠ 19 → M' 90 k = M 90 k) ∧ Off layC M M') ?_ (fun r h => Ok.of h)
  refine Ok.eqb rfl ?_
  rw [stz_0]
  refine Ok.eqb rfl ?_
  have o4 : Off layC M (mset (mset M3 90 13 0) 90 19 0) := (o3.set (by omega)).set (by omega)
  have c1 : ∀ c, c ≠ 90 → mset (mset M3 90 13 0) 90 19 0 c = M3 c := fun c hc => by rw [mset_o hc, mset_o hc]
  have d1 : ∀ k, k ≠ 13 → k ≠ 19 → mset (mset M3 90 13 0) 90 19 0 90 k = M3 90 k := fun k g1 g2 => by rw [mset_n g2, mset_n g1]
  have d2 : mset (mset M3 90 13 0) 90 19 0 90 13 = 0 := by rw [mset_n (by decide), mset_s]
  have d3 : mset (mset M3 90 13 0) 90 19 0 90 19 = 0 := mset_s
  generalize mset (mset M3 90 13 0) 90 19 0 = M4 at o4 c1 d1 d2 d3 ⊢
  have s4 : mSt M4 = mSt M := by unfold mSt; rw [o4 91 (by omega)]
  have hx := layx_1 (M := M4) (lv := xLv lv n loud) (wd := xWd wd n) (n := n + more) hm (by rw [s4]; exact hst) (by rw [d1 6 (by decide) (by decide), e90]; exact k6) d2 d3 (fun m hm => by
    rw [s4, c1 96 (by decide), c1 97 (by decide), c1 95 (by decide), b2 95 (by omega)]
    exact ⟨(b1 m hm).1, (b1 m hm).2, (a1 m hm).2⟩)
  rw [s4] at hx
  refine Ok.bind hx ?_
  rintro M5 ⟨p1, p2, p3, p4, p5, p6⟩
  refine Ok.bind (P := fun M' => (∀ m, m < n + more → M' 99 m = ownA (xFst (gO (mSt M)) (dA (xLv lv n loud) (xWd wd n) (mSt M)) (n + more)) (xLst (gO (mSt M)) (dA (xLv lv n loud) (xWd wd n) (mSt M)) (n + more)) (dC (xLv lv n loud) (xWd wd n) (mSt M) (n + more)) m) ∧ Off (fun c => c = 99) M5 M') (layx_2 (gO_b hst).2.1 hm p2 p3 (fun m hm => (p1 m hm).2)) ?_
  rintro M6 ⟨q1, q2⟩
  have o6 : Off layC M M6 := (o4.tr (p6.mono (fun c hc => by omega))).tr (q2.mono (fun c hc => by omega))
  have e6 : ∀ k, k ≠ 13 → k ≠ 19 → M6 90 k = M1 90 k := fun k g1 g2 => by rw [q2 90 (by omega), p5 k g1 g2, d1 k g1 g2, e90]
  refine Ok.of ⟨⟨?_, fun m hm => ?_, ?_, ?_, ?_, q1⟩, fun k g1 g2 g3 => ?_, o6⟩
  · rw [e6 6 (by decide) (by decide)]
    exact k6
  · rw [q2 96 (by omega), q2 97 (by omega), q2 98 (by omega), q2 94 (by omega), q2 95 (by omega), p6 96 (by omega), p6 97 (by omega), p6 94 (by omega), p6 95 (by omega), c1 96 (by decide), c1 97 (by decide), c1 94 (by decide), c1 95 (by decide), b2 94 (by omega), b2 95 (by omega)]
    exact ⟨(b1 m hm).1, (b1 m hm).2, (p1 m hm).1, (a1 m hm).1, (a1 m hm).2⟩
  · rw [q2 90 (by omega)]
    exact p2
  · exact xCel_off p3 (fun c hc hc2 => q2 c (by omega))
  · rw [q2 90 (by omega)]
    exact p4
  · rw [e6 k g2 g3, k1 k g1]
