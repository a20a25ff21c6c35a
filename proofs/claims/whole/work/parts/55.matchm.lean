/-! model: complaints are matched -/
theorem matchFor_m {N : Mem} {cnt : Nat} {fs ls pk co : Nat → Int32} {a : Int32} (hc : cnt ≤ 200) (hx : N 90 13 = nI cnt)
    (hA : ∀ e, e < cnt → N 100 e = fs e ∧ N 101 e = ls e ∧ N 103 e = pk e) (hco : ∀ e, e < cnt → N 106 e = co e) :
    f_X9_matchFor a N = some (nI (sBst fs ls pk co a (mSt N 7) cnt) - 1) := by
  generalize hp : mSt N 7 = p
  have key : Ok (f_X9_matchFor a N) (fun r => r = nI (sBst fs ls pk co a p cnt) - 1) := by
    unfold f_X9_matchFor
    refine Ok.bind (P := fun r => r = nI (sBst fs ls pk co a p cnt) - 1) ?_ (fun r h => Ok.of h)
    refine loop_FU (fun i z => z.1 = nI (sBst fs ls pk co a p i) - 1 ∧ z.2 = nI i) _ cnt (by omega) ?_ ?_ ?_
    · rintro i ⟨b, j⟩ hi ⟨h1, h2⟩
      dsimp only at h1 h2
      subst h1; subst h2
      unfold f_X9_matchFor_l4
      dsimp only
      have hle := sBst_le fs ls pk co a p i
      refine Ok.neg (by rw [hx]; exact nI_ge hi (by omega)) ?_
      refine Ok.eqb (rd_nI (by omega) (by decide)) ?_
      rw [hco i hi]
      obtain ⟨h1, h2, h3⟩ := hA i hi
      have keep : sBst fs ls pk co a p (i + 1) = sBst fs ls pk co a p i → Ok (f_X9_matchFor_j85 a (nI (sBst fs ls pk co a p i) - 1) (nI i) N) (fun o => Sum.elim (fun z => z.1 = nI (sBst fs ls pk co a p (i + 1)) - 1 ∧ z.2 = nI (i + 1)) (fun r => r = nI (sBst fs ls pk co a p cnt) - 1) o) := by
        intro hk
        unfold f_X9_matchFor_j85 f_X9_matchFor_j86
        exact Ok.of ⟨by rw [hk], nI_1 i⟩
      have take : sBst fs ls pk co a p (i + 1) = i + 1 → Ok (f_X9_matchFor_j81 a (nI i) N) (fun o => Sum.elim (fun z => z.1 = nI (sBst fs ls pk co a p (i + 1)) - 1 ∧ z.2 = nI (i + 1)) (fun r => r = nI (sBst fs ls pk co a p cnt) - 1) o) := by
        intro hk
        unfold f_X9_matchFor_j81 f_X9_matchFor_j86
        exact Ok.of ⟨by show nI i = _; rw [hk, nI_pred], nI_1 i⟩
      have unf : sBst fs ls pk co a p (i + 1) = if co i = -1 ∧ fs i ≤ a ∧ a - p ≤ ls i ∧ (sBst fs ls pk co a p i = 0 ∨ pk (sBst fs ls pk co a p i - 1) < pk i) then i + 1 else sBst fs ls pk co a p i := rfl
      unfold f_X9_matchFor_j53 f_X9_matchFor_j54
      refine Ok.ite (fun cf => ?_) (fun cf => ?_)
      · refine Ok.eqb (rd_nI (by omega) (by decide)) ?_
        rw [h1]
        refine Ok.ite (fun c1 => ?_) (fun c1 => ?_)
        · exact Ok.pos rfl (keep (by rw [unf, if_neg]; rintro ⟨_, q, _⟩; exact n_le' c1 q))
        · refine Ok.eqb (rd_nI (by omega) (by decide)) ?_
          rw [h2]
          refine Ok.eqb (show f_X9_of 7 N = some (mSt N 7) from of_m 7 (by decide)) ?_
          rw [hp]
          refine Ok.ite (fun c2 => ?_) (fun c2 => ?_)
          · exact Ok.pos rfl (keep (by rw [unf, if_neg]; rintro ⟨_, _, q, _⟩; exact n_le' c2 q))
          · refine Ok.neg (by decide) ?_
            refine Ok.ite (fun c3 => ?_) (fun c3 => ?_)
            · exact take (by rw [unf, if_pos ⟨cf, le_n c1, le_n c2, Or.inl ((nIm1 (by omega)).mp c3)⟩])
            · have h0 : sBst fs ls pk co a p i ≠ 0 := fun q => c3 ((nIm1 (by omega)).mpr q)
              refine Ok.eqb (rd_nI (by omega) (by decide)) ?_
              refine Ok.eqb (by rw [nI_p1 (by omega)]; exact rd_nI (by omega) (by decide)) ?_
              rw [h3, (hA (sBst fs ls pk co a p i - 1) (by omega)).2.2]
              refine Ok.ite (fun c4 => ?_) (fun c4 => ?_)
              · refine keep (by rw [unf, if_neg]; rintro ⟨_, _, _, q⟩; rcases q with q | q; exact h0 q; exact n_le' q c4)
              · exact take (by rw [unf, if_pos ⟨cf, le_n c1, le_n c2, Or.inr (lt_n c4)⟩])
      · exact Ok.pos rfl (keep (by rw [unf, if_neg]; rintro ⟨q, _⟩; exact cf q))
    · rintro ⟨b, j⟩ ⟨h1, h2⟩
      dsimp only at h1 h2
      subst h2
      unfold f_X9_matchFor_l4
      dsimp only
      exact Ok.pos (by rw [hx]; exact nI_le (Nat.le_refl _) (by omega)) (Ok.of h1)
    · exact ⟨rfl, rfl⟩
  obtain ⟨r, h1, h2⟩ := key
  rw [h1, h2]
/-- complaints of the model -/
def zC (cm : Nat → Int32) (nc : Nat) (M : Mem) : Prop := nc ≤ 20 ∧ M 91 411 = nI nc ∧ ∀ k, k < nc → M 91 (412 + k) = cm k ∧ ∃ w, w ≤ 300 ∧ cm k = nI w
def mF (cm : Nat → Int32) (v k : Nat) : List Nat := (List.range k).filter (fun j => decide (cm j = nI v))
theorem mF_s (cm : Nat → Int32) (v k : Nat) : mF cm v (k + 1) = mF cm v k ++ (if cm k = nI v then [k] else []) := by
  unfold mF
  rw [List.range_succ, List.filter_append, List.filter_cons]
  by_cases h : cm k = nI v
  · simp [h]
  · simp [h]
theorem layMatches_m {M : Mem} {cm fs ls pk : Nat → Int32} {nc cnt : Nat} {p : Int32} (hz : zC cm nc M) (hc : cnt ≤ 200) (hx : M 90 13 = nI cnt) (hp : mSt M 7 = p)
    (hA : ∀ e, e < cnt → M 100 e = fs e ∧ M 101 e = ls e ∧ M 103 e = pk e) :
    Ok (f_X9_layMatches M) (fun N => (∀ k, k < nc → N 105 k = (mRun fs ls pk cm p cnt (mL cm nc 301)).2.1 k) ∧ (∀ e, e < cnt → N 106 e = (mRun fs ls pk cm p cnt (mL cm nc 301)).1 e) ∧ Off (fun c => c = 105 ∨ c = 106) M N) := by
  obtain ⟨hnc, z411, hcm⟩ := hz
  unfold f_X9_layMatches
  refine Ok.bind (P := fun N => (∀ e, e < cnt → N 106 e = -1) ∧ Off (fun c => c = 105 ∨ c = 106) M N) ?_ ?_
  · refine loop_FU (fun i z => z.1 = nI i ∧ (∀ e, e < i → z.2 106 e = -1) ∧ Off (fun c => c = 105 ∨ c = 106) M z.2) _ cnt (by omega) ?_ ?_ ⟨rfl, fun e he => absurd he (Nat.not_lt_zero e), Off.rf⟩
    · rintro i ⟨j, N⟩ hi ⟨h1, h2, h3⟩
      dsimp only at h1 h2 h3
      subst h1
      unfold f_X9_layMatches_l2
      dsimp only
      refine Ok.neg (by rw [h3 90 (by omega), hx]; exact nI_ge hi (by omega)) ?_
      refine Ok.eqb (wr_nI (by omega) (by decide)) (Ok.of ⟨nI_1 i, fun e he => ?_, h3.set (by omega)⟩)
      dsimp only
      by_cases hei : e = i
      · subst hei
        rw [mset_s]
      · rw [mset_n hei]
        exact h2 e (by omega)
    · rintro ⟨j, N⟩ ⟨h1, h2, h3⟩
      dsimp only at h1 h2 h3
      subst h1
      unfold f_X9_layMatches_l2
      dsimp only
      exact Ok.pos (by rw [h3 90 (by omega), hx]; exact nI_le (Nat.le_refl _) (by omega)) (Ok.of ⟨h2, h3⟩)
  rintro M1 ⟨a1, a2⟩
  have hmem : ∀ k, k < nc → k ∈ mL cm nc 301 := fun k hk => by
    obtain ⟨w, hw, e⟩ := (hcm k hk).2
    exact mL_all hk e (by omega)
  refine Ok.bind (P := fun N => (∀ k, k ∈ mL cm nc 301 → N 105 k = (mRun fs ls pk cm p cnt (mL cm nc 301)).2.1 k) ∧ (∀ e, e < cnt → N 106 e = (mRun fs ls pk cm p cnt (mL cm nc 301)).1 e) ∧ Off (fun c => c = 105 ∨ c = 106) M N) ?_ (fun r h => Ok.of ⟨fun k hk => h.1 k (hmem k hk), h.2⟩)
  refine loop_FU (fun v z => z.1 = nI v ∧ (∀ k, k ∈ mL cm nc v → z.2 105 k = (mRun fs ls pk cm p cnt (mL cm nc v)).2.1 k) ∧ (∀ e, e < cnt → z.2 106 e = (mRun fs ls pk cm p cnt (mL cm nc v)).1 e) ∧ Off (fun c => c = 105 ∨ c = 106) M z.2) _ 301 (by omega) ?_ ?_ ⟨rfl, fun k hk => absurd hk List.not_mem_nil, fun e he => a1 e he, a2⟩
  · rintro v ⟨j, N⟩ hv ⟨h1, h2, h3, h4⟩
    dsimp only at h1 h2 h3 h4
    subst h1
    unfold f_X9_layMatches_l25
    dsimp only
    refine Ok.neg (fun q => by have := (n_lt (a := 300) (by decide) (by omega)).mp q; omega) ?_
    refine Ok.bind (P := fun N => (∀ k, k ∈ mL cm nc (v + 1) → N 105 k = (mRun fs ls pk cm p cnt (mL cm nc (v + 1))).2.1 k) ∧ (∀ e, e < cnt → N 106 e = (mRun fs ls pk cm p cnt (mL cm nc (v + 1))).1 e) ∧ Off (fun c => c = 105 ∨ c = 106) M N) ?_ (fun r h => Ok.of ⟨nI_1 v, h⟩)
    have eL : mL cm nc (v + 1) = mL cm nc v ++ mF cm v nc := rfl
    rw [eL]
    refine loop_FU (fun i z => z.1 = nI i ∧ (∀ k, k ∈ mL cm nc v ++ mF cm v i → z.2 105 k = (mRun fs ls pk cm p cnt (mL cm nc v ++ mF cm v i)).2.1 k) ∧ (∀ e, e < cnt → z.2 106 e = (mRun fs ls pk cm p cnt (mL cm nc v ++ mF cm v i)).1 e) ∧ Off (fun c => c = 105 ∨ c = 106) M z.2) _ nc (by omega) ?_ ?_ ?_
    · rintro i ⟨j, K⟩ hi ⟨g1, g2, g3, g4⟩
      dsimp only at g1 g2 g3 g4
      subst g1
      unfold f_X9_layMatches_l34
      dsimp only
      have e91 : K 91 = M 91 := g4 91 (by omega)
      refine Ok.eqb (show rd K 91 432 411 = some (K 91 411) from rd_nI (k := 411) (by decide) (by decide)) ?_
      refine Ok.neg (by rw [e91, z411]; exact nI_ge hi (by omega)) ?_
      refine Ok.eqb (show rd K 91 432 (412 + nI i) = some (K 91 (412 + i)) by rw [show (412 : Int32) + nI i = nI (412 + i) from nI_add 412 i]; exact rd_nI (by omega) (by decide)) ?_
      rw [e91, (hcm i hi).1, mF_s]
      unfold f_X9_layMatches_j93
      refine Ok.ite (fun c => ?_) (fun c => ?_)
      · rw [if_pos c]
        refine Ok.eqb (matchFor_m (cnt := cnt) (fs := fs) (ls := ls) (pk := pk) (co := (mRun fs ls pk cm p cnt (mL cm nc v ++ mF cm v i)).1) hc (by rw [g4 90 (by omega), hx]) (fun e he => by rw [g4 100 (by omega), g4 101 (by omega), g4 103 (by omega)]; exact hA e he) g3) ?_
        have eP : mSt K 7 = p := by
          rw [← hp]
          unfold mSt
          rw [e91]
        rw [eP]
        refine Ok.eqb (wr_nI (by omega) (by decide)) ?_
        refine Ok.eqb (rd_nI (by omega) (by decide)) ?_
        rw [mset_s, ← List.append_assoc, mRun_snoc]
        generalize mRun fs ls pk cm p cnt (mL cm nc v ++ mF cm v i) = S at g2 g3 ⊢
        rw [← c]
        have hle := sBst_le fs ls pk S.1 (cm i) p cnt
        unfold mStep
        generalize sBst fs ls pk S.1 (cm i) p cnt = b at hle ⊢
        have hq1 : ∀ (w : Int32) k, k ∈ mL cm nc v ++ mF cm v i ++ [i] → mset K 105 i w 105 k = upd S.2.1 i w k := fun w k hk => by
          rw [mset_r]
          by_cases hkc : k = i
          · rw [hkc, upd_s, upd_s]
          · rw [upd_n hkc, upd_n hkc]
            refine g2 k ?_
            rcases List.mem_append.mp hk with q | q
            · exact q
            · exact absurd (List.mem_singleton.mp q) hkc
        by_cases hb : b = 0
        · subst hb
          rw [if_pos rfl, show nI 0 - 1 = (-1 : Int32) from rfl]
          refine Ok.pos rfl (Ok.of ⟨nI_1 i, hq1 _, fun e he => ?_, g4.set (by omega)⟩)
          dsimp only
          rw [mset_o (by omega)]
          exact g3 e he
        · rw [if_neg hb, nI_p1 (by omega)]
          refine Ok.neg (fun q => ?_) ?_
          · have := congrArg Int32.toInt q
            rw [i_nI (by omega)] at this
            have em : (-1 : Int32).toInt = -1 := by decide
            omega
          refine Ok.eqb (rd_nI (by omega) (by decide)) ?_
          rw [mset_s]
          refine Ok.eqb (wr_nI (by omega) (by decide)) (Ok.of ⟨nI_1 i, fun k hk => ?_, fun e he => ?_, (g4.set (by omega)).set (by omega)⟩)
          · dsimp only
            rw [mset_o (by omega)]
            exact hq1 _ k hk
          · dsimp only
            rw [mset_r, mset_o (by omega)]
            exact ag_in g3 e he
      · rw [if_neg c, List.append_nil]
        exact Ok.of ⟨nI_1 i, g2, g3, g4⟩
    · rintro ⟨j, K⟩ ⟨g1, g2, g3, g4⟩
      dsimp only at g1 g2 g3 g4
      subst g1
      unfold f_X9_layMatches_l34
      dsimp only
      refine Ok.eqb (show rd K 91 432 411 = some (K 91 411) from rd_nI (k := 411) (by decide) (by decide)) ?_
      exact Ok.pos (by rw [g4 91 (by omega), z411]; exact nI_le (Nat.le_refl _) (by omega)) (Ok.of ⟨g2, g3, g4⟩)
    · refine ⟨rfl, ?_, ?_, h4⟩
      · rw [show mF cm v 0 = [] from rfl, List.append_nil]
        exact h2
      · rw [show mF cm v 0 = [] from rfl, List.append_nil]
        exact h3
  · rintro ⟨j, N⟩ ⟨h1, h2, h3, h4⟩
    dsimp only at h1 h2 h3 h4
    subst h1
    unfold f_X9_layMatches_l25
    dsimp only
    exact Ok.pos (by decide) (Ok.of ⟨h2, h3, h4⟩)
/-- nothing is told behind the last minute -/
def Zz (lv wd : Nat → Int32) (n : Nat) : Prop := ∀ m, n ≤ m → lv m = 0 ∧ wd m = 0
theorem xLv_0 {lv wd : Nat → Int32} {n : Nat} (h : Zz lv wd n) : xLv lv n 0 = lv := by
  funext m
  unfold xLv
  by_cases hm : m < n
  · rw [if_pos hm]
  · rw [if_neg hm, (h m (by omega)).1]
theorem xWd_0 {lv wd : Nat → Int32} {n : Nat} (h : Zz lv wd n) : xWd wd n = wd := by
  funext m
  unfold xWd
  by_cases hm : m < n
  · rw [if_pos hm]
  · rw [if_neg hm, (h m (by omega)).2]
/-- all that the model lays -/
def My (lv wd st cm : Nat → Int32) (n nc : Nat) (M : Mem) : Prop := Mx lv wd st n M ∧ (∀ k, k < nc → M 105 k = (dM lv wd st cm n nc).2.1 k) ∧ (∀ e, e < dC lv wd st n → M 106 e = (dM lv wd st cm n nc).1 e)
abbrev allC : Nat → Prop := fun c => c = 90 ∨ 94 ≤ c ∧ c ≤ 106
theorem lay0_m {M : Mem} {lv wd : Nat → Int32} {n : Nat} (hz : zM lv wd n M) (hZ : Zz lv wd n) (hst : stOK (mSt M)) :
    Ok (f_X9_lay 0 0 M) (fun M' => Mx lv wd (mSt M) n M' ∧ (∀ k, k ≠ 6 → k ≠ 13 → k ≠ 19 → M' 90 k = M 90 k) ∧ Off layC M M') := by
  have h := lay_m (more := 0) (loud := 0) hz (by have := hz.1; omega) hst
  rw [xLv_0 hZ, xWd_0 hZ] at h
  exact h
theorem layAll_m {M : Mem} {lv wd cm : Nat → Int32} {n nc : Nat} (hz : zM lv wd n M) (hc : zC cm nc M) (hZ : Zz lv wd n) (hst : stOK (mSt M)) :
    Ok (f_X9_layAll M) (fun M' => My lv wd (mSt M) cm n nc M' ∧ (∀ k, k ≠ 6 → k ≠ 13 → k ≠ 19 → M' 90 k = M 90 k) ∧ Off allC M M') := by
  unfold f_X9_layAll
  refine Ok.bind (lay0_m hz hZ hst) ?_
  rintro M1 ⟨⟨a1, a2, a3, a4, a5, a6⟩, b, c⟩
  have hle : 2 * dC lv wd (mSt M) n ≤ n + 1 := xCnt_le (g := gO (mSt M)) (av := dA lv wd (mSt M)) (gO_b hst).2.1 n
  have hn := hz.1
  have e91 : M1 91 = M 91 := c 91 (by omega)
  have hc1 : zC cm nc M1 := by unfold zC; rw [e91]; exact hc
  refine Ok.bind (layMatches_m (M := M1) (cm := cm) (nc := nc) (cnt := dC lv wd (mSt M) n) (p := mSt M 7) (fs := xFst (gO (mSt M)) (dA lv wd (mSt M)) n) (ls := xLst (gO (mSt M)) (dA lv wd (mSt M)) n) (pk := xPk (gO (mSt M)) (dA lv wd (mSt M)) (dF lv (mSt M)) n) hc1 (by omega) a3 (by unfold mSt; rw [e91]) (fun e he => ⟨(a4 e he).1, (a4 e he).2.1, (a4 e he).2.2.2.1⟩)) ?_
  rintro M2 ⟨d1, d2, d3⟩
  have e90 : M2 90 = M1 90 := d3 90 (by omega)
  refine Ok.of ⟨⟨⟨?_, fun m hm => ?_, ?_, xCel_off a4 (fun c hc hc2 => d3 c (by omega)), ?_, fun m hm => ?_⟩, ?_, ?_⟩, fun k g1 g2 g3 => by rw [e90]; exact b k g1 g2 g3, (c.mono (fun c hc => by omega)).tr (d3.mono (fun c hc => by omega))⟩
  · rw [e90]
    exact a1
  · rw [d3 96 (by omega), d3 97 (by omega), d3 98 (by omega), d3 94 (by omega), d3 95 (by omega)]
    exact a2 m hm
  · rw [e90]
    exact a3
  · rw [e90]
    exact a5
  · rw [d3 99 (by omega)]
    exact a6 m hm
  · unfold dM
    exact d1
  · unfold dM
    exact d2
