/-! class: the minutes of a view -/
/-- memory that agrees but for some cells -/
def Off (cs : Nat → Prop) (M M' : Mem) : Prop := ∀ c, ¬ cs c → M' c = M c
theorem Off.rf {cs : Nat → Prop} {M : Mem} : Off cs M M := fun _ _ => rfl
theorem Off.tr {cs : Nat → Prop} {M M' M'' : Mem} (h : Off cs M M') (h2 : Off cs M' M'') : Off cs M M'' := fun c hc => (h2 c hc).trans (h c hc)
theorem Off.set {cs : Nat → Prop} {M M' : Mem} {c k : Nat} {v : Int32} (h : Off cs M M') (hc : cs c) : Off cs M (mset M' c k v) := fun d hd => by
  rw [mset_o (fun q => hd (by rw [q]; exact hc))]
  exact h d hd
theorem Off.mono {cs ds : Nat → Prop} {M M' : Mem} (h : Off cs M M') (hd : ∀ c, cs c → ds c) : Off ds M M' := fun c hc => h c (fun q => hc (hd c q))
/-- the arms are moved -/
theorem moveArms_c {M : Mem} {u g n : Nat} (hn : n ≤ 200) (hM : M 1 4 = nI n) (hst : stOK (M g)) (hg : g < u ∨ u + 3 < g) (hu : 5 < u) :
    Ok (f_X4_moveArms u 1 g M) (fun M' => (∀ m, m < n → M' (u + 1) m = sArm (M 2) (M g 8) (m + 1) ∧ M' (u + 2) m = sArm (M 2) (M g 9) (m + 1)) ∧ M' u 3 = nI n ∧ (∀ k, k ≠ 3 → M' u k = M u k) ∧ Off (fun c => c = u ∨ c = u + 1 ∨ c = u + 2) M M') := by
  unfold f_X4_moveArms
  rw [stf_e]
  refine Ok.eqb rfl ?_
  refine Ok.bind (P := fun M' => (∀ m, m < n → M' (u + 1) m = sArm (M 2) (M g 8) (m + 1) ∧ M' (u + 2) m = sArm (M 2) (M g 9) (m + 1)) ∧ M' u = mset M u 3 (nI n) u ∧ Off (fun c => c = u ∨ c = u + 1 ∨ c = u + 2) M M') ?_ ?_
  · refine loop_FU (fun i z => z.1 = sArm (M 2) (M g 8) i ∧ z.2.1 = sArm (M 2) (M g 9) i ∧ z.2.2.1 = nI i ∧ (∀ m, m < i → z.2.2.2 (u + 1) m = sArm (M 2) (M g 8) (m + 1) ∧ z.2.2.2 (u + 2) m = sArm (M 2) (M g 9) (m + 1)) ∧ z.2.2.2 u = mset M u 3 (nI n) u ∧ Off (fun c => c = u ∨ c = u + 1 ∨ c = u + 2) M z.2.2.2) _ n (by omega) ?_ ?_ ?_
    · rintro i ⟨f, s, j, N⟩ hi ⟨h1, h2, h3, h4, h5, h6⟩
      dsimp only at h1 h2 h3 h4 h5 h6
      subst h1; subst h2; subst h3
      unfold f_X4_moveArms_l16
      dsimp only
      have e3 : N u 3 = nI n := by rw [h5, mset_s]
      have eL : N 2 = M 2 := h6 2 (by omega)
      have eG : N g = M g := h6 g (by omega)
      refine Ok.neg (by rw [e3]; exact nI_ge hi (by omega)) ?_
      refine Ok.eqb (rd_nI (by omega) (by decide)) ?_
      refine Ok.eqb (show rd N g 10 8 = some (N g 8) from rd_nI (k := 8) (by decide) (by decide)) ?_
      refine Ok.eqb (moved_c (by rw [eG]; exact hst.2.2.2.2.2.2.2.2.1.1)) ?_
      refine Ok.eqb (rd_nI (by omega) (by decide)) ?_
      refine Ok.eqb (show rd N g 10 9 = some (N g 9) from rd_nI (k := 9) (by decide) (by decide)) ?_
      refine Ok.eqb (moved_c (by rw [eG]; exact hst.2.2.2.2.2.2.2.2.2.1)) ?_
      refine Ok.eqb (wr_nI (by omega) (by decide)) ?_
      refine Ok.eqb (wr_nI (by omega) (by decide)) ?_
      refine Ok.of ?_
      rw [show 1 + 1 = 2 from rfl, eL, eG]
      refine ⟨rfl, rfl, nI_1 i, fun m hm => ?_, ?_, ?_⟩
      · show mset (mset N (u + 1) i _) (u + 2) i _ (u + 1) m = _ ∧ mset (mset N (u + 1) i _) (u + 2) i _ (u + 2) m = _
        rw [mset_o (c' := u + 1) (by omega)]
        by_cases hmi : m = i
        · subst hmi
          rw [mset_s, mset_s]
          exact ⟨rfl, rfl⟩
        · rw [mset_n hmi, mset_n hmi, mset_o (c' := u + 2) (by omega)]
          exact h4 m (by omega)
      · show mset (mset N (u + 1) i _) (u + 2) i _ u = _
        rw [mset_o (by omega), mset_o (by omega)]
        exact h5
      · exact (h6.set (Or.inr (Or.inl rfl))).set (Or.inr (Or.inr rfl))
    · rintro ⟨f, s, j, N⟩ ⟨h1, h2, h3, h4, h5, h6⟩
      dsimp only at h1 h2 h3 h4 h5 h6
      subst h3
      unfold f_X4_moveArms_l16
      dsimp only
      refine Ok.pos (by rw [show N u 3 = nI n by rw [h5, mset_s]]; exact nI_le (Nat.le_refl _) (by omega)) (Ok.of ?_)
      exact ⟨h4, h5, h6⟩
    · refine ⟨rfl, rfl, rfl, fun m hm => absurd hm (Nat.not_lt_zero m), ?_, ?_⟩
      · show mset M u 3 (M 1 4) u = _
        rw [hM]
      · exact Off.rf.set (Or.inl rfl)
  · rintro M' ⟨h1, h2, h3⟩
    exact Ok.of ⟨h1, by rw [h2, mset_s], fun k hk => by rw [h2, mset_n hk], h3⟩
theorem soon_c {M : Mem} {u i s : Nat} {cal : Int32} (hs : M u 7 = nI s - 1) (hsi : s ≤ i) (hi : i ≤ 1000) (hc : 0 ≤ cal.toInt ∧ cal.toInt ≤ 20) :
    f_X4_isSoonAfterWind u (nI i) cal M = some (if 0 < s ∧ i + 1 ≤ s + cal.toInt.toNat then 1 else 0) := by
  unfold f_X4_isSoonAfterWind
  rw [hs]
  have e1 : (nI s - 1).toInt = (s : Int) - 1 := pk_sub_toInt (a := s) (b := 1) (by omega) (by decide)
  have em : (-1 : Int32).toInt = -1 := by decide
  by_cases h0 : s = 0
  · subst h0
    rw [if_pos (by rfl), if_neg (by omega)]
  · rw [if_neg (fun q => by have := congrArg Int32.toInt q; rw [e1, em] at this; omega)]
    have e2 : (nI i - (nI s - 1)).toInt = (i : Int) - s + 1 := by
      rw [i_sub] <;> rw [i_nI (by omega), e1] <;> omega
    by_cases h : i + 1 ≤ s + cal.toInt.toNat
    · rw [if_neg (fun q => by have := i_lt.mp q; omega), if_pos ⟨by omega, h⟩]
    · rw [if_pos (i_lt.mpr (by omega)), if_neg (by omega)]
/-- each minute is judged -/
theorem judge_c {M : Mem} {u g n : Nat} (hn : n ≤ 200) (hu3 : M u 3 = nI n) (hst : stOK (M g)) (hg : g < u ∨ u + 3 < g) (hu : 5 < u) (hs : ∀ m, m < n → M (u + 2) m = sArm (M 2) (M g 9) (m + 1)) :
    Ok (f_X4_judge u 1 g M) (fun M' => (∀ m, m < n → M' (u + 3) m = sWhy (M 2) (M 3) (M g) m) ∧ M' u 7 = nI (sLw (M 3) (M g) n) - 1 ∧ (∀ k, k ≠ 7 → M' u k = M u k) ∧ Off (fun c => c = u ∨ c = u + 3) M M') := by
  unfold f_X4_judge
  rw [stf_e]
  refine Ok.eqb rfl ?_
  refine Ok.bind (P := fun M' => (∀ m, m < n → M' (u + 3) m = sWhy (M 2) (M 3) (M g) m) ∧ M' u 7 = nI (sLw (M 3) (M g) n) - 1 ∧ (∀ k, k ≠ 7 → M' u k = M u k) ∧ Off (fun c => c = u ∨ c = u + 3) M M') ?_ (fun M' h => Ok.of h)
  refine loop_FU (fun i z => z.1 = nI i ∧ (∀ m, m < i → z.2 (u + 3) m = sWhy (M 2) (M 3) (M g) m) ∧ z.2 u 7 = nI (sLw (M 3) (M g) i) - 1 ∧ (∀ k, k ≠ 7 → z.2 u k = M u k) ∧ Off (fun c => c = u ∨ c = u + 3) M z.2) _ n (by omega) ?_ ?_ ?_
  · rintro i ⟨j, N⟩ hi ⟨h1, h2, h3, h4, h5⟩
    dsimp only at h1 h2 h3 h4 h5
    subst h1
    unfold f_X4_judge_l7
    dsimp only
    have e3 : N u 3 = nI n := by rw [h4 3 (by decide), hu3]
    have eW : N 3 = M 3 := h5 3 (by omega)
    have eG : N g = M g := h5 g (by omega)
    have eS : N (u + 2) = M (u + 2) := h5 (u + 2) (by omega)
    have hlw := sLw_le (M 3) (M g) i
    have key : ∀ (N' : Mem) (x : Int32), x = sWhy (M 2) (M 3) (M g) i → N' (u + 3) = upd (N (u + 3)) i x → N' u 7 = nI (sLw (M 3) (M g) (i + 1)) - 1 → (∀ k, k ≠ 7 → N' u k = N u k) → Off (fun c => c = u ∨ c = u + 3) M N' →
        Ok (f_X4_judge_j103 u 1 g (nI i) N') (fun o => Sum.elim (fun z => z.1 = nI (i + 1) ∧ (∀ m, m < i + 1 → z.2 (u + 3) m = sWhy (M 2) (M 3) (M g) m) ∧ z.2 u 7 = nI (sLw (M 3) (M g) (i + 1)) - 1 ∧ (∀ k, k ≠ 7 → z.2 u k = M u k) ∧ Off (fun c => c = u ∨ c = u + 3) M z.2) (fun M' => (∀ m, m < n → M' (u + 3) m = sWhy (M 2) (M 3) (M g) m) ∧ M' u 7 = nI (sLw (M 3) (M g) n) - 1 ∧ (∀ k, k ≠ 7 → M' u k = M u k) ∧ Off (fun c => c = u ∨ c = u + 3) M M') o) := by
      intro N' x hx g1 g2 g3 g4
      unfold f_X4_judge_j103
      refine Ok.of ⟨nI_1 i, fun m hm => ?_, g2, fun k hk => (g3 k hk).trans (h4 k hk), g4⟩
      show N' (u + 3) m = _
      rw [g1]
      by_cases hmi : m = i
      · subst hmi
        rw [upd_s, hx]
      · rw [upd_n hmi]
        exact h2 m (by omega)
    refine Ok.neg (by rw [e3]; exact nI_ge hi (by omega)) ?_
    refine Ok.eqb (rd_nI (by omega) (by decide)) ?_
    refine Ok.eqb (show rd N g 10 4 = some (N g 4) from rd_nI (k := 4) (by decide) (by decide)) ?_
    rw [show 1 + 2 = 3 from rfl, eW, eG]
    refine Ok.ite (fun c => ?_) (fun c => ?_)
    · have hno : ¬ M g 4 ≤ M 3 i := fun q => by have a1 := i_le.mp q; have a2 := i_lt.mp c; omega
      have hL : sLw (M 3) (M g) (i + 1) = sLw (M 3) (M g) i := by
        show (if M g 4 ≤ M 3 i then i + 1 else sLw (M 3) (M g) i) = _
        rw [if_neg hno]
      refine Ok.eqb (show rd N g 10 5 = some (N g 5) from rd_nI (k := 5) (by decide) (by decide)) ?_
      rw [eG]
      refine Ok.eqb (soon_c h3 hlw (by omega) hst.2.2.2.2.2.1) ?_
      by_cases hb : 0 < sLw (M 3) (M g) i ∧ i + 1 ≤ sLw (M 3) (M g) i + (M g 5).toInt.toNat
      · rw [if_pos hb]
        refine Ok.neg (by decide) ?_
        refine Ok.eqb (wr_nI (by omega) (by decide)) ?_
        refine key _ 2 ?_ mset_r ?_ (fun k _ => by rw [mset_o (by omega)]) (h5.set (Or.inr rfl))
        · unfold sWhy
          rw [if_neg hno, if_pos hb]
        · rw [mset_o (by omega), hL]
          exact h3
      · rw [if_neg hb]
        refine Ok.pos rfl ?_
        refine Ok.eqb (rd_nI (by omega) (by decide)) ?_
        refine Ok.eqb (limitAt_c (by rw [eG]; exact hst) (by omega)) ?_
        rw [eG, eS, hs i hi]
        unfold f_X4_judge_j85 f_X4_judge_j102
        refine Ok.ite (fun c2 => ?_) (fun c2 => ?_)
        · refine Ok.pos rfl ?_
          refine Ok.eqb (wr_nI (by omega) (by decide)) ?_
          refine key _ 3 ?_ mset_r ?_ (fun k _ => by rw [mset_o (by omega)]) (h5.set (Or.inr rfl))
          · unfold sWhy
            rw [if_neg hno, if_neg hb, if_pos c2]
          · rw [mset_o (by omega), hL]
            exact h3
        · refine Ok.neg (by decide) ?_
          refine Ok.eqb (wr_nI (by omega) (by decide)) ?_
          refine key _ 0 ?_ mset_r ?_ (fun k _ => by rw [mset_o (by omega)]) (h5.set (Or.inr rfl))
          · unfold sWhy
            rw [if_neg hno, if_neg hb, if_neg c2]
          · rw [mset_o (by omega), hL]
            exact h3
    · have hyes : M g 4 ≤ M 3 i := by
        refine i_le.mpr ?_
        have : ¬ (M 3 i).toInt < (M g 4).toInt := fun q => c (i_lt.mpr q)
        omega
      refine Ok.eqb (wr_nI (by omega) (by decide)) ?_
      rw [stf_e]
      refine Ok.eqb rfl ?_
      refine key _ 1 ?_ ?_ ?_ (fun k hk => ?_) ((h5.set (Or.inr rfl)).set (Or.inl rfl))
      · unfold sWhy
        rw [if_pos hyes]
      · rw [mset_o (by omega), mset_r]
      · rw [mset_s]
        show nI i = nI (if M g 4 ≤ M 3 i then i + 1 else sLw (M 3) (M g) i) - 1
        rw [if_pos hyes, nI_pred]
      · rw [mset_n hk, mset_o (by omega)]
  · rintro ⟨j, N⟩ ⟨h1, h2, h3, h4, h5⟩
    dsimp only at h1 h2 h3 h4 h5
    subst h1
    unfold f_X4_judge_l7
    dsimp only
    refine Ok.pos (by rw [h4 3 (by decide), hu3]; exact nI_le (Nat.le_refl _) (by omega)) (Ok.of ?_)
    exact ⟨h2, h3, h4, h5⟩
  · refine ⟨rfl, fun m hm => absurd hm (Nat.not_lt_zero m), ?_, fun k hk => mset_n hk, Off.rf.set (Or.inl rfl)⟩
    show mset M u 7 (-1) u 7 = nI 0 - 1
    rw [mset_s]
    rfl
