/-! ahead, whole -/
theorem wild_l {lv wd st : Nat → Int32} {n : Nat} {a b : Int32} {M : Mem} (hz : Lz lv wd st n M) : loopN (f_L_ahead_l284 a b M) FU ((-100), 0) = some (wv (sLw wd st n)) := by
  obtain ⟨hn, hd, hm, hg⟩ := hz
  have key : Ok (loopN (f_L_ahead_l284 a b M) FU ((-100), 0)) (fun r => r = wv (sLw wd st n)) := by
    refine loop_FU (fun i z => z.1 = wv (sLw wd st i) ∧ z.2 = nI i) _ n (by omega) ?_ ?_ ⟨rfl, rfl⟩
    · rintro i ⟨x, y⟩ hi ⟨h1, h2⟩
      dsimp only at h1 h2
      subst h1; subst h2
      unfold f_L_ahead_l284 f_L_ahead_j312
      dsimp only
      refine Ok.eqb r930 ?_
      rw [hd]
      refine Ok.neg (nI_ge hi (by omega)) (Ok.eqb (rd_nI (by omega) (by decide)) ?_)
      refine Ok.eqb (show rd M 94 10 4 = some (M 94 4) from rd_nI (k := 4) (by decide) (by decide)) ?_
      rw [(hm i hi).2, hg 4 (by decide)]
      refine Ok.ite (fun c => Ok.of ⟨?_, nI_1 i⟩) (fun c => Ok.of ⟨?_, nI_1 i⟩)
      · show wv (sLw wd st i) = wv (if st 4 ≤ wd i then i + 1 else sLw wd st i)
        rw [if_neg (n_le' c)]
      · show nI i = wv (if st 4 ≤ wd i then i + 1 else sLw wd st i)
        rw [if_pos (le_n c)]
        unfold wv
        rw [if_neg (by omega), Nat.add_sub_cancel]
    · rintro ⟨x, y⟩ ⟨h1, h2⟩
      dsimp only at h1 h2
      subst h2
      unfold f_L_ahead_l284
      dsimp only
      refine Ok.eqb r930 ?_
      rw [hd]
      exact Ok.pos (nI_le (Nat.le_refl _) (by omega)) (Ok.of h1)
  obtain ⟨r, h1, h2⟩ := key
  rw [h1, h2]
abbrev qA (lv wd st : Nat → Int32) (n : Nat) (loud : Int32) : Nat → Bool := fun k => dA (xLv lv n loud) (xWd wd n) st (n + k)
theorem until_l {lv wd st : Nat → Int32} {n : Nat} {loud : Int32} {M : Mem} (hz : Lz lv wd st n M) (hst : stOK st) :
    loopN (f_L_ahead_l326 loud (wv (sLw wd st n)) M) FU (sArm lv (st 9) n, (-1), 1) = some (sAbv lv wd st n loud) := by
  obtain ⟨hn, hd, hm, hg⟩ := hz
  have hst0 := stOK_cong hg.sy hst
  have hlw := sLw_le wd st n
  have ea : sArm (xLv lv n loud) (st 9) n = sArm lv (st 9) n := arm_cong (fun m hm => by unfold xLv; rw [if_pos hm])
  rw [← ea]
  have hres : ∀ i, fI (qA lv wd st n loud) i ≠ 0 → i ≤ 100 → sAbv lv wd st n loud = nI (fI (qA lv wd st n loud) i) := by
    intro i h1 h2
    unfold sAbv
    have := fI_st h1 (100 - i)
    rw [show i + (100 - i) = 100 by omega] at this
    rw [if_neg (by rw [this]; exact h1), this]
  have key : Ok (loopN (f_L_ahead_l326 loud (wv (sLw wd st n)) M) FU (sArm (xLv lv n loud) (st 9) n, (-1), 1)) (fun r => r = sAbv lv wd st n loud) := by
    refine loop_FU (fun i z => (z.2.1 = -1 ∧ fI (qA lv wd st n loud) i = 0 ∧ z.1 = sArm (xLv lv n loud) (st 9) (n + i) ∧ z.2.2 = nI (i + 1) ∧ i ≤ 100) ∨ (0 ≤ z.2.1 ∧ z.2.1 = sAbv lv wd st n loud)) _ 101 (by omega) ?_ ?_ (Or.inl ⟨rfl, rfl, rfl, rfl, by decide⟩)
    · rintro i ⟨pl, fi, y⟩ hi (⟨q1, q2, q3, q4, q5⟩ | ⟨q1, q2⟩)
      · dsimp only at q1 q2 q3 q4
        subst q1; subst q3; subst q4
        unfold f_L_ahead_l326 f_L_ahead_j399
        dsimp only
        by_cases h100 : i = 100
        · subst h100
          refine Ok.pos (by decide) (Ok.of ?_)
          show -1 = sAbv lv wd st n loud
          unfold sAbv
          rw [if_pos q2]
        · refine Ok.neg (fun q => by have := (n_lt (a := 100) (by decide) (by omega)).mp q; omega) (Ok.neg (by decide) ?_)
          refine Ok.eqb r930 ?_
          refine Ok.eqb (show rd M 94 10 9 = some (M 94 9) from rd_nI (k := 9) (by decide) (by decide)) ?_
          rw [hd, hg 9 (by decide)]
          refine Ok.eqb (dvI_t hst.2.2.2.2.2.2.2.2.2.1) ?_
          refine Ok.eqb (show rd M 94 10 5 = some (M 94 5) from rd_nI (k := 5) (by decide) (by decide)) ?_
          rw [hg 5 (by decide), nI_add, show n + (i + 1) = (n + i) + 1 by omega, nI_pred]
          have hpl : sArm (xLv lv n loud) (st 9) (n + i) + (10 * loud - sArm (xLv lv n loud) (st 9) (n + i)) / st 9 = sArm (xLv lv n loud) (st 9) (n + i + 1) := by
            show _ = sArm (xLv lv n loud) (st 9) (n + i) + (10 * xLv lv n loud (n + i) - sArm (xLv lv n loud) (st 9) (n + i)) / st 9
            rw [show xLv lv n loud (n + i) = loud by unfold xLv; rw [if_neg (by omega)]]
          rw [hpl]
          have hnw : ¬ st 4 ≤ xWd wd n (n + i) := by
            unfold xWd
            rw [if_neg (by omega)]
            intro q
            have := i_le.mp q
            have h4 := hst.2.2.2.2.1
            have e0 : (0 : Int32).toInt = 0 := rfl
            omega
          have hq := why0 (lv := xLv lv n loud) (wd := xWd wd n) (st := st) (m := n + i)
          rw [xLw hst, decide_eq_true hnw, Bool.true_and] at hq
          have hwv := wv_le (i := n + i) (show sLw wd st n ≤ n + i by omega) (by omega) hst.2.2.2.2.2.1
          refine Ok.ite (fun c => Ok.of ?_) (fun c => ?_)
          · have hs : 0 < sLw wd st n ∧ n + i + 1 ≤ sLw wd st n + (st 5).toInt.toNat := Classical.byContradiction fun z => n_lt' c (hwv.mpr z)
            rw [decide_eq_false (not_not_intro hs), Bool.false_and] at hq
            exact Or.inl ⟨rfl, fI_miss q2 hq, rfl, nI_1 _, by omega⟩
          · have hs := hwv.mp (lt_n c)
            rw [decide_eq_true hs, Bool.true_and] at hq
            refine Ok.eqb (limit_l hst0 (by omega)) ?_
            rw [sLim_cong hg]
            refine Ok.ite (fun c2 => Ok.of (Or.inl ⟨rfl, fI_miss q2 (hq.trans (decide_eq_false (not_not_intro c2))), rfl, nI_1 _, by omega⟩)) (fun c2 => Ok.of (Or.inr ?_))
            have hh : fI (qA lv wd st n loud) (i + 1) = i + 1 := fI_hit q2 (hq.trans (decide_eq_true c2)) (Nat.lt_succ_self i)
            have := hres (i + 1) (by rw [hh]; omega) (by omega)
            rw [hh] at this
            exact ⟨le_n (nI_pos (by omega)), this.symm⟩
      · dsimp only at q1 q2
        unfold f_L_ahead_l326
        dsimp only
        exact Ok.ite (fun _ => Ok.of q2) (fun _ => Ok.pos q1 (Ok.of q2))
    · rintro ⟨pl, fi, y⟩ (⟨q1, q2, q3, q4, q5⟩ | ⟨q1, q2⟩)
      · omega
      · dsimp only at q1 q2
        unfold f_L_ahead_l326
        dsimp only
        exact Ok.ite (fun _ => Ok.of q2) (fun _ => Ok.pos q1 (Ok.of q2))
  obtain ⟨r, h1, h2⟩ := key
  rw [h1, h2]
theorem ahead_l {d : Dt} {D : Nat → Dt} {next kept : Nat} {M : Mem} (x y : Int32) (h : Cr d D next kept M) (hz : LzD d M) (hc : LcD d M) : Ok (f_L_ahead x y M) (fun r => r.1 = 1 ∧ Cr d D next kept r.2 ∧ LzD d r.2 ∧ LcD d r.2) := by
  have hv := h.1
  have hst := h.1.2.2.2.2.1
  have hn := hz.1
  unfold f_L_ahead f_L_ahead_j24
  have o0 : Off (fun c => 95 ≤ c) M (rset (rset (rset (rset M 95 (fun _ => 0)) 96 (fun _ => 0)) 97 (fun _ => 0)) 98 (fun _ => 0)) :=
    (((Off.rf.rset (by omega)).rset (by omega)).rset (by omega)).rset (by omega)
  generalize rset (rset (rset (rset M 95 (fun _ => 0)) 96 (fun _ => 0)) 97 (fun _ => 0)) 98 (fun _ => 0) = M0 at o0 ⊢
  have hz0 : LzD d M0 := Lz_off hz (fun c a b => o0 c (by omega))
  have hc0 : LcD d M0 := Lc_off hc (fun c a b => o0 c (by omega))
  have h0 : Cr d D next kept M0 := Cr_off h (fun c hc => o0 c (by omega))
  obtain ⟨k, hk, ek⟩ := ats x (n := 10) (by decide) (by decide)
  obtain ⟨w, hw, ew⟩ := ats (x >>> (4 &&& 31)) (n := 10) (by decide) (by decide)
  obtain ⟨v, hsv, ev⟩ := value_l y hk
  refine Ok.eqb (ek M0) (Ok.eqb (ew M0) (Ok.eqb (rd_nI (by omega) (by decide)) (Ok.eqb (ev M0) (Ok.eqb (wr_nI (by omega) (by decide)) ?_))))
  rw [hz0.2.2.2 k hk]
  have hz1 : Lz d.1 d.2.1 (upd d.2.2.2.1 k (nI v)) d.2.2.2.2.1 (mset M0 94 k (nI v)) := Lz_set hn hz0.2.1 hz0.2.2.1 (fun j hj _ => hz0.2.2.2 j hj)
  have hst1 : stOK (upd d.2.2.2.1 k (nI v)) := stOK_upd hst hk hsv
  have hc1 : LcD d (mset M0 94 k (nI v)) := Lc_off hc0 (fun c a b => mset_o (by omega))
  have o1 : Off (fun c => 94 ≤ c) M0 (mset M0 94 k (nI v)) := Off.rf.set (by omega)
  have j1 : ∀ j, j < 10 → j ≠ k → mset M0 94 k (nI v) 94 j = d.2.2.2.1 j := fun j hj hjk => by
    rw [mset_n hjk]
    exact hz0.2.2.2 j hj
  generalize mset M0 94 k (nI v) = M1 at hz1 hc1 o1 j1 ⊢
  refine Ok.bind (lay_l hz1 hst1) ?_
  rintro M2 ⟨hL2, o2⟩
  have hz2 : Lz d.1 d.2.1 (upd d.2.2.2.1 k (nI v)) d.2.2.2.2.1 M2 := Lz_off hz1 (fun c a b => o2 c (by show ¬ (95 ≤ c ∧ _); omega))
  have hc2 : LcD d M2 := Lc_off hc1 (fun c a b => o2 c (by show ¬ (95 ≤ c ∧ _); omega))
  refine Ok.bind (counted_l (g0 := 99) (a := w) hz2 hst1 hL2 hc2 (by decide) (by omega)) ?_
  rintro ⟨r7, M3⟩ ⟨e7, o3⟩
  dsimp only at e7 o3
  subst e7
  dsimp only
  have o13 : Off (fun c => 95 ≤ c) M1 M3 := (o2.mono (fun c hc => hc.1)).tr (o3.mono (fun c hc => by rw [hc]; decide))
  refine Ok.eqb (wr_nI (by omega) (by decide)) ?_
  -- the setting is put back
  have j4 : ∀ j, j < 10 → mset M3 94 k (d.2.2.2.1 k) 94 j = d.2.2.2.1 j := fun j hj => by
    by_cases hjk : j = k
    · rw [hjk, mset_s]
    · rw [mset_n hjk, o13 94 (by omega)]
      exact j1 j hj hjk
  have o4 : Off (fun c => 94 ≤ c) M0 (mset M3 94 k (d.2.2.2.1 k)) := (o1.tr (o13.mono (fun c hc => by omega))).set (by omega)
  generalize mset M3 94 k (d.2.2.2.1 k) = M4 at j4 o4 ⊢
  have h4 : Cr d D next kept M4 := Cr_off h0 (fun c hc => o4 c (by omega))
  refine Ok.bind (ifSet_a h4 hk hsv (show w ≤ 9 by omega)) ?_
  rintro ⟨r9, M5⟩ ⟨e9, o5⟩
  dsimp only at e9 o5
  subst e9
  dsimp only
  refine Ok.pos rfl ?_
  have h5 : Cr d D next kept M5 := Cr_off h4 (fun c hc => o5 c (by omega))
  have hz5 : LzD d M5 := by
    refine ⟨hn, ?_, ?_, fun j hj => ?_⟩
    · rw [o5 93 (by omega), o4 93 (by omega)]
      exact hz0.2.1
    · rw [o5 90 (by omega), o5 91 (by omega), o4 90 (by omega), o4 91 (by omega)]
      exact hz0.2.2.1
    · rw [o5 94 (by omega)]
      exact j4 j hj
  have hc5 : LcD d M5 := Lc_off hc0 (fun c a b => by rw [o5 c (by omega), o4 c (by omega)])
  obtain ⟨ms, hms, ems⟩ := ats (y >>> (5 &&& 31)) (n := 4) (by decide) (by decide)
  refine Ok.eqb (ems M5) ?_
  refine Ok.eqb (show rd M5 94 10 0 = some (M5 94 0) from rd_nI (k := 0) (by decide) (by decide)) ?_
  rw [hz5.2.2.2 0 (by decide)]
  refine Ok.bind (limits_l hv hz5) ?_
  rintro ⟨r8, M6⟩ ⟨e8, j6, o6⟩
  dsimp only at e8 j6 o6
  subst e8
  dsimp only
  unfold f_L_ahead_j206
  refine Ok.eqb (show wr M6 94 10 0 (d.2.2.2.1 0) = some (mset M6 94 0 (d.2.2.2.1 0)) from wr_nI (k := 0) (by decide) (by decide)) ?_
  have hz7 : LzD d (mset M6 94 0 (d.2.2.2.1 0)) := by
    have := Lz_set (k := 0) (v := d.2.2.2.1 0) (M := M6) (st := d.2.2.2.1) hn (by rw [o6 93 (by omega)]; exact hz5.2.1) (by rw [o6 90 (by omega), o6 91 (by omega)]; exact hz5.2.2.1) j6
    rw [upd_same] at this
    exact this
  have o7 : Off (fun c => 94 ≤ c ∧ c ≤ 98) M5 (mset M6 94 0 (d.2.2.2.1 0)) := o6.set (by omega)
  generalize mset M6 94 0 (d.2.2.2.1 0) = M7 at hz7 o7 ⊢
  have h7 : Cr d D next kept M7 := Cr_off h5 (fun c hc => o7 c (by omega))
  have hc7 : LcD d M7 := Lc_off hc5 (fun c a b => o7 c (by omega))
  refine Ok.eqb (least_a h7 (by omega)) (Ok.pos rfl ?_)
  refine Ok.bind (lay_l hz7 hst) ?_
  rintro M8 ⟨hL8, o8⟩
  have hz8 : LzD d M8 := Lz_off hz7 (fun c a b => o8 c (by show ¬ (95 ≤ c ∧ _); omega))
  have hc8 : LcD d M8 := Lc_off hc7 (fun c a b => o8 c (by show ¬ (95 ≤ c ∧ _); omega))
  have h8 : Cr d D next kept M8 := Cr_off h7 (fun c hc => o8 c (by show ¬ (95 ≤ c ∧ _); omega))
  obtain ⟨lv, hlv, elv⟩ := ats (x >>> (7 &&& 31)) (n := 141) (by decide) (by decide)
  refine Ok.eqb (elv M8) (Ok.eqb r930 ?_)
  rw [hz8.2.1]
  have fin : ∀ s0 : Int32, s0 = sArm d.1 (d.2.2.2.1 9) d.2.2.2.2.1 → Ok (f_L_ahead_j275 (nI lv) s0 M8) (fun r => r.1 = 1 ∧ Cr d D next kept r.2 ∧ LzD d r.2 ∧ LcD d r.2) := by
    intro s0 hs0
    subst hs0
    unfold f_L_ahead_j275 f_L_ahead_j320 f_L_ahead_j405
    refine Ok.eqb (wild_l hz8) (Ok.eqb (until_l hz8 hst) (Ok.eqb (above_a h8 (by omega)) (Ok.pos rfl (Ok.of ⟨rfl, h8, hz8, hc8⟩))))
  by_cases hn0 : d.2.2.2.2.1 = 0
  · refine Ok.pos (by rw [hn0]; rfl) (fin 0 ?_)
    rw [hn0]
    rfl
  · refine Ok.neg (nI_ne0 (by omega) (by omega)) (Ok.eqb r930 ?_)
    rw [hz8.2.1, nI_p1 (by omega)]
    refine Ok.eqb (rd_nI (by omega) (by decide)) (fin _ ?_)
    rw [(hL8 (d.2.2.2.2.1 - 1) (by omega)).2.1]
    unfold dS
    rw [show d.2.2.2.2.1 - 1 + 1 = d.2.2.2.2.1 by omega]
