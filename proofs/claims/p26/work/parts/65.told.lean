/-! told: the law's own post and the class agree -/
abbrev LzD (d : Dt) (M : Mem) : Prop := Lz d.1 d.2.1 d.2.2.2.1 d.2.2.2.2.1 M
abbrev LcD (d : Dt) (M : Mem) : Prop := Lc d.2.2.1 d.2.2.2.2.2 M
abbrev LdD (d : Dt) (M : Mem) : Prop := Ld d.1 d.2.1 d.2.2.2.1 d.2.2.2.2.1 M
abbrev dMD (d : Dt) : MS := dM d.1 d.2.1 d.2.2.2.1 d.2.2.1 d.2.2.2.2.1 d.2.2.2.2.2
abbrev dgO (d : Dt) : Nat := gO d.2.2.2.1
abbrev ddA (d : Dt) : Nat → Bool := dA d.1 d.2.1 d.2.2.2.1
theorem eP5 (d : Dt) (e : Nat) : eP d e 5 = (dMD d).1 e := by
  unfold eP dMD
  generalize dM d.1 d.2.1 d.2.2.2.1 d.2.2.1 d.2.2.2.2.1 d.2.2.2.2.2 = S
  rfl
theorem cP1 (d : Dt) (k : Nat) : cP d k 1 = (dMD d).2.1 k := by
  unfold cP dMD
  generalize dM d.1 d.2.1 d.2.2.2.1 d.2.2.1 d.2.2.2.2.1 d.2.2.2.2.2 = S
  rfl
/-- class, law's post, what is laid, what is matched -/
def TL (d : Dt) (D : Nat → Dt) (next kept : Nat) (M : Mem) : Prop := Cr d D next kept M ∧ LzD d M ∧ LcD d M ∧ LdD d M ∧ ∀ k, k < d.2.2.2.2.2 → M 99 k = bm (eF d.1 d.2.1 d.2.2.2.1 d.2.2.2.2.1) ((dMD d).2.1 k)
theorem TL_B {d : Dt} {D : Nat → Dt} {next kept : Nat} {M : Mem} (h : TL d D next kept M) : Bm (dgO d) (ddA d) d.2.2.2.2.1 M := Ld_Bm h.2.1 h.1.1.2.2.2.2.1 h.2.2.2.1
theorem TL_mi {d : Dt} {D : Nat → Dt} {next kept : Nat} {M : Mem} (h : TL d D next kept M) : MI (dCn d) d.2.2.2.2.2 (fun k => k < d.2.2.2.2.2) (dMD d) ∧ M5 (dCn d) d.2.2.2.2.2 (dMD d) := by
  have hB := TL_B h
  have hn := hB.1
  have hnc := h.2.2.1.1
  exact ⟨dM_ex (by omega) hB.2.1 (by omega) (fun k hk => (h.2.2.1.2.2 k hk).2), dM_5 (by omega) hB.2.1 (by omega)⟩
/-- the complaint of the exceedance that begins at m, as the law looks for it -/
theorem look_l {d : Dt} {D : Nat → Dt} {next kept m : Nat} {v1 v13 : Int32} {M : Mem} (h : TL d D next kept M) (hm : m < d.2.2.2.2.1) (hb : xBg (dgO d) (ddA d) m = true) :
    loopN (f_L_told_l257 v1 (nI m) v13 M) FU ((-1), 0) = some ((dMD d).1 (xCnt (dgO d) (ddA d) m)) := by
  have hB := TL_B h
  obtain ⟨hmi, hm5⟩ := TL_mi h
  have hn := hB.1
  have hg := hB.2.1
  obtain ⟨hCr, hz, hc, hL, hma⟩ := h
  have hnc := hc.1
  have hd1 := hc.2.1
  have hCn := xCnt_le (av := ddA d) hg d.2.2.2.2.1
  have hdc : dCn d = xCnt (dgO d) (ddA d) d.2.2.2.2.1 := rfl
  have hE := xCnt_lt hb hm
  have hfm := x_firstn hg hb hm
  obtain ⟨e, he⟩ : ∃ e, e = xCnt (dgO d) (ddA d) m := ⟨_, rfl⟩
  rw [← he] at hE hfm ⊢
  have hq : ∀ k, k < d.2.2.2.2.2 → (M 99 k = nI m ↔ (dMD d).2.1 k = nI e) := by
    intro k hk
    rw [hma k hk]
    constructor
    · intro z
      rcases hmi.2.1 k with z3 | ⟨e2, z3, z4⟩
      · rw [z3, bm_1] at z
        exact absurd z.symm (n_m1 (by omega))
      · rw [z4, bm_n (by omega)] at z
        obtain ⟨b, b1, b2, b3⟩ := x_ex (g := dgO d) (av := ddA d) d.2.2.2.2.1 e2 z3
        have := x_firstn hg b2 b1
        rw [b3] at this
        have := (nI_eq (by omega) (by omega)).mp (this.symm.trans z)
        subst this
        rw [z4, ← b3, he]
    · intro z
      rw [z, bm_n (by omega)]
      exact hfm
  by_cases hno : ∀ k, k < d.2.2.2.2.2 → (dMD d).2.1 k ≠ nI e
  · rw [(hmi.1 e (by omega)).mpr hno]
    have key : Ok (loopN (f_L_told_l257 v1 (nI m) v13 M) FU ((-1), 0)) (fun r => r = -1) := by
      refine loop_FU (fun i z => z.1 = -1 ∧ z.2 = nI i) _ d.2.2.2.2.2 (by omega) ?_ ?_ ⟨rfl, rfl⟩
      · rintro i ⟨x, y⟩ hi ⟨g1, g2⟩
        dsimp only at g1 g2
        subst g1; subst g2
        unfold f_L_told_l257 f_L_told_j283
        dsimp only
        refine Ok.eqb r931 ?_
        rw [hd1]
        refine Ok.neg (nI_ge hi (by omega)) (Ok.eqb (rd_nI (by omega) (by decide)) ?_)
        exact Ok.neg (fun q => hno i hi ((hq i hi).mp q)) (Ok.of ⟨rfl, nI_1 i⟩)
      · rintro ⟨x, y⟩ ⟨g1, g2⟩
        dsimp only at g1 g2
        subst g2
        unfold f_L_told_l257
        dsimp only
        refine Ok.eqb r931 ?_
        rw [hd1]
        exact Ok.pos (nI_le (Nat.le_refl _) (by omega)) (Ok.of g1)
    obtain ⟨r, k1, k2⟩ := key
    rw [k1, k2]
  · obtain ⟨k0, hk0⟩ := Classical.not_forall.mp hno
    have hk1 : k0 < d.2.2.2.2.2 := Classical.byContradiction fun z => hk0 (fun q => absurd q z)
    have hk2 : (dMD d).2.1 k0 = nI e := Classical.byContradiction fun z => hk0 (fun _ => z)
    have hco := hm5 e (by omega) k0 hk1 hk2
    rw [hco]
    have hu : ∀ k, k < d.2.2.2.2.2 → (dMD d).2.1 k = nI e → k = k0 := by
      intro k hk z
      have := hm5 e (by omega) k hk z
      exact ((nI_eq (by omega) (by omega)).mp (hco.symm.trans this)).symm
    have key : Ok (loopN (f_L_told_l257 v1 (nI m) v13 M) FU ((-1), 0)) (fun r => r = nI k0) := by
      refine loop_FU (fun i z => z.1 = (if i ≤ k0 then -1 else nI k0) ∧ z.2 = nI i) _ d.2.2.2.2.2 (by omega) ?_ ?_ ⟨?_, rfl⟩
      · rintro i ⟨x, y⟩ hi ⟨g1, g2⟩
        dsimp only at g1 g2
        subst g2
        unfold f_L_told_l257 f_L_told_j283
        dsimp only
        refine Ok.eqb r931 ?_
        rw [hd1]
        refine Ok.neg (nI_ge hi (by omega)) (Ok.eqb (rd_nI (by omega) (by decide)) ?_)
        refine Ok.ite (fun c => Ok.of ⟨?_, nI_1 i⟩) (fun c => Ok.of ⟨?_, nI_1 i⟩)
        · have := hu i hi ((hq i hi).mp c)
          show nI i = if i + 1 ≤ k0 then -1 else nI k0
          rw [if_neg (by omega), this]
        · have hne : i ≠ k0 := fun q => c ((hq i hi).mpr (by rw [q]; exact hk2))
          show x = if i + 1 ≤ k0 then -1 else nI k0
          rw [g1]
          by_cases hle : i ≤ k0
          · rw [if_pos hle, if_pos (by omega)]
          · rw [if_neg hle, if_neg (by omega)]
      · rintro ⟨x, y⟩ ⟨g1, g2⟩
        dsimp only at g1 g2
        subst g2
        unfold f_L_told_l257
        dsimp only
        refine Ok.eqb r931 ?_
        rw [hd1]
        refine Ok.pos (nI_le (Nat.le_refl _) (by omega)) (Ok.of ?_)
        show x = nI k0
        rw [g1, if_neg (by omega)]
      · show -1 = if 0 ≤ k0 then -1 else nI k0
        rw [if_pos (Nat.zero_le _)]
    obtain ⟨r, k1, k2⟩ := key
    rw [k1, k2]
/-- the four numbers of an exceedance -/
theorem four_l {d : Dt} {D : Nat → Dt} {next kept m : Nat} {v1 : Int32} {M : Mem} (h : TL d D next kept M) (hm : m < d.2.2.2.2.1) (hb : xBg (dgO d) (ddA d) m = true) :
    loopN (f_L_told_l320 v1 (nI m) (nI (xCnt (dgO d) (ddA d) m)) M) FU 0 = some (.inl ()) := by
  have hE : xCnt (dgO d) (ddA d) m < dCn d := xCnt_lt hb hm
  have key : Ok (loopN (f_L_told_l320 v1 (nI m) (nI (xCnt (dgO d) (ddA d) m)) M) FU 0) (fun r => r = .inl ()) := by
    refine loop_FU (fun i z => z = nI i) _ 4 (by omega) ?_ ?_ rfl
    · rintro i z hi rfl
      unfold f_L_told_l320
      refine Ok.neg (nI_ge (b := 4) hi (by omega)) ?_
      rw [nI_1]
      refine Ok.eqb (exceedance_a h.1 hE (by omega)) ?_
      refine Ok.eqb (part_l h.2.1 h.1.1.2.2.2.2.1 h.2.2.2.1 hb hm (by omega)) (Ok.pos ?_ (Ok.of rfl))
      rcases (show i = 0 ∨ i = 1 ∨ i = 2 ∨ i = 3 by omega) with rfl | rfl | rfl | rfl <;> rfl
    · rintro z rfl
      unfold f_L_told_l320
      exact Ok.pos (by decide) (Ok.of rfl)
  obtain ⟨r, k1, k2⟩ := key
  rw [k1, k2]
theorem minutes_l {d : Dt} {D : Nat → Dt} {next kept : Nat} {v1 : Int32} {M : Mem} (h : TL d D next kept M) : loopN (f_L_told_l69 v1 M) FU 0 = some (.inl ()) := by
  have hB := TL_B h
  have hn := hB.1
  have hg := hB.2.1
  have hz := h.2.1
  have hst := h.1.1.2.2.2.2.1
  have hst0 := stOK_cong hz.2.2.2.sy hst
  have key : Ok (loopN (f_L_told_l69 v1 M) FU 0) (fun r => r = .inl ()) := by
    refine loop_FU (fun i z => z = nI i) _ d.2.2.2.2.1 (by omega) ?_ ?_ rfl
    · rintro m z hm rfl
      obtain ⟨a5, a6, a7, a8⟩ := h.2.2.2.1 m hm
      obtain ⟨s1, s2⟩ := hz.2.2.1 m hm
      unfold f_L_told_l69
      refine Ok.eqb r930 ?_
      rw [hz.2.1]
      refine Ok.neg (nI_ge hm (by omega)) ?_
      refine Ok.eqb (minute_a (w := 0) h.1 hm (by omega)) ?_
      refine Ok.eqb (rd_nI (by omega) (by decide)) ?_
      rw [s1]
      refine Ok.pos rfl ?_
      refine Ok.eqb (minute_a (w := 1) h.1 hm (by omega)) ?_
      refine Ok.eqb (rd_nI (by omega) (by decide)) ?_
      rw [s2]
      refine Ok.pos rfl ?_
      refine Ok.eqb (minute_a (w := 2) h.1 hm (by omega)) ?_
      refine Ok.eqb (rd_nI (by omega) (by decide)) ?_
      rw [a5]
      refine Ok.pos rfl ?_
      refine Ok.eqb (minute_a (w := 3) h.1 hm (by omega)) ?_
      refine Ok.eqb (rd_nI (by omega) (by decide)) ?_
      rw [a6]
      refine Ok.pos rfl ?_
      refine Ok.eqb (minute_a (w := 4) h.1 hm (by omega)) ?_
      refine Ok.eqb (limit_l hst0 (by omega)) ?_
      rw [sLim_cong hz.2.2.2]
      refine Ok.pos rfl ?_
      refine Ok.eqb (minute_a (w := 5) h.1 hm (by omega)) ?_
      refine Ok.eqb (rest_l hst0 (by omega)) ?_
      have j175 : ∀ s1 : Int32, s1 = (if sRest d.2.2.2.1 m then 1 else 0) → Ok (f_L_told_j175 v1 (nI m) (mP d m 5) s1 M) (fun o => Sum.elim (fun z => z = nI (m + 1)) (fun r => r = .inl ()) o) := by
        intro s1 hs1
        unfold f_L_told_j175
        refine Ok.pos hs1.symm ?_
        refine Ok.eqb (minute_a (w := 6) h.1 hm (by omega)) ?_
        refine Ok.eqb (rd_nI (by omega) (by decide)) ?_
        rw [a7]
        refine Ok.pos rfl ?_
        refine Ok.eqb (minute_a (w := 7) h.1 hm (by omega)) ?_
        refine Ok.eqb (rd_nI (by omega) (by decide)) ?_
        have r98 : rd M 98 60 (nI m) = some (bS (dgO d) (ddA d) d.2.2.2.2.1 m) := by
          rw [rd_nI (by omega) (by decide), a8]
        rw [a8]
        have hs := b_self (g := dgO d) (av := ddA d) hg (show d.2.2.2.2.1 ≤ 300 by omega) hm
        have j224 : ∀ s1 : Int32, s1 = mP d m 7 → Ok (f_L_told_j224 v1 (nI m) (mP d m 7) s1 M) (fun o => Sum.elim (fun z => z = nI (m + 1)) (fun r => r = .inl ()) o) := by
          intro s1 hs1
          unfold f_L_told_j224 f_L_told_j366
          refine Ok.pos hs1.symm (Ok.eqb r98 ?_)
          refine Ok.ite (fun c => ?_) (fun c => Ok.of (nI_1 m))
          have hb := hs.mp c
          have hE : xCnt (dgO d) (ddA d) m < dCn d := xCnt_lt hb hm
          refine Ok.eqb (number_l hB hb hm) ?_
          refine Ok.eqb (look_l h hm hb) ?_
          refine Ok.eqb (exceedance_a (w := 0) h.1 hE (by omega)) (Ok.pos (x_firstn hg hb hm) ?_)
          refine Ok.eqb (exceedance_a (w := 5) h.1 hE (by omega)) (Ok.pos (eP5 d _) ?_)
          refine Ok.eqb (four_l h hm hb) ?_
          exact Ok.of (nI_1 m)
        rcases b_mark (g := dgO d) (av := ddA d) hg (show d.2.2.2.2.1 ≤ 300 by omega) hm with ⟨q1, q2, -⟩ | ⟨b, L, q1, q2, q3, q4, q5, q6, q7, q8⟩
        · rw [q1]
          exact Ok.neg (by decide) (j224 _ q2.symm)
        · rw [q7]
          refine Ok.pos (le_n (nI_pos (by omega))) ?_
          rw [q7] at r98
          refine Ok.eqb r98 (Ok.eqb (number_l hB q1 q2) (j224 _ q8.symm))
      have hr := sRest_cong hz.2.2.2 m
      by_cases hq : sRest d.2.2.2.1 m
      · rw [if_pos (show sRest (M 94) m from hr.mpr hq)]
        exact Ok.neg (by decide) (j175 1 (by rw [if_pos hq]))
      · rw [if_neg (show ¬ sRest (M 94) m from fun q => hq (hr.mp q))]
        exact Ok.pos rfl (j175 0 (by rw [if_neg hq]))
    · rintro z rfl
      unfold f_L_told_l69
      refine Ok.eqb r930 ?_
      rw [hz.2.1]
      exact Ok.pos (nI_le (Nat.le_refl _) (by omega)) (Ok.of rfl)
  obtain ⟨r, k1, k2⟩ := key
  rw [k1, k2]
theorem complaints_l {d : Dt} {D : Nat → Dt} {next kept : Nat} {v1 : Int32} {M : Mem} (h : TL d D next kept M) : loopN (f_L_told_l375 v1 M) FU 0 = some (.inl ()) := by
  have hB := TL_B h
  have hn := hB.1
  have hg := hB.2.1
  have hc := h.2.2.1
  have hnc := hc.1
  obtain ⟨hmi, -⟩ := TL_mi h
  have hCn := xCnt_le (av := ddA d) hg d.2.2.2.2.1
  have hdc : dCn d = xCnt (dgO d) (ddA d) d.2.2.2.2.1 := rfl
  have key : Ok (loopN (f_L_told_l375 v1 M) FU 0) (fun r => r = .inl ()) := by
    refine loop_FU (fun i z => z = nI i) _ d.2.2.2.2.2 (by omega) ?_ ?_ rfl
    · rintro k z hk rfl
      unfold f_L_told_l375
      refine Ok.eqb r931 ?_
      rw [hc.2.1]
      refine Ok.neg (nI_ge hk (by omega)) ?_
      refine Ok.eqb (complaint_a (w := 0) h.1 hk (by omega)) ?_
      refine Ok.eqb (rd_nI (by omega) (by decide)) ?_
      rw [(hc.2.2 k hk).1]
      refine Ok.pos rfl ?_
      refine Ok.eqb (complaint_a (w := 1) h.1 hk (by omega)) ?_
      refine Ok.eqb (rd_nI (by omega) (by decide)) ?_
      have r99 : rd M 99 6 (nI k) = some (bm (eF d.1 d.2.1 d.2.2.2.1 d.2.2.2.2.1) ((dMD d).2.1 k)) := by
        rw [rd_nI (by omega) (by decide), h.2.2.2.2 k hk]
      rw [h.2.2.2.2 k hk]
      have fin : ∀ s1 : Int32, s1 = cP d k 1 → Ok (f_L_told_j428 v1 (nI k) (cP d k 1) s1 M) (fun o => Sum.elim (fun z => z = nI (k + 1)) (fun r => r = .inl ()) o) := by
        intro s1 hs1
        unfold f_L_told_j428
        exact Ok.pos hs1.symm (Ok.of (nI_1 k))
      rcases hmi.2.1 k with q | ⟨e, he, q⟩
      · rw [q, bm_1]
        exact Ok.neg (by decide) (fin _ (q.symm.trans (cP1 d k).symm))
      · obtain ⟨b, b1, b2, b3⟩ := x_ex (g := dgO d) (av := ddA d) d.2.2.2.2.1 e he
        have hf := x_firstn hg b2 b1
        rw [b3] at hf
        rw [q, bm_n (by omega), show eF d.1 d.2.1 d.2.2.2.1 d.2.2.2.2.1 e = nI b from hf] at r99 ⊢
        refine Ok.pos (le_n (nI_pos (by omega))) (Ok.eqb r99 (Ok.eqb (number_l hB b2 b1) (fin _ ?_)))
        rw [b3]
        exact q.symm.trans (cP1 d k).symm
    · rintro z rfl
      unfold f_L_told_l375
      refine Ok.eqb r931 ?_
      rw [hc.2.1]
      exact Ok.pos (nI_le (Nat.le_refl _) (by omega)) (Ok.of rfl)
  obtain ⟨r, k1, k2⟩ := key
  rw [k1, k2]
/-- a step that writes the row of a count alone -/
theorem TL_off {d : Dt} {D : Nat → Dt} {next kept : Nat} {M M' : Mem} (h : TL d D next kept M) (ho : Off (fun c => c = 100) M M') : TL d D next kept M' := by
  obtain ⟨h1, h2, h3, h4, h5⟩ := h
  refine ⟨Cr_off h1 (fun c hc => ho c (by omega)), Lz_off h2 (fun c a b => ho c (by omega)), Lc_off h3 (fun c a b => ho c (by omega)), Ld_off h4 (fun c a b => ho c (by omega)), ?_⟩
  rw [ho 99 (by omega)]
  exact h5
theorem counted_t {d : Dt} {D : Nat → Dt} {next kept a : Nat} {M : Mem} (h : TL d D next kept M) (ha : a ≤ 9) : Ok (f_L_counted 100 (nI a) M) (fun r => r.1 = cN d.1 d.2.1 d.2.2.2.1 d.2.2.1 d.2.2.2.2.1 d.2.2.2.2.2 a ∧ TL d D next kept r.2 ∧ Off (fun c => c = 100) M r.2) := by
  refine Ok.mono (counted_l h.2.1 h.1.1.2.2.2.2.1 h.2.2.2.1 h.2.2.1 (by decide) ha) ?_
  rintro r ⟨h1, h2⟩
  exact ⟨h1, TL_off h h2, h2⟩
theorem settings_l {d : Dt} {D : Nat → Dt} {next kept : Nat} {v1 : Int32} {M : Mem} (h : TL d D next kept M) : Ok (loopN (f_L_told_l442 v1) FU (0, M)) (fun o => ∃ M', o = .inl M' ∧ TL d D next kept M' ∧ Off (fun c => c = 100) M M') := by
  refine loop_FU (fun i z => z.1 = nI i ∧ TL d D next kept z.2 ∧ Off (fun c => c = 100) M z.2) _ 10 (by omega) ?_ ?_ ⟨rfl, h, Off.rf⟩
  · rintro i ⟨y, N⟩ hi ⟨g1, g2, g3⟩
    dsimp only at g1 g2 g3
    subst g1
    unfold f_L_told_l442
    dsimp only
    refine Ok.neg (nI_ge (b := 10) hi (by omega)) ?_
    refine Ok.eqb (setting_a g2.1 hi) ?_
    refine Ok.eqb (rd_nI (by omega) (by decide)) ?_
    refine Ok.pos (g2.2.1.2.2.2 i hi).symm ?_
    refine Ok.eqb (count_a g2.1 (by omega)) ?_
    refine Ok.bind (counted_t g2 (by omega)) ?_
    rintro r ⟨r1, r2, r3⟩
    refine Ok.pos ?_ (Ok.of ⟨nI_1 i, r2, g3.tr r3⟩)
    rw [r1, if_neg (by omega)]
  · rintro ⟨y, N⟩ ⟨g1, g2, g3⟩
    dsimp only at g1 g2 g3
    subst g1
    unfold f_L_told_l442
    dsimp only
    exact Ok.pos (by decide) (Ok.of ⟨N, rfl, g2, g3⟩)
