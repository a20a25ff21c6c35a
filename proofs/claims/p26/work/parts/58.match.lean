/-! the law's match, whole -/
abbrev eF (lv wd st : Nat → Int32) (n : Nat) : Nat → Int32 := xFst (gO st) (dA lv wd st) n
abbrev eL (lv wd st : Nat → Int32) (n : Nat) : Nat → Int32 := xLst (gO st) (dA lv wd st) n
abbrev eK (lv wd st : Nat → Int32) (n : Nat) : Nat → Int32 := xPk (gO st) (dA lv wd st) (dF lv st) n
def Bv (fs : Nat → Int32) (t : Nat) : Int32 := if t = 0 then -1 else fs (t - 1)
/-- is the exceedance that begins at minute i free -/
theorem free_l {g0 nc i : Nat} {v8 v9 v10 v11 : Int32} {M : Mem} (hd : M 93 1 = nI nc) (hnc : nc ≤ 6) : Ok (loopN (f_L_match_l166 g0 v8 v9 v10 v11 (nI i) M) FU (1, 0)) (fun x => (x = 0 ∧ ¬ ∀ k, k < nc → M g0 k ≠ nI i) ∨ (x = 1 ∧ ∀ k, k < nc → M g0 k ≠ nI i)) := by
  refine loop_FU (fun j z => z.2 = nI j ∧ ((z.1 = 0 ∧ ¬ ∀ k, k < j → M g0 k ≠ nI i) ∨ (z.1 = 1 ∧ ∀ k, k < j → M g0 k ≠ nI i))) _ nc (by omega) ?_ ?_ ⟨rfl, Or.inr ⟨rfl, fun k hk => absurd hk (Nat.not_lt_zero k)⟩⟩
  · rintro j ⟨x, y⟩ hj ⟨h1, h2⟩
    dsimp only at h1 h2
    subst h1
    unfold f_L_match_l166 f_L_match_j192 f_L_match_j193
    dsimp only
    refine Ok.eqb r931 ?_
    rw [hd]
    refine Ok.neg (nI_ge hj (by omega)) ?_
    rcases h2 with ⟨e1, e2⟩ | ⟨e1, e2⟩
    · subst e1
      refine Ok.pos rfl (Ok.of ⟨nI_1 j, Or.inl ⟨rfl, fun q => e2 (fun k hk => q k (by omega))⟩⟩)
    · subst e1
      refine Ok.neg (by decide) ?_
      refine Ok.eqb (rd_nI (by omega) (by decide)) ?_
      refine Ok.ite (fun c => Ok.of ⟨nI_1 j, Or.inl ⟨rfl, fun q => q j (by omega) c⟩⟩) (fun c => Ok.of ⟨nI_1 j, Or.inr ⟨rfl, fun k hk => ?_⟩⟩)
      by_cases hkj : k = j
      · rw [hkj]
        exact c
      · exact e2 k (by omega)
  · rintro ⟨x, y⟩ ⟨h1, h2⟩
    dsimp only at h1 h2
    subst h1
    unfold f_L_match_l166
    dsimp only
    refine Ok.eqb r931 ?_
    rw [hd]
    exact Ok.pos (nI_le (Nat.le_refl _) (by omega)) (Ok.of h2)
theorem best_l {lv wd st cm : Nat → Int32} {n nc g0 q : Nat} {v8 v9 : Int32} {M : Mem} {co ex : Nat → Int32} (hz : Lz lv wd st n M) (hst : stOK st) (hL : Ld lv wd st n M) (hc : Lc cm nc M) (hq : q < nc)
    (h1 : ∀ e, e < dC lv wd st n → (co e = -1 ↔ ∀ k, k < nc → ex k ≠ nI e)) (h2 : ∀ k, ex k = -1 ∨ ∃ e, e < dC lv wd st n ∧ ex k = nI e) (hma : ∀ k, k < nc → M g0 k = bm (eF lv wd st n) (ex k)) :
    loopN (f_L_match_l102 g0 v8 v9 (nI q) M) FU ((-1), 0) = some (Bv (eF lv wd st n) (sBst (eF lv wd st n) (eL lv wd st n) (eK lv wd st n) co (cm q) (st 7) (dC lv wd st n))) := by
  have hB := Ld_Bm hz hst hL
  obtain ⟨hn, hg, hd, h98⟩ := hB
  obtain ⟨hnc, hd1, hcm⟩ := hc
  have hCn := xCnt_le (av := dA lv wd st) hg n
  have hgo := gO_b hst
  obtain ⟨hcq, w, hw, hcw⟩ := hcm q hq
  have hdc : dC lv wd st n = xCnt (gO st) (dA lv wd st) n := rfl
  have hcq2 : M 92 q = nI w := hcq.trans hcw
  have hst7 := hst.2.2.2.2.2.2.2.1
  obtain ⟨FS, hFS⟩ : ∃ f, f = eF lv wd st n := ⟨_, rfl⟩
  obtain ⟨LS, hLS⟩ : ∃ f, f = eL lv wd st n := ⟨_, rfl⟩
  obtain ⟨PK, hPK⟩ : ∃ f, f = eK lv wd st n := ⟨_, rfl⟩
  rw [← hFS] at hma
  rw [← hFS, ← hLS, ← hPK]
  have hfs : ∀ b, xBg (gO st) (dA lv wd st) b = true → b < n → FS (xCnt (gO st) (dA lv wd st) b) = nI b := fun b h3 h4 => by rw [hFS]; exact x_firstn hg h3 h4
  have key : Ok (loopN (f_L_match_l102 g0 v8 v9 (nI q) M) FU ((-1), 0)) (fun x => x = Bv FS (sBst FS LS PK co (cm q) (st 7) (dC lv wd st n))) := by
    refine loop_FU (fun i z => z.2 = nI i ∧ z.1 = Bv FS (sBst FS LS PK co (cm q) (st 7) (xCnt (gO st) (dA lv wd st) i))) _ n (by omega) ?_ ?_ ⟨rfl, rfl⟩
    · rintro i ⟨x, y⟩ hi ⟨g1, g2⟩
      dsimp only at g1 g2
      subst g1
      have hsle := sBst_le FS LS PK co (cm q) (st 7) (xCnt (gO st) (dA lv wd st) i)
      have hCi := xCnt_le (av := dA lv wd st) hg i
      unfold f_L_match_l102
      dsimp only
      refine Ok.eqb r930 ?_
      rw [hd]
      refine Ok.neg (nI_ge hi (by omega)) ?_
      refine Ok.eqb (rd_nI (by omega) (by decide)) ?_
      rw [hcq2]
      refine Ok.ite (fun c => ?_) (fun c => ?_)
      · -- behind the complaint's minute
        have hwi : w < i := (n_lt (by omega) (by omega)).mp c
        refine Ok.of ?_
        show x = _
        rw [g2]
        have hmono := xCnt_mono (g := gO st) (av := dA lv wd st) i (n - i)
        rw [show i + (n - i) = n by omega] at hmono
        obtain ⟨d, hdd⟩ : ∃ d, dC lv wd st n = xCnt (gO st) (dA lv wd st) i + d := ⟨dC lv wd st n - xCnt (gO st) (dA lv wd st) i, by omega⟩
        rw [hdd, sBst_stop d]
        intro e k1 k2 k3
        rw [← hdd] at k2
        obtain ⟨b, b1, b2, b3⟩ := x_ex (g := gO st) (av := dA lv wd st) n e k2
        have := hfs b b2 b1
        rw [b3] at this
        rw [this, hcw] at k3
        have hbw := (n_le (by omega) (by omega)).mp k3
        have : b < i := by omega
        have := xCnt_lt b2 this
        omega
      · have hwi : i ≤ w := by
          have : ¬ w < i := fun z => c ((n_lt (by omega) (by omega)).mpr z)
          omega
        refine Ok.eqb (rd_nI (by omega) (by decide)) ?_
        rw [h98 i hi]
        have hs := b_self (g := gO st) (av := dA lv wd st) hg (show n ≤ 300 by omega) hi
        have keep : sBst FS LS PK co (cm q) (st 7) (xCnt (gO st) (dA lv wd st) (i + 1)) = sBst FS LS PK co (cm q) (st 7) (xCnt (gO st) (dA lv wd st) i) → Ok (f_L_match_j250 g0 v8 v9 (nI q) x (nI i) M) (fun o => Sum.elim (fun z => z.2 = nI (i + 1) ∧ z.1 = Bv FS (sBst FS LS PK co (cm q) (st 7) (xCnt (gO st) (dA lv wd st) (i + 1)))) (fun x => x = Bv FS (sBst FS LS PK co (cm q) (st 7) (dC lv wd st n))) o) := by
          intro hk
          unfold f_L_match_j250
          refine Ok.of ⟨nI_1 i, ?_⟩
          show x = _
          rw [g2, hk]
        refine Ok.ite (fun c2 => ?_) (fun c2 => ?_)
        · have hb := hs.mp c2
          have hE := (xBg_b hg hb).2.2
          have hfe := hfs i hb hi
          have hElt := xCnt_lt hb hi
          obtain ⟨e, he⟩ : ∃ e, e = xCnt (gO st) (dA lv wd st) i := ⟨_, rfl⟩
          have hstep : sBst FS LS PK co (cm q) (st 7) (e + 1) = if co e = -1 ∧ FS e ≤ cm q ∧ cm q - st 7 ≤ LS e ∧ (sBst FS LS PK co (cm q) (st 7) e = 0 ∨ PK (sBst FS LS PK co (cm q) (st 7) e - 1) < PK e) then e + 1 else sBst FS LS PK co (cm q) (st 7) e := rfl
          rw [hE, ← he] at keep ⊢
          rw [← he] at g2 hfe hsle hElt hCi
          have hfree : (∀ k, k < nc → M g0 k ≠ nI i) ↔ co e = -1 := by
            rw [h1 e (by omega)]
            constructor
            · intro z k hk z2
              apply z k hk
              rw [hma k hk, z2, bm_n (by omega), hfe]
            · intro z k hk z2
              rw [hma k hk] at z2
              rcases h2 k with z3 | ⟨e2, z3, z4⟩
              · rw [z3, bm_1] at z2
                exact n_m1 (by omega) z2.symm
              · rw [z4, bm_n (by omega)] at z2
                obtain ⟨b, b1, b2, b3⟩ := x_ex (g := gO st) (av := dA lv wd st) n e2 z3
                have := hfs b b2 b1
                rw [b3, z2] at this
                have := (nI_eq (by omega) (by omega)).mp this
                subst this
                exact z k hk (by rw [z4, ← b3, he])
          have hnear : FS e ≤ cm q := by
            rw [hfe, hcw]
            exact (n_le (by omega) (by omega)).mpr hwi
          have take_ : co e = -1 → cm q - st 7 ≤ LS e → (sBst FS LS PK co (cm q) (st 7) e = 0 ∨ PK (sBst FS LS PK co (cm q) (st 7) e - 1) < PK e) → Ok (f_L_match_j246 g0 v8 v9 (nI q) (nI i) M) (fun o => Sum.elim (fun z => z.2 = nI (i + 1) ∧ z.1 = Bv FS (sBst FS LS PK co (cm q) (st 7) (e + 1))) (fun x => x = Bv FS (sBst FS LS PK co (cm q) (st 7) (dC lv wd st n))) o) := by
            intro a1 a2 a3
            unfold f_L_match_j246 f_L_match_j250
            refine Ok.of ⟨nI_1 i, ?_⟩
            show nI i = _
            rw [hstep, if_pos ⟨a1, hnear, a2, a3⟩]
            unfold Bv
            rw [if_neg (by omega), Nat.add_sub_cancel, hfe]
          have p0 : f_L_part (nI i) 0 M = some (LS e) := by
            rw [show (0 : Int32) = nI 0 from rfl, part_l hz hst hL hb hi (by omega), ← he, hLS]
            rfl
          have p2 : f_L_part (nI i) 2 M = some (PK e) := by
            rw [show (2 : Int32) = nI 2 from rfl, part_l hz hst hL hb hi (by omega), ← he, hPK]
            rfl
          refine Ok.eqb p0 ?_
          refine Ok.eqb (rd_nI (by omega) (by decide)) ?_
          refine Ok.eqb (show rd M 94 10 7 = some (M 94 7) from rd_nI (k := 7) (by decide) (by decide)) ?_
          rw [hcq, hz.2.2.2 7 (by decide)]
          refine Ok.ite (fun c3 => ?_) (fun c3 => keep ?_)
          · refine Ok.bind (free_l hd1 hnc) ?_
            rintro o (⟨o1, o2⟩ | ⟨o1, o2⟩)
            · refine Ok.pos o1 (keep ?_)
              rw [hstep, if_neg]
              rintro ⟨a1, -⟩
              exact o2 (hfree.mpr a1)
            · refine Ok.neg (by rw [o1]; decide) ?_
              have hco := hfree.mp o2
              by_cases ht : sBst FS LS PK co (cm q) (st 7) e = 0
              · refine Ok.pos ?_ (take_ hco c3 (Or.inl ht))
                rw [g2, ht]
                show (-1 : Int32) < 0
                decide
              · obtain ⟨t, ht2⟩ : ∃ t, sBst FS LS PK co (cm q) (st 7) e = t + 1 := ⟨sBst FS LS PK co (cm q) (st 7) e - 1, by omega⟩
                obtain ⟨b, b1, b2, b3⟩ := x_ex (g := gO st) (av := dA lv wd st) n t (by omega)
                have hfb := hfs b b2 b1
                rw [b3] at hfb
                have hx : x = nI b := by
                  rw [g2, ht2]
                  unfold Bv
                  rw [if_neg (by omega), Nat.add_sub_cancel, hfb]
                have p3 : f_L_part (nI b) 2 M = some (PK t) := by
                  rw [show (2 : Int32) = nI 2 from rfl, part_l hz hst hL b2 b1 (by omega), b3, hPK]
                  rfl
                refine Ok.neg (by rw [hx]; exact nI_pos (by omega)) ?_
                refine Ok.eqb p2 ?_
                rw [hx] at keep ⊢
                refine Ok.eqb p3 ?_
                rw [ht2, Nat.add_sub_cancel] at hstep take_
                refine Ok.ite (fun c4 => keep ?_) (fun c4 => take_ hco c3 (Or.inr (lt_n c4)))
                rw [hstep, if_neg, ht2]
                rintro ⟨-, -, -, a4⟩
                rcases a4 with a4 | a4
                · omega
                · exact n_lt' c4 a4
          · rw [hstep, if_neg]
            rintro ⟨-, -, a3, -⟩
            exact c3 a3
        · have hE : xCnt (gO st) (dA lv wd st) (i + 1) = xCnt (gO st) (dA lv wd st) i := by
            show xCnt _ _ i + _ = _
            rw [if_neg (fun z => c2 (hs.mpr z))]
            rfl
          exact keep (by rw [hE])
    · rintro ⟨x, y⟩ ⟨g1, g2⟩
      dsimp only at g1 g2
      subst g1
      unfold f_L_match_l102
      dsimp only
      refine Ok.eqb r930 ?_
      rw [hd]
      exact Ok.pos (nI_le (Nat.le_refl _) (by omega)) (Ok.of g2)
  obtain ⟨x, k1, k2⟩ := key
  rw [k1, k2]
theorem match_l {lv wd st cm : Nat → Int32} {n nc g0 : Nat} {M : Mem} (hz : Lz lv wd st n M) (hst : stOK st) (hL : Ld lv wd st n M) (hc : Lc cm nc M) (hg0 : 98 < g0) :
    Ok (f_L_match g0 M) (fun M' => (∀ k, k < nc → M' g0 k = bm (eF lv wd st n) ((dM lv wd st cm n nc).2.1 k)) ∧ Off (fun c => c = g0) M M') := by
  have hnc := hc.1
  have hd1 := hc.2.1
  have hg := (gO_b hst).2.1
  have hCn := xCnt_le (av := dA lv wd st) hg n
  have hn := hz.1
  have hlen : (mL cm nc 301).length = nc := mL_len (fun k hk => (hc.2.2 k hk).2)
  have hpw := mL_pw (cm := cm) (c := nc) (v := 301) (by decide)
  unfold f_L_match
  refine Ok.bind (P := fun M1 => (∀ k, k < nc → M1 g0 k = -1) ∧ Off (fun c => c = g0) M M1) ?_ ?_
  · refine loop_FU (fun i z => z.1 = nI i ∧ (∀ k, k < i → z.2 g0 k = -1) ∧ Off (fun c => c = g0) M z.2) _ nc (by omega) ?_ ?_ ⟨rfl, fun k hk => absurd hk (Nat.not_lt_zero k), Off.rf⟩
    · rintro i ⟨y, N⟩ hi ⟨g1, g2, g3⟩
      dsimp only at g1 g2 g3
      subst g1
      unfold f_L_match_l6
      dsimp only
      refine Ok.eqb r931 ?_
      rw [g3 93 (by omega), hd1]
      refine Ok.neg (nI_ge hi (by omega)) ?_
      refine Ok.eqb (wr_nI (by omega) (by decide)) (Ok.of ⟨nI_1 i, fun k hk => ?_, g3.set rfl⟩)
      dsimp only
      by_cases hki : k = i
      · rw [hki, mset_s]
      · rw [mset_n hki]
        exact g2 k (by omega)
    · rintro ⟨y, N⟩ ⟨g1, g2, g3⟩
      dsimp only at g1 g2 g3
      subst g1
      unfold f_L_match_l6
      dsimp only
      refine Ok.eqb r931 ?_
      rw [g3 93 (by omega), hd1]
      exact Ok.pos (nI_le (Nat.le_refl _) (by omega)) (Ok.of ⟨g2, g3⟩)
  · rintro M1 ⟨hm1, ho1⟩
    refine Ok.bind (P := fun M' => (∀ k, k < nc → M' g0 k = bm (eF lv wd st n) ((dM lv wd st cm n nc).2.1 k)) ∧ Off (fun c => c = g0) M M') ?_ (fun r h => Ok.of h)
    refine loop_FU (fun i z => z.2.1 = nI i ∧ (∃ D, z.1 = nI D ∧ D < 64 ∧ ∀ k, k < nc → (Nat.testBit D k = true ↔ k ∈ (mL cm nc 301).take i)) ∧ MI (dC lv wd st n) nc (fun k => k ∈ (mL cm nc 301).take i) (mRun (eF lv wd st n) (eL lv wd st n) (eK lv wd st n) cm (st 7) (dC lv wd st n) ((mL cm nc 301).take i)) ∧
      (∀ k, k < nc → z.2.2 g0 k = bm (eF lv wd st n) ((mRun (eF lv wd st n) (eL lv wd st n) (eK lv wd st n) cm (st 7) (dC lv wd st n) ((mL cm nc 301).take i)).2.1 k)) ∧ Off (fun c => c = g0) M z.2.2) _ nc (by omega) ?_ ?_ ?_
    · rintro i ⟨x, y, N⟩ hi ⟨g1, ⟨D, g2, g3, g4⟩, g5, g6, g7⟩
      dsimp only at g1 g2 g6 g7
      subst g1; subst g2
      obtain ⟨r, hr⟩ : ∃ r, (mL cm nc 301)[i]? = some r := by
        rw [List.getElem?_eq_getElem (by omega)]
        exact ⟨_, rfl⟩
      have hrm := (mL_mem (List.mem_of_getElem? hr)).1
      have hts := tk_s _ i r hr
      have hrn : ¬ r ∈ (mL cm nc 301).take i := by
        intro z
        obtain ⟨j, j1, j2⟩ := (tk_mem _ i r).mp z
        have := pw_get hpw j1 j2 hr
        unfold Ls at this
        omega
      have zN : Lz lv wd st n N := Lz_off hz (fun c a b => g7 c (by omega))
      have lN : Ld lv wd st n N := Ld_off hL (fun c a b => g7 c (by omega))
      have cN : Lc cm nc N := Lc_off hc (fun c a b => g7 c (by omega))
      unfold f_L_match_l28
      dsimp only
      refine Ok.eqb r931 ?_
      rw [g7 93 (by omega), hd1]
      refine Ok.neg (nI_ge hi (by omega)) ?_
      refine Ok.eqb r931 ?_
      rw [g7 93 (by omega), hd1]
      refine Ok.eqb (sel_l cN g3 g4 hr) ?_
      obtain ⟨b1, b2, b3⟩ := mk_or D g3 r (by omega)
      rw [b1]
      refine Ok.eqb (best_l zN hst lN cN hrm g5.1 g5.2.1 g6) ?_
      unfold f_L_match_j256
      refine Ok.eqb (wr_nI (by omega) (by decide)) (Ok.of ⟨nI_1 i, ⟨_, rfl, b2, fun k hk => ?_⟩, ?_, fun k hk => ?_, g7.set rfl⟩)
      · rw [b3 k (by omega), hts, List.mem_append, List.mem_singleton, Bool.or_eq_true, g4 k hk, decide_eq_true_eq]
      · rw [hts, mRun_snoc]
        have h9 := MI_step (fs := eF lv wd st n) (ls := eL lv wd st n) (pk := eK lv wd st n) (cm := cm) (p := st 7) (show dC lv wd st n < 1000 by show xCnt _ _ n < 1000; omega) hrm (by omega) g5 hrn
        refine ⟨h9.1, h9.2.1, fun k hk => h9.2.2 k (fun z => hk ?_)⟩
        exact List.mem_append.mpr (Or.imp id List.mem_singleton.mpr z)
      · dsimp only
        rw [hts, mRun_snoc]
        unfold mStep
        have hle := sBst_le (eF lv wd st n) (eL lv wd st n) (eK lv wd st n) (mRun (eF lv wd st n) (eL lv wd st n) (eK lv wd st n) cm (st 7) (dC lv wd st n) ((mL cm nc 301).take i)).1 (cm r) (st 7) (dC lv wd st n)
        have hdc : dC lv wd st n = xCnt (gO st) (dA lv wd st) n := rfl
        unfold Bv
        by_cases ht : sBst (eF lv wd st n) (eL lv wd st n) (eK lv wd st n) (mRun (eF lv wd st n) (eL lv wd st n) (eK lv wd st n) cm (st 7) (dC lv wd st n) ((mL cm nc 301).take i)).1 (cm r) (st 7) (dC lv wd st n) = 0
        · rw [if_pos ht, if_pos ht]
          show mset N g0 r (-1) g0 k = bm _ (upd _ r (-1) k)
          by_cases hkr : k = r
          · rw [hkr, mset_s, upd_s, bm_1]
          · rw [mset_n hkr, upd_n hkr]
            exact g6 k hk
        · rw [if_neg ht, if_neg ht]
          generalize sBst (eF lv wd st n) (eL lv wd st n) (eK lv wd st n) (mRun (eF lv wd st n) (eL lv wd st n) (eK lv wd st n) cm (st 7) (dC lv wd st n) ((mL cm nc 301).take i)).1 (cm r) (st 7) (dC lv wd st n) = t at ht hle ⊢
          show mset N g0 r (eF lv wd st n (t - 1)) g0 k = bm _ (upd _ r (nI (t - 1)) k)
          by_cases hkr : k = r
          · rw [hkr, mset_s, upd_s, bm_n (by omega)]
          · rw [mset_n hkr, upd_n hkr]
            exact g6 k hk
    · rintro ⟨x, y, N⟩ ⟨g1, -, -, g6, g7⟩
      dsimp only at g1 g6 g7
      subst g1
      unfold f_L_match_l28
      dsimp only
      refine Ok.eqb r931 ?_
      rw [g7 93 (by omega), hd1]
      refine Ok.pos (nI_le (Nat.le_refl _) (by omega)) (Ok.of ⟨fun k hk => ?_, g7⟩)
      have e9 : dM lv wd st cm n nc = mRun (eF lv wd st n) (eL lv wd st n) (eK lv wd st n) cm (st 7) (dC lv wd st n) (mL cm nc 301) := by
        unfold dM
        with_reducible rfl
      rw [g6 k hk, List.take_of_length_le (by omega), e9]
    · refine ⟨rfl, ⟨0, rfl, by decide, fun k hk => ?_⟩, ⟨fun e he => ?_, fun k => Or.inl rfl, fun k _ => rfl⟩, fun k hk => ?_, ho1⟩
      · simp
      · constructor
        · intro _ k _ z
          exact n_m1 (by have : dC lv wd st n = xCnt (gO st) (dA lv wd st) n := rfl; omega) z.symm
        · intro _
          rfl
      · exact hm1 k hk
