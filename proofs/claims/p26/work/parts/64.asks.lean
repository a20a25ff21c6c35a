/-! what the class answers, and what the law draws -/
theorem ush1 (x : Int32) : ∃ r, r < 2147483648 ∧ ushr x 1 = nI r := by
  have h : (ushr x 1).toBitVec.toNat = x.toBitVec.toNat / 2 ^ 1 := pk_ushr x 1 1 (by decide)
  have hlt := x.toBitVec.isLt
  refine ⟨x.toBitVec.toNat / 2, by omega, i_eq.mpr ?_⟩
  rw [i_nI (by omega)]
  have e : (ushr x 1).toInt = (ushr x 1).toBitVec.toInt := rfl
  rw [e, BitVec.toInt_eq_toNat_of_lt (by rw [h]; omega), h]
theorem at_l (x : Int32) {n : Nat} (h0 : 0 < n) (hn : n < 2147483648) (M : Mem) : ∃ k, k < n ∧ f_L_at x (nI n) M = some (nI k) := by
  obtain ⟨r, h1, h2⟩ := ush1 x
  refine ⟨r % n, Nat.mod_lt _ h0, ?_⟩
  unfold f_L_at
  rw [h2, rm_n h1 h0 hn]
  rfl
theorem inR_n {m n : Nat} (hm : m < n) (hn : n ≤ 1000) : inR (nI m) n := ⟨le_n (nI_pos (by omega)), nI_ge hm (by omega)⟩
theorem minute_a {d : Dt} {D : Nat → Dt} {next kept m w : Nat} {M : Mem} (h : Cr d D next kept M) (hm : m < d.2.2.2.2.1) (hw : w ≤ 7) : f_X8_minute (nI m) (nI w) M = some (mP d m w) := by
  have hn := h.1.1
  unfold f_X8_minute
  refine eq_b (hasMinute_c h.2.1.1) ?_
  rw [if_pos (inR_n hm (by omega))]
  refine eq_n (by decide) (eq_n (nI_pos (by omega)) (eq_p (nI_le (b := 7) hw (by decide)) (eq_b (minuteProp_c h hm hw) rfl)))
theorem exceedance_a {d : Dt} {D : Nat → Dt} {next kept e w : Nat} {M : Mem} (h : Cr d D next kept M) (he : e < dCn d) (hw : w ≤ 5) : f_X8_exceedance (nI e) (nI w) M = some (eP d e w) := by
  have hn := h.1.1
  have hle := dCn_le h.1
  have h6 : M 60 6 = nI (dCn d) := h.2.2.2.1.1.2.2.1.1.1
  unfold f_X8_exceedance
  rw [h6]
  exact eq_n (nI_pos (by omega)) (eq_p ((n_lt (by omega) (by omega)).mpr he) (eq_n (nI_pos (by omega)) (eq_p (nI_le (b := 5) hw (by decide)) (eq_b (excProp_c h he hw) rfl))))
theorem complaint_a {d : Dt} {D : Nat → Dt} {next kept c w : Nat} {M : Mem} (h : Cr d D next kept M) (hc : c < d.2.2.2.2.2) (hw : w ≤ 1) : f_X8_complaint (nI c) (nI w) M = some (cP d c w) := by
  have hn := h.1.2.1
  unfold f_X8_complaint
  refine eq_b (hasComplaint_c h.2.1.2.1) ?_
  rw [if_pos (inR_n hc (by omega))]
  refine eq_n (by decide) (eq_n (nI_pos (by omega)) (eq_p (nI_le (b := 1) hw (by decide)) (eq_b (comProp_c h hc hw) rfl)))
theorem setting_a {d : Dt} {D : Nat → Dt} {next kept k : Nat} {M : Mem} (h : Cr d D next kept M) (hk : k < 10) : f_X8_setting (nI k) M = some (d.2.2.2.1 k) := by
  unfold f_X8_setting
  refine eq_b (isSetting_c _ _) ?_
  rw [if_pos (show 0 ≤ nI k ∧ nI k ≤ 9 from ⟨le_n (nI_pos (by omega)), nI_le (b := 9) (by omega) (by decide)⟩)]
  refine eq_n (by decide) (eq_b (rd_nI (by omega) (by decide)) ?_)
  exact congrArg some (h.2.1.2.2.2.1 k hk)
theorem count_a {d : Dt} {D : Nat → Dt} {next kept a : Nat} {M : Mem} (h : Cr d D next kept M) (ha : a ≤ 11) : f_X8_count (nI a) M = some (if a = 10 then nI kept else cN d.1 d.2.1 d.2.2.2.1 d.2.2.1 d.2.2.2.2.1 d.2.2.2.2.2 a) := by
  unfold f_X8_count
  exact eq_n (nI_pos (by omega)) (eq_p (nI_le (b := 11) ha (by decide)) (eq_b (numOf_c h ha) rfl))
abbrev dG (d : Dt) (l : Nat) : Nat := cG (cntd (sWhy d.1 d.2.1 d.2.2.2.1)) (dH d.1 d.2.2.2.1) d.2.2.2.2.1 l
theorem levelCount_a {d : Dt} {D : Nat → Dt} {next kept l : Nat} {M : Mem} (h : Cr d D next kept M) (hl : l ≤ 140) : f_X8_levelCount (nI l) M = some (nI (dG d l)) := by
  unfold f_X8_levelCount
  refine eq_b (isLevel_c _ _) ?_
  rw [if_pos (show 0 ≤ nI l ∧ nI l ≤ 140 from ⟨le_n (nI_pos (by omega)), nI_le (b := 140) hl (by decide)⟩)]
  refine eq_n (by decide) (eq_b (rd_nI (by omega) (by decide)) ?_)
  exact congrArg some (h.2.2.2.1.2 l hl)
theorem percent_a {d : Dt} {D : Nat → Dt} {next kept p : Nat} {M : Mem} (h : Cr d D next kept M) (hp : 1 ≤ p ∧ p ≤ 100) : f_X8_percentLevel (nI p) M = some (sPct (nI p) (shB d) (dG d)) := by
  have hb := (sh_le h.1).2
  have e4 : M 56 4 = nI (shB d) := h.2.2.2.1.1.1.2.1
  unfold f_X8_percentLevel
  refine eq_n (nI_ge (b := p) (a := 0) (by omega) (by omega) |> fun q => n_lt' (nI_le (a := 1) hp.1 (by omega))) (eq_p (nI_le (b := 100) hp.2 (by decide)) ?_)
  rw [e4]
  exact eq_b (percent_c (by omega) h.2.2.2.1.2) rfl
theorem share_a {d : Dt} {D : Nat → Dt} {next kept : Nat} {M : Mem} (h : Cr d D next kept M) : f_X8_share M = some (shD d) := by
  unfold f_X8_share
  exact eq_b (share_c h.1 h.2.2.2.1) rfl
theorem Cr_off {d : Dt} {D : Nat → Dt} {next kept : Nat} {M M' : Mem} (h : Cr d D next kept M) (ho : ∀ c, c ≤ 70 ∨ c = 89 → M' c = M c) : Cr d D next kept M' := by
  obtain ⟨h1, h2, -, h4, h5, -, h7, -⟩ := h
  exact ⟨h1, Sc_off h2 (fun c a b => ho c (by omega)), trivial, Vw_off h4 (fun c a b => ho c (by omega)), HC_off h5 (fun c a b => ho c (by omega)), trivial, h7, trivial⟩
theorem Cr_pc {d d' : Dt} {D : Nat → Dt} {next kept : Nat} {M M3 : Mem} (h : Cr d D next kept M) (hv : Vd d') (hp : PC d d' D next kept M M3) : Cr d' (pushD D kept d) ((next + 1) % 8) (pushK kept) M3 :=
  ⟨hv, hp.1, trivial, hp.2.1, hp.2.2.1, trivial, push_V h.2.2.2.2.1.2.1 h.2.2.2.2.2.2.1 h.1, trivial⟩
/-- each exceedance has one complaint at most -/
theorem sBst_free {fs ls pk co : Nat → Int32} {c p : Int32} {t : Nat} : ∀ {E : Nat}, sBst fs ls pk co c p E = t + 1 → co t = -1
  | 0, h => absurd h (by intro q; cases q)
  | E + 1, h => by
    unfold sBst at h
    by_cases q : co E = -1 ∧ fs E ≤ c ∧ c - p ≤ ls E ∧ (sBst fs ls pk co c p E = 0 ∨ pk (sBst fs ls pk co c p E - 1) < pk E)
    · rw [if_pos q] at h
      have : t = E := by omega
      rw [this]
      exact q.1
    · rw [if_neg q] at h
      exact sBst_free h
def M5 (E nc : Nat) (S : MS) : Prop := ∀ e, e < E → ∀ k, k < nc → S.2.1 k = nI e → S.1 e = nI k
theorem M5_step {fs ls pk cm : Nat → Int32} {p : Int32} {E nc k : Nat} {done : Nat → Prop} {S : MS} (hE : E < 1000) (hk : k < nc) (hnc : nc < 1000) (h : MI E nc done S) (hd : ¬ done k) (h5 : M5 E nc S) : M5 E nc (mStep fs ls pk cm p E S k) := by
  obtain ⟨h1, h2, h3⟩ := h
  have hkm := h3 k hd
  have hle := sBst_le fs ls pk S.1 (cm k) p E
  unfold mStep
  by_cases ht : sBst fs ls pk S.1 (cm k) p E = 0
  · rw [if_pos ht]
    intro e he j hj hq
    have hq : upd S.2.1 k (-1) j = nI e := hq
    by_cases hjk : j = k
    · rw [hjk, upd_s] at hq
      exact absurd hq.symm (n_m1 (by omega))
    · rw [upd_n hjk] at hq
      exact h5 e he j hj hq
  · rw [if_neg ht]
    have hfr := sBst_free (fs := fs) (ls := ls) (pk := pk) (co := S.1) (c := cm k) (p := p) (E := E) (t := sBst fs ls pk S.1 (cm k) p E - 1) (by omega)
    generalize sBst fs ls pk S.1 (cm k) p E = t at ht hle hfr ⊢
    obtain ⟨t, rfl⟩ : ∃ q, t = q + 1 := ⟨t - 1, by omega⟩
    rw [Nat.add_sub_cancel] at hfr ⊢
    intro e he j hj hq
    have hq : upd S.2.1 k (nI t) j = nI e := hq
    show upd S.1 t (nI k) e = nI j
    by_cases hjk : j = k
    · rw [hjk, upd_s] at hq
      have : t = e := (nI_eq (by omega) (by omega)).mp hq
      rw [this, upd_s, hjk]
    · rw [upd_n hjk] at hq
      by_cases het : e = t
      · rw [het] at hq
        exact absurd hq ((h1 t (by omega)).mp hfr j hj)
      · rw [upd_n het]
        exact h5 e he j hj hq
theorem dM_5 {lv wd st cm : Nat → Int32} {n nc : Nat} (hnc : nc ≤ 20) (hg : 1 ≤ gO st) (hn : n ≤ 300) : M5 (dC lv wd st n) nc (dM lv wd st cm n nc) := by
  have hCn := xCnt_le (av := dA lv wd st) hg n
  have hdc : dC lv wd st n = xCnt (gO st) (dA lv wd st) n := rfl
  have hpw := mL_pw (cm := cm) (c := nc) (v := 301) (by decide)
  have hrun : ∀ i, i ≤ (mL cm nc 301).length → MI (dC lv wd st n) nc (fun k => k ∈ (mL cm nc 301).take i) (mRun (eF lv wd st n) (eL lv wd st n) (eK lv wd st n) cm (st 7) (dC lv wd st n) ((mL cm nc 301).take i)) ∧ M5 (dC lv wd st n) nc (mRun (eF lv wd st n) (eL lv wd st n) (eK lv wd st n) cm (st 7) (dC lv wd st n) ((mL cm nc 301).take i)) := by
    intro i
    induction i with
    | zero =>
      intro _
      refine ⟨⟨fun e he => ⟨fun _ k _ z => n_m1 (by omega) z.symm, fun _ => rfl⟩, fun k => Or.inl rfl, fun k _ => rfl⟩, fun e he k _ hq => ?_⟩
      exact absurd (show (-1 : Int32) = nI e from hq).symm (n_m1 (by omega))
    | succ i ih =>
      intro hi
      obtain ⟨r, hr⟩ : ∃ r, (mL cm nc 301)[i]? = some r := by
        rw [List.getElem?_eq_getElem (by omega)]
        exact ⟨_, rfl⟩
      have hrm := (mL_mem (List.mem_of_getElem? hr)).1
      have hts := tk_s _ i r hr
      have hrn : ¬ r ∈ (mL cm nc 301).take i := by
        intro z
        obtain ⟨j, j1, j2⟩ := (tk_mem _ i r).mp z
        have := pw_get hpw j1 j2 hr
        unfold Ls at this
        omega
      rw [hts, mRun_snoc]
      obtain ⟨i1, i2⟩ := ih (by omega)
      have h9 := MI_step (fs := eF lv wd st n) (ls := eL lv wd st n) (pk := eK lv wd st n) (cm := cm) (p := st 7) (show dC lv wd st n < 1000 by omega) hrm (by omega) i1 hrn
      exact ⟨⟨h9.1, h9.2.1, fun k hk => h9.2.2 k (fun z => hk (List.mem_append.mpr (Or.imp id List.mem_singleton.mpr z)))⟩, M5_step (show dC lv wd st n < 1000 by omega) hrm (by omega) i1 hrn i2⟩
  have h := (hrun (mL cm nc 301).length (Nat.le_refl _)).2
  rw [List.take_of_length_le (Nat.le_refl _)] at h
  have e9 : dM lv wd st cm n nc = mRun (eF lv wd st n) (eL lv wd st n) (eK lv wd st n) cm (st 7) (dC lv wd st n) (mL cm nc 301) := by
    unfold dM
    with_reducible rfl
  rw [e9]
  exact h
