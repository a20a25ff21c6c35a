/-! the class: what changes answer, and leave behind -/
theorem lvl_n {l : Nat} (h : l ≤ 140) : 0 ≤ nI l ∧ nI l ≤ 140 := ⟨le_n (nI_pos (by omega)), nI_le (b := 140) h (by decide)⟩
theorem wnd_n {w : Nat} (h : w ≤ 40) : 0 ≤ nI w ∧ nI w ≤ 40 := ⟨le_n (nI_pos (by omega)), nI_le (b := 40) h (by decide)⟩
theorem set_a {d : Dt} {D : Nat → Dt} {next kept a : Nat} {v : Int32} {M : Mem} (h : Cr d D next kept M) (ha : a < 10) (hsv : svOK a v) :
    Vd (d.1, d.2.1, d.2.2.1, upd d.2.2.2.1 a v, d.2.2.2.2) ∧ Ok (f_X8_set (nI a) v M) (fun r => r.1 = d.2.2.2.1 a ∧ PC d (d.1, d.2.1, d.2.2.1, upd d.2.2.2.1 a v, d.2.2.2.2) D next kept M r.2) := by
  obtain ⟨hv, hs, -⟩ := id h
  have hv' : Vd (d.1, d.2.1, d.2.2.1, upd d.2.2.2.1 a v, d.2.2.2.2) := ⟨hv.1, hv.2.1, hv.2.2.1, hv.2.2.2.1, stOK_upd hv.2.2.2.2.1 ha hsv, hv.2.2.2.2.2⟩
  refine ⟨hv', ?_⟩
  unfold f_X8_set
  refine Ok.eqb (isSetting_c _ _) ?_
  rw [if_pos (show 0 ≤ nI a ∧ nI a ≤ 9 from ⟨le_n (nI_pos (by omega)), nI_le (b := 9) (by omega) (by decide)⟩)]
  refine Ok.neg (by decide) (Ok.eqb (fits_c ha) ?_)
  rw [if_pos hsv]
  refine Ok.neg (by decide) (Ok.bind (keep_cr h) ?_)
  rintro M1 ⟨c1, c2, c3⟩
  refine Ok.eqb (rd_nI (by omega) (by decide)) ?_
  refine Ok.eqb (wr_nI (by omega) (by decide)) ?_
  rw [show M1 4 a = _ from c2.2.2.2.1 a (by omega)]
  have hS : Sc 1 (d.1, d.2.1, d.2.2.1, upd d.2.2.2.1 a v, d.2.2.2.2) (mset M1 4 a v) := by
    obtain ⟨s1, s2, s3, s4, s5⟩ := c2
    refine ⟨by rw [mset_o (by decide)]; exact s1, by rw [mset_o (by decide)]; exact s2, by rw [mset_o (c' := 1 + 1) (by decide), mset_o (c' := 1 + 2) (by decide)]; exact s3, fun k hk => ?_, by rw [mset_o (c' := 1 + 4) (by decide)]; exact s5⟩
    rw [show mset M1 4 a v (1 + 3) = upd (M1 4) a v from mset_r]
    exact upd_st10 s4 k hk
  refine Ok.bind (again_pc hv' c1 c3 hS (Off.rf.set (by omega))) ?_
  rintro M3 ⟨p1, -⟩
  exact Ok.of ⟨rfl, p1⟩
theorem tell_a {d : Dt} {D : Nat → Dt} {next kept l w k : Nat} {M : Mem} (h : Cr d D next kept M) (hl : l ≤ 140) (hw : w ≤ 40) (hk : 1 ≤ k ∧ k ≤ 60) (hn : d.2.2.2.2.1 + k ≤ 200) :
    Vd (addD d (nI l) (nI w) k) ∧ Ok (f_X8_tell (nI l) (nI w) (nI k) M) (fun r => r.1 = nI (d.2.2.2.2.1 + k) ∧ PC d (addD d (nI l) (nI w) k) D next kept M r.2) := by
  obtain ⟨hv, hs, -⟩ := id h
  have hv' := addD_V (w := nI w) hv (lvl_i (lvl_n hl)) k hn
  refine ⟨hv', ?_⟩
  unfold f_X8_tell
  refine Ok.eqb (isLevel_c _ _) ?_
  rw [if_pos (lvl_n hl)]
  refine Ok.neg (by decide) (Ok.eqb (isWind_c _ _) ?_)
  rw [if_pos (wnd_n hw)]
  refine Ok.neg (by decide) (Ok.neg (n_lt' (nI_le (a := 1) hk.1 (by omega))) (Ok.pos (nI_le (b := 60) hk.2 (by decide)) (Ok.pos ?_ ?_)))
  · rw [hs.1, nI_add]
    exact nI_le (b := 200) hn (by decide)
  refine Ok.bind (keep_cr h) ?_
  rintro M1 ⟨c1, c2, c3⟩
  refine Ok.bind (add_c c2 hn) ?_
  rintro M2 ⟨e1, e2⟩
  refine Ok.bind (again_pc hv' c1 c3 e1 e2) ?_
  rintro M3 ⟨p1, p2⟩
  refine Ok.of ⟨?_, p1⟩
  dsimp only
  rw [p1.1.1, addD_n]
theorem correct_a {d : Dt} {D : Nat → Dt} {next kept m l w : Nat} {M : Mem} (h : Cr d D next kept M) (hm : m < d.2.2.2.2.1) (hl : l ≤ 140) (hw : w ≤ 40) :
    Vd (corD d m (nI l) (nI w)) ∧ Ok (f_X8_correct (nI m) (nI l) (nI w) M) (fun r => r.1 = nI (dCn (corD d m (nI l) (nI w))) ∧ PC d (corD d m (nI l) (nI w)) D next kept M r.2) := by
  obtain ⟨hv, hs, -⟩ := id h
  have hn := hv.1
  have hv' := corD_V (w := nI w) hv hm (lvl_i (lvl_n hl))
  refine ⟨hv', ?_⟩
  unfold f_X8_correct
  refine Ok.eqb (hasMinute_c hs.1) ?_
  rw [if_pos (inR_n hm (by omega))]
  refine Ok.neg (by decide) (Ok.eqb (isLevel_c _ _) ?_)
  rw [if_pos (lvl_n hl)]
  refine Ok.neg (by decide) (Ok.eqb (isWind_c _ _) ?_)
  rw [if_pos (wnd_n hw)]
  refine Ok.neg (by decide) (Ok.bind (keep_cr h) ?_)
  rintro M1 ⟨c1, c2, c3⟩
  refine Ok.eqb (wr_nI (by omega) (by decide)) ?_
  refine Ok.eqb (wr_nI (by omega) (by decide)) ?_
  refine Ok.bind (again_pc hv' c1 c3 (cor_S c2) ((Off.rf.set (by omega)).set (by omega))) ?_
  rintro M3 ⟨p1, p2⟩
  exact Ok.of ⟨p1.2.1.1.2.2.1.1.1, p1⟩
theorem forget_a {d : Dt} {D : Nat → Dt} {next kept k : Nat} {M : Mem} (h : Cr d D next kept M) (hk : 1 ≤ k ∧ k ≤ d.2.2.2.2.1) :
    Vd (forD d k) ∧ Ok (f_X8_forget (nI k) M) (fun r => r.1 = nI (d.2.2.2.2.1 - k) ∧ PC d (forD d k) D next kept M r.2) := by
  obtain ⟨hv, hs, -⟩ := id h
  have hn := hv.1
  have hv' := forD_V (k := k) hv
  refine ⟨hv', ?_⟩
  unfold f_X8_forget
  refine Ok.neg (n_lt' (nI_le (a := 1) hk.1 (by omega))) (Ok.pos (by rw [hs.1]; exact nI_le hk.2 (by omega)) ?_)
  refine Ok.bind (keep_cr h) ?_
  rintro M1 ⟨c1, c2, c3⟩
  refine Ok.bind (drop_c hv c2 hk.2) ?_
  rintro M2 ⟨e1, e2⟩
  refine Ok.bind (again_pc hv' c1 c3 e1 e2) ?_
  rintro M3 ⟨p1, p2⟩
  exact Ok.of ⟨p1.1.1, p1⟩
theorem complain_a {d : Dt} {D : Nat → Dt} {next kept w : Nat} {M : Mem} (h : Cr d D next kept M) (hw : w ≤ 300) (hc : d.2.2.2.2.2 < 20) :
    Vd (cplD d (nI w)) ∧ Ok (f_X8_complain (nI w) M) (fun r => r.1 = nI d.2.2.2.2.2 ∧ PC d (cplD d (nI w)) D next kept M r.2) := by
  obtain ⟨hv, hs, -⟩ := id h
  have hv' := cplD_V hv hw hc
  refine ⟨hv', ?_⟩
  unfold f_X8_complain
  refine Ok.neg (nI_pos (by omega)) (Ok.pos (nI_le (b := 300) hw (by decide)) (Ok.pos (by rw [hs.2.1]; exact nI_lt (b := 20) hc (by decide)) ?_))
  refine Ok.bind (keep_cr h) ?_
  rintro M1 ⟨c1, c2, c3⟩
  refine Ok.bind (P := fun M2 => Sc 1 (cplD d (nI w)) M2 ∧ Off (fun c => 1 ≤ c ∧ c ≤ 5) M1 M2) ?_ ?_
  · unfold f_X5_addComplaint
    dsimp only [Nat.reduceAdd]
    refine Ok.neg (by rw [c2.2.1]; exact nI_ge (b := 20) hc (by decide)) ?_
    rw [c2.2.1]
    refine Ok.eqb (wr_nI (by omega) (by decide)) ?_
    rw [stf_e]
    refine Ok.eqb rfl (Ok.of ⟨?_, (Off.rf.set (by omega)).set (by omega)⟩)
    rw [mset_o (c' := 1) (by decide), c2.2.1, nI_1]
    exact cpl_S c2
  · rintro M2 ⟨e1, e2⟩
    refine Ok.bind (again_pc hv' c1 c3 e1 e2) ?_
    rintro M3 ⟨p1, p2⟩
    exact Ok.of ⟨c2.2.1, p1⟩
theorem withdraw_a {d : Dt} {D : Nat → Dt} {next kept c : Nat} {M : Mem} (h : Cr d D next kept M) (hc : c < d.2.2.2.2.2) :
    Vd (wdrD d c) ∧ Ok (f_X8_withdraw (nI c) M) (fun r => r.1 = (dMD d).2.1 c ∧ PC d (wdrD d c) D next kept M r.2) := by
  obtain ⟨hv, hs, -, hw, -⟩ := id h
  have hnc := hv.2.1
  have hv' := wdrD_V (c := c) hv
  refine ⟨hv', ?_⟩
  obtain ⟨v0, e0⟩ : ∃ v0, v0 = (dM d.1 d.2.1 d.2.2.2.1 d.2.2.1 d.2.2.2.2.1 d.2.2.2.2.2).2.1 c := ⟨_, rfl⟩
  have e1 : (dMD d).2.1 c = v0 := by
    rw [e0]
  rw [e1]
  unfold f_X8_withdraw
  refine Ok.eqb (hasComplaint_c hs.2.1) ?_
  rw [if_pos (inR_n hc (by omega))]
  refine Ok.neg (by decide) (Ok.bind (keep_cr h) ?_)
  rintro M1 ⟨c1, c2, c3⟩
  refine Ok.eqb (rd_nI (by omega) (by decide)) ?_
  refine Ok.bind (wdr_c hv c2 hc) ?_
  rintro M2 ⟨e1, e2⟩
  refine Ok.bind (again_pc hv' c1 c3 e1 e2) ?_
  rintro M3 ⟨p1, p2⟩
  refine Ok.of ⟨?_, p1⟩
  dsimp only
  rw [c3 68 (by omega), show M 68 c = _ from hw.1.2.2.2.1.2.2.1 c hc, ← e0]
/-- behind a change: class and law's post agree again -/
def AP (d : Dt) (kept : Nat) (r : Int32 × Mem) : Prop := r.1 = 1 ∧ ∃ d' D' next' kept', Cr d' D' next' kept' r.2 ∧ LzD d' r.2 ∧ LcD d' r.2 ∧ kept ≤ kept' ∧ (d.2.2.2.2.1 = 0 → 0 < kept')
theorem AP_pc {d d' : Dt} {D : Nat → Dt} {next kept : Nat} {M M3 : Mem} (h : Cr d D next kept M) (hv : Vd d') (hp : PC d d' D next kept M M3) (hz : LzD d' M) (hc : LcD d' M) : AP d kept (1, M3) := by
  have hk := h.2.2.2.2.1.2.1
  refine ⟨rfl, d', _, _, _, Cr_pc h hv hp, Lz_off hz (fun c a b => hp.2.2.2 c (by omega)), Lc_off hc (fun c a b => hp.2.2.2 c (by omega)), ?_, fun _ => ?_⟩
  · unfold pushK
    split <;> omega
  · unfold pushK
    split <;> omega
theorem AP_same {d : Dt} {D : Nat → Dt} {next kept : Nat} {M : Mem} (h : Cr d D next kept M) (hz : LzD d M) (hc : LcD d M) (hn : d.2.2.2.2.1 ≠ 0) : AP d kept (1, M) :=
  ⟨rfl, d, D, next, kept, h, hz, hc, Nat.le_refl _, fun q => absurd q hn⟩
