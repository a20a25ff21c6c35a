/-! what class and model keep of one another -/
def Vw (d : Dt) (M : Mem) : Prop := V 54 d.1 d.2.1 d.2.2.2.1 d.2.2.1 d.2.2.2.2.1 d.2.2.2.2.2 M ∧ ∀ l, l ≤ 140 → M 89 l = nI (cG (cntd (sWhy d.1 d.2.1 d.2.2.2.1)) (dH d.1 d.2.2.2.1) d.2.2.2.2.1 l)
def Tx (M : Mem) : Prop := ∃ t, t ≤ 60 ∧ M 48 1 = nI t ∧ M 90 4 = nI t ∧ ∀ i, i < t → M 49 i = M 93 i
def Cr (d : Dt) (D : Nat → Dt) (next kept : Nat) (M : Mem) : Prop := Vd d ∧ Sc 1 d M ∧ Zc (M 91) d ∧ Vw d M ∧ HC D next kept M ∧ HZ D kept M ∧ (∀ j, j < kept → Vd (D j)) ∧ Tx M
def Rl (M : Mem) (_L : Lng) : Prop := ∃ d D next kept, Cr d D next kept M
theorem Sc_St {d : Dt} {M : Mem} (hv : Vd d) (h : Sc 1 d M) : St d.1 d.2.1 d.2.2.1 d.2.2.2.2.1 d.2.2.2.2.2 M := by
  obtain ⟨h1, h2, h3, h4, h5⟩ := h
  exact ⟨hv.1, hv.2.1, h1, h2, h3, fun k hk => ⟨h5 k hk, hv.2.2.2.2.2 k hk⟩⟩
theorem Zc_zM {d : Dt} {M : Mem} (hv : Vd d) (h : Zc (M 91) d) : zM d.1 d.2.1 d.2.2.2.2.1 M := ⟨hv.1, h.1, h.2.2.1⟩
theorem Zc_zC {d : Dt} {M : Mem} (hv : Vd d) (h : Zc (M 91) d) : zC d.2.2.1 d.2.2.2.2.2 M := ⟨hv.2.1, h.2.1, fun k hk => ⟨h.2.2.2.2 k hk, hv.2.2.2.2.2 k hk⟩⟩
theorem Zc_st {d : Dt} {M : Mem} (h : Zc (M 91) d) : st10 (mSt M) d.2.2.2.1 := h.2.2.2.1
theorem Zc_ok {d : Dt} {M : Mem} (hv : Vd d) (h : Zc (M 91) d) : stOK (mSt M) := stOK_cong (Zc_st h).sy hv.2.2.2.2.1
theorem readAgain_c {M : Mem} {d : Dt} (hv : Vd d) (h : Sc 1 d M) : Ok (f_X8_readAgain M) (fun M' => Vw d M' ∧ Off (fun c => 55 ≤ c ∧ c ≤ 70 ∨ c = 89) M M') := by
  unfold f_X8_readAgain f_X7_takeSettings
  refine Ok.eqb (a := rset M 55 (va_cpy (M 4) (M 55) 0 0 10)) ?_ ?_
  · rw [show cpy M 4 10 0 (54 + 1) 10 0 10 = some (rset M 55 (va_cpy (M 4) (M 55) 0 0 10)) from cpy_c (n := 10) rfl (by decide)]
    rfl
  have hg : st10 (rset M 55 (va_cpy (M 4) (M 55) 0 0 10) (54 + 1)) d.2.2.2.1 := fun k hk => by
    rw [rset_s, cpy_at (by omega)]
    exact h.2.2.2.1 k hk
  have o1 : Off (fun c => 55 ≤ c ∧ c ≤ 70 ∨ c = 89) M (rset M 55 (va_cpy (M 4) (M 55) 0 0 10)) := Off.rf.rset (by omega)
  have hS : Sc 1 d (rset M 55 (va_cpy (M 4) (M 55) 0 0 10)) := Sc_off h (fun c hc hc2 => rset_o (by omega))
  generalize rset M 55 (va_cpy (M 4) (M 55) 0 0 10) = M1 at hg o1 hS ⊢
  refine Ok.bind (look_c (u := 54) (by decide) (Sc_St hv hS) hv.2.2.2.2.1 hg) ?_
  rintro M2 ⟨a1, a2⟩
  refine Ok.bind (ltally_c (u := 56) (n := d.2.2.2.2.1) (p := cntd (sWhy d.1 d.2.1 d.2.2.2.1)) (H := dH d.1 d.2.2.2.1) hv.1 (by decide) a1.1.1 (fun m hm => ?_) (fun m hm => ?_)) ?_
  · unfold cntd
    rw [show M2 (56 + 3) m = _ from (a1.2.1 m hm).2.2]
  · obtain ⟨f, hf, e1, e2⟩ := dF_r hv.2.2.2.1 hv.2.2.2.2.1 hm
    exact ⟨f, hf, by rw [show M2 (56 + 1) m = _ from (a1.2.1 m hm).1]; exact e1, e2⟩
  · rintro M3 ⟨b1, b2⟩
    exact Ok.of ⟨⟨V_off a1 (fun c hc hc2 => b2 c (by omega)), b1⟩, (o1.tr (a2.mono (fun c hc => by omega))).tr (b2.mono (fun c hc => Or.inr hc))⟩
theorem Vw_off {d : Dt} {M M' : Mem} (h : Vw d M) (ho : ∀ c, 54 ≤ c → c ≤ 70 ∨ c = 89 → M' c = M c) : Vw d M' := by
  refine ⟨V_off h.1 (fun c hc hc2 => ho c (by omega) (by omega)), ?_⟩
  rw [ho 89 (by decide) (by decide)]
  exact h.2
theorem HC_off {D : Nat → Dt} {next kept : Nat} {M M' : Mem} (h : HC D next kept M) (ho : ∀ c, 6 ≤ c → c ≤ 46 → M' c = M c) : HC D next kept M' := by
  obtain ⟨h1, h2, h3, h4, h5⟩ := h
  refine ⟨h1, h2, by rw [ho 46 (by decide) (by decide)]; exact h3, by rw [ho 46 (by decide) (by decide)]; exact h4, fun j hj => Sc_off (h5 j hj) (fun c hc hc2 => ho c (by omega) (by omega))⟩
theorem HZ_off {D : Nat → Dt} {kept : Nat} {M M' : Mem} (h : HZ D kept M) (h2 : M' 90 2 = M 90 2) (ho : M' 92 = M 92) : HZ D kept M' := by
  unfold HZ
  rw [h2, ho]
  exact h
/-- a step that changes only what a question may change -/
def Qt (M M' : Mem) : Prop := M' 48 1 = M 48 1 ∧ M' 90 2 = M 90 2 ∧ M' 90 4 = M 90 4 ∧ Off (fun c => c = 48 ∨ 50 ≤ c ∧ c ≤ 53 ∨ 71 ≤ c ∧ c ≤ 87 ∨ c = 90 ∨ 94 ≤ c ∧ c ≤ 107) M M'
theorem Qt.rf {M : Mem} : Qt M M := ⟨rfl, rfl, rfl, Off.rf⟩
theorem Qt.tr {M M' M'' : Mem} (h : Qt M M') (h2 : Qt M' M'') : Qt M M'' := ⟨h2.1.trans h.1, h2.2.1.trans h.2.1, h2.2.2.1.trans h.2.2.1, h.2.2.2.tr h2.2.2.2⟩
theorem Tx_q {M M' : Mem} (h : Tx M) (h1 : M' 48 1 = M 48 1) (h2 : M' 90 4 = M 90 4) (h3 : M' 49 = M 49) (h4 : M' 93 = M 93) : Tx M' := by
  obtain ⟨t, a, b, c, e⟩ := h
  exact ⟨t, a, by rw [h1]; exact b, by rw [h2]; exact c, by rw [h3, h4]; exact e⟩
theorem Cr_q {d : Dt} {D : Nat → Dt} {next kept : Nat} {M M' : Mem} (h : Cr d D next kept M) (hq : Qt M M') : Cr d D next kept M' := by
  obtain ⟨h1, h2, h3, h4, h5, h6, h7, h8⟩ := h
  obtain ⟨q1, q2, q3, q4⟩ := hq
  exact ⟨h1, Sc_off h2 (fun c hc hc2 => q4 c (by omega)), by rw [q4 91 (by omega)]; exact h3, Vw_off h4 (fun c hc hc2 => q4 c (by omega)), HC_off h5 (fun c hc hc2 => q4 c (by omega)), HZ_off h6 q2 (q4 92 (by omega)), h7, Tx_q h8 q1 q3 (q4 49 (by omega)) (q4 93 (by omega))⟩
/-- what the model lays, by the state's settings -/
theorem dA_st {lv wd st st' : Nat → Int32} (h : st10 st st') : dA lv wd st = dA lv wd st' := by
  funext m
  unfold dA
  rw [sWhy_cong h (fun _ _ => rfl) (fun _ _ => rfl)]
theorem sWhy_st {lv wd st st' : Nat → Int32} (h : st10 st st') : sWhy lv wd st = sWhy lv wd st' := funext fun m => sWhy_cong h (fun _ _ => rfl) (fun _ _ => rfl)
theorem dF_st {lv st st' : Nat → Int32} (h : st10 st st') : dF lv st = dF lv st' := by
  funext m
  unfold dF
  rw [h 8 (by decide)]
theorem dS_st {lv st st' : Nat → Int32} (h : st10 st st') : dS lv st = dS lv st' := by
  funext m
  unfold dS
  rw [h 9 (by decide)]
theorem dT_st {lv st st' : Nat → Int32} (h : st10 st st') : dT lv st = dT lv st' := by
  funext m
  unfold dT
  rw [dS_st h, sLim_cong h]
theorem gO_st {st st' : Nat → Int32} (h : st10 st st') : gO st = gO st' := by
  unfold gO
  rw [h 6 (by decide)]
theorem rest_st {st st' : Nat → Int32} (h : st10 st st') : (fun m => decide (sRest st m)) = (fun m => decide (sRest st' m)) := by
  funext m
  have := sRest_cong h m
  by_cases hr : sRest st m
  · rw [decide_eq_true hr, decide_eq_true (this.mp hr)]
  · rw [decide_eq_false hr, decide_eq_false (fun q => hr (this.mpr q))]
theorem dH_st {lv st st' : Nat → Int32} (h : st10 st st') : dH lv st = dH lv st' := by
  funext m
  unfold dH
  rw [dF_st h]
theorem dM_st {lv wd st st' cm : Nat → Int32} {n nc : Nat} (h : st10 st st') : dM lv wd st cm n nc = dM lv wd st' cm n nc := by
  unfold dM dC
  rw [dA_st h, dF_st h, gO_st h, h 7 (by decide)]
theorem cN_st {lv wd st st' cm : Nat → Int32} {n nc : Nat} (h : st10 st st') (a : Nat) : cN lv wd st cm n nc a = cN lv wd st' cm n nc a := by
  unfold cN dC
  rw [dM_st h, dA_st h, dT_st h, gO_st h, rest_st h, sWhy_st h]
theorem My_st {lv wd st st' cm : Nat → Int32} {n nc : Nat} {M : Mem} (h : st10 st st') (hM : My lv wd st cm n nc M) : My lv wd st' cm n nc M := by
  unfold My Mx dC at hM ⊢
  rw [dM_st h, dA_st h, dT_st h, gO_st h, dF_st h, dS_st h, sWhy_st h] at hM
  exact hM
/-- the end of a law's case -/
theorem lgc (x : Int64) : lg_cmp x x = 0 := by
  unfold lg_cmp
  simp
