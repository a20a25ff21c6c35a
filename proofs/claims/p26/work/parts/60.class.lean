/-! the class, as the law asks it -/
theorem eq_b {α β : Type} {o : Option α} {f : α → Option β} {a : α} {z : Option β} (h : o = some a) (k : f a = z) : o.bind f = z := by
  subst h
  exact k
theorem eq_n {α : Type} {c : Prop} [Decidable c] {x y z : α} (h : ¬ c) (k : y = z) : (if c then x else y) = z := by
  rw [if_neg h]
  exact k
theorem eq_p {α : Type} {c : Prop} [Decidable c] {x y z : α} (h : c) (k : x = z) : (if c then x else y) = z := by
  rw [if_pos h]
  exact k
theorem dF_r {lv st : Nat → Int32} {n m : Nat} (hl : lvOK lv n) (hst : stOK st) (hm : m < n) : ∃ f, f ≤ 1400 ∧ dF lv st m = nI f ∧ dH lv st m = f / 10 := by
  have h := arm_rng hl hst.2.2.2.2.2.2.2.2.1.1 (m + 1) (by omega)
  refine ⟨(dF lv st m).toInt.toNat, ?_, (nI_ex h.1).1, rfl⟩
  unfold dF
  omega
def Vw (d : Dt) (M : Mem) : Prop := V 54 d.1 d.2.1 d.2.2.2.1 d.2.2.1 d.2.2.2.2.1 d.2.2.2.2.2 M ∧ ∀ l, l ≤ 140 → M 89 l = nI (cG (cntd (sWhy d.1 d.2.1 d.2.2.2.1)) (dH d.1 d.2.2.2.1) d.2.2.2.2.1 l)
def Cr (d : Dt) (D : Nat → Dt) (next kept : Nat) (M : Mem) : Prop := Vd d ∧ Sc 1 d M ∧ True ∧ Vw d M ∧ HC D next kept M ∧ True ∧ (∀ j, j < kept → Vd (D j)) ∧ True
theorem Sc_St {d : Dt} {M : Mem} (hv : Vd d) (h : Sc 1 d M) : St d.1 d.2.1 d.2.2.1 d.2.2.2.2.1 d.2.2.2.2.2 M := by
  obtain ⟨h1, h2, h3, h4, h5⟩ := h
  exact ⟨hv.1, hv.2.1, h1, h2, h3, fun k hk => ⟨h5 k hk, hv.2.2.2.2.2 k hk⟩⟩
theorem readAgain_c {M : Mem} {d : Dt} (hv : Vd d) (h : Sc 1 d M) : Ok (f_X8_readAgain M) (fun M' => Vw d M' ∧ Off (fun c => 55 ≤ c ∧ c ≤ 70 ∨ c = 89) M M') := by
  unfold f_X8_readAgain f_X7_takeSettings
  refine Ok.eqb (a := rset M 55 (va_cpy (M 4) (M 55) 0 0 10)) ?_ ?_
  · rw [show cpy M 4 10 0 (54 + 1) 10 0 10 = some (rset M 55 (va_cpy (M 4) (M 55) 0 0 10)) from cpy_c (n := 10) rfl (by decide)]
    rfl
  have hg : st10 (rset M 55 (va_cpy (M 4) (M 55) 0 0 10) (54 + 1)) d.2.2.2.1 := fun k hk => by
    rw [rset_s, cpy_at (by omega)]
    exact h.2.2.2.1 k hk
  have o1 : Off (fun c => 55 ≤ c ∧ c ≤ 70 ∨ c = 89) M (rset M 55 (va_cpy (M 4) (M 55) 0 0 10)) := Off.rf.rset (by omega)
  have hS : Sc 1 d (rset M 55 (va_cpy (M 4) (M 55) 0 0 10)) := Sc_off h (fun c hc hc2 => rset_o (by omega))
  generalize rset M 55 (va_cpy (M 4) (M 55) 0 0 10) = M1 at hg o1 hS ⊢
  refine Ok.bind (look_c (u := 54) (by decide) (Sc_St hv hS) hv.2.2.2.2.1 hg) ?_
  rintro M2 ⟨a1, a2⟩
  refine Ok.bind (ltally_c (u := 56) (n := d.2.2.2.2.1) (p := cntd (sWhy d.1 d.2.1 d.2.2.2.1)) (H := dH d.1 d.2.2.2.1) hv.1 (by decide) a1.1.1 (fun m hm => ?_) (fun m hm => ?_)) ?_
  · unfold cntd
    rw [show M2 (56 + 3) m = _ from (a1.2.1 m hm).2.2]
  · obtain ⟨f, hf, e1, e2⟩ := dF_r hv.2.2.2.1 hv.2.2.2.2.1 hm
    exact ⟨f, hf, by rw [show M2 (56 + 1) m = _ from (a1.2.1 m hm).1]; exact e1, e2⟩
  · rintro M3 ⟨b1, b2⟩
    exact Ok.of ⟨⟨V_off a1 (fun c hc hc2 => b2 c (by omega)), b1⟩, (o1.tr (a2.mono (fun c hc => by omega))).tr (b2.mono (fun c hc => Or.inr hc))⟩
theorem Vw_off {d : Dt} {M M' : Mem} (h : Vw d M) (ho : ∀ c, 54 ≤ c → c ≤ 70 ∨ c = 89 → M' c = M c) : Vw d M' := by
  refine ⟨V_off h.1 (fun c hc hc2 => ho c (by omega) (by omega)), ?_⟩
  rw [ho 89 (by decide) (by decide)]
  exact h.2
theorem HC_off {D : Nat → Dt} {next kept : Nat} {M M' : Mem} (h : HC D next kept M) (ho : ∀ c, 6 ≤ c → c ≤ 46 → M' c = M c) : HC D next kept M' := by
  obtain ⟨h1, h2, h3, h4, h5⟩ := h
  refine ⟨h1, h2, by rw [ho 46 (by decide) (by decide)]; exact h3, by rw [ho 46 (by decide) (by decide)]; exact h4, fun j hj => Sc_off (h5 j hj) (fun c hc hc2 => ho c (by omega) (by omega))⟩
/-- what the model lays, by the state's settings -/
theorem dA_st {lv wd st st' : Nat → Int32} (h : st10 st st') : dA lv wd st = dA lv wd st' := by
  funext m
  unfold dA
  rw [sWhy_cong h (fun _ _ => rfl) (fun _ _ => rfl)]
theorem sWhy_st {lv wd st st' : Nat → Int32} (h : st10 st st') : sWhy lv wd st = sWhy lv wd st' := funext fun m => sWhy_cong h (fun _ _ => rfl) (fun _ _ => rfl)
theorem dF_st {lv st st' : Nat → Int32} (h : st10 st st') : dF lv st = dF lv st' := by
  funext m
  unfold dF
  rw [h 8 (by decide)]
theorem dS_st {lv st st' : Nat → Int32} (h : st10 st st') : dS lv st = dS lv st' := by
  funext m
  unfold dS
  rw [h 9 (by decide)]
theorem dT_st {lv st st' : Nat → Int32} (h : st10 st st') : dT lv st = dT lv st' := by
  funext m
  unfold dT
  rw [dS_st h, sLim_cong h]
theorem gO_st {st st' : Nat → Int32} (h : st10 st st') : gO st = gO st' := by
  unfold gO
  rw [h 6 (by decide)]
theorem rest_st {st st' : Nat → Int32} (h : st10 st st') : (fun m => decide (sRest st m)) = (fun m => decide (sRest st' m)) := by
  funext m
  have := sRest_cong h m
  by_cases hr : sRest st m
  · rw [decide_eq_true hr, decide_eq_true (this.mp hr)]
  · rw [decide_eq_false hr, decide_eq_false (fun q => hr (this.mpr q))]
theorem dH_st {lv st st' : Nat → Int32} (h : st10 st st') : dH lv st = dH lv st' := by
  funext m
  unfold dH
  rw [dF_st h]
theorem dM_st {lv wd st st' cm : Nat → Int32} {n nc : Nat} (h : st10 st st') : dM lv wd st cm n nc = dM lv wd st' cm n nc := by
  unfold dM dC
  rw [dA_st h, dF_st h, gO_st h, h 7 (by decide)]
theorem cN_st {lv wd st st' cm : Nat → Int32} {n nc : Nat} (h : st10 st st') (a : Nat) : cN lv wd st cm n nc a = cN lv wd st' cm n nc a := by
  unfold cN dC
  rw [dM_st h, dA_st h, dT_st h, gO_st h, rest_st h, sWhy_st h]
abbrev inR (a : Int32) (n : Nat) : Prop := 0 ≤ a ∧ ¬ nI n ≤ a
theorem inR_ex {a : Int32} {n : Nat} (hn : n < 2 ^ 31) (h : inR a n) : ∃ k, k < n ∧ a = nI k := by
  obtain ⟨h1, h2⟩ := h
  have h1' := i_le.mp h1
  have e0 : (0 : Int32).toInt = 0 := rfl
  obtain ⟨e, hlt⟩ := nI_ex (x := a) (by omega)
  refine ⟨a.toInt.toNat, ?_, e⟩
  rw [e] at h2
  have : ¬ n ≤ a.toInt.toNat := fun q => h2 ((n_le hn hlt).mpr q)
  omega
theorem ar {x : Int32} {K : Nat} (hK : K < 2 ^ 31 - 1) (h1 : ¬ x < 0) (h2 : x ≤ nI K) : ∃ a, a ≤ K ∧ x = nI a := by
  have h1' := i_le.mp (le_n h1)
  have e0 : (0 : Int32).toInt = 0 := rfl
  obtain ⟨e, hlt⟩ := nI_ex (x := x) (by omega)
  refine ⟨x.toInt.toNat, ?_, e⟩
  rw [e] at h2
  exact (n_le hlt (by omega)).mp h2
theorem bz_if {c : Prop} [Decidable c] : bz (if c then 1 else 0) = some (if c then 1 else 0) := by
  by_cases h : c
  · rw [if_pos h]; rfl
  · rw [if_neg h]; rfl
theorem hasMinute_c {M : Mem} {n : Nat} {a : Int32} (h : M 1 4 = nI n) : f_X5_hasMinute 1 a M = some (if inR a n then 1 else 0) := by
  unfold f_X5_hasMinute
  rw [h]
  by_cases h1 : a < 0
  · rw [if_pos h1, if_neg (fun q => n_le' h1 q.1)]
  · rw [if_neg h1]
    by_cases h2 : nI n ≤ a
    · rw [if_pos h2, if_neg (fun q => q.2 h2)]
    · rw [if_neg h2, if_pos ⟨le_n h1, h2⟩]
theorem hasComplaint_c {M : Mem} {n : Nat} {a : Int32} (h : M 1 5 = nI n) : f_X5_hasComplaint 1 a M = some (if inR a n then 1 else 0) := by
  unfold f_X5_hasComplaint
  rw [h]
  by_cases h1 : a < 0
  · rw [if_pos h1, if_neg (fun q => n_le' h1 q.1)]
  · rw [if_neg h1]
    by_cases h2 : nI n ≤ a
    · rw [if_pos h2, if_neg (fun q => q.2 h2)]
    · rw [if_neg h2, if_pos ⟨le_n h1, h2⟩]
def mP (d : Dt) (m : Nat) : Nat → Int32
  | 0 => d.1 m
  | 1 => d.2.1 m
  | 2 => dF d.1 d.2.2.2.1 m
  | 3 => dS d.1 d.2.2.2.1 m
  | 4 => sLim d.2.2.2.1 m
  | 5 => if sRest d.2.2.2.1 m then 1 else 0
  | 6 => sWhy d.1 d.2.1 d.2.2.2.1 m
  | _ => ownA (xFst (gO d.2.2.2.1) (dA d.1 d.2.1 d.2.2.2.1) d.2.2.2.2.1) (xLst (gO d.2.2.2.1) (dA d.1 d.2.1 d.2.2.2.1) d.2.2.2.2.1) (dC d.1 d.2.1 d.2.2.2.1 d.2.2.2.2.1) m
def eP (d : Dt) (e : Nat) : Nat → Int32
  | 0 => xFst (gO d.2.2.2.1) (dA d.1 d.2.1 d.2.2.2.1) d.2.2.2.2.1 e
  | 1 => xLst (gO d.2.2.2.1) (dA d.1 d.2.1 d.2.2.2.1) d.2.2.2.2.1 e
  | 2 => xAbo (gO d.2.2.2.1) (dA d.1 d.2.1 d.2.2.2.1) d.2.2.2.2.1 e
  | 3 => xPk (gO d.2.2.2.1) (dA d.1 d.2.1 d.2.2.2.1) (dF d.1 d.2.2.2.1) d.2.2.2.2.1 e
  | 4 => xWt (gO d.2.2.2.1) (dA d.1 d.2.1 d.2.2.2.1) (dT d.1 d.2.2.2.1) d.2.2.2.2.1 e
  | _ => (dM d.1 d.2.1 d.2.2.2.1 d.2.2.1 d.2.2.2.2.1 d.2.2.2.2.2).1 e
def dCn (d : Dt) : Nat := dC d.1 d.2.1 d.2.2.2.1 d.2.2.2.2.1
theorem dCn_le {d : Dt} (hv : Vd d) : 2 * dCn d ≤ d.2.2.2.2.1 + 1 := xCnt_le (gO_b hv.2.2.2.2.1).2.1 _
theorem minuteProp_c {d : Dt} {D : Nat → Dt} {next kept m w : Nat} {M : Mem} (h : Cr d D next kept M) (hm : m < d.2.2.2.2.1) (hw : w ≤ 7) : f_X8_minuteProperty (nI m) (nI w) M = some (mP d m w) := by
  obtain ⟨hv, hs, -, ⟨⟨-, v2, ⟨-, -, v3⟩, -⟩, -⟩, -⟩ := h
  have hn := hv.1
  obtain ⟨a2, a3, a6⟩ := v2 m hm
  obtain ⟨s1, s2⟩ := hs.2.2.1 m hm
  have hst := stOK_cong hs.2.2.2.1.sy hv.2.2.2.2.1
  unfold f_X8_minuteProperty
  have d0 : w ≠ 0 → ¬ nI w = 0 := fun h => nI_ne (b := 0) (by omega) (by decide) h
  have d1 : w ≠ 1 → ¬ nI w = 1 := fun h => nI_ne (b := 1) (by omega) (by decide) h
  have d2 : w ≠ 2 → ¬ nI w = 2 := fun h => nI_ne (b := 2) (by omega) (by decide) h
  have d3 : w ≠ 3 → ¬ nI w = 3 := fun h => nI_ne (b := 3) (by omega) (by decide) h
  have d4 : w ≠ 4 → ¬ nI w = 4 := fun h => nI_ne (b := 4) (by omega) (by decide) h
  have d5 : w ≠ 5 → ¬ nI w = 5 := fun h => nI_ne (b := 5) (by omega) (by decide) h
  have d6 : w ≠ 6 → ¬ nI w = 6 := fun h => nI_ne (b := 6) (by omega) (by decide) h
  by_cases h0 : w = 0
  · subst h0
    rw [if_pos (show nI 0 = 0 from rfl), rd_nI (by omega) (by decide), Option.bind_some]
    exact congrArg some s1
  rw [if_neg (d0 h0)]
  by_cases h1 : w = 1
  · subst h1
    rw [if_pos (show nI 1 = 1 from rfl), rd_nI (by omega) (by decide), Option.bind_some]
    exact congrArg some s2
  rw [if_neg (d1 h1)]
  by_cases h2 : w = 2
  · subst h2
    rw [if_pos (show nI 2 = 2 from rfl), rd_nI (by omega) (by decide), Option.bind_some]
    exact congrArg some a2
  rw [if_neg (d2 h2)]
  by_cases h3 : w = 3
  · subst h3
    rw [if_pos (show nI 3 = 3 from rfl), rd_nI (by omega) (by decide), Option.bind_some]
    exact congrArg some a3
  rw [if_neg (d3 h3)]
  by_cases h4 : w = 4
  · subst h4
    rw [if_pos (show nI 4 = 4 from rfl), limitAt_c hst (by omega), Option.bind_some, sLim_cong hs.2.2.2.1]
    rfl
  rw [if_neg (d4 h4)]
  by_cases h5 : w = 5
  · subst h5
    rw [if_pos (show nI 5 = 5 from rfl), isRest_c hst (by omega), Option.bind_some]
    have hr := sRest_cong hs.2.2.2.1 m
    show _ = some (if sRest d.2.2.2.1 m then 1 else 0)
    by_cases hq : sRest d.2.2.2.1 m
    · rw [if_pos hq, if_pos (show sRest (M 4) m from hr.mpr hq), if_neg (by decide)]
    · rw [if_neg hq, if_neg (show ¬ sRest (M 4) m from fun q => hq (hr.mp q)), if_pos rfl]
  rw [if_neg (d5 h5)]
  by_cases h6 : w = 6
  · subst h6
    rw [if_pos (show nI 6 = 6 from rfl), rd_nI (by omega) (by decide), Option.bind_some]
    exact congrArg some a6
  rw [if_neg (d6 h6), rd_nI (by omega) (by decide), Option.bind_some]
  obtain ⟨k, rfl⟩ : ∃ k, w = k + 7 := ⟨w - 7, by omega⟩
  exact congrArg some (v3 m hm)
theorem excProp_c {d : Dt} {D : Nat → Dt} {next kept e w : Nat} {M : Mem} (h : Cr d D next kept M) (he : e < dCn d) (hw : w ≤ 5) : f_X8_exceedanceProperty (nI e) (nI w) M = some (eP d e w) := by
  obtain ⟨hv, -, -, ⟨⟨-, -, ⟨hI, -, -⟩, ⟨-, -, -, v4⟩, -⟩, -⟩, -⟩ := h
  have hn := hv.1
  have hle := dCn_le hv
  obtain ⟨e0, e1, e2, e3, e4⟩ := hI.2 e he
  unfold f_X8_exceedanceProperty
  have d0 : w ≠ 0 → ¬ nI w = 0 := fun h => nI_ne (b := 0) (by omega) (by decide) h
  have d1 : w ≠ 1 → ¬ nI w = 1 := fun h => nI_ne (b := 1) (by omega) (by decide) h
  have d2 : w ≠ 2 → ¬ nI w = 2 := fun h => nI_ne (b := 2) (by omega) (by decide) h
  have d3 : w ≠ 3 → ¬ nI w = 3 := fun h => nI_ne (b := 3) (by omega) (by decide) h
  have d4 : w ≠ 4 → ¬ nI w = 4 := fun h => nI_ne (b := 4) (by omega) (by decide) h
  by_cases h0 : w = 0
  · subst h0
    rw [if_pos (show nI 0 = 0 from rfl), rd_nI (by omega) (by decide), Option.bind_some]
    exact congrArg some e0
  rw [if_neg (d0 h0)]
  by_cases h1 : w = 1
  · subst h1
    rw [if_pos (show nI 1 = 1 from rfl), rd_nI (by omega) (by decide), Option.bind_some]
    exact congrArg some e1
  rw [if_neg (d1 h1)]
  by_cases h2 : w = 2
  · subst h2
    rw [if_pos (show nI 2 = 2 from rfl), rd_nI (by omega) (by decide), Option.bind_some]
    exact congrArg some e2
  rw [if_neg (d2 h2)]
  by_cases h3 : w = 3
  · subst h3
    rw [if_pos (show nI 3 = 3 from rfl), rd_nI (by omega) (by decide), Option.bind_some]
    exact congrArg some e3
  rw [if_neg (d3 h3)]
  by_cases h4 : w = 4
  · subst h4
    rw [if_pos (show nI 4 = 4 from rfl), rd_nI (by omega) (by decide), Option.bind_some]
    exact congrArg some e4
  rw [if_neg (d4 h4)]
  rw [rd_nI (by omega) (by decide), Option.bind_some]
  obtain ⟨k, rfl⟩ : ∃ k, w = k + 5 := ⟨w - 5, by omega⟩
  exact congrArg some (v4 e he)
theorem numOf_c {d : Dt} {D : Nat → Dt} {next kept a : Nat} {M : Mem} (h : Cr d D next kept M) (ha : a ≤ 11) : f_X8_numberOf (nI a) M = some (if a = 10 then nI kept else cN d.1 d.2.1 d.2.2.2.1 d.2.2.1 d.2.2.2.2.1 d.2.2.2.2.2 a) := by
  obtain ⟨hv, hs, hz, hw, hH, hZ, h5⟩ := h
  unfold f_X8_numberOf
  by_cases h10 : a = 10
  · subst h10
    rw [if_pos (show nI 10 = 10 from rfl), hH.2.2.2.1]
    rfl
  · rw [if_neg (show ¬ nI a = 10 from nI_ne (b := 10) (by omega) (by decide) h10), numberOf_c hw.1 hv.2.2.2.2.1 hv.1 a ha, if_neg h10]
    rfl
def cP (d : Dt) (c : Nat) : Nat → Int32
  | 0 => d.2.2.1 c
  | _ => (dM d.1 d.2.1 d.2.2.2.1 d.2.2.1 d.2.2.2.2.1 d.2.2.2.2.2).2.1 c
theorem comProp_c {d : Dt} {D : Nat → Dt} {next kept c w : Nat} {M : Mem} (h : Cr d D next kept M) (hc : c < d.2.2.2.2.2) (hw : w ≤ 1) : f_X8_complaintProperty (nI c) (nI w) M = some (cP d c w) := by
  obtain ⟨hv, hs, -, ⟨⟨-, -, -, ⟨-, -, v4, -⟩, -⟩, -⟩, -⟩ := h
  have hnc := hv.2.1
  unfold f_X8_complaintProperty
  by_cases h0 : w = 0
  · subst h0
    rw [if_pos (show nI 0 = 0 from rfl), rd_nI (by omega) (by decide), Option.bind_some]
    exact congrArg some (hs.2.2.2.2 c hc)
  · rw [if_neg (show ¬ nI w = 0 from nI_ne0 (by omega) (by omega)), rd_nI (by omega) (by decide), Option.bind_some]
    obtain ⟨k, rfl⟩ : ∃ k, w = k + 1 := ⟨w - 1, by omega⟩
    exact congrArg some (v4 c hc)
theorem isLevel_c (a : Int32) (M : Mem) : f_X8_isLevel a M = some (if 0 ≤ a ∧ a ≤ 140 then 1 else 0) := by
  unfold f_X8_isLevel
  by_cases h1 : a < 0
  · rw [if_pos h1, if_neg (fun q => n_le' h1 q.1)]
  · rw [if_neg h1]
    by_cases h2 : 140 < a
    · rw [if_pos h2, if_neg (fun q => n_le' h2 q.2)]
    · rw [if_neg h2, if_pos ⟨le_n h1, le_n h2⟩]
theorem isWind_c (a : Int32) (M : Mem) : f_X8_isWind a M = some (if 0 ≤ a ∧ a ≤ 40 then 1 else 0) := by
  unfold f_X8_isWind
  by_cases h1 : a < 0
  · rw [if_pos h1, if_neg (fun q => n_le' h1 q.1)]
  · rw [if_neg h1]
    by_cases h2 : 40 < a
    · rw [if_pos h2, if_neg (fun q => n_le' h2 q.2)]
    · rw [if_neg h2, if_pos ⟨le_n h1, le_n h2⟩]
theorem isSetting_c (a : Int32) (M : Mem) : f_X8_isSetting a M = some (if 0 ≤ a ∧ a ≤ 9 then 1 else 0) := by
  unfold f_X8_isSetting
  have e : ∀ a : Int32, 10 ≤ a ↔ ¬ a ≤ 9 := fun a => by
    rw [i_le, i_le]
    have e10 : (10 : Int32).toInt = 10 := rfl
    have e9 : (9 : Int32).toInt = 9 := rfl
    omega
  by_cases h1 : a < 0
  · rw [if_pos h1, if_neg (fun q => n_le' h1 q.1)]
  · rw [if_neg h1]
    by_cases h2 : 10 ≤ a
    · rw [if_pos h2, if_neg (fun q => (e a).mp h2 q.2)]
    · rw [if_neg h2, if_pos ⟨le_n h1, Classical.not_not.mp (fun q => h2 ((e a).mpr q))⟩]
theorem sLst_st {lv wd st st' : Nat → Int32} {n : Nat} {most : Int32} (h : st10 st st') : sLst lv wd st n most = sLst lv wd st' n most := by
  unfold sLst
  have e : ∀ l, dC lv wd (stL0 st l) n = dC lv wd (stL0 st' l) n := fun l => by
    have hl : st10 (stL0 st l) (stL0 st' l) := fun k hk => by
      unfold stL0
      by_cases h0 : k = 0
      · rw [h0, upd_s, upd_s]
      · rw [upd_n h0, upd_n h0]
        exact h k hk
    unfold dC
    rw [dA_st hl, gO_st hl]
  rw [fI_cong (fun l _ => by rw [e l])]
theorem sAbv_st {lv wd st st' : Nat → Int32} {n : Nat} {loud : Int32} (h : st10 st st') : sAbv lv wd st n loud = sAbv lv wd st' n loud := by
  unfold sAbv
  rw [dA_st h]
abbrev svOK (a : Nat) (v : Int32) : Prop := STb 0 a ≤ v ∧ v ≤ STb 1 a
theorem rdS_0 {k a : Nat} (hk : k < 2) (ha : a < 10) : rdS k (nI a) = some (STb k a) := by
  unfold rdS
  have e : SLn k = 10 := by
    rcases (show k = 0 ∨ k = 1 by omega) with rfl | rfl <;> rfl
  rw [nI_clamp (by omega), e, if_neg]
  rintro (q | q)
  · exact nI_pos (by omega) q
  · omega
theorem fits_c {a : Nat} {v : Int32} {M : Mem} (ha : a < 10) : f_X8_fitsSetting (nI a) v M = some (if svOK a v then 1 else 0) := by
  unfold f_X8_fitsSetting
  have h9 : 0 ≤ nI a ∧ nI a ≤ 9 := ⟨nI_le (a := 0) (b := a) (by omega) (by omega), nI_le (a := a) (b := 9) (by omega) (by decide)⟩
  rw [isSetting_c, if_pos h9, Option.bind_some, if_neg (by decide), rdS_0 (by decide) ha, Option.bind_some]
  by_cases h1 : v < STb 0 a
  · rw [if_pos h1, if_neg (fun q => n_le' h1 q.1)]
  · rw [if_neg h1, rdS_0 (by decide) ha, Option.bind_some]
    by_cases h2 : STb 1 a < v
    · rw [if_pos h2, if_neg (fun q => n_le' h2 q.2)]
    · rw [if_neg h2, if_pos ⟨le_n h1, le_n h2⟩]
theorem stOK_upd {st : Nat → Int32} {a : Nat} {v : Int32} (h : stOK st) (ha : a < 10) (hv : svOK a v) : stOK (upd st a v) := by
  have h1 := i_le.mp hv.1
  have h2 := i_le.mp hv.2
  have key : ∀ k, k < 10 → (upd st a v k).toInt = (st k).toInt ∧ True ∨ k = a ∧ (upd st a v k).toInt = v.toInt := fun k hk => by
    by_cases hka : k = a
    · exact Or.inr ⟨hka, by rw [hka, upd_s]⟩
    · exact Or.inl ⟨by rw [upd_n hka], trivial⟩
  have b : ∀ k, k < 10 → (STb 0 k).toInt ≤ (st k).toInt ∧ (st k).toInt ≤ (STb 1 k).toInt → (STb 0 k).toInt ≤ (upd st a v k).toInt ∧ (upd st a v k).toInt ≤ (STb 1 k).toInt := fun k hk hb => by
    rcases key k hk with ⟨e, -⟩ | ⟨rfl, e⟩
    · rw [e]
      exact hb
    · rw [e]
      exact ⟨h1, h2⟩
  obtain ⟨g0, g1, g2, g3, g4, g5, g6, g7, g8, g9⟩ := h
  exact ⟨b 0 (by omega) g0, b 1 (by omega) g1, b 2 (by omega) g2, b 3 (by omega) g3, b 4 (by omega) g4, b 5 (by omega) g5, b 6 (by omega) g6, b 7 (by omega) g7, b 8 (by omega) g8, b 9 (by omega) g9⟩
theorem upd_st10 {st st' : Nat → Int32} {a : Nat} {v : Int32} (h : st10 st st') : st10 (upd st a v) (upd st' a v) := fun k hk => by
  by_cases hka : k = a
  · rw [hka, upd_s, upd_s]
  · rw [upd_n hka, upd_n hka]
    exact h k hk
/-- the class keeps, changes its state and reads again -/
theorem keep_cr {d : Dt} {D : Nat → Dt} {next kept : Nat} {M : Mem} (h : Cr d D next kept M) : Ok (f_X1_keep 1 M) (fun M1 => HC (pushD D kept d) ((next + 1) % 8) (pushK kept) M1 ∧ Sc 1 d M1 ∧ Off (fun c => 6 ≤ c ∧ c ≤ 46) M M1) := by
  obtain ⟨h1, h2, -, -, h5, -⟩ := h
  refine Ok.mono (keep_c h5 h1 h2) ?_
  rintro M1 ⟨a1, a2⟩
  exact ⟨a1, Sc_off h2 (fun c hc hc2 => a2 c (by omega)), a2⟩
theorem again_cr {d' : Dt} {D' : Nat → Dt} {next' kept' : Nat} {M M1 M2 : Mem} (hv : Vd d') (a1 : HC D' next' kept' M1) (a2 : Off (fun c => 6 ≤ c ∧ c ≤ 46) M M1) (b1 : Sc 1 d' M2) (b2 : Off (fun c => 1 ≤ c ∧ c ≤ 5) M1 M2) :
    Ok (f_X8_readAgain M2) (fun M3 => Sc 1 d' M3 ∧ Vw d' M3 ∧ HC D' next' kept' M3 ∧ (M3 1 = M2 1) ∧ Off (fun c => c ≤ 47 ∨ 54 ≤ c ∧ c ≤ 70 ∨ c = 89) M M3) := by
  refine Ok.mono (readAgain_c hv b1) ?_
  rintro M3 ⟨c1, c2⟩
  refine ⟨Sc_off b1 (fun c hc hc2 => c2 c (by omega)), c1, HC_off a1 (fun c hc hc2 => by rw [c2 c (by omega), b2 c (by omega)]), c2 1 (by omega), ?_⟩
  exact ((a2.mono (fun c hc => by omega)).tr (b2.mono (fun c hc => by omega))).tr (c2.mono (fun c hc => by omega))
/-- behind the class's change -/
def PC (d d' : Dt) (D : Nat → Dt) (next kept : Nat) (M M3 : Mem) : Prop := Sc 1 d' M3 ∧ Vw d' M3 ∧ HC (pushD D kept d) ((next + 1) % 8) (pushK kept) M3 ∧ Off (fun c => c ≤ 47 ∨ 54 ≤ c ∧ c ≤ 70 ∨ c = 89) M M3
theorem again_pc {d d' : Dt} {D : Nat → Dt} {next kept : Nat} {M M1 M2 : Mem} (hv : Vd d') (a1 : HC (pushD D kept d) ((next + 1) % 8) (pushK kept) M1) (a2 : Off (fun c => 6 ≤ c ∧ c ≤ 46) M M1) (b1 : Sc 1 d' M2) (b2 : Off (fun c => 1 ≤ c ∧ c ≤ 5) M1 M2) :
    Ok (f_X8_readAgain M2) (fun M3 => PC d d' D next kept M M3 ∧ M3 1 = M2 1) := by
  refine Ok.mono (again_cr hv a1 a2 b1 b2) ?_
  rintro M3 ⟨c1, c2, c3, c4, c5⟩
  exact ⟨⟨c1, c2, c3, c5⟩, c4⟩
theorem lvl_i {a : Int32} (h : 0 ≤ a ∧ a ≤ 140) : 0 ≤ a.toInt ∧ a.toInt ≤ 140 := ⟨i_le.mp h.1, i_le.mp h.2⟩
