/-! minutes, exceedances and complaints told -/
def mP (d : Dt) (m : Nat) : Nat → Int32
  | 0 => d.1 m
  | 1 => d.2.1 m
  | 2 => dF d.1 d.2.2.2.1 m
  | 3 => dS d.1 d.2.2.2.1 m
  | 4 => sLim d.2.2.2.1 m
  | 5 => if sRest d.2.2.2.1 m then 1 else 0
  | 6 => sWhy d.1 d.2.1 d.2.2.2.1 m
  | _ => ownA (xFst (gO d.2.2.2.1) (dA d.1 d.2.1 d.2.2.2.1) d.2.2.2.2.1) (xLst (gO d.2.2.2.1) (dA d.1 d.2.1 d.2.2.2.1) d.2.2.2.2.1) (dC d.1 d.2.1 d.2.2.2.1 d.2.2.2.2.1) m
def eP (d : Dt) (e : Nat) : Nat → Int32
  | 0 => xFst (gO d.2.2.2.1) (dA d.1 d.2.1 d.2.2.2.1) d.2.2.2.2.1 e
  | 1 => xLst (gO d.2.2.2.1) (dA d.1 d.2.1 d.2.2.2.1) d.2.2.2.2.1 e
  | 2 => xAbo (gO d.2.2.2.1) (dA d.1 d.2.1 d.2.2.2.1) d.2.2.2.2.1 e
  | 3 => xPk (gO d.2.2.2.1) (dA d.1 d.2.1 d.2.2.2.1) (dF d.1 d.2.2.2.1) d.2.2.2.2.1 e
  | 4 => xWt (gO d.2.2.2.1) (dA d.1 d.2.1 d.2.2.2.1) (dT d.1 d.2.2.2.1) d.2.2.2.2.1 e
  | _ => (dM d.1 d.2.1 d.2.2.2.1 d.2.2.1 d.2.2.2.2.1 d.2.2.2.2.2).1 e
def dCn (d : Dt) : Nat := dC d.1 d.2.1 d.2.2.2.1 d.2.2.2.2.1
theorem dCn_le {d : Dt} (hv : Vd d) : 2 * dCn d ≤ d.2.2.2.2.1 + 1 := xCnt_le (gO_b hv.2.2.2.2.1).2.1 _
theorem minuteProp_c {d : Dt} {D : Nat → Dt} {next kept m w : Nat} {M : Mem} (h : Cr d D next kept M) (hm : m < d.2.2.2.2.1) (hw : w ≤ 7) : f_X8_minuteProperty (nI m) (nI w) M = some (mP d m w) := by
  obtain ⟨hv, hs, -, ⟨⟨-, v2, ⟨-, -, v3⟩, -⟩, -⟩, -⟩ := h
  have hn := hv.1
  obtain ⟨a2, a3, a6⟩ := v2 m hm
  obtain ⟨s1, s2⟩ := hs.2.2.1 m hm
  have hst := stOK_cong hs.2.2.2.1.sy hv.2.2.2.2.1
  unfold f_X8_minuteProperty
  have d0 : w ≠ 0 → ¬ nI w = 0 := fun h => nI_ne (b := 0) (by omega) (by decide) h
  have d1 : w ≠ 1 → ¬ nI w = 1 := fun h => nI_ne (b := 1) (by omega) (by decide) h
  have d2 : w ≠ 2 → ¬ nI w = 2 := fun h => nI_ne (b := 2) (by omega) (by decide) h
  have d3 : w ≠ 3 → ¬ nI w = 3 := fun h => nI_ne (b := 3) (by omega) (by decide) h
  have d4 : w ≠ 4 → ¬ nI w = 4 := fun h => nI_ne (b := 4) (by omega) (by decide) h
  have d5 : w ≠ 5 → ¬ nI w = 5 := fun h => nI_ne (b := 5) (by omega) (by decide) h
  have d6 : w ≠ 6 → ¬ nI w = 6 := fun h => nI_ne (b := 6) (by omega) (by decide) h
  by_cases h0 : w = 0
  · subst h0
    rw [if_pos (show nI 0 = 0 from rfl), rd_nI (by omega) (by decide), Option.bind_some]
    exact congrArg some s1
  rw [if_neg (d0 h0)]
  by_cases h1 : w = 1
  · subst h1
    rw [if_pos (show nI 1 = 1 from rfl), rd_nI (by omega) (by decide), Option.bind_some]
    exact congrArg some s2
  rw [if_neg (d1 h1)]
  by_cases h2 : w = 2
  · subst h2
    rw [if_pos (show nI 2 = 2 from rfl), rd_nI (by omega) (by decide), Option.bind_some]
    exact congrArg some a2
  rw [if_neg (d2 h2)]
  by_cases h3 : w = 3
  · subst h3
    rw [if_pos (show nI 3 = 3 from rfl), rd_nI (by omega) (by decide), Option.bind_some]
    exact congrArg some a3
  rw [if_neg (d3 h3)]
  by_cases h4 : w = 4
  · subst h4
    rw [if_pos (show nI 4 = 4 from rfl), limitAt_c hst (by omega), Option.bind_some, sLim_cong hs.2.2.2.1]
    rfl
  rw [if_neg (d4 h4)]
  by_cases h5 : w = 5
  · subst h5
    rw [if_pos (show nI 5 = 5 from rfl), isRest_c hst (by omega), Option.bind_some]
    have hr := sRest_cong hs.2.2.2.1 m
    show _ = some (if sRest d.2.2.2.1 m then 1 else 0)
    by_cases hq : sRest d.2.2.2.1 m
    · rw [if_pos hq, if_pos (show sRest (M 4) m from hr.mpr hq), if_neg (by decide)]
    · rw [if_neg hq, if_neg (show ¬ sRest (M 4) m from fun q => hq (hr.mp q)), if_pos rfl]
  rw [if_neg (d5 h5)]
  by_cases h6 : w = 6
  · subst h6
    rw [if_pos (show nI 6 = 6 from rfl), rd_nI (by omega) (by decide), Option.bind_some]
    exact congrArg some a6
  rw [if_neg (d6 h6), rd_nI (by omega) (by decide), Option.bind_some]
  obtain ⟨k, rfl⟩ : ∃ k, w = k + 7 := ⟨w - 7, by omega⟩
  exact congrArg some (v3 m hm)
theorem minuteNow_m {d : Dt} {m w : Nat} {M : Mem} (hv : Vd d) (hM : My d.1 d.2.1 d.2.2.2.1 d.2.2.1 d.2.2.2.2.1 d.2.2.2.2.2 M) (hs : st10 (mSt M) d.2.2.2.1) (hm : m < d.2.2.2.2.1) (hw : w ≤ 7) : f_X9_minuteNow (nI m) (nI w) M = some (mP d m w) := by
  obtain ⟨⟨-, v2, -, -, -, v3⟩, -⟩ := hM
  have hn := hv.1
  obtain ⟨a2, a3, a6, s1, s2⟩ := v2 m hm
  have hst := stOK_cong hs.sy hv.2.2.2.2.1
  unfold f_X9_minuteNow
  have d0 : w ≠ 0 → ¬ nI w = 0 := fun h => nI_ne (b := 0) (by omega) (by decide) h
  have d1 : w ≠ 1 → ¬ nI w = 1 := fun h => nI_ne (b := 1) (by omega) (by decide) h
  have d2 : w ≠ 2 → ¬ nI w = 2 := fun h => nI_ne (b := 2) (by omega) (by decide) h
  have d3 : w ≠ 3 → ¬ nI w = 3 := fun h => nI_ne (b := 3) (by omega) (by decide) h
  have d4 : w ≠ 4 → ¬ nI w = 4 := fun h => nI_ne (b := 4) (by omega) (by decide) h
  have d5 : w ≠ 5 → ¬ nI w = 5 := fun h => nI_ne (b := 5) (by omega) (by decide) h
  have d6 : w ≠ 6 → ¬ nI w = 6 := fun h => nI_ne (b := 6) (by omega) (by decide) h
  by_cases h0 : w = 0
  · subst h0
    rw [if_pos (show nI 0 = 0 from rfl), rd_nI (by omega) (by decide), Option.bind_some]
    exact congrArg some s1
  rw [if_neg (d0 h0)]
  by_cases h1 : w = 1
  · subst h1
    rw [if_pos (show nI 1 = 1 from rfl), rd_nI (by omega) (by decide), Option.bind_some]
    exact congrArg some s2
  rw [if_neg (d1 h1)]
  by_cases h2 : w = 2
  · subst h2
    rw [if_pos (show nI 2 = 2 from rfl), rd_nI (by omega) (by decide), Option.bind_some]
    exact congrArg some a2
  rw [if_neg (d2 h2)]
  by_cases h3 : w = 3
  · subst h3
    rw [if_pos (show nI 3 = 3 from rfl), rd_nI (by omega) (by decide), Option.bind_some]
    exact congrArg some a3
  rw [if_neg (d3 h3)]
  by_cases h4 : w = 4
  · subst h4
    rw [if_pos (show nI 4 = 4 from rfl), limitOf_m hst (by omega), Option.bind_some, sLim_cong hs]
    rfl
  rw [if_neg (d4 h4)]
  by_cases h5 : w = 5
  · subst h5
    rw [if_pos (show nI 5 = 5 from rfl), isRest_m hst (by omega), Option.bind_some]
    have hr := sRest_cong hs m
    show _ = some (if sRest d.2.2.2.1 m then 1 else 0)
    by_cases hq : sRest d.2.2.2.1 m
    · rw [if_pos hq, if_pos (show sRest (mSt M) m from hr.mpr hq), if_neg (by decide)]
    · rw [if_neg hq, if_neg (show ¬ sRest (mSt M) m from fun q => hq (hr.mp q)), if_pos rfl]
  rw [if_neg (d5 h5)]
  by_cases h6 : w = 6
  · subst h6
    rw [if_pos (show nI 6 = 6 from rfl), rd_nI (by omega) (by decide), Option.bind_some]
    exact congrArg some a6
  rw [if_neg (d6 h6), rd_nI (by omega) (by decide), Option.bind_some]
  obtain ⟨k, rfl⟩ : ∃ k, w = k + 7 := ⟨w - 7, by omega⟩
  exact congrArg some (v3 m hm)
theorem excProp_c {d : Dt} {D : Nat → Dt} {next kept e w : Nat} {M : Mem} (h : Cr d D next kept M) (he : e < dCn d) (hw : w ≤ 5) : f_X8_exceedanceProperty (nI e) (nI w) M = some (eP d e w) := by
  obtain ⟨hv, -, -, ⟨⟨-, -, ⟨hI, -, -⟩, ⟨-, -, -, v4⟩, -⟩, -⟩, -⟩ := h
  have hn := hv.1
  have hle := dCn_le hv
  obtain ⟨e0, e1, e2, e3, e4⟩ := hI.2 e he
  unfold f_X8_exceedanceProperty
  have d0 : w ≠ 0 → ¬ nI w = 0 := fun h => nI_ne (b := 0) (by omega) (by decide) h
  have d1 : w ≠ 1 → ¬ nI w = 1 := fun h => nI_ne (b := 1) (by omega) (by decide) h
  have d2 : w ≠ 2 → ¬ nI w = 2 := fun h => nI_ne (b := 2) (by omega) (by decide) h
  have d3 : w ≠ 3 → ¬ nI w = 3 := fun h => nI_ne (b := 3) (by omega) (by decide) h
  have d4 : w ≠ 4 → ¬ nI w = 4 := fun h => nI_ne (b := 4) (by omega) (by decide) h
  by_cases h0 : w = 0
  · subst h0
    rw [if_pos (show nI 0 = 0 from rfl), rd_nI (by omega) (by decide), Option.bind_some]
    exact congrArg some e0
  rw [if_neg (d0 h0)]
  by_cases h1 : w = 1
  · subst h1
    rw [if_pos (show nI 1 = 1 from rfl), rd_nI (by omega) (by decide), Option.bind_some]
    exact congrArg some e1
  rw [if_neg (d1 h1)]
  by_cases h2 : w = 2
  · subst h2
    rw [if_pos (show nI 2 = 2 from rfl), rd_nI (by omega) (by decide), Option.bind_some]
    exact congrArg some e2
  rw [if_neg (d2 h2)]
  by_cases h3 : w = 3
  · subst h3
    rw [if_pos (show nI 3 = 3 from rfl), rd_nI (by omega) (by decide), Option.bind_some]
    exact congrArg some e3
  rw [if_neg (d3 h3)]
  by_cases h4 : w = 4
  · subst h4
    rw [if_pos (show nI 4 = 4 from rfl), rd_nI (by omega) (by decide), Option.bind_some]
    exact congrArg some e4
  rw [if_neg (d4 h4)]
  rw [rd_nI (by omega) (by decide), Option.bind_some]
  obtain ⟨k, rfl⟩ : ∃ k, w = k + 5 := ⟨w - 5, by omega⟩
  exact congrArg some (v4 e he)
theorem excNow_m {d : Dt} {e w : Nat} {M : Mem} (hv : Vd d) (hM : My d.1 d.2.1 d.2.2.2.1 d.2.2.1 d.2.2.2.2.1 d.2.2.2.2.2 M) (he : e < dCn d) (hw : w ≤ 5) : f_X9_exceedanceNow (nI e) (nI w) M = some (eP d e w) := by
  obtain ⟨⟨-, -, -, hI, -, -⟩, -, v4⟩ := hM
  have hn := hv.1
  have hle := dCn_le hv
  obtain ⟨e0, e1, e2, e3, e4⟩ := hI e he
  unfold f_X9_exceedanceNow
  have d0 : w ≠ 0 → ¬ nI w = 0 := fun h => nI_ne (b := 0) (by omega) (by decide) h
  have d1 : w ≠ 1 → ¬ nI w = 1 := fun h => nI_ne (b := 1) (by omega) (by decide) h
  have d2 : w ≠ 2 → ¬ nI w = 2 := fun h => nI_ne (b := 2) (by omega) (by decide) h
  have d3 : w ≠ 3 → ¬ nI w = 3 := fun h => nI_ne (b := 3) (by omega) (by decide) h
  have d4 : w ≠ 4 → ¬ nI w = 4 := fun h => nI_ne (b := 4) (by omega) (by decide) h
  by_cases h0 : w = 0
  · subst h0
    rw [if_pos (show nI 0 = 0 from rfl), rd_nI (by omega) (by decide), Option.bind_some]
    exact congrArg some e0
  rw [if_neg (d0 h0)]
  by_cases h1 : w = 1
  · subst h1
    rw [if_pos (show nI 1 = 1 from rfl), rd_nI (by omega) (by decide), Option.bind_some]
    exact congrArg some e1
  rw [if_neg (d1 h1)]
  by_cases h2 : w = 2
  · subst h2
    rw [if_pos (show nI 2 = 2 from rfl), rd_nI (by omega) (by decide), Option.bind_some]
    exact congrArg some e2
  rw [if_neg (d2 h2)]
  by_cases h3 : w = 3
  · subst h3
    rw [if_pos (show nI 3 = 3 from rfl), rd_nI (by omega) (by decide), Option.bind_some]
    exact congrArg some e3
  rw [if_neg (d3 h3)]
  by_cases h4 : w = 4
  · subst h4
    rw [if_pos (show nI 4 = 4 from rfl), rd_nI (by omega) (by decide), Option.bind_some]
    exact congrArg some e4
  rw [if_neg (d4 h4)]
  rw [rd_nI (by omega) (by decide), Option.bind_some]
  obtain ⟨k, rfl⟩ : ∃ k, w = k + 5 := ⟨w - 5, by omega⟩
  exact congrArg some (v4 e he)
theorem numOf_c {d : Dt} {D : Nat → Dt} {next kept a : Nat} {M : Mem} (h : Cr d D next kept M) (ha : a ≤ 11) : f_X8_numberOf (nI a) M = some (if a = 10 then nI kept else cN d.1 d.2.1 d.2.2.2.1 d.2.2.1 d.2.2.2.2.1 d.2.2.2.2.2 a) := by
  obtain ⟨hv, hs, hz, hw, hH, hZ, h5⟩ := h
  unfold f_X8_numberOf
  by_cases h10 : a = 10
  · subst h10
    rw [if_pos (show nI 10 = 10 from rfl), hH.2.2.2.1]
    rfl
  · rw [if_neg (show ¬ nI a = 10 from nI_ne (b := 10) (by omega) (by decide) h10), numberOf_c hw.1 hv.2.2.2.2.1 hv.1 a ha, if_neg h10]
    rfl
theorem layAll_p {d : Dt} {D : Nat → Dt} {next kept : Nat} {M : Mem} (h : Cr d D next kept M) :
    Ok (f_X9_layAll M) (fun M' => My d.1 d.2.1 d.2.2.2.1 d.2.2.1 d.2.2.2.2.1 d.2.2.2.2.2 M' ∧ Cr d D next kept M' ∧ Qt M M' ∧ M' 90 0 = M 90 0) := by
  refine Ok.mono (layAll_q h) ?_
  rintro M' ⟨a1, a2, a3, a4⟩
  exact ⟨My_st (Zc_st a2.2.2.1) a1, a2, a3, a4⟩
theorem minute_q (a1 a2 a3 : Int32) {M : Mem} {L : Lng} {d : Dt} {D : Nat → Dt} {next kept : Nat} (h : Cr d D next kept M) : LC (f_lc11 a1 a2 a3 M L) := by
  refine law_ok (F := f_X9_minute a1 a2) ?_
  obtain ⟨hv, hs, hz, hw, hH, hZ, h5⟩ := id h
  have hn := hv.1
  by_cases h1 : inR a1 d.2.2.2.2.1
  · by_cases h2 : 0 ≤ a2 ∧ a2 ≤ 7
    · obtain ⟨m, hm, rfl⟩ := inR_ex (by omega) h1
      obtain ⟨w, hww, rfl⟩ := ar (K := 7) (by decide) (n_lt' h2.1) h2.2
      have hG : g_minute (nI m) (nI w) M L = some (0, M, outL L (Int32.toInt64 (mP d m w))) := by
        unfold g_minute f_X8_minute
        rw [hasMinute_c hs.1, if_pos h1, Option.bind_some, if_neg (by decide), if_neg (n_lt' h2.1), if_pos h2.2, minuteProp_c h hm hww]
        rfl
      rw [hG]
      refine q_ans h ?_
      unfold f_X9_minute f_X9_minute_j28
      rw [isMinute_m (by omega) hz.1, if_pos h1, Option.bind_some, if_neg (by decide), within_e, if_pos h2, Option.bind_some, if_neg (by decide), stf_e, Option.bind_some, if_pos (by rw [mset_s]; decide)]
      refine Ok.bind (layAll_p (Cr_q h Qt_t)) ?_
      rintro M2 ⟨b1, b2, b3, b4⟩
      exact Ok.eqb (minuteNow_m hv b1 (Zc_st b2.2.2.1) hm hww) (Ok.of ⟨rfl, by dsimp only; rw [b4, mset_s], Qt_t.tr b3⟩)
    · have hG : g_minute a1 a2 M L = some (2, M, L) := by
        unfold g_minute f_X8_minute
        rw [hasMinute_c hs.1, if_pos h1, Option.bind_some, if_neg (by decide)]
        by_cases h3 : a2 < 0
        · rw [if_pos h3]
          rfl
        · rw [if_neg h3, if_neg (fun q => h2 ⟨le_n h3, q⟩)]
          rfl
      rw [hG]
      refine q_thr h (by decide) ?_
      unfold f_X9_minute f_X9_minute_j28
      rw [isMinute_m (by omega) hz.1, if_pos h1, Option.bind_some, if_neg (by decide), within_e, if_neg h2, Option.bind_some, if_pos rfl, stf_e, Option.bind_some, if_neg (by rw [mset_s]; decide)]
  · have hG : g_minute a1 a2 M L = some (1, M, L) := by
      unfold g_minute f_X8_minute
      rw [hasMinute_c hs.1, if_neg h1, Option.bind_some, if_pos rfl]
      rfl
    rw [hG]
    refine q_thr h (by decide) ?_
    unfold f_X9_minute f_X9_minute_j28
    rw [isMinute_m (by omega) hz.1, if_neg h1, Option.bind_some, if_pos rfl, stf_e, Option.bind_some, if_neg (by rw [mset_s]; decide)]
theorem exceedance_q (a1 a2 a3 : Int32) {M : Mem} {L : Lng} {d : Dt} {D : Nat → Dt} {next kept : Nat} (h : Cr d D next kept M) : LC (f_lc12 a1 a2 a3 M L) := by
  refine law_ok (F := f_X9_exceedance a1 a2) ?_
  obtain ⟨hv, hs, hz, hw, hH, hZ, h5⟩ := id h
  have hn := hv.1
  have hle := dCn_le hv
  have hx : M 60 6 = nI (dCn d) := hw.1.2.2.1.1.1
  obtain ⟨M2, e2, b1, b2, b3, b4⟩ := layAll_p h
  have hx2 : M2 90 13 = nI (dCn d) := b1.1.2.2.1
  have mdl : ∀ c : Prop, ∀ [Decidable c], (f_X9_within a1 0 (M2 90 13 - 1) M2) = some (if inR a1 (dCn d) then 1 else 0) := by
    intro c _
    rw [within_e, hx2]
    by_cases h1 : inR a1 (dCn d)
    · rw [if_pos h1, if_pos ⟨h1.1, (le_m1 (by omega)).mpr h1.2⟩]
    · rw [if_neg h1, if_neg (fun q => h1 ⟨q.1, (le_m1 (by omega)).mp q.2⟩)]
  have mdl := mdl True
  have thr : ∀ k : Int32, 0 < k → g_exceedance a1 a2 M L = some (k, M, L) → f_X9_exceedance a1 a2 M = some (0, mset M2 90 0 k) → ∃ k M1 L1 w M2, g_exceedance a1 a2 M L = some (k, M1, L1) ∧ f_X9_exceedance a1 a2 M1 = some (w, M2) ∧ M2 90 0 = k ∧ (k = 0 → L1 1 = Int32.toInt64 w) ∧ Rl M2 L1 := by
    intro k hk hG hF
    exact ⟨k, M, L, 0, _, hG, hF, mset_s, fun q => by rw [q] at hk; exact absurd hk (by decide), Rl_q h (b3.tr Qt_t)⟩
  by_cases h1 : inR a1 (dCn d)
  · by_cases h2 : 0 ≤ a2 ∧ a2 ≤ 5
    · have h1' := h1
      obtain ⟨e, he, rfl⟩ := inR_ex (by omega) h1
      obtain ⟨w, hww, rfl⟩ := ar (K := 5) (by decide) (n_lt' h2.1) h2.2
      have hG : g_exceedance (nI e) (nI w) M L = some (0, M, outL L (Int32.toInt64 (eP d e w))) := by
        unfold g_exceedance f_X8_exceedance
        rw [if_neg (n_lt' h1'.1), hx, if_pos (lt_n h1'.2), if_neg (n_lt' h2.1), if_pos h2.2, excProp_c h he hww]
        rfl
      rw [hG]
      refine q_ans h ?_
      unfold f_X9_exceedance f_X9_exceedance_j37
      rw [e2, Option.bind_some, mdl, if_pos h1', Option.bind_some, if_neg (by decide), within_e, if_pos h2, Option.bind_some, if_neg (by decide), stf_e, Option.bind_some, if_pos (by rw [mset_s]; decide)]
      have b5 : My d.1 d.2.1 d.2.2.2.1 d.2.2.1 d.2.2.2.2.1 d.2.2.2.2.2 (mset M2 90 0 0) := by
        have o : ∀ c, c ≠ 90 → mset M2 90 0 0 c = M2 c := fun c hc => mset_o hc
        have p : ∀ k, k ≠ 0 → mset M2 90 0 0 90 k = M2 90 k := fun k hk => mset_n hk
        unfold My Mx xCel at b1 ⊢
        rw [p 6 (by decide), p 13 (by decide), p 19 (by decide), o 94 (by decide), o 95 (by decide), o 96 (by decide), o 97 (by decide), o 98 (by decide), o 99 (by decide), o 100 (by decide), o 101 (by decide), o 102 (by decide), o 103 (by decide), o 104 (by decide), o 105 (by decide), o 106 (by decide)]
        exact b1
      exact Ok.eqb (excNow_m hv b5 he hww) (Ok.of ⟨rfl, by dsimp only; exact mset_s, b3.tr Qt_t⟩)
    · refine thr 2 (by decide) ?_ ?_
      · unfold g_exceedance f_X8_exceedance
        rw [if_neg (n_lt' h1.1), hx, if_pos (lt_n h1.2)]
        by_cases h3 : a2 < 0
        · rw [if_pos h3]
          rfl
        · rw [if_neg h3, if_neg (fun q => h2 ⟨le_n h3, q⟩)]
          rfl
      · unfold f_X9_exceedance f_X9_exceedance_j37
        rw [e2, Option.bind_some, mdl, if_pos h1, Option.bind_some, if_neg (by decide), within_e, if_neg h2, Option.bind_some, if_pos rfl, stf_e, Option.bind_some, if_neg (by rw [mset_s]; decide)]
  · refine thr 1 (by decide) ?_ ?_
    · unfold g_exceedance f_X8_exceedance
      by_cases h3 : a1 < 0
      · rw [if_pos h3]
        rfl
      · rw [if_neg h3, hx, if_neg (fun q => h1 ⟨le_n h3, n_le' q⟩)]
        rfl
    · unfold f_X9_exceedance f_X9_exceedance_j37
      rw [e2, Option.bind_some, mdl, if_neg h1, Option.bind_some, if_pos rfl, stf_e, Option.bind_some, if_neg (by rw [mset_s]; decide)]
