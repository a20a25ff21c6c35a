/-! the law's cases: more questions -/
def cP (d : Dt) (c : Nat) : Nat → Int32
  | 0 => d.2.2.1 c
  | _ => (dM d.1 d.2.1 d.2.2.2.1 d.2.2.1 d.2.2.2.2.1 d.2.2.2.2.2).2.1 c
theorem comProp_c {d : Dt} {D : Nat → Dt} {next kept c w : Nat} {M : Mem} (h : Cr d D next kept M) (hc : c < d.2.2.2.2.2) (hw : w ≤ 1) : f_X8_complaintProperty (nI c) (nI w) M = some (cP d c w) := by
  obtain ⟨hv, hs, -, ⟨⟨-, -, -, ⟨-, -, v4, -⟩, -⟩, -⟩, -⟩ := h
  have hnc := hv.2.1
  unfold f_X8_complaintProperty
  by_cases h0 : w = 0
  · subst h0
    rw [if_pos (show nI 0 = 0 from rfl), rd_nI (by omega) (by decide), Option.bind_some]
    exact congrArg some (hs.2.2.2.2 c hc)
  · rw [if_neg (show ¬ nI w = 0 from nI_ne0 (by omega) (by omega)), rd_nI (by omega) (by decide), Option.bind_some]
    obtain ⟨k, rfl⟩ : ∃ k, w = k + 1 := ⟨w - 1, by omega⟩
    exact congrArg some (v4 c hc)
theorem complaint_q (a1 a2 a3 : Int32) {M : Mem} {L : Lng} {d : Dt} {D : Nat → Dt} {next kept : Nat} (h : Cr d D next kept M) : LC (f_lc13 a1 a2 a3 M L) := by
  refine law_ok (F := f_X9_complaint a1 a2) ?_
  obtain ⟨hv, hs, hz, hw, hH, hZ, h5⟩ := id h
  have hnc := hv.2.1
  by_cases h1 : inR a1 d.2.2.2.2.2
  · by_cases h2 : 0 ≤ a2 ∧ a2 ≤ 1
    · obtain ⟨c, hc, rfl⟩ := inR_ex (by omega) h1
      obtain ⟨w, hww, rfl⟩ := ar (K := 1) (by decide) (n_lt' h2.1) h2.2
      have hG : g_complaint (nI c) (nI w) M L = some (0, M, outL L (Int32.toInt64 (cP d c w))) := by
        unfold g_complaint f_X8_complaint
        rw [hasComplaint_c hs.2.1, if_pos h1, Option.bind_some, if_neg (by decide), if_neg (n_lt' h2.1), if_pos h2.2, comProp_c h hc hww]
        rfl
      rw [hG]
      refine q_ans h ?_
      unfold f_X9_complaint f_X9_complaint_j27
      rw [isComplaint_m (by omega) hz.2.1, if_pos h1, Option.bind_some, if_neg (by decide), within_e, if_pos h2, Option.bind_some, if_neg (by decide), stf_e, Option.bind_some, if_pos (by rw [mset_s]; decide)]
      refine Ok.bind (layAll_p (Cr_q h Qt_t)) ?_
      rintro M2 ⟨b1, b2, b3, b4⟩
      by_cases h0 : w = 0
      · subst h0
        refine Ok.pos rfl ?_
        rw [show (412 : Int32) + nI c = nI (412 + c) from nI_add 412 c]
        refine Ok.eqb (rd_nI (by omega) (by decide)) (Ok.of ⟨?_, by dsimp only; rw [b4, mset_s], Qt_t.tr b3⟩)
        exact b2.2.2.1.2.2.2.2 c hc
      · refine Ok.neg (nI_ne0 (by omega) (by omega)) ?_
        refine Ok.eqb (rd_nI (by omega) (by decide)) (Ok.of ⟨?_, by dsimp only; rw [b4, mset_s], Qt_t.tr b3⟩)
        obtain ⟨k, rfl⟩ : ∃ k, w = k + 1 := ⟨w - 1, by omega⟩
        exact b1.2.1 c hc
    · have hG : g_complaint a1 a2 M L = some (2, M, L) := by
        unfold g_complaint f_X8_complaint
        rw [hasComplaint_c hs.2.1, if_pos h1, Option.bind_some, if_neg (by decide)]
        by_cases h3 : a2 < 0
        · rw [if_pos h3]
          rfl
        · rw [if_neg h3, if_neg (fun q => h2 ⟨le_n h3, q⟩)]
          rfl
      rw [hG]
      refine q_thr h (by decide) ?_
      unfold f_X9_complaint f_X9_complaint_j27
      rw [isComplaint_m (by omega) hz.2.1, if_pos h1, Option.bind_some, if_neg (by decide), within_e, if_neg h2, Option.bind_some, if_pos rfl, stf_e, Option.bind_some, if_neg (by rw [mset_s]; decide)]
  · have hG : g_complaint a1 a2 M L = some (1, M, L) := by
      unfold g_complaint f_X8_complaint
      rw [hasComplaint_c hs.2.1, if_neg h1, Option.bind_some, if_pos rfl]
      rfl
    rw [hG]
    refine q_thr h (by decide) ?_
    unfold f_X9_complaint f_X9_complaint_j27
    rw [isComplaint_m (by omega) hz.2.1, if_neg h1, Option.bind_some, if_pos rfl, stf_e, Option.bind_some, if_neg (by rw [mset_s]; decide)]
theorem isLevel_c (a : Int32) (M : Mem) : f_X8_isLevel a M = some (if 0 ≤ a ∧ a ≤ 140 then 1 else 0) := by
  unfold f_X8_isLevel
  by_cases h1 : a < 0
  · rw [if_pos h1, if_neg (fun q => n_le' h1 q.1)]
  · rw [if_neg h1]
    by_cases h2 : 140 < a
    · rw [if_pos h2, if_neg (fun q => n_le' h2 q.2)]
    · rw [if_neg h2, if_pos ⟨le_n h1, le_n h2⟩]
theorem isWind_c (a : Int32) (M : Mem) : f_X8_isWind a M = some (if 0 ≤ a ∧ a ≤ 40 then 1 else 0) := by
  unfold f_X8_isWind
  by_cases h1 : a < 0
  · rw [if_pos h1, if_neg (fun q => n_le' h1 q.1)]
  · rw [if_neg h1]
    by_cases h2 : 40 < a
    · rw [if_pos h2, if_neg (fun q => n_le' h2 q.2)]
    · rw [if_neg h2, if_pos ⟨le_n h1, le_n h2⟩]
theorem levelCount_q (a1 a2 a3 : Int32) {M : Mem} {L : Lng} {d : Dt} {D : Nat → Dt} {next kept : Nat} (h : Cr d D next kept M) : LC (f_lc14 a1 a2 a3 M L) := by
  refine law_ok (F := f_X9_levelCount a1) ?_
  obtain ⟨hv, hs, hz, hw, hH, hZ, h5⟩ := id h
  by_cases h1 : 0 ≤ a1 ∧ a1 ≤ 140
  · obtain ⟨l, hl, rfl⟩ := ar (K := 140) (by decide) (n_lt' h1.1) h1.2
    have hG : g_levelCount (nI l) M L = some (0, M, outL L (Int32.toInt64 (nI (cG (cntd (sWhy d.1 d.2.1 d.2.2.2.1)) (dH d.1 d.2.2.2.1) d.2.2.2.2.1 l)))) := by
      unfold g_levelCount f_X8_levelCount
      rw [isLevel_c, if_pos h1, Option.bind_some, if_neg (by decide), rd_nI (by omega) (by decide), hw.2 l hl]
      rfl
    rw [hG]
    refine q_ans h ?_
    unfold f_X9_levelCount f_X9_levelCount_j17
    rw [within_e, if_pos h1, Option.bind_some, if_neg (by decide), stf_e, Option.bind_some, if_pos (by rw [mset_s]; decide)]
    refine Ok.bind (layAll_p (Cr_q h Qt_t)) ?_
    rintro M2 ⟨b1, b2, b3, b4⟩
    exact Ok.eqb (countFrom_m b1.1 hv.2.2.2.1 hv.2.2.2.2.1 hv.1 hl) (Ok.of ⟨rfl, by dsimp only; rw [b4, mset_s], Qt_t.tr b3⟩)
  · have hG : g_levelCount a1 M L = some (1, M, L) := by
      unfold g_levelCount f_X8_levelCount
      rw [isLevel_c, if_neg h1, Option.bind_some, if_pos rfl]
      rfl
    rw [hG]
    refine q_thr h (by decide) ?_
    unfold f_X9_levelCount f_X9_levelCount_j17
    rw [within_e, if_neg h1, Option.bind_some, if_pos rfl, stf_e, Option.bind_some, if_neg (by rw [mset_s]; decide)]
theorem percent_q (a1 a2 a3 : Int32) {M : Mem} {L : Lng} {d : Dt} {D : Nat → Dt} {next kept : Nat} (h : Cr d D next kept M) : LC (f_lc15 a1 a2 a3 M L) := by
  refine law_ok (F := f_X9_percentLevel a1) ?_
  obtain ⟨hv, hs, hz, hw, hH, hZ, h5⟩ := id h
  have hn := hv.1
  by_cases h1 : 1 ≤ a1 ∧ a1 ≤ 100
  · have hcl := cB_le (cntd (sWhy d.1 d.2.1 d.2.2.2.1)) d.2.2.2.2.1
    have hG : g_percentLevel a1 M L = some (0, M, outL L (Int32.toInt64 (sPct a1 (cB (cntd (sWhy d.1 d.2.1 d.2.2.2.1)) d.2.2.2.2.1) (cG (cntd (sWhy d.1 d.2.1 d.2.2.2.1)) (dH d.1 d.2.2.2.1) d.2.2.2.2.1)))) := by
      unfold g_percentLevel f_X8_percentLevel
      rw [if_neg (n_lt' h1.1), if_pos h1.2, show M 56 4 = _ from hw.1.1.2.1, percent_c (by omega) hw.2]
      rfl
    rw [hG]
    refine q_ans h ?_
    unfold f_X9_percentLevel f_X9_percentLevel_j16
    rw [within_e, if_pos h1, Option.bind_some, if_neg (by decide), stf_e, Option.bind_some, if_pos (by rw [mset_s]; decide)]
    refine Ok.bind (layAll_p (Cr_q h Qt_t)) ?_
    rintro M2 ⟨b1, b2, b3, b4⟩
    exact Ok.eqb (percentNow_m b1.1 hv.2.2.2.1 hv.2.2.2.2.1 hv.1) (Ok.of ⟨rfl, by dsimp only; rw [b4, mset_s], Qt_t.tr b3⟩)
  · have hG : g_percentLevel a1 M L = some (1, M, L) := by
      unfold g_percentLevel f_X8_percentLevel
      by_cases h3 : a1 < 1
      · rw [if_pos h3]
        rfl
      · rw [if_neg h3, if_neg (fun q => h1 ⟨le_n h3, q⟩)]
        rfl
    rw [hG]
    refine q_thr h (by decide) ?_
    unfold f_X9_percentLevel f_X9_percentLevel_j16
    rw [within_e, if_neg h1, Option.bind_some, if_pos rfl, stf_e, Option.bind_some, if_neg (by rw [mset_s]; decide)]
theorem isSetting_c (a : Int32) (M : Mem) : f_X8_isSetting a M = some (if 0 ≤ a ∧ a ≤ 9 then 1 else 0) := by
  unfold f_X8_isSetting
  have e : ∀ a : Int32, 10 ≤ a ↔ ¬ a ≤ 9 := fun a => by
    rw [i_le, i_le]
    have e10 : (10 : Int32).toInt = 10 := rfl
    have e9 : (9 : Int32).toInt = 9 := rfl
    omega
  by_cases h1 : a < 0
  · rw [if_pos h1, if_neg (fun q => n_le' h1 q.1)]
  · rw [if_neg h1]
    by_cases h2 : 10 ≤ a
    · rw [if_pos h2, if_neg (fun q => (e a).mp h2 q.2)]
    · rw [if_neg h2, if_pos ⟨le_n h1, Classical.not_not.mp (fun q => h2 ((e a).mpr q))⟩]
theorem isSetting_m (a : Int32) (M : Mem) : f_X9_isSetting a M = some (if 0 ≤ a ∧ a ≤ 9 then 1 else 0) := by
  unfold f_X9_isSetting
  rw [within_e, Option.bind_some, bz_if, Option.bind_some]
theorem setting_q (a1 a2 a3 : Int32) {M : Mem} {L : Lng} {d : Dt} {D : Nat → Dt} {next kept : Nat} (h : Cr d D next kept M) : LC (f_lc17 a1 a2 a3 M L) := by
  refine law_ok (F := f_X9_setting a1) ?_
  obtain ⟨hv, hs, hz, hw, hH, hZ, h5⟩ := id h
  by_cases h1 : 0 ≤ a1 ∧ a1 ≤ 9
  · obtain ⟨a, ha, rfl⟩ := ar (K := 9) (by decide) (n_lt' h1.1) h1.2
    have hG : g_setting (nI a) M L = some (0, M, outL L (Int32.toInt64 (d.2.2.2.1 a))) := by
      unfold g_setting f_X8_setting
      rw [isSetting_c, if_pos h1, Option.bind_some, if_neg (by decide), rd_nI (by omega) (by decide), show M 4 a = _ from hs.2.2.2.1 a (by omega)]
      rfl
    rw [hG]
    refine q_ans h ?_
    unfold f_X9_setting f_X9_setting_j13
    rw [isSetting_m, if_pos h1, Option.bind_some, if_neg (by decide), stf_e, Option.bind_some, if_pos (by rw [mset_s]; decide)]
    refine Ok.eqb (of_m a (by omega)) (Ok.of ⟨?_, by dsimp only; exact mset_s, Qt_t⟩)
    exact Zc_st (Cr_q h (Qt_t (v := 0))).2.2.1 a (by omega)
  · have hG : g_setting a1 M L = some (1, M, L) := by
      unfold g_setting f_X8_setting
      rw [isSetting_c, if_neg h1, Option.bind_some, if_pos rfl]
      rfl
    rw [hG]
    refine q_thr h (by decide) ?_
    unfold f_X9_setting f_X9_setting_j13
    rw [isSetting_m, if_neg h1, Option.bind_some, if_pos rfl, stf_e, Option.bind_some, if_neg (by rw [mset_s]; decide)]
theorem sLst_st {lv wd st st' : Nat → Int32} {n : Nat} {most : Int32} (h : st10 st st') : sLst lv wd st n most = sLst lv wd st' n most := by
  unfold sLst
  have e : ∀ l, dC lv wd (stL0 st l) n = dC lv wd (stL0 st' l) n := fun l => by
    have hl : st10 (stL0 st l) (stL0 st' l) := fun k hk => by
      unfold stL0
      by_cases h0 : k = 0
      · rw [h0, upd_s, upd_s]
      · rw [upd_n h0, upd_n h0]
        exact h k hk
    unfold dC
    rw [dA_st hl, gO_st hl]
  rw [fI_cong (fun l _ => by rw [e l])]
theorem sAbv_st {lv wd st st' : Nat → Int32} {n : Nat} {loud : Int32} (h : st10 st st') : sAbv lv wd st n loud = sAbv lv wd st' n loud := by
  unfold sAbv
  rw [dA_st h]
theorem layC_q {M M' : Mem} (hk : Kp M M') (ho : Off layC M M') : Qt M M' := ⟨by rw [ho 48 (by omega)], hk 2 (by decide) (by decide) (by decide), hk 4 (by decide) (by decide) (by decide), ho.mono (fun c hc => by omega)⟩
theorem least_q (a1 a2 a3 : Int32) {M : Mem} {L : Lng} {d : Dt} {D : Nat → Dt} {next kept : Nat} (h : Cr d D next kept M) : LC (f_lc19 a1 a2 a3 M L) := by
  refine law_ok (F := f_X9_leastLimit a1) ?_
  obtain ⟨hv, hs, hz, hw, hH, hZ, h5⟩ := id h
  by_cases h1 : 0 ≤ a1 ∧ a1 ≤ 200
  · have hG : g_leastLimit a1 M L = some (0, M, outL L (Int32.toInt64 (sLst d.1 d.2.1 d.2.2.2.1 d.2.2.2.2.1 a1))) := by
      unfold g_leastLimit f_X8_leastLimit
      rw [if_neg (n_lt' h1.1), if_pos h1.2, least_c hw.1 hv.2.2.2.2.1 hv.1]
      rfl
    rw [hG]
    refine q_ans h ?_
    unfold f_X9_leastLimit f_X9_leastLimit_j17
    rw [within_e, if_pos h1, Option.bind_some, if_neg (by decide), stf_e, Option.bind_some, if_pos (by rw [mset_s]; decide)]
    have hz2 := (Cr_q h (Qt_t (v := 0))).2.2.1
    refine Ok.bind (leastNow_m (Zc_zM hv hz2) hv.2.2.1 (Zc_ok hv hz2)) ?_
    rintro ⟨r, M2⟩ ⟨b1, b2, b3⟩
    refine Ok.of ⟨?_, (b2 0 (by decide) (by decide) (by decide)).trans mset_s, Qt_t.tr (layC_q b2 b3)⟩
    exact b1.trans (sLst_st (Zc_st hz2))
  · have hG : g_leastLimit a1 M L = some (1, M, L) := by
      unfold g_leastLimit f_X8_leastLimit
      by_cases h3 : a1 < 0
      · rw [if_pos h3]
        rfl
      · rw [if_neg h3, if_neg (fun q => h1 ⟨le_n h3, q⟩)]
        rfl
    rw [hG]
    refine q_thr h (by decide) ?_
    unfold f_X9_leastLimit f_X9_leastLimit_j17
    rw [within_e, if_neg h1, Option.bind_some, if_pos rfl, stf_e, Option.bind_some, if_neg (by rw [mset_s]; decide)]
theorem aboveIn_q (a1 a2 a3 : Int32) {M : Mem} {L : Lng} {d : Dt} {D : Nat → Dt} {next kept : Nat} (h : Cr d D next kept M) : LC (f_lc20 a1 a2 a3 M L) := by
  refine law_ok (F := f_X9_aboveIn a1) ?_
  obtain ⟨hv, hs, hz, hw, hH, hZ, h5⟩ := id h
  by_cases h1 : 0 ≤ a1 ∧ a1 ≤ 140
  · have hG : g_aboveIn a1 M L = some (0, M, outL L (Int32.toInt64 (sAbv d.1 d.2.1 d.2.2.2.1 d.2.2.2.2.1 a1))) := by
      unfold g_aboveIn f_X8_aboveIn
      rw [isLevel_c, if_pos h1, Option.bind_some, if_neg (by decide), until_c hw.1 hv.2.2.2.2.1 hv.1]
      rfl
    rw [hG]
    refine q_ans h ?_
    unfold f_X9_aboveIn f_X9_aboveIn_j17
    rw [within_e, if_pos h1, Option.bind_some, if_neg (by decide), stf_e, Option.bind_some, if_pos (by rw [mset_s]; decide)]
    have hz2 := (Cr_q h (Qt_t (v := 0))).2.2.1
    refine Ok.bind (aboveNow_m (Zc_zM hv hz2) (Zc_ok hv hz2)) ?_
    rintro ⟨r, M2⟩ ⟨b1, b2, b3⟩
    refine Ok.of ⟨?_, (b2 0 (by decide) (by decide) (by decide)).trans mset_s, Qt_t.tr (layC_q b2 b3)⟩
    exact b1.trans (sAbv_st (Zc_st hz2))
  · have hG : g_aboveIn a1 M L = some (1, M, L) := by
      unfold g_aboveIn f_X8_aboveIn
      rw [isLevel_c, if_neg h1, Option.bind_some, if_pos rfl]
      rfl
    rw [hG]
    refine q_thr h (by decide) ?_
    unfold f_X9_aboveIn f_X9_aboveIn_j17
    rw [within_e, if_neg h1, Option.bind_some, if_pos rfl, stf_e, Option.bind_some, if_neg (by rw [mset_s]; decide)]
