/-! the law's cases: changes -/
theorem Cr_chg {d d' : Dt} {D : Nat → Dt} {next next' kept : Nat} {M M3 M6 : Mem} (h : Cr d D next kept M) (hv : Vd d') (a1 : Sc 1 d' M3) (a2 : Vw d' M3) (a3 : HC (pushD D kept d) next' (pushK kept) M3) (a4 : Off (fun c => c ≤ 47 ∨ 54 ≤ c ∧ c ≤ 70 ∨ c = 89) M M3)
    (b1 : Zc (M6 91) d') (b2 : HZ (pushD D kept d) (pushK kept) M6) (b3 : M6 90 4 = M3 90 4) (b4 : Off (fun c => c = 90 ∨ c = 91 ∨ c = 92 ∨ 94 ≤ c ∧ c ≤ 107) M3 M6) : Cr d' (pushD D kept d) next' (pushK kept) M6 := by
  obtain ⟨h1, -, -, -, h5, -, h7, h8⟩ := h
  refine ⟨hv, Sc_off a1 (fun c hc hc2 => b4 c (by omega)), b1, Vw_off a2 (fun c hc hc2 => b4 c (by omega)), HC_off a3 (fun c hc hc2 => b4 c (by omega)), b2, push_V h5.2.1 h7 h1, ?_⟩
  exact Tx_q h8 (by rw [b4 48 (by omega), a4 48 (by omega)]) (by rw [b3, a4 90 (by omega)]) (by rw [b4 49 (by omega), a4 49 (by omega)]) (by rw [b4 93 (by omega), a4 93 (by omega)])
/-- the class keeps, changes its state and reads again -/
theorem keep_cr {d : Dt} {D : Nat → Dt} {next kept : Nat} {M : Mem} (h : Cr d D next kept M) : Ok (f_X1_keep 1 M) (fun M1 => HC (pushD D kept d) ((next + 1) % 8) (pushK kept) M1 ∧ Sc 1 d M1 ∧ Off (fun c => 6 ≤ c ∧ c ≤ 46) M M1) := by
  obtain ⟨h1, h2, -, -, h5, -⟩ := h
  refine Ok.mono (keep_c h5 h1 h2) ?_
  rintro M1 ⟨a1, a2⟩
  exact ⟨a1, Sc_off h2 (fun c hc hc2 => a2 c (by omega)), a2⟩
theorem again_cr {d' : Dt} {D' : Nat → Dt} {next' kept' : Nat} {M M1 M2 : Mem} (hv : Vd d') (a1 : HC D' next' kept' M1) (a2 : Off (fun c => 6 ≤ c ∧ c ≤ 46) M M1) (b1 : Sc 1 d' M2) (b2 : Off (fun c => 1 ≤ c ∧ c ≤ 5) M1 M2) :
    Ok (f_X8_readAgain M2) (fun M3 => Sc 1 d' M3 ∧ Vw d' M3 ∧ HC D' next' kept' M3 ∧ (M3 1 = M2 1) ∧ Off (fun c => c ≤ 47 ∨ 54 ≤ c ∧ c ≤ 70 ∨ c = 89) M M3) := by
  refine Ok.mono (readAgain_c hv b1) ?_
  rintro M3 ⟨c1, c2⟩
  refine ⟨Sc_off b1 (fun c hc hc2 => c2 c (by omega)), c1, HC_off a1 (fun c hc hc2 => by rw [c2 c (by omega), b2 c (by omega)]), c2 1 (by omega), ?_⟩
  exact ((a2.mono (fun c hc => by omega)).tr (b2.mono (fun c hc => by omega))).tr (c2.mono (fun c hc => by omega))
/-- the model saves -/
theorem save_cr {d : Dt} {D : Nat → Dt} {next kept : Nat} {M M3 : Mem} (h : Cr d D next kept M) (ho : Off (fun c => c ≤ 47 ∨ 54 ≤ c ∧ c ≤ 70 ∨ c = 89) M M3) :
    Ok (f_X9_save (mset M3 90 0 0)) (fun M5 => HZ (pushD D kept d) (pushK kept) M5 ∧ Zc (M5 91) d ∧ M5 91 = M 91 ∧ M5 90 0 = 0 ∧ M5 90 4 = M3 90 4 ∧ Off (fun c => c = 90 ∨ c = 92) M3 M5) := by
  obtain ⟨h1, h2, h3, h4, h5, h6, h7, h8⟩ := h
  have e91 : mset M3 90 0 0 91 = M 91 := by rw [mset_o (by decide)]; exact ho 91 (by omega)
  refine Ok.mono (save_m (M := mset M3 90 0 0) (d := d) h5.2.1 (HZ_off h6 (by rw [mset_n (by decide), ho 90 (by omega)]) (by rw [mset_o (by decide)]; exact ho 92 (by omega))) h7 h1 (by rw [e91]; exact h3)) ?_
  rintro M5 ⟨a1, a2, a3⟩
  have f91 : M5 91 = M 91 := (a3 91 (by omega)).trans e91
  refine ⟨a1, by rw [f91]; exact h3, f91, by rw [a2 0 (by decide), mset_s], by rw [a2 4 (by decide), mset_n (by decide)], (Off.rf.set (Or.inl rfl)).tr a3⟩
theorem set_q (a1 a2 a3 : Int32) {M : Mem} {L : Lng} {d : Dt} {D : Nat → Dt} {next kept : Nat} (h : Cr d D next kept M) : LC (f_lc0 a1 a2 a3 M L) := by
  refine law_ok (F := f_X9_set a1 a2) ?_
  obtain ⟨hv, hs, hz, hw, hH, hZ, h5⟩ := id h
  by_cases h1 : 0 ≤ a1 ∧ a1 ≤ 9
  · have h1' := h1
    obtain ⟨a, ha, rfl⟩ := ar (K := 9) (by decide) (n_lt' h1.1) h1.2
    by_cases h2 : svOK a a2
    · have hv' : Vd (d.1, d.2.1, d.2.2.1, upd d.2.2.2.1 a a2, d.2.2.2.2) := ⟨hv.1, hv.2.1, hv.2.2.1, hv.2.2.2.1, stOK_upd hv.2.2.2.2.1 (by omega) h2, hv.2.2.2.2.2⟩
      have hG : Ok (g_set (nI a) a2 M L) (fun r => r.1 = 0 ∧ r.2.2 = outL L (Int32.toInt64 (d.2.2.2.1 a)) ∧ Sc 1 (d.1, d.2.1, d.2.2.1, upd d.2.2.2.1 a a2, d.2.2.2.2) r.2.1 ∧ Vw (d.1, d.2.1, d.2.2.1, upd d.2.2.2.1 a a2, d.2.2.2.2) r.2.1 ∧ HC (pushD D kept d) ((next + 1) % 8) (pushK kept) r.2.1 ∧ Off (fun c => c ≤ 47 ∨ 54 ≤ c ∧ c ≤ 70 ∨ c = 89) M r.2.1) := by
        unfold g_set
        refine Ok.bind (P := fun o => ∃ M', o = .inr (d.2.2.2.1 a, M') ∧ Sc 1 (d.1, d.2.1, d.2.2.1, upd d.2.2.2.1 a a2, d.2.2.2.2) M' ∧ Vw (d.1, d.2.1, d.2.2.1, upd d.2.2.2.1 a a2, d.2.2.2.2) M' ∧ HC (pushD D kept d) ((next + 1) % 8) (pushK kept) M' ∧ Off (fun c => c ≤ 47 ∨ 54 ≤ c ∧ c ≤ 70 ∨ c = 89) M M') ?_ ?_
        · unfold f_X8_set
          refine Ok.eqb (isSetting_c _ _) ?_
          rw [if_pos h1']
          refine Ok.neg (by decide) (Ok.eqb (fits_c (by omega)) ?_)
          rw [if_pos h2]
          refine Ok.neg (by decide) (Ok.bind (keep_cr h) ?_)
          rintro M1 ⟨c1, c2, c3⟩
          refine Ok.eqb (rd_nI (by omega) (by decide)) ?_
          refine Ok.eqb (wr_nI (by omega) (by decide)) ?_
          rw [show M1 4 a = _ from c2.2.2.2.1 a (by omega)]
          have hS : Sc 1 (d.1, d.2.1, d.2.2.1, upd d.2.2.2.1 a a2, d.2.2.2.2) (mset M1 4 a a2) := by
            obtain ⟨s1, s2, s3, s4, s5⟩ := c2
            refine ⟨by rw [mset_o (by decide)]; exact s1, by rw [mset_o (by decide)]; exact s2, by rw [mset_o (c' := 1 + 1) (by decide), mset_o (c' := 1 + 2) (by decide)]; exact s3, fun k hk => ?_, by rw [mset_o (c' := 1 + 4) (by decide)]; exact s5⟩
            rw [show mset M1 4 a a2 (1 + 3) = upd (M1 4) a a2 from mset_r]
            exact upd_st10 s4 k hk
          refine Ok.bind (again_cr hv' c1 c3 hS (Off.rf.set (by omega))) ?_
          rintro M3 ⟨e1, e2, e3, -, e5⟩
          exact Ok.of ⟨M3, rfl, e1, e2, e3, e5⟩
        · rintro o ⟨M', rfl, e1, e2, e3, e4⟩
          exact Ok.of ⟨rfl, rfl, e1, e2, e3, e4⟩
      obtain ⟨⟨k0, M3, L1⟩, g1, rfl, rfl, e1, e2, e3, e4⟩ := hG
      dsimp only at e1 e2 e3 e4
      have hM : Ok (f_X9_set (nI a) a2 M3) (fun r => r.1 = d.2.2.2.1 a ∧ r.2 90 0 = 0 ∧ Cr (d.1, d.2.1, d.2.2.1, upd d.2.2.2.1 a a2, d.2.2.2.2) (pushD D kept d) ((next + 1) % 8) (pushK kept) r.2) := by
        unfold f_X9_set f_X9_set_j25
        refine Ok.eqb (isSetting_m _ _) ?_
        rw [if_pos h1']
        refine Ok.neg (by decide) (Ok.eqb (isValue_m (by omega)) ?_)
        rw [if_pos h2, stf_e]
        refine Ok.neg (by decide) (Ok.eqb rfl (Ok.pos (by rw [mset_s]; decide) ?_))
        refine Ok.bind (save_cr h e4) ?_
        rintro M5 ⟨b1, b2, b3, b4, b5, b6⟩
        refine Ok.eqb (of_m a (by omega)) ?_
        rw [show (401 : Int32) + nI a = nI (401 + a) from nI_add 401 a]
        refine Ok.eqb (wr_nI (by omega) (by decide)) (Ok.of ⟨?_, ?_, ?_⟩)
        · exact Zc_st b2 a (by omega)
        · dsimp only
          rw [mset_o (by decide)]
          exact b4
        · dsimp only
          refine Cr_chg h hv' e1 e2 e3 e4 ?_ ?_ ?_ ((b6.mono (fun c hc => by omega)).set (by omega))
          · obtain ⟨s1, s2, s3, s4, s5⟩ := b2
            have hn := hv.1
            have hnc := hv.2.1
            refine ⟨by rw [mset_n (by omega)]; exact s1, by rw [mset_n (by omega)]; exact s2, fun m hm => by have : m < 200 := Nat.lt_of_lt_of_le hm hn; rw [mset_n (by omega), mset_n (by omega)]; exact s3 m hm, fun k hk => ?_, fun k hk => by rw [mset_n (by omega)]; exact s5 k hk⟩
            dsimp only
            by_cases hka : k = a
            · subst hka
              rw [mset_s, upd_s]
            · rw [mset_n (by omega), upd_n hka]
              exact s4 k hk
          · exact HZ_off b1 (by rw [mset_o (by decide)]) (mset_o (by decide))
          · rw [mset_o (by decide)]
            exact b5
      obtain ⟨⟨w2, M6⟩, k1, k2, k3, k4⟩ := hM
      exact ⟨0, M3, _, w2, M6, g1, k1, k3, fun _ => by rw [outL_1, ← k2], ⟨_, _, _, _, k4⟩⟩
    · have hG : g_set (nI a) a2 M L = some (2, M, L) := by
        unfold g_set f_X8_set
        rw [isSetting_c, if_pos h1', Option.bind_some, if_neg (by decide), fits_c (by omega), if_neg h2, Option.bind_some, if_pos rfl]
        rfl
      rw [hG]
      refine q_thr h (by decide) ?_
      unfold f_X9_set f_X9_set_j25
      rw [isSetting_m, if_pos h1', Option.bind_some, if_neg (by decide), isValue_m (by omega), if_neg h2, Option.bind_some, if_pos rfl, stf_e, Option.bind_some, if_neg (by rw [mset_s]; decide)]
  · have hG : g_set a1 a2 M L = some (1, M, L) := by
      unfold g_set f_X8_set
      rw [isSetting_c, if_neg h1, Option.bind_some, if_pos rfl]
      rfl
    rw [hG]
    refine q_thr h (by decide) ?_
    unfold f_X9_set f_X9_set_j25
    rw [isSetting_m, if_neg h1, Option.bind_some, if_pos rfl, stf_e, Option.bind_some, if_neg (by rw [mset_s]; decide)]
