/-! the law's cases: append, clearBuffer, firstError -/
theorem Cr_tx {d : Dt} {D : Nat → Dt} {next kept : Nat} {M M' : Mem} (h : Cr d D next kept M) (h2 : M' 90 2 = M 90 2) (ho : Off (fun c => 48 ≤ c ∧ c ≤ 53 ∨ c = 90 ∨ c = 93 ∨ c = 107) M M') (ht : Tx M') : Cr d D next kept M' := by
  obtain ⟨h1, h2', h3, h4, h5, h6, h7, h8⟩ := h
  exact ⟨h1, Sc_off h2' (fun c hc hc2 => ho c (by omega)), by rw [ho 91 (by omega)]; exact h3, Vw_off h4 (fun c hc hc2 => ho c (by omega)), HC_off h5 (fun c hc hc2 => ho c (by omega)), HZ_off h6 h2 (ho 92 (by omega)), h7, ht⟩
theorem Qt_co {M M' : Mem} (h : CO M M') : Qt M M' := ⟨h.1, by rw [h.2 90 (by omega)], by rw [h.2 90 (by omega)], h.2.mono (fun c hc => by omega)⟩
theorem Qt_mo {M M' : Mem} (h : MO M M') : Qt M M' := ⟨by rw [h.2 48 (by omega)], h.1 2 (by decide), h.1 4 (by decide), h.2.mono (fun c hc => by omega)⟩
theorem clear_q (a1 a2 a3 : Int32) {M : Mem} {L : Lng} {d : Dt} {D : Nat → Dt} {next kept : Nat} (h : Cr d D next kept M) : LC (f_lc7 a1 a2 a3 M L) := by
  obtain ⟨t, ht, t1, t2, t3⟩ := h.2.2.2.2.2.2.2
  have e1 : f_X8_clearBuffer M = some (M 48 1, mset M 48 1 0) := rfl
  have e2 : ∀ N, f_X9_clearBuffer N = some (mset N 90 0 0 90 4, mset (mset N 90 0 0) 90 4 0) := fun _ => rfl
  refine ⟨(mset (mset (mset M 48 1 0) 90 0 0) 90 4 0, L), ?_, d, D, next, kept, Cr_tx (M' := mset (mset (mset M 48 1 0) 90 0 0) 90 4 0) h ?_ ?_ ⟨0, Nat.zero_le _, ?_, ?_, fun i hi => absurd hi (Nat.not_lt_zero i)⟩⟩
  · unfold f_lc7
    rw [e1, Option.bind_some]
    dsimp only
    rw [e2, Option.bind_some]
    dsimp only
    rw [if_pos (show M 48 1 = mset (mset M 48 1 0) 90 0 0 90 4 from by rw [mset_n (by decide), mset_o (by decide), t1, t2])]
  · rw [mset_n (by decide), mset_n (by decide), mset_o (by decide)]
  · exact ((Off.rf.set (by omega)).set (by omega)).set (by omega)
  · rw [mset_o (by decide), mset_o (by decide), mset_s]
    rfl
  · rw [mset_s]
    rfl
theorem first_q (a1 a2 a3 : Int32) {M : Mem} {L : Lng} {d : Dt} {D : Nat → Dt} {next kept : Nat} (h : Cr d D next kept M) : LC (f_lc8 a1 a2 a3 M L) := by
  obtain ⟨t, ht, t1, t2, t3⟩ := h.2.2.2.2.2.2.2
  obtain ⟨⟨v, M1⟩, e1, c1, i, S, r1, c2, c3⟩ := read_c (code := M 49) ht t1 (fun i hi => rfl)
  dsimp only at c1 c2 c3
  obtain ⟨⟨v2, M2⟩, e2, d1, j, S', r2, d2, d3⟩ := readText_m (M := mset M1 90 0 0) (code := M 49) ht (by rw [mset_n (by decide), c1.2 90 (by omega)]; exact t2) (fun i hi => by rw [mset_o (by decide), c1.2 93 (by omega), t3 i hi])
  dsimp only at d1 d2 d3
  obtain ⟨rfl, rfl⟩ := Rd_eq r1 r2
  refine ⟨(M2, L), ?_, Rl_q h (((Qt_co c1).tr Qt_t).tr (Qt_mo d1))⟩
  unfold f_lc8 f_X8_firstError
  rw [e1, Option.bind_some, Option.bind_some]
  unfold f_X9_firstError
  rw [stf_e, Option.bind_some]
  dsimp only
  rw [e2, Option.bind_some, Option.bind_some]
  dsimp only
  rw [if_pos (c2.trans d2.symm)]
theorem append_q (a1 a2 a3 : Int32) {M : Mem} {L : Lng} {d : Dt} {D : Nat → Dt} {next kept : Nat} (h : Cr d D next kept M) : LC (f_lc6 a1 a2 a3 M L) := by
  refine law_ok (F := f_X9_append a1) ?_
  obtain ⟨t, ht, t1, t2, t3⟩ := h.2.2.2.2.2.2.2
  by_cases h1 : 33 ≤ a1 ∧ a1 ≤ 126
  · by_cases h2 : t < 60
    · refine chg_ok (L := L) (v := nI (t + 1)) (P := fun M3 => M3 = mset (mset M 49 t a1) 48 1 (nI (t + 1))) ?_ ?_
      · unfold g_append
        refine Ok.bind (P := fun o => o = .inr (nI (t + 1), mset (mset M 49 t a1) 48 1 (nI (t + 1)))) ?_ ?_
        · unfold f_X8_append f_X6_addCode
          refine Ok.neg (n_lt' h1.1) (Ok.pos h1.2 (Ok.pos (by rw [t1]; exact nI_lt (b := 60) h2 (by decide)) ?_))
          refine Ok.bind (P := fun M3 => M3 = mset (mset M 49 t a1) 48 1 (nI (t + 1))) ?_ ?_
          · refine Ok.neg (by rw [t1]; exact nI_ge (b := 60) h2 (by decide)) ?_
            rw [t1]
            refine Ok.eqb (wr_nI h2 (by decide)) ?_
            rw [stf_e]
            refine Ok.eqb rfl (Ok.of ?_)
            rw [mset_o (c' := 48) (by decide), t1, nI_1]
          · rintro M3 rfl
            refine Ok.of ?_
            rw [mset_s]
        · rintro o rfl
          exact Ok.of ⟨rfl, rfl, rfl⟩
      · rintro M3 rfl
        unfold f_X9_append f_X9_append_j30
        refine Ok.eqb (within_e _ _ _ _) ?_
        rw [if_pos h1]
        refine Ok.neg (by decide) (Ok.neg (by rw [mset_o (by decide), mset_o (by decide), t2]; exact nI_ne (b := 60) (by omega) (by decide) (by omega)) ?_)
        rw [stf_e]
        refine Ok.eqb rfl (Ok.pos (by rw [mset_s]; decide) ?_)
        have e4 : mset (mset (mset M 49 t a1) 48 1 (nI (t + 1))) 90 0 0 90 4 = nI t := by rw [mset_n (by decide), mset_o (by decide), mset_o (by decide), t2]
        rw [e4]
        refine Ok.eqb (wr_nI h2 (by decide)) ?_
        rw [stf_e, mset_o (c := 93) (c' := 90) (by decide), e4, nI_1]
        refine Ok.eqb rfl (Ok.of ⟨by dsimp only; rw [mset_s], by dsimp only; rw [mset_n (by decide), mset_o (by decide), mset_s], d, D, next, kept, Cr_tx h ?_ ?_ ⟨t + 1, by omega, ?_, ?_, fun i hi => ?_⟩⟩)
        · dsimp only
          rw [mset_n (by decide), mset_o (by decide), mset_n (by decide), mset_o (by decide), mset_o (by decide)]
        · exact ((((Off.rf.set (by omega)).set (by omega)).set (by omega)).set (by omega)).set (by omega)
        · dsimp only
          rw [mset_o (by decide), mset_o (by decide), mset_o (by decide), mset_s]
        · dsimp only
          rw [mset_s]
        · dsimp only
          rw [mset_o (c := 90) (c' := 49) (by decide), mset_o (c := 93) (c' := 49) (by decide), mset_o (c := 90) (c' := 49) (by decide), mset_o (c := 48) (c' := 49) (by decide), mset_r, mset_o (c := 90) (c' := 93) (by decide), mset_r, mset_o (c := 90) (c' := 93) (by decide), mset_o (c := 48) (c' := 93) (by decide), mset_o (c := 49) (c' := 93) (by decide)]
          by_cases hit : i = t
          · rw [hit, upd_s, upd_s]
          · rw [upd_n hit, upd_n hit]
            exact t3 i (by omega)
    · have e60 : t = 60 := by omega
      subst e60
      have hG : g_append a1 M L = some (2, M, L) := by
        unfold g_append f_X8_append
        rw [if_neg (n_lt' h1.1), if_pos h1.2, t1, if_neg (show ¬ nI 60 < 60 by decide)]
        rfl
      rw [hG]
      refine q_thr h (by decide) ?_
      unfold f_X9_append f_X9_append_j30
      rw [within_e, if_pos h1, Option.bind_some, if_neg (by decide), t2, if_pos (show nI 60 = 60 from rfl), stf_e, Option.bind_some, if_neg (by rw [mset_s]; decide)]
  · have hG : g_append a1 M L = some (1, M, L) := by
      unfold g_append f_X8_append f_X8_append_j12
      by_cases h6 : a1 < 33
      · rw [if_pos h6]
        rfl
      · rw [if_neg h6, if_neg (fun q => h1 ⟨le_n h6, q⟩)]
        rfl
    rw [hG]
    refine q_thr h (by decide) ?_
    unfold f_X9_append f_X9_append_j30
    rw [within_e, if_neg h1, Option.bind_some, if_pos rfl, stf_e, Option.bind_some, if_neg (by rw [mset_s]; decide)]
