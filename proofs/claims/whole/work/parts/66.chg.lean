/-- behind the class's change -/
def PC (d d' : Dt) (D : Nat → Dt) (next kept : Nat) (M M3 : Mem) : Prop := Sc 1 d' M3 ∧ Vw d' M3 ∧ HC (pushD D kept d) ((next + 1) % 8) (pushK kept) M3 ∧ Off (fun c => c ≤ 47 ∨ 54 ≤ c ∧ c ≤ 70 ∨ c = 89) M M3
/-- behind the model's save -/
def PS (d : Dt) (D : Nat → Dt) (kept : Nat) (M M3 M5 : Mem) : Prop := HZ (pushD D kept d) (pushK kept) M5 ∧ Zc (M5 91) d ∧ M5 91 = M 91 ∧ M5 90 0 = 0 ∧ M5 90 4 = M3 90 4 ∧ Off (fun c => c = 90 ∨ c = 92) M3 M5
theorem Cr_chg2 {d d' : Dt} {D : Nat → Dt} {next kept : Nat} {M M3 M5 M6 : Mem} (h : Cr d D next kept M) (hv : Vd d') (hc : PC d d' D next kept M M3) (hm : PS d D kept M M3 M5) (b1 : Zc (M6 91) d') (bk : Kp M5 M6) (b4 : Off (fun c => c = 90 ∨ c = 91 ∨ 94 ≤ c ∧ c ≤ 106) M5 M6) :
    M6 90 0 = 0 ∧ Cr d' (pushD D kept d) ((next + 1) % 8) (pushK kept) M6 := by
  obtain ⟨a1, a2, a3, a4⟩ := hc
  obtain ⟨c1, c2, c3, c4, c5, c6⟩ := hm
  refine ⟨by rw [bk 0 (by decide) (by decide) (by decide)]; exact c4, Cr_chg h hv a1 a2 a3 a4 b1 (HZ_off c1 (bk 2 (by decide) (by decide) (by decide)) (b4 92 (by omega))) (by rw [bk 4 (by decide) (by decide) (by decide)]; exact c5) ?_⟩
  exact (c6.mono (fun c hc => by omega)).tr (b4.mono (fun c hc => by omega))
theorem Kp_off {M M' : Mem} {cs : Nat → Prop} (h : Off cs M M') (hc : ¬ cs 90) : Kp M M' := fun k _ _ _ => by rw [h 90 hc]
theorem again_pc {d d' : Dt} {D : Nat → Dt} {next kept : Nat} {M M1 M2 : Mem} (hv : Vd d') (a1 : HC (pushD D kept d) ((next + 1) % 8) (pushK kept) M1) (a2 : Off (fun c => 6 ≤ c ∧ c ≤ 46) M M1) (b1 : Sc 1 d' M2) (b2 : Off (fun c => 1 ≤ c ∧ c ≤ 5) M1 M2) :
    Ok (f_X8_readAgain M2) (fun M3 => PC d d' D next kept M M3 ∧ M3 1 = M2 1) := by
  refine Ok.mono (again_cr hv a1 a2 b1 b2) ?_
  rintro M3 ⟨c1, c2, c3, c4, c5⟩
  exact ⟨⟨c1, c2, c3, c5⟩, c4⟩
theorem chg_ok {G : Option (Int32 × Mem × Lng)} {F : Mem → Option (Int32 × Mem)} {L : Lng} {v : Int32} {P : Mem → Prop} (hG : Ok G (fun r => r.1 = 0 ∧ r.2.2 = outL L (Int32.toInt64 v) ∧ P r.2.1)) (hM : ∀ M3, P M3 → Ok (F M3) (fun r => r.1 = v ∧ r.2 90 0 = 0 ∧ Rl r.2 L)) :
    ∃ k M1 L1 w M2, G = some (k, M1, L1) ∧ F M1 = some (w, M2) ∧ M2 90 0 = k ∧ (k = 0 → L1 1 = Int32.toInt64 w) ∧ Rl M2 L1 := by
  obtain ⟨⟨k0, M3, L1⟩, g1, rfl, rfl, e1⟩ := hG
  obtain ⟨⟨w2, M6⟩, k1, k2, k3, k4⟩ := hM M3 e1
  exact ⟨0, M3, _, w2, M6, g1, k1, k3, fun _ => by rw [outL_1, ← k2], k4⟩
theorem lvl_i {a : Int32} (h : 0 ≤ a ∧ a ≤ 140) : 0 ≤ a.toInt ∧ a.toInt ≤ 140 := ⟨i_le.mp h.1, i_le.mp h.2⟩
theorem isTold_m (a b : Int32) (M : Mem) : f_X9_isTold a b M = some (if (0 ≤ a ∧ a ≤ 140) ∧ 0 ≤ b ∧ b ≤ 40 then 1 else 0) := by
  unfold f_X9_isTold
  rw [within_e, Option.bind_some]
  by_cases h1 : 0 ≤ a ∧ a ≤ 140
  · rw [if_pos h1, if_neg (by decide), within_e, Option.bind_some]
    by_cases h2 : 0 ≤ b ∧ b ≤ 40
    · rw [if_pos h2, if_neg (by decide), if_pos ⟨h1, h2⟩]
    · rw [if_neg h2, if_pos rfl, if_neg (fun q => h2 q.2)]
  · rw [if_neg h1, if_pos rfl, if_neg (fun q => h1 q.1)]
theorem tell_q (a1 a2 a3 : Int32) {M : Mem} {L : Lng} {d : Dt} {D : Nat → Dt} {next kept : Nat} (h : Cr d D next kept M) : LC (f_lc1 a1 a2 a3 M L) := by
  refine law_ok (F := f_X9_tell a1 a2 a3) ?_
  obtain ⟨hv, hs, hz, hw, hH, hZ, h5⟩ := id h
  have hn := hv.1
  have bad : g_tell a1 a2 a3 M L = some (1, M, L) → f_X9_tell a1 a2 a3 M = f_X9_tell_j54 a1 a2 a3 1 M → ∃ k M1 L1 w M2, g_tell a1 a2 a3 M L = some (k, M1, L1) ∧ f_X9_tell a1 a2 a3 M1 = some (w, M2) ∧ M2 90 0 = k ∧ (k = 0 → L1 1 = Int32.toInt64 w) ∧ Rl M2 L1 := by
    intro hG hF
    rw [hG]
    refine q_thr h (by decide) ?_
    rw [hF]
    unfold f_X9_tell_j54
    rw [stf_e, Option.bind_some, if_neg (by rw [mset_s]; decide)]
  by_cases h1 : 0 ≤ a1 ∧ a1 ≤ 140
  · by_cases h2 : 0 ≤ a2 ∧ a2 ≤ 40
    · by_cases h3 : 1 ≤ a3 ∧ a3 ≤ 60
      · have h3' := h3
        obtain ⟨k, hk, rfl⟩ := ar (K := 60) (by decide) (fun q => by have q1 := i_lt.mp q; have q2 := i_le.mp h3.1; have e1 : (1 : Int32).toInt = 1 := rfl; have e0 : (0 : Int32).toInt = 0 := rfl; omega) h3.2
        by_cases h4 : d.2.2.2.2.1 + k ≤ 200
        · have hv' := addD_V (w := a2) hv (lvl_i h1) k h4
          have hle : nI d.2.2.2.2.1 + nI k ≤ 200 := by
            rw [nI_add]
            exact nI_le (b := 200) h4 (by decide)
          refine chg_ok (L := L) (v := nI (d.2.2.2.2.1 + k)) (P := PC d (addD d a1 a2 k) D next kept M) ?_ ?_
          · unfold g_tell
            refine Ok.bind (P := fun o => ∃ M', o = .inr (nI (d.2.2.2.2.1 + k), M') ∧ PC d (addD d a1 a2 k) D next kept M M') ?_ ?_
            · unfold f_X8_tell
              refine Ok.eqb (isLevel_c _ _) ?_
              rw [if_pos h1]
              refine Ok.neg (by decide) (Ok.eqb (isWind_c _ _) ?_)
              rw [if_pos h2]
              refine Ok.neg (by decide) (Ok.neg (n_lt' h3'.1) (Ok.pos h3'.2 (Ok.pos (by rw [hs.1]; exact hle) ?_)))
              refine Ok.bind (keep_cr h) ?_
              rintro M1 ⟨c1, c2, c3⟩
              refine Ok.bind (add_c c2 h4) ?_
              rintro M2 ⟨e1, e2⟩
              refine Ok.bind (again_pc hv' c1 c3 e1 e2) ?_
              rintro M3 ⟨p1, p2⟩
              refine Ok.of ⟨M3, ?_, p1⟩
              rw [p1.1.1, addD_n]
            · rintro o ⟨M', rfl, p⟩
              exact Ok.of ⟨rfl, rfl, p⟩
          · intro M3 p
            have hp4 := p.2.2.2
            unfold f_X9_tell f_X9_tell_j23 f_X9_tell_j54
            refine Ok.eqb (isTold_m _ _ _) ?_
            rw [if_pos (show (0 ≤ a1 ∧ a1 ≤ 140) ∧ 0 ≤ a2 ∧ a2 ≤ 40 from ⟨h1, h2⟩)]
            refine Ok.neg (by decide) (Ok.eqb (within_e _ _ _ _) ?_)
            rw [if_pos h3']
            refine Ok.neg (by decide) (Ok.neg (by decide) ?_)
            refine Ok.eqb (show rd M3 91 432 0 = some (M3 91 0) from rd_nI (k := 0) (by decide) (by decide)) ?_
            rw [hp4 91 (by omega), hz.1]
            refine Ok.pos hle ?_
            rw [stf_e]
            refine Ok.eqb rfl (Ok.pos (by rw [mset_s]; decide) ?_)
            refine Ok.bind (save_cr h hp4) ?_
            rintro M5 b
            refine Ok.bind (bring_m (l := a1) (w := a2) hv.2.1 b.2.1 h4) ?_
            rintro M6 ⟨e1, e2⟩
            refine Ok.eqb (show rd M6 91 432 0 = some (M6 91 0) from rd_nI (k := 0) (by decide) (by decide)) (Ok.of ?_)
            have hc := Cr_chg2 (M6 := M6) h hv' p b e1 (Kp_off e2 (by decide)) (e2.mono (fun c hc => by omega))
            exact ⟨by dsimp only; rw [e1.1, addD_n], hc.1, ⟨_, _, _, _, hc.2⟩⟩
        · have hle : ¬ nI d.2.2.2.2.1 + nI k ≤ 200 := by
            rw [nI_add]
            exact nI_ge (a := 200) (by omega) (by omega)
          have hG : g_tell a1 a2 (nI k) M L = some (2, M, L) := by
            unfold g_tell f_X8_tell
            rw [isLevel_c, if_pos h1, Option.bind_some, if_neg (by decide), isWind_c, if_pos h2, Option.bind_some, if_neg (by decide), if_neg (n_lt' h3'.1), if_pos h3'.2, hs.1, if_neg hle]
            rfl
          rw [hG]
          refine q_thr h (by decide) ?_
          unfold f_X9_tell f_X9_tell_j23 f_X9_tell_j54
          rw [isTold_m, if_pos (show (0 ≤ a1 ∧ a1 ≤ 140) ∧ 0 ≤ a2 ∧ a2 ≤ 40 from ⟨h1, h2⟩), Option.bind_some, if_neg (by decide), within_e, if_pos h3', Option.bind_some, if_neg (by decide), if_neg (by decide), show rd M 91 432 0 = some (M 91 0) from rd_nI (k := 0) (by decide) (by decide), Option.bind_some, hz.1, if_neg hle, stf_e, Option.bind_some, if_neg (by rw [mset_s]; decide)]
      · refine bad ?_ ?_
        · unfold g_tell f_X8_tell
          rw [isLevel_c, if_pos h1, Option.bind_some, if_neg (by decide), isWind_c, if_pos h2, Option.bind_some, if_neg (by decide)]
          by_cases h6 : a3 < 1
          · rw [if_pos h6]
            rfl
          · rw [if_neg h6, if_neg (fun q => h3 ⟨le_n h6, q⟩)]
            rfl
        · unfold f_X9_tell f_X9_tell_j22 f_X9_tell_j23
          rw [isTold_m, if_pos (show (0 ≤ a1 ∧ a1 ≤ 140) ∧ 0 ≤ a2 ∧ a2 ≤ 40 from ⟨h1, h2⟩), Option.bind_some, if_neg (by decide), within_e, if_neg h3, Option.bind_some, if_pos rfl, if_pos rfl]
    · refine bad ?_ ?_
      · unfold g_tell f_X8_tell
        rw [isLevel_c, if_pos h1, Option.bind_some, if_neg (by decide), isWind_c, if_neg h2, Option.bind_some, if_pos rfl]
        rfl
      · unfold f_X9_tell f_X9_tell_j22 f_X9_tell_j23
        rw [isTold_m, if_neg (fun q => h2 q.2), Option.bind_some, if_pos rfl, if_pos rfl]
  · refine bad ?_ ?_
    · unfold g_tell f_X8_tell
      rw [isLevel_c, if_neg h1, Option.bind_some, if_pos rfl]
      rfl
    · unfold f_X9_tell f_X9_tell_j22 f_X9_tell_j23
      rw [isTold_m, if_neg (fun q => h1 q.1), Option.bind_some, if_pos rfl, if_pos rfl]
