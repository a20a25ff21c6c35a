/-! the law's cases: correct, forget -/
theorem nI_sub {a b : Nat} (h : b ≤ a) (ha : a < 2 ^ 31) : nI a - nI b = nI (a - b) := by
  refine i_eq.mpr ?_
  rw [i_sub] <;> rw [i_nI ha, i_nI (by omega)]
  · rw [i_nI (by omega)]
    omega
  · omega
  · omega
def corD (d : Dt) (m : Nat) (l w : Int32) : Dt := (upd d.1 m l, upd d.2.1 m w, d.2.2)
theorem corD_V {d : Dt} {m : Nat} {l w : Int32} (hv : Vd d) (hm : m < d.2.2.2.2.1) (hl : 0 ≤ l.toInt ∧ l.toInt ≤ 140) : Vd (corD d m l w) := by
  obtain ⟨h1, h2, h3, h4, h5, h6⟩ := hv
  refine ⟨h1, h2, fun q hq => ?_, fun q hq => ?_, h5, h6⟩
  · have hq' : d.2.2.2.2.1 ≤ q := hq
    show upd _ _ _ q = 0 ∧ upd _ _ _ q = 0
    rw [upd_n (by omega), upd_n (by omega)]
    exact h3 q hq'
  · have hq' : q < d.2.2.2.2.1 := hq
    show 0 ≤ (upd d.1 m l q).toInt ∧ (upd d.1 m l q).toInt ≤ 140
    by_cases hqm : q = m
    · rw [hqm, upd_s]
      exact hl
    · rw [upd_n hqm]
      exact h4 q hq'
theorem cor_S {M1 : Mem} {d : Dt} {m : Nat} {l w : Int32} (hs : Sc 1 d M1) : Sc 1 (corD d m l w) (mset (mset M1 2 m l) 3 m w) := by
  obtain ⟨s1, s2, s3, s4, s5⟩ := hs
  refine ⟨?_, ?_, fun q hq => ?_, ?_, ?_⟩
  · rw [mset_o (by decide), mset_o (by decide)]
    exact s1
  · rw [mset_o (by decide), mset_o (by decide)]
    exact s2
  · have h3 : M1 2 q = d.1 q ∧ M1 3 q = d.2.1 q := s3 q hq
    show mset (mset M1 2 m l) 3 m w 2 q = upd d.1 m l q ∧ mset (mset M1 2 m l) 3 m w 3 q = upd d.2.1 m w q
    rw [mset_o (c' := 2) (by decide), mset_r, mset_r, mset_o (c' := 3) (by decide)]
    by_cases hqm : q = m
    · rw [hqm, upd_s, upd_s, upd_s, upd_s]
      exact ⟨rfl, rfl⟩
    · rw [upd_n hqm, upd_n hqm, upd_n hqm, upd_n hqm]
      exact h3
  · rw [mset_o (c' := 1 + 3) (by decide), mset_o (c' := 1 + 3) (by decide)]
    exact s4
  · rw [mset_o (c' := 1 + 4) (by decide), mset_o (c' := 1 + 4) (by decide)]
    exact s5
theorem cor_Z {f : Nat → Int32} {d : Dt} {m : Nat} {l w : Int32} (hv : Vd d) (hm : m < d.2.2.2.2.1) (hs : Zc f d) : Zc (upd (upd f (1 + 2 * m) l) (1 + 2 * m + 1) w) (corD d m l w) := by
  have hn := hv.1
  have hnc := hv.2.1
  obtain ⟨s1, s2, s3, s4, s5⟩ := hs
  refine ⟨?_, ?_, fun q hq => ?_, fun k hk => ?_, fun k hk => ?_⟩
  · rw [upd_n (by omega), upd_n (by omega)]
    exact s1
  · rw [upd_n (by omega), upd_n (by omega)]
    exact s2
  · have h3 := s3 q hq
    show _ = upd d.1 m l q ∧ _ = upd d.2.1 m w q
    by_cases hqm : q = m
    · rw [hqm, upd_n (k' := 1 + 2 * m) (by omega), upd_s, upd_s, show 2 + 2 * m = 1 + 2 * m + 1 by omega, upd_s, upd_s]
      exact ⟨rfl, rfl⟩
    · rw [upd_n hqm, upd_n hqm, upd_n (by omega), upd_n (by omega), upd_n (by omega), upd_n (by omega)]
      exact h3
  · have h4 : f (401 + k) = d.2.2.2.1 k := s4 k hk
    show upd _ _ _ (401 + k) = d.2.2.2.1 k
    rw [upd_n (by omega), upd_n (by omega)]
    exact h4
  · rw [upd_n (by omega), upd_n (by omega)]
    exact s5 k hk
theorem dC_st {lv wd st st' : Nat → Int32} {n : Nat} (h : st10 st st') : dC lv wd st n = dC lv wd st' n := by
  show xCnt (gO st) (dA lv wd st) n = xCnt (gO st') (dA lv wd st') n
  rw [gO_st h, dA_st h]
theorem correct_q (a1 a2 a3 : Int32) {M : Mem} {L : Lng} {d : Dt} {D : Nat → Dt} {next kept : Nat} (h : Cr d D next kept M) : LC (f_lc2 a1 a2 a3 M L) := by
  refine law_ok (F := f_X9_correct a1 a2 a3) ?_
  obtain ⟨hv, hs, hz, hw, hH, hZ, h5⟩ := id h
  have hn := hv.1
  by_cases h1 : inR a1 d.2.2.2.2.1
  · have h1' := h1
    obtain ⟨m, hm, rfl⟩ := inR_ex (by omega) h1
    by_cases h2 : (0 ≤ a2 ∧ a2 ≤ 140) ∧ 0 ≤ a3 ∧ a3 ≤ 40
    · have hv' := corD_V (w := a3) hv hm (lvl_i h2.1)
      refine chg_ok (L := L) (v := nI (dCn (corD d m a2 a3))) (P := PC d (corD d m a2 a3) D next kept M) ?_ ?_
      · unfold g_correct
        refine Ok.bind (P := fun o => ∃ M', o = .inr (nI (dCn (corD d m a2 a3)), M') ∧ PC d (corD d m a2 a3) D next kept M M') ?_ ?_
        · unfold f_X8_correct
          refine Ok.eqb (hasMinute_c hs.1) ?_
          rw [if_pos h1']
          refine Ok.neg (by decide) (Ok.eqb (isLevel_c _ _) ?_)
          rw [if_pos h2.1]
          refine Ok.neg (by decide) (Ok.eqb (isWind_c _ _) ?_)
          rw [if_pos h2.2]
          refine Ok.neg (by decide) (Ok.bind (keep_cr h) ?_)
          rintro M1 ⟨c1, c2, c3⟩
          refine Ok.eqb (wr_nI (by omega) (by decide)) ?_
          refine Ok.eqb (wr_nI (by omega) (by decide)) ?_
          refine Ok.bind (again_pc hv' c1 c3 (cor_S c2) ((Off.rf.set (by omega)).set (by omega))) ?_
          rintro M3 ⟨p1, p2⟩
          refine Ok.of ⟨M3, ?_, p1⟩
          rw [show M3 60 6 = nI (dCn (corD d m a2 a3)) from p1.2.1.1.2.2.1.1.1]
        · rintro o ⟨M', rfl, p⟩
          exact Ok.of ⟨rfl, rfl, p⟩
      · intro M3 p
        have hp4 := p.2.2.2
        unfold f_X9_correct f_X9_correct_j26
        refine Ok.eqb (isMinute_m (n := d.2.2.2.2.1) (by omega) (by rw [hp4 91 (by omega)]; exact hz.1)) ?_
        rw [if_pos h1']
        refine Ok.neg (by decide) (Ok.eqb (isTold_m _ _ _) ?_)
        rw [if_pos h2]
        refine Ok.neg (by decide) ?_
        rw [stf_e]
        refine Ok.eqb rfl (Ok.pos (by rw [mset_s]; decide) ?_)
        refine Ok.bind (save_cr h hp4) ?_
        rintro M5 b
        rw [n12, nI_1]
        refine Ok.eqb (wr_nI (by omega) (by decide)) ?_
        refine Ok.eqb (wr_nI (by omega) (by decide)) ?_
        have o9 : Off (fun c => c = 91) M5 (mset (mset M5 91 (1 + 2 * m) a2) 91 (1 + 2 * m + 1) a3) := (Off.rf.set (by omega)).set (by omega)
        have z9 : Zc (mset (mset M5 91 (1 + 2 * m) a2) 91 (1 + 2 * m + 1) a3 91) (corD d m a2 a3) := by
          rw [mset_r, mset_r]
          exact cor_Z hv hm b.2.1
        generalize mset (mset M5 91 (1 + 2 * m) a2) 91 (1 + 2 * m + 1) a3 = M9 at o9 z9 ⊢
        refine Ok.bind (lay0_m (Zc_zM hv' z9) hv'.2.2.1 (Zc_ok hv' z9)) ?_
        rintro M6 ⟨k1, k2, k3⟩
        have e91 : M6 91 = M9 91 := k3 91 (by omega)
        have hc := Cr_chg2 (M6 := M6) h hv' p b (by rw [e91]; exact z9) (fun k q1 q2 q3 => (k2 k q1 q2 q3).trans (by rw [o9 90 (by decide)])) ((o9.mono (fun c hc => by omega)).tr (k3.mono (fun c hc => by omega)))
        refine Ok.of ⟨?_, hc.1, ⟨_, _, _, _, hc.2⟩⟩
        dsimp only
        rw [k1.2.2.1]
        exact congrArg nI (dC_st (Zc_st z9))
    · have hG : g_correct (nI m) a2 a3 M L = some (2, M, L) := by
        unfold g_correct f_X8_correct f_X8_correct_j35
        rw [hasMinute_c hs.1, if_pos h1', Option.bind_some, if_neg (by decide), isLevel_c, Option.bind_some]
        by_cases h6 : 0 ≤ a2 ∧ a2 ≤ 140
        · rw [if_pos h6, if_neg (by decide), isWind_c, if_neg (fun q => h2 ⟨h6, q⟩), Option.bind_some, if_pos rfl]
          rfl
        · rw [if_neg h6, if_pos rfl]
          rfl
      rw [hG]
      refine q_thr h (by decide) ?_
      unfold f_X9_correct f_X9_correct_j26
      rw [isMinute_m (n := d.2.2.2.2.1) (by omega) hz.1, if_pos h1', Option.bind_some, if_neg (by decide), isTold_m, if_neg h2, Option.bind_some, if_pos rfl, stf_e, Option.bind_some, if_neg (by rw [mset_s]; decide)]
  · have hG : g_correct a1 a2 a3 M L = some (1, M, L) := by
      unfold g_correct f_X8_correct
      rw [hasMinute_c hs.1, if_neg h1, Option.bind_some, if_pos rfl]
      rfl
    rw [hG]
    refine q_thr h (by decide) ?_
    unfold f_X9_correct f_X9_correct_j26
    rw [isMinute_m (n := d.2.2.2.2.1) (by omega) hz.1, if_neg h1, Option.bind_some, if_pos rfl, stf_e, Option.bind_some, if_neg (by rw [mset_s]; decide)]
