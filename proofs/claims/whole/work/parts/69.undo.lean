/-! the law's cases: complain, withdraw, undo -/
def cplD (d : Dt) (a : Int32) : Dt := (d.1, d.2.1, upd d.2.2.1 d.2.2.2.2.2 a, d.2.2.2.1, d.2.2.2.2.1, d.2.2.2.2.2 + 1)
theorem cplD_V {d : Dt} {w : Nat} (hv : Vd d) (hw : w ≤ 300) (hc : d.2.2.2.2.2 < 20) : Vd (cplD d (nI w)) := by
  obtain ⟨h1, h2, h3, h4, h5, h6⟩ := hv
  refine ⟨h1, hc, h3, h4, h5, fun i hi => ?_⟩
  have hi' : i < d.2.2.2.2.2 + 1 := hi
  show ∃ w', w' ≤ 300 ∧ upd d.2.2.1 d.2.2.2.2.2 (nI w) i = nI w'
  by_cases hi2 : i = d.2.2.2.2.2
  · exact ⟨w, hw, by rw [hi2, upd_s]⟩
  · rw [upd_n hi2]
    exact h6 i (by omega)
theorem cpl_S {M1 : Mem} {d : Dt} {a : Int32} (hs : Sc 1 d M1) : Sc 1 (cplD d a) (mset (mset M1 5 d.2.2.2.2.2 a) 1 5 (nI (d.2.2.2.2.2 + 1))) := by
  obtain ⟨s1, s2, s3, s4, s5⟩ := hs
  dsimp only [Nat.reduceAdd] at s3 s4 s5
  refine ⟨?_, ?_, fun q hq => ?_, ?_, fun i hi => ?_⟩
  · rw [mset_n (by decide), mset_o (by decide)]
    exact s1
  · rw [mset_s]
    rfl
  · show mset (mset M1 5 d.2.2.2.2.2 a) 1 5 (nI (d.2.2.2.2.2 + 1)) 2 q = d.1 q ∧ mset (mset M1 5 d.2.2.2.2.2 a) 1 5 (nI (d.2.2.2.2.2 + 1)) 3 q = d.2.1 q
    rw [mset_o (c' := 2) (by decide), mset_o (c' := 2) (by decide), mset_o (c' := 3) (by decide), mset_o (c' := 3) (by decide)]
    exact s3 q hq
  · show st10 (mset (mset M1 5 d.2.2.2.2.2 a) 1 5 (nI (d.2.2.2.2.2 + 1)) 4) d.2.2.2.1
    rw [mset_o (c' := 4) (by decide), mset_o (c' := 4) (by decide)]
    exact s4
  · have hi' : i < d.2.2.2.2.2 + 1 := hi
    show mset (mset M1 5 d.2.2.2.2.2 a) 1 5 (nI (d.2.2.2.2.2 + 1)) 5 i = upd d.2.2.1 d.2.2.2.2.2 a i
    rw [mset_o (c' := 5) (by decide), mset_r]
    by_cases hi2 : i = d.2.2.2.2.2
    · rw [hi2, upd_s, upd_s]
    · rw [upd_n hi2, upd_n hi2]
      exact s5 i (by omega)
theorem cpl_Z {f : Nat → Int32} {d : Dt} {a : Int32} (hv : Vd d) (hs : Zc f d) : Zc (upd (upd f (412 + d.2.2.2.2.2) a) 411 (nI (d.2.2.2.2.2 + 1))) (cplD d a) := by
  have hn := hv.1
  obtain ⟨s1, s2, s3, s4, s5⟩ := hs
  refine ⟨?_, ?_, fun q hq => ?_, fun k hk => ?_, fun k hk => ?_⟩
  · rw [upd_n (by omega), upd_n (by omega)]
    exact s1
  · rw [upd_s]
    rfl
  · have hq' : q < d.2.2.2.2.1 := hq
    rw [upd_n (by omega), upd_n (by omega), upd_n (by omega), upd_n (by omega)]
    exact s3 q hq
  · show upd _ _ _ (401 + k) = _
    rw [upd_n (by omega), upd_n (by omega)]
    exact s4 k hk
  · have hk' : k < d.2.2.2.2.2 + 1 := hk
    show _ = upd d.2.2.1 d.2.2.2.2.2 a k
    rw [upd_n (by omega)]
    by_cases hk2 : k = d.2.2.2.2.2
    · rw [hk2, upd_s, upd_s]
    · rw [upd_n (by omega), upd_n hk2]
      exact s5 k (by omega)
theorem complain_q (a1 a2 a3 : Int32) {M : Mem} {L : Lng} {d : Dt} {D : Nat → Dt} {next kept : Nat} (h : Cr d D next kept M) : LC (f_lc4 a1 a2 a3 M L) := by
  refine law_ok (F := f_X9_complain a1) ?_
  obtain ⟨hv, hs, hz, hw, hH, hZ, h5⟩ := id h
  have hnc := hv.2.1
  have r1 : ∀ K : Mem, rd K 91 432 411 = some (K 91 411) := fun K => rd91 (k := 411) (by decide)
  by_cases h1 : 0 ≤ a1 ∧ a1 ≤ 300
  · have h1' := h1
    obtain ⟨w, hw300, rfl⟩ := ar (K := 300) (by decide) (n_lt' h1.1) h1.2
    by_cases h2 : d.2.2.2.2.2 < 20
    · have hv' := cplD_V hv hw300 h2
      refine chg_ok (L := L) (v := nI d.2.2.2.2.2) (P := PC d (cplD d (nI w)) D next kept M) ?_ ?_
      · unfold g_complain
        refine Ok.bind (P := fun o => ∃ M', o = .inr (nI d.2.2.2.2.2, M') ∧ PC d (cplD d (nI w)) D next kept M M') ?_ ?_
        · unfold f_X8_complain
          refine Ok.neg (n_lt' h1'.1) (Ok.pos h1'.2 (Ok.pos (by rw [hs.2.1]; exact nI_lt (b := 20) h2 (by decide)) ?_))
          refine Ok.bind (keep_cr h) ?_
          rintro M1 ⟨c1, c2, c3⟩
          refine Ok.bind (P := fun M2 => Sc 1 (cplD d (nI w)) M2 ∧ Off (fun c => 1 ≤ c ∧ c ≤ 5) M1 M2) ?_ ?_
          · unfold f_X5_addComplaint
            dsimp only [Nat.reduceAdd]
            refine Ok.neg (by rw [c2.2.1]; exact nI_ge (b := 20) h2 (by decide)) ?_
            rw [c2.2.1]
            refine Ok.eqb (wr_nI (by omega) (by decide)) ?_
            rw [stf_e]
            refine Ok.eqb rfl (Ok.of ⟨?_, (Off.rf.set (by omega)).set (by omega)⟩)
            rw [mset_o (c' := 1) (by decide), c2.2.1, nI_1]
            exact cpl_S c2
          · rintro M2 ⟨e1, e2⟩
            refine Ok.bind (again_pc hv' c1 c3 e1 e2) ?_
            rintro M3 ⟨p1, p2⟩
            refine Ok.of ⟨M3, ?_, p1⟩
            rw [c2.2.1]
        · rintro o ⟨M', rfl, p⟩
          exact Ok.of ⟨rfl, rfl, p⟩
      · intro M3 p
        have hp4 := p.2.2.2
        unfold f_X9_complain f_X9_complain_j34
        refine Ok.eqb (within_e _ _ _ _) ?_
        rw [if_pos h1']
        refine Ok.neg (by decide) (Ok.eqb (r1 M3) ?_)
        refine Ok.neg (by rw [hp4 91 (by omega), hz.2.1]; exact nI_ne (b := 20) (by omega) (by decide) (by omega)) ?_
        rw [stf_e]
        refine Ok.eqb rfl (Ok.pos (by rw [mset_s]; decide) ?_)
        refine Ok.bind (save_cr h hp4) ?_
        rintro M5 b
        refine Ok.eqb (r1 M5) ?_
        rw [b.2.1.2.1, n412]
        refine Ok.eqb (wr_nI (by omega) (by decide)) ?_
        refine Ok.eqb (r1 _) ?_
        rw [mset_n (by omega), b.2.1.2.1, nI_1]
        refine Ok.eqb (show wr _ 91 432 411 _ = some (mset _ 91 411 _) from wr_nI (k := 411) (by decide) (by decide)) ?_
        have o9 : Off (fun c => c = 91) M5 (mset (mset M5 91 (412 + d.2.2.2.2.2) (nI w)) 91 411 (nI (d.2.2.2.2.2 + 1))) := (Off.rf.set (by omega)).set (by omega)
        have z9 : Zc (mset (mset M5 91 (412 + d.2.2.2.2.2) (nI w)) 91 411 (nI (d.2.2.2.2.2 + 1)) 91) (cplD d (nI w)) := by
          rw [mset_r, mset_r]
          exact cpl_Z hv b.2.1
        generalize mset (mset M5 91 (412 + d.2.2.2.2.2) (nI w)) 91 411 (nI (d.2.2.2.2.2 + 1)) = M6 at o9 z9 ⊢
        refine Ok.eqb (r1 M6) (Ok.of ?_)
        have hc := Cr_chg2 (M6 := M6) h hv' p b z9 (Kp_off o9 (by decide)) (o9.mono (fun c hc => by omega))
        refine ⟨?_, hc.1, ⟨_, _, _, _, hc.2⟩⟩
        dsimp only
        rw [show M6 91 411 = nI (d.2.2.2.2.2 + 1) from z9.2.1]
        exact nI_pred _
    · have e20 : d.2.2.2.2.2 = 20 := by omega
      have hG : g_complain (nI w) M L = some (2, M, L) := by
        unfold g_complain f_X8_complain
        rw [if_neg (n_lt' h1'.1), if_pos h1'.2, hs.2.1, e20, if_neg (show ¬ nI 20 < 20 by decide)]
        rfl
      rw [hG]
      refine q_thr h (by decide) ?_
      unfold f_X9_complain f_X9_complain_j34
      rw [within_e, if_pos h1', Option.bind_some, if_neg (by decide), r1, Option.bind_some, hz.2.1, e20, if_pos (show nI 20 = 20 from rfl), stf_e, Option.bind_some, if_neg (by rw [mset_s]; decide)]
  · have hG : g_complain a1 M L = some (1, M, L) := by
      unfold g_complain f_X8_complain f_X8_complain_j11
      by_cases h6 : a1 < 0
      · rw [if_pos h6]
        rfl
      · rw [if_neg h6, if_neg (fun q => h1 ⟨le_n h6, q⟩)]
        rfl
    rw [hG]
    refine q_thr h (by decide) ?_
    unfold f_X9_complain f_X9_complain_j34
    rw [within_e, if_neg h1, Option.bind_some, if_pos rfl, stf_e, Option.bind_some, if_neg (by rw [mset_s]; decide)]
def wdrD (d : Dt) (c : Nat) : Dt := (d.1, d.2.1, fun k => if k < c then d.2.2.1 k else d.2.2.1 (k + 1), d.2.2.2.1, d.2.2.2.2.1, d.2.2.2.2.2 - 1)
theorem wdrD_V {d : Dt} {c : Nat} (hv : Vd d) : Vd (wdrD d c) := by
  obtain ⟨h1, h2, h3, h4, h5, h6⟩ := hv
  refine ⟨h1, Nat.le_trans (Nat.sub_le _ _) h2, h3, h4, h5, fun i hi => ?_⟩
  have hi' : i < d.2.2.2.2.2 - 1 := hi
  show ∃ w', w' ≤ 300 ∧ (if i < c then d.2.2.1 i else d.2.2.1 (i + 1)) = nI w'
  by_cases hi2 : i < c
  · rw [if_pos hi2]
    exact h6 i (by omega)
  · rw [if_neg hi2]
    exact h6 (i + 1) (by omega)
theorem wdr_c {M : Mem} {d : Dt} {c : Nat} (hv : Vd d) (hs : Sc 1 d M) (hc : c < d.2.2.2.2.2) : Ok (f_X5_dropComplaint 1 (nI c) M) (fun M' => Sc 1 (wdrD d c) M' ∧ Off (fun c => 1 ≤ c ∧ c ≤ 5) M M') := by
  have hnc := hv.2.1
  obtain ⟨s1, s2, s3, s4, s5⟩ := hs
  dsimp only [Nat.reduceAdd] at s3 s4 s5
  unfold f_X5_dropComplaint
  refine Ok.bind (P := fun N => (∀ k, k < d.2.2.2.2.2 - 1 → N 5 k = if k < c then d.2.2.1 k else d.2.2.1 (k + 1)) ∧ Off (fun c => c = 5) M N) ?_ ?_
  · refine loop_FU (fun i z => z.1 = nI (c + i) ∧ (∀ k, k < c + i → z.2 5 k = if k < c then d.2.2.1 k else d.2.2.1 (k + 1)) ∧ (∀ k, c + i ≤ k → z.2 5 k = M 5 k) ∧ Off (fun c => c = 5) M z.2) _ (d.2.2.2.2.2 - 1 - c) (by omega) ?_ ?_ ⟨rfl, fun k hk => ?_, fun k _ => rfl, Off.rf⟩
    · rintro i ⟨j, N⟩ hi ⟨h1, h2, h3, h4⟩
      dsimp only at h1 h2 h3 h4
      subst h1
      unfold f_X5_dropComplaint_l2
      dsimp only [Nat.reduceAdd]
      rw [nI_1]
      refine Ok.neg (by rw [h4 1 (by decide), s2]; exact nI_ge (by omega) (by omega)) ?_
      refine Ok.eqb (rd_nI (by omega) (by decide)) ?_
      refine Ok.eqb (wr_nI (by omega) (by decide)) (Ok.of ⟨rfl, fun k hk => ?_, fun k hk => ?_, h4.set rfl⟩)
      · dsimp only
        rw [mset_r]
        by_cases hk2 : k = c + i
        · rw [hk2, upd_s, if_neg (by omega), h3 _ (by omega)]
          exact s5 _ (by omega)
        · rw [upd_n hk2]
          exact h2 k (by omega)
      · dsimp only
        rw [mset_r, upd_n (by omega)]
        exact h3 k (by omega)
    · rintro ⟨j, N⟩ ⟨h1, h2, h3, h4⟩
      dsimp only at h1 h2 h3 h4
      subst h1
      unfold f_X5_dropComplaint_l2
      dsimp only
      rw [nI_1]
      exact Ok.pos (by rw [h4 1 (by decide), s2]; exact nI_le (by omega) (by omega)) (Ok.of ⟨fun k hk => h2 k (by omega), h4⟩)
    · rw [if_pos (show k < c by omega)]
      exact s5 k (by omega)
  rintro N ⟨n1, n2⟩
  rw [stf_e]
  refine Ok.eqb rfl (Ok.of ⟨⟨?_, ?_, fun q hq => ?_, ?_, fun k hk => ?_⟩, (n2.mono (fun c hc => by omega)).set (by omega)⟩)
  · rw [mset_n (by decide), n2 1 (by decide)]
    exact s1
  · rw [mset_s, n2 1 (by decide), s2, nI_p1 (by omega)]
    rfl
  · have h3 := s3 q hq
    rw [← n2 2 (by decide), ← n2 3 (by decide)] at h3
    show mset N 1 5 (N 1 5 - 1) 2 q = d.1 q ∧ mset N 1 5 (N 1 5 - 1) 3 q = d.2.1 q
    rw [mset_o (c' := 2) (by decide), mset_o (c' := 3) (by decide)]
    exact h3
  · show st10 (mset N 1 5 (N 1 5 - 1) 4) d.2.2.2.1
    rw [mset_o (c' := 4) (by decide), n2 4 (by decide)]
    exact s4
  · show mset N 1 5 (N 1 5 - 1) 5 k = (if k < c then d.2.2.1 k else d.2.2.1 (k + 1))
    rw [mset_o (c' := 5) (by decide)]
    exact n1 k hk
theorem wdr_z {M : Mem} {d : Dt} {c : Nat} {v : Int32} (hv : Vd d) (hs : Zc (M 91) d) (hc : c < d.2.2.2.2.2) : Ok (loopN (f_X9_withdraw_l59 v) FU (nI (412 + c), mset M 91 411 (nI (d.2.2.2.2.2 - 1)))) (fun M' => Zc (M' 91) (wdrD d c) ∧ Off (fun c => c = 91) M M') := by
  have hn := hv.1
  have hnc := hv.2.1
  obtain ⟨s1, s2, s3, s4, s5⟩ := hs
  refine Ok.mono (P := fun N => (∀ k, k < d.2.2.2.2.2 - 1 → N 91 (412 + k) = if k < c then d.2.2.1 k else d.2.2.1 (k + 1)) ∧ N 91 411 = nI (d.2.2.2.2.2 - 1) ∧ (∀ q, q < 411 → N 91 q = M 91 q) ∧ Off (fun c => c = 91) M N) ?_ ?_
  · refine loop_FU (fun i z => z.1 = nI (412 + c + i) ∧ (∀ k, k < c + i → z.2 91 (412 + k) = if k < c then d.2.2.1 k else d.2.2.1 (k + 1)) ∧ (∀ k, c + i ≤ k → z.2 91 (412 + k) = M 91 (412 + k)) ∧ z.2 91 411 = nI (d.2.2.2.2.2 - 1) ∧ (∀ q, q < 411 → z.2 91 q = M 91 q) ∧ Off (fun c => c = 91) M z.2) _ (d.2.2.2.2.2 - 1 - c) (by omega) ?_ ?_ ⟨rfl, fun k hk => ?_, fun k _ => by dsimp only; rw [mset_n (by omega)], by dsimp only; rw [mset_s], fun q hq => by dsimp only; rw [mset_n (by omega)], Off.rf.set (by omega)⟩
    · rintro i ⟨j, N⟩ hi ⟨h1, h2, h3, h4, h5, h6⟩
      dsimp only at h1 h2 h3 h4 h5 h6
      subst h1
      unfold f_X9_withdraw_l59
      dsimp only
      refine Ok.eqb (show rd N 91 432 411 = some (N 91 411) from rd91 (k := 411) (by decide)) ?_
      rw [h4, n412, nI_1]
      refine Ok.neg (nI_ge (by omega) (by omega)) ?_
      refine Ok.eqb (rd91 (by omega)) ?_
      refine Ok.eqb (wr_nI (by omega) (by decide)) (Ok.of ⟨rfl, fun k hk => ?_, fun k hk => ?_, ?_, fun q hq => ?_, h6.set rfl⟩)
      · dsimp only
        by_cases hk2 : k = c + i
        · rw [hk2, show 412 + c + i = 412 + (c + i) by omega, mset_s, if_neg (by omega), show 412 + (c + i) + 1 = 412 + (c + i + 1) by omega, h3 _ (by omega)]
          exact s5 _ (by omega)
        · rw [mset_n (by omega)]
          exact h2 k (by omega)
      · dsimp only
        rw [mset_n (by omega)]
        exact h3 k (by omega)
      · dsimp only
        rw [mset_n (by omega)]
        exact h4
      · dsimp only
        rw [mset_n (by omega)]
        exact h5 q hq
    · rintro ⟨j, N⟩ ⟨h1, h2, h3, h4, h5, h6⟩
      dsimp only at h1 h2 h3 h4 h5 h6
      subst h1
      unfold f_X9_withdraw_l59
      dsimp only
      refine Ok.eqb (show rd N 91 432 411 = some (N 91 411) from rd91 (k := 411) (by decide)) ?_
      rw [h4, n412]
      exact Ok.pos (nI_le (by omega) (by omega)) (Ok.of ⟨fun k hk => h2 k (by omega), h4, h5, h6⟩)
    · dsimp only
      rw [if_pos (show k < c by omega), mset_n (by omega)]
      exact s5 k (by omega)
  rintro N ⟨n1, n2, n3, n4⟩
  refine ⟨⟨?_, n2, fun q hq => ?_, fun k hk => ?_, n1⟩, n4⟩
  · rw [n3 0 (by decide)]
    exact s1
  · have hq' : q < d.2.2.2.2.1 := hq
    rw [n3 _ (by omega), n3 _ (by omega)]
    exact s3 q hq
  · show N 91 (401 + k) = _
    rw [n3 _ (by omega)]
    exact s4 k hk
theorem withdraw_q (a1 a2 a3 : Int32) {M : Mem} {L : Lng} {d : Dt} {D : Nat → Dt} {next kept : Nat} (h : Cr d D next kept M) : LC (f_lc5 a1 a2 a3 M L) := by
  refine law_ok (F := f_X9_withdraw a1) ?_
  obtain ⟨hv, hs, hz, hw, hH, hZ, h5⟩ := id h
  have hnc := hv.2.1
  by_cases h1 : inR a1 d.2.2.2.2.2
  · have h1' := h1
    obtain ⟨c, hc, rfl⟩ := inR_ex (by omega) h1
    have hv' := wdrD_V (c := c) hv
    obtain ⟨v0, e0⟩ : ∃ v0, v0 = (dM d.1 d.2.1 d.2.2.2.1 d.2.2.1 d.2.2.2.2.1 d.2.2.2.2.2).2.1 c := ⟨_, rfl⟩
    refine chg_ok (L := L) (v := v0) (P := PC d (wdrD d c) D next kept M) ?_ ?_
    · unfold g_withdraw
      refine Ok.bind (P := fun o => ∃ M', o = .inr (v0, M') ∧ PC d (wdrD d c) D next kept M M') ?_ ?_
      · unfold f_X8_withdraw
        refine Ok.eqb (hasComplaint_c hs.2.1) ?_
        rw [if_pos h1']
        refine Ok.neg (by decide) (Ok.bind (keep_cr h) ?_)
        rintro M1 ⟨c1, c2, c3⟩
        refine Ok.eqb (rd_nI (by omega) (by decide)) ?_
        refine Ok.bind (wdr_c hv c2 hc) ?_
        rintro M2 ⟨e1, e2⟩
        refine Ok.bind (again_pc hv' c1 c3 e1 e2) ?_
        rintro M3 ⟨p1, p2⟩
        refine Ok.of ⟨M3, ?_, p1⟩
        rw [c3 68 (by omega), show M 68 c = _ from hw.1.2.2.2.1.2.2.1 c hc, ← e0]
      · rintro o ⟨M', rfl, p⟩
        exact Ok.of ⟨rfl, rfl, p⟩
    · intro M3 p
      have hp4 := p.2.2.2
      unfold f_X9_withdraw f_X9_withdraw_j14
      refine Ok.eqb (isComplaint_m (n := d.2.2.2.2.2) (by omega) (by rw [hp4 91 (by omega)]; exact hz.2.1)) ?_
      rw [if_pos h1']
      refine Ok.neg (by decide) ?_
      rw [stf_e]
      refine Ok.eqb rfl (Ok.pos (by rw [mset_s]; decide) ?_)
      refine Ok.bind (save_cr h hp4) ?_
      rintro M5 b
      refine Ok.bind (layAll_m (Zc_zM hv b.2.1) (Zc_zC hv b.2.1) hv.2.2.1 (Zc_ok hv b.2.1)) ?_
      rintro M7 ⟨k1, k2, k3⟩
      have e91 : M7 91 = M5 91 := k3 91 (by omega)
      have z7 : Zc (M7 91) d := by rw [e91]; exact b.2.1
      refine Ok.eqb (rd_nI (by omega) (by decide)) ?_
      refine Ok.eqb (show rd M7 91 432 411 = some (M7 91 411) from rd91 (k := 411) (by decide)) ?_
      rw [z7.2.1, nI_p1 (by omega), n412]
      refine Ok.eqb (show wr M7 91 432 411 _ = some (mset M7 91 411 _) from wr_nI (k := 411) (by decide) (by decide)) ?_
      refine Ok.bind (wdr_z hv z7 hc) ?_
      rintro M6 ⟨e1, e2⟩
      refine Ok.of ?_
      have hc2 := Cr_chg2 (M6 := M6) h hv' p b e1 (fun k q1 q2 q3 => (show M6 90 k = M7 90 k by rw [e2 90 (by decide)]).trans (k2 k q1 q2 q3)) ((k3.mono (fun c hc => by omega)).tr (e2.mono (fun c hc => by omega)))
      refine ⟨?_, hc2.1, ⟨_, _, _, _, hc2.2⟩⟩
      dsimp only
      rw [k1.2.1 c hc, dM_st (Zc_st b.2.1), ← e0]
  · have hG : g_withdraw a1 M L = some (1, M, L) := by
      unfold g_withdraw f_X8_withdraw
      rw [hasComplaint_c hs.2.1, if_neg h1, Option.bind_some, if_pos rfl]
      rfl
    rw [hG]
    refine q_thr h (by decide) ?_
    unfold f_X9_withdraw f_X9_withdraw_j14
    rw [isComplaint_m (n := d.2.2.2.2.2) (by omega) hz.2.1, if_neg h1, Option.bind_some, if_pos rfl, stf_e, Option.bind_some, if_neg (by rw [mset_s]; decide)]
theorem undo_q (a1 a2 a3 : Int32) {M : Mem} {L : Lng} {d : Dt} {D : Nat → Dt} {next kept : Nat} (h : Cr d D next kept M) : LC (f_lc10 a1 a2 a3 M L) := by
  refine law_ok (F := f_X9_undo) ?_
  obtain ⟨hv, hs, hz, hw, hH, hZ, hV, hT⟩ := id h
  have hk := hH.2.1
  by_cases h0 : 0 < kept
  · have hv' := hV (kept - 1) (by omega)
    refine chg_ok (L := L) (v := nI (kept - 1)) (P := fun M3 => HC D ((next + 7) % 8) (kept - 1) M3 ∧ Sc 1 (D (kept - 1)) M3 ∧ Vw (D (kept - 1)) M3 ∧ Off (fun c => 1 ≤ c ∧ c ≤ 5 ∨ c = 46 ∨ 55 ≤ c ∧ c ≤ 70 ∨ c = 89) M M3) ?_ ?_
    · unfold g_undo
      refine Ok.bind (P := fun o => ∃ M3, o = .inr (nI (kept - 1), M3) ∧ HC D ((next + 7) % 8) (kept - 1) M3 ∧ Sc 1 (D (kept - 1)) M3 ∧ Vw (D (kept - 1)) M3 ∧ Off (fun c => 1 ≤ c ∧ c ≤ 5 ∨ c = 46 ∨ 55 ≤ c ∧ c ≤ 70 ∨ c = 89) M M3) ?_ ?_
      · unfold f_X8_undo
        refine Ok.pos (by rw [hH.2.2.2.1]; exact nI_le (a := 1) (by omega) (by omega)) ?_
        refine Ok.bind (giveBack_c hH hV h0) ?_
        rintro M1 ⟨c1, c2, c3⟩
        refine Ok.bind (readAgain_c hv' c2) ?_
        rintro M3 ⟨e1, e2⟩
        refine Ok.of ⟨M3, ?_, HC_off c1 (fun c hc hc2 => e2 c (by omega)), Sc_off c2 (fun c hc hc2 => e2 c (by omega)), e1, (c3.mono (fun c hc => by omega)).tr (e2.mono (fun c hc => by omega))⟩
        rw [e2 46 (by omega), c1.2.2.2.1]
      · rintro o ⟨M', rfl, p⟩
        exact Ok.of ⟨rfl, rfl, p⟩
    · rintro M3 ⟨p1, p2, p3, p4⟩
      refine Ok.mono (undo_m (M := M3) hk (HZ_off hZ (by rw [p4 90 (by omega)]) (p4 92 (by omega))) hV h0) ?_
      rintro ⟨v, M6⟩ ⟨m1, m2, m3, m4, m5, m6⟩
      dsimp only at m1 m2 m3 m4 m5 m6
      refine ⟨m1, m4, ⟨D (kept - 1), D, (next + 7) % 8, kept - 1, hv', Sc_off p2 (fun c hc hc2 => m6 c (by omega)), m3, Vw_off p3 (fun c hc hc2 => m6 c (by omega)), HC_off p1 (fun c hc hc2 => m6 c (by omega)), m2, fun j hj => hV j (by omega), ?_⟩⟩
      exact Tx_q (M' := M6) hT (by rw [m6 48 (by omega), p4 48 (by omega)]) (by rw [m5 4 (by decide) (by decide), p4 90 (by omega)]) (by rw [m6 49 (by omega), p4 49 (by omega)]) (by rw [m6 93 (by omega), p4 93 (by omega)])
  · have e0 : kept = 0 := by omega
    subst e0
    have hG : g_undo M L = some (1, M, L) := by
      unfold g_undo f_X8_undo
      rw [hH.2.2.2.1, if_neg (by decide)]
      rfl
    rw [hG]
    refine q_thr h (by decide) ?_
    unfold f_X9_undo f_X9_undo_j13
    rw [hZ.1, if_pos (by decide), stf_e, Option.bind_some, if_neg (by rw [mset_s]; decide)]
