/-! the law's actions -/
theorem act_tell {d : Dt} {D : Nat → Dt} {next kept l w : Nat} {y : Int32} {M : Mem} (h : Cr d D next kept M) (hz : LzD d M) (hc : LcD d M) (hl : l ≤ 140) (hw : w ≤ 40) : Ok (f_L_act_j95 y (nI l) (nI w) M) (fun r => AP d kept r) := by
  have hn := hz.1
  unfold f_L_act_j95
  obtain ⟨k, hk, ek⟩ := ats (y >>> (6 &&& 31)) (n := 12) (by decide) (by decide)
  refine Ok.eqb (ek M) (Ok.eqb r930 ?_)
  rw [hz.2.1, show (1 : Int32) + nI k = nI (1 + k) from nI_add 1 k, nI_add]
  refine Ok.ite (fun c => ?_) (fun c => Ok.of (AP_same h hz hc ?_))
  · have h60 : d.2.2.2.2.1 + (1 + k) ≤ 60 := (n_le (b := 60) (by omega) (by decide)).mp c
    refine Ok.bind (P := fun N => LzD (addD d (nI l) (nI w) (1 + k)) N ∧ LcD (addD d (nI l) (nI w) (1 + k)) N ∧ Off (fun c => c = 90 ∨ c = 91 ∨ c = 93) M N) ?_ ?_
    · refine loop_FU (fun i z => z.1 = nI i ∧ LzD (addD d (nI l) (nI w) i) z.2 ∧ LcD (addD d (nI l) (nI w) i) z.2 ∧ Off (fun c => c = 90 ∨ c = 91 ∨ c = 93) M z.2) _ (1 + k) (by omega) ?_ ?_ ⟨rfl, hz, hc, Off.rf⟩
      · rintro i ⟨j, N⟩ hi ⟨g1, g2, g3, g4⟩
        dsimp only at g1 g2 g3 g4
        subst g1
        have hni := addD_n d (nI l) (nI w) i
        obtain ⟨z1, z2, z3, z4⟩ := g2
        obtain ⟨c1, c2, c3⟩ := g3
        rw [hni] at z1 z2 z3
        unfold f_L_act_l125
        dsimp only
        refine Ok.neg (nI_ge hi (by omega)) ?_
        refine Ok.eqb r930 ?_
        rw [z2]
        refine Ok.eqb (wr_nI (by omega) (by decide)) (Ok.eqb r930 ?_)
        rw [mset_o (c' := 93) (by decide), z2]
        refine Ok.eqb (wr_nI (by omega) (by decide)) (Ok.eqb r930 ?_)
        rw [mset_o (c' := 93) (by decide), mset_o (c' := 93) (by decide), z2, nI_1]
        refine Ok.eqb (show wr _ 93 2 0 _ = some (mset _ 93 0 _) from wr_nI (k := 0) (by decide) (by decide)) (Ok.of ⟨nI_1 i, ?_, ?_, ((g4.set (by omega)).set (by omega)).set (by omega)⟩)
        · show Lz (upd (addD d (nI l) (nI w) i).1 (addD d (nI l) (nI w) i).2.2.2.2.1 (nI l)) (upd (addD d (nI l) (nI w) i).2.1 (addD d (nI l) (nI w) i).2.2.2.2.1 (nI w)) (addD d (nI l) (nI w) i).2.2.2.1 ((addD d (nI l) (nI w) i).2.2.2.2.1 + 1) (mset (mset (mset N 90 (d.2.2.2.2.1 + i) (nI l)) 91 (d.2.2.2.2.1 + i) (nI w)) 93 0 (nI (d.2.2.2.2.1 + i + 1)))
          rw [hni]
          refine ⟨by omega, ?_, fun m hm => ?_, ?_⟩
          · rw [mset_s]
          · rw [mset_o (c' := 90) (by decide), mset_o (c := 91) (c' := 90) (by decide), mset_r, mset_o (c' := 91) (by decide), mset_r, mset_o (c' := 91) (by decide)]
            by_cases hm2 : m = d.2.2.2.2.1 + i
            · rw [hm2, upd_s, upd_s, upd_s, upd_s]
              exact ⟨rfl, rfl⟩
            · rw [upd_n hm2, upd_n hm2, upd_n hm2, upd_n hm2]
              exact z3 m (by omega)
          · rw [mset_o (c' := 94) (by decide), mset_o (c' := 94) (by decide), mset_o (c' := 94) (by decide)]
            exact z4
        · show Lc (addD d (nI l) (nI w) i).2.2.1 (addD d (nI l) (nI w) i).2.2.2.2.2 (mset (mset (mset N 90 (d.2.2.2.2.1 + i) (nI l)) 91 (d.2.2.2.2.1 + i) (nI w)) 93 0 (nI (d.2.2.2.2.1 + i + 1)))
          refine ⟨c1, ?_, ?_⟩
          · rw [mset_n (by decide), mset_o (by decide), mset_o (by decide)]
            exact c2
          · rw [mset_o (c' := 92) (by decide), mset_o (c' := 92) (by decide), mset_o (c' := 92) (by decide)]
            exact c3
      · rintro ⟨j, N⟩ ⟨g1, g2, g3, g4⟩
        dsimp only at g1 g2 g3 g4
        subst g1
        unfold f_L_act_l125
        dsimp only
        exact Ok.pos (nI_le (Nat.le_refl _) (by omega)) (Ok.of ⟨g2, g3, g4⟩)
    · rintro N ⟨g2, g3, g4⟩
      have hN : Cr d D next kept N := Cr_off h (fun c hc => g4 c (by omega))
      obtain ⟨hv', ht⟩ := tell_a (k := 1 + k) hN hl hw (by omega) (by omega)
      refine Ok.bind ht ?_
      rintro ⟨r, M3⟩ ⟨e1, p⟩
      dsimp only at e1 p
      refine Ok.eqb r930 ?_
      refine Ok.pos ?_ (Ok.of ?_)
      · show r = M3 93 0
        rw [e1, p.2.2.2 93 (by omega), g2.2.1, addD_n]
      · exact AP_pc hN hv' p g2 g3
  · intro q
    apply c
    rw [q]
    exact nI_le (b := 60) (by omega) (by decide)
theorem act_correct {d : Dt} {D : Nat → Dt} {next kept l w m : Nat} {M : Mem} (h : Cr d D next kept M) (hz : LzD d M) (hc : LcD d M) (hl : l ≤ 140) (hw : w ≤ 40) (hm : m < d.2.2.2.2.1) :
    Ok ((wr M 90 60 (nI m) (nI l)).bind fun M91 => (wr M91 91 60 (nI m) (nI w)).bind fun M92 => (f_X8_correct (nI m) (nI l) (nI w) M92).bind fun r93 => (f_X8_count 5 r93.2).bind fun r94 => if r93.1 = r94 then some (1, r93.2) else some (0, r93.2)) (fun r => AP d kept r) := by
  have hn := hz.1
  refine Ok.eqb (wr_nI (by omega) (by decide)) (Ok.eqb (wr_nI (by omega) (by decide)) ?_)
  have hz' : LzD (corD d m (nI l) (nI w)) (mset (mset M 90 m (nI l)) 91 m (nI w)) := by
    refine ⟨hn, ?_, fun q hq => ?_, ?_⟩
    · rw [mset_o (by decide), mset_o (by decide)]
      exact hz.2.1
    · show _ = upd d.1 m (nI l) q ∧ _ = upd d.2.1 m (nI w) q
      have hq' : q < d.2.2.2.2.1 := hq
      rw [mset_o (c' := 90) (by decide), mset_r, mset_r, mset_o (c' := 91) (by decide)]
      by_cases hqm : q = m
      · rw [hqm, upd_s, upd_s, upd_s, upd_s]
        exact ⟨rfl, rfl⟩
      · rw [upd_n hqm, upd_n hqm, upd_n hqm, upd_n hqm]
        exact hz.2.2.1 q hq'
    · rw [mset_o (c' := 94) (by decide), mset_o (c' := 94) (by decide)]
      exact hz.2.2.2
  have hc' : LcD (corD d m (nI l) (nI w)) (mset (mset M 90 m (nI l)) 91 m (nI w)) := Lc_off (show Lc d.2.2.1 d.2.2.2.2.2 M from hc) (fun c a b => by rw [mset_o (by omega), mset_o (by omega)])
  have o1 : Off (fun c => 90 ≤ c) M (mset (mset M 90 m (nI l)) 91 m (nI w)) := (Off.rf.set (by omega)).set (by omega)
  generalize mset (mset M 90 m (nI l)) 91 m (nI w) = N at hz' hc' o1 ⊢
  have hN : Cr d D next kept N := Cr_off h (fun c hc => o1 c (by omega))
  obtain ⟨hv', ht⟩ := correct_a hN hm hl hw
  refine Ok.bind ht ?_
  rintro ⟨r, M3⟩ ⟨e1, p⟩
  dsimp only at e1 p
  refine Ok.eqb (count_a (a := 5) (Cr_pc hN hv' p) (by decide)) (Ok.pos ?_ (Ok.of (AP_pc hN hv' p hz' hc')))
  rw [if_neg (by decide)]
  exact e1
theorem act_complain {d : Dt} {D : Nat → Dt} {next kept n3 : Nat} {y : Int32} {M : Mem} (h : Cr d D next kept M) (hz : LzD d M) (hc : LcD d M) (h3 : 0 < n3) (h3b : n3 ≤ 301) (h6 : d.2.2.2.2.2 ≠ 6) : Ok (f_L_act_j437 (nI d.2.2.2.2.2) y (nI n3) M) (fun r => AP d kept r) := by
  have hnc := hc.1
  unfold f_L_act_j437
  obtain ⟨w, hw, ew⟩ := ats y (n := n3) h3 (by omega)
  refine Ok.eqb (ew M) (Ok.eqb (wr_nI (by omega) (by decide)) (Ok.eqb r931 ?_))
  rw [mset_o (by decide), hc.2.1, nI_1]
  refine Ok.eqb (show wr _ 93 2 1 _ = some (mset _ 93 1 _) from wr_nI (k := 1) (by decide) (by decide)) (Ok.eqb r931 ?_)
  have hz' : LzD (cplD d (nI w)) (mset (mset M 92 d.2.2.2.2.2 (nI w)) 93 1 (nI (d.2.2.2.2.2 + 1))) := by
    refine ⟨hz.1, ?_, ?_, ?_⟩
    · rw [mset_n (by decide), mset_o (by decide)]
      exact hz.2.1
    · rw [mset_o (c' := 90) (by decide), mset_o (c' := 90) (by decide), mset_o (c' := 91) (by decide), mset_o (c' := 91) (by decide)]
      exact hz.2.2.1
    · rw [mset_o (c' := 94) (by decide), mset_o (c' := 94) (by decide)]
      exact hz.2.2.2
  have hc' : LcD (cplD d (nI w)) (mset (mset M 92 d.2.2.2.2.2 (nI w)) 93 1 (nI (d.2.2.2.2.2 + 1))) := by
    show Lc (upd d.2.2.1 d.2.2.2.2.2 (nI w)) (d.2.2.2.2.2 + 1) _
    refine ⟨by omega, mset_s, fun k hk => ?_⟩
    rw [mset_o (c' := 92) (by decide), mset_r]
    by_cases hk2 : k = d.2.2.2.2.2
    · rw [hk2, upd_s, upd_s]
      exact ⟨rfl, w, by omega, rfl⟩
    · rw [upd_n hk2, upd_n hk2]
      exact hc.2.2 k (by omega)
  have e93 : mset (mset M 92 d.2.2.2.2.2 (nI w)) 93 1 (nI (d.2.2.2.2.2 + 1)) 93 1 = nI (d.2.2.2.2.2 + 1) := mset_s
  have e92 : mset (mset M 92 d.2.2.2.2.2 (nI w)) 93 1 (nI (d.2.2.2.2.2 + 1)) 92 d.2.2.2.2.2 = nI w := by
    rw [mset_o (by decide), mset_s]
  have o1 : Off (fun c => 90 ≤ c) M (mset (mset M 92 d.2.2.2.2.2 (nI w)) 93 1 (nI (d.2.2.2.2.2 + 1))) := (Off.rf.set (by omega)).set (by omega)
  generalize mset (mset M 92 d.2.2.2.2.2 (nI w)) 93 1 (nI (d.2.2.2.2.2 + 1)) = N at hz' hc' e93 e92 o1 ⊢
  rw [e93, nI_pred]
  refine Ok.eqb (rd_nI (by omega) (by decide)) ?_
  rw [e92]
  have hN : Cr d D next kept N := Cr_off h (fun c hc => o1 c (by omega))
  obtain ⟨hv', ht⟩ := complain_a hN (show w ≤ 300 by omega) (by omega)
  refine Ok.bind ht ?_
  rintro ⟨r, M3⟩ ⟨e1, p⟩
  dsimp only at e1 p
  refine Ok.eqb r931 (Ok.pos ?_ (Ok.of (AP_pc hN hv' p hz' hc')))
  show r = M3 93 1 - 1
  rw [e1, p.2.2.2 93 (by omega), e93, nI_pred]
theorem act_set {d : Dt} {D : Nat → Dt} {next kept k : Nat} {y : Int32} {M : Mem} (h : Cr d D next kept M) (hz : LzD d M) (hc : LcD d M) (hk : k < 10) :
    Ok ((rd M 94 10 (nI k)).bind fun x32 => (f_L_value (nI k) y M).bind fun r33 => (wr M 94 10 (nI k) r33).bind fun M34 => (rd M34 94 10 (nI k)).bind fun x35 => (f_X8_set (nI k) x35 M34).bind fun r36 => if r36.1 = x32 then some (1, r36.2) else some (0, r36.2)) (fun r => AP d kept r) := by
  obtain ⟨v, hsv, ev⟩ := value_l y hk
  refine Ok.eqb (rd_nI (by omega) (by decide)) (Ok.eqb (ev M) (Ok.eqb (wr_nI (by omega) (by decide)) (Ok.eqb (rd_nI (by omega) (by decide)) ?_)))
  rw [mset_s, hz.2.2.2 k hk]
  have hz' : LzD (d.1, d.2.1, d.2.2.1, upd d.2.2.2.1 k (nI v), d.2.2.2.2) (mset M 94 k (nI v)) := Lz_set hz.1 hz.2.1 hz.2.2.1 (fun j hj _ => hz.2.2.2 j hj)
  have hc' : LcD (d.1, d.2.1, d.2.2.1, upd d.2.2.2.1 k (nI v), d.2.2.2.2) (mset M 94 k (nI v)) := Lc_off (show Lc d.2.2.1 d.2.2.2.2.2 M from hc) (fun c a b => mset_o (by omega))
  have o1 : Off (fun c => 90 ≤ c) M (mset M 94 k (nI v)) := Off.rf.set (by omega)
  generalize mset M 94 k (nI v) = N at hz' hc' o1 ⊢
  have hN : Cr d D next kept N := Cr_off h (fun c hc => o1 c (by omega))
  obtain ⟨hv', ht⟩ := set_a hN hk hsv
  refine Ok.bind ht ?_
  rintro ⟨r, M3⟩ ⟨e1, p⟩
  exact Ok.pos e1 (Ok.of (AP_pc hN hv' p hz' hc'))
