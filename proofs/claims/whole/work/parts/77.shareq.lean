/-! the law's case: share -/
theorem cB_mono {p q : Nat → Bool} (h : ∀ m, p m = true → q m = true) : ∀ n, cB p n ≤ cB q n
  | 0 => Nat.le_refl _
  | n + 1 => by
    have ih := cB_mono h n
    unfold cB
    by_cases hp : p n = true
    · rw [hp, h n hp]
      omega
    · rw [if_neg hp]
      omega
theorem dA_cntd {lv wd st : Nat → Int32} (m : Nat) (h : dA lv wd st m = true) : cntd (sWhy lv wd st) m = true := by
  unfold dA at h
  unfold cntd
  rw [h]
  rfl
def shA (d : Dt) : Nat := cB (dA d.1 d.2.1 d.2.2.2.1) d.2.2.2.2.1
def shB (d : Dt) : Nat := cB (cntd (sWhy d.1 d.2.1 d.2.2.2.1)) d.2.2.2.2.1
def shD (d : Dt) : UInt64 := if shB d = 0 then 0 else FP.ddiv (FP.i2d (nI (shA d))) (FP.i2d (nI (shB d)))
theorem sh_le {d : Dt} (hv : Vd d) : shA d ≤ shB d ∧ shB d ≤ 200 := ⟨cB_mono dA_cntd _, Nat.le_trans (cB_le _ _) hv.1⟩
theorem shD_ok {d : Dt} (hv : Vd d) : isSh (shD d) ∧ (shB d ≠ 0 → ddv (FP.i2d (nI (shA d))) (FP.i2d (nI (shB d))) = some (shD d)) := by
  obtain ⟨h1, h2⟩ := sh_le hv
  unfold shD
  by_cases h0 : shB d = 0
  · rw [if_pos h0]
    exact ⟨Or.inl rfl, fun q => absurd h0 q⟩
  · rw [if_neg h0]
    obtain ⟨s, s1, s2⟩ := shr_d (a := shA d) (b := shB d) (by omega) h1 h2
    have e : FP.ddiv (FP.i2d (nI (shA d))) (FP.i2d (nI (shB d))) = s := by
      unfold ddv at s1
      by_cases hc : FP.ddiv (FP.i2d (nI (shA d))) (FP.i2d (nI (shB d))) &&& 0x7fffffffffffffff ≤ 0x7ff0000000000000
      · rw [if_pos hc] at s1
        exact Option.some.inj s1
      · rw [if_neg hc] at s1
        cases s1
    rw [e]
    exact ⟨s2, fun _ => s1⟩
theorem share_c {d : Dt} {M : Mem} (hv : Vd d) (hw : Vw d M) : f_X4_shareAbove 56 M = some (shD d) := by
  have e4 : M 56 4 = nI (shB d) := hw.1.1.2.1
  have e6 : M 56 6 = nI (shA d) := hw.1.1.2.2.2.1
  have hb := (sh_le hv).2
  unfold f_X4_shareAbove
  rw [e4, e6]
  by_cases h0 : shB d = 0
  · refine eq_n (by rw [h0]; decide) ?_
    unfold shD
    rw [if_pos h0]
  · exact eq_p (nI_le (a := 1) (by omega) (by omega)) (eq_b ((shD_ok hv).2 h0) rfl)
theorem share_m {d : Dt} {M : Mem} (hv : Vd d) (hM : Mx d.1 d.2.1 d.2.2.2.1 d.2.2.2.2.1 M) : f_X9_shareNow M = some (shD d) := by
  have hb := (sh_le hv).2
  have ha := (sh_le hv).1
  have e1 : f_X9_countFrom 0 M = some (nI (shB d)) := by
    have := countFrom_m (l := 0) hM hv.2.2.2.1 hv.2.2.2.2.1 hv.1 (by decide)
    rw [cG_0] at this
    exact this
  have e2 : f_X9_minutesBy 0 0 M = some (nI (shA d)) := by
    rw [minutesBy_m hM hv.1]
    exact congrArg (fun p => some (nI (cB p d.2.2.2.2.1))) (funext (why_00 d.1 d.2.1 d.2.2.2.1))
  unfold f_X9_shareNow
  refine eq_b e1 ?_
  by_cases h0 : shB d = 0
  · refine eq_p (by rw [h0]; rfl) ?_
    unfold shD
    rw [if_pos h0]
  · exact eq_n (nI_ne0 (by omega) (by omega)) (eq_b e2 (eq_b (one_mul_all ⟨shA d, by omega⟩) (eq_b ((shD_ok hv).2 h0) rfl)))
theorem share_q (a1 a2 a3 : Int32) {M : Mem} {L : Lng} {d : Dt} {D : Nat → Dt} {next kept : Nat} (h : Cr d D next kept M) : LC (f_lc21 a1 a2 a3 M L) := by
  obtain ⟨hv, hs, hz, hw, h5⟩ := id h
  obtain ⟨M2, e1, b1, b2, b3, b4⟩ := layAll_p (Cr_q h (Qt_t (v := 0)))
  refine ⟨(M2, L), ?_, Rl_q h (Qt_t.tr b3)⟩
  unfold f_lc21 f_X8_share f_X9_share
  refine eq_b (eq_b (share_c hv hw) rfl) (eq_b (a := (shD d, M2)) ?_ (eq_p ?_ rfl))
  · rw [stf_e]
    exact eq_b rfl (eq_b e1 (eq_b (share_m hv b1.1) rfl))
  · rw [sh_self (shD_ok hv).1]
    rfl
