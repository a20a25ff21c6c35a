/-! the law's cases: questions -/
def LC (o : Option ((Mem × Lng) ⊕ Int32)) : Prop := ∃ out : Mem × Lng, o = some (.inl out) ∧ Rl out.1 out.2
theorem law_ok {G : Option (Int32 × Mem × Lng)} {F : Mem → Option (Int32 × Mem)} (h : ∃ k M1 L1 w M2, G = some (k, M1, L1) ∧ F M1 = some (w, M2) ∧ M2 90 0 = k ∧ (k = 0 → L1 1 = Int32.toInt64 w) ∧ Rl M2 L1) :
    LC (G.bind fun r1 => (F r1.2.1).bind fun r2 => (f_X9_thrown r2.2).bind fun r3 => if r3 = r1.1 then if r1.1 = 0 then if (lg_cmp (r1.2.2 1) (Int32.toInt64 r2.1)) = 0 then some (.inl (r2.2, r1.2.2)) else some (.inr 0) else some (.inl (r2.2, r1.2.2)) else some (.inr 0)) := by
  obtain ⟨k, M1, L1, w, M2, hG, hF, hk, hv, hR⟩ := h
  refine ⟨(M2, L1), ?_, hR⟩
  subst hG
  rw [Option.bind_some]
  dsimp only
  rw [hF, Option.bind_some]
  unfold f_X9_thrown
  rw [Option.bind_some]
  dsimp only
  rw [if_pos hk]
  by_cases h0 : k = 0
  · rw [if_pos h0, if_pos (by rw [hv h0]; exact lgc _)]
  · rw [if_neg h0]
theorem outL_1 (L : Lng) (v : Int64) : outL L v 1 = v := by unfold outL; rw [if_pos rfl]
theorem Rl_q {d : Dt} {D : Nat → Dt} {next kept : Nat} {M M' : Mem} {L : Lng} (h : Cr d D next kept M) (hq : Qt M M') : Rl M' L := ⟨d, D, next, kept, Cr_q h hq⟩
theorem Qt_t {M : Mem} {v : Int32} : Qt M (mset M 90 0 v) := ⟨by rw [mset_o (by decide)], mset_n (by decide), mset_n (by decide), Off.rf.set (by omega)⟩
abbrev inR (a : Int32) (n : Nat) : Prop := 0 ≤ a ∧ ¬ nI n ≤ a
theorem inR_ex {a : Int32} {n : Nat} (hn : n < 2 ^ 31) (h : inR a n) : ∃ k, k < n ∧ a = nI k := by
  obtain ⟨h1, h2⟩ := h
  have h1' := i_le.mp h1
  have e0 : (0 : Int32).toInt = 0 := rfl
  obtain ⟨e, hlt⟩ := nI_ex (x := a) (by omega)
  refine ⟨a.toInt.toNat, ?_, e⟩
  rw [e] at h2
  have : ¬ n ≤ a.toInt.toNat := fun q => h2 ((n_le hn hlt).mpr q)
  omega
theorem ar {x : Int32} {K : Nat} (hK : K < 2 ^ 31 - 1) (h1 : ¬ x < 0) (h2 : x ≤ nI K) : ∃ a, a ≤ K ∧ x = nI a := by
  have h1' := i_le.mp (le_n h1)
  have e0 : (0 : Int32).toInt = 0 := rfl
  obtain ⟨e, hlt⟩ := nI_ex (x := x) (by omega)
  refine ⟨x.toInt.toNat, ?_, e⟩
  rw [e] at h2
  exact (n_le hlt (by omega)).mp h2
theorem bz_if {c : Prop} [Decidable c] : bz (if c then 1 else 0) = some (if c then 1 else 0) := by
  by_cases h : c
  · rw [if_pos h]; rfl
  · rw [if_neg h]; rfl
theorem hasMinute_c {M : Mem} {n : Nat} {a : Int32} (h : M 1 4 = nI n) : f_X5_hasMinute 1 a M = some (if inR a n then 1 else 0) := by
  unfold f_X5_hasMinute
  rw [h]
  by_cases h1 : a < 0
  · rw [if_pos h1, if_neg (fun q => n_le' h1 q.1)]
  · rw [if_neg h1]
    by_cases h2 : nI n ≤ a
    · rw [if_pos h2, if_neg (fun q => q.2 h2)]
    · rw [if_neg h2, if_pos ⟨le_n h1, h2⟩]
theorem hasComplaint_c {M : Mem} {n : Nat} {a : Int32} (h : M 1 5 = nI n) : f_X5_hasComplaint 1 a M = some (if inR a n then 1 else 0) := by
  unfold f_X5_hasComplaint
  rw [h]
  by_cases h1 : a < 0
  · rw [if_pos h1, if_neg (fun q => n_le' h1 q.1)]
  · rw [if_neg h1]
    by_cases h2 : nI n ≤ a
    · rw [if_pos h2, if_neg (fun q => q.2 h2)]
    · rw [if_neg h2, if_pos ⟨le_n h1, h2⟩]
theorem le_m1 {a : Int32} {n : Nat} (hn : n < 2 ^ 31) : a ≤ nI n - 1 ↔ ¬ nI n ≤ a := by
  have e : (nI n - 1).toInt = (n : Int) - 1 := by
    have e1 : (1 : Int32).toInt = 1 := rfl
    rw [i_sub] <;> rw [i_nI hn, e1] <;> omega
  rw [i_le, i_le, e, i_nI hn]
  omega
theorem isMinute_m {M : Mem} {n : Nat} {a : Int32} (hn : n < 2 ^ 31) (h : M 91 0 = nI n) : f_X9_isMinute a M = some (if inR a n then 1 else 0) := by
  unfold f_X9_isMinute
  rw [show rd M 91 432 0 = some (M 91 0) from rd_nI (k := 0) (by decide) (by decide), Option.bind_some, h, within_e, Option.bind_some, bz_if, Option.bind_some]
  by_cases h1 : inR a n
  · rw [if_pos h1, if_pos ⟨h1.1, (le_m1 hn).mpr h1.2⟩]
  · rw [if_neg h1, if_neg (fun q => h1 ⟨q.1, (le_m1 hn).mp q.2⟩)]
theorem isComplaint_m {M : Mem} {n : Nat} {a : Int32} (hn : n < 2 ^ 31) (h : M 91 411 = nI n) : f_X9_isComplaint a M = some (if inR a n then 1 else 0) := by
  unfold f_X9_isComplaint
  rw [show rd M 91 432 411 = some (M 91 411) from rd_nI (k := 411) (by decide) (by decide), Option.bind_some, h, within_e, Option.bind_some, bz_if, Option.bind_some]
  by_cases h1 : inR a n
  · rw [if_pos h1, if_pos ⟨h1.1, (le_m1 hn).mpr h1.2⟩]
  · rw [if_neg h1, if_neg (fun q => h1 ⟨q.1, (le_m1 hn).mp q.2⟩)]
/-- the model lays, and nothing else changes -/
theorem layAll_q {d : Dt} {D : Nat → Dt} {next kept : Nat} {M : Mem} (h : Cr d D next kept M) :
    Ok (f_X9_layAll M) (fun M' => My d.1 d.2.1 (mSt M') d.2.2.1 d.2.2.2.2.1 d.2.2.2.2.2 M' ∧ Cr d D next kept M' ∧ Qt M M' ∧ M' 90 0 = M 90 0) := by
  obtain ⟨hv, hs, hz, hw, h5⟩ := id h
  refine Ok.mono (layAll_m (Zc_zM hv hz) (Zc_zC hv hz) hv.2.2.1 (Zc_ok hv hz)) ?_
  rintro M' ⟨a1, a2, a3⟩
  have hq : Qt M M' := ⟨by rw [a3 48 (by omega)], a2 2 (by decide) (by decide) (by decide), a2 4 (by decide) (by decide) (by decide), a3.mono (fun c hc => by omega)⟩
  have e : mSt M' = mSt M := by unfold mSt; rw [a3 91 (by omega)]
  rw [← e] at a1
  exact ⟨a1, Cr_q h hq, hq, a2 0 (by decide) (by decide) (by decide)⟩
theorem q_thr {F : Mem → Option (Int32 × Mem)} {M : Mem} {L : Lng} {k : Int32} {d : Dt} {D : Nat → Dt} {next kept : Nat} (h : Cr d D next kept M) (hk : 0 < k) (hF : F M = some (0, mset M 90 0 k)) :
    ∃ k' M1 L1 w M2, (some (k, M, L) : Option (Int32 × Mem × Lng)) = some (k', M1, L1) ∧ F M1 = some (w, M2) ∧ M2 90 0 = k' ∧ (k' = 0 → L1 1 = Int32.toInt64 w) ∧ Rl M2 L1 :=
  ⟨k, M, L, 0, _, rfl, hF, mset_s, fun q => by rw [q] at hk; exact absurd hk (by decide), Rl_q h Qt_t⟩
theorem q_ans {F : Mem → Option (Int32 × Mem)} {M : Mem} {L : Lng} {v : Int32} {d : Dt} {D : Nat → Dt} {next kept : Nat} (h : Cr d D next kept M) (hF : Ok (F M) (fun r => r.1 = v ∧ r.2 90 0 = 0 ∧ Qt M r.2)) :
    ∃ k' M1 L1 w M2, (some (0, M, outL L (Int32.toInt64 v)) : Option (Int32 × Mem × Lng)) = some (k', M1, L1) ∧ F M1 = some (w, M2) ∧ M2 90 0 = k' ∧ (k' = 0 → L1 1 = Int32.toInt64 w) ∧ Rl M2 L1 := by
  obtain ⟨⟨w, M2⟩, h1, h2, h3, h4⟩ := hF
  exact ⟨0, M, _, w, M2, rfl, h1, h3, fun _ => by rw [outL_1, ← h2], Rl_q h h4⟩
theorem count_q (a1 a2 a3 : Int32) {M : Mem} {L : Lng} {d : Dt} {D : Nat → Dt} {next kept : Nat} (h : Cr d D next kept M) : LC (f_lc16 a1 a2 a3 M L) := by
  refine law_ok (F := f_X9_count a1) ?_
  obtain ⟨hv, hs, hz, hw, hH, hZ, h5⟩ := id h
  have thr : g_count a1 M L = some (1, M, L) → ¬ (0 ≤ a1 ∧ a1 ≤ 11) → ∃ k M1 L1 w M2, g_count a1 M L = some (k, M1, L1) ∧ f_X9_count a1 M1 = some (w, M2) ∧ M2 90 0 = k ∧ (k = 0 → L1 1 = Int32.toInt64 w) ∧ Rl M2 L1 := by
    intro hG hn
    rw [hG]
    refine q_thr h (by decide) ?_
    unfold f_X9_count f_X9_count_j16
    rw [within_e, if_neg hn, Option.bind_some, if_pos rfl, stf_e, Option.bind_some, if_neg (by rw [mset_s]; decide)]
  by_cases h1 : a1 < 0
  · refine thr ?_ (fun q => n_le' h1 q.1)
    unfold g_count f_X8_count
    rw [if_pos h1]
    rfl
  by_cases h2 : a1 ≤ 11
  · obtain ⟨a, ha, rfl⟩ := ar (K := 11) (by decide) h1 h2
    have hG : g_count (nI a) M L = some (0, M, outL L (Int32.toInt64 (if a = 10 then nI kept else cN d.1 d.2.1 d.2.2.2.1 d.2.2.1 d.2.2.2.2.1 d.2.2.2.2.2 a))) := by
      unfold g_count f_X8_count f_X8_numberOf
      rw [if_neg h1, if_pos h2]
      by_cases h10 : a = 10
      · subst h10
        rw [if_pos (show nI 10 = 10 from rfl), hH.2.2.2.1]
        rfl
      · rw [if_neg (show ¬ nI a = 10 from nI_ne (b := 10) (by omega) (by decide) h10), numberOf_c hw.1 hv.2.2.2.2.1 hv.1 a ha, if_neg h10]
        rfl
    rw [hG]
    refine q_ans h ?_
    unfold f_X9_count f_X9_count_j16
    rw [within_e, if_pos ⟨le_n h1, h2⟩, Option.bind_some, if_neg (by decide), stf_e, Option.bind_some, if_pos (by rw [mset_s]; decide)]
    refine Ok.bind (layAll_q (Cr_q h Qt_t)) ?_
    rintro M2 ⟨b1, b2, b3, b4⟩
    refine Ok.eqb (counted_m b1 (Zc_zC hv b2.2.2.1) hv.2.2.2.1 (Zc_ok hv b2.2.2.1) hv.1 a ha) (Ok.of ⟨?_, by dsimp only; rw [b4, mset_s], Qt_t.tr b3⟩)
    dsimp only
    by_cases h10 : a = 10
    · rw [if_pos h10, if_pos h10, b2.2.2.2.2.2.1.1]
    · rw [if_neg h10, if_neg h10]
      exact cN_st (Zc_st b2.2.2.1) a
  · refine thr ?_ (fun q => h2 q.2)
    unfold g_count f_X8_count
    rw [if_neg h1, if_neg h2]
    rfl
