/-! the law's cases: a setting that is tried -/
abbrev svOK (a : Nat) (v : Int32) : Prop := STb 0 a ≤ v ∧ v ≤ STb 1 a
theorem rdS_0 {k a : Nat} (hk : k < 2) (ha : a < 10) : rdS k (nI a) = some (STb k a) := by
  unfold rdS
  have e : SLn k = 10 := by
    rcases (show k = 0 ∨ k = 1 by omega) with rfl | rfl <;> rfl
  rw [nI_clamp (by omega), e, if_neg]
  rintro (q | q)
  · exact nI_pos (by omega) q
  · omega
theorem fits_c {a : Nat} {v : Int32} {M : Mem} (ha : a < 10) : f_X8_fitsSetting (nI a) v M = some (if svOK a v then 1 else 0) := by
  unfold f_X8_fitsSetting
  have h9 : 0 ≤ nI a ∧ nI a ≤ 9 := ⟨nI_le (a := 0) (b := a) (by omega) (by omega), nI_le (a := a) (b := 9) (by omega) (by decide)⟩
  rw [isSetting_c, if_pos h9, Option.bind_some, if_neg (by decide), rdS_0 (by decide) ha, Option.bind_some]
  by_cases h1 : v < STb 0 a
  · rw [if_pos h1, if_neg (fun q => n_le' h1 q.1)]
  · rw [if_neg h1, rdS_0 (by decide) ha, Option.bind_some]
    by_cases h2 : STb 1 a < v
    · rw [if_pos h2, if_neg (fun q => n_le' h2 q.2)]
    · rw [if_neg h2, if_pos ⟨le_n h1, le_n h2⟩]
theorem wb (a b c : Int32) (M : Mem) : ((f_X9_within a b c M).bind fun r => (bz r).bind fun x => some x) = some (if b ≤ a ∧ a ≤ c then 1 else 0) := by
  rw [within_e, Option.bind_some, bz_if, Option.bind_some]
theorem isValue_m {a : Nat} {v : Int32} {M : Mem} (ha : a < 10) : f_X9_isValue (nI a) v M = some (if svOK a v then 1 else 0) := by
  unfold f_X9_isValue
  simp only [wb]
  match a, ha with
  | 0, _ => rfl
  | 1, _ => rfl
  | 2, _ => rfl
  | 3, _ => rfl
  | 4, _ => rfl
  | 5, _ => rfl
  | 6, _ => rfl
  | 7, _ => rfl
  | 8, _ => rfl
  | 9, _ => rfl
theorem stOK_upd {st : Nat → Int32} {a : Nat} {v : Int32} (h : stOK st) (ha : a < 10) (hv : svOK a v) : stOK (upd st a v) := by
  have h1 := i_le.mp hv.1
  have h2 := i_le.mp hv.2
  have key : ∀ k, k < 10 → (upd st a v k).toInt = (st k).toInt ∧ True ∨ k = a ∧ (upd st a v k).toInt = v.toInt := fun k hk => by
    by_cases hka : k = a
    · exact Or.inr ⟨hka, by rw [hka, upd_s]⟩
    · exact Or.inl ⟨by rw [upd_n hka], trivial⟩
  have b : ∀ k, k < 10 → (STb 0 k).toInt ≤ (st k).toInt ∧ (st k).toInt ≤ (STb 1 k).toInt → (STb 0 k).toInt ≤ (upd st a v k).toInt ∧ (upd st a v k).toInt ≤ (STb 1 k).toInt := fun k hk hb => by
    rcases key k hk with ⟨e, -⟩ | ⟨rfl, e⟩
    · rw [e]
      exact hb
    · rw [e]
      exact ⟨h1, h2⟩
  obtain ⟨g0, g1, g2, g3, g4, g5, g6, g7, g8, g9⟩ := h
  exact ⟨b 0 (by omega) g0, b 1 (by omega) g1, b 2 (by omega) g2, b 3 (by omega) g3, b 4 (by omega) g4, b 5 (by omega) g5, b 6 (by omega) g6, b 7 (by omega) g7, b 8 (by omega) g8, b 9 (by omega) g9⟩
theorem upd_st10 {st st' : Nat → Int32} {a : Nat} {v : Int32} (h : st10 st st') : st10 (upd st a v) (upd st' a v) := fun k hk => by
  by_cases hka : k = a
  · rw [hka, upd_s, upd_s]
  · rw [upd_n hka, upd_n hka]
    exact h k hk
theorem ifSet_q (a1 a2 a3 : Int32) {M : Mem} {L : Lng} {d : Dt} {D : Nat → Dt} {next kept : Nat} (h : Cr d D next kept M) : LC (f_lc18 a1 a2 a3 M L) := by
  refine law_ok (F := f_X9_ifSet a1 a2 a3) ?_
  obtain ⟨hv, hs, hz, hw, hH, hZ, h5⟩ := id h
  by_cases h1 : 0 ≤ a1 ∧ a1 ≤ 9
  · have h1' := h1
    obtain ⟨a, ha, rfl⟩ := ar (K := 9) (by decide) (n_lt' h1.1) h1.2
    by_cases h2 : svOK a a2
    · by_cases h3 : 0 ≤ a3 ∧ a3 ≤ 9
      · have h3' := h3
        obtain ⟨w, hww, rfl⟩ := ar (K := 9) (by decide) (n_lt' h3.1) h3.2
        have hok := stOK_upd hv.2.2.2.2.1 (show a < 10 by omega) h2
        have hG : Ok (g_ifSet (nI a) a2 (nI w) M L) (fun r => r.1 = 0 ∧ r.2.2 = outL L (Int32.toInt64 (cN d.1 d.2.1 (upd d.2.2.2.1 a a2) d.2.2.1 d.2.2.2.2.1 d.2.2.2.2.2 w)) ∧ Off (fun c => 71 ≤ c ∧ c ≤ 87) M r.2.1) := by
          unfold g_ifSet
          refine Ok.bind (P := fun o => ∃ M', o = .inr (cN d.1 d.2.1 (upd d.2.2.2.1 a a2) d.2.2.1 d.2.2.2.2.1 d.2.2.2.2.2 w, M') ∧ Off (fun c => 71 ≤ c ∧ c ≤ 87) M M') ?_ ?_
          · unfold f_X8_ifSet f_X7_takeSettings
            refine Ok.eqb (isSetting_c _ _) ?_
            rw [if_pos h1']
            refine Ok.neg (by decide) ?_
            refine Ok.eqb (fits_c (by omega)) ?_
            rw [if_pos h2]
            refine Ok.neg (by decide) (Ok.neg (n_lt' h3'.1) (Ok.pos h3'.2 ?_))
            refine Ok.eqb (a := rset M 72 (va_cpy (M 4) (M 72) 0 0 10)) ?_ ?_
            · rw [show cpy M 4 10 0 (71 + 1) 10 0 10 = some (rset M 72 (va_cpy (M 4) (M 72) 0 0 10)) from cpy_c (n := 10) rfl (by decide)]
              rfl
            refine Ok.eqb (wr_nI (by omega) (by decide)) ?_
            have hg : st10 (mset (rset M 72 (va_cpy (M 4) (M 72) 0 0 10)) 72 a a2 (71 + 1)) (upd d.2.2.2.1 a a2) := fun k hk => by
              rw [show mset (rset M 72 (va_cpy (M 4) (M 72) 0 0 10)) 72 a a2 (71 + 1) = upd (rset M 72 (va_cpy (M 4) (M 72) 0 0 10) 72) a a2 from mset_r, rset_s]
              by_cases hka : k = a
              · rw [hka, upd_s, upd_s]
              · rw [upd_n hka, upd_n hka, cpy_at (by omega)]
                exact hs.2.2.2.1 k hk
            have o1 : Off (fun c => 71 ≤ c ∧ c ≤ 87) M (mset (rset M 72 (va_cpy (M 4) (M 72) 0 0 10)) 72 a a2) := (Off.rf.rset (by omega)).set (by omega)
            have hS : Sc 1 d (mset (rset M 72 (va_cpy (M 4) (M 72) 0 0 10)) 72 a a2) := Sc_off hs (fun c hc hc2 => by rw [mset_o (by omega), rset_o (by omega)])
            generalize mset (rset M 72 (va_cpy (M 4) (M 72) 0 0 10)) 72 a a2 = M1 at hg o1 hS ⊢
            refine Ok.bind (look_c (u := 71) (by decide) (Sc_St hv hS) hok hg) ?_
            rintro M2 ⟨c1, c2⟩
            refine Ok.eqb (numberOf_c c1 hok hv.1 w (by omega)) (Ok.of ⟨M2, rfl, o1.tr (c2.mono (fun c hc => by omega))⟩)
          · rintro o ⟨M', rfl, ho⟩
            exact Ok.of ⟨rfl, rfl, ho⟩
        obtain ⟨⟨k0, M1, L1⟩, g1, rfl, rfl, g4⟩ := hG
        dsimp only at g4
        have hq1 : Qt M M1 := ⟨by rw [g4 48 (by omega)], by rw [g4 90 (by omega)], by rw [g4 90 (by omega)], g4.mono (fun c hc => by omega)⟩
        have hM : Ok (f_X9_ifSet (nI a) a2 (nI w) M1) (fun r => r.1 = cN d.1 d.2.1 (upd d.2.2.2.1 a a2) d.2.2.1 d.2.2.2.2.1 d.2.2.2.2.2 w ∧ r.2 90 0 = 0 ∧ Qt M1 r.2) := by
          unfold f_X9_ifSet f_X9_ifSet_j35
          refine Ok.eqb (isSetting_m _ _) ?_
          rw [if_pos h1']
          refine Ok.neg (by decide) (Ok.eqb (isValue_m (by omega)) ?_)
          rw [if_pos h2]
          refine Ok.neg (by decide) (Ok.eqb (within_e _ _ _ _) ?_)
          rw [if_pos h3', stf_e]
          refine Ok.neg (by decide) (Ok.eqb rfl (Ok.pos (by rw [mset_s]; decide) ?_))
          have hz2 := (Cr_q h (hq1.tr (Qt_t (v := 0)))).2.2.1
          have e10 := upd_st10 (a := a) (v := a2) (Zc_st hz2)
          refine Ok.bind (withSetting_m (cm := d.2.2.1) (nc := d.2.2.2.2.2) (Zc_zM hv hz2) (Zc_zC hv hz2) hv.2.2.1 hv.2.2.2.1 (show a < 10 by omega) hww (stOK_cong e10.sy hok)) ?_
          rintro ⟨r, M2⟩ ⟨b1, b2, b3⟩
          refine Ok.of ⟨b1.trans (cN_st e10 w), (b2 0 (by decide) (by decide) (by decide)).trans mset_s, Qt_t.tr ⟨by rw [b3 48 (by omega)], b2 2 (by decide) (by decide) (by decide), b2 4 (by decide) (by decide) (by decide), b3.mono (fun c hc => by omega)⟩⟩
        obtain ⟨⟨w2, M2⟩, k1, k2, k3, k4⟩ := hM
        exact ⟨0, M1, _, w2, M2, g1, k1, k3, fun _ => by rw [outL_1, ← k2], Rl_q h (hq1.tr k4)⟩
      · have hG : g_ifSet (nI a) a2 a3 M L = some (2, M, L) := by
          unfold g_ifSet f_X8_ifSet
          rw [isSetting_c, if_pos h1', Option.bind_some, if_neg (by decide), fits_c (by omega), if_pos h2, Option.bind_some, if_neg (by decide)]
          by_cases h4 : a3 < 0
          · rw [if_pos h4]
            rfl
          · rw [if_neg h4, if_neg (fun q => h3 ⟨le_n h4, q⟩)]
            rfl
        rw [hG]
        refine q_thr h (by decide) ?_
        unfold f_X9_ifSet f_X9_ifSet_j34 f_X9_ifSet_j35
        rw [isSetting_m, if_pos h1', Option.bind_some, if_neg (by decide), isValue_m (by omega), if_pos h2, Option.bind_some, if_neg (by decide), within_e, if_neg h3, Option.bind_some, if_pos rfl, stf_e, Option.bind_some, if_neg (by rw [mset_s]; decide)]
    · have hG : g_ifSet (nI a) a2 a3 M L = some (2, M, L) := by
        unfold g_ifSet f_X8_ifSet
        rw [isSetting_c, if_pos h1', Option.bind_some, if_neg (by decide), fits_c (by omega), if_neg h2, Option.bind_some, if_pos rfl]
        rfl
      rw [hG]
      refine q_thr h (by decide) ?_
      unfold f_X9_ifSet f_X9_ifSet_j34 f_X9_ifSet_j35
      rw [isSetting_m, if_pos h1', Option.bind_some, if_neg (by decide), isValue_m (by omega), if_neg h2, Option.bind_some, if_pos rfl, stf_e, Option.bind_some, if_neg (by rw [mset_s]; decide)]
  · have hG : g_ifSet a1 a2 a3 M L = some (1, M, L) := by
      unfold g_ifSet f_X8_ifSet
      rw [isSetting_c, if_neg h1, Option.bind_some, if_pos rfl]
      rfl
    rw [hG]
    refine q_thr h (by decide) ?_
    unfold f_X9_ifSet f_X9_ifSet_j35
    rw [isSetting_m, if_neg h1, Option.bind_some, if_pos rfl, stf_e, Option.bind_some, if_neg (by rw [mset_s]; decide)]
