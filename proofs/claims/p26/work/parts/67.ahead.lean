/-! ahead: another setting, the least limit, when a level would be above -/
theorem ats (x : Int32) {n : Nat} (h0 : 0 < n) (hn : n < 2147483648) : ∃ k, k < n ∧ ∀ M : Mem, f_L_at x (nI n) M = some (nI k) := by
  obtain ⟨r, h1, h2⟩ := ush1 x
  refine ⟨r % n, Nat.mod_lt _ h0, fun M => ?_⟩
  unfold f_L_at
  rw [h2, rm_n h1 h0 hn]
  rfl
theorem sv_n {a v : Nat} (ha : a < 10) (h1 : ∃ l m, STb 0 a = nI l ∧ STb 1 a = nI m ∧ l ≤ v ∧ v ≤ m ∧ m < 1000) : svOK a (nI v) := by
  obtain ⟨l, m, e1, e2, e3, e4, e5⟩ := h1
  refine ⟨?_, ?_⟩
  · rw [e1]
    exact nI_le e3 (by omega)
  · rw [e2]
    exact nI_le e4 (by omega)
theorem value_l (y : Int32) {k : Nat} (hk : k < 10) : ∃ v : Nat, svOK k (nI v) ∧ ∀ M : Mem, f_L_value (nI k) y M = some (nI v) := by
  obtain ⟨a60, h60, e60⟩ := ats y (n := 60) (by decide) (by decide)
  obtain ⟨a61, h61, e61⟩ := ats y (n := 61) (by decide) (by decide)
  obtain ⟨a41, h41, e41⟩ := ats y (n := 41) (by decide) (by decide)
  obtain ⟨a21, h21, e21⟩ := ats y (n := 21) (by decide) (by decide)
  obtain ⟨a20, h20, e20⟩ := ats y (n := 20) (by decide) (by decide)
  obtain ⟨a50, h50, e50⟩ := ats y (n := 50) (by decide) (by decide)
  obtain ⟨a141, h141, e141⟩ := ats y (n := 141) (by decide) (by decide)
  obtain ⟨a3, h3, e3⟩ := ats (y >>> (9 &&& 31)) (n := 3) (by decide) (by decide)
  have low : k < 2 → ∃ v : Nat, v ≤ 140 ∧ ∀ M : Mem, f_L_value (nI k) y M = some (nI v) := by
    intro h2
    by_cases h0 : a3 = 0
    · refine ⟨a141, by omega, fun M => ?_⟩
      unfold f_L_value f_L_value_j25
      refine eq_n (nI_ge (b := 2) h2 (by decide)) (eq_b (e3 M) (eq_p (by rw [h0]; rfl) (eq_b (e141 M) rfl)))
    · refine ⟨a60, by omega, fun M => ?_⟩
      unfold f_L_value f_L_value_j25
      refine eq_n (nI_ge (b := 2) h2 (by decide)) (eq_b (e3 M) (eq_n (nI_ne0 (by omega) (by omega)) (eq_b (e60 M) rfl)))
  rcases (show k = 0 ∨ k = 1 ∨ k = 2 ∨ k = 3 ∨ k = 4 ∨ k = 5 ∨ k = 6 ∨ k = 7 ∨ k = 8 ∨ k = 9 by omega) with rfl | rfl | rfl | rfl | rfl | rfl | rfl | rfl | rfl | rfl
  · obtain ⟨v, h1, h2⟩ := low (by decide)
    exact ⟨v, sv_n (by decide) ⟨0, 140, rfl, rfl, by omega, by omega, by decide⟩, h2⟩
  · obtain ⟨v, h1, h2⟩ := low (by decide)
    exact ⟨v, sv_n (by decide) ⟨0, 140, rfl, rfl, by omega, by omega, by decide⟩, h2⟩
  · refine ⟨a60, sv_n (by decide) ⟨0, 59, rfl, rfl, by omega, by omega, by decide⟩, fun M => ?_⟩
    unfold f_L_value
    exact eq_p (by decide) (eq_p rfl (eq_b (e60 M) rfl))
  · refine ⟨a61, sv_n (by decide) ⟨0, 60, rfl, rfl, by omega, by omega, by decide⟩, fun M => ?_⟩
    unfold f_L_value f_L_value_j56
    exact eq_p (by decide) (eq_n (by decide) (eq_p rfl (eq_b (e61 M) rfl)))
  · refine ⟨1 + a41, sv_n (by decide) ⟨1, 41, rfl, rfl, by omega, by omega, by decide⟩, fun M => ?_⟩
    unfold f_L_value
    exact eq_p (by decide) (eq_n (by decide) (eq_n (by decide) (eq_n (by decide) (eq_p rfl (eq_b (e41 M) (congrArg some (nI_add 1 a41)))))))
  · refine ⟨a21, sv_n (by decide) ⟨0, 20, rfl, rfl, by omega, by omega, by decide⟩, fun M => ?_⟩
    unfold f_L_value
    exact eq_p (by decide) (eq_n (by decide) (eq_n (by decide) (eq_n (by decide) (eq_n (by decide) (eq_p rfl (eq_b (e21 M) rfl))))))
  · refine ⟨1 + a20, sv_n (by decide) ⟨1, 20, rfl, rfl, by omega, by omega, by decide⟩, fun M => ?_⟩
    unfold f_L_value f_L_value_j107
    exact eq_p (by decide) (eq_n (by decide) (eq_n (by decide) (eq_n (by decide) (eq_n (by decide) (eq_n (by decide) (eq_p rfl (eq_b (e20 M) (congrArg some (nI_add 1 a20)))))))))
  · refine ⟨a61, sv_n (by decide) ⟨0, 60, rfl, rfl, by omega, by omega, by decide⟩, fun M => ?_⟩
    unfold f_L_value f_L_value_j56
    exact eq_p (by decide) (eq_n (by decide) (eq_n (by decide) (eq_p rfl (eq_b (e61 M) rfl))))
  · refine ⟨1 + a20, sv_n (by decide) ⟨1, 20, rfl, rfl, by omega, by omega, by decide⟩, fun M => ?_⟩
    unfold f_L_value f_L_value_j107
    exact eq_p (by decide) (eq_n (by decide) (eq_n (by decide) (eq_n (by decide) (eq_n (by decide) (eq_n (by decide) (eq_n (by decide) (eq_p rfl (eq_b (e20 M) (congrArg some (nI_add 1 a20))))))))))
  · refine ⟨1 + a50, sv_n (by decide) ⟨1, 50, rfl, rfl, by omega, by omega, by decide⟩, fun M => ?_⟩
    unfold f_L_value
    exact eq_p (by decide) (eq_n (by decide) (eq_n (by decide) (eq_n (by decide) (eq_n (by decide) (eq_n (by decide) (eq_n (by decide) (eq_n (by decide) (eq_b (e50 M) (congrArg some (nI_add 1 a50))))))))))
/-- the class tries another setting -/
theorem ifSet_a {d : Dt} {D : Nat → Dt} {next kept a w : Nat} {v : Int32} {M : Mem} (h : Cr d D next kept M) (ha : a < 10) (hsv : svOK a v) (hw : w ≤ 9) :
    Ok (f_X8_ifSet (nI a) v (nI w) M) (fun r => r.1 = cN d.1 d.2.1 (upd d.2.2.2.1 a v) d.2.2.1 d.2.2.2.2.1 d.2.2.2.2.2 w ∧ Off (fun c => 71 ≤ c ∧ c ≤ 87) M r.2) := by
  obtain ⟨hv, hs, -, -, -⟩ := id h
  have hok := stOK_upd hv.2.2.2.2.1 ha hsv
  unfold f_X8_ifSet f_X7_takeSettings
  refine Ok.eqb (isSetting_c _ _) ?_
  rw [if_pos (show 0 ≤ nI a ∧ nI a ≤ 9 from ⟨le_n (nI_pos (by omega)), nI_le (b := 9) (by omega) (by decide)⟩)]
  refine Ok.neg (by decide) (Ok.eqb (fits_c ha) ?_)
  rw [if_pos hsv]
  refine Ok.neg (by decide) (Ok.neg (nI_pos (by omega)) (Ok.pos (nI_le (b := 9) hw (by decide)) ?_))
  refine Ok.eqb (a := rset M 72 (va_cpy (M 4) (M 72) 0 0 10)) ?_ ?_
  · rw [show cpy M 4 10 0 (71 + 1) 10 0 10 = some (rset M 72 (va_cpy (M 4) (M 72) 0 0 10)) from cpy_c (n := 10) rfl (by decide)]
    rfl
  refine Ok.eqb (wr_nI (by omega) (by decide)) ?_
  have hg : st10 (mset (rset M 72 (va_cpy (M 4) (M 72) 0 0 10)) 72 a v (71 + 1)) (upd d.2.2.2.1 a v) := fun k hk => by
    rw [show mset (rset M 72 (va_cpy (M 4) (M 72) 0 0 10)) 72 a v (71 + 1) = upd (rset M 72 (va_cpy (M 4) (M 72) 0 0 10) 72) a v from mset_r, rset_s]
    by_cases hka : k = a
    · rw [hka, upd_s, upd_s]
    · rw [upd_n hka, upd_n hka, cpy_at (by omega)]
      exact hs.2.2.2.1 k hk
  have o1 : Off (fun c => 71 ≤ c ∧ c ≤ 87) M (mset (rset M 72 (va_cpy (M 4) (M 72) 0 0 10)) 72 a v) := (Off.rf.rset (by omega)).set (by omega)
  have hS : Sc 1 d (mset (rset M 72 (va_cpy (M 4) (M 72) 0 0 10)) 72 a v) := Sc_off hs (fun c hc hc2 => by rw [mset_o (by omega), rset_o (by omega)])
  generalize mset (rset M 72 (va_cpy (M 4) (M 72) 0 0 10)) 72 a v = M1 at hg o1 hS ⊢
  refine Ok.bind (look_c (u := 71) (by decide) (Sc_St hv hS) hok hg) ?_
  rintro M2 ⟨c1, c2⟩
  exact Ok.eqb (numberOf_c c1 hok hv.1 w (by omega)) (Ok.of ⟨rfl, o1.tr (c2.mono (fun c hc => by omega))⟩)
theorem least_a {d : Dt} {D : Nat → Dt} {next kept m : Nat} {M : Mem} (h : Cr d D next kept M) (hm : m ≤ 200) : f_X8_leastLimit (nI m) M = some (sLst d.1 d.2.1 d.2.2.2.1 d.2.2.2.2.1 (nI m)) := by
  unfold f_X8_leastLimit
  exact eq_n (nI_pos (by omega)) (eq_p (nI_le (b := 200) hm (by decide)) (eq_b (least_c h.2.2.2.1.1 h.1.2.2.2.2.1 h.1.1) rfl))
theorem above_a {d : Dt} {D : Nat → Dt} {next kept l : Nat} {M : Mem} (h : Cr d D next kept M) (hl : l ≤ 140) : f_X8_aboveIn (nI l) M = some (sAbv d.1 d.2.1 d.2.2.2.1 d.2.2.2.2.1 (nI l)) := by
  unfold f_X8_aboveIn
  refine eq_b (isLevel_c _ _) ?_
  rw [if_pos (show 0 ≤ nI l ∧ nI l ≤ 140 from ⟨le_n (nI_pos (by omega)), nI_le (b := 140) hl (by decide)⟩)]
  exact eq_n (by decide) (eq_b (until_c h.2.2.2.1.1 h.1.2.2.2.2.1 h.1.1) rfl)
/-- the first that is so -/
theorem fI_none {q : Nat → Bool} : ∀ {n : Nat}, (∀ l, l < n → q l = false) → fI q n = 0
  | 0, _ => rfl
  | n + 1, h => fI_miss (fI_none (fun l hl => h l (by omega))) (h n (by omega))
/-- minutes as the law keeps them, but for one setting -/
theorem Lz_set {lv wd st : Nat → Int32} {n k : Nat} {v : Int32} {M : Mem} (h1 : n ≤ 60) (h2 : M 93 0 = nI n) (h3 : ∀ m, m < n → M 90 m = lv m ∧ M 91 m = wd m) (h4 : ∀ j, j < 10 → j ≠ k → M 94 j = st j) : Lz lv wd (upd st k v) n (mset M 94 k v) := by
  refine ⟨h1, ?_, fun m hm => ?_, fun j hj => ?_⟩
  · rw [mset_o (by decide)]
    exact h2
  · rw [mset_o (c' := 90) (by decide), mset_o (c' := 91) (by decide)]
    exact h3 m hm
  · rw [mset_r]
    by_cases hjk : j = k
    · rw [hjk, upd_s, upd_s]
    · rw [upd_n hjk, upd_n hjk]
      exact h4 j hj hjk
theorem upd_same {st : Nat → Int32} {k : Nat} : upd st k (st k) = st := by
  funext j
  by_cases hj : j = k
  · rw [hj, upd_s]
  · rw [upd_n hj]
abbrev qL (d : Dt) (most : Int32) : Nat → Bool := fun l => decide (nI (dC d.1 d.2.1 (stL0 d.2.2.2.1 l) d.2.2.2.2.1) ≤ most)
theorem limits_l {d : Dt} {v1 v14 most : Int32} {M : Mem} (hv : Vd d) (hz : LzD d M) : Ok (loopN (f_L_ahead_l150 v1 v14 most) FU ((-1), 140, M)) (fun o => o.1 = sLst d.1 d.2.1 d.2.2.2.1 d.2.2.2.2.1 most ∧ (∀ j, j < 10 → j ≠ 0 → o.2 94 j = d.2.2.2.1 j) ∧ Off (fun c => 94 ≤ c ∧ c ≤ 98) M o.2) := by
  have hst := hv.2.2.2.2.1
  have hn := hz.1
  refine loop_FU (fun j z => z.2.1 = nI (141 - j) - 1 ∧ ((z.1 = -1 ∧ ∀ l, 141 - j ≤ l → l < 141 → qL d most l = false) ∨ ∃ l, z.1 = nI l ∧ 141 - j ≤ l ∧ l < 141 ∧ qL d most l = true ∧ ∀ l', 141 - j ≤ l' → l' < l → qL d most l' = false) ∧ (∀ j, j < 10 → j ≠ 0 → z.2.2 94 j = d.2.2.2.1 j) ∧ Off (fun c => 94 ≤ c ∧ c ≤ 98) M z.2.2) _ 141 (by omega) ?_ ?_ ⟨rfl, Or.inl ⟨rfl, fun l h1 h2 => by omega⟩, fun j hj _ => hz.2.2.2 j hj, Off.rf⟩
  · rintro j ⟨x, y, N⟩ hj ⟨h1, h2, h3, h4⟩
    dsimp only at h1 h2 h3 h4
    subst h1
    obtain ⟨l, hl⟩ : ∃ l, 141 - j = l + 1 := ⟨141 - j - 1, by omega⟩
    have hl2 : 141 - (j + 1) = l := by omega
    rw [hl] at h2 ⊢
    unfold f_L_ahead_l150
    dsimp only
    rw [nI_pred]
    refine Ok.neg (nI_pos (by omega)) ?_
    refine Ok.eqb (show wr N 94 10 0 (nI l) = some (mset N 94 0 (nI l)) from wr_nI (k := 0) (by decide) (by decide)) ?_
    have hz9 : Lz d.1 d.2.1 (stL0 d.2.2.2.1 l) d.2.2.2.2.1 (mset N 94 0 (nI l)) := Lz_set hn (by rw [h4 93 (by omega)]; exact hz.2.1) (by rw [h4 90 (by omega), h4 91 (by omega)]; exact hz.2.2.1) h3
    have hst9 : stOK (stL0 d.2.2.2.1 l) := stOK_upd hst (by decide) (sv_n (by decide) ⟨0, 140, rfl, rfl, by omega, by omega, by decide⟩)
    refine Ok.bind (lay_l hz9 hst9) ?_
    rintro K ⟨hL, ho⟩
    have hzK : Lz d.1 d.2.1 (stL0 d.2.2.2.1 l) d.2.2.2.2.1 K := Lz_off hz9 (fun c a b => ho c (by show ¬ (95 ≤ c ∧ _); omega))
    refine Ok.eqb (exceedances_l (Ld_Bm hzK hst9 hL)) ?_
    have hK94 : ∀ j, j < 10 → j ≠ 0 → K 94 j = d.2.2.2.1 j := fun j hj hj0 => by
      rw [ho 94 (by show ¬ (95 ≤ 94 ∧ _); omega), mset_n hj0]
      exact h3 j hj hj0
    have hKo : Off (fun c => 94 ≤ c ∧ c ≤ 98) M K := (h4.set (by omega)).tr (ho.mono (fun c hc => by have := hc.1; have := hc.2; omega))
    have hnext : nI l + (-1) = nI (141 - (j + 1)) - 1 := by
      rw [hl2]
      exact (Int32.sub_eq_add_neg _ _).symm
    have hql : qL d most l = decide (nI (xCnt (gO (stL0 d.2.2.2.1 l)) (dA d.1 d.2.1 (stL0 d.2.2.2.1 l)) d.2.2.2.2.1) ≤ most) := rfl
    unfold f_L_ahead_j198
    refine Ok.ite (fun c => Ok.of ⟨hnext, ?_, hK94, hKo⟩) (fun c => Ok.of ⟨hnext, ?_, hK94, hKo⟩)
    · have hqf : qL d most l = false := by
        rw [hql]
        exact decide_eq_false (n_le' c)
      dsimp only
      rw [hl2]
      rcases h2 with ⟨e1, e2⟩ | ⟨l2, e1, e2, e3, e4, e5⟩
      · refine Or.inl ⟨e1, fun l' g1 g2 => ?_⟩
        by_cases hll : l' = l
        · rw [hll]; exact hqf
        · exact e2 l' (by omega) g2
      · refine Or.inr ⟨l2, e1, by omega, e3, e4, fun l' g1 g2 => ?_⟩
        by_cases hll : l' = l
        · rw [hll]; exact hqf
        · exact e5 l' (by omega) g2
    · have hqt : qL d most l = true := by
        rw [hql]
        exact decide_eq_true (le_n c)
      dsimp only
      rw [hl2]
      exact Or.inr ⟨l, rfl, Nat.le_refl _, by omega, hqt, fun l' g1 g2 => by omega⟩
  · rintro ⟨x, y, N⟩ ⟨h1, h2, h3, h4⟩
    dsimp only at h1 h2 h3 h4
    subst h1
    unfold f_L_ahead_l150
    dsimp only
    rw [Nat.sub_self] at h2 ⊢
    refine Ok.pos (by decide) (Ok.of ⟨?_, h3, h4⟩)
    show x = nI (fI (qL d most) 141) - 1
    rcases h2 with ⟨e1, e2⟩ | ⟨l, e1, e2, e3, e4, e5⟩
    · rw [e1, fI_none (fun l hl => e2 l (by omega) hl)]
      rfl
    · rw [e1, fI_hit (fI_none (fun l' hl' => e5 l' (by omega) hl')) e4 e3, nI_pred]
