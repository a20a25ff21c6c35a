/-! the model reads the text -/
def MI (S : TS) (M : Mem) : Prop := M 90 22 = nI S.2.1 ∧ M 90 23 = nI S.2.2.1 ∧ M 90 24 = nI S.1 ∧ M 90 25 = nI (tSum S.2.2.2.2 S.1) ∧ (∀ k, k < 3 → M 107 (3 * S.1 + k) = nI (S.2.2.2.1 k)) ∧ ∀ q, q < S.1 → ∀ k, k < 3 → M 107 (3 * q + k) = nI (S.2.2.2.2 q k)
def MO (M M' : Mem) : Prop := (∀ k, k < 22 → M' 90 k = M 90 k) ∧ Off (fun c => c = 90 ∨ c = 107) M M'
theorem MO.rf {M : Mem} : MO M M := ⟨fun _ _ => rfl, Off.rf⟩
theorem MO.tr {M M' M'' : Mem} (h : MO M M') (h2 : MO M' M'') : MO M M'' := ⟨fun k hk => (h2.1 k hk).trans (h.1 k hk), h.2.tr h2.2⟩
theorem MO.s90 {M M' : Mem} {k : Nat} {v : Int32} (h : MO M M') (hk : 22 ≤ k) : MO M (mset M' 90 k v) := ⟨fun j hj => by rw [mset_n (by omega)]; exact h.1 j hj, h.2.set (Or.inl rfl)⟩
theorem MO.s107 {M M' : Mem} {k : Nat} {v : Int32} (h : MO M M') : MO M (mset M' 107 k v) := ⟨fun j hj => by rw [mset_o (by decide)]; exact h.1 j hj, h.2.set (Or.inr rfl)⟩
theorem n3 (a : Nat) : 3 * nI a = nI (3 * a) := nI_mul 3 a
theorem TV_p {i p f g : Nat} {u : Nat → Nat} {T : Nat → Nat → Nat} (h : TV i (p, f, g, u, T)) : 2 * p ≤ i := by
  have h1 : 2 * p + (if f = 0 ∧ g = 0 then 0 else 1) ≤ i := h.1
  omega
theorem over_m {p f g i : Nat} {u : Nat → Nat} {T : Nat → Nat → Nat} {M : Mem} (hV : TV i (p, f, g, u, T)) (hi : i ≤ 60) (hM : MI (p, f, g, u, T) M) : f_X9_isPartOver M = some (if tWh f g u then 1 else 0) := by
  have hf : f < 3 := hV.2.1
  have hg : g ≤ i := hV.2.2.1
  have hp := TV_p hV
  have hu : u 2 ≤ tMost 2 := hV.2.2.2.1 2 (by decide)
  have hm := tMost_b 2
  obtain ⟨m1, m2, m3, m4, m5, m6⟩ := hM
  dsimp only at m1 m2 m3 m4 m5 m6
  unfold f_X9_isPartOver f_X9_isPartOver_j32
  rw [m1, m2, m3, n3, show nI (3 * p) + 2 = nI (3 * p + 2) from nI_add _ 2, show rd M 107 96 (nI (3 * p + 2)) = some (M 107 (3 * p + 2)) from rd_nI (by omega) (by decide), Option.bind_some, m5 2 (by decide)]
  by_cases hg0 : g = 0
  · rw [hg0, if_pos (show nI 0 ≤ 0 by decide), if_neg (show ¬ tWh f 0 u from fun q => by have := q.1; omega)]
  · rw [if_neg (show ¬ nI g ≤ 0 from nI_nle (by omega) (by omega))]
    by_cases hf2 : f < 2
    · rw [if_pos (show nI f < 2 from nI_lt (b := 2) hf2 (by decide)), if_pos (show tWh f g u from ⟨by omega, Or.inl hf2⟩)]
    · have e2 : f = 2 := by omega
      subst e2
      rw [if_neg (show ¬ nI 2 < 2 by decide)]
      by_cases hu2 : 2 ≤ u 2
      · rw [if_neg (show ¬ nI (u 2) ≤ 1 from nI_ge (a := 1) hu2 (by omega)), if_pos (show tWh 2 g u from ⟨by omega, Or.inr hu2⟩)]
      · rw [if_pos (show nI (u 2) ≤ 1 from nI_le (b := 1) (by omega) (by decide)), if_neg (show ¬ tWh 2 g u from fun q => by have := q.2; omega)]
theorem goTo_m {p f g k : Nat} {u : Nat → Nat} {T : Nat → Nat → Nat} {M : Mem} (hM : MI (p, f, g, u, T) M) : Ok (f_X9_goTo (nI k) M) (fun M' => MO M M' ∧ MI (p, k, 0, u, T) M') := by
  obtain ⟨m1, m2, m3, m4, m5, m6⟩ := hM
  dsimp only at m1 m2 m3 m4 m5 m6
  unfold f_X9_goTo
  rw [stf_e]
  refine Ok.eqb rfl ?_
  rw [stf_e]
  refine Ok.eqb rfl (Ok.of ⟨(MO.rf.s90 (by decide)).s90 (by decide), ?_, ?_, ?_, ?_, ?_, ?_⟩)
  · rw [mset_n (by decide), mset_s]
  · rw [mset_s]
    rfl
  · rw [mset_n (by decide), mset_n (by decide)]
    exact m3
  · rw [mset_n (by decide), mset_n (by decide)]
    exact m4
  · rw [mset_o (c' := 107) (by decide), mset_o (c' := 107) (by decide)]
    exact m5
  · rw [mset_o (c' := 107) (by decide), mset_o (c' := 107) (by decide)]
    exact m6
theorem beginp_m {p : Nat} {T : Nat → Nat → Nat} {M : Mem} (hp : p ≤ 30) (h1 : M 90 24 = nI p) (h2 : M 90 25 = nI (tSum T p)) (h3 : ∀ q, q < p → ∀ k, k < 3 → M 107 (3 * q + k) = nI (T q k)) : Ok (f_X9_beginPart M) (fun M' => MO M M' ∧ MI (p, 0, 0, u0, T) M') := by
  unfold f_X9_beginPart
  rw [stf_e]
  refine Ok.eqb rfl ?_
  rw [stf_e]
  refine Ok.eqb rfl ?_
  have e24 : mset (mset M 90 22 0) 90 23 0 90 24 = nI p := by
    rw [mset_n (by decide), mset_n (by decide)]
    exact h1
  have e25 : mset (mset M 90 22 0) 90 23 0 90 25 = nI (tSum T p) := by
    rw [mset_n (by decide), mset_n (by decide)]
    exact h2
  have e22 : mset (mset M 90 22 0) 90 23 0 90 22 = nI 0 := by
    rw [mset_n (by decide), mset_s]
    rfl
  have e23 : mset (mset M 90 22 0) 90 23 0 90 23 = nI 0 := by
    rw [mset_s]
    rfl
  have e7 : mset (mset M 90 22 0) 90 23 0 107 = M 107 := by rw [mset_o (by decide), mset_o (by decide)]
  have eo : MO M (mset (mset M 90 22 0) 90 23 0) := (MO.rf.s90 (by decide)).s90 (by decide)
  generalize mset (mset M 90 22 0) 90 23 0 = K at e24 e25 e22 e23 e7 eo ⊢
  rw [e24, n3]
  refine Ok.eqb (wr_nI (by omega) (by decide)) ?_
  rw [mset_o (c' := 90) (by decide), e24, n3, nI_1]
  refine Ok.eqb (wr_nI (by omega) (by decide)) ?_
  rw [mset_o (c' := 90) (by decide), mset_o (c' := 90) (by decide), e24, n3, show nI (3 * p) + 2 = nI (3 * p + 2) from nI_add _ 2]
  refine Ok.eqb (wr_nI (by omega) (by decide)) (Ok.of ⟨((eo.s107).s107).s107, ?_, ?_, ?_, ?_, fun k hk => ?_, fun q hq k hk => ?_⟩)
  · rw [mset_o (c' := 90) (by decide), mset_o (c' := 90) (by decide), mset_o (c' := 90) (by decide)]
    exact e22
  · rw [mset_o (c' := 90) (by decide), mset_o (c' := 90) (by decide), mset_o (c' := 90) (by decide)]
    exact e23
  · rw [mset_o (c' := 90) (by decide), mset_o (c' := 90) (by decide), mset_o (c' := 90) (by decide)]
    exact e24
  · rw [mset_o (c' := 90) (by decide), mset_o (c' := 90) (by decide), mset_o (c' := 90) (by decide)]
    exact e25
  · dsimp only
    rcases (show k = 0 ∨ k = 1 ∨ k = 2 by omega) with rfl | rfl | rfl
    · rw [mset_n (by omega), mset_n (by omega), show 3 * p + 0 = 3 * p by omega, mset_s]
      rfl
    · rw [mset_n (by omega), mset_s]
      rfl
    · rw [mset_s]
      rfl
  · have hq' : q < p := hq
    rw [mset_n (by omega), mset_n (by omega), mset_n (by omega), e7]
    exact h3 q hq' k hk
def MS2 (o : Option TS) (S : TS) (M : Mem) (r : Int32 × Mem) : Prop := MO M r.2 ∧ ((∃ S', o = some S' ∧ r.1 = 1 ∧ MI S' r.2) ∨ (o = none ∧ r.1 = 0 ∧ MI S r.2))
theorem digit_m {e p f g i : Nat} {u : Nat → Nat} {T : Nat → Nat → Nat} {M : Mem} (he : e ≤ 9) (hi : i ≤ 60) (hV : TV i (p, f, g, u, T)) (hM : MI (p, f, g, u, T) M) : Ok (f_X9_takesDigit (nI e) M) (MS2 (tDig e p f g u T) (p, f, g, u, T) M) := by
  have hf : f < 3 := hV.2.1
  have hu : u f ≤ tMost f := hV.2.2.2.1 f hf
  have hg : g ≤ i := hV.2.2.1
  have hm := tMost_b f
  have hp := TV_p hV
  obtain ⟨m1, m2, m3, m4, m5, m6⟩ := id hM
  dsimp only at m1 m2 m3 m4 m5 m6
  have r7 : rd M 107 96 (nI (3 * p + f)) = some (nI (u f)) := by
    rw [show rd M 107 96 (nI (3 * p + f)) = some (M 107 (3 * p + f)) from rd_nI (by omega) (by decide), m5 f hf]
  have e0 : f_X9_takesDigit (nI e) M = f_X9_takesDigit_j40 (nI e) (nI (3 * p + f)) (nI (tMost f)) M := by
    unfold f_X9_takesDigit
    rw [m1, m3, n3, nI_add]
    rcases (show f = 0 ∨ f = 1 ∨ f = 2 by omega) with rfl | rfl | rfl
    · rw [if_pos (show nI 0 = 0 from rfl)]
      rfl
    · rw [if_neg (show ¬ nI 1 = 0 by decide), if_pos (show nI 1 = 1 from rfl)]
      rfl
    · rw [if_neg (show ¬ nI 2 = 0 by decide), if_neg (show ¬ nI 2 = 1 by decide)]
      rfl
  rw [e0]
  have yes : ∀ w, tDig e p f g u T = some (p, f, g + 1, nup u f w, T) → Ok (f_X9_takesDigit_j102 (nI (3 * p + f)) (nI w) M) (MS2 (tDig e p f g u T) (p, f, g, u, T) M) := by
    intro w hd
    unfold f_X9_takesDigit_j102 f_X9_takesDigit_j107
    refine Ok.neg (by decide) ?_
    unfold f_X9_takesDigit_j130
    refine Ok.eqb (wr_nI (by omega) (by decide)) (Ok.neg (by decide) ?_)
    unfold f_X9_takesDigit_j146
    rw [mset_o (c' := 90) (by decide), m2, nI_1, stf_e]
    refine Ok.eqb rfl (Ok.eqb (show bz 1 = some 1 from rfl) (Ok.of ⟨(MO.rf.s107).s90 (by decide), Or.inl ⟨_, hd, rfl, ?_, ?_, ?_, ?_, fun k hk => ?_, fun q hq k hk => ?_⟩⟩))
    · dsimp only
      rw [mset_n (by decide), mset_o (by decide)]
      exact m1
    · dsimp only
      rw [mset_s]
    · dsimp only
      rw [mset_n (by decide), mset_o (by decide)]
      exact m3
    · dsimp only
      rw [mset_n (by decide), mset_o (by decide)]
      exact m4
    · dsimp only
      rw [mset_o (c' := 107) (by decide)]
      by_cases hkf : k = f
      · rw [hkf, mset_s, nup_s]
      · rw [mset_n (by omega), nup_n hkf]
        exact m5 k hk
    · have hq' : q < p := hq
      dsimp only
      rw [mset_o (c' := 107) (by decide), mset_n (by omega)]
      exact m6 q hq' k hk
  have no : ∀ v, tDig e p f g u T = none → Ok (f_X9_takesDigit_j106 (nI (3 * p + f)) v M) (MS2 (tDig e p f g u T) (p, f, g, u, T) M) := by
    intro v hd
    unfold f_X9_takesDigit_j106 f_X9_takesDigit_j107
    refine Ok.pos rfl (Ok.eqb r7 ?_)
    unfold f_X9_takesDigit_j130
    refine Ok.eqb (wr_nI (by omega) (by decide)) (Ok.pos rfl ?_)
    unfold f_X9_takesDigit_j146
    rw [mset_o (c' := 90) (by decide), m2, show nI g + 0 = nI g from nI_add g 0, stf_e]
    refine Ok.eqb rfl (Ok.eqb (show bz 0 = some 0 from rfl) (Ok.of ⟨(MO.rf.s107).s90 (by decide), Or.inr ⟨hd, rfl, ?_, ?_, ?_, ?_, fun k hk => ?_, fun q hq k hk => ?_⟩⟩))
    · dsimp only
      rw [mset_n (by decide), mset_o (by decide)]
      exact m1
    · dsimp only
      rw [mset_s]
    · dsimp only
      rw [mset_n (by decide), mset_o (by decide)]
      exact m3
    · dsimp only
      rw [mset_n (by decide), mset_o (by decide)]
      exact m4
    · dsimp only
      rw [mset_o (c' := 107) (by decide)]
      by_cases hkf : k = f
      · rw [hkf, mset_s]
      · rw [mset_n (by omega)]
        exact m5 k hk
    · have hq' : q < p := hq
      dsimp only
      rw [mset_o (c' := 107) (by decide), mset_n (by omega)]
      exact m6 q hq' k hk
  unfold f_X9_takesDigit_j40
  rw [m2]
  by_cases hg0 : g = 0
  · refine Ok.pos (by rw [hg0]; rfl) ?_
    unfold f_X9_takesDigit_j63
    refine Ok.neg (nI_nlt (by omega) (by omega)) ?_
    rw [m2, m1]
    refine Ok.pos (by rw [hg0]; rfl) ?_
    have hy : (f < 2 ∨ 0 < e) → tDig e p f g u T = some (p, f, g + 1, nup u f e, T) := fun q => by
      unfold tDig
      rw [if_pos hg0, if_pos q, hg0]
    by_cases hf2 : f < 2
    · exact Ok.pos (nI_lt (b := 2) hf2 (by decide)) (yes e (hy (Or.inl hf2)))
    · refine Ok.neg (nI_nlt (b := 2) (by omega) (by omega)) ?_
      by_cases he0 : 0 < e
      · exact Ok.neg (nI_nle he0 (by omega)) (yes e (hy (Or.inr he0)))
      · exact Ok.pos (nI_le (b := 0) (by omega) (by decide)) (no _ (by unfold tDig; rw [if_pos hg0, if_neg (fun q => by omega)]))
  · refine Ok.neg (nI_ne0 (by omega) (by omega)) (Ok.eqb r7 ?_)
    rw [n10, nI_add]
    unfold f_X9_takesDigit_j63
    by_cases hle : 10 * u f + e ≤ tMost f
    · refine Ok.neg (nI_nlt hle (by omega)) ?_
      rw [m2]
      refine Ok.neg (nI_ne0 (by omega) (by omega)) (Ok.eqb r7 ?_)
      by_cases hu0 : 0 < u f
      · exact Ok.neg (nI_nle hu0 (by omega)) (yes _ (by unfold tDig; rw [if_neg hg0, if_pos ⟨hu0, hle⟩]))
      · exact Ok.pos (nI_le (b := 0) (by omega) (by decide)) (no _ (by unfold tDig; rw [if_neg hg0, if_neg (fun q => hu0 q.1)]))
    · exact Ok.pos (nI_lt (by omega) (by omega)) (no _ (by unfold tDig; rw [if_neg hg0, if_neg (fun q => hle q.2)]))
theorem takes_m {c : Int32} {p f g i : Nat} {u : Nat → Nat} {T : Nat → Nat → Nat} {M : Mem} (hV : TV i (p, f, g, u, T)) (hi : i < 60) (hM : MI (p, f, g, u, T) M) : Ok (f_X9_takes c M) (MS2 (tStep c p f g u T) (p, f, g, u, T) M) := by
  have m1 : M 90 22 = nI f := hM.1
  have m2 : M 90 23 = nI g := hM.2.1
  have m3 : M 90 24 = nI p := hM.2.2.1
  have m4 : M 90 25 = nI (tSum T p) := hM.2.2.2.1
  have hf : f < 3 := hV.2.1
  have hg : g ≤ i := hV.2.2.1
  have hp := TV_p hV
  unfold f_X9_takes
  refine Ok.eqb (within_e _ _ _ _) ?_
  by_cases hd : 48 ≤ c ∧ c ≤ 57
  · rw [if_pos hd]
    refine Ok.neg (by decide) ?_
    obtain ⟨e1, e2⟩ := dig_e hd
    have es : tStep c p f g u T = tDig (c.toInt.toNat - 48) p f g u T := by
      unfold tStep
      rw [if_pos hd]
    rw [e1, es]
    refine Ok.bind (digit_m e2 (by omega) hV hM) ?_
    rintro ⟨r, M'⟩ hr
    have hb : bz r = some r := by
      rcases hr.2 with ⟨S', -, q, -⟩ | ⟨-, q, -⟩ <;> (dsimp only at q; rw [q]; rfl)
    dsimp only
    exact Ok.eqb hb (Ok.of hr)
  · rw [if_neg hd]
    refine Ok.pos rfl ?_
    have j58 : ¬ (0 < g ∧ c = 64 ∧ f = 0) → ¬ (0 < g ∧ c = 42 ∧ f < 2) → Ok (f_X9_takes_j58 c M) (MS2 (tStep c p f g u T) (p, f, g, u, T) M) := by
      intro h64 h42
      unfold f_X9_takes_j58 f_X9_takes_j59
      refine Ok.pos rfl ?_
      by_cases h59 : c = 59
      · refine Ok.pos h59 (Ok.eqb (over_m hV (by omega) hM) ?_)
        by_cases hw : tWh f g u
        · have hs : tStep c p f g u T = some (p + 1, 0, 0, u0, tup T p u) := by
            unfold tStep
            rw [if_neg hd, if_neg h64, if_neg h42, if_pos ⟨h59, hw⟩]
          have hp2 : p < 30 := by
            have h1 : 2 * p + (if f = 0 ∧ g = 0 then 0 else 1) ≤ i := hV.1
            rw [if_neg (fun q => by have := q.2; have := hw.1; omega)] at h1
            omega
          rw [if_pos hw]
          refine Ok.neg (by decide) ?_
          rw [m3, n3, show nI (3 * p) + 2 = nI (3 * p + 2) from nI_add _ 2]
          refine Ok.eqb (rd_nI (by omega) (by decide)) ?_
          rw [stf_e]
          refine Ok.eqb rfl ?_
          rw [stf_e]
          refine Ok.eqb rfl ?_
          have m5 : ∀ k, k < 3 → M 107 (3 * p + k) = nI (u k) := hM.2.2.2.2.1
          have m6 : ∀ q, q < p → ∀ k, k < 3 → M 107 (3 * q + k) = nI (T q k) := hM.2.2.2.2.2
          refine Ok.bind (beginp_m (p := p + 1) (T := tup T p u) (by omega) ?_ ?_ (fun q hq k hk => ?_)) ?_
          · rw [mset_s, mset_n (by decide), m3, nI_1]
          · rw [mset_n (by decide), mset_s, m4, m5 2 (by decide), nI_add]
            refine congrArg nI ?_
            show _ = tSum (tup T p u) p + tup T p u p 2
            rw [tup_s, tSum_cong (T := tup T p u) (T' := T) (fun q hq => by rw [tup_n (by omega)])]
          · rw [mset_o (c' := 107) (by decide), mset_o (c' := 107) (by decide)]
            by_cases hqp : q = p
            · rw [hqp, tup_s]
              exact m5 k hk
            · rw [tup_n hqp]
              exact m6 q (by omega) k hk
          · rintro M2 ⟨b1, b2⟩
            exact Ok.of ⟨((MO.rf.s90 (by decide)).s90 (by decide)).tr b1, Or.inl ⟨_, hs, rfl, b2⟩⟩
        · have hs : tStep c p f g u T = none := by
            unfold tStep
            rw [if_neg hd, if_neg h64, if_neg h42, if_neg (fun q => hw q.2)]
          rw [if_neg hw]
          exact Ok.pos rfl (Ok.of ⟨MO.rf, Or.inr ⟨hs, rfl, hM⟩⟩)
      · have hs : tStep c p f g u T = none := by
          unfold tStep
          rw [if_neg hd, if_neg h64, if_neg h42, if_neg (fun q => h59 q.1)]
        exact Ok.neg h59 (Ok.of ⟨MO.rf, Or.inr ⟨hs, rfl, hM⟩⟩)
    rw [m2]
    by_cases hg0 : 0 < g
    · refine Ok.neg (nI_nle hg0 (by omega)) ?_
      have j40 : ¬ (c = 64 ∧ f = 0) → Ok (f_X9_takes_j40 c M) (MS2 (tStep c p f g u T) (p, f, g, u, T) M) := by
        intro h64
        unfold f_X9_takes_j40
        by_cases h42 : c = 42
        · refine Ok.pos h42 ?_
          rw [m1]
          by_cases hf2 : f < 2
          · have hs : tStep c p f g u T = some (p, 2, 0, u, T) := by
              unfold tStep
              rw [if_neg hd, if_neg (fun q => h64 q.2), if_pos ⟨hg0, h42, hf2⟩]
            refine Ok.neg (nI_ge (b := 2) hf2 (by decide)) ?_
            unfold f_X9_takes_j54 f_X9_takes_j59 f_X9_takes_j76
            refine Ok.neg (by decide) (Ok.neg (by rw [h42]; decide) (Ok.bind (goTo_m (k := 2) hM) ?_))
            rintro M1 ⟨a1, a2⟩
            exact Ok.of ⟨a1, Or.inl ⟨_, hs, rfl, a2⟩⟩
          · exact Ok.pos (nI_le (a := 2) (by omega) (by omega)) (j58 (fun q => h64 q.2) (fun q => hf2 q.2.2))
        · exact Ok.neg h42 (j58 (fun q => h64 q.2) (fun q => h42 q.2.1))
      by_cases h64 : c = 64
      · refine Ok.pos h64 ?_
        rw [m1]
        by_cases hf0 : f = 0
        · have hs : tStep c p f g u T = some (p, 1, 0, u, T) := by
            unfold tStep
            rw [if_neg hd, if_pos ⟨hg0, h64, hf0⟩]
          refine Ok.pos (by rw [hf0]; rfl) ?_
          unfold f_X9_takes_j54 f_X9_takes_j59 f_X9_takes_j76
          refine Ok.neg (by decide) (Ok.pos h64 (Ok.bind (goTo_m (k := 1) hM) ?_))
          rintro M1 ⟨a1, a2⟩
          exact Ok.of ⟨a1, Or.inl ⟨_, hs, rfl, a2⟩⟩
        · exact Ok.neg (nI_ne0 (by omega) (by omega)) (j40 (fun q => hf0 q.2))
      · exact Ok.neg h64 (j40 (fun q => h64 q.1))
    · refine Ok.pos (nI_le (b := 0) (by omega) (by decide)) (j58 (fun q => hg0 q.1) (fun q => hg0 q.1))
theorem readText_m {M : Mem} {t : Nat} {code : Nat → Int32} (ht : t ≤ 60) (h1 : M 90 4 = nI t) (hc : ∀ i, i < t → M 93 i = code i) : Ok (f_X9_readText M) (fun r => MO M r.2 ∧ ∃ i S, Rd code t i S ∧ r.1 = nI i ∧ MI S r.2) := by
  unfold f_X9_readText
  rw [stf_e]
  refine Ok.eqb rfl ?_
  rw [stf_e]
  refine Ok.eqb rfl ?_
  have o1 : MO M (mset (mset M 90 24 0) 90 25 0) := (MO.rf.s90 (by decide)).s90 (by decide)
  refine Ok.bind (beginp_m (p := 0) (T := fun _ _ => 0) (M := mset (mset M 90 24 0) 90 25 0) (by decide) (by rw [mset_n (by decide), mset_s]; rfl) (by rw [mset_s]; rfl) (fun q hq => absurd hq (Nat.not_lt_zero q))) ?_
  rintro M1 ⟨a1, a2⟩
  refine Ok.bind (P := fun r => MO M r.2 ∧ ∃ i S, Rd code t i S ∧ r.1 = nI i ∧ MI S r.2) ?_ (fun r h => Ok.of h)
  refine loop_FU (fun i (z : Int32 × Mem) => z.1 = nI i ∧ MO M z.2 ∧ ∃ S, tAt code i = some S ∧ MI S z.2) _ t (by omega) ?_ ?_ ⟨rfl, o1.tr a1, tInit, rfl, a2⟩
  · rintro i ⟨j, N⟩ hi ⟨h2, h3, ⟨p, f, g, u, T⟩, h4, h5⟩
    dsimp only at h2 h3 h5
    subst h2
    unfold f_X9_readText_l16
    dsimp only
    refine Ok.neg (by rw [h3.1 4 (by decide), h1]; exact nI_ge hi (by omega)) ?_
    refine Ok.eqb (rd_nI (by omega) (by decide)) ?_
    rw [h3.2 93 (by omega), hc i hi]
    refine Ok.bind (takes_m (tAt_V h4) (by omega) h5) ?_
    rintro ⟨r, N2⟩ ⟨b1, b2⟩
    dsimp only at b1 b2 ⊢
    rcases b2 with ⟨S', b3, b4, b5⟩ | ⟨b3, b4, b5⟩
    · refine Ok.neg (by rw [b4]; decide) (Ok.of ⟨nI_1 i, h3.tr b1, S', ?_, b5⟩)
      show (tAt code i).bind _ = some S'
      rw [h4]
      exact b3
    · exact Ok.pos b4 (Ok.of ⟨h3.tr b1, i, _, ⟨by omega, h4, Or.inr b3⟩, rfl, b5⟩)
  · rintro ⟨j, N⟩ ⟨h2, h3, S, h4, h5⟩
    dsimp only at h2 h3 h5
    subst h2
    unfold f_X9_readText_l16
    dsimp only
    exact Ok.pos (by rw [h3.1 4 (by decide), h1]; exact nI_le (Nat.le_refl _) (by omega)) (Ok.of ⟨h3, t, S, ⟨Nat.le_refl _, h4, Or.inl rfl⟩, rfl, h5⟩)
