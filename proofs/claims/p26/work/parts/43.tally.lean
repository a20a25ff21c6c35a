/-- how many of the first -/
def cB (p : Nat → Bool) : Nat → Nat
  | 0 => 0
  | m + 1 => cB p m + (if p m then 1 else 0)
theorem cB_le (p : Nat → Bool) : ∀ m, cB p m ≤ m
  | 0 => Nat.le_refl 0
  | m + 1 => by
    have := cB_le p m
    unfold cB
    split <;> omega
theorem cB_cong {p q : Nat → Bool} : ∀ {n : Nat}, (∀ m, m < n → p m = q m) → cB p n = cB q n
  | 0, _ => rfl
  | n + 1, h => by
    unfold cB
    rw [cB_cong (fun m hm => h m (by omega)), h n (by omega)]
def cntd (W : Nat → Int32) (m : Nat) : Bool := decide (W m = 0) || decide (W m = 3)
def abvB (W : Nat → Int32) (m : Nat) : Bool := decide (W m = 0)
theorem isCounted_c {M : Mem} {u i : Nat} (hi : i < 200) : f_X4_isCounted u (nI i) M = some (if cntd (M (u + 3)) i then 1 else 0) := by
  unfold f_X4_isCounted f_X4_isCounted_j19 cntd
  rw [rd_nI hi (by decide), Option.bind_some]
  by_cases h : M (u + 3) i = 0
  · rw [if_pos h]
    simp [h]
  · rw [if_neg h, Option.bind_some]
    by_cases h3 : M (u + 3) i = 3
    · rw [if_pos h3]
      simp [h3]
    · rw [if_neg h3]
      simp [h, h3]
theorem tally_c {M : Mem} {u g n : Nat} (hn : n ≤ 200) (hu3 : M u 3 = nI n) (hst : stOK (M g)) (hg : g ≠ u) :
    Ok (f_X4_tally u g M) (fun M' => M' u 4 = nI (cB (cntd (M (u + 3))) n) ∧ M' u 5 = nI (cB (fun m => decide (sRest (M g) m)) n) ∧ M' u 6 = nI (cB (abvB (M (u + 3))) n) ∧ (∀ k, k ≠ 4 → k ≠ 5 → k ≠ 6 → M' u k = M u k) ∧ Off (fun c => c = u) M M') := by
  unfold f_X4_tally
  rw [stf_e]
  refine Ok.eqb rfl ?_
  rw [stf_e]
  refine Ok.eqb rfl ?_
  rw [stf_e]
  refine Ok.eqb rfl ?_
  refine Ok.bind (P := fun M' => M' u 4 = nI (cB (cntd (M (u + 3))) n) ∧ M' u 5 = nI (cB (fun m => decide (sRest (M g) m)) n) ∧ M' u 6 = nI (cB (abvB (M (u + 3))) n) ∧ (∀ k, k ≠ 4 → k ≠ 5 → k ≠ 6 → M' u k = M u k) ∧ Off (fun c => c = u) M M') ?_ (fun M' h => Ok.of h)
  refine loop_FU (fun i z => z.1 = nI i ∧ z.2 u 4 = nI (cB (cntd (M (u + 3))) i) ∧ z.2 u 5 = nI (cB (fun m => decide (sRest (M g) m)) i) ∧ z.2 u 6 = nI (cB (abvB (M (u + 3))) i) ∧ (∀ k, k ≠ 4 → k ≠ 5 → k ≠ 6 → z.2 u k = M u k) ∧ Off (fun c => c = u) M z.2) _ n (by omega) ?_ ?_ ?_
  · rintro i ⟨j, N⟩ hi ⟨h1, h2, h3, h4, h5, h6⟩
    dsimp only at h1 h2 h3 h4 h5 h6
    subst h1
    unfold f_X4_tally_l17
    dsimp only
    have eW : N (u + 3) = M (u + 3) := h6 (u + 3) (by omega)
    refine Ok.neg (by rw [h5 3 (by decide) (by decide) (by decide), hu3]; exact nI_ge hi (by omega)) ?_
    refine Ok.eqb (isCounted_c (by omega)) ?_
    rw [eW]
    have k1 : ∀ s2 : Int32, s2 = (if cntd (M (u + 3)) i then 1 else 0) → N u 4 + s2 = nI (cB (cntd (M (u + 3))) (i + 1)) := by
      intro s2 hs2
      rw [h2, hs2]
      show _ = nI (cB (cntd (M (u + 3))) i + _)
      by_cases hq : cntd (M (u + 3)) i
      · rw [if_pos hq, if_pos hq]
        exact nI_1 _
      · rw [if_neg hq, if_neg hq]
        exact nI_add _ 0
    have step1 : ∀ s2 : Int32, s2 = (if cntd (M (u + 3)) i then 1 else 0) → Ok (f_X4_tally_j43 u g (nI i) (N u 4) s2 N) (fun o => Sum.elim (fun z => z.1 = nI (i + 1) ∧ z.2 u 4 = nI (cB (cntd (M (u + 3))) (i + 1)) ∧ z.2 u 5 = nI (cB (fun m => decide (sRest (M g) m)) (i + 1)) ∧ z.2 u 6 = nI (cB (abvB (M (u + 3))) (i + 1)) ∧ (∀ k, k ≠ 4 → k ≠ 5 → k ≠ 6 → z.2 u k = M u k) ∧ Off (fun c => c = u) M z.2) (fun M' => M' u 4 = nI (cB (cntd (M (u + 3))) n) ∧ M' u 5 = nI (cB (fun m => decide (sRest (M g) m)) n) ∧ M' u 6 = nI (cB (abvB (M (u + 3))) n) ∧ (∀ k, k ≠ 4 → k ≠ 5 → k ≠ 6 → M' u k = M u k) ∧ Off (fun c => c = u) M M') o) := by
      intro s2 hs2
      unfold f_X4_tally_j43
      rw [stf_e]
      refine Ok.eqb rfl ?_
      have eG : mset N u 4 (N u 4 + s2) g = M g := by rw [mset_o hg]; exact h6 g hg
      refine Ok.eqb (isRest_c (by rw [eG]; exact hst) (by omega)) ?_
      rw [eG]
      have step2 : ∀ s3 : Int32, s3 = (if sRest (M g) i then 1 else 0) → Ok (f_X4_tally_j65 u g (nI i) (mset N u 4 (N u 4 + s2) u 5) s3 (mset N u 4 (N u 4 + s2))) (fun o => Sum.elim (fun z => z.1 = nI (i + 1) ∧ z.2 u 4 = nI (cB (cntd (M (u + 3))) (i + 1)) ∧ z.2 u 5 = nI (cB (fun m => decide (sRest (M g) m)) (i + 1)) ∧ z.2 u 6 = nI (cB (abvB (M (u + 3))) (i + 1)) ∧ (∀ k, k ≠ 4 → k ≠ 5 → k ≠ 6 → z.2 u k = M u k) ∧ Off (fun c => c = u) M z.2) (fun M' => M' u 4 = nI (cB (cntd (M (u + 3))) n) ∧ M' u 5 = nI (cB (fun m => decide (sRest (M g) m)) n) ∧ M' u 6 = nI (cB (abvB (M (u + 3))) n) ∧ (∀ k, k ≠ 4 → k ≠ 5 → k ≠ 6 → M' u k = M u k) ∧ Off (fun c => c = u) M M') o) := by
        intro s3 hs3
        unfold f_X4_tally_j65
        rw [stf_e]
        refine Ok.eqb rfl ?_
        refine Ok.eqb (rd_nI (by omega) (by decide)) ?_
        have eW2 : mset (mset N u 4 (N u 4 + s2)) u 5 (mset N u 4 (N u 4 + s2) u 5 + s3) (u + 3) = M (u + 3) := by rw [mset_o (by omega), mset_o (by omega)]; exact eW
        rw [eW2]
        have k3 : mset N u 4 (N u 4 + s2) u 5 + s3 = nI (cB (fun m => decide (sRest (M g) m)) (i + 1)) := by
          rw [mset_n (by decide), h3, hs3]
          show _ = nI (cB (fun m => decide (sRest (M g) m)) i + _)
          by_cases hq : sRest (M g) i
          · rw [if_pos hq, if_pos (decide_eq_true hq)]
            exact nI_1 _
          · rw [if_neg hq, if_neg (by simpa using hq)]
            exact nI_add _ 0
        have step3 : ∀ s4 : Int32, s4 = (if abvB (M (u + 3)) i then 1 else 0) → Ok (f_X4_tally_j88 u g (nI i) (mset (mset N u 4 (N u 4 + s2)) u 5 (mset N u 4 (N u 4 + s2) u 5 + s3) u 6) s4 (mset (mset N u 4 (N u 4 + s2)) u 5 (mset N u 4 (N u 4 + s2) u 5 + s3))) (fun o => Sum.elim (fun z => z.1 = nI (i + 1) ∧ z.2 u 4 = nI (cB (cntd (M (u + 3))) (i + 1)) ∧ z.2 u 5 = nI (cB (fun m => decide (sRest (M g) m)) (i + 1)) ∧ z.2 u 6 = nI (cB (abvB (M (u + 3))) (i + 1)) ∧ (∀ k, k ≠ 4 → k ≠ 5 → k ≠ 6 → z.2 u k = M u k) ∧ Off (fun c => c = u) M z.2) (fun M' => M' u 4 = nI (cB (cntd (M (u + 3))) n) ∧ M' u 5 = nI (cB (fun m => decide (sRest (M g) m)) n) ∧ M' u 6 = nI (cB (abvB (M (u + 3))) n) ∧ (∀ k, k ≠ 4 → k ≠ 5 → k ≠ 6 → M' u k = M u k) ∧ Off (fun c => c = u) M M') o) := by
          intro s4 hs4
          unfold f_X4_tally_j88
          rw [stf_e]
          refine Ok.eqb rfl ?_
          refine Ok.of ⟨nI_1 i, ?_, ?_, ?_, fun k g4 g5 g6 => ?_, ((h6.set rfl).set rfl).set rfl⟩
          · show mset _ u 6 _ u 4 = _
            rw [mset_n (by decide), mset_n (by decide), mset_s]
            exact k1 s2 hs2
          · show mset _ u 6 _ u 5 = _
            rw [mset_n (by decide), mset_s]
            exact k3
          · show mset _ u 6 _ u 6 = _
            rw [mset_s, mset_n (by decide), mset_n (by decide), h4, hs4]
            show _ = nI (cB (abvB (M (u + 3))) i + _)
            by_cases hq : abvB (M (u + 3)) i
            · rw [if_pos hq, if_pos hq]
              exact nI_1 _
            · rw [if_neg hq, if_neg hq]
              exact nI_add _ 0
          · show mset _ u 6 _ u k = _
            rw [mset_n g6, mset_n g5, mset_n g4]
            exact h5 k g4 g5 g6
        refine Ok.ite (fun c => step3 1 ?_) (fun c => step3 0 ?_)
        · unfold abvB
          rw [if_pos (decide_eq_true c)]
        · unfold abvB
          rw [if_neg (by simpa using c)]
      by_cases hq : sRest (M g) i
      · rw [if_pos hq]
        exact Ok.neg (by decide) (step2 1 (by rw [if_pos hq]))
      · rw [if_neg hq]
        exact Ok.pos rfl (step2 0 (by rw [if_neg hq]))
    by_cases hq : cntd (M (u + 3)) i
    · rw [if_pos hq]
      exact Ok.neg (by decide) (step1 1 (by rw [if_pos hq]))
    · rw [if_neg hq]
      exact Ok.pos rfl (step1 0 (by rw [if_neg hq]))
  · rintro ⟨j, N⟩ ⟨h1, h2, h3, h4, h5, h6⟩
    dsimp only at h1 h2 h3 h4 h5 h6
    subst h1
    unfold f_X4_tally_l17
    dsimp only
    refine Ok.pos (by rw [h5 3 (by decide) (by decide) (by decide), hu3]; exact nI_le (Nat.le_refl _) (by omega)) (Ok.of ?_)
    exact ⟨h2, h3, h4, h5, h6⟩
  · refine ⟨rfl, ?_, ?_, ?_, fun k g4 g5 g6 => ?_, (((Off.rf (cs := fun c => c = u)).set rfl).set rfl).set rfl⟩
    · show mset _ u 6 0 u 4 = _
      rw [mset_n (by decide), mset_n (by decide), mset_s]
      rfl
    · show mset _ u 6 0 u 5 = _
      rw [mset_n (by decide), mset_s]
      rfl
    · show mset _ u 6 0 u 6 = _
      rw [mset_s]
      rfl
    · show mset _ u 6 0 u k = _
      rw [mset_n g6, mset_n g5, mset_n g4]
