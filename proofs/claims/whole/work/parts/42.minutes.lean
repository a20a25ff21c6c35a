/-! class: the minutes of a view -/
/-- memory that agrees but for some cells -/
def Off (cs : Nat → Prop) (M M' : Mem) : Prop := ∀ c, ¬ cs c → M' c = M c
theorem Off.rf {cs : Nat → Prop} {M : Mem} : Off cs M M := fun _ _ => rfl
theorem Off.tr {cs : Nat → Prop} {M M' M'' : Mem} (h : Off cs M M') (h2 : Off cs M' M'') : Off cs M M'' := fun c hc => (h2 c hc).trans (h c hc)
theorem Off.set {cs : Nat → Prop} {M M' : Mem} {c k : Nat} {v : Int32} (h : Off cs M M') (hc : cs c) : Off cs M (mset M' c k v) := fun d hd => by
  rw [mset_o (fun q => hd (by rw [q]; exact hc))]
  exact h d hd
theorem Off.mono {cs ds : Nat → Prop} {M M' : Mem} (h : Off cs M M') (hd : ∀ c, cs c → ds c) : Off ds M M' := fun c hc => h c (fun q => hc (hd c q))
/-- the arms are moved -/
theorem moveArms_c {M : Mem} {u g n : Nat} (hn : n ≤ 200) (hM : M 1 4 = nI n) (hst : stOK (M g)) (hg : g < u ∨ u + 3 < g) (hu : 5 < u) :
    Ok (f_X4_moveArms u 1 g M) (fun M' => (∀ m, m < n → M' (u + 1) m = sArm (M 2) (M g 8) (m + 1) ∧ M' (u + 2) m = sArm (M 2) (M g 9) (m + 1)) ∧ M' u 3 = nI n ∧ (∀ k, k ≠ 3 → M' u k = M u k) ∧ Off (fun c => c = u ∨ c = u + 1 ∨ c = u + 2) M M') := by
  unfold f_X4_moveArms
  rw [stf_e]
  refine Ok.eqb rfl ?_
  refine Ok.bind (P := fun M' => (∀ m, m < n → M' (u + 1) m = sArm (M 2) (M g 8) (m + 1) ∧ M' (u + 2) m = sArm (M 2) (M g 9) (m + 1)) ∧ M' u = mset M u 3 (nI n) u ∧ Off (fun c => c = u ∨ c = u + 1 ∨ c = u + 2) M M') ?_ ?_
  · refine loop_FU (fun i z => z.1 = sArm (M 2) (M g 8) i ∧ z.2.1 = sArm (M 2) (M g 9) i ∧ z.2.2.1 = nI i ∧ (∀ m, m < i → z.2.2.2 (u + 1) m = sArm (M 2) (M g 8) (m + 1) ∧ z.2.2.2 (u + 2) m = sArm (M 2) (M g 9) (m + 1)) ∧ z.2.2.2 u = mset M u 3 (nI n) u ∧ Off (fun c => c = u ∨ c = u + 1 ∨ c = u + 2) M z.2.2.2) _ n (by omega) ?_ ?_ ?_
    · rintro i ⟨f, s, j, N⟩ hi ⟨h1, h2, h3, h4, h5, h6⟩
      dsimp only at h1 h2 h3 h4 h5 h6
      subst h1; subst h2; subst h3
      unfold f_X4_moveArms_l16
      dsimp only
      have e3 : N u 3 = nI n := by rw [h5, mset_s]
      have eL : N 2 = M 2 := h6 2 (by omega)
      have eG : N g = M g := h6 g (by omega)
      rw [e3]
      refine Ok.neg (nI_ge hi (by omega)) ?_
      refine Ok.eqb (rd_nI (by omega) (by decide)) ?_
      refine Ok.eqb (show rd N g 10 8 = some (N g 8) from rd_nI (k := 8) (by decide) (by decide)) ?_
      refine Ok.eqb (moved_c (by rw [eG]; exact hst.2.2.2.2.2.2.2.2.1.1)) ?_
      refine Ok.eqb (rd_nI (by omega) (by decide)) ?_
      refine Ok.eqb (show rd N g 10 9 = some (N g 9) from rd_nI (k := 9) (by decide) (by decide)) ?_
      refine Ok.eqb (moved_c (by rw [eG]; exact hst.2.2.2.2.2.2.2.2.2.1)) ?_
      refine Ok.eqb (wr_nI (by omega) (by decide)) ?_
      refine Ok.eqb (wr_nI (by omega) (by decide)) ?_
      refine Ok.of ?_
      rw [show 1 + 1 = 2 from rfl, eL, eG]
      refine ⟨rfl, rfl, nI_1 i, fun m hm => ?_, ?_, ?_⟩
      · show mset (mset N (u + 1) i _) (u + 2) i _ (u + 1) m = _ ∧ mset (mset N (u + 1) i _) (u + 2) i _ (u + 2) m = _
        rw [mset_o (c' := u + 1) (by omega)]
        by_cases hmi : m = i
        · subst hmi
          rw [mset_s, mset_s]
          exact ⟨rfl, rfl⟩
        · rw [mset_n hmi, mset_n hmi, mset_o (c' := u + 2) (by omega)]
          exact h4 m (by omega)
      · show mset (mset N (u + 1) i _) (u + 2) i _ u = _
        rw [mset_o (by omega), mset_o (by omega)]
        exact h5
      · exact (h6.set (Or.inr (Or.inl rfl))).set (Or.inr (Or.inr rfl))
    · rintro ⟨f, s, j, N⟩ ⟨h1, h2, h3, h4, h5, h6⟩
      dsimp only at h1 h2 h3 h4 h5 h6
      subst h3
      unfold f_X4_moveArms_l16
      dsimp only
      rw [show N u 3 = nI n by rw [h5, mset_s]]
      refine Ok.pos (nI_le (Nat.le_refl _) (by omega)) (Ok.of ?_)
      exact ⟨h4, h5, h6⟩
    · refine ⟨rfl, rfl, rfl, fun m hm => absurd hm (Nat.not_lt_zero m), ?_, ?_⟩
      · show mset M u 3 (M 1 4) u = _
        rw [hM]
      · exact Off.rf.set (Or.inl rfl)
  · rintro M' ⟨h1, h2, h3⟩
    exact Ok.of ⟨h1, by rw [h2, mset_s], fun k hk => by rw [h2, mset_n hk], h3⟩
