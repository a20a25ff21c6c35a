/-! model: minutes are laid, arms moved -/
theorem nI_mul (a b : Nat) : nI a * nI b = nI (a * b) := (Int32.ofNat_mul a b).symm
theorem n2 (a : Nat) : 2 * nI a = nI (2 * a) := nI_mul 2 a
theorem n12 (a : Nat) : 1 + 2 * nI a = nI (1 + 2 * a) := by rw [n2]; exact nI_add 1 (2 * a)
theorem n22 (a : Nat) : 1 + 2 * nI a + 1 = nI (2 + 2 * a) := by rw [n12, nI_1]; exact congrArg nI (by omega)
def zM (lv wd : Nat → Int32) (n : Nat) (M : Mem) : Prop := n ≤ 200 ∧ M 91 0 = nI n ∧ ∀ m, m < n → M 91 (1 + 2 * m) = lv m ∧ M 91 (2 + 2 * m) = wd m
theorem lay_copy {M : Mem} {lv wd : Nat → Int32} {n more : Nat} {loud : Int32} (hz : zM lv wd n M) (hm : n + more ≤ 300) (h6 : M 90 6 = nI (n + more)) :
    Ok (loopN (f_X9_lay_l14 loud) FU (0, M)) (fun N => (∀ m, m < n + more → N 94 m = xLv lv n loud m ∧ N 95 m = xWd wd n m) ∧ Off (fun c => c = 94 ∨ c = 95) M N) := by
  refine loop_FU (fun i z => z.1 = nI i ∧ (∀ m, m < i → z.2 94 m = xLv lv n loud m ∧ z.2 95 m = xWd wd n m) ∧ Off (fun c => c = 94 ∨ c = 95) M z.2) _ (n + more) (by omega) ?_ ?_ ⟨rfl, fun m hm => absurd hm (Nat.not_lt_zero m), Off.rf⟩
  · rintro i ⟨j, N⟩ hi ⟨h1, h2, h4⟩
    dsimp only at h1 h2 h4
    subst h1
    unfold f_X9_lay_l14
    dsimp only
    have hn := hz.1
    refine Ok.neg (by rw [h4 90 (by omega), h6]; exact nI_ge hi (by omega)) ?_
    have e91 : N 91 = M 91 := h4 91 (by omega)
    refine Ok.eqb (show rd N 91 432 0 = some (N 91 0) from rd_nI (k := 0) (by decide) (by decide)) ?_
    rw [e91, hz.2.1]
    have fin : ∀ a b : Int32, a = xLv lv n loud i → b = xWd wd n i → Ok (some (Sum.inl ((nI i + 1, mset (mset N 94 i a) 95 i b) : Int32 × Mem)) : Option ((Int32 × Mem) ⊕ Mem)) (fun o => Sum.elim (fun z => z.1 = nI (i + 1) ∧ (∀ m, m < i + 1 → z.2 94 m = xLv lv n loud m ∧ z.2 95 m = xWd wd n m) ∧ Off (fun c => c = 94 ∨ c = 95) M z.2) (fun N => (∀ m, m < n + more → N 94 m = xLv lv n loud m ∧ N 95 m = xWd wd n m) ∧ Off (fun c => c = 94 ∨ c = 95) M N) o) := by
      intro a b ha hb
      refine Ok.of ⟨nI_1 i, fun m hm => ?_, (h4.set (Or.inl rfl)).set (Or.inr rfl)⟩
      dsimp only
      by_cases hmi : m = i
      · subst hmi
        rw [mset_s, mset_o (by decide), mset_s]
        exact ⟨ha, hb⟩
      · rw [mset_n hmi, mset_o (c' := 94) (by decide), mset_n hmi, mset_o (c' := 95) (by decide)]
        exact h2 m (by omega)
    unfold f_X9_lay_j37 f_X9_lay_j63 f_X9_lay_j90
    refine Ok.ite (fun c => ?_) (fun c => ?_)
    · have hc : n ≤ i := (n_le (by omega) (by omega)).mp c
      refine Ok.pos rfl ?_
      refine Ok.eqb (wr_nI (by omega) (by decide)) ?_
      refine Ok.pos rfl ?_
      refine Ok.eqb (wr_nI (by omega) (by decide)) (fin _ _ ?_ ?_)
      · unfold xLv
        rw [if_neg (by omega)]
      · unfold xWd
        rw [if_neg (by omega)]
    · have hc : i < n := by
        have : ¬ n ≤ i := fun q => c ((n_le (by omega) (by omega)).mpr q)
        omega
      refine Ok.neg (by decide) ?_
      rw [n12]
      refine Ok.eqb (rd_nI (by omega) (by decide)) ?_
      refine Ok.eqb (wr_nI (by omega) (by decide)) ?_
      refine Ok.neg (by decide) ?_
      rw [nI_1, show 1 + 2 * i + 1 = 2 + 2 * i by omega]
      refine Ok.eqb (rd_nI (by omega) (by decide)) ?_
      refine Ok.eqb (wr_nI (by omega) (by decide)) (fin _ _ ?_ ?_)
      · unfold xLv
        rw [if_pos hc, e91]
        exact (hz.2.2 i hc).1
      · unfold xWd
        rw [if_pos hc, mset_o (by decide), e91]
        exact (hz.2.2 i hc).2
  · rintro ⟨j, N⟩ ⟨h1, h2, h4⟩
    dsimp only at h1 h2 h4
    subst h1
    unfold f_X9_lay_l14
    dsimp only
    exact Ok.pos (by rw [h4 90 (by omega), h6]; exact nI_le (Nat.le_refl _) (by omega)) (Ok.of ⟨h2, h4⟩)
theorem dvI_t {a t : Int32} (ht : 1 ≤ t.toInt) : dvI a t = some (a / t) := by
  unfold dvI
  rw [if_neg]
  intro q
  rw [q] at ht
  exact absurd ht (by decide)
theorem lay_arms {M : Mem} {lv : Nat → Int32} {n : Nat} (hn : n ≤ 300) (h6 : M 90 6 = nI n) (hl : ∀ m, m < n → M 94 m = lv m) (hst : stOK (mSt M)) :
    Ok (f_X9_layArms M) (fun N => (∀ m, m < n → N 96 m = dF lv (mSt M) m ∧ N 97 m = dS lv (mSt M) m) ∧ Off (fun c => c = 96 ∨ c = 97) M N) := by
  unfold f_X9_layArms
  refine Ok.bind (P := fun N => (∀ m, m < n → N 96 m = dF lv (mSt M) m ∧ N 97 m = dS lv (mSt M) m) ∧ Off (fun c => c = 96 ∨ c = 97) M N) ?_ (fun r h => Ok.of h)
  refine loop_FU (fun i z => z.1 = nI i ∧ (∀ m, m < i → z.2 96 m = dF lv (mSt M) m ∧ z.2 97 m = dS lv (mSt M) m) ∧ Off (fun c => c = 96 ∨ c = 97) M z.2) _ n (by omega) ?_ ?_ ⟨rfl, fun m hm => absurd hm (Nat.not_lt_zero m), Off.rf⟩
  · rintro i ⟨j, N⟩ hi ⟨h1, h2, h4⟩
    dsimp only at h1 h2 h4
    subst h1
    unfold f_X9_layArms_l2
    dsimp only
    refine Ok.neg (by rw [h4 90 (by omega), h6]; exact nI_ge hi (by omega)) ?_
    have eS : mSt N = mSt M := by unfold mSt; rw [h4 91 (by omega)]
    have main : ∀ p q : Int32, p = sArm lv (mSt M 8) i → q = sArm lv (mSt M 9) i → Ok (f_X9_layArms_j43 (nI i) p q N) (fun o => Sum.elim (fun z => z.1 = nI (i + 1) ∧ (∀ m, m < i + 1 → z.2 96 m = dF lv (mSt M) m ∧ z.2 97 m = dS lv (mSt M) m) ∧ Off (fun c => c = 96 ∨ c = 97) M z.2) (fun N => (∀ m, m < n → N 96 m = dF lv (mSt M) m ∧ N 97 m = dS lv (mSt M) m) ∧ Off (fun c => c = 96 ∨ c = 97) M N) o) := by
      intro p q hp hq
      unfold f_X9_layArms_j43
      refine Ok.eqb (rd_nI (by omega) (by decide)) ?_
      refine Ok.eqb (show f_X9_of 8 N = some (mSt N 8) from of_m 8 (by decide)) ?_
      rw [eS]
      refine Ok.eqb (dvI_t hst.2.2.2.2.2.2.2.2.1.1) ?_
      refine Ok.eqb (wr_nI (by omega) (by decide)) ?_
      refine Ok.eqb (rd_nI (by omega) (by decide)) ?_
      refine Ok.eqb (show f_X9_of 9 _ = some (mSt _ 9) from of_m 9 (by decide)) ?_
      have eS2 : ∀ v, mSt (mset N 96 i v) = mSt M := fun v => by
        rw [← eS]
        unfold mSt
        rw [mset_o (by decide)]
      rw [eS2]
      refine Ok.eqb (dvI_t hst.2.2.2.2.2.2.2.2.2.1) ?_
      refine Ok.eqb (wr_nI (by omega) (by decide)) (Ok.of ⟨nI_1 i, fun m hm => ?_, (h4.set (Or.inl rfl)).set (Or.inr rfl)⟩)
      dsimp only
      rw [mset_o (c' := 94) (by decide), h4 94 (by omega), hl i hi]
      by_cases hmi : m = i
      · subst hmi
        rw [mset_s, mset_o (c' := 96) (by decide), mset_s, hp, hq]
        exact ⟨rfl, rfl⟩
      · rw [mset_n hmi, mset_o (c' := 97) (by decide), mset_o (c' := 96) (by decide), mset_n hmi]
        exact h2 m (by omega)
    unfold f_X9_layArms_j26
    by_cases h0 : i = 0
    · subst h0
      exact Ok.pos rfl (Ok.pos rfl (main 0 0 rfl rfl))
    · have hne : ¬ nI i = 0 := nI_ne0 (by omega) (by omega)
      obtain ⟨k, rfl⟩ : ∃ k, i = k + 1 := ⟨i - 1, by omega⟩
      refine Ok.neg hne ?_
      rw [nI_pred]
      refine Ok.eqb (rd_nI (by omega) (by decide)) (Ok.neg hne ?_)
      refine Ok.eqb (rd_nI (by omega) (by decide)) (main _ _ (h2 k (by omega)).1 (h2 k (by omega)).2)
  · rintro ⟨j, N⟩ ⟨h1, h2, h4⟩
    dsimp only at h1 h2 h4
    subst h1
    unfold f_X9_layArms_l2
    dsimp only
    exact Ok.pos (by rw [h4 90 (by omega), h6]; exact nI_le (Nat.le_refl _) (by omega)) (Ok.of ⟨h2, h4⟩)
/-- why a minute is not above -/
theorem whyNot_m {M : Mem} {lv wd : Nat → Int32} {n v : Nat} (hn : n ≤ 300) (hv : v < n) (hw : ∀ m, m < n → M 95 m = wd m) (hs : M 97 v = dS lv (mSt M) v) (hst : stOK (mSt M)) : f_X9_whyNot (nI v) M = some (sWhy lv wd (mSt M) v) := by
  have key : Ok (f_X9_whyNot (nI v) M) (fun r => r = sWhy lv wd (mSt M) v) := by
    unfold f_X9_whyNot
    refine Ok.eqb (rd_nI (by omega) (by decide)) ?_
    refine Ok.eqb (show f_X9_of 4 M = some (mSt M 4) from of_m 4 (by decide)) ?_
    rw [hw v hv]
    have h5 := hst.2.2.2.2.2.1
    refine Ok.ite (fun c => ?_) (fun c => ?_)
    · have hno : ¬ mSt M 4 ≤ wd v := n_le' c
      refine Ok.bind (P := fun o => (o = .inl () ∧ ¬ (0 < sLw wd (mSt M) v ∧ v + 1 ≤ sLw wd (mSt M) v + (mSt M 5).toInt.toNat)) ∨ (o = .inr 2 ∧ (0 < sLw wd (mSt M) v ∧ v + 1 ≤ sLw wd (mSt M) v + (mSt M 5).toInt.toNat))) ?_ ?_
      · refine loop_FU (fun i z => z = nI (v - i) - 1 ∧ sLw wd (mSt M) v = sLw wd (mSt M) (v - i)) _ (min v (mSt M 5).toInt.toNat) (by omega) ?_ ?_ ⟨rfl, rfl⟩
        · rintro i z hi ⟨h1, h2⟩
          subst h1
          unfold f_X9_whyNot_l20
          obtain ⟨k, hk⟩ : ∃ k, v - i = k + 1 := ⟨v - i - 1, by omega⟩
          rw [hk] at h2 ⊢
          rw [nI_pred]
          refine Ok.neg (nI_pos (by omega)) ?_
          refine Ok.eqb (show f_X9_of 5 M = some (mSt M 5) from of_m 5 (by decide)) ?_
          have e5 : (nI v - mSt M 5).toInt = (v : Int) - (mSt M 5).toInt := by
            rw [i_sub] <;> rw [i_nI (by omega)] <;> omega
          refine Ok.neg (fun q => by have := i_lt.mp q; rw [e5, i_nI (by omega)] at this; omega) ?_
          refine Ok.eqb (rd_nI (by omega) (by decide)) ?_
          refine Ok.eqb (show f_X9_of 4 M = some (mSt M 4) from of_m 4 (by decide)) ?_
          rw [hw k (by omega)]
          have unf : sLw wd (mSt M) (k + 1) = if mSt M 4 ≤ wd k then k + 1 else sLw wd (mSt M) k := rfl
          refine Ok.ite (fun c2 => Ok.of ⟨?_, ?_⟩) (fun c2 => Ok.of (Or.inr ⟨rfl, ?_⟩))
          · rw [show v - (i + 1) = k by omega]
            exact (Int32.sub_eq_add_neg _ _).symm
          · rw [h2, unf, if_neg (n_le' c2), show v - (i + 1) = k by omega]
          · rw [h2, unf, if_pos (le_n c2)]
            omega
        · rintro z ⟨h1, h2⟩
          subst h1
          unfold f_X9_whyNot_l20
          by_cases h0 : v - min v (mSt M 5).toInt.toNat = 0
          · rw [h0] at h2 ⊢
            refine Ok.pos (by decide) (Ok.of (Or.inl ⟨rfl, ?_⟩))
            rw [h2]
            exact fun q => Nat.lt_irrefl _ q.1
          · rw [nI_p1 (by omega)]
            refine Ok.neg (nI_pos (by omega)) ?_
            refine Ok.eqb (show f_X9_of 5 M = some (mSt M 5) from of_m 5 (by decide)) ?_
            have e5 : (nI v - mSt M 5).toInt = (v : Int) - (mSt M 5).toInt := by
              rw [i_sub] <;> rw [i_nI (by omega)] <;> omega
            refine Ok.pos (i_lt.mpr (by rw [e5, i_nI (by omega)]; omega)) (Ok.of (Or.inl ⟨rfl, ?_⟩))
            have := sLw_le wd (mSt M) (v - min v (mSt M 5).toInt.toNat)
            rw [h2]
            omega
      · rintro o (⟨rfl, ho⟩ | ⟨rfl, ho⟩)
        · show Ok (f_X9_whyNot_j57 (nI v) M) _
          unfold f_X9_whyNot_j57 sWhy
          rw [if_neg hno, if_neg ho]
          refine Ok.eqb (rd_nI (by omega) (by decide)) ?_
          refine Ok.eqb (limitOf_m hst (by omega)) ?_
          rw [hs]
          refine Ok.ite (fun c2 => Ok.of ?_) (fun c2 => Ok.of ?_)
          · rw [if_pos (show sArm lv (mSt M 9) (v + 1) ≤ 10 * sLim (mSt M) v from c2)]
          · rw [if_neg (show ¬ sArm lv (mSt M 9) (v + 1) ≤ 10 * sLim (mSt M) v from c2)]
        · refine Ok.of ?_
          unfold sWhy
          rw [if_neg hno, if_pos ho]
    · refine Ok.of ?_
      unfold sWhy
      rw [if_pos (le_n c)]
  obtain ⟨r, h1, h2⟩ := key
  rw [h1, h2]
