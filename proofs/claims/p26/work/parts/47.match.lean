/-! class: complaints are put in order and matched -/
theorem bst_m1 {b : Nat} (hb : b < 2 ^ 31) : (nI b - 1 = -1) ↔ b = 0 := nIm1 hb
theorem nI_p1 {b : Nat} (h : 0 < b) : nI b - 1 = nI (b - 1) := by
  obtain ⟨k, rfl⟩ : ∃ k, b = k + 1 := ⟨b - 1, by omega⟩
  exact nI_pred k
theorem nI_m1 {b : Nat} (h : 0 < b) : nI b + (-1) = nI (b - 1) := by
  rw [← Int32.sub_eq_add_neg]
  exact nI_p1 h
theorem bestFor_c {N : Mem} {y x cnt : Nat} {fs ls pk co : Nat → Int32} {a p : Int32} (hc : cnt ≤ 100) (hx : N x 6 = nI cnt)
    (hA : ∀ e, e < cnt → N (x + 1) e = fs e ∧ N (x + 2) e = ls e ∧ N (x + 4) e = pk e) (hco : ∀ e, e < cnt → N (y + 2) e = co e) :
    f_X3_bestFor y x a p N = some (nI (sBst fs ls pk co a p cnt) - 1) := by
  have key : Ok (f_X3_bestFor y x a p N) (fun r => r = nI (sBst fs ls pk co a p cnt) - 1) := by
    unfold f_X3_bestFor
    refine Ok.bind (P := fun r => r = nI (sBst fs ls pk co a p cnt) - 1) ?_ (fun r h => Ok.of h)
    refine loop_FU (fun i z => z.1 = nI (sBst fs ls pk co a p i) - 1 ∧ z.2 = nI i) _ cnt (by omega) ?_ ?_ ?_
    · rintro i ⟨b, j⟩ hi ⟨h1, h2⟩
      dsimp only at h1 h2
      subst h1; subst h2
      unfold f_X3_bestFor_l6
      dsimp only
      have hle := sBst_le fs ls pk co a p i
      refine Ok.neg (by rw [hx]; exact nI_ge hi (by omega)) ?_
      refine Ok.eqb (rd_nI (by omega) (by decide)) ?_
      rw [hco i hi]
      obtain ⟨h1, h2, h3⟩ := hA i hi
      have keep : sBst fs ls pk co a p (i + 1) = sBst fs ls pk co a p i → Ok (f_X3_bestFor_j101 y x a p (nI (sBst fs ls pk co a p i) - 1) (nI i) N) (fun o => Sum.elim (fun z => z.1 = nI (sBst fs ls pk co a p (i + 1)) - 1 ∧ z.2 = nI (i + 1)) (fun r => r = nI (sBst fs ls pk co a p cnt) - 1) o) := by
        intro hk
        unfold f_X3_bestFor_j101
        exact Ok.of ⟨by rw [hk], nI_1 i⟩
      have take : sBst fs ls pk co a p (i + 1) = i + 1 → Ok (f_X3_bestFor_j97 y x a p (nI i) N) (fun o => Sum.elim (fun z => z.1 = nI (sBst fs ls pk co a p (i + 1)) - 1 ∧ z.2 = nI (i + 1)) (fun r => r = nI (sBst fs ls pk co a p cnt) - 1) o) := by
        intro hk
        unfold f_X3_bestFor_j97 f_X3_bestFor_j101
        exact Ok.of ⟨by show nI i = _; rw [hk, nI_pred], nI_1 i⟩
      have unf : sBst fs ls pk co a p (i + 1) = if co i = -1 ∧ fs i ≤ a ∧ a - p ≤ ls i ∧ (sBst fs ls pk co a p i = 0 ∨ pk (sBst fs ls pk co a p i - 1) < pk i) then i + 1 else sBst fs ls pk co a p i := rfl
      have nle : ∀ u v : Int32, u < v → ¬ v ≤ u := fun u v q r => by have := i_lt.mp q; have := i_le.mp r; omega
      have nlt : ∀ u v : Int32, ¬ u < v → v ≤ u := fun u v q => i_le.mpr (by have : ¬ u.toInt < v.toInt := fun r => q (i_lt.mpr r); omega)
      have nlt2 : ∀ u v : Int32, ¬ u ≤ v → v < u := fun u v q => i_lt.mpr (by have : ¬ u.toInt ≤ v.toInt := fun r => q (i_le.mpr r); omega)
      unfold f_X3_bestFor_j31 f_X3_bestFor_j61 f_X3_bestFor_j62
      refine Ok.ite (fun cf => ?_) (fun cf => ?_)
      · refine Ok.eqb (rd_nI (by omega) (by decide)) ?_
        rw [h1]
        refine Ok.ite (fun c1 => ?_) (fun c1 => ?_)
        · exact Ok.neg (by decide) (Ok.pos rfl (keep (by rw [unf, if_neg]; rintro ⟨_, q, _⟩; exact nle _ _ c1 q)))
        · refine Ok.eqb (rd_nI (by omega) (by decide)) ?_
          rw [h2]
          refine Ok.ite (fun c2 => ?_) (fun c2 => ?_)
          · exact Ok.neg (by decide) (Ok.pos rfl (keep (by rw [unf, if_neg]; rintro ⟨_, _, q, _⟩; exact nle _ _ c2 q)))
          · refine Ok.neg (by decide) (Ok.neg (by decide) ?_)
            refine Ok.ite (fun c3 => ?_) (fun c3 => ?_)
            · exact take (by rw [unf, if_pos ⟨cf, nlt _ _ c1, nlt _ _ c2, Or.inl ((nIm1 (by omega)).mp c3)⟩])
            · have h0 : sBst fs ls pk co a p i ≠ 0 := fun q => c3 ((nIm1 (by omega)).mpr q)
              refine Ok.eqb (rd_nI (by omega) (by decide)) ?_
              rw [nI_p1 (by omega)]
              refine Ok.eqb (rd_nI (by omega) (by decide)) ?_
              rw [h3, (hA (sBst fs ls pk co a p i - 1) (by omega)).2.2, ← nI_p1 (by omega)]
              refine Ok.ite (fun c4 => ?_) (fun c4 => ?_)
              · refine keep (by rw [unf, if_neg]; rintro ⟨_, _, _, q⟩; rcases q with q | q; exact h0 q; exact nle _ _ q c4)
              · exact take (by rw [unf, if_pos ⟨cf, nlt _ _ c1, nlt _ _ c2, Or.inr (nlt2 _ _ c4)⟩])
      · have kp := keep (by rw [unf, if_neg]; rintro ⟨q, _⟩; exact cf q)
        refine Ok.eqb (rd_nI (by omega) (by decide)) ?_
        refine Ok.ite (fun c1 => Ok.pos rfl kp) (fun c1 => ?_)
        refine Ok.eqb (rd_nI (by omega) (by decide)) ?_
        exact Ok.ite (fun c1 => Ok.pos rfl kp) (fun c1 => Ok.pos rfl kp)
    · rintro ⟨b, j⟩ ⟨h1, h2⟩
      dsimp only at h1 h2
      subst h2
      unfold f_X3_bestFor_l6
      dsimp only
      exact Ok.pos (by rw [hx]; exact nI_le (Nat.le_refl _) (by omega)) (Ok.of h1)
    · exact ⟨rfl, rfl⟩
  obtain ⟨r, h1, h2⟩ := key
  rw [h1, h2]
/-- a list that stands in a cell -/
def inC (f : Nat → Int32) (l : List Nat) : Prop := ∀ (i k : Nat), l[i]? = some k → f i = nI k
theorem order_c {M : Mem} {y s nc : Nat} {cm : Nat → Int32} (hnc : nc ≤ 20) (h3 : M y 3 = nI nc) (hs : s + 4 ≠ y + 3) (hcm : ∀ k, k < nc → M (s + 4) k = cm k) (hr : ∀ k, k < nc → ∃ w, w ≤ 300 ∧ cm k = nI w) :
    Ok (f_X3_putInOrder y s M) (fun M' => inC (M' (y + 3)) (mL cm nc 301) ∧ Off (fun c => c = y + 3) M M') := by
  unfold f_X3_putInOrder
  refine Ok.bind (P := fun M' => inC (M' (y + 3)) (mL cm nc 301) ∧ Off (fun c => c = y + 3) M M') ?_ (fun r h => Ok.of h)
  refine loop_FU (fun i z => z.1 = nI i ∧ inC (z.2 (y + 3)) (mL cm i 301) ∧ Off (fun c => c = y + 3) M z.2) _ nc (by omega) ?_ ?_ ?_
  · rintro i ⟨j, N⟩ hi ⟨h1, h2, h4⟩
    dsimp only at h1 h2 h4
    subst h1
    unfold f_X3_putInOrder_l2
    dsimp only
    refine Ok.neg (by rw [h4 y (by omega), h3]; exact nI_ge hi (by omega)) ?_
    refine Ok.eqb (rd_nI (by omega) (by decide)) ?_
    obtain ⟨v, hv, ev⟩ := hr i hi
    rw [h4 (s + 4) hs, hcm i hi, ev]
    have e301 : (301 : Nat) = v + 1 + (300 - v) := by omega
    have hlen := mL_len (cm := cm) (c := i) (fun k hk => hr k (by omega))
    have hl1 : mL cm i 301 = mL cm i (v + 1) ++ mR cm i v (300 - v) := by
      have := mL_add cm i v (300 - v)
      rw [← e301] at this
      exact this
    have hl2 : mL cm (i + 1) 301 = mL cm i (v + 1) ++ i :: mR cm i v (300 - v) := by
      have := mL_new (cm := cm) (c := i) (v := v) (d := 300 - v) (by omega) (by omega) ev
      rw [← e301] at this
      exact this
    rw [hl1] at h2 hlen
    rw [List.length_append] at hlen
    rw [hl2]
    have hlow : ∀ j k, (mL cm i (v + 1))[j]? = some k → k < i ∧ ∃ w, w ≤ v ∧ cm k = nI w := fun j k q => by
      obtain ⟨a, w, b, c⟩ := mL_mem (List.mem_of_getElem? q)
      exact ⟨a, w, by omega, c⟩
    have hhigh : ∀ j k, (mR cm i v (300 - v))[j]? = some k → k < i ∧ ∃ w, v < w ∧ w ≤ 300 ∧ cm k = nI w := fun j k q => by
      obtain ⟨a, w, b, b2, c⟩ := mR_mem (List.mem_of_getElem? q)
      exact ⟨a, w, b, by omega, c⟩
    generalize mL cm i (v + 1) = A at hl1 hl2 h2 hlen hlow ⊢
    generalize mR cm i v (300 - v) = R at hl1 hl2 h2 hlen hhigh ⊢
    refine Ok.bind (P := fun o => o.1 = nI A.length ∧ (∀ j, j < A.length → o.2 (y + 3) j = N (y + 3) j) ∧ (∀ j, A.length ≤ j → j < i → o.2 (y + 3) (j + 1) = N (y + 3) j) ∧ Off (fun c => c = y + 3) M o.2) ?_ ?_
    · refine loop_FU (fun k z => z.1 = nI (i - k) ∧ (∀ j, j < i - k → z.2 (y + 3) j = N (y + 3) j) ∧ (∀ j, i - k ≤ j → j < i → z.2 (y + 3) (j + 1) = N (y + 3) j) ∧ Off (fun c => c = y + 3) M z.2) _ R.length (by omega) ?_ ?_ ?_
      · rintro k ⟨j, K⟩ hk ⟨g1, g2, g3, g4⟩
        dsimp only at g1 g2 g3 g4
        subst g1
        unfold f_X3_putInOrder_l20
        dsimp only
        refine Ok.neg (fun q => by have := (n_le (b := 0) (by omega) (by decide)).mp q; omega) ?_
        rw [nI_p1 (by omega)]
        refine Ok.eqb (rd_nI (by omega) (by decide)) ?_
        rw [g2 _ (by omega)]
        obtain ⟨c, hc⟩ : ∃ c, R[i - k - 1 - A.length]? = some c := ⟨_, List.getElem?_eq_getElem (by omega)⟩
        have hNc : N (y + 3) (i - k - 1) = nI c := h2 (i - k - 1) c (by rw [List.getElem?_append_right (by omega)]; exact hc)
        obtain ⟨hci, w, hw1, hw2, ew⟩ := hhigh _ _ hc
        rw [hNc]
        refine Ok.eqb (rd_nI (by omega) (by decide)) ?_
        rw [g4 (s + 4) hs, hcm c (by omega), ew]
        refine Ok.neg (fun q => by have := (n_le (by omega) (by omega)).mp q; omega) ?_
        refine Ok.eqb (rd_nI (by omega) (by decide)) ?_
        refine Ok.eqb (wr_nI (by omega) (by decide)) (Ok.of ⟨?_, fun j hj => ?_, fun j hj1 hj2 => ?_, g4.set rfl⟩)
        · exact (nI_m1 (by omega)).trans (congrArg nI (by omega))
        · show mset _ _ _ _ _ j = _
          rw [mset_n (by omega)]
          exact g2 j (by omega)
        · show mset _ _ _ _ _ (j + 1) = _
          by_cases hjk : j + 1 = i - k
          · rw [hjk, mset_s, g2 _ (by omega)]
            exact congrArg _ (by omega)
          · rw [mset_n hjk]
            exact g3 j (by omega) hj2
      · rintro ⟨j, K⟩ ⟨g1, g2, g3, g4⟩
        dsimp only at g1 g2 g3 g4
        subst g1
        unfold f_X3_putInOrder_l20
        dsimp only
        have eA : i - R.length = A.length := by omega
        rw [eA] at g2 g3 ⊢
        refine Ok.ite (fun c => Ok.of ⟨rfl, g2, g3, g4⟩) (fun c => ?_)
        have h0 : 0 < A.length := by
          rcases Nat.eq_zero_or_pos A.length with q | q
          · rw [q] at c
            exact absurd (Int32.le_refl _) c
          · exact q
        rw [nI_p1 h0]
        refine Ok.eqb (rd_nI (by omega) (by decide)) ?_
        rw [g2 _ (by omega)]
        obtain ⟨c, hc⟩ : ∃ c, A[A.length - 1]? = some c := ⟨_, List.getElem?_eq_getElem (by omega)⟩
        have hNc : N (y + 3) (A.length - 1) = nI c := h2 (A.length - 1) c (by rw [List.getElem?_append_left (by omega)]; exact hc)
        obtain ⟨hci, w, hw1, ew⟩ := hlow _ _ hc
        rw [hNc]
        refine Ok.eqb (rd_nI (by omega) (by decide)) ?_
        rw [g4 (s + 4) hs, hcm c (by omega), ew]
        exact Ok.pos ((n_le (by omega) (by omega)).mpr hw1) (Ok.of ⟨rfl, g2, g3, g4⟩)
      · exact ⟨rfl, fun j hj => rfl, fun j hj1 hj2 => absurd hj1 (by omega), h4⟩
    · rintro ⟨pl, K⟩ ⟨g1, g2, g3, g4⟩
      dsimp only at g1 g2 g3 g4
      subst g1
      unfold f_X3_putInOrder_j65
      dsimp only
      refine Ok.eqb (wr_nI (by omega) (by decide)) (Ok.of ⟨nI_1 i, fun j k hj => ?_, g4.set rfl⟩)
      show mset _ _ _ _ _ j = _
      rcases Nat.lt_trichotomy j A.length with hlt | heq | hgt
      · rw [mset_n (by omega), g2 j hlt]
        refine h2 j k ?_
        rw [List.getElem?_append_left hlt] at hj ⊢
        exact hj
      · subst heq
        rw [mset_s]
        rw [List.getElem?_append_right (Nat.le_refl _), Nat.sub_self] at hj
        simp only [List.getElem?_cons_zero, Option.some.injEq] at hj
        rw [hj]
      · obtain ⟨j, rfl⟩ : ∃ j', j = j' + 1 := ⟨j - 1, by omega⟩
        rw [List.getElem?_append_right (by omega), show j + 1 - A.length = (j - A.length) + 1 by omega, List.getElem?_cons_succ] at hj
        have hjR : j - A.length < R.length := (List.getElem?_eq_some_iff.mp hj).1
        rw [mset_n (by omega), g3 j (by omega) (by omega)]
        exact h2 j k (by rw [List.getElem?_append_right (by omega)]; exact hj)
  · rintro ⟨j, N⟩ ⟨h1, h2, h4⟩
    dsimp only at h1 h2 h4
    subst h1
    unfold f_X3_putInOrder_l2
    dsimp only
    exact Ok.pos (by rw [h4 y (by omega), h3]; exact nI_le (Nat.le_refl _) (by omega)) (Ok.of ⟨h2, h4⟩)
  · refine ⟨rfl, fun i k q => ?_, Off.rf⟩
    have : (mL cm 0 301)[i]? = none := by
      have hl := mL_len (cm := cm) (c := 0) (fun k hk => absurd hk (Nat.not_lt_zero k))
      exact List.getElem?_eq_none (by omega)
    rw [this] at q
    cases q
