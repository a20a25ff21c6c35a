/-! exceedances: a scan over the minutes -/
def xNa (g : Nat) (av : Nat → Bool) : Nat → Nat
  | 0 => g
  | m + 1 => if av m then 0 else xNa g av m + 1
def xBg (g : Nat) (av : Nat → Bool) (m : Nat) : Bool := av m && decide (g ≤ xNa g av m)
def xCnt (g : Nat) (av : Nat → Bool) : Nat → Nat
  | 0 => 0
  | m + 1 => xCnt g av m + (if xBg g av m then 1 else 0)
def xFst (g : Nat) (av : Nat → Bool) : Nat → Nat → Int32
  | 0 => fun _ => 0
  | m + 1 => if xBg g av m then upd (xFst g av m) (xCnt g av m) (nI m) else xFst g av m
def xLst (g : Nat) (av : Nat → Bool) : Nat → Nat → Int32
  | 0 => fun _ => 0
  | m + 1 => if av m then upd (xLst g av m) (xCnt g av (m + 1) - 1) (nI m) else xLst g av m
def xAbo (g : Nat) (av : Nat → Bool) : Nat → Nat → Int32
  | 0 => fun _ => 0
  | m + 1 => if av m then upd (xAbo g av m) (xCnt g av (m + 1) - 1) ((if xBg g av m then 0 else xAbo g av m (xCnt g av (m + 1) - 1)) + 1) else xAbo g av m
def xPk (g : Nat) (av : Nat → Bool) (F : Nat → Int32) : Nat → Nat → Int32
  | 0 => fun _ => 0
  | m + 1 => if av m then upd (xPk g av F m) (xCnt g av (m + 1) - 1) (mxI (if xBg g av m then 0 else xPk g av F m (xCnt g av (m + 1) - 1)) (F m)) else xPk g av F m
def xWt (g : Nat) (av : Nat → Bool) (Wt : Nat → Int32) : Nat → Nat → Int32
  | 0 => fun _ => 0
  | m + 1 => if av m then upd (xWt g av Wt m) (xCnt g av (m + 1) - 1) ((if xBg g av m then 0 else xWt g av Wt m (xCnt g av (m + 1) - 1)) + Wt m) else xWt g av Wt m
theorem xCnt_b {g : Nat} {av : Nat → Bool} (hg : 1 ≤ g) : ∀ m, (xNa g av m < g → 2 * xCnt g av m ≤ m + 1 ∧ 1 ≤ xCnt g av m) ∧ (g ≤ xNa g av m → 2 * xCnt g av m ≤ m)
  | 0 => ⟨fun h => absurd h (Nat.lt_irrefl _), fun _ => Nat.le_refl 0⟩
  | m + 1 => by
    have ih := xCnt_b (g := g) (av := av) hg m
    unfold xCnt xNa xBg
    cases hav : av m with
    | true =>
      simp only [Bool.true_and, if_true]
      by_cases h : g ≤ xNa g av m
      · have := ih.2 h
        rw [decide_eq_true h]
        simp only [if_true]
        omega
      · have := ih.1 (by omega)
        rw [decide_eq_false h]
        simp only [Bool.false_eq_true, if_false]
        omega
    | false =>
      simp only [Bool.false_and, Bool.false_eq_true, if_false]
      omega
theorem xCnt_le {g : Nat} {av : Nat → Bool} (hg : 1 ≤ g) (m : Nat) : 2 * xCnt g av m ≤ m + 1 := by
  have h := xCnt_b (g := g) (av := av) hg m
  rcases Nat.lt_or_ge (xNa g av m) g with h1 | h1
  · exact (h.1 h1).1
  · have := h.2 h1
    omega
theorem xBg_b {g : Nat} {av : Nat → Bool} (hg : 1 ≤ g) {m : Nat} (h : xBg g av m = true) : av m = true ∧ 2 * xCnt g av m ≤ m ∧ xCnt g av (m + 1) = xCnt g av m + 1 := by
  have h9 := h
  unfold xBg at h
  simp only [Bool.and_eq_true, decide_eq_true_eq] at h
  refine ⟨h.1, (xCnt_b hg m).2 h.2, ?_⟩
  show xCnt g av m + _ = _
  rw [if_pos h9]
theorem xNb_b {g : Nat} {av : Nat → Bool} (hg : 1 ≤ g) {m : Nat} (h : xBg g av m = false) : xCnt g av (m + 1) = xCnt g av m ∧ (av m = true → 1 ≤ xCnt g av m ∧ xNa g av m < g) := by
  refine ⟨?_, fun ha => ?_⟩
  · show xCnt g av m + _ = _
    rw [if_neg (by rw [h]; decide)]
    rfl
  · unfold xBg at h
    rw [ha] at h
    simp only [Bool.true_and, decide_eq_false_iff_not] at h
    exact ⟨((xCnt_b hg m).1 (by omega)).2, by omega⟩
theorem xF_rng {g : Nat} {av : Nat → Bool} (hg : 1 ≤ g) : ∀ m e, e < xCnt g av m → ∃ a b, xFst g av m e = nI a ∧ xLst g av m e = nI b ∧ a ≤ b ∧ b < m
  | 0, e, h => absurd h (Nat.not_lt_zero e)
  | m + 1, e, h => by
    have ih := xF_rng (g := g) (av := av) hg m
    cases hb : xBg g av m with
    | true =>
      obtain ⟨ha, -, hc⟩ := xBg_b hg hb
      rw [hc] at h
      unfold xFst xLst
      rw [hb, ha, hc, if_pos rfl, if_pos rfl, Nat.add_sub_cancel]
      by_cases he : e = xCnt g av m
      · subst he
        rw [upd_s, upd_s]
        exact ⟨m, m, rfl, rfl, Nat.le_refl _, Nat.lt_succ_self _⟩
      · obtain ⟨a, b, h1, h2, h3, h4⟩ := ih e (by omega)
        rw [upd_n he, upd_n he]
        exact ⟨a, b, h1, h2, h3, by omega⟩
    | false =>
      obtain ⟨hc, h1c⟩ := xNb_b hg hb
      rw [hc] at h
      unfold xFst xLst
      rw [hb, hc, if_neg (by decide)]
      cases ha : av m with
      | false =>
        rw [if_neg (by decide)]
        obtain ⟨a, b, h1, h2, h3, h4⟩ := ih e h
        exact ⟨a, b, h1, h2, h3, by omega⟩
      | true =>
        rw [if_pos rfl]
        obtain ⟨a, b, h1, h2, h3, h4⟩ := ih e h
        by_cases he : e = xCnt g av m - 1
        · subst he
          rw [upd_s]
          exact ⟨a, m, h1, rfl, by omega, Nat.lt_succ_self _⟩
        · rw [upd_n he]
          exact ⟨a, b, h1, h2, h3, by omega⟩
/-- the last minute of the latest one, where one goes on -/
theorem xL_last {g : Nat} {av : Nat → Bool} (hg : 1 ≤ g) : ∀ m, xNa g av m < g → xLst g av m (xCnt g av m - 1) = nI (m - 1 - xNa g av m) ∧ xNa g av m < m
  | 0, h => absurd h (Nat.lt_irrefl _)
  | m + 1, h => by
    have ih := xL_last (g := g) (av := av) hg m
    cases ha : av m with
    | true =>
      have e1 : xNa g av (m + 1) = 0 := by
        show (if av m then 0 else _) = _
        rw [ha, if_pos rfl]
      rw [e1]
      unfold xLst
      rw [ha, if_pos rfl, upd_s]
      exact ⟨rfl, by omega⟩
    | false =>
      have e1 : xNa g av (m + 1) = xNa g av m + 1 := by
        show (if av m then 0 else _) = _
        rw [ha, if_neg (by decide)]
      have e2 : xCnt g av (m + 1) = xCnt g av m := by
        show xCnt g av m + _ = _
        unfold xBg
        rw [ha]
        rfl
      rw [e1] at h ⊢
      obtain ⟨i1, i2⟩ := ih (by omega)
      unfold xLst
      rw [ha, if_neg (by decide), e2, i1]
      exact ⟨by congr 1; omega, by omega⟩
/-- to which exceedance a minute belongs -/
def ownA (fs ls : Nat → Int32) : Nat → Nat → Int32
  | 0 => fun _ => -1
  | e + 1 => fun m => if fs e ≤ nI m ∧ nI m ≤ ls e then nI e else ownA fs ls e m
theorem ownA_cong {fs ls fs' ls' : Nat → Int32} : ∀ {e : Nat}, (∀ i, i < e → fs i = fs' i ∧ ls i = ls' i) → ownA fs ls e = ownA fs' ls' e
  | 0, _ => rfl
  | e + 1, h => by
    unfold ownA
    rw [ownA_cong (fun i hi => h i (by omega)), (h e (by omega)).1, (h e (by omega)).2]
def sumW (w : Nat → Int32) : Nat → Int32
  | 0 => 0
  | e + 1 => sumW w e + w e
theorem sumW_cong {w w' : Nat → Int32} : ∀ {e : Nat}, (∀ i, i < e → w i = w' i) → sumW w e = sumW w' e
  | 0, _ => rfl
  | e + 1, h => by
    unfold sumW
    rw [sumW_cong (fun i hi => h i (by omega)), h e (by omega)]
/-- the heaviest of the first; 0: there is none, else one more than its number -/
def hvy (w : Nat → Int32) : Nat → Nat
  | 0 => 0
  | e + 1 => if hvy w e = 0 ∨ w (hvy w e - 1) < w e then e + 1 else hvy w e
theorem hvy_le (w : Nat → Int32) : ∀ e, hvy w e ≤ e
  | 0 => Nat.le_refl 0
  | e + 1 => by
    have := hvy_le w e
    unfold hvy
    split <;> omega
theorem hvy_cong {w w' : Nat → Int32} : ∀ {e : Nat}, (∀ i, i < e → w i = w' i) → hvy w e = hvy w' e
  | 0, _ => rfl
  | e + 1, h => by
    have h1 := hvy_cong (w := w) (w' := w') (e := e) (fun i hi => h i (by omega))
    have h2 := hvy_le w' e
    unfold hvy
    rw [h1, h e (by omega)]
    by_cases h0 : hvy w' e = 0
    · rw [if_pos (Or.inl h0), if_pos (Or.inl h0)]
    · rw [h (hvy w' e - 1) (by omega)]
theorem nIm1 {k : Nat} (hk : k < 2 ^ 31) : (nI k - 1 = -1) ↔ k = 0 := by
  constructor
  · intro h
    have e1 : (nI k - 1).toInt = (k : Int) - 1 := by
      rw [i_sub] <;> rw [i_nI hk] <;> have : (1 : Int32).toInt = 1 := rfl <;> omega
    rw [h] at e1
    have : (-1 : Int32).toInt = -1 := by decide
    omega
  · intro h
    rw [h]
    rfl
theorem n_le {a b : Nat} (ha : a < 2 ^ 31) (hb : b < 2 ^ 31) : nI a ≤ nI b ↔ a ≤ b := nI_leI ha hb
theorem n_lt {a b : Nat} (ha : a < 2 ^ 31) (hb : b < 2 ^ 31) : nI a < nI b ↔ a < b := nI_ltI ha hb
