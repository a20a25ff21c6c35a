/-! class: what is counted -/
theorem le_n {u v : Int32} (q : ¬ u < v) : v ≤ u := i_le.mpr (by have : ¬ u.toInt < v.toInt := fun r => q (i_lt.mpr r); omega)
theorem lt_n {u v : Int32} (q : ¬ u ≤ v) : v < u := i_lt.mpr (by have : ¬ u.toInt ≤ v.toInt := fun r => q (i_le.mpr r); omega)
theorem n_lt' {u v : Int32} (q : u ≤ v) : ¬ v < u := fun r => by have := i_le.mp q; have := i_lt.mp r; omega
theorem n_le' {u v : Int32} (q : u < v) : ¬ v ≤ u := fun r => by have := i_lt.mp q; have := i_le.mp r; omega
theorem weight_c {M : Mem} {x cnt : Nat} (hc : cnt ≤ 100) (h : M x 6 = nI cnt) : f_X0_weightOfAll x M = some (sumW (M (x + 5)) cnt) := by
  have key : Ok (f_X0_weightOfAll x M) (fun r => r = sumW (M (x + 5)) cnt) := by
    unfold f_X0_weightOfAll
    refine Ok.bind (P := fun r => r = sumW (M (x + 5)) cnt) ?_ (fun r h => Ok.of h)
    refine loop_FU (fun i z => z.1 = sumW (M (x + 5)) i ∧ z.2 = nI i) _ cnt (by omega) ?_ ?_ ⟨rfl, rfl⟩
    · rintro i ⟨b, j⟩ hi ⟨h1, h2⟩
      dsimp only at h1 h2
      subst h1; subst h2
      unfold f_X0_weightOfAll_l4
      dsimp only
      refine Ok.neg (by rw [h]; exact nI_ge hi (by omega)) ?_
      exact Ok.eqb (rd_nI (by omega) (by decide)) (Ok.of ⟨rfl, nI_1 i⟩)
    · rintro ⟨b, j⟩ ⟨h1, h2⟩
      dsimp only at h1 h2
      subst h2
      unfold f_X0_weightOfAll_l4
      dsimp only
      exact Ok.pos (by rw [h]; exact nI_le (Nat.le_refl _) (by omega)) (Ok.of h1)
  obtain ⟨r, h1, h2⟩ := key
  rw [h1, h2]
theorem heaviest_c {M : Mem} {x cnt : Nat} (hc : cnt ≤ 100) (h : M x 6 = nI cnt) : f_X0_heaviest x M = some (nI (hvy (M (x + 5)) cnt) - 1) := by
  have key : Ok (f_X0_heaviest x M) (fun r => r = nI (hvy (M (x + 5)) cnt) - 1) := by
    unfold f_X0_heaviest
    refine Ok.bind (P := fun r => r = nI (hvy (M (x + 5)) cnt) - 1) ?_ (fun r h => Ok.of h)
    refine loop_FU (fun i z => z.1 = nI (hvy (M (x + 5)) i) - 1 ∧ z.2 = nI i) _ cnt (by omega) ?_ ?_ ⟨rfl, rfl⟩
    · rintro i ⟨b, j⟩ hi ⟨h1, h2⟩
      dsimp only at h1 h2
      subst h1; subst h2
      unfold f_X0_heaviest_l4
      dsimp only
      have hle := hvy_le (M (x + 5)) i
      refine Ok.neg (by rw [h]; exact nI_ge hi (by omega)) ?_
      unfold f_X0_heaviest_j32 f_X0_heaviest_j34
      have unf : hvy (M (x + 5)) (i + 1) = if hvy (M (x + 5)) i = 0 ∨ M (x + 5) (hvy (M (x + 5)) i - 1) < M (x + 5) i then i + 1 else hvy (M (x + 5)) i := rfl
      have tk : hvy (M (x + 5)) (i + 1) = i + 1 → nI i = nI (hvy (M (x + 5)) (i + 1)) - 1 := fun q => by rw [q, nI_pred]
      refine Ok.ite (fun c => ?_) (fun c => ?_)
      · exact Ok.of ⟨tk (by rw [unf, if_pos (Or.inl ((nIm1 (by omega)).mp c))]), nI_1 i⟩
      · have h0 : hvy (M (x + 5)) i ≠ 0 := fun q => c ((nIm1 (by omega)).mpr q)
        refine Ok.eqb (rd_nI (by omega) (by decide)) ?_
        refine Ok.eqb (by rw [nI_p1 (by omega)]; exact rd_nI (by omega) (by decide)) ?_
        refine Ok.ite (fun c2 => ?_) (fun c2 => ?_)
        · refine Ok.of ⟨?_, nI_1 i⟩
          rw [unf, if_neg]
          rintro (q | q)
          · exact h0 q
          · exact n_lt' c2 q
        · exact Ok.of ⟨tk (by rw [unf, if_pos (Or.inr (lt_n c2))]), nI_1 i⟩
    · rintro ⟨b, j⟩ ⟨h1, h2⟩
      dsimp only at h1 h2
      subst h2
      unfold f_X0_heaviest_l4
      dsimp only
      exact Ok.pos (by rw [h]; exact nI_le (Nat.le_refl _) (by omega)) (Ok.of h1)
  obtain ⟨r, h1, h2⟩ := key
  rw [h1, h2]
def cN (lv wd st cm : Nat → Int32) (n nc : Nat) : Nat → Int32
  | 0 => nI n
  | 1 => nI (cB (cntd (sWhy lv wd st)) n)
  | 2 => nI n - nI (cB (cntd (sWhy lv wd st)) n)
  | 3 => nI (cB (fun m => decide (sRest st m)) n)
  | 4 => nI (cB (dA lv wd st) n)
  | 5 => nI (dC lv wd st n)
  | 6 => nI nc
  | 7 => nI (dM lv wd st cm n nc).2.2
  | 8 => sumW (xWt (gO st) (dA lv wd st) (dT lv st) n) (dC lv wd st n)
  | 9 => nI (hvy (xWt (gO st) (dA lv wd st) (dT lv st) n) (dC lv wd st n)) - 1
  | _ => if xNa (gO st) (dA lv wd st) n < gO st then 1 else 0
theorem numberOf_c {M : Mem} {u n nc : Nat} {lv wd st cm : Nat → Int32} (hV : V u lv wd st cm n nc M) (hst : stOK st) (hn : n ≤ 200) (a : Nat) (ha : a ≤ 11) : f_X7_numberOf u (nI a) M = some (cN lv wd st cm n nc a) := by
  obtain ⟨⟨h1, h2, h3, h4, -⟩, -, ⟨hI, h6, -⟩, ⟨h7, h8, -⟩, -⟩ := hV
  have hle : 2 * dC lv wd st n ≤ n + 1 := xCnt_le (g := gO st) (av := dA lv wd st) (gO_b hst).2.1 n
  have hc100 : dC lv wd st n ≤ 100 := by omega
  have hw : ∀ e, e < dC lv wd st n → M (u + 6 + 5) e = xWt (gO st) (dA lv wd st) (dT lv st) n e := fun e he => (hI.2 e he).2.2.2.2
  unfold f_X7_numberOf
  have d0 : a ≠ 0 → ¬ nI a = 0 := fun h => nI_ne (b := 0) (by omega) (by decide) h
  have d1 : a ≠ 1 → ¬ nI a = 1 := fun h => nI_ne (b := 1) (by omega) (by decide) h
  have d2 : a ≠ 2 → ¬ nI a = 2 := fun h => nI_ne (b := 2) (by omega) (by decide) h
  have d3 : a ≠ 3 → ¬ nI a = 3 := fun h => nI_ne (b := 3) (by omega) (by decide) h
  have d4 : a ≠ 4 → ¬ nI a = 4 := fun h => nI_ne (b := 4) (by omega) (by decide) h
  have d5 : a ≠ 5 → ¬ nI a = 5 := fun h => nI_ne (b := 5) (by omega) (by decide) h
  have d6 : a ≠ 6 → ¬ nI a = 6 := fun h => nI_ne (b := 6) (by omega) (by decide) h
  have d7 : a ≠ 7 → ¬ nI a = 7 := fun h => nI_ne (b := 7) (by omega) (by decide) h
  have d8 : a ≠ 8 → ¬ nI a = 8 := fun h => nI_ne (b := 8) (by omega) (by decide) h
  have d9 : a ≠ 9 → ¬ nI a = 9 := fun h => nI_ne (b := 9) (by omega) (by decide) h
  match a, ha with
  | 0, _ => rw [if_pos (show nI 0 = 0 from rfl), h1]; rfl
  | 1, _ => rw [if_neg (d0 (by omega)), if_pos (show nI 1 = 1 from rfl), h2]; rfl
  | 2, _ => rw [if_neg (d0 (by omega)), if_neg (d1 (by omega)), if_pos (show nI 2 = 2 from rfl), h1, h2]; rfl
  | 3, _ => rw [if_neg (d0 (by omega)), if_neg (d1 (by omega)), if_neg (d2 (by omega)), if_pos (show nI 3 = 3 from rfl), h3]; rfl
  | 4, _ => rw [if_neg (d0 (by omega)), if_neg (d1 (by omega)), if_neg (d2 (by omega)), if_neg (d3 (by omega)), if_pos (show nI 4 = 4 from rfl), h4]; rfl
  | 5, _ => rw [if_neg (d0 (by omega)), if_neg (d1 (by omega)), if_neg (d2 (by omega)), if_neg (d3 (by omega)), if_neg (d4 (by omega)), if_pos (show nI 5 = 5 from rfl), hI.1]; rfl
  | 6, _ => rw [if_neg (d0 (by omega)), if_neg (d1 (by omega)), if_neg (d2 (by omega)), if_neg (d3 (by omega)), if_neg (d4 (by omega)), if_neg (d5 (by omega)), if_pos (show nI 6 = 6 from rfl), h7]; rfl
  | 7, _ => rw [if_neg (d0 (by omega)), if_neg (d1 (by omega)), if_neg (d2 (by omega)), if_neg (d3 (by omega)), if_neg (d4 (by omega)), if_neg (d5 (by omega)), if_neg (d6 (by omega)), if_pos (show nI 7 = 7 from rfl), h8]; rfl
  | 8, _ =>
    rw [if_neg (d0 (by omega)), if_neg (d1 (by omega)), if_neg (d2 (by omega)), if_neg (d3 (by omega)), if_neg (d4 (by omega)), if_neg (d5 (by omega)), if_neg (d6 (by omega)), if_neg (d7 (by omega)), if_pos (show nI 8 = 8 from rfl), weight_c hc100 hI.1, sumW_cong hw]
    rfl
  | 9, _ =>
    rw [if_neg (d0 (by omega)), if_neg (d1 (by omega)), if_neg (d2 (by omega)), if_neg (d3 (by omega)), if_neg (d4 (by omega)), if_neg (d5 (by omega)), if_neg (d6 (by omega)), if_neg (d7 (by omega)), if_neg (d8 (by omega)), if_pos (show nI 9 = 9 from rfl), heaviest_c hc100 hI.1, hvy_cong hw]
    rfl
  | a + 10, ha =>
    rw [if_neg (d0 (by omega)), if_neg (d1 (by omega)), if_neg (d2 (by omega)), if_neg (d3 (by omega)), if_neg (d4 (by omega)), if_neg (d5 (by omega)), if_neg (d6 (by omega)), if_neg (d7 (by omega)), if_neg (d8 (by omega)), if_neg (d9 (by omega)), h6]
    show _ = some (if xNa (gO st) (dA lv wd st) n < gO st then 1 else 0)
    by_cases q : xNa (gO st) (dA lv wd st) n < gO st
    · rw [if_pos q, if_neg (by decide)]
    · rw [if_neg q, if_pos rfl]
/-- levels that are reached -/
def dH (lv st : Nat → Int32) (m : Nat) : Nat := (dF lv st m).toInt.toNat / 10
def cG (p : Nat → Bool) (H : Nat → Nat) (n l : Nat) : Nat := cB (fun m => p m && decide (l ≤ H m)) n
def cE (p : Nat → Bool) (H : Nat → Nat) (n l : Nat) : Nat := cB (fun m => p m && decide (H m = l)) n
theorem cG_s (p : Nat → Bool) (H : Nat → Nat) (l : Nat) : ∀ n, cG p H n l = cE p H n l + cG p H n (l + 1)
  | 0 => rfl
  | n + 1 => by
    have ih := cG_s p H l n
    unfold cG cE at ih ⊢
    unfold cB
    rw [ih]
    cases p n with
    | false => simp only [Bool.false_and, Bool.false_eq_true, if_false]; omega
    | true =>
      simp only [Bool.true_and, decide_eq_true_eq]
      by_cases h1 : H n = l
      · rw [if_pos (by omega), if_pos h1, if_neg (by omega)]
        omega
      · rw [if_neg h1]
        by_cases h2 : l + 1 ≤ H n
        · rw [if_pos (by omega), if_pos h2]
          omega
        · rw [if_neg (by omega), if_neg h2]
          omega
theorem cG_top {p : Nat → Bool} {H : Nat → Nat} {l : Nat} : ∀ {n : Nat}, (∀ m, m < n → H m < l) → cG p H n l = 0
  | 0, _ => rfl
  | n + 1, h => by
    have ih := cG_top (p := p) (H := H) (l := l) (n := n) (fun m hm => h m (by omega))
    have := h n (by omega)
    unfold cG at ih ⊢
    unfold cB
    rw [ih, decide_eq_false (by omega), Bool.and_false]
    rfl
theorem high_c {M : Mem} {f : Nat} (hf : f ≤ 1400) : f_X2_highestReached (nI f) M = some (nI (f / 10)) := by
  unfold f_X2_highestReached dvI
  rw [if_neg (by decide), Option.bind_some]
  have e : nI f / 10 = nI (f / 10) := by
    refine i_eq.mpr ?_
    have e10 : (10 : Int32).toInt = 10 := rfl
    rw [i_div (by decide), i_nI (by omega), i_nI (by omega), e10, Int.tdiv_eq_ediv_of_nonneg (by omega)]
    omega
  rw [e]
  unfold mxI mnI
  have h1 : ¬ nI (f / 10) > 140 := by
    show ¬ nI 140 < nI (f / 10)
    rw [n_lt (by decide) (by omega)]
    omega
  by_cases h2 : nI (f / 10) < 140
  · rw [if_pos h2]
    by_cases h3 : (0 : Int32) < nI (f / 10)
    · rw [if_pos h3]
    · rw [if_neg h3]
      have : ¬ 0 < f / 10 := fun q => h3 ((n_lt (a := 0) (by decide) (by omega)).mpr q)
      rw [show f / 10 = 0 by omega]
      rfl
  · rw [if_neg h2, if_pos (by decide)]
    have : ¬ f / 10 < 140 := fun q => h2 ((n_lt (b := 140) (by omega) (by decide)).mpr q)
    rw [show f / 10 = 140 by omega]
    rfl
theorem ltally_c {M : Mem} {u n : Nat} {p : Nat → Bool} {H : Nat → Nat} (hn : n ≤ 200) (hu : u + 3 < 89) (h3 : M u 3 = nI n) (hp : ∀ m, m < n → cntd (M (u + 3)) m = p m) (hF : ∀ m, m < n → ∃ f, f ≤ 1400 ∧ M (u + 1) m = nI f ∧ H m = f / 10) :
    Ok (f_X2_tally u M) (fun M' => (∀ l, l ≤ 140 → M' 89 l = nI (cG p H n l)) ∧ Off (fun c => c = 89) M M') := by
  unfold f_X2_tally
  refine Ok.bind (P := fun N => (∀ l, l ≤ 140 → N 89 l = 0) ∧ Off (fun c => c = 89) M N) ?_ ?_
  · refine loop_FU (fun i z => z.1 = nI i ∧ (∀ l, l < i → z.2 89 l = 0) ∧ Off (fun c => c = 89) M z.2) _ 141 (by omega) ?_ ?_ ⟨rfl, fun l hl => absurd hl (Nat.not_lt_zero l), Off.rf⟩
    · rintro i ⟨j, N⟩ hi ⟨h1, h2, h4⟩
      dsimp only at h1 h2 h4
      subst h1
      unfold f_X2_tally_l2
      dsimp only
      refine Ok.neg (fun q => by have := (n_lt (a := 140) (by decide) (by omega)).mp q; omega) ?_
      refine Ok.eqb (wr_nI (by omega) (by decide)) (Ok.of ⟨nI_1 i, fun l hl => ?_, h4.set rfl⟩)
      dsimp only
      by_cases hli : l = i
      · subst hli
        rw [mset_s]
      · rw [mset_n hli]
        exact h2 l (by omega)
    · rintro ⟨j, N⟩ ⟨h1, h2, h4⟩
      dsimp only at h1 h2 h4
      subst h1
      unfold f_X2_tally_l2
      dsimp only
      exact Ok.pos (by decide) (Ok.of ⟨fun l hl => h2 l (by omega), h4⟩)
  rintro M1 ⟨a1, a2⟩
  refine Ok.bind (P := fun N => (∀ l, l ≤ 140 → N 89 l = nI (cE p H n l)) ∧ Off (fun c => c = 89) M N) ?_ ?_
  · refine loop_FU (fun i z => z.1 = nI i ∧ (∀ l, l ≤ 140 → z.2 89 l = nI (cE p H i l)) ∧ Off (fun c => c = 89) M z.2) _ n (by omega) ?_ ?_ ⟨rfl, a1, a2⟩
    · rintro i ⟨j, N⟩ hi ⟨h1, h2, h4⟩
      dsimp only at h1 h2 h4
      subst h1
      unfold f_X2_tally_l24
      dsimp only
      refine Ok.neg (by rw [h4 u (by omega), h3]; exact nI_ge hi (by omega)) ?_
      refine Ok.eqb (isCounted_c (by omega)) ?_
      rw [h4 (u + 3) (by omega), hp i hi]
      have unf : ∀ l, cE p H (i + 1) l = cE p H i l + (if p i && decide (H i = l) then 1 else 0) := fun l => rfl
      unfold f_X2_tally_j58
      by_cases hq : p i
      · rw [if_pos hq]
        refine Ok.neg (by decide) ?_
        obtain ⟨f, hf, e1, e2⟩ := hF i hi
        refine Ok.eqb (rd_nI (by omega) (by decide)) ?_
        rw [h4 (u + 1) (by omega), e1]
        refine Ok.eqb (high_c hf) ?_
        refine Ok.eqb (rd_nI (by omega) (by decide)) ?_
        refine Ok.eqb (wr_nI (by omega) (by decide)) (Ok.of ⟨nI_1 i, fun l hl => ?_, h4.set rfl⟩)
        dsimp only
        rw [unf, e2, hq]
        by_cases hl2 : l = f / 10
        · subst hl2
          rw [mset_s, h2 _ hl]
          simp only [Bool.true_and, decide_true, if_true]
          exact nI_1 _
        · rw [mset_n hl2, h2 l hl, decide_eq_false (fun q => hl2 q.symm)]
          rfl
      · rw [if_neg hq]
        refine Ok.pos rfl (Ok.of ⟨nI_1 i, fun l hl => ?_, h4⟩)
        rw [unf, show p i = false by simpa using hq]
        exact h2 l hl
    · rintro ⟨j, N⟩ ⟨h1, h2, h4⟩
      dsimp only at h1 h2 h4
      subst h1
      unfold f_X2_tally_l24
      dsimp only
      exact Ok.pos (by rw [h4 u (by omega), h3]; exact nI_le (Nat.le_refl _) (by omega)) (Ok.of ⟨h2, h4⟩)
  rintro M2 ⟨b1, b2⟩
  have hH : ∀ m, m < n → H m < 141 := fun m hm => by
    obtain ⟨f, hf, e1, e2⟩ := hF m hm
    omega
  refine Ok.bind (P := fun N => (∀ l, l ≤ 140 → N 89 l = nI (cG p H n l)) ∧ Off (fun c => c = 89) M N) ?_ (fun r h => Ok.of h)
  refine loop_FU (fun i z => z.1 = nI (140 - i) - 1 ∧ (∀ l, l ≤ 140 → z.2 89 l = if 140 - i ≤ l then nI (cG p H n l) else nI (cE p H n l)) ∧ Off (fun c => c = 89) M z.2) _ 140 (by omega) ?_ ?_ ⟨rfl, fun l hl => ?_, b2⟩
  · rintro i ⟨j, N⟩ hi ⟨h1, h2, h4⟩
    dsimp only at h1 h2 h4
    subst h1
    unfold f_X2_tally_l68
    dsimp only
    rw [nI_p1 (by omega)]
    refine Ok.neg (nI_pos (by omega)) ?_
    refine Ok.eqb (rd_nI (by omega) (by decide)) ?_
    rw [nI_1]
    refine Ok.eqb (rd_nI (by omega) (by decide)) ?_
    refine Ok.eqb (wr_nI (by omega) (by decide)) (Ok.of ⟨?_, fun l hl => ?_, h4.set rfl⟩)
    · rw [show 140 - (i + 1) = 140 - i - 1 by omega]
      exact (Int32.sub_eq_add_neg _ _).symm
    · dsimp only
      by_cases hli : l = 140 - i - 1
      · subst hli
        rw [mset_s, h2 _ hl, h2 _ (by omega), if_neg (by omega), if_pos (by omega), if_pos (by omega), nI_add, ← cG_s]
      · rw [mset_n hli, h2 l hl]
        by_cases hq : 140 - i ≤ l
        · rw [if_pos hq, if_pos (by omega)]
        · rw [if_neg hq, if_neg (by omega)]
  · rintro ⟨j, N⟩ ⟨h1, h2, h4⟩
    dsimp only at h1 h2 h4
    subst h1
    unfold f_X2_tally_l68
    dsimp only
    refine Ok.pos (by decide) (Ok.of ⟨fun l hl => ?_, h4⟩)
    rw [h2 l hl, if_pos (by omega)]
  · show M2 89 l = _
    rw [b1 l hl]
    by_cases hq : 140 - 0 ≤ l
    · rw [if_pos hq, cG_s, show l = 140 by omega, cG_top hH]
      rfl
    · rw [if_neg hq]
