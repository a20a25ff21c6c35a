/-! exceedances by their first minutes -/
theorem xCnt_mono {g : Nat} {av : Nat → Bool} (m : Nat) : ∀ d, xCnt g av m ≤ xCnt g av (m + d)
  | 0 => Nat.le_refl _
  | d + 1 => by
    have := xCnt_mono (g := g) (av := av) m d
    show _ ≤ xCnt g av (m + d) + _
    omega
theorem xCnt_lt {g : Nat} {av : Nat → Bool} {b n : Nat} (hb : xBg g av b = true) (hn : b < n) : xCnt g av b < xCnt g av n := by
  obtain ⟨d, rfl⟩ : ∃ d, n = b + 1 + d := ⟨n - (b + 1), by omega⟩
  have h1 := xCnt_mono (g := g) (av := av) (b + 1) d
  have h2 : xCnt g av (b + 1) = xCnt g av b + 1 := by
    show xCnt g av b + _ = _
    rw [hb, if_pos rfl]
  omega
/-- behind the beginning at b the earlier ones don't change -/
theorem x_frozen {g : Nat} {av : Nat → Bool} {b e : Nat} (hg : 1 ≤ g) (hb : xBg g av b = true) (he : e < xCnt g av b) : ∀ d, xFst g av (b + d) e = xFst g av b e ∧ xLst g av (b + d) e = xLst g av b e
  | 0 => ⟨rfl, rfl⟩
  | d + 1 => by
    obtain ⟨h1, h2⟩ := x_frozen (d := d) hg hb he
    have hm := xCnt_mono (g := g) (av := av) b d
    show xFst g av (b + d + 1) e = _ ∧ xLst g av (b + d + 1) e = _
    cases hq : xBg g av (b + d) with
    | true =>
      obtain ⟨-, g2, g3, -⟩ := sc_b hg hq
      rw [g2, g3, upd_n (by omega), upd_n (by omega)]
      exact ⟨h1, h2⟩
    | false =>
      cases ha : av (b + d) with
      | false =>
        obtain ⟨-, g2, g3, -⟩ := sc_n (g := g) ha
        rw [g2, g3]
        exact ⟨h1, h2⟩
      | true =>
        obtain ⟨-, g2, g3, -⟩ := sc_c hg hq ha
        have h9 : e ≠ xCnt g av (b + d) - 1 := by
          intro q
          cases d with
          | zero =>
            have : xBg g av b = false := hq
            rw [hb] at this
            exact absurd this (by decide)
          | succ d =>
            have := xCnt_lt (n := b + (d + 1)) hb (by omega)
            omega
        rw [g2, g3, upd_n h9]
        exact ⟨h1, h2⟩
/-- the first minute of a beginning one -/
theorem x_first {g : Nat} {av : Nat → Bool} {b : Nat} (hg : 1 ≤ g) (hb : xBg g av b = true) : ∀ d, xFst g av (b + 1 + d) (xCnt g av b) = nI b
  | 0 => by
    obtain ⟨-, g2, -, -⟩ := sc_b hg hb
    show xFst g av (b + 1) _ = _
    rw [g2, upd_s]
  | d + 1 => by
    have ih := x_first (d := d) hg hb
    have hm := xCnt_lt (n := b + 1 + d) hb (by omega)
    show xFst g av (b + 1 + d + 1) _ = _
    cases hq : xBg g av (b + 1 + d) with
    | true =>
      obtain ⟨-, g2, -, -⟩ := sc_b hg hq
      rw [g2, upd_n (by omega)]
      exact ih
    | false =>
      show (if xBg g av (b + 1 + d) then upd (xFst g av (b + 1 + d)) (xCnt g av (b + 1 + d)) (nI (b + 1 + d)) else xFst g av (b + 1 + d)) _ = _
      rw [hq, if_neg (by decide)]
      exact ih
theorem x_firstn {g : Nat} {av : Nat → Bool} {b n : Nat} (hg : 1 ≤ g) (hb : xBg g av b = true) (hn : b < n) : xFst g av n (xCnt g av b) = nI b := by
  obtain ⟨d, rfl⟩ : ∃ d, n = b + 1 + d := ⟨n - (b + 1), by omega⟩
  exact x_first hg hb d
/-- each has its first minute -/
theorem x_ex {g : Nat} {av : Nat → Bool} : ∀ n e, e < xCnt g av n → ∃ b, b < n ∧ xBg g av b = true ∧ xCnt g av b = e
  | 0, e, h => absurd h (Nat.not_lt_zero e)
  | n + 1, e, h => by
    cases hb : xBg g av n with
    | true =>
      by_cases he : e < xCnt g av n
      · obtain ⟨b, h1, h2, h3⟩ := x_ex (g := g) (av := av) n e he
        exact ⟨b, by omega, h2, h3⟩
      · have h9 : xCnt g av (n + 1) = xCnt g av n + 1 := by
          show xCnt g av n + _ = _
          rw [hb, if_pos rfl]
        exact ⟨n, by omega, hb, by omega⟩
    | false =>
      have h9 : xCnt g av (n + 1) = xCnt g av n := by
        show xCnt g av n + _ = _
        rw [hb]
        rfl
      obtain ⟨b, h1, h2, h3⟩ := x_ex (g := g) (av := av) n e (by omega)
      exact ⟨b, by omega, h2, h3⟩
theorem x_uni {g : Nat} {av : Nat → Bool} {b c : Nat} (hb : xBg g av b = true) (hc : xBg g av c = true) (h : xCnt g av b = xCnt g av c) : b = c := by
  rcases Nat.lt_trichotomy b c with q | q | q
  · have := xCnt_lt hb q
    omega
  · exact q
  · have := xCnt_lt hc q
    omega
theorem ownAB {fs ls : Nat → Int32} {m : Nat} (hm : m < 1000) : ∀ c, (∀ e, e < c → ∃ a b, fs e = nI a ∧ ls e = nI b ∧ a ≤ b ∧ b < 1000) → (ownB fs ls c m = -1 ∧ ownA fs ls c m = -1 ∧ ∀ e, e < c → ∀ a b, fs e = nI a → ls e = nI b → a < 1000 → b < 1000 → ¬ (a ≤ m ∧ m ≤ b)) ∨ ∃ e a b, e < c ∧ fs e = nI a ∧ ls e = nI b ∧ a ≤ m ∧ m ≤ b ∧ b < 1000 ∧ ownB fs ls c m = nI a ∧ ownA fs ls c m = nI e
  | 0, _ => Or.inl ⟨rfl, rfl, fun e he => absurd he (Nat.not_lt_zero e)⟩
  | c + 1, h => by
    obtain ⟨a, b, h1, h2, h3, h4⟩ := h c (by omega)
    unfold ownA ownB
    by_cases q : a ≤ m ∧ m ≤ b
    · have q2 : fs c ≤ nI m ∧ nI m ≤ ls c := by
        rw [h1, h2]
        exact ⟨(n_le (by omega) (by omega)).mpr q.1, (n_le (by omega) (by omega)).mpr q.2⟩
      rw [if_pos q2, if_pos q2]
      exact Or.inr ⟨c, a, b, by omega, h1, h2, q.1, q.2, h4, h1, rfl⟩
    · have q2 : ¬ (fs c ≤ nI m ∧ nI m ≤ ls c) := by
        rw [h1, h2]
        exact fun z => q ⟨(n_le (by omega) (by omega)).mp z.1, (n_le (by omega) (by omega)).mp z.2⟩
      rw [if_neg q2, if_neg q2]
      rcases ownAB hm c (fun e he => h e (by omega)) with ⟨g1, g2, g3⟩ | ⟨e, a2, b2, g1, g2⟩
      · refine Or.inl ⟨g1, g2, fun e he a3 b3 e1 e2 l1 l2 => ?_⟩
        by_cases hec : e = c
        · subst hec
          have x1 := (nI_eq (by omega) (by omega)).mp (h1.symm.trans e1)
          have x2 := (nI_eq (by omega) (by omega)).mp (h2.symm.trans e2)
          subst x1; subst x2
          exact q
        · exact g3 e (by omega) a3 b3 e1 e2 l1 l2
      · exact Or.inr ⟨e, a2, b2, by omega, g2⟩
/-- to which one a minute belongs, by its first minute: it is one alone -/
theorem b_in {g : Nat} {av : Nat → Bool} {n b m L : Nat} (hg : 1 ≤ g) (hn : n ≤ 300) (hb : xBg g av b = true) (hbn : b < n) (hL : xLst g av n (xCnt g av b) = nI L) (hL2 : L < n) (h1 : b ≤ m) (h2 : m ≤ L) : bS g av n m = nI b ∧ ownA (xFst g av n) (xLst g av n) (xCnt g av n) m = nI (xCnt g av b) := by
  have hx := fun e (he : e < xCnt g av n) => xF_rng (av := av) hg n e he
  have hlt := xCnt_lt hb hbn
  have hf := x_firstn hg hb hbn
  rcases ownAB (fs := xFst g av n) (ls := xLst g av n) (m := m) (by omega) (xCnt g av n) (fun e he => by obtain ⟨a, b, q1, q2, q3, q4⟩ := hx e he; exact ⟨a, b, q1, q2, q3, by omega⟩) with ⟨-, -, q⟩ | ⟨e, a, c, q1, q2, q3, q4, q5, q6, q7, q8⟩
  · exact absurd ⟨h1, h2⟩ (q _ hlt b L hf hL (by omega) (by omega))
  · obtain ⟨b2, p1, p2, p3⟩ := x_ex (g := g) (av := av) n e q1
    have hf2 := x_firstn hg p2 p1
    rw [p3, q2] at hf2
    have hab : a = b2 := (nI_eq (by omega) (by omega)).mp hf2
    subst hab
    have he : a = b := by
      rcases Nat.lt_trichotomy a b with z | z | z
      · exfalso
        have z1 : xCnt g av a < xCnt g av b := xCnt_lt p2 z
        rw [p3] at z1
        obtain ⟨d, rfl⟩ : ∃ d, n = b + d := ⟨n - b, by omega⟩
        obtain ⟨-, z2⟩ := x_frozen hg hb z1 d
        obtain ⟨a9, b9, r1, r2, r3, r4⟩ := xF_rng (av := av) hg b e z1
        rw [z2, r2] at q3
        have := (nI_eq (by omega) (by omega)).mp q3
        omega
      · exact z
      · exfalso
        have z1 : xCnt g av b < xCnt g av a := xCnt_lt hb z
        obtain ⟨d, rfl⟩ : ∃ d, n = a + d := ⟨n - a, by omega⟩
        obtain ⟨-, z2⟩ := x_frozen hg p2 z1 d
        obtain ⟨a9, b9, r1, r2, r3, r4⟩ := xF_rng (av := av) hg a (xCnt g av b) z1
        rw [z2, r2] at hL
        have := (nI_eq (by omega) (by omega)).mp hL
        omega
    subst he
    rw [← p3] at q8
    exact ⟨q7, q8⟩
theorem b_last {g : Nat} {av : Nat → Bool} {n b : Nat} (hg : 1 ≤ g) (hn : n ≤ 300) (hb : xBg g av b = true) (hbn : b < n) : ∃ L, xLst g av n (xCnt g av b) = nI L ∧ L < n ∧ b ≤ L := by
  obtain ⟨a, c, q1, q2, q3, q4⟩ := xF_rng (av := av) hg n (xCnt g av b) (xCnt_lt hb hbn)
  have := x_firstn hg hb hbn
  rw [this] at q1
  have := (nI_eq (by omega) (by omega)).mp q1
  exact ⟨c, q2, q4, by omega⟩
/-- what a minute's mark says -/
theorem b_mark {g : Nat} {av : Nat → Bool} {n m : Nat} (hg : 1 ≤ g) (hn : n ≤ 300) (hm : m < n) : (bS g av n m = -1 ∧ ownA (xFst g av n) (xLst g av n) (xCnt g av n) m = -1 ∧ ∀ b L, xBg g av b = true → b < n → xLst g av n (xCnt g av b) = nI L → L < n → ¬ (b ≤ m ∧ m ≤ L)) ∨
    ∃ b L, xBg g av b = true ∧ b < n ∧ xLst g av n (xCnt g av b) = nI L ∧ L < n ∧ b ≤ m ∧ m ≤ L ∧ bS g av n m = nI b ∧ ownA (xFst g av n) (xLst g av n) (xCnt g av n) m = nI (xCnt g av b) := by
  rcases ownAB (fs := xFst g av n) (ls := xLst g av n) (m := m) (by omega) (xCnt g av n) (fun e he => by obtain ⟨a, b, q1, q2, q3, q4⟩ := xF_rng (av := av) hg n e he; exact ⟨a, b, q1, q2, q3, by omega⟩) with ⟨q1, q2, q⟩ | ⟨e, a, c, q1, q2, q3, q4, q5, q6, q7, q8⟩
  · exact Or.inl ⟨q1, q2, fun b L hb hbn hL hL2 => q _ (xCnt_lt hb hbn) b L (x_firstn hg hb hbn) hL (by omega) (by omega)⟩
  · obtain ⟨b2, p1, p2, p3⟩ := x_ex (g := g) (av := av) n e q1
    obtain ⟨L, l1, l2, l3⟩ := b_last hg hn p2 p1
    have hf2 := x_firstn hg p2 p1
    rw [p3, q2] at hf2
    have hab : a = b2 := (nI_eq (by omega) (by omega)).mp hf2
    subst hab
    have hcl : c = L := (nI_eq (by omega) (by omega)).mp (q3.symm.trans (by rw [← p3]; exact l1))
    subst hcl
    rw [← p3] at q8
    exact Or.inr ⟨a, c, p2, p1, l1, l2, q4, q5, q7, q8⟩
theorem b_self {g : Nat} {av : Nat → Bool} {n m : Nat} (hg : 1 ≤ g) (hn : n ≤ 300) (hm : m < n) : bS g av n m = nI m ↔ xBg g av m = true := by
  constructor
  · intro h
    rcases b_mark (g := g) (av := av) hg hn hm with ⟨q1, -⟩ | ⟨b, L, q1, q2, q3, q4, q5, q6, q7, -⟩
    · rw [h] at q1
      have := congrArg Int32.toInt q1
      rw [i_nI (by omega)] at this
      have e1 : (-1 : Int32).toInt = -1 := by decide
      omega
    · have := (nI_eq (by omega) (by omega)).mp (h.symm.trans q7)
      rw [this]
      exact q1
  · intro h
    obtain ⟨L, l1, l2, l3⟩ := b_last hg hn h hm
    exact (b_in hg hn h hm l1 l2 (Nat.le_refl _) l3).1
/-- marks of the minutes, read -/
def Bm (g : Nat) (av : Nat → Bool) (n : Nat) (M : Mem) : Prop := n ≤ 60 ∧ 1 ≤ g ∧ M 93 0 = nI n ∧ ∀ m, m < n → M 98 m = bS g av n m
theorem number_l {g : Nat} {av : Nat → Bool} {n b : Nat} {M : Mem} (h : Bm g av n M) (hb : xBg g av b = true) (hbn : b < n) : f_L_number (nI b) M = some (nI (xCnt g av b)) := by
  obtain ⟨hn, hg, -, h98⟩ := h
  have key : Ok (f_L_number (nI b) M) (fun r => r = nI (xCnt g av b)) := by
    unfold f_L_number
    refine Ok.bind (P := fun r => r = nI (xCnt g av b)) ?_ (fun r h => Ok.of h)
    refine loop_FU (fun i z => z.1 = nI (xCnt g av i) - 1 ∧ z.2 = nI i) _ (b + 1) (by omega) ?_ ?_ ⟨rfl, rfl⟩
    · rintro i ⟨v, j⟩ hi ⟨h1, h2⟩
      dsimp only at h1 h2
      subst h1; subst h2
      unfold f_L_number_l4
      dsimp only
      refine Ok.neg (fun q => by have := (n_lt (by omega) (by omega)).mp q; omega) ?_
      refine Ok.eqb (rd_nI (by omega) (by decide)) ?_
      rw [h98 i (by omega)]
      have hs := b_self (g := g) (av := av) hg (show n ≤ 300 by omega) (show i < n by omega)
      unfold f_L_number_j22
      refine Ok.ite (fun c => Ok.of ⟨?_, nI_1 i⟩) (fun c => Ok.of ⟨?_, nI_1 i⟩)
      · have h9 : xCnt g av (i + 1) = xCnt g av i + 1 := by
          show xCnt g av i + _ = _
          rw [hs.mp c, if_pos rfl]
        show nI (xCnt g av i) - 1 + 1 = _
        rw [h9, nI_pred]
        refine i_eq.mpr ?_
        have hq := xCnt_le (av := av) hg i
        have e1 : (1 : Int32).toInt = 1 := rfl
        have e2 : (nI (xCnt g av i) - 1).toInt = (xCnt g av i : Int) - 1 := by
          rw [i_sub] <;> rw [i_nI (by omega), e1] <;> omega
        have e9 : (nI (xCnt g av i)).toInt = (xCnt g av i : Int) := i_nI (by omega)
        rw [e9]
        rw [i_add] <;> rw [e2, e1] <;> omega
      · have h9 : xCnt g av (i + 1) = xCnt g av i := by
          show xCnt g av i + _ = _
          rw [if_neg (fun q => c (hs.mpr q))]
          rfl
        show nI (xCnt g av i) - 1 + 0 = _
        rw [h9]
        exact Int32.add_zero _
    · rintro ⟨v, j⟩ ⟨h1, h2⟩
      dsimp only at h1 h2
      subst h1; subst h2
      unfold f_L_number_l4
      dsimp only
      refine Ok.pos ((n_lt (by omega) (by omega)).mpr (by omega)) (Ok.of ?_)
      have h9 : xCnt g av (b + 1) = xCnt g av b + 1 := by
        show xCnt g av b + _ = _
        rw [hb, if_pos rfl]
      show nI (xCnt g av (b + 1)) - 1 = _
      rw [h9, nI_pred]
  obtain ⟨r, h1, h2⟩ := key
  rw [h1, h2]
theorem exceedances_l {g : Nat} {av : Nat → Bool} {n : Nat} {M : Mem} (h : Bm g av n M) : f_L_exceedances M = some (nI (xCnt g av n)) := by
  obtain ⟨hn, hg, hd, h98⟩ := h
  have key : Ok (f_L_exceedances M) (fun r => r = nI (xCnt g av n)) := by
    unfold f_L_exceedances
    refine Ok.bind (P := fun r => r = nI (xCnt g av n)) ?_ (fun r h => Ok.of h)
    refine loop_FU (fun i z => z.1 = nI (xCnt g av i) ∧ z.2 = nI i) _ n (by omega) ?_ ?_ ⟨rfl, rfl⟩
    · rintro i ⟨v, j⟩ hi ⟨h1, h2⟩
      dsimp only at h1 h2
      subst h1; subst h2
      unfold f_L_exceedances_l4
      dsimp only
      refine Ok.eqb (show rd M 93 2 0 = some (M 93 0) from rd_nI (k := 0) (by decide) (by decide)) ?_
      rw [hd]
      refine Ok.neg (nI_ge hi (by omega)) ?_
      refine Ok.eqb (rd_nI (by omega) (by decide)) ?_
      rw [h98 i hi]
      have hs := b_self (g := g) (av := av) hg (show n ≤ 300 by omega) hi
      unfold f_L_exceedances_j24
      refine Ok.ite (fun c => Ok.of ⟨?_, nI_1 i⟩) (fun c => Ok.of ⟨?_, nI_1 i⟩)
      · show nI (xCnt g av i) + 1 = nI (xCnt g av i + _)
        rw [if_pos (hs.mp c)]
        exact nI_1 _
      · show nI (xCnt g av i) + 0 = nI (xCnt g av i + _)
        rw [if_neg (fun q => c (hs.mpr q))]
        exact nI_add _ 0
    · rintro ⟨v, j⟩ ⟨h1, h2⟩
      dsimp only at h1 h2
      subst h1; subst h2
      unfold f_L_exceedances_l4
      dsimp only
      refine Ok.eqb (show rd M 93 2 0 = some (M 93 0) from rd_nI (k := 0) (by decide) (by decide)) ?_
      rw [hd]
      exact Ok.pos (nI_le (Nat.le_refl _) (by omega)) (Ok.of rfl)
  obtain ⟨r, h1, h2⟩ := key
  rw [h1, h2]
