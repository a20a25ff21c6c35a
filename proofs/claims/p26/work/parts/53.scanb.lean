/-! the law's post: by the first minutes of exceedances -/
theorem rm_n {k n : Nat} (hk : k < 2147483648) (h0 : 0 < n) (hn : n < 2147483648) : rmI (nI k) (nI n) = some (nI (k % n)) := by
  unfold rmI
  have en : (nI n).toInt = (n : Int) := i_nI hn
  have ek : (nI k).toInt = (k : Int) := i_nI hk
  rw [if_neg (fun q => by rw [q] at en; have : (0 : Int32).toInt = 0 := rfl; omega)]
  refine congrArg some (i_eq.mpr ?_)
  have hd : (nI k / nI n).toInt = ((k / n : Nat) : Int) := by
    rw [i_div (by omega), ek, en]
    rfl
  have e := Nat.div_add_mod k n
  have hlt := Nat.mod_lt k h0
  have e2 : ((k / n : Nat) : Int) * (n : Int) = ((n * (k / n) : Nat) : Int) := by
    rw [← Int.natCast_mul, Nat.mul_comm]
  generalize n * (k / n) = p at e e2
  have hm : (nI k / nI n * nI n).toInt = (p : Int) := by
    rw [i_mul] <;> rw [hd, en, e2] <;> omega
  have e9 : (nI (k % n)).toInt = ((k % n : Nat) : Int) := i_nI (by omega)
  rw [e9]
  rw [i_sub] <;> rw [ek, hm] <;> omega
def ownB (fs ls : Nat → Int32) : Nat → Nat → Int32
  | 0 => fun _ => -1
  | e + 1 => fun m => if fs e ≤ nI m ∧ nI m ≤ ls e then fs e else ownB fs ls e m
theorem ownB_cong {fs ls fs' ls' : Nat → Int32} : ∀ {e : Nat}, (∀ i, i < e → fs i = fs' i ∧ ls i = ls' i) → ownB fs ls e = ownB fs' ls' e
  | 0, _ => rfl
  | e + 1, h => by
    unfold ownB
    rw [ownB_cong (fun i hi => h i (by omega)), (h e (by omega)).1, (h e (by omega)).2]
theorem ownB_out {fs ls : Nat → Int32} {m : Nat} : ∀ {e : Nat}, (∀ i, i < e → ¬ nI m ≤ ls i) → ownB fs ls e m = -1
  | 0, _ => rfl
  | e + 1, h => by
    unfold ownB
    rw [if_neg (fun q => h e (by omega) q.2)]
    exact ownB_out (fun i hi => h i (by omega))
def fvL (g : Nat) (av : Nat → Bool) (i : Nat) : Int32 := if xCnt g av i = 0 then -1 else xFst g av i (xCnt g av i - 1)
def lvL (g : Nat) (av : Nat → Bool) (i : Nat) : Int32 := if xCnt g av i = 0 then -100 else nI (i - 1 - xNa g av i)
abbrev bS (g : Nat) (av : Nat → Bool) (i : Nat) : Nat → Int32 := ownB (xFst g av i) (xLst g av i) (xCnt g av i)
theorem xNa_0 {g : Nat} {av : Nat → Bool} : ∀ i, xCnt g av i = 0 → xNa g av i = g + i
  | 0, _ => rfl
  | i + 1, h => by
    have h0 : xCnt g av i = 0 ∧ xBg g av i = false := by
      unfold xCnt at h
      cases hb : xBg g av i with
      | true => rw [hb, if_pos rfl] at h; omega
      | false => exact ⟨by rw [hb] at h; exact h, rfl⟩
    have ih := xNa_0 i h0.1
    have ha : av i = false := by
      have h1 := h0.2
      unfold xBg at h1
      rw [ih, decide_eq_true (show g ≤ g + i by omega), Bool.and_true] at h1
      exact h1
    unfold xNa
    rw [ha, ih, if_neg (by decide)]
    omega
theorem xNa_1 {g : Nat} {av : Nat → Bool} (hg : 1 ≤ g) : ∀ i, 1 ≤ xCnt g av i → xNa g av i < i ∧ xLst g av i (xCnt g av i - 1) = nI (i - 1 - xNa g av i)
  | 0, h => absurd h (Nat.not_lt_zero 0)
  | i + 1, h => by
    have ih := xNa_1 (g := g) (av := av) hg i
    cases ha : av i with
    | true =>
      have e1 : xNa g av (i + 1) = 0 := by
        show (if av i then 0 else _) = _
        rw [ha, if_pos rfl]
      rw [e1]
      unfold xLst
      rw [ha, if_pos rfl, upd_s]
      exact ⟨by omega, rfl⟩
    | false =>
      have e1 : xNa g av (i + 1) = xNa g av i + 1 := by
        show (if av i then 0 else _) = _
        rw [ha, if_neg (by decide)]
      have e2 : xCnt g av (i + 1) = xCnt g av i := by
        show xCnt g av i + _ = _
        unfold xBg
        rw [ha]
        rfl
      rw [e2] at h
      obtain ⟨i1, i2⟩ := ih h
      rw [e1, e2]
      unfold xLst
      rw [ha, if_neg (by decide), i2]
      exact ⟨by omega, congrArg nI (by omega)⟩
/-- a step of the scan, minute i, by its three kinds -/
theorem sc_n {g : Nat} {av : Nat → Bool} {i : Nat} (ha : av i = false) : xCnt g av (i + 1) = xCnt g av i ∧ xFst g av (i + 1) = xFst g av i ∧ xLst g av (i + 1) = xLst g av i ∧ xNa g av (i + 1) = xNa g av i + 1 := by
  have hb : xBg g av i = false := by
    unfold xBg
    rw [ha]
    rfl
  refine ⟨?_, ?_, ?_, ?_⟩
  · show xCnt g av i + _ = _
    rw [hb]
    rfl
  · show (if xBg g av i then _ else _) = _
    rw [hb]
    rfl
  · show (if av i then _ else _) = _
    rw [ha]
    rfl
  · show (if av i then _ else _) = _
    rw [ha]
    rfl
theorem sc_b {g : Nat} {av : Nat → Bool} {i : Nat} (hg : 1 ≤ g) (hb : xBg g av i = true) : xCnt g av (i + 1) = xCnt g av i + 1 ∧ xFst g av (i + 1) = upd (xFst g av i) (xCnt g av i) (nI i) ∧ xLst g av (i + 1) = upd (xLst g av i) (xCnt g av i) (nI i) ∧ xNa g av (i + 1) = 0 := by
  obtain ⟨ha, -, hc⟩ := xBg_b hg hb
  refine ⟨hc, ?_, ?_, ?_⟩
  · show (if xBg g av i then _ else _) = _
    rw [hb, if_pos rfl]
  · show (if av i then _ else _) = _
    rw [ha, if_pos rfl, hc, Nat.add_sub_cancel]
  · show (if av i then _ else _) = _
    rw [ha, if_pos rfl]
theorem sc_c {g : Nat} {av : Nat → Bool} {i : Nat} (hg : 1 ≤ g) (hb : xBg g av i = false) (ha : av i = true) : xCnt g av (i + 1) = xCnt g av i ∧ xFst g av (i + 1) = xFst g av i ∧ xLst g av (i + 1) = upd (xLst g av i) (xCnt g av i - 1) (nI i) ∧ xNa g av (i + 1) = 0 := by
  obtain ⟨hc, -⟩ := xNb_b hg hb
  refine ⟨hc, ?_, ?_, ?_⟩
  · show (if xBg g av i then _ else _) = _
    rw [hb, if_neg (by decide)]
  · show (if av i then _ else _) = _
    rw [ha, if_pos rfl, hc]
  · show (if av i then _ else _) = _
    rw [ha, if_pos rfl]
/-- what the law keeps of the first minutes, a step on -/
theorem bS_n {g : Nat} {av : Nat → Bool} {i : Nat} (hg : 1 ≤ g) (hi : i < 1000) (ha : av i = false) : fvL g av (i + 1) = fvL g av i ∧ lvL g av (i + 1) = lvL g av i ∧ bS g av (i + 1) = bS g av i ∧ bS g av i i = -1 := by
  obtain ⟨h1, h2, h3, h4⟩ := sc_n (g := g) ha
  refine ⟨?_, ?_, ?_, ?_⟩
  · unfold fvL
    rw [h1, h2]
  · unfold lvL
    rw [h1, h4]
    by_cases h0 : xCnt g av i = 0
    · rw [if_pos h0, if_pos h0]
    · rw [if_neg h0, if_neg h0]
      exact congrArg nI (by omega)
  · unfold bS
    rw [h1, h2, h3]
  · refine ownB_out (fun e he q => ?_)
    obtain ⟨a, b, -, e2, -, e4⟩ := xF_rng (av := av) hg i e he
    rw [e2] at q
    have := (n_le (by omega) (by omega)).mp q
    omega
theorem bS_b {g : Nat} {av : Nat → Bool} {i : Nat} (hg : 1 ≤ g) (hi : i < 1000) (hb : xBg g av i = true) : fvL g av (i + 1) = nI i ∧ lvL g av (i + 1) = nI i ∧ (∀ m, m < i → bS g av (i + 1) m = bS g av i m) ∧ bS g av (i + 1) i = nI i := by
  obtain ⟨h1, h2, h3, h4⟩ := sc_b hg hb
  have e9 : ∀ m, bS g av (i + 1) m = if nI i ≤ nI m ∧ nI m ≤ nI i then nI i else bS g av i m := by
    intro m
    unfold bS
    rw [h1, h2, h3]
    show (if upd (xFst g av i) (xCnt g av i) (nI i) (xCnt g av i) ≤ nI m ∧ nI m ≤ upd (xLst g av i) (xCnt g av i) (nI i) (xCnt g av i) then upd (xFst g av i) (xCnt g av i) (nI i) (xCnt g av i) else ownB (upd (xFst g av i) (xCnt g av i) (nI i)) (upd (xLst g av i) (xCnt g av i) (nI i)) (xCnt g av i) m) = _
    rw [upd_s, upd_s, ownB_cong (fs' := xFst g av i) (ls' := xLst g av i) (fun e he => ⟨upd_n (by omega), upd_n (by omega)⟩)]
  refine ⟨?_, ?_, fun m hm => ?_, ?_⟩
  · unfold fvL
    rw [h1, h2, if_neg (by omega), Nat.add_sub_cancel, upd_s]
  · unfold lvL
    rw [h1, h4, if_neg (by omega)]
    rfl
  · rw [e9, if_neg]
    rintro ⟨q, -⟩
    have := (n_le (by omega) (by omega)).mp q
    omega
  · rw [e9, if_pos ⟨i_le.mpr (Int.le_refl _), i_le.mpr (Int.le_refl _)⟩]
theorem bS_c {g : Nat} {av : Nat → Bool} {i : Nat} (hg : 1 ≤ g) (hi : i < 1000) (hb : xBg g av i = false) (ha : av i = true) :
    1 ≤ xCnt g av i ∧ xNa g av i < g ∧ xNa g av i < i ∧ fvL g av (i + 1) = fvL g av i ∧ lvL g av (i + 1) = nI i ∧ (∀ m, m + xNa g av i < i → bS g av (i + 1) m = bS g av i m) ∧ (∀ m, i ≤ m + xNa g av i → m ≤ i → bS g av (i + 1) m = fvL g av i) ∧ (∃ a, fvL g av i = nI a ∧ a < i) := by
  obtain ⟨h1, h2, h3, h4⟩ := sc_c hg hb ha
  obtain ⟨-, h5⟩ := xNb_b hg hb
  obtain ⟨h6, h7⟩ := h5 ha
  obtain ⟨h8, h9⟩ := xNa_1 hg i h6
  obtain ⟨c, hc⟩ : ∃ c, xCnt g av i = c + 1 := ⟨xCnt g av i - 1, by omega⟩
  obtain ⟨a, b, f1, f2, f3, f4⟩ := xF_rng (av := av) hg i c (by omega)
  rw [hc, Nat.add_sub_cancel, f2] at h9
  have hbl : b = i - 1 - xNa g av i := (nI_eq (by omega) (by omega)).mp h9
  have e9 : ∀ m, bS g av (i + 1) m = if nI a ≤ nI m ∧ nI m ≤ nI i then nI a else ownB (xFst g av i) (xLst g av i) c m := by
    intro m
    unfold bS
    rw [h1, h2, h3, hc, Nat.add_sub_cancel]
    show (if xFst g av i c ≤ nI m ∧ nI m ≤ upd (xLst g av i) c (nI i) c then xFst g av i c else ownB (xFst g av i) (upd (xLst g av i) c (nI i)) c m) = _
    rw [upd_s, f1, ownB_cong (fs' := xFst g av i) (ls' := xLst g av i) (fun e he => ⟨rfl, upd_n (by omega)⟩)]
  have e8 : ∀ m, bS g av i m = if nI a ≤ nI m ∧ nI m ≤ nI b then nI a else ownB (xFst g av i) (xLst g av i) c m := by
    intro m
    unfold bS
    rw [hc]
    show (if xFst g av i c ≤ nI m ∧ nI m ≤ xLst g av i c then xFst g av i c else _) = _
    rw [f1, f2]
  have ef : fvL g av i = nI a := by
    unfold fvL
    rw [if_neg (by omega), hc, Nat.add_sub_cancel, f1]
  refine ⟨h6, h7, h8, ?_, ?_, fun m hm => ?_, fun m hm hm2 => ?_, a, ef, by omega⟩
  · unfold fvL
    rw [h1, h2]
  · unfold lvL
    rw [h1, h4, if_neg (by omega)]
    rfl
  · rw [e9, e8]
    by_cases q : nI a ≤ nI m
    · rw [if_pos ⟨q, (n_le (by omega) (by omega)).mpr (by omega)⟩, if_pos ⟨q, (n_le (by omega) (by omega)).mpr (by omega)⟩]
    · rw [if_neg (fun z => q z.1), if_neg (fun z => q z.1)]
  · rw [e9, if_pos ⟨(n_le (by omega) (by omega)).mpr (by omega), (n_le (by omega) (by omega)).mpr hm2⟩, ef]
/-- no exceedance yet, or a first minute that is one -/
theorem fv_neg {g : Nat} {av : Nat → Bool} {i : Nat} (hg : 1 ≤ g) (hi : i < 1000) : fvL g av i < 0 ↔ xCnt g av i = 0 := by
  constructor
  · intro h
    by_cases h0 : xCnt g av i = 0
    · exact h0
    · exfalso
      unfold fvL at h
      rw [if_neg h0] at h
      obtain ⟨a, b, f1, -, f3, f4⟩ := xF_rng (av := av) hg i (xCnt g av i - 1) (by omega)
      rw [f1] at h
      exact nI_pos (by omega) h
  · intro h
    unfold fvL
    rw [if_pos h]
    decide
/-- last is that of the latest exceedance: how many minutes lie between -/
theorem lv_gap {g : Nat} {av : Nat → Bool} {i : Nat} (hg : 1 ≤ g) (hi : i < 1000) (h : 1 ≤ xCnt g av i) : nI i - lvL g av i - 1 = nI (xNa g av i) := by
  obtain ⟨h1, -⟩ := xNa_1 hg i h
  unfold lvL
  rw [if_neg (by omega)]
  refine i_eq.mpr ?_
  have e1 : (nI i - nI (i - 1 - xNa g av i)).toInt = (xNa g av i : Int) + 1 := by
    rw [i_sub] <;> rw [i_nI (by omega), i_nI (by omega)] <;> omega
  have e2 : (1 : Int32).toInt = 1 := rfl
  have e9 : (nI (xNa g av i)).toInt = (xNa g av i : Int) := i_nI (by omega)
  rw [e9]
  rw [i_sub] <;> rw [e1, e2] <;> omega
theorem xBg_iff {g : Nat} {av : Nat → Bool} {i : Nat} (ha : av i = true) : xBg g av i = decide (g ≤ xNa g av i) := by
  unfold xBg
  rw [ha, Bool.true_and]
