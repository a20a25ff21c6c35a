/-! complaints: in which order, and to which exceedance -/
def sBst (fs ls pk co : Nat → Int32) (c p : Int32) : Nat → Nat
  | 0 => 0
  | e + 1 => if co e = -1 ∧ fs e ≤ c ∧ c - p ≤ ls e ∧ (sBst fs ls pk co c p e = 0 ∨ pk (sBst fs ls pk co c p e - 1) < pk e) then e + 1 else sBst fs ls pk co c p e
theorem sBst_le (fs ls pk co : Nat → Int32) (c p : Int32) : ∀ e, sBst fs ls pk co c p e ≤ e
  | 0 => Nat.le_refl 0
  | e + 1 => by
    have := sBst_le fs ls pk co c p e
    unfold sBst
    split <;> omega
theorem sBst_cong {fs ls pk co fs' ls' pk' co' : Nat → Int32} {c p : Int32} : ∀ {n : Nat}, (∀ e, e < n → fs e = fs' e ∧ ls e = ls' e ∧ pk e = pk' e ∧ co e = co' e) → sBst fs ls pk co c p n = sBst fs' ls' pk' co' c p n
  | 0, _ => rfl
  | n + 1, h => by
    have h1 := sBst_cong (fs := fs) (ls := ls) (pk := pk) (co := co) (fs' := fs') (ls' := ls') (pk' := pk') (co' := co') (c := c) (p := p) (n := n) (fun e he => h e (by omega))
    obtain ⟨a1, a2, a3, a4⟩ := h n (by omega)
    have hle := sBst_le fs' ls' pk' co' c p n
    unfold sBst
    rw [h1, a1, a2, a3, a4]
    by_cases h0 : sBst fs' ls' pk' co' c p n = 0
    · rw [h0]
      simp
    · rw [(h (sBst fs' ls' pk' co' c p n - 1) (by omega)).2.2.1]
abbrev MS : Type := (Nat → Int32) × (Nat → Int32) × Nat
def mStep (fs ls pk cm : Nat → Int32) (p : Int32) (n : Nat) (S : MS) (k : Nat) : MS :=
  if sBst fs ls pk S.1 (cm k) p n = 0 then (S.1, upd S.2.1 k (-1), S.2.2) else (upd S.1 (sBst fs ls pk S.1 (cm k) p n - 1) (nI k), upd S.2.1 k (nI (sBst fs ls pk S.1 (cm k) p n - 1)), S.2.2 + 1)
def mRun (fs ls pk cm : Nat → Int32) (p : Int32) (n : Nat) (l : List Nat) : MS := l.foldl (mStep fs ls pk cm p n) (fun _ => -1, fun _ => -1, 0)
theorem mRun_snoc {fs ls pk cm : Nat → Int32} {p : Int32} {n k : Nat} {l : List Nat} : mRun fs ls pk cm p n (l ++ [k]) = mStep fs ls pk cm p n (mRun fs ls pk cm p n l) k := by
  unfold mRun
  rw [List.foldl_append]
  rfl
/-- the complaints of the minutes before v, by minute and number -/
def mL (cm : Nat → Int32) (c : Nat) : Nat → List Nat
  | 0 => []
  | v + 1 => mL cm c v ++ (List.range c).filter (fun k => decide (cm k = nI v))
def mR (cm : Nat → Int32) (c v : Nat) : Nat → List Nat
  | 0 => []
  | d + 1 => mR cm c v d ++ (List.range c).filter (fun k => decide (cm k = nI (v + 1 + d)))
theorem mL_add (cm : Nat → Int32) (c v : Nat) : ∀ d, mL cm c (v + 1 + d) = mL cm c (v + 1) ++ mR cm c v d
  | 0 => (List.append_nil _).symm
  | d + 1 => by
    show mL cm c (v + 1 + d) ++ _ = _
    rw [mL_add cm c v d, List.append_assoc]
    rfl
theorem nI_ne {a b : Nat} (ha : a < 2 ^ 31) (hb : b < 2 ^ 31) (h : a ≠ b) : nI a ≠ nI b := fun q => by
  have := congrArg Int32.toInt q
  rw [i_nI ha, i_nI hb] at this
  omega
theorem fil_new {cm : Nat → Int32} {c v w : Nat} (hv : v < 2 ^ 31) (hw : w < 2 ^ 31) (hc : cm c = nI v) : (List.range (c + 1)).filter (fun k => decide (cm k = nI w)) = (List.range c).filter (fun k => decide (cm k = nI w)) ++ (if w = v then [c] else []) := by
  rw [List.range_succ, List.filter_append]
  congr 1
  by_cases h : w = v
  · subst h
    simp [hc]
  · rw [if_neg h, List.filter_cons, if_neg]
    · rfl
    · rw [hc]
      simp only [decide_eq_true_eq]
      exact nI_ne hv hw (fun q => h q.symm)
theorem mL_low {cm : Nat → Int32} {c v : Nat} (hv : v < 1000) (hc : cm c = nI v) : ∀ w, w ≤ v → mL cm (c + 1) w = mL cm c w
  | 0, _ => rfl
  | w + 1, h => by
    show mL cm (c + 1) w ++ _ = mL cm c w ++ _
    rw [mL_low hv hc w (by omega), fil_new (v := v) (by omega) (by omega) hc, if_neg (by omega), List.append_nil]
theorem mR_new {cm : Nat → Int32} {c v : Nat} (hv : v < 1000) (hc : cm c = nI v) : ∀ d, d < 1000 → mR cm (c + 1) v d = mR cm c v d
  | 0, _ => rfl
  | d + 1, h => by
    show mR cm (c + 1) v d ++ _ = mR cm c v d ++ _
    rw [mR_new hv hc d (by omega), fil_new (v := v) (by omega) (by omega) hc, if_neg (by omega), List.append_nil]
/-- one complaint more is put in behind those of its minute and before -/
theorem mL_new {cm : Nat → Int32} {c v d : Nat} (hv : v < 1000) (hd : d < 1000) (hc : cm c = nI v) : mL cm (c + 1) (v + 1 + d) = mL cm c (v + 1) ++ c :: mR cm c v d := by
  rw [mL_add, mR_new hv hc d hd]
  show (mL cm (c + 1) v ++ _) ++ _ = (mL cm c v ++ _) ++ _
  rw [mL_low hv hc v (Nat.le_refl _), fil_new (v := v) (by omega) (by omega) hc, if_pos rfl]
  simp
theorem mL_mem {cm : Nat → Int32} {c k : Nat} : ∀ {v : Nat}, k ∈ mL cm c v → k < c ∧ ∃ w, w < v ∧ cm k = nI w
  | 0, h => absurd h (List.not_mem_nil)
  | v + 1, h => by
    rcases List.mem_append.mp h with h | h
    · obtain ⟨a, w, b, e⟩ := mL_mem h
      exact ⟨a, w, by omega, e⟩
    · obtain ⟨a, b⟩ := List.mem_filter.mp h
      exact ⟨List.mem_range.mp a, v, by omega, of_decide_eq_true b⟩
theorem mR_mem {cm : Nat → Int32} {c v k : Nat} : ∀ {d : Nat}, k ∈ mR cm c v d → k < c ∧ ∃ w, v < w ∧ w ≤ v + d ∧ cm k = nI w
  | 0, h => absurd h (List.not_mem_nil)
  | d + 1, h => by
    rcases List.mem_append.mp h with h | h
    · obtain ⟨a, w, b, b2, e⟩ := mR_mem h
      exact ⟨a, w, b, by omega, e⟩
    · obtain ⟨a, b⟩ := List.mem_filter.mp h
      exact ⟨List.mem_range.mp a, v + 1 + d, by omega, by omega, of_decide_eq_true b⟩
theorem mL_all {cm : Nat → Int32} {c k w : Nat} (hk : k < c) (hw : cm k = nI w) : ∀ {v : Nat}, w < v → k ∈ mL cm c v
  | 0, h => absurd h (Nat.not_lt_zero w)
  | v + 1, h => by
    refine List.mem_append.mpr ?_
    by_cases hv : w = v
    · subst hv
      exact Or.inr (List.mem_filter.mpr ⟨List.mem_range.mpr hk, decide_eq_true hw⟩)
    · exact Or.inl (mL_all hk hw (by omega))
theorem mL_nodup {cm : Nat → Int32} {c : Nat} : ∀ {v : Nat}, v < 2 ^ 31 → (mL cm c v).Nodup
  | 0, _ => List.nodup_nil
  | v + 1, h => by
    refine List.nodup_append.mpr ⟨mL_nodup (by omega), List.Pairwise.filter _ List.nodup_range, fun a ha b hb hab => ?_⟩
    subst hab
    obtain ⟨-, w, hw, e⟩ := mL_mem ha
    have e2 := of_decide_eq_true (List.mem_filter.mp hb).2
    exact nI_ne (by omega) (by omega) (show w ≠ v by omega) (e.symm.trans e2)
theorem mL_len {cm : Nat → Int32} : ∀ {c : Nat}, (∀ k, k < c → ∃ w, w ≤ 300 ∧ cm k = nI w) → (mL cm c 301).length = c
  | 0, _ => by
    have : ∀ v, mL cm 0 v = [] := fun v => by
      induction v with
      | zero => rfl
      | succ v ih =>
        show mL cm 0 v ++ _ = _
        rw [ih]
        rfl
    rw [this]
    rfl
  | c + 1, h => by
    obtain ⟨w, hw, e⟩ := h c (by omega)
    have ih := mL_len (cm := cm) (c := c) (fun k hk => h k (by omega))
    have e1 : (301 : Nat) = w + 1 + (300 - w) := by omega
    rw [e1, mL_add] at ih
    rw [e1, mL_new (by omega) (by omega) e]
    simp only [List.length_append, List.length_cons] at ih ⊢
    omega
/-- how many are matched -/
theorem cB_flip {p : Nat → Bool} {k : Nat} (hp : p k = false) : ∀ {n : Nat}, cB (fun j => if j = k then true else p j) n = cB p n + (if k < n then 1 else 0)
  | 0 => rfl
  | n + 1 => by
    unfold cB
    rw [cB_flip hp (n := n)]
    by_cases h : n = k
    · subst h
      rw [hp]
      simp
    · simp only [if_neg h]
      by_cases h2 : k < n
      · rw [if_pos h2, if_pos (show k < n + 1 by omega)]
        omega
      · rw [if_neg h2, if_neg (show ¬ k < n + 1 by omega)]
        omega
theorem mFold_cnt {fs ls pk cm : Nat → Int32} {p : Int32} {n nc : Nat} (hn : n < 2 ^ 31) : ∀ (l : List Nat) (S : MS), l.Nodup → (∀ k, k ∈ l → k < nc) → (∀ k, k ∈ l → S.2.1 k = -1) → S.2.2 = cB (fun k => decide (S.2.1 k ≠ -1)) nc →
    (l.foldl (mStep fs ls pk cm p n) S).2.2 = cB (fun k => decide ((l.foldl (mStep fs ls pk cm p n) S).2.1 k ≠ -1)) nc
  | [], S, _, _, _, h => h
  | k :: l, S, hd, hl, he, h => by
    have hd1 := List.nodup_cons.mp hd
    refine mFold_cnt hn l _ hd1.2 (fun j hj => hl j (List.mem_cons_of_mem _ hj)) (fun j hj => ?_) ?_
    · have hjk : j ≠ k := fun q => hd1.1 (by rw [← q]; exact hj)
      have := he j (List.mem_cons_of_mem _ hj)
      unfold mStep
      split
      · show upd _ _ _ j = _
        rw [upd_n hjk, this]
      · show upd _ _ _ j = _
        rw [upd_n hjk, this]
    · have hk := he k List.mem_cons_self
      have hkn := hl k List.mem_cons_self
      have hle := sBst_le fs ls pk S.1 (cm k) p n
      unfold mStep
      by_cases h0 : sBst fs ls pk S.1 (cm k) p n = 0
      · rw [if_pos h0]
        show S.2.2 = cB (fun j => decide (upd S.2.1 k (-1) j ≠ -1)) nc
        rw [h]
        refine cB_cong (fun j hj => ?_)
        by_cases hjk : j = k
        · subst hjk
          rw [upd_s, hk]
        · rw [upd_n hjk]
      · rw [if_neg h0]
        show S.2.2 + 1 = cB (fun j => decide (upd S.2.1 k _ j ≠ -1)) nc
        have := cB_flip (p := fun j => decide (S.2.1 j ≠ -1)) (k := k) (by simp [hk]) (n := nc)
        rw [if_pos hkn] at this
        rw [h, ← this]
        refine cB_cong (fun j hj => ?_)
        by_cases hjk : j = k
        · subst hjk
          simp only [if_pos, upd_s]
          refine (decide_eq_true ?_).symm
          intro q
          have := congrArg Int32.toInt q
          rw [i_nI (by omega)] at this
          have em : (-1 : Int32).toInt = -1 := by decide
          omega
        · rw [if_neg hjk, upd_n hjk]
theorem mRun_cnt {fs ls pk cm : Nat → Int32} {p : Int32} {n nc v : Nat} (hn : n < 2 ^ 31) (hv : v < 2 ^ 31) :
    (mRun fs ls pk cm p n (mL cm nc v)).2.2 = cB (fun k => decide ((mRun fs ls pk cm p n (mL cm nc v)).2.1 k ≠ -1)) nc := by
  unfold mRun
  refine mFold_cnt hn _ _ (mL_nodup hv) (fun k hk => (mL_mem hk).1) (fun k hk => rfl) ?_
  have : ∀ m, cB (fun k => decide (((fun _ => -1 : Nat → Int32) k) ≠ -1)) m = 0 := fun m => by
    induction m with
    | zero => rfl
    | succ m ih =>
      unfold cB
      rw [ih]
      rfl
  exact (this nc).symm
