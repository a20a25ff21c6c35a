/-! the text: what it says, step by step -/
abbrev TS : Type := Nat × Nat × Nat × (Nat → Nat) × (Nat → Nat → Nat)
def u0 : Nat → Nat := fun k => if k = 2 then 1 else 0
def tInit : TS := (0, 0, 0, u0, fun _ _ => 0)
def tMost (f : Nat) : Nat := if f = 0 then 140 else if f = 1 then 40 else 60
def nup (f : Nat → Nat) (k v : Nat) : Nat → Nat := fun j => if j = k then v else f j
def tup (T : Nat → Nat → Nat) (p : Nat) (u : Nat → Nat) : Nat → Nat → Nat := fun q => if q = p then u else T q
theorem nup_s {f : Nat → Nat} {k v : Nat} : nup f k v k = v := by unfold nup; rw [if_pos rfl]
theorem nup_n {f : Nat → Nat} {k v j : Nat} (h : j ≠ k) : nup f k v j = f j := by unfold nup; rw [if_neg h]
theorem tup_s {T : Nat → Nat → Nat} {p : Nat} {u : Nat → Nat} : tup T p u p = u := by unfold tup; rw [if_pos rfl]
theorem tup_n {T : Nat → Nat → Nat} {p q : Nat} {u : Nat → Nat} (h : q ≠ p) : tup T p u q = T q := by unfold tup; rw [if_neg h]
abbrev tWh (f g : Nat) (u : Nat → Nat) : Prop := 0 < g ∧ (f < 2 ∨ 2 ≤ u f)
def tDig (e p f g : Nat) (u : Nat → Nat) (T : Nat → Nat → Nat) : Option TS :=
  if g = 0 then (if f < 2 ∨ 0 < e then some (p, f, 1, nup u f e, T) else none) else (if 0 < u f ∧ 10 * u f + e ≤ tMost f then some (p, f, g + 1, nup u f (10 * u f + e), T) else none)
def tStep (c : Int32) (p f g : Nat) (u : Nat → Nat) (T : Nat → Nat → Nat) : Option TS :=
  if 48 ≤ c ∧ c ≤ 57 then tDig (c.toInt.toNat - 48) p f g u T
  else if 0 < g ∧ c = 64 ∧ f = 0 then some (p, 1, 0, u, T)
  else if 0 < g ∧ c = 42 ∧ f < 2 then some (p, 2, 0, u, T)
  else if c = 59 ∧ tWh f g u then some (p + 1, 0, 0, u0, tup T p u)
  else none
def tAt (code : Nat → Int32) : Nat → Option TS
  | 0 => some tInit
  | i + 1 => (tAt code i).bind fun S => tStep (code i) S.1 S.2.1 S.2.2.1 S.2.2.2.1 S.2.2.2.2
def TV (i : Nat) (S : TS) : Prop := 2 * S.1 + (if S.2.1 = 0 ∧ S.2.2.1 = 0 then 0 else 1) ≤ i ∧ S.2.1 < 3 ∧ S.2.2.1 ≤ i ∧ (∀ k, k < 3 → S.2.2.2.1 k ≤ tMost k) ∧ 1 ≤ S.2.2.2.1 2 ∧ ∀ q, q < S.1 → S.2.2.2.2 q 0 ≤ 140 ∧ 1 ≤ S.2.2.2.2 q 2 ∧ S.2.2.2.2 q 2 ≤ 60
theorem tMost_b (f : Nat) : 40 ≤ tMost f ∧ tMost f ≤ 140 := by
  unfold tMost
  split
  · omega
  · split <;> omega
theorem dig_e {c : Int32} (h : 48 ≤ c ∧ c ≤ 57) : c - 48 = nI (c.toInt.toNat - 48) ∧ c.toInt.toNat - 48 ≤ 9 := by
  have h1 := i_le.mp h.1
  have h2 := i_le.mp h.2
  have e1 : (48 : Int32).toInt = 48 := rfl
  have e2 : (57 : Int32).toInt = 57 := rfl
  refine ⟨i_eq.mpr ?_, by omega⟩
  rw [i_sub] <;> rw [e1]
  · rw [i_nI (by omega)]
    omega
  · omega
  · omega
theorem TV_0 : TV 0 tInit := by
  refine ⟨by decide, by decide, by decide, fun k hk => ?_, by decide, fun q hq => absurd hq (Nat.not_lt_zero q)⟩
  have := tMost_b k
  show u0 k ≤ _
  unfold u0
  split <;> omega
theorem TV_s {i p f g : Nat} {u : Nat → Nat} {T : Nat → Nat → Nat} {c : Int32} {S : TS} (h : TV i (p, f, g, u, T)) (hs : tStep c p f g u T = some S) : TV (i + 1) S := by
  obtain ⟨h1, h2, h3, h4, h5, h6⟩ := h
  dsimp only at h1 h2 h3 h4 h5 h6
  unfold tStep at hs
  have hc1 : 2 * p + 1 ≤ i + 1 := by
    split at h1 <;> omega
  split at hs
  · next hd =>
    have he := (dig_e hd).2
    unfold tDig at hs
    split at hs
    · next hg =>
      split at hs
      · next hf =>
        cases hs
        refine ⟨?_, h2, by dsimp only; omega, fun k hk => ?_, ?_, h6⟩
        · dsimp only
          split <;> omega
        · dsimp only
          by_cases hkf : k = f
          · rw [hkf, nup_s]
            have := tMost_b f
            omega
          · rw [nup_n hkf]
            exact h4 k hk
        · dsimp only
          by_cases hkf : 2 = f
          · rw [← hkf, nup_s]
            omega
          · rw [nup_n hkf]
            exact h5
      · cases hs
    · next hg =>
      split at hs
      · next hf =>
        cases hs
        refine ⟨?_, h2, by dsimp only; omega, fun k hk => ?_, ?_, h6⟩
        · dsimp only
          split <;> omega
        · dsimp only
          by_cases hkf : k = f
          · rw [hkf, nup_s]
            exact hf.2
          · rw [nup_n hkf]
            exact h4 k hk
        · dsimp only
          by_cases hkf : 2 = f
          · rw [← hkf, nup_s]
            have := hf.1
            rw [← hkf] at this
            omega
          · rw [nup_n hkf]
            exact h5
      · cases hs
  · split at hs
    · next hg =>
      cases hs
      refine ⟨?_, (by decide : (1 : Nat) < 3), Nat.zero_le _, h4, h5, h6⟩
      dsimp only
      split <;> omega
    · split at hs
      · next hg =>
        cases hs
        refine ⟨?_, (by decide : (2 : Nat) < 3), Nat.zero_le _, h4, h5, h6⟩
        dsimp only
        split <;> omega
      · split at hs
        · next hg =>
          cases hs
          have hg0 := hg.2.1
          refine ⟨?_, (by decide : (0 : Nat) < 3), Nat.zero_le _, fun k hk => ?_, (by decide : 1 ≤ u0 2), fun q hq => ?_⟩
          · dsimp only
            rw [if_neg (by omega)] at h1
            rw [if_pos ⟨rfl, rfl⟩]
            omega
          · exact TV_0.2.2.2.1 k hk
          · dsimp only at hq ⊢
            by_cases hqp : q = p
            · rw [hqp, tup_s]
              have a := h4 0 (by decide)
              have b := h4 2 (by decide)
              have t0 : tMost 0 = 140 := rfl
              have t2 : tMost 2 = 60 := rfl
              omega
            · rw [tup_n hqp]
              exact h6 q (by omega)
        · cases hs
theorem tAt_V {code : Nat → Int32} : ∀ {i : Nat} {S : TS}, tAt code i = some S → TV i S
  | 0, S, h => by
    cases h
    exact TV_0
  | i + 1, S, h => by
    obtain ⟨S0, h1, h2⟩ := Option.bind_eq_some_iff.mp h
    exact TV_s (tAt_V h1) h2
/-- where the reading ends -/
def Rd (code : Nat → Int32) (t i : Nat) (S : TS) : Prop := i ≤ t ∧ tAt code i = some S ∧ (i = t ∨ tStep (code i) S.1 S.2.1 S.2.2.1 S.2.2.2.1 S.2.2.2.2 = none)
theorem tAt_none {code : Nat → Int32} {i : Nat} (h : tAt code i = none) : ∀ d, tAt code (i + d) = none
  | 0 => h
  | d + 1 => by
    show (tAt code (i + d)).bind _ = none
    rw [tAt_none h d]
    rfl
theorem Rd_lt {code : Nat → Int32} {t i j : Nat} {S S' : TS} (h : Rd code t i S) (h' : Rd code t j S') : ¬ i < j := by
  intro hij
  obtain ⟨h1, h2, h3⟩ := h
  obtain ⟨k1, k2, k3⟩ := h'
  rcases h3 with h3 | h3
  · omega
  · have hn : tAt code (i + 1) = none := by
      show (tAt code i).bind _ = none
      rw [h2]
      exact h3
    have := tAt_none hn (j - (i + 1))
    rw [show i + 1 + (j - (i + 1)) = j by omega, k2] at this
    cases this
theorem Rd_eq {code : Nat → Int32} {t i j : Nat} {S S' : TS} (h : Rd code t i S) (h' : Rd code t j S') : i = j ∧ S = S' := by
  have a := Rd_lt h h'
  have b := Rd_lt h' h
  have e : i = j := by omega
  subst e
  have := h.2.1.symm.trans h'.2.1
  cases this
  exact ⟨rfl, rfl⟩
theorem tAt_cong {code code' : Nat → Int32} : ∀ {i : Nat}, (∀ j, j < i → code j = code' j) → tAt code i = tAt code' i
  | 0, _ => rfl
  | i + 1, h => by
    show (tAt code i).bind _ = (tAt code' i).bind _
    rw [tAt_cong (fun j hj => h j (by omega)), h i (by omega)]
def tSum (T : Nat → Nat → Nat) : Nat → Nat
  | 0 => 0
  | q + 1 => tSum T q + T q 2
theorem tSum_cong {T T' : Nat → Nat → Nat} : ∀ {n : Nat}, (∀ q, q < n → T q 2 = T' q 2) → tSum T n = tSum T' n
  | 0, _ => rfl
  | n + 1, h => by
    show tSum T n + T n 2 = tSum T' n + T' n 2
    rw [tSum_cong (fun q hq => h q (by omega)), h n (by omega)]
theorem tSum_b {T : Nat → Nat → Nat} : ∀ {n : Nat}, (∀ q, q < n → T q 2 ≤ 60) → tSum T n ≤ 60 * n
  | 0, _ => Nat.le_refl _
  | n + 1, h => by
    have a := tSum_b (T := T) (n := n) (fun q hq => h q (by omega))
    have b := h n (by omega)
    show tSum T n + T n 2 ≤ _
    omega
theorem tSum_le {T : Nat → Nat → Nat} {k : Nat} : ∀ {n : Nat}, k ≤ n → tSum T k ≤ tSum T n
  | 0, h => by rw [show k = 0 by omega]; exact Nat.le_refl _
  | n + 1, h => by
    by_cases hk : k = n + 1
    · rw [hk]
      exact Nat.le_refl _
    · have := tSum_le (T := T) (k := k) (n := n) (by omega)
      show _ ≤ tSum T n + T n 2
      omega
