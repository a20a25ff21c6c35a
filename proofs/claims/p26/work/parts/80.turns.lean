/-! the start, and every turn -/
def d0 : Dt := (fun _ => 0, fun _ => 0, fun _ => 0, STb 2, 0, 0)
theorem d0_V : Vd d0 := by
  refine ⟨by decide, by decide, fun m _ => ⟨rfl, rfl⟩, fun m hm => absurd hm (Nat.not_lt_zero m), ?_, fun k hk => absurd hk (Nat.not_lt_zero k)⟩
  show stOK (STb 2)
  unfold stOK
  decide
theorem mL_0 (cm : Nat → Int32) : mL cm 0 301 = [] := List.length_eq_zero_iff.mp (mL_len (c := 0) (fun k hk => absurd hk (Nat.not_lt_zero k)))
theorem dM_0 (lv wd st cm : Nat → Int32) : (dM lv wd st cm 0 0).2.2 = 0 := by
  unfold dM
  rw [mL_0]
  rfl
theorem V_0 : V 54 (fun _ => 0) (fun _ => 0) (STb 2) (fun _ => 0) 0 0 M0 := by
  unfold V
  rw [dM_0]
  refine ⟨⟨by decide, by decide, by decide, by decide, by decide⟩, fun m hm => absurd hm (Nat.not_lt_zero m), ⟨⟨by decide, fun e he => absurd he (Nat.not_lt_zero e)⟩, ?_, fun m hm => absurd hm (Nat.not_lt_zero m)⟩, ⟨by decide, by decide, fun k hk => absurd hk (Nat.not_lt_zero k), fun e he => absurd he (Nat.not_lt_zero e)⟩, fun k _ => rfl⟩
  show M0 60 7 = if gO (STb 2) < gO (STb 2) then 1 else 0
  rw [if_neg (Nat.lt_irrefl _)]
  decide
/-- class and law's post agree before turn j -/
def Rel (j : Nat) (M : Mem) : Prop := ∃ d D next kept, Cr d D next kept M ∧ LzD d M ∧ LcD d M ∧ (j = 0 → d.2.2.2.2.1 = 0) ∧ (0 < j → 0 < kept)
theorem cr_0 : Cr d0 (fun _ => d0) 0 0 M0 := by
  refine ⟨d0_V, ⟨by decide, by decide, fun m hm => absurd hm (Nat.not_lt_zero m), fun k _ => rfl, fun k hk => absurd hk (Nat.not_lt_zero k)⟩, trivial, ⟨V_0, fun l _ => ?_⟩, ⟨by decide, by decide, by decide, by decide, fun j hj => absurd hj (Nat.not_lt_zero j)⟩, trivial, fun j hj => absurd hj (Nat.not_lt_zero j), trivial⟩
  show M0 89 l = nI 0
  rfl
theorem lz_0 : LzD d0 M0 := by
  refine ⟨by decide, by decide, fun m hm => absurd hm (Nat.not_lt_zero m), fun k hk => ?_⟩
  rcases (show k = 0 ∨ k = 1 ∨ k = 2 ∨ k = 3 ∨ k = 4 ∨ k = 5 ∨ k = 6 ∨ k = 7 ∨ k = 8 ∨ k = 9 by omega) with rfl | rfl | rfl | rfl | rfl | rfl | rfl | rfl | rfl | rfl <;> decide
theorem lc_0 : LcD d0 M0 := ⟨by decide, by decide, fun k hk => absurd hk (Nat.not_lt_zero k)⟩
theorem rel_0 : ∃ M1, f_L_told 3 M0 = some (1, M1) ∧ f_X8_count 10 M1 = some 0 ∧ Rel 0 M1 := by
  obtain ⟨⟨r, M1⟩, h1, h2, h3⟩ := told_l 3 cr_0 lz_0 lc_0
  dsimp only at h2 h3
  subst h2
  have hc : Cr d0 (fun _ => d0) 0 0 M1 := Cr_off cr_0 (fun c hc => h3 c (by omega))
  refine ⟨M1, h1, ?_, d0, fun _ => d0, 0, 0, hc, Lz_off lz_0 (fun c a b => h3 c (by omega)), Lc_off lc_0 (fun c a b => h3 c (by omega)), fun _ => rfl, fun q => absurd q (Nat.lt_irrefl 0)⟩
  have := count_a (a := 10) hc (by decide)
  rw [if_pos rfl] at this
  exact this
theorem rel_s (j : Nat) (u v : Int32) (M : Mem) (hj : j < 20) (hR : Rel j M) : TurnOK j (u &&& 2147483647) (v &&& 2147483647) M (Rel (j + 1)) := by
  obtain ⟨d, D, next, kept, h, hz, hc, h0, h1⟩ := hR
  generalize u &&& 2147483647 = x
  generalize v &&& 2147483647 = y
  have go : ∀ a : Int32, (if j < 3 then a = 0 else f_L_at (x >>> (13 &&& 31)) 16 M = some a) → TurnOK j x y M (Rel (j + 1)) := by
    intro a ha
    obtain ⟨⟨r1, M1⟩, e1, e2, d', D', next', kept', g1, g2, g3, g4, g5⟩ := act_l a x y h hz hc
    dsimp only at e2 g1 g2 g3
    subst e2
    obtain ⟨⟨r2, M2⟩, f1, f2, f3⟩ := told_l (y >>> (2 &&& 31)) g1 g2 g3
    dsimp only at f2 f3
    subst f2
    have hk : 0 < kept' := by
      rcases Nat.eq_zero_or_pos j with q | q
      · exact g5 (h0 q)
      · exact Nat.lt_of_lt_of_le (h1 q) g4
    have c2 : Cr d' D' next' kept' M2 := Cr_off g1 (fun c hc => f3 c (by omega))
    have z2 : LzD d' M2 := Lz_off g2 (fun c a b => f3 c (by omega))
    have l2 : LcD d' M2 := Lc_off g3 (fun c a b => f3 c (by omega))
    refine ⟨a, M1, M2, ha, e1, f1, ?_⟩
    by_cases h5 : j % 6 = 5
    · rw [if_pos h5]
      obtain ⟨⟨r3, M3⟩, k1, k2, k3, k4, k5⟩ := ahead_l (y >>> (2 &&& 31)) (x >>> (2 &&& 31)) c2 z2 l2
      dsimp only at k2 k3 k4 k5
      subst k2
      exact ⟨M3, k1, d', D', next', kept', k3, k4, k5, fun q => by omega, fun _ => hk⟩
    · rw [if_neg h5]
      exact ⟨d', D', next', kept', c2, z2, l2, fun q => by omega, fun _ => hk⟩
  by_cases h3 : j < 3
  · exact go 0 (by rw [if_pos h3])
  · obtain ⟨k, hk, ek⟩ := ats (x >>> (13 &&& 31)) (n := 16) (by decide) (by decide)
    exact go (nI k) (by rw [if_neg h3]; exact ek M)
theorem rel_e (M : Mem) (hR : Rel 20 M) : ∃ r, f_X8_count 10 M = some r ∧ 0 < r := by
  obtain ⟨d, D, next, kept, h, -, -, -, h1⟩ := hR
  have hk := h1 (by decide)
  have h8 := h.2.2.2.2.1.2.1
  have := count_a (a := 10) h (by decide)
  rw [if_pos rfl] at this
  exact ⟨nI kept, this, (n_lt (a := 0) (by decide) (by omega)).mpr hk⟩
