/-! the start, and every case -/
def d0 : Dt := (fun _ => 0, fun _ => 0, fun _ => 0, STb 2, 0, 0)
theorem d0_V : Vd d0 := by
  refine ⟨by decide, by decide, fun m _ => ⟨rfl, rfl⟩, fun m hm => absurd hm (Nat.not_lt_zero m), ?_, fun k hk => absurd hk (Nat.not_lt_zero k)⟩
  show stOK (STb 2)
  unfold stOK
  decide
theorem mL_0 (cm : Nat → Int32) : mL cm 0 301 = [] := List.length_eq_zero_iff.mp (mL_len (c := 0) (fun k hk => absurd hk (Nat.not_lt_zero k)))
theorem dM_0 (lv wd st cm : Nat → Int32) : (dM lv wd st cm 0 0).2.2 = 0 := by
  unfold dM
  rw [mL_0]
  rfl
theorem V_0 : V 54 (fun _ => 0) (fun _ => 0) (STb 2) (fun _ => 0) 0 0 M0 := by
  unfold V
  rw [dM_0]
  refine ⟨⟨by decide, by decide, by decide, by decide, by decide⟩, fun m hm => absurd hm (Nat.not_lt_zero m), ⟨⟨by decide, fun e he => absurd he (Nat.not_lt_zero e)⟩, ?_, fun m hm => absurd hm (Nat.not_lt_zero m)⟩, ⟨by decide, by decide, fun k hk => absurd hk (Nat.not_lt_zero k), fun e he => absurd he (Nat.not_lt_zero e)⟩, fun k _ => rfl⟩
  show M0 60 7 = if gO (STb 2) < gO (STb 2) then 1 else 0
  rw [if_neg (Nat.lt_irrefl _)]
  decide
theorem Z_0 : Zc (M0 91) d0 := by
  refine ⟨by decide, by decide, fun m hm => absurd hm (Nat.not_lt_zero m), fun k hk => ?_, fun k hk => absurd hk (Nat.not_lt_zero k)⟩
  rcases (show k = 0 ∨ k = 1 ∨ k = 2 ∨ k = 3 ∨ k = 4 ∨ k = 5 ∨ k = 6 ∨ k = 7 ∨ k = 8 ∨ k = 9 by omega) with rfl | rfl | rfl | rfl | rfl | rfl | rfl | rfl | rfl | rfl <;> decide
theorem rel_0 : Rl M0 L0 := by
  refine ⟨d0, fun _ => d0, 0, 0, d0_V, ⟨by decide, by decide, fun m hm => absurd hm (Nat.not_lt_zero m), fun k _ => rfl, fun k hk => absurd hk (Nat.not_lt_zero k)⟩, Z_0, ⟨V_0, fun l _ => ?_⟩, ⟨by decide, by decide, by decide, by decide, fun j hj => absurd hj (Nat.not_lt_zero j)⟩, ⟨by decide, fun j hj => absurd hj (Nat.not_lt_zero j)⟩, fun j hj => absurd hj (Nat.not_lt_zero j), ⟨0, by decide, by decide, by decide, fun i hi => absurd hi (Nat.not_lt_zero i)⟩⟩
  show M0 89 l = nI 0
  rfl
theorem rel_s (k : Nat) (a1 a2 a3 : Int32) (M : Mem) (L : Lng) (hk : k < 23) (hR : Rl M L) : ∃ out : Mem × Lng, lcs k a1 a2 a3 M L = some (.inl out) ∧ Rl out.1 out.2 := by
  obtain ⟨d, D, next, kept, h⟩ := hR
  rcases (show k = 0 ∨ k = 1 ∨ k = 2 ∨ k = 3 ∨ k = 4 ∨ k = 5 ∨ k = 6 ∨ k = 7 ∨ k = 8 ∨ k = 9 ∨ k = 10 ∨ k = 11 ∨ k = 12 ∨ k = 13 ∨ k = 14 ∨ k = 15 ∨ k = 16 ∨ k = 17 ∨ k = 18 ∨ k = 19 ∨ k = 20 ∨ k = 21 ∨ k = 22 by omega) with rfl | rfl | rfl | rfl | rfl | rfl | rfl | rfl | rfl | rfl | rfl | rfl | rfl | rfl | rfl | rfl | rfl | rfl | rfl | rfl | rfl | rfl | rfl
  · exact set_q a1 a2 a3 h
  · exact tell_q a1 a2 a3 h
  · exact correct_q a1 a2 a3 h
  · exact forget_q a1 a2 a3 h
  · exact complain_q a1 a2 a3 h
  · exact withdraw_q a1 a2 a3 h
  · exact append_q a1 a2 a3 h
  · exact clear_q a1 a2 a3 h
  · exact first_q a1 a2 a3 h
  · exact load_q a1 a2 a3 h
  · exact undo_q a1 a2 a3 h
  · exact minute_q a1 a2 a3 h
  · exact exceedance_q a1 a2 a3 h
  · exact complaint_q a1 a2 a3 h
  · exact levelCount_q a1 a2 a3 h
  · exact percent_q a1 a2 a3 h
  · exact count_q a1 a2 a3 h
  · exact setting_q a1 a2 a3 h
  · exact ifSet_q a1 a2 a3 h
  · exact least_q a1 a2 a3 h
  · exact aboveIn_q a1 a2 a3 h
  · exact share_q a1 a2 a3 h
  · exact digest_q a1 a2 a3 h
