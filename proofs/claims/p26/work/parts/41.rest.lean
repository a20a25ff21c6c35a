/-! rest, limits, arms, vetoes: what they are, and both sides' readings -/
def stOK (st : Nat → Int32) : Prop := (0 ≤ (st 0).toInt ∧ (st 0).toInt ≤ 140) ∧ (0 ≤ (st 1).toInt ∧ (st 1).toInt ≤ 140) ∧ (0 ≤ (st 2).toInt ∧ (st 2).toInt ≤ 59) ∧ (0 ≤ (st 3).toInt ∧ (st 3).toInt ≤ 60) ∧ (1 ≤ (st 4).toInt ∧ (st 4).toInt ≤ 41) ∧ (0 ≤ (st 5).toInt ∧ (st 5).toInt ≤ 20) ∧ (1 ≤ (st 6).toInt ∧ (st 6).toInt ≤ 20) ∧ (0 ≤ (st 7).toInt ∧ (st 7).toInt ≤ 60) ∧ (1 ≤ (st 8).toInt ∧ (st 8).toInt ≤ 20) ∧ (1 ≤ (st 9).toInt ∧ (st 9).toInt ≤ 50)
abbrev sRest (st : Nat → Int32) (m : Nat) : Prop := ((m : Int) - (st 2).toInt) % 60 < (st 3).toInt

def sLim (st : Nat → Int32) (m : Nat) : Int32 := if sRest st m then st 1 else st 0
def sArm (lv : Nat → Int32) (t : Int32) : Nat → Int32
  | 0 => 0
  | m + 1 => sArm lv t m + (10 * lv m - sArm lv t m) / t
/-- the last windy minute before m, and one more; 0: there is none -/
def sLw (wd st : Nat → Int32) : Nat → Nat
  | 0 => 0
  | m + 1 => if st 4 ≤ wd m then m + 1 else sLw wd st m
def sBef (wd st : Nat → Int32) (m : Nat) : Prop := 0 < sLw wd st m ∧ m + 1 ≤ sLw wd st m + (st 5).toInt.toNat
def sWhy (lv wd st : Nat → Int32) (m : Nat) : Int32 := if st 4 ≤ wd m then 1 else if 0 < sLw wd st m ∧ m + 1 ≤ sLw wd st m + (st 5).toInt.toNat then 2 else if sArm lv (st 9) (m + 1) ≤ 10 * sLim st m then 3 else 0
theorem sLw_le (wd st : Nat → Int32) : ∀ m, sLw wd st m ≤ m
  | 0 => Nat.le_refl 0
  | m + 1 => by
    have := sLw_le wd st m
    unfold sLw
    split <;> omega
theorem xor60 (a : Int32) : 0 ≤ (a ^^^ 60) ↔ 0 ≤ a := by
  have key : ∀ x : Int32, 0 ≤ x ↔ x.toBitVec.msb = false := by
    intro x
    rw [i_le]
    have h := BitVec.msb_eq_toInt (x := x.toBitVec)
    have e : x.toBitVec.toInt = x.toInt := rfl
    rw [e] at h
    have e0 : (0 : Int32).toInt = 0 := rfl
    rw [h, e0]
    simp
  rw [key, key]
  have : (a ^^^ 60).toBitVec = a.toBitVec ^^^ (60 : Int32).toBitVec := rfl
  rw [this, BitVec.msb_xor]
  have h60 : (60 : Int32).toBitVec.msb = false := by decide
  rw [h60]
  simp
theorem tmod_sign (a : Int) : (0 ≤ a → 0 ≤ a.tmod 60) ∧ (a ≤ 0 → a.tmod 60 ≤ 0) := by
  refine ⟨fun h => ?_, fun h => ?_⟩
  · rw [Int.tmod_eq_emod_of_nonneg h]
    omega
  · have e : a.tmod 60 = -((-a).tmod 60) := by rw [Int.neg_tmod]; omega
    rw [e, Int.tmod_eq_emod_of_nonneg (by omega)]
    omega
theorem tmod_emod {a : Int} (h : a < 0) : (a.tmod 60 = 0 → a % 60 = 0) ∧ (a.tmod 60 ≠ 0 → a % 60 = a.tmod 60 + 60) := by
  have hb := tmod_bounds (a := a) (M := 60) (by decide)
  have hs := (tmod_sign a).2 (by omega)
  have hm := Int.tmod_add_mul_tdiv a 60
  have he := Int.emod_add_mul_ediv a 60
  have h0 := Int.emod_nonneg a (by decide : (60 : Int) ≠ 0)
  have h1 := Int.emod_lt_of_pos a (by decide : (0 : Int) < 60)
  omega
theorem rem60 {a : Int32} : (a - a / 60 * 60).toInt = a.toInt.tmod 60 := by
  have h60 : (60 : Int32).toInt = 60 := rfl
  have hd : (a / 60).toInt = a.toInt.tdiv 60 := i_div (y := 60) (by decide)
  have hm := Int.tmod_add_mul_tdiv a.toInt 60
  have hb := tmod_bounds (a := a.toInt) (M := 60) (by decide)
  have ha := i_rng a
  have hs := tmod_sign a.toInt
  have h1 : (a / 60 * 60).toInt = a.toInt.tdiv 60 * 60 := by
    rw [i_mul] <;> rw [hd, h60] <;> omega
  rw [i_sub] <;> rw [h1] <;> omega
theorem fmod60 {a : Int32} (M : Mem) : Ok (f_J9_floorMod_7cf53 a 60 M) (fun r => r.toInt = a.toInt % 60) := by
  unfold f_J9_floorMod_7cf53
  refine Ok.eqb (a := a - a / 60 * 60) (if_neg (by decide)) ?_
  have h1 := rem60 (a := a)
  have hb := tmod_bounds (a := a.toInt) (M := 60) (by decide)
  refine Ok.ite (fun c => Ok.of ?_) (fun c => Ok.ite (fun c2 => Ok.of ?_) (fun c2 => Ok.of ?_))
  · have h0 : 0 ≤ a.toInt := i_le.mp ((xor60 a).mp c)
    rw [h1, Int.tmod_eq_emod_of_nonneg h0]
  · have h2 : a.toInt.tmod 60 = 0 := by rw [← h1, c2]; rfl
    have h0 : a.toInt < 0 := by
      have : ¬ 0 ≤ a.toInt := fun q => c ((xor60 a).mpr (i_le.mpr q))
      omega
    rw [h1, h2, (tmod_emod h0).1 h2]
  · have h0 : a.toInt < 0 := by
      have : ¬ 0 ≤ a.toInt := fun q => c ((xor60 a).mpr (i_le.mpr q))
      omega
    have h2 : a.toInt.tmod 60 ≠ 0 := by
      rw [← h1]
      intro q
      exact c2 (i_eq.mpr q)
    have h3 : (a - a / 60 * 60 + 60).toInt = a.toInt.tmod 60 + 60 := by
      rw [i_add] <;> rw [h1] <;> have : (60 : Int32).toInt = 60 := rfl <;> omega
    rw [h3, (tmod_emod h0).2 h2]
theorem isRest_c {M : Mem} {g m : Nat} (hst : stOK (M g)) (hm : m ≤ 1000) : f_X8_isRest g (nI m) M = some (if sRest (M g) m then 1 else 0) := by
  unfold f_X8_isRest
  obtain ⟨r, hr, hp⟩ := fmod60 (a := nI m - M g 2) M
  rw [show rd M g 10 2 = some (M g 2) from rd_nI (k := 2) (by decide) (by decide), Option.bind_some, hr, Option.bind_some, show rd M g 10 3 = some (M g 3) from rd_nI (k := 3) (by decide) (by decide), Option.bind_some]
  have e : (nI m - M g 2).toInt = (m : Int) - (M g 2).toInt := by
    have := hst.2.2.1
    rw [i_sub] <;> rw [i_nI (by omega)] <;> omega
  rw [e] at hp
  by_cases h : sRest (M g) m
  · rw [if_pos h, if_neg]
    intro q
    have := i_le.mp q
    unfold sRest at h
    omega
  · rw [if_neg h, if_pos]
    refine i_le.mpr ?_
    unfold sRest at h
    omega
theorem limitAt_c {M : Mem} {g m : Nat} (hst : stOK (M g)) (hm : m ≤ 1000) : f_X8_limitAt g (nI m) M = some (sLim (M g) m) := by
  unfold f_X8_limitAt sLim
  rw [isRest_c hst hm, Option.bind_some]
  by_cases h : sRest (M g) m
  · rw [if_pos h, if_pos h, if_neg (by decide), show rd M g 10 1 = some (M g 1) from rd_nI (k := 1) (by decide) (by decide)]
    rfl
  · rw [if_neg h, if_neg h, if_pos rfl, show rd M g 10 0 = some (M g 0) from rd_nI (k := 0) (by decide) (by decide)]
    rfl
theorem moved_c {M : Mem} {p l t : Int32} (ht : 1 ≤ t.toInt) : f_X8_moved p l t M = some (p + (10 * l - p) / t) := by
  unfold f_X8_moved dvI
  rw [if_pos (i_le.mpr (show (1 : Int32).toInt ≤ t.toInt from ht)), if_neg]
  · rfl
  · intro q
    rw [q] at ht
    exact absurd ht (by decide)
/-- levels and arms keep their bounds -/
def lvOK (lv : Nat → Int32) (n : Nat) : Prop := ∀ m, m < n → 0 ≤ (lv m).toInt ∧ (lv m).toInt ≤ 140
theorem arm_step {p l t : Int32} (hp : 0 ≤ p.toInt ∧ p.toInt ≤ 1400) (hl : 0 ≤ l.toInt ∧ l.toInt ≤ 140) (ht : 1 ≤ t.toInt) : 0 ≤ (p + (10 * l - p) / t).toInt ∧ (p + (10 * l - p) / t).toInt ≤ 1400 := by
  have e10 : (10 : Int32).toInt = 10 := rfl
  have h1 : (10 * l).toInt = 10 * l.toInt := by rw [i_mul] <;> rw [e10] <;> omega
  have h2 : (10 * l - p).toInt = 10 * l.toInt - p.toInt := by rw [i_sub] <;> rw [h1] <;> omega
  have h3 : ((10 * l - p) / t).toInt = (10 * l.toInt - p.toInt).tdiv t.toInt := by rw [i_div (by omega), h2]
  have hb : (0 ≤ 10 * l.toInt - p.toInt → 0 ≤ (10 * l.toInt - p.toInt).tdiv t.toInt ∧ (10 * l.toInt - p.toInt).tdiv t.toInt ≤ 10 * l.toInt - p.toInt) ∧ (10 * l.toInt - p.toInt ≤ 0 → (10 * l.toInt - p.toInt).tdiv t.toInt ≤ 0 ∧ 10 * l.toInt - p.toInt ≤ (10 * l.toInt - p.toInt).tdiv t.toInt) := by
    generalize 10 * l.toInt - p.toInt = d
    refine ⟨fun h => ⟨Int.tdiv_nonneg h (by omega), Int.tdiv_le_self _ h⟩, fun h => ?_⟩
    have e : d.tdiv t.toInt = -((-d).tdiv t.toInt) := by rw [Int.neg_tdiv]; omega
    have g1 : 0 ≤ (-d).tdiv t.toInt := Int.tdiv_nonneg (by omega) (by omega)
    have g2 : (-d).tdiv t.toInt ≤ -d := Int.tdiv_le_self _ (by omega)
    omega
  rcases Int.le_total 0 (10 * l.toInt - p.toInt) with h | h
  · have := hb.1 h
    rw [i_add] <;> rw [h3] <;> omega
  · have := hb.2 h
    rw [i_add] <;> rw [h3] <;> omega
theorem arm_rng {lv : Nat → Int32} {t : Int32} {n : Nat} (hl : lvOK lv n) (ht : 1 ≤ t.toInt) : ∀ m, m ≤ n → 0 ≤ (sArm lv t m).toInt ∧ (sArm lv t m).toInt ≤ 1400
  | 0, _ => ⟨Int.le_refl _, show (0 : Int32).toInt ≤ 1400 by decide⟩
  | m + 1, h => arm_step (arm_rng hl ht m (by omega)) (hl m (by omega)) ht
theorem arm_cong {lv lv' : Nat → Int32} {t : Int32} : ∀ {n : Nat}, (∀ m, m < n → lv m = lv' m) → sArm lv t n = sArm lv' t n
  | 0, _ => rfl
  | n + 1, h => by
    unfold sArm
    rw [arm_cong (fun m hm => h m (by omega)), h n (by omega)]
