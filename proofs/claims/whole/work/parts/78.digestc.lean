/-! the digest, as the class makes it -/
def hz (f : Nat → Int64) (h : Int64) : Nat → Int64
  | 0 => h
  | n + 1 => 31 * hz f h n + f n
def hzz (F : Nat → Nat → Int64) (k : Nat) (h : Int64) : Nat → Int64
  | 0 => h
  | n + 1 => hz (F n) (hzz F k h n) k
theorem hz_cong {f g : Nat → Int64} {h : Int64} : ∀ {n : Nat}, (∀ j, j < n → f j = g j) → hz f h n = hz g h n
  | 0, _ => rfl
  | n + 1, q => by
    show 31 * hz f h n + f n = 31 * hz g h n + g n
    rw [hz_cong (fun j hj => q j (by omega)), q n (by omega)]
theorem hz_add {f : Nat → Int64} {h : Int64} {a : Nat} : ∀ b, hz f h (a + b) = hz (fun j => f (a + j)) (hz f h a) b
  | 0 => rfl
  | b + 1 => by
    show 31 * hz f h (a + b) + f (a + b) = 31 * hz (fun j => f (a + j)) (hz f h a) b + f (a + b)
    rw [hz_add b]
theorem hz_flat {F : Nat → Nat → Int64} {k : Nat} {h : Int64} (hk : 0 < k) : ∀ n, hzz F k h n = hz (fun j => F (j / k) (j % k)) h (k * n)
  | 0 => rfl
  | n + 1 => by
    show hz (F n) (hzz F k h n) k = _
    rw [hz_flat hk n, Nat.mul_succ, hz_add]
    refine hz_cong (fun j hj => ?_)
    rw [Nat.mul_add_div hk, Nat.div_eq_of_lt hj, Nat.mul_add_mod, Nat.mod_eq_of_lt hj, Nat.add_zero]
def cK (d : Dt) (kept w : Nat) : Int32 := if w = 10 then nI kept else cN d.1 d.2.1 d.2.2.2.1 d.2.2.1 d.2.2.2.2.1 d.2.2.2.2.2 w
def dGl (d : Dt) (l : Nat) : Nat := cG (cntd (sWhy d.1 d.2.1 d.2.2.2.1)) (dH d.1 d.2.2.2.1) d.2.2.2.2.1 l
def dPc (d : Dt) (pc : Int32) : Int32 := sPct pc (shB d) (dGl d)
def dg1 (d : Dt) (kept : Nat) : Int64 := hz (fun w => Int32.toInt64 (cK d kept w)) 2161 12
def dg2 (d : Dt) (kept : Nat) : Int64 := hz (fun k => Int32.toInt64 (d.2.2.2.1 k)) (dg1 d kept) 10
def dg3 (d : Dt) (kept : Nat) : Int64 := hzz (fun m w => Int32.toInt64 (mP d m w)) 8 (dg2 d kept) d.2.2.2.2.1
def dg4 (d : Dt) (kept : Nat) : Int64 := hzz (fun e w => Int32.toInt64 (eP d e w)) 6 (dg3 d kept) (dCn d)
def dg5 (d : Dt) (kept : Nat) : Int64 := hzz (fun c w => Int32.toInt64 (cP d c w)) 2 (dg4 d kept) d.2.2.2.2.2
def dg6 (d : Dt) (kept : Nat) : Int64 := hz (fun i => Int32.toInt64 (nI (dGl d (10 * i)))) (dg5 d kept) 15
def dg7 (d : Dt) (kept : Nat) : Int64 := 31 * (31 * (31 * (31 * (31 * dg6 d kept + Int32.toInt64 (dPc d 1)) + Int32.toInt64 (dPc d 10)) + Int32.toInt64 (dPc d 50)) + Int32.toInt64 (dPc d 90)) + Int32.toInt64 (dPc d 100)
def dg8 (d : Dt) (kept : Nat) : Int64 := 31 * (31 * dg7 d kept + Int32.toInt64 (sLst d.1 d.2.1 d.2.2.2.1 d.2.2.2.2.1 1)) + Int32.toInt64 (sAbv d.1 d.2.1 d.2.2.2.1 d.2.2.2.2.1 80)
def dg9 (d : Dt) (kept t : Nat) (code : Nat → Int32) : Int64 := hz (fun i => Int32.toInt64 (code i)) (31 * (31 * dg8 d kept + UInt64.toInt64 (shD d)) + Int32.toInt64 (nI t)) t
theorem mixed_e (a b : Int64) (M : Mem) : f_X8_mixed a b M = some (31 * a + b) := rfl
theorem dig1_c {d : Dt} {D : Nat → Dt} {next kept : Nat} {M : Mem} (h : Cr d D next kept M) : Ok (loopN (f_X8_digest_l6 M) FU (2161, 0)) (fun r => r = dg1 d kept) := by
  refine loop_FU (fun i (z : Int64 × Int32) => z = (hz (fun w => Int32.toInt64 (cK d kept w)) 2161 i, nI i)) _ 12 (by decide) ?_ ?_ rfl
  · rintro i z hi rfl
    unfold f_X8_digest_l6
    dsimp only
    refine Ok.neg (nI_nlt (b := i) (a := 11) (by omega) (by decide)) (Ok.eqb (numOf_c h (by omega)) (Ok.eqb (mixed_e _ _ _) (Ok.of ?_)))
    show (_, _) = (_, _)
    rw [nI_1]
    rfl
  · rintro z rfl
    unfold f_X8_digest_l6
    dsimp only
    exact Ok.pos (by decide) (Ok.of rfl)
theorem dig2_c {d : Dt} {D : Nat → Dt} {next kept : Nat} {M : Mem} (h : Cr d D next kept M) : Ok (loopN (f_X8_digest_l31 M) FU (dg1 d kept, 0)) (fun r => r = dg2 d kept) := by
  refine loop_FU (fun i (z : Int64 × Int32) => z = (hz (fun k => Int32.toInt64 (d.2.2.2.1 k)) (dg1 d kept) i, nI i)) _ 10 (by decide) ?_ ?_ rfl
  · rintro i z hi rfl
    unfold f_X8_digest_l31
    dsimp only
    refine Ok.neg (nI_ge (b := 10) hi (by decide)) (Ok.eqb (rd_nI hi (by decide)) (Ok.eqb (mixed_e _ _ _) (Ok.of ?_)))
    show (_, _) = (_, _)
    rw [nI_1, show M 4 i = d.2.2.2.1 i from h.2.1.2.2.2.1 i hi]
    rfl
  · rintro z rfl
    unfold f_X8_digest_l31
    dsimp only
    exact Ok.pos (by decide) (Ok.of rfl)
theorem dig3_c {d : Dt} {D : Nat → Dt} {next kept : Nat} {M : Mem} (h : Cr d D next kept M) : Ok (f_X8_withMinutes (dg2 d kept) M) (fun r => r = dg3 d kept) := by
  have hn := h.1.1
  unfold f_X8_withMinutes
  refine Ok.bind (P := fun r => r = dg3 d kept) ?_ (fun r h => Ok.of h)
  refine loop_FU (fun i (z : Int64 × Int32) => z = (hzz (fun m w => Int32.toInt64 (mP d m w)) 8 (dg2 d kept) i, nI i)) _ d.2.2.2.2.1 (by omega) ?_ ?_ rfl
  · rintro m z hm rfl
    unfold f_X8_withMinutes_l2
    dsimp only
    refine Ok.neg (by rw [h.2.1.1]; exact nI_ge hm (by omega)) ?_
    refine Ok.bind (P := fun r => r = hzz (fun m w => Int32.toInt64 (mP d m w)) 8 (dg2 d kept) (m + 1)) ?_ ?_
    · refine loop_FU (fun i (z : Int64 × Int32) => z = (hz (fun w => Int32.toInt64 (mP d m w)) (hzz (fun m w => Int32.toInt64 (mP d m w)) 8 (dg2 d kept) m) i, nI i)) _ 8 (by decide) ?_ ?_ rfl
      · rintro i z hi rfl
        unfold f_X8_withMinutes_l16
        dsimp only
        refine Ok.neg (nI_nlt (b := i) (a := 7) (by omega) (by decide)) (Ok.eqb (minuteProp_c h hm (by omega)) (Ok.eqb (mixed_e _ _ _) (Ok.of ?_)))
        show (_, _) = (_, _)
        rw [nI_1]
        rfl
      · rintro z rfl
        unfold f_X8_withMinutes_l16
        dsimp only
        exact Ok.pos (by decide) (Ok.of rfl)
    · rintro r rfl
      refine Ok.of ?_
      show (_, _) = (_, _)
      rw [nI_1]
  · rintro z rfl
    unfold f_X8_withMinutes_l2
    dsimp only
    exact Ok.pos (by rw [h.2.1.1]; exact nI_le (Nat.le_refl _) (by omega)) (Ok.of rfl)
theorem dig4_c {d : Dt} {D : Nat → Dt} {next kept : Nat} {M : Mem} (h : Cr d D next kept M) : Ok (f_X8_withExceedances (dg3 d kept) M) (fun r => r = dg4 d kept) := by
  have hn := h.1.1
  have hle := dCn_le h.1
  have e6 : M 60 6 = nI (dCn d) := h.2.2.2.1.1.2.2.1.1.1
  unfold f_X8_withExceedances
  refine Ok.bind (P := fun r => r = dg4 d kept) ?_ (fun r h => Ok.of h)
  refine loop_FU (fun i (z : Int64 × Int32) => z = (hzz (fun m w => Int32.toInt64 (eP d m w)) 6 (dg3 d kept) i, nI i)) _ (dCn d) (by omega) ?_ ?_ rfl
  · rintro m z hm rfl
    unfold f_X8_withExceedances_l2
    dsimp only
    refine Ok.neg (by rw [e6]; exact nI_ge hm (by omega)) ?_
    refine Ok.bind (P := fun r => r = hzz (fun m w => Int32.toInt64 (eP d m w)) 6 (dg3 d kept) (m + 1)) ?_ ?_
    · refine loop_FU (fun i (z : Int64 × Int32) => z = (hz (fun w => Int32.toInt64 (eP d m w)) (hzz (fun m w => Int32.toInt64 (eP d m w)) 6 (dg3 d kept) m) i, nI i)) _ 6 (by decide) ?_ ?_ rfl
      · rintro i z hi rfl
        unfold f_X8_withExceedances_l19
        dsimp only
        refine Ok.neg (nI_nlt (b := i) (a := 5) (by omega) (by decide)) (Ok.eqb (excProp_c h hm (by omega)) (Ok.eqb (mixed_e _ _ _) (Ok.of ?_)))
        show (_, _) = (_, _)
        rw [nI_1]
        rfl
      · rintro z rfl
        unfold f_X8_withExceedances_l19
        dsimp only
        exact Ok.pos (by decide) (Ok.of rfl)
    · rintro r rfl
      refine Ok.of ?_
      show (_, _) = (_, _)
      rw [nI_1]
  · rintro z rfl
    unfold f_X8_withExceedances_l2
    dsimp only
    exact Ok.pos (by rw [e6]; exact nI_le (Nat.le_refl _) (by omega)) (Ok.of rfl)
theorem dig5_c {d : Dt} {D : Nat → Dt} {next kept : Nat} {M : Mem} (h : Cr d D next kept M) : Ok (f_X8_withComplaints (dg4 d kept) M) (fun r => r = dg5 d kept) := by
  have hn := h.1.2.1
  unfold f_X8_withComplaints
  refine Ok.bind (P := fun r => r = dg5 d kept) ?_ (fun r h => Ok.of h)
  refine loop_FU (fun i (z : Int64 × Int32) => z = (hzz (fun m w => Int32.toInt64 (cP d m w)) 2 (dg4 d kept) i, nI i)) _ d.2.2.2.2.2 (by omega) ?_ ?_ rfl
  · rintro m z hm rfl
    unfold f_X8_withComplaints_l2
    dsimp only
    refine Ok.neg (by rw [h.2.1.2.1]; exact nI_ge hm (by omega)) ?_
    refine Ok.eqb (show f_X8_complaintProperty (nI m) 0 M = some (cP d m 0) from comProp_c (w := 0) h hm (by decide)) (Ok.eqb (mixed_e _ _ _) ?_)
    refine Ok.eqb (show f_X8_complaintProperty (nI m) 1 M = some (cP d m 1) from comProp_c (w := 1) h hm (by decide)) (Ok.eqb (mixed_e _ _ _) (Ok.of ?_))
    show (_, _) = (_, _)
    rw [nI_1]
    rfl
  · rintro z rfl
    unfold f_X8_withComplaints_l2
    dsimp only
    exact Ok.pos (by rw [h.2.1.2.1]; exact nI_le (Nat.le_refl _) (by omega)) (Ok.of rfl)
theorem pct_c {d : Dt} {M : Mem} (hv : Vd d) (hw : Vw d M) (pc : Int32) : f_X2_levelOfPercent pc (M 56 4) M = some (dPc d pc) := by
  have hb := (sh_le hv).2
  rw [show M 56 4 = nI (shB d) from hw.1.1.2.1]
  exact percent_c (by omega) hw.2
theorem dig6_c {d : Dt} {M : Mem} {kept : Nat} (hv : Vd d) (hw : Vw d M) : Ok (f_X8_withLevels (dg5 d kept) M) (fun r => r = dg7 d kept) := by
  unfold f_X8_withLevels
  refine Ok.bind (P := fun r => r = dg6 d kept) ?_ ?_
  · refine loop_FU (fun i (z : Int64 × Int32) => z = (hz (fun i => Int32.toInt64 (nI (dGl d (10 * i)))) (dg5 d kept) i, nI (10 * i))) _ 15 (by decide) ?_ ?_ rfl
    · rintro i z hi rfl
      unfold f_X8_withLevels_l2
      dsimp only
      refine Ok.neg (nI_nlt (b := 10 * i) (a := 140) (by omega) (by decide)) (Ok.eqb (rd_nI (by omega) (by decide)) (Ok.eqb (mixed_e _ _ _) (Ok.of ?_)))
      show (_, _) = (_, _)
      rw [show nI (10 * i) + 10 = nI (10 * (i + 1)) from nI_add _ 10, hw.2 (10 * i) (by omega)]
      rfl
    · rintro z rfl
      unfold f_X8_withLevels_l2
      dsimp only
      exact Ok.pos (by decide) (Ok.of rfl)
  · rintro r rfl
    refine Ok.eqb (pct_c hv hw 1) (Ok.eqb (mixed_e _ _ _) (Ok.eqb (pct_c hv hw 10) (Ok.eqb (mixed_e _ _ _) (Ok.eqb (pct_c hv hw 50) (Ok.eqb (mixed_e _ _ _) (Ok.eqb (pct_c hv hw 90) (Ok.eqb (mixed_e _ _ _) (Ok.eqb (pct_c hv hw 100) (Ok.eqb (mixed_e _ _ _) (Ok.of rfl))))))))))
theorem dig9_c {d : Dt} {M : Mem} {kept t : Nat} {h0 : Int64} (ht : t ≤ 60) (h1 : M 48 1 = nI t) (e : h0 = 31 * dg8 d kept + UInt64.toInt64 (shD d)) : Ok (f_X8_withBuffer h0 M) (fun r => r = dg9 d kept t (M 49)) := by
  subst e
  unfold f_X8_withBuffer
  rw [h1]
  refine Ok.eqb (mixed_e _ _ _) ?_
  refine Ok.bind (P := fun r => r = dg9 d kept t (M 49)) ?_ (fun r h => Ok.of h)
  refine loop_FU (fun i (z : Int64 × Int32) => z = (hz (fun i => Int32.toInt64 (M 49 i)) (31 * (31 * dg8 d kept + UInt64.toInt64 (shD d)) + Int32.toInt64 (nI t)) i, nI i)) _ t (by omega) ?_ ?_ rfl
  · rintro i z hi rfl
    unfold f_X8_withBuffer_l15
    dsimp only
    refine Ok.neg (by rw [h1]; exact nI_ge hi (by omega)) (Ok.eqb (rd_nI (by omega) (by decide)) (Ok.eqb (mixed_e _ _ _) (Ok.of ?_)))
    show (_, _) = (_, _)
    rw [nI_1]
    rfl
  · rintro z rfl
    unfold f_X8_withBuffer_l15
    dsimp only
    exact Ok.pos (by rw [h1]; exact nI_le (Nat.le_refl _) (by omega)) (Ok.of rfl)
theorem digest_c {d : Dt} {D : Nat → Dt} {next kept t : Nat} {M : Mem} (h : Cr d D next kept M) (ht : t ≤ 60) (h1 : M 48 1 = nI t) : Ok (f_X8_digest M) (fun r => r = dg9 d kept t (M 49)) := by
  obtain ⟨hv, hs, hz, hw, h5⟩ := id h
  unfold f_X8_digest
  refine Ok.bind (dig1_c h) ?_
  rintro r rfl
  refine Ok.bind (dig2_c h) ?_
  rintro r rfl
  refine Ok.bind (dig3_c h) ?_
  rintro r rfl
  refine Ok.bind (dig4_c h) ?_
  rintro r rfl
  refine Ok.bind (dig5_c h) ?_
  rintro r rfl
  refine Ok.bind (dig6_c hv hw) ?_
  rintro r rfl
  refine Ok.eqb (least_c hw.1 hv.2.2.2.2.1 hv.1) (Ok.eqb (mixed_e _ _ _) (Ok.eqb (until_c hw.1 hv.2.2.2.2.1 hv.1) (Ok.eqb (mixed_e _ _ _) (Ok.eqb (share_c hv hw) (Ok.eqb (bits_c (shD_ok hv).1) (Ok.eqb (mixed_e _ _ _) ?_))))))
  refine Ok.bind (dig9_c (d := d) (kept := kept) ht h1 rfl) ?_
  rintro r rfl
  exact Ok.of rfl
