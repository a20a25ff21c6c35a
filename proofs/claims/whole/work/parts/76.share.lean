/-! the share of the time, and its bits -/
theorem cmp_i (a b : Int) : compare a b = if a < b then .lt else if a = b then .eq else .gt := rfl
theorem fin_mul {E T E2 : Nat} (h : nOK E T) (h2 : nOK E2 0) (ho : nOK (E + E2 - 1023) T) (hl : 1023 ≤ E + E2) : FP.dmul (nb E T) (nb E2 0) = nb (E + E2 - 1023) T := by
  show UInt64.ofNat (FP.Core.encode FP.Core.b64 (FP.Core.round FP.Core.b64 (FP.Core.exactProduct (FP.Core.decode FP.Core.b64 (nb E T).toNat) (FP.Core.decode FP.Core.b64 (nb E2 0).toNat)))) = _
  rw [dec_nb h, dec_nb h2]
  show UInt64.ofNat (FP.Core.encode FP.Core.b64 (FP.Core.round FP.Core.b64 (.fin false ((4503599627370496 + T) * (4503599627370496 + 0)) (((E : Int) - 1075) + ((E2 : Int) - 1075))))) = _
  obtain ⟨g1, g2, g3⟩ := id ho
  rw [rnd_1 (j := 52) (P := 4503599627370496 + 0) (by decide) (by omega) (by omega) (by omega) (by omega)]
  rw [show ((E : Int) - 1075 + ((E2 : Int) - 1075) + ((52 : Nat) : Int)) = ((E + E2 - 1023 : Nat) : Int) - 1075 by omega]
  exact enc_nb ho
theorem dml_n {E T E2 : Nat} (h : nOK E T) (h2 : nOK E2 0) (ho : nOK (E + E2 - 1023) T) (hl : 1023 ≤ E + E2) : dml (nb E T) (nb E2 0) = some (nb (E + E2 - 1023) T) := by
  unfold dml
  rw [fin_mul h h2 ho hl, if_pos (nb_mask ho)]
theorem one_e : (0x3ff0000000000000 : UInt64) = nb 1023 0 := by decide +kernel
theorem two_e : (4611686018427387904 : UInt64) = nb 1024 0 := by decide +kernel
theorem big_e : (4841369599423283200 : UInt64) = nb 1075 0 := by decide +kernel
theorem cmp_s {E T : Nat} (h : nOK E T) : FP.dcmp (nb E T) (nb E T) = some .eq := by
  show FP.Core.order (FP.Core.decode FP.Core.b64 (nb E T).toNat) (FP.Core.decode FP.Core.b64 (nb E T).toNat) = _
  rw [dec_nb h]
  show some (compare _ _) = _
  rw [Int.min_self]
  refine congrArg some ?_
  show (if _ < _ then Ordering.lt else if _ = _ then Ordering.eq else Ordering.gt) = _
  rw [if_neg (Int.lt_irrefl _), if_pos rfl]
theorem cmp_0 {E T : Nat} (h : nOK E T) : FP.dcmp (nb E T) 0 = some .gt := by
  show FP.Core.order (FP.Core.decode FP.Core.b64 (nb E T).toNat) (FP.Core.decode FP.Core.b64 (0 : UInt64).toNat) = _
  rw [dec_nb h, show FP.Core.decode FP.Core.b64 (0 : UInt64).toNat = .fin false 0 (-1074) by decide +kernel]
  show some (compare (((4503599627370496 + T) * 2 ^ (((E : Int) - 1075) - min ((E : Int) - 1075) (-1074)).toNat : Nat) : Int) ((0 * 2 ^ ((-1074 : Int) - min ((E : Int) - 1075) (-1074)).toNat : Nat) : Int)) = _
  have hp : 0 < (4503599627370496 + T) * 2 ^ (((E : Int) - 1075) - min ((E : Int) - 1075) (-1074)).toNat := Nat.mul_pos (by omega) (Nat.two_pow_pos _)
  refine congrArg some ?_
  rw [Nat.zero_mul]
  generalize (4503599627370496 + T) * 2 ^ (((E : Int) - 1075) - min ((E : Int) - 1075) (-1074)).toNat = x at hp ⊢
  show (if (x : Int) < ((0 : Nat) : Int) then Ordering.lt else if (x : Int) = ((0 : Nat) : Int) then Ordering.eq else Ordering.gt) = _
  rw [if_neg (by omega), if_neg (by omega)]
theorem cmp_1 {E T : Nat} (h : nOK E T) (h1 : E < 1023) : FP.dcmp (nb E T) (nb 1023 0) = some .lt := by
  show FP.Core.order (FP.Core.decode FP.Core.b64 (nb E T).toNat) (FP.Core.decode FP.Core.b64 (nb 1023 0).toNat) = _
  rw [dec_nb h, dec_nb (by decide)]
  show some (compare (((4503599627370496 + T) * 2 ^ (((E : Int) - 1075) - min ((E : Int) - 1075) (((1023 : Nat) : Int) - 1075)).toNat : Nat) : Int) (((4503599627370496 + 0) * 2 ^ ((((1023 : Nat) : Int) - 1075) - min ((E : Int) - 1075) (((1023 : Nat) : Int) - 1075)).toNat : Nat) : Int)) = _
  rw [show (((E : Int) - 1075) - min ((E : Int) - 1075) (((1023 : Nat) : Int) - 1075)).toNat = 0 by omega, show ((((1023 : Nat) : Int) - 1075) - min ((E : Int) - 1075) (((1023 : Nat) : Int) - 1075)).toNat = 1022 - E + 1 by omega, Nat.pow_succ]
  have hp : 0 < 2 ^ (1022 - E) := Nat.two_pow_pos _
  have hT := h.2.2
  generalize 2 ^ (1022 - E) = P at hp ⊢
  refine congrArg some ?_
  show (if (((4503599627370496 + T) * 2 ^ 0 : Nat) : Int) < (((4503599627370496 + 0) * (P * 2) : Nat) : Int) then Ordering.lt else _) = _
  rw [if_pos (by omega)]
theorem cmp_2 {T : Nat} (h : T < 4503599627370496) : 0 ≤ Op.cmpValue (FP.dcmp (nb 1023 T) (nb 1023 0)) .g := by
  have e : FP.dcmp (nb 1023 T) (nb 1023 0) = some (if T = 0 then .eq else .gt) := by
    show FP.Core.order (FP.Core.decode FP.Core.b64 (nb 1023 T).toNat) (FP.Core.decode FP.Core.b64 (nb 1023 0).toNat) = _
    rw [dec_nb ⟨by decide, by decide, h⟩, dec_nb (by decide)]
    show some (compare (((4503599627370496 + T) * 2 ^ ((((1023 : Nat) : Int) - 1075) - min (((1023 : Nat) : Int) - 1075) (((1023 : Nat) : Int) - 1075)).toNat : Nat) : Int) (((4503599627370496 + 0) * 2 ^ ((((1023 : Nat) : Int) - 1075) - min (((1023 : Nat) : Int) - 1075) (((1023 : Nat) : Int) - 1075)).toNat : Nat) : Int)) = _
    rw [show ((((1023 : Nat) : Int) - 1075) - min (((1023 : Nat) : Int) - 1075) (((1023 : Nat) : Int) - 1075)).toNat = 0 by omega]
    refine congrArg some ?_
    have hx : (4503599627370496 + T) * 2 ^ 0 = 4503599627370496 + T := by rw [Nat.pow_zero, Nat.mul_one]
    have hy : (4503599627370496 + 0) * 2 ^ 0 = 4503599627370496 := by rw [Nat.pow_zero, Nat.mul_one]
    rw [hx, hy]
    clear hx hy
    obtain ⟨x, hx⟩ : ∃ x, 4503599627370496 + T = x := ⟨_, rfl⟩
    rw [hx]
    rw [cmp_i]
    rw [if_neg (by omega)]
    by_cases hT : T = 0
    · rw [if_pos hT, if_pos (by omega)]
    · rw [if_neg hT, if_neg (by omega)]
  rw [e]
  by_cases hT : T = 0
  · rw [if_pos hT]
    decide
  · rw [if_neg hT]
    decide
/-- the share, of all pairs -/
theorem ddiv_n {la lb Ta Tb : Nat} (hab : la ≤ lb) (b3 : lb ≤ 7) (a2 : Ta < 4503599627370496) (b2 : Tb < 4503599627370496) : ∃ E T, 1000 ≤ E ∧ E ≤ 1023 ∧ T < 4503599627370496 ∧ FP.ddiv (nb (1023 + la) Ta) (nb (1023 + lb) Tb) = nb E T := by
  obtain ⟨C, c1, c2, c3⟩ := quo_n (c := 4503599627370496 + Ta) (d := 4503599627370496 + Tb) (e := (((1023 + la : Nat) : Int) - 1075) - (((1023 + lb : Nat) : Int) - 1075)) (by omega) (by omega) (by omega) (by omega) (by omega)
  have hd : FP.ddiv (nb (1023 + la) Ta) (nb (1023 + lb) Tb) = UInt64.ofNat (FP.Core.encode FP.Core.b64 (.fin false C (if 4503599627370496 + Tb ≤ 4503599627370496 + Ta then (((1023 + la : Nat) : Int) - 1075) - (((1023 + lb : Nat) : Int) - 1075) - 52 else (((1023 + la : Nat) : Int) - 1075) - (((1023 + lb : Nat) : Int) - 1075) - 53))) := by
    show UInt64.ofNat (FP.Core.encode FP.Core.b64 (FP.Core.quotient FP.Core.b64 (FP.Core.decode FP.Core.b64 (nb (1023 + la) Ta).toNat) (FP.Core.decode FP.Core.b64 (nb (1023 + lb) Tb).toNat))) = _
    rw [dec_nb ⟨by omega, by omega, a2⟩, dec_nb ⟨by omega, by omega, b2⟩]
    unfold FP.Core.quotient
    dsimp only
    rw [if_neg (show ¬ 4503599627370496 + Tb = 0 by omega)]
    exact congrArg (fun x => UInt64.ofNat (FP.Core.encode FP.Core.b64 x)) c3
  rw [hd]
  by_cases hT : 4503599627370496 + Tb ≤ 4503599627370496 + Ta
  · rw [if_pos hT]
    refine ⟨1023 + la - lb, C - 4503599627370496, by omega, by omega, by omega, ?_⟩
    rw [← enc_nb ⟨by omega, by omega, by omega⟩]
    unfold nF
    rw [show 4503599627370496 + (C - 4503599627370496) = C by omega, show (((1023 + la - lb : Nat) : Int) - 1075) = (((1023 + la : Nat) : Int) - 1075) - (((1023 + lb : Nat) : Int) - 1075) - 52 by omega]
  · rw [if_neg hT]
    refine ⟨1022 + la - lb, C - 4503599627370496, by omega, by omega, by omega, ?_⟩
    rw [← enc_nb ⟨by omega, by omega, by omega⟩]
    unfold nF
    rw [show 4503599627370496 + (C - 4503599627370496) = C by omega, show (((1022 + la - lb : Nat) : Int) - 1075) = (((1023 + la : Nat) : Int) - 1075) - (((1023 + lb : Nat) : Int) - 1075) - 53 by omega]
theorem shr_n {a b : Nat} (h1 : 1 ≤ a) (h2 : a ≤ b) (h3 : b ≤ 200) : ∃ E T, 1000 ≤ E ∧ E ≤ 1023 ∧ T < 4503599627370496 ∧ FP.ddiv (FP.i2d (nI a)) (FP.i2d (nI b)) = nb E T := by
  obtain ⟨a1, a2, a3⟩ := i2d_all ⟨a, by omega⟩ h1
  obtain ⟨b1, b2, b3⟩ := i2d_all ⟨b, by omega⟩ (Nat.le_trans h1 h2)
  dsimp only at a1 a2 a3 b1 b2 b3
  have hab : a.log2 ≤ b.log2 := by
    have q1 : 2 ^ a.log2 ≤ a := Nat.log2_self_le (by omega)
    have q2 : b < 2 ^ (b.log2 + 1) := Nat.lt_log2_self
    have := (Nat.pow_lt_pow_iff_right (a := 2) (by decide)).mp (Nat.lt_of_le_of_lt q1 (Nat.lt_of_le_of_lt h2 q2))
    omega
  rw [a1, b1]
  exact ddiv_n hab b3 a2 b2
theorem shr_0 : ∀ b : Fin 201, 1 ≤ b.1 → FP.ddiv (FP.i2d (nI 0)) (FP.i2d (nI b.1)) = 0 := by decide +kernel
theorem one_mul_all : ∀ a : Fin 201, dml 0x3ff0000000000000 (FP.i2d (nI a.1)) = some (FP.i2d (nI a.1)) := by decide +kernel
def isSh (s : UInt64) : Prop := s = 0 ∨ ∃ E T, 1000 ≤ E ∧ E ≤ 1023 ∧ T < 4503599627370496 ∧ s = nb E T
theorem shr_d {a b : Nat} (h1 : 1 ≤ b) (h2 : a ≤ b) (h3 : b ≤ 200) : ∃ s, ddv (FP.i2d (nI a)) (FP.i2d (nI b)) = some s ∧ isSh s := by
  rcases Nat.eq_zero_or_pos a with h | h
  · subst h
    refine ⟨0, ?_, Or.inl rfl⟩
    unfold ddv
    rw [shr_0 ⟨b, by omega⟩ h1]
    decide +kernel
  · obtain ⟨E, T, e1, e2, e3, e4⟩ := shr_n h h2 h3
    refine ⟨nb E T, ?_, Or.inr ⟨E, T, e1, e2, e3, rfl⟩⟩
    unfold ddv
    rw [e4, if_pos (nb_mask ⟨by omega, by omega, e3⟩)]
theorem sh_self {s : UInt64} (h : isSh s) : FP.dcmp s s = some .eq := by
  rcases h with rfl | ⟨E, T, e1, e2, e3, rfl⟩
  · decide +kernel
  · exact cmp_s ⟨by omega, by omega, e3⟩
/-- the class's bits of a share -/
theorem i64_p : ∀ k : Fin 1100, Int64.ofNat (k.1 + 1) - 1 = Int64.ofNat k.1 := by decide +kernel
theorem i64_s : ∀ k : Fin 1100, Int64.ofNat k.1 <<< (Int32.toInt64 52 &&& 63) = Int64.ofNat (k.1 * 4503599627370496) := by decide +kernel
theorem frac_c {T : Nat} (h : T < 4503599627370496) : ∃ y z, dsb (nb 1023 T) (nb 1023 0) = some y ∧ dml y (nb 1075 0) = some z ∧ FP.d2l z = Int64.ofNat T := by
  rcases Nat.eq_zero_or_pos T with h0 | h0
  · subst h0
    exact ⟨0, 0, by decide +kernel, by decide +kernel, by decide +kernel⟩
  · have l1 : 2 ^ T.log2 ≤ T := Nat.log2_self_le (by omega)
    have l2 : T < 2 ^ (T.log2 + 1) := Nat.lt_log2_self
    have l3 : T.log2 < 52 := (Nat.log2_lt (by omega)).mpr h
    generalize T.log2 = L at l1 l2 l3
    have hp : 0 < 2 ^ (52 - L) := Nat.two_pow_pos _
    have m1 : 4503599627370496 ≤ T * 2 ^ (52 - L) := by
      have := Nat.mul_le_mul_right (2 ^ (52 - L)) l1
      rw [← Nat.pow_add, show L + (52 - L) = 52 by omega] at this
      exact this
    have m2 : T * 2 ^ (52 - L) < 9007199254740992 := by
      have := Nat.mul_lt_mul_of_pos_right l2 hp
      rw [← Nat.pow_add, show L + 1 + (52 - L) = 53 by omega] at this
      exact this
    have hs : FP.dsub (nb 1023 T) (nb 1023 0) = nb (971 + L) (T * 2 ^ (52 - L) - 4503599627370496) := by
      show UInt64.ofNat (FP.Core.encode FP.Core.b64 (FP.Core.round FP.Core.b64 (FP.Core.exactSum (FP.Core.decode FP.Core.b64 (nb 1023 T).toNat) (FP.Core.negate (FP.Core.decode FP.Core.b64 (nb 1023 0).toNat))))) = _
      rw [dec_nb ⟨by decide, by decide, h⟩, dec_nb (by decide)]
      have hu : FP.Core.sumUnits false (4503599627370496 + T) (((1023 : Nat) : Int) - 1075) true (4503599627370496 + 0) (((1023 : Nat) : Int) - 1075) (min (((1023 : Nat) : Int) - 1075) (((1023 : Nat) : Int) - 1075)) = (T : Int) := by
        show (((4503599627370496 + T) * 2 ^ ((((1023 : Nat) : Int) - 1075) - min (((1023 : Nat) : Int) - 1075) (((1023 : Nat) : Int) - 1075)).toNat : Nat) : Int) + -((((4503599627370496 + 0) * 2 ^ ((((1023 : Nat) : Int) - 1075) - min (((1023 : Nat) : Int) - 1075) (((1023 : Nat) : Int) - 1075)).toNat : Nat) : Int)) = _
        rw [show ((((1023 : Nat) : Int) - 1075) - min (((1023 : Nat) : Int) - 1075) (((1023 : Nat) : Int) - 1075)).toNat = 0 by omega]
        omega
      have he : FP.Core.exactSum (nF 1023 T) (FP.Core.negate (nF 1023 0)) = .fin false T (-52) := by
        show FP.Core.Datum.fin (FP.Core.sumSign false true (FP.Core.sumUnits false (4503599627370496 + T) (((1023 : Nat) : Int) - 1075) true (4503599627370496 + 0) (((1023 : Nat) : Int) - 1075) (min (((1023 : Nat) : Int) - 1075) (((1023 : Nat) : Int) - 1075)))) (FP.Core.sumUnits false (4503599627370496 + T) (((1023 : Nat) : Int) - 1075) true (4503599627370496 + 0) (((1023 : Nat) : Int) - 1075) (min (((1023 : Nat) : Int) - 1075) (((1023 : Nat) : Int) - 1075))).natAbs (min (((1023 : Nat) : Int) - 1075) (((1023 : Nat) : Int) - 1075)) = _
        rw [hu, show FP.Core.sumSign false true (T : Int) = false by unfold FP.Core.sumSign; rw [if_neg (by omega)]; exact decide_eq_false (by omega), show (T : Int).natAbs = T by omega, show min (((1023 : Nat) : Int) - 1075) (((1023 : Nat) : Int) - 1075) = -52 by omega]
      rw [he, rnd_2 (j := 52 - L) (by omega) m1 m2 (by omega) (by omega), ← enc_nb ⟨by omega, by omega, by omega⟩]
      unfold nF
      rw [show 4503599627370496 + (T * 2 ^ (52 - L) - 4503599627370496) = T * 2 ^ (52 - L) by omega, show (((971 + L : Nat) : Int) - 1075) = -52 - ((52 - L : Nat) : Int) by omega]
    have ok1 : nOK (971 + L) (T * 2 ^ (52 - L) - 4503599627370496) := ⟨by omega, by omega, by omega⟩
    have ok2 : nOK (971 + L + 1075 - 1023) (T * 2 ^ (52 - L) - 4503599627370496) := ⟨by omega, by omega, by omega⟩
    refine ⟨_, _, ?_, dml_n ok1 (by decide) ok2 (by omega), ?_⟩
    · unfold dsb
      rw [hs, if_pos (nb_mask ok1)]
    · show FP.Core.toL (FP.Core.decode FP.Core.b64 (nb _ _).toNat) = _
      rw [dec_nb ok2]
      show Int64.ofInt (max (-9223372036854775808) (min 9223372036854775807 ((((4503599627370496 + (T * 2 ^ (52 - L) - 4503599627370496)) * 2 ^ (((971 + L + 1075 - 1023 : Nat) : Int) - 1075).toNat / 2 ^ (-(((971 + L + 1075 - 1023 : Nat) : Int) - 1075)).toNat : Nat) : Int)))) = _
      rw [show 4503599627370496 + (T * 2 ^ (52 - L) - 4503599627370496) = T * 2 ^ (52 - L) by omega, show (((971 + L + 1075 - 1023 : Nat) : Int) - 1075).toNat = 0 by omega, show (-(((971 + L + 1075 - 1023 : Nat) : Int) - 1075)).toNat = 52 - L by omega, Nat.pow_zero, Nat.mul_one, Nat.mul_div_cancel _ hp, show max (-9223372036854775808) (min 9223372036854775807 (T : Int)) = (T : Int) by omega]
      exact Int64.ofInt_eq_ofNat
theorem bits_c {s : UInt64} {M : Mem} (h : isSh s) : f_X8_bitsOf s M = some (UInt64.toInt64 s) := by
  obtain ⟨r, h1, h2⟩ : Ok (f_X8_bitsOf s M) (fun r => r = UInt64.toInt64 s) := by
    unfold f_X8_bitsOf
    rcases h with rfl | ⟨E, T, e1, e2, e3, rfl⟩
    · exact Ok.neg (by decide +kernel) (Ok.of (by decide +kernel))
    · have ok : ∀ i, i ≤ 1023 - E → nOK (E + i) T := fun i hi => ⟨by omega, by omega, e3⟩
      refine Ok.pos (by rw [cmp_0 (show nOK E T from ok 0 (by omega))]; decide) ?_
      refine Ok.bind (P := fun o => o = (nb 1023 T, Int64.ofNat E)) ?_ ?_
      · refine loop_FU (fun i (z : UInt64 × Int64 × Int32) => z = (nb (E + i) T, Int64.ofNat (1023 - i), nI i)) _ (1023 - E) (by omega) ?_ ?_ rfl
        · rintro i z hi rfl
          unfold f_X8_bitsOf_l18
          dsimp only
          refine Ok.neg (nI_ge (b := 60) (by omega) (by decide)) ?_
          rw [one_e, two_e]
          refine Ok.neg (by rw [cmp_1 (ok i (by omega)) (by omega)]; decide) ?_
          refine Ok.eqb (dml_n (ok i (by omega)) (by decide) (by rw [show E + i + 1024 - 1023 = E + (i + 1) by omega]; exact ok (i + 1) (by omega)) (by omega)) (Ok.of ?_)
          show (_, _, _) = (_, _, _)
          rw [show E + i + 1024 - 1023 = E + (i + 1) by omega, nI_1, show 1023 - i = (1023 - (i + 1)) + 1 by omega, i64_p ⟨1023 - (i + 1), by omega⟩]
        · rintro z rfl
          unfold f_X8_bitsOf_l18
          dsimp only
          refine Ok.neg (nI_ge (b := 60) (by omega) (by decide)) ?_
          rw [one_e, show E + (1023 - E) = 1023 by omega, show 1023 - (1023 - E) = E by omega]
          exact Ok.pos (cmp_2 e3) (Ok.of rfl)
      · rintro o rfl
        unfold f_X8_bitsOf_j49
        dsimp only
        rw [one_e, big_e]
        obtain ⟨y, z, y1, y2, y3⟩ := frac_c e3
        refine Ok.eqb y1 (Ok.eqb y2 (Ok.of ?_))
        rw [y3, i64_s ⟨E, by omega⟩, ← Int64.ofNat_add]
        rfl
  rw [h1, h2]
