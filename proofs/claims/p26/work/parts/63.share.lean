/-! the share of the time, and its bits -/
theorem cmp_i (a b : Int) : compare a b = if a < b then .lt else if a = b then .eq else .gt := rfl
theorem fin_mul {E T E2 : Nat} (h : nOK E T) (h2 : nOK E2 0) (ho : nOK (E + E2 - 1023) T) (hl : 1023 ≤ E + E2) : FP.dmul (nb E T) (nb E2 0) = nb (E + E2 - 1023) T := by
  show UInt64.ofNat (FP.Core.encode FP.Core.b64 (FP.Core.round FP.Core.b64 (FP.Core.exactProduct (FP.Core.decode FP.Core.b64 (nb E T).toNat) (FP.Core.decode FP.Core.b64 (nb E2 0).toNat)))) = _
  rw [dec_nb h, dec_nb h2]
  show UInt64.ofNat (FP.Core.encode FP.Core.b64 (FP.Core.round FP.Core.b64 (.fin false ((4503599627370496 + T) * (4503599627370496 + 0)) (((E : Int) - 1075) + ((E2 : Int) - 1075))))) = _
  obtain ⟨g1, g2, g3⟩ := id ho
  rw [rnd_1 (j := 52) (P := 4503599627370496 + 0) (by decide) (by omega) (by omega) (by omega) (by omega)]
  rw [show ((E : Int) - 1075 + ((E2 : Int) - 1075) + ((52 : Nat) : Int)) = ((E + E2 - 1023 : Nat) : Int) - 1075 by omega]
  exact enc_nb ho
theorem dml_n {E T E2 : Nat} (h : nOK E T) (h2 : nOK E2 0) (ho : nOK (E + E2 - 1023) T) (hl : 1023 ≤ E + E2) : dml (nb E T) (nb E2 0) = some (nb (E + E2 - 1023) T) := by
  unfold dml
  rw [fin_mul h h2 ho hl, if_pos (nb_mask ho)]
theorem one_e : (0x3ff0000000000000 : UInt64) = nb 1023 0 := by decide +kernel
theorem two_e : (4611686018427387904 : UInt64) = nb 1024 0 := by decide +kernel
theorem big_e : (4841369599423283200 : UInt64) = nb 1075 0 := by decide +kernel
theorem cmp_s {E T : Nat} (h : nOK E T) : FP.dcmp (nb E T) (nb E T) = some .eq := by
  show FP.Core.order (FP.Core.decode FP.Core.b64 (nb E T).toNat) (FP.Core.decode FP.Core.b64 (nb E T).toNat) = _
  rw [dec_nb h]
  show some (compare _ _) = _
  rw [Int.min_self]
  refine congrArg some ?_
  show (if _ < _ then Ordering.lt else if _ = _ then Ordering.eq else Ordering.gt) = _
  rw [if_neg (Int.lt_irrefl _), if_pos rfl]
theorem cmp_0 {E T : Nat} (h : nOK E T) : FP.dcmp (nb E T) 0 = some .gt := by
  show FP.Core.order (FP.Core.decode FP.Core.b64 (nb E T).toNat) (FP.Core.decode FP.Core.b64 (0 : UInt64).toNat) = _
  rw [dec_nb h, show FP.Core.decode FP.Core.b64 (0 : UInt64).toNat = .fin false 0 (-1074) by decide +kernel]
  show some (compare (((4503599627370496 + T) * 2 ^ (((E : Int) - 1075) - min ((E : Int) - 1075) (-1074)).toNat : Nat) : Int) ((0 * 2 ^ ((-1074 : Int) - min ((E : Int) - 1075) (-1074)).toNat : Nat) : Int)) = _
  have hp : 0 < (4503599627370496 + T) * 2 ^ (((E : Int) - 1075) - min ((E : Int) - 1075) (-1074)).toNat := Nat.mul_pos (by omega) (Nat.two_pow_pos _)
  refine congrArg some ?_
  rw [Nat.zero_mul]
  generalize (4503599627370496 + T) * 2 ^ (((E : Int) - 1075) - min ((E : Int) - 1075) (-1074)).toNat = x at hp ⊢
  show (if (x : Int) < ((0 : Nat) : Int) then Ordering.lt else if (x : Int) = ((0 : Nat) : Int) then Ordering.eq else Ordering.gt) = _
  rw [if_neg (by omega), if_neg (by omega)]
theorem cmp_1 {E T : Nat} (h : nOK E T) (h1 : E < 1023) : FP.dcmp (nb E T) (nb 1023 0) = some .lt := by
  show FP.Core.order (FP.Core.decode FP.Core.b64 (nb E T).toNat) (FP.Core.decode FP.Core.b64 (nb 1023 0).toNat) = _
  rw [dec_nb h, dec_nb (by decide)]
  show some (compare (((4503599627370496 + T) * 2 ^ (((E : Int) - 1075) - min ((E : Int) - 1075) (((1023 : Nat) : Int) - 1075)).toNat : Nat) : Int) (((4503599627370496 + 0) * 2 ^ ((((1023 : Nat) : Int) - 1075) - min ((E : Int) - 1075) (((1023 : Nat) : Int) - 1075)).toNat : Nat) : Int)) = _
  rw [show (((E : Int) - 1075) - min ((E : Int) - 1075) (((1023 : Nat) : Int) - 1075)).toNat = 0 by omega, show ((((1023 : Nat) : Int) - 1075) - min ((E : Int) - 1075) (((1023 : Nat) : Int) - 1075)).toNat = 1022 - E + 1 by omega, Nat.pow_succ]
  have hp : 0 < 2 ^ (1022 - E) := Nat.two_pow_pos _
  have hT := h.2.2
  generalize 2 ^ (1022 - E) = P at hp ⊢
  refine congrArg some ?_
  show (if (((4503599627370496 + T) * 2 ^ 0 : Nat) : Int) < (((4503599627370496 + 0) * (P * 2) : Nat) : Int) then Ordering.lt else _) = _
  rw [if_pos (by omega)]
theorem cmp_2 {T : Nat} (h : T < 4503599627370496) : 0 ≤ Op.cmpValue (FP.dcmp (nb 1023 T) (nb 1023 0)) .g := by
  have e : FP.dcmp (nb 1023 T) (nb 1023 0) = some (if T = 0 then .eq else .gt) := by
    show FP.Core.order (FP.Core.decode FP.Core.b64 (nb 1023 T).toNat) (FP.Core.decode FP.Core.b64 (nb 1023 0).toNat) = _
    rw [dec_nb ⟨by decide, by decide, h⟩, dec_nb (by decide)]
    show some (compare (((4503599627370496 + T) * 2 ^ ((((1023 : Nat) : Int) - 1075) - min (((1023 : Nat) : Int) - 1075) (((1023 : Nat) : Int) - 1075)).toNat : Nat) : Int) (((4503599627370496 + 0) * 2 ^ ((((1023 : Nat) : Int) - 1075) - min (((1023 : Nat) : Int) - 1075) (((1023 : Nat) : Int) - 1075)).toNat : Nat) : Int)) = _
    rw [show ((((1023 : Nat) : Int) - 1075) - min (((1023 : Nat) : Int) - 1075) (((1023 : Nat) : Int) - 1075)).toNat = 0 by omega]
    refine congrArg some ?_
    have hx : (4503599627370496 + T) * 2 ^ 0 = 4503599627370496 + T := by rw [Nat.pow_zero, Nat.mul_one]
    have hy : (4503599627370496 + 0) * 2 ^ 0 = 4503599627370496 := by rw [Nat.pow_zero, Nat.mul_one]
    rw [hx, hy]
    clear hx hy
    obtain ⟨x, hx⟩ : ∃ x, 4503599627370496 + T = x := ⟨_, rfl⟩
    rw [hx]
    rw [cmp_i]
    rw [if_neg (by omega)]
    by_cases hT : T = 0
    · rw [if_pos hT, if_pos (by omega)]
    · rw [if_neg hT, if_neg (by omega)]
  rw [e]
  by_cases hT : T = 0
  · rw [if_pos hT]
    decide
  · rw [if_neg hT]
    decide
/-- the share, of all pairs -/
theorem ddiv_n {la lb Ta Tb : Nat} (hab : la ≤ lb) (b3 : lb ≤ 7) (a2 : Ta < 4503599627370496) (b2 : Tb < 4503599627370496) : ∃ E T, 1000 ≤ E ∧ E ≤ 1023 ∧ T < 4503599627370496 ∧ FP.ddiv (nb (1023 + la) Ta) (nb (1023 + lb) Tb) = nb E T := by
  obtain ⟨C, c1, c2, c3⟩ := quo_n (c := 4503599627370496 + Ta) (d := 4503599627370496 + Tb) (e := (((1023 + la : Nat) : Int) - 1075) - (((1023 + lb : Nat) : Int) - 1075)) (by omega) (by omega) (by omega) (by omega) (by omega)
  have hd : FP.ddiv (nb (1023 + la) Ta) (nb (1023 + lb) Tb) = UInt64.ofNat (FP.Core.encode FP.Core.b64 (.fin false C (if 4503599627370496 + Tb ≤ 4503599627370496 + Ta then (((1023 + la : Nat) : Int) - 1075) - (((1023 + lb : Nat) : Int) - 1075) - 52 else (((1023 + la : Nat) : Int) - 1075) - (((1023 + lb : Nat) : Int) - 1075) - 53))) := by
    show UInt64.ofNat (FP.Core.encode FP.Core.b64 (FP.Core.quotient FP.Core.b64 (FP.Core.decode FP.Core.b64 (nb (1023 + la) Ta).toNat) (FP.Core.decode FP.Core.b64 (nb (1023 + lb) Tb).toNat))) = _
    rw [dec_nb ⟨by omega, by omega, a2⟩, dec_nb ⟨by omega, by omega, b2⟩]
    unfold FP.Core.quotient
    dsimp only
    rw [if_neg (show ¬ 4503599627370496 + Tb = 0 by omega)]
    exact congrArg (fun x => UInt64.ofNat (FP.Core.encode FP.Core.b64 x)) c3
  rw [hd]
  by_cases hT : 4503599627370496 + Tb ≤ 4503599627370496 + Ta
  · rw [if_pos hT]
    refine ⟨1023 + la - lb, C - 4503599627370496, by omega, by omega, by omega, ?_⟩
    rw [← enc_nb ⟨by omega, by omega, by omega⟩]
    unfold nF
    rw [show 4503599627370496 + (C - 4503599627370496) = C by omega, show (((1023 + la - lb : Nat) : Int) - 1075) = (((1023 + la : Nat) : Int) - 1075) - (((1023 + lb : Nat) : Int) - 1075) - 52 by omega]
  · rw [if_neg hT]
    refine ⟨1022 + la - lb, C - 4503599627370496, by omega, by omega, by omega, ?_⟩
    rw [← enc_nb ⟨by omega, by omega, by omega⟩]
    unfold nF
    rw [show 4503599627370496 + (C - 4503599627370496) = C by omega, show (((1022 + la - lb : Nat) : Int) - 1075) = (((1023 + la : Nat) : Int) - 1075) - (((1023 + lb : Nat) : Int) - 1075) - 53 by omega]
theorem shr_n {a b : Nat} (h1 : 1 ≤ a) (h2 : a ≤ b) (h3 : b ≤ 200) : ∃ E T, 1000 ≤ E ∧ E ≤ 1023 ∧ T < 4503599627370496 ∧ FP.ddiv (FP.i2d (nI a)) (FP.i2d (nI b)) = nb E T := by
  obtain ⟨a1, a2, a3⟩ := i2d_all ⟨a, by omega⟩ h1
  obtain ⟨b1, b2, b3⟩ := i2d_all ⟨b, by omega⟩ (Nat.le_trans h1 h2)
  dsimp only at a1 a2 a3 b1 b2 b3
  have hab : a.log2 ≤ b.log2 := by
    have q1 : 2 ^ a.log2 ≤ a := Nat.log2_self_le (by omega)
    have q2 : b < 2 ^ (b.log2 + 1) := Nat.lt_log2_self
    have := (Nat.pow_lt_pow_iff_right (a := 2) (by decide)).mp (Nat.lt_of_le_of_lt q1 (Nat.lt_of_le_of_lt h2 q2))
    omega
  rw [a1, b1]
  exact ddiv_n hab b3 a2 b2
theorem shr_0 : ∀ b : Fin 201, 1 ≤ b.1 → FP.ddiv (FP.i2d (nI 0)) (FP.i2d (nI b.1)) = 0 := by decide +kernel
theorem one_mul_all : ∀ a : Fin 201, dml 0x3ff0000000000000 (FP.i2d (nI a.1)) = some (FP.i2d (nI a.1)) := by decide +kernel
def isSh (s : UInt64) : Prop := s = 0 ∨ ∃ E T, 1000 ≤ E ∧ E ≤ 1023 ∧ T < 4503599627370496 ∧ s = nb E T
theorem shr_d {a b : Nat} (h1 : 1 ≤ b) (h2 : a ≤ b) (h3 : b ≤ 200) : ∃ s, ddv (FP.i2d (nI a)) (FP.i2d (nI b)) = some s ∧ isSh s := by
  rcases Nat.eq_zero_or_pos a with h | h
  · subst h
    refine ⟨0, ?_, Or.inl rfl⟩
    unfold ddv
    rw [shr_0 ⟨b, by omega⟩ h1]
    decide +kernel
  · obtain ⟨E, T, e1, e2, e3, e4⟩ := shr_n h h2 h3
    refine ⟨nb E T, ?_, Or.inr ⟨E, T, e1, e2, e3, rfl⟩⟩
    unfold ddv
    rw [e4, if_pos (nb_mask ⟨by omega, by omega, e3⟩)]
theorem sh_self {s : UInt64} (h : isSh s) : FP.dcmp s s = some .eq := by
  rcases h with rfl | ⟨E, T, e1, e2, e3, rfl⟩
  · decide +kernel
  · exact cmp_s ⟨by omega, by omega, e3⟩
/-- the class's bits of a share -/
theorem cB_mono {p q : Nat → Bool} (h : ∀ m, p m = true → q m = true) : ∀ n, cB p n ≤ cB q n
  | 0 => Nat.le_refl _
  | n + 1 => by
    have ih := cB_mono h n
    unfold cB
    by_cases hp : p n = true
    · rw [hp, h n hp]
      omega
    · rw [if_neg hp]
      omega
theorem dA_cntd {lv wd st : Nat → Int32} (m : Nat) (h : dA lv wd st m = true) : cntd (sWhy lv wd st) m = true := by
  unfold dA at h
  unfold cntd
  rw [h]
  rfl
def shA (d : Dt) : Nat := cB (dA d.1 d.2.1 d.2.2.2.1) d.2.2.2.2.1
def shB (d : Dt) : Nat := cB (cntd (sWhy d.1 d.2.1 d.2.2.2.1)) d.2.2.2.2.1
def shD (d : Dt) : UInt64 := if shB d = 0 then 0 else FP.ddiv (FP.i2d (nI (shA d))) (FP.i2d (nI (shB d)))
theorem sh_le {d : Dt} (hv : Vd d) : shA d ≤ shB d ∧ shB d ≤ 200 := ⟨cB_mono dA_cntd _, Nat.le_trans (cB_le _ _) hv.1⟩
theorem shD_ok {d : Dt} (hv : Vd d) : isSh (shD d) ∧ (shB d ≠ 0 → ddv (FP.i2d (nI (shA d))) (FP.i2d (nI (shB d))) = some (shD d)) := by
  obtain ⟨h1, h2⟩ := sh_le hv
  unfold shD
  by_cases h0 : shB d = 0
  · rw [if_pos h0]
    exact ⟨Or.inl rfl, fun q => absurd h0 q⟩
  · rw [if_neg h0]
    obtain ⟨s, s1, s2⟩ := shr_d (a := shA d) (b := shB d) (by omega) h1 h2
    have e : FP.ddiv (FP.i2d (nI (shA d))) (FP.i2d (nI (shB d))) = s := by
      unfold ddv at s1
      by_cases hc : FP.ddiv (FP.i2d (nI (shA d))) (FP.i2d (nI (shB d))) &&& 0x7fffffffffffffff ≤ 0x7ff0000000000000
      · rw [if_pos hc] at s1
        exact Option.some.inj s1
      · rw [if_neg hc] at s1
        cases s1
    rw [e]
    exact ⟨s2, fun _ => s1⟩
theorem share_c {d : Dt} {M : Mem} (hv : Vd d) (hw : Vw d M) : f_X4_shareAbove 56 M = some (shD d) := by
  have e4 : M 56 4 = nI (shB d) := hw.1.1.2.1
  have e6 : M 56 6 = nI (shA d) := hw.1.1.2.2.2.1
  have hb := (sh_le hv).2
  unfold f_X4_shareAbove
  rw [e4, e6]
  by_cases h0 : shB d = 0
  · refine eq_n (by rw [h0]; decide) ?_
    unfold shD
    rw [if_pos h0]
  · exact eq_p (nI_le (a := 1) (by omega) (by omega)) (eq_b ((shD_ok hv).2 h0) rfl)
