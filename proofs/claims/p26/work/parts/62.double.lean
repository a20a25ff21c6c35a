/-! doubles: normal numbers by exponent and fraction -/
def nb (E T : Nat) : UInt64 := UInt64.ofNat (E * 4503599627370496 + T)
abbrev nF (E T : Nat) : FP.Core.Datum := .fin false (4503599627370496 + T) ((E : Int) - 1075)
abbrev nOK (E T : Nat) : Prop := 1 ≤ E ∧ E ≤ 2046 ∧ T < 4503599627370496
theorem qmin_e : FP.Core.b64.qmin = -1074 := by decide
theorem qmax_e : FP.Core.b64.qmax = 971 := by decide
theorem nb_n {E T : Nat} (h : nOK E T) : (nb E T).toNat = E * 4503599627370496 + T := by
  unfold nb
  exact UInt64.toNat_ofNat_of_lt' (show _ < 18446744073709551616 by obtain ⟨h1, h2, h3⟩ := h; omega)
theorem dec_nb {E T : Nat} (h : nOK E T) : FP.Core.decode FP.Core.b64 (nb E T).toNat = nF E T := by
  rw [nb_n h]
  obtain ⟨h1, h2, h3⟩ := h
  have tT : FP.Core.fieldT FP.Core.b64 (E * 4503599627370496 + T) = T := by
    show (E * 4503599627370496 + T) % 4503599627370496 = T
    omega
  have tE : FP.Core.fieldE FP.Core.b64 (E * 4503599627370496 + T) = E := by
    show (E * 4503599627370496 + T) / 4503599627370496 % 2048 = E
    omega
  have tS : FP.Core.fieldS FP.Core.b64 (E * 4503599627370496 + T) = false := by
    show ((E * 4503599627370496 + T) / 4503599627370496 / 2048 % 2 == 1) = false
    rw [show (E * 4503599627370496 + T) / 4503599627370496 / 2048 % 2 = 0 by omega]
    rfl
  unfold FP.Core.decode
  rw [tE, tT, tS, if_neg (show ¬ E = FP.Core.b64.exps - 1 from fun q => by rw [show FP.Core.b64.exps - 1 = 2047 by decide] at q; omega), if_neg (show ¬ E = 0 by omega), qmin_e]
  show FP.Core.Datum.fin false (4503599627370496 + T) _ = .fin false (4503599627370496 + T) _
  rw [show (-1074 : Int) + ((E : Int) - 1) = (E : Int) - 1075 by omega]
theorem enc_nb {E T : Nat} (h : nOK E T) : UInt64.ofNat (FP.Core.encode FP.Core.b64 (nF E T)) = nb E T := by
  obtain ⟨h1, h2, h3⟩ := h
  unfold nb
  refine congrArg UInt64.ofNat ?_
  show (if 4503599627370496 + T < 4503599627370496 then _ else (0 * 2048 + ((((E : Int) - 1075) - FP.Core.b64.qmin).toNat + 1)) * 4503599627370496 + (4503599627370496 + T - 4503599627370496)) = _
  rw [if_neg (by omega), qmin_e, show (((E : Int) - 1075) - -1074).toNat + 1 = E by omega]
  omega
theorem near_e {A B M : Nat} (h : A = M * B) (hB : 0 < B) : FP.Core.nearest A B = M := by
  subst h
  unfold FP.Core.nearest
  rw [Nat.mul_mod_left, if_pos (by omega), Nat.mul_div_cancel _ hB]
theorem near_b {A B M : Nat} (hB : 0 < B) (h : A ≤ M * B) : FP.Core.nearest A B ≤ M := by
  have h1 : B * (A / B) + A % B = A := Nat.div_add_mod A B
  have h2 : A % B < B := Nat.mod_lt _ hB
  have h3 : A / B ≤ M := Nat.div_le_of_le_mul (by rw [Nat.mul_comm]; exact h)
  unfold FP.Core.nearest
  by_cases e : A / B = M
  · have : A % B = 0 := by
      rw [e, Nat.mul_comm] at h1
      omega
    rw [this, if_pos (by omega)]
    omega
  · split
    · omega
    · split
      · omega
      · have := Nat.mod_lt (A / B) (show 0 < 2 by decide)
        omega
theorem near_l {A B M : Nat} (hB : 0 < B) (h : M * B ≤ A) : M ≤ FP.Core.nearest A B := by
  have h3 : M ≤ A / B := (Nat.le_div_iff_mul_le hB).mpr h
  unfold FP.Core.nearest
  split
  · omega
  · split
    · omega
    · omega
theorem lead_1 {c : Nat} (h : 0 < c) : FP.Core.leading c 1 = (c.log2 : Int) := by
  show (if 1 * 2 ^ (((c.log2 : Int) - ((1 : Nat).log2 : Int)).toNat) ≤ c * 2 ^ ((-((c.log2 : Int) - ((1 : Nat).log2 : Int))).toNat) then ((c.log2 : Int) - ((1 : Nat).log2 : Int)) else _) = _
  rw [show (1 : Nat).log2 = 0 by decide, show ((c.log2 : Int) - ((0 : Nat) : Int)) = (c.log2 : Int) by omega, show ((c.log2 : Int)).toNat = c.log2 by omega, show (-(c.log2 : Int)).toNat = 0 by omega, if_pos]
  rw [Nat.one_mul, Nat.pow_zero, Nat.mul_one]
  exact Nat.log2_self_le (by omega)
theorem rnd_g {s : Bool} {c : Nat} {e q : Int} {c0 L : Nat} (h1 : 4503599627370496 ≤ c0) (h2 : c0 < 9007199254740992) (hc : 0 < c) (hL : c.log2 = L) (hq : max FP.Core.b64.qmin ((L : Int) + e - ((FP.Core.b64.p : Int) - 1)) = q) (hq2 : q ≤ 971)
    (hn : FP.Core.nearest (FP.Core.unitsNum c e q) (FP.Core.unitsDen 1 e q) = c0) : FP.Core.round FP.Core.b64 (.fin s c e) = .fin s c0 q := by
  show (if c = 0 then _ else FP.Core.roundAt FP.Core.b64 s c 1 e (FP.Core.quantum FP.Core.b64 c 1 e)) = _
  rw [if_neg (by omega)]
  unfold FP.Core.quantum
  rw [lead_1 hc, hL, hq]
  unfold FP.Core.roundAt
  rw [hn]
  unfold FP.Core.settle FP.Core.bound
  rw [if_pos (show c0 < 2 ^ FP.Core.b64.p from h2), if_pos (by rw [qmax_e]; exact hq2)]
theorem p53 : ((FP.Core.b64.p : Int) - 1) = 52 := by decide
/-- rounding away zeros at the end -/
theorem rnd_1 {s : Bool} {c0 j P : Nat} {e : Int} (hP : P = 2 ^ j) (h1 : 4503599627370496 ≤ c0) (h2 : c0 < 9007199254740992) (hq : -1074 ≤ e + j) (hq2 : e + j ≤ 971) : FP.Core.round FP.Core.b64 (.fin s (c0 * P) e) = .fin s c0 (e + j) := by
  subst hP
  have hp : 0 < 2 ^ j := Nat.two_pow_pos j
  have hc : 0 < c0 * 2 ^ j := Nat.mul_pos (by omega) hp
  refine rnd_g (L := 52 + j) h1 h2 hc ?_ ?_ hq2 ?_
  · refine (Nat.log2_eq_iff (by omega)).mpr ⟨?_, ?_⟩
    · rw [Nat.pow_add]
      exact Nat.mul_le_mul_right _ h1
    · rw [show 52 + j + 1 = 53 + j by omega, Nat.pow_add]
      exact Nat.mul_lt_mul_of_pos_right h2 hp
  · rw [qmin_e, p53]
    omega
  · unfold FP.Core.unitsNum FP.Core.unitsDen
    rw [show (e - (e + (j : Int))).toNat = 0 by omega, show (e + (j : Int) - e).toNat = j by omega]
    exact near_e (by rw [Nat.pow_zero, Nat.mul_one, Nat.one_mul]) (by omega)
/-- rounding fills up with zeros at the end -/
theorem rnd_2 {s : Bool} {c j : Nat} {e : Int} (hj : j ≤ 52) (h1 : 4503599627370496 ≤ c * 2 ^ j) (h2 : c * 2 ^ j < 9007199254740992) (hq : -1074 ≤ e - j) (hq2 : e - j ≤ 971) : FP.Core.round FP.Core.b64 (.fin s c e) = .fin s (c * 2 ^ j) (e - j) := by
  have hp : 0 < 2 ^ j := Nat.two_pow_pos j
  have hc : 0 < c := by
    rcases Nat.eq_zero_or_pos c with h | h
    · rw [h] at h1
      omega
    · exact h
  refine rnd_g (L := 52 - j) h1 h2 hc ?_ ?_ hq2 ?_
  · refine (Nat.log2_eq_iff (by omega)).mpr ⟨?_, ?_⟩
    · refine Nat.le_of_mul_le_mul_right ?_ hp
      rw [← Nat.pow_add, show 52 - j + j = 52 by omega]
      exact h1
    · refine Nat.lt_of_mul_lt_mul_right (a := 2 ^ j) ?_
      rw [← Nat.pow_add, show 52 - j + 1 + j = 53 by omega]
      exact h2
  · rw [qmin_e, p53]
    omega
  · unfold FP.Core.unitsNum FP.Core.unitsDen
    rw [show (e - (e - (j : Int))).toNat = j by omega, show (e - (j : Int) - e).toNat = 0 by omega]
    exact near_e (by simp) (by decide)
theorem lead_52 {c d : Nat} (h1 : 4503599627370496 ≤ c) (h2 : c < 9007199254740992) (h3 : 4503599627370496 ≤ d) (h4 : d < 9007199254740992) : FP.Core.leading c d = if d ≤ c then 0 else -1 := by
  have l1 : c.log2 = 52 := (Nat.log2_eq_iff (by omega)).mpr ⟨h1, h2⟩
  have l2 : d.log2 = 52 := (Nat.log2_eq_iff (by omega)).mpr ⟨h3, h4⟩
  show (if d * 2 ^ (((c.log2 : Int) - (d.log2 : Int)).toNat) ≤ c * 2 ^ ((-((c.log2 : Int) - (d.log2 : Int))).toNat) then ((c.log2 : Int) - (d.log2 : Int)) else ((c.log2 : Int) - (d.log2 : Int)) - 1) = _
  rw [l1, l2, show (((52 : Nat) : Int) - ((52 : Nat) : Int)) = 0 by omega, show (0 : Int).toNat = 0 from rfl, show (-(0 : Int)).toNat = 0 from rfl, Nat.pow_zero, Nat.mul_one, Nat.mul_one]
  rfl
theorem quo_n {c d : Nat} {e : Int} (h1 : 4503599627370496 ≤ c) (h2 : c < 9007199254740992) (h3 : 4503599627370496 ≤ d) (h4 : d < 9007199254740992) (he : -100 ≤ e ∧ e ≤ 100) :
    ∃ C, 4503599627370496 ≤ C ∧ C < 9007199254740992 ∧ FP.Core.roundRatio FP.Core.b64 false c d e = .fin false C (if d ≤ c then e - 52 else e - 53) := by
  have key : ∀ (k : Nat) (q : Int), FP.Core.quantum FP.Core.b64 c d e = q → q = e - k → 4503599627370496 * d ≤ c * 2 ^ k → c * 2 ^ k ≤ 9007199254740991 * d → q ≤ 971 → ∃ C, 4503599627370496 ≤ C ∧ C < 9007199254740992 ∧ FP.Core.roundRatio FP.Core.b64 false c d e = .fin false C q := by
    intro k q hq hk a1 a2 a3
    have b1 := near_l (A := c * 2 ^ k) (B := d) (by omega) a1
    have b2 := near_b (A := c * 2 ^ k) (B := d) (by omega) a2
    refine ⟨FP.Core.nearest (c * 2 ^ k) d, b1, by omega, ?_⟩
    unfold FP.Core.roundRatio
    rw [if_neg (by omega), hq]
    unfold FP.Core.roundAt FP.Core.unitsNum FP.Core.unitsDen
    rw [show (e - q).toNat = k by omega, show (q - e).toNat = 0 by omega, Nat.pow_zero, Nat.mul_one]
    unfold FP.Core.settle FP.Core.bound
    rw [if_pos (show FP.Core.nearest (c * 2 ^ k) d < 2 ^ FP.Core.b64.p from Nat.lt_of_le_of_lt b2 (by decide)), if_pos (by rw [qmax_e]; exact a3)]
  have hq0 : FP.Core.quantum FP.Core.b64 c d e = max (-1074) ((if d ≤ c then 0 else -1) + e - 52) := by
    unfold FP.Core.quantum
    rw [lead_52 h1 h2 h3 h4, qmin_e, p53]
  by_cases hdc : d ≤ c
  · rw [if_pos hdc] at hq0 ⊢
    exact key 52 (e - 52) (by rw [hq0]; omega) rfl (by omega) (by omega) (by omega)
  · rw [if_neg hdc] at hq0 ⊢
    exact key 53 (e - 53) (by rw [hq0]; omega) rfl (by omega) (by omega) (by omega)
theorem nb_mask {E T : Nat} (h : nOK E T) : nb E T &&& 0x7fffffffffffffff ≤ 0x7ff0000000000000 := by
  rw [UInt64.le_iff_toNat_le, UInt64.toNat_and, nb_n h, show (0x7fffffffffffffff : UInt64).toNat = 2 ^ 63 - 1 from rfl, Nat.and_two_pow_sub_one_eq_mod]
  obtain ⟨h1, h2, h3⟩ := h
  show _ ≤ 9218868437227405312
  omega
theorem i2d_all : ∀ a : Fin 201, 1 ≤ a.1 → FP.i2d (nI a.1) = nb (1023 + a.1.log2) (a.1 * 2 ^ (52 - a.1.log2) - 4503599627370496) ∧ a.1 * 2 ^ (52 - a.1.log2) - 4503599627370496 < 4503599627370496 ∧ a.1.log2 ≤ 7 := by decide +kernel
