/-! states, told and saved -/
def Zz (lv wd : Nat → Int32) (n : Nat) : Prop := ∀ m, n ≤ m → lv m = 0 ∧ wd m = 0
abbrev Dt : Type := (Nat → Int32) × (Nat → Int32) × (Nat → Int32) × (Nat → Int32) × Nat × Nat
def Vd (d : Dt) : Prop := d.2.2.2.2.1 ≤ 200 ∧ d.2.2.2.2.2 ≤ 20 ∧ Zz d.1 d.2.1 d.2.2.2.2.1 ∧ lvOK d.1 d.2.2.2.2.1 ∧ stOK d.2.2.2.1 ∧ ∀ k, k < d.2.2.2.2.2 → ∃ w, w ≤ 300 ∧ d.2.2.1 k = nI w
def Sc (b : Nat) (d : Dt) (M : Mem) : Prop := M b 4 = nI d.2.2.2.2.1 ∧ M b 5 = nI d.2.2.2.2.2 ∧ (∀ m, m < d.2.2.2.2.1 → M (b + 1) m = d.1 m ∧ M (b + 2) m = d.2.1 m) ∧ st10 (M (b + 3)) d.2.2.2.1 ∧ ∀ k, k < d.2.2.2.2.2 → M (b + 4) k = d.2.2.1 k
theorem Sc_off {b : Nat} {d : Dt} {M M' : Mem} (h : Sc b d M) (ho : ∀ c, b ≤ c → c ≤ b + 4 → M' c = M c) : Sc b d M' := by
  unfold Sc
  rw [ho b (by omega) (by omega), ho (b + 1) (by omega) (by omega), ho (b + 2) (by omega) (by omega), ho (b + 3) (by omega) (by omega), ho (b + 4) (by omega) (by omega)]
  exact h
theorem cpy_c {M : Mem} {a b n : Nat} {nn : Int32} (h : nn = nI n) (hn : n < 2 ^ 31) : cpy M a n 0 b n 0 nn = some (rset M b (va_cpy (M a) (M b) 0 0 n)) := by
  unfold cpy
  rw [h, nI_clamp hn, if_neg]
  · rfl
  · rintro (q | q | q | q | q)
    · exact absurd q (by decide)
    · exact absurd q (by decide)
    · exact nI_pos hn q
    · have : (0 : Int32).toNatClampNeg = 0 := rfl
      omega
    · have : (0 : Int32).toNatClampNeg = 0 := rfl
      omega
theorem cpy_at {f g : Nat → Int32} {n k : Nat} (h : k < n) : va_cpy f g 0 0 n k = f k := by
  unfold va_cpy
  rw [if_pos ⟨Nat.zero_le _, by omega⟩]
  congr 1
  omega
theorem rset_o {M : Mem} {c c' : Nat} {f : Nat → Int32} (h : c' ≠ c) : rset M c f c' = M c' := by unfold rset; rw [if_neg h]
theorem rset_s {M : Mem} {c : Nat} {f : Nat → Int32} : rset M c f c = f := by unfold rset; rw [if_pos rfl]
theorem Off.rset {cs : Nat → Prop} {M M' : Mem} {c : Nat} {f : Nat → Int32} (h : Off cs M M') (hc : cs c) : Off cs M (rset M' c f) := fun d hd => by
  rw [rset_o (fun q => hd (by rw [q]; exact hc))]
  exact h d hd
/-- a state is taken over by another -/
theorem takeOver_c {M : Mem} {b a : Nat} {d : Dt} (hv : Vd d) (h : Sc a d M) (hab : a + 4 < b ∨ b + 4 < a) : Ok (f_X5_takeOver b a M) (fun M' => Sc b d M' ∧ (∀ k, k ≠ 4 → k ≠ 5 → M' b k = M b k) ∧ Off (fun c => b ≤ c ∧ c ≤ b + 4) M M') := by
  obtain ⟨hn, hnc, -⟩ := hv
  obtain ⟨h1, h2, h3, h4, h5⟩ := h
  unfold f_X5_takeOver
  refine Ok.eqb (cpy_c (n := 200) rfl (by decide)) ?_
  refine Ok.eqb (cpy_c (n := 200) rfl (by decide)) ?_
  refine Ok.eqb (cpy_c (n := 10) rfl (by decide)) ?_
  refine Ok.eqb (cpy_c (n := 20) rfl (by decide)) ?_
  rw [stf_e]
  refine Ok.eqb rfl ?_
  rw [stf_e]
  refine Ok.eqb rfl (Ok.of ⟨⟨?_, ?_, fun m hm => ?_, fun k hk => ?_, fun k hk => ?_⟩, fun k g1 g2 => ?_, ?_⟩)
  · rw [mset_n (by decide), mset_s, rset_o (by omega), rset_o (by omega), rset_o (by omega), rset_o (by omega)]
    exact h1
  · rw [mset_s, mset_o (by omega), rset_o (by omega), rset_o (by omega), rset_o (by omega), rset_o (by omega)]
    exact h2
  · rw [mset_o (c' := b + 1) (by omega), mset_o (c' := b + 1) (by omega), rset_o (c' := b + 1) (by omega), rset_o (c' := b + 1) (by omega), rset_o (c' := b + 1) (by omega), rset_s, mset_o (c' := b + 2) (by omega), mset_o (c' := b + 2) (by omega), rset_o (c' := b + 2) (by omega), rset_o (c' := b + 2) (by omega), rset_s, cpy_at (by omega), cpy_at (by omega), rset_o (by omega)]
    exact h3 m hm
  · rw [mset_o (by omega), mset_o (by omega), rset_o (by omega), rset_s, cpy_at (by omega), rset_o (by omega), rset_o (by omega)]
    exact h4 k hk
  · rw [mset_o (by omega), mset_o (by omega), rset_s, cpy_at (by omega), rset_o (by omega), rset_o (by omega), rset_o (by omega)]
    exact h5 k hk
  · rw [mset_n g2, mset_n g1, rset_o (by omega), rset_o (by omega), rset_o (by omega), rset_o (by omega)]
  · exact (((((Off.rf.rset (by omega)).rset (by omega)).rset (by omega)).rset (by omega)).set (by omega)).set (by omega)
def HC (D : Nat → Dt) (next kept : Nat) (M : Mem) : Prop := next < 8 ∧ kept ≤ 8 ∧ M 46 1 = nI next ∧ M 46 2 = nI kept ∧ ∀ j, j < kept → Sc (6 + 5 * ((next + 8 - kept + j) % 8)) (D j) M
def pushD (D : Nat → Dt) (kept : Nat) (d : Dt) : Nat → Dt := fun j => if kept < 8 then (if j = kept then d else D j) else (if j = 7 then d else D (j + 1))
def pushK (kept : Nat) : Nat := if kept < 8 then kept + 1 else 8
theorem push_V {D : Nat → Dt} {kept : Nat} {d : Dt} (hk : kept ≤ 8) (h : ∀ j, j < kept → Vd (D j)) (hd : Vd d) : ∀ j, j < pushK kept → Vd (pushD D kept d j) := by
  intro j hj
  unfold pushK at hj
  unfold pushD
  by_cases h8 : kept < 8
  · rw [if_pos h8] at hj ⊢
    by_cases hj2 : j = kept
    · rw [if_pos hj2]
      exact hd
    · rw [if_neg hj2]
      exact h j (by omega)
  · rw [if_neg h8] at hj ⊢
    by_cases hj2 : j = 7
    · rw [if_pos hj2]
      exact hd
    · rw [if_neg hj2]
      exact h (j + 1) (by omega)
theorem rgI_n {k : Nat} (h : k < 8) : rgI (nI k) = some k := by
  unfold rgI
  rw [nI_clamp (by omega), if_neg]
  rintro (q | q)
  · exact nI_pos (by omega) q
  · omega
theorem rm8 {k : Nat} (h : k < 1000) : rmI (nI k) 8 = some (nI (k % 8)) := by
  unfold rmI
  rw [if_neg (by decide)]
  refine congrArg some (i_eq.mpr ?_)
  have e8 : (8 : Int32).toInt = 8 := rfl
  have h1 : (nI k / 8).toInt = (k : Int) / 8 := by
    rw [i_div (by decide), i_nI (by omega), e8, Int.tdiv_eq_ediv_of_nonneg (by omega)]
  have h2 : (nI k / 8 * 8).toInt = (k : Int) / 8 * 8 := by
    rw [i_mul] <;> rw [h1, e8] <;> omega
  rw [i_sub] <;> rw [i_nI (by omega), h2]
  · rw [i_nI (by omega)]
    omega
  · omega
  · omega
theorem mn8 {k : Nat} (h : k ≤ 8) : mnI (nI k + 1) 8 = nI (pushK k) := by
  unfold mnI pushK
  rw [nI_1]
  by_cases h8 : k < 8
  · rw [if_pos h8]
    by_cases h9 : (8 : Int32) < nI (k + 1)
    · have := (n_lt (a := 8) (by decide) (by omega)).mp h9
      omega
    · rw [if_neg h9]
  · rw [if_neg h8, if_pos (show (8 : Int32) < nI (k + 1) from (n_lt (a := 8) (b := k + 1) (by decide) (by omega)).mpr (by omega))]
    rfl
/-- the class keeps a state -/
theorem keep_c {M : Mem} {D : Nat → Dt} {d : Dt} {next kept : Nat} (h : HC D next kept M) (hd : Vd d) (hs : Sc 1 d M) :
    Ok (f_X1_keep 1 M) (fun M' => HC (pushD D kept d) ((next + 1) % 8) (pushK kept) M' ∧ Off (fun c => 6 ≤ c ∧ c ≤ 46) M M') := by
  obtain ⟨hn, hk, h1, h2, h3⟩ := h
  unfold f_X1_keep
  refine Ok.eqb (by rw [h1]; exact rgI_n hn) ?_
  refine Ok.bind (takeOver_c (b := 6 + 5 * next) hd hs (by omega)) ?_
  rintro M1 ⟨a1, a2, a3⟩
  have e46 : M1 46 = M 46 := a3 46 (by omega)
  rw [e46, h1, nI_1]
  refine Ok.eqb (rm8 (by omega)) ?_
  rw [stf_e]
  refine Ok.eqb rfl ?_
  rw [stf_e]
  refine Ok.eqb rfl (Ok.of ⟨⟨by omega, ?_, ?_, ?_, fun j hj => ?_⟩, ?_⟩)
  · unfold pushK
    split <;> omega
  · rw [mset_n (by decide), mset_s]
  · rw [mset_s, mset_n (by decide), e46, h2]
    exact mn8 hk
  · have oc : ∀ c, c < 46 → mset (mset M1 46 1 (nI ((next + 1) % 8))) 46 2 (mnI (mset M1 46 1 (nI ((next + 1) % 8)) 46 2 + 1) 8) c = M1 c := fun c hc => by rw [mset_o (by omega), mset_o (by omega)]
    refine Sc_off (M := M1) ?_ (fun c hc hc2 => oc c (by omega))
    unfold pushK at hj
    unfold pushD
    by_cases h8 : kept < 8
    · have e8 : pushK kept = kept + 1 := by unfold pushK; rw [if_pos h8]
      rw [if_pos h8] at hj ⊢
      rw [e8]
      by_cases hj2 : j = kept
      · rw [if_pos hj2, show ((next + 1) % 8 + 8 - (kept + 1) + j) % 8 = next by omega]
        exact a1
      · rw [if_neg hj2, show ((next + 1) % 8 + 8 - (kept + 1) + j) % 8 = (next + 8 - kept + j) % 8 by omega]
        exact Sc_off (h3 j (by omega)) (fun c hc hc2 => a3 c (by omega))
    · have e8 : pushK kept = 8 := by unfold pushK; rw [if_neg h8]
      rw [if_neg h8] at hj ⊢
      rw [e8]
      by_cases hj2 : j = 7
      · rw [if_pos hj2, show ((next + 1) % 8 + 8 - 8 + j) % 8 = next by omega]
        exact a1
      · rw [if_neg hj2, show ((next + 1) % 8 + 8 - 8 + j) % 8 = (next + 8 - kept + (j + 1)) % 8 by omega]
        exact Sc_off (h3 (j + 1) (by omega)) (fun c hc hc2 => a3 c (by omega))
  · exact (((a3.mono (fun c hc => by omega)).set (by omega)).set (by omega))
