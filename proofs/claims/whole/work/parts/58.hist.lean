/-! states, told and saved -/
abbrev Dt : Type := (Nat → Int32) × (Nat → Int32) × (Nat → Int32) × (Nat → Int32) × Nat × Nat
def Vd (d : Dt) : Prop := d.2.2.2.2.1 ≤ 200 ∧ d.2.2.2.2.2 ≤ 20 ∧ Zz d.1 d.2.1 d.2.2.2.2.1 ∧ lvOK d.1 d.2.2.2.2.1 ∧ stOK d.2.2.2.1 ∧ ∀ k, k < d.2.2.2.2.2 → ∃ w, w ≤ 300 ∧ d.2.2.1 k = nI w
def Sc (b : Nat) (d : Dt) (M : Mem) : Prop := M b 4 = nI d.2.2.2.2.1 ∧ M b 5 = nI d.2.2.2.2.2 ∧ (∀ m, m < d.2.2.2.2.1 → M (b + 1) m = d.1 m ∧ M (b + 2) m = d.2.1 m) ∧ st10 (M (b + 3)) d.2.2.2.1 ∧ ∀ k, k < d.2.2.2.2.2 → M (b + 4) k = d.2.2.1 k
def Zc (f : Nat → Int32) (d : Dt) : Prop := f 0 = nI d.2.2.2.2.1 ∧ f 411 = nI d.2.2.2.2.2 ∧ (∀ m, m < d.2.2.2.2.1 → f (1 + 2 * m) = d.1 m ∧ f (2 + 2 * m) = d.2.1 m) ∧ st10 (fun k => f (401 + k)) d.2.2.2.1 ∧ ∀ k, k < d.2.2.2.2.2 → f (412 + k) = d.2.2.1 k
theorem Sc_off {b : Nat} {d : Dt} {M M' : Mem} (h : Sc b d M) (ho : ∀ c, b ≤ c → c ≤ b + 4 → M' c = M c) : Sc b d M' := by
  unfold Sc
  rw [ho b (by omega) (by omega), ho (b + 1) (by omega) (by omega), ho (b + 2) (by omega) (by omega), ho (b + 3) (by omega) (by omega), ho (b + 4) (by omega) (by omega)]
  exact h
theorem Zc_cong {f g : Nat → Int32} {d : Dt} (hv : Vd d) (h : Zc f d) (hfg : ∀ k, k < 432 → g k = f k) : Zc g d := by
  obtain ⟨hn, hnc, -⟩ := hv
  obtain ⟨h1, h2, h3, h4, h5⟩ := h
  refine ⟨by rw [hfg 0 (by omega)]; exact h1, by rw [hfg 411 (by omega)]; exact h2, fun m hm => ?_, fun k hk => ?_, fun k hk => ?_⟩
  · rw [hfg _ (by omega), hfg _ (by omega)]
    exact h3 m hm
  · show g (401 + k) = _
    rw [hfg _ (by omega)]
    exact h4 k hk
  · rw [hfg _ (by omega)]
    exact h5 k hk
theorem cpy_c {M : Mem} {a b n : Nat} {nn : Int32} (h : nn = nI n) (hn : n < 2 ^ 31) : cpy M a n 0 b n 0 nn = some (rset M b (va_cpy (M a) (M b) 0 0 n)) := by
  unfold cpy
  rw [h, nI_clamp hn, if_neg]
  · rfl
  · rintro (q | q | q | q | q)
    · exact absurd q (by decide)
    · exact absurd q (by decide)
    · exact nI_pos hn q
    · have : (0 : Int32).toNatClampNeg = 0 := rfl
      omega
    · have : (0 : Int32).toNatClampNeg = 0 := rfl
      omega
theorem cpy_at {f g : Nat → Int32} {n k : Nat} (h : k < n) : va_cpy f g 0 0 n k = f k := by
  unfold va_cpy
  rw [if_pos ⟨Nat.zero_le _, by omega⟩]
  congr 1
  omega
theorem rset_o {M : Mem} {c c' : Nat} {f : Nat → Int32} (h : c' ≠ c) : rset M c f c' = M c' := by unfold rset; rw [if_neg h]
theorem rset_s {M : Mem} {c : Nat} {f : Nat → Int32} : rset M c f c = f := by unfold rset; rw [if_pos rfl]
theorem Off.rset {cs : Nat → Prop} {M M' : Mem} {c : Nat} {f : Nat → Int32} (h : Off cs M M') (hc : cs c) : Off cs M (rset M' c f) := fun d hd => by
  rw [rset_o (fun q => hd (by rw [q]; exact hc))]
  exact h d hd
/-- a state is taken over by another -/
theorem takeOver_c {M : Mem} {b a : Nat} {d : Dt} (hv : Vd d) (h : Sc a d M) (hab : a + 4 < b ∨ b + 4 < a) : Ok (f_X5_takeOver b a M) (fun M' => Sc b d M' ∧ (∀ k, k ≠ 4 → k ≠ 5 → M' b k = M b k) ∧ Off (fun c => b ≤ c ∧ c ≤ b + 4) M M') := by
  obtain ⟨hn, hnc, -⟩ := hv
  obtain ⟨h1, h2, h3, h4, h5⟩ := h
  unfold f_X5_takeOver
  refine Ok.eqb (cpy_c (n := 200) rfl (by decide)) ?_
  refine Ok.eqb (cpy_c (n := 200) rfl (by decide)) ?_
  refine Ok.eqb (cpy_c (n := 10) rfl (by decide)) ?_
  refine Ok.eqb (cpy_c (n := 20) rfl (by decide)) ?_
  rw [stf_e]
  refine Ok.eqb rfl ?_
  rw [stf_e]
  refine Ok.eqb rfl (Ok.of ⟨⟨?_, ?_, fun m hm => ?_, fun k hk => ?_, fun k hk => ?_⟩, fun k g1 g2 => ?_, ?_⟩)
  · rw [mset_n (by decide), mset_s, rset_o (by omega), rset_o (by omega), rset_o (by omega), rset_o (by omega)]
    exact h1
  · rw [mset_s, mset_o (by omega), rset_o (by omega), rset_o (by omega), rset_o (by omega), rset_o (by omega)]
    exact h2
  · rw [mset_o (c' := b + 1) (by omega), mset_o (c' := b + 1) (by omega), rset_o (c' := b + 1) (by omega), rset_o (c' := b + 1) (by omega), rset_o (c' := b + 1) (by omega), rset_s, mset_o (c' := b + 2) (by omega), mset_o (c' := b + 2) (by omega), rset_o (c' := b + 2) (by omega), rset_o (c' := b + 2) (by omega), rset_s, cpy_at (by omega), cpy_at (by omega), rset_o (by omega)]
    exact h3 m hm
  · rw [mset_o (by omega), mset_o (by omega), rset_o (by omega), rset_s, cpy_at (by omega), rset_o (by omega), rset_o (by omega)]
    exact h4 k hk
  · rw [mset_o (by omega), mset_o (by omega), rset_s, cpy_at (by omega), rset_o (by omega), rset_o (by omega), rset_o (by omega)]
    exact h5 k hk
  · rw [mset_n g2, mset_n g1, rset_o (by omega), rset_o (by omega), rset_o (by omega), rset_o (by omega)]
  · exact (((((Off.rf.rset (by omega)).rset (by omega)).rset (by omega)).rset (by omega)).set (by omega)).set (by omega)
def HC (D : Nat → Dt) (next kept : Nat) (M : Mem) : Prop := next < 8 ∧ kept ≤ 8 ∧ M 46 1 = nI next ∧ M 46 2 = nI kept ∧ ∀ j, j < kept → Sc (6 + 5 * ((next + 8 - kept + j) % 8)) (D j) M
def HZ (D : Nat → Dt) (kept : Nat) (M : Mem) : Prop := M 90 2 = nI kept ∧ ∀ j, j < kept → Zc (fun k => M 92 (432 * j + k)) (D j)
def pushD (D : Nat → Dt) (kept : Nat) (d : Dt) : Nat → Dt := fun j => if kept < 8 then (if j = kept then d else D j) else (if j = 7 then d else D (j + 1))
def pushK (kept : Nat) : Nat := if kept < 8 then kept + 1 else 8
theorem push_V {D : Nat → Dt} {kept : Nat} {d : Dt} (hk : kept ≤ 8) (h : ∀ j, j < kept → Vd (D j)) (hd : Vd d) : ∀ j, j < pushK kept → Vd (pushD D kept d j) := by
  intro j hj
  unfold pushK at hj
  unfold pushD
  by_cases h8 : kept < 8
  · rw [if_pos h8] at hj ⊢
    by_cases hj2 : j = kept
    · rw [if_pos hj2]
      exact hd
    · rw [if_neg hj2]
      exact h j (by omega)
  · rw [if_neg h8] at hj ⊢
    by_cases hj2 : j = 7
    · rw [if_pos hj2]
      exact hd
    · rw [if_neg hj2]
      exact h (j + 1) (by omega)
theorem rgI_n {k : Nat} (h : k < 8) : rgI (nI k) = some k := by
  unfold rgI
  rw [nI_clamp (by omega), if_neg]
  rintro (q | q)
  · exact nI_pos (by omega) q
  · omega
theorem rm8 {k : Nat} (h : k < 1000) : rmI (nI k) 8 = some (nI (k % 8)) := by
  unfold rmI
  rw [if_neg (by decide)]
  refine congrArg some (i_eq.mpr ?_)
  have e8 : (8 : Int32).toInt = 8 := rfl
  have h1 : (nI k / 8).toInt = (k : Int) / 8 := by
    rw [i_div (by decide), i_nI (by omega), e8, Int.tdiv_eq_ediv_of_nonneg (by omega)]
  have h2 : (nI k / 8 * 8).toInt = (k : Int) / 8 * 8 := by
    rw [i_mul] <;> rw [h1, e8] <;> omega
  rw [i_sub] <;> rw [i_nI (by omega), h2]
  · rw [i_nI (by omega)]
    omega
  · omega
  · omega
theorem mn8 {k : Nat} (h : k ≤ 8) : mnI (nI k + 1) 8 = nI (pushK k) := by
  unfold mnI pushK
  rw [nI_1]
  by_cases h8 : k < 8
  · rw [if_pos h8]
    by_cases h9 : (8 : Int32) < nI (k + 1)
    · have := (n_lt (a := 8) (by decide) (by omega)).mp h9
      omega
    · rw [if_neg h9]
  · rw [if_neg h8, if_pos (show (8 : Int32) < nI (k + 1) from (n_lt (a := 8) (b := k + 1) (by decide) (by omega)).mpr (by omega))]
    rfl
/-- the class keeps a state -/
theorem keep_c {M : Mem} {D : Nat → Dt} {d : Dt} {next kept : Nat} (h : HC D next kept M) (hd : Vd d) (hs : Sc 1 d M) :
    Ok (f_X1_keep 1 M) (fun M' => HC (pushD D kept d) ((next + 1) % 8) (pushK kept) M' ∧ Off (fun c => 6 ≤ c ∧ c ≤ 46) M M') := by
  obtain ⟨hn, hk, h1, h2, h3⟩ := h
  unfold f_X1_keep
  refine Ok.eqb (by rw [h1]; exact rgI_n hn) ?_
  refine Ok.bind (takeOver_c (b := 6 + 5 * next) hd hs (by omega)) ?_
  rintro M1 ⟨a1, a2, a3⟩
  have e46 : M1 46 = M 46 := a3 46 (by omega)
  rw [e46, h1, nI_1]
  refine Ok.eqb (rm8 (by omega)) ?_
  rw [stf_e]
  refine Ok.eqb rfl ?_
  rw [stf_e]
  refine Ok.eqb rfl (Ok.of ⟨⟨by omega, ?_, ?_, ?_, fun j hj => ?_⟩, ?_⟩)
  · unfold pushK
    split <;> omega
  · rw [mset_n (by decide), mset_s]
  · rw [mset_s, mset_n (by decide), e46, h2]
    exact mn8 hk
  · have oc : ∀ c, c < 46 → mset (mset M1 46 1 (nI ((next + 1) % 8))) 46 2 (mnI (mset M1 46 1 (nI ((next + 1) % 8)) 46 2 + 1) 8) c = M1 c := fun c hc => by rw [mset_o (by omega), mset_o (by omega)]
    refine Sc_off (M := M1) ?_ (fun c hc hc2 => oc c (by omega))
    unfold pushK at hj
    unfold pushD
    by_cases h8 : kept < 8
    · have e8 : pushK kept = kept + 1 := by unfold pushK; rw [if_pos h8]
      rw [if_pos h8] at hj ⊢
      rw [e8]
      by_cases hj2 : j = kept
      · rw [if_pos hj2, show ((next + 1) % 8 + 8 - (kept + 1) + j) % 8 = next by omega]
        exact a1
      · rw [if_neg hj2, show ((next + 1) % 8 + 8 - (kept + 1) + j) % 8 = (next + 8 - kept + j) % 8 by omega]
        exact Sc_off (h3 j (by omega)) (fun c hc hc2 => a3 c (by omega))
    · have e8 : pushK kept = 8 := by unfold pushK; rw [if_neg h8]
      rw [if_neg h8] at hj ⊢
      rw [e8]
      by_cases hj2 : j = 7
      · rw [if_pos hj2, show ((next + 1) % 8 + 8 - 8 + j) % 8 = next by omega]
        exact a1
      · rw [if_neg hj2, show ((next + 1) % 8 + 8 - 8 + j) % 8 = (next + 8 - kept + (j + 1)) % 8 by omega]
        exact Sc_off (h3 (j + 1) (by omega)) (fun c hc hc2 => a3 c (by omega))
  · exact (((a3.mono (fun c hc => by omega)).set (by omega)).set (by omega))
/-- the class gives a state back -/
theorem giveBack_c {M : Mem} {D : Nat → Dt} {next kept : Nat} (h : HC D next kept M) (hV : ∀ j, j < kept → Vd (D j)) (h0 : 0 < kept) :
    Ok (f_X1_giveBack 1 M) (fun M' => HC D ((next + 7) % 8) (kept - 1) M' ∧ Sc 1 (D (kept - 1)) M' ∧ Off (fun c => 1 ≤ c ∧ c ≤ 5 ∨ c = 46) M M') := by
  obtain ⟨hn, hk, h1, h2, h3⟩ := h
  unfold f_X1_giveBack
  rw [h1, show nI next + 8 = nI (next + 8) from nI_add next 8, show next + 8 = (next + 7) + 1 by omega, nI_pred]
  refine Ok.eqb (rm8 (by omega)) ?_
  rw [stf_e]
  refine Ok.eqb rfl ?_
  rw [stf_e]
  refine Ok.eqb rfl ?_
  have s1 : mset (mset M 46 1 (nI ((next + 7) % 8))) 46 2 (mset M 46 1 (nI ((next + 7) % 8)) 46 2 - 1) 46 1 = nI ((next + 7) % 8) := by rw [mset_n (by decide), mset_s]
  have s2 : mset (mset M 46 1 (nI ((next + 7) % 8))) 46 2 (mset M 46 1 (nI ((next + 7) % 8)) 46 2 - 1) 46 2 = nI (kept - 1) := by rw [mset_s, mset_n (by decide), h2, nI_p1 h0]
  have oc : ∀ c, c ≠ 46 → mset (mset M 46 1 (nI ((next + 7) % 8))) 46 2 (mset M 46 1 (nI ((next + 7) % 8)) 46 2 - 1) c = M c := fun c hc => by rw [mset_o hc, mset_o hc]
  generalize mset (mset M 46 1 (nI ((next + 7) % 8))) 46 2 (mset M 46 1 (nI ((next + 7) % 8)) 46 2 - 1) = M1 at s1 s2 oc ⊢
  rw [s1]
  refine Ok.eqb (rgI_n (by omega)) ?_
  have hd := hV (kept - 1) (by omega)
  have hsc := h3 (kept - 1) (by omega)
  rw [show (next + 8 - kept + (kept - 1)) % 8 = (next + 7) % 8 by omega] at hsc
  refine Ok.bind (takeOver_c (b := 1) (a := 6 + 5 * ((next + 7) % 8)) hd (Sc_off hsc (fun c hc hc2 => oc c (by omega))) (by omega)) ?_
  rintro M2 ⟨a1, a2, a3⟩
  refine Ok.of ⟨⟨by omega, by omega, ?_, ?_, fun j hj => ?_⟩, a1, fun c hc => ?_⟩
  · rw [a3 46 (by omega)]
    exact s1
  · rw [a3 46 (by omega)]
    exact s2
  · rw [show ((next + 7) % 8 + 8 - (kept - 1) + j) % 8 = (next + 8 - kept + j) % 8 by omega]
    exact Sc_off (h3 j (by omega)) (fun c hc hc2 => by rw [a3 c (by omega)]; exact oc c (by omega))
  · rw [a3 c (by omega)]
    exact oc c (by omega)
/-- the model saves a state -/
theorem save_m {M : Mem} {D : Nat → Dt} {d : Dt} {kept : Nat} (hk : kept ≤ 8) (h : HZ D kept M) (hV : ∀ j, j < kept → Vd (D j)) (hd : Vd d) (hs : Zc (M 91) d) :
    Ok (f_X9_save M) (fun M' => HZ (pushD D kept d) (pushK kept) M' ∧ (∀ k, k ≠ 2 → M' 90 k = M 90 k) ∧ Off (fun c => c = 90 ∨ c = 92) M M') := by
  obtain ⟨h1, h2⟩ := h
  have put : ∀ (N : Mem) (E : Nat → Dt) (q : Nat), q < 8 → N 90 2 = nI q → Off (fun c => c = 90 ∨ c = 92) M N → (∀ k, k ≠ 2 → N 90 k = M 90 k) → (∀ j, j < q → Vd (E j)) → (∀ j, j < q → Zc (fun k => N 92 (432 * j + k)) (E j)) →
      Ok (f_X9_save_j52 N) (fun M' => M' 90 2 = nI (q + 1) ∧ (∀ j, j < q → Zc (fun k => M' 92 (432 * j + k)) (E j)) ∧ Zc (fun k => M' 92 (432 * q + k)) d ∧ (∀ k, k ≠ 2 → M' 90 k = M 90 k) ∧ Off (fun c => c = 90 ∨ c = 92) M M') := by
    intro N E q hq n1 n2 n3 n5 n4
    unfold f_X9_save_j52
    refine Ok.bind (P := fun K => (∀ k, k < 432 → K 92 (432 * q + k) = M 91 k) ∧ (∀ k, k < 432 * q → K 92 k = N 92 k) ∧ Off (fun c => c = 92) N K) ?_ ?_
    · refine loop_FU (fun i z => z.1 = nI i ∧ (∀ k, k < i → z.2 92 (432 * q + k) = M 91 k) ∧ (∀ k, k < 432 * q → z.2 92 k = N 92 k) ∧ Off (fun c => c = 92) N z.2) _ 432 (by omega) ?_ ?_ ⟨rfl, fun k hk => absurd hk (Nat.not_lt_zero k), fun k _ => rfl, Off.rf⟩
      · rintro i ⟨j, K⟩ hi ⟨g1, g2, g3, g4⟩
        dsimp only at g1 g2 g3 g4
        subst g1
        unfold f_X9_save_l54
        dsimp only
        refine Ok.neg (fun r => by have := (n_le (a := 432) (by decide) (by omega)).mp r; omega) ?_
        refine Ok.eqb (rd_nI (by omega) (by decide)) ?_
        rw [g4 91 (by omega), n2 91 (by omega), g4 90 (by omega), n1, show (432 : Int32) * nI q = nI (432 * q) from nI_mul 432 q, nI_add]
        refine Ok.eqb (wr_nI (by omega) (by decide)) (Ok.of ⟨nI_1 i, fun k hk => ?_, fun k hk => ?_, g4.set rfl⟩)
        · dsimp only
          by_cases hki : k = i
          · subst hki
            exact mset_s
          · rw [mset_n (by omega)]
            exact g2 k (by omega)
        · dsimp only
          rw [mset_n (by omega)]
          exact g3 k hk
      · rintro ⟨j, K⟩ ⟨g1, g2, g3, g4⟩
        dsimp only at g1 g2 g3 g4
        subst g1
        unfold f_X9_save_l54
        dsimp only
        exact Ok.pos (by decide) (Ok.of ⟨g2, g3, g4⟩)
    rintro K ⟨g2, g3, g4⟩
    rw [stf_e]
    refine Ok.eqb rfl (Ok.of ⟨?_, fun j hj => ?_, ?_, fun k hk => ?_, ?_⟩)
    · rw [mset_s, g4 90 (by omega), n1, nI_1]
    · rw [mset_o (by decide)]
      exact Zc_cong (n5 j hj) (n4 j hj) (fun k hk => g3 _ (by omega))
    · rw [mset_o (by decide)]
      exact Zc_cong hd hs g2
    · rw [mset_n hk, g4 90 (by omega)]
      exact n3 k hk
    · exact (n2.tr (g4.mono (fun c hc => Or.inr hc))).set (Or.inl rfl)
  unfold f_X9_save
  by_cases h8 : kept < 8
  · refine Ok.neg (by rw [h1]; exact nI_ne (b := 8) (by omega) (by decide) (by omega)) ?_
    refine Ok.mono (put M D kept h8 h1 Off.rf (fun k _ => rfl) hV h2) ?_
    rintro M' ⟨a1, a2, a3, a4, a5⟩
    have ek : pushK kept = kept + 1 := by unfold pushK; rw [if_pos h8]
    refine ⟨⟨by rw [ek]; exact a1, fun j hj => ?_⟩, a4, a5⟩
    rw [ek] at hj
    unfold pushD
    rw [if_pos h8]
    by_cases hj2 : j = kept
    · rw [if_pos hj2, hj2]
      exact a3
    · rw [if_neg hj2]
      exact a2 j (by omega)
  · have e8 : kept = 8 := by omega
    subst e8
    refine Ok.pos h1 ?_
    refine Ok.bind (P := fun K => (∀ k, k < 3024 → K 92 k = M 92 (432 + k)) ∧ Off (fun c => c = 92) M K) ?_ ?_
    · refine loop_FU (fun i z => z.1 = nI (432 + i) ∧ (∀ k, k < i → z.2 92 k = M 92 (432 + k)) ∧ (∀ k, i ≤ k → z.2 92 k = M 92 k) ∧ Off (fun c => c = 92) M z.2) _ 3024 (by omega) ?_ ?_ ⟨rfl, fun k hk => absurd hk (Nat.not_lt_zero k), fun k _ => rfl, Off.rf⟩
      · rintro i ⟨j, K⟩ hi ⟨g1, g2, g3, g4⟩
        dsimp only at g1 g2 g3 g4
        subst g1
        unfold f_X9_save_l13
        dsimp only
        refine Ok.neg (fun r => by have := (n_le (a := 3456) (by decide) (by omega)).mp r; omega) ?_
        refine Ok.eqb (rd_nI (by omega) (by decide)) ?_
        have es : nI (432 + i) - 432 = nI i := by
          refine i_eq.mpr ?_
          have e4 : (432 : Int32).toInt = 432 := rfl
          rw [i_sub] <;> rw [i_nI (by omega), e4] <;> try rw [i_nI (by omega)]
          all_goals omega
        rw [es]
        refine Ok.eqb (wr_nI (by omega) (by decide)) (Ok.of ⟨nI_1 _, fun k hk => ?_, fun k hk => ?_, g4.set rfl⟩)
        · dsimp only
          by_cases hki : k = i
          · subst hki
            rw [mset_s]
            exact g3 _ (by omega)
          · rw [mset_n hki]
            exact g2 k (by omega)
        · dsimp only
          rw [mset_n (by omega)]
          exact g3 k (by omega)
      · rintro ⟨j, K⟩ ⟨g1, g2, g3, g4⟩
        dsimp only at g1 g2 g3 g4
        subst g1
        unfold f_X9_save_l13
        dsimp only
        exact Ok.pos (by decide) (Ok.of ⟨g2, g4⟩)
    rintro K ⟨g2, g4⟩
    rw [stf_e]
    refine Ok.eqb rfl ?_
    refine Ok.mono (put _ (fun j => D (j + 1)) 7 (by decide) ?_ ((g4.mono (fun c hc => Or.inr hc)).set (Or.inl rfl)) (fun k hk => ?_) (fun j hj => hV (j + 1) (by omega)) (fun j hj => ?_)) ?_
    · rw [mset_s, g4 90 (by omega), h1]
      rfl
    · rw [mset_n hk, g4 90 (by omega)]
    · rw [mset_o (by decide)]
      refine Zc_cong (hV (j + 1) (by omega)) (h2 (j + 1) (by omega)) (fun k hk => ?_)
      rw [g2 _ (by omega)]
      exact congrArg _ (by omega)
    · rintro M' ⟨a1, a2, a3, a4, a5⟩
      refine ⟨⟨a1, fun j hj => ?_⟩, a4, a5⟩
      have hj8 : j < 8 := hj
      unfold pushD
      rw [if_neg (by decide)]
      by_cases hj2 : j = 7
      · rw [if_pos hj2, hj2]
        exact a3
      · rw [if_neg hj2]
        exact a2 j (by omega)
/-- the model restores a state -/
theorem undo_m {M : Mem} {D : Nat → Dt} {kept : Nat} (hk : kept ≤ 8) (h : HZ D kept M) (hV : ∀ j, j < kept → Vd (D j)) (h0 : 0 < kept) :
    Ok (f_X9_undo M) (fun r => r.1 = nI (kept - 1) ∧ HZ D (kept - 1) r.2 ∧ Zc (r.2 91) (D (kept - 1)) ∧ r.2 90 0 = 0 ∧ (∀ k, k ≠ 0 → k ≠ 2 → r.2 90 k = M 90 k) ∧ Off (fun c => c = 90 ∨ c = 91) M r.2) := by
  obtain ⟨h1, h2⟩ := h
  unfold f_X9_undo
  refine Ok.neg (by rw [h1]; exact nI_nle h0 (by omega)) ?_
  unfold f_X9_undo_j13
  rw [stf_e]
  refine Ok.eqb rfl ?_
  refine Ok.pos (by rw [mset_s]; decide) ?_
  rw [stf_e]
  refine Ok.eqb rfl ?_
  have s2 : mset (mset M 90 0 0) 90 2 (mset M 90 0 0 90 2 - 1) 90 2 = nI (kept - 1) := by rw [mset_s, mset_n (by decide), h1, nI_p1 h0]
  have s0 : mset (mset M 90 0 0) 90 2 (mset M 90 0 0 90 2 - 1) 90 0 = 0 := by rw [mset_n (by decide), mset_s]
  have sk : ∀ k, k ≠ 0 → k ≠ 2 → mset (mset M 90 0 0) 90 2 (mset M 90 0 0 90 2 - 1) 90 k = M 90 k := fun k g1 g2 => by rw [mset_n g2, mset_n g1]
  have so : Off (fun c => c = 90 ∨ c = 91) M (mset (mset M 90 0 0) 90 2 (mset M 90 0 0 90 2 - 1)) := (Off.rf.set (Or.inl rfl)).set (Or.inl rfl)
  generalize mset (mset M 90 0 0) 90 2 (mset M 90 0 0 90 2 - 1) = M1 at s2 s0 sk so ⊢
  refine Ok.bind (P := fun K => (∀ k, k < 432 → K 91 k = M 92 (432 * (kept - 1) + k)) ∧ Off (fun c => c = 91) M1 K) ?_ ?_
  · refine loop_FU (fun i z => z.1 = nI i ∧ (∀ k, k < i → z.2 91 k = M 92 (432 * (kept - 1) + k)) ∧ Off (fun c => c = 91) M1 z.2) _ 432 (by omega) ?_ ?_ ⟨rfl, fun k hk => absurd hk (Nat.not_lt_zero k), Off.rf⟩
    · rintro i ⟨j, K⟩ hi ⟨g1, g2, g4⟩
      dsimp only at g1 g2 g4
      subst g1
      unfold f_X9_undo_l37
      dsimp only
      refine Ok.neg (fun r => by have := (n_le (a := 432) (by decide) (by omega)).mp r; omega) ?_
      refine Ok.eqb (by rw [g4 90 (by omega), s2, show (432 : Int32) * nI (kept - 1) = nI (432 * (kept - 1)) from nI_mul 432 (kept - 1), nI_add]; exact rd_nI (by omega) (by decide)) ?_
      refine Ok.eqb (wr_nI (by omega) (by decide)) (Ok.of ⟨nI_1 i, fun k hk => ?_, g4.set rfl⟩)
      dsimp only
      rw [g4 92 (by omega), so 92 (by omega)]
      by_cases hki : k = i
      · subst hki
        exact mset_s
      · rw [mset_n hki]
        exact g2 k (by omega)
    · rintro ⟨j, K⟩ ⟨g1, g2, g4⟩
      dsimp only at g1 g2 g4
      subst g1
      unfold f_X9_undo_l37
      dsimp only
      exact Ok.pos (by decide) (Ok.of ⟨g2, g4⟩)
  rintro K ⟨g2, g4⟩
  have o : Off (fun c => c = 90 ∨ c = 91) M K := so.tr (g4.mono (fun c hc => Or.inr hc))
  have e90 : K 90 = M1 90 := g4 90 (by omega)
  refine Ok.of ⟨by dsimp only; rw [e90]; exact s2, ⟨by dsimp only; rw [e90]; exact s2, fun j hj => ?_⟩, ?_, by dsimp only; rw [e90]; exact s0, fun k q1 q2 => by dsimp only; rw [e90]; exact sk k q1 q2, o⟩
  · dsimp only
    rw [o 92 (by omega)]
    exact h2 j (by omega)
  · exact Zc_cong (hV (kept - 1) (by omega)) (h2 (kept - 1) (by omega)) g2
