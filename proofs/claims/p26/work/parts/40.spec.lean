/-! pure: what the answers are, as functions of minutes, settings, complaints -/
def Ok {α : Type} (o : Option α) (P : α → Prop) : Prop := ∃ a, o = some a ∧ P a
theorem Ok.bind {α β : Type} {o : Option α} {f : α → Option β} {P : α → Prop} {Q : β → Prop} (h : Ok o P) (k : ∀ a, P a → Ok (f a) Q) : Ok (o.bind f) Q := by
  obtain ⟨a, rfl, hp⟩ := h
  exact k a hp
theorem Ok.eqb {α β : Type} {o : Option α} {f : α → Option β} {a : α} {Q : β → Prop} (h : o = some a) (k : Ok (f a) Q) : Ok (o.bind f) Q := by
  subst h
  exact k
theorem Ok.of {α : Type} {a : α} {P : α → Prop} (h : P a) : Ok (some a) P := ⟨a, rfl, h⟩
theorem Ok.mono {α : Type} {o : Option α} {P Q : α → Prop} (h : Ok o P) (k : ∀ a, P a → Q a) : Ok o Q := by
  obtain ⟨a, h1, h2⟩ := h
  exact ⟨a, h1, k a h2⟩
theorem Ok.pos {α : Type} {c : Prop} [Decidable c] {t e : Option α} {P : α → Prop} (h : c) (k : Ok t P) : Ok (if c then t else e) P := by rw [if_pos h]; exact k
theorem Ok.neg {α : Type} {c : Prop} [Decidable c] {t e : Option α} {P : α → Prop} (h : ¬ c) (k : Ok e P) : Ok (if c then t else e) P := by rw [if_neg h]; exact k
theorem Ok.ite {α : Type} {c : Prop} [Decidable c] {t e : Option α} {P : α → Prop} (k1 : c → Ok t P) (k2 : ¬ c → Ok e P) : Ok (if c then t else e) P := by
  by_cases h : c
  · exact Ok.pos h (k1 h)
  · exact Ok.neg h (k2 h)
/-- a loop, counted: it stops at the latest at N -/
theorem loop_cnt {σ ρ : Type} {body : σ → Option (σ ⊕ ρ)} (I : Nat → σ → Prop) (P : ρ → Prop) (N : Nat)
    (step : ∀ i s, i < N → I i s → Ok (body s) (fun o => Sum.elim (fun s' => I (i + 1) s') P o)) (fin : ∀ s, I N s → Ok (body s) (fun o => Sum.elim (fun _ => False) P o)) :
    ∀ (f k i : Nat) (s : σ), i + k = N → k < f → I i s → Ok (loopN body f s) P := by
  intro f
  induction f with
  | zero => intro k i s _ h; omega
  | succ f ih =>
    intro k i s hk hf hI
    unfold loopN
    cases k with
    | zero =>
      have e : i = N := by omega
      subst e
      obtain ⟨o, ho, hp⟩ := fin s hI
      rw [ho]
      cases o with
      | inl s' => exact hp.elim
      | inr r => exact ⟨r, rfl, hp⟩
    | succ k =>
      obtain ⟨o, ho, hp⟩ := step i s (by omega) hI
      rw [ho]
      cases o with
      | inl s' => exact ih k (i + 1) s' (by omega) (by omega) hp
      | inr r => exact ⟨r, rfl, hp⟩
theorem loop_FU {σ ρ : Type} {body : σ → Option (σ ⊕ ρ)} {s : σ} (I : Nat → σ → Prop) (P : ρ → Prop) (N : Nat) (hN : N < 20000)
    (step : ∀ i s, i < N → I i s → Ok (body s) (fun o => Sum.elim (fun s' => I (i + 1) s') P o)) (fin : ∀ s, I N s → Ok (body s) (fun o => Sum.elim (fun _ => False) P o)) (h0 : I 0 s) : Ok (loopN body FU s) P :=
  loop_cnt I P N step fin FU N 0 s (by omega) hN h0
theorem nn_nI {k : Nat} (h : k < 2 ^ 31) : ¬ nI k < 0 := nI_pos h
theorem rd_nI {M : Mem} {c n k : Nat} (h : k < n) (hn : n < 2 ^ 31) : rd M c n (nI k) = some (M c k) := by
  unfold rd
  rw [nI_clamp (Nat.lt_trans h hn), if_neg]
  rintro (q | q)
  · exact nI_pos (Nat.lt_trans h hn) q
  · omega
theorem wr_nI {M : Mem} {c n k : Nat} {v : Int32} (h : k < n) (hn : n < 2 ^ 31) : wr M c n (nI k) v = some (mset M c k v) := by
  unfold wr
  rw [nI_clamp (Nat.lt_trans h hn), if_neg]
  rintro (q | q)
  · exact nI_pos (Nat.lt_trans h hn) q
  · omega
theorem mset_o {M : Mem} {c k c' : Nat} {v : Int32} (h : c' ≠ c) : mset M c k v c' = M c' := by
  unfold mset rset
  rw [if_neg h]
theorem mset_r {M : Mem} {c k : Nat} {v : Int32} : mset M c k v c = upd (M c) k v := by
  unfold mset rset
  rw [if_pos rfl]
theorem mset_s {M : Mem} {c k : Nat} {v : Int32} : mset M c k v c k = v := by rw [mset_r]; unfold upd; rw [if_pos rfl]
theorem mset_n {M : Mem} {c k k' : Nat} {v : Int32} (h : k' ≠ k) : mset M c k v c k' = M c k' := by rw [mset_r]; unfold upd; rw [if_neg h]
theorem upd_s {f : Nat → Int32} {k : Nat} {v : Int32} : upd f k v k = v := by unfold upd; rw [if_pos rfl]
theorem upd_n {f : Nat → Int32} {k k' : Nat} {v : Int32} (h : k' ≠ k) : upd f k v k' = f k' := by unfold upd; rw [if_neg h]
theorem stf_e {M : Mem} {c k : Nat} {v : Int32} : stf M c k v = some (mset M c k v) := rfl
theorem stz_0 {M : Mem} {c k : Nat} : stz M c k 0 = some (mset M c k 0) := rfl
theorem stz_1 {M : Mem} {c k : Nat} : stz M c k 1 = some (mset M c k 1) := rfl
/-- numbers in Int32 by what they are as whole numbers -/
theorem i_le {x y : Int32} : x ≤ y ↔ x.toInt ≤ y.toInt := Int32.le_iff_toInt_le
theorem i_lt {x y : Int32} : x < y ↔ x.toInt < y.toInt := Int32.lt_iff_toInt_lt
theorem i_eq {x y : Int32} : x = y ↔ x.toInt = y.toInt := Int32.toInt_inj.symm
theorem i_rng (x : Int32) : -2147483648 ≤ x.toInt ∧ x.toInt < 2147483648 := by
  have h1 := Int32.le_toInt x
  have h2 := Int32.toInt_lt x
  omega
theorem i_bm {a : Int} (h1 : -2147483648 ≤ a) (h2 : a < 2147483648) : a.bmod (2 ^ 32) = a := by
  rw [Int.bmod_def]
  split <;> omega
theorem i_add {x y : Int32} (h1 : -2147483648 ≤ x.toInt + y.toInt) (h2 : x.toInt + y.toInt < 2147483648) : (x + y).toInt = x.toInt + y.toInt := by
  rw [Int32.toInt_add]
  exact i_bm h1 h2
theorem i_sub {x y : Int32} (h1 : -2147483648 ≤ x.toInt - y.toInt) (h2 : x.toInt - y.toInt < 2147483648) : (x - y).toInt = x.toInt - y.toInt := by
  rw [Int32.toInt_sub]
  exact i_bm h1 h2
theorem i_mul {x y : Int32} (h1 : -2147483648 ≤ x.toInt * y.toInt) (h2 : x.toInt * y.toInt < 2147483648) : (x * y).toInt = x.toInt * y.toInt := by
  rw [Int32.toInt_mul]
  exact i_bm h1 h2
theorem i_div {x y : Int32} (h : 0 < y.toInt) : (x / y).toInt = x.toInt.tdiv y.toInt := by
  rw [Int32.toInt_div]
  have hx := i_rng x
  refine i_bm ?_ ?_
  · rcases Int.le_total 0 x.toInt with h0 | h0
    · have := Int.tdiv_nonneg h0 (Int.le_of_lt h)
      omega
    · have h1 : x.toInt.tdiv y.toInt = -((-x.toInt).tdiv y.toInt) := by rw [Int.neg_tdiv]; omega
      have h2 : (-x.toInt).tdiv y.toInt ≤ -x.toInt := Int.tdiv_le_self _ (by omega)
      omega
  · have := Int.tdiv_le_self y.toInt (a := x.toInt)
    rcases Int.le_total 0 x.toInt with h0 | h0
    · have := Int.tdiv_le_self y.toInt h0
      omega
    · have h1 : x.toInt.tdiv y.toInt = -((-x.toInt).tdiv y.toInt) := by rw [Int.neg_tdiv]; omega
      have h2 : 0 ≤ (-x.toInt).tdiv y.toInt := Int.tdiv_nonneg (by omega) (Int.le_of_lt h)
      omega
theorem i_nI {k : Nat} (h : k < 2 ^ 31) : (nI k).toInt = (k : Int) := nI_toInt h
theorem nI_ex {x : Int32} (h : 0 ≤ x.toInt) : x = nI x.toInt.toNat ∧ x.toInt.toNat < 2 ^ 31 := by
  have := i_rng x
  refine ⟨i_eq.mpr ?_, by omega⟩
  rw [i_nI (by omega)]
  omega
