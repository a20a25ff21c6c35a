/-! the class reads the text -/
def CI (S : TS) (M : Mem) : Prop := M 48 5 = nI S.1 ∧ M 48 7 = nI S.2.1 ∧ (∀ k, k < 3 → M 53 k = if k = S.2.1 ∧ S.2.2.1 = 0 then -1 else nI (S.2.2.2.1 k)) ∧ ∀ q, q < S.1 → M 50 q = nI (S.2.2.2.2 q 0) ∧ M 51 q = nI (S.2.2.2.2 q 1) ∧ M 52 q = nI (S.2.2.2.2 q 2)
def CO (M M' : Mem) : Prop := M' 48 1 = M 48 1 ∧ Off (fun c => c = 48 ∨ 50 ≤ c ∧ c ≤ 53) M M'
theorem CO.rf {M : Mem} : CO M M := ⟨rfl, Off.rf⟩
theorem CO.tr {M M' M'' : Mem} (h : CO M M') (h2 : CO M' M'') : CO M M'' := ⟨h2.1.trans h.1, h.2.tr h2.2⟩
theorem rdS_3 {f : Nat} (hf : f < 3) : rdS 3 (nI f) = some (if f < 2 then 0 else 2) := by
  rcases (show f = 0 ∨ f = 1 ∨ f = 2 by omega) with rfl | rfl | rfl <;> decide +kernel
theorem rdS_4 {f : Nat} (hf : f < 3) : rdS 4 (nI f) = some (nI (tMost f)) := by
  rcases (show f = 0 ∨ f = 1 ∨ f = 2 by omega) with rfl | rfl | rfl <;> decide +kernel
theorem nI_m1n {a : Nat} (h : a < 2 ^ 31) : ¬ nI a = -1 := fun q => by
  have := i_eq.mp q
  rw [i_nI h, show (-1 : Int32).toInt = -1 from rfl] at this
  omega
theorem whole_c {p f g i : Nat} {u : Nat → Nat} {T : Nat → Nat → Nat} {M : Mem} (hV : TV i (p, f, g, u, T)) (hC : CI (p, f, g, u, T) M) : f_X6_numberIsWhole M = some (if tWh f g u then 1 else 0) := by
  have hf : f < 3 := hV.2.1
  have hu : u f ≤ tMost f := hV.2.2.2.1 f hf
  have hm := tMost_b f
  obtain ⟨c1, c2, c3, c4⟩ := hC
  dsimp only at c1 c2 c3 c4
  unfold f_X6_numberIsWhole
  rw [c2, show rd M 53 3 (nI f) = some (M 53 f) from rd_nI hf (by decide), Option.bind_some, Option.bind_some, c3 f hf, rdS_3 hf]
  by_cases hg : g = 0
  · rw [if_pos (show f = f ∧ g = 0 from ⟨rfl, hg⟩), if_pos rfl, if_neg (fun q => by have := q.1; omega)]
  · rw [if_neg (show ¬ (f = f ∧ g = 0) from fun q => hg q.2), if_neg (nI_m1n (a := u f) (by omega)), Option.bind_some]
    by_cases hf2 : f < 2
    · rw [if_pos hf2, if_neg (nI_pos (by omega)), if_pos ⟨by omega, Or.inl hf2⟩]
    · rw [if_neg hf2]
      by_cases hu2 : 2 ≤ u f
      · rw [if_neg (show ¬ nI (u f) < 2 from nI_nlt (b := 2) hu2 (by omega)), if_pos (show tWh f g u from ⟨by omega, Or.inr hu2⟩)]
      · rw [if_pos (show nI (u f) < 2 from nI_lt (b := 2) (by omega) (by decide)), if_neg (show ¬ tWh f g u from fun q => by have := q.2; omega)]
theorem begin_n {p f g k : Nat} {u : Nat → Nat} {T : Nat → Nat → Nat} {M : Mem} (hg : 0 < g) (hk : k < 3) (hC : CI (p, f, g, u, T) M) : Ok (f_X6_beginNumber (nI k) M) (fun M' => CO M M' ∧ CI (p, k, 0, u, T) M') := by
  obtain ⟨c1, c2, c3, c4⟩ := hC
  dsimp only at c1 c2 c3 c4
  unfold f_X6_beginNumber
  rw [stf_e]
  refine Ok.eqb rfl (Ok.eqb (wr_nI hk (by decide)) (Ok.of ⟨⟨?_, (Off.rf.set (by omega)).set (by omega)⟩, ?_, ?_, fun j hj => ?_, ?_⟩))
  · rw [mset_o (by decide), mset_n (by decide)]
  · rw [mset_o (by decide), mset_n (by decide)]
    exact c1
  · rw [mset_o (by decide), mset_s]
  · dsimp only
    by_cases hjk : j = k
    · rw [hjk, mset_s, if_pos ⟨rfl, rfl⟩]
    · rw [mset_n hjk, mset_o (by decide), c3 j hj, if_neg (show ¬ (j = f ∧ g = 0) from fun q => by have := q.2; omega), if_neg (show ¬ (j = k ∧ 0 = 0) from fun q => hjk q.1)]
  · intro q hq
    rw [mset_o (c' := 50) (by decide), mset_o (c' := 50) (by decide), mset_o (c' := 51) (by decide), mset_o (c' := 51) (by decide), mset_o (c' := 52) (by decide), mset_o (c' := 52) (by decide)]
    exact c4 q hq
theorem end_p {p f g i : Nat} {u : Nat → Nat} {T : Nat → Nat → Nat} {M : Mem} (hg : 0 < g) (hp : p < 30) (hC : CI (p, f, g, u, T) M) :
    Ok (f_X6_endPart M) (fun M' => CO M M' ∧ M' 48 5 = nI (p + 1) ∧ ∀ q, q < p + 1 → M' 50 q = nI (tup T p u q 0) ∧ M' 51 q = nI (tup T p u q 1) ∧ M' 52 q = nI (tup T p u q 2)) := by
  obtain ⟨c1, c2, c3, c4⟩ := hC
  dsimp only at c1 c2 c3 c4
  have r3 : ∀ (K : Mem) (k : Nat), k < 3 → rd K 53 3 (nI k) = some (K 53 k) := fun K k hk => rd_nI hk (by decide)
  have u3 : ∀ k, k < 3 → M 53 k = nI (u k) := fun k hk => by rw [c3 k hk, if_neg (fun q => by have := q.2; omega)]
  unfold f_X6_endPart
  rw [c1]
  refine Ok.neg (nI_ge (b := 30) hp (by decide)) ?_
  refine Ok.eqb (r3 M 0 (by decide)) ?_
  refine Ok.eqb (wr_nI hp (by decide)) ?_
  refine Ok.eqb (r3 _ 1 (by decide)) ?_
  rw [mset_o (c' := 53) (by decide), mset_o (c' := 48) (by decide), c1]
  refine Ok.eqb (wr_nI hp (by decide)) ?_
  refine Ok.eqb (r3 _ 2 (by decide)) ?_
  rw [mset_o (c := 51) (c' := 53) (by decide), mset_o (c' := 53) (by decide), mset_o (c := 51) (c' := 48) (by decide), mset_o (c' := 48) (by decide), c1]
  refine Ok.eqb (wr_nI hp (by decide)) ?_
  rw [stf_e]
  refine Ok.eqb rfl (Ok.of ⟨⟨?_, (((Off.rf.set (by omega)).set (by omega)).set (by omega)).set (by omega)⟩, ?_, fun q hq => ?_⟩)
  · rw [mset_n (by decide), mset_o (by decide), mset_o (by decide), mset_o (by decide)]
  · rw [mset_s, mset_o (by decide), mset_o (by decide), mset_o (by decide), c1, nI_1]
  · rw [mset_o (c' := 50) (by decide), mset_o (c' := 50) (by decide), mset_o (c' := 50) (by decide), mset_r, mset_o (c' := 51) (by decide), mset_o (c' := 51) (by decide), mset_r, mset_o (c' := 51) (by decide), mset_o (c' := 52) (by decide), mset_r, mset_o (c' := 52) (by decide), mset_o (c' := 52) (by decide)]
    by_cases hqp : q = p
    · rw [hqp, upd_s, upd_s, upd_s, tup_s, u3 0 (by decide), u3 1 (by decide), u3 2 (by decide)]
      exact ⟨rfl, rfl, rfl⟩
    · rw [upd_n hqp, upd_n hqp, upd_n hqp, tup_n hqp]
      exact c4 q (by omega)
theorem begin_p {p : Nat} {T : Nat → Nat → Nat} {M : Mem} (h5 : M 48 5 = nI p) (h : ∀ q, q < p → M 50 q = nI (T q 0) ∧ M 51 q = nI (T q 1) ∧ M 52 q = nI (T q 2)) : Ok (f_X6_beginPart M) (fun M' => CO M M' ∧ CI (p, 0, 0, u0, T) M') := by
  unfold f_X6_beginPart f_X6_beginNumber
  refine Ok.eqb (show wr M 53 3 1 0 = some (mset M 53 1 0) from wr_nI (k := 1) (by decide) (by decide)) ?_
  refine Ok.eqb (show wr _ 53 3 2 1 = some (mset _ 53 2 1) from wr_nI (k := 2) (by decide) (by decide)) ?_
  refine Ok.bind (P := fun M' => CO M M' ∧ CI (p, 0, 0, u0, T) M') ?_ (fun _ h => Ok.of h)
  rw [stf_e]
  refine Ok.eqb rfl (Ok.eqb (show wr _ 53 3 0 (-1) = some (mset _ 53 0 (-1)) from wr_nI (k := 0) (by decide) (by decide)) (Ok.of ⟨⟨?_, (((Off.rf.set (by omega)).set (by omega)).set (by omega)).set (by omega)⟩, ?_, ?_, fun j hj => ?_, fun q hq => ?_⟩))
  · rw [mset_o (by decide), mset_n (by decide), mset_o (by decide), mset_o (by decide)]
  · rw [mset_o (by decide), mset_n (by decide), mset_o (by decide), mset_o (by decide)]
    exact h5
  · rw [mset_o (by decide), mset_s]
    rfl
  · dsimp only
    rcases (show j = 0 ∨ j = 1 ∨ j = 2 by omega) with rfl | rfl | rfl
    · rw [mset_s]
      rfl
    · rw [mset_n (by decide), mset_o (by decide), mset_n (by decide), mset_s]
      rfl
    · rw [mset_n (by decide), mset_o (by decide), mset_s]
      rfl
  · rw [mset_o (c' := 50) (by decide), mset_o (c' := 50) (by decide), mset_o (c' := 50) (by decide), mset_o (c' := 50) (by decide), mset_o (c' := 51) (by decide), mset_o (c' := 51) (by decide), mset_o (c' := 51) (by decide), mset_o (c' := 51) (by decide), mset_o (c' := 52) (by decide), mset_o (c' := 52) (by decide), mset_o (c' := 52) (by decide), mset_o (c' := 52) (by decide)]
    exact h q hq
/-- a step of the class: it takes a character, or refuses it -/
def CS (o : Option TS) (S : TS) (M : Mem) (r : Int32 × Mem) : Prop := CO M r.2 ∧ ((∃ S', o = some S' ∧ r.1 = 1 ∧ CI S' r.2) ∨ (o = none ∧ r.1 = 0 ∧ CI S r.2))
theorem digit_c {e p f g i : Nat} {u : Nat → Nat} {T : Nat → Nat → Nat} {M : Mem} (he : e ≤ 9) (hV : TV i (p, f, g, u, T)) (hC : CI (p, f, g, u, T) M) : Ok (f_X6_takesDigit (nI e) M) (CS (tDig e p f g u T) (p, f, g, u, T) M) := by
  have hf : f < 3 := hV.2.1
  have hu : u f ≤ tMost f := hV.2.2.2.1 f hf
  have hm := tMost_b f
  obtain ⟨c1, c2, c3, c4⟩ := id hC
  dsimp only at c1 c2 c3 c4
  have put : ∀ (v2 : Int32) (w g' : Nat), 10 * v2 + nI e = nI w → 0 < g' → tDig e p f g u T = some (p, f, g', nup u f w, T) → Ok (f_X6_takesDigit_j68 (nI e) v2 1 M) (CS (tDig e p f g u T) (p, f, g, u, T) M) := by
    intro v2 w g' hw hg' hd
    unfold f_X6_takesDigit_j68
    rw [hw, c2]
    refine Ok.neg (by decide) (Ok.eqb (wr_nI hf (by decide)) (Ok.eqb (show bz 1 = some 1 from rfl) (Ok.of ⟨⟨by dsimp only; rw [mset_o (by decide)], Off.rf.set (by omega)⟩, Or.inl ⟨_, hd, rfl, ?_, ?_, fun k hk => ?_, fun q hq => ?_⟩⟩)))
    · dsimp only
      rw [mset_o (by decide)]
      exact c1
    · dsimp only
      rw [mset_o (by decide)]
      exact c2
    · dsimp only
      rw [if_neg (fun q => by have := q.2; omega)]
      by_cases hkf : k = f
      · rw [hkf, mset_s, nup_s]
      · rw [mset_n hkf, nup_n hkf, c3 k hk, if_neg (fun q => hkf q.1)]
    · dsimp only
      rw [mset_o (c' := 50) (by decide), mset_o (c' := 51) (by decide), mset_o (c' := 52) (by decide)]
      exact c4 q hq
  have no : ∀ (v2 : Int32), tDig e p f g u T = none → Ok (f_X6_takesDigit_j68 (nI e) v2 0 M) (CS (tDig e p f g u T) (p, f, g, u, T) M) := by
    intro v2 hd
    unfold f_X6_takesDigit_j68
    exact Ok.pos rfl (Ok.eqb (show bz 0 = some 0 from rfl) (Ok.of ⟨CO.rf, Or.inr ⟨hd, rfl, hC⟩⟩))
  unfold f_X6_takesDigit
  rw [c2]
  refine Ok.eqb (rd_nI hf (by decide)) ?_
  rw [c3 f hf]
  by_cases hg : g = 0
  · rw [if_pos (show f = f ∧ g = 0 from ⟨rfl, hg⟩)]
    refine Ok.pos rfl ?_
    have yes : (f < 2 ∨ 0 < e) → Ok (f_X6_takesDigit_j30 (nI e) M) (CS (tDig e p f g u T) (p, f, g, u, T) M) := by
      intro hy
      unfold f_X6_takesDigit_j30 f_X6_takesDigit_j35
      refine put 0 e 1 ?_ (by decide) ?_
      · show 10 * nI 0 + nI e = nI e
        rw [n10, nI_add]
        exact congrArg nI (by omega)
      · unfold tDig
        rw [if_pos hg, if_pos hy]
    by_cases he0 : 0 < e
    · exact Ok.pos (nI_lt (a := 0) he0 (by omega)) (yes (Or.inr he0))
    · refine Ok.neg (nI_nlt (b := e) (a := 0) (by omega) (by decide)) ?_
      refine Ok.eqb (rdS_3 hf) ?_
      by_cases hf2 : f < 2
      · rw [if_pos hf2]
        exact Ok.pos rfl (yes (Or.inl hf2))
      · rw [if_neg hf2]
        refine Ok.neg (by decide) ?_
        unfold f_X6_takesDigit_j35
        exact no 0 (by unfold tDig; rw [if_pos hg, if_neg (fun q => by omega)])
  · rw [if_neg (show ¬ (f = f ∧ g = 0) from fun q => hg q.2)]
    refine Ok.neg (nI_m1n (a := u f) (by omega)) ?_
    by_cases hu0 : 0 < u f
    · refine Ok.neg (nI_nle hu0 (by omega)) ?_
      refine Ok.eqb (rdS_4 hf) ?_
      rw [n10, nI_add]
      by_cases hle : 10 * u f + e ≤ tMost f
      · refine Ok.neg (nI_nlt hle (by omega)) ?_
        unfold f_X6_takesDigit_j67
        refine put (nI (u f)) (10 * u f + e) (g + 1) (by rw [n10, nI_add]) (by omega) ?_
        unfold tDig
        rw [if_neg hg, if_pos ⟨hu0, hle⟩]
      · refine Ok.pos (nI_lt (by omega) (by omega)) ?_
        unfold f_X6_takesDigit_j66 f_X6_takesDigit_j67
        exact no _ (by unfold tDig; rw [if_neg hg, if_neg (fun q => hle q.2)])
    · refine Ok.pos (nI_le (b := 0) (by omega) (by decide)) ?_
      unfold f_X6_takesDigit_j66 f_X6_takesDigit_j67
      exact no _ (by unfold tDig; rw [if_neg hg, if_neg (fun q => hu0 q.1)])
theorem takes_c {c : Int32} {p f g i : Nat} {u : Nat → Nat} {T : Nat → Nat → Nat} {M : Mem} (hV : TV i (p, f, g, u, T)) (hi : i < 60) (hC : CI (p, f, g, u, T) M) : Ok (f_X6_takes c M) (CS (tStep c p f g u T) (p, f, g, u, T) M) := by
  have c2 : M 48 7 = nI f := hC.2.1
  have hf : f < 3 := hV.2.1
  unfold f_X6_takes
  by_cases hd : 48 ≤ c ∧ c ≤ 57
  · refine Ok.neg (n_lt' hd.1) (Ok.neg (n_lt' hd.2) ?_)
    obtain ⟨e1, e2⟩ := dig_e hd
    have es : tStep c p f g u T = tDig (c.toInt.toNat - 48) p f g u T := by
      unfold tStep
      rw [if_pos hd]
    rw [e1, es]
    refine Ok.bind (digit_c e2 hV hC) ?_
    rintro ⟨r, M'⟩ hr
    have hb : bz r = some r := by
      rcases hr.2 with ⟨S', -, q, -⟩ | ⟨-, q, -⟩ <;> (dsimp only at q; rw [q]; rfl)
    dsimp only
    exact Ok.eqb hb (Ok.of hr)
  · have hn : Ok (f_X6_takes_j21 c M) (CS (tStep c p f g u T) (p, f, g, u, T) M) := by
      unfold f_X6_takes_j21
      refine Ok.eqb (whole_c hV hC) ?_
      by_cases hw : tWh f g u
      · rw [if_pos hw]
        have hg := hw.1
        have hp : p < 30 := by
          have h1 : 2 * p + (if f = 0 ∧ g = 0 then 0 else 1) ≤ i := hV.1
          rw [if_neg (fun q => by have := q.2; omega)] at h1
          omega
        have j71 : ¬ (c = 64 ∧ f = 0) → ¬ (c = 42 ∧ f < 2) → Ok (f_X6_takes_j71 c M) (CS (tStep c p f g u T) (p, f, g, u, T) M) := by
          intro h64 h42
          unfold f_X6_takes_j71
          by_cases h59 : c = 59
          · have hs : tStep c p f g u T = some (p + 1, 0, 0, u0, tup T p u) := by
              unfold tStep
              rw [if_neg hd, if_neg (fun q => h64 q.2), if_neg (fun q => h42 q.2), if_pos ⟨h59, hw⟩]
            refine Ok.pos h59 (Ok.bind (end_p (i := i) hg hp hC) ?_)
            rintro M1 ⟨a1, a2, a3⟩
            refine Ok.bind (begin_p a2 a3) ?_
            rintro M2 ⟨b1, b2⟩
            exact Ok.of ⟨a1.tr b1, Or.inl ⟨_, hs, rfl, b2⟩⟩
          · have hs : tStep c p f g u T = none := by
              unfold tStep
              rw [if_neg hd, if_neg (fun q => h64 q.2), if_neg (fun q => h42 q.2), if_neg (fun q => h59 q.1)]
            exact Ok.neg h59 (Ok.of ⟨CO.rf, Or.inr ⟨hs, rfl, hC⟩⟩)
        have j50 : ¬ (c = 64 ∧ f = 0) → Ok (f_X6_takes_j50 c M) (CS (tStep c p f g u T) (p, f, g, u, T) M) := by
          intro h64
          unfold f_X6_takes_j50
          by_cases h42 : c = 42
          · refine Ok.pos h42 ?_
            rw [c2]
            by_cases hf2 : f = 2
            · exact Ok.pos (by rw [hf2]; rfl) (j71 h64 (fun q => by omega))
            · have hs : tStep c p f g u T = some (p, 2, 0, u, T) := by
                unfold tStep
                rw [if_neg hd, if_neg (fun q => h64 q.2), if_pos ⟨hg, h42, by omega⟩]
              refine Ok.neg (nI_ne (b := 2) (by omega) (by decide) hf2) (Ok.bind (begin_n (k := 2) hg (by decide) hC) ?_)
              rintro M1 ⟨a1, a2⟩
              exact Ok.of ⟨a1, Or.inl ⟨_, hs, rfl, a2⟩⟩
          · exact Ok.neg h42 (j71 h64 (fun q => h42 q.1))
        refine Ok.neg (by decide) ?_
        by_cases h64 : c = 64
        · refine Ok.pos h64 ?_
          rw [c2]
          by_cases hf0 : f = 0
          · have hs : tStep c p f g u T = some (p, 1, 0, u, T) := by
              unfold tStep
              rw [if_neg hd, if_pos ⟨hg, h64, hf0⟩]
            refine Ok.pos (by rw [hf0]; rfl) (Ok.bind (begin_n (k := 1) hg (by decide) hC) ?_)
            rintro M1 ⟨a1, a2⟩
            exact Ok.of ⟨a1, Or.inl ⟨_, hs, rfl, a2⟩⟩
          · exact Ok.neg (nI_ne (b := 0) (by omega) (by decide) hf0) (j50 (fun q => hf0 q.2))
        · exact Ok.neg h64 (j50 (fun q => h64 q.1))
      · rw [if_neg hw]
        have hs : tStep c p f g u T = none := by
          unfold tStep
          rw [if_neg hd, if_neg (fun q => hw ⟨q.1, Or.inl (by have := q.2.2; omega)⟩), if_neg (fun q => hw ⟨q.1, Or.inl q.2.2⟩), if_neg (fun q => hw q.2)]
        exact Ok.pos rfl (Ok.of ⟨CO.rf, Or.inr ⟨hs, rfl, hC⟩⟩)
    by_cases h1 : c < 48
    · exact Ok.pos h1 hn
    · exact Ok.neg h1 (Ok.pos (lt_n (fun q => hd ⟨le_n h1, q⟩)) hn)
theorem read_c {M : Mem} {t : Nat} {code : Nat → Int32} (ht : t ≤ 60) (h1 : M 48 1 = nI t) (hc : ∀ i, i < t → M 49 i = code i) : Ok (f_X6_read M) (fun r => CO M r.2 ∧ ∃ i S, Rd code t i S ∧ r.1 = nI i ∧ CI S r.2) := by
  unfold f_X6_read
  rw [stf_e]
  refine Ok.eqb rfl ?_
  have o1 : CO M (mset M 48 5 0) := ⟨mset_n (by decide), Off.rf.set (by omega)⟩
  refine Ok.bind (begin_p (p := 0) (T := fun _ _ => 0) (M := mset M 48 5 0) mset_s (fun q hq => absurd hq (Nat.not_lt_zero q))) ?_
  rintro M1 ⟨a1, a2⟩
  refine Ok.bind (P := fun r => CO M r.2 ∧ ∃ i S, Rd code t i S ∧ r.1 = nI i ∧ CI S r.2) ?_ (fun r h => Ok.of h)
  refine loop_FU (fun i (z : Int32 × Mem) => z.1 = nI i ∧ CO M z.2 ∧ ∃ S, tAt code i = some S ∧ CI S z.2) _ t (by omega) ?_ ?_ ⟨rfl, o1.tr a1, tInit, rfl, a2⟩
  · rintro i ⟨j, N⟩ hi ⟨h2, h3, ⟨p, f, g, u, T⟩, h4, h5⟩
    dsimp only at h2 h3 h5
    subst h2
    unfold f_X6_read_l11
    dsimp only
    refine Ok.neg (by rw [h3.1, h1]; exact nI_ge hi (by omega)) ?_
    refine Ok.eqb (rd_nI (by omega) (by decide)) ?_
    rw [h3.2 49 (by omega), hc i hi]
    refine Ok.bind (takes_c (tAt_V h4) (by omega) h5) ?_
    rintro ⟨r, N2⟩ ⟨b1, b2⟩
    dsimp only at b1 b2 ⊢
    rcases b2 with ⟨S', b3, b4, b5⟩ | ⟨b3, b4, b5⟩
    · refine Ok.neg (by rw [b4]; decide) (Ok.of ⟨nI_1 i, h3.tr b1, S', ?_, b5⟩)
      show (tAt code i).bind _ = some S'
      rw [h4]
      exact b3
    · exact Ok.pos b4 (Ok.of ⟨h3.tr b1, i, _, ⟨by omega, h4, Or.inr b3⟩, rfl, b5⟩)
  · rintro ⟨j, N⟩ ⟨h2, h3, S, h4, h5⟩
    dsimp only at h2 h3 h5
    subst h2
    unfold f_X6_read_l11
    dsimp only
    exact Ok.pos (by rw [h3.1, h1]; exact nI_le (Nat.le_refl _) (by omega)) (Ok.of ⟨h3, t, S, ⟨Nat.le_refl _, h4, Or.inl rfl⟩, rfl, h5⟩)
