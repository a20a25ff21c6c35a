/-! the law's case: load -/
theorem eq_b {α β : Type} {o : Option α} {f : α → Option β} {a : α} {z : Option β} (h : o = some a) (k : f a = z) : o.bind f = z := by
  subst h
  exact k
theorem eq_n {α : Type} {c : Prop} [Decidable c] {x y z : α} (h : ¬ c) (k : y = z) : (if c then x else y) = z := by
  rw [if_neg h]
  exact k
theorem eq_p {α : Type} {c : Prop} [Decidable c] {x y z : α} (h : c) (k : x = z) : (if c then x else y) = z := by
  rw [if_pos h]
  exact k
def addAll (d : Dt) (T : Nat → Nat → Nat) : Nat → Dt
  | 0 => d
  | q + 1 => addD (addAll d T q) (nI (T q 0)) (nI (T q 1)) (T q 2)
theorem addAll_n (d : Dt) (T : Nat → Nat → Nat) : ∀ k, (addAll d T k).2.2.2.2.1 = d.2.2.2.2.1 + tSum T k
  | 0 => rfl
  | k + 1 => by
    show (addD (addAll d T k) _ _ (T k 2)).2.2.2.2.1 = d.2.2.2.2.1 + (tSum T k + T k 2)
    rw [addD_n, addAll_n d T k]
    omega
theorem addAll_V {d : Dt} {T : Nat → Nat → Nat} (hv : Vd d) : ∀ {k : Nat}, (∀ q, q < k → T q 0 ≤ 140) → d.2.2.2.2.1 + tSum T k ≤ 200 → Vd (addAll d T k)
  | 0, _, _ => hv
  | k + 1, h, hn => by
    have hn' : d.2.2.2.2.1 + (tSum T k + T k 2) ≤ 200 := hn
    have h0 := h k (by omega)
    refine addD_V (addAll_V hv (fun q hq => h q (by omega)) (by omega)) ?_ _ (by rw [addAll_n]; omega)
    rw [i_nI (by omega)]
    omega
theorem tup_sum (T : Nat → Nat → Nat) (p : Nat) (u : Nat → Nat) : tSum (tup T p u) (p + 1) = tSum T p + u 2 := by
  show tSum (tup T p u) p + tup T p u p 2 = _
  rw [tup_s, tSum_cong (T := tup T p u) (T' := T) (fun q hq => by rw [tup_n (by omega)])]
theorem inParts_c {M : Mem} {T : Nat → Nat → Nat} {k : Nat} (hk : k ≤ 30) (h5 : M 48 5 = nI k) (h : ∀ q, q < k → M 52 q = nI (T q 2)) : f_X6_minutesInParts M = some (nI (tSum T k)) := by
  obtain ⟨a, h1, h2⟩ : Ok (f_X6_minutesInParts M) (fun r => r = nI (tSum T k)) := by
    unfold f_X6_minutesInParts
    refine Ok.bind (P := fun r => r = nI (tSum T k)) ?_ (fun r h => Ok.of h)
    refine loop_FU (fun i (z : Int32 × Int32) => z.1 = nI (tSum T i) ∧ z.2 = nI i) _ k (by omega) ?_ ?_ ⟨rfl, rfl⟩
    · rintro i ⟨s, j⟩ hi ⟨h3, h4⟩
      dsimp only at h3 h4
      subst h3
      subst h4
      unfold f_X6_minutesInParts_l4
      dsimp only
      refine Ok.neg (by rw [h5]; exact nI_ge hi (by omega)) ?_
      refine Ok.eqb (rd_nI (by omega) (by decide)) (Ok.of ⟨?_, nI_1 i⟩)
      dsimp only
      rw [h i hi, nI_add]
      rfl
    · rintro ⟨s, j⟩ ⟨h3, h4⟩
      dsimp only at h3 h4
      subst h3
      subst h4
      unfold f_X6_minutesInParts_l4
      dsimp only
      exact Ok.pos (by rw [h5]; exact nI_le (Nat.le_refl _) (by omega)) (Ok.of rfl)
  rw [h1, h2]
theorem load_lc {M : Mem} {d : Dt} {T : Nat → Nat → Nat} {k : Nat} (hs : Sc 1 d M) (hk : k ≤ 30) (h5 : M 48 5 = nI k) (hp : ∀ q, q < k → M 50 q = nI (T q 0) ∧ M 51 q = nI (T q 1) ∧ M 52 q = nI (T q 2)) (hn : d.2.2.2.2.1 + tSum T k ≤ 200) :
    Ok (loopN f_X8_load_l64 FU (0, M)) (fun M' => Sc 1 (addAll d T k) M' ∧ Off (fun c => 1 ≤ c ∧ c ≤ 5) M M') := by
  refine loop_FU (fun i (z : Int32 × Mem) => z.1 = nI i ∧ Sc 1 (addAll d T i) z.2 ∧ Off (fun c => 1 ≤ c ∧ c ≤ 5) M z.2) _ k (by omega) ?_ ?_ ⟨rfl, hs, Off.rf⟩
  · rintro i ⟨j, N⟩ hi ⟨h1, h2, h3⟩
    dsimp only at h1 h2 h3
    subst h1
    unfold f_X8_load_l64
    dsimp only
    refine Ok.neg (by rw [h3 48 (by omega), h5]; exact nI_ge hi (by omega)) ?_
    refine Ok.eqb (rd_nI (by omega) (by decide)) ?_
    refine Ok.eqb (rd_nI (by omega) (by decide)) ?_
    refine Ok.eqb (rd_nI (by omega) (by decide)) ?_
    rw [h3 50 (by omega), h3 51 (by omega), h3 52 (by omega), (hp i hi).1, (hp i hi).2.1, (hp i hi).2.2]
    have hle := tSum_le (T := T) (k := i + 1) (n := k) (by omega)
    have hle' : tSum T i + T i 2 ≤ tSum T k := hle
    refine Ok.bind (add_c h2 (by rw [addAll_n]; omega)) ?_
    rintro N2 ⟨a1, a2⟩
    exact Ok.of ⟨nI_1 i, a1, h3.tr a2⟩
  · rintro ⟨j, N⟩ ⟨h1, h2, h3⟩
    dsimp only at h1 h2 h3
    subst h1
    unfold f_X8_load_l64
    dsimp only
    exact Ok.pos (by rw [h3 48 (by omega), h5]; exact nI_le (Nat.le_refl _) (by omega)) (Ok.of ⟨h2, h3⟩)
theorem load_lm {M : Mem} {d : Dt} {T : Nat → Nat → Nat} {p : Nat} (hv : Vd d) (hs : Zc (M 91) d) (hp : p < 30) (h24 : M 90 24 = nI p) (h7 : ∀ q, q < p + 1 → ∀ k, k < 3 → M 107 (3 * q + k) = nI (T q k)) (hT : ∀ q, q < p + 1 → T q 0 ≤ 140) (hn : d.2.2.2.2.1 + tSum T (p + 1) ≤ 200) :
    Ok (loopN f_X9_load_l87 FU (0, M)) (fun M' => Zc (M' 91) (addAll d T (p + 1)) ∧ Off (fun c => c = 91) M M') := by
  refine loop_FU (fun i (z : Int32 × Mem) => z.1 = nI i ∧ Zc (z.2 91) (addAll d T i) ∧ Off (fun c => c = 91) M z.2) _ (p + 1) (by omega) ?_ ?_ ⟨rfl, hs, Off.rf⟩
  · rintro i ⟨j, N⟩ hi ⟨h1, h2, h3⟩
    dsimp only at h1 h2 h3
    subst h1
    unfold f_X9_load_l87
    dsimp only
    refine Ok.neg (by rw [h3 90 (by omega), h24]; exact nI_nlt (by omega) (by omega)) ?_
    rw [n3, nI_1, show nI (3 * i) + 2 = nI (3 * i + 2) from nI_add _ 2]
    refine Ok.eqb (rd_nI (by omega) (by decide)) ?_
    refine Ok.eqb (rd_nI (by omega) (by decide)) ?_
    refine Ok.eqb (rd_nI (by omega) (by decide)) ?_
    have e0 : N 107 (3 * i) = nI (T i 0) := by
      rw [h3 107 (by omega)]
      exact h7 i hi 0 (by decide)
    rw [e0, h3 107 (by omega), h7 i hi 1 (by decide), h7 i hi 2 (by decide)]
    have hle' : tSum T i + T i 2 ≤ tSum T (p + 1) := tSum_le (T := T) (k := i + 1) (n := p + 1) (by omega)
    refine Ok.bind (bring_m (addAll_V hv (fun q hq => hT q (by omega)) (by omega)).2.1 h2 (by rw [addAll_n]; omega)) ?_
    rintro N2 ⟨a1, a2⟩
    exact Ok.of ⟨nI_1 i, a1, h3.tr a2⟩
  · rintro ⟨j, N⟩ ⟨h1, h2, h3⟩
    dsimp only at h1 h2 h3
    subst h1
    unfold f_X9_load_l87
    dsimp only
    exact Ok.pos (by rw [h3 90 (by omega), h24]; exact nI_lt (by omega) (by omega)) (Ok.of ⟨h2, h3⟩)
theorem whole_n {p f g i : Nat} {u : Nat → Nat} {T : Nat → Nat → Nat} (hV : TV i (p, f, g, u, T)) (hi : i ≤ 60) (hw : tWh f g u) : p < 30 := by
  have h1 : 2 * p + (if f = 0 ∧ g = 0 then 0 else 1) ≤ i := hV.1
  rw [if_neg (show ¬ (f = 0 ∧ g = 0) from fun q => by have := q.2; have := hw.1; omega)] at h1
  omega
theorem isWhole_c {M : Mem} {t : Nat} {code : Nat → Int32} (ht : t ≤ 60) (h1 : M 48 1 = nI t) (hc : ∀ i, i < t → M 49 i = code i) :
    Ok (f_X6_isWhole M) (fun r => CO M r.2 ∧ ∃ i p f g u T, Rd code t i (p, f, g, u, T) ∧ ((i = t ∧ tWh f g u ∧ r.1 = 1 ∧ r.2 48 5 = nI (p + 1) ∧ ∀ q, q < p + 1 → r.2 50 q = nI (tup T p u q 0) ∧ r.2 51 q = nI (tup T p u q 1) ∧ r.2 52 q = nI (tup T p u q 2)) ∨ (¬ (i = t ∧ tWh f g u) ∧ r.1 = 0))) := by
  unfold f_X6_isWhole
  refine Ok.bind (read_c ht h1 hc) ?_
  rintro ⟨v, M1⟩ ⟨a1, i, ⟨p, f, g, u, T⟩, a2, a3, a4⟩
  dsimp only at a1 a3 a4 ⊢
  subst a3
  have hi := a2.1
  have hV := tAt_V a2.2.1
  by_cases hit : i = t
  · refine Ok.neg (by rw [a1.1, h1, hit]; exact nI_nlt (Nat.le_refl _) (by omega)) (Ok.eqb (whole_c hV a4) ?_)
    by_cases hw : tWh f g u
    · rw [if_pos hw]
      refine Ok.neg (by decide) (Ok.bind (end_p (i := i) hw.1 (whole_n hV (by omega) hw) a4) ?_)
      rintro M2 ⟨b1, b2, b3⟩
      exact Ok.of ⟨a1.tr b1, i, p, f, g, u, T, a2, Or.inl ⟨hit, hw, rfl, b2, b3⟩⟩
    · rw [if_neg hw]
      exact Ok.pos rfl (Ok.of ⟨a1, i, p, f, g, u, T, a2, Or.inr ⟨fun q => hw q.2, rfl⟩⟩)
  · exact Ok.pos (by rw [a1.1, h1]; exact nI_lt (by omega) (by omega)) (Ok.of ⟨a1, i, p, f, g, u, T, a2, Or.inr ⟨fun q => hit q.1, rfl⟩⟩)
theorem thr_m {M : Mem} {k : Int32} (hk : 0 < k) : f_X9_load_j69 k M = some (0, mset M 90 0 k) := by
  unfold f_X9_load_j69
  rw [stf_e, Option.bind_some, if_neg (by rw [mset_s]; exact n_le' hk)]
theorem load_q (a1 a2 a3 : Int32) {M : Mem} {L : Lng} {d : Dt} {D : Nat → Dt} {next kept : Nat} (h : Cr d D next kept M) : LC (f_lc9 a1 a2 a3 M L) := by
  refine law_ok (F := f_X9_load) ?_
  obtain ⟨hv, hs, hz, hw, hH, hZ, hVs, t, ht, t1, t2, t3⟩ := id h
  obtain ⟨⟨v, M1⟩, e1, c1, i, p, f, g, u, T, r1, alt⟩ := isWhole_c (code := M 49) ht t1 (fun i hi => rfl)
  dsimp only at c1 alt
  have hV := tAt_V r1.2.1
  have hi := r1.1
  have hC1 : Cr d D next kept M1 := Cr_q h (Qt_co c1)
  have mod : ∀ N : Mem, N 90 4 = nI t → N 93 = M 93 → Ok (f_X9_readText N) (fun r => MO N r.2 ∧ r.1 = nI i ∧ MI (p, f, g, u, T) r.2) := by
    intro N n1 n2
    refine Ok.mono (readText_m (code := M 49) ht n1 (fun i hi => by rw [n2, t3 i hi])) ?_
    rintro r ⟨d1, j, S', r2, d2, d3⟩
    obtain ⟨rfl, rfl⟩ := Rd_eq r1 r2
    exact ⟨d1, d2, d3⟩
  rcases alt with ⟨hit, hwh, hv1, hp5, hpp⟩ | ⟨hnw, hv0⟩
  · have hp := whole_n hV (by omega) hwh
    have hTb : ∀ q, q < p + 1 → tup T p u q 0 ≤ 140 ∧ tup T p u q 2 ≤ 60 := by
      intro q hq
      obtain ⟨-, -, -, x4, -, x6⟩ := hV
      dsimp only at x4 x6
      by_cases hqp : q = p
      · rw [hqp, tup_s]
        exact ⟨x4 0 (by decide), x4 2 (by decide)⟩
      · rw [tup_n hqp]
        have := x6 q (by omega)
        omega
    have hsum := inParts_c (M := M1) (T := tup T p u) (k := p + 1) (by omega) hp5 (fun q hq => (hpp q hq).2.2)
    have hsb := tSum_b (T := tup T p u) (n := p + 1) (fun q hq => (hTb q hq).2)
    have hts := tup_sum T p u
    have hn := hv.1
    -- the model, once the text is read
    have mod2 : ∀ N : Mem, N 90 4 = nI t → N 91 = M 91 → N 93 = M 93 → ∃ N2, MO N N2 ∧ MI (p, f, g, u, T) N2 ∧ f_X9_load N = (if nI d.2.2.2.2.1 + nI (tSum (tup T p u) (p + 1)) ≤ 200 then f_X9_load_j69 0 N2 else f_X9_load_j69 2 N2) := by
      intro N n1 n91 n2
      obtain ⟨⟨v2, N2⟩, f1, f2, f3, f4⟩ := mod N n1 n2
      dsimp only at f2 f3 f4
      refine ⟨N2, f2, f4, ?_⟩
      have m3 : N2 90 24 = nI p := f4.2.2.1
      have m4 : N2 90 25 = nI (tSum T p) := f4.2.2.2.1
      have m5 : ∀ k, k < 3 → N2 107 (3 * p + k) = nI (u k) := f4.2.2.2.2.1
      unfold f_X9_load
      rw [f1, Option.bind_some]
      dsimp only
      rw [if_pos (show v2 = N2 90 4 by rw [f3, f2.1 4 (by decide), n1, hit]), over_m hV (by omega) f4, if_pos hwh, Option.bind_some, if_neg (by decide)]
      unfold f_X9_load_j23
      rw [if_neg (by decide), show rd N2 91 432 0 = some (N2 91 0) from rd91 (k := 0) (by decide), Option.bind_some, f2.2 91 (by omega), n91, hz.1, m3, n3, show nI (3 * p) + 2 = nI (3 * p + 2) from nI_add _ 2, show rd N2 107 96 (nI (3 * p + 2)) = some (N2 107 (3 * p + 2)) from rd_nI (by omega) (by decide), Option.bind_some, m4, m5 2 (by decide), hts, nI_add, nI_add, nI_add, Nat.add_assoc]
    by_cases h4 : d.2.2.2.2.1 + tSum (tup T p u) (p + 1) ≤ 200
    · have hle : nI d.2.2.2.2.1 + nI (tSum (tup T p u) (p + 1)) ≤ 200 := by
        rw [nI_add]
        exact nI_le (b := 200) h4 (by decide)
      have hv' := addAll_V (k := p + 1) hv (fun q hq => (hTb q hq).1) h4
      refine chg_ok (L := L) (v := nI (d.2.2.2.2.1 + tSum (tup T p u) (p + 1))) (P := fun M5 => Sc 1 (addAll d (tup T p u) (p + 1)) M5 ∧ Vw (addAll d (tup T p u) (p + 1)) M5 ∧ HC (pushD D kept d) ((next + 1) % 8) (pushK kept) M5 ∧ M5 48 1 = 0 ∧ Off (fun c => c ≤ 89) M M5) ?_ ?_
      · unfold g_load
        refine Ok.bind (P := fun o => ∃ M5, o = .inr (nI (d.2.2.2.2.1 + tSum (tup T p u) (p + 1)), M5) ∧ Sc 1 (addAll d (tup T p u) (p + 1)) M5 ∧ Vw (addAll d (tup T p u) (p + 1)) M5 ∧ HC (pushD D kept d) ((next + 1) % 8) (pushK kept) M5 ∧ M5 48 1 = 0 ∧ Off (fun c => c ≤ 89) M M5) ?_ ?_
        · unfold f_X8_load
          refine Ok.eqb e1 ?_
          dsimp only
          refine Ok.neg (by rw [hv1]; decide) (Ok.eqb hsum ?_)
          refine Ok.pos (by rw [hC1.2.1.1]; exact hle) ?_
          refine Ok.bind (keep_cr hC1) ?_
          rintro M2 ⟨k1, k2, k3⟩
          refine Ok.bind (load_lc (T := tup T p u) (k := p + 1) k2 (by omega) (by rw [k3 48 (by omega)]; exact hp5) (fun q hq => by rw [k3 50 (by omega), k3 51 (by omega), k3 52 (by omega)]; exact hpp q hq) h4) ?_
          rintro M3 ⟨l1, l2⟩
          rw [stf_e]
          refine Ok.eqb rfl ?_
          refine Ok.bind (readAgain_c hv' (Sc_off (M' := mset M3 48 1 0) l1 (fun c hc hc2 => mset_o (by omega)))) ?_
          rintro M5 ⟨x1, x2⟩
          have s5 : Sc 1 (addAll d (tup T p u) (p + 1)) M5 := Sc_off l1 (fun c hc hc2 => by rw [x2 c (by omega), mset_o (by omega)])
          refine Ok.of ⟨M5, ?_, s5, x1, HC_off k1 (fun c hc hc2 => by rw [x2 c (by omega), mset_o (by omega), l2 c (by omega)]), ?_, ?_⟩
          · rw [s5.1, addAll_n]
          · rw [x2 48 (by omega), mset_s]
          · exact ((((c1.2.mono (fun c hc => by omega)).tr (k3.mono (fun c hc => by omega))).tr (l2.mono (fun c hc => by omega))).set (by omega)).tr (x2.mono (fun c hc => by omega))
        · rintro o ⟨M', rfl, q1, q2, q3, q4, q5⟩
          exact Ok.of ⟨rfl, rfl, q1, q2, q3, q4, q5⟩
      · rintro M5 ⟨q1, q2, q3, q4, q5⟩
        obtain ⟨N2, y1, y2, y3⟩ := mod2 M5 (by rw [q5 90 (by omega)]; exact t2) (q5 91 (by omega)) (q5 93 (by omega))
        rw [y3, if_pos hle]
        unfold f_X9_load_j69
        rw [stf_e]
        refine Ok.eqb rfl (Ok.pos (by rw [mset_s]; decide) ?_)
        have e91 : mset N2 90 0 0 91 = M 91 := by rw [mset_o (by decide), y1.2 91 (by omega), q5 91 (by omega)]
        refine Ok.bind (save_m (M := mset N2 90 0 0) (d := d) hH.2.1 (HZ_off hZ (by rw [mset_n (by decide), y1.1 2 (by decide), q5 90 (by omega)]) (by rw [mset_o (by decide), y1.2 92 (by omega), q5 92 (by omega)])) hVs hv (by rw [e91]; exact hz)) ?_
        rintro M7 ⟨z1, z2, z3⟩
        have y24 : N2 90 24 = nI p := y2.2.2.1
        have y5 : ∀ k, k < 3 → N2 107 (3 * p + k) = nI (u k) := y2.2.2.2.2.1
        have y6 : ∀ q, q < p → ∀ k, k < 3 → N2 107 (3 * q + k) = nI (T q k) := y2.2.2.2.2.2
        refine Ok.bind (load_lm (T := tup T p u) (p := p) hv (by rw [z3 91 (by omega), e91]; exact hz) hp (by rw [z2 24 (by decide), mset_n (by decide)]; exact y24) (fun q hq k hk => ?_) (fun q hq => (hTb q hq).1) h4) ?_
        · rw [z3 107 (by omega), mset_o (by decide)]
          by_cases hqp : q = p
          · rw [hqp, tup_s]
            exact y5 k hk
          · rw [tup_n hqp]
            exact y6 q (by omega) k hk
        rintro M8 ⟨w1, w2⟩
        rw [stf_e]
        refine Ok.eqb rfl ?_
        have w9 : mset M8 90 4 0 91 = M8 91 := mset_o (by decide)
        have oA : Off (fun c => 90 ≤ c) M5 (mset M8 90 4 0) := ((((y1.2.mono (fun c hc => by omega)).set (by omega)).tr (z3.mono (fun c hc => by omega))).tr (w2.mono (fun c hc => by omega))).set (by omega)
        refine Ok.eqb (show rd (mset M8 90 4 0) 91 432 0 = some (mset M8 90 4 0 91 0) from rd91 (k := 0) (by decide)) (Ok.of ⟨?_, ?_, addAll d (tup T p u) (p + 1), pushD D kept d, (next + 1) % 8, pushK kept, hv', ?_, ?_, ?_, ?_, ?_, ?_, ?_⟩)
        · dsimp only
          rw [w9, w1.1, addAll_n]
        · dsimp only
          rw [mset_n (by decide), w2 90 (by omega), z2 0 (by decide), mset_s]
        · exact Sc_off q1 (fun c hc hc2 => oA c (by omega))
        · dsimp only
          rw [w9]
          exact w1
        · exact Vw_off q2 (fun c hc hc2 => oA c (by omega))
        · exact HC_off q3 (fun c hc hc2 => oA c (by omega))
        · exact HZ_off z1 (by dsimp only; rw [mset_n (by decide), w2 90 (by omega)]) (by dsimp only; rw [mset_o (by decide), w2 92 (by omega)])
        · exact push_V hH.2.1 hVs hv
        · refine ⟨0, by decide, ?_, ?_, fun i hi => absurd hi (Nat.not_lt_zero i)⟩
          · dsimp only
            rw [oA 48 (by omega)]
            exact q4
          · dsimp only
            rw [mset_s]
            rfl
    · have hle : ¬ nI d.2.2.2.2.1 + nI (tSum (tup T p u) (p + 1)) ≤ 200 := by
        rw [nI_add]
        exact nI_ge (a := 200) (by omega) (by omega)
      have hG : g_load M L = some (2, M1, L) := by
        unfold g_load f_X8_load
        refine eq_b (a := .inl (2, M1)) (eq_b e1 (eq_n (by dsimp only; rw [hv1]; decide) (eq_b hsum (eq_n ?_ rfl)))) rfl
        dsimp only
        rw [hC1.2.1.1]
        exact hle
      obtain ⟨N2, y1, y2, y3⟩ := mod2 M1 (by rw [c1.2 90 (by omega)]; exact t2) (c1.2 91 (by omega)) (c1.2 93 (by omega))
      refine ⟨2, M1, L, 0, mset N2 90 0 2, hG, ?_, mset_s, fun q => absurd q (by decide), Rl_q h (((Qt_co c1).tr (Qt_mo y1)).tr Qt_t)⟩
      rw [y3, if_neg hle]
      exact thr_m (by decide)
  · have hG : g_load M L = some (1, M1, L) := by
      unfold g_load f_X8_load
      rw [e1, Option.bind_some]
      dsimp only
      rw [hv0, if_pos rfl]
      rfl
    obtain ⟨⟨v2, N2⟩, f1, f2, f3, f4⟩ := mod M1 (by rw [c1.2 90 (by omega)]; exact t2) (c1.2 93 (by omega))
    dsimp only at f2 f3 f4
    refine ⟨1, M1, L, 0, mset N2 90 0 1, hG, ?_, mset_s, fun q => absurd q (by decide), Rl_q h (((Qt_co c1).tr (Qt_mo f2)).tr Qt_t)⟩
    have e22 : f_X9_load_j22 N2 = some (0, mset N2 90 0 1) := by
      unfold f_X9_load_j22 f_X9_load_j23
      rw [if_pos rfl]
      exact thr_m (by decide)
    have et : N2 90 4 = nI t := by rw [f2.1 4 (by decide), c1.2 90 (by omega), t2]
    unfold f_X9_load
    refine eq_b f1 ?_
    by_cases hit : i = t
    · refine eq_p (by dsimp only; rw [f3, et, hit]) (eq_b (over_m hV (by omega) f4) ?_)
      rw [if_neg (show ¬ tWh f g u from fun q => hnw ⟨hit, q⟩)]
      exact eq_p rfl e22
    · exact eq_n (by dsimp only; rw [f3, et]; exact nI_ne (by omega) (by omega) hit) e22
