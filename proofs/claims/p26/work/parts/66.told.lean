/-! told: levels, percents, the share -/
theorem nI_mul (a b : Nat) : nI a * nI b = nI (a * b) := (Int32.ofNat_mul a b).symm
theorem cG_0 (p : Nat → Bool) (H : Nat → Nat) (n : Nat) : cG p H n 0 = cB p n := by
  unfold cG
  refine cB_cong (fun m hm => ?_)
  rw [decide_eq_true (Nat.zero_le _), Bool.and_true]
theorem cG_s1 (p : Nat → Bool) (H : Nat → Nat) (i l : Nat) : cG p H (i + 1) l = cG p H i l + (if p i && decide (l ≤ H i) then 1 else 0) := rfl
theorem level_l {d : Dt} {D : Nat → Dt} {next kept l : Nat} {a b c e f : Int32} {M : Mem} (h : TL d D next kept M) (hl : l ≤ 140) : loopN (f_L_told_l563 a b c e f (nI l) M) FU (0, 0) = some (nI (dG d l)) := by
  have hz := h.2.1
  have hn := hz.1
  have hv := h.1.1
  have key : Ok (loopN (f_L_told_l563 a b c e f (nI l) M) FU (0, 0)) (fun r => r = nI (dG d l)) := by
    refine loop_FU (fun i z => z.1 = nI (cG (cntd (sWhy d.1 d.2.1 d.2.2.2.1)) (dH d.1 d.2.2.2.1) i l) ∧ z.2 = nI i) _ d.2.2.2.2.1 (by omega) ?_ ?_ ⟨rfl, rfl⟩
    · rintro i ⟨x, y⟩ hi ⟨g1, g2⟩
      dsimp only at g1 g2
      subst g1; subst g2
      obtain ⟨a5, -, a7, -⟩ := h.2.2.2.1 i hi
      obtain ⟨q, q1, q2, q3⟩ := dF_r hv.2.2.2.1 hv.2.2.2.2.1 hi
      have r97 : rd M 97 60 (nI i) = some (sWhy d.1 d.2.1 d.2.2.2.1 i) := by
        rw [rd_nI (by omega) (by decide), a7]
      have hcs : cntd (sWhy d.1 d.2.1 d.2.2.2.1) i = (decide (sWhy d.1 d.2.1 d.2.2.2.1 i = 0) || decide (sWhy d.1 d.2.1 d.2.2.2.1 i = 3)) := rfl
      have fin : ∀ s1 : Int32, s1 = (if cntd (sWhy d.1 d.2.1 d.2.2.2.1) i && decide (l ≤ dH d.1 d.2.2.2.1 i) then 1 else 0) → Ok (f_L_told_j609 a b c e f (nI l) (nI i) (nI (cG (cntd (sWhy d.1 d.2.1 d.2.2.2.1)) (dH d.1 d.2.2.2.1) i l)) s1 M) (fun o => Sum.elim (fun z => z.1 = nI (cG (cntd (sWhy d.1 d.2.1 d.2.2.2.1)) (dH d.1 d.2.2.2.1) (i + 1) l) ∧ z.2 = nI (i + 1)) (fun r => r = nI (dG d l)) o) := by
        intro s1 hs1
        unfold f_L_told_j609
        refine Ok.of ⟨?_, nI_1 i⟩
        dsimp only
        rw [cG_s1, hs1]
        by_cases hq : (cntd (sWhy d.1 d.2.1 d.2.2.2.1) i && decide (l ≤ dH d.1 d.2.2.2.1 i)) = true
        · rw [if_pos hq, if_pos hq]
          exact nI_1 _
        · rw [if_neg hq, if_neg hq]
          exact nI_add _ 0
      have yes : cntd (sWhy d.1 d.2.1 d.2.2.2.1) i = true → Ok (f_L_told_j591 a b c e f (nI l) (nI i) (nI (cG (cntd (sWhy d.1 d.2.1 d.2.2.2.1)) (dH d.1 d.2.2.2.1) i l)) M) (fun o => Sum.elim (fun z => z.1 = nI (cG (cntd (sWhy d.1 d.2.1 d.2.2.2.1)) (dH d.1 d.2.2.2.1) (i + 1) l) ∧ z.2 = nI (i + 1)) (fun r => r = nI (dG d l)) o) := by
        intro hcn
        unfold f_L_told_j591 f_L_told_j608
        refine Ok.eqb (rd_nI (by omega) (by decide)) ?_
        rw [a5, q2, show (10 : Int32) * nI l = nI (10 * l) from nI_mul 10 l]
        refine Ok.ite (fun k => fin 0 ?_) (fun k => fin 1 ?_)
        · have := (n_lt (by omega) (by omega)).mp k
          rw [hcn, q3, decide_eq_false (by omega)]
          rfl
        · have : ¬ q < 10 * l := fun z => k ((n_lt (by omega) (by omega)).mpr z)
          rw [hcn, q3, decide_eq_true (by omega)]
          rfl
      unfold f_L_told_l563
      dsimp only
      refine Ok.eqb r930 ?_
      rw [hz.2.1]
      refine Ok.neg (nI_ge hi (by omega)) (Ok.eqb r97 ?_)
      refine Ok.ite (fun k => yes ?_) (fun k => Ok.eqb r97 (Ok.ite (fun k2 => yes ?_) (fun k2 => ?_)))
      · rw [hcs, decide_eq_true k, Bool.true_or]
      · rw [hcs, decide_eq_true k2, Bool.or_true]
      · unfold f_L_told_j608
        refine fin 0 ?_
        rw [hcs, decide_eq_false k, decide_eq_false k2]
        rfl
    · rintro ⟨x, y⟩ ⟨g1, g2⟩
      dsimp only at g1 g2
      subst g2
      unfold f_L_told_l563
      dsimp only
      refine Ok.eqb r930 ?_
      rw [hz.2.1]
      exact Ok.pos (nI_le (Nat.le_refl _) (by omega)) (Ok.of g1)
  obtain ⟨r, k1, k2⟩ := key
  rw [k1, k2]
theorem levels_l {d : Dt} {D : Nat → Dt} {next kept lev p : Nat} {M : Mem} (h : TL d D next kept M) (hlev : lev < 141) (hp : 1 ≤ p ∧ p ≤ 100) :
    loopN (f_L_told_l549 (nI lev) (nI p) (nI (shB d)) M) FU (0, (-1), 0) = some (nI (dG d lev), sPct (nI p) (shB d) (dG d)) := by
  have hb := (sh_le h.1.1).2
  have hG0 : dG d 0 = shB d := cG_0 _ _ _
  have hGle : ∀ l, dG d l ≤ 200 := fun l => Nat.le_trans (cB_le _ _) h.1.1.1
  obtain ⟨q, hq⟩ : ∃ q : Nat → Bool, q = fun l => decide (nI p * nI (shB d) ≤ nI (dG d l) * 100) := ⟨_, rfl⟩
  have hq0 : q 0 = true := by
    rw [hq]
    refine decide_eq_true ?_
    show nI p * nI (shB d) ≤ nI (dG d 0) * nI 100
    rw [hG0, nI_mul, nI_mul]
    have h1 : p * shB d ≤ 100 * shB d := Nat.mul_le_mul_right _ hp.2
    exact nI_le (by rw [Nat.mul_comm (shB d) 100]; exact h1) (by omega)
  have hs : sPct (nI p) (shB d) (dG d) = if shB d = 0 then -1 else nI (pL q 140) := by
    unfold sPct
    rw [hq]
  rw [hs]
  have key : Ok (loopN (f_L_told_l549 (nI lev) (nI p) (nI (shB d)) M) FU (0, (-1), 0)) (fun r => r = (nI (dG d lev), if shB d = 0 then -1 else nI (pL q 140))) := by
    refine loop_FU (fun i z => z.1 = (if i ≤ lev then 0 else nI (dG d lev)) ∧ z.2.1 = (if i = 0 ∨ shB d = 0 then -1 else nI (pL q (i - 1))) ∧ z.2.2 = nI i) _ 141 (by omega) ?_ ?_ ⟨?_, ?_, rfl⟩
    · rintro i ⟨here, best, y⟩ hi ⟨g1, g2, g3⟩
      dsimp only at g1 g2 g3
      subst g3
      unfold f_L_told_l549
      dsimp only
      refine Ok.neg (nI_ge (b := 141) hi (by omega)) (Ok.eqb (level_l h (by omega)) ?_)
      have hqi : q i = decide (nI p * nI (shB d) ≤ nI (dG d i) * 100) := by rw [hq]
      have go : ∀ s0 : Int32, s0 = (if i + 1 ≤ lev then 0 else nI (dG d lev)) → Ok (f_L_told_j632 (nI lev) (nI p) (nI (shB d)) best (nI i) (nI (dG d i)) s0 M) (fun o => Sum.elim (fun z => z.1 = (if i + 1 ≤ lev then 0 else nI (dG d lev)) ∧ z.2.1 = (if i + 1 = 0 ∨ shB d = 0 then -1 else nI (pL q (i + 1 - 1))) ∧ z.2.2 = nI (i + 1)) (fun r => r = (nI (dG d lev), if shB d = 0 then -1 else nI (pL q 140))) o) := by
        intro s0 hs0
        unfold f_L_told_j632 f_L_told_j657 f_L_told_j659
        by_cases h0 : shB d = 0
        · refine Ok.pos (by rw [h0]; decide) (Ok.of ⟨hs0, ?_, nI_1 i⟩)
          show best = _
          rw [g2, if_pos (Or.inr h0), if_pos (Or.inr h0)]
        · refine Ok.neg (nI_ge (b := shB d) (a := 0) (by omega) (by omega)) ?_
          have hpl : pL q (i + 1 - 1) = if q i = true then i else pL q (i - 1) := by
            rw [Nat.add_sub_cancel]
            cases i with
            | zero => rw [if_pos hq0]; rfl
            | succ i => rfl
          refine Ok.ite (fun k => Ok.of ⟨hs0, ?_, nI_1 i⟩) (fun k => Ok.of ⟨hs0, ?_, nI_1 i⟩)
          · have hqf : ¬ q i = true := by
              rw [hqi]
              intro z
              have z := of_decide_eq_true z
              rw [Int32.mul_comm (nI (dG d i)) 100] at z
              exact n_lt' z k
            have hi0 : i ≠ 0 := fun z => hqf (by rw [z]; exact hq0)
            show best = _
            rw [g2, if_neg (by omega), if_neg (by omega), hpl, if_neg hqf]
          · have hqt : q i = true := by
              rw [hqi]
              refine decide_eq_true ?_
              rw [Int32.mul_comm (nI (dG d i)) 100]
              exact le_n k
            show nI i = _
            rw [if_neg (by omega), hpl, if_pos hqt]
      refine Ok.ite (fun k => go _ ?_) (fun k => go _ ?_)
      · have : i = lev := (nI_eq (by omega) (by omega)).mp k
        rw [if_neg (by omega), this]
      · have : i ≠ lev := fun z => k (by rw [z])
        rw [g1]
        by_cases hle : i ≤ lev
        · rw [if_pos hle, if_pos (by omega)]
        · rw [if_neg hle, if_neg (by omega)]
    · rintro ⟨here, best, y⟩ ⟨g1, g2, g3⟩
      dsimp only at g1 g2 g3
      subst g3
      unfold f_L_told_l549
      dsimp only
      refine Ok.pos (by decide) (Ok.of ?_)
      show (here, best) = (nI (dG d lev), if shB d = 0 then -1 else nI (pL q 140))
      rw [g1, g2, if_neg (show ¬ 141 ≤ lev by omega)]
      by_cases h0 : shB d = 0
      · rw [if_pos (show 141 = 0 ∨ shB d = 0 from Or.inr h0), if_pos h0]
      · rw [if_neg (show ¬ (141 = 0 ∨ shB d = 0) by omega), if_neg h0]
    · show (0 : Int32) = if 0 ≤ lev then 0 else nI (dG d lev)
      rw [if_pos (Nat.zero_le _)]
    · show (-1 : Int32) = if 0 = 0 ∨ shB d = 0 then -1 else nI (pL q (0 - 1))
      rw [if_pos (Or.inl rfl)]
  obtain ⟨r, k1, k2⟩ := key
  rw [k1, k2]
theorem behind_l {d : Dt} {D : Nat → Dt} {next kept : Nat} {a b c e f g : Int32} {M : Mem} (h : TL d D next kept M) : ∃ r : Int32, loopN (f_L_told_l699 a b c e f g M) FU (nI d.2.2.2.2.1 + 100, 0) = some r ∧ (¬ d.2.2.2.1 6 ≤ r ↔ xNa (dgO d) (ddA d) d.2.2.2.2.1 < dgO d) := by
  have hB := TL_B h
  have hn := hB.1
  have hg := hB.2.1
  have hz := h.2.1
  have hgo := gO_b h.1.1.2.2.2.2.1
  have key : Ok (loopN (f_L_told_l699 a b c e f g M) FU (nI d.2.2.2.2.1 + 100, 0)) (fun r => r = if xCnt (dgO d) (ddA d) d.2.2.2.2.1 = 0 then nI d.2.2.2.2.1 + 100 else nI (xNa (dgO d) (ddA d) d.2.2.2.2.1)) := by
    refine loop_FU (fun i z => z.1 = (if xCnt (dgO d) (ddA d) i = 0 then nI d.2.2.2.2.1 + 100 else nI (d.2.2.2.2.1 - i + xNa (dgO d) (ddA d) i)) ∧ z.2 = nI i) _ d.2.2.2.2.1 (by omega) ?_ ?_ ⟨rfl, rfl⟩
    · rintro i ⟨x, y⟩ hi ⟨g1, g2⟩
      dsimp only at g1 g2
      subst g2
      obtain ⟨-, -, a7, -⟩ := h.2.2.2.1 i hi
      unfold f_L_told_l699 f_L_told_j730
      dsimp only
      refine Ok.eqb r930 ?_
      rw [hz.2.1]
      refine Ok.neg (nI_ge hi (by omega)) (Ok.eqb (rd_nI (by omega) (by decide)) ?_)
      rw [a7]
      refine Ok.ite (fun k => Ok.eqb r930 (Ok.of ⟨?_, nI_1 i⟩)) (fun k => Ok.of ⟨?_, nI_1 i⟩)
      · have ha : ddA d i = true := decide_eq_true k
        show M 93 0 - 1 - nI i = _
        rw [hz.2.1]
        have hpos : xCnt (dgO d) (ddA d) (i + 1) ≠ 0 := by
          intro z
          have := xNa_0 (g := dgO d) (av := ddA d) (i + 1) z
          have h2 : xNa (dgO d) (ddA d) (i + 1) = 0 := by
            show (if ddA d i then 0 else _) = _
            rw [if_pos ha]
          omega
        have h2 : xNa (dgO d) (ddA d) (i + 1) = 0 := by
          show (if ddA d i then 0 else _) = _
          rw [if_pos ha]
        rw [if_neg hpos, h2, nI_p1 (by omega), nI_sub (by omega) (by omega)]
        exact congrArg nI (by omega)
      · have ha : ddA d i = false := decide_eq_false k
        obtain ⟨q1, -, -, q4⟩ := sc_n (g := dgO d) ha
        show x = _
        rw [g1, q1, q4]
        by_cases h0 : xCnt (dgO d) (ddA d) i = 0
        · rw [if_pos h0, if_pos h0]
        · rw [if_neg h0, if_neg h0]
          exact congrArg nI (by omega)
    · rintro ⟨x, y⟩ ⟨g1, g2⟩
      dsimp only at g1 g2
      subst g2
      unfold f_L_told_l699
      dsimp only
      refine Ok.eqb r930 ?_
      rw [hz.2.1]
      refine Ok.pos (nI_le (Nat.le_refl _) (by omega)) (Ok.of ?_)
      show x = _
      rw [g1, Nat.sub_self, Nat.zero_add]
  obtain ⟨r, k1, k2⟩ := key
  refine ⟨r, k1, ?_⟩
  have e6 : d.2.2.2.1 6 = nI (dgO d) := hgo.1
  have hdg : dgO d = gO d.2.2.2.1 := rfl
  rw [k2, e6]
  by_cases h0 : xCnt (dgO d) (ddA d) d.2.2.2.2.1 = 0
  · have hx := xNa_0 (g := dgO d) (av := ddA d) _ h0
    rw [if_pos h0, show nI d.2.2.2.2.1 + 100 = nI (d.2.2.2.2.1 + 100) from nI_add _ 100]
    constructor
    · intro z
      exact absurd (nI_le (show gO d.2.2.2.1 ≤ d.2.2.2.2.1 + 100 by omega) (by omega)) z
    · intro z
      omega
  · have hx := (xNa_1 (av := ddA d) hg d.2.2.2.2.1 (by omega)).1
    rw [if_neg h0, n_le (show gO d.2.2.2.1 < 2 ^ 31 by omega) (by omega)]
    omega
theorem Ok.inl {α β γ : Type} {f : α → Option γ} {g : β → Option γ} {a : α} {P : γ → Prop} (k : Ok (f a) P) : Ok (Sum.elim f g (.inl a)) P := by
  rw [Sum.elim_inl]
  exact k
theorem told_l {d : Dt} {D : Nat → Dt} {next kept : Nat} {M : Mem} (x : Int32) (h : Cr d D next kept M) (hz : LzD d M) (hc : LcD d M) : Ok (f_L_told x M) (fun r => r.1 = 1 ∧ Off (fun c => 95 ≤ c) M r.2) := by
  have hst := h.1.2.2.2.2.1
  unfold f_L_told f_L_told_j30
  have o0 : Off (fun c => 95 ≤ c) M (rset (rset (rset (rset (rset M 95 (fun _ => 0)) 96 (fun _ => 0)) 97 (fun _ => 0)) 98 (fun _ => 0)) 99 (fun _ => 0)) :=
    ((((Off.rf.rset (by omega)).rset (by omega)).rset (by omega)).rset (by omega)).rset (by omega)
  generalize rset (rset (rset (rset (rset M 95 (fun _ => 0)) 96 (fun _ => 0)) 97 (fun _ => 0)) 98 (fun _ => 0)) 99 (fun _ => 0) = M0 at o0 ⊢
  have hz0 : LzD d M0 := Lz_off hz (fun c a b => o0 c (by omega))
  have hc0 : LcD d M0 := Lc_off hc (fun c a b => o0 c (by omega))
  refine Ok.bind (lay_l hz0 hst) ?_
  rintro M1 ⟨hL, o1⟩
  have hz1 : LzD d M1 := Lz_off hz0 (fun c a b => o1 c (by show ¬ (95 ≤ c ∧ _); omega))
  have hc1 : LcD d M1 := Lc_off hc0 (fun c a b => o1 c (by show ¬ (95 ≤ c ∧ _); omega))
  refine Ok.bind (match_l (g0 := 99) hz1 hst hL hc1 (by decide)) ?_
  rintro M2 ⟨hma, o2⟩
  have o3 : Off (fun c => 95 ≤ c) M M2 := (o0.tr (o1.mono (fun c hc => hc.1))).tr (o2.mono (fun c hc => by rw [hc]; decide))
  have hT : TL d D next kept M2 := by
    refine ⟨Cr_off h (fun c hc => o3 c (by omega)), Lz_off hz1 (fun c a b => o2 c (by omega)), Lc_off hc1 (fun c a b => o2 c (by omega)), Ld_off hL (fun c a b => o2 c (by omega)), fun k hk => ?_⟩
    rw [hma k hk]
  refine Ok.eqb (minutes_l hT) ?_
  refine Ok.inl ?_
  unfold f_L_told_j372
  refine Ok.eqb (complaints_l hT) ?_
  refine Ok.inl ?_
  unfold f_L_told_j439
  refine Ok.bind (settings_l hT) ?_
  rintro o ⟨M3, rfl, hT3, o4⟩
  refine Ok.inl ?_
  unfold f_L_told_j499
  obtain ⟨lev, hlev, elev⟩ := at_l x (n := 141) (by decide) (by decide) M3
  refine Ok.eqb elev ?_
  obtain ⟨pc, hpc, epc⟩ := at_l (x >>> (3 &&& 31)) (n := 100) (by decide) (by decide) M3
  refine Ok.eqb epc ?_
  refine Ok.bind (counted_t (a := 1) hT3 (by decide)) ?_
  rintro r4 ⟨e4, hT4, o5⟩
  rw [show (1 : Int32) + nI pc = nI (1 + pc) from nI_add 1 pc, e4]
  refine Ok.eqb (levels_l hT4 hlev (by omega)) ?_
  unfold f_L_told_j667
  refine Ok.bind (counted_t (a := 4) hT4 (by decide)) ?_
  rintro r5 ⟨e5, hT5, o6⟩
  refine Ok.eqb r930 ?_
  rw [hT5.2.1.2.1]
  obtain ⟨bh, hbh, hbi⟩ := behind_l (a := nI lev) (b := nI (1 + pc)) (c := cN d.1 d.2.1 d.2.2.2.1 d.2.2.1 d.2.2.2.2.1 d.2.2.2.2.2 1) (e := nI (dG d lev)) (f := sPct (nI (1 + pc)) (shB d) (dG d)) (g := r5.1) hT5
  refine Ok.eqb hbh ?_
  unfold f_L_told_j738
  refine Ok.eqb (levelCount_a hT5.1 (by omega)) (Ok.pos rfl ?_)
  refine Ok.eqb (percent_a hT5.1 (by omega)) (Ok.pos rfl ?_)
  refine Ok.eqb (count_a (a := 11) hT5.1 (by omega)) ?_
  refine Ok.eqb (show rd r5.2 94 10 6 = some (r5.2 94 6) from rd_nI (k := 6) (by decide) (by decide)) ?_
  rw [hT5.2.1.2.2.2 6 (by decide), if_neg (show ¬ (11 : Nat) = 10 by decide)]
  have o9 : Off (fun c => 95 ≤ c) M r5.2 := ((o3.tr (o4.mono (fun c hc => by rw [hc]; decide))).tr (o5.mono (fun c hc => by rw [hc]; decide))).tr (o6.mono (fun c hc => by rw [hc]; decide))
  have e11 : cN d.1 d.2.1 d.2.2.2.1 d.2.2.1 d.2.2.2.2.1 d.2.2.2.2.2 11 = if xNa (dgO d) (ddA d) d.2.2.2.2.1 < dgO d then 1 else 0 := rfl
  have last : ∀ s1 : Int32, s1 = cN d.1 d.2.1 d.2.2.2.1 d.2.2.1 d.2.2.2.2.1 d.2.2.2.2.2 11 → Ok (f_L_told_j781 (nI (shB d)) r5.1 (cN d.1 d.2.1 d.2.2.2.1 d.2.2.1 d.2.2.2.2.1 d.2.2.2.2.2 11) s1 r5.2) (fun r => r.1 = 1 ∧ Off (fun c => 95 ≤ c) M r.2) := by
    intro s1 hs1
    have hb := (sh_le h.1).2
    have ha := (sh_le h.1).1
    have hsh := shD_ok h.1
    unfold f_L_told_j781
    refine Ok.pos hs1.symm (Ok.eqb (share_a hT5.1) ?_)
    have fin : ∀ u : UInt64, u = shD d → Ok (f_L_told_j806 (shD d) u r5.2) (fun r => r.1 = 1 ∧ Off (fun c => 95 ≤ c) M r.2) := by
      intro u hu
      subst hu
      unfold f_L_told_j806
      refine Ok.pos ?_ (Ok.of ⟨rfl, o9⟩)
      rw [sh_self hsh.1]
      rfl
    by_cases h0 : shB d = 0
    · refine Ok.pos (by rw [h0]; rfl) (fin 0 ?_)
      unfold shD
      rw [if_pos h0]
    · refine Ok.neg (nI_ne0 (by omega) (by omega)) ?_
      have e9 : r5.1 = nI (shA d) := e5
      rw [e9]
      refine Ok.eqb (one_mul_all ⟨shA d, by omega⟩) ?_
      exact Ok.eqb (hsh.2 h0) (fin _ rfl)
  refine Ok.ite (fun k => last 0 ?_) (fun k => last 1 ?_)
  · rw [e11, if_neg (fun z => (hbi.mpr z) k)]
  · rw [e11, if_pos (hbi.mp k)]
