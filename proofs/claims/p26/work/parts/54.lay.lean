/-! the law lays arms, reasons and first minutes -/
theorem rest_l {M : Mem} {m : Nat} (hst : stOK (M 94)) (hm : m ≤ 1000) : f_L_rest (nI m) M = some (if sRest (M 94) m then 1 else 0) := by
  unfold f_L_rest
  have h2 := hst.2.2.1
  have h3 := hst.2.2.2.1
  rw [show rmI (nI m) 60 = some (nI (m % 60)) from rm_n (n := 60) (by omega) (by decide) (by decide), Option.bind_some, show rd M 94 10 2 = some (M 94 2) from rd_nI (k := 2) (by decide) (by decide), Option.bind_some]
  have e1 : (nI (m % 60) - M 94 2).toInt = ((m % 60 : Nat) : Int) - (M 94 2).toInt := by
    rw [i_sub] <;> rw [i_nI (by omega)] <;> omega
  have e0 : (0 : Int32).toInt = 0 := rfl
  have e60 : (60 : Int32).toInt = 60 := rfl
  have fin : ∀ v : Int32, v.toInt = ((m : Int) - (M 94 2).toInt) % 60 → f_L_rest_j16 v M = some (if sRest (M 94) m then 1 else 0) := by
    intro v hv
    unfold f_L_rest_j16
    rw [show rd M 94 10 3 = some (M 94 3) from rd_nI (k := 3) (by decide) (by decide), Option.bind_some]
    by_cases h : sRest (M 94) m
    · rw [if_pos h, if_neg]
      intro q
      have := i_le.mp q
      unfold sRest at h
      omega
    · rw [if_neg h, if_pos]
      refine i_le.mpr ?_
      unfold sRest at h
      omega
  by_cases h0 : 0 ≤ nI (m % 60) - M 94 2
  · rw [if_pos h0]
    have := i_le.mp h0
    exact fin _ (by rw [e1]; omega)
  · rw [if_neg h0]
    have h1 : ¬ (0 : Int32).toInt ≤ (nI (m % 60) - M 94 2).toInt := fun q => h0 (i_le.mpr q)
    refine fin _ ?_
    have e2 : (nI (m % 60) - M 94 2 + 60).toInt = ((m % 60 : Nat) : Int) - (M 94 2).toInt + 60 := by
      rw [i_add] <;> rw [e1, e60] <;> omega
    rw [e2]
    omega
theorem limit_l {M : Mem} {m : Nat} (hst : stOK (M 94)) (hm : m ≤ 1000) : f_L_limit (nI m) M = some (sLim (M 94) m) := by
  unfold f_L_limit sLim
  rw [rest_l hst hm, Option.bind_some]
  by_cases h : sRest (M 94) m
  · rw [if_pos h, if_pos h, if_neg (by decide), show rd M 94 10 1 = some (M 94 1) from rd_nI (k := 1) (by decide) (by decide)]
    rfl
  · rw [if_neg h, if_neg h, if_pos rfl, show rd M 94 10 0 = some (M 94 0) from rd_nI (k := 0) (by decide) (by decide)]
    rfl
theorem dvI_t {a t : Int32} (ht : 1 ≤ t.toInt) : dvI a t = some (a / t) := by
  unfold dvI
  rw [if_neg]
  intro q
  rw [q] at ht
  exact absurd ht (by decide)
/-- minutes as the law keeps them -/
def Lz (lv wd st : Nat → Int32) (n : Nat) (M : Mem) : Prop := n ≤ 60 ∧ M 93 0 = nI n ∧ (∀ m, m < n → M 90 m = lv m ∧ M 91 m = wd m) ∧ st10 (M 94) st
abbrev lCells : Nat → Prop := fun c => 95 ≤ c ∧ c ≤ 98
/-- what lay has laid -/
def Ld (lv wd st : Nat → Int32) (n : Nat) (M : Mem) : Prop := ∀ m, m < n → M 95 m = dF lv st m ∧ M 96 m = dS lv st m ∧ M 97 m = sWhy lv wd st m ∧ M 98 m = bS (gO st) (dA lv wd st) n m
theorem Lz_off {lv wd st : Nat → Int32} {n : Nat} {M M' : Mem} (h : Lz lv wd st n M) (ho : ∀ c, 90 ≤ c → c ≤ 94 → M' c = M c) : Lz lv wd st n M' := by
  unfold Lz
  rw [ho 90 (by omega) (by omega), ho 91 (by omega) (by omega), ho 93 (by omega) (by omega), ho 94 (by omega) (by omega)]
  exact h
theorem Ld_off {lv wd st : Nat → Int32} {n : Nat} {M M' : Mem} (h : Ld lv wd st n M) (ho : ∀ c, 95 ≤ c → c ≤ 98 → M' c = M c) : Ld lv wd st n M' := by
  unfold Ld
  rw [ho 95 (by omega) (by omega), ho 96 (by omega) (by omega), ho 97 (by omega) (by omega), ho 98 (by omega) (by omega)]
  exact h
def wv (s : Nat) : Int32 := if s = 0 then -100 else nI (s - 1)
theorem wv_le {s i : Nat} {cal : Int32} (hs : s ≤ i) (hi : i < 1000) (hc : 0 ≤ cal.toInt ∧ cal.toInt ≤ 20) : cal < nI i - wv s ↔ ¬ (0 < s ∧ i + 1 ≤ s + cal.toInt.toNat) := by
  have e : (nI i - wv s).toInt = (i : Int) - (if s = 0 then -100 else (s : Int) - 1) := by
    unfold wv
    by_cases h0 : s = 0
    · rw [if_pos h0, if_pos h0]
      have : (-100 : Int32).toInt = -100 := by decide
      rw [i_sub] <;> rw [i_nI (by omega), this] <;> omega
    · rw [if_neg h0, if_neg h0]
      rw [i_sub] <;> rw [i_nI (by omega), i_nI (by omega)] <;> omega
  rw [i_lt, e]
  split <;> omega
/-- the law's loop, before minute i -/
def LI (lv wd st : Nat → Int32) (M : Mem) (i : Nat) (z : Int32 × Int32 × Int32 × Int32 × Int32 × Int32 × Mem) : Prop :=
  z.1 = sArm lv (st 8) i ∧ z.2.1 = sArm lv (st 9) i ∧ z.2.2.1 = wv (sLw wd st i) ∧ z.2.2.2.1 = fvL (gO st) (dA lv wd st) i ∧ z.2.2.2.2.1 = lvL (gO st) (dA lv wd st) i ∧ z.2.2.2.2.2.1 = nI i ∧
  (∀ m, m < i → z.2.2.2.2.2.2 95 m = dF lv st m ∧ z.2.2.2.2.2.2 96 m = dS lv st m ∧ z.2.2.2.2.2.2 97 m = sWhy lv wd st m) ∧ (∀ m, m < i → z.2.2.2.2.2.2 98 m = bS (gO st) (dA lv wd st) i m) ∧ Off lCells M z.2.2.2.2.2.2
/-- behind the reason: the first minutes are marked -/
theorem lay_be {lv wd st : Nat → Int32} {M N : Mem} {n i : Nat} (hn : n ≤ 60) (hi : i < n) (hst : stOK st) (hg : st10 (M 94) st)
    (h7 : ∀ m, m < i → N 95 m = dF lv st m ∧ N 96 m = dS lv st m ∧ N 97 m = sWhy lv wd st m) (a5 : N 95 i = dF lv st i) (a6 : N 96 i = dS lv st i) (h8 : ∀ m, m < i → N 98 m = bS (gO st) (dA lv wd st) i m) (a8 : N 98 i = -1) (h9 : Off lCells M N) {x : Int32} (hx : x = sWhy lv wd st i) (hlw : x = 0 → True) :
    Ok (f_L_lay_j161 (sArm lv (st 8) (i + 1)) (sArm lv (st 9) (i + 1)) (wv (sLw wd st (i + 1))) (fvL (gO st) (dA lv wd st) i) (lvL (gO st) (dA lv wd st) i) (nI i) (nI i) x N) (fun o => Sum.elim (fun z => LI lv wd st M (i + 1) z) (fun M' => Ld lv wd st n M' ∧ Off lCells M M') o) := by
  have hgo := gO_b hst
  have hx3 : x = 0 ∨ x = 1 ∨ x = 2 ∨ x = 3 := by
    rw [hx]
    unfold sWhy
    split
    · exact Or.inr (Or.inl rfl)
    · split
      · exact Or.inr (Or.inr (Or.inl rfl))
      · split
        · exact Or.inr (Or.inr (Or.inr rfl))
        · exact Or.inl rfl
  have hda : dA lv wd st i = decide (x = 0) := by
    unfold dA
    rw [hx]
  unfold f_L_lay_j161
  refine Ok.eqb (wr_nI (by omega) (by decide)) ?_
  have hN0 : ∀ c, c ≠ 97 → mset N 97 i x c = N c := fun c hc => mset_o hc
  have b7 : ∀ m, m < i + 1 → mset N 97 i x 95 m = dF lv st m ∧ mset N 97 i x 96 m = dS lv st m ∧ mset N 97 i x 97 m = sWhy lv wd st m := fun m hm => by
    rw [hN0 95 (by decide), hN0 96 (by decide)]
    by_cases hmi : m = i
    · subst hmi
      rw [mset_s]
      exact ⟨a5, a6, hx⟩
    · rw [mset_n hmi]
      exact h7 m (by omega)
  have b8 : ∀ m, m < i → mset N 97 i x 98 m = bS (gO st) (dA lv wd st) i m := fun m hm => by rw [hN0 98 (by decide)]; exact h8 m hm
  have c8 : mset N 97 i x 98 i = -1 := by rw [hN0 98 (by decide)]; exact a8
  have b9 : Off lCells M (mset N 97 i x) := h9.set (by show 95 ≤ 97 ∧ 97 ≤ 98; omega)
  have r97 : mset N 97 i x 97 i = x := mset_s
  generalize mset N 97 i x = K at b7 b8 c8 b9 r97 ⊢
  clear h7 h8 a8 h9 a5 a6 hN0
  refine Ok.eqb (rd_nI (by omega) (by decide)) ?_
  rw [r97]
  have fin : ∀ (f l : Int32) (K' : Mem), f = fvL (gO st) (dA lv wd st) (i + 1) → l = lvL (gO st) (dA lv wd st) (i + 1) → (∀ c, c ≠ 98 → K' c = K c) → (∀ m, m < i + 1 → K' 98 m = bS (gO st) (dA lv wd st) (i + 1) m) →
      Ok (f_L_lay_j236 (sArm lv (st 8) (i + 1)) (sArm lv (st 9) (i + 1)) (wv (sLw wd st (i + 1))) f l (nI i) K') (fun o => Sum.elim (fun z => LI lv wd st M (i + 1) z) (fun M' => Ld lv wd st n M' ∧ Off lCells M M') o) := by
    intro f l K' hf hl ho h98
    unfold f_L_lay_j236
    refine Ok.of ⟨rfl, rfl, rfl, hf, hl, nI_1 i, fun m hm => ?_, h98, fun c hc => ?_⟩
    · dsimp only
      rw [ho 95 (by decide), ho 96 (by decide), ho 97 (by decide)]
      exact b7 m hm
    · show K' c = M c
      rw [ho c (fun q => hc (by rw [q]; show 95 ≤ 98 ∧ 98 ≤ 98; omega))]
      exact b9 c hc
  by_cases h0 : x = 0
  · rw [h0] at hda
    have hda : dA lv wd st i = true := hda
    refine Ok.pos (by rw [h0]; decide) ?_
    have begin_ : xBg (gO st) (dA lv wd st) i = true → Ok (f_L_lay_j192 (sArm lv (st 8) (i + 1)) (sArm lv (st 9) (i + 1)) (wv (sLw wd st (i + 1))) (nI i) K) (fun o => Sum.elim (fun z => LI lv wd st M (i + 1) z) (fun M' => Ld lv wd st n M' ∧ Off lCells M M') o) := by
      intro hb
      obtain ⟨q1, q2, q3, q4⟩ := bS_b hgo.2.1 (i := i) (by omega) hb
      unfold f_L_lay_j192 f_L_lay_j225
      refine Ok.eqb (wr_nI (by omega) (by decide)) ?_
      refine fin _ _ _ q1.symm q2.symm (fun c hc => mset_o hc) (fun m hm => ?_)
      by_cases hmi : m = i
      · subst hmi
        rw [mset_s, q4]
      · rw [mset_n hmi, q3 m (by omega)]
        exact b8 m (by omega)
    by_cases hc0 : xCnt (gO st) (dA lv wd st) i = 0
    · refine Ok.pos ((fv_neg hgo.2.1 (by omega)).mpr hc0) (begin_ ?_)
      rw [xBg_iff hda, xNa_0 i hc0]
      exact decide_eq_true (by omega)
    · refine Ok.neg (fun q => hc0 ((fv_neg hgo.2.1 (by omega)).mp q)) ?_
      refine Ok.eqb (show rd K 94 10 6 = some (K 94 6) from rd_nI (k := 6) (by decide) (by decide)) ?_
      rw [b9 94 (by show ¬ (95 ≤ 94 ∧ _); omega), hg 6 (by decide), hgo.1, lv_gap hgo.2.1 (by omega) (by omega)]
      have hnai := (xNa_1 hgo.2.1 i (show 1 ≤ xCnt (gO st) (dA lv wd st) i by omega)).1
      refine Ok.ite (fun c => ?_) (fun c => ?_)
      · have hc := (n_lt (by omega) (by omega)).mp c
        have hb : xBg (gO st) (dA lv wd st) i = false := by
          rw [xBg_iff hda]
          exact decide_eq_false (by omega)
        obtain ⟨q1, q2, q3, q4, q5, q6, q7, a, q8, q9⟩ := bS_c hgo.2.1 (i := i) (by omega) hb hda
        have elv : lvL (gO st) (dA lv wd st) i + 1 = nI (i - xNa (gO st) (dA lv wd st) i) := by
          unfold lvL
          rw [if_neg hc0, nI_1]
          exact congrArg nI (by omega)
        rw [elv]
        generalize hna : xNa (gO st) (dA lv wd st) i = na at q3 q6 q7 hnai ⊢
        refine Ok.bind (P := fun K' : Mem => (∀ c, c ≠ 98 → K' c = K c) ∧ (∀ m, m < i → K' 98 m = if i ≤ m + na then fvL (gO st) (dA lv wd st) i else bS (gO st) (dA lv wd st) i m)) ?_ ?_
        · refine loop_FU (fun j z => z.1 = nI (i - na + j) ∧ (∀ c, c ≠ 98 → z.2 c = K c) ∧ (∀ m, m < i → z.2 98 m = if i ≤ m + na ∧ m < i - na + j then fvL (gO st) (dA lv wd st) i else bS (gO st) (dA lv wd st) i m)) _ na (by omega) ?_ ?_ ⟨rfl, fun c _ => rfl, fun m hm => ?_⟩
          · rintro j ⟨k, K'⟩ hj ⟨g1, g2, g3⟩
            dsimp only at g1 g2 g3
            subst g1
            unfold f_L_lay_l205
            dsimp only
            refine Ok.neg (nI_ge (by omega) (by omega)) ?_
            refine Ok.eqb (wr_nI (by omega) (by decide)) (Ok.of ⟨nI_1 _, fun c hc => ?_, fun m hm => ?_⟩)
            · dsimp only
              rw [mset_o hc]
              exact g2 c hc
            · dsimp only
              by_cases hmk : m = i - na + j
              · rw [hmk, mset_s, if_pos ⟨by omega, by omega⟩]
              · rw [mset_n hmk, g3 m hm]
                by_cases hq : i ≤ m + na ∧ m < i - na + j
                · rw [if_pos hq, if_pos ⟨hq.1, by omega⟩]
                · rw [if_neg hq, if_neg (by omega)]
          · rintro ⟨k, K'⟩ ⟨g1, g2, g3⟩
            dsimp only at g1 g2 g3
            subst g1
            unfold f_L_lay_l205
            dsimp only
            refine Ok.pos (nI_le (by omega) (by omega)) (Ok.of ⟨g2, fun m hm => ?_⟩)
            rw [g3 m hm]
            by_cases hq : i ≤ m + na
            · rw [if_pos ⟨hq, by omega⟩, if_pos hq]
            · rw [if_neg (fun z => hq z.1), if_neg hq]
          · dsimp only
            rw [if_neg (by omega)]
            exact b8 m hm
        · rintro K' ⟨g1, g2⟩
          unfold f_L_lay_j225
          refine Ok.eqb (wr_nI (by omega) (by decide)) ?_
          refine fin _ _ _ q4.symm q5.symm (fun c hc => by rw [mset_o hc]; exact g1 c hc) (fun m hm => ?_)
          by_cases hmi : m = i
          · subst hmi
            rw [mset_s, q7 m (by omega) (Nat.le_refl _)]
          · rw [mset_n hmi, g2 m (by omega)]
            by_cases hq : i ≤ m + na
            · rw [if_pos hq, q7 m hq (by omega)]
            · rw [if_neg hq, q6 m (by omega)]
      · refine begin_ ?_
        rw [xBg_iff hda]
        refine decide_eq_true ?_
        have : ¬ xNa (gO st) (dA lv wd st) i < gO st := fun q => c ((n_lt (by omega) (by omega)).mpr q)
        omega
  · have hda : dA lv wd st i = false := by rw [hda]; exact decide_eq_false h0
    obtain ⟨q1, q2, q3, q4⟩ := bS_n hgo.2.1 (i := i) (by omega) hda
    refine Ok.neg (by rcases hx3 with h | h | h | h <;> rw [h] <;> first | (exact absurd h h0) | decide) ?_
    refine fin _ _ _ q1.symm q2.symm (fun c _ => rfl) (fun m hm => ?_)
    rw [q3]
    by_cases hmi : m = i
    · subst hmi
      rw [q4]
      exact c8
    · exact b8 m (by omega)
theorem lay_l {lv wd st : Nat → Int32} {n : Nat} {M : Mem} (hz : Lz lv wd st n M) (hst : stOK st) : Ok (f_L_lay M) (fun M' => Ld lv wd st n M' ∧ Off lCells M M') := by
  obtain ⟨hn, hd, hm, hg⟩ := hz
  have hst0 := stOK_cong hg.sy hst
  unfold f_L_lay
  refine Ok.bind (P := fun M' => Ld lv wd st n M' ∧ Off lCells M M') ?_ (fun M' h => Ok.of h)
  refine loop_FU (fun i z => LI lv wd st M i z) _ n (by omega) ?_ ?_ ⟨rfl, rfl, rfl, rfl, rfl, rfl, fun m hm => absurd hm (Nat.not_lt_zero m), fun m hm => absurd hm (Nat.not_lt_zero m), Off.rf⟩
  · rintro i ⟨fa, sl, wi, fi, la, j, N⟩ hi ⟨h1, h2, h3, h4, h5, h6, h7, h8, h9⟩
    dsimp only at h1 h2 h3 h4 h5 h6 h7 h8 h9
    subst h1; subst h2; subst h3; subst h4; subst h5; subst h6
    have o9 : ∀ c, c < 95 → N c = M c := fun c hc => h9 c (by show ¬ (95 ≤ c ∧ _); omega)
    have hlv := (hm i hi).1
    have hwd := (hm i hi).2
    unfold f_L_lay_l20
    dsimp only
    refine Ok.eqb (show rd N 93 2 0 = some (N 93 0) from rd_nI (k := 0) (by decide) (by decide)) ?_
    rw [o9 93 (by decide), hd]
    refine Ok.neg (nI_ge hi (by omega)) ?_
    refine Ok.eqb (rd_nI (by omega) (by decide)) ?_
    refine Ok.eqb (show rd N 94 10 8 = some (N 94 8) from rd_nI (k := 8) (by decide) (by decide)) ?_
    rw [o9 90 (by decide), o9 94 (by decide), hlv, hg 8 (by decide)]
    refine Ok.eqb (dvI_t hst.2.2.2.2.2.2.2.2.1.1) ?_
    refine Ok.eqb (rd_nI (by omega) (by decide)) ?_
    refine Ok.eqb (show rd N 94 10 9 = some (N 94 9) from rd_nI (k := 9) (by decide) (by decide)) ?_
    rw [o9 90 (by decide), o9 94 (by decide), hlv, hg 9 (by decide)]
    refine Ok.eqb (dvI_t hst.2.2.2.2.2.2.2.2.2.1) ?_
    refine Ok.eqb (wr_nI (by omega) (by decide)) ?_
    refine Ok.eqb (wr_nI (by omega) (by decide)) ?_
    refine Ok.eqb (wr_nI (by omega) (by decide)) ?_
    rw [show sArm lv (st 8) i + (10 * lv i - sArm lv (st 8) i) / st 8 = sArm lv (st 8) (i + 1) from rfl, show sArm lv (st 9) i + (10 * lv i - sArm lv (st 9) i) / st 9 = sArm lv (st 9) (i + 1) from rfl]
    obtain ⟨K, hK⟩ : ∃ K, K = mset (mset (mset N 95 i (sArm lv (st 8) (i + 1))) 96 i (sArm lv (st 9) (i + 1))) 98 i (-1) := ⟨_, rfl⟩
    rw [← hK]
    have k9 : Off lCells M K := by rw [hK]; exact ((h9.set (by show 95 ≤ 95 ∧ 95 ≤ 98; omega)).set (by show 95 ≤ 96 ∧ 96 ≤ 98; omega)).set (by show 95 ≤ 98 ∧ 98 ≤ 98; omega)
    have k95 : K 95 = upd (N 95) i (dF lv st i) := by rw [hK, mset_o (by decide), mset_o (by decide), mset_r]; rfl
    have k96 : K 96 = upd (N 96) i (dS lv st i) := by rw [hK, mset_o (by decide), mset_r, mset_o (by decide)]; rfl
    have k97 : K 97 = N 97 := by rw [hK, mset_o (by decide), mset_o (by decide), mset_o (by decide)]
    have k98 : K 98 = upd (N 98) i (-1) := by rw [hK, mset_r, mset_o (by decide), mset_o (by decide)]
    clear hK
    have o8 : ∀ c, c < 95 → K c = M c := fun c hc => k9 c (by show ¬ (95 ≤ c ∧ _); omega)
    refine Ok.eqb (rd_nI (by omega) (by decide)) ?_
    refine Ok.eqb (show rd K 94 10 4 = some (K 94 4) from rd_nI (k := 4) (by decide) (by decide)) ?_
    rw [o8 91 (by decide), o8 94 (by decide), hwd, hg 4 (by decide)]
    have hlw := sLw_le wd st i
    have go : ∀ x : Int32, x = sWhy lv wd st i → Ok (f_L_lay_j161 (sArm lv (st 8) (i + 1)) (sArm lv (st 9) (i + 1)) (wv (sLw wd st (i + 1))) (fvL (gO st) (dA lv wd st) i) (lvL (gO st) (dA lv wd st) i) (nI i) (nI i) x K) (fun o => Sum.elim (fun z => LI lv wd st M (i + 1) z) (fun M' => Ld lv wd st n M' ∧ Off lCells M M') o) := by
      intro x hx
      refine lay_be hn hi hst hg (fun m hm => ?_) ?_ ?_ (fun m hm => ?_) ?_ k9 hx (fun _ => trivial)
      · rw [k95, k96, k97, upd_n (by omega), upd_n (by omega)]
        exact h7 m hm
      · rw [k95, upd_s]
      · rw [k96, upd_s]
      · rw [k98, upd_n (by omega)]
        exact h8 m hm
      · rw [k98, upd_s]
    unfold f_L_lay_j103
    refine Ok.ite (fun c => ?_) (fun c => ?_)
    · have hno : ¬ st 4 ≤ wd i := n_le' c
      have hL : sLw wd st (i + 1) = sLw wd st i := by
        show (if st 4 ≤ wd i then i + 1 else sLw wd st i) = _
        rw [if_neg hno]
      rw [hL] at go
      refine Ok.pos rfl ?_
      unfold f_L_lay_j114
      refine Ok.pos rfl ?_
      refine Ok.eqb (show rd K 94 10 5 = some (K 94 5) from rd_nI (k := 5) (by decide) (by decide)) ?_
      rw [o8 94 (by decide), hg 5 (by decide)]
      have hwv := wv_le hlw (show i < 1000 by omega) hst.2.2.2.2.2.1
      refine Ok.ite (fun c2 => ?_) (fun c2 => ?_)
      · have hb := hwv.mp c2
        refine Ok.eqb (limit_l (by rw [o8 94 (by decide)]; exact hst0) (by omega)) ?_
        rw [o8 94 (by decide), sLim_cong hg]
        refine Ok.ite (fun c3 => go 3 ?_) (fun c3 => go 0 ?_)
        · unfold sWhy
          rw [if_neg hno, if_neg hb, if_pos c3]
        · unfold sWhy
          rw [if_neg hno, if_neg hb, if_neg c3]
      · have hb : 0 < sLw wd st i ∧ i + 1 ≤ sLw wd st i + (st 5).toInt.toNat := Classical.byContradiction fun q => c2 (hwv.mpr q)
        refine go 2 ?_
        unfold sWhy
        rw [if_neg hno, if_pos hb]
    · have hyes : st 4 ≤ wd i := le_n c
      have hL : sLw wd st (i + 1) = i + 1 := by
        show (if st 4 ≤ wd i then i + 1 else sLw wd st i) = _
        rw [if_pos hyes]
      rw [hL, show wv (i + 1) = nI i by unfold wv; rw [if_neg (by omega), Nat.add_sub_cancel]] at go
      refine Ok.neg (by decide) ?_
      unfold f_L_lay_j114
      refine Ok.neg (by decide) (go 1 ?_)
      unfold sWhy
      rw [if_pos hyes]
  · rintro ⟨fa, sl, wi, fi, la, j, N⟩ ⟨h1, h2, h3, h4, h5, h6, h7, h8, h9⟩
    dsimp only at h6 h7 h8 h9
    subst h6
    unfold f_L_lay_l20
    dsimp only
    refine Ok.eqb (show rd N 93 2 0 = some (N 93 0) from rd_nI (k := 0) (by decide) (by decide)) ?_
    rw [h9 93 (by show ¬ (95 ≤ 93 ∧ _); omega), hd]
    refine Ok.pos (nI_le (Nat.le_refl _) (by omega)) (Ok.of ⟨fun m hm => ?_, h9⟩)
    obtain ⟨g1, g2, g3⟩ := h7 m hm
    exact ⟨g1, g2, g3, h8 m hm⟩
