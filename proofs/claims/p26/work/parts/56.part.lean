/-! the law: what an exceedance is -/
def xAc (g : Nat) (av : Nat → Bool) (op : Nat → Int32 → Int32) : Nat → Nat → Int32
  | 0 => fun _ => 0
  | m + 1 => if av m then upd (xAc g av op m) (xCnt g av (m + 1) - 1) (op m (if xBg g av m then 0 else xAc g av op m (xCnt g av (m + 1) - 1))) else xAc g av op m
theorem xAbo_ac {g : Nat} {av : Nat → Bool} : ∀ m, xAbo g av m = xAc g av (fun _ v => v + 1) m
  | 0 => rfl
  | m + 1 => by
    unfold xAbo xAc
    rw [xAbo_ac m]
theorem xPk_ac {g : Nat} {av : Nat → Bool} {F : Nat → Int32} : ∀ m, xPk g av F m = xAc g av (fun m v => mxI v (F m)) m
  | 0 => rfl
  | m + 1 => by
    unfold xPk xAc
    rw [xPk_ac m]
theorem xWt_ac {g : Nat} {av : Nat → Bool} {T : Nat → Int32} : ∀ m, xWt g av T m = xAc g av (fun m v => v + T m) m
  | 0 => rfl
  | m + 1 => by
    unfold xWt xAc
    rw [xWt_ac m]
/-- the latest one at minute i, where i is above -/
theorem x_latest {g : Nat} {av : Nat → Bool} {n b i : Nat} (hg : 1 ≤ g) (hn : n ≤ 300) (hb : xBg g av b = true) (hbi : b ≤ i) (hi : i < n) (ha : av i = true) : bS g av n i = nI b ↔ xCnt g av (i + 1) - 1 = xCnt g av b := by
  have hpos : 1 ≤ xCnt g av (i + 1) := by
    have := xCnt_lt (n := i + 1) hb (by omega)
    omega
  -- the latest at i
  obtain ⟨b2, p1, p2, p3⟩ := x_ex (g := g) (av := av) (i + 1) (xCnt g av (i + 1) - 1) (by omega)
  have hl : xLst g av (i + 1) (xCnt g av b2) = nI i := by
    show (if av i then upd (xLst g av i) (xCnt g av (i + 1) - 1) (nI i) else xLst g av i) _ = _
    rw [if_pos ha, p3, upd_s]
  have hgrow : ∀ d, i + 1 + d ≤ n → ∃ K, K < i + 1 + d ∧ xLst g av (i + 1 + d) (xCnt g av b2) = nI K ∧ i ≤ K := by
    intro d
    induction d with
    | zero => exact fun _ => ⟨i, by omega, hl, Nat.le_refl _⟩
    | succ d ih =>
      intro hd
      obtain ⟨K, k0, k1, k2⟩ := ih (by omega)
      show ∃ K, K < i + 1 + d + 1 ∧ (if av (i + 1 + d) then upd (xLst g av (i + 1 + d)) (xCnt g av (i + 1 + d + 1) - 1) (nI (i + 1 + d)) else xLst g av (i + 1 + d)) _ = nI K ∧ i ≤ K
      by_cases h9 : av (i + 1 + d)
      · rw [if_pos h9]
        by_cases h8 : xCnt g av b2 = xCnt g av (i + 1 + d + 1) - 1
        · rw [h8, upd_s]
          exact ⟨i + 1 + d, by omega, rfl, by omega⟩
        · rw [upd_n h8]
          exact ⟨K, by omega, k1, k2⟩
      · rw [if_neg h9]
        exact ⟨K, by omega, k1, k2⟩
  obtain ⟨L, hLn, l1, l2⟩ := hgrow (n - (i + 1)) (by omega)
  rw [show i + 1 + (n - (i + 1)) = n by omega] at l1 hLn
  have hin := (b_in hg hn p2 (show b2 < n by omega) l1 hLn (by omega) l2).1
  constructor
  · intro h
    rw [hin] at h
    have := (nI_eq (by omega) (by omega)).mp h
    rw [← this, p3]
  · intro h
    have hbb : b2 = b := x_uni p2 hb (by omega)
    rw [hin, hbb]
/-- a step of what is gathered for one exceedance -/
theorem xAc_s {g : Nat} {av : Nat → Bool} {op : Nat → Int32 → Int32} {n b i : Nat} (hg : 1 ≤ g) (hn : n ≤ 300) (hb : xBg g av b = true) (hbi : b ≤ i) (hi : i < n) :
    xAc g av op (i + 1) (xCnt g av b) = if av i = true ∧ bS g av n i = nI b then op i (if i = b then 0 else xAc g av op i (xCnt g av b)) else (if i = b then 0 else xAc g av op i (xCnt g av b)) := by
  have hbn : b < n := by omega
  have e1 : xAc g av op (i + 1) = if av i then upd (xAc g av op i) (xCnt g av (i + 1) - 1) (op i (if xBg g av i then 0 else xAc g av op i (xCnt g av (i + 1) - 1))) else xAc g av op i := rfl
  rw [e1]
  by_cases hib : i = b
  · subst hib
    have ha := (xBg_b hg hb).1
    have hc := (xBg_b hg hb).2.2
    rw [if_pos ha, hc, Nat.add_sub_cancel, upd_s, if_pos hb, if_pos rfl, if_pos ⟨ha, (b_self hg hn hi).mpr hb⟩]
  · rw [if_neg hib]
    by_cases ha : av i = true
    · rw [if_pos ha]
      have hl := x_latest hg hn hb hbi hi ha
      by_cases hq : xCnt g av (i + 1) - 1 = xCnt g av b
      · have hnb : ¬ xBg g av i = true := by
          intro z
          have z1 := (xBg_b hg z).2.2
          have z2 := xCnt_lt hb (show b < i by omega)
          omega
        rw [if_neg hnb, if_pos (show av i = true ∧ bS g av n i = nI b from ⟨ha, hl.mpr hq⟩), hq, upd_s]
      · rw [if_neg (show ¬ (av i = true ∧ bS g av n i = nI b) from fun z => hq (hl.mp z.2)), upd_n (fun z => hq z.symm)]
    · rw [if_neg ha, if_neg (fun z => ha z.1)]
def pV (lv wd st : Nat → Int32) (n : Nat) (e : Nat) : Nat → Int32
  | 0 => xLst (gO st) (dA lv wd st) n e
  | 1 => xAbo (gO st) (dA lv wd st) n e
  | 2 => xPk (gO st) (dA lv wd st) (dF lv st) n e
  | _ => xWt (gO st) (dA lv wd st) (dT lv st) n e
theorem Ld_Bm {lv wd st : Nat → Int32} {n : Nat} {M : Mem} (hz : Lz lv wd st n M) (hst : stOK st) (h : Ld lv wd st n M) : Bm (gO st) (dA lv wd st) n M := ⟨hz.1, (gO_b hst).2.1, hz.2.1, fun m hm => (h m hm).2.2.2⟩
theorem part_l {lv wd st : Nat → Int32} {n b w : Nat} {M : Mem} (hz : Lz lv wd st n M) (hst : stOK st) (hL : Ld lv wd st n M) (hb : xBg (gO st) (dA lv wd st) b = true) (hbn : b < n) (hw : w ≤ 3) : f_L_part (nI b) (nI w) M = some (pV lv wd st n (xCnt (gO st) (dA lv wd st) b) w) := by
  obtain ⟨hn, hg, hd, h98⟩ := Ld_Bm hz hst hL
  have hst0 := stOK_cong hz.2.2.2.sy hst
  obtain ⟨L, l1, l2, l3⟩ := b_last hg (show n ≤ 300 by omega) hb hbn
  have hmark : ∀ i, b ≤ i → i < n → (bS (gO st) (dA lv wd st) n i = nI b ↔ i ≤ L) := by
    intro i h1 h2
    constructor
    · intro h
      rcases b_mark hg (show n ≤ 300 by omega) h2 with ⟨q1, -⟩ | ⟨b2, L2, q1, q2, q3, q4, q5, q6, q7, -⟩
      · rw [h] at q1
        have := congrArg Int32.toInt q1
        rw [i_nI (by omega)] at this
        have e1 : (-1 : Int32).toInt = -1 := by decide
        omega
      · have := (nI_eq (by omega) (by omega)).mp (h.symm.trans q7)
        subst this
        have := (nI_eq (by omega) (by omega)).mp (l1.symm.trans q3)
        omega
    · intro h
      exact (b_in hg (show n ≤ 300 by omega) hb hbn l1 l2 h1 h).1
  -- what is gathered at minute i
  obtain ⟨vi, hvi, hv0, hvn, hstep⟩ : ∃ vi : Nat → Int32, vi b = 0 ∧ True ∧ vi n = pV lv wd st n (xCnt (gO st) (dA lv wd st) b) w ∧
      (∀ i, b ≤ i → i < n → vi (i + 1) = if bS (gO st) (dA lv wd st) n i = nI b then (if w = 0 then nI i else if dA lv wd st i = true then (if w = 1 then vi i + 1 else if w = 2 then mxI (vi i) (dF lv st i) else vi i + dT lv st i) else vi i) else vi i) := by
    rcases (show w = 0 ∨ w = 1 ∨ w = 2 ∨ w = 3 by omega) with rfl | rfl | rfl | rfl
    · obtain ⟨f, hf⟩ : ∃ f : Nat → Int32, ∀ i, f i = if i ≤ b then 0 else nI (min (i - 1) L) := ⟨_, fun _ => rfl⟩
      refine ⟨f, ?_, trivial, ?_, fun i h1 h2 => ?_⟩
      · rw [hf, if_pos (Nat.le_refl _)]
      · rw [hf, if_neg (show ¬ n ≤ b by omega), show min (n - 1) L = L by omega]
        exact l1.symm
      · rw [hf (i + 1), hf i, if_neg (show ¬ i + 1 ≤ b by omega), Nat.add_sub_cancel]
        by_cases hq : i ≤ L
        · rw [if_pos ((hmark i h1 h2).mpr hq), if_pos (rfl : (0:Nat) = 0), show min i L = i by omega]
        · rw [if_neg (show ¬ bS (gO st) (dA lv wd st) n i = nI b from fun z => hq ((hmark i h1 h2).mp z)), if_neg (show ¬ i ≤ b by omega), show min (i - 1) L = min i L by omega]
    · obtain ⟨f, hf⟩ : ∃ f : Nat → Int32, ∀ i, f i = if i = b then 0 else xAc (gO st) (dA lv wd st) (fun _ v => v + 1) i (xCnt (gO st) (dA lv wd st) b) := ⟨_, fun _ => rfl⟩
      refine ⟨f, ?_, trivial, ?_, fun i h1 h2 => ?_⟩
      · rw [hf, if_pos rfl]
      · rw [hf, if_neg (show ¬ n = b by omega)]
        show _ = xAbo (gO st) (dA lv wd st) n _
        rw [xAbo_ac]
      · rw [hf (i + 1), if_neg (show ¬ i + 1 = b by omega), xAc_s hg (show n ≤ 300 by omega) hb h1 h2, ← hf i]
        by_cases hq : bS (gO st) (dA lv wd st) n i = nI b
        · by_cases ha : dA lv wd st i = true
          · rw [if_pos (show dA lv wd st i = true ∧ bS (gO st) (dA lv wd st) n i = nI b from ⟨ha, hq⟩), if_pos hq, if_neg (show ¬ (1:Nat) = 0 by decide), if_pos ha, if_pos (rfl : (1:Nat) = 1)]
          · rw [if_neg (show ¬ (dA lv wd st i = true ∧ bS (gO st) (dA lv wd st) n i = nI b) from fun z => ha z.1), if_pos hq, if_neg (show ¬ (1:Nat) = 0 by decide), if_neg ha]
        · rw [if_neg (show ¬ (dA lv wd st i = true ∧ bS (gO st) (dA lv wd st) n i = nI b) from fun z => hq z.2), if_neg hq]
    · obtain ⟨f, hf⟩ : ∃ f : Nat → Int32, ∀ i, f i = if i = b then 0 else xAc (gO st) (dA lv wd st) (fun m v => mxI v (dF lv st m)) i (xCnt (gO st) (dA lv wd st) b) := ⟨_, fun _ => rfl⟩
      refine ⟨f, ?_, trivial, ?_, fun i h1 h2 => ?_⟩
      · rw [hf, if_pos rfl]
      · rw [hf, if_neg (show ¬ n = b by omega)]
        show _ = xPk (gO st) (dA lv wd st) (dF lv st) n _
        rw [xPk_ac]
      · rw [hf (i + 1), if_neg (show ¬ i + 1 = b by omega), xAc_s hg (show n ≤ 300 by omega) hb h1 h2, ← hf i]
        by_cases hq : bS (gO st) (dA lv wd st) n i = nI b
        · by_cases ha : dA lv wd st i = true
          · rw [if_pos (show dA lv wd st i = true ∧ bS (gO st) (dA lv wd st) n i = nI b from ⟨ha, hq⟩), if_pos hq, if_neg (show ¬ (2:Nat) = 0 by decide), if_pos ha, if_neg (show ¬ (2:Nat) = 1 by decide), if_pos (rfl : (2:Nat) = 2)]
          · rw [if_neg (show ¬ (dA lv wd st i = true ∧ bS (gO st) (dA lv wd st) n i = nI b) from fun z => ha z.1), if_pos hq, if_neg (show ¬ (2:Nat) = 0 by decide), if_neg ha]
        · rw [if_neg (show ¬ (dA lv wd st i = true ∧ bS (gO st) (dA lv wd st) n i = nI b) from fun z => hq z.2), if_neg hq]
    · obtain ⟨f, hf⟩ : ∃ f : Nat → Int32, ∀ i, f i = if i = b then 0 else xAc (gO st) (dA lv wd st) (fun m v => v + dT lv st m) i (xCnt (gO st) (dA lv wd st) b) := ⟨_, fun _ => rfl⟩
      refine ⟨f, ?_, trivial, ?_, fun i h1 h2 => ?_⟩
      · rw [hf, if_pos rfl]
      · rw [hf, if_neg (show ¬ n = b by omega)]
        show _ = xWt (gO st) (dA lv wd st) (dT lv st) n _
        rw [xWt_ac]
      · rw [hf (i + 1), if_neg (show ¬ i + 1 = b by omega), xAc_s hg (show n ≤ 300 by omega) hb h1 h2, ← hf i]
        by_cases hq : bS (gO st) (dA lv wd st) n i = nI b
        · by_cases ha : dA lv wd st i = true
          · rw [if_pos (show dA lv wd st i = true ∧ bS (gO st) (dA lv wd st) n i = nI b from ⟨ha, hq⟩), if_pos hq, if_neg (show ¬ (3:Nat) = 0 by decide), if_pos ha, if_neg (show ¬ (3:Nat) = 1 by decide), if_neg (show ¬ (3:Nat) = 2 by decide)]
          · rw [if_neg (show ¬ (dA lv wd st i = true ∧ bS (gO st) (dA lv wd st) n i = nI b) from fun z => ha z.1), if_pos hq, if_neg (show ¬ (3:Nat) = 0 by decide), if_neg ha]
        · rw [if_neg (show ¬ (dA lv wd st i = true ∧ bS (gO st) (dA lv wd st) n i = nI b) from fun z => hq z.2), if_neg hq]
  have key : Ok (f_L_part (nI b) (nI w) M) (fun r => r = vi n) := by
    unfold f_L_part
    refine Ok.bind (P := fun r => r = vi n) ?_ (fun r h => Ok.of h)
    refine loop_FU (fun j z => z.1 = vi (b + j) ∧ z.2 = nI (b + j)) _ (n - b) (by omega) ?_ ?_ ⟨hvi.symm, rfl⟩
    · rintro j ⟨v, k⟩ hj ⟨h1, h2⟩
      dsimp only at h1 h2
      subst h1; subst h2
      have hi : b + j < n := by omega
      have hs := hstep (b + j) (by omega) hi
      obtain ⟨a5, a6, a7, a8⟩ := hL (b + j) hi
      unfold f_L_part_l6
      dsimp only
      refine Ok.eqb (show rd M 93 2 0 = some (M 93 0) from rd_nI (k := 0) (by decide) (by decide)) ?_
      rw [hd]
      refine Ok.neg (nI_ge hi (by omega)) ?_
      refine Ok.eqb (rd_nI (by omega) (by decide)) ?_
      rw [a8]
      have fin : ∀ v : Int32, v = vi (b + j + 1) → Ok (f_L_part_j133 (nI b) (nI w) v (nI (b + j)) M) (fun o => Sum.elim (fun z => z.1 = vi (b + (j + 1)) ∧ z.2 = nI (b + (j + 1))) (fun r => r = vi n) o) := fun v hv => by
        unfold f_L_part_j133
        exact Ok.of ⟨hv, nI_1 _⟩
      refine Ok.ite (fun c => ?_) (fun c => ?_)
      · rw [if_pos c] at hs
        refine Ok.eqb (rd_nI (by omega) (by decide)) ?_
        rw [a7]
        have hda : dA lv wd st (b + j) = decide (sWhy lv wd st (b + j) = 0) := rfl
        have go : ∀ s0 : Int32, (s0 = if dA lv wd st (b + j) = true then 1 else 0) → Ok (f_L_part_j39 (nI b) (nI w) (vi (b + j)) (nI (b + j)) s0 M) (fun o => Sum.elim (fun z => z.1 = vi (b + (j + 1)) ∧ z.2 = nI (b + (j + 1))) (fun r => r = vi n) o) := by
          intro s0 hs0
          unfold f_L_part_j39 f_L_part_j67 f_L_part_j99 f_L_part_j130 f_L_part_j131
          rcases (show w = 0 ∨ w = 1 ∨ w = 2 ∨ w = 3 by omega) with rfl | rfl | rfl | rfl
          · refine Ok.pos rfl (fin _ ?_)
            rw [hs, if_pos rfl]
          · rw [if_neg (by decide)] at hs
            refine Ok.neg (by decide) (Ok.pos rfl ?_)
            by_cases ha : dA lv wd st (b + j) = true
            · rw [if_pos ha] at hs hs0
              refine Ok.neg (by rw [hs0]; decide) (fin _ ?_)
              rw [hs, if_pos rfl]
            · rw [if_neg ha] at hs hs0
              refine Ok.pos hs0 (fin _ ?_)
              rw [hs]
              exact Int32.add_zero _
          · rw [if_neg (by decide)] at hs
            refine Ok.neg (by decide) (Ok.neg (by decide) (Ok.pos rfl ?_))
            by_cases ha : dA lv wd st (b + j) = true
            · rw [if_pos ha, if_neg (by decide), if_pos rfl] at hs
              rw [if_pos ha] at hs0
              refine Ok.neg (by rw [hs0]; decide) ?_
              refine Ok.eqb (rd_nI (by omega) (by decide)) ?_
              rw [a5]
              refine Ok.ite (fun c2 => fin _ ?_) (fun c2 => ?_)
              · rw [hs]
                unfold mxI
                rw [if_neg (n_lt' c2)]
              · refine Ok.eqb (rd_nI (by omega) (by decide)) (fin _ ?_)
                rw [a5, hs]
                unfold mxI
                rw [if_pos (lt_n c2)]
            · rw [if_neg ha] at hs hs0
              exact Ok.pos hs0 (fin _ hs.symm)
          · rw [if_neg (by decide)] at hs
            refine Ok.neg (by decide) (Ok.neg (by decide) (Ok.neg (by decide) ?_))
            by_cases ha : dA lv wd st (b + j) = true
            · rw [if_pos ha, if_neg (by decide), if_neg (by decide)] at hs
              rw [if_pos ha] at hs0
              refine Ok.neg (by rw [hs0]; decide) ?_
              refine Ok.eqb (rd_nI (by omega) (by decide)) ?_
              refine Ok.eqb (limit_l hst0 (by omega)) (fin _ ?_)
              rw [a6, sLim_cong hz.2.2.2, hs]
              rfl
            · rw [if_neg ha] at hs hs0
              refine Ok.pos hs0 (fin _ ?_)
              rw [hs]
              exact Int32.add_zero _
        refine Ok.ite (fun c2 => go 1 ?_) (fun c2 => go 0 ?_)
        · rw [hda, decide_eq_true c2, if_pos rfl]
        · rw [hda, decide_eq_false c2, if_neg (by decide)]
      · rw [if_neg c] at hs
        exact fin _ hs.symm
    · rintro ⟨v, k⟩ ⟨h1, h2⟩
      dsimp only at h1 h2
      subst h1; subst h2
      rw [show b + (n - b) = n by omega]
      unfold f_L_part_l6
      dsimp only
      refine Ok.eqb (show rd M 93 2 0 = some (M 93 0) from rd_nI (k := 0) (by decide) (by decide)) ?_
      rw [hd]
      exact Ok.pos (nI_le (Nat.le_refl _) (by omega)) (Ok.of rfl)
  obtain ⟨r, h1, h2⟩ := key
  rw [h1, h2, hvn]
