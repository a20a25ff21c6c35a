/-! what a view holds -/
def st10 (st st' : Nat → Int32) : Prop := ∀ k, k < 10 → st k = st' k
theorem st10.sy {st st' : Nat → Int32} (h : st10 st st') : st10 st' st := fun k hk => (h k hk).symm
theorem stOK_cong {st st' : Nat → Int32} (h : st10 st st') (hs : stOK st) : stOK st' := by
  unfold stOK at hs ⊢
  rw [← h 0 (by decide), ← h 1 (by decide), ← h 2 (by decide), ← h 3 (by decide), ← h 4 (by decide), ← h 5 (by decide), ← h 6 (by decide), ← h 7 (by decide), ← h 8 (by decide), ← h 9 (by decide)]
  exact hs
theorem sRest_cong {st st' : Nat → Int32} (h : st10 st st') (m : Nat) : sRest st m = sRest st' m := by
  unfold sRest
  rw [h 2 (by decide), h 3 (by decide)]
theorem sLim_cong {st st' : Nat → Int32} (h : st10 st st') (m : Nat) : sLim st m = sLim st' m := by
  unfold sLim
  have := sRest_cong h m
  by_cases hr : sRest st m
  · rw [if_pos hr, if_pos (this ▸ hr), h 1 (by decide)]
  · rw [if_neg hr, if_neg (this ▸ hr), h 0 (by decide)]
theorem sLw_cong {wd wd' st st' : Nat → Int32} (h : st10 st st') : ∀ {m : Nat}, (∀ j, j < m → wd j = wd' j) → sLw wd st m = sLw wd' st' m
  | 0, _ => rfl
  | m + 1, hw => by
    unfold sLw
    rw [sLw_cong h (fun j hj => hw j (by omega)), hw m (by omega), h 4 (by decide)]
theorem sWhy_cong {lv lv' wd wd' st st' : Nat → Int32} {m : Nat} (h : st10 st st') (hl : ∀ j, j < m + 1 → lv j = lv' j) (hw : ∀ j, j < m + 1 → wd j = wd' j) : sWhy lv wd st m = sWhy lv' wd' st' m := by
  unfold sWhy
  rw [h 4 (by decide), h 5 (by decide), h 9 (by decide), sLim_cong h, sLw_cong h (fun j hj => hw j (by omega)), hw m (by omega), arm_cong hl]
def gO (st : Nat → Int32) : Nat := (st 6).toInt.toNat
def dA (lv wd st : Nat → Int32) (m : Nat) : Bool := decide (sWhy lv wd st m = 0)
def dF (lv st : Nat → Int32) (m : Nat) : Int32 := sArm lv (st 8) (m + 1)
def dS (lv st : Nat → Int32) (m : Nat) : Int32 := sArm lv (st 9) (m + 1)
def dT (lv st : Nat → Int32) (m : Nat) : Int32 := dS lv st m - 10 * sLim st m
abbrev dC (lv wd st : Nat → Int32) (n : Nat) : Nat := xCnt (gO st) (dA lv wd st) n
def dM (lv wd st cm : Nat → Int32) (n nc : Nat) : MS := mRun (xFst (gO st) (dA lv wd st) n) (xLst (gO st) (dA lv wd st) n) (xPk (gO st) (dA lv wd st) (dF lv st) n) cm (st 7) (dC lv wd st n) (mL cm nc 301)
theorem gO_b {st : Nat → Int32} (h : stOK st) : st 6 = nI (gO st) ∧ 1 ≤ gO st ∧ gO st ≤ 20 := by
  have h6 := h.2.2.2.2.2.2.1
  refine ⟨(nI_ex (by omega)).1, ?_, ?_⟩ <;> unfold gO <;> omega
def V (u : Nat) (lv wd st cm : Nat → Int32) (n nc : Nat) (M : Mem) : Prop :=
  (M (u + 2) 3 = nI n ∧ M (u + 2) 4 = nI (cB (cntd (sWhy lv wd st)) n) ∧ M (u + 2) 5 = nI (cB (fun m => decide (sRest st m)) n) ∧ M (u + 2) 6 = nI (cB (dA lv wd st) n) ∧ M (u + 2) 7 = nI (sLw wd st n) - 1) ∧
  (∀ m, m < n → M (u + 3) m = dF lv st m ∧ M (u + 4) m = dS lv st m ∧ M (u + 5) m = sWhy lv wd st m) ∧
  (xInv (u + 6) (gO st) (dA lv wd st) (dF lv st) (dT lv st) n M ∧ M (u + 6) 7 = (if xNa (gO st) (dA lv wd st) n < gO st then 1 else 0) ∧ (∀ m, m < n → M (u + 12) m = ownA (xFst (gO st) (dA lv wd st) n) (xLst (gO st) (dA lv wd st) n) (dC lv wd st n) m)) ∧
  (M (u + 13) 3 = nI nc ∧ M (u + 13) 4 = nI (dM lv wd st cm n nc).2.2 ∧ (∀ k, k < nc → M (u + 14) k = (dM lv wd st cm n nc).2.1 k) ∧ (∀ e, e < dC lv wd st n → M (u + 15) e = (dM lv wd st cm n nc).1 e)) ∧
  st10 (M (u + 1)) st
theorem V_off {u n nc : Nat} {lv wd st cm : Nat → Int32} {M M' : Mem} (h : V u lv wd st cm n nc M) (ho : ∀ c, u < c → c < u + 16 → M' c = M c) : V u lv wd st cm n nc M' := by
  obtain ⟨h1, h2, ⟨h3, h3b, h3c⟩, h4, h5⟩ := h
  refine ⟨?_, ?_, ⟨?_, ?_, ?_⟩, ?_, ?_⟩
  · rw [ho (u + 2) (by omega) (by omega)]
    exact h1
  · rw [ho (u + 3) (by omega) (by omega), ho (u + 4) (by omega) (by omega), ho (u + 5) (by omega) (by omega)]
    exact h2
  · exact xInv_off h3 (by rw [ho (u + 6) (by omega) (by omega)]) (fun c hc hc2 => ho c (by omega) (by omega))
  · rw [ho (u + 6) (by omega) (by omega)]
    exact h3b
  · rw [ho (u + 12) (by omega) (by omega)]
    exact h3c
  · rw [ho (u + 13) (by omega) (by omega), ho (u + 14) (by omega) (by omega), ho (u + 15) (by omega) (by omega)]
    exact h4
  · rw [ho (u + 1) (by omega) (by omega)]
    exact h5
/-- the live state of the class -/
def St (lv wd cm : Nat → Int32) (n nc : Nat) (M : Mem) : Prop := n ≤ 200 ∧ nc ≤ 20 ∧ M 1 4 = nI n ∧ M 1 5 = nI nc ∧ (∀ m, m < n → M 2 m = lv m ∧ M 3 m = wd m) ∧ (∀ k, k < nc → M 5 k = cm k ∧ ∃ w, w ≤ 300 ∧ cm k = nI w)
theorem look_c {M : Mem} {u n nc : Nat} {lv wd st cm : Nat → Int32} (hu : 5 < u) (hS : St lv wd cm n nc M) (hst : stOK st) (hg : st10 (M (u + 1)) st) :
    Ok (f_X7_look u 1 M) (fun M' => V u lv wd st cm n nc M' ∧ Off (fun c => u + 2 ≤ c ∧ c ≤ u + 16) M M') := by
  obtain ⟨hn, hnc, h4, h5, hlw, hcm⟩ := hS
  have hst0 := stOK_cong hg.sy hst
  unfold f_X7_look
  refine Ok.bind (moveArms_c hn h4 hst0 (by omega) (by omega)) ?_
  rintro M1 ⟨a1, a2, a3, a4⟩
  have ar : ∀ m, m < n → M1 (u + 3) m = dF lv st m ∧ M1 (u + 4) m = dS lv st m := fun m hm => by
    obtain ⟨q1, q2⟩ := a1 m hm
    rw [show M1 (u + 3) m = _ from q1, show M1 (u + 4) m = _ from q2, hg 8 (by decide), hg 9 (by decide)]
    exact ⟨arm_cong (fun j hj => (hlw j (by omega)).1), arm_cong (fun j hj => (hlw j (by omega)).1)⟩
  refine Ok.bind (judge_c (M := M1) (u := u + 2) (g := u + 1) hn a2 (by rw [a4 (u + 1) (by omega)]; exact hst0) (by omega) (by omega) (fun m hm => ?_)) ?_
  · rw [(a1 m hm).2, a4 2 (by omega), a4 (u + 1) (by omega)]
  rintro M2 ⟨b1, b2, b3, b4⟩
  have o2 : Off (fun c => u + 2 ≤ c ∧ c ≤ u + 16) M M2 := (a4.mono (fun c hc => by omega)).tr (b4.mono (fun c hc => by omega))
  have wh : ∀ m, m < n → M2 (u + 5) m = sWhy lv wd st m := fun m hm => by
    rw [show M2 (u + 5) m = _ from b1 m hm, a4 2 (by omega), a4 3 (by omega), a4 (u + 1) (by omega)]
    exact sWhy_cong hg (fun j hj => (hlw j (by omega)).1) (fun j hj => (hlw j (by omega)).2)
  have lw : M2 (u + 2) 7 = nI (sLw wd st n) - 1 := by
    rw [b2, a4 3 (by omega), a4 (u + 1) (by omega), sLw_cong hg (fun j hj => (hlw j hj).2)]
  refine Ok.bind (tally_c (M := M2) (u := u + 2) (g := u + 1) hn (by rw [b3 3 (by decide)]; exact a2) (by rw [o2 (u + 1) (by omega)]; exact hst0) (by omega)) ?_
  rintro M3 ⟨c1, c2, c3, c4, c5⟩
  have o3 : Off (fun c => u + 2 ≤ c ∧ c ≤ u + 16) M M3 := o2.tr (c5.mono (fun c hc => by omega))
  have t3 : M3 (u + 2) 3 = nI n := by rw [c4 3 (by decide) (by decide) (by decide), b3 3 (by decide)]; exact a2
  have w3 : ∀ m, m < n → M3 (u + 5) m = sWhy lv wd st m := fun m hm => by rw [c5 (u + 5) (by omega)]; exact wh m hm
  have a3' : ∀ m, m < n → M3 (u + 3) m = dF lv st m ∧ M3 (u + 4) m = dS lv st m := fun m hm => by
    rw [c5 (u + 3) (by omega), c5 (u + 4) (by omega), b4 (u + 3) (by omega), b4 (u + 4) (by omega)]
    exact ar m hm
  have hgo := gO_b hst
  refine Ok.bind (find_c (M := M3) (x := u + 6) (u := u + 2) (s := u + 1) (g := gO st) (av := dA lv wd st) (F := dF lv st) (Wt := dT lv st) hn t3 (by rw [o3 (u + 1) (by omega)]; exact hst0) (by rw [o3 (u + 1) (by omega), hg 6 (by decide)]; exact hgo.1) hgo.2 (by omega) (by omega) (fun m hm => ?_) (fun m hm => (a3' m hm).1) (fun m hm => ?_)) ?_
  · rw [show M3 (u + 2 + 3) m = _ from w3 m hm]
    rfl
  · rw [show M3 (u + 2 + 2) m = _ from (a3' m hm).2, o3 (u + 1) (by omega), sLim_cong hg]
    rfl
  rintro M4 ⟨d1, d2, d3, d4⟩
  have o4 : Off (fun c => u + 2 ≤ c ∧ c ≤ u + 16) M M4 := o3.tr (d4.mono (fun c hc => by omega))
  refine Ok.eqb (show rd M4 (u + 1) 10 7 = some (M4 (u + 1) 7) from rd_nI (k := 7) (by decide) (by decide)) ?_
  have hle : 2 * dC lv wd st n ≤ n + 1 := xCnt_le (g := gO st) (av := dA lv wd st) hgo.2.1 n
  refine Ok.bind (match_c (M := M4) (y := u + 13) (s := 1) (x := u + 6) (nc := nc) (cnt := dC lv wd st n) (fs := xFst (gO st) (dA lv wd st) n) (ls := xLst (gO st) (dA lv wd st) n) (pk := xPk (gO st) (dA lv wd st) (dF lv st) n) (cm := cm) hnc (by rw [o4 1 (by omega)]; exact h5) (by omega) (by omega) (by omega) d1.1 (fun e he => ⟨(d1.2 e he).1, (d1.2 e he).2.1, (d1.2 e he).2.2.2.1⟩) (fun k hk => by rw [show M4 (1 + 4) = M 5 from o4 5 (by omega)]; exact (hcm k hk).1) (fun k hk => (hcm k hk).2)) ?_
  rw [show M4 (u + 1) 7 = st 7 by rw [o4 (u + 1) (by omega)]; exact hg 7 (by decide)]
  rintro M5 ⟨e1, e2, e3, e4, e5⟩
  have o5 : Off (fun c => u + 2 ≤ c ∧ c ≤ u + 16) M M5 := o4.tr (e5.mono (fun c hc => by omega))
  have p2 : M5 (u + 2) = M3 (u + 2) := (e5 (u + 2) (by omega)).trans (d4 (u + 2) (by omega))
  refine Ok.of ⟨⟨⟨?_, ?_, ?_, ?_, ?_⟩, fun m hm => ?_, ⟨?_, ?_, ?_⟩, ⟨e1, ?_, ?_, ?_⟩, ?_⟩, o5⟩
  · rw [p2, t3]
  · rw [p2, c1]
    refine congrArg nI (cB_cong (fun m hm => ?_))
    unfold cntd
    rw [show M2 (u + 2 + 3) m = _ from wh m hm]
  · rw [p2, c2, o2 (u + 1) (by omega)]
    refine congrArg nI (cB_cong (fun m hm => ?_))
    have := sRest_cong hg m
    by_cases hr : sRest st m
    · rw [decide_eq_true hr, decide_eq_true (this.symm ▸ hr)]
    · rw [decide_eq_false hr, decide_eq_false (this.symm ▸ hr)]
  · rw [p2, c3]
    refine congrArg nI (cB_cong (fun m hm => ?_))
    unfold abvB dA
    rw [show M2 (u + 2 + 3) m = _ from wh m hm]
  · rw [p2, c4 7 (by decide) (by decide) (by decide), lw]
  · rw [e5 (u + 3) (by omega), e5 (u + 4) (by omega), e5 (u + 5) (by omega), d4 (u + 3) (by omega), d4 (u + 4) (by omega), d4 (u + 5) (by omega)]
    exact ⟨(a3' m hm).1, (a3' m hm).2, w3 m hm⟩
  · exact xInv_off d1 (by rw [e5 (u + 6) (by omega)]) (fun c hc hc2 => e5 c (by omega))
  · rw [e5 (u + 6) (by omega)]
    exact d2
  · rw [e5 (u + 12) (by omega)]
    exact d3
  · unfold dM
    exact e2
  · unfold dM
    exact e3
  · unfold dM
    exact e4
  · rw [o5 (u + 1) (by omega)]
    exact hg
