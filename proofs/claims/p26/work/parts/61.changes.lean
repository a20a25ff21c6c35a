/-! the class: changes of its state -/
def addD1 (d : Dt) (l w : Int32) : Dt := (upd d.1 d.2.2.2.2.1 l, upd d.2.1 d.2.2.2.2.1 w, d.2.2.1, d.2.2.2.1, d.2.2.2.2.1 + 1, d.2.2.2.2.2)
def addD (d : Dt) (l w : Int32) : Nat → Dt
  | 0 => d
  | k + 1 => addD1 (addD d l w k) l w
theorem addD_n (d : Dt) (l w : Int32) : ∀ k, (addD d l w k).2.2.2.2.1 = d.2.2.2.2.1 + k
  | 0 => rfl
  | k + 1 => by
    show (addD d l w k).2.2.2.2.1 + 1 = _
    rw [addD_n d l w k]
    omega
theorem addD1_V {d : Dt} {l w : Int32} (hv : Vd d) (hn : d.2.2.2.2.1 < 200) (hl : 0 ≤ l.toInt ∧ l.toInt ≤ 140) : Vd (addD1 d l w) := by
  obtain ⟨h1, h2, h3, h4, h5, h6⟩ := hv
  refine ⟨hn, h2, fun m hm => ?_, fun m hm => ?_, h5, h6⟩
  · have hm' : d.2.2.2.2.1 + 1 ≤ m := hm
    show upd _ _ _ m = 0 ∧ upd _ _ _ m = 0
    rw [upd_n (by omega), upd_n (by omega)]
    exact h3 m (by omega)
  · have hm' : m < d.2.2.2.2.1 + 1 := hm
    show 0 ≤ (upd d.1 d.2.2.2.2.1 l m).toInt ∧ (upd d.1 d.2.2.2.2.1 l m).toInt ≤ 140
    by_cases hmn : m = d.2.2.2.2.1
    · rw [hmn, upd_s]
      exact hl
    · rw [upd_n hmn]
      exact h4 m (by omega)
theorem addD_V {d : Dt} {l w : Int32} (hv : Vd d) (hl : 0 ≤ l.toInt ∧ l.toInt ≤ 140) : ∀ k, d.2.2.2.2.1 + k ≤ 200 → Vd (addD d l w k)
  | 0, _ => hv
  | k + 1, h => addD1_V (addD_V hv hl k (by omega)) (by rw [addD_n]; omega) hl
theorem add_c {M : Mem} {d : Dt} {l w : Int32} {k : Nat} (hs : Sc 1 d M) (hk : d.2.2.2.2.1 + k ≤ 200) : Ok (f_X5_addMinutes 1 l w (nI k) M) (fun M' => Sc 1 (addD d l w k) M' ∧ Off (fun c => 1 ≤ c ∧ c ≤ 5) M M') := by
  unfold f_X5_addMinutes
  refine Ok.bind (P := fun M' => Sc 1 (addD d l w k) M' ∧ Off (fun c => 1 ≤ c ∧ c ≤ 5) M M') ?_ (fun r h => Ok.of h)
  refine loop_FU (fun i z => z.1 = nI i ∧ Sc 1 (addD d l w i) z.2 ∧ Off (fun c => 1 ≤ c ∧ c ≤ 5) M z.2) _ k (by omega) ?_ ?_ ?_
  · rintro i ⟨j, N⟩ hi ⟨h1, h2, h3⟩
    dsimp only at h1 h2 h3
    subst h1
    unfold f_X5_addMinutes_l3
    dsimp only
    obtain ⟨s1, s2, s3, s4, s5⟩ := h2
    rw [addD_n] at s1 s3
    refine Ok.neg (nI_ge hi (by omega)) ?_
    refine Ok.neg (by rw [s1]; exact nI_ge (b := 200) (by omega) (by decide)) ?_
    refine Ok.eqb (by rw [s1]; exact wr_nI (by omega) (by decide)) ?_
    refine Ok.eqb (by rw [mset_o (c' := 1) (by decide), s1]; exact wr_nI (by omega) (by decide)) ?_
    rw [stf_e]
    refine Ok.eqb rfl (Ok.of ⟨nI_1 i, ⟨?_, ?_, fun m hm => ?_, ?_, ?_⟩, ((h3.set (by omega)).set (by omega)).set (by omega)⟩)
    · dsimp only
      rw [mset_s, mset_o (by decide), mset_o (by decide), s1, nI_1, addD_n]
      exact congrArg nI (by omega)
    · dsimp only
      rw [mset_n (by decide), mset_o (by decide), mset_o (by decide)]
      exact s2
    · dsimp only
      rw [addD_n] at hm
      rw [mset_o (c' := 1 + 1) (by decide), mset_o (c := 1 + 2) (c' := 1 + 1) (by decide), mset_r, mset_o (c' := 1 + 2) (by decide), mset_r, mset_o (c' := 1 + 2) (by decide)]
      show upd _ _ _ m = upd (addD d l w i).1 (addD d l w i).2.2.2.2.1 l m ∧ upd _ _ _ m = upd (addD d l w i).2.1 (addD d l w i).2.2.2.2.1 w m
      rw [addD_n]
      by_cases hm2 : m = d.2.2.2.2.1 + i
      · rw [hm2, upd_s, upd_s, upd_s, upd_s]
        exact ⟨rfl, rfl⟩
      · rw [upd_n hm2, upd_n hm2, upd_n hm2, upd_n hm2]
        exact s3 m (by omega)
    · dsimp only
      rw [mset_o (c' := 1 + 3) (by decide), mset_o (c' := 1 + 3) (by decide), mset_o (c' := 1 + 3) (by decide)]
      exact s4
    · dsimp only
      rw [mset_o (c' := 1 + 4) (by decide), mset_o (c' := 1 + 4) (by decide), mset_o (c' := 1 + 4) (by decide)]
      exact s5
  · rintro ⟨j, N⟩ ⟨h1, h2, h3⟩
    dsimp only at h1 h2 h3
    subst h1
    unfold f_X5_addMinutes_l3
    dsimp only
    exact Ok.pos (nI_le (Nat.le_refl _) (by omega)) (Ok.of ⟨h2, h3⟩)
  · exact ⟨rfl, hs, Off.rf⟩
theorem nI_sub {a b : Nat} (h : b ≤ a) (ha : a < 2 ^ 31) : nI a - nI b = nI (a - b) := by
  refine i_eq.mpr ?_
  rw [i_sub] <;> rw [i_nI ha, i_nI (by omega)]
  · rw [i_nI (by omega)]
    omega
  · omega
  · omega
def corD (d : Dt) (m : Nat) (l w : Int32) : Dt := (upd d.1 m l, upd d.2.1 m w, d.2.2)
theorem corD_V {d : Dt} {m : Nat} {l w : Int32} (hv : Vd d) (hm : m < d.2.2.2.2.1) (hl : 0 ≤ l.toInt ∧ l.toInt ≤ 140) : Vd (corD d m l w) := by
  obtain ⟨h1, h2, h3, h4, h5, h6⟩ := hv
  refine ⟨h1, h2, fun q hq => ?_, fun q hq => ?_, h5, h6⟩
  · have hq' : d.2.2.2.2.1 ≤ q := hq
    show upd _ _ _ q = 0 ∧ upd _ _ _ q = 0
    rw [upd_n (by omega), upd_n (by omega)]
    exact h3 q hq'
  · have hq' : q < d.2.2.2.2.1 := hq
    show 0 ≤ (upd d.1 m l q).toInt ∧ (upd d.1 m l q).toInt ≤ 140
    by_cases hqm : q = m
    · rw [hqm, upd_s]
      exact hl
    · rw [upd_n hqm]
      exact h4 q hq'
theorem cor_S {M1 : Mem} {d : Dt} {m : Nat} {l w : Int32} (hs : Sc 1 d M1) : Sc 1 (corD d m l w) (mset (mset M1 2 m l) 3 m w) := by
  obtain ⟨s1, s2, s3, s4, s5⟩ := hs
  refine ⟨?_, ?_, fun q hq => ?_, ?_, ?_⟩
  · rw [mset_o (by decide), mset_o (by decide)]
    exact s1
  · rw [mset_o (by decide), mset_o (by decide)]
    exact s2
  · have h3 : M1 2 q = d.1 q ∧ M1 3 q = d.2.1 q := s3 q hq
    show mset (mset M1 2 m l) 3 m w 2 q = upd d.1 m l q ∧ mset (mset M1 2 m l) 3 m w 3 q = upd d.2.1 m w q
    rw [mset_o (c' := 2) (by decide), mset_r, mset_r, mset_o (c' := 3) (by decide)]
    by_cases hqm : q = m
    · rw [hqm, upd_s, upd_s, upd_s, upd_s]
      exact ⟨rfl, rfl⟩
    · rw [upd_n hqm, upd_n hqm, upd_n hqm, upd_n hqm]
      exact h3
  · rw [mset_o (c' := 1 + 3) (by decide), mset_o (c' := 1 + 3) (by decide)]
    exact s4
  · rw [mset_o (c' := 1 + 4) (by decide), mset_o (c' := 1 + 4) (by decide)]
    exact s5
theorem dC_st {lv wd st st' : Nat → Int32} {n : Nat} (h : st10 st st') : dC lv wd st n = dC lv wd st' n := by
  show xCnt (gO st) (dA lv wd st) n = xCnt (gO st') (dA lv wd st') n
  rw [gO_st h, dA_st h]
theorem mx_sub {w k : Nat} (hw : w ≤ 1000) (hk : k ≤ 1000) : mxI 0 (nI w - nI k) = nI (w - k) := by
  unfold mxI
  by_cases h : k < w
  · rw [nI_sub (by omega) (by omega), if_pos (show (0 : Int32) < nI (w - k) from nI_lt (a := 0) (by omega) (by omega))]
  · rw [show w - k = 0 by omega, if_neg]
    · rfl
    · intro q
      have e0 : (0 : Int32).toInt = 0 := rfl
      have q1 := i_lt.mp q
      rw [i_sub] at q1 <;> rw [i_nI (by omega), i_nI (by omega)] at * <;> omega
def forD (d : Dt) (k : Nat) : Dt := (fun m => if m < d.2.2.2.2.1 - k then d.1 (m + k) else 0, fun m => if m < d.2.2.2.2.1 - k then d.2.1 (m + k) else 0, fun i => nI ((d.2.2.1 i).toInt.toNat - k), d.2.2.2.1, d.2.2.2.2.1 - k, d.2.2.2.2.2)
theorem cm_n {w : Nat} (hw : w ≤ 300) : (nI w).toInt.toNat = w := by
  rw [i_nI (by omega)]
  rfl
theorem forD_V {d : Dt} {k : Nat} (hv : Vd d) : Vd (forD d k) := by
  obtain ⟨h1, h2, h3, h4, h5, h6⟩ := hv
  refine ⟨Nat.le_trans (Nat.sub_le _ _) h1, h2, fun q hq => ?_, fun q hq => ?_, h5, fun i hi => ?_⟩
  · have hq' : d.2.2.2.2.1 - k ≤ q := hq
    show (if q < d.2.2.2.2.1 - k then d.1 (q + k) else 0) = 0 ∧ (if q < d.2.2.2.2.1 - k then d.2.1 (q + k) else 0) = 0
    rw [if_neg (by omega), if_neg (by omega)]
    exact ⟨rfl, rfl⟩
  · have hq' : q < d.2.2.2.2.1 - k := hq
    show 0 ≤ (if q < d.2.2.2.2.1 - k then d.1 (q + k) else 0).toInt ∧ (if q < d.2.2.2.2.1 - k then d.1 (q + k) else 0).toInt ≤ 140
    rw [if_pos hq']
    exact h4 (q + k) (by omega)
  · obtain ⟨w, hw, e⟩ := h6 i hi
    refine ⟨w - k, by omega, ?_⟩
    show nI ((d.2.2.1 i).toInt.toNat - k) = _
    rw [e, cm_n hw]
theorem drop_c {M : Mem} {d : Dt} {k : Nat} (hv : Vd d) (hs : Sc 1 d M) (hk : k ≤ d.2.2.2.2.1) : Ok (f_X5_dropMinutes 1 (nI k) M) (fun M' => Sc 1 (forD d k) M' ∧ Off (fun c => 1 ≤ c ∧ c ≤ 5) M M') := by
  have hn := hv.1
  have hnc := hv.2.1
  have hcm := hv.2.2.2.2.2
  obtain ⟨s1, s2, s3, s4, s5⟩ := hs
  dsimp only [Nat.reduceAdd] at s3 s4 s5
  unfold f_X5_dropMinutes
  rw [s1, nI_sub hk (by omega)]
  refine Ok.bind (P := fun N => (∀ m, m < d.2.2.2.2.1 - k → N 2 m = d.1 (m + k) ∧ N 3 m = d.2.1 (m + k)) ∧ Off (fun c => c = 2 ∨ c = 3) M N) ?_ ?_
  · refine loop_FU (fun i z => z.1 = nI i ∧ (∀ m, m < i → z.2 2 m = d.1 (m + k) ∧ z.2 3 m = d.2.1 (m + k)) ∧ (∀ m, i ≤ m → z.2 2 m = M 2 m ∧ z.2 3 m = M 3 m) ∧ Off (fun c => c = 2 ∨ c = 3) M z.2) _ (d.2.2.2.2.1 - k) (by omega) ?_ ?_ ⟨rfl, fun m hm => absurd hm (Nat.not_lt_zero m), fun m _ => ⟨rfl, rfl⟩, Off.rf⟩
    · rintro i ⟨j, N⟩ hi ⟨h1, h2, h3, h4⟩
      dsimp only at h1 h2 h3 h4
      subst h1
      unfold f_X5_dropMinutes_l9
      dsimp only [Nat.reduceAdd]
      refine Ok.neg (nI_ge hi (by omega)) ?_
      rw [nI_add]
      refine Ok.eqb (rd_nI (by omega) (by decide)) ?_
      refine Ok.eqb (wr_nI (by omega) (by decide)) ?_
      refine Ok.eqb (rd_nI (by omega) (by decide)) ?_
      refine Ok.eqb (wr_nI (by omega) (by decide)) (Ok.of ⟨nI_1 i, fun m hm => ?_, fun m hm => ?_, (h4.set (by omega)).set (by omega)⟩)
      · dsimp only
        rw [mset_o (c' := 2) (by decide), mset_r, mset_o (c := 2) (c' := 3) (by decide), mset_r, mset_o (c' := 3) (by decide)]
        by_cases hm2 : m = i
        · rw [hm2, upd_s, upd_s, (h3 (i + k) (by omega)).1, (h3 (i + k) (by omega)).2]
          exact s3 (i + k) (by omega)
        · rw [upd_n hm2, upd_n hm2]
          exact h2 m (by omega)
      · dsimp only
        rw [mset_o (c' := 2) (by decide), mset_r, mset_o (c := 2) (c' := 3) (by decide), mset_r, mset_o (c' := 3) (by decide), upd_n (by omega), upd_n (by omega)]
        exact h3 m (by omega)
    · rintro ⟨j, N⟩ ⟨h1, h2, h3, h4⟩
      dsimp only at h1 h2 h3 h4
      subst h1
      unfold f_X5_dropMinutes_l9
      dsimp only
      exact Ok.pos (nI_le (Nat.le_refl _) (by omega)) (Ok.of ⟨h2, h4⟩)
  rintro N ⟨n1, n2⟩
  rw [stf_e]
  refine Ok.eqb rfl ?_
  have e4 : mset N 1 4 (nI (d.2.2.2.2.1 - k)) 1 4 = nI (d.2.2.2.2.1 - k) := mset_s
  have e5 : mset N 1 4 (nI (d.2.2.2.2.1 - k)) 1 5 = nI d.2.2.2.2.2 := by
    rw [mset_n (by decide), n2 1 (by omega)]
    exact s2
  have eo : ∀ c, c ≠ 1 → mset N 1 4 (nI (d.2.2.2.2.1 - k)) c = N c := fun c hc => mset_o hc
  have eO : Off (fun c => 1 ≤ c ∧ c ≤ 5) M (mset N 1 4 (nI (d.2.2.2.2.1 - k))) := (n2.mono (fun c hc => by omega)).set (by omega)
  generalize mset N 1 4 (nI (d.2.2.2.2.1 - k)) = K at e4 e5 eo eO ⊢
  refine Ok.bind (P := fun K' => (∀ i, i < d.2.2.2.2.2 → K' 5 i = nI ((d.2.2.1 i).toInt.toNat - k)) ∧ Off (fun c => c = 5) K K') ?_ ?_
  · refine loop_FU (fun i z => z.1 = nI i ∧ (∀ m, m < i → z.2 5 m = nI ((d.2.2.1 m).toInt.toNat - k)) ∧ (∀ m, i ≤ m → z.2 5 m = K 5 m) ∧ Off (fun c => c = 5) K z.2) _ d.2.2.2.2.2 (by omega) ?_ ?_ ⟨rfl, fun m hm => absurd hm (Nat.not_lt_zero m), fun m _ => rfl, Off.rf⟩
    · rintro i ⟨j, N2⟩ hi ⟨h1, h2, h3, h4⟩
      dsimp only at h1 h2 h3 h4
      subst h1
      unfold f_X5_dropMinutes_l55
      dsimp only [Nat.reduceAdd]
      refine Ok.neg (by rw [h4 1 (by decide), e5]; exact nI_ge hi (by omega)) ?_
      refine Ok.eqb (rd_nI (by omega) (by decide)) ?_
      refine Ok.eqb (wr_nI (by omega) (by decide)) (Ok.of ⟨nI_1 i, fun m hm => ?_, fun m hm => ?_, h4.set rfl⟩)
      · dsimp only
        rw [mset_r]
        by_cases hm2 : m = i
        · obtain ⟨w, hw, e⟩ := hcm i hi
          rw [hm2, upd_s, h3 i (Nat.le_refl _), eo 5 (by decide), n2 5 (by decide), s5 i hi, e, cm_n hw]
          exact mx_sub (by omega) (by omega)
        · rw [upd_n hm2]
          exact h2 m (by omega)
      · dsimp only
        rw [mset_r, upd_n (by omega)]
        exact h3 m (by omega)
    · rintro ⟨j, N2⟩ ⟨h1, h2, h3, h4⟩
      dsimp only at h1 h2 h3 h4
      subst h1
      unfold f_X5_dropMinutes_l55
      dsimp only
      exact Ok.pos (by rw [h4 1 (by decide), e5]; exact nI_le (Nat.le_refl _) (by omega)) (Ok.of ⟨h2, h4⟩)
  rintro K' ⟨k1, k2⟩
  refine Ok.of ⟨⟨?_, ?_, fun m hm => ?_, ?_, fun i hi => ?_⟩, eO.tr (k2.mono (fun c hc => by omega))⟩
  · rw [k2 1 (by decide), e4]
    rfl
  · rw [k2 1 (by decide), e5]
    rfl
  · have hm' : m < d.2.2.2.2.1 - k := hm
    show K' 2 m = (if m < d.2.2.2.2.1 - k then d.1 (m + k) else 0) ∧ K' 3 m = (if m < d.2.2.2.2.1 - k then d.2.1 (m + k) else 0)
    rw [if_pos hm', if_pos hm', k2 2 (by decide), k2 3 (by decide), eo 2 (by decide), eo 3 (by decide)]
    exact n1 m hm'
  · show st10 (K' 4) d.2.2.2.1
    rw [k2 4 (by decide), eo 4 (by decide), n2 4 (by decide)]
    exact s4
  · exact k1 i hi
def cplD (d : Dt) (a : Int32) : Dt := (d.1, d.2.1, upd d.2.2.1 d.2.2.2.2.2 a, d.2.2.2.1, d.2.2.2.2.1, d.2.2.2.2.2 + 1)
theorem cplD_V {d : Dt} {w : Nat} (hv : Vd d) (hw : w ≤ 300) (hc : d.2.2.2.2.2 < 20) : Vd (cplD d (nI w)) := by
  obtain ⟨h1, h2, h3, h4, h5, h6⟩ := hv
  refine ⟨h1, hc, h3, h4, h5, fun i hi => ?_⟩
  have hi' : i < d.2.2.2.2.2 + 1 := hi
  show ∃ w', w' ≤ 300 ∧ upd d.2.2.1 d.2.2.2.2.2 (nI w) i = nI w'
  by_cases hi2 : i = d.2.2.2.2.2
  · exact ⟨w, hw, by rw [hi2, upd_s]⟩
  · rw [upd_n hi2]
    exact h6 i (by omega)
theorem cpl_S {M1 : Mem} {d : Dt} {a : Int32} (hs : Sc 1 d M1) : Sc 1 (cplD d a) (mset (mset M1 5 d.2.2.2.2.2 a) 1 5 (nI (d.2.2.2.2.2 + 1))) := by
  obtain ⟨s1, s2, s3, s4, s5⟩ := hs
  dsimp only [Nat.reduceAdd] at s3 s4 s5
  refine ⟨?_, ?_, fun q hq => ?_, ?_, fun i hi => ?_⟩
  · rw [mset_n (by decide), mset_o (by decide)]
    exact s1
  · rw [mset_s]
    rfl
  · show mset (mset M1 5 d.2.2.2.2.2 a) 1 5 (nI (d.2.2.2.2.2 + 1)) 2 q = d.1 q ∧ mset (mset M1 5 d.2.2.2.2.2 a) 1 5 (nI (d.2.2.2.2.2 + 1)) 3 q = d.2.1 q
    rw [mset_o (c' := 2) (by decide), mset_o (c' := 2) (by decide), mset_o (c' := 3) (by decide), mset_o (c' := 3) (by decide)]
    exact s3 q hq
  · show st10 (mset (mset M1 5 d.2.2.2.2.2 a) 1 5 (nI (d.2.2.2.2.2 + 1)) 4) d.2.2.2.1
    rw [mset_o (c' := 4) (by decide), mset_o (c' := 4) (by decide)]
    exact s4
  · have hi' : i < d.2.2.2.2.2 + 1 := hi
    show mset (mset M1 5 d.2.2.2.2.2 a) 1 5 (nI (d.2.2.2.2.2 + 1)) 5 i = upd d.2.2.1 d.2.2.2.2.2 a i
    rw [mset_o (c' := 5) (by decide), mset_r]
    by_cases hi2 : i = d.2.2.2.2.2
    · rw [hi2, upd_s, upd_s]
    · rw [upd_n hi2, upd_n hi2]
      exact s5 i (by omega)
def wdrD (d : Dt) (c : Nat) : Dt := (d.1, d.2.1, fun k => if k < c then d.2.2.1 k else d.2.2.1 (k + 1), d.2.2.2.1, d.2.2.2.2.1, d.2.2.2.2.2 - 1)
theorem wdrD_V {d : Dt} {c : Nat} (hv : Vd d) : Vd (wdrD d c) := by
  obtain ⟨h1, h2, h3, h4, h5, h6⟩ := hv
  refine ⟨h1, Nat.le_trans (Nat.sub_le _ _) h2, h3, h4, h5, fun i hi => ?_⟩
  have hi' : i < d.2.2.2.2.2 - 1 := hi
  show ∃ w', w' ≤ 300 ∧ (if i < c then d.2.2.1 i else d.2.2.1 (i + 1)) = nI w'
  by_cases hi2 : i < c
  · rw [if_pos hi2]
    exact h6 i (by omega)
  · rw [if_neg hi2]
    exact h6 (i + 1) (by omega)
theorem wdr_c {M : Mem} {d : Dt} {c : Nat} (hv : Vd d) (hs : Sc 1 d M) (hc : c < d.2.2.2.2.2) : Ok (f_X5_dropComplaint 1 (nI c) M) (fun M' => Sc 1 (wdrD d c) M' ∧ Off (fun c => 1 ≤ c ∧ c ≤ 5) M M') := by
  have hnc := hv.2.1
  obtain ⟨s1, s2, s3, s4, s5⟩ := hs
  dsimp only [Nat.reduceAdd] at s3 s4 s5
  unfold f_X5_dropComplaint
  refine Ok.bind (P := fun N => (∀ k, k < d.2.2.2.2.2 - 1 → N 5 k = if k < c then d.2.2.1 k else d.2.2.1 (k + 1)) ∧ Off (fun c => c = 5) M N) ?_ ?_
  · refine loop_FU (fun i z => z.1 = nI (c + i) ∧ (∀ k, k < c + i → z.2 5 k = if k < c then d.2.2.1 k else d.2.2.1 (k + 1)) ∧ (∀ k, c + i ≤ k → z.2 5 k = M 5 k) ∧ Off (fun c => c = 5) M z.2) _ (d.2.2.2.2.2 - 1 - c) (by omega) ?_ ?_ ⟨rfl, fun k hk => ?_, fun k _ => rfl, Off.rf⟩
    · rintro i ⟨j, N⟩ hi ⟨h1, h2, h3, h4⟩
      dsimp only at h1 h2 h3 h4
      subst h1
      unfold f_X5_dropComplaint_l2
      dsimp only [Nat.reduceAdd]
      rw [nI_1]
      refine Ok.neg (by rw [h4 1 (by decide), s2]; exact nI_ge (by omega) (by omega)) ?_
      refine Ok.eqb (rd_nI (by omega) (by decide)) ?_
      refine Ok.eqb (wr_nI (by omega) (by decide)) (Ok.of ⟨rfl, fun k hk => ?_, fun k hk => ?_, h4.set rfl⟩)
      · dsimp only
        rw [mset_r]
        by_cases hk2 : k = c + i
        · rw [hk2, upd_s, if_neg (by omega), h3 _ (by omega)]
          exact s5 _ (by omega)
        · rw [upd_n hk2]
          exact h2 k (by omega)
      · dsimp only
        rw [mset_r, upd_n (by omega)]
        exact h3 k (by omega)
    · rintro ⟨j, N⟩ ⟨h1, h2, h3, h4⟩
      dsimp only at h1 h2 h3 h4
      subst h1
      unfold f_X5_dropComplaint_l2
      dsimp only
      rw [nI_1]
      exact Ok.pos (by rw [h4 1 (by decide), s2]; exact nI_le (by omega) (by omega)) (Ok.of ⟨fun k hk => h2 k (by omega), h4⟩)
    · rw [if_pos (show k < c by omega)]
      exact s5 k (by omega)
  rintro N ⟨n1, n2⟩
  rw [stf_e]
  refine Ok.eqb rfl (Ok.of ⟨⟨?_, ?_, fun q hq => ?_, ?_, fun k hk => ?_⟩, (n2.mono (fun c hc => by omega)).set (by omega)⟩)
  · rw [mset_n (by decide), n2 1 (by decide)]
    exact s1
  · rw [mset_s, n2 1 (by decide), s2, nI_p1 (by omega)]
    rfl
  · have h3 := s3 q hq
    rw [← n2 2 (by decide), ← n2 3 (by decide)] at h3
    show mset N 1 5 (N 1 5 - 1) 2 q = d.1 q ∧ mset N 1 5 (N 1 5 - 1) 3 q = d.2.1 q
    rw [mset_o (c' := 2) (by decide), mset_o (c' := 3) (by decide)]
    exact h3
  · show st10 (mset N 1 5 (N 1 5 - 1) 4) d.2.2.2.1
    rw [mset_o (c' := 4) (by decide), n2 4 (by decide)]
    exact s4
  · show mset N 1 5 (N 1 5 - 1) 5 k = (if k < c then d.2.2.1 k else d.2.2.1 (k + 1))
    rw [mset_o (c' := 5) (by decide)]
    exact n1 k hk
