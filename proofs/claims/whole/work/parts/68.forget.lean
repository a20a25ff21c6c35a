/-! the law's cases: forget, complain -/
theorem mx_sub {w k : Nat} (hw : w ≤ 1000) (hk : k ≤ 1000) : mxI 0 (nI w - nI k) = nI (w - k) := by
  unfold mxI
  by_cases h : k < w
  · rw [nI_sub (by omega) (by omega), if_pos (show (0 : Int32) < nI (w - k) from nI_lt (a := 0) (by omega) (by omega))]
  · rw [show w - k = 0 by omega, if_neg]
    · rfl
    · intro q
      have e0 : (0 : Int32).toInt = 0 := rfl
      have q1 := i_lt.mp q
      rw [i_sub] at q1 <;> rw [i_nI (by omega), i_nI (by omega)] at * <;> omega
theorem ge_sub {w k : Nat} (hw : w ≤ 1000) (hk : k ≤ 1000) : (if 0 ≤ nI w - nI k then nI w - nI k else 0) = nI (w - k) := by
  by_cases h : k ≤ w
  · rw [nI_sub h (by omega), if_pos (nI_pos' (by omega))]
  · rw [show w - k = 0 by omega, if_neg]
    · rfl
    · intro q
      have e0 : (0 : Int32).toInt = 0 := rfl
      have q1 := i_le.mp q
      rw [i_sub] at q1 <;> rw [i_nI (by omega), i_nI (by omega)] at * <;> omega
def forD (d : Dt) (k : Nat) : Dt := (fun m => if m < d.2.2.2.2.1 - k then d.1 (m + k) else 0, fun m => if m < d.2.2.2.2.1 - k then d.2.1 (m + k) else 0, fun i => nI ((d.2.2.1 i).toInt.toNat - k), d.2.2.2.1, d.2.2.2.2.1 - k, d.2.2.2.2.2)
theorem cm_n {w : Nat} (hw : w ≤ 300) : (nI w).toInt.toNat = w := by
  rw [i_nI (by omega)]
  rfl
theorem forD_V {d : Dt} {k : Nat} (hv : Vd d) : Vd (forD d k) := by
  obtain ⟨h1, h2, h3, h4, h5, h6⟩ := hv
  refine ⟨Nat.le_trans (Nat.sub_le _ _) h1, h2, fun q hq => ?_, fun q hq => ?_, h5, fun i hi => ?_⟩
  · have hq' : d.2.2.2.2.1 - k ≤ q := hq
    show (if q < d.2.2.2.2.1 - k then d.1 (q + k) else 0) = 0 ∧ (if q < d.2.2.2.2.1 - k then d.2.1 (q + k) else 0) = 0
    rw [if_neg (by omega), if_neg (by omega)]
    exact ⟨rfl, rfl⟩
  · have hq' : q < d.2.2.2.2.1 - k := hq
    show 0 ≤ (if q < d.2.2.2.2.1 - k then d.1 (q + k) else 0).toInt ∧ (if q < d.2.2.2.2.1 - k then d.1 (q + k) else 0).toInt ≤ 140
    rw [if_pos hq']
    exact h4 (q + k) (by omega)
  · obtain ⟨w, hw, e⟩ := h6 i hi
    refine ⟨w - k, by omega, ?_⟩
    show nI ((d.2.2.1 i).toInt.toNat - k) = _
    rw [e, cm_n hw]
theorem drop_c {M : Mem} {d : Dt} {k : Nat} (hv : Vd d) (hs : Sc 1 d M) (hk : k ≤ d.2.2.2.2.1) : Ok (f_X5_dropMinutes 1 (nI k) M) (fun M' => Sc 1 (forD d k) M' ∧ Off (fun c => 1 ≤ c ∧ c ≤ 5) M M') := by
  have hn := hv.1
  have hnc := hv.2.1
  have hcm := hv.2.2.2.2.2
  obtain ⟨s1, s2, s3, s4, s5⟩ := hs
  dsimp only [Nat.reduceAdd] at s3 s4 s5
  unfold f_X5_dropMinutes
  rw [s1, nI_sub hk (by omega)]
  refine Ok.bind (P := fun N => (∀ m, m < d.2.2.2.2.1 - k → N 2 m = d.1 (m + k) ∧ N 3 m = d.2.1 (m + k)) ∧ Off (fun c => c = 2 ∨ c = 3) M N) ?_ ?_
  · refine loop_FU (fun i z => z.1 = nI i ∧ (∀ m, m < i → z.2 2 m = d.1 (m + k) ∧ z.2 3 m = d.2.1 (m + k)) ∧ (∀ m, i ≤ m → z.2 2 m = M 2 m ∧ z.2 3 m = M 3 m) ∧ Off (fun c => c = 2 ∨ c = 3) M z.2) _ (d.2.2.2.2.1 - k) (by omega) ?_ ?_ ⟨rfl, fun m hm => absurd hm (Nat.not_lt_zero m), fun m _ => ⟨rfl, rfl⟩, Off.rf⟩
    · rintro i ⟨j, N⟩ hi ⟨h1, h2, h3, h4⟩
      dsimp only at h1 h2 h3 h4
      subst h1
      unfold f_X5_dropMinutes_l9
      dsimp only [Nat.reduceAdd]
      refine Ok.neg (nI_ge hi (by omega)) ?_
      rw [nI_add]
      refine Ok.eqb (rd_nI (by omega) (by decide)) ?_
      refine Ok.eqb (wr_nI (by omega) (by decide)) ?_
      refine Ok.eqb (rd_nI (by omega) (by decide)) ?_
      refine Ok.eqb (wr_nI (by omega) (by decide)) (Ok.of ⟨nI_1 i, fun m hm => ?_, fun m hm => ?_, (h4.set (by omega)).set (by omega)⟩)
      · dsimp only
        rw [mset_o (c' := 2) (by decide), mset_r, mset_o (c := 2) (c' := 3) (by decide), mset_r, mset_o (c' := 3) (by decide)]
        by_cases hm2 : m = i
        · rw [hm2, upd_s, upd_s, (h3 (i + k) (by omega)).1, (h3 (i + k) (by omega)).2]
          exact s3 (i + k) (by omega)
        · rw [upd_n hm2, upd_n hm2]
          exact h2 m (by omega)
      · dsimp only
        rw [mset_o (c' := 2) (by decide), mset_r, mset_o (c := 2) (c' := 3) (by decide), mset_r, mset_o (c' := 3) (by decide), upd_n (by omega), upd_n (by omega)]
        exact h3 m (by omega)
    · rintro ⟨j, N⟩ ⟨h1, h2, h3, h4⟩
      dsimp only at h1 h2 h3 h4
      subst h1
      unfold f_X5_dropMinutes_l9
      dsimp only
      exact Ok.pos (nI_le (Nat.le_refl _) (by omega)) (Ok.of ⟨h2, h4⟩)
  rintro N ⟨n1, n2⟩
  rw [stf_e]
  refine Ok.eqb rfl ?_
  have e4 : mset N 1 4 (nI (d.2.2.2.2.1 - k)) 1 4 = nI (d.2.2.2.2.1 - k) := mset_s
  have e5 : mset N 1 4 (nI (d.2.2.2.2.1 - k)) 1 5 = nI d.2.2.2.2.2 := by
    rw [mset_n (by decide), n2 1 (by omega)]
    exact s2
  have eo : ∀ c, c ≠ 1 → mset N 1 4 (nI (d.2.2.2.2.1 - k)) c = N c := fun c hc => mset_o hc
  have eO : Off (fun c => 1 ≤ c ∧ c ≤ 5) M (mset N 1 4 (nI (d.2.2.2.2.1 - k))) := (n2.mono (fun c hc => by omega)).set (by omega)
  generalize mset N 1 4 (nI (d.2.2.2.2.1 - k)) = K at e4 e5 eo eO ⊢
  refine Ok.bind (P := fun K' => (∀ i, i < d.2.2.2.2.2 → K' 5 i = nI ((d.2.2.1 i).toInt.toNat - k)) ∧ Off (fun c => c = 5) K K') ?_ ?_
  · refine loop_FU (fun i z => z.1 = nI i ∧ (∀ m, m < i → z.2 5 m = nI ((d.2.2.1 m).toInt.toNat - k)) ∧ (∀ m, i ≤ m → z.2 5 m = K 5 m) ∧ Off (fun c => c = 5) K z.2) _ d.2.2.2.2.2 (by omega) ?_ ?_ ⟨rfl, fun m hm => absurd hm (Nat.not_lt_zero m), fun m _ => rfl, Off.rf⟩
    · rintro i ⟨j, N2⟩ hi ⟨h1, h2, h3, h4⟩
      dsimp only at h1 h2 h3 h4
      subst h1
      unfold f_X5_dropMinutes_l55
      dsimp only [Nat.reduceAdd]
      refine Ok.neg (by rw [h4 1 (by decide), e5]; exact nI_ge hi (by omega)) ?_
      refine Ok.eqb (rd_nI (by omega) (by decide)) ?_
      refine Ok.eqb (wr_nI (by omega) (by decide)) (Ok.of ⟨nI_1 i, fun m hm => ?_, fun m hm => ?_, h4.set rfl⟩)
      · dsimp only
        rw [mset_r]
        by_cases hm2 : m = i
        · obtain ⟨w, hw, e⟩ := hcm i hi
          rw [hm2, upd_s, h3 i (Nat.le_refl _), eo 5 (by decide), n2 5 (by decide), s5 i hi, e, cm_n hw]
          exact mx_sub (by omega) (by omega)
        · rw [upd_n hm2]
          exact h2 m (by omega)
      · dsimp only
        rw [mset_r, upd_n (by omega)]
        exact h3 m (by omega)
    · rintro ⟨j, N2⟩ ⟨h1, h2, h3, h4⟩
      dsimp only at h1 h2 h3 h4
      subst h1
      unfold f_X5_dropMinutes_l55
      dsimp only
      exact Ok.pos (by rw [h4 1 (by decide), e5]; exact nI_le (Nat.le_refl _) (by omega)) (Ok.of ⟨h2, h4⟩)
  rintro K' ⟨k1, k2⟩
  refine Ok.of ⟨⟨?_, ?_, fun m hm => ?_, ?_, fun i hi => ?_⟩, eO.tr (k2.mono (fun c hc => by omega))⟩
  · rw [k2 1 (by decide), e4]
    rfl
  · rw [k2 1 (by decide), e5]
    rfl
  · have hm' : m < d.2.2.2.2.1 - k := hm
    show K' 2 m = (if m < d.2.2.2.2.1 - k then d.1 (m + k) else 0) ∧ K' 3 m = (if m < d.2.2.2.2.1 - k then d.2.1 (m + k) else 0)
    rw [if_pos hm', if_pos hm', k2 2 (by decide), k2 3 (by decide), eo 2 (by decide), eo 3 (by decide)]
    exact n1 m hm'
  · show st10 (K' 4) d.2.2.2.1
    rw [k2 4 (by decide), eo 4 (by decide), n2 4 (by decide)]
    exact s4
  · exact k1 i hi
theorem rd91 {K : Mem} {k : Nat} (h : k < 432) : rd K 91 432 (nI k) = some (K 91 k) := rd_nI h (by decide)
theorem n1a (i : Nat) : 1 + nI i = nI (1 + i) := nI_add 1 i
theorem n412 (i : Nat) : 412 + nI i = nI (412 + i) := nI_add 412 i
/-- the model forgets -/
theorem forget_z {M : Mem} {d : Dt} {k : Nat} (hv : Vd d) (hs : Zc (M 91) d) (hk : k ≤ d.2.2.2.2.1) :
    Ok ((loopN (f_X9_forget_l48 (nI k)) FU (0, mset M 91 0 (nI (d.2.2.2.2.1 - k)))).bind fun o13 => loopN (f_X9_forget_l88 (nI k)) FU (0, o13)) (fun M' => Zc (M' 91) (forD d k) ∧ Off (fun c => c = 91) M M') := by
  have hn := hv.1
  have hnc := hv.2.1
  have hcm := hv.2.2.2.2.2
  obtain ⟨s1, s2, s3, s4, s5⟩ := hs
  have e0 : mset M 91 0 (nI (d.2.2.2.2.1 - k)) 91 0 = nI (d.2.2.2.2.1 - k) := mset_s
  have en : ∀ q, q ≠ 0 → mset M 91 0 (nI (d.2.2.2.2.1 - k)) 91 q = M 91 q := fun q hq => mset_n hq
  have eO : Off (fun c => c = 91) M (mset M 91 0 (nI (d.2.2.2.2.1 - k))) := Off.rf.set (by omega)
  generalize mset M 91 0 (nI (d.2.2.2.2.1 - k)) = K at e0 en eO ⊢
  refine Ok.bind (P := fun N => (∀ j, j < 2 * (d.2.2.2.2.1 - k) → N 91 (1 + j) = M 91 (1 + j + 2 * k)) ∧ (∀ j, 2 * (d.2.2.2.2.1 - k) ≤ j → N 91 (1 + j) = M 91 (1 + j)) ∧ N 91 0 = nI (d.2.2.2.2.1 - k) ∧ Off (fun c => c = 91) M N) ?_ ?_
  · refine loop_FU (fun i z => z.1 = nI i ∧ (∀ j, j < i → z.2 91 (1 + j) = M 91 (1 + j + 2 * k)) ∧ (∀ j, i ≤ j → z.2 91 (1 + j) = M 91 (1 + j)) ∧ z.2 91 0 = nI (d.2.2.2.2.1 - k) ∧ Off (fun c => c = 91) M z.2) _ (2 * (d.2.2.2.2.1 - k)) (by omega) ?_ ?_ ⟨rfl, fun m hm => absurd hm (Nat.not_lt_zero m), fun m _ => en _ (by omega), e0, eO⟩
    · rintro i ⟨j, N⟩ hi ⟨h1, h2, h3, h4, h5⟩
      dsimp only at h1 h2 h3 h4 h5
      subst h1
      unfold f_X9_forget_l48
      dsimp only
      refine Ok.eqb (show rd N 91 432 0 = some (N 91 0) from rd91 (k := 0) (by decide)) ?_
      rw [h4, n2, n2, n1a, nI_add]
      refine Ok.neg (nI_ge hi (by omega)) ?_
      refine Ok.eqb (rd91 (by omega)) ?_
      refine Ok.eqb (wr_nI (by omega) (by decide)) (Ok.of ⟨nI_1 i, fun m hm => ?_, fun m hm => ?_, ?_, h5.set rfl⟩)
      · dsimp only
        by_cases hm2 : m = i
        · rw [hm2, mset_s, show 1 + i + 2 * k = 1 + (i + 2 * k) by omega]
          exact h3 (i + 2 * k) (by omega)
        · rw [mset_n (by omega)]
          exact h2 m (by omega)
      · dsimp only
        rw [mset_n (by omega)]
        exact h3 m (by omega)
      · dsimp only
        rw [mset_n (by omega)]
        exact h4
    · rintro ⟨j, N⟩ ⟨h1, h2, h3, h4, h5⟩
      dsimp only at h1 h2 h3 h4 h5
      subst h1
      unfold f_X9_forget_l48
      dsimp only
      refine Ok.eqb (show rd N 91 432 0 = some (N 91 0) from rd91 (k := 0) (by decide)) ?_
      rw [h4, n2]
      exact Ok.pos (nI_le (Nat.le_refl _) (by omega)) (Ok.of ⟨h2, h3, h4, h5⟩)
  rintro N ⟨n1, n2', n3, n4⟩
  have nh : ∀ q, 401 ≤ q → N 91 q = M 91 q := fun q hq => by
    have := n2' (q - 1) (by omega)
    rwa [show 1 + (q - 1) = q by omega] at this
  have n411 : N 91 411 = nI d.2.2.2.2.2 := by rw [nh 411 (by decide)]; exact s2
  refine Ok.mono (P := fun K' => (∀ i, i < d.2.2.2.2.2 → K' 91 (412 + i) = nI ((d.2.2.1 i).toInt.toNat - k)) ∧ (∀ q, q < 412 → K' 91 q = N 91 q) ∧ Off (fun c => c = 91) N K') ?_ ?_
  · refine loop_FU (fun i z => z.1 = nI i ∧ (∀ m, m < i → z.2 91 (412 + m) = nI ((d.2.2.1 m).toInt.toNat - k)) ∧ (∀ m, i ≤ m → z.2 91 (412 + m) = N 91 (412 + m)) ∧ (∀ q, q < 412 → z.2 91 q = N 91 q) ∧ Off (fun c => c = 91) N z.2) _ d.2.2.2.2.2 (by omega) ?_ ?_ ⟨rfl, fun m hm => absurd hm (Nat.not_lt_zero m), fun m _ => rfl, fun _ _ => rfl, Off.rf⟩
    · rintro i ⟨j, N2⟩ hi ⟨h1, h2, h3, h4, h5⟩
      dsimp only at h1 h2 h3 h4 h5
      subst h1
      unfold f_X9_forget_l88
      dsimp only
      refine Ok.eqb (show rd N2 91 432 411 = some (N2 91 411) from rd91 (k := 411) (by decide)) ?_
      refine Ok.neg (by rw [h4 411 (by decide), n411]; exact nI_ge hi (by omega)) ?_
      rw [n412]
      refine Ok.eqb (rd91 (by omega)) ?_
      obtain ⟨w, hw, e⟩ := hcm i hi
      have ew : N2 91 (412 + i) = nI w := by rw [h3 i (Nat.le_refl _), nh _ (by omega), s5 i hi, e]
      rw [ew]
      have fin : ∀ v, v = nI ((d.2.2.1 i).toInt.toNat - k) → Ok (f_X9_forget_j131 (nI k) (nI i) (nI (412 + i)) v N2) (fun o => Sum.elim (fun z => z.1 = nI (i + 1) ∧ (∀ m, m < i + 1 → z.2 91 (412 + m) = nI ((d.2.2.1 m).toInt.toNat - k)) ∧ (∀ m, i + 1 ≤ m → z.2 91 (412 + m) = N 91 (412 + m)) ∧ (∀ q, q < 412 → z.2 91 q = N 91 q) ∧ Off (fun c => c = 91) N z.2) (fun K' => (∀ i, i < d.2.2.2.2.2 → K' 91 (412 + i) = nI ((d.2.2.1 i).toInt.toNat - k)) ∧ (∀ q, q < 412 → K' 91 q = N 91 q) ∧ Off (fun c => c = 91) N K') o) := by
        intro v hv
        unfold f_X9_forget_j131
        refine Ok.eqb (wr_nI (by omega) (by decide)) (Ok.of ⟨nI_1 i, fun m hm => ?_, fun m hm => ?_, fun q hq => ?_, h5.set rfl⟩)
        · dsimp only
          by_cases hm2 : m = i
          · rw [hm2, mset_s]
            exact hv
          · rw [mset_n (by omega)]
            exact h2 m (by omega)
        · dsimp only
          rw [mset_n (by omega)]
          exact h3 m (by omega)
        · dsimp only
          rw [mset_n (by omega)]
          exact h4 q hq
      have g := ge_sub (w := w) (k := k) (by omega) (by omega)
      refine Ok.ite (fun q => fin _ ?_) (fun q => fin _ ?_)
      · rw [if_pos q] at g
        rw [g, e, cm_n hw]
      · rw [if_neg q] at g
        rw [g, e, cm_n hw]
    · rintro ⟨j, N2⟩ ⟨h1, h2, h3, h4, h5⟩
      dsimp only at h1 h2 h3 h4 h5
      subst h1
      unfold f_X9_forget_l88
      dsimp only
      refine Ok.eqb (show rd N2 91 432 411 = some (N2 91 411) from rd91 (k := 411) (by decide)) ?_
      exact Ok.pos (by rw [h4 411 (by decide), n411]; exact nI_le (Nat.le_refl _) (by omega)) (Ok.of ⟨h2, h4, h5⟩)
  rintro K' ⟨k1, k2, k3⟩
  refine ⟨⟨?_, ?_, fun m hm => ?_, fun q hq => ?_, k1⟩, n4.tr k3⟩
  · rw [k2 0 (by decide), n3]
    rfl
  · rw [k2 411 (by decide), n411]
    rfl
  · have hm' : m < d.2.2.2.2.1 - k := hm
    show K' 91 (1 + 2 * m) = (if m < d.2.2.2.2.1 - k then d.1 (m + k) else 0) ∧ K' 91 (2 + 2 * m) = (if m < d.2.2.2.2.1 - k then d.2.1 (m + k) else 0)
    rw [if_pos hm', if_pos hm', k2 _ (by omega), k2 _ (by omega), n1 (2 * m) (by omega), show 2 + 2 * m = 1 + (2 * m + 1) by omega, n1 (2 * m + 1) (by omega)]
    have h3 := s3 (m + k) (by omega)
    rw [show 1 + 2 * m + 2 * k = 1 + 2 * (m + k) by omega, show 1 + (2 * m + 1) + 2 * k = 2 + 2 * (m + k) by omega]
    exact h3
  · show K' 91 (401 + q) = _
    rw [k2 _ (by omega), nh _ (by omega)]
    exact s4 q hq
theorem forget_q (a1 a2 a3 : Int32) {M : Mem} {L : Lng} {d : Dt} {D : Nat → Dt} {next kept : Nat} (h : Cr d D next kept M) : LC (f_lc3 a1 a2 a3 M L) := by
  refine law_ok (F := f_X9_forget a1) ?_
  obtain ⟨hv, hs, hz, hw, hH, hZ, h5⟩ := id h
  have hn := hv.1
  have r0 : ∀ K : Mem, rd K 91 432 0 = some (K 91 0) := fun K => rd91 (k := 0) (by decide)
  by_cases h1 : 1 ≤ a1 ∧ a1 ≤ nI d.2.2.2.2.1
  · have h1' := h1
    obtain ⟨k, hk, rfl⟩ := ar (K := d.2.2.2.2.1) (by omega) (fun q => by have q1 := i_lt.mp q; have q2 := i_le.mp h1.1; have e1 : (1 : Int32).toInt = 1 := rfl; have e0 : (0 : Int32).toInt = 0 := rfl; omega) h1.2
    have hv' := forD_V (k := k) hv
    refine chg_ok (L := L) (v := nI (d.2.2.2.2.1 - k)) (P := PC d (forD d k) D next kept M) ?_ ?_
    · unfold g_forget
      refine Ok.bind (P := fun o => ∃ M', o = .inr (nI (d.2.2.2.2.1 - k), M') ∧ PC d (forD d k) D next kept M M') ?_ ?_
      · unfold f_X8_forget
        refine Ok.neg (n_lt' h1'.1) (Ok.pos (by rw [hs.1]; exact h1'.2) ?_)
        refine Ok.bind (keep_cr h) ?_
        rintro M1 ⟨c1, c2, c3⟩
        refine Ok.bind (drop_c hv c2 hk) ?_
        rintro M2 ⟨e1, e2⟩
        refine Ok.bind (again_pc hv' c1 c3 e1 e2) ?_
        rintro M3 ⟨p1, p2⟩
        refine Ok.of ⟨M3, ?_, p1⟩
        rw [p1.1.1]
        rfl
      · rintro o ⟨M', rfl, p⟩
        exact Ok.of ⟨rfl, rfl, p⟩
    · intro M3 p
      have hp4 := p.2.2.2
      unfold f_X9_forget f_X9_forget_j20
      refine Ok.eqb (r0 M3) ?_
      rw [hp4 91 (by omega), hz.1]
      refine Ok.eqb (within_e _ _ _ _) ?_
      rw [if_pos h1']
      refine Ok.neg (by decide) ?_
      rw [stf_e]
      refine Ok.eqb rfl (Ok.pos (by rw [mset_s]; decide) ?_)
      refine Ok.bind (save_cr h hp4) ?_
      rintro M5 b
      refine Ok.eqb (r0 M5) ?_
      rw [b.2.1.1, nI_sub hk (by omega)]
      refine Ok.eqb (show wr M5 91 432 0 _ = some (mset M5 91 0 _) from wr_nI (k := 0) (by decide) (by decide)) ?_
      obtain ⟨M6, q1, e1, e2⟩ := forget_z hv b.2.1 hk
      obtain ⟨o13, q2, q3⟩ := Option.bind_eq_some_iff.mp q1
      rw [q2]
      refine Ok.eqb rfl ?_
      refine Ok.eqb q3 ?_
      refine Ok.eqb (r0 M6) (Ok.of ?_)
      have hc := Cr_chg2 (M6 := M6) h hv' p b e1 (Kp_off e2 (by decide)) (e2.mono (fun c hc => by omega))
      exact ⟨by dsimp only; rw [e1.1]; rfl, hc.1, ⟨_, _, _, _, hc.2⟩⟩
  · have hG : g_forget a1 M L = some (1, M, L) := by
      unfold g_forget f_X8_forget f_X8_forget_j16
      rw [hs.1]
      by_cases h6 : a1 < 1
      · rw [if_pos h6]
        rfl
      · rw [if_neg h6, if_neg (fun q => h1 ⟨le_n h6, q⟩)]
        rfl
    rw [hG]
    refine q_thr h (by decide) ?_
    unfold f_X9_forget f_X9_forget_j20
    rw [r0, Option.bind_some, hz.1, within_e, if_neg h1, Option.bind_some, if_pos rfl, stf_e, Option.bind_some, if_neg (by rw [mset_s]; decide)]
