abbrev yCells (y : Nat) : Nat → Prop := fun c => y ≤ c ∧ c ≤ y + 3
theorem match_c {M : Mem} {y s x nc cnt : Nat} {fs ls pk cm : Nat → Int32} {p : Int32} (hnc : nc ≤ 20) (h5 : M s 5 = nI nc) (hs : s + 5 < y) (hx : x + 6 < y) (hc : cnt ≤ 100) (h6 : M x 6 = nI cnt)
    (hA : ∀ e, e < cnt → M (x + 1) e = fs e ∧ M (x + 2) e = ls e ∧ M (x + 4) e = pk e) (hcm : ∀ k, k < nc → M (s + 4) k = cm k) (hr : ∀ k, k < nc → ∃ w, w ≤ 300 ∧ cm k = nI w) :
    Ok (f_X3_match y s x p M) (fun M' => M' y 3 = nI nc ∧ M' y 4 = nI (mRun fs ls pk cm p cnt (mL cm nc 301)).2.2 ∧ (∀ k, k < nc → M' (y + 1) k = (mRun fs ls pk cm p cnt (mL cm nc 301)).2.1 k) ∧ (∀ e, e < cnt → M' (y + 2) e = (mRun fs ls pk cm p cnt (mL cm nc 301)).1 e) ∧ Off (yCells y) M M') := by
  unfold f_X3_match
  rw [stf_e]
  refine Ok.eqb rfl ?_
  rw [stf_e]
  refine Ok.eqb rfl ?_
  rw [h5]
  have o0 : Off (yCells y) M (mset (mset M y 3 (nI nc)) y 4 0) := (Off.rf.set (by omega)).set (by omega)
  have i3 : mset (mset M y 3 (nI nc)) y 4 0 y 3 = nI nc := by rw [mset_n (by decide), mset_s]
  have i4 : mset (mset M y 3 (nI nc)) y 4 0 y 4 = 0 := by rw [mset_s]
  generalize mset (mset M y 3 (nI nc)) y 4 0 = M2 at o0 i3 i4 ⊢
  refine Ok.bind (P := fun N => (∀ e, e < cnt → N (y + 2) e = -1) ∧ Off (fun c => c = y + 2) M2 N) ?_ ?_
  · refine loop_FU (fun i z => z.1 = nI i ∧ (∀ e, e < i → z.2 (y + 2) e = -1) ∧ Off (fun c => c = y + 2) M2 z.2) _ cnt (by omega) ?_ ?_ ?_
    · rintro i ⟨j, N⟩ hi ⟨h1, h2, h3⟩
      dsimp only at h1 h2 h3
      subst h1
      unfold f_X3_match_l16
      dsimp only
      refine Ok.neg (by rw [h3 x (by omega), o0 x (by omega), h6]; exact nI_ge hi (by omega)) ?_
      refine Ok.eqb (wr_nI (by omega) (by decide)) (Ok.of ⟨nI_1 i, fun e he => ?_, h3.set rfl⟩)
      show mset _ _ _ _ _ e = _
      by_cases hei : e = i
      · subst hei
        rw [mset_s]
      · rw [mset_n hei]
        exact h2 e (by omega)
    · rintro ⟨j, N⟩ ⟨h1, h2, h3⟩
      dsimp only at h1 h2 h3
      subst h1
      unfold f_X3_match_l16
      dsimp only
      exact Ok.pos (by rw [h3 x (by omega), o0 x (by omega), h6]; exact nI_le (Nat.le_refl _) (by omega)) (Ok.of ⟨h2, h3⟩)
    · exact ⟨rfl, fun e he => absurd he (Nat.not_lt_zero e), Off.rf⟩
  rintro M3 ⟨a1, a2⟩
  have o3 : Off (yCells y) M M3 := o0.tr (a2.mono (fun c hc => by rw [hc]; exact ⟨by omega, by omega⟩))
  have j3 : M3 y 3 = nI nc := by rw [a2 y (by omega), i3]
  have j4 : M3 y 4 = 0 := by rw [a2 y (by omega), i4]
  refine Ok.bind (order_c hnc j3 (by omega) (cm := cm) (fun k hk => by rw [o3 (s + 4) (by omega)]; exact hcm k hk) hr) ?_
  rintro M4 ⟨b1, b2⟩
  have o4 : Off (yCells y) M M4 := o3.tr (b2.mono (fun c hc => by rw [hc]; exact ⟨by omega, by omega⟩))
  have k3 : M4 y 3 = nI nc := by rw [b2 y (by omega), j3]
  have k4 : M4 y 4 = 0 := by rw [b2 y (by omega), j4]
  have k5 : ∀ e, e < cnt → M4 (y + 2) e = -1 := fun e he => by rw [b2 (y + 2) (by omega)]; exact a1 e he
  have hlen := mL_len hr
  have hmem : ∀ k, k < nc → k ∈ mL cm nc 301 := fun k hk => by
    obtain ⟨w, hw, e⟩ := hr k hk
    exact mL_all hk e (by omega)
  have hmem2 : ∀ i k, (mL cm nc 301)[i]? = some k → k < nc := fun i k q => (mL_mem (List.mem_of_getElem? q)).1
  have hmc : (mRun fs ls pk cm p cnt (mL cm nc 301)).2.2 ≤ 1000 := by
    rw [mRun_cnt (by omega) (by decide)]
    exact Nat.le_trans (cB_le _ _) (by omega)
  generalize mL cm nc 301 = l at b1 hlen hmem hmem2 hmc ⊢
  refine Ok.bind (P := fun M' => M' y 3 = nI nc ∧ M' y 4 = nI (mRun fs ls pk cm p cnt l).2.2 ∧ (∀ k, k < nc → M' (y + 1) k = (mRun fs ls pk cm p cnt l).2.1 k) ∧ (∀ e, e < cnt → M' (y + 2) e = (mRun fs ls pk cm p cnt l).1 e) ∧ Off (yCells y) M M') ?_ (fun r h => Ok.of h)
  refine loop_FU (fun i z => z.1 = nI i ∧ z.2 y 3 = nI nc ∧ z.2 y 4 = nI (mRun fs ls pk cm p cnt (l.take i)).2.2 ∧ (∀ k, k ∈ l.take i → z.2 (y + 1) k = (mRun fs ls pk cm p cnt (l.take i)).2.1 k) ∧ (∀ e, e < cnt → z.2 (y + 2) e = (mRun fs ls pk cm p cnt (l.take i)).1 e) ∧ z.2 (y + 3) = M4 (y + 3) ∧ Off (yCells y) M z.2) _ nc (by omega) ?_ ?_ ?_
  · rintro i ⟨j, N⟩ hi ⟨h1, h2, h3, h4, h7, h8, h9⟩
    dsimp only at h1 h2 h3 h4 h7 h8 h9
    subst h1
    unfold f_X3_match_l47
    dsimp only
    obtain ⟨c, hci⟩ : ∃ c, l[i]? = some c := ⟨_, List.getElem?_eq_getElem (by omega)⟩
    have hcn := hmem2 i c hci
    have et : l.take (i + 1) = l.take i ++ [c] := by
      rw [List.take_add_one, hci]
      rfl
    refine Ok.neg (by rw [h2]; exact nI_ge hi (by omega)) ?_
    refine Ok.eqb (rd_nI (by omega) (by decide)) ?_
    rw [h8, b1 i c hci]
    refine Ok.eqb (rd_nI (by omega) (by decide)) ?_
    rw [h9 (s + 4) (by omega), hcm c hcn]
    refine Ok.eqb (bestFor_c (cnt := cnt) (fs := fs) (ls := ls) (pk := pk) (co := (mRun fs ls pk cm p cnt (l.take i)).1) hc (by rw [h9 x (by omega), h6]) (fun e he => by rw [h9 (x + 1) (by omega), h9 (x + 2) (by omega), h9 (x + 4) (by omega)]; exact hA e he) h7) ?_
    refine Ok.eqb (wr_nI (by omega) (by decide)) ?_
    rw [et, mRun_snoc]
    generalize mRun fs ls pk cm p cnt (l.take i) = S at h3 h4 h7 ⊢
    have hle := sBst_le fs ls pk S.1 (cm c) p cnt
    unfold mStep f_X3_match_j118
    generalize sBst fs ls pk S.1 (cm c) p cnt = b at hle ⊢
    have hq1 : ∀ (v : Int32) k, k ∈ l.take i ++ [c] → mset N (y + 1) c v (y + 1) k = upd S.2.1 c v k := fun v k hk => by
      rw [mset_r]
      by_cases hkc : k = c
      · rw [hkc, upd_s, upd_s]
      · rw [upd_n hkc, upd_n hkc]
        refine h4 k ?_
        rcases List.mem_append.mp hk with q | q
        · exact q
        · exact absurd (List.mem_singleton.mp q) hkc
    by_cases hb : b = 0
    · subst hb
      rw [if_pos rfl, show nI 0 - 1 = (-1 : Int32) from rfl]
      refine Ok.pos rfl (Ok.of ⟨nI_1 i, ?_, ?_, hq1 _, fun e he => ?_, ?_, h9.set (by omega)⟩)
      · show mset _ _ _ _ y 3 = _
        rw [mset_o (by omega)]
        exact h2
      · show mset _ _ _ _ y 4 = _
        rw [mset_o (by omega)]
        exact h3
      · show mset _ _ _ _ (y + 2) e = _
        rw [mset_o (by omega)]
        exact h7 e he
      · show mset _ _ _ _ (y + 3) = _
        rw [mset_o (by omega)]
        exact h8
    · rw [if_neg hb, nI_p1 (by omega)]
      refine Ok.neg (fun q => ?_) ?_
      · have := congrArg Int32.toInt q
        rw [i_nI (by omega)] at this
        have em : (-1 : Int32).toInt = -1 := by decide
        omega
      refine Ok.eqb (wr_nI (by omega) (by decide)) ?_
      rw [stf_e]
      refine Ok.eqb rfl (Ok.of ⟨nI_1 i, ?_, ?_, fun k hk => ?_, fun e he => ?_, ?_, ((h9.set (by omega)).set (by omega)).set (by omega)⟩)
      · show mset _ _ _ _ y 3 = _
        rw [mset_n (by decide), mset_o (by omega), mset_o (by omega)]
        exact h2
      · show mset _ _ _ _ y 4 = _
        rw [mset_s, mset_o (by omega), mset_o (by omega), h3]
        exact nI_1 _
      · show mset _ _ _ _ (y + 1) k = _
        rw [mset_o (by omega), mset_o (by omega)]
        exact hq1 _ k hk
      · show mset _ _ _ _ (y + 2) e = _
        rw [mset_o (by omega), mset_r, mset_o (by omega)]
        exact ag_in h7 e he
      · show mset _ _ _ _ (y + 3) = _
        rw [mset_o (by omega), mset_o (by omega), mset_o (by omega)]
        exact h8
  · rintro ⟨j, N⟩ ⟨h1, h2, h3, h4, h7, h8, h9⟩
    dsimp only at h1 h2 h3 h4 h7 h8 h9
    subst h1
    have et : l.take nc = l := List.take_of_length_le (by omega)
    rw [et] at h3 h4 h7
    unfold f_X3_match_l47
    dsimp only
    exact Ok.pos (by rw [h2]; exact nI_le (Nat.le_refl _) (by omega)) (Ok.of ⟨h2, h3, fun k hk => h4 k (hmem k hk), h7, h9⟩)
  · refine ⟨rfl, k3, k4, fun k hk => ?_, fun e he => k5 e he, rfl, o4⟩
    rw [List.take_zero] at hk
    exact absurd hk List.not_mem_nil
