/-! minutes are added -/
def addD1 (d : Dt) (l w : Int32) : Dt := (upd d.1 d.2.2.2.2.1 l, upd d.2.1 d.2.2.2.2.1 w, d.2.2.1, d.2.2.2.1, d.2.2.2.2.1 + 1, d.2.2.2.2.2)
def addD (d : Dt) (l w : Int32) : Nat → Dt
  | 0 => d
  | k + 1 => addD1 (addD d l w k) l w
theorem addD_n (d : Dt) (l w : Int32) : ∀ k, (addD d l w k).2.2.2.2.1 = d.2.2.2.2.1 + k
  | 0 => rfl
  | k + 1 => by
    show (addD d l w k).2.2.2.2.1 + 1 = _
    rw [addD_n d l w k]
    omega
theorem addD1_V {d : Dt} {l w : Int32} (hv : Vd d) (hn : d.2.2.2.2.1 < 200) (hl : 0 ≤ l.toInt ∧ l.toInt ≤ 140) : Vd (addD1 d l w) := by
  obtain ⟨h1, h2, h3, h4, h5, h6⟩ := hv
  refine ⟨hn, h2, fun m hm => ?_, fun m hm => ?_, h5, h6⟩
  · have hm' : d.2.2.2.2.1 + 1 ≤ m := hm
    show upd _ _ _ m = 0 ∧ upd _ _ _ m = 0
    rw [upd_n (by omega), upd_n (by omega)]
    exact h3 m (by omega)
  · have hm' : m < d.2.2.2.2.1 + 1 := hm
    show 0 ≤ (upd d.1 d.2.2.2.2.1 l m).toInt ∧ (upd d.1 d.2.2.2.2.1 l m).toInt ≤ 140
    by_cases hmn : m = d.2.2.2.2.1
    · rw [hmn, upd_s]
      exact hl
    · rw [upd_n hmn]
      exact h4 m (by omega)
theorem addD_V {d : Dt} {l w : Int32} (hv : Vd d) (hl : 0 ≤ l.toInt ∧ l.toInt ≤ 140) : ∀ k, d.2.2.2.2.1 + k ≤ 200 → Vd (addD d l w k)
  | 0, _ => hv
  | k + 1, h => addD1_V (addD_V hv hl k (by omega)) (by rw [addD_n]; omega) hl
theorem add_c {M : Mem} {d : Dt} {l w : Int32} {k : Nat} (hs : Sc 1 d M) (hk : d.2.2.2.2.1 + k ≤ 200) : Ok (f_X5_addMinutes 1 l w (nI k) M) (fun M' => Sc 1 (addD d l w k) M' ∧ Off (fun c => 1 ≤ c ∧ c ≤ 5) M M') := by
  unfold f_X5_addMinutes
  refine Ok.bind (P := fun M' => Sc 1 (addD d l w k) M' ∧ Off (fun c => 1 ≤ c ∧ c ≤ 5) M M') ?_ (fun r h => Ok.of h)
  refine loop_FU (fun i z => z.1 = nI i ∧ Sc 1 (addD d l w i) z.2 ∧ Off (fun c => 1 ≤ c ∧ c ≤ 5) M z.2) _ k (by omega) ?_ ?_ ?_
  · rintro i ⟨j, N⟩ hi ⟨h1, h2, h3⟩
    dsimp only at h1 h2 h3
    subst h1
    unfold f_X5_addMinutes_l3
    dsimp only
    obtain ⟨s1, s2, s3, s4, s5⟩ := h2
    rw [addD_n] at s1 s3
    refine Ok.neg (nI_ge hi (by omega)) ?_
    refine Ok.neg (by rw [s1]; exact nI_ge (b := 200) (by omega) (by decide)) ?_
    refine Ok.eqb (by rw [s1]; exact wr_nI (by omega) (by decide)) ?_
    refine Ok.eqb (by rw [mset_o (c' := 1) (by decide), s1]; exact wr_nI (by omega) (by decide)) ?_
    rw [stf_e]
    refine Ok.eqb rfl (Ok.of ⟨nI_1 i, ⟨?_, ?_, fun m hm => ?_, ?_, ?_⟩, ((h3.set (by omega)).set (by omega)).set (by omega)⟩)
    · dsimp only
      rw [mset_s, mset_o (by decide), mset_o (by decide), s1, nI_1, addD_n]
      exact congrArg nI (by omega)
    · dsimp only
      rw [mset_n (by decide), mset_o (by decide), mset_o (by decide)]
      exact s2
    · dsimp only
      rw [addD_n] at hm
      rw [mset_o (c' := 1 + 1) (by decide), mset_o (c := 1 + 2) (c' := 1 + 1) (by decide), mset_r, mset_o (c' := 1 + 2) (by decide), mset_r, mset_o (c' := 1 + 2) (by decide)]
      show upd _ _ _ m = upd (addD d l w i).1 (addD d l w i).2.2.2.2.1 l m ∧ upd _ _ _ m = upd (addD d l w i).2.1 (addD d l w i).2.2.2.2.1 w m
      rw [addD_n]
      by_cases hm2 : m = d.2.2.2.2.1 + i
      · rw [hm2, upd_s, upd_s, upd_s, upd_s]
        exact ⟨rfl, rfl⟩
      · rw [upd_n hm2, upd_n hm2, upd_n hm2, upd_n hm2]
        exact s3 m (by omega)
    · dsimp only
      rw [mset_o (c' := 1 + 3) (by decide), mset_o (c' := 1 + 3) (by decide), mset_o (c' := 1 + 3) (by decide)]
      exact s4
    · dsimp only
      rw [mset_o (c' := 1 + 4) (by decide), mset_o (c' := 1 + 4) (by decide), mset_o (c' := 1 + 4) (by decide)]
      exact s5
  · rintro ⟨j, N⟩ ⟨h1, h2, h3⟩
    dsimp only at h1 h2 h3
    subst h1
    unfold f_X5_addMinutes_l3
    dsimp only
    exact Ok.pos (nI_le (Nat.le_refl _) (by omega)) (Ok.of ⟨h2, h3⟩)
  · exact ⟨rfl, hs, Off.rf⟩
theorem bring_m {M : Mem} {d : Dt} {l w : Int32} {k : Nat} (hnc : d.2.2.2.2.2 ≤ 20) (hs : Zc (M 91) d) (hk : d.2.2.2.2.1 + k ≤ 200) : Ok (f_X9_bring l w (nI k) M) (fun M' => Zc (M' 91) (addD d l w k) ∧ Off (fun c => c = 91) M M') := by
  unfold f_X9_bring
  refine Ok.bind (P := fun M' => Zc (M' 91) (addD d l w k) ∧ Off (fun c => c = 91) M M') ?_ (fun r h => Ok.of h)
  refine loop_FU (fun i z => z.1 = nI i ∧ Zc (z.2 91) (addD d l w i) ∧ (addD d l w i).2.2.2.2.2 = d.2.2.2.2.2 ∧ Off (fun c => c = 91) M z.2) _ k (by omega) ?_ ?_ ?_
  · rintro i ⟨j, N⟩ hi ⟨h1, h2, hnn, h3⟩
    dsimp only at h1 h2 h3
    subst h1
    unfold f_X9_bring_l3
    dsimp only
    obtain ⟨s1, s2, s3, s4, s5⟩ := h2
    rw [addD_n] at s1 s3
    rw [hnn] at s5
    have r0 : ∀ K : Mem, rd K 91 432 0 = some (K 91 0) := fun K => rd_nI (k := 0) (by decide) (by decide)
    refine Ok.neg (nI_ge hi (by omega)) ?_
    refine Ok.eqb (r0 N) ?_
    rw [s1, n12]
    refine Ok.eqb (wr_nI (by omega) (by decide)) ?_
    refine Ok.eqb (r0 _) ?_
    rw [mset_n (k' := 0) (by omega), s1, n22]
    refine Ok.eqb (wr_nI (by omega) (by decide)) ?_
    refine Ok.eqb (r0 _) ?_
    rw [mset_n (k' := 0) (by omega), mset_n (k' := 0) (by omega), s1, nI_1]
    refine Ok.eqb (show wr _ 91 432 0 _ = some (mset _ 91 0 _) from wr_nI (k := 0) (by decide) (by decide)) (Ok.of ⟨nI_1 i, ⟨?_, ?_, fun m hm => ?_, fun q hq => ?_, fun q hq => ?_⟩, hnn, ((h3.set rfl).set rfl).set rfl⟩)
    · dsimp only
      rw [mset_s, addD_n]
      exact congrArg nI (by omega)
    · dsimp only
      rw [mset_n (by omega), mset_n (by omega), mset_n (by omega)]
      exact s2
    · dsimp only
      rw [addD_n] at hm
      show _ = upd (addD d l w i).1 (addD d l w i).2.2.2.2.1 l m ∧ _ = upd (addD d l w i).2.1 (addD d l w i).2.2.2.2.1 w m
      rw [addD_n, mset_n (k' := 1 + 2 * m) (by omega), mset_n (k := 2 + 2 * (d.2.2.2.2.1 + i)) (k' := 1 + 2 * m) (by omega), mset_n (k' := 2 + 2 * m) (by omega)]
      by_cases hm2 : m = d.2.2.2.2.1 + i
      · rw [hm2, upd_s, upd_s, mset_s, mset_s]
        exact ⟨rfl, rfl⟩
      · rw [upd_n hm2, upd_n hm2, mset_n (by omega), mset_n (by omega), mset_n (by omega)]
        exact s3 m (by omega)
    · dsimp only
      rw [mset_n (by omega), mset_n (by omega), mset_n (by omega)]
      exact s4 q hq
    · have hq' : q < (addD d l w i).2.2.2.2.2 := hq
      rw [hnn] at hq'
      dsimp only
      rw [mset_n (by omega), mset_n (by omega), mset_n (by omega)]
      exact s5 q hq'
  · rintro ⟨j, N⟩ ⟨h1, h2, hnn, h3⟩
    dsimp only at h1 h2 h3
    subst h1
    unfold f_X9_bring_l3
    dsimp only
    exact Ok.pos (nI_le (Nat.le_refl _) (by omega)) (Ok.of ⟨h2, h3⟩)
  · exact ⟨rfl, hs, rfl, Off.rf⟩
