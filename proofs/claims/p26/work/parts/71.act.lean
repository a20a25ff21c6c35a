/-! the law's actions: forget, withdraw, all -/
theorem act_forget {d : Dt} {D : Nat → Dt} {next kept s2 : Nat} {y : Int32} {M : Mem} (h : Cr d D next kept M) (hz : LzD d M) (hc : LcD d M) (h0 : 0 < s2) (h9 : s2 ≤ d.2.2.2.2.1) : Ok (f_L_act_j274 1 y (nI s2) M) (fun r => AP d kept r) := by
  have hn := hz.1
  have hnc := hc.1
  unfold f_L_act_j274
  obtain ⟨k0, hk0, ek⟩ := ats y (n := s2) h0 (by omega)
  refine Ok.eqb (ek M) (Ok.eqb r930 ?_)
  obtain ⟨k, hk⟩ : ∃ k, k = 1 + k0 := ⟨_, rfl⟩
  have hkn : 1 ≤ k ∧ k ≤ d.2.2.2.2.1 := by omega
  rw [hz.2.1, show (1 : Int32) + nI k0 = nI k by rw [hk]; exact nI_add 1 k0, nI_sub hkn.2 (by omega)]
  refine Ok.eqb (show wr _ 93 2 0 _ = some (mset _ 93 0 _) from wr_nI (k := 0) (by decide) (by decide)) ?_
  have e93 : mset M 93 0 (nI (d.2.2.2.2.1 - k)) 93 0 = nI (d.2.2.2.2.1 - k) := mset_s
  have e93b : mset M 93 0 (nI (d.2.2.2.2.1 - k)) 93 1 = nI d.2.2.2.2.2 := by
    rw [mset_n (by decide)]
    exact hc.2.1
  have o1 : Off (fun c => c = 93) M (mset M 93 0 (nI (d.2.2.2.2.1 - k))) := Off.rf.set rfl
  generalize mset M 93 0 (nI (d.2.2.2.2.1 - k)) = M1 at e93 e93b o1 ⊢
  refine Ok.bind (P := fun N => (∀ m, m < d.2.2.2.2.1 - k → N 90 m = d.1 (m + k) ∧ N 91 m = d.2.1 (m + k)) ∧ Off (fun c => c = 90 ∨ c = 91) M1 N) ?_ ?_
  · refine loop_FU (fun i z => z.1 = nI i ∧ (∀ m, m < i → z.2 90 m = d.1 (m + k) ∧ z.2 91 m = d.2.1 (m + k)) ∧ (∀ m, i ≤ m → m < d.2.2.2.2.1 → z.2 90 m = d.1 m ∧ z.2 91 m = d.2.1 m) ∧ Off (fun c => c = 90 ∨ c = 91) M1 z.2) _ (d.2.2.2.2.1 - k) (by omega) ?_ ?_ ⟨rfl, fun m hm => absurd hm (Nat.not_lt_zero m), fun m _ hm => ?_, Off.rf⟩
    · rintro i ⟨j, N⟩ hi ⟨g1, g2, g3, g4⟩
      dsimp only at g1 g2 g3 g4
      subst g1
      obtain ⟨q1, q2⟩ := g3 (i + k) (by omega) (by omega)
      unfold f_L_act_l292
      dsimp only
      refine Ok.eqb r930 ?_
      rw [g4 93 (by omega), e93]
      refine Ok.neg (nI_ge hi (by omega)) ?_
      rw [nI_add]
      refine Ok.eqb (rd_nI (by omega) (by decide)) (Ok.eqb (wr_nI (by omega) (by decide)) (Ok.eqb (rd_nI (by omega) (by decide)) (Ok.eqb (wr_nI (by omega) (by decide)) (Ok.of ⟨nI_1 i, fun m hm => ?_, fun m hm hm2 => ?_, (g4.set (by omega)).set (by omega)⟩))))
      · dsimp only
        rw [mset_o (c := 90) (c' := 91) (by decide), q1, q2, mset_o (c := 91) (c' := 90) (by decide)]
        by_cases hmi : m = i
        · rw [hmi, mset_s, mset_s]
          exact ⟨rfl, rfl⟩
        · rw [mset_n hmi, mset_n hmi, mset_o (c' := 91) (by decide)]
          exact g2 m (by omega)
      · dsimp only
        rw [mset_o (c := 91) (c' := 90) (by decide), mset_n (by omega), mset_n (by omega), mset_o (c' := 91) (by decide)]
        exact g3 m (by omega) hm2
    · rintro ⟨j, N⟩ ⟨g1, g2, g3, g4⟩
      dsimp only at g1 g2 g3 g4
      subst g1
      unfold f_L_act_l292
      dsimp only
      refine Ok.eqb r930 ?_
      rw [g4 93 (by omega), e93]
      exact Ok.pos (nI_le (Nat.le_refl _) (by omega)) (Ok.of ⟨g2, g4⟩)
    · dsimp only
      rw [o1 90 (by omega), o1 91 (by omega)]
      exact hz.2.2.1 m hm
  · rintro M2 ⟨hm2, o2⟩
    refine Ok.bind (P := fun N => (∀ c, c < d.2.2.2.2.2 → N 92 c = nI ((d.2.2.1 c).toInt.toNat - k)) ∧ Off (fun c => c = 92) M2 N) ?_ ?_
    · refine loop_FU (fun i z => z.1 = nI i ∧ (∀ c, c < i → z.2 92 c = nI ((d.2.2.1 c).toInt.toNat - k)) ∧ (∀ c, i ≤ c → c < d.2.2.2.2.2 → z.2 92 c = d.2.2.1 c) ∧ Off (fun c => c = 92) M2 z.2) _ d.2.2.2.2.2 (by omega) ?_ ?_ ⟨rfl, fun c hc => absurd hc (Nat.not_lt_zero c), fun c _ hc2 => ?_, Off.rf⟩
      · rintro i ⟨j, N⟩ hi ⟨g1, g2, g3, g4⟩
        dsimp only at g1 g2 g3 g4
        subst g1
        obtain ⟨q1, w, hw, q2⟩ := hc.2.2 i hi
        have q3 := g3 i (Nat.le_refl _) hi
        unfold f_L_act_l336
        dsimp only
        refine Ok.eqb r931 ?_
        rw [g4 93 (by omega), o2 93 (by omega), e93b]
        refine Ok.neg (nI_ge hi (by omega)) (Ok.eqb (rd_nI (by omega) (by decide)) ?_)
        have r92 : rd N 92 6 (nI i) = some (nI w) := by
          rw [rd_nI (by omega) (by decide), q3, q2]
        rw [q3, q2]
        have hcm : (d.2.2.1 i).toInt.toNat = w := by rw [q2]; exact cm_n hw
        have fin : ∀ v : Int32, v = nI (w - k) → Ok (f_L_act_j371 (nI k) (nI i) (nI i) v N) (fun o => Sum.elim (fun z => z.1 = nI (i + 1) ∧ (∀ c, c < i + 1 → z.2 92 c = nI ((d.2.2.1 c).toInt.toNat - k)) ∧ (∀ c, i + 1 ≤ c → c < d.2.2.2.2.2 → z.2 92 c = d.2.2.1 c) ∧ Off (fun c => c = 92) M2 z.2) (fun N => (∀ c, c < d.2.2.2.2.2 → N 92 c = nI ((d.2.2.1 c).toInt.toNat - k)) ∧ Off (fun c => c = 92) M2 N) o) := by
          intro v hv
          unfold f_L_act_j371
          refine Ok.eqb (wr_nI (by omega) (by decide)) (Ok.of ⟨nI_1 i, fun c hc9 => ?_, fun c hc9 hc8 => ?_, g4.set rfl⟩)
          · dsimp only
            by_cases hci : c = i
            · rw [hci, mset_s, hv, hcm]
            · rw [mset_n hci]
              exact g2 c (by omega)
          · dsimp only
            rw [mset_n (by omega)]
            exact g3 c (by omega) hc8
        refine Ok.ite (fun c => fin _ ?_) (fun c => Ok.eqb r92 (fin _ ?_))
        · have := (n_le (by omega) (by omega)).mp c
          rw [show w - k = 0 by omega]
          rfl
        · have : ¬ w ≤ k := fun z => c ((n_le (by omega) (by omega)).mpr z)
          exact nI_sub (by omega) (by omega)
      · rintro ⟨j, N⟩ ⟨g1, g2, g3, g4⟩
        dsimp only at g1 g2 g3 g4
        subst g1
        unfold f_L_act_l336
        dsimp only
        refine Ok.eqb r931 ?_
        rw [g4 93 (by omega), o2 93 (by omega), e93b]
        exact Ok.pos (nI_le (Nat.le_refl _) (by omega)) (Ok.of ⟨g2, g4⟩)
      · dsimp only
        rw [o2 92 (by omega), o1 92 (by omega)]
        exact (hc.2.2 c hc2).1
    · rintro M3 ⟨hc3, o3⟩
      have hz' : LzD (forD d k) M3 := by
        refine ⟨show d.2.2.2.2.1 - k ≤ 60 by omega, ?_, fun m hm => ?_, ?_⟩
        · rw [o3 93 (by omega), o2 93 (by omega)]
          exact e93
        · have hm' : m < d.2.2.2.2.1 - k := hm
          rw [o3 90 (by omega), o3 91 (by omega)]
          show _ = (if m < d.2.2.2.2.1 - k then d.1 (m + k) else 0) ∧ _ = (if m < d.2.2.2.2.1 - k then d.2.1 (m + k) else 0)
          rw [if_pos hm', if_pos hm']
          exact hm2 m hm'
        · rw [o3 94 (by omega), o2 94 (by omega), o1 94 (by omega)]
          exact hz.2.2.2
      have hc' : LcD (forD d k) M3 := by
        show Lc (fun i => nI ((d.2.2.1 i).toInt.toNat - k)) d.2.2.2.2.2 M3
        refine ⟨hnc, ?_, fun c hc2 => ⟨hc3 c hc2, ?_⟩⟩
        · rw [o3 93 (by omega), o2 93 (by omega)]
          exact e93b
        · obtain ⟨q1, w, hw, q2⟩ := hc.2.2 c hc2
          refine ⟨w - k, by omega, ?_⟩
          show nI ((d.2.2.1 c).toInt.toNat - k) = nI (w - k)
          rw [q2, cm_n hw]
      have hN : Cr d D next kept M3 := Cr_off h (fun c hc => by rw [o3 c (by omega), o2 c (by omega), o1 c (by omega)])
      obtain ⟨hv', ht⟩ := forget_a hN hkn
      refine Ok.bind ht ?_
      rintro ⟨r, M4⟩ ⟨e1, p⟩
      dsimp only at e1 p
      refine Ok.eqb r930 (Ok.pos ?_ (Ok.of (AP_pc hN hv' p hz' hc')))
      show r = M4 93 0
      rw [e1, p.2.2.2 93 (by omega)]
      exact hz'.2.1.symm
theorem act_withdraw {d : Dt} {D : Nat → Dt} {next kept c : Nat} {M : Mem} (h : Cr d D next kept M) (hz : LzD d M) (hc : LcD d M) (hcn : c < d.2.2.2.2.2) :
    Ok ((f_X8_complaint (nI c) 1 M).bind fun r42 => (rd M 93 2 1).bind fun x43 => (wr M 93 2 1 (x43 - 1)).bind fun M44 => (loopN (f_L_act_l523 (nI c) r42) FU (nI c, M44)).bind fun o49 => (f_X8_withdraw (nI c) o49).bind fun r50 => if r50.1 = r42 then some (1, r50.2) else some (0, r50.2)) (fun r => AP d kept r) := by
  have hnc := hc.1
  refine Ok.eqb (complaint_a (w := 1) h hcn (by decide)) (Ok.eqb r931 ?_)
  rw [hc.2.1, nI_p1 (by omega)]
  refine Ok.eqb (show wr _ 93 2 1 _ = some (mset _ 93 1 _) from wr_nI (k := 1) (by decide) (by decide)) ?_
  have e93 : mset M 93 1 (nI (d.2.2.2.2.2 - 1)) 93 1 = nI (d.2.2.2.2.2 - 1) := mset_s
  have e93b : mset M 93 1 (nI (d.2.2.2.2.2 - 1)) 93 0 = nI d.2.2.2.2.1 := by
    rw [mset_n (by decide)]
    exact hz.2.1
  have o1 : Off (fun c => c = 93) M (mset M 93 1 (nI (d.2.2.2.2.2 - 1))) := Off.rf.set rfl
  generalize mset M 93 1 (nI (d.2.2.2.2.2 - 1)) = M1 at e93 e93b o1 ⊢
  refine Ok.bind (P := fun N => (∀ k, k < d.2.2.2.2.2 - 1 → N 92 k = if k < c then d.2.2.1 k else d.2.2.1 (k + 1)) ∧ Off (fun c => c = 92) M1 N) ?_ ?_
  · refine loop_FU (fun i z => z.1 = nI (c + i) ∧ (∀ k, k < c + i → k < d.2.2.2.2.2 - 1 → z.2 92 k = if k < c then d.2.2.1 k else d.2.2.1 (k + 1)) ∧ (∀ k, c + i ≤ k → k < d.2.2.2.2.2 → z.2 92 k = d.2.2.1 k) ∧ Off (fun c => c = 92) M1 z.2) _ (d.2.2.2.2.2 - 1 - c) (by omega) ?_ ?_ ⟨rfl, fun k hk _ => ?_, fun k _ hk => ?_, Off.rf⟩
    · rintro i ⟨j, N⟩ hi ⟨g1, g2, g3, g4⟩
      dsimp only at g1 g2 g3 g4
      subst g1
      have q3 := g3 (c + i + 1) (by omega) (by omega)
      unfold f_L_act_l523
      dsimp only
      refine Ok.eqb r931 ?_
      rw [g4 93 (by omega), e93]
      refine Ok.neg (nI_ge (by omega) (by omega)) ?_
      rw [nI_1]
      refine Ok.eqb (rd_nI (by omega) (by decide)) ?_
      rw [q3]
      refine Ok.eqb (wr_nI (by omega) (by decide)) (Ok.of ⟨rfl, fun k hk hk2 => ?_, fun k hk hk2 => ?_, g4.set rfl⟩)
      · dsimp only
        by_cases hki : k = c + i
        · rw [hki, mset_s, if_neg (by omega)]
        · rw [mset_n hki]
          exact g2 k (by omega) hk2
      · dsimp only
        rw [mset_n (by omega)]
        exact g3 k (by omega) hk2
    · rintro ⟨j, N⟩ ⟨g1, g2, g3, g4⟩
      dsimp only at g1 g2 g3 g4
      subst g1
      unfold f_L_act_l523
      dsimp only
      refine Ok.eqb r931 ?_
      rw [g4 93 (by omega), e93]
      exact Ok.pos (nI_le (by omega) (by omega)) (Ok.of ⟨fun k hk => g2 k (by omega) hk, g4⟩)
    · dsimp only
      have hk' : k < c := hk
      rw [if_pos hk', o1 92 (by omega)]
      exact (hc.2.2 k (by omega)).1
    · dsimp only
      rw [o1 92 (by omega)]
      exact (hc.2.2 k hk).1
  · rintro M3 ⟨hc3, o3⟩
    have hz' : LzD (wdrD d c) M3 := by
      refine ⟨hz.1, ?_, ?_, ?_⟩
      · rw [o3 93 (by omega)]
        exact e93b
      · rw [o3 90 (by omega), o3 91 (by omega), o1 90 (by omega), o1 91 (by omega)]
        exact hz.2.2.1
      · rw [o3 94 (by omega), o1 94 (by omega)]
        exact hz.2.2.2
    have hc' : LcD (wdrD d c) M3 := by
      show Lc (fun k => if k < c then d.2.2.1 k else d.2.2.1 (k + 1)) (d.2.2.2.2.2 - 1) M3
      refine ⟨by omega, ?_, fun k hk => ⟨hc3 k hk, ?_⟩⟩
      · rw [o3 93 (by omega)]
        exact e93
      · by_cases hkc : k < c
        · obtain ⟨w, hw, q⟩ := (hc.2.2 k (by omega)).2
          exact ⟨w, hw, by dsimp only; rw [if_pos hkc]; exact q⟩
        · obtain ⟨w, hw, q⟩ := (hc.2.2 (k + 1) (by omega)).2
          exact ⟨w, hw, by dsimp only; rw [if_neg hkc]; exact q⟩
    have hN : Cr d D next kept M3 := Cr_off h (fun c hc => by rw [o3 c (by omega), o1 c (by omega)])
    obtain ⟨hv', ht⟩ := withdraw_a hN hcn
    refine Ok.bind ht ?_
    rintro ⟨r, M4⟩ ⟨e1, p⟩
    exact Ok.pos (e1.trans (cP1 d c).symm) (Ok.of (AP_pc hN hv' p hz' hc'))
theorem act_80 {d : Dt} {D : Nat → Dt} {next kept l w : Nat} {a x y : Int32} {M : Mem} (h : Cr d D next kept M) (hz : LzD d M) (hc : LcD d M) (hl : l ≤ 140) (hw : w ≤ 40) : Ok (f_L_act_j80 a x y (nI l) (nI w) M) (fun r => AP d kept r) := by
  have hn := hz.1
  have hnc := hc.1
  unfold f_L_act_j80
  refine Ok.ite (fun _ => act_tell h hz hc hl hw) (fun _ => Ok.eqb r930 ?_)
  rw [hz.2.1]
  refine Ok.ite (fun _ => act_tell h hz hc hl hw) (fun c0 => ?_)
  have hn0 : d.2.2.2.2.1 ≠ 0 := fun q => c0 (by rw [q]; rfl)
  refine Ok.ite (fun _ => Ok.ite (fun _ => Ok.eqb r930 ?_) (fun _ => Ok.ite (fun _ => Ok.ite (fun _ => Ok.eqb r931 ?_) (fun _ => ?_)) (fun _ => Ok.eqb r931 ?_))) (fun _ => Ok.eqb r930 ?_)
  · -- forget
    rw [hz.2.1]
    refine Ok.ite (fun c => act_forget (s2 := 9) h hz hc (by decide) ((n_le (a := 9) (by decide) (by omega)).mp c)) (fun c => Ok.eqb r930 ?_)
    rw [hz.2.1]
    exact act_forget h hz hc (by omega) (Nat.le_refl _)
  · -- withdraw
    rw [hc.2.1]
    refine Ok.ite (fun _ => Ok.of (AP_same h hz hc hn0)) (fun c => Ok.eqb r931 ?_)
    have hc0 : d.2.2.2.2.2 ≠ 0 := fun q => c (by rw [q]; rfl)
    rw [hc.2.1]
    obtain ⟨k, hk, ek⟩ := ats x (n := d.2.2.2.2.2) (by omega) (by omega)
    exact Ok.eqb (ek M) (act_withdraw h hz hc hk)
  · -- set
    obtain ⟨k, hk, ek⟩ := ats x (n := 10) (by decide) (by decide)
    exact Ok.eqb (ek M) (act_set h hz hc hk)
  · -- complain
    rw [hc.2.1]
    refine Ok.ite (fun _ => Ok.of (AP_same h hz hc hn0)) (fun c => Ok.eqb r931 ?_)
    have h6 : d.2.2.2.2.2 ≠ 6 := fun q => c (by rw [q]; rfl)
    rw [hc.2.1]
    obtain ⟨k, hk, ek⟩ := ats x (n := 3) (by decide) (by decide)
    refine Ok.eqb (ek M) (Ok.ite (fun _ => act_complain (n3 := 301) h hz hc (by decide) (by decide) h6) (fun _ => act_complain (n3 := 60) h hz hc (by decide) (by decide) h6))
  · -- correct
    rw [hz.2.1]
    obtain ⟨k, hk, ek⟩ := ats (x >>> (9 &&& 31)) (n := d.2.2.2.2.1) (by omega) (by omega)
    exact Ok.eqb (ek M) (act_correct h hz hc hl hw hk)
theorem act_l {d : Dt} {D : Nat → Dt} {next kept : Nat} {M : Mem} (a x y : Int32) (h : Cr d D next kept M) (hz : LzD d M) (hc : LcD d M) : Ok (f_L_act a x y M) (fun r => AP d kept r) := by
  have j53 : ∀ l : Nat, l ≤ 140 → Ok (f_L_act_j53 a x y (nI l) M) (fun r => AP d kept r) := by
    intro l hl
    unfold f_L_act_j53
    obtain ⟨k, hk, ek⟩ := ats y (n := 4) (by decide) (by decide)
    obtain ⟨w1, h1, e1⟩ := ats (y >>> (2 &&& 31)) (n := 41) (by decide) (by decide)
    obtain ⟨w2, h2, e2⟩ := ats (y >>> (2 &&& 31)) (n := 12) (by decide) (by decide)
    exact Ok.eqb (ek M) (Ok.ite (fun _ => Ok.eqb (e1 M) (act_80 h hz hc hl (by omega))) (fun _ => Ok.eqb (e2 M) (act_80 h hz hc hl (by omega))))
  have j37 : ∀ l s : Nat, l ≤ 140 → s ≤ 50 → Ok (f_L_act_j37 a x y (nI l) (nI s) M) (fun r => AP d kept r) := by
    intro l s hl hs
    unfold f_L_act_j37
    rw [nI_add]
    exact Ok.ite (fun c => j53 _ ((n_le (b := 140) (by omega) (by decide)).mp c)) (fun _ => j53 140 (by decide))
  have j19 : ∀ n : Nat, 0 < n → n ≤ 141 → Ok (f_L_act_j19 a x y (x >>> (2 &&& 31)) (nI n) M) (fun r => AP d kept r) := by
    intro n h0 hn
    unfold f_L_act_j19
    obtain ⟨l, hl, el⟩ := ats (x >>> (2 &&& 31)) (n := n) h0 (by omega)
    obtain ⟨k, hk, ek⟩ := ats x (n := 3) (by decide) (by decide)
    exact Ok.eqb (el M) (Ok.eqb (ek M) (Ok.ite (fun _ => j37 l 50 (by omega) (by decide)) (fun _ => j37 l 0 (by omega) (by decide))))
  unfold f_L_act
  obtain ⟨k, hk, ek⟩ := ats x (n := 3) (by decide) (by decide)
  exact Ok.eqb (ek M) (Ok.ite (fun _ => j19 141 (by decide) (by decide)) (fun _ => j19 60 (by decide) (by decide)))
