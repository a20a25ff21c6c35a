/-! the digest, as the model makes it -/
theorem dv_n {k c : Nat} (hk : k < 2 ^ 31) (hc : 0 < c) (hc2 : c < 2 ^ 31) : dvI (nI k) (nI c) = some (nI (k / c)) := by
  rw [dvI_t (by rw [i_nI hc2]; omega)]
  refine congrArg some (i_eq.mpr ?_)
  have := Nat.div_le_self k c
  rw [i_div (by rw [i_nI hc2]; omega), i_nI hk, i_nI hc2, i_nI (by omega), Int.tdiv_eq_ediv_of_nonneg (by omega)]
  exact (Int.natCast_ediv k c).symm
theorem rm_n {k c : Nat} (hk : k < 2 ^ 31) (hc : 0 < c) (hc2 : c < 2 ^ 31) : rmI (nI k) (nI c) = some (nI (k % c)) := by
  have h1 := dv_n hk hc hc2
  unfold dvI at h1
  have h0 : ¬ nI c = 0 := nI_ne0 hc hc2
  rw [if_neg h0] at h1
  have h2 : nI k / nI c = nI (k / c) := Option.some.inj h1
  unfold rmI
  rw [if_neg h0, h2, nI_mul, nI_sub (by rw [Nat.mul_comm]; exact Nat.mul_div_le k c) hk]
  refine congrArg (fun x => some (nI x)) ?_
  have := Nat.div_add_mod k c
  rw [Nat.mul_comm] at this
  omega
theorem mix_e {a : Int64} {M : Mem} {L : Lng} : Ok (f_X9_mix a M L) (fun L' => L' 0 = 31 * L 0 + a) := Ok.of (if_pos rfl)
def AllM (d : Dt) (kept : Nat) (M : Mem) : Prop := My d.1 d.2.1 (mSt M) d.2.2.1 d.2.2.2.2.1 d.2.2.2.2.2 M ∧ My d.1 d.2.1 d.2.2.2.1 d.2.2.1 d.2.2.2.2.1 d.2.2.2.2.2 M ∧ Zc (M 91) d ∧ M 90 2 = nI kept
theorem dig1_m {d : Dt} {kept : Nat} {M : Mem} {L : Lng} (hv : Vd d) (h : AllM d kept M) (hL : L 0 = 2161) : Ok (loopN (f_X9_mixAll_l2 M) FU (0, L)) (fun r => r 0 = dg1 d kept) := by
  obtain ⟨b1, b2, b3, b4⟩ := h
  refine loop_FU (fun i (z : Int32 × Lng) => z.1 = nI i ∧ z.2 0 = hz (fun w => Int32.toInt64 (cK d kept w)) 2161 i) _ 12 (by decide) ?_ ?_ ⟨rfl, hL⟩
  · rintro i ⟨j, K⟩ hi ⟨h1, h2⟩
    dsimp only at h1 h2
    subst h1
    unfold f_X9_mixAll_l2
    dsimp only
    refine Ok.neg (nI_ge (b := 12) hi (by decide)) (Ok.eqb (counted_m b1 (Zc_zC hv b3) hv.2.2.2.1 (Zc_ok hv b3) hv.1 i (by omega)) (Ok.bind mix_e ?_))
    rintro K' hK
    refine Ok.of ⟨nI_1 i, ?_⟩
    dsimp only
    rw [hK, h2, b4, cN_st (Zc_st b3) i]
    rfl
  · rintro ⟨j, K⟩ ⟨h1, h2⟩
    dsimp only at h1 h2
    subst h1
    unfold f_X9_mixAll_l2
    dsimp only
    exact Ok.pos (by decide) (Ok.of h2)
theorem dig2_m {d : Dt} {kept : Nat} {M : Mem} {L : Lng} (h : AllM d kept M) (hL : L 0 = dg1 d kept) : Ok (loopN (f_X9_mixAll_l26 M) FU (0, L)) (fun r => r 0 = dg2 d kept) := by
  obtain ⟨b1, b2, b3, b4⟩ := h
  refine loop_FU (fun i (z : Int32 × Lng) => z.1 = nI i ∧ z.2 0 = hz (fun k => Int32.toInt64 (d.2.2.2.1 k)) (dg1 d kept) i) _ 10 (by decide) ?_ ?_ ⟨rfl, hL⟩
  · rintro i ⟨j, K⟩ hi ⟨h1, h2⟩
    dsimp only at h1 h2
    subst h1
    unfold f_X9_mixAll_l26
    dsimp only
    refine Ok.neg (nI_ge (b := 10) hi (by decide)) (Ok.eqb (of_m i (by omega)) (Ok.bind mix_e ?_))
    rintro K' hK
    refine Ok.of ⟨nI_1 i, ?_⟩
    dsimp only
    rw [hK, h2, Zc_st b3 i hi]
    rfl
  · rintro ⟨j, K⟩ ⟨h1, h2⟩
    dsimp only at h1 h2
    subst h1
    unfold f_X9_mixAll_l26
    dsimp only
    exact Ok.pos (by decide) (Ok.of h2)
theorem dig3_m {d : Dt} {kept : Nat} {M : Mem} {L : Lng} (hv : Vd d) (h : AllM d kept M) (hL : L 0 = dg2 d kept) : Ok (loopN (f_X9_mixAll_l50 M) FU (0, L)) (fun r => r 0 = dg3 d kept) := by
  obtain ⟨b1, b2, b3, b4⟩ := h
  have hn := hv.1
  have e6 : M 90 6 = nI d.2.2.2.2.1 := b2.1.1
  refine Ok.mono (P := fun r => r 0 = hz (fun j => Int32.toInt64 (mP d (j / 8) (j % 8))) (dg2 d kept) (8 * d.2.2.2.2.1)) ?_ (fun r hr => by rw [hr]; unfold dg3; rw [hz_flat (by decide)])
  refine loop_FU (fun i (z : Int32 × Lng) => z.1 = nI i ∧ z.2 0 = hz (fun j => Int32.toInt64 (mP d (j / 8) (j % 8))) (dg2 d kept) i) _ (8 * d.2.2.2.2.1) (by omega) ?_ ?_ ⟨rfl, hL⟩
  · rintro i ⟨j, K⟩ hi ⟨h1, h2⟩
    dsimp only at h1 h2
    subst h1
    unfold f_X9_mixAll_l50
    dsimp only
    refine Ok.neg (by rw [e6, show (8 : Int32) * nI d.2.2.2.2.1 = nI (8 * d.2.2.2.2.1) from nI_mul 8 _]; exact nI_ge hi (by omega)) ?_
    refine Ok.eqb (show dvI (nI i) 8 = some (nI (i / 8)) from dv_n (c := 8) (by omega) (by decide) (by decide)) ?_
    refine Ok.eqb (show rmI (nI i) 8 = some (nI (i % 8)) from rm_n (c := 8) (by omega) (by decide) (by decide)) ?_
    refine Ok.eqb (minuteNow_m hv b2 (Zc_st b3) (by omega) (by omega)) (Ok.bind mix_e ?_)
    rintro K' hK
    refine Ok.of ⟨nI_1 i, ?_⟩
    dsimp only
    rw [hK, h2]
    rfl
  · rintro ⟨j, K⟩ ⟨h1, h2⟩
    dsimp only at h1 h2
    subst h1
    unfold f_X9_mixAll_l50
    dsimp only
    exact Ok.pos (by rw [e6, show (8 : Int32) * nI d.2.2.2.2.1 = nI (8 * d.2.2.2.2.1) from nI_mul 8 _]; exact nI_le (Nat.le_refl _) (by omega)) (Ok.of h2)
theorem dig4_m {d : Dt} {kept : Nat} {M : Mem} {L : Lng} (hv : Vd d) (h : AllM d kept M) (hL : L 0 = dg3 d kept) : Ok (loopN (f_X9_mixAll_l86 M) FU (0, L)) (fun r => r 0 = dg4 d kept) := by
  obtain ⟨b1, b2, b3, b4⟩ := h
  have hn := hv.1
  have hle := dCn_le hv
  have e6 : M 90 13 = nI (dCn d) := b2.1.2.2.1
  refine Ok.mono (P := fun r => r 0 = hz (fun j => Int32.toInt64 (eP d (j / 6) (j % 6))) (dg3 d kept) (6 * dCn d)) ?_ (fun r hr => by rw [hr]; unfold dg4; rw [hz_flat (by decide)])
  refine loop_FU (fun i (z : Int32 × Lng) => z.1 = nI i ∧ z.2 0 = hz (fun j => Int32.toInt64 (eP d (j / 6) (j % 6))) (dg3 d kept) i) _ (6 * dCn d) (by omega) ?_ ?_ ⟨rfl, hL⟩
  · rintro i ⟨j, K⟩ hi ⟨h1, h2⟩
    dsimp only at h1 h2
    subst h1
    unfold f_X9_mixAll_l86
    dsimp only
    refine Ok.neg (by rw [e6, show (6 : Int32) * nI (dCn d) = nI (6 * dCn d) from nI_mul 6 _]; exact nI_ge hi (by omega)) ?_
    refine Ok.eqb (show dvI (nI i) 6 = some (nI (i / 6)) from dv_n (c := 6) (by omega) (by decide) (by decide)) ?_
    refine Ok.eqb (show rmI (nI i) 6 = some (nI (i % 6)) from rm_n (c := 6) (by omega) (by decide) (by decide)) ?_
    refine Ok.eqb (excNow_m hv b2 (by omega) (by omega)) (Ok.bind mix_e ?_)
    rintro K' hK
    refine Ok.of ⟨nI_1 i, ?_⟩
    dsimp only
    rw [hK, h2]
    rfl
  · rintro ⟨j, K⟩ ⟨h1, h2⟩
    dsimp only at h1 h2
    subst h1
    unfold f_X9_mixAll_l86
    dsimp only
    exact Ok.pos (by rw [e6, show (6 : Int32) * nI (dCn d) = nI (6 * dCn d) from nI_mul 6 _]; exact nI_le (Nat.le_refl _) (by omega)) (Ok.of h2)
theorem dig5_m {d : Dt} {kept : Nat} {M : Mem} {L : Lng} (hv : Vd d) (h : AllM d kept M) (hL : L 0 = dg4 d kept) : Ok (loopN (f_X9_mixAll_l122 M) FU (0, L)) (fun r => r 0 = dg5 d kept) := by
  obtain ⟨b1, b2, b3, b4⟩ := h
  have hn := hv.2.1
  have e11 : rd M 91 432 411 = some (nI d.2.2.2.2.2) := by
    rw [show rd M 91 432 411 = some (M 91 411) from rd91 (k := 411) (by decide), b3.2.1]
  refine loop_FU (fun i (z : Int32 × Lng) => z.1 = nI i ∧ z.2 0 = hzz (fun m w => Int32.toInt64 (cP d m w)) 2 (dg4 d kept) i) _ d.2.2.2.2.2 (by omega) ?_ ?_ ⟨rfl, hL⟩
  · rintro i ⟨j, K⟩ hi ⟨h1, h2⟩
    dsimp only at h1 h2
    subst h1
    unfold f_X9_mixAll_l122
    dsimp only
    refine Ok.eqb e11 (Ok.neg (nI_ge hi (by omega)) ?_)
    rw [n412]
    refine Ok.eqb (rd91 (by omega)) (Ok.bind mix_e ?_)
    rintro K1 hK1
    refine Ok.eqb (rd_nI (by omega) (by decide)) (Ok.bind mix_e ?_)
    rintro K2 hK2
    refine Ok.of ⟨nI_1 i, ?_⟩
    dsimp only
    rw [hK2, hK1, h2, b3.2.2.2.2 i hi, b2.2.1 i hi]
    rfl
  · rintro ⟨j, K⟩ ⟨h1, h2⟩
    dsimp only at h1 h2
    subst h1
    unfold f_X9_mixAll_l122
    dsimp only
    exact Ok.eqb e11 (Ok.pos (nI_le (Nat.le_refl _) (by omega)) (Ok.of h2))
theorem dig6_m {d : Dt} {kept : Nat} {M : Mem} {L : Lng} (hv : Vd d) (h : AllM d kept M) (hL : L 0 = dg5 d kept) : Ok (loopN (f_X9_mixAll_l168 M) FU (0, L)) (fun r => r 0 = dg6 d kept) := by
  obtain ⟨b1, b2, b3, b4⟩ := h
  refine loop_FU (fun i (z : Int32 × Lng) => z.1 = nI (10 * i) ∧ z.2 0 = hz (fun i => Int32.toInt64 (nI (dGl d (10 * i)))) (dg5 d kept) i) _ 15 (by decide) ?_ ?_ ⟨rfl, hL⟩
  · rintro i ⟨j, K⟩ hi ⟨h1, h2⟩
    dsimp only at h1 h2
    subst h1
    unfold f_X9_mixAll_l168
    dsimp only
    refine Ok.neg (nI_nlt (b := 10 * i) (a := 140) (by omega) (by decide)) (Ok.eqb (countFrom_m b2.1 hv.2.2.2.1 hv.2.2.2.2.1 hv.1 (by omega)) (Ok.bind mix_e ?_))
    rintro K' hK
    refine Ok.of ⟨nI_add _ 10, ?_⟩
    dsimp only
    rw [hK, h2]
    rfl
  · rintro ⟨j, K⟩ ⟨h1, h2⟩
    dsimp only at h1 h2
    subst h1
    unfold f_X9_mixAll_l168
    dsimp only
    exact Ok.pos (by decide) (Ok.of h2)
theorem dig7_m {d : Dt} {kept : Nat} {M : Mem} {L : Lng} (hv : Vd d) (h : AllM d kept M) (hL : L 0 = 2161) : Ok (f_X9_mixAll M L) (fun r => r 0 = dg7 d kept) := by
  have pc : ∀ c, f_X9_percentNow c M = some (dPc d c) := fun c => percentNow_m h.2.1.1 hv.2.2.2.1 hv.2.2.2.2.1 hv.1
  unfold f_X9_mixAll
  refine Ok.bind (dig1_m hv h hL) (fun L1 h1 => ?_)
  refine Ok.bind (dig2_m h h1) (fun L2 h2 => ?_)
  refine Ok.bind (dig3_m hv h h2) (fun L3 h3 => ?_)
  refine Ok.bind (dig4_m hv h h3) (fun L4 h4 => ?_)
  refine Ok.bind (dig5_m hv h h4) (fun L5 h5 => ?_)
  refine Ok.bind (dig6_m hv h h5) (fun L6 h6 => ?_)
  refine Ok.eqb (pc 1) (Ok.bind mix_e (fun K1 k1 => ?_))
  refine Ok.eqb (pc 10) (Ok.bind mix_e (fun K2 k2 => ?_))
  refine Ok.eqb (pc 50) (Ok.bind mix_e (fun K3 k3 => ?_))
  refine Ok.eqb (pc 90) (Ok.bind mix_e (fun K4 k4 => ?_))
  refine Ok.eqb (pc 100) (Ok.bind mix_e (fun K5 k5 => ?_))
  refine Ok.of ?_
  rw [k5, k4, k3, k2, k1, h6]
  rfl
theorem dig9_m {d : Dt} {kept t : Nat} {M : Mem} {L : Lng} {code : Nat → Int32} (ht : t ≤ 60) (h4 : M 90 4 = nI t) (hc : ∀ i, i < t → M 93 i = code i) (hL : L 0 = 31 * (31 * dg8 d kept + UInt64.toInt64 (shD d)) + Int32.toInt64 (nI t)) : Ok (loopN (f_X9_digest_l65 M) FU (0, L)) (fun r => r 0 = dg9 d kept t code) := by
  refine loop_FU (fun i (z : Int32 × Lng) => z.1 = nI i ∧ z.2 0 = hz (fun i => Int32.toInt64 (code i)) (31 * (31 * dg8 d kept + UInt64.toInt64 (shD d)) + Int32.toInt64 (nI t)) i) _ t (by omega) ?_ ?_ ⟨rfl, hL⟩
  · rintro i ⟨j, K⟩ hi ⟨h1, h2⟩
    dsimp only at h1 h2
    subst h1
    unfold f_X9_digest_l65
    dsimp only
    refine Ok.neg (by rw [h4]; exact nI_ge hi (by omega)) (Ok.eqb (rd_nI (by omega) (by decide)) (Ok.bind mix_e ?_))
    rintro K' hK
    refine Ok.of ⟨nI_1 i, ?_⟩
    dsimp only
    rw [hK, h2, hc i hi]
    rfl
  · rintro ⟨j, K⟩ ⟨h1, h2⟩
    dsimp only at h1 h2
    subst h1
    unfold f_X9_digest_l65
    dsimp only
    exact Ok.pos (by rw [h4]; exact nI_le (Nat.le_refl _) (by omega)) (Ok.of h2)
theorem d2b_m {s : UInt64} {M : Mem} (h : isSh s) : f_Jxe99ae_doubleToLongBits_ccdee s M = some (UInt64.toInt64 s) := by
  unfold f_Jxe99ae_doubleToLongBits_ccdee f_Jxe99ae_isNaN_b9ae7
  rw [sh_self h]
  rfl
theorem digest_m {d : Dt} {D : Nat → Dt} {next kept t : Nat} {M : Mem} {L : Lng} {code : Nat → Int32} (h : Cr d D next kept M) (ht : t ≤ 60) (h4 : M 90 4 = nI t) (hc : ∀ i, i < t → M 93 i = code i) : Ok (f_X9_digest M L) (fun r => r.1 = dg9 d kept t code ∧ Cr d D next kept r.2.1) := by
  have hv := h.1
  unfold f_X9_digest
  rw [stf_e]
  refine Ok.eqb rfl ?_
  refine Ok.bind (P := fun L' => L' 0 = 2161) (Ok.of (if_pos rfl)) (fun L2 hL2 => ?_)
  have q0 : Qt M (mset M 90 0 0) := Qt_t
  refine Ok.bind (layAll_q (Cr_q h q0)) ?_
  rintro M3 ⟨b1, b2, b3, b4⟩
  have hA : AllM d kept M3 := ⟨b1, My_st (Zc_st b2.2.2.1) b1, b2.2.2.1, b2.2.2.2.2.2.1.1⟩
  refine Ok.bind (dig7_m hv hA hL2) (fun L4 h7 => ?_)
  refine Ok.eqb (share_m hv hA.2.1.1) (Ok.eqb (d2b_m (shD_ok hv).1) ?_)
  have hz3 := b2.2.2.1
  refine Ok.bind (leastNow_m (Zc_zM hv hz3) hv.2.2.1 (Zc_ok hv hz3)) ?_
  rintro ⟨r7, M7⟩ ⟨c1, c2, c3⟩
  dsimp only at c1 c2 c3
  refine Ok.bind mix_e (fun L8 h8 => ?_)
  have q7 := layC_q c2 c3
  have cr7 := Cr_q b2 q7
  have hz7 := cr7.2.2.1
  refine Ok.bind (aboveNow_m (Zc_zM hv hz7) (Zc_ok hv hz7)) ?_
  rintro ⟨r9, M9⟩ ⟨d1, d2, d3⟩
  dsimp only at d1 d2 d3
  refine Ok.bind mix_e (fun L10 h10 => ?_)
  have q9 := layC_q d2 d3
  have qq : Qt M M9 := ((q0.tr b3).tr q7).tr q9
  refine Ok.bind mix_e (fun L11 h11 => ?_)
  refine Ok.bind mix_e (fun L12 h12 => ?_)
  dsimp only at h8 h10 h11 h12
  have t9 : M9 90 4 = nI t := qq.2.2.1.trans h4
  refine Ok.bind (dig9_m (d := d) (kept := kept) (code := code) ht t9 (fun i hi => ?_) ?_) (fun L16 h16 => ?_)
  · dsimp only
    rw [qq.2.2.2 93 (by omega)]
    exact hc i hi
  · rw [h12, h11, h10, h8, h7, c1, d1, t9, sLst_st (Zc_st hz3), sAbv_st (Zc_st hz7)]
    rfl
  · exact Ok.of ⟨h16, Cr_q h qq⟩
theorem digest_q (a1 a2 a3 : Int32) {M : Mem} {L : Lng} {d : Dt} {D : Nat → Dt} {next kept : Nat} (h : Cr d D next kept M) : LC (f_lc22 a1 a2 a3 M L) := by
  obtain ⟨t, ht, t1, t2, t3⟩ := h.2.2.2.2.2.2.2
  obtain ⟨r1, e1, x1⟩ := digest_c h ht t1
  obtain ⟨⟨r2, M2, L2⟩, e2, x2, x3⟩ := digest_m (L := L) (code := M 49) h ht t2 (fun i hi => (t3 i hi).symm)
  dsimp only at x2 x3
  refine ⟨(M2, L2), ?_, ⟨_, _, _, _, x3⟩⟩
  unfold f_lc22
  refine eq_b e1 (eq_b e2 (eq_p ?_ rfl))
  dsimp only
  rw [x1, x2]
  exact lgc _
