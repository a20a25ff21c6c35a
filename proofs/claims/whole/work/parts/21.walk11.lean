theorem dX9_leastLimit_0 : decode cX9_leastLimit 0 = .ok (.aload_n 0, 1) := by decide +kernel
theorem dX9_leastLimit_1 : decode cX9_leastLimit 1 = .ok (.iload_n 1, 1) := by decide +kernel
theorem dX9_leastLimit_2 : decode cX9_leastLimit 2 = .ok (.iconst 0, 1) := by decide +kernel
theorem dX9_leastLimit_3 : decode cX9_leastLimit 3 = .ok (.sipush 200, 3) := by decide +kernel
theorem dX9_leastLimit_6 : decode cX9_leastLimit 6 = .ok (.invokestatic 65, 3) := by decide +kernel
theorem dX9_leastLimit_9 : decode cX9_leastLimit 9 = .ok (.ifCond .eq 7, 3) := by decide +kernel
theorem dX9_leastLimit_12 : decode cX9_leastLimit 12 = .ok (.iconst 0, 1) := by decide +kernel
theorem dX9_leastLimit_13 : decode cX9_leastLimit 13 = .ok (.goto 4, 3) := by decide +kernel
theorem dX9_leastLimit_16 : decode cX9_leastLimit 16 = .ok (.iconst 1, 1) := by decide +kernel
theorem dX9_leastLimit_17 : decode cX9_leastLimit 17 = .ok (.putfield 61, 3) := by decide +kernel
theorem dX9_leastLimit_20 : decode cX9_leastLimit 20 = .ok (.aload_n 0, 1) := by decide +kernel
theorem dX9_leastLimit_21 : decode cX9_leastLimit 21 = .ok (.getfield 61, 3) := by decide +kernel
theorem dX9_leastLimit_24 : decode cX9_leastLimit 24 = .ok (.ifCond .le 7, 3) := by decide +kernel
theorem dX9_leastLimit_27 : decode cX9_leastLimit 27 = .ok (.iconst 0, 1) := by decide +kernel
theorem dX9_leastLimit_28 : decode cX9_leastLimit 28 = .ok (.goto 8, 3) := by decide +kernel
theorem dX9_leastLimit_31 : decode cX9_leastLimit 31 = .ok (.aload_n 0, 1) := by decide +kernel
theorem dX9_leastLimit_32 : decode cX9_leastLimit 32 = .ok (.iload_n 1, 1) := by decide +kernel
theorem dX9_leastLimit_33 : decode cX9_leastLimit 33 = .ok (.invokevirtual 212, 3) := by decide +kernel
theorem dX9_leastLimit_36 : decode cX9_leastLimit 36 = .ok (.ireturn, 1) := by decide +kernel
set_option maxHeartbeats 4000000 in
set_option maxRecDepth 100000 in
theorem w_X9_leastLimit_j17 {w : WT} {l : Launch} {p : Program} {e : Env} {s : State} {m : MethodId} {args : Array Value} {below : List Frame} {meth : Method} {c : Code} (C : KC w p s m args meth c cX9_leastLimit 2 RX9 (some .int)) {v1 : Int32} {s1 : Int32} {M : Mem} {L : Lng} {out : Int32 × Mem} (hf : f_X9_leastLimit_j17 v1 s1 M = some out) : AtL w p l e ({ frames := 7, cells := 0, slots := 0, locals := 155 } : Room) s m args below meth c (MQ below (QI w out.1 out.2 L) args s 0 0 (wA w)) 2 17 M L [(0, .ref (wAd w 90)), (1, .int v1)] [.int s1, .ref (wAd w 90)] := by
  intro H locs ls hP hS hl
  unfold f_X9_leastLimit_j17 at hf
  obtain ⟨M3, hM3, hf⟩ := ob hf
  refine k_puti C hP hS (lt_Model h0_Model) (fun row => ob_Model h0_Model w L row) rfl iX9 tyX9 tyX9_ok nmX9 0 (by decide) q863 rfl rfl (Nat.le_of_ble_eq_true rfl) rfl hM3 dX9_leastLimit_17 (fun H locs hP hS => ?_)
  refine lv_aload_n C.1 C.2.1 dX9_leastLimit_20 rfl (lv_at hl 0 rfl) ?_
  refine k_get (v := .int (M3 90 0)) C hP (lt_Model h0_Model) (ob_Model h0_Model w L _) rfl iX9 0 (by decide) q863 rfl dX9_leastLimit_21 ?_
  refine lv_if_le (tgt := 31) C.1 C.2.1 dX9_leastLimit_24 (by decide) (fun c4 => ?_) (fun c4 => ?_)
  · have hf := (if_pos c4).symm.trans hf
    refine lv_aload_n C.1 C.2.1 dX9_leastLimit_31 rfl (lv_at hl 0 rfl) ?_
    refine lv_iload_n C.1 C.2.1 dX9_leastLimit_32 rfl (lv_at hl 1 rfl) ?_
    obtain ⟨r5, hr5, hf⟩ := ob hf
    refine kci (kV (As := [.int v1]) (rest := []) C hl.1 hP hS (c_X9_leastNow w l C.2.2.2.2.2.2.2.2 (L := L) hr5) (gV q1172 q1174 qp56 q10 q1175) hd_X9_leastNow (lt_Model h0_Model) (ob_Model h0_Model w L _) rfl ⟨rfl, rfl⟩ ⟨Nat.le_of_ble_eq_true rfl, Nat.le_of_ble_eq_true rfl⟩ rfl rfl (Nat.le_of_ble_eq_true rfl) dX9_leastLimit_33 ⟨Nat.zero_le _, Nat.zero_le _⟩) hS (fun H locs hP hS => ?_)
    cases hf
    exact kri C hP hS dX9_leastLimit_36
  · have hf := (if_neg c4).symm.trans hf
    refine lv_iconst (v := 0) C.1 C.2.1 dX9_leastLimit_27 (by decide) ?_
    refine lv_goto (tgt := 36) C.1 C.2.1 dX9_leastLimit_28 (by decide) ?_
    cases hf
    exact kri C hP hS dX9_leastLimit_36
set_option maxHeartbeats 4000000 in
set_option maxRecDepth 100000 in
theorem c_X9_leastLimit (w : WT) (l : Launch) (hw : WOK w) {a1 : Int32} {M : Mem} {L : Lng} {out : Int32 × Mem} (hf : f_X9_leastLimit a1 M = some out) : Met l yX9_leastLimit (Cond.code yX9_leastLimit cX9_leastLimit 2 (some .int) :: BG) ({ frames := 7, cells := 0, slots := 0, locals := 155 } : Room) (PRE w [.ref (wAd w 90), .int a1] M L) (QI w out.1 out.2 L) 0 0 (wA w) := by
  refine kEnt hw (by decide +kernel) rfl (Nat.le_of_ble_eq_true rfl) ?_
  intro p e s m args below meth c C ls hl hP
  have hS : va_S (wA w) s.heap s.heap [] := va_S.rf
  have hl : lv_has ls 2 [(0, .ref (wAd w 90)), (1, .int a1)] := hl
  unfold f_X9_leastLimit at hf
  refine lv_aload_n C.1 C.2.1 dX9_leastLimit_0 rfl (lv_at hl 0 rfl) ?_
  refine lv_iload_n C.1 C.2.1 dX9_leastLimit_1 rfl (lv_at hl 1 rfl) ?_
  refine lv_iconst (v := 0) C.1 C.2.1 dX9_leastLimit_2 (by decide) ?_
  refine lv_sipush (v := 200) C.1 C.2.1 dX9_leastLimit_3 (by decide) ?_
  obtain ⟨r1, hr1, hf⟩ := ob hf
  refine kci (kS (As := [.int a1, .int 0, .int 200]) (rest := [.ref (wAd w 90)]) C hl.1 hP hS (c_X9_within w l C.2.2.2.2.2.2.2.2 (L := L) hr1) (gS q963 q964 q10 q965) hd_X9_within ⟨rfl, rfl⟩ ⟨Nat.le_of_ble_eq_true rfl, Nat.le_of_ble_eq_true rfl⟩ rfl rfl (Nat.le_of_ble_eq_true rfl) dX9_leastLimit_6 ⟨Nat.zero_le _, Nat.zero_le _⟩) hS (fun H locs hP hS => ?_)
  refine lv_if_eq (tgt := 16) C.1 C.2.1 dX9_leastLimit_9 (by decide) (fun c2 => ?_) (fun c2 => ?_)
  · have hf := (if_pos c2).symm.trans hf
    refine lv_iconst (v := 1) C.1 C.2.1 dX9_leastLimit_16 (by decide) ?_
    exact w_X9_leastLimit_j17 C hf _ _ _ hP hS hl
  · have hf := (if_neg c2).symm.trans hf
    refine lv_iconst (v := 0) C.1 C.2.1 dX9_leastLimit_12 (by decide) ?_
    refine lv_goto (tgt := 17) C.1 C.2.1 dX9_leastLimit_13 (by decide) ?_
    exact w_X9_leastLimit_j17 C hf _ _ _ hP hS hl
theorem dX9_aboveNow_0 : decode cX9_aboveNow 0 = .ok (.aload_n 0, 1) := by decide +kernel
theorem dX9_aboveNow_1 : decode cX9_aboveNow 1 = .ok (.bipush 100, 2) := by decide +kernel
theorem dX9_aboveNow_3 : decode cX9_aboveNow 3 = .ok (.iload_n 1, 1) := by decide +kernel
theorem dX9_aboveNow_4 : decode cX9_aboveNow 4 = .ok (.invokevirtual 106, 3) := by decide +kernel
theorem dX9_aboveNow_7 : decode cX9_aboveNow 7 = .ok (.iconst 1, 1) := by decide +kernel
theorem dX9_aboveNow_8 : decode cX9_aboveNow 8 = .ok (.istore_n 2, 1) := by decide +kernel
theorem dX9_aboveNow_9 : decode cX9_aboveNow 9 = .ok (.iload_n 2, 1) := by decide +kernel
theorem dX9_aboveNow_10 : decode cX9_aboveNow 10 = .ok (.bipush 100, 2) := by decide +kernel
theorem dX9_aboveNow_12 : decode cX9_aboveNow 12 = .ok (.if_icmp .gt 29, 3) := by decide +kernel
theorem dX9_aboveNow_15 : decode cX9_aboveNow 15 = .ok (.aload_n 0, 1) := by decide +kernel
theorem dX9_aboveNow_16 : decode cX9_aboveNow 16 = .ok (.getfield 31, 3) := by decide +kernel
theorem dX9_aboveNow_19 : decode cX9_aboveNow 19 = .ok (.aload_n 0, 1) := by decide +kernel
theorem dX9_aboveNow_20 : decode cX9_aboveNow 20 = .ok (.getfield 7, 3) := by decide +kernel
theorem dX9_aboveNow_23 : decode cX9_aboveNow 23 = .ok (.iconst 0, 1) := by decide +kernel
theorem dX9_aboveNow_24 : decode cX9_aboveNow 24 = .ok (.iaload, 1) := by decide +kernel
theorem dX9_aboveNow_25 : decode cX9_aboveNow 25 = .ok (.iload_n 2, 1) := by decide +kernel
theorem dX9_aboveNow_26 : decode cX9_aboveNow 26 = .ok (.iadd, 1) := by decide +kernel
theorem dX9_aboveNow_27 : decode cX9_aboveNow 27 = .ok (.iconst 1, 1) := by decide +kernel
theorem dX9_aboveNow_28 : decode cX9_aboveNow 28 = .ok (.isub, 1) := by decide +kernel
theorem dX9_aboveNow_29 : decode cX9_aboveNow 29 = .ok (.iaload, 1) := by decide +kernel
theorem dX9_aboveNow_30 : decode cX9_aboveNow 30 = .ok (.ifCond .ne 5, 3) := by decide +kernel
theorem dX9_aboveNow_33 : decode cX9_aboveNow 33 = .ok (.iload_n 2, 1) := by decide +kernel
theorem dX9_aboveNow_34 : decode cX9_aboveNow 34 = .ok (.ireturn, 1) := by decide +kernel
theorem dX9_aboveNow_35 : decode cX9_aboveNow 35 = .ok (.iinc 2 1, 3) := by decide +kernel
theorem dX9_aboveNow_38 : decode cX9_aboveNow 38 = .ok (.goto (-29), 3) := by decide +kernel
theorem dX9_aboveNow_41 : decode cX9_aboveNow 41 = .ok (.iconst (-1), 1) := by decide +kernel
theorem dX9_aboveNow_42 : decode cX9_aboveNow 42 = .ok (.ireturn, 1) := by decide +kernel
set_option maxHeartbeats 4000000 in
set_option maxRecDepth 100000 in
theorem w_X9_aboveNow_l9 {w : WT} {l : Launch} {p : Program} {e : Env} {s : State} {m : MethodId} {args : Array Value} {below : List Frame} {meth : Method} {c : Code} (C : KC w p s m args meth c cX9_aboveNow 3 RX9 (some .int)) {M : Mem} {L : Lng} {out : Int32 × Mem} (z : Int32) (o : (Int32) ⊕ ((Unit) ⊕ (Int32 × Mem))) (hf : f_X9_aboveNow_l9 M z = some o) (hA : ∀ z, o = .inl z → AtL w p l e ({ frames := 6, cells := 0, slots := 0, locals := 131 } : Room) s m args below meth c (MQ below (QI w out.1 out.2 L) args s 0 0 (wA w)) 3 9 M L [(0, .ref (wAd w 90)), (2, .int z)] []) (hE : ∀ y, o = .inr y → Sum.elim (fun y => AtL w p l e ({ frames := 6, cells := 0, slots := 0, locals := 131 } : Room) s m args below meth c (MQ below (QI w out.1 out.2 L) args s 0 0 (wA w)) 3 41 M L [] []) (fun y => y = out) y) : AtL w p l e ({ frames := 6, cells := 0, slots := 0, locals := 131 } : Room) s m args below meth c (MQ below (QI w out.1 out.2 L) args s 0 0 (wA w)) 3 9 M L [(0, .ref (wAd w 90)), (2, .int z)] [] := by
  intro H locs ls hP hS hl
  unfold f_X9_aboveNow_l9 at hf
  refine lv_iload_n C.1 C.2.1 dX9_aboveNow_9 rfl (lv_at hl 1 rfl) ?_
  refine lv_bipush (v := 100) C.1 C.2.1 dX9_aboveNow_10 (by decide) ?_
  refine lv_icmp_gt (tgt := 41) C.1 C.2.1 dX9_aboveNow_12 (by decide) (fun c2 => ?_) (fun c2 => ?_)
  · have hf := (if_pos c2).symm.trans hf
    cases hf
    exact hE _ rfl _ _ _ hP hS (lv_sub hl [] rfl)
  · have hf := (if_neg c2).symm.trans hf
    refine lv_aload_n C.1 C.2.1 dX9_aboveNow_15 rfl (lv_at hl 0 rfl) ?_
    refine k_get (v := .ref (wAd w 98)) C hP (lt_Model h0_Model) (ob_Model h0_Model w L _) rfl iX9 11 (by decide) q874 rfl dX9_aboveNow_16 ?_
    refine lv_aload_n C.1 C.2.1 dX9_aboveNow_19 rfl (lv_at hl 0 rfl) ?_
    refine k_get (v := .ref (wAd w 91)) C hP (lt_Model h0_Model) (ob_Model h0_Model w L _) rfl iX9 1 (by decide) q864 rfl dX9_aboveNow_20 ?_
    refine lv_iconst (v := 0) C.1 C.2.1 dX9_aboveNow_23 (by decide) ?_
    obtain ⟨x3, hx3, hf⟩ := ob hf
    refine k_iald C hP (la_Model_z h0_Model) (ar_Model_z h0_Model w L _) hx3 dX9_aboveNow_24 ?_
    refine lv_iload_n C.1 C.2.1 dX9_aboveNow_25 rfl (lv_at hl 1 rfl) ?_
    refine lv_iadd C.1 C.2.1 dX9_aboveNow_26 ?_
    refine lv_iconst (v := 1) C.1 C.2.1 dX9_aboveNow_27 (by decide) ?_
    refine lv_isub C.1 C.2.1 dX9_aboveNow_28 ?_
    obtain ⟨x4, hx4, hf⟩ := ob hf
    refine k_iald C hP (la_Model_why h0_Model) (ar_Model_why h0_Model w L _) hx4 dX9_aboveNow_29 ?_
    refine lv_if_ne (tgt := 35) C.1 C.2.1 dX9_aboveNow_30 (by decide) (fun c5 => ?_) (fun c5 => ?_)
    · have hf := (if_neg c5).symm.trans hf
      refine lv_iinc (v := (z + 1)) (lv' := [(2, .int (z + 1)), (0, .ref (wAd w 90))]) C.1 C.2.1 dX9_aboveNow_35 hl (k := 1) rfl rfl (by decide) rfl (fun ls hl => ?_)
      refine lv_goto (tgt := 9) C.1 C.2.1 dX9_aboveNow_38 (by decide) ?_
      cases hf
      exact hA _ rfl _ _ _ hP hS (lv_sub hl [1, 0] rfl)
    · have hf := (if_pos c5).symm.trans hf
      refine lv_iload_n C.1 C.2.1 dX9_aboveNow_33 rfl (lv_at hl 1 rfl) ?_
      cases hf
      cases hE _ rfl
      exact kri C hP hS dX9_aboveNow_34
set_option maxHeartbeats 4000000 in
set_option maxRecDepth 100000 in
theorem c_X9_aboveNow (w : WT) (l : Launch) (hw : WOK w) {a1 : Int32} {M : Mem} {L : Lng} {out : Int32 × Mem} (hf : f_X9_aboveNow a1 M = some out) : Met l yX9_aboveNow (Cond.code yX9_aboveNow cX9_aboveNow 3 (some .int) :: BG) ({ frames := 6, cells := 0, slots := 0, locals := 131 } : Room) (PRE w [.ref (wAd w 90), .int a1] M L) (QI w out.1 out.2 L) 0 0 (wA w) := by
  refine kEnt hw (by decide +kernel) rfl (Nat.le_of_ble_eq_true rfl) ?_
  intro p e s m args below meth c C ls hl hP
  have hS : va_S (wA w) s.heap s.heap [] := va_S.rf
  have hl : lv_has ls 3 [(0, .ref (wAd w 90)), (1, .int a1)] := hl
  unfold f_X9_aboveNow at hf
  refine lv_aload_n C.1 C.2.1 dX9_aboveNow_0 rfl (lv_at hl 0 rfl) ?_
  refine lv_bipush (v := 100) C.1 C.2.1 dX9_aboveNow_1 (by decide) ?_
  refine lv_iload_n C.1 C.2.1 dX9_aboveNow_3 rfl (lv_at hl 1 rfl) ?_
  obtain ⟨r1, hr1, hf⟩ := ob hf
  refine kcv (kV (As := [.int 100, .int a1]) (rest := []) C hl.1 hP hS (c_X9_lay w l C.2.2.2.2.2.2.2.2 (L := L) hr1) (gV q996 q998 qp28 q10 q999) hd_X9_lay (lt_Model h0_Model) (ob_Model h0_Model w L _) rfl ⟨rfl, rfl⟩ ⟨Nat.le_of_ble_eq_true rfl, Nat.le_of_ble_eq_true rfl⟩ rfl rfl (Nat.le_of_ble_eq_true rfl) dX9_aboveNow_4 ⟨Nat.zero_le _, Nat.zero_le _⟩) hS (fun H locs hP hS => ?_)
  refine lv_iconst (v := 1) C.1 C.2.1 dX9_aboveNow_7 (by decide) ?_
  refine lv_istore_n (lv' := [(2, .int 1), (0, .ref (wAd w 90)), (1, .int a1)]) C.1 C.2.1 dX9_aboveNow_8 rfl hl (by decide) rfl (fun ls hl => ?_)
  obtain ⟨o6, ho6, hf⟩ := ob hf
  refine loop_at (w_X9_aboveNow_l9 C (out := out)) FU _ o6 ho6 ?_ _ _ _ hP hS (lv_sub hl [1, 0] rfl)
  rcases o6 with o6 | o6
  · simp only [Sum.elim_inl] at hf
    intro H locs ls hP hS hl
    refine lv_iconst (v := (-1)) C.1 C.2.1 dX9_aboveNow_41 (by decide) ?_
    cases hf
    exact kri C hP hS dX9_aboveNow_42
  · simp only [Sum.elim_inr] at hf
    exact Option.some.inj hf
theorem dX9_aboveIn_0 : decode cX9_aboveIn 0 = .ok (.aload_n 0, 1) := by decide +kernel
theorem dX9_aboveIn_1 : decode cX9_aboveIn 1 = .ok (.iload_n 1, 1) := by decide +kernel
theorem dX9_aboveIn_2 : decode cX9_aboveIn 2 = .ok (.iconst 0, 1) := by decide +kernel
theorem dX9_aboveIn_3 : decode cX9_aboveIn 3 = .ok (.sipush 140, 3) := by decide +kernel
theorem dX9_aboveIn_6 : decode cX9_aboveIn 6 = .ok (.invokestatic 65, 3) := by decide +kernel
theorem dX9_aboveIn_9 : decode cX9_aboveIn 9 = .ok (.ifCond .eq 7, 3) := by decide +kernel
theorem dX9_aboveIn_12 : decode cX9_aboveIn 12 = .ok (.iconst 0, 1) := by decide +kernel
theorem dX9_aboveIn_13 : decode cX9_aboveIn 13 = .ok (.goto 4, 3) := by decide +kernel
theorem dX9_aboveIn_16 : decode cX9_aboveIn 16 = .ok (.iconst 1, 1) := by decide +kernel
theorem dX9_aboveIn_17 : decode cX9_aboveIn 17 = .ok (.putfield 61, 3) := by decide +kernel
theorem dX9_aboveIn_20 : decode cX9_aboveIn 20 = .ok (.aload_n 0, 1) := by decide +kernel
theorem dX9_aboveIn_21 : decode cX9_aboveIn 21 = .ok (.getfield 61, 3) := by decide +kernel
theorem dX9_aboveIn_24 : decode cX9_aboveIn 24 = .ok (.ifCond .le 7, 3) := by decide +kernel
theorem dX9_aboveIn_27 : decode cX9_aboveIn 27 = .ok (.iconst 0, 1) := by decide +kernel
theorem dX9_aboveIn_28 : decode cX9_aboveIn 28 = .ok (.goto 8, 3) := by decide +kernel
theorem dX9_aboveIn_31 : decode cX9_aboveIn 31 = .ok (.aload_n 0, 1) := by decide +kernel
theorem dX9_aboveIn_32 : decode cX9_aboveIn 32 = .ok (.iload_n 1, 1) := by decide +kernel
theorem dX9_aboveIn_33 : decode cX9_aboveIn 33 = .ok (.invokevirtual 215, 3) := by decide +kernel
theorem dX9_aboveIn_36 : decode cX9_aboveIn 36 = .ok (.ireturn, 1) := by decide +kernel
set_option maxHeartbeats 4000000 in
set_option maxRecDepth 100000 in
theorem w_X9_aboveIn_j17 {w : WT} {l : Launch} {p : Program} {e : Env} {s : State} {m : MethodId} {args : Array Value} {below : List Frame} {meth : Method} {c : Code} (C : KC w p s m args meth c cX9_aboveIn 2 RX9 (some .int)) {v1 : Int32} {s1 : Int32} {M : Mem} {L : Lng} {out : Int32 × Mem} (hf : f_X9_aboveIn_j17 v1 s1 M = some out) : AtL w p l e ({ frames := 7, cells := 0, slots := 0, locals := 153 } : Room) s m args below meth c (MQ below (QI w out.1 out.2 L) args s 0 0 (wA w)) 2 17 M L [(0, .ref (wAd w 90)), (1, .int v1)] [.int s1, .ref (wAd w 90)] := by
  intro H locs ls hP hS hl
  unfold f_X9_aboveIn_j17 at hf
  obtain ⟨M3, hM3, hf⟩ := ob hf
  refine k_puti C hP hS (lt_Model h0_Model) (fun row => ob_Model h0_Model w L row) rfl iX9 tyX9 tyX9_ok nmX9 0 (by decide) q863 rfl rfl (Nat.le_of_ble_eq_true rfl) rfl hM3 dX9_aboveIn_17 (fun H locs hP hS => ?_)
  refine lv_aload_n C.1 C.2.1 dX9_aboveIn_20 rfl (lv_at hl 0 rfl) ?_
  refine k_get (v := .int (M3 90 0)) C hP (lt_Model h0_Model) (ob_Model h0_Model w L _) rfl iX9 0 (by decide) q863 rfl dX9_aboveIn_21 ?_
  refine lv_if_le (tgt := 31) C.1 C.2.1 dX9_aboveIn_24 (by decide) (fun c4 => ?_) (fun c4 => ?_)
  · have hf := (if_pos c4).symm.trans hf
    refine lv_aload_n C.1 C.2.1 dX9_aboveIn_31 rfl (lv_at hl 0 rfl) ?_
    refine lv_iload_n C.1 C.2.1 dX9_aboveIn_32 rfl (lv_at hl 1 rfl) ?_
    obtain ⟨r5, hr5, hf⟩ := ob hf
    refine kci (kV (As := [.int v1]) (rest := []) C hl.1 hP hS (c_X9_aboveNow w l C.2.2.2.2.2.2.2.2 (L := L) hr5) (gV q1180 q1182 qp57 q10 q1183) hd_X9_aboveNow (lt_Model h0_Model) (ob_Model h0_Model w L _) rfl ⟨rfl, rfl⟩ ⟨Nat.le_of_ble_eq_true rfl, Nat.le_of_ble_eq_true rfl⟩ rfl rfl (Nat.le_of_ble_eq_true rfl) dX9_aboveIn_33 ⟨Nat.zero_le _, Nat.zero_le _⟩) hS (fun H locs hP hS => ?_)
    cases hf
    exact kri C hP hS dX9_aboveIn_36
  · have hf := (if_neg c4).symm.trans hf
    refine lv_iconst (v := 0) C.1 C.2.1 dX9_aboveIn_27 (by decide) ?_
    refine lv_goto (tgt := 36) C.1 C.2.1 dX9_aboveIn_28 (by decide) ?_
    cases hf
    exact kri C hP hS dX9_aboveIn_36
set_option maxHeartbeats 4000000 in
set_option maxRecDepth 100000 in
theorem c_X9_aboveIn (w : WT) (l : Launch) (hw : WOK w) {a1 : Int32} {M : Mem} {L : Lng} {out : Int32 × Mem} (hf : f_X9_aboveIn a1 M = some out) : Met l yX9_aboveIn (Cond.code yX9_aboveIn cX9_aboveIn 2 (some .int) :: BG) ({ frames := 7, cells := 0, slots := 0, locals := 153 } : Room) (PRE w [.ref (wAd w 90), .int a1] M L) (QI w out.1 out.2 L) 0 0 (wA w) := by
  refine kEnt hw (by decide +kernel) rfl (Nat.le_of_ble_eq_true rfl) ?_
  intro p e s m args below meth c C ls hl hP
  have hS : va_S (wA w) s.heap s.heap [] := va_S.rf
  have hl : lv_has ls 2 [(0, .ref (wAd w 90)), (1, .int a1)] := hl
  unfold f_X9_aboveIn at hf
  refine lv_aload_n C.1 C.2.1 dX9_aboveIn_0 rfl (lv_at hl 0 rfl) ?_
  refine lv_iload_n C.1 C.2.1 dX9_aboveIn_1 rfl (lv_at hl 1 rfl) ?_
  refine lv_iconst (v := 0) C.1 C.2.1 dX9_aboveIn_2 (by decide) ?_
  refine lv_sipush (v := 140) C.1 C.2.1 dX9_aboveIn_3 (by decide) ?_
  obtain ⟨r1, hr1, hf⟩ := ob hf
  refine kci (kS (As := [.int a1, .int 0, .int 140]) (rest := [.ref (wAd w 90)]) C hl.1 hP hS (c_X9_within w l C.2.2.2.2.2.2.2.2 (L := L) hr1) (gS q963 q964 q10 q965) hd_X9_within ⟨rfl, rfl⟩ ⟨Nat.le_of_ble_eq_true rfl, Nat.le_of_ble_eq_true rfl⟩ rfl rfl (Nat.le_of_ble_eq_true rfl) dX9_aboveIn_6 ⟨Nat.zero_le _, Nat.zero_le _⟩) hS (fun H locs hP hS => ?_)
  refine lv_if_eq (tgt := 16) C.1 C.2.1 dX9_aboveIn_9 (by decide) (fun c2 => ?_) (fun c2 => ?_)
  · have hf := (if_pos c2).symm.trans hf
    refine lv_iconst (v := 1) C.1 C.2.1 dX9_aboveIn_16 (by decide) ?_
    exact w_X9_aboveIn_j17 C hf _ _ _ hP hS hl
  · have hf := (if_neg c2).symm.trans hf
    refine lv_iconst (v := 0) C.1 C.2.1 dX9_aboveIn_12 (by decide) ?_
    refine lv_goto (tgt := 17) C.1 C.2.1 dX9_aboveIn_13 (by decide) ?_
    exact w_X9_aboveIn_j17 C hf _ _ _ hP hS hl
theorem dX9_shareNow_0 : decode cX9_shareNow 0 = .ok (.aload_n 0, 1) := by decide +kernel
theorem dX9_shareNow_1 : decode cX9_shareNow 1 = .ok (.iconst 0, 1) := by decide +kernel
theorem dX9_shareNow_2 : decode cX9_shareNow 2 = .ok (.invokevirtual 184, 3) := by decide +kernel
theorem dX9_shareNow_5 : decode cX9_shareNow 5 = .ok (.istore_n 1, 1) := by decide +kernel
theorem dX9_shareNow_6 : decode cX9_shareNow 6 = .ok (.iload_n 1, 1) := by decide +kernel
theorem dX9_shareNow_7 : decode cX9_shareNow 7 = .ok (.ifCond .ne 7, 3) := by decide +kernel
theorem dX9_shareNow_10 : decode cX9_shareNow 10 = .ok (.dconst 0, 1) := by decide +kernel
theorem dX9_shareNow_11 : decode cX9_shareNow 11 = .ok (.goto 15, 3) := by decide +kernel
theorem dX9_shareNow_14 : decode cX9_shareNow 14 = .ok (.dconst 1, 1) := by decide +kernel
theorem dX9_shareNow_15 : decode cX9_shareNow 15 = .ok (.aload_n 0, 1) := by decide +kernel
theorem dX9_shareNow_16 : decode cX9_shareNow 16 = .ok (.iconst 0, 1) := by decide +kernel
theorem dX9_shareNow_17 : decode cX9_shareNow 17 = .ok (.iconst 0, 1) := by decide +kernel
theorem dX9_shareNow_18 : decode cX9_shareNow 18 = .ok (.invokevirtual 190, 3) := by decide +kernel
theorem dX9_shareNow_21 : decode cX9_shareNow 21 = .ok (.i2d, 1) := by decide +kernel
theorem dX9_shareNow_22 : decode cX9_shareNow 22 = .ok (.dmul, 1) := by decide +kernel
theorem dX9_shareNow_23 : decode cX9_shareNow 23 = .ok (.iload_n 1, 1) := by decide +kernel
theorem dX9_shareNow_24 : decode cX9_shareNow 24 = .ok (.i2d, 1) := by decide +kernel
theorem dX9_shareNow_25 : decode cX9_shareNow 25 = .ok (.ddiv, 1) := by decide +kernel
theorem dX9_shareNow_26 : decode cX9_shareNow 26 = .ok (.dreturn, 1) := by decide +kernel
set_option maxHeartbeats 4000000 in
set_option maxRecDepth 100000 in
theorem c_X9_shareNow (w : WT) (l : Launch) (hw : WOK w) {M : Mem} {L : Lng} {out : UInt64} (hf : f_X9_shareNow M = some out) : Met l yX9_shareNow (Cond.code yX9_shareNow cX9_shareNow 2 (some .double) :: BG) ({ frames := 2, cells := 0, slots := 0, locals := 46 } : Room) (PRE w [.ref (wAd w 90)] M L) (QD w out M L) 0 0 (wA w) := by
  refine kEnt hw (by decide +kernel) rfl (Nat.le_of_ble_eq_true rfl) ?_
  intro p e s m args below meth c C ls hl hP
  have hS : va_S (wA w) s.heap s.heap [] := va_S.rf
  have hl : lv_has ls 2 [(0, .ref (wAd w 90))] := hl
  unfold f_X9_shareNow at hf
  refine lv_aload_n C.1 C.2.1 dX9_shareNow_0 rfl (lv_at hl 0 rfl) ?_
  refine lv_iconst (v := 0) C.1 C.2.1 dX9_shareNow_1 (by decide) ?_
  obtain ⟨r1, hr1, hf⟩ := ob hf
  refine kci (kV (As := [.int 0]) (rest := []) C hl.1 hP hS (c_X9_countFrom w l C.2.2.2.2.2.2.2.2 (L := L) hr1) (gV q1116 q1118 qp47 q10 q1119) hd_X9_countFrom (lt_Model h0_Model) (ob_Model h0_Model w L _) rfl ⟨rfl, rfl⟩ ⟨Nat.le_of_ble_eq_true rfl, Nat.le_of_ble_eq_true rfl⟩ rfl rfl (Nat.le_of_ble_eq_true rfl) dX9_shareNow_2 ⟨Nat.zero_le _, Nat.zero_le _⟩) hS (fun H locs hP hS => ?_)
  refine lv_istore_n (lv' := [(1, .int r1), (0, .ref (wAd w 90))]) C.1 C.2.1 dX9_shareNow_5 rfl hl (by decide) rfl (fun ls hl => ?_)
  refine lv_iload_n C.1 C.2.1 dX9_shareNow_6 rfl (lv_at hl 0 rfl) ?_
  refine lv_if_ne (tgt := 14) C.1 C.2.1 dX9_shareNow_7 (by decide) (fun c2 => ?_) (fun c2 => ?_)
  · have hf := (if_neg c2).symm.trans hf
    refine lv_dconst1 C.1 C.2.1 dX9_shareNow_14 ?_
    refine lv_aload_n C.1 C.2.1 dX9_shareNow_15 rfl (lv_at hl 1 rfl) ?_
    refine lv_iconst (v := 0) C.1 C.2.1 dX9_shareNow_16 (by decide) ?_
    refine lv_iconst (v := 0) C.1 C.2.1 dX9_shareNow_17 (by decide) ?_
    obtain ⟨r3, hr3, hf⟩ := ob hf
    refine kci (kV (As := [.int 0, .int 0]) (rest := [.double 0x3ff0000000000000]) C hl.1 hP hS (c_X9_minutesBy w l C.2.2.2.2.2.2.2.2 (L := L) hr3) (gV q1136 q1138 qp50 q10 q1139) hd_X9_minutesBy (lt_Model h0_Model) (ob_Model h0_Model w L _) rfl ⟨rfl, rfl⟩ ⟨Nat.le_of_ble_eq_true rfl, Nat.le_of_ble_eq_true rfl⟩ rfl rfl (Nat.le_of_ble_eq_true rfl) dX9_shareNow_18 ⟨Nat.zero_le _, Nat.zero_le _⟩) hS (fun H locs hP hS => ?_)
    refine lv_i2d C.1 C.2.1 dX9_shareNow_21 ?_
    obtain ⟨x4, hx4, hf⟩ := ob hf
    refine k_dmul C hx4 dX9_shareNow_22 ?_
    refine lv_iload_n C.1 C.2.1 dX9_shareNow_23 rfl (lv_at hl 0 rfl) ?_
    refine lv_i2d C.1 C.2.1 dX9_shareNow_24 ?_
    obtain ⟨x5, hx5, hf⟩ := ob hf
    refine k_ddiv C hx5 dX9_shareNow_25 ?_
    cases hf
    exact krd C hP hS dX9_shareNow_26
  · have hf := (if_pos c2).symm.trans hf
    refine lv_dconst0 C.1 C.2.1 dX9_shareNow_10 ?_
    refine lv_goto (tgt := 26) C.1 C.2.1 dX9_shareNow_11 (by decide) ?_
    cases hf
    exact krd C hP hS dX9_shareNow_26
theorem dX9_share_0 : decode cX9_share 0 = .ok (.aload_n 0, 1) := by decide +kernel
theorem dX9_share_1 : decode cX9_share 1 = .ok (.iconst 0, 1) := by decide +kernel
theorem dX9_share_2 : decode cX9_share 2 = .ok (.putfield 61, 3) := by decide +kernel
theorem dX9_share_5 : decode cX9_share 5 = .ok (.aload_n 0, 1) := by decide +kernel
theorem dX9_share_6 : decode cX9_share 6 = .ok (.invokevirtual 138, 3) := by decide +kernel
theorem dX9_share_9 : decode cX9_share 9 = .ok (.aload_n 0, 1) := by decide +kernel
theorem dX9_share_10 : decode cX9_share 10 = .ok (.invokevirtual 218, 3) := by decide +kernel
theorem dX9_share_13 : decode cX9_share 13 = .ok (.dreturn, 1) := by decide +kernel
set_option maxHeartbeats 4000000 in
set_option maxRecDepth 100000 in
theorem c_X9_share (w : WT) (l : Launch) (hw : WOK w) {M : Mem} {L : Lng} {out : UInt64 × Mem} (hf : f_X9_share M = some out) : Met l yX9_share (Cond.code yX9_share cX9_share 1 (some .double) :: BG) ({ frames := 7, cells := 0, slots := 0, locals := 151 } : Room) (PRE w [.ref (wAd w 90)] M L) (QD w out.1 out.2 L) 0 0 (wA w) := by
  refine kEnt hw (by decide +kernel) rfl (Nat.le_of_ble_eq_true rfl) ?_
  intro p e s m args below meth c C ls hl hP
  have hS : va_S (wA w) s.heap s.heap [] := va_S.rf
  have hl : lv_has ls 1 [(0, .ref (wAd w 90))] := hl
  unfold f_X9_share at hf
  refine lv_aload_n C.1 C.2.1 dX9_share_0 rfl (lv_at hl 0 rfl) ?_
  refine lv_iconst (v := 0) C.1 C.2.1 dX9_share_1 (by decide) ?_
  obtain ⟨M1, hM1, hf⟩ := ob hf
  refine k_puti C hP hS (lt_Model h0_Model) (fun row => ob_Model h0_Model w L row) rfl iX9 tyX9 tyX9_ok nmX9 0 (by decide) q863 rfl rfl (Nat.le_of_ble_eq_true rfl) rfl hM1 dX9_share_2 (fun H locs hP hS => ?_)
  refine lv_aload_n C.1 C.2.1 dX9_share_5 rfl (lv_at hl 0 rfl) ?_
  obtain ⟨r2, hr2, hf⟩ := ob hf
  refine kcv (kV (As := []) (rest := []) C hl.1 hP hS (c_X9_layAll w l C.2.2.2.2.2.2.2.2 (L := L) hr2) (gV q1040 q1042 qp36 q10 q1043) hd_X9_layAll (lt_Model h0_Model) (ob_Model h0_Model w L _) rfl ⟨rfl, rfl⟩ ⟨Nat.le_of_ble_eq_true rfl, Nat.le_of_ble_eq_true rfl⟩ rfl rfl (Nat.le_of_ble_eq_true rfl) dX9_share_6 ⟨Nat.zero_le _, Nat.zero_le _⟩) hS (fun H locs hP hS => ?_)
  refine lv_aload_n C.1 C.2.1 dX9_share_9 rfl (lv_at hl 0 rfl) ?_
  obtain ⟨r3, hr3, hf⟩ := ob hf
  refine kcd (kV (As := []) (rest := []) C hl.1 hP hS (c_X9_shareNow w l C.2.2.2.2.2.2.2.2 (L := L) hr3) (gV q1188 q1190 qp58 q10 q1191) hd_X9_shareNow (lt_Model h0_Model) (ob_Model h0_Model w L _) rfl ⟨rfl, rfl⟩ ⟨Nat.le_of_ble_eq_true rfl, Nat.le_of_ble_eq_true rfl⟩ rfl rfl (Nat.le_of_ble_eq_true rfl) dX9_share_10 ⟨Nat.zero_le _, Nat.zero_le _⟩) hS (fun H locs hP hS => ?_)
  cases hf
  exact krd C hP hS dX9_share_13
theorem dX9_mix_0 : decode cX9_mix 0 = .ok (.aload_n 0, 1) := by decide +kernel
theorem dX9_mix_1 : decode cX9_mix 1 = .ok (.ldc2_w 222, 3) := by decide +kernel
theorem dX9_mix_4 : decode cX9_mix 4 = .ok (.aload_n 0, 1) := by decide +kernel
theorem dX9_mix_5 : decode cX9_mix 5 = .ok (.getfield 224, 3) := by decide +kernel
theorem dX9_mix_8 : decode cX9_mix 8 = .ok (.lmul, 1) := by decide +kernel
theorem dX9_mix_9 : decode cX9_mix 9 = .ok (.lload_n 1, 1) := by decide +kernel
theorem dX9_mix_10 : decode cX9_mix 10 = .ok (.ladd, 1) := by decide +kernel
theorem dX9_mix_11 : decode cX9_mix 11 = .ok (.putfield 224, 3) := by decide +kernel
theorem dX9_mix_14 : decode cX9_mix 14 = .ok (.return_, 1) := by decide +kernel
set_option maxHeartbeats 4000000 in
set_option maxRecDepth 100000 in
theorem c_X9_mix (w : WT) (l : Launch) (hw : WOK w) {a1 : Int64} {M : Mem} {L : Lng} {out : Lng} (hf : f_X9_mix a1 M L = some out) : Met l yX9_mix (Cond.code yX9_mix cX9_mix 3 none :: BG) ({ frames := 0, cells := 0, slots := 0, locals := 0 } : Room) (PRE w [.ref (wAd w 90), .long a1] M L) (QV w M out) 0 0 (wA w) := by
  refine kEnt hw (by decide +kernel) rfl (Nat.le_of_ble_eq_true rfl) ?_
  intro p e s m args below meth c C ls hl hP
  have hS : va_S (wA w) s.heap s.heap [] := va_S.rf
  have hl : lv_has ls 3 [(0, .ref (wAd w 90)), (1, .long a1)] := hl
  unfold f_X9_mix at hf
  refine lv_aload_n C.1 C.2.1 dX9_mix_0 rfl (lv_at hl 0 rfl) ?_
  refine lv_ldc2 C.1 C.2.1 C.2.2.2.1 (C.2.2.2.2.1 _ q1205) dX9_mix_1 ?_
  refine lv_aload_n C.1 C.2.1 dX9_mix_4 rfl (lv_at hl 0 rfl) ?_
  refine k_get (v := .long (L 0)) C hP (lt_Model h0_Model) (ob_Model h0_Model w L _) rfl iX9 27 (by decide) q890 rfl dX9_mix_5 ?_
  refine lv_lmul C.1 C.2.1 dX9_mix_8 ?_
  refine lv_lload_n C.1 C.2.1 dX9_mix_9 rfl (lv_at hl 1 rfl) ?_
  refine lv_ladd C.1 C.2.1 dX9_mix_10 ?_
  obtain ⟨L1, hL1, hf⟩ := ob hf
  refine k_putl C hP hS rfl q890 hL1 dX9_mix_11 (fun H locs hP hS => ?_)
  cases hf
  exact krv C hP hS dX9_mix_14
theorem dX9_mixAll_0 : decode cX9_mixAll 0 = .ok (.iconst 0, 1) := by decide +kernel
theorem dX9_mixAll_1 : decode cX9_mixAll 1 = .ok (.istore_n 1, 1) := by decide +kernel
theorem dX9_mixAll_2 : decode cX9_mixAll 2 = .ok (.iload_n 1, 1) := by decide +kernel
theorem dX9_mixAll_3 : decode cX9_mixAll 3 = .ok (.bipush 12, 2) := by decide +kernel
theorem dX9_mixAll_5 : decode cX9_mixAll 5 = .ok (.if_icmp .ge 19, 3) := by decide +kernel
theorem dX9_mixAll_8 : decode cX9_mixAll 8 = .ok (.aload_n 0, 1) := by decide +kernel
theorem dX9_mixAll_9 : decode cX9_mixAll 9 = .ok (.aload_n 0, 1) := by decide +kernel
theorem dX9_mixAll_10 : decode cX9_mixAll 10 = .ok (.iload_n 1, 1) := by decide +kernel
theorem dX9_mixAll_11 : decode cX9_mixAll 11 = .ok (.invokevirtual 205, 3) := by decide +kernel
theorem dX9_mixAll_14 : decode cX9_mixAll 14 = .ok (.i2l, 1) := by decide +kernel
theorem dX9_mixAll_15 : decode cX9_mixAll 15 = .ok (.invokevirtual 228, 3) := by decide +kernel
theorem dX9_mixAll_18 : decode cX9_mixAll 18 = .ok (.iinc 1 1, 3) := by decide +kernel
theorem dX9_mixAll_21 : decode cX9_mixAll 21 = .ok (.goto (-19), 3) := by decide +kernel
theorem dX9_mixAll_24 : decode cX9_mixAll 24 = .ok (.iconst 0, 1) := by decide +kernel
theorem dX9_mixAll_25 : decode cX9_mixAll 25 = .ok (.istore_n 1, 1) := by decide +kernel
theorem dX9_mixAll_26 : decode cX9_mixAll 26 = .ok (.iload_n 1, 1) := by decide +kernel
theorem dX9_mixAll_27 : decode cX9_mixAll 27 = .ok (.bipush 10, 2) := by decide +kernel
theorem dX9_mixAll_29 : decode cX9_mixAll 29 = .ok (.if_icmp .ge 19, 3) := by decide +kernel
theorem dX9_mixAll_32 : decode cX9_mixAll 32 = .ok (.aload_n 0, 1) := by decide +kernel
theorem dX9_mixAll_33 : decode cX9_mixAll 33 = .ok (.aload_n 0, 1) := by decide +kernel
theorem dX9_mixAll_34 : decode cX9_mixAll 34 = .ok (.iload_n 1, 1) := by decide +kernel
theorem dX9_mixAll_35 : decode cX9_mixAll 35 = .ok (.invokevirtual 69, 3) := by decide +kernel
theorem dX9_mixAll_38 : decode cX9_mixAll 38 = .ok (.i2l, 1) := by decide +kernel
theorem dX9_mixAll_39 : decode cX9_mixAll 39 = .ok (.invokevirtual 228, 3) := by decide +kernel
theorem dX9_mixAll_42 : decode cX9_mixAll 42 = .ok (.iinc 1 1, 3) := by decide +kernel
theorem dX9_mixAll_45 : decode cX9_mixAll 45 = .ok (.goto (-19), 3) := by decide +kernel
theorem dX9_mixAll_48 : decode cX9_mixAll 48 = .ok (.iconst 0, 1) := by decide +kernel
theorem dX9_mixAll_49 : decode cX9_mixAll 49 = .ok (.istore_n 1, 1) := by decide +kernel
theorem dX9_mixAll_50 : decode cX9_mixAll 50 = .ok (.iload_n 1, 1) := by decide +kernel
theorem dX9_mixAll_51 : decode cX9_mixAll 51 = .ok (.bipush 8, 2) := by decide +kernel
theorem dX9_mixAll_53 : decode cX9_mixAll 53 = .ok (.aload_n 0, 1) := by decide +kernel
theorem dX9_mixAll_54 : decode cX9_mixAll 54 = .ok (.getfield 80, 3) := by decide +kernel
theorem dX9_mixAll_57 : decode cX9_mixAll 57 = .ok (.imul, 1) := by decide +kernel
theorem dX9_mixAll_58 : decode cX9_mixAll 58 = .ok (.if_icmp .ge 26, 3) := by decide +kernel
theorem dX9_mixAll_61 : decode cX9_mixAll 61 = .ok (.aload_n 0, 1) := by decide +kernel
theorem dX9_mixAll_62 : decode cX9_mixAll 62 = .ok (.aload_n 0, 1) := by decide +kernel
theorem dX9_mixAll_63 : decode cX9_mixAll 63 = .ok (.iload_n 1, 1) := by decide +kernel
theorem dX9_mixAll_64 : decode cX9_mixAll 64 = .ok (.bipush 8, 2) := by decide +kernel
theorem dX9_mixAll_66 : decode cX9_mixAll 66 = .ok (.idiv, 1) := by decide +kernel
theorem dX9_mixAll_67 : decode cX9_mixAll 67 = .ok (.iload_n 1, 1) := by decide +kernel
theorem dX9_mixAll_68 : decode cX9_mixAll 68 = .ok (.bipush 8, 2) := by decide +kernel
theorem dX9_mixAll_70 : decode cX9_mixAll 70 = .ok (.irem, 1) := by decide +kernel
theorem dX9_mixAll_71 : decode cX9_mixAll 71 = .ok (.invokevirtual 177, 3) := by decide +kernel
theorem dX9_mixAll_74 : decode cX9_mixAll 74 = .ok (.i2l, 1) := by decide +kernel
theorem dX9_mixAll_75 : decode cX9_mixAll 75 = .ok (.invokevirtual 228, 3) := by decide +kernel
theorem dX9_mixAll_78 : decode cX9_mixAll 78 = .ok (.iinc 1 1, 3) := by decide +kernel
theorem dX9_mixAll_81 : decode cX9_mixAll 81 = .ok (.goto (-31), 3) := by decide +kernel
theorem dX9_mixAll_84 : decode cX9_mixAll 84 = .ok (.iconst 0, 1) := by decide +kernel
theorem dX9_mixAll_85 : decode cX9_mixAll 85 = .ok (.istore_n 1, 1) := by decide +kernel
theorem dX9_mixAll_86 : decode cX9_mixAll 86 = .ok (.iload_n 1, 1) := by decide +kernel
theorem dX9_mixAll_87 : decode cX9_mixAll 87 = .ok (.bipush 6, 2) := by decide +kernel
theorem dX9_mixAll_89 : decode cX9_mixAll 89 = .ok (.aload_n 0, 1) := by decide +kernel
theorem dX9_mixAll_90 : decode cX9_mixAll 90 = .ok (.getfield 83, 3) := by decide +kernel
theorem dX9_mixAll_93 : decode cX9_mixAll 93 = .ok (.imul, 1) := by decide +kernel
theorem dX9_mixAll_94 : decode cX9_mixAll 94 = .ok (.if_icmp .ge 26, 3) := by decide +kernel
theorem dX9_mixAll_97 : decode cX9_mixAll 97 = .ok (.aload_n 0, 1) := by decide +kernel
theorem dX9_mixAll_98 : decode cX9_mixAll 98 = .ok (.aload_n 0, 1) := by decide +kernel
theorem dX9_mixAll_99 : decode cX9_mixAll 99 = .ok (.iload_n 1, 1) := by decide +kernel
theorem dX9_mixAll_100 : decode cX9_mixAll 100 = .ok (.bipush 6, 2) := by decide +kernel
theorem dX9_mixAll_102 : decode cX9_mixAll 102 = .ok (.idiv, 1) := by decide +kernel
theorem dX9_mixAll_103 : decode cX9_mixAll 103 = .ok (.iload_n 1, 1) := by decide +kernel
theorem dX9_mixAll_104 : decode cX9_mixAll 104 = .ok (.bipush 6, 2) := by decide +kernel
theorem dX9_mixAll_106 : decode cX9_mixAll 106 = .ok (.irem, 1) := by decide +kernel
theorem dX9_mixAll_107 : decode cX9_mixAll 107 = .ok (.invokevirtual 181, 3) := by decide +kernel
theorem dX9_mixAll_110 : decode cX9_mixAll 110 = .ok (.i2l, 1) := by decide +kernel
theorem dX9_mixAll_111 : decode cX9_mixAll 111 = .ok (.invokevirtual 228, 3) := by decide +kernel
theorem dX9_mixAll_114 : decode cX9_mixAll 114 = .ok (.iinc 1 1, 3) := by decide +kernel
theorem dX9_mixAll_117 : decode cX9_mixAll 117 = .ok (.goto (-31), 3) := by decide +kernel
theorem dX9_mixAll_120 : decode cX9_mixAll 120 = .ok (.iconst 0, 1) := by decide +kernel
theorem dX9_mixAll_121 : decode cX9_mixAll 121 = .ok (.istore_n 1, 1) := by decide +kernel
theorem dX9_mixAll_122 : decode cX9_mixAll 122 = .ok (.iload_n 1, 1) := by decide +kernel
theorem dX9_mixAll_123 : decode cX9_mixAll 123 = .ok (.aload_n 0, 1) := by decide +kernel
theorem dX9_mixAll_124 : decode cX9_mixAll 124 = .ok (.getfield 7, 3) := by decide +kernel
theorem dX9_mixAll_127 : decode cX9_mixAll 127 = .ok (.sipush 411, 3) := by decide +kernel
theorem dX9_mixAll_130 : decode cX9_mixAll 130 = .ok (.iaload, 1) := by decide +kernel
theorem dX9_mixAll_131 : decode cX9_mixAll 131 = .ok (.if_icmp .ge 35, 3) := by decide +kernel
theorem dX9_mixAll_134 : decode cX9_mixAll 134 = .ok (.aload_n 0, 1) := by decide +kernel
theorem dX9_mixAll_135 : decode cX9_mixAll 135 = .ok (.aload_n 0, 1) := by decide +kernel
theorem dX9_mixAll_136 : decode cX9_mixAll 136 = .ok (.getfield 7, 3) := by decide +kernel
theorem dX9_mixAll_139 : decode cX9_mixAll 139 = .ok (.sipush 412, 3) := by decide +kernel
theorem dX9_mixAll_142 : decode cX9_mixAll 142 = .ok (.iload_n 1, 1) := by decide +kernel
theorem dX9_mixAll_143 : decode cX9_mixAll 143 = .ok (.iadd, 1) := by decide +kernel
theorem dX9_mixAll_144 : decode cX9_mixAll 144 = .ok (.iaload, 1) := by decide +kernel
theorem dX9_mixAll_145 : decode cX9_mixAll 145 = .ok (.i2l, 1) := by decide +kernel
theorem dX9_mixAll_146 : decode cX9_mixAll 146 = .ok (.invokevirtual 228, 3) := by decide +kernel
theorem dX9_mixAll_149 : decode cX9_mixAll 149 = .ok (.aload_n 0, 1) := by decide +kernel
theorem dX9_mixAll_150 : decode cX9_mixAll 150 = .ok (.aload_n 0, 1) := by decide +kernel
theorem dX9_mixAll_151 : decode cX9_mixAll 151 = .ok (.getfield 52, 3) := by decide +kernel
theorem dX9_mixAll_154 : decode cX9_mixAll 154 = .ok (.iload_n 1, 1) := by decide +kernel
theorem dX9_mixAll_155 : decode cX9_mixAll 155 = .ok (.iaload, 1) := by decide +kernel
theorem dX9_mixAll_156 : decode cX9_mixAll 156 = .ok (.i2l, 1) := by decide +kernel
theorem dX9_mixAll_157 : decode cX9_mixAll 157 = .ok (.invokevirtual 228, 3) := by decide +kernel
theorem dX9_mixAll_160 : decode cX9_mixAll 160 = .ok (.iinc 1 1, 3) := by decide +kernel
theorem dX9_mixAll_163 : decode cX9_mixAll 163 = .ok (.goto (-41), 3) := by decide +kernel
theorem dX9_mixAll_166 : decode cX9_mixAll 166 = .ok (.iconst 0, 1) := by decide +kernel
theorem dX9_mixAll_167 : decode cX9_mixAll 167 = .ok (.istore_n 1, 1) := by decide +kernel
theorem dX9_mixAll_168 : decode cX9_mixAll 168 = .ok (.iload_n 1, 1) := by decide +kernel
theorem dX9_mixAll_169 : decode cX9_mixAll 169 = .ok (.sipush 140, 3) := by decide +kernel
theorem dX9_mixAll_172 : decode cX9_mixAll 172 = .ok (.if_icmp .gt 19, 3) := by decide +kernel
theorem dX9_mixAll_175 : decode cX9_mixAll 175 = .ok (.aload_n 0, 1) := by decide +kernel
theorem dX9_mixAll_176 : decode cX9_mixAll 176 = .ok (.aload_n 0, 1) := by decide +kernel
theorem dX9_mixAll_177 : decode cX9_mixAll 177 = .ok (.iload_n 1, 1) := by decide +kernel
theorem dX9_mixAll_178 : decode cX9_mixAll 178 = .ok (.invokevirtual 184, 3) := by decide +kernel
theorem dX9_mixAll_181 : decode cX9_mixAll 181 = .ok (.i2l, 1) := by decide +kernel
theorem dX9_mixAll_182 : decode cX9_mixAll 182 = .ok (.invokevirtual 228, 3) := by decide +kernel
theorem dX9_mixAll_185 : decode cX9_mixAll 185 = .ok (.iinc 1 10, 3) := by decide +kernel
theorem dX9_mixAll_188 : decode cX9_mixAll 188 = .ok (.goto (-20), 3) := by decide +kernel
theorem dX9_mixAll_191 : decode cX9_mixAll 191 = .ok (.aload_n 0, 1) := by decide +kernel
theorem dX9_mixAll_192 : decode cX9_mixAll 192 = .ok (.aload_n 0, 1) := by decide +kernel
theorem dX9_mixAll_193 : decode cX9_mixAll 193 = .ok (.iconst 1, 1) := by decide +kernel
theorem dX9_mixAll_194 : decode cX9_mixAll 194 = .ok (.invokevirtual 187, 3) := by decide +kernel
theorem dX9_mixAll_197 : decode cX9_mixAll 197 = .ok (.i2l, 1) := by decide +kernel
theorem dX9_mixAll_198 : decode cX9_mixAll 198 = .ok (.invokevirtual 228, 3) := by decide +kernel
theorem dX9_mixAll_201 : decode cX9_mixAll 201 = .ok (.aload_n 0, 1) := by decide +kernel
theorem dX9_mixAll_202 : decode cX9_mixAll 202 = .ok (.aload_n 0, 1) := by decide +kernel
theorem dX9_mixAll_203 : decode cX9_mixAll 203 = .ok (.bipush 10, 2) := by decide +kernel
theorem dX9_mixAll_205 : decode cX9_mixAll 205 = .ok (.invokevirtual 187, 3) := by decide +kernel
theorem dX9_mixAll_208 : decode cX9_mixAll 208 = .ok (.i2l, 1) := by decide +kernel
theorem dX9_mixAll_209 : decode cX9_mixAll 209 = .ok (.invokevirtual 228, 3) := by decide +kernel
theorem dX9_mixAll_212 : decode cX9_mixAll 212 = .ok (.aload_n 0, 1) := by decide +kernel
theorem dX9_mixAll_213 : decode cX9_mixAll 213 = .ok (.aload_n 0, 1) := by decide +kernel
theorem dX9_mixAll_214 : decode cX9_mixAll 214 = .ok (.bipush 50, 2) := by decide +kernel
theorem dX9_mixAll_216 : decode cX9_mixAll 216 = .ok (.invokevirtual 187, 3) := by decide +kernel
theorem dX9_mixAll_219 : decode cX9_mixAll 219 = .ok (.i2l, 1) := by decide +kernel
theorem dX9_mixAll_220 : decode cX9_mixAll 220 = .ok (.invokevirtual 228, 3) := by decide +kernel
theorem dX9_mixAll_223 : decode cX9_mixAll 223 = .ok (.aload_n 0, 1) := by decide +kernel
theorem dX9_mixAll_224 : decode cX9_mixAll 224 = .ok (.aload_n 0, 1) := by decide +kernel
theorem dX9_mixAll_225 : decode cX9_mixAll 225 = .ok (.bipush 90, 2) := by decide +kernel
theorem dX9_mixAll_227 : decode cX9_mixAll 227 = .ok (.invokevirtual 187, 3) := by decide +kernel
theorem dX9_mixAll_230 : decode cX9_mixAll 230 = .ok (.i2l, 1) := by decide +kernel
theorem dX9_mixAll_231 : decode cX9_mixAll 231 = .ok (.invokevirtual 228, 3) := by decide +kernel
theorem dX9_mixAll_234 : decode cX9_mixAll 234 = .ok (.aload_n 0, 1) := by decide +kernel
theorem dX9_mixAll_235 : decode cX9_mixAll 235 = .ok (.aload_n 0, 1) := by decide +kernel
theorem dX9_mixAll_236 : decode cX9_mixAll 236 = .ok (.bipush 100, 2) := by decide +kernel
theorem dX9_mixAll_238 : decode cX9_mixAll 238 = .ok (.invokevirtual 187, 3) := by decide +kernel
theorem dX9_mixAll_241 : decode cX9_mixAll 241 = .ok (.i2l, 1) := by decide +kernel
theorem dX9_mixAll_242 : decode cX9_mixAll 242 = .ok (.invokevirtual 228, 3) := by decide +kernel
theorem dX9_mixAll_245 : decode cX9_mixAll 245 = .ok (.return_, 1) := by decide +kernel
set_option maxHeartbeats 4000000 in
set_option maxRecDepth 100000 in
theorem w_X9_mixAll_l2 {w : WT} {l : Launch} {p : Program} {e : Env} {s : State} {m : MethodId} {args : Array Value} {below : List Frame} {meth : Method} {c : Code} (C : KC w p s m args meth c cX9_mixAll 2 RX9 none) {M : Mem} {Q : State → Prop} (z : Int32 × Lng) (o : (Int32 × Lng) ⊕ (Lng)) (hf : f_X9_mixAll_l2 M z = some o) (hA : ∀ z, o = .inl z → AtL w p l e ({ frames := 4, cells := 0, slots := 0, locals := 85 } : Room) s m args below meth c Q 2 2 M z.2 [(0, .ref (wAd w 90)), (1, .int z.1)] []) (hE : ∀ y, o = .inr y → AtL w p l e ({ frames := 4, cells := 0, slots := 0, locals := 85 } : Room) s m args below meth c Q 2 24 M y [(0, .ref (wAd w 90))] []) : AtL w p l e ({ frames := 4, cells := 0, slots := 0, locals := 85 } : Room) s m args below meth c Q 2 2 M z.2 [(0, .ref (wAd w 90)), (1, .int z.1)] [] := by
  intro H locs ls hP hS hl
  unfold f_X9_mixAll_l2 at hf
  refine lv_iload_n C.1 C.2.1 dX9_mixAll_2 rfl (lv_at hl 1 rfl) ?_
  refine lv_bipush (v := 12) C.1 C.2.1 dX9_mixAll_3 (by decide) ?_
  refine lv_icmp_ge (tgt := 24) C.1 C.2.1 dX9_mixAll_5 (by decide) (fun c1 => ?_) (fun c1 => ?_)
  · have hf := (if_pos c1).symm.trans hf
    cases hf
    exact hE _ rfl _ _ _ hP hS (lv_sub hl [0] rfl)
  · have hf := (if_neg c1).symm.trans hf
    refine lv_aload_n C.1 C.2.1 dX9_mixAll_8 rfl (lv_at hl 0 rfl) ?_
    refine lv_aload_n C.1 C.2.1 dX9_mixAll_9 rfl (lv_at hl 0 rfl) ?_
    refine lv_iload_n C.1 C.2.1 dX9_mixAll_10 rfl (lv_at hl 1 rfl) ?_
    obtain ⟨r2, hr2, hf⟩ := ob hf
    refine kci (kV (As := [.int z.1]) (rest := [.ref (wAd w 90)]) C hl.1 hP hS (c_X9_counted w l C.2.2.2.2.2.2.2.2 (L := z.2) hr2) (gV q1132 q1134 qp49 q10 q1135) hd_X9_counted (lt_Model h0_Model) (ob_Model h0_Model w z.2 _) rfl ⟨rfl, rfl⟩ ⟨Nat.le_of_ble_eq_true rfl, Nat.le_of_ble_eq_true rfl⟩ rfl rfl (Nat.le_of_ble_eq_true rfl) dX9_mixAll_11 ⟨Nat.zero_le _, Nat.zero_le _⟩) hS (fun H locs hP hS => ?_)
    refine lv_i2l (v := (Int32.toInt64 r2)) C.1 C.2.1 dX9_mixAll_14 rfl ?_
    obtain ⟨r3, hr3, hf⟩ := ob hf
    refine kcv (kV (As := [.long (Int32.toInt64 r2)]) (rest := []) C hl.1 hP hS (c_X9_mix w l C.2.2.2.2.2.2.2.2 hr3) (gV q1201 q1203 qp60 q10 q1204) hd_X9_mix (lt_Model h0_Model) (ob_Model h0_Model w z.2 _) rfl ⟨rfl, rfl⟩ ⟨Nat.le_of_ble_eq_true rfl, Nat.le_of_ble_eq_true rfl⟩ rfl rfl (Nat.le_of_ble_eq_true rfl) dX9_mixAll_15 ⟨Nat.zero_le _, Nat.zero_le _⟩) hS (fun H locs hP hS => ?_)
    refine lv_iinc (v := (z.1 + 1)) (lv' := [(1, .int (z.1 + 1)), (0, .ref (wAd w 90))]) C.1 C.2.1 dX9_mixAll_18 hl (k := 1) rfl rfl (by decide) rfl (fun ls hl => ?_)
    refine lv_goto (tgt := 2) C.1 C.2.1 dX9_mixAll_21 (by decide) ?_
    cases hf
    exact hA _ rfl _ _ _ hP hS (lv_sub hl [1, 0] rfl)
set_option maxHeartbeats 4000000 in
set_option maxRecDepth 100000 in
theorem w_X9_mixAll_l26 {w : WT} {l : Launch} {p : Program} {e : Env} {s : State} {m : MethodId} {args : Array Value} {below : List Frame} {meth : Method} {c : Code} (C : KC w p s m args meth c cX9_mixAll 2 RX9 none) {M : Mem} {Q : State → Prop} (z : Int32 × Lng) (o : (Int32 × Lng) ⊕ (Lng)) (hf : f_X9_mixAll_l26 M z = some o) (hA : ∀ z, o = .inl z → AtL w p l e ({ frames := 4, cells := 0, slots := 0, locals := 85 } : Room) s m args below meth c Q 2 26 M z.2 [(0, .ref (wAd w 90)), (1, .int z.1)] []) (hE : ∀ y, o = .inr y → AtL w p l e ({ frames := 4, cells := 0, slots := 0, locals := 85 } : Room) s m args below meth c Q 2 48 M y [(0, .ref (wAd w 90))] []) : AtL w p l e ({ frames := 4, cells := 0, slots := 0, locals := 85 } : Room) s m args below meth c Q 2 26 M z.2 [(0, .ref (wAd w 90)), (1, .int z.1)] [] := by
  intro H locs ls hP hS hl
  unfold f_X9_mixAll_l26 at hf
  refine lv_iload_n C.1 C.2.1 dX9_mixAll_26 rfl (lv_at hl 1 rfl) ?_
  refine lv_bipush (v := 10) C.1 C.2.1 dX9_mixAll_27 (by decide) ?_
  refine lv_icmp_ge (tgt := 48) C.1 C.2.1 dX9_mixAll_29 (by decide) (fun c5 => ?_) (fun c5 => ?_)
  · have hf := (if_pos c5).symm.trans hf
    cases hf
    exact hE _ rfl _ _ _ hP hS (lv_sub hl [0] rfl)
  · have hf := (if_neg c5).symm.trans hf
    refine lv_aload_n C.1 C.2.1 dX9_mixAll_32 rfl (lv_at hl 0 rfl) ?_
    refine lv_aload_n C.1 C.2.1 dX9_mixAll_33 rfl (lv_at hl 0 rfl) ?_
    refine lv_iload_n C.1 C.2.1 dX9_mixAll_34 rfl (lv_at hl 1 rfl) ?_
    obtain ⟨r6, hr6, hf⟩ := ob hf
    refine kci (kV (As := [.int z.1]) (rest := [.ref (wAd w 90)]) C hl.1 hP hS (c_X9_of w l C.2.2.2.2.2.2.2.2 (L := z.2) hr6) (gV q973 q975 qp25 q10 q976) hd_X9_of (lt_Model h0_Model) (ob_Model h0_Model w z.2 _) rfl ⟨rfl, rfl⟩ ⟨Nat.le_of_ble_eq_true rfl, Nat.le_of_ble_eq_true rfl⟩ rfl rfl (Nat.le_of_ble_eq_true rfl) dX9_mixAll_35 ⟨Nat.zero_le _, Nat.zero_le _⟩) hS (fun H locs hP hS => ?_)
    refine lv_i2l (v := (Int32.toInt64 r6)) C.1 C.2.1 dX9_mixAll_38 rfl ?_
    obtain ⟨r7, hr7, hf⟩ := ob hf
    refine kcv (kV (As := [.long (Int32.toInt64 r6)]) (rest := []) C hl.1 hP hS (c_X9_mix w l C.2.2.2.2.2.2.2.2 hr7) (gV q1201 q1203 qp60 q10 q1204) hd_X9_mix (lt_Model h0_Model) (ob_Model h0_Model w z.2 _) rfl ⟨rfl, rfl⟩ ⟨Nat.le_of_ble_eq_true rfl, Nat.le_of_ble_eq_true rfl⟩ rfl rfl (Nat.le_of_ble_eq_true rfl) dX9_mixAll_39 ⟨Nat.zero_le _, Nat.zero_le _⟩) hS (fun H locs hP hS => ?_)
    refine lv_iinc (v := (z.1 + 1)) (lv' := [(1, .int (z.1 + 1)), (0, .ref (wAd w 90))]) C.1 C.2.1 dX9_mixAll_42 hl (k := 1) rfl rfl (by decide) rfl (fun ls hl => ?_)
    refine lv_goto (tgt := 26) C.1 C.2.1 dX9_mixAll_45 (by decide) ?_
    cases hf
    exact hA _ rfl _ _ _ hP hS (lv_sub hl [1, 0] rfl)
set_option maxHeartbeats 4000000 in
set_option maxRecDepth 100000 in
theorem w_X9_mixAll_l50 {w : WT} {l : Launch} {p : Program} {e : Env} {s : State} {m : MethodId} {args : Array Value} {below : List Frame} {meth : Method} {c : Code} (C : KC w p s m args meth c cX9_mixAll 2 RX9 none) {M : Mem} {Q : State → Prop} (z : Int32 × Lng) (o : (Int32 × Lng) ⊕ (Lng)) (hf : f_X9_mixAll_l50 M z = some o) (hA : ∀ z, o = .inl z → AtL w p l e ({ frames := 4, cells := 0, slots := 0, locals := 85 } : Room) s m args below meth c Q 2 50 M z.2 [(0, .ref (wAd w 90)), (1, .int z.1)] []) (hE : ∀ y, o = .inr y → AtL w p l e ({ frames := 4, cells := 0, slots := 0, locals := 85 } : Room) s m args below meth c Q 2 84 M y [(0, .ref (wAd w 90))] []) : AtL w p l e ({ frames := 4, cells := 0, slots := 0, locals := 85 } : Room) s m args below meth c Q 2 50 M z.2 [(0, .ref (wAd w 90)), (1, .int z.1)] [] := by
  intro H locs ls hP hS hl
  unfold f_X9_mixAll_l50 at hf
  refine lv_iload_n C.1 C.2.1 dX9_mixAll_50 rfl (lv_at hl 1 rfl) ?_
  refine lv_bipush (v := 8) C.1 C.2.1 dX9_mixAll_51 (by decide) ?_
  refine lv_aload_n C.1 C.2.1 dX9_mixAll_53 rfl (lv_at hl 0 rfl) ?_
  refine k_get (v := .int (M 90 6)) C hP (lt_Model h0_Model) (ob_Model h0_Model w z.2 _) rfl iX9 6 (by decide) q869 rfl dX9_mixAll_54 ?_
  refine lv_imul C.1 C.2.1 dX9_mixAll_57 ?_
  refine lv_icmp_ge (tgt := 84) C.1 C.2.1 dX9_mixAll_58 (by decide) (fun c9 => ?_) (fun c9 => ?_)
  · have hf := (if_pos c9).symm.trans hf
    cases hf
    exact hE _ rfl _ _ _ hP hS (lv_sub hl [0] rfl)
  · have hf := (if_neg c9).symm.trans hf
    refine lv_aload_n C.1 C.2.1 dX9_mixAll_61 rfl (lv_at hl 0 rfl) ?_
    refine lv_aload_n C.1 C.2.1 dX9_mixAll_62 rfl (lv_at hl 0 rfl) ?_
    refine lv_iload_n C.1 C.2.1 dX9_mixAll_63 rfl (lv_at hl 1 rfl) ?_
    refine lv_bipush (v := 8) C.1 C.2.1 dX9_mixAll_64 (by decide) ?_
    obtain ⟨x10, hx10, hf⟩ := ob hf
    refine k_idiv C hx10 dX9_mixAll_66 ?_
    refine lv_iload_n C.1 C.2.1 dX9_mixAll_67 rfl (lv_at hl 1 rfl) ?_
    refine lv_bipush (v := 8) C.1 C.2.1 dX9_mixAll_68 (by decide) ?_
    obtain ⟨x11, hx11, hf⟩ := ob hf
    refine k_irem C hx11 dX9_mixAll_70 ?_
    obtain ⟨r12, hr12, hf⟩ := ob hf
    refine kci (kV (As := [.int x10, .int x11]) (rest := [.ref (wAd w 90)]) C hl.1 hP hS (c_X9_minuteNow w l C.2.2.2.2.2.2.2.2 (L := z.2) hr12) (gV q1096 q1098 qp45 q10 q1099) hd_X9_minuteNow (lt_Model h0_Model) (ob_Model h0_Model w z.2 _) rfl ⟨rfl, rfl⟩ ⟨Nat.le_of_ble_eq_true rfl, Nat.le_of_ble_eq_true rfl⟩ rfl rfl (Nat.le_of_ble_eq_true rfl) dX9_mixAll_71 ⟨Nat.zero_le _, Nat.zero_le _⟩) hS (fun H locs hP hS => ?_)
    refine lv_i2l (v := (Int32.toInt64 r12)) C.1 C.2.1 dX9_mixAll_74 rfl ?_
    obtain ⟨r13, hr13, hf⟩ := ob hf
    refine kcv (kV (As := [.long (Int32.toInt64 r12)]) (rest := []) C hl.1 hP hS (c_X9_mix w l C.2.2.2.2.2.2.2.2 hr13) (gV q1201 q1203 qp60 q10 q1204) hd_X9_mix (lt_Model h0_Model) (ob_Model h0_Model w z.2 _) rfl ⟨rfl, rfl⟩ ⟨Nat.le_of_ble_eq_true rfl, Nat.le_of_ble_eq_true rfl⟩ rfl rfl (Nat.le_of_ble_eq_true rfl) dX9_mixAll_75 ⟨Nat.zero_le _, Nat.zero_le _⟩) hS (fun H locs hP hS => ?_)
    refine lv_iinc (v := (z.1 + 1)) (lv' := [(1, .int (z.1 + 1)), (0, .ref (wAd w 90))]) C.1 C.2.1 dX9_mixAll_78 hl (k := 1) rfl rfl (by decide) rfl (fun ls hl => ?_)
    refine lv_goto (tgt := 50) C.1 C.2.1 dX9_mixAll_81 (by decide) ?_
    cases hf
    exact hA _ rfl _ _ _ hP hS (lv_sub hl [1, 0] rfl)
set_option maxHeartbeats 4000000 in
set_option maxRecDepth 100000 in
theorem w_X9_mixAll_l86 {w : WT} {l : Launch} {p : Program} {e : Env} {s : State} {m : MethodId} {args : Array Value} {below : List Frame} {meth : Method} {c : Code} (C : KC w p s m args meth c cX9_mixAll 2 RX9 none) {M : Mem} {Q : State → Prop} (z : Int32 × Lng) (o : (Int32 × Lng) ⊕ (Lng)) (hf : f_X9_mixAll_l86 M z = some o) (hA : ∀ z, o = .inl z → AtL w p l e ({ frames := 4, cells := 0, slots := 0, locals := 85 } : Room) s m args below meth c Q 2 86 M z.2 [(0, .ref (wAd w 90)), (1, .int z.1)] []) (hE : ∀ y, o = .inr y → AtL w p l e ({ frames := 4, cells := 0, slots := 0, locals := 85 } : Room) s m args below meth c Q 2 120 M y [(0, .ref (wAd w 90))] []) : AtL w p l e ({ frames := 4, cells := 0, slots := 0, locals := 85 } : Room) s m args below meth c Q 2 86 M z.2 [(0, .ref (wAd w 90)), (1, .int z.1)] [] := by
  intro H locs ls hP hS hl
  unfold f_X9_mixAll_l86 at hf
  refine lv_iload_n C.1 C.2.1 dX9_mixAll_86 rfl (lv_at hl 1 rfl) ?_
  refine lv_bipush (v := 6) C.1 C.2.1 dX9_mixAll_87 (by decide) ?_
  refine lv_aload_n C.1 C.2.1 dX9_mixAll_89 rfl (lv_at hl 0 rfl) ?_
  refine k_get (v := .int (M 90 13)) C hP (lt_Model h0_Model) (ob_Model h0_Model w z.2 _) rfl iX9 13 (by decide) q876 rfl dX9_mixAll_90 ?_
  refine lv_imul C.1 C.2.1 dX9_mixAll_93 ?_
  refine lv_icmp_ge (tgt := 120) C.1 C.2.1 dX9_mixAll_94 (by decide) (fun c15 => ?_) (fun c15 => ?_)
  · have hf := (if_pos c15).symm.trans hf
    cases hf
    exact hE _ rfl _ _ _ hP hS (lv_sub hl [0] rfl)
  · have hf := (if_neg c15).symm.trans hf
    refine lv_aload_n C.1 C.2.1 dX9_mixAll_97 rfl (lv_at hl 0 rfl) ?_
    refine lv_aload_n C.1 C.2.1 dX9_mixAll_98 rfl (lv_at hl 0 rfl) ?_
    refine lv_iload_n C.1 C.2.1 dX9_mixAll_99 rfl (lv_at hl 1 rfl) ?_
    refine lv_bipush (v := 6) C.1 C.2.1 dX9_mixAll_100 (by decide) ?_
    obtain ⟨x16, hx16, hf⟩ := ob hf
    refine k_idiv C hx16 dX9_mixAll_102 ?_
    refine lv_iload_n C.1 C.2.1 dX9_mixAll_103 rfl (lv_at hl 1 rfl) ?_
    refine lv_bipush (v := 6) C.1 C.2.1 dX9_mixAll_104 (by decide) ?_
    obtain ⟨x17, hx17, hf⟩ := ob hf
    refine k_irem C hx17 dX9_mixAll_106 ?_
    obtain ⟨r18, hr18, hf⟩ := ob hf
    refine kci (kV (As := [.int x16, .int x17]) (rest := [.ref (wAd w 90)]) C hl.1 hP hS (c_X9_exceedanceNow w l C.2.2.2.2.2.2.2.2 (L := z.2) hr18) (gV q1104 q1106 qp46 q10 q1107) hd_X9_exceedanceNow (lt_Model h0_Model) (ob_Model h0_Model w z.2 _) rfl ⟨rfl, rfl⟩ ⟨Nat.le_of_ble_eq_true rfl, Nat.le_of_ble_eq_true rfl⟩ rfl rfl (Nat.le_of_ble_eq_true rfl) dX9_mixAll_107 ⟨Nat.zero_le _, Nat.zero_le _⟩) hS (fun H locs hP hS => ?_)
    refine lv_i2l (v := (Int32.toInt64 r18)) C.1 C.2.1 dX9_mixAll_110 rfl ?_
    obtain ⟨r19, hr19, hf⟩ := ob hf
    refine kcv (kV (As := [.long (Int32.toInt64 r18)]) (rest := []) C hl.1 hP hS (c_X9_mix w l C.2.2.2.2.2.2.2.2 hr19) (gV q1201 q1203 qp60 q10 q1204) hd_X9_mix (lt_Model h0_Model) (ob_Model h0_Model w z.2 _) rfl ⟨rfl, rfl⟩ ⟨Nat.le_of_ble_eq_true rfl, Nat.le_of_ble_eq_true rfl⟩ rfl rfl (Nat.le_of_ble_eq_true rfl) dX9_mixAll_111 ⟨Nat.zero_le _, Nat.zero_le _⟩) hS (fun H locs hP hS => ?_)
    refine lv_iinc (v := (z.1 + 1)) (lv' := [(1, .int (z.1 + 1)), (0, .ref (wAd w 90))]) C.1 C.2.1 dX9_mixAll_114 hl (k := 1) rfl rfl (by decide) rfl (fun ls hl => ?_)
    refine lv_goto (tgt := 86) C.1 C.2.1 dX9_mixAll_117 (by decide) ?_
    cases hf
    exact hA _ rfl _ _ _ hP hS (lv_sub hl [1, 0] rfl)
set_option maxHeartbeats 4000000 in
set_option maxRecDepth 100000 in
theorem w_X9_mixAll_l122 {w : WT} {l : Launch} {p : Program} {e : Env} {s : State} {m : MethodId} {args : Array Value} {below : List Frame} {meth : Method} {c : Code} (C : KC w p s m args meth c cX9_mixAll 2 RX9 none) {M : Mem} {Q : State → Prop} (z : Int32 × Lng) (o : (Int32 × Lng) ⊕ (Lng)) (hf : f_X9_mixAll_l122 M z = some o) (hA : ∀ z, o = .inl z → AtL w p l e ({ frames := 4, cells := 0, slots := 0, locals := 85 } : Room) s m args below meth c Q 2 122 M z.2 [(0, .ref (wAd w 90)), (1, .int z.1)] []) (hE : ∀ y, o = .inr y → AtL w p l e ({ frames := 4, cells := 0, slots := 0, locals := 85 } : Room) s m args below meth c Q 2 166 M y [(0, .ref (wAd w 90))] []) : AtL w p l e ({ frames := 4, cells := 0, slots := 0, locals := 85 } : Room) s m args below meth c Q 2 122 M z.2 [(0, .ref (wAd w 90)), (1, .int z.1)] [] := by
  intro H locs ls hP hS hl
  unfold f_X9_mixAll_l122 at hf
  refine lv_iload_n C.1 C.2.1 dX9_mixAll_122 rfl (lv_at hl 1 rfl) ?_
  refine lv_aload_n C.1 C.2.1 dX9_mixAll_123 rfl (lv_at hl 0 rfl) ?_
  refine k_get (v := .ref (wAd w 91)) C hP (lt_Model h0_Model) (ob_Model h0_Model w z.2 _) rfl iX9 1 (by decide) q864 rfl dX9_mixAll_124 ?_
  refine lv_sipush (v := 411) C.1 C.2.1 dX9_mixAll_127 (by decide) ?_
  obtain ⟨x21, hx21, hf⟩ := ob hf
  refine k_iald C hP (la_Model_z h0_Model) (ar_Model_z h0_Model w z.2 _) hx21 dX9_mixAll_130 ?_
  refine lv_icmp_ge (tgt := 166) C.1 C.2.1 dX9_mixAll_131 (by decide) (fun c22 => ?_) (fun c22 => ?_)
  · have hf := (if_pos c22).symm.trans hf
    cases hf
    exact hE _ rfl _ _ _ hP hS (lv_sub hl [0] rfl)
  · have hf := (if_neg c22).symm.trans hf
    refine lv_aload_n C.1 C.2.1 dX9_mixAll_134 rfl (lv_at hl 0 rfl) ?_
    refine lv_aload_n C.1 C.2.1 dX9_mixAll_135 rfl (lv_at hl 0 rfl) ?_
    refine k_get (v := .ref (wAd w 91)) C hP (lt_Model h0_Model) (ob_Model h0_Model w z.2 _) rfl iX9 1 (by decide) q864 rfl dX9_mixAll_136 ?_
    refine lv_sipush (v := 412) C.1 C.2.1 dX9_mixAll_139 (by decide) ?_
    refine lv_iload_n C.1 C.2.1 dX9_mixAll_142 rfl (lv_at hl 1 rfl) ?_
    refine lv_iadd C.1 C.2.1 dX9_mixAll_143 ?_
    obtain ⟨x23, hx23, hf⟩ := ob hf
    refine k_iald C hP (la_Model_z h0_Model) (ar_Model_z h0_Model w z.2 _) hx23 dX9_mixAll_144 ?_
    refine lv_i2l (v := (Int32.toInt64 x23)) C.1 C.2.1 dX9_mixAll_145 rfl ?_
    obtain ⟨r24, hr24, hf⟩ := ob hf
    refine kcv (kV (As := [.long (Int32.toInt64 x23)]) (rest := []) C hl.1 hP hS (c_X9_mix w l C.2.2.2.2.2.2.2.2 hr24) (gV q1201 q1203 qp60 q10 q1204) hd_X9_mix (lt_Model h0_Model) (ob_Model h0_Model w z.2 _) rfl ⟨rfl, rfl⟩ ⟨Nat.le_of_ble_eq_true rfl, Nat.le_of_ble_eq_true rfl⟩ rfl rfl (Nat.le_of_ble_eq_true rfl) dX9_mixAll_146 ⟨Nat.zero_le _, Nat.zero_le _⟩) hS (fun H locs hP hS => ?_)
    refine lv_aload_n C.1 C.2.1 dX9_mixAll_149 rfl (lv_at hl 0 rfl) ?_
    refine lv_aload_n C.1 C.2.1 dX9_mixAll_150 rfl (lv_at hl 0 rfl) ?_
    refine k_get (v := .ref (wAd w 105)) C hP (lt_Model h0_Model) (ob_Model h0_Model w r24 _) rfl iX9 20 (by decide) q883 rfl dX9_mixAll_151 ?_
    refine lv_iload_n C.1 C.2.1 dX9_mixAll_154 rfl (lv_at hl 1 rfl) ?_
    obtain ⟨x25, hx25, hf⟩ := ob hf
    refine k_iald C hP (la_Model_matched h0_Model) (ar_Model_matched h0_Model w r24 _) hx25 dX9_mixAll_155 ?_
    refine lv_i2l (v := (Int32.toInt64 x25)) C.1 C.2.1 dX9_mixAll_156 rfl ?_
    obtain ⟨r26, hr26, hf⟩ := ob hf
    refine kcv (kV (As := [.long (Int32.toInt64 x25)]) (rest := []) C hl.1 hP hS (c_X9_mix w l C.2.2.2.2.2.2.2.2 hr26) (gV q1201 q1203 qp60 q10 q1204) hd_X9_mix (lt_Model h0_Model) (ob_Model h0_Model w r24 _) rfl ⟨rfl, rfl⟩ ⟨Nat.le_of_ble_eq_true rfl, Nat.le_of_ble_eq_true rfl⟩ rfl rfl (Nat.le_of_ble_eq_true rfl) dX9_mixAll_157 ⟨Nat.zero_le _, Nat.zero_le _⟩) hS (fun H locs hP hS => ?_)
    refine lv_iinc (v := (z.1 + 1)) (lv' := [(1, .int (z.1 + 1)), (0, .ref (wAd w 90))]) C.1 C.2.1 dX9_mixAll_160 hl (k := 1) rfl rfl (by decide) rfl (fun ls hl => ?_)
    refine lv_goto (tgt := 122) C.1 C.2.1 dX9_mixAll_163 (by decide) ?_
    cases hf
    exact hA _ rfl _ _ _ hP hS (lv_sub hl [1, 0] rfl)
set_option maxHeartbeats 4000000 in
set_option maxRecDepth 100000 in
theorem w_X9_mixAll_l168 {w : WT} {l : Launch} {p : Program} {e : Env} {s : State} {m : MethodId} {args : Array Value} {below : List Frame} {meth : Method} {c : Code} (C : KC w p s m args meth c cX9_mixAll 2 RX9 none) {M : Mem} {Q : State → Prop} (z : Int32 × Lng) (o : (Int32 × Lng) ⊕ (Lng)) (hf : f_X9_mixAll_l168 M z = some o) (hA : ∀ z, o = .inl z → AtL w p l e ({ frames := 4, cells := 0, slots := 0, locals := 85 } : Room) s m args below meth c Q 2 168 M z.2 [(0, .ref (wAd w 90)), (1, .int z.1)] []) (hE : ∀ y, o = .inr y → AtL w p l e ({ frames := 4, cells := 0, slots := 0, locals := 85 } : Room) s m args below meth c Q 2 191 M y [(0, .ref (wAd w 90))] []) : AtL w p l e ({ frames := 4, cells := 0, slots := 0, locals := 85 } : Room) s m args below meth c Q 2 168 M z.2 [(0, .ref (wAd w 90)), (1, .int z.1)] [] := by
  intro H locs ls hP hS hl
  unfold f_X9_mixAll_l168 at hf
  refine lv_iload_n C.1 C.2.1 dX9_mixAll_168 rfl (lv_at hl 1 rfl) ?_
  refine lv_sipush (v := 140) C.1 C.2.1 dX9_mixAll_169 (by decide) ?_
  refine lv_icmp_gt (tgt := 191) C.1 C.2.1 dX9_mixAll_172 (by decide) (fun c28 => ?_) (fun c28 => ?_)
  · have hf := (if_pos c28).symm.trans hf
    cases hf
    exact hE _ rfl _ _ _ hP hS (lv_sub hl [0] rfl)
  · have hf := (if_neg c28).symm.trans hf
    refine lv_aload_n C.1 C.2.1 dX9_mixAll_175 rfl (lv_at hl 0 rfl) ?_
    refine lv_aload_n C.1 C.2.1 dX9_mixAll_176 rfl (lv_at hl 0 rfl) ?_
    refine lv_iload_n C.1 C.2.1 dX9_mixAll_177 rfl (lv_at hl 1 rfl) ?_
    obtain ⟨r29, hr29, hf⟩ := ob hf
    refine kci (kV (As := [.int z.1]) (rest := [.ref (wAd w 90)]) C hl.1 hP hS (c_X9_countFrom w l C.2.2.2.2.2.2.2.2 (L := z.2) hr29) (gV q1116 q1118 qp47 q10 q1119) hd_X9_countFrom (lt_Model h0_Model) (ob_Model h0_Model w z.2 _) rfl ⟨rfl, rfl⟩ ⟨Nat.le_of_ble_eq_true rfl, Nat.le_of_ble_eq_true rfl⟩ rfl rfl (Nat.le_of_ble_eq_true rfl) dX9_mixAll_178 ⟨Nat.zero_le _, Nat.zero_le _⟩) hS (fun H locs hP hS => ?_)
    refine lv_i2l (v := (Int32.toInt64 r29)) C.1 C.2.1 dX9_mixAll_181 rfl ?_
    obtain ⟨r30, hr30, hf⟩ := ob hf
    refine kcv (kV (As := [.long (Int32.toInt64 r29)]) (rest := []) C hl.1 hP hS (c_X9_mix w l C.2.2.2.2.2.2.2.2 hr30) (gV q1201 q1203 qp60 q10 q1204) hd_X9_mix (lt_Model h0_Model) (ob_Model h0_Model w z.2 _) rfl ⟨rfl, rfl⟩ ⟨Nat.le_of_ble_eq_true rfl, Nat.le_of_ble_eq_true rfl⟩ rfl rfl (Nat.le_of_ble_eq_true rfl) dX9_mixAll_182 ⟨Nat.zero_le _, Nat.zero_le _⟩) hS (fun H locs hP hS => ?_)
    refine lv_iinc (v := (z.1 + 10)) (lv' := [(1, .int (z.1 + 10)), (0, .ref (wAd w 90))]) C.1 C.2.1 dX9_mixAll_185 hl (k := 1) rfl rfl (by decide) rfl (fun ls hl => ?_)
    refine lv_goto (tgt := 168) C.1 C.2.1 dX9_mixAll_188 (by decide) ?_
    cases hf
    exact hA _ rfl _ _ _ hP hS (lv_sub hl [1, 0] rfl)
set_option maxHeartbeats 4000000 in
set_option maxRecDepth 100000 in
theorem c_X9_mixAll (w : WT) (l : Launch) (hw : WOK w) {M : Mem} {L : Lng} {out : Lng} (hf : f_X9_mixAll M L = some out) : Met l yX9_mixAll (Cond.code yX9_mixAll cX9_mixAll 2 none :: BG) ({ frames := 4, cells := 0, slots := 0, locals := 85 } : Room) (PRE w [.ref (wAd w 90)] M L) (QV w M out) 0 0 (wA w) := by
  refine kEnt hw (by decide +kernel) rfl (Nat.le_of_ble_eq_true rfl) ?_
  intro p e s m args below meth c C ls hl hP
  have hS : va_S (wA w) s.heap s.heap [] := va_S.rf
  have hl : lv_has ls 2 [(0, .ref (wAd w 90))] := hl
  unfold f_X9_mixAll at hf
  refine lv_iconst (v := 0) C.1 C.2.1 dX9_mixAll_0 (by decide) ?_
  refine lv_istore_n (lv' := [(1, .int 0), (0, .ref (wAd w 90))]) C.1 C.2.1 dX9_mixAll_1 rfl hl (by decide) rfl (fun ls hl => ?_)
  obtain ⟨o4, ho4, hf⟩ := ob hf
  refine loop_at (w_X9_mixAll_l2 C) FU _ o4 ho4 ?_ _ _ _ hP hS (lv_sub hl [1, 0] rfl)
  intro H locs ls hP hS hl
  refine lv_iconst (v := 0) C.1 C.2.1 dX9_mixAll_24 (by decide) ?_
  refine lv_istore_n (lv' := [(1, .int 0), (0, .ref (wAd w 90))]) C.1 C.2.1 dX9_mixAll_25 rfl hl (by decide) rfl (fun ls hl => ?_)
  obtain ⟨o8, ho8, hf⟩ := ob hf
  refine loop_at (w_X9_mixAll_l26 C) FU _ o8 ho8 ?_ _ _ _ hP hS (lv_sub hl [1, 0] rfl)
  intro H locs ls hP hS hl
  refine lv_iconst (v := 0) C.1 C.2.1 dX9_mixAll_48 (by decide) ?_
  refine lv_istore_n (lv' := [(1, .int 0), (0, .ref (wAd w 90))]) C.1 C.2.1 dX9_mixAll_49 rfl hl (by decide) rfl (fun ls hl => ?_)
  obtain ⟨o14, ho14, hf⟩ := ob hf
  refine loop_at (w_X9_mixAll_l50 C) FU _ o14 ho14 ?_ _ _ _ hP hS (lv_sub hl [1, 0] rfl)
  intro H locs ls hP hS hl
  refine lv_iconst (v := 0) C.1 C.2.1 dX9_mixAll_84 (by decide) ?_
  refine lv_istore_n (lv' := [(1, .int 0), (0, .ref (wAd w 90))]) C.1 C.2.1 dX9_mixAll_85 rfl hl (by decide) rfl (fun ls hl => ?_)
  obtain ⟨o20, ho20, hf⟩ := ob hf
  refine loop_at (w_X9_mixAll_l86 C) FU _ o20 ho20 ?_ _ _ _ hP hS (lv_sub hl [1, 0] rfl)
  intro H locs ls hP hS hl
  refine lv_iconst (v := 0) C.1 C.2.1 dX9_mixAll_120 (by decide) ?_
  refine lv_istore_n (lv' := [(1, .int 0), (0, .ref (wAd w 90))]) C.1 C.2.1 dX9_mixAll_121 rfl hl (by decide) rfl (fun ls hl => ?_)
  obtain ⟨o27, ho27, hf⟩ := ob hf
  refine loop_at (w_X9_mixAll_l122 C) FU _ o27 ho27 ?_ _ _ _ hP hS (lv_sub hl [1, 0] rfl)
  intro H locs ls hP hS hl
  refine lv_iconst (v := 0) C.1 C.2.1 dX9_mixAll_166 (by decide) ?_
  refine lv_istore_n (lv' := [(1, .int 0), (0, .ref (wAd w 90))]) C.1 C.2.1 dX9_mixAll_167 rfl hl (by decide) rfl (fun ls hl => ?_)
  obtain ⟨o31, ho31, hf⟩ := ob hf
  refine loop_at (w_X9_mixAll_l168 C) FU _ o31 ho31 ?_ _ _ _ hP hS (lv_sub hl [1, 0] rfl)
  intro H locs ls hP hS hl
  refine lv_aload_n C.1 C.2.1 dX9_mixAll_191 rfl (lv_at hl 0 rfl) ?_
  refine lv_aload_n C.1 C.2.1 dX9_mixAll_192 rfl (lv_at hl 0 rfl) ?_
  refine lv_iconst (v := 1) C.1 C.2.1 dX9_mixAll_193 (by decide) ?_
  obtain ⟨r32, hr32, hf⟩ := ob hf
  refine kci (kV (As := [.int 1]) (rest := [.ref (wAd w 90)]) C hl.1 hP hS (c_X9_percentNow w l C.2.2.2.2.2.2.2.2 (L := o31) hr32) (gV q1124 q1126 qp48 q10 q1127) hd_X9_percentNow (lt_Model h0_Model) (ob_Model h0_Model w o31 _) rfl ⟨rfl, rfl⟩ ⟨Nat.le_of_ble_eq_true rfl, Nat.le_of_ble_eq_true rfl⟩ rfl rfl (Nat.le_of_ble_eq_true rfl) dX9_mixAll_194 ⟨Nat.zero_le _, Nat.zero_le _⟩) hS (fun H locs hP hS => ?_)
  refine lv_i2l (v := (Int32.toInt64 r32)) C.1 C.2.1 dX9_mixAll_197 rfl ?_
  obtain ⟨r33, hr33, hf⟩ := ob hf
  refine kcv (kV (As := [.long (Int32.toInt64 r32)]) (rest := []) C hl.1 hP hS (c_X9_mix w l C.2.2.2.2.2.2.2.2 hr33) (gV q1201 q1203 qp60 q10 q1204) hd_X9_mix (lt_Model h0_Model) (ob_Model h0_Model w o31 _) rfl ⟨rfl, rfl⟩ ⟨Nat.le_of_ble_eq_true rfl, Nat.le_of_ble_eq_true rfl⟩ rfl rfl (Nat.le_of_ble_eq_true rfl) dX9_mixAll_198 ⟨Nat.zero_le _, Nat.zero_le _⟩) hS (fun H locs hP hS => ?_)
  refine lv_aload_n C.1 C.2.1 dX9_mixAll_201 rfl (lv_at hl 0 rfl) ?_
  refine lv_aload_n C.1 C.2.1 dX9_mixAll_202 rfl (lv_at hl 0 rfl) ?_
  refine lv_bipush (v := 10) C.1 C.2.1 dX9_mixAll_203 (by decide) ?_
  obtain ⟨r34, hr34, hf⟩ := ob hf
  refine kci (kV (As := [.int 10]) (rest := [.ref (wAd w 90)]) C hl.1 hP hS (c_X9_percentNow w l C.2.2.2.2.2.2.2.2 (L := r33) hr34) (gV q1124 q1126 qp48 q10 q1127) hd_X9_percentNow (lt_Model h0_Model) (ob_Model h0_Model w r33 _) rfl ⟨rfl, rfl⟩ ⟨Nat.le_of_ble_eq_true rfl, Nat.le_of_ble_eq_true rfl⟩ rfl rfl (Nat.le_of_ble_eq_true rfl) dX9_mixAll_205 ⟨Nat.zero_le _, Nat.zero_le _⟩) hS (fun H locs hP hS => ?_)
  refine lv_i2l (v := (Int32.toInt64 r34)) C.1 C.2.1 dX9_mixAll_208 rfl ?_
  obtain ⟨r35, hr35, hf⟩ := ob hf
  refine kcv (kV (As := [.long (Int32.toInt64 r34)]) (rest := []) C hl.1 hP hS (c_X9_mix w l C.2.2.2.2.2.2.2.2 hr35) (gV q1201 q1203 qp60 q10 q1204) hd_X9_mix (lt_Model h0_Model) (ob_Model h0_Model w r33 _) rfl ⟨rfl, rfl⟩ ⟨Nat.le_of_ble_eq_true rfl, Nat.le_of_ble_eq_true rfl⟩ rfl rfl (Nat.le_of_ble_eq_true rfl) dX9_mixAll_209 ⟨Nat.zero_le _, Nat.zero_le _⟩) hS (fun H locs hP hS => ?_)
  refine lv_aload_n C.1 C.2.1 dX9_mixAll_212 rfl (lv_at hl 0 rfl) ?_
  refine lv_aload_n C.1 C.2.1 dX9_mixAll_213 rfl (lv_at hl 0 rfl) ?_
  refine lv_bipush (v := 50) C.1 C.2.1 dX9_mixAll_214 (by decide) ?_
  obtain ⟨r36, hr36, hf⟩ := ob hf
  refine kci (kV (As := [.int 50]) (rest := [.ref (wAd w 90)]) C hl.1 hP hS (c_X9_percentNow w l C.2.2.2.2.2.2.2.2 (L := r35) hr36) (gV q1124 q1126 qp48 q10 q1127) hd_X9_percentNow (lt_Model h0_Model) (ob_Model h0_Model w r35 _) rfl ⟨rfl, rfl⟩ ⟨Nat.le_of_ble_eq_true rfl, Nat.le_of_ble_eq_true rfl⟩ rfl rfl (Nat.le_of_ble_eq_true rfl) dX9_mixAll_216 ⟨Nat.zero_le _, Nat.zero_le _⟩) hS (fun H locs hP hS => ?_)
  refine lv_i2l (v := (Int32.toInt64 r36)) C.1 C.2.1 dX9_mixAll_219 rfl ?_
  obtain ⟨r37, hr37, hf⟩ := ob hf
  refine kcv (kV (As := [.long (Int32.toInt64 r36)]) (rest := []) C hl.1 hP hS (c_X9_mix w l C.2.2.2.2.2.2.2.2 hr37) (gV q1201 q1203 qp60 q10 q1204) hd_X9_mix (lt_Model h0_Model) (ob_Model h0_Model w r35 _) rfl ⟨rfl, rfl⟩ ⟨Nat.le_of_ble_eq_true rfl, Nat.le_of_ble_eq_true rfl⟩ rfl rfl (Nat.le_of_ble_eq_true rfl) dX9_mixAll_220 ⟨Nat.zero_le _, Nat.zero_le _⟩) hS (fun H locs hP hS => ?_)
  refine lv_aload_n C.1 C.2.1 dX9_mixAll_223 rfl (lv_at hl 0 rfl) ?_
  refine lv_aload_n C.1 C.2.1 dX9_mixAll_224 rfl (lv_at hl 0 rfl) ?_
  refine lv_bipush (v := 90) C.1 C.2.1 dX9_mixAll_225 (by decide) ?_
  obtain ⟨r38, hr38, hf⟩ := ob hf
  refine kci (kV (As := [.int 90]) (rest := [.ref (wAd w 90)]) C hl.1 hP hS (c_X9_percentNow w l C.2.2.2.2.2.2.2.2 (L := r37) hr38) (gV q1124 q1126 qp48 q10 q1127) hd_X9_percentNow (lt_Model h0_Model) (ob_Model h0_Model w r37 _) rfl ⟨rfl, rfl⟩ ⟨Nat.le_of_ble_eq_true rfl, Nat.le_of_ble_eq_true rfl⟩ rfl rfl (Nat.le_of_ble_eq_true rfl) dX9_mixAll_227 ⟨Nat.zero_le _, Nat.zero_le _⟩) hS (fun H locs hP hS => ?_)
  refine lv_i2l (v := (Int32.toInt64 r38)) C.1 C.2.1 dX9_mixAll_230 rfl ?_
  obtain ⟨r39, hr39, hf⟩ := ob hf
  refine kcv (kV (As := [.long (Int32.toInt64 r38)]) (rest := []) C hl.1 hP hS (c_X9_mix w l C.2.2.2.2.2.2.2.2 hr39) (gV q1201 q1203 qp60 q10 q1204) hd_X9_mix (lt_Model h0_Model) (ob_Model h0_Model w r37 _) rfl ⟨rfl, rfl⟩ ⟨Nat.le_of_ble_eq_true rfl, Nat.le_of_ble_eq_true rfl⟩ rfl rfl (Nat.le_of_ble_eq_true rfl) dX9_mixAll_231 ⟨Nat.zero_le _, Nat.zero_le _⟩) hS (fun H locs hP hS => ?_)
  refine lv_aload_n C.1 C.2.1 dX9_mixAll_234 rfl (lv_at hl 0 rfl) ?_
  refine lv_aload_n C.1 C.2.1 dX9_mixAll_235 rfl (lv_at hl 0 rfl) ?_
  refine lv_bipush (v := 100) C.1 C.2.1 dX9_mixAll_236 (by decide) ?_
  obtain ⟨r40, hr40, hf⟩ := ob hf
  refine kci (kV (As := [.int 100]) (rest := [.ref (wAd w 90)]) C hl.1 hP hS (c_X9_percentNow w l C.2.2.2.2.2.2.2.2 (L := r39) hr40) (gV q1124 q1126 qp48 q10 q1127) hd_X9_percentNow (lt_Model h0_Model) (ob_Model h0_Model w r39 _) rfl ⟨rfl, rfl⟩ ⟨Nat.le_of_ble_eq_true rfl, Nat.le_of_ble_eq_true rfl⟩ rfl rfl (Nat.le_of_ble_eq_true rfl) dX9_mixAll_238 ⟨Nat.zero_le _, Nat.zero_le _⟩) hS (fun H locs hP hS => ?_)
  refine lv_i2l (v := (Int32.toInt64 r40)) C.1 C.2.1 dX9_mixAll_241 rfl ?_
  obtain ⟨r41, hr41, hf⟩ := ob hf
  refine kcv (kV (As := [.long (Int32.toInt64 r40)]) (rest := []) C hl.1 hP hS (c_X9_mix w l C.2.2.2.2.2.2.2.2 hr41) (gV q1201 q1203 qp60 q10 q1204) hd_X9_mix (lt_Model h0_Model) (ob_Model h0_Model w r39 _) rfl ⟨rfl, rfl⟩ ⟨Nat.le_of_ble_eq_true rfl, Nat.le_of_ble_eq_true rfl⟩ rfl rfl (Nat.le_of_ble_eq_true rfl) dX9_mixAll_242 ⟨Nat.zero_le _, Nat.zero_le _⟩) hS (fun H locs hP hS => ?_)
  cases hf
  exact krv C hP hS dX9_mixAll_245
theorem dJxe99ae_isNaN_b9ae7_0 : decode cJxe99ae_isNaN_b9ae7 0 = .ok (.dload_n 0, 1) := by decide +kernel
theorem dJxe99ae_isNaN_b9ae7_1 : decode cJxe99ae_isNaN_b9ae7 1 = .ok (.dload_n 0, 1) := by decide +kernel
theorem dJxe99ae_isNaN_b9ae7_2 : decode cJxe99ae_isNaN_b9ae7 2 = .ok (.dcmp .l, 1) := by decide +kernel
theorem dJxe99ae_isNaN_b9ae7_3 : decode cJxe99ae_isNaN_b9ae7 3 = .ok (.ifCond .eq 7, 3) := by decide +kernel
theorem dJxe99ae_isNaN_b9ae7_6 : decode cJxe99ae_isNaN_b9ae7 6 = .ok (.iconst 1, 1) := by decide +kernel
theorem dJxe99ae_isNaN_b9ae7_7 : decode cJxe99ae_isNaN_b9ae7 7 = .ok (.goto 4, 3) := by decide +kernel
theorem dJxe99ae_isNaN_b9ae7_10 : decode cJxe99ae_isNaN_b9ae7 10 = .ok (.iconst 0, 1) := by decide +kernel
theorem dJxe99ae_isNaN_b9ae7_11 : decode cJxe99ae_isNaN_b9ae7 11 = .ok (.ireturn, 1) := by decide +kernel
set_option maxHeartbeats 4000000 in
set_option maxRecDepth 100000 in
theorem c_Jxe99ae_isNaN_b9ae7 (w : WT) (l : Launch) (hw : WOK w) {a0 : UInt64} {M : Mem} {L : Lng} {out : Int32} (hf : f_Jxe99ae_isNaN_b9ae7 a0 M = some out) : Met l yJxe99ae_isNaN_b9ae7 (Cond.code yJxe99ae_isNaN_b9ae7 cJxe99ae_isNaN_b9ae7 2 (some .boolean) :: BG) ({ frames := 0, cells := 0, slots := 0, locals := 0 } : Room) (PRE w [.double a0] M L) (QI w out M L) 0 0 (wA w) := by
  refine kEnt hw (by decide +kernel) rfl (Nat.le_of_ble_eq_true rfl) ?_
  intro p e s m args below meth c C ls hl hP
  have hS : va_S (wA w) s.heap s.heap [] := va_S.rf
  have hl : lv_has ls 2 [(0, .double a0)] := hl
  unfold f_Jxe99ae_isNaN_b9ae7 at hf
  refine lv_dload_n C.1 C.2.1 dJxe99ae_isNaN_b9ae7_0 rfl (lv_at hl 0 rfl) ?_
  refine lv_dload_n C.1 C.2.1 dJxe99ae_isNaN_b9ae7_1 rfl (lv_at hl 0 rfl) ?_
  refine lv_dcmp C.1 C.2.1 dJxe99ae_isNaN_b9ae7_2 ?_
  refine lv_if_eq (tgt := 10) C.1 C.2.1 dJxe99ae_isNaN_b9ae7_3 (by decide) (fun c1 => ?_) (fun c1 => ?_)
  · have hf := (if_pos c1).symm.trans hf
    refine lv_iconst (v := 0) C.1 C.2.1 dJxe99ae_isNaN_b9ae7_10 (by decide) ?_
    cases hf
    exact krz C hP hS bz0 dJxe99ae_isNaN_b9ae7_11
  · have hf := (if_neg c1).symm.trans hf
    refine lv_iconst (v := 1) C.1 C.2.1 dJxe99ae_isNaN_b9ae7_6 (by decide) ?_
    refine lv_goto (tgt := 11) C.1 C.2.1 dJxe99ae_isNaN_b9ae7_7 (by decide) ?_
    cases hf
    exact krz C hP hS bz1 dJxe99ae_isNaN_b9ae7_11
theorem dJxe99ae_doubleToLongBits_ccdee_0 : decode cJxe99ae_doubleToLongBits_ccdee 0 = .ok (.dload_n 0, 1) := by decide +kernel
theorem dJxe99ae_doubleToLongBits_ccdee_1 : decode cJxe99ae_doubleToLongBits_ccdee 1 = .ok (.invokestatic 122, 3) := by decide +kernel
theorem dJxe99ae_doubleToLongBits_ccdee_4 : decode cJxe99ae_doubleToLongBits_ccdee 4 = .ok (.ifCond .ne 8, 3) := by decide +kernel
theorem dJxe99ae_doubleToLongBits_ccdee_7 : decode cJxe99ae_doubleToLongBits_ccdee 7 = .ok (.dload_n 0, 1) := by decide +kernel
theorem dJxe99ae_doubleToLongBits_ccdee_8 : decode cJxe99ae_doubleToLongBits_ccdee 8 = .ok (.invokestatic 134, 3) := by decide +kernel
theorem dJxe99ae_doubleToLongBits_ccdee_11 : decode cJxe99ae_doubleToLongBits_ccdee 11 = .ok (.lreturn, 1) := by decide +kernel
theorem dJxe99ae_doubleToLongBits_ccdee_12 : decode cJxe99ae_doubleToLongBits_ccdee 12 = .ok (.ldc2_w 137, 3) := by decide +kernel
theorem dJxe99ae_doubleToLongBits_ccdee_15 : decode cJxe99ae_doubleToLongBits_ccdee 15 = .ok (.lreturn, 1) := by decide +kernel
set_option maxHeartbeats 4000000 in
set_option maxRecDepth 100000 in
theorem c_Jxe99ae_doubleToLongBits_ccdee (w : WT) (l : Launch) (hw : WOK w) {a0 : UInt64} {M : Mem} {L : Lng} {out : Int64} (hf : f_Jxe99ae_doubleToLongBits_ccdee a0 M = some out) : Met l yJxe99ae_doubleToLongBits_ccdee (Cond.code yJxe99ae_doubleToLongBits_ccdee cJxe99ae_doubleToLongBits_ccdee 2 (some .long) :: BG) ({ frames := 1, cells := 0, slots := 0, locals := 30 } : Room) (PRE w [.double a0] M L) (QL w out M L) 0 0 (wA w) := by
  refine kEnt hw (by decide +kernel) rfl (Nat.le_of_ble_eq_true rfl) ?_
  intro p e s m args below meth c C ls hl hP
  have hS : va_S (wA w) s.heap s.heap [] := va_S.rf
  have hl : lv_has ls 2 [(0, .double a0)] := hl
  unfold f_Jxe99ae_doubleToLongBits_ccdee at hf
  refine lv_dload_n C.1 C.2.1 dJxe99ae_doubleToLongBits_ccdee_0 rfl (lv_at hl 0 rfl) ?_
  obtain ⟨r1, hr1, hf⟩ := ob hf
  refine kci (kS (As := [.double a0]) (rest := []) C hl.1 hP hS (c_Jxe99ae_isNaN_b9ae7 w l C.2.2.2.2.2.2.2.2 (L := L) hr1) (gS q1209 q1210 q19 q1211) hd_Jxe99ae_isNaN_b9ae7 ⟨rfl, rfl⟩ ⟨Nat.le_of_ble_eq_true rfl, Nat.le_of_ble_eq_true rfl⟩ rfl rfl (Nat.le_of_ble_eq_true rfl) dJxe99ae_doubleToLongBits_ccdee_1 ⟨Nat.zero_le _, Nat.zero_le _⟩) hS (fun H locs hP hS => ?_)
  refine lv_if_ne (tgt := 12) C.1 C.2.1 dJxe99ae_doubleToLongBits_ccdee_4 (by decide) (fun c2 => ?_) (fun c2 => ?_)
  · have hf := (if_neg c2).symm.trans hf
    refine lv_ldc2 C.1 C.2.1 C.2.2.2.1 (C.2.2.2.2.1 _ q1215) dJxe99ae_doubleToLongBits_ccdee_12 ?_
    cases hf
    exact krl C hP hS dJxe99ae_doubleToLongBits_ccdee_15
  · have hf := (if_pos c2).symm.trans hf
    refine lv_dload_n C.1 C.2.1 dJxe99ae_doubleToLongBits_ccdee_7 rfl (lv_at hl 0 rfl) ?_
    refine vn_d2l C.1 C.2.1 (C.2.2.1.trans hl.1.symm) C.2.2.2.1 (C.2.2.2.2.1 _ q1212) (C.2.2.2.2.1 _ q1214) (C.2.2.2.2.1 _ q1213) (C.2.2.2.2.1 _ q19) (Nat.le_of_ble_eq_true rfl) (Nat.le_of_ble_eq_true rfl) dJxe99ae_doubleToLongBits_ccdee_8 ?_
    cases hf
    exact krl C hP hS dJxe99ae_doubleToLongBits_ccdee_11
theorem dX9_digest_0 : decode cX9_digest 0 = .ok (.aload_n 0, 1) := by decide +kernel
theorem dX9_digest_1 : decode cX9_digest 1 = .ok (.iconst 0, 1) := by decide +kernel
theorem dX9_digest_2 : decode cX9_digest 2 = .ok (.putfield 61, 3) := by decide +kernel
theorem dX9_digest_5 : decode cX9_digest 5 = .ok (.aload_n 0, 1) := by decide +kernel
theorem dX9_digest_6 : decode cX9_digest 6 = .ok (.ldc2_w 232, 3) := by decide +kernel
theorem dX9_digest_9 : decode cX9_digest 9 = .ok (.putfield 224, 3) := by decide +kernel
theorem dX9_digest_12 : decode cX9_digest 12 = .ok (.aload_n 0, 1) := by decide +kernel
theorem dX9_digest_13 : decode cX9_digest 13 = .ok (.invokevirtual 138, 3) := by decide +kernel
theorem dX9_digest_16 : decode cX9_digest 16 = .ok (.aload_n 0, 1) := by decide +kernel
theorem dX9_digest_17 : decode cX9_digest 17 = .ok (.invokevirtual 234, 3) := by decide +kernel
theorem dX9_digest_20 : decode cX9_digest 20 = .ok (.aload_n 0, 1) := by decide +kernel
theorem dX9_digest_21 : decode cX9_digest 21 = .ok (.invokevirtual 218, 3) := by decide +kernel
theorem dX9_digest_24 : decode cX9_digest 24 = .ok (.invokestatic 237, 3) := by decide +kernel
theorem dX9_digest_27 : decode cX9_digest 27 = .ok (.lstore_n 1, 1) := by decide +kernel
theorem dX9_digest_28 : decode cX9_digest 28 = .ok (.aload_n 0, 1) := by decide +kernel
theorem dX9_digest_29 : decode cX9_digest 29 = .ok (.aload_n 0, 1) := by decide +kernel
theorem dX9_digest_30 : decode cX9_digest 30 = .ok (.iconst 1, 1) := by decide +kernel
theorem dX9_digest_31 : decode cX9_digest 31 = .ok (.invokevirtual 212, 3) := by decide +kernel
theorem dX9_digest_34 : decode cX9_digest 34 = .ok (.i2l, 1) := by decide +kernel
theorem dX9_digest_35 : decode cX9_digest 35 = .ok (.invokevirtual 228, 3) := by decide +kernel
theorem dX9_digest_38 : decode cX9_digest 38 = .ok (.aload_n 0, 1) := by decide +kernel
theorem dX9_digest_39 : decode cX9_digest 39 = .ok (.aload_n 0, 1) := by decide +kernel
theorem dX9_digest_40 : decode cX9_digest 40 = .ok (.bipush 80, 2) := by decide +kernel
theorem dX9_digest_42 : decode cX9_digest 42 = .ok (.invokevirtual 215, 3) := by decide +kernel
theorem dX9_digest_45 : decode cX9_digest 45 = .ok (.i2l, 1) := by decide +kernel
theorem dX9_digest_46 : decode cX9_digest 46 = .ok (.invokevirtual 228, 3) := by decide +kernel
theorem dX9_digest_49 : decode cX9_digest 49 = .ok (.aload_n 0, 1) := by decide +kernel
theorem dX9_digest_50 : decode cX9_digest 50 = .ok (.lload_n 1, 1) := by decide +kernel
theorem dX9_digest_51 : decode cX9_digest 51 = .ok (.invokevirtual 228, 3) := by decide +kernel
theorem dX9_digest_54 : decode cX9_digest 54 = .ok (.aload_n 0, 1) := by decide +kernel
theorem dX9_digest_55 : decode cX9_digest 55 = .ok (.aload_n 0, 1) := by decide +kernel
theorem dX9_digest_56 : decode cX9_digest 56 = .ok (.getfield 141, 3) := by decide +kernel
theorem dX9_digest_59 : decode cX9_digest 59 = .ok (.i2l, 1) := by decide +kernel
theorem dX9_digest_60 : decode cX9_digest 60 = .ok (.invokevirtual 228, 3) := by decide +kernel
theorem dX9_digest_63 : decode cX9_digest 63 = .ok (.iconst 0, 1) := by decide +kernel
theorem dX9_digest_64 : decode cX9_digest 64 = .ok (.istore_n 3, 1) := by decide +kernel
theorem dX9_digest_65 : decode cX9_digest 65 = .ok (.iload_n 3, 1) := by decide +kernel
theorem dX9_digest_66 : decode cX9_digest 66 = .ok (.aload_n 0, 1) := by decide +kernel
theorem dX9_digest_67 : decode cX9_digest 67 = .ok (.getfield 141, 3) := by decide +kernel
theorem dX9_digest_70 : decode cX9_digest 70 = .ok (.if_icmp .ge 20, 3) := by decide +kernel
theorem dX9_digest_73 : decode cX9_digest 73 = .ok (.aload_n 0, 1) := by decide +kernel
theorem dX9_digest_74 : decode cX9_digest 74 = .ok (.aload_n 0, 1) := by decide +kernel
theorem dX9_digest_75 : decode cX9_digest 75 = .ok (.getfield 16, 3) := by decide +kernel
theorem dX9_digest_78 : decode cX9_digest 78 = .ok (.iload_n 3, 1) := by decide +kernel
theorem dX9_digest_79 : decode cX9_digest 79 = .ok (.iaload, 1) := by decide +kernel
theorem dX9_digest_80 : decode cX9_digest 80 = .ok (.i2l, 1) := by decide +kernel
theorem dX9_digest_81 : decode cX9_digest 81 = .ok (.invokevirtual 228, 3) := by decide +kernel
theorem dX9_digest_84 : decode cX9_digest 84 = .ok (.iinc 3 1, 3) := by decide +kernel
theorem dX9_digest_87 : decode cX9_digest 87 = .ok (.goto (-22), 3) := by decide +kernel
theorem dX9_digest_90 : decode cX9_digest 90 = .ok (.aload_n 0, 1) := by decide +kernel
theorem dX9_digest_91 : decode cX9_digest 91 = .ok (.getfield 224, 3) := by decide +kernel
theorem dX9_digest_94 : decode cX9_digest 94 = .ok (.lreturn, 1) := by decide +kernel
set_option maxHeartbeats 4000000 in
set_option maxRecDepth 100000 in
theorem w_X9_digest_l65 {w : WT} {l : Launch} {p : Program} {e : Env} {s : State} {m : MethodId} {args : Array Value} {below : List Frame} {meth : Method} {c : Code} (C : KC w p s m args meth c cX9_digest 4 RX9 (some .long)) {M : Mem} {Q : State → Prop} (z : Int32 × Lng) (o : (Int32 × Lng) ⊕ (Lng)) (hf : f_X9_digest_l65 M z = some o) (hA : ∀ z, o = .inl z → AtL w p l e ({ frames := 7, cells := 0, slots := 0, locals := 155 } : Room) s m args below meth c Q 4 65 M z.2 [(0, .ref (wAd w 90)), (3, .int z.1)] []) (hE : ∀ y, o = .inr y → AtL w p l e ({ frames := 7, cells := 0, slots := 0, locals := 155 } : Room) s m args below meth c Q 4 90 M y [(0, .ref (wAd w 90))] []) : AtL w p l e ({ frames := 7, cells := 0, slots := 0, locals := 155 } : Room) s m args below meth c Q 4 65 M z.2 [(0, .ref (wAd w 90)), (3, .int z.1)] [] := by
  intro H locs ls hP hS hl
  unfold f_X9_digest_l65 at hf
  refine lv_iload_n C.1 C.2.1 dX9_digest_65 rfl (lv_at hl 1 rfl) ?_
  refine lv_aload_n C.1 C.2.1 dX9_digest_66 rfl (lv_at hl 0 rfl) ?_
  refine k_get (v := .int (M 90 4)) C hP (lt_Model h0_Model) (ob_Model h0_Model w z.2 _) rfl iX9 4 (by decide) q867 rfl dX9_digest_67 ?_
  refine lv_icmp_ge (tgt := 90) C.1 C.2.1 dX9_digest_70 (by decide) (fun c13 => ?_) (fun c13 => ?_)
  · have hf := (if_pos c13).symm.trans hf
    cases hf
    exact hE _ rfl _ _ _ hP hS (lv_sub hl [0] rfl)
  · have hf := (if_neg c13).symm.trans hf
    refine lv_aload_n C.1 C.2.1 dX9_digest_73 rfl (lv_at hl 0 rfl) ?_
    refine lv_aload_n C.1 C.2.1 dX9_digest_74 rfl (lv_at hl 0 rfl) ?_
    refine k_get (v := .ref (wAd w 93)) C hP (lt_Model h0_Model) (ob_Model h0_Model w z.2 _) rfl iX9 5 (by decide) q868 rfl dX9_digest_75 ?_
    refine lv_iload_n C.1 C.2.1 dX9_digest_78 rfl (lv_at hl 1 rfl) ?_
    obtain ⟨x14, hx14, hf⟩ := ob hf
    refine k_iald C hP (la_Model_text h0_Model) (ar_Model_text h0_Model w z.2 _) hx14 dX9_digest_79 ?_
    refine lv_i2l (v := (Int32.toInt64 x14)) C.1 C.2.1 dX9_digest_80 rfl ?_
    obtain ⟨r15, hr15, hf⟩ := ob hf
    refine kcv (kV (As := [.long (Int32.toInt64 x14)]) (rest := []) C hl.1 hP hS (c_X9_mix w l C.2.2.2.2.2.2.2.2 hr15) (gV q1201 q1203 qp60 q10 q1204) hd_X9_mix (lt_Model h0_Model) (ob_Model h0_Model w z.2 _) rfl ⟨rfl, rfl⟩ ⟨Nat.le_of_ble_eq_true rfl, Nat.le_of_ble_eq_true rfl⟩ rfl rfl (Nat.le_of_ble_eq_true rfl) dX9_digest_81 ⟨Nat.zero_le _, Nat.zero_le _⟩) hS (fun H locs hP hS => ?_)
    refine lv_iinc (v := (z.1 + 1)) (lv' := [(3, .int (z.1 + 1)), (0, .ref (wAd w 90))]) C.1 C.2.1 dX9_digest_84 hl (k := 1) rfl rfl (by decide) rfl (fun ls hl => ?_)
    refine lv_goto (tgt := 65) C.1 C.2.1 dX9_digest_87 (by decide) ?_
    cases hf
    exact hA _ rfl _ _ _ hP hS (lv_sub hl [1, 0] rfl)
set_option maxHeartbeats 4000000 in
set_option maxRecDepth 100000 in
theorem c_X9_digest (w : WT) (l : Launch) (hw : WOK w) {M : Mem} {L : Lng} {out : Int64 × Mem × Lng} (hf : f_X9_digest M L = some out) : Met l yX9_digest (Cond.code yX9_digest cX9_digest 4 (some .long) :: BG) ({ frames := 7, cells := 0, slots := 0, locals := 155 } : Room) (PRE w [.ref (wAd w 90)] M L) (QL w out.1 out.2.1 out.2.2) 0 0 (wA w) := by
  refine kEnt hw (by decide +kernel) rfl (Nat.le_of_ble_eq_true rfl) ?_
  intro p e s m args below meth c C ls hl hP
  have hS : va_S (wA w) s.heap s.heap [] := va_S.rf
  have hl : lv_has ls 4 [(0, .ref (wAd w 90))] := hl
  unfold f_X9_digest at hf
  refine lv_aload_n C.1 C.2.1 dX9_digest_0 rfl (lv_at hl 0 rfl) ?_
  refine lv_iconst (v := 0) C.1 C.2.1 dX9_digest_1 (by decide) ?_
  obtain ⟨M1, hM1, hf⟩ := ob hf
  refine k_puti C hP hS (lt_Model h0_Model) (fun row => ob_Model h0_Model w L row) rfl iX9 tyX9 tyX9_ok nmX9 0 (by decide) q863 rfl rfl (Nat.le_of_ble_eq_true rfl) rfl hM1 dX9_digest_2 (fun H locs hP hS => ?_)
  refine lv_aload_n C.1 C.2.1 dX9_digest_5 rfl (lv_at hl 0 rfl) ?_
  refine lv_ldc2 C.1 C.2.1 C.2.2.2.1 (C.2.2.2.2.1 _ q1196) dX9_digest_6 ?_
  obtain ⟨L2, hL2, hf⟩ := ob hf
  refine k_putl C hP hS rfl q890 hL2 dX9_digest_9 (fun H locs hP hS => ?_)
  refine lv_aload_n C.1 C.2.1 dX9_digest_12 rfl (lv_at hl 0 rfl) ?_
  obtain ⟨r3, hr3, hf⟩ := ob hf
  refine kcv (kV (As := []) (rest := []) C hl.1 hP hS (c_X9_layAll w l C.2.2.2.2.2.2.2.2 (L := L2) hr3) (gV q1040 q1042 qp36 q10 q1043) hd_X9_layAll (lt_Model h0_Model) (ob_Model h0_Model w L2 _) rfl ⟨rfl, rfl⟩ ⟨Nat.le_of_ble_eq_true rfl, Nat.le_of_ble_eq_true rfl⟩ rfl rfl (Nat.le_of_ble_eq_true rfl) dX9_digest_13 ⟨Nat.zero_le _, Nat.zero_le _⟩) hS (fun H locs hP hS => ?_)
  refine lv_aload_n C.1 C.2.1 dX9_digest_16 rfl (lv_at hl 0 rfl) ?_
  obtain ⟨r4, hr4, hf⟩ := ob hf
  refine kcv (kV (As := []) (rest := []) C hl.1 hP hS (c_X9_mixAll w l C.2.2.2.2.2.2.2.2 hr4) (gV q1197 q1199 qp59 q10 q1200) hd_X9_mixAll (lt_Model h0_Model) (ob_Model h0_Model w L2 _) rfl ⟨rfl, rfl⟩ ⟨Nat.le_of_ble_eq_true rfl, Nat.le_of_ble_eq_true rfl⟩ rfl rfl (Nat.le_of_ble_eq_true rfl) dX9_digest_17 ⟨Nat.zero_le _, Nat.zero_le _⟩) hS (fun H locs hP hS => ?_)
  refine lv_aload_n C.1 C.2.1 dX9_digest_20 rfl (lv_at hl 0 rfl) ?_
  obtain ⟨r5, hr5, hf⟩ := ob hf
  refine kcd (kV (As := []) (rest := []) C hl.1 hP hS (c_X9_shareNow w l C.2.2.2.2.2.2.2.2 (L := r4) hr5) (gV q1188 q1190 qp58 q10 q1191) hd_X9_shareNow (lt_Model h0_Model) (ob_Model h0_Model w r4 _) rfl ⟨rfl, rfl⟩ ⟨Nat.le_of_ble_eq_true rfl, Nat.le_of_ble_eq_true rfl⟩ rfl rfl (Nat.le_of_ble_eq_true rfl) dX9_digest_21 ⟨Nat.zero_le _, Nat.zero_le _⟩) hS (fun H locs hP hS => ?_)
  obtain ⟨r6, hr6, hf⟩ := ob hf
  refine kcl (kS (As := [.double r5]) (rest := []) C hl.1 hP hS (c_Jxe99ae_doubleToLongBits_ccdee w l C.2.2.2.2.2.2.2.2 (L := r4) hr6) (gS q1206 q1207 q19 q1208) hd_Jxe99ae_doubleToLongBits_ccdee ⟨rfl, rfl⟩ ⟨Nat.le_of_ble_eq_true rfl, Nat.le_of_ble_eq_true rfl⟩ rfl rfl (Nat.le_of_ble_eq_true rfl) dX9_digest_24 ⟨Nat.zero_le _, Nat.zero_le _⟩) hS (fun H locs hP hS => ?_)
  refine lv_lstore_n (lv' := [(1, .long r6), (0, .ref (wAd w 90))]) C.1 C.2.1 dX9_digest_27 rfl hl (by decide) rfl (fun ls hl => ?_)
  refine lv_aload_n C.1 C.2.1 dX9_digest_28 rfl (lv_at hl 1 rfl) ?_
  refine lv_aload_n C.1 C.2.1 dX9_digest_29 rfl (lv_at hl 1 rfl) ?_
  refine lv_iconst (v := 1) C.1 C.2.1 dX9_digest_30 (by decide) ?_
  obtain ⟨r7, hr7, hf⟩ := ob hf
  refine kci (kV (As := [.int 1]) (rest := [.ref (wAd w 90)]) C hl.1 hP hS (c_X9_leastNow w l C.2.2.2.2.2.2.2.2 (L := r4) hr7) (gV q1172 q1174 qp56 q10 q1175) hd_X9_leastNow (lt_Model h0_Model) (ob_Model h0_Model w r4 _) rfl ⟨rfl, rfl⟩ ⟨Nat.le_of_ble_eq_true rfl, Nat.le_of_ble_eq_true rfl⟩ rfl rfl (Nat.le_of_ble_eq_true rfl) dX9_digest_31 ⟨Nat.zero_le _, Nat.zero_le _⟩) hS (fun H locs hP hS => ?_)
  refine lv_i2l (v := (Int32.toInt64 r7.1)) C.1 C.2.1 dX9_digest_34 rfl ?_
  obtain ⟨r8, hr8, hf⟩ := ob hf
  refine kcv (kV (As := [.long (Int32.toInt64 r7.1)]) (rest := []) C hl.1 hP hS (c_X9_mix w l C.2.2.2.2.2.2.2.2 hr8) (gV q1201 q1203 qp60 q10 q1204) hd_X9_mix (lt_Model h0_Model) (ob_Model h0_Model w r4 _) rfl ⟨rfl, rfl⟩ ⟨Nat.le_of_ble_eq_true rfl, Nat.le_of_ble_eq_true rfl⟩ rfl rfl (Nat.le_of_ble_eq_true rfl) dX9_digest_35 ⟨Nat.zero_le _, Nat.zero_le _⟩) hS (fun H locs hP hS => ?_)
  refine lv_aload_n C.1 C.2.1 dX9_digest_38 rfl (lv_at hl 1 rfl) ?_
  refine lv_aload_n C.1 C.2.1 dX9_digest_39 rfl (lv_at hl 1 rfl) ?_
  refine lv_bipush (v := 80) C.1 C.2.1 dX9_digest_40 (by decide) ?_
  obtain ⟨r9, hr9, hf⟩ := ob hf
  refine kci (kV (As := [.int 80]) (rest := [.ref (wAd w 90)]) C hl.1 hP hS (c_X9_aboveNow w l C.2.2.2.2.2.2.2.2 (L := r8) hr9) (gV q1180 q1182 qp57 q10 q1183) hd_X9_aboveNow (lt_Model h0_Model) (ob_Model h0_Model w r8 _) rfl ⟨rfl, rfl⟩ ⟨Nat.le_of_ble_eq_true rfl, Nat.le_of_ble_eq_true rfl⟩ rfl rfl (Nat.le_of_ble_eq_true rfl) dX9_digest_42 ⟨Nat.zero_le _, Nat.zero_le _⟩) hS (fun H locs hP hS => ?_)
  refine lv_i2l (v := (Int32.toInt64 r9.1)) C.1 C.2.1 dX9_digest_45 rfl ?_
  obtain ⟨r10, hr10, hf⟩ := ob hf
  refine kcv (kV (As := [.long (Int32.toInt64 r9.1)]) (rest := []) C hl.1 hP hS (c_X9_mix w l C.2.2.2.2.2.2.2.2 hr10) (gV q1201 q1203 qp60 q10 q1204) hd_X9_mix (lt_Model h0_Model) (ob_Model h0_Model w r8 _) rfl ⟨rfl, rfl⟩ ⟨Nat.le_of_ble_eq_true rfl, Nat.le_of_ble_eq_true rfl⟩ rfl rfl (Nat.le_of_ble_eq_true rfl) dX9_digest_46 ⟨Nat.zero_le _, Nat.zero_le _⟩) hS (fun H locs hP hS => ?_)
  refine lv_aload_n C.1 C.2.1 dX9_digest_49 rfl (lv_at hl 1 rfl) ?_
  refine lv_lload_n C.1 C.2.1 dX9_digest_50 rfl (lv_at hl 0 rfl) ?_
  obtain ⟨r11, hr11, hf⟩ := ob hf
  refine kcv (kV (As := [.long r6]) (rest := []) C hl.1 hP hS (c_X9_mix w l C.2.2.2.2.2.2.2.2 hr11) (gV q1201 q1203 qp60 q10 q1204) hd_X9_mix (lt_Model h0_Model) (ob_Model h0_Model w r10 _) rfl ⟨rfl, rfl⟩ ⟨Nat.le_of_ble_eq_true rfl, Nat.le_of_ble_eq_true rfl⟩ rfl rfl (Nat.le_of_ble_eq_true rfl) dX9_digest_51 ⟨Nat.zero_le _, Nat.zero_le _⟩) hS (fun H locs hP hS => ?_)
  refine lv_aload_n C.1 C.2.1 dX9_digest_54 rfl (lv_at hl 1 rfl) ?_
  refine lv_aload_n C.1 C.2.1 dX9_digest_55 rfl (lv_at hl 1 rfl) ?_
  refine k_get (v := .int (r9.2 90 4)) C hP (lt_Model h0_Model) (ob_Model h0_Model w r11 _) rfl iX9 4 (by decide) q867 rfl dX9_digest_56 ?_
  refine lv_i2l (v := (Int32.toInt64 (r9.2 90 4))) C.1 C.2.1 dX9_digest_59 rfl ?_
  obtain ⟨r12, hr12, hf⟩ := ob hf
  refine kcv (kV (As := [.long (Int32.toInt64 (r9.2 90 4))]) (rest := []) C hl.1 hP hS (c_X9_mix w l C.2.2.2.2.2.2.2.2 hr12) (gV q1201 q1203 qp60 q10 q1204) hd_X9_mix (lt_Model h0_Model) (ob_Model h0_Model w r11 _) rfl ⟨rfl, rfl⟩ ⟨Nat.le_of_ble_eq_true rfl, Nat.le_of_ble_eq_true rfl⟩ rfl rfl (Nat.le_of_ble_eq_true rfl) dX9_digest_60 ⟨Nat.zero_le _, Nat.zero_le _⟩) hS (fun H locs hP hS => ?_)
  refine lv_iconst (v := 0) C.1 C.2.1 dX9_digest_63 (by decide) ?_
  refine lv_istore_n (lv' := [(3, .int 0), (1, .long r6), (0, .ref (wAd w 90))]) C.1 C.2.1 dX9_digest_64 rfl hl (by decide) rfl (fun ls hl => ?_)
  obtain ⟨o16, ho16, hf⟩ := ob hf
  refine loop_at (w_X9_digest_l65 C) FU _ o16 ho16 ?_ _ _ _ hP hS (lv_sub hl [2, 0] rfl)
  intro H locs ls hP hS hl
  refine lv_aload_n C.1 C.2.1 dX9_digest_90 rfl (lv_at hl 0 rfl) ?_
  refine k_get (v := .long (o16 0)) C hP (lt_Model h0_Model) (ob_Model h0_Model w o16 _) rfl iX9 27 (by decide) q890 rfl dX9_digest_91 ?_
  cases hf
  exact krl C hP hS dX9_digest_94
