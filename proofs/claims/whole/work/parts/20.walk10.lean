theorem dX9_levelCount_0 : decode cX9_levelCount 0 = .ok (.aload_n 0, 1) := by decide +kernel
theorem dX9_levelCount_1 : decode cX9_levelCount 1 = .ok (.iload_n 1, 1) := by decide +kernel
theorem dX9_levelCount_2 : decode cX9_levelCount 2 = .ok (.iconst 0, 1) := by decide +kernel
theorem dX9_levelCount_3 : decode cX9_levelCount 3 = .ok (.sipush 140, 3) := by decide +kernel
theorem dX9_levelCount_6 : decode cX9_levelCount 6 = .ok (.invokestatic 65, 3) := by decide +kernel
theorem dX9_levelCount_9 : decode cX9_levelCount 9 = .ok (.ifCond .eq 7, 3) := by decide +kernel
theorem dX9_levelCount_12 : decode cX9_levelCount 12 = .ok (.iconst 0, 1) := by decide +kernel
theorem dX9_levelCount_13 : decode cX9_levelCount 13 = .ok (.goto 4, 3) := by decide +kernel
theorem dX9_levelCount_16 : decode cX9_levelCount 16 = .ok (.iconst 1, 1) := by decide +kernel
theorem dX9_levelCount_17 : decode cX9_levelCount 17 = .ok (.putfield 61, 3) := by decide +kernel
theorem dX9_levelCount_20 : decode cX9_levelCount 20 = .ok (.aload_n 0, 1) := by decide +kernel
theorem dX9_levelCount_21 : decode cX9_levelCount 21 = .ok (.getfield 61, 3) := by decide +kernel
theorem dX9_levelCount_24 : decode cX9_levelCount 24 = .ok (.ifCond .le 5, 3) := by decide +kernel
theorem dX9_levelCount_27 : decode cX9_levelCount 27 = .ok (.iconst 0, 1) := by decide +kernel
theorem dX9_levelCount_28 : decode cX9_levelCount 28 = .ok (.ireturn, 1) := by decide +kernel
theorem dX9_levelCount_29 : decode cX9_levelCount 29 = .ok (.aload_n 0, 1) := by decide +kernel
theorem dX9_levelCount_30 : decode cX9_levelCount 30 = .ok (.invokevirtual 138, 3) := by decide +kernel
theorem dX9_levelCount_33 : decode cX9_levelCount 33 = .ok (.aload_n 0, 1) := by decide +kernel
theorem dX9_levelCount_34 : decode cX9_levelCount 34 = .ok (.iload_n 1, 1) := by decide +kernel
theorem dX9_levelCount_35 : decode cX9_levelCount 35 = .ok (.invokevirtual 184, 3) := by decide +kernel
theorem dX9_levelCount_38 : decode cX9_levelCount 38 = .ok (.ireturn, 1) := by decide +kernel
set_option maxHeartbeats 4000000 in
set_option maxRecDepth 100000 in
theorem w_X9_levelCount_j17 {w : WT} {l : Launch} {p : Program} {e : Env} {s : State} {m : MethodId} {args : Array Value} {below : List Frame} {meth : Method} {c : Code} (C : KC w p s m args meth c cX9_levelCount 2 RX9 (some .int)) {v1 : Int32} {s1 : Int32} {M : Mem} {L : Lng} {out : Int32 × Mem} (hf : f_X9_levelCount_j17 v1 s1 M = some out) : AtL w p l e ({ frames := 7, cells := 0, slots := 0, locals := 151 } : Room) s m args below meth c (MQ below (QI w out.1 out.2 L) args s 0 0 (wA w)) 2 17 M L [(0, .ref (wAd w 90)), (1, .int v1)] [.int s1, .ref (wAd w 90)] := by
  intro H locs ls hP hS hl
  unfold f_X9_levelCount_j17 at hf
  obtain ⟨M3, hM3, hf⟩ := ob hf
  refine k_puti C hP hS (lt_Model h0_Model) (fun row => ob_Model h0_Model w L row) rfl iX9 tyX9 tyX9_ok nmX9 0 (by decide) q863 rfl rfl (Nat.le_of_ble_eq_true rfl) rfl hM3 dX9_levelCount_17 (fun H locs hP hS => ?_)
  refine lv_aload_n C.1 C.2.1 dX9_levelCount_20 rfl (lv_at hl 0 rfl) ?_
  refine k_get (v := .int (M3 90 0)) C hP (lt_Model h0_Model) (ob_Model h0_Model w L _) rfl iX9 0 (by decide) q863 rfl dX9_levelCount_21 ?_
  refine lv_if_le (tgt := 29) C.1 C.2.1 dX9_levelCount_24 (by decide) (fun c4 => ?_) (fun c4 => ?_)
  · have hf := (if_pos c4).symm.trans hf
    refine lv_aload_n C.1 C.2.1 dX9_levelCount_29 rfl (lv_at hl 0 rfl) ?_
    obtain ⟨r5, hr5, hf⟩ := ob hf
    refine kcv (kV (As := []) (rest := []) C hl.1 hP hS (c_X9_layAll w l C.2.2.2.2.2.2.2.2 (L := L) hr5) (gV q1040 q1042 qp36 q10 q1043) hd_X9_layAll (lt_Model h0_Model) (ob_Model h0_Model w L _) rfl ⟨rfl, rfl⟩ ⟨Nat.le_of_ble_eq_true rfl, Nat.le_of_ble_eq_true rfl⟩ rfl rfl (Nat.le_of_ble_eq_true rfl) dX9_levelCount_30 ⟨Nat.zero_le _, Nat.zero_le _⟩) hS (fun H locs hP hS => ?_)
    refine lv_aload_n C.1 C.2.1 dX9_levelCount_33 rfl (lv_at hl 0 rfl) ?_
    refine lv_iload_n C.1 C.2.1 dX9_levelCount_34 rfl (lv_at hl 1 rfl) ?_
    obtain ⟨r6, hr6, hf⟩ := ob hf
    refine kci (kV (As := [.int v1]) (rest := []) C hl.1 hP hS (c_X9_countFrom w l C.2.2.2.2.2.2.2.2 (L := L) hr6) (gV q1116 q1118 qp47 q10 q1119) hd_X9_countFrom (lt_Model h0_Model) (ob_Model h0_Model w L _) rfl ⟨rfl, rfl⟩ ⟨Nat.le_of_ble_eq_true rfl, Nat.le_of_ble_eq_true rfl⟩ rfl rfl (Nat.le_of_ble_eq_true rfl) dX9_levelCount_35 ⟨Nat.zero_le _, Nat.zero_le _⟩) hS (fun H locs hP hS => ?_)
    cases hf
    exact kri C hP hS dX9_levelCount_38
  · have hf := (if_neg c4).symm.trans hf
    refine lv_iconst (v := 0) C.1 C.2.1 dX9_levelCount_27 (by decide) ?_
    cases hf
    exact kri C hP hS dX9_levelCount_28
set_option maxHeartbeats 4000000 in
set_option maxRecDepth 100000 in
theorem c_X9_levelCount (w : WT) (l : Launch) (hw : WOK w) {a1 : Int32} {M : Mem} {L : Lng} {out : Int32 × Mem} (hf : f_X9_levelCount a1 M = some out) : Met l yX9_levelCount (Cond.code yX9_levelCount cX9_levelCount 2 (some .int) :: BG) ({ frames := 7, cells := 0, slots := 0, locals := 151 } : Room) (PRE w [.ref (wAd w 90), .int a1] M L) (QI w out.1 out.2 L) 0 0 (wA w) := by
  refine kEnt hw (by decide +kernel) rfl (Nat.le_of_ble_eq_true rfl) ?_
  intro p e s m args below meth c C ls hl hP
  have hS : va_S (wA w) s.heap s.heap [] := va_S.rf
  have hl : lv_has ls 2 [(0, .ref (wAd w 90)), (1, .int a1)] := hl
  unfold f_X9_levelCount at hf
  refine lv_aload_n C.1 C.2.1 dX9_levelCount_0 rfl (lv_at hl 0 rfl) ?_
  refine lv_iload_n C.1 C.2.1 dX9_levelCount_1 rfl (lv_at hl 1 rfl) ?_
  refine lv_iconst (v := 0) C.1 C.2.1 dX9_levelCount_2 (by decide) ?_
  refine lv_sipush (v := 140) C.1 C.2.1 dX9_levelCount_3 (by decide) ?_
  obtain ⟨r1, hr1, hf⟩ := ob hf
  refine kci (kS (As := [.int a1, .int 0, .int 140]) (rest := [.ref (wAd w 90)]) C hl.1 hP hS (c_X9_within w l C.2.2.2.2.2.2.2.2 (L := L) hr1) (gS q963 q964 q10 q965) hd_X9_within ⟨rfl, rfl⟩ ⟨Nat.le_of_ble_eq_true rfl, Nat.le_of_ble_eq_true rfl⟩ rfl rfl (Nat.le_of_ble_eq_true rfl) dX9_levelCount_6 ⟨Nat.zero_le _, Nat.zero_le _⟩) hS (fun H locs hP hS => ?_)
  refine lv_if_eq (tgt := 16) C.1 C.2.1 dX9_levelCount_9 (by decide) (fun c2 => ?_) (fun c2 => ?_)
  · have hf := (if_pos c2).symm.trans hf
    refine lv_iconst (v := 1) C.1 C.2.1 dX9_levelCount_16 (by decide) ?_
    exact w_X9_levelCount_j17 C hf _ _ _ hP hS hl
  · have hf := (if_neg c2).symm.trans hf
    refine lv_iconst (v := 0) C.1 C.2.1 dX9_levelCount_12 (by decide) ?_
    refine lv_goto (tgt := 17) C.1 C.2.1 dX9_levelCount_13 (by decide) ?_
    exact w_X9_levelCount_j17 C hf _ _ _ hP hS hl
theorem dX9_percentNow_0 : decode cX9_percentNow 0 = .ok (.aload_n 0, 1) := by decide +kernel
theorem dX9_percentNow_1 : decode cX9_percentNow 1 = .ok (.iconst 0, 1) := by decide +kernel
theorem dX9_percentNow_2 : decode cX9_percentNow 2 = .ok (.invokevirtual 184, 3) := by decide +kernel
theorem dX9_percentNow_5 : decode cX9_percentNow 5 = .ok (.istore_n 2, 1) := by decide +kernel
theorem dX9_percentNow_6 : decode cX9_percentNow 6 = .ok (.iload_n 2, 1) := by decide +kernel
theorem dX9_percentNow_7 : decode cX9_percentNow 7 = .ok (.ifCond .ne 7, 3) := by decide +kernel
theorem dX9_percentNow_10 : decode cX9_percentNow 10 = .ok (.iconst (-1), 1) := by decide +kernel
theorem dX9_percentNow_11 : decode cX9_percentNow 11 = .ok (.goto 6, 3) := by decide +kernel
theorem dX9_percentNow_14 : decode cX9_percentNow 14 = .ok (.sipush 140, 3) := by decide +kernel
theorem dX9_percentNow_17 : decode cX9_percentNow 17 = .ok (.istore_n 3, 1) := by decide +kernel
theorem dX9_percentNow_18 : decode cX9_percentNow 18 = .ok (.iload_n 3, 1) := by decide +kernel
theorem dX9_percentNow_19 : decode cX9_percentNow 19 = .ok (.ifCond .le 23, 3) := by decide +kernel
theorem dX9_percentNow_22 : decode cX9_percentNow 22 = .ok (.aload_n 0, 1) := by decide +kernel
theorem dX9_percentNow_23 : decode cX9_percentNow 23 = .ok (.iload_n 3, 1) := by decide +kernel
theorem dX9_percentNow_24 : decode cX9_percentNow 24 = .ok (.invokevirtual 184, 3) := by decide +kernel
theorem dX9_percentNow_27 : decode cX9_percentNow 27 = .ok (.bipush 100, 2) := by decide +kernel
theorem dX9_percentNow_29 : decode cX9_percentNow 29 = .ok (.imul, 1) := by decide +kernel
theorem dX9_percentNow_30 : decode cX9_percentNow 30 = .ok (.iload_n 1, 1) := by decide +kernel
theorem dX9_percentNow_31 : decode cX9_percentNow 31 = .ok (.iload_n 2, 1) := by decide +kernel
theorem dX9_percentNow_32 : decode cX9_percentNow 32 = .ok (.imul, 1) := by decide +kernel
theorem dX9_percentNow_33 : decode cX9_percentNow 33 = .ok (.if_icmp .ge 9, 3) := by decide +kernel
theorem dX9_percentNow_36 : decode cX9_percentNow 36 = .ok (.iinc 3 (-1), 3) := by decide +kernel
theorem dX9_percentNow_39 : decode cX9_percentNow 39 = .ok (.goto (-21), 3) := by decide +kernel
theorem dX9_percentNow_42 : decode cX9_percentNow 42 = .ok (.iload_n 3, 1) := by decide +kernel
theorem dX9_percentNow_43 : decode cX9_percentNow 43 = .ok (.ireturn, 1) := by decide +kernel
set_option maxHeartbeats 4000000 in
set_option maxRecDepth 100000 in
theorem w_X9_percentNow_l18 {w : WT} {l : Launch} {p : Program} {e : Env} {s : State} {m : MethodId} {args : Array Value} {below : List Frame} {meth : Method} {c : Code} (C : KC w p s m args meth c cX9_percentNow 4 RX9 (some .int)) {v1 : Int32} {v2 : Int32} {M : Mem} {L : Lng} {Q : State → Prop} (z : Int32) (o : (Int32) ⊕ (Int32)) (hf : f_X9_percentNow_l18 v1 v2 M z = some o) (hA : ∀ z, o = .inl z → AtL w p l e ({ frames := 1, cells := 0, slots := 0, locals := 23 } : Room) s m args below meth c Q 4 18 M L [(0, .ref (wAd w 90)), (1, .int v1), (2, .int v2), (3, .int z)] []) (hE : ∀ y, o = .inr y → AtL w p l e ({ frames := 1, cells := 0, slots := 0, locals := 23 } : Room) s m args below meth c Q 4 42 M L [(3, .int y)] []) : AtL w p l e ({ frames := 1, cells := 0, slots := 0, locals := 23 } : Room) s m args below meth c Q 4 18 M L [(0, .ref (wAd w 90)), (1, .int v1), (2, .int v2), (3, .int z)] [] := by
  intro H locs ls hP hS hl
  unfold f_X9_percentNow_l18 at hf
  refine lv_iload_n C.1 C.2.1 dX9_percentNow_18 rfl (lv_at hl 3 rfl) ?_
  refine lv_if_le (tgt := 42) C.1 C.2.1 dX9_percentNow_19 (by decide) (fun c3 => ?_) (fun c3 => ?_)
  · have hf := (if_pos c3).symm.trans hf
    cases hf
    exact hE _ rfl _ _ _ hP hS (lv_sub hl [3] rfl)
  · have hf := (if_neg c3).symm.trans hf
    refine lv_aload_n C.1 C.2.1 dX9_percentNow_22 rfl (lv_at hl 0 rfl) ?_
    refine lv_iload_n C.1 C.2.1 dX9_percentNow_23 rfl (lv_at hl 3 rfl) ?_
    obtain ⟨r4, hr4, hf⟩ := ob hf
    refine kci (kV (As := [.int z]) (rest := []) C hl.1 hP hS (c_X9_countFrom w l C.2.2.2.2.2.2.2.2 (L := L) hr4) (gV q1116 q1118 qp47 q10 q1119) hd_X9_countFrom (lt_Model h0_Model) (ob_Model h0_Model w L _) rfl ⟨rfl, rfl⟩ ⟨Nat.le_of_ble_eq_true rfl, Nat.le_of_ble_eq_true rfl⟩ rfl rfl (Nat.le_of_ble_eq_true rfl) dX9_percentNow_24 ⟨Nat.zero_le _, Nat.zero_le _⟩) hS (fun H locs hP hS => ?_)
    refine lv_bipush (v := 100) C.1 C.2.1 dX9_percentNow_27 (by decide) ?_
    refine lv_imul C.1 C.2.1 dX9_percentNow_29 ?_
    refine lv_iload_n C.1 C.2.1 dX9_percentNow_30 rfl (lv_at hl 1 rfl) ?_
    refine lv_iload_n C.1 C.2.1 dX9_percentNow_31 rfl (lv_at hl 2 rfl) ?_
    refine lv_imul C.1 C.2.1 dX9_percentNow_32 ?_
    refine lv_icmp_ge (tgt := 42) C.1 C.2.1 dX9_percentNow_33 (by decide) (fun c5 => ?_) (fun c5 => ?_)
    · have hf := (if_pos c5).symm.trans hf
      cases hf
      exact hE _ rfl _ _ _ hP hS (lv_sub hl [3] rfl)
    · have hf := (if_neg c5).symm.trans hf
      refine lv_iinc (v := (z + (-1))) (lv' := [(3, .int (z + (-1))), (0, .ref (wAd w 90)), (1, .int v1), (2, .int v2)]) C.1 C.2.1 dX9_percentNow_36 hl (k := 3) rfl rfl (by decide) rfl (fun ls hl => ?_)
      refine lv_goto (tgt := 18) C.1 C.2.1 dX9_percentNow_39 (by decide) ?_
      cases hf
      exact hA _ rfl _ _ _ hP hS (lv_sub hl [1, 2, 3, 0] rfl)
set_option maxHeartbeats 4000000 in
set_option maxRecDepth 100000 in
theorem w_X9_percentNow_j17 {w : WT} {l : Launch} {p : Program} {e : Env} {s : State} {m : MethodId} {args : Array Value} {below : List Frame} {meth : Method} {c : Code} (C : KC w p s m args meth c cX9_percentNow 4 RX9 (some .int)) {v1 : Int32} {v2 : Int32} {s0 : Int32} {M : Mem} {L : Lng} {out : Int32} (hf : f_X9_percentNow_j17 v1 v2 s0 M = some out) : AtL w p l e ({ frames := 1, cells := 0, slots := 0, locals := 23 } : Room) s m args below meth c (MQ below (QI w out M L) args s 0 0 (wA w)) 4 17 M L [(0, .ref (wAd w 90)), (1, .int v1), (2, .int v2)] [.int s0] := by
  intro H locs ls hP hS hl
  unfold f_X9_percentNow_j17 at hf
  refine lv_istore_n (lv' := [(3, .int s0), (0, .ref (wAd w 90)), (1, .int v1), (2, .int v2)]) C.1 C.2.1 dX9_percentNow_17 rfl hl (by decide) rfl (fun ls hl => ?_)
  obtain ⟨o6, ho6, hf⟩ := ob hf
  refine loop_at (w_X9_percentNow_l18 C) FU _ o6 ho6 ?_ _ _ _ hP hS (lv_sub hl [1, 2, 3, 0] rfl)
  intro H locs ls hP hS hl
  refine lv_iload_n C.1 C.2.1 dX9_percentNow_42 rfl (lv_at hl 0 rfl) ?_
  cases hf
  exact kri C hP hS dX9_percentNow_43
set_option maxHeartbeats 4000000 in
set_option maxRecDepth 100000 in
theorem c_X9_percentNow (w : WT) (l : Launch) (hw : WOK w) {a1 : Int32} {M : Mem} {L : Lng} {out : Int32} (hf : f_X9_percentNow a1 M = some out) : Met l yX9_percentNow (Cond.code yX9_percentNow cX9_percentNow 4 (some .int) :: BG) ({ frames := 1, cells := 0, slots := 0, locals := 23 } : Room) (PRE w [.ref (wAd w 90), .int a1] M L) (QI w out M L) 0 0 (wA w) := by
  refine kEnt hw (by decide +kernel) rfl (Nat.le_of_ble_eq_true rfl) ?_
  intro p e s m args below meth c C ls hl hP
  have hS : va_S (wA w) s.heap s.heap [] := va_S.rf
  have hl : lv_has ls 4 [(0, .ref (wAd w 90)), (1, .int a1)] := hl
  unfold f_X9_percentNow at hf
  refine lv_aload_n C.1 C.2.1 dX9_percentNow_0 rfl (lv_at hl 0 rfl) ?_
  refine lv_iconst (v := 0) C.1 C.2.1 dX9_percentNow_1 (by decide) ?_
  obtain ⟨r1, hr1, hf⟩ := ob hf
  refine kci (kV (As := [.int 0]) (rest := []) C hl.1 hP hS (c_X9_countFrom w l C.2.2.2.2.2.2.2.2 (L := L) hr1) (gV q1116 q1118 qp47 q10 q1119) hd_X9_countFrom (lt_Model h0_Model) (ob_Model h0_Model w L _) rfl ⟨rfl, rfl⟩ ⟨Nat.le_of_ble_eq_true rfl, Nat.le_of_ble_eq_true rfl⟩ rfl rfl (Nat.le_of_ble_eq_true rfl) dX9_percentNow_2 ⟨Nat.zero_le _, Nat.zero_le _⟩) hS (fun H locs hP hS => ?_)
  refine lv_istore_n (lv' := [(2, .int r1), (0, .ref (wAd w 90)), (1, .int a1)]) C.1 C.2.1 dX9_percentNow_5 rfl hl (by decide) rfl (fun ls hl => ?_)
  refine lv_iload_n C.1 C.2.1 dX9_percentNow_6 rfl (lv_at hl 0 rfl) ?_
  refine lv_if_ne (tgt := 14) C.1 C.2.1 dX9_percentNow_7 (by decide) (fun c2 => ?_) (fun c2 => ?_)
  · have hf := (if_neg c2).symm.trans hf
    refine lv_sipush (v := 140) C.1 C.2.1 dX9_percentNow_14 (by decide) ?_
    exact w_X9_percentNow_j17 C hf _ _ _ hP hS (lv_sub hl [1, 2, 0] rfl)
  · have hf := (if_pos c2).symm.trans hf
    refine lv_iconst (v := (-1)) C.1 C.2.1 dX9_percentNow_10 (by decide) ?_
    refine lv_goto (tgt := 17) C.1 C.2.1 dX9_percentNow_11 (by decide) ?_
    exact w_X9_percentNow_j17 C hf _ _ _ hP hS (lv_sub hl [1, 2, 0] rfl)
theorem dX9_percentLevel_0 : decode cX9_percentLevel 0 = .ok (.aload_n 0, 1) := by decide +kernel
theorem dX9_percentLevel_1 : decode cX9_percentLevel 1 = .ok (.iload_n 1, 1) := by decide +kernel
theorem dX9_percentLevel_2 : decode cX9_percentLevel 2 = .ok (.iconst 1, 1) := by decide +kernel
theorem dX9_percentLevel_3 : decode cX9_percentLevel 3 = .ok (.bipush 100, 2) := by decide +kernel
theorem dX9_percentLevel_5 : decode cX9_percentLevel 5 = .ok (.invokestatic 65, 3) := by decide +kernel
theorem dX9_percentLevel_8 : decode cX9_percentLevel 8 = .ok (.ifCond .eq 7, 3) := by decide +kernel
theorem dX9_percentLevel_11 : decode cX9_percentLevel 11 = .ok (.iconst 0, 1) := by decide +kernel
theorem dX9_percentLevel_12 : decode cX9_percentLevel 12 = .ok (.goto 4, 3) := by decide +kernel
theorem dX9_percentLevel_15 : decode cX9_percentLevel 15 = .ok (.iconst 1, 1) := by decide +kernel
theorem dX9_percentLevel_16 : decode cX9_percentLevel 16 = .ok (.putfield 61, 3) := by decide +kernel
theorem dX9_percentLevel_19 : decode cX9_percentLevel 19 = .ok (.aload_n 0, 1) := by decide +kernel
theorem dX9_percentLevel_20 : decode cX9_percentLevel 20 = .ok (.getfield 61, 3) := by decide +kernel
theorem dX9_percentLevel_23 : decode cX9_percentLevel 23 = .ok (.ifCond .le 5, 3) := by decide +kernel
theorem dX9_percentLevel_26 : decode cX9_percentLevel 26 = .ok (.iconst 0, 1) := by decide +kernel
theorem dX9_percentLevel_27 : decode cX9_percentLevel 27 = .ok (.ireturn, 1) := by decide +kernel
theorem dX9_percentLevel_28 : decode cX9_percentLevel 28 = .ok (.aload_n 0, 1) := by decide +kernel
theorem dX9_percentLevel_29 : decode cX9_percentLevel 29 = .ok (.invokevirtual 138, 3) := by decide +kernel
theorem dX9_percentLevel_32 : decode cX9_percentLevel 32 = .ok (.aload_n 0, 1) := by decide +kernel
theorem dX9_percentLevel_33 : decode cX9_percentLevel 33 = .ok (.iload_n 1, 1) := by decide +kernel
theorem dX9_percentLevel_34 : decode cX9_percentLevel 34 = .ok (.invokevirtual 187, 3) := by decide +kernel
theorem dX9_percentLevel_37 : decode cX9_percentLevel 37 = .ok (.ireturn, 1) := by decide +kernel
set_option maxHeartbeats 4000000 in
set_option maxRecDepth 100000 in
theorem w_X9_percentLevel_j16 {w : WT} {l : Launch} {p : Program} {e : Env} {s : State} {m : MethodId} {args : Array Value} {below : List Frame} {meth : Method} {c : Code} (C : KC w p s m args meth c cX9_percentLevel 2 RX9 (some .int)) {v1 : Int32} {s1 : Int32} {M : Mem} {L : Lng} {out : Int32 × Mem} (hf : f_X9_percentLevel_j16 v1 s1 M = some out) : AtL w p l e ({ frames := 7, cells := 0, slots := 0, locals := 151 } : Room) s m args below meth c (MQ below (QI w out.1 out.2 L) args s 0 0 (wA w)) 2 16 M L [(0, .ref (wAd w 90)), (1, .int v1)] [.int s1, .ref (wAd w 90)] := by
  intro H locs ls hP hS hl
  unfold f_X9_percentLevel_j16 at hf
  obtain ⟨M3, hM3, hf⟩ := ob hf
  refine k_puti C hP hS (lt_Model h0_Model) (fun row => ob_Model h0_Model w L row) rfl iX9 tyX9 tyX9_ok nmX9 0 (by decide) q863 rfl rfl (Nat.le_of_ble_eq_true rfl) rfl hM3 dX9_percentLevel_16 (fun H locs hP hS => ?_)
  refine lv_aload_n C.1 C.2.1 dX9_percentLevel_19 rfl (lv_at hl 0 rfl) ?_
  refine k_get (v := .int (M3 90 0)) C hP (lt_Model h0_Model) (ob_Model h0_Model w L _) rfl iX9 0 (by decide) q863 rfl dX9_percentLevel_20 ?_
  refine lv_if_le (tgt := 28) C.1 C.2.1 dX9_percentLevel_23 (by decide) (fun c4 => ?_) (fun c4 => ?_)
  · have hf := (if_pos c4).symm.trans hf
    refine lv_aload_n C.1 C.2.1 dX9_percentLevel_28 rfl (lv_at hl 0 rfl) ?_
    obtain ⟨r5, hr5, hf⟩ := ob hf
    refine kcv (kV (As := []) (rest := []) C hl.1 hP hS (c_X9_layAll w l C.2.2.2.2.2.2.2.2 (L := L) hr5) (gV q1040 q1042 qp36 q10 q1043) hd_X9_layAll (lt_Model h0_Model) (ob_Model h0_Model w L _) rfl ⟨rfl, rfl⟩ ⟨Nat.le_of_ble_eq_true rfl, Nat.le_of_ble_eq_true rfl⟩ rfl rfl (Nat.le_of_ble_eq_true rfl) dX9_percentLevel_29 ⟨Nat.zero_le _, Nat.zero_le _⟩) hS (fun H locs hP hS => ?_)
    refine lv_aload_n C.1 C.2.1 dX9_percentLevel_32 rfl (lv_at hl 0 rfl) ?_
    refine lv_iload_n C.1 C.2.1 dX9_percentLevel_33 rfl (lv_at hl 1 rfl) ?_
    obtain ⟨r6, hr6, hf⟩ := ob hf
    refine kci (kV (As := [.int v1]) (rest := []) C hl.1 hP hS (c_X9_percentNow w l C.2.2.2.2.2.2.2.2 (L := L) hr6) (gV q1124 q1126 qp48 q10 q1127) hd_X9_percentNow (lt_Model h0_Model) (ob_Model h0_Model w L _) rfl ⟨rfl, rfl⟩ ⟨Nat.le_of_ble_eq_true rfl, Nat.le_of_ble_eq_true rfl⟩ rfl rfl (Nat.le_of_ble_eq_true rfl) dX9_percentLevel_34 ⟨Nat.zero_le _, Nat.zero_le _⟩) hS (fun H locs hP hS => ?_)
    cases hf
    exact kri C hP hS dX9_percentLevel_37
  · have hf := (if_neg c4).symm.trans hf
    refine lv_iconst (v := 0) C.1 C.2.1 dX9_percentLevel_26 (by decide) ?_
    cases hf
    exact kri C hP hS dX9_percentLevel_27
set_option maxHeartbeats 4000000 in
set_option maxRecDepth 100000 in
theorem c_X9_percentLevel (w : WT) (l : Launch) (hw : WOK w) {a1 : Int32} {M : Mem} {L : Lng} {out : Int32 × Mem} (hf : f_X9_percentLevel a1 M = some out) : Met l yX9_percentLevel (Cond.code yX9_percentLevel cX9_percentLevel 2 (some .int) :: BG) ({ frames := 7, cells := 0, slots := 0, locals := 151 } : Room) (PRE w [.ref (wAd w 90), .int a1] M L) (QI w out.1 out.2 L) 0 0 (wA w) := by
  refine kEnt hw (by decide +kernel) rfl (Nat.le_of_ble_eq_true rfl) ?_
  intro p e s m args below meth c C ls hl hP
  have hS : va_S (wA w) s.heap s.heap [] := va_S.rf
  have hl : lv_has ls 2 [(0, .ref (wAd w 90)), (1, .int a1)] := hl
  unfold f_X9_percentLevel at hf
  refine lv_aload_n C.1 C.2.1 dX9_percentLevel_0 rfl (lv_at hl 0 rfl) ?_
  refine lv_iload_n C.1 C.2.1 dX9_percentLevel_1 rfl (lv_at hl 1 rfl) ?_
  refine lv_iconst (v := 1) C.1 C.2.1 dX9_percentLevel_2 (by decide) ?_
  refine lv_bipush (v := 100) C.1 C.2.1 dX9_percentLevel_3 (by decide) ?_
  obtain ⟨r1, hr1, hf⟩ := ob hf
  refine kci (kS (As := [.int a1, .int 1, .int 100]) (rest := [.ref (wAd w 90)]) C hl.1 hP hS (c_X9_within w l C.2.2.2.2.2.2.2.2 (L := L) hr1) (gS q963 q964 q10 q965) hd_X9_within ⟨rfl, rfl⟩ ⟨Nat.le_of_ble_eq_true rfl, Nat.le_of_ble_eq_true rfl⟩ rfl rfl (Nat.le_of_ble_eq_true rfl) dX9_percentLevel_5 ⟨Nat.zero_le _, Nat.zero_le _⟩) hS (fun H locs hP hS => ?_)
  refine lv_if_eq (tgt := 15) C.1 C.2.1 dX9_percentLevel_8 (by decide) (fun c2 => ?_) (fun c2 => ?_)
  · have hf := (if_pos c2).symm.trans hf
    refine lv_iconst (v := 1) C.1 C.2.1 dX9_percentLevel_15 (by decide) ?_
    exact w_X9_percentLevel_j16 C hf _ _ _ hP hS hl
  · have hf := (if_neg c2).symm.trans hf
    refine lv_iconst (v := 0) C.1 C.2.1 dX9_percentLevel_11 (by decide) ?_
    refine lv_goto (tgt := 16) C.1 C.2.1 dX9_percentLevel_12 (by decide) ?_
    exact w_X9_percentLevel_j16 C hf _ _ _ hP hS hl
theorem dX9_minutesBy_0 : decode cX9_minutesBy 0 = .ok (.iconst 0, 1) := by decide +kernel
theorem dX9_minutesBy_1 : decode cX9_minutesBy 1 = .ok (.istore_n 3, 1) := by decide +kernel
theorem dX9_minutesBy_2 : decode cX9_minutesBy 2 = .ok (.iconst 0, 1) := by decide +kernel
theorem dX9_minutesBy_3 : decode cX9_minutesBy 3 = .ok (.istore 4, 2) := by decide +kernel
theorem dX9_minutesBy_5 : decode cX9_minutesBy 5 = .ok (.iload 4, 2) := by decide +kernel
theorem dX9_minutesBy_7 : decode cX9_minutesBy 7 = .ok (.aload_n 0, 1) := by decide +kernel
theorem dX9_minutesBy_8 : decode cX9_minutesBy 8 = .ok (.getfield 80, 3) := by decide +kernel
theorem dX9_minutesBy_11 : decode cX9_minutesBy 11 = .ok (.if_icmp .ge 32, 3) := by decide +kernel
theorem dX9_minutesBy_14 : decode cX9_minutesBy 14 = .ok (.iload_n 3, 1) := by decide +kernel
theorem dX9_minutesBy_15 : decode cX9_minutesBy 15 = .ok (.aload_n 0, 1) := by decide +kernel
theorem dX9_minutesBy_16 : decode cX9_minutesBy 16 = .ok (.getfield 31, 3) := by decide +kernel
theorem dX9_minutesBy_19 : decode cX9_minutesBy 19 = .ok (.iload 4, 2) := by decide +kernel
theorem dX9_minutesBy_21 : decode cX9_minutesBy 21 = .ok (.iaload, 1) := by decide +kernel
theorem dX9_minutesBy_22 : decode cX9_minutesBy 22 = .ok (.iload_n 1, 1) := by decide +kernel
theorem dX9_minutesBy_23 : decode cX9_minutesBy 23 = .ok (.iload_n 2, 1) := by decide +kernel
theorem dX9_minutesBy_24 : decode cX9_minutesBy 24 = .ok (.invokestatic 65, 3) := by decide +kernel
theorem dX9_minutesBy_27 : decode cX9_minutesBy 27 = .ok (.ifCond .eq 7, 3) := by decide +kernel
theorem dX9_minutesBy_30 : decode cX9_minutesBy 30 = .ok (.iconst 1, 1) := by decide +kernel
theorem dX9_minutesBy_31 : decode cX9_minutesBy 31 = .ok (.goto 4, 3) := by decide +kernel
theorem dX9_minutesBy_34 : decode cX9_minutesBy 34 = .ok (.iconst 0, 1) := by decide +kernel
theorem dX9_minutesBy_35 : decode cX9_minutesBy 35 = .ok (.iadd, 1) := by decide +kernel
theorem dX9_minutesBy_36 : decode cX9_minutesBy 36 = .ok (.istore_n 3, 1) := by decide +kernel
theorem dX9_minutesBy_37 : decode cX9_minutesBy 37 = .ok (.iinc 4 1, 3) := by decide +kernel
theorem dX9_minutesBy_40 : decode cX9_minutesBy 40 = .ok (.goto (-35), 3) := by decide +kernel
theorem dX9_minutesBy_43 : decode cX9_minutesBy 43 = .ok (.iload_n 3, 1) := by decide +kernel
theorem dX9_minutesBy_44 : decode cX9_minutesBy 44 = .ok (.ireturn, 1) := by decide +kernel
set_option maxHeartbeats 4000000 in
set_option maxRecDepth 100000 in
theorem w_X9_minutesBy_j35 {w : WT} {l : Launch} {p : Program} {e : Env} {s : State} {m : MethodId} {args : Array Value} {below : List Frame} {meth : Method} {c : Code} (C : KC w p s m args meth c cX9_minutesBy 5 RX9 (some .int)) {v1 : Int32} {v2 : Int32} {v4 : Int32} {s0 : Int32} {s1 : Int32} {M : Mem} {L : Lng} {Q : State → Prop} {o : (Int32 × Int32) ⊕ (Int32)} (hf : f_X9_minutesBy_j35 v1 v2 v4 s0 s1 M = some o) (hA : ∀ z, o = .inl z → AtL w p l e ({ frames := 1, cells := 0, slots := 0, locals := 22 } : Room) s m args below meth c Q 5 5 M L [(0, .ref (wAd w 90)), (1, .int v1), (2, .int v2), (3, .int z.1), (4, .int z.2)] []) (hE : ∀ y, o = .inr y → AtL w p l e ({ frames := 1, cells := 0, slots := 0, locals := 22 } : Room) s m args below meth c Q 5 43 M L [(3, .int y)] []) : AtL w p l e ({ frames := 1, cells := 0, slots := 0, locals := 22 } : Room) s m args below meth c Q 5 35 M L [(0, .ref (wAd w 90)), (1, .int v1), (2, .int v2), (4, .int v4)] [.int s1, .int s0] := by
  intro H locs ls hP hS hl
  unfold f_X9_minutesBy_j35 at hf
  refine lv_iadd C.1 C.2.1 dX9_minutesBy_35 ?_
  refine lv_istore_n (lv' := [(3, .int (s0 + s1)), (0, .ref (wAd w 90)), (1, .int v1), (2, .int v2), (4, .int v4)]) C.1 C.2.1 dX9_minutesBy_36 rfl hl (by decide) rfl (fun ls hl => ?_)
  refine lv_iinc (v := (v4 + 1)) (lv' := [(4, .int (v4 + 1)), (3, .int (s0 + s1)), (0, .ref (wAd w 90)), (1, .int v1), (2, .int v2)]) C.1 C.2.1 dX9_minutesBy_37 hl (k := 4) rfl rfl (by decide) rfl (fun ls hl => ?_)
  refine lv_goto (tgt := 5) C.1 C.2.1 dX9_minutesBy_40 (by decide) ?_
  cases hf
  exact hA _ rfl _ _ _ hP hS (lv_sub hl [2, 3, 4, 1, 0] rfl)
set_option maxHeartbeats 4000000 in
set_option maxRecDepth 100000 in
theorem w_X9_minutesBy_l5 {w : WT} {l : Launch} {p : Program} {e : Env} {s : State} {m : MethodId} {args : Array Value} {below : List Frame} {meth : Method} {c : Code} (C : KC w p s m args meth c cX9_minutesBy 5 RX9 (some .int)) {v1 : Int32} {v2 : Int32} {M : Mem} {L : Lng} {Q : State → Prop} (z : Int32 × Int32) (o : (Int32 × Int32) ⊕ (Int32)) (hf : f_X9_minutesBy_l5 v1 v2 M z = some o) (hA : ∀ z, o = .inl z → AtL w p l e ({ frames := 1, cells := 0, slots := 0, locals := 22 } : Room) s m args below meth c Q 5 5 M L [(0, .ref (wAd w 90)), (1, .int v1), (2, .int v2), (3, .int z.1), (4, .int z.2)] []) (hE : ∀ y, o = .inr y → AtL w p l e ({ frames := 1, cells := 0, slots := 0, locals := 22 } : Room) s m args below meth c Q 5 43 M L [(3, .int y)] []) : AtL w p l e ({ frames := 1, cells := 0, slots := 0, locals := 22 } : Room) s m args below meth c Q 5 5 M L [(0, .ref (wAd w 90)), (1, .int v1), (2, .int v2), (3, .int z.1), (4, .int z.2)] [] := by
  intro H locs ls hP hS hl
  unfold f_X9_minutesBy_l5 at hf
  refine lv_iload C.1 C.2.1 dX9_minutesBy_5 (lv_at hl 4 rfl) ?_
  refine lv_aload_n C.1 C.2.1 dX9_minutesBy_7 rfl (lv_at hl 0 rfl) ?_
  refine k_get (v := .int (M 90 6)) C hP (lt_Model h0_Model) (ob_Model h0_Model w L _) rfl iX9 6 (by decide) q869 rfl dX9_minutesBy_8 ?_
  refine lv_icmp_ge (tgt := 43) C.1 C.2.1 dX9_minutesBy_11 (by decide) (fun c1 => ?_) (fun c1 => ?_)
  · have hf := (if_pos c1).symm.trans hf
    cases hf
    exact hE _ rfl _ _ _ hP hS (lv_sub hl [3] rfl)
  · have hf := (if_neg c1).symm.trans hf
    refine lv_iload_n C.1 C.2.1 dX9_minutesBy_14 rfl (lv_at hl 3 rfl) ?_
    refine lv_aload_n C.1 C.2.1 dX9_minutesBy_15 rfl (lv_at hl 0 rfl) ?_
    refine k_get (v := .ref (wAd w 98)) C hP (lt_Model h0_Model) (ob_Model h0_Model w L _) rfl iX9 11 (by decide) q874 rfl dX9_minutesBy_16 ?_
    refine lv_iload C.1 C.2.1 dX9_minutesBy_19 (lv_at hl 4 rfl) ?_
    obtain ⟨x2, hx2, hf⟩ := ob hf
    refine k_iald C hP (la_Model_why h0_Model) (ar_Model_why h0_Model w L _) hx2 dX9_minutesBy_21 ?_
    refine lv_iload_n C.1 C.2.1 dX9_minutesBy_22 rfl (lv_at hl 1 rfl) ?_
    refine lv_iload_n C.1 C.2.1 dX9_minutesBy_23 rfl (lv_at hl 2 rfl) ?_
    obtain ⟨r3, hr3, hf⟩ := ob hf
    refine kci (kS (As := [.int x2, .int v1, .int v2]) (rest := [.int z.1]) C hl.1 hP hS (c_X9_within w l C.2.2.2.2.2.2.2.2 (L := L) hr3) (gS q963 q964 q10 q965) hd_X9_within ⟨rfl, rfl⟩ ⟨Nat.le_of_ble_eq_true rfl, Nat.le_of_ble_eq_true rfl⟩ rfl rfl (Nat.le_of_ble_eq_true rfl) dX9_minutesBy_24 ⟨Nat.zero_le _, Nat.zero_le _⟩) hS (fun H locs hP hS => ?_)
    refine lv_if_eq (tgt := 34) C.1 C.2.1 dX9_minutesBy_27 (by decide) (fun c4 => ?_) (fun c4 => ?_)
    · have hf := (if_pos c4).symm.trans hf
      refine lv_iconst (v := 0) C.1 C.2.1 dX9_minutesBy_34 (by decide) ?_
      exact w_X9_minutesBy_j35 C hf hA hE _ _ _ hP hS (lv_sub hl [0, 1, 2, 4] rfl)
    · have hf := (if_neg c4).symm.trans hf
      refine lv_iconst (v := 1) C.1 C.2.1 dX9_minutesBy_30 (by decide) ?_
      refine lv_goto (tgt := 35) C.1 C.2.1 dX9_minutesBy_31 (by decide) ?_
      exact w_X9_minutesBy_j35 C hf hA hE _ _ _ hP hS (lv_sub hl [0, 1, 2, 4] rfl)
set_option maxHeartbeats 4000000 in
set_option maxRecDepth 100000 in
theorem c_X9_minutesBy (w : WT) (l : Launch) (hw : WOK w) {a1 : Int32} {a2 : Int32} {M : Mem} {L : Lng} {out : Int32} (hf : f_X9_minutesBy a1 a2 M = some out) : Met l yX9_minutesBy (Cond.code yX9_minutesBy cX9_minutesBy 5 (some .int) :: BG) ({ frames := 1, cells := 0, slots := 0, locals := 22 } : Room) (PRE w [.ref (wAd w 90), .int a1, .int a2] M L) (QI w out M L) 0 0 (wA w) := by
  refine kEnt hw (by decide +kernel) rfl (Nat.le_of_ble_eq_true rfl) ?_
  intro p e s m args below meth c C ls hl hP
  have hS : va_S (wA w) s.heap s.heap [] := va_S.rf
  have hl : lv_has ls 5 [(0, .ref (wAd w 90)), (1, .int a1), (2, .int a2)] := hl
  unfold f_X9_minutesBy at hf
  refine lv_iconst (v := 0) C.1 C.2.1 dX9_minutesBy_0 (by decide) ?_
  refine lv_istore_n (lv' := [(3, .int 0), (0, .ref (wAd w 90)), (1, .int a1), (2, .int a2)]) C.1 C.2.1 dX9_minutesBy_1 rfl hl (by decide) rfl (fun ls hl => ?_)
  refine lv_iconst (v := 0) C.1 C.2.1 dX9_minutesBy_2 (by decide) ?_
  refine lv_istore (lv' := [(4, .int 0), (3, .int 0), (0, .ref (wAd w 90)), (1, .int a1), (2, .int a2)]) C.1 C.2.1 dX9_minutesBy_3 hl (by decide) rfl (fun ls hl => ?_)
  obtain ⟨o5, ho5, hf⟩ := ob hf
  refine loop_at (w_X9_minutesBy_l5 C) FU _ o5 ho5 ?_ _ _ _ hP hS (lv_sub hl [2, 3, 4, 1, 0] rfl)
  intro H locs ls hP hS hl
  refine lv_iload_n C.1 C.2.1 dX9_minutesBy_43 rfl (lv_at hl 0 rfl) ?_
  cases hf
  exact kri C hP hS dX9_minutesBy_44
theorem dX9_restMany_0 : decode cX9_restMany 0 = .ok (.iconst 0, 1) := by decide +kernel
theorem dX9_restMany_1 : decode cX9_restMany 1 = .ok (.istore_n 1, 1) := by decide +kernel
theorem dX9_restMany_2 : decode cX9_restMany 2 = .ok (.iconst 0, 1) := by decide +kernel
theorem dX9_restMany_3 : decode cX9_restMany 3 = .ok (.istore_n 2, 1) := by decide +kernel
theorem dX9_restMany_4 : decode cX9_restMany 4 = .ok (.iload_n 2, 1) := by decide +kernel
theorem dX9_restMany_5 : decode cX9_restMany 5 = .ok (.aload_n 0, 1) := by decide +kernel
theorem dX9_restMany_6 : decode cX9_restMany 6 = .ok (.getfield 80, 3) := by decide +kernel
theorem dX9_restMany_9 : decode cX9_restMany 9 = .ok (.if_icmp .ge 25, 3) := by decide +kernel
theorem dX9_restMany_12 : decode cX9_restMany 12 = .ok (.iload_n 1, 1) := by decide +kernel
theorem dX9_restMany_13 : decode cX9_restMany 13 = .ok (.aload_n 0, 1) := by decide +kernel
theorem dX9_restMany_14 : decode cX9_restMany 14 = .ok (.iload_n 2, 1) := by decide +kernel
theorem dX9_restMany_15 : decode cX9_restMany 15 = .ok (.invokevirtual 73, 3) := by decide +kernel
theorem dX9_restMany_18 : decode cX9_restMany 18 = .ok (.ifCond .eq 7, 3) := by decide +kernel
theorem dX9_restMany_21 : decode cX9_restMany 21 = .ok (.iconst 1, 1) := by decide +kernel
theorem dX9_restMany_22 : decode cX9_restMany 22 = .ok (.goto 4, 3) := by decide +kernel
theorem dX9_restMany_25 : decode cX9_restMany 25 = .ok (.iconst 0, 1) := by decide +kernel
theorem dX9_restMany_26 : decode cX9_restMany 26 = .ok (.iadd, 1) := by decide +kernel
theorem dX9_restMany_27 : decode cX9_restMany 27 = .ok (.istore_n 1, 1) := by decide +kernel
theorem dX9_restMany_28 : decode cX9_restMany 28 = .ok (.iinc 2 1, 3) := by decide +kernel
theorem dX9_restMany_31 : decode cX9_restMany 31 = .ok (.goto (-27), 3) := by decide +kernel
theorem dX9_restMany_34 : decode cX9_restMany 34 = .ok (.iload_n 1, 1) := by decide +kernel
theorem dX9_restMany_35 : decode cX9_restMany 35 = .ok (.ireturn, 1) := by decide +kernel
set_option maxHeartbeats 4000000 in
set_option maxRecDepth 100000 in
theorem w_X9_restMany_j26 {w : WT} {l : Launch} {p : Program} {e : Env} {s : State} {m : MethodId} {args : Array Value} {below : List Frame} {meth : Method} {c : Code} (C : KC w p s m args meth c cX9_restMany 3 RX9 (some .int)) {v2 : Int32} {s0 : Int32} {s1 : Int32} {M : Mem} {L : Lng} {Q : State → Prop} {o : (Int32 × Int32) ⊕ (Int32)} (hf : f_X9_restMany_j26 v2 s0 s1 M = some o) (hA : ∀ z, o = .inl z → AtL w p l e ({ frames := 2, cells := 0, slots := 0, locals := 42 } : Room) s m args below meth c Q 3 4 M L [(0, .ref (wAd w 90)), (1, .int z.1), (2, .int z.2)] []) (hE : ∀ y, o = .inr y → AtL w p l e ({ frames := 2, cells := 0, slots := 0, locals := 42 } : Room) s m args below meth c Q 3 34 M L [(1, .int y)] []) : AtL w p l e ({ frames := 2, cells := 0, slots := 0, locals := 42 } : Room) s m args below meth c Q 3 26 M L [(0, .ref (wAd w 90)), (2, .int v2)] [.int s1, .int s0] := by
  intro H locs ls hP hS hl
  unfold f_X9_restMany_j26 at hf
  refine lv_iadd C.1 C.2.1 dX9_restMany_26 ?_
  refine lv_istore_n (lv' := [(1, .int (s0 + s1)), (0, .ref (wAd w 90)), (2, .int v2)]) C.1 C.2.1 dX9_restMany_27 rfl hl (by decide) rfl (fun ls hl => ?_)
  refine lv_iinc (v := (v2 + 1)) (lv' := [(2, .int (v2 + 1)), (1, .int (s0 + s1)), (0, .ref (wAd w 90))]) C.1 C.2.1 dX9_restMany_28 hl (k := 2) rfl rfl (by decide) rfl (fun ls hl => ?_)
  refine lv_goto (tgt := 4) C.1 C.2.1 dX9_restMany_31 (by decide) ?_
  cases hf
  exact hA _ rfl _ _ _ hP hS (lv_sub hl [2, 1, 0] rfl)
set_option maxHeartbeats 4000000 in
set_option maxRecDepth 100000 in
theorem w_X9_restMany_l4 {w : WT} {l : Launch} {p : Program} {e : Env} {s : State} {m : MethodId} {args : Array Value} {below : List Frame} {meth : Method} {c : Code} (C : KC w p s m args meth c cX9_restMany 3 RX9 (some .int)) {M : Mem} {L : Lng} {Q : State → Prop} (z : Int32 × Int32) (o : (Int32 × Int32) ⊕ (Int32)) (hf : f_X9_restMany_l4 M z = some o) (hA : ∀ z, o = .inl z → AtL w p l e ({ frames := 2, cells := 0, slots := 0, locals := 42 } : Room) s m args below meth c Q 3 4 M L [(0, .ref (wAd w 90)), (1, .int z.1), (2, .int z.2)] []) (hE : ∀ y, o = .inr y → AtL w p l e ({ frames := 2, cells := 0, slots := 0, locals := 42 } : Room) s m args below meth c Q 3 34 M L [(1, .int y)] []) : AtL w p l e ({ frames := 2, cells := 0, slots := 0, locals := 42 } : Room) s m args below meth c Q 3 4 M L [(0, .ref (wAd w 90)), (1, .int z.1), (2, .int z.2)] [] := by
  intro H locs ls hP hS hl
  unfold f_X9_restMany_l4 at hf
  refine lv_iload_n C.1 C.2.1 dX9_restMany_4 rfl (lv_at hl 2 rfl) ?_
  refine lv_aload_n C.1 C.2.1 dX9_restMany_5 rfl (lv_at hl 0 rfl) ?_
  refine k_get (v := .int (M 90 6)) C hP (lt_Model h0_Model) (ob_Model h0_Model w L _) rfl iX9 6 (by decide) q869 rfl dX9_restMany_6 ?_
  refine lv_icmp_ge (tgt := 34) C.1 C.2.1 dX9_restMany_9 (by decide) (fun c1 => ?_) (fun c1 => ?_)
  · have hf := (if_pos c1).symm.trans hf
    cases hf
    exact hE _ rfl _ _ _ hP hS (lv_sub hl [1] rfl)
  · have hf := (if_neg c1).symm.trans hf
    refine lv_iload_n C.1 C.2.1 dX9_restMany_12 rfl (lv_at hl 1 rfl) ?_
    refine lv_aload_n C.1 C.2.1 dX9_restMany_13 rfl (lv_at hl 0 rfl) ?_
    refine lv_iload_n C.1 C.2.1 dX9_restMany_14 rfl (lv_at hl 2 rfl) ?_
    obtain ⟨r2, hr2, hf⟩ := ob hf
    refine kci (kV (As := [.int z.2]) (rest := [.int z.1]) C hl.1 hP hS (c_X9_isRest w l C.2.2.2.2.2.2.2.2 (L := L) hr2) (gV q1016 q1018 qp33 q10 q1019) hd_X9_isRest (lt_Model h0_Model) (ob_Model h0_Model w L _) rfl ⟨rfl, rfl⟩ ⟨Nat.le_of_ble_eq_true rfl, Nat.le_of_ble_eq_true rfl⟩ rfl rfl (Nat.le_of_ble_eq_true rfl) dX9_restMany_15 ⟨Nat.zero_le _, Nat.zero_le _⟩) hS (fun H locs hP hS => ?_)
    refine lv_if_eq (tgt := 25) C.1 C.2.1 dX9_restMany_18 (by decide) (fun c3 => ?_) (fun c3 => ?_)
    · have hf := (if_pos c3).symm.trans hf
      refine lv_iconst (v := 0) C.1 C.2.1 dX9_restMany_25 (by decide) ?_
      exact w_X9_restMany_j26 C hf hA hE _ _ _ hP hS (lv_sub hl [0, 2] rfl)
    · have hf := (if_neg c3).symm.trans hf
      refine lv_iconst (v := 1) C.1 C.2.1 dX9_restMany_21 (by decide) ?_
      refine lv_goto (tgt := 26) C.1 C.2.1 dX9_restMany_22 (by decide) ?_
      exact w_X9_restMany_j26 C hf hA hE _ _ _ hP hS (lv_sub hl [0, 2] rfl)
set_option maxHeartbeats 4000000 in
set_option maxRecDepth 100000 in
theorem c_X9_restMany (w : WT) (l : Launch) (hw : WOK w) {M : Mem} {L : Lng} {out : Int32} (hf : f_X9_restMany M = some out) : Met l yX9_restMany (Cond.code yX9_restMany cX9_restMany 3 (some .int) :: BG) ({ frames := 2, cells := 0, slots := 0, locals := 42 } : Room) (PRE w [.ref (wAd w 90)] M L) (QI w out M L) 0 0 (wA w) := by
  refine kEnt hw (by decide +kernel) rfl (Nat.le_of_ble_eq_true rfl) ?_
  intro p e s m args below meth c C ls hl hP
  have hS : va_S (wA w) s.heap s.heap [] := va_S.rf
  have hl : lv_has ls 3 [(0, .ref (wAd w 90))] := hl
  unfold f_X9_restMany at hf
  refine lv_iconst (v := 0) C.1 C.2.1 dX9_restMany_0 (by decide) ?_
  refine lv_istore_n (lv' := [(1, .int 0), (0, .ref (wAd w 90))]) C.1 C.2.1 dX9_restMany_1 rfl hl (by decide) rfl (fun ls hl => ?_)
  refine lv_iconst (v := 0) C.1 C.2.1 dX9_restMany_2 (by decide) ?_
  refine lv_istore_n (lv' := [(2, .int 0), (1, .int 0), (0, .ref (wAd w 90))]) C.1 C.2.1 dX9_restMany_3 rfl hl (by decide) rfl (fun ls hl => ?_)
  obtain ⟨o4, ho4, hf⟩ := ob hf
  refine loop_at (w_X9_restMany_l4 C) FU _ o4 ho4 ?_ _ _ _ hP hS (lv_sub hl [2, 1, 0] rfl)
  intro H locs ls hP hS hl
  refine lv_iload_n C.1 C.2.1 dX9_restMany_34 rfl (lv_at hl 0 rfl) ?_
  cases hf
  exact kri C hP hS dX9_restMany_35
theorem dX9_matchedMany_0 : decode cX9_matchedMany 0 = .ok (.iconst 0, 1) := by decide +kernel
theorem dX9_matchedMany_1 : decode cX9_matchedMany 1 = .ok (.istore_n 1, 1) := by decide +kernel
theorem dX9_matchedMany_2 : decode cX9_matchedMany 2 = .ok (.iconst 0, 1) := by decide +kernel
theorem dX9_matchedMany_3 : decode cX9_matchedMany 3 = .ok (.istore_n 2, 1) := by decide +kernel
theorem dX9_matchedMany_4 : decode cX9_matchedMany 4 = .ok (.iload_n 2, 1) := by decide +kernel
theorem dX9_matchedMany_5 : decode cX9_matchedMany 5 = .ok (.aload_n 0, 1) := by decide +kernel
theorem dX9_matchedMany_6 : decode cX9_matchedMany 6 = .ok (.getfield 7, 3) := by decide +kernel
theorem dX9_matchedMany_9 : decode cX9_matchedMany 9 = .ok (.sipush 411, 3) := by decide +kernel
theorem dX9_matchedMany_12 : decode cX9_matchedMany 12 = .ok (.iaload, 1) := by decide +kernel
theorem dX9_matchedMany_13 : decode cX9_matchedMany 13 = .ok (.if_icmp .ge 27, 3) := by decide +kernel
theorem dX9_matchedMany_16 : decode cX9_matchedMany 16 = .ok (.iload_n 1, 1) := by decide +kernel
theorem dX9_matchedMany_17 : decode cX9_matchedMany 17 = .ok (.aload_n 0, 1) := by decide +kernel
theorem dX9_matchedMany_18 : decode cX9_matchedMany 18 = .ok (.getfield 52, 3) := by decide +kernel
theorem dX9_matchedMany_21 : decode cX9_matchedMany 21 = .ok (.iload_n 2, 1) := by decide +kernel
theorem dX9_matchedMany_22 : decode cX9_matchedMany 22 = .ok (.iaload, 1) := by decide +kernel
theorem dX9_matchedMany_23 : decode cX9_matchedMany 23 = .ok (.iconst (-1), 1) := by decide +kernel
theorem dX9_matchedMany_24 : decode cX9_matchedMany 24 = .ok (.if_icmp .ne 7, 3) := by decide +kernel
theorem dX9_matchedMany_27 : decode cX9_matchedMany 27 = .ok (.iconst 0, 1) := by decide +kernel
theorem dX9_matchedMany_28 : decode cX9_matchedMany 28 = .ok (.goto 4, 3) := by decide +kernel
theorem dX9_matchedMany_31 : decode cX9_matchedMany 31 = .ok (.iconst 1, 1) := by decide +kernel
theorem dX9_matchedMany_32 : decode cX9_matchedMany 32 = .ok (.iadd, 1) := by decide +kernel
theorem dX9_matchedMany_33 : decode cX9_matchedMany 33 = .ok (.istore_n 1, 1) := by decide +kernel
theorem dX9_matchedMany_34 : decode cX9_matchedMany 34 = .ok (.iinc 2 1, 3) := by decide +kernel
theorem dX9_matchedMany_37 : decode cX9_matchedMany 37 = .ok (.goto (-33), 3) := by decide +kernel
theorem dX9_matchedMany_40 : decode cX9_matchedMany 40 = .ok (.iload_n 1, 1) := by decide +kernel
theorem dX9_matchedMany_41 : decode cX9_matchedMany 41 = .ok (.ireturn, 1) := by decide +kernel
set_option maxHeartbeats 4000000 in
set_option maxRecDepth 100000 in
theorem w_X9_matchedMany_j32 {w : WT} {l : Launch} {p : Program} {e : Env} {s : State} {m : MethodId} {args : Array Value} {below : List Frame} {meth : Method} {c : Code} (C : KC w p s m args meth c cX9_matchedMany 3 RX9 (some .int)) {v2 : Int32} {s0 : Int32} {s1 : Int32} {M : Mem} {L : Lng} {Q : State → Prop} {o : (Int32 × Int32) ⊕ (Int32)} (hf : f_X9_matchedMany_j32 v2 s0 s1 M = some o) (hA : ∀ z, o = .inl z → AtL w p l e ({ frames := 0, cells := 0, slots := 0, locals := 0 } : Room) s m args below meth c Q 3 4 M L [(0, .ref (wAd w 90)), (1, .int z.1), (2, .int z.2)] []) (hE : ∀ y, o = .inr y → AtL w p l e ({ frames := 0, cells := 0, slots := 0, locals := 0 } : Room) s m args below meth c Q 3 40 M L [(1, .int y)] []) : AtL w p l e ({ frames := 0, cells := 0, slots := 0, locals := 0 } : Room) s m args below meth c Q 3 32 M L [(0, .ref (wAd w 90)), (2, .int v2)] [.int s1, .int s0] := by
  intro H locs ls hP hS hl
  unfold f_X9_matchedMany_j32 at hf
  refine lv_iadd C.1 C.2.1 dX9_matchedMany_32 ?_
  refine lv_istore_n (lv' := [(1, .int (s0 + s1)), (0, .ref (wAd w 90)), (2, .int v2)]) C.1 C.2.1 dX9_matchedMany_33 rfl hl (by decide) rfl (fun ls hl => ?_)
  refine lv_iinc (v := (v2 + 1)) (lv' := [(2, .int (v2 + 1)), (1, .int (s0 + s1)), (0, .ref (wAd w 90))]) C.1 C.2.1 dX9_matchedMany_34 hl (k := 2) rfl rfl (by decide) rfl (fun ls hl => ?_)
  refine lv_goto (tgt := 4) C.1 C.2.1 dX9_matchedMany_37 (by decide) ?_
  cases hf
  exact hA _ rfl _ _ _ hP hS (lv_sub hl [2, 1, 0] rfl)
set_option maxHeartbeats 4000000 in
set_option maxRecDepth 100000 in
theorem w_X9_matchedMany_l4 {w : WT} {l : Launch} {p : Program} {e : Env} {s : State} {m : MethodId} {args : Array Value} {below : List Frame} {meth : Method} {c : Code} (C : KC w p s m args meth c cX9_matchedMany 3 RX9 (some .int)) {M : Mem} {L : Lng} {Q : State → Prop} (z : Int32 × Int32) (o : (Int32 × Int32) ⊕ (Int32)) (hf : f_X9_matchedMany_l4 M z = some o) (hA : ∀ z, o = .inl z → AtL w p l e ({ frames := 0, cells := 0, slots := 0, locals := 0 } : Room) s m args below meth c Q 3 4 M L [(0, .ref (wAd w 90)), (1, .int z.1), (2, .int z.2)] []) (hE : ∀ y, o = .inr y → AtL w p l e ({ frames := 0, cells := 0, slots := 0, locals := 0 } : Room) s m args below meth c Q 3 40 M L [(1, .int y)] []) : AtL w p l e ({ frames := 0, cells := 0, slots := 0, locals := 0 } : Room) s m args below meth c Q 3 4 M L [(0, .ref (wAd w 90)), (1, .int z.1), (2, .int z.2)] [] := by
  intro H locs ls hP hS hl
  unfold f_X9_matchedMany_l4 at hf
  refine lv_iload_n C.1 C.2.1 dX9_matchedMany_4 rfl (lv_at hl 2 rfl) ?_
  refine lv_aload_n C.1 C.2.1 dX9_matchedMany_5 rfl (lv_at hl 0 rfl) ?_
  refine k_get (v := .ref (wAd w 91)) C hP (lt_Model h0_Model) (ob_Model h0_Model w L _) rfl iX9 1 (by decide) q864 rfl dX9_matchedMany_6 ?_
  refine lv_sipush (v := 411) C.1 C.2.1 dX9_matchedMany_9 (by decide) ?_
  obtain ⟨x1, hx1, hf⟩ := ob hf
  refine k_iald C hP (la_Model_z h0_Model) (ar_Model_z h0_Model w L _) hx1 dX9_matchedMany_12 ?_
  refine lv_icmp_ge (tgt := 40) C.1 C.2.1 dX9_matchedMany_13 (by decide) (fun c2 => ?_) (fun c2 => ?_)
  · have hf := (if_pos c2).symm.trans hf
    cases hf
    exact hE _ rfl _ _ _ hP hS (lv_sub hl [1] rfl)
  · have hf := (if_neg c2).symm.trans hf
    refine lv_iload_n C.1 C.2.1 dX9_matchedMany_16 rfl (lv_at hl 1 rfl) ?_
    refine lv_aload_n C.1 C.2.1 dX9_matchedMany_17 rfl (lv_at hl 0 rfl) ?_
    refine k_get (v := .ref (wAd w 105)) C hP (lt_Model h0_Model) (ob_Model h0_Model w L _) rfl iX9 20 (by decide) q883 rfl dX9_matchedMany_18 ?_
    refine lv_iload_n C.1 C.2.1 dX9_matchedMany_21 rfl (lv_at hl 2 rfl) ?_
    obtain ⟨x3, hx3, hf⟩ := ob hf
    refine k_iald C hP (la_Model_matched h0_Model) (ar_Model_matched h0_Model w L _) hx3 dX9_matchedMany_22 ?_
    refine lv_iconst (v := (-1)) C.1 C.2.1 dX9_matchedMany_23 (by decide) ?_
    refine lv_icmp_ne (tgt := 31) C.1 C.2.1 dX9_matchedMany_24 (by decide) (fun c4 => ?_) (fun c4 => ?_)
    · have hf := (if_neg c4).symm.trans hf
      refine lv_iconst (v := 1) C.1 C.2.1 dX9_matchedMany_31 (by decide) ?_
      exact w_X9_matchedMany_j32 C hf hA hE _ _ _ hP hS (lv_sub hl [0, 2] rfl)
    · have hf := (if_pos c4).symm.trans hf
      refine lv_iconst (v := 0) C.1 C.2.1 dX9_matchedMany_27 (by decide) ?_
      refine lv_goto (tgt := 32) C.1 C.2.1 dX9_matchedMany_28 (by decide) ?_
      exact w_X9_matchedMany_j32 C hf hA hE _ _ _ hP hS (lv_sub hl [0, 2] rfl)
set_option maxHeartbeats 4000000 in
set_option maxRecDepth 100000 in
theorem c_X9_matchedMany (w : WT) (l : Launch) (hw : WOK w) {M : Mem} {L : Lng} {out : Int32} (hf : f_X9_matchedMany M = some out) : Met l yX9_matchedMany (Cond.code yX9_matchedMany cX9_matchedMany 3 (some .int) :: BG) ({ frames := 0, cells := 0, slots := 0, locals := 0 } : Room) (PRE w [.ref (wAd w 90)] M L) (QI w out M L) 0 0 (wA w) := by
  refine kEnt hw (by decide +kernel) rfl (Nat.le_of_ble_eq_true rfl) ?_
  intro p e s m args below meth c C ls hl hP
  have hS : va_S (wA w) s.heap s.heap [] := va_S.rf
  have hl : lv_has ls 3 [(0, .ref (wAd w 90))] := hl
  unfold f_X9_matchedMany at hf
  refine lv_iconst (v := 0) C.1 C.2.1 dX9_matchedMany_0 (by decide) ?_
  refine lv_istore_n (lv' := [(1, .int 0), (0, .ref (wAd w 90))]) C.1 C.2.1 dX9_matchedMany_1 rfl hl (by decide) rfl (fun ls hl => ?_)
  refine lv_iconst (v := 0) C.1 C.2.1 dX9_matchedMany_2 (by decide) ?_
  refine lv_istore_n (lv' := [(2, .int 0), (1, .int 0), (0, .ref (wAd w 90))]) C.1 C.2.1 dX9_matchedMany_3 rfl hl (by decide) rfl (fun ls hl => ?_)
  obtain ⟨o5, ho5, hf⟩ := ob hf
  refine loop_at (w_X9_matchedMany_l4 C) FU _ o5 ho5 ?_ _ _ _ hP hS (lv_sub hl [2, 1, 0] rfl)
  intro H locs ls hP hS hl
  refine lv_iload_n C.1 C.2.1 dX9_matchedMany_40 rfl (lv_at hl 0 rfl) ?_
  cases hf
  exact kri C hP hS dX9_matchedMany_41
theorem dX9_weights_0 : decode cX9_weights 0 = .ok (.iconst 0, 1) := by decide +kernel
theorem dX9_weights_1 : decode cX9_weights 1 = .ok (.istore_n 1, 1) := by decide +kernel
theorem dX9_weights_2 : decode cX9_weights 2 = .ok (.iconst 0, 1) := by decide +kernel
theorem dX9_weights_3 : decode cX9_weights 3 = .ok (.istore_n 2, 1) := by decide +kernel
theorem dX9_weights_4 : decode cX9_weights 4 = .ok (.iload_n 2, 1) := by decide +kernel
theorem dX9_weights_5 : decode cX9_weights 5 = .ok (.aload_n 0, 1) := by decide +kernel
theorem dX9_weights_6 : decode cX9_weights 6 = .ok (.getfield 83, 3) := by decide +kernel
theorem dX9_weights_9 : decode cX9_weights 9 = .ok (.if_icmp .ge 18, 3) := by decide +kernel
theorem dX9_weights_12 : decode cX9_weights 12 = .ok (.iload_n 1, 1) := by decide +kernel
theorem dX9_weights_13 : decode cX9_weights 13 = .ok (.aload_n 0, 1) := by decide +kernel
theorem dX9_weights_14 : decode cX9_weights 14 = .ok (.getfield 49, 3) := by decide +kernel
theorem dX9_weights_17 : decode cX9_weights 17 = .ok (.iload_n 2, 1) := by decide +kernel
theorem dX9_weights_18 : decode cX9_weights 18 = .ok (.iaload, 1) := by decide +kernel
theorem dX9_weights_19 : decode cX9_weights 19 = .ok (.iadd, 1) := by decide +kernel
theorem dX9_weights_20 : decode cX9_weights 20 = .ok (.istore_n 1, 1) := by decide +kernel
theorem dX9_weights_21 : decode cX9_weights 21 = .ok (.iinc 2 1, 3) := by decide +kernel
theorem dX9_weights_24 : decode cX9_weights 24 = .ok (.goto (-20), 3) := by decide +kernel
theorem dX9_weights_27 : decode cX9_weights 27 = .ok (.iload_n 1, 1) := by decide +kernel
theorem dX9_weights_28 : decode cX9_weights 28 = .ok (.ireturn, 1) := by decide +kernel
set_option maxHeartbeats 4000000 in
set_option maxRecDepth 100000 in
theorem w_X9_weights_l4 {w : WT} {l : Launch} {p : Program} {e : Env} {s : State} {m : MethodId} {args : Array Value} {below : List Frame} {meth : Method} {c : Code} (C : KC w p s m args meth c cX9_weights 3 RX9 (some .int)) {M : Mem} {L : Lng} {Q : State → Prop} (z : Int32 × Int32) (o : (Int32 × Int32) ⊕ (Int32)) (hf : f_X9_weights_l4 M z = some o) (hA : ∀ z, o = .inl z → AtL w p l e ({ frames := 0, cells := 0, slots := 0, locals := 0 } : Room) s m args below meth c Q 3 4 M L [(0, .ref (wAd w 90)), (1, .int z.1), (2, .int z.2)] []) (hE : ∀ y, o = .inr y → AtL w p l e ({ frames := 0, cells := 0, slots := 0, locals := 0 } : Room) s m args below meth c Q 3 27 M L [(1, .int y)] []) : AtL w p l e ({ frames := 0, cells := 0, slots := 0, locals := 0 } : Room) s m args below meth c Q 3 4 M L [(0, .ref (wAd w 90)), (1, .int z.1), (2, .int z.2)] [] := by
  intro H locs ls hP hS hl
  unfold f_X9_weights_l4 at hf
  refine lv_iload_n C.1 C.2.1 dX9_weights_4 rfl (lv_at hl 2 rfl) ?_
  refine lv_aload_n C.1 C.2.1 dX9_weights_5 rfl (lv_at hl 0 rfl) ?_
  refine k_get (v := .int (M 90 13)) C hP (lt_Model h0_Model) (ob_Model h0_Model w L _) rfl iX9 13 (by decide) q876 rfl dX9_weights_6 ?_
  refine lv_icmp_ge (tgt := 27) C.1 C.2.1 dX9_weights_9 (by decide) (fun c1 => ?_) (fun c1 => ?_)
  · have hf := (if_pos c1).symm.trans hf
    cases hf
    exact hE _ rfl _ _ _ hP hS (lv_sub hl [1] rfl)
  · have hf := (if_neg c1).symm.trans hf
    refine lv_iload_n C.1 C.2.1 dX9_weights_12 rfl (lv_at hl 1 rfl) ?_
    refine lv_aload_n C.1 C.2.1 dX9_weights_13 rfl (lv_at hl 0 rfl) ?_
    refine k_get (v := .ref (wAd w 104)) C hP (lt_Model h0_Model) (ob_Model h0_Model w L _) rfl iX9 18 (by decide) q881 rfl dX9_weights_14 ?_
    refine lv_iload_n C.1 C.2.1 dX9_weights_17 rfl (lv_at hl 2 rfl) ?_
    obtain ⟨x2, hx2, hf⟩ := ob hf
    refine k_iald C hP (la_Model_weight h0_Model) (ar_Model_weight h0_Model w L _) hx2 dX9_weights_18 ?_
    refine lv_iadd C.1 C.2.1 dX9_weights_19 ?_
    refine lv_istore_n (lv' := [(1, .int (z.1 + x2)), (0, .ref (wAd w 90)), (2, .int z.2)]) C.1 C.2.1 dX9_weights_20 rfl hl (by decide) rfl (fun ls hl => ?_)
    refine lv_iinc (v := (z.2 + 1)) (lv' := [(2, .int (z.2 + 1)), (1, .int (z.1 + x2)), (0, .ref (wAd w 90))]) C.1 C.2.1 dX9_weights_21 hl (k := 2) rfl rfl (by decide) rfl (fun ls hl => ?_)
    refine lv_goto (tgt := 4) C.1 C.2.1 dX9_weights_24 (by decide) ?_
    cases hf
    exact hA _ rfl _ _ _ hP hS (lv_sub hl [2, 1, 0] rfl)
set_option maxHeartbeats 4000000 in
set_option maxRecDepth 100000 in
theorem c_X9_weights (w : WT) (l : Launch) (hw : WOK w) {M : Mem} {L : Lng} {out : Int32} (hf : f_X9_weights M = some out) : Met l yX9_weights (Cond.code yX9_weights cX9_weights 3 (some .int) :: BG) ({ frames := 0, cells := 0, slots := 0, locals := 0 } : Room) (PRE w [.ref (wAd w 90)] M L) (QI w out M L) 0 0 (wA w) := by
  refine kEnt hw (by decide +kernel) rfl (Nat.le_of_ble_eq_true rfl) ?_
  intro p e s m args below meth c C ls hl hP
  have hS : va_S (wA w) s.heap s.heap [] := va_S.rf
  have hl : lv_has ls 3 [(0, .ref (wAd w 90))] := hl
  unfold f_X9_weights at hf
  refine lv_iconst (v := 0) C.1 C.2.1 dX9_weights_0 (by decide) ?_
  refine lv_istore_n (lv' := [(1, .int 0), (0, .ref (wAd w 90))]) C.1 C.2.1 dX9_weights_1 rfl hl (by decide) rfl (fun ls hl => ?_)
  refine lv_iconst (v := 0) C.1 C.2.1 dX9_weights_2 (by decide) ?_
  refine lv_istore_n (lv' := [(2, .int 0), (1, .int 0), (0, .ref (wAd w 90))]) C.1 C.2.1 dX9_weights_3 rfl hl (by decide) rfl (fun ls hl => ?_)
  obtain ⟨o3, ho3, hf⟩ := ob hf
  refine loop_at (w_X9_weights_l4 C) FU _ o3 ho3 ?_ _ _ _ hP hS (lv_sub hl [2, 1, 0] rfl)
  intro H locs ls hP hS hl
  refine lv_iload_n C.1 C.2.1 dX9_weights_27 rfl (lv_at hl 0 rfl) ?_
  cases hf
  exact kri C hP hS dX9_weights_28
theorem dX9_heaviest_0 : decode cX9_heaviest 0 = .ok (.iconst (-1), 1) := by decide +kernel
theorem dX9_heaviest_1 : decode cX9_heaviest 1 = .ok (.istore_n 1, 1) := by decide +kernel
theorem dX9_heaviest_2 : decode cX9_heaviest 2 = .ok (.iconst 0, 1) := by decide +kernel
theorem dX9_heaviest_3 : decode cX9_heaviest 3 = .ok (.istore_n 2, 1) := by decide +kernel
theorem dX9_heaviest_4 : decode cX9_heaviest 4 = .ok (.iload_n 2, 1) := by decide +kernel
theorem dX9_heaviest_5 : decode cX9_heaviest 5 = .ok (.aload_n 0, 1) := by decide +kernel
theorem dX9_heaviest_6 : decode cX9_heaviest 6 = .ok (.getfield 83, 3) := by decide +kernel
theorem dX9_heaviest_9 : decode cX9_heaviest 9 = .ok (.if_icmp .ge 35, 3) := by decide +kernel
theorem dX9_heaviest_12 : decode cX9_heaviest 12 = .ok (.iload_n 1, 1) := by decide +kernel
theorem dX9_heaviest_13 : decode cX9_heaviest 13 = .ok (.iconst (-1), 1) := by decide +kernel
theorem dX9_heaviest_14 : decode cX9_heaviest 14 = .ok (.if_icmp .eq 18, 3) := by decide +kernel
theorem dX9_heaviest_17 : decode cX9_heaviest 17 = .ok (.aload_n 0, 1) := by decide +kernel
theorem dX9_heaviest_18 : decode cX9_heaviest 18 = .ok (.getfield 49, 3) := by decide +kernel
theorem dX9_heaviest_21 : decode cX9_heaviest 21 = .ok (.iload_n 2, 1) := by decide +kernel
theorem dX9_heaviest_22 : decode cX9_heaviest 22 = .ok (.iaload, 1) := by decide +kernel
theorem dX9_heaviest_23 : decode cX9_heaviest 23 = .ok (.aload_n 0, 1) := by decide +kernel
theorem dX9_heaviest_24 : decode cX9_heaviest 24 = .ok (.getfield 49, 3) := by decide +kernel
theorem dX9_heaviest_27 : decode cX9_heaviest 27 = .ok (.iload_n 1, 1) := by decide +kernel
theorem dX9_heaviest_28 : decode cX9_heaviest 28 = .ok (.iaload, 1) := by decide +kernel
theorem dX9_heaviest_29 : decode cX9_heaviest 29 = .ok (.if_icmp .le 7, 3) := by decide +kernel
theorem dX9_heaviest_32 : decode cX9_heaviest 32 = .ok (.iload_n 2, 1) := by decide +kernel
theorem dX9_heaviest_33 : decode cX9_heaviest 33 = .ok (.goto 4, 3) := by decide +kernel
theorem dX9_heaviest_36 : decode cX9_heaviest 36 = .ok (.iload_n 1, 1) := by decide +kernel
theorem dX9_heaviest_37 : decode cX9_heaviest 37 = .ok (.istore_n 1, 1) := by decide +kernel
theorem dX9_heaviest_38 : decode cX9_heaviest 38 = .ok (.iinc 2 1, 3) := by decide +kernel
theorem dX9_heaviest_41 : decode cX9_heaviest 41 = .ok (.goto (-37), 3) := by decide +kernel
theorem dX9_heaviest_44 : decode cX9_heaviest 44 = .ok (.iload_n 1, 1) := by decide +kernel
theorem dX9_heaviest_45 : decode cX9_heaviest 45 = .ok (.ireturn, 1) := by decide +kernel
set_option maxHeartbeats 4000000 in
set_option maxRecDepth 100000 in
theorem w_X9_heaviest_j37 {w : WT} {l : Launch} {p : Program} {e : Env} {s : State} {m : MethodId} {args : Array Value} {below : List Frame} {meth : Method} {c : Code} (C : KC w p s m args meth c cX9_heaviest 3 RX9 (some .int)) {v2 : Int32} {s0 : Int32} {M : Mem} {L : Lng} {Q : State → Prop} {o : (Int32 × Int32) ⊕ (Int32)} (hf : f_X9_heaviest_j37 v2 s0 M = some o) (hA : ∀ z, o = .inl z → AtL w p l e ({ frames := 0, cells := 0, slots := 0, locals := 0 } : Room) s m args below meth c Q 3 4 M L [(0, .ref (wAd w 90)), (1, .int z.1), (2, .int z.2)] []) (hE : ∀ y, o = .inr y → AtL w p l e ({ frames := 0, cells := 0, slots := 0, locals := 0 } : Room) s m args below meth c Q 3 44 M L [(1, .int y)] []) : AtL w p l e ({ frames := 0, cells := 0, slots := 0, locals := 0 } : Room) s m args below meth c Q 3 37 M L [(0, .ref (wAd w 90)), (2, .int v2)] [.int s0] := by
  intro H locs ls hP hS hl
  unfold f_X9_heaviest_j37 at hf
  refine lv_istore_n (lv' := [(1, .int s0), (0, .ref (wAd w 90)), (2, .int v2)]) C.1 C.2.1 dX9_heaviest_37 rfl hl (by decide) rfl (fun ls hl => ?_)
  refine lv_iinc (v := (v2 + 1)) (lv' := [(2, .int (v2 + 1)), (1, .int s0), (0, .ref (wAd w 90))]) C.1 C.2.1 dX9_heaviest_38 hl (k := 2) rfl rfl (by decide) rfl (fun ls hl => ?_)
  refine lv_goto (tgt := 4) C.1 C.2.1 dX9_heaviest_41 (by decide) ?_
  cases hf
  exact hA _ rfl _ _ _ hP hS (lv_sub hl [2, 1, 0] rfl)
set_option maxHeartbeats 4000000 in
set_option maxRecDepth 100000 in
theorem w_X9_heaviest_j32 {w : WT} {l : Launch} {p : Program} {e : Env} {s : State} {m : MethodId} {args : Array Value} {below : List Frame} {meth : Method} {c : Code} (C : KC w p s m args meth c cX9_heaviest 3 RX9 (some .int)) {v2 : Int32} {M : Mem} {L : Lng} {Q : State → Prop} {o : (Int32 × Int32) ⊕ (Int32)} (hf : f_X9_heaviest_j32 v2 M = some o) (hA : ∀ z, o = .inl z → AtL w p l e ({ frames := 0, cells := 0, slots := 0, locals := 0 } : Room) s m args below meth c Q 3 4 M L [(0, .ref (wAd w 90)), (1, .int z.1), (2, .int z.2)] []) (hE : ∀ y, o = .inr y → AtL w p l e ({ frames := 0, cells := 0, slots := 0, locals := 0 } : Room) s m args below meth c Q 3 44 M L [(1, .int y)] []) : AtL w p l e ({ frames := 0, cells := 0, slots := 0, locals := 0 } : Room) s m args below meth c Q 3 32 M L [(0, .ref (wAd w 90)), (2, .int v2)] [] := by
  intro H locs ls hP hS hl
  unfold f_X9_heaviest_j32 at hf
  refine lv_iload_n C.1 C.2.1 dX9_heaviest_32 rfl (lv_at hl 1 rfl) ?_
  refine lv_goto (tgt := 37) C.1 C.2.1 dX9_heaviest_33 (by decide) ?_
  exact w_X9_heaviest_j37 C hf hA hE _ _ _ hP hS hl
set_option maxHeartbeats 4000000 in
set_option maxRecDepth 100000 in
theorem w_X9_heaviest_l4 {w : WT} {l : Launch} {p : Program} {e : Env} {s : State} {m : MethodId} {args : Array Value} {below : List Frame} {meth : Method} {c : Code} (C : KC w p s m args meth c cX9_heaviest 3 RX9 (some .int)) {M : Mem} {L : Lng} {Q : State → Prop} (z : Int32 × Int32) (o : (Int32 × Int32) ⊕ (Int32)) (hf : f_X9_heaviest_l4 M z = some o) (hA : ∀ z, o = .inl z → AtL w p l e ({ frames := 0, cells := 0, slots := 0, locals := 0 } : Room) s m args below meth c Q 3 4 M L [(0, .ref (wAd w 90)), (1, .int z.1), (2, .int z.2)] []) (hE : ∀ y, o = .inr y → AtL w p l e ({ frames := 0, cells := 0, slots := 0, locals := 0 } : Room) s m args below meth c Q 3 44 M L [(1, .int y)] []) : AtL w p l e ({ frames := 0, cells := 0, slots := 0, locals := 0 } : Room) s m args below meth c Q 3 4 M L [(0, .ref (wAd w 90)), (1, .int z.1), (2, .int z.2)] [] := by
  intro H locs ls hP hS hl
  unfold f_X9_heaviest_l4 at hf
  refine lv_iload_n C.1 C.2.1 dX9_heaviest_4 rfl (lv_at hl 2 rfl) ?_
  refine lv_aload_n C.1 C.2.1 dX9_heaviest_5 rfl (lv_at hl 0 rfl) ?_
  refine k_get (v := .int (M 90 13)) C hP (lt_Model h0_Model) (ob_Model h0_Model w L _) rfl iX9 13 (by decide) q876 rfl dX9_heaviest_6 ?_
  refine lv_icmp_ge (tgt := 44) C.1 C.2.1 dX9_heaviest_9 (by decide) (fun c1 => ?_) (fun c1 => ?_)
  · have hf := (if_pos c1).symm.trans hf
    cases hf
    exact hE _ rfl _ _ _ hP hS (lv_sub hl [1] rfl)
  · have hf := (if_neg c1).symm.trans hf
    refine lv_iload_n C.1 C.2.1 dX9_heaviest_12 rfl (lv_at hl 1 rfl) ?_
    refine lv_iconst (v := (-1)) C.1 C.2.1 dX9_heaviest_13 (by decide) ?_
    refine lv_icmp_eq (tgt := 32) C.1 C.2.1 dX9_heaviest_14 (by decide) (fun c2 => ?_) (fun c2 => ?_)
    · have hf := (if_pos c2).symm.trans hf
      exact w_X9_heaviest_j32 C hf hA hE _ _ _ hP hS (lv_sub hl [0, 2] rfl)
    · have hf := (if_neg c2).symm.trans hf
      refine lv_aload_n C.1 C.2.1 dX9_heaviest_17 rfl (lv_at hl 0 rfl) ?_
      refine k_get (v := .ref (wAd w 104)) C hP (lt_Model h0_Model) (ob_Model h0_Model w L _) rfl iX9 18 (by decide) q881 rfl dX9_heaviest_18 ?_
      refine lv_iload_n C.1 C.2.1 dX9_heaviest_21 rfl (lv_at hl 2 rfl) ?_
      obtain ⟨x3, hx3, hf⟩ := ob hf
      refine k_iald C hP (la_Model_weight h0_Model) (ar_Model_weight h0_Model w L _) hx3 dX9_heaviest_22 ?_
      refine lv_aload_n C.1 C.2.1 dX9_heaviest_23 rfl (lv_at hl 0 rfl) ?_
      refine k_get (v := .ref (wAd w 104)) C hP (lt_Model h0_Model) (ob_Model h0_Model w L _) rfl iX9 18 (by decide) q881 rfl dX9_heaviest_24 ?_
      refine lv_iload_n C.1 C.2.1 dX9_heaviest_27 rfl (lv_at hl 1 rfl) ?_
      obtain ⟨x4, hx4, hf⟩ := ob hf
      refine k_iald C hP (la_Model_weight h0_Model) (ar_Model_weight h0_Model w L _) hx4 dX9_heaviest_28 ?_
      refine lv_icmp_le (tgt := 36) C.1 C.2.1 dX9_heaviest_29 (by decide) (fun c5 => ?_) (fun c5 => ?_)
      · have hf := (if_pos c5).symm.trans hf
        refine lv_iload_n C.1 C.2.1 dX9_heaviest_36 rfl (lv_at hl 1 rfl) ?_
        exact w_X9_heaviest_j37 C hf hA hE _ _ _ hP hS (lv_sub hl [0, 2] rfl)
      · have hf := (if_neg c5).symm.trans hf
        exact w_X9_heaviest_j32 C hf hA hE _ _ _ hP hS (lv_sub hl [0, 2] rfl)
set_option maxHeartbeats 4000000 in
set_option maxRecDepth 100000 in
theorem c_X9_heaviest (w : WT) (l : Launch) (hw : WOK w) {M : Mem} {L : Lng} {out : Int32} (hf : f_X9_heaviest M = some out) : Met l yX9_heaviest (Cond.code yX9_heaviest cX9_heaviest 3 (some .int) :: BG) ({ frames := 0, cells := 0, slots := 0, locals := 0 } : Room) (PRE w [.ref (wAd w 90)] M L) (QI w out M L) 0 0 (wA w) := by
  refine kEnt hw (by decide +kernel) rfl (Nat.le_of_ble_eq_true rfl) ?_
  intro p e s m args below meth c C ls hl hP
  have hS : va_S (wA w) s.heap s.heap [] := va_S.rf
  have hl : lv_has ls 3 [(0, .ref (wAd w 90))] := hl
  unfold f_X9_heaviest at hf
  refine lv_iconst (v := (-1)) C.1 C.2.1 dX9_heaviest_0 (by decide) ?_
  refine lv_istore_n (lv' := [(1, .int (-1)), (0, .ref (wAd w 90))]) C.1 C.2.1 dX9_heaviest_1 rfl hl (by decide) rfl (fun ls hl => ?_)
  refine lv_iconst (v := 0) C.1 C.2.1 dX9_heaviest_2 (by decide) ?_
  refine lv_istore_n (lv' := [(2, .int 0), (1, .int (-1)), (0, .ref (wAd w 90))]) C.1 C.2.1 dX9_heaviest_3 rfl hl (by decide) rfl (fun ls hl => ?_)
  obtain ⟨o6, ho6, hf⟩ := ob hf
  refine loop_at (w_X9_heaviest_l4 C) FU _ o6 ho6 ?_ _ _ _ hP hS (lv_sub hl [2, 1, 0] rfl)
  intro H locs ls hP hS hl
  refine lv_iload_n C.1 C.2.1 dX9_heaviest_44 rfl (lv_at hl 0 rfl) ?_
  cases hf
  exact kri C hP hS dX9_heaviest_45
theorem dX9_counted_0 : decode cX9_counted 0 = .ok (.iload_n 1, 1) := by decide +kernel
theorem dX9_counted_1 : decode cX9_counted 1 = .ok (.tableswitch 123 0 10 #[59, 64, 70, 77, 82, 89, 94, 103, 108, 113, 118], 59) := by decide +kernel
theorem dX9_counted_60 : decode cX9_counted 60 = .ok (.aload_n 0, 1) := by decide +kernel
theorem dX9_counted_61 : decode cX9_counted 61 = .ok (.getfield 80, 3) := by decide +kernel
theorem dX9_counted_64 : decode cX9_counted 64 = .ok (.ireturn, 1) := by decide +kernel
theorem dX9_counted_65 : decode cX9_counted 65 = .ok (.aload_n 0, 1) := by decide +kernel
theorem dX9_counted_66 : decode cX9_counted 66 = .ok (.iconst 0, 1) := by decide +kernel
theorem dX9_counted_67 : decode cX9_counted 67 = .ok (.invokevirtual 184, 3) := by decide +kernel
theorem dX9_counted_70 : decode cX9_counted 70 = .ok (.ireturn, 1) := by decide +kernel
theorem dX9_counted_71 : decode cX9_counted 71 = .ok (.aload_n 0, 1) := by decide +kernel
theorem dX9_counted_72 : decode cX9_counted 72 = .ok (.iconst 1, 1) := by decide +kernel
theorem dX9_counted_73 : decode cX9_counted 73 = .ok (.iconst 2, 1) := by decide +kernel
theorem dX9_counted_74 : decode cX9_counted 74 = .ok (.invokevirtual 190, 3) := by decide +kernel
theorem dX9_counted_77 : decode cX9_counted 77 = .ok (.ireturn, 1) := by decide +kernel
theorem dX9_counted_78 : decode cX9_counted 78 = .ok (.aload_n 0, 1) := by decide +kernel
theorem dX9_counted_79 : decode cX9_counted 79 = .ok (.invokevirtual 193, 3) := by decide +kernel
theorem dX9_counted_82 : decode cX9_counted 82 = .ok (.ireturn, 1) := by decide +kernel
theorem dX9_counted_83 : decode cX9_counted 83 = .ok (.aload_n 0, 1) := by decide +kernel
theorem dX9_counted_84 : decode cX9_counted 84 = .ok (.iconst 0, 1) := by decide +kernel
theorem dX9_counted_85 : decode cX9_counted 85 = .ok (.iconst 0, 1) := by decide +kernel
theorem dX9_counted_86 : decode cX9_counted 86 = .ok (.invokevirtual 190, 3) := by decide +kernel
theorem dX9_counted_89 : decode cX9_counted 89 = .ok (.ireturn, 1) := by decide +kernel
theorem dX9_counted_90 : decode cX9_counted 90 = .ok (.aload_n 0, 1) := by decide +kernel
theorem dX9_counted_91 : decode cX9_counted 91 = .ok (.getfield 83, 3) := by decide +kernel
theorem dX9_counted_94 : decode cX9_counted 94 = .ok (.ireturn, 1) := by decide +kernel
theorem dX9_counted_95 : decode cX9_counted 95 = .ok (.aload_n 0, 1) := by decide +kernel
theorem dX9_counted_96 : decode cX9_counted 96 = .ok (.getfield 7, 3) := by decide +kernel
theorem dX9_counted_99 : decode cX9_counted 99 = .ok (.sipush 411, 3) := by decide +kernel
theorem dX9_counted_102 : decode cX9_counted 102 = .ok (.iaload, 1) := by decide +kernel
theorem dX9_counted_103 : decode cX9_counted 103 = .ok (.ireturn, 1) := by decide +kernel
theorem dX9_counted_104 : decode cX9_counted 104 = .ok (.aload_n 0, 1) := by decide +kernel
theorem dX9_counted_105 : decode cX9_counted 105 = .ok (.invokevirtual 196, 3) := by decide +kernel
theorem dX9_counted_108 : decode cX9_counted 108 = .ok (.ireturn, 1) := by decide +kernel
theorem dX9_counted_109 : decode cX9_counted 109 = .ok (.aload_n 0, 1) := by decide +kernel
theorem dX9_counted_110 : decode cX9_counted 110 = .ok (.invokevirtual 199, 3) := by decide +kernel
theorem dX9_counted_113 : decode cX9_counted 113 = .ok (.ireturn, 1) := by decide +kernel
theorem dX9_counted_114 : decode cX9_counted 114 = .ok (.aload_n 0, 1) := by decide +kernel
theorem dX9_counted_115 : decode cX9_counted 115 = .ok (.invokevirtual 202, 3) := by decide +kernel
theorem dX9_counted_118 : decode cX9_counted 118 = .ok (.ireturn, 1) := by decide +kernel
theorem dX9_counted_119 : decode cX9_counted 119 = .ok (.aload_n 0, 1) := by decide +kernel
theorem dX9_counted_120 : decode cX9_counted 120 = .ok (.getfield 112, 3) := by decide +kernel
theorem dX9_counted_123 : decode cX9_counted 123 = .ok (.ireturn, 1) := by decide +kernel
theorem dX9_counted_124 : decode cX9_counted 124 = .ok (.aload_n 0, 1) := by decide +kernel
theorem dX9_counted_125 : decode cX9_counted 125 = .ok (.getfield 86, 3) := by decide +kernel
theorem dX9_counted_128 : decode cX9_counted 128 = .ok (.ifCond .eq 7, 3) := by decide +kernel
theorem dX9_counted_131 : decode cX9_counted 131 = .ok (.iconst 1, 1) := by decide +kernel
theorem dX9_counted_132 : decode cX9_counted 132 = .ok (.goto 4, 3) := by decide +kernel
theorem dX9_counted_135 : decode cX9_counted 135 = .ok (.iconst 0, 1) := by decide +kernel
theorem dX9_counted_136 : decode cX9_counted 136 = .ok (.ireturn, 1) := by decide +kernel
set_option maxHeartbeats 4000000 in
set_option maxRecDepth 100000 in
theorem c_X9_counted (w : WT) (l : Launch) (hw : WOK w) {a1 : Int32} {M : Mem} {L : Lng} {out : Int32} (hf : f_X9_counted a1 M = some out) : Met l yX9_counted (Cond.code yX9_counted cX9_counted 2 (some .int) :: BG) ({ frames := 3, cells := 0, slots := 0, locals := 64 } : Room) (PRE w [.ref (wAd w 90), .int a1] M L) (QI w out M L) 0 0 (wA w) := by
  refine kEnt hw (by decide +kernel) rfl (Nat.le_of_ble_eq_true rfl) ?_
  intro p e s m args below meth c C ls hl hP
  have hS : va_S (wA w) s.heap s.heap [] := va_S.rf
  have hl : lv_has ls 2 [(0, .ref (wAd w 90)), (1, .int a1)] := hl
  unfold f_X9_counted at hf
  refine lv_iload_n C.1 C.2.1 dX9_counted_0 rfl (lv_at hl 1 rfl) ?_
  by_cases c1 : a1 = 0
  · have hf := (if_pos c1).symm.trans hf
    refine lv_tableIn (off := 59) (tgt := 60) C.1 C.2.1 dX9_counted_1 (by rw [c1]; decide) (by rw [c1]; decide) (by rw [c1]; rfl) (by decide) ?_
    refine lv_aload_n C.1 C.2.1 dX9_counted_60 rfl (lv_at hl 0 rfl) ?_
    refine k_get (v := .int (M 90 6)) C hP (lt_Model h0_Model) (ob_Model h0_Model w L _) rfl iX9 6 (by decide) q869 rfl dX9_counted_61 ?_
    cases hf
    exact kri C hP hS dX9_counted_64
  · have hf := (if_neg c1).symm.trans hf
    by_cases c2 : a1 = 1
    · have hf := (if_pos c2).symm.trans hf
      refine lv_tableIn (off := 64) (tgt := 65) C.1 C.2.1 dX9_counted_1 (by rw [c2]; decide) (by rw [c2]; decide) (by rw [c2]; rfl) (by decide) ?_
      refine lv_aload_n C.1 C.2.1 dX9_counted_65 rfl (lv_at hl 0 rfl) ?_
      refine lv_iconst (v := 0) C.1 C.2.1 dX9_counted_66 (by decide) ?_
      obtain ⟨r3, hr3, hf⟩ := ob hf
      refine kci (kV (As := [.int 0]) (rest := []) C hl.1 hP hS (c_X9_countFrom w l C.2.2.2.2.2.2.2.2 (L := L) hr3) (gV q1116 q1118 qp47 q10 q1119) hd_X9_countFrom (lt_Model h0_Model) (ob_Model h0_Model w L _) rfl ⟨rfl, rfl⟩ ⟨Nat.le_of_ble_eq_true rfl, Nat.le_of_ble_eq_true rfl⟩ rfl rfl (Nat.le_of_ble_eq_true rfl) dX9_counted_67 ⟨Nat.zero_le _, Nat.zero_le _⟩) hS (fun H locs hP hS => ?_)
      cases hf
      exact kri C hP hS dX9_counted_70
    · have hf := (if_neg c2).symm.trans hf
      by_cases c4 : a1 = 2
      · have hf := (if_pos c4).symm.trans hf
        refine lv_tableIn (off := 70) (tgt := 71) C.1 C.2.1 dX9_counted_1 (by rw [c4]; decide) (by rw [c4]; decide) (by rw [c4]; rfl) (by decide) ?_
        refine lv_aload_n C.1 C.2.1 dX9_counted_71 rfl (lv_at hl 0 rfl) ?_
        refine lv_iconst (v := 1) C.1 C.2.1 dX9_counted_72 (by decide) ?_
        refine lv_iconst (v := 2) C.1 C.2.1 dX9_counted_73 (by decide) ?_
        obtain ⟨r5, hr5, hf⟩ := ob hf
        refine kci (kV (As := [.int 1, .int 2]) (rest := []) C hl.1 hP hS (c_X9_minutesBy w l C.2.2.2.2.2.2.2.2 (L := L) hr5) (gV q1136 q1138 qp50 q10 q1139) hd_X9_minutesBy (lt_Model h0_Model) (ob_Model h0_Model w L _) rfl ⟨rfl, rfl⟩ ⟨Nat.le_of_ble_eq_true rfl, Nat.le_of_ble_eq_true rfl⟩ rfl rfl (Nat.le_of_ble_eq_true rfl) dX9_counted_74 ⟨Nat.zero_le _, Nat.zero_le _⟩) hS (fun H locs hP hS => ?_)
        cases hf
        exact kri C hP hS dX9_counted_77
      · have hf := (if_neg c4).symm.trans hf
        by_cases c6 : a1 = 3
        · have hf := (if_pos c6).symm.trans hf
          refine lv_tableIn (off := 77) (tgt := 78) C.1 C.2.1 dX9_counted_1 (by rw [c6]; decide) (by rw [c6]; decide) (by rw [c6]; rfl) (by decide) ?_
          refine lv_aload_n C.1 C.2.1 dX9_counted_78 rfl (lv_at hl 0 rfl) ?_
          obtain ⟨r7, hr7, hf⟩ := ob hf
          refine kci (kV (As := []) (rest := []) C hl.1 hP hS (c_X9_restMany w l C.2.2.2.2.2.2.2.2 (L := L) hr7) (gV q1140 q1142 qp51 q10 q1143) hd_X9_restMany (lt_Model h0_Model) (ob_Model h0_Model w L _) rfl ⟨rfl, rfl⟩ ⟨Nat.le_of_ble_eq_true rfl, Nat.le_of_ble_eq_true rfl⟩ rfl rfl (Nat.le_of_ble_eq_true rfl) dX9_counted_79 ⟨Nat.zero_le _, Nat.zero_le _⟩) hS (fun H locs hP hS => ?_)
          cases hf
          exact kri C hP hS dX9_counted_82
        · have hf := (if_neg c6).symm.trans hf
          by_cases c8 : a1 = 4
          · have hf := (if_pos c8).symm.trans hf
            refine lv_tableIn (off := 82) (tgt := 83) C.1 C.2.1 dX9_counted_1 (by rw [c8]; decide) (by rw [c8]; decide) (by rw [c8]; rfl) (by decide) ?_
            refine lv_aload_n C.1 C.2.1 dX9_counted_83 rfl (lv_at hl 0 rfl) ?_
            refine lv_iconst (v := 0) C.1 C.2.1 dX9_counted_84 (by decide) ?_
            refine lv_iconst (v := 0) C.1 C.2.1 dX9_counted_85 (by decide) ?_
            obtain ⟨r9, hr9, hf⟩ := ob hf
            refine kci (kV (As := [.int 0, .int 0]) (rest := []) C hl.1 hP hS (c_X9_minutesBy w l C.2.2.2.2.2.2.2.2 (L := L) hr9) (gV q1136 q1138 qp50 q10 q1139) hd_X9_minutesBy (lt_Model h0_Model) (ob_Model h0_Model w L _) rfl ⟨rfl, rfl⟩ ⟨Nat.le_of_ble_eq_true rfl, Nat.le_of_ble_eq_true rfl⟩ rfl rfl (Nat.le_of_ble_eq_true rfl) dX9_counted_86 ⟨Nat.zero_le _, Nat.zero_le _⟩) hS (fun H locs hP hS => ?_)
            cases hf
            exact kri C hP hS dX9_counted_89
          · have hf := (if_neg c8).symm.trans hf
            by_cases c10 : a1 = 5
            · have hf := (if_pos c10).symm.trans hf
              refine lv_tableIn (off := 89) (tgt := 90) C.1 C.2.1 dX9_counted_1 (by rw [c10]; decide) (by rw [c10]; decide) (by rw [c10]; rfl) (by decide) ?_
              refine lv_aload_n C.1 C.2.1 dX9_counted_90 rfl (lv_at hl 0 rfl) ?_
              refine k_get (v := .int (M 90 13)) C hP (lt_Model h0_Model) (ob_Model h0_Model w L _) rfl iX9 13 (by decide) q876 rfl dX9_counted_91 ?_
              cases hf
              exact kri C hP hS dX9_counted_94
            · have hf := (if_neg c10).symm.trans hf
              by_cases c11 : a1 = 6
              · have hf := (if_pos c11).symm.trans hf
                refine lv_tableIn (off := 94) (tgt := 95) C.1 C.2.1 dX9_counted_1 (by rw [c11]; decide) (by rw [c11]; decide) (by rw [c11]; rfl) (by decide) ?_
                refine lv_aload_n C.1 C.2.1 dX9_counted_95 rfl (lv_at hl 0 rfl) ?_
                refine k_get (v := .ref (wAd w 91)) C hP (lt_Model h0_Model) (ob_Model h0_Model w L _) rfl iX9 1 (by decide) q864 rfl dX9_counted_96 ?_
                refine lv_sipush (v := 411) C.1 C.2.1 dX9_counted_99 (by decide) ?_
                obtain ⟨x12, hx12, hf⟩ := ob hf
                refine k_iald C hP (la_Model_z h0_Model) (ar_Model_z h0_Model w L _) hx12 dX9_counted_102 ?_
                cases hf
                exact kri C hP hS dX9_counted_103
              · have hf := (if_neg c11).symm.trans hf
                by_cases c13 : a1 = 7
                · have hf := (if_pos c13).symm.trans hf
                  refine lv_tableIn (off := 103) (tgt := 104) C.1 C.2.1 dX9_counted_1 (by rw [c13]; decide) (by rw [c13]; decide) (by rw [c13]; rfl) (by decide) ?_
                  refine lv_aload_n C.1 C.2.1 dX9_counted_104 rfl (lv_at hl 0 rfl) ?_
                  obtain ⟨r14, hr14, hf⟩ := ob hf
                  refine kci (kV (As := []) (rest := []) C hl.1 hP hS (c_X9_matchedMany w l C.2.2.2.2.2.2.2.2 (L := L) hr14) (gV q1144 q1146 qp52 q10 q1147) hd_X9_matchedMany (lt_Model h0_Model) (ob_Model h0_Model w L _) rfl ⟨rfl, rfl⟩ ⟨Nat.le_of_ble_eq_true rfl, Nat.le_of_ble_eq_true rfl⟩ rfl rfl (Nat.le_of_ble_eq_true rfl) dX9_counted_105 ⟨Nat.zero_le _, Nat.zero_le _⟩) hS (fun H locs hP hS => ?_)
                  cases hf
                  exact kri C hP hS dX9_counted_108
                · have hf := (if_neg c13).symm.trans hf
                  by_cases c15 : a1 = 8
                  · have hf := (if_pos c15).symm.trans hf
                    refine lv_tableIn (off := 108) (tgt := 109) C.1 C.2.1 dX9_counted_1 (by rw [c15]; decide) (by rw [c15]; decide) (by rw [c15]; rfl) (by decide) ?_
                    refine lv_aload_n C.1 C.2.1 dX9_counted_109 rfl (lv_at hl 0 rfl) ?_
                    obtain ⟨r16, hr16, hf⟩ := ob hf
                    refine kci (kV (As := []) (rest := []) C hl.1 hP hS (c_X9_weights w l C.2.2.2.2.2.2.2.2 (L := L) hr16) (gV q1148 q1150 qp53 q10 q1151) hd_X9_weights (lt_Model h0_Model) (ob_Model h0_Model w L _) rfl ⟨rfl, rfl⟩ ⟨Nat.le_of_ble_eq_true rfl, Nat.le_of_ble_eq_true rfl⟩ rfl rfl (Nat.le_of_ble_eq_true rfl) dX9_counted_110 ⟨Nat.zero_le _, Nat.zero_le _⟩) hS (fun H locs hP hS => ?_)
                    cases hf
                    exact kri C hP hS dX9_counted_113
                  · have hf := (if_neg c15).symm.trans hf
                    by_cases c17 : a1 = 9
                    · have hf := (if_pos c17).symm.trans hf
                      refine lv_tableIn (off := 113) (tgt := 114) C.1 C.2.1 dX9_counted_1 (by rw [c17]; decide) (by rw [c17]; decide) (by rw [c17]; rfl) (by decide) ?_
                      refine lv_aload_n C.1 C.2.1 dX9_counted_114 rfl (lv_at hl 0 rfl) ?_
                      obtain ⟨r18, hr18, hf⟩ := ob hf
                      refine kci (kV (As := []) (rest := []) C hl.1 hP hS (c_X9_heaviest w l C.2.2.2.2.2.2.2.2 (L := L) hr18) (gV q1152 q1154 qp54 q10 q1155) hd_X9_heaviest (lt_Model h0_Model) (ob_Model h0_Model w L _) rfl ⟨rfl, rfl⟩ ⟨Nat.le_of_ble_eq_true rfl, Nat.le_of_ble_eq_true rfl⟩ rfl rfl (Nat.le_of_ble_eq_true rfl) dX9_counted_115 ⟨Nat.zero_le _, Nat.zero_le _⟩) hS (fun H locs hP hS => ?_)
                      cases hf
                      exact kri C hP hS dX9_counted_118
                    · have hf := (if_neg c17).symm.trans hf
                      by_cases c19 : a1 = 10
                      · have hf := (if_pos c19).symm.trans hf
                        refine lv_tableIn (off := 118) (tgt := 119) C.1 C.2.1 dX9_counted_1 (by rw [c19]; decide) (by rw [c19]; decide) (by rw [c19]; rfl) (by decide) ?_
                        refine lv_aload_n C.1 C.2.1 dX9_counted_119 rfl (lv_at hl 0 rfl) ?_
                        refine k_get (v := .int (M 90 2)) C hP (lt_Model h0_Model) (ob_Model h0_Model w L _) rfl iX9 2 (by decide) q865 rfl dX9_counted_120 ?_
                        cases hf
                        exact kri C hP hS dX9_counted_123
                      · have hf := (if_neg c19).symm.trans hf
                        refine lv_tableOut (tgt := 124) C.1 C.2.1 dX9_counted_1 (by have e0 := ne_ti (n := 0) c1 (by decide); have e1 := ne_ti (n := 1) c2 (by decide); have e2 := ne_ti (n := 2) c4 (by decide); have e3 := ne_ti (n := 3) c6 (by decide); have e4 := ne_ti (n := 4) c8 (by decide); have e5 := ne_ti (n := 5) c10 (by decide); have e6 := ne_ti (n := 6) c11 (by decide); have e7 := ne_ti (n := 7) c13 (by decide); have e8 := ne_ti (n := 8) c15 (by decide); have e9 := ne_ti (n := 9) c17 (by decide); have e10 := ne_ti (n := 10) c19 (by decide); omega) (by decide) ?_
                        refine lv_aload_n C.1 C.2.1 dX9_counted_124 rfl (lv_at hl 0 rfl) ?_
                        refine k_get (v := .int (M 90 19)) C hP (lt_Model h0_Model) (ob_Model h0_Model w L _) rfl iX9 19 (by decide) q882 rfl dX9_counted_125 ?_
                        refine lv_if_eq (tgt := 135) C.1 C.2.1 dX9_counted_128 (by decide) (fun c20 => ?_) (fun c20 => ?_)
                        · have hf := (if_pos c20).symm.trans hf
                          refine lv_iconst (v := 0) C.1 C.2.1 dX9_counted_135 (by decide) ?_
                          cases hf
                          exact kri C hP hS dX9_counted_136
                        · have hf := (if_neg c20).symm.trans hf
                          refine lv_iconst (v := 1) C.1 C.2.1 dX9_counted_131 (by decide) ?_
                          refine lv_goto (tgt := 136) C.1 C.2.1 dX9_counted_132 (by decide) ?_
                          cases hf
                          exact kri C hP hS dX9_counted_136
theorem dX9_count_0 : decode cX9_count 0 = .ok (.aload_n 0, 1) := by decide +kernel
theorem dX9_count_1 : decode cX9_count 1 = .ok (.iload_n 1, 1) := by decide +kernel
theorem dX9_count_2 : decode cX9_count 2 = .ok (.iconst 0, 1) := by decide +kernel
theorem dX9_count_3 : decode cX9_count 3 = .ok (.bipush 11, 2) := by decide +kernel
theorem dX9_count_5 : decode cX9_count 5 = .ok (.invokestatic 65, 3) := by decide +kernel
theorem dX9_count_8 : decode cX9_count 8 = .ok (.ifCond .eq 7, 3) := by decide +kernel
theorem dX9_count_11 : decode cX9_count 11 = .ok (.iconst 0, 1) := by decide +kernel
theorem dX9_count_12 : decode cX9_count 12 = .ok (.goto 4, 3) := by decide +kernel
theorem dX9_count_15 : decode cX9_count 15 = .ok (.iconst 1, 1) := by decide +kernel
theorem dX9_count_16 : decode cX9_count 16 = .ok (.putfield 61, 3) := by decide +kernel
theorem dX9_count_19 : decode cX9_count 19 = .ok (.aload_n 0, 1) := by decide +kernel
theorem dX9_count_20 : decode cX9_count 20 = .ok (.getfield 61, 3) := by decide +kernel
theorem dX9_count_23 : decode cX9_count 23 = .ok (.ifCond .le 5, 3) := by decide +kernel
theorem dX9_count_26 : decode cX9_count 26 = .ok (.iconst 0, 1) := by decide +kernel
theorem dX9_count_27 : decode cX9_count 27 = .ok (.ireturn, 1) := by decide +kernel
theorem dX9_count_28 : decode cX9_count 28 = .ok (.aload_n 0, 1) := by decide +kernel
theorem dX9_count_29 : decode cX9_count 29 = .ok (.invokevirtual 138, 3) := by decide +kernel
theorem dX9_count_32 : decode cX9_count 32 = .ok (.aload_n 0, 1) := by decide +kernel
theorem dX9_count_33 : decode cX9_count 33 = .ok (.iload_n 1, 1) := by decide +kernel
theorem dX9_count_34 : decode cX9_count 34 = .ok (.invokevirtual 205, 3) := by decide +kernel
theorem dX9_count_37 : decode cX9_count 37 = .ok (.ireturn, 1) := by decide +kernel
set_option maxHeartbeats 4000000 in
set_option maxRecDepth 100000 in
theorem w_X9_count_j16 {w : WT} {l : Launch} {p : Program} {e : Env} {s : State} {m : MethodId} {args : Array Value} {below : List Frame} {meth : Method} {c : Code} (C : KC w p s m args meth c cX9_count 2 RX9 (some .int)) {v1 : Int32} {s1 : Int32} {M : Mem} {L : Lng} {out : Int32 × Mem} (hf : f_X9_count_j16 v1 s1 M = some out) : AtL w p l e ({ frames := 7, cells := 0, slots := 0, locals := 151 } : Room) s m args below meth c (MQ below (QI w out.1 out.2 L) args s 0 0 (wA w)) 2 16 M L [(0, .ref (wAd w 90)), (1, .int v1)] [.int s1, .ref (wAd w 90)] := by
  intro H locs ls hP hS hl
  unfold f_X9_count_j16 at hf
  obtain ⟨M3, hM3, hf⟩ := ob hf
  refine k_puti C hP hS (lt_Model h0_Model) (fun row => ob_Model h0_Model w L row) rfl iX9 tyX9 tyX9_ok nmX9 0 (by decide) q863 rfl rfl (Nat.le_of_ble_eq_true rfl) rfl hM3 dX9_count_16 (fun H locs hP hS => ?_)
  refine lv_aload_n C.1 C.2.1 dX9_count_19 rfl (lv_at hl 0 rfl) ?_
  refine k_get (v := .int (M3 90 0)) C hP (lt_Model h0_Model) (ob_Model h0_Model w L _) rfl iX9 0 (by decide) q863 rfl dX9_count_20 ?_
  refine lv_if_le (tgt := 28) C.1 C.2.1 dX9_count_23 (by decide) (fun c4 => ?_) (fun c4 => ?_)
  · have hf := (if_pos c4).symm.trans hf
    refine lv_aload_n C.1 C.2.1 dX9_count_28 rfl (lv_at hl 0 rfl) ?_
    obtain ⟨r5, hr5, hf⟩ := ob hf
    refine kcv (kV (As := []) (rest := []) C hl.1 hP hS (c_X9_layAll w l C.2.2.2.2.2.2.2.2 (L := L) hr5) (gV q1040 q1042 qp36 q10 q1043) hd_X9_layAll (lt_Model h0_Model) (ob_Model h0_Model w L _) rfl ⟨rfl, rfl⟩ ⟨Nat.le_of_ble_eq_true rfl, Nat.le_of_ble_eq_true rfl⟩ rfl rfl (Nat.le_of_ble_eq_true rfl) dX9_count_29 ⟨Nat.zero_le _, Nat.zero_le _⟩) hS (fun H locs hP hS => ?_)
    refine lv_aload_n C.1 C.2.1 dX9_count_32 rfl (lv_at hl 0 rfl) ?_
    refine lv_iload_n C.1 C.2.1 dX9_count_33 rfl (lv_at hl 1 rfl) ?_
    obtain ⟨r6, hr6, hf⟩ := ob hf
    refine kci (kV (As := [.int v1]) (rest := []) C hl.1 hP hS (c_X9_counted w l C.2.2.2.2.2.2.2.2 (L := L) hr6) (gV q1132 q1134 qp49 q10 q1135) hd_X9_counted (lt_Model h0_Model) (ob_Model h0_Model w L _) rfl ⟨rfl, rfl⟩ ⟨Nat.le_of_ble_eq_true rfl, Nat.le_of_ble_eq_true rfl⟩ rfl rfl (Nat.le_of_ble_eq_true rfl) dX9_count_34 ⟨Nat.zero_le _, Nat.zero_le _⟩) hS (fun H locs hP hS => ?_)
    cases hf
    exact kri C hP hS dX9_count_37
  · have hf := (if_neg c4).symm.trans hf
    refine lv_iconst (v := 0) C.1 C.2.1 dX9_count_26 (by decide) ?_
    cases hf
    exact kri C hP hS dX9_count_27
set_option maxHeartbeats 4000000 in
set_option maxRecDepth 100000 in
theorem c_X9_count (w : WT) (l : Launch) (hw : WOK w) {a1 : Int32} {M : Mem} {L : Lng} {out : Int32 × Mem} (hf : f_X9_count a1 M = some out) : Met l yX9_count (Cond.code yX9_count cX9_count 2 (some .int) :: BG) ({ frames := 7, cells := 0, slots := 0, locals := 151 } : Room) (PRE w [.ref (wAd w 90), .int a1] M L) (QI w out.1 out.2 L) 0 0 (wA w) := by
  refine kEnt hw (by decide +kernel) rfl (Nat.le_of_ble_eq_true rfl) ?_
  intro p e s m args below meth c C ls hl hP
  have hS : va_S (wA w) s.heap s.heap [] := va_S.rf
  have hl : lv_has ls 2 [(0, .ref (wAd w 90)), (1, .int a1)] := hl
  unfold f_X9_count at hf
  refine lv_aload_n C.1 C.2.1 dX9_count_0 rfl (lv_at hl 0 rfl) ?_
  refine lv_iload_n C.1 C.2.1 dX9_count_1 rfl (lv_at hl 1 rfl) ?_
  refine lv_iconst (v := 0) C.1 C.2.1 dX9_count_2 (by decide) ?_
  refine lv_bipush (v := 11) C.1 C.2.1 dX9_count_3 (by decide) ?_
  obtain ⟨r1, hr1, hf⟩ := ob hf
  refine kci (kS (As := [.int a1, .int 0, .int 11]) (rest := [.ref (wAd w 90)]) C hl.1 hP hS (c_X9_within w l C.2.2.2.2.2.2.2.2 (L := L) hr1) (gS q963 q964 q10 q965) hd_X9_within ⟨rfl, rfl⟩ ⟨Nat.le_of_ble_eq_true rfl, Nat.le_of_ble_eq_true rfl⟩ rfl rfl (Nat.le_of_ble_eq_true rfl) dX9_count_5 ⟨Nat.zero_le _, Nat.zero_le _⟩) hS (fun H locs hP hS => ?_)
  refine lv_if_eq (tgt := 15) C.1 C.2.1 dX9_count_8 (by decide) (fun c2 => ?_) (fun c2 => ?_)
  · have hf := (if_pos c2).symm.trans hf
    refine lv_iconst (v := 1) C.1 C.2.1 dX9_count_15 (by decide) ?_
    exact w_X9_count_j16 C hf _ _ _ hP hS hl
  · have hf := (if_neg c2).symm.trans hf
    refine lv_iconst (v := 0) C.1 C.2.1 dX9_count_11 (by decide) ?_
    refine lv_goto (tgt := 16) C.1 C.2.1 dX9_count_12 (by decide) ?_
    exact w_X9_count_j16 C hf _ _ _ hP hS hl
theorem dX9_setting_0 : decode cX9_setting 0 = .ok (.aload_n 0, 1) := by decide +kernel
theorem dX9_setting_1 : decode cX9_setting 1 = .ok (.iload_n 1, 1) := by decide +kernel
theorem dX9_setting_2 : decode cX9_setting 2 = .ok (.invokestatic 115, 3) := by decide +kernel
theorem dX9_setting_5 : decode cX9_setting 5 = .ok (.ifCond .eq 7, 3) := by decide +kernel
theorem dX9_setting_8 : decode cX9_setting 8 = .ok (.iconst 0, 1) := by decide +kernel
theorem dX9_setting_9 : decode cX9_setting 9 = .ok (.goto 4, 3) := by decide +kernel
theorem dX9_setting_12 : decode cX9_setting 12 = .ok (.iconst 1, 1) := by decide +kernel
theorem dX9_setting_13 : decode cX9_setting 13 = .ok (.putfield 61, 3) := by decide +kernel
theorem dX9_setting_16 : decode cX9_setting 16 = .ok (.aload_n 0, 1) := by decide +kernel
theorem dX9_setting_17 : decode cX9_setting 17 = .ok (.getfield 61, 3) := by decide +kernel
theorem dX9_setting_20 : decode cX9_setting 20 = .ok (.ifCond .le 7, 3) := by decide +kernel
theorem dX9_setting_23 : decode cX9_setting 23 = .ok (.iconst 0, 1) := by decide +kernel
theorem dX9_setting_24 : decode cX9_setting 24 = .ok (.goto 8, 3) := by decide +kernel
theorem dX9_setting_27 : decode cX9_setting 27 = .ok (.aload_n 0, 1) := by decide +kernel
theorem dX9_setting_28 : decode cX9_setting 28 = .ok (.iload_n 1, 1) := by decide +kernel
theorem dX9_setting_29 : decode cX9_setting 29 = .ok (.invokevirtual 69, 3) := by decide +kernel
theorem dX9_setting_32 : decode cX9_setting 32 = .ok (.ireturn, 1) := by decide +kernel
set_option maxHeartbeats 4000000 in
set_option maxRecDepth 100000 in
theorem w_X9_setting_j13 {w : WT} {l : Launch} {p : Program} {e : Env} {s : State} {m : MethodId} {args : Array Value} {below : List Frame} {meth : Method} {c : Code} (C : KC w p s m args meth c cX9_setting 2 RX9 (some .int)) {v1 : Int32} {s1 : Int32} {M : Mem} {L : Lng} {out : Int32 × Mem} (hf : f_X9_setting_j13 v1 s1 M = some out) : AtL w p l e ({ frames := 2, cells := 0, slots := 0, locals := 42 } : Room) s m args below meth c (MQ below (QI w out.1 out.2 L) args s 0 0 (wA w)) 2 13 M L [(0, .ref (wAd w 90)), (1, .int v1)] [.int s1, .ref (wAd w 90)] := by
  intro H locs ls hP hS hl
  unfold f_X9_setting_j13 at hf
  obtain ⟨M3, hM3, hf⟩ := ob hf
  refine k_puti C hP hS (lt_Model h0_Model) (fun row => ob_Model h0_Model w L row) rfl iX9 tyX9 tyX9_ok nmX9 0 (by decide) q863 rfl rfl (Nat.le_of_ble_eq_true rfl) rfl hM3 dX9_setting_13 (fun H locs hP hS => ?_)
  refine lv_aload_n C.1 C.2.1 dX9_setting_16 rfl (lv_at hl 0 rfl) ?_
  refine k_get (v := .int (M3 90 0)) C hP (lt_Model h0_Model) (ob_Model h0_Model w L _) rfl iX9 0 (by decide) q863 rfl dX9_setting_17 ?_
  refine lv_if_le (tgt := 27) C.1 C.2.1 dX9_setting_20 (by decide) (fun c4 => ?_) (fun c4 => ?_)
  · have hf := (if_pos c4).symm.trans hf
    refine lv_aload_n C.1 C.2.1 dX9_setting_27 rfl (lv_at hl 0 rfl) ?_
    refine lv_iload_n C.1 C.2.1 dX9_setting_28 rfl (lv_at hl 1 rfl) ?_
    obtain ⟨r5, hr5, hf⟩ := ob hf
    refine kci (kV (As := [.int v1]) (rest := []) C hl.1 hP hS (c_X9_of w l C.2.2.2.2.2.2.2.2 (L := L) hr5) (gV q973 q975 qp25 q10 q976) hd_X9_of (lt_Model h0_Model) (ob_Model h0_Model w L _) rfl ⟨rfl, rfl⟩ ⟨Nat.le_of_ble_eq_true rfl, Nat.le_of_ble_eq_true rfl⟩ rfl rfl (Nat.le_of_ble_eq_true rfl) dX9_setting_29 ⟨Nat.zero_le _, Nat.zero_le _⟩) hS (fun H locs hP hS => ?_)
    cases hf
    exact kri C hP hS dX9_setting_32
  · have hf := (if_neg c4).symm.trans hf
    refine lv_iconst (v := 0) C.1 C.2.1 dX9_setting_23 (by decide) ?_
    refine lv_goto (tgt := 32) C.1 C.2.1 dX9_setting_24 (by decide) ?_
    cases hf
    exact kri C hP hS dX9_setting_32
set_option maxHeartbeats 4000000 in
set_option maxRecDepth 100000 in
theorem c_X9_setting (w : WT) (l : Launch) (hw : WOK w) {a1 : Int32} {M : Mem} {L : Lng} {out : Int32 × Mem} (hf : f_X9_setting a1 M = some out) : Met l yX9_setting (Cond.code yX9_setting cX9_setting 2 (some .int) :: BG) ({ frames := 2, cells := 0, slots := 0, locals := 42 } : Room) (PRE w [.ref (wAd w 90), .int a1] M L) (QI w out.1 out.2 L) 0 0 (wA w) := by
  refine kEnt hw (by decide +kernel) rfl (Nat.le_of_ble_eq_true rfl) ?_
  intro p e s m args below meth c C ls hl hP
  have hS : va_S (wA w) s.heap s.heap [] := va_S.rf
  have hl : lv_has ls 2 [(0, .ref (wAd w 90)), (1, .int a1)] := hl
  unfold f_X9_setting at hf
  refine lv_aload_n C.1 C.2.1 dX9_setting_0 rfl (lv_at hl 0 rfl) ?_
  refine lv_iload_n C.1 C.2.1 dX9_setting_1 rfl (lv_at hl 1 rfl) ?_
  obtain ⟨r1, hr1, hf⟩ := ob hf
  refine kci (kS (As := [.int a1]) (rest := [.ref (wAd w 90)]) C hl.1 hP hS (c_X9_isSetting w l C.2.2.2.2.2.2.2.2 (L := L) hr1) (gS q960 q961 q10 q962) hd_X9_isSetting ⟨rfl, rfl⟩ ⟨Nat.le_of_ble_eq_true rfl, Nat.le_of_ble_eq_true rfl⟩ rfl rfl (Nat.le_of_ble_eq_true rfl) dX9_setting_2 ⟨Nat.zero_le _, Nat.zero_le _⟩) hS (fun H locs hP hS => ?_)
  refine lv_if_eq (tgt := 12) C.1 C.2.1 dX9_setting_5 (by decide) (fun c2 => ?_) (fun c2 => ?_)
  · have hf := (if_pos c2).symm.trans hf
    refine lv_iconst (v := 1) C.1 C.2.1 dX9_setting_12 (by decide) ?_
    exact w_X9_setting_j13 C hf _ _ _ hP hS hl
  · have hf := (if_neg c2).symm.trans hf
    refine lv_iconst (v := 0) C.1 C.2.1 dX9_setting_8 (by decide) ?_
    refine lv_goto (tgt := 13) C.1 C.2.1 dX9_setting_9 (by decide) ?_
    exact w_X9_setting_j13 C hf _ _ _ hP hS hl
theorem dX9_withSetting_0 : decode cX9_withSetting 0 = .ok (.aload_n 0, 1) := by decide +kernel
theorem dX9_withSetting_1 : decode cX9_withSetting 1 = .ok (.iload_n 1, 1) := by decide +kernel
theorem dX9_withSetting_2 : decode cX9_withSetting 2 = .ok (.invokevirtual 69, 3) := by decide +kernel
theorem dX9_withSetting_5 : decode cX9_withSetting 5 = .ok (.istore 4, 2) := by decide +kernel
theorem dX9_withSetting_7 : decode cX9_withSetting 7 = .ok (.aload_n 0, 1) := by decide +kernel
theorem dX9_withSetting_8 : decode cX9_withSetting 8 = .ok (.getfield 7, 3) := by decide +kernel
theorem dX9_withSetting_11 : decode cX9_withSetting 11 = .ok (.sipush 401, 3) := by decide +kernel
theorem dX9_withSetting_14 : decode cX9_withSetting 14 = .ok (.iload_n 1, 1) := by decide +kernel
theorem dX9_withSetting_15 : decode cX9_withSetting 15 = .ok (.iadd, 1) := by decide +kernel
theorem dX9_withSetting_16 : decode cX9_withSetting 16 = .ok (.iload_n 2, 1) := by decide +kernel
theorem dX9_withSetting_17 : decode cX9_withSetting 17 = .ok (.iastore, 1) := by decide +kernel
theorem dX9_withSetting_18 : decode cX9_withSetting 18 = .ok (.aload_n 0, 1) := by decide +kernel
theorem dX9_withSetting_19 : decode cX9_withSetting 19 = .ok (.invokevirtual 138, 3) := by decide +kernel
theorem dX9_withSetting_22 : decode cX9_withSetting 22 = .ok (.aload_n 0, 1) := by decide +kernel
theorem dX9_withSetting_23 : decode cX9_withSetting 23 = .ok (.iload_n 3, 1) := by decide +kernel
theorem dX9_withSetting_24 : decode cX9_withSetting 24 = .ok (.invokevirtual 205, 3) := by decide +kernel
theorem dX9_withSetting_27 : decode cX9_withSetting 27 = .ok (.istore 5, 2) := by decide +kernel
theorem dX9_withSetting_29 : decode cX9_withSetting 29 = .ok (.aload_n 0, 1) := by decide +kernel
theorem dX9_withSetting_30 : decode cX9_withSetting 30 = .ok (.getfield 7, 3) := by decide +kernel
theorem dX9_withSetting_33 : decode cX9_withSetting 33 = .ok (.sipush 401, 3) := by decide +kernel
theorem dX9_withSetting_36 : decode cX9_withSetting 36 = .ok (.iload_n 1, 1) := by decide +kernel
theorem dX9_withSetting_37 : decode cX9_withSetting 37 = .ok (.iadd, 1) := by decide +kernel
theorem dX9_withSetting_38 : decode cX9_withSetting 38 = .ok (.iload 4, 2) := by decide +kernel
theorem dX9_withSetting_40 : decode cX9_withSetting 40 = .ok (.iastore, 1) := by decide +kernel
theorem dX9_withSetting_41 : decode cX9_withSetting 41 = .ok (.iload 5, 2) := by decide +kernel
theorem dX9_withSetting_43 : decode cX9_withSetting 43 = .ok (.ireturn, 1) := by decide +kernel
set_option maxHeartbeats 4000000 in
set_option maxRecDepth 100000 in
theorem c_X9_withSetting (w : WT) (l : Launch) (hw : WOK w) {a1 : Int32} {a2 : Int32} {a3 : Int32} {M : Mem} {L : Lng} {out : Int32 × Mem} (hf : f_X9_withSetting a1 a2 a3 M = some out) : Met l yX9_withSetting (Cond.code yX9_withSetting cX9_withSetting 6 (some .int) :: BG) ({ frames := 7, cells := 0, slots := 0, locals := 151 } : Room) (PRE w [.ref (wAd w 90), .int a1, .int a2, .int a3] M L) (QI w out.1 out.2 L) 0 0 (wA w) := by
  refine kEnt hw (by decide +kernel) rfl (Nat.le_of_ble_eq_true rfl) ?_
  intro p e s m args below meth c C ls hl hP
  have hS : va_S (wA w) s.heap s.heap [] := va_S.rf
  have hl : lv_has ls 6 [(0, .ref (wAd w 90)), (1, .int a1), (2, .int a2), (3, .int a3)] := hl
  unfold f_X9_withSetting at hf
  refine lv_aload_n C.1 C.2.1 dX9_withSetting_0 rfl (lv_at hl 0 rfl) ?_
  refine lv_iload_n C.1 C.2.1 dX9_withSetting_1 rfl (lv_at hl 1 rfl) ?_
  obtain ⟨r1, hr1, hf⟩ := ob hf
  refine kci (kV (As := [.int a1]) (rest := []) C hl.1 hP hS (c_X9_of w l C.2.2.2.2.2.2.2.2 (L := L) hr1) (gV q973 q975 qp25 q10 q976) hd_X9_of (lt_Model h0_Model) (ob_Model h0_Model w L _) rfl ⟨rfl, rfl⟩ ⟨Nat.le_of_ble_eq_true rfl, Nat.le_of_ble_eq_true rfl⟩ rfl rfl (Nat.le_of_ble_eq_true rfl) dX9_withSetting_2 ⟨Nat.zero_le _, Nat.zero_le _⟩) hS (fun H locs hP hS => ?_)
  refine lv_istore (lv' := [(4, .int r1), (0, .ref (wAd w 90)), (1, .int a1), (2, .int a2), (3, .int a3)]) C.1 C.2.1 dX9_withSetting_5 hl (by decide) rfl (fun ls hl => ?_)
  refine lv_aload_n C.1 C.2.1 dX9_withSetting_7 rfl (lv_at hl 1 rfl) ?_
  refine k_get (v := .ref (wAd w 91)) C hP (lt_Model h0_Model) (ob_Model h0_Model w L _) rfl iX9 1 (by decide) q864 rfl dX9_withSetting_8 ?_
  refine lv_sipush (v := 401) C.1 C.2.1 dX9_withSetting_11 (by decide) ?_
  refine lv_iload_n C.1 C.2.1 dX9_withSetting_14 rfl (lv_at hl 2 rfl) ?_
  refine lv_iadd C.1 C.2.1 dX9_withSetting_15 ?_
  refine lv_iload_n C.1 C.2.1 dX9_withSetting_16 rfl (lv_at hl 3 rfl) ?_
  obtain ⟨M2, hM2, hf⟩ := ob hf
  refine k_iast C hP hS (la_Model_z h0_Model) (ar_Model_z h0_Model w L) hM2 dX9_withSetting_17 (fun H locs hP hS => ?_)
  refine lv_aload_n C.1 C.2.1 dX9_withSetting_18 rfl (lv_at hl 1 rfl) ?_
  obtain ⟨r3, hr3, hf⟩ := ob hf
  refine kcv (kV (As := []) (rest := []) C hl.1 hP hS (c_X9_layAll w l C.2.2.2.2.2.2.2.2 (L := L) hr3) (gV q1040 q1042 qp36 q10 q1043) hd_X9_layAll (lt_Model h0_Model) (ob_Model h0_Model w L _) rfl ⟨rfl, rfl⟩ ⟨Nat.le_of_ble_eq_true rfl, Nat.le_of_ble_eq_true rfl⟩ rfl rfl (Nat.le_of_ble_eq_true rfl) dX9_withSetting_19 ⟨Nat.zero_le _, Nat.zero_le _⟩) hS (fun H locs hP hS => ?_)
  refine lv_aload_n C.1 C.2.1 dX9_withSetting_22 rfl (lv_at hl 1 rfl) ?_
  refine lv_iload_n C.1 C.2.1 dX9_withSetting_23 rfl (lv_at hl 4 rfl) ?_
  obtain ⟨r4, hr4, hf⟩ := ob hf
  refine kci (kV (As := [.int a3]) (rest := []) C hl.1 hP hS (c_X9_counted w l C.2.2.2.2.2.2.2.2 (L := L) hr4) (gV q1132 q1134 qp49 q10 q1135) hd_X9_counted (lt_Model h0_Model) (ob_Model h0_Model w L _) rfl ⟨rfl, rfl⟩ ⟨Nat.le_of_ble_eq_true rfl, Nat.le_of_ble_eq_true rfl⟩ rfl rfl (Nat.le_of_ble_eq_true rfl) dX9_withSetting_24 ⟨Nat.zero_le _, Nat.zero_le _⟩) hS (fun H locs hP hS => ?_)
  refine lv_istore (lv' := [(5, .int r4), (4, .int r1), (0, .ref (wAd w 90)), (1, .int a1), (2, .int a2), (3, .int a3)]) C.1 C.2.1 dX9_withSetting_27 hl (by decide) rfl (fun ls hl => ?_)
  refine lv_aload_n C.1 C.2.1 dX9_withSetting_29 rfl (lv_at hl 2 rfl) ?_
  refine k_get (v := .ref (wAd w 91)) C hP (lt_Model h0_Model) (ob_Model h0_Model w L _) rfl iX9 1 (by decide) q864 rfl dX9_withSetting_30 ?_
  refine lv_sipush (v := 401) C.1 C.2.1 dX9_withSetting_33 (by decide) ?_
  refine lv_iload_n C.1 C.2.1 dX9_withSetting_36 rfl (lv_at hl 3 rfl) ?_
  refine lv_iadd C.1 C.2.1 dX9_withSetting_37 ?_
  refine lv_iload C.1 C.2.1 dX9_withSetting_38 (lv_at hl 1 rfl) ?_
  obtain ⟨M5, hM5, hf⟩ := ob hf
  refine k_iast C hP hS (la_Model_z h0_Model) (ar_Model_z h0_Model w L) hM5 dX9_withSetting_40 (fun H locs hP hS => ?_)
  refine lv_iload C.1 C.2.1 dX9_withSetting_41 (lv_at hl 0 rfl) ?_
  cases hf
  exact kri C hP hS dX9_withSetting_43
theorem dX9_ifSet_0 : decode cX9_ifSet 0 = .ok (.aload_n 0, 1) := by decide +kernel
theorem dX9_ifSet_1 : decode cX9_ifSet 1 = .ok (.iload_n 1, 1) := by decide +kernel
theorem dX9_ifSet_2 : decode cX9_ifSet 2 = .ok (.invokestatic 115, 3) := by decide +kernel
theorem dX9_ifSet_5 : decode cX9_ifSet 5 = .ok (.ifCond .ne 7, 3) := by decide +kernel
theorem dX9_ifSet_8 : decode cX9_ifSet 8 = .ok (.iconst 1, 1) := by decide +kernel
theorem dX9_ifSet_9 : decode cX9_ifSet 9 = .ok (.goto 26, 3) := by decide +kernel
theorem dX9_ifSet_12 : decode cX9_ifSet 12 = .ok (.iload_n 1, 1) := by decide +kernel
theorem dX9_ifSet_13 : decode cX9_ifSet 13 = .ok (.iload_n 2, 1) := by decide +kernel
theorem dX9_ifSet_14 : decode cX9_ifSet 14 = .ok (.invokestatic 118, 3) := by decide +kernel
theorem dX9_ifSet_17 : decode cX9_ifSet 17 = .ok (.ifCond .eq 17, 3) := by decide +kernel
theorem dX9_ifSet_20 : decode cX9_ifSet 20 = .ok (.iload_n 3, 1) := by decide +kernel
theorem dX9_ifSet_21 : decode cX9_ifSet 21 = .ok (.iconst 0, 1) := by decide +kernel
theorem dX9_ifSet_22 : decode cX9_ifSet 22 = .ok (.bipush 9, 2) := by decide +kernel
theorem dX9_ifSet_24 : decode cX9_ifSet 24 = .ok (.invokestatic 65, 3) := by decide +kernel
theorem dX9_ifSet_27 : decode cX9_ifSet 27 = .ok (.ifCond .eq 7, 3) := by decide +kernel
theorem dX9_ifSet_30 : decode cX9_ifSet 30 = .ok (.iconst 0, 1) := by decide +kernel
theorem dX9_ifSet_31 : decode cX9_ifSet 31 = .ok (.goto 4, 3) := by decide +kernel
theorem dX9_ifSet_34 : decode cX9_ifSet 34 = .ok (.iconst 2, 1) := by decide +kernel
theorem dX9_ifSet_35 : decode cX9_ifSet 35 = .ok (.putfield 61, 3) := by decide +kernel
theorem dX9_ifSet_38 : decode cX9_ifSet 38 = .ok (.aload_n 0, 1) := by decide +kernel
theorem dX9_ifSet_39 : decode cX9_ifSet 39 = .ok (.getfield 61, 3) := by decide +kernel
theorem dX9_ifSet_42 : decode cX9_ifSet 42 = .ok (.ifCond .le 7, 3) := by decide +kernel
theorem dX9_ifSet_45 : decode cX9_ifSet 45 = .ok (.iconst 0, 1) := by decide +kernel
theorem dX9_ifSet_46 : decode cX9_ifSet 46 = .ok (.goto 10, 3) := by decide +kernel
theorem dX9_ifSet_49 : decode cX9_ifSet 49 = .ok (.aload_n 0, 1) := by decide +kernel
theorem dX9_ifSet_50 : decode cX9_ifSet 50 = .ok (.iload_n 1, 1) := by decide +kernel
theorem dX9_ifSet_51 : decode cX9_ifSet 51 = .ok (.iload_n 2, 1) := by decide +kernel
theorem dX9_ifSet_52 : decode cX9_ifSet 52 = .ok (.iload_n 3, 1) := by decide +kernel
theorem dX9_ifSet_53 : decode cX9_ifSet 53 = .ok (.invokevirtual 208, 3) := by decide +kernel
theorem dX9_ifSet_56 : decode cX9_ifSet 56 = .ok (.ireturn, 1) := by decide +kernel
set_option maxHeartbeats 4000000 in
set_option maxRecDepth 100000 in
theorem w_X9_ifSet_j35 {w : WT} {l : Launch} {p : Program} {e : Env} {s : State} {m : MethodId} {args : Array Value} {below : List Frame} {meth : Method} {c : Code} (C : KC w p s m args meth c cX9_ifSet 4 RX9 (some .int)) {v1 : Int32} {v2 : Int32} {v3 : Int32} {s1 : Int32} {M : Mem} {L : Lng} {out : Int32 × Mem} (hf : f_X9_ifSet_j35 v1 v2 v3 s1 M = some out) : AtL w p l e ({ frames := 8, cells := 0, slots := 0, locals := 176 } : Room) s m args below meth c (MQ below (QI w out.1 out.2 L) args s 0 0 (wA w)) 4 35 M L [(0, .ref (wAd w 90)), (1, .int v1), (2, .int v2), (3, .int v3)] [.int s1, .ref (wAd w 90)] := by
  intro H locs ls hP hS hl
  unfold f_X9_ifSet_j35 at hf
  obtain ⟨M5, hM5, hf⟩ := ob hf
  refine k_puti C hP hS (lt_Model h0_Model) (fun row => ob_Model h0_Model w L row) rfl iX9 tyX9 tyX9_ok nmX9 0 (by decide) q863 rfl rfl (Nat.le_of_ble_eq_true rfl) rfl hM5 dX9_ifSet_35 (fun H locs hP hS => ?_)
  refine lv_aload_n C.1 C.2.1 dX9_ifSet_38 rfl (lv_at hl 0 rfl) ?_
  refine k_get (v := .int (M5 90 0)) C hP (lt_Model h0_Model) (ob_Model h0_Model w L _) rfl iX9 0 (by decide) q863 rfl dX9_ifSet_39 ?_
  refine lv_if_le (tgt := 49) C.1 C.2.1 dX9_ifSet_42 (by decide) (fun c6 => ?_) (fun c6 => ?_)
  · have hf := (if_pos c6).symm.trans hf
    refine lv_aload_n C.1 C.2.1 dX9_ifSet_49 rfl (lv_at hl 0 rfl) ?_
    refine lv_iload_n C.1 C.2.1 dX9_ifSet_50 rfl (lv_at hl 1 rfl) ?_
    refine lv_iload_n C.1 C.2.1 dX9_ifSet_51 rfl (lv_at hl 2 rfl) ?_
    refine lv_iload_n C.1 C.2.1 dX9_ifSet_52 rfl (lv_at hl 3 rfl) ?_
    obtain ⟨r7, hr7, hf⟩ := ob hf
    refine kci (kV (As := [.int v1, .int v2, .int v3]) (rest := []) C hl.1 hP hS (c_X9_withSetting w l C.2.2.2.2.2.2.2.2 (L := L) hr7) (gV q1164 q1166 qp55 q10 q1167) hd_X9_withSetting (lt_Model h0_Model) (ob_Model h0_Model w L _) rfl ⟨rfl, rfl⟩ ⟨Nat.le_of_ble_eq_true rfl, Nat.le_of_ble_eq_true rfl⟩ rfl rfl (Nat.le_of_ble_eq_true rfl) dX9_ifSet_53 ⟨Nat.zero_le _, Nat.zero_le _⟩) hS (fun H locs hP hS => ?_)
    cases hf
    exact kri C hP hS dX9_ifSet_56
  · have hf := (if_neg c6).symm.trans hf
    refine lv_iconst (v := 0) C.1 C.2.1 dX9_ifSet_45 (by decide) ?_
    refine lv_goto (tgt := 56) C.1 C.2.1 dX9_ifSet_46 (by decide) ?_
    cases hf
    exact kri C hP hS dX9_ifSet_56
set_option maxHeartbeats 4000000 in
set_option maxRecDepth 100000 in
theorem w_X9_ifSet_j34 {w : WT} {l : Launch} {p : Program} {e : Env} {s : State} {m : MethodId} {args : Array Value} {below : List Frame} {meth : Method} {c : Code} (C : KC w p s m args meth c cX9_ifSet 4 RX9 (some .int)) {v1 : Int32} {v2 : Int32} {v3 : Int32} {M : Mem} {L : Lng} {out : Int32 × Mem} (hf : f_X9_ifSet_j34 v1 v2 v3 M = some out) : AtL w p l e ({ frames := 8, cells := 0, slots := 0, locals := 176 } : Room) s m args below meth c (MQ below (QI w out.1 out.2 L) args s 0 0 (wA w)) 4 34 M L [(0, .ref (wAd w 90)), (1, .int v1), (2, .int v2), (3, .int v3)] [.ref (wAd w 90)] := by
  intro H locs ls hP hS hl
  unfold f_X9_ifSet_j34 at hf
  refine lv_iconst (v := 2) C.1 C.2.1 dX9_ifSet_34 (by decide) ?_
  exact w_X9_ifSet_j35 C hf _ _ _ hP hS hl
set_option maxHeartbeats 4000000 in
set_option maxRecDepth 100000 in
theorem c_X9_ifSet (w : WT) (l : Launch) (hw : WOK w) {a1 : Int32} {a2 : Int32} {a3 : Int32} {M : Mem} {L : Lng} {out : Int32 × Mem} (hf : f_X9_ifSet a1 a2 a3 M = some out) : Met l yX9_ifSet (Cond.code yX9_ifSet cX9_ifSet 4 (some .int) :: BG) ({ frames := 8, cells := 0, slots := 0, locals := 176 } : Room) (PRE w [.ref (wAd w 90), .int a1, .int a2, .int a3] M L) (QI w out.1 out.2 L) 0 0 (wA w) := by
  refine kEnt hw (by decide +kernel) rfl (Nat.le_of_ble_eq_true rfl) ?_
  intro p e s m args below meth c C ls hl hP
  have hS : va_S (wA w) s.heap s.heap [] := va_S.rf
  have hl : lv_has ls 4 [(0, .ref (wAd w 90)), (1, .int a1), (2, .int a2), (3, .int a3)] := hl
  unfold f_X9_ifSet at hf
  refine lv_aload_n C.1 C.2.1 dX9_ifSet_0 rfl (lv_at hl 0 rfl) ?_
  refine lv_iload_n C.1 C.2.1 dX9_ifSet_1 rfl (lv_at hl 1 rfl) ?_
  obtain ⟨r1, hr1, hf⟩ := ob hf
  refine kci (kS (As := [.int a1]) (rest := [.ref (wAd w 90)]) C hl.1 hP hS (c_X9_isSetting w l C.2.2.2.2.2.2.2.2 (L := L) hr1) (gS q960 q961 q10 q962) hd_X9_isSetting ⟨rfl, rfl⟩ ⟨Nat.le_of_ble_eq_true rfl, Nat.le_of_ble_eq_true rfl⟩ rfl rfl (Nat.le_of_ble_eq_true rfl) dX9_ifSet_2 ⟨Nat.zero_le _, Nat.zero_le _⟩) hS (fun H locs hP hS => ?_)
  refine lv_if_ne (tgt := 12) C.1 C.2.1 dX9_ifSet_5 (by decide) (fun c2 => ?_) (fun c2 => ?_)
  · have hf := (if_neg c2).symm.trans hf
    refine lv_iload_n C.1 C.2.1 dX9_ifSet_12 rfl (lv_at hl 1 rfl) ?_
    refine lv_iload_n C.1 C.2.1 dX9_ifSet_13 rfl (lv_at hl 2 rfl) ?_
    obtain ⟨r3, hr3, hf⟩ := ob hf
    refine kci (kS (As := [.int a1, .int a2]) (rest := [.ref (wAd w 90)]) C hl.1 hP hS (c_X9_isValue w l C.2.2.2.2.2.2.2.2 (L := L) hr3) (gS q966 q967 q10 q968) hd_X9_isValue ⟨rfl, rfl⟩ ⟨Nat.le_of_ble_eq_true rfl, Nat.le_of_ble_eq_true rfl⟩ rfl rfl (Nat.le_of_ble_eq_true rfl) dX9_ifSet_14 ⟨Nat.zero_le _, Nat.zero_le _⟩) hS (fun H locs hP hS => ?_)
    refine lv_if_eq (tgt := 34) C.1 C.2.1 dX9_ifSet_17 (by decide) (fun c4 => ?_) (fun c4 => ?_)
    · have hf := (if_pos c4).symm.trans hf
      exact w_X9_ifSet_j34 C hf _ _ _ hP hS hl
    · have hf := (if_neg c4).symm.trans hf
      refine lv_iload_n C.1 C.2.1 dX9_ifSet_20 rfl (lv_at hl 3 rfl) ?_
      refine lv_iconst (v := 0) C.1 C.2.1 dX9_ifSet_21 (by decide) ?_
      refine lv_bipush (v := 9) C.1 C.2.1 dX9_ifSet_22 (by decide) ?_
      obtain ⟨r8, hr8, hf⟩ := ob hf
      refine kci (kS (As := [.int a3, .int 0, .int 9]) (rest := [.ref (wAd w 90)]) C hl.1 hP hS (c_X9_within w l C.2.2.2.2.2.2.2.2 (L := L) hr8) (gS q963 q964 q10 q965) hd_X9_within ⟨rfl, rfl⟩ ⟨Nat.le_of_ble_eq_true rfl, Nat.le_of_ble_eq_true rfl⟩ rfl rfl (Nat.le_of_ble_eq_true rfl) dX9_ifSet_24 ⟨Nat.zero_le _, Nat.zero_le _⟩) hS (fun H locs hP hS => ?_)
      refine lv_if_eq (tgt := 34) C.1 C.2.1 dX9_ifSet_27 (by decide) (fun c9 => ?_) (fun c9 => ?_)
      · have hf := (if_pos c9).symm.trans hf
        exact w_X9_ifSet_j34 C hf _ _ _ hP hS hl
      · have hf := (if_neg c9).symm.trans hf
        refine lv_iconst (v := 0) C.1 C.2.1 dX9_ifSet_30 (by decide) ?_
        refine lv_goto (tgt := 35) C.1 C.2.1 dX9_ifSet_31 (by decide) ?_
        exact w_X9_ifSet_j35 C hf _ _ _ hP hS hl
  · have hf := (if_pos c2).symm.trans hf
    refine lv_iconst (v := 1) C.1 C.2.1 dX9_ifSet_8 (by decide) ?_
    refine lv_goto (tgt := 35) C.1 C.2.1 dX9_ifSet_9 (by decide) ?_
    exact w_X9_ifSet_j35 C hf _ _ _ hP hS hl
theorem dX9_leastNow_0 : decode cX9_leastNow 0 = .ok (.aload_n 0, 1) := by decide +kernel
theorem dX9_leastNow_1 : decode cX9_leastNow 1 = .ok (.iconst 0, 1) := by decide +kernel
theorem dX9_leastNow_2 : decode cX9_leastNow 2 = .ok (.invokevirtual 69, 3) := by decide +kernel
theorem dX9_leastNow_5 : decode cX9_leastNow 5 = .ok (.istore_n 2, 1) := by decide +kernel
theorem dX9_leastNow_6 : decode cX9_leastNow 6 = .ok (.iconst (-1), 1) := by decide +kernel
theorem dX9_leastNow_7 : decode cX9_leastNow 7 = .ok (.istore_n 3, 1) := by decide +kernel
theorem dX9_leastNow_8 : decode cX9_leastNow 8 = .ok (.iconst 0, 1) := by decide +kernel
theorem dX9_leastNow_9 : decode cX9_leastNow 9 = .ok (.istore 4, 2) := by decide +kernel
theorem dX9_leastNow_11 : decode cX9_leastNow 11 = .ok (.iload 4, 2) := by decide +kernel
theorem dX9_leastNow_13 : decode cX9_leastNow 13 = .ok (.sipush 140, 3) := by decide +kernel
theorem dX9_leastNow_16 : decode cX9_leastNow 16 = .ok (.if_icmp .gt 45, 3) := by decide +kernel
theorem dX9_leastNow_19 : decode cX9_leastNow 19 = .ok (.iload_n 3, 1) := by decide +kernel
theorem dX9_leastNow_20 : decode cX9_leastNow 20 = .ok (.iconst (-1), 1) := by decide +kernel
theorem dX9_leastNow_21 : decode cX9_leastNow 21 = .ok (.if_icmp .ne 40, 3) := by decide +kernel
theorem dX9_leastNow_24 : decode cX9_leastNow 24 = .ok (.aload_n 0, 1) := by decide +kernel
theorem dX9_leastNow_25 : decode cX9_leastNow 25 = .ok (.getfield 7, 3) := by decide +kernel
theorem dX9_leastNow_28 : decode cX9_leastNow 28 = .ok (.sipush 401, 3) := by decide +kernel
theorem dX9_leastNow_31 : decode cX9_leastNow 31 = .ok (.iload 4, 2) := by decide +kernel
theorem dX9_leastNow_33 : decode cX9_leastNow 33 = .ok (.iastore, 1) := by decide +kernel
theorem dX9_leastNow_34 : decode cX9_leastNow 34 = .ok (.aload_n 0, 1) := by decide +kernel
theorem dX9_leastNow_35 : decode cX9_leastNow 35 = .ok (.iconst 0, 1) := by decide +kernel
theorem dX9_leastNow_36 : decode cX9_leastNow 36 = .ok (.iconst 0, 1) := by decide +kernel
theorem dX9_leastNow_37 : decode cX9_leastNow 37 = .ok (.invokevirtual 106, 3) := by decide +kernel
theorem dX9_leastNow_40 : decode cX9_leastNow 40 = .ok (.aload_n 0, 1) := by decide +kernel
theorem dX9_leastNow_41 : decode cX9_leastNow 41 = .ok (.getfield 83, 3) := by decide +kernel
theorem dX9_leastNow_44 : decode cX9_leastNow 44 = .ok (.iload_n 1, 1) := by decide +kernel
theorem dX9_leastNow_45 : decode cX9_leastNow 45 = .ok (.if_icmp .gt 8, 3) := by decide +kernel
theorem dX9_leastNow_48 : decode cX9_leastNow 48 = .ok (.iload 4, 2) := by decide +kernel
theorem dX9_leastNow_50 : decode cX9_leastNow 50 = .ok (.goto 4, 3) := by decide +kernel
theorem dX9_leastNow_53 : decode cX9_leastNow 53 = .ok (.iconst (-1), 1) := by decide +kernel
theorem dX9_leastNow_54 : decode cX9_leastNow 54 = .ok (.istore_n 3, 1) := by decide +kernel
theorem dX9_leastNow_55 : decode cX9_leastNow 55 = .ok (.iinc 4 1, 3) := by decide +kernel
theorem dX9_leastNow_58 : decode cX9_leastNow 58 = .ok (.goto (-47), 3) := by decide +kernel
theorem dX9_leastNow_61 : decode cX9_leastNow 61 = .ok (.aload_n 0, 1) := by decide +kernel
theorem dX9_leastNow_62 : decode cX9_leastNow 62 = .ok (.getfield 7, 3) := by decide +kernel
theorem dX9_leastNow_65 : decode cX9_leastNow 65 = .ok (.sipush 401, 3) := by decide +kernel
theorem dX9_leastNow_68 : decode cX9_leastNow 68 = .ok (.iload_n 2, 1) := by decide +kernel
theorem dX9_leastNow_69 : decode cX9_leastNow 69 = .ok (.iastore, 1) := by decide +kernel
theorem dX9_leastNow_70 : decode cX9_leastNow 70 = .ok (.iload_n 3, 1) := by decide +kernel
theorem dX9_leastNow_71 : decode cX9_leastNow 71 = .ok (.ireturn, 1) := by decide +kernel
set_option maxHeartbeats 4000000 in
set_option maxRecDepth 100000 in
theorem w_X9_leastNow_j54 {w : WT} {l : Launch} {p : Program} {e : Env} {s : State} {m : MethodId} {args : Array Value} {below : List Frame} {meth : Method} {c : Code} (C : KC w p s m args meth c cX9_leastNow 5 RX9 (some .int)) {v1 : Int32} {v2 : Int32} {v4 : Int32} {s0 : Int32} {M : Mem} {L : Lng} {Q : State → Prop} {o : (Int32 × Int32 × Mem) ⊕ (Int32 × Mem)} (hf : f_X9_leastNow_j54 v1 v2 v4 s0 M = some o) (hA : ∀ z, o = .inl z → AtL w p l e ({ frames := 6, cells := 0, slots := 0, locals := 131 } : Room) s m args below meth c Q 5 11 z.2.2 L [(0, .ref (wAd w 90)), (1, .int v1), (2, .int v2), (3, .int z.1), (4, .int z.2.1)] []) (hE : ∀ y, o = .inr y → AtL w p l e ({ frames := 6, cells := 0, slots := 0, locals := 131 } : Room) s m args below meth c Q 5 61 y.2 L [(0, .ref (wAd w 90)), (2, .int v2), (3, .int y.1)] []) : AtL w p l e ({ frames := 6, cells := 0, slots := 0, locals := 131 } : Room) s m args below meth c Q 5 54 M L [(0, .ref (wAd w 90)), (1, .int v1), (2, .int v2), (4, .int v4)] [.int s0] := by
  intro H locs ls hP hS hl
  unfold f_X9_leastNow_j54 at hf
  refine lv_istore_n (lv' := [(3, .int s0), (0, .ref (wAd w 90)), (1, .int v1), (2, .int v2), (4, .int v4)]) C.1 C.2.1 dX9_leastNow_54 rfl hl (by decide) rfl (fun ls hl => ?_)
  refine lv_iinc (v := (v4 + 1)) (lv' := [(4, .int (v4 + 1)), (3, .int s0), (0, .ref (wAd w 90)), (1, .int v1), (2, .int v2)]) C.1 C.2.1 dX9_leastNow_55 hl (k := 4) rfl rfl (by decide) rfl (fun ls hl => ?_)
  refine lv_goto (tgt := 11) C.1 C.2.1 dX9_leastNow_58 (by decide) ?_
  cases hf
  exact hA _ rfl _ _ _ hP hS (lv_sub hl [2, 3, 4, 1, 0] rfl)
set_option maxHeartbeats 4000000 in
set_option maxRecDepth 100000 in
theorem w_X9_leastNow_l11 {w : WT} {l : Launch} {p : Program} {e : Env} {s : State} {m : MethodId} {args : Array Value} {below : List Frame} {meth : Method} {c : Code} (C : KC w p s m args meth c cX9_leastNow 5 RX9 (some .int)) {v1 : Int32} {v2 : Int32} {L : Lng} {Q : State → Prop} (z : Int32 × Int32 × Mem) (o : (Int32 × Int32 × Mem) ⊕ (Int32 × Mem)) (hf : f_X9_leastNow_l11 v1 v2 z = some o) (hA : ∀ z, o = .inl z → AtL w p l e ({ frames := 6, cells := 0, slots := 0, locals := 131 } : Room) s m args below meth c Q 5 11 z.2.2 L [(0, .ref (wAd w 90)), (1, .int v1), (2, .int v2), (3, .int z.1), (4, .int z.2.1)] []) (hE : ∀ y, o = .inr y → AtL w p l e ({ frames := 6, cells := 0, slots := 0, locals := 131 } : Room) s m args below meth c Q 5 61 y.2 L [(0, .ref (wAd w 90)), (2, .int v2), (3, .int y.1)] []) : AtL w p l e ({ frames := 6, cells := 0, slots := 0, locals := 131 } : Room) s m args below meth c Q 5 11 z.2.2 L [(0, .ref (wAd w 90)), (1, .int v1), (2, .int v2), (3, .int z.1), (4, .int z.2.1)] [] := by
  intro H locs ls hP hS hl
  unfold f_X9_leastNow_l11 at hf
  refine lv_iload C.1 C.2.1 dX9_leastNow_11 (lv_at hl 4 rfl) ?_
  refine lv_sipush (v := 140) C.1 C.2.1 dX9_leastNow_13 (by decide) ?_
  refine lv_icmp_gt (tgt := 61) C.1 C.2.1 dX9_leastNow_16 (by decide) (fun c2 => ?_) (fun c2 => ?_)
  · have hf := (if_pos c2).symm.trans hf
    cases hf
    exact hE _ rfl _ _ _ hP hS (lv_sub hl [0, 2, 3] rfl)
  · have hf := (if_neg c2).symm.trans hf
    refine lv_iload_n C.1 C.2.1 dX9_leastNow_19 rfl (lv_at hl 3 rfl) ?_
    refine lv_iconst (v := (-1)) C.1 C.2.1 dX9_leastNow_20 (by decide) ?_
    refine lv_icmp_ne (tgt := 61) C.1 C.2.1 dX9_leastNow_21 (by decide) (fun c3 => ?_) (fun c3 => ?_)
    · have hf := (if_neg c3).symm.trans hf
      cases hf
      exact hE _ rfl _ _ _ hP hS (lv_sub hl [0, 2, 3] rfl)
    · have hf := (if_pos c3).symm.trans hf
      refine lv_aload_n C.1 C.2.1 dX9_leastNow_24 rfl (lv_at hl 0 rfl) ?_
      refine k_get (v := .ref (wAd w 91)) C hP (lt_Model h0_Model) (ob_Model h0_Model w L _) rfl iX9 1 (by decide) q864 rfl dX9_leastNow_25 ?_
      refine lv_sipush (v := 401) C.1 C.2.1 dX9_leastNow_28 (by decide) ?_
      refine lv_iload C.1 C.2.1 dX9_leastNow_31 (lv_at hl 4 rfl) ?_
      obtain ⟨M4, hM4, hf⟩ := ob hf
      refine k_iast C hP hS (la_Model_z h0_Model) (ar_Model_z h0_Model w L) hM4 dX9_leastNow_33 (fun H locs hP hS => ?_)
      refine lv_aload_n C.1 C.2.1 dX9_leastNow_34 rfl (lv_at hl 0 rfl) ?_
      refine lv_iconst (v := 0) C.1 C.2.1 dX9_leastNow_35 (by decide) ?_
      refine lv_iconst (v := 0) C.1 C.2.1 dX9_leastNow_36 (by decide) ?_
      obtain ⟨r5, hr5, hf⟩ := ob hf
      refine kcv (kV (As := [.int 0, .int 0]) (rest := []) C hl.1 hP hS (c_X9_lay w l C.2.2.2.2.2.2.2.2 (L := L) hr5) (gV q996 q998 qp28 q10 q999) hd_X9_lay (lt_Model h0_Model) (ob_Model h0_Model w L _) rfl ⟨rfl, rfl⟩ ⟨Nat.le_of_ble_eq_true rfl, Nat.le_of_ble_eq_true rfl⟩ rfl rfl (Nat.le_of_ble_eq_true rfl) dX9_leastNow_37 ⟨Nat.zero_le _, Nat.zero_le _⟩) hS (fun H locs hP hS => ?_)
      refine lv_aload_n C.1 C.2.1 dX9_leastNow_40 rfl (lv_at hl 0 rfl) ?_
      refine k_get (v := .int (r5 90 13)) C hP (lt_Model h0_Model) (ob_Model h0_Model w L _) rfl iX9 13 (by decide) q876 rfl dX9_leastNow_41 ?_
      refine lv_iload_n C.1 C.2.1 dX9_leastNow_44 rfl (lv_at hl 1 rfl) ?_
      refine lv_icmp_gt (tgt := 53) C.1 C.2.1 dX9_leastNow_45 (by decide) (fun c6 => ?_) (fun c6 => ?_)
      · have hf := (if_pos c6).symm.trans hf
        refine lv_iconst (v := (-1)) C.1 C.2.1 dX9_leastNow_53 (by decide) ?_
        exact w_X9_leastNow_j54 C hf hA hE _ _ _ hP hS (lv_sub hl [0, 1, 2, 4] rfl)
      · have hf := (if_neg c6).symm.trans hf
        refine lv_iload C.1 C.2.1 dX9_leastNow_48 (lv_at hl 4 rfl) ?_
        refine lv_goto (tgt := 54) C.1 C.2.1 dX9_leastNow_50 (by decide) ?_
        exact w_X9_leastNow_j54 C hf hA hE _ _ _ hP hS (lv_sub hl [0, 1, 2, 4] rfl)
set_option maxHeartbeats 4000000 in
set_option maxRecDepth 100000 in
theorem w_X9_leastNow_j61 {w : WT} {l : Launch} {p : Program} {e : Env} {s : State} {m : MethodId} {args : Array Value} {below : List Frame} {meth : Method} {c : Code} (C : KC w p s m args meth c cX9_leastNow 5 RX9 (some .int)) {v2 : Int32} {v3 : Int32} {M : Mem} {L : Lng} {out : Int32 × Mem} (hf : f_X9_leastNow_j61 v2 v3 M = some out) : AtL w p l e ({ frames := 6, cells := 0, slots := 0, locals := 131 } : Room) s m args below meth c (MQ below (QI w out.1 out.2 L) args s 0 0 (wA w)) 5 61 M L [(0, .ref (wAd w 90)), (2, .int v2), (3, .int v3)] [] := by
  intro H locs ls hP hS hl
  unfold f_X9_leastNow_j61 at hf
  refine lv_aload_n C.1 C.2.1 dX9_leastNow_61 rfl (lv_at hl 0 rfl) ?_
  refine k_get (v := .ref (wAd w 91)) C hP (lt_Model h0_Model) (ob_Model h0_Model w L _) rfl iX9 1 (by decide) q864 rfl dX9_leastNow_62 ?_
  refine lv_sipush (v := 401) C.1 C.2.1 dX9_leastNow_65 (by decide) ?_
  refine lv_iload_n C.1 C.2.1 dX9_leastNow_68 rfl (lv_at hl 1 rfl) ?_
  obtain ⟨M8, hM8, hf⟩ := ob hf
  refine k_iast C hP hS (la_Model_z h0_Model) (ar_Model_z h0_Model w L) hM8 dX9_leastNow_69 (fun H locs hP hS => ?_)
  refine lv_iload_n C.1 C.2.1 dX9_leastNow_70 rfl (lv_at hl 2 rfl) ?_
  cases hf
  exact kri C hP hS dX9_leastNow_71
set_option maxHeartbeats 4000000 in
set_option maxRecDepth 100000 in
theorem c_X9_leastNow (w : WT) (l : Launch) (hw : WOK w) {a1 : Int32} {M : Mem} {L : Lng} {out : Int32 × Mem} (hf : f_X9_leastNow a1 M = some out) : Met l yX9_leastNow (Cond.code yX9_leastNow cX9_leastNow 5 (some .int) :: BG) ({ frames := 6, cells := 0, slots := 0, locals := 131 } : Room) (PRE w [.ref (wAd w 90), .int a1] M L) (QI w out.1 out.2 L) 0 0 (wA w) := by
  refine kEnt hw (by decide +kernel) rfl (Nat.le_of_ble_eq_true rfl) ?_
  intro p e s m args below meth c C ls hl hP
  have hS : va_S (wA w) s.heap s.heap [] := va_S.rf
  have hl : lv_has ls 5 [(0, .ref (wAd w 90)), (1, .int a1)] := hl
  unfold f_X9_leastNow at hf
  refine lv_aload_n C.1 C.2.1 dX9_leastNow_0 rfl (lv_at hl 0 rfl) ?_
  refine lv_iconst (v := 0) C.1 C.2.1 dX9_leastNow_1 (by decide) ?_
  obtain ⟨r1, hr1, hf⟩ := ob hf
  refine kci (kV (As := [.int 0]) (rest := []) C hl.1 hP hS (c_X9_of w l C.2.2.2.2.2.2.2.2 (L := L) hr1) (gV q973 q975 qp25 q10 q976) hd_X9_of (lt_Model h0_Model) (ob_Model h0_Model w L _) rfl ⟨rfl, rfl⟩ ⟨Nat.le_of_ble_eq_true rfl, Nat.le_of_ble_eq_true rfl⟩ rfl rfl (Nat.le_of_ble_eq_true rfl) dX9_leastNow_2 ⟨Nat.zero_le _, Nat.zero_le _⟩) hS (fun H locs hP hS => ?_)
  refine lv_istore_n (lv' := [(2, .int r1), (0, .ref (wAd w 90)), (1, .int a1)]) C.1 C.2.1 dX9_leastNow_5 rfl hl (by decide) rfl (fun ls hl => ?_)
  refine lv_iconst (v := (-1)) C.1 C.2.1 dX9_leastNow_6 (by decide) ?_
  refine lv_istore_n (lv' := [(3, .int (-1)), (2, .int r1), (0, .ref (wAd w 90)), (1, .int a1)]) C.1 C.2.1 dX9_leastNow_7 rfl hl (by decide) rfl (fun ls hl => ?_)
  refine lv_iconst (v := 0) C.1 C.2.1 dX9_leastNow_8 (by decide) ?_
  refine lv_istore (lv' := [(4, .int 0), (3, .int (-1)), (2, .int r1), (0, .ref (wAd w 90)), (1, .int a1)]) C.1 C.2.1 dX9_leastNow_9 hl (by decide) rfl (fun ls hl => ?_)
  obtain ⟨o7, ho7, hf⟩ := ob hf
  refine loop_at (w_X9_leastNow_l11 C) FU _ o7 ho7 ?_ _ _ _ hP hS (lv_sub hl [3, 4, 2, 1, 0] rfl)
  intro H locs ls hP hS hl
  exact w_X9_leastNow_j61 C hf _ _ _ hP hS hl
