theorem dX8_complaintProperty_0 : decode cX8_complaintProperty 0 = .ok (.iload_n 2, 1) := by decide +kernel
theorem dX8_complaintProperty_1 : decode cX8_complaintProperty 1 = .ok (.ifCond .ne 15, 3) := by decide +kernel
theorem dX8_complaintProperty_4 : decode cX8_complaintProperty 4 = .ok (.aload_n 0, 1) := by decide +kernel
theorem dX8_complaintProperty_5 : decode cX8_complaintProperty 5 = .ok (.getfield 10, 3) := by decide +kernel
theorem dX8_complaintProperty_8 : decode cX8_complaintProperty 8 = .ok (.getfield 326, 3) := by decide +kernel
theorem dX8_complaintProperty_11 : decode cX8_complaintProperty 11 = .ok (.iload_n 1, 1) := by decide +kernel
theorem dX8_complaintProperty_12 : decode cX8_complaintProperty 12 = .ok (.iaload, 1) := by decide +kernel
theorem dX8_complaintProperty_13 : decode cX8_complaintProperty 13 = .ok (.goto 15, 3) := by decide +kernel
theorem dX8_complaintProperty_16 : decode cX8_complaintProperty 16 = .ok (.aload_n 0, 1) := by decide +kernel
theorem dX8_complaintProperty_17 : decode cX8_complaintProperty 17 = .ok (.getfield 33, 3) := by decide +kernel
theorem dX8_complaintProperty_20 : decode cX8_complaintProperty 20 = .ok (.getfield 142, 3) := by decide +kernel
theorem dX8_complaintProperty_23 : decode cX8_complaintProperty 23 = .ok (.getfield 146, 3) := by decide +kernel
theorem dX8_complaintProperty_26 : decode cX8_complaintProperty 26 = .ok (.iload_n 1, 1) := by decide +kernel
theorem dX8_complaintProperty_27 : decode cX8_complaintProperty 27 = .ok (.iaload, 1) := by decide +kernel
theorem dX8_complaintProperty_28 : decode cX8_complaintProperty 28 = .ok (.ireturn, 1) := by decide +kernel
set_option maxHeartbeats 4000000 in
set_option maxRecDepth 100000 in
theorem c_X8_complaintProperty (w : WT) (l : Launch) (hw : WOK w) {a1 : Int32} {a2 : Int32} {M : Mem} {L : Lng} {out : Int32} (hf : f_X8_complaintProperty a1 a2 M = some out) : Met l yX8_complaintProperty (Cond.code yX8_complaintProperty cX8_complaintProperty 3 (some .int) :: BG) ({ frames := 0, cells := 0, slots := 0, locals := 0 } : Room) (PRE w [.ref (wAd w 0), .int a1, .int a2] M L) (QI w out M L) 0 0 (wA w) := by
  refine kEnt hw (by decide +kernel) rfl (Nat.le_of_ble_eq_true rfl) ?_
  intro p e s m args below meth c C ls hl hP
  have hS : va_S (wA w) s.heap s.heap [] := va_S.rf
  have hl : lv_has ls 3 [(0, .ref (wAd w 0)), (1, .int a1), (2, .int a2)] := hl
  unfold f_X8_complaintProperty at hf
  refine lv_iload_n C.1 C.2.1 dX8_complaintProperty_0 rfl (lv_at hl 2 rfl) ?_
  refine lv_if_ne (tgt := 16) C.1 C.2.1 dX8_complaintProperty_1 (by decide) (fun c1 => ?_) (fun c1 => ?_)
  · have hf := (if_neg c1).symm.trans hf
    refine lv_aload_n C.1 C.2.1 dX8_complaintProperty_16 rfl (lv_at hl 0 rfl) ?_
    refine k_get (v := .ref (wAd w 54)) C hP (lt_NoisePost h0_NoisePost) (ob_NoisePost h0_NoisePost w L _) rfl iX8 3 (by decide) q287 rfl dX8_complaintProperty_17 ?_
    refine k_get (v := .ref (wAd w 67)) C hP (lt_View to_NoisePost_now) (ob_View to_NoisePost_now w L _) rfl iX7 3 (by decide) q263 rfl dX8_complaintProperty_20 ?_
    refine k_get (v := .ref (wAd w 68)) C hP (lt_Matches (to_View_matches to_NoisePost_now)) (ob_Matches (to_View_matches to_NoisePost_now) w L _) rfl iX3 0 (by decide) q237 rfl dX8_complaintProperty_23 ?_
    refine lv_iload_n C.1 C.2.1 dX8_complaintProperty_26 rfl (lv_at hl 1 rfl) ?_
    obtain ⟨x2, hx2, hf⟩ := ob hf
    refine k_iald C hP (la_Matches_exceedanceOf (to_View_matches to_NoisePost_now)) (ar_Matches_exceedanceOf (to_View_matches to_NoisePost_now) w L _) hx2 dX8_complaintProperty_27 ?_
    cases hf
    exact kri C hP hS dX8_complaintProperty_28
  · have hf := (if_pos c1).symm.trans hf
    refine lv_aload_n C.1 C.2.1 dX8_complaintProperty_4 rfl (lv_at hl 0 rfl) ?_
    refine k_get (v := .ref (wAd w 1)) C hP (lt_NoisePost h0_NoisePost) (ob_NoisePost h0_NoisePost w L _) rfl iX8 0 (by decide) q284 rfl dX8_complaintProperty_5 ?_
    refine k_get (v := .ref (wAd w 5)) C hP (lt_State to_NoisePost_state) (ob_State to_NoisePost_state w L _) rfl iX5 3 (by decide) q53 rfl dX8_complaintProperty_8 ?_
    refine lv_iload_n C.1 C.2.1 dX8_complaintProperty_11 rfl (lv_at hl 1 rfl) ?_
    obtain ⟨x3, hx3, hf⟩ := ob hf
    refine k_iald C hP (la_State_complaintMinutes to_NoisePost_state) (ar_State_complaintMinutes to_NoisePost_state w L _) hx3 dX8_complaintProperty_12 ?_
    refine lv_goto (tgt := 28) C.1 C.2.1 dX8_complaintProperty_13 (by decide) ?_
    cases hf
    exact kri C hP hS dX8_complaintProperty_28
theorem dX8_complaint_0 : decode cX8_complaint 0 = .ok (.aload_n 0, 1) := by decide +kernel
theorem dX8_complaint_1 : decode cX8_complaint 1 = .ok (.getfield 10, 3) := by decide +kernel
theorem dX8_complaint_4 : decode cX8_complaint 4 = .ok (.iload_n 1, 1) := by decide +kernel
theorem dX8_complaint_5 : decode cX8_complaint 5 = .ok (.invokevirtual 137, 3) := by decide +kernel
theorem dX8_complaint_8 : decode cX8_complaint 8 = .ok (.ifCond .ne 13, 3) := by decide +kernel
theorem dX8_complaint_11 : decode cX8_complaint 11 = .ok (.new 51, 3) := by decide +kernel
theorem dX8_complaint_14 : decode cX8_complaint 14 = .ok (.dup, 1) := by decide +kernel
theorem dX8_complaint_15 : decode cX8_complaint 15 = .ok (.ldc 140, 2) := by decide +kernel
theorem dX8_complaint_17 : decode cX8_complaint 17 = .ok (.invokespecial 55, 3) := by decide +kernel
theorem dX8_complaint_20 : decode cX8_complaint 20 = .ok (.athrow, 1) := by decide +kernel
theorem dX8_complaint_21 : decode cX8_complaint 21 = .ok (.iload_n 2, 1) := by decide +kernel
theorem dX8_complaint_22 : decode cX8_complaint 22 = .ok (.ifCond .lt 8, 3) := by decide +kernel
theorem dX8_complaint_25 : decode cX8_complaint 25 = .ok (.iload_n 2, 1) := by decide +kernel
theorem dX8_complaint_26 : decode cX8_complaint 26 = .ok (.iconst 1, 1) := by decide +kernel
theorem dX8_complaint_27 : decode cX8_complaint 27 = .ok (.if_icmp .le 13, 3) := by decide +kernel
theorem dX8_complaint_30 : decode cX8_complaint 30 = .ok (.new 62, 3) := by decide +kernel
theorem dX8_complaint_33 : decode cX8_complaint 33 = .ok (.dup, 1) := by decide +kernel
theorem dX8_complaint_34 : decode cX8_complaint 34 = .ok (.ldc 193, 2) := by decide +kernel
theorem dX8_complaint_36 : decode cX8_complaint 36 = .ok (.invokespecial 66, 3) := by decide +kernel
theorem dX8_complaint_39 : decode cX8_complaint 39 = .ok (.athrow, 1) := by decide +kernel
theorem dX8_complaint_40 : decode cX8_complaint 40 = .ok (.aload_n 0, 1) := by decide +kernel
theorem dX8_complaint_41 : decode cX8_complaint 41 = .ok (.iload_n 1, 1) := by decide +kernel
theorem dX8_complaint_42 : decode cX8_complaint 42 = .ok (.iload_n 2, 1) := by decide +kernel
theorem dX8_complaint_43 : decode cX8_complaint 43 = .ok (.invokevirtual 204, 3) := by decide +kernel
theorem dX8_complaint_46 : decode cX8_complaint 46 = .ok (.ireturn, 1) := by decide +kernel
set_option maxHeartbeats 4000000 in
set_option maxRecDepth 100000 in
theorem w_X8_complaint_j30 {w : WT} {l : Launch} {p : Program} {e : Env} {s : State} {m : MethodId} {args : Array Value} {below : List Frame} {meth : Method} {c : Code} (C : KC w p s m args meth c cX8_complaint 3 RX8 (some .int)) (T : KT w l s c) {M : Mem} {L : Lng} {out : Nat ⊕ (Int32)} (hf : f_X8_complaint_j30 M = some out) : AtL w p l e ({ frames := 6, cells := 1, slots := 6, locals := 90 } : Room) s m args below meth c (vx_MQ below (QX w (xo out M) L) (XX w (xo out M) L) args s 1 6 (wA w)) 3 30 M L [] [] := by
  intro H locs ls hP hS hl
  unfold f_X8_complaint_j30 at hf
  cases hf
  exact k_thr C T hP hS hl.1 1 (by decide) q547 q15 (List.mem_of_getElem? (i := 14) rfl) dX8_complaint_30 dX8_complaint_33 dX8_complaint_34 dX8_complaint_36 dX8_complaint_39 (Nat.le_of_ble_eq_true rfl) (Nat.le_of_ble_eq_true rfl) (Nat.le_refl _) (Nat.le_refl _)
set_option maxHeartbeats 4000000 in
set_option maxRecDepth 100000 in
theorem c_X8_complaint (w : WT) (l : Launch) (hw : WOK w) (hfl : l.stackTraces = false) {a1 : Int32} {a2 : Int32} {M : Mem} {L : Lng} {out : Nat ⊕ (Int32)} (hf : f_X8_complaint a1 a2 M = some out) : vx_Met l yX8_complaint (Cond.code yX8_complaint cX8_complaint 3 (some .int) :: BG) ({ frames := 6, cells := 1, slots := 6, locals := 90 } : Room) (PREX w [.ref (wAd w 0), .int a1, .int a2] M L) (QX w (xo out M) L) (XX w (xo out M) L) 1 6 (wA w) := by
  refine kEntX hw hfl (by decide +kernel) rfl (Nat.le_of_ble_eq_true rfl) ?_
  intro p e s m args below meth c C T ls hl hP
  have hS : va_S (wA w) s.heap s.heap [] := va_S.rf
  have hl : lv_has ls 3 [(0, .ref (wAd w 0)), (1, .int a1), (2, .int a2)] := hl
  unfold f_X8_complaint at hf
  refine lv_aload_n C.1 C.2.1 dX8_complaint_0 rfl (lv_at hl 0 rfl) ?_
  refine k_get (v := .ref (wAd w 1)) C hP (lt_NoisePost h0_NoisePost) (ob_NoisePost h0_NoisePost w L _) rfl iX8 0 (by decide) q284 rfl dX8_complaint_1 ?_
  refine lv_iload_n C.1 C.2.1 dX8_complaint_4 rfl (lv_at hl 1 rfl) ?_
  obtain ⟨r1, hr1, hf⟩ := ob hf
  refine kci (kV (As := [.int a1]) (rest := []) C hl.1 hP hS (c_X5_hasComplaint w l C.2.2.2.2.2.2.2.2 to_NoisePost_state (L := L) hr1) (gV q730 q731 q732 q2 q733) hd_X5_hasComplaint (lt_State to_NoisePost_state) (ob_State to_NoisePost_state w L _) rfl ⟨rfl, rfl⟩ ⟨Nat.le_of_ble_eq_true rfl, Nat.le_of_ble_eq_true rfl⟩ rfl rfl (Nat.le_of_ble_eq_true rfl) dX8_complaint_5 ⟨Nat.zero_le _, Nat.zero_le _⟩) hS (fun H locs hP hS => ?_)
  refine lv_if_ne (tgt := 21) C.1 C.2.1 dX8_complaint_8 (by decide) (fun c2 => ?_) (fun c2 => ?_)
  · have hf := (if_neg c2).symm.trans hf
    refine lv_iload_n C.1 C.2.1 dX8_complaint_21 rfl (lv_at hl 2 rfl) ?_
    refine lv_if_lt (tgt := 30) C.1 C.2.1 dX8_complaint_22 (by decide) (fun c3 => ?_) (fun c3 => ?_)
    · have hf := (if_pos c3).symm.trans hf
      exact w_X8_complaint_j30 C T hf _ _ _ hP hS (lv_sub hl [] rfl)
    · have hf := (if_neg c3).symm.trans hf
      refine lv_iload_n C.1 C.2.1 dX8_complaint_25 rfl (lv_at hl 2 rfl) ?_
      refine lv_iconst (v := 1) C.1 C.2.1 dX8_complaint_26 (by decide) ?_
      refine lv_icmp_le (tgt := 40) C.1 C.2.1 dX8_complaint_27 (by decide) (fun c4 => ?_) (fun c4 => ?_)
      · have hf := (if_pos c4).symm.trans hf
        refine lv_aload_n C.1 C.2.1 dX8_complaint_40 rfl (lv_at hl 0 rfl) ?_
        refine lv_iload_n C.1 C.2.1 dX8_complaint_41 rfl (lv_at hl 1 rfl) ?_
        refine lv_iload_n C.1 C.2.1 dX8_complaint_42 rfl (lv_at hl 2 rfl) ?_
        obtain ⟨r5, hr5, hf⟩ := ob hf
        refine kci (kV (As := [.int a1, .int a2]) (rest := []) C hl.1 hP hS (c_X8_complaintProperty w l C.2.2.2.2.2.2.2.2 (L := L) hr5) (gV q405 q407 qp12 q1 q408) hd_X8_complaintProperty (lt_NoisePost h0_NoisePost) (ob_NoisePost h0_NoisePost w L _) rfl ⟨rfl, rfl⟩ ⟨Nat.le_of_ble_eq_true rfl, Nat.le_of_ble_eq_true rfl⟩ rfl rfl (Nat.le_of_ble_eq_true rfl) dX8_complaint_43 ⟨Nat.zero_le _, Nat.zero_le _⟩) hS (fun H locs hP hS => ?_)
        cases hf
        exact krix C hP hS dX8_complaint_46
      · have hf := (if_neg c4).symm.trans hf
        exact w_X8_complaint_j30 C T hf _ _ _ hP hS (lv_sub hl [] rfl)
  · have hf := (if_pos c2).symm.trans hf
    cases hf
    exact k_thr C T hP hS hl.1 0 (by decide) q472 q14 (List.mem_of_getElem? (i := 9) rfl) dX8_complaint_11 dX8_complaint_14 dX8_complaint_15 dX8_complaint_17 dX8_complaint_20 (Nat.le_of_ble_eq_true rfl) (Nat.le_of_ble_eq_true rfl) (Nat.le_refl _) (Nat.le_refl _)
theorem dX8_levelCount_0 : decode cX8_levelCount 0 = .ok (.iload_n 1, 1) := by decide +kernel
theorem dX8_levelCount_1 : decode cX8_levelCount 1 = .ok (.invokestatic 78, 3) := by decide +kernel
theorem dX8_levelCount_4 : decode cX8_levelCount 4 = .ok (.ifCond .ne 13, 3) := by decide +kernel
theorem dX8_levelCount_7 : decode cX8_levelCount 7 = .ok (.new 62, 3) := by decide +kernel
theorem dX8_levelCount_10 : decode cX8_levelCount 10 = .ok (.dup, 1) := by decide +kernel
theorem dX8_levelCount_11 : decode cX8_levelCount 11 = .ok (.ldc 207, 2) := by decide +kernel
theorem dX8_levelCount_13 : decode cX8_levelCount 13 = .ok (.invokespecial 66, 3) := by decide +kernel
theorem dX8_levelCount_16 : decode cX8_levelCount 16 = .ok (.athrow, 1) := by decide +kernel
theorem dX8_levelCount_17 : decode cX8_levelCount 17 = .ok (.aload_n 0, 1) := by decide +kernel
theorem dX8_levelCount_18 : decode cX8_levelCount 18 = .ok (.getfield 43, 3) := by decide +kernel
theorem dX8_levelCount_21 : decode cX8_levelCount 21 = .ok (.getfield 209, 3) := by decide +kernel
theorem dX8_levelCount_24 : decode cX8_levelCount 24 = .ok (.iload_n 1, 1) := by decide +kernel
theorem dX8_levelCount_25 : decode cX8_levelCount 25 = .ok (.iaload, 1) := by decide +kernel
theorem dX8_levelCount_26 : decode cX8_levelCount 26 = .ok (.ireturn, 1) := by decide +kernel
set_option maxHeartbeats 4000000 in
set_option maxRecDepth 100000 in
theorem c_X8_levelCount (w : WT) (l : Launch) (hw : WOK w) (hfl : l.stackTraces = false) {a1 : Int32} {M : Mem} {L : Lng} {out : Nat ⊕ (Int32)} (hf : f_X8_levelCount a1 M = some out) : vx_Met l yX8_levelCount (Cond.code yX8_levelCount cX8_levelCount 2 (some .int) :: BG) ({ frames := 6, cells := 1, slots := 6, locals := 90 } : Room) (PREX w [.ref (wAd w 0), .int a1] M L) (QX w (xo out M) L) (XX w (xo out M) L) 1 6 (wA w) := by
  refine kEntX hw hfl (by decide +kernel) rfl (Nat.le_of_ble_eq_true rfl) ?_
  intro p e s m args below meth c C T ls hl hP
  have hS : va_S (wA w) s.heap s.heap [] := va_S.rf
  have hl : lv_has ls 2 [(0, .ref (wAd w 0)), (1, .int a1)] := hl
  unfold f_X8_levelCount at hf
  refine lv_iload_n C.1 C.2.1 dX8_levelCount_0 rfl (lv_at hl 1 rfl) ?_
  obtain ⟨r1, hr1, hf⟩ := ob hf
  refine kci (kS (As := [.int a1]) (rest := []) C hl.1 hP hS (c_X8_isLevel w l C.2.2.2.2.2.2.2.2 (L := L) hr1) (gS q657 q658 q1 q659) hd_X8_isLevel ⟨rfl, rfl⟩ ⟨Nat.le_of_ble_eq_true rfl, Nat.le_of_ble_eq_true rfl⟩ rfl rfl (Nat.le_of_ble_eq_true rfl) dX8_levelCount_1 ⟨Nat.zero_le _, Nat.zero_le _⟩) hS (fun H locs hP hS => ?_)
  refine lv_if_ne (tgt := 17) C.1 C.2.1 dX8_levelCount_4 (by decide) (fun c2 => ?_) (fun c2 => ?_)
  · have hf := (if_neg c2).symm.trans hf
    refine lv_aload_n C.1 C.2.1 dX8_levelCount_17 rfl (lv_at hl 0 rfl) ?_
    refine k_get (v := .ref (wAd w 88)) C hP (lt_NoisePost h0_NoisePost) (ob_NoisePost h0_NoisePost w L _) rfl iX8 5 (by decide) q289 rfl dX8_levelCount_18 ?_
    refine k_get (v := .ref (wAd w 89)) C hP (lt_LevelCounts to_NoisePost_levelCounts) (ob_LevelCounts to_NoisePost_levelCounts w L _) rfl iX2 0 (by decide) q280 rfl dX8_levelCount_21 ?_
    refine lv_iload_n C.1 C.2.1 dX8_levelCount_24 rfl (lv_at hl 1 rfl) ?_
    obtain ⟨x3, hx3, hf⟩ := ob hf
    refine k_iald C hP (la_LevelCounts_reached to_NoisePost_levelCounts) (ar_LevelCounts_reached to_NoisePost_levelCounts w L _) hx3 dX8_levelCount_25 ?_
    cases hf
    exact krix C hP hS dX8_levelCount_26
  · have hf := (if_pos c2).symm.trans hf
    cases hf
    exact k_thr C T hP hS hl.1 1 (by decide) q547 q15 (List.mem_of_getElem? (i := 16) rfl) dX8_levelCount_7 dX8_levelCount_10 dX8_levelCount_11 dX8_levelCount_13 dX8_levelCount_16 (Nat.le_of_ble_eq_true rfl) (Nat.le_of_ble_eq_true rfl) (Nat.le_refl _) (Nat.le_refl _)
theorem dX8_percentLevel_0 : decode cX8_percentLevel 0 = .ok (.iload_n 1, 1) := by decide +kernel
theorem dX8_percentLevel_1 : decode cX8_percentLevel 1 = .ok (.iconst 1, 1) := by decide +kernel
theorem dX8_percentLevel_2 : decode cX8_percentLevel 2 = .ok (.if_icmp .lt 9, 3) := by decide +kernel
theorem dX8_percentLevel_5 : decode cX8_percentLevel 5 = .ok (.iload_n 1, 1) := by decide +kernel
theorem dX8_percentLevel_6 : decode cX8_percentLevel 6 = .ok (.bipush 100, 2) := by decide +kernel
theorem dX8_percentLevel_8 : decode cX8_percentLevel 8 = .ok (.if_icmp .le 13, 3) := by decide +kernel
theorem dX8_percentLevel_11 : decode cX8_percentLevel 11 = .ok (.new 62, 3) := by decide +kernel
theorem dX8_percentLevel_14 : decode cX8_percentLevel 14 = .ok (.dup, 1) := by decide +kernel
theorem dX8_percentLevel_15 : decode cX8_percentLevel 15 = .ok (.ldc 212, 2) := by decide +kernel
theorem dX8_percentLevel_17 : decode cX8_percentLevel 17 = .ok (.invokespecial 66, 3) := by decide +kernel
theorem dX8_percentLevel_20 : decode cX8_percentLevel 20 = .ok (.athrow, 1) := by decide +kernel
theorem dX8_percentLevel_21 : decode cX8_percentLevel 21 = .ok (.aload_n 0, 1) := by decide +kernel
theorem dX8_percentLevel_22 : decode cX8_percentLevel 22 = .ok (.getfield 43, 3) := by decide +kernel
theorem dX8_percentLevel_25 : decode cX8_percentLevel 25 = .ok (.iload_n 1, 1) := by decide +kernel
theorem dX8_percentLevel_26 : decode cX8_percentLevel 26 = .ok (.aload_n 0, 1) := by decide +kernel
theorem dX8_percentLevel_27 : decode cX8_percentLevel 27 = .ok (.getfield 33, 3) := by decide +kernel
theorem dX8_percentLevel_30 : decode cX8_percentLevel 30 = .ok (.getfield 214, 3) := by decide +kernel
theorem dX8_percentLevel_33 : decode cX8_percentLevel 33 = .ok (.getfield 217, 3) := by decide +kernel
theorem dX8_percentLevel_36 : decode cX8_percentLevel 36 = .ok (.invokevirtual 222, 3) := by decide +kernel
theorem dX8_percentLevel_39 : decode cX8_percentLevel 39 = .ok (.ireturn, 1) := by decide +kernel
set_option maxHeartbeats 4000000 in
set_option maxRecDepth 100000 in
theorem w_X8_percentLevel_j11 {w : WT} {l : Launch} {p : Program} {e : Env} {s : State} {m : MethodId} {args : Array Value} {below : List Frame} {meth : Method} {c : Code} (C : KC w p s m args meth c cX8_percentLevel 2 RX8 (some .int)) (T : KT w l s c) {M : Mem} {L : Lng} {out : Nat ⊕ (Int32)} (hf : f_X8_percentLevel_j11 M = some out) : AtL w p l e ({ frames := 6, cells := 1, slots := 6, locals := 90 } : Room) s m args below meth c (vx_MQ below (QX w (xo out M) L) (XX w (xo out M) L) args s 1 6 (wA w)) 2 11 M L [] [] := by
  intro H locs ls hP hS hl
  unfold f_X8_percentLevel_j11 at hf
  cases hf
  exact k_thr C T hP hS hl.1 1 (by decide) q547 q15 (List.mem_of_getElem? (i := 17) rfl) dX8_percentLevel_11 dX8_percentLevel_14 dX8_percentLevel_15 dX8_percentLevel_17 dX8_percentLevel_20 (Nat.le_of_ble_eq_true rfl) (Nat.le_of_ble_eq_true rfl) (Nat.le_refl _) (Nat.le_refl _)
set_option maxHeartbeats 4000000 in
set_option maxRecDepth 100000 in
theorem c_X8_percentLevel (w : WT) (l : Launch) (hw : WOK w) (hfl : l.stackTraces = false) {a1 : Int32} {M : Mem} {L : Lng} {out : Nat ⊕ (Int32)} (hf : f_X8_percentLevel a1 M = some out) : vx_Met l yX8_percentLevel (Cond.code yX8_percentLevel cX8_percentLevel 2 (some .int) :: BG) ({ frames := 6, cells := 1, slots := 6, locals := 90 } : Room) (PREX w [.ref (wAd w 0), .int a1] M L) (QX w (xo out M) L) (XX w (xo out M) L) 1 6 (wA w) := by
  refine kEntX hw hfl (by decide +kernel) rfl (Nat.le_of_ble_eq_true rfl) ?_
  intro p e s m args below meth c C T ls hl hP
  have hS : va_S (wA w) s.heap s.heap [] := va_S.rf
  have hl : lv_has ls 2 [(0, .ref (wAd w 0)), (1, .int a1)] := hl
  unfold f_X8_percentLevel at hf
  refine lv_iload_n C.1 C.2.1 dX8_percentLevel_0 rfl (lv_at hl 1 rfl) ?_
  refine lv_iconst (v := 1) C.1 C.2.1 dX8_percentLevel_1 (by decide) ?_
  refine lv_icmp_lt (tgt := 11) C.1 C.2.1 dX8_percentLevel_2 (by decide) (fun c1 => ?_) (fun c1 => ?_)
  · have hf := (if_pos c1).symm.trans hf
    exact w_X8_percentLevel_j11 C T hf _ _ _ hP hS (lv_sub hl [] rfl)
  · have hf := (if_neg c1).symm.trans hf
    refine lv_iload_n C.1 C.2.1 dX8_percentLevel_5 rfl (lv_at hl 1 rfl) ?_
    refine lv_bipush (v := 100) C.1 C.2.1 dX8_percentLevel_6 (by decide) ?_
    refine lv_icmp_le (tgt := 21) C.1 C.2.1 dX8_percentLevel_8 (by decide) (fun c2 => ?_) (fun c2 => ?_)
    · have hf := (if_pos c2).symm.trans hf
      refine lv_aload_n C.1 C.2.1 dX8_percentLevel_21 rfl (lv_at hl 0 rfl) ?_
      refine k_get (v := .ref (wAd w 88)) C hP (lt_NoisePost h0_NoisePost) (ob_NoisePost h0_NoisePost w L _) rfl iX8 5 (by decide) q289 rfl dX8_percentLevel_22 ?_
      refine lv_iload_n C.1 C.2.1 dX8_percentLevel_25 rfl (lv_at hl 1 rfl) ?_
      refine lv_aload_n C.1 C.2.1 dX8_percentLevel_26 rfl (lv_at hl 0 rfl) ?_
      refine k_get (v := .ref (wAd w 54)) C hP (lt_NoisePost h0_NoisePost) (ob_NoisePost h0_NoisePost w L _) rfl iX8 3 (by decide) q287 rfl dX8_percentLevel_27 ?_
      refine k_get (v := .ref (wAd w 56)) C hP (lt_View to_NoisePost_now) (ob_View to_NoisePost_now w L _) rfl iX7 1 (by decide) q259 rfl dX8_percentLevel_30 ?_
      refine k_get (v := .int (M 56 4)) C hP (lt_Minutes (to_View_minutes to_NoisePost_now)) (ob_Minutes (to_View_minutes to_NoisePost_now) w L _) rfl iX4 4 (by decide) q163 rfl dX8_percentLevel_33 ?_
      obtain ⟨r3, hr3, hf⟩ := ob hf
      refine kci (kV (As := [.int a1, .int (M 56 4)]) (rest := []) C hl.1 hP hS (c_X2_levelOfPercent w l C.2.2.2.2.2.2.2.2 (L := L) hr3) (gV q413 q414 q415 q9 q416) hd_X2_levelOfPercent (lt_LevelCounts to_NoisePost_levelCounts) (ob_LevelCounts to_NoisePost_levelCounts w L _) rfl ⟨rfl, rfl⟩ ⟨Nat.le_of_ble_eq_true rfl, Nat.le_of_ble_eq_true rfl⟩ rfl rfl (Nat.le_of_ble_eq_true rfl) dX8_percentLevel_36 ⟨Nat.zero_le _, Nat.zero_le _⟩) hS (fun H locs hP hS => ?_)
      cases hf
      exact krix C hP hS dX8_percentLevel_39
    · have hf := (if_neg c2).symm.trans hf
      exact w_X8_percentLevel_j11 C T hf _ _ _ hP hS (lv_sub hl [] rfl)
theorem dX8_numberOf_0 : decode cX8_numberOf 0 = .ok (.iload_n 1, 1) := by decide +kernel
theorem dX8_numberOf_1 : decode cX8_numberOf 1 = .ok (.bipush 10, 2) := by decide +kernel
theorem dX8_numberOf_3 : decode cX8_numberOf 3 = .ok (.if_icmp .ne 11, 3) := by decide +kernel
theorem dX8_numberOf_6 : decode cX8_numberOf 6 = .ok (.aload_n 0, 1) := by decide +kernel
theorem dX8_numberOf_7 : decode cX8_numberOf 7 = .ok (.getfield 19, 3) := by decide +kernel
theorem dX8_numberOf_10 : decode cX8_numberOf 10 = .ok (.getfield 185, 3) := by decide +kernel
theorem dX8_numberOf_13 : decode cX8_numberOf 13 = .ok (.ireturn, 1) := by decide +kernel
theorem dX8_numberOf_14 : decode cX8_numberOf 14 = .ok (.aload_n 0, 1) := by decide +kernel
theorem dX8_numberOf_15 : decode cX8_numberOf 15 = .ok (.getfield 33, 3) := by decide +kernel
theorem dX8_numberOf_18 : decode cX8_numberOf 18 = .ok (.iload_n 1, 1) := by decide +kernel
theorem dX8_numberOf_19 : decode cX8_numberOf 19 = .ok (.invokevirtual 239, 3) := by decide +kernel
theorem dX8_numberOf_22 : decode cX8_numberOf 22 = .ok (.ireturn, 1) := by decide +kernel
set_option maxHeartbeats 4000000 in
set_option maxRecDepth 100000 in
theorem c_X8_numberOf (w : WT) (l : Launch) (hw : WOK w) {a1 : Int32} {M : Mem} {L : Lng} {out : Int32} (hf : f_X8_numberOf a1 M = some out) : Met l yX8_numberOf (Cond.code yX8_numberOf cX8_numberOf 2 (some .int) :: BG) ({ frames := 2, cells := 0, slots := 0, locals := 43 } : Room) (PRE w [.ref (wAd w 0), .int a1] M L) (QI w out M L) 0 0 (wA w) := by
  refine kEnt hw (by decide +kernel) rfl (Nat.le_of_ble_eq_true rfl) ?_
  intro p e s m args below meth c C ls hl hP
  have hS : va_S (wA w) s.heap s.heap [] := va_S.rf
  have hl : lv_has ls 2 [(0, .ref (wAd w 0)), (1, .int a1)] := hl
  unfold f_X8_numberOf at hf
  refine lv_iload_n C.1 C.2.1 dX8_numberOf_0 rfl (lv_at hl 1 rfl) ?_
  refine lv_bipush (v := 10) C.1 C.2.1 dX8_numberOf_1 (by decide) ?_
  refine lv_icmp_ne (tgt := 14) C.1 C.2.1 dX8_numberOf_3 (by decide) (fun c1 => ?_) (fun c1 => ?_)
  · have hf := (if_neg c1).symm.trans hf
    refine lv_aload_n C.1 C.2.1 dX8_numberOf_14 rfl (lv_at hl 0 rfl) ?_
    refine k_get (v := .ref (wAd w 54)) C hP (lt_NoisePost h0_NoisePost) (ob_NoisePost h0_NoisePost w L _) rfl iX8 3 (by decide) q287 rfl dX8_numberOf_15 ?_
    refine lv_iload_n C.1 C.2.1 dX8_numberOf_18 rfl (lv_at hl 1 rfl) ?_
    obtain ⟨r2, hr2, hf⟩ := ob hf
    refine kci (kV (As := [.int a1]) (rest := []) C hl.1 hP hS (c_X7_numberOf w l C.2.2.2.2.2.2.2.2 to_NoisePost_now (L := L) hr2) (gV q360 q361 q362 q5 q363) hd_X7_numberOf (lt_View to_NoisePost_now) (ob_View to_NoisePost_now w L _) rfl ⟨rfl, rfl⟩ ⟨Nat.le_of_ble_eq_true rfl, Nat.le_of_ble_eq_true rfl⟩ rfl rfl (Nat.le_of_ble_eq_true rfl) dX8_numberOf_19 ⟨Nat.zero_le _, Nat.zero_le _⟩) hS (fun H locs hP hS => ?_)
    cases hf
    exact kri C hP hS dX8_numberOf_22
  · have hf := (if_pos c1).symm.trans hf
    refine lv_aload_n C.1 C.2.1 dX8_numberOf_6 rfl (lv_at hl 0 rfl) ?_
    refine k_get (v := .ref (wAd w 46)) C hP (lt_NoisePost h0_NoisePost) (ob_NoisePost h0_NoisePost w L _) rfl iX8 1 (by decide) q285 rfl dX8_numberOf_7 ?_
    refine k_get (v := .int (M 46 2)) C hP (lt_History to_NoisePost_history) (ob_History to_NoisePost_history w L _) rfl iX1 2 (by decide) q86 rfl dX8_numberOf_10 ?_
    cases hf
    exact kri C hP hS dX8_numberOf_13
theorem dX8_count_0 : decode cX8_count 0 = .ok (.iload_n 1, 1) := by decide +kernel
theorem dX8_count_1 : decode cX8_count 1 = .ok (.ifCond .lt 9, 3) := by decide +kernel
theorem dX8_count_4 : decode cX8_count 4 = .ok (.iload_n 1, 1) := by decide +kernel
theorem dX8_count_5 : decode cX8_count 5 = .ok (.bipush 11, 2) := by decide +kernel
theorem dX8_count_7 : decode cX8_count 7 = .ok (.if_icmp .le 13, 3) := by decide +kernel
theorem dX8_count_10 : decode cX8_count 10 = .ok (.new 62, 3) := by decide +kernel
theorem dX8_count_13 : decode cX8_count 13 = .ok (.dup, 1) := by decide +kernel
theorem dX8_count_14 : decode cX8_count 14 = .ok (.ldc 193, 2) := by decide +kernel
theorem dX8_count_16 : decode cX8_count 16 = .ok (.invokespecial 66, 3) := by decide +kernel
theorem dX8_count_19 : decode cX8_count 19 = .ok (.athrow, 1) := by decide +kernel
theorem dX8_count_20 : decode cX8_count 20 = .ok (.aload_n 0, 1) := by decide +kernel
theorem dX8_count_21 : decode cX8_count 21 = .ok (.iload_n 1, 1) := by decide +kernel
theorem dX8_count_22 : decode cX8_count 22 = .ok (.invokevirtual 225, 3) := by decide +kernel
theorem dX8_count_25 : decode cX8_count 25 = .ok (.ireturn, 1) := by decide +kernel
set_option maxHeartbeats 4000000 in
set_option maxRecDepth 100000 in
theorem w_X8_count_j10 {w : WT} {l : Launch} {p : Program} {e : Env} {s : State} {m : MethodId} {args : Array Value} {below : List Frame} {meth : Method} {c : Code} (C : KC w p s m args meth c cX8_count 2 RX8 (some .int)) (T : KT w l s c) {M : Mem} {L : Lng} {out : Nat ⊕ (Int32)} (hf : f_X8_count_j10 M = some out) : AtL w p l e ({ frames := 6, cells := 1, slots := 6, locals := 90 } : Room) s m args below meth c (vx_MQ below (QX w (xo out M) L) (XX w (xo out M) L) args s 1 6 (wA w)) 2 10 M L [] [] := by
  intro H locs ls hP hS hl
  unfold f_X8_count_j10 at hf
  cases hf
  exact k_thr C T hP hS hl.1 1 (by decide) q547 q15 (List.mem_of_getElem? (i := 14) rfl) dX8_count_10 dX8_count_13 dX8_count_14 dX8_count_16 dX8_count_19 (Nat.le_of_ble_eq_true rfl) (Nat.le_of_ble_eq_true rfl) (Nat.le_refl _) (Nat.le_refl _)
set_option maxHeartbeats 4000000 in
set_option maxRecDepth 100000 in
theorem c_X8_count (w : WT) (l : Launch) (hw : WOK w) (hfl : l.stackTraces = false) {a1 : Int32} {M : Mem} {L : Lng} {out : Nat ⊕ (Int32)} (hf : f_X8_count a1 M = some out) : vx_Met l yX8_count (Cond.code yX8_count cX8_count 2 (some .int) :: BG) ({ frames := 6, cells := 1, slots := 6, locals := 90 } : Room) (PREX w [.ref (wAd w 0), .int a1] M L) (QX w (xo out M) L) (XX w (xo out M) L) 1 6 (wA w) := by
  refine kEntX hw hfl (by decide +kernel) rfl (Nat.le_of_ble_eq_true rfl) ?_
  intro p e s m args below meth c C T ls hl hP
  have hS : va_S (wA w) s.heap s.heap [] := va_S.rf
  have hl : lv_has ls 2 [(0, .ref (wAd w 0)), (1, .int a1)] := hl
  unfold f_X8_count at hf
  refine lv_iload_n C.1 C.2.1 dX8_count_0 rfl (lv_at hl 1 rfl) ?_
  refine lv_if_lt (tgt := 10) C.1 C.2.1 dX8_count_1 (by decide) (fun c1 => ?_) (fun c1 => ?_)
  · have hf := (if_pos c1).symm.trans hf
    exact w_X8_count_j10 C T hf _ _ _ hP hS (lv_sub hl [] rfl)
  · have hf := (if_neg c1).symm.trans hf
    refine lv_iload_n C.1 C.2.1 dX8_count_4 rfl (lv_at hl 1 rfl) ?_
    refine lv_bipush (v := 11) C.1 C.2.1 dX8_count_5 (by decide) ?_
    refine lv_icmp_le (tgt := 20) C.1 C.2.1 dX8_count_7 (by decide) (fun c2 => ?_) (fun c2 => ?_)
    · have hf := (if_pos c2).symm.trans hf
      refine lv_aload_n C.1 C.2.1 dX8_count_20 rfl (lv_at hl 0 rfl) ?_
      refine lv_iload_n C.1 C.2.1 dX8_count_21 rfl (lv_at hl 1 rfl) ?_
      obtain ⟨r3, hr3, hf⟩ := ob hf
      refine kci (kV (As := [.int a1]) (rest := []) C hl.1 hP hS (c_X8_numberOf w l C.2.2.2.2.2.2.2.2 (L := L) hr3) (gV q356 q358 qp6 q1 q359) hd_X8_numberOf (lt_NoisePost h0_NoisePost) (ob_NoisePost h0_NoisePost w L _) rfl ⟨rfl, rfl⟩ ⟨Nat.le_of_ble_eq_true rfl, Nat.le_of_ble_eq_true rfl⟩ rfl rfl (Nat.le_of_ble_eq_true rfl) dX8_count_22 ⟨Nat.zero_le _, Nat.zero_le _⟩) hS (fun H locs hP hS => ?_)
      cases hf
      exact krix C hP hS dX8_count_25
    · have hf := (if_neg c2).symm.trans hf
      exact w_X8_count_j10 C T hf _ _ _ hP hS (lv_sub hl [] rfl)
theorem dX8_setting_0 : decode cX8_setting 0 = .ok (.iload_n 1, 1) := by decide +kernel
theorem dX8_setting_1 : decode cX8_setting 1 = .ok (.invokestatic 47, 3) := by decide +kernel
theorem dX8_setting_4 : decode cX8_setting 4 = .ok (.ifCond .ne 13, 3) := by decide +kernel
theorem dX8_setting_7 : decode cX8_setting 7 = .ok (.new 51, 3) := by decide +kernel
theorem dX8_setting_10 : decode cX8_setting 10 = .ok (.dup, 1) := by decide +kernel
theorem dX8_setting_11 : decode cX8_setting 11 = .ok (.ldc 53, 2) := by decide +kernel
theorem dX8_setting_13 : decode cX8_setting 13 = .ok (.invokespecial 55, 3) := by decide +kernel
theorem dX8_setting_16 : decode cX8_setting 16 = .ok (.athrow, 1) := by decide +kernel
theorem dX8_setting_17 : decode cX8_setting 17 = .ok (.aload_n 0, 1) := by decide +kernel
theorem dX8_setting_18 : decode cX8_setting 18 = .ok (.getfield 10, 3) := by decide +kernel
theorem dX8_setting_21 : decode cX8_setting 21 = .ok (.getfield 71, 3) := by decide +kernel
theorem dX8_setting_24 : decode cX8_setting 24 = .ok (.iload_n 1, 1) := by decide +kernel
theorem dX8_setting_25 : decode cX8_setting 25 = .ok (.iaload, 1) := by decide +kernel
theorem dX8_setting_26 : decode cX8_setting 26 = .ok (.ireturn, 1) := by decide +kernel
set_option maxHeartbeats 4000000 in
set_option maxRecDepth 100000 in
theorem c_X8_setting (w : WT) (l : Launch) (hw : WOK w) (hfl : l.stackTraces = false) {a1 : Int32} {M : Mem} {L : Lng} {out : Nat ⊕ (Int32)} (hf : f_X8_setting a1 M = some out) : vx_Met l yX8_setting (Cond.code yX8_setting cX8_setting 2 (some .int) :: BG) ({ frames := 6, cells := 1, slots := 6, locals := 90 } : Room) (PREX w [.ref (wAd w 0), .int a1] M L) (QX w (xo out M) L) (XX w (xo out M) L) 1 6 (wA w) := by
  refine kEntX hw hfl (by decide +kernel) rfl (Nat.le_of_ble_eq_true rfl) ?_
  intro p e s m args below meth c C T ls hl hP
  have hS : va_S (wA w) s.heap s.heap [] := va_S.rf
  have hl : lv_has ls 2 [(0, .ref (wAd w 0)), (1, .int a1)] := hl
  unfold f_X8_setting at hf
  refine lv_iload_n C.1 C.2.1 dX8_setting_0 rfl (lv_at hl 1 rfl) ?_
  obtain ⟨r1, hr1, hf⟩ := ob hf
  refine kci (kS (As := [.int a1]) (rest := []) C hl.1 hP hS (c_X8_isSetting w l C.2.2.2.2.2.2.2.2 (L := L) hr1) (gS q469 q470 q1 q471) hd_X8_isSetting ⟨rfl, rfl⟩ ⟨Nat.le_of_ble_eq_true rfl, Nat.le_of_ble_eq_true rfl⟩ rfl rfl (Nat.le_of_ble_eq_true rfl) dX8_setting_1 ⟨Nat.zero_le _, Nat.zero_le _⟩) hS (fun H locs hP hS => ?_)
  refine lv_if_ne (tgt := 17) C.1 C.2.1 dX8_setting_4 (by decide) (fun c2 => ?_) (fun c2 => ?_)
  · have hf := (if_neg c2).symm.trans hf
    refine lv_aload_n C.1 C.2.1 dX8_setting_17 rfl (lv_at hl 0 rfl) ?_
    refine k_get (v := .ref (wAd w 1)) C hP (lt_NoisePost h0_NoisePost) (ob_NoisePost h0_NoisePost w L _) rfl iX8 0 (by decide) q284 rfl dX8_setting_18 ?_
    refine k_get (v := .ref (wAd w 4)) C hP (lt_State to_NoisePost_state) (ob_State to_NoisePost_state w L _) rfl iX5 2 (by decide) q50 rfl dX8_setting_21 ?_
    refine lv_iload_n C.1 C.2.1 dX8_setting_24 rfl (lv_at hl 1 rfl) ?_
    obtain ⟨x3, hx3, hf⟩ := ob hf
    refine k_iald C hP (la_State_settings to_NoisePost_state) (ar_State_settings to_NoisePost_state w L _) hx3 dX8_setting_25 ?_
    cases hf
    exact krix C hP hS dX8_setting_26
  · have hf := (if_pos c2).symm.trans hf
    cases hf
    exact k_thr C T hP hS hl.1 0 (by decide) q472 q14 (List.mem_of_getElem? (i := 0) rfl) dX8_setting_7 dX8_setting_10 dX8_setting_11 dX8_setting_13 dX8_setting_16 (Nat.le_of_ble_eq_true rfl) (Nat.le_of_ble_eq_true rfl) (Nat.le_refl _) (Nat.le_refl _)
theorem dX8_ifSet_0 : decode cX8_ifSet 0 = .ok (.iload_n 1, 1) := by decide +kernel
theorem dX8_ifSet_1 : decode cX8_ifSet 1 = .ok (.invokestatic 47, 3) := by decide +kernel
theorem dX8_ifSet_4 : decode cX8_ifSet 4 = .ok (.ifCond .ne 13, 3) := by decide +kernel
theorem dX8_ifSet_7 : decode cX8_ifSet 7 = .ok (.new 51, 3) := by decide +kernel
theorem dX8_ifSet_10 : decode cX8_ifSet 10 = .ok (.dup, 1) := by decide +kernel
theorem dX8_ifSet_11 : decode cX8_ifSet 11 = .ok (.ldc 53, 2) := by decide +kernel
theorem dX8_ifSet_13 : decode cX8_ifSet 13 = .ok (.invokespecial 55, 3) := by decide +kernel
theorem dX8_ifSet_16 : decode cX8_ifSet 16 = .ok (.athrow, 1) := by decide +kernel
theorem dX8_ifSet_17 : decode cX8_ifSet 17 = .ok (.iload_n 1, 1) := by decide +kernel
theorem dX8_ifSet_18 : decode cX8_ifSet 18 = .ok (.iload_n 2, 1) := by decide +kernel
theorem dX8_ifSet_19 : decode cX8_ifSet 19 = .ok (.invokestatic 58, 3) := by decide +kernel
theorem dX8_ifSet_22 : decode cX8_ifSet 22 = .ok (.ifCond .eq 13, 3) := by decide +kernel
theorem dX8_ifSet_25 : decode cX8_ifSet 25 = .ok (.iload_n 3, 1) := by decide +kernel
theorem dX8_ifSet_26 : decode cX8_ifSet 26 = .ok (.ifCond .lt 9, 3) := by decide +kernel
theorem dX8_ifSet_29 : decode cX8_ifSet 29 = .ok (.iload_n 3, 1) := by decide +kernel
theorem dX8_ifSet_30 : decode cX8_ifSet 30 = .ok (.bipush 9, 2) := by decide +kernel
theorem dX8_ifSet_32 : decode cX8_ifSet 32 = .ok (.if_icmp .le 13, 3) := by decide +kernel
theorem dX8_ifSet_35 : decode cX8_ifSet 35 = .ok (.new 62, 3) := by decide +kernel
theorem dX8_ifSet_38 : decode cX8_ifSet 38 = .ok (.dup, 1) := by decide +kernel
theorem dX8_ifSet_39 : decode cX8_ifSet 39 = .ok (.ldc 229, 2) := by decide +kernel
theorem dX8_ifSet_41 : decode cX8_ifSet 41 = .ok (.invokespecial 66, 3) := by decide +kernel
theorem dX8_ifSet_44 : decode cX8_ifSet 44 = .ok (.athrow, 1) := by decide +kernel
theorem dX8_ifSet_45 : decode cX8_ifSet 45 = .ok (.aload_n 0, 1) := by decide +kernel
theorem dX8_ifSet_46 : decode cX8_ifSet 46 = .ok (.getfield 37, 3) := by decide +kernel
theorem dX8_ifSet_49 : decode cX8_ifSet 49 = .ok (.aload_n 0, 1) := by decide +kernel
theorem dX8_ifSet_50 : decode cX8_ifSet 50 = .ok (.getfield 10, 3) := by decide +kernel
theorem dX8_ifSet_53 : decode cX8_ifSet 53 = .ok (.getfield 71, 3) := by decide +kernel
theorem dX8_ifSet_56 : decode cX8_ifSet 56 = .ok (.invokevirtual 231, 3) := by decide +kernel
theorem dX8_ifSet_59 : decode cX8_ifSet 59 = .ok (.aload_n 0, 1) := by decide +kernel
theorem dX8_ifSet_60 : decode cX8_ifSet 60 = .ok (.getfield 37, 3) := by decide +kernel
theorem dX8_ifSet_63 : decode cX8_ifSet 63 = .ok (.getfield 235, 3) := by decide +kernel
theorem dX8_ifSet_66 : decode cX8_ifSet 66 = .ok (.iload_n 1, 1) := by decide +kernel
theorem dX8_ifSet_67 : decode cX8_ifSet 67 = .ok (.iload_n 2, 1) := by decide +kernel
theorem dX8_ifSet_68 : decode cX8_ifSet 68 = .ok (.iastore, 1) := by decide +kernel
theorem dX8_ifSet_69 : decode cX8_ifSet 69 = .ok (.aload_n 0, 1) := by decide +kernel
theorem dX8_ifSet_70 : decode cX8_ifSet 70 = .ok (.getfield 37, 3) := by decide +kernel
theorem dX8_ifSet_73 : decode cX8_ifSet 73 = .ok (.aload_n 0, 1) := by decide +kernel
theorem dX8_ifSet_74 : decode cX8_ifSet 74 = .ok (.getfield 10, 3) := by decide +kernel
theorem dX8_ifSet_77 : decode cX8_ifSet 77 = .ok (.invokevirtual 236, 3) := by decide +kernel
theorem dX8_ifSet_80 : decode cX8_ifSet 80 = .ok (.aload_n 0, 1) := by decide +kernel
theorem dX8_ifSet_81 : decode cX8_ifSet 81 = .ok (.getfield 37, 3) := by decide +kernel
theorem dX8_ifSet_84 : decode cX8_ifSet 84 = .ok (.iload_n 3, 1) := by decide +kernel
theorem dX8_ifSet_85 : decode cX8_ifSet 85 = .ok (.invokevirtual 239, 3) := by decide +kernel
theorem dX8_ifSet_88 : decode cX8_ifSet 88 = .ok (.ireturn, 1) := by decide +kernel
set_option maxHeartbeats 4000000 in
set_option maxRecDepth 100000 in
theorem w_X8_ifSet_j35 {w : WT} {l : Launch} {p : Program} {e : Env} {s : State} {m : MethodId} {args : Array Value} {below : List Frame} {meth : Method} {c : Code} (C : KC w p s m args meth c cX8_ifSet 4 RX8 (some .int)) (T : KT w l s c) {M : Mem} {L : Lng} {out : (Nat × Mem) ⊕ (Int32 × Mem)} (hf : f_X8_ifSet_j35 M = some out) : AtL w p l e ({ frames := 6, cells := 1, slots := 6, locals := 111 } : Room) s m args below meth c (vx_MQ below (QX w out L) (XX w out L) args s 1 6 (wA w)) 4 35 M L [] [] := by
  intro H locs ls hP hS hl
  unfold f_X8_ifSet_j35 at hf
  cases hf
  exact k_thr C T hP hS hl.1 1 (by decide) q547 q15 (List.mem_of_getElem? (i := 18) rfl) dX8_ifSet_35 dX8_ifSet_38 dX8_ifSet_39 dX8_ifSet_41 dX8_ifSet_44 (Nat.le_of_ble_eq_true rfl) (Nat.le_of_ble_eq_true rfl) (Nat.le_refl _) (Nat.le_refl _)
set_option maxHeartbeats 4000000 in
set_option maxRecDepth 100000 in
theorem c_X8_ifSet (w : WT) (l : Launch) (hw : WOK w) (hfl : l.stackTraces = false) {a1 : Int32} {a2 : Int32} {a3 : Int32} {M : Mem} {L : Lng} {out : (Nat × Mem) ⊕ (Int32 × Mem)} (hf : f_X8_ifSet a1 a2 a3 M = some out) : vx_Met l yX8_ifSet (Cond.code yX8_ifSet cX8_ifSet 4 (some .int) :: BG) ({ frames := 6, cells := 1, slots := 6, locals := 111 } : Room) (PREX w [.ref (wAd w 0), .int a1, .int a2, .int a3] M L) (QX w out L) (XX w out L) 1 6 (wA w) := by
  refine kEntX hw hfl (by decide +kernel) rfl (Nat.le_of_ble_eq_true rfl) ?_
  intro p e s m args below meth c C T ls hl hP
  have hS : va_S (wA w) s.heap s.heap [] := va_S.rf
  have hl : lv_has ls 4 [(0, .ref (wAd w 0)), (1, .int a1), (2, .int a2), (3, .int a3)] := hl
  unfold f_X8_ifSet at hf
  refine lv_iload_n C.1 C.2.1 dX8_ifSet_0 rfl (lv_at hl 1 rfl) ?_
  obtain ⟨r1, hr1, hf⟩ := ob hf
  refine kci (kS (As := [.int a1]) (rest := []) C hl.1 hP hS (c_X8_isSetting w l C.2.2.2.2.2.2.2.2 (L := L) hr1) (gS q469 q470 q1 q471) hd_X8_isSetting ⟨rfl, rfl⟩ ⟨Nat.le_of_ble_eq_true rfl, Nat.le_of_ble_eq_true rfl⟩ rfl rfl (Nat.le_of_ble_eq_true rfl) dX8_ifSet_1 ⟨Nat.zero_le _, Nat.zero_le _⟩) hS (fun H locs hP hS => ?_)
  refine lv_if_ne (tgt := 17) C.1 C.2.1 dX8_ifSet_4 (by decide) (fun c2 => ?_) (fun c2 => ?_)
  · have hf := (if_neg c2).symm.trans hf
    refine lv_iload_n C.1 C.2.1 dX8_ifSet_17 rfl (lv_at hl 1 rfl) ?_
    refine lv_iload_n C.1 C.2.1 dX8_ifSet_18 rfl (lv_at hl 2 rfl) ?_
    obtain ⟨r3, hr3, hf⟩ := ob hf
    refine kci (kS (As := [.int a1, .int a2]) (rest := []) C hl.1 hP hS (c_X8_fitsSetting w l C.2.2.2.2.2.2.2.2 (L := L) hr3) (gS q540 q541 q1 q542) hd_X8_fitsSetting ⟨rfl, rfl⟩ ⟨Nat.le_of_ble_eq_true rfl, Nat.le_of_ble_eq_true rfl⟩ rfl rfl (Nat.le_of_ble_eq_true rfl) dX8_ifSet_19 ⟨Nat.zero_le _, Nat.zero_le _⟩) hS (fun H locs hP hS => ?_)
    refine lv_if_eq (tgt := 35) C.1 C.2.1 dX8_ifSet_22 (by decide) (fun c4 => ?_) (fun c4 => ?_)
    · have hf := (if_pos c4).symm.trans hf
      exact w_X8_ifSet_j35 C T hf _ _ _ hP hS (lv_sub hl [] rfl)
    · have hf := (if_neg c4).symm.trans hf
      refine lv_iload_n C.1 C.2.1 dX8_ifSet_25 rfl (lv_at hl 3 rfl) ?_
      refine lv_if_lt (tgt := 35) C.1 C.2.1 dX8_ifSet_26 (by decide) (fun c5 => ?_) (fun c5 => ?_)
      · have hf := (if_pos c5).symm.trans hf
        exact w_X8_ifSet_j35 C T hf _ _ _ hP hS (lv_sub hl [] rfl)
      · have hf := (if_neg c5).symm.trans hf
        refine lv_iload_n C.1 C.2.1 dX8_ifSet_29 rfl (lv_at hl 3 rfl) ?_
        refine lv_bipush (v := 9) C.1 C.2.1 dX8_ifSet_30 (by decide) ?_
        refine lv_icmp_le (tgt := 45) C.1 C.2.1 dX8_ifSet_32 (by decide) (fun c6 => ?_) (fun c6 => ?_)
        · have hf := (if_pos c6).symm.trans hf
          refine lv_aload_n C.1 C.2.1 dX8_ifSet_45 rfl (lv_at hl 0 rfl) ?_
          refine k_get (v := .ref (wAd w 71)) C hP (lt_NoisePost h0_NoisePost) (ob_NoisePost h0_NoisePost w L _) rfl iX8 4 (by decide) q288 rfl dX8_ifSet_46 ?_
          refine lv_aload_n C.1 C.2.1 dX8_ifSet_49 rfl (lv_at hl 0 rfl) ?_
          refine k_get (v := .ref (wAd w 1)) C hP (lt_NoisePost h0_NoisePost) (ob_NoisePost h0_NoisePost w L _) rfl iX8 0 (by decide) q284 rfl dX8_ifSet_50 ?_
          refine k_get (v := .ref (wAd w 4)) C hP (lt_State to_NoisePost_state) (ob_State to_NoisePost_state w L _) rfl iX5 2 (by decide) q50 rfl dX8_ifSet_53 ?_
          obtain ⟨r7, hr7, hf⟩ := ob hf
          refine kcv (kV (As := [.ref (wAd w 4)]) (rest := []) C hl.1 hP hS (c_X7_takeSettings w l C.2.2.2.2.2.2.2.2 to_NoisePost_tried s_St (L := L) hr7) (gV q581 q582 q583 q5 q584) hd_X7_takeSettings (lt_View to_NoisePost_tried) (ob_View to_NoisePost_tried w L _) rfl ⟨rfl, rfl⟩ ⟨Nat.le_of_ble_eq_true rfl, Nat.le_of_ble_eq_true rfl⟩ rfl rfl (Nat.le_of_ble_eq_true rfl) dX8_ifSet_56 ⟨Nat.zero_le _, Nat.zero_le _⟩) hS (fun H locs hP hS => ?_)
          refine lv_aload_n C.1 C.2.1 dX8_ifSet_59 rfl (lv_at hl 0 rfl) ?_
          refine k_get (v := .ref (wAd w 71)) C hP (lt_NoisePost h0_NoisePost) (ob_NoisePost h0_NoisePost w L _) rfl iX8 4 (by decide) q288 rfl dX8_ifSet_60 ?_
          refine k_get (v := .ref (wAd w 72)) C hP (lt_View to_NoisePost_tried) (ob_View to_NoisePost_tried w L _) rfl iX7 0 (by decide) q257 rfl dX8_ifSet_63 ?_
          refine lv_iload_n C.1 C.2.1 dX8_ifSet_66 rfl (lv_at hl 1 rfl) ?_
          refine lv_iload_n C.1 C.2.1 dX8_ifSet_67 rfl (lv_at hl 2 rfl) ?_
          obtain ⟨M8, hM8, hf⟩ := ob hf
          refine k_iast C hP hS (la_View_settings to_NoisePost_tried) (ar_View_settings to_NoisePost_tried w L) hM8 dX8_ifSet_68 (fun H locs hP hS => ?_)
          refine lv_aload_n C.1 C.2.1 dX8_ifSet_69 rfl (lv_at hl 0 rfl) ?_
          refine k_get (v := .ref (wAd w 71)) C hP (lt_NoisePost h0_NoisePost) (ob_NoisePost h0_NoisePost w L _) rfl iX8 4 (by decide) q288 rfl dX8_ifSet_70 ?_
          refine lv_aload_n C.1 C.2.1 dX8_ifSet_73 rfl (lv_at hl 0 rfl) ?_
          refine k_get (v := .ref (wAd w 1)) C hP (lt_NoisePost h0_NoisePost) (ob_NoisePost h0_NoisePost w L _) rfl iX8 0 (by decide) q284 rfl dX8_ifSet_74 ?_
          obtain ⟨r9, hr9, hf⟩ := ob hf
          refine kcv (kV (As := [.ref (wAd w 1)]) (rest := []) C hl.1 hP hS (c_X7_look w l C.2.2.2.2.2.2.2.2 to_NoisePost_tried to_NoisePost_state (L := L) hr9) (gV q586 q587 q588 q5 q589) hd_X7_look (lt_View to_NoisePost_tried) (ob_View to_NoisePost_tried w L _) rfl ⟨rfl, rfl⟩ ⟨Nat.le_of_ble_eq_true rfl, Nat.le_of_ble_eq_true rfl⟩ rfl rfl (Nat.le_of_ble_eq_true rfl) dX8_ifSet_77 ⟨Nat.zero_le _, Nat.zero_le _⟩) hS (fun H locs hP hS => ?_)
          refine lv_aload_n C.1 C.2.1 dX8_ifSet_80 rfl (lv_at hl 0 rfl) ?_
          refine k_get (v := .ref (wAd w 71)) C hP (lt_NoisePost h0_NoisePost) (ob_NoisePost h0_NoisePost w L _) rfl iX8 4 (by decide) q288 rfl dX8_ifSet_81 ?_
          refine lv_iload_n C.1 C.2.1 dX8_ifSet_84 rfl (lv_at hl 3 rfl) ?_
          obtain ⟨r10, hr10, hf⟩ := ob hf
          refine kci (kV (As := [.int a3]) (rest := []) C hl.1 hP hS (c_X7_numberOf w l C.2.2.2.2.2.2.2.2 to_NoisePost_tried (L := L) hr10) (gV q360 q361 q362 q5 q363) hd_X7_numberOf (lt_View to_NoisePost_tried) (ob_View to_NoisePost_tried w L _) rfl ⟨rfl, rfl⟩ ⟨Nat.le_of_ble_eq_true rfl, Nat.le_of_ble_eq_true rfl⟩ rfl rfl (Nat.le_of_ble_eq_true rfl) dX8_ifSet_85 ⟨Nat.zero_le _, Nat.zero_le _⟩) hS (fun H locs hP hS => ?_)
          cases hf
          exact krix C hP hS dX8_ifSet_88
        · have hf := (if_neg c6).symm.trans hf
          exact w_X8_ifSet_j35 C T hf _ _ _ hP hS (lv_sub hl [] rfl)
  · have hf := (if_pos c2).symm.trans hf
    cases hf
    exact k_thr C T hP hS hl.1 0 (by decide) q472 q14 (List.mem_of_getElem? (i := 0) rfl) dX8_ifSet_7 dX8_ifSet_10 dX8_ifSet_11 dX8_ifSet_13 dX8_ifSet_16 (Nat.le_of_ble_eq_true rfl) (Nat.le_of_ble_eq_true rfl) (Nat.le_refl _) (Nat.le_refl _)
theorem dX8_leastLimit_0 : decode cX8_leastLimit 0 = .ok (.iload_n 1, 1) := by decide +kernel
theorem dX8_leastLimit_1 : decode cX8_leastLimit 1 = .ok (.ifCond .lt 10, 3) := by decide +kernel
theorem dX8_leastLimit_4 : decode cX8_leastLimit 4 = .ok (.iload_n 1, 1) := by decide +kernel
theorem dX8_leastLimit_5 : decode cX8_leastLimit 5 = .ok (.sipush 200, 3) := by decide +kernel
theorem dX8_leastLimit_8 : decode cX8_leastLimit 8 = .ok (.if_icmp .le 13, 3) := by decide +kernel
theorem dX8_leastLimit_11 : decode cX8_leastLimit 11 = .ok (.new 62, 3) := by decide +kernel
theorem dX8_leastLimit_14 : decode cX8_leastLimit 14 = .ok (.dup, 1) := by decide +kernel
theorem dX8_leastLimit_15 : decode cX8_leastLimit 15 = .ok (.ldc 240, 2) := by decide +kernel
theorem dX8_leastLimit_17 : decode cX8_leastLimit 17 = .ok (.invokespecial 66, 3) := by decide +kernel
theorem dX8_leastLimit_20 : decode cX8_leastLimit 20 = .ok (.athrow, 1) := by decide +kernel
theorem dX8_leastLimit_21 : decode cX8_leastLimit 21 = .ok (.aload_n 0, 1) := by decide +kernel
theorem dX8_leastLimit_22 : decode cX8_leastLimit 22 = .ok (.getfield 33, 3) := by decide +kernel
theorem dX8_leastLimit_25 : decode cX8_leastLimit 25 = .ok (.iload_n 1, 1) := by decide +kernel
theorem dX8_leastLimit_26 : decode cX8_leastLimit 26 = .ok (.invokevirtual 242, 3) := by decide +kernel
theorem dX8_leastLimit_29 : decode cX8_leastLimit 29 = .ok (.ireturn, 1) := by decide +kernel
set_option maxHeartbeats 4000000 in
set_option maxRecDepth 100000 in
theorem w_X8_leastLimit_j11 {w : WT} {l : Launch} {p : Program} {e : Env} {s : State} {m : MethodId} {args : Array Value} {below : List Frame} {meth : Method} {c : Code} (C : KC w p s m args meth c cX8_leastLimit 2 RX8 (some .int)) (T : KT w l s c) {M : Mem} {L : Lng} {out : Nat ⊕ (Int32)} (hf : f_X8_leastLimit_j11 M = some out) : AtL w p l e ({ frames := 6, cells := 1, slots := 6, locals := 113 } : Room) s m args below meth c (vx_MQ below (QX w (xo out M) L) (XX w (xo out M) L) args s 1 6 (wA w)) 2 11 M L [] [] := by
  intro H locs ls hP hS hl
  unfold f_X8_leastLimit_j11 at hf
  cases hf
  exact k_thr C T hP hS hl.1 1 (by decide) q547 q15 (List.mem_of_getElem? (i := 19) rfl) dX8_leastLimit_11 dX8_leastLimit_14 dX8_leastLimit_15 dX8_leastLimit_17 dX8_leastLimit_20 (Nat.le_of_ble_eq_true rfl) (Nat.le_of_ble_eq_true rfl) (Nat.le_refl _) (Nat.le_refl _)
set_option maxHeartbeats 4000000 in
set_option maxRecDepth 100000 in
theorem c_X8_leastLimit (w : WT) (l : Launch) (hw : WOK w) (hfl : l.stackTraces = false) {a1 : Int32} {M : Mem} {L : Lng} {out : Nat ⊕ (Int32)} (hf : f_X8_leastLimit a1 M = some out) : vx_Met l yX8_leastLimit (Cond.code yX8_leastLimit cX8_leastLimit 2 (some .int) :: BG) ({ frames := 6, cells := 1, slots := 6, locals := 113 } : Room) (PREX w [.ref (wAd w 0), .int a1] M L) (QX w (xo out M) L) (XX w (xo out M) L) 1 6 (wA w) := by
  refine kEntX hw hfl (by decide +kernel) rfl (Nat.le_of_ble_eq_true rfl) ?_
  intro p e s m args below meth c C T ls hl hP
  have hS : va_S (wA w) s.heap s.heap [] := va_S.rf
  have hl : lv_has ls 2 [(0, .ref (wAd w 0)), (1, .int a1)] := hl
  unfold f_X8_leastLimit at hf
  refine lv_iload_n C.1 C.2.1 dX8_leastLimit_0 rfl (lv_at hl 1 rfl) ?_
  refine lv_if_lt (tgt := 11) C.1 C.2.1 dX8_leastLimit_1 (by decide) (fun c1 => ?_) (fun c1 => ?_)
  · have hf := (if_pos c1).symm.trans hf
    exact w_X8_leastLimit_j11 C T hf _ _ _ hP hS (lv_sub hl [] rfl)
  · have hf := (if_neg c1).symm.trans hf
    refine lv_iload_n C.1 C.2.1 dX8_leastLimit_4 rfl (lv_at hl 1 rfl) ?_
    refine lv_sipush (v := 200) C.1 C.2.1 dX8_leastLimit_5 (by decide) ?_
    refine lv_icmp_le (tgt := 21) C.1 C.2.1 dX8_leastLimit_8 (by decide) (fun c2 => ?_) (fun c2 => ?_)
    · have hf := (if_pos c2).symm.trans hf
      refine lv_aload_n C.1 C.2.1 dX8_leastLimit_21 rfl (lv_at hl 0 rfl) ?_
      refine k_get (v := .ref (wAd w 54)) C hP (lt_NoisePost h0_NoisePost) (ob_NoisePost h0_NoisePost w L _) rfl iX8 3 (by decide) q287 rfl dX8_leastLimit_22 ?_
      refine lv_iload_n C.1 C.2.1 dX8_leastLimit_25 rfl (lv_at hl 1 rfl) ?_
      obtain ⟨r3, hr3, hf⟩ := ob hf
      refine kci (kV (As := [.int a1]) (rest := []) C hl.1 hP hS (c_X7_leastLimitFor w l C.2.2.2.2.2.2.2.2 to_NoisePost_now (L := L) hr3) (gV q417 q418 q419 q5 q420) hd_X7_leastLimitFor (lt_View to_NoisePost_now) (ob_View to_NoisePost_now w L _) rfl ⟨rfl, rfl⟩ ⟨Nat.le_of_ble_eq_true rfl, Nat.le_of_ble_eq_true rfl⟩ rfl rfl (Nat.le_of_ble_eq_true rfl) dX8_leastLimit_26 ⟨Nat.zero_le _, Nat.zero_le _⟩) hS (fun H locs hP hS => ?_)
      cases hf
      exact krix C hP hS dX8_leastLimit_29
    · have hf := (if_neg c2).symm.trans hf
      exact w_X8_leastLimit_j11 C T hf _ _ _ hP hS (lv_sub hl [] rfl)
theorem dX8_aboveIn_0 : decode cX8_aboveIn 0 = .ok (.iload_n 1, 1) := by decide +kernel
theorem dX8_aboveIn_1 : decode cX8_aboveIn 1 = .ok (.invokestatic 78, 3) := by decide +kernel
theorem dX8_aboveIn_4 : decode cX8_aboveIn 4 = .ok (.ifCond .ne 13, 3) := by decide +kernel
theorem dX8_aboveIn_7 : decode cX8_aboveIn 7 = .ok (.new 62, 3) := by decide +kernel
theorem dX8_aboveIn_10 : decode cX8_aboveIn 10 = .ok (.dup, 1) := by decide +kernel
theorem dX8_aboveIn_11 : decode cX8_aboveIn 11 = .ok (.ldc 207, 2) := by decide +kernel
theorem dX8_aboveIn_13 : decode cX8_aboveIn 13 = .ok (.invokespecial 66, 3) := by decide +kernel
theorem dX8_aboveIn_16 : decode cX8_aboveIn 16 = .ok (.athrow, 1) := by decide +kernel
theorem dX8_aboveIn_17 : decode cX8_aboveIn 17 = .ok (.aload_n 0, 1) := by decide +kernel
theorem dX8_aboveIn_18 : decode cX8_aboveIn 18 = .ok (.getfield 33, 3) := by decide +kernel
theorem dX8_aboveIn_21 : decode cX8_aboveIn 21 = .ok (.iload_n 1, 1) := by decide +kernel
theorem dX8_aboveIn_22 : decode cX8_aboveIn 22 = .ok (.invokevirtual 245, 3) := by decide +kernel
theorem dX8_aboveIn_25 : decode cX8_aboveIn 25 = .ok (.ireturn, 1) := by decide +kernel
set_option maxHeartbeats 4000000 in
set_option maxRecDepth 100000 in
theorem c_X8_aboveIn (w : WT) (l : Launch) (hw : WOK w) (hfl : l.stackTraces = false) {a1 : Int32} {M : Mem} {L : Lng} {out : Nat ⊕ (Int32)} (hf : f_X8_aboveIn a1 M = some out) : vx_Met l yX8_aboveIn (Cond.code yX8_aboveIn cX8_aboveIn 2 (some .int) :: BG) ({ frames := 6, cells := 1, slots := 6, locals := 90 } : Room) (PREX w [.ref (wAd w 0), .int a1] M L) (QX w (xo out M) L) (XX w (xo out M) L) 1 6 (wA w) := by
  refine kEntX hw hfl (by decide +kernel) rfl (Nat.le_of_ble_eq_true rfl) ?_
  intro p e s m args below meth c C T ls hl hP
  have hS : va_S (wA w) s.heap s.heap [] := va_S.rf
  have hl : lv_has ls 2 [(0, .ref (wAd w 0)), (1, .int a1)] := hl
  unfold f_X8_aboveIn at hf
  refine lv_iload_n C.1 C.2.1 dX8_aboveIn_0 rfl (lv_at hl 1 rfl) ?_
  obtain ⟨r1, hr1, hf⟩ := ob hf
  refine kci (kS (As := [.int a1]) (rest := []) C hl.1 hP hS (c_X8_isLevel w l C.2.2.2.2.2.2.2.2 (L := L) hr1) (gS q657 q658 q1 q659) hd_X8_isLevel ⟨rfl, rfl⟩ ⟨Nat.le_of_ble_eq_true rfl, Nat.le_of_ble_eq_true rfl⟩ rfl rfl (Nat.le_of_ble_eq_true rfl) dX8_aboveIn_1 ⟨Nat.zero_le _, Nat.zero_le _⟩) hS (fun H locs hP hS => ?_)
  refine lv_if_ne (tgt := 17) C.1 C.2.1 dX8_aboveIn_4 (by decide) (fun c2 => ?_) (fun c2 => ?_)
  · have hf := (if_neg c2).symm.trans hf
    refine lv_aload_n C.1 C.2.1 dX8_aboveIn_17 rfl (lv_at hl 0 rfl) ?_
    refine k_get (v := .ref (wAd w 54)) C hP (lt_NoisePost h0_NoisePost) (ob_NoisePost h0_NoisePost w L _) rfl iX8 3 (by decide) q287 rfl dX8_aboveIn_18 ?_
    refine lv_iload_n C.1 C.2.1 dX8_aboveIn_21 rfl (lv_at hl 1 rfl) ?_
    obtain ⟨r3, hr3, hf⟩ := ob hf
    refine kci (kV (As := [.int a1]) (rest := []) C hl.1 hP hS (c_X7_minutesUntilAbove w l C.2.2.2.2.2.2.2.2 to_NoisePost_now (L := L) hr3) (gV q434 q435 q436 q5 q437) hd_X7_minutesUntilAbove (lt_View to_NoisePost_now) (ob_View to_NoisePost_now w L _) rfl ⟨rfl, rfl⟩ ⟨Nat.le_of_ble_eq_true rfl, Nat.le_of_ble_eq_true rfl⟩ rfl rfl (Nat.le_of_ble_eq_true rfl) dX8_aboveIn_22 ⟨Nat.zero_le _, Nat.zero_le _⟩) hS (fun H locs hP hS => ?_)
    cases hf
    exact krix C hP hS dX8_aboveIn_25
  · have hf := (if_pos c2).symm.trans hf
    cases hf
    exact k_thr C T hP hS hl.1 1 (by decide) q547 q15 (List.mem_of_getElem? (i := 16) rfl) dX8_aboveIn_7 dX8_aboveIn_10 dX8_aboveIn_11 dX8_aboveIn_13 dX8_aboveIn_16 (Nat.le_of_ble_eq_true rfl) (Nat.le_of_ble_eq_true rfl) (Nat.le_refl _) (Nat.le_refl _)
theorem dX8_share_0 : decode cX8_share 0 = .ok (.aload_n 0, 1) := by decide +kernel
theorem dX8_share_1 : decode cX8_share 1 = .ok (.getfield 33, 3) := by decide +kernel
theorem dX8_share_4 : decode cX8_share 4 = .ok (.getfield 214, 3) := by decide +kernel
theorem dX8_share_7 : decode cX8_share 7 = .ok (.invokevirtual 248, 3) := by decide +kernel
theorem dX8_share_10 : decode cX8_share 10 = .ok (.dreturn, 1) := by decide +kernel
set_option maxHeartbeats 4000000 in
set_option maxRecDepth 100000 in
theorem c_X8_share (w : WT) (l : Launch) (hw : WOK w) {M : Mem} {L : Lng} {out : UInt64} (hf : f_X8_share M = some out) : Met l yX8_share (Cond.code yX8_share cX8_share 1 (some .double) :: BG) ({ frames := 1, cells := 0, slots := 0, locals := 20 } : Room) (PRE w [.ref (wAd w 0)] M L) (QD w out M L) 0 0 (wA w) := by
  refine kEnt hw (by decide +kernel) rfl (Nat.le_of_ble_eq_true rfl) ?_
  intro p e s m args below meth c C ls hl hP
  have hS : va_S (wA w) s.heap s.heap [] := va_S.rf
  have hl : lv_has ls 1 [(0, .ref (wAd w 0))] := hl
  unfold f_X8_share at hf
  refine lv_aload_n C.1 C.2.1 dX8_share_0 rfl (lv_at hl 0 rfl) ?_
  refine k_get (v := .ref (wAd w 54)) C hP (lt_NoisePost h0_NoisePost) (ob_NoisePost h0_NoisePost w L _) rfl iX8 3 (by decide) q287 rfl dX8_share_1 ?_
  refine k_get (v := .ref (wAd w 56)) C hP (lt_View to_NoisePost_now) (ob_View to_NoisePost_now w L _) rfl iX7 1 (by decide) q259 rfl dX8_share_4 ?_
  obtain ⟨r1, hr1, hf⟩ := ob hf
  refine kcd (kV (As := []) (rest := []) C hl.1 hP hS (c_X4_shareAbove w l C.2.2.2.2.2.2.2.2 (to_View_minutes to_NoisePost_now) (L := L) hr1) (gV q347 q348 q349 q6 q350) hd_X4_shareAbove (lt_Minutes (to_View_minutes to_NoisePost_now)) (ob_Minutes (to_View_minutes to_NoisePost_now) w L _) rfl ⟨rfl, rfl⟩ ⟨Nat.le_of_ble_eq_true rfl, Nat.le_of_ble_eq_true rfl⟩ rfl rfl (Nat.le_of_ble_eq_true rfl) dX8_share_7 ⟨Nat.zero_le _, Nat.zero_le _⟩) hS (fun H locs hP hS => ?_)
  cases hf
  exact krd C hP hS dX8_share_10
theorem dX8_mixed_0 : decode cX8_mixed 0 = .ok (.ldc2_w 334, 3) := by decide +kernel
theorem dX8_mixed_3 : decode cX8_mixed 3 = .ok (.lload_n 0, 1) := by decide +kernel
theorem dX8_mixed_4 : decode cX8_mixed 4 = .ok (.lmul, 1) := by decide +kernel
theorem dX8_mixed_5 : decode cX8_mixed 5 = .ok (.lload_n 2, 1) := by decide +kernel
theorem dX8_mixed_6 : decode cX8_mixed 6 = .ok (.ladd, 1) := by decide +kernel
theorem dX8_mixed_7 : decode cX8_mixed 7 = .ok (.lreturn, 1) := by decide +kernel
set_option maxHeartbeats 4000000 in
set_option maxRecDepth 100000 in
theorem c_X8_mixed (w : WT) (l : Launch) (hw : WOK w) {a0 : Int64} {a2 : Int64} {M : Mem} {L : Lng} {out : Int64} (hf : f_X8_mixed a0 a2 M = some out) : Met l yX8_mixed (Cond.code yX8_mixed cX8_mixed 4 (some .long) :: BG) ({ frames := 0, cells := 0, slots := 0, locals := 0 } : Room) (PRE w [.long a0, .long a2] M L) (QL w out M L) 0 0 (wA w) := by
  refine kEnt hw (by decide +kernel) rfl (Nat.le_of_ble_eq_true rfl) ?_
  intro p e s m args below meth c C ls hl hP
  have hS : va_S (wA w) s.heap s.heap [] := va_S.rf
  have hl : lv_has ls 4 [(0, .long a0), (2, .long a2)] := hl
  unfold f_X8_mixed at hf
  refine lv_ldc2 C.1 C.2.1 C.2.2.2.1 (C.2.2.2.2.1 _ q375) dX8_mixed_0 ?_
  refine lv_lload_n C.1 C.2.1 dX8_mixed_3 rfl (lv_at hl 0 rfl) ?_
  refine lv_lmul C.1 C.2.1 dX8_mixed_4 ?_
  refine lv_lload_n C.1 C.2.1 dX8_mixed_5 rfl (lv_at hl 1 rfl) ?_
  refine lv_ladd C.1 C.2.1 dX8_mixed_6 ?_
  cases hf
  exact krl C hP hS dX8_mixed_7
theorem dX8_withMinutes_0 : decode cX8_withMinutes 0 = .ok (.iconst 0, 1) := by decide +kernel
theorem dX8_withMinutes_1 : decode cX8_withMinutes 1 = .ok (.istore_n 3, 1) := by decide +kernel
theorem dX8_withMinutes_2 : decode cX8_withMinutes 2 = .ok (.iload_n 3, 1) := by decide +kernel
theorem dX8_withMinutes_3 : decode cX8_withMinutes 3 = .ok (.aload_n 0, 1) := by decide +kernel
theorem dX8_withMinutes_4 : decode cX8_withMinutes 4 = .ok (.getfield 10, 3) := by decide +kernel
theorem dX8_withMinutes_7 : decode cX8_withMinutes 7 = .ok (.getfield 86, 3) := by decide +kernel
theorem dX8_withMinutes_10 : decode cX8_withMinutes 10 = .ok (.if_icmp .ge 38, 3) := by decide +kernel
theorem dX8_withMinutes_13 : decode cX8_withMinutes 13 = .ok (.iconst 0, 1) := by decide +kernel
theorem dX8_withMinutes_14 : decode cX8_withMinutes 14 = .ok (.istore 4, 2) := by decide +kernel
theorem dX8_withMinutes_16 : decode cX8_withMinutes 16 = .ok (.iload 4, 2) := by decide +kernel
theorem dX8_withMinutes_18 : decode cX8_withMinutes 18 = .ok (.bipush 7, 2) := by decide +kernel
theorem dX8_withMinutes_20 : decode cX8_withMinutes 20 = .ok (.if_icmp .gt 22, 3) := by decide +kernel
theorem dX8_withMinutes_23 : decode cX8_withMinutes 23 = .ok (.lload_n 1, 1) := by decide +kernel
theorem dX8_withMinutes_24 : decode cX8_withMinutes 24 = .ok (.aload_n 0, 1) := by decide +kernel
theorem dX8_withMinutes_25 : decode cX8_withMinutes 25 = .ok (.iload_n 3, 1) := by decide +kernel
theorem dX8_withMinutes_26 : decode cX8_withMinutes 26 = .ok (.iload 4, 2) := by decide +kernel
theorem dX8_withMinutes_28 : decode cX8_withMinutes 28 = .ok (.invokevirtual 195, 3) := by decide +kernel
theorem dX8_withMinutes_31 : decode cX8_withMinutes 31 = .ok (.i2l, 1) := by decide +kernel
theorem dX8_withMinutes_32 : decode cX8_withMinutes 32 = .ok (.invokestatic 254, 3) := by decide +kernel
theorem dX8_withMinutes_35 : decode cX8_withMinutes 35 = .ok (.lstore_n 1, 1) := by decide +kernel
theorem dX8_withMinutes_36 : decode cX8_withMinutes 36 = .ok (.iinc 4 1, 3) := by decide +kernel
theorem dX8_withMinutes_39 : decode cX8_withMinutes 39 = .ok (.goto (-23), 3) := by decide +kernel
theorem dX8_withMinutes_42 : decode cX8_withMinutes 42 = .ok (.iinc 3 1, 3) := by decide +kernel
theorem dX8_withMinutes_45 : decode cX8_withMinutes 45 = .ok (.goto (-43), 3) := by decide +kernel
theorem dX8_withMinutes_48 : decode cX8_withMinutes 48 = .ok (.lload_n 1, 1) := by decide +kernel
theorem dX8_withMinutes_49 : decode cX8_withMinutes 49 = .ok (.lreturn, 1) := by decide +kernel
set_option maxHeartbeats 4000000 in
set_option maxRecDepth 100000 in
theorem w_X8_withMinutes_l16 {w : WT} {l : Launch} {p : Program} {e : Env} {s : State} {m : MethodId} {args : Array Value} {below : List Frame} {meth : Method} {c : Code} (C : KC w p s m args meth c cX8_withMinutes 5 RX8 (some .long)) {v3 : Int32} {M : Mem} {L : Lng} {Q : State → Prop} (z : Int64 × Int32) (o : (Int64 × Int32) ⊕ (Int64)) (hf : f_X8_withMinutes_l16 v3 M z = some o) (hA : ∀ z, o = .inl z → AtL w p l e ({ frames := 4, cells := 0, slots := 0, locals := 86 } : Room) s m args below meth c Q 5 16 M L [(0, .ref (wAd w 0)), (1, .long z.1), (3, .int v3), (4, .int z.2)] []) (hE : ∀ y, o = .inr y → AtL w p l e ({ frames := 4, cells := 0, slots := 0, locals := 86 } : Room) s m args below meth c Q 5 42 M L [(0, .ref (wAd w 0)), (1, .long y), (3, .int v3)] []) : AtL w p l e ({ frames := 4, cells := 0, slots := 0, locals := 86 } : Room) s m args below meth c Q 5 16 M L [(0, .ref (wAd w 0)), (1, .long z.1), (3, .int v3), (4, .int z.2)] [] := by
  intro H locs ls hP hS hl
  unfold f_X8_withMinutes_l16 at hf
  refine lv_iload C.1 C.2.1 dX8_withMinutes_16 (lv_at hl 3 rfl) ?_
  refine lv_bipush (v := 7) C.1 C.2.1 dX8_withMinutes_18 (by decide) ?_
  refine lv_icmp_gt (tgt := 42) C.1 C.2.1 dX8_withMinutes_20 (by decide) (fun c2 => ?_) (fun c2 => ?_)
  · have hf := (if_pos c2).symm.trans hf
    cases hf
    exact hE _ rfl _ _ _ hP hS (lv_sub hl [0, 1, 2] rfl)
  · have hf := (if_neg c2).symm.trans hf
    refine lv_lload_n C.1 C.2.1 dX8_withMinutes_23 rfl (lv_at hl 1 rfl) ?_
    refine lv_aload_n C.1 C.2.1 dX8_withMinutes_24 rfl (lv_at hl 0 rfl) ?_
    refine lv_iload_n C.1 C.2.1 dX8_withMinutes_25 rfl (lv_at hl 2 rfl) ?_
    refine lv_iload C.1 C.2.1 dX8_withMinutes_26 (lv_at hl 3 rfl) ?_
    obtain ⟨r3, hr3, hf⟩ := ob hf
    refine kci (kV (As := [.int v3, .int z.2]) (rest := [.long z.1]) C hl.1 hP hS (c_X8_minuteProperty w l C.2.2.2.2.2.2.2.2 (L := L) hr3) (gV q380 q382 qp8 q1 q383) hd_X8_minuteProperty (lt_NoisePost h0_NoisePost) (ob_NoisePost h0_NoisePost w L _) rfl ⟨rfl, rfl⟩ ⟨Nat.le_of_ble_eq_true rfl, Nat.le_of_ble_eq_true rfl⟩ rfl rfl (Nat.le_of_ble_eq_true rfl) dX8_withMinutes_28 ⟨Nat.zero_le _, Nat.zero_le _⟩) hS (fun H locs hP hS => ?_)
    refine lv_i2l (v := (Int32.toInt64 r3)) C.1 C.2.1 dX8_withMinutes_31 rfl ?_
    obtain ⟨r4, hr4, hf⟩ := ob hf
    refine kcl (kS (As := [.long z.1, .long (Int32.toInt64 r3)]) (rest := []) C hl.1 hP hS (c_X8_mixed w l C.2.2.2.2.2.2.2.2 (L := L) hr4) (gS q372 q373 q1 q374) hd_X8_mixed ⟨rfl, rfl⟩ ⟨Nat.le_of_ble_eq_true rfl, Nat.le_of_ble_eq_true rfl⟩ rfl rfl (Nat.le_of_ble_eq_true rfl) dX8_withMinutes_32 ⟨Nat.zero_le _, Nat.zero_le _⟩) hS (fun H locs hP hS => ?_)
    refine lv_lstore_n (lv' := [(1, .long r4), (0, .ref (wAd w 0)), (3, .int v3), (4, .int z.2)]) C.1 C.2.1 dX8_withMinutes_35 rfl hl (by decide) rfl (fun ls hl => ?_)
    refine lv_iinc (v := (z.2 + 1)) (lv' := [(4, .int (z.2 + 1)), (1, .long r4), (0, .ref (wAd w 0)), (3, .int v3)]) C.1 C.2.1 dX8_withMinutes_36 hl (k := 3) rfl rfl (by decide) rfl (fun ls hl => ?_)
    refine lv_goto (tgt := 16) C.1 C.2.1 dX8_withMinutes_39 (by decide) ?_
    cases hf
    exact hA _ rfl _ _ _ hP hS (lv_sub hl [2, 1, 3, 0] rfl)
set_option maxHeartbeats 4000000 in
set_option maxRecDepth 100000 in
theorem w_X8_withMinutes_l2 {w : WT} {l : Launch} {p : Program} {e : Env} {s : State} {m : MethodId} {args : Array Value} {below : List Frame} {meth : Method} {c : Code} (C : KC w p s m args meth c cX8_withMinutes 5 RX8 (some .long)) {M : Mem} {L : Lng} {Q : State → Prop} (z : Int64 × Int32) (o : (Int64 × Int32) ⊕ (Int64)) (hf : f_X8_withMinutes_l2 M z = some o) (hA : ∀ z, o = .inl z → AtL w p l e ({ frames := 4, cells := 0, slots := 0, locals := 86 } : Room) s m args below meth c Q 5 2 M L [(0, .ref (wAd w 0)), (1, .long z.1), (3, .int z.2)] []) (hE : ∀ y, o = .inr y → AtL w p l e ({ frames := 4, cells := 0, slots := 0, locals := 86 } : Room) s m args below meth c Q 5 48 M L [(1, .long y)] []) : AtL w p l e ({ frames := 4, cells := 0, slots := 0, locals := 86 } : Room) s m args below meth c Q 5 2 M L [(0, .ref (wAd w 0)), (1, .long z.1), (3, .int z.2)] [] := by
  intro H locs ls hP hS hl
  unfold f_X8_withMinutes_l2 at hf
  refine lv_iload_n C.1 C.2.1 dX8_withMinutes_2 rfl (lv_at hl 2 rfl) ?_
  refine lv_aload_n C.1 C.2.1 dX8_withMinutes_3 rfl (lv_at hl 0 rfl) ?_
  refine k_get (v := .ref (wAd w 1)) C hP (lt_NoisePost h0_NoisePost) (ob_NoisePost h0_NoisePost w L _) rfl iX8 0 (by decide) q284 rfl dX8_withMinutes_4 ?_
  refine k_get (v := .int (M 1 4)) C hP (lt_State to_NoisePost_state) (ob_State to_NoisePost_state w L _) rfl iX5 4 (by decide) q56 rfl dX8_withMinutes_7 ?_
  refine lv_icmp_ge (tgt := 48) C.1 C.2.1 dX8_withMinutes_10 (by decide) (fun c1 => ?_) (fun c1 => ?_)
  · have hf := (if_pos c1).symm.trans hf
    cases hf
    exact hE _ rfl _ _ _ hP hS (lv_sub hl [1] rfl)
  · have hf := (if_neg c1).symm.trans hf
    refine lv_iconst (v := 0) C.1 C.2.1 dX8_withMinutes_13 (by decide) ?_
    refine lv_istore (lv' := [(4, .int 0), (0, .ref (wAd w 0)), (1, .long z.1), (3, .int z.2)]) C.1 C.2.1 dX8_withMinutes_14 hl (by decide) rfl (fun ls hl => ?_)
    obtain ⟨o5, ho5, hf⟩ := ob hf
    refine loop_at (w_X8_withMinutes_l16 C) FU _ o5 ho5 ?_ _ _ _ hP hS (lv_sub hl [1, 2, 3, 0] rfl)
    intro H locs ls hP hS hl
    refine lv_iinc (v := (z.2 + 1)) (lv' := [(3, .int (z.2 + 1)), (0, .ref (wAd w 0)), (1, .long o5)]) C.1 C.2.1 dX8_withMinutes_42 hl (k := 2) rfl rfl (by decide) rfl (fun ls hl => ?_)
    refine lv_goto (tgt := 2) C.1 C.2.1 dX8_withMinutes_45 (by decide) ?_
    cases hf
    exact hA _ rfl _ _ _ hP hS (lv_sub hl [1, 2, 0] rfl)
set_option maxHeartbeats 4000000 in
set_option maxRecDepth 100000 in
theorem c_X8_withMinutes (w : WT) (l : Launch) (hw : WOK w) {a1 : Int64} {M : Mem} {L : Lng} {out : Int64} (hf : f_X8_withMinutes a1 M = some out) : Met l yX8_withMinutes (Cond.code yX8_withMinutes cX8_withMinutes 5 (some .long) :: BG) ({ frames := 4, cells := 0, slots := 0, locals := 86 } : Room) (PRE w [.ref (wAd w 0), .long a1] M L) (QL w out M L) 0 0 (wA w) := by
  refine kEnt hw (by decide +kernel) rfl (Nat.le_of_ble_eq_true rfl) ?_
  intro p e s m args below meth c C ls hl hP
  have hS : va_S (wA w) s.heap s.heap [] := va_S.rf
  have hl : lv_has ls 5 [(0, .ref (wAd w 0)), (1, .long a1)] := hl
  unfold f_X8_withMinutes at hf
  refine lv_iconst (v := 0) C.1 C.2.1 dX8_withMinutes_0 (by decide) ?_
  refine lv_istore_n (lv' := [(3, .int 0), (0, .ref (wAd w 0)), (1, .long a1)]) C.1 C.2.1 dX8_withMinutes_1 rfl hl (by decide) rfl (fun ls hl => ?_)
  obtain ⟨o6, ho6, hf⟩ := ob hf
  refine loop_at (w_X8_withMinutes_l2 C) FU _ o6 ho6 ?_ _ _ _ hP hS (lv_sub hl [1, 2, 0] rfl)
  intro H locs ls hP hS hl
  refine lv_lload_n C.1 C.2.1 dX8_withMinutes_48 rfl (lv_at hl 0 rfl) ?_
  cases hf
  exact krl C hP hS dX8_withMinutes_49
theorem dX8_withExceedances_0 : decode cX8_withExceedances 0 = .ok (.iconst 0, 1) := by decide +kernel
theorem dX8_withExceedances_1 : decode cX8_withExceedances 1 = .ok (.istore_n 3, 1) := by decide +kernel
theorem dX8_withExceedances_2 : decode cX8_withExceedances 2 = .ok (.iload_n 3, 1) := by decide +kernel
theorem dX8_withExceedances_3 : decode cX8_withExceedances 3 = .ok (.aload_n 0, 1) := by decide +kernel
theorem dX8_withExceedances_4 : decode cX8_withExceedances 4 = .ok (.getfield 33, 3) := by decide +kernel
theorem dX8_withExceedances_7 : decode cX8_withExceedances 7 = .ok (.getfield 112, 3) := by decide +kernel
theorem dX8_withExceedances_10 : decode cX8_withExceedances 10 = .ok (.getfield 116, 3) := by decide +kernel
theorem dX8_withExceedances_13 : decode cX8_withExceedances 13 = .ok (.if_icmp .ge 37, 3) := by decide +kernel
theorem dX8_withExceedances_16 : decode cX8_withExceedances 16 = .ok (.iconst 0, 1) := by decide +kernel
theorem dX8_withExceedances_17 : decode cX8_withExceedances 17 = .ok (.istore 4, 2) := by decide +kernel
theorem dX8_withExceedances_19 : decode cX8_withExceedances 19 = .ok (.iload 4, 2) := by decide +kernel
theorem dX8_withExceedances_21 : decode cX8_withExceedances 21 = .ok (.iconst 5, 1) := by decide +kernel
theorem dX8_withExceedances_22 : decode cX8_withExceedances 22 = .ok (.if_icmp .gt 22, 3) := by decide +kernel
theorem dX8_withExceedances_25 : decode cX8_withExceedances 25 = .ok (.lload_n 1, 1) := by decide +kernel
theorem dX8_withExceedances_26 : decode cX8_withExceedances 26 = .ok (.aload_n 0, 1) := by decide +kernel
theorem dX8_withExceedances_27 : decode cX8_withExceedances 27 = .ok (.iload_n 3, 1) := by decide +kernel
theorem dX8_withExceedances_28 : decode cX8_withExceedances 28 = .ok (.iload 4, 2) := by decide +kernel
theorem dX8_withExceedances_30 : decode cX8_withExceedances 30 = .ok (.invokevirtual 201, 3) := by decide +kernel
theorem dX8_withExceedances_33 : decode cX8_withExceedances 33 = .ok (.i2l, 1) := by decide +kernel
theorem dX8_withExceedances_34 : decode cX8_withExceedances 34 = .ok (.invokestatic 254, 3) := by decide +kernel
theorem dX8_withExceedances_37 : decode cX8_withExceedances 37 = .ok (.lstore_n 1, 1) := by decide +kernel
theorem dX8_withExceedances_38 : decode cX8_withExceedances 38 = .ok (.iinc 4 1, 3) := by decide +kernel
theorem dX8_withExceedances_41 : decode cX8_withExceedances 41 = .ok (.goto (-22), 3) := by decide +kernel
theorem dX8_withExceedances_44 : decode cX8_withExceedances 44 = .ok (.iinc 3 1, 3) := by decide +kernel
theorem dX8_withExceedances_47 : decode cX8_withExceedances 47 = .ok (.goto (-45), 3) := by decide +kernel
theorem dX8_withExceedances_50 : decode cX8_withExceedances 50 = .ok (.lload_n 1, 1) := by decide +kernel
theorem dX8_withExceedances_51 : decode cX8_withExceedances 51 = .ok (.lreturn, 1) := by decide +kernel
set_option maxHeartbeats 4000000 in
set_option maxRecDepth 100000 in
theorem w_X8_withExceedances_l19 {w : WT} {l : Launch} {p : Program} {e : Env} {s : State} {m : MethodId} {args : Array Value} {below : List Frame} {meth : Method} {c : Code} (C : KC w p s m args meth c cX8_withExceedances 5 RX8 (some .long)) {v3 : Int32} {M : Mem} {L : Lng} {Q : State → Prop} (z : Int64 × Int32) (o : (Int64 × Int32) ⊕ (Int64)) (hf : f_X8_withExceedances_l19 v3 M z = some o) (hA : ∀ z, o = .inl z → AtL w p l e ({ frames := 1, cells := 0, slots := 0, locals := 23 } : Room) s m args below meth c Q 5 19 M L [(0, .ref (wAd w 0)), (1, .long z.1), (3, .int v3), (4, .int z.2)] []) (hE : ∀ y, o = .inr y → AtL w p l e ({ frames := 1, cells := 0, slots := 0, locals := 23 } : Room) s m args below meth c Q 5 44 M L [(0, .ref (wAd w 0)), (1, .long y), (3, .int v3)] []) : AtL w p l e ({ frames := 1, cells := 0, slots := 0, locals := 23 } : Room) s m args below meth c Q 5 19 M L [(0, .ref (wAd w 0)), (1, .long z.1), (3, .int v3), (4, .int z.2)] [] := by
  intro H locs ls hP hS hl
  unfold f_X8_withExceedances_l19 at hf
  refine lv_iload C.1 C.2.1 dX8_withExceedances_19 (lv_at hl 3 rfl) ?_
  refine lv_iconst (v := 5) C.1 C.2.1 dX8_withExceedances_21 (by decide) ?_
  refine lv_icmp_gt (tgt := 44) C.1 C.2.1 dX8_withExceedances_22 (by decide) (fun c2 => ?_) (fun c2 => ?_)
  · have hf := (if_pos c2).symm.trans hf
    cases hf
    exact hE _ rfl _ _ _ hP hS (lv_sub hl [0, 1, 2] rfl)
  · have hf := (if_neg c2).symm.trans hf
    refine lv_lload_n C.1 C.2.1 dX8_withExceedances_25 rfl (lv_at hl 1 rfl) ?_
    refine lv_aload_n C.1 C.2.1 dX8_withExceedances_26 rfl (lv_at hl 0 rfl) ?_
    refine lv_iload_n C.1 C.2.1 dX8_withExceedances_27 rfl (lv_at hl 2 rfl) ?_
    refine lv_iload C.1 C.2.1 dX8_withExceedances_28 (lv_at hl 3 rfl) ?_
    obtain ⟨r3, hr3, hf⟩ := ob hf
    refine kci (kV (As := [.int v3, .int z.2]) (rest := [.long z.1]) C hl.1 hP hS (c_X8_exceedanceProperty w l C.2.2.2.2.2.2.2.2 (L := L) hr3) (gV q397 q399 qp10 q1 q400) hd_X8_exceedanceProperty (lt_NoisePost h0_NoisePost) (ob_NoisePost h0_NoisePost w L _) rfl ⟨rfl, rfl⟩ ⟨Nat.le_of_ble_eq_true rfl, Nat.le_of_ble_eq_true rfl⟩ rfl rfl (Nat.le_of_ble_eq_true rfl) dX8_withExceedances_30 ⟨Nat.zero_le _, Nat.zero_le _⟩) hS (fun H locs hP hS => ?_)
    refine lv_i2l (v := (Int32.toInt64 r3)) C.1 C.2.1 dX8_withExceedances_33 rfl ?_
    obtain ⟨r4, hr4, hf⟩ := ob hf
    refine kcl (kS (As := [.long z.1, .long (Int32.toInt64 r3)]) (rest := []) C hl.1 hP hS (c_X8_mixed w l C.2.2.2.2.2.2.2.2 (L := L) hr4) (gS q372 q373 q1 q374) hd_X8_mixed ⟨rfl, rfl⟩ ⟨Nat.le_of_ble_eq_true rfl, Nat.le_of_ble_eq_true rfl⟩ rfl rfl (Nat.le_of_ble_eq_true rfl) dX8_withExceedances_34 ⟨Nat.zero_le _, Nat.zero_le _⟩) hS (fun H locs hP hS => ?_)
    refine lv_lstore_n (lv' := [(1, .long r4), (0, .ref (wAd w 0)), (3, .int v3), (4, .int z.2)]) C.1 C.2.1 dX8_withExceedances_37 rfl hl (by decide) rfl (fun ls hl => ?_)
    refine lv_iinc (v := (z.2 + 1)) (lv' := [(4, .int (z.2 + 1)), (1, .long r4), (0, .ref (wAd w 0)), (3, .int v3)]) C.1 C.2.1 dX8_withExceedances_38 hl (k := 3) rfl rfl (by decide) rfl (fun ls hl => ?_)
    refine lv_goto (tgt := 19) C.1 C.2.1 dX8_withExceedances_41 (by decide) ?_
    cases hf
    exact hA _ rfl _ _ _ hP hS (lv_sub hl [2, 1, 3, 0] rfl)
set_option maxHeartbeats 4000000 in
set_option maxRecDepth 100000 in
theorem w_X8_withExceedances_l2 {w : WT} {l : Launch} {p : Program} {e : Env} {s : State} {m : MethodId} {args : Array Value} {below : List Frame} {meth : Method} {c : Code} (C : KC w p s m args meth c cX8_withExceedances 5 RX8 (some .long)) {M : Mem} {L : Lng} {Q : State → Prop} (z : Int64 × Int32) (o : (Int64 × Int32) ⊕ (Int64)) (hf : f_X8_withExceedances_l2 M z = some o) (hA : ∀ z, o = .inl z → AtL w p l e ({ frames := 1, cells := 0, slots := 0, locals := 23 } : Room) s m args below meth c Q 5 2 M L [(0, .ref (wAd w 0)), (1, .long z.1), (3, .int z.2)] []) (hE : ∀ y, o = .inr y → AtL w p l e ({ frames := 1, cells := 0, slots := 0, locals := 23 } : Room) s m args below meth c Q 5 50 M L [(1, .long y)] []) : AtL w p l e ({ frames := 1, cells := 0, slots := 0, locals := 23 } : Room) s m args below meth c Q 5 2 M L [(0, .ref (wAd w 0)), (1, .long z.1), (3, .int z.2)] [] := by
  intro H locs ls hP hS hl
  unfold f_X8_withExceedances_l2 at hf
  refine lv_iload_n C.1 C.2.1 dX8_withExceedances_2 rfl (lv_at hl 2 rfl) ?_
  refine lv_aload_n C.1 C.2.1 dX8_withExceedances_3 rfl (lv_at hl 0 rfl) ?_
  refine k_get (v := .ref (wAd w 54)) C hP (lt_NoisePost h0_NoisePost) (ob_NoisePost h0_NoisePost w L _) rfl iX8 3 (by decide) q287 rfl dX8_withExceedances_4 ?_
  refine k_get (v := .ref (wAd w 60)) C hP (lt_View to_NoisePost_now) (ob_View to_NoisePost_now w L _) rfl iX7 2 (by decide) q261 rfl dX8_withExceedances_7 ?_
  refine k_get (v := .int (M 60 6)) C hP (lt_Exceedances (to_View_exceedances to_NoisePost_now)) (ob_Exceedances (to_View_exceedances to_NoisePost_now) w L _) rfl iX0 6 (by decide) q209 rfl dX8_withExceedances_10 ?_
  refine lv_icmp_ge (tgt := 50) C.1 C.2.1 dX8_withExceedances_13 (by decide) (fun c1 => ?_) (fun c1 => ?_)
  · have hf := (if_pos c1).symm.trans hf
    cases hf
    exact hE _ rfl _ _ _ hP hS (lv_sub hl [1] rfl)
  · have hf := (if_neg c1).symm.trans hf
    refine lv_iconst (v := 0) C.1 C.2.1 dX8_withExceedances_16 (by decide) ?_
    refine lv_istore (lv' := [(4, .int 0), (0, .ref (wAd w 0)), (1, .long z.1), (3, .int z.2)]) C.1 C.2.1 dX8_withExceedances_17 hl (by decide) rfl (fun ls hl => ?_)
    obtain ⟨o5, ho5, hf⟩ := ob hf
    refine loop_at (w_X8_withExceedances_l19 C) FU _ o5 ho5 ?_ _ _ _ hP hS (lv_sub hl [1, 2, 3, 0] rfl)
    intro H locs ls hP hS hl
    refine lv_iinc (v := (z.2 + 1)) (lv' := [(3, .int (z.2 + 1)), (0, .ref (wAd w 0)), (1, .long o5)]) C.1 C.2.1 dX8_withExceedances_44 hl (k := 2) rfl rfl (by decide) rfl (fun ls hl => ?_)
    refine lv_goto (tgt := 2) C.1 C.2.1 dX8_withExceedances_47 (by decide) ?_
    cases hf
    exact hA _ rfl _ _ _ hP hS (lv_sub hl [1, 2, 0] rfl)
set_option maxHeartbeats 4000000 in
set_option maxRecDepth 100000 in
theorem c_X8_withExceedances (w : WT) (l : Launch) (hw : WOK w) {a1 : Int64} {M : Mem} {L : Lng} {out : Int64} (hf : f_X8_withExceedances a1 M = some out) : Met l yX8_withExceedances (Cond.code yX8_withExceedances cX8_withExceedances 5 (some .long) :: BG) ({ frames := 1, cells := 0, slots := 0, locals := 23 } : Room) (PRE w [.ref (wAd w 0), .long a1] M L) (QL w out M L) 0 0 (wA w) := by
  refine kEnt hw (by decide +kernel) rfl (Nat.le_of_ble_eq_true rfl) ?_
  intro p e s m args below meth c C ls hl hP
  have hS : va_S (wA w) s.heap s.heap [] := va_S.rf
  have hl : lv_has ls 5 [(0, .ref (wAd w 0)), (1, .long a1)] := hl
  unfold f_X8_withExceedances at hf
  refine lv_iconst (v := 0) C.1 C.2.1 dX8_withExceedances_0 (by decide) ?_
  refine lv_istore_n (lv' := [(3, .int 0), (0, .ref (wAd w 0)), (1, .long a1)]) C.1 C.2.1 dX8_withExceedances_1 rfl hl (by decide) rfl (fun ls hl => ?_)
  obtain ⟨o6, ho6, hf⟩ := ob hf
  refine loop_at (w_X8_withExceedances_l2 C) FU _ o6 ho6 ?_ _ _ _ hP hS (lv_sub hl [1, 2, 0] rfl)
  intro H locs ls hP hS hl
  refine lv_lload_n C.1 C.2.1 dX8_withExceedances_50 rfl (lv_at hl 0 rfl) ?_
  cases hf
  exact krl C hP hS dX8_withExceedances_51
theorem dX8_withComplaints_0 : decode cX8_withComplaints 0 = .ok (.iconst 0, 1) := by decide +kernel
theorem dX8_withComplaints_1 : decode cX8_withComplaints 1 = .ok (.istore_n 3, 1) := by decide +kernel
theorem dX8_withComplaints_2 : decode cX8_withComplaints 2 = .ok (.iload_n 3, 1) := by decide +kernel
theorem dX8_withComplaints_3 : decode cX8_withComplaints 3 = .ok (.aload_n 0, 1) := by decide +kernel
theorem dX8_withComplaints_4 : decode cX8_withComplaints 4 = .ok (.getfield 10, 3) := by decide +kernel
theorem dX8_withComplaints_7 : decode cX8_withComplaints 7 = .ok (.getfield 129, 3) := by decide +kernel
theorem dX8_withComplaints_10 : decode cX8_withComplaints 10 = .ok (.if_icmp .ge 33, 3) := by decide +kernel
theorem dX8_withComplaints_13 : decode cX8_withComplaints 13 = .ok (.lload_n 1, 1) := by decide +kernel
theorem dX8_withComplaints_14 : decode cX8_withComplaints 14 = .ok (.aload_n 0, 1) := by decide +kernel
theorem dX8_withComplaints_15 : decode cX8_withComplaints 15 = .ok (.iload_n 3, 1) := by decide +kernel
theorem dX8_withComplaints_16 : decode cX8_withComplaints 16 = .ok (.iconst 0, 1) := by decide +kernel
theorem dX8_withComplaints_17 : decode cX8_withComplaints 17 = .ok (.invokevirtual 204, 3) := by decide +kernel
theorem dX8_withComplaints_20 : decode cX8_withComplaints 20 = .ok (.i2l, 1) := by decide +kernel
theorem dX8_withComplaints_21 : decode cX8_withComplaints 21 = .ok (.invokestatic 254, 3) := by decide +kernel
theorem dX8_withComplaints_24 : decode cX8_withComplaints 24 = .ok (.lstore_n 1, 1) := by decide +kernel
theorem dX8_withComplaints_25 : decode cX8_withComplaints 25 = .ok (.lload_n 1, 1) := by decide +kernel
theorem dX8_withComplaints_26 : decode cX8_withComplaints 26 = .ok (.aload_n 0, 1) := by decide +kernel
theorem dX8_withComplaints_27 : decode cX8_withComplaints 27 = .ok (.iload_n 3, 1) := by decide +kernel
theorem dX8_withComplaints_28 : decode cX8_withComplaints 28 = .ok (.iconst 1, 1) := by decide +kernel
theorem dX8_withComplaints_29 : decode cX8_withComplaints 29 = .ok (.invokevirtual 204, 3) := by decide +kernel
theorem dX8_withComplaints_32 : decode cX8_withComplaints 32 = .ok (.i2l, 1) := by decide +kernel
theorem dX8_withComplaints_33 : decode cX8_withComplaints 33 = .ok (.invokestatic 254, 3) := by decide +kernel
theorem dX8_withComplaints_36 : decode cX8_withComplaints 36 = .ok (.lstore_n 1, 1) := by decide +kernel
theorem dX8_withComplaints_37 : decode cX8_withComplaints 37 = .ok (.iinc 3 1, 3) := by decide +kernel
theorem dX8_withComplaints_40 : decode cX8_withComplaints 40 = .ok (.goto (-38), 3) := by decide +kernel
theorem dX8_withComplaints_43 : decode cX8_withComplaints 43 = .ok (.lload_n 1, 1) := by decide +kernel
theorem dX8_withComplaints_44 : decode cX8_withComplaints 44 = .ok (.lreturn, 1) := by decide +kernel
set_option maxHeartbeats 4000000 in
set_option maxRecDepth 100000 in
theorem w_X8_withComplaints_l2 {w : WT} {l : Launch} {p : Program} {e : Env} {s : State} {m : MethodId} {args : Array Value} {below : List Frame} {meth : Method} {c : Code} (C : KC w p s m args meth c cX8_withComplaints 4 RX8 (some .long)) {M : Mem} {L : Lng} {Q : State → Prop} (z : Int64 × Int32) (o : (Int64 × Int32) ⊕ (Int64)) (hf : f_X8_withComplaints_l2 M z = some o) (hA : ∀ z, o = .inl z → AtL w p l e ({ frames := 1, cells := 0, slots := 0, locals := 23 } : Room) s m args below meth c Q 4 2 M L [(0, .ref (wAd w 0)), (1, .long z.1), (3, .int z.2)] []) (hE : ∀ y, o = .inr y → AtL w p l e ({ frames := 1, cells := 0, slots := 0, locals := 23 } : Room) s m args below meth c Q 4 43 M L [(1, .long y)] []) : AtL w p l e ({ frames := 1, cells := 0, slots := 0, locals := 23 } : Room) s m args below meth c Q 4 2 M L [(0, .ref (wAd w 0)), (1, .long z.1), (3, .int z.2)] [] := by
  intro H locs ls hP hS hl
  unfold f_X8_withComplaints_l2 at hf
  refine lv_iload_n C.1 C.2.1 dX8_withComplaints_2 rfl (lv_at hl 2 rfl) ?_
  refine lv_aload_n C.1 C.2.1 dX8_withComplaints_3 rfl (lv_at hl 0 rfl) ?_
  refine k_get (v := .ref (wAd w 1)) C hP (lt_NoisePost h0_NoisePost) (ob_NoisePost h0_NoisePost w L _) rfl iX8 0 (by decide) q284 rfl dX8_withComplaints_4 ?_
  refine k_get (v := .int (M 1 5)) C hP (lt_State to_NoisePost_state) (ob_State to_NoisePost_state w L _) rfl iX5 5 (by decide) q59 rfl dX8_withComplaints_7 ?_
  refine lv_icmp_ge (tgt := 43) C.1 C.2.1 dX8_withComplaints_10 (by decide) (fun c1 => ?_) (fun c1 => ?_)
  · have hf := (if_pos c1).symm.trans hf
    cases hf
    exact hE _ rfl _ _ _ hP hS (lv_sub hl [1] rfl)
  · have hf := (if_neg c1).symm.trans hf
    refine lv_lload_n C.1 C.2.1 dX8_withComplaints_13 rfl (lv_at hl 1 rfl) ?_
    refine lv_aload_n C.1 C.2.1 dX8_withComplaints_14 rfl (lv_at hl 0 rfl) ?_
    refine lv_iload_n C.1 C.2.1 dX8_withComplaints_15 rfl (lv_at hl 2 rfl) ?_
    refine lv_iconst (v := 0) C.1 C.2.1 dX8_withComplaints_16 (by decide) ?_
    obtain ⟨r2, hr2, hf⟩ := ob hf
    refine kci (kV (As := [.int z.2, .int 0]) (rest := [.long z.1]) C hl.1 hP hS (c_X8_complaintProperty w l C.2.2.2.2.2.2.2.2 (L := L) hr2) (gV q405 q407 qp12 q1 q408) hd_X8_complaintProperty (lt_NoisePost h0_NoisePost) (ob_NoisePost h0_NoisePost w L _) rfl ⟨rfl, rfl⟩ ⟨Nat.le_of_ble_eq_true rfl, Nat.le_of_ble_eq_true rfl⟩ rfl rfl (Nat.le_of_ble_eq_true rfl) dX8_withComplaints_17 ⟨Nat.zero_le _, Nat.zero_le _⟩) hS (fun H locs hP hS => ?_)
    refine lv_i2l (v := (Int32.toInt64 r2)) C.1 C.2.1 dX8_withComplaints_20 rfl ?_
    obtain ⟨r3, hr3, hf⟩ := ob hf
    refine kcl (kS (As := [.long z.1, .long (Int32.toInt64 r2)]) (rest := []) C hl.1 hP hS (c_X8_mixed w l C.2.2.2.2.2.2.2.2 (L := L) hr3) (gS q372 q373 q1 q374) hd_X8_mixed ⟨rfl, rfl⟩ ⟨Nat.le_of_ble_eq_true rfl, Nat.le_of_ble_eq_true rfl⟩ rfl rfl (Nat.le_of_ble_eq_true rfl) dX8_withComplaints_21 ⟨Nat.zero_le _, Nat.zero_le _⟩) hS (fun H locs hP hS => ?_)
    refine lv_lstore_n (lv' := [(1, .long r3), (0, .ref (wAd w 0)), (3, .int z.2)]) C.1 C.2.1 dX8_withComplaints_24 rfl hl (by decide) rfl (fun ls hl => ?_)
    refine lv_lload_n C.1 C.2.1 dX8_withComplaints_25 rfl (lv_at hl 0 rfl) ?_
    refine lv_aload_n C.1 C.2.1 dX8_withComplaints_26 rfl (lv_at hl 1 rfl) ?_
    refine lv_iload_n C.1 C.2.1 dX8_withComplaints_27 rfl (lv_at hl 2 rfl) ?_
    refine lv_iconst (v := 1) C.1 C.2.1 dX8_withComplaints_28 (by decide) ?_
    obtain ⟨r4, hr4, hf⟩ := ob hf
    refine kci (kV (As := [.int z.2, .int 1]) (rest := [.long r3]) C hl.1 hP hS (c_X8_complaintProperty w l C.2.2.2.2.2.2.2.2 (L := L) hr4) (gV q405 q407 qp12 q1 q408) hd_X8_complaintProperty (lt_NoisePost h0_NoisePost) (ob_NoisePost h0_NoisePost w L _) rfl ⟨rfl, rfl⟩ ⟨Nat.le_of_ble_eq_true rfl, Nat.le_of_ble_eq_true rfl⟩ rfl rfl (Nat.le_of_ble_eq_true rfl) dX8_withComplaints_29 ⟨Nat.zero_le _, Nat.zero_le _⟩) hS (fun H locs hP hS => ?_)
    refine lv_i2l (v := (Int32.toInt64 r4)) C.1 C.2.1 dX8_withComplaints_32 rfl ?_
    obtain ⟨r5, hr5, hf⟩ := ob hf
    refine kcl (kS (As := [.long r3, .long (Int32.toInt64 r4)]) (rest := []) C hl.1 hP hS (c_X8_mixed w l C.2.2.2.2.2.2.2.2 (L := L) hr5) (gS q372 q373 q1 q374) hd_X8_mixed ⟨rfl, rfl⟩ ⟨Nat.le_of_ble_eq_true rfl, Nat.le_of_ble_eq_true rfl⟩ rfl rfl (Nat.le_of_ble_eq_true rfl) dX8_withComplaints_33 ⟨Nat.zero_le _, Nat.zero_le _⟩) hS (fun H locs hP hS => ?_)
    refine lv_lstore_n (lv' := [(1, .long r5), (0, .ref (wAd w 0)), (3, .int z.2)]) C.1 C.2.1 dX8_withComplaints_36 rfl hl (by decide) rfl (fun ls hl => ?_)
    refine lv_iinc (v := (z.2 + 1)) (lv' := [(3, .int (z.2 + 1)), (1, .long r5), (0, .ref (wAd w 0))]) C.1 C.2.1 dX8_withComplaints_37 hl (k := 2) rfl rfl (by decide) rfl (fun ls hl => ?_)
    refine lv_goto (tgt := 2) C.1 C.2.1 dX8_withComplaints_40 (by decide) ?_
    cases hf
    exact hA _ rfl _ _ _ hP hS (lv_sub hl [2, 1, 0] rfl)
set_option maxHeartbeats 4000000 in
set_option maxRecDepth 100000 in
theorem c_X8_withComplaints (w : WT) (l : Launch) (hw : WOK w) {a1 : Int64} {M : Mem} {L : Lng} {out : Int64} (hf : f_X8_withComplaints a1 M = some out) : Met l yX8_withComplaints (Cond.code yX8_withComplaints cX8_withComplaints 4 (some .long) :: BG) ({ frames := 1, cells := 0, slots := 0, locals := 23 } : Room) (PRE w [.ref (wAd w 0), .long a1] M L) (QL w out M L) 0 0 (wA w) := by
  refine kEnt hw (by decide +kernel) rfl (Nat.le_of_ble_eq_true rfl) ?_
  intro p e s m args below meth c C ls hl hP
  have hS : va_S (wA w) s.heap s.heap [] := va_S.rf
  have hl : lv_has ls 4 [(0, .ref (wAd w 0)), (1, .long a1)] := hl
  unfold f_X8_withComplaints at hf
  refine lv_iconst (v := 0) C.1 C.2.1 dX8_withComplaints_0 (by decide) ?_
  refine lv_istore_n (lv' := [(3, .int 0), (0, .ref (wAd w 0)), (1, .long a1)]) C.1 C.2.1 dX8_withComplaints_1 rfl hl (by decide) rfl (fun ls hl => ?_)
  obtain ⟨o6, ho6, hf⟩ := ob hf
  refine loop_at (w_X8_withComplaints_l2 C) FU _ o6 ho6 ?_ _ _ _ hP hS (lv_sub hl [1, 2, 0] rfl)
  intro H locs ls hP hS hl
  refine lv_lload_n C.1 C.2.1 dX8_withComplaints_43 rfl (lv_at hl 0 rfl) ?_
  cases hf
  exact krl C hP hS dX8_withComplaints_44
theorem dX8_withLevels_0 : decode cX8_withLevels 0 = .ok (.iconst 0, 1) := by decide +kernel
theorem dX8_withLevels_1 : decode cX8_withLevels 1 = .ok (.istore_n 3, 1) := by decide +kernel
theorem dX8_withLevels_2 : decode cX8_withLevels 2 = .ok (.iload_n 3, 1) := by decide +kernel
theorem dX8_withLevels_3 : decode cX8_withLevels 3 = .ok (.sipush 140, 3) := by decide +kernel
theorem dX8_withLevels_6 : decode cX8_withLevels 6 = .ok (.if_icmp .gt 24, 3) := by decide +kernel
theorem dX8_withLevels_9 : decode cX8_withLevels 9 = .ok (.lload_n 1, 1) := by decide +kernel
theorem dX8_withLevels_10 : decode cX8_withLevels 10 = .ok (.aload_n 0, 1) := by decide +kernel
theorem dX8_withLevels_11 : decode cX8_withLevels 11 = .ok (.getfield 43, 3) := by decide +kernel
theorem dX8_withLevels_14 : decode cX8_withLevels 14 = .ok (.getfield 209, 3) := by decide +kernel
theorem dX8_withLevels_17 : decode cX8_withLevels 17 = .ok (.iload_n 3, 1) := by decide +kernel
theorem dX8_withLevels_18 : decode cX8_withLevels 18 = .ok (.iaload, 1) := by decide +kernel
theorem dX8_withLevels_19 : decode cX8_withLevels 19 = .ok (.i2l, 1) := by decide +kernel
theorem dX8_withLevels_20 : decode cX8_withLevels 20 = .ok (.invokestatic 254, 3) := by decide +kernel
theorem dX8_withLevels_23 : decode cX8_withLevels 23 = .ok (.lstore_n 1, 1) := by decide +kernel
theorem dX8_withLevels_24 : decode cX8_withLevels 24 = .ok (.iinc 3 10, 3) := by decide +kernel
theorem dX8_withLevels_27 : decode cX8_withLevels 27 = .ok (.goto (-25), 3) := by decide +kernel
theorem dX8_withLevels_30 : decode cX8_withLevels 30 = .ok (.aload_n 0, 1) := by decide +kernel
theorem dX8_withLevels_31 : decode cX8_withLevels 31 = .ok (.getfield 33, 3) := by decide +kernel
theorem dX8_withLevels_34 : decode cX8_withLevels 34 = .ok (.getfield 214, 3) := by decide +kernel
theorem dX8_withLevels_37 : decode cX8_withLevels 37 = .ok (.getfield 217, 3) := by decide +kernel
theorem dX8_withLevels_40 : decode cX8_withLevels 40 = .ok (.istore_n 3, 1) := by decide +kernel
theorem dX8_withLevels_41 : decode cX8_withLevels 41 = .ok (.lload_n 1, 1) := by decide +kernel
theorem dX8_withLevels_42 : decode cX8_withLevels 42 = .ok (.aload_n 0, 1) := by decide +kernel
theorem dX8_withLevels_43 : decode cX8_withLevels 43 = .ok (.getfield 43, 3) := by decide +kernel
theorem dX8_withLevels_46 : decode cX8_withLevels 46 = .ok (.iconst 1, 1) := by decide +kernel
theorem dX8_withLevels_47 : decode cX8_withLevels 47 = .ok (.iload_n 3, 1) := by decide +kernel
theorem dX8_withLevels_48 : decode cX8_withLevels 48 = .ok (.invokevirtual 222, 3) := by decide +kernel
theorem dX8_withLevels_51 : decode cX8_withLevels 51 = .ok (.i2l, 1) := by decide +kernel
theorem dX8_withLevels_52 : decode cX8_withLevels 52 = .ok (.invokestatic 254, 3) := by decide +kernel
theorem dX8_withLevels_55 : decode cX8_withLevels 55 = .ok (.lstore_n 1, 1) := by decide +kernel
theorem dX8_withLevels_56 : decode cX8_withLevels 56 = .ok (.lload_n 1, 1) := by decide +kernel
theorem dX8_withLevels_57 : decode cX8_withLevels 57 = .ok (.aload_n 0, 1) := by decide +kernel
theorem dX8_withLevels_58 : decode cX8_withLevels 58 = .ok (.getfield 43, 3) := by decide +kernel
theorem dX8_withLevels_61 : decode cX8_withLevels 61 = .ok (.bipush 10, 2) := by decide +kernel
theorem dX8_withLevels_63 : decode cX8_withLevels 63 = .ok (.iload_n 3, 1) := by decide +kernel
theorem dX8_withLevels_64 : decode cX8_withLevels 64 = .ok (.invokevirtual 222, 3) := by decide +kernel
theorem dX8_withLevels_67 : decode cX8_withLevels 67 = .ok (.i2l, 1) := by decide +kernel
theorem dX8_withLevels_68 : decode cX8_withLevels 68 = .ok (.invokestatic 254, 3) := by decide +kernel
theorem dX8_withLevels_71 : decode cX8_withLevels 71 = .ok (.lstore_n 1, 1) := by decide +kernel
theorem dX8_withLevels_72 : decode cX8_withLevels 72 = .ok (.lload_n 1, 1) := by decide +kernel
theorem dX8_withLevels_73 : decode cX8_withLevels 73 = .ok (.aload_n 0, 1) := by decide +kernel
theorem dX8_withLevels_74 : decode cX8_withLevels 74 = .ok (.getfield 43, 3) := by decide +kernel
theorem dX8_withLevels_77 : decode cX8_withLevels 77 = .ok (.bipush 50, 2) := by decide +kernel
theorem dX8_withLevels_79 : decode cX8_withLevels 79 = .ok (.iload_n 3, 1) := by decide +kernel
theorem dX8_withLevels_80 : decode cX8_withLevels 80 = .ok (.invokevirtual 222, 3) := by decide +kernel
theorem dX8_withLevels_83 : decode cX8_withLevels 83 = .ok (.i2l, 1) := by decide +kernel
theorem dX8_withLevels_84 : decode cX8_withLevels 84 = .ok (.invokestatic 254, 3) := by decide +kernel
theorem dX8_withLevels_87 : decode cX8_withLevels 87 = .ok (.lstore_n 1, 1) := by decide +kernel
theorem dX8_withLevels_88 : decode cX8_withLevels 88 = .ok (.lload_n 1, 1) := by decide +kernel
theorem dX8_withLevels_89 : decode cX8_withLevels 89 = .ok (.aload_n 0, 1) := by decide +kernel
theorem dX8_withLevels_90 : decode cX8_withLevels 90 = .ok (.getfield 43, 3) := by decide +kernel
theorem dX8_withLevels_93 : decode cX8_withLevels 93 = .ok (.bipush 90, 2) := by decide +kernel
theorem dX8_withLevels_95 : decode cX8_withLevels 95 = .ok (.iload_n 3, 1) := by decide +kernel
theorem dX8_withLevels_96 : decode cX8_withLevels 96 = .ok (.invokevirtual 222, 3) := by decide +kernel
theorem dX8_withLevels_99 : decode cX8_withLevels 99 = .ok (.i2l, 1) := by decide +kernel
theorem dX8_withLevels_100 : decode cX8_withLevels 100 = .ok (.invokestatic 254, 3) := by decide +kernel
theorem dX8_withLevels_103 : decode cX8_withLevels 103 = .ok (.lstore_n 1, 1) := by decide +kernel
theorem dX8_withLevels_104 : decode cX8_withLevels 104 = .ok (.lload_n 1, 1) := by decide +kernel
theorem dX8_withLevels_105 : decode cX8_withLevels 105 = .ok (.aload_n 0, 1) := by decide +kernel
theorem dX8_withLevels_106 : decode cX8_withLevels 106 = .ok (.getfield 43, 3) := by decide +kernel
theorem dX8_withLevels_109 : decode cX8_withLevels 109 = .ok (.bipush 100, 2) := by decide +kernel
theorem dX8_withLevels_111 : decode cX8_withLevels 111 = .ok (.iload_n 3, 1) := by decide +kernel
theorem dX8_withLevels_112 : decode cX8_withLevels 112 = .ok (.invokevirtual 222, 3) := by decide +kernel
theorem dX8_withLevels_115 : decode cX8_withLevels 115 = .ok (.i2l, 1) := by decide +kernel
theorem dX8_withLevels_116 : decode cX8_withLevels 116 = .ok (.invokestatic 254, 3) := by decide +kernel
theorem dX8_withLevels_119 : decode cX8_withLevels 119 = .ok (.lreturn, 1) := by decide +kernel
set_option maxHeartbeats 4000000 in
set_option maxRecDepth 100000 in
theorem w_X8_withLevels_l2 {w : WT} {l : Launch} {p : Program} {e : Env} {s : State} {m : MethodId} {args : Array Value} {below : List Frame} {meth : Method} {c : Code} (C : KC w p s m args meth c cX8_withLevels 4 RX8 (some .long)) {M : Mem} {L : Lng} {Q : State → Prop} (z : Int64 × Int32) (o : (Int64 × Int32) ⊕ (Int64)) (hf : f_X8_withLevels_l2 M z = some o) (hA : ∀ z, o = .inl z → AtL w p l e ({ frames := 1, cells := 0, slots := 0, locals := 23 } : Room) s m args below meth c Q 4 2 M L [(0, .ref (wAd w 0)), (1, .long z.1), (3, .int z.2)] []) (hE : ∀ y, o = .inr y → AtL w p l e ({ frames := 1, cells := 0, slots := 0, locals := 23 } : Room) s m args below meth c Q 4 30 M L [(0, .ref (wAd w 0)), (1, .long y)] []) : AtL w p l e ({ frames := 1, cells := 0, slots := 0, locals := 23 } : Room) s m args below meth c Q 4 2 M L [(0, .ref (wAd w 0)), (1, .long z.1), (3, .int z.2)] [] := by
  intro H locs ls hP hS hl
  unfold f_X8_withLevels_l2 at hf
  refine lv_iload_n C.1 C.2.1 dX8_withLevels_2 rfl (lv_at hl 2 rfl) ?_
  refine lv_sipush (v := 140) C.1 C.2.1 dX8_withLevels_3 (by decide) ?_
  refine lv_icmp_gt (tgt := 30) C.1 C.2.1 dX8_withLevels_6 (by decide) (fun c1 => ?_) (fun c1 => ?_)
  · have hf := (if_pos c1).symm.trans hf
    cases hf
    exact hE _ rfl _ _ _ hP hS (lv_sub hl [0, 1] rfl)
  · have hf := (if_neg c1).symm.trans hf
    refine lv_lload_n C.1 C.2.1 dX8_withLevels_9 rfl (lv_at hl 1 rfl) ?_
    refine lv_aload_n C.1 C.2.1 dX8_withLevels_10 rfl (lv_at hl 0 rfl) ?_
    refine k_get (v := .ref (wAd w 88)) C hP (lt_NoisePost h0_NoisePost) (ob_NoisePost h0_NoisePost w L _) rfl iX8 5 (by decide) q289 rfl dX8_withLevels_11 ?_
    refine k_get (v := .ref (wAd w 89)) C hP (lt_LevelCounts to_NoisePost_levelCounts) (ob_LevelCounts to_NoisePost_levelCounts w L _) rfl iX2 0 (by decide) q280 rfl dX8_withLevels_14 ?_
    refine lv_iload_n C.1 C.2.1 dX8_withLevels_17 rfl (lv_at hl 2 rfl) ?_
    obtain ⟨x2, hx2, hf⟩ := ob hf
    refine k_iald C hP (la_LevelCounts_reached to_NoisePost_levelCounts) (ar_LevelCounts_reached to_NoisePost_levelCounts w L _) hx2 dX8_withLevels_18 ?_
    refine lv_i2l (v := (Int32.toInt64 x2)) C.1 C.2.1 dX8_withLevels_19 rfl ?_
    obtain ⟨r3, hr3, hf⟩ := ob hf
    refine kcl (kS (As := [.long z.1, .long (Int32.toInt64 x2)]) (rest := []) C hl.1 hP hS (c_X8_mixed w l C.2.2.2.2.2.2.2.2 (L := L) hr3) (gS q372 q373 q1 q374) hd_X8_mixed ⟨rfl, rfl⟩ ⟨Nat.le_of_ble_eq_true rfl, Nat.le_of_ble_eq_true rfl⟩ rfl rfl (Nat.le_of_ble_eq_true rfl) dX8_withLevels_20 ⟨Nat.zero_le _, Nat.zero_le _⟩) hS (fun H locs hP hS => ?_)
    refine lv_lstore_n (lv' := [(1, .long r3), (0, .ref (wAd w 0)), (3, .int z.2)]) C.1 C.2.1 dX8_withLevels_23 rfl hl (by decide) rfl (fun ls hl => ?_)
    refine lv_iinc (v := (z.2 + 10)) (lv' := [(3, .int (z.2 + 10)), (1, .long r3), (0, .ref (wAd w 0))]) C.1 C.2.1 dX8_withLevels_24 hl (k := 2) rfl rfl (by decide) rfl (fun ls hl => ?_)
    refine lv_goto (tgt := 2) C.1 C.2.1 dX8_withLevels_27 (by decide) ?_
    cases hf
    exact hA _ rfl _ _ _ hP hS (lv_sub hl [2, 1, 0] rfl)
set_option maxHeartbeats 4000000 in
set_option maxRecDepth 100000 in
theorem c_X8_withLevels (w : WT) (l : Launch) (hw : WOK w) {a1 : Int64} {M : Mem} {L : Lng} {out : Int64} (hf : f_X8_withLevels a1 M = some out) : Met l yX8_withLevels (Cond.code yX8_withLevels cX8_withLevels 4 (some .long) :: BG) ({ frames := 1, cells := 0, slots := 0, locals := 23 } : Room) (PRE w [.ref (wAd w 0), .long a1] M L) (QL w out M L) 0 0 (wA w) := by
  refine kEnt hw (by decide +kernel) rfl (Nat.le_of_ble_eq_true rfl) ?_
  intro p e s m args below meth c C ls hl hP
  have hS : va_S (wA w) s.heap s.heap [] := va_S.rf
  have hl : lv_has ls 4 [(0, .ref (wAd w 0)), (1, .long a1)] := hl
  unfold f_X8_withLevels at hf
  refine lv_iconst (v := 0) C.1 C.2.1 dX8_withLevels_0 (by decide) ?_
  refine lv_istore_n (lv' := [(3, .int 0), (0, .ref (wAd w 0)), (1, .long a1)]) C.1 C.2.1 dX8_withLevels_1 rfl hl (by decide) rfl (fun ls hl => ?_)
  obtain ⟨o4, ho4, hf⟩ := ob hf
  refine loop_at (w_X8_withLevels_l2 C) FU _ o4 ho4 ?_ _ _ _ hP hS (lv_sub hl [1, 2, 0] rfl)
  intro H locs ls hP hS hl
  refine lv_aload_n C.1 C.2.1 dX8_withLevels_30 rfl (lv_at hl 0 rfl) ?_
  refine k_get (v := .ref (wAd w 54)) C hP (lt_NoisePost h0_NoisePost) (ob_NoisePost h0_NoisePost w L _) rfl iX8 3 (by decide) q287 rfl dX8_withLevels_31 ?_
  refine k_get (v := .ref (wAd w 56)) C hP (lt_View to_NoisePost_now) (ob_View to_NoisePost_now w L _) rfl iX7 1 (by decide) q259 rfl dX8_withLevels_34 ?_
  refine k_get (v := .int (M 56 4)) C hP (lt_Minutes (to_View_minutes to_NoisePost_now)) (ob_Minutes (to_View_minutes to_NoisePost_now) w L _) rfl iX4 4 (by decide) q163 rfl dX8_withLevels_37 ?_
  refine lv_istore_n (lv' := [(3, .int (M 56 4)), (0, .ref (wAd w 0)), (1, .long o4)]) C.1 C.2.1 dX8_withLevels_40 rfl hl (by decide) rfl (fun ls hl => ?_)
  refine lv_lload_n C.1 C.2.1 dX8_withLevels_41 rfl (lv_at hl 2 rfl) ?_
  refine lv_aload_n C.1 C.2.1 dX8_withLevels_42 rfl (lv_at hl 1 rfl) ?_
  refine k_get (v := .ref (wAd w 88)) C hP (lt_NoisePost h0_NoisePost) (ob_NoisePost h0_NoisePost w L _) rfl iX8 5 (by decide) q289 rfl dX8_withLevels_43 ?_
  refine lv_iconst (v := 1) C.1 C.2.1 dX8_withLevels_46 (by decide) ?_
  refine lv_iload_n C.1 C.2.1 dX8_withLevels_47 rfl (lv_at hl 0 rfl) ?_
  obtain ⟨r5, hr5, hf⟩ := ob hf
  refine kci (kV (As := [.int 1, .int (M 56 4)]) (rest := [.long o4]) C hl.1 hP hS (c_X2_levelOfPercent w l C.2.2.2.2.2.2.2.2 (L := L) hr5) (gV q413 q414 q415 q9 q416) hd_X2_levelOfPercent (lt_LevelCounts to_NoisePost_levelCounts) (ob_LevelCounts to_NoisePost_levelCounts w L _) rfl ⟨rfl, rfl⟩ ⟨Nat.le_of_ble_eq_true rfl, Nat.le_of_ble_eq_true rfl⟩ rfl rfl (Nat.le_of_ble_eq_true rfl) dX8_withLevels_48 ⟨Nat.zero_le _, Nat.zero_le _⟩) hS (fun H locs hP hS => ?_)
  refine lv_i2l (v := (Int32.toInt64 r5)) C.1 C.2.1 dX8_withLevels_51 rfl ?_
  obtain ⟨r6, hr6, hf⟩ := ob hf
  refine kcl (kS (As := [.long o4, .long (Int32.toInt64 r5)]) (rest := []) C hl.1 hP hS (c_X8_mixed w l C.2.2.2.2.2.2.2.2 (L := L) hr6) (gS q372 q373 q1 q374) hd_X8_mixed ⟨rfl, rfl⟩ ⟨Nat.le_of_ble_eq_true rfl, Nat.le_of_ble_eq_true rfl⟩ rfl rfl (Nat.le_of_ble_eq_true rfl) dX8_withLevels_52 ⟨Nat.zero_le _, Nat.zero_le _⟩) hS (fun H locs hP hS => ?_)
  refine lv_lstore_n (lv' := [(1, .long r6), (3, .int (M 56 4)), (0, .ref (wAd w 0))]) C.1 C.2.1 dX8_withLevels_55 rfl hl (by decide) rfl (fun ls hl => ?_)
  refine lv_lload_n C.1 C.2.1 dX8_withLevels_56 rfl (lv_at hl 0 rfl) ?_
  refine lv_aload_n C.1 C.2.1 dX8_withLevels_57 rfl (lv_at hl 2 rfl) ?_
  refine k_get (v := .ref (wAd w 88)) C hP (lt_NoisePost h0_NoisePost) (ob_NoisePost h0_NoisePost w L _) rfl iX8 5 (by decide) q289 rfl dX8_withLevels_58 ?_
  refine lv_bipush (v := 10) C.1 C.2.1 dX8_withLevels_61 (by decide) ?_
  refine lv_iload_n C.1 C.2.1 dX8_withLevels_63 rfl (lv_at hl 1 rfl) ?_
  obtain ⟨r7, hr7, hf⟩ := ob hf
  refine kci (kV (As := [.int 10, .int (M 56 4)]) (rest := [.long r6]) C hl.1 hP hS (c_X2_levelOfPercent w l C.2.2.2.2.2.2.2.2 (L := L) hr7) (gV q413 q414 q415 q9 q416) hd_X2_levelOfPercent (lt_LevelCounts to_NoisePost_levelCounts) (ob_LevelCounts to_NoisePost_levelCounts w L _) rfl ⟨rfl, rfl⟩ ⟨Nat.le_of_ble_eq_true rfl, Nat.le_of_ble_eq_true rfl⟩ rfl rfl (Nat.le_of_ble_eq_true rfl) dX8_withLevels_64 ⟨Nat.zero_le _, Nat.zero_le _⟩) hS (fun H locs hP hS => ?_)
  refine lv_i2l (v := (Int32.toInt64 r7)) C.1 C.2.1 dX8_withLevels_67 rfl ?_
  obtain ⟨r8, hr8, hf⟩ := ob hf
  refine kcl (kS (As := [.long r6, .long (Int32.toInt64 r7)]) (rest := []) C hl.1 hP hS (c_X8_mixed w l C.2.2.2.2.2.2.2.2 (L := L) hr8) (gS q372 q373 q1 q374) hd_X8_mixed ⟨rfl, rfl⟩ ⟨Nat.le_of_ble_eq_true rfl, Nat.le_of_ble_eq_true rfl⟩ rfl rfl (Nat.le_of_ble_eq_true rfl) dX8_withLevels_68 ⟨Nat.zero_le _, Nat.zero_le _⟩) hS (fun H locs hP hS => ?_)
  refine lv_lstore_n (lv' := [(1, .long r8), (3, .int (M 56 4)), (0, .ref (wAd w 0))]) C.1 C.2.1 dX8_withLevels_71 rfl hl (by decide) rfl (fun ls hl => ?_)
  refine lv_lload_n C.1 C.2.1 dX8_withLevels_72 rfl (lv_at hl 0 rfl) ?_
  refine lv_aload_n C.1 C.2.1 dX8_withLevels_73 rfl (lv_at hl 2 rfl) ?_
  refine k_get (v := .ref (wAd w 88)) C hP (lt_NoisePost h0_NoisePost) (ob_NoisePost h0_NoisePost w L _) rfl iX8 5 (by decide) q289 rfl dX8_withLevels_74 ?_
  refine lv_bipush (v := 50) C.1 C.2.1 dX8_withLevels_77 (by decide) ?_
  refine lv_iload_n C.1 C.2.1 dX8_withLevels_79 rfl (lv_at hl 1 rfl) ?_
  obtain ⟨r9, hr9, hf⟩ := ob hf
  refine kci (kV (As := [.int 50, .int (M 56 4)]) (rest := [.long r8]) C hl.1 hP hS (c_X2_levelOfPercent w l C.2.2.2.2.2.2.2.2 (L := L) hr9) (gV q413 q414 q415 q9 q416) hd_X2_levelOfPercent (lt_LevelCounts to_NoisePost_levelCounts) (ob_LevelCounts to_NoisePost_levelCounts w L _) rfl ⟨rfl, rfl⟩ ⟨Nat.le_of_ble_eq_true rfl, Nat.le_of_ble_eq_true rfl⟩ rfl rfl (Nat.le_of_ble_eq_true rfl) dX8_withLevels_80 ⟨Nat.zero_le _, Nat.zero_le _⟩) hS (fun H locs hP hS => ?_)
  refine lv_i2l (v := (Int32.toInt64 r9)) C.1 C.2.1 dX8_withLevels_83 rfl ?_
  obtain ⟨r10, hr10, hf⟩ := ob hf
  refine kcl (kS (As := [.long r8, .long (Int32.toInt64 r9)]) (rest := []) C hl.1 hP hS (c_X8_mixed w l C.2.2.2.2.2.2.2.2 (L := L) hr10) (gS q372 q373 q1 q374) hd_X8_mixed ⟨rfl, rfl⟩ ⟨Nat.le_of_ble_eq_true rfl, Nat.le_of_ble_eq_true rfl⟩ rfl rfl (Nat.le_of_ble_eq_true rfl) dX8_withLevels_84 ⟨Nat.zero_le _, Nat.zero_le _⟩) hS (fun H locs hP hS => ?_)
  refine lv_lstore_n (lv' := [(1, .long r10), (3, .int (M 56 4)), (0, .ref (wAd w 0))]) C.1 C.2.1 dX8_withLevels_87 rfl hl (by decide) rfl (fun ls hl => ?_)
  refine lv_lload_n C.1 C.2.1 dX8_withLevels_88 rfl (lv_at hl 0 rfl) ?_
  refine lv_aload_n C.1 C.2.1 dX8_withLevels_89 rfl (lv_at hl 2 rfl) ?_
  refine k_get (v := .ref (wAd w 88)) C hP (lt_NoisePost h0_NoisePost) (ob_NoisePost h0_NoisePost w L _) rfl iX8 5 (by decide) q289 rfl dX8_withLevels_90 ?_
  refine lv_bipush (v := 90) C.1 C.2.1 dX8_withLevels_93 (by decide) ?_
  refine lv_iload_n C.1 C.2.1 dX8_withLevels_95 rfl (lv_at hl 1 rfl) ?_
  obtain ⟨r11, hr11, hf⟩ := ob hf
  refine kci (kV (As := [.int 90, .int (M 56 4)]) (rest := [.long r10]) C hl.1 hP hS (c_X2_levelOfPercent w l C.2.2.2.2.2.2.2.2 (L := L) hr11) (gV q413 q414 q415 q9 q416) hd_X2_levelOfPercent (lt_LevelCounts to_NoisePost_levelCounts) (ob_LevelCounts to_NoisePost_levelCounts w L _) rfl ⟨rfl, rfl⟩ ⟨Nat.le_of_ble_eq_true rfl, Nat.le_of_ble_eq_true rfl⟩ rfl rfl (Nat.le_of_ble_eq_true rfl) dX8_withLevels_96 ⟨Nat.zero_le _, Nat.zero_le _⟩) hS (fun H locs hP hS => ?_)
  refine lv_i2l (v := (Int32.toInt64 r11)) C.1 C.2.1 dX8_withLevels_99 rfl ?_
  obtain ⟨r12, hr12, hf⟩ := ob hf
  refine kcl (kS (As := [.long r10, .long (Int32.toInt64 r11)]) (rest := []) C hl.1 hP hS (c_X8_mixed w l C.2.2.2.2.2.2.2.2 (L := L) hr12) (gS q372 q373 q1 q374) hd_X8_mixed ⟨rfl, rfl⟩ ⟨Nat.le_of_ble_eq_true rfl, Nat.le_of_ble_eq_true rfl⟩ rfl rfl (Nat.le_of_ble_eq_true rfl) dX8_withLevels_100 ⟨Nat.zero_le _, Nat.zero_le _⟩) hS (fun H locs hP hS => ?_)
  refine lv_lstore_n (lv' := [(1, .long r12), (3, .int (M 56 4)), (0, .ref (wAd w 0))]) C.1 C.2.1 dX8_withLevels_103 rfl hl (by decide) rfl (fun ls hl => ?_)
  refine lv_lload_n C.1 C.2.1 dX8_withLevels_104 rfl (lv_at hl 0 rfl) ?_
  refine lv_aload_n C.1 C.2.1 dX8_withLevels_105 rfl (lv_at hl 2 rfl) ?_
  refine k_get (v := .ref (wAd w 88)) C hP (lt_NoisePost h0_NoisePost) (ob_NoisePost h0_NoisePost w L _) rfl iX8 5 (by decide) q289 rfl dX8_withLevels_106 ?_
  refine lv_bipush (v := 100) C.1 C.2.1 dX8_withLevels_109 (by decide) ?_
  refine lv_iload_n C.1 C.2.1 dX8_withLevels_111 rfl (lv_at hl 1 rfl) ?_
  obtain ⟨r13, hr13, hf⟩ := ob hf
  refine kci (kV (As := [.int 100, .int (M 56 4)]) (rest := [.long r12]) C hl.1 hP hS (c_X2_levelOfPercent w l C.2.2.2.2.2.2.2.2 (L := L) hr13) (gV q413 q414 q415 q9 q416) hd_X2_levelOfPercent (lt_LevelCounts to_NoisePost_levelCounts) (ob_LevelCounts to_NoisePost_levelCounts w L _) rfl ⟨rfl, rfl⟩ ⟨Nat.le_of_ble_eq_true rfl, Nat.le_of_ble_eq_true rfl⟩ rfl rfl (Nat.le_of_ble_eq_true rfl) dX8_withLevels_112 ⟨Nat.zero_le _, Nat.zero_le _⟩) hS (fun H locs hP hS => ?_)
  refine lv_i2l (v := (Int32.toInt64 r13)) C.1 C.2.1 dX8_withLevels_115 rfl ?_
  obtain ⟨r14, hr14, hf⟩ := ob hf
  refine kcl (kS (As := [.long r12, .long (Int32.toInt64 r13)]) (rest := []) C hl.1 hP hS (c_X8_mixed w l C.2.2.2.2.2.2.2.2 (L := L) hr14) (gS q372 q373 q1 q374) hd_X8_mixed ⟨rfl, rfl⟩ ⟨Nat.le_of_ble_eq_true rfl, Nat.le_of_ble_eq_true rfl⟩ rfl rfl (Nat.le_of_ble_eq_true rfl) dX8_withLevels_116 ⟨Nat.zero_le _, Nat.zero_le _⟩) hS (fun H locs hP hS => ?_)
  cases hf
  exact krl C hP hS dX8_withLevels_119
theorem dX8_bitsOf_0 : decode cX8_bitsOf 0 = .ok (.dload_n 0, 1) := by decide +kernel
theorem dX8_bitsOf_1 : decode cX8_bitsOf 1 = .ok (.dconst 0, 1) := by decide +kernel
theorem dX8_bitsOf_2 : decode cX8_bitsOf 2 = .ok (.dcmp .g, 1) := by decide +kernel
theorem dX8_bitsOf_3 : decode cX8_bitsOf 3 = .ok (.ifCond .gt 5, 3) := by decide +kernel
theorem dX8_bitsOf_6 : decode cX8_bitsOf 6 = .ok (.lconst 0, 1) := by decide +kernel
theorem dX8_bitsOf_7 : decode cX8_bitsOf 7 = .ok (.lreturn, 1) := by decide +kernel
theorem dX8_bitsOf_8 : decode cX8_bitsOf 8 = .ok (.dload_n 0, 1) := by decide +kernel
theorem dX8_bitsOf_9 : decode cX8_bitsOf 9 = .ok (.dstore_n 2, 1) := by decide +kernel
theorem dX8_bitsOf_10 : decode cX8_bitsOf 10 = .ok (.ldc2_w 339, 3) := by decide +kernel
theorem dX8_bitsOf_13 : decode cX8_bitsOf 13 = .ok (.lstore 4, 2) := by decide +kernel
theorem dX8_bitsOf_15 : decode cX8_bitsOf 15 = .ok (.iconst 0, 1) := by decide +kernel
theorem dX8_bitsOf_16 : decode cX8_bitsOf 16 = .ok (.istore 6, 2) := by decide +kernel
theorem dX8_bitsOf_18 : decode cX8_bitsOf 18 = .ok (.iload 6, 2) := by decide +kernel
theorem dX8_bitsOf_20 : decode cX8_bitsOf 20 = .ok (.bipush 60, 2) := by decide +kernel
theorem dX8_bitsOf_22 : decode cX8_bitsOf 22 = .ok (.if_icmp .ge 27, 3) := by decide +kernel
theorem dX8_bitsOf_25 : decode cX8_bitsOf 25 = .ok (.dload_n 2, 1) := by decide +kernel
theorem dX8_bitsOf_26 : decode cX8_bitsOf 26 = .ok (.dconst 1, 1) := by decide +kernel
theorem dX8_bitsOf_27 : decode cX8_bitsOf 27 = .ok (.dcmp .g, 1) := by decide +kernel
theorem dX8_bitsOf_28 : decode cX8_bitsOf 28 = .ok (.ifCond .ge 21, 3) := by decide +kernel
theorem dX8_bitsOf_31 : decode cX8_bitsOf 31 = .ok (.dload_n 2, 1) := by decide +kernel
theorem dX8_bitsOf_32 : decode cX8_bitsOf 32 = .ok (.ldc2_w 341, 3) := by decide +kernel
theorem dX8_bitsOf_35 : decode cX8_bitsOf 35 = .ok (.dmul, 1) := by decide +kernel
theorem dX8_bitsOf_36 : decode cX8_bitsOf 36 = .ok (.dstore_n 2, 1) := by decide +kernel
theorem dX8_bitsOf_37 : decode cX8_bitsOf 37 = .ok (.lload 4, 2) := by decide +kernel
theorem dX8_bitsOf_39 : decode cX8_bitsOf 39 = .ok (.lconst 1, 1) := by decide +kernel
theorem dX8_bitsOf_40 : decode cX8_bitsOf 40 = .ok (.lsub, 1) := by decide +kernel
theorem dX8_bitsOf_41 : decode cX8_bitsOf 41 = .ok (.lstore 4, 2) := by decide +kernel
theorem dX8_bitsOf_43 : decode cX8_bitsOf 43 = .ok (.iinc 6 1, 3) := by decide +kernel
theorem dX8_bitsOf_46 : decode cX8_bitsOf 46 = .ok (.goto (-28), 3) := by decide +kernel
theorem dX8_bitsOf_49 : decode cX8_bitsOf 49 = .ok (.dload_n 2, 1) := by decide +kernel
theorem dX8_bitsOf_50 : decode cX8_bitsOf 50 = .ok (.dconst 1, 1) := by decide +kernel
theorem dX8_bitsOf_51 : decode cX8_bitsOf 51 = .ok (.dsub, 1) := by decide +kernel
theorem dX8_bitsOf_52 : decode cX8_bitsOf 52 = .ok (.ldc2_w 343, 3) := by decide +kernel
theorem dX8_bitsOf_55 : decode cX8_bitsOf 55 = .ok (.dmul, 1) := by decide +kernel
theorem dX8_bitsOf_56 : decode cX8_bitsOf 56 = .ok (.d2l, 1) := by decide +kernel
theorem dX8_bitsOf_57 : decode cX8_bitsOf 57 = .ok (.lstore 6, 2) := by decide +kernel
theorem dX8_bitsOf_59 : decode cX8_bitsOf 59 = .ok (.lload 4, 2) := by decide +kernel
theorem dX8_bitsOf_61 : decode cX8_bitsOf 61 = .ok (.bipush 52, 2) := by decide +kernel
theorem dX8_bitsOf_63 : decode cX8_bitsOf 63 = .ok (.lshl, 1) := by decide +kernel
theorem dX8_bitsOf_64 : decode cX8_bitsOf 64 = .ok (.lload 6, 2) := by decide +kernel
theorem dX8_bitsOf_66 : decode cX8_bitsOf 66 = .ok (.ladd, 1) := by decide +kernel
theorem dX8_bitsOf_67 : decode cX8_bitsOf 67 = .ok (.lreturn, 1) := by decide +kernel
set_option maxHeartbeats 4000000 in
set_option maxRecDepth 100000 in
theorem w_X8_bitsOf_l18 {w : WT} {l : Launch} {p : Program} {e : Env} {s : State} {m : MethodId} {args : Array Value} {below : List Frame} {meth : Method} {c : Code} (C : KC w p s m args meth c cX8_bitsOf 8 RX8 (some .long)) {M : Mem} {L : Lng} {Q : State → Prop} (z : UInt64 × Int64 × Int32) (o : (UInt64 × Int64 × Int32) ⊕ (UInt64 × Int64)) (hf : f_X8_bitsOf_l18 M z = some o) (hA : ∀ z, o = .inl z → AtL w p l e ({ frames := 0, cells := 0, slots := 0, locals := 0 } : Room) s m args below meth c Q 8 18 M L [(2, .double z.1), (4, .long z.2.1), (6, .int z.2.2)] []) (hE : ∀ y, o = .inr y → AtL w p l e ({ frames := 0, cells := 0, slots := 0, locals := 0 } : Room) s m args below meth c Q 8 49 M L [(2, .double y.1), (4, .long y.2)] []) : AtL w p l e ({ frames := 0, cells := 0, slots := 0, locals := 0 } : Room) s m args below meth c Q 8 18 M L [(2, .double z.1), (4, .long z.2.1), (6, .int z.2.2)] [] := by
  intro H locs ls hP hS hl
  unfold f_X8_bitsOf_l18 at hf
  refine lv_iload C.1 C.2.1 dX8_bitsOf_18 (lv_at hl 2 rfl) ?_
  refine lv_bipush (v := 60) C.1 C.2.1 dX8_bitsOf_20 (by decide) ?_
  refine lv_icmp_ge (tgt := 49) C.1 C.2.1 dX8_bitsOf_22 (by decide) (fun c2 => ?_) (fun c2 => ?_)
  · have hf := (if_pos c2).symm.trans hf
    cases hf
    exact hE _ rfl _ _ _ hP hS (lv_sub hl [0, 1] rfl)
  · have hf := (if_neg c2).symm.trans hf
    refine lv_dload_n C.1 C.2.1 dX8_bitsOf_25 rfl (lv_at hl 0 rfl) ?_
    refine lv_dconst1 C.1 C.2.1 dX8_bitsOf_26 ?_
    refine lv_dcmp C.1 C.2.1 dX8_bitsOf_27 ?_
    refine lv_if_ge (tgt := 49) C.1 C.2.1 dX8_bitsOf_28 (by decide) (fun c3 => ?_) (fun c3 => ?_)
    · have hf := (if_pos c3).symm.trans hf
      cases hf
      exact hE _ rfl _ _ _ hP hS (lv_sub hl [0, 1] rfl)
    · have hf := (if_neg c3).symm.trans hf
      refine lv_dload_n C.1 C.2.1 dX8_bitsOf_31 rfl (lv_at hl 0 rfl) ?_
      refine lv_ldc2d C.1 C.2.1 C.2.2.2.1 (C.2.2.2.2.1 _ q454) dX8_bitsOf_32 ?_
      obtain ⟨x4, hx4, hf⟩ := ob hf
      refine k_dmul C hx4 dX8_bitsOf_35 ?_
      refine lv_dstore_n (lv' := [(2, .double x4), (4, .long z.2.1), (6, .int z.2.2)]) C.1 C.2.1 dX8_bitsOf_36 rfl hl (by decide) rfl (fun ls hl => ?_)
      refine lv_lload C.1 C.2.1 dX8_bitsOf_37 (lv_at hl 1 rfl) ?_
      refine lv_lconst (v := 1) C.1 C.2.1 dX8_bitsOf_39 (by decide) ?_
      refine lv_lsub C.1 C.2.1 dX8_bitsOf_40 ?_
      refine lv_lstore (lv' := [(4, .long (z.2.1 - 1)), (2, .double x4), (6, .int z.2.2)]) C.1 C.2.1 dX8_bitsOf_41 hl (by decide) rfl (fun ls hl => ?_)
      refine lv_iinc (v := (z.2.2 + 1)) (lv' := [(6, .int (z.2.2 + 1)), (4, .long (z.2.1 - 1)), (2, .double x4)]) C.1 C.2.1 dX8_bitsOf_43 hl (k := 2) rfl rfl (by decide) rfl (fun ls hl => ?_)
      refine lv_goto (tgt := 18) C.1 C.2.1 dX8_bitsOf_46 (by decide) ?_
      cases hf
      exact hA _ rfl _ _ _ hP hS (lv_sub hl [2, 1, 0] rfl)
set_option maxHeartbeats 4000000 in
set_option maxRecDepth 100000 in
theorem w_X8_bitsOf_j49 {w : WT} {l : Launch} {p : Program} {e : Env} {s : State} {m : MethodId} {args : Array Value} {below : List Frame} {meth : Method} {c : Code} (C : KC w p s m args meth c cX8_bitsOf 8 RX8 (some .long)) {v2 : UInt64} {v4 : Int64} {M : Mem} {L : Lng} {out : Int64} (hf : f_X8_bitsOf_j49 v2 v4 M = some out) : AtL w p l e ({ frames := 0, cells := 0, slots := 0, locals := 0 } : Room) s m args below meth c (MQ below (QL w out M L) args s 0 0 (wA w)) 8 49 M L [(2, .double v2), (4, .long v4)] [] := by
  intro H locs ls hP hS hl
  unfold f_X8_bitsOf_j49 at hf
  refine lv_dload_n C.1 C.2.1 dX8_bitsOf_49 rfl (lv_at hl 0 rfl) ?_
  refine lv_dconst1 C.1 C.2.1 dX8_bitsOf_50 ?_
  obtain ⟨x6, hx6, hf⟩ := ob hf
  refine k_dsub C hx6 dX8_bitsOf_51 ?_
  refine lv_ldc2d C.1 C.2.1 C.2.2.2.1 (C.2.2.2.2.1 _ q455) dX8_bitsOf_52 ?_
  obtain ⟨x7, hx7, hf⟩ := ob hf
  refine k_dmul C hx7 dX8_bitsOf_55 ?_
  refine lv_d2l C.1 C.2.1 dX8_bitsOf_56 ?_
  refine lv_lstore (lv' := [(6, .long (FP.d2l x7)), (2, .double v2), (4, .long v4)]) C.1 C.2.1 dX8_bitsOf_57 hl (by decide) rfl (fun ls hl => ?_)
  refine lv_lload C.1 C.2.1 dX8_bitsOf_59 (lv_at hl 2 rfl) ?_
  refine lv_bipush (v := 52) C.1 C.2.1 dX8_bitsOf_61 (by decide) ?_
  refine lv_lshl (v := (v4 <<< (Int32.toInt64 52 &&& 63))) C.1 C.2.1 dX8_bitsOf_63 rfl ?_
  refine lv_lload C.1 C.2.1 dX8_bitsOf_64 (lv_at hl 0 rfl) ?_
  refine lv_ladd C.1 C.2.1 dX8_bitsOf_66 ?_
  cases hf
  exact krl C hP hS dX8_bitsOf_67
set_option maxHeartbeats 4000000 in
set_option maxRecDepth 100000 in
theorem c_X8_bitsOf (w : WT) (l : Launch) (hw : WOK w) {a0 : UInt64} {M : Mem} {L : Lng} {out : Int64} (hf : f_X8_bitsOf a0 M = some out) : Met l yX8_bitsOf (Cond.code yX8_bitsOf cX8_bitsOf 8 (some .long) :: BG) ({ frames := 0, cells := 0, slots := 0, locals := 0 } : Room) (PRE w [.double a0] M L) (QL w out M L) 0 0 (wA w) := by
  refine kEnt hw (by decide +kernel) rfl (Nat.le_of_ble_eq_true rfl) ?_
  intro p e s m args below meth c C ls hl hP
  have hS : va_S (wA w) s.heap s.heap [] := va_S.rf
  have hl : lv_has ls 8 [(0, .double a0)] := hl
  unfold f_X8_bitsOf at hf
  refine lv_dload_n C.1 C.2.1 dX8_bitsOf_0 rfl (lv_at hl 0 rfl) ?_
  refine lv_dconst0 C.1 C.2.1 dX8_bitsOf_1 ?_
  refine lv_dcmp C.1 C.2.1 dX8_bitsOf_2 ?_
  refine lv_if_gt (tgt := 8) C.1 C.2.1 dX8_bitsOf_3 (by decide) (fun c1 => ?_) (fun c1 => ?_)
  · have hf := (if_pos c1).symm.trans hf
    refine lv_dload_n C.1 C.2.1 dX8_bitsOf_8 rfl (lv_at hl 0 rfl) ?_
    refine lv_dstore_n (lv' := [(2, .double a0), (0, .double a0)]) C.1 C.2.1 dX8_bitsOf_9 rfl hl (by decide) rfl (fun ls hl => ?_)
    refine lv_ldc2 C.1 C.2.1 C.2.2.2.1 (C.2.2.2.2.1 _ q453) dX8_bitsOf_10 ?_
    refine lv_lstore (lv' := [(4, .long 1023), (2, .double a0), (0, .double a0)]) C.1 C.2.1 dX8_bitsOf_13 hl (by decide) rfl (fun ls hl => ?_)
    refine lv_iconst (v := 0) C.1 C.2.1 dX8_bitsOf_15 (by decide) ?_
    refine lv_istore (lv' := [(6, .int 0), (4, .long 1023), (2, .double a0), (0, .double a0)]) C.1 C.2.1 dX8_bitsOf_16 hl (by decide) rfl (fun ls hl => ?_)
    obtain ⟨o5, ho5, hf⟩ := ob hf
    refine loop_at (w_X8_bitsOf_l18 C) FU _ o5 ho5 ?_ _ _ _ hP hS (lv_sub hl [2, 1, 0] rfl)
    intro H locs ls hP hS hl
    exact w_X8_bitsOf_j49 C hf _ _ _ hP hS hl
  · have hf := (if_neg c1).symm.trans hf
    refine lv_lconst (v := 0) C.1 C.2.1 dX8_bitsOf_6 (by decide) ?_
    cases hf
    exact krl C hP hS dX8_bitsOf_7
