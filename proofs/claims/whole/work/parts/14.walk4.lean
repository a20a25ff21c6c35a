theorem dX8_correct_0 : decode cX8_correct 0 = .ok (.aload_n 0, 1) := by decide +kernel
theorem dX8_correct_1 : decode cX8_correct 1 = .ok (.getfield 10, 3) := by decide +kernel
theorem dX8_correct_4 : decode cX8_correct 4 = .ok (.iload_n 1, 1) := by decide +kernel
theorem dX8_correct_5 : decode cX8_correct 5 = .ok (.invokevirtual 99, 3) := by decide +kernel
theorem dX8_correct_8 : decode cX8_correct 8 = .ok (.ifCond .ne 13, 3) := by decide +kernel
theorem dX8_correct_11 : decode cX8_correct 11 = .ok (.new 51, 3) := by decide +kernel
theorem dX8_correct_14 : decode cX8_correct 14 = .ok (.dup, 1) := by decide +kernel
theorem dX8_correct_15 : decode cX8_correct 15 = .ok (.ldc 102, 2) := by decide +kernel
theorem dX8_correct_17 : decode cX8_correct 17 = .ok (.invokespecial 55, 3) := by decide +kernel
theorem dX8_correct_20 : decode cX8_correct 20 = .ok (.athrow, 1) := by decide +kernel
theorem dX8_correct_21 : decode cX8_correct 21 = .ok (.iload_n 2, 1) := by decide +kernel
theorem dX8_correct_22 : decode cX8_correct 22 = .ok (.invokestatic 78, 3) := by decide +kernel
theorem dX8_correct_25 : decode cX8_correct 25 = .ok (.ifCond .eq 10, 3) := by decide +kernel
theorem dX8_correct_28 : decode cX8_correct 28 = .ok (.iload_n 3, 1) := by decide +kernel
theorem dX8_correct_29 : decode cX8_correct 29 = .ok (.invokestatic 81, 3) := by decide +kernel
theorem dX8_correct_32 : decode cX8_correct 32 = .ok (.ifCond .ne 13, 3) := by decide +kernel
theorem dX8_correct_35 : decode cX8_correct 35 = .ok (.new 62, 3) := by decide +kernel
theorem dX8_correct_38 : decode cX8_correct 38 = .ok (.dup, 1) := by decide +kernel
theorem dX8_correct_39 : decode cX8_correct 39 = .ok (.ldc 104, 2) := by decide +kernel
theorem dX8_correct_41 : decode cX8_correct 41 = .ok (.invokespecial 66, 3) := by decide +kernel
theorem dX8_correct_44 : decode cX8_correct 44 = .ok (.athrow, 1) := by decide +kernel
theorem dX8_correct_45 : decode cX8_correct 45 = .ok (.aload_n 0, 1) := by decide +kernel
theorem dX8_correct_46 : decode cX8_correct 46 = .ok (.getfield 19, 3) := by decide +kernel
theorem dX8_correct_49 : decode cX8_correct 49 = .ok (.aload_n 0, 1) := by decide +kernel
theorem dX8_correct_50 : decode cX8_correct 50 = .ok (.getfield 10, 3) := by decide +kernel
theorem dX8_correct_53 : decode cX8_correct 53 = .ok (.invokevirtual 67, 3) := by decide +kernel
theorem dX8_correct_56 : decode cX8_correct 56 = .ok (.aload_n 0, 1) := by decide +kernel
theorem dX8_correct_57 : decode cX8_correct 57 = .ok (.getfield 10, 3) := by decide +kernel
theorem dX8_correct_60 : decode cX8_correct 60 = .ok (.getfield 106, 3) := by decide +kernel
theorem dX8_correct_63 : decode cX8_correct 63 = .ok (.iload_n 1, 1) := by decide +kernel
theorem dX8_correct_64 : decode cX8_correct 64 = .ok (.iload_n 2, 1) := by decide +kernel
theorem dX8_correct_65 : decode cX8_correct 65 = .ok (.iastore, 1) := by decide +kernel
theorem dX8_correct_66 : decode cX8_correct 66 = .ok (.aload_n 0, 1) := by decide +kernel
theorem dX8_correct_67 : decode cX8_correct 67 = .ok (.getfield 10, 3) := by decide +kernel
theorem dX8_correct_70 : decode cX8_correct 70 = .ok (.getfield 109, 3) := by decide +kernel
theorem dX8_correct_73 : decode cX8_correct 73 = .ok (.iload_n 1, 1) := by decide +kernel
theorem dX8_correct_74 : decode cX8_correct 74 = .ok (.iload_n 3, 1) := by decide +kernel
theorem dX8_correct_75 : decode cX8_correct 75 = .ok (.iastore, 1) := by decide +kernel
theorem dX8_correct_76 : decode cX8_correct 76 = .ok (.aload_n 0, 1) := by decide +kernel
theorem dX8_correct_77 : decode cX8_correct 77 = .ok (.invokevirtual 75, 3) := by decide +kernel
theorem dX8_correct_80 : decode cX8_correct 80 = .ok (.aload_n 0, 1) := by decide +kernel
theorem dX8_correct_81 : decode cX8_correct 81 = .ok (.getfield 33, 3) := by decide +kernel
theorem dX8_correct_84 : decode cX8_correct 84 = .ok (.getfield 112, 3) := by decide +kernel
theorem dX8_correct_87 : decode cX8_correct 87 = .ok (.getfield 116, 3) := by decide +kernel
theorem dX8_correct_90 : decode cX8_correct 90 = .ok (.ireturn, 1) := by decide +kernel
set_option maxHeartbeats 4000000 in
set_option maxRecDepth 100000 in
theorem w_X8_correct_j35 {w : WT} {l : Launch} {p : Program} {e : Env} {s : State} {m : MethodId} {args : Array Value} {below : List Frame} {meth : Method} {c : Code} (C : KC w p s m args meth c cX8_correct 4 RX8 (some .int)) (T : KT w l s c) {M : Mem} {L : Lng} {out : (Nat × Mem) ⊕ (Int32 × Mem)} (hf : f_X8_correct_j35 M = some out) : AtL w p l e ({ frames := 6, cells := 1, slots := 6, locals := 131 } : Room) s m args below meth c (vx_MQ below (QX w out L) (XX w out L) args s 1 6 (wA w)) 4 35 M L [] [] := by
  intro H locs ls hP hS hl
  unfold f_X8_correct_j35 at hf
  cases hf
  exact k_thr C T hP hS hl.1 1 (by decide) q547 q15 (List.mem_of_getElem? (i := 5) rfl) dX8_correct_35 dX8_correct_38 dX8_correct_39 dX8_correct_41 dX8_correct_44 (Nat.le_of_ble_eq_true rfl) (Nat.le_of_ble_eq_true rfl) (Nat.le_refl _) (Nat.le_refl _)
set_option maxHeartbeats 4000000 in
set_option maxRecDepth 100000 in
theorem c_X8_correct (w : WT) (l : Launch) (hw : WOK w) (hfl : l.stackTraces = false) {a1 : Int32} {a2 : Int32} {a3 : Int32} {M : Mem} {L : Lng} {out : (Nat × Mem) ⊕ (Int32 × Mem)} (hf : f_X8_correct a1 a2 a3 M = some out) : vx_Met l yX8_correct (Cond.code yX8_correct cX8_correct 4 (some .int) :: BG) ({ frames := 6, cells := 1, slots := 6, locals := 131 } : Room) (PREX w [.ref (wAd w 0), .int a1, .int a2, .int a3] M L) (QX w out L) (XX w out L) 1 6 (wA w) := by
  refine kEntX hw hfl (by decide +kernel) rfl (Nat.le_of_ble_eq_true rfl) ?_
  intro p e s m args below meth c C T ls hl hP
  have hS : va_S (wA w) s.heap s.heap [] := va_S.rf
  have hl : lv_has ls 4 [(0, .ref (wAd w 0)), (1, .int a1), (2, .int a2), (3, .int a3)] := hl
  unfold f_X8_correct at hf
  refine lv_aload_n C.1 C.2.1 dX8_correct_0 rfl (lv_at hl 0 rfl) ?_
  refine k_get (v := .ref (wAd w 1)) C hP (lt_NoisePost h0_NoisePost) (ob_NoisePost h0_NoisePost w L _) rfl iX8 0 (by decide) q284 rfl dX8_correct_1 ?_
  refine lv_iload_n C.1 C.2.1 dX8_correct_4 rfl (lv_at hl 1 rfl) ?_
  obtain ⟨r1, hr1, hf⟩ := ob hf
  refine kci (kV (As := [.int a1]) (rest := []) C hl.1 hP hS (c_X5_hasMinute w l C.2.2.2.2.2.2.2.2 to_NoisePost_state (L := L) hr1) (gV q691 q692 q693 q2 q694) hd_X5_hasMinute (lt_State to_NoisePost_state) (ob_State to_NoisePost_state w L _) rfl ⟨rfl, rfl⟩ ⟨Nat.le_of_ble_eq_true rfl, Nat.le_of_ble_eq_true rfl⟩ rfl rfl (Nat.le_of_ble_eq_true rfl) dX8_correct_5 ⟨Nat.zero_le _, Nat.zero_le _⟩) hS (fun H locs hP hS => ?_)
  refine lv_if_ne (tgt := 21) C.1 C.2.1 dX8_correct_8 (by decide) (fun c2 => ?_) (fun c2 => ?_)
  · have hf := (if_neg c2).symm.trans hf
    refine lv_iload_n C.1 C.2.1 dX8_correct_21 rfl (lv_at hl 2 rfl) ?_
    obtain ⟨r3, hr3, hf⟩ := ob hf
    refine kci (kS (As := [.int a2]) (rest := []) C hl.1 hP hS (c_X8_isLevel w l C.2.2.2.2.2.2.2.2 (L := L) hr3) (gS q657 q658 q1 q659) hd_X8_isLevel ⟨rfl, rfl⟩ ⟨Nat.le_of_ble_eq_true rfl, Nat.le_of_ble_eq_true rfl⟩ rfl rfl (Nat.le_of_ble_eq_true rfl) dX8_correct_22 ⟨Nat.zero_le _, Nat.zero_le _⟩) hS (fun H locs hP hS => ?_)
    refine lv_if_eq (tgt := 35) C.1 C.2.1 dX8_correct_25 (by decide) (fun c4 => ?_) (fun c4 => ?_)
    · have hf := (if_pos c4).symm.trans hf
      exact w_X8_correct_j35 C T hf _ _ _ hP hS (lv_sub hl [] rfl)
    · have hf := (if_neg c4).symm.trans hf
      refine lv_iload_n C.1 C.2.1 dX8_correct_28 rfl (lv_at hl 3 rfl) ?_
      obtain ⟨r5, hr5, hf⟩ := ob hf
      refine kci (kS (As := [.int a3]) (rest := []) C hl.1 hP hS (c_X8_isWind w l C.2.2.2.2.2.2.2.2 (L := L) hr5) (gS q660 q661 q1 q662) hd_X8_isWind ⟨rfl, rfl⟩ ⟨Nat.le_of_ble_eq_true rfl, Nat.le_of_ble_eq_true rfl⟩ rfl rfl (Nat.le_of_ble_eq_true rfl) dX8_correct_29 ⟨Nat.zero_le _, Nat.zero_le _⟩) hS (fun H locs hP hS => ?_)
      refine lv_if_ne (tgt := 45) C.1 C.2.1 dX8_correct_32 (by decide) (fun c6 => ?_) (fun c6 => ?_)
      · have hf := (if_neg c6).symm.trans hf
        refine lv_aload_n C.1 C.2.1 dX8_correct_45 rfl (lv_at hl 0 rfl) ?_
        refine k_get (v := .ref (wAd w 46)) C hP (lt_NoisePost h0_NoisePost) (ob_NoisePost h0_NoisePost w L _) rfl iX8 1 (by decide) q285 rfl dX8_correct_46 ?_
        refine lv_aload_n C.1 C.2.1 dX8_correct_49 rfl (lv_at hl 0 rfl) ?_
        refine k_get (v := .ref (wAd w 1)) C hP (lt_NoisePost h0_NoisePost) (ob_NoisePost h0_NoisePost w L _) rfl iX8 0 (by decide) q284 rfl dX8_correct_50 ?_
        obtain ⟨r7, hr7, hf⟩ := ob hf
        refine kcv (kV (As := [.ref (wAd w 1)]) (rest := []) C hl.1 hP hS (c_X1_keep w l C.2.2.2.2.2.2.2.2 to_NoisePost_state (L := L) hr7) (gV q563 q564 q565 q3 q566) hd_X1_keep (lt_History to_NoisePost_history) (ob_History to_NoisePost_history w L _) rfl ⟨rfl, rfl⟩ ⟨Nat.le_of_ble_eq_true rfl, Nat.le_of_ble_eq_true rfl⟩ rfl rfl (Nat.le_of_ble_eq_true rfl) dX8_correct_53 ⟨Nat.zero_le _, Nat.zero_le _⟩) hS (fun H locs hP hS => ?_)
        refine lv_aload_n C.1 C.2.1 dX8_correct_56 rfl (lv_at hl 0 rfl) ?_
        refine k_get (v := .ref (wAd w 1)) C hP (lt_NoisePost h0_NoisePost) (ob_NoisePost h0_NoisePost w L _) rfl iX8 0 (by decide) q284 rfl dX8_correct_57 ?_
        refine k_get (v := .ref (wAd w 2)) C hP (lt_State to_NoisePost_state) (ob_State to_NoisePost_state w L _) rfl iX5 0 (by decide) q45 rfl dX8_correct_60 ?_
        refine lv_iload_n C.1 C.2.1 dX8_correct_63 rfl (lv_at hl 1 rfl) ?_
        refine lv_iload_n C.1 C.2.1 dX8_correct_64 rfl (lv_at hl 2 rfl) ?_
        obtain ⟨M8, hM8, hf⟩ := ob hf
        refine k_iast C hP hS (la_State_levels to_NoisePost_state) (ar_State_levels to_NoisePost_state w L) hM8 dX8_correct_65 (fun H locs hP hS => ?_)
        refine lv_aload_n C.1 C.2.1 dX8_correct_66 rfl (lv_at hl 0 rfl) ?_
        refine k_get (v := .ref (wAd w 1)) C hP (lt_NoisePost h0_NoisePost) (ob_NoisePost h0_NoisePost w L _) rfl iX8 0 (by decide) q284 rfl dX8_correct_67 ?_
        refine k_get (v := .ref (wAd w 3)) C hP (lt_State to_NoisePost_state) (ob_State to_NoisePost_state w L _) rfl iX5 1 (by decide) q48 rfl dX8_correct_70 ?_
        refine lv_iload_n C.1 C.2.1 dX8_correct_73 rfl (lv_at hl 1 rfl) ?_
        refine lv_iload_n C.1 C.2.1 dX8_correct_74 rfl (lv_at hl 3 rfl) ?_
        obtain ⟨M9, hM9, hf⟩ := ob hf
        refine k_iast C hP hS (la_State_winds to_NoisePost_state) (ar_State_winds to_NoisePost_state w L) hM9 dX8_correct_75 (fun H locs hP hS => ?_)
        refine lv_aload_n C.1 C.2.1 dX8_correct_76 rfl (lv_at hl 0 rfl) ?_
        obtain ⟨r10, hr10, hf⟩ := ob hf
        refine kcv (kV (As := []) (rest := []) C hl.1 hP hS (c_X8_readAgain w l C.2.2.2.2.2.2.2.2 (L := L) hr10) (gV q577 q579 qp18 q1 q580) hd_X8_readAgain (lt_NoisePost h0_NoisePost) (ob_NoisePost h0_NoisePost w L _) rfl ⟨rfl, rfl⟩ ⟨Nat.le_of_ble_eq_true rfl, Nat.le_of_ble_eq_true rfl⟩ rfl rfl (Nat.le_of_ble_eq_true rfl) dX8_correct_77 ⟨Nat.zero_le _, Nat.zero_le _⟩) hS (fun H locs hP hS => ?_)
        refine lv_aload_n C.1 C.2.1 dX8_correct_80 rfl (lv_at hl 0 rfl) ?_
        refine k_get (v := .ref (wAd w 54)) C hP (lt_NoisePost h0_NoisePost) (ob_NoisePost h0_NoisePost w L _) rfl iX8 3 (by decide) q287 rfl dX8_correct_81 ?_
        refine k_get (v := .ref (wAd w 60)) C hP (lt_View to_NoisePost_now) (ob_View to_NoisePost_now w L _) rfl iX7 2 (by decide) q261 rfl dX8_correct_84 ?_
        refine k_get (v := .int (r10 60 6)) C hP (lt_Exceedances (to_View_exceedances to_NoisePost_now)) (ob_Exceedances (to_View_exceedances to_NoisePost_now) w L _) rfl iX0 6 (by decide) q209 rfl dX8_correct_87 ?_
        cases hf
        exact krix C hP hS dX8_correct_90
      · have hf := (if_pos c6).symm.trans hf
        exact w_X8_correct_j35 C T hf _ _ _ hP hS (lv_sub hl [] rfl)
  · have hf := (if_pos c2).symm.trans hf
    cases hf
    exact k_thr C T hP hS hl.1 0 (by decide) q472 q14 (List.mem_of_getElem? (i := 4) rfl) dX8_correct_11 dX8_correct_14 dX8_correct_15 dX8_correct_17 dX8_correct_20 (Nat.le_of_ble_eq_true rfl) (Nat.le_of_ble_eq_true rfl) (Nat.le_refl _) (Nat.le_refl _)
theorem dX8_forget_0 : decode cX8_forget 0 = .ok (.iload_n 1, 1) := by decide +kernel
theorem dX8_forget_1 : decode cX8_forget 1 = .ok (.iconst 1, 1) := by decide +kernel
theorem dX8_forget_2 : decode cX8_forget 2 = .ok (.if_icmp .lt 14, 3) := by decide +kernel
theorem dX8_forget_5 : decode cX8_forget 5 = .ok (.iload_n 1, 1) := by decide +kernel
theorem dX8_forget_6 : decode cX8_forget 6 = .ok (.aload_n 0, 1) := by decide +kernel
theorem dX8_forget_7 : decode cX8_forget 7 = .ok (.getfield 10, 3) := by decide +kernel
theorem dX8_forget_10 : decode cX8_forget 10 = .ok (.getfield 86, 3) := by decide +kernel
theorem dX8_forget_13 : decode cX8_forget 13 = .ok (.if_icmp .le 13, 3) := by decide +kernel
theorem dX8_forget_16 : decode cX8_forget 16 = .ok (.new 62, 3) := by decide +kernel
theorem dX8_forget_19 : decode cX8_forget 19 = .ok (.dup, 1) := by decide +kernel
theorem dX8_forget_20 : decode cX8_forget 20 = .ok (.ldc 121, 2) := by decide +kernel
theorem dX8_forget_22 : decode cX8_forget 22 = .ok (.invokespecial 66, 3) := by decide +kernel
theorem dX8_forget_25 : decode cX8_forget 25 = .ok (.athrow, 1) := by decide +kernel
theorem dX8_forget_26 : decode cX8_forget 26 = .ok (.aload_n 0, 1) := by decide +kernel
theorem dX8_forget_27 : decode cX8_forget 27 = .ok (.getfield 19, 3) := by decide +kernel
theorem dX8_forget_30 : decode cX8_forget 30 = .ok (.aload_n 0, 1) := by decide +kernel
theorem dX8_forget_31 : decode cX8_forget 31 = .ok (.getfield 10, 3) := by decide +kernel
theorem dX8_forget_34 : decode cX8_forget 34 = .ok (.invokevirtual 67, 3) := by decide +kernel
theorem dX8_forget_37 : decode cX8_forget 37 = .ok (.aload_n 0, 1) := by decide +kernel
theorem dX8_forget_38 : decode cX8_forget 38 = .ok (.getfield 10, 3) := by decide +kernel
theorem dX8_forget_41 : decode cX8_forget 41 = .ok (.iload_n 1, 1) := by decide +kernel
theorem dX8_forget_42 : decode cX8_forget 42 = .ok (.invokevirtual 123, 3) := by decide +kernel
theorem dX8_forget_45 : decode cX8_forget 45 = .ok (.aload_n 0, 1) := by decide +kernel
theorem dX8_forget_46 : decode cX8_forget 46 = .ok (.invokevirtual 75, 3) := by decide +kernel
theorem dX8_forget_49 : decode cX8_forget 49 = .ok (.aload_n 0, 1) := by decide +kernel
theorem dX8_forget_50 : decode cX8_forget 50 = .ok (.getfield 10, 3) := by decide +kernel
theorem dX8_forget_53 : decode cX8_forget 53 = .ok (.getfield 86, 3) := by decide +kernel
theorem dX8_forget_56 : decode cX8_forget 56 = .ok (.ireturn, 1) := by decide +kernel
set_option maxHeartbeats 4000000 in
set_option maxRecDepth 100000 in
theorem w_X8_forget_j16 {w : WT} {l : Launch} {p : Program} {e : Env} {s : State} {m : MethodId} {args : Array Value} {below : List Frame} {meth : Method} {c : Code} (C : KC w p s m args meth c cX8_forget 2 RX8 (some .int)) (T : KT w l s c) {M : Mem} {L : Lng} {out : (Nat × Mem) ⊕ (Int32 × Mem)} (hf : f_X8_forget_j16 M = some out) : AtL w p l e ({ frames := 6, cells := 1, slots := 6, locals := 131 } : Room) s m args below meth c (vx_MQ below (QX w out L) (XX w out L) args s 1 6 (wA w)) 2 16 M L [] [] := by
  intro H locs ls hP hS hl
  unfold f_X8_forget_j16 at hf
  cases hf
  exact k_thr C T hP hS hl.1 1 (by decide) q547 q15 (List.mem_of_getElem? (i := 6) rfl) dX8_forget_16 dX8_forget_19 dX8_forget_20 dX8_forget_22 dX8_forget_25 (Nat.le_of_ble_eq_true rfl) (Nat.le_of_ble_eq_true rfl) (Nat.le_refl _) (Nat.le_refl _)
set_option maxHeartbeats 4000000 in
set_option maxRecDepth 100000 in
theorem c_X8_forget (w : WT) (l : Launch) (hw : WOK w) (hfl : l.stackTraces = false) {a1 : Int32} {M : Mem} {L : Lng} {out : (Nat × Mem) ⊕ (Int32 × Mem)} (hf : f_X8_forget a1 M = some out) : vx_Met l yX8_forget (Cond.code yX8_forget cX8_forget 2 (some .int) :: BG) ({ frames := 6, cells := 1, slots := 6, locals := 131 } : Room) (PREX w [.ref (wAd w 0), .int a1] M L) (QX w out L) (XX w out L) 1 6 (wA w) := by
  refine kEntX hw hfl (by decide +kernel) rfl (Nat.le_of_ble_eq_true rfl) ?_
  intro p e s m args below meth c C T ls hl hP
  have hS : va_S (wA w) s.heap s.heap [] := va_S.rf
  have hl : lv_has ls 2 [(0, .ref (wAd w 0)), (1, .int a1)] := hl
  unfold f_X8_forget at hf
  refine lv_iload_n C.1 C.2.1 dX8_forget_0 rfl (lv_at hl 1 rfl) ?_
  refine lv_iconst (v := 1) C.1 C.2.1 dX8_forget_1 (by decide) ?_
  refine lv_icmp_lt (tgt := 16) C.1 C.2.1 dX8_forget_2 (by decide) (fun c1 => ?_) (fun c1 => ?_)
  · have hf := (if_pos c1).symm.trans hf
    exact w_X8_forget_j16 C T hf _ _ _ hP hS (lv_sub hl [] rfl)
  · have hf := (if_neg c1).symm.trans hf
    refine lv_iload_n C.1 C.2.1 dX8_forget_5 rfl (lv_at hl 1 rfl) ?_
    refine lv_aload_n C.1 C.2.1 dX8_forget_6 rfl (lv_at hl 0 rfl) ?_
    refine k_get (v := .ref (wAd w 1)) C hP (lt_NoisePost h0_NoisePost) (ob_NoisePost h0_NoisePost w L _) rfl iX8 0 (by decide) q284 rfl dX8_forget_7 ?_
    refine k_get (v := .int (M 1 4)) C hP (lt_State to_NoisePost_state) (ob_State to_NoisePost_state w L _) rfl iX5 4 (by decide) q56 rfl dX8_forget_10 ?_
    refine lv_icmp_le (tgt := 26) C.1 C.2.1 dX8_forget_13 (by decide) (fun c2 => ?_) (fun c2 => ?_)
    · have hf := (if_pos c2).symm.trans hf
      refine lv_aload_n C.1 C.2.1 dX8_forget_26 rfl (lv_at hl 0 rfl) ?_
      refine k_get (v := .ref (wAd w 46)) C hP (lt_NoisePost h0_NoisePost) (ob_NoisePost h0_NoisePost w L _) rfl iX8 1 (by decide) q285 rfl dX8_forget_27 ?_
      refine lv_aload_n C.1 C.2.1 dX8_forget_30 rfl (lv_at hl 0 rfl) ?_
      refine k_get (v := .ref (wAd w 1)) C hP (lt_NoisePost h0_NoisePost) (ob_NoisePost h0_NoisePost w L _) rfl iX8 0 (by decide) q284 rfl dX8_forget_31 ?_
      obtain ⟨r3, hr3, hf⟩ := ob hf
      refine kcv (kV (As := [.ref (wAd w 1)]) (rest := []) C hl.1 hP hS (c_X1_keep w l C.2.2.2.2.2.2.2.2 to_NoisePost_state (L := L) hr3) (gV q563 q564 q565 q3 q566) hd_X1_keep (lt_History to_NoisePost_history) (ob_History to_NoisePost_history w L _) rfl ⟨rfl, rfl⟩ ⟨Nat.le_of_ble_eq_true rfl, Nat.le_of_ble_eq_true rfl⟩ rfl rfl (Nat.le_of_ble_eq_true rfl) dX8_forget_34 ⟨Nat.zero_le _, Nat.zero_le _⟩) hS (fun H locs hP hS => ?_)
      refine lv_aload_n C.1 C.2.1 dX8_forget_37 rfl (lv_at hl 0 rfl) ?_
      refine k_get (v := .ref (wAd w 1)) C hP (lt_NoisePost h0_NoisePost) (ob_NoisePost h0_NoisePost w L _) rfl iX8 0 (by decide) q284 rfl dX8_forget_38 ?_
      refine lv_iload_n C.1 C.2.1 dX8_forget_41 rfl (lv_at hl 1 rfl) ?_
      obtain ⟨r4, hr4, hf⟩ := ob hf
      refine kcv (kV (As := [.int a1]) (rest := []) C hl.1 hP hS (c_X5_dropMinutes w l C.2.2.2.2.2.2.2.2 to_NoisePost_state (L := L) hr4) (gV q705 q706 q707 q2 q708) hd_X5_dropMinutes (lt_State to_NoisePost_state) (ob_State to_NoisePost_state w L _) rfl ⟨rfl, rfl⟩ ⟨Nat.le_of_ble_eq_true rfl, Nat.le_of_ble_eq_true rfl⟩ rfl rfl (Nat.le_of_ble_eq_true rfl) dX8_forget_42 ⟨Nat.zero_le _, Nat.zero_le _⟩) hS (fun H locs hP hS => ?_)
      refine lv_aload_n C.1 C.2.1 dX8_forget_45 rfl (lv_at hl 0 rfl) ?_
      obtain ⟨r5, hr5, hf⟩ := ob hf
      refine kcv (kV (As := []) (rest := []) C hl.1 hP hS (c_X8_readAgain w l C.2.2.2.2.2.2.2.2 (L := L) hr5) (gV q577 q579 qp18 q1 q580) hd_X8_readAgain (lt_NoisePost h0_NoisePost) (ob_NoisePost h0_NoisePost w L _) rfl ⟨rfl, rfl⟩ ⟨Nat.le_of_ble_eq_true rfl, Nat.le_of_ble_eq_true rfl⟩ rfl rfl (Nat.le_of_ble_eq_true rfl) dX8_forget_46 ⟨Nat.zero_le _, Nat.zero_le _⟩) hS (fun H locs hP hS => ?_)
      refine lv_aload_n C.1 C.2.1 dX8_forget_49 rfl (lv_at hl 0 rfl) ?_
      refine k_get (v := .ref (wAd w 1)) C hP (lt_NoisePost h0_NoisePost) (ob_NoisePost h0_NoisePost w L _) rfl iX8 0 (by decide) q284 rfl dX8_forget_50 ?_
      refine k_get (v := .int (r5 1 4)) C hP (lt_State to_NoisePost_state) (ob_State to_NoisePost_state w L _) rfl iX5 4 (by decide) q56 rfl dX8_forget_53 ?_
      cases hf
      exact krix C hP hS dX8_forget_56
    · have hf := (if_neg c2).symm.trans hf
      exact w_X8_forget_j16 C T hf _ _ _ hP hS (lv_sub hl [] rfl)
theorem dX8_complain_0 : decode cX8_complain 0 = .ok (.iload_n 1, 1) := by decide +kernel
theorem dX8_complain_1 : decode cX8_complain 1 = .ok (.ifCond .lt 10, 3) := by decide +kernel
theorem dX8_complain_4 : decode cX8_complain 4 = .ok (.iload_n 1, 1) := by decide +kernel
theorem dX8_complain_5 : decode cX8_complain 5 = .ok (.sipush 300, 3) := by decide +kernel
theorem dX8_complain_8 : decode cX8_complain 8 = .ok (.if_icmp .le 13, 3) := by decide +kernel
theorem dX8_complain_11 : decode cX8_complain 11 = .ok (.new 62, 3) := by decide +kernel
theorem dX8_complain_14 : decode cX8_complain 14 = .ok (.dup, 1) := by decide +kernel
theorem dX8_complain_15 : decode cX8_complain 15 = .ok (.ldc 127, 2) := by decide +kernel
theorem dX8_complain_17 : decode cX8_complain 17 = .ok (.invokespecial 66, 3) := by decide +kernel
theorem dX8_complain_20 : decode cX8_complain 20 = .ok (.athrow, 1) := by decide +kernel
theorem dX8_complain_21 : decode cX8_complain 21 = .ok (.aload_n 0, 1) := by decide +kernel
theorem dX8_complain_22 : decode cX8_complain 22 = .ok (.getfield 10, 3) := by decide +kernel
theorem dX8_complain_25 : decode cX8_complain 25 = .ok (.getfield 129, 3) := by decide +kernel
theorem dX8_complain_28 : decode cX8_complain 28 = .ok (.bipush 20, 2) := by decide +kernel
theorem dX8_complain_30 : decode cX8_complain 30 = .ok (.if_icmp .lt 13, 3) := by decide +kernel
theorem dX8_complain_33 : decode cX8_complain 33 = .ok (.new 90, 3) := by decide +kernel
theorem dX8_complain_36 : decode cX8_complain 36 = .ok (.dup, 1) := by decide +kernel
theorem dX8_complain_37 : decode cX8_complain 37 = .ok (.ldc 132, 2) := by decide +kernel
theorem dX8_complain_39 : decode cX8_complain 39 = .ok (.invokespecial 94, 3) := by decide +kernel
theorem dX8_complain_42 : decode cX8_complain 42 = .ok (.athrow, 1) := by decide +kernel
theorem dX8_complain_43 : decode cX8_complain 43 = .ok (.aload_n 0, 1) := by decide +kernel
theorem dX8_complain_44 : decode cX8_complain 44 = .ok (.getfield 19, 3) := by decide +kernel
theorem dX8_complain_47 : decode cX8_complain 47 = .ok (.aload_n 0, 1) := by decide +kernel
theorem dX8_complain_48 : decode cX8_complain 48 = .ok (.getfield 10, 3) := by decide +kernel
theorem dX8_complain_51 : decode cX8_complain 51 = .ok (.invokevirtual 67, 3) := by decide +kernel
theorem dX8_complain_54 : decode cX8_complain 54 = .ok (.aload_n 0, 1) := by decide +kernel
theorem dX8_complain_55 : decode cX8_complain 55 = .ok (.getfield 10, 3) := by decide +kernel
theorem dX8_complain_58 : decode cX8_complain 58 = .ok (.getfield 129, 3) := by decide +kernel
theorem dX8_complain_61 : decode cX8_complain 61 = .ok (.istore_n 2, 1) := by decide +kernel
theorem dX8_complain_62 : decode cX8_complain 62 = .ok (.aload_n 0, 1) := by decide +kernel
theorem dX8_complain_63 : decode cX8_complain 63 = .ok (.getfield 10, 3) := by decide +kernel
theorem dX8_complain_66 : decode cX8_complain 66 = .ok (.iload_n 1, 1) := by decide +kernel
theorem dX8_complain_67 : decode cX8_complain 67 = .ok (.invokevirtual 134, 3) := by decide +kernel
theorem dX8_complain_70 : decode cX8_complain 70 = .ok (.aload_n 0, 1) := by decide +kernel
theorem dX8_complain_71 : decode cX8_complain 71 = .ok (.invokevirtual 75, 3) := by decide +kernel
theorem dX8_complain_74 : decode cX8_complain 74 = .ok (.iload_n 2, 1) := by decide +kernel
theorem dX8_complain_75 : decode cX8_complain 75 = .ok (.ireturn, 1) := by decide +kernel
set_option maxHeartbeats 4000000 in
set_option maxRecDepth 100000 in
theorem w_X8_complain_j11 {w : WT} {l : Launch} {p : Program} {e : Env} {s : State} {m : MethodId} {args : Array Value} {below : List Frame} {meth : Method} {c : Code} (C : KC w p s m args meth c cX8_complain 3 RX8 (some .int)) (T : KT w l s c) {M : Mem} {L : Lng} {out : (Nat × Mem) ⊕ (Int32 × Mem)} (hf : f_X8_complain_j11 M = some out) : AtL w p l e ({ frames := 6, cells := 1, slots := 6, locals := 131 } : Room) s m args below meth c (vx_MQ below (QX w out L) (XX w out L) args s 1 6 (wA w)) 3 11 M L [] [] := by
  intro H locs ls hP hS hl
  unfold f_X8_complain_j11 at hf
  cases hf
  exact k_thr C T hP hS hl.1 1 (by decide) q547 q15 (List.mem_of_getElem? (i := 7) rfl) dX8_complain_11 dX8_complain_14 dX8_complain_15 dX8_complain_17 dX8_complain_20 (Nat.le_of_ble_eq_true rfl) (Nat.le_of_ble_eq_true rfl) (Nat.le_refl _) (Nat.le_refl _)
set_option maxHeartbeats 4000000 in
set_option maxRecDepth 100000 in
theorem c_X8_complain (w : WT) (l : Launch) (hw : WOK w) (hfl : l.stackTraces = false) {a1 : Int32} {M : Mem} {L : Lng} {out : (Nat × Mem) ⊕ (Int32 × Mem)} (hf : f_X8_complain a1 M = some out) : vx_Met l yX8_complain (Cond.code yX8_complain cX8_complain 3 (some .int) :: BG) ({ frames := 6, cells := 1, slots := 6, locals := 131 } : Room) (PREX w [.ref (wAd w 0), .int a1] M L) (QX w out L) (XX w out L) 1 6 (wA w) := by
  refine kEntX hw hfl (by decide +kernel) rfl (Nat.le_of_ble_eq_true rfl) ?_
  intro p e s m args below meth c C T ls hl hP
  have hS : va_S (wA w) s.heap s.heap [] := va_S.rf
  have hl : lv_has ls 3 [(0, .ref (wAd w 0)), (1, .int a1)] := hl
  unfold f_X8_complain at hf
  refine lv_iload_n C.1 C.2.1 dX8_complain_0 rfl (lv_at hl 1 rfl) ?_
  refine lv_if_lt (tgt := 11) C.1 C.2.1 dX8_complain_1 (by decide) (fun c1 => ?_) (fun c1 => ?_)
  · have hf := (if_pos c1).symm.trans hf
    exact w_X8_complain_j11 C T hf _ _ _ hP hS (lv_sub hl [] rfl)
  · have hf := (if_neg c1).symm.trans hf
    refine lv_iload_n C.1 C.2.1 dX8_complain_4 rfl (lv_at hl 1 rfl) ?_
    refine lv_sipush (v := 300) C.1 C.2.1 dX8_complain_5 (by decide) ?_
    refine lv_icmp_le (tgt := 21) C.1 C.2.1 dX8_complain_8 (by decide) (fun c2 => ?_) (fun c2 => ?_)
    · have hf := (if_pos c2).symm.trans hf
      refine lv_aload_n C.1 C.2.1 dX8_complain_21 rfl (lv_at hl 0 rfl) ?_
      refine k_get (v := .ref (wAd w 1)) C hP (lt_NoisePost h0_NoisePost) (ob_NoisePost h0_NoisePost w L _) rfl iX8 0 (by decide) q284 rfl dX8_complain_22 ?_
      refine k_get (v := .int (M 1 5)) C hP (lt_State to_NoisePost_state) (ob_State to_NoisePost_state w L _) rfl iX5 5 (by decide) q59 rfl dX8_complain_25 ?_
      refine lv_bipush (v := 20) C.1 C.2.1 dX8_complain_28 (by decide) ?_
      refine lv_icmp_lt (tgt := 43) C.1 C.2.1 dX8_complain_30 (by decide) (fun c3 => ?_) (fun c3 => ?_)
      · have hf := (if_pos c3).symm.trans hf
        refine lv_aload_n C.1 C.2.1 dX8_complain_43 rfl (lv_at hl 0 rfl) ?_
        refine k_get (v := .ref (wAd w 46)) C hP (lt_NoisePost h0_NoisePost) (ob_NoisePost h0_NoisePost w L _) rfl iX8 1 (by decide) q285 rfl dX8_complain_44 ?_
        refine lv_aload_n C.1 C.2.1 dX8_complain_47 rfl (lv_at hl 0 rfl) ?_
        refine k_get (v := .ref (wAd w 1)) C hP (lt_NoisePost h0_NoisePost) (ob_NoisePost h0_NoisePost w L _) rfl iX8 0 (by decide) q284 rfl dX8_complain_48 ?_
        obtain ⟨r4, hr4, hf⟩ := ob hf
        refine kcv (kV (As := [.ref (wAd w 1)]) (rest := []) C hl.1 hP hS (c_X1_keep w l C.2.2.2.2.2.2.2.2 to_NoisePost_state (L := L) hr4) (gV q563 q564 q565 q3 q566) hd_X1_keep (lt_History to_NoisePost_history) (ob_History to_NoisePost_history w L _) rfl ⟨rfl, rfl⟩ ⟨Nat.le_of_ble_eq_true rfl, Nat.le_of_ble_eq_true rfl⟩ rfl rfl (Nat.le_of_ble_eq_true rfl) dX8_complain_51 ⟨Nat.zero_le _, Nat.zero_le _⟩) hS (fun H locs hP hS => ?_)
        refine lv_aload_n C.1 C.2.1 dX8_complain_54 rfl (lv_at hl 0 rfl) ?_
        refine k_get (v := .ref (wAd w 1)) C hP (lt_NoisePost h0_NoisePost) (ob_NoisePost h0_NoisePost w L _) rfl iX8 0 (by decide) q284 rfl dX8_complain_55 ?_
        refine k_get (v := .int (r4 1 5)) C hP (lt_State to_NoisePost_state) (ob_State to_NoisePost_state w L _) rfl iX5 5 (by decide) q59 rfl dX8_complain_58 ?_
        refine lv_istore_n (lv' := [(2, .int (r4 1 5)), (0, .ref (wAd w 0)), (1, .int a1)]) C.1 C.2.1 dX8_complain_61 rfl hl (by decide) rfl (fun ls hl => ?_)
        refine lv_aload_n C.1 C.2.1 dX8_complain_62 rfl (lv_at hl 1 rfl) ?_
        refine k_get (v := .ref (wAd w 1)) C hP (lt_NoisePost h0_NoisePost) (ob_NoisePost h0_NoisePost w L _) rfl iX8 0 (by decide) q284 rfl dX8_complain_63 ?_
        refine lv_iload_n C.1 C.2.1 dX8_complain_66 rfl (lv_at hl 2 rfl) ?_
        obtain ⟨r5, hr5, hf⟩ := ob hf
        refine kcv (kV (As := [.int a1]) (rest := []) C hl.1 hP hS (c_X5_addComplaint w l C.2.2.2.2.2.2.2.2 to_NoisePost_state (L := L) hr5) (gV q719 q720 q721 q2 q722) hd_X5_addComplaint (lt_State to_NoisePost_state) (ob_State to_NoisePost_state w L _) rfl ⟨rfl, rfl⟩ ⟨Nat.le_of_ble_eq_true rfl, Nat.le_of_ble_eq_true rfl⟩ rfl rfl (Nat.le_of_ble_eq_true rfl) dX8_complain_67 ⟨Nat.zero_le _, Nat.zero_le _⟩) hS (fun H locs hP hS => ?_)
        refine lv_aload_n C.1 C.2.1 dX8_complain_70 rfl (lv_at hl 1 rfl) ?_
        obtain ⟨r6, hr6, hf⟩ := ob hf
        refine kcv (kV (As := []) (rest := []) C hl.1 hP hS (c_X8_readAgain w l C.2.2.2.2.2.2.2.2 (L := L) hr6) (gV q577 q579 qp18 q1 q580) hd_X8_readAgain (lt_NoisePost h0_NoisePost) (ob_NoisePost h0_NoisePost w L _) rfl ⟨rfl, rfl⟩ ⟨Nat.le_of_ble_eq_true rfl, Nat.le_of_ble_eq_true rfl⟩ rfl rfl (Nat.le_of_ble_eq_true rfl) dX8_complain_71 ⟨Nat.zero_le _, Nat.zero_le _⟩) hS (fun H locs hP hS => ?_)
        refine lv_iload_n C.1 C.2.1 dX8_complain_74 rfl (lv_at hl 0 rfl) ?_
        cases hf
        exact krix C hP hS dX8_complain_75
      · have hf := (if_neg c3).symm.trans hf
        cases hf
        exact k_thr C T hP hS hl.1 2 (by decide) q664 q18 (List.mem_of_getElem? (i := 8) rfl) dX8_complain_33 dX8_complain_36 dX8_complain_37 dX8_complain_39 dX8_complain_42 (Nat.le_of_ble_eq_true rfl) (Nat.le_of_ble_eq_true rfl) (Nat.le_refl _) (Nat.le_refl _)
    · have hf := (if_neg c2).symm.trans hf
      exact w_X8_complain_j11 C T hf _ _ _ hP hS (lv_sub hl [] rfl)
theorem dX8_withdraw_0 : decode cX8_withdraw 0 = .ok (.aload_n 0, 1) := by decide +kernel
theorem dX8_withdraw_1 : decode cX8_withdraw 1 = .ok (.getfield 10, 3) := by decide +kernel
theorem dX8_withdraw_4 : decode cX8_withdraw 4 = .ok (.iload_n 1, 1) := by decide +kernel
theorem dX8_withdraw_5 : decode cX8_withdraw 5 = .ok (.invokevirtual 137, 3) := by decide +kernel
theorem dX8_withdraw_8 : decode cX8_withdraw 8 = .ok (.ifCond .ne 13, 3) := by decide +kernel
theorem dX8_withdraw_11 : decode cX8_withdraw 11 = .ok (.new 51, 3) := by decide +kernel
theorem dX8_withdraw_14 : decode cX8_withdraw 14 = .ok (.dup, 1) := by decide +kernel
theorem dX8_withdraw_15 : decode cX8_withdraw 15 = .ok (.ldc 140, 2) := by decide +kernel
theorem dX8_withdraw_17 : decode cX8_withdraw 17 = .ok (.invokespecial 55, 3) := by decide +kernel
theorem dX8_withdraw_20 : decode cX8_withdraw 20 = .ok (.athrow, 1) := by decide +kernel
theorem dX8_withdraw_21 : decode cX8_withdraw 21 = .ok (.aload_n 0, 1) := by decide +kernel
theorem dX8_withdraw_22 : decode cX8_withdraw 22 = .ok (.getfield 19, 3) := by decide +kernel
theorem dX8_withdraw_25 : decode cX8_withdraw 25 = .ok (.aload_n 0, 1) := by decide +kernel
theorem dX8_withdraw_26 : decode cX8_withdraw 26 = .ok (.getfield 10, 3) := by decide +kernel
theorem dX8_withdraw_29 : decode cX8_withdraw 29 = .ok (.invokevirtual 67, 3) := by decide +kernel
theorem dX8_withdraw_32 : decode cX8_withdraw 32 = .ok (.aload_n 0, 1) := by decide +kernel
theorem dX8_withdraw_33 : decode cX8_withdraw 33 = .ok (.getfield 33, 3) := by decide +kernel
theorem dX8_withdraw_36 : decode cX8_withdraw 36 = .ok (.getfield 142, 3) := by decide +kernel
theorem dX8_withdraw_39 : decode cX8_withdraw 39 = .ok (.getfield 146, 3) := by decide +kernel
theorem dX8_withdraw_42 : decode cX8_withdraw 42 = .ok (.iload_n 1, 1) := by decide +kernel
theorem dX8_withdraw_43 : decode cX8_withdraw 43 = .ok (.iaload, 1) := by decide +kernel
theorem dX8_withdraw_44 : decode cX8_withdraw 44 = .ok (.istore_n 2, 1) := by decide +kernel
theorem dX8_withdraw_45 : decode cX8_withdraw 45 = .ok (.aload_n 0, 1) := by decide +kernel
theorem dX8_withdraw_46 : decode cX8_withdraw 46 = .ok (.getfield 10, 3) := by decide +kernel
theorem dX8_withdraw_49 : decode cX8_withdraw 49 = .ok (.iload_n 1, 1) := by decide +kernel
theorem dX8_withdraw_50 : decode cX8_withdraw 50 = .ok (.invokevirtual 151, 3) := by decide +kernel
theorem dX8_withdraw_53 : decode cX8_withdraw 53 = .ok (.aload_n 0, 1) := by decide +kernel
theorem dX8_withdraw_54 : decode cX8_withdraw 54 = .ok (.invokevirtual 75, 3) := by decide +kernel
theorem dX8_withdraw_57 : decode cX8_withdraw 57 = .ok (.iload_n 2, 1) := by decide +kernel
theorem dX8_withdraw_58 : decode cX8_withdraw 58 = .ok (.ireturn, 1) := by decide +kernel
set_option maxHeartbeats 4000000 in
set_option maxRecDepth 100000 in
theorem c_X8_withdraw (w : WT) (l : Launch) (hw : WOK w) (hfl : l.stackTraces = false) {a1 : Int32} {M : Mem} {L : Lng} {out : (Nat × Mem) ⊕ (Int32 × Mem)} (hf : f_X8_withdraw a1 M = some out) : vx_Met l yX8_withdraw (Cond.code yX8_withdraw cX8_withdraw 3 (some .int) :: BG) ({ frames := 6, cells := 1, slots := 6, locals := 131 } : Room) (PREX w [.ref (wAd w 0), .int a1] M L) (QX w out L) (XX w out L) 1 6 (wA w) := by
  refine kEntX hw hfl (by decide +kernel) rfl (Nat.le_of_ble_eq_true rfl) ?_
  intro p e s m args below meth c C T ls hl hP
  have hS : va_S (wA w) s.heap s.heap [] := va_S.rf
  have hl : lv_has ls 3 [(0, .ref (wAd w 0)), (1, .int a1)] := hl
  unfold f_X8_withdraw at hf
  refine lv_aload_n C.1 C.2.1 dX8_withdraw_0 rfl (lv_at hl 0 rfl) ?_
  refine k_get (v := .ref (wAd w 1)) C hP (lt_NoisePost h0_NoisePost) (ob_NoisePost h0_NoisePost w L _) rfl iX8 0 (by decide) q284 rfl dX8_withdraw_1 ?_
  refine lv_iload_n C.1 C.2.1 dX8_withdraw_4 rfl (lv_at hl 1 rfl) ?_
  obtain ⟨r1, hr1, hf⟩ := ob hf
  refine kci (kV (As := [.int a1]) (rest := []) C hl.1 hP hS (c_X5_hasComplaint w l C.2.2.2.2.2.2.2.2 to_NoisePost_state (L := L) hr1) (gV q730 q731 q732 q2 q733) hd_X5_hasComplaint (lt_State to_NoisePost_state) (ob_State to_NoisePost_state w L _) rfl ⟨rfl, rfl⟩ ⟨Nat.le_of_ble_eq_true rfl, Nat.le_of_ble_eq_true rfl⟩ rfl rfl (Nat.le_of_ble_eq_true rfl) dX8_withdraw_5 ⟨Nat.zero_le _, Nat.zero_le _⟩) hS (fun H locs hP hS => ?_)
  refine lv_if_ne (tgt := 21) C.1 C.2.1 dX8_withdraw_8 (by decide) (fun c2 => ?_) (fun c2 => ?_)
  · have hf := (if_neg c2).symm.trans hf
    refine lv_aload_n C.1 C.2.1 dX8_withdraw_21 rfl (lv_at hl 0 rfl) ?_
    refine k_get (v := .ref (wAd w 46)) C hP (lt_NoisePost h0_NoisePost) (ob_NoisePost h0_NoisePost w L _) rfl iX8 1 (by decide) q285 rfl dX8_withdraw_22 ?_
    refine lv_aload_n C.1 C.2.1 dX8_withdraw_25 rfl (lv_at hl 0 rfl) ?_
    refine k_get (v := .ref (wAd w 1)) C hP (lt_NoisePost h0_NoisePost) (ob_NoisePost h0_NoisePost w L _) rfl iX8 0 (by decide) q284 rfl dX8_withdraw_26 ?_
    obtain ⟨r3, hr3, hf⟩ := ob hf
    refine kcv (kV (As := [.ref (wAd w 1)]) (rest := []) C hl.1 hP hS (c_X1_keep w l C.2.2.2.2.2.2.2.2 to_NoisePost_state (L := L) hr3) (gV q563 q564 q565 q3 q566) hd_X1_keep (lt_History to_NoisePost_history) (ob_History to_NoisePost_history w L _) rfl ⟨rfl, rfl⟩ ⟨Nat.le_of_ble_eq_true rfl, Nat.le_of_ble_eq_true rfl⟩ rfl rfl (Nat.le_of_ble_eq_true rfl) dX8_withdraw_29 ⟨Nat.zero_le _, Nat.zero_le _⟩) hS (fun H locs hP hS => ?_)
    refine lv_aload_n C.1 C.2.1 dX8_withdraw_32 rfl (lv_at hl 0 rfl) ?_
    refine k_get (v := .ref (wAd w 54)) C hP (lt_NoisePost h0_NoisePost) (ob_NoisePost h0_NoisePost w L _) rfl iX8 3 (by decide) q287 rfl dX8_withdraw_33 ?_
    refine k_get (v := .ref (wAd w 67)) C hP (lt_View to_NoisePost_now) (ob_View to_NoisePost_now w L _) rfl iX7 3 (by decide) q263 rfl dX8_withdraw_36 ?_
    refine k_get (v := .ref (wAd w 68)) C hP (lt_Matches (to_View_matches to_NoisePost_now)) (ob_Matches (to_View_matches to_NoisePost_now) w L _) rfl iX3 0 (by decide) q237 rfl dX8_withdraw_39 ?_
    refine lv_iload_n C.1 C.2.1 dX8_withdraw_42 rfl (lv_at hl 1 rfl) ?_
    obtain ⟨x4, hx4, hf⟩ := ob hf
    refine k_iald C hP (la_Matches_exceedanceOf (to_View_matches to_NoisePost_now)) (ar_Matches_exceedanceOf (to_View_matches to_NoisePost_now) w L _) hx4 dX8_withdraw_43 ?_
    refine lv_istore_n (lv' := [(2, .int x4), (0, .ref (wAd w 0)), (1, .int a1)]) C.1 C.2.1 dX8_withdraw_44 rfl hl (by decide) rfl (fun ls hl => ?_)
    refine lv_aload_n C.1 C.2.1 dX8_withdraw_45 rfl (lv_at hl 1 rfl) ?_
    refine k_get (v := .ref (wAd w 1)) C hP (lt_NoisePost h0_NoisePost) (ob_NoisePost h0_NoisePost w L _) rfl iX8 0 (by decide) q284 rfl dX8_withdraw_46 ?_
    refine lv_iload_n C.1 C.2.1 dX8_withdraw_49 rfl (lv_at hl 2 rfl) ?_
    obtain ⟨r5, hr5, hf⟩ := ob hf
    refine kcv (kV (As := [.int a1]) (rest := []) C hl.1 hP hS (c_X5_dropComplaint w l C.2.2.2.2.2.2.2.2 to_NoisePost_state (L := L) hr5) (gV q735 q736 q737 q2 q738) hd_X5_dropComplaint (lt_State to_NoisePost_state) (ob_State to_NoisePost_state w L _) rfl ⟨rfl, rfl⟩ ⟨Nat.le_of_ble_eq_true rfl, Nat.le_of_ble_eq_true rfl⟩ rfl rfl (Nat.le_of_ble_eq_true rfl) dX8_withdraw_50 ⟨Nat.zero_le _, Nat.zero_le _⟩) hS (fun H locs hP hS => ?_)
    refine lv_aload_n C.1 C.2.1 dX8_withdraw_53 rfl (lv_at hl 1 rfl) ?_
    obtain ⟨r6, hr6, hf⟩ := ob hf
    refine kcv (kV (As := []) (rest := []) C hl.1 hP hS (c_X8_readAgain w l C.2.2.2.2.2.2.2.2 (L := L) hr6) (gV q577 q579 qp18 q1 q580) hd_X8_readAgain (lt_NoisePost h0_NoisePost) (ob_NoisePost h0_NoisePost w L _) rfl ⟨rfl, rfl⟩ ⟨Nat.le_of_ble_eq_true rfl, Nat.le_of_ble_eq_true rfl⟩ rfl rfl (Nat.le_of_ble_eq_true rfl) dX8_withdraw_54 ⟨Nat.zero_le _, Nat.zero_le _⟩) hS (fun H locs hP hS => ?_)
    refine lv_iload_n C.1 C.2.1 dX8_withdraw_57 rfl (lv_at hl 0 rfl) ?_
    cases hf
    exact krix C hP hS dX8_withdraw_58
  · have hf := (if_pos c2).symm.trans hf
    cases hf
    exact k_thr C T hP hS hl.1 0 (by decide) q472 q14 (List.mem_of_getElem? (i := 9) rfl) dX8_withdraw_11 dX8_withdraw_14 dX8_withdraw_15 dX8_withdraw_17 dX8_withdraw_20 (Nat.le_of_ble_eq_true rfl) (Nat.le_of_ble_eq_true rfl) (Nat.le_refl _) (Nat.le_refl _)
theorem dX8_append_0 : decode cX8_append 0 = .ok (.iload_n 1, 1) := by decide +kernel
theorem dX8_append_1 : decode cX8_append 1 = .ok (.bipush 33, 2) := by decide +kernel
theorem dX8_append_3 : decode cX8_append 3 = .ok (.if_icmp .lt 9, 3) := by decide +kernel
theorem dX8_append_6 : decode cX8_append 6 = .ok (.iload_n 1, 1) := by decide +kernel
theorem dX8_append_7 : decode cX8_append 7 = .ok (.bipush 126, 2) := by decide +kernel
theorem dX8_append_9 : decode cX8_append 9 = .ok (.if_icmp .le 13, 3) := by decide +kernel
theorem dX8_append_12 : decode cX8_append 12 = .ok (.new 62, 3) := by decide +kernel
theorem dX8_append_15 : decode cX8_append 15 = .ok (.dup, 1) := by decide +kernel
theorem dX8_append_16 : decode cX8_append 16 = .ok (.ldc 154, 2) := by decide +kernel
theorem dX8_append_18 : decode cX8_append 18 = .ok (.invokespecial 66, 3) := by decide +kernel
theorem dX8_append_21 : decode cX8_append 21 = .ok (.athrow, 1) := by decide +kernel
theorem dX8_append_22 : decode cX8_append 22 = .ok (.aload_n 0, 1) := by decide +kernel
theorem dX8_append_23 : decode cX8_append 23 = .ok (.getfield 26, 3) := by decide +kernel
theorem dX8_append_26 : decode cX8_append 26 = .ok (.getfield 156, 3) := by decide +kernel
theorem dX8_append_29 : decode cX8_append 29 = .ok (.bipush 60, 2) := by decide +kernel
theorem dX8_append_31 : decode cX8_append 31 = .ok (.if_icmp .lt 13, 3) := by decide +kernel
theorem dX8_append_34 : decode cX8_append 34 = .ok (.new 90, 3) := by decide +kernel
theorem dX8_append_37 : decode cX8_append 37 = .ok (.dup, 1) := by decide +kernel
theorem dX8_append_38 : decode cX8_append 38 = .ok (.ldc 159, 2) := by decide +kernel
theorem dX8_append_40 : decode cX8_append 40 = .ok (.invokespecial 94, 3) := by decide +kernel
theorem dX8_append_43 : decode cX8_append 43 = .ok (.athrow, 1) := by decide +kernel
theorem dX8_append_44 : decode cX8_append 44 = .ok (.aload_n 0, 1) := by decide +kernel
theorem dX8_append_45 : decode cX8_append 45 = .ok (.getfield 26, 3) := by decide +kernel
theorem dX8_append_48 : decode cX8_append 48 = .ok (.iload_n 1, 1) := by decide +kernel
theorem dX8_append_49 : decode cX8_append 49 = .ok (.invokevirtual 161, 3) := by decide +kernel
theorem dX8_append_52 : decode cX8_append 52 = .ok (.aload_n 0, 1) := by decide +kernel
theorem dX8_append_53 : decode cX8_append 53 = .ok (.getfield 26, 3) := by decide +kernel
theorem dX8_append_56 : decode cX8_append 56 = .ok (.getfield 156, 3) := by decide +kernel
theorem dX8_append_59 : decode cX8_append 59 = .ok (.ireturn, 1) := by decide +kernel
set_option maxHeartbeats 4000000 in
set_option maxRecDepth 100000 in
theorem w_X8_append_j12 {w : WT} {l : Launch} {p : Program} {e : Env} {s : State} {m : MethodId} {args : Array Value} {below : List Frame} {meth : Method} {c : Code} (C : KC w p s m args meth c cX8_append 2 RX8 (some .int)) (T : KT w l s c) {M : Mem} {L : Lng} {out : (Nat × Mem) ⊕ (Int32 × Mem)} (hf : f_X8_append_j12 M = some out) : AtL w p l e ({ frames := 6, cells := 1, slots := 6, locals := 90 } : Room) s m args below meth c (vx_MQ below (QX w out L) (XX w out L) args s 1 6 (wA w)) 2 12 M L [] [] := by
  intro H locs ls hP hS hl
  unfold f_X8_append_j12 at hf
  cases hf
  exact k_thr C T hP hS hl.1 1 (by decide) q547 q15 (List.mem_of_getElem? (i := 10) rfl) dX8_append_12 dX8_append_15 dX8_append_16 dX8_append_18 dX8_append_21 (Nat.le_of_ble_eq_true rfl) (Nat.le_of_ble_eq_true rfl) (Nat.le_refl _) (Nat.le_refl _)
set_option maxHeartbeats 4000000 in
set_option maxRecDepth 100000 in
theorem c_X8_append (w : WT) (l : Launch) (hw : WOK w) (hfl : l.stackTraces = false) {a1 : Int32} {M : Mem} {L : Lng} {out : (Nat × Mem) ⊕ (Int32 × Mem)} (hf : f_X8_append a1 M = some out) : vx_Met l yX8_append (Cond.code yX8_append cX8_append 2 (some .int) :: BG) ({ frames := 6, cells := 1, slots := 6, locals := 90 } : Room) (PREX w [.ref (wAd w 0), .int a1] M L) (QX w out L) (XX w out L) 1 6 (wA w) := by
  refine kEntX hw hfl (by decide +kernel) rfl (Nat.le_of_ble_eq_true rfl) ?_
  intro p e s m args below meth c C T ls hl hP
  have hS : va_S (wA w) s.heap s.heap [] := va_S.rf
  have hl : lv_has ls 2 [(0, .ref (wAd w 0)), (1, .int a1)] := hl
  unfold f_X8_append at hf
  refine lv_iload_n C.1 C.2.1 dX8_append_0 rfl (lv_at hl 1 rfl) ?_
  refine lv_bipush (v := 33) C.1 C.2.1 dX8_append_1 (by decide) ?_
  refine lv_icmp_lt (tgt := 12) C.1 C.2.1 dX8_append_3 (by decide) (fun c1 => ?_) (fun c1 => ?_)
  · have hf := (if_pos c1).symm.trans hf
    exact w_X8_append_j12 C T hf _ _ _ hP hS (lv_sub hl [] rfl)
  · have hf := (if_neg c1).symm.trans hf
    refine lv_iload_n C.1 C.2.1 dX8_append_6 rfl (lv_at hl 1 rfl) ?_
    refine lv_bipush (v := 126) C.1 C.2.1 dX8_append_7 (by decide) ?_
    refine lv_icmp_le (tgt := 22) C.1 C.2.1 dX8_append_9 (by decide) (fun c2 => ?_) (fun c2 => ?_)
    · have hf := (if_pos c2).symm.trans hf
      refine lv_aload_n C.1 C.2.1 dX8_append_22 rfl (lv_at hl 0 rfl) ?_
      refine k_get (v := .ref (wAd w 48)) C hP (lt_NoisePost h0_NoisePost) (ob_NoisePost h0_NoisePost w L _) rfl iX8 2 (by decide) q286 rfl dX8_append_23 ?_
      refine k_get (v := .int (M 48 1)) C hP (lt_Text to_NoisePost_text) (ob_Text to_NoisePost_text w L _) rfl iX6 1 (by decide) q103 rfl dX8_append_26 ?_
      refine lv_bipush (v := 60) C.1 C.2.1 dX8_append_29 (by decide) ?_
      refine lv_icmp_lt (tgt := 44) C.1 C.2.1 dX8_append_31 (by decide) (fun c3 => ?_) (fun c3 => ?_)
      · have hf := (if_pos c3).symm.trans hf
        refine lv_aload_n C.1 C.2.1 dX8_append_44 rfl (lv_at hl 0 rfl) ?_
        refine k_get (v := .ref (wAd w 48)) C hP (lt_NoisePost h0_NoisePost) (ob_NoisePost h0_NoisePost w L _) rfl iX8 2 (by decide) q286 rfl dX8_append_45 ?_
        refine lv_iload_n C.1 C.2.1 dX8_append_48 rfl (lv_at hl 1 rfl) ?_
        obtain ⟨r4, hr4, hf⟩ := ob hf
        refine kcv (kV (As := [.int a1]) (rest := []) C hl.1 hP hS (c_X6_addCode w l C.2.2.2.2.2.2.2.2 (L := L) hr4) (gV q748 q749 q750 q4 q751) hd_X6_addCode (lt_Text to_NoisePost_text) (ob_Text to_NoisePost_text w L _) rfl ⟨rfl, rfl⟩ ⟨Nat.le_of_ble_eq_true rfl, Nat.le_of_ble_eq_true rfl⟩ rfl rfl (Nat.le_of_ble_eq_true rfl) dX8_append_49 ⟨Nat.zero_le _, Nat.zero_le _⟩) hS (fun H locs hP hS => ?_)
        refine lv_aload_n C.1 C.2.1 dX8_append_52 rfl (lv_at hl 0 rfl) ?_
        refine k_get (v := .ref (wAd w 48)) C hP (lt_NoisePost h0_NoisePost) (ob_NoisePost h0_NoisePost w L _) rfl iX8 2 (by decide) q286 rfl dX8_append_53 ?_
        refine k_get (v := .int (r4 48 1)) C hP (lt_Text to_NoisePost_text) (ob_Text to_NoisePost_text w L _) rfl iX6 1 (by decide) q103 rfl dX8_append_56 ?_
        cases hf
        exact krix C hP hS dX8_append_59
      · have hf := (if_neg c3).symm.trans hf
        cases hf
        exact k_thr C T hP hS hl.1 2 (by decide) q664 q18 (List.mem_of_getElem? (i := 11) rfl) dX8_append_34 dX8_append_37 dX8_append_38 dX8_append_40 dX8_append_43 (Nat.le_of_ble_eq_true rfl) (Nat.le_of_ble_eq_true rfl) (Nat.le_refl _) (Nat.le_refl _)
    · have hf := (if_neg c2).symm.trans hf
      exact w_X8_append_j12 C T hf _ _ _ hP hS (lv_sub hl [] rfl)
theorem dX8_clearBuffer_0 : decode cX8_clearBuffer 0 = .ok (.aload_n 0, 1) := by decide +kernel
theorem dX8_clearBuffer_1 : decode cX8_clearBuffer 1 = .ok (.getfield 26, 3) := by decide +kernel
theorem dX8_clearBuffer_4 : decode cX8_clearBuffer 4 = .ok (.getfield 156, 3) := by decide +kernel
theorem dX8_clearBuffer_7 : decode cX8_clearBuffer 7 = .ok (.istore_n 1, 1) := by decide +kernel
theorem dX8_clearBuffer_8 : decode cX8_clearBuffer 8 = .ok (.aload_n 0, 1) := by decide +kernel
theorem dX8_clearBuffer_9 : decode cX8_clearBuffer 9 = .ok (.getfield 26, 3) := by decide +kernel
theorem dX8_clearBuffer_12 : decode cX8_clearBuffer 12 = .ok (.iconst 0, 1) := by decide +kernel
theorem dX8_clearBuffer_13 : decode cX8_clearBuffer 13 = .ok (.putfield 156, 3) := by decide +kernel
theorem dX8_clearBuffer_16 : decode cX8_clearBuffer 16 = .ok (.iload_n 1, 1) := by decide +kernel
theorem dX8_clearBuffer_17 : decode cX8_clearBuffer 17 = .ok (.ireturn, 1) := by decide +kernel
set_option maxHeartbeats 4000000 in
set_option maxRecDepth 100000 in
theorem c_X8_clearBuffer (w : WT) (l : Launch) (hw : WOK w) {M : Mem} {L : Lng} {out : Int32 × Mem} (hf : f_X8_clearBuffer M = some out) : Met l yX8_clearBuffer (Cond.code yX8_clearBuffer cX8_clearBuffer 2 (some .int) :: BG) ({ frames := 0, cells := 0, slots := 0, locals := 0 } : Room) (PRE w [.ref (wAd w 0)] M L) (QI w out.1 out.2 L) 0 0 (wA w) := by
  refine kEnt hw (by decide +kernel) rfl (Nat.le_of_ble_eq_true rfl) ?_
  intro p e s m args below meth c C ls hl hP
  have hS : va_S (wA w) s.heap s.heap [] := va_S.rf
  have hl : lv_has ls 2 [(0, .ref (wAd w 0))] := hl
  unfold f_X8_clearBuffer at hf
  refine lv_aload_n C.1 C.2.1 dX8_clearBuffer_0 rfl (lv_at hl 0 rfl) ?_
  refine k_get (v := .ref (wAd w 48)) C hP (lt_NoisePost h0_NoisePost) (ob_NoisePost h0_NoisePost w L _) rfl iX8 2 (by decide) q286 rfl dX8_clearBuffer_1 ?_
  refine k_get (v := .int (M 48 1)) C hP (lt_Text to_NoisePost_text) (ob_Text to_NoisePost_text w L _) rfl iX6 1 (by decide) q103 rfl dX8_clearBuffer_4 ?_
  refine lv_istore_n (lv' := [(1, .int (M 48 1)), (0, .ref (wAd w 0))]) C.1 C.2.1 dX8_clearBuffer_7 rfl hl (by decide) rfl (fun ls hl => ?_)
  refine lv_aload_n C.1 C.2.1 dX8_clearBuffer_8 rfl (lv_at hl 1 rfl) ?_
  refine k_get (v := .ref (wAd w 48)) C hP (lt_NoisePost h0_NoisePost) (ob_NoisePost h0_NoisePost w L _) rfl iX8 2 (by decide) q286 rfl dX8_clearBuffer_9 ?_
  refine lv_iconst (v := 0) C.1 C.2.1 dX8_clearBuffer_12 (by decide) ?_
  obtain ⟨M1, hM1, hf⟩ := ob hf
  refine k_puti C hP hS (lt_Text to_NoisePost_text) (fun row => ob_Text to_NoisePost_text w L row) rfl iX6 tyX6 tyX6_ok nmX6 1 (by decide) q103 rfl rfl (Nat.le_of_ble_eq_true rfl) rfl hM1 dX8_clearBuffer_13 (fun H locs hP hS => ?_)
  refine lv_iload_n C.1 C.2.1 dX8_clearBuffer_16 rfl (lv_at hl 0 rfl) ?_
  cases hf
  exact kri C hP hS dX8_clearBuffer_17
theorem dX8_firstError_0 : decode cX8_firstError 0 = .ok (.aload_n 0, 1) := by decide +kernel
theorem dX8_firstError_1 : decode cX8_firstError 1 = .ok (.getfield 26, 3) := by decide +kernel
theorem dX8_firstError_4 : decode cX8_firstError 4 = .ok (.invokevirtual 164, 3) := by decide +kernel
theorem dX8_firstError_7 : decode cX8_firstError 7 = .ok (.ireturn, 1) := by decide +kernel
set_option maxHeartbeats 4000000 in
set_option maxRecDepth 100000 in
theorem c_X8_firstError (w : WT) (l : Launch) (hw : WOK w) {M : Mem} {L : Lng} {out : Int32 × Mem} (hf : f_X8_firstError M = some out) : Met l yX8_firstError (Cond.code yX8_firstError cX8_firstError 1 (some .int) :: BG) ({ frames := 4, cells := 0, slots := 0, locals := 83 } : Room) (PRE w [.ref (wAd w 0)] M L) (QI w out.1 out.2 L) 0 0 (wA w) := by
  refine kEnt hw (by decide +kernel) rfl (Nat.le_of_ble_eq_true rfl) ?_
  intro p e s m args below meth c C ls hl hP
  have hS : va_S (wA w) s.heap s.heap [] := va_S.rf
  have hl : lv_has ls 1 [(0, .ref (wAd w 0))] := hl
  unfold f_X8_firstError at hf
  refine lv_aload_n C.1 C.2.1 dX8_firstError_0 rfl (lv_at hl 0 rfl) ?_
  refine k_get (v := .ref (wAd w 48)) C hP (lt_NoisePost h0_NoisePost) (ob_NoisePost h0_NoisePost w L _) rfl iX8 2 (by decide) q286 rfl dX8_firstError_1 ?_
  obtain ⟨r1, hr1, hf⟩ := ob hf
  refine kci (kV (As := []) (rest := []) C hl.1 hP hS (c_X6_read w l C.2.2.2.2.2.2.2.2 (L := L) hr1) (gV q311 q312 q313 q4 q314) hd_X6_read (lt_Text to_NoisePost_text) (ob_Text to_NoisePost_text w L _) rfl ⟨rfl, rfl⟩ ⟨Nat.le_of_ble_eq_true rfl, Nat.le_of_ble_eq_true rfl⟩ rfl rfl (Nat.le_of_ble_eq_true rfl) dX8_firstError_4 ⟨Nat.zero_le _, Nat.zero_le _⟩) hS (fun H locs hP hS => ?_)
  cases hf
  exact kri C hP hS dX8_firstError_7
theorem dX8_load_0 : decode cX8_load 0 = .ok (.aload_n 0, 1) := by decide +kernel
theorem dX8_load_1 : decode cX8_load 1 = .ok (.getfield 26, 3) := by decide +kernel
theorem dX8_load_4 : decode cX8_load 4 = .ok (.invokevirtual 168, 3) := by decide +kernel
theorem dX8_load_7 : decode cX8_load 7 = .ok (.ifCond .ne 13, 3) := by decide +kernel
theorem dX8_load_10 : decode cX8_load 10 = .ok (.new 62, 3) := by decide +kernel
theorem dX8_load_13 : decode cX8_load 13 = .ok (.dup, 1) := by decide +kernel
theorem dX8_load_14 : decode cX8_load 14 = .ok (.ldc 172, 2) := by decide +kernel
theorem dX8_load_16 : decode cX8_load 16 = .ok (.invokespecial 66, 3) := by decide +kernel
theorem dX8_load_19 : decode cX8_load 19 = .ok (.athrow, 1) := by decide +kernel
theorem dX8_load_20 : decode cX8_load 20 = .ok (.aload_n 0, 1) := by decide +kernel
theorem dX8_load_21 : decode cX8_load 21 = .ok (.getfield 10, 3) := by decide +kernel
theorem dX8_load_24 : decode cX8_load 24 = .ok (.getfield 86, 3) := by decide +kernel
theorem dX8_load_27 : decode cX8_load 27 = .ok (.aload_n 0, 1) := by decide +kernel
theorem dX8_load_28 : decode cX8_load 28 = .ok (.getfield 26, 3) := by decide +kernel
theorem dX8_load_31 : decode cX8_load 31 = .ok (.invokevirtual 174, 3) := by decide +kernel
theorem dX8_load_34 : decode cX8_load 34 = .ok (.iadd, 1) := by decide +kernel
theorem dX8_load_35 : decode cX8_load 35 = .ok (.sipush 200, 3) := by decide +kernel
theorem dX8_load_38 : decode cX8_load 38 = .ok (.if_icmp .le 13, 3) := by decide +kernel
theorem dX8_load_41 : decode cX8_load 41 = .ok (.new 90, 3) := by decide +kernel
theorem dX8_load_44 : decode cX8_load 44 = .ok (.dup, 1) := by decide +kernel
theorem dX8_load_45 : decode cX8_load 45 = .ok (.ldc 92, 2) := by decide +kernel
theorem dX8_load_47 : decode cX8_load 47 = .ok (.invokespecial 94, 3) := by decide +kernel
theorem dX8_load_50 : decode cX8_load 50 = .ok (.athrow, 1) := by decide +kernel
theorem dX8_load_51 : decode cX8_load 51 = .ok (.aload_n 0, 1) := by decide +kernel
theorem dX8_load_52 : decode cX8_load 52 = .ok (.getfield 19, 3) := by decide +kernel
theorem dX8_load_55 : decode cX8_load 55 = .ok (.aload_n 0, 1) := by decide +kernel
theorem dX8_load_56 : decode cX8_load 56 = .ok (.getfield 10, 3) := by decide +kernel
theorem dX8_load_59 : decode cX8_load 59 = .ok (.invokevirtual 67, 3) := by decide +kernel
theorem dX8_load_62 : decode cX8_load 62 = .ok (.iconst 0, 1) := by decide +kernel
theorem dX8_load_63 : decode cX8_load 63 = .ok (.istore_n 1, 1) := by decide +kernel
theorem dX8_load_64 : decode cX8_load 64 = .ok (.iload_n 1, 1) := by decide +kernel
theorem dX8_load_65 : decode cX8_load 65 = .ok (.aload_n 0, 1) := by decide +kernel
theorem dX8_load_66 : decode cX8_load 66 = .ok (.getfield 26, 3) := by decide +kernel
theorem dX8_load_69 : decode cX8_load 69 = .ok (.getfield 177, 3) := by decide +kernel
theorem dX8_load_72 : decode cX8_load 72 = .ok (.if_icmp .ge 43, 3) := by decide +kernel
theorem dX8_load_75 : decode cX8_load 75 = .ok (.aload_n 0, 1) := by decide +kernel
theorem dX8_load_76 : decode cX8_load 76 = .ok (.getfield 10, 3) := by decide +kernel
theorem dX8_load_79 : decode cX8_load 79 = .ok (.aload_n 0, 1) := by decide +kernel
theorem dX8_load_80 : decode cX8_load 80 = .ok (.getfield 26, 3) := by decide +kernel
theorem dX8_load_83 : decode cX8_load 83 = .ok (.getfield 180, 3) := by decide +kernel
theorem dX8_load_86 : decode cX8_load 86 = .ok (.iload_n 1, 1) := by decide +kernel
theorem dX8_load_87 : decode cX8_load 87 = .ok (.iaload, 1) := by decide +kernel
theorem dX8_load_88 : decode cX8_load 88 = .ok (.aload_n 0, 1) := by decide +kernel
theorem dX8_load_89 : decode cX8_load 89 = .ok (.getfield 26, 3) := by decide +kernel
theorem dX8_load_92 : decode cX8_load 92 = .ok (.getfield 181, 3) := by decide +kernel
theorem dX8_load_95 : decode cX8_load 95 = .ok (.iload_n 1, 1) := by decide +kernel
theorem dX8_load_96 : decode cX8_load 96 = .ok (.iaload, 1) := by decide +kernel
theorem dX8_load_97 : decode cX8_load 97 = .ok (.aload_n 0, 1) := by decide +kernel
theorem dX8_load_98 : decode cX8_load 98 = .ok (.getfield 26, 3) := by decide +kernel
theorem dX8_load_101 : decode cX8_load 101 = .ok (.getfield 182, 3) := by decide +kernel
theorem dX8_load_104 : decode cX8_load 104 = .ok (.iload_n 1, 1) := by decide +kernel
theorem dX8_load_105 : decode cX8_load 105 = .ok (.iaload, 1) := by decide +kernel
theorem dX8_load_106 : decode cX8_load 106 = .ok (.invokevirtual 95, 3) := by decide +kernel
theorem dX8_load_109 : decode cX8_load 109 = .ok (.iinc 1 1, 3) := by decide +kernel
theorem dX8_load_112 : decode cX8_load 112 = .ok (.goto (-48), 3) := by decide +kernel
theorem dX8_load_115 : decode cX8_load 115 = .ok (.aload_n 0, 1) := by decide +kernel
theorem dX8_load_116 : decode cX8_load 116 = .ok (.getfield 26, 3) := by decide +kernel
theorem dX8_load_119 : decode cX8_load 119 = .ok (.iconst 0, 1) := by decide +kernel
theorem dX8_load_120 : decode cX8_load 120 = .ok (.putfield 156, 3) := by decide +kernel
theorem dX8_load_123 : decode cX8_load 123 = .ok (.aload_n 0, 1) := by decide +kernel
theorem dX8_load_124 : decode cX8_load 124 = .ok (.invokevirtual 75, 3) := by decide +kernel
theorem dX8_load_127 : decode cX8_load 127 = .ok (.aload_n 0, 1) := by decide +kernel
theorem dX8_load_128 : decode cX8_load 128 = .ok (.getfield 10, 3) := by decide +kernel
theorem dX8_load_131 : decode cX8_load 131 = .ok (.getfield 86, 3) := by decide +kernel
theorem dX8_load_134 : decode cX8_load 134 = .ok (.ireturn, 1) := by decide +kernel
set_option maxHeartbeats 4000000 in
set_option maxRecDepth 100000 in
theorem w_X8_load_l64 {w : WT} {l : Launch} {p : Program} {e : Env} {s : State} {m : MethodId} {args : Array Value} {below : List Frame} {meth : Method} {c : Code} (C : KC w p s m args meth c cX8_load 2 RX8 (some .int)) (T : KT w l s c) {L : Lng} {Q : State → Prop} (z : Int32 × Mem) (o : (Int32 × Mem) ⊕ (Mem)) (hf : f_X8_load_l64 z = some o) (hA : ∀ z, o = .inl z → AtL w p l e ({ frames := 6, cells := 1, slots := 6, locals := 131 } : Room) s m args below meth c Q 2 64 z.2 L [(0, .ref (wAd w 0)), (1, .int z.1)] []) (hE : ∀ y, o = .inr y → AtL w p l e ({ frames := 6, cells := 1, slots := 6, locals := 131 } : Room) s m args below meth c Q 2 115 y L [(0, .ref (wAd w 0))] []) : AtL w p l e ({ frames := 6, cells := 1, slots := 6, locals := 131 } : Room) s m args below meth c Q 2 64 z.2 L [(0, .ref (wAd w 0)), (1, .int z.1)] [] := by
  intro H locs ls hP hS hl
  unfold f_X8_load_l64 at hf
  refine lv_iload_n C.1 C.2.1 dX8_load_64 rfl (lv_at hl 1 rfl) ?_
  refine lv_aload_n C.1 C.2.1 dX8_load_65 rfl (lv_at hl 0 rfl) ?_
  refine k_get (v := .ref (wAd w 48)) C hP (lt_NoisePost h0_NoisePost) (ob_NoisePost h0_NoisePost w L _) rfl iX8 2 (by decide) q286 rfl dX8_load_66 ?_
  refine k_get (v := .int (z.2 48 5)) C hP (lt_Text to_NoisePost_text) (ob_Text to_NoisePost_text w L _) rfl iX6 5 (by decide) q111 rfl dX8_load_69 ?_
  refine lv_icmp_ge (tgt := 115) C.1 C.2.1 dX8_load_72 (by decide) (fun c6 => ?_) (fun c6 => ?_)
  · have hf := (if_pos c6).symm.trans hf
    cases hf
    exact hE _ rfl _ _ _ hP hS (lv_sub hl [0] rfl)
  · have hf := (if_neg c6).symm.trans hf
    refine lv_aload_n C.1 C.2.1 dX8_load_75 rfl (lv_at hl 0 rfl) ?_
    refine k_get (v := .ref (wAd w 1)) C hP (lt_NoisePost h0_NoisePost) (ob_NoisePost h0_NoisePost w L _) rfl iX8 0 (by decide) q284 rfl dX8_load_76 ?_
    refine lv_aload_n C.1 C.2.1 dX8_load_79 rfl (lv_at hl 0 rfl) ?_
    refine k_get (v := .ref (wAd w 48)) C hP (lt_NoisePost h0_NoisePost) (ob_NoisePost h0_NoisePost w L _) rfl iX8 2 (by decide) q286 rfl dX8_load_80 ?_
    refine k_get (v := .ref (wAd w 50)) C hP (lt_Text to_NoisePost_text) (ob_Text to_NoisePost_text w L _) rfl iX6 2 (by decide) q105 rfl dX8_load_83 ?_
    refine lv_iload_n C.1 C.2.1 dX8_load_86 rfl (lv_at hl 1 rfl) ?_
    obtain ⟨x7, hx7, hf⟩ := ob hf
    refine k_iald C hP (la_Text_levels to_NoisePost_text) (ar_Text_levels to_NoisePost_text w L _) hx7 dX8_load_87 ?_
    refine lv_aload_n C.1 C.2.1 dX8_load_88 rfl (lv_at hl 0 rfl) ?_
    refine k_get (v := .ref (wAd w 48)) C hP (lt_NoisePost h0_NoisePost) (ob_NoisePost h0_NoisePost w L _) rfl iX8 2 (by decide) q286 rfl dX8_load_89 ?_
    refine k_get (v := .ref (wAd w 51)) C hP (lt_Text to_NoisePost_text) (ob_Text to_NoisePost_text w L _) rfl iX6 3 (by decide) q107 rfl dX8_load_92 ?_
    refine lv_iload_n C.1 C.2.1 dX8_load_95 rfl (lv_at hl 1 rfl) ?_
    obtain ⟨x8, hx8, hf⟩ := ob hf
    refine k_iald C hP (la_Text_winds to_NoisePost_text) (ar_Text_winds to_NoisePost_text w L _) hx8 dX8_load_96 ?_
    refine lv_aload_n C.1 C.2.1 dX8_load_97 rfl (lv_at hl 0 rfl) ?_
    refine k_get (v := .ref (wAd w 48)) C hP (lt_NoisePost h0_NoisePost) (ob_NoisePost h0_NoisePost w L _) rfl iX8 2 (by decide) q286 rfl dX8_load_98 ?_
    refine k_get (v := .ref (wAd w 52)) C hP (lt_Text to_NoisePost_text) (ob_Text to_NoisePost_text w L _) rfl iX6 4 (by decide) q109 rfl dX8_load_101 ?_
    refine lv_iload_n C.1 C.2.1 dX8_load_104 rfl (lv_at hl 1 rfl) ?_
    obtain ⟨x9, hx9, hf⟩ := ob hf
    refine k_iald C hP (la_Text_times to_NoisePost_text) (ar_Text_times to_NoisePost_text w L _) hx9 dX8_load_105 ?_
    obtain ⟨r10, hr10, hf⟩ := ob hf
    refine kcv (kV (As := [.int x7, .int x8, .int x9]) (rest := []) C hl.1 hP hS (c_X5_addMinutes w l C.2.2.2.2.2.2.2.2 to_NoisePost_state (L := L) hr10) (gV q680 q681 q682 q2 q683) hd_X5_addMinutes (lt_State to_NoisePost_state) (ob_State to_NoisePost_state w L _) rfl ⟨rfl, rfl⟩ ⟨Nat.le_of_ble_eq_true rfl, Nat.le_of_ble_eq_true rfl⟩ rfl rfl (Nat.le_of_ble_eq_true rfl) dX8_load_106 ⟨Nat.zero_le _, Nat.zero_le _⟩) hS (fun H locs hP hS => ?_)
    refine lv_iinc (v := (z.1 + 1)) (lv' := [(1, .int (z.1 + 1)), (0, .ref (wAd w 0))]) C.1 C.2.1 dX8_load_109 hl (k := 1) rfl rfl (by decide) rfl (fun ls hl => ?_)
    refine lv_goto (tgt := 64) C.1 C.2.1 dX8_load_112 (by decide) ?_
    cases hf
    exact hA _ rfl _ _ _ hP hS (lv_sub hl [1, 0] rfl)
set_option maxHeartbeats 4000000 in
set_option maxRecDepth 100000 in
theorem c_X8_load (w : WT) (l : Launch) (hw : WOK w) (hfl : l.stackTraces = false) {M : Mem} {L : Lng} {out : (Nat × Mem) ⊕ (Int32 × Mem)} (hf : f_X8_load M = some out) : vx_Met l yX8_load (Cond.code yX8_load cX8_load 2 (some .int) :: BG) ({ frames := 6, cells := 1, slots := 6, locals := 131 } : Room) (PREX w [.ref (wAd w 0)] M L) (QX w out L) (XX w out L) 1 6 (wA w) := by
  refine kEntX hw hfl (by decide +kernel) rfl (Nat.le_of_ble_eq_true rfl) ?_
  intro p e s m args below meth c C T ls hl hP
  have hS : va_S (wA w) s.heap s.heap [] := va_S.rf
  have hl : lv_has ls 2 [(0, .ref (wAd w 0))] := hl
  unfold f_X8_load at hf
  refine lv_aload_n C.1 C.2.1 dX8_load_0 rfl (lv_at hl 0 rfl) ?_
  refine k_get (v := .ref (wAd w 48)) C hP (lt_NoisePost h0_NoisePost) (ob_NoisePost h0_NoisePost w L _) rfl iX8 2 (by decide) q286 rfl dX8_load_1 ?_
  obtain ⟨r1, hr1, hf⟩ := ob hf
  refine kci (kV (As := []) (rest := []) C hl.1 hP hS (c_X6_isWhole w l C.2.2.2.2.2.2.2.2 (L := L) hr1) (gV q759 q760 q761 q4 q762) hd_X6_isWhole (lt_Text to_NoisePost_text) (ob_Text to_NoisePost_text w L _) rfl ⟨rfl, rfl⟩ ⟨Nat.le_of_ble_eq_true rfl, Nat.le_of_ble_eq_true rfl⟩ rfl rfl (Nat.le_of_ble_eq_true rfl) dX8_load_4 ⟨Nat.zero_le _, Nat.zero_le _⟩) hS (fun H locs hP hS => ?_)
  refine lv_if_ne (tgt := 20) C.1 C.2.1 dX8_load_7 (by decide) (fun c2 => ?_) (fun c2 => ?_)
  · have hf := (if_neg c2).symm.trans hf
    refine lv_aload_n C.1 C.2.1 dX8_load_20 rfl (lv_at hl 0 rfl) ?_
    refine k_get (v := .ref (wAd w 1)) C hP (lt_NoisePost h0_NoisePost) (ob_NoisePost h0_NoisePost w L _) rfl iX8 0 (by decide) q284 rfl dX8_load_21 ?_
    refine k_get (v := .int (r1.2 1 4)) C hP (lt_State to_NoisePost_state) (ob_State to_NoisePost_state w L _) rfl iX5 4 (by decide) q56 rfl dX8_load_24 ?_
    refine lv_aload_n C.1 C.2.1 dX8_load_27 rfl (lv_at hl 0 rfl) ?_
    refine k_get (v := .ref (wAd w 48)) C hP (lt_NoisePost h0_NoisePost) (ob_NoisePost h0_NoisePost w L _) rfl iX8 2 (by decide) q286 rfl dX8_load_28 ?_
    obtain ⟨r3, hr3, hf⟩ := ob hf
    refine kci (kV (As := []) (rest := [.int (r1.2 1 4)]) C hl.1 hP hS (c_X6_minutesInParts w l C.2.2.2.2.2.2.2.2 (L := L) hr3) (gV q765 q766 q767 q4 q768) hd_X6_minutesInParts (lt_Text to_NoisePost_text) (ob_Text to_NoisePost_text w L _) rfl ⟨rfl, rfl⟩ ⟨Nat.le_of_ble_eq_true rfl, Nat.le_of_ble_eq_true rfl⟩ rfl rfl (Nat.le_of_ble_eq_true rfl) dX8_load_31 ⟨Nat.zero_le _, Nat.zero_le _⟩) hS (fun H locs hP hS => ?_)
    refine lv_iadd C.1 C.2.1 dX8_load_34 ?_
    refine lv_sipush (v := 200) C.1 C.2.1 dX8_load_35 (by decide) ?_
    refine lv_icmp_le (tgt := 51) C.1 C.2.1 dX8_load_38 (by decide) (fun c4 => ?_) (fun c4 => ?_)
    · have hf := (if_pos c4).symm.trans hf
      refine lv_aload_n C.1 C.2.1 dX8_load_51 rfl (lv_at hl 0 rfl) ?_
      refine k_get (v := .ref (wAd w 46)) C hP (lt_NoisePost h0_NoisePost) (ob_NoisePost h0_NoisePost w L _) rfl iX8 1 (by decide) q285 rfl dX8_load_52 ?_
      refine lv_aload_n C.1 C.2.1 dX8_load_55 rfl (lv_at hl 0 rfl) ?_
      refine k_get (v := .ref (wAd w 1)) C hP (lt_NoisePost h0_NoisePost) (ob_NoisePost h0_NoisePost w L _) rfl iX8 0 (by decide) q284 rfl dX8_load_56 ?_
      obtain ⟨r5, hr5, hf⟩ := ob hf
      refine kcv (kV (As := [.ref (wAd w 1)]) (rest := []) C hl.1 hP hS (c_X1_keep w l C.2.2.2.2.2.2.2.2 to_NoisePost_state (L := L) hr5) (gV q563 q564 q565 q3 q566) hd_X1_keep (lt_History to_NoisePost_history) (ob_History to_NoisePost_history w L _) rfl ⟨rfl, rfl⟩ ⟨Nat.le_of_ble_eq_true rfl, Nat.le_of_ble_eq_true rfl⟩ rfl rfl (Nat.le_of_ble_eq_true rfl) dX8_load_59 ⟨Nat.zero_le _, Nat.zero_le _⟩) hS (fun H locs hP hS => ?_)
      refine lv_iconst (v := 0) C.1 C.2.1 dX8_load_62 (by decide) ?_
      refine lv_istore_n (lv' := [(1, .int 0), (0, .ref (wAd w 0))]) C.1 C.2.1 dX8_load_63 rfl hl (by decide) rfl (fun ls hl => ?_)
      obtain ⟨o11, ho11, hf⟩ := ob hf
      refine loop_at (w_X8_load_l64 C T) FU _ o11 ho11 ?_ _ _ _ hP hS (lv_sub hl [1, 0] rfl)
      intro H locs ls hP hS hl
      refine lv_aload_n C.1 C.2.1 dX8_load_115 rfl (lv_at hl 0 rfl) ?_
      refine k_get (v := .ref (wAd w 48)) C hP (lt_NoisePost h0_NoisePost) (ob_NoisePost h0_NoisePost w L _) rfl iX8 2 (by decide) q286 rfl dX8_load_116 ?_
      refine lv_iconst (v := 0) C.1 C.2.1 dX8_load_119 (by decide) ?_
      obtain ⟨M12, hM12, hf⟩ := ob hf
      refine k_puti C hP hS (lt_Text to_NoisePost_text) (fun row => ob_Text to_NoisePost_text w L row) rfl iX6 tyX6 tyX6_ok nmX6 1 (by decide) q103 rfl rfl (Nat.le_of_ble_eq_true rfl) rfl hM12 dX8_load_120 (fun H locs hP hS => ?_)
      refine lv_aload_n C.1 C.2.1 dX8_load_123 rfl (lv_at hl 0 rfl) ?_
      obtain ⟨r13, hr13, hf⟩ := ob hf
      refine kcv (kV (As := []) (rest := []) C hl.1 hP hS (c_X8_readAgain w l C.2.2.2.2.2.2.2.2 (L := L) hr13) (gV q577 q579 qp18 q1 q580) hd_X8_readAgain (lt_NoisePost h0_NoisePost) (ob_NoisePost h0_NoisePost w L _) rfl ⟨rfl, rfl⟩ ⟨Nat.le_of_ble_eq_true rfl, Nat.le_of_ble_eq_true rfl⟩ rfl rfl (Nat.le_of_ble_eq_true rfl) dX8_load_124 ⟨Nat.zero_le _, Nat.zero_le _⟩) hS (fun H locs hP hS => ?_)
      refine lv_aload_n C.1 C.2.1 dX8_load_127 rfl (lv_at hl 0 rfl) ?_
      refine k_get (v := .ref (wAd w 1)) C hP (lt_NoisePost h0_NoisePost) (ob_NoisePost h0_NoisePost w L _) rfl iX8 0 (by decide) q284 rfl dX8_load_128 ?_
      refine k_get (v := .int (r13 1 4)) C hP (lt_State to_NoisePost_state) (ob_State to_NoisePost_state w L _) rfl iX5 4 (by decide) q56 rfl dX8_load_131 ?_
      cases hf
      exact krix C hP hS dX8_load_134
    · have hf := (if_neg c4).symm.trans hf
      cases hf
      exact k_thr C T hP hS hl.1 2 (by decide) q664 q18 (List.mem_of_getElem? (i := 3) rfl) dX8_load_41 dX8_load_44 dX8_load_45 dX8_load_47 dX8_load_50 (Nat.le_of_ble_eq_true rfl) (Nat.le_of_ble_eq_true rfl) (Nat.le_refl _) (Nat.le_refl _)
  · have hf := (if_pos c2).symm.trans hf
    cases hf
    exact k_thr C T hP hS hl.1 1 (by decide) q547 q15 (List.mem_of_getElem? (i := 12) rfl) dX8_load_10 dX8_load_13 dX8_load_14 dX8_load_16 dX8_load_19 (Nat.le_of_ble_eq_true rfl) (Nat.le_of_ble_eq_true rfl) (Nat.le_refl _) (Nat.le_refl _)
theorem dX8_undo_0 : decode cX8_undo 0 = .ok (.aload_n 0, 1) := by decide +kernel
theorem dX8_undo_1 : decode cX8_undo 1 = .ok (.getfield 19, 3) := by decide +kernel
theorem dX8_undo_4 : decode cX8_undo 4 = .ok (.getfield 185, 3) := by decide +kernel
theorem dX8_undo_7 : decode cX8_undo 7 = .ok (.iconst 1, 1) := by decide +kernel
theorem dX8_undo_8 : decode cX8_undo 8 = .ok (.if_icmp .ge 13, 3) := by decide +kernel
theorem dX8_undo_11 : decode cX8_undo 11 = .ok (.new 90, 3) := by decide +kernel
theorem dX8_undo_14 : decode cX8_undo 14 = .ok (.dup, 1) := by decide +kernel
theorem dX8_undo_15 : decode cX8_undo 15 = .ok (.ldc 188, 2) := by decide +kernel
theorem dX8_undo_17 : decode cX8_undo 17 = .ok (.invokespecial 94, 3) := by decide +kernel
theorem dX8_undo_20 : decode cX8_undo 20 = .ok (.athrow, 1) := by decide +kernel
theorem dX8_undo_21 : decode cX8_undo 21 = .ok (.aload_n 0, 1) := by decide +kernel
theorem dX8_undo_22 : decode cX8_undo 22 = .ok (.getfield 19, 3) := by decide +kernel
theorem dX8_undo_25 : decode cX8_undo 25 = .ok (.aload_n 0, 1) := by decide +kernel
theorem dX8_undo_26 : decode cX8_undo 26 = .ok (.getfield 10, 3) := by decide +kernel
theorem dX8_undo_29 : decode cX8_undo 29 = .ok (.invokevirtual 190, 3) := by decide +kernel
theorem dX8_undo_32 : decode cX8_undo 32 = .ok (.aload_n 0, 1) := by decide +kernel
theorem dX8_undo_33 : decode cX8_undo 33 = .ok (.invokevirtual 75, 3) := by decide +kernel
theorem dX8_undo_36 : decode cX8_undo 36 = .ok (.aload_n 0, 1) := by decide +kernel
theorem dX8_undo_37 : decode cX8_undo 37 = .ok (.getfield 19, 3) := by decide +kernel
theorem dX8_undo_40 : decode cX8_undo 40 = .ok (.getfield 185, 3) := by decide +kernel
theorem dX8_undo_43 : decode cX8_undo 43 = .ok (.ireturn, 1) := by decide +kernel
set_option maxHeartbeats 4000000 in
set_option maxRecDepth 100000 in
theorem c_X8_undo (w : WT) (l : Launch) (hw : WOK w) (hfl : l.stackTraces = false) {M : Mem} {L : Lng} {out : (Nat × Mem) ⊕ (Int32 × Mem)} (hf : f_X8_undo M = some out) : vx_Met l yX8_undo (Cond.code yX8_undo cX8_undo 1 (some .int) :: BG) ({ frames := 6, cells := 1, slots := 6, locals := 131 } : Room) (PREX w [.ref (wAd w 0)] M L) (QX w out L) (XX w out L) 1 6 (wA w) := by
  refine kEntX hw hfl (by decide +kernel) rfl (Nat.le_of_ble_eq_true rfl) ?_
  intro p e s m args below meth c C T ls hl hP
  have hS : va_S (wA w) s.heap s.heap [] := va_S.rf
  have hl : lv_has ls 1 [(0, .ref (wAd w 0))] := hl
  unfold f_X8_undo at hf
  refine lv_aload_n C.1 C.2.1 dX8_undo_0 rfl (lv_at hl 0 rfl) ?_
  refine k_get (v := .ref (wAd w 46)) C hP (lt_NoisePost h0_NoisePost) (ob_NoisePost h0_NoisePost w L _) rfl iX8 1 (by decide) q285 rfl dX8_undo_1 ?_
  refine k_get (v := .int (M 46 2)) C hP (lt_History to_NoisePost_history) (ob_History to_NoisePost_history w L _) rfl iX1 2 (by decide) q86 rfl dX8_undo_4 ?_
  refine lv_iconst (v := 1) C.1 C.2.1 dX8_undo_7 (by decide) ?_
  refine lv_icmp_ge (tgt := 21) C.1 C.2.1 dX8_undo_8 (by decide) (fun c1 => ?_) (fun c1 => ?_)
  · have hf := (if_pos c1).symm.trans hf
    refine lv_aload_n C.1 C.2.1 dX8_undo_21 rfl (lv_at hl 0 rfl) ?_
    refine k_get (v := .ref (wAd w 46)) C hP (lt_NoisePost h0_NoisePost) (ob_NoisePost h0_NoisePost w L _) rfl iX8 1 (by decide) q285 rfl dX8_undo_22 ?_
    refine lv_aload_n C.1 C.2.1 dX8_undo_25 rfl (lv_at hl 0 rfl) ?_
    refine k_get (v := .ref (wAd w 1)) C hP (lt_NoisePost h0_NoisePost) (ob_NoisePost h0_NoisePost w L _) rfl iX8 0 (by decide) q284 rfl dX8_undo_26 ?_
    obtain ⟨r2, hr2, hf⟩ := ob hf
    refine kcv (kV (As := [.ref (wAd w 1)]) (rest := []) C hl.1 hP hS (c_X1_giveBack w l C.2.2.2.2.2.2.2.2 to_NoisePost_state (L := L) hr2) (gV q777 q778 q779 q3 q780) hd_X1_giveBack (lt_History to_NoisePost_history) (ob_History to_NoisePost_history w L _) rfl ⟨rfl, rfl⟩ ⟨Nat.le_of_ble_eq_true rfl, Nat.le_of_ble_eq_true rfl⟩ rfl rfl (Nat.le_of_ble_eq_true rfl) dX8_undo_29 ⟨Nat.zero_le _, Nat.zero_le _⟩) hS (fun H locs hP hS => ?_)
    refine lv_aload_n C.1 C.2.1 dX8_undo_32 rfl (lv_at hl 0 rfl) ?_
    obtain ⟨r3, hr3, hf⟩ := ob hf
    refine kcv (kV (As := []) (rest := []) C hl.1 hP hS (c_X8_readAgain w l C.2.2.2.2.2.2.2.2 (L := L) hr3) (gV q577 q579 qp18 q1 q580) hd_X8_readAgain (lt_NoisePost h0_NoisePost) (ob_NoisePost h0_NoisePost w L _) rfl ⟨rfl, rfl⟩ ⟨Nat.le_of_ble_eq_true rfl, Nat.le_of_ble_eq_true rfl⟩ rfl rfl (Nat.le_of_ble_eq_true rfl) dX8_undo_33 ⟨Nat.zero_le _, Nat.zero_le _⟩) hS (fun H locs hP hS => ?_)
    refine lv_aload_n C.1 C.2.1 dX8_undo_36 rfl (lv_at hl 0 rfl) ?_
    refine k_get (v := .ref (wAd w 46)) C hP (lt_NoisePost h0_NoisePost) (ob_NoisePost h0_NoisePost w L _) rfl iX8 1 (by decide) q285 rfl dX8_undo_37 ?_
    refine k_get (v := .int (r3 46 2)) C hP (lt_History to_NoisePost_history) (ob_History to_NoisePost_history w L _) rfl iX1 2 (by decide) q86 rfl dX8_undo_40 ?_
    cases hf
    exact krix C hP hS dX8_undo_43
  · have hf := (if_neg c1).symm.trans hf
    cases hf
    exact k_thr C T hP hS hl.1 2 (by decide) q664 q18 (List.mem_of_getElem? (i := 13) rfl) dX8_undo_11 dX8_undo_14 dX8_undo_15 dX8_undo_17 dX8_undo_20 (Nat.le_of_ble_eq_true rfl) (Nat.le_of_ble_eq_true rfl) (Nat.le_refl _) (Nat.le_refl _)
theorem dX8_minuteProperty_0 : decode cX8_minuteProperty 0 = .ok (.iload_n 2, 1) := by decide +kernel
theorem dX8_minuteProperty_1 : decode cX8_minuteProperty 1 = .ok (.tableswitch 134 0 6 #[43, 53, 63, 76, 89, 101, 121], 43) := by decide +kernel
theorem dX8_minuteProperty_44 : decode cX8_minuteProperty 44 = .ok (.aload_n 0, 1) := by decide +kernel
theorem dX8_minuteProperty_45 : decode cX8_minuteProperty 45 = .ok (.getfield 10, 3) := by decide +kernel
theorem dX8_minuteProperty_48 : decode cX8_minuteProperty 48 = .ok (.getfield 106, 3) := by decide +kernel
theorem dX8_minuteProperty_51 : decode cX8_minuteProperty 51 = .ok (.iload_n 1, 1) := by decide +kernel
theorem dX8_minuteProperty_52 : decode cX8_minuteProperty 52 = .ok (.iaload, 1) := by decide +kernel
theorem dX8_minuteProperty_53 : decode cX8_minuteProperty 53 = .ok (.ireturn, 1) := by decide +kernel
theorem dX8_minuteProperty_54 : decode cX8_minuteProperty 54 = .ok (.aload_n 0, 1) := by decide +kernel
theorem dX8_minuteProperty_55 : decode cX8_minuteProperty 55 = .ok (.getfield 10, 3) := by decide +kernel
theorem dX8_minuteProperty_58 : decode cX8_minuteProperty 58 = .ok (.getfield 109, 3) := by decide +kernel
theorem dX8_minuteProperty_61 : decode cX8_minuteProperty 61 = .ok (.iload_n 1, 1) := by decide +kernel
theorem dX8_minuteProperty_62 : decode cX8_minuteProperty 62 = .ok (.iaload, 1) := by decide +kernel
theorem dX8_minuteProperty_63 : decode cX8_minuteProperty 63 = .ok (.ireturn, 1) := by decide +kernel
theorem dX8_minuteProperty_64 : decode cX8_minuteProperty 64 = .ok (.aload_n 0, 1) := by decide +kernel
theorem dX8_minuteProperty_65 : decode cX8_minuteProperty 65 = .ok (.getfield 33, 3) := by decide +kernel
theorem dX8_minuteProperty_68 : decode cX8_minuteProperty 68 = .ok (.getfield 214, 3) := by decide +kernel
theorem dX8_minuteProperty_71 : decode cX8_minuteProperty 71 = .ok (.getfield 288, 3) := by decide +kernel
theorem dX8_minuteProperty_74 : decode cX8_minuteProperty 74 = .ok (.iload_n 1, 1) := by decide +kernel
theorem dX8_minuteProperty_75 : decode cX8_minuteProperty 75 = .ok (.iaload, 1) := by decide +kernel
theorem dX8_minuteProperty_76 : decode cX8_minuteProperty 76 = .ok (.ireturn, 1) := by decide +kernel
theorem dX8_minuteProperty_77 : decode cX8_minuteProperty 77 = .ok (.aload_n 0, 1) := by decide +kernel
theorem dX8_minuteProperty_78 : decode cX8_minuteProperty 78 = .ok (.getfield 33, 3) := by decide +kernel
theorem dX8_minuteProperty_81 : decode cX8_minuteProperty 81 = .ok (.getfield 214, 3) := by decide +kernel
theorem dX8_minuteProperty_84 : decode cX8_minuteProperty 84 = .ok (.getfield 291, 3) := by decide +kernel
theorem dX8_minuteProperty_87 : decode cX8_minuteProperty 87 = .ok (.iload_n 1, 1) := by decide +kernel
theorem dX8_minuteProperty_88 : decode cX8_minuteProperty 88 = .ok (.iaload, 1) := by decide +kernel
theorem dX8_minuteProperty_89 : decode cX8_minuteProperty 89 = .ok (.ireturn, 1) := by decide +kernel
theorem dX8_minuteProperty_90 : decode cX8_minuteProperty 90 = .ok (.iload_n 1, 1) := by decide +kernel
theorem dX8_minuteProperty_91 : decode cX8_minuteProperty 91 = .ok (.aload_n 0, 1) := by decide +kernel
theorem dX8_minuteProperty_92 : decode cX8_minuteProperty 92 = .ok (.getfield 10, 3) := by decide +kernel
theorem dX8_minuteProperty_95 : decode cX8_minuteProperty 95 = .ok (.getfield 71, 3) := by decide +kernel
theorem dX8_minuteProperty_98 : decode cX8_minuteProperty 98 = .ok (.invokestatic 294, 3) := by decide +kernel
theorem dX8_minuteProperty_101 : decode cX8_minuteProperty 101 = .ok (.ireturn, 1) := by decide +kernel
theorem dX8_minuteProperty_102 : decode cX8_minuteProperty 102 = .ok (.iload_n 1, 1) := by decide +kernel
theorem dX8_minuteProperty_103 : decode cX8_minuteProperty 103 = .ok (.aload_n 0, 1) := by decide +kernel
theorem dX8_minuteProperty_104 : decode cX8_minuteProperty 104 = .ok (.getfield 10, 3) := by decide +kernel
theorem dX8_minuteProperty_107 : decode cX8_minuteProperty 107 = .ok (.getfield 71, 3) := by decide +kernel
theorem dX8_minuteProperty_110 : decode cX8_minuteProperty 110 = .ok (.invokestatic 298, 3) := by decide +kernel
theorem dX8_minuteProperty_113 : decode cX8_minuteProperty 113 = .ok (.ifCond .eq 7, 3) := by decide +kernel
theorem dX8_minuteProperty_116 : decode cX8_minuteProperty 116 = .ok (.iconst 1, 1) := by decide +kernel
theorem dX8_minuteProperty_117 : decode cX8_minuteProperty 117 = .ok (.goto 4, 3) := by decide +kernel
theorem dX8_minuteProperty_120 : decode cX8_minuteProperty 120 = .ok (.iconst 0, 1) := by decide +kernel
theorem dX8_minuteProperty_121 : decode cX8_minuteProperty 121 = .ok (.ireturn, 1) := by decide +kernel
theorem dX8_minuteProperty_122 : decode cX8_minuteProperty 122 = .ok (.aload_n 0, 1) := by decide +kernel
theorem dX8_minuteProperty_123 : decode cX8_minuteProperty 123 = .ok (.getfield 33, 3) := by decide +kernel
theorem dX8_minuteProperty_126 : decode cX8_minuteProperty 126 = .ok (.getfield 214, 3) := by decide +kernel
theorem dX8_minuteProperty_129 : decode cX8_minuteProperty 129 = .ok (.getfield 302, 3) := by decide +kernel
theorem dX8_minuteProperty_132 : decode cX8_minuteProperty 132 = .ok (.iload_n 1, 1) := by decide +kernel
theorem dX8_minuteProperty_133 : decode cX8_minuteProperty 133 = .ok (.iaload, 1) := by decide +kernel
theorem dX8_minuteProperty_134 : decode cX8_minuteProperty 134 = .ok (.ireturn, 1) := by decide +kernel
theorem dX8_minuteProperty_135 : decode cX8_minuteProperty 135 = .ok (.aload_n 0, 1) := by decide +kernel
theorem dX8_minuteProperty_136 : decode cX8_minuteProperty 136 = .ok (.getfield 33, 3) := by decide +kernel
theorem dX8_minuteProperty_139 : decode cX8_minuteProperty 139 = .ok (.getfield 112, 3) := by decide +kernel
theorem dX8_minuteProperty_142 : decode cX8_minuteProperty 142 = .ok (.getfield 305, 3) := by decide +kernel
theorem dX8_minuteProperty_145 : decode cX8_minuteProperty 145 = .ok (.iload_n 1, 1) := by decide +kernel
theorem dX8_minuteProperty_146 : decode cX8_minuteProperty 146 = .ok (.iaload, 1) := by decide +kernel
theorem dX8_minuteProperty_147 : decode cX8_minuteProperty 147 = .ok (.ireturn, 1) := by decide +kernel
set_option maxHeartbeats 4000000 in
set_option maxRecDepth 100000 in
theorem c_X8_minuteProperty (w : WT) (l : Launch) (hw : WOK w) {a1 : Int32} {a2 : Int32} {M : Mem} {L : Lng} {out : Int32} (hf : f_X8_minuteProperty a1 a2 M = some out) : Met l yX8_minuteProperty (Cond.code yX8_minuteProperty cX8_minuteProperty 3 (some .int) :: BG) ({ frames := 3, cells := 0, slots := 0, locals := 64 } : Room) (PRE w [.ref (wAd w 0), .int a1, .int a2] M L) (QI w out M L) 0 0 (wA w) := by
  refine kEnt hw (by decide +kernel) rfl (Nat.le_of_ble_eq_true rfl) ?_
  intro p e s m args below meth c C ls hl hP
  have hS : va_S (wA w) s.heap s.heap [] := va_S.rf
  have hl : lv_has ls 3 [(0, .ref (wAd w 0)), (1, .int a1), (2, .int a2)] := hl
  unfold f_X8_minuteProperty at hf
  refine lv_iload_n C.1 C.2.1 dX8_minuteProperty_0 rfl (lv_at hl 2 rfl) ?_
  by_cases c1 : a2 = 0
  · have hf := (if_pos c1).symm.trans hf
    refine lv_tableIn (off := 43) (tgt := 44) C.1 C.2.1 dX8_minuteProperty_1 (by rw [c1]; decide) (by rw [c1]; decide) (by rw [c1]; rfl) (by decide) ?_
    refine lv_aload_n C.1 C.2.1 dX8_minuteProperty_44 rfl (lv_at hl 0 rfl) ?_
    refine k_get (v := .ref (wAd w 1)) C hP (lt_NoisePost h0_NoisePost) (ob_NoisePost h0_NoisePost w L _) rfl iX8 0 (by decide) q284 rfl dX8_minuteProperty_45 ?_
    refine k_get (v := .ref (wAd w 2)) C hP (lt_State to_NoisePost_state) (ob_State to_NoisePost_state w L _) rfl iX5 0 (by decide) q45 rfl dX8_minuteProperty_48 ?_
    refine lv_iload_n C.1 C.2.1 dX8_minuteProperty_51 rfl (lv_at hl 1 rfl) ?_
    obtain ⟨x2, hx2, hf⟩ := ob hf
    refine k_iald C hP (la_State_levels to_NoisePost_state) (ar_State_levels to_NoisePost_state w L _) hx2 dX8_minuteProperty_52 ?_
    cases hf
    exact kri C hP hS dX8_minuteProperty_53
  · have hf := (if_neg c1).symm.trans hf
    by_cases c3 : a2 = 1
    · have hf := (if_pos c3).symm.trans hf
      refine lv_tableIn (off := 53) (tgt := 54) C.1 C.2.1 dX8_minuteProperty_1 (by rw [c3]; decide) (by rw [c3]; decide) (by rw [c3]; rfl) (by decide) ?_
      refine lv_aload_n C.1 C.2.1 dX8_minuteProperty_54 rfl (lv_at hl 0 rfl) ?_
      refine k_get (v := .ref (wAd w 1)) C hP (lt_NoisePost h0_NoisePost) (ob_NoisePost h0_NoisePost w L _) rfl iX8 0 (by decide) q284 rfl dX8_minuteProperty_55 ?_
      refine k_get (v := .ref (wAd w 3)) C hP (lt_State to_NoisePost_state) (ob_State to_NoisePost_state w L _) rfl iX5 1 (by decide) q48 rfl dX8_minuteProperty_58 ?_
      refine lv_iload_n C.1 C.2.1 dX8_minuteProperty_61 rfl (lv_at hl 1 rfl) ?_
      obtain ⟨x4, hx4, hf⟩ := ob hf
      refine k_iald C hP (la_State_winds to_NoisePost_state) (ar_State_winds to_NoisePost_state w L _) hx4 dX8_minuteProperty_62 ?_
      cases hf
      exact kri C hP hS dX8_minuteProperty_63
    · have hf := (if_neg c3).symm.trans hf
      by_cases c5 : a2 = 2
      · have hf := (if_pos c5).symm.trans hf
        refine lv_tableIn (off := 63) (tgt := 64) C.1 C.2.1 dX8_minuteProperty_1 (by rw [c5]; decide) (by rw [c5]; decide) (by rw [c5]; rfl) (by decide) ?_
        refine lv_aload_n C.1 C.2.1 dX8_minuteProperty_64 rfl (lv_at hl 0 rfl) ?_
        refine k_get (v := .ref (wAd w 54)) C hP (lt_NoisePost h0_NoisePost) (ob_NoisePost h0_NoisePost w L _) rfl iX8 3 (by decide) q287 rfl dX8_minuteProperty_65 ?_
        refine k_get (v := .ref (wAd w 56)) C hP (lt_View to_NoisePost_now) (ob_View to_NoisePost_now w L _) rfl iX7 1 (by decide) q259 rfl dX8_minuteProperty_68 ?_
        refine k_get (v := .ref (wAd w 57)) C hP (lt_Minutes (to_View_minutes to_NoisePost_now)) (ob_Minutes (to_View_minutes to_NoisePost_now) w L _) rfl iX4 0 (by decide) q149 rfl dX8_minuteProperty_71 ?_
        refine lv_iload_n C.1 C.2.1 dX8_minuteProperty_74 rfl (lv_at hl 1 rfl) ?_
        obtain ⟨x6, hx6, hf⟩ := ob hf
        refine k_iald C hP (la_Minutes_fast (to_View_minutes to_NoisePost_now)) (ar_Minutes_fast (to_View_minutes to_NoisePost_now) w L _) hx6 dX8_minuteProperty_75 ?_
        cases hf
        exact kri C hP hS dX8_minuteProperty_76
      · have hf := (if_neg c5).symm.trans hf
        by_cases c7 : a2 = 3
        · have hf := (if_pos c7).symm.trans hf
          refine lv_tableIn (off := 76) (tgt := 77) C.1 C.2.1 dX8_minuteProperty_1 (by rw [c7]; decide) (by rw [c7]; decide) (by rw [c7]; rfl) (by decide) ?_
          refine lv_aload_n C.1 C.2.1 dX8_minuteProperty_77 rfl (lv_at hl 0 rfl) ?_
          refine k_get (v := .ref (wAd w 54)) C hP (lt_NoisePost h0_NoisePost) (ob_NoisePost h0_NoisePost w L _) rfl iX8 3 (by decide) q287 rfl dX8_minuteProperty_78 ?_
          refine k_get (v := .ref (wAd w 56)) C hP (lt_View to_NoisePost_now) (ob_View to_NoisePost_now w L _) rfl iX7 1 (by decide) q259 rfl dX8_minuteProperty_81 ?_
          refine k_get (v := .ref (wAd w 58)) C hP (lt_Minutes (to_View_minutes to_NoisePost_now)) (ob_Minutes (to_View_minutes to_NoisePost_now) w L _) rfl iX4 1 (by decide) q153 rfl dX8_minuteProperty_84 ?_
          refine lv_iload_n C.1 C.2.1 dX8_minuteProperty_87 rfl (lv_at hl 1 rfl) ?_
          obtain ⟨x8, hx8, hf⟩ := ob hf
          refine k_iald C hP (la_Minutes_slow (to_View_minutes to_NoisePost_now)) (ar_Minutes_slow (to_View_minutes to_NoisePost_now) w L _) hx8 dX8_minuteProperty_88 ?_
          cases hf
          exact kri C hP hS dX8_minuteProperty_89
        · have hf := (if_neg c7).symm.trans hf
          by_cases c9 : a2 = 4
          · have hf := (if_pos c9).symm.trans hf
            refine lv_tableIn (off := 89) (tgt := 90) C.1 C.2.1 dX8_minuteProperty_1 (by rw [c9]; decide) (by rw [c9]; decide) (by rw [c9]; rfl) (by decide) ?_
            refine lv_iload_n C.1 C.2.1 dX8_minuteProperty_90 rfl (lv_at hl 1 rfl) ?_
            refine lv_aload_n C.1 C.2.1 dX8_minuteProperty_91 rfl (lv_at hl 0 rfl) ?_
            refine k_get (v := .ref (wAd w 1)) C hP (lt_NoisePost h0_NoisePost) (ob_NoisePost h0_NoisePost w L _) rfl iX8 0 (by decide) q284 rfl dX8_minuteProperty_92 ?_
            refine k_get (v := .ref (wAd w 4)) C hP (lt_State to_NoisePost_state) (ob_State to_NoisePost_state w L _) rfl iX5 2 (by decide) q50 rfl dX8_minuteProperty_95 ?_
            obtain ⟨r10, hr10, hf⟩ := ob hf
            refine kci (kS (As := [.int a1, .ref (wAd w 4)]) (rest := []) C hl.1 hP hS (c_X8_limitAt w l C.2.2.2.2.2.2.2.2 s_St (L := L) hr10) (gS q384 q385 q1 q386) hd_X8_limitAt ⟨rfl, rfl⟩ ⟨Nat.le_of_ble_eq_true rfl, Nat.le_of_ble_eq_true rfl⟩ rfl rfl (Nat.le_of_ble_eq_true rfl) dX8_minuteProperty_98 ⟨Nat.zero_le _, Nat.zero_le _⟩) hS (fun H locs hP hS => ?_)
            cases hf
            exact kri C hP hS dX8_minuteProperty_101
          · have hf := (if_neg c9).symm.trans hf
            by_cases c11 : a2 = 5
            · have hf := (if_pos c11).symm.trans hf
              refine lv_tableIn (off := 101) (tgt := 102) C.1 C.2.1 dX8_minuteProperty_1 (by rw [c11]; decide) (by rw [c11]; decide) (by rw [c11]; rfl) (by decide) ?_
              refine lv_iload_n C.1 C.2.1 dX8_minuteProperty_102 rfl (lv_at hl 1 rfl) ?_
              refine lv_aload_n C.1 C.2.1 dX8_minuteProperty_103 rfl (lv_at hl 0 rfl) ?_
              refine k_get (v := .ref (wAd w 1)) C hP (lt_NoisePost h0_NoisePost) (ob_NoisePost h0_NoisePost w L _) rfl iX8 0 (by decide) q284 rfl dX8_minuteProperty_104 ?_
              refine k_get (v := .ref (wAd w 4)) C hP (lt_State to_NoisePost_state) (ob_State to_NoisePost_state w L _) rfl iX5 2 (by decide) q50 rfl dX8_minuteProperty_107 ?_
              obtain ⟨r12, hr12, hf⟩ := ob hf
              refine kci (kS (As := [.int a1, .ref (wAd w 4)]) (rest := []) C hl.1 hP hS (c_X8_isRest w l C.2.2.2.2.2.2.2.2 s_St (L := L) hr12) (gS q387 q388 q1 q389) hd_X8_isRest ⟨rfl, rfl⟩ ⟨Nat.le_of_ble_eq_true rfl, Nat.le_of_ble_eq_true rfl⟩ rfl rfl (Nat.le_of_ble_eq_true rfl) dX8_minuteProperty_110 ⟨Nat.zero_le _, Nat.zero_le _⟩) hS (fun H locs hP hS => ?_)
              refine lv_if_eq (tgt := 120) C.1 C.2.1 dX8_minuteProperty_113 (by decide) (fun c13 => ?_) (fun c13 => ?_)
              · have hf := (if_pos c13).symm.trans hf
                refine lv_iconst (v := 0) C.1 C.2.1 dX8_minuteProperty_120 (by decide) ?_
                cases hf
                exact kri C hP hS dX8_minuteProperty_121
              · have hf := (if_neg c13).symm.trans hf
                refine lv_iconst (v := 1) C.1 C.2.1 dX8_minuteProperty_116 (by decide) ?_
                refine lv_goto (tgt := 121) C.1 C.2.1 dX8_minuteProperty_117 (by decide) ?_
                cases hf
                exact kri C hP hS dX8_minuteProperty_121
            · have hf := (if_neg c11).symm.trans hf
              by_cases c14 : a2 = 6
              · have hf := (if_pos c14).symm.trans hf
                refine lv_tableIn (off := 121) (tgt := 122) C.1 C.2.1 dX8_minuteProperty_1 (by rw [c14]; decide) (by rw [c14]; decide) (by rw [c14]; rfl) (by decide) ?_
                refine lv_aload_n C.1 C.2.1 dX8_minuteProperty_122 rfl (lv_at hl 0 rfl) ?_
                refine k_get (v := .ref (wAd w 54)) C hP (lt_NoisePost h0_NoisePost) (ob_NoisePost h0_NoisePost w L _) rfl iX8 3 (by decide) q287 rfl dX8_minuteProperty_123 ?_
                refine k_get (v := .ref (wAd w 56)) C hP (lt_View to_NoisePost_now) (ob_View to_NoisePost_now w L _) rfl iX7 1 (by decide) q259 rfl dX8_minuteProperty_126 ?_
                refine k_get (v := .ref (wAd w 59)) C hP (lt_Minutes (to_View_minutes to_NoisePost_now)) (ob_Minutes (to_View_minutes to_NoisePost_now) w L _) rfl iX4 2 (by decide) q156 rfl dX8_minuteProperty_129 ?_
                refine lv_iload_n C.1 C.2.1 dX8_minuteProperty_132 rfl (lv_at hl 1 rfl) ?_
                obtain ⟨x15, hx15, hf⟩ := ob hf
                refine k_iald C hP (la_Minutes_why (to_View_minutes to_NoisePost_now)) (ar_Minutes_why (to_View_minutes to_NoisePost_now) w L _) hx15 dX8_minuteProperty_133 ?_
                cases hf
                exact kri C hP hS dX8_minuteProperty_134
              · have hf := (if_neg c14).symm.trans hf
                refine lv_tableOut (tgt := 135) C.1 C.2.1 dX8_minuteProperty_1 (by have e0 := ne_ti (n := 0) c1 (by decide); have e1 := ne_ti (n := 1) c3 (by decide); have e2 := ne_ti (n := 2) c5 (by decide); have e3 := ne_ti (n := 3) c7 (by decide); have e4 := ne_ti (n := 4) c9 (by decide); have e5 := ne_ti (n := 5) c11 (by decide); have e6 := ne_ti (n := 6) c14 (by decide); omega) (by decide) ?_
                refine lv_aload_n C.1 C.2.1 dX8_minuteProperty_135 rfl (lv_at hl 0 rfl) ?_
                refine k_get (v := .ref (wAd w 54)) C hP (lt_NoisePost h0_NoisePost) (ob_NoisePost h0_NoisePost w L _) rfl iX8 3 (by decide) q287 rfl dX8_minuteProperty_136 ?_
                refine k_get (v := .ref (wAd w 60)) C hP (lt_View to_NoisePost_now) (ob_View to_NoisePost_now w L _) rfl iX7 2 (by decide) q261 rfl dX8_minuteProperty_139 ?_
                refine k_get (v := .ref (wAd w 66)) C hP (lt_Exceedances (to_View_exceedances to_NoisePost_now)) (ob_Exceedances (to_View_exceedances to_NoisePost_now) w L _) rfl iX0 5 (by decide) q206 rfl dX8_minuteProperty_142 ?_
                refine lv_iload_n C.1 C.2.1 dX8_minuteProperty_145 rfl (lv_at hl 1 rfl) ?_
                obtain ⟨x16, hx16, hf⟩ := ob hf
                refine k_iald C hP (la_Exceedances_ownerOf (to_View_exceedances to_NoisePost_now)) (ar_Exceedances_ownerOf (to_View_exceedances to_NoisePost_now) w L _) hx16 dX8_minuteProperty_146 ?_
                cases hf
                exact kri C hP hS dX8_minuteProperty_147
theorem dX8_minute_0 : decode cX8_minute 0 = .ok (.aload_n 0, 1) := by decide +kernel
theorem dX8_minute_1 : decode cX8_minute 1 = .ok (.getfield 10, 3) := by decide +kernel
theorem dX8_minute_4 : decode cX8_minute 4 = .ok (.iload_n 1, 1) := by decide +kernel
theorem dX8_minute_5 : decode cX8_minute 5 = .ok (.invokevirtual 99, 3) := by decide +kernel
theorem dX8_minute_8 : decode cX8_minute 8 = .ok (.ifCond .ne 13, 3) := by decide +kernel
theorem dX8_minute_11 : decode cX8_minute 11 = .ok (.new 51, 3) := by decide +kernel
theorem dX8_minute_14 : decode cX8_minute 14 = .ok (.dup, 1) := by decide +kernel
theorem dX8_minute_15 : decode cX8_minute 15 = .ok (.ldc 102, 2) := by decide +kernel
theorem dX8_minute_17 : decode cX8_minute 17 = .ok (.invokespecial 55, 3) := by decide +kernel
theorem dX8_minute_20 : decode cX8_minute 20 = .ok (.athrow, 1) := by decide +kernel
theorem dX8_minute_21 : decode cX8_minute 21 = .ok (.iload_n 2, 1) := by decide +kernel
theorem dX8_minute_22 : decode cX8_minute 22 = .ok (.ifCond .lt 9, 3) := by decide +kernel
theorem dX8_minute_25 : decode cX8_minute 25 = .ok (.iload_n 2, 1) := by decide +kernel
theorem dX8_minute_26 : decode cX8_minute 26 = .ok (.bipush 7, 2) := by decide +kernel
theorem dX8_minute_28 : decode cX8_minute 28 = .ok (.if_icmp .le 13, 3) := by decide +kernel
theorem dX8_minute_31 : decode cX8_minute 31 = .ok (.new 62, 3) := by decide +kernel
theorem dX8_minute_34 : decode cX8_minute 34 = .ok (.dup, 1) := by decide +kernel
theorem dX8_minute_35 : decode cX8_minute 35 = .ok (.ldc 193, 2) := by decide +kernel
theorem dX8_minute_37 : decode cX8_minute 37 = .ok (.invokespecial 66, 3) := by decide +kernel
theorem dX8_minute_40 : decode cX8_minute 40 = .ok (.athrow, 1) := by decide +kernel
theorem dX8_minute_41 : decode cX8_minute 41 = .ok (.aload_n 0, 1) := by decide +kernel
theorem dX8_minute_42 : decode cX8_minute 42 = .ok (.iload_n 1, 1) := by decide +kernel
theorem dX8_minute_43 : decode cX8_minute 43 = .ok (.iload_n 2, 1) := by decide +kernel
theorem dX8_minute_44 : decode cX8_minute 44 = .ok (.invokevirtual 195, 3) := by decide +kernel
theorem dX8_minute_47 : decode cX8_minute 47 = .ok (.ireturn, 1) := by decide +kernel
set_option maxHeartbeats 4000000 in
set_option maxRecDepth 100000 in
theorem w_X8_minute_j31 {w : WT} {l : Launch} {p : Program} {e : Env} {s : State} {m : MethodId} {args : Array Value} {below : List Frame} {meth : Method} {c : Code} (C : KC w p s m args meth c cX8_minute 3 RX8 (some .int)) (T : KT w l s c) {M : Mem} {L : Lng} {out : Nat ⊕ (Int32)} (hf : f_X8_minute_j31 M = some out) : AtL w p l e ({ frames := 6, cells := 1, slots := 6, locals := 90 } : Room) s m args below meth c (vx_MQ below (QX w (xo out M) L) (XX w (xo out M) L) args s 1 6 (wA w)) 3 31 M L [] [] := by
  intro H locs ls hP hS hl
  unfold f_X8_minute_j31 at hf
  cases hf
  exact k_thr C T hP hS hl.1 1 (by decide) q547 q15 (List.mem_of_getElem? (i := 14) rfl) dX8_minute_31 dX8_minute_34 dX8_minute_35 dX8_minute_37 dX8_minute_40 (Nat.le_of_ble_eq_true rfl) (Nat.le_of_ble_eq_true rfl) (Nat.le_refl _) (Nat.le_refl _)
set_option maxHeartbeats 4000000 in
set_option maxRecDepth 100000 in
theorem c_X8_minute (w : WT) (l : Launch) (hw : WOK w) (hfl : l.stackTraces = false) {a1 : Int32} {a2 : Int32} {M : Mem} {L : Lng} {out : Nat ⊕ (Int32)} (hf : f_X8_minute a1 a2 M = some out) : vx_Met l yX8_minute (Cond.code yX8_minute cX8_minute 3 (some .int) :: BG) ({ frames := 6, cells := 1, slots := 6, locals := 90 } : Room) (PREX w [.ref (wAd w 0), .int a1, .int a2] M L) (QX w (xo out M) L) (XX w (xo out M) L) 1 6 (wA w) := by
  refine kEntX hw hfl (by decide +kernel) rfl (Nat.le_of_ble_eq_true rfl) ?_
  intro p e s m args below meth c C T ls hl hP
  have hS : va_S (wA w) s.heap s.heap [] := va_S.rf
  have hl : lv_has ls 3 [(0, .ref (wAd w 0)), (1, .int a1), (2, .int a2)] := hl
  unfold f_X8_minute at hf
  refine lv_aload_n C.1 C.2.1 dX8_minute_0 rfl (lv_at hl 0 rfl) ?_
  refine k_get (v := .ref (wAd w 1)) C hP (lt_NoisePost h0_NoisePost) (ob_NoisePost h0_NoisePost w L _) rfl iX8 0 (by decide) q284 rfl dX8_minute_1 ?_
  refine lv_iload_n C.1 C.2.1 dX8_minute_4 rfl (lv_at hl 1 rfl) ?_
  obtain ⟨r1, hr1, hf⟩ := ob hf
  refine kci (kV (As := [.int a1]) (rest := []) C hl.1 hP hS (c_X5_hasMinute w l C.2.2.2.2.2.2.2.2 to_NoisePost_state (L := L) hr1) (gV q691 q692 q693 q2 q694) hd_X5_hasMinute (lt_State to_NoisePost_state) (ob_State to_NoisePost_state w L _) rfl ⟨rfl, rfl⟩ ⟨Nat.le_of_ble_eq_true rfl, Nat.le_of_ble_eq_true rfl⟩ rfl rfl (Nat.le_of_ble_eq_true rfl) dX8_minute_5 ⟨Nat.zero_le _, Nat.zero_le _⟩) hS (fun H locs hP hS => ?_)
  refine lv_if_ne (tgt := 21) C.1 C.2.1 dX8_minute_8 (by decide) (fun c2 => ?_) (fun c2 => ?_)
  · have hf := (if_neg c2).symm.trans hf
    refine lv_iload_n C.1 C.2.1 dX8_minute_21 rfl (lv_at hl 2 rfl) ?_
    refine lv_if_lt (tgt := 31) C.1 C.2.1 dX8_minute_22 (by decide) (fun c3 => ?_) (fun c3 => ?_)
    · have hf := (if_pos c3).symm.trans hf
      exact w_X8_minute_j31 C T hf _ _ _ hP hS (lv_sub hl [] rfl)
    · have hf := (if_neg c3).symm.trans hf
      refine lv_iload_n C.1 C.2.1 dX8_minute_25 rfl (lv_at hl 2 rfl) ?_
      refine lv_bipush (v := 7) C.1 C.2.1 dX8_minute_26 (by decide) ?_
      refine lv_icmp_le (tgt := 41) C.1 C.2.1 dX8_minute_28 (by decide) (fun c4 => ?_) (fun c4 => ?_)
      · have hf := (if_pos c4).symm.trans hf
        refine lv_aload_n C.1 C.2.1 dX8_minute_41 rfl (lv_at hl 0 rfl) ?_
        refine lv_iload_n C.1 C.2.1 dX8_minute_42 rfl (lv_at hl 1 rfl) ?_
        refine lv_iload_n C.1 C.2.1 dX8_minute_43 rfl (lv_at hl 2 rfl) ?_
        obtain ⟨r5, hr5, hf⟩ := ob hf
        refine kci (kV (As := [.int a1, .int a2]) (rest := []) C hl.1 hP hS (c_X8_minuteProperty w l C.2.2.2.2.2.2.2.2 (L := L) hr5) (gV q380 q382 qp8 q1 q383) hd_X8_minuteProperty (lt_NoisePost h0_NoisePost) (ob_NoisePost h0_NoisePost w L _) rfl ⟨rfl, rfl⟩ ⟨Nat.le_of_ble_eq_true rfl, Nat.le_of_ble_eq_true rfl⟩ rfl rfl (Nat.le_of_ble_eq_true rfl) dX8_minute_44 ⟨Nat.zero_le _, Nat.zero_le _⟩) hS (fun H locs hP hS => ?_)
        cases hf
        exact krix C hP hS dX8_minute_47
      · have hf := (if_neg c4).symm.trans hf
        exact w_X8_minute_j31 C T hf _ _ _ hP hS (lv_sub hl [] rfl)
  · have hf := (if_pos c2).symm.trans hf
    cases hf
    exact k_thr C T hP hS hl.1 0 (by decide) q472 q14 (List.mem_of_getElem? (i := 4) rfl) dX8_minute_11 dX8_minute_14 dX8_minute_15 dX8_minute_17 dX8_minute_20 (Nat.le_of_ble_eq_true rfl) (Nat.le_of_ble_eq_true rfl) (Nat.le_refl _) (Nat.le_refl _)
theorem dX8_exceedanceProperty_0 : decode cX8_exceedanceProperty 0 = .ok (.iload_n 2, 1) := by decide +kernel
theorem dX8_exceedanceProperty_1 : decode cX8_exceedanceProperty 1 = .ok (.tableswitch 100 0 4 #[35, 48, 61, 74, 87], 35) := by decide +kernel
theorem dX8_exceedanceProperty_36 : decode cX8_exceedanceProperty 36 = .ok (.aload_n 0, 1) := by decide +kernel
theorem dX8_exceedanceProperty_37 : decode cX8_exceedanceProperty 37 = .ok (.getfield 33, 3) := by decide +kernel
theorem dX8_exceedanceProperty_40 : decode cX8_exceedanceProperty 40 = .ok (.getfield 112, 3) := by decide +kernel
theorem dX8_exceedanceProperty_43 : decode cX8_exceedanceProperty 43 = .ok (.getfield 308, 3) := by decide +kernel
theorem dX8_exceedanceProperty_46 : decode cX8_exceedanceProperty 46 = .ok (.iload_n 1, 1) := by decide +kernel
theorem dX8_exceedanceProperty_47 : decode cX8_exceedanceProperty 47 = .ok (.iaload, 1) := by decide +kernel
theorem dX8_exceedanceProperty_48 : decode cX8_exceedanceProperty 48 = .ok (.ireturn, 1) := by decide +kernel
theorem dX8_exceedanceProperty_49 : decode cX8_exceedanceProperty 49 = .ok (.aload_n 0, 1) := by decide +kernel
theorem dX8_exceedanceProperty_50 : decode cX8_exceedanceProperty 50 = .ok (.getfield 33, 3) := by decide +kernel
theorem dX8_exceedanceProperty_53 : decode cX8_exceedanceProperty 53 = .ok (.getfield 112, 3) := by decide +kernel
theorem dX8_exceedanceProperty_56 : decode cX8_exceedanceProperty 56 = .ok (.getfield 311, 3) := by decide +kernel
theorem dX8_exceedanceProperty_59 : decode cX8_exceedanceProperty 59 = .ok (.iload_n 1, 1) := by decide +kernel
theorem dX8_exceedanceProperty_60 : decode cX8_exceedanceProperty 60 = .ok (.iaload, 1) := by decide +kernel
theorem dX8_exceedanceProperty_61 : decode cX8_exceedanceProperty 61 = .ok (.ireturn, 1) := by decide +kernel
theorem dX8_exceedanceProperty_62 : decode cX8_exceedanceProperty 62 = .ok (.aload_n 0, 1) := by decide +kernel
theorem dX8_exceedanceProperty_63 : decode cX8_exceedanceProperty 63 = .ok (.getfield 33, 3) := by decide +kernel
theorem dX8_exceedanceProperty_66 : decode cX8_exceedanceProperty 66 = .ok (.getfield 112, 3) := by decide +kernel
theorem dX8_exceedanceProperty_69 : decode cX8_exceedanceProperty 69 = .ok (.getfield 314, 3) := by decide +kernel
theorem dX8_exceedanceProperty_72 : decode cX8_exceedanceProperty 72 = .ok (.iload_n 1, 1) := by decide +kernel
theorem dX8_exceedanceProperty_73 : decode cX8_exceedanceProperty 73 = .ok (.iaload, 1) := by decide +kernel
theorem dX8_exceedanceProperty_74 : decode cX8_exceedanceProperty 74 = .ok (.ireturn, 1) := by decide +kernel
theorem dX8_exceedanceProperty_75 : decode cX8_exceedanceProperty 75 = .ok (.aload_n 0, 1) := by decide +kernel
theorem dX8_exceedanceProperty_76 : decode cX8_exceedanceProperty 76 = .ok (.getfield 33, 3) := by decide +kernel
theorem dX8_exceedanceProperty_79 : decode cX8_exceedanceProperty 79 = .ok (.getfield 112, 3) := by decide +kernel
theorem dX8_exceedanceProperty_82 : decode cX8_exceedanceProperty 82 = .ok (.getfield 317, 3) := by decide +kernel
theorem dX8_exceedanceProperty_85 : decode cX8_exceedanceProperty 85 = .ok (.iload_n 1, 1) := by decide +kernel
theorem dX8_exceedanceProperty_86 : decode cX8_exceedanceProperty 86 = .ok (.iaload, 1) := by decide +kernel
theorem dX8_exceedanceProperty_87 : decode cX8_exceedanceProperty 87 = .ok (.ireturn, 1) := by decide +kernel
theorem dX8_exceedanceProperty_88 : decode cX8_exceedanceProperty 88 = .ok (.aload_n 0, 1) := by decide +kernel
theorem dX8_exceedanceProperty_89 : decode cX8_exceedanceProperty 89 = .ok (.getfield 33, 3) := by decide +kernel
theorem dX8_exceedanceProperty_92 : decode cX8_exceedanceProperty 92 = .ok (.getfield 112, 3) := by decide +kernel
theorem dX8_exceedanceProperty_95 : decode cX8_exceedanceProperty 95 = .ok (.getfield 320, 3) := by decide +kernel
theorem dX8_exceedanceProperty_98 : decode cX8_exceedanceProperty 98 = .ok (.iload_n 1, 1) := by decide +kernel
theorem dX8_exceedanceProperty_99 : decode cX8_exceedanceProperty 99 = .ok (.iaload, 1) := by decide +kernel
theorem dX8_exceedanceProperty_100 : decode cX8_exceedanceProperty 100 = .ok (.ireturn, 1) := by decide +kernel
theorem dX8_exceedanceProperty_101 : decode cX8_exceedanceProperty 101 = .ok (.aload_n 0, 1) := by decide +kernel
theorem dX8_exceedanceProperty_102 : decode cX8_exceedanceProperty 102 = .ok (.getfield 33, 3) := by decide +kernel
theorem dX8_exceedanceProperty_105 : decode cX8_exceedanceProperty 105 = .ok (.getfield 142, 3) := by decide +kernel
theorem dX8_exceedanceProperty_108 : decode cX8_exceedanceProperty 108 = .ok (.getfield 323, 3) := by decide +kernel
theorem dX8_exceedanceProperty_111 : decode cX8_exceedanceProperty 111 = .ok (.iload_n 1, 1) := by decide +kernel
theorem dX8_exceedanceProperty_112 : decode cX8_exceedanceProperty 112 = .ok (.iaload, 1) := by decide +kernel
theorem dX8_exceedanceProperty_113 : decode cX8_exceedanceProperty 113 = .ok (.ireturn, 1) := by decide +kernel
set_option maxHeartbeats 4000000 in
set_option maxRecDepth 100000 in
theorem c_X8_exceedanceProperty (w : WT) (l : Launch) (hw : WOK w) {a1 : Int32} {a2 : Int32} {M : Mem} {L : Lng} {out : Int32} (hf : f_X8_exceedanceProperty a1 a2 M = some out) : Met l yX8_exceedanceProperty (Cond.code yX8_exceedanceProperty cX8_exceedanceProperty 3 (some .int) :: BG) ({ frames := 0, cells := 0, slots := 0, locals := 0 } : Room) (PRE w [.ref (wAd w 0), .int a1, .int a2] M L) (QI w out M L) 0 0 (wA w) := by
  refine kEnt hw (by decide +kernel) rfl (Nat.le_of_ble_eq_true rfl) ?_
  intro p e s m args below meth c C ls hl hP
  have hS : va_S (wA w) s.heap s.heap [] := va_S.rf
  have hl : lv_has ls 3 [(0, .ref (wAd w 0)), (1, .int a1), (2, .int a2)] := hl
  unfold f_X8_exceedanceProperty at hf
  refine lv_iload_n C.1 C.2.1 dX8_exceedanceProperty_0 rfl (lv_at hl 2 rfl) ?_
  by_cases c1 : a2 = 0
  · have hf := (if_pos c1).symm.trans hf
    refine lv_tableIn (off := 35) (tgt := 36) C.1 C.2.1 dX8_exceedanceProperty_1 (by rw [c1]; decide) (by rw [c1]; decide) (by rw [c1]; rfl) (by decide) ?_
    refine lv_aload_n C.1 C.2.1 dX8_exceedanceProperty_36 rfl (lv_at hl 0 rfl) ?_
    refine k_get (v := .ref (wAd w 54)) C hP (lt_NoisePost h0_NoisePost) (ob_NoisePost h0_NoisePost w L _) rfl iX8 3 (by decide) q287 rfl dX8_exceedanceProperty_37 ?_
    refine k_get (v := .ref (wAd w 60)) C hP (lt_View to_NoisePost_now) (ob_View to_NoisePost_now w L _) rfl iX7 2 (by decide) q261 rfl dX8_exceedanceProperty_40 ?_
    refine k_get (v := .ref (wAd w 61)) C hP (lt_Exceedances (to_View_exceedances to_NoisePost_now)) (ob_Exceedances (to_View_exceedances to_NoisePost_now) w L _) rfl iX0 0 (by decide) q194 rfl dX8_exceedanceProperty_43 ?_
    refine lv_iload_n C.1 C.2.1 dX8_exceedanceProperty_46 rfl (lv_at hl 1 rfl) ?_
    obtain ⟨x2, hx2, hf⟩ := ob hf
    refine k_iald C hP (la_Exceedances_begins (to_View_exceedances to_NoisePost_now)) (ar_Exceedances_begins (to_View_exceedances to_NoisePost_now) w L _) hx2 dX8_exceedanceProperty_47 ?_
    cases hf
    exact kri C hP hS dX8_exceedanceProperty_48
  · have hf := (if_neg c1).symm.trans hf
    by_cases c3 : a2 = 1
    · have hf := (if_pos c3).symm.trans hf
      refine lv_tableIn (off := 48) (tgt := 49) C.1 C.2.1 dX8_exceedanceProperty_1 (by rw [c3]; decide) (by rw [c3]; decide) (by rw [c3]; rfl) (by decide) ?_
      refine lv_aload_n C.1 C.2.1 dX8_exceedanceProperty_49 rfl (lv_at hl 0 rfl) ?_
      refine k_get (v := .ref (wAd w 54)) C hP (lt_NoisePost h0_NoisePost) (ob_NoisePost h0_NoisePost w L _) rfl iX8 3 (by decide) q287 rfl dX8_exceedanceProperty_50 ?_
      refine k_get (v := .ref (wAd w 60)) C hP (lt_View to_NoisePost_now) (ob_View to_NoisePost_now w L _) rfl iX7 2 (by decide) q261 rfl dX8_exceedanceProperty_53 ?_
      refine k_get (v := .ref (wAd w 62)) C hP (lt_Exceedances (to_View_exceedances to_NoisePost_now)) (ob_Exceedances (to_View_exceedances to_NoisePost_now) w L _) rfl iX0 1 (by decide) q197 rfl dX8_exceedanceProperty_56 ?_
      refine lv_iload_n C.1 C.2.1 dX8_exceedanceProperty_59 rfl (lv_at hl 1 rfl) ?_
      obtain ⟨x4, hx4, hf⟩ := ob hf
      refine k_iald C hP (la_Exceedances_ends (to_View_exceedances to_NoisePost_now)) (ar_Exceedances_ends (to_View_exceedances to_NoisePost_now) w L _) hx4 dX8_exceedanceProperty_60 ?_
      cases hf
      exact kri C hP hS dX8_exceedanceProperty_61
    · have hf := (if_neg c3).symm.trans hf
      by_cases c5 : a2 = 2
      · have hf := (if_pos c5).symm.trans hf
        refine lv_tableIn (off := 61) (tgt := 62) C.1 C.2.1 dX8_exceedanceProperty_1 (by rw [c5]; decide) (by rw [c5]; decide) (by rw [c5]; rfl) (by decide) ?_
        refine lv_aload_n C.1 C.2.1 dX8_exceedanceProperty_62 rfl (lv_at hl 0 rfl) ?_
        refine k_get (v := .ref (wAd w 54)) C hP (lt_NoisePost h0_NoisePost) (ob_NoisePost h0_NoisePost w L _) rfl iX8 3 (by decide) q287 rfl dX8_exceedanceProperty_63 ?_
        refine k_get (v := .ref (wAd w 60)) C hP (lt_View to_NoisePost_now) (ob_View to_NoisePost_now w L _) rfl iX7 2 (by decide) q261 rfl dX8_exceedanceProperty_66 ?_
        refine k_get (v := .ref (wAd w 63)) C hP (lt_Exceedances (to_View_exceedances to_NoisePost_now)) (ob_Exceedances (to_View_exceedances to_NoisePost_now) w L _) rfl iX0 2 (by decide) q199 rfl dX8_exceedanceProperty_69 ?_
        refine lv_iload_n C.1 C.2.1 dX8_exceedanceProperty_72 rfl (lv_at hl 1 rfl) ?_
        obtain ⟨x6, hx6, hf⟩ := ob hf
        refine k_iald C hP (la_Exceedances_aboves (to_View_exceedances to_NoisePost_now)) (ar_Exceedances_aboves (to_View_exceedances to_NoisePost_now) w L _) hx6 dX8_exceedanceProperty_73 ?_
        cases hf
        exact kri C hP hS dX8_exceedanceProperty_74
      · have hf := (if_neg c5).symm.trans hf
        by_cases c7 : a2 = 3
        · have hf := (if_pos c7).symm.trans hf
          refine lv_tableIn (off := 74) (tgt := 75) C.1 C.2.1 dX8_exceedanceProperty_1 (by rw [c7]; decide) (by rw [c7]; decide) (by rw [c7]; rfl) (by decide) ?_
          refine lv_aload_n C.1 C.2.1 dX8_exceedanceProperty_75 rfl (lv_at hl 0 rfl) ?_
          refine k_get (v := .ref (wAd w 54)) C hP (lt_NoisePost h0_NoisePost) (ob_NoisePost h0_NoisePost w L _) rfl iX8 3 (by decide) q287 rfl dX8_exceedanceProperty_76 ?_
          refine k_get (v := .ref (wAd w 60)) C hP (lt_View to_NoisePost_now) (ob_View to_NoisePost_now w L _) rfl iX7 2 (by decide) q261 rfl dX8_exceedanceProperty_79 ?_
          refine k_get (v := .ref (wAd w 64)) C hP (lt_Exceedances (to_View_exceedances to_NoisePost_now)) (ob_Exceedances (to_View_exceedances to_NoisePost_now) w L _) rfl iX0 3 (by decide) q202 rfl dX8_exceedanceProperty_82 ?_
          refine lv_iload_n C.1 C.2.1 dX8_exceedanceProperty_85 rfl (lv_at hl 1 rfl) ?_
          obtain ⟨x8, hx8, hf⟩ := ob hf
          refine k_iald C hP (la_Exceedances_peaks (to_View_exceedances to_NoisePost_now)) (ar_Exceedances_peaks (to_View_exceedances to_NoisePost_now) w L _) hx8 dX8_exceedanceProperty_86 ?_
          cases hf
          exact kri C hP hS dX8_exceedanceProperty_87
        · have hf := (if_neg c7).symm.trans hf
          by_cases c9 : a2 = 4
          · have hf := (if_pos c9).symm.trans hf
            refine lv_tableIn (off := 87) (tgt := 88) C.1 C.2.1 dX8_exceedanceProperty_1 (by rw [c9]; decide) (by rw [c9]; decide) (by rw [c9]; rfl) (by decide) ?_
            refine lv_aload_n C.1 C.2.1 dX8_exceedanceProperty_88 rfl (lv_at hl 0 rfl) ?_
            refine k_get (v := .ref (wAd w 54)) C hP (lt_NoisePost h0_NoisePost) (ob_NoisePost h0_NoisePost w L _) rfl iX8 3 (by decide) q287 rfl dX8_exceedanceProperty_89 ?_
            refine k_get (v := .ref (wAd w 60)) C hP (lt_View to_NoisePost_now) (ob_View to_NoisePost_now w L _) rfl iX7 2 (by decide) q261 rfl dX8_exceedanceProperty_92 ?_
            refine k_get (v := .ref (wAd w 65)) C hP (lt_Exceedances (to_View_exceedances to_NoisePost_now)) (ob_Exceedances (to_View_exceedances to_NoisePost_now) w L _) rfl iX0 4 (by decide) q204 rfl dX8_exceedanceProperty_95 ?_
            refine lv_iload_n C.1 C.2.1 dX8_exceedanceProperty_98 rfl (lv_at hl 1 rfl) ?_
            obtain ⟨x10, hx10, hf⟩ := ob hf
            refine k_iald C hP (la_Exceedances_weights (to_View_exceedances to_NoisePost_now)) (ar_Exceedances_weights (to_View_exceedances to_NoisePost_now) w L _) hx10 dX8_exceedanceProperty_99 ?_
            cases hf
            exact kri C hP hS dX8_exceedanceProperty_100
          · have hf := (if_neg c9).symm.trans hf
            refine lv_tableOut (tgt := 101) C.1 C.2.1 dX8_exceedanceProperty_1 (by have e0 := ne_ti (n := 0) c1 (by decide); have e1 := ne_ti (n := 1) c3 (by decide); have e2 := ne_ti (n := 2) c5 (by decide); have e3 := ne_ti (n := 3) c7 (by decide); have e4 := ne_ti (n := 4) c9 (by decide); omega) (by decide) ?_
            refine lv_aload_n C.1 C.2.1 dX8_exceedanceProperty_101 rfl (lv_at hl 0 rfl) ?_
            refine k_get (v := .ref (wAd w 54)) C hP (lt_NoisePost h0_NoisePost) (ob_NoisePost h0_NoisePost w L _) rfl iX8 3 (by decide) q287 rfl dX8_exceedanceProperty_102 ?_
            refine k_get (v := .ref (wAd w 67)) C hP (lt_View to_NoisePost_now) (ob_View to_NoisePost_now w L _) rfl iX7 3 (by decide) q263 rfl dX8_exceedanceProperty_105 ?_
            refine k_get (v := .ref (wAd w 69)) C hP (lt_Matches (to_View_matches to_NoisePost_now)) (ob_Matches (to_View_matches to_NoisePost_now) w L _) rfl iX3 1 (by decide) q239 rfl dX8_exceedanceProperty_108 ?_
            refine lv_iload_n C.1 C.2.1 dX8_exceedanceProperty_111 rfl (lv_at hl 1 rfl) ?_
            obtain ⟨x11, hx11, hf⟩ := ob hf
            refine k_iald C hP (la_Matches_complaintOf (to_View_matches to_NoisePost_now)) (ar_Matches_complaintOf (to_View_matches to_NoisePost_now) w L _) hx11 dX8_exceedanceProperty_112 ?_
            cases hf
            exact kri C hP hS dX8_exceedanceProperty_113
theorem dX8_exceedance_0 : decode cX8_exceedance 0 = .ok (.iload_n 1, 1) := by decide +kernel
theorem dX8_exceedance_1 : decode cX8_exceedance 1 = .ok (.ifCond .lt 17, 3) := by decide +kernel
theorem dX8_exceedance_4 : decode cX8_exceedance 4 = .ok (.iload_n 1, 1) := by decide +kernel
theorem dX8_exceedance_5 : decode cX8_exceedance 5 = .ok (.aload_n 0, 1) := by decide +kernel
theorem dX8_exceedance_6 : decode cX8_exceedance 6 = .ok (.getfield 33, 3) := by decide +kernel
theorem dX8_exceedance_9 : decode cX8_exceedance 9 = .ok (.getfield 112, 3) := by decide +kernel
theorem dX8_exceedance_12 : decode cX8_exceedance 12 = .ok (.getfield 116, 3) := by decide +kernel
theorem dX8_exceedance_15 : decode cX8_exceedance 15 = .ok (.if_icmp .lt 13, 3) := by decide +kernel
theorem dX8_exceedance_18 : decode cX8_exceedance 18 = .ok (.new 51, 3) := by decide +kernel
theorem dX8_exceedance_21 : decode cX8_exceedance 21 = .ok (.dup, 1) := by decide +kernel
theorem dX8_exceedance_22 : decode cX8_exceedance 22 = .ok (.ldc 199, 2) := by decide +kernel
theorem dX8_exceedance_24 : decode cX8_exceedance 24 = .ok (.invokespecial 55, 3) := by decide +kernel
theorem dX8_exceedance_27 : decode cX8_exceedance 27 = .ok (.athrow, 1) := by decide +kernel
theorem dX8_exceedance_28 : decode cX8_exceedance 28 = .ok (.iload_n 2, 1) := by decide +kernel
theorem dX8_exceedance_29 : decode cX8_exceedance 29 = .ok (.ifCond .lt 8, 3) := by decide +kernel
theorem dX8_exceedance_32 : decode cX8_exceedance 32 = .ok (.iload_n 2, 1) := by decide +kernel
theorem dX8_exceedance_33 : decode cX8_exceedance 33 = .ok (.iconst 5, 1) := by decide +kernel
theorem dX8_exceedance_34 : decode cX8_exceedance 34 = .ok (.if_icmp .le 13, 3) := by decide +kernel
theorem dX8_exceedance_37 : decode cX8_exceedance 37 = .ok (.new 62, 3) := by decide +kernel
theorem dX8_exceedance_40 : decode cX8_exceedance 40 = .ok (.dup, 1) := by decide +kernel
theorem dX8_exceedance_41 : decode cX8_exceedance 41 = .ok (.ldc 193, 2) := by decide +kernel
theorem dX8_exceedance_43 : decode cX8_exceedance 43 = .ok (.invokespecial 66, 3) := by decide +kernel
theorem dX8_exceedance_46 : decode cX8_exceedance 46 = .ok (.athrow, 1) := by decide +kernel
theorem dX8_exceedance_47 : decode cX8_exceedance 47 = .ok (.aload_n 0, 1) := by decide +kernel
theorem dX8_exceedance_48 : decode cX8_exceedance 48 = .ok (.iload_n 1, 1) := by decide +kernel
theorem dX8_exceedance_49 : decode cX8_exceedance 49 = .ok (.iload_n 2, 1) := by decide +kernel
theorem dX8_exceedance_50 : decode cX8_exceedance 50 = .ok (.invokevirtual 201, 3) := by decide +kernel
theorem dX8_exceedance_53 : decode cX8_exceedance 53 = .ok (.ireturn, 1) := by decide +kernel
set_option maxHeartbeats 4000000 in
set_option maxRecDepth 100000 in
theorem w_X8_exceedance_j18 {w : WT} {l : Launch} {p : Program} {e : Env} {s : State} {m : MethodId} {args : Array Value} {below : List Frame} {meth : Method} {c : Code} (C : KC w p s m args meth c cX8_exceedance 3 RX8 (some .int)) (T : KT w l s c) {M : Mem} {L : Lng} {out : Nat ⊕ (Int32)} (hf : f_X8_exceedance_j18 M = some out) : AtL w p l e ({ frames := 6, cells := 1, slots := 6, locals := 90 } : Room) s m args below meth c (vx_MQ below (QX w (xo out M) L) (XX w (xo out M) L) args s 1 6 (wA w)) 3 18 M L [] [] := by
  intro H locs ls hP hS hl
  unfold f_X8_exceedance_j18 at hf
  cases hf
  exact k_thr C T hP hS hl.1 0 (by decide) q472 q14 (List.mem_of_getElem? (i := 15) rfl) dX8_exceedance_18 dX8_exceedance_21 dX8_exceedance_22 dX8_exceedance_24 dX8_exceedance_27 (Nat.le_of_ble_eq_true rfl) (Nat.le_of_ble_eq_true rfl) (Nat.le_refl _) (Nat.le_refl _)
set_option maxHeartbeats 4000000 in
set_option maxRecDepth 100000 in
theorem w_X8_exceedance_j37 {w : WT} {l : Launch} {p : Program} {e : Env} {s : State} {m : MethodId} {args : Array Value} {below : List Frame} {meth : Method} {c : Code} (C : KC w p s m args meth c cX8_exceedance 3 RX8 (some .int)) (T : KT w l s c) {M : Mem} {L : Lng} {out : Nat ⊕ (Int32)} (hf : f_X8_exceedance_j37 M = some out) : AtL w p l e ({ frames := 6, cells := 1, slots := 6, locals := 90 } : Room) s m args below meth c (vx_MQ below (QX w (xo out M) L) (XX w (xo out M) L) args s 1 6 (wA w)) 3 37 M L [] [] := by
  intro H locs ls hP hS hl
  unfold f_X8_exceedance_j37 at hf
  cases hf
  exact k_thr C T hP hS hl.1 1 (by decide) q547 q15 (List.mem_of_getElem? (i := 14) rfl) dX8_exceedance_37 dX8_exceedance_40 dX8_exceedance_41 dX8_exceedance_43 dX8_exceedance_46 (Nat.le_of_ble_eq_true rfl) (Nat.le_of_ble_eq_true rfl) (Nat.le_refl _) (Nat.le_refl _)
set_option maxHeartbeats 4000000 in
set_option maxRecDepth 100000 in
theorem c_X8_exceedance (w : WT) (l : Launch) (hw : WOK w) (hfl : l.stackTraces = false) {a1 : Int32} {a2 : Int32} {M : Mem} {L : Lng} {out : Nat ⊕ (Int32)} (hf : f_X8_exceedance a1 a2 M = some out) : vx_Met l yX8_exceedance (Cond.code yX8_exceedance cX8_exceedance 3 (some .int) :: BG) ({ frames := 6, cells := 1, slots := 6, locals := 90 } : Room) (PREX w [.ref (wAd w 0), .int a1, .int a2] M L) (QX w (xo out M) L) (XX w (xo out M) L) 1 6 (wA w) := by
  refine kEntX hw hfl (by decide +kernel) rfl (Nat.le_of_ble_eq_true rfl) ?_
  intro p e s m args below meth c C T ls hl hP
  have hS : va_S (wA w) s.heap s.heap [] := va_S.rf
  have hl : lv_has ls 3 [(0, .ref (wAd w 0)), (1, .int a1), (2, .int a2)] := hl
  unfold f_X8_exceedance at hf
  refine lv_iload_n C.1 C.2.1 dX8_exceedance_0 rfl (lv_at hl 1 rfl) ?_
  refine lv_if_lt (tgt := 18) C.1 C.2.1 dX8_exceedance_1 (by decide) (fun c1 => ?_) (fun c1 => ?_)
  · have hf := (if_pos c1).symm.trans hf
    exact w_X8_exceedance_j18 C T hf _ _ _ hP hS (lv_sub hl [] rfl)
  · have hf := (if_neg c1).symm.trans hf
    refine lv_iload_n C.1 C.2.1 dX8_exceedance_4 rfl (lv_at hl 1 rfl) ?_
    refine lv_aload_n C.1 C.2.1 dX8_exceedance_5 rfl (lv_at hl 0 rfl) ?_
    refine k_get (v := .ref (wAd w 54)) C hP (lt_NoisePost h0_NoisePost) (ob_NoisePost h0_NoisePost w L _) rfl iX8 3 (by decide) q287 rfl dX8_exceedance_6 ?_
    refine k_get (v := .ref (wAd w 60)) C hP (lt_View to_NoisePost_now) (ob_View to_NoisePost_now w L _) rfl iX7 2 (by decide) q261 rfl dX8_exceedance_9 ?_
    refine k_get (v := .int (M 60 6)) C hP (lt_Exceedances (to_View_exceedances to_NoisePost_now)) (ob_Exceedances (to_View_exceedances to_NoisePost_now) w L _) rfl iX0 6 (by decide) q209 rfl dX8_exceedance_12 ?_
    refine lv_icmp_lt (tgt := 28) C.1 C.2.1 dX8_exceedance_15 (by decide) (fun c2 => ?_) (fun c2 => ?_)
    · have hf := (if_pos c2).symm.trans hf
      refine lv_iload_n C.1 C.2.1 dX8_exceedance_28 rfl (lv_at hl 2 rfl) ?_
      refine lv_if_lt (tgt := 37) C.1 C.2.1 dX8_exceedance_29 (by decide) (fun c3 => ?_) (fun c3 => ?_)
      · have hf := (if_pos c3).symm.trans hf
        exact w_X8_exceedance_j37 C T hf _ _ _ hP hS (lv_sub hl [] rfl)
      · have hf := (if_neg c3).symm.trans hf
        refine lv_iload_n C.1 C.2.1 dX8_exceedance_32 rfl (lv_at hl 2 rfl) ?_
        refine lv_iconst (v := 5) C.1 C.2.1 dX8_exceedance_33 (by decide) ?_
        refine lv_icmp_le (tgt := 47) C.1 C.2.1 dX8_exceedance_34 (by decide) (fun c4 => ?_) (fun c4 => ?_)
        · have hf := (if_pos c4).symm.trans hf
          refine lv_aload_n C.1 C.2.1 dX8_exceedance_47 rfl (lv_at hl 0 rfl) ?_
          refine lv_iload_n C.1 C.2.1 dX8_exceedance_48 rfl (lv_at hl 1 rfl) ?_
          refine lv_iload_n C.1 C.2.1 dX8_exceedance_49 rfl (lv_at hl 2 rfl) ?_
          obtain ⟨r5, hr5, hf⟩ := ob hf
          refine kci (kV (As := [.int a1, .int a2]) (rest := []) C hl.1 hP hS (c_X8_exceedanceProperty w l C.2.2.2.2.2.2.2.2 (L := L) hr5) (gV q397 q399 qp10 q1 q400) hd_X8_exceedanceProperty (lt_NoisePost h0_NoisePost) (ob_NoisePost h0_NoisePost w L _) rfl ⟨rfl, rfl⟩ ⟨Nat.le_of_ble_eq_true rfl, Nat.le_of_ble_eq_true rfl⟩ rfl rfl (Nat.le_of_ble_eq_true rfl) dX8_exceedance_50 ⟨Nat.zero_le _, Nat.zero_le _⟩) hS (fun H locs hP hS => ?_)
          cases hf
          exact krix C hP hS dX8_exceedance_53
        · have hf := (if_neg c4).symm.trans hf
          exact w_X8_exceedance_j37 C T hf _ _ _ hP hS (lv_sub hl [] rfl)
    · have hf := (if_neg c2).symm.trans hf
      exact w_X8_exceedance_j18 C T hf _ _ _ hP hS (lv_sub hl [] rfl)
