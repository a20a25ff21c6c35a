set_option maxHeartbeats 4000000 in
set_option maxRecDepth 100000 in
theorem c_X8_minute (w : WT) (l : Launch) (hw : WOK w) {a1 : Int32} {a2 : Int32} {M : Mem} {L : Lng} {out : Int32} (hf : f_X8_minute a1 a2 M = some out) : Met l yX8_minute (Cond.code yX8_minute cX8_minute 3 (some .int) :: BG) ({ frames := 4, cells := 0, slots := 0, locals := 86 } : Room) (PRE w [.ref (wAd w 0), .int a1, .int a2] M L) (QI w out M L) 0 0 (wA w) := by
  refine kEnt hw (by decide +kernel) rfl (Nat.le_of_ble_eq_true rfl) ?_
  intro p e s m args below meth c C ls hl hP
  have hS : va_S (wA w) s.heap s.heap [] := va_S.rf
  have hl : lv_has ls 3 [(0, .ref (wAd w 0)), (1, .int a1), (2, .int a2)] := hl
  unfold f_X8_minute at hf
  refine lv_aload_n C.1 C.2.1 dX8_minute_0 rfl (lv_at hl 0 rfl) ?_
  refine k_get (v := .ref (wAd w 1)) C hP (C9 C (lt_NoisePost h0_NoisePost)) (ob_NoisePost h0_NoisePost w L _) rfl iX8 0 (by decide) q273 rfl dX8_minute_1 ?_
  refine lv_iload_n C.1 C.2.1 dX8_minute_4 rfl (lv_at hl 1 rfl) ?_
  obtain ⟨r1, hr1, hf⟩ := ob hf
  refine kci (kV (As := [.int a1]) (rest := []) C hl.1 hP hS (c_X5_hasMinute w l C.2.2.2.2.2.2.2.2 to_NoisePost_state (L := L) hr1) (gV q409 q410 q411 q2 q412) hd_X5_hasMinute (C9 C (lt_State to_NoisePost_state)) (ob_State to_NoisePost_state w L _) rfl ⟨rfl, rfl⟩ ⟨Nat.le_of_ble_eq_true rfl, Nat.le_of_ble_eq_true rfl⟩ rfl rfl (Nat.le_of_ble_eq_true rfl) dX8_minute_5 ⟨Nat.zero_le _, Nat.zero_le _⟩) hS (fun H locs hP hS => ?_)
  refine lv_if_ne (tgt := 21) C.1 C.2.1 dX8_minute_8 (by decide) (fun c2 => ?_) (fun c2 => ?_)
  · have hf := (if_neg c2).symm.trans hf
    refine lv_iload_n C.1 C.2.1 dX8_minute_21 rfl (lv_at hl 2 rfl) ?_
    refine lv_if_lt (tgt := 31) C.1 C.2.1 dX8_minute_22 (by decide) (fun c3 => ?_) (fun c3 => ?_)
    · have hf := (if_pos c3).symm.trans hf
      exact w_X8_minute_j31 C hf _ _ _ hP hS (lv_sub hl [] rfl)
    · have hf := (if_neg c3).symm.trans hf
      refine lv_iload_n C.1 C.2.1 dX8_minute_25 rfl (lv_at hl 2 rfl) ?_
      refine lv_bipush (v := 7) C.1 C.2.1 dX8_minute_26 (by decide) ?_
      refine lv_icmp_le (tgt := 41) C.1 C.2.1 dX8_minute_28 (by decide) (fun c4 => ?_) (fun c4 => ?_)
      · have hf := (if_pos c4).symm.trans hf
        refine lv_aload_n C.1 C.2.1 dX8_minute_41 rfl (lv_at hl 0 rfl) ?_
        refine lv_iload_n C.1 C.2.1 dX8_minute_42 rfl (lv_at hl 1 rfl) ?_
        refine lv_iload_n C.1 C.2.1 dX8_minute_43 rfl (lv_at hl 2 rfl) ?_
        obtain ⟨r5, hr5, hf⟩ := ob hf
        refine kci (kV (As := [.int a1, .int a2]) (rest := []) C hl.1 hP hS (c_X8_minuteProperty w l C.2.2.2.2.2.2.2.2 (L := L) hr5) (gV q429 q431 qp2 q1 q432) hd_X8_minuteProperty (C9 C (lt_NoisePost h0_NoisePost)) (ob_NoisePost h0_NoisePost w L _) rfl ⟨rfl, rfl⟩ ⟨Nat.le_of_ble_eq_true rfl, Nat.le_of_ble_eq_true rfl⟩ rfl rfl (Nat.le_of_ble_eq_true rfl) dX8_minute_44 ⟨Nat.zero_le _, Nat.zero_le _⟩) hS (fun H locs hP hS => ?_)
        cases hf
        exact kri C hP hS dX8_minute_47
      · have hf := (if_neg c4).symm.trans hf
        exact w_X8_minute_j31 C hf _ _ _ hP hS (lv_sub hl [] rfl)
  · have hf := (if_pos c2).symm.trans hf
    cases hf
theorem dX8_exceedanceProperty_0 : decode cX8_exceedanceProperty 0 = .ok (.iload_n 2, 1) := by decide +kernel
theorem dX8_exceedanceProperty_1 : decode cX8_exceedanceProperty 1 = .ok (.tableswitch 100 0 4 #[35, 48, 61, 74, 87], 35) := by decide +kernel
theorem dX8_exceedanceProperty_36 : decode cX8_exceedanceProperty 36 = .ok (.aload_n 0, 1) := by decide +kernel
theorem dX8_exceedanceProperty_37 : decode cX8_exceedanceProperty 37 = .ok (.getfield 33, 3) := by decide +kernel
theorem dX8_exceedanceProperty_40 : decode cX8_exceedanceProperty 40 = .ok (.getfield 112, 3) := by decide +kernel
theorem dX8_exceedanceProperty_43 : decode cX8_exceedanceProperty 43 = .ok (.getfield 308, 3) := by decide +kernel
theorem dX8_exceedanceProperty_46 : decode cX8_exceedanceProperty 46 = .ok (.iload_n 1, 1) := by decide +kernel
theorem dX8_exceedanceProperty_47 : decode cX8_exceedanceProperty 47 = .ok (.iaload, 1) := by decide +kernel
theorem dX8_exceedanceProperty_48 : decode cX8_exceedanceProperty 48 = .ok (.ireturn, 1) := by decide +kernel
theorem dX8_exceedanceProperty_49 : decode cX8_exceedanceProperty 49 = .ok (.aload_n 0, 1) := by decide +kernel
theorem dX8_exceedanceProperty_50 : decode cX8_exceedanceProperty 50 = .ok (.getfield 33, 3) := by decide +kernel
theorem dX8_exceedanceProperty_53 : decode cX8_exceedanceProperty 53 = .ok (.getfield 112, 3) := by decide +kernel
theorem dX8_exceedanceProperty_56 : decode cX8_exceedanceProperty 56 = .ok (.getfield 311, 3) := by decide +kernel
theorem dX8_exceedanceProperty_59 : decode cX8_exceedanceProperty 59 = .ok (.iload_n 1, 1) := by decide +kernel
theorem dX8_exceedanceProperty_60 : decode cX8_exceedanceProperty 60 = .ok (.iaload, 1) := by decide +kernel
theorem dX8_exceedanceProperty_61 : decode cX8_exceedanceProperty 61 = .ok (.ireturn, 1) := by decide +kernel
theorem dX8_exceedanceProperty_62 : decode cX8_exceedanceProperty 62 = .ok (.aload_n 0, 1) := by decide +kernel
theorem dX8_exceedanceProperty_63 : decode cX8_exceedanceProperty 63 = .ok (.getfield 33, 3) := by decide +kernel
theorem dX8_exceedanceProperty_66 : decode cX8_exceedanceProperty 66 = .ok (.getfield 112, 3) := by decide +kernel
theorem dX8_exceedanceProperty_69 : decode cX8_exceedanceProperty 69 = .ok (.getfield 314, 3) := by decide +kernel
theorem dX8_exceedanceProperty_72 : decode cX8_exceedanceProperty 72 = .ok (.iload_n 1, 1) := by decide +kernel
theorem dX8_exceedanceProperty_73 : decode cX8_exceedanceProperty 73 = .ok (.iaload, 1) := by decide +kernel
theorem dX8_exceedanceProperty_74 : decode cX8_exceedanceProperty 74 = .ok (.ireturn, 1) := by decide +kernel
theorem dX8_exceedanceProperty_75 : decode cX8_exceedanceProperty 75 = .ok (.aload_n 0, 1) := by decide +kernel
theorem dX8_exceedanceProperty_76 : decode cX8_exceedanceProperty 76 = .ok (.getfield 33, 3) := by decide +kernel
theorem dX8_exceedanceProperty_79 : decode cX8_exceedanceProperty 79 = .ok (.getfield 112, 3) := by decide +kernel
theorem dX8_exceedanceProperty_82 : decode cX8_exceedanceProperty 82 = .ok (.getfield 317, 3) := by decide +kernel
theorem dX8_exceedanceProperty_85 : decode cX8_exceedanceProperty 85 = .ok (.iload_n 1, 1) := by decide +kernel
theorem dX8_exceedanceProperty_86 : decode cX8_exceedanceProperty 86 = .ok (.iaload, 1) := by decide +kernel
theorem dX8_exceedanceProperty_87 : decode cX8_exceedanceProperty 87 = .ok (.ireturn, 1) := by decide +kernel
theorem dX8_exceedanceProperty_88 : decode cX8_exceedanceProperty 88 = .ok (.aload_n 0, 1) := by decide +kernel
theorem dX8_exceedanceProperty_89 : decode cX8_exceedanceProperty 89 = .ok (.getfield 33, 3) := by decide +kernel
theorem dX8_exceedanceProperty_92 : decode cX8_exceedanceProperty 92 = .ok (.getfield 112, 3) := by decide +kernel
theorem dX8_exceedanceProperty_95 : decode cX8_exceedanceProperty 95 = .ok (.getfield 320, 3) := by decide +kernel
theorem dX8_exceedanceProperty_98 : decode cX8_exceedanceProperty 98 = .ok (.iload_n 1, 1) := by decide +kernel
theorem dX8_exceedanceProperty_99 : decode cX8_exceedanceProperty 99 = .ok (.iaload, 1) := by decide +kernel
theorem dX8_exceedanceProperty_100 : decode cX8_exceedanceProperty 100 = .ok (.ireturn, 1) := by decide +kernel
theorem dX8_exceedanceProperty_101 : decode cX8_exceedanceProperty 101 = .ok (.aload_n 0, 1) := by decide +kernel
theorem dX8_exceedanceProperty_102 : decode cX8_exceedanceProperty 102 = .ok (.getfield 33, 3) := by decide +kernel
theorem dX8_exceedanceProperty_105 : decode cX8_exceedanceProperty 105 = .ok (.getfield 142, 3) := by decide +kernel
theorem dX8_exceedanceProperty_108 : decode cX8_exceedanceProperty 108 = .ok (.getfield 323, 3) := by decide +kernel
theorem dX8_exceedanceProperty_111 : decode cX8_exceedanceProperty 111 = .ok (.iload_n 1, 1) := by decide +kernel
theorem dX8_exceedanceProperty_112 : decode cX8_exceedanceProperty 112 = .ok (.iaload, 1) := by decide +kernel
theorem dX8_exceedanceProperty_113 : decode cX8_exceedanceProperty 113 = .ok (.ireturn, 1) := by decide +kernel
set_option maxHeartbeats 4000000 in
set_option maxRecDepth 100000 in
theorem c_X8_exceedanceProperty (w : WT) (l : Launch) (hw : WOK w) {a1 : Int32} {a2 : Int32} {M : Mem} {L : Lng} {out : Int32} (hf : f_X8_exceedanceProperty a1 a2 M = some out) : Met l yX8_exceedanceProperty (Cond.code yX8_exceedanceProperty cX8_exceedanceProperty 3 (some .int) :: BG) ({ frames := 0, cells := 0, slots := 0, locals := 0 } : Room) (PRE w [.ref (wAd w 0), .int a1, .int a2] M L) (QI w out M L) 0 0 (wA w) := by
  refine kEnt hw (by decide +kernel) rfl (Nat.le_of_ble_eq_true rfl) ?_
  intro p e s m args below meth c C ls hl hP
  have hS : va_S (wA w) s.heap s.heap [] := va_S.rf
  have hl : lv_has ls 3 [(0, .ref (wAd w 0)), (1, .int a1), (2, .int a2)] := hl
  unfold f_X8_exceedanceProperty at hf
  refine lv_iload_n C.1 C.2.1 dX8_exceedanceProperty_0 rfl (lv_at hl 2 rfl) ?_
  by_cases c1 : a2 = 0
  · have hf := (if_pos c1).symm.trans hf
    refine lv_tableIn (off := 35) (tgt := 36) C.1 C.2.1 dX8_exceedanceProperty_1 (by rw [c1]; decide) (by rw [c1]; decide) (by rw [c1]; rfl) (by decide) ?_
    refine lv_aload_n C.1 C.2.1 dX8_exceedanceProperty_36 rfl (lv_at hl 0 rfl) ?_
    refine k_get (v := .ref (wAd w 54)) C hP (C9 C (lt_NoisePost h0_NoisePost)) (ob_NoisePost h0_NoisePost w L _) rfl iX8 3 (by decide) q276 rfl dX8_exceedanceProperty_37 ?_
    refine k_get (v := .ref (wAd w 60)) C hP (C9 C (lt_View to_NoisePost_now)) (ob_View to_NoisePost_now w L _) rfl iX7 2 (by decide) q250 rfl dX8_exceedanceProperty_40 ?_
    refine k_get (v := .ref (wAd w 61)) C hP (C9 C (lt_Exceedances (to_View_exceedances to_NoisePost_now))) (ob_Exceedances (to_View_exceedances to_NoisePost_now) w L _) rfl iX0 0 (by decide) q183 rfl dX8_exceedanceProperty_43 ?_
    refine lv_iload_n C.1 C.2.1 dX8_exceedanceProperty_46 rfl (lv_at hl 1 rfl) ?_
    obtain ⟨x2, hx2, hf⟩ := ob hf
    refine k_iald C hP (C9 C (la_Exceedances_begins (to_View_exceedances to_NoisePost_now))) (ar_Exceedances_begins (to_View_exceedances to_NoisePost_now) w L _) hx2 dX8_exceedanceProperty_47 ?_
    cases hf
    exact kri C hP hS dX8_exceedanceProperty_48
  · have hf := (if_neg c1).symm.trans hf
    by_cases c3 : a2 = 1
    · have hf := (if_pos c3).symm.trans hf
      refine lv_tableIn (off := 48) (tgt := 49) C.1 C.2.1 dX8_exceedanceProperty_1 (by rw [c3]; decide) (by rw [c3]; decide) (by rw [c3]; rfl) (by decide) ?_
      refine lv_aload_n C.1 C.2.1 dX8_exceedanceProperty_49 rfl (lv_at hl 0 rfl) ?_
      refine k_get (v := .ref (wAd w 54)) C hP (C9 C (lt_NoisePost h0_NoisePost)) (ob_NoisePost h0_NoisePost w L _) rfl iX8 3 (by decide) q276 rfl dX8_exceedanceProperty_50 ?_
      refine k_get (v := .ref (wAd w 60)) C hP (C9 C (lt_View to_NoisePost_now)) (ob_View to_NoisePost_now w L _) rfl iX7 2 (by decide) q250 rfl dX8_exceedanceProperty_53 ?_
      refine k_get (v := .ref (wAd w 62)) C hP (C9 C (lt_Exceedances (to_View_exceedances to_NoisePost_now))) (ob_Exceedances (to_View_exceedances to_NoisePost_now) w L _) rfl iX0 1 (by decide) q186 rfl dX8_exceedanceProperty_56 ?_
      refine lv_iload_n C.1 C.2.1 dX8_exceedanceProperty_59 rfl (lv_at hl 1 rfl) ?_
      obtain ⟨x4, hx4, hf⟩ := ob hf
      refine k_iald C hP (C9 C (la_Exceedances_ends (to_View_exceedances to_NoisePost_now))) (ar_Exceedances_ends (to_View_exceedances to_NoisePost_now) w L _) hx4 dX8_exceedanceProperty_60 ?_
      cases hf
      exact kri C hP hS dX8_exceedanceProperty_61
    · have hf := (if_neg c3).symm.trans hf
      by_cases c5 : a2 = 2
      · have hf := (if_pos c5).symm.trans hf
        refine lv_tableIn (off := 61) (tgt := 62) C.1 C.2.1 dX8_exceedanceProperty_1 (by rw [c5]; decide) (by rw [c5]; decide) (by rw [c5]; rfl) (by decide) ?_
        refine lv_aload_n C.1 C.2.1 dX8_exceedanceProperty_62 rfl (lv_at hl 0 rfl) ?_
        refine k_get (v := .ref (wAd w 54)) C hP (C9 C (lt_NoisePost h0_NoisePost)) (ob_NoisePost h0_NoisePost w L _) rfl iX8 3 (by decide) q276 rfl dX8_exceedanceProperty_63 ?_
        refine k_get (v := .ref (wAd w 60)) C hP (C9 C (lt_View to_NoisePost_now)) (ob_View to_NoisePost_now w L _) rfl iX7 2 (by decide) q250 rfl dX8_exceedanceProperty_66 ?_
        refine k_get (v := .ref (wAd w 63)) C hP (C9 C (lt_Exceedances (to_View_exceedances to_NoisePost_now))) (ob_Exceedances (to_View_exceedances to_NoisePost_now) w L _) rfl iX0 2 (by decide) q188 rfl dX8_exceedanceProperty_69 ?_
        refine lv_iload_n C.1 C.2.1 dX8_exceedanceProperty_72 rfl (lv_at hl 1 rfl) ?_
        obtain ⟨x6, hx6, hf⟩ := ob hf
        refine k_iald C hP (C9 C (la_Exceedances_aboves (to_View_exceedances to_NoisePost_now))) (ar_Exceedances_aboves (to_View_exceedances to_NoisePost_now) w L _) hx6 dX8_exceedanceProperty_73 ?_
        cases hf
        exact kri C hP hS dX8_exceedanceProperty_74
      · have hf := (if_neg c5).symm.trans hf
        by_cases c7 : a2 = 3
        · have hf := (if_pos c7).symm.trans hf
          refine lv_tableIn (off := 74) (tgt := 75) C.1 C.2.1 dX8_exceedanceProperty_1 (by rw [c7]; decide) (by rw [c7]; decide) (by rw [c7]; rfl) (by decide) ?_
          refine lv_aload_n C.1 C.2.1 dX8_exceedanceProperty_75 rfl (lv_at hl 0 rfl) ?_
          refine k_get (v := .ref (wAd w 54)) C hP (C9 C (lt_NoisePost h0_NoisePost)) (ob_NoisePost h0_NoisePost w L _) rfl iX8 3 (by decide) q276 rfl dX8_exceedanceProperty_76 ?_
          refine k_get (v := .ref (wAd w 60)) C hP (C9 C (lt_View to_NoisePost_now)) (ob_View to_NoisePost_now w L _) rfl iX7 2 (by decide) q250 rfl dX8_exceedanceProperty_79 ?_
          refine k_get (v := .ref (wAd w 64)) C hP (C9 C (lt_Exceedances (to_View_exceedances to_NoisePost_now))) (ob_Exceedances (to_View_exceedances to_NoisePost_now) w L _) rfl iX0 3 (by decide) q191 rfl dX8_exceedanceProperty_82 ?_
          refine lv_iload_n C.1 C.2.1 dX8_exceedanceProperty_85 rfl (lv_at hl 1 rfl) ?_
          obtain ⟨x8, hx8, hf⟩ := ob hf
          refine k_iald C hP (C9 C (la_Exceedances_peaks (to_View_exceedances to_NoisePost_now))) (ar_Exceedances_peaks (to_View_exceedances to_NoisePost_now) w L _) hx8 dX8_exceedanceProperty_86 ?_
          cases hf
          exact kri C hP hS dX8_exceedanceProperty_87
        · have hf := (if_neg c7).symm.trans hf
          by_cases c9 : a2 = 4
          · have hf := (if_pos c9).symm.trans hf
            refine lv_tableIn (off := 87) (tgt := 88) C.1 C.2.1 dX8_exceedanceProperty_1 (by rw [c9]; decide) (by rw [c9]; decide) (by rw [c9]; rfl) (by decide) ?_
            refine lv_aload_n C.1 C.2.1 dX8_exceedanceProperty_88 rfl (lv_at hl 0 rfl) ?_
            refine k_get (v := .ref (wAd w 54)) C hP (C9 C (lt_NoisePost h0_NoisePost)) (ob_NoisePost h0_NoisePost w L _) rfl iX8 3 (by decide) q276 rfl dX8_exceedanceProperty_89 ?_
            refine k_get (v := .ref (wAd w 60)) C hP (C9 C (lt_View to_NoisePost_now)) (ob_View to_NoisePost_now w L _) rfl iX7 2 (by decide) q250 rfl dX8_exceedanceProperty_92 ?_
            refine k_get (v := .ref (wAd w 65)) C hP (C9 C (lt_Exceedances (to_View_exceedances to_NoisePost_now))) (ob_Exceedances (to_View_exceedances to_NoisePost_now) w L _) rfl iX0 4 (by decide) q193 rfl dX8_exceedanceProperty_95 ?_
            refine lv_iload_n C.1 C.2.1 dX8_exceedanceProperty_98 rfl (lv_at hl 1 rfl) ?_
            obtain ⟨x10, hx10, hf⟩ := ob hf
            refine k_iald C hP (C9 C (la_Exceedances_weights (to_View_exceedances to_NoisePost_now))) (ar_Exceedances_weights (to_View_exceedances to_NoisePost_now) w L _) hx10 dX8_exceedanceProperty_99 ?_
            cases hf
            exact kri C hP hS dX8_exceedanceProperty_100
          · have hf := (if_neg c9).symm.trans hf
            refine lv_tableOut (tgt := 101) C.1 C.2.1 dX8_exceedanceProperty_1 (by have e0 := ne_ti (n := 0) c1 (by decide); have e1 := ne_ti (n := 1) c3 (by decide); have e2 := ne_ti (n := 2) c5 (by decide); have e3 := ne_ti (n := 3) c7 (by decide); have e4 := ne_ti (n := 4) c9 (by decide); omega) (by decide) ?_
            refine lv_aload_n C.1 C.2.1 dX8_exceedanceProperty_101 rfl (lv_at hl 0 rfl) ?_
            refine k_get (v := .ref (wAd w 54)) C hP (C9 C (lt_NoisePost h0_NoisePost)) (ob_NoisePost h0_NoisePost w L _) rfl iX8 3 (by decide) q276 rfl dX8_exceedanceProperty_102 ?_
            refine k_get (v := .ref (wAd w 67)) C hP (C9 C (lt_View to_NoisePost_now)) (ob_View to_NoisePost_now w L _) rfl iX7 3 (by decide) q252 rfl dX8_exceedanceProperty_105 ?_
            refine k_get (v := .ref (wAd w 69)) C hP (C9 C (lt_Matches (to_View_matches to_NoisePost_now))) (ob_Matches (to_View_matches to_NoisePost_now) w L _) rfl iX3 1 (by decide) q228 rfl dX8_exceedanceProperty_108 ?_
            refine lv_iload_n C.1 C.2.1 dX8_exceedanceProperty_111 rfl (lv_at hl 1 rfl) ?_
            obtain ⟨x11, hx11, hf⟩ := ob hf
            refine k_iald C hP (C9 C (la_Matches_complaintOf (to_View_matches to_NoisePost_now))) (ar_Matches_complaintOf (to_View_matches to_NoisePost_now) w L _) hx11 dX8_exceedanceProperty_112 ?_
            cases hf
            exact kri C hP hS dX8_exceedanceProperty_113
theorem dX8_exceedance_0 : decode cX8_exceedance 0 = .ok (.iload_n 1, 1) := by decide +kernel
theorem dX8_exceedance_1 : decode cX8_exceedance 1 = .ok (.ifCond .lt 17, 3) := by decide +kernel
theorem dX8_exceedance_4 : decode cX8_exceedance 4 = .ok (.iload_n 1, 1) := by decide +kernel
theorem dX8_exceedance_5 : decode cX8_exceedance 5 = .ok (.aload_n 0, 1) := by decide +kernel
theorem dX8_exceedance_6 : decode cX8_exceedance 6 = .ok (.getfield 33, 3) := by decide +kernel
theorem dX8_exceedance_9 : decode cX8_exceedance 9 = .ok (.getfield 112, 3) := by decide +kernel
theorem dX8_exceedance_12 : decode cX8_exceedance 12 = .ok (.getfield 116, 3) := by decide +kernel
theorem dX8_exceedance_15 : decode cX8_exceedance 15 = .ok (.if_icmp .lt 13, 3) := by decide +kernel
theorem dX8_exceedance_18 : decode cX8_exceedance 18 = .ok (.new 51, 3) := by decide +kernel
theorem dX8_exceedance_21 : decode cX8_exceedance 21 = .ok (.dup, 1) := by decide +kernel
theorem dX8_exceedance_22 : decode cX8_exceedance 22 = .ok (.ldc 199, 2) := by decide +kernel
theorem dX8_exceedance_24 : decode cX8_exceedance 24 = .ok (.invokespecial 55, 3) := by decide +kernel
theorem dX8_exceedance_27 : decode cX8_exceedance 27 = .ok (.athrow, 1) := by decide +kernel
theorem dX8_exceedance_28 : decode cX8_exceedance 28 = .ok (.iload_n 2, 1) := by decide +kernel
theorem dX8_exceedance_29 : decode cX8_exceedance 29 = .ok (.ifCond .lt 8, 3) := by decide +kernel
theorem dX8_exceedance_32 : decode cX8_exceedance 32 = .ok (.iload_n 2, 1) := by decide +kernel
theorem dX8_exceedance_33 : decode cX8_exceedance 33 = .ok (.iconst 5, 1) := by decide +kernel
theorem dX8_exceedance_34 : decode cX8_exceedance 34 = .ok (.if_icmp .le 13, 3) := by decide +kernel
theorem dX8_exceedance_37 : decode cX8_exceedance 37 = .ok (.new 62, 3) := by decide +kernel
theorem dX8_exceedance_40 : decode cX8_exceedance 40 = .ok (.dup, 1) := by decide +kernel
theorem dX8_exceedance_41 : decode cX8_exceedance 41 = .ok (.ldc 193, 2) := by decide +kernel
theorem dX8_exceedance_43 : decode cX8_exceedance 43 = .ok (.invokespecial 66, 3) := by decide +kernel
theorem dX8_exceedance_46 : decode cX8_exceedance 46 = .ok (.athrow, 1) := by decide +kernel
theorem dX8_exceedance_47 : decode cX8_exceedance 47 = .ok (.aload_n 0, 1) := by decide +kernel
theorem dX8_exceedance_48 : decode cX8_exceedance 48 = .ok (.iload_n 1, 1) := by decide +kernel
theorem dX8_exceedance_49 : decode cX8_exceedance 49 = .ok (.iload_n 2, 1) := by decide +kernel
theorem dX8_exceedance_50 : decode cX8_exceedance 50 = .ok (.invokevirtual 201, 3) := by decide +kernel
theorem dX8_exceedance_53 : decode cX8_exceedance 53 = .ok (.ireturn, 1) := by decide +kernel
set_option maxHeartbeats 4000000 in
set_option maxRecDepth 100000 in
theorem w_X8_exceedance_j18 {w : WT} {l : Launch} {p : Program} {e : Env} {s : State} {m : MethodId} {args : Array Value} {below : List Frame} {meth : Method} {c : Code} (C : KC w p s m args meth c cX8_exceedance 3 RX8 (some .int)) {M : Mem} {L : Lng} {out : Int32} (hf : f_X8_exceedance_j18 M = some out) : AtL w p l e ({ frames := 1, cells := 0, slots := 0, locals := 22 } : Room) s m args below meth c (MQ below (QI w out M L) args s 0 0 (wA w)) 3 18 M L [] [] := by
  intro H locs ls hP hS hl
  unfold f_X8_exceedance_j18 at hf
  cases hf
set_option maxHeartbeats 4000000 in
set_option maxRecDepth 100000 in
theorem w_X8_exceedance_j37 {w : WT} {l : Launch} {p : Program} {e : Env} {s : State} {m : MethodId} {args : Array Value} {below : List Frame} {meth : Method} {c : Code} (C : KC w p s m args meth c cX8_exceedance 3 RX8 (some .int)) {M : Mem} {L : Lng} {out : Int32} (hf : f_X8_exceedance_j37 M = some out) : AtL w p l e ({ frames := 1, cells := 0, slots := 0, locals := 22 } : Room) s m args below meth c (MQ below (QI w out M L) args s 0 0 (wA w)) 3 37 M L [] [] := by
  intro H locs ls hP hS hl
  unfold f_X8_exceedance_j37 at hf
  cases hf
set_option maxHeartbeats 4000000 in
set_option maxRecDepth 100000 in
theorem c_X8_exceedance (w : WT) (l : Launch) (hw : WOK w) {a1 : Int32} {a2 : Int32} {M : Mem} {L : Lng} {out : Int32} (hf : f_X8_exceedance a1 a2 M = some out) : Met l yX8_exceedance (Cond.code yX8_exceedance cX8_exceedance 3 (some .int) :: BG) ({ frames := 1, cells := 0, slots := 0, locals := 22 } : Room) (PRE w [.ref (wAd w 0), .int a1, .int a2] M L) (QI w out M L) 0 0 (wA w) := by
  refine kEnt hw (by decide +kernel) rfl (Nat.le_of_ble_eq_true rfl) ?_
  intro p e s m args below meth c C ls hl hP
  have hS : va_S (wA w) s.heap s.heap [] := va_S.rf
  have hl : lv_has ls 3 [(0, .ref (wAd w 0)), (1, .int a1), (2, .int a2)] := hl
  unfold f_X8_exceedance at hf
  refine lv_iload_n C.1 C.2.1 dX8_exceedance_0 rfl (lv_at hl 1 rfl) ?_
  refine lv_if_lt (tgt := 18) C.1 C.2.1 dX8_exceedance_1 (by decide) (fun c1 => ?_) (fun c1 => ?_)
  · have hf := (if_pos c1).symm.trans hf
    exact w_X8_exceedance_j18 C hf _ _ _ hP hS (lv_sub hl [] rfl)
  · have hf := (if_neg c1).symm.trans hf
    refine lv_iload_n C.1 C.2.1 dX8_exceedance_4 rfl (lv_at hl 1 rfl) ?_
    refine lv_aload_n C.1 C.2.1 dX8_exceedance_5 rfl (lv_at hl 0 rfl) ?_
    refine k_get (v := .ref (wAd w 54)) C hP (C9 C (lt_NoisePost h0_NoisePost)) (ob_NoisePost h0_NoisePost w L _) rfl iX8 3 (by decide) q276 rfl dX8_exceedance_6 ?_
    refine k_get (v := .ref (wAd w 60)) C hP (C9 C (lt_View to_NoisePost_now)) (ob_View to_NoisePost_now w L _) rfl iX7 2 (by decide) q250 rfl dX8_exceedance_9 ?_
    refine k_get (v := .int (M 60 6)) C hP (C9 C (lt_Exceedances (to_View_exceedances to_NoisePost_now))) (ob_Exceedances (to_View_exceedances to_NoisePost_now) w L _) rfl iX0 6 (by decide) q198 rfl dX8_exceedance_12 ?_
    refine lv_icmp_lt (tgt := 28) C.1 C.2.1 dX8_exceedance_15 (by decide) (fun c2 => ?_) (fun c2 => ?_)
    · have hf := (if_pos c2).symm.trans hf
      refine lv_iload_n C.1 C.2.1 dX8_exceedance_28 rfl (lv_at hl 2 rfl) ?_
      refine lv_if_lt (tgt := 37) C.1 C.2.1 dX8_exceedance_29 (by decide) (fun c3 => ?_) (fun c3 => ?_)
      · have hf := (if_pos c3).symm.trans hf
        exact w_X8_exceedance_j37 C hf _ _ _ hP hS (lv_sub hl [] rfl)
      · have hf := (if_neg c3).symm.trans hf
        refine lv_iload_n C.1 C.2.1 dX8_exceedance_32 rfl (lv_at hl 2 rfl) ?_
        refine lv_iconst (v := 5) C.1 C.2.1 dX8_exceedance_33 (by decide) ?_
        refine lv_icmp_le (tgt := 47) C.1 C.2.1 dX8_exceedance_34 (by decide) (fun c4 => ?_) (fun c4 => ?_)
        · have hf := (if_pos c4).symm.trans hf
          refine lv_aload_n C.1 C.2.1 dX8_exceedance_47 rfl (lv_at hl 0 rfl) ?_
          refine lv_iload_n C.1 C.2.1 dX8_exceedance_48 rfl (lv_at hl 1 rfl) ?_
          refine lv_iload_n C.1 C.2.1 dX8_exceedance_49 rfl (lv_at hl 2 rfl) ?_
          obtain ⟨r5, hr5, hf⟩ := ob hf
          refine kci (kV (As := [.int a1, .int a2]) (rest := []) C hl.1 hP hS (c_X8_exceedanceProperty w l C.2.2.2.2.2.2.2.2 (L := L) hr5) (gV q450 q452 qp3 q1 q453) hd_X8_exceedanceProperty (C9 C (lt_NoisePost h0_NoisePost)) (ob_NoisePost h0_NoisePost w L _) rfl ⟨rfl, rfl⟩ ⟨Nat.le_of_ble_eq_true rfl, Nat.le_of_ble_eq_true rfl⟩ rfl rfl (Nat.le_of_ble_eq_true rfl) dX8_exceedance_50 ⟨Nat.zero_le _, Nat.zero_le _⟩) hS (fun H locs hP hS => ?_)
          cases hf
          exact kri C hP hS dX8_exceedance_53
        · have hf := (if_neg c4).symm.trans hf
          exact w_X8_exceedance_j37 C hf _ _ _ hP hS (lv_sub hl [] rfl)
    · have hf := (if_neg c2).symm.trans hf
      exact w_X8_exceedance_j18 C hf _ _ _ hP hS (lv_sub hl [] rfl)
theorem dX8_complaintProperty_0 : decode cX8_complaintProperty 0 = .ok (.iload_n 2, 1) := by decide +kernel
theorem dX8_complaintProperty_1 : decode cX8_complaintProperty 1 = .ok (.ifCond .ne 15, 3) := by decide +kernel
theorem dX8_complaintProperty_4 : decode cX8_complaintProperty 4 = .ok (.aload_n 0, 1) := by decide +kernel
theorem dX8_complaintProperty_5 : decode cX8_complaintProperty 5 = .ok (.getfield 10, 3) := by decide +kernel
theorem dX8_complaintProperty_8 : decode cX8_complaintProperty 8 = .ok (.getfield 326, 3) := by decide +kernel
theorem dX8_complaintProperty_11 : decode cX8_complaintProperty 11 = .ok (.iload_n 1, 1) := by decide +kernel
theorem dX8_complaintProperty_12 : decode cX8_complaintProperty 12 = .ok (.iaload, 1) := by decide +kernel
theorem dX8_complaintProperty_13 : decode cX8_complaintProperty 13 = .ok (.goto 15, 3) := by decide +kernel
theorem dX8_complaintProperty_16 : decode cX8_complaintProperty 16 = .ok (.aload_n 0, 1) := by decide +kernel
theorem dX8_complaintProperty_17 : decode cX8_complaintProperty 17 = .ok (.getfield 33, 3) := by decide +kernel
theorem dX8_complaintProperty_20 : decode cX8_complaintProperty 20 = .ok (.getfield 142, 3) := by decide +kernel
theorem dX8_complaintProperty_23 : decode cX8_complaintProperty 23 = .ok (.getfield 146, 3) := by decide +kernel
theorem dX8_complaintProperty_26 : decode cX8_complaintProperty 26 = .ok (.iload_n 1, 1) := by decide +kernel
theorem dX8_complaintProperty_27 : decode cX8_complaintProperty 27 = .ok (.iaload, 1) := by decide +kernel
theorem dX8_complaintProperty_28 : decode cX8_complaintProperty 28 = .ok (.ireturn, 1) := by decide +kernel
set_option maxHeartbeats 4000000 in
set_option maxRecDepth 100000 in
theorem c_X8_complaintProperty (w : WT) (l : Launch) (hw : WOK w) {a1 : Int32} {a2 : Int32} {M : Mem} {L : Lng} {out : Int32} (hf : f_X8_complaintProperty a1 a2 M = some out) : Met l yX8_complaintProperty (Cond.code yX8_complaintProperty cX8_complaintProperty 3 (some .int) :: BG) ({ frames := 0, cells := 0, slots := 0, locals := 0 } : Room) (PRE w [.ref (wAd w 0), .int a1, .int a2] M L) (QI w out M L) 0 0 (wA w) := by
  refine kEnt hw (by decide +kernel) rfl (Nat.le_of_ble_eq_true rfl) ?_
  intro p e s m args below meth c C ls hl hP
  have hS : va_S (wA w) s.heap s.heap [] := va_S.rf
  have hl : lv_has ls 3 [(0, .ref (wAd w 0)), (1, .int a1), (2, .int a2)] := hl
  unfold f_X8_complaintProperty at hf
  refine lv_iload_n C.1 C.2.1 dX8_complaintProperty_0 rfl (lv_at hl 2 rfl) ?_
  refine lv_if_ne (tgt := 16) C.1 C.2.1 dX8_complaintProperty_1 (by decide) (fun c1 => ?_) (fun c1 => ?_)
  · have hf := (if_neg c1).symm.trans hf
    refine lv_aload_n C.1 C.2.1 dX8_complaintProperty_16 rfl (lv_at hl 0 rfl) ?_
    refine k_get (v := .ref (wAd w 54)) C hP (C9 C (lt_NoisePost h0_NoisePost)) (ob_NoisePost h0_NoisePost w L _) rfl iX8 3 (by decide) q276 rfl dX8_complaintProperty_17 ?_
    refine k_get (v := .ref (wAd w 67)) C hP (C9 C (lt_View to_NoisePost_now)) (ob_View to_NoisePost_now w L _) rfl iX7 3 (by decide) q252 rfl dX8_complaintProperty_20 ?_
    refine k_get (v := .ref (wAd w 68)) C hP (C9 C (lt_Matches (to_View_matches to_NoisePost_now))) (ob_Matches (to_View_matches to_NoisePost_now) w L _) rfl iX3 0 (by decide) q226 rfl dX8_complaintProperty_23 ?_
    refine lv_iload_n C.1 C.2.1 dX8_complaintProperty_26 rfl (lv_at hl 1 rfl) ?_
    obtain ⟨x2, hx2, hf⟩ := ob hf
    refine k_iald C hP (C9 C (la_Matches_exceedanceOf (to_View_matches to_NoisePost_now))) (ar_Matches_exceedanceOf (to_View_matches to_NoisePost_now) w L _) hx2 dX8_complaintProperty_27 ?_
    cases hf
    exact kri C hP hS dX8_complaintProperty_28
  · have hf := (if_pos c1).symm.trans hf
    refine lv_aload_n C.1 C.2.1 dX8_complaintProperty_4 rfl (lv_at hl 0 rfl) ?_
    refine k_get (v := .ref (wAd w 1)) C hP (C9 C (lt_NoisePost h0_NoisePost)) (ob_NoisePost h0_NoisePost w L _) rfl iX8 0 (by decide) q273 rfl dX8_complaintProperty_5 ?_
    refine k_get (v := .ref (wAd w 5)) C hP (C9 C (lt_State to_NoisePost_state)) (ob_State to_NoisePost_state w L _) rfl iX5 3 (by decide) q51 rfl dX8_complaintProperty_8 ?_
    refine lv_iload_n C.1 C.2.1 dX8_complaintProperty_11 rfl (lv_at hl 1 rfl) ?_
    obtain ⟨x3, hx3, hf⟩ := ob hf
    refine k_iald C hP (C9 C (la_State_complaintMinutes to_NoisePost_state)) (ar_State_complaintMinutes to_NoisePost_state w L _) hx3 dX8_complaintProperty_12 ?_
    refine lv_goto (tgt := 28) C.1 C.2.1 dX8_complaintProperty_13 (by decide) ?_
    cases hf
    exact kri C hP hS dX8_complaintProperty_28
theorem dX8_complaint_0 : decode cX8_complaint 0 = .ok (.aload_n 0, 1) := by decide +kernel
theorem dX8_complaint_1 : decode cX8_complaint 1 = .ok (.getfield 10, 3) := by decide +kernel
theorem dX8_complaint_4 : decode cX8_complaint 4 = .ok (.iload_n 1, 1) := by decide +kernel
theorem dX8_complaint_5 : decode cX8_complaint 5 = .ok (.invokevirtual 137, 3) := by decide +kernel
theorem dX8_complaint_8 : decode cX8_complaint 8 = .ok (.ifCond .ne 13, 3) := by decide +kernel
theorem dX8_complaint_11 : decode cX8_complaint 11 = .ok (.new 51, 3) := by decide +kernel
theorem dX8_complaint_14 : decode cX8_complaint 14 = .ok (.dup, 1) := by decide +kernel
theorem dX8_complaint_15 : decode cX8_complaint 15 = .ok (.ldc 140, 2) := by decide +kernel
theorem dX8_complaint_17 : decode cX8_complaint 17 = .ok (.invokespecial 55, 3) := by decide +kernel
theorem dX8_complaint_20 : decode cX8_complaint 20 = .ok (.athrow, 1) := by decide +kernel
theorem dX8_complaint_21 : decode cX8_complaint 21 = .ok (.iload_n 2, 1) := by decide +kernel
theorem dX8_complaint_22 : decode cX8_complaint 22 = .ok (.ifCond .lt 8, 3) := by decide +kernel
theorem dX8_complaint_25 : decode cX8_complaint 25 = .ok (.iload_n 2, 1) := by decide +kernel
theorem dX8_complaint_26 : decode cX8_complaint 26 = .ok (.iconst 1, 1) := by decide +kernel
theorem dX8_complaint_27 : decode cX8_complaint 27 = .ok (.if_icmp .le 13, 3) := by decide +kernel
theorem dX8_complaint_30 : decode cX8_complaint 30 = .ok (.new 62, 3) := by decide +kernel
theorem dX8_complaint_33 : decode cX8_complaint 33 = .ok (.dup, 1) := by decide +kernel
theorem dX8_complaint_34 : decode cX8_complaint 34 = .ok (.ldc 193, 2) := by decide +kernel
theorem dX8_complaint_36 : decode cX8_complaint 36 = .ok (.invokespecial 66, 3) := by decide +kernel
theorem dX8_complaint_39 : decode cX8_complaint 39 = .ok (.athrow, 1) := by decide +kernel
theorem dX8_complaint_40 : decode cX8_complaint 40 = .ok (.aload_n 0, 1) := by decide +kernel
theorem dX8_complaint_41 : decode cX8_complaint 41 = .ok (.iload_n 1, 1) := by decide +kernel
theorem dX8_complaint_42 : decode cX8_complaint 42 = .ok (.iload_n 2, 1) := by decide +kernel
theorem dX8_complaint_43 : decode cX8_complaint 43 = .ok (.invokevirtual 204, 3) := by decide +kernel
theorem dX8_complaint_46 : decode cX8_complaint 46 = .ok (.ireturn, 1) := by decide +kernel
set_option maxHeartbeats 4000000 in
set_option maxRecDepth 100000 in
theorem w_X8_complaint_j30 {w : WT} {l : Launch} {p : Program} {e : Env} {s : State} {m : MethodId} {args : Array Value} {below : List Frame} {meth : Method} {c : Code} (C : KC w p s m args meth c cX8_complaint 3 RX8 (some .int)) {M : Mem} {L : Lng} {out : Int32} (hf : f_X8_complaint_j30 M = some out) : AtL w p l e ({ frames := 1, cells := 0, slots := 0, locals := 22 } : Room) s m args below meth c (MQ below (QI w out M L) args s 0 0 (wA w)) 3 30 M L [] [] := by
  intro H locs ls hP hS hl
  unfold f_X8_complaint_j30 at hf
  cases hf
set_option maxHeartbeats 4000000 in
set_option maxRecDepth 100000 in
theorem c_X8_complaint (w : WT) (l : Launch) (hw : WOK w) {a1 : Int32} {a2 : Int32} {M : Mem} {L : Lng} {out : Int32} (hf : f_X8_complaint a1 a2 M = some out) : Met l yX8_complaint (Cond.code yX8_complaint cX8_complaint 3 (some .int) :: BG) ({ frames := 1, cells := 0, slots := 0, locals := 22 } : Room) (PRE w [.ref (wAd w 0), .int a1, .int a2] M L) (QI w out M L) 0 0 (wA w) := by
  refine kEnt hw (by decide +kernel) rfl (Nat.le_of_ble_eq_true rfl) ?_
  intro p e s m args below meth c C ls hl hP
  have hS : va_S (wA w) s.heap s.heap [] := va_S.rf
  have hl : lv_has ls 3 [(0, .ref (wAd w 0)), (1, .int a1), (2, .int a2)] := hl
  unfold f_X8_complaint at hf
  refine lv_aload_n C.1 C.2.1 dX8_complaint_0 rfl (lv_at hl 0 rfl) ?_
  refine k_get (v := .ref (wAd w 1)) C hP (C9 C (lt_NoisePost h0_NoisePost)) (ob_NoisePost h0_NoisePost w L _) rfl iX8 0 (by decide) q273 rfl dX8_complaint_1 ?_
  refine lv_iload_n C.1 C.2.1 dX8_complaint_4 rfl (lv_at hl 1 rfl) ?_
  obtain ⟨r1, hr1, hf⟩ := ob hf
  refine kci (kV (As := [.int a1]) (rest := []) C hl.1 hP hS (c_X5_hasComplaint w l C.2.2.2.2.2.2.2.2 to_NoisePost_state (L := L) hr1) (gV q458 q459 q460 q2 q461) hd_X5_hasComplaint (C9 C (lt_State to_NoisePost_state)) (ob_State to_NoisePost_state w L _) rfl ⟨rfl, rfl⟩ ⟨Nat.le_of_ble_eq_true rfl, Nat.le_of_ble_eq_true rfl⟩ rfl rfl (Nat.le_of_ble_eq_true rfl) dX8_complaint_5 ⟨Nat.zero_le _, Nat.zero_le _⟩) hS (fun H locs hP hS => ?_)
  refine lv_if_ne (tgt := 21) C.1 C.2.1 dX8_complaint_8 (by decide) (fun c2 => ?_) (fun c2 => ?_)
  · have hf := (if_neg c2).symm.trans hf
    refine lv_iload_n C.1 C.2.1 dX8_complaint_21 rfl (lv_at hl 2 rfl) ?_
    refine lv_if_lt (tgt := 30) C.1 C.2.1 dX8_complaint_22 (by decide) (fun c3 => ?_) (fun c3 => ?_)
    · have hf := (if_pos c3).symm.trans hf
      exact w_X8_complaint_j30 C hf _ _ _ hP hS (lv_sub hl [] rfl)
    · have hf := (if_neg c3).symm.trans hf
      refine lv_iload_n C.1 C.2.1 dX8_complaint_25 rfl (lv_at hl 2 rfl) ?_
      refine lv_iconst (v := 1) C.1 C.2.1 dX8_complaint_26 (by decide) ?_
      refine lv_icmp_le (tgt := 40) C.1 C.2.1 dX8_complaint_27 (by decide) (fun c4 => ?_) (fun c4 => ?_)
      · have hf := (if_pos c4).symm.trans hf
        refine lv_aload_n C.1 C.2.1 dX8_complaint_40 rfl (lv_at hl 0 rfl) ?_
        refine lv_iload_n C.1 C.2.1 dX8_complaint_41 rfl (lv_at hl 1 rfl) ?_
        refine lv_iload_n C.1 C.2.1 dX8_complaint_42 rfl (lv_at hl 2 rfl) ?_
        obtain ⟨r5, hr5, hf⟩ := ob hf
        refine kci (kV (As := [.int a1, .int a2]) (rest := []) C hl.1 hP hS (c_X8_complaintProperty w l C.2.2.2.2.2.2.2.2 (L := L) hr5) (gV q463 q465 qp4 q1 q466) hd_X8_complaintProperty (C9 C (lt_NoisePost h0_NoisePost)) (ob_NoisePost h0_NoisePost w L _) rfl ⟨rfl, rfl⟩ ⟨Nat.le_of_ble_eq_true rfl, Nat.le_of_ble_eq_true rfl⟩ rfl rfl (Nat.le_of_ble_eq_true rfl) dX8_complaint_43 ⟨Nat.zero_le _, Nat.zero_le _⟩) hS (fun H locs hP hS => ?_)
        cases hf
        exact kri C hP hS dX8_complaint_46
      · have hf := (if_neg c4).symm.trans hf
        exact w_X8_complaint_j30 C hf _ _ _ hP hS (lv_sub hl [] rfl)
  · have hf := (if_pos c2).symm.trans hf
    cases hf
theorem dX8_levelCount_0 : decode cX8_levelCount 0 = .ok (.iload_n 1, 1) := by decide +kernel
theorem dX8_levelCount_1 : decode cX8_levelCount 1 = .ok (.invokestatic 78, 3) := by decide +kernel
theorem dX8_levelCount_4 : decode cX8_levelCount 4 = .ok (.ifCond .ne 13, 3) := by decide +kernel
theorem dX8_levelCount_7 : decode cX8_levelCount 7 = .ok (.new 62, 3) := by decide +kernel
theorem dX8_levelCount_10 : decode cX8_levelCount 10 = .ok (.dup, 1) := by decide +kernel
theorem dX8_levelCount_11 : decode cX8_levelCount 11 = .ok (.ldc 207, 2) := by decide +kernel
theorem dX8_levelCount_13 : decode cX8_levelCount 13 = .ok (.invokespecial 66, 3) := by decide +kernel
theorem dX8_levelCount_16 : decode cX8_levelCount 16 = .ok (.athrow, 1) := by decide +kernel
theorem dX8_levelCount_17 : decode cX8_levelCount 17 = .ok (.aload_n 0, 1) := by decide +kernel
theorem dX8_levelCount_18 : decode cX8_levelCount 18 = .ok (.getfield 43, 3) := by decide +kernel
theorem dX8_levelCount_21 : decode cX8_levelCount 21 = .ok (.getfield 209, 3) := by decide +kernel
theorem dX8_levelCount_24 : decode cX8_levelCount 24 = .ok (.iload_n 1, 1) := by decide +kernel
theorem dX8_levelCount_25 : decode cX8_levelCount 25 = .ok (.iaload, 1) := by decide +kernel
theorem dX8_levelCount_26 : decode cX8_levelCount 26 = .ok (.ireturn, 1) := by decide +kernel
set_option maxHeartbeats 4000000 in
set_option maxRecDepth 100000 in
theorem c_X8_levelCount (w : WT) (l : Launch) (hw : WOK w) {a1 : Int32} {M : Mem} {L : Lng} {out : Int32} (hf : f_X8_levelCount a1 M = some out) : Met l yX8_levelCount (Cond.code yX8_levelCount cX8_levelCount 2 (some .int) :: BG) ({ frames := 1, cells := 0, slots := 0, locals := 20 } : Room) (PRE w [.ref (wAd w 0), .int a1] M L) (QI w out M L) 0 0 (wA w) := by
  refine kEnt hw (by decide +kernel) rfl (Nat.le_of_ble_eq_true rfl) ?_
  intro p e s m args below meth c C ls hl hP
  have hS : va_S (wA w) s.heap s.heap [] := va_S.rf
  have hl : lv_has ls 2 [(0, .ref (wAd w 0)), (1, .int a1)] := hl
  unfold f_X8_levelCount at hf
  refine lv_iload_n C.1 C.2.1 dX8_levelCount_0 rfl (lv_at hl 1 rfl) ?_
  obtain ⟨r1, hr1, hf⟩ := ob hf
  refine kci (kS (As := [.int a1]) (rest := []) C hl.1 hP hS (c_X8_isLevel w l C.2.2.2.2.2.2.2.2 (L := L) hr1) (gS q485 q486 q1 q487) hd_X8_isLevel ⟨rfl, rfl⟩ ⟨Nat.le_of_ble_eq_true rfl, Nat.le_of_ble_eq_true rfl⟩ rfl rfl (Nat.le_of_ble_eq_true rfl) dX8_levelCount_1 ⟨Nat.zero_le _, Nat.zero_le _⟩) hS (fun H locs hP hS => ?_)
  refine lv_if_ne (tgt := 17) C.1 C.2.1 dX8_levelCount_4 (by decide) (fun c2 => ?_) (fun c2 => ?_)
  · have hf := (if_neg c2).symm.trans hf
    refine lv_aload_n C.1 C.2.1 dX8_levelCount_17 rfl (lv_at hl 0 rfl) ?_
    refine k_get (v := .ref (wAd w 88)) C hP (C9 C (lt_NoisePost h0_NoisePost)) (ob_NoisePost h0_NoisePost w L _) rfl iX8 5 (by decide) q278 rfl dX8_levelCount_18 ?_
    refine k_get (v := .ref (wAd w 89)) C hP (C9 C (lt_LevelCounts to_NoisePost_levelCounts)) (ob_LevelCounts to_NoisePost_levelCounts w L _) rfl iX2 0 (by decide) q269 rfl dX8_levelCount_21 ?_
    refine lv_iload_n C.1 C.2.1 dX8_levelCount_24 rfl (lv_at hl 1 rfl) ?_
    obtain ⟨x3, hx3, hf⟩ := ob hf
    refine k_iald C hP (C9 C (la_LevelCounts_reached to_NoisePost_levelCounts)) (ar_LevelCounts_reached to_NoisePost_levelCounts w L _) hx3 dX8_levelCount_25 ?_
    cases hf
    exact kri C hP hS dX8_levelCount_26
  · have hf := (if_pos c2).symm.trans hf
    cases hf
theorem dX8_percentLevel_0 : decode cX8_percentLevel 0 = .ok (.iload_n 1, 1) := by decide +kernel
theorem dX8_percentLevel_1 : decode cX8_percentLevel 1 = .ok (.iconst 1, 1) := by decide +kernel
theorem dX8_percentLevel_2 : decode cX8_percentLevel 2 = .ok (.if_icmp .lt 9, 3) := by decide +kernel
theorem dX8_percentLevel_5 : decode cX8_percentLevel 5 = .ok (.iload_n 1, 1) := by decide +kernel
theorem dX8_percentLevel_6 : decode cX8_percentLevel 6 = .ok (.bipush 100, 2) := by decide +kernel
theorem dX8_percentLevel_8 : decode cX8_percentLevel 8 = .ok (.if_icmp .le 13, 3) := by decide +kernel
theorem dX8_percentLevel_11 : decode cX8_percentLevel 11 = .ok (.new 62, 3) := by decide +kernel
theorem dX8_percentLevel_14 : decode cX8_percentLevel 14 = .ok (.dup, 1) := by decide +kernel
theorem dX8_percentLevel_15 : decode cX8_percentLevel 15 = .ok (.ldc 212, 2) := by decide +kernel
theorem dX8_percentLevel_17 : decode cX8_percentLevel 17 = .ok (.invokespecial 66, 3) := by decide +kernel
theorem dX8_percentLevel_20 : decode cX8_percentLevel 20 = .ok (.athrow, 1) := by decide +kernel
theorem dX8_percentLevel_21 : decode cX8_percentLevel 21 = .ok (.aload_n 0, 1) := by decide +kernel
theorem dX8_percentLevel_22 : decode cX8_percentLevel 22 = .ok (.getfield 43, 3) := by decide +kernel
theorem dX8_percentLevel_25 : decode cX8_percentLevel 25 = .ok (.iload_n 1, 1) := by decide +kernel
theorem dX8_percentLevel_26 : decode cX8_percentLevel 26 = .ok (.aload_n 0, 1) := by decide +kernel
theorem dX8_percentLevel_27 : decode cX8_percentLevel 27 = .ok (.getfield 33, 3) := by decide +kernel
theorem dX8_percentLevel_30 : decode cX8_percentLevel 30 = .ok (.getfield 214, 3) := by decide +kernel
theorem dX8_percentLevel_33 : decode cX8_percentLevel 33 = .ok (.getfield 217, 3) := by decide +kernel
theorem dX8_percentLevel_36 : decode cX8_percentLevel 36 = .ok (.invokevirtual 222, 3) := by decide +kernel
theorem dX8_percentLevel_39 : decode cX8_percentLevel 39 = .ok (.ireturn, 1) := by decide +kernel
set_option maxHeartbeats 4000000 in
set_option maxRecDepth 100000 in
theorem w_X8_percentLevel_j11 {w : WT} {l : Launch} {p : Program} {e : Env} {s : State} {m : MethodId} {args : Array Value} {below : List Frame} {meth : Method} {c : Code} (C : KC w p s m args meth c cX8_percentLevel 2 RX8 (some .int)) {M : Mem} {L : Lng} {out : Int32} (hf : f_X8_percentLevel_j11 M = some out) : AtL w p l e ({ frames := 1, cells := 0, slots := 0, locals := 23 } : Room) s m args below meth c (MQ below (QI w out M L) args s 0 0 (wA w)) 2 11 M L [] [] := by
  intro H locs ls hP hS hl
  unfold f_X8_percentLevel_j11 at hf
  cases hf
set_option maxHeartbeats 4000000 in
set_option maxRecDepth 100000 in
theorem c_X8_percentLevel (w : WT) (l : Launch) (hw : WOK w) {a1 : Int32} {M : Mem} {L : Lng} {out : Int32} (hf : f_X8_percentLevel a1 M = some out) : Met l yX8_percentLevel (Cond.code yX8_percentLevel cX8_percentLevel 2 (some .int) :: BG) ({ frames := 1, cells := 0, slots := 0, locals := 23 } : Room) (PRE w [.ref (wAd w 0), .int a1] M L) (QI w out M L) 0 0 (wA w) := by
  refine kEnt hw (by decide +kernel) rfl (Nat.le_of_ble_eq_true rfl) ?_
  intro p e s m args below meth c C ls hl hP
  have hS : va_S (wA w) s.heap s.heap [] := va_S.rf
  have hl : lv_has ls 2 [(0, .ref (wAd w 0)), (1, .int a1)] := hl
  unfold f_X8_percentLevel at hf
  refine lv_iload_n C.1 C.2.1 dX8_percentLevel_0 rfl (lv_at hl 1 rfl) ?_
  refine lv_iconst (v := 1) C.1 C.2.1 dX8_percentLevel_1 (by decide) ?_
  refine lv_icmp_lt (tgt := 11) C.1 C.2.1 dX8_percentLevel_2 (by decide) (fun c1 => ?_) (fun c1 => ?_)
  · have hf := (if_pos c1).symm.trans hf
    exact w_X8_percentLevel_j11 C hf _ _ _ hP hS (lv_sub hl [] rfl)
  · have hf := (if_neg c1).symm.trans hf
    refine lv_iload_n C.1 C.2.1 dX8_percentLevel_5 rfl (lv_at hl 1 rfl) ?_
    refine lv_bipush (v := 100) C.1 C.2.1 dX8_percentLevel_6 (by decide) ?_
    refine lv_icmp_le (tgt := 21) C.1 C.2.1 dX8_percentLevel_8 (by decide) (fun c2 => ?_) (fun c2 => ?_)
    · have hf := (if_pos c2).symm.trans hf
      refine lv_aload_n C.1 C.2.1 dX8_percentLevel_21 rfl (lv_at hl 0 rfl) ?_
      refine k_get (v := .ref (wAd w 88)) C hP (C9 C (lt_NoisePost h0_NoisePost)) (ob_NoisePost h0_NoisePost w L _) rfl iX8 5 (by decide) q278 rfl dX8_percentLevel_22 ?_
      refine lv_iload_n C.1 C.2.1 dX8_percentLevel_25 rfl (lv_at hl 1 rfl) ?_
      refine lv_aload_n C.1 C.2.1 dX8_percentLevel_26 rfl (lv_at hl 0 rfl) ?_
      refine k_get (v := .ref (wAd w 54)) C hP (C9 C (lt_NoisePost h0_NoisePost)) (ob_NoisePost h0_NoisePost w L _) rfl iX8 3 (by decide) q276 rfl dX8_percentLevel_27 ?_
      refine k_get (v := .ref (wAd w 56)) C hP (C9 C (lt_View to_NoisePost_now)) (ob_View to_NoisePost_now w L _) rfl iX7 1 (by decide) q248 rfl dX8_percentLevel_30 ?_
      refine k_get (v := .int (M 56 4)) C hP (C9 C (lt_Minutes (to_View_minutes to_NoisePost_now))) (ob_Minutes (to_View_minutes to_NoisePost_now) w L _) rfl iX4 4 (by decide) q152 rfl dX8_percentLevel_33 ?_
      obtain ⟨r3, hr3, hf⟩ := ob hf
      refine kci (kV (As := [.int a1, .int (M 56 4)]) (rest := []) C hl.1 hP hS (c_X2_levelOfPercent w l C.2.2.2.2.2.2.2.2 (L := L) hr3) (gV q494 q495 q496 q9 q497) hd_X2_levelOfPercent (C9 C (lt_LevelCounts to_NoisePost_levelCounts)) (ob_LevelCounts to_NoisePost_levelCounts w L _) rfl ⟨rfl, rfl⟩ ⟨Nat.le_of_ble_eq_true rfl, Nat.le_of_ble_eq_true rfl⟩ rfl rfl (Nat.le_of_ble_eq_true rfl) dX8_percentLevel_36 ⟨Nat.zero_le _, Nat.zero_le _⟩) hS (fun H locs hP hS => ?_)
      cases hf
      exact kri C hP hS dX8_percentLevel_39
    · have hf := (if_neg c2).symm.trans hf
      exact w_X8_percentLevel_j11 C hf _ _ _ hP hS (lv_sub hl [] rfl)
theorem dX8_numberOf_0 : decode cX8_numberOf 0 = .ok (.iload_n 1, 1) := by decide +kernel
theorem dX8_numberOf_1 : decode cX8_numberOf 1 = .ok (.bipush 10, 2) := by decide +kernel
theorem dX8_numberOf_3 : decode cX8_numberOf 3 = .ok (.if_icmp .ne 11, 3) := by decide +kernel
theorem dX8_numberOf_6 : decode cX8_numberOf 6 = .ok (.aload_n 0, 1) := by decide +kernel
theorem dX8_numberOf_7 : decode cX8_numberOf 7 = .ok (.getfield 19, 3) := by decide +kernel
theorem dX8_numberOf_10 : decode cX8_numberOf 10 = .ok (.getfield 185, 3) := by decide +kernel
theorem dX8_numberOf_13 : decode cX8_numberOf 13 = .ok (.ireturn, 1) := by decide +kernel
theorem dX8_numberOf_14 : decode cX8_numberOf 14 = .ok (.aload_n 0, 1) := by decide +kernel
theorem dX8_numberOf_15 : decode cX8_numberOf 15 = .ok (.getfield 33, 3) := by decide +kernel
theorem dX8_numberOf_18 : decode cX8_numberOf 18 = .ok (.iload_n 1, 1) := by decide +kernel
theorem dX8_numberOf_19 : decode cX8_numberOf 19 = .ok (.invokevirtual 239, 3) := by decide +kernel
theorem dX8_numberOf_22 : decode cX8_numberOf 22 = .ok (.ireturn, 1) := by decide +kernel
set_option maxHeartbeats 4000000 in
set_option maxRecDepth 100000 in
theorem c_X8_numberOf (w : WT) (l : Launch) (hw : WOK w) {a1 : Int32} {M : Mem} {L : Lng} {out : Int32} (hf : f_X8_numberOf a1 M = some out) : Met l yX8_numberOf (Cond.code yX8_numberOf cX8_numberOf 2 (some .int) :: BG) ({ frames := 2, cells := 0, slots := 0, locals := 43 } : Room) (PRE w [.ref (wAd w 0), .int a1] M L) (QI w out M L) 0 0 (wA w) := by
  refine kEnt hw (by decide +kernel) rfl (Nat.le_of_ble_eq_true rfl) ?_
  intro p e s m args below meth c C ls hl hP
  have hS : va_S (wA w) s.heap s.heap [] := va_S.rf
  have hl : lv_has ls 2 [(0, .ref (wAd w 0)), (1, .int a1)] := hl
  unfold f_X8_numberOf at hf
  refine lv_iload_n C.1 C.2.1 dX8_numberOf_0 rfl (lv_at hl 1 rfl) ?_
  refine lv_bipush (v := 10) C.1 C.2.1 dX8_numberOf_1 (by decide) ?_
  refine lv_icmp_ne (tgt := 14) C.1 C.2.1 dX8_numberOf_3 (by decide) (fun c1 => ?_) (fun c1 => ?_)
  · have hf := (if_neg c1).symm.trans hf
    refine lv_aload_n C.1 C.2.1 dX8_numberOf_14 rfl (lv_at hl 0 rfl) ?_
    refine k_get (v := .ref (wAd w 54)) C hP (C9 C (lt_NoisePost h0_NoisePost)) (ob_NoisePost h0_NoisePost w L _) rfl iX8 3 (by decide) q276 rfl dX8_numberOf_15 ?_
    refine lv_iload_n C.1 C.2.1 dX8_numberOf_18 rfl (lv_at hl 1 rfl) ?_
    obtain ⟨r2, hr2, hf⟩ := ob hf
    refine kci (kV (As := [.int a1]) (rest := []) C hl.1 hP hS (c_X7_numberOf w l C.2.2.2.2.2.2.2.2 to_NoisePost_now (L := L) hr2) (gV q368 q369 q370 q5 q371) hd_X7_numberOf (C9 C (lt_View to_NoisePost_now)) (ob_View to_NoisePost_now w L _) rfl ⟨rfl, rfl⟩ ⟨Nat.le_of_ble_eq_true rfl, Nat.le_of_ble_eq_true rfl⟩ rfl rfl (Nat.le_of_ble_eq_true rfl) dX8_numberOf_19 ⟨Nat.zero_le _, Nat.zero_le _⟩) hS (fun H locs hP hS => ?_)
    cases hf
    exact kri C hP hS dX8_numberOf_22
  · have hf := (if_pos c1).symm.trans hf
    refine lv_aload_n C.1 C.2.1 dX8_numberOf_6 rfl (lv_at hl 0 rfl) ?_
    refine k_get (v := .ref (wAd w 46)) C hP (C9 C (lt_NoisePost h0_NoisePost)) (ob_NoisePost h0_NoisePost w L _) rfl iX8 1 (by decide) q274 rfl dX8_numberOf_7 ?_
    refine k_get (v := .int (M 46 2)) C hP (C9 C (lt_History to_NoisePost_history)) (ob_History to_NoisePost_history w L _) rfl iX1 2 (by decide) q84 rfl dX8_numberOf_10 ?_
    cases hf
    exact kri C hP hS dX8_numberOf_13
theorem dX8_count_0 : decode cX8_count 0 = .ok (.iload_n 1, 1) := by decide +kernel
theorem dX8_count_1 : decode cX8_count 1 = .ok (.ifCond .lt 9, 3) := by decide +kernel
theorem dX8_count_4 : decode cX8_count 4 = .ok (.iload_n 1, 1) := by decide +kernel
theorem dX8_count_5 : decode cX8_count 5 = .ok (.bipush 11, 2) := by decide +kernel
theorem dX8_count_7 : decode cX8_count 7 = .ok (.if_icmp .le 13, 3) := by decide +kernel
theorem dX8_count_10 : decode cX8_count 10 = .ok (.new 62, 3) := by decide +kernel
theorem dX8_count_13 : decode cX8_count 13 = .ok (.dup, 1) := by decide +kernel
theorem dX8_count_14 : decode cX8_count 14 = .ok (.ldc 193, 2) := by decide +kernel
theorem dX8_count_16 : decode cX8_count 16 = .ok (.invokespecial 66, 3) := by decide +kernel
theorem dX8_count_19 : decode cX8_count 19 = .ok (.athrow, 1) := by decide +kernel
theorem dX8_count_20 : decode cX8_count 20 = .ok (.aload_n 0, 1) := by decide +kernel
theorem dX8_count_21 : decode cX8_count 21 = .ok (.iload_n 1, 1) := by decide +kernel
theorem dX8_count_22 : decode cX8_count 22 = .ok (.invokevirtual 225, 3) := by decide +kernel
theorem dX8_count_25 : decode cX8_count 25 = .ok (.ireturn, 1) := by decide +kernel
set_option maxHeartbeats 4000000 in
set_option maxRecDepth 100000 in
theorem w_X8_count_j10 {w : WT} {l : Launch} {p : Program} {e : Env} {s : State} {m : MethodId} {args : Array Value} {below : List Frame} {meth : Method} {c : Code} (C : KC w p s m args meth c cX8_count 2 RX8 (some .int)) {M : Mem} {L : Lng} {out : Int32} (hf : f_X8_count_j10 M = some out) : AtL w p l e ({ frames := 3, cells := 0, slots := 0, locals := 64 } : Room) s m args below meth c (MQ below (QI w out M L) args s 0 0 (wA w)) 2 10 M L [] [] := by
  intro H locs ls hP hS hl
  unfold f_X8_count_j10 at hf
  cases hf
set_option maxHeartbeats 4000000 in
set_option maxRecDepth 100000 in
theorem c_X8_count (w : WT) (l : Launch) (hw : WOK w) {a1 : Int32} {M : Mem} {L : Lng} {out : Int32} (hf : f_X8_count a1 M = some out) : Met l yX8_count (Cond.code yX8_count cX8_count 2 (some .int) :: BG) ({ frames := 3, cells := 0, slots := 0, locals := 64 } : Room) (PRE w [.ref (wAd w 0), .int a1] M L) (QI w out M L) 0 0 (wA w) := by
  refine kEnt hw (by decide +kernel) rfl (Nat.le_of_ble_eq_true rfl) ?_
  intro p e s m args below meth c C ls hl hP
  have hS : va_S (wA w) s.heap s.heap [] := va_S.rf
  have hl : lv_has ls 2 [(0, .ref (wAd w 0)), (1, .int a1)] := hl
  unfold f_X8_count at hf
  refine lv_iload_n C.1 C.2.1 dX8_count_0 rfl (lv_at hl 1 rfl) ?_
  refine lv_if_lt (tgt := 10) C.1 C.2.1 dX8_count_1 (by decide) (fun c1 => ?_) (fun c1 => ?_)
  · have hf := (if_pos c1).symm.trans hf
    exact w_X8_count_j10 C hf _ _ _ hP hS (lv_sub hl [] rfl)
  · have hf := (if_neg c1).symm.trans hf
    refine lv_iload_n C.1 C.2.1 dX8_count_4 rfl (lv_at hl 1 rfl) ?_
    refine lv_bipush (v := 11) C.1 C.2.1 dX8_count_5 (by decide) ?_
    refine lv_icmp_le (tgt := 20) C.1 C.2.1 dX8_count_7 (by decide) (fun c2 => ?_) (fun c2 => ?_)
    · have hf := (if_pos c2).symm.trans hf
      refine lv_aload_n C.1 C.2.1 dX8_count_20 rfl (lv_at hl 0 rfl) ?_
      refine lv_iload_n C.1 C.2.1 dX8_count_21 rfl (lv_at hl 1 rfl) ?_
      obtain ⟨r3, hr3, hf⟩ := ob hf
      refine kci (kV (As := [.int a1]) (rest := []) C hl.1 hP hS (c_X8_numberOf w l C.2.2.2.2.2.2.2.2 (L := L) hr3) (gV q364 q366 qp1 q1 q367) hd_X8_numberOf (C9 C (lt_NoisePost h0_NoisePost)) (ob_NoisePost h0_NoisePost w L _) rfl ⟨rfl, rfl⟩ ⟨Nat.le_of_ble_eq_true rfl, Nat.le_of_ble_eq_true rfl⟩ rfl rfl (Nat.le_of_ble_eq_true rfl) dX8_count_22 ⟨Nat.zero_le _, Nat.zero_le _⟩) hS (fun H locs hP hS => ?_)
      cases hf
      exact kri C hP hS dX8_count_25
    · have hf := (if_neg c2).symm.trans hf
      exact w_X8_count_j10 C hf _ _ _ hP hS (lv_sub hl [] rfl)
theorem dX8_setting_0 : decode cX8_setting 0 = .ok (.iload_n 1, 1) := by decide +kernel
theorem dX8_setting_1 : decode cX8_setting 1 = .ok (.invokestatic 47, 3) := by decide +kernel
theorem dX8_setting_4 : decode cX8_setting 4 = .ok (.ifCond .ne 13, 3) := by decide +kernel
theorem dX8_setting_7 : decode cX8_setting 7 = .ok (.new 51, 3) := by decide +kernel
theorem dX8_setting_10 : decode cX8_setting 10 = .ok (.dup, 1) := by decide +kernel
theorem dX8_setting_11 : decode cX8_setting 11 = .ok (.ldc 53, 2) := by decide +kernel
theorem dX8_setting_13 : decode cX8_setting 13 = .ok (.invokespecial 55, 3) := by decide +kernel
theorem dX8_setting_16 : decode cX8_setting 16 = .ok (.athrow, 1) := by decide +kernel
theorem dX8_setting_17 : decode cX8_setting 17 = .ok (.aload_n 0, 1) := by decide +kernel
theorem dX8_setting_18 : decode cX8_setting 18 = .ok (.getfield 10, 3) := by decide +kernel
theorem dX8_setting_21 : decode cX8_setting 21 = .ok (.getfield 71, 3) := by decide +kernel
theorem dX8_setting_24 : decode cX8_setting 24 = .ok (.iload_n 1, 1) := by decide +kernel
theorem dX8_setting_25 : decode cX8_setting 25 = .ok (.iaload, 1) := by decide +kernel
theorem dX8_setting_26 : decode cX8_setting 26 = .ok (.ireturn, 1) := by decide +kernel
set_option maxHeartbeats 4000000 in
set_option maxRecDepth 100000 in
theorem c_X8_setting (w : WT) (l : Launch) (hw : WOK w) {a1 : Int32} {M : Mem} {L : Lng} {out : Int32} (hf : f_X8_setting a1 M = some out) : Met l yX8_setting (Cond.code yX8_setting cX8_setting 2 (some .int) :: BG) ({ frames := 1, cells := 0, slots := 0, locals := 20 } : Room) (PRE w [.ref (wAd w 0), .int a1] M L) (QI w out M L) 0 0 (wA w) := by
  refine kEnt hw (by decide +kernel) rfl (Nat.le_of_ble_eq_true rfl) ?_
  intro p e s m args below meth c C ls hl hP
  have hS : va_S (wA w) s.heap s.heap [] := va_S.rf
  have hl : lv_has ls 2 [(0, .ref (wAd w 0)), (1, .int a1)] := hl
  unfold f_X8_setting at hf
  refine lv_iload_n C.1 C.2.1 dX8_setting_0 rfl (lv_at hl 1 rfl) ?_
  obtain ⟨r1, hr1, hf⟩ := ob hf
  refine kci (kS (As := [.int a1]) (rest := []) C hl.1 hP hS (c_X8_isSetting w l C.2.2.2.2.2.2.2.2 (L := L) hr1) (gS q471 q472 q1 q473) hd_X8_isSetting ⟨rfl, rfl⟩ ⟨Nat.le_of_ble_eq_true rfl, Nat.le_of_ble_eq_true rfl⟩ rfl rfl (Nat.le_of_ble_eq_true rfl) dX8_setting_1 ⟨Nat.zero_le _, Nat.zero_le _⟩) hS (fun H locs hP hS => ?_)
  refine lv_if_ne (tgt := 17) C.1 C.2.1 dX8_setting_4 (by decide) (fun c2 => ?_) (fun c2 => ?_)
  · have hf := (if_neg c2).symm.trans hf
    refine lv_aload_n C.1 C.2.1 dX8_setting_17 rfl (lv_at hl 0 rfl) ?_
    refine k_get (v := .ref (wAd w 1)) C hP (C9 C (lt_NoisePost h0_NoisePost)) (ob_NoisePost h0_NoisePost w L _) rfl iX8 0 (by decide) q273 rfl dX8_setting_18 ?_
    refine k_get (v := .ref (wAd w 4)) C hP (C9 C (lt_State to_NoisePost_state)) (ob_State to_NoisePost_state w L _) rfl iX5 2 (by decide) q48 rfl dX8_setting_21 ?_
    refine lv_iload_n C.1 C.2.1 dX8_setting_24 rfl (lv_at hl 1 rfl) ?_
    obtain ⟨x3, hx3, hf⟩ := ob hf
    refine k_iald C hP (C9 C (la_State_settings to_NoisePost_state)) (ar_State_settings to_NoisePost_state w L _) hx3 dX8_setting_25 ?_
    cases hf
    exact kri C hP hS dX8_setting_26
  · have hf := (if_pos c2).symm.trans hf
    cases hf
theorem dX8_ifSet_0 : decode cX8_ifSet 0 = .ok (.iload_n 1, 1) := by decide +kernel
theorem dX8_ifSet_1 : decode cX8_ifSet 1 = .ok (.invokestatic 47, 3) := by decide +kernel
theorem dX8_ifSet_4 : decode cX8_ifSet 4 = .ok (.ifCond .ne 13, 3) := by decide +kernel
theorem dX8_ifSet_7 : decode cX8_ifSet 7 = .ok (.new 51, 3) := by decide +kernel
theorem dX8_ifSet_10 : decode cX8_ifSet 10 = .ok (.dup, 1) := by decide +kernel
theorem dX8_ifSet_11 : decode cX8_ifSet 11 = .ok (.ldc 53, 2) := by decide +kernel
theorem dX8_ifSet_13 : decode cX8_ifSet 13 = .ok (.invokespecial 55, 3) := by decide +kernel
theorem dX8_ifSet_16 : decode cX8_ifSet 16 = .ok (.athrow, 1) := by decide +kernel
theorem dX8_ifSet_17 : decode cX8_ifSet 17 = .ok (.iload_n 1, 1) := by decide +kernel
theorem dX8_ifSet_18 : decode cX8_ifSet 18 = .ok (.iload_n 2, 1) := by decide +kernel
theorem dX8_ifSet_19 : decode cX8_ifSet 19 = .ok (.invokestatic 58, 3) := by decide +kernel
theorem dX8_ifSet_22 : decode cX8_ifSet 22 = .ok (.ifCond .eq 13, 3) := by decide +kernel
theorem dX8_ifSet_25 : decode cX8_ifSet 25 = .ok (.iload_n 3, 1) := by decide +kernel
theorem dX8_ifSet_26 : decode cX8_ifSet 26 = .ok (.ifCond .lt 9, 3) := by decide +kernel
theorem dX8_ifSet_29 : decode cX8_ifSet 29 = .ok (.iload_n 3, 1) := by decide +kernel
theorem dX8_ifSet_30 : decode cX8_ifSet 30 = .ok (.bipush 9, 2) := by decide +kernel
theorem dX8_ifSet_32 : decode cX8_ifSet 32 = .ok (.if_icmp .le 13, 3) := by decide +kernel
theorem dX8_ifSet_35 : decode cX8_ifSet 35 = .ok (.new 62, 3) := by decide +kernel
theorem dX8_ifSet_38 : decode cX8_ifSet 38 = .ok (.dup, 1) := by decide +kernel
theorem dX8_ifSet_39 : decode cX8_ifSet 39 = .ok (.ldc 229, 2) := by decide +kernel
theorem dX8_ifSet_41 : decode cX8_ifSet 41 = .ok (.invokespecial 66, 3) := by decide +kernel
theorem dX8_ifSet_44 : decode cX8_ifSet 44 = .ok (.athrow, 1) := by decide +kernel
theorem dX8_ifSet_45 : decode cX8_ifSet 45 = .ok (.aload_n 0, 1) := by decide +kernel
theorem dX8_ifSet_46 : decode cX8_ifSet 46 = .ok (.getfield 37, 3) := by decide +kernel
theorem dX8_ifSet_49 : decode cX8_ifSet 49 = .ok (.aload_n 0, 1) := by decide +kernel
theorem dX8_ifSet_50 : decode cX8_ifSet 50 = .ok (.getfield 10, 3) := by decide +kernel
theorem dX8_ifSet_53 : decode cX8_ifSet 53 = .ok (.getfield 71, 3) := by decide +kernel
theorem dX8_ifSet_56 : decode cX8_ifSet 56 = .ok (.invokevirtual 231, 3) := by decide +kernel
theorem dX8_ifSet_59 : decode cX8_ifSet 59 = .ok (.aload_n 0, 1) := by decide +kernel
theorem dX8_ifSet_60 : decode cX8_ifSet 60 = .ok (.getfield 37, 3) := by decide +kernel
theorem dX8_ifSet_63 : decode cX8_ifSet 63 = .ok (.getfield 235, 3) := by decide +kernel
theorem dX8_ifSet_66 : decode cX8_ifSet 66 = .ok (.iload_n 1, 1) := by decide +kernel
theorem dX8_ifSet_67 : decode cX8_ifSet 67 = .ok (.iload_n 2, 1) := by decide +kernel
theorem dX8_ifSet_68 : decode cX8_ifSet 68 = .ok (.iastore, 1) := by decide +kernel
theorem dX8_ifSet_69 : decode cX8_ifSet 69 = .ok (.aload_n 0, 1) := by decide +kernel
theorem dX8_ifSet_70 : decode cX8_ifSet 70 = .ok (.getfield 37, 3) := by decide +kernel
theorem dX8_ifSet_73 : decode cX8_ifSet 73 = .ok (.aload_n 0, 1) := by decide +kernel
theorem dX8_ifSet_74 : decode cX8_ifSet 74 = .ok (.getfield 10, 3) := by decide +kernel
theorem dX8_ifSet_77 : decode cX8_ifSet 77 = .ok (.invokevirtual 236, 3) := by decide +kernel
theorem dX8_ifSet_80 : decode cX8_ifSet 80 = .ok (.aload_n 0, 1) := by decide +kernel
theorem dX8_ifSet_81 : decode cX8_ifSet 81 = .ok (.getfield 37, 3) := by decide +kernel
theorem dX8_ifSet_84 : decode cX8_ifSet 84 = .ok (.iload_n 3, 1) := by decide +kernel
theorem dX8_ifSet_85 : decode cX8_ifSet 85 = .ok (.invokevirtual 239, 3) := by decide +kernel
theorem dX8_ifSet_88 : decode cX8_ifSet 88 = .ok (.ireturn, 1) := by decide +kernel
set_option maxHeartbeats 4000000 in
set_option maxRecDepth 100000 in
theorem w_X8_ifSet_j35 {w : WT} {l : Launch} {p : Program} {e : Env} {s : State} {m : MethodId} {args : Array Value} {below : List Frame} {meth : Method} {c : Code} (C : KC w p s m args meth c cX8_ifSet 4 RX8 (some .int)) {M : Mem} {L : Lng} {out : Int32 × Mem} (hf : f_X8_ifSet_j35 M = some out) : AtL w p l e ({ frames := 5, cells := 0, slots := 0, locals := 111 } : Room) s m args below meth c (MQ below (QI w out.1 out.2 L) args s 0 0 (wA w)) 4 35 M L [] [] := by
  intro H locs ls hP hS hl
  unfold f_X8_ifSet_j35 at hf
  cases hf
set_option maxHeartbeats 4000000 in
set_option maxRecDepth 100000 in
theorem c_X8_ifSet (w : WT) (l : Launch) (hw : WOK w) {a1 : Int32} {a2 : Int32} {a3 : Int32} {M : Mem} {L : Lng} {out : Int32 × Mem} (hf : f_X8_ifSet a1 a2 a3 M = some out) : Met l yX8_ifSet (Cond.code yX8_ifSet cX8_ifSet 4 (some .int) :: BG) ({ frames := 5, cells := 0, slots := 0, locals := 111 } : Room) (PRE w [.ref (wAd w 0), .int a1, .int a2, .int a3] M L) (QI w out.1 out.2 L) 0 0 (wA w) := by
  refine kEnt hw (by decide +kernel) rfl (Nat.le_of_ble_eq_true rfl) ?_
  intro p e s m args below meth c C ls hl hP
  have hS : va_S (wA w) s.heap s.heap [] := va_S.rf
  have hl : lv_has ls 4 [(0, .ref (wAd w 0)), (1, .int a1), (2, .int a2), (3, .int a3)] := hl
  unfold f_X8_ifSet at hf
  refine lv_iload_n C.1 C.2.1 dX8_ifSet_0 rfl (lv_at hl 1 rfl) ?_
  obtain ⟨r1, hr1, hf⟩ := ob hf
  refine kci (kS (As := [.int a1]) (rest := []) C hl.1 hP hS (c_X8_isSetting w l C.2.2.2.2.2.2.2.2 (L := L) hr1) (gS q471 q472 q1 q473) hd_X8_isSetting ⟨rfl, rfl⟩ ⟨Nat.le_of_ble_eq_true rfl, Nat.le_of_ble_eq_true rfl⟩ rfl rfl (Nat.le_of_ble_eq_true rfl) dX8_ifSet_1 ⟨Nat.zero_le _, Nat.zero_le _⟩) hS (fun H locs hP hS => ?_)
  refine lv_if_ne (tgt := 17) C.1 C.2.1 dX8_ifSet_4 (by decide) (fun c2 => ?_) (fun c2 => ?_)
  · have hf := (if_neg c2).symm.trans hf
    refine lv_iload_n C.1 C.2.1 dX8_ifSet_17 rfl (lv_at hl 1 rfl) ?_
    refine lv_iload_n C.1 C.2.1 dX8_ifSet_18 rfl (lv_at hl 2 rfl) ?_
    obtain ⟨r3, hr3, hf⟩ := ob hf
    refine kci (kS (As := [.int a1, .int a2]) (rest := []) C hl.1 hP hS (c_X8_fitsSetting w l C.2.2.2.2.2.2.2.2 (L := L) hr3) (gS q516 q517 q1 q518) hd_X8_fitsSetting ⟨rfl, rfl⟩ ⟨Nat.le_of_ble_eq_true rfl, Nat.le_of_ble_eq_true rfl⟩ rfl rfl (Nat.le_of_ble_eq_true rfl) dX8_ifSet_19 ⟨Nat.zero_le _, Nat.zero_le _⟩) hS (fun H locs hP hS => ?_)
    refine lv_if_eq (tgt := 35) C.1 C.2.1 dX8_ifSet_22 (by decide) (fun c4 => ?_) (fun c4 => ?_)
    · have hf := (if_pos c4).symm.trans hf
      exact w_X8_ifSet_j35 C hf _ _ _ hP hS (lv_sub hl [] rfl)
    · have hf := (if_neg c4).symm.trans hf
      refine lv_iload_n C.1 C.2.1 dX8_ifSet_25 rfl (lv_at hl 3 rfl) ?_
      refine lv_if_lt (tgt := 35) C.1 C.2.1 dX8_ifSet_26 (by decide) (fun c5 => ?_) (fun c5 => ?_)
      · have hf := (if_pos c5).symm.trans hf
        exact w_X8_ifSet_j35 C hf _ _ _ hP hS (lv_sub hl [] rfl)
      · have hf := (if_neg c5).symm.trans hf
        refine lv_iload_n C.1 C.2.1 dX8_ifSet_29 rfl (lv_at hl 3 rfl) ?_
        refine lv_bipush (v := 9) C.1 C.2.1 dX8_ifSet_30 (by decide) ?_
        refine lv_icmp_le (tgt := 45) C.1 C.2.1 dX8_ifSet_32 (by decide) (fun c6 => ?_) (fun c6 => ?_)
        · have hf := (if_pos c6).symm.trans hf
          refine lv_aload_n C.1 C.2.1 dX8_ifSet_45 rfl (lv_at hl 0 rfl) ?_
          refine k_get (v := .ref (wAd w 71)) C hP (C9 C (lt_NoisePost h0_NoisePost)) (ob_NoisePost h0_NoisePost w L _) rfl iX8 4 (by decide) q277 rfl dX8_ifSet_46 ?_
          refine lv_aload_n C.1 C.2.1 dX8_ifSet_49 rfl (lv_at hl 0 rfl) ?_
          refine k_get (v := .ref (wAd w 1)) C hP (C9 C (lt_NoisePost h0_NoisePost)) (ob_NoisePost h0_NoisePost w L _) rfl iX8 0 (by decide) q273 rfl dX8_ifSet_50 ?_
          refine k_get (v := .ref (wAd w 4)) C hP (C9 C (lt_State to_NoisePost_state)) (ob_State to_NoisePost_state w L _) rfl iX5 2 (by decide) q48 rfl dX8_ifSet_53 ?_
          obtain ⟨r7, hr7, hf⟩ := ob hf
          refine kcv (kV (As := [.ref (wAd w 4)]) (rest := []) C hl.1 hP hS (c_X7_takeSettings w l C.2.2.2.2.2.2.2.2 to_NoisePost_tried s_St (L := L) hr7) (gV q524 q525 q526 q5 q527) hd_X7_takeSettings (C9 C (lt_View to_NoisePost_tried)) (ob_View to_NoisePost_tried w L _) rfl ⟨rfl, rfl⟩ ⟨Nat.le_of_ble_eq_true rfl, Nat.le_of_ble_eq_true rfl⟩ rfl rfl (Nat.le_of_ble_eq_true rfl) dX8_ifSet_56 ⟨Nat.zero_le _, Nat.zero_le _⟩) hS (fun H locs hP hS => ?_)
          refine lv_aload_n C.1 C.2.1 dX8_ifSet_59 rfl (lv_at hl 0 rfl) ?_
          refine k_get (v := .ref (wAd w 71)) C hP (C9 C (lt_NoisePost h0_NoisePost)) (ob_NoisePost h0_NoisePost w L _) rfl iX8 4 (by decide) q277 rfl dX8_ifSet_60 ?_
          refine k_get (v := .ref (wAd w 72)) C hP (C9 C (lt_View to_NoisePost_tried)) (ob_View to_NoisePost_tried w L _) rfl iX7 0 (by decide) q246 rfl dX8_ifSet_63 ?_
          refine lv_iload_n C.1 C.2.1 dX8_ifSet_66 rfl (lv_at hl 1 rfl) ?_
          refine lv_iload_n C.1 C.2.1 dX8_ifSet_67 rfl (lv_at hl 2 rfl) ?_
          obtain ⟨M8, hM8, hf⟩ := ob hf
          refine k_iast C hP hS (C9 C (la_View_settings to_NoisePost_tried)) (ar_View_settings to_NoisePost_tried w L) hM8 dX8_ifSet_68 (fun H locs hP hS => ?_)
          refine lv_aload_n C.1 C.2.1 dX8_ifSet_69 rfl (lv_at hl 0 rfl) ?_
          refine k_get (v := .ref (wAd w 71)) C hP (C9 C (lt_NoisePost h0_NoisePost)) (ob_NoisePost h0_NoisePost w L _) rfl iX8 4 (by decide) q277 rfl dX8_ifSet_70 ?_
          refine lv_aload_n C.1 C.2.1 dX8_ifSet_73 rfl (lv_at hl 0 rfl) ?_
          refine k_get (v := .ref (wAd w 1)) C hP (C9 C (lt_NoisePost h0_NoisePost)) (ob_NoisePost h0_NoisePost w L _) rfl iX8 0 (by decide) q273 rfl dX8_ifSet_74 ?_
          obtain ⟨r9, hr9, hf⟩ := ob hf
          refine kcv (kV (As := [.ref (wAd w 1)]) (rest := []) C hl.1 hP hS (c_X7_look w l C.2.2.2.2.2.2.2.2 to_NoisePost_tried to_NoisePost_state (L := L) hr9) (gV q531 q532 q533 q5 q534) hd_X7_look (C9 C (lt_View to_NoisePost_tried)) (ob_View to_NoisePost_tried w L _) rfl ⟨rfl, rfl⟩ ⟨Nat.le_of_ble_eq_true rfl, Nat.le_of_ble_eq_true rfl⟩ rfl rfl (Nat.le_of_ble_eq_true rfl) dX8_ifSet_77 ⟨Nat.zero_le _, Nat.zero_le _⟩) hS (fun H locs hP hS => ?_)
          refine lv_aload_n C.1 C.2.1 dX8_ifSet_80 rfl (lv_at hl 0 rfl) ?_
          refine k_get (v := .ref (wAd w 71)) C hP (C9 C (lt_NoisePost h0_NoisePost)) (ob_NoisePost h0_NoisePost w L _) rfl iX8 4 (by decide) q277 rfl dX8_ifSet_81 ?_
          refine lv_iload_n C.1 C.2.1 dX8_ifSet_84 rfl (lv_at hl 3 rfl) ?_
          obtain ⟨r10, hr10, hf⟩ := ob hf
          refine kci (kV (As := [.int a3]) (rest := []) C hl.1 hP hS (c_X7_numberOf w l C.2.2.2.2.2.2.2.2 to_NoisePost_tried (L := L) hr10) (gV q368 q369 q370 q5 q371) hd_X7_numberOf (C9 C (lt_View to_NoisePost_tried)) (ob_View to_NoisePost_tried w L _) rfl ⟨rfl, rfl⟩ ⟨Nat.le_of_ble_eq_true rfl, Nat.le_of_ble_eq_true rfl⟩ rfl rfl (Nat.le_of_ble_eq_true rfl) dX8_ifSet_85 ⟨Nat.zero_le _, Nat.zero_le _⟩) hS (fun H locs hP hS => ?_)
          cases hf
          exact kri C hP hS dX8_ifSet_88
        · have hf := (if_neg c6).symm.trans hf
          exact w_X8_ifSet_j35 C hf _ _ _ hP hS (lv_sub hl [] rfl)
  · have hf := (if_pos c2).symm.trans hf
    cases hf
theorem dX8_leastLimit_0 : decode cX8_leastLimit 0 = .ok (.iload_n 1, 1) := by decide +kernel
theorem dX8_leastLimit_1 : decode cX8_leastLimit 1 = .ok (.ifCond .lt 10, 3) := by decide +kernel
theorem dX8_leastLimit_4 : decode cX8_leastLimit 4 = .ok (.iload_n 1, 1) := by decide +kernel
theorem dX8_leastLimit_5 : decode cX8_leastLimit 5 = .ok (.sipush 200, 3) := by decide +kernel
theorem dX8_leastLimit_8 : decode cX8_leastLimit 8 = .ok (.if_icmp .le 13, 3) := by decide +kernel
theorem dX8_leastLimit_11 : decode cX8_leastLimit 11 = .ok (.new 62, 3) := by decide +kernel
theorem dX8_leastLimit_14 : decode cX8_leastLimit 14 = .ok (.dup, 1) := by decide +kernel
theorem dX8_leastLimit_15 : decode cX8_leastLimit 15 = .ok (.ldc 240, 2) := by decide +kernel
theorem dX8_leastLimit_17 : decode cX8_leastLimit 17 = .ok (.invokespecial 66, 3) := by decide +kernel
theorem dX8_leastLimit_20 : decode cX8_leastLimit 20 = .ok (.athrow, 1) := by decide +kernel
theorem dX8_leastLimit_21 : decode cX8_leastLimit 21 = .ok (.aload_n 0, 1) := by decide +kernel
theorem dX8_leastLimit_22 : decode cX8_leastLimit 22 = .ok (.getfield 33, 3) := by decide +kernel
theorem dX8_leastLimit_25 : decode cX8_leastLimit 25 = .ok (.iload_n 1, 1) := by decide +kernel
theorem dX8_leastLimit_26 : decode cX8_leastLimit 26 = .ok (.invokevirtual 242, 3) := by decide +kernel
theorem dX8_leastLimit_29 : decode cX8_leastLimit 29 = .ok (.ireturn, 1) := by decide +kernel
set_option maxHeartbeats 4000000 in
set_option maxRecDepth 100000 in
theorem w_X8_leastLimit_j11 {w : WT} {l : Launch} {p : Program} {e : Env} {s : State} {m : MethodId} {args : Array Value} {below : List Frame} {meth : Method} {c : Code} (C : KC w p s m args meth c cX8_leastLimit 2 RX8 (some .int)) {M : Mem} {L : Lng} {out : Int32} (hf : f_X8_leastLimit_j11 M = some out) : AtL w p l e ({ frames := 5, cells := 0, slots := 0, locals := 113 } : Room) s m args below meth c (MQ below (QI w out M L) args s 0 0 (wA w)) 2 11 M L [] [] := by
  intro H locs ls hP hS hl
  unfold f_X8_leastLimit_j11 at hf
  cases hf
set_option maxHeartbeats 4000000 in
set_option maxRecDepth 100000 in
theorem c_X8_leastLimit (w : WT) (l : Launch) (hw : WOK w) {a1 : Int32} {M : Mem} {L : Lng} {out : Int32} (hf : f_X8_leastLimit a1 M = some out) : Met l yX8_leastLimit (Cond.code yX8_leastLimit cX8_leastLimit 2 (some .int) :: BG) ({ frames := 5, cells := 0, slots := 0, locals := 113 } : Room) (PRE w [.ref (wAd w 0), .int a1] M L) (QI w out M L) 0 0 (wA w) := by
  refine kEnt hw (by decide +kernel) rfl (Nat.le_of_ble_eq_true rfl) ?_
  intro p e s m args below meth c C ls hl hP
  have hS : va_S (wA w) s.heap s.heap [] := va_S.rf
  have hl : lv_has ls 2 [(0, .ref (wAd w 0)), (1, .int a1)] := hl
  unfold f_X8_leastLimit at hf
  refine lv_iload_n C.1 C.2.1 dX8_leastLimit_0 rfl (lv_at hl 1 rfl) ?_
  refine lv_if_lt (tgt := 11) C.1 C.2.1 dX8_leastLimit_1 (by decide) (fun c1 => ?_) (fun c1 => ?_)
  · have hf := (if_pos c1).symm.trans hf
    exact w_X8_leastLimit_j11 C hf _ _ _ hP hS (lv_sub hl [] rfl)
  · have hf := (if_neg c1).symm.trans hf
    refine lv_iload_n C.1 C.2.1 dX8_leastLimit_4 rfl (lv_at hl 1 rfl) ?_
    refine lv_sipush (v := 200) C.1 C.2.1 dX8_leastLimit_5 (by decide) ?_
    refine lv_icmp_le (tgt := 21) C.1 C.2.1 dX8_leastLimit_8 (by decide) (fun c2 => ?_) (fun c2 => ?_)
    · have hf := (if_pos c2).symm.trans hf
      refine lv_aload_n C.1 C.2.1 dX8_leastLimit_21 rfl (lv_at hl 0 rfl) ?_
      refine k_get (v := .ref (wAd w 54)) C hP (C9 C (lt_NoisePost h0_NoisePost)) (ob_NoisePost h0_NoisePost w L _) rfl iX8 3 (by decide) q276 rfl dX8_leastLimit_22 ?_
      refine lv_iload_n C.1 C.2.1 dX8_leastLimit_25 rfl (lv_at hl 1 rfl) ?_
      obtain ⟨r3, hr3, hf⟩ := ob hf
      refine kci (kV (As := [.int a1]) (rest := []) C hl.1 hP hS (c_X7_leastLimitFor w l C.2.2.2.2.2.2.2.2 to_NoisePost_now (L := L) hr3) (gV q597 q598 q599 q5 q600) hd_X7_leastLimitFor (C9 C (lt_View to_NoisePost_now)) (ob_View to_NoisePost_now w L _) rfl ⟨rfl, rfl⟩ ⟨Nat.le_of_ble_eq_true rfl, Nat.le_of_ble_eq_true rfl⟩ rfl rfl (Nat.le_of_ble_eq_true rfl) dX8_leastLimit_26 ⟨Nat.zero_le _, Nat.zero_le _⟩) hS (fun H locs hP hS => ?_)
      cases hf
      exact kri C hP hS dX8_leastLimit_29
    · have hf := (if_neg c2).symm.trans hf
      exact w_X8_leastLimit_j11 C hf _ _ _ hP hS (lv_sub hl [] rfl)
theorem dX8_aboveIn_0 : decode cX8_aboveIn 0 = .ok (.iload_n 1, 1) := by decide +kernel
theorem dX8_aboveIn_1 : decode cX8_aboveIn 1 = .ok (.invokestatic 78, 3) := by decide +kernel
theorem dX8_aboveIn_4 : decode cX8_aboveIn 4 = .ok (.ifCond .ne 13, 3) := by decide +kernel
theorem dX8_aboveIn_7 : decode cX8_aboveIn 7 = .ok (.new 62, 3) := by decide +kernel
theorem dX8_aboveIn_10 : decode cX8_aboveIn 10 = .ok (.dup, 1) := by decide +kernel
theorem dX8_aboveIn_11 : decode cX8_aboveIn 11 = .ok (.ldc 207, 2) := by decide +kernel
theorem dX8_aboveIn_13 : decode cX8_aboveIn 13 = .ok (.invokespecial 66, 3) := by decide +kernel
theorem dX8_aboveIn_16 : decode cX8_aboveIn 16 = .ok (.athrow, 1) := by decide +kernel
theorem dX8_aboveIn_17 : decode cX8_aboveIn 17 = .ok (.aload_n 0, 1) := by decide +kernel
theorem dX8_aboveIn_18 : decode cX8_aboveIn 18 = .ok (.getfield 33, 3) := by decide +kernel
theorem dX8_aboveIn_21 : decode cX8_aboveIn 21 = .ok (.iload_n 1, 1) := by decide +kernel
theorem dX8_aboveIn_22 : decode cX8_aboveIn 22 = .ok (.invokevirtual 245, 3) := by decide +kernel
theorem dX8_aboveIn_25 : decode cX8_aboveIn 25 = .ok (.ireturn, 1) := by decide +kernel
set_option maxHeartbeats 4000000 in
set_option maxRecDepth 100000 in
theorem c_X8_aboveIn (w : WT) (l : Launch) (hw : WOK w) {a1 : Int32} {M : Mem} {L : Lng} {out : Int32} (hf : f_X8_aboveIn a1 M = some out) : Met l yX8_aboveIn (Cond.code yX8_aboveIn cX8_aboveIn 2 (some .int) :: BG) ({ frames := 4, cells := 0, slots := 0, locals := 89 } : Room) (PRE w [.ref (wAd w 0), .int a1] M L) (QI w out M L) 0 0 (wA w) := by
  refine kEnt hw (by decide +kernel) rfl (Nat.le_of_ble_eq_true rfl) ?_
  intro p e s m args below meth c C ls hl hP
  have hS : va_S (wA w) s.heap s.heap [] := va_S.rf
  have hl : lv_has ls 2 [(0, .ref (wAd w 0)), (1, .int a1)] := hl
  unfold f_X8_aboveIn at hf
  refine lv_iload_n C.1 C.2.1 dX8_aboveIn_0 rfl (lv_at hl 1 rfl) ?_
  obtain ⟨r1, hr1, hf⟩ := ob hf
  refine kci (kS (As := [.int a1]) (rest := []) C hl.1 hP hS (c_X8_isLevel w l C.2.2.2.2.2.2.2.2 (L := L) hr1) (gS q485 q486 q1 q487) hd_X8_isLevel ⟨rfl, rfl⟩ ⟨Nat.le_of_ble_eq_true rfl, Nat.le_of_ble_eq_true rfl⟩ rfl rfl (Nat.le_of_ble_eq_true rfl) dX8_aboveIn_1 ⟨Nat.zero_le _, Nat.zero_le _⟩) hS (fun H locs hP hS => ?_)
  refine lv_if_ne (tgt := 17) C.1 C.2.1 dX8_aboveIn_4 (by decide) (fun c2 => ?_) (fun c2 => ?_)
  · have hf := (if_neg c2).symm.trans hf
    refine lv_aload_n C.1 C.2.1 dX8_aboveIn_17 rfl (lv_at hl 0 rfl) ?_
    refine k_get (v := .ref (wAd w 54)) C hP (C9 C (lt_NoisePost h0_NoisePost)) (ob_NoisePost h0_NoisePost w L _) rfl iX8 3 (by decide) q276 rfl dX8_aboveIn_18 ?_
    refine lv_iload_n C.1 C.2.1 dX8_aboveIn_21 rfl (lv_at hl 1 rfl) ?_
    obtain ⟨r3, hr3, hf⟩ := ob hf
    refine kci (kV (As := [.int a1]) (rest := []) C hl.1 hP hS (c_X7_minutesUntilAbove w l C.2.2.2.2.2.2.2.2 to_NoisePost_now (L := L) hr3) (gV q615 q616 q617 q5 q618) hd_X7_minutesUntilAbove (C9 C (lt_View to_NoisePost_now)) (ob_View to_NoisePost_now w L _) rfl ⟨rfl, rfl⟩ ⟨Nat.le_of_ble_eq_true rfl, Nat.le_of_ble_eq_true rfl⟩ rfl rfl (Nat.le_of_ble_eq_true rfl) dX8_aboveIn_22 ⟨Nat.zero_le _, Nat.zero_le _⟩) hS (fun H locs hP hS => ?_)
    cases hf
    exact kri C hP hS dX8_aboveIn_25
  · have hf := (if_pos c2).symm.trans hf
    cases hf
theorem dX8_share_0 : decode cX8_share 0 = .ok (.aload_n 0, 1) := by decide +kernel
theorem dX8_share_1 : decode cX8_share 1 = .ok (.getfield 33, 3) := by decide +kernel
theorem dX8_share_4 : decode cX8_share 4 = .ok (.getfield 214, 3) := by decide +kernel
theorem dX8_share_7 : decode cX8_share 7 = .ok (.invokevirtual 248, 3) := by decide +kernel
theorem dX8_share_10 : decode cX8_share 10 = .ok (.dreturn, 1) := by decide +kernel
set_option maxHeartbeats 4000000 in
set_option maxRecDepth 100000 in
theorem c_X8_share (w : WT) (l : Launch) (hw : WOK w) {M : Mem} {L : Lng} {out : UInt64} (hf : f_X8_share M = some out) : Met l yX8_share (Cond.code yX8_share cX8_share 1 (some .double) :: BG) ({ frames := 1, cells := 0, slots := 0, locals := 20 } : Room) (PRE w [.ref (wAd w 0)] M L) (QD w out M L) 0 0 (wA w) := by
  refine kEnt hw (by decide +kernel) rfl (Nat.le_of_ble_eq_true rfl) ?_
  intro p e s m args below meth c C ls hl hP
  have hS : va_S (wA w) s.heap s.heap [] := va_S.rf
  have hl : lv_has ls 1 [(0, .ref (wAd w 0))] := hl
  unfold f_X8_share at hf
  refine lv_aload_n C.1 C.2.1 dX8_share_0 rfl (lv_at hl 0 rfl) ?_
  refine k_get (v := .ref (wAd w 54)) C hP (C9 C (lt_NoisePost h0_NoisePost)) (ob_NoisePost h0_NoisePost w L _) rfl iX8 3 (by decide) q276 rfl dX8_share_1 ?_
  refine k_get (v := .ref (wAd w 56)) C hP (C9 C (lt_View to_NoisePost_now)) (ob_View to_NoisePost_now w L _) rfl iX7 1 (by decide) q248 rfl dX8_share_4 ?_
  obtain ⟨r1, hr1, hf⟩ := ob hf
  refine kcd (kV (As := []) (rest := []) C hl.1 hP hS (c_X4_shareAbove w l C.2.2.2.2.2.2.2.2 (to_View_minutes to_NoisePost_now) (L := L) hr1) (gV q502 q503 q504 q6 q505) hd_X4_shareAbove (C9 C (lt_Minutes (to_View_minutes to_NoisePost_now))) (ob_Minutes (to_View_minutes to_NoisePost_now) w L _) rfl ⟨rfl, rfl⟩ ⟨Nat.le_of_ble_eq_true rfl, Nat.le_of_ble_eq_true rfl⟩ rfl rfl (Nat.le_of_ble_eq_true rfl) dX8_share_7 ⟨Nat.zero_le _, Nat.zero_le _⟩) hS (fun H locs hP hS => ?_)
  cases hf
  exact krd C hP hS dX8_share_10
theorem dL_at_0 : decode cL_at 0 = .ok (.iload_n 0, 1) := by decide +kernel
theorem dL_at_1 : decode cL_at 1 = .ok (.iconst 1, 1) := by decide +kernel
theorem dL_at_2 : decode cL_at 2 = .ok (.iushr, 1) := by decide +kernel
theorem dL_at_3 : decode cL_at 3 = .ok (.iload_n 1, 1) := by decide +kernel
theorem dL_at_4 : decode cL_at 4 = .ok (.irem, 1) := by decide +kernel
theorem dL_at_5 : decode cL_at 5 = .ok (.ireturn, 1) := by decide +kernel
set_option maxHeartbeats 4000000 in
set_option maxRecDepth 100000 in
theorem c_L_at (w : WT) (l : Launch) (hw : WOK w) {a0 : Int32} {a1 : Int32} {M : Mem} {L : Lng} {out : Int32} (hf : f_L_at a0 a1 M = some out) : Met l yL_at (Cond.code yL_at cL_at 2 (some .int) :: BG) ({ frames := 0, cells := 0, slots := 0, locals := 0 } : Room) (PRE w [.int a0, .int a1] M L) (QI w out M L) 0 0 (wA w) := by
  refine kEnt hw (by decide +kernel) rfl (Nat.le_of_ble_eq_true rfl) ?_
  intro p e s m args below meth c C ls hl hP
  have hS : va_S (wA w) s.heap s.heap [] := va_S.rf
  have hl : lv_has ls 2 [(0, .int a0), (1, .int a1)] := hl
  unfold f_L_at at hf
  refine lv_iload_n C.1 C.2.1 dL_at_0 rfl (lv_at hl 0 rfl) ?_
  refine lv_iconst (v := 1) C.1 C.2.1 dL_at_1 (by decide) ?_
  refine lv_iushr (v := (ushr a0 1)) C.1 C.2.1 dL_at_2 rfl ?_
  refine lv_iload_n C.1 C.2.1 dL_at_3 rfl (lv_at hl 1 rfl) ?_
  obtain ⟨x1, hx1, hf⟩ := ob hf
  refine k_irem C hx1 dL_at_4 ?_
  cases hf
  exact kri C hP hS dL_at_5
theorem dL_rest_0 : decode cL_rest 0 = .ok (.iload_n 0, 1) := by decide +kernel
theorem dL_rest_1 : decode cL_rest 1 = .ok (.bipush 60, 2) := by decide +kernel
theorem dL_rest_3 : decode cL_rest 3 = .ok (.irem, 1) := by decide +kernel
theorem dL_rest_4 : decode cL_rest 4 = .ok (.aload_n 1, 1) := by decide +kernel
theorem dL_rest_5 : decode cL_rest 5 = .ok (.iconst 2, 1) := by decide +kernel
theorem dL_rest_6 : decode cL_rest 6 = .ok (.iaload, 1) := by decide +kernel
theorem dL_rest_7 : decode cL_rest 7 = .ok (.isub, 1) := by decide +kernel
theorem dL_rest_8 : decode cL_rest 8 = .ok (.istore_n 2, 1) := by decide +kernel
theorem dL_rest_9 : decode cL_rest 9 = .ok (.iload_n 2, 1) := by decide +kernel
theorem dL_rest_10 : decode cL_rest 10 = .ok (.ifCond .ge 6, 3) := by decide +kernel
theorem dL_rest_13 : decode cL_rest 13 = .ok (.iinc 2 60, 3) := by decide +kernel
theorem dL_rest_16 : decode cL_rest 16 = .ok (.iload_n 2, 1) := by decide +kernel
theorem dL_rest_17 : decode cL_rest 17 = .ok (.aload_n 1, 1) := by decide +kernel
theorem dL_rest_18 : decode cL_rest 18 = .ok (.iconst 3, 1) := by decide +kernel
theorem dL_rest_19 : decode cL_rest 19 = .ok (.iaload, 1) := by decide +kernel
theorem dL_rest_20 : decode cL_rest 20 = .ok (.if_icmp .ge 7, 3) := by decide +kernel
theorem dL_rest_23 : decode cL_rest 23 = .ok (.iconst 1, 1) := by decide +kernel
theorem dL_rest_24 : decode cL_rest 24 = .ok (.goto 4, 3) := by decide +kernel
theorem dL_rest_27 : decode cL_rest 27 = .ok (.iconst 0, 1) := by decide +kernel
theorem dL_rest_28 : decode cL_rest 28 = .ok (.ireturn, 1) := by decide +kernel
set_option maxHeartbeats 4000000 in
set_option maxRecDepth 100000 in
theorem w_L_rest_j16 {w : WT} {l : Launch} {p : Program} {e : Env} {s : State} {m : MethodId} {args : Array Value} {below : List Frame} {meth : Method} {c : Code} (C : KC w p s m args meth c cL_rest 3 RL (some .boolean)) {v2 : Int32} {M : Mem} {L : Lng} {out : Int32} (hf : f_L_rest_j16 v2 M = some out) : AtL w p l e ({ frames := 0, cells := 0, slots := 0, locals := 0 } : Room) s m args below meth c (MQ below (QI w out M L) args s 0 0 (wA w)) 3 16 M L [(1, .ref (wAd w 94)), (2, .int v2)] [] := by
  intro H locs ls hP hS hl
  unfold f_L_rest_j16 at hf
  refine lv_iload_n C.1 C.2.1 dL_rest_16 rfl (lv_at hl 1 rfl) ?_
  refine lv_aload_n C.1 C.2.1 dL_rest_17 rfl (lv_at hl 0 rfl) ?_
  refine lv_iconst (v := 3) C.1 C.2.1 dL_rest_18 (by decide) ?_
  obtain ⟨x4, hx4, hf⟩ := ob hf
  refine k_iald C hP (C9 C (Nat.le_of_ble_eq_true rfl)) (ar_L94 w L _) hx4 dL_rest_19 ?_
  refine lv_icmp_ge (tgt := 27) C.1 C.2.1 dL_rest_20 (by decide) (fun c5 => ?_) (fun c5 => ?_)
  · have hf := (if_pos c5).symm.trans hf
    refine lv_iconst (v := 0) C.1 C.2.1 dL_rest_27 (by decide) ?_
    cases hf
    exact krz C hP hS bz0 dL_rest_28
  · have hf := (if_neg c5).symm.trans hf
    refine lv_iconst (v := 1) C.1 C.2.1 dL_rest_23 (by decide) ?_
    refine lv_goto (tgt := 28) C.1 C.2.1 dL_rest_24 (by decide) ?_
    cases hf
    exact krz C hP hS bz1 dL_rest_28
set_option maxHeartbeats 4000000 in
set_option maxRecDepth 100000 in
theorem c_L_rest (w : WT) (l : Launch) (hw : WOK w) {a0 : Int32} {M : Mem} {L : Lng} {out : Int32} (hf : f_L_rest a0 M = some out) : Met l yL_rest (Cond.code yL_rest cL_rest 3 (some .boolean) :: BG) ({ frames := 0, cells := 0, slots := 0, locals := 0 } : Room) (PRE w [.int a0, .ref (wAd w 94)] M L) (QI w out M L) 0 0 (wA w) := by
  refine kEnt hw (by decide +kernel) rfl (Nat.le_of_ble_eq_true rfl) ?_
  intro p e s m args below meth c C ls hl hP
  have hS : va_S (wA w) s.heap s.heap [] := va_S.rf
  have hl : lv_has ls 3 [(0, .int a0), (1, .ref (wAd w 94))] := hl
  unfold f_L_rest at hf
  refine lv_iload_n C.1 C.2.1 dL_rest_0 rfl (lv_at hl 0 rfl) ?_
  refine lv_bipush (v := 60) C.1 C.2.1 dL_rest_1 (by decide) ?_
  obtain ⟨x1, hx1, hf⟩ := ob hf
  refine k_irem C hx1 dL_rest_3 ?_
  refine lv_aload_n C.1 C.2.1 dL_rest_4 rfl (lv_at hl 1 rfl) ?_
  refine lv_iconst (v := 2) C.1 C.2.1 dL_rest_5 (by decide) ?_
  obtain ⟨x2, hx2, hf⟩ := ob hf
  refine k_iald C hP (C9 C (Nat.le_of_ble_eq_true rfl)) (ar_L94 w L _) hx2 dL_rest_6 ?_
  refine lv_isub C.1 C.2.1 dL_rest_7 ?_
  refine lv_istore_n (lv' := [(2, .int (x1 - x2)), (0, .int a0), (1, .ref (wAd w 94))]) C.1 C.2.1 dL_rest_8 rfl hl (by decide) rfl (fun ls hl => ?_)
  refine lv_iload_n C.1 C.2.1 dL_rest_9 rfl (lv_at hl 0 rfl) ?_
  refine lv_if_ge (tgt := 16) C.1 C.2.1 dL_rest_10 (by decide) (fun c3 => ?_) (fun c3 => ?_)
  · have hf := (if_pos c3).symm.trans hf
    exact w_L_rest_j16 C hf _ _ _ hP hS (lv_sub hl [2, 0] rfl)
  · have hf := (if_neg c3).symm.trans hf
    refine lv_iinc (v := ((x1 - x2) + 60)) (lv' := [(2, .int ((x1 - x2) + 60)), (0, .int a0), (1, .ref (wAd w 94))]) C.1 C.2.1 dL_rest_13 hl (k := 0) rfl rfl (by decide) rfl (fun ls hl => ?_)
    exact w_L_rest_j16 C hf _ _ _ hP hS (lv_sub hl [2, 0] rfl)
theorem dL_limit_0 : decode cL_limit 0 = .ok (.iload_n 0, 1) := by decide +kernel
theorem dL_limit_1 : decode cL_limit 1 = .ok (.aload_n 1, 1) := by decide +kernel
theorem dL_limit_2 : decode cL_limit 2 = .ok (.invokestatic 14, 3) := by decide +kernel
theorem dL_limit_5 : decode cL_limit 5 = .ok (.ifCond .eq 9, 3) := by decide +kernel
theorem dL_limit_8 : decode cL_limit 8 = .ok (.aload_n 1, 1) := by decide +kernel
theorem dL_limit_9 : decode cL_limit 9 = .ok (.iconst 1, 1) := by decide +kernel
theorem dL_limit_10 : decode cL_limit 10 = .ok (.iaload, 1) := by decide +kernel
theorem dL_limit_11 : decode cL_limit 11 = .ok (.goto 6, 3) := by decide +kernel
theorem dL_limit_14 : decode cL_limit 14 = .ok (.aload_n 1, 1) := by decide +kernel
theorem dL_limit_15 : decode cL_limit 15 = .ok (.iconst 0, 1) := by decide +kernel
theorem dL_limit_16 : decode cL_limit 16 = .ok (.iaload, 1) := by decide +kernel
theorem dL_limit_17 : decode cL_limit 17 = .ok (.ireturn, 1) := by decide +kernel
set_option maxHeartbeats 4000000 in
set_option maxRecDepth 100000 in
theorem c_L_limit (w : WT) (l : Launch) (hw : WOK w) {a0 : Int32} {M : Mem} {L : Lng} {out : Int32} (hf : f_L_limit a0 M = some out) : Met l yL_limit (Cond.code yL_limit cL_limit 2 (some .int) :: BG) ({ frames := 1, cells := 0, slots := 0, locals := 22 } : Room) (PRE w [.int a0, .ref (wAd w 94)] M L) (QI w out M L) 0 0 (wA w) := by
  refine kEnt hw (by decide +kernel) rfl (Nat.le_of_ble_eq_true rfl) ?_
  intro p e s m args below meth c C ls hl hP
  have hS : va_S (wA w) s.heap s.heap [] := va_S.rf
  have hl : lv_has ls 2 [(0, .int a0), (1, .ref (wAd w 94))] := hl
  unfold f_L_limit at hf
  refine lv_iload_n C.1 C.2.1 dL_limit_0 rfl (lv_at hl 0 rfl) ?_
  refine lv_aload_n C.1 C.2.1 dL_limit_1 rfl (lv_at hl 1 rfl) ?_
  obtain ⟨r1, hr1, hf⟩ := ob hf
  refine kci (kS (As := [.int a0, .ref (wAd w 94)]) (rest := []) C hl.1 hP hS (c_L_rest w l C.2.2.2.2.2.2.2.2 (L := L) hr1) (gS q396 q397 q0 q398) hd_L_rest ⟨rfl, rfl⟩ ⟨Nat.le_of_ble_eq_true rfl, Nat.le_of_ble_eq_true rfl⟩ rfl rfl (Nat.le_of_ble_eq_true rfl) dL_limit_2 ⟨Nat.zero_le _, Nat.zero_le _⟩) hS (fun H locs hP hS => ?_)
  refine lv_if_eq (tgt := 14) C.1 C.2.1 dL_limit_5 (by decide) (fun c2 => ?_) (fun c2 => ?_)
  · have hf := (if_pos c2).symm.trans hf
    refine lv_aload_n C.1 C.2.1 dL_limit_14 rfl (lv_at hl 1 rfl) ?_
    refine lv_iconst (v := 0) C.1 C.2.1 dL_limit_15 (by decide) ?_
    obtain ⟨x3, hx3, hf⟩ := ob hf
    refine k_iald C hP (C9 C (Nat.le_of_ble_eq_true rfl)) (ar_L94 w L _) hx3 dL_limit_16 ?_
    cases hf
    exact kri C hP hS dL_limit_17
  · have hf := (if_neg c2).symm.trans hf
    refine lv_aload_n C.1 C.2.1 dL_limit_8 rfl (lv_at hl 1 rfl) ?_
    refine lv_iconst (v := 1) C.1 C.2.1 dL_limit_9 (by decide) ?_
    obtain ⟨x4, hx4, hf⟩ := ob hf
    refine k_iald C hP (C9 C (Nat.le_of_ble_eq_true rfl)) (ar_L94 w L _) hx4 dL_limit_10 ?_
    refine lv_goto (tgt := 17) C.1 C.2.1 dL_limit_11 (by decide) ?_
    cases hf
    exact kri C hP hS dL_limit_17
theorem dL_lay_0 : decode cL_lay 0 = .ok (.iconst 0, 1) := by decide +kernel
theorem dL_lay_1 : decode cL_lay 1 = .ok (.istore 8, 2) := by decide +kernel
theorem dL_lay_3 : decode cL_lay 3 = .ok (.iconst 0, 1) := by decide +kernel
theorem dL_lay_4 : decode cL_lay 4 = .ok (.istore 9, 2) := by decide +kernel
theorem dL_lay_6 : decode cL_lay 6 = .ok (.bipush (-100), 2) := by decide +kernel
theorem dL_lay_8 : decode cL_lay 8 = .ok (.istore 10, 2) := by decide +kernel
theorem dL_lay_10 : decode cL_lay 10 = .ok (.iconst (-1), 1) := by decide +kernel
theorem dL_lay_11 : decode cL_lay 11 = .ok (.istore 11, 2) := by decide +kernel
theorem dL_lay_13 : decode cL_lay 13 = .ok (.bipush (-100), 2) := by decide +kernel
theorem dL_lay_15 : decode cL_lay 15 = .ok (.istore 12, 2) := by decide +kernel
theorem dL_lay_17 : decode cL_lay 17 = .ok (.iconst 0, 1) := by decide +kernel
theorem dL_lay_18 : decode cL_lay 18 = .ok (.istore 13, 2) := by decide +kernel
theorem dL_lay_20 : decode cL_lay 20 = .ok (.iload 13, 2) := by decide +kernel
theorem dL_lay_22 : decode cL_lay 22 = .ok (.aload_n 2, 1) := by decide +kernel
theorem dL_lay_23 : decode cL_lay 23 = .ok (.iconst 0, 1) := by decide +kernel
theorem dL_lay_24 : decode cL_lay 24 = .ok (.iaload, 1) := by decide +kernel
theorem dL_lay_25 : decode cL_lay 25 = .ok (.if_icmp .ge 217, 3) := by decide +kernel
theorem dL_lay_28 : decode cL_lay 28 = .ok (.iload 8, 2) := by decide +kernel
theorem dL_lay_30 : decode cL_lay 30 = .ok (.bipush 10, 2) := by decide +kernel
theorem dL_lay_32 : decode cL_lay 32 = .ok (.aload_n 0, 1) := by decide +kernel
theorem dL_lay_33 : decode cL_lay 33 = .ok (.iload 13, 2) := by decide +kernel
theorem dL_lay_35 : decode cL_lay 35 = .ok (.iaload, 1) := by decide +kernel
theorem dL_lay_36 : decode cL_lay 36 = .ok (.imul, 1) := by decide +kernel
theorem dL_lay_37 : decode cL_lay 37 = .ok (.iload 8, 2) := by decide +kernel
theorem dL_lay_39 : decode cL_lay 39 = .ok (.isub, 1) := by decide +kernel
theorem dL_lay_40 : decode cL_lay 40 = .ok (.aload_n 3, 1) := by decide +kernel
theorem dL_lay_41 : decode cL_lay 41 = .ok (.bipush 8, 2) := by decide +kernel
theorem dL_lay_43 : decode cL_lay 43 = .ok (.iaload, 1) := by decide +kernel
theorem dL_lay_44 : decode cL_lay 44 = .ok (.idiv, 1) := by decide +kernel
theorem dL_lay_45 : decode cL_lay 45 = .ok (.iadd, 1) := by decide +kernel
theorem dL_lay_46 : decode cL_lay 46 = .ok (.istore 8, 2) := by decide +kernel
theorem dL_lay_48 : decode cL_lay 48 = .ok (.iload 9, 2) := by decide +kernel
theorem dL_lay_50 : decode cL_lay 50 = .ok (.bipush 10, 2) := by decide +kernel
theorem dL_lay_52 : decode cL_lay 52 = .ok (.aload_n 0, 1) := by decide +kernel
theorem dL_lay_53 : decode cL_lay 53 = .ok (.iload 13, 2) := by decide +kernel
theorem dL_lay_55 : decode cL_lay 55 = .ok (.iaload, 1) := by decide +kernel
theorem dL_lay_56 : decode cL_lay 56 = .ok (.imul, 1) := by decide +kernel
theorem dL_lay_57 : decode cL_lay 57 = .ok (.iload 9, 2) := by decide +kernel
theorem dL_lay_59 : decode cL_lay 59 = .ok (.isub, 1) := by decide +kernel
theorem dL_lay_60 : decode cL_lay 60 = .ok (.aload_n 3, 1) := by decide +kernel
theorem dL_lay_61 : decode cL_lay 61 = .ok (.bipush 9, 2) := by decide +kernel
theorem dL_lay_63 : decode cL_lay 63 = .ok (.iaload, 1) := by decide +kernel
theorem dL_lay_64 : decode cL_lay 64 = .ok (.idiv, 1) := by decide +kernel
theorem dL_lay_65 : decode cL_lay 65 = .ok (.iadd, 1) := by decide +kernel
theorem dL_lay_66 : decode cL_lay 66 = .ok (.istore 9, 2) := by decide +kernel
theorem dL_lay_68 : decode cL_lay 68 = .ok (.aload 4, 2) := by decide +kernel
theorem dL_lay_70 : decode cL_lay 70 = .ok (.iload 13, 2) := by decide +kernel
theorem dL_lay_72 : decode cL_lay 72 = .ok (.iload 8, 2) := by decide +kernel
theorem dL_lay_74 : decode cL_lay 74 = .ok (.iastore, 1) := by decide +kernel
theorem dL_lay_75 : decode cL_lay 75 = .ok (.aload 5, 2) := by decide +kernel
theorem dL_lay_77 : decode cL_lay 77 = .ok (.iload 13, 2) := by decide +kernel
theorem dL_lay_79 : decode cL_lay 79 = .ok (.iload 9, 2) := by decide +kernel
theorem dL_lay_81 : decode cL_lay 81 = .ok (.iastore, 1) := by decide +kernel
theorem dL_lay_82 : decode cL_lay 82 = .ok (.aload 7, 2) := by decide +kernel
theorem dL_lay_84 : decode cL_lay 84 = .ok (.iload 13, 2) := by decide +kernel
theorem dL_lay_86 : decode cL_lay 86 = .ok (.iconst (-1), 1) := by decide +kernel
theorem dL_lay_87 : decode cL_lay 87 = .ok (.iastore, 1) := by decide +kernel
theorem dL_lay_88 : decode cL_lay 88 = .ok (.aload_n 1, 1) := by decide +kernel
theorem dL_lay_89 : decode cL_lay 89 = .ok (.iload 13, 2) := by decide +kernel
theorem dL_lay_91 : decode cL_lay 91 = .ok (.iaload, 1) := by decide +kernel
theorem dL_lay_92 : decode cL_lay 92 = .ok (.aload_n 3, 1) := by decide +kernel
theorem dL_lay_93 : decode cL_lay 93 = .ok (.iconst 4, 1) := by decide +kernel
theorem dL_lay_94 : decode cL_lay 94 = .ok (.iaload, 1) := by decide +kernel
theorem dL_lay_95 : decode cL_lay 95 = .ok (.if_icmp .lt 7, 3) := by decide +kernel
theorem dL_lay_98 : decode cL_lay 98 = .ok (.iconst 1, 1) := by decide +kernel
theorem dL_lay_99 : decode cL_lay 99 = .ok (.goto 4, 3) := by decide +kernel
theorem dL_lay_102 : decode cL_lay 102 = .ok (.iconst 0, 1) := by decide +kernel
theorem dL_lay_103 : decode cL_lay 103 = .ok (.istore 14, 2) := by decide +kernel
theorem dL_lay_105 : decode cL_lay 105 = .ok (.iload 14, 2) := by decide +kernel
theorem dL_lay_107 : decode cL_lay 107 = .ok (.ifCond .eq 7, 3) := by decide +kernel
theorem dL_lay_110 : decode cL_lay 110 = .ok (.iload 13, 2) := by decide +kernel
theorem dL_lay_112 : decode cL_lay 112 = .ok (.istore 10, 2) := by decide +kernel
theorem dL_lay_114 : decode cL_lay 114 = .ok (.aload 6, 2) := by decide +kernel
theorem dL_lay_116 : decode cL_lay 116 = .ok (.iload 13, 2) := by decide +kernel
theorem dL_lay_118 : decode cL_lay 118 = .ok (.iload 14, 2) := by decide +kernel
theorem dL_lay_120 : decode cL_lay 120 = .ok (.ifCond .eq 7, 3) := by decide +kernel
theorem dL_lay_123 : decode cL_lay 123 = .ok (.iconst 1, 1) := by decide +kernel
theorem dL_lay_124 : decode cL_lay 124 = .ok (.goto 37, 3) := by decide +kernel
theorem dL_lay_127 : decode cL_lay 127 = .ok (.iload 13, 2) := by decide +kernel
theorem dL_lay_129 : decode cL_lay 129 = .ok (.iload 10, 2) := by decide +kernel
theorem dL_lay_131 : decode cL_lay 131 = .ok (.isub, 1) := by decide +kernel
theorem dL_lay_132 : decode cL_lay 132 = .ok (.aload_n 3, 1) := by decide +kernel
theorem dL_lay_133 : decode cL_lay 133 = .ok (.iconst 5, 1) := by decide +kernel
theorem dL_lay_134 : decode cL_lay 134 = .ok (.iaload, 1) := by decide +kernel
theorem dL_lay_135 : decode cL_lay 135 = .ok (.if_icmp .gt 7, 3) := by decide +kernel
theorem dL_lay_138 : decode cL_lay 138 = .ok (.iconst 2, 1) := by decide +kernel
theorem dL_lay_139 : decode cL_lay 139 = .ok (.goto 22, 3) := by decide +kernel
theorem dL_lay_142 : decode cL_lay 142 = .ok (.iload 9, 2) := by decide +kernel
theorem dL_lay_144 : decode cL_lay 144 = .ok (.bipush 10, 2) := by decide +kernel
theorem dL_lay_146 : decode cL_lay 146 = .ok (.iload 13, 2) := by decide +kernel
theorem dL_lay_148 : decode cL_lay 148 = .ok (.aload_n 3, 1) := by decide +kernel
theorem dL_lay_149 : decode cL_lay 149 = .ok (.invokestatic 8, 3) := by decide +kernel
theorem dL_lay_152 : decode cL_lay 152 = .ok (.imul, 1) := by decide +kernel
theorem dL_lay_153 : decode cL_lay 153 = .ok (.if_icmp .le 7, 3) := by decide +kernel
theorem dL_lay_156 : decode cL_lay 156 = .ok (.iconst 0, 1) := by decide +kernel
theorem dL_lay_157 : decode cL_lay 157 = .ok (.goto 4, 3) := by decide +kernel
theorem dL_lay_160 : decode cL_lay 160 = .ok (.iconst 3, 1) := by decide +kernel
theorem dL_lay_161 : decode cL_lay 161 = .ok (.iastore, 1) := by decide +kernel
theorem dL_lay_162 : decode cL_lay 162 = .ok (.aload 6, 2) := by decide +kernel
theorem dL_lay_164 : decode cL_lay 164 = .ok (.iload 13, 2) := by decide +kernel
theorem dL_lay_166 : decode cL_lay 166 = .ok (.iaload, 1) := by decide +kernel
theorem dL_lay_167 : decode cL_lay 167 = .ok (.ifCond .le 6, 3) := by decide +kernel
theorem dL_lay_170 : decode cL_lay 170 = .ok (.goto 66, 3) := by decide +kernel
theorem dL_lay_173 : decode cL_lay 173 = .ok (.iload 11, 2) := by decide +kernel
theorem dL_lay_175 : decode cL_lay 175 = .ok (.ifCond .lt 17, 3) := by decide +kernel
theorem dL_lay_178 : decode cL_lay 178 = .ok (.iload 13, 2) := by decide +kernel
theorem dL_lay_180 : decode cL_lay 180 = .ok (.iload 12, 2) := by decide +kernel
theorem dL_lay_182 : decode cL_lay 182 = .ok (.isub, 1) := by decide +kernel
theorem dL_lay_183 : decode cL_lay 183 = .ok (.iconst 1, 1) := by decide +kernel
theorem dL_lay_184 : decode cL_lay 184 = .ok (.isub, 1) := by decide +kernel
theorem dL_lay_185 : decode cL_lay 185 = .ok (.aload_n 3, 1) := by decide +kernel
theorem dL_lay_186 : decode cL_lay 186 = .ok (.bipush 6, 2) := by decide +kernel
theorem dL_lay_188 : decode cL_lay 188 = .ok (.iaload, 1) := by decide +kernel
theorem dL_lay_189 : decode cL_lay 189 = .ok (.if_icmp .lt 10, 3) := by decide +kernel
theorem dL_lay_192 : decode cL_lay 192 = .ok (.iload 13, 2) := by decide +kernel
theorem dL_lay_194 : decode cL_lay 194 = .ok (.istore 11, 2) := by decide +kernel
theorem dL_lay_196 : decode cL_lay 196 = .ok (.goto 29, 3) := by decide +kernel
theorem dL_lay_199 : decode cL_lay 199 = .ok (.iload 12, 2) := by decide +kernel
theorem dL_lay_201 : decode cL_lay 201 = .ok (.iconst 1, 1) := by decide +kernel
theorem dL_lay_202 : decode cL_lay 202 = .ok (.iadd, 1) := by decide +kernel
theorem dL_lay_203 : decode cL_lay 203 = .ok (.istore 15, 2) := by decide +kernel
theorem dL_lay_205 : decode cL_lay 205 = .ok (.iload 15, 2) := by decide +kernel
theorem dL_lay_207 : decode cL_lay 207 = .ok (.iload 13, 2) := by decide +kernel
theorem dL_lay_209 : decode cL_lay 209 = .ok (.if_icmp .ge 16, 3) := by decide +kernel
theorem dL_lay_212 : decode cL_lay 212 = .ok (.aload 7, 2) := by decide +kernel
theorem dL_lay_214 : decode cL_lay 214 = .ok (.iload 15, 2) := by decide +kernel
theorem dL_lay_216 : decode cL_lay 216 = .ok (.iload 11, 2) := by decide +kernel
theorem dL_lay_218 : decode cL_lay 218 = .ok (.iastore, 1) := by decide +kernel
theorem dL_lay_219 : decode cL_lay 219 = .ok (.iinc 15 1, 3) := by decide +kernel
theorem dL_lay_222 : decode cL_lay 222 = .ok (.goto (-17), 3) := by decide +kernel
theorem dL_lay_225 : decode cL_lay 225 = .ok (.aload 7, 2) := by decide +kernel
theorem dL_lay_227 : decode cL_lay 227 = .ok (.iload 13, 2) := by decide +kernel
theorem dL_lay_229 : decode cL_lay 229 = .ok (.iload 11, 2) := by decide +kernel
theorem dL_lay_231 : decode cL_lay 231 = .ok (.iastore, 1) := by decide +kernel
theorem dL_lay_232 : decode cL_lay 232 = .ok (.iload 13, 2) := by decide +kernel
theorem dL_lay_234 : decode cL_lay 234 = .ok (.istore 12, 2) := by decide +kernel
theorem dL_lay_236 : decode cL_lay 236 = .ok (.iinc 13 1, 3) := by decide +kernel
theorem dL_lay_239 : decode cL_lay 239 = .ok (.goto (-219), 3) := by decide +kernel
theorem dL_lay_242 : decode cL_lay 242 = .ok (.return_, 1) := by decide +kernel
set_option maxHeartbeats 4000000 in
set_option maxRecDepth 100000 in
theorem w_L_lay_j236 {w : WT} {l : Launch} {p : Program} {e : Env} {s : State} {m : MethodId} {args : Array Value} {below : List Frame} {meth : Method} {c : Code} (C : KC w p s m args meth c cL_lay 16 RL none) (hN : 99 ≤ wN w) {v8 : Int32} {v9 : Int32} {v10 : Int32} {v11 : Int32} {v12 : Int32} {v13 : Int32} {M : Mem} {L : Lng} {Q : State → Prop} {o : (Int32 × Int32 × Int32 × Int32 × Int32 × Int32 × Mem) ⊕ (Mem)} (hf : f_L_lay_j236 v8 v9 v10 v11 v12 v13 M = some o) (hA : ∀ z, o = .inl z → AtL w p l e ({ frames := 2, cells := 0, slots := 0, locals := 43 } : Room) s m args below meth c Q 16 20 z.2.2.2.2.2.2 L [(0, .ref (wAd w 90)), (1, .ref (wAd w 91)), (2, .ref (wAd w 93)), (3, .ref (wAd w 94)), (4, .ref (wAd w 95)), (5, .ref (wAd w 96)), (6, .ref (wAd w 97)), (7, .ref (wAd w 98)), (8, .int z.1), (9, .int z.2.1), (10, .int z.2.2.1), (11, .int z.2.2.2.1), (12, .int z.2.2.2.2.1), (13, .int z.2.2.2.2.2.1)] []) (hE : ∀ y, o = .inr y → AtL w p l e ({ frames := 2, cells := 0, slots := 0, locals := 43 } : Room) s m args below meth c Q 16 242 y L [] []) : AtL w p l e ({ frames := 2, cells := 0, slots := 0, locals := 43 } : Room) s m args below meth c Q 16 236 M L [(0, .ref (wAd w 90)), (1, .ref (wAd w 91)), (2, .ref (wAd w 93)), (3, .ref (wAd w 94)), (4, .ref (wAd w 95)), (5, .ref (wAd w 96)), (6, .ref (wAd w 97)), (7, .ref (wAd w 98)), (8, .int v8), (9, .int v9), (10, .int v10), (11, .int v11), (12, .int v12), (13, .int v13)] [] := by
  intro H locs ls hP hS hl
  unfold f_L_lay_j236 at hf
  refine lv_iinc (v := (v13 + 1)) (lv' := [(13, .int (v13 + 1)), (0, .ref (wAd w 90)), (1, .ref (wAd w 91)), (2, .ref (wAd w 93)), (3, .ref (wAd w 94)), (4, .ref (wAd w 95)), (5, .ref (wAd w 96)), (6, .ref (wAd w 97)), (7, .ref (wAd w 98)), (8, .int v8), (9, .int v9), (10, .int v10), (11, .int v11), (12, .int v12)]) C.1 C.2.1 dL_lay_236 hl (k := 13) rfl rfl (by decide) rfl (fun ls hl => ?_)
  refine lv_goto (tgt := 20) C.1 C.2.1 dL_lay_239 (by decide) ?_
  cases hf
  exact hA _ rfl _ _ _ hP hS (lv_sub hl [1, 2, 3, 4, 5, 6, 7, 8, 9, 10, 11, 12, 13, 0] rfl)
set_option maxHeartbeats 4000000 in
set_option maxRecDepth 100000 in
theorem w_L_lay_j225 {w : WT} {l : Launch} {p : Program} {e : Env} {s : State} {m : MethodId} {args : Array Value} {below : List Frame} {meth : Method} {c : Code} (C : KC w p s m args meth c cL_lay 16 RL none) (hN : 99 ≤ wN w) {v8 : Int32} {v9 : Int32} {v10 : Int32} {v11 : Int32} {v13 : Int32} {M : Mem} {L : Lng} {Q : State → Prop} {o : (Int32 × Int32 × Int32 × Int32 × Int32 × Int32 × Mem) ⊕ (Mem)} (hf : f_L_lay_j225 v8 v9 v10 v11 v13 M = some o) (hA : ∀ z, o = .inl z → AtL w p l e ({ frames := 2, cells := 0, slots := 0, locals := 43 } : Room) s m args below meth c Q 16 20 z.2.2.2.2.2.2 L [(0, .ref (wAd w 90)), (1, .ref (wAd w 91)), (2, .ref (wAd w 93)), (3, .ref (wAd w 94)), (4, .ref (wAd w 95)), (5, .ref (wAd w 96)), (6, .ref (wAd w 97)), (7, .ref (wAd w 98)), (8, .int z.1), (9, .int z.2.1), (10, .int z.2.2.1), (11, .int z.2.2.2.1), (12, .int z.2.2.2.2.1), (13, .int z.2.2.2.2.2.1)] []) (hE : ∀ y, o = .inr y → AtL w p l e ({ frames := 2, cells := 0, slots := 0, locals := 43 } : Room) s m args below meth c Q 16 242 y L [] []) : AtL w p l e ({ frames := 2, cells := 0, slots := 0, locals := 43 } : Room) s m args below meth c Q 16 225 M L [(0, .ref (wAd w 90)), (1, .ref (wAd w 91)), (2, .ref (wAd w 93)), (3, .ref (wAd w 94)), (4, .ref (wAd w 95)), (5, .ref (wAd w 96)), (6, .ref (wAd w 97)), (7, .ref (wAd w 98)), (8, .int v8), (9, .int v9), (10, .int v10), (11, .int v11), (13, .int v13)] [] := by
  intro H locs ls hP hS hl
  unfold f_L_lay_j225 at hf
  refine lv_aload C.1 C.2.1 dL_lay_225 (lv_at hl 7 rfl) ?_
  refine lv_iload C.1 C.2.1 dL_lay_227 (lv_at hl 12 rfl) ?_
  refine lv_iload C.1 C.2.1 dL_lay_229 (lv_at hl 11 rfl) ?_
  obtain ⟨M25, hM25, hf⟩ := ob hf
  refine k_iast C hP hS (Nat.lt_of_lt_of_le (Nat.le_of_ble_eq_true rfl) hN) (ar_L98 w L) hM25 dL_lay_231 (fun H locs hP hS => ?_)
  refine lv_iload C.1 C.2.1 dL_lay_232 (lv_at hl 12 rfl) ?_
  refine lv_istore (lv' := [(12, .int v13), (0, .ref (wAd w 90)), (1, .ref (wAd w 91)), (2, .ref (wAd w 93)), (3, .ref (wAd w 94)), (4, .ref (wAd w 95)), (5, .ref (wAd w 96)), (6, .ref (wAd w 97)), (7, .ref (wAd w 98)), (8, .int v8), (9, .int v9), (10, .int v10), (11, .int v11), (13, .int v13)]) C.1 C.2.1 dL_lay_234 hl (by decide) rfl (fun ls hl => ?_)
  exact w_L_lay_j236 C hN hf hA hE _ _ _ hP hS (lv_sub hl [1, 2, 3, 4, 5, 6, 7, 8, 9, 10, 11, 12, 0, 13] rfl)
set_option maxHeartbeats 4000000 in
set_option maxRecDepth 100000 in
theorem w_L_lay_j192 {w : WT} {l : Launch} {p : Program} {e : Env} {s : State} {m : MethodId} {args : Array Value} {below : List Frame} {meth : Method} {c : Code} (C : KC w p s m args meth c cL_lay 16 RL none) (hN : 99 ≤ wN w) {v8 : Int32} {v9 : Int32} {v10 : Int32} {v13 : Int32} {M : Mem} {L : Lng} {Q : State → Prop} {o : (Int32 × Int32 × Int32 × Int32 × Int32 × Int32 × Mem) ⊕ (Mem)} (hf : f_L_lay_j192 v8 v9 v10 v13 M = some o) (hA : ∀ z, o = .inl z → AtL w p l e ({ frames := 2, cells := 0, slots := 0, locals := 43 } : Room) s m args below meth c Q 16 20 z.2.2.2.2.2.2 L [(0, .ref (wAd w 90)), (1, .ref (wAd w 91)), (2, .ref (wAd w 93)), (3, .ref (wAd w 94)), (4, .ref (wAd w 95)), (5, .ref (wAd w 96)), (6, .ref (wAd w 97)), (7, .ref (wAd w 98)), (8, .int z.1), (9, .int z.2.1), (10, .int z.2.2.1), (11, .int z.2.2.2.1), (12, .int z.2.2.2.2.1), (13, .int z.2.2.2.2.2.1)] []) (hE : ∀ y, o = .inr y → AtL w p l e ({ frames := 2, cells := 0, slots := 0, locals := 43 } : Room) s m args below meth c Q 16 242 y L [] []) : AtL w p l e ({ frames := 2, cells := 0, slots := 0, locals := 43 } : Room) s m args below meth c Q 16 192 M L [(0, .ref (wAd w 90)), (1, .ref (wAd w 91)), (2, .ref (wAd w 93)), (3, .ref (wAd w 94)), (4, .ref (wAd w 95)), (5, .ref (wAd w 96)), (6, .ref (wAd w 97)), (7, .ref (wAd w 98)), (8, .int v8), (9, .int v9), (10, .int v10), (13, .int v13)] [] := by
  intro H locs ls hP hS hl
  unfold f_L_lay_j192 at hf
  refine lv_iload C.1 C.2.1 dL_lay_192 (lv_at hl 11 rfl) ?_
  refine lv_istore (lv' := [(11, .int v13), (0, .ref (wAd w 90)), (1, .ref (wAd w 91)), (2, .ref (wAd w 93)), (3, .ref (wAd w 94)), (4, .ref (wAd w 95)), (5, .ref (wAd w 96)), (6, .ref (wAd w 97)), (7, .ref (wAd w 98)), (8, .int v8), (9, .int v9), (10, .int v10), (13, .int v13)]) C.1 C.2.1 dL_lay_194 hl (by decide) rfl (fun ls hl => ?_)
  refine lv_goto (tgt := 225) C.1 C.2.1 dL_lay_196 (by decide) ?_
  exact w_L_lay_j225 C hN hf hA hE _ _ _ hP hS (lv_sub hl [1, 2, 3, 4, 5, 6, 7, 8, 9, 10, 11, 0, 12] rfl)
set_option maxHeartbeats 4000000 in
set_option maxRecDepth 100000 in
theorem w_L_lay_l205 {w : WT} {l : Launch} {p : Program} {e : Env} {s : State} {m : MethodId} {args : Array Value} {below : List Frame} {meth : Method} {c : Code} (C : KC w p s m args meth c cL_lay 16 RL none) (hN : 99 ≤ wN w) {v8 : Int32} {v9 : Int32} {v10 : Int32} {v11 : Int32} {v13 : Int32} {L : Lng} {Q : State → Prop} (z : Int32 × Mem) (o : (Int32 × Mem) ⊕ (Mem)) (hf : f_L_lay_l205 v8 v9 v10 v11 v13 z = some o) (hA : ∀ z, o = .inl z → AtL w p l e ({ frames := 2, cells := 0, slots := 0, locals := 43 } : Room) s m args below meth c Q 16 205 z.2 L [(0, .ref (wAd w 90)), (1, .ref (wAd w 91)), (2, .ref (wAd w 93)), (3, .ref (wAd w 94)), (4, .ref (wAd w 95)), (5, .ref (wAd w 96)), (6, .ref (wAd w 97)), (7, .ref (wAd w 98)), (8, .int v8), (9, .int v9), (10, .int v10), (11, .int v11), (13, .int v13), (15, .int z.1)] []) (hE : ∀ y, o = .inr y → AtL w p l e ({ frames := 2, cells := 0, slots := 0, locals := 43 } : Room) s m args below meth c Q 16 225 y L [(0, .ref (wAd w 90)), (1, .ref (wAd w 91)), (2, .ref (wAd w 93)), (3, .ref (wAd w 94)), (4, .ref (wAd w 95)), (5, .ref (wAd w 96)), (6, .ref (wAd w 97)), (7, .ref (wAd w 98)), (8, .int v8), (9, .int v9), (10, .int v10), (11, .int v11), (13, .int v13)] []) : AtL w p l e ({ frames := 2, cells := 0, slots := 0, locals := 43 } : Room) s m args below meth c Q 16 205 z.2 L [(0, .ref (wAd w 90)), (1, .ref (wAd w 91)), (2, .ref (wAd w 93)), (3, .ref (wAd w 94)), (4, .ref (wAd w 95)), (5, .ref (wAd w 96)), (6, .ref (wAd w 97)), (7, .ref (wAd w 98)), (8, .int v8), (9, .int v9), (10, .int v10), (11, .int v11), (13, .int v13), (15, .int z.1)] [] := by
  intro H locs ls hP hS hl
  unfold f_L_lay_l205 at hf
  refine lv_iload C.1 C.2.1 dL_lay_205 (lv_at hl 13 rfl) ?_
  refine lv_iload C.1 C.2.1 dL_lay_207 (lv_at hl 12 rfl) ?_
  refine lv_icmp_ge (tgt := 225) C.1 C.2.1 dL_lay_209 (by decide) (fun c28 => ?_) (fun c28 => ?_)
  · have hf := (if_pos c28).symm.trans hf
    cases hf
    exact hE _ rfl _ _ _ hP hS (lv_sub hl [0, 1, 2, 3, 4, 5, 6, 7, 8, 9, 10, 11, 12] rfl)
  · have hf := (if_neg c28).symm.trans hf
    refine lv_aload C.1 C.2.1 dL_lay_212 (lv_at hl 7 rfl) ?_
    refine lv_iload C.1 C.2.1 dL_lay_214 (lv_at hl 13 rfl) ?_
    refine lv_iload C.1 C.2.1 dL_lay_216 (lv_at hl 11 rfl) ?_
    obtain ⟨M29, hM29, hf⟩ := ob hf
    refine k_iast C hP hS (Nat.lt_of_lt_of_le (Nat.le_of_ble_eq_true rfl) hN) (ar_L98 w L) hM29 dL_lay_218 (fun H locs hP hS => ?_)
    refine lv_iinc (v := (z.1 + 1)) (lv' := [(15, .int (z.1 + 1)), (0, .ref (wAd w 90)), (1, .ref (wAd w 91)), (2, .ref (wAd w 93)), (3, .ref (wAd w 94)), (4, .ref (wAd w 95)), (5, .ref (wAd w 96)), (6, .ref (wAd w 97)), (7, .ref (wAd w 98)), (8, .int v8), (9, .int v9), (10, .int v10), (11, .int v11), (13, .int v13)]) C.1 C.2.1 dL_lay_219 hl (k := 13) rfl rfl (by decide) rfl (fun ls hl => ?_)
    refine lv_goto (tgt := 205) C.1 C.2.1 dL_lay_222 (by decide) ?_
    cases hf
    exact hA _ rfl _ _ _ hP hS (lv_sub hl [1, 2, 3, 4, 5, 6, 7, 8, 9, 10, 11, 12, 13, 0] rfl)
set_option maxHeartbeats 4000000 in
set_option maxRecDepth 100000 in
theorem w_L_lay_j161 {w : WT} {l : Launch} {p : Program} {e : Env} {s : State} {m : MethodId} {args : Array Value} {below : List Frame} {meth : Method} {c : Code} (C : KC w p s m args meth c cL_lay 16 RL none) (hN : 99 ≤ wN w) {v8 : Int32} {v9 : Int32} {v10 : Int32} {v11 : Int32} {v12 : Int32} {v13 : Int32} {s1 : Int32} {s2 : Int32} {M : Mem} {L : Lng} {Q : State → Prop} {o : (Int32 × Int32 × Int32 × Int32 × Int32 × Int32 × Mem) ⊕ (Mem)} (hf : f_L_lay_j161 v8 v9 v10 v11 v12 v13 s1 s2 M = some o) (hA : ∀ z, o = .inl z → AtL w p l e ({ frames := 2, cells := 0, slots := 0, locals := 43 } : Room) s m args below meth c Q 16 20 z.2.2.2.2.2.2 L [(0, .ref (wAd w 90)), (1, .ref (wAd w 91)), (2, .ref (wAd w 93)), (3, .ref (wAd w 94)), (4, .ref (wAd w 95)), (5, .ref (wAd w 96)), (6, .ref (wAd w 97)), (7, .ref (wAd w 98)), (8, .int z.1), (9, .int z.2.1), (10, .int z.2.2.1), (11, .int z.2.2.2.1), (12, .int z.2.2.2.2.1), (13, .int z.2.2.2.2.2.1)] []) (hE : ∀ y, o = .inr y → AtL w p l e ({ frames := 2, cells := 0, slots := 0, locals := 43 } : Room) s m args below meth c Q 16 242 y L [] []) : AtL w p l e ({ frames := 2, cells := 0, slots := 0, locals := 43 } : Room) s m args below meth c Q 16 161 M L [(0, .ref (wAd w 90)), (1, .ref (wAd w 91)), (2, .ref (wAd w 93)), (3, .ref (wAd w 94)), (4, .ref (wAd w 95)), (5, .ref (wAd w 96)), (6, .ref (wAd w 97)), (7, .ref (wAd w 98)), (8, .int v8), (9, .int v9), (10, .int v10), (11, .int v11), (12, .int v12), (13, .int v13)] [.int s2, .int s1, .ref (wAd w 97)] := by
  intro H locs ls hP hS hl
  unfold f_L_lay_j161 at hf
  obtain ⟨M21, hM21, hf⟩ := ob hf
  refine k_iast C hP hS (Nat.lt_of_lt_of_le (Nat.le_of_ble_eq_true rfl) hN) (ar_L97 w L) hM21 dL_lay_161 (fun H locs hP hS => ?_)
  refine lv_aload C.1 C.2.1 dL_lay_162 (lv_at hl 6 rfl) ?_
  refine lv_iload C.1 C.2.1 dL_lay_164 (lv_at hl 13 rfl) ?_
  obtain ⟨x22, hx22, hf⟩ := ob hf
  refine k_iald C hP (Nat.lt_of_lt_of_le (Nat.le_of_ble_eq_true rfl) hN) (ar_L97 w L _) hx22 dL_lay_166 ?_
  refine lv_if_le (tgt := 173) C.1 C.2.1 dL_lay_167 (by decide) (fun c23 => ?_) (fun c23 => ?_)
  · have hf := (if_pos c23).symm.trans hf
    refine lv_iload C.1 C.2.1 dL_lay_173 (lv_at hl 11 rfl) ?_
    refine lv_if_lt (tgt := 192) C.1 C.2.1 dL_lay_175 (by decide) (fun c24 => ?_) (fun c24 => ?_)
    · have hf := (if_pos c24).symm.trans hf
      exact w_L_lay_j192 C hN hf hA hE _ _ _ hP hS (lv_sub hl [0, 1, 2, 3, 4, 5, 6, 7, 8, 9, 10, 13] rfl)
    · have hf := (if_neg c24).symm.trans hf
      refine lv_iload C.1 C.2.1 dL_lay_178 (lv_at hl 13 rfl) ?_
      refine lv_iload C.1 C.2.1 dL_lay_180 (lv_at hl 12 rfl) ?_
      refine lv_isub C.1 C.2.1 dL_lay_182 ?_
      refine lv_iconst (v := 1) C.1 C.2.1 dL_lay_183 (by decide) ?_
      refine lv_isub C.1 C.2.1 dL_lay_184 ?_
      refine lv_aload_n C.1 C.2.1 dL_lay_185 rfl (lv_at hl 3 rfl) ?_
      refine lv_bipush (v := 6) C.1 C.2.1 dL_lay_186 (by decide) ?_
      obtain ⟨x26, hx26, hf⟩ := ob hf
      refine k_iald C hP (C9 C (Nat.le_of_ble_eq_true rfl)) (ar_L94 w L _) hx26 dL_lay_188 ?_
      refine lv_icmp_lt (tgt := 199) C.1 C.2.1 dL_lay_189 (by decide) (fun c27 => ?_) (fun c27 => ?_)
      · have hf := (if_pos c27).symm.trans hf
        refine lv_iload C.1 C.2.1 dL_lay_199 (lv_at hl 12 rfl) ?_
        refine lv_iconst (v := 1) C.1 C.2.1 dL_lay_201 (by decide) ?_
        refine lv_iadd C.1 C.2.1 dL_lay_202 ?_
        refine lv_istore (lv' := [(15, .int (v12 + 1)), (0, .ref (wAd w 90)), (1, .ref (wAd w 91)), (2, .ref (wAd w 93)), (3, .ref (wAd w 94)), (4, .ref (wAd w 95)), (5, .ref (wAd w 96)), (6, .ref (wAd w 97)), (7, .ref (wAd w 98)), (8, .int v8), (9, .int v9), (10, .int v10), (11, .int v11), (12, .int v12), (13, .int v13)]) C.1 C.2.1 dL_lay_203 hl (by decide) rfl (fun ls hl => ?_)
        obtain ⟨o30, ho30, hf⟩ := ob hf
        refine loop_at (w_L_lay_l205 C hN) FU _ o30 ho30 ?_ _ _ _ hP hS (lv_sub hl [1, 2, 3, 4, 5, 6, 7, 8, 9, 10, 11, 12, 14, 0] rfl)
        intro H locs ls hP hS hl
        exact w_L_lay_j225 C hN hf hA hE _ _ _ hP hS hl
      · have hf := (if_neg c27).symm.trans hf
        exact w_L_lay_j192 C hN hf hA hE _ _ _ hP hS (lv_sub hl [0, 1, 2, 3, 4, 5, 6, 7, 8, 9, 10, 13] rfl)
  · have hf := (if_neg c23).symm.trans hf
    refine lv_goto (tgt := 236) C.1 C.2.1 dL_lay_170 (by decide) ?_
    exact w_L_lay_j236 C hN hf hA hE _ _ _ hP hS hl
set_option maxHeartbeats 4000000 in
set_option maxRecDepth 100000 in
theorem w_L_lay_j114 {w : WT} {l : Launch} {p : Program} {e : Env} {s : State} {m : MethodId} {args : Array Value} {below : List Frame} {meth : Method} {c : Code} (C : KC w p s m args meth c cL_lay 16 RL none) (hN : 99 ≤ wN w) {v8 : Int32} {v9 : Int32} {v10 : Int32} {v11 : Int32} {v12 : Int32} {v13 : Int32} {v14 : Int32} {M : Mem} {L : Lng} {Q : State → Prop} {o : (Int32 × Int32 × Int32 × Int32 × Int32 × Int32 × Mem) ⊕ (Mem)} (hf : f_L_lay_j114 v8 v9 v10 v11 v12 v13 v14 M = some o) (hA : ∀ z, o = .inl z → AtL w p l e ({ frames := 2, cells := 0, slots := 0, locals := 43 } : Room) s m args below meth c Q 16 20 z.2.2.2.2.2.2 L [(0, .ref (wAd w 90)), (1, .ref (wAd w 91)), (2, .ref (wAd w 93)), (3, .ref (wAd w 94)), (4, .ref (wAd w 95)), (5, .ref (wAd w 96)), (6, .ref (wAd w 97)), (7, .ref (wAd w 98)), (8, .int z.1), (9, .int z.2.1), (10, .int z.2.2.1), (11, .int z.2.2.2.1), (12, .int z.2.2.2.2.1), (13, .int z.2.2.2.2.2.1)] []) (hE : ∀ y, o = .inr y → AtL w p l e ({ frames := 2, cells := 0, slots := 0, locals := 43 } : Room) s m args below meth c Q 16 242 y L [] []) : AtL w p l e ({ frames := 2, cells := 0, slots := 0, locals := 43 } : Room) s m args below meth c Q 16 114 M L [(0, .ref (wAd w 90)), (1, .ref (wAd w 91)), (2, .ref (wAd w 93)), (3, .ref (wAd w 94)), (4, .ref (wAd w 95)), (5, .ref (wAd w 96)), (6, .ref (wAd w 97)), (7, .ref (wAd w 98)), (8, .int v8), (9, .int v9), (10, .int v10), (11, .int v11), (12, .int v12), (13, .int v13), (14, .int v14)] [] := by
  intro H locs ls hP hS hl
  unfold f_L_lay_j114 at hf
  refine lv_aload C.1 C.2.1 dL_lay_114 (lv_at hl 6 rfl) ?_
  refine lv_iload C.1 C.2.1 dL_lay_116 (lv_at hl 13 rfl) ?_
  refine lv_iload C.1 C.2.1 dL_lay_118 (lv_at hl 14 rfl) ?_
  refine lv_if_eq (tgt := 127) C.1 C.2.1 dL_lay_120 (by decide) (fun c16 => ?_) (fun c16 => ?_)
  · have hf := (if_pos c16).symm.trans hf
    refine lv_iload C.1 C.2.1 dL_lay_127 (lv_at hl 13 rfl) ?_
    refine lv_iload C.1 C.2.1 dL_lay_129 (lv_at hl 10 rfl) ?_
    refine lv_isub C.1 C.2.1 dL_lay_131 ?_
    refine lv_aload_n C.1 C.2.1 dL_lay_132 rfl (lv_at hl 3 rfl) ?_
    refine lv_iconst (v := 5) C.1 C.2.1 dL_lay_133 (by decide) ?_
    obtain ⟨x17, hx17, hf⟩ := ob hf
    refine k_iald C hP (C9 C (Nat.le_of_ble_eq_true rfl)) (ar_L94 w L _) hx17 dL_lay_134 ?_
    refine lv_icmp_gt (tgt := 142) C.1 C.2.1 dL_lay_135 (by decide) (fun c18 => ?_) (fun c18 => ?_)
    · have hf := (if_pos c18).symm.trans hf
      refine lv_iload C.1 C.2.1 dL_lay_142 (lv_at hl 9 rfl) ?_
      refine lv_bipush (v := 10) C.1 C.2.1 dL_lay_144 (by decide) ?_
      refine lv_iload C.1 C.2.1 dL_lay_146 (lv_at hl 13 rfl) ?_
      refine lv_aload_n C.1 C.2.1 dL_lay_148 rfl (lv_at hl 3 rfl) ?_
      obtain ⟨r19, hr19, hf⟩ := ob hf
      refine kci (kS (As := [.int v13, .ref (wAd w 94)]) (rest := [.int 10, .int v9, .int v13, .ref (wAd w 97)]) C hl.1 hP hS (c_L_limit w l C.2.2.2.2.2.2.2.2 (L := L) hr19) (gS q393 q394 q0 q395) hd_L_limit ⟨rfl, rfl⟩ ⟨Nat.le_of_ble_eq_true rfl, Nat.le_of_ble_eq_true rfl⟩ rfl rfl (Nat.le_of_ble_eq_true rfl) dL_lay_149 ⟨Nat.zero_le _, Nat.zero_le _⟩) hS (fun H locs hP hS => ?_)
      refine lv_imul C.1 C.2.1 dL_lay_152 ?_
      refine lv_icmp_le (tgt := 160) C.1 C.2.1 dL_lay_153 (by decide) (fun c20 => ?_) (fun c20 => ?_)
      · have hf := (if_pos c20).symm.trans hf
        refine lv_iconst (v := 3) C.1 C.2.1 dL_lay_160 (by decide) ?_
        exact w_L_lay_j161 C hN hf hA hE _ _ _ hP hS (lv_sub hl [0, 1, 2, 3, 4, 5, 6, 7, 8, 9, 10, 11, 12, 13] rfl)
      · have hf := (if_neg c20).symm.trans hf
        refine lv_iconst (v := 0) C.1 C.2.1 dL_lay_156 (by decide) ?_
        refine lv_goto (tgt := 161) C.1 C.2.1 dL_lay_157 (by decide) ?_
        exact w_L_lay_j161 C hN hf hA hE _ _ _ hP hS (lv_sub hl [0, 1, 2, 3, 4, 5, 6, 7, 8, 9, 10, 11, 12, 13] rfl)
    · have hf := (if_neg c18).symm.trans hf
      refine lv_iconst (v := 2) C.1 C.2.1 dL_lay_138 (by decide) ?_
      refine lv_goto (tgt := 161) C.1 C.2.1 dL_lay_139 (by decide) ?_
      exact w_L_lay_j161 C hN hf hA hE _ _ _ hP hS (lv_sub hl [0, 1, 2, 3, 4, 5, 6, 7, 8, 9, 10, 11, 12, 13] rfl)
  · have hf := (if_neg c16).symm.trans hf
    refine lv_iconst (v := 1) C.1 C.2.1 dL_lay_123 (by decide) ?_
    refine lv_goto (tgt := 161) C.1 C.2.1 dL_lay_124 (by decide) ?_
    exact w_L_lay_j161 C hN hf hA hE _ _ _ hP hS (lv_sub hl [0, 1, 2, 3, 4, 5, 6, 7, 8, 9, 10, 11, 12, 13] rfl)
