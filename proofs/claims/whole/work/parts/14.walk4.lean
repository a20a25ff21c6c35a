theorem dX8_exceedanceProperty_0 : decode cX8_exceedanceProperty 0 = .ok (.iload_n 2, 1) := by decide +kernel
theorem dX8_exceedanceProperty_1 : decode cX8_exceedanceProperty 1 = .ok (.tableswitch 100 0 4 #[35, 48, 61, 74, 87], 35) := by decide +kernel
theorem dX8_exceedanceProperty_36 : decode cX8_exceedanceProperty 36 = .ok (.aload_n 0, 1) := by decide +kernel
theorem dX8_exceedanceProperty_37 : decode cX8_exceedanceProperty 37 = .ok (.getfield 33, 3) := by decide +kernel
theorem dX8_exceedanceProperty_40 : decode cX8_exceedanceProperty 40 = .ok (.getfield 112, 3) := by decide +kernel
theorem dX8_exceedanceProperty_43 : decode cX8_exceedanceProperty 43 = .ok (.getfield 308, 3) := by decide +kernel
theorem dX8_exceedanceProperty_46 : decode cX8_exceedanceProperty 46 = .ok (.iload_n 1, 1) := by decide +kernel
theorem dX8_exceedanceProperty_47 : decode cX8_exceedanceProperty 47 = .ok (.iaload, 1) := by decide +kernel
theorem dX8_exceedanceProperty_48 : decode cX8_exceedanceProperty 48 = .ok (.ireturn, 1) := by decide +kernel
theorem dX8_exceedanceProperty_49 : decode cX8_exceedanceProperty 49 = .ok (.aload_n 0, 1) := by decide +kernel
theorem dX8_exceedanceProperty_50 : decode cX8_exceedanceProperty 50 = .ok (.getfield 33, 3) := by decide +kernel
theorem dX8_exceedanceProperty_53 : decode cX8_exceedanceProperty 53 = .ok (.getfield 112, 3) := by decide +kernel
theorem dX8_exceedanceProperty_56 : decode cX8_exceedanceProperty 56 = .ok (.getfield 311, 3) := by decide +kernel
theorem dX8_exceedanceProperty_59 : decode cX8_exceedanceProperty 59 = .ok (.iload_n 1, 1) := by decide +kernel
theorem dX8_exceedanceProperty_60 : decode cX8_exceedanceProperty 60 = .ok (.iaload, 1) := by decide +kernel
theorem dX8_exceedanceProperty_61 : decode cX8_exceedanceProperty 61 = .ok (.ireturn, 1) := by decide +kernel
theorem dX8_exceedanceProperty_62 : decode cX8_exceedanceProperty 62 = .ok (.aload_n 0, 1) := by decide +kernel
theorem dX8_exceedanceProperty_63 : decode cX8_exceedanceProperty 63 = .ok (.getfield 33, 3) := by decide +kernel
theorem dX8_exceedanceProperty_66 : decode cX8_exceedanceProperty 66 = .ok (.getfield 112, 3) := by decide +kernel
theorem dX8_exceedanceProperty_69 : decode cX8_exceedanceProperty 69 = .ok (.getfield 314, 3) := by decide +kernel
theorem dX8_exceedanceProperty_72 : decode cX8_exceedanceProperty 72 = .ok (.iload_n 1, 1) := by decide +kernel
theorem dX8_exceedanceProperty_73 : decode cX8_exceedanceProperty 73 = .ok (.iaload, 1) := by decide +kernel
theorem dX8_exceedanceProperty_74 : decode cX8_exceedanceProperty 74 = .ok (.ireturn, 1) := by decide +kernel
theorem dX8_exceedanceProperty_75 : decode cX8_exceedanceProperty 75 = .ok (.aload_n 0, 1) := by decide +kernel
theorem dX8_exceedanceProperty_76 : decode cX8_exceedanceProperty 76 = .ok (.getfield 33, 3) := by decide +kernel
theorem dX8_exceedanceProperty_79 : decode cX8_exceedanceProperty 79 = .ok (.getfield 112, 3) := by decide +kernel
theorem dX8_exceedanceProperty_82 : decode cX8_exceedanceProperty 82 = .ok (.getfield 317, 3) := by decide +kernel
theorem dX8_exceedanceProperty_85 : decode cX8_exceedanceProperty 85 = .ok (.iload_n 1, 1) := by decide +kernel
theorem dX8_exceedanceProperty_86 : decode cX8_exceedanceProperty 86 = .ok (.iaload, 1) := by decide +kernel
theorem dX8_exceedanceProperty_87 : decode cX8_exceedanceProperty 87 = .ok (.ireturn, 1) := by decide +kernel
theorem dX8_exceedanceProperty_88 : decode cX8_exceedanceProperty 88 = .ok (.aload_n 0, 1) := by decide +kernel
theorem dX8_exceedanceProperty_89 : decode cX8_exceedanceProperty 89 = .ok (.getfield 33, 3) := by decide +kernel
theorem dX8_exceedanceProperty_92 : decode cX8_exceedanceProperty 92 = .ok (.getfield 112, 3) := by decide +kernel
theorem dX8_exceedanceProperty_95 : decode cX8_exceedanceProperty 95 = .ok (.getfield 320, 3) := by decide +kernel
theorem dX8_exceedanceProperty_98 : decode cX8_exceedanceProperty 98 = .ok (.iload_n 1, 1) := by decide +kernel
theorem dX8_exceedanceProperty_99 : decode cX8_exceedanceProperty 99 = .ok (.iaload, 1) := by decide +kernel
theorem dX8_exceedanceProperty_100 : decode cX8_exceedanceProperty 100 = .ok (.ireturn, 1) := by decide +kernel
theorem dX8_exceedanceProperty_101 : decode cX8_exceedanceProperty 101 = .ok (.aload_n 0, 1) := by decide +kernel
theorem dX8_exceedanceProperty_102 : decode cX8_exceedanceProperty 102 = .ok (.getfield 33, 3) := by decide +kernel
theorem dX8_exceedanceProperty_105 : decode cX8_exceedanceProperty 105 = .ok (.getfield 142, 3) := by decide +kernel
theorem dX8_exceedanceProperty_108 : decode cX8_exceedanceProperty 108 = .ok (.getfield 323, 3) := by decide +kernel
theorem dX8_exceedanceProperty_111 : decode cX8_exceedanceProperty 111 = .ok (.iload_n 1, 1) := by decide +kernel
theorem dX8_exceedanceProperty_112 : decode cX8_exceedanceProperty 112 = .ok (.iaload, 1) := by decide +kernel
theorem dX8_exceedanceProperty_113 : decode cX8_exceedanceProperty 113 = .ok (.ireturn, 1) := by decide +kernel
set_option maxHeartbeats 4000000 in
set_option maxRecDepth 100000 in
theorem c_X8_exceedanceProperty (w : WT) (l : Launch) (hw : WOK w) {a1 : Int32} {a2 : Int32} {M : Mem} {L : Lng} {out : Int32} (hf : f_X8_exceedanceProperty a1 a2 M = some out) : Met l yX8_exceedanceProperty (Cond.code yX8_exceedanceProperty cX8_exceedanceProperty 3 (some .int) :: BG) ({ frames := 0, cells := 0, slots := 0, locals := 0 } : Room) (PRE w [.ref (wAd w 0), .int a1, .int a2] M L) (QI w out M L) 0 0 (wA w) := by
  refine kEnt hw (by decide +kernel) rfl (Nat.le_of_ble_eq_true rfl) ?_
  intro p e s m args below meth c C ls hl hP
  have hS : va_S (wA w) s.heap s.heap [] := va_S.rf
  have hl : lv_has ls 3 [(0, .ref (wAd w 0)), (1, .int a1), (2, .int a2)] := hl
  unfold f_X8_exceedanceProperty at hf
  refine lv_iload_n C.1 C.2.1 dX8_exceedanceProperty_0 rfl (lv_at hl 2 rfl) ?_
  by_cases c1 : a2 = 0
  · have hf := (if_pos c1).symm.trans hf
    refine lv_tableIn (off := 35) (tgt := 36) C.1 C.2.1 dX8_exceedanceProperty_1 (by rw [c1]; decide) (by rw [c1]; decide) (by rw [c1]; rfl) (by decide) ?_
    refine lv_aload_n C.1 C.2.1 dX8_exceedanceProperty_36 rfl (lv_at hl 0 rfl) ?_
    refine k_get (v := .ref (wAd w 54)) C hP (lt_NoisePost h0_NoisePost) (ob_NoisePost h0_NoisePost w L _) rfl iX8 3 (by decide) q287 rfl dX8_exceedanceProperty_37 ?_
    refine k_get (v := .ref (wAd w 60)) C hP (lt_View to_NoisePost_now) (ob_View to_NoisePost_now w L _) rfl iX7 2 (by decide) q261 rfl dX8_exceedanceProperty_40 ?_
    refine k_get (v := .ref (wAd w 61)) C hP (lt_Exceedances (to_View_exceedances to_NoisePost_now)) (ob_Exceedances (to_View_exceedances to_NoisePost_now) w L _) rfl iX0 0 (by decide) q194 rfl dX8_exceedanceProperty_43 ?_
    refine lv_iload_n C.1 C.2.1 dX8_exceedanceProperty_46 rfl (lv_at hl 1 rfl) ?_
    obtain ⟨x2, hx2, hf⟩ := ob hf
    refine k_iald C hP (la_Exceedances_begins (to_View_exceedances to_NoisePost_now)) (ar_Exceedances_begins (to_View_exceedances to_NoisePost_now) w L _) hx2 dX8_exceedanceProperty_47 ?_
    cases hf
    exact kri C hP hS dX8_exceedanceProperty_48
  · have hf := (if_neg c1).symm.trans hf
    by_cases c3 : a2 = 1
    · have hf := (if_pos c3).symm.trans hf
      refine lv_tableIn (off := 48) (tgt := 49) C.1 C.2.1 dX8_exceedanceProperty_1 (by rw [c3]; decide) (by rw [c3]; decide) (by rw [c3]; rfl) (by decide) ?_
      refine lv_aload_n C.1 C.2.1 dX8_exceedanceProperty_49 rfl (lv_at hl 0 rfl) ?_
      refine k_get (v := .ref (wAd w 54)) C hP (lt_NoisePost h0_NoisePost) (ob_NoisePost h0_NoisePost w L _) rfl iX8 3 (by decide) q287 rfl dX8_exceedanceProperty_50 ?_
      refine k_get (v := .ref (wAd w 60)) C hP (lt_View to_NoisePost_now) (ob_View to_NoisePost_now w L _) rfl iX7 2 (by decide) q261 rfl dX8_exceedanceProperty_53 ?_
      refine k_get (v := .ref (wAd w 62)) C hP (lt_Exceedances (to_View_exceedances to_NoisePost_now)) (ob_Exceedances (to_View_exceedances to_NoisePost_now) w L _) rfl iX0 1 (by decide) q197 rfl dX8_exceedanceProperty_56 ?_
      refine lv_iload_n C.1 C.2.1 dX8_exceedanceProperty_59 rfl (lv_at hl 1 rfl) ?_
      obtain ⟨x4, hx4, hf⟩ := ob hf
      refine k_iald C hP (la_Exceedances_ends (to_View_exceedances to_NoisePost_now)) (ar_Exceedances_ends (to_View_exceedances to_NoisePost_now) w L _) hx4 dX8_exceedanceProperty_60 ?_
      cases hf
      exact kri C hP hS dX8_exceedanceProperty_61
    · have hf := (if_neg c3).symm.trans hf
      by_cases c5 : a2 = 2
      · have hf := (if_pos c5).symm.trans hf
        refine lv_tableIn (off := 61) (tgt := 62) C.1 C.2.1 dX8_exceedanceProperty_1 (by rw [c5]; decide) (by rw [c5]; decide) (by rw [c5]; rfl) (by decide) ?_
        refine lv_aload_n C.1 C.2.1 dX8_exceedanceProperty_62 rfl (lv_at hl 0 rfl) ?_
        refine k_get (v := .ref (wAd w 54)) C hP (lt_NoisePost h0_NoisePost) (ob_NoisePost h0_NoisePost w L _) rfl iX8 3 (by decide) q287 rfl dX8_exceedanceProperty_63 ?_
        refine k_get (v := .ref (wAd w 60)) C hP (lt_View to_NoisePost_now) (ob_View to_NoisePost_now w L _) rfl iX7 2 (by decide) q261 rfl dX8_exceedanceProperty_66 ?_
        refine k_get (v := .ref (wAd w 63)) C hP (lt_Exceedances (to_View_exceedances to_NoisePost_now)) (ob_Exceedances (to_View_exceedances to_NoisePost_now) w L _) rfl iX0 2 (by decide) q199 rfl dX8_exceedanceProperty_69 ?_
        refine lv_iload_n C.1 C.2.1 dX8_exceedanceProperty_72 rfl (lv_at hl 1 rfl) ?_
        obtain ⟨x6, hx6, hf⟩ := ob hf
        refine k_iald C hP (la_Exceedances_aboves (to_View_exceedances to_NoisePost_now)) (ar_Exceedances_aboves (to_View_exceedances to_NoisePost_now) w L _) hx6 dX8_exceedanceProperty_73 ?_
        cases hf
        exact kri C hP hS dX8_exceedanceProperty_74
      · have hf := (if_neg c5).symm.trans hf
        by_cases c7 : a2 = 3
        · have hf := (if_pos c7).symm.trans hf
          refine lv_tableIn (off := 74) (tgt := 75) C.1 C.2.1 dX8_exceedanceProperty_1 (by rw [c7]; decide) (by rw [c7]; decide) (by rw [c7]; rfl) (by decide) ?_
          refine lv_aload_n C.1 C.2.1 dX8_exceedanceProperty_75 rfl (lv_at hl 0 rfl) ?_
          refine k_get (v := .ref (wAd w 54)) C hP (lt_NoisePost h0_NoisePost) (ob_NoisePost h0_NoisePost w L _) rfl iX8 3 (by decide) q287 rfl dX8_exceedanceProperty_76 ?_
          refine k_get (v := .ref (wAd w 60)) C hP (lt_View to_NoisePost_now) (ob_View to_NoisePost_now w L _) rfl iX7 2 (by decide) q261 rfl dX8_exceedanceProperty_79 ?_
          refine k_get (v := .ref (wAd w 64)) C hP (lt_Exceedances (to_View_exceedances to_NoisePost_now)) (ob_Exceedances (to_View_exceedances to_NoisePost_now) w L _) rfl iX0 3 (by decide) q202 rfl dX8_exceedanceProperty_82 ?_
          refine lv_iload_n C.1 C.2.1 dX8_exceedanceProperty_85 rfl (lv_at hl 1 rfl) ?_
          obtain ⟨x8, hx8, hf⟩ := ob hf
          refine k_iald C hP (la_Exceedances_peaks (to_View_exceedances to_NoisePost_now)) (ar_Exceedances_peaks (to_View_exceedances to_NoisePost_now) w L _) hx8 dX8_exceedanceProperty_86 ?_
          cases hf
          exact kri C hP hS dX8_exceedanceProperty_87
        · have hf := (if_neg c7).symm.trans hf
          by_cases c9 : a2 = 4
          · have hf := (if_pos c9).symm.trans hf
            refine lv_tableIn (off := 87) (tgt := 88) C.1 C.2.1 dX8_exceedanceProperty_1 (by rw [c9]; decide) (by rw [c9]; decide) (by rw [c9]; rfl) (by decide) ?_
            refine lv_aload_n C.1 C.2.1 dX8_exceedanceProperty_88 rfl (lv_at hl 0 rfl) ?_
            refine k_get (v := .ref (wAd w 54)) C hP (lt_NoisePost h0_NoisePost) (ob_NoisePost h0_NoisePost w L _) rfl iX8 3 (by decide) q287 rfl dX8_exceedanceProperty_89 ?_
            refine k_get (v := .ref (wAd w 60)) C hP (lt_View to_NoisePost_now) (ob_View to_NoisePost_now w L _) rfl iX7 2 (by decide) q261 rfl dX8_exceedanceProperty_92 ?_
            refine k_get (v := .ref (wAd w 65)) C hP (lt_Exceedances (to_View_exceedances to_NoisePost_now)) (ob_Exceedances (to_View_exceedances to_NoisePost_now) w L _) rfl iX0 4 (by decide) q204 rfl dX8_exceedanceProperty_95 ?_
            refine lv_iload_n C.1 C.2.1 dX8_exceedanceProperty_98 rfl (lv_at hl 1 rfl) ?_
            obtain ⟨x10, hx10, hf⟩ := ob hf
            refine k_iald C hP (la_Exceedances_weights (to_View_exceedances to_NoisePost_now)) (ar_Exceedances_weights (to_View_exceedances to_NoisePost_now) w L _) hx10 dX8_exceedanceProperty_99 ?_
            cases hf
            exact kri C hP hS dX8_exceedanceProperty_100
          · have hf := (if_neg c9).symm.trans hf
            refine lv_tableOut (tgt := 101) C.1 C.2.1 dX8_exceedanceProperty_1 (by have e0 := ne_ti (n := 0) c1 (by decide); have e1 := ne_ti (n := 1) c3 (by decide); have e2 := ne_ti (n := 2) c5 (by decide); have e3 := ne_ti (n := 3) c7 (by decide); have e4 := ne_ti (n := 4) c9 (by decide); omega) (by decide) ?_
            refine lv_aload_n C.1 C.2.1 dX8_exceedanceProperty_101 rfl (lv_at hl 0 rfl) ?_
            refine k_get (v := .ref (wAd w 54)) C hP (lt_NoisePost h0_NoisePost) (ob_NoisePost h0_NoisePost w L _) rfl iX8 3 (by decide) q287 rfl dX8_exceedanceProperty_102 ?_
            refine k_get (v := .ref (wAd w 67)) C hP (lt_View to_NoisePost_now) (ob_View to_NoisePost_now w L _) rfl iX7 3 (by decide) q263 rfl dX8_exceedanceProperty_105 ?_
            refine k_get (v := .ref (wAd w 69)) C hP (lt_Matches (to_View_matches to_NoisePost_now)) (ob_Matches (to_View_matches to_NoisePost_now) w L _) rfl iX3 1 (by decide) q239 rfl dX8_exceedanceProperty_108 ?_
            refine lv_iload_n C.1 C.2.1 dX8_exceedanceProperty_111 rfl (lv_at hl 1 rfl) ?_
            obtain ⟨x11, hx11, hf⟩ := ob hf
            refine k_iald C hP (la_Matches_complaintOf (to_View_matches to_NoisePost_now)) (ar_Matches_complaintOf (to_View_matches to_NoisePost_now) w L _) hx11 dX8_exceedanceProperty_112 ?_
            cases hf
            exact kri C hP hS dX8_exceedanceProperty_113
theorem dX8_complaintProperty_0 : decode cX8_complaintProperty 0 = .ok (.iload_n 2, 1) := by decide +kernel
theorem dX8_complaintProperty_1 : decode cX8_complaintProperty 1 = .ok (.ifCond .ne 15, 3) := by decide +kernel
theorem dX8_complaintProperty_4 : decode cX8_complaintProperty 4 = .ok (.aload_n 0, 1) := by decide +kernel
theorem dX8_complaintProperty_5 : decode cX8_complaintProperty 5 = .ok (.getfield 10, 3) := by decide +kernel
theorem dX8_complaintProperty_8 : decode cX8_complaintProperty 8 = .ok (.getfield 326, 3) := by decide +kernel
theorem dX8_complaintProperty_11 : decode cX8_complaintProperty 11 = .ok (.iload_n 1, 1) := by decide +kernel
theorem dX8_complaintProperty_12 : decode cX8_complaintProperty 12 = .ok (.iaload, 1) := by decide +kernel
theorem dX8_complaintProperty_13 : decode cX8_complaintProperty 13 = .ok (.goto 15, 3) := by decide +kernel
theorem dX8_complaintProperty_16 : decode cX8_complaintProperty 16 = .ok (.aload_n 0, 1) := by decide +kernel
theorem dX8_complaintProperty_17 : decode cX8_complaintProperty 17 = .ok (.getfield 33, 3) := by decide +kernel
theorem dX8_complaintProperty_20 : decode cX8_complaintProperty 20 = .ok (.getfield 142, 3) := by decide +kernel
theorem dX8_complaintProperty_23 : decode cX8_complaintProperty 23 = .ok (.getfield 146, 3) := by decide +kernel
theorem dX8_complaintProperty_26 : decode cX8_complaintProperty 26 = .ok (.iload_n 1, 1) := by decide +kernel
theorem dX8_complaintProperty_27 : decode cX8_complaintProperty 27 = .ok (.iaload, 1) := by decide +kernel
theorem dX8_complaintProperty_28 : decode cX8_complaintProperty 28 = .ok (.ireturn, 1) := by decide +kernel
set_option maxHeartbeats 4000000 in
set_option maxRecDepth 100000 in
theorem c_X8_complaintProperty (w : WT) (l : Launch) (hw : WOK w) {a1 : Int32} {a2 : Int32} {M : Mem} {L : Lng} {out : Int32} (hf : f_X8_complaintProperty a1 a2 M = some out) : Met l yX8_complaintProperty (Cond.code yX8_complaintProperty cX8_complaintProperty 3 (some .int) :: BG) ({ frames := 0, cells := 0, slots := 0, locals := 0 } : Room) (PRE w [.ref (wAd w 0), .int a1, .int a2] M L) (QI w out M L) 0 0 (wA w) := by
  refine kEnt hw (by decide +kernel) rfl (Nat.le_of_ble_eq_true rfl) ?_
  intro p e s m args below meth c C ls hl hP
  have hS : va_S (wA w) s.heap s.heap [] := va_S.rf
  have hl : lv_has ls 3 [(0, .ref (wAd w 0)), (1, .int a1), (2, .int a2)] := hl
  unfold f_X8_complaintProperty at hf
  refine lv_iload_n C.1 C.2.1 dX8_complaintProperty_0 rfl (lv_at hl 2 rfl) ?_
  refine lv_if_ne (tgt := 16) C.1 C.2.1 dX8_complaintProperty_1 (by decide) (fun c1 => ?_) (fun c1 => ?_)
  · have hf := (if_neg c1).symm.trans hf
    refine lv_aload_n C.1 C.2.1 dX8_complaintProperty_16 rfl (lv_at hl 0 rfl) ?_
    refine k_get (v := .ref (wAd w 54)) C hP (lt_NoisePost h0_NoisePost) (ob_NoisePost h0_NoisePost w L _) rfl iX8 3 (by decide) q287 rfl dX8_complaintProperty_17 ?_
    refine k_get (v := .ref (wAd w 67)) C hP (lt_View to_NoisePost_now) (ob_View to_NoisePost_now w L _) rfl iX7 3 (by decide) q263 rfl dX8_complaintProperty_20 ?_
    refine k_get (v := .ref (wAd w 68)) C hP (lt_Matches (to_View_matches to_NoisePost_now)) (ob_Matches (to_View_matches to_NoisePost_now) w L _) rfl iX3 0 (by decide) q237 rfl dX8_complaintProperty_23 ?_
    refine lv_iload_n C.1 C.2.1 dX8_complaintProperty_26 rfl (lv_at hl 1 rfl) ?_
    obtain ⟨x2, hx2, hf⟩ := ob hf
    refine k_iald C hP (la_Matches_exceedanceOf (to_View_matches to_NoisePost_now)) (ar_Matches_exceedanceOf (to_View_matches to_NoisePost_now) w L _) hx2 dX8_complaintProperty_27 ?_
    cases hf
    exact kri C hP hS dX8_complaintProperty_28
  · have hf := (if_pos c1).symm.trans hf
    refine lv_aload_n C.1 C.2.1 dX8_complaintProperty_4 rfl (lv_at hl 0 rfl) ?_
    refine k_get (v := .ref (wAd w 1)) C hP (lt_NoisePost h0_NoisePost) (ob_NoisePost h0_NoisePost w L _) rfl iX8 0 (by decide) q284 rfl dX8_complaintProperty_5 ?_
    refine k_get (v := .ref (wAd w 5)) C hP (lt_State to_NoisePost_state) (ob_State to_NoisePost_state w L _) rfl iX5 3 (by decide) q53 rfl dX8_complaintProperty_8 ?_
    refine lv_iload_n C.1 C.2.1 dX8_complaintProperty_11 rfl (lv_at hl 1 rfl) ?_
    obtain ⟨x3, hx3, hf⟩ := ob hf
    refine k_iald C hP (la_State_complaintMinutes to_NoisePost_state) (ar_State_complaintMinutes to_NoisePost_state w L _) hx3 dX8_complaintProperty_12 ?_
    refine lv_goto (tgt := 28) C.1 C.2.1 dX8_complaintProperty_13 (by decide) ?_
    cases hf
    exact kri C hP hS dX8_complaintProperty_28
theorem dX8_numberOf_0 : decode cX8_numberOf 0 = .ok (.iload_n 1, 1) := by decide +kernel
theorem dX8_numberOf_1 : decode cX8_numberOf 1 = .ok (.bipush 10, 2) := by decide +kernel
theorem dX8_numberOf_3 : decode cX8_numberOf 3 = .ok (.if_icmp .ne 11, 3) := by decide +kernel
theorem dX8_numberOf_6 : decode cX8_numberOf 6 = .ok (.aload_n 0, 1) := by decide +kernel
theorem dX8_numberOf_7 : decode cX8_numberOf 7 = .ok (.getfield 19, 3) := by decide +kernel
theorem dX8_numberOf_10 : decode cX8_numberOf 10 = .ok (.getfield 185, 3) := by decide +kernel
theorem dX8_numberOf_13 : decode cX8_numberOf 13 = .ok (.ireturn, 1) := by decide +kernel
theorem dX8_numberOf_14 : decode cX8_numberOf 14 = .ok (.aload_n 0, 1) := by decide +kernel
theorem dX8_numberOf_15 : decode cX8_numberOf 15 = .ok (.getfield 33, 3) := by decide +kernel
theorem dX8_numberOf_18 : decode cX8_numberOf 18 = .ok (.iload_n 1, 1) := by decide +kernel
theorem dX8_numberOf_19 : decode cX8_numberOf 19 = .ok (.invokevirtual 239, 3) := by decide +kernel
theorem dX8_numberOf_22 : decode cX8_numberOf 22 = .ok (.ireturn, 1) := by decide +kernel
set_option maxHeartbeats 4000000 in
set_option maxRecDepth 100000 in
theorem c_X8_numberOf (w : WT) (l : Launch) (hw : WOK w) {a1 : Int32} {M : Mem} {L : Lng} {out : Int32} (hf : f_X8_numberOf a1 M = some out) : Met l yX8_numberOf (Cond.code yX8_numberOf cX8_numberOf 2 (some .int) :: BG) ({ frames := 2, cells := 0, slots := 0, locals := 43 } : Room) (PRE w [.ref (wAd w 0), .int a1] M L) (QI w out M L) 0 0 (wA w) := by
  refine kEnt hw (by decide +kernel) rfl (Nat.le_of_ble_eq_true rfl) ?_
  intro p e s m args below meth c C ls hl hP
  have hS : va_S (wA w) s.heap s.heap [] := va_S.rf
  have hl : lv_has ls 2 [(0, .ref (wAd w 0)), (1, .int a1)] := hl
  unfold f_X8_numberOf at hf
  refine lv_iload_n C.1 C.2.1 dX8_numberOf_0 rfl (lv_at hl 1 rfl) ?_
  refine lv_bipush (v := 10) C.1 C.2.1 dX8_numberOf_1 (by decide) ?_
  refine lv_icmp_ne (tgt := 14) C.1 C.2.1 dX8_numberOf_3 (by decide) (fun c1 => ?_) (fun c1 => ?_)
  · have hf := (if_neg c1).symm.trans hf
    refine lv_aload_n C.1 C.2.1 dX8_numberOf_14 rfl (lv_at hl 0 rfl) ?_
    refine k_get (v := .ref (wAd w 54)) C hP (lt_NoisePost h0_NoisePost) (ob_NoisePost h0_NoisePost w L _) rfl iX8 3 (by decide) q287 rfl dX8_numberOf_15 ?_
    refine lv_iload_n C.1 C.2.1 dX8_numberOf_18 rfl (lv_at hl 1 rfl) ?_
    obtain ⟨r2, hr2, hf⟩ := ob hf
    refine kci (kV (As := [.int a1]) (rest := []) C hl.1 hP hS (c_X7_numberOf w l C.2.2.2.2.2.2.2.2 to_NoisePost_now (L := L) hr2) (gV q360 q361 q362 q5 q363) hd_X7_numberOf (lt_View to_NoisePost_now) (ob_View to_NoisePost_now w L _) rfl ⟨rfl, rfl⟩ ⟨Nat.le_of_ble_eq_true rfl, Nat.le_of_ble_eq_true rfl⟩ rfl rfl (Nat.le_of_ble_eq_true rfl) dX8_numberOf_19 ⟨Nat.zero_le _, Nat.zero_le _⟩) hS (fun H locs hP hS => ?_)
    cases hf
    exact kri C hP hS dX8_numberOf_22
  · have hf := (if_pos c1).symm.trans hf
    refine lv_aload_n C.1 C.2.1 dX8_numberOf_6 rfl (lv_at hl 0 rfl) ?_
    refine k_get (v := .ref (wAd w 46)) C hP (lt_NoisePost h0_NoisePost) (ob_NoisePost h0_NoisePost w L _) rfl iX8 1 (by decide) q285 rfl dX8_numberOf_7 ?_
    refine k_get (v := .int (M 46 2)) C hP (lt_History to_NoisePost_history) (ob_History to_NoisePost_history w L _) rfl iX1 2 (by decide) q86 rfl dX8_numberOf_10 ?_
    cases hf
    exact kri C hP hS dX8_numberOf_13
theorem dX8_share_0 : decode cX8_share 0 = .ok (.aload_n 0, 1) := by decide +kernel
theorem dX8_share_1 : decode cX8_share 1 = .ok (.getfield 33, 3) := by decide +kernel
theorem dX8_share_4 : decode cX8_share 4 = .ok (.getfield 214, 3) := by decide +kernel
theorem dX8_share_7 : decode cX8_share 7 = .ok (.invokevirtual 248, 3) := by decide +kernel
theorem dX8_share_10 : decode cX8_share 10 = .ok (.dreturn, 1) := by decide +kernel
set_option maxHeartbeats 4000000 in
set_option maxRecDepth 100000 in
theorem c_X8_share (w : WT) (l : Launch) (hw : WOK w) {M : Mem} {L : Lng} {out : UInt64} (hf : f_X8_share M = some out) : Met l yX8_share (Cond.code yX8_share cX8_share 1 (some .double) :: BG) ({ frames := 1, cells := 0, slots := 0, locals := 20 } : Room) (PRE w [.ref (wAd w 0)] M L) (QD w out M L) 0 0 (wA w) := by
  refine kEnt hw (by decide +kernel) rfl (Nat.le_of_ble_eq_true rfl) ?_
  intro p e s m args below meth c C ls hl hP
  have hS : va_S (wA w) s.heap s.heap [] := va_S.rf
  have hl : lv_has ls 1 [(0, .ref (wAd w 0))] := hl
  unfold f_X8_share at hf
  refine lv_aload_n C.1 C.2.1 dX8_share_0 rfl (lv_at hl 0 rfl) ?_
  refine k_get (v := .ref (wAd w 54)) C hP (lt_NoisePost h0_NoisePost) (ob_NoisePost h0_NoisePost w L _) rfl iX8 3 (by decide) q287 rfl dX8_share_1 ?_
  refine k_get (v := .ref (wAd w 56)) C hP (lt_View to_NoisePost_now) (ob_View to_NoisePost_now w L _) rfl iX7 1 (by decide) q259 rfl dX8_share_4 ?_
  obtain ⟨r1, hr1, hf⟩ := ob hf
  refine kcd (kV (As := []) (rest := []) C hl.1 hP hS (c_X4_shareAbove w l C.2.2.2.2.2.2.2.2 (to_View_minutes to_NoisePost_now) (L := L) hr1) (gV q347 q348 q349 q6 q350) hd_X4_shareAbove (lt_Minutes (to_View_minutes to_NoisePost_now)) (ob_Minutes (to_View_minutes to_NoisePost_now) w L _) rfl ⟨rfl, rfl⟩ ⟨Nat.le_of_ble_eq_true rfl, Nat.le_of_ble_eq_true rfl⟩ rfl rfl (Nat.le_of_ble_eq_true rfl) dX8_share_7 ⟨Nat.zero_le _, Nat.zero_le _⟩) hS (fun H locs hP hS => ?_)
  cases hf
  exact krd C hP hS dX8_share_10
theorem dX8_mixed_0 : decode cX8_mixed 0 = .ok (.ldc2_w 334, 3) := by decide +kernel
theorem dX8_mixed_3 : decode cX8_mixed 3 = .ok (.lload_n 0, 1) := by decide +kernel
theorem dX8_mixed_4 : decode cX8_mixed 4 = .ok (.lmul, 1) := by decide +kernel
theorem dX8_mixed_5 : decode cX8_mixed 5 = .ok (.lload_n 2, 1) := by decide +kernel
theorem dX8_mixed_6 : decode cX8_mixed 6 = .ok (.ladd, 1) := by decide +kernel
theorem dX8_mixed_7 : decode cX8_mixed 7 = .ok (.lreturn, 1) := by decide +kernel
set_option maxHeartbeats 4000000 in
set_option maxRecDepth 100000 in
theorem c_X8_mixed (w : WT) (l : Launch) (hw : WOK w) {a0 : Int64} {a2 : Int64} {M : Mem} {L : Lng} {out : Int64} (hf : f_X8_mixed a0 a2 M = some out) : Met l yX8_mixed (Cond.code yX8_mixed cX8_mixed 4 (some .long) :: BG) ({ frames := 0, cells := 0, slots := 0, locals := 0 } : Room) (PRE w [.long a0, .long a2] M L) (QL w out M L) 0 0 (wA w) := by
  refine kEnt hw (by decide +kernel) rfl (Nat.le_of_ble_eq_true rfl) ?_
  intro p e s m args below meth c C ls hl hP
  have hS : va_S (wA w) s.heap s.heap [] := va_S.rf
  have hl : lv_has ls 4 [(0, .long a0), (2, .long a2)] := hl
  unfold f_X8_mixed at hf
  refine lv_ldc2 C.1 C.2.1 C.2.2.2.1 (C.2.2.2.2.1 _ q375) dX8_mixed_0 ?_
  refine lv_lload_n C.1 C.2.1 dX8_mixed_3 rfl (lv_at hl 0 rfl) ?_
  refine lv_lmul C.1 C.2.1 dX8_mixed_4 ?_
  refine lv_lload_n C.1 C.2.1 dX8_mixed_5 rfl (lv_at hl 1 rfl) ?_
  refine lv_ladd C.1 C.2.1 dX8_mixed_6 ?_
  cases hf
  exact krl C hP hS dX8_mixed_7
theorem dX8_withMinutes_0 : decode cX8_withMinutes 0 = .ok (.iconst 0, 1) := by decide +kernel
theorem dX8_withMinutes_1 : decode cX8_withMinutes 1 = .ok (.istore_n 3, 1) := by decide +kernel
theorem dX8_withMinutes_2 : decode cX8_withMinutes 2 = .ok (.iload_n 3, 1) := by decide +kernel
theorem dX8_withMinutes_3 : decode cX8_withMinutes 3 = .ok (.aload_n 0, 1) := by decide +kernel
theorem dX8_withMinutes_4 : decode cX8_withMinutes 4 = .ok (.getfield 10, 3) := by decide +kernel
theorem dX8_withMinutes_7 : decode cX8_withMinutes 7 = .ok (.getfield 86, 3) := by decide +kernel
theorem dX8_withMinutes_10 : decode cX8_withMinutes 10 = .ok (.if_icmp .ge 38, 3) := by decide +kernel
theorem dX8_withMinutes_13 : decode cX8_withMinutes 13 = .ok (.iconst 0, 1) := by decide +kernel
theorem dX8_withMinutes_14 : decode cX8_withMinutes 14 = .ok (.istore 4, 2) := by decide +kernel
theorem dX8_withMinutes_16 : decode cX8_withMinutes 16 = .ok (.iload 4, 2) := by decide +kernel
theorem dX8_withMinutes_18 : decode cX8_withMinutes 18 = .ok (.bipush 7, 2) := by decide +kernel
theorem dX8_withMinutes_20 : decode cX8_withMinutes 20 = .ok (.if_icmp .gt 22, 3) := by decide +kernel
theorem dX8_withMinutes_23 : decode cX8_withMinutes 23 = .ok (.lload_n 1, 1) := by decide +kernel
theorem dX8_withMinutes_24 : decode cX8_withMinutes 24 = .ok (.aload_n 0, 1) := by decide +kernel
theorem dX8_withMinutes_25 : decode cX8_withMinutes 25 = .ok (.iload_n 3, 1) := by decide +kernel
theorem dX8_withMinutes_26 : decode cX8_withMinutes 26 = .ok (.iload 4, 2) := by decide +kernel
theorem dX8_withMinutes_28 : decode cX8_withMinutes 28 = .ok (.invokevirtual 195, 3) := by decide +kernel
theorem dX8_withMinutes_31 : decode cX8_withMinutes 31 = .ok (.i2l, 1) := by decide +kernel
theorem dX8_withMinutes_32 : decode cX8_withMinutes 32 = .ok (.invokestatic 254, 3) := by decide +kernel
theorem dX8_withMinutes_35 : decode cX8_withMinutes 35 = .ok (.lstore_n 1, 1) := by decide +kernel
theorem dX8_withMinutes_36 : decode cX8_withMinutes 36 = .ok (.iinc 4 1, 3) := by decide +kernel
theorem dX8_withMinutes_39 : decode cX8_withMinutes 39 = .ok (.goto (-23), 3) := by decide +kernel
theorem dX8_withMinutes_42 : decode cX8_withMinutes 42 = .ok (.iinc 3 1, 3) := by decide +kernel
theorem dX8_withMinutes_45 : decode cX8_withMinutes 45 = .ok (.goto (-43), 3) := by decide +kernel
theorem dX8_withMinutes_48 : decode cX8_withMinutes 48 = .ok (.lload_n 1, 1) := by decide +kernel
theorem dX8_withMinutes_49 : decode cX8_withMinutes 49 = .ok (.lreturn, 1) := by decide +kernel
set_option maxHeartbeats 4000000 in
set_option maxRecDepth 100000 in
theorem w_X8_withMinutes_l16 {w : WT} {l : Launch} {p : Program} {e : Env} {s : State} {m : MethodId} {args : Array Value} {below : List Frame} {meth : Method} {c : Code} (C : KC w p s m args meth c cX8_withMinutes 5 RX8 (some .long)) {v3 : Int32} {M : Mem} {L : Lng} {Q : State → Prop} (z : Int64 × Int32) (o : (Int64 × Int32) ⊕ (Int64)) (hf : f_X8_withMinutes_l16 v3 M z = some o) (hA : ∀ z, o = .inl z → AtL w p l e ({ frames := 4, cells := 0, slots := 0, locals := 86 } : Room) s m args below meth c Q 5 16 M L [(0, .ref (wAd w 0)), (1, .long z.1), (3, .int v3), (4, .int z.2)] []) (hE : ∀ y, o = .inr y → AtL w p l e ({ frames := 4, cells := 0, slots := 0, locals := 86 } : Room) s m args below meth c Q 5 42 M L [(0, .ref (wAd w 0)), (1, .long y), (3, .int v3)] []) : AtL w p l e ({ frames := 4, cells := 0, slots := 0, locals := 86 } : Room) s m args below meth c Q 5 16 M L [(0, .ref (wAd w 0)), (1, .long z.1), (3, .int v3), (4, .int z.2)] [] := by
  intro H locs ls hP hS hl
  unfold f_X8_withMinutes_l16 at hf
  refine lv_iload C.1 C.2.1 dX8_withMinutes_16 (lv_at hl 3 rfl) ?_
  refine lv_bipush (v := 7) C.1 C.2.1 dX8_withMinutes_18 (by decide) ?_
  refine lv_icmp_gt (tgt := 42) C.1 C.2.1 dX8_withMinutes_20 (by decide) (fun c2 => ?_) (fun c2 => ?_)
  · have hf := (if_pos c2).symm.trans hf
    cases hf
    exact hE _ rfl _ _ _ hP hS (lv_sub hl [0, 1, 2] rfl)
  · have hf := (if_neg c2).symm.trans hf
    refine lv_lload_n C.1 C.2.1 dX8_withMinutes_23 rfl (lv_at hl 1 rfl) ?_
    refine lv_aload_n C.1 C.2.1 dX8_withMinutes_24 rfl (lv_at hl 0 rfl) ?_
    refine lv_iload_n C.1 C.2.1 dX8_withMinutes_25 rfl (lv_at hl 2 rfl) ?_
    refine lv_iload C.1 C.2.1 dX8_withMinutes_26 (lv_at hl 3 rfl) ?_
    obtain ⟨r3, hr3, hf⟩ := ob hf
    refine kci (kV (As := [.int v3, .int z.2]) (rest := [.long z.1]) C hl.1 hP hS (c_X8_minuteProperty w l C.2.2.2.2.2.2.2.2 (L := L) hr3) (gV q380 q382 qp8 q1 q383) hd_X8_minuteProperty (lt_NoisePost h0_NoisePost) (ob_NoisePost h0_NoisePost w L _) rfl ⟨rfl, rfl⟩ ⟨Nat.le_of_ble_eq_true rfl, Nat.le_of_ble_eq_true rfl⟩ rfl rfl (Nat.le_of_ble_eq_true rfl) dX8_withMinutes_28 ⟨Nat.zero_le _, Nat.zero_le _⟩) hS (fun H locs hP hS => ?_)
    refine lv_i2l (v := (Int32.toInt64 r3)) C.1 C.2.1 dX8_withMinutes_31 rfl ?_
    obtain ⟨r4, hr4, hf⟩ := ob hf
    refine kcl (kS (As := [.long z.1, .long (Int32.toInt64 r3)]) (rest := []) C hl.1 hP hS (c_X8_mixed w l C.2.2.2.2.2.2.2.2 (L := L) hr4) (gS q372 q373 q1 q374) hd_X8_mixed ⟨rfl, rfl⟩ ⟨Nat.le_of_ble_eq_true rfl, Nat.le_of_ble_eq_true rfl⟩ rfl rfl (Nat.le_of_ble_eq_true rfl) dX8_withMinutes_32 ⟨Nat.zero_le _, Nat.zero_le _⟩) hS (fun H locs hP hS => ?_)
    refine lv_lstore_n (lv' := [(1, .long r4), (0, .ref (wAd w 0)), (3, .int v3), (4, .int z.2)]) C.1 C.2.1 dX8_withMinutes_35 rfl hl (by decide) rfl (fun ls hl => ?_)
    refine lv_iinc (v := (z.2 + 1)) (lv' := [(4, .int (z.2 + 1)), (1, .long r4), (0, .ref (wAd w 0)), (3, .int v3)]) C.1 C.2.1 dX8_withMinutes_36 hl (k := 3) rfl rfl (by decide) rfl (fun ls hl => ?_)
    refine lv_goto (tgt := 16) C.1 C.2.1 dX8_withMinutes_39 (by decide) ?_
    cases hf
    exact hA _ rfl _ _ _ hP hS (lv_sub hl [2, 1, 3, 0] rfl)
set_option maxHeartbeats 4000000 in
set_option maxRecDepth 100000 in
theorem w_X8_withMinutes_l2 {w : WT} {l : Launch} {p : Program} {e : Env} {s : State} {m : MethodId} {args : Array Value} {below : List Frame} {meth : Method} {c : Code} (C : KC w p s m args meth c cX8_withMinutes 5 RX8 (some .long)) {M : Mem} {L : Lng} {Q : State → Prop} (z : Int64 × Int32) (o : (Int64 × Int32) ⊕ (Int64)) (hf : f_X8_withMinutes_l2 M z = some o) (hA : ∀ z, o = .inl z → AtL w p l e ({ frames := 4, cells := 0, slots := 0, locals := 86 } : Room) s m args below meth c Q 5 2 M L [(0, .ref (wAd w 0)), (1, .long z.1), (3, .int z.2)] []) (hE : ∀ y, o = .inr y → AtL w p l e ({ frames := 4, cells := 0, slots := 0, locals := 86 } : Room) s m args below meth c Q 5 48 M L [(1, .long y)] []) : AtL w p l e ({ frames := 4, cells := 0, slots := 0, locals := 86 } : Room) s m args below meth c Q 5 2 M L [(0, .ref (wAd w 0)), (1, .long z.1), (3, .int z.2)] [] := by
  intro H locs ls hP hS hl
  unfold f_X8_withMinutes_l2 at hf
  refine lv_iload_n C.1 C.2.1 dX8_withMinutes_2 rfl (lv_at hl 2 rfl) ?_
  refine lv_aload_n C.1 C.2.1 dX8_withMinutes_3 rfl (lv_at hl 0 rfl) ?_
  refine k_get (v := .ref (wAd w 1)) C hP (lt_NoisePost h0_NoisePost) (ob_NoisePost h0_NoisePost w L _) rfl iX8 0 (by decide) q284 rfl dX8_withMinutes_4 ?_
  refine k_get (v := .int (M 1 4)) C hP (lt_State to_NoisePost_state) (ob_State to_NoisePost_state w L _) rfl iX5 4 (by decide) q56 rfl dX8_withMinutes_7 ?_
  refine lv_icmp_ge (tgt := 48) C.1 C.2.1 dX8_withMinutes_10 (by decide) (fun c1 => ?_) (fun c1 => ?_)
  · have hf := (if_pos c1).symm.trans hf
    cases hf
    exact hE _ rfl _ _ _ hP hS (lv_sub hl [1] rfl)
  · have hf := (if_neg c1).symm.trans hf
    refine lv_iconst (v := 0) C.1 C.2.1 dX8_withMinutes_13 (by decide) ?_
    refine lv_istore (lv' := [(4, .int 0), (0, .ref (wAd w 0)), (1, .long z.1), (3, .int z.2)]) C.1 C.2.1 dX8_withMinutes_14 hl (by decide) rfl (fun ls hl => ?_)
    obtain ⟨o5, ho5, hf⟩ := ob hf
    refine loop_at (w_X8_withMinutes_l16 C) FU _ o5 ho5 ?_ _ _ _ hP hS (lv_sub hl [1, 2, 3, 0] rfl)
    intro H locs ls hP hS hl
    refine lv_iinc (v := (z.2 + 1)) (lv' := [(3, .int (z.2 + 1)), (0, .ref (wAd w 0)), (1, .long o5)]) C.1 C.2.1 dX8_withMinutes_42 hl (k := 2) rfl rfl (by decide) rfl (fun ls hl => ?_)
    refine lv_goto (tgt := 2) C.1 C.2.1 dX8_withMinutes_45 (by decide) ?_
    cases hf
    exact hA _ rfl _ _ _ hP hS (lv_sub hl [1, 2, 0] rfl)
set_option maxHeartbeats 4000000 in
set_option maxRecDepth 100000 in
theorem c_X8_withMinutes (w : WT) (l : Launch) (hw : WOK w) {a1 : Int64} {M : Mem} {L : Lng} {out : Int64} (hf : f_X8_withMinutes a1 M = some out) : Met l yX8_withMinutes (Cond.code yX8_withMinutes cX8_withMinutes 5 (some .long) :: BG) ({ frames := 4, cells := 0, slots := 0, locals := 86 } : Room) (PRE w [.ref (wAd w 0), .long a1] M L) (QL w out M L) 0 0 (wA w) := by
  refine kEnt hw (by decide +kernel) rfl (Nat.le_of_ble_eq_true rfl) ?_
  intro p e s m args below meth c C ls hl hP
  have hS : va_S (wA w) s.heap s.heap [] := va_S.rf
  have hl : lv_has ls 5 [(0, .ref (wAd w 0)), (1, .long a1)] := hl
  unfold f_X8_withMinutes at hf
  refine lv_iconst (v := 0) C.1 C.2.1 dX8_withMinutes_0 (by decide) ?_
  refine lv_istore_n (lv' := [(3, .int 0), (0, .ref (wAd w 0)), (1, .long a1)]) C.1 C.2.1 dX8_withMinutes_1 rfl hl (by decide) rfl (fun ls hl => ?_)
  obtain ⟨o6, ho6, hf⟩ := ob hf
  refine loop_at (w_X8_withMinutes_l2 C) FU _ o6 ho6 ?_ _ _ _ hP hS (lv_sub hl [1, 2, 0] rfl)
  intro H locs ls hP hS hl
  refine lv_lload_n C.1 C.2.1 dX8_withMinutes_48 rfl (lv_at hl 0 rfl) ?_
  cases hf
  exact krl C hP hS dX8_withMinutes_49
theorem dX8_withExceedances_0 : decode cX8_withExceedances 0 = .ok (.iconst 0, 1) := by decide +kernel
theorem dX8_withExceedances_1 : decode cX8_withExceedances 1 = .ok (.istore_n 3, 1) := by decide +kernel
theorem dX8_withExceedances_2 : decode cX8_withExceedances 2 = .ok (.iload_n 3, 1) := by decide +kernel
theorem dX8_withExceedances_3 : decode cX8_withExceedances 3 = .ok (.aload_n 0, 1) := by decide +kernel
theorem dX8_withExceedances_4 : decode cX8_withExceedances 4 = .ok (.getfield 33, 3) := by decide +kernel
theorem dX8_withExceedances_7 : decode cX8_withExceedances 7 = .ok (.getfield 112, 3) := by decide +kernel
theorem dX8_withExceedances_10 : decode cX8_withExceedances 10 = .ok (.getfield 116, 3) := by decide +kernel
theorem dX8_withExceedances_13 : decode cX8_withExceedances 13 = .ok (.if_icmp .ge 37, 3) := by decide +kernel
theorem dX8_withExceedances_16 : decode cX8_withExceedances 16 = .ok (.iconst 0, 1) := by decide +kernel
theorem dX8_withExceedances_17 : decode cX8_withExceedances 17 = .ok (.istore 4, 2) := by decide +kernel
theorem dX8_withExceedances_19 : decode cX8_withExceedances 19 = .ok (.iload 4, 2) := by decide +kernel
theorem dX8_withExceedances_21 : decode cX8_withExceedances 21 = .ok (.iconst 5, 1) := by decide +kernel
theorem dX8_withExceedances_22 : decode cX8_withExceedances 22 = .ok (.if_icmp .gt 22, 3) := by decide +kernel
theorem dX8_withExceedances_25 : decode cX8_withExceedances 25 = .ok (.lload_n 1, 1) := by decide +kernel
theorem dX8_withExceedances_26 : decode cX8_withExceedances 26 = .ok (.aload_n 0, 1) := by decide +kernel
theorem dX8_withExceedances_27 : decode cX8_withExceedances 27 = .ok (.iload_n 3, 1) := by decide +kernel
theorem dX8_withExceedances_28 : decode cX8_withExceedances 28 = .ok (.iload 4, 2) := by decide +kernel
theorem dX8_withExceedances_30 : decode cX8_withExceedances 30 = .ok (.invokevirtual 201, 3) := by decide +kernel
theorem dX8_withExceedances_33 : decode cX8_withExceedances 33 = .ok (.i2l, 1) := by decide +kernel
theorem dX8_withExceedances_34 : decode cX8_withExceedances 34 = .ok (.invokestatic 254, 3) := by decide +kernel
theorem dX8_withExceedances_37 : decode cX8_withExceedances 37 = .ok (.lstore_n 1, 1) := by decide +kernel
theorem dX8_withExceedances_38 : decode cX8_withExceedances 38 = .ok (.iinc 4 1, 3) := by decide +kernel
theorem dX8_withExceedances_41 : decode cX8_withExceedances 41 = .ok (.goto (-22), 3) := by decide +kernel
theorem dX8_withExceedances_44 : decode cX8_withExceedances 44 = .ok (.iinc 3 1, 3) := by decide +kernel
theorem dX8_withExceedances_47 : decode cX8_withExceedances 47 = .ok (.goto (-45), 3) := by decide +kernel
theorem dX8_withExceedances_50 : decode cX8_withExceedances 50 = .ok (.lload_n 1, 1) := by decide +kernel
theorem dX8_withExceedances_51 : decode cX8_withExceedances 51 = .ok (.lreturn, 1) := by decide +kernel
set_option maxHeartbeats 4000000 in
set_option maxRecDepth 100000 in
theorem w_X8_withExceedances_l19 {w : WT} {l : Launch} {p : Program} {e : Env} {s : State} {m : MethodId} {args : Array Value} {below : List Frame} {meth : Method} {c : Code} (C : KC w p s m args meth c cX8_withExceedances 5 RX8 (some .long)) {v3 : Int32} {M : Mem} {L : Lng} {Q : State → Prop} (z : Int64 × Int32) (o : (Int64 × Int32) ⊕ (Int64)) (hf : f_X8_withExceedances_l19 v3 M z = some o) (hA : ∀ z, o = .inl z → AtL w p l e ({ frames := 1, cells := 0, slots := 0, locals := 23 } : Room) s m args below meth c Q 5 19 M L [(0, .ref (wAd w 0)), (1, .long z.1), (3, .int v3), (4, .int z.2)] []) (hE : ∀ y, o = .inr y → AtL w p l e ({ frames := 1, cells := 0, slots := 0, locals := 23 } : Room) s m args below meth c Q 5 44 M L [(0, .ref (wAd w 0)), (1, .long y), (3, .int v3)] []) : AtL w p l e ({ frames := 1, cells := 0, slots := 0, locals := 23 } : Room) s m args below meth c Q 5 19 M L [(0, .ref (wAd w 0)), (1, .long z.1), (3, .int v3), (4, .int z.2)] [] := by
  intro H locs ls hP hS hl
  unfold f_X8_withExceedances_l19 at hf
  refine lv_iload C.1 C.2.1 dX8_withExceedances_19 (lv_at hl 3 rfl) ?_
  refine lv_iconst (v := 5) C.1 C.2.1 dX8_withExceedances_21 (by decide) ?_
  refine lv_icmp_gt (tgt := 44) C.1 C.2.1 dX8_withExceedances_22 (by decide) (fun c2 => ?_) (fun c2 => ?_)
  · have hf := (if_pos c2).symm.trans hf
    cases hf
    exact hE _ rfl _ _ _ hP hS (lv_sub hl [0, 1, 2] rfl)
  · have hf := (if_neg c2).symm.trans hf
    refine lv_lload_n C.1 C.2.1 dX8_withExceedances_25 rfl (lv_at hl 1 rfl) ?_
    refine lv_aload_n C.1 C.2.1 dX8_withExceedances_26 rfl (lv_at hl 0 rfl) ?_
    refine lv_iload_n C.1 C.2.1 dX8_withExceedances_27 rfl (lv_at hl 2 rfl) ?_
    refine lv_iload C.1 C.2.1 dX8_withExceedances_28 (lv_at hl 3 rfl) ?_
    obtain ⟨r3, hr3, hf⟩ := ob hf
    refine kci (kV (As := [.int v3, .int z.2]) (rest := [.long z.1]) C hl.1 hP hS (c_X8_exceedanceProperty w l C.2.2.2.2.2.2.2.2 (L := L) hr3) (gV q397 q399 qp10 q1 q400) hd_X8_exceedanceProperty (lt_NoisePost h0_NoisePost) (ob_NoisePost h0_NoisePost w L _) rfl ⟨rfl, rfl⟩ ⟨Nat.le_of_ble_eq_true rfl, Nat.le_of_ble_eq_true rfl⟩ rfl rfl (Nat.le_of_ble_eq_true rfl) dX8_withExceedances_30 ⟨Nat.zero_le _, Nat.zero_le _⟩) hS (fun H locs hP hS => ?_)
    refine lv_i2l (v := (Int32.toInt64 r3)) C.1 C.2.1 dX8_withExceedances_33 rfl ?_
    obtain ⟨r4, hr4, hf⟩ := ob hf
    refine kcl (kS (As := [.long z.1, .long (Int32.toInt64 r3)]) (rest := []) C hl.1 hP hS (c_X8_mixed w l C.2.2.2.2.2.2.2.2 (L := L) hr4) (gS q372 q373 q1 q374) hd_X8_mixed ⟨rfl, rfl⟩ ⟨Nat.le_of_ble_eq_true rfl, Nat.le_of_ble_eq_true rfl⟩ rfl rfl (Nat.le_of_ble_eq_true rfl) dX8_withExceedances_34 ⟨Nat.zero_le _, Nat.zero_le _⟩) hS (fun H locs hP hS => ?_)
    refine lv_lstore_n (lv' := [(1, .long r4), (0, .ref (wAd w 0)), (3, .int v3), (4, .int z.2)]) C.1 C.2.1 dX8_withExceedances_37 rfl hl (by decide) rfl (fun ls hl => ?_)
    refine lv_iinc (v := (z.2 + 1)) (lv' := [(4, .int (z.2 + 1)), (1, .long r4), (0, .ref (wAd w 0)), (3, .int v3)]) C.1 C.2.1 dX8_withExceedances_38 hl (k := 3) rfl rfl (by decide) rfl (fun ls hl => ?_)
    refine lv_goto (tgt := 19) C.1 C.2.1 dX8_withExceedances_41 (by decide) ?_
    cases hf
    exact hA _ rfl _ _ _ hP hS (lv_sub hl [2, 1, 3, 0] rfl)
set_option maxHeartbeats 4000000 in
set_option maxRecDepth 100000 in
theorem w_X8_withExceedances_l2 {w : WT} {l : Launch} {p : Program} {e : Env} {s : State} {m : MethodId} {args : Array Value} {below : List Frame} {meth : Method} {c : Code} (C : KC w p s m args meth c cX8_withExceedances 5 RX8 (some .long)) {M : Mem} {L : Lng} {Q : State → Prop} (z : Int64 × Int32) (o : (Int64 × Int32) ⊕ (Int64)) (hf : f_X8_withExceedances_l2 M z = some o) (hA : ∀ z, o = .inl z → AtL w p l e ({ frames := 1, cells := 0, slots := 0, locals := 23 } : Room) s m args below meth c Q 5 2 M L [(0, .ref (wAd w 0)), (1, .long z.1), (3, .int z.2)] []) (hE : ∀ y, o = .inr y → AtL w p l e ({ frames := 1, cells := 0, slots := 0, locals := 23 } : Room) s m args below meth c Q 5 50 M L [(1, .long y)] []) : AtL w p l e ({ frames := 1, cells := 0, slots := 0, locals := 23 } : Room) s m args below meth c Q 5 2 M L [(0, .ref (wAd w 0)), (1, .long z.1), (3, .int z.2)] [] := by
  intro H locs ls hP hS hl
  unfold f_X8_withExceedances_l2 at hf
  refine lv_iload_n C.1 C.2.1 dX8_withExceedances_2 rfl (lv_at hl 2 rfl) ?_
  refine lv_aload_n C.1 C.2.1 dX8_withExceedances_3 rfl (lv_at hl 0 rfl) ?_
  refine k_get (v := .ref (wAd w 54)) C hP (lt_NoisePost h0_NoisePost) (ob_NoisePost h0_NoisePost w L _) rfl iX8 3 (by decide) q287 rfl dX8_withExceedances_4 ?_
  refine k_get (v := .ref (wAd w 60)) C hP (lt_View to_NoisePost_now) (ob_View to_NoisePost_now w L _) rfl iX7 2 (by decide) q261 rfl dX8_withExceedances_7 ?_
  refine k_get (v := .int (M 60 6)) C hP (lt_Exceedances (to_View_exceedances to_NoisePost_now)) (ob_Exceedances (to_View_exceedances to_NoisePost_now) w L _) rfl iX0 6 (by decide) q209 rfl dX8_withExceedances_10 ?_
  refine lv_icmp_ge (tgt := 50) C.1 C.2.1 dX8_withExceedances_13 (by decide) (fun c1 => ?_) (fun c1 => ?_)
  · have hf := (if_pos c1).symm.trans hf
    cases hf
    exact hE _ rfl _ _ _ hP hS (lv_sub hl [1] rfl)
  · have hf := (if_neg c1).symm.trans hf
    refine lv_iconst (v := 0) C.1 C.2.1 dX8_withExceedances_16 (by decide) ?_
    refine lv_istore (lv' := [(4, .int 0), (0, .ref (wAd w 0)), (1, .long z.1), (3, .int z.2)]) C.1 C.2.1 dX8_withExceedances_17 hl (by decide) rfl (fun ls hl => ?_)
    obtain ⟨o5, ho5, hf⟩ := ob hf
    refine loop_at (w_X8_withExceedances_l19 C) FU _ o5 ho5 ?_ _ _ _ hP hS (lv_sub hl [1, 2, 3, 0] rfl)
    intro H locs ls hP hS hl
    refine lv_iinc (v := (z.2 + 1)) (lv' := [(3, .int (z.2 + 1)), (0, .ref (wAd w 0)), (1, .long o5)]) C.1 C.2.1 dX8_withExceedances_44 hl (k := 2) rfl rfl (by decide) rfl (fun ls hl => ?_)
    refine lv_goto (tgt := 2) C.1 C.2.1 dX8_withExceedances_47 (by decide) ?_
    cases hf
    exact hA _ rfl _ _ _ hP hS (lv_sub hl [1, 2, 0] rfl)
set_option maxHeartbeats 4000000 in
set_option maxRecDepth 100000 in
theorem c_X8_withExceedances (w : WT) (l : Launch) (hw : WOK w) {a1 : Int64} {M : Mem} {L : Lng} {out : Int64} (hf : f_X8_withExceedances a1 M = some out) : Met l yX8_withExceedances (Cond.code yX8_withExceedances cX8_withExceedances 5 (some .long) :: BG) ({ frames := 1, cells := 0, slots := 0, locals := 23 } : Room) (PRE w [.ref (wAd w 0), .long a1] M L) (QL w out M L) 0 0 (wA w) := by
  refine kEnt hw (by decide +kernel) rfl (Nat.le_of_ble_eq_true rfl) ?_
  intro p e s m args below meth c C ls hl hP
  have hS : va_S (wA w) s.heap s.heap [] := va_S.rf
  have hl : lv_has ls 5 [(0, .ref (wAd w 0)), (1, .long a1)] := hl
  unfold f_X8_withExceedances at hf
  refine lv_iconst (v := 0) C.1 C.2.1 dX8_withExceedances_0 (by decide) ?_
  refine lv_istore_n (lv' := [(3, .int 0), (0, .ref (wAd w 0)), (1, .long a1)]) C.1 C.2.1 dX8_withExceedances_1 rfl hl (by decide) rfl (fun ls hl => ?_)
  obtain ⟨o6, ho6, hf⟩ := ob hf
  refine loop_at (w_X8_withExceedances_l2 C) FU _ o6 ho6 ?_ _ _ _ hP hS (lv_sub hl [1, 2, 0] rfl)
  intro H locs ls hP hS hl
  refine lv_lload_n C.1 C.2.1 dX8_withExceedances_50 rfl (lv_at hl 0 rfl) ?_
  cases hf
  exact krl C hP hS dX8_withExceedances_51
theorem dX8_withComplaints_0 : decode cX8_withComplaints 0 = .ok (.iconst 0, 1) := by decide +kernel
theorem dX8_withComplaints_1 : decode cX8_withComplaints 1 = .ok (.istore_n 3, 1) := by decide +kernel
theorem dX8_withComplaints_2 : decode cX8_withComplaints 2 = .ok (.iload_n 3, 1) := by decide +kernel
theorem dX8_withComplaints_3 : decode cX8_withComplaints 3 = .ok (.aload_n 0, 1) := by decide +kernel
theorem dX8_withComplaints_4 : decode cX8_withComplaints 4 = .ok (.getfield 10, 3) := by decide +kernel
theorem dX8_withComplaints_7 : decode cX8_withComplaints 7 = .ok (.getfield 129, 3) := by decide +kernel
theorem dX8_withComplaints_10 : decode cX8_withComplaints 10 = .ok (.if_icmp .ge 33, 3) := by decide +kernel
theorem dX8_withComplaints_13 : decode cX8_withComplaints 13 = .ok (.lload_n 1, 1) := by decide +kernel
theorem dX8_withComplaints_14 : decode cX8_withComplaints 14 = .ok (.aload_n 0, 1) := by decide +kernel
theorem dX8_withComplaints_15 : decode cX8_withComplaints 15 = .ok (.iload_n 3, 1) := by decide +kernel
theorem dX8_withComplaints_16 : decode cX8_withComplaints 16 = .ok (.iconst 0, 1) := by decide +kernel
theorem dX8_withComplaints_17 : decode cX8_withComplaints 17 = .ok (.invokevirtual 204, 3) := by decide +kernel
theorem dX8_withComplaints_20 : decode cX8_withComplaints 20 = .ok (.i2l, 1) := by decide +kernel
theorem dX8_withComplaints_21 : decode cX8_withComplaints 21 = .ok (.invokestatic 254, 3) := by decide +kernel
theorem dX8_withComplaints_24 : decode cX8_withComplaints 24 = .ok (.lstore_n 1, 1) := by decide +kernel
theorem dX8_withComplaints_25 : decode cX8_withComplaints 25 = .ok (.lload_n 1, 1) := by decide +kernel
theorem dX8_withComplaints_26 : decode cX8_withComplaints 26 = .ok (.aload_n 0, 1) := by decide +kernel
theorem dX8_withComplaints_27 : decode cX8_withComplaints 27 = .ok (.iload_n 3, 1) := by decide +kernel
theorem dX8_withComplaints_28 : decode cX8_withComplaints 28 = .ok (.iconst 1, 1) := by decide +kernel
theorem dX8_withComplaints_29 : decode cX8_withComplaints 29 = .ok (.invokevirtual 204, 3) := by decide +kernel
theorem dX8_withComplaints_32 : decode cX8_withComplaints 32 = .ok (.i2l, 1) := by decide +kernel
theorem dX8_withComplaints_33 : decode cX8_withComplaints 33 = .ok (.invokestatic 254, 3) := by decide +kernel
theorem dX8_withComplaints_36 : decode cX8_withComplaints 36 = .ok (.lstore_n 1, 1) := by decide +kernel
theorem dX8_withComplaints_37 : decode cX8_withComplaints 37 = .ok (.iinc 3 1, 3) := by decide +kernel
theorem dX8_withComplaints_40 : decode cX8_withComplaints 40 = .ok (.goto (-38), 3) := by decide +kernel
theorem dX8_withComplaints_43 : decode cX8_withComplaints 43 = .ok (.lload_n 1, 1) := by decide +kernel
theorem dX8_withComplaints_44 : decode cX8_withComplaints 44 = .ok (.lreturn, 1) := by decide +kernel
set_option maxHeartbeats 4000000 in
set_option maxRecDepth 100000 in
theorem w_X8_withComplaints_l2 {w : WT} {l : Launch} {p : Program} {e : Env} {s : State} {m : MethodId} {args : Array Value} {below : List Frame} {meth : Method} {c : Code} (C : KC w p s m args meth c cX8_withComplaints 4 RX8 (some .long)) {M : Mem} {L : Lng} {Q : State → Prop} (z : Int64 × Int32) (o : (Int64 × Int32) ⊕ (Int64)) (hf : f_X8_withComplaints_l2 M z = some o) (hA : ∀ z, o = .inl z → AtL w p l e ({ frames := 1, cells := 0, slots := 0, locals := 23 } : Room) s m args below meth c Q 4 2 M L [(0, .ref (wAd w 0)), (1, .long z.1), (3, .int z.2)] []) (hE : ∀ y, o = .inr y → AtL w p l e ({ frames := 1, cells := 0, slots := 0, locals := 23 } : Room) s m args below meth c Q 4 43 M L [(1, .long y)] []) : AtL w p l e ({ frames := 1, cells := 0, slots := 0, locals := 23 } : Room) s m args below meth c Q 4 2 M L [(0, .ref (wAd w 0)), (1, .long z.1), (3, .int z.2)] [] := by
  intro H locs ls hP hS hl
  unfold f_X8_withComplaints_l2 at hf
  refine lv_iload_n C.1 C.2.1 dX8_withComplaints_2 rfl (lv_at hl 2 rfl) ?_
  refine lv_aload_n C.1 C.2.1 dX8_withComplaints_3 rfl (lv_at hl 0 rfl) ?_
  refine k_get (v := .ref (wAd w 1)) C hP (lt_NoisePost h0_NoisePost) (ob_NoisePost h0_NoisePost w L _) rfl iX8 0 (by decide) q284 rfl dX8_withComplaints_4 ?_
  refine k_get (v := .int (M 1 5)) C hP (lt_State to_NoisePost_state) (ob_State to_NoisePost_state w L _) rfl iX5 5 (by decide) q59 rfl dX8_withComplaints_7 ?_
  refine lv_icmp_ge (tgt := 43) C.1 C.2.1 dX8_withComplaints_10 (by decide) (fun c1 => ?_) (fun c1 => ?_)
  · have hf := (if_pos c1).symm.trans hf
    cases hf
    exact hE _ rfl _ _ _ hP hS (lv_sub hl [1] rfl)
  · have hf := (if_neg c1).symm.trans hf
    refine lv_lload_n C.1 C.2.1 dX8_withComplaints_13 rfl (lv_at hl 1 rfl) ?_
    refine lv_aload_n C.1 C.2.1 dX8_withComplaints_14 rfl (lv_at hl 0 rfl) ?_
    refine lv_iload_n C.1 C.2.1 dX8_withComplaints_15 rfl (lv_at hl 2 rfl) ?_
    refine lv_iconst (v := 0) C.1 C.2.1 dX8_withComplaints_16 (by decide) ?_
    obtain ⟨r2, hr2, hf⟩ := ob hf
    refine kci (kV (As := [.int z.2, .int 0]) (rest := [.long z.1]) C hl.1 hP hS (c_X8_complaintProperty w l C.2.2.2.2.2.2.2.2 (L := L) hr2) (gV q405 q407 qp12 q1 q408) hd_X8_complaintProperty (lt_NoisePost h0_NoisePost) (ob_NoisePost h0_NoisePost w L _) rfl ⟨rfl, rfl⟩ ⟨Nat.le_of_ble_eq_true rfl, Nat.le_of_ble_eq_true rfl⟩ rfl rfl (Nat.le_of_ble_eq_true rfl) dX8_withComplaints_17 ⟨Nat.zero_le _, Nat.zero_le _⟩) hS (fun H locs hP hS => ?_)
    refine lv_i2l (v := (Int32.toInt64 r2)) C.1 C.2.1 dX8_withComplaints_20 rfl ?_
    obtain ⟨r3, hr3, hf⟩ := ob hf
    refine kcl (kS (As := [.long z.1, .long (Int32.toInt64 r2)]) (rest := []) C hl.1 hP hS (c_X8_mixed w l C.2.2.2.2.2.2.2.2 (L := L) hr3) (gS q372 q373 q1 q374) hd_X8_mixed ⟨rfl, rfl⟩ ⟨Nat.le_of_ble_eq_true rfl, Nat.le_of_ble_eq_true rfl⟩ rfl rfl (Nat.le_of_ble_eq_true rfl) dX8_withComplaints_21 ⟨Nat.zero_le _, Nat.zero_le _⟩) hS (fun H locs hP hS => ?_)
    refine lv_lstore_n (lv' := [(1, .long r3), (0, .ref (wAd w 0)), (3, .int z.2)]) C.1 C.2.1 dX8_withComplaints_24 rfl hl (by decide) rfl (fun ls hl => ?_)
    refine lv_lload_n C.1 C.2.1 dX8_withComplaints_25 rfl (lv_at hl 0 rfl) ?_
    refine lv_aload_n C.1 C.2.1 dX8_withComplaints_26 rfl (lv_at hl 1 rfl) ?_
    refine lv_iload_n C.1 C.2.1 dX8_withComplaints_27 rfl (lv_at hl 2 rfl) ?_
    refine lv_iconst (v := 1) C.1 C.2.1 dX8_withComplaints_28 (by decide) ?_
    obtain ⟨r4, hr4, hf⟩ := ob hf
    refine kci (kV (As := [.int z.2, .int 1]) (rest := [.long r3]) C hl.1 hP hS (c_X8_complaintProperty w l C.2.2.2.2.2.2.2.2 (L := L) hr4) (gV q405 q407 qp12 q1 q408) hd_X8_complaintProperty (lt_NoisePost h0_NoisePost) (ob_NoisePost h0_NoisePost w L _) rfl ⟨rfl, rfl⟩ ⟨Nat.le_of_ble_eq_true rfl, Nat.le_of_ble_eq_true rfl⟩ rfl rfl (Nat.le_of_ble_eq_true rfl) dX8_withComplaints_29 ⟨Nat.zero_le _, Nat.zero_le _⟩) hS (fun H locs hP hS => ?_)
    refine lv_i2l (v := (Int32.toInt64 r4)) C.1 C.2.1 dX8_withComplaints_32 rfl ?_
    obtain ⟨r5, hr5, hf⟩ := ob hf
    refine kcl (kS (As := [.long r3, .long (Int32.toInt64 r4)]) (rest := []) C hl.1 hP hS (c_X8_mixed w l C.2.2.2.2.2.2.2.2 (L := L) hr5) (gS q372 q373 q1 q374) hd_X8_mixed ⟨rfl, rfl⟩ ⟨Nat.le_of_ble_eq_true rfl, Nat.le_of_ble_eq_true rfl⟩ rfl rfl (Nat.le_of_ble_eq_true rfl) dX8_withComplaints_33 ⟨Nat.zero_le _, Nat.zero_le _⟩) hS (fun H locs hP hS => ?_)
    refine lv_lstore_n (lv' := [(1, .long r5), (0, .ref (wAd w 0)), (3, .int z.2)]) C.1 C.2.1 dX8_withComplaints_36 rfl hl (by decide) rfl (fun ls hl => ?_)
    refine lv_iinc (v := (z.2 + 1)) (lv' := [(3, .int (z.2 + 1)), (1, .long r5), (0, .ref (wAd w 0))]) C.1 C.2.1 dX8_withComplaints_37 hl (k := 2) rfl rfl (by decide) rfl (fun ls hl => ?_)
    refine lv_goto (tgt := 2) C.1 C.2.1 dX8_withComplaints_40 (by decide) ?_
    cases hf
    exact hA _ rfl _ _ _ hP hS (lv_sub hl [2, 1, 0] rfl)
set_option maxHeartbeats 4000000 in
set_option maxRecDepth 100000 in
theorem c_X8_withComplaints (w : WT) (l : Launch) (hw : WOK w) {a1 : Int64} {M : Mem} {L : Lng} {out : Int64} (hf : f_X8_withComplaints a1 M = some out) : Met l yX8_withComplaints (Cond.code yX8_withComplaints cX8_withComplaints 4 (some .long) :: BG) ({ frames := 1, cells := 0, slots := 0, locals := 23 } : Room) (PRE w [.ref (wAd w 0), .long a1] M L) (QL w out M L) 0 0 (wA w) := by
  refine kEnt hw (by decide +kernel) rfl (Nat.le_of_ble_eq_true rfl) ?_
  intro p e s m args below meth c C ls hl hP
  have hS : va_S (wA w) s.heap s.heap [] := va_S.rf
  have hl : lv_has ls 4 [(0, .ref (wAd w 0)), (1, .long a1)] := hl
  unfold f_X8_withComplaints at hf
  refine lv_iconst (v := 0) C.1 C.2.1 dX8_withComplaints_0 (by decide) ?_
  refine lv_istore_n (lv' := [(3, .int 0), (0, .ref (wAd w 0)), (1, .long a1)]) C.1 C.2.1 dX8_withComplaints_1 rfl hl (by decide) rfl (fun ls hl => ?_)
  obtain ⟨o6, ho6, hf⟩ := ob hf
  refine loop_at (w_X8_withComplaints_l2 C) FU _ o6 ho6 ?_ _ _ _ hP hS (lv_sub hl [1, 2, 0] rfl)
  intro H locs ls hP hS hl
  refine lv_lload_n C.1 C.2.1 dX8_withComplaints_43 rfl (lv_at hl 0 rfl) ?_
  cases hf
  exact krl C hP hS dX8_withComplaints_44
theorem dX8_withLevels_0 : decode cX8_withLevels 0 = .ok (.iconst 0, 1) := by decide +kernel
theorem dX8_withLevels_1 : decode cX8_withLevels 1 = .ok (.istore_n 3, 1) := by decide +kernel
theorem dX8_withLevels_2 : decode cX8_withLevels 2 = .ok (.iload_n 3, 1) := by decide +kernel
theorem dX8_withLevels_3 : decode cX8_withLevels 3 = .ok (.sipush 140, 3) := by decide +kernel
theorem dX8_withLevels_6 : decode cX8_withLevels 6 = .ok (.if_icmp .gt 24, 3) := by decide +kernel
theorem dX8_withLevels_9 : decode cX8_withLevels 9 = .ok (.lload_n 1, 1) := by decide +kernel
theorem dX8_withLevels_10 : decode cX8_withLevels 10 = .ok (.aload_n 0, 1) := by decide +kernel
theorem dX8_withLevels_11 : decode cX8_withLevels 11 = .ok (.getfield 43, 3) := by decide +kernel
theorem dX8_withLevels_14 : decode cX8_withLevels 14 = .ok (.getfield 209, 3) := by decide +kernel
theorem dX8_withLevels_17 : decode cX8_withLevels 17 = .ok (.iload_n 3, 1) := by decide +kernel
theorem dX8_withLevels_18 : decode cX8_withLevels 18 = .ok (.iaload, 1) := by decide +kernel
theorem dX8_withLevels_19 : decode cX8_withLevels 19 = .ok (.i2l, 1) := by decide +kernel
theorem dX8_withLevels_20 : decode cX8_withLevels 20 = .ok (.invokestatic 254, 3) := by decide +kernel
theorem dX8_withLevels_23 : decode cX8_withLevels 23 = .ok (.lstore_n 1, 1) := by decide +kernel
theorem dX8_withLevels_24 : decode cX8_withLevels 24 = .ok (.iinc 3 10, 3) := by decide +kernel
theorem dX8_withLevels_27 : decode cX8_withLevels 27 = .ok (.goto (-25), 3) := by decide +kernel
theorem dX8_withLevels_30 : decode cX8_withLevels 30 = .ok (.aload_n 0, 1) := by decide +kernel
theorem dX8_withLevels_31 : decode cX8_withLevels 31 = .ok (.getfield 33, 3) := by decide +kernel
theorem dX8_withLevels_34 : decode cX8_withLevels 34 = .ok (.getfield 214, 3) := by decide +kernel
theorem dX8_withLevels_37 : decode cX8_withLevels 37 = .ok (.getfield 217, 3) := by decide +kernel
theorem dX8_withLevels_40 : decode cX8_withLevels 40 = .ok (.istore_n 3, 1) := by decide +kernel
theorem dX8_withLevels_41 : decode cX8_withLevels 41 = .ok (.lload_n 1, 1) := by decide +kernel
theorem dX8_withLevels_42 : decode cX8_withLevels 42 = .ok (.aload_n 0, 1) := by decide +kernel
theorem dX8_withLevels_43 : decode cX8_withLevels 43 = .ok (.getfield 43, 3) := by decide +kernel
theorem dX8_withLevels_46 : decode cX8_withLevels 46 = .ok (.iconst 1, 1) := by decide +kernel
theorem dX8_withLevels_47 : decode cX8_withLevels 47 = .ok (.iload_n 3, 1) := by decide +kernel
theorem dX8_withLevels_48 : decode cX8_withLevels 48 = .ok (.invokevirtual 222, 3) := by decide +kernel
theorem dX8_withLevels_51 : decode cX8_withLevels 51 = .ok (.i2l, 1) := by decide +kernel
theorem dX8_withLevels_52 : decode cX8_withLevels 52 = .ok (.invokestatic 254, 3) := by decide +kernel
theorem dX8_withLevels_55 : decode cX8_withLevels 55 = .ok (.lstore_n 1, 1) := by decide +kernel
theorem dX8_withLevels_56 : decode cX8_withLevels 56 = .ok (.lload_n 1, 1) := by decide +kernel
theorem dX8_withLevels_57 : decode cX8_withLevels 57 = .ok (.aload_n 0, 1) := by decide +kernel
theorem dX8_withLevels_58 : decode cX8_withLevels 58 = .ok (.getfield 43, 3) := by decide +kernel
theorem dX8_withLevels_61 : decode cX8_withLevels 61 = .ok (.bipush 10, 2) := by decide +kernel
theorem dX8_withLevels_63 : decode cX8_withLevels 63 = .ok (.iload_n 3, 1) := by decide +kernel
theorem dX8_withLevels_64 : decode cX8_withLevels 64 = .ok (.invokevirtual 222, 3) := by decide +kernel
theorem dX8_withLevels_67 : decode cX8_withLevels 67 = .ok (.i2l, 1) := by decide +kernel
theorem dX8_withLevels_68 : decode cX8_withLevels 68 = .ok (.invokestatic 254, 3) := by decide +kernel
theorem dX8_withLevels_71 : decode cX8_withLevels 71 = .ok (.lstore_n 1, 1) := by decide +kernel
theorem dX8_withLevels_72 : decode cX8_withLevels 72 = .ok (.lload_n 1, 1) := by decide +kernel
theorem dX8_withLevels_73 : decode cX8_withLevels 73 = .ok (.aload_n 0, 1) := by decide +kernel
theorem dX8_withLevels_74 : decode cX8_withLevels 74 = .ok (.getfield 43, 3) := by decide +kernel
theorem dX8_withLevels_77 : decode cX8_withLevels 77 = .ok (.bipush 50, 2) := by decide +kernel
theorem dX8_withLevels_79 : decode cX8_withLevels 79 = .ok (.iload_n 3, 1) := by decide +kernel
theorem dX8_withLevels_80 : decode cX8_withLevels 80 = .ok (.invokevirtual 222, 3) := by decide +kernel
theorem dX8_withLevels_83 : decode cX8_withLevels 83 = .ok (.i2l, 1) := by decide +kernel
theorem dX8_withLevels_84 : decode cX8_withLevels 84 = .ok (.invokestatic 254, 3) := by decide +kernel
theorem dX8_withLevels_87 : decode cX8_withLevels 87 = .ok (.lstore_n 1, 1) := by decide +kernel
theorem dX8_withLevels_88 : decode cX8_withLevels 88 = .ok (.lload_n 1, 1) := by decide +kernel
theorem dX8_withLevels_89 : decode cX8_withLevels 89 = .ok (.aload_n 0, 1) := by decide +kernel
theorem dX8_withLevels_90 : decode cX8_withLevels 90 = .ok (.getfield 43, 3) := by decide +kernel
theorem dX8_withLevels_93 : decode cX8_withLevels 93 = .ok (.bipush 90, 2) := by decide +kernel
theorem dX8_withLevels_95 : decode cX8_withLevels 95 = .ok (.iload_n 3, 1) := by decide +kernel
theorem dX8_withLevels_96 : decode cX8_withLevels 96 = .ok (.invokevirtual 222, 3) := by decide +kernel
theorem dX8_withLevels_99 : decode cX8_withLevels 99 = .ok (.i2l, 1) := by decide +kernel
theorem dX8_withLevels_100 : decode cX8_withLevels 100 = .ok (.invokestatic 254, 3) := by decide +kernel
theorem dX8_withLevels_103 : decode cX8_withLevels 103 = .ok (.lstore_n 1, 1) := by decide +kernel
theorem dX8_withLevels_104 : decode cX8_withLevels 104 = .ok (.lload_n 1, 1) := by decide +kernel
theorem dX8_withLevels_105 : decode cX8_withLevels 105 = .ok (.aload_n 0, 1) := by decide +kernel
theorem dX8_withLevels_106 : decode cX8_withLevels 106 = .ok (.getfield 43, 3) := by decide +kernel
theorem dX8_withLevels_109 : decode cX8_withLevels 109 = .ok (.bipush 100, 2) := by decide +kernel
theorem dX8_withLevels_111 : decode cX8_withLevels 111 = .ok (.iload_n 3, 1) := by decide +kernel
theorem dX8_withLevels_112 : decode cX8_withLevels 112 = .ok (.invokevirtual 222, 3) := by decide +kernel
theorem dX8_withLevels_115 : decode cX8_withLevels 115 = .ok (.i2l, 1) := by decide +kernel
theorem dX8_withLevels_116 : decode cX8_withLevels 116 = .ok (.invokestatic 254, 3) := by decide +kernel
theorem dX8_withLevels_119 : decode cX8_withLevels 119 = .ok (.lreturn, 1) := by decide +kernel
set_option maxHeartbeats 4000000 in
set_option maxRecDepth 100000 in
theorem w_X8_withLevels_l2 {w : WT} {l : Launch} {p : Program} {e : Env} {s : State} {m : MethodId} {args : Array Value} {below : List Frame} {meth : Method} {c : Code} (C : KC w p s m args meth c cX8_withLevels 4 RX8 (some .long)) {M : Mem} {L : Lng} {Q : State → Prop} (z : Int64 × Int32) (o : (Int64 × Int32) ⊕ (Int64)) (hf : f_X8_withLevels_l2 M z = some o) (hA : ∀ z, o = .inl z → AtL w p l e ({ frames := 1, cells := 0, slots := 0, locals := 23 } : Room) s m args below meth c Q 4 2 M L [(0, .ref (wAd w 0)), (1, .long z.1), (3, .int z.2)] []) (hE : ∀ y, o = .inr y → AtL w p l e ({ frames := 1, cells := 0, slots := 0, locals := 23 } : Room) s m args below meth c Q 4 30 M L [(0, .ref (wAd w 0)), (1, .long y)] []) : AtL w p l e ({ frames := 1, cells := 0, slots := 0, locals := 23 } : Room) s m args below meth c Q 4 2 M L [(0, .ref (wAd w 0)), (1, .long z.1), (3, .int z.2)] [] := by
  intro H locs ls hP hS hl
  unfold f_X8_withLevels_l2 at hf
  refine lv_iload_n C.1 C.2.1 dX8_withLevels_2 rfl (lv_at hl 2 rfl) ?_
  refine lv_sipush (v := 140) C.1 C.2.1 dX8_withLevels_3 (by decide) ?_
  refine lv_icmp_gt (tgt := 30) C.1 C.2.1 dX8_withLevels_6 (by decide) (fun c1 => ?_) (fun c1 => ?_)
  · have hf := (if_pos c1).symm.trans hf
    cases hf
    exact hE _ rfl _ _ _ hP hS (lv_sub hl [0, 1] rfl)
  · have hf := (if_neg c1).symm.trans hf
    refine lv_lload_n C.1 C.2.1 dX8_withLevels_9 rfl (lv_at hl 1 rfl) ?_
    refine lv_aload_n C.1 C.2.1 dX8_withLevels_10 rfl (lv_at hl 0 rfl) ?_
    refine k_get (v := .ref (wAd w 88)) C hP (lt_NoisePost h0_NoisePost) (ob_NoisePost h0_NoisePost w L _) rfl iX8 5 (by decide) q289 rfl dX8_withLevels_11 ?_
    refine k_get (v := .ref (wAd w 89)) C hP (lt_LevelCounts to_NoisePost_levelCounts) (ob_LevelCounts to_NoisePost_levelCounts w L _) rfl iX2 0 (by decide) q280 rfl dX8_withLevels_14 ?_
    refine lv_iload_n C.1 C.2.1 dX8_withLevels_17 rfl (lv_at hl 2 rfl) ?_
    obtain ⟨x2, hx2, hf⟩ := ob hf
    refine k_iald C hP (la_LevelCounts_reached to_NoisePost_levelCounts) (ar_LevelCounts_reached to_NoisePost_levelCounts w L _) hx2 dX8_withLevels_18 ?_
    refine lv_i2l (v := (Int32.toInt64 x2)) C.1 C.2.1 dX8_withLevels_19 rfl ?_
    obtain ⟨r3, hr3, hf⟩ := ob hf
    refine kcl (kS (As := [.long z.1, .long (Int32.toInt64 x2)]) (rest := []) C hl.1 hP hS (c_X8_mixed w l C.2.2.2.2.2.2.2.2 (L := L) hr3) (gS q372 q373 q1 q374) hd_X8_mixed ⟨rfl, rfl⟩ ⟨Nat.le_of_ble_eq_true rfl, Nat.le_of_ble_eq_true rfl⟩ rfl rfl (Nat.le_of_ble_eq_true rfl) dX8_withLevels_20 ⟨Nat.zero_le _, Nat.zero_le _⟩) hS (fun H locs hP hS => ?_)
    refine lv_lstore_n (lv' := [(1, .long r3), (0, .ref (wAd w 0)), (3, .int z.2)]) C.1 C.2.1 dX8_withLevels_23 rfl hl (by decide) rfl (fun ls hl => ?_)
    refine lv_iinc (v := (z.2 + 10)) (lv' := [(3, .int (z.2 + 10)), (1, .long r3), (0, .ref (wAd w 0))]) C.1 C.2.1 dX8_withLevels_24 hl (k := 2) rfl rfl (by decide) rfl (fun ls hl => ?_)
    refine lv_goto (tgt := 2) C.1 C.2.1 dX8_withLevels_27 (by decide) ?_
    cases hf
    exact hA _ rfl _ _ _ hP hS (lv_sub hl [2, 1, 0] rfl)
set_option maxHeartbeats 4000000 in
set_option maxRecDepth 100000 in
theorem c_X8_withLevels (w : WT) (l : Launch) (hw : WOK w) {a1 : Int64} {M : Mem} {L : Lng} {out : Int64} (hf : f_X8_withLevels a1 M = some out) : Met l yX8_withLevels (Cond.code yX8_withLevels cX8_withLevels 4 (some .long) :: BG) ({ frames := 1, cells := 0, slots := 0, locals := 23 } : Room) (PRE w [.ref (wAd w 0), .long a1] M L) (QL w out M L) 0 0 (wA w) := by
  refine kEnt hw (by decide +kernel) rfl (Nat.le_of_ble_eq_true rfl) ?_
  intro p e s m args below meth c C ls hl hP
  have hS : va_S (wA w) s.heap s.heap [] := va_S.rf
  have hl : lv_has ls 4 [(0, .ref (wAd w 0)), (1, .long a1)] := hl
  unfold f_X8_withLevels at hf
  refine lv_iconst (v := 0) C.1 C.2.1 dX8_withLevels_0 (by decide) ?_
  refine lv_istore_n (lv' := [(3, .int 0), (0, .ref (wAd w 0)), (1, .long a1)]) C.1 C.2.1 dX8_withLevels_1 rfl hl (by decide) rfl (fun ls hl => ?_)
  obtain ⟨o4, ho4, hf⟩ := ob hf
  refine loop_at (w_X8_withLevels_l2 C) FU _ o4 ho4 ?_ _ _ _ hP hS (lv_sub hl [1, 2, 0] rfl)
  intro H locs ls hP hS hl
  refine lv_aload_n C.1 C.2.1 dX8_withLevels_30 rfl (lv_at hl 0 rfl) ?_
  refine k_get (v := .ref (wAd w 54)) C hP (lt_NoisePost h0_NoisePost) (ob_NoisePost h0_NoisePost w L _) rfl iX8 3 (by decide) q287 rfl dX8_withLevels_31 ?_
  refine k_get (v := .ref (wAd w 56)) C hP (lt_View to_NoisePost_now) (ob_View to_NoisePost_now w L _) rfl iX7 1 (by decide) q259 rfl dX8_withLevels_34 ?_
  refine k_get (v := .int (M 56 4)) C hP (lt_Minutes (to_View_minutes to_NoisePost_now)) (ob_Minutes (to_View_minutes to_NoisePost_now) w L _) rfl iX4 4 (by decide) q163 rfl dX8_withLevels_37 ?_
  refine lv_istore_n (lv' := [(3, .int (M 56 4)), (0, .ref (wAd w 0)), (1, .long o4)]) C.1 C.2.1 dX8_withLevels_40 rfl hl (by decide) rfl (fun ls hl => ?_)
  refine lv_lload_n C.1 C.2.1 dX8_withLevels_41 rfl (lv_at hl 2 rfl) ?_
  refine lv_aload_n C.1 C.2.1 dX8_withLevels_42 rfl (lv_at hl 1 rfl) ?_
  refine k_get (v := .ref (wAd w 88)) C hP (lt_NoisePost h0_NoisePost) (ob_NoisePost h0_NoisePost w L _) rfl iX8 5 (by decide) q289 rfl dX8_withLevels_43 ?_
  refine lv_iconst (v := 1) C.1 C.2.1 dX8_withLevels_46 (by decide) ?_
  refine lv_iload_n C.1 C.2.1 dX8_withLevels_47 rfl (lv_at hl 0 rfl) ?_
  obtain ⟨r5, hr5, hf⟩ := ob hf
  refine kci (kV (As := [.int 1, .int (M 56 4)]) (rest := [.long o4]) C hl.1 hP hS (c_X2_levelOfPercent w l C.2.2.2.2.2.2.2.2 (L := L) hr5) (gV q413 q414 q415 q9 q416) hd_X2_levelOfPercent (lt_LevelCounts to_NoisePost_levelCounts) (ob_LevelCounts to_NoisePost_levelCounts w L _) rfl ⟨rfl, rfl⟩ ⟨Nat.le_of_ble_eq_true rfl, Nat.le_of_ble_eq_true rfl⟩ rfl rfl (Nat.le_of_ble_eq_true rfl) dX8_withLevels_48 ⟨Nat.zero_le _, Nat.zero_le _⟩) hS (fun H locs hP hS => ?_)
  refine lv_i2l (v := (Int32.toInt64 r5)) C.1 C.2.1 dX8_withLevels_51 rfl ?_
  obtain ⟨r6, hr6, hf⟩ := ob hf
  refine kcl (kS (As := [.long o4, .long (Int32.toInt64 r5)]) (rest := []) C hl.1 hP hS (c_X8_mixed w l C.2.2.2.2.2.2.2.2 (L := L) hr6) (gS q372 q373 q1 q374) hd_X8_mixed ⟨rfl, rfl⟩ ⟨Nat.le_of_ble_eq_true rfl, Nat.le_of_ble_eq_true rfl⟩ rfl rfl (Nat.le_of_ble_eq_true rfl) dX8_withLevels_52 ⟨Nat.zero_le _, Nat.zero_le _⟩) hS (fun H locs hP hS => ?_)
  refine lv_lstore_n (lv' := [(1, .long r6), (3, .int (M 56 4)), (0, .ref (wAd w 0))]) C.1 C.2.1 dX8_withLevels_55 rfl hl (by decide) rfl (fun ls hl => ?_)
  refine lv_lload_n C.1 C.2.1 dX8_withLevels_56 rfl (lv_at hl 0 rfl) ?_
  refine lv_aload_n C.1 C.2.1 dX8_withLevels_57 rfl (lv_at hl 2 rfl) ?_
  refine k_get (v := .ref (wAd w 88)) C hP (lt_NoisePost h0_NoisePost) (ob_NoisePost h0_NoisePost w L _) rfl iX8 5 (by decide) q289 rfl dX8_withLevels_58 ?_
  refine lv_bipush (v := 10) C.1 C.2.1 dX8_withLevels_61 (by decide) ?_
  refine lv_iload_n C.1 C.2.1 dX8_withLevels_63 rfl (lv_at hl 1 rfl) ?_
  obtain ⟨r7, hr7, hf⟩ := ob hf
  refine kci (kV (As := [.int 10, .int (M 56 4)]) (rest := [.long r6]) C hl.1 hP hS (c_X2_levelOfPercent w l C.2.2.2.2.2.2.2.2 (L := L) hr7) (gV q413 q414 q415 q9 q416) hd_X2_levelOfPercent (lt_LevelCounts to_NoisePost_levelCounts) (ob_LevelCounts to_NoisePost_levelCounts w L _) rfl ⟨rfl, rfl⟩ ⟨Nat.le_of_ble_eq_true rfl, Nat.le_of_ble_eq_true rfl⟩ rfl rfl (Nat.le_of_ble_eq_true rfl) dX8_withLevels_64 ⟨Nat.zero_le _, Nat.zero_le _⟩) hS (fun H locs hP hS => ?_)
  refine lv_i2l (v := (Int32.toInt64 r7)) C.1 C.2.1 dX8_withLevels_67 rfl ?_
  obtain ⟨r8, hr8, hf⟩ := ob hf
  refine kcl (kS (As := [.long r6, .long (Int32.toInt64 r7)]) (rest := []) C hl.1 hP hS (c_X8_mixed w l C.2.2.2.2.2.2.2.2 (L := L) hr8) (gS q372 q373 q1 q374) hd_X8_mixed ⟨rfl, rfl⟩ ⟨Nat.le_of_ble_eq_true rfl, Nat.le_of_ble_eq_true rfl⟩ rfl rfl (Nat.le_of_ble_eq_true rfl) dX8_withLevels_68 ⟨Nat.zero_le _, Nat.zero_le _⟩) hS (fun H locs hP hS => ?_)
  refine lv_lstore_n (lv' := [(1, .long r8), (3, .int (M 56 4)), (0, .ref (wAd w 0))]) C.1 C.2.1 dX8_withLevels_71 rfl hl (by decide) rfl (fun ls hl => ?_)
  refine lv_lload_n C.1 C.2.1 dX8_withLevels_72 rfl (lv_at hl 0 rfl) ?_
  refine lv_aload_n C.1 C.2.1 dX8_withLevels_73 rfl (lv_at hl 2 rfl) ?_
  refine k_get (v := .ref (wAd w 88)) C hP (lt_NoisePost h0_NoisePost) (ob_NoisePost h0_NoisePost w L _) rfl iX8 5 (by decide) q289 rfl dX8_withLevels_74 ?_
  refine lv_bipush (v := 50) C.1 C.2.1 dX8_withLevels_77 (by decide) ?_
  refine lv_iload_n C.1 C.2.1 dX8_withLevels_79 rfl (lv_at hl 1 rfl) ?_
  obtain ⟨r9, hr9, hf⟩ := ob hf
  refine kci (kV (As := [.int 50, .int (M 56 4)]) (rest := [.long r8]) C hl.1 hP hS (c_X2_levelOfPercent w l C.2.2.2.2.2.2.2.2 (L := L) hr9) (gV q413 q414 q415 q9 q416) hd_X2_levelOfPercent (lt_LevelCounts to_NoisePost_levelCounts) (ob_LevelCounts to_NoisePost_levelCounts w L _) rfl ⟨rfl, rfl⟩ ⟨Nat.le_of_ble_eq_true rfl, Nat.le_of_ble_eq_true rfl⟩ rfl rfl (Nat.le_of_ble_eq_true rfl) dX8_withLevels_80 ⟨Nat.zero_le _, Nat.zero_le _⟩) hS (fun H locs hP hS => ?_)
  refine lv_i2l (v := (Int32.toInt64 r9)) C.1 C.2.1 dX8_withLevels_83 rfl ?_
  obtain ⟨r10, hr10, hf⟩ := ob hf
  refine kcl (kS (As := [.long r8, .long (Int32.toInt64 r9)]) (rest := []) C hl.1 hP hS (c_X8_mixed w l C.2.2.2.2.2.2.2.2 (L := L) hr10) (gS q372 q373 q1 q374) hd_X8_mixed ⟨rfl, rfl⟩ ⟨Nat.le_of_ble_eq_true rfl, Nat.le_of_ble_eq_true rfl⟩ rfl rfl (Nat.le_of_ble_eq_true rfl) dX8_withLevels_84 ⟨Nat.zero_le _, Nat.zero_le _⟩) hS (fun H locs hP hS => ?_)
  refine lv_lstore_n (lv' := [(1, .long r10), (3, .int (M 56 4)), (0, .ref (wAd w 0))]) C.1 C.2.1 dX8_withLevels_87 rfl hl (by decide) rfl (fun ls hl => ?_)
  refine lv_lload_n C.1 C.2.1 dX8_withLevels_88 rfl (lv_at hl 0 rfl) ?_
  refine lv_aload_n C.1 C.2.1 dX8_withLevels_89 rfl (lv_at hl 2 rfl) ?_
  refine k_get (v := .ref (wAd w 88)) C hP (lt_NoisePost h0_NoisePost) (ob_NoisePost h0_NoisePost w L _) rfl iX8 5 (by decide) q289 rfl dX8_withLevels_90 ?_
  refine lv_bipush (v := 90) C.1 C.2.1 dX8_withLevels_93 (by decide) ?_
  refine lv_iload_n C.1 C.2.1 dX8_withLevels_95 rfl (lv_at hl 1 rfl) ?_
  obtain ⟨r11, hr11, hf⟩ := ob hf
  refine kci (kV (As := [.int 90, .int (M 56 4)]) (rest := [.long r10]) C hl.1 hP hS (c_X2_levelOfPercent w l C.2.2.2.2.2.2.2.2 (L := L) hr11) (gV q413 q414 q415 q9 q416) hd_X2_levelOfPercent (lt_LevelCounts to_NoisePost_levelCounts) (ob_LevelCounts to_NoisePost_levelCounts w L _) rfl ⟨rfl, rfl⟩ ⟨Nat.le_of_ble_eq_true rfl, Nat.le_of_ble_eq_true rfl⟩ rfl rfl (Nat.le_of_ble_eq_true rfl) dX8_withLevels_96 ⟨Nat.zero_le _, Nat.zero_le _⟩) hS (fun H locs hP hS => ?_)
  refine lv_i2l (v := (Int32.toInt64 r11)) C.1 C.2.1 dX8_withLevels_99 rfl ?_
  obtain ⟨r12, hr12, hf⟩ := ob hf
  refine kcl (kS (As := [.long r10, .long (Int32.toInt64 r11)]) (rest := []) C hl.1 hP hS (c_X8_mixed w l C.2.2.2.2.2.2.2.2 (L := L) hr12) (gS q372 q373 q1 q374) hd_X8_mixed ⟨rfl, rfl⟩ ⟨Nat.le_of_ble_eq_true rfl, Nat.le_of_ble_eq_true rfl⟩ rfl rfl (Nat.le_of_ble_eq_true rfl) dX8_withLevels_100 ⟨Nat.zero_le _, Nat.zero_le _⟩) hS (fun H locs hP hS => ?_)
  refine lv_lstore_n (lv' := [(1, .long r12), (3, .int (M 56 4)), (0, .ref (wAd w 0))]) C.1 C.2.1 dX8_withLevels_103 rfl hl (by decide) rfl (fun ls hl => ?_)
  refine lv_lload_n C.1 C.2.1 dX8_withLevels_104 rfl (lv_at hl 0 rfl) ?_
  refine lv_aload_n C.1 C.2.1 dX8_withLevels_105 rfl (lv_at hl 2 rfl) ?_
  refine k_get (v := .ref (wAd w 88)) C hP (lt_NoisePost h0_NoisePost) (ob_NoisePost h0_NoisePost w L _) rfl iX8 5 (by decide) q289 rfl dX8_withLevels_106 ?_
  refine lv_bipush (v := 100) C.1 C.2.1 dX8_withLevels_109 (by decide) ?_
  refine lv_iload_n C.1 C.2.1 dX8_withLevels_111 rfl (lv_at hl 1 rfl) ?_
  obtain ⟨r13, hr13, hf⟩ := ob hf
  refine kci (kV (As := [.int 100, .int (M 56 4)]) (rest := [.long r12]) C hl.1 hP hS (c_X2_levelOfPercent w l C.2.2.2.2.2.2.2.2 (L := L) hr13) (gV q413 q414 q415 q9 q416) hd_X2_levelOfPercent (lt_LevelCounts to_NoisePost_levelCounts) (ob_LevelCounts to_NoisePost_levelCounts w L _) rfl ⟨rfl, rfl⟩ ⟨Nat.le_of_ble_eq_true rfl, Nat.le_of_ble_eq_true rfl⟩ rfl rfl (Nat.le_of_ble_eq_true rfl) dX8_withLevels_112 ⟨Nat.zero_le _, Nat.zero_le _⟩) hS (fun H locs hP hS => ?_)
  refine lv_i2l (v := (Int32.toInt64 r13)) C.1 C.2.1 dX8_withLevels_115 rfl ?_
  obtain ⟨r14, hr14, hf⟩ := ob hf
  refine kcl (kS (As := [.long r12, .long (Int32.toInt64 r13)]) (rest := []) C hl.1 hP hS (c_X8_mixed w l C.2.2.2.2.2.2.2.2 (L := L) hr14) (gS q372 q373 q1 q374) hd_X8_mixed ⟨rfl, rfl⟩ ⟨Nat.le_of_ble_eq_true rfl, Nat.le_of_ble_eq_true rfl⟩ rfl rfl (Nat.le_of_ble_eq_true rfl) dX8_withLevels_116 ⟨Nat.zero_le _, Nat.zero_le _⟩) hS (fun H locs hP hS => ?_)
  cases hf
  exact krl C hP hS dX8_withLevels_119
theorem dX8_bitsOf_0 : decode cX8_bitsOf 0 = .ok (.dload_n 0, 1) := by decide +kernel
theorem dX8_bitsOf_1 : decode cX8_bitsOf 1 = .ok (.dconst 0, 1) := by decide +kernel
theorem dX8_bitsOf_2 : decode cX8_bitsOf 2 = .ok (.dcmp .g, 1) := by decide +kernel
theorem dX8_bitsOf_3 : decode cX8_bitsOf 3 = .ok (.ifCond .gt 5, 3) := by decide +kernel
theorem dX8_bitsOf_6 : decode cX8_bitsOf 6 = .ok (.lconst 0, 1) := by decide +kernel
theorem dX8_bitsOf_7 : decode cX8_bitsOf 7 = .ok (.lreturn, 1) := by decide +kernel
theorem dX8_bitsOf_8 : decode cX8_bitsOf 8 = .ok (.dload_n 0, 1) := by decide +kernel
theorem dX8_bitsOf_9 : decode cX8_bitsOf 9 = .ok (.dstore_n 2, 1) := by decide +kernel
theorem dX8_bitsOf_10 : decode cX8_bitsOf 10 = .ok (.ldc2_w 339, 3) := by decide +kernel
theorem dX8_bitsOf_13 : decode cX8_bitsOf 13 = .ok (.lstore 4, 2) := by decide +kernel
theorem dX8_bitsOf_15 : decode cX8_bitsOf 15 = .ok (.iconst 0, 1) := by decide +kernel
theorem dX8_bitsOf_16 : decode cX8_bitsOf 16 = .ok (.istore 6, 2) := by decide +kernel
theorem dX8_bitsOf_18 : decode cX8_bitsOf 18 = .ok (.iload 6, 2) := by decide +kernel
theorem dX8_bitsOf_20 : decode cX8_bitsOf 20 = .ok (.bipush 60, 2) := by decide +kernel
theorem dX8_bitsOf_22 : decode cX8_bitsOf 22 = .ok (.if_icmp .ge 27, 3) := by decide +kernel
theorem dX8_bitsOf_25 : decode cX8_bitsOf 25 = .ok (.dload_n 2, 1) := by decide +kernel
theorem dX8_bitsOf_26 : decode cX8_bitsOf 26 = .ok (.dconst 1, 1) := by decide +kernel
theorem dX8_bitsOf_27 : decode cX8_bitsOf 27 = .ok (.dcmp .g, 1) := by decide +kernel
theorem dX8_bitsOf_28 : decode cX8_bitsOf 28 = .ok (.ifCond .ge 21, 3) := by decide +kernel
theorem dX8_bitsOf_31 : decode cX8_bitsOf 31 = .ok (.dload_n 2, 1) := by decide +kernel
theorem dX8_bitsOf_32 : decode cX8_bitsOf 32 = .ok (.ldc2_w 341, 3) := by decide +kernel
theorem dX8_bitsOf_35 : decode cX8_bitsOf 35 = .ok (.dmul, 1) := by decide +kernel
theorem dX8_bitsOf_36 : decode cX8_bitsOf 36 = .ok (.dstore_n 2, 1) := by decide +kernel
theorem dX8_bitsOf_37 : decode cX8_bitsOf 37 = .ok (.lload 4, 2) := by decide +kernel
theorem dX8_bitsOf_39 : decode cX8_bitsOf 39 = .ok (.lconst 1, 1) := by decide +kernel
theorem dX8_bitsOf_40 : decode cX8_bitsOf 40 = .ok (.lsub, 1) := by decide +kernel
theorem dX8_bitsOf_41 : decode cX8_bitsOf 41 = .ok (.lstore 4, 2) := by decide +kernel
theorem dX8_bitsOf_43 : decode cX8_bitsOf 43 = .ok (.iinc 6 1, 3) := by decide +kernel
theorem dX8_bitsOf_46 : decode cX8_bitsOf 46 = .ok (.goto (-28), 3) := by decide +kernel
theorem dX8_bitsOf_49 : decode cX8_bitsOf 49 = .ok (.dload_n 2, 1) := by decide +kernel
theorem dX8_bitsOf_50 : decode cX8_bitsOf 50 = .ok (.dconst 1, 1) := by decide +kernel
theorem dX8_bitsOf_51 : decode cX8_bitsOf 51 = .ok (.dsub, 1) := by decide +kernel
theorem dX8_bitsOf_52 : decode cX8_bitsOf 52 = .ok (.ldc2_w 343, 3) := by decide +kernel
theorem dX8_bitsOf_55 : decode cX8_bitsOf 55 = .ok (.dmul, 1) := by decide +kernel
theorem dX8_bitsOf_56 : decode cX8_bitsOf 56 = .ok (.d2l, 1) := by decide +kernel
theorem dX8_bitsOf_57 : decode cX8_bitsOf 57 = .ok (.lstore 6, 2) := by decide +kernel
theorem dX8_bitsOf_59 : decode cX8_bitsOf 59 = .ok (.lload 4, 2) := by decide +kernel
theorem dX8_bitsOf_61 : decode cX8_bitsOf 61 = .ok (.bipush 52, 2) := by decide +kernel
theorem dX8_bitsOf_63 : decode cX8_bitsOf 63 = .ok (.lshl, 1) := by decide +kernel
theorem dX8_bitsOf_64 : decode cX8_bitsOf 64 = .ok (.lload 6, 2) := by decide +kernel
theorem dX8_bitsOf_66 : decode cX8_bitsOf 66 = .ok (.ladd, 1) := by decide +kernel
theorem dX8_bitsOf_67 : decode cX8_bitsOf 67 = .ok (.lreturn, 1) := by decide +kernel
set_option maxHeartbeats 4000000 in
set_option maxRecDepth 100000 in
theorem w_X8_bitsOf_l18 {w : WT} {l : Launch} {p : Program} {e : Env} {s : State} {m : MethodId} {args : Array Value} {below : List Frame} {meth : Method} {c : Code} (C : KC w p s m args meth c cX8_bitsOf 8 RX8 (some .long)) {M : Mem} {L : Lng} {Q : State → Prop} (z : UInt64 × Int64 × Int32) (o : (UInt64 × Int64 × Int32) ⊕ (UInt64 × Int64)) (hf : f_X8_bitsOf_l18 M z = some o) (hA : ∀ z, o = .inl z → AtL w p l e ({ frames := 0, cells := 0, slots := 0, locals := 0 } : Room) s m args below meth c Q 8 18 M L [(2, .double z.1), (4, .long z.2.1), (6, .int z.2.2)] []) (hE : ∀ y, o = .inr y → AtL w p l e ({ frames := 0, cells := 0, slots := 0, locals := 0 } : Room) s m args below meth c Q 8 49 M L [(2, .double y.1), (4, .long y.2)] []) : AtL w p l e ({ frames := 0, cells := 0, slots := 0, locals := 0 } : Room) s m args below meth c Q 8 18 M L [(2, .double z.1), (4, .long z.2.1), (6, .int z.2.2)] [] := by
  intro H locs ls hP hS hl
  unfold f_X8_bitsOf_l18 at hf
  refine lv_iload C.1 C.2.1 dX8_bitsOf_18 (lv_at hl 2 rfl) ?_
  refine lv_bipush (v := 60) C.1 C.2.1 dX8_bitsOf_20 (by decide) ?_
  refine lv_icmp_ge (tgt := 49) C.1 C.2.1 dX8_bitsOf_22 (by decide) (fun c2 => ?_) (fun c2 => ?_)
  · have hf := (if_pos c2).symm.trans hf
    cases hf
    exact hE _ rfl _ _ _ hP hS (lv_sub hl [0, 1] rfl)
  · have hf := (if_neg c2).symm.trans hf
    refine lv_dload_n C.1 C.2.1 dX8_bitsOf_25 rfl (lv_at hl 0 rfl) ?_
    refine lv_dconst1 C.1 C.2.1 dX8_bitsOf_26 ?_
    refine lv_dcmp C.1 C.2.1 dX8_bitsOf_27 ?_
    refine lv_if_ge (tgt := 49) C.1 C.2.1 dX8_bitsOf_28 (by decide) (fun c3 => ?_) (fun c3 => ?_)
    · have hf := (if_pos c3).symm.trans hf
      cases hf
      exact hE _ rfl _ _ _ hP hS (lv_sub hl [0, 1] rfl)
    · have hf := (if_neg c3).symm.trans hf
      refine lv_dload_n C.1 C.2.1 dX8_bitsOf_31 rfl (lv_at hl 0 rfl) ?_
      refine lv_ldc2d C.1 C.2.1 C.2.2.2.1 (C.2.2.2.2.1 _ q454) dX8_bitsOf_32 ?_
      obtain ⟨x4, hx4, hf⟩ := ob hf
      refine k_dmul C hx4 dX8_bitsOf_35 ?_
      refine lv_dstore_n (lv' := [(2, .double x4), (4, .long z.2.1), (6, .int z.2.2)]) C.1 C.2.1 dX8_bitsOf_36 rfl hl (by decide) rfl (fun ls hl => ?_)
      refine lv_lload C.1 C.2.1 dX8_bitsOf_37 (lv_at hl 1 rfl) ?_
      refine lv_lconst (v := 1) C.1 C.2.1 dX8_bitsOf_39 (by decide) ?_
      refine lv_lsub C.1 C.2.1 dX8_bitsOf_40 ?_
      refine lv_lstore (lv' := [(4, .long (z.2.1 - 1)), (2, .double x4), (6, .int z.2.2)]) C.1 C.2.1 dX8_bitsOf_41 hl (by decide) rfl (fun ls hl => ?_)
      refine lv_iinc (v := (z.2.2 + 1)) (lv' := [(6, .int (z.2.2 + 1)), (4, .long (z.2.1 - 1)), (2, .double x4)]) C.1 C.2.1 dX8_bitsOf_43 hl (k := 2) rfl rfl (by decide) rfl (fun ls hl => ?_)
      refine lv_goto (tgt := 18) C.1 C.2.1 dX8_bitsOf_46 (by decide) ?_
      cases hf
      exact hA _ rfl _ _ _ hP hS (lv_sub hl [2, 1, 0] rfl)
set_option maxHeartbeats 4000000 in
set_option maxRecDepth 100000 in
theorem w_X8_bitsOf_j49 {w : WT} {l : Launch} {p : Program} {e : Env} {s : State} {m : MethodId} {args : Array Value} {below : List Frame} {meth : Method} {c : Code} (C : KC w p s m args meth c cX8_bitsOf 8 RX8 (some .long)) {v2 : UInt64} {v4 : Int64} {M : Mem} {L : Lng} {out : Int64} (hf : f_X8_bitsOf_j49 v2 v4 M = some out) : AtL w p l e ({ frames := 0, cells := 0, slots := 0, locals := 0 } : Room) s m args below meth c (MQ below (QL w out M L) args s 0 0 (wA w)) 8 49 M L [(2, .double v2), (4, .long v4)] [] := by
  intro H locs ls hP hS hl
  unfold f_X8_bitsOf_j49 at hf
  refine lv_dload_n C.1 C.2.1 dX8_bitsOf_49 rfl (lv_at hl 0 rfl) ?_
  refine lv_dconst1 C.1 C.2.1 dX8_bitsOf_50 ?_
  obtain ⟨x6, hx6, hf⟩ := ob hf
  refine k_dsub C hx6 dX8_bitsOf_51 ?_
  refine lv_ldc2d C.1 C.2.1 C.2.2.2.1 (C.2.2.2.2.1 _ q455) dX8_bitsOf_52 ?_
  obtain ⟨x7, hx7, hf⟩ := ob hf
  refine k_dmul C hx7 dX8_bitsOf_55 ?_
  refine lv_d2l C.1 C.2.1 dX8_bitsOf_56 ?_
  refine lv_lstore (lv' := [(6, .long (FP.d2l x7)), (2, .double v2), (4, .long v4)]) C.1 C.2.1 dX8_bitsOf_57 hl (by decide) rfl (fun ls hl => ?_)
  refine lv_lload C.1 C.2.1 dX8_bitsOf_59 (lv_at hl 2 rfl) ?_
  refine lv_bipush (v := 52) C.1 C.2.1 dX8_bitsOf_61 (by decide) ?_
  refine lv_lshl (v := (v4 <<< (Int32.toInt64 52 &&& 63))) C.1 C.2.1 dX8_bitsOf_63 rfl ?_
  refine lv_lload C.1 C.2.1 dX8_bitsOf_64 (lv_at hl 0 rfl) ?_
  refine lv_ladd C.1 C.2.1 dX8_bitsOf_66 ?_
  cases hf
  exact krl C hP hS dX8_bitsOf_67
set_option maxHeartbeats 4000000 in
set_option maxRecDepth 100000 in
theorem c_X8_bitsOf (w : WT) (l : Launch) (hw : WOK w) {a0 : UInt64} {M : Mem} {L : Lng} {out : Int64} (hf : f_X8_bitsOf a0 M = some out) : Met l yX8_bitsOf (Cond.code yX8_bitsOf cX8_bitsOf 8 (some .long) :: BG) ({ frames := 0, cells := 0, slots := 0, locals := 0 } : Room) (PRE w [.double a0] M L) (QL w out M L) 0 0 (wA w) := by
  refine kEnt hw (by decide +kernel) rfl (Nat.le_of_ble_eq_true rfl) ?_
  intro p e s m args below meth c C ls hl hP
  have hS : va_S (wA w) s.heap s.heap [] := va_S.rf
  have hl : lv_has ls 8 [(0, .double a0)] := hl
  unfold f_X8_bitsOf at hf
  refine lv_dload_n C.1 C.2.1 dX8_bitsOf_0 rfl (lv_at hl 0 rfl) ?_
  refine lv_dconst0 C.1 C.2.1 dX8_bitsOf_1 ?_
  refine lv_dcmp C.1 C.2.1 dX8_bitsOf_2 ?_
  refine lv_if_gt (tgt := 8) C.1 C.2.1 dX8_bitsOf_3 (by decide) (fun c1 => ?_) (fun c1 => ?_)
  · have hf := (if_pos c1).symm.trans hf
    refine lv_dload_n C.1 C.2.1 dX8_bitsOf_8 rfl (lv_at hl 0 rfl) ?_
    refine lv_dstore_n (lv' := [(2, .double a0), (0, .double a0)]) C.1 C.2.1 dX8_bitsOf_9 rfl hl (by decide) rfl (fun ls hl => ?_)
    refine lv_ldc2 C.1 C.2.1 C.2.2.2.1 (C.2.2.2.2.1 _ q453) dX8_bitsOf_10 ?_
    refine lv_lstore (lv' := [(4, .long 1023), (2, .double a0), (0, .double a0)]) C.1 C.2.1 dX8_bitsOf_13 hl (by decide) rfl (fun ls hl => ?_)
    refine lv_iconst (v := 0) C.1 C.2.1 dX8_bitsOf_15 (by decide) ?_
    refine lv_istore (lv' := [(6, .int 0), (4, .long 1023), (2, .double a0), (0, .double a0)]) C.1 C.2.1 dX8_bitsOf_16 hl (by decide) rfl (fun ls hl => ?_)
    obtain ⟨o5, ho5, hf⟩ := ob hf
    refine loop_at (w_X8_bitsOf_l18 C) FU _ o5 ho5 ?_ _ _ _ hP hS (lv_sub hl [2, 1, 0] rfl)
    intro H locs ls hP hS hl
    exact w_X8_bitsOf_j49 C hf _ _ _ hP hS hl
  · have hf := (if_neg c1).symm.trans hf
    refine lv_lconst (v := 0) C.1 C.2.1 dX8_bitsOf_6 (by decide) ?_
    cases hf
    exact krl C hP hS dX8_bitsOf_7
theorem dX8_withBuffer_0 : decode cX8_withBuffer 0 = .ok (.lload_n 1, 1) := by decide +kernel
theorem dX8_withBuffer_1 : decode cX8_withBuffer 1 = .ok (.aload_n 0, 1) := by decide +kernel
theorem dX8_withBuffer_2 : decode cX8_withBuffer 2 = .ok (.getfield 26, 3) := by decide +kernel
theorem dX8_withBuffer_5 : decode cX8_withBuffer 5 = .ok (.getfield 156, 3) := by decide +kernel
theorem dX8_withBuffer_8 : decode cX8_withBuffer 8 = .ok (.i2l, 1) := by decide +kernel
theorem dX8_withBuffer_9 : decode cX8_withBuffer 9 = .ok (.invokestatic 254, 3) := by decide +kernel
theorem dX8_withBuffer_12 : decode cX8_withBuffer 12 = .ok (.lstore_n 1, 1) := by decide +kernel
theorem dX8_withBuffer_13 : decode cX8_withBuffer 13 = .ok (.iconst 0, 1) := by decide +kernel
theorem dX8_withBuffer_14 : decode cX8_withBuffer 14 = .ok (.istore_n 3, 1) := by decide +kernel
theorem dX8_withBuffer_15 : decode cX8_withBuffer 15 = .ok (.iload_n 3, 1) := by decide +kernel
theorem dX8_withBuffer_16 : decode cX8_withBuffer 16 = .ok (.aload_n 0, 1) := by decide +kernel
theorem dX8_withBuffer_17 : decode cX8_withBuffer 17 = .ok (.getfield 26, 3) := by decide +kernel
theorem dX8_withBuffer_20 : decode cX8_withBuffer 20 = .ok (.getfield 156, 3) := by decide +kernel
theorem dX8_withBuffer_23 : decode cX8_withBuffer 23 = .ok (.if_icmp .ge 24, 3) := by decide +kernel
theorem dX8_withBuffer_26 : decode cX8_withBuffer 26 = .ok (.lload_n 1, 1) := by decide +kernel
theorem dX8_withBuffer_27 : decode cX8_withBuffer 27 = .ok (.aload_n 0, 1) := by decide +kernel
theorem dX8_withBuffer_28 : decode cX8_withBuffer 28 = .ok (.getfield 26, 3) := by decide +kernel
theorem dX8_withBuffer_31 : decode cX8_withBuffer 31 = .ok (.getfield 336, 3) := by decide +kernel
theorem dX8_withBuffer_34 : decode cX8_withBuffer 34 = .ok (.iload_n 3, 1) := by decide +kernel
theorem dX8_withBuffer_35 : decode cX8_withBuffer 35 = .ok (.iaload, 1) := by decide +kernel
theorem dX8_withBuffer_36 : decode cX8_withBuffer 36 = .ok (.i2l, 1) := by decide +kernel
theorem dX8_withBuffer_37 : decode cX8_withBuffer 37 = .ok (.invokestatic 254, 3) := by decide +kernel
theorem dX8_withBuffer_40 : decode cX8_withBuffer 40 = .ok (.lstore_n 1, 1) := by decide +kernel
theorem dX8_withBuffer_41 : decode cX8_withBuffer 41 = .ok (.iinc 3 1, 3) := by decide +kernel
theorem dX8_withBuffer_44 : decode cX8_withBuffer 44 = .ok (.goto (-29), 3) := by decide +kernel
theorem dX8_withBuffer_47 : decode cX8_withBuffer 47 = .ok (.lload_n 1, 1) := by decide +kernel
theorem dX8_withBuffer_48 : decode cX8_withBuffer 48 = .ok (.lreturn, 1) := by decide +kernel
set_option maxHeartbeats 4000000 in
set_option maxRecDepth 100000 in
theorem w_X8_withBuffer_l15 {w : WT} {l : Launch} {p : Program} {e : Env} {s : State} {m : MethodId} {args : Array Value} {below : List Frame} {meth : Method} {c : Code} (C : KC w p s m args meth c cX8_withBuffer 4 RX8 (some .long)) {M : Mem} {L : Lng} {Q : State → Prop} (z : Int64 × Int32) (o : (Int64 × Int32) ⊕ (Int64)) (hf : f_X8_withBuffer_l15 M z = some o) (hA : ∀ z, o = .inl z → AtL w p l e ({ frames := 1, cells := 0, slots := 0, locals := 23 } : Room) s m args below meth c Q 4 15 M L [(0, .ref (wAd w 0)), (1, .long z.1), (3, .int z.2)] []) (hE : ∀ y, o = .inr y → AtL w p l e ({ frames := 1, cells := 0, slots := 0, locals := 23 } : Room) s m args below meth c Q 4 47 M L [(1, .long y)] []) : AtL w p l e ({ frames := 1, cells := 0, slots := 0, locals := 23 } : Room) s m args below meth c Q 4 15 M L [(0, .ref (wAd w 0)), (1, .long z.1), (3, .int z.2)] [] := by
  intro H locs ls hP hS hl
  unfold f_X8_withBuffer_l15 at hf
  refine lv_iload_n C.1 C.2.1 dX8_withBuffer_15 rfl (lv_at hl 2 rfl) ?_
  refine lv_aload_n C.1 C.2.1 dX8_withBuffer_16 rfl (lv_at hl 0 rfl) ?_
  refine k_get (v := .ref (wAd w 48)) C hP (lt_NoisePost h0_NoisePost) (ob_NoisePost h0_NoisePost w L _) rfl iX8 2 (by decide) q286 rfl dX8_withBuffer_17 ?_
  refine k_get (v := .int (M 48 1)) C hP (lt_Text to_NoisePost_text) (ob_Text to_NoisePost_text w L _) rfl iX6 1 (by decide) q103 rfl dX8_withBuffer_20 ?_
  refine lv_icmp_ge (tgt := 47) C.1 C.2.1 dX8_withBuffer_23 (by decide) (fun c2 => ?_) (fun c2 => ?_)
  · have hf := (if_pos c2).symm.trans hf
    cases hf
    exact hE _ rfl _ _ _ hP hS (lv_sub hl [1] rfl)
  · have hf := (if_neg c2).symm.trans hf
    refine lv_lload_n C.1 C.2.1 dX8_withBuffer_26 rfl (lv_at hl 1 rfl) ?_
    refine lv_aload_n C.1 C.2.1 dX8_withBuffer_27 rfl (lv_at hl 0 rfl) ?_
    refine k_get (v := .ref (wAd w 48)) C hP (lt_NoisePost h0_NoisePost) (ob_NoisePost h0_NoisePost w L _) rfl iX8 2 (by decide) q286 rfl dX8_withBuffer_28 ?_
    refine k_get (v := .ref (wAd w 49)) C hP (lt_Text to_NoisePost_text) (ob_Text to_NoisePost_text w L _) rfl iX6 0 (by decide) q101 rfl dX8_withBuffer_31 ?_
    refine lv_iload_n C.1 C.2.1 dX8_withBuffer_34 rfl (lv_at hl 2 rfl) ?_
    obtain ⟨x3, hx3, hf⟩ := ob hf
    refine k_iald C hP (la_Text_codes to_NoisePost_text) (ar_Text_codes to_NoisePost_text w L _) hx3 dX8_withBuffer_35 ?_
    refine lv_i2l (v := (Int32.toInt64 x3)) C.1 C.2.1 dX8_withBuffer_36 rfl ?_
    obtain ⟨r4, hr4, hf⟩ := ob hf
    refine kcl (kS (As := [.long z.1, .long (Int32.toInt64 x3)]) (rest := []) C hl.1 hP hS (c_X8_mixed w l C.2.2.2.2.2.2.2.2 (L := L) hr4) (gS q372 q373 q1 q374) hd_X8_mixed ⟨rfl, rfl⟩ ⟨Nat.le_of_ble_eq_true rfl, Nat.le_of_ble_eq_true rfl⟩ rfl rfl (Nat.le_of_ble_eq_true rfl) dX8_withBuffer_37 ⟨Nat.zero_le _, Nat.zero_le _⟩) hS (fun H locs hP hS => ?_)
    refine lv_lstore_n (lv' := [(1, .long r4), (0, .ref (wAd w 0)), (3, .int z.2)]) C.1 C.2.1 dX8_withBuffer_40 rfl hl (by decide) rfl (fun ls hl => ?_)
    refine lv_iinc (v := (z.2 + 1)) (lv' := [(3, .int (z.2 + 1)), (1, .long r4), (0, .ref (wAd w 0))]) C.1 C.2.1 dX8_withBuffer_41 hl (k := 2) rfl rfl (by decide) rfl (fun ls hl => ?_)
    refine lv_goto (tgt := 15) C.1 C.2.1 dX8_withBuffer_44 (by decide) ?_
    cases hf
    exact hA _ rfl _ _ _ hP hS (lv_sub hl [2, 1, 0] rfl)
set_option maxHeartbeats 4000000 in
set_option maxRecDepth 100000 in
theorem c_X8_withBuffer (w : WT) (l : Launch) (hw : WOK w) {a1 : Int64} {M : Mem} {L : Lng} {out : Int64} (hf : f_X8_withBuffer a1 M = some out) : Met l yX8_withBuffer (Cond.code yX8_withBuffer cX8_withBuffer 4 (some .long) :: BG) ({ frames := 1, cells := 0, slots := 0, locals := 23 } : Room) (PRE w [.ref (wAd w 0), .long a1] M L) (QL w out M L) 0 0 (wA w) := by
  refine kEnt hw (by decide +kernel) rfl (Nat.le_of_ble_eq_true rfl) ?_
  intro p e s m args below meth c C ls hl hP
  have hS : va_S (wA w) s.heap s.heap [] := va_S.rf
  have hl : lv_has ls 4 [(0, .ref (wAd w 0)), (1, .long a1)] := hl
  unfold f_X8_withBuffer at hf
  refine lv_lload_n C.1 C.2.1 dX8_withBuffer_0 rfl (lv_at hl 1 rfl) ?_
  refine lv_aload_n C.1 C.2.1 dX8_withBuffer_1 rfl (lv_at hl 0 rfl) ?_
  refine k_get (v := .ref (wAd w 48)) C hP (lt_NoisePost h0_NoisePost) (ob_NoisePost h0_NoisePost w L _) rfl iX8 2 (by decide) q286 rfl dX8_withBuffer_2 ?_
  refine k_get (v := .int (M 48 1)) C hP (lt_Text to_NoisePost_text) (ob_Text to_NoisePost_text w L _) rfl iX6 1 (by decide) q103 rfl dX8_withBuffer_5 ?_
  refine lv_i2l (v := (Int32.toInt64 (M 48 1))) C.1 C.2.1 dX8_withBuffer_8 rfl ?_
  obtain ⟨r1, hr1, hf⟩ := ob hf
  refine kcl (kS (As := [.long a1, .long (Int32.toInt64 (M 48 1))]) (rest := []) C hl.1 hP hS (c_X8_mixed w l C.2.2.2.2.2.2.2.2 (L := L) hr1) (gS q372 q373 q1 q374) hd_X8_mixed ⟨rfl, rfl⟩ ⟨Nat.le_of_ble_eq_true rfl, Nat.le_of_ble_eq_true rfl⟩ rfl rfl (Nat.le_of_ble_eq_true rfl) dX8_withBuffer_9 ⟨Nat.zero_le _, Nat.zero_le _⟩) hS (fun H locs hP hS => ?_)
  refine lv_lstore_n (lv' := [(1, .long r1), (0, .ref (wAd w 0))]) C.1 C.2.1 dX8_withBuffer_12 rfl hl (by decide) rfl (fun ls hl => ?_)
  refine lv_iconst (v := 0) C.1 C.2.1 dX8_withBuffer_13 (by decide) ?_
  refine lv_istore_n (lv' := [(3, .int 0), (1, .long r1), (0, .ref (wAd w 0))]) C.1 C.2.1 dX8_withBuffer_14 rfl hl (by decide) rfl (fun ls hl => ?_)
  obtain ⟨o5, ho5, hf⟩ := ob hf
  refine loop_at (w_X8_withBuffer_l15 C) FU _ o5 ho5 ?_ _ _ _ hP hS (lv_sub hl [2, 1, 0] rfl)
  intro H locs ls hP hS hl
  refine lv_lload_n C.1 C.2.1 dX8_withBuffer_47 rfl (lv_at hl 0 rfl) ?_
  cases hf
  exact krl C hP hS dX8_withBuffer_48
theorem dX8_digest_0 : decode cX8_digest 0 = .ok (.ldc2_w 252, 3) := by decide +kernel
theorem dX8_digest_3 : decode cX8_digest 3 = .ok (.lstore_n 1, 1) := by decide +kernel
theorem dX8_digest_4 : decode cX8_digest 4 = .ok (.iconst 0, 1) := by decide +kernel
theorem dX8_digest_5 : decode cX8_digest 5 = .ok (.istore_n 3, 1) := by decide +kernel
theorem dX8_digest_6 : decode cX8_digest 6 = .ok (.iload_n 3, 1) := by decide +kernel
theorem dX8_digest_7 : decode cX8_digest 7 = .ok (.bipush 11, 2) := by decide +kernel
theorem dX8_digest_9 : decode cX8_digest 9 = .ok (.if_icmp .gt 20, 3) := by decide +kernel
theorem dX8_digest_12 : decode cX8_digest 12 = .ok (.lload_n 1, 1) := by decide +kernel
theorem dX8_digest_13 : decode cX8_digest 13 = .ok (.aload_n 0, 1) := by decide +kernel
theorem dX8_digest_14 : decode cX8_digest 14 = .ok (.iload_n 3, 1) := by decide +kernel
theorem dX8_digest_15 : decode cX8_digest 15 = .ok (.invokevirtual 225, 3) := by decide +kernel
theorem dX8_digest_18 : decode cX8_digest 18 = .ok (.i2l, 1) := by decide +kernel
theorem dX8_digest_19 : decode cX8_digest 19 = .ok (.invokestatic 254, 3) := by decide +kernel
theorem dX8_digest_22 : decode cX8_digest 22 = .ok (.lstore_n 1, 1) := by decide +kernel
theorem dX8_digest_23 : decode cX8_digest 23 = .ok (.iinc 3 1, 3) := by decide +kernel
theorem dX8_digest_26 : decode cX8_digest 26 = .ok (.goto (-20), 3) := by decide +kernel
theorem dX8_digest_29 : decode cX8_digest 29 = .ok (.iconst 0, 1) := by decide +kernel
theorem dX8_digest_30 : decode cX8_digest 30 = .ok (.istore_n 3, 1) := by decide +kernel
theorem dX8_digest_31 : decode cX8_digest 31 = .ok (.iload_n 3, 1) := by decide +kernel
theorem dX8_digest_32 : decode cX8_digest 32 = .ok (.bipush 10, 2) := by decide +kernel
theorem dX8_digest_34 : decode cX8_digest 34 = .ok (.if_icmp .ge 24, 3) := by decide +kernel
theorem dX8_digest_37 : decode cX8_digest 37 = .ok (.lload_n 1, 1) := by decide +kernel
theorem dX8_digest_38 : decode cX8_digest 38 = .ok (.aload_n 0, 1) := by decide +kernel
theorem dX8_digest_39 : decode cX8_digest 39 = .ok (.getfield 10, 3) := by decide +kernel
theorem dX8_digest_42 : decode cX8_digest 42 = .ok (.getfield 71, 3) := by decide +kernel
theorem dX8_digest_45 : decode cX8_digest 45 = .ok (.iload_n 3, 1) := by decide +kernel
theorem dX8_digest_46 : decode cX8_digest 46 = .ok (.iaload, 1) := by decide +kernel
theorem dX8_digest_47 : decode cX8_digest 47 = .ok (.i2l, 1) := by decide +kernel
theorem dX8_digest_48 : decode cX8_digest 48 = .ok (.invokestatic 254, 3) := by decide +kernel
theorem dX8_digest_51 : decode cX8_digest 51 = .ok (.lstore_n 1, 1) := by decide +kernel
theorem dX8_digest_52 : decode cX8_digest 52 = .ok (.iinc 3 1, 3) := by decide +kernel
theorem dX8_digest_55 : decode cX8_digest 55 = .ok (.goto (-24), 3) := by decide +kernel
theorem dX8_digest_58 : decode cX8_digest 58 = .ok (.aload_n 0, 1) := by decide +kernel
theorem dX8_digest_59 : decode cX8_digest 59 = .ok (.lload_n 1, 1) := by decide +kernel
theorem dX8_digest_60 : decode cX8_digest 60 = .ok (.invokevirtual 258, 3) := by decide +kernel
theorem dX8_digest_63 : decode cX8_digest 63 = .ok (.lstore_n 1, 1) := by decide +kernel
theorem dX8_digest_64 : decode cX8_digest 64 = .ok (.aload_n 0, 1) := by decide +kernel
theorem dX8_digest_65 : decode cX8_digest 65 = .ok (.lload_n 1, 1) := by decide +kernel
theorem dX8_digest_66 : decode cX8_digest 66 = .ok (.invokevirtual 262, 3) := by decide +kernel
theorem dX8_digest_69 : decode cX8_digest 69 = .ok (.lstore_n 1, 1) := by decide +kernel
theorem dX8_digest_70 : decode cX8_digest 70 = .ok (.aload_n 0, 1) := by decide +kernel
theorem dX8_digest_71 : decode cX8_digest 71 = .ok (.lload_n 1, 1) := by decide +kernel
theorem dX8_digest_72 : decode cX8_digest 72 = .ok (.invokevirtual 265, 3) := by decide +kernel
theorem dX8_digest_75 : decode cX8_digest 75 = .ok (.lstore_n 1, 1) := by decide +kernel
theorem dX8_digest_76 : decode cX8_digest 76 = .ok (.aload_n 0, 1) := by decide +kernel
theorem dX8_digest_77 : decode cX8_digest 77 = .ok (.lload_n 1, 1) := by decide +kernel
theorem dX8_digest_78 : decode cX8_digest 78 = .ok (.invokevirtual 268, 3) := by decide +kernel
theorem dX8_digest_81 : decode cX8_digest 81 = .ok (.lstore_n 1, 1) := by decide +kernel
theorem dX8_digest_82 : decode cX8_digest 82 = .ok (.lload_n 1, 1) := by decide +kernel
theorem dX8_digest_83 : decode cX8_digest 83 = .ok (.aload_n 0, 1) := by decide +kernel
theorem dX8_digest_84 : decode cX8_digest 84 = .ok (.getfield 33, 3) := by decide +kernel
theorem dX8_digest_87 : decode cX8_digest 87 = .ok (.iconst 1, 1) := by decide +kernel
theorem dX8_digest_88 : decode cX8_digest 88 = .ok (.invokevirtual 242, 3) := by decide +kernel
theorem dX8_digest_91 : decode cX8_digest 91 = .ok (.i2l, 1) := by decide +kernel
theorem dX8_digest_92 : decode cX8_digest 92 = .ok (.invokestatic 254, 3) := by decide +kernel
theorem dX8_digest_95 : decode cX8_digest 95 = .ok (.lstore_n 1, 1) := by decide +kernel
theorem dX8_digest_96 : decode cX8_digest 96 = .ok (.lload_n 1, 1) := by decide +kernel
theorem dX8_digest_97 : decode cX8_digest 97 = .ok (.aload_n 0, 1) := by decide +kernel
theorem dX8_digest_98 : decode cX8_digest 98 = .ok (.getfield 33, 3) := by decide +kernel
theorem dX8_digest_101 : decode cX8_digest 101 = .ok (.bipush 80, 2) := by decide +kernel
theorem dX8_digest_103 : decode cX8_digest 103 = .ok (.invokevirtual 245, 3) := by decide +kernel
theorem dX8_digest_106 : decode cX8_digest 106 = .ok (.i2l, 1) := by decide +kernel
theorem dX8_digest_107 : decode cX8_digest 107 = .ok (.invokestatic 254, 3) := by decide +kernel
theorem dX8_digest_110 : decode cX8_digest 110 = .ok (.lstore_n 1, 1) := by decide +kernel
theorem dX8_digest_111 : decode cX8_digest 111 = .ok (.lload_n 1, 1) := by decide +kernel
theorem dX8_digest_112 : decode cX8_digest 112 = .ok (.aload_n 0, 1) := by decide +kernel
theorem dX8_digest_113 : decode cX8_digest 113 = .ok (.getfield 33, 3) := by decide +kernel
theorem dX8_digest_116 : decode cX8_digest 116 = .ok (.getfield 214, 3) := by decide +kernel
theorem dX8_digest_119 : decode cX8_digest 119 = .ok (.invokevirtual 248, 3) := by decide +kernel
theorem dX8_digest_122 : decode cX8_digest 122 = .ok (.invokestatic 271, 3) := by decide +kernel
theorem dX8_digest_125 : decode cX8_digest 125 = .ok (.invokestatic 254, 3) := by decide +kernel
theorem dX8_digest_128 : decode cX8_digest 128 = .ok (.lstore_n 1, 1) := by decide +kernel
theorem dX8_digest_129 : decode cX8_digest 129 = .ok (.aload_n 0, 1) := by decide +kernel
theorem dX8_digest_130 : decode cX8_digest 130 = .ok (.lload_n 1, 1) := by decide +kernel
theorem dX8_digest_131 : decode cX8_digest 131 = .ok (.invokevirtual 275, 3) := by decide +kernel
theorem dX8_digest_134 : decode cX8_digest 134 = .ok (.lreturn, 1) := by decide +kernel
set_option maxHeartbeats 4000000 in
set_option maxRecDepth 100000 in
theorem w_X8_digest_l6 {w : WT} {l : Launch} {p : Program} {e : Env} {s : State} {m : MethodId} {args : Array Value} {below : List Frame} {meth : Method} {c : Code} (C : KC w p s m args meth c cX8_digest 4 RX8 (some .long)) {M : Mem} {L : Lng} {Q : State → Prop} (z : Int64 × Int32) (o : (Int64 × Int32) ⊕ (Int64)) (hf : f_X8_digest_l6 M z = some o) (hA : ∀ z, o = .inl z → AtL w p l e ({ frames := 5, cells := 0, slots := 0, locals := 113 } : Room) s m args below meth c Q 4 6 M L [(0, .ref (wAd w 0)), (1, .long z.1), (3, .int z.2)] []) (hE : ∀ y, o = .inr y → AtL w p l e ({ frames := 5, cells := 0, slots := 0, locals := 113 } : Room) s m args below meth c Q 4 29 M L [(0, .ref (wAd w 0)), (1, .long y)] []) : AtL w p l e ({ frames := 5, cells := 0, slots := 0, locals := 113 } : Room) s m args below meth c Q 4 6 M L [(0, .ref (wAd w 0)), (1, .long z.1), (3, .int z.2)] [] := by
  intro H locs ls hP hS hl
  unfold f_X8_digest_l6 at hf
  refine lv_iload_n C.1 C.2.1 dX8_digest_6 rfl (lv_at hl 2 rfl) ?_
  refine lv_bipush (v := 11) C.1 C.2.1 dX8_digest_7 (by decide) ?_
  refine lv_icmp_gt (tgt := 29) C.1 C.2.1 dX8_digest_9 (by decide) (fun c1 => ?_) (fun c1 => ?_)
  · have hf := (if_pos c1).symm.trans hf
    cases hf
    exact hE _ rfl _ _ _ hP hS (lv_sub hl [0, 1] rfl)
  · have hf := (if_neg c1).symm.trans hf
    refine lv_lload_n C.1 C.2.1 dX8_digest_12 rfl (lv_at hl 1 rfl) ?_
    refine lv_aload_n C.1 C.2.1 dX8_digest_13 rfl (lv_at hl 0 rfl) ?_
    refine lv_iload_n C.1 C.2.1 dX8_digest_14 rfl (lv_at hl 2 rfl) ?_
    obtain ⟨r2, hr2, hf⟩ := ob hf
    refine kci (kV (As := [.int z.2]) (rest := [.long z.1]) C hl.1 hP hS (c_X8_numberOf w l C.2.2.2.2.2.2.2.2 (L := L) hr2) (gV q356 q358 qp6 q1 q359) hd_X8_numberOf (lt_NoisePost h0_NoisePost) (ob_NoisePost h0_NoisePost w L _) rfl ⟨rfl, rfl⟩ ⟨Nat.le_of_ble_eq_true rfl, Nat.le_of_ble_eq_true rfl⟩ rfl rfl (Nat.le_of_ble_eq_true rfl) dX8_digest_15 ⟨Nat.zero_le _, Nat.zero_le _⟩) hS (fun H locs hP hS => ?_)
    refine lv_i2l (v := (Int32.toInt64 r2)) C.1 C.2.1 dX8_digest_18 rfl ?_
    obtain ⟨r3, hr3, hf⟩ := ob hf
    refine kcl (kS (As := [.long z.1, .long (Int32.toInt64 r2)]) (rest := []) C hl.1 hP hS (c_X8_mixed w l C.2.2.2.2.2.2.2.2 (L := L) hr3) (gS q372 q373 q1 q374) hd_X8_mixed ⟨rfl, rfl⟩ ⟨Nat.le_of_ble_eq_true rfl, Nat.le_of_ble_eq_true rfl⟩ rfl rfl (Nat.le_of_ble_eq_true rfl) dX8_digest_19 ⟨Nat.zero_le _, Nat.zero_le _⟩) hS (fun H locs hP hS => ?_)
    refine lv_lstore_n (lv' := [(1, .long r3), (0, .ref (wAd w 0)), (3, .int z.2)]) C.1 C.2.1 dX8_digest_22 rfl hl (by decide) rfl (fun ls hl => ?_)
    refine lv_iinc (v := (z.2 + 1)) (lv' := [(3, .int (z.2 + 1)), (1, .long r3), (0, .ref (wAd w 0))]) C.1 C.2.1 dX8_digest_23 hl (k := 2) rfl rfl (by decide) rfl (fun ls hl => ?_)
    refine lv_goto (tgt := 6) C.1 C.2.1 dX8_digest_26 (by decide) ?_
    cases hf
    exact hA _ rfl _ _ _ hP hS (lv_sub hl [2, 1, 0] rfl)
set_option maxHeartbeats 4000000 in
set_option maxRecDepth 100000 in
theorem w_X8_digest_l31 {w : WT} {l : Launch} {p : Program} {e : Env} {s : State} {m : MethodId} {args : Array Value} {below : List Frame} {meth : Method} {c : Code} (C : KC w p s m args meth c cX8_digest 4 RX8 (some .long)) {M : Mem} {L : Lng} {Q : State → Prop} (z : Int64 × Int32) (o : (Int64 × Int32) ⊕ (Int64)) (hf : f_X8_digest_l31 M z = some o) (hA : ∀ z, o = .inl z → AtL w p l e ({ frames := 5, cells := 0, slots := 0, locals := 113 } : Room) s m args below meth c Q 4 31 M L [(0, .ref (wAd w 0)), (1, .long z.1), (3, .int z.2)] []) (hE : ∀ y, o = .inr y → AtL w p l e ({ frames := 5, cells := 0, slots := 0, locals := 113 } : Room) s m args below meth c Q 4 58 M L [(0, .ref (wAd w 0)), (1, .long y)] []) : AtL w p l e ({ frames := 5, cells := 0, slots := 0, locals := 113 } : Room) s m args below meth c Q 4 31 M L [(0, .ref (wAd w 0)), (1, .long z.1), (3, .int z.2)] [] := by
  intro H locs ls hP hS hl
  unfold f_X8_digest_l31 at hf
  refine lv_iload_n C.1 C.2.1 dX8_digest_31 rfl (lv_at hl 2 rfl) ?_
  refine lv_bipush (v := 10) C.1 C.2.1 dX8_digest_32 (by decide) ?_
  refine lv_icmp_ge (tgt := 58) C.1 C.2.1 dX8_digest_34 (by decide) (fun c5 => ?_) (fun c5 => ?_)
  · have hf := (if_pos c5).symm.trans hf
    cases hf
    exact hE _ rfl _ _ _ hP hS (lv_sub hl [0, 1] rfl)
  · have hf := (if_neg c5).symm.trans hf
    refine lv_lload_n C.1 C.2.1 dX8_digest_37 rfl (lv_at hl 1 rfl) ?_
    refine lv_aload_n C.1 C.2.1 dX8_digest_38 rfl (lv_at hl 0 rfl) ?_
    refine k_get (v := .ref (wAd w 1)) C hP (lt_NoisePost h0_NoisePost) (ob_NoisePost h0_NoisePost w L _) rfl iX8 0 (by decide) q284 rfl dX8_digest_39 ?_
    refine k_get (v := .ref (wAd w 4)) C hP (lt_State to_NoisePost_state) (ob_State to_NoisePost_state w L _) rfl iX5 2 (by decide) q50 rfl dX8_digest_42 ?_
    refine lv_iload_n C.1 C.2.1 dX8_digest_45 rfl (lv_at hl 2 rfl) ?_
    obtain ⟨x6, hx6, hf⟩ := ob hf
    refine k_iald C hP (la_State_settings to_NoisePost_state) (ar_State_settings to_NoisePost_state w L _) hx6 dX8_digest_46 ?_
    refine lv_i2l (v := (Int32.toInt64 x6)) C.1 C.2.1 dX8_digest_47 rfl ?_
    obtain ⟨r7, hr7, hf⟩ := ob hf
    refine kcl (kS (As := [.long z.1, .long (Int32.toInt64 x6)]) (rest := []) C hl.1 hP hS (c_X8_mixed w l C.2.2.2.2.2.2.2.2 (L := L) hr7) (gS q372 q373 q1 q374) hd_X8_mixed ⟨rfl, rfl⟩ ⟨Nat.le_of_ble_eq_true rfl, Nat.le_of_ble_eq_true rfl⟩ rfl rfl (Nat.le_of_ble_eq_true rfl) dX8_digest_48 ⟨Nat.zero_le _, Nat.zero_le _⟩) hS (fun H locs hP hS => ?_)
    refine lv_lstore_n (lv' := [(1, .long r7), (0, .ref (wAd w 0)), (3, .int z.2)]) C.1 C.2.1 dX8_digest_51 rfl hl (by decide) rfl (fun ls hl => ?_)
    refine lv_iinc (v := (z.2 + 1)) (lv' := [(3, .int (z.2 + 1)), (1, .long r7), (0, .ref (wAd w 0))]) C.1 C.2.1 dX8_digest_52 hl (k := 2) rfl rfl (by decide) rfl (fun ls hl => ?_)
    refine lv_goto (tgt := 31) C.1 C.2.1 dX8_digest_55 (by decide) ?_
    cases hf
    exact hA _ rfl _ _ _ hP hS (lv_sub hl [2, 1, 0] rfl)
set_option maxHeartbeats 4000000 in
set_option maxRecDepth 100000 in
theorem c_X8_digest (w : WT) (l : Launch) (hw : WOK w) {M : Mem} {L : Lng} {out : Int64} (hf : f_X8_digest M = some out) : Met l yX8_digest (Cond.code yX8_digest cX8_digest 4 (some .long) :: BG) ({ frames := 5, cells := 0, slots := 0, locals := 113 } : Room) (PRE w [.ref (wAd w 0)] M L) (QL w out M L) 0 0 (wA w) := by
  refine kEnt hw (by decide +kernel) rfl (Nat.le_of_ble_eq_true rfl) ?_
  intro p e s m args below meth c C ls hl hP
  have hS : va_S (wA w) s.heap s.heap [] := va_S.rf
  have hl : lv_has ls 4 [(0, .ref (wAd w 0))] := hl
  unfold f_X8_digest at hf
  refine lv_ldc2 C.1 C.2.1 C.2.2.2.1 (C.2.2.2.2.1 _ q355) dX8_digest_0 ?_
  refine lv_lstore_n (lv' := [(1, .long 2161), (0, .ref (wAd w 0))]) C.1 C.2.1 dX8_digest_3 rfl hl (by decide) rfl (fun ls hl => ?_)
  refine lv_iconst (v := 0) C.1 C.2.1 dX8_digest_4 (by decide) ?_
  refine lv_istore_n (lv' := [(3, .int 0), (1, .long 2161), (0, .ref (wAd w 0))]) C.1 C.2.1 dX8_digest_5 rfl hl (by decide) rfl (fun ls hl => ?_)
  obtain ⟨o4, ho4, hf⟩ := ob hf
  refine loop_at (w_X8_digest_l6 C) FU _ o4 ho4 ?_ _ _ _ hP hS (lv_sub hl [2, 1, 0] rfl)
  intro H locs ls hP hS hl
  refine lv_iconst (v := 0) C.1 C.2.1 dX8_digest_29 (by decide) ?_
  refine lv_istore_n (lv' := [(3, .int 0), (0, .ref (wAd w 0)), (1, .long o4)]) C.1 C.2.1 dX8_digest_30 rfl hl (by decide) rfl (fun ls hl => ?_)
  obtain ⟨o8, ho8, hf⟩ := ob hf
  refine loop_at (w_X8_digest_l31 C) FU _ o8 ho8 ?_ _ _ _ hP hS (lv_sub hl [1, 2, 0] rfl)
  intro H locs ls hP hS hl
  refine lv_aload_n C.1 C.2.1 dX8_digest_58 rfl (lv_at hl 0 rfl) ?_
  refine lv_lload_n C.1 C.2.1 dX8_digest_59 rfl (lv_at hl 1 rfl) ?_
  obtain ⟨r9, hr9, hf⟩ := ob hf
  refine kcl (kV (As := [.long o8]) (rest := []) C hl.1 hP hS (c_X8_withMinutes w l C.2.2.2.2.2.2.2.2 (L := L) hr9) (gV q376 q378 qp7 q1 q379) hd_X8_withMinutes (lt_NoisePost h0_NoisePost) (ob_NoisePost h0_NoisePost w L _) rfl ⟨rfl, rfl⟩ ⟨Nat.le_of_ble_eq_true rfl, Nat.le_of_ble_eq_true rfl⟩ rfl rfl (Nat.le_of_ble_eq_true rfl) dX8_digest_60 ⟨Nat.zero_le _, Nat.zero_le _⟩) hS (fun H locs hP hS => ?_)
  refine lv_lstore_n (lv' := [(1, .long r9), (0, .ref (wAd w 0))]) C.1 C.2.1 dX8_digest_63 rfl hl (by decide) rfl (fun ls hl => ?_)
  refine lv_aload_n C.1 C.2.1 dX8_digest_64 rfl (lv_at hl 1 rfl) ?_
  refine lv_lload_n C.1 C.2.1 dX8_digest_65 rfl (lv_at hl 0 rfl) ?_
  obtain ⟨r10, hr10, hf⟩ := ob hf
  refine kcl (kV (As := [.long r9]) (rest := []) C hl.1 hP hS (c_X8_withExceedances w l C.2.2.2.2.2.2.2.2 (L := L) hr10) (gV q393 q395 qp9 q1 q396) hd_X8_withExceedances (lt_NoisePost h0_NoisePost) (ob_NoisePost h0_NoisePost w L _) rfl ⟨rfl, rfl⟩ ⟨Nat.le_of_ble_eq_true rfl, Nat.le_of_ble_eq_true rfl⟩ rfl rfl (Nat.le_of_ble_eq_true rfl) dX8_digest_66 ⟨Nat.zero_le _, Nat.zero_le _⟩) hS (fun H locs hP hS => ?_)
  refine lv_lstore_n (lv' := [(1, .long r10), (0, .ref (wAd w 0))]) C.1 C.2.1 dX8_digest_69 rfl hl (by decide) rfl (fun ls hl => ?_)
  refine lv_aload_n C.1 C.2.1 dX8_digest_70 rfl (lv_at hl 1 rfl) ?_
  refine lv_lload_n C.1 C.2.1 dX8_digest_71 rfl (lv_at hl 0 rfl) ?_
  obtain ⟨r11, hr11, hf⟩ := ob hf
  refine kcl (kV (As := [.long r10]) (rest := []) C hl.1 hP hS (c_X8_withComplaints w l C.2.2.2.2.2.2.2.2 (L := L) hr11) (gV q401 q403 qp11 q1 q404) hd_X8_withComplaints (lt_NoisePost h0_NoisePost) (ob_NoisePost h0_NoisePost w L _) rfl ⟨rfl, rfl⟩ ⟨Nat.le_of_ble_eq_true rfl, Nat.le_of_ble_eq_true rfl⟩ rfl rfl (Nat.le_of_ble_eq_true rfl) dX8_digest_72 ⟨Nat.zero_le _, Nat.zero_le _⟩) hS (fun H locs hP hS => ?_)
  refine lv_lstore_n (lv' := [(1, .long r11), (0, .ref (wAd w 0))]) C.1 C.2.1 dX8_digest_75 rfl hl (by decide) rfl (fun ls hl => ?_)
  refine lv_aload_n C.1 C.2.1 dX8_digest_76 rfl (lv_at hl 1 rfl) ?_
  refine lv_lload_n C.1 C.2.1 dX8_digest_77 rfl (lv_at hl 0 rfl) ?_
  obtain ⟨r12, hr12, hf⟩ := ob hf
  refine kcl (kV (As := [.long r11]) (rest := []) C hl.1 hP hS (c_X8_withLevels w l C.2.2.2.2.2.2.2.2 (L := L) hr12) (gV q409 q411 qp13 q1 q412) hd_X8_withLevels (lt_NoisePost h0_NoisePost) (ob_NoisePost h0_NoisePost w L _) rfl ⟨rfl, rfl⟩ ⟨Nat.le_of_ble_eq_true rfl, Nat.le_of_ble_eq_true rfl⟩ rfl rfl (Nat.le_of_ble_eq_true rfl) dX8_digest_78 ⟨Nat.zero_le _, Nat.zero_le _⟩) hS (fun H locs hP hS => ?_)
  refine lv_lstore_n (lv' := [(1, .long r12), (0, .ref (wAd w 0))]) C.1 C.2.1 dX8_digest_81 rfl hl (by decide) rfl (fun ls hl => ?_)
  refine lv_lload_n C.1 C.2.1 dX8_digest_82 rfl (lv_at hl 0 rfl) ?_
  refine lv_aload_n C.1 C.2.1 dX8_digest_83 rfl (lv_at hl 1 rfl) ?_
  refine k_get (v := .ref (wAd w 54)) C hP (lt_NoisePost h0_NoisePost) (ob_NoisePost h0_NoisePost w L _) rfl iX8 3 (by decide) q287 rfl dX8_digest_84 ?_
  refine lv_iconst (v := 1) C.1 C.2.1 dX8_digest_87 (by decide) ?_
  obtain ⟨r13, hr13, hf⟩ := ob hf
  refine kci (kV (As := [.int 1]) (rest := [.long r12]) C hl.1 hP hS (c_X7_leastLimitFor w l C.2.2.2.2.2.2.2.2 to_NoisePost_now (L := L) hr13) (gV q417 q418 q419 q5 q420) hd_X7_leastLimitFor (lt_View to_NoisePost_now) (ob_View to_NoisePost_now w L _) rfl ⟨rfl, rfl⟩ ⟨Nat.le_of_ble_eq_true rfl, Nat.le_of_ble_eq_true rfl⟩ rfl rfl (Nat.le_of_ble_eq_true rfl) dX8_digest_88 ⟨Nat.zero_le _, Nat.zero_le _⟩) hS (fun H locs hP hS => ?_)
  refine lv_i2l (v := (Int32.toInt64 r13)) C.1 C.2.1 dX8_digest_91 rfl ?_
  obtain ⟨r14, hr14, hf⟩ := ob hf
  refine kcl (kS (As := [.long r12, .long (Int32.toInt64 r13)]) (rest := []) C hl.1 hP hS (c_X8_mixed w l C.2.2.2.2.2.2.2.2 (L := L) hr14) (gS q372 q373 q1 q374) hd_X8_mixed ⟨rfl, rfl⟩ ⟨Nat.le_of_ble_eq_true rfl, Nat.le_of_ble_eq_true rfl⟩ rfl rfl (Nat.le_of_ble_eq_true rfl) dX8_digest_92 ⟨Nat.zero_le _, Nat.zero_le _⟩) hS (fun H locs hP hS => ?_)
  refine lv_lstore_n (lv' := [(1, .long r14), (0, .ref (wAd w 0))]) C.1 C.2.1 dX8_digest_95 rfl hl (by decide) rfl (fun ls hl => ?_)
  refine lv_lload_n C.1 C.2.1 dX8_digest_96 rfl (lv_at hl 0 rfl) ?_
  refine lv_aload_n C.1 C.2.1 dX8_digest_97 rfl (lv_at hl 1 rfl) ?_
  refine k_get (v := .ref (wAd w 54)) C hP (lt_NoisePost h0_NoisePost) (ob_NoisePost h0_NoisePost w L _) rfl iX8 3 (by decide) q287 rfl dX8_digest_98 ?_
  refine lv_bipush (v := 80) C.1 C.2.1 dX8_digest_101 (by decide) ?_
  obtain ⟨r15, hr15, hf⟩ := ob hf
  refine kci (kV (As := [.int 80]) (rest := [.long r14]) C hl.1 hP hS (c_X7_minutesUntilAbove w l C.2.2.2.2.2.2.2.2 to_NoisePost_now (L := L) hr15) (gV q434 q435 q436 q5 q437) hd_X7_minutesUntilAbove (lt_View to_NoisePost_now) (ob_View to_NoisePost_now w L _) rfl ⟨rfl, rfl⟩ ⟨Nat.le_of_ble_eq_true rfl, Nat.le_of_ble_eq_true rfl⟩ rfl rfl (Nat.le_of_ble_eq_true rfl) dX8_digest_103 ⟨Nat.zero_le _, Nat.zero_le _⟩) hS (fun H locs hP hS => ?_)
  refine lv_i2l (v := (Int32.toInt64 r15)) C.1 C.2.1 dX8_digest_106 rfl ?_
  obtain ⟨r16, hr16, hf⟩ := ob hf
  refine kcl (kS (As := [.long r14, .long (Int32.toInt64 r15)]) (rest := []) C hl.1 hP hS (c_X8_mixed w l C.2.2.2.2.2.2.2.2 (L := L) hr16) (gS q372 q373 q1 q374) hd_X8_mixed ⟨rfl, rfl⟩ ⟨Nat.le_of_ble_eq_true rfl, Nat.le_of_ble_eq_true rfl⟩ rfl rfl (Nat.le_of_ble_eq_true rfl) dX8_digest_107 ⟨Nat.zero_le _, Nat.zero_le _⟩) hS (fun H locs hP hS => ?_)
  refine lv_lstore_n (lv' := [(1, .long r16), (0, .ref (wAd w 0))]) C.1 C.2.1 dX8_digest_110 rfl hl (by decide) rfl (fun ls hl => ?_)
  refine lv_lload_n C.1 C.2.1 dX8_digest_111 rfl (lv_at hl 0 rfl) ?_
  refine lv_aload_n C.1 C.2.1 dX8_digest_112 rfl (lv_at hl 1 rfl) ?_
  refine k_get (v := .ref (wAd w 54)) C hP (lt_NoisePost h0_NoisePost) (ob_NoisePost h0_NoisePost w L _) rfl iX8 3 (by decide) q287 rfl dX8_digest_113 ?_
  refine k_get (v := .ref (wAd w 56)) C hP (lt_View to_NoisePost_now) (ob_View to_NoisePost_now w L _) rfl iX7 1 (by decide) q259 rfl dX8_digest_116 ?_
  obtain ⟨r17, hr17, hf⟩ := ob hf
  refine kcd (kV (As := []) (rest := [.long r16]) C hl.1 hP hS (c_X4_shareAbove w l C.2.2.2.2.2.2.2.2 (to_View_minutes to_NoisePost_now) (L := L) hr17) (gV q347 q348 q349 q6 q350) hd_X4_shareAbove (lt_Minutes (to_View_minutes to_NoisePost_now)) (ob_Minutes (to_View_minutes to_NoisePost_now) w L _) rfl ⟨rfl, rfl⟩ ⟨Nat.le_of_ble_eq_true rfl, Nat.le_of_ble_eq_true rfl⟩ rfl rfl (Nat.le_of_ble_eq_true rfl) dX8_digest_119 ⟨Nat.zero_le _, Nat.zero_le _⟩) hS (fun H locs hP hS => ?_)
  obtain ⟨r18, hr18, hf⟩ := ob hf
  refine kcl (kS (As := [.double r17]) (rest := [.long r16]) C hl.1 hP hS (c_X8_bitsOf w l C.2.2.2.2.2.2.2.2 (L := L) hr18) (gS q450 q451 q1 q452) hd_X8_bitsOf ⟨rfl, rfl⟩ ⟨Nat.le_of_ble_eq_true rfl, Nat.le_of_ble_eq_true rfl⟩ rfl rfl (Nat.le_of_ble_eq_true rfl) dX8_digest_122 ⟨Nat.zero_le _, Nat.zero_le _⟩) hS (fun H locs hP hS => ?_)
  obtain ⟨r19, hr19, hf⟩ := ob hf
  refine kcl (kS (As := [.long r16, .long r18]) (rest := []) C hl.1 hP hS (c_X8_mixed w l C.2.2.2.2.2.2.2.2 (L := L) hr19) (gS q372 q373 q1 q374) hd_X8_mixed ⟨rfl, rfl⟩ ⟨Nat.le_of_ble_eq_true rfl, Nat.le_of_ble_eq_true rfl⟩ rfl rfl (Nat.le_of_ble_eq_true rfl) dX8_digest_125 ⟨Nat.zero_le _, Nat.zero_le _⟩) hS (fun H locs hP hS => ?_)
  refine lv_lstore_n (lv' := [(1, .long r19), (0, .ref (wAd w 0))]) C.1 C.2.1 dX8_digest_128 rfl hl (by decide) rfl (fun ls hl => ?_)
  refine lv_aload_n C.1 C.2.1 dX8_digest_129 rfl (lv_at hl 1 rfl) ?_
  refine lv_lload_n C.1 C.2.1 dX8_digest_130 rfl (lv_at hl 0 rfl) ?_
  obtain ⟨r20, hr20, hf⟩ := ob hf
  refine kcl (kV (As := [.long r19]) (rest := []) C hl.1 hP hS (c_X8_withBuffer w l C.2.2.2.2.2.2.2.2 (L := L) hr20) (gV q456 q458 qp16 q1 q459) hd_X8_withBuffer (lt_NoisePost h0_NoisePost) (ob_NoisePost h0_NoisePost w L _) rfl ⟨rfl, rfl⟩ ⟨Nat.le_of_ble_eq_true rfl, Nat.le_of_ble_eq_true rfl⟩ rfl rfl (Nat.le_of_ble_eq_true rfl) dX8_digest_131 ⟨Nat.zero_le _, Nat.zero_le _⟩) hS (fun H locs hP hS => ?_)
  cases hf
  exact krl C hP hS dX8_digest_134
