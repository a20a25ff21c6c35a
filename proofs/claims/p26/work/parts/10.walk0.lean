theorem dX0_begin_0 : decode cX0_begin 0 = .ok (.aload_n 0, 1) := by decide +kernel
theorem dX0_begin_1 : decode cX0_begin 1 = .ok (.getfield 30, 3) := by decide +kernel
theorem dX0_begin_4 : decode cX0_begin 4 = .ok (.bipush 100, 2) := by decide +kernel
theorem dX0_begin_6 : decode cX0_begin 6 = .ok (.if_icmp .ge 53, 3) := by decide +kernel
theorem dX0_begin_9 : decode cX0_begin 9 = .ok (.aload_n 0, 1) := by decide +kernel
theorem dX0_begin_10 : decode cX0_begin 10 = .ok (.getfield 9, 3) := by decide +kernel
theorem dX0_begin_13 : decode cX0_begin 13 = .ok (.aload_n 0, 1) := by decide +kernel
theorem dX0_begin_14 : decode cX0_begin 14 = .ok (.getfield 30, 3) := by decide +kernel
theorem dX0_begin_17 : decode cX0_begin 17 = .ok (.iload_n 1, 1) := by decide +kernel
theorem dX0_begin_18 : decode cX0_begin 18 = .ok (.iastore, 1) := by decide +kernel
theorem dX0_begin_19 : decode cX0_begin 19 = .ok (.aload_n 0, 1) := by decide +kernel
theorem dX0_begin_20 : decode cX0_begin 20 = .ok (.getfield 18, 3) := by decide +kernel
theorem dX0_begin_23 : decode cX0_begin 23 = .ok (.aload_n 0, 1) := by decide +kernel
theorem dX0_begin_24 : decode cX0_begin 24 = .ok (.getfield 30, 3) := by decide +kernel
theorem dX0_begin_27 : decode cX0_begin 27 = .ok (.iconst 0, 1) := by decide +kernel
theorem dX0_begin_28 : decode cX0_begin 28 = .ok (.iastore, 1) := by decide +kernel
theorem dX0_begin_29 : decode cX0_begin 29 = .ok (.aload_n 0, 1) := by decide +kernel
theorem dX0_begin_30 : decode cX0_begin 30 = .ok (.getfield 21, 3) := by decide +kernel
theorem dX0_begin_33 : decode cX0_begin 33 = .ok (.aload_n 0, 1) := by decide +kernel
theorem dX0_begin_34 : decode cX0_begin 34 = .ok (.getfield 30, 3) := by decide +kernel
theorem dX0_begin_37 : decode cX0_begin 37 = .ok (.iconst 0, 1) := by decide +kernel
theorem dX0_begin_38 : decode cX0_begin 38 = .ok (.iastore, 1) := by decide +kernel
theorem dX0_begin_39 : decode cX0_begin 39 = .ok (.aload_n 0, 1) := by decide +kernel
theorem dX0_begin_40 : decode cX0_begin 40 = .ok (.getfield 24, 3) := by decide +kernel
theorem dX0_begin_43 : decode cX0_begin 43 = .ok (.aload_n 0, 1) := by decide +kernel
theorem dX0_begin_44 : decode cX0_begin 44 = .ok (.getfield 30, 3) := by decide +kernel
theorem dX0_begin_47 : decode cX0_begin 47 = .ok (.iconst 0, 1) := by decide +kernel
theorem dX0_begin_48 : decode cX0_begin 48 = .ok (.iastore, 1) := by decide +kernel
theorem dX0_begin_49 : decode cX0_begin 49 = .ok (.aload_n 0, 1) := by decide +kernel
theorem dX0_begin_50 : decode cX0_begin 50 = .ok (.dup, 1) := by decide +kernel
theorem dX0_begin_51 : decode cX0_begin 51 = .ok (.getfield 30, 3) := by decide +kernel
theorem dX0_begin_54 : decode cX0_begin 54 = .ok (.iconst 1, 1) := by decide +kernel
theorem dX0_begin_55 : decode cX0_begin 55 = .ok (.iadd, 1) := by decide +kernel
theorem dX0_begin_56 : decode cX0_begin 56 = .ok (.putfield 30, 3) := by decide +kernel
theorem dX0_begin_59 : decode cX0_begin 59 = .ok (.return_, 1) := by decide +kernel
set_option maxHeartbeats 4000000 in
set_option maxRecDepth 100000 in
theorem c_X0_begin (w : WT) (l : Launch) (hw : WOK w) {b0 : Nat} (hb0 : isEx b0) {a1 : Int32} {M : Mem} {L : Lng} {out : Mem} (hf : f_X0_begin b0 a1 M = some out) : Met l yX0_begin (Cond.code yX0_begin cX0_begin 2 none :: BG) ({ frames := 0, cells := 0, slots := 0, locals := 0 } : Room) (PRE w [.ref (wAd w b0), .int a1] M L) (QV w out L) 0 0 (wA w) := by
  refine kEnt hw (by decide +kernel) rfl (Nat.le_of_ble_eq_true rfl) ?_
  intro p e s m args below meth c C ls hl hP
  have hS : va_S (wA w) s.heap s.heap [] := va_S.rf
  have hl : lv_has ls 2 [(0, .ref (wAd w b0)), (1, .int a1)] := hl
  unfold f_X0_begin at hf
  refine lv_aload_n C.1 C.2.1 dX0_begin_0 rfl (lv_at hl 0 rfl) ?_
  refine k_get (v := .int (M b0 6)) C hP (C9 C (lt_Exceedances hb0)) (ob_Exceedances hb0 w L _) rfl iX0 6 (by decide) q196 rfl dX0_begin_1 ?_
  refine lv_bipush (v := 100) C.1 C.2.1 dX0_begin_4 (by decide) ?_
  refine lv_icmp_ge (tgt := 59) C.1 C.2.1 dX0_begin_6 (by decide) (fun c1 => ?_) (fun c1 => ?_)
  · have hf := (if_pos c1).symm.trans hf
    cases hf
    exact krv C hP hS dX0_begin_59
  · have hf := (if_neg c1).symm.trans hf
    refine lv_aload_n C.1 C.2.1 dX0_begin_9 rfl (lv_at hl 0 rfl) ?_
    refine k_get (v := .ref (wAd w (b0 + 1))) C hP (C9 C (lt_Exceedances hb0)) (ob_Exceedances hb0 w L _) rfl iX0 0 (by decide) q181 rfl dX0_begin_10 ?_
    refine lv_aload_n C.1 C.2.1 dX0_begin_13 rfl (lv_at hl 0 rfl) ?_
    refine k_get (v := .int (M b0 6)) C hP (C9 C (lt_Exceedances hb0)) (ob_Exceedances hb0 w L _) rfl iX0 6 (by decide) q196 rfl dX0_begin_14 ?_
    refine lv_iload_n C.1 C.2.1 dX0_begin_17 rfl (lv_at hl 1 rfl) ?_
    obtain ⟨M2, hM2, hf⟩ := ob hf
    refine k_iast C hP hS (C9 C (la_Exceedances_begins hb0)) (ar_Exceedances_begins hb0 w L) hM2 dX0_begin_18 (fun H locs hP hS => ?_)
    refine lv_aload_n C.1 C.2.1 dX0_begin_19 rfl (lv_at hl 0 rfl) ?_
    refine k_get (v := .ref (wAd w (b0 + 3))) C hP (C9 C (lt_Exceedances hb0)) (ob_Exceedances hb0 w L _) rfl iX0 2 (by decide) q187 rfl dX0_begin_20 ?_
    refine lv_aload_n C.1 C.2.1 dX0_begin_23 rfl (lv_at hl 0 rfl) ?_
    refine k_get (v := .int (M2 b0 6)) C hP (C9 C (lt_Exceedances hb0)) (ob_Exceedances hb0 w L _) rfl iX0 6 (by decide) q196 rfl dX0_begin_24 ?_
    refine lv_iconst (v := 0) C.1 C.2.1 dX0_begin_27 (by decide) ?_
    obtain ⟨M3, hM3, hf⟩ := ob hf
    refine k_iast C hP hS (C9 C (la_Exceedances_aboves hb0)) (ar_Exceedances_aboves hb0 w L) hM3 dX0_begin_28 (fun H locs hP hS => ?_)
    refine lv_aload_n C.1 C.2.1 dX0_begin_29 rfl (lv_at hl 0 rfl) ?_
    refine k_get (v := .ref (wAd w (b0 + 4))) C hP (C9 C (lt_Exceedances hb0)) (ob_Exceedances hb0 w L _) rfl iX0 3 (by decide) q189 rfl dX0_begin_30 ?_
    refine lv_aload_n C.1 C.2.1 dX0_begin_33 rfl (lv_at hl 0 rfl) ?_
    refine k_get (v := .int (M3 b0 6)) C hP (C9 C (lt_Exceedances hb0)) (ob_Exceedances hb0 w L _) rfl iX0 6 (by decide) q196 rfl dX0_begin_34 ?_
    refine lv_iconst (v := 0) C.1 C.2.1 dX0_begin_37 (by decide) ?_
    obtain ⟨M4, hM4, hf⟩ := ob hf
    refine k_iast C hP hS (C9 C (la_Exceedances_peaks hb0)) (ar_Exceedances_peaks hb0 w L) hM4 dX0_begin_38 (fun H locs hP hS => ?_)
    refine lv_aload_n C.1 C.2.1 dX0_begin_39 rfl (lv_at hl 0 rfl) ?_
    refine k_get (v := .ref (wAd w (b0 + 5))) C hP (C9 C (lt_Exceedances hb0)) (ob_Exceedances hb0 w L _) rfl iX0 4 (by decide) q192 rfl dX0_begin_40 ?_
    refine lv_aload_n C.1 C.2.1 dX0_begin_43 rfl (lv_at hl 0 rfl) ?_
    refine k_get (v := .int (M4 b0 6)) C hP (C9 C (lt_Exceedances hb0)) (ob_Exceedances hb0 w L _) rfl iX0 6 (by decide) q196 rfl dX0_begin_44 ?_
    refine lv_iconst (v := 0) C.1 C.2.1 dX0_begin_47 (by decide) ?_
    obtain ⟨M5, hM5, hf⟩ := ob hf
    refine k_iast C hP hS (C9 C (la_Exceedances_weights hb0)) (ar_Exceedances_weights hb0 w L) hM5 dX0_begin_48 (fun H locs hP hS => ?_)
    refine lv_aload_n C.1 C.2.1 dX0_begin_49 rfl (lv_at hl 0 rfl) ?_
    refine lv_dup C.1 C.2.1 dX0_begin_50 rfl ?_
    refine k_get (v := .int (M5 b0 6)) C hP (C9 C (lt_Exceedances hb0)) (ob_Exceedances hb0 w L _) rfl iX0 6 (by decide) q196 rfl dX0_begin_51 ?_
    refine lv_iconst (v := 1) C.1 C.2.1 dX0_begin_54 (by decide) ?_
    refine lv_iadd C.1 C.2.1 dX0_begin_55 ?_
    obtain ⟨M6, hM6, hf⟩ := ob hf
    refine k_puti C hP hS (C9 C (lt_Exceedances hb0)) (fun row => ob_Exceedances hb0 w L row) rfl iX0 tyX0 tyX0_ok nmX0 6 (by decide) q196 rfl rfl (Nat.le_of_ble_eq_true rfl) rfl hM6 dX0_begin_56 (fun H locs hP hS => ?_)
    cases hf
    exact krv C hP hS dX0_begin_59
theorem dJ9_floorMod_7cf53_0 : decode cJ9_floorMod_7cf53 0 = .ok (.iload_n 0, 1) := by decide +kernel
theorem dJ9_floorMod_7cf53_1 : decode cJ9_floorMod_7cf53 1 = .ok (.iload_n 1, 1) := by decide +kernel
theorem dJ9_floorMod_7cf53_2 : decode cJ9_floorMod_7cf53 2 = .ok (.irem, 1) := by decide +kernel
theorem dJ9_floorMod_7cf53_3 : decode cJ9_floorMod_7cf53 3 = .ok (.istore_n 2, 1) := by decide +kernel
theorem dJ9_floorMod_7cf53_4 : decode cJ9_floorMod_7cf53 4 = .ok (.iload_n 0, 1) := by decide +kernel
theorem dJ9_floorMod_7cf53_5 : decode cJ9_floorMod_7cf53 5 = .ok (.iload_n 1, 1) := by decide +kernel
theorem dJ9_floorMod_7cf53_6 : decode cJ9_floorMod_7cf53 6 = .ok (.ixor, 1) := by decide +kernel
theorem dJ9_floorMod_7cf53_7 : decode cJ9_floorMod_7cf53 7 = .ok (.ifCond .ge 11, 3) := by decide +kernel
theorem dJ9_floorMod_7cf53_10 : decode cJ9_floorMod_7cf53 10 = .ok (.iload_n 2, 1) := by decide +kernel
theorem dJ9_floorMod_7cf53_11 : decode cJ9_floorMod_7cf53 11 = .ok (.ifCond .eq 7, 3) := by decide +kernel
theorem dJ9_floorMod_7cf53_14 : decode cJ9_floorMod_7cf53 14 = .ok (.iload_n 2, 1) := by decide +kernel
theorem dJ9_floorMod_7cf53_15 : decode cJ9_floorMod_7cf53 15 = .ok (.iload_n 1, 1) := by decide +kernel
theorem dJ9_floorMod_7cf53_16 : decode cJ9_floorMod_7cf53 16 = .ok (.iadd, 1) := by decide +kernel
theorem dJ9_floorMod_7cf53_17 : decode cJ9_floorMod_7cf53 17 = .ok (.ireturn, 1) := by decide +kernel
theorem dJ9_floorMod_7cf53_18 : decode cJ9_floorMod_7cf53 18 = .ok (.iload_n 2, 1) := by decide +kernel
theorem dJ9_floorMod_7cf53_19 : decode cJ9_floorMod_7cf53 19 = .ok (.ireturn, 1) := by decide +kernel
set_option maxHeartbeats 4000000 in
set_option maxRecDepth 100000 in
theorem c_J9_floorMod_7cf53 (w : WT) (l : Launch) (hw : WOK w) {a0 : Int32} {a1 : Int32} {M : Mem} {L : Lng} {out : Int32} (hf : f_J9_floorMod_7cf53 a0 a1 M = some out) : Met l yJ9_floorMod_7cf53 (Cond.code yJ9_floorMod_7cf53 cJ9_floorMod_7cf53 3 (some .int) :: BG) ({ frames := 0, cells := 0, slots := 0, locals := 0 } : Room) (PRE w [.int a0, .int a1] M L) (QI w out M L) 0 0 (wA w) := by
  refine kEnt hw (by decide +kernel) rfl (Nat.le_of_ble_eq_true rfl) ?_
  intro p e s m args below meth c C ls hl hP
  have hS : va_S (wA w) s.heap s.heap [] := va_S.rf
  have hl : lv_has ls 3 [(0, .int a0), (1, .int a1)] := hl
  unfold f_J9_floorMod_7cf53 at hf
  refine lv_iload_n C.1 C.2.1 dJ9_floorMod_7cf53_0 rfl (lv_at hl 0 rfl) ?_
  refine lv_iload_n C.1 C.2.1 dJ9_floorMod_7cf53_1 rfl (lv_at hl 1 rfl) ?_
  obtain ⟨x1, hx1, hf⟩ := ob hf
  refine k_irem C hx1 dJ9_floorMod_7cf53_2 ?_
  refine lv_istore_n (lv' := [(2, .int x1), (0, .int a0), (1, .int a1)]) C.1 C.2.1 dJ9_floorMod_7cf53_3 rfl hl (by decide) rfl (fun ls hl => ?_)
  refine lv_iload_n C.1 C.2.1 dJ9_floorMod_7cf53_4 rfl (lv_at hl 1 rfl) ?_
  refine lv_iload_n C.1 C.2.1 dJ9_floorMod_7cf53_5 rfl (lv_at hl 2 rfl) ?_
  refine lv_ixor C.1 C.2.1 dJ9_floorMod_7cf53_6 ?_
  refine lv_if_ge (tgt := 18) C.1 C.2.1 dJ9_floorMod_7cf53_7 (by decide) (fun c2 => ?_) (fun c2 => ?_)
  · have hf := (if_pos c2).symm.trans hf
    refine lv_iload_n C.1 C.2.1 dJ9_floorMod_7cf53_18 rfl (lv_at hl 0 rfl) ?_
    cases hf
    exact kri C hP hS dJ9_floorMod_7cf53_19
  · have hf := (if_neg c2).symm.trans hf
    refine lv_iload_n C.1 C.2.1 dJ9_floorMod_7cf53_10 rfl (lv_at hl 0 rfl) ?_
    refine lv_if_eq (tgt := 18) C.1 C.2.1 dJ9_floorMod_7cf53_11 (by decide) (fun c3 => ?_) (fun c3 => ?_)
    · have hf := (if_pos c3).symm.trans hf
      refine lv_iload_n C.1 C.2.1 dJ9_floorMod_7cf53_18 rfl (lv_at hl 0 rfl) ?_
      cases hf
      exact kri C hP hS dJ9_floorMod_7cf53_19
    · have hf := (if_neg c3).symm.trans hf
      refine lv_iload_n C.1 C.2.1 dJ9_floorMod_7cf53_14 rfl (lv_at hl 0 rfl) ?_
      refine lv_iload_n C.1 C.2.1 dJ9_floorMod_7cf53_15 rfl (lv_at hl 2 rfl) ?_
      refine lv_iadd C.1 C.2.1 dJ9_floorMod_7cf53_16 ?_
      cases hf
      exact kri C hP hS dJ9_floorMod_7cf53_17
theorem dX8_isRest_0 : decode cX8_isRest 0 = .ok (.iload_n 0, 1) := by decide +kernel
theorem dX8_isRest_1 : decode cX8_isRest 1 = .ok (.aload_n 1, 1) := by decide +kernel
theorem dX8_isRest_2 : decode cX8_isRest 2 = .ok (.iconst 2, 1) := by decide +kernel
theorem dX8_isRest_3 : decode cX8_isRest 3 = .ok (.iaload, 1) := by decide +kernel
theorem dX8_isRest_4 : decode cX8_isRest 4 = .ok (.isub, 1) := by decide +kernel
theorem dX8_isRest_5 : decode cX8_isRest 5 = .ok (.bipush 60, 2) := by decide +kernel
theorem dX8_isRest_7 : decode cX8_isRest 7 = .ok (.invokestatic 329, 3) := by decide +kernel
theorem dX8_isRest_10 : decode cX8_isRest 10 = .ok (.aload_n 1, 1) := by decide +kernel
theorem dX8_isRest_11 : decode cX8_isRest 11 = .ok (.iconst 3, 1) := by decide +kernel
theorem dX8_isRest_12 : decode cX8_isRest 12 = .ok (.iaload, 1) := by decide +kernel
theorem dX8_isRest_13 : decode cX8_isRest 13 = .ok (.if_icmp .ge 7, 3) := by decide +kernel
theorem dX8_isRest_16 : decode cX8_isRest 16 = .ok (.iconst 1, 1) := by decide +kernel
theorem dX8_isRest_17 : decode cX8_isRest 17 = .ok (.goto 4, 3) := by decide +kernel
theorem dX8_isRest_20 : decode cX8_isRest 20 = .ok (.iconst 0, 1) := by decide +kernel
theorem dX8_isRest_21 : decode cX8_isRest 21 = .ok (.ireturn, 1) := by decide +kernel
set_option maxHeartbeats 4000000 in
set_option maxRecDepth 100000 in
theorem c_X8_isRest (w : WT) (l : Launch) (hw : WOK w) {g0 : Nat} (hg0 : isS g0) {a0 : Int32} {M : Mem} {L : Lng} {out : Int32} (hf : f_X8_isRest g0 a0 M = some out) : Met l yX8_isRest (Cond.code yX8_isRest cX8_isRest 2 (some .boolean) :: BG) ({ frames := 1, cells := 0, slots := 0, locals := 22 } : Room) (PRE w [.int a0, .ref (wAd w g0)] M L) (QI w out M L) 0 0 (wA w) := by
  refine kEnt hw (by decide +kernel) rfl (Nat.le_of_ble_eq_true rfl) ?_
  intro p e s m args below meth c C ls hl hP
  have hS : va_S (wA w) s.heap s.heap [] := va_S.rf
  have hl : lv_has ls 2 [(0, .int a0), (1, .ref (wAd w g0))] := hl
  unfold f_X8_isRest at hf
  refine lv_iload_n C.1 C.2.1 dX8_isRest_0 rfl (lv_at hl 0 rfl) ?_
  refine lv_aload_n C.1 C.2.1 dX8_isRest_1 rfl (lv_at hl 1 rfl) ?_
  refine lv_iconst (v := 2) C.1 C.2.1 dX8_isRest_2 (by decide) ?_
  obtain ⟨x1, hx1, hf⟩ := ob hf
  refine k_iald C hP (C9 C (la_S hg0)) (ar_S hg0 w L _) hx1 dX8_isRest_3 ?_
  refine lv_isub C.1 C.2.1 dX8_isRest_4 ?_
  refine lv_bipush (v := 60) C.1 C.2.1 dX8_isRest_5 (by decide) ?_
  obtain ⟨r2, hr2, hf⟩ := ob hf
  refine kci (kS (As := [.int (a0 - x1), .int 60]) (rest := []) C hl.1 hP hS (c_J9_floorMod_7cf53 w l C.2.2.2.2.2.2.2.2 (L := L) hr2) (gS q439 q440 q15 q441) hd_J9_floorMod_7cf53 ⟨rfl, rfl⟩ ⟨Nat.le_of_ble_eq_true rfl, Nat.le_of_ble_eq_true rfl⟩ rfl rfl (Nat.le_of_ble_eq_true rfl) dX8_isRest_7 ⟨Nat.zero_le _, Nat.zero_le _⟩) hS (fun H locs hP hS => ?_)
  refine lv_aload_n C.1 C.2.1 dX8_isRest_10 rfl (lv_at hl 1 rfl) ?_
  refine lv_iconst (v := 3) C.1 C.2.1 dX8_isRest_11 (by decide) ?_
  obtain ⟨x3, hx3, hf⟩ := ob hf
  refine k_iald C hP (C9 C (la_S hg0)) (ar_S hg0 w L _) hx3 dX8_isRest_12 ?_
  refine lv_icmp_ge (tgt := 20) C.1 C.2.1 dX8_isRest_13 (by decide) (fun c4 => ?_) (fun c4 => ?_)
  · have hf := (if_pos c4).symm.trans hf
    refine lv_iconst (v := 0) C.1 C.2.1 dX8_isRest_20 (by decide) ?_
    cases hf
    exact krz C hP hS bz0 dX8_isRest_21
  · have hf := (if_neg c4).symm.trans hf
    refine lv_iconst (v := 1) C.1 C.2.1 dX8_isRest_16 (by decide) ?_
    refine lv_goto (tgt := 21) C.1 C.2.1 dX8_isRest_17 (by decide) ?_
    cases hf
    exact krz C hP hS bz1 dX8_isRest_21
theorem dX8_limitAt_0 : decode cX8_limitAt 0 = .ok (.iload_n 0, 1) := by decide +kernel
theorem dX8_limitAt_1 : decode cX8_limitAt 1 = .ok (.aload_n 1, 1) := by decide +kernel
theorem dX8_limitAt_2 : decode cX8_limitAt 2 = .ok (.invokestatic 298, 3) := by decide +kernel
theorem dX8_limitAt_5 : decode cX8_limitAt 5 = .ok (.ifCond .eq 9, 3) := by decide +kernel
theorem dX8_limitAt_8 : decode cX8_limitAt 8 = .ok (.aload_n 1, 1) := by decide +kernel
theorem dX8_limitAt_9 : decode cX8_limitAt 9 = .ok (.iconst 1, 1) := by decide +kernel
theorem dX8_limitAt_10 : decode cX8_limitAt 10 = .ok (.iaload, 1) := by decide +kernel
theorem dX8_limitAt_11 : decode cX8_limitAt 11 = .ok (.goto 6, 3) := by decide +kernel
theorem dX8_limitAt_14 : decode cX8_limitAt 14 = .ok (.aload_n 1, 1) := by decide +kernel
theorem dX8_limitAt_15 : decode cX8_limitAt 15 = .ok (.iconst 0, 1) := by decide +kernel
theorem dX8_limitAt_16 : decode cX8_limitAt 16 = .ok (.iaload, 1) := by decide +kernel
theorem dX8_limitAt_17 : decode cX8_limitAt 17 = .ok (.ireturn, 1) := by decide +kernel
set_option maxHeartbeats 4000000 in
set_option maxRecDepth 100000 in
theorem c_X8_limitAt (w : WT) (l : Launch) (hw : WOK w) {g0 : Nat} (hg0 : isS g0) {a0 : Int32} {M : Mem} {L : Lng} {out : Int32} (hf : f_X8_limitAt g0 a0 M = some out) : Met l yX8_limitAt (Cond.code yX8_limitAt cX8_limitAt 2 (some .int) :: BG) ({ frames := 2, cells := 0, slots := 0, locals := 43 } : Room) (PRE w [.int a0, .ref (wAd w g0)] M L) (QI w out M L) 0 0 (wA w) := by
  refine kEnt hw (by decide +kernel) rfl (Nat.le_of_ble_eq_true rfl) ?_
  intro p e s m args below meth c C ls hl hP
  have hS : va_S (wA w) s.heap s.heap [] := va_S.rf
  have hl : lv_has ls 2 [(0, .int a0), (1, .ref (wAd w g0))] := hl
  unfold f_X8_limitAt at hf
  refine lv_iload_n C.1 C.2.1 dX8_limitAt_0 rfl (lv_at hl 0 rfl) ?_
  refine lv_aload_n C.1 C.2.1 dX8_limitAt_1 rfl (lv_at hl 1 rfl) ?_
  obtain ⟨r1, hr1, hf⟩ := ob hf
  refine kci (kS (As := [.int a0, .ref (wAd w g0)]) (rest := []) C hl.1 hP hS (c_X8_isRest w l C.2.2.2.2.2.2.2.2 hg0 (L := L) hr1) (gS q436 q437 q1 q438) hd_X8_isRest ⟨rfl, rfl⟩ ⟨Nat.le_of_ble_eq_true rfl, Nat.le_of_ble_eq_true rfl⟩ rfl rfl (Nat.le_of_ble_eq_true rfl) dX8_limitAt_2 ⟨Nat.zero_le _, Nat.zero_le _⟩) hS (fun H locs hP hS => ?_)
  refine lv_if_eq (tgt := 14) C.1 C.2.1 dX8_limitAt_5 (by decide) (fun c2 => ?_) (fun c2 => ?_)
  · have hf := (if_pos c2).symm.trans hf
    refine lv_aload_n C.1 C.2.1 dX8_limitAt_14 rfl (lv_at hl 1 rfl) ?_
    refine lv_iconst (v := 0) C.1 C.2.1 dX8_limitAt_15 (by decide) ?_
    obtain ⟨x3, hx3, hf⟩ := ob hf
    refine k_iald C hP (C9 C (la_S hg0)) (ar_S hg0 w L _) hx3 dX8_limitAt_16 ?_
    cases hf
    exact kri C hP hS dX8_limitAt_17
  · have hf := (if_neg c2).symm.trans hf
    refine lv_aload_n C.1 C.2.1 dX8_limitAt_8 rfl (lv_at hl 1 rfl) ?_
    refine lv_iconst (v := 1) C.1 C.2.1 dX8_limitAt_9 (by decide) ?_
    obtain ⟨x4, hx4, hf⟩ := ob hf
    refine k_iald C hP (C9 C (la_S hg0)) (ar_S hg0 w L _) hx4 dX8_limitAt_10 ?_
    refine lv_goto (tgt := 17) C.1 C.2.1 dX8_limitAt_11 (by decide) ?_
    cases hf
    exact kri C hP hS dX8_limitAt_17
theorem dX0_extend_0 : decode cX0_extend 0 = .ok (.aload_n 0, 1) := by decide +kernel
theorem dX0_extend_1 : decode cX0_extend 1 = .ok (.getfield 30, 3) := by decide +kernel
theorem dX0_extend_4 : decode cX0_extend 4 = .ok (.iconst 1, 1) := by decide +kernel
theorem dX0_extend_5 : decode cX0_extend 5 = .ok (.isub, 1) := by decide +kernel
theorem dX0_extend_6 : decode cX0_extend 6 = .ok (.istore 4, 2) := by decide +kernel
theorem dX0_extend_8 : decode cX0_extend 8 = .ok (.iload 4, 2) := by decide +kernel
theorem dX0_extend_10 : decode cX0_extend 10 = .ok (.ifCond .lt 51, 3) := by decide +kernel
theorem dX0_extend_13 : decode cX0_extend 13 = .ok (.aload_n 0, 1) := by decide +kernel
theorem dX0_extend_14 : decode cX0_extend 14 = .ok (.getfield 15, 3) := by decide +kernel
theorem dX0_extend_17 : decode cX0_extend 17 = .ok (.iload 4, 2) := by decide +kernel
theorem dX0_extend_19 : decode cX0_extend 19 = .ok (.iload_n 1, 1) := by decide +kernel
theorem dX0_extend_20 : decode cX0_extend 20 = .ok (.iastore, 1) := by decide +kernel
theorem dX0_extend_21 : decode cX0_extend 21 = .ok (.aload_n 0, 1) := by decide +kernel
theorem dX0_extend_22 : decode cX0_extend 22 = .ok (.getfield 18, 3) := by decide +kernel
theorem dX0_extend_25 : decode cX0_extend 25 = .ok (.iload 4, 2) := by decide +kernel
theorem dX0_extend_27 : decode cX0_extend 27 = .ok (.dup2, 1) := by decide +kernel
theorem dX0_extend_28 : decode cX0_extend 28 = .ok (.iaload, 1) := by decide +kernel
theorem dX0_extend_29 : decode cX0_extend 29 = .ok (.iconst 1, 1) := by decide +kernel
theorem dX0_extend_30 : decode cX0_extend 30 = .ok (.iadd, 1) := by decide +kernel
theorem dX0_extend_31 : decode cX0_extend 31 = .ok (.iastore, 1) := by decide +kernel
theorem dX0_extend_32 : decode cX0_extend 32 = .ok (.aload_n 0, 1) := by decide +kernel
theorem dX0_extend_33 : decode cX0_extend 33 = .ok (.getfield 21, 3) := by decide +kernel
theorem dX0_extend_36 : decode cX0_extend 36 = .ok (.iload 4, 2) := by decide +kernel
theorem dX0_extend_38 : decode cX0_extend 38 = .ok (.aload_n 0, 1) := by decide +kernel
theorem dX0_extend_39 : decode cX0_extend 39 = .ok (.getfield 21, 3) := by decide +kernel
theorem dX0_extend_42 : decode cX0_extend 42 = .ok (.iload 4, 2) := by decide +kernel
theorem dX0_extend_44 : decode cX0_extend 44 = .ok (.iaload, 1) := by decide +kernel
theorem dX0_extend_45 : decode cX0_extend 45 = .ok (.iload_n 2, 1) := by decide +kernel
theorem dX0_extend_46 : decode cX0_extend 46 = .ok (.invokestatic 67, 3) := by decide +kernel
theorem dX0_extend_49 : decode cX0_extend 49 = .ok (.iastore, 1) := by decide +kernel
theorem dX0_extend_50 : decode cX0_extend 50 = .ok (.aload_n 0, 1) := by decide +kernel
theorem dX0_extend_51 : decode cX0_extend 51 = .ok (.getfield 24, 3) := by decide +kernel
theorem dX0_extend_54 : decode cX0_extend 54 = .ok (.iload 4, 2) := by decide +kernel
theorem dX0_extend_56 : decode cX0_extend 56 = .ok (.dup2, 1) := by decide +kernel
theorem dX0_extend_57 : decode cX0_extend 57 = .ok (.iaload, 1) := by decide +kernel
theorem dX0_extend_58 : decode cX0_extend 58 = .ok (.iload_n 3, 1) := by decide +kernel
theorem dX0_extend_59 : decode cX0_extend 59 = .ok (.iadd, 1) := by decide +kernel
theorem dX0_extend_60 : decode cX0_extend 60 = .ok (.iastore, 1) := by decide +kernel
theorem dX0_extend_61 : decode cX0_extend 61 = .ok (.return_, 1) := by decide +kernel
set_option maxHeartbeats 4000000 in
set_option maxRecDepth 100000 in
theorem c_X0_extend (w : WT) (l : Launch) (hw : WOK w) {b0 : Nat} (hb0 : isEx b0) {a1 : Int32} {a2 : Int32} {a3 : Int32} {M : Mem} {L : Lng} {out : Mem} (hf : f_X0_extend b0 a1 a2 a3 M = some out) : Met l yX0_extend (Cond.code yX0_extend cX0_extend 5 none :: BG) ({ frames := 1, cells := 0, slots := 0, locals := 21 } : Room) (PRE w [.ref (wAd w b0), .int a1, .int a2, .int a3] M L) (QV w out L) 0 0 (wA w) := by
  refine kEnt hw (by decide +kernel) rfl (Nat.le_of_ble_eq_true rfl) ?_
  intro p e s m args below meth c C ls hl hP
  have hS : va_S (wA w) s.heap s.heap [] := va_S.rf
  have hl : lv_has ls 5 [(0, .ref (wAd w b0)), (1, .int a1), (2, .int a2), (3, .int a3)] := hl
  unfold f_X0_extend at hf
  refine lv_aload_n C.1 C.2.1 dX0_extend_0 rfl (lv_at hl 0 rfl) ?_
  refine k_get (v := .int (M b0 6)) C hP (C9 C (lt_Exceedances hb0)) (ob_Exceedances hb0 w L _) rfl iX0 6 (by decide) q196 rfl dX0_extend_1 ?_
  refine lv_iconst (v := 1) C.1 C.2.1 dX0_extend_4 (by decide) ?_
  refine lv_isub C.1 C.2.1 dX0_extend_5 ?_
  refine lv_istore (lv' := [(4, .int ((M b0 6) - 1)), (0, .ref (wAd w b0)), (1, .int a1), (2, .int a2), (3, .int a3)]) C.1 C.2.1 dX0_extend_6 hl (by decide) rfl (fun ls hl => ?_)
  refine lv_iload C.1 C.2.1 dX0_extend_8 (lv_at hl 0 rfl) ?_
  refine lv_if_lt (tgt := 61) C.1 C.2.1 dX0_extend_10 (by decide) (fun c1 => ?_) (fun c1 => ?_)
  · have hf := (if_pos c1).symm.trans hf
    cases hf
    exact krv C hP hS dX0_extend_61
  · have hf := (if_neg c1).symm.trans hf
    refine lv_aload_n C.1 C.2.1 dX0_extend_13 rfl (lv_at hl 1 rfl) ?_
    refine k_get (v := .ref (wAd w (b0 + 2))) C hP (C9 C (lt_Exceedances hb0)) (ob_Exceedances hb0 w L _) rfl iX0 1 (by decide) q184 rfl dX0_extend_14 ?_
    refine lv_iload C.1 C.2.1 dX0_extend_17 (lv_at hl 0 rfl) ?_
    refine lv_iload_n C.1 C.2.1 dX0_extend_19 rfl (lv_at hl 2 rfl) ?_
    obtain ⟨M2, hM2, hf⟩ := ob hf
    refine k_iast C hP hS (C9 C (la_Exceedances_ends hb0)) (ar_Exceedances_ends hb0 w L) hM2 dX0_extend_20 (fun H locs hP hS => ?_)
    refine lv_aload_n C.1 C.2.1 dX0_extend_21 rfl (lv_at hl 1 rfl) ?_
    refine k_get (v := .ref (wAd w (b0 + 3))) C hP (C9 C (lt_Exceedances hb0)) (ob_Exceedances hb0 w L _) rfl iX0 2 (by decide) q187 rfl dX0_extend_22 ?_
    refine lv_iload C.1 C.2.1 dX0_extend_25 (lv_at hl 0 rfl) ?_
    refine lv_dup2_11 C.1 C.2.1 dX0_extend_27 rfl rfl ?_
    obtain ⟨x3, hx3, hf⟩ := ob hf
    refine k_iald C hP (C9 C (la_Exceedances_aboves hb0)) (ar_Exceedances_aboves hb0 w L _) hx3 dX0_extend_28 ?_
    refine lv_iconst (v := 1) C.1 C.2.1 dX0_extend_29 (by decide) ?_
    refine lv_iadd C.1 C.2.1 dX0_extend_30 ?_
    obtain ⟨M4, hM4, hf⟩ := ob hf
    refine k_iast C hP hS (C9 C (la_Exceedances_aboves hb0)) (ar_Exceedances_aboves hb0 w L) hM4 dX0_extend_31 (fun H locs hP hS => ?_)
    refine lv_aload_n C.1 C.2.1 dX0_extend_32 rfl (lv_at hl 1 rfl) ?_
    refine k_get (v := .ref (wAd w (b0 + 4))) C hP (C9 C (lt_Exceedances hb0)) (ob_Exceedances hb0 w L _) rfl iX0 3 (by decide) q189 rfl dX0_extend_33 ?_
    refine lv_iload C.1 C.2.1 dX0_extend_36 (lv_at hl 0 rfl) ?_
    refine lv_aload_n C.1 C.2.1 dX0_extend_38 rfl (lv_at hl 1 rfl) ?_
    refine k_get (v := .ref (wAd w (b0 + 4))) C hP (C9 C (lt_Exceedances hb0)) (ob_Exceedances hb0 w L _) rfl iX0 3 (by decide) q189 rfl dX0_extend_39 ?_
    refine lv_iload C.1 C.2.1 dX0_extend_42 (lv_at hl 0 rfl) ?_
    obtain ⟨x5, hx5, hf⟩ := ob hf
    refine k_iald C hP (C9 C (la_Exceedances_peaks hb0)) (ar_Exceedances_peaks hb0 w L _) hx5 dX0_extend_44 ?_
    refine lv_iload_n C.1 C.2.1 dX0_extend_45 rfl (lv_at hl 3 rfl) ?_
    refine k_max C hl.1 q573 q574 q15 q575 (Nat.le_of_ble_eq_true rfl) (Nat.le_of_ble_eq_true rfl) (Nat.zero_le _) (Nat.zero_le _) dX0_extend_46 ?_
    obtain ⟨M6, hM6, hf⟩ := ob hf
    refine k_iast C hP hS (C9 C (la_Exceedances_peaks hb0)) (ar_Exceedances_peaks hb0 w L) hM6 dX0_extend_49 (fun H locs hP hS => ?_)
    refine lv_aload_n C.1 C.2.1 dX0_extend_50 rfl (lv_at hl 1 rfl) ?_
    refine k_get (v := .ref (wAd w (b0 + 5))) C hP (C9 C (lt_Exceedances hb0)) (ob_Exceedances hb0 w L _) rfl iX0 4 (by decide) q192 rfl dX0_extend_51 ?_
    refine lv_iload C.1 C.2.1 dX0_extend_54 (lv_at hl 0 rfl) ?_
    refine lv_dup2_11 C.1 C.2.1 dX0_extend_56 rfl rfl ?_
    obtain ⟨x7, hx7, hf⟩ := ob hf
    refine k_iald C hP (C9 C (la_Exceedances_weights hb0)) (ar_Exceedances_weights hb0 w L _) hx7 dX0_extend_57 ?_
    refine lv_iload_n C.1 C.2.1 dX0_extend_58 rfl (lv_at hl 4 rfl) ?_
    refine lv_iadd C.1 C.2.1 dX0_extend_59 ?_
    obtain ⟨M8, hM8, hf⟩ := ob hf
    refine k_iast C hP hS (C9 C (la_Exceedances_weights hb0)) (ar_Exceedances_weights hb0 w L) hM8 dX0_extend_60 (fun H locs hP hS => ?_)
    cases hf
    exact krv C hP hS dX0_extend_61
theorem dX0_markOwners_0 : decode cX0_markOwners 0 = .ok (.iconst 0, 1) := by decide +kernel
theorem dX0_markOwners_1 : decode cX0_markOwners 1 = .ok (.istore_n 1, 1) := by decide +kernel
theorem dX0_markOwners_2 : decode cX0_markOwners 2 = .ok (.iload_n 1, 1) := by decide +kernel
theorem dX0_markOwners_3 : decode cX0_markOwners 3 = .ok (.aload_n 0, 1) := by decide +kernel
theorem dX0_markOwners_4 : decode cX0_markOwners 4 = .ok (.getfield 30, 3) := by decide +kernel
theorem dX0_markOwners_7 : decode cX0_markOwners 7 = .ok (.if_icmp .ge 39, 3) := by decide +kernel
theorem dX0_markOwners_10 : decode cX0_markOwners 10 = .ok (.aload_n 0, 1) := by decide +kernel
theorem dX0_markOwners_11 : decode cX0_markOwners 11 = .ok (.getfield 9, 3) := by decide +kernel
theorem dX0_markOwners_14 : decode cX0_markOwners 14 = .ok (.iload_n 1, 1) := by decide +kernel
theorem dX0_markOwners_15 : decode cX0_markOwners 15 = .ok (.iaload, 1) := by decide +kernel
theorem dX0_markOwners_16 : decode cX0_markOwners 16 = .ok (.istore_n 2, 1) := by decide +kernel
theorem dX0_markOwners_17 : decode cX0_markOwners 17 = .ok (.iload_n 2, 1) := by decide +kernel
theorem dX0_markOwners_18 : decode cX0_markOwners 18 = .ok (.aload_n 0, 1) := by decide +kernel
theorem dX0_markOwners_19 : decode cX0_markOwners 19 = .ok (.getfield 15, 3) := by decide +kernel
theorem dX0_markOwners_22 : decode cX0_markOwners 22 = .ok (.iload_n 1, 1) := by decide +kernel
theorem dX0_markOwners_23 : decode cX0_markOwners 23 = .ok (.iaload, 1) := by decide +kernel
theorem dX0_markOwners_24 : decode cX0_markOwners 24 = .ok (.if_icmp .gt 16, 3) := by decide +kernel
theorem dX0_markOwners_27 : decode cX0_markOwners 27 = .ok (.aload_n 0, 1) := by decide +kernel
theorem dX0_markOwners_28 : decode cX0_markOwners 28 = .ok (.getfield 27, 3) := by decide +kernel
theorem dX0_markOwners_31 : decode cX0_markOwners 31 = .ok (.iload_n 2, 1) := by decide +kernel
theorem dX0_markOwners_32 : decode cX0_markOwners 32 = .ok (.iload_n 1, 1) := by decide +kernel
theorem dX0_markOwners_33 : decode cX0_markOwners 33 = .ok (.iastore, 1) := by decide +kernel
theorem dX0_markOwners_34 : decode cX0_markOwners 34 = .ok (.iinc 2 1, 3) := by decide +kernel
theorem dX0_markOwners_37 : decode cX0_markOwners 37 = .ok (.goto (-20), 3) := by decide +kernel
theorem dX0_markOwners_40 : decode cX0_markOwners 40 = .ok (.iinc 1 1, 3) := by decide +kernel
theorem dX0_markOwners_43 : decode cX0_markOwners 43 = .ok (.goto (-41), 3) := by decide +kernel
theorem dX0_markOwners_46 : decode cX0_markOwners 46 = .ok (.return_, 1) := by decide +kernel
set_option maxHeartbeats 4000000 in
set_option maxRecDepth 100000 in
theorem w_X0_markOwners_l17 {b0 : Nat} {w : WT} {l : Launch} {p : Program} {e : Env} {s : State} {m : MethodId} {args : Array Value} {below : List Frame} {meth : Method} {c : Code} (C : KC w p s m args meth c cX0_markOwners 3 RX0 none) (hb0 : isEx b0) {v1 : Int32} {L : Lng} {Q : State → Prop} (z : Int32 × Mem) (o : (Int32 × Mem) ⊕ (Mem)) (hf : f_X0_markOwners_l17 b0 v1 z = some o) (hA : ∀ z, o = .inl z → AtL w p l e ({ frames := 0, cells := 0, slots := 0, locals := 0 } : Room) s m args below meth c Q 3 17 z.2 L [(0, .ref (wAd w b0)), (1, .int v1), (2, .int z.1)] []) (hE : ∀ y, o = .inr y → AtL w p l e ({ frames := 0, cells := 0, slots := 0, locals := 0 } : Room) s m args below meth c Q 3 40 y L [(0, .ref (wAd w b0)), (1, .int v1)] []) : AtL w p l e ({ frames := 0, cells := 0, slots := 0, locals := 0 } : Room) s m args below meth c Q 3 17 z.2 L [(0, .ref (wAd w b0)), (1, .int v1), (2, .int z.1)] [] := by
  intro H locs ls hP hS hl
  unfold f_X0_markOwners_l17 at hf
  refine lv_iload_n C.1 C.2.1 dX0_markOwners_17 rfl (lv_at hl 2 rfl) ?_
  refine lv_aload_n C.1 C.2.1 dX0_markOwners_18 rfl (lv_at hl 0 rfl) ?_
  refine k_get (v := .ref (wAd w (b0 + 2))) C hP (C9 C (lt_Exceedances hb0)) (ob_Exceedances hb0 w L _) rfl iX0 1 (by decide) q184 rfl dX0_markOwners_19 ?_
  refine lv_iload_n C.1 C.2.1 dX0_markOwners_22 rfl (lv_at hl 1 rfl) ?_
  obtain ⟨x3, hx3, hf⟩ := ob hf
  refine k_iald C hP (C9 C (la_Exceedances_ends hb0)) (ar_Exceedances_ends hb0 w L _) hx3 dX0_markOwners_23 ?_
  refine lv_icmp_gt (tgt := 40) C.1 C.2.1 dX0_markOwners_24 (by decide) (fun c4 => ?_) (fun c4 => ?_)
  · have hf := (if_pos c4).symm.trans hf
    cases hf
    exact hE _ rfl _ _ _ hP hS (lv_sub hl [0, 1] rfl)
  · have hf := (if_neg c4).symm.trans hf
    refine lv_aload_n C.1 C.2.1 dX0_markOwners_27 rfl (lv_at hl 0 rfl) ?_
    refine k_get (v := .ref (wAd w (b0 + 6))) C hP (C9 C (lt_Exceedances hb0)) (ob_Exceedances hb0 w L _) rfl iX0 5 (by decide) q194 rfl dX0_markOwners_28 ?_
    refine lv_iload_n C.1 C.2.1 dX0_markOwners_31 rfl (lv_at hl 2 rfl) ?_
    refine lv_iload_n C.1 C.2.1 dX0_markOwners_32 rfl (lv_at hl 1 rfl) ?_
    obtain ⟨M5, hM5, hf⟩ := ob hf
    refine k_iast C hP hS (C9 C (la_Exceedances_ownerOf hb0)) (ar_Exceedances_ownerOf hb0 w L) hM5 dX0_markOwners_33 (fun H locs hP hS => ?_)
    refine lv_iinc (v := (z.1 + 1)) (lv' := [(2, .int (z.1 + 1)), (0, .ref (wAd w b0)), (1, .int v1)]) C.1 C.2.1 dX0_markOwners_34 hl (k := 2) rfl rfl (by decide) rfl (fun ls hl => ?_)
    refine lv_goto (tgt := 17) C.1 C.2.1 dX0_markOwners_37 (by decide) ?_
    cases hf
    exact hA _ rfl _ _ _ hP hS (lv_sub hl [1, 2, 0] rfl)
set_option maxHeartbeats 4000000 in
set_option maxRecDepth 100000 in
theorem w_X0_markOwners_l2 {b0 : Nat} {w : WT} {l : Launch} {p : Program} {e : Env} {s : State} {m : MethodId} {args : Array Value} {below : List Frame} {meth : Method} {c : Code} (C : KC w p s m args meth c cX0_markOwners 3 RX0 none) (hb0 : isEx b0) {L : Lng} {Q : State → Prop} (z : Int32 × Mem) (o : (Int32 × Mem) ⊕ (Mem)) (hf : f_X0_markOwners_l2 b0 z = some o) (hA : ∀ z, o = .inl z → AtL w p l e ({ frames := 0, cells := 0, slots := 0, locals := 0 } : Room) s m args below meth c Q 3 2 z.2 L [(0, .ref (wAd w b0)), (1, .int z.1)] []) (hE : ∀ y, o = .inr y → AtL w p l e ({ frames := 0, cells := 0, slots := 0, locals := 0 } : Room) s m args below meth c Q 3 46 y L [] []) : AtL w p l e ({ frames := 0, cells := 0, slots := 0, locals := 0 } : Room) s m args below meth c Q 3 2 z.2 L [(0, .ref (wAd w b0)), (1, .int z.1)] [] := by
  intro H locs ls hP hS hl
  unfold f_X0_markOwners_l2 at hf
  refine lv_iload_n C.1 C.2.1 dX0_markOwners_2 rfl (lv_at hl 1 rfl) ?_
  refine lv_aload_n C.1 C.2.1 dX0_markOwners_3 rfl (lv_at hl 0 rfl) ?_
  refine k_get (v := .int (z.2 b0 6)) C hP (C9 C (lt_Exceedances hb0)) (ob_Exceedances hb0 w L _) rfl iX0 6 (by decide) q196 rfl dX0_markOwners_4 ?_
  refine lv_icmp_ge (tgt := 46) C.1 C.2.1 dX0_markOwners_7 (by decide) (fun c1 => ?_) (fun c1 => ?_)
  · have hf := (if_pos c1).symm.trans hf
    cases hf
    exact hE _ rfl _ _ _ hP hS (lv_sub hl [] rfl)
  · have hf := (if_neg c1).symm.trans hf
    refine lv_aload_n C.1 C.2.1 dX0_markOwners_10 rfl (lv_at hl 0 rfl) ?_
    refine k_get (v := .ref (wAd w (b0 + 1))) C hP (C9 C (lt_Exceedances hb0)) (ob_Exceedances hb0 w L _) rfl iX0 0 (by decide) q181 rfl dX0_markOwners_11 ?_
    refine lv_iload_n C.1 C.2.1 dX0_markOwners_14 rfl (lv_at hl 1 rfl) ?_
    obtain ⟨x2, hx2, hf⟩ := ob hf
    refine k_iald C hP (C9 C (la_Exceedances_begins hb0)) (ar_Exceedances_begins hb0 w L _) hx2 dX0_markOwners_15 ?_
    refine lv_istore_n (lv' := [(2, .int x2), (0, .ref (wAd w b0)), (1, .int z.1)]) C.1 C.2.1 dX0_markOwners_16 rfl hl (by decide) rfl (fun ls hl => ?_)
    obtain ⟨o6, ho6, hf⟩ := ob hf
    refine loop_at (w_X0_markOwners_l17 C hb0) FU _ o6 ho6 ?_ _ _ _ hP hS (lv_sub hl [1, 2, 0] rfl)
    intro H locs ls hP hS hl
    refine lv_iinc (v := (z.1 + 1)) (lv' := [(1, .int (z.1 + 1)), (0, .ref (wAd w b0))]) C.1 C.2.1 dX0_markOwners_40 hl (k := 1) rfl rfl (by decide) rfl (fun ls hl => ?_)
    refine lv_goto (tgt := 2) C.1 C.2.1 dX0_markOwners_43 (by decide) ?_
    cases hf
    exact hA _ rfl _ _ _ hP hS (lv_sub hl [1, 0] rfl)
set_option maxHeartbeats 4000000 in
set_option maxRecDepth 100000 in
theorem c_X0_markOwners (w : WT) (l : Launch) (hw : WOK w) {b0 : Nat} (hb0 : isEx b0) {M : Mem} {L : Lng} {out : Mem} (hf : f_X0_markOwners b0 M = some out) : Met l yX0_markOwners (Cond.code yX0_markOwners cX0_markOwners 3 none :: BG) ({ frames := 0, cells := 0, slots := 0, locals := 0 } : Room) (PRE w [.ref (wAd w b0)] M L) (QV w out L) 0 0 (wA w) := by
  refine kEnt hw (by decide +kernel) rfl (Nat.le_of_ble_eq_true rfl) ?_
  intro p e s m args below meth c C ls hl hP
  have hS : va_S (wA w) s.heap s.heap [] := va_S.rf
  have hl : lv_has ls 3 [(0, .ref (wAd w b0))] := hl
  unfold f_X0_markOwners at hf
  refine lv_iconst (v := 0) C.1 C.2.1 dX0_markOwners_0 (by decide) ?_
  refine lv_istore_n (lv' := [(1, .int 0), (0, .ref (wAd w b0))]) C.1 C.2.1 dX0_markOwners_1 rfl hl (by decide) rfl (fun ls hl => ?_)
  obtain ⟨o7, ho7, hf⟩ := ob hf
  refine loop_at (w_X0_markOwners_l2 C hb0) FU _ o7 ho7 ?_ _ _ _ hP hS (lv_sub hl [1, 0] rfl)
  intro H locs ls hP hS hl
  cases hf
  exact krv C hP hS dX0_markOwners_46
theorem dX0_find_0 : decode cX0_find 0 = .ok (.aload_n 2, 1) := by decide +kernel
theorem dX0_find_1 : decode cX0_find 1 = .ok (.bipush 6, 2) := by decide +kernel
theorem dX0_find_3 : decode cX0_find 3 = .ok (.iaload, 1) := by decide +kernel
theorem dX0_find_4 : decode cX0_find 4 = .ok (.istore_n 3, 1) := by decide +kernel
theorem dX0_find_5 : decode cX0_find 5 = .ok (.iload_n 3, 1) := by decide +kernel
theorem dX0_find_6 : decode cX0_find 6 = .ok (.istore 4, 2) := by decide +kernel
theorem dX0_find_8 : decode cX0_find 8 = .ok (.aload_n 0, 1) := by decide +kernel
theorem dX0_find_9 : decode cX0_find 9 = .ok (.iconst 0, 1) := by decide +kernel
theorem dX0_find_10 : decode cX0_find 10 = .ok (.putfield 30, 3) := by decide +kernel
theorem dX0_find_13 : decode cX0_find 13 = .ok (.iconst 0, 1) := by decide +kernel
theorem dX0_find_14 : decode cX0_find 14 = .ok (.istore 5, 2) := by decide +kernel
theorem dX0_find_16 : decode cX0_find 16 = .ok (.iload 5, 2) := by decide +kernel
theorem dX0_find_18 : decode cX0_find 18 = .ok (.aload_n 1, 1) := by decide +kernel
theorem dX0_find_19 : decode cX0_find 19 = .ok (.getfield 34, 3) := by decide +kernel
theorem dX0_find_22 : decode cX0_find 22 = .ok (.if_icmp .ge 82, 3) := by decide +kernel
theorem dX0_find_25 : decode cX0_find 25 = .ok (.aload_n 0, 1) := by decide +kernel
theorem dX0_find_26 : decode cX0_find 26 = .ok (.getfield 27, 3) := by decide +kernel
theorem dX0_find_29 : decode cX0_find 29 = .ok (.iload 5, 2) := by decide +kernel
theorem dX0_find_31 : decode cX0_find 31 = .ok (.iconst (-1), 1) := by decide +kernel
theorem dX0_find_32 : decode cX0_find 32 = .ok (.iastore, 1) := by decide +kernel
theorem dX0_find_33 : decode cX0_find 33 = .ok (.aload_n 1, 1) := by decide +kernel
theorem dX0_find_34 : decode cX0_find 34 = .ok (.getfield 39, 3) := by decide +kernel
theorem dX0_find_37 : decode cX0_find 37 = .ok (.iload 5, 2) := by decide +kernel
theorem dX0_find_39 : decode cX0_find 39 = .ok (.iaload, 1) := by decide +kernel
theorem dX0_find_40 : decode cX0_find 40 = .ok (.ifCond .ne 55, 3) := by decide +kernel
theorem dX0_find_43 : decode cX0_find 43 = .ok (.iload 4, 2) := by decide +kernel
theorem dX0_find_45 : decode cX0_find 45 = .ok (.iload_n 3, 1) := by decide +kernel
theorem dX0_find_46 : decode cX0_find 46 = .ok (.if_icmp .lt 9, 3) := by decide +kernel
theorem dX0_find_49 : decode cX0_find 49 = .ok (.aload_n 0, 1) := by decide +kernel
theorem dX0_find_50 : decode cX0_find 50 = .ok (.iload 5, 2) := by decide +kernel
theorem dX0_find_52 : decode cX0_find 52 = .ok (.invokevirtual 42, 3) := by decide +kernel
theorem dX0_find_55 : decode cX0_find 55 = .ok (.iconst 0, 1) := by decide +kernel
theorem dX0_find_56 : decode cX0_find 56 = .ok (.istore 4, 2) := by decide +kernel
theorem dX0_find_58 : decode cX0_find 58 = .ok (.aload_n 1, 1) := by decide +kernel
theorem dX0_find_59 : decode cX0_find 59 = .ok (.getfield 46, 3) := by decide +kernel
theorem dX0_find_62 : decode cX0_find 62 = .ok (.iload 5, 2) := by decide +kernel
theorem dX0_find_64 : decode cX0_find 64 = .ok (.iaload, 1) := by decide +kernel
theorem dX0_find_65 : decode cX0_find 65 = .ok (.bipush 10, 2) := by decide +kernel
theorem dX0_find_67 : decode cX0_find 67 = .ok (.iload 5, 2) := by decide +kernel
theorem dX0_find_69 : decode cX0_find 69 = .ok (.aload_n 2, 1) := by decide +kernel
theorem dX0_find_70 : decode cX0_find 70 = .ok (.invokestatic 49, 3) := by decide +kernel
theorem dX0_find_73 : decode cX0_find 73 = .ok (.imul, 1) := by decide +kernel
theorem dX0_find_74 : decode cX0_find 74 = .ok (.isub, 1) := by decide +kernel
theorem dX0_find_75 : decode cX0_find 75 = .ok (.istore 6, 2) := by decide +kernel
theorem dX0_find_77 : decode cX0_find 77 = .ok (.aload_n 0, 1) := by decide +kernel
theorem dX0_find_78 : decode cX0_find 78 = .ok (.iload 5, 2) := by decide +kernel
theorem dX0_find_80 : decode cX0_find 80 = .ok (.aload_n 1, 1) := by decide +kernel
theorem dX0_find_81 : decode cX0_find 81 = .ok (.getfield 53, 3) := by decide +kernel
theorem dX0_find_84 : decode cX0_find 84 = .ok (.iload 5, 2) := by decide +kernel
theorem dX0_find_86 : decode cX0_find 86 = .ok (.iaload, 1) := by decide +kernel
theorem dX0_find_87 : decode cX0_find 87 = .ok (.iload 6, 2) := by decide +kernel
theorem dX0_find_89 : decode cX0_find 89 = .ok (.invokevirtual 56, 3) := by decide +kernel
theorem dX0_find_92 : decode cX0_find 92 = .ok (.goto 6, 3) := by decide +kernel
theorem dX0_find_95 : decode cX0_find 95 = .ok (.iinc 4 1, 3) := by decide +kernel
theorem dX0_find_98 : decode cX0_find 98 = .ok (.iinc 5 1, 3) := by decide +kernel
theorem dX0_find_101 : decode cX0_find 101 = .ok (.goto (-85), 3) := by decide +kernel
theorem dX0_find_104 : decode cX0_find 104 = .ok (.aload_n 0, 1) := by decide +kernel
theorem dX0_find_105 : decode cX0_find 105 = .ok (.iload 4, 2) := by decide +kernel
theorem dX0_find_107 : decode cX0_find 107 = .ok (.iload_n 3, 1) := by decide +kernel
theorem dX0_find_108 : decode cX0_find 108 = .ok (.if_icmp .ge 7, 3) := by decide +kernel
theorem dX0_find_111 : decode cX0_find 111 = .ok (.iconst 1, 1) := by decide +kernel
theorem dX0_find_112 : decode cX0_find 112 = .ok (.goto 4, 3) := by decide +kernel
theorem dX0_find_115 : decode cX0_find 115 = .ok (.iconst 0, 1) := by decide +kernel
theorem dX0_find_116 : decode cX0_find 116 = .ok (.putfield 60, 3) := by decide +kernel
theorem dX0_find_119 : decode cX0_find 119 = .ok (.aload_n 0, 1) := by decide +kernel
theorem dX0_find_120 : decode cX0_find 120 = .ok (.invokevirtual 64, 3) := by decide +kernel
theorem dX0_find_123 : decode cX0_find 123 = .ok (.return_, 1) := by decide +kernel
set_option maxHeartbeats 4000000 in
set_option maxRecDepth 100000 in
theorem w_X0_find_j98 {b0 : Nat} {b1 : Nat} {g2 : Nat} {w : WT} {l : Launch} {p : Program} {e : Env} {s : State} {m : MethodId} {args : Array Value} {below : List Frame} {meth : Method} {c : Code} (C : KC w p s m args meth c cX0_find 7 RX0 none) (hb0 : isEx b0) (hb1 : isMn b1) (hg2 : isS g2) {v3 : Int32} {v4 : Int32} {v5 : Int32} {M : Mem} {L : Lng} {Q : State → Prop} {o : (Int32 × Int32 × Mem) ⊕ (Int32 × Mem)} (hf : f_X0_find_j98 b0 b1 g2 v3 v4 v5 M = some o) (hA : ∀ z, o = .inl z → AtL w p l e ({ frames := 3, cells := 0, slots := 0, locals := 64 } : Room) s m args below meth c Q 7 16 z.2.2 L [(0, .ref (wAd w b0)), (1, .ref (wAd w b1)), (2, .ref (wAd w g2)), (3, .int v3), (4, .int z.1), (5, .int z.2.1)] []) (hE : ∀ y, o = .inr y → AtL w p l e ({ frames := 3, cells := 0, slots := 0, locals := 64 } : Room) s m args below meth c Q 7 104 y.2 L [(0, .ref (wAd w b0)), (3, .int v3), (4, .int y.1)] []) : AtL w p l e ({ frames := 3, cells := 0, slots := 0, locals := 64 } : Room) s m args below meth c Q 7 98 M L [(0, .ref (wAd w b0)), (1, .ref (wAd w b1)), (2, .ref (wAd w g2)), (3, .int v3), (4, .int v4), (5, .int v5)] [] := by
  intro H locs ls hP hS hl
  unfold f_X0_find_j98 at hf
  refine lv_iinc (v := (v5 + 1)) (lv' := [(5, .int (v5 + 1)), (0, .ref (wAd w b0)), (1, .ref (wAd w b1)), (2, .ref (wAd w g2)), (3, .int v3), (4, .int v4)]) C.1 C.2.1 dX0_find_98 hl (k := 5) rfl rfl (by decide) rfl (fun ls hl => ?_)
  refine lv_goto (tgt := 16) C.1 C.2.1 dX0_find_101 (by decide) ?_
  cases hf
  exact hA _ rfl _ _ _ hP hS (lv_sub hl [1, 2, 3, 4, 5, 0] rfl)
set_option maxHeartbeats 4000000 in
set_option maxRecDepth 100000 in
theorem w_X0_find_j55 {b0 : Nat} {b1 : Nat} {g2 : Nat} {w : WT} {l : Launch} {p : Program} {e : Env} {s : State} {m : MethodId} {args : Array Value} {below : List Frame} {meth : Method} {c : Code} (C : KC w p s m args meth c cX0_find 7 RX0 none) (hb0 : isEx b0) (hb1 : isMn b1) (hg2 : isS g2) {v3 : Int32} {v5 : Int32} {M : Mem} {L : Lng} {Q : State → Prop} {o : (Int32 × Int32 × Mem) ⊕ (Int32 × Mem)} (hf : f_X0_find_j55 b0 b1 g2 v3 v5 M = some o) (hA : ∀ z, o = .inl z → AtL w p l e ({ frames := 3, cells := 0, slots := 0, locals := 64 } : Room) s m args below meth c Q 7 16 z.2.2 L [(0, .ref (wAd w b0)), (1, .ref (wAd w b1)), (2, .ref (wAd w g2)), (3, .int v3), (4, .int z.1), (5, .int z.2.1)] []) (hE : ∀ y, o = .inr y → AtL w p l e ({ frames := 3, cells := 0, slots := 0, locals := 64 } : Room) s m args below meth c Q 7 104 y.2 L [(0, .ref (wAd w b0)), (3, .int v3), (4, .int y.1)] []) : AtL w p l e ({ frames := 3, cells := 0, slots := 0, locals := 64 } : Room) s m args below meth c Q 7 55 M L [(0, .ref (wAd w b0)), (1, .ref (wAd w b1)), (2, .ref (wAd w g2)), (3, .int v3), (5, .int v5)] [] := by
  intro H locs ls hP hS hl
  unfold f_X0_find_j55 at hf
  refine lv_iconst (v := 0) C.1 C.2.1 dX0_find_55 (by decide) ?_
  refine lv_istore (lv' := [(4, .int 0), (0, .ref (wAd w b0)), (1, .ref (wAd w b1)), (2, .ref (wAd w g2)), (3, .int v3), (5, .int v5)]) C.1 C.2.1 dX0_find_56 hl (by decide) rfl (fun ls hl => ?_)
  refine lv_aload_n C.1 C.2.1 dX0_find_58 rfl (lv_at hl 2 rfl) ?_
  refine k_get (v := .ref (wAd w (b1 + 2))) C hP (C9 C (lt_Minutes hb1)) (ob_Minutes hb1 w L _) rfl iX4 1 (by decide) q140 rfl dX0_find_59 ?_
  refine lv_iload C.1 C.2.1 dX0_find_62 (lv_at hl 5 rfl) ?_
  obtain ⟨x8, hx8, hf⟩ := ob hf
  refine k_iald C hP (C9 C (la_Minutes_slow hb1)) (ar_Minutes_slow hb1 w L _) hx8 dX0_find_64 ?_
  refine lv_bipush (v := 10) C.1 C.2.1 dX0_find_65 (by decide) ?_
  refine lv_iload C.1 C.2.1 dX0_find_67 (lv_at hl 5 rfl) ?_
  refine lv_aload_n C.1 C.2.1 dX0_find_69 rfl (lv_at hl 3 rfl) ?_
  obtain ⟨r9, hr9, hf⟩ := ob hf
  refine kci (kSN (As := [.int v5, .ref (wAd w g2)]) (rest := [.int 10, .int x8]) C hl.1 hP hS (c_X8_limitAt w l C.2.2.2.2.2.2.2.2 hg2 (L := L) hr9) q435 nw4 q1 q434 hd_X8_limitAt ⟨rfl, rfl⟩ ⟨Nat.le_of_ble_eq_true rfl, Nat.le_of_ble_eq_true rfl⟩ rfl rfl (Nat.le_of_ble_eq_true rfl) dX0_find_70 ⟨Nat.zero_le _, Nat.zero_le _⟩) hS (fun H locs hP hS => ?_)
  refine lv_imul C.1 C.2.1 dX0_find_73 ?_
  refine lv_isub C.1 C.2.1 dX0_find_74 ?_
  refine lv_istore (lv' := [(6, .int (x8 - (10 * r9))), (4, .int 0), (0, .ref (wAd w b0)), (1, .ref (wAd w b1)), (2, .ref (wAd w g2)), (3, .int v3), (5, .int v5)]) C.1 C.2.1 dX0_find_75 hl (by decide) rfl (fun ls hl => ?_)
  refine lv_aload_n C.1 C.2.1 dX0_find_77 rfl (lv_at hl 2 rfl) ?_
  refine lv_iload C.1 C.2.1 dX0_find_78 (lv_at hl 6 rfl) ?_
  refine lv_aload_n C.1 C.2.1 dX0_find_80 rfl (lv_at hl 3 rfl) ?_
  refine k_get (v := .ref (wAd w (b1 + 1))) C hP (C9 C (lt_Minutes hb1)) (ob_Minutes hb1 w L _) rfl iX4 0 (by decide) q137 rfl dX0_find_81 ?_
  refine lv_iload C.1 C.2.1 dX0_find_84 (lv_at hl 6 rfl) ?_
  obtain ⟨x10, hx10, hf⟩ := ob hf
  refine k_iald C hP (C9 C (la_Minutes_fast hb1)) (ar_Minutes_fast hb1 w L _) hx10 dX0_find_86 ?_
  refine lv_iload C.1 C.2.1 dX0_find_87 (lv_at hl 0 rfl) ?_
  obtain ⟨r11, hr11, hf⟩ := ob hf
  refine kcv (kV (As := [.int v5, .int x10, .int (x8 - (10 * r9))]) (rest := []) C hl.1 hP hS (c_X0_extend w l C.2.2.2.2.2.2.2.2 hb0 (L := L) hr11) (gV q569 q571 qp6 q7 q572) hd_X0_extend (C9 C (lt_Exceedances hb0)) (ob_Exceedances hb0 w L _) rfl ⟨rfl, rfl⟩ ⟨Nat.le_of_ble_eq_true rfl, Nat.le_of_ble_eq_true rfl⟩ rfl rfl (Nat.le_of_ble_eq_true rfl) dX0_find_89 ⟨Nat.zero_le _, Nat.zero_le _⟩) hS (fun H locs hP hS => ?_)
  refine lv_goto (tgt := 98) C.1 C.2.1 dX0_find_92 (by decide) ?_
  exact w_X0_find_j98 C hb0 hb1 hg2 hf hA hE _ _ _ hP hS (lv_sub hl [2, 3, 4, 5, 1, 6] rfl)
set_option maxHeartbeats 4000000 in
set_option maxRecDepth 100000 in
theorem w_X0_find_l16 {b0 : Nat} {b1 : Nat} {g2 : Nat} {w : WT} {l : Launch} {p : Program} {e : Env} {s : State} {m : MethodId} {args : Array Value} {below : List Frame} {meth : Method} {c : Code} (C : KC w p s m args meth c cX0_find 7 RX0 none) (hb0 : isEx b0) (hb1 : isMn b1) (hg2 : isS g2) {v3 : Int32} {L : Lng} {Q : State → Prop} (z : Int32 × Int32 × Mem) (o : (Int32 × Int32 × Mem) ⊕ (Int32 × Mem)) (hf : f_X0_find_l16 b0 b1 g2 v3 z = some o) (hA : ∀ z, o = .inl z → AtL w p l e ({ frames := 3, cells := 0, slots := 0, locals := 64 } : Room) s m args below meth c Q 7 16 z.2.2 L [(0, .ref (wAd w b0)), (1, .ref (wAd w b1)), (2, .ref (wAd w g2)), (3, .int v3), (4, .int z.1), (5, .int z.2.1)] []) (hE : ∀ y, o = .inr y → AtL w p l e ({ frames := 3, cells := 0, slots := 0, locals := 64 } : Room) s m args below meth c Q 7 104 y.2 L [(0, .ref (wAd w b0)), (3, .int v3), (4, .int y.1)] []) : AtL w p l e ({ frames := 3, cells := 0, slots := 0, locals := 64 } : Room) s m args below meth c Q 7 16 z.2.2 L [(0, .ref (wAd w b0)), (1, .ref (wAd w b1)), (2, .ref (wAd w g2)), (3, .int v3), (4, .int z.1), (5, .int z.2.1)] [] := by
  intro H locs ls hP hS hl
  unfold f_X0_find_l16 at hf
  refine lv_iload C.1 C.2.1 dX0_find_16 (lv_at hl 5 rfl) ?_
  refine lv_aload_n C.1 C.2.1 dX0_find_18 rfl (lv_at hl 1 rfl) ?_
  refine k_get (v := .int (z.2.2 b1 3)) C hP (C9 C (lt_Minutes hb1)) (ob_Minutes hb1 w L _) rfl iX4 3 (by decide) q147 rfl dX0_find_19 ?_
  refine lv_icmp_ge (tgt := 104) C.1 C.2.1 dX0_find_22 (by decide) (fun c3 => ?_) (fun c3 => ?_)
  · have hf := (if_pos c3).symm.trans hf
    cases hf
    exact hE _ rfl _ _ _ hP hS (lv_sub hl [0, 3, 4] rfl)
  · have hf := (if_neg c3).symm.trans hf
    refine lv_aload_n C.1 C.2.1 dX0_find_25 rfl (lv_at hl 0 rfl) ?_
    refine k_get (v := .ref (wAd w (b0 + 6))) C hP (C9 C (lt_Exceedances hb0)) (ob_Exceedances hb0 w L _) rfl iX0 5 (by decide) q194 rfl dX0_find_26 ?_
    refine lv_iload C.1 C.2.1 dX0_find_29 (lv_at hl 5 rfl) ?_
    refine lv_iconst (v := (-1)) C.1 C.2.1 dX0_find_31 (by decide) ?_
    obtain ⟨M4, hM4, hf⟩ := ob hf
    refine k_iast C hP hS (C9 C (la_Exceedances_ownerOf hb0)) (ar_Exceedances_ownerOf hb0 w L) hM4 dX0_find_32 (fun H locs hP hS => ?_)
    refine lv_aload_n C.1 C.2.1 dX0_find_33 rfl (lv_at hl 1 rfl) ?_
    refine k_get (v := .ref (wAd w (b1 + 3))) C hP (C9 C (lt_Minutes hb1)) (ob_Minutes hb1 w L _) rfl iX4 2 (by decide) q144 rfl dX0_find_34 ?_
    refine lv_iload C.1 C.2.1 dX0_find_37 (lv_at hl 5 rfl) ?_
    obtain ⟨x5, hx5, hf⟩ := ob hf
    refine k_iald C hP (C9 C (la_Minutes_why hb1)) (ar_Minutes_why hb1 w L _) hx5 dX0_find_39 ?_
    refine lv_if_ne (tgt := 95) C.1 C.2.1 dX0_find_40 (by decide) (fun c6 => ?_) (fun c6 => ?_)
    · have hf := (if_neg c6).symm.trans hf
      refine lv_iinc (v := (z.1 + 1)) (lv' := [(4, .int (z.1 + 1)), (0, .ref (wAd w b0)), (1, .ref (wAd w b1)), (2, .ref (wAd w g2)), (3, .int v3), (5, .int z.2.1)]) C.1 C.2.1 dX0_find_95 hl (k := 4) rfl rfl (by decide) rfl (fun ls hl => ?_)
      exact w_X0_find_j98 C hb0 hb1 hg2 hf hA hE _ _ _ hP hS (lv_sub hl [1, 2, 3, 4, 0, 5] rfl)
    · have hf := (if_pos c6).symm.trans hf
      refine lv_iload C.1 C.2.1 dX0_find_43 (lv_at hl 4 rfl) ?_
      refine lv_iload_n C.1 C.2.1 dX0_find_45 rfl (lv_at hl 3 rfl) ?_
      refine lv_icmp_lt (tgt := 55) C.1 C.2.1 dX0_find_46 (by decide) (fun c7 => ?_) (fun c7 => ?_)
      · have hf := (if_pos c7).symm.trans hf
        exact w_X0_find_j55 C hb0 hb1 hg2 hf hA hE _ _ _ hP hS (lv_sub hl [0, 1, 2, 3, 5] rfl)
      · have hf := (if_neg c7).symm.trans hf
        refine lv_aload_n C.1 C.2.1 dX0_find_49 rfl (lv_at hl 0 rfl) ?_
        refine lv_iload C.1 C.2.1 dX0_find_50 (lv_at hl 5 rfl) ?_
        obtain ⟨r12, hr12, hf⟩ := ob hf
        refine kcv (kV (As := [.int z.2.1]) (rest := []) C hl.1 hP hS (c_X0_begin w l C.2.2.2.2.2.2.2.2 hb0 (L := L) hr12) (gV q564 q566 qp5 q7 q567) hd_X0_begin (C9 C (lt_Exceedances hb0)) (ob_Exceedances hb0 w L _) rfl ⟨rfl, rfl⟩ ⟨Nat.le_of_ble_eq_true rfl, Nat.le_of_ble_eq_true rfl⟩ rfl rfl (Nat.le_of_ble_eq_true rfl) dX0_find_52 ⟨Nat.zero_le _, Nat.zero_le _⟩) hS (fun H locs hP hS => ?_)
        exact w_X0_find_j55 C hb0 hb1 hg2 hf hA hE _ _ _ hP hS (lv_sub hl [0, 1, 2, 3, 5] rfl)
set_option maxHeartbeats 4000000 in
set_option maxRecDepth 100000 in
theorem w_X0_find_j116 {b0 : Nat} {b1 : Nat} {g2 : Nat} {w : WT} {l : Launch} {p : Program} {e : Env} {s : State} {m : MethodId} {args : Array Value} {below : List Frame} {meth : Method} {c : Code} (C : KC w p s m args meth c cX0_find 7 RX0 none) (hb0 : isEx b0) (hb1 : isMn b1) (hg2 : isS g2) {s1 : Int32} {M : Mem} {L : Lng} {out : Mem} (hf : f_X0_find_j116 b0 b1 g2 s1 M = some out) : AtL w p l e ({ frames := 3, cells := 0, slots := 0, locals := 64 } : Room) s m args below meth c (MQ below (QV w out L) args s 0 0 (wA w)) 7 116 M L [(0, .ref (wAd w b0))] [.int s1, .ref (wAd w b0)] := by
  intro H locs ls hP hS hl
  unfold f_X0_find_j116 at hf
  obtain ⟨M15, hM15, hf⟩ := ob hf
  refine k_putz C hP hS (C9 C (lt_Exceedances hb0)) (fun row => ob_Exceedances hb0 w L row) rfl iX0 tyX0 tyX0_ok nmX0 7 (by decide) q200 rfl rfl (Nat.le_of_ble_eq_true rfl) rfl hM15 dX0_find_116 (fun H locs hP hS => ?_)
  refine lv_aload_n C.1 C.2.1 dX0_find_119 rfl (lv_at hl 0 rfl) ?_
  obtain ⟨r16, hr16, hf⟩ := ob hf
  refine kcv (kV (As := []) (rest := []) C hl.1 hP hS (c_X0_markOwners w l C.2.2.2.2.2.2.2.2 hb0 (L := L) hr16) (gV q576 q578 qp7 q7 q579) hd_X0_markOwners (C9 C (lt_Exceedances hb0)) (ob_Exceedances hb0 w L _) rfl ⟨rfl, rfl⟩ ⟨Nat.le_of_ble_eq_true rfl, Nat.le_of_ble_eq_true rfl⟩ rfl rfl (Nat.le_of_ble_eq_true rfl) dX0_find_120 ⟨Nat.zero_le _, Nat.zero_le _⟩) hS (fun H locs hP hS => ?_)
  cases hf
  exact krv C hP hS dX0_find_123
set_option maxHeartbeats 4000000 in
set_option maxRecDepth 100000 in
theorem c_X0_find (w : WT) (l : Launch) (hw : WOK w) {b0 : Nat} {b1 : Nat} {g2 : Nat} (hb0 : isEx b0) (hb1 : isMn b1) (hg2 : isS g2) {M : Mem} {L : Lng} {out : Mem} (hf : f_X0_find b0 b1 g2 M = some out) : Met l yX0_find (Cond.code yX0_find cX0_find 7 none :: BG) ({ frames := 3, cells := 0, slots := 0, locals := 64 } : Room) (PRE w [.ref (wAd w b0), .ref (wAd w b1), .ref (wAd w g2)] M L) (QV w out L) 0 0 (wA w) := by
  refine kEnt hw (by decide +kernel) rfl (Nat.le_of_ble_eq_true rfl) ?_
  intro p e s m args below meth c C ls hl hP
  have hS : va_S (wA w) s.heap s.heap [] := va_S.rf
  have hl : lv_has ls 7 [(0, .ref (wAd w b0)), (1, .ref (wAd w b1)), (2, .ref (wAd w g2))] := hl
  unfold f_X0_find at hf
  refine lv_aload_n C.1 C.2.1 dX0_find_0 rfl (lv_at hl 2 rfl) ?_
  refine lv_bipush (v := 6) C.1 C.2.1 dX0_find_1 (by decide) ?_
  obtain ⟨x1, hx1, hf⟩ := ob hf
  refine k_iald C hP (C9 C (la_S hg2)) (ar_S hg2 w L _) hx1 dX0_find_3 ?_
  refine lv_istore_n (lv' := [(3, .int x1), (0, .ref (wAd w b0)), (1, .ref (wAd w b1)), (2, .ref (wAd w g2))]) C.1 C.2.1 dX0_find_4 rfl hl (by decide) rfl (fun ls hl => ?_)
  refine lv_iload_n C.1 C.2.1 dX0_find_5 rfl (lv_at hl 0 rfl) ?_
  refine lv_istore (lv' := [(4, .int x1), (3, .int x1), (0, .ref (wAd w b0)), (1, .ref (wAd w b1)), (2, .ref (wAd w g2))]) C.1 C.2.1 dX0_find_6 hl (by decide) rfl (fun ls hl => ?_)
  refine lv_aload_n C.1 C.2.1 dX0_find_8 rfl (lv_at hl 2 rfl) ?_
  refine lv_iconst (v := 0) C.1 C.2.1 dX0_find_9 (by decide) ?_
  obtain ⟨M2, hM2, hf⟩ := ob hf
  refine k_puti C hP hS (C9 C (lt_Exceedances hb0)) (fun row => ob_Exceedances hb0 w L row) rfl iX0 tyX0 tyX0_ok nmX0 6 (by decide) q196 rfl rfl (Nat.le_of_ble_eq_true rfl) rfl hM2 dX0_find_10 (fun H locs hP hS => ?_)
  refine lv_iconst (v := 0) C.1 C.2.1 dX0_find_13 (by decide) ?_
  refine lv_istore (lv' := [(5, .int 0), (4, .int x1), (3, .int x1), (0, .ref (wAd w b0)), (1, .ref (wAd w b1)), (2, .ref (wAd w g2))]) C.1 C.2.1 dX0_find_14 hl (by decide) rfl (fun ls hl => ?_)
  obtain ⟨o13, ho13, hf⟩ := ob hf
  refine loop_at (w_X0_find_l16 C hb0 hb1 hg2) FU _ o13 ho13 ?_ _ _ _ hP hS (lv_sub hl [3, 4, 5, 2, 1, 0] rfl)
  intro H locs ls hP hS hl
  refine lv_aload_n C.1 C.2.1 dX0_find_104 rfl (lv_at hl 0 rfl) ?_
  refine lv_iload C.1 C.2.1 dX0_find_105 (lv_at hl 2 rfl) ?_
  refine lv_iload_n C.1 C.2.1 dX0_find_107 rfl (lv_at hl 1 rfl) ?_
  refine lv_icmp_ge (tgt := 115) C.1 C.2.1 dX0_find_108 (by decide) (fun c14 => ?_) (fun c14 => ?_)
  · have hf := (if_pos c14).symm.trans hf
    refine lv_iconst (v := 0) C.1 C.2.1 dX0_find_115 (by decide) ?_
    exact w_X0_find_j116 C hb0 hb1 hg2 hf _ _ _ hP hS (lv_sub hl [0] rfl)
  · have hf := (if_neg c14).symm.trans hf
    refine lv_iconst (v := 1) C.1 C.2.1 dX0_find_111 (by decide) ?_
    refine lv_goto (tgt := 116) C.1 C.2.1 dX0_find_112 (by decide) ?_
    exact w_X0_find_j116 C hb0 hb1 hg2 hf _ _ _ hP hS (lv_sub hl [0] rfl)
theorem dX0_weightOfAll_0 : decode cX0_weightOfAll 0 = .ok (.iconst 0, 1) := by decide +kernel
theorem dX0_weightOfAll_1 : decode cX0_weightOfAll 1 = .ok (.istore_n 1, 1) := by decide +kernel
theorem dX0_weightOfAll_2 : decode cX0_weightOfAll 2 = .ok (.iconst 0, 1) := by decide +kernel
theorem dX0_weightOfAll_3 : decode cX0_weightOfAll 3 = .ok (.istore_n 2, 1) := by decide +kernel
theorem dX0_weightOfAll_4 : decode cX0_weightOfAll 4 = .ok (.iload_n 2, 1) := by decide +kernel
theorem dX0_weightOfAll_5 : decode cX0_weightOfAll 5 = .ok (.aload_n 0, 1) := by decide +kernel
theorem dX0_weightOfAll_6 : decode cX0_weightOfAll 6 = .ok (.getfield 30, 3) := by decide +kernel
theorem dX0_weightOfAll_9 : decode cX0_weightOfAll 9 = .ok (.if_icmp .ge 18, 3) := by decide +kernel
theorem dX0_weightOfAll_12 : decode cX0_weightOfAll 12 = .ok (.iload_n 1, 1) := by decide +kernel
theorem dX0_weightOfAll_13 : decode cX0_weightOfAll 13 = .ok (.aload_n 0, 1) := by decide +kernel
theorem dX0_weightOfAll_14 : decode cX0_weightOfAll 14 = .ok (.getfield 24, 3) := by decide +kernel
theorem dX0_weightOfAll_17 : decode cX0_weightOfAll 17 = .ok (.iload_n 2, 1) := by decide +kernel
theorem dX0_weightOfAll_18 : decode cX0_weightOfAll 18 = .ok (.iaload, 1) := by decide +kernel
theorem dX0_weightOfAll_19 : decode cX0_weightOfAll 19 = .ok (.iadd, 1) := by decide +kernel
theorem dX0_weightOfAll_20 : decode cX0_weightOfAll 20 = .ok (.istore_n 1, 1) := by decide +kernel
theorem dX0_weightOfAll_21 : decode cX0_weightOfAll 21 = .ok (.iinc 2 1, 3) := by decide +kernel
theorem dX0_weightOfAll_24 : decode cX0_weightOfAll 24 = .ok (.goto (-20), 3) := by decide +kernel
theorem dX0_weightOfAll_27 : decode cX0_weightOfAll 27 = .ok (.iload_n 1, 1) := by decide +kernel
theorem dX0_weightOfAll_28 : decode cX0_weightOfAll 28 = .ok (.ireturn, 1) := by decide +kernel
set_option maxHeartbeats 4000000 in
set_option maxRecDepth 100000 in
theorem w_X0_weightOfAll_l4 {b0 : Nat} {w : WT} {l : Launch} {p : Program} {e : Env} {s : State} {m : MethodId} {args : Array Value} {below : List Frame} {meth : Method} {c : Code} (C : KC w p s m args meth c cX0_weightOfAll 3 RX0 (some .int)) (hb0 : isEx b0) {M : Mem} {L : Lng} {Q : State → Prop} (z : Int32 × Int32) (o : (Int32 × Int32) ⊕ (Int32)) (hf : f_X0_weightOfAll_l4 b0 M z = some o) (hA : ∀ z, o = .inl z → AtL w p l e ({ frames := 0, cells := 0, slots := 0, locals := 0 } : Room) s m args below meth c Q 3 4 M L [(0, .ref (wAd w b0)), (1, .int z.1), (2, .int z.2)] []) (hE : ∀ y, o = .inr y → AtL w p l e ({ frames := 0, cells := 0, slots := 0, locals := 0 } : Room) s m args below meth c Q 3 27 M L [(1, .int y)] []) : AtL w p l e ({ frames := 0, cells := 0, slots := 0, locals := 0 } : Room) s m args below meth c Q 3 4 M L [(0, .ref (wAd w b0)), (1, .int z.1), (2, .int z.2)] [] := by
  intro H locs ls hP hS hl
  unfold f_X0_weightOfAll_l4 at hf
  refine lv_iload_n C.1 C.2.1 dX0_weightOfAll_4 rfl (lv_at hl 2 rfl) ?_
  refine lv_aload_n C.1 C.2.1 dX0_weightOfAll_5 rfl (lv_at hl 0 rfl) ?_
  refine k_get (v := .int (M b0 6)) C hP (C9 C (lt_Exceedances hb0)) (ob_Exceedances hb0 w L _) rfl iX0 6 (by decide) q196 rfl dX0_weightOfAll_6 ?_
  refine lv_icmp_ge (tgt := 27) C.1 C.2.1 dX0_weightOfAll_9 (by decide) (fun c1 => ?_) (fun c1 => ?_)
  · have hf := (if_pos c1).symm.trans hf
    cases hf
    exact hE _ rfl _ _ _ hP hS (lv_sub hl [1] rfl)
  · have hf := (if_neg c1).symm.trans hf
    refine lv_iload_n C.1 C.2.1 dX0_weightOfAll_12 rfl (lv_at hl 1 rfl) ?_
    refine lv_aload_n C.1 C.2.1 dX0_weightOfAll_13 rfl (lv_at hl 0 rfl) ?_
    refine k_get (v := .ref (wAd w (b0 + 5))) C hP (C9 C (lt_Exceedances hb0)) (ob_Exceedances hb0 w L _) rfl iX0 4 (by decide) q192 rfl dX0_weightOfAll_14 ?_
    refine lv_iload_n C.1 C.2.1 dX0_weightOfAll_17 rfl (lv_at hl 2 rfl) ?_
    obtain ⟨x2, hx2, hf⟩ := ob hf
    refine k_iald C hP (C9 C (la_Exceedances_weights hb0)) (ar_Exceedances_weights hb0 w L _) hx2 dX0_weightOfAll_18 ?_
    refine lv_iadd C.1 C.2.1 dX0_weightOfAll_19 ?_
    refine lv_istore_n (lv' := [(1, .int (z.1 + x2)), (0, .ref (wAd w b0)), (2, .int z.2)]) C.1 C.2.1 dX0_weightOfAll_20 rfl hl (by decide) rfl (fun ls hl => ?_)
    refine lv_iinc (v := (z.2 + 1)) (lv' := [(2, .int (z.2 + 1)), (1, .int (z.1 + x2)), (0, .ref (wAd w b0))]) C.1 C.2.1 dX0_weightOfAll_21 hl (k := 2) rfl rfl (by decide) rfl (fun ls hl => ?_)
    refine lv_goto (tgt := 4) C.1 C.2.1 dX0_weightOfAll_24 (by decide) ?_
    cases hf
    exact hA _ rfl _ _ _ hP hS (lv_sub hl [2, 1, 0] rfl)
set_option maxHeartbeats 4000000 in
set_option maxRecDepth 100000 in
theorem c_X0_weightOfAll (w : WT) (l : Launch) (hw : WOK w) {b0 : Nat} (hb0 : isEx b0) {M : Mem} {L : Lng} {out : Int32} (hf : f_X0_weightOfAll b0 M = some out) : Met l yX0_weightOfAll (Cond.code yX0_weightOfAll cX0_weightOfAll 3 (some .int) :: BG) ({ frames := 0, cells := 0, slots := 0, locals := 0 } : Room) (PRE w [.ref (wAd w b0)] M L) (QI w out M L) 0 0 (wA w) := by
  refine kEnt hw (by decide +kernel) rfl (Nat.le_of_ble_eq_true rfl) ?_
  intro p e s m args below meth c C ls hl hP
  have hS : va_S (wA w) s.heap s.heap [] := va_S.rf
  have hl : lv_has ls 3 [(0, .ref (wAd w b0))] := hl
  unfold f_X0_weightOfAll at hf
  refine lv_iconst (v := 0) C.1 C.2.1 dX0_weightOfAll_0 (by decide) ?_
  refine lv_istore_n (lv' := [(1, .int 0), (0, .ref (wAd w b0))]) C.1 C.2.1 dX0_weightOfAll_1 rfl hl (by decide) rfl (fun ls hl => ?_)
  refine lv_iconst (v := 0) C.1 C.2.1 dX0_weightOfAll_2 (by decide) ?_
  refine lv_istore_n (lv' := [(2, .int 0), (1, .int 0), (0, .ref (wAd w b0))]) C.1 C.2.1 dX0_weightOfAll_3 rfl hl (by decide) rfl (fun ls hl => ?_)
  obtain ⟨o3, ho3, hf⟩ := ob hf
  refine loop_at (w_X0_weightOfAll_l4 C hb0) FU _ o3 ho3 ?_ _ _ _ hP hS (lv_sub hl [2, 1, 0] rfl)
  intro H locs ls hP hS hl
  refine lv_iload_n C.1 C.2.1 dX0_weightOfAll_27 rfl (lv_at hl 0 rfl) ?_
  cases hf
  exact kri C hP hS dX0_weightOfAll_28
theorem dX0_heaviest_0 : decode cX0_heaviest 0 = .ok (.iconst (-1), 1) := by decide +kernel
theorem dX0_heaviest_1 : decode cX0_heaviest 1 = .ok (.istore_n 1, 1) := by decide +kernel
theorem dX0_heaviest_2 : decode cX0_heaviest 2 = .ok (.iconst 0, 1) := by decide +kernel
theorem dX0_heaviest_3 : decode cX0_heaviest 3 = .ok (.istore_n 2, 1) := by decide +kernel
theorem dX0_heaviest_4 : decode cX0_heaviest 4 = .ok (.iload_n 2, 1) := by decide +kernel
theorem dX0_heaviest_5 : decode cX0_heaviest 5 = .ok (.aload_n 0, 1) := by decide +kernel
theorem dX0_heaviest_6 : decode cX0_heaviest 6 = .ok (.getfield 30, 3) := by decide +kernel
theorem dX0_heaviest_9 : decode cX0_heaviest 9 = .ok (.if_icmp .ge 31, 3) := by decide +kernel
theorem dX0_heaviest_12 : decode cX0_heaviest 12 = .ok (.iload_n 1, 1) := by decide +kernel
theorem dX0_heaviest_13 : decode cX0_heaviest 13 = .ok (.iconst (-1), 1) := by decide +kernel
theorem dX0_heaviest_14 : decode cX0_heaviest 14 = .ok (.if_icmp .eq 18, 3) := by decide +kernel
theorem dX0_heaviest_17 : decode cX0_heaviest 17 = .ok (.aload_n 0, 1) := by decide +kernel
theorem dX0_heaviest_18 : decode cX0_heaviest 18 = .ok (.getfield 24, 3) := by decide +kernel
theorem dX0_heaviest_21 : decode cX0_heaviest 21 = .ok (.iload_n 2, 1) := by decide +kernel
theorem dX0_heaviest_22 : decode cX0_heaviest 22 = .ok (.iaload, 1) := by decide +kernel
theorem dX0_heaviest_23 : decode cX0_heaviest 23 = .ok (.aload_n 0, 1) := by decide +kernel
theorem dX0_heaviest_24 : decode cX0_heaviest 24 = .ok (.getfield 24, 3) := by decide +kernel
theorem dX0_heaviest_27 : decode cX0_heaviest 27 = .ok (.iload_n 1, 1) := by decide +kernel
theorem dX0_heaviest_28 : decode cX0_heaviest 28 = .ok (.iaload, 1) := by decide +kernel
theorem dX0_heaviest_29 : decode cX0_heaviest 29 = .ok (.if_icmp .le 5, 3) := by decide +kernel
theorem dX0_heaviest_32 : decode cX0_heaviest 32 = .ok (.iload_n 2, 1) := by decide +kernel
theorem dX0_heaviest_33 : decode cX0_heaviest 33 = .ok (.istore_n 1, 1) := by decide +kernel
theorem dX0_heaviest_34 : decode cX0_heaviest 34 = .ok (.iinc 2 1, 3) := by decide +kernel
theorem dX0_heaviest_37 : decode cX0_heaviest 37 = .ok (.goto (-33), 3) := by decide +kernel
theorem dX0_heaviest_40 : decode cX0_heaviest 40 = .ok (.iload_n 1, 1) := by decide +kernel
theorem dX0_heaviest_41 : decode cX0_heaviest 41 = .ok (.ireturn, 1) := by decide +kernel
set_option maxHeartbeats 4000000 in
set_option maxRecDepth 100000 in
theorem w_X0_heaviest_j34 {b0 : Nat} {w : WT} {l : Launch} {p : Program} {e : Env} {s : State} {m : MethodId} {args : Array Value} {below : List Frame} {meth : Method} {c : Code} (C : KC w p s m args meth c cX0_heaviest 3 RX0 (some .int)) (hb0 : isEx b0) {v1 : Int32} {v2 : Int32} {M : Mem} {L : Lng} {Q : State → Prop} {o : (Int32 × Int32) ⊕ (Int32)} (hf : f_X0_heaviest_j34 b0 v1 v2 M = some o) (hA : ∀ z, o = .inl z → AtL w p l e ({ frames := 0, cells := 0, slots := 0, locals := 0 } : Room) s m args below meth c Q 3 4 M L [(0, .ref (wAd w b0)), (1, .int z.1), (2, .int z.2)] []) (hE : ∀ y, o = .inr y → AtL w p l e ({ frames := 0, cells := 0, slots := 0, locals := 0 } : Room) s m args below meth c Q 3 40 M L [(1, .int y)] []) : AtL w p l e ({ frames := 0, cells := 0, slots := 0, locals := 0 } : Room) s m args below meth c Q 3 34 M L [(0, .ref (wAd w b0)), (1, .int v1), (2, .int v2)] [] := by
  intro H locs ls hP hS hl
  unfold f_X0_heaviest_j34 at hf
  refine lv_iinc (v := (v2 + 1)) (lv' := [(2, .int (v2 + 1)), (0, .ref (wAd w b0)), (1, .int v1)]) C.1 C.2.1 dX0_heaviest_34 hl (k := 2) rfl rfl (by decide) rfl (fun ls hl => ?_)
  refine lv_goto (tgt := 4) C.1 C.2.1 dX0_heaviest_37 (by decide) ?_
  cases hf
  exact hA _ rfl _ _ _ hP hS (lv_sub hl [1, 2, 0] rfl)
set_option maxHeartbeats 4000000 in
set_option maxRecDepth 100000 in
theorem w_X0_heaviest_j32 {b0 : Nat} {w : WT} {l : Launch} {p : Program} {e : Env} {s : State} {m : MethodId} {args : Array Value} {below : List Frame} {meth : Method} {c : Code} (C : KC w p s m args meth c cX0_heaviest 3 RX0 (some .int)) (hb0 : isEx b0) {v2 : Int32} {M : Mem} {L : Lng} {Q : State → Prop} {o : (Int32 × Int32) ⊕ (Int32)} (hf : f_X0_heaviest_j32 b0 v2 M = some o) (hA : ∀ z, o = .inl z → AtL w p l e ({ frames := 0, cells := 0, slots := 0, locals := 0 } : Room) s m args below meth c Q 3 4 M L [(0, .ref (wAd w b0)), (1, .int z.1), (2, .int z.2)] []) (hE : ∀ y, o = .inr y → AtL w p l e ({ frames := 0, cells := 0, slots := 0, locals := 0 } : Room) s m args below meth c Q 3 40 M L [(1, .int y)] []) : AtL w p l e ({ frames := 0, cells := 0, slots := 0, locals := 0 } : Room) s m args below meth c Q 3 32 M L [(0, .ref (wAd w b0)), (2, .int v2)] [] := by
  intro H locs ls hP hS hl
  unfold f_X0_heaviest_j32 at hf
  refine lv_iload_n C.1 C.2.1 dX0_heaviest_32 rfl (lv_at hl 1 rfl) ?_
  refine lv_istore_n (lv' := [(1, .int v2), (0, .ref (wAd w b0)), (2, .int v2)]) C.1 C.2.1 dX0_heaviest_33 rfl hl (by decide) rfl (fun ls hl => ?_)
  exact w_X0_heaviest_j34 C hb0 hf hA hE _ _ _ hP hS (lv_sub hl [1, 0, 2] rfl)
set_option maxHeartbeats 4000000 in
set_option maxRecDepth 100000 in
theorem w_X0_heaviest_l4 {b0 : Nat} {w : WT} {l : Launch} {p : Program} {e : Env} {s : State} {m : MethodId} {args : Array Value} {below : List Frame} {meth : Method} {c : Code} (C : KC w p s m args meth c cX0_heaviest 3 RX0 (some .int)) (hb0 : isEx b0) {M : Mem} {L : Lng} {Q : State → Prop} (z : Int32 × Int32) (o : (Int32 × Int32) ⊕ (Int32)) (hf : f_X0_heaviest_l4 b0 M z = some o) (hA : ∀ z, o = .inl z → AtL w p l e ({ frames := 0, cells := 0, slots := 0, locals := 0 } : Room) s m args below meth c Q 3 4 M L [(0, .ref (wAd w b0)), (1, .int z.1), (2, .int z.2)] []) (hE : ∀ y, o = .inr y → AtL w p l e ({ frames := 0, cells := 0, slots := 0, locals := 0 } : Room) s m args below meth c Q 3 40 M L [(1, .int y)] []) : AtL w p l e ({ frames := 0, cells := 0, slots := 0, locals := 0 } : Room) s m args below meth c Q 3 4 M L [(0, .ref (wAd w b0)), (1, .int z.1), (2, .int z.2)] [] := by
  intro H locs ls hP hS hl
  unfold f_X0_heaviest_l4 at hf
  refine lv_iload_n C.1 C.2.1 dX0_heaviest_4 rfl (lv_at hl 2 rfl) ?_
  refine lv_aload_n C.1 C.2.1 dX0_heaviest_5 rfl (lv_at hl 0 rfl) ?_
  refine k_get (v := .int (M b0 6)) C hP (C9 C (lt_Exceedances hb0)) (ob_Exceedances hb0 w L _) rfl iX0 6 (by decide) q196 rfl dX0_heaviest_6 ?_
  refine lv_icmp_ge (tgt := 40) C.1 C.2.1 dX0_heaviest_9 (by decide) (fun c1 => ?_) (fun c1 => ?_)
  · have hf := (if_pos c1).symm.trans hf
    cases hf
    exact hE _ rfl _ _ _ hP hS (lv_sub hl [1] rfl)
  · have hf := (if_neg c1).symm.trans hf
    refine lv_iload_n C.1 C.2.1 dX0_heaviest_12 rfl (lv_at hl 1 rfl) ?_
    refine lv_iconst (v := (-1)) C.1 C.2.1 dX0_heaviest_13 (by decide) ?_
    refine lv_icmp_eq (tgt := 32) C.1 C.2.1 dX0_heaviest_14 (by decide) (fun c2 => ?_) (fun c2 => ?_)
    · have hf := (if_pos c2).symm.trans hf
      exact w_X0_heaviest_j32 C hb0 hf hA hE _ _ _ hP hS (lv_sub hl [0, 2] rfl)
    · have hf := (if_neg c2).symm.trans hf
      refine lv_aload_n C.1 C.2.1 dX0_heaviest_17 rfl (lv_at hl 0 rfl) ?_
      refine k_get (v := .ref (wAd w (b0 + 5))) C hP (C9 C (lt_Exceedances hb0)) (ob_Exceedances hb0 w L _) rfl iX0 4 (by decide) q192 rfl dX0_heaviest_18 ?_
      refine lv_iload_n C.1 C.2.1 dX0_heaviest_21 rfl (lv_at hl 2 rfl) ?_
      obtain ⟨x3, hx3, hf⟩ := ob hf
      refine k_iald C hP (C9 C (la_Exceedances_weights hb0)) (ar_Exceedances_weights hb0 w L _) hx3 dX0_heaviest_22 ?_
      refine lv_aload_n C.1 C.2.1 dX0_heaviest_23 rfl (lv_at hl 0 rfl) ?_
      refine k_get (v := .ref (wAd w (b0 + 5))) C hP (C9 C (lt_Exceedances hb0)) (ob_Exceedances hb0 w L _) rfl iX0 4 (by decide) q192 rfl dX0_heaviest_24 ?_
      refine lv_iload_n C.1 C.2.1 dX0_heaviest_27 rfl (lv_at hl 1 rfl) ?_
      obtain ⟨x4, hx4, hf⟩ := ob hf
      refine k_iald C hP (C9 C (la_Exceedances_weights hb0)) (ar_Exceedances_weights hb0 w L _) hx4 dX0_heaviest_28 ?_
      refine lv_icmp_le (tgt := 34) C.1 C.2.1 dX0_heaviest_29 (by decide) (fun c5 => ?_) (fun c5 => ?_)
      · have hf := (if_pos c5).symm.trans hf
        exact w_X0_heaviest_j34 C hb0 hf hA hE _ _ _ hP hS hl
      · have hf := (if_neg c5).symm.trans hf
        exact w_X0_heaviest_j32 C hb0 hf hA hE _ _ _ hP hS (lv_sub hl [0, 2] rfl)
set_option maxHeartbeats 4000000 in
set_option maxRecDepth 100000 in
theorem c_X0_heaviest (w : WT) (l : Launch) (hw : WOK w) {b0 : Nat} (hb0 : isEx b0) {M : Mem} {L : Lng} {out : Int32} (hf : f_X0_heaviest b0 M = some out) : Met l yX0_heaviest (Cond.code yX0_heaviest cX0_heaviest 3 (some .int) :: BG) ({ frames := 0, cells := 0, slots := 0, locals := 0 } : Room) (PRE w [.ref (wAd w b0)] M L) (QI w out M L) 0 0 (wA w) := by
  refine kEnt hw (by decide +kernel) rfl (Nat.le_of_ble_eq_true rfl) ?_
  intro p e s m args below meth c C ls hl hP
  have hS : va_S (wA w) s.heap s.heap [] := va_S.rf
  have hl : lv_has ls 3 [(0, .ref (wAd w b0))] := hl
  unfold f_X0_heaviest at hf
  refine lv_iconst (v := (-1)) C.1 C.2.1 dX0_heaviest_0 (by decide) ?_
  refine lv_istore_n (lv' := [(1, .int (-1)), (0, .ref (wAd w b0))]) C.1 C.2.1 dX0_heaviest_1 rfl hl (by decide) rfl (fun ls hl => ?_)
  refine lv_iconst (v := 0) C.1 C.2.1 dX0_heaviest_2 (by decide) ?_
  refine lv_istore_n (lv' := [(2, .int 0), (1, .int (-1)), (0, .ref (wAd w b0))]) C.1 C.2.1 dX0_heaviest_3 rfl hl (by decide) rfl (fun ls hl => ?_)
  obtain ⟨o6, ho6, hf⟩ := ob hf
  refine loop_at (w_X0_heaviest_l4 C hb0) FU _ o6 ho6 ?_ _ _ _ hP hS (lv_sub hl [2, 1, 0] rfl)
  intro H locs ls hP hS hl
  refine lv_iload_n C.1 C.2.1 dX0_heaviest_40 rfl (lv_at hl 0 rfl) ?_
  cases hf
  exact kri C hP hS dX0_heaviest_41
theorem dX5_takeOver_0 : decode cX5_takeOver 0 = .ok (.aload_n 1, 1) := by decide +kernel
theorem dX5_takeOver_1 : decode cX5_takeOver 1 = .ok (.getfield 9, 3) := by decide +kernel
theorem dX5_takeOver_4 : decode cX5_takeOver 4 = .ok (.iconst 0, 1) := by decide +kernel
theorem dX5_takeOver_5 : decode cX5_takeOver 5 = .ok (.aload_n 0, 1) := by decide +kernel
theorem dX5_takeOver_6 : decode cX5_takeOver 6 = .ok (.getfield 9, 3) := by decide +kernel
theorem dX5_takeOver_9 : decode cX5_takeOver 9 = .ok (.iconst 0, 1) := by decide +kernel
theorem dX5_takeOver_10 : decode cX5_takeOver 10 = .ok (.sipush 200, 3) := by decide +kernel
theorem dX5_takeOver_13 : decode cX5_takeOver 13 = .ok (.invokestatic 45, 3) := by decide +kernel
theorem dX5_takeOver_16 : decode cX5_takeOver 16 = .ok (.aload_n 1, 1) := by decide +kernel
theorem dX5_takeOver_17 : decode cX5_takeOver 17 = .ok (.getfield 15, 3) := by decide +kernel
theorem dX5_takeOver_20 : decode cX5_takeOver 20 = .ok (.iconst 0, 1) := by decide +kernel
theorem dX5_takeOver_21 : decode cX5_takeOver 21 = .ok (.aload_n 0, 1) := by decide +kernel
theorem dX5_takeOver_22 : decode cX5_takeOver 22 = .ok (.getfield 15, 3) := by decide +kernel
theorem dX5_takeOver_25 : decode cX5_takeOver 25 = .ok (.iconst 0, 1) := by decide +kernel
theorem dX5_takeOver_26 : decode cX5_takeOver 26 = .ok (.sipush 200, 3) := by decide +kernel
theorem dX5_takeOver_29 : decode cX5_takeOver 29 = .ok (.invokestatic 45, 3) := by decide +kernel
theorem dX5_takeOver_32 : decode cX5_takeOver 32 = .ok (.aload_n 1, 1) := by decide +kernel
theorem dX5_takeOver_33 : decode cX5_takeOver 33 = .ok (.getfield 26, 3) := by decide +kernel
theorem dX5_takeOver_36 : decode cX5_takeOver 36 = .ok (.iconst 0, 1) := by decide +kernel
theorem dX5_takeOver_37 : decode cX5_takeOver 37 = .ok (.aload_n 0, 1) := by decide +kernel
theorem dX5_takeOver_38 : decode cX5_takeOver 38 = .ok (.getfield 26, 3) := by decide +kernel
theorem dX5_takeOver_41 : decode cX5_takeOver 41 = .ok (.iconst 0, 1) := by decide +kernel
theorem dX5_takeOver_42 : decode cX5_takeOver 42 = .ok (.bipush 10, 2) := by decide +kernel
theorem dX5_takeOver_44 : decode cX5_takeOver 44 = .ok (.invokestatic 45, 3) := by decide +kernel
theorem dX5_takeOver_47 : decode cX5_takeOver 47 = .ok (.aload_n 1, 1) := by decide +kernel
theorem dX5_takeOver_48 : decode cX5_takeOver 48 = .ok (.getfield 29, 3) := by decide +kernel
theorem dX5_takeOver_51 : decode cX5_takeOver 51 = .ok (.iconst 0, 1) := by decide +kernel
theorem dX5_takeOver_52 : decode cX5_takeOver 52 = .ok (.aload_n 0, 1) := by decide +kernel
theorem dX5_takeOver_53 : decode cX5_takeOver 53 = .ok (.getfield 29, 3) := by decide +kernel
theorem dX5_takeOver_56 : decode cX5_takeOver 56 = .ok (.iconst 0, 1) := by decide +kernel
theorem dX5_takeOver_57 : decode cX5_takeOver 57 = .ok (.bipush 20, 2) := by decide +kernel
theorem dX5_takeOver_59 : decode cX5_takeOver 59 = .ok (.invokestatic 45, 3) := by decide +kernel
theorem dX5_takeOver_62 : decode cX5_takeOver 62 = .ok (.aload_n 0, 1) := by decide +kernel
theorem dX5_takeOver_63 : decode cX5_takeOver 63 = .ok (.aload_n 1, 1) := by decide +kernel
theorem dX5_takeOver_64 : decode cX5_takeOver 64 = .ok (.getfield 32, 3) := by decide +kernel
theorem dX5_takeOver_67 : decode cX5_takeOver 67 = .ok (.putfield 32, 3) := by decide +kernel
theorem dX5_takeOver_70 : decode cX5_takeOver 70 = .ok (.aload_n 0, 1) := by decide +kernel
theorem dX5_takeOver_71 : decode cX5_takeOver 71 = .ok (.aload_n 1, 1) := by decide +kernel
theorem dX5_takeOver_72 : decode cX5_takeOver 72 = .ok (.getfield 36, 3) := by decide +kernel
theorem dX5_takeOver_75 : decode cX5_takeOver 75 = .ok (.putfield 36, 3) := by decide +kernel
theorem dX5_takeOver_78 : decode cX5_takeOver 78 = .ok (.return_, 1) := by decide +kernel
set_option maxHeartbeats 4000000 in
set_option maxRecDepth 100000 in
theorem c_X5_takeOver (w : WT) (l : Launch) (hw : WOK w) {b0 : Nat} {b1 : Nat} (hb0 : isSt b0) (hb1 : isSt b1) {M : Mem} {L : Lng} {out : Mem} (hf : f_X5_takeOver b0 b1 M = some out) : Met l yX5_takeOver (Cond.code yX5_takeOver cX5_takeOver 2 none :: BG) ({ frames := 1, cells := 0, slots := 0, locals := 40 } : Room) (PRE w [.ref (wAd w b0), .ref (wAd w b1)] M L) (QV w out L) 0 0 (wA w) := by
  refine kEnt hw (by decide +kernel) rfl (Nat.le_of_ble_eq_true rfl) ?_
  intro p e s m args below meth c C ls hl hP
  have hS : va_S (wA w) s.heap s.heap [] := va_S.rf
  have hl : lv_has ls 2 [(0, .ref (wAd w b0)), (1, .ref (wAd w b1))] := hl
  unfold f_X5_takeOver at hf
  refine lv_aload_n C.1 C.2.1 dX5_takeOver_0 rfl (lv_at hl 1 rfl) ?_
  refine k_get (v := .ref (wAd w (b1 + 1))) C hP (C9 C (lt_State hb1)) (ob_State hb1 w L _) rfl iX5 0 (by decide) q41 rfl dX5_takeOver_1 ?_
  refine lv_iconst (v := 0) C.1 C.2.1 dX5_takeOver_4 (by decide) ?_
  refine lv_aload_n C.1 C.2.1 dX5_takeOver_5 rfl (lv_at hl 0 rfl) ?_
  refine k_get (v := .ref (wAd w (b0 + 1))) C hP (C9 C (lt_State hb0)) (ob_State hb0 w L _) rfl iX5 0 (by decide) q41 rfl dX5_takeOver_6 ?_
  refine lv_iconst (v := 0) C.1 C.2.1 dX5_takeOver_9 (by decide) ?_
  refine lv_sipush (v := 200) C.1 C.2.1 dX5_takeOver_10 (by decide) ?_
  obtain ⟨M1, hM1, hf⟩ := ob hf
  refine k_cpy C hl.1 hP hS (C9 C (la_State_levels hb1)) (ar_State_levels hb1 w L _) (C9 C (la_State_levels hb0)) (ar_State_levels hb0 w L) q661 q530 q529 q17 hM1 (Nat.le_of_ble_eq_true rfl) (Nat.le_of_ble_eq_true rfl) dX5_takeOver_13 (fun H locs hP hS => ?_)
  refine lv_aload_n C.1 C.2.1 dX5_takeOver_16 rfl (lv_at hl 1 rfl) ?_
  refine k_get (v := .ref (wAd w (b1 + 2))) C hP (C9 C (lt_State hb1)) (ob_State hb1 w L _) rfl iX5 1 (by decide) q44 rfl dX5_takeOver_17 ?_
  refine lv_iconst (v := 0) C.1 C.2.1 dX5_takeOver_20 (by decide) ?_
  refine lv_aload_n C.1 C.2.1 dX5_takeOver_21 rfl (lv_at hl 0 rfl) ?_
  refine k_get (v := .ref (wAd w (b0 + 2))) C hP (C9 C (lt_State hb0)) (ob_State hb0 w L _) rfl iX5 1 (by decide) q44 rfl dX5_takeOver_22 ?_
  refine lv_iconst (v := 0) C.1 C.2.1 dX5_takeOver_25 (by decide) ?_
  refine lv_sipush (v := 200) C.1 C.2.1 dX5_takeOver_26 (by decide) ?_
  obtain ⟨M2, hM2, hf⟩ := ob hf
  refine k_cpy C hl.1 hP hS (C9 C (la_State_winds hb1)) (ar_State_winds hb1 w L _) (C9 C (la_State_winds hb0)) (ar_State_winds hb0 w L) q661 q530 q529 q17 hM2 (Nat.le_of_ble_eq_true rfl) (Nat.le_of_ble_eq_true rfl) dX5_takeOver_29 (fun H locs hP hS => ?_)
  refine lv_aload_n C.1 C.2.1 dX5_takeOver_32 rfl (lv_at hl 1 rfl) ?_
  refine k_get (v := .ref (wAd w (b1 + 3))) C hP (C9 C (lt_State hb1)) (ob_State hb1 w L _) rfl iX5 2 (by decide) q47 rfl dX5_takeOver_33 ?_
  refine lv_iconst (v := 0) C.1 C.2.1 dX5_takeOver_36 (by decide) ?_
  refine lv_aload_n C.1 C.2.1 dX5_takeOver_37 rfl (lv_at hl 0 rfl) ?_
  refine k_get (v := .ref (wAd w (b0 + 3))) C hP (C9 C (lt_State hb0)) (ob_State hb0 w L _) rfl iX5 2 (by decide) q47 rfl dX5_takeOver_38 ?_
  refine lv_iconst (v := 0) C.1 C.2.1 dX5_takeOver_41 (by decide) ?_
  refine lv_bipush (v := 10) C.1 C.2.1 dX5_takeOver_42 (by decide) ?_
  obtain ⟨M3, hM3, hf⟩ := ob hf
  refine k_cpy C hl.1 hP hS (C9 C (la_State_settings hb1)) (ar_State_settings hb1 w L _) (C9 C (la_State_settings hb0)) (ar_State_settings hb0 w L) q661 q530 q529 q17 hM3 (Nat.le_of_ble_eq_true rfl) (Nat.le_of_ble_eq_true rfl) dX5_takeOver_44 (fun H locs hP hS => ?_)
  refine lv_aload_n C.1 C.2.1 dX5_takeOver_47 rfl (lv_at hl 1 rfl) ?_
  refine k_get (v := .ref (wAd w (b1 + 4))) C hP (C9 C (lt_State hb1)) (ob_State hb1 w L _) rfl iX5 3 (by decide) q49 rfl dX5_takeOver_48 ?_
  refine lv_iconst (v := 0) C.1 C.2.1 dX5_takeOver_51 (by decide) ?_
  refine lv_aload_n C.1 C.2.1 dX5_takeOver_52 rfl (lv_at hl 0 rfl) ?_
  refine k_get (v := .ref (wAd w (b0 + 4))) C hP (C9 C (lt_State hb0)) (ob_State hb0 w L _) rfl iX5 3 (by decide) q49 rfl dX5_takeOver_53 ?_
  refine lv_iconst (v := 0) C.1 C.2.1 dX5_takeOver_56 (by decide) ?_
  refine lv_bipush (v := 20) C.1 C.2.1 dX5_takeOver_57 (by decide) ?_
  obtain ⟨M4, hM4, hf⟩ := ob hf
  refine k_cpy C hl.1 hP hS (C9 C (la_State_complaintMinutes hb1)) (ar_State_complaintMinutes hb1 w L _) (C9 C (la_State_complaintMinutes hb0)) (ar_State_complaintMinutes hb0 w L) q661 q530 q529 q17 hM4 (Nat.le_of_ble_eq_true rfl) (Nat.le_of_ble_eq_true rfl) dX5_takeOver_59 (fun H locs hP hS => ?_)
  refine lv_aload_n C.1 C.2.1 dX5_takeOver_62 rfl (lv_at hl 0 rfl) ?_
  refine lv_aload_n C.1 C.2.1 dX5_takeOver_63 rfl (lv_at hl 1 rfl) ?_
  refine k_get (v := .int (M4 b1 4)) C hP (C9 C (lt_State hb1)) (ob_State hb1 w L _) rfl iX5 4 (by decide) q53 rfl dX5_takeOver_64 ?_
  obtain ⟨M5, hM5, hf⟩ := ob hf
  refine k_puti C hP hS (C9 C (lt_State hb0)) (fun row => ob_State hb0 w L row) rfl iX5 tyX5 tyX5_ok nmX5 4 (by decide) q53 rfl rfl (Nat.le_of_ble_eq_true rfl) rfl hM5 dX5_takeOver_67 (fun H locs hP hS => ?_)
  refine lv_aload_n C.1 C.2.1 dX5_takeOver_70 rfl (lv_at hl 0 rfl) ?_
  refine lv_aload_n C.1 C.2.1 dX5_takeOver_71 rfl (lv_at hl 1 rfl) ?_
  refine k_get (v := .int (M5 b1 5)) C hP (C9 C (lt_State hb1)) (ob_State hb1 w L _) rfl iX5 5 (by decide) q56 rfl dX5_takeOver_72 ?_
  obtain ⟨M6, hM6, hf⟩ := ob hf
  refine k_puti C hP hS (C9 C (lt_State hb0)) (fun row => ob_State hb0 w L row) rfl iX5 tyX5 tyX5_ok nmX5 5 (by decide) q56 rfl rfl (Nat.le_of_ble_eq_true rfl) rfl hM6 dX5_takeOver_75 (fun H locs hP hS => ?_)
  cases hf
  exact krv C hP hS dX5_takeOver_78
theorem dX1_keep_0 : decode cX1_keep 0 = .ok (.aload_n 0, 1) := by decide +kernel
theorem dX1_keep_1 : decode cX1_keep 1 = .ok (.getfield 11, 3) := by decide +kernel
theorem dX1_keep_4 : decode cX1_keep 4 = .ok (.aload_n 0, 1) := by decide +kernel
theorem dX1_keep_5 : decode cX1_keep 5 = .ok (.getfield 18, 3) := by decide +kernel
theorem dX1_keep_8 : decode cX1_keep 8 = .ok (.aaload, 1) := by decide +kernel
theorem dX1_keep_9 : decode cX1_keep 9 = .ok (.aload_n 1, 1) := by decide +kernel
theorem dX1_keep_10 : decode cX1_keep 10 = .ok (.invokevirtual 22, 3) := by decide +kernel
theorem dX1_keep_13 : decode cX1_keep 13 = .ok (.aload_n 0, 1) := by decide +kernel
theorem dX1_keep_14 : decode cX1_keep 14 = .ok (.aload_n 0, 1) := by decide +kernel
theorem dX1_keep_15 : decode cX1_keep 15 = .ok (.getfield 18, 3) := by decide +kernel
theorem dX1_keep_18 : decode cX1_keep 18 = .ok (.iconst 1, 1) := by decide +kernel
theorem dX1_keep_19 : decode cX1_keep 19 = .ok (.iadd, 1) := by decide +kernel
theorem dX1_keep_20 : decode cX1_keep 20 = .ok (.bipush 8, 2) := by decide +kernel
theorem dX1_keep_22 : decode cX1_keep 22 = .ok (.irem, 1) := by decide +kernel
theorem dX1_keep_23 : decode cX1_keep 23 = .ok (.putfield 18, 3) := by decide +kernel
theorem dX1_keep_26 : decode cX1_keep 26 = .ok (.aload_n 0, 1) := by decide +kernel
theorem dX1_keep_27 : decode cX1_keep 27 = .ok (.aload_n 0, 1) := by decide +kernel
theorem dX1_keep_28 : decode cX1_keep 28 = .ok (.getfield 26, 3) := by decide +kernel
theorem dX1_keep_31 : decode cX1_keep 31 = .ok (.iconst 1, 1) := by decide +kernel
theorem dX1_keep_32 : decode cX1_keep 32 = .ok (.iadd, 1) := by decide +kernel
theorem dX1_keep_33 : decode cX1_keep 33 = .ok (.bipush 8, 2) := by decide +kernel
theorem dX1_keep_35 : decode cX1_keep 35 = .ok (.invokestatic 29, 3) := by decide +kernel
theorem dX1_keep_38 : decode cX1_keep 38 = .ok (.putfield 26, 3) := by decide +kernel
theorem dX1_keep_41 : decode cX1_keep 41 = .ok (.return_, 1) := by decide +kernel
set_option maxHeartbeats 4000000 in
set_option maxRecDepth 100000 in
theorem c_X1_keep (w : WT) (l : Launch) (hw : WOK w) {b0 : Nat} (hb0 : isSt b0) {M : Mem} {L : Lng} {out : Mem} (hf : f_X1_keep b0 M = some out) : Met l yX1_keep (Cond.code yX1_keep cX1_keep 2 none :: BG) ({ frames := 2, cells := 0, slots := 0, locals := 61 } : Room) (PRE w [.ref (wAd w 46), .ref (wAd w b0)] M L) (QV w out L) 0 0 (wA w) := by
  refine kEnt hw (by decide +kernel) rfl (Nat.le_of_ble_eq_true rfl) ?_
  intro p e s m args below meth c C ls hl hP
  have hS : va_S (wA w) s.heap s.heap [] := va_S.rf
  have hl : lv_has ls 2 [(0, .ref (wAd w 46)), (1, .ref (wAd w b0))] := hl
  unfold f_X1_keep at hf
  refine lv_aload_n C.1 C.2.1 dX1_keep_0 rfl (lv_at hl 0 rfl) ?_
  refine k_get (v := .ref (wAd w 47)) C hP (C9 C (lt_History h0_History)) (ob_History h0_History w L _) rfl iX1 0 (by decide) q81 rfl dX1_keep_1 ?_
  refine lv_aload_n C.1 C.2.1 dX1_keep_4 rfl (lv_at hl 0 rfl) ?_
  refine k_get (v := .int (M 46 1)) C hP (C9 C (lt_History h0_History)) (ob_History h0_History w L _) rfl iX1 1 (by decide) q82 rfl dX1_keep_5 ?_
  obtain ⟨k1, hk1, hf⟩ := ob hf
  refine k_aldq C hP k1 (rg_lt hk1) (rg_eq hk1) dX1_keep_8 ?_
  refine lv_aload_n C.1 C.2.1 dX1_keep_9 rfl (lv_at hl 1 rfl) ?_
  obtain ⟨r2, hr2, hf⟩ := ob hf
  refine kcv (kV (As := [.ref (wAd w b0)]) (rest := []) C hl.1 hP hS (c_X5_takeOver w l C.2.2.2.2.2.2.2.2 (rg_st hk1) hb0 (L := L) hr2) (gV q657 q658 q659 q2 q660) hd_X5_takeOver (C9 C (lt_State (rg_st hk1))) (ob_State (rg_st hk1) w L _) rfl ⟨rfl, rfl⟩ ⟨Nat.le_of_ble_eq_true rfl, Nat.le_of_ble_eq_true rfl⟩ rfl rfl (Nat.le_of_ble_eq_true rfl) dX1_keep_10 ⟨Nat.zero_le _, Nat.zero_le _⟩) hS (fun H locs hP hS => ?_)
  refine lv_aload_n C.1 C.2.1 dX1_keep_13 rfl (lv_at hl 0 rfl) ?_
  refine lv_aload_n C.1 C.2.1 dX1_keep_14 rfl (lv_at hl 0 rfl) ?_
  refine k_get (v := .int (r2 46 1)) C hP (C9 C (lt_History h0_History)) (ob_History h0_History w L _) rfl iX1 1 (by decide) q82 rfl dX1_keep_15 ?_
  refine lv_iconst (v := 1) C.1 C.2.1 dX1_keep_18 (by decide) ?_
  refine lv_iadd C.1 C.2.1 dX1_keep_19 ?_
  refine lv_bipush (v := 8) C.1 C.2.1 dX1_keep_20 (by decide) ?_
  obtain ⟨x3, hx3, hf⟩ := ob hf
  refine k_irem C hx3 dX1_keep_22 ?_
  obtain ⟨M4, hM4, hf⟩ := ob hf
  refine k_puti C hP hS (C9 C (lt_History h0_History)) (fun row => ob_History h0_History w L row) rfl iX1 tyX1 tyX1_ok nmX1 1 (by decide) q82 rfl rfl (Nat.le_of_ble_eq_true rfl) rfl hM4 dX1_keep_23 (fun H locs hP hS => ?_)
  refine lv_aload_n C.1 C.2.1 dX1_keep_26 rfl (lv_at hl 0 rfl) ?_
  refine lv_aload_n C.1 C.2.1 dX1_keep_27 rfl (lv_at hl 0 rfl) ?_
  refine k_get (v := .int (M4 46 2)) C hP (C9 C (lt_History h0_History)) (ob_History h0_History w L _) rfl iX1 2 (by decide) q83 rfl dX1_keep_28 ?_
  refine lv_iconst (v := 1) C.1 C.2.1 dX1_keep_31 (by decide) ?_
  refine lv_iadd C.1 C.2.1 dX1_keep_32 ?_
  refine lv_bipush (v := 8) C.1 C.2.1 dX1_keep_33 (by decide) ?_
  refine k_min C hl.1 q662 q663 q15 q664 (Nat.le_of_ble_eq_true rfl) (Nat.le_of_ble_eq_true rfl) (Nat.zero_le _) (Nat.zero_le _) dX1_keep_35 ?_
  obtain ⟨M5, hM5, hf⟩ := ob hf
  refine k_puti C hP hS (C9 C (lt_History h0_History)) (fun row => ob_History h0_History w L row) rfl iX1 tyX1 tyX1_ok nmX1 2 (by decide) q83 rfl rfl (Nat.le_of_ble_eq_true rfl) rfl hM5 dX1_keep_38 (fun H locs hP hS => ?_)
  cases hf
  exact krv C hP hS dX1_keep_41
theorem dX4_isCounted_0 : decode cX4_isCounted 0 = .ok (.aload_n 0, 1) := by decide +kernel
theorem dX4_isCounted_1 : decode cX4_isCounted 1 = .ok (.getfield 18, 3) := by decide +kernel
theorem dX4_isCounted_4 : decode cX4_isCounted 4 = .ok (.iload_n 1, 1) := by decide +kernel
theorem dX4_isCounted_5 : decode cX4_isCounted 5 = .ok (.iaload, 1) := by decide +kernel
theorem dX4_isCounted_6 : decode cX4_isCounted 6 = .ok (.ifCond .eq 13, 3) := by decide +kernel
theorem dX4_isCounted_9 : decode cX4_isCounted 9 = .ok (.aload_n 0, 1) := by decide +kernel
theorem dX4_isCounted_10 : decode cX4_isCounted 10 = .ok (.getfield 18, 3) := by decide +kernel
theorem dX4_isCounted_13 : decode cX4_isCounted 13 = .ok (.iload_n 1, 1) := by decide +kernel
theorem dX4_isCounted_14 : decode cX4_isCounted 14 = .ok (.iaload, 1) := by decide +kernel
theorem dX4_isCounted_15 : decode cX4_isCounted 15 = .ok (.iconst 3, 1) := by decide +kernel
theorem dX4_isCounted_16 : decode cX4_isCounted 16 = .ok (.if_icmp .ne 7, 3) := by decide +kernel
theorem dX4_isCounted_19 : decode cX4_isCounted 19 = .ok (.iconst 1, 1) := by decide +kernel
theorem dX4_isCounted_20 : decode cX4_isCounted 20 = .ok (.goto 4, 3) := by decide +kernel
theorem dX4_isCounted_23 : decode cX4_isCounted 23 = .ok (.iconst 0, 1) := by decide +kernel
theorem dX4_isCounted_24 : decode cX4_isCounted 24 = .ok (.ireturn, 1) := by decide +kernel
set_option maxHeartbeats 4000000 in
set_option maxRecDepth 100000 in
theorem w_X4_isCounted_j19 {b0 : Nat} {w : WT} {l : Launch} {p : Program} {e : Env} {s : State} {m : MethodId} {args : Array Value} {below : List Frame} {meth : Method} {c : Code} (C : KC w p s m args meth c cX4_isCounted 2 RX4 (some .boolean)) (hb0 : isMn b0) {M : Mem} {L : Lng} {out : Int32} (hf : f_X4_isCounted_j19 b0 M = some out) : AtL w p l e ({ frames := 0, cells := 0, slots := 0, locals := 0 } : Room) s m args below meth c (MQ below (QI w out M L) args s 0 0 (wA w)) 2 19 M L [] [] := by
  intro H locs ls hP hS hl
  unfold f_X4_isCounted_j19 at hf
  refine lv_iconst (v := 1) C.1 C.2.1 dX4_isCounted_19 (by decide) ?_
  refine lv_goto (tgt := 24) C.1 C.2.1 dX4_isCounted_20 (by decide) ?_
  cases hf
  exact krz C hP hS bz1 dX4_isCounted_24
set_option maxHeartbeats 4000000 in
set_option maxRecDepth 100000 in
theorem c_X4_isCounted (w : WT) (l : Launch) (hw : WOK w) {b0 : Nat} (hb0 : isMn b0) {a1 : Int32} {M : Mem} {L : Lng} {out : Int32} (hf : f_X4_isCounted b0 a1 M = some out) : Met l yX4_isCounted (Cond.code yX4_isCounted cX4_isCounted 2 (some .boolean) :: BG) ({ frames := 0, cells := 0, slots := 0, locals := 0 } : Room) (PRE w [.ref (wAd w b0), .int a1] M L) (QI w out M L) 0 0 (wA w) := by
  refine kEnt hw (by decide +kernel) rfl (Nat.le_of_ble_eq_true rfl) ?_
  intro p e s m args below meth c C ls hl hP
  have hS : va_S (wA w) s.heap s.heap [] := va_S.rf
  have hl : lv_has ls 2 [(0, .ref (wAd w b0)), (1, .int a1)] := hl
  unfold f_X4_isCounted at hf
  refine lv_aload_n C.1 C.2.1 dX4_isCounted_0 rfl (lv_at hl 0 rfl) ?_
  refine k_get (v := .ref (wAd w (b0 + 3))) C hP (C9 C (lt_Minutes hb0)) (ob_Minutes hb0 w L _) rfl iX4 2 (by decide) q143 rfl dX4_isCounted_1 ?_
  refine lv_iload_n C.1 C.2.1 dX4_isCounted_4 rfl (lv_at hl 1 rfl) ?_
  obtain ⟨x1, hx1, hf⟩ := ob hf
  refine k_iald C hP (C9 C (la_Minutes_why hb0)) (ar_Minutes_why hb0 w L _) hx1 dX4_isCounted_5 ?_
  refine lv_if_eq (tgt := 19) C.1 C.2.1 dX4_isCounted_6 (by decide) (fun c2 => ?_) (fun c2 => ?_)
  · have hf := (if_pos c2).symm.trans hf
    exact w_X4_isCounted_j19 C hb0 hf _ _ _ hP hS (lv_sub hl [] rfl)
  · have hf := (if_neg c2).symm.trans hf
    refine lv_aload_n C.1 C.2.1 dX4_isCounted_9 rfl (lv_at hl 0 rfl) ?_
    refine k_get (v := .ref (wAd w (b0 + 3))) C hP (C9 C (lt_Minutes hb0)) (ob_Minutes hb0 w L _) rfl iX4 2 (by decide) q143 rfl dX4_isCounted_10 ?_
    refine lv_iload_n C.1 C.2.1 dX4_isCounted_13 rfl (lv_at hl 1 rfl) ?_
    obtain ⟨x3, hx3, hf⟩ := ob hf
    refine k_iald C hP (C9 C (la_Minutes_why hb0)) (ar_Minutes_why hb0 w L _) hx3 dX4_isCounted_14 ?_
    refine lv_iconst (v := 3) C.1 C.2.1 dX4_isCounted_15 (by decide) ?_
    refine lv_icmp_ne (tgt := 23) C.1 C.2.1 dX4_isCounted_16 (by decide) (fun c4 => ?_) (fun c4 => ?_)
    · have hf := (if_neg c4).symm.trans hf
      refine lv_iconst (v := 0) C.1 C.2.1 dX4_isCounted_23 (by decide) ?_
      cases hf
      exact krz C hP hS bz0 dX4_isCounted_24
    · have hf := (if_pos c4).symm.trans hf
      exact w_X4_isCounted_j19 C hb0 hf _ _ _ hP hS (lv_sub hl [] rfl)
theorem dX2_highestReached_0 : decode cX2_highestReached 0 = .ok (.iconst 0, 1) := by decide +kernel
theorem dX2_highestReached_1 : decode cX2_highestReached 1 = .ok (.sipush 140, 3) := by decide +kernel
theorem dX2_highestReached_4 : decode cX2_highestReached 4 = .ok (.iload_n 0, 1) := by decide +kernel
theorem dX2_highestReached_5 : decode cX2_highestReached 5 = .ok (.bipush 10, 2) := by decide +kernel
theorem dX2_highestReached_7 : decode cX2_highestReached 7 = .ok (.idiv, 1) := by decide +kernel
theorem dX2_highestReached_8 : decode cX2_highestReached 8 = .ok (.invokestatic 32, 3) := by decide +kernel
theorem dX2_highestReached_11 : decode cX2_highestReached 11 = .ok (.invokestatic 38, 3) := by decide +kernel
theorem dX2_highestReached_14 : decode cX2_highestReached 14 = .ok (.ireturn, 1) := by decide +kernel
set_option maxHeartbeats 4000000 in
set_option maxRecDepth 100000 in
theorem c_X2_highestReached (w : WT) (l : Launch) (hw : WOK w) {a0 : Int32} {M : Mem} {L : Lng} {out : Int32} (hf : f_X2_highestReached a0 M = some out) : Met l yX2_highestReached (Cond.code yX2_highestReached cX2_highestReached 1 (some .int) :: BG) ({ frames := 1, cells := 0, slots := 0, locals := 21 } : Room) (PRE w [.int a0] M L) (QI w out M L) 0 0 (wA w) := by
  refine kEnt hw (by decide +kernel) rfl (Nat.le_of_ble_eq_true rfl) ?_
  intro p e s m args below meth c C ls hl hP
  have hS : va_S (wA w) s.heap s.heap [] := va_S.rf
  have hl : lv_has ls 1 [(0, .int a0)] := hl
  unfold f_X2_highestReached at hf
  refine lv_iconst (v := 0) C.1 C.2.1 dX2_highestReached_0 (by decide) ?_
  refine lv_sipush (v := 140) C.1 C.2.1 dX2_highestReached_1 (by decide) ?_
  refine lv_iload_n C.1 C.2.1 dX2_highestReached_4 rfl (lv_at hl 0 rfl) ?_
  refine lv_bipush (v := 10) C.1 C.2.1 dX2_highestReached_5 (by decide) ?_
  obtain ⟨x1, hx1, hf⟩ := ob hf
  refine k_idiv C hx1 dX2_highestReached_7 ?_
  refine k_min C hl.1 q681 q663 q15 q664 (Nat.le_of_ble_eq_true rfl) (Nat.le_of_ble_eq_true rfl) (Nat.zero_le _) (Nat.zero_le _) dX2_highestReached_8 ?_
  refine k_max C hl.1 q682 q574 q15 q575 (Nat.le_of_ble_eq_true rfl) (Nat.le_of_ble_eq_true rfl) (Nat.zero_le _) (Nat.zero_le _) dX2_highestReached_11 ?_
  cases hf
  exact kri C hP hS dX2_highestReached_14
theorem dX2_tally_0 : decode cX2_tally 0 = .ok (.iconst 0, 1) := by decide +kernel
theorem dX2_tally_1 : decode cX2_tally 1 = .ok (.istore_n 2, 1) := by decide +kernel
theorem dX2_tally_2 : decode cX2_tally 2 = .ok (.iload_n 2, 1) := by decide +kernel
theorem dX2_tally_3 : decode cX2_tally 3 = .ok (.sipush 140, 3) := by decide +kernel
theorem dX2_tally_6 : decode cX2_tally 6 = .ok (.if_icmp .gt 16, 3) := by decide +kernel
theorem dX2_tally_9 : decode cX2_tally 9 = .ok (.aload_n 0, 1) := by decide +kernel
theorem dX2_tally_10 : decode cX2_tally 10 = .ok (.getfield 9, 3) := by decide +kernel
theorem dX2_tally_13 : decode cX2_tally 13 = .ok (.iload_n 2, 1) := by decide +kernel
theorem dX2_tally_14 : decode cX2_tally 14 = .ok (.iconst 0, 1) := by decide +kernel
theorem dX2_tally_15 : decode cX2_tally 15 = .ok (.iastore, 1) := by decide +kernel
theorem dX2_tally_16 : decode cX2_tally 16 = .ok (.iinc 2 1, 3) := by decide +kernel
theorem dX2_tally_19 : decode cX2_tally 19 = .ok (.goto (-17), 3) := by decide +kernel
theorem dX2_tally_22 : decode cX2_tally 22 = .ok (.iconst 0, 1) := by decide +kernel
theorem dX2_tally_23 : decode cX2_tally 23 = .ok (.istore_n 2, 1) := by decide +kernel
theorem dX2_tally_24 : decode cX2_tally 24 = .ok (.iload_n 2, 1) := by decide +kernel
theorem dX2_tally_25 : decode cX2_tally 25 = .ok (.aload_n 1, 1) := by decide +kernel
theorem dX2_tally_26 : decode cX2_tally 26 = .ok (.getfield 15, 3) := by decide +kernel
theorem dX2_tally_29 : decode cX2_tally 29 = .ok (.if_icmp .ge 35, 3) := by decide +kernel
theorem dX2_tally_32 : decode cX2_tally 32 = .ok (.aload_n 1, 1) := by decide +kernel
theorem dX2_tally_33 : decode cX2_tally 33 = .ok (.iload_n 2, 1) := by decide +kernel
theorem dX2_tally_34 : decode cX2_tally 34 = .ok (.invokevirtual 21, 3) := by decide +kernel
theorem dX2_tally_37 : decode cX2_tally 37 = .ok (.ifCond .eq 21, 3) := by decide +kernel
theorem dX2_tally_40 : decode cX2_tally 40 = .ok (.aload_n 0, 1) := by decide +kernel
theorem dX2_tally_41 : decode cX2_tally 41 = .ok (.getfield 9, 3) := by decide +kernel
theorem dX2_tally_44 : decode cX2_tally 44 = .ok (.aload_n 1, 1) := by decide +kernel
theorem dX2_tally_45 : decode cX2_tally 45 = .ok (.getfield 25, 3) := by decide +kernel
theorem dX2_tally_48 : decode cX2_tally 48 = .ok (.iload_n 2, 1) := by decide +kernel
theorem dX2_tally_49 : decode cX2_tally 49 = .ok (.iaload, 1) := by decide +kernel
theorem dX2_tally_50 : decode cX2_tally 50 = .ok (.invokestatic 28, 3) := by decide +kernel
theorem dX2_tally_53 : decode cX2_tally 53 = .ok (.dup2, 1) := by decide +kernel
theorem dX2_tally_54 : decode cX2_tally 54 = .ok (.iaload, 1) := by decide +kernel
theorem dX2_tally_55 : decode cX2_tally 55 = .ok (.iconst 1, 1) := by decide +kernel
theorem dX2_tally_56 : decode cX2_tally 56 = .ok (.iadd, 1) := by decide +kernel
theorem dX2_tally_57 : decode cX2_tally 57 = .ok (.iastore, 1) := by decide +kernel
theorem dX2_tally_58 : decode cX2_tally 58 = .ok (.iinc 2 1, 3) := by decide +kernel
theorem dX2_tally_61 : decode cX2_tally 61 = .ok (.goto (-37), 3) := by decide +kernel
theorem dX2_tally_64 : decode cX2_tally 64 = .ok (.sipush 139, 3) := by decide +kernel
theorem dX2_tally_67 : decode cX2_tally 67 = .ok (.istore_n 2, 1) := by decide +kernel
theorem dX2_tally_68 : decode cX2_tally 68 = .ok (.iload_n 2, 1) := by decide +kernel
theorem dX2_tally_69 : decode cX2_tally 69 = .ok (.ifCond .lt 26, 3) := by decide +kernel
theorem dX2_tally_72 : decode cX2_tally 72 = .ok (.aload_n 0, 1) := by decide +kernel
theorem dX2_tally_73 : decode cX2_tally 73 = .ok (.getfield 9, 3) := by decide +kernel
theorem dX2_tally_76 : decode cX2_tally 76 = .ok (.iload_n 2, 1) := by decide +kernel
theorem dX2_tally_77 : decode cX2_tally 77 = .ok (.dup2, 1) := by decide +kernel
theorem dX2_tally_78 : decode cX2_tally 78 = .ok (.iaload, 1) := by decide +kernel
theorem dX2_tally_79 : decode cX2_tally 79 = .ok (.aload_n 0, 1) := by decide +kernel
theorem dX2_tally_80 : decode cX2_tally 80 = .ok (.getfield 9, 3) := by decide +kernel
theorem dX2_tally_83 : decode cX2_tally 83 = .ok (.iload_n 2, 1) := by decide +kernel
theorem dX2_tally_84 : decode cX2_tally 84 = .ok (.iconst 1, 1) := by decide +kernel
theorem dX2_tally_85 : decode cX2_tally 85 = .ok (.iadd, 1) := by decide +kernel
theorem dX2_tally_86 : decode cX2_tally 86 = .ok (.iaload, 1) := by decide +kernel
theorem dX2_tally_87 : decode cX2_tally 87 = .ok (.iadd, 1) := by decide +kernel
theorem dX2_tally_88 : decode cX2_tally 88 = .ok (.iastore, 1) := by decide +kernel
theorem dX2_tally_89 : decode cX2_tally 89 = .ok (.iinc 2 (-1), 3) := by decide +kernel
theorem dX2_tally_92 : decode cX2_tally 92 = .ok (.goto (-24), 3) := by decide +kernel
theorem dX2_tally_95 : decode cX2_tally 95 = .ok (.return_, 1) := by decide +kernel
set_option maxHeartbeats 4000000 in
set_option maxRecDepth 100000 in
theorem w_X2_tally_l2 {b0 : Nat} {w : WT} {l : Launch} {p : Program} {e : Env} {s : State} {m : MethodId} {args : Array Value} {below : List Frame} {meth : Method} {c : Code} (C : KC w p s m args meth c cX2_tally 3 RX2 none) (hb0 : isMn b0) {L : Lng} {Q : State → Prop} (z : Int32 × Mem) (o : (Int32 × Mem) ⊕ (Mem)) (hf : f_X2_tally_l2 b0 z = some o) (hA : ∀ z, o = .inl z → AtL w p l e ({ frames := 2, cells := 0, slots := 0, locals := 41 } : Room) s m args below meth c Q 3 2 z.2 L [(0, .ref (wAd w 88)), (1, .ref (wAd w b0)), (2, .int z.1)] []) (hE : ∀ y, o = .inr y → AtL w p l e ({ frames := 2, cells := 0, slots := 0, locals := 41 } : Room) s m args below meth c Q 3 22 y L [(0, .ref (wAd w 88)), (1, .ref (wAd w b0))] []) : AtL w p l e ({ frames := 2, cells := 0, slots := 0, locals := 41 } : Room) s m args below meth c Q 3 2 z.2 L [(0, .ref (wAd w 88)), (1, .ref (wAd w b0)), (2, .int z.1)] [] := by
  intro H locs ls hP hS hl
  unfold f_X2_tally_l2 at hf
  refine lv_iload_n C.1 C.2.1 dX2_tally_2 rfl (lv_at hl 2 rfl) ?_
  refine lv_sipush (v := 140) C.1 C.2.1 dX2_tally_3 (by decide) ?_
  refine lv_icmp_gt (tgt := 22) C.1 C.2.1 dX2_tally_6 (by decide) (fun c1 => ?_) (fun c1 => ?_)
  · have hf := (if_pos c1).symm.trans hf
    cases hf
    exact hE _ rfl _ _ _ hP hS (lv_sub hl [0, 1] rfl)
  · have hf := (if_neg c1).symm.trans hf
    refine lv_aload_n C.1 C.2.1 dX2_tally_9 rfl (lv_at hl 0 rfl) ?_
    refine k_get (v := .ref (wAd w 89)) C hP (C9 C (lt_LevelCounts h0_LevelCounts)) (ob_LevelCounts h0_LevelCounts w L _) rfl iX2 0 (by decide) q268 rfl dX2_tally_10 ?_
    refine lv_iload_n C.1 C.2.1 dX2_tally_13 rfl (lv_at hl 2 rfl) ?_
    refine lv_iconst (v := 0) C.1 C.2.1 dX2_tally_14 (by decide) ?_
    obtain ⟨M2, hM2, hf⟩ := ob hf
    refine k_iast C hP hS (C9 C (la_LevelCounts_reached h0_LevelCounts)) (ar_LevelCounts_reached h0_LevelCounts w L) hM2 dX2_tally_15 (fun H locs hP hS => ?_)
    refine lv_iinc (v := (z.1 + 1)) (lv' := [(2, .int (z.1 + 1)), (0, .ref (wAd w 88)), (1, .ref (wAd w b0))]) C.1 C.2.1 dX2_tally_16 hl (k := 2) rfl rfl (by decide) rfl (fun ls hl => ?_)
    refine lv_goto (tgt := 2) C.1 C.2.1 dX2_tally_19 (by decide) ?_
    cases hf
    exact hA _ rfl _ _ _ hP hS (lv_sub hl [1, 2, 0] rfl)
set_option maxHeartbeats 4000000 in
set_option maxRecDepth 100000 in
theorem w_X2_tally_j58 {b0 : Nat} {w : WT} {l : Launch} {p : Program} {e : Env} {s : State} {m : MethodId} {args : Array Value} {below : List Frame} {meth : Method} {c : Code} (C : KC w p s m args meth c cX2_tally 3 RX2 none) (hb0 : isMn b0) {v2 : Int32} {M : Mem} {L : Lng} {Q : State → Prop} {o : (Int32 × Mem) ⊕ (Mem)} (hf : f_X2_tally_j58 b0 v2 M = some o) (hA : ∀ z, o = .inl z → AtL w p l e ({ frames := 2, cells := 0, slots := 0, locals := 41 } : Room) s m args below meth c Q 3 24 z.2 L [(0, .ref (wAd w 88)), (1, .ref (wAd w b0)), (2, .int z.1)] []) (hE : ∀ y, o = .inr y → AtL w p l e ({ frames := 2, cells := 0, slots := 0, locals := 41 } : Room) s m args below meth c Q 3 64 y L [(0, .ref (wAd w 88))] []) : AtL w p l e ({ frames := 2, cells := 0, slots := 0, locals := 41 } : Room) s m args below meth c Q 3 58 M L [(0, .ref (wAd w 88)), (1, .ref (wAd w b0)), (2, .int v2)] [] := by
  intro H locs ls hP hS hl
  unfold f_X2_tally_j58 at hf
  refine lv_iinc (v := (v2 + 1)) (lv' := [(2, .int (v2 + 1)), (0, .ref (wAd w 88)), (1, .ref (wAd w b0))]) C.1 C.2.1 dX2_tally_58 hl (k := 2) rfl rfl (by decide) rfl (fun ls hl => ?_)
  refine lv_goto (tgt := 24) C.1 C.2.1 dX2_tally_61 (by decide) ?_
  cases hf
  exact hA _ rfl _ _ _ hP hS (lv_sub hl [1, 2, 0] rfl)
set_option maxHeartbeats 4000000 in
set_option maxRecDepth 100000 in
theorem w_X2_tally_l24 {b0 : Nat} {w : WT} {l : Launch} {p : Program} {e : Env} {s : State} {m : MethodId} {args : Array Value} {below : List Frame} {meth : Method} {c : Code} (C : KC w p s m args meth c cX2_tally 3 RX2 none) (hb0 : isMn b0) {L : Lng} {Q : State → Prop} (z : Int32 × Mem) (o : (Int32 × Mem) ⊕ (Mem)) (hf : f_X2_tally_l24 b0 z = some o) (hA : ∀ z, o = .inl z → AtL w p l e ({ frames := 2, cells := 0, slots := 0, locals := 41 } : Room) s m args below meth c Q 3 24 z.2 L [(0, .ref (wAd w 88)), (1, .ref (wAd w b0)), (2, .int z.1)] []) (hE : ∀ y, o = .inr y → AtL w p l e ({ frames := 2, cells := 0, slots := 0, locals := 41 } : Room) s m args below meth c Q 3 64 y L [(0, .ref (wAd w 88))] []) : AtL w p l e ({ frames := 2, cells := 0, slots := 0, locals := 41 } : Room) s m args below meth c Q 3 24 z.2 L [(0, .ref (wAd w 88)), (1, .ref (wAd w b0)), (2, .int z.1)] [] := by
  intro H locs ls hP hS hl
  unfold f_X2_tally_l24 at hf
  refine lv_iload_n C.1 C.2.1 dX2_tally_24 rfl (lv_at hl 2 rfl) ?_
  refine lv_aload_n C.1 C.2.1 dX2_tally_25 rfl (lv_at hl 1 rfl) ?_
  refine k_get (v := .int (z.2 b0 3)) C hP (C9 C (lt_Minutes hb0)) (ob_Minutes hb0 w L _) rfl iX4 3 (by decide) q148 rfl dX2_tally_26 ?_
  refine lv_icmp_ge (tgt := 64) C.1 C.2.1 dX2_tally_29 (by decide) (fun c4 => ?_) (fun c4 => ?_)
  · have hf := (if_pos c4).symm.trans hf
    cases hf
    exact hE _ rfl _ _ _ hP hS (lv_sub hl [0] rfl)
  · have hf := (if_neg c4).symm.trans hf
    refine lv_aload_n C.1 C.2.1 dX2_tally_32 rfl (lv_at hl 1 rfl) ?_
    refine lv_iload_n C.1 C.2.1 dX2_tally_33 rfl (lv_at hl 2 rfl) ?_
    obtain ⟨r5, hr5, hf⟩ := ob hf
    refine kci (kV (As := [.int z.1]) (rest := []) C hl.1 hP hS (c_X4_isCounted w l C.2.2.2.2.2.2.2.2 hb0 (L := L) hr5) (gV q677 q556 q557 q6 q558) hd_X4_isCounted (C9 C (lt_Minutes hb0)) (ob_Minutes hb0 w L _) rfl ⟨rfl, rfl⟩ ⟨Nat.le_of_ble_eq_true rfl, Nat.le_of_ble_eq_true rfl⟩ rfl rfl (Nat.le_of_ble_eq_true rfl) dX2_tally_34 ⟨Nat.zero_le _, Nat.zero_le _⟩) hS (fun H locs hP hS => ?_)
    refine lv_if_eq (tgt := 58) C.1 C.2.1 dX2_tally_37 (by decide) (fun c6 => ?_) (fun c6 => ?_)
    · have hf := (if_pos c6).symm.trans hf
      exact w_X2_tally_j58 C hb0 hf hA hE _ _ _ hP hS hl
    · have hf := (if_neg c6).symm.trans hf
      refine lv_aload_n C.1 C.2.1 dX2_tally_40 rfl (lv_at hl 0 rfl) ?_
      refine k_get (v := .ref (wAd w 89)) C hP (C9 C (lt_LevelCounts h0_LevelCounts)) (ob_LevelCounts h0_LevelCounts w L _) rfl iX2 0 (by decide) q268 rfl dX2_tally_41 ?_
      refine lv_aload_n C.1 C.2.1 dX2_tally_44 rfl (lv_at hl 1 rfl) ?_
      refine k_get (v := .ref (wAd w (b0 + 1))) C hP (C9 C (lt_Minutes hb0)) (ob_Minutes hb0 w L _) rfl iX4 0 (by decide) q136 rfl dX2_tally_45 ?_
      refine lv_iload_n C.1 C.2.1 dX2_tally_48 rfl (lv_at hl 2 rfl) ?_
      obtain ⟨x7, hx7, hf⟩ := ob hf
      refine k_iald C hP (C9 C (la_Minutes_fast hb0)) (ar_Minutes_fast hb0 w L _) hx7 dX2_tally_49 ?_
      obtain ⟨r8, hr8, hf⟩ := ob hf
      refine kci (kS (As := [.int x7]) (rest := [.ref (wAd w 89)]) C hl.1 hP hS (c_X2_highestReached w l C.2.2.2.2.2.2.2.2 (L := L) hr8) (gS q678 q679 q9 q680) hd_X2_highestReached ⟨rfl, rfl⟩ ⟨Nat.le_of_ble_eq_true rfl, Nat.le_of_ble_eq_true rfl⟩ rfl rfl (Nat.le_of_ble_eq_true rfl) dX2_tally_50 ⟨Nat.zero_le _, Nat.zero_le _⟩) hS (fun H locs hP hS => ?_)
      refine lv_dup2_11 C.1 C.2.1 dX2_tally_53 rfl rfl ?_
      obtain ⟨x9, hx9, hf⟩ := ob hf
      refine k_iald C hP (C9 C (la_LevelCounts_reached h0_LevelCounts)) (ar_LevelCounts_reached h0_LevelCounts w L _) hx9 dX2_tally_54 ?_
      refine lv_iconst (v := 1) C.1 C.2.1 dX2_tally_55 (by decide) ?_
      refine lv_iadd C.1 C.2.1 dX2_tally_56 ?_
      obtain ⟨M10, hM10, hf⟩ := ob hf
      refine k_iast C hP hS (C9 C (la_LevelCounts_reached h0_LevelCounts)) (ar_LevelCounts_reached h0_LevelCounts w L) hM10 dX2_tally_57 (fun H locs hP hS => ?_)
      exact w_X2_tally_j58 C hb0 hf hA hE _ _ _ hP hS hl
set_option maxHeartbeats 4000000 in
set_option maxRecDepth 100000 in
theorem w_X2_tally_l68 {b0 : Nat} {w : WT} {l : Launch} {p : Program} {e : Env} {s : State} {m : MethodId} {args : Array Value} {below : List Frame} {meth : Method} {c : Code} (C : KC w p s m args meth c cX2_tally 3 RX2 none) (hb0 : isMn b0) {L : Lng} {Q : State → Prop} (z : Int32 × Mem) (o : (Int32 × Mem) ⊕ (Mem)) (hf : f_X2_tally_l68 b0 z = some o) (hA : ∀ z, o = .inl z → AtL w p l e ({ frames := 2, cells := 0, slots := 0, locals := 41 } : Room) s m args below meth c Q 3 68 z.2 L [(0, .ref (wAd w 88)), (2, .int z.1)] []) (hE : ∀ y, o = .inr y → AtL w p l e ({ frames := 2, cells := 0, slots := 0, locals := 41 } : Room) s m args below meth c Q 3 95 y L [] []) : AtL w p l e ({ frames := 2, cells := 0, slots := 0, locals := 41 } : Room) s m args below meth c Q 3 68 z.2 L [(0, .ref (wAd w 88)), (2, .int z.1)] [] := by
  intro H locs ls hP hS hl
  unfold f_X2_tally_l68 at hf
  refine lv_iload_n C.1 C.2.1 dX2_tally_68 rfl (lv_at hl 1 rfl) ?_
  refine lv_if_lt (tgt := 95) C.1 C.2.1 dX2_tally_69 (by decide) (fun c12 => ?_) (fun c12 => ?_)
  · have hf := (if_pos c12).symm.trans hf
    cases hf
    exact hE _ rfl _ _ _ hP hS (lv_sub hl [] rfl)
  · have hf := (if_neg c12).symm.trans hf
    refine lv_aload_n C.1 C.2.1 dX2_tally_72 rfl (lv_at hl 0 rfl) ?_
    refine k_get (v := .ref (wAd w 89)) C hP (C9 C (lt_LevelCounts h0_LevelCounts)) (ob_LevelCounts h0_LevelCounts w L _) rfl iX2 0 (by decide) q268 rfl dX2_tally_73 ?_
    refine lv_iload_n C.1 C.2.1 dX2_tally_76 rfl (lv_at hl 1 rfl) ?_
    refine lv_dup2_11 C.1 C.2.1 dX2_tally_77 rfl rfl ?_
    obtain ⟨x13, hx13, hf⟩ := ob hf
    refine k_iald C hP (C9 C (la_LevelCounts_reached h0_LevelCounts)) (ar_LevelCounts_reached h0_LevelCounts w L _) hx13 dX2_tally_78 ?_
    refine lv_aload_n C.1 C.2.1 dX2_tally_79 rfl (lv_at hl 0 rfl) ?_
    refine k_get (v := .ref (wAd w 89)) C hP (C9 C (lt_LevelCounts h0_LevelCounts)) (ob_LevelCounts h0_LevelCounts w L _) rfl iX2 0 (by decide) q268 rfl dX2_tally_80 ?_
    refine lv_iload_n C.1 C.2.1 dX2_tally_83 rfl (lv_at hl 1 rfl) ?_
    refine lv_iconst (v := 1) C.1 C.2.1 dX2_tally_84 (by decide) ?_
    refine lv_iadd C.1 C.2.1 dX2_tally_85 ?_
    obtain ⟨x14, hx14, hf⟩ := ob hf
    refine k_iald C hP (C9 C (la_LevelCounts_reached h0_LevelCounts)) (ar_LevelCounts_reached h0_LevelCounts w L _) hx14 dX2_tally_86 ?_
    refine lv_iadd C.1 C.2.1 dX2_tally_87 ?_
    obtain ⟨M15, hM15, hf⟩ := ob hf
    refine k_iast C hP hS (C9 C (la_LevelCounts_reached h0_LevelCounts)) (ar_LevelCounts_reached h0_LevelCounts w L) hM15 dX2_tally_88 (fun H locs hP hS => ?_)
    refine lv_iinc (v := (z.1 + (-1))) (lv' := [(2, .int (z.1 + (-1))), (0, .ref (wAd w 88))]) C.1 C.2.1 dX2_tally_89 hl (k := 1) rfl rfl (by decide) rfl (fun ls hl => ?_)
    refine lv_goto (tgt := 68) C.1 C.2.1 dX2_tally_92 (by decide) ?_
    cases hf
    exact hA _ rfl _ _ _ hP hS (lv_sub hl [1, 0] rfl)
set_option maxHeartbeats 4000000 in
set_option maxRecDepth 100000 in
theorem c_X2_tally (w : WT) (l : Launch) (hw : WOK w) {b0 : Nat} (hb0 : isMn b0) {M : Mem} {L : Lng} {out : Mem} (hf : f_X2_tally b0 M = some out) : Met l yX2_tally (Cond.code yX2_tally cX2_tally 3 none :: BG) ({ frames := 2, cells := 0, slots := 0, locals := 41 } : Room) (PRE w [.ref (wAd w 88), .ref (wAd w b0)] M L) (QV w out L) 0 0 (wA w) := by
  refine kEnt hw (by decide +kernel) rfl (Nat.le_of_ble_eq_true rfl) ?_
  intro p e s m args below meth c C ls hl hP
  have hS : va_S (wA w) s.heap s.heap [] := va_S.rf
  have hl : lv_has ls 3 [(0, .ref (wAd w 88)), (1, .ref (wAd w b0))] := hl
  unfold f_X2_tally at hf
  refine lv_iconst (v := 0) C.1 C.2.1 dX2_tally_0 (by decide) ?_
  refine lv_istore_n (lv' := [(2, .int 0), (0, .ref (wAd w 88)), (1, .ref (wAd w b0))]) C.1 C.2.1 dX2_tally_1 rfl hl (by decide) rfl (fun ls hl => ?_)
  obtain ⟨o3, ho3, hf⟩ := ob hf
  refine loop_at (w_X2_tally_l2 C hb0) FU _ o3 ho3 ?_ _ _ _ hP hS (lv_sub hl [1, 2, 0] rfl)
  intro H locs ls hP hS hl
  refine lv_iconst (v := 0) C.1 C.2.1 dX2_tally_22 (by decide) ?_
  refine lv_istore_n (lv' := [(2, .int 0), (0, .ref (wAd w 88)), (1, .ref (wAd w b0))]) C.1 C.2.1 dX2_tally_23 rfl hl (by decide) rfl (fun ls hl => ?_)
  obtain ⟨o11, ho11, hf⟩ := ob hf
  refine loop_at (w_X2_tally_l24 C hb0) FU _ o11 ho11 ?_ _ _ _ hP hS (lv_sub hl [1, 2, 0] rfl)
  intro H locs ls hP hS hl
  refine lv_sipush (v := 139) C.1 C.2.1 dX2_tally_64 (by decide) ?_
  refine lv_istore_n (lv' := [(2, .int 139), (0, .ref (wAd w 88))]) C.1 C.2.1 dX2_tally_67 rfl hl (by decide) rfl (fun ls hl => ?_)
  obtain ⟨o16, ho16, hf⟩ := ob hf
  refine loop_at (w_X2_tally_l68 C hb0) FU _ o16 ho16 ?_ _ _ _ hP hS (lv_sub hl [1, 0] rfl)
  intro H locs ls hP hS hl
  cases hf
  exact krv C hP hS dX2_tally_95
theorem dX2_levelOfPercent_0 : decode cX2_levelOfPercent 0 = .ok (.iload_n 2, 1) := by decide +kernel
theorem dX2_levelOfPercent_1 : decode cX2_levelOfPercent 1 = .ok (.iconst 1, 1) := by decide +kernel
theorem dX2_levelOfPercent_2 : decode cX2_levelOfPercent 2 = .ok (.if_icmp .ge 5, 3) := by decide +kernel
theorem dX2_levelOfPercent_5 : decode cX2_levelOfPercent 5 = .ok (.iconst (-1), 1) := by decide +kernel
theorem dX2_levelOfPercent_6 : decode cX2_levelOfPercent 6 = .ok (.ireturn, 1) := by decide +kernel
theorem dX2_levelOfPercent_7 : decode cX2_levelOfPercent 7 = .ok (.sipush 140, 3) := by decide +kernel
theorem dX2_levelOfPercent_10 : decode cX2_levelOfPercent 10 = .ok (.istore_n 3, 1) := by decide +kernel
theorem dX2_levelOfPercent_11 : decode cX2_levelOfPercent 11 = .ok (.iload_n 3, 1) := by decide +kernel
theorem dX2_levelOfPercent_12 : decode cX2_levelOfPercent 12 = .ok (.ifCond .le 26, 3) := by decide +kernel
theorem dX2_levelOfPercent_15 : decode cX2_levelOfPercent 15 = .ok (.aload_n 0, 1) := by decide +kernel
theorem dX2_levelOfPercent_16 : decode cX2_levelOfPercent 16 = .ok (.getfield 9, 3) := by decide +kernel
theorem dX2_levelOfPercent_19 : decode cX2_levelOfPercent 19 = .ok (.iload_n 3, 1) := by decide +kernel
theorem dX2_levelOfPercent_20 : decode cX2_levelOfPercent 20 = .ok (.iaload, 1) := by decide +kernel
theorem dX2_levelOfPercent_21 : decode cX2_levelOfPercent 21 = .ok (.bipush 100, 2) := by decide +kernel
theorem dX2_levelOfPercent_23 : decode cX2_levelOfPercent 23 = .ok (.imul, 1) := by decide +kernel
theorem dX2_levelOfPercent_24 : decode cX2_levelOfPercent 24 = .ok (.iload_n 1, 1) := by decide +kernel
theorem dX2_levelOfPercent_25 : decode cX2_levelOfPercent 25 = .ok (.iload_n 2, 1) := by decide +kernel
theorem dX2_levelOfPercent_26 : decode cX2_levelOfPercent 26 = .ok (.imul, 1) := by decide +kernel
theorem dX2_levelOfPercent_27 : decode cX2_levelOfPercent 27 = .ok (.if_icmp .lt 5, 3) := by decide +kernel
theorem dX2_levelOfPercent_30 : decode cX2_levelOfPercent 30 = .ok (.iload_n 3, 1) := by decide +kernel
theorem dX2_levelOfPercent_31 : decode cX2_levelOfPercent 31 = .ok (.ireturn, 1) := by decide +kernel
theorem dX2_levelOfPercent_32 : decode cX2_levelOfPercent 32 = .ok (.iinc 3 (-1), 3) := by decide +kernel
theorem dX2_levelOfPercent_35 : decode cX2_levelOfPercent 35 = .ok (.goto (-24), 3) := by decide +kernel
theorem dX2_levelOfPercent_38 : decode cX2_levelOfPercent 38 = .ok (.iconst 0, 1) := by decide +kernel
theorem dX2_levelOfPercent_39 : decode cX2_levelOfPercent 39 = .ok (.ireturn, 1) := by decide +kernel
