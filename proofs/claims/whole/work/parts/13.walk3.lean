theorem dX6_minutesInParts_0 : decode cX6_minutesInParts 0 = .ok (.iconst 0, 1) := by decide +kernel
theorem dX6_minutesInParts_1 : decode cX6_minutesInParts 1 = .ok (.istore_n 1, 1) := by decide +kernel
theorem dX6_minutesInParts_2 : decode cX6_minutesInParts 2 = .ok (.iconst 0, 1) := by decide +kernel
theorem dX6_minutesInParts_3 : decode cX6_minutesInParts 3 = .ok (.istore_n 2, 1) := by decide +kernel
theorem dX6_minutesInParts_4 : decode cX6_minutesInParts 4 = .ok (.iload_n 2, 1) := by decide +kernel
theorem dX6_minutesInParts_5 : decode cX6_minutesInParts 5 = .ok (.aload_n 0, 1) := by decide +kernel
theorem dX6_minutesInParts_6 : decode cX6_minutesInParts 6 = .ok (.getfield 31, 3) := by decide +kernel
theorem dX6_minutesInParts_9 : decode cX6_minutesInParts 9 = .ok (.if_icmp .ge 18, 3) := by decide +kernel
theorem dX6_minutesInParts_12 : decode cX6_minutesInParts 12 = .ok (.iload_n 1, 1) := by decide +kernel
theorem dX6_minutesInParts_13 : decode cX6_minutesInParts 13 = .ok (.aload_n 0, 1) := by decide +kernel
theorem dX6_minutesInParts_14 : decode cX6_minutesInParts 14 = .ok (.getfield 21, 3) := by decide +kernel
theorem dX6_minutesInParts_17 : decode cX6_minutesInParts 17 = .ok (.iload_n 2, 1) := by decide +kernel
theorem dX6_minutesInParts_18 : decode cX6_minutesInParts 18 = .ok (.iaload, 1) := by decide +kernel
theorem dX6_minutesInParts_19 : decode cX6_minutesInParts 19 = .ok (.iadd, 1) := by decide +kernel
theorem dX6_minutesInParts_20 : decode cX6_minutesInParts 20 = .ok (.istore_n 1, 1) := by decide +kernel
theorem dX6_minutesInParts_21 : decode cX6_minutesInParts 21 = .ok (.iinc 2 1, 3) := by decide +kernel
theorem dX6_minutesInParts_24 : decode cX6_minutesInParts 24 = .ok (.goto (-20), 3) := by decide +kernel
theorem dX6_minutesInParts_27 : decode cX6_minutesInParts 27 = .ok (.iload_n 1, 1) := by decide +kernel
theorem dX6_minutesInParts_28 : decode cX6_minutesInParts 28 = .ok (.ireturn, 1) := by decide +kernel
set_option maxHeartbeats 4000000 in
set_option maxRecDepth 100000 in
theorem w_X6_minutesInParts_l4 {w : WT} {l : Launch} {p : Program} {e : Env} {s : State} {m : MethodId} {args : Array Value} {below : List Frame} {meth : Method} {c : Code} (C : KC w p s m args meth c cX6_minutesInParts 3 RX6 (some .int)) {M : Mem} {L : Lng} {Q : State → Prop} (z : Int32 × Int32) (o : (Int32 × Int32) ⊕ (Int32)) (hf : f_X6_minutesInParts_l4 M z = some o) (hA : ∀ z, o = .inl z → AtL w p l e ({ frames := 0, cells := 0, slots := 0, locals := 0 } : Room) s m args below meth c Q 3 4 M L [(0, .ref (wAd w 48)), (1, .int z.1), (2, .int z.2)] []) (hE : ∀ y, o = .inr y → AtL w p l e ({ frames := 0, cells := 0, slots := 0, locals := 0 } : Room) s m args below meth c Q 3 27 M L [(1, .int y)] []) : AtL w p l e ({ frames := 0, cells := 0, slots := 0, locals := 0 } : Room) s m args below meth c Q 3 4 M L [(0, .ref (wAd w 48)), (1, .int z.1), (2, .int z.2)] [] := by
  intro H locs ls hP hS hl
  unfold f_X6_minutesInParts_l4 at hf
  refine lv_iload_n C.1 C.2.1 dX6_minutesInParts_4 rfl (lv_at hl 2 rfl) ?_
  refine lv_aload_n C.1 C.2.1 dX6_minutesInParts_5 rfl (lv_at hl 0 rfl) ?_
  refine k_get (v := .int (M 48 5)) C hP (lt_Text h0_Text) (ob_Text h0_Text w L _) rfl iX6 5 (by decide) q110 rfl dX6_minutesInParts_6 ?_
  refine lv_icmp_ge (tgt := 27) C.1 C.2.1 dX6_minutesInParts_9 (by decide) (fun c1 => ?_) (fun c1 => ?_)
  · have hf := (if_pos c1).symm.trans hf
    cases hf
    exact hE _ rfl _ _ _ hP hS (lv_sub hl [1] rfl)
  · have hf := (if_neg c1).symm.trans hf
    refine lv_iload_n C.1 C.2.1 dX6_minutesInParts_12 rfl (lv_at hl 1 rfl) ?_
    refine lv_aload_n C.1 C.2.1 dX6_minutesInParts_13 rfl (lv_at hl 0 rfl) ?_
    refine k_get (v := .ref (wAd w 52)) C hP (lt_Text h0_Text) (ob_Text h0_Text w L _) rfl iX6 4 (by decide) q108 rfl dX6_minutesInParts_14 ?_
    refine lv_iload_n C.1 C.2.1 dX6_minutesInParts_17 rfl (lv_at hl 2 rfl) ?_
    obtain ⟨x2, hx2, hf⟩ := ob hf
    refine k_iald C hP (la_Text_times h0_Text) (ar_Text_times h0_Text w L _) hx2 dX6_minutesInParts_18 ?_
    refine lv_iadd C.1 C.2.1 dX6_minutesInParts_19 ?_
    refine lv_istore_n (lv' := [(1, .int (z.1 + x2)), (0, .ref (wAd w 48)), (2, .int z.2)]) C.1 C.2.1 dX6_minutesInParts_20 rfl hl (by decide) rfl (fun ls hl => ?_)
    refine lv_iinc (v := (z.2 + 1)) (lv' := [(2, .int (z.2 + 1)), (1, .int (z.1 + x2)), (0, .ref (wAd w 48))]) C.1 C.2.1 dX6_minutesInParts_21 hl (k := 2) rfl rfl (by decide) rfl (fun ls hl => ?_)
    refine lv_goto (tgt := 4) C.1 C.2.1 dX6_minutesInParts_24 (by decide) ?_
    cases hf
    exact hA _ rfl _ _ _ hP hS (lv_sub hl [2, 1, 0] rfl)
set_option maxHeartbeats 4000000 in
set_option maxRecDepth 100000 in
theorem c_X6_minutesInParts (w : WT) (l : Launch) (hw : WOK w) {M : Mem} {L : Lng} {out : Int32} (hf : f_X6_minutesInParts M = some out) : Met l yX6_minutesInParts (Cond.code yX6_minutesInParts cX6_minutesInParts 3 (some .int) :: BG) ({ frames := 0, cells := 0, slots := 0, locals := 0 } : Room) (PRE w [.ref (wAd w 48)] M L) (QI w out M L) 0 0 (wA w) := by
  refine kEnt hw (by decide +kernel) rfl (Nat.le_of_ble_eq_true rfl) ?_
  intro p e s m args below meth c C ls hl hP
  have hS : va_S (wA w) s.heap s.heap [] := va_S.rf
  have hl : lv_has ls 3 [(0, .ref (wAd w 48))] := hl
  unfold f_X6_minutesInParts at hf
  refine lv_iconst (v := 0) C.1 C.2.1 dX6_minutesInParts_0 (by decide) ?_
  refine lv_istore_n (lv' := [(1, .int 0), (0, .ref (wAd w 48))]) C.1 C.2.1 dX6_minutesInParts_1 rfl hl (by decide) rfl (fun ls hl => ?_)
  refine lv_iconst (v := 0) C.1 C.2.1 dX6_minutesInParts_2 (by decide) ?_
  refine lv_istore_n (lv' := [(2, .int 0), (1, .int 0), (0, .ref (wAd w 48))]) C.1 C.2.1 dX6_minutesInParts_3 rfl hl (by decide) rfl (fun ls hl => ?_)
  obtain ⟨o3, ho3, hf⟩ := ob hf
  refine loop_at (w_X6_minutesInParts_l4 C) FU _ o3 ho3 ?_ _ _ _ hP hS (lv_sub hl [2, 1, 0] rfl)
  intro H locs ls hP hS hl
  refine lv_iload_n C.1 C.2.1 dX6_minutesInParts_27 rfl (lv_at hl 0 rfl) ?_
  cases hf
  exact kri C hP hS dX6_minutesInParts_28
theorem dX7_takeSettings_0 : decode cX7_takeSettings 0 = .ok (.aload_n 1, 1) := by decide +kernel
theorem dX7_takeSettings_1 : decode cX7_takeSettings 1 = .ok (.iconst 0, 1) := by decide +kernel
theorem dX7_takeSettings_2 : decode cX7_takeSettings 2 = .ok (.aload_n 0, 1) := by decide +kernel
theorem dX7_takeSettings_3 : decode cX7_takeSettings 3 = .ok (.getfield 18, 3) := by decide +kernel
theorem dX7_takeSettings_6 : decode cX7_takeSettings 6 = .ok (.iconst 0, 1) := by decide +kernel
theorem dX7_takeSettings_7 : decode cX7_takeSettings 7 = .ok (.bipush 10, 2) := by decide +kernel
theorem dX7_takeSettings_9 : decode cX7_takeSettings 9 = .ok (.invokestatic 44, 3) := by decide +kernel
theorem dX7_takeSettings_12 : decode cX7_takeSettings 12 = .ok (.return_, 1) := by decide +kernel
set_option maxHeartbeats 4000000 in
set_option maxRecDepth 100000 in
theorem c_X7_takeSettings (w : WT) (l : Launch) (hw : WOK w) {b0 : Nat} {g1 : Nat} (hb0 : isVw b0) (hg1 : isS g1) {M : Mem} {L : Lng} {out : Mem} (hf : f_X7_takeSettings b0 g1 M = some out) : Met l yX7_takeSettings (Cond.code yX7_takeSettings cX7_takeSettings 2 none :: BG) ({ frames := 1, cells := 0, slots := 0, locals := 40 } : Room) (PRE w [.ref (wAd w b0), .ref (wAd w g1)] M L) (QV w out L) 0 0 (wA w) := by
  refine kEnt hw (by decide +kernel) rfl (Nat.le_of_ble_eq_true rfl) ?_
  intro p e s m args below meth c C ls hl hP
  have hS : va_S (wA w) s.heap s.heap [] := va_S.rf
  have hl : lv_has ls 2 [(0, .ref (wAd w b0)), (1, .ref (wAd w g1))] := hl
  unfold f_X7_takeSettings at hf
  refine lv_aload_n C.1 C.2.1 dX7_takeSettings_0 rfl (lv_at hl 1 rfl) ?_
  refine lv_iconst (v := 0) C.1 C.2.1 dX7_takeSettings_1 (by decide) ?_
  refine lv_aload_n C.1 C.2.1 dX7_takeSettings_2 rfl (lv_at hl 0 rfl) ?_
  refine k_get (v := .ref (wAd w (b0 + 1))) C hP (lt_View hb0) (ob_View hb0 w L _) rfl iX7 0 (by decide) q256 rfl dX7_takeSettings_3 ?_
  refine lv_iconst (v := 0) C.1 C.2.1 dX7_takeSettings_6 (by decide) ?_
  refine lv_bipush (v := 10) C.1 C.2.1 dX7_takeSettings_7 (by decide) ?_
  obtain ⟨M1, hM1, hf⟩ := ob hf
  refine k_cpy C hl.1 hP hS (la_S hg1) (ar_S hg1 w L _) (la_View_settings hb0) (ar_View_settings hb0 w L) q585 q573 q572 q16 hM1 (Nat.le_of_ble_eq_true rfl) (Nat.le_of_ble_eq_true rfl) dX7_takeSettings_9 (fun H locs hP hS => ?_)
  cases hf
  exact krv C hP hS dX7_takeSettings_12
theorem dX7_look_0 : decode cX7_look 0 = .ok (.aload_n 0, 1) := by decide +kernel
theorem dX7_look_1 : decode cX7_look 1 = .ok (.getfield 26, 3) := by decide +kernel
theorem dX7_look_4 : decode cX7_look 4 = .ok (.aload_n 1, 1) := by decide +kernel
theorem dX7_look_5 : decode cX7_look 5 = .ok (.aload_n 0, 1) := by decide +kernel
theorem dX7_look_6 : decode cX7_look 6 = .ok (.getfield 18, 3) := by decide +kernel
theorem dX7_look_9 : decode cX7_look 9 = .ok (.invokevirtual 50, 3) := by decide +kernel
theorem dX7_look_12 : decode cX7_look 12 = .ok (.aload_n 0, 1) := by decide +kernel
theorem dX7_look_13 : decode cX7_look 13 = .ok (.getfield 26, 3) := by decide +kernel
theorem dX7_look_16 : decode cX7_look 16 = .ok (.aload_n 1, 1) := by decide +kernel
theorem dX7_look_17 : decode cX7_look 17 = .ok (.aload_n 0, 1) := by decide +kernel
theorem dX7_look_18 : decode cX7_look 18 = .ok (.getfield 18, 3) := by decide +kernel
theorem dX7_look_21 : decode cX7_look 21 = .ok (.invokevirtual 54, 3) := by decide +kernel
theorem dX7_look_24 : decode cX7_look 24 = .ok (.aload_n 0, 1) := by decide +kernel
theorem dX7_look_25 : decode cX7_look 25 = .ok (.getfield 26, 3) := by decide +kernel
theorem dX7_look_28 : decode cX7_look 28 = .ok (.aload_n 0, 1) := by decide +kernel
theorem dX7_look_29 : decode cX7_look 29 = .ok (.getfield 18, 3) := by decide +kernel
theorem dX7_look_32 : decode cX7_look 32 = .ok (.invokevirtual 57, 3) := by decide +kernel
theorem dX7_look_35 : decode cX7_look 35 = .ok (.aload_n 0, 1) := by decide +kernel
theorem dX7_look_36 : decode cX7_look 36 = .ok (.getfield 33, 3) := by decide +kernel
theorem dX7_look_39 : decode cX7_look 39 = .ok (.aload_n 0, 1) := by decide +kernel
theorem dX7_look_40 : decode cX7_look 40 = .ok (.getfield 26, 3) := by decide +kernel
theorem dX7_look_43 : decode cX7_look 43 = .ok (.aload_n 0, 1) := by decide +kernel
theorem dX7_look_44 : decode cX7_look 44 = .ok (.getfield 18, 3) := by decide +kernel
theorem dX7_look_47 : decode cX7_look 47 = .ok (.invokevirtual 61, 3) := by decide +kernel
theorem dX7_look_50 : decode cX7_look 50 = .ok (.aload_n 0, 1) := by decide +kernel
theorem dX7_look_51 : decode cX7_look 51 = .ok (.getfield 40, 3) := by decide +kernel
theorem dX7_look_54 : decode cX7_look 54 = .ok (.aload_n 1, 1) := by decide +kernel
theorem dX7_look_55 : decode cX7_look 55 = .ok (.aload_n 0, 1) := by decide +kernel
theorem dX7_look_56 : decode cX7_look 56 = .ok (.getfield 33, 3) := by decide +kernel
theorem dX7_look_59 : decode cX7_look 59 = .ok (.aload_n 0, 1) := by decide +kernel
theorem dX7_look_60 : decode cX7_look 60 = .ok (.getfield 18, 3) := by decide +kernel
theorem dX7_look_63 : decode cX7_look 63 = .ok (.bipush 7, 2) := by decide +kernel
theorem dX7_look_65 : decode cX7_look 65 = .ok (.iaload, 1) := by decide +kernel
theorem dX7_look_66 : decode cX7_look 66 = .ok (.invokevirtual 65, 3) := by decide +kernel
theorem dX7_look_69 : decode cX7_look 69 = .ok (.return_, 1) := by decide +kernel
set_option maxHeartbeats 4000000 in
set_option maxRecDepth 100000 in
theorem c_X7_look (w : WT) (l : Launch) (hw : WOK w) {b0 : Nat} {b1 : Nat} (hb0 : isVw b0) (hb1 : isSt b1) {M : Mem} {L : Lng} {out : Mem} (hf : f_X7_look b0 b1 M = some out) : Met l yX7_look (Cond.code yX7_look cX7_look 2 none :: BG) ({ frames := 4, cells := 0, slots := 0, locals := 90 } : Room) (PRE w [.ref (wAd w b0), .ref (wAd w b1)] M L) (QV w out L) 0 0 (wA w) := by
  refine kEnt hw (by decide +kernel) rfl (Nat.le_of_ble_eq_true rfl) ?_
  intro p e s m args below meth c C ls hl hP
  have hS : va_S (wA w) s.heap s.heap [] := va_S.rf
  have hl : lv_has ls 2 [(0, .ref (wAd w b0)), (1, .ref (wAd w b1))] := hl
  unfold f_X7_look at hf
  refine lv_aload_n C.1 C.2.1 dX7_look_0 rfl (lv_at hl 0 rfl) ?_
  refine k_get (v := .ref (wAd w (b0 + 2))) C hP (lt_View hb0) (ob_View hb0 w L _) rfl iX7 1 (by decide) q258 rfl dX7_look_1 ?_
  refine lv_aload_n C.1 C.2.1 dX7_look_4 rfl (lv_at hl 1 rfl) ?_
  refine lv_aload_n C.1 C.2.1 dX7_look_5 rfl (lv_at hl 0 rfl) ?_
  refine k_get (v := .ref (wAd w (b0 + 1))) C hP (lt_View hb0) (ob_View hb0 w L _) rfl iX7 0 (by decide) q256 rfl dX7_look_6 ?_
  obtain ⟨r1, hr1, hf⟩ := ob hf
  refine kcv (kV (As := [.ref (wAd w b1), .ref (wAd w (b0 + 1))]) (rest := []) C hl.1 hP hS (c_X4_moveArms w l C.2.2.2.2.2.2.2.2 (to_View_minutes hb0) hb1 (s_View hb0) (L := L) hr1) (gV q590 q591 q592 q6 q593) hd_X4_moveArms (lt_Minutes (to_View_minutes hb0)) (ob_Minutes (to_View_minutes hb0) w L _) rfl ⟨rfl, rfl⟩ ⟨Nat.le_of_ble_eq_true rfl, Nat.le_of_ble_eq_true rfl⟩ rfl rfl (Nat.le_of_ble_eq_true rfl) dX7_look_9 ⟨Nat.zero_le _, Nat.zero_le _⟩) hS (fun H locs hP hS => ?_)
  refine lv_aload_n C.1 C.2.1 dX7_look_12 rfl (lv_at hl 0 rfl) ?_
  refine k_get (v := .ref (wAd w (b0 + 2))) C hP (lt_View hb0) (ob_View hb0 w L _) rfl iX7 1 (by decide) q258 rfl dX7_look_13 ?_
  refine lv_aload_n C.1 C.2.1 dX7_look_16 rfl (lv_at hl 1 rfl) ?_
  refine lv_aload_n C.1 C.2.1 dX7_look_17 rfl (lv_at hl 0 rfl) ?_
  refine k_get (v := .ref (wAd w (b0 + 1))) C hP (lt_View hb0) (ob_View hb0 w L _) rfl iX7 0 (by decide) q256 rfl dX7_look_18 ?_
  obtain ⟨r2, hr2, hf⟩ := ob hf
  refine kcv (kV (As := [.ref (wAd w b1), .ref (wAd w (b0 + 1))]) (rest := []) C hl.1 hP hS (c_X4_judge w l C.2.2.2.2.2.2.2.2 (to_View_minutes hb0) hb1 (s_View hb0) (L := L) hr2) (gV q595 q596 q597 q6 q598) hd_X4_judge (lt_Minutes (to_View_minutes hb0)) (ob_Minutes (to_View_minutes hb0) w L _) rfl ⟨rfl, rfl⟩ ⟨Nat.le_of_ble_eq_true rfl, Nat.le_of_ble_eq_true rfl⟩ rfl rfl (Nat.le_of_ble_eq_true rfl) dX7_look_21 ⟨Nat.zero_le _, Nat.zero_le _⟩) hS (fun H locs hP hS => ?_)
  refine lv_aload_n C.1 C.2.1 dX7_look_24 rfl (lv_at hl 0 rfl) ?_
  refine k_get (v := .ref (wAd w (b0 + 2))) C hP (lt_View hb0) (ob_View hb0 w L _) rfl iX7 1 (by decide) q258 rfl dX7_look_25 ?_
  refine lv_aload_n C.1 C.2.1 dX7_look_28 rfl (lv_at hl 0 rfl) ?_
  refine k_get (v := .ref (wAd w (b0 + 1))) C hP (lt_View hb0) (ob_View hb0 w L _) rfl iX7 0 (by decide) q256 rfl dX7_look_29 ?_
  obtain ⟨r3, hr3, hf⟩ := ob hf
  refine kcv (kV (As := [.ref (wAd w (b0 + 1))]) (rest := []) C hl.1 hP hS (c_X4_tally w l C.2.2.2.2.2.2.2.2 (to_View_minutes hb0) (s_View hb0) (L := L) hr3) (gV q601 q602 q603 q6 q604) hd_X4_tally (lt_Minutes (to_View_minutes hb0)) (ob_Minutes (to_View_minutes hb0) w L _) rfl ⟨rfl, rfl⟩ ⟨Nat.le_of_ble_eq_true rfl, Nat.le_of_ble_eq_true rfl⟩ rfl rfl (Nat.le_of_ble_eq_true rfl) dX7_look_32 ⟨Nat.zero_le _, Nat.zero_le _⟩) hS (fun H locs hP hS => ?_)
  refine lv_aload_n C.1 C.2.1 dX7_look_35 rfl (lv_at hl 0 rfl) ?_
  refine k_get (v := .ref (wAd w (b0 + 6))) C hP (lt_View hb0) (ob_View hb0 w L _) rfl iX7 2 (by decide) q260 rfl dX7_look_36 ?_
  refine lv_aload_n C.1 C.2.1 dX7_look_39 rfl (lv_at hl 0 rfl) ?_
  refine k_get (v := .ref (wAd w (b0 + 2))) C hP (lt_View hb0) (ob_View hb0 w L _) rfl iX7 1 (by decide) q258 rfl dX7_look_40 ?_
  refine lv_aload_n C.1 C.2.1 dX7_look_43 rfl (lv_at hl 0 rfl) ?_
  refine k_get (v := .ref (wAd w (b0 + 1))) C hP (lt_View hb0) (ob_View hb0 w L _) rfl iX7 0 (by decide) q256 rfl dX7_look_44 ?_
  obtain ⟨r4, hr4, hf⟩ := ob hf
  refine kcv (kV (As := [.ref (wAd w (b0 + 2)), .ref (wAd w (b0 + 1))]) (rest := []) C hl.1 hP hS (c_X0_find w l C.2.2.2.2.2.2.2.2 (to_View_exceedances hb0) (to_View_minutes hb0) (s_View hb0) (L := L) hr4) (gV q607 q608 q609 q7 q610) hd_X0_find (lt_Exceedances (to_View_exceedances hb0)) (ob_Exceedances (to_View_exceedances hb0) w L _) rfl ⟨rfl, rfl⟩ ⟨Nat.le_of_ble_eq_true rfl, Nat.le_of_ble_eq_true rfl⟩ rfl rfl (Nat.le_of_ble_eq_true rfl) dX7_look_47 ⟨Nat.zero_le _, Nat.zero_le _⟩) hS (fun H locs hP hS => ?_)
  refine lv_aload_n C.1 C.2.1 dX7_look_50 rfl (lv_at hl 0 rfl) ?_
  refine k_get (v := .ref (wAd w (b0 + 13))) C hP (lt_View hb0) (ob_View hb0 w L _) rfl iX7 3 (by decide) q262 rfl dX7_look_51 ?_
  refine lv_aload_n C.1 C.2.1 dX7_look_54 rfl (lv_at hl 1 rfl) ?_
  refine lv_aload_n C.1 C.2.1 dX7_look_55 rfl (lv_at hl 0 rfl) ?_
  refine k_get (v := .ref (wAd w (b0 + 6))) C hP (lt_View hb0) (ob_View hb0 w L _) rfl iX7 2 (by decide) q260 rfl dX7_look_56 ?_
  refine lv_aload_n C.1 C.2.1 dX7_look_59 rfl (lv_at hl 0 rfl) ?_
  refine k_get (v := .ref (wAd w (b0 + 1))) C hP (lt_View hb0) (ob_View hb0 w L _) rfl iX7 0 (by decide) q256 rfl dX7_look_60 ?_
  refine lv_bipush (v := 7) C.1 C.2.1 dX7_look_63 (by decide) ?_
  obtain ⟨x5, hx5, hf⟩ := ob hf
  refine k_iald C hP (la_View_settings hb0) (ar_View_settings hb0 w L _) hx5 dX7_look_65 ?_
  obtain ⟨r6, hr6, hf⟩ := ob hf
  refine kcv (kV (As := [.ref (wAd w b1), .ref (wAd w (b0 + 6)), .int x5]) (rest := []) C hl.1 hP hS (c_X3_match w l C.2.2.2.2.2.2.2.2 (to_View_matches hb0) hb1 (to_View_exceedances hb0) (L := L) hr6) (gV q627 q628 q629 q8 q630) hd_X3_match (lt_Matches (to_View_matches hb0)) (ob_Matches (to_View_matches hb0) w L _) rfl ⟨rfl, rfl⟩ ⟨Nat.le_of_ble_eq_true rfl, Nat.le_of_ble_eq_true rfl⟩ rfl rfl (Nat.le_of_ble_eq_true rfl) dX7_look_66 ⟨Nat.zero_le _, Nat.zero_le _⟩) hS (fun H locs hP hS => ?_)
  cases hf
  exact krv C hP hS dX7_look_69
theorem dX7_numberOf_0 : decode cX7_numberOf 0 = .ok (.iload_n 1, 1) := by decide +kernel
theorem dX7_numberOf_1 : decode cX7_numberOf 1 = .ok (.tableswitch 143 0 9 #[55, 63, 71, 87, 95, 103, 111, 119, 127, 135], 55) := by decide +kernel
theorem dX7_numberOf_56 : decode cX7_numberOf 56 = .ok (.aload_n 0, 1) := by decide +kernel
theorem dX7_numberOf_57 : decode cX7_numberOf 57 = .ok (.getfield 26, 3) := by decide +kernel
theorem dX7_numberOf_60 : decode cX7_numberOf 60 = .ok (.getfield 69, 3) := by decide +kernel
theorem dX7_numberOf_63 : decode cX7_numberOf 63 = .ok (.ireturn, 1) := by decide +kernel
theorem dX7_numberOf_64 : decode cX7_numberOf 64 = .ok (.aload_n 0, 1) := by decide +kernel
theorem dX7_numberOf_65 : decode cX7_numberOf 65 = .ok (.getfield 26, 3) := by decide +kernel
theorem dX7_numberOf_68 : decode cX7_numberOf 68 = .ok (.getfield 73, 3) := by decide +kernel
theorem dX7_numberOf_71 : decode cX7_numberOf 71 = .ok (.ireturn, 1) := by decide +kernel
theorem dX7_numberOf_72 : decode cX7_numberOf 72 = .ok (.aload_n 0, 1) := by decide +kernel
theorem dX7_numberOf_73 : decode cX7_numberOf 73 = .ok (.getfield 26, 3) := by decide +kernel
theorem dX7_numberOf_76 : decode cX7_numberOf 76 = .ok (.getfield 69, 3) := by decide +kernel
theorem dX7_numberOf_79 : decode cX7_numberOf 79 = .ok (.aload_n 0, 1) := by decide +kernel
theorem dX7_numberOf_80 : decode cX7_numberOf 80 = .ok (.getfield 26, 3) := by decide +kernel
theorem dX7_numberOf_83 : decode cX7_numberOf 83 = .ok (.getfield 73, 3) := by decide +kernel
theorem dX7_numberOf_86 : decode cX7_numberOf 86 = .ok (.isub, 1) := by decide +kernel
theorem dX7_numberOf_87 : decode cX7_numberOf 87 = .ok (.ireturn, 1) := by decide +kernel
theorem dX7_numberOf_88 : decode cX7_numberOf 88 = .ok (.aload_n 0, 1) := by decide +kernel
theorem dX7_numberOf_89 : decode cX7_numberOf 89 = .ok (.getfield 26, 3) := by decide +kernel
theorem dX7_numberOf_92 : decode cX7_numberOf 92 = .ok (.getfield 76, 3) := by decide +kernel
theorem dX7_numberOf_95 : decode cX7_numberOf 95 = .ok (.ireturn, 1) := by decide +kernel
theorem dX7_numberOf_96 : decode cX7_numberOf 96 = .ok (.aload_n 0, 1) := by decide +kernel
theorem dX7_numberOf_97 : decode cX7_numberOf 97 = .ok (.getfield 26, 3) := by decide +kernel
theorem dX7_numberOf_100 : decode cX7_numberOf 100 = .ok (.getfield 79, 3) := by decide +kernel
theorem dX7_numberOf_103 : decode cX7_numberOf 103 = .ok (.ireturn, 1) := by decide +kernel
theorem dX7_numberOf_104 : decode cX7_numberOf 104 = .ok (.aload_n 0, 1) := by decide +kernel
theorem dX7_numberOf_105 : decode cX7_numberOf 105 = .ok (.getfield 33, 3) := by decide +kernel
theorem dX7_numberOf_108 : decode cX7_numberOf 108 = .ok (.getfield 82, 3) := by decide +kernel
theorem dX7_numberOf_111 : decode cX7_numberOf 111 = .ok (.ireturn, 1) := by decide +kernel
theorem dX7_numberOf_112 : decode cX7_numberOf 112 = .ok (.aload_n 0, 1) := by decide +kernel
theorem dX7_numberOf_113 : decode cX7_numberOf 113 = .ok (.getfield 40, 3) := by decide +kernel
theorem dX7_numberOf_116 : decode cX7_numberOf 116 = .ok (.getfield 85, 3) := by decide +kernel
theorem dX7_numberOf_119 : decode cX7_numberOf 119 = .ok (.ireturn, 1) := by decide +kernel
theorem dX7_numberOf_120 : decode cX7_numberOf 120 = .ok (.aload_n 0, 1) := by decide +kernel
theorem dX7_numberOf_121 : decode cX7_numberOf 121 = .ok (.getfield 40, 3) := by decide +kernel
theorem dX7_numberOf_124 : decode cX7_numberOf 124 = .ok (.getfield 88, 3) := by decide +kernel
theorem dX7_numberOf_127 : decode cX7_numberOf 127 = .ok (.ireturn, 1) := by decide +kernel
theorem dX7_numberOf_128 : decode cX7_numberOf 128 = .ok (.aload_n 0, 1) := by decide +kernel
theorem dX7_numberOf_129 : decode cX7_numberOf 129 = .ok (.getfield 33, 3) := by decide +kernel
theorem dX7_numberOf_132 : decode cX7_numberOf 132 = .ok (.invokevirtual 91, 3) := by decide +kernel
theorem dX7_numberOf_135 : decode cX7_numberOf 135 = .ok (.ireturn, 1) := by decide +kernel
theorem dX7_numberOf_136 : decode cX7_numberOf 136 = .ok (.aload_n 0, 1) := by decide +kernel
theorem dX7_numberOf_137 : decode cX7_numberOf 137 = .ok (.getfield 33, 3) := by decide +kernel
theorem dX7_numberOf_140 : decode cX7_numberOf 140 = .ok (.invokevirtual 95, 3) := by decide +kernel
theorem dX7_numberOf_143 : decode cX7_numberOf 143 = .ok (.ireturn, 1) := by decide +kernel
theorem dX7_numberOf_144 : decode cX7_numberOf 144 = .ok (.aload_n 0, 1) := by decide +kernel
theorem dX7_numberOf_145 : decode cX7_numberOf 145 = .ok (.getfield 33, 3) := by decide +kernel
theorem dX7_numberOf_148 : decode cX7_numberOf 148 = .ok (.getfield 98, 3) := by decide +kernel
theorem dX7_numberOf_151 : decode cX7_numberOf 151 = .ok (.ifCond .eq 7, 3) := by decide +kernel
theorem dX7_numberOf_154 : decode cX7_numberOf 154 = .ok (.iconst 1, 1) := by decide +kernel
theorem dX7_numberOf_155 : decode cX7_numberOf 155 = .ok (.goto 4, 3) := by decide +kernel
theorem dX7_numberOf_158 : decode cX7_numberOf 158 = .ok (.iconst 0, 1) := by decide +kernel
theorem dX7_numberOf_159 : decode cX7_numberOf 159 = .ok (.ireturn, 1) := by decide +kernel
set_option maxHeartbeats 4000000 in
set_option maxRecDepth 100000 in
theorem c_X7_numberOf (w : WT) (l : Launch) (hw : WOK w) {b0 : Nat} (hb0 : isVw b0) {a1 : Int32} {M : Mem} {L : Lng} {out : Int32} (hf : f_X7_numberOf b0 a1 M = some out) : Met l yX7_numberOf (Cond.code yX7_numberOf cX7_numberOf 2 (some .int) :: BG) ({ frames := 1, cells := 0, slots := 0, locals := 22 } : Room) (PRE w [.ref (wAd w b0), .int a1] M L) (QI w out M L) 0 0 (wA w) := by
  refine kEnt hw (by decide +kernel) rfl (Nat.le_of_ble_eq_true rfl) ?_
  intro p e s m args below meth c C ls hl hP
  have hS : va_S (wA w) s.heap s.heap [] := va_S.rf
  have hl : lv_has ls 2 [(0, .ref (wAd w b0)), (1, .int a1)] := hl
  unfold f_X7_numberOf at hf
  refine lv_iload_n C.1 C.2.1 dX7_numberOf_0 rfl (lv_at hl 1 rfl) ?_
  by_cases c1 : a1 = 0
  · have hf := (if_pos c1).symm.trans hf
    refine lv_tableIn (off := 55) (tgt := 56) C.1 C.2.1 dX7_numberOf_1 (by rw [c1]; decide) (by rw [c1]; decide) (by rw [c1]; rfl) (by decide) ?_
    refine lv_aload_n C.1 C.2.1 dX7_numberOf_56 rfl (lv_at hl 0 rfl) ?_
    refine k_get (v := .ref (wAd w (b0 + 2))) C hP (lt_View hb0) (ob_View hb0 w L _) rfl iX7 1 (by decide) q258 rfl dX7_numberOf_57 ?_
    refine k_get (v := .int (M (b0 + 2) 3)) C hP (lt_Minutes (to_View_minutes hb0)) (ob_Minutes (to_View_minutes hb0) w L _) rfl iX4 3 (by decide) q160 rfl dX7_numberOf_60 ?_
    cases hf
    exact kri C hP hS dX7_numberOf_63
  · have hf := (if_neg c1).symm.trans hf
    by_cases c2 : a1 = 1
    · have hf := (if_pos c2).symm.trans hf
      refine lv_tableIn (off := 63) (tgt := 64) C.1 C.2.1 dX7_numberOf_1 (by rw [c2]; decide) (by rw [c2]; decide) (by rw [c2]; rfl) (by decide) ?_
      refine lv_aload_n C.1 C.2.1 dX7_numberOf_64 rfl (lv_at hl 0 rfl) ?_
      refine k_get (v := .ref (wAd w (b0 + 2))) C hP (lt_View hb0) (ob_View hb0 w L _) rfl iX7 1 (by decide) q258 rfl dX7_numberOf_65 ?_
      refine k_get (v := .int (M (b0 + 2) 4)) C hP (lt_Minutes (to_View_minutes hb0)) (ob_Minutes (to_View_minutes hb0) w L _) rfl iX4 4 (by decide) q162 rfl dX7_numberOf_68 ?_
      cases hf
      exact kri C hP hS dX7_numberOf_71
    · have hf := (if_neg c2).symm.trans hf
      by_cases c3 : a1 = 2
      · have hf := (if_pos c3).symm.trans hf
        refine lv_tableIn (off := 71) (tgt := 72) C.1 C.2.1 dX7_numberOf_1 (by rw [c3]; decide) (by rw [c3]; decide) (by rw [c3]; rfl) (by decide) ?_
        refine lv_aload_n C.1 C.2.1 dX7_numberOf_72 rfl (lv_at hl 0 rfl) ?_
        refine k_get (v := .ref (wAd w (b0 + 2))) C hP (lt_View hb0) (ob_View hb0 w L _) rfl iX7 1 (by decide) q258 rfl dX7_numberOf_73 ?_
        refine k_get (v := .int (M (b0 + 2) 3)) C hP (lt_Minutes (to_View_minutes hb0)) (ob_Minutes (to_View_minutes hb0) w L _) rfl iX4 3 (by decide) q160 rfl dX7_numberOf_76 ?_
        refine lv_aload_n C.1 C.2.1 dX7_numberOf_79 rfl (lv_at hl 0 rfl) ?_
        refine k_get (v := .ref (wAd w (b0 + 2))) C hP (lt_View hb0) (ob_View hb0 w L _) rfl iX7 1 (by decide) q258 rfl dX7_numberOf_80 ?_
        refine k_get (v := .int (M (b0 + 2) 4)) C hP (lt_Minutes (to_View_minutes hb0)) (ob_Minutes (to_View_minutes hb0) w L _) rfl iX4 4 (by decide) q162 rfl dX7_numberOf_83 ?_
        refine lv_isub C.1 C.2.1 dX7_numberOf_86 ?_
        cases hf
        exact kri C hP hS dX7_numberOf_87
      · have hf := (if_neg c3).symm.trans hf
        by_cases c4 : a1 = 3
        · have hf := (if_pos c4).symm.trans hf
          refine lv_tableIn (off := 87) (tgt := 88) C.1 C.2.1 dX7_numberOf_1 (by rw [c4]; decide) (by rw [c4]; decide) (by rw [c4]; rfl) (by decide) ?_
          refine lv_aload_n C.1 C.2.1 dX7_numberOf_88 rfl (lv_at hl 0 rfl) ?_
          refine k_get (v := .ref (wAd w (b0 + 2))) C hP (lt_View hb0) (ob_View hb0 w L _) rfl iX7 1 (by decide) q258 rfl dX7_numberOf_89 ?_
          refine k_get (v := .int (M (b0 + 2) 5)) C hP (lt_Minutes (to_View_minutes hb0)) (ob_Minutes (to_View_minutes hb0) w L _) rfl iX4 5 (by decide) q165 rfl dX7_numberOf_92 ?_
          cases hf
          exact kri C hP hS dX7_numberOf_95
        · have hf := (if_neg c4).symm.trans hf
          by_cases c5 : a1 = 4
          · have hf := (if_pos c5).symm.trans hf
            refine lv_tableIn (off := 95) (tgt := 96) C.1 C.2.1 dX7_numberOf_1 (by rw [c5]; decide) (by rw [c5]; decide) (by rw [c5]; rfl) (by decide) ?_
            refine lv_aload_n C.1 C.2.1 dX7_numberOf_96 rfl (lv_at hl 0 rfl) ?_
            refine k_get (v := .ref (wAd w (b0 + 2))) C hP (lt_View hb0) (ob_View hb0 w L _) rfl iX7 1 (by decide) q258 rfl dX7_numberOf_97 ?_
            refine k_get (v := .int (M (b0 + 2) 6)) C hP (lt_Minutes (to_View_minutes hb0)) (ob_Minutes (to_View_minutes hb0) w L _) rfl iX4 6 (by decide) q167 rfl dX7_numberOf_100 ?_
            cases hf
            exact kri C hP hS dX7_numberOf_103
          · have hf := (if_neg c5).symm.trans hf
            by_cases c6 : a1 = 5
            · have hf := (if_pos c6).symm.trans hf
              refine lv_tableIn (off := 103) (tgt := 104) C.1 C.2.1 dX7_numberOf_1 (by rw [c6]; decide) (by rw [c6]; decide) (by rw [c6]; rfl) (by decide) ?_
              refine lv_aload_n C.1 C.2.1 dX7_numberOf_104 rfl (lv_at hl 0 rfl) ?_
              refine k_get (v := .ref (wAd w (b0 + 6))) C hP (lt_View hb0) (ob_View hb0 w L _) rfl iX7 2 (by decide) q260 rfl dX7_numberOf_105 ?_
              refine k_get (v := .int (M (b0 + 6) 6)) C hP (lt_Exceedances (to_View_exceedances hb0)) (ob_Exceedances (to_View_exceedances hb0) w L _) rfl iX0 6 (by decide) q210 rfl dX7_numberOf_108 ?_
              cases hf
              exact kri C hP hS dX7_numberOf_111
            · have hf := (if_neg c6).symm.trans hf
              by_cases c7 : a1 = 6
              · have hf := (if_pos c7).symm.trans hf
                refine lv_tableIn (off := 111) (tgt := 112) C.1 C.2.1 dX7_numberOf_1 (by rw [c7]; decide) (by rw [c7]; decide) (by rw [c7]; rfl) (by decide) ?_
                refine lv_aload_n C.1 C.2.1 dX7_numberOf_112 rfl (lv_at hl 0 rfl) ?_
                refine k_get (v := .ref (wAd w (b0 + 13))) C hP (lt_View hb0) (ob_View hb0 w L _) rfl iX7 3 (by decide) q262 rfl dX7_numberOf_113 ?_
                refine k_get (v := .int (M (b0 + 13) 3)) C hP (lt_Matches (to_View_matches hb0)) (ob_Matches (to_View_matches hb0) w L _) rfl iX3 3 (by decide) q242 rfl dX7_numberOf_116 ?_
                cases hf
                exact kri C hP hS dX7_numberOf_119
              · have hf := (if_neg c7).symm.trans hf
                by_cases c8 : a1 = 7
                · have hf := (if_pos c8).symm.trans hf
                  refine lv_tableIn (off := 119) (tgt := 120) C.1 C.2.1 dX7_numberOf_1 (by rw [c8]; decide) (by rw [c8]; decide) (by rw [c8]; rfl) (by decide) ?_
                  refine lv_aload_n C.1 C.2.1 dX7_numberOf_120 rfl (lv_at hl 0 rfl) ?_
                  refine k_get (v := .ref (wAd w (b0 + 13))) C hP (lt_View hb0) (ob_View hb0 w L _) rfl iX7 3 (by decide) q262 rfl dX7_numberOf_121 ?_
                  refine k_get (v := .int (M (b0 + 13) 4)) C hP (lt_Matches (to_View_matches hb0)) (ob_Matches (to_View_matches hb0) w L _) rfl iX3 4 (by decide) q244 rfl dX7_numberOf_124 ?_
                  cases hf
                  exact kri C hP hS dX7_numberOf_127
                · have hf := (if_neg c8).symm.trans hf
                  by_cases c9 : a1 = 8
                  · have hf := (if_pos c9).symm.trans hf
                    refine lv_tableIn (off := 127) (tgt := 128) C.1 C.2.1 dX7_numberOf_1 (by rw [c9]; decide) (by rw [c9]; decide) (by rw [c9]; rfl) (by decide) ?_
                    refine lv_aload_n C.1 C.2.1 dX7_numberOf_128 rfl (lv_at hl 0 rfl) ?_
                    refine k_get (v := .ref (wAd w (b0 + 6))) C hP (lt_View hb0) (ob_View hb0 w L _) rfl iX7 2 (by decide) q260 rfl dX7_numberOf_129 ?_
                    obtain ⟨r10, hr10, hf⟩ := ob hf
                    refine kci (kV (As := []) (rest := []) C hl.1 hP hS (c_X0_weightOfAll w l C.2.2.2.2.2.2.2.2 (to_View_exceedances hb0) (L := L) hr10) (gV q364 q365 q366 q7 q367) hd_X0_weightOfAll (lt_Exceedances (to_View_exceedances hb0)) (ob_Exceedances (to_View_exceedances hb0) w L _) rfl ⟨rfl, rfl⟩ ⟨Nat.le_of_ble_eq_true rfl, Nat.le_of_ble_eq_true rfl⟩ rfl rfl (Nat.le_of_ble_eq_true rfl) dX7_numberOf_132 ⟨Nat.zero_le _, Nat.zero_le _⟩) hS (fun H locs hP hS => ?_)
                    cases hf
                    exact kri C hP hS dX7_numberOf_135
                  · have hf := (if_neg c9).symm.trans hf
                    by_cases c11 : a1 = 9
                    · have hf := (if_pos c11).symm.trans hf
                      refine lv_tableIn (off := 135) (tgt := 136) C.1 C.2.1 dX7_numberOf_1 (by rw [c11]; decide) (by rw [c11]; decide) (by rw [c11]; rfl) (by decide) ?_
                      refine lv_aload_n C.1 C.2.1 dX7_numberOf_136 rfl (lv_at hl 0 rfl) ?_
                      refine k_get (v := .ref (wAd w (b0 + 6))) C hP (lt_View hb0) (ob_View hb0 w L _) rfl iX7 2 (by decide) q260 rfl dX7_numberOf_137 ?_
                      obtain ⟨r12, hr12, hf⟩ := ob hf
                      refine kci (kV (As := []) (rest := []) C hl.1 hP hS (c_X0_heaviest w l C.2.2.2.2.2.2.2.2 (to_View_exceedances hb0) (L := L) hr12) (gV q368 q369 q370 q7 q371) hd_X0_heaviest (lt_Exceedances (to_View_exceedances hb0)) (ob_Exceedances (to_View_exceedances hb0) w L _) rfl ⟨rfl, rfl⟩ ⟨Nat.le_of_ble_eq_true rfl, Nat.le_of_ble_eq_true rfl⟩ rfl rfl (Nat.le_of_ble_eq_true rfl) dX7_numberOf_140 ⟨Nat.zero_le _, Nat.zero_le _⟩) hS (fun H locs hP hS => ?_)
                      cases hf
                      exact kri C hP hS dX7_numberOf_143
                    · have hf := (if_neg c11).symm.trans hf
                      refine lv_tableOut (tgt := 144) C.1 C.2.1 dX7_numberOf_1 (by have e0 := ne_ti (n := 0) c1 (by decide); have e1 := ne_ti (n := 1) c2 (by decide); have e2 := ne_ti (n := 2) c3 (by decide); have e3 := ne_ti (n := 3) c4 (by decide); have e4 := ne_ti (n := 4) c5 (by decide); have e5 := ne_ti (n := 5) c6 (by decide); have e6 := ne_ti (n := 6) c7 (by decide); have e7 := ne_ti (n := 7) c8 (by decide); have e8 := ne_ti (n := 8) c9 (by decide); have e9 := ne_ti (n := 9) c11 (by decide); omega) (by decide) ?_
                      refine lv_aload_n C.1 C.2.1 dX7_numberOf_144 rfl (lv_at hl 0 rfl) ?_
                      refine k_get (v := .ref (wAd w (b0 + 6))) C hP (lt_View hb0) (ob_View hb0 w L _) rfl iX7 2 (by decide) q260 rfl dX7_numberOf_145 ?_
                      refine k_get (v := .int (M (b0 + 6) 7)) C hP (lt_Exceedances (to_View_exceedances hb0)) (ob_Exceedances (to_View_exceedances hb0) w L _) rfl iX0 7 (by decide) q212 rfl dX7_numberOf_148 ?_
                      refine lv_if_eq (tgt := 158) C.1 C.2.1 dX7_numberOf_151 (by decide) (fun c13 => ?_) (fun c13 => ?_)
                      · have hf := (if_pos c13).symm.trans hf
                        refine lv_iconst (v := 0) C.1 C.2.1 dX7_numberOf_158 (by decide) ?_
                        cases hf
                        exact kri C hP hS dX7_numberOf_159
                      · have hf := (if_neg c13).symm.trans hf
                        refine lv_iconst (v := 1) C.1 C.2.1 dX7_numberOf_154 (by decide) ?_
                        refine lv_goto (tgt := 159) C.1 C.2.1 dX7_numberOf_155 (by decide) ?_
                        cases hf
                        exact kri C hP hS dX7_numberOf_159
theorem dX7_isAboveWithLimit_0 : decode cX7_isAboveWithLimit 0 = .ok (.aload_n 0, 1) := by decide +kernel
theorem dX7_isAboveWithLimit_1 : decode cX7_isAboveWithLimit 1 = .ok (.getfield 26, 3) := by decide +kernel
theorem dX7_isAboveWithLimit_4 : decode cX7_isAboveWithLimit 4 = .ok (.iload_n 1, 1) := by decide +kernel
theorem dX7_isAboveWithLimit_5 : decode cX7_isAboveWithLimit 5 = .ok (.invokevirtual 110, 3) := by decide +kernel
theorem dX7_isAboveWithLimit_8 : decode cX7_isAboveWithLimit 8 = .ok (.ifCond .ne 5, 3) := by decide +kernel
theorem dX7_isAboveWithLimit_11 : decode cX7_isAboveWithLimit 11 = .ok (.iconst 0, 1) := by decide +kernel
theorem dX7_isAboveWithLimit_12 : decode cX7_isAboveWithLimit 12 = .ok (.ireturn, 1) := by decide +kernel
theorem dX7_isAboveWithLimit_13 : decode cX7_isAboveWithLimit 13 = .ok (.iload_n 1, 1) := by decide +kernel
theorem dX7_isAboveWithLimit_14 : decode cX7_isAboveWithLimit 14 = .ok (.aload_n 0, 1) := by decide +kernel
theorem dX7_isAboveWithLimit_15 : decode cX7_isAboveWithLimit 15 = .ok (.getfield 18, 3) := by decide +kernel
theorem dX7_isAboveWithLimit_18 : decode cX7_isAboveWithLimit 18 = .ok (.invokestatic 114, 3) := by decide +kernel
theorem dX7_isAboveWithLimit_21 : decode cX7_isAboveWithLimit 21 = .ok (.ifCond .eq 12, 3) := by decide +kernel
theorem dX7_isAboveWithLimit_24 : decode cX7_isAboveWithLimit 24 = .ok (.aload_n 0, 1) := by decide +kernel
theorem dX7_isAboveWithLimit_25 : decode cX7_isAboveWithLimit 25 = .ok (.getfield 18, 3) := by decide +kernel
theorem dX7_isAboveWithLimit_28 : decode cX7_isAboveWithLimit 28 = .ok (.iconst 1, 1) := by decide +kernel
theorem dX7_isAboveWithLimit_29 : decode cX7_isAboveWithLimit 29 = .ok (.iaload, 1) := by decide +kernel
theorem dX7_isAboveWithLimit_30 : decode cX7_isAboveWithLimit 30 = .ok (.goto 4, 3) := by decide +kernel
theorem dX7_isAboveWithLimit_33 : decode cX7_isAboveWithLimit 33 = .ok (.iload_n 2, 1) := by decide +kernel
theorem dX7_isAboveWithLimit_34 : decode cX7_isAboveWithLimit 34 = .ok (.istore_n 3, 1) := by decide +kernel
theorem dX7_isAboveWithLimit_35 : decode cX7_isAboveWithLimit 35 = .ok (.aload_n 0, 1) := by decide +kernel
theorem dX7_isAboveWithLimit_36 : decode cX7_isAboveWithLimit 36 = .ok (.getfield 26, 3) := by decide +kernel
theorem dX7_isAboveWithLimit_39 : decode cX7_isAboveWithLimit 39 = .ok (.getfield 118, 3) := by decide +kernel
theorem dX7_isAboveWithLimit_42 : decode cX7_isAboveWithLimit 42 = .ok (.iload_n 1, 1) := by decide +kernel
theorem dX7_isAboveWithLimit_43 : decode cX7_isAboveWithLimit 43 = .ok (.iaload, 1) := by decide +kernel
theorem dX7_isAboveWithLimit_44 : decode cX7_isAboveWithLimit 44 = .ok (.bipush 10, 2) := by decide +kernel
theorem dX7_isAboveWithLimit_46 : decode cX7_isAboveWithLimit 46 = .ok (.iload_n 3, 1) := by decide +kernel
theorem dX7_isAboveWithLimit_47 : decode cX7_isAboveWithLimit 47 = .ok (.imul, 1) := by decide +kernel
theorem dX7_isAboveWithLimit_48 : decode cX7_isAboveWithLimit 48 = .ok (.if_icmp .le 7, 3) := by decide +kernel
theorem dX7_isAboveWithLimit_51 : decode cX7_isAboveWithLimit 51 = .ok (.iconst 1, 1) := by decide +kernel
theorem dX7_isAboveWithLimit_52 : decode cX7_isAboveWithLimit 52 = .ok (.goto 4, 3) := by decide +kernel
theorem dX7_isAboveWithLimit_55 : decode cX7_isAboveWithLimit 55 = .ok (.iconst 0, 1) := by decide +kernel
theorem dX7_isAboveWithLimit_56 : decode cX7_isAboveWithLimit 56 = .ok (.ireturn, 1) := by decide +kernel
set_option maxHeartbeats 4000000 in
set_option maxRecDepth 100000 in
theorem w_X7_isAboveWithLimit_j34 {b0 : Nat} {w : WT} {l : Launch} {p : Program} {e : Env} {s : State} {m : MethodId} {args : Array Value} {below : List Frame} {meth : Method} {c : Code} (C : KC w p s m args meth c cX7_isAboveWithLimit 4 RX7 (some .boolean)) (hb0 : isVw b0) {v1 : Int32} {s0 : Int32} {M : Mem} {L : Lng} {out : Int32} (hf : f_X7_isAboveWithLimit_j34 b0 v1 s0 M = some out) : AtL w p l e ({ frames := 2, cells := 0, slots := 0, locals := 43 } : Room) s m args below meth c (MQ below (QI w out M L) args s 0 0 (wA w)) 4 34 M L [(0, .ref (wAd w b0)), (1, .int v1)] [.int s0] := by
  intro H locs ls hP hS hl
  unfold f_X7_isAboveWithLimit_j34 at hf
  refine lv_istore_n (lv' := [(3, .int s0), (0, .ref (wAd w b0)), (1, .int v1)]) C.1 C.2.1 dX7_isAboveWithLimit_34 rfl hl (by decide) rfl (fun ls hl => ?_)
  refine lv_aload_n C.1 C.2.1 dX7_isAboveWithLimit_35 rfl (lv_at hl 1 rfl) ?_
  refine k_get (v := .ref (wAd w (b0 + 2))) C hP (lt_View hb0) (ob_View hb0 w L _) rfl iX7 1 (by decide) q258 rfl dX7_isAboveWithLimit_36 ?_
  refine k_get (v := .ref (wAd w (b0 + 2 + 2))) C hP (lt_Minutes (to_View_minutes hb0)) (ob_Minutes (to_View_minutes hb0) w L _) rfl iX4 1 (by decide) q152 rfl dX7_isAboveWithLimit_39 ?_
  refine lv_iload_n C.1 C.2.1 dX7_isAboveWithLimit_42 rfl (lv_at hl 2 rfl) ?_
  obtain ⟨x5, hx5, hf⟩ := ob hf
  refine k_iald C hP (la_Minutes_slow (to_View_minutes hb0)) (ar_Minutes_slow (to_View_minutes hb0) w L _) hx5 dX7_isAboveWithLimit_43 ?_
  refine lv_bipush (v := 10) C.1 C.2.1 dX7_isAboveWithLimit_44 (by decide) ?_
  refine lv_iload_n C.1 C.2.1 dX7_isAboveWithLimit_46 rfl (lv_at hl 0 rfl) ?_
  refine lv_imul C.1 C.2.1 dX7_isAboveWithLimit_47 ?_
  refine lv_icmp_le (tgt := 55) C.1 C.2.1 dX7_isAboveWithLimit_48 (by decide) (fun c6 => ?_) (fun c6 => ?_)
  · have hf := (if_pos c6).symm.trans hf
    refine lv_iconst (v := 0) C.1 C.2.1 dX7_isAboveWithLimit_55 (by decide) ?_
    cases hf
    exact krz C hP hS bz0 dX7_isAboveWithLimit_56
  · have hf := (if_neg c6).symm.trans hf
    refine lv_iconst (v := 1) C.1 C.2.1 dX7_isAboveWithLimit_51 (by decide) ?_
    refine lv_goto (tgt := 56) C.1 C.2.1 dX7_isAboveWithLimit_52 (by decide) ?_
    cases hf
    exact krz C hP hS bz1 dX7_isAboveWithLimit_56
set_option maxHeartbeats 4000000 in
set_option maxRecDepth 100000 in
theorem c_X7_isAboveWithLimit (w : WT) (l : Launch) (hw : WOK w) {b0 : Nat} (hb0 : isVw b0) {a1 : Int32} {a2 : Int32} {M : Mem} {L : Lng} {out : Int32} (hf : f_X7_isAboveWithLimit b0 a1 a2 M = some out) : Met l yX7_isAboveWithLimit (Cond.code yX7_isAboveWithLimit cX7_isAboveWithLimit 4 (some .boolean) :: BG) ({ frames := 2, cells := 0, slots := 0, locals := 43 } : Room) (PRE w [.ref (wAd w b0), .int a1, .int a2] M L) (QI w out M L) 0 0 (wA w) := by
  refine kEnt hw (by decide +kernel) rfl (Nat.le_of_ble_eq_true rfl) ?_
  intro p e s m args below meth c C ls hl hP
  have hS : va_S (wA w) s.heap s.heap [] := va_S.rf
  have hl : lv_has ls 4 [(0, .ref (wAd w b0)), (1, .int a1), (2, .int a2)] := hl
  unfold f_X7_isAboveWithLimit at hf
  refine lv_aload_n C.1 C.2.1 dX7_isAboveWithLimit_0 rfl (lv_at hl 0 rfl) ?_
  refine k_get (v := .ref (wAd w (b0 + 2))) C hP (lt_View hb0) (ob_View hb0 w L _) rfl iX7 1 (by decide) q258 rfl dX7_isAboveWithLimit_1 ?_
  refine lv_iload_n C.1 C.2.1 dX7_isAboveWithLimit_4 rfl (lv_at hl 1 rfl) ?_
  obtain ⟨r1, hr1, hf⟩ := ob hf
  refine kci (kV (As := [.int a1]) (rest := []) C hl.1 hP hS (c_X4_isCounted w l C.2.2.2.2.2.2.2.2 (to_View_minutes hb0) (L := L) hr1) (gV q429 q430 q431 q6 q432) hd_X4_isCounted (lt_Minutes (to_View_minutes hb0)) (ob_Minutes (to_View_minutes hb0) w L _) rfl ⟨rfl, rfl⟩ ⟨Nat.le_of_ble_eq_true rfl, Nat.le_of_ble_eq_true rfl⟩ rfl rfl (Nat.le_of_ble_eq_true rfl) dX7_isAboveWithLimit_5 ⟨Nat.zero_le _, Nat.zero_le _⟩) hS (fun H locs hP hS => ?_)
  refine lv_if_ne (tgt := 13) C.1 C.2.1 dX7_isAboveWithLimit_8 (by decide) (fun c2 => ?_) (fun c2 => ?_)
  · have hf := (if_neg c2).symm.trans hf
    refine lv_iload_n C.1 C.2.1 dX7_isAboveWithLimit_13 rfl (lv_at hl 1 rfl) ?_
    refine lv_aload_n C.1 C.2.1 dX7_isAboveWithLimit_14 rfl (lv_at hl 0 rfl) ?_
    refine k_get (v := .ref (wAd w (b0 + 1))) C hP (lt_View hb0) (ob_View hb0 w L _) rfl iX7 0 (by decide) q256 rfl dX7_isAboveWithLimit_15 ?_
    obtain ⟨r3, hr3, hf⟩ := ob hf
    refine kci (kSN (As := [.int a1, .ref (wAd w (b0 + 1))]) (rest := []) C hl.1 hP hS (c_X8_isRest w l C.2.2.2.2.2.2.2.2 (s_View hb0) (L := L) hr3) q389 nw9 q1 q388 hd_X8_isRest ⟨rfl, rfl⟩ ⟨Nat.le_of_ble_eq_true rfl, Nat.le_of_ble_eq_true rfl⟩ rfl rfl (Nat.le_of_ble_eq_true rfl) dX7_isAboveWithLimit_18 ⟨Nat.zero_le _, Nat.zero_le _⟩) hS (fun H locs hP hS => ?_)
    refine lv_if_eq (tgt := 33) C.1 C.2.1 dX7_isAboveWithLimit_21 (by decide) (fun c4 => ?_) (fun c4 => ?_)
    · have hf := (if_pos c4).symm.trans hf
      refine lv_iload_n C.1 C.2.1 dX7_isAboveWithLimit_33 rfl (lv_at hl 2 rfl) ?_
      exact w_X7_isAboveWithLimit_j34 C hb0 hf _ _ _ hP hS (lv_sub hl [0, 1] rfl)
    · have hf := (if_neg c4).symm.trans hf
      refine lv_aload_n C.1 C.2.1 dX7_isAboveWithLimit_24 rfl (lv_at hl 0 rfl) ?_
      refine k_get (v := .ref (wAd w (b0 + 1))) C hP (lt_View hb0) (ob_View hb0 w L _) rfl iX7 0 (by decide) q256 rfl dX7_isAboveWithLimit_25 ?_
      refine lv_iconst (v := 1) C.1 C.2.1 dX7_isAboveWithLimit_28 (by decide) ?_
      obtain ⟨x7, hx7, hf⟩ := ob hf
      refine k_iald C hP (la_View_settings hb0) (ar_View_settings hb0 w L _) hx7 dX7_isAboveWithLimit_29 ?_
      refine lv_goto (tgt := 34) C.1 C.2.1 dX7_isAboveWithLimit_30 (by decide) ?_
      exact w_X7_isAboveWithLimit_j34 C hb0 hf _ _ _ hP hS (lv_sub hl [0, 1] rfl)
  · have hf := (if_pos c2).symm.trans hf
    refine lv_iconst (v := 0) C.1 C.2.1 dX7_isAboveWithLimit_11 (by decide) ?_
    cases hf
    exact krz C hP hS bz0 dX7_isAboveWithLimit_12
theorem dX7_exceedancesWithLimit_0 : decode cX7_exceedancesWithLimit 0 = .ok (.aload_n 0, 1) := by decide +kernel
theorem dX7_exceedancesWithLimit_1 : decode cX7_exceedancesWithLimit 1 = .ok (.getfield 18, 3) := by decide +kernel
theorem dX7_exceedancesWithLimit_4 : decode cX7_exceedancesWithLimit 4 = .ok (.bipush 6, 2) := by decide +kernel
theorem dX7_exceedancesWithLimit_6 : decode cX7_exceedancesWithLimit 6 = .ok (.iaload, 1) := by decide +kernel
theorem dX7_exceedancesWithLimit_7 : decode cX7_exceedancesWithLimit 7 = .ok (.istore_n 2, 1) := by decide +kernel
theorem dX7_exceedancesWithLimit_8 : decode cX7_exceedancesWithLimit 8 = .ok (.iload_n 2, 1) := by decide +kernel
theorem dX7_exceedancesWithLimit_9 : decode cX7_exceedancesWithLimit 9 = .ok (.istore_n 3, 1) := by decide +kernel
theorem dX7_exceedancesWithLimit_10 : decode cX7_exceedancesWithLimit 10 = .ok (.iconst 0, 1) := by decide +kernel
theorem dX7_exceedancesWithLimit_11 : decode cX7_exceedancesWithLimit 11 = .ok (.istore 4, 2) := by decide +kernel
theorem dX7_exceedancesWithLimit_13 : decode cX7_exceedancesWithLimit 13 = .ok (.iconst 0, 1) := by decide +kernel
theorem dX7_exceedancesWithLimit_14 : decode cX7_exceedancesWithLimit 14 = .ok (.istore 5, 2) := by decide +kernel
theorem dX7_exceedancesWithLimit_16 : decode cX7_exceedancesWithLimit 16 = .ok (.iload 5, 2) := by decide +kernel
theorem dX7_exceedancesWithLimit_18 : decode cX7_exceedancesWithLimit 18 = .ok (.aload_n 0, 1) := by decide +kernel
theorem dX7_exceedancesWithLimit_19 : decode cX7_exceedancesWithLimit 19 = .ok (.getfield 26, 3) := by decide +kernel
theorem dX7_exceedancesWithLimit_22 : decode cX7_exceedancesWithLimit 22 = .ok (.getfield 69, 3) := by decide +kernel
theorem dX7_exceedancesWithLimit_25 : decode cX7_exceedancesWithLimit 25 = .ok (.if_icmp .ge 35, 3) := by decide +kernel
theorem dX7_exceedancesWithLimit_28 : decode cX7_exceedancesWithLimit 28 = .ok (.aload_n 0, 1) := by decide +kernel
theorem dX7_exceedancesWithLimit_29 : decode cX7_exceedancesWithLimit 29 = .ok (.iload 5, 2) := by decide +kernel
theorem dX7_exceedancesWithLimit_31 : decode cX7_exceedancesWithLimit 31 = .ok (.iload_n 1, 1) := by decide +kernel
theorem dX7_exceedancesWithLimit_32 : decode cX7_exceedancesWithLimit 32 = .ok (.invokevirtual 106, 3) := by decide +kernel
theorem dX7_exceedancesWithLimit_35 : decode cX7_exceedancesWithLimit 35 = .ok (.ifCond .eq 16, 3) := by decide +kernel
theorem dX7_exceedancesWithLimit_38 : decode cX7_exceedancesWithLimit 38 = .ok (.iload_n 3, 1) := by decide +kernel
theorem dX7_exceedancesWithLimit_39 : decode cX7_exceedancesWithLimit 39 = .ok (.iload_n 2, 1) := by decide +kernel
theorem dX7_exceedancesWithLimit_40 : decode cX7_exceedancesWithLimit 40 = .ok (.if_icmp .lt 6, 3) := by decide +kernel
theorem dX7_exceedancesWithLimit_43 : decode cX7_exceedancesWithLimit 43 = .ok (.iinc 4 1, 3) := by decide +kernel
theorem dX7_exceedancesWithLimit_46 : decode cX7_exceedancesWithLimit 46 = .ok (.iconst 0, 1) := by decide +kernel
theorem dX7_exceedancesWithLimit_47 : decode cX7_exceedancesWithLimit 47 = .ok (.istore_n 3, 1) := by decide +kernel
theorem dX7_exceedancesWithLimit_48 : decode cX7_exceedancesWithLimit 48 = .ok (.goto 6, 3) := by decide +kernel
theorem dX7_exceedancesWithLimit_51 : decode cX7_exceedancesWithLimit 51 = .ok (.iinc 3 1, 3) := by decide +kernel
theorem dX7_exceedancesWithLimit_54 : decode cX7_exceedancesWithLimit 54 = .ok (.iinc 5 1, 3) := by decide +kernel
theorem dX7_exceedancesWithLimit_57 : decode cX7_exceedancesWithLimit 57 = .ok (.goto (-41), 3) := by decide +kernel
theorem dX7_exceedancesWithLimit_60 : decode cX7_exceedancesWithLimit 60 = .ok (.iload 4, 2) := by decide +kernel
theorem dX7_exceedancesWithLimit_62 : decode cX7_exceedancesWithLimit 62 = .ok (.ireturn, 1) := by decide +kernel
set_option maxHeartbeats 4000000 in
set_option maxRecDepth 100000 in
theorem w_X7_exceedancesWithLimit_j54 {b0 : Nat} {w : WT} {l : Launch} {p : Program} {e : Env} {s : State} {m : MethodId} {args : Array Value} {below : List Frame} {meth : Method} {c : Code} (C : KC w p s m args meth c cX7_exceedancesWithLimit 6 RX7 (some .int)) (hb0 : isVw b0) {v1 : Int32} {v2 : Int32} {v3 : Int32} {v4 : Int32} {v5 : Int32} {M : Mem} {L : Lng} {Q : State → Prop} {o : (Int32 × Int32 × Int32) ⊕ (Int32)} (hf : f_X7_exceedancesWithLimit_j54 b0 v1 v2 v3 v4 v5 M = some o) (hA : ∀ z, o = .inl z → AtL w p l e ({ frames := 3, cells := 0, slots := 0, locals := 66 } : Room) s m args below meth c Q 6 16 M L [(0, .ref (wAd w b0)), (1, .int v1), (2, .int v2), (3, .int z.1), (4, .int z.2.1), (5, .int z.2.2)] []) (hE : ∀ y, o = .inr y → AtL w p l e ({ frames := 3, cells := 0, slots := 0, locals := 66 } : Room) s m args below meth c Q 6 60 M L [(4, .int y)] []) : AtL w p l e ({ frames := 3, cells := 0, slots := 0, locals := 66 } : Room) s m args below meth c Q 6 54 M L [(0, .ref (wAd w b0)), (1, .int v1), (2, .int v2), (3, .int v3), (4, .int v4), (5, .int v5)] [] := by
  intro H locs ls hP hS hl
  unfold f_X7_exceedancesWithLimit_j54 at hf
  refine lv_iinc (v := (v5 + 1)) (lv' := [(5, .int (v5 + 1)), (0, .ref (wAd w b0)), (1, .int v1), (2, .int v2), (3, .int v3), (4, .int v4)]) C.1 C.2.1 dX7_exceedancesWithLimit_54 hl (k := 5) rfl rfl (by decide) rfl (fun ls hl => ?_)
  refine lv_goto (tgt := 16) C.1 C.2.1 dX7_exceedancesWithLimit_57 (by decide) ?_
  cases hf
  exact hA _ rfl _ _ _ hP hS (lv_sub hl [1, 2, 3, 4, 5, 0] rfl)
set_option maxHeartbeats 4000000 in
set_option maxRecDepth 100000 in
theorem w_X7_exceedancesWithLimit_j46 {b0 : Nat} {w : WT} {l : Launch} {p : Program} {e : Env} {s : State} {m : MethodId} {args : Array Value} {below : List Frame} {meth : Method} {c : Code} (C : KC w p s m args meth c cX7_exceedancesWithLimit 6 RX7 (some .int)) (hb0 : isVw b0) {v1 : Int32} {v2 : Int32} {v4 : Int32} {v5 : Int32} {M : Mem} {L : Lng} {Q : State → Prop} {o : (Int32 × Int32 × Int32) ⊕ (Int32)} (hf : f_X7_exceedancesWithLimit_j46 b0 v1 v2 v4 v5 M = some o) (hA : ∀ z, o = .inl z → AtL w p l e ({ frames := 3, cells := 0, slots := 0, locals := 66 } : Room) s m args below meth c Q 6 16 M L [(0, .ref (wAd w b0)), (1, .int v1), (2, .int v2), (3, .int z.1), (4, .int z.2.1), (5, .int z.2.2)] []) (hE : ∀ y, o = .inr y → AtL w p l e ({ frames := 3, cells := 0, slots := 0, locals := 66 } : Room) s m args below meth c Q 6 60 M L [(4, .int y)] []) : AtL w p l e ({ frames := 3, cells := 0, slots := 0, locals := 66 } : Room) s m args below meth c Q 6 46 M L [(0, .ref (wAd w b0)), (1, .int v1), (2, .int v2), (4, .int v4), (5, .int v5)] [] := by
  intro H locs ls hP hS hl
  unfold f_X7_exceedancesWithLimit_j46 at hf
  refine lv_iconst (v := 0) C.1 C.2.1 dX7_exceedancesWithLimit_46 (by decide) ?_
  refine lv_istore_n (lv' := [(3, .int 0), (0, .ref (wAd w b0)), (1, .int v1), (2, .int v2), (4, .int v4), (5, .int v5)]) C.1 C.2.1 dX7_exceedancesWithLimit_47 rfl hl (by decide) rfl (fun ls hl => ?_)
  refine lv_goto (tgt := 54) C.1 C.2.1 dX7_exceedancesWithLimit_48 (by decide) ?_
  exact w_X7_exceedancesWithLimit_j54 C hb0 hf hA hE _ _ _ hP hS (lv_sub hl [1, 2, 3, 0, 4, 5] rfl)
set_option maxHeartbeats 4000000 in
set_option maxRecDepth 100000 in
theorem w_X7_exceedancesWithLimit_l16 {b0 : Nat} {w : WT} {l : Launch} {p : Program} {e : Env} {s : State} {m : MethodId} {args : Array Value} {below : List Frame} {meth : Method} {c : Code} (C : KC w p s m args meth c cX7_exceedancesWithLimit 6 RX7 (some .int)) (hb0 : isVw b0) {v1 : Int32} {v2 : Int32} {M : Mem} {L : Lng} {Q : State → Prop} (z : Int32 × Int32 × Int32) (o : (Int32 × Int32 × Int32) ⊕ (Int32)) (hf : f_X7_exceedancesWithLimit_l16 b0 v1 v2 M z = some o) (hA : ∀ z, o = .inl z → AtL w p l e ({ frames := 3, cells := 0, slots := 0, locals := 66 } : Room) s m args below meth c Q 6 16 M L [(0, .ref (wAd w b0)), (1, .int v1), (2, .int v2), (3, .int z.1), (4, .int z.2.1), (5, .int z.2.2)] []) (hE : ∀ y, o = .inr y → AtL w p l e ({ frames := 3, cells := 0, slots := 0, locals := 66 } : Room) s m args below meth c Q 6 60 M L [(4, .int y)] []) : AtL w p l e ({ frames := 3, cells := 0, slots := 0, locals := 66 } : Room) s m args below meth c Q 6 16 M L [(0, .ref (wAd w b0)), (1, .int v1), (2, .int v2), (3, .int z.1), (4, .int z.2.1), (5, .int z.2.2)] [] := by
  intro H locs ls hP hS hl
  unfold f_X7_exceedancesWithLimit_l16 at hf
  refine lv_iload C.1 C.2.1 dX7_exceedancesWithLimit_16 (lv_at hl 5 rfl) ?_
  refine lv_aload_n C.1 C.2.1 dX7_exceedancesWithLimit_18 rfl (lv_at hl 0 rfl) ?_
  refine k_get (v := .ref (wAd w (b0 + 2))) C hP (lt_View hb0) (ob_View hb0 w L _) rfl iX7 1 (by decide) q258 rfl dX7_exceedancesWithLimit_19 ?_
  refine k_get (v := .int (M (b0 + 2) 3)) C hP (lt_Minutes (to_View_minutes hb0)) (ob_Minutes (to_View_minutes hb0) w L _) rfl iX4 3 (by decide) q160 rfl dX7_exceedancesWithLimit_22 ?_
  refine lv_icmp_ge (tgt := 60) C.1 C.2.1 dX7_exceedancesWithLimit_25 (by decide) (fun c2 => ?_) (fun c2 => ?_)
  · have hf := (if_pos c2).symm.trans hf
    cases hf
    exact hE _ rfl _ _ _ hP hS (lv_sub hl [4] rfl)
  · have hf := (if_neg c2).symm.trans hf
    refine lv_aload_n C.1 C.2.1 dX7_exceedancesWithLimit_28 rfl (lv_at hl 0 rfl) ?_
    refine lv_iload C.1 C.2.1 dX7_exceedancesWithLimit_29 (lv_at hl 5 rfl) ?_
    refine lv_iload_n C.1 C.2.1 dX7_exceedancesWithLimit_31 rfl (lv_at hl 1 rfl) ?_
    obtain ⟨r3, hr3, hf⟩ := ob hf
    refine kci (kV (As := [.int z.2.2, .int v1]) (rest := []) C hl.1 hP hS (c_X7_isAboveWithLimit w l C.2.2.2.2.2.2.2.2 hb0 (L := L) hr3) (gV q425 q427 qp15 q5 q428) hd_X7_isAboveWithLimit (lt_View hb0) (ob_View hb0 w L _) rfl ⟨rfl, rfl⟩ ⟨Nat.le_of_ble_eq_true rfl, Nat.le_of_ble_eq_true rfl⟩ rfl rfl (Nat.le_of_ble_eq_true rfl) dX7_exceedancesWithLimit_32 ⟨Nat.zero_le _, Nat.zero_le _⟩) hS (fun H locs hP hS => ?_)
    refine lv_if_eq (tgt := 51) C.1 C.2.1 dX7_exceedancesWithLimit_35 (by decide) (fun c4 => ?_) (fun c4 => ?_)
    · have hf := (if_pos c4).symm.trans hf
      refine lv_iinc (v := (z.1 + 1)) (lv' := [(3, .int (z.1 + 1)), (0, .ref (wAd w b0)), (1, .int v1), (2, .int v2), (4, .int z.2.1), (5, .int z.2.2)]) C.1 C.2.1 dX7_exceedancesWithLimit_51 hl (k := 3) rfl rfl (by decide) rfl (fun ls hl => ?_)
      exact w_X7_exceedancesWithLimit_j54 C hb0 hf hA hE _ _ _ hP hS (lv_sub hl [1, 2, 3, 0, 4, 5] rfl)
    · have hf := (if_neg c4).symm.trans hf
      refine lv_iload_n C.1 C.2.1 dX7_exceedancesWithLimit_38 rfl (lv_at hl 3 rfl) ?_
      refine lv_iload_n C.1 C.2.1 dX7_exceedancesWithLimit_39 rfl (lv_at hl 2 rfl) ?_
      refine lv_icmp_lt (tgt := 46) C.1 C.2.1 dX7_exceedancesWithLimit_40 (by decide) (fun c5 => ?_) (fun c5 => ?_)
      · have hf := (if_pos c5).symm.trans hf
        exact w_X7_exceedancesWithLimit_j46 C hb0 hf hA hE _ _ _ hP hS (lv_sub hl [0, 1, 2, 4, 5] rfl)
      · have hf := (if_neg c5).symm.trans hf
        refine lv_iinc (v := (z.2.1 + 1)) (lv' := [(4, .int (z.2.1 + 1)), (0, .ref (wAd w b0)), (1, .int v1), (2, .int v2), (3, .int z.1), (5, .int z.2.2)]) C.1 C.2.1 dX7_exceedancesWithLimit_43 hl (k := 4) rfl rfl (by decide) rfl (fun ls hl => ?_)
        exact w_X7_exceedancesWithLimit_j46 C hb0 hf hA hE _ _ _ hP hS (lv_sub hl [1, 2, 3, 0, 5] rfl)
set_option maxHeartbeats 4000000 in
set_option maxRecDepth 100000 in
theorem c_X7_exceedancesWithLimit (w : WT) (l : Launch) (hw : WOK w) {b0 : Nat} (hb0 : isVw b0) {a1 : Int32} {M : Mem} {L : Lng} {out : Int32} (hf : f_X7_exceedancesWithLimit b0 a1 M = some out) : Met l yX7_exceedancesWithLimit (Cond.code yX7_exceedancesWithLimit cX7_exceedancesWithLimit 6 (some .int) :: BG) ({ frames := 3, cells := 0, slots := 0, locals := 66 } : Room) (PRE w [.ref (wAd w b0), .int a1] M L) (QI w out M L) 0 0 (wA w) := by
  refine kEnt hw (by decide +kernel) rfl (Nat.le_of_ble_eq_true rfl) ?_
  intro p e s m args below meth c C ls hl hP
  have hS : va_S (wA w) s.heap s.heap [] := va_S.rf
  have hl : lv_has ls 6 [(0, .ref (wAd w b0)), (1, .int a1)] := hl
  unfold f_X7_exceedancesWithLimit at hf
  refine lv_aload_n C.1 C.2.1 dX7_exceedancesWithLimit_0 rfl (lv_at hl 0 rfl) ?_
  refine k_get (v := .ref (wAd w (b0 + 1))) C hP (lt_View hb0) (ob_View hb0 w L _) rfl iX7 0 (by decide) q256 rfl dX7_exceedancesWithLimit_1 ?_
  refine lv_bipush (v := 6) C.1 C.2.1 dX7_exceedancesWithLimit_4 (by decide) ?_
  obtain ⟨x1, hx1, hf⟩ := ob hf
  refine k_iald C hP (la_View_settings hb0) (ar_View_settings hb0 w L _) hx1 dX7_exceedancesWithLimit_6 ?_
  refine lv_istore_n (lv' := [(2, .int x1), (0, .ref (wAd w b0)), (1, .int a1)]) C.1 C.2.1 dX7_exceedancesWithLimit_7 rfl hl (by decide) rfl (fun ls hl => ?_)
  refine lv_iload_n C.1 C.2.1 dX7_exceedancesWithLimit_8 rfl (lv_at hl 0 rfl) ?_
  refine lv_istore_n (lv' := [(3, .int x1), (2, .int x1), (0, .ref (wAd w b0)), (1, .int a1)]) C.1 C.2.1 dX7_exceedancesWithLimit_9 rfl hl (by decide) rfl (fun ls hl => ?_)
  refine lv_iconst (v := 0) C.1 C.2.1 dX7_exceedancesWithLimit_10 (by decide) ?_
  refine lv_istore (lv' := [(4, .int 0), (3, .int x1), (2, .int x1), (0, .ref (wAd w b0)), (1, .int a1)]) C.1 C.2.1 dX7_exceedancesWithLimit_11 hl (by decide) rfl (fun ls hl => ?_)
  refine lv_iconst (v := 0) C.1 C.2.1 dX7_exceedancesWithLimit_13 (by decide) ?_
  refine lv_istore (lv' := [(5, .int 0), (4, .int 0), (3, .int x1), (2, .int x1), (0, .ref (wAd w b0)), (1, .int a1)]) C.1 C.2.1 dX7_exceedancesWithLimit_14 hl (by decide) rfl (fun ls hl => ?_)
  obtain ⟨o6, ho6, hf⟩ := ob hf
  refine loop_at (w_X7_exceedancesWithLimit_l16 C hb0) FU _ o6 ho6 ?_ _ _ _ hP hS (lv_sub hl [4, 5, 3, 2, 1, 0] rfl)
  intro H locs ls hP hS hl
  refine lv_iload C.1 C.2.1 dX7_exceedancesWithLimit_60 (lv_at hl 0 rfl) ?_
  cases hf
  exact kri C hP hS dX7_exceedancesWithLimit_62
theorem dX7_leastLimitFor_0 : decode cX7_leastLimitFor 0 = .ok (.iconst 0, 1) := by decide +kernel
theorem dX7_leastLimitFor_1 : decode cX7_leastLimitFor 1 = .ok (.istore_n 2, 1) := by decide +kernel
theorem dX7_leastLimitFor_2 : decode cX7_leastLimitFor 2 = .ok (.iload_n 2, 1) := by decide +kernel
theorem dX7_leastLimitFor_3 : decode cX7_leastLimitFor 3 = .ok (.sipush 140, 3) := by decide +kernel
theorem dX7_leastLimitFor_6 : decode cX7_leastLimitFor 6 = .ok (.if_icmp .gt 20, 3) := by decide +kernel
theorem dX7_leastLimitFor_9 : decode cX7_leastLimitFor 9 = .ok (.aload_n 0, 1) := by decide +kernel
theorem dX7_leastLimitFor_10 : decode cX7_leastLimitFor 10 = .ok (.iload_n 2, 1) := by decide +kernel
theorem dX7_leastLimitFor_11 : decode cX7_leastLimitFor 11 = .ok (.invokevirtual 102, 3) := by decide +kernel
theorem dX7_leastLimitFor_14 : decode cX7_leastLimitFor 14 = .ok (.iload_n 1, 1) := by decide +kernel
theorem dX7_leastLimitFor_15 : decode cX7_leastLimitFor 15 = .ok (.if_icmp .gt 5, 3) := by decide +kernel
theorem dX7_leastLimitFor_18 : decode cX7_leastLimitFor 18 = .ok (.iload_n 2, 1) := by decide +kernel
theorem dX7_leastLimitFor_19 : decode cX7_leastLimitFor 19 = .ok (.ireturn, 1) := by decide +kernel
theorem dX7_leastLimitFor_20 : decode cX7_leastLimitFor 20 = .ok (.iinc 2 1, 3) := by decide +kernel
theorem dX7_leastLimitFor_23 : decode cX7_leastLimitFor 23 = .ok (.goto (-21), 3) := by decide +kernel
theorem dX7_leastLimitFor_26 : decode cX7_leastLimitFor 26 = .ok (.iconst (-1), 1) := by decide +kernel
theorem dX7_leastLimitFor_27 : decode cX7_leastLimitFor 27 = .ok (.ireturn, 1) := by decide +kernel
set_option maxHeartbeats 4000000 in
set_option maxRecDepth 100000 in
theorem w_X7_leastLimitFor_l2 {b0 : Nat} {w : WT} {l : Launch} {p : Program} {e : Env} {s : State} {m : MethodId} {args : Array Value} {below : List Frame} {meth : Method} {c : Code} (C : KC w p s m args meth c cX7_leastLimitFor 3 RX7 (some .int)) (hb0 : isVw b0) {v1 : Int32} {M : Mem} {L : Lng} {out : Int32} (z : Int32) (o : (Int32) ⊕ ((Unit) ⊕ (Int32))) (hf : f_X7_leastLimitFor_l2 b0 v1 M z = some o) (hA : ∀ z, o = .inl z → AtL w p l e ({ frames := 4, cells := 0, slots := 0, locals := 91 } : Room) s m args below meth c (MQ below (QI w out M L) args s 0 0 (wA w)) 3 2 M L [(0, .ref (wAd w b0)), (1, .int v1), (2, .int z)] []) (hE : ∀ y, o = .inr y → Sum.elim (fun y => AtL w p l e ({ frames := 4, cells := 0, slots := 0, locals := 91 } : Room) s m args below meth c (MQ below (QI w out M L) args s 0 0 (wA w)) 3 26 M L [] []) (fun y => y = out) y) : AtL w p l e ({ frames := 4, cells := 0, slots := 0, locals := 91 } : Room) s m args below meth c (MQ below (QI w out M L) args s 0 0 (wA w)) 3 2 M L [(0, .ref (wAd w b0)), (1, .int v1), (2, .int z)] [] := by
  intro H locs ls hP hS hl
  unfold f_X7_leastLimitFor_l2 at hf
  refine lv_iload_n C.1 C.2.1 dX7_leastLimitFor_2 rfl (lv_at hl 2 rfl) ?_
  refine lv_sipush (v := 140) C.1 C.2.1 dX7_leastLimitFor_3 (by decide) ?_
  refine lv_icmp_gt (tgt := 26) C.1 C.2.1 dX7_leastLimitFor_6 (by decide) (fun c1 => ?_) (fun c1 => ?_)
  · have hf := (if_pos c1).symm.trans hf
    cases hf
    exact hE _ rfl _ _ _ hP hS (lv_sub hl [] rfl)
  · have hf := (if_neg c1).symm.trans hf
    refine lv_aload_n C.1 C.2.1 dX7_leastLimitFor_9 rfl (lv_at hl 0 rfl) ?_
    refine lv_iload_n C.1 C.2.1 dX7_leastLimitFor_10 rfl (lv_at hl 2 rfl) ?_
    obtain ⟨r2, hr2, hf⟩ := ob hf
    refine kci (kV (As := [.int z]) (rest := []) C hl.1 hP hS (c_X7_exceedancesWithLimit w l C.2.2.2.2.2.2.2.2 hb0 (L := L) hr2) (gV q421 q423 qp14 q5 q424) hd_X7_exceedancesWithLimit (lt_View hb0) (ob_View hb0 w L _) rfl ⟨rfl, rfl⟩ ⟨Nat.le_of_ble_eq_true rfl, Nat.le_of_ble_eq_true rfl⟩ rfl rfl (Nat.le_of_ble_eq_true rfl) dX7_leastLimitFor_11 ⟨Nat.zero_le _, Nat.zero_le _⟩) hS (fun H locs hP hS => ?_)
    refine lv_iload_n C.1 C.2.1 dX7_leastLimitFor_14 rfl (lv_at hl 1 rfl) ?_
    refine lv_icmp_gt (tgt := 20) C.1 C.2.1 dX7_leastLimitFor_15 (by decide) (fun c3 => ?_) (fun c3 => ?_)
    · have hf := (if_pos c3).symm.trans hf
      refine lv_iinc (v := (z + 1)) (lv' := [(2, .int (z + 1)), (0, .ref (wAd w b0)), (1, .int v1)]) C.1 C.2.1 dX7_leastLimitFor_20 hl (k := 2) rfl rfl (by decide) rfl (fun ls hl => ?_)
      refine lv_goto (tgt := 2) C.1 C.2.1 dX7_leastLimitFor_23 (by decide) ?_
      cases hf
      exact hA _ rfl _ _ _ hP hS (lv_sub hl [1, 2, 0] rfl)
    · have hf := (if_neg c3).symm.trans hf
      refine lv_iload_n C.1 C.2.1 dX7_leastLimitFor_18 rfl (lv_at hl 2 rfl) ?_
      cases hf
      cases hE _ rfl
      exact kri C hP hS dX7_leastLimitFor_19
set_option maxHeartbeats 4000000 in
set_option maxRecDepth 100000 in
theorem c_X7_leastLimitFor (w : WT) (l : Launch) (hw : WOK w) {b0 : Nat} (hb0 : isVw b0) {a1 : Int32} {M : Mem} {L : Lng} {out : Int32} (hf : f_X7_leastLimitFor b0 a1 M = some out) : Met l yX7_leastLimitFor (Cond.code yX7_leastLimitFor cX7_leastLimitFor 3 (some .int) :: BG) ({ frames := 4, cells := 0, slots := 0, locals := 91 } : Room) (PRE w [.ref (wAd w b0), .int a1] M L) (QI w out M L) 0 0 (wA w) := by
  refine kEnt hw (by decide +kernel) rfl (Nat.le_of_ble_eq_true rfl) ?_
  intro p e s m args below meth c C ls hl hP
  have hS : va_S (wA w) s.heap s.heap [] := va_S.rf
  have hl : lv_has ls 3 [(0, .ref (wAd w b0)), (1, .int a1)] := hl
  unfold f_X7_leastLimitFor at hf
  refine lv_iconst (v := 0) C.1 C.2.1 dX7_leastLimitFor_0 (by decide) ?_
  refine lv_istore_n (lv' := [(2, .int 0), (0, .ref (wAd w b0)), (1, .int a1)]) C.1 C.2.1 dX7_leastLimitFor_1 rfl hl (by decide) rfl (fun ls hl => ?_)
  obtain ⟨o4, ho4, hf⟩ := ob hf
  refine loop_at (w_X7_leastLimitFor_l2 C hb0 (out := out)) FU _ o4 ho4 ?_ _ _ _ hP hS (lv_sub hl [1, 2, 0] rfl)
  rcases o4 with o4 | o4
  · simp only [Sum.elim_inl] at hf
    intro H locs ls hP hS hl
    refine lv_iconst (v := (-1)) C.1 C.2.1 dX7_leastLimitFor_26 (by decide) ?_
    cases hf
    exact kri C hP hS dX7_leastLimitFor_27
  · simp only [Sum.elim_inr] at hf
    exact Option.some.inj hf
theorem dX7_minutesUntilAbove_0 : decode cX7_minutesUntilAbove 0 = .ok (.aload_n 0, 1) := by decide +kernel
theorem dX7_minutesUntilAbove_1 : decode cX7_minutesUntilAbove 1 = .ok (.getfield 26, 3) := by decide +kernel
theorem dX7_minutesUntilAbove_4 : decode cX7_minutesUntilAbove 4 = .ok (.invokevirtual 121, 3) := by decide +kernel
theorem dX7_minutesUntilAbove_7 : decode cX7_minutesUntilAbove 7 = .ok (.istore_n 2, 1) := by decide +kernel
theorem dX7_minutesUntilAbove_8 : decode cX7_minutesUntilAbove 8 = .ok (.iconst 1, 1) := by decide +kernel
theorem dX7_minutesUntilAbove_9 : decode cX7_minutesUntilAbove 9 = .ok (.istore_n 3, 1) := by decide +kernel
theorem dX7_minutesUntilAbove_10 : decode cX7_minutesUntilAbove 10 = .ok (.iload_n 3, 1) := by decide +kernel
theorem dX7_minutesUntilAbove_11 : decode cX7_minutesUntilAbove 11 = .ok (.bipush 100, 2) := by decide +kernel
theorem dX7_minutesUntilAbove_13 : decode cX7_minutesUntilAbove 13 = .ok (.if_icmp .gt 75, 3) := by decide +kernel
theorem dX7_minutesUntilAbove_16 : decode cX7_minutesUntilAbove 16 = .ok (.aload_n 0, 1) := by decide +kernel
theorem dX7_minutesUntilAbove_17 : decode cX7_minutesUntilAbove 17 = .ok (.getfield 26, 3) := by decide +kernel
theorem dX7_minutesUntilAbove_20 : decode cX7_minutesUntilAbove 20 = .ok (.getfield 69, 3) := by decide +kernel
theorem dX7_minutesUntilAbove_23 : decode cX7_minutesUntilAbove 23 = .ok (.iload_n 3, 1) := by decide +kernel
theorem dX7_minutesUntilAbove_24 : decode cX7_minutesUntilAbove 24 = .ok (.iadd, 1) := by decide +kernel
theorem dX7_minutesUntilAbove_25 : decode cX7_minutesUntilAbove 25 = .ok (.iconst 1, 1) := by decide +kernel
theorem dX7_minutesUntilAbove_26 : decode cX7_minutesUntilAbove 26 = .ok (.isub, 1) := by decide +kernel
theorem dX7_minutesUntilAbove_27 : decode cX7_minutesUntilAbove 27 = .ok (.istore 4, 2) := by decide +kernel
theorem dX7_minutesUntilAbove_29 : decode cX7_minutesUntilAbove 29 = .ok (.iload_n 2, 1) := by decide +kernel
theorem dX7_minutesUntilAbove_30 : decode cX7_minutesUntilAbove 30 = .ok (.iload_n 1, 1) := by decide +kernel
theorem dX7_minutesUntilAbove_31 : decode cX7_minutesUntilAbove 31 = .ok (.aload_n 0, 1) := by decide +kernel
theorem dX7_minutesUntilAbove_32 : decode cX7_minutesUntilAbove 32 = .ok (.getfield 18, 3) := by decide +kernel
theorem dX7_minutesUntilAbove_35 : decode cX7_minutesUntilAbove 35 = .ok (.bipush 9, 2) := by decide +kernel
theorem dX7_minutesUntilAbove_37 : decode cX7_minutesUntilAbove 37 = .ok (.iaload, 1) := by decide +kernel
theorem dX7_minutesUntilAbove_38 : decode cX7_minutesUntilAbove 38 = .ok (.invokestatic 124, 3) := by decide +kernel
theorem dX7_minutesUntilAbove_41 : decode cX7_minutesUntilAbove 41 = .ok (.istore_n 2, 1) := by decide +kernel
theorem dX7_minutesUntilAbove_42 : decode cX7_minutesUntilAbove 42 = .ok (.aload_n 0, 1) := by decide +kernel
theorem dX7_minutesUntilAbove_43 : decode cX7_minutesUntilAbove 43 = .ok (.getfield 26, 3) := by decide +kernel
theorem dX7_minutesUntilAbove_46 : decode cX7_minutesUntilAbove 46 = .ok (.iload 4, 2) := by decide +kernel
theorem dX7_minutesUntilAbove_48 : decode cX7_minutesUntilAbove 48 = .ok (.aload_n 0, 1) := by decide +kernel
theorem dX7_minutesUntilAbove_49 : decode cX7_minutesUntilAbove 49 = .ok (.getfield 18, 3) := by decide +kernel
theorem dX7_minutesUntilAbove_52 : decode cX7_minutesUntilAbove 52 = .ok (.iconst 5, 1) := by decide +kernel
theorem dX7_minutesUntilAbove_53 : decode cX7_minutesUntilAbove 53 = .ok (.iaload, 1) := by decide +kernel
theorem dX7_minutesUntilAbove_54 : decode cX7_minutesUntilAbove 54 = .ok (.invokevirtual 128, 3) := by decide +kernel
theorem dX7_minutesUntilAbove_57 : decode cX7_minutesUntilAbove 57 = .ok (.istore 5, 2) := by decide +kernel
theorem dX7_minutesUntilAbove_59 : decode cX7_minutesUntilAbove 59 = .ok (.iload 5, 2) := by decide +kernel
theorem dX7_minutesUntilAbove_61 : decode cX7_minutesUntilAbove 61 = .ok (.ifCond .ne 21, 3) := by decide +kernel
theorem dX7_minutesUntilAbove_64 : decode cX7_minutesUntilAbove 64 = .ok (.iload_n 2, 1) := by decide +kernel
theorem dX7_minutesUntilAbove_65 : decode cX7_minutesUntilAbove 65 = .ok (.bipush 10, 2) := by decide +kernel
theorem dX7_minutesUntilAbove_67 : decode cX7_minutesUntilAbove 67 = .ok (.iload 4, 2) := by decide +kernel
theorem dX7_minutesUntilAbove_69 : decode cX7_minutesUntilAbove 69 = .ok (.aload_n 0, 1) := by decide +kernel
theorem dX7_minutesUntilAbove_70 : decode cX7_minutesUntilAbove 70 = .ok (.getfield 18, 3) := by decide +kernel
theorem dX7_minutesUntilAbove_73 : decode cX7_minutesUntilAbove 73 = .ok (.invokestatic 131, 3) := by decide +kernel
theorem dX7_minutesUntilAbove_76 : decode cX7_minutesUntilAbove 76 = .ok (.imul, 1) := by decide +kernel
theorem dX7_minutesUntilAbove_77 : decode cX7_minutesUntilAbove 77 = .ok (.if_icmp .le 5, 3) := by decide +kernel
theorem dX7_minutesUntilAbove_80 : decode cX7_minutesUntilAbove 80 = .ok (.iload_n 3, 1) := by decide +kernel
theorem dX7_minutesUntilAbove_81 : decode cX7_minutesUntilAbove 81 = .ok (.ireturn, 1) := by decide +kernel
theorem dX7_minutesUntilAbove_82 : decode cX7_minutesUntilAbove 82 = .ok (.iinc 3 1, 3) := by decide +kernel
theorem dX7_minutesUntilAbove_85 : decode cX7_minutesUntilAbove 85 = .ok (.goto (-75), 3) := by decide +kernel
theorem dX7_minutesUntilAbove_88 : decode cX7_minutesUntilAbove 88 = .ok (.iconst (-1), 1) := by decide +kernel
theorem dX7_minutesUntilAbove_89 : decode cX7_minutesUntilAbove 89 = .ok (.ireturn, 1) := by decide +kernel
set_option maxHeartbeats 4000000 in
set_option maxRecDepth 100000 in
theorem w_X7_minutesUntilAbove_j82 {b0 : Nat} {w : WT} {l : Launch} {p : Program} {e : Env} {s : State} {m : MethodId} {args : Array Value} {below : List Frame} {meth : Method} {c : Code} (C : KC w p s m args meth c cX7_minutesUntilAbove 6 RX7 (some .int)) (hb0 : isVw b0) {v1 : Int32} {v2 : Int32} {v3 : Int32} {M : Mem} {L : Lng} {out : Int32} {o : (Int32 × Int32) ⊕ ((Unit) ⊕ (Int32))} (hf : f_X7_minutesUntilAbove_j82 b0 v1 v2 v3 M = some o) (hA : ∀ z, o = .inl z → AtL w p l e ({ frames := 3, cells := 0, slots := 0, locals := 64 } : Room) s m args below meth c (MQ below (QI w out M L) args s 0 0 (wA w)) 6 10 M L [(0, .ref (wAd w b0)), (1, .int v1), (2, .int z.1), (3, .int z.2)] []) (hE : ∀ y, o = .inr y → Sum.elim (fun y => AtL w p l e ({ frames := 3, cells := 0, slots := 0, locals := 64 } : Room) s m args below meth c (MQ below (QI w out M L) args s 0 0 (wA w)) 6 88 M L [] []) (fun y => y = out) y) : AtL w p l e ({ frames := 3, cells := 0, slots := 0, locals := 64 } : Room) s m args below meth c (MQ below (QI w out M L) args s 0 0 (wA w)) 6 82 M L [(0, .ref (wAd w b0)), (1, .int v1), (2, .int v2), (3, .int v3)] [] := by
  intro H locs ls hP hS hl
  unfold f_X7_minutesUntilAbove_j82 at hf
  refine lv_iinc (v := (v3 + 1)) (lv' := [(3, .int (v3 + 1)), (0, .ref (wAd w b0)), (1, .int v1), (2, .int v2)]) C.1 C.2.1 dX7_minutesUntilAbove_82 hl (k := 3) rfl rfl (by decide) rfl (fun ls hl => ?_)
  refine lv_goto (tgt := 10) C.1 C.2.1 dX7_minutesUntilAbove_85 (by decide) ?_
  cases hf
  exact hA _ rfl _ _ _ hP hS (lv_sub hl [1, 2, 3, 0] rfl)
set_option maxHeartbeats 4000000 in
set_option maxRecDepth 100000 in
theorem w_X7_minutesUntilAbove_l10 {b0 : Nat} {w : WT} {l : Launch} {p : Program} {e : Env} {s : State} {m : MethodId} {args : Array Value} {below : List Frame} {meth : Method} {c : Code} (C : KC w p s m args meth c cX7_minutesUntilAbove 6 RX7 (some .int)) (hb0 : isVw b0) {v1 : Int32} {M : Mem} {L : Lng} {out : Int32} (z : Int32 × Int32) (o : (Int32 × Int32) ⊕ ((Unit) ⊕ (Int32))) (hf : f_X7_minutesUntilAbove_l10 b0 v1 M z = some o) (hA : ∀ z, o = .inl z → AtL w p l e ({ frames := 3, cells := 0, slots := 0, locals := 64 } : Room) s m args below meth c (MQ below (QI w out M L) args s 0 0 (wA w)) 6 10 M L [(0, .ref (wAd w b0)), (1, .int v1), (2, .int z.1), (3, .int z.2)] []) (hE : ∀ y, o = .inr y → Sum.elim (fun y => AtL w p l e ({ frames := 3, cells := 0, slots := 0, locals := 64 } : Room) s m args below meth c (MQ below (QI w out M L) args s 0 0 (wA w)) 6 88 M L [] []) (fun y => y = out) y) : AtL w p l e ({ frames := 3, cells := 0, slots := 0, locals := 64 } : Room) s m args below meth c (MQ below (QI w out M L) args s 0 0 (wA w)) 6 10 M L [(0, .ref (wAd w b0)), (1, .int v1), (2, .int z.1), (3, .int z.2)] [] := by
  intro H locs ls hP hS hl
  unfold f_X7_minutesUntilAbove_l10 at hf
  refine lv_iload_n C.1 C.2.1 dX7_minutesUntilAbove_10 rfl (lv_at hl 3 rfl) ?_
  refine lv_bipush (v := 100) C.1 C.2.1 dX7_minutesUntilAbove_11 (by decide) ?_
  refine lv_icmp_gt (tgt := 88) C.1 C.2.1 dX7_minutesUntilAbove_13 (by decide) (fun c2 => ?_) (fun c2 => ?_)
  · have hf := (if_pos c2).symm.trans hf
    cases hf
    exact hE _ rfl _ _ _ hP hS (lv_sub hl [] rfl)
  · have hf := (if_neg c2).symm.trans hf
    refine lv_aload_n C.1 C.2.1 dX7_minutesUntilAbove_16 rfl (lv_at hl 0 rfl) ?_
    refine k_get (v := .ref (wAd w (b0 + 2))) C hP (lt_View hb0) (ob_View hb0 w L _) rfl iX7 1 (by decide) q258 rfl dX7_minutesUntilAbove_17 ?_
    refine k_get (v := .int (M (b0 + 2) 3)) C hP (lt_Minutes (to_View_minutes hb0)) (ob_Minutes (to_View_minutes hb0) w L _) rfl iX4 3 (by decide) q160 rfl dX7_minutesUntilAbove_20 ?_
    refine lv_iload_n C.1 C.2.1 dX7_minutesUntilAbove_23 rfl (lv_at hl 3 rfl) ?_
    refine lv_iadd C.1 C.2.1 dX7_minutesUntilAbove_24 ?_
    refine lv_iconst (v := 1) C.1 C.2.1 dX7_minutesUntilAbove_25 (by decide) ?_
    refine lv_isub C.1 C.2.1 dX7_minutesUntilAbove_26 ?_
    refine lv_istore (lv' := [(4, .int (((M (b0 + 2) 3) + z.2) - 1)), (0, .ref (wAd w b0)), (1, .int v1), (2, .int z.1), (3, .int z.2)]) C.1 C.2.1 dX7_minutesUntilAbove_27 hl (by decide) rfl (fun ls hl => ?_)
    refine lv_iload_n C.1 C.2.1 dX7_minutesUntilAbove_29 rfl (lv_at hl 3 rfl) ?_
    refine lv_iload_n C.1 C.2.1 dX7_minutesUntilAbove_30 rfl (lv_at hl 2 rfl) ?_
    refine lv_aload_n C.1 C.2.1 dX7_minutesUntilAbove_31 rfl (lv_at hl 1 rfl) ?_
    refine k_get (v := .ref (wAd w (b0 + 1))) C hP (lt_View hb0) (ob_View hb0 w L _) rfl iX7 0 (by decide) q256 rfl dX7_minutesUntilAbove_32 ?_
    refine lv_bipush (v := 9) C.1 C.2.1 dX7_minutesUntilAbove_35 (by decide) ?_
    obtain ⟨x3, hx3, hf⟩ := ob hf
    refine k_iald C hP (la_View_settings hb0) (ar_View_settings hb0 w L _) hx3 dX7_minutesUntilAbove_37 ?_
    obtain ⟨r4, hr4, hf⟩ := ob hf
    refine kci (kSN (As := [.int z.1, .int v1, .int x3]) (rest := []) C hl.1 hP hS (c_X8_moved w l C.2.2.2.2.2.2.2.2 (L := L) hr4) q444 nw10 q1 q443 hd_X8_moved ⟨rfl, rfl⟩ ⟨Nat.le_of_ble_eq_true rfl, Nat.le_of_ble_eq_true rfl⟩ rfl rfl (Nat.le_of_ble_eq_true rfl) dX7_minutesUntilAbove_38 ⟨Nat.zero_le _, Nat.zero_le _⟩) hS (fun H locs hP hS => ?_)
    refine lv_istore_n (lv' := [(2, .int r4), (4, .int (((M (b0 + 2) 3) + z.2) - 1)), (0, .ref (wAd w b0)), (1, .int v1), (3, .int z.2)]) C.1 C.2.1 dX7_minutesUntilAbove_41 rfl hl (by decide) rfl (fun ls hl => ?_)
    refine lv_aload_n C.1 C.2.1 dX7_minutesUntilAbove_42 rfl (lv_at hl 2 rfl) ?_
    refine k_get (v := .ref (wAd w (b0 + 2))) C hP (lt_View hb0) (ob_View hb0 w L _) rfl iX7 1 (by decide) q258 rfl dX7_minutesUntilAbove_43 ?_
    refine lv_iload C.1 C.2.1 dX7_minutesUntilAbove_46 (lv_at hl 1 rfl) ?_
    refine lv_aload_n C.1 C.2.1 dX7_minutesUntilAbove_48 rfl (lv_at hl 2 rfl) ?_
    refine k_get (v := .ref (wAd w (b0 + 1))) C hP (lt_View hb0) (ob_View hb0 w L _) rfl iX7 0 (by decide) q256 rfl dX7_minutesUntilAbove_49 ?_
    refine lv_iconst (v := 5) C.1 C.2.1 dX7_minutesUntilAbove_52 (by decide) ?_
    obtain ⟨x5, hx5, hf⟩ := ob hf
    refine k_iald C hP (la_View_settings hb0) (ar_View_settings hb0 w L _) hx5 dX7_minutesUntilAbove_53 ?_
    obtain ⟨r6, hr6, hf⟩ := ob hf
    refine kci (kV (As := [.int (((M (b0 + 2) 3) + z.2) - 1), .int x5]) (rest := []) C hl.1 hP hS (c_X4_isSoonAfterWind w l C.2.2.2.2.2.2.2.2 (to_View_minutes hb0) (L := L) hr6) (gV q445 q446 q447 q6 q448) hd_X4_isSoonAfterWind (lt_Minutes (to_View_minutes hb0)) (ob_Minutes (to_View_minutes hb0) w L _) rfl ⟨rfl, rfl⟩ ⟨Nat.le_of_ble_eq_true rfl, Nat.le_of_ble_eq_true rfl⟩ rfl rfl (Nat.le_of_ble_eq_true rfl) dX7_minutesUntilAbove_54 ⟨Nat.zero_le _, Nat.zero_le _⟩) hS (fun H locs hP hS => ?_)
    refine lv_istore (lv' := [(5, .int r6), (2, .int r4), (4, .int (((M (b0 + 2) 3) + z.2) - 1)), (0, .ref (wAd w b0)), (1, .int v1), (3, .int z.2)]) C.1 C.2.1 dX7_minutesUntilAbove_57 hl (by decide) rfl (fun ls hl => ?_)
    refine lv_iload C.1 C.2.1 dX7_minutesUntilAbove_59 (lv_at hl 0 rfl) ?_
    refine lv_if_ne (tgt := 82) C.1 C.2.1 dX7_minutesUntilAbove_61 (by decide) (fun c7 => ?_) (fun c7 => ?_)
    · have hf := (if_neg c7).symm.trans hf
      exact w_X7_minutesUntilAbove_j82 C hb0 hf hA hE _ _ _ hP hS (lv_sub hl [3, 4, 1, 5] rfl)
    · have hf := (if_pos c7).symm.trans hf
      refine lv_iload_n C.1 C.2.1 dX7_minutesUntilAbove_64 rfl (lv_at hl 1 rfl) ?_
      refine lv_bipush (v := 10) C.1 C.2.1 dX7_minutesUntilAbove_65 (by decide) ?_
      refine lv_iload C.1 C.2.1 dX7_minutesUntilAbove_67 (lv_at hl 2 rfl) ?_
      refine lv_aload_n C.1 C.2.1 dX7_minutesUntilAbove_69 rfl (lv_at hl 3 rfl) ?_
      refine k_get (v := .ref (wAd w (b0 + 1))) C hP (lt_View hb0) (ob_View hb0 w L _) rfl iX7 0 (by decide) q256 rfl dX7_minutesUntilAbove_70 ?_
      obtain ⟨r8, hr8, hf⟩ := ob hf
      refine kci (kSN (As := [.int (((M (b0 + 2) 3) + z.2) - 1), .ref (wAd w (b0 + 1))]) (rest := [.int 10, .int r4]) C hl.1 hP hS (c_X8_limitAt w l C.2.2.2.2.2.2.2.2 (s_View hb0) (L := L) hr8) q386 nw11 q1 q385 hd_X8_limitAt ⟨rfl, rfl⟩ ⟨Nat.le_of_ble_eq_true rfl, Nat.le_of_ble_eq_true rfl⟩ rfl rfl (Nat.le_of_ble_eq_true rfl) dX7_minutesUntilAbove_73 ⟨Nat.zero_le _, Nat.zero_le _⟩) hS (fun H locs hP hS => ?_)
      refine lv_imul C.1 C.2.1 dX7_minutesUntilAbove_76 ?_
      refine lv_icmp_le (tgt := 82) C.1 C.2.1 dX7_minutesUntilAbove_77 (by decide) (fun c9 => ?_) (fun c9 => ?_)
      · have hf := (if_pos c9).symm.trans hf
        exact w_X7_minutesUntilAbove_j82 C hb0 hf hA hE _ _ _ hP hS (lv_sub hl [3, 4, 1, 5] rfl)
      · have hf := (if_neg c9).symm.trans hf
        refine lv_iload_n C.1 C.2.1 dX7_minutesUntilAbove_80 rfl (lv_at hl 5 rfl) ?_
        cases hf
        cases hE _ rfl
        exact kri C hP hS dX7_minutesUntilAbove_81
set_option maxHeartbeats 4000000 in
set_option maxRecDepth 100000 in
theorem c_X7_minutesUntilAbove (w : WT) (l : Launch) (hw : WOK w) {b0 : Nat} (hb0 : isVw b0) {a1 : Int32} {M : Mem} {L : Lng} {out : Int32} (hf : f_X7_minutesUntilAbove b0 a1 M = some out) : Met l yX7_minutesUntilAbove (Cond.code yX7_minutesUntilAbove cX7_minutesUntilAbove 6 (some .int) :: BG) ({ frames := 3, cells := 0, slots := 0, locals := 64 } : Room) (PRE w [.ref (wAd w b0), .int a1] M L) (QI w out M L) 0 0 (wA w) := by
  refine kEnt hw (by decide +kernel) rfl (Nat.le_of_ble_eq_true rfl) ?_
  intro p e s m args below meth c C ls hl hP
  have hS : va_S (wA w) s.heap s.heap [] := va_S.rf
  have hl : lv_has ls 6 [(0, .ref (wAd w b0)), (1, .int a1)] := hl
  unfold f_X7_minutesUntilAbove at hf
  refine lv_aload_n C.1 C.2.1 dX7_minutesUntilAbove_0 rfl (lv_at hl 0 rfl) ?_
  refine k_get (v := .ref (wAd w (b0 + 2))) C hP (lt_View hb0) (ob_View hb0 w L _) rfl iX7 1 (by decide) q258 rfl dX7_minutesUntilAbove_1 ?_
  obtain ⟨r1, hr1, hf⟩ := ob hf
  refine kci (kV (As := []) (rest := []) C hl.1 hP hS (c_X4_lastSlowPlace w l C.2.2.2.2.2.2.2.2 (to_View_minutes hb0) (L := L) hr1) (gV q438 q439 q440 q6 q441) hd_X4_lastSlowPlace (lt_Minutes (to_View_minutes hb0)) (ob_Minutes (to_View_minutes hb0) w L _) rfl ⟨rfl, rfl⟩ ⟨Nat.le_of_ble_eq_true rfl, Nat.le_of_ble_eq_true rfl⟩ rfl rfl (Nat.le_of_ble_eq_true rfl) dX7_minutesUntilAbove_4 ⟨Nat.zero_le _, Nat.zero_le _⟩) hS (fun H locs hP hS => ?_)
  refine lv_istore_n (lv' := [(2, .int r1), (0, .ref (wAd w b0)), (1, .int a1)]) C.1 C.2.1 dX7_minutesUntilAbove_7 rfl hl (by decide) rfl (fun ls hl => ?_)
  refine lv_iconst (v := 1) C.1 C.2.1 dX7_minutesUntilAbove_8 (by decide) ?_
  refine lv_istore_n (lv' := [(3, .int 1), (2, .int r1), (0, .ref (wAd w b0)), (1, .int a1)]) C.1 C.2.1 dX7_minutesUntilAbove_9 rfl hl (by decide) rfl (fun ls hl => ?_)
  obtain ⟨o10, ho10, hf⟩ := ob hf
  refine loop_at (w_X7_minutesUntilAbove_l10 C hb0 (out := out)) FU _ o10 ho10 ?_ _ _ _ hP hS (lv_sub hl [2, 3, 1, 0] rfl)
  rcases o10 with o10 | o10
  · simp only [Sum.elim_inl] at hf
    intro H locs ls hP hS hl
    refine lv_iconst (v := (-1)) C.1 C.2.1 dX7_minutesUntilAbove_88 (by decide) ?_
    cases hf
    exact kri C hP hS dX7_minutesUntilAbove_89
  · simp only [Sum.elim_inr] at hf
    exact Option.some.inj hf
theorem dX8_isSetting_0 : decode cX8_isSetting 0 = .ok (.iload_n 0, 1) := by decide +kernel
theorem dX8_isSetting_1 : decode cX8_isSetting 1 = .ok (.ifCond .lt 13, 3) := by decide +kernel
theorem dX8_isSetting_4 : decode cX8_isSetting 4 = .ok (.iload_n 0, 1) := by decide +kernel
theorem dX8_isSetting_5 : decode cX8_isSetting 5 = .ok (.bipush 10, 2) := by decide +kernel
theorem dX8_isSetting_7 : decode cX8_isSetting 7 = .ok (.if_icmp .ge 7, 3) := by decide +kernel
theorem dX8_isSetting_10 : decode cX8_isSetting 10 = .ok (.iconst 1, 1) := by decide +kernel
theorem dX8_isSetting_11 : decode cX8_isSetting 11 = .ok (.goto 4, 3) := by decide +kernel
theorem dX8_isSetting_14 : decode cX8_isSetting 14 = .ok (.iconst 0, 1) := by decide +kernel
theorem dX8_isSetting_15 : decode cX8_isSetting 15 = .ok (.ireturn, 1) := by decide +kernel
set_option maxHeartbeats 4000000 in
set_option maxRecDepth 100000 in
theorem c_X8_isSetting (w : WT) (l : Launch) (hw : WOK w) {a0 : Int32} {M : Mem} {L : Lng} {out : Int32} (hf : f_X8_isSetting a0 M = some out) : Met l yX8_isSetting (Cond.code yX8_isSetting cX8_isSetting 1 (some .boolean) :: BG) ({ frames := 0, cells := 0, slots := 0, locals := 0 } : Room) (PRE w [.int a0] M L) (QI w out M L) 0 0 (wA w) := by
  refine kEnt hw (by decide +kernel) rfl (Nat.le_of_ble_eq_true rfl) ?_
  intro p e s m args below meth c C ls hl hP
  have hS : va_S (wA w) s.heap s.heap [] := va_S.rf
  have hl : lv_has ls 1 [(0, .int a0)] := hl
  unfold f_X8_isSetting at hf
  refine lv_iload_n C.1 C.2.1 dX8_isSetting_0 rfl (lv_at hl 0 rfl) ?_
  refine lv_if_lt (tgt := 14) C.1 C.2.1 dX8_isSetting_1 (by decide) (fun c1 => ?_) (fun c1 => ?_)
  · have hf := (if_pos c1).symm.trans hf
    refine lv_iconst (v := 0) C.1 C.2.1 dX8_isSetting_14 (by decide) ?_
    cases hf
    exact krz C hP hS bz0 dX8_isSetting_15
  · have hf := (if_neg c1).symm.trans hf
    refine lv_iload_n C.1 C.2.1 dX8_isSetting_4 rfl (lv_at hl 0 rfl) ?_
    refine lv_bipush (v := 10) C.1 C.2.1 dX8_isSetting_5 (by decide) ?_
    refine lv_icmp_ge (tgt := 14) C.1 C.2.1 dX8_isSetting_7 (by decide) (fun c2 => ?_) (fun c2 => ?_)
    · have hf := (if_pos c2).symm.trans hf
      refine lv_iconst (v := 0) C.1 C.2.1 dX8_isSetting_14 (by decide) ?_
      cases hf
      exact krz C hP hS bz0 dX8_isSetting_15
    · have hf := (if_neg c2).symm.trans hf
      refine lv_iconst (v := 1) C.1 C.2.1 dX8_isSetting_10 (by decide) ?_
      refine lv_goto (tgt := 15) C.1 C.2.1 dX8_isSetting_11 (by decide) ?_
      cases hf
      exact krz C hP hS bz1 dX8_isSetting_15
theorem dX8_fitsSetting_0 : decode cX8_fitsSetting 0 = .ok (.iload_n 0, 1) := by decide +kernel
theorem dX8_fitsSetting_1 : decode cX8_fitsSetting 1 = .ok (.invokestatic 47, 3) := by decide +kernel
theorem dX8_fitsSetting_4 : decode cX8_fitsSetting 4 = .ok (.ifCond .eq 25, 3) := by decide +kernel
theorem dX8_fitsSetting_7 : decode cX8_fitsSetting 7 = .ok (.iload_n 1, 1) := by decide +kernel
theorem dX8_fitsSetting_8 : decode cX8_fitsSetting 8 = .ok (.getstatic 282, 3) := by decide +kernel
theorem dX8_fitsSetting_11 : decode cX8_fitsSetting 11 = .ok (.iload_n 0, 1) := by decide +kernel
theorem dX8_fitsSetting_12 : decode cX8_fitsSetting 12 = .ok (.iaload, 1) := by decide +kernel
theorem dX8_fitsSetting_13 : decode cX8_fitsSetting 13 = .ok (.if_icmp .lt 16, 3) := by decide +kernel
theorem dX8_fitsSetting_16 : decode cX8_fitsSetting 16 = .ok (.iload_n 1, 1) := by decide +kernel
theorem dX8_fitsSetting_17 : decode cX8_fitsSetting 17 = .ok (.getstatic 285, 3) := by decide +kernel
theorem dX8_fitsSetting_20 : decode cX8_fitsSetting 20 = .ok (.iload_n 0, 1) := by decide +kernel
theorem dX8_fitsSetting_21 : decode cX8_fitsSetting 21 = .ok (.iaload, 1) := by decide +kernel
theorem dX8_fitsSetting_22 : decode cX8_fitsSetting 22 = .ok (.if_icmp .gt 7, 3) := by decide +kernel
theorem dX8_fitsSetting_25 : decode cX8_fitsSetting 25 = .ok (.iconst 1, 1) := by decide +kernel
theorem dX8_fitsSetting_26 : decode cX8_fitsSetting 26 = .ok (.goto 4, 3) := by decide +kernel
theorem dX8_fitsSetting_29 : decode cX8_fitsSetting 29 = .ok (.iconst 0, 1) := by decide +kernel
theorem dX8_fitsSetting_30 : decode cX8_fitsSetting 30 = .ok (.ireturn, 1) := by decide +kernel
set_option maxHeartbeats 4000000 in
set_option maxRecDepth 100000 in
theorem c_X8_fitsSetting (w : WT) (l : Launch) (hw : WOK w) {a0 : Int32} {a1 : Int32} {M : Mem} {L : Lng} {out : Int32} (hf : f_X8_fitsSetting a0 a1 M = some out) : Met l yX8_fitsSetting (Cond.code yX8_fitsSetting cX8_fitsSetting 2 (some .boolean) :: BG) ({ frames := 1, cells := 0, slots := 0, locals := 20 } : Room) (PRE w [.int a0, .int a1] M L) (QI w out M L) 0 0 (wA w) := by
  refine kEnt hw (by decide +kernel) rfl (Nat.le_of_ble_eq_true rfl) ?_
  intro p e s m args below meth c C ls hl hP
  have hS : va_S (wA w) s.heap s.heap [] := va_S.rf
  have hl : lv_has ls 2 [(0, .int a0), (1, .int a1)] := hl
  unfold f_X8_fitsSetting at hf
  refine lv_iload_n C.1 C.2.1 dX8_fitsSetting_0 rfl (lv_at hl 0 rfl) ?_
  obtain ⟨r1, hr1, hf⟩ := ob hf
  refine kci (kS (As := [.int a0]) (rest := []) C hl.1 hP hS (c_X8_isSetting w l C.2.2.2.2.2.2.2.2 (L := L) hr1) (gS q469 q470 q1 q471) hd_X8_isSetting ⟨rfl, rfl⟩ ⟨Nat.le_of_ble_eq_true rfl, Nat.le_of_ble_eq_true rfl⟩ rfl rfl (Nat.le_of_ble_eq_true rfl) dX8_fitsSetting_1 ⟨Nat.zero_le _, Nat.zero_le _⟩) hS (fun H locs hP hS => ?_)
  refine lv_if_eq (tgt := 29) C.1 C.2.1 dX8_fitsSetting_4 (by decide) (fun c2 => ?_) (fun c2 => ?_)
  · have hf := (if_pos c2).symm.trans hf
    refine lv_iconst (v := 0) C.1 C.2.1 dX8_fitsSetting_29 (by decide) ?_
    cases hf
    exact krz C hP hS bz0 dX8_fitsSetting_30
  · have hf := (if_neg c2).symm.trans hf
    refine lv_iload_n C.1 C.2.1 dX8_fitsSetting_7 rfl (lv_at hl 1 rfl) ?_
    refine k_gets (k := 0) C hS (by decide) q543 dX8_fitsSetting_8 ?_
    refine lv_iload_n C.1 C.2.1 dX8_fitsSetting_11 rfl (lv_at hl 0 rfl) ?_
    obtain ⟨x3, hx3, hf⟩ := ob hf
    refine k_ti (k := 0) C hS (by decide) hx3 dX8_fitsSetting_12 ?_
    refine lv_icmp_lt (tgt := 29) C.1 C.2.1 dX8_fitsSetting_13 (by decide) (fun c4 => ?_) (fun c4 => ?_)
    · have hf := (if_pos c4).symm.trans hf
      refine lv_iconst (v := 0) C.1 C.2.1 dX8_fitsSetting_29 (by decide) ?_
      cases hf
      exact krz C hP hS bz0 dX8_fitsSetting_30
    · have hf := (if_neg c4).symm.trans hf
      refine lv_iload_n C.1 C.2.1 dX8_fitsSetting_16 rfl (lv_at hl 1 rfl) ?_
      refine k_gets (k := 1) C hS (by decide) q545 dX8_fitsSetting_17 ?_
      refine lv_iload_n C.1 C.2.1 dX8_fitsSetting_20 rfl (lv_at hl 0 rfl) ?_
      obtain ⟨x5, hx5, hf⟩ := ob hf
      refine k_ti (k := 1) C hS (by decide) hx5 dX8_fitsSetting_21 ?_
      refine lv_icmp_gt (tgt := 29) C.1 C.2.1 dX8_fitsSetting_22 (by decide) (fun c6 => ?_) (fun c6 => ?_)
      · have hf := (if_pos c6).symm.trans hf
        refine lv_iconst (v := 0) C.1 C.2.1 dX8_fitsSetting_29 (by decide) ?_
        cases hf
        exact krz C hP hS bz0 dX8_fitsSetting_30
      · have hf := (if_neg c6).symm.trans hf
        refine lv_iconst (v := 1) C.1 C.2.1 dX8_fitsSetting_25 (by decide) ?_
        refine lv_goto (tgt := 30) C.1 C.2.1 dX8_fitsSetting_26 (by decide) ?_
        cases hf
        exact krz C hP hS bz1 dX8_fitsSetting_30
theorem dX8_readAgain_0 : decode cX8_readAgain 0 = .ok (.aload_n 0, 1) := by decide +kernel
theorem dX8_readAgain_1 : decode cX8_readAgain 1 = .ok (.getfield 33, 3) := by decide +kernel
theorem dX8_readAgain_4 : decode cX8_readAgain 4 = .ok (.aload_n 0, 1) := by decide +kernel
theorem dX8_readAgain_5 : decode cX8_readAgain 5 = .ok (.getfield 10, 3) := by decide +kernel
theorem dX8_readAgain_8 : decode cX8_readAgain 8 = .ok (.getfield 71, 3) := by decide +kernel
theorem dX8_readAgain_11 : decode cX8_readAgain 11 = .ok (.invokevirtual 231, 3) := by decide +kernel
theorem dX8_readAgain_14 : decode cX8_readAgain 14 = .ok (.aload_n 0, 1) := by decide +kernel
theorem dX8_readAgain_15 : decode cX8_readAgain 15 = .ok (.getfield 33, 3) := by decide +kernel
theorem dX8_readAgain_18 : decode cX8_readAgain 18 = .ok (.aload_n 0, 1) := by decide +kernel
theorem dX8_readAgain_19 : decode cX8_readAgain 19 = .ok (.getfield 10, 3) := by decide +kernel
theorem dX8_readAgain_22 : decode cX8_readAgain 22 = .ok (.invokevirtual 236, 3) := by decide +kernel
theorem dX8_readAgain_25 : decode cX8_readAgain 25 = .ok (.aload_n 0, 1) := by decide +kernel
theorem dX8_readAgain_26 : decode cX8_readAgain 26 = .ok (.getfield 43, 3) := by decide +kernel
theorem dX8_readAgain_29 : decode cX8_readAgain 29 = .ok (.aload_n 0, 1) := by decide +kernel
theorem dX8_readAgain_30 : decode cX8_readAgain 30 = .ok (.getfield 33, 3) := by decide +kernel
theorem dX8_readAgain_33 : decode cX8_readAgain 33 = .ok (.getfield 214, 3) := by decide +kernel
theorem dX8_readAgain_36 : decode cX8_readAgain 36 = .ok (.invokevirtual 278, 3) := by decide +kernel
theorem dX8_readAgain_39 : decode cX8_readAgain 39 = .ok (.return_, 1) := by decide +kernel
set_option maxHeartbeats 4000000 in
set_option maxRecDepth 100000 in
theorem c_X8_readAgain (w : WT) (l : Launch) (hw : WOK w) {M : Mem} {L : Lng} {out : Mem} (hf : f_X8_readAgain M = some out) : Met l yX8_readAgain (Cond.code yX8_readAgain cX8_readAgain 1 none :: BG) ({ frames := 5, cells := 0, slots := 0, locals := 111 } : Room) (PRE w [.ref (wAd w 0)] M L) (QV w out L) 0 0 (wA w) := by
  refine kEnt hw (by decide +kernel) rfl (Nat.le_of_ble_eq_true rfl) ?_
  intro p e s m args below meth c C ls hl hP
  have hS : va_S (wA w) s.heap s.heap [] := va_S.rf
  have hl : lv_has ls 1 [(0, .ref (wAd w 0))] := hl
  unfold f_X8_readAgain at hf
  refine lv_aload_n C.1 C.2.1 dX8_readAgain_0 rfl (lv_at hl 0 rfl) ?_
  refine k_get (v := .ref (wAd w 54)) C hP (lt_NoisePost h0_NoisePost) (ob_NoisePost h0_NoisePost w L _) rfl iX8 3 (by decide) q287 rfl dX8_readAgain_1 ?_
  refine lv_aload_n C.1 C.2.1 dX8_readAgain_4 rfl (lv_at hl 0 rfl) ?_
  refine k_get (v := .ref (wAd w 1)) C hP (lt_NoisePost h0_NoisePost) (ob_NoisePost h0_NoisePost w L _) rfl iX8 0 (by decide) q284 rfl dX8_readAgain_5 ?_
  refine k_get (v := .ref (wAd w 4)) C hP (lt_State to_NoisePost_state) (ob_State to_NoisePost_state w L _) rfl iX5 2 (by decide) q50 rfl dX8_readAgain_8 ?_
  obtain ⟨r1, hr1, hf⟩ := ob hf
  refine kcv (kV (As := [.ref (wAd w 4)]) (rest := []) C hl.1 hP hS (c_X7_takeSettings w l C.2.2.2.2.2.2.2.2 to_NoisePost_now s_St (L := L) hr1) (gV q581 q582 q583 q5 q584) hd_X7_takeSettings (lt_View to_NoisePost_now) (ob_View to_NoisePost_now w L _) rfl ⟨rfl, rfl⟩ ⟨Nat.le_of_ble_eq_true rfl, Nat.le_of_ble_eq_true rfl⟩ rfl rfl (Nat.le_of_ble_eq_true rfl) dX8_readAgain_11 ⟨Nat.zero_le _, Nat.zero_le _⟩) hS (fun H locs hP hS => ?_)
  refine lv_aload_n C.1 C.2.1 dX8_readAgain_14 rfl (lv_at hl 0 rfl) ?_
  refine k_get (v := .ref (wAd w 54)) C hP (lt_NoisePost h0_NoisePost) (ob_NoisePost h0_NoisePost w L _) rfl iX8 3 (by decide) q287 rfl dX8_readAgain_15 ?_
  refine lv_aload_n C.1 C.2.1 dX8_readAgain_18 rfl (lv_at hl 0 rfl) ?_
  refine k_get (v := .ref (wAd w 1)) C hP (lt_NoisePost h0_NoisePost) (ob_NoisePost h0_NoisePost w L _) rfl iX8 0 (by decide) q284 rfl dX8_readAgain_19 ?_
  obtain ⟨r2, hr2, hf⟩ := ob hf
  refine kcv (kV (As := [.ref (wAd w 1)]) (rest := []) C hl.1 hP hS (c_X7_look w l C.2.2.2.2.2.2.2.2 to_NoisePost_now to_NoisePost_state (L := L) hr2) (gV q586 q587 q588 q5 q589) hd_X7_look (lt_View to_NoisePost_now) (ob_View to_NoisePost_now w L _) rfl ⟨rfl, rfl⟩ ⟨Nat.le_of_ble_eq_true rfl, Nat.le_of_ble_eq_true rfl⟩ rfl rfl (Nat.le_of_ble_eq_true rfl) dX8_readAgain_22 ⟨Nat.zero_le _, Nat.zero_le _⟩) hS (fun H locs hP hS => ?_)
  refine lv_aload_n C.1 C.2.1 dX8_readAgain_25 rfl (lv_at hl 0 rfl) ?_
  refine k_get (v := .ref (wAd w 88)) C hP (lt_NoisePost h0_NoisePost) (ob_NoisePost h0_NoisePost w L _) rfl iX8 5 (by decide) q289 rfl dX8_readAgain_26 ?_
  refine lv_aload_n C.1 C.2.1 dX8_readAgain_29 rfl (lv_at hl 0 rfl) ?_
  refine k_get (v := .ref (wAd w 54)) C hP (lt_NoisePost h0_NoisePost) (ob_NoisePost h0_NoisePost w L _) rfl iX8 3 (by decide) q287 rfl dX8_readAgain_30 ?_
  refine k_get (v := .ref (wAd w 56)) C hP (lt_View to_NoisePost_now) (ob_View to_NoisePost_now w L _) rfl iX7 1 (by decide) q259 rfl dX8_readAgain_33 ?_
  obtain ⟨r3, hr3, hf⟩ := ob hf
  refine kcv (kV (As := [.ref (wAd w 56)]) (rest := []) C hl.1 hP hS (c_X2_tally w l C.2.2.2.2.2.2.2.2 (to_View_minutes to_NoisePost_now) (L := L) hr3) (gV q639 q640 q641 q9 q642) hd_X2_tally (lt_LevelCounts to_NoisePost_levelCounts) (ob_LevelCounts to_NoisePost_levelCounts w L _) rfl ⟨rfl, rfl⟩ ⟨Nat.le_of_ble_eq_true rfl, Nat.le_of_ble_eq_true rfl⟩ rfl rfl (Nat.le_of_ble_eq_true rfl) dX8_readAgain_36 ⟨Nat.zero_le _, Nat.zero_le _⟩) hS (fun H locs hP hS => ?_)
  cases hf
  exact krv C hP hS dX8_readAgain_39
theorem dX8_set_0 : decode cX8_set 0 = .ok (.iload_n 1, 1) := by decide +kernel
theorem dX8_set_1 : decode cX8_set 1 = .ok (.invokestatic 47, 3) := by decide +kernel
theorem dX8_set_4 : decode cX8_set 4 = .ok (.ifCond .ne 13, 3) := by decide +kernel
theorem dX8_set_7 : decode cX8_set 7 = .ok (.new 51, 3) := by decide +kernel
theorem dX8_set_10 : decode cX8_set 10 = .ok (.dup, 1) := by decide +kernel
theorem dX8_set_11 : decode cX8_set 11 = .ok (.ldc 53, 2) := by decide +kernel
theorem dX8_set_13 : decode cX8_set 13 = .ok (.invokespecial 55, 3) := by decide +kernel
theorem dX8_set_16 : decode cX8_set 16 = .ok (.athrow, 1) := by decide +kernel
theorem dX8_set_17 : decode cX8_set 17 = .ok (.iload_n 1, 1) := by decide +kernel
theorem dX8_set_18 : decode cX8_set 18 = .ok (.iload_n 2, 1) := by decide +kernel
theorem dX8_set_19 : decode cX8_set 19 = .ok (.invokestatic 58, 3) := by decide +kernel
theorem dX8_set_22 : decode cX8_set 22 = .ok (.ifCond .ne 13, 3) := by decide +kernel
theorem dX8_set_25 : decode cX8_set 25 = .ok (.new 62, 3) := by decide +kernel
theorem dX8_set_28 : decode cX8_set 28 = .ok (.dup, 1) := by decide +kernel
theorem dX8_set_29 : decode cX8_set 29 = .ok (.ldc 64, 2) := by decide +kernel
theorem dX8_set_31 : decode cX8_set 31 = .ok (.invokespecial 66, 3) := by decide +kernel
theorem dX8_set_34 : decode cX8_set 34 = .ok (.athrow, 1) := by decide +kernel
theorem dX8_set_35 : decode cX8_set 35 = .ok (.aload_n 0, 1) := by decide +kernel
theorem dX8_set_36 : decode cX8_set 36 = .ok (.getfield 19, 3) := by decide +kernel
theorem dX8_set_39 : decode cX8_set 39 = .ok (.aload_n 0, 1) := by decide +kernel
theorem dX8_set_40 : decode cX8_set 40 = .ok (.getfield 10, 3) := by decide +kernel
theorem dX8_set_43 : decode cX8_set 43 = .ok (.invokevirtual 67, 3) := by decide +kernel
theorem dX8_set_46 : decode cX8_set 46 = .ok (.aload_n 0, 1) := by decide +kernel
theorem dX8_set_47 : decode cX8_set 47 = .ok (.getfield 10, 3) := by decide +kernel
theorem dX8_set_50 : decode cX8_set 50 = .ok (.getfield 71, 3) := by decide +kernel
theorem dX8_set_53 : decode cX8_set 53 = .ok (.iload_n 1, 1) := by decide +kernel
theorem dX8_set_54 : decode cX8_set 54 = .ok (.iaload, 1) := by decide +kernel
theorem dX8_set_55 : decode cX8_set 55 = .ok (.istore_n 3, 1) := by decide +kernel
theorem dX8_set_56 : decode cX8_set 56 = .ok (.aload_n 0, 1) := by decide +kernel
theorem dX8_set_57 : decode cX8_set 57 = .ok (.getfield 10, 3) := by decide +kernel
theorem dX8_set_60 : decode cX8_set 60 = .ok (.getfield 71, 3) := by decide +kernel
theorem dX8_set_63 : decode cX8_set 63 = .ok (.iload_n 1, 1) := by decide +kernel
theorem dX8_set_64 : decode cX8_set 64 = .ok (.iload_n 2, 1) := by decide +kernel
theorem dX8_set_65 : decode cX8_set 65 = .ok (.iastore, 1) := by decide +kernel
theorem dX8_set_66 : decode cX8_set 66 = .ok (.aload_n 0, 1) := by decide +kernel
theorem dX8_set_67 : decode cX8_set 67 = .ok (.invokevirtual 75, 3) := by decide +kernel
theorem dX8_set_70 : decode cX8_set 70 = .ok (.iload_n 3, 1) := by decide +kernel
theorem dX8_set_71 : decode cX8_set 71 = .ok (.ireturn, 1) := by decide +kernel
set_option maxHeartbeats 4000000 in
set_option maxRecDepth 100000 in
theorem c_X8_set (w : WT) (l : Launch) (hw : WOK w) (hfl : l.stackTraces = false) {a1 : Int32} {a2 : Int32} {M : Mem} {L : Lng} {out : (Nat × Mem) ⊕ (Int32 × Mem)} (hf : f_X8_set a1 a2 M = some out) : vx_Met l yX8_set (Cond.code yX8_set cX8_set 4 (some .int) :: BG) ({ frames := 6, cells := 1, slots := 6, locals := 131 } : Room) (PREX w [.ref (wAd w 0), .int a1, .int a2] M L) (QX w out L) (XX w out L) 1 6 (wA w) := by
  refine kEntX hw hfl (by decide +kernel) rfl (Nat.le_of_ble_eq_true rfl) ?_
  intro p e s m args below meth c C T ls hl hP
  have hS : va_S (wA w) s.heap s.heap [] := va_S.rf
  have hl : lv_has ls 4 [(0, .ref (wAd w 0)), (1, .int a1), (2, .int a2)] := hl
  unfold f_X8_set at hf
  refine lv_iload_n C.1 C.2.1 dX8_set_0 rfl (lv_at hl 1 rfl) ?_
  obtain ⟨r1, hr1, hf⟩ := ob hf
  refine kci (kS (As := [.int a1]) (rest := []) C hl.1 hP hS (c_X8_isSetting w l C.2.2.2.2.2.2.2.2 (L := L) hr1) (gS q469 q470 q1 q471) hd_X8_isSetting ⟨rfl, rfl⟩ ⟨Nat.le_of_ble_eq_true rfl, Nat.le_of_ble_eq_true rfl⟩ rfl rfl (Nat.le_of_ble_eq_true rfl) dX8_set_1 ⟨Nat.zero_le _, Nat.zero_le _⟩) hS (fun H locs hP hS => ?_)
  refine lv_if_ne (tgt := 17) C.1 C.2.1 dX8_set_4 (by decide) (fun c2 => ?_) (fun c2 => ?_)
  · have hf := (if_neg c2).symm.trans hf
    refine lv_iload_n C.1 C.2.1 dX8_set_17 rfl (lv_at hl 1 rfl) ?_
    refine lv_iload_n C.1 C.2.1 dX8_set_18 rfl (lv_at hl 2 rfl) ?_
    obtain ⟨r3, hr3, hf⟩ := ob hf
    refine kci (kS (As := [.int a1, .int a2]) (rest := []) C hl.1 hP hS (c_X8_fitsSetting w l C.2.2.2.2.2.2.2.2 (L := L) hr3) (gS q540 q541 q1 q542) hd_X8_fitsSetting ⟨rfl, rfl⟩ ⟨Nat.le_of_ble_eq_true rfl, Nat.le_of_ble_eq_true rfl⟩ rfl rfl (Nat.le_of_ble_eq_true rfl) dX8_set_19 ⟨Nat.zero_le _, Nat.zero_le _⟩) hS (fun H locs hP hS => ?_)
    refine lv_if_ne (tgt := 35) C.1 C.2.1 dX8_set_22 (by decide) (fun c4 => ?_) (fun c4 => ?_)
    · have hf := (if_neg c4).symm.trans hf
      refine lv_aload_n C.1 C.2.1 dX8_set_35 rfl (lv_at hl 0 rfl) ?_
      refine k_get (v := .ref (wAd w 46)) C hP (lt_NoisePost h0_NoisePost) (ob_NoisePost h0_NoisePost w L _) rfl iX8 1 (by decide) q285 rfl dX8_set_36 ?_
      refine lv_aload_n C.1 C.2.1 dX8_set_39 rfl (lv_at hl 0 rfl) ?_
      refine k_get (v := .ref (wAd w 1)) C hP (lt_NoisePost h0_NoisePost) (ob_NoisePost h0_NoisePost w L _) rfl iX8 0 (by decide) q284 rfl dX8_set_40 ?_
      obtain ⟨r5, hr5, hf⟩ := ob hf
      refine kcv (kV (As := [.ref (wAd w 1)]) (rest := []) C hl.1 hP hS (c_X1_keep w l C.2.2.2.2.2.2.2.2 to_NoisePost_state (L := L) hr5) (gV q563 q564 q565 q3 q566) hd_X1_keep (lt_History to_NoisePost_history) (ob_History to_NoisePost_history w L _) rfl ⟨rfl, rfl⟩ ⟨Nat.le_of_ble_eq_true rfl, Nat.le_of_ble_eq_true rfl⟩ rfl rfl (Nat.le_of_ble_eq_true rfl) dX8_set_43 ⟨Nat.zero_le _, Nat.zero_le _⟩) hS (fun H locs hP hS => ?_)
      refine lv_aload_n C.1 C.2.1 dX8_set_46 rfl (lv_at hl 0 rfl) ?_
      refine k_get (v := .ref (wAd w 1)) C hP (lt_NoisePost h0_NoisePost) (ob_NoisePost h0_NoisePost w L _) rfl iX8 0 (by decide) q284 rfl dX8_set_47 ?_
      refine k_get (v := .ref (wAd w 4)) C hP (lt_State to_NoisePost_state) (ob_State to_NoisePost_state w L _) rfl iX5 2 (by decide) q50 rfl dX8_set_50 ?_
      refine lv_iload_n C.1 C.2.1 dX8_set_53 rfl (lv_at hl 1 rfl) ?_
      obtain ⟨x6, hx6, hf⟩ := ob hf
      refine k_iald C hP (la_State_settings to_NoisePost_state) (ar_State_settings to_NoisePost_state w L _) hx6 dX8_set_54 ?_
      refine lv_istore_n (lv' := [(3, .int x6), (0, .ref (wAd w 0)), (1, .int a1), (2, .int a2)]) C.1 C.2.1 dX8_set_55 rfl hl (by decide) rfl (fun ls hl => ?_)
      refine lv_aload_n C.1 C.2.1 dX8_set_56 rfl (lv_at hl 1 rfl) ?_
      refine k_get (v := .ref (wAd w 1)) C hP (lt_NoisePost h0_NoisePost) (ob_NoisePost h0_NoisePost w L _) rfl iX8 0 (by decide) q284 rfl dX8_set_57 ?_
      refine k_get (v := .ref (wAd w 4)) C hP (lt_State to_NoisePost_state) (ob_State to_NoisePost_state w L _) rfl iX5 2 (by decide) q50 rfl dX8_set_60 ?_
      refine lv_iload_n C.1 C.2.1 dX8_set_63 rfl (lv_at hl 2 rfl) ?_
      refine lv_iload_n C.1 C.2.1 dX8_set_64 rfl (lv_at hl 3 rfl) ?_
      obtain ⟨M7, hM7, hf⟩ := ob hf
      refine k_iast C hP hS (la_State_settings to_NoisePost_state) (ar_State_settings to_NoisePost_state w L) hM7 dX8_set_65 (fun H locs hP hS => ?_)
      refine lv_aload_n C.1 C.2.1 dX8_set_66 rfl (lv_at hl 1 rfl) ?_
      obtain ⟨r8, hr8, hf⟩ := ob hf
      refine kcv (kV (As := []) (rest := []) C hl.1 hP hS (c_X8_readAgain w l C.2.2.2.2.2.2.2.2 (L := L) hr8) (gV q577 q579 qp18 q1 q580) hd_X8_readAgain (lt_NoisePost h0_NoisePost) (ob_NoisePost h0_NoisePost w L _) rfl ⟨rfl, rfl⟩ ⟨Nat.le_of_ble_eq_true rfl, Nat.le_of_ble_eq_true rfl⟩ rfl rfl (Nat.le_of_ble_eq_true rfl) dX8_set_67 ⟨Nat.zero_le _, Nat.zero_le _⟩) hS (fun H locs hP hS => ?_)
      refine lv_iload_n C.1 C.2.1 dX8_set_70 rfl (lv_at hl 0 rfl) ?_
      cases hf
      exact krix C hP hS dX8_set_71
    · have hf := (if_pos c4).symm.trans hf
      cases hf
      exact k_thr C T hP hS hl.1 1 (by decide) q547 q15 (List.mem_of_getElem? (i := 1) rfl) dX8_set_25 dX8_set_28 dX8_set_29 dX8_set_31 dX8_set_34 (Nat.le_of_ble_eq_true rfl) (Nat.le_of_ble_eq_true rfl) (Nat.le_refl _) (Nat.le_refl _)
  · have hf := (if_pos c2).symm.trans hf
    cases hf
    exact k_thr C T hP hS hl.1 0 (by decide) q472 q14 (List.mem_of_getElem? (i := 0) rfl) dX8_set_7 dX8_set_10 dX8_set_11 dX8_set_13 dX8_set_16 (Nat.le_of_ble_eq_true rfl) (Nat.le_of_ble_eq_true rfl) (Nat.le_refl _) (Nat.le_refl _)
theorem dX8_isLevel_0 : decode cX8_isLevel 0 = .ok (.iload_n 0, 1) := by decide +kernel
theorem dX8_isLevel_1 : decode cX8_isLevel 1 = .ok (.ifCond .lt 14, 3) := by decide +kernel
theorem dX8_isLevel_4 : decode cX8_isLevel 4 = .ok (.iload_n 0, 1) := by decide +kernel
theorem dX8_isLevel_5 : decode cX8_isLevel 5 = .ok (.sipush 140, 3) := by decide +kernel
theorem dX8_isLevel_8 : decode cX8_isLevel 8 = .ok (.if_icmp .gt 7, 3) := by decide +kernel
theorem dX8_isLevel_11 : decode cX8_isLevel 11 = .ok (.iconst 1, 1) := by decide +kernel
theorem dX8_isLevel_12 : decode cX8_isLevel 12 = .ok (.goto 4, 3) := by decide +kernel
theorem dX8_isLevel_15 : decode cX8_isLevel 15 = .ok (.iconst 0, 1) := by decide +kernel
theorem dX8_isLevel_16 : decode cX8_isLevel 16 = .ok (.ireturn, 1) := by decide +kernel
set_option maxHeartbeats 4000000 in
set_option maxRecDepth 100000 in
theorem c_X8_isLevel (w : WT) (l : Launch) (hw : WOK w) {a0 : Int32} {M : Mem} {L : Lng} {out : Int32} (hf : f_X8_isLevel a0 M = some out) : Met l yX8_isLevel (Cond.code yX8_isLevel cX8_isLevel 1 (some .boolean) :: BG) ({ frames := 0, cells := 0, slots := 0, locals := 0 } : Room) (PRE w [.int a0] M L) (QI w out M L) 0 0 (wA w) := by
  refine kEnt hw (by decide +kernel) rfl (Nat.le_of_ble_eq_true rfl) ?_
  intro p e s m args below meth c C ls hl hP
  have hS : va_S (wA w) s.heap s.heap [] := va_S.rf
  have hl : lv_has ls 1 [(0, .int a0)] := hl
  unfold f_X8_isLevel at hf
  refine lv_iload_n C.1 C.2.1 dX8_isLevel_0 rfl (lv_at hl 0 rfl) ?_
  refine lv_if_lt (tgt := 15) C.1 C.2.1 dX8_isLevel_1 (by decide) (fun c1 => ?_) (fun c1 => ?_)
  · have hf := (if_pos c1).symm.trans hf
    refine lv_iconst (v := 0) C.1 C.2.1 dX8_isLevel_15 (by decide) ?_
    cases hf
    exact krz C hP hS bz0 dX8_isLevel_16
  · have hf := (if_neg c1).symm.trans hf
    refine lv_iload_n C.1 C.2.1 dX8_isLevel_4 rfl (lv_at hl 0 rfl) ?_
    refine lv_sipush (v := 140) C.1 C.2.1 dX8_isLevel_5 (by decide) ?_
    refine lv_icmp_gt (tgt := 15) C.1 C.2.1 dX8_isLevel_8 (by decide) (fun c2 => ?_) (fun c2 => ?_)
    · have hf := (if_pos c2).symm.trans hf
      refine lv_iconst (v := 0) C.1 C.2.1 dX8_isLevel_15 (by decide) ?_
      cases hf
      exact krz C hP hS bz0 dX8_isLevel_16
    · have hf := (if_neg c2).symm.trans hf
      refine lv_iconst (v := 1) C.1 C.2.1 dX8_isLevel_11 (by decide) ?_
      refine lv_goto (tgt := 16) C.1 C.2.1 dX8_isLevel_12 (by decide) ?_
      cases hf
      exact krz C hP hS bz1 dX8_isLevel_16
theorem dX8_isWind_0 : decode cX8_isWind 0 = .ok (.iload_n 0, 1) := by decide +kernel
theorem dX8_isWind_1 : decode cX8_isWind 1 = .ok (.ifCond .lt 13, 3) := by decide +kernel
theorem dX8_isWind_4 : decode cX8_isWind 4 = .ok (.iload_n 0, 1) := by decide +kernel
theorem dX8_isWind_5 : decode cX8_isWind 5 = .ok (.bipush 40, 2) := by decide +kernel
theorem dX8_isWind_7 : decode cX8_isWind 7 = .ok (.if_icmp .gt 7, 3) := by decide +kernel
theorem dX8_isWind_10 : decode cX8_isWind 10 = .ok (.iconst 1, 1) := by decide +kernel
theorem dX8_isWind_11 : decode cX8_isWind 11 = .ok (.goto 4, 3) := by decide +kernel
theorem dX8_isWind_14 : decode cX8_isWind 14 = .ok (.iconst 0, 1) := by decide +kernel
theorem dX8_isWind_15 : decode cX8_isWind 15 = .ok (.ireturn, 1) := by decide +kernel
set_option maxHeartbeats 4000000 in
set_option maxRecDepth 100000 in
theorem c_X8_isWind (w : WT) (l : Launch) (hw : WOK w) {a0 : Int32} {M : Mem} {L : Lng} {out : Int32} (hf : f_X8_isWind a0 M = some out) : Met l yX8_isWind (Cond.code yX8_isWind cX8_isWind 1 (some .boolean) :: BG) ({ frames := 0, cells := 0, slots := 0, locals := 0 } : Room) (PRE w [.int a0] M L) (QI w out M L) 0 0 (wA w) := by
  refine kEnt hw (by decide +kernel) rfl (Nat.le_of_ble_eq_true rfl) ?_
  intro p e s m args below meth c C ls hl hP
  have hS : va_S (wA w) s.heap s.heap [] := va_S.rf
  have hl : lv_has ls 1 [(0, .int a0)] := hl
  unfold f_X8_isWind at hf
  refine lv_iload_n C.1 C.2.1 dX8_isWind_0 rfl (lv_at hl 0 rfl) ?_
  refine lv_if_lt (tgt := 14) C.1 C.2.1 dX8_isWind_1 (by decide) (fun c1 => ?_) (fun c1 => ?_)
  · have hf := (if_pos c1).symm.trans hf
    refine lv_iconst (v := 0) C.1 C.2.1 dX8_isWind_14 (by decide) ?_
    cases hf
    exact krz C hP hS bz0 dX8_isWind_15
  · have hf := (if_neg c1).symm.trans hf
    refine lv_iload_n C.1 C.2.1 dX8_isWind_4 rfl (lv_at hl 0 rfl) ?_
    refine lv_bipush (v := 40) C.1 C.2.1 dX8_isWind_5 (by decide) ?_
    refine lv_icmp_gt (tgt := 14) C.1 C.2.1 dX8_isWind_7 (by decide) (fun c2 => ?_) (fun c2 => ?_)
    · have hf := (if_pos c2).symm.trans hf
      refine lv_iconst (v := 0) C.1 C.2.1 dX8_isWind_14 (by decide) ?_
      cases hf
      exact krz C hP hS bz0 dX8_isWind_15
    · have hf := (if_neg c2).symm.trans hf
      refine lv_iconst (v := 1) C.1 C.2.1 dX8_isWind_10 (by decide) ?_
      refine lv_goto (tgt := 15) C.1 C.2.1 dX8_isWind_11 (by decide) ?_
      cases hf
      exact krz C hP hS bz1 dX8_isWind_15
theorem dX8_tell_0 : decode cX8_tell 0 = .ok (.iload_n 1, 1) := by decide +kernel
theorem dX8_tell_1 : decode cX8_tell 1 = .ok (.invokestatic 78, 3) := by decide +kernel
theorem dX8_tell_4 : decode cX8_tell 4 = .ok (.ifCond .eq 21, 3) := by decide +kernel
theorem dX8_tell_7 : decode cX8_tell 7 = .ok (.iload_n 2, 1) := by decide +kernel
theorem dX8_tell_8 : decode cX8_tell 8 = .ok (.invokestatic 81, 3) := by decide +kernel
theorem dX8_tell_11 : decode cX8_tell 11 = .ok (.ifCond .eq 14, 3) := by decide +kernel
theorem dX8_tell_14 : decode cX8_tell 14 = .ok (.iload_n 3, 1) := by decide +kernel
theorem dX8_tell_15 : decode cX8_tell 15 = .ok (.iconst 1, 1) := by decide +kernel
theorem dX8_tell_16 : decode cX8_tell 16 = .ok (.if_icmp .lt 9, 3) := by decide +kernel
theorem dX8_tell_19 : decode cX8_tell 19 = .ok (.iload_n 3, 1) := by decide +kernel
theorem dX8_tell_20 : decode cX8_tell 20 = .ok (.bipush 60, 2) := by decide +kernel
theorem dX8_tell_22 : decode cX8_tell 22 = .ok (.if_icmp .le 13, 3) := by decide +kernel
theorem dX8_tell_25 : decode cX8_tell 25 = .ok (.new 62, 3) := by decide +kernel
theorem dX8_tell_28 : decode cX8_tell 28 = .ok (.dup, 1) := by decide +kernel
theorem dX8_tell_29 : decode cX8_tell 29 = .ok (.ldc 84, 2) := by decide +kernel
theorem dX8_tell_31 : decode cX8_tell 31 = .ok (.invokespecial 66, 3) := by decide +kernel
theorem dX8_tell_34 : decode cX8_tell 34 = .ok (.athrow, 1) := by decide +kernel
theorem dX8_tell_35 : decode cX8_tell 35 = .ok (.aload_n 0, 1) := by decide +kernel
theorem dX8_tell_36 : decode cX8_tell 36 = .ok (.getfield 10, 3) := by decide +kernel
theorem dX8_tell_39 : decode cX8_tell 39 = .ok (.getfield 86, 3) := by decide +kernel
theorem dX8_tell_42 : decode cX8_tell 42 = .ok (.iload_n 3, 1) := by decide +kernel
theorem dX8_tell_43 : decode cX8_tell 43 = .ok (.iadd, 1) := by decide +kernel
theorem dX8_tell_44 : decode cX8_tell 44 = .ok (.sipush 200, 3) := by decide +kernel
theorem dX8_tell_47 : decode cX8_tell 47 = .ok (.if_icmp .le 13, 3) := by decide +kernel
theorem dX8_tell_50 : decode cX8_tell 50 = .ok (.new 90, 3) := by decide +kernel
theorem dX8_tell_53 : decode cX8_tell 53 = .ok (.dup, 1) := by decide +kernel
theorem dX8_tell_54 : decode cX8_tell 54 = .ok (.ldc 92, 2) := by decide +kernel
theorem dX8_tell_56 : decode cX8_tell 56 = .ok (.invokespecial 94, 3) := by decide +kernel
theorem dX8_tell_59 : decode cX8_tell 59 = .ok (.athrow, 1) := by decide +kernel
theorem dX8_tell_60 : decode cX8_tell 60 = .ok (.aload_n 0, 1) := by decide +kernel
theorem dX8_tell_61 : decode cX8_tell 61 = .ok (.getfield 19, 3) := by decide +kernel
theorem dX8_tell_64 : decode cX8_tell 64 = .ok (.aload_n 0, 1) := by decide +kernel
theorem dX8_tell_65 : decode cX8_tell 65 = .ok (.getfield 10, 3) := by decide +kernel
theorem dX8_tell_68 : decode cX8_tell 68 = .ok (.invokevirtual 67, 3) := by decide +kernel
theorem dX8_tell_71 : decode cX8_tell 71 = .ok (.aload_n 0, 1) := by decide +kernel
theorem dX8_tell_72 : decode cX8_tell 72 = .ok (.getfield 10, 3) := by decide +kernel
theorem dX8_tell_75 : decode cX8_tell 75 = .ok (.iload_n 1, 1) := by decide +kernel
theorem dX8_tell_76 : decode cX8_tell 76 = .ok (.iload_n 2, 1) := by decide +kernel
theorem dX8_tell_77 : decode cX8_tell 77 = .ok (.iload_n 3, 1) := by decide +kernel
theorem dX8_tell_78 : decode cX8_tell 78 = .ok (.invokevirtual 95, 3) := by decide +kernel
theorem dX8_tell_81 : decode cX8_tell 81 = .ok (.aload_n 0, 1) := by decide +kernel
theorem dX8_tell_82 : decode cX8_tell 82 = .ok (.invokevirtual 75, 3) := by decide +kernel
theorem dX8_tell_85 : decode cX8_tell 85 = .ok (.aload_n 0, 1) := by decide +kernel
theorem dX8_tell_86 : decode cX8_tell 86 = .ok (.getfield 10, 3) := by decide +kernel
theorem dX8_tell_89 : decode cX8_tell 89 = .ok (.getfield 86, 3) := by decide +kernel
theorem dX8_tell_92 : decode cX8_tell 92 = .ok (.ireturn, 1) := by decide +kernel
set_option maxHeartbeats 4000000 in
set_option maxRecDepth 100000 in
theorem w_X8_tell_j25 {w : WT} {l : Launch} {p : Program} {e : Env} {s : State} {m : MethodId} {args : Array Value} {below : List Frame} {meth : Method} {c : Code} (C : KC w p s m args meth c cX8_tell 4 RX8 (some .int)) (T : KT w l s c) {M : Mem} {L : Lng} {out : (Nat × Mem) ⊕ (Int32 × Mem)} (hf : f_X8_tell_j25 M = some out) : AtL w p l e ({ frames := 6, cells := 1, slots := 6, locals := 131 } : Room) s m args below meth c (vx_MQ below (QX w out L) (XX w out L) args s 1 6 (wA w)) 4 25 M L [] [] := by
  intro H locs ls hP hS hl
  unfold f_X8_tell_j25 at hf
  cases hf
  exact k_thr C T hP hS hl.1 1 (by decide) q547 q15 (List.mem_of_getElem? (i := 2) rfl) dX8_tell_25 dX8_tell_28 dX8_tell_29 dX8_tell_31 dX8_tell_34 (Nat.le_of_ble_eq_true rfl) (Nat.le_of_ble_eq_true rfl) (Nat.le_refl _) (Nat.le_refl _)
set_option maxHeartbeats 4000000 in
set_option maxRecDepth 100000 in
theorem c_X8_tell (w : WT) (l : Launch) (hw : WOK w) (hfl : l.stackTraces = false) {a1 : Int32} {a2 : Int32} {a3 : Int32} {M : Mem} {L : Lng} {out : (Nat × Mem) ⊕ (Int32 × Mem)} (hf : f_X8_tell a1 a2 a3 M = some out) : vx_Met l yX8_tell (Cond.code yX8_tell cX8_tell 4 (some .int) :: BG) ({ frames := 6, cells := 1, slots := 6, locals := 131 } : Room) (PREX w [.ref (wAd w 0), .int a1, .int a2, .int a3] M L) (QX w out L) (XX w out L) 1 6 (wA w) := by
  refine kEntX hw hfl (by decide +kernel) rfl (Nat.le_of_ble_eq_true rfl) ?_
  intro p e s m args below meth c C T ls hl hP
  have hS : va_S (wA w) s.heap s.heap [] := va_S.rf
  have hl : lv_has ls 4 [(0, .ref (wAd w 0)), (1, .int a1), (2, .int a2), (3, .int a3)] := hl
  unfold f_X8_tell at hf
  refine lv_iload_n C.1 C.2.1 dX8_tell_0 rfl (lv_at hl 1 rfl) ?_
  obtain ⟨r1, hr1, hf⟩ := ob hf
  refine kci (kS (As := [.int a1]) (rest := []) C hl.1 hP hS (c_X8_isLevel w l C.2.2.2.2.2.2.2.2 (L := L) hr1) (gS q657 q658 q1 q659) hd_X8_isLevel ⟨rfl, rfl⟩ ⟨Nat.le_of_ble_eq_true rfl, Nat.le_of_ble_eq_true rfl⟩ rfl rfl (Nat.le_of_ble_eq_true rfl) dX8_tell_1 ⟨Nat.zero_le _, Nat.zero_le _⟩) hS (fun H locs hP hS => ?_)
  refine lv_if_eq (tgt := 25) C.1 C.2.1 dX8_tell_4 (by decide) (fun c2 => ?_) (fun c2 => ?_)
  · have hf := (if_pos c2).symm.trans hf
    exact w_X8_tell_j25 C T hf _ _ _ hP hS (lv_sub hl [] rfl)
  · have hf := (if_neg c2).symm.trans hf
    refine lv_iload_n C.1 C.2.1 dX8_tell_7 rfl (lv_at hl 2 rfl) ?_
    obtain ⟨r3, hr3, hf⟩ := ob hf
    refine kci (kS (As := [.int a2]) (rest := []) C hl.1 hP hS (c_X8_isWind w l C.2.2.2.2.2.2.2.2 (L := L) hr3) (gS q660 q661 q1 q662) hd_X8_isWind ⟨rfl, rfl⟩ ⟨Nat.le_of_ble_eq_true rfl, Nat.le_of_ble_eq_true rfl⟩ rfl rfl (Nat.le_of_ble_eq_true rfl) dX8_tell_8 ⟨Nat.zero_le _, Nat.zero_le _⟩) hS (fun H locs hP hS => ?_)
    refine lv_if_eq (tgt := 25) C.1 C.2.1 dX8_tell_11 (by decide) (fun c4 => ?_) (fun c4 => ?_)
    · have hf := (if_pos c4).symm.trans hf
      exact w_X8_tell_j25 C T hf _ _ _ hP hS (lv_sub hl [] rfl)
    · have hf := (if_neg c4).symm.trans hf
      refine lv_iload_n C.1 C.2.1 dX8_tell_14 rfl (lv_at hl 3 rfl) ?_
      refine lv_iconst (v := 1) C.1 C.2.1 dX8_tell_15 (by decide) ?_
      refine lv_icmp_lt (tgt := 25) C.1 C.2.1 dX8_tell_16 (by decide) (fun c5 => ?_) (fun c5 => ?_)
      · have hf := (if_pos c5).symm.trans hf
        exact w_X8_tell_j25 C T hf _ _ _ hP hS (lv_sub hl [] rfl)
      · have hf := (if_neg c5).symm.trans hf
        refine lv_iload_n C.1 C.2.1 dX8_tell_19 rfl (lv_at hl 3 rfl) ?_
        refine lv_bipush (v := 60) C.1 C.2.1 dX8_tell_20 (by decide) ?_
        refine lv_icmp_le (tgt := 35) C.1 C.2.1 dX8_tell_22 (by decide) (fun c6 => ?_) (fun c6 => ?_)
        · have hf := (if_pos c6).symm.trans hf
          refine lv_aload_n C.1 C.2.1 dX8_tell_35 rfl (lv_at hl 0 rfl) ?_
          refine k_get (v := .ref (wAd w 1)) C hP (lt_NoisePost h0_NoisePost) (ob_NoisePost h0_NoisePost w L _) rfl iX8 0 (by decide) q284 rfl dX8_tell_36 ?_
          refine k_get (v := .int (M 1 4)) C hP (lt_State to_NoisePost_state) (ob_State to_NoisePost_state w L _) rfl iX5 4 (by decide) q56 rfl dX8_tell_39 ?_
          refine lv_iload_n C.1 C.2.1 dX8_tell_42 rfl (lv_at hl 3 rfl) ?_
          refine lv_iadd C.1 C.2.1 dX8_tell_43 ?_
          refine lv_sipush (v := 200) C.1 C.2.1 dX8_tell_44 (by decide) ?_
          refine lv_icmp_le (tgt := 60) C.1 C.2.1 dX8_tell_47 (by decide) (fun c7 => ?_) (fun c7 => ?_)
          · have hf := (if_pos c7).symm.trans hf
            refine lv_aload_n C.1 C.2.1 dX8_tell_60 rfl (lv_at hl 0 rfl) ?_
            refine k_get (v := .ref (wAd w 46)) C hP (lt_NoisePost h0_NoisePost) (ob_NoisePost h0_NoisePost w L _) rfl iX8 1 (by decide) q285 rfl dX8_tell_61 ?_
            refine lv_aload_n C.1 C.2.1 dX8_tell_64 rfl (lv_at hl 0 rfl) ?_
            refine k_get (v := .ref (wAd w 1)) C hP (lt_NoisePost h0_NoisePost) (ob_NoisePost h0_NoisePost w L _) rfl iX8 0 (by decide) q284 rfl dX8_tell_65 ?_
            obtain ⟨r8, hr8, hf⟩ := ob hf
            refine kcv (kV (As := [.ref (wAd w 1)]) (rest := []) C hl.1 hP hS (c_X1_keep w l C.2.2.2.2.2.2.2.2 to_NoisePost_state (L := L) hr8) (gV q563 q564 q565 q3 q566) hd_X1_keep (lt_History to_NoisePost_history) (ob_History to_NoisePost_history w L _) rfl ⟨rfl, rfl⟩ ⟨Nat.le_of_ble_eq_true rfl, Nat.le_of_ble_eq_true rfl⟩ rfl rfl (Nat.le_of_ble_eq_true rfl) dX8_tell_68 ⟨Nat.zero_le _, Nat.zero_le _⟩) hS (fun H locs hP hS => ?_)
            refine lv_aload_n C.1 C.2.1 dX8_tell_71 rfl (lv_at hl 0 rfl) ?_
            refine k_get (v := .ref (wAd w 1)) C hP (lt_NoisePost h0_NoisePost) (ob_NoisePost h0_NoisePost w L _) rfl iX8 0 (by decide) q284 rfl dX8_tell_72 ?_
            refine lv_iload_n C.1 C.2.1 dX8_tell_75 rfl (lv_at hl 1 rfl) ?_
            refine lv_iload_n C.1 C.2.1 dX8_tell_76 rfl (lv_at hl 2 rfl) ?_
            refine lv_iload_n C.1 C.2.1 dX8_tell_77 rfl (lv_at hl 3 rfl) ?_
            obtain ⟨r9, hr9, hf⟩ := ob hf
            refine kcv (kV (As := [.int a1, .int a2, .int a3]) (rest := []) C hl.1 hP hS (c_X5_addMinutes w l C.2.2.2.2.2.2.2.2 to_NoisePost_state (L := L) hr9) (gV q680 q681 q682 q2 q683) hd_X5_addMinutes (lt_State to_NoisePost_state) (ob_State to_NoisePost_state w L _) rfl ⟨rfl, rfl⟩ ⟨Nat.le_of_ble_eq_true rfl, Nat.le_of_ble_eq_true rfl⟩ rfl rfl (Nat.le_of_ble_eq_true rfl) dX8_tell_78 ⟨Nat.zero_le _, Nat.zero_le _⟩) hS (fun H locs hP hS => ?_)
            refine lv_aload_n C.1 C.2.1 dX8_tell_81 rfl (lv_at hl 0 rfl) ?_
            obtain ⟨r10, hr10, hf⟩ := ob hf
            refine kcv (kV (As := []) (rest := []) C hl.1 hP hS (c_X8_readAgain w l C.2.2.2.2.2.2.2.2 (L := L) hr10) (gV q577 q579 qp18 q1 q580) hd_X8_readAgain (lt_NoisePost h0_NoisePost) (ob_NoisePost h0_NoisePost w L _) rfl ⟨rfl, rfl⟩ ⟨Nat.le_of_ble_eq_true rfl, Nat.le_of_ble_eq_true rfl⟩ rfl rfl (Nat.le_of_ble_eq_true rfl) dX8_tell_82 ⟨Nat.zero_le _, Nat.zero_le _⟩) hS (fun H locs hP hS => ?_)
            refine lv_aload_n C.1 C.2.1 dX8_tell_85 rfl (lv_at hl 0 rfl) ?_
            refine k_get (v := .ref (wAd w 1)) C hP (lt_NoisePost h0_NoisePost) (ob_NoisePost h0_NoisePost w L _) rfl iX8 0 (by decide) q284 rfl dX8_tell_86 ?_
            refine k_get (v := .int (r10 1 4)) C hP (lt_State to_NoisePost_state) (ob_State to_NoisePost_state w L _) rfl iX5 4 (by decide) q56 rfl dX8_tell_89 ?_
            cases hf
            exact krix C hP hS dX8_tell_92
          · have hf := (if_neg c7).symm.trans hf
            cases hf
            exact k_thr C T hP hS hl.1 2 (by decide) q664 q18 (List.mem_of_getElem? (i := 3) rfl) dX8_tell_50 dX8_tell_53 dX8_tell_54 dX8_tell_56 dX8_tell_59 (Nat.le_of_ble_eq_true rfl) (Nat.le_of_ble_eq_true rfl) (Nat.le_refl _) (Nat.le_refl _)
        · have hf := (if_neg c6).symm.trans hf
          exact w_X8_tell_j25 C T hf _ _ _ hP hS (lv_sub hl [] rfl)
