theorem dX9_isPartOver_0 : decode cX9_isPartOver 0 = .ok (.aload_n 0, 1) := by decide +kernel
theorem dX9_isPartOver_1 : decode cX9_isPartOver 1 = .ok (.getfield 147, 3) := by decide +kernel
theorem dX9_isPartOver_4 : decode cX9_isPartOver 4 = .ok (.ifCond .le 32, 3) := by decide +kernel
theorem dX9_isPartOver_7 : decode cX9_isPartOver 7 = .ok (.aload_n 0, 1) := by decide +kernel
theorem dX9_isPartOver_8 : decode cX9_isPartOver 8 = .ok (.getfield 144, 3) := by decide +kernel
theorem dX9_isPartOver_11 : decode cX9_isPartOver 11 = .ok (.iconst 2, 1) := by decide +kernel
theorem dX9_isPartOver_12 : decode cX9_isPartOver 12 = .ok (.if_icmp .lt 20, 3) := by decide +kernel
theorem dX9_isPartOver_15 : decode cX9_isPartOver 15 = .ok (.aload_n 0, 1) := by decide +kernel
theorem dX9_isPartOver_16 : decode cX9_isPartOver 16 = .ok (.getfield 58, 3) := by decide +kernel
theorem dX9_isPartOver_19 : decode cX9_isPartOver 19 = .ok (.iconst 3, 1) := by decide +kernel
theorem dX9_isPartOver_20 : decode cX9_isPartOver 20 = .ok (.aload_n 0, 1) := by decide +kernel
theorem dX9_isPartOver_21 : decode cX9_isPartOver 21 = .ok (.getfield 150, 3) := by decide +kernel
theorem dX9_isPartOver_24 : decode cX9_isPartOver 24 = .ok (.imul, 1) := by decide +kernel
theorem dX9_isPartOver_25 : decode cX9_isPartOver 25 = .ok (.iconst 2, 1) := by decide +kernel
theorem dX9_isPartOver_26 : decode cX9_isPartOver 26 = .ok (.iadd, 1) := by decide +kernel
theorem dX9_isPartOver_27 : decode cX9_isPartOver 27 = .ok (.iaload, 1) := by decide +kernel
theorem dX9_isPartOver_28 : decode cX9_isPartOver 28 = .ok (.iconst 1, 1) := by decide +kernel
theorem dX9_isPartOver_29 : decode cX9_isPartOver 29 = .ok (.if_icmp .le 7, 3) := by decide +kernel
theorem dX9_isPartOver_32 : decode cX9_isPartOver 32 = .ok (.iconst 1, 1) := by decide +kernel
theorem dX9_isPartOver_33 : decode cX9_isPartOver 33 = .ok (.goto 4, 3) := by decide +kernel
theorem dX9_isPartOver_36 : decode cX9_isPartOver 36 = .ok (.iconst 0, 1) := by decide +kernel
theorem dX9_isPartOver_37 : decode cX9_isPartOver 37 = .ok (.ireturn, 1) := by decide +kernel
set_option maxHeartbeats 4000000 in
set_option maxRecDepth 100000 in
theorem w_X9_isPartOver_j32 {w : WT} {l : Launch} {p : Program} {e : Env} {s : State} {m : MethodId} {args : Array Value} {below : List Frame} {meth : Method} {c : Code} (C : KC w p s m args meth c cX9_isPartOver 1 RX9 (some .boolean)) {M : Mem} {L : Lng} {out : Int32} (hf : f_X9_isPartOver_j32 M = some out) : AtL w p l e ({ frames := 0, cells := 0, slots := 0, locals := 0 } : Room) s m args below meth c (MQ below (QI w out M L) args s 0 0 (wA w)) 1 32 M L [] [] := by
  intro H locs ls hP hS hl
  unfold f_X9_isPartOver_j32 at hf
  refine lv_iconst (v := 1) C.1 C.2.1 dX9_isPartOver_32 (by decide) ?_
  refine lv_goto (tgt := 37) C.1 C.2.1 dX9_isPartOver_33 (by decide) ?_
  cases hf
  exact krz C hP hS bz1 dX9_isPartOver_37
set_option maxHeartbeats 4000000 in
set_option maxRecDepth 100000 in
theorem c_X9_isPartOver (w : WT) (l : Launch) (hw : WOK w) {M : Mem} {L : Lng} {out : Int32} (hf : f_X9_isPartOver M = some out) : Met l yX9_isPartOver (Cond.code yX9_isPartOver cX9_isPartOver 1 (some .boolean) :: BG) ({ frames := 0, cells := 0, slots := 0, locals := 0 } : Room) (PRE w [.ref (wAd w 90)] M L) (QI w out M L) 0 0 (wA w) := by
  refine kEnt hw (by decide +kernel) rfl (Nat.le_of_ble_eq_true rfl) ?_
  intro p e s m args below meth c C ls hl hP
  have hS : va_S (wA w) s.heap s.heap [] := va_S.rf
  have hl : lv_has ls 1 [(0, .ref (wAd w 90))] := hl
  unfold f_X9_isPartOver at hf
  refine lv_aload_n C.1 C.2.1 dX9_isPartOver_0 rfl (lv_at hl 0 rfl) ?_
  refine k_get (v := .int (M 90 23)) C hP (lt_Model h0_Model) (ob_Model h0_Model w L _) rfl iX9 23 (by decide) q886 rfl dX9_isPartOver_1 ?_
  refine lv_if_le (tgt := 36) C.1 C.2.1 dX9_isPartOver_4 (by decide) (fun c1 => ?_) (fun c1 => ?_)
  · have hf := (if_pos c1).symm.trans hf
    refine lv_iconst (v := 0) C.1 C.2.1 dX9_isPartOver_36 (by decide) ?_
    cases hf
    exact krz C hP hS bz0 dX9_isPartOver_37
  · have hf := (if_neg c1).symm.trans hf
    refine lv_aload_n C.1 C.2.1 dX9_isPartOver_7 rfl (lv_at hl 0 rfl) ?_
    refine k_get (v := .int (M 90 22)) C hP (lt_Model h0_Model) (ob_Model h0_Model w L _) rfl iX9 22 (by decide) q885 rfl dX9_isPartOver_8 ?_
    refine lv_iconst (v := 2) C.1 C.2.1 dX9_isPartOver_11 (by decide) ?_
    refine lv_icmp_lt (tgt := 32) C.1 C.2.1 dX9_isPartOver_12 (by decide) (fun c2 => ?_) (fun c2 => ?_)
    · have hf := (if_pos c2).symm.trans hf
      exact w_X9_isPartOver_j32 C hf _ _ _ hP hS (lv_sub hl [] rfl)
    · have hf := (if_neg c2).symm.trans hf
      refine lv_aload_n C.1 C.2.1 dX9_isPartOver_15 rfl (lv_at hl 0 rfl) ?_
      refine k_get (v := .ref (wAd w 107)) C hP (lt_Model h0_Model) (ob_Model h0_Model w L _) rfl iX9 26 (by decide) q889 rfl dX9_isPartOver_16 ?_
      refine lv_iconst (v := 3) C.1 C.2.1 dX9_isPartOver_19 (by decide) ?_
      refine lv_aload_n C.1 C.2.1 dX9_isPartOver_20 rfl (lv_at hl 0 rfl) ?_
      refine k_get (v := .int (M 90 24)) C hP (lt_Model h0_Model) (ob_Model h0_Model w L _) rfl iX9 24 (by decide) q887 rfl dX9_isPartOver_21 ?_
      refine lv_imul C.1 C.2.1 dX9_isPartOver_24 ?_
      refine lv_iconst (v := 2) C.1 C.2.1 dX9_isPartOver_25 (by decide) ?_
      refine lv_iadd C.1 C.2.1 dX9_isPartOver_26 ?_
      obtain ⟨x3, hx3, hf⟩ := ob hf
      refine k_iald C hP (la_Model_read h0_Model) (ar_Model_read h0_Model w L _) hx3 dX9_isPartOver_27 ?_
      refine lv_iconst (v := 1) C.1 C.2.1 dX9_isPartOver_28 (by decide) ?_
      refine lv_icmp_le (tgt := 36) C.1 C.2.1 dX9_isPartOver_29 (by decide) (fun c4 => ?_) (fun c4 => ?_)
      · have hf := (if_pos c4).symm.trans hf
        refine lv_iconst (v := 0) C.1 C.2.1 dX9_isPartOver_36 (by decide) ?_
        cases hf
        exact krz C hP hS bz0 dX9_isPartOver_37
      · have hf := (if_neg c4).symm.trans hf
        exact w_X9_isPartOver_j32 C hf _ _ _ hP hS (lv_sub hl [] rfl)
theorem dX9_goTo_0 : decode cX9_goTo 0 = .ok (.aload_n 0, 1) := by decide +kernel
theorem dX9_goTo_1 : decode cX9_goTo 1 = .ok (.iload_n 1, 1) := by decide +kernel
theorem dX9_goTo_2 : decode cX9_goTo 2 = .ok (.putfield 144, 3) := by decide +kernel
theorem dX9_goTo_5 : decode cX9_goTo 5 = .ok (.aload_n 0, 1) := by decide +kernel
theorem dX9_goTo_6 : decode cX9_goTo 6 = .ok (.iconst 0, 1) := by decide +kernel
theorem dX9_goTo_7 : decode cX9_goTo 7 = .ok (.putfield 147, 3) := by decide +kernel
theorem dX9_goTo_10 : decode cX9_goTo 10 = .ok (.return_, 1) := by decide +kernel
set_option maxHeartbeats 4000000 in
set_option maxRecDepth 100000 in
theorem c_X9_goTo (w : WT) (l : Launch) (hw : WOK w) {a1 : Int32} {M : Mem} {L : Lng} {out : Mem} (hf : f_X9_goTo a1 M = some out) : Met l yX9_goTo (Cond.code yX9_goTo cX9_goTo 2 none :: BG) ({ frames := 0, cells := 0, slots := 0, locals := 0 } : Room) (PRE w [.ref (wAd w 90), .int a1] M L) (QV w out L) 0 0 (wA w) := by
  refine kEnt hw (by decide +kernel) rfl (Nat.le_of_ble_eq_true rfl) ?_
  intro p e s m args below meth c C ls hl hP
  have hS : va_S (wA w) s.heap s.heap [] := va_S.rf
  have hl : lv_has ls 2 [(0, .ref (wAd w 90)), (1, .int a1)] := hl
  unfold f_X9_goTo at hf
  refine lv_aload_n C.1 C.2.1 dX9_goTo_0 rfl (lv_at hl 0 rfl) ?_
  refine lv_iload_n C.1 C.2.1 dX9_goTo_1 rfl (lv_at hl 1 rfl) ?_
  obtain ⟨M1, hM1, hf⟩ := ob hf
  refine k_puti C hP hS (lt_Model h0_Model) (fun row => ob_Model h0_Model w L row) rfl iX9 tyX9 tyX9_ok nmX9 22 (by decide) q885 rfl rfl (Nat.le_of_ble_eq_true rfl) rfl hM1 dX9_goTo_2 (fun H locs hP hS => ?_)
  refine lv_aload_n C.1 C.2.1 dX9_goTo_5 rfl (lv_at hl 0 rfl) ?_
  refine lv_iconst (v := 0) C.1 C.2.1 dX9_goTo_6 (by decide) ?_
  obtain ⟨M2, hM2, hf⟩ := ob hf
  refine k_puti C hP hS (lt_Model h0_Model) (fun row => ob_Model h0_Model w L row) rfl iX9 tyX9 tyX9_ok nmX9 23 (by decide) q886 rfl rfl (Nat.le_of_ble_eq_true rfl) rfl hM2 dX9_goTo_7 (fun H locs hP hS => ?_)
  cases hf
  exact krv C hP hS dX9_goTo_10
theorem dX9_takes_0 : decode cX9_takes 0 = .ok (.iload_n 1, 1) := by decide +kernel
theorem dX9_takes_1 : decode cX9_takes 1 = .ok (.bipush 48, 2) := by decide +kernel
theorem dX9_takes_3 : decode cX9_takes 3 = .ok (.bipush 57, 2) := by decide +kernel
theorem dX9_takes_5 : decode cX9_takes 5 = .ok (.invokestatic 65, 3) := by decide +kernel
theorem dX9_takes_8 : decode cX9_takes 8 = .ok (.ifCond .eq 12, 3) := by decide +kernel
theorem dX9_takes_11 : decode cX9_takes 11 = .ok (.aload_n 0, 1) := by decide +kernel
theorem dX9_takes_12 : decode cX9_takes 12 = .ok (.iload_n 1, 1) := by decide +kernel
theorem dX9_takes_13 : decode cX9_takes 13 = .ok (.bipush 48, 2) := by decide +kernel
theorem dX9_takes_15 : decode cX9_takes 15 = .ok (.isub, 1) := by decide +kernel
theorem dX9_takes_16 : decode cX9_takes 16 = .ok (.invokevirtual 153, 3) := by decide +kernel
theorem dX9_takes_19 : decode cX9_takes 19 = .ok (.ireturn, 1) := by decide +kernel
theorem dX9_takes_20 : decode cX9_takes 20 = .ok (.aload_n 0, 1) := by decide +kernel
theorem dX9_takes_21 : decode cX9_takes 21 = .ok (.getfield 147, 3) := by decide +kernel
theorem dX9_takes_24 : decode cX9_takes 24 = .ok (.ifCond .le 34, 3) := by decide +kernel
theorem dX9_takes_27 : decode cX9_takes 27 = .ok (.iload_n 1, 1) := by decide +kernel
theorem dX9_takes_28 : decode cX9_takes 28 = .ok (.bipush 64, 2) := by decide +kernel
theorem dX9_takes_30 : decode cX9_takes 30 = .ok (.if_icmp .ne 10, 3) := by decide +kernel
theorem dX9_takes_33 : decode cX9_takes 33 = .ok (.aload_n 0, 1) := by decide +kernel
theorem dX9_takes_34 : decode cX9_takes 34 = .ok (.getfield 144, 3) := by decide +kernel
theorem dX9_takes_37 : decode cX9_takes 37 = .ok (.ifCond .eq 17, 3) := by decide +kernel
theorem dX9_takes_40 : decode cX9_takes 40 = .ok (.iload_n 1, 1) := by decide +kernel
theorem dX9_takes_41 : decode cX9_takes 41 = .ok (.bipush 42, 2) := by decide +kernel
theorem dX9_takes_43 : decode cX9_takes 43 = .ok (.if_icmp .ne 15, 3) := by decide +kernel
theorem dX9_takes_46 : decode cX9_takes 46 = .ok (.aload_n 0, 1) := by decide +kernel
theorem dX9_takes_47 : decode cX9_takes 47 = .ok (.getfield 144, 3) := by decide +kernel
theorem dX9_takes_50 : decode cX9_takes 50 = .ok (.iconst 2, 1) := by decide +kernel
theorem dX9_takes_51 : decode cX9_takes 51 = .ok (.if_icmp .ge 7, 3) := by decide +kernel
theorem dX9_takes_54 : decode cX9_takes 54 = .ok (.iconst 1, 1) := by decide +kernel
theorem dX9_takes_55 : decode cX9_takes 55 = .ok (.goto 4, 3) := by decide +kernel
theorem dX9_takes_58 : decode cX9_takes 58 = .ok (.iconst 0, 1) := by decide +kernel
theorem dX9_takes_59 : decode cX9_takes 59 = .ok (.istore_n 2, 1) := by decide +kernel
theorem dX9_takes_60 : decode cX9_takes 60 = .ok (.iload_n 2, 1) := by decide +kernel
theorem dX9_takes_61 : decode cX9_takes 61 = .ok (.ifCond .eq 20, 3) := by decide +kernel
theorem dX9_takes_64 : decode cX9_takes 64 = .ok (.aload_n 0, 1) := by decide +kernel
theorem dX9_takes_65 : decode cX9_takes 65 = .ok (.iload_n 1, 1) := by decide +kernel
theorem dX9_takes_66 : decode cX9_takes 66 = .ok (.bipush 64, 2) := by decide +kernel
theorem dX9_takes_68 : decode cX9_takes 68 = .ok (.if_icmp .ne 7, 3) := by decide +kernel
theorem dX9_takes_71 : decode cX9_takes 71 = .ok (.iconst 1, 1) := by decide +kernel
theorem dX9_takes_72 : decode cX9_takes 72 = .ok (.goto 4, 3) := by decide +kernel
theorem dX9_takes_75 : decode cX9_takes 75 = .ok (.iconst 2, 1) := by decide +kernel
theorem dX9_takes_76 : decode cX9_takes 76 = .ok (.invokevirtual 156, 3) := by decide +kernel
theorem dX9_takes_79 : decode cX9_takes 79 = .ok (.iconst 1, 1) := by decide +kernel
theorem dX9_takes_80 : decode cX9_takes 80 = .ok (.ireturn, 1) := by decide +kernel
theorem dX9_takes_81 : decode cX9_takes 81 = .ok (.iload_n 1, 1) := by decide +kernel
theorem dX9_takes_82 : decode cX9_takes 82 = .ok (.bipush 59, 2) := by decide +kernel
theorem dX9_takes_84 : decode cX9_takes 84 = .ok (.if_icmp .ne 48, 3) := by decide +kernel
theorem dX9_takes_87 : decode cX9_takes 87 = .ok (.aload_n 0, 1) := by decide +kernel
theorem dX9_takes_88 : decode cX9_takes 88 = .ok (.invokevirtual 160, 3) := by decide +kernel
theorem dX9_takes_91 : decode cX9_takes 91 = .ok (.ifCond .eq 41, 3) := by decide +kernel
theorem dX9_takes_94 : decode cX9_takes 94 = .ok (.aload_n 0, 1) := by decide +kernel
theorem dX9_takes_95 : decode cX9_takes 95 = .ok (.dup, 1) := by decide +kernel
theorem dX9_takes_96 : decode cX9_takes 96 = .ok (.getfield 164, 3) := by decide +kernel
theorem dX9_takes_99 : decode cX9_takes 99 = .ok (.aload_n 0, 1) := by decide +kernel
theorem dX9_takes_100 : decode cX9_takes 100 = .ok (.getfield 58, 3) := by decide +kernel
theorem dX9_takes_103 : decode cX9_takes 103 = .ok (.iconst 3, 1) := by decide +kernel
theorem dX9_takes_104 : decode cX9_takes 104 = .ok (.aload_n 0, 1) := by decide +kernel
theorem dX9_takes_105 : decode cX9_takes 105 = .ok (.getfield 150, 3) := by decide +kernel
theorem dX9_takes_108 : decode cX9_takes 108 = .ok (.imul, 1) := by decide +kernel
theorem dX9_takes_109 : decode cX9_takes 109 = .ok (.iconst 2, 1) := by decide +kernel
theorem dX9_takes_110 : decode cX9_takes 110 = .ok (.iadd, 1) := by decide +kernel
theorem dX9_takes_111 : decode cX9_takes 111 = .ok (.iaload, 1) := by decide +kernel
theorem dX9_takes_112 : decode cX9_takes 112 = .ok (.iadd, 1) := by decide +kernel
theorem dX9_takes_113 : decode cX9_takes 113 = .ok (.putfield 164, 3) := by decide +kernel
theorem dX9_takes_116 : decode cX9_takes 116 = .ok (.aload_n 0, 1) := by decide +kernel
theorem dX9_takes_117 : decode cX9_takes 117 = .ok (.dup, 1) := by decide +kernel
theorem dX9_takes_118 : decode cX9_takes 118 = .ok (.getfield 150, 3) := by decide +kernel
theorem dX9_takes_121 : decode cX9_takes 121 = .ok (.iconst 1, 1) := by decide +kernel
theorem dX9_takes_122 : decode cX9_takes 122 = .ok (.iadd, 1) := by decide +kernel
theorem dX9_takes_123 : decode cX9_takes 123 = .ok (.putfield 150, 3) := by decide +kernel
theorem dX9_takes_126 : decode cX9_takes 126 = .ok (.aload_n 0, 1) := by decide +kernel
theorem dX9_takes_127 : decode cX9_takes 127 = .ok (.invokevirtual 167, 3) := by decide +kernel
theorem dX9_takes_130 : decode cX9_takes 130 = .ok (.iconst 1, 1) := by decide +kernel
theorem dX9_takes_131 : decode cX9_takes 131 = .ok (.ireturn, 1) := by decide +kernel
theorem dX9_takes_132 : decode cX9_takes 132 = .ok (.iconst 0, 1) := by decide +kernel
theorem dX9_takes_133 : decode cX9_takes 133 = .ok (.ireturn, 1) := by decide +kernel
set_option maxHeartbeats 4000000 in
set_option maxRecDepth 100000 in
theorem w_X9_takes_j76 {w : WT} {l : Launch} {p : Program} {e : Env} {s : State} {m : MethodId} {args : Array Value} {below : List Frame} {meth : Method} {c : Code} (C : KC w p s m args meth c cX9_takes 3 RX9 (some .boolean)) {s1 : Int32} {M : Mem} {L : Lng} {out : Int32 × Mem} (hf : f_X9_takes_j76 s1 M = some out) : AtL w p l e ({ frames := 1, cells := 0, slots := 0, locals := 25 } : Room) s m args below meth c (MQ below (QI w out.1 out.2 L) args s 0 0 (wA w)) 3 76 M L [] [.int s1, .ref (wAd w 90)] := by
  intro H locs ls hP hS hl
  unfold f_X9_takes_j76 at hf
  obtain ⟨r13, hr13, hf⟩ := ob hf
  refine kcv (kV (As := [.int s1]) (rest := []) C hl.1 hP hS (c_X9_goTo w l C.2.2.2.2.2.2.2.2 (L := L) hr13) (gV q1080 q1082 qp43 q10 q1083) hd_X9_goTo (lt_Model h0_Model) (ob_Model h0_Model w L _) rfl ⟨rfl, rfl⟩ ⟨Nat.le_of_ble_eq_true rfl, Nat.le_of_ble_eq_true rfl⟩ rfl rfl (Nat.le_of_ble_eq_true rfl) dX9_takes_76 ⟨Nat.zero_le _, Nat.zero_le _⟩) hS (fun H locs hP hS => ?_)
  refine lv_iconst (v := 1) C.1 C.2.1 dX9_takes_79 (by decide) ?_
  cases hf
  exact krz C hP hS bz1 dX9_takes_80
set_option maxHeartbeats 4000000 in
set_option maxRecDepth 100000 in
theorem w_X9_takes_j59 {w : WT} {l : Launch} {p : Program} {e : Env} {s : State} {m : MethodId} {args : Array Value} {below : List Frame} {meth : Method} {c : Code} (C : KC w p s m args meth c cX9_takes 3 RX9 (some .boolean)) {v1 : Int32} {s0 : Int32} {M : Mem} {L : Lng} {out : Int32 × Mem} (hf : f_X9_takes_j59 v1 s0 M = some out) : AtL w p l e ({ frames := 1, cells := 0, slots := 0, locals := 25 } : Room) s m args below meth c (MQ below (QI w out.1 out.2 L) args s 0 0 (wA w)) 3 59 M L [(0, .ref (wAd w 90)), (1, .int v1)] [.int s0] := by
  intro H locs ls hP hS hl
  unfold f_X9_takes_j59 at hf
  refine lv_istore_n (lv' := [(2, .int s0), (0, .ref (wAd w 90)), (1, .int v1)]) C.1 C.2.1 dX9_takes_59 rfl hl (by decide) rfl (fun ls hl => ?_)
  refine lv_iload_n C.1 C.2.1 dX9_takes_60 rfl (lv_at hl 0 rfl) ?_
  refine lv_if_eq (tgt := 81) C.1 C.2.1 dX9_takes_61 (by decide) (fun c4 => ?_) (fun c4 => ?_)
  · have hf := (if_pos c4).symm.trans hf
    refine lv_iload_n C.1 C.2.1 dX9_takes_81 rfl (lv_at hl 2 rfl) ?_
    refine lv_bipush (v := 59) C.1 C.2.1 dX9_takes_82 (by decide) ?_
    refine lv_icmp_ne (tgt := 132) C.1 C.2.1 dX9_takes_84 (by decide) (fun c5 => ?_) (fun c5 => ?_)
    · have hf := (if_neg c5).symm.trans hf
      refine lv_iconst (v := 0) C.1 C.2.1 dX9_takes_132 (by decide) ?_
      cases hf
      exact krz C hP hS bz0 dX9_takes_133
    · have hf := (if_pos c5).symm.trans hf
      refine lv_aload_n C.1 C.2.1 dX9_takes_87 rfl (lv_at hl 1 rfl) ?_
      obtain ⟨r6, hr6, hf⟩ := ob hf
      refine kci (kV (As := []) (rest := []) C hl.1 hP hS (c_X9_isPartOver w l C.2.2.2.2.2.2.2.2 (L := L) hr6) (gV q1084 q1086 qp44 q10 q1087) hd_X9_isPartOver (lt_Model h0_Model) (ob_Model h0_Model w L _) rfl ⟨rfl, rfl⟩ ⟨Nat.le_of_ble_eq_true rfl, Nat.le_of_ble_eq_true rfl⟩ rfl rfl (Nat.le_of_ble_eq_true rfl) dX9_takes_88 ⟨Nat.zero_le _, Nat.zero_le _⟩) hS (fun H locs hP hS => ?_)
      refine lv_if_eq (tgt := 132) C.1 C.2.1 dX9_takes_91 (by decide) (fun c7 => ?_) (fun c7 => ?_)
      · have hf := (if_pos c7).symm.trans hf
        refine lv_iconst (v := 0) C.1 C.2.1 dX9_takes_132 (by decide) ?_
        cases hf
        exact krz C hP hS bz0 dX9_takes_133
      · have hf := (if_neg c7).symm.trans hf
        refine lv_aload_n C.1 C.2.1 dX9_takes_94 rfl (lv_at hl 1 rfl) ?_
        refine lv_dup C.1 C.2.1 dX9_takes_95 rfl ?_
        refine k_get (v := .int (M 90 25)) C hP (lt_Model h0_Model) (ob_Model h0_Model w L _) rfl iX9 25 (by decide) q888 rfl dX9_takes_96 ?_
        refine lv_aload_n C.1 C.2.1 dX9_takes_99 rfl (lv_at hl 1 rfl) ?_
        refine k_get (v := .ref (wAd w 107)) C hP (lt_Model h0_Model) (ob_Model h0_Model w L _) rfl iX9 26 (by decide) q889 rfl dX9_takes_100 ?_
        refine lv_iconst (v := 3) C.1 C.2.1 dX9_takes_103 (by decide) ?_
        refine lv_aload_n C.1 C.2.1 dX9_takes_104 rfl (lv_at hl 1 rfl) ?_
        refine k_get (v := .int (M 90 24)) C hP (lt_Model h0_Model) (ob_Model h0_Model w L _) rfl iX9 24 (by decide) q887 rfl dX9_takes_105 ?_
        refine lv_imul C.1 C.2.1 dX9_takes_108 ?_
        refine lv_iconst (v := 2) C.1 C.2.1 dX9_takes_109 (by decide) ?_
        refine lv_iadd C.1 C.2.1 dX9_takes_110 ?_
        obtain ⟨x8, hx8, hf⟩ := ob hf
        refine k_iald C hP (la_Model_read h0_Model) (ar_Model_read h0_Model w L _) hx8 dX9_takes_111 ?_
        refine lv_iadd C.1 C.2.1 dX9_takes_112 ?_
        obtain ⟨M9, hM9, hf⟩ := ob hf
        refine k_puti C hP hS (lt_Model h0_Model) (fun row => ob_Model h0_Model w L row) rfl iX9 tyX9 tyX9_ok nmX9 25 (by decide) q888 rfl rfl (Nat.le_of_ble_eq_true rfl) rfl hM9 dX9_takes_113 (fun H locs hP hS => ?_)
        refine lv_aload_n C.1 C.2.1 dX9_takes_116 rfl (lv_at hl 1 rfl) ?_
        refine lv_dup C.1 C.2.1 dX9_takes_117 rfl ?_
        refine k_get (v := .int (M9 90 24)) C hP (lt_Model h0_Model) (ob_Model h0_Model w L _) rfl iX9 24 (by decide) q887 rfl dX9_takes_118 ?_
        refine lv_iconst (v := 1) C.1 C.2.1 dX9_takes_121 (by decide) ?_
        refine lv_iadd C.1 C.2.1 dX9_takes_122 ?_
        obtain ⟨M10, hM10, hf⟩ := ob hf
        refine k_puti C hP hS (lt_Model h0_Model) (fun row => ob_Model h0_Model w L row) rfl iX9 tyX9 tyX9_ok nmX9 24 (by decide) q887 rfl rfl (Nat.le_of_ble_eq_true rfl) rfl hM10 dX9_takes_123 (fun H locs hP hS => ?_)
        refine lv_aload_n C.1 C.2.1 dX9_takes_126 rfl (lv_at hl 1 rfl) ?_
        obtain ⟨r11, hr11, hf⟩ := ob hf
        refine kcv (kV (As := []) (rest := []) C hl.1 hP hS (c_X9_beginPart w l C.2.2.2.2.2.2.2.2 (L := L) hr11) (gV q1068 q1070 qp40 q10 q1071) hd_X9_beginPart (lt_Model h0_Model) (ob_Model h0_Model w L _) rfl ⟨rfl, rfl⟩ ⟨Nat.le_of_ble_eq_true rfl, Nat.le_of_ble_eq_true rfl⟩ rfl rfl (Nat.le_of_ble_eq_true rfl) dX9_takes_127 ⟨Nat.zero_le _, Nat.zero_le _⟩) hS (fun H locs hP hS => ?_)
        refine lv_iconst (v := 1) C.1 C.2.1 dX9_takes_130 (by decide) ?_
        cases hf
        exact krz C hP hS bz1 dX9_takes_131
  · have hf := (if_neg c4).symm.trans hf
    refine lv_aload_n C.1 C.2.1 dX9_takes_64 rfl (lv_at hl 1 rfl) ?_
    refine lv_iload_n C.1 C.2.1 dX9_takes_65 rfl (lv_at hl 2 rfl) ?_
    refine lv_bipush (v := 64) C.1 C.2.1 dX9_takes_66 (by decide) ?_
    refine lv_icmp_ne (tgt := 75) C.1 C.2.1 dX9_takes_68 (by decide) (fun c12 => ?_) (fun c12 => ?_)
    · have hf := (if_neg c12).symm.trans hf
      refine lv_iconst (v := 2) C.1 C.2.1 dX9_takes_75 (by decide) ?_
      exact w_X9_takes_j76 C hf _ _ _ hP hS (lv_sub hl [] rfl)
    · have hf := (if_pos c12).symm.trans hf
      refine lv_iconst (v := 1) C.1 C.2.1 dX9_takes_71 (by decide) ?_
      refine lv_goto (tgt := 76) C.1 C.2.1 dX9_takes_72 (by decide) ?_
      exact w_X9_takes_j76 C hf _ _ _ hP hS (lv_sub hl [] rfl)
set_option maxHeartbeats 4000000 in
set_option maxRecDepth 100000 in
theorem w_X9_takes_j58 {w : WT} {l : Launch} {p : Program} {e : Env} {s : State} {m : MethodId} {args : Array Value} {below : List Frame} {meth : Method} {c : Code} (C : KC w p s m args meth c cX9_takes 3 RX9 (some .boolean)) {v1 : Int32} {M : Mem} {L : Lng} {out : Int32 × Mem} (hf : f_X9_takes_j58 v1 M = some out) : AtL w p l e ({ frames := 1, cells := 0, slots := 0, locals := 25 } : Room) s m args below meth c (MQ below (QI w out.1 out.2 L) args s 0 0 (wA w)) 3 58 M L [(0, .ref (wAd w 90)), (1, .int v1)] [] := by
  intro H locs ls hP hS hl
  unfold f_X9_takes_j58 at hf
  refine lv_iconst (v := 0) C.1 C.2.1 dX9_takes_58 (by decide) ?_
  exact w_X9_takes_j59 C hf _ _ _ hP hS hl
set_option maxHeartbeats 4000000 in
set_option maxRecDepth 100000 in
theorem w_X9_takes_j54 {w : WT} {l : Launch} {p : Program} {e : Env} {s : State} {m : MethodId} {args : Array Value} {below : List Frame} {meth : Method} {c : Code} (C : KC w p s m args meth c cX9_takes 3 RX9 (some .boolean)) {v1 : Int32} {M : Mem} {L : Lng} {out : Int32 × Mem} (hf : f_X9_takes_j54 v1 M = some out) : AtL w p l e ({ frames := 1, cells := 0, slots := 0, locals := 25 } : Room) s m args below meth c (MQ below (QI w out.1 out.2 L) args s 0 0 (wA w)) 3 54 M L [(0, .ref (wAd w 90)), (1, .int v1)] [] := by
  intro H locs ls hP hS hl
  unfold f_X9_takes_j54 at hf
  refine lv_iconst (v := 1) C.1 C.2.1 dX9_takes_54 (by decide) ?_
  refine lv_goto (tgt := 59) C.1 C.2.1 dX9_takes_55 (by decide) ?_
  exact w_X9_takes_j59 C hf _ _ _ hP hS hl
set_option maxHeartbeats 4000000 in
set_option maxRecDepth 100000 in
theorem w_X9_takes_j40 {w : WT} {l : Launch} {p : Program} {e : Env} {s : State} {m : MethodId} {args : Array Value} {below : List Frame} {meth : Method} {c : Code} (C : KC w p s m args meth c cX9_takes 3 RX9 (some .boolean)) {v1 : Int32} {M : Mem} {L : Lng} {out : Int32 × Mem} (hf : f_X9_takes_j40 v1 M = some out) : AtL w p l e ({ frames := 1, cells := 0, slots := 0, locals := 25 } : Room) s m args below meth c (MQ below (QI w out.1 out.2 L) args s 0 0 (wA w)) 3 40 M L [(0, .ref (wAd w 90)), (1, .int v1)] [] := by
  intro H locs ls hP hS hl
  unfold f_X9_takes_j40 at hf
  refine lv_iload_n C.1 C.2.1 dX9_takes_40 rfl (lv_at hl 1 rfl) ?_
  refine lv_bipush (v := 42) C.1 C.2.1 dX9_takes_41 (by decide) ?_
  refine lv_icmp_ne (tgt := 58) C.1 C.2.1 dX9_takes_43 (by decide) (fun c15 => ?_) (fun c15 => ?_)
  · have hf := (if_neg c15).symm.trans hf
    exact w_X9_takes_j58 C hf _ _ _ hP hS hl
  · have hf := (if_pos c15).symm.trans hf
    refine lv_aload_n C.1 C.2.1 dX9_takes_46 rfl (lv_at hl 0 rfl) ?_
    refine k_get (v := .int (M 90 22)) C hP (lt_Model h0_Model) (ob_Model h0_Model w L _) rfl iX9 22 (by decide) q885 rfl dX9_takes_47 ?_
    refine lv_iconst (v := 2) C.1 C.2.1 dX9_takes_50 (by decide) ?_
    refine lv_icmp_ge (tgt := 58) C.1 C.2.1 dX9_takes_51 (by decide) (fun c16 => ?_) (fun c16 => ?_)
    · have hf := (if_pos c16).symm.trans hf
      exact w_X9_takes_j58 C hf _ _ _ hP hS hl
    · have hf := (if_neg c16).symm.trans hf
      exact w_X9_takes_j54 C hf _ _ _ hP hS hl
set_option maxHeartbeats 4000000 in
set_option maxRecDepth 100000 in
theorem c_X9_takes (w : WT) (l : Launch) (hw : WOK w) {a1 : Int32} {M : Mem} {L : Lng} {out : Int32 × Mem} (hf : f_X9_takes a1 M = some out) : Met l yX9_takes (Cond.code yX9_takes cX9_takes 3 (some .boolean) :: BG) ({ frames := 1, cells := 0, slots := 0, locals := 25 } : Room) (PRE w [.ref (wAd w 90), .int a1] M L) (QI w out.1 out.2 L) 0 0 (wA w) := by
  refine kEnt hw (by decide +kernel) rfl (Nat.le_of_ble_eq_true rfl) ?_
  intro p e s m args below meth c C ls hl hP
  have hS : va_S (wA w) s.heap s.heap [] := va_S.rf
  have hl : lv_has ls 3 [(0, .ref (wAd w 90)), (1, .int a1)] := hl
  unfold f_X9_takes at hf
  refine lv_iload_n C.1 C.2.1 dX9_takes_0 rfl (lv_at hl 1 rfl) ?_
  refine lv_bipush (v := 48) C.1 C.2.1 dX9_takes_1 (by decide) ?_
  refine lv_bipush (v := 57) C.1 C.2.1 dX9_takes_3 (by decide) ?_
  obtain ⟨r1, hr1, hf⟩ := ob hf
  refine kci (kS (As := [.int a1, .int 48, .int 57]) (rest := []) C hl.1 hP hS (c_X9_within w l C.2.2.2.2.2.2.2.2 (L := L) hr1) (gS q963 q964 q10 q965) hd_X9_within ⟨rfl, rfl⟩ ⟨Nat.le_of_ble_eq_true rfl, Nat.le_of_ble_eq_true rfl⟩ rfl rfl (Nat.le_of_ble_eq_true rfl) dX9_takes_5 ⟨Nat.zero_le _, Nat.zero_le _⟩) hS (fun H locs hP hS => ?_)
  refine lv_if_eq (tgt := 20) C.1 C.2.1 dX9_takes_8 (by decide) (fun c2 => ?_) (fun c2 => ?_)
  · have hf := (if_pos c2).symm.trans hf
    refine lv_aload_n C.1 C.2.1 dX9_takes_20 rfl (lv_at hl 0 rfl) ?_
    refine k_get (v := .int (M 90 23)) C hP (lt_Model h0_Model) (ob_Model h0_Model w L _) rfl iX9 23 (by decide) q886 rfl dX9_takes_21 ?_
    refine lv_if_le (tgt := 58) C.1 C.2.1 dX9_takes_24 (by decide) (fun c3 => ?_) (fun c3 => ?_)
    · have hf := (if_pos c3).symm.trans hf
      exact w_X9_takes_j58 C hf _ _ _ hP hS hl
    · have hf := (if_neg c3).symm.trans hf
      refine lv_iload_n C.1 C.2.1 dX9_takes_27 rfl (lv_at hl 1 rfl) ?_
      refine lv_bipush (v := 64) C.1 C.2.1 dX9_takes_28 (by decide) ?_
      refine lv_icmp_ne (tgt := 40) C.1 C.2.1 dX9_takes_30 (by decide) (fun c14 => ?_) (fun c14 => ?_)
      · have hf := (if_neg c14).symm.trans hf
        exact w_X9_takes_j40 C hf _ _ _ hP hS hl
      · have hf := (if_pos c14).symm.trans hf
        refine lv_aload_n C.1 C.2.1 dX9_takes_33 rfl (lv_at hl 0 rfl) ?_
        refine k_get (v := .int (M 90 22)) C hP (lt_Model h0_Model) (ob_Model h0_Model w L _) rfl iX9 22 (by decide) q885 rfl dX9_takes_34 ?_
        refine lv_if_eq (tgt := 54) C.1 C.2.1 dX9_takes_37 (by decide) (fun c17 => ?_) (fun c17 => ?_)
        · have hf := (if_pos c17).symm.trans hf
          exact w_X9_takes_j54 C hf _ _ _ hP hS hl
        · have hf := (if_neg c17).symm.trans hf
          exact w_X9_takes_j40 C hf _ _ _ hP hS hl
  · have hf := (if_neg c2).symm.trans hf
    refine lv_aload_n C.1 C.2.1 dX9_takes_11 rfl (lv_at hl 0 rfl) ?_
    refine lv_iload_n C.1 C.2.1 dX9_takes_12 rfl (lv_at hl 1 rfl) ?_
    refine lv_bipush (v := 48) C.1 C.2.1 dX9_takes_13 (by decide) ?_
    refine lv_isub C.1 C.2.1 dX9_takes_15 ?_
    obtain ⟨r18, hr18, hf⟩ := ob hf
    refine kci (kV (As := [.int (a1 - 48)]) (rest := []) C hl.1 hP hS (c_X9_takesDigit w l C.2.2.2.2.2.2.2.2 (L := L) hr18) (gV q1076 q1078 qp42 q10 q1079) hd_X9_takesDigit (lt_Model h0_Model) (ob_Model h0_Model w L _) rfl ⟨rfl, rfl⟩ ⟨Nat.le_of_ble_eq_true rfl, Nat.le_of_ble_eq_true rfl⟩ rfl rfl (Nat.le_of_ble_eq_true rfl) dX9_takes_16 ⟨Nat.zero_le _, Nat.zero_le _⟩) hS (fun H locs hP hS => ?_)
    obtain ⟨x19, hx19, hf⟩ := ob hf
    cases hf
    exact krz C hP hS hx19 dX9_takes_19
theorem dX9_readText_0 : decode cX9_readText 0 = .ok (.aload_n 0, 1) := by decide +kernel
theorem dX9_readText_1 : decode cX9_readText 1 = .ok (.iconst 0, 1) := by decide +kernel
theorem dX9_readText_2 : decode cX9_readText 2 = .ok (.putfield 150, 3) := by decide +kernel
theorem dX9_readText_5 : decode cX9_readText 5 = .ok (.aload_n 0, 1) := by decide +kernel
theorem dX9_readText_6 : decode cX9_readText 6 = .ok (.iconst 0, 1) := by decide +kernel
theorem dX9_readText_7 : decode cX9_readText 7 = .ok (.putfield 164, 3) := by decide +kernel
theorem dX9_readText_10 : decode cX9_readText 10 = .ok (.aload_n 0, 1) := by decide +kernel
theorem dX9_readText_11 : decode cX9_readText 11 = .ok (.invokevirtual 167, 3) := by decide +kernel
theorem dX9_readText_14 : decode cX9_readText 14 = .ok (.iconst 0, 1) := by decide +kernel
theorem dX9_readText_15 : decode cX9_readText 15 = .ok (.istore_n 1, 1) := by decide +kernel
theorem dX9_readText_16 : decode cX9_readText 16 = .ok (.iload_n 1, 1) := by decide +kernel
theorem dX9_readText_17 : decode cX9_readText 17 = .ok (.aload_n 0, 1) := by decide +kernel
theorem dX9_readText_18 : decode cX9_readText 18 = .ok (.getfield 141, 3) := by decide +kernel
theorem dX9_readText_21 : decode cX9_readText 21 = .ok (.if_icmp .ge 22, 3) := by decide +kernel
theorem dX9_readText_24 : decode cX9_readText 24 = .ok (.aload_n 0, 1) := by decide +kernel
theorem dX9_readText_25 : decode cX9_readText 25 = .ok (.aload_n 0, 1) := by decide +kernel
theorem dX9_readText_26 : decode cX9_readText 26 = .ok (.getfield 16, 3) := by decide +kernel
theorem dX9_readText_29 : decode cX9_readText 29 = .ok (.iload_n 1, 1) := by decide +kernel
theorem dX9_readText_30 : decode cX9_readText 30 = .ok (.iaload, 1) := by decide +kernel
theorem dX9_readText_31 : decode cX9_readText 31 = .ok (.invokevirtual 170, 3) := by decide +kernel
theorem dX9_readText_34 : decode cX9_readText 34 = .ok (.ifCond .eq 9, 3) := by decide +kernel
theorem dX9_readText_37 : decode cX9_readText 37 = .ok (.iinc 1 1, 3) := by decide +kernel
theorem dX9_readText_40 : decode cX9_readText 40 = .ok (.goto (-24), 3) := by decide +kernel
theorem dX9_readText_43 : decode cX9_readText 43 = .ok (.iload_n 1, 1) := by decide +kernel
theorem dX9_readText_44 : decode cX9_readText 44 = .ok (.ireturn, 1) := by decide +kernel
set_option maxHeartbeats 4000000 in
set_option maxRecDepth 100000 in
theorem w_X9_readText_l16 {w : WT} {l : Launch} {p : Program} {e : Env} {s : State} {m : MethodId} {args : Array Value} {below : List Frame} {meth : Method} {c : Code} (C : KC w p s m args meth c cX9_readText 2 RX9 (some .int)) {L : Lng} {Q : State → Prop} (z : Int32 × Mem) (o : (Int32 × Mem) ⊕ (Int32 × Mem)) (hf : f_X9_readText_l16 z = some o) (hA : ∀ z, o = .inl z → AtL w p l e ({ frames := 2, cells := 0, slots := 0, locals := 47 } : Room) s m args below meth c Q 2 16 z.2 L [(0, .ref (wAd w 90)), (1, .int z.1)] []) (hE : ∀ y, o = .inr y → AtL w p l e ({ frames := 2, cells := 0, slots := 0, locals := 47 } : Room) s m args below meth c Q 2 43 y.2 L [(1, .int y.1)] []) : AtL w p l e ({ frames := 2, cells := 0, slots := 0, locals := 47 } : Room) s m args below meth c Q 2 16 z.2 L [(0, .ref (wAd w 90)), (1, .int z.1)] [] := by
  intro H locs ls hP hS hl
  unfold f_X9_readText_l16 at hf
  refine lv_iload_n C.1 C.2.1 dX9_readText_16 rfl (lv_at hl 1 rfl) ?_
  refine lv_aload_n C.1 C.2.1 dX9_readText_17 rfl (lv_at hl 0 rfl) ?_
  refine k_get (v := .int (z.2 90 4)) C hP (lt_Model h0_Model) (ob_Model h0_Model w L _) rfl iX9 4 (by decide) q867 rfl dX9_readText_18 ?_
  refine lv_icmp_ge (tgt := 43) C.1 C.2.1 dX9_readText_21 (by decide) (fun c4 => ?_) (fun c4 => ?_)
  · have hf := (if_pos c4).symm.trans hf
    cases hf
    exact hE _ rfl _ _ _ hP hS (lv_sub hl [1] rfl)
  · have hf := (if_neg c4).symm.trans hf
    refine lv_aload_n C.1 C.2.1 dX9_readText_24 rfl (lv_at hl 0 rfl) ?_
    refine lv_aload_n C.1 C.2.1 dX9_readText_25 rfl (lv_at hl 0 rfl) ?_
    refine k_get (v := .ref (wAd w 93)) C hP (lt_Model h0_Model) (ob_Model h0_Model w L _) rfl iX9 5 (by decide) q868 rfl dX9_readText_26 ?_
    refine lv_iload_n C.1 C.2.1 dX9_readText_29 rfl (lv_at hl 1 rfl) ?_
    obtain ⟨x5, hx5, hf⟩ := ob hf
    refine k_iald C hP (la_Model_text h0_Model) (ar_Model_text h0_Model w L _) hx5 dX9_readText_30 ?_
    obtain ⟨r6, hr6, hf⟩ := ob hf
    refine kci (kV (As := [.int x5]) (rest := []) C hl.1 hP hS (c_X9_takes w l C.2.2.2.2.2.2.2.2 (L := L) hr6) (gV q1072 q1074 qp41 q10 q1075) hd_X9_takes (lt_Model h0_Model) (ob_Model h0_Model w L _) rfl ⟨rfl, rfl⟩ ⟨Nat.le_of_ble_eq_true rfl, Nat.le_of_ble_eq_true rfl⟩ rfl rfl (Nat.le_of_ble_eq_true rfl) dX9_readText_31 ⟨Nat.zero_le _, Nat.zero_le _⟩) hS (fun H locs hP hS => ?_)
    refine lv_if_eq (tgt := 43) C.1 C.2.1 dX9_readText_34 (by decide) (fun c7 => ?_) (fun c7 => ?_)
    · have hf := (if_pos c7).symm.trans hf
      cases hf
      exact hE _ rfl _ _ _ hP hS (lv_sub hl [1] rfl)
    · have hf := (if_neg c7).symm.trans hf
      refine lv_iinc (v := (z.1 + 1)) (lv' := [(1, .int (z.1 + 1)), (0, .ref (wAd w 90))]) C.1 C.2.1 dX9_readText_37 hl (k := 1) rfl rfl (by decide) rfl (fun ls hl => ?_)
      refine lv_goto (tgt := 16) C.1 C.2.1 dX9_readText_40 (by decide) ?_
      cases hf
      exact hA _ rfl _ _ _ hP hS (lv_sub hl [1, 0] rfl)
set_option maxHeartbeats 4000000 in
set_option maxRecDepth 100000 in
theorem c_X9_readText (w : WT) (l : Launch) (hw : WOK w) {M : Mem} {L : Lng} {out : Int32 × Mem} (hf : f_X9_readText M = some out) : Met l yX9_readText (Cond.code yX9_readText cX9_readText 2 (some .int) :: BG) ({ frames := 2, cells := 0, slots := 0, locals := 47 } : Room) (PRE w [.ref (wAd w 90)] M L) (QI w out.1 out.2 L) 0 0 (wA w) := by
  refine kEnt hw (by decide +kernel) rfl (Nat.le_of_ble_eq_true rfl) ?_
  intro p e s m args below meth c C ls hl hP
  have hS : va_S (wA w) s.heap s.heap [] := va_S.rf
  have hl : lv_has ls 2 [(0, .ref (wAd w 90))] := hl
  unfold f_X9_readText at hf
  refine lv_aload_n C.1 C.2.1 dX9_readText_0 rfl (lv_at hl 0 rfl) ?_
  refine lv_iconst (v := 0) C.1 C.2.1 dX9_readText_1 (by decide) ?_
  obtain ⟨M1, hM1, hf⟩ := ob hf
  refine k_puti C hP hS (lt_Model h0_Model) (fun row => ob_Model h0_Model w L row) rfl iX9 tyX9 tyX9_ok nmX9 24 (by decide) q887 rfl rfl (Nat.le_of_ble_eq_true rfl) rfl hM1 dX9_readText_2 (fun H locs hP hS => ?_)
  refine lv_aload_n C.1 C.2.1 dX9_readText_5 rfl (lv_at hl 0 rfl) ?_
  refine lv_iconst (v := 0) C.1 C.2.1 dX9_readText_6 (by decide) ?_
  obtain ⟨M2, hM2, hf⟩ := ob hf
  refine k_puti C hP hS (lt_Model h0_Model) (fun row => ob_Model h0_Model w L row) rfl iX9 tyX9 tyX9_ok nmX9 25 (by decide) q888 rfl rfl (Nat.le_of_ble_eq_true rfl) rfl hM2 dX9_readText_7 (fun H locs hP hS => ?_)
  refine lv_aload_n C.1 C.2.1 dX9_readText_10 rfl (lv_at hl 0 rfl) ?_
  obtain ⟨r3, hr3, hf⟩ := ob hf
  refine kcv (kV (As := []) (rest := []) C hl.1 hP hS (c_X9_beginPart w l C.2.2.2.2.2.2.2.2 (L := L) hr3) (gV q1068 q1070 qp40 q10 q1071) hd_X9_beginPart (lt_Model h0_Model) (ob_Model h0_Model w L _) rfl ⟨rfl, rfl⟩ ⟨Nat.le_of_ble_eq_true rfl, Nat.le_of_ble_eq_true rfl⟩ rfl rfl (Nat.le_of_ble_eq_true rfl) dX9_readText_11 ⟨Nat.zero_le _, Nat.zero_le _⟩) hS (fun H locs hP hS => ?_)
  refine lv_iconst (v := 0) C.1 C.2.1 dX9_readText_14 (by decide) ?_
  refine lv_istore_n (lv' := [(1, .int 0), (0, .ref (wAd w 90))]) C.1 C.2.1 dX9_readText_15 rfl hl (by decide) rfl (fun ls hl => ?_)
  obtain ⟨o8, ho8, hf⟩ := ob hf
  refine loop_at (w_X9_readText_l16 C) FU _ o8 ho8 ?_ _ _ _ hP hS (lv_sub hl [1, 0] rfl)
  intro H locs ls hP hS hl
  refine lv_iload_n C.1 C.2.1 dX9_readText_43 rfl (lv_at hl 0 rfl) ?_
  cases hf
  exact kri C hP hS dX9_readText_44
theorem dX9_firstError_0 : decode cX9_firstError 0 = .ok (.aload_n 0, 1) := by decide +kernel
theorem dX9_firstError_1 : decode cX9_firstError 1 = .ok (.iconst 0, 1) := by decide +kernel
theorem dX9_firstError_2 : decode cX9_firstError 2 = .ok (.putfield 61, 3) := by decide +kernel
theorem dX9_firstError_5 : decode cX9_firstError 5 = .ok (.aload_n 0, 1) := by decide +kernel
theorem dX9_firstError_6 : decode cX9_firstError 6 = .ok (.invokevirtual 173, 3) := by decide +kernel
theorem dX9_firstError_9 : decode cX9_firstError 9 = .ok (.ireturn, 1) := by decide +kernel
set_option maxHeartbeats 4000000 in
set_option maxRecDepth 100000 in
theorem c_X9_firstError (w : WT) (l : Launch) (hw : WOK w) {M : Mem} {L : Lng} {out : Int32 × Mem} (hf : f_X9_firstError M = some out) : Met l yX9_firstError (Cond.code yX9_firstError cX9_firstError 1 (some .int) :: BG) ({ frames := 3, cells := 0, slots := 0, locals := 68 } : Room) (PRE w [.ref (wAd w 90)] M L) (QI w out.1 out.2 L) 0 0 (wA w) := by
  refine kEnt hw (by decide +kernel) rfl (Nat.le_of_ble_eq_true rfl) ?_
  intro p e s m args below meth c C ls hl hP
  have hS : va_S (wA w) s.heap s.heap [] := va_S.rf
  have hl : lv_has ls 1 [(0, .ref (wAd w 90))] := hl
  unfold f_X9_firstError at hf
  refine lv_aload_n C.1 C.2.1 dX9_firstError_0 rfl (lv_at hl 0 rfl) ?_
  refine lv_iconst (v := 0) C.1 C.2.1 dX9_firstError_1 (by decide) ?_
  obtain ⟨M1, hM1, hf⟩ := ob hf
  refine k_puti C hP hS (lt_Model h0_Model) (fun row => ob_Model h0_Model w L row) rfl iX9 tyX9 tyX9_ok nmX9 0 (by decide) q863 rfl rfl (Nat.le_of_ble_eq_true rfl) rfl hM1 dX9_firstError_2 (fun H locs hP hS => ?_)
  refine lv_aload_n C.1 C.2.1 dX9_firstError_5 rfl (lv_at hl 0 rfl) ?_
  obtain ⟨r2, hr2, hf⟩ := ob hf
  refine kci (kV (As := []) (rest := []) C hl.1 hP hS (c_X9_readText w l C.2.2.2.2.2.2.2.2 (L := L) hr2) (gV q1064 q1066 qp39 q10 q1067) hd_X9_readText (lt_Model h0_Model) (ob_Model h0_Model w L _) rfl ⟨rfl, rfl⟩ ⟨Nat.le_of_ble_eq_true rfl, Nat.le_of_ble_eq_true rfl⟩ rfl rfl (Nat.le_of_ble_eq_true rfl) dX9_firstError_6 ⟨Nat.zero_le _, Nat.zero_le _⟩) hS (fun H locs hP hS => ?_)
  cases hf
  exact kri C hP hS dX9_firstError_9
theorem dX9_load_0 : decode cX9_load 0 = .ok (.aload_n 0, 1) := by decide +kernel
theorem dX9_load_1 : decode cX9_load 1 = .ok (.invokevirtual 173, 3) := by decide +kernel
theorem dX9_load_4 : decode cX9_load 4 = .ok (.aload_n 0, 1) := by decide +kernel
theorem dX9_load_5 : decode cX9_load 5 = .ok (.getfield 141, 3) := by decide +kernel
theorem dX9_load_8 : decode cX9_load 8 = .ok (.if_icmp .ne 14, 3) := by decide +kernel
theorem dX9_load_11 : decode cX9_load 11 = .ok (.aload_n 0, 1) := by decide +kernel
theorem dX9_load_12 : decode cX9_load 12 = .ok (.invokevirtual 160, 3) := by decide +kernel
theorem dX9_load_15 : decode cX9_load 15 = .ok (.ifCond .eq 7, 3) := by decide +kernel
theorem dX9_load_18 : decode cX9_load 18 = .ok (.iconst 1, 1) := by decide +kernel
theorem dX9_load_19 : decode cX9_load 19 = .ok (.goto 4, 3) := by decide +kernel
theorem dX9_load_22 : decode cX9_load 22 = .ok (.iconst 0, 1) := by decide +kernel
theorem dX9_load_23 : decode cX9_load 23 = .ok (.istore_n 1, 1) := by decide +kernel
theorem dX9_load_24 : decode cX9_load 24 = .ok (.aload_n 0, 1) := by decide +kernel
theorem dX9_load_25 : decode cX9_load 25 = .ok (.iload_n 1, 1) := by decide +kernel
theorem dX9_load_26 : decode cX9_load 26 = .ok (.ifCond .ne 7, 3) := by decide +kernel
theorem dX9_load_29 : decode cX9_load 29 = .ok (.iconst 1, 1) := by decide +kernel
theorem dX9_load_30 : decode cX9_load 30 = .ok (.goto 39, 3) := by decide +kernel
theorem dX9_load_33 : decode cX9_load 33 = .ok (.aload_n 0, 1) := by decide +kernel
theorem dX9_load_34 : decode cX9_load 34 = .ok (.getfield 7, 3) := by decide +kernel
theorem dX9_load_37 : decode cX9_load 37 = .ok (.iconst 0, 1) := by decide +kernel
theorem dX9_load_38 : decode cX9_load 38 = .ok (.iaload, 1) := by decide +kernel
theorem dX9_load_39 : decode cX9_load 39 = .ok (.aload_n 0, 1) := by decide +kernel
theorem dX9_load_40 : decode cX9_load 40 = .ok (.getfield 164, 3) := by decide +kernel
theorem dX9_load_43 : decode cX9_load 43 = .ok (.iadd, 1) := by decide +kernel
theorem dX9_load_44 : decode cX9_load 44 = .ok (.aload_n 0, 1) := by decide +kernel
theorem dX9_load_45 : decode cX9_load 45 = .ok (.getfield 58, 3) := by decide +kernel
theorem dX9_load_48 : decode cX9_load 48 = .ok (.iconst 3, 1) := by decide +kernel
theorem dX9_load_49 : decode cX9_load 49 = .ok (.aload_n 0, 1) := by decide +kernel
theorem dX9_load_50 : decode cX9_load 50 = .ok (.getfield 150, 3) := by decide +kernel
theorem dX9_load_53 : decode cX9_load 53 = .ok (.imul, 1) := by decide +kernel
theorem dX9_load_54 : decode cX9_load 54 = .ok (.iconst 2, 1) := by decide +kernel
theorem dX9_load_55 : decode cX9_load 55 = .ok (.iadd, 1) := by decide +kernel
theorem dX9_load_56 : decode cX9_load 56 = .ok (.iaload, 1) := by decide +kernel
theorem dX9_load_57 : decode cX9_load 57 = .ok (.iadd, 1) := by decide +kernel
theorem dX9_load_58 : decode cX9_load 58 = .ok (.sipush 200, 3) := by decide +kernel
theorem dX9_load_61 : decode cX9_load 61 = .ok (.if_icmp .le 7, 3) := by decide +kernel
theorem dX9_load_64 : decode cX9_load 64 = .ok (.iconst 2, 1) := by decide +kernel
theorem dX9_load_65 : decode cX9_load 65 = .ok (.goto 4, 3) := by decide +kernel
theorem dX9_load_68 : decode cX9_load 68 = .ok (.iconst 0, 1) := by decide +kernel
theorem dX9_load_69 : decode cX9_load 69 = .ok (.putfield 61, 3) := by decide +kernel
theorem dX9_load_72 : decode cX9_load 72 = .ok (.aload_n 0, 1) := by decide +kernel
theorem dX9_load_73 : decode cX9_load 73 = .ok (.getfield 61, 3) := by decide +kernel
theorem dX9_load_76 : decode cX9_load 76 = .ok (.ifCond .le 5, 3) := by decide +kernel
theorem dX9_load_79 : decode cX9_load 79 = .ok (.iconst 0, 1) := by decide +kernel
theorem dX9_load_80 : decode cX9_load 80 = .ok (.ireturn, 1) := by decide +kernel
theorem dX9_load_81 : decode cX9_load 81 = .ok (.aload_n 0, 1) := by decide +kernel
theorem dX9_load_82 : decode cX9_load 82 = .ok (.invokevirtual 122, 3) := by decide +kernel
theorem dX9_load_85 : decode cX9_load 85 = .ok (.iconst 0, 1) := by decide +kernel
theorem dX9_load_86 : decode cX9_load 86 = .ok (.istore_n 2, 1) := by decide +kernel
theorem dX9_load_87 : decode cX9_load 87 = .ok (.iload_n 2, 1) := by decide +kernel
theorem dX9_load_88 : decode cX9_load 88 = .ok (.aload_n 0, 1) := by decide +kernel
theorem dX9_load_89 : decode cX9_load 89 = .ok (.getfield 150, 3) := by decide +kernel
theorem dX9_load_92 : decode cX9_load 92 = .ok (.if_icmp .gt 41, 3) := by decide +kernel
theorem dX9_load_95 : decode cX9_load 95 = .ok (.aload_n 0, 1) := by decide +kernel
theorem dX9_load_96 : decode cX9_load 96 = .ok (.aload_n 0, 1) := by decide +kernel
theorem dX9_load_97 : decode cX9_load 97 = .ok (.getfield 58, 3) := by decide +kernel
theorem dX9_load_100 : decode cX9_load 100 = .ok (.iconst 3, 1) := by decide +kernel
theorem dX9_load_101 : decode cX9_load 101 = .ok (.iload_n 2, 1) := by decide +kernel
theorem dX9_load_102 : decode cX9_load 102 = .ok (.imul, 1) := by decide +kernel
theorem dX9_load_103 : decode cX9_load 103 = .ok (.iaload, 1) := by decide +kernel
theorem dX9_load_104 : decode cX9_load 104 = .ok (.aload_n 0, 1) := by decide +kernel
theorem dX9_load_105 : decode cX9_load 105 = .ok (.getfield 58, 3) := by decide +kernel
theorem dX9_load_108 : decode cX9_load 108 = .ok (.iconst 3, 1) := by decide +kernel
theorem dX9_load_109 : decode cX9_load 109 = .ok (.iload_n 2, 1) := by decide +kernel
theorem dX9_load_110 : decode cX9_load 110 = .ok (.imul, 1) := by decide +kernel
theorem dX9_load_111 : decode cX9_load 111 = .ok (.iconst 1, 1) := by decide +kernel
theorem dX9_load_112 : decode cX9_load 112 = .ok (.iadd, 1) := by decide +kernel
theorem dX9_load_113 : decode cX9_load 113 = .ok (.iaload, 1) := by decide +kernel
theorem dX9_load_114 : decode cX9_load 114 = .ok (.aload_n 0, 1) := by decide +kernel
theorem dX9_load_115 : decode cX9_load 115 = .ok (.getfield 58, 3) := by decide +kernel
theorem dX9_load_118 : decode cX9_load 118 = .ok (.iconst 3, 1) := by decide +kernel
theorem dX9_load_119 : decode cX9_load 119 = .ok (.iload_n 2, 1) := by decide +kernel
theorem dX9_load_120 : decode cX9_load 120 = .ok (.imul, 1) := by decide +kernel
theorem dX9_load_121 : decode cX9_load 121 = .ok (.iconst 2, 1) := by decide +kernel
theorem dX9_load_122 : decode cX9_load 122 = .ok (.iadd, 1) := by decide +kernel
theorem dX9_load_123 : decode cX9_load 123 = .ok (.iaload, 1) := by decide +kernel
theorem dX9_load_124 : decode cX9_load 124 = .ok (.invokevirtual 128, 3) := by decide +kernel
theorem dX9_load_127 : decode cX9_load 127 = .ok (.iinc 2 1, 3) := by decide +kernel
theorem dX9_load_130 : decode cX9_load 130 = .ok (.goto (-43), 3) := by decide +kernel
theorem dX9_load_133 : decode cX9_load 133 = .ok (.aload_n 0, 1) := by decide +kernel
theorem dX9_load_134 : decode cX9_load 134 = .ok (.iconst 0, 1) := by decide +kernel
theorem dX9_load_135 : decode cX9_load 135 = .ok (.putfield 141, 3) := by decide +kernel
theorem dX9_load_138 : decode cX9_load 138 = .ok (.aload_n 0, 1) := by decide +kernel
theorem dX9_load_139 : decode cX9_load 139 = .ok (.getfield 7, 3) := by decide +kernel
theorem dX9_load_142 : decode cX9_load 142 = .ok (.iconst 0, 1) := by decide +kernel
theorem dX9_load_143 : decode cX9_load 143 = .ok (.iaload, 1) := by decide +kernel
theorem dX9_load_144 : decode cX9_load 144 = .ok (.ireturn, 1) := by decide +kernel
set_option maxHeartbeats 4000000 in
set_option maxRecDepth 100000 in
theorem w_X9_load_l87 {w : WT} {l : Launch} {p : Program} {e : Env} {s : State} {m : MethodId} {args : Array Value} {below : List Frame} {meth : Method} {c : Code} (C : KC w p s m args meth c cX9_load 3 RX9 (some .int)) {L : Lng} {Q : State → Prop} (z : Int32 × Mem) (o : (Int32 × Mem) ⊕ (Mem)) (hf : f_X9_load_l87 z = some o) (hA : ∀ z, o = .inl z → AtL w p l e ({ frames := 3, cells := 0, slots := 0, locals := 68 } : Room) s m args below meth c Q 3 87 z.2 L [(0, .ref (wAd w 90)), (2, .int z.1)] []) (hE : ∀ y, o = .inr y → AtL w p l e ({ frames := 3, cells := 0, slots := 0, locals := 68 } : Room) s m args below meth c Q 3 133 y L [(0, .ref (wAd w 90))] []) : AtL w p l e ({ frames := 3, cells := 0, slots := 0, locals := 68 } : Room) s m args below meth c Q 3 87 z.2 L [(0, .ref (wAd w 90)), (2, .int z.1)] [] := by
  intro H locs ls hP hS hl
  unfold f_X9_load_l87 at hf
  refine lv_iload_n C.1 C.2.1 dX9_load_87 rfl (lv_at hl 1 rfl) ?_
  refine lv_aload_n C.1 C.2.1 dX9_load_88 rfl (lv_at hl 0 rfl) ?_
  refine k_get (v := .int (z.2 90 24)) C hP (lt_Model h0_Model) (ob_Model h0_Model w L _) rfl iX9 24 (by decide) q887 rfl dX9_load_89 ?_
  refine lv_icmp_gt (tgt := 133) C.1 C.2.1 dX9_load_92 (by decide) (fun c10 => ?_) (fun c10 => ?_)
  · have hf := (if_pos c10).symm.trans hf
    cases hf
    exact hE _ rfl _ _ _ hP hS (lv_sub hl [0] rfl)
  · have hf := (if_neg c10).symm.trans hf
    refine lv_aload_n C.1 C.2.1 dX9_load_95 rfl (lv_at hl 0 rfl) ?_
    refine lv_aload_n C.1 C.2.1 dX9_load_96 rfl (lv_at hl 0 rfl) ?_
    refine k_get (v := .ref (wAd w 107)) C hP (lt_Model h0_Model) (ob_Model h0_Model w L _) rfl iX9 26 (by decide) q889 rfl dX9_load_97 ?_
    refine lv_iconst (v := 3) C.1 C.2.1 dX9_load_100 (by decide) ?_
    refine lv_iload_n C.1 C.2.1 dX9_load_101 rfl (lv_at hl 1 rfl) ?_
    refine lv_imul C.1 C.2.1 dX9_load_102 ?_
    obtain ⟨x11, hx11, hf⟩ := ob hf
    refine k_iald C hP (la_Model_read h0_Model) (ar_Model_read h0_Model w L _) hx11 dX9_load_103 ?_
    refine lv_aload_n C.1 C.2.1 dX9_load_104 rfl (lv_at hl 0 rfl) ?_
    refine k_get (v := .ref (wAd w 107)) C hP (lt_Model h0_Model) (ob_Model h0_Model w L _) rfl iX9 26 (by decide) q889 rfl dX9_load_105 ?_
    refine lv_iconst (v := 3) C.1 C.2.1 dX9_load_108 (by decide) ?_
    refine lv_iload_n C.1 C.2.1 dX9_load_109 rfl (lv_at hl 1 rfl) ?_
    refine lv_imul C.1 C.2.1 dX9_load_110 ?_
    refine lv_iconst (v := 1) C.1 C.2.1 dX9_load_111 (by decide) ?_
    refine lv_iadd C.1 C.2.1 dX9_load_112 ?_
    obtain ⟨x12, hx12, hf⟩ := ob hf
    refine k_iald C hP (la_Model_read h0_Model) (ar_Model_read h0_Model w L _) hx12 dX9_load_113 ?_
    refine lv_aload_n C.1 C.2.1 dX9_load_114 rfl (lv_at hl 0 rfl) ?_
    refine k_get (v := .ref (wAd w 107)) C hP (lt_Model h0_Model) (ob_Model h0_Model w L _) rfl iX9 26 (by decide) q889 rfl dX9_load_115 ?_
    refine lv_iconst (v := 3) C.1 C.2.1 dX9_load_118 (by decide) ?_
    refine lv_iload_n C.1 C.2.1 dX9_load_119 rfl (lv_at hl 1 rfl) ?_
    refine lv_imul C.1 C.2.1 dX9_load_120 ?_
    refine lv_iconst (v := 2) C.1 C.2.1 dX9_load_121 (by decide) ?_
    refine lv_iadd C.1 C.2.1 dX9_load_122 ?_
    obtain ⟨x13, hx13, hf⟩ := ob hf
    refine k_iald C hP (la_Model_read h0_Model) (ar_Model_read h0_Model w L _) hx13 dX9_load_123 ?_
    obtain ⟨r14, hr14, hf⟩ := ob hf
    refine kcv (kV (As := [.int x11, .int x12, .int x13]) (rest := []) C hl.1 hP hS (c_X9_bring w l C.2.2.2.2.2.2.2.2 (L := L) hr14) (gV q984 q986 qp26 q10 q987) hd_X9_bring (lt_Model h0_Model) (ob_Model h0_Model w L _) rfl ⟨rfl, rfl⟩ ⟨Nat.le_of_ble_eq_true rfl, Nat.le_of_ble_eq_true rfl⟩ rfl rfl (Nat.le_of_ble_eq_true rfl) dX9_load_124 ⟨Nat.zero_le _, Nat.zero_le _⟩) hS (fun H locs hP hS => ?_)
    refine lv_iinc (v := (z.1 + 1)) (lv' := [(2, .int (z.1 + 1)), (0, .ref (wAd w 90))]) C.1 C.2.1 dX9_load_127 hl (k := 1) rfl rfl (by decide) rfl (fun ls hl => ?_)
    refine lv_goto (tgt := 87) C.1 C.2.1 dX9_load_130 (by decide) ?_
    cases hf
    exact hA _ rfl _ _ _ hP hS (lv_sub hl [1, 0] rfl)
set_option maxHeartbeats 4000000 in
set_option maxRecDepth 100000 in
theorem w_X9_load_j69 {w : WT} {l : Launch} {p : Program} {e : Env} {s : State} {m : MethodId} {args : Array Value} {below : List Frame} {meth : Method} {c : Code} (C : KC w p s m args meth c cX9_load 3 RX9 (some .int)) {s1 : Int32} {M : Mem} {L : Lng} {out : Int32 × Mem} (hf : f_X9_load_j69 s1 M = some out) : AtL w p l e ({ frames := 3, cells := 0, slots := 0, locals := 68 } : Room) s m args below meth c (MQ below (QI w out.1 out.2 L) args s 0 0 (wA w)) 3 69 M L [(0, .ref (wAd w 90))] [.int s1, .ref (wAd w 90)] := by
  intro H locs ls hP hS hl
  unfold f_X9_load_j69 at hf
  obtain ⟨M7, hM7, hf⟩ := ob hf
  refine k_puti C hP hS (lt_Model h0_Model) (fun row => ob_Model h0_Model w L row) rfl iX9 tyX9 tyX9_ok nmX9 0 (by decide) q863 rfl rfl (Nat.le_of_ble_eq_true rfl) rfl hM7 dX9_load_69 (fun H locs hP hS => ?_)
  refine lv_aload_n C.1 C.2.1 dX9_load_72 rfl (lv_at hl 0 rfl) ?_
  refine k_get (v := .int (M7 90 0)) C hP (lt_Model h0_Model) (ob_Model h0_Model w L _) rfl iX9 0 (by decide) q863 rfl dX9_load_73 ?_
  refine lv_if_le (tgt := 81) C.1 C.2.1 dX9_load_76 (by decide) (fun c8 => ?_) (fun c8 => ?_)
  · have hf := (if_pos c8).symm.trans hf
    refine lv_aload_n C.1 C.2.1 dX9_load_81 rfl (lv_at hl 0 rfl) ?_
    obtain ⟨r9, hr9, hf⟩ := ob hf
    refine kcv (kV (As := []) (rest := []) C hl.1 hP hS (c_X9_save w l C.2.2.2.2.2.2.2.2 (L := L) hr9) (gV q969 q971 qp24 q10 q972) hd_X9_save (lt_Model h0_Model) (ob_Model h0_Model w L _) rfl ⟨rfl, rfl⟩ ⟨Nat.le_of_ble_eq_true rfl, Nat.le_of_ble_eq_true rfl⟩ rfl rfl (Nat.le_of_ble_eq_true rfl) dX9_load_82 ⟨Nat.zero_le _, Nat.zero_le _⟩) hS (fun H locs hP hS => ?_)
    refine lv_iconst (v := 0) C.1 C.2.1 dX9_load_85 (by decide) ?_
    refine lv_istore_n (lv' := [(2, .int 0), (0, .ref (wAd w 90))]) C.1 C.2.1 dX9_load_86 rfl hl (by decide) rfl (fun ls hl => ?_)
    obtain ⟨o15, ho15, hf⟩ := ob hf
    refine loop_at (w_X9_load_l87 C) FU _ o15 ho15 ?_ _ _ _ hP hS (lv_sub hl [1, 0] rfl)
    intro H locs ls hP hS hl
    refine lv_aload_n C.1 C.2.1 dX9_load_133 rfl (lv_at hl 0 rfl) ?_
    refine lv_iconst (v := 0) C.1 C.2.1 dX9_load_134 (by decide) ?_
    obtain ⟨M16, hM16, hf⟩ := ob hf
    refine k_puti C hP hS (lt_Model h0_Model) (fun row => ob_Model h0_Model w L row) rfl iX9 tyX9 tyX9_ok nmX9 4 (by decide) q867 rfl rfl (Nat.le_of_ble_eq_true rfl) rfl hM16 dX9_load_135 (fun H locs hP hS => ?_)
    refine lv_aload_n C.1 C.2.1 dX9_load_138 rfl (lv_at hl 0 rfl) ?_
    refine k_get (v := .ref (wAd w 91)) C hP (lt_Model h0_Model) (ob_Model h0_Model w L _) rfl iX9 1 (by decide) q864 rfl dX9_load_139 ?_
    refine lv_iconst (v := 0) C.1 C.2.1 dX9_load_142 (by decide) ?_
    obtain ⟨x17, hx17, hf⟩ := ob hf
    refine k_iald C hP (la_Model_z h0_Model) (ar_Model_z h0_Model w L _) hx17 dX9_load_143 ?_
    cases hf
    exact kri C hP hS dX9_load_144
  · have hf := (if_neg c8).symm.trans hf
    refine lv_iconst (v := 0) C.1 C.2.1 dX9_load_79 (by decide) ?_
    cases hf
    exact kri C hP hS dX9_load_80
set_option maxHeartbeats 4000000 in
set_option maxRecDepth 100000 in
theorem w_X9_load_j23 {w : WT} {l : Launch} {p : Program} {e : Env} {s : State} {m : MethodId} {args : Array Value} {below : List Frame} {meth : Method} {c : Code} (C : KC w p s m args meth c cX9_load 3 RX9 (some .int)) {s0 : Int32} {M : Mem} {L : Lng} {out : Int32 × Mem} (hf : f_X9_load_j23 s0 M = some out) : AtL w p l e ({ frames := 3, cells := 0, slots := 0, locals := 68 } : Room) s m args below meth c (MQ below (QI w out.1 out.2 L) args s 0 0 (wA w)) 3 23 M L [(0, .ref (wAd w 90))] [.int s0] := by
  intro H locs ls hP hS hl
  unfold f_X9_load_j23 at hf
  refine lv_istore_n (lv' := [(1, .int s0), (0, .ref (wAd w 90))]) C.1 C.2.1 dX9_load_23 rfl hl (by decide) rfl (fun ls hl => ?_)
  refine lv_aload_n C.1 C.2.1 dX9_load_24 rfl (lv_at hl 1 rfl) ?_
  refine lv_iload_n C.1 C.2.1 dX9_load_25 rfl (lv_at hl 0 rfl) ?_
  refine lv_if_ne (tgt := 33) C.1 C.2.1 dX9_load_26 (by decide) (fun c3 => ?_) (fun c3 => ?_)
  · have hf := (if_neg c3).symm.trans hf
    refine lv_aload_n C.1 C.2.1 dX9_load_33 rfl (lv_at hl 1 rfl) ?_
    refine k_get (v := .ref (wAd w 91)) C hP (lt_Model h0_Model) (ob_Model h0_Model w L _) rfl iX9 1 (by decide) q864 rfl dX9_load_34 ?_
    refine lv_iconst (v := 0) C.1 C.2.1 dX9_load_37 (by decide) ?_
    obtain ⟨x4, hx4, hf⟩ := ob hf
    refine k_iald C hP (la_Model_z h0_Model) (ar_Model_z h0_Model w L _) hx4 dX9_load_38 ?_
    refine lv_aload_n C.1 C.2.1 dX9_load_39 rfl (lv_at hl 1 rfl) ?_
    refine k_get (v := .int (M 90 25)) C hP (lt_Model h0_Model) (ob_Model h0_Model w L _) rfl iX9 25 (by decide) q888 rfl dX9_load_40 ?_
    refine lv_iadd C.1 C.2.1 dX9_load_43 ?_
    refine lv_aload_n C.1 C.2.1 dX9_load_44 rfl (lv_at hl 1 rfl) ?_
    refine k_get (v := .ref (wAd w 107)) C hP (lt_Model h0_Model) (ob_Model h0_Model w L _) rfl iX9 26 (by decide) q889 rfl dX9_load_45 ?_
    refine lv_iconst (v := 3) C.1 C.2.1 dX9_load_48 (by decide) ?_
    refine lv_aload_n C.1 C.2.1 dX9_load_49 rfl (lv_at hl 1 rfl) ?_
    refine k_get (v := .int (M 90 24)) C hP (lt_Model h0_Model) (ob_Model h0_Model w L _) rfl iX9 24 (by decide) q887 rfl dX9_load_50 ?_
    refine lv_imul C.1 C.2.1 dX9_load_53 ?_
    refine lv_iconst (v := 2) C.1 C.2.1 dX9_load_54 (by decide) ?_
    refine lv_iadd C.1 C.2.1 dX9_load_55 ?_
    obtain ⟨x5, hx5, hf⟩ := ob hf
    refine k_iald C hP (la_Model_read h0_Model) (ar_Model_read h0_Model w L _) hx5 dX9_load_56 ?_
    refine lv_iadd C.1 C.2.1 dX9_load_57 ?_
    refine lv_sipush (v := 200) C.1 C.2.1 dX9_load_58 (by decide) ?_
    refine lv_icmp_le (tgt := 68) C.1 C.2.1 dX9_load_61 (by decide) (fun c6 => ?_) (fun c6 => ?_)
    · have hf := (if_pos c6).symm.trans hf
      refine lv_iconst (v := 0) C.1 C.2.1 dX9_load_68 (by decide) ?_
      exact w_X9_load_j69 C hf _ _ _ hP hS (lv_sub hl [1] rfl)
    · have hf := (if_neg c6).symm.trans hf
      refine lv_iconst (v := 2) C.1 C.2.1 dX9_load_64 (by decide) ?_
      refine lv_goto (tgt := 69) C.1 C.2.1 dX9_load_65 (by decide) ?_
      exact w_X9_load_j69 C hf _ _ _ hP hS (lv_sub hl [1] rfl)
  · have hf := (if_pos c3).symm.trans hf
    refine lv_iconst (v := 1) C.1 C.2.1 dX9_load_29 (by decide) ?_
    refine lv_goto (tgt := 69) C.1 C.2.1 dX9_load_30 (by decide) ?_
    exact w_X9_load_j69 C hf _ _ _ hP hS (lv_sub hl [1] rfl)
set_option maxHeartbeats 4000000 in
set_option maxRecDepth 100000 in
theorem w_X9_load_j22 {w : WT} {l : Launch} {p : Program} {e : Env} {s : State} {m : MethodId} {args : Array Value} {below : List Frame} {meth : Method} {c : Code} (C : KC w p s m args meth c cX9_load 3 RX9 (some .int)) {M : Mem} {L : Lng} {out : Int32 × Mem} (hf : f_X9_load_j22 M = some out) : AtL w p l e ({ frames := 3, cells := 0, slots := 0, locals := 68 } : Room) s m args below meth c (MQ below (QI w out.1 out.2 L) args s 0 0 (wA w)) 3 22 M L [(0, .ref (wAd w 90))] [] := by
  intro H locs ls hP hS hl
  unfold f_X9_load_j22 at hf
  refine lv_iconst (v := 0) C.1 C.2.1 dX9_load_22 (by decide) ?_
  exact w_X9_load_j23 C hf _ _ _ hP hS hl
set_option maxHeartbeats 4000000 in
set_option maxRecDepth 100000 in
theorem c_X9_load (w : WT) (l : Launch) (hw : WOK w) {M : Mem} {L : Lng} {out : Int32 × Mem} (hf : f_X9_load M = some out) : Met l yX9_load (Cond.code yX9_load cX9_load 3 (some .int) :: BG) ({ frames := 3, cells := 0, slots := 0, locals := 68 } : Room) (PRE w [.ref (wAd w 90)] M L) (QI w out.1 out.2 L) 0 0 (wA w) := by
  refine kEnt hw (by decide +kernel) rfl (Nat.le_of_ble_eq_true rfl) ?_
  intro p e s m args below meth c C ls hl hP
  have hS : va_S (wA w) s.heap s.heap [] := va_S.rf
  have hl : lv_has ls 3 [(0, .ref (wAd w 90))] := hl
  unfold f_X9_load at hf
  refine lv_aload_n C.1 C.2.1 dX9_load_0 rfl (lv_at hl 0 rfl) ?_
  obtain ⟨r1, hr1, hf⟩ := ob hf
  refine kci (kV (As := []) (rest := []) C hl.1 hP hS (c_X9_readText w l C.2.2.2.2.2.2.2.2 (L := L) hr1) (gV q1064 q1066 qp39 q10 q1067) hd_X9_readText (lt_Model h0_Model) (ob_Model h0_Model w L _) rfl ⟨rfl, rfl⟩ ⟨Nat.le_of_ble_eq_true rfl, Nat.le_of_ble_eq_true rfl⟩ rfl rfl (Nat.le_of_ble_eq_true rfl) dX9_load_1 ⟨Nat.zero_le _, Nat.zero_le _⟩) hS (fun H locs hP hS => ?_)
  refine lv_aload_n C.1 C.2.1 dX9_load_4 rfl (lv_at hl 0 rfl) ?_
  refine k_get (v := .int (r1.2 90 4)) C hP (lt_Model h0_Model) (ob_Model h0_Model w L _) rfl iX9 4 (by decide) q867 rfl dX9_load_5 ?_
  refine lv_icmp_ne (tgt := 22) C.1 C.2.1 dX9_load_8 (by decide) (fun c2 => ?_) (fun c2 => ?_)
  · have hf := (if_neg c2).symm.trans hf
    exact w_X9_load_j22 C hf _ _ _ hP hS hl
  · have hf := (if_pos c2).symm.trans hf
    refine lv_aload_n C.1 C.2.1 dX9_load_11 rfl (lv_at hl 0 rfl) ?_
    obtain ⟨r18, hr18, hf⟩ := ob hf
    refine kci (kV (As := []) (rest := []) C hl.1 hP hS (c_X9_isPartOver w l C.2.2.2.2.2.2.2.2 (L := L) hr18) (gV q1084 q1086 qp44 q10 q1087) hd_X9_isPartOver (lt_Model h0_Model) (ob_Model h0_Model w L _) rfl ⟨rfl, rfl⟩ ⟨Nat.le_of_ble_eq_true rfl, Nat.le_of_ble_eq_true rfl⟩ rfl rfl (Nat.le_of_ble_eq_true rfl) dX9_load_12 ⟨Nat.zero_le _, Nat.zero_le _⟩) hS (fun H locs hP hS => ?_)
    refine lv_if_eq (tgt := 22) C.1 C.2.1 dX9_load_15 (by decide) (fun c19 => ?_) (fun c19 => ?_)
    · have hf := (if_pos c19).symm.trans hf
      exact w_X9_load_j22 C hf _ _ _ hP hS hl
    · have hf := (if_neg c19).symm.trans hf
      refine lv_iconst (v := 1) C.1 C.2.1 dX9_load_18 (by decide) ?_
      refine lv_goto (tgt := 23) C.1 C.2.1 dX9_load_19 (by decide) ?_
      exact w_X9_load_j23 C hf _ _ _ hP hS hl
theorem dX9_minuteNow_0 : decode cX9_minuteNow 0 = .ok (.iload_n 2, 1) := by decide +kernel
theorem dX9_minuteNow_1 : decode cX9_minuteNow 1 = .ok (.tableswitch 98 0 6 #[43, 50, 57, 64, 71, 77, 91], 43) := by decide +kernel
theorem dX9_minuteNow_44 : decode cX9_minuteNow 44 = .ok (.aload_n 0, 1) := by decide +kernel
theorem dX9_minuteNow_45 : decode cX9_minuteNow 45 = .ok (.getfield 19, 3) := by decide +kernel
theorem dX9_minuteNow_48 : decode cX9_minuteNow 48 = .ok (.iload_n 1, 1) := by decide +kernel
theorem dX9_minuteNow_49 : decode cX9_minuteNow 49 = .ok (.iaload, 1) := by decide +kernel
theorem dX9_minuteNow_50 : decode cX9_minuteNow 50 = .ok (.ireturn, 1) := by decide +kernel
theorem dX9_minuteNow_51 : decode cX9_minuteNow 51 = .ok (.aload_n 0, 1) := by decide +kernel
theorem dX9_minuteNow_52 : decode cX9_minuteNow 52 = .ok (.getfield 22, 3) := by decide +kernel
theorem dX9_minuteNow_55 : decode cX9_minuteNow 55 = .ok (.iload_n 1, 1) := by decide +kernel
theorem dX9_minuteNow_56 : decode cX9_minuteNow 56 = .ok (.iaload, 1) := by decide +kernel
theorem dX9_minuteNow_57 : decode cX9_minuteNow 57 = .ok (.ireturn, 1) := by decide +kernel
theorem dX9_minuteNow_58 : decode cX9_minuteNow 58 = .ok (.aload_n 0, 1) := by decide +kernel
theorem dX9_minuteNow_59 : decode cX9_minuteNow 59 = .ok (.getfield 25, 3) := by decide +kernel
theorem dX9_minuteNow_62 : decode cX9_minuteNow 62 = .ok (.iload_n 1, 1) := by decide +kernel
theorem dX9_minuteNow_63 : decode cX9_minuteNow 63 = .ok (.iaload, 1) := by decide +kernel
theorem dX9_minuteNow_64 : decode cX9_minuteNow 64 = .ok (.ireturn, 1) := by decide +kernel
theorem dX9_minuteNow_65 : decode cX9_minuteNow 65 = .ok (.aload_n 0, 1) := by decide +kernel
theorem dX9_minuteNow_66 : decode cX9_minuteNow 66 = .ok (.getfield 28, 3) := by decide +kernel
theorem dX9_minuteNow_69 : decode cX9_minuteNow 69 = .ok (.iload_n 1, 1) := by decide +kernel
theorem dX9_minuteNow_70 : decode cX9_minuteNow 70 = .ok (.iaload, 1) := by decide +kernel
theorem dX9_minuteNow_71 : decode cX9_minuteNow 71 = .ok (.ireturn, 1) := by decide +kernel
theorem dX9_minuteNow_72 : decode cX9_minuteNow 72 = .ok (.aload_n 0, 1) := by decide +kernel
theorem dX9_minuteNow_73 : decode cX9_minuteNow 73 = .ok (.iload_n 1, 1) := by decide +kernel
theorem dX9_minuteNow_74 : decode cX9_minuteNow 74 = .ok (.invokevirtual 77, 3) := by decide +kernel
theorem dX9_minuteNow_77 : decode cX9_minuteNow 77 = .ok (.ireturn, 1) := by decide +kernel
theorem dX9_minuteNow_78 : decode cX9_minuteNow 78 = .ok (.aload_n 0, 1) := by decide +kernel
theorem dX9_minuteNow_79 : decode cX9_minuteNow 79 = .ok (.iload_n 1, 1) := by decide +kernel
theorem dX9_minuteNow_80 : decode cX9_minuteNow 80 = .ok (.invokevirtual 73, 3) := by decide +kernel
theorem dX9_minuteNow_83 : decode cX9_minuteNow 83 = .ok (.ifCond .eq 7, 3) := by decide +kernel
theorem dX9_minuteNow_86 : decode cX9_minuteNow 86 = .ok (.iconst 1, 1) := by decide +kernel
theorem dX9_minuteNow_87 : decode cX9_minuteNow 87 = .ok (.goto 4, 3) := by decide +kernel
theorem dX9_minuteNow_90 : decode cX9_minuteNow 90 = .ok (.iconst 0, 1) := by decide +kernel
theorem dX9_minuteNow_91 : decode cX9_minuteNow 91 = .ok (.ireturn, 1) := by decide +kernel
theorem dX9_minuteNow_92 : decode cX9_minuteNow 92 = .ok (.aload_n 0, 1) := by decide +kernel
theorem dX9_minuteNow_93 : decode cX9_minuteNow 93 = .ok (.getfield 31, 3) := by decide +kernel
theorem dX9_minuteNow_96 : decode cX9_minuteNow 96 = .ok (.iload_n 1, 1) := by decide +kernel
theorem dX9_minuteNow_97 : decode cX9_minuteNow 97 = .ok (.iaload, 1) := by decide +kernel
theorem dX9_minuteNow_98 : decode cX9_minuteNow 98 = .ok (.ireturn, 1) := by decide +kernel
theorem dX9_minuteNow_99 : decode cX9_minuteNow 99 = .ok (.aload_n 0, 1) := by decide +kernel
theorem dX9_minuteNow_100 : decode cX9_minuteNow 100 = .ok (.getfield 34, 3) := by decide +kernel
theorem dX9_minuteNow_103 : decode cX9_minuteNow 103 = .ok (.iload_n 1, 1) := by decide +kernel
theorem dX9_minuteNow_104 : decode cX9_minuteNow 104 = .ok (.iaload, 1) := by decide +kernel
theorem dX9_minuteNow_105 : decode cX9_minuteNow 105 = .ok (.ireturn, 1) := by decide +kernel
set_option maxHeartbeats 4000000 in
set_option maxRecDepth 100000 in
theorem c_X9_minuteNow (w : WT) (l : Launch) (hw : WOK w) {a1 : Int32} {a2 : Int32} {M : Mem} {L : Lng} {out : Int32} (hf : f_X9_minuteNow a1 a2 M = some out) : Met l yX9_minuteNow (Cond.code yX9_minuteNow cX9_minuteNow 3 (some .int) :: BG) ({ frames := 3, cells := 0, slots := 0, locals := 63 } : Room) (PRE w [.ref (wAd w 90), .int a1, .int a2] M L) (QI w out M L) 0 0 (wA w) := by
  refine kEnt hw (by decide +kernel) rfl (Nat.le_of_ble_eq_true rfl) ?_
  intro p e s m args below meth c C ls hl hP
  have hS : va_S (wA w) s.heap s.heap [] := va_S.rf
  have hl : lv_has ls 3 [(0, .ref (wAd w 90)), (1, .int a1), (2, .int a2)] := hl
  unfold f_X9_minuteNow at hf
  refine lv_iload_n C.1 C.2.1 dX9_minuteNow_0 rfl (lv_at hl 2 rfl) ?_
  by_cases c1 : a2 = 0
  · have hf := (if_pos c1).symm.trans hf
    refine lv_tableIn (off := 43) (tgt := 44) C.1 C.2.1 dX9_minuteNow_1 (by rw [c1]; decide) (by rw [c1]; decide) (by rw [c1]; rfl) (by decide) ?_
    refine lv_aload_n C.1 C.2.1 dX9_minuteNow_44 rfl (lv_at hl 0 rfl) ?_
    refine k_get (v := .ref (wAd w 94)) C hP (lt_Model h0_Model) (ob_Model h0_Model w L _) rfl iX9 7 (by decide) q870 rfl dX9_minuteNow_45 ?_
    refine lv_iload_n C.1 C.2.1 dX9_minuteNow_48 rfl (lv_at hl 1 rfl) ?_
    obtain ⟨x2, hx2, hf⟩ := ob hf
    refine k_iald C hP (la_Model_level h0_Model) (ar_Model_level h0_Model w L _) hx2 dX9_minuteNow_49 ?_
    cases hf
    exact kri C hP hS dX9_minuteNow_50
  · have hf := (if_neg c1).symm.trans hf
    by_cases c3 : a2 = 1
    · have hf := (if_pos c3).symm.trans hf
      refine lv_tableIn (off := 50) (tgt := 51) C.1 C.2.1 dX9_minuteNow_1 (by rw [c3]; decide) (by rw [c3]; decide) (by rw [c3]; rfl) (by decide) ?_
      refine lv_aload_n C.1 C.2.1 dX9_minuteNow_51 rfl (lv_at hl 0 rfl) ?_
      refine k_get (v := .ref (wAd w 95)) C hP (lt_Model h0_Model) (ob_Model h0_Model w L _) rfl iX9 8 (by decide) q871 rfl dX9_minuteNow_52 ?_
      refine lv_iload_n C.1 C.2.1 dX9_minuteNow_55 rfl (lv_at hl 1 rfl) ?_
      obtain ⟨x4, hx4, hf⟩ := ob hf
      refine k_iald C hP (la_Model_wind h0_Model) (ar_Model_wind h0_Model w L _) hx4 dX9_minuteNow_56 ?_
      cases hf
      exact kri C hP hS dX9_minuteNow_57
    · have hf := (if_neg c3).symm.trans hf
      by_cases c5 : a2 = 2
      · have hf := (if_pos c5).symm.trans hf
        refine lv_tableIn (off := 57) (tgt := 58) C.1 C.2.1 dX9_minuteNow_1 (by rw [c5]; decide) (by rw [c5]; decide) (by rw [c5]; rfl) (by decide) ?_
        refine lv_aload_n C.1 C.2.1 dX9_minuteNow_58 rfl (lv_at hl 0 rfl) ?_
        refine k_get (v := .ref (wAd w 96)) C hP (lt_Model h0_Model) (ob_Model h0_Model w L _) rfl iX9 9 (by decide) q872 rfl dX9_minuteNow_59 ?_
        refine lv_iload_n C.1 C.2.1 dX9_minuteNow_62 rfl (lv_at hl 1 rfl) ?_
        obtain ⟨x6, hx6, hf⟩ := ob hf
        refine k_iald C hP (la_Model_fast h0_Model) (ar_Model_fast h0_Model w L _) hx6 dX9_minuteNow_63 ?_
        cases hf
        exact kri C hP hS dX9_minuteNow_64
      · have hf := (if_neg c5).symm.trans hf
        by_cases c7 : a2 = 3
        · have hf := (if_pos c7).symm.trans hf
          refine lv_tableIn (off := 64) (tgt := 65) C.1 C.2.1 dX9_minuteNow_1 (by rw [c7]; decide) (by rw [c7]; decide) (by rw [c7]; rfl) (by decide) ?_
          refine lv_aload_n C.1 C.2.1 dX9_minuteNow_65 rfl (lv_at hl 0 rfl) ?_
          refine k_get (v := .ref (wAd w 97)) C hP (lt_Model h0_Model) (ob_Model h0_Model w L _) rfl iX9 10 (by decide) q873 rfl dX9_minuteNow_66 ?_
          refine lv_iload_n C.1 C.2.1 dX9_minuteNow_69 rfl (lv_at hl 1 rfl) ?_
          obtain ⟨x8, hx8, hf⟩ := ob hf
          refine k_iald C hP (la_Model_slow h0_Model) (ar_Model_slow h0_Model w L _) hx8 dX9_minuteNow_70 ?_
          cases hf
          exact kri C hP hS dX9_minuteNow_71
        · have hf := (if_neg c7).symm.trans hf
          by_cases c9 : a2 = 4
          · have hf := (if_pos c9).symm.trans hf
            refine lv_tableIn (off := 71) (tgt := 72) C.1 C.2.1 dX9_minuteNow_1 (by rw [c9]; decide) (by rw [c9]; decide) (by rw [c9]; rfl) (by decide) ?_
            refine lv_aload_n C.1 C.2.1 dX9_minuteNow_72 rfl (lv_at hl 0 rfl) ?_
            refine lv_iload_n C.1 C.2.1 dX9_minuteNow_73 rfl (lv_at hl 1 rfl) ?_
            obtain ⟨r10, hr10, hf⟩ := ob hf
            refine kci (kV (As := [.int a1]) (rest := []) C hl.1 hP hS (c_X9_limitOf w l C.2.2.2.2.2.2.2.2 (L := L) hr10) (gV q1012 q1014 qp32 q10 q1015) hd_X9_limitOf (lt_Model h0_Model) (ob_Model h0_Model w L _) rfl ⟨rfl, rfl⟩ ⟨Nat.le_of_ble_eq_true rfl, Nat.le_of_ble_eq_true rfl⟩ rfl rfl (Nat.le_of_ble_eq_true rfl) dX9_minuteNow_74 ⟨Nat.zero_le _, Nat.zero_le _⟩) hS (fun H locs hP hS => ?_)
            cases hf
            exact kri C hP hS dX9_minuteNow_77
          · have hf := (if_neg c9).symm.trans hf
            by_cases c11 : a2 = 5
            · have hf := (if_pos c11).symm.trans hf
              refine lv_tableIn (off := 77) (tgt := 78) C.1 C.2.1 dX9_minuteNow_1 (by rw [c11]; decide) (by rw [c11]; decide) (by rw [c11]; rfl) (by decide) ?_
              refine lv_aload_n C.1 C.2.1 dX9_minuteNow_78 rfl (lv_at hl 0 rfl) ?_
              refine lv_iload_n C.1 C.2.1 dX9_minuteNow_79 rfl (lv_at hl 1 rfl) ?_
              obtain ⟨r12, hr12, hf⟩ := ob hf
              refine kci (kV (As := [.int a1]) (rest := []) C hl.1 hP hS (c_X9_isRest w l C.2.2.2.2.2.2.2.2 (L := L) hr12) (gV q1016 q1018 qp33 q10 q1019) hd_X9_isRest (lt_Model h0_Model) (ob_Model h0_Model w L _) rfl ⟨rfl, rfl⟩ ⟨Nat.le_of_ble_eq_true rfl, Nat.le_of_ble_eq_true rfl⟩ rfl rfl (Nat.le_of_ble_eq_true rfl) dX9_minuteNow_80 ⟨Nat.zero_le _, Nat.zero_le _⟩) hS (fun H locs hP hS => ?_)
              refine lv_if_eq (tgt := 90) C.1 C.2.1 dX9_minuteNow_83 (by decide) (fun c13 => ?_) (fun c13 => ?_)
              · have hf := (if_pos c13).symm.trans hf
                refine lv_iconst (v := 0) C.1 C.2.1 dX9_minuteNow_90 (by decide) ?_
                cases hf
                exact kri C hP hS dX9_minuteNow_91
              · have hf := (if_neg c13).symm.trans hf
                refine lv_iconst (v := 1) C.1 C.2.1 dX9_minuteNow_86 (by decide) ?_
                refine lv_goto (tgt := 91) C.1 C.2.1 dX9_minuteNow_87 (by decide) ?_
                cases hf
                exact kri C hP hS dX9_minuteNow_91
            · have hf := (if_neg c11).symm.trans hf
              by_cases c14 : a2 = 6
              · have hf := (if_pos c14).symm.trans hf
                refine lv_tableIn (off := 91) (tgt := 92) C.1 C.2.1 dX9_minuteNow_1 (by rw [c14]; decide) (by rw [c14]; decide) (by rw [c14]; rfl) (by decide) ?_
                refine lv_aload_n C.1 C.2.1 dX9_minuteNow_92 rfl (lv_at hl 0 rfl) ?_
                refine k_get (v := .ref (wAd w 98)) C hP (lt_Model h0_Model) (ob_Model h0_Model w L _) rfl iX9 11 (by decide) q874 rfl dX9_minuteNow_93 ?_
                refine lv_iload_n C.1 C.2.1 dX9_minuteNow_96 rfl (lv_at hl 1 rfl) ?_
                obtain ⟨x15, hx15, hf⟩ := ob hf
                refine k_iald C hP (la_Model_why h0_Model) (ar_Model_why h0_Model w L _) hx15 dX9_minuteNow_97 ?_
                cases hf
                exact kri C hP hS dX9_minuteNow_98
              · have hf := (if_neg c14).symm.trans hf
                refine lv_tableOut (tgt := 99) C.1 C.2.1 dX9_minuteNow_1 (by have e0 := ne_ti (n := 0) c1 (by decide); have e1 := ne_ti (n := 1) c3 (by decide); have e2 := ne_ti (n := 2) c5 (by decide); have e3 := ne_ti (n := 3) c7 (by decide); have e4 := ne_ti (n := 4) c9 (by decide); have e5 := ne_ti (n := 5) c11 (by decide); have e6 := ne_ti (n := 6) c14 (by decide); omega) (by decide) ?_
                refine lv_aload_n C.1 C.2.1 dX9_minuteNow_99 rfl (lv_at hl 0 rfl) ?_
                refine k_get (v := .ref (wAd w 99)) C hP (lt_Model h0_Model) (ob_Model h0_Model w L _) rfl iX9 12 (by decide) q875 rfl dX9_minuteNow_100 ?_
                refine lv_iload_n C.1 C.2.1 dX9_minuteNow_103 rfl (lv_at hl 1 rfl) ?_
                obtain ⟨x16, hx16, hf⟩ := ob hf
                refine k_iald C hP (la_Model_partOf h0_Model) (ar_Model_partOf h0_Model w L _) hx16 dX9_minuteNow_104 ?_
                cases hf
                exact kri C hP hS dX9_minuteNow_105
theorem dX9_minute_0 : decode cX9_minute 0 = .ok (.aload_n 0, 1) := by decide +kernel
theorem dX9_minute_1 : decode cX9_minute 1 = .ok (.aload_n 0, 1) := by decide +kernel
theorem dX9_minute_2 : decode cX9_minute 2 = .ok (.iload_n 1, 1) := by decide +kernel
theorem dX9_minute_3 : decode cX9_minute 3 = .ok (.invokevirtual 132, 3) := by decide +kernel
theorem dX9_minute_6 : decode cX9_minute 6 = .ok (.ifCond .ne 7, 3) := by decide +kernel
theorem dX9_minute_9 : decode cX9_minute 9 = .ok (.iconst 1, 1) := by decide +kernel
theorem dX9_minute_10 : decode cX9_minute 10 = .ok (.goto 18, 3) := by decide +kernel
theorem dX9_minute_13 : decode cX9_minute 13 = .ok (.iload_n 2, 1) := by decide +kernel
theorem dX9_minute_14 : decode cX9_minute 14 = .ok (.iconst 0, 1) := by decide +kernel
theorem dX9_minute_15 : decode cX9_minute 15 = .ok (.bipush 7, 2) := by decide +kernel
theorem dX9_minute_17 : decode cX9_minute 17 = .ok (.invokestatic 65, 3) := by decide +kernel
theorem dX9_minute_20 : decode cX9_minute 20 = .ok (.ifCond .eq 7, 3) := by decide +kernel
theorem dX9_minute_23 : decode cX9_minute 23 = .ok (.iconst 0, 1) := by decide +kernel
theorem dX9_minute_24 : decode cX9_minute 24 = .ok (.goto 4, 3) := by decide +kernel
theorem dX9_minute_27 : decode cX9_minute 27 = .ok (.iconst 2, 1) := by decide +kernel
theorem dX9_minute_28 : decode cX9_minute 28 = .ok (.putfield 61, 3) := by decide +kernel
theorem dX9_minute_31 : decode cX9_minute 31 = .ok (.aload_n 0, 1) := by decide +kernel
theorem dX9_minute_32 : decode cX9_minute 32 = .ok (.getfield 61, 3) := by decide +kernel
theorem dX9_minute_35 : decode cX9_minute 35 = .ok (.ifCond .le 5, 3) := by decide +kernel
theorem dX9_minute_38 : decode cX9_minute 38 = .ok (.iconst 0, 1) := by decide +kernel
theorem dX9_minute_39 : decode cX9_minute 39 = .ok (.ireturn, 1) := by decide +kernel
theorem dX9_minute_40 : decode cX9_minute 40 = .ok (.aload_n 0, 1) := by decide +kernel
theorem dX9_minute_41 : decode cX9_minute 41 = .ok (.invokevirtual 138, 3) := by decide +kernel
theorem dX9_minute_44 : decode cX9_minute 44 = .ok (.aload_n 0, 1) := by decide +kernel
theorem dX9_minute_45 : decode cX9_minute 45 = .ok (.iload_n 1, 1) := by decide +kernel
theorem dX9_minute_46 : decode cX9_minute 46 = .ok (.iload_n 2, 1) := by decide +kernel
theorem dX9_minute_47 : decode cX9_minute 47 = .ok (.invokevirtual 177, 3) := by decide +kernel
theorem dX9_minute_50 : decode cX9_minute 50 = .ok (.ireturn, 1) := by decide +kernel
set_option maxHeartbeats 4000000 in
set_option maxRecDepth 100000 in
theorem w_X9_minute_j28 {w : WT} {l : Launch} {p : Program} {e : Env} {s : State} {m : MethodId} {args : Array Value} {below : List Frame} {meth : Method} {c : Code} (C : KC w p s m args meth c cX9_minute 3 RX9 (some .int)) {v1 : Int32} {v2 : Int32} {s1 : Int32} {M : Mem} {L : Lng} {out : Int32 × Mem} (hf : f_X9_minute_j28 v1 v2 s1 M = some out) : AtL w p l e ({ frames := 7, cells := 0, slots := 0, locals := 151 } : Room) s m args below meth c (MQ below (QI w out.1 out.2 L) args s 0 0 (wA w)) 3 28 M L [(0, .ref (wAd w 90)), (1, .int v1), (2, .int v2)] [.int s1, .ref (wAd w 90)] := by
  intro H locs ls hP hS hl
  unfold f_X9_minute_j28 at hf
  obtain ⟨M5, hM5, hf⟩ := ob hf
  refine k_puti C hP hS (lt_Model h0_Model) (fun row => ob_Model h0_Model w L row) rfl iX9 tyX9 tyX9_ok nmX9 0 (by decide) q863 rfl rfl (Nat.le_of_ble_eq_true rfl) rfl hM5 dX9_minute_28 (fun H locs hP hS => ?_)
  refine lv_aload_n C.1 C.2.1 dX9_minute_31 rfl (lv_at hl 0 rfl) ?_
  refine k_get (v := .int (M5 90 0)) C hP (lt_Model h0_Model) (ob_Model h0_Model w L _) rfl iX9 0 (by decide) q863 rfl dX9_minute_32 ?_
  refine lv_if_le (tgt := 40) C.1 C.2.1 dX9_minute_35 (by decide) (fun c6 => ?_) (fun c6 => ?_)
  · have hf := (if_pos c6).symm.trans hf
    refine lv_aload_n C.1 C.2.1 dX9_minute_40 rfl (lv_at hl 0 rfl) ?_
    obtain ⟨r7, hr7, hf⟩ := ob hf
    refine kcv (kV (As := []) (rest := []) C hl.1 hP hS (c_X9_layAll w l C.2.2.2.2.2.2.2.2 (L := L) hr7) (gV q1040 q1042 qp36 q10 q1043) hd_X9_layAll (lt_Model h0_Model) (ob_Model h0_Model w L _) rfl ⟨rfl, rfl⟩ ⟨Nat.le_of_ble_eq_true rfl, Nat.le_of_ble_eq_true rfl⟩ rfl rfl (Nat.le_of_ble_eq_true rfl) dX9_minute_41 ⟨Nat.zero_le _, Nat.zero_le _⟩) hS (fun H locs hP hS => ?_)
    refine lv_aload_n C.1 C.2.1 dX9_minute_44 rfl (lv_at hl 0 rfl) ?_
    refine lv_iload_n C.1 C.2.1 dX9_minute_45 rfl (lv_at hl 1 rfl) ?_
    refine lv_iload_n C.1 C.2.1 dX9_minute_46 rfl (lv_at hl 2 rfl) ?_
    obtain ⟨r8, hr8, hf⟩ := ob hf
    refine kci (kV (As := [.int v1, .int v2]) (rest := []) C hl.1 hP hS (c_X9_minuteNow w l C.2.2.2.2.2.2.2.2 (L := L) hr8) (gV q1096 q1098 qp45 q10 q1099) hd_X9_minuteNow (lt_Model h0_Model) (ob_Model h0_Model w L _) rfl ⟨rfl, rfl⟩ ⟨Nat.le_of_ble_eq_true rfl, Nat.le_of_ble_eq_true rfl⟩ rfl rfl (Nat.le_of_ble_eq_true rfl) dX9_minute_47 ⟨Nat.zero_le _, Nat.zero_le _⟩) hS (fun H locs hP hS => ?_)
    cases hf
    exact kri C hP hS dX9_minute_50
  · have hf := (if_neg c6).symm.trans hf
    refine lv_iconst (v := 0) C.1 C.2.1 dX9_minute_38 (by decide) ?_
    cases hf
    exact kri C hP hS dX9_minute_39
set_option maxHeartbeats 4000000 in
set_option maxRecDepth 100000 in
theorem c_X9_minute (w : WT) (l : Launch) (hw : WOK w) {a1 : Int32} {a2 : Int32} {M : Mem} {L : Lng} {out : Int32 × Mem} (hf : f_X9_minute a1 a2 M = some out) : Met l yX9_minute (Cond.code yX9_minute cX9_minute 3 (some .int) :: BG) ({ frames := 7, cells := 0, slots := 0, locals := 151 } : Room) (PRE w [.ref (wAd w 90), .int a1, .int a2] M L) (QI w out.1 out.2 L) 0 0 (wA w) := by
  refine kEnt hw (by decide +kernel) rfl (Nat.le_of_ble_eq_true rfl) ?_
  intro p e s m args below meth c C ls hl hP
  have hS : va_S (wA w) s.heap s.heap [] := va_S.rf
  have hl : lv_has ls 3 [(0, .ref (wAd w 90)), (1, .int a1), (2, .int a2)] := hl
  unfold f_X9_minute at hf
  refine lv_aload_n C.1 C.2.1 dX9_minute_0 rfl (lv_at hl 0 rfl) ?_
  refine lv_aload_n C.1 C.2.1 dX9_minute_1 rfl (lv_at hl 0 rfl) ?_
  refine lv_iload_n C.1 C.2.1 dX9_minute_2 rfl (lv_at hl 1 rfl) ?_
  obtain ⟨r1, hr1, hf⟩ := ob hf
  refine kci (kV (As := [.int a1]) (rest := [.ref (wAd w 90)]) C hl.1 hP hS (c_X9_isMinute w l C.2.2.2.2.2.2.2.2 (L := L) hr1) (gV q992 q994 qp27 q10 q995) hd_X9_isMinute (lt_Model h0_Model) (ob_Model h0_Model w L _) rfl ⟨rfl, rfl⟩ ⟨Nat.le_of_ble_eq_true rfl, Nat.le_of_ble_eq_true rfl⟩ rfl rfl (Nat.le_of_ble_eq_true rfl) dX9_minute_3 ⟨Nat.zero_le _, Nat.zero_le _⟩) hS (fun H locs hP hS => ?_)
  refine lv_if_ne (tgt := 13) C.1 C.2.1 dX9_minute_6 (by decide) (fun c2 => ?_) (fun c2 => ?_)
  · have hf := (if_neg c2).symm.trans hf
    refine lv_iload_n C.1 C.2.1 dX9_minute_13 rfl (lv_at hl 2 rfl) ?_
    refine lv_iconst (v := 0) C.1 C.2.1 dX9_minute_14 (by decide) ?_
    refine lv_bipush (v := 7) C.1 C.2.1 dX9_minute_15 (by decide) ?_
    obtain ⟨r3, hr3, hf⟩ := ob hf
    refine kci (kS (As := [.int a2, .int 0, .int 7]) (rest := [.ref (wAd w 90)]) C hl.1 hP hS (c_X9_within w l C.2.2.2.2.2.2.2.2 (L := L) hr3) (gS q963 q964 q10 q965) hd_X9_within ⟨rfl, rfl⟩ ⟨Nat.le_of_ble_eq_true rfl, Nat.le_of_ble_eq_true rfl⟩ rfl rfl (Nat.le_of_ble_eq_true rfl) dX9_minute_17 ⟨Nat.zero_le _, Nat.zero_le _⟩) hS (fun H locs hP hS => ?_)
    refine lv_if_eq (tgt := 27) C.1 C.2.1 dX9_minute_20 (by decide) (fun c4 => ?_) (fun c4 => ?_)
    · have hf := (if_pos c4).symm.trans hf
      refine lv_iconst (v := 2) C.1 C.2.1 dX9_minute_27 (by decide) ?_
      exact w_X9_minute_j28 C hf _ _ _ hP hS hl
    · have hf := (if_neg c4).symm.trans hf
      refine lv_iconst (v := 0) C.1 C.2.1 dX9_minute_23 (by decide) ?_
      refine lv_goto (tgt := 28) C.1 C.2.1 dX9_minute_24 (by decide) ?_
      exact w_X9_minute_j28 C hf _ _ _ hP hS hl
  · have hf := (if_pos c2).symm.trans hf
    refine lv_iconst (v := 1) C.1 C.2.1 dX9_minute_9 (by decide) ?_
    refine lv_goto (tgt := 28) C.1 C.2.1 dX9_minute_10 (by decide) ?_
    exact w_X9_minute_j28 C hf _ _ _ hP hS hl
theorem dX9_exceedanceNow_0 : decode cX9_exceedanceNow 0 = .ok (.iload_n 2, 1) := by decide +kernel
theorem dX9_exceedanceNow_1 : decode cX9_exceedanceNow 1 = .ok (.tableswitch 70 0 4 #[35, 42, 49, 56, 63], 35) := by decide +kernel
theorem dX9_exceedanceNow_36 : decode cX9_exceedanceNow 36 = .ok (.aload_n 0, 1) := by decide +kernel
theorem dX9_exceedanceNow_37 : decode cX9_exceedanceNow 37 = .ok (.getfield 37, 3) := by decide +kernel
theorem dX9_exceedanceNow_40 : decode cX9_exceedanceNow 40 = .ok (.iload_n 1, 1) := by decide +kernel
theorem dX9_exceedanceNow_41 : decode cX9_exceedanceNow 41 = .ok (.iaload, 1) := by decide +kernel
theorem dX9_exceedanceNow_42 : decode cX9_exceedanceNow 42 = .ok (.ireturn, 1) := by decide +kernel
theorem dX9_exceedanceNow_43 : decode cX9_exceedanceNow 43 = .ok (.aload_n 0, 1) := by decide +kernel
theorem dX9_exceedanceNow_44 : decode cX9_exceedanceNow 44 = .ok (.getfield 40, 3) := by decide +kernel
theorem dX9_exceedanceNow_47 : decode cX9_exceedanceNow 47 = .ok (.iload_n 1, 1) := by decide +kernel
theorem dX9_exceedanceNow_48 : decode cX9_exceedanceNow 48 = .ok (.iaload, 1) := by decide +kernel
theorem dX9_exceedanceNow_49 : decode cX9_exceedanceNow 49 = .ok (.ireturn, 1) := by decide +kernel
theorem dX9_exceedanceNow_50 : decode cX9_exceedanceNow 50 = .ok (.aload_n 0, 1) := by decide +kernel
theorem dX9_exceedanceNow_51 : decode cX9_exceedanceNow 51 = .ok (.getfield 43, 3) := by decide +kernel
theorem dX9_exceedanceNow_54 : decode cX9_exceedanceNow 54 = .ok (.iload_n 1, 1) := by decide +kernel
theorem dX9_exceedanceNow_55 : decode cX9_exceedanceNow 55 = .ok (.iaload, 1) := by decide +kernel
theorem dX9_exceedanceNow_56 : decode cX9_exceedanceNow 56 = .ok (.ireturn, 1) := by decide +kernel
theorem dX9_exceedanceNow_57 : decode cX9_exceedanceNow 57 = .ok (.aload_n 0, 1) := by decide +kernel
theorem dX9_exceedanceNow_58 : decode cX9_exceedanceNow 58 = .ok (.getfield 46, 3) := by decide +kernel
theorem dX9_exceedanceNow_61 : decode cX9_exceedanceNow 61 = .ok (.iload_n 1, 1) := by decide +kernel
theorem dX9_exceedanceNow_62 : decode cX9_exceedanceNow 62 = .ok (.iaload, 1) := by decide +kernel
theorem dX9_exceedanceNow_63 : decode cX9_exceedanceNow 63 = .ok (.ireturn, 1) := by decide +kernel
theorem dX9_exceedanceNow_64 : decode cX9_exceedanceNow 64 = .ok (.aload_n 0, 1) := by decide +kernel
theorem dX9_exceedanceNow_65 : decode cX9_exceedanceNow 65 = .ok (.getfield 49, 3) := by decide +kernel
theorem dX9_exceedanceNow_68 : decode cX9_exceedanceNow 68 = .ok (.iload_n 1, 1) := by decide +kernel
theorem dX9_exceedanceNow_69 : decode cX9_exceedanceNow 69 = .ok (.iaload, 1) := by decide +kernel
theorem dX9_exceedanceNow_70 : decode cX9_exceedanceNow 70 = .ok (.ireturn, 1) := by decide +kernel
theorem dX9_exceedanceNow_71 : decode cX9_exceedanceNow 71 = .ok (.aload_n 0, 1) := by decide +kernel
theorem dX9_exceedanceNow_72 : decode cX9_exceedanceNow 72 = .ok (.getfield 55, 3) := by decide +kernel
theorem dX9_exceedanceNow_75 : decode cX9_exceedanceNow 75 = .ok (.iload_n 1, 1) := by decide +kernel
theorem dX9_exceedanceNow_76 : decode cX9_exceedanceNow 76 = .ok (.iaload, 1) := by decide +kernel
theorem dX9_exceedanceNow_77 : decode cX9_exceedanceNow 77 = .ok (.ireturn, 1) := by decide +kernel
set_option maxHeartbeats 4000000 in
set_option maxRecDepth 100000 in
theorem c_X9_exceedanceNow (w : WT) (l : Launch) (hw : WOK w) {a1 : Int32} {a2 : Int32} {M : Mem} {L : Lng} {out : Int32} (hf : f_X9_exceedanceNow a1 a2 M = some out) : Met l yX9_exceedanceNow (Cond.code yX9_exceedanceNow cX9_exceedanceNow 3 (some .int) :: BG) ({ frames := 0, cells := 0, slots := 0, locals := 0 } : Room) (PRE w [.ref (wAd w 90), .int a1, .int a2] M L) (QI w out M L) 0 0 (wA w) := by
  refine kEnt hw (by decide +kernel) rfl (Nat.le_of_ble_eq_true rfl) ?_
  intro p e s m args below meth c C ls hl hP
  have hS : va_S (wA w) s.heap s.heap [] := va_S.rf
  have hl : lv_has ls 3 [(0, .ref (wAd w 90)), (1, .int a1), (2, .int a2)] := hl
  unfold f_X9_exceedanceNow at hf
  refine lv_iload_n C.1 C.2.1 dX9_exceedanceNow_0 rfl (lv_at hl 2 rfl) ?_
  by_cases c1 : a2 = 0
  · have hf := (if_pos c1).symm.trans hf
    refine lv_tableIn (off := 35) (tgt := 36) C.1 C.2.1 dX9_exceedanceNow_1 (by rw [c1]; decide) (by rw [c1]; decide) (by rw [c1]; rfl) (by decide) ?_
    refine lv_aload_n C.1 C.2.1 dX9_exceedanceNow_36 rfl (lv_at hl 0 rfl) ?_
    refine k_get (v := .ref (wAd w 100)) C hP (lt_Model h0_Model) (ob_Model h0_Model w L _) rfl iX9 14 (by decide) q877 rfl dX9_exceedanceNow_37 ?_
    refine lv_iload_n C.1 C.2.1 dX9_exceedanceNow_40 rfl (lv_at hl 1 rfl) ?_
    obtain ⟨x2, hx2, hf⟩ := ob hf
    refine k_iald C hP (la_Model_first h0_Model) (ar_Model_first h0_Model w L _) hx2 dX9_exceedanceNow_41 ?_
    cases hf
    exact kri C hP hS dX9_exceedanceNow_42
  · have hf := (if_neg c1).symm.trans hf
    by_cases c3 : a2 = 1
    · have hf := (if_pos c3).symm.trans hf
      refine lv_tableIn (off := 42) (tgt := 43) C.1 C.2.1 dX9_exceedanceNow_1 (by rw [c3]; decide) (by rw [c3]; decide) (by rw [c3]; rfl) (by decide) ?_
      refine lv_aload_n C.1 C.2.1 dX9_exceedanceNow_43 rfl (lv_at hl 0 rfl) ?_
      refine k_get (v := .ref (wAd w 101)) C hP (lt_Model h0_Model) (ob_Model h0_Model w L _) rfl iX9 15 (by decide) q878 rfl dX9_exceedanceNow_44 ?_
      refine lv_iload_n C.1 C.2.1 dX9_exceedanceNow_47 rfl (lv_at hl 1 rfl) ?_
      obtain ⟨x4, hx4, hf⟩ := ob hf
      refine k_iald C hP (la_Model_last h0_Model) (ar_Model_last h0_Model w L _) hx4 dX9_exceedanceNow_48 ?_
      cases hf
      exact kri C hP hS dX9_exceedanceNow_49
    · have hf := (if_neg c3).symm.trans hf
      by_cases c5 : a2 = 2
      · have hf := (if_pos c5).symm.trans hf
        refine lv_tableIn (off := 49) (tgt := 50) C.1 C.2.1 dX9_exceedanceNow_1 (by rw [c5]; decide) (by rw [c5]; decide) (by rw [c5]; rfl) (by decide) ?_
        refine lv_aload_n C.1 C.2.1 dX9_exceedanceNow_50 rfl (lv_at hl 0 rfl) ?_
        refine k_get (v := .ref (wAd w 102)) C hP (lt_Model h0_Model) (ob_Model h0_Model w L _) rfl iX9 16 (by decide) q879 rfl dX9_exceedanceNow_51 ?_
        refine lv_iload_n C.1 C.2.1 dX9_exceedanceNow_54 rfl (lv_at hl 1 rfl) ?_
        obtain ⟨x6, hx6, hf⟩ := ob hf
        refine k_iald C hP (la_Model_above h0_Model) (ar_Model_above h0_Model w L _) hx6 dX9_exceedanceNow_55 ?_
        cases hf
        exact kri C hP hS dX9_exceedanceNow_56
      · have hf := (if_neg c5).symm.trans hf
        by_cases c7 : a2 = 3
        · have hf := (if_pos c7).symm.trans hf
          refine lv_tableIn (off := 56) (tgt := 57) C.1 C.2.1 dX9_exceedanceNow_1 (by rw [c7]; decide) (by rw [c7]; decide) (by rw [c7]; rfl) (by decide) ?_
          refine lv_aload_n C.1 C.2.1 dX9_exceedanceNow_57 rfl (lv_at hl 0 rfl) ?_
          refine k_get (v := .ref (wAd w 103)) C hP (lt_Model h0_Model) (ob_Model h0_Model w L _) rfl iX9 17 (by decide) q880 rfl dX9_exceedanceNow_58 ?_
          refine lv_iload_n C.1 C.2.1 dX9_exceedanceNow_61 rfl (lv_at hl 1 rfl) ?_
          obtain ⟨x8, hx8, hf⟩ := ob hf
          refine k_iald C hP (la_Model_peak h0_Model) (ar_Model_peak h0_Model w L _) hx8 dX9_exceedanceNow_62 ?_
          cases hf
          exact kri C hP hS dX9_exceedanceNow_63
        · have hf := (if_neg c7).symm.trans hf
          by_cases c9 : a2 = 4
          · have hf := (if_pos c9).symm.trans hf
            refine lv_tableIn (off := 63) (tgt := 64) C.1 C.2.1 dX9_exceedanceNow_1 (by rw [c9]; decide) (by rw [c9]; decide) (by rw [c9]; rfl) (by decide) ?_
            refine lv_aload_n C.1 C.2.1 dX9_exceedanceNow_64 rfl (lv_at hl 0 rfl) ?_
            refine k_get (v := .ref (wAd w 104)) C hP (lt_Model h0_Model) (ob_Model h0_Model w L _) rfl iX9 18 (by decide) q881 rfl dX9_exceedanceNow_65 ?_
            refine lv_iload_n C.1 C.2.1 dX9_exceedanceNow_68 rfl (lv_at hl 1 rfl) ?_
            obtain ⟨x10, hx10, hf⟩ := ob hf
            refine k_iald C hP (la_Model_weight h0_Model) (ar_Model_weight h0_Model w L _) hx10 dX9_exceedanceNow_69 ?_
            cases hf
            exact kri C hP hS dX9_exceedanceNow_70
          · have hf := (if_neg c9).symm.trans hf
            refine lv_tableOut (tgt := 71) C.1 C.2.1 dX9_exceedanceNow_1 (by have e0 := ne_ti (n := 0) c1 (by decide); have e1 := ne_ti (n := 1) c3 (by decide); have e2 := ne_ti (n := 2) c5 (by decide); have e3 := ne_ti (n := 3) c7 (by decide); have e4 := ne_ti (n := 4) c9 (by decide); omega) (by decide) ?_
            refine lv_aload_n C.1 C.2.1 dX9_exceedanceNow_71 rfl (lv_at hl 0 rfl) ?_
            refine k_get (v := .ref (wAd w 106)) C hP (lt_Model h0_Model) (ob_Model h0_Model w L _) rfl iX9 21 (by decide) q884 rfl dX9_exceedanceNow_72 ?_
            refine lv_iload_n C.1 C.2.1 dX9_exceedanceNow_75 rfl (lv_at hl 1 rfl) ?_
            obtain ⟨x11, hx11, hf⟩ := ob hf
            refine k_iald C hP (la_Model_complaintOf h0_Model) (ar_Model_complaintOf h0_Model w L _) hx11 dX9_exceedanceNow_76 ?_
            cases hf
            exact kri C hP hS dX9_exceedanceNow_77
theorem dX9_exceedance_0 : decode cX9_exceedance 0 = .ok (.aload_n 0, 1) := by decide +kernel
theorem dX9_exceedance_1 : decode cX9_exceedance 1 = .ok (.invokevirtual 138, 3) := by decide +kernel
theorem dX9_exceedance_4 : decode cX9_exceedance 4 = .ok (.aload_n 0, 1) := by decide +kernel
theorem dX9_exceedance_5 : decode cX9_exceedance 5 = .ok (.iload_n 1, 1) := by decide +kernel
theorem dX9_exceedance_6 : decode cX9_exceedance 6 = .ok (.iconst 0, 1) := by decide +kernel
theorem dX9_exceedance_7 : decode cX9_exceedance 7 = .ok (.aload_n 0, 1) := by decide +kernel
theorem dX9_exceedance_8 : decode cX9_exceedance 8 = .ok (.getfield 83, 3) := by decide +kernel
theorem dX9_exceedance_11 : decode cX9_exceedance 11 = .ok (.iconst 1, 1) := by decide +kernel
theorem dX9_exceedance_12 : decode cX9_exceedance 12 = .ok (.isub, 1) := by decide +kernel
theorem dX9_exceedance_13 : decode cX9_exceedance 13 = .ok (.invokestatic 65, 3) := by decide +kernel
theorem dX9_exceedance_16 : decode cX9_exceedance 16 = .ok (.ifCond .ne 7, 3) := by decide +kernel
theorem dX9_exceedance_19 : decode cX9_exceedance 19 = .ok (.iconst 1, 1) := by decide +kernel
theorem dX9_exceedance_20 : decode cX9_exceedance 20 = .ok (.goto 17, 3) := by decide +kernel
theorem dX9_exceedance_23 : decode cX9_exceedance 23 = .ok (.iload_n 2, 1) := by decide +kernel
theorem dX9_exceedance_24 : decode cX9_exceedance 24 = .ok (.iconst 0, 1) := by decide +kernel
theorem dX9_exceedance_25 : decode cX9_exceedance 25 = .ok (.iconst 5, 1) := by decide +kernel
theorem dX9_exceedance_26 : decode cX9_exceedance 26 = .ok (.invokestatic 65, 3) := by decide +kernel
theorem dX9_exceedance_29 : decode cX9_exceedance 29 = .ok (.ifCond .eq 7, 3) := by decide +kernel
theorem dX9_exceedance_32 : decode cX9_exceedance 32 = .ok (.iconst 0, 1) := by decide +kernel
theorem dX9_exceedance_33 : decode cX9_exceedance 33 = .ok (.goto 4, 3) := by decide +kernel
theorem dX9_exceedance_36 : decode cX9_exceedance 36 = .ok (.iconst 2, 1) := by decide +kernel
theorem dX9_exceedance_37 : decode cX9_exceedance 37 = .ok (.putfield 61, 3) := by decide +kernel
theorem dX9_exceedance_40 : decode cX9_exceedance 40 = .ok (.aload_n 0, 1) := by decide +kernel
theorem dX9_exceedance_41 : decode cX9_exceedance 41 = .ok (.getfield 61, 3) := by decide +kernel
theorem dX9_exceedance_44 : decode cX9_exceedance 44 = .ok (.ifCond .le 7, 3) := by decide +kernel
theorem dX9_exceedance_47 : decode cX9_exceedance 47 = .ok (.iconst 0, 1) := by decide +kernel
theorem dX9_exceedance_48 : decode cX9_exceedance 48 = .ok (.goto 9, 3) := by decide +kernel
theorem dX9_exceedance_51 : decode cX9_exceedance 51 = .ok (.aload_n 0, 1) := by decide +kernel
theorem dX9_exceedance_52 : decode cX9_exceedance 52 = .ok (.iload_n 1, 1) := by decide +kernel
theorem dX9_exceedance_53 : decode cX9_exceedance 53 = .ok (.iload_n 2, 1) := by decide +kernel
theorem dX9_exceedance_54 : decode cX9_exceedance 54 = .ok (.invokevirtual 181, 3) := by decide +kernel
theorem dX9_exceedance_57 : decode cX9_exceedance 57 = .ok (.ireturn, 1) := by decide +kernel
set_option maxHeartbeats 4000000 in
set_option maxRecDepth 100000 in
theorem w_X9_exceedance_j37 {w : WT} {l : Launch} {p : Program} {e : Env} {s : State} {m : MethodId} {args : Array Value} {below : List Frame} {meth : Method} {c : Code} (C : KC w p s m args meth c cX9_exceedance 3 RX9 (some .int)) {v1 : Int32} {v2 : Int32} {s1 : Int32} {M : Mem} {L : Lng} {out : Int32 × Mem} (hf : f_X9_exceedance_j37 v1 v2 s1 M = some out) : AtL w p l e ({ frames := 7, cells := 0, slots := 0, locals := 151 } : Room) s m args below meth c (MQ below (QI w out.1 out.2 L) args s 0 0 (wA w)) 3 37 M L [(0, .ref (wAd w 90)), (1, .int v1), (2, .int v2)] [.int s1, .ref (wAd w 90)] := by
  intro H locs ls hP hS hl
  unfold f_X9_exceedance_j37 at hf
  obtain ⟨M6, hM6, hf⟩ := ob hf
  refine k_puti C hP hS (lt_Model h0_Model) (fun row => ob_Model h0_Model w L row) rfl iX9 tyX9 tyX9_ok nmX9 0 (by decide) q863 rfl rfl (Nat.le_of_ble_eq_true rfl) rfl hM6 dX9_exceedance_37 (fun H locs hP hS => ?_)
  refine lv_aload_n C.1 C.2.1 dX9_exceedance_40 rfl (lv_at hl 0 rfl) ?_
  refine k_get (v := .int (M6 90 0)) C hP (lt_Model h0_Model) (ob_Model h0_Model w L _) rfl iX9 0 (by decide) q863 rfl dX9_exceedance_41 ?_
  refine lv_if_le (tgt := 51) C.1 C.2.1 dX9_exceedance_44 (by decide) (fun c7 => ?_) (fun c7 => ?_)
  · have hf := (if_pos c7).symm.trans hf
    refine lv_aload_n C.1 C.2.1 dX9_exceedance_51 rfl (lv_at hl 0 rfl) ?_
    refine lv_iload_n C.1 C.2.1 dX9_exceedance_52 rfl (lv_at hl 1 rfl) ?_
    refine lv_iload_n C.1 C.2.1 dX9_exceedance_53 rfl (lv_at hl 2 rfl) ?_
    obtain ⟨r8, hr8, hf⟩ := ob hf
    refine kci (kV (As := [.int v1, .int v2]) (rest := []) C hl.1 hP hS (c_X9_exceedanceNow w l C.2.2.2.2.2.2.2.2 (L := L) hr8) (gV q1104 q1106 qp46 q10 q1107) hd_X9_exceedanceNow (lt_Model h0_Model) (ob_Model h0_Model w L _) rfl ⟨rfl, rfl⟩ ⟨Nat.le_of_ble_eq_true rfl, Nat.le_of_ble_eq_true rfl⟩ rfl rfl (Nat.le_of_ble_eq_true rfl) dX9_exceedance_54 ⟨Nat.zero_le _, Nat.zero_le _⟩) hS (fun H locs hP hS => ?_)
    cases hf
    exact kri C hP hS dX9_exceedance_57
  · have hf := (if_neg c7).symm.trans hf
    refine lv_iconst (v := 0) C.1 C.2.1 dX9_exceedance_47 (by decide) ?_
    refine lv_goto (tgt := 57) C.1 C.2.1 dX9_exceedance_48 (by decide) ?_
    cases hf
    exact kri C hP hS dX9_exceedance_57
set_option maxHeartbeats 4000000 in
set_option maxRecDepth 100000 in
theorem c_X9_exceedance (w : WT) (l : Launch) (hw : WOK w) {a1 : Int32} {a2 : Int32} {M : Mem} {L : Lng} {out : Int32 × Mem} (hf : f_X9_exceedance a1 a2 M = some out) : Met l yX9_exceedance (Cond.code yX9_exceedance cX9_exceedance 3 (some .int) :: BG) ({ frames := 7, cells := 0, slots := 0, locals := 151 } : Room) (PRE w [.ref (wAd w 90), .int a1, .int a2] M L) (QI w out.1 out.2 L) 0 0 (wA w) := by
  refine kEnt hw (by decide +kernel) rfl (Nat.le_of_ble_eq_true rfl) ?_
  intro p e s m args below meth c C ls hl hP
  have hS : va_S (wA w) s.heap s.heap [] := va_S.rf
  have hl : lv_has ls 3 [(0, .ref (wAd w 90)), (1, .int a1), (2, .int a2)] := hl
  unfold f_X9_exceedance at hf
  refine lv_aload_n C.1 C.2.1 dX9_exceedance_0 rfl (lv_at hl 0 rfl) ?_
  obtain ⟨r1, hr1, hf⟩ := ob hf
  refine kcv (kV (As := []) (rest := []) C hl.1 hP hS (c_X9_layAll w l C.2.2.2.2.2.2.2.2 (L := L) hr1) (gV q1040 q1042 qp36 q10 q1043) hd_X9_layAll (lt_Model h0_Model) (ob_Model h0_Model w L _) rfl ⟨rfl, rfl⟩ ⟨Nat.le_of_ble_eq_true rfl, Nat.le_of_ble_eq_true rfl⟩ rfl rfl (Nat.le_of_ble_eq_true rfl) dX9_exceedance_1 ⟨Nat.zero_le _, Nat.zero_le _⟩) hS (fun H locs hP hS => ?_)
  refine lv_aload_n C.1 C.2.1 dX9_exceedance_4 rfl (lv_at hl 0 rfl) ?_
  refine lv_iload_n C.1 C.2.1 dX9_exceedance_5 rfl (lv_at hl 1 rfl) ?_
  refine lv_iconst (v := 0) C.1 C.2.1 dX9_exceedance_6 (by decide) ?_
  refine lv_aload_n C.1 C.2.1 dX9_exceedance_7 rfl (lv_at hl 0 rfl) ?_
  refine k_get (v := .int (r1 90 13)) C hP (lt_Model h0_Model) (ob_Model h0_Model w L _) rfl iX9 13 (by decide) q876 rfl dX9_exceedance_8 ?_
  refine lv_iconst (v := 1) C.1 C.2.1 dX9_exceedance_11 (by decide) ?_
  refine lv_isub C.1 C.2.1 dX9_exceedance_12 ?_
  obtain ⟨r2, hr2, hf⟩ := ob hf
  refine kci (kS (As := [.int a1, .int 0, .int ((r1 90 13) - 1)]) (rest := [.ref (wAd w 90)]) C hl.1 hP hS (c_X9_within w l C.2.2.2.2.2.2.2.2 (L := L) hr2) (gS q963 q964 q10 q965) hd_X9_within ⟨rfl, rfl⟩ ⟨Nat.le_of_ble_eq_true rfl, Nat.le_of_ble_eq_true rfl⟩ rfl rfl (Nat.le_of_ble_eq_true rfl) dX9_exceedance_13 ⟨Nat.zero_le _, Nat.zero_le _⟩) hS (fun H locs hP hS => ?_)
  refine lv_if_ne (tgt := 23) C.1 C.2.1 dX9_exceedance_16 (by decide) (fun c3 => ?_) (fun c3 => ?_)
  · have hf := (if_neg c3).symm.trans hf
    refine lv_iload_n C.1 C.2.1 dX9_exceedance_23 rfl (lv_at hl 2 rfl) ?_
    refine lv_iconst (v := 0) C.1 C.2.1 dX9_exceedance_24 (by decide) ?_
    refine lv_iconst (v := 5) C.1 C.2.1 dX9_exceedance_25 (by decide) ?_
    obtain ⟨r4, hr4, hf⟩ := ob hf
    refine kci (kS (As := [.int a2, .int 0, .int 5]) (rest := [.ref (wAd w 90)]) C hl.1 hP hS (c_X9_within w l C.2.2.2.2.2.2.2.2 (L := L) hr4) (gS q963 q964 q10 q965) hd_X9_within ⟨rfl, rfl⟩ ⟨Nat.le_of_ble_eq_true rfl, Nat.le_of_ble_eq_true rfl⟩ rfl rfl (Nat.le_of_ble_eq_true rfl) dX9_exceedance_26 ⟨Nat.zero_le _, Nat.zero_le _⟩) hS (fun H locs hP hS => ?_)
    refine lv_if_eq (tgt := 36) C.1 C.2.1 dX9_exceedance_29 (by decide) (fun c5 => ?_) (fun c5 => ?_)
    · have hf := (if_pos c5).symm.trans hf
      refine lv_iconst (v := 2) C.1 C.2.1 dX9_exceedance_36 (by decide) ?_
      exact w_X9_exceedance_j37 C hf _ _ _ hP hS hl
    · have hf := (if_neg c5).symm.trans hf
      refine lv_iconst (v := 0) C.1 C.2.1 dX9_exceedance_32 (by decide) ?_
      refine lv_goto (tgt := 37) C.1 C.2.1 dX9_exceedance_33 (by decide) ?_
      exact w_X9_exceedance_j37 C hf _ _ _ hP hS hl
  · have hf := (if_pos c3).symm.trans hf
    refine lv_iconst (v := 1) C.1 C.2.1 dX9_exceedance_19 (by decide) ?_
    refine lv_goto (tgt := 37) C.1 C.2.1 dX9_exceedance_20 (by decide) ?_
    exact w_X9_exceedance_j37 C hf _ _ _ hP hS hl
theorem dX9_complaint_0 : decode cX9_complaint 0 = .ok (.aload_n 0, 1) := by decide +kernel
theorem dX9_complaint_1 : decode cX9_complaint 1 = .ok (.aload_n 0, 1) := by decide +kernel
theorem dX9_complaint_2 : decode cX9_complaint 2 = .ok (.iload_n 1, 1) := by decide +kernel
theorem dX9_complaint_3 : decode cX9_complaint 3 = .ok (.invokevirtual 135, 3) := by decide +kernel
theorem dX9_complaint_6 : decode cX9_complaint 6 = .ok (.ifCond .ne 7, 3) := by decide +kernel
theorem dX9_complaint_9 : decode cX9_complaint 9 = .ok (.iconst 1, 1) := by decide +kernel
theorem dX9_complaint_10 : decode cX9_complaint 10 = .ok (.goto 17, 3) := by decide +kernel
theorem dX9_complaint_13 : decode cX9_complaint 13 = .ok (.iload_n 2, 1) := by decide +kernel
theorem dX9_complaint_14 : decode cX9_complaint 14 = .ok (.iconst 0, 1) := by decide +kernel
theorem dX9_complaint_15 : decode cX9_complaint 15 = .ok (.iconst 1, 1) := by decide +kernel
theorem dX9_complaint_16 : decode cX9_complaint 16 = .ok (.invokestatic 65, 3) := by decide +kernel
theorem dX9_complaint_19 : decode cX9_complaint 19 = .ok (.ifCond .eq 7, 3) := by decide +kernel
theorem dX9_complaint_22 : decode cX9_complaint 22 = .ok (.iconst 0, 1) := by decide +kernel
theorem dX9_complaint_23 : decode cX9_complaint 23 = .ok (.goto 4, 3) := by decide +kernel
theorem dX9_complaint_26 : decode cX9_complaint 26 = .ok (.iconst 2, 1) := by decide +kernel
theorem dX9_complaint_27 : decode cX9_complaint 27 = .ok (.putfield 61, 3) := by decide +kernel
theorem dX9_complaint_30 : decode cX9_complaint 30 = .ok (.aload_n 0, 1) := by decide +kernel
theorem dX9_complaint_31 : decode cX9_complaint 31 = .ok (.getfield 61, 3) := by decide +kernel
theorem dX9_complaint_34 : decode cX9_complaint 34 = .ok (.ifCond .le 5, 3) := by decide +kernel
theorem dX9_complaint_37 : decode cX9_complaint 37 = .ok (.iconst 0, 1) := by decide +kernel
theorem dX9_complaint_38 : decode cX9_complaint 38 = .ok (.ireturn, 1) := by decide +kernel
theorem dX9_complaint_39 : decode cX9_complaint 39 = .ok (.aload_n 0, 1) := by decide +kernel
theorem dX9_complaint_40 : decode cX9_complaint 40 = .ok (.invokevirtual 138, 3) := by decide +kernel
theorem dX9_complaint_43 : decode cX9_complaint 43 = .ok (.iload_n 2, 1) := by decide +kernel
theorem dX9_complaint_44 : decode cX9_complaint 44 = .ok (.ifCond .ne 16, 3) := by decide +kernel
theorem dX9_complaint_47 : decode cX9_complaint 47 = .ok (.aload_n 0, 1) := by decide +kernel
theorem dX9_complaint_48 : decode cX9_complaint 48 = .ok (.getfield 7, 3) := by decide +kernel
theorem dX9_complaint_51 : decode cX9_complaint 51 = .ok (.sipush 412, 3) := by decide +kernel
theorem dX9_complaint_54 : decode cX9_complaint 54 = .ok (.iload_n 1, 1) := by decide +kernel
theorem dX9_complaint_55 : decode cX9_complaint 55 = .ok (.iadd, 1) := by decide +kernel
theorem dX9_complaint_56 : decode cX9_complaint 56 = .ok (.iaload, 1) := by decide +kernel
theorem dX9_complaint_57 : decode cX9_complaint 57 = .ok (.goto 9, 3) := by decide +kernel
theorem dX9_complaint_60 : decode cX9_complaint 60 = .ok (.aload_n 0, 1) := by decide +kernel
theorem dX9_complaint_61 : decode cX9_complaint 61 = .ok (.getfield 52, 3) := by decide +kernel
theorem dX9_complaint_64 : decode cX9_complaint 64 = .ok (.iload_n 1, 1) := by decide +kernel
theorem dX9_complaint_65 : decode cX9_complaint 65 = .ok (.iaload, 1) := by decide +kernel
theorem dX9_complaint_66 : decode cX9_complaint 66 = .ok (.ireturn, 1) := by decide +kernel
set_option maxHeartbeats 4000000 in
set_option maxRecDepth 100000 in
theorem w_X9_complaint_j27 {w : WT} {l : Launch} {p : Program} {e : Env} {s : State} {m : MethodId} {args : Array Value} {below : List Frame} {meth : Method} {c : Code} (C : KC w p s m args meth c cX9_complaint 3 RX9 (some .int)) {v1 : Int32} {v2 : Int32} {s1 : Int32} {M : Mem} {L : Lng} {out : Int32 × Mem} (hf : f_X9_complaint_j27 v1 v2 s1 M = some out) : AtL w p l e ({ frames := 7, cells := 0, slots := 0, locals := 151 } : Room) s m args below meth c (MQ below (QI w out.1 out.2 L) args s 0 0 (wA w)) 3 27 M L [(0, .ref (wAd w 90)), (1, .int v1), (2, .int v2)] [.int s1, .ref (wAd w 90)] := by
  intro H locs ls hP hS hl
  unfold f_X9_complaint_j27 at hf
  obtain ⟨M5, hM5, hf⟩ := ob hf
  refine k_puti C hP hS (lt_Model h0_Model) (fun row => ob_Model h0_Model w L row) rfl iX9 tyX9 tyX9_ok nmX9 0 (by decide) q863 rfl rfl (Nat.le_of_ble_eq_true rfl) rfl hM5 dX9_complaint_27 (fun H locs hP hS => ?_)
  refine lv_aload_n C.1 C.2.1 dX9_complaint_30 rfl (lv_at hl 0 rfl) ?_
  refine k_get (v := .int (M5 90 0)) C hP (lt_Model h0_Model) (ob_Model h0_Model w L _) rfl iX9 0 (by decide) q863 rfl dX9_complaint_31 ?_
  refine lv_if_le (tgt := 39) C.1 C.2.1 dX9_complaint_34 (by decide) (fun c6 => ?_) (fun c6 => ?_)
  · have hf := (if_pos c6).symm.trans hf
    refine lv_aload_n C.1 C.2.1 dX9_complaint_39 rfl (lv_at hl 0 rfl) ?_
    obtain ⟨r7, hr7, hf⟩ := ob hf
    refine kcv (kV (As := []) (rest := []) C hl.1 hP hS (c_X9_layAll w l C.2.2.2.2.2.2.2.2 (L := L) hr7) (gV q1040 q1042 qp36 q10 q1043) hd_X9_layAll (lt_Model h0_Model) (ob_Model h0_Model w L _) rfl ⟨rfl, rfl⟩ ⟨Nat.le_of_ble_eq_true rfl, Nat.le_of_ble_eq_true rfl⟩ rfl rfl (Nat.le_of_ble_eq_true rfl) dX9_complaint_40 ⟨Nat.zero_le _, Nat.zero_le _⟩) hS (fun H locs hP hS => ?_)
    refine lv_iload_n C.1 C.2.1 dX9_complaint_43 rfl (lv_at hl 2 rfl) ?_
    refine lv_if_ne (tgt := 60) C.1 C.2.1 dX9_complaint_44 (by decide) (fun c8 => ?_) (fun c8 => ?_)
    · have hf := (if_neg c8).symm.trans hf
      refine lv_aload_n C.1 C.2.1 dX9_complaint_60 rfl (lv_at hl 0 rfl) ?_
      refine k_get (v := .ref (wAd w 105)) C hP (lt_Model h0_Model) (ob_Model h0_Model w L _) rfl iX9 20 (by decide) q883 rfl dX9_complaint_61 ?_
      refine lv_iload_n C.1 C.2.1 dX9_complaint_64 rfl (lv_at hl 1 rfl) ?_
      obtain ⟨x9, hx9, hf⟩ := ob hf
      refine k_iald C hP (la_Model_matched h0_Model) (ar_Model_matched h0_Model w L _) hx9 dX9_complaint_65 ?_
      cases hf
      exact kri C hP hS dX9_complaint_66
    · have hf := (if_pos c8).symm.trans hf
      refine lv_aload_n C.1 C.2.1 dX9_complaint_47 rfl (lv_at hl 0 rfl) ?_
      refine k_get (v := .ref (wAd w 91)) C hP (lt_Model h0_Model) (ob_Model h0_Model w L _) rfl iX9 1 (by decide) q864 rfl dX9_complaint_48 ?_
      refine lv_sipush (v := 412) C.1 C.2.1 dX9_complaint_51 (by decide) ?_
      refine lv_iload_n C.1 C.2.1 dX9_complaint_54 rfl (lv_at hl 1 rfl) ?_
      refine lv_iadd C.1 C.2.1 dX9_complaint_55 ?_
      obtain ⟨x10, hx10, hf⟩ := ob hf
      refine k_iald C hP (la_Model_z h0_Model) (ar_Model_z h0_Model w L _) hx10 dX9_complaint_56 ?_
      refine lv_goto (tgt := 66) C.1 C.2.1 dX9_complaint_57 (by decide) ?_
      cases hf
      exact kri C hP hS dX9_complaint_66
  · have hf := (if_neg c6).symm.trans hf
    refine lv_iconst (v := 0) C.1 C.2.1 dX9_complaint_37 (by decide) ?_
    cases hf
    exact kri C hP hS dX9_complaint_38
set_option maxHeartbeats 4000000 in
set_option maxRecDepth 100000 in
theorem c_X9_complaint (w : WT) (l : Launch) (hw : WOK w) {a1 : Int32} {a2 : Int32} {M : Mem} {L : Lng} {out : Int32 × Mem} (hf : f_X9_complaint a1 a2 M = some out) : Met l yX9_complaint (Cond.code yX9_complaint cX9_complaint 3 (some .int) :: BG) ({ frames := 7, cells := 0, slots := 0, locals := 151 } : Room) (PRE w [.ref (wAd w 90), .int a1, .int a2] M L) (QI w out.1 out.2 L) 0 0 (wA w) := by
  refine kEnt hw (by decide +kernel) rfl (Nat.le_of_ble_eq_true rfl) ?_
  intro p e s m args below meth c C ls hl hP
  have hS : va_S (wA w) s.heap s.heap [] := va_S.rf
  have hl : lv_has ls 3 [(0, .ref (wAd w 90)), (1, .int a1), (2, .int a2)] := hl
  unfold f_X9_complaint at hf
  refine lv_aload_n C.1 C.2.1 dX9_complaint_0 rfl (lv_at hl 0 rfl) ?_
  refine lv_aload_n C.1 C.2.1 dX9_complaint_1 rfl (lv_at hl 0 rfl) ?_
  refine lv_iload_n C.1 C.2.1 dX9_complaint_2 rfl (lv_at hl 1 rfl) ?_
  obtain ⟨r1, hr1, hf⟩ := ob hf
  refine kci (kV (As := [.int a1]) (rest := [.ref (wAd w 90)]) C hl.1 hP hS (c_X9_isComplaint w l C.2.2.2.2.2.2.2.2 (L := L) hr1) (gV q1036 q1038 qp35 q10 q1039) hd_X9_isComplaint (lt_Model h0_Model) (ob_Model h0_Model w L _) rfl ⟨rfl, rfl⟩ ⟨Nat.le_of_ble_eq_true rfl, Nat.le_of_ble_eq_true rfl⟩ rfl rfl (Nat.le_of_ble_eq_true rfl) dX9_complaint_3 ⟨Nat.zero_le _, Nat.zero_le _⟩) hS (fun H locs hP hS => ?_)
  refine lv_if_ne (tgt := 13) C.1 C.2.1 dX9_complaint_6 (by decide) (fun c2 => ?_) (fun c2 => ?_)
  · have hf := (if_neg c2).symm.trans hf
    refine lv_iload_n C.1 C.2.1 dX9_complaint_13 rfl (lv_at hl 2 rfl) ?_
    refine lv_iconst (v := 0) C.1 C.2.1 dX9_complaint_14 (by decide) ?_
    refine lv_iconst (v := 1) C.1 C.2.1 dX9_complaint_15 (by decide) ?_
    obtain ⟨r3, hr3, hf⟩ := ob hf
    refine kci (kS (As := [.int a2, .int 0, .int 1]) (rest := [.ref (wAd w 90)]) C hl.1 hP hS (c_X9_within w l C.2.2.2.2.2.2.2.2 (L := L) hr3) (gS q963 q964 q10 q965) hd_X9_within ⟨rfl, rfl⟩ ⟨Nat.le_of_ble_eq_true rfl, Nat.le_of_ble_eq_true rfl⟩ rfl rfl (Nat.le_of_ble_eq_true rfl) dX9_complaint_16 ⟨Nat.zero_le _, Nat.zero_le _⟩) hS (fun H locs hP hS => ?_)
    refine lv_if_eq (tgt := 26) C.1 C.2.1 dX9_complaint_19 (by decide) (fun c4 => ?_) (fun c4 => ?_)
    · have hf := (if_pos c4).symm.trans hf
      refine lv_iconst (v := 2) C.1 C.2.1 dX9_complaint_26 (by decide) ?_
      exact w_X9_complaint_j27 C hf _ _ _ hP hS hl
    · have hf := (if_neg c4).symm.trans hf
      refine lv_iconst (v := 0) C.1 C.2.1 dX9_complaint_22 (by decide) ?_
      refine lv_goto (tgt := 27) C.1 C.2.1 dX9_complaint_23 (by decide) ?_
      exact w_X9_complaint_j27 C hf _ _ _ hP hS hl
  · have hf := (if_pos c2).symm.trans hf
    refine lv_iconst (v := 1) C.1 C.2.1 dX9_complaint_9 (by decide) ?_
    refine lv_goto (tgt := 27) C.1 C.2.1 dX9_complaint_10 (by decide) ?_
    exact w_X9_complaint_j27 C hf _ _ _ hP hS hl
theorem dX9_countFrom_0 : decode cX9_countFrom 0 = .ok (.iconst 0, 1) := by decide +kernel
theorem dX9_countFrom_1 : decode cX9_countFrom 1 = .ok (.istore_n 2, 1) := by decide +kernel
theorem dX9_countFrom_2 : decode cX9_countFrom 2 = .ok (.iconst 0, 1) := by decide +kernel
theorem dX9_countFrom_3 : decode cX9_countFrom 3 = .ok (.istore_n 3, 1) := by decide +kernel
theorem dX9_countFrom_4 : decode cX9_countFrom 4 = .ok (.iload_n 3, 1) := by decide +kernel
theorem dX9_countFrom_5 : decode cX9_countFrom 5 = .ok (.aload_n 0, 1) := by decide +kernel
theorem dX9_countFrom_6 : decode cX9_countFrom 6 = .ok (.getfield 80, 3) := by decide +kernel
theorem dX9_countFrom_9 : decode cX9_countFrom 9 = .ok (.if_icmp .ge 49, 3) := by decide +kernel
theorem dX9_countFrom_12 : decode cX9_countFrom 12 = .ok (.iload_n 2, 1) := by decide +kernel
theorem dX9_countFrom_13 : decode cX9_countFrom 13 = .ok (.aload_n 0, 1) := by decide +kernel
theorem dX9_countFrom_14 : decode cX9_countFrom 14 = .ok (.getfield 31, 3) := by decide +kernel
theorem dX9_countFrom_17 : decode cX9_countFrom 17 = .ok (.iload_n 3, 1) := by decide +kernel
theorem dX9_countFrom_18 : decode cX9_countFrom 18 = .ok (.iaload, 1) := by decide +kernel
theorem dX9_countFrom_19 : decode cX9_countFrom 19 = .ok (.ifCond .eq 13, 3) := by decide +kernel
theorem dX9_countFrom_22 : decode cX9_countFrom 22 = .ok (.aload_n 0, 1) := by decide +kernel
theorem dX9_countFrom_23 : decode cX9_countFrom 23 = .ok (.getfield 31, 3) := by decide +kernel
theorem dX9_countFrom_26 : decode cX9_countFrom 26 = .ok (.iload_n 3, 1) := by decide +kernel
theorem dX9_countFrom_27 : decode cX9_countFrom 27 = .ok (.iaload, 1) := by decide +kernel
theorem dX9_countFrom_28 : decode cX9_countFrom 28 = .ok (.iconst 3, 1) := by decide +kernel
theorem dX9_countFrom_29 : decode cX9_countFrom 29 = .ok (.if_icmp .ne 20, 3) := by decide +kernel
theorem dX9_countFrom_32 : decode cX9_countFrom 32 = .ok (.aload_n 0, 1) := by decide +kernel
theorem dX9_countFrom_33 : decode cX9_countFrom 33 = .ok (.getfield 25, 3) := by decide +kernel
theorem dX9_countFrom_36 : decode cX9_countFrom 36 = .ok (.iload_n 3, 1) := by decide +kernel
theorem dX9_countFrom_37 : decode cX9_countFrom 37 = .ok (.iaload, 1) := by decide +kernel
theorem dX9_countFrom_38 : decode cX9_countFrom 38 = .ok (.bipush 10, 2) := by decide +kernel
theorem dX9_countFrom_40 : decode cX9_countFrom 40 = .ok (.iload_n 1, 1) := by decide +kernel
theorem dX9_countFrom_41 : decode cX9_countFrom 41 = .ok (.imul, 1) := by decide +kernel
theorem dX9_countFrom_42 : decode cX9_countFrom 42 = .ok (.if_icmp .lt 7, 3) := by decide +kernel
theorem dX9_countFrom_45 : decode cX9_countFrom 45 = .ok (.iconst 1, 1) := by decide +kernel
theorem dX9_countFrom_46 : decode cX9_countFrom 46 = .ok (.goto 4, 3) := by decide +kernel
theorem dX9_countFrom_49 : decode cX9_countFrom 49 = .ok (.iconst 0, 1) := by decide +kernel
theorem dX9_countFrom_50 : decode cX9_countFrom 50 = .ok (.iadd, 1) := by decide +kernel
theorem dX9_countFrom_51 : decode cX9_countFrom 51 = .ok (.istore_n 2, 1) := by decide +kernel
theorem dX9_countFrom_52 : decode cX9_countFrom 52 = .ok (.iinc 3 1, 3) := by decide +kernel
theorem dX9_countFrom_55 : decode cX9_countFrom 55 = .ok (.goto (-51), 3) := by decide +kernel
theorem dX9_countFrom_58 : decode cX9_countFrom 58 = .ok (.iload_n 2, 1) := by decide +kernel
theorem dX9_countFrom_59 : decode cX9_countFrom 59 = .ok (.ireturn, 1) := by decide +kernel
set_option maxHeartbeats 4000000 in
set_option maxRecDepth 100000 in
theorem w_X9_countFrom_j50 {w : WT} {l : Launch} {p : Program} {e : Env} {s : State} {m : MethodId} {args : Array Value} {below : List Frame} {meth : Method} {c : Code} (C : KC w p s m args meth c cX9_countFrom 4 RX9 (some .int)) {v1 : Int32} {v3 : Int32} {s0 : Int32} {s1 : Int32} {M : Mem} {L : Lng} {Q : State → Prop} {o : (Int32 × Int32) ⊕ (Int32)} (hf : f_X9_countFrom_j50 v1 v3 s0 s1 M = some o) (hA : ∀ z, o = .inl z → AtL w p l e ({ frames := 0, cells := 0, slots := 0, locals := 0 } : Room) s m args below meth c Q 4 4 M L [(0, .ref (wAd w 90)), (1, .int v1), (2, .int z.1), (3, .int z.2)] []) (hE : ∀ y, o = .inr y → AtL w p l e ({ frames := 0, cells := 0, slots := 0, locals := 0 } : Room) s m args below meth c Q 4 58 M L [(2, .int y)] []) : AtL w p l e ({ frames := 0, cells := 0, slots := 0, locals := 0 } : Room) s m args below meth c Q 4 50 M L [(0, .ref (wAd w 90)), (1, .int v1), (3, .int v3)] [.int s1, .int s0] := by
  intro H locs ls hP hS hl
  unfold f_X9_countFrom_j50 at hf
  refine lv_iadd C.1 C.2.1 dX9_countFrom_50 ?_
  refine lv_istore_n (lv' := [(2, .int (s0 + s1)), (0, .ref (wAd w 90)), (1, .int v1), (3, .int v3)]) C.1 C.2.1 dX9_countFrom_51 rfl hl (by decide) rfl (fun ls hl => ?_)
  refine lv_iinc (v := (v3 + 1)) (lv' := [(3, .int (v3 + 1)), (2, .int (s0 + s1)), (0, .ref (wAd w 90)), (1, .int v1)]) C.1 C.2.1 dX9_countFrom_52 hl (k := 3) rfl rfl (by decide) rfl (fun ls hl => ?_)
  refine lv_goto (tgt := 4) C.1 C.2.1 dX9_countFrom_55 (by decide) ?_
  cases hf
  exact hA _ rfl _ _ _ hP hS (lv_sub hl [2, 3, 1, 0] rfl)
set_option maxHeartbeats 4000000 in
set_option maxRecDepth 100000 in
theorem w_X9_countFrom_j49 {w : WT} {l : Launch} {p : Program} {e : Env} {s : State} {m : MethodId} {args : Array Value} {below : List Frame} {meth : Method} {c : Code} (C : KC w p s m args meth c cX9_countFrom 4 RX9 (some .int)) {v1 : Int32} {v3 : Int32} {s0 : Int32} {M : Mem} {L : Lng} {Q : State → Prop} {o : (Int32 × Int32) ⊕ (Int32)} (hf : f_X9_countFrom_j49 v1 v3 s0 M = some o) (hA : ∀ z, o = .inl z → AtL w p l e ({ frames := 0, cells := 0, slots := 0, locals := 0 } : Room) s m args below meth c Q 4 4 M L [(0, .ref (wAd w 90)), (1, .int v1), (2, .int z.1), (3, .int z.2)] []) (hE : ∀ y, o = .inr y → AtL w p l e ({ frames := 0, cells := 0, slots := 0, locals := 0 } : Room) s m args below meth c Q 4 58 M L [(2, .int y)] []) : AtL w p l e ({ frames := 0, cells := 0, slots := 0, locals := 0 } : Room) s m args below meth c Q 4 49 M L [(0, .ref (wAd w 90)), (1, .int v1), (3, .int v3)] [.int s0] := by
  intro H locs ls hP hS hl
  unfold f_X9_countFrom_j49 at hf
  refine lv_iconst (v := 0) C.1 C.2.1 dX9_countFrom_49 (by decide) ?_
  exact w_X9_countFrom_j50 C hf hA hE _ _ _ hP hS hl
set_option maxHeartbeats 4000000 in
set_option maxRecDepth 100000 in
theorem w_X9_countFrom_j32 {w : WT} {l : Launch} {p : Program} {e : Env} {s : State} {m : MethodId} {args : Array Value} {below : List Frame} {meth : Method} {c : Code} (C : KC w p s m args meth c cX9_countFrom 4 RX9 (some .int)) {v1 : Int32} {v3 : Int32} {s0 : Int32} {M : Mem} {L : Lng} {Q : State → Prop} {o : (Int32 × Int32) ⊕ (Int32)} (hf : f_X9_countFrom_j32 v1 v3 s0 M = some o) (hA : ∀ z, o = .inl z → AtL w p l e ({ frames := 0, cells := 0, slots := 0, locals := 0 } : Room) s m args below meth c Q 4 4 M L [(0, .ref (wAd w 90)), (1, .int v1), (2, .int z.1), (3, .int z.2)] []) (hE : ∀ y, o = .inr y → AtL w p l e ({ frames := 0, cells := 0, slots := 0, locals := 0 } : Room) s m args below meth c Q 4 58 M L [(2, .int y)] []) : AtL w p l e ({ frames := 0, cells := 0, slots := 0, locals := 0 } : Room) s m args below meth c Q 4 32 M L [(0, .ref (wAd w 90)), (1, .int v1), (3, .int v3)] [.int s0] := by
  intro H locs ls hP hS hl
  unfold f_X9_countFrom_j32 at hf
  refine lv_aload_n C.1 C.2.1 dX9_countFrom_32 rfl (lv_at hl 0 rfl) ?_
  refine k_get (v := .ref (wAd w 96)) C hP (lt_Model h0_Model) (ob_Model h0_Model w L _) rfl iX9 9 (by decide) q872 rfl dX9_countFrom_33 ?_
  refine lv_iload_n C.1 C.2.1 dX9_countFrom_36 rfl (lv_at hl 2 rfl) ?_
  obtain ⟨x4, hx4, hf⟩ := ob hf
  refine k_iald C hP (la_Model_fast h0_Model) (ar_Model_fast h0_Model w L _) hx4 dX9_countFrom_37 ?_
  refine lv_bipush (v := 10) C.1 C.2.1 dX9_countFrom_38 (by decide) ?_
  refine lv_iload_n C.1 C.2.1 dX9_countFrom_40 rfl (lv_at hl 1 rfl) ?_
  refine lv_imul C.1 C.2.1 dX9_countFrom_41 ?_
  refine lv_icmp_lt (tgt := 49) C.1 C.2.1 dX9_countFrom_42 (by decide) (fun c5 => ?_) (fun c5 => ?_)
  · have hf := (if_pos c5).symm.trans hf
    exact w_X9_countFrom_j49 C hf hA hE _ _ _ hP hS hl
  · have hf := (if_neg c5).symm.trans hf
    refine lv_iconst (v := 1) C.1 C.2.1 dX9_countFrom_45 (by decide) ?_
    refine lv_goto (tgt := 50) C.1 C.2.1 dX9_countFrom_46 (by decide) ?_
    exact w_X9_countFrom_j50 C hf hA hE _ _ _ hP hS hl
set_option maxHeartbeats 4000000 in
set_option maxRecDepth 100000 in
theorem w_X9_countFrom_l4 {w : WT} {l : Launch} {p : Program} {e : Env} {s : State} {m : MethodId} {args : Array Value} {below : List Frame} {meth : Method} {c : Code} (C : KC w p s m args meth c cX9_countFrom 4 RX9 (some .int)) {v1 : Int32} {M : Mem} {L : Lng} {Q : State → Prop} (z : Int32 × Int32) (o : (Int32 × Int32) ⊕ (Int32)) (hf : f_X9_countFrom_l4 v1 M z = some o) (hA : ∀ z, o = .inl z → AtL w p l e ({ frames := 0, cells := 0, slots := 0, locals := 0 } : Room) s m args below meth c Q 4 4 M L [(0, .ref (wAd w 90)), (1, .int v1), (2, .int z.1), (3, .int z.2)] []) (hE : ∀ y, o = .inr y → AtL w p l e ({ frames := 0, cells := 0, slots := 0, locals := 0 } : Room) s m args below meth c Q 4 58 M L [(2, .int y)] []) : AtL w p l e ({ frames := 0, cells := 0, slots := 0, locals := 0 } : Room) s m args below meth c Q 4 4 M L [(0, .ref (wAd w 90)), (1, .int v1), (2, .int z.1), (3, .int z.2)] [] := by
  intro H locs ls hP hS hl
  unfold f_X9_countFrom_l4 at hf
  refine lv_iload_n C.1 C.2.1 dX9_countFrom_4 rfl (lv_at hl 3 rfl) ?_
  refine lv_aload_n C.1 C.2.1 dX9_countFrom_5 rfl (lv_at hl 0 rfl) ?_
  refine k_get (v := .int (M 90 6)) C hP (lt_Model h0_Model) (ob_Model h0_Model w L _) rfl iX9 6 (by decide) q869 rfl dX9_countFrom_6 ?_
  refine lv_icmp_ge (tgt := 58) C.1 C.2.1 dX9_countFrom_9 (by decide) (fun c1 => ?_) (fun c1 => ?_)
  · have hf := (if_pos c1).symm.trans hf
    cases hf
    exact hE _ rfl _ _ _ hP hS (lv_sub hl [2] rfl)
  · have hf := (if_neg c1).symm.trans hf
    refine lv_iload_n C.1 C.2.1 dX9_countFrom_12 rfl (lv_at hl 2 rfl) ?_
    refine lv_aload_n C.1 C.2.1 dX9_countFrom_13 rfl (lv_at hl 0 rfl) ?_
    refine k_get (v := .ref (wAd w 98)) C hP (lt_Model h0_Model) (ob_Model h0_Model w L _) rfl iX9 11 (by decide) q874 rfl dX9_countFrom_14 ?_
    refine lv_iload_n C.1 C.2.1 dX9_countFrom_17 rfl (lv_at hl 3 rfl) ?_
    obtain ⟨x2, hx2, hf⟩ := ob hf
    refine k_iald C hP (la_Model_why h0_Model) (ar_Model_why h0_Model w L _) hx2 dX9_countFrom_18 ?_
    refine lv_if_eq (tgt := 32) C.1 C.2.1 dX9_countFrom_19 (by decide) (fun c3 => ?_) (fun c3 => ?_)
    · have hf := (if_pos c3).symm.trans hf
      exact w_X9_countFrom_j32 C hf hA hE _ _ _ hP hS (lv_sub hl [0, 1, 3] rfl)
    · have hf := (if_neg c3).symm.trans hf
      refine lv_aload_n C.1 C.2.1 dX9_countFrom_22 rfl (lv_at hl 0 rfl) ?_
      refine k_get (v := .ref (wAd w 98)) C hP (lt_Model h0_Model) (ob_Model h0_Model w L _) rfl iX9 11 (by decide) q874 rfl dX9_countFrom_23 ?_
      refine lv_iload_n C.1 C.2.1 dX9_countFrom_26 rfl (lv_at hl 3 rfl) ?_
      obtain ⟨x6, hx6, hf⟩ := ob hf
      refine k_iald C hP (la_Model_why h0_Model) (ar_Model_why h0_Model w L _) hx6 dX9_countFrom_27 ?_
      refine lv_iconst (v := 3) C.1 C.2.1 dX9_countFrom_28 (by decide) ?_
      refine lv_icmp_ne (tgt := 49) C.1 C.2.1 dX9_countFrom_29 (by decide) (fun c7 => ?_) (fun c7 => ?_)
      · have hf := (if_neg c7).symm.trans hf
        exact w_X9_countFrom_j49 C hf hA hE _ _ _ hP hS (lv_sub hl [0, 1, 3] rfl)
      · have hf := (if_pos c7).symm.trans hf
        exact w_X9_countFrom_j32 C hf hA hE _ _ _ hP hS (lv_sub hl [0, 1, 3] rfl)
set_option maxHeartbeats 4000000 in
set_option maxRecDepth 100000 in
theorem c_X9_countFrom (w : WT) (l : Launch) (hw : WOK w) {a1 : Int32} {M : Mem} {L : Lng} {out : Int32} (hf : f_X9_countFrom a1 M = some out) : Met l yX9_countFrom (Cond.code yX9_countFrom cX9_countFrom 4 (some .int) :: BG) ({ frames := 0, cells := 0, slots := 0, locals := 0 } : Room) (PRE w [.ref (wAd w 90), .int a1] M L) (QI w out M L) 0 0 (wA w) := by
  refine kEnt hw (by decide +kernel) rfl (Nat.le_of_ble_eq_true rfl) ?_
  intro p e s m args below meth c C ls hl hP
  have hS : va_S (wA w) s.heap s.heap [] := va_S.rf
  have hl : lv_has ls 4 [(0, .ref (wAd w 90)), (1, .int a1)] := hl
  unfold f_X9_countFrom at hf
  refine lv_iconst (v := 0) C.1 C.2.1 dX9_countFrom_0 (by decide) ?_
  refine lv_istore_n (lv' := [(2, .int 0), (0, .ref (wAd w 90)), (1, .int a1)]) C.1 C.2.1 dX9_countFrom_1 rfl hl (by decide) rfl (fun ls hl => ?_)
  refine lv_iconst (v := 0) C.1 C.2.1 dX9_countFrom_2 (by decide) ?_
  refine lv_istore_n (lv' := [(3, .int 0), (2, .int 0), (0, .ref (wAd w 90)), (1, .int a1)]) C.1 C.2.1 dX9_countFrom_3 rfl hl (by decide) rfl (fun ls hl => ?_)
  obtain ⟨o8, ho8, hf⟩ := ob hf
  refine loop_at (w_X9_countFrom_l4 C) FU _ o8 ho8 ?_ _ _ _ hP hS (lv_sub hl [2, 3, 1, 0] rfl)
  intro H locs ls hP hS hl
  refine lv_iload_n C.1 C.2.1 dX9_countFrom_58 rfl (lv_at hl 0 rfl) ?_
  cases hf
  exact kri C hP hS dX9_countFrom_59
