theorem dL_value_0 : decode cL_value 0 = .ok (.iload_n 0, 1) := by decide +kernel
theorem dL_value_1 : decode cL_value 1 = .ok (.iconst 2, 1) := by decide +kernel
theorem dL_value_2 : decode cL_value 2 = .ok (.if_icmp .ge 29, 3) := by decide +kernel
theorem dL_value_5 : decode cL_value 5 = .ok (.iload_n 1, 1) := by decide +kernel
theorem dL_value_6 : decode cL_value 6 = .ok (.iload_n 1, 1) := by decide +kernel
theorem dL_value_7 : decode cL_value 7 = .ok (.bipush 9, 2) := by decide +kernel
theorem dL_value_9 : decode cL_value 9 = .ok (.ishr, 1) := by decide +kernel
theorem dL_value_10 : decode cL_value 10 = .ok (.iconst 3, 1) := by decide +kernel
theorem dL_value_11 : decode cL_value 11 = .ok (.invokestatic 59, 3) := by decide +kernel
theorem dL_value_14 : decode cL_value 14 = .ok (.ifCond .ne 9, 3) := by decide +kernel
theorem dL_value_17 : decode cL_value 17 = .ok (.sipush 141, 3) := by decide +kernel
theorem dL_value_20 : decode cL_value 20 = .ok (.goto 5, 3) := by decide +kernel
theorem dL_value_23 : decode cL_value 23 = .ok (.bipush 60, 2) := by decide +kernel
theorem dL_value_25 : decode cL_value 25 = .ok (.invokestatic 59, 3) := by decide +kernel
theorem dL_value_28 : decode cL_value 28 = .ok (.goto 98, 3) := by decide +kernel
theorem dL_value_31 : decode cL_value 31 = .ok (.iload_n 0, 1) := by decide +kernel
theorem dL_value_32 : decode cL_value 32 = .ok (.iconst 2, 1) := by decide +kernel
theorem dL_value_33 : decode cL_value 33 = .ok (.if_icmp .ne 12, 3) := by decide +kernel
theorem dL_value_36 : decode cL_value 36 = .ok (.iload_n 1, 1) := by decide +kernel
theorem dL_value_37 : decode cL_value 37 = .ok (.bipush 60, 2) := by decide +kernel
theorem dL_value_39 : decode cL_value 39 = .ok (.invokestatic 59, 3) := by decide +kernel
theorem dL_value_42 : decode cL_value 42 = .ok (.goto 84, 3) := by decide +kernel
theorem dL_value_45 : decode cL_value 45 = .ok (.iload_n 0, 1) := by decide +kernel
theorem dL_value_46 : decode cL_value 46 = .ok (.iconst 3, 1) := by decide +kernel
theorem dL_value_47 : decode cL_value 47 = .ok (.if_icmp .eq 9, 3) := by decide +kernel
theorem dL_value_50 : decode cL_value 50 = .ok (.iload_n 0, 1) := by decide +kernel
theorem dL_value_51 : decode cL_value 51 = .ok (.bipush 7, 2) := by decide +kernel
theorem dL_value_53 : decode cL_value 53 = .ok (.if_icmp .ne 12, 3) := by decide +kernel
theorem dL_value_56 : decode cL_value 56 = .ok (.iload_n 1, 1) := by decide +kernel
theorem dL_value_57 : decode cL_value 57 = .ok (.bipush 61, 2) := by decide +kernel
theorem dL_value_59 : decode cL_value 59 = .ok (.invokestatic 59, 3) := by decide +kernel
theorem dL_value_62 : decode cL_value 62 = .ok (.goto 64, 3) := by decide +kernel
theorem dL_value_65 : decode cL_value 65 = .ok (.iload_n 0, 1) := by decide +kernel
theorem dL_value_66 : decode cL_value 66 = .ok (.iconst 4, 1) := by decide +kernel
theorem dL_value_67 : decode cL_value 67 = .ok (.if_icmp .ne 14, 3) := by decide +kernel
theorem dL_value_70 : decode cL_value 70 = .ok (.iconst 1, 1) := by decide +kernel
theorem dL_value_71 : decode cL_value 71 = .ok (.iload_n 1, 1) := by decide +kernel
theorem dL_value_72 : decode cL_value 72 = .ok (.bipush 41, 2) := by decide +kernel
theorem dL_value_74 : decode cL_value 74 = .ok (.invokestatic 59, 3) := by decide +kernel
theorem dL_value_77 : decode cL_value 77 = .ok (.iadd, 1) := by decide +kernel
theorem dL_value_78 : decode cL_value 78 = .ok (.goto 48, 3) := by decide +kernel
theorem dL_value_81 : decode cL_value 81 = .ok (.iload_n 0, 1) := by decide +kernel
theorem dL_value_82 : decode cL_value 82 = .ok (.iconst 5, 1) := by decide +kernel
theorem dL_value_83 : decode cL_value 83 = .ok (.if_icmp .ne 12, 3) := by decide +kernel
theorem dL_value_86 : decode cL_value 86 = .ok (.iload_n 1, 1) := by decide +kernel
theorem dL_value_87 : decode cL_value 87 = .ok (.bipush 21, 2) := by decide +kernel
theorem dL_value_89 : decode cL_value 89 = .ok (.invokestatic 59, 3) := by decide +kernel
theorem dL_value_92 : decode cL_value 92 = .ok (.goto 34, 3) := by decide +kernel
theorem dL_value_95 : decode cL_value 95 = .ok (.iload_n 0, 1) := by decide +kernel
theorem dL_value_96 : decode cL_value 96 = .ok (.bipush 6, 2) := by decide +kernel
theorem dL_value_98 : decode cL_value 98 = .ok (.if_icmp .eq 9, 3) := by decide +kernel
theorem dL_value_101 : decode cL_value 101 = .ok (.iload_n 0, 1) := by decide +kernel
theorem dL_value_102 : decode cL_value 102 = .ok (.bipush 8, 2) := by decide +kernel
theorem dL_value_104 : decode cL_value 104 = .ok (.if_icmp .ne 14, 3) := by decide +kernel
theorem dL_value_107 : decode cL_value 107 = .ok (.iconst 1, 1) := by decide +kernel
theorem dL_value_108 : decode cL_value 108 = .ok (.iload_n 1, 1) := by decide +kernel
theorem dL_value_109 : decode cL_value 109 = .ok (.bipush 20, 2) := by decide +kernel
theorem dL_value_111 : decode cL_value 111 = .ok (.invokestatic 59, 3) := by decide +kernel
theorem dL_value_114 : decode cL_value 114 = .ok (.iadd, 1) := by decide +kernel
theorem dL_value_115 : decode cL_value 115 = .ok (.goto 11, 3) := by decide +kernel
theorem dL_value_118 : decode cL_value 118 = .ok (.iconst 1, 1) := by decide +kernel
theorem dL_value_119 : decode cL_value 119 = .ok (.iload_n 1, 1) := by decide +kernel
theorem dL_value_120 : decode cL_value 120 = .ok (.bipush 50, 2) := by decide +kernel
theorem dL_value_122 : decode cL_value 122 = .ok (.invokestatic 59, 3) := by decide +kernel
theorem dL_value_125 : decode cL_value 125 = .ok (.iadd, 1) := by decide +kernel
theorem dL_value_126 : decode cL_value 126 = .ok (.ireturn, 1) := by decide +kernel
set_option maxHeartbeats 4000000 in
set_option maxRecDepth 100000 in
theorem w_L_value_j56 {w : WT} {l : Launch} {p : Program} {e : Env} {s : State} {m : MethodId} {args : Array Value} {below : List Frame} {meth : Method} {c : Code} (C : KC w p s m args meth c cL_value 2 RL (some .int)) {v1 : Int32} {M : Mem} {L : Lng} {out : Int32} (hf : f_L_value_j56 v1 M = some out) : AtL w p l e ({ frames := 1, cells := 0, slots := 0, locals := 21 } : Room) s m args below meth c (MQ below (QI w out M L) args s 0 0 (wA w)) 2 56 M L [(1, .int v1)] [] := by
  intro H locs ls hP hS hl
  unfold f_L_value_j56 at hf
  refine lv_iload_n C.1 C.2.1 dL_value_56 rfl (lv_at hl 0 rfl) ?_
  refine lv_bipush (v := 61) C.1 C.2.1 dL_value_57 (by decide) ?_
  obtain ⟨r4, hr4, hf⟩ := ob hf
  refine kci (kS (As := [.int v1, .int 61]) (rest := []) C hl.1 hP hS (c_L_at w l C.2.2.2.2.2.2.2.2 (L := L) hr4) (gS q384 q385 q0 q386) hd_L_at ⟨rfl, rfl⟩ ⟨Nat.le_of_ble_eq_true rfl, Nat.le_of_ble_eq_true rfl⟩ rfl rfl (Nat.le_of_ble_eq_true rfl) dL_value_59 ⟨Nat.zero_le _, Nat.zero_le _⟩) hS (fun H locs hP hS => ?_)
  refine lv_goto (tgt := 126) C.1 C.2.1 dL_value_62 (by decide) ?_
  cases hf
  exact kri C hP hS dL_value_126
set_option maxHeartbeats 4000000 in
set_option maxRecDepth 100000 in
theorem w_L_value_j107 {w : WT} {l : Launch} {p : Program} {e : Env} {s : State} {m : MethodId} {args : Array Value} {below : List Frame} {meth : Method} {c : Code} (C : KC w p s m args meth c cL_value 2 RL (some .int)) {v1 : Int32} {M : Mem} {L : Lng} {out : Int32} (hf : f_L_value_j107 v1 M = some out) : AtL w p l e ({ frames := 1, cells := 0, slots := 0, locals := 21 } : Room) s m args below meth c (MQ below (QI w out M L) args s 0 0 (wA w)) 2 107 M L [(1, .int v1)] [] := by
  intro H locs ls hP hS hl
  unfold f_L_value_j107 at hf
  refine lv_iconst (v := 1) C.1 C.2.1 dL_value_107 (by decide) ?_
  refine lv_iload_n C.1 C.2.1 dL_value_108 rfl (lv_at hl 0 rfl) ?_
  refine lv_bipush (v := 20) C.1 C.2.1 dL_value_109 (by decide) ?_
  obtain ⟨r9, hr9, hf⟩ := ob hf
  refine kci (kS (As := [.int v1, .int 20]) (rest := [.int 1]) C hl.1 hP hS (c_L_at w l C.2.2.2.2.2.2.2.2 (L := L) hr9) (gS q384 q385 q0 q386) hd_L_at ⟨rfl, rfl⟩ ⟨Nat.le_of_ble_eq_true rfl, Nat.le_of_ble_eq_true rfl⟩ rfl rfl (Nat.le_of_ble_eq_true rfl) dL_value_111 ⟨Nat.zero_le _, Nat.zero_le _⟩) hS (fun H locs hP hS => ?_)
  refine lv_iadd C.1 C.2.1 dL_value_114 ?_
  refine lv_goto (tgt := 126) C.1 C.2.1 dL_value_115 (by decide) ?_
  cases hf
  exact kri C hP hS dL_value_126
set_option maxHeartbeats 4000000 in
set_option maxRecDepth 100000 in
theorem w_L_value_j25 {w : WT} {l : Launch} {p : Program} {e : Env} {s : State} {m : MethodId} {args : Array Value} {below : List Frame} {meth : Method} {c : Code} (C : KC w p s m args meth c cL_value 2 RL (some .int)) {s0 : Int32} {s1 : Int32} {M : Mem} {L : Lng} {out : Int32} (hf : f_L_value_j25 s0 s1 M = some out) : AtL w p l e ({ frames := 1, cells := 0, slots := 0, locals := 21 } : Room) s m args below meth c (MQ below (QI w out M L) args s 0 0 (wA w)) 2 25 M L [] [.int s1, .int s0] := by
  intro H locs ls hP hS hl
  unfold f_L_value_j25 at hf
  obtain ⟨r17, hr17, hf⟩ := ob hf
  refine kci (kS (As := [.int s0, .int s1]) (rest := []) C hl.1 hP hS (c_L_at w l C.2.2.2.2.2.2.2.2 (L := L) hr17) (gS q384 q385 q0 q386) hd_L_at ⟨rfl, rfl⟩ ⟨Nat.le_of_ble_eq_true rfl, Nat.le_of_ble_eq_true rfl⟩ rfl rfl (Nat.le_of_ble_eq_true rfl) dL_value_25 ⟨Nat.zero_le _, Nat.zero_le _⟩) hS (fun H locs hP hS => ?_)
  refine lv_goto (tgt := 126) C.1 C.2.1 dL_value_28 (by decide) ?_
  cases hf
  exact kri C hP hS dL_value_126
set_option maxHeartbeats 4000000 in
set_option maxRecDepth 100000 in
theorem c_L_value (w : WT) (l : Launch) (hw : WOK w) {a0 : Int32} {a1 : Int32} {M : Mem} {L : Lng} {out : Int32} (hf : f_L_value a0 a1 M = some out) : Met l yL_value (Cond.code yL_value cL_value 2 (some .int) :: BG) ({ frames := 1, cells := 0, slots := 0, locals := 21 } : Room) (PRE w [.int a0, .int a1] M L) (QI w out M L) 0 0 (wA w) := by
  refine kEnt hw (by decide +kernel) rfl (Nat.le_of_ble_eq_true rfl) ?_
  intro p e s m args below meth c C ls hl hP
  have hS : va_S (wA w) s.heap s.heap [] := va_S.rf
  have hl : lv_has ls 2 [(0, .int a0), (1, .int a1)] := hl
  unfold f_L_value at hf
  refine lv_iload_n C.1 C.2.1 dL_value_0 rfl (lv_at hl 0 rfl) ?_
  refine lv_iconst (v := 2) C.1 C.2.1 dL_value_1 (by decide) ?_
  refine lv_icmp_ge (tgt := 31) C.1 C.2.1 dL_value_2 (by decide) (fun c1 => ?_) (fun c1 => ?_)
  · have hf := (if_pos c1).symm.trans hf
    refine lv_iload_n C.1 C.2.1 dL_value_31 rfl (lv_at hl 0 rfl) ?_
    refine lv_iconst (v := 2) C.1 C.2.1 dL_value_32 (by decide) ?_
    refine lv_icmp_ne (tgt := 45) C.1 C.2.1 dL_value_33 (by decide) (fun c2 => ?_) (fun c2 => ?_)
    · have hf := (if_neg c2).symm.trans hf
      refine lv_iload_n C.1 C.2.1 dL_value_45 rfl (lv_at hl 0 rfl) ?_
      refine lv_iconst (v := 3) C.1 C.2.1 dL_value_46 (by decide) ?_
      refine lv_icmp_eq (tgt := 56) C.1 C.2.1 dL_value_47 (by decide) (fun c3 => ?_) (fun c3 => ?_)
      · have hf := (if_pos c3).symm.trans hf
        exact w_L_value_j56 C hf _ _ _ hP hS (lv_sub hl [1] rfl)
      · have hf := (if_neg c3).symm.trans hf
        refine lv_iload_n C.1 C.2.1 dL_value_50 rfl (lv_at hl 0 rfl) ?_
        refine lv_bipush (v := 7) C.1 C.2.1 dL_value_51 (by decide) ?_
        refine lv_icmp_ne (tgt := 65) C.1 C.2.1 dL_value_53 (by decide) (fun c5 => ?_) (fun c5 => ?_)
        · have hf := (if_neg c5).symm.trans hf
          refine lv_iload_n C.1 C.2.1 dL_value_65 rfl (lv_at hl 0 rfl) ?_
          refine lv_iconst (v := 4) C.1 C.2.1 dL_value_66 (by decide) ?_
          refine lv_icmp_ne (tgt := 81) C.1 C.2.1 dL_value_67 (by decide) (fun c6 => ?_) (fun c6 => ?_)
          · have hf := (if_neg c6).symm.trans hf
            refine lv_iload_n C.1 C.2.1 dL_value_81 rfl (lv_at hl 0 rfl) ?_
            refine lv_iconst (v := 5) C.1 C.2.1 dL_value_82 (by decide) ?_
            refine lv_icmp_ne (tgt := 95) C.1 C.2.1 dL_value_83 (by decide) (fun c7 => ?_) (fun c7 => ?_)
            · have hf := (if_neg c7).symm.trans hf
              refine lv_iload_n C.1 C.2.1 dL_value_95 rfl (lv_at hl 0 rfl) ?_
              refine lv_bipush (v := 6) C.1 C.2.1 dL_value_96 (by decide) ?_
              refine lv_icmp_eq (tgt := 107) C.1 C.2.1 dL_value_98 (by decide) (fun c8 => ?_) (fun c8 => ?_)
              · have hf := (if_pos c8).symm.trans hf
                exact w_L_value_j107 C hf _ _ _ hP hS (lv_sub hl [1] rfl)
              · have hf := (if_neg c8).symm.trans hf
                refine lv_iload_n C.1 C.2.1 dL_value_101 rfl (lv_at hl 0 rfl) ?_
                refine lv_bipush (v := 8) C.1 C.2.1 dL_value_102 (by decide) ?_
                refine lv_icmp_ne (tgt := 118) C.1 C.2.1 dL_value_104 (by decide) (fun c10 => ?_) (fun c10 => ?_)
                · have hf := (if_neg c10).symm.trans hf
                  refine lv_iconst (v := 1) C.1 C.2.1 dL_value_118 (by decide) ?_
                  refine lv_iload_n C.1 C.2.1 dL_value_119 rfl (lv_at hl 1 rfl) ?_
                  refine lv_bipush (v := 50) C.1 C.2.1 dL_value_120 (by decide) ?_
                  obtain ⟨r11, hr11, hf⟩ := ob hf
                  refine kci (kS (As := [.int a1, .int 50]) (rest := [.int 1]) C hl.1 hP hS (c_L_at w l C.2.2.2.2.2.2.2.2 (L := L) hr11) (gS q384 q385 q0 q386) hd_L_at ⟨rfl, rfl⟩ ⟨Nat.le_of_ble_eq_true rfl, Nat.le_of_ble_eq_true rfl⟩ rfl rfl (Nat.le_of_ble_eq_true rfl) dL_value_122 ⟨Nat.zero_le _, Nat.zero_le _⟩) hS (fun H locs hP hS => ?_)
                  refine lv_iadd C.1 C.2.1 dL_value_125 ?_
                  cases hf
                  exact kri C hP hS dL_value_126
                · have hf := (if_pos c10).symm.trans hf
                  exact w_L_value_j107 C hf _ _ _ hP hS (lv_sub hl [1] rfl)
            · have hf := (if_pos c7).symm.trans hf
              refine lv_iload_n C.1 C.2.1 dL_value_86 rfl (lv_at hl 1 rfl) ?_
              refine lv_bipush (v := 21) C.1 C.2.1 dL_value_87 (by decide) ?_
              obtain ⟨r12, hr12, hf⟩ := ob hf
              refine kci (kS (As := [.int a1, .int 21]) (rest := []) C hl.1 hP hS (c_L_at w l C.2.2.2.2.2.2.2.2 (L := L) hr12) (gS q384 q385 q0 q386) hd_L_at ⟨rfl, rfl⟩ ⟨Nat.le_of_ble_eq_true rfl, Nat.le_of_ble_eq_true rfl⟩ rfl rfl (Nat.le_of_ble_eq_true rfl) dL_value_89 ⟨Nat.zero_le _, Nat.zero_le _⟩) hS (fun H locs hP hS => ?_)
              refine lv_goto (tgt := 126) C.1 C.2.1 dL_value_92 (by decide) ?_
              cases hf
              exact kri C hP hS dL_value_126
          · have hf := (if_pos c6).symm.trans hf
            refine lv_iconst (v := 1) C.1 C.2.1 dL_value_70 (by decide) ?_
            refine lv_iload_n C.1 C.2.1 dL_value_71 rfl (lv_at hl 1 rfl) ?_
            refine lv_bipush (v := 41) C.1 C.2.1 dL_value_72 (by decide) ?_
            obtain ⟨r13, hr13, hf⟩ := ob hf
            refine kci (kS (As := [.int a1, .int 41]) (rest := [.int 1]) C hl.1 hP hS (c_L_at w l C.2.2.2.2.2.2.2.2 (L := L) hr13) (gS q384 q385 q0 q386) hd_L_at ⟨rfl, rfl⟩ ⟨Nat.le_of_ble_eq_true rfl, Nat.le_of_ble_eq_true rfl⟩ rfl rfl (Nat.le_of_ble_eq_true rfl) dL_value_74 ⟨Nat.zero_le _, Nat.zero_le _⟩) hS (fun H locs hP hS => ?_)
            refine lv_iadd C.1 C.2.1 dL_value_77 ?_
            refine lv_goto (tgt := 126) C.1 C.2.1 dL_value_78 (by decide) ?_
            cases hf
            exact kri C hP hS dL_value_126
        · have hf := (if_pos c5).symm.trans hf
          exact w_L_value_j56 C hf _ _ _ hP hS (lv_sub hl [1] rfl)
    · have hf := (if_pos c2).symm.trans hf
      refine lv_iload_n C.1 C.2.1 dL_value_36 rfl (lv_at hl 1 rfl) ?_
      refine lv_bipush (v := 60) C.1 C.2.1 dL_value_37 (by decide) ?_
      obtain ⟨r14, hr14, hf⟩ := ob hf
      refine kci (kS (As := [.int a1, .int 60]) (rest := []) C hl.1 hP hS (c_L_at w l C.2.2.2.2.2.2.2.2 (L := L) hr14) (gS q384 q385 q0 q386) hd_L_at ⟨rfl, rfl⟩ ⟨Nat.le_of_ble_eq_true rfl, Nat.le_of_ble_eq_true rfl⟩ rfl rfl (Nat.le_of_ble_eq_true rfl) dL_value_39 ⟨Nat.zero_le _, Nat.zero_le _⟩) hS (fun H locs hP hS => ?_)
      refine lv_goto (tgt := 126) C.1 C.2.1 dL_value_42 (by decide) ?_
      cases hf
      exact kri C hP hS dL_value_126
  · have hf := (if_neg c1).symm.trans hf
    refine lv_iload_n C.1 C.2.1 dL_value_5 rfl (lv_at hl 1 rfl) ?_
    refine lv_iload_n C.1 C.2.1 dL_value_6 rfl (lv_at hl 1 rfl) ?_
    refine lv_bipush (v := 9) C.1 C.2.1 dL_value_7 (by decide) ?_
    refine lv_ishr C.1 C.2.1 dL_value_9 ?_
    refine lv_iconst (v := 3) C.1 C.2.1 dL_value_10 (by decide) ?_
    obtain ⟨r15, hr15, hf⟩ := ob hf
    refine kci (kS (As := [.int (a1 >>> (9 &&& 31)), .int 3]) (rest := [.int a1]) C hl.1 hP hS (c_L_at w l C.2.2.2.2.2.2.2.2 (L := L) hr15) (gS q384 q385 q0 q386) hd_L_at ⟨rfl, rfl⟩ ⟨Nat.le_of_ble_eq_true rfl, Nat.le_of_ble_eq_true rfl⟩ rfl rfl (Nat.le_of_ble_eq_true rfl) dL_value_11 ⟨Nat.zero_le _, Nat.zero_le _⟩) hS (fun H locs hP hS => ?_)
    refine lv_if_ne (tgt := 23) C.1 C.2.1 dL_value_14 (by decide) (fun c16 => ?_) (fun c16 => ?_)
    · have hf := (if_neg c16).symm.trans hf
      refine lv_bipush (v := 60) C.1 C.2.1 dL_value_23 (by decide) ?_
      exact w_L_value_j25 C hf _ _ _ hP hS (lv_sub hl [] rfl)
    · have hf := (if_pos c16).symm.trans hf
      refine lv_sipush (v := 141) C.1 C.2.1 dL_value_17 (by decide) ?_
      refine lv_goto (tgt := 25) C.1 C.2.1 dL_value_20 (by decide) ?_
      exact w_L_value_j25 C hf _ _ _ hP hS (lv_sub hl [] rfl)
theorem dL_told_0 : decode cL_told 0 = .ok (.bipush 60, 2) := by decide +kernel
theorem dL_told_2 : decode cL_told 2 = .ok (.newarray .int, 2) := by decide +kernel
theorem dL_told_4 : decode cL_told 4 = .ok (.astore 7, 2) := by decide +kernel
theorem dL_told_6 : decode cL_told 6 = .ok (.bipush 60, 2) := by decide +kernel
theorem dL_told_8 : decode cL_told 8 = .ok (.newarray .int, 2) := by decide +kernel
theorem dL_told_10 : decode cL_told 10 = .ok (.astore 8, 2) := by decide +kernel
theorem dL_told_12 : decode cL_told 12 = .ok (.bipush 60, 2) := by decide +kernel
theorem dL_told_14 : decode cL_told 14 = .ok (.newarray .int, 2) := by decide +kernel
theorem dL_told_16 : decode cL_told 16 = .ok (.astore 9, 2) := by decide +kernel
theorem dL_told_18 : decode cL_told 18 = .ok (.bipush 60, 2) := by decide +kernel
theorem dL_told_20 : decode cL_told 20 = .ok (.newarray .int, 2) := by decide +kernel
theorem dL_told_22 : decode cL_told 22 = .ok (.astore 10, 2) := by decide +kernel
theorem dL_told_24 : decode cL_told 24 = .ok (.bipush 6, 2) := by decide +kernel
theorem dL_told_26 : decode cL_told 26 = .ok (.newarray .int, 2) := by decide +kernel
theorem dL_told_28 : decode cL_told 28 = .ok (.astore 11, 2) := by decide +kernel
theorem dL_told_30 : decode cL_told 30 = .ok (.aload_n 2, 1) := by decide +kernel
theorem dL_told_31 : decode cL_told 31 = .ok (.aload_n 3, 1) := by decide +kernel
theorem dL_told_32 : decode cL_told 32 = .ok (.aload 5, 2) := by decide +kernel
theorem dL_told_34 : decode cL_told 34 = .ok (.aload 6, 2) := by decide +kernel
theorem dL_told_36 : decode cL_told 36 = .ok (.aload 7, 2) := by decide +kernel
theorem dL_told_38 : decode cL_told 38 = .ok (.aload 8, 2) := by decide +kernel
theorem dL_told_40 : decode cL_told 40 = .ok (.aload 9, 2) := by decide +kernel
theorem dL_told_42 : decode cL_told 42 = .ok (.aload 10, 2) := by decide +kernel
theorem dL_told_44 : decode cL_told 44 = .ok (.invokestatic 33, 3) := by decide +kernel
theorem dL_told_47 : decode cL_told 47 = .ok (.aload 4, 2) := by decide +kernel
theorem dL_told_49 : decode cL_told 49 = .ok (.aload 11, 2) := by decide +kernel
theorem dL_told_51 : decode cL_told 51 = .ok (.aload 5, 2) := by decide +kernel
theorem dL_told_53 : decode cL_told 53 = .ok (.aload 6, 2) := by decide +kernel
theorem dL_told_55 : decode cL_told 55 = .ok (.aload 7, 2) := by decide +kernel
theorem dL_told_57 : decode cL_told 57 = .ok (.aload 8, 2) := by decide +kernel
theorem dL_told_59 : decode cL_told 59 = .ok (.aload 9, 2) := by decide +kernel
theorem dL_told_61 : decode cL_told 61 = .ok (.aload 10, 2) := by decide +kernel
theorem dL_told_63 : decode cL_told 63 = .ok (.invokestatic 22, 3) := by decide +kernel
theorem dL_told_66 : decode cL_told 66 = .ok (.iconst 0, 1) := by decide +kernel
theorem dL_told_67 : decode cL_told 67 = .ok (.istore 12, 2) := by decide +kernel
theorem dL_told_69 : decode cL_told 69 = .ok (.iload 12, 2) := by decide +kernel
theorem dL_told_71 : decode cL_told 71 = .ok (.aload 5, 2) := by decide +kernel
theorem dL_told_73 : decode cL_told 73 = .ok (.iconst 0, 1) := by decide +kernel
theorem dL_told_74 : decode cL_told 74 = .ok (.iaload, 1) := by decide +kernel
theorem dL_told_75 : decode cL_told 75 = .ok (.if_icmp .ge 297, 3) := by decide +kernel
theorem dL_told_78 : decode cL_told 78 = .ok (.aload_n 0, 1) := by decide +kernel
theorem dL_told_79 : decode cL_told 79 = .ok (.iload 12, 2) := by decide +kernel
theorem dL_told_81 : decode cL_told 81 = .ok (.iconst 0, 1) := by decide +kernel
theorem dL_told_82 : decode cL_told 82 = .ok (.invokevirtual 36, 3) := by decide +kernel
theorem dL_told_85 : decode cL_told 85 = .ok (.aload_n 2, 1) := by decide +kernel
theorem dL_told_86 : decode cL_told 86 = .ok (.iload 12, 2) := by decide +kernel
theorem dL_told_88 : decode cL_told 88 = .ok (.iaload, 1) := by decide +kernel
theorem dL_told_89 : decode cL_told 89 = .ok (.if_icmp .ne 138, 3) := by decide +kernel
theorem dL_told_92 : decode cL_told 92 = .ok (.aload_n 0, 1) := by decide +kernel
theorem dL_told_93 : decode cL_told 93 = .ok (.iload 12, 2) := by decide +kernel
theorem dL_told_95 : decode cL_told 95 = .ok (.iconst 1, 1) := by decide +kernel
theorem dL_told_96 : decode cL_told 96 = .ok (.invokevirtual 36, 3) := by decide +kernel
theorem dL_told_99 : decode cL_told 99 = .ok (.aload_n 3, 1) := by decide +kernel
theorem dL_told_100 : decode cL_told 100 = .ok (.iload 12, 2) := by decide +kernel
theorem dL_told_102 : decode cL_told 102 = .ok (.iaload, 1) := by decide +kernel
theorem dL_told_103 : decode cL_told 103 = .ok (.if_icmp .ne 124, 3) := by decide +kernel
theorem dL_told_106 : decode cL_told 106 = .ok (.aload_n 0, 1) := by decide +kernel
theorem dL_told_107 : decode cL_told 107 = .ok (.iload 12, 2) := by decide +kernel
theorem dL_told_109 : decode cL_told 109 = .ok (.iconst 2, 1) := by decide +kernel
theorem dL_told_110 : decode cL_told 110 = .ok (.invokevirtual 36, 3) := by decide +kernel
theorem dL_told_113 : decode cL_told 113 = .ok (.aload 7, 2) := by decide +kernel
theorem dL_told_115 : decode cL_told 115 = .ok (.iload 12, 2) := by decide +kernel
theorem dL_told_117 : decode cL_told 117 = .ok (.iaload, 1) := by decide +kernel
theorem dL_told_118 : decode cL_told 118 = .ok (.if_icmp .ne 109, 3) := by decide +kernel
theorem dL_told_121 : decode cL_told 121 = .ok (.aload_n 0, 1) := by decide +kernel
theorem dL_told_122 : decode cL_told 122 = .ok (.iload 12, 2) := by decide +kernel
theorem dL_told_124 : decode cL_told 124 = .ok (.iconst 3, 1) := by decide +kernel
theorem dL_told_125 : decode cL_told 125 = .ok (.invokevirtual 36, 3) := by decide +kernel
theorem dL_told_128 : decode cL_told 128 = .ok (.aload 8, 2) := by decide +kernel
theorem dL_told_130 : decode cL_told 130 = .ok (.iload 12, 2) := by decide +kernel
theorem dL_told_132 : decode cL_told 132 = .ok (.iaload, 1) := by decide +kernel
theorem dL_told_133 : decode cL_told 133 = .ok (.if_icmp .ne 94, 3) := by decide +kernel
theorem dL_told_136 : decode cL_told 136 = .ok (.aload_n 0, 1) := by decide +kernel
theorem dL_told_137 : decode cL_told 137 = .ok (.iload 12, 2) := by decide +kernel
theorem dL_told_139 : decode cL_told 139 = .ok (.iconst 4, 1) := by decide +kernel
theorem dL_told_140 : decode cL_told 140 = .ok (.invokevirtual 36, 3) := by decide +kernel
theorem dL_told_143 : decode cL_told 143 = .ok (.iload 12, 2) := by decide +kernel
theorem dL_told_145 : decode cL_told 145 = .ok (.aload 6, 2) := by decide +kernel
theorem dL_told_147 : decode cL_told 147 = .ok (.invokestatic 8, 3) := by decide +kernel
theorem dL_told_150 : decode cL_told 150 = .ok (.if_icmp .ne 77, 3) := by decide +kernel
theorem dL_told_153 : decode cL_told 153 = .ok (.aload_n 0, 1) := by decide +kernel
theorem dL_told_154 : decode cL_told 154 = .ok (.iload 12, 2) := by decide +kernel
theorem dL_told_156 : decode cL_told 156 = .ok (.iconst 5, 1) := by decide +kernel
theorem dL_told_157 : decode cL_told 157 = .ok (.invokevirtual 36, 3) := by decide +kernel
theorem dL_told_160 : decode cL_told 160 = .ok (.iload 12, 2) := by decide +kernel
theorem dL_told_162 : decode cL_told 162 = .ok (.aload 6, 2) := by decide +kernel
theorem dL_told_164 : decode cL_told 164 = .ok (.invokestatic 14, 3) := by decide +kernel
theorem dL_told_167 : decode cL_told 167 = .ok (.ifCond .eq 7, 3) := by decide +kernel
theorem dL_told_170 : decode cL_told 170 = .ok (.iconst 1, 1) := by decide +kernel
theorem dL_told_171 : decode cL_told 171 = .ok (.goto 4, 3) := by decide +kernel
theorem dL_told_174 : decode cL_told 174 = .ok (.iconst 0, 1) := by decide +kernel
theorem dL_told_175 : decode cL_told 175 = .ok (.if_icmp .ne 52, 3) := by decide +kernel
theorem dL_told_178 : decode cL_told 178 = .ok (.aload_n 0, 1) := by decide +kernel
theorem dL_told_179 : decode cL_told 179 = .ok (.iload 12, 2) := by decide +kernel
theorem dL_told_181 : decode cL_told 181 = .ok (.bipush 6, 2) := by decide +kernel
theorem dL_told_183 : decode cL_told 183 = .ok (.invokevirtual 36, 3) := by decide +kernel
theorem dL_told_186 : decode cL_told 186 = .ok (.aload 9, 2) := by decide +kernel
theorem dL_told_188 : decode cL_told 188 = .ok (.iload 12, 2) := by decide +kernel
theorem dL_told_190 : decode cL_told 190 = .ok (.iaload, 1) := by decide +kernel
theorem dL_told_191 : decode cL_told 191 = .ok (.if_icmp .ne 36, 3) := by decide +kernel
theorem dL_told_194 : decode cL_told 194 = .ok (.aload_n 0, 1) := by decide +kernel
theorem dL_told_195 : decode cL_told 195 = .ok (.iload 12, 2) := by decide +kernel
theorem dL_told_197 : decode cL_told 197 = .ok (.bipush 7, 2) := by decide +kernel
theorem dL_told_199 : decode cL_told 199 = .ok (.invokevirtual 36, 3) := by decide +kernel
theorem dL_told_202 : decode cL_told 202 = .ok (.aload 10, 2) := by decide +kernel
theorem dL_told_204 : decode cL_told 204 = .ok (.iload 12, 2) := by decide +kernel
theorem dL_told_206 : decode cL_told 206 = .ok (.iaload, 1) := by decide +kernel
theorem dL_told_207 : decode cL_told 207 = .ok (.ifCond .ge 7, 3) := by decide +kernel
theorem dL_told_210 : decode cL_told 210 = .ok (.iconst (-1), 1) := by decide +kernel
theorem dL_told_211 : decode cL_told 211 = .ok (.goto 13, 3) := by decide +kernel
theorem dL_told_214 : decode cL_told 214 = .ok (.aload 10, 2) := by decide +kernel
theorem dL_told_216 : decode cL_told 216 = .ok (.iload 12, 2) := by decide +kernel
theorem dL_told_218 : decode cL_told 218 = .ok (.iaload, 1) := by decide +kernel
theorem dL_told_219 : decode cL_told 219 = .ok (.aload 10, 2) := by decide +kernel
theorem dL_told_221 : decode cL_told 221 = .ok (.invokestatic 26, 3) := by decide +kernel
theorem dL_told_224 : decode cL_told 224 = .ok (.if_icmp .eq 5, 3) := by decide +kernel
theorem dL_told_227 : decode cL_told 227 = .ok (.iconst 0, 1) := by decide +kernel
theorem dL_told_228 : decode cL_told 228 = .ok (.ireturn, 1) := by decide +kernel
theorem dL_told_229 : decode cL_told 229 = .ok (.aload 10, 2) := by decide +kernel
theorem dL_told_231 : decode cL_told 231 = .ok (.iload 12, 2) := by decide +kernel
theorem dL_told_233 : decode cL_told 233 = .ok (.iaload, 1) := by decide +kernel
theorem dL_told_234 : decode cL_told 234 = .ok (.iload 12, 2) := by decide +kernel
theorem dL_told_236 : decode cL_told 236 = .ok (.if_icmp .eq 6, 3) := by decide +kernel
theorem dL_told_239 : decode cL_told 239 = .ok (.goto 127, 3) := by decide +kernel
theorem dL_told_242 : decode cL_told 242 = .ok (.iload 12, 2) := by decide +kernel
theorem dL_told_244 : decode cL_told 244 = .ok (.aload 10, 2) := by decide +kernel
theorem dL_told_246 : decode cL_told 246 = .ok (.invokestatic 26, 3) := by decide +kernel
theorem dL_told_249 : decode cL_told 249 = .ok (.istore 13, 2) := by decide +kernel
theorem dL_told_251 : decode cL_told 251 = .ok (.iconst (-1), 1) := by decide +kernel
theorem dL_told_252 : decode cL_told 252 = .ok (.istore 14, 2) := by decide +kernel
theorem dL_told_254 : decode cL_told 254 = .ok (.iconst 0, 1) := by decide +kernel
theorem dL_told_255 : decode cL_told 255 = .ok (.istore 15, 2) := by decide +kernel
theorem dL_told_257 : decode cL_told 257 = .ok (.iload 15, 2) := by decide +kernel
theorem dL_told_259 : decode cL_told 259 = .ok (.aload 5, 2) := by decide +kernel
theorem dL_told_261 : decode cL_told 261 = .ok (.iconst 1, 1) := by decide +kernel
theorem dL_told_262 : decode cL_told 262 = .ok (.iaload, 1) := by decide +kernel
theorem dL_told_263 : decode cL_told 263 = .ok (.if_icmp .ge 28, 3) := by decide +kernel
theorem dL_told_266 : decode cL_told 266 = .ok (.aload 11, 2) := by decide +kernel
theorem dL_told_268 : decode cL_told 268 = .ok (.iload 15, 2) := by decide +kernel
theorem dL_told_270 : decode cL_told 270 = .ok (.iaload, 1) := by decide +kernel
theorem dL_told_271 : decode cL_told 271 = .ok (.iload 12, 2) := by decide +kernel
theorem dL_told_273 : decode cL_told 273 = .ok (.if_icmp .ne 8, 3) := by decide +kernel
theorem dL_told_276 : decode cL_told 276 = .ok (.iload 15, 2) := by decide +kernel
theorem dL_told_278 : decode cL_told 278 = .ok (.goto 5, 3) := by decide +kernel
theorem dL_told_281 : decode cL_told 281 = .ok (.iload 14, 2) := by decide +kernel
theorem dL_told_283 : decode cL_told 283 = .ok (.istore 14, 2) := by decide +kernel
theorem dL_told_285 : decode cL_told 285 = .ok (.iinc 15 1, 3) := by decide +kernel
theorem dL_told_288 : decode cL_told 288 = .ok (.goto (-31), 3) := by decide +kernel
theorem dL_told_291 : decode cL_told 291 = .ok (.aload_n 0, 1) := by decide +kernel
theorem dL_told_292 : decode cL_told 292 = .ok (.iload 13, 2) := by decide +kernel
theorem dL_told_294 : decode cL_told 294 = .ok (.iconst 0, 1) := by decide +kernel
theorem dL_told_295 : decode cL_told 295 = .ok (.invokevirtual 42, 3) := by decide +kernel
theorem dL_told_298 : decode cL_told 298 = .ok (.iload 12, 2) := by decide +kernel
theorem dL_told_300 : decode cL_told 300 = .ok (.if_icmp .ne 15, 3) := by decide +kernel
theorem dL_told_303 : decode cL_told 303 = .ok (.aload_n 0, 1) := by decide +kernel
theorem dL_told_304 : decode cL_told 304 = .ok (.iload 13, 2) := by decide +kernel
theorem dL_told_306 : decode cL_told 306 = .ok (.iconst 5, 1) := by decide +kernel
theorem dL_told_307 : decode cL_told 307 = .ok (.invokevirtual 42, 3) := by decide +kernel
theorem dL_told_310 : decode cL_told 310 = .ok (.iload 14, 2) := by decide +kernel
theorem dL_told_312 : decode cL_told 312 = .ok (.if_icmp .eq 5, 3) := by decide +kernel
theorem dL_told_315 : decode cL_told 315 = .ok (.iconst 0, 1) := by decide +kernel
theorem dL_told_316 : decode cL_told 316 = .ok (.ireturn, 1) := by decide +kernel
theorem dL_told_317 : decode cL_told 317 = .ok (.iconst 0, 1) := by decide +kernel
theorem dL_told_318 : decode cL_told 318 = .ok (.istore 15, 2) := by decide +kernel
theorem dL_told_320 : decode cL_told 320 = .ok (.iload 15, 2) := by decide +kernel
theorem dL_told_322 : decode cL_told 322 = .ok (.iconst 4, 1) := by decide +kernel
theorem dL_told_323 : decode cL_told 323 = .ok (.if_icmp .ge 43, 3) := by decide +kernel
theorem dL_told_326 : decode cL_told 326 = .ok (.aload_n 0, 1) := by decide +kernel
theorem dL_told_327 : decode cL_told 327 = .ok (.iload 13, 2) := by decide +kernel
theorem dL_told_329 : decode cL_told 329 = .ok (.iload 15, 2) := by decide +kernel
theorem dL_told_331 : decode cL_told 331 = .ok (.iconst 1, 1) := by decide +kernel
theorem dL_told_332 : decode cL_told 332 = .ok (.iadd, 1) := by decide +kernel
theorem dL_told_333 : decode cL_told 333 = .ok (.invokevirtual 42, 3) := by decide +kernel
theorem dL_told_336 : decode cL_told 336 = .ok (.iload 12, 2) := by decide +kernel
theorem dL_told_338 : decode cL_told 338 = .ok (.iload 15, 2) := by decide +kernel
theorem dL_told_340 : decode cL_told 340 = .ok (.aload 5, 2) := by decide +kernel
theorem dL_told_342 : decode cL_told 342 = .ok (.aload 6, 2) := by decide +kernel
theorem dL_told_344 : decode cL_told 344 = .ok (.aload 7, 2) := by decide +kernel
theorem dL_told_346 : decode cL_told 346 = .ok (.aload 8, 2) := by decide +kernel
theorem dL_told_348 : decode cL_told 348 = .ok (.aload 9, 2) := by decide +kernel
theorem dL_told_350 : decode cL_told 350 = .ok (.aload 10, 2) := by decide +kernel
theorem dL_told_352 : decode cL_told 352 = .ok (.invokestatic 18, 3) := by decide +kernel
theorem dL_told_355 : decode cL_told 355 = .ok (.if_icmp .eq 5, 3) := by decide +kernel
theorem dL_told_358 : decode cL_told 358 = .ok (.iconst 0, 1) := by decide +kernel
theorem dL_told_359 : decode cL_told 359 = .ok (.ireturn, 1) := by decide +kernel
theorem dL_told_360 : decode cL_told 360 = .ok (.iinc 15 1, 3) := by decide +kernel
theorem dL_told_363 : decode cL_told 363 = .ok (.goto (-43), 3) := by decide +kernel
theorem dL_told_366 : decode cL_told 366 = .ok (.iinc 12 1, 3) := by decide +kernel
theorem dL_told_369 : decode cL_told 369 = .ok (.goto (-300), 3) := by decide +kernel
theorem dL_told_372 : decode cL_told 372 = .ok (.iconst 0, 1) := by decide +kernel
theorem dL_told_373 : decode cL_told 373 = .ok (.istore 12, 2) := by decide +kernel
theorem dL_told_375 : decode cL_told 375 = .ok (.iload 12, 2) := by decide +kernel
theorem dL_told_377 : decode cL_told 377 = .ok (.aload 5, 2) := by decide +kernel
theorem dL_told_379 : decode cL_told 379 = .ok (.iconst 1, 1) := by decide +kernel
theorem dL_told_380 : decode cL_told 380 = .ok (.iaload, 1) := by decide +kernel
theorem dL_told_381 : decode cL_told 381 = .ok (.if_icmp .ge 58, 3) := by decide +kernel
theorem dL_told_384 : decode cL_told 384 = .ok (.aload_n 0, 1) := by decide +kernel
theorem dL_told_385 : decode cL_told 385 = .ok (.iload 12, 2) := by decide +kernel
theorem dL_told_387 : decode cL_told 387 = .ok (.iconst 0, 1) := by decide +kernel
theorem dL_told_388 : decode cL_told 388 = .ok (.invokevirtual 45, 3) := by decide +kernel
theorem dL_told_391 : decode cL_told 391 = .ok (.aload 4, 2) := by decide +kernel
theorem dL_told_393 : decode cL_told 393 = .ok (.iload 12, 2) := by decide +kernel
theorem dL_told_395 : decode cL_told 395 = .ok (.iaload, 1) := by decide +kernel
theorem dL_told_396 : decode cL_told 396 = .ok (.if_icmp .ne 35, 3) := by decide +kernel
theorem dL_told_399 : decode cL_told 399 = .ok (.aload_n 0, 1) := by decide +kernel
theorem dL_told_400 : decode cL_told 400 = .ok (.iload 12, 2) := by decide +kernel
theorem dL_told_402 : decode cL_told 402 = .ok (.iconst 1, 1) := by decide +kernel
theorem dL_told_403 : decode cL_told 403 = .ok (.invokevirtual 45, 3) := by decide +kernel
theorem dL_told_406 : decode cL_told 406 = .ok (.aload 11, 2) := by decide +kernel
theorem dL_told_408 : decode cL_told 408 = .ok (.iload 12, 2) := by decide +kernel
theorem dL_told_410 : decode cL_told 410 = .ok (.iaload, 1) := by decide +kernel
theorem dL_told_411 : decode cL_told 411 = .ok (.ifCond .ge 7, 3) := by decide +kernel
theorem dL_told_414 : decode cL_told 414 = .ok (.iconst (-1), 1) := by decide +kernel
theorem dL_told_415 : decode cL_told 415 = .ok (.goto 13, 3) := by decide +kernel
theorem dL_told_418 : decode cL_told 418 = .ok (.aload 11, 2) := by decide +kernel
theorem dL_told_420 : decode cL_told 420 = .ok (.iload 12, 2) := by decide +kernel
theorem dL_told_422 : decode cL_told 422 = .ok (.iaload, 1) := by decide +kernel
theorem dL_told_423 : decode cL_told 423 = .ok (.aload 10, 2) := by decide +kernel
theorem dL_told_425 : decode cL_told 425 = .ok (.invokestatic 26, 3) := by decide +kernel
theorem dL_told_428 : decode cL_told 428 = .ok (.if_icmp .eq 5, 3) := by decide +kernel
theorem dL_told_431 : decode cL_told 431 = .ok (.iconst 0, 1) := by decide +kernel
theorem dL_told_432 : decode cL_told 432 = .ok (.ireturn, 1) := by decide +kernel
theorem dL_told_433 : decode cL_told 433 = .ok (.iinc 12 1, 3) := by decide +kernel
theorem dL_told_436 : decode cL_told 436 = .ok (.goto (-61), 3) := by decide +kernel
theorem dL_told_439 : decode cL_told 439 = .ok (.iconst 0, 1) := by decide +kernel
theorem dL_told_440 : decode cL_told 440 = .ok (.istore 12, 2) := by decide +kernel
theorem dL_told_442 : decode cL_told 442 = .ok (.iload 12, 2) := by decide +kernel
theorem dL_told_444 : decode cL_told 444 = .ok (.bipush 10, 2) := by decide +kernel
theorem dL_told_446 : decode cL_told 446 = .ok (.if_icmp .ge 53, 3) := by decide +kernel
theorem dL_told_449 : decode cL_told 449 = .ok (.aload_n 0, 1) := by decide +kernel
theorem dL_told_450 : decode cL_told 450 = .ok (.iload 12, 2) := by decide +kernel
theorem dL_told_452 : decode cL_told 452 = .ok (.invokevirtual 48, 3) := by decide +kernel
theorem dL_told_455 : decode cL_told 455 = .ok (.aload 6, 2) := by decide +kernel
theorem dL_told_457 : decode cL_told 457 = .ok (.iload 12, 2) := by decide +kernel
theorem dL_told_459 : decode cL_told 459 = .ok (.iaload, 1) := by decide +kernel
theorem dL_told_460 : decode cL_told 460 = .ok (.if_icmp .ne 31, 3) := by decide +kernel
theorem dL_told_463 : decode cL_told 463 = .ok (.aload_n 0, 1) := by decide +kernel
theorem dL_told_464 : decode cL_told 464 = .ok (.iload 12, 2) := by decide +kernel
theorem dL_told_466 : decode cL_told 466 = .ok (.invokevirtual 52, 3) := by decide +kernel
theorem dL_told_469 : decode cL_told 469 = .ok (.iload 12, 2) := by decide +kernel
theorem dL_told_471 : decode cL_told 471 = .ok (.aload 4, 2) := by decide +kernel
theorem dL_told_473 : decode cL_told 473 = .ok (.aload 5, 2) := by decide +kernel
theorem dL_told_475 : decode cL_told 475 = .ok (.aload 6, 2) := by decide +kernel
theorem dL_told_477 : decode cL_told 477 = .ok (.aload 7, 2) := by decide +kernel
theorem dL_told_479 : decode cL_told 479 = .ok (.aload 8, 2) := by decide +kernel
theorem dL_told_481 : decode cL_told 481 = .ok (.aload 9, 2) := by decide +kernel
theorem dL_told_483 : decode cL_told 483 = .ok (.aload 10, 2) := by decide +kernel
theorem dL_told_485 : decode cL_told 485 = .ok (.invokestatic 55, 3) := by decide +kernel
theorem dL_told_488 : decode cL_told 488 = .ok (.if_icmp .eq 5, 3) := by decide +kernel
theorem dL_told_491 : decode cL_told 491 = .ok (.iconst 0, 1) := by decide +kernel
theorem dL_told_492 : decode cL_told 492 = .ok (.ireturn, 1) := by decide +kernel
theorem dL_told_493 : decode cL_told 493 = .ok (.iinc 12 1, 3) := by decide +kernel
theorem dL_told_496 : decode cL_told 496 = .ok (.goto (-54), 3) := by decide +kernel
theorem dL_told_499 : decode cL_told 499 = .ok (.iload_n 1, 1) := by decide +kernel
theorem dL_told_500 : decode cL_told 500 = .ok (.sipush 141, 3) := by decide +kernel
theorem dL_told_503 : decode cL_told 503 = .ok (.invokestatic 59, 3) := by decide +kernel
theorem dL_told_506 : decode cL_told 506 = .ok (.istore 12, 2) := by decide +kernel
theorem dL_told_508 : decode cL_told 508 = .ok (.iconst 1, 1) := by decide +kernel
theorem dL_told_509 : decode cL_told 509 = .ok (.iload_n 1, 1) := by decide +kernel
theorem dL_told_510 : decode cL_told 510 = .ok (.iconst 3, 1) := by decide +kernel
theorem dL_told_511 : decode cL_told 511 = .ok (.ishr, 1) := by decide +kernel
theorem dL_told_512 : decode cL_told 512 = .ok (.bipush 100, 2) := by decide +kernel
theorem dL_told_514 : decode cL_told 514 = .ok (.invokestatic 59, 3) := by decide +kernel
theorem dL_told_517 : decode cL_told 517 = .ok (.iadd, 1) := by decide +kernel
theorem dL_told_518 : decode cL_told 518 = .ok (.istore 13, 2) := by decide +kernel
theorem dL_told_520 : decode cL_told 520 = .ok (.iconst 1, 1) := by decide +kernel
theorem dL_told_521 : decode cL_told 521 = .ok (.aload 4, 2) := by decide +kernel
theorem dL_told_523 : decode cL_told 523 = .ok (.aload 5, 2) := by decide +kernel
theorem dL_told_525 : decode cL_told 525 = .ok (.aload 6, 2) := by decide +kernel
theorem dL_told_527 : decode cL_told 527 = .ok (.aload 7, 2) := by decide +kernel
theorem dL_told_529 : decode cL_told 529 = .ok (.aload 8, 2) := by decide +kernel
theorem dL_told_531 : decode cL_told 531 = .ok (.aload 9, 2) := by decide +kernel
theorem dL_told_533 : decode cL_told 533 = .ok (.aload 10, 2) := by decide +kernel
theorem dL_told_535 : decode cL_told 535 = .ok (.invokestatic 55, 3) := by decide +kernel
theorem dL_told_538 : decode cL_told 538 = .ok (.istore 14, 2) := by decide +kernel
theorem dL_told_540 : decode cL_told 540 = .ok (.iconst 0, 1) := by decide +kernel
theorem dL_told_541 : decode cL_told 541 = .ok (.istore 15, 2) := by decide +kernel
theorem dL_told_543 : decode cL_told 543 = .ok (.iconst (-1), 1) := by decide +kernel
theorem dL_told_544 : decode cL_told 544 = .ok (.istore 16, 2) := by decide +kernel
theorem dL_told_546 : decode cL_told 546 = .ok (.iconst 0, 1) := by decide +kernel
theorem dL_told_547 : decode cL_told 547 = .ok (.istore 17, 2) := by decide +kernel
theorem dL_told_549 : decode cL_told 549 = .ok (.iload 17, 2) := by decide +kernel
theorem dL_told_551 : decode cL_told 551 = .ok (.sipush 141, 3) := by decide +kernel
theorem dL_told_554 : decode cL_told 554 = .ok (.if_icmp .ge 113, 3) := by decide +kernel
theorem dL_told_557 : decode cL_told 557 = .ok (.iconst 0, 1) := by decide +kernel
theorem dL_told_558 : decode cL_told 558 = .ok (.istore 18, 2) := by decide +kernel
theorem dL_told_560 : decode cL_told 560 = .ok (.iconst 0, 1) := by decide +kernel
theorem dL_told_561 : decode cL_told 561 = .ok (.istore 19, 2) := by decide +kernel
theorem dL_told_563 : decode cL_told 563 = .ok (.iload 19, 2) := by decide +kernel
theorem dL_told_565 : decode cL_told 565 = .ok (.aload 5, 2) := by decide +kernel
theorem dL_told_567 : decode cL_told 567 = .ok (.iconst 0, 1) := by decide +kernel
theorem dL_told_568 : decode cL_told 568 = .ok (.iaload, 1) := by decide +kernel
theorem dL_told_569 : decode cL_told 569 = .ok (.if_icmp .ge 49, 3) := by decide +kernel
theorem dL_told_572 : decode cL_told 572 = .ok (.iload 18, 2) := by decide +kernel
theorem dL_told_574 : decode cL_told 574 = .ok (.aload 9, 2) := by decide +kernel
theorem dL_told_576 : decode cL_told 576 = .ok (.iload 19, 2) := by decide +kernel
theorem dL_told_578 : decode cL_told 578 = .ok (.iaload, 1) := by decide +kernel
theorem dL_told_579 : decode cL_told 579 = .ok (.ifCond .eq 12, 3) := by decide +kernel
theorem dL_told_582 : decode cL_told 582 = .ok (.aload 9, 2) := by decide +kernel
theorem dL_told_584 : decode cL_told 584 = .ok (.iload 19, 2) := by decide +kernel
theorem dL_told_586 : decode cL_told 586 = .ok (.iaload, 1) := by decide +kernel
theorem dL_told_587 : decode cL_told 587 = .ok (.iconst 3, 1) := by decide +kernel
theorem dL_told_588 : decode cL_told 588 = .ok (.if_icmp .ne 20, 3) := by decide +kernel
theorem dL_told_591 : decode cL_told 591 = .ok (.aload 7, 2) := by decide +kernel
theorem dL_told_593 : decode cL_told 593 = .ok (.iload 19, 2) := by decide +kernel
theorem dL_told_595 : decode cL_told 595 = .ok (.iaload, 1) := by decide +kernel
theorem dL_told_596 : decode cL_told 596 = .ok (.bipush 10, 2) := by decide +kernel
theorem dL_told_598 : decode cL_told 598 = .ok (.iload 17, 2) := by decide +kernel
theorem dL_told_600 : decode cL_told 600 = .ok (.imul, 1) := by decide +kernel
theorem dL_told_601 : decode cL_told 601 = .ok (.if_icmp .lt 7, 3) := by decide +kernel
theorem dL_told_604 : decode cL_told 604 = .ok (.iconst 1, 1) := by decide +kernel
theorem dL_told_605 : decode cL_told 605 = .ok (.goto 4, 3) := by decide +kernel
theorem dL_told_608 : decode cL_told 608 = .ok (.iconst 0, 1) := by decide +kernel
theorem dL_told_609 : decode cL_told 609 = .ok (.iadd, 1) := by decide +kernel
theorem dL_told_610 : decode cL_told 610 = .ok (.istore 18, 2) := by decide +kernel
theorem dL_told_612 : decode cL_told 612 = .ok (.iinc 19 1, 3) := by decide +kernel
theorem dL_told_615 : decode cL_told 615 = .ok (.goto (-52), 3) := by decide +kernel
theorem dL_told_618 : decode cL_told 618 = .ok (.iload 17, 2) := by decide +kernel
theorem dL_told_620 : decode cL_told 620 = .ok (.iload 12, 2) := by decide +kernel
theorem dL_told_622 : decode cL_told 622 = .ok (.if_icmp .ne 8, 3) := by decide +kernel
theorem dL_told_625 : decode cL_told 625 = .ok (.iload 18, 2) := by decide +kernel
theorem dL_told_627 : decode cL_told 627 = .ok (.goto 5, 3) := by decide +kernel
theorem dL_told_630 : decode cL_told 630 = .ok (.iload 15, 2) := by decide +kernel
theorem dL_told_632 : decode cL_told 632 = .ok (.istore 15, 2) := by decide +kernel
theorem dL_told_634 : decode cL_told 634 = .ok (.iload 14, 2) := by decide +kernel
theorem dL_told_636 : decode cL_told 636 = .ok (.ifCond .le 21, 3) := by decide +kernel
theorem dL_told_639 : decode cL_told 639 = .ok (.bipush 100, 2) := by decide +kernel
theorem dL_told_641 : decode cL_told 641 = .ok (.iload 18, 2) := by decide +kernel
theorem dL_told_643 : decode cL_told 643 = .ok (.imul, 1) := by decide +kernel
theorem dL_told_644 : decode cL_told 644 = .ok (.iload 13, 2) := by decide +kernel
theorem dL_told_646 : decode cL_told 646 = .ok (.iload 14, 2) := by decide +kernel
theorem dL_told_648 : decode cL_told 648 = .ok (.imul, 1) := by decide +kernel
theorem dL_told_649 : decode cL_told 649 = .ok (.if_icmp .lt 8, 3) := by decide +kernel
theorem dL_told_652 : decode cL_told 652 = .ok (.iload 17, 2) := by decide +kernel
theorem dL_told_654 : decode cL_told 654 = .ok (.goto 5, 3) := by decide +kernel
theorem dL_told_657 : decode cL_told 657 = .ok (.iload 16, 2) := by decide +kernel
theorem dL_told_659 : decode cL_told 659 = .ok (.istore 16, 2) := by decide +kernel
theorem dL_told_661 : decode cL_told 661 = .ok (.iinc 17 1, 3) := by decide +kernel
theorem dL_told_664 : decode cL_told 664 = .ok (.goto (-115), 3) := by decide +kernel
theorem dL_told_667 : decode cL_told 667 = .ok (.iconst 4, 1) := by decide +kernel
theorem dL_told_668 : decode cL_told 668 = .ok (.aload 4, 2) := by decide +kernel
theorem dL_told_670 : decode cL_told 670 = .ok (.aload 5, 2) := by decide +kernel
theorem dL_told_672 : decode cL_told 672 = .ok (.aload 6, 2) := by decide +kernel
theorem dL_told_674 : decode cL_told 674 = .ok (.aload 7, 2) := by decide +kernel
theorem dL_told_676 : decode cL_told 676 = .ok (.aload 8, 2) := by decide +kernel
theorem dL_told_678 : decode cL_told 678 = .ok (.aload 9, 2) := by decide +kernel
theorem dL_told_680 : decode cL_told 680 = .ok (.aload 10, 2) := by decide +kernel
theorem dL_told_682 : decode cL_told 682 = .ok (.invokestatic 55, 3) := by decide +kernel
theorem dL_told_685 : decode cL_told 685 = .ok (.istore 17, 2) := by decide +kernel
theorem dL_told_687 : decode cL_told 687 = .ok (.aload 5, 2) := by decide +kernel
theorem dL_told_689 : decode cL_told 689 = .ok (.iconst 0, 1) := by decide +kernel
theorem dL_told_690 : decode cL_told 690 = .ok (.iaload, 1) := by decide +kernel
theorem dL_told_691 : decode cL_told 691 = .ok (.bipush 100, 2) := by decide +kernel
theorem dL_told_693 : decode cL_told 693 = .ok (.iadd, 1) := by decide +kernel
theorem dL_told_694 : decode cL_told 694 = .ok (.istore 18, 2) := by decide +kernel
theorem dL_told_696 : decode cL_told 696 = .ok (.iconst 0, 1) := by decide +kernel
theorem dL_told_697 : decode cL_told 697 = .ok (.istore 19, 2) := by decide +kernel
theorem dL_told_699 : decode cL_told 699 = .ok (.iload 19, 2) := by decide +kernel
theorem dL_told_701 : decode cL_told 701 = .ok (.aload 5, 2) := by decide +kernel
theorem dL_told_703 : decode cL_told 703 = .ok (.iconst 0, 1) := by decide +kernel
theorem dL_told_704 : decode cL_told 704 = .ok (.iaload, 1) := by decide +kernel
theorem dL_told_705 : decode cL_told 705 = .ok (.if_icmp .ge 33, 3) := by decide +kernel
theorem dL_told_708 : decode cL_told 708 = .ok (.aload 9, 2) := by decide +kernel
theorem dL_told_710 : decode cL_told 710 = .ok (.iload 19, 2) := by decide +kernel
theorem dL_told_712 : decode cL_told 712 = .ok (.iaload, 1) := by decide +kernel
theorem dL_told_713 : decode cL_told 713 = .ok (.ifCond .ne 15, 3) := by decide +kernel
theorem dL_told_716 : decode cL_told 716 = .ok (.aload 5, 2) := by decide +kernel
theorem dL_told_718 : decode cL_told 718 = .ok (.iconst 0, 1) := by decide +kernel
theorem dL_told_719 : decode cL_told 719 = .ok (.iaload, 1) := by decide +kernel
theorem dL_told_720 : decode cL_told 720 = .ok (.iconst 1, 1) := by decide +kernel
theorem dL_told_721 : decode cL_told 721 = .ok (.isub, 1) := by decide +kernel
theorem dL_told_722 : decode cL_told 722 = .ok (.iload 19, 2) := by decide +kernel
theorem dL_told_724 : decode cL_told 724 = .ok (.isub, 1) := by decide +kernel
theorem dL_told_725 : decode cL_told 725 = .ok (.goto 5, 3) := by decide +kernel
theorem dL_told_728 : decode cL_told 728 = .ok (.iload 18, 2) := by decide +kernel
theorem dL_told_730 : decode cL_told 730 = .ok (.istore 18, 2) := by decide +kernel
theorem dL_told_732 : decode cL_told 732 = .ok (.iinc 19 1, 3) := by decide +kernel
theorem dL_told_735 : decode cL_told 735 = .ok (.goto (-36), 3) := by decide +kernel
theorem dL_told_738 : decode cL_told 738 = .ok (.aload_n 0, 1) := by decide +kernel
theorem dL_told_739 : decode cL_told 739 = .ok (.iload 12, 2) := by decide +kernel
theorem dL_told_741 : decode cL_told 741 = .ok (.invokevirtual 62, 3) := by decide +kernel
theorem dL_told_744 : decode cL_told 744 = .ok (.iload 15, 2) := by decide +kernel
theorem dL_told_746 : decode cL_told 746 = .ok (.if_icmp .ne 68, 3) := by decide +kernel
theorem dL_told_749 : decode cL_told 749 = .ok (.aload_n 0, 1) := by decide +kernel
theorem dL_told_750 : decode cL_told 750 = .ok (.iload 13, 2) := by decide +kernel
theorem dL_told_752 : decode cL_told 752 = .ok (.invokevirtual 65, 3) := by decide +kernel
theorem dL_told_755 : decode cL_told 755 = .ok (.iload 16, 2) := by decide +kernel
theorem dL_told_757 : decode cL_told 757 = .ok (.if_icmp .ne 57, 3) := by decide +kernel
theorem dL_told_760 : decode cL_told 760 = .ok (.aload_n 0, 1) := by decide +kernel
theorem dL_told_761 : decode cL_told 761 = .ok (.bipush 11, 2) := by decide +kernel
theorem dL_told_763 : decode cL_told 763 = .ok (.invokevirtual 52, 3) := by decide +kernel
theorem dL_told_766 : decode cL_told 766 = .ok (.iload 18, 2) := by decide +kernel
theorem dL_told_768 : decode cL_told 768 = .ok (.aload 6, 2) := by decide +kernel
theorem dL_told_770 : decode cL_told 770 = .ok (.bipush 6, 2) := by decide +kernel
theorem dL_told_772 : decode cL_told 772 = .ok (.iaload, 1) := by decide +kernel
theorem dL_told_773 : decode cL_told 773 = .ok (.if_icmp .ge 7, 3) := by decide +kernel
theorem dL_told_776 : decode cL_told 776 = .ok (.iconst 1, 1) := by decide +kernel
theorem dL_told_777 : decode cL_told 777 = .ok (.goto 4, 3) := by decide +kernel
theorem dL_told_780 : decode cL_told 780 = .ok (.iconst 0, 1) := by decide +kernel
theorem dL_told_781 : decode cL_told 781 = .ok (.if_icmp .ne 33, 3) := by decide +kernel
theorem dL_told_784 : decode cL_told 784 = .ok (.aload_n 0, 1) := by decide +kernel
theorem dL_told_785 : decode cL_told 785 = .ok (.invokevirtual 68, 3) := by decide +kernel
theorem dL_told_788 : decode cL_told 788 = .ok (.iload 14, 2) := by decide +kernel
theorem dL_told_790 : decode cL_told 790 = .ok (.ifCond .ne 7, 3) := by decide +kernel
theorem dL_told_793 : decode cL_told 793 = .ok (.dconst 0, 1) := by decide +kernel
theorem dL_told_794 : decode cL_told 794 = .ok (.goto 12, 3) := by decide +kernel
theorem dL_told_797 : decode cL_told 797 = .ok (.dconst 1, 1) := by decide +kernel
theorem dL_told_798 : decode cL_told 798 = .ok (.iload 17, 2) := by decide +kernel
theorem dL_told_800 : decode cL_told 800 = .ok (.i2d, 1) := by decide +kernel
theorem dL_told_801 : decode cL_told 801 = .ok (.dmul, 1) := by decide +kernel
theorem dL_told_802 : decode cL_told 802 = .ok (.iload 14, 2) := by decide +kernel
theorem dL_told_804 : decode cL_told 804 = .ok (.i2d, 1) := by decide +kernel
theorem dL_told_805 : decode cL_told 805 = .ok (.ddiv, 1) := by decide +kernel
theorem dL_told_806 : decode cL_told 806 = .ok (.dcmp .l, 1) := by decide +kernel
theorem dL_told_807 : decode cL_told 807 = .ok (.ifCond .ne 7, 3) := by decide +kernel
theorem dL_told_810 : decode cL_told 810 = .ok (.iconst 1, 1) := by decide +kernel
theorem dL_told_811 : decode cL_told 811 = .ok (.goto 4, 3) := by decide +kernel
theorem dL_told_814 : decode cL_told 814 = .ok (.iconst 0, 1) := by decide +kernel
theorem dL_told_815 : decode cL_told 815 = .ok (.ireturn, 1) := by decide +kernel
set_option maxHeartbeats 4000000 in
set_option maxRecDepth 100000 in
theorem w_L_told_j283 {w : WT} {l : Launch} {p : Program} {e : Env} {s : State} {m : MethodId} {args : Array Value} {below : List Frame} {meth : Method} {c : Code} (C : KC w p s m args meth c cL_told 20 RL (some .boolean)) (hN : 99 ≤ wN w) (hT : wN w = 100) {v1 : Int32} {v12 : Int32} {v13 : Int32} {v15 : Int32} {s0 : Int32} {M : Mem} {L : Lng} {Q : State → Prop} {o : (Int32 × Int32) ⊕ (Int32)} (hf : f_L_told_j283 v1 v12 v13 v15 s0 M = some o) (hA : ∀ z, o = .inl z → AtC w p l e ({ frames := 5, cells := 20007, slots := 120258, locals := 139 } : Room) s m args below meth c Q 20 257 M L [(0, .ref (wAd w 0)), (1, .int v1), (2, .ref (wAd w 90)), (3, .ref (wAd w 91)), (4, .ref (wAd w 92)), (5, .ref (wAd w 93)), (6, .ref (wAd w 94)), (7, .ref (wAd w 95)), (8, .ref (wAd w 96)), (9, .ref (wAd w 97)), (10, .ref (wAd w 98)), (11, .ref (wAd w 99)), (12, .int v12), (13, .int v13), (14, .int z.1), (15, .int z.2)] [] 5 246) (hE : ∀ y, o = .inr y → AtC w p l e ({ frames := 5, cells := 20007, slots := 120258, locals := 139 } : Room) s m args below meth c Q 20 291 M L [(0, .ref (wAd w 0)), (1, .int v1), (2, .ref (wAd w 90)), (3, .ref (wAd w 91)), (4, .ref (wAd w 92)), (5, .ref (wAd w 93)), (6, .ref (wAd w 94)), (7, .ref (wAd w 95)), (8, .ref (wAd w 96)), (9, .ref (wAd w 97)), (10, .ref (wAd w 98)), (11, .ref (wAd w 99)), (12, .int v12), (13, .int v13), (14, .int y)] [] 5 246) : AtC w p l e ({ frames := 5, cells := 20007, slots := 120258, locals := 139 } : Room) s m args below meth c Q 20 283 M L [(0, .ref (wAd w 0)), (1, .int v1), (2, .ref (wAd w 90)), (3, .ref (wAd w 91)), (4, .ref (wAd w 92)), (5, .ref (wAd w 93)), (6, .ref (wAd w 94)), (7, .ref (wAd w 95)), (8, .ref (wAd w 96)), (9, .ref (wAd w 97)), (10, .ref (wAd w 98)), (11, .ref (wAd w 99)), (12, .int v12), (13, .int v13), (15, .int v15)] [.int s0] 5 246 := by
  intro H locs ls hP hS hl
  unfold f_L_told_j283 at hf
  refine lv_istore (lv' := [(14, .int s0), (0, .ref (wAd w 0)), (1, .int v1), (2, .ref (wAd w 90)), (3, .ref (wAd w 91)), (4, .ref (wAd w 92)), (5, .ref (wAd w 93)), (6, .ref (wAd w 94)), (7, .ref (wAd w 95)), (8, .ref (wAd w 96)), (9, .ref (wAd w 97)), (10, .ref (wAd w 98)), (11, .ref (wAd w 99)), (12, .int v12), (13, .int v13), (15, .int v15)]) C.1 C.2.1 dL_told_283 hl (by decide) rfl (fun ls hl => ?_)
  refine lv_iinc (v := (v15 + 1)) (lv' := [(15, .int (v15 + 1)), (14, .int s0), (0, .ref (wAd w 0)), (1, .int v1), (2, .ref (wAd w 90)), (3, .ref (wAd w 91)), (4, .ref (wAd w 92)), (5, .ref (wAd w 93)), (6, .ref (wAd w 94)), (7, .ref (wAd w 95)), (8, .ref (wAd w 96)), (9, .ref (wAd w 97)), (10, .ref (wAd w 98)), (11, .ref (wAd w 99)), (12, .int v12), (13, .int v13)]) C.1 C.2.1 dL_told_285 hl (k := 15) rfl rfl (by decide) rfl (fun ls hl => ?_)
  refine lv_goto (tgt := 257) C.1 C.2.1 dL_told_288 (by decide) ?_
  cases hf
  exact hA _ rfl _ _ _ hP hS (lv_sub hl [2, 3, 4, 5, 6, 7, 8, 9, 10, 11, 12, 13, 14, 15, 1, 0] rfl)
set_option maxHeartbeats 4000000 in
set_option maxRecDepth 100000 in
theorem w_L_told_l257 {w : WT} {l : Launch} {p : Program} {e : Env} {s : State} {m : MethodId} {args : Array Value} {below : List Frame} {meth : Method} {c : Code} (C : KC w p s m args meth c cL_told 20 RL (some .boolean)) (hN : 99 ≤ wN w) (hT : wN w = 100) {v1 : Int32} {v12 : Int32} {v13 : Int32} {M : Mem} {L : Lng} {Q : State → Prop} (z : Int32 × Int32) (o : (Int32 × Int32) ⊕ (Int32)) (hf : f_L_told_l257 v1 v12 v13 M z = some o) (hA : ∀ z, o = .inl z → AtC w p l e ({ frames := 5, cells := 20007, slots := 120258, locals := 139 } : Room) s m args below meth c Q 20 257 M L [(0, .ref (wAd w 0)), (1, .int v1), (2, .ref (wAd w 90)), (3, .ref (wAd w 91)), (4, .ref (wAd w 92)), (5, .ref (wAd w 93)), (6, .ref (wAd w 94)), (7, .ref (wAd w 95)), (8, .ref (wAd w 96)), (9, .ref (wAd w 97)), (10, .ref (wAd w 98)), (11, .ref (wAd w 99)), (12, .int v12), (13, .int v13), (14, .int z.1), (15, .int z.2)] [] 5 246) (hE : ∀ y, o = .inr y → AtC w p l e ({ frames := 5, cells := 20007, slots := 120258, locals := 139 } : Room) s m args below meth c Q 20 291 M L [(0, .ref (wAd w 0)), (1, .int v1), (2, .ref (wAd w 90)), (3, .ref (wAd w 91)), (4, .ref (wAd w 92)), (5, .ref (wAd w 93)), (6, .ref (wAd w 94)), (7, .ref (wAd w 95)), (8, .ref (wAd w 96)), (9, .ref (wAd w 97)), (10, .ref (wAd w 98)), (11, .ref (wAd w 99)), (12, .int v12), (13, .int v13), (14, .int y)] [] 5 246) : AtC w p l e ({ frames := 5, cells := 20007, slots := 120258, locals := 139 } : Room) s m args below meth c Q 20 257 M L [(0, .ref (wAd w 0)), (1, .int v1), (2, .ref (wAd w 90)), (3, .ref (wAd w 91)), (4, .ref (wAd w 92)), (5, .ref (wAd w 93)), (6, .ref (wAd w 94)), (7, .ref (wAd w 95)), (8, .ref (wAd w 96)), (9, .ref (wAd w 97)), (10, .ref (wAd w 98)), (11, .ref (wAd w 99)), (12, .int v12), (13, .int v13), (14, .int z.1), (15, .int z.2)] [] 5 246 := by
  intro H locs ls hP hS hl
  unfold f_L_told_l257 at hf
  refine lv_iload C.1 C.2.1 dL_told_257 (lv_at hl 15 rfl) ?_
  refine lv_aload C.1 C.2.1 dL_told_259 (lv_at hl 5 rfl) ?_
  refine lv_iconst (v := 1) C.1 C.2.1 dL_told_261 (by decide) ?_
  obtain ⟨x36, hx36, hf⟩ := ob hf
  refine k_iald C hP (C9 C (Nat.le_of_ble_eq_true rfl)) (ar_L93 w L _) hx36 dL_told_262 ?_
  refine lv_icmp_ge (tgt := 291) C.1 C.2.1 dL_told_263 (by decide) (fun c37 => ?_) (fun c37 => ?_)
  · have hf := (if_pos c37).symm.trans hf
    cases hf
    exact hE _ rfl _ _ _ hP hS (lv_sub hl [0, 1, 2, 3, 4, 5, 6, 7, 8, 9, 10, 11, 12, 13, 14] rfl)
  · have hf := (if_neg c37).symm.trans hf
    refine lv_aload C.1 C.2.1 dL_told_266 (lv_at hl 11 rfl) ?_
    refine lv_iload C.1 C.2.1 dL_told_268 (lv_at hl 15 rfl) ?_
    obtain ⟨x38, hx38, hf⟩ := ob hf
    refine k_iald C hP (by rw [hT]; exact Nat.le_of_ble_eq_true rfl) (ar_L99 w L _) hx38 dL_told_270 ?_
    refine lv_iload C.1 C.2.1 dL_told_271 (lv_at hl 12 rfl) ?_
    refine lv_icmp_ne (tgt := 281) C.1 C.2.1 dL_told_273 (by decide) (fun c39 => ?_) (fun c39 => ?_)
    · have hf := (if_neg c39).symm.trans hf
      refine lv_iload C.1 C.2.1 dL_told_281 (lv_at hl 14 rfl) ?_
      exact w_L_told_j283 C hN hT hf hA hE _ _ _ hP hS (lv_sub hl [0, 1, 2, 3, 4, 5, 6, 7, 8, 9, 10, 11, 12, 13, 15] rfl)
    · have hf := (if_pos c39).symm.trans hf
      refine lv_iload C.1 C.2.1 dL_told_276 (lv_at hl 15 rfl) ?_
      refine lv_goto (tgt := 283) C.1 C.2.1 dL_told_278 (by decide) ?_
      exact w_L_told_j283 C hN hT hf hA hE _ _ _ hP hS (lv_sub hl [0, 1, 2, 3, 4, 5, 6, 7, 8, 9, 10, 11, 12, 13, 15] rfl)
set_option maxHeartbeats 4000000 in
set_option maxRecDepth 100000 in
theorem w_L_told_l320 {w : WT} {l : Launch} {p : Program} {e : Env} {s : State} {m : MethodId} {args : Array Value} {below : List Frame} {meth : Method} {c : Code} (C : KC w p s m args meth c cL_told 20 RL (some .boolean)) (hN : 99 ≤ wN w) (hT : wN w = 100) {v1 : Int32} {v12 : Int32} {v13 : Int32} {M : Mem} {L : Lng} {out : Int32 × Mem} (z : Int32) (o : (Int32) ⊕ ((Unit) ⊕ (Int32 × Mem))) (hf : f_L_told_l320 v1 v12 v13 M z = some o) (hA : ∀ z, o = .inl z → AtC w p l e ({ frames := 5, cells := 20007, slots := 120258, locals := 139 } : Room) s m args below meth c (MQ below (QI w out.1 out.2 L) args s 20007 120258 (wA w)) 20 320 M L [(0, .ref (wAd w 0)), (1, .int v1), (2, .ref (wAd w 90)), (3, .ref (wAd w 91)), (4, .ref (wAd w 92)), (5, .ref (wAd w 93)), (6, .ref (wAd w 94)), (7, .ref (wAd w 95)), (8, .ref (wAd w 96)), (9, .ref (wAd w 97)), (10, .ref (wAd w 98)), (11, .ref (wAd w 99)), (12, .int v12), (13, .int v13), (15, .int z)] [] 5 246) (hE : ∀ y, o = .inr y → Sum.elim (fun y => AtC w p l e ({ frames := 5, cells := 20007, slots := 120258, locals := 139 } : Room) s m args below meth c (MQ below (QI w out.1 out.2 L) args s 20007 120258 (wA w)) 20 366 M L [(0, .ref (wAd w 0)), (1, .int v1), (2, .ref (wAd w 90)), (3, .ref (wAd w 91)), (4, .ref (wAd w 92)), (5, .ref (wAd w 93)), (6, .ref (wAd w 94)), (7, .ref (wAd w 95)), (8, .ref (wAd w 96)), (9, .ref (wAd w 97)), (10, .ref (wAd w 98)), (11, .ref (wAd w 99)), (12, .int v12)] [] 5 246) (fun y => y = out) y) : AtC w p l e ({ frames := 5, cells := 20007, slots := 120258, locals := 139 } : Room) s m args below meth c (MQ below (QI w out.1 out.2 L) args s 20007 120258 (wA w)) 20 320 M L [(0, .ref (wAd w 0)), (1, .int v1), (2, .ref (wAd w 90)), (3, .ref (wAd w 91)), (4, .ref (wAd w 92)), (5, .ref (wAd w 93)), (6, .ref (wAd w 94)), (7, .ref (wAd w 95)), (8, .ref (wAd w 96)), (9, .ref (wAd w 97)), (10, .ref (wAd w 98)), (11, .ref (wAd w 99)), (12, .int v12), (13, .int v13), (15, .int z)] [] 5 246 := by
  intro H locs ls hP hS hl
  unfold f_L_told_l320 at hf
  refine lv_iload C.1 C.2.1 dL_told_320 (lv_at hl 14 rfl) ?_
  refine lv_iconst (v := 4) C.1 C.2.1 dL_told_322 (by decide) ?_
  refine lv_icmp_ge (tgt := 366) C.1 C.2.1 dL_told_323 (by decide) (fun c45 => ?_) (fun c45 => ?_)
  · have hf := (if_pos c45).symm.trans hf
    cases hf
    exact hE _ rfl _ _ _ hP hS (lv_sub hl [0, 1, 2, 3, 4, 5, 6, 7, 8, 9, 10, 11, 12] rfl)
  · have hf := (if_neg c45).symm.trans hf
    refine lv_aload_n C.1 C.2.1 dL_told_326 rfl (lv_at hl 0 rfl) ?_
    refine lv_iload C.1 C.2.1 dL_told_327 (lv_at hl 13 rfl) ?_
    refine lv_iload C.1 C.2.1 dL_told_329 (lv_at hl 14 rfl) ?_
    refine lv_iconst (v := 1) C.1 C.2.1 dL_told_331 (by decide) ?_
    refine lv_iadd C.1 C.2.1 dL_told_332 ?_
    obtain ⟨r46, hr46, hf⟩ := ob hf
    refine kci (kV (As := [.int v13, .int (z + 1)]) (rest := []) C hl.1 hP hS (c_X8_exceedance w l C.2.2.2.2.2.2.2.2 (L := L) hr46) (gV q445 q446 q447 q1 q448) hd_X8_exceedance (C9 C (lt_NoisePost h0_NoisePost)) (ob_NoisePost h0_NoisePost w L _) rfl ⟨rfl, rfl⟩ ⟨Nat.le_of_ble_eq_true rfl, Nat.le_of_ble_eq_true rfl⟩ rfl rfl (Nat.le_of_ble_eq_true rfl) dL_told_333 ⟨Nat.le_of_ble_eq_true rfl, Nat.le_of_ble_eq_true rfl⟩) hS (fun H locs hP hS => ?_)
    refine lv_iload C.1 C.2.1 dL_told_336 (lv_at hl 12 rfl) ?_
    refine lv_iload C.1 C.2.1 dL_told_338 (lv_at hl 14 rfl) ?_
    refine lv_aload C.1 C.2.1 dL_told_340 (lv_at hl 5 rfl) ?_
    refine lv_aload C.1 C.2.1 dL_told_342 (lv_at hl 6 rfl) ?_
    refine lv_aload C.1 C.2.1 dL_told_344 (lv_at hl 7 rfl) ?_
    refine lv_aload C.1 C.2.1 dL_told_346 (lv_at hl 8 rfl) ?_
    refine lv_aload C.1 C.2.1 dL_told_348 (lv_at hl 9 rfl) ?_
    refine lv_aload C.1 C.2.1 dL_told_350 (lv_at hl 10 rfl) ?_
    obtain ⟨r47, hr47, hf⟩ := ob hf
    refine kci (kS (As := [.int v12, .int z, .ref (wAd w 93), .ref (wAd w 94), .ref (wAd w 95), .ref (wAd w 96), .ref (wAd w 97), .ref (wAd w 98)]) (rest := [.int r46]) C hl.1 hP hS (c_L_part w l C.2.2.2.2.2.2.2.2 hN (L := L) hr47) (gS q402 q403 q0 q404) hd_L_part ⟨rfl, rfl⟩ ⟨Nat.le_of_ble_eq_true rfl, Nat.le_of_ble_eq_true rfl⟩ rfl rfl (Nat.le_of_ble_eq_true rfl) dL_told_352 ⟨Nat.le_of_ble_eq_true rfl, Nat.le_of_ble_eq_true rfl⟩) hS (fun H locs hP hS => ?_)
    refine lv_icmp_eq (tgt := 360) C.1 C.2.1 dL_told_355 (by decide) (fun c48 => ?_) (fun c48 => ?_)
    · have hf := (if_pos c48).symm.trans hf
      refine lv_iinc (v := (z + 1)) (lv' := [(15, .int (z + 1)), (0, .ref (wAd w 0)), (1, .int v1), (2, .ref (wAd w 90)), (3, .ref (wAd w 91)), (4, .ref (wAd w 92)), (5, .ref (wAd w 93)), (6, .ref (wAd w 94)), (7, .ref (wAd w 95)), (8, .ref (wAd w 96)), (9, .ref (wAd w 97)), (10, .ref (wAd w 98)), (11, .ref (wAd w 99)), (12, .int v12), (13, .int v13)]) C.1 C.2.1 dL_told_360 hl (k := 14) rfl rfl (by decide) rfl (fun ls hl => ?_)
      refine lv_goto (tgt := 320) C.1 C.2.1 dL_told_363 (by decide) ?_
      cases hf
      exact hA _ rfl _ _ _ hP hS (lv_sub hl [1, 2, 3, 4, 5, 6, 7, 8, 9, 10, 11, 12, 13, 14, 0] rfl)
    · have hf := (if_neg c48).symm.trans hf
      refine lv_iconst (v := 0) C.1 C.2.1 dL_told_358 (by decide) ?_
      cases hf
      cases hE _ rfl
      refine W.widen (k := 20007) (n := 120258) (Nat.le_of_ble_eq_true rfl) (Nat.le_of_ble_eq_true rfl) ?_
      exact krz C hP hS bz0 dL_told_359
set_option maxHeartbeats 4000000 in
set_option maxRecDepth 100000 in
theorem w_L_told_j366 {w : WT} {l : Launch} {p : Program} {e : Env} {s : State} {m : MethodId} {args : Array Value} {below : List Frame} {meth : Method} {c : Code} (C : KC w p s m args meth c cL_told 20 RL (some .boolean)) (hN : 99 ≤ wN w) (hT : wN w = 100) {v1 : Int32} {v12 : Int32} {M : Mem} {L : Lng} {out : Int32 × Mem} {o : (Int32) ⊕ ((Unit) ⊕ (Int32 × Mem))} (hf : f_L_told_j366 v1 v12 M = some o) (hA : ∀ z, o = .inl z → AtC w p l e ({ frames := 5, cells := 20007, slots := 120258, locals := 139 } : Room) s m args below meth c (MQ below (QI w out.1 out.2 L) args s 20007 120258 (wA w)) 20 69 M L [(0, .ref (wAd w 0)), (1, .int v1), (2, .ref (wAd w 90)), (3, .ref (wAd w 91)), (4, .ref (wAd w 92)), (5, .ref (wAd w 93)), (6, .ref (wAd w 94)), (7, .ref (wAd w 95)), (8, .ref (wAd w 96)), (9, .ref (wAd w 97)), (10, .ref (wAd w 98)), (11, .ref (wAd w 99)), (12, .int z)] [] 5 246) (hE : ∀ y, o = .inr y → Sum.elim (fun y => AtC w p l e ({ frames := 5, cells := 20007, slots := 120258, locals := 139 } : Room) s m args below meth c (MQ below (QI w out.1 out.2 L) args s 20007 120258 (wA w)) 20 372 M L [(0, .ref (wAd w 0)), (1, .int v1), (4, .ref (wAd w 92)), (5, .ref (wAd w 93)), (6, .ref (wAd w 94)), (7, .ref (wAd w 95)), (8, .ref (wAd w 96)), (9, .ref (wAd w 97)), (10, .ref (wAd w 98)), (11, .ref (wAd w 99))] [] 5 246) (fun y => y = out) y) : AtC w p l e ({ frames := 5, cells := 20007, slots := 120258, locals := 139 } : Room) s m args below meth c (MQ below (QI w out.1 out.2 L) args s 20007 120258 (wA w)) 20 366 M L [(0, .ref (wAd w 0)), (1, .int v1), (2, .ref (wAd w 90)), (3, .ref (wAd w 91)), (4, .ref (wAd w 92)), (5, .ref (wAd w 93)), (6, .ref (wAd w 94)), (7, .ref (wAd w 95)), (8, .ref (wAd w 96)), (9, .ref (wAd w 97)), (10, .ref (wAd w 98)), (11, .ref (wAd w 99)), (12, .int v12)] [] 5 246 := by
  intro H locs ls hP hS hl
  unfold f_L_told_j366 at hf
  refine lv_iinc (v := (v12 + 1)) (lv' := [(12, .int (v12 + 1)), (0, .ref (wAd w 0)), (1, .int v1), (2, .ref (wAd w 90)), (3, .ref (wAd w 91)), (4, .ref (wAd w 92)), (5, .ref (wAd w 93)), (6, .ref (wAd w 94)), (7, .ref (wAd w 95)), (8, .ref (wAd w 96)), (9, .ref (wAd w 97)), (10, .ref (wAd w 98)), (11, .ref (wAd w 99))]) C.1 C.2.1 dL_told_366 hl (k := 12) rfl rfl (by decide) rfl (fun ls hl => ?_)
  refine lv_goto (tgt := 69) C.1 C.2.1 dL_told_369 (by decide) ?_
  cases hf
  exact hA _ rfl _ _ _ hP hS (lv_sub hl [1, 2, 3, 4, 5, 6, 7, 8, 9, 10, 11, 12, 0] rfl)
set_option maxHeartbeats 4000000 in
set_option maxRecDepth 100000 in
theorem w_L_told_j224 {w : WT} {l : Launch} {p : Program} {e : Env} {s : State} {m : MethodId} {args : Array Value} {below : List Frame} {meth : Method} {c : Code} (C : KC w p s m args meth c cL_told 20 RL (some .boolean)) (hN : 99 ≤ wN w) (hT : wN w = 100) {v1 : Int32} {v12 : Int32} {s0 : Int32} {s1 : Int32} {M : Mem} {L : Lng} {out : Int32 × Mem} {o : (Int32) ⊕ ((Unit) ⊕ (Int32 × Mem))} (hf : f_L_told_j224 v1 v12 s0 s1 M = some o) (hA : ∀ z, o = .inl z → AtC w p l e ({ frames := 5, cells := 20007, slots := 120258, locals := 139 } : Room) s m args below meth c (MQ below (QI w out.1 out.2 L) args s 20007 120258 (wA w)) 20 69 M L [(0, .ref (wAd w 0)), (1, .int v1), (2, .ref (wAd w 90)), (3, .ref (wAd w 91)), (4, .ref (wAd w 92)), (5, .ref (wAd w 93)), (6, .ref (wAd w 94)), (7, .ref (wAd w 95)), (8, .ref (wAd w 96)), (9, .ref (wAd w 97)), (10, .ref (wAd w 98)), (11, .ref (wAd w 99)), (12, .int z)] [] 5 246) (hE : ∀ y, o = .inr y → Sum.elim (fun y => AtC w p l e ({ frames := 5, cells := 20007, slots := 120258, locals := 139 } : Room) s m args below meth c (MQ below (QI w out.1 out.2 L) args s 20007 120258 (wA w)) 20 372 M L [(0, .ref (wAd w 0)), (1, .int v1), (4, .ref (wAd w 92)), (5, .ref (wAd w 93)), (6, .ref (wAd w 94)), (7, .ref (wAd w 95)), (8, .ref (wAd w 96)), (9, .ref (wAd w 97)), (10, .ref (wAd w 98)), (11, .ref (wAd w 99))] [] 5 246) (fun y => y = out) y) : AtC w p l e ({ frames := 5, cells := 20007, slots := 120258, locals := 139 } : Room) s m args below meth c (MQ below (QI w out.1 out.2 L) args s 20007 120258 (wA w)) 20 224 M L [(0, .ref (wAd w 0)), (1, .int v1), (2, .ref (wAd w 90)), (3, .ref (wAd w 91)), (4, .ref (wAd w 92)), (5, .ref (wAd w 93)), (6, .ref (wAd w 94)), (7, .ref (wAd w 95)), (8, .ref (wAd w 96)), (9, .ref (wAd w 97)), (10, .ref (wAd w 98)), (11, .ref (wAd w 99)), (12, .int v12)] [.int s1, .int s0] 5 246 := by
  intro H locs ls hP hS hl
  unfold f_L_told_j224 at hf
  refine lv_icmp_eq (tgt := 229) C.1 C.2.1 dL_told_224 (by decide) (fun c32 => ?_) (fun c32 => ?_)
  · have hf := (if_pos c32).symm.trans hf
    refine lv_aload C.1 C.2.1 dL_told_229 (lv_at hl 10 rfl) ?_
    refine lv_iload C.1 C.2.1 dL_told_231 (lv_at hl 12 rfl) ?_
    obtain ⟨x33, hx33, hf⟩ := ob hf
    refine k_iald C hP (Nat.lt_of_lt_of_le (Nat.le_of_ble_eq_true rfl) hN) (ar_L98 w L _) hx33 dL_told_233 ?_
    refine lv_iload C.1 C.2.1 dL_told_234 (lv_at hl 12 rfl) ?_
    refine lv_icmp_eq (tgt := 242) C.1 C.2.1 dL_told_236 (by decide) (fun c34 => ?_) (fun c34 => ?_)
    · have hf := (if_pos c34).symm.trans hf
      refine lv_iload C.1 C.2.1 dL_told_242 (lv_at hl 12 rfl) ?_
      refine lv_aload C.1 C.2.1 dL_told_244 (lv_at hl 10 rfl) ?_
      obtain ⟨r35, hr35, hf⟩ := ob hf
      refine kci (kS (As := [.int v12, .ref (wAd w 98)]) (rest := []) C hl.1 hP hS (c_L_number w l C.2.2.2.2.2.2.2.2 hN (L := L) hr35) (gS q442 q443 q0 q444) hd_L_number ⟨rfl, rfl⟩ ⟨Nat.le_of_ble_eq_true rfl, Nat.le_of_ble_eq_true rfl⟩ rfl rfl (Nat.le_of_ble_eq_true rfl) dL_told_246 ⟨Nat.le_of_ble_eq_true rfl, Nat.le_of_ble_eq_true rfl⟩) hS (fun H locs hP hS => ?_)
      refine lv_istore (lv' := [(13, .int r35), (0, .ref (wAd w 0)), (1, .int v1), (2, .ref (wAd w 90)), (3, .ref (wAd w 91)), (4, .ref (wAd w 92)), (5, .ref (wAd w 93)), (6, .ref (wAd w 94)), (7, .ref (wAd w 95)), (8, .ref (wAd w 96)), (9, .ref (wAd w 97)), (10, .ref (wAd w 98)), (11, .ref (wAd w 99)), (12, .int v12)]) C.1 C.2.1 dL_told_249 hl (by decide) rfl (fun ls hl => ?_)
      refine lv_iconst (v := (-1)) C.1 C.2.1 dL_told_251 (by decide) ?_
      refine lv_istore (lv' := [(14, .int (-1)), (13, .int r35), (0, .ref (wAd w 0)), (1, .int v1), (2, .ref (wAd w 90)), (3, .ref (wAd w 91)), (4, .ref (wAd w 92)), (5, .ref (wAd w 93)), (6, .ref (wAd w 94)), (7, .ref (wAd w 95)), (8, .ref (wAd w 96)), (9, .ref (wAd w 97)), (10, .ref (wAd w 98)), (11, .ref (wAd w 99)), (12, .int v12)]) C.1 C.2.1 dL_told_252 hl (by decide) rfl (fun ls hl => ?_)
      refine lv_iconst (v := 0) C.1 C.2.1 dL_told_254 (by decide) ?_
      refine lv_istore (lv' := [(15, .int 0), (14, .int (-1)), (13, .int r35), (0, .ref (wAd w 0)), (1, .int v1), (2, .ref (wAd w 90)), (3, .ref (wAd w 91)), (4, .ref (wAd w 92)), (5, .ref (wAd w 93)), (6, .ref (wAd w 94)), (7, .ref (wAd w 95)), (8, .ref (wAd w 96)), (9, .ref (wAd w 97)), (10, .ref (wAd w 98)), (11, .ref (wAd w 99)), (12, .int v12)]) C.1 C.2.1 dL_told_255 hl (by decide) rfl (fun ls hl => ?_)
      obtain ⟨o40, ho40, hf⟩ := ob hf
      refine loop_at (w_L_told_l257 C hN hT) FU _ o40 ho40 ?_ _ _ _ hP hS (lv_sub hl [3, 4, 5, 6, 7, 8, 9, 10, 11, 12, 13, 14, 15, 2, 1, 0] rfl)
      intro H locs ls hP hS hl
      refine lv_aload_n C.1 C.2.1 dL_told_291 rfl (lv_at hl 0 rfl) ?_
      refine lv_iload C.1 C.2.1 dL_told_292 (lv_at hl 13 rfl) ?_
      refine lv_iconst (v := 0) C.1 C.2.1 dL_told_294 (by decide) ?_
      obtain ⟨r41, hr41, hf⟩ := ob hf
      refine kci (kV (As := [.int r35, .int 0]) (rest := []) C hl.1 hP hS (c_X8_exceedance w l C.2.2.2.2.2.2.2.2 (L := L) hr41) (gV q445 q446 q447 q1 q448) hd_X8_exceedance (C9 C (lt_NoisePost h0_NoisePost)) (ob_NoisePost h0_NoisePost w L _) rfl ⟨rfl, rfl⟩ ⟨Nat.le_of_ble_eq_true rfl, Nat.le_of_ble_eq_true rfl⟩ rfl rfl (Nat.le_of_ble_eq_true rfl) dL_told_295 ⟨Nat.le_of_ble_eq_true rfl, Nat.le_of_ble_eq_true rfl⟩) hS (fun H locs hP hS => ?_)
      refine lv_iload C.1 C.2.1 dL_told_298 (lv_at hl 12 rfl) ?_
      refine lv_icmp_ne (tgt := 315) C.1 C.2.1 dL_told_300 (by decide) (fun c42 => ?_) (fun c42 => ?_)
      · have hf := (if_neg c42).symm.trans hf
        refine lv_iconst (v := 0) C.1 C.2.1 dL_told_315 (by decide) ?_
        cases hf
        cases hE _ rfl
        refine W.widen (k := 20007) (n := 120258) (Nat.le_of_ble_eq_true rfl) (Nat.le_of_ble_eq_true rfl) ?_
        exact krz C hP hS bz0 dL_told_316
      · have hf := (if_pos c42).symm.trans hf
        refine lv_aload_n C.1 C.2.1 dL_told_303 rfl (lv_at hl 0 rfl) ?_
        refine lv_iload C.1 C.2.1 dL_told_304 (lv_at hl 13 rfl) ?_
        refine lv_iconst (v := 5) C.1 C.2.1 dL_told_306 (by decide) ?_
        obtain ⟨r43, hr43, hf⟩ := ob hf
        refine kci (kV (As := [.int r35, .int 5]) (rest := []) C hl.1 hP hS (c_X8_exceedance w l C.2.2.2.2.2.2.2.2 (L := L) hr43) (gV q445 q446 q447 q1 q448) hd_X8_exceedance (C9 C (lt_NoisePost h0_NoisePost)) (ob_NoisePost h0_NoisePost w L _) rfl ⟨rfl, rfl⟩ ⟨Nat.le_of_ble_eq_true rfl, Nat.le_of_ble_eq_true rfl⟩ rfl rfl (Nat.le_of_ble_eq_true rfl) dL_told_307 ⟨Nat.le_of_ble_eq_true rfl, Nat.le_of_ble_eq_true rfl⟩) hS (fun H locs hP hS => ?_)
        refine lv_iload C.1 C.2.1 dL_told_310 (lv_at hl 14 rfl) ?_
        refine lv_icmp_eq (tgt := 317) C.1 C.2.1 dL_told_312 (by decide) (fun c44 => ?_) (fun c44 => ?_)
        · have hf := (if_pos c44).symm.trans hf
          refine lv_iconst (v := 0) C.1 C.2.1 dL_told_317 (by decide) ?_
          refine lv_istore (lv' := [(15, .int 0), (0, .ref (wAd w 0)), (1, .int v1), (2, .ref (wAd w 90)), (3, .ref (wAd w 91)), (4, .ref (wAd w 92)), (5, .ref (wAd w 93)), (6, .ref (wAd w 94)), (7, .ref (wAd w 95)), (8, .ref (wAd w 96)), (9, .ref (wAd w 97)), (10, .ref (wAd w 98)), (11, .ref (wAd w 99)), (12, .int v12), (13, .int r35), (14, .int o40)]) C.1 C.2.1 dL_told_318 hl (by decide) rfl (fun ls hl => ?_)
          obtain ⟨o49, ho49, hf⟩ := ob hf
          refine loop_at (w_L_told_l320 C hN hT (out := out)) FU _ o49 ho49 ?_ _ _ _ hP hS (lv_sub hl [1, 2, 3, 4, 5, 6, 7, 8, 9, 10, 11, 12, 13, 14, 0] rfl)
          rcases o49 with o49 | o49
          · simp only [Sum.elim_inl] at hf
            intro H locs ls hP hS hl
            exact w_L_told_j366 C hN hT hf hA hE _ _ _ hP hS hl
          · simp only [Sum.elim_inr] at hf
            cases hf
            exact hE _ rfl
        · have hf := (if_neg c44).symm.trans hf
          refine lv_iconst (v := 0) C.1 C.2.1 dL_told_315 (by decide) ?_
          cases hf
          cases hE _ rfl
          refine W.widen (k := 20007) (n := 120258) (Nat.le_of_ble_eq_true rfl) (Nat.le_of_ble_eq_true rfl) ?_
          exact krz C hP hS bz0 dL_told_316
    · have hf := (if_neg c34).symm.trans hf
      refine lv_goto (tgt := 366) C.1 C.2.1 dL_told_239 (by decide) ?_
      exact w_L_told_j366 C hN hT hf hA hE _ _ _ hP hS hl
  · have hf := (if_neg c32).symm.trans hf
    refine lv_iconst (v := 0) C.1 C.2.1 dL_told_227 (by decide) ?_
    cases hf
    cases hE _ rfl
    refine W.widen (k := 20007) (n := 120258) (Nat.le_of_ble_eq_true rfl) (Nat.le_of_ble_eq_true rfl) ?_
    exact krz C hP hS bz0 dL_told_228
set_option maxHeartbeats 4000000 in
set_option maxRecDepth 100000 in
theorem w_L_told_j175 {w : WT} {l : Launch} {p : Program} {e : Env} {s : State} {m : MethodId} {args : Array Value} {below : List Frame} {meth : Method} {c : Code} (C : KC w p s m args meth c cL_told 20 RL (some .boolean)) (hN : 99 ≤ wN w) (hT : wN w = 100) {v1 : Int32} {v12 : Int32} {s0 : Int32} {s1 : Int32} {M : Mem} {L : Lng} {out : Int32 × Mem} {o : (Int32) ⊕ ((Unit) ⊕ (Int32 × Mem))} (hf : f_L_told_j175 v1 v12 s0 s1 M = some o) (hA : ∀ z, o = .inl z → AtC w p l e ({ frames := 5, cells := 20007, slots := 120258, locals := 139 } : Room) s m args below meth c (MQ below (QI w out.1 out.2 L) args s 20007 120258 (wA w)) 20 69 M L [(0, .ref (wAd w 0)), (1, .int v1), (2, .ref (wAd w 90)), (3, .ref (wAd w 91)), (4, .ref (wAd w 92)), (5, .ref (wAd w 93)), (6, .ref (wAd w 94)), (7, .ref (wAd w 95)), (8, .ref (wAd w 96)), (9, .ref (wAd w 97)), (10, .ref (wAd w 98)), (11, .ref (wAd w 99)), (12, .int z)] [] 5 246) (hE : ∀ y, o = .inr y → Sum.elim (fun y => AtC w p l e ({ frames := 5, cells := 20007, slots := 120258, locals := 139 } : Room) s m args below meth c (MQ below (QI w out.1 out.2 L) args s 20007 120258 (wA w)) 20 372 M L [(0, .ref (wAd w 0)), (1, .int v1), (4, .ref (wAd w 92)), (5, .ref (wAd w 93)), (6, .ref (wAd w 94)), (7, .ref (wAd w 95)), (8, .ref (wAd w 96)), (9, .ref (wAd w 97)), (10, .ref (wAd w 98)), (11, .ref (wAd w 99))] [] 5 246) (fun y => y = out) y) : AtC w p l e ({ frames := 5, cells := 20007, slots := 120258, locals := 139 } : Room) s m args below meth c (MQ below (QI w out.1 out.2 L) args s 20007 120258 (wA w)) 20 175 M L [(0, .ref (wAd w 0)), (1, .int v1), (2, .ref (wAd w 90)), (3, .ref (wAd w 91)), (4, .ref (wAd w 92)), (5, .ref (wAd w 93)), (6, .ref (wAd w 94)), (7, .ref (wAd w 95)), (8, .ref (wAd w 96)), (9, .ref (wAd w 97)), (10, .ref (wAd w 98)), (11, .ref (wAd w 99)), (12, .int v12)] [.int s1, .int s0] 5 246 := by
  intro H locs ls hP hS hl
  unfold f_L_told_j175 at hf
  refine lv_icmp_ne (tgt := 227) C.1 C.2.1 dL_told_175 (by decide) (fun c23 => ?_) (fun c23 => ?_)
  · have hf := (if_neg c23).symm.trans hf
    refine lv_iconst (v := 0) C.1 C.2.1 dL_told_227 (by decide) ?_
    cases hf
    cases hE _ rfl
    refine W.widen (k := 20007) (n := 120258) (Nat.le_of_ble_eq_true rfl) (Nat.le_of_ble_eq_true rfl) ?_
    exact krz C hP hS bz0 dL_told_228
  · have hf := (if_pos c23).symm.trans hf
    refine lv_aload_n C.1 C.2.1 dL_told_178 rfl (lv_at hl 0 rfl) ?_
    refine lv_iload C.1 C.2.1 dL_told_179 (lv_at hl 12 rfl) ?_
    refine lv_bipush (v := 6) C.1 C.2.1 dL_told_181 (by decide) ?_
    obtain ⟨r24, hr24, hf⟩ := ob hf
    refine kci (kV (As := [.int v12, .int 6]) (rest := []) C hl.1 hP hS (c_X8_minute w l C.2.2.2.2.2.2.2.2 (L := L) hr24) (gV q405 q406 q407 q1 q408) hd_X8_minute (C9 C (lt_NoisePost h0_NoisePost)) (ob_NoisePost h0_NoisePost w L _) rfl ⟨rfl, rfl⟩ ⟨Nat.le_of_ble_eq_true rfl, Nat.le_of_ble_eq_true rfl⟩ rfl rfl (Nat.le_of_ble_eq_true rfl) dL_told_183 ⟨Nat.le_of_ble_eq_true rfl, Nat.le_of_ble_eq_true rfl⟩) hS (fun H locs hP hS => ?_)
    refine lv_aload C.1 C.2.1 dL_told_186 (lv_at hl 9 rfl) ?_
    refine lv_iload C.1 C.2.1 dL_told_188 (lv_at hl 12 rfl) ?_
    obtain ⟨x25, hx25, hf⟩ := ob hf
    refine k_iald C hP (Nat.lt_of_lt_of_le (Nat.le_of_ble_eq_true rfl) hN) (ar_L97 w L _) hx25 dL_told_190 ?_
    refine lv_icmp_ne (tgt := 227) C.1 C.2.1 dL_told_191 (by decide) (fun c26 => ?_) (fun c26 => ?_)
    · have hf := (if_neg c26).symm.trans hf
      refine lv_iconst (v := 0) C.1 C.2.1 dL_told_227 (by decide) ?_
      cases hf
      cases hE _ rfl
      refine W.widen (k := 20007) (n := 120258) (Nat.le_of_ble_eq_true rfl) (Nat.le_of_ble_eq_true rfl) ?_
      exact krz C hP hS bz0 dL_told_228
    · have hf := (if_pos c26).symm.trans hf
      refine lv_aload_n C.1 C.2.1 dL_told_194 rfl (lv_at hl 0 rfl) ?_
      refine lv_iload C.1 C.2.1 dL_told_195 (lv_at hl 12 rfl) ?_
      refine lv_bipush (v := 7) C.1 C.2.1 dL_told_197 (by decide) ?_
      obtain ⟨r27, hr27, hf⟩ := ob hf
      refine kci (kV (As := [.int v12, .int 7]) (rest := []) C hl.1 hP hS (c_X8_minute w l C.2.2.2.2.2.2.2.2 (L := L) hr27) (gV q405 q406 q407 q1 q408) hd_X8_minute (C9 C (lt_NoisePost h0_NoisePost)) (ob_NoisePost h0_NoisePost w L _) rfl ⟨rfl, rfl⟩ ⟨Nat.le_of_ble_eq_true rfl, Nat.le_of_ble_eq_true rfl⟩ rfl rfl (Nat.le_of_ble_eq_true rfl) dL_told_199 ⟨Nat.le_of_ble_eq_true rfl, Nat.le_of_ble_eq_true rfl⟩) hS (fun H locs hP hS => ?_)
      refine lv_aload C.1 C.2.1 dL_told_202 (lv_at hl 10 rfl) ?_
      refine lv_iload C.1 C.2.1 dL_told_204 (lv_at hl 12 rfl) ?_
      obtain ⟨x28, hx28, hf⟩ := ob hf
      refine k_iald C hP (Nat.lt_of_lt_of_le (Nat.le_of_ble_eq_true rfl) hN) (ar_L98 w L _) hx28 dL_told_206 ?_
      refine lv_if_ge (tgt := 214) C.1 C.2.1 dL_told_207 (by decide) (fun c29 => ?_) (fun c29 => ?_)
      · have hf := (if_pos c29).symm.trans hf
        refine lv_aload C.1 C.2.1 dL_told_214 (lv_at hl 10 rfl) ?_
        refine lv_iload C.1 C.2.1 dL_told_216 (lv_at hl 12 rfl) ?_
        obtain ⟨x30, hx30, hf⟩ := ob hf
        refine k_iald C hP (Nat.lt_of_lt_of_le (Nat.le_of_ble_eq_true rfl) hN) (ar_L98 w L _) hx30 dL_told_218 ?_
        refine lv_aload C.1 C.2.1 dL_told_219 (lv_at hl 10 rfl) ?_
        obtain ⟨r31, hr31, hf⟩ := ob hf
        refine kci (kS (As := [.int x30, .ref (wAd w 98)]) (rest := [.int r27]) C hl.1 hP hS (c_L_number w l C.2.2.2.2.2.2.2.2 hN (L := L) hr31) (gS q442 q443 q0 q444) hd_L_number ⟨rfl, rfl⟩ ⟨Nat.le_of_ble_eq_true rfl, Nat.le_of_ble_eq_true rfl⟩ rfl rfl (Nat.le_of_ble_eq_true rfl) dL_told_221 ⟨Nat.le_of_ble_eq_true rfl, Nat.le_of_ble_eq_true rfl⟩) hS (fun H locs hP hS => ?_)
        exact w_L_told_j224 C hN hT hf hA hE _ _ _ hP hS hl
      · have hf := (if_neg c29).symm.trans hf
        refine lv_iconst (v := (-1)) C.1 C.2.1 dL_told_210 (by decide) ?_
        refine lv_goto (tgt := 224) C.1 C.2.1 dL_told_211 (by decide) ?_
        exact w_L_told_j224 C hN hT hf hA hE _ _ _ hP hS hl
set_option maxHeartbeats 4000000 in
set_option maxRecDepth 100000 in
theorem w_L_told_l69 {w : WT} {l : Launch} {p : Program} {e : Env} {s : State} {m : MethodId} {args : Array Value} {below : List Frame} {meth : Method} {c : Code} (C : KC w p s m args meth c cL_told 20 RL (some .boolean)) (hN : 99 ≤ wN w) (hT : wN w = 100) {v1 : Int32} {M : Mem} {L : Lng} {out : Int32 × Mem} (z : Int32) (o : (Int32) ⊕ ((Unit) ⊕ (Int32 × Mem))) (hf : f_L_told_l69 v1 M z = some o) (hA : ∀ z, o = .inl z → AtC w p l e ({ frames := 5, cells := 20007, slots := 120258, locals := 139 } : Room) s m args below meth c (MQ below (QI w out.1 out.2 L) args s 20007 120258 (wA w)) 20 69 M L [(0, .ref (wAd w 0)), (1, .int v1), (2, .ref (wAd w 90)), (3, .ref (wAd w 91)), (4, .ref (wAd w 92)), (5, .ref (wAd w 93)), (6, .ref (wAd w 94)), (7, .ref (wAd w 95)), (8, .ref (wAd w 96)), (9, .ref (wAd w 97)), (10, .ref (wAd w 98)), (11, .ref (wAd w 99)), (12, .int z)] [] 5 246) (hE : ∀ y, o = .inr y → Sum.elim (fun y => AtC w p l e ({ frames := 5, cells := 20007, slots := 120258, locals := 139 } : Room) s m args below meth c (MQ below (QI w out.1 out.2 L) args s 20007 120258 (wA w)) 20 372 M L [(0, .ref (wAd w 0)), (1, .int v1), (4, .ref (wAd w 92)), (5, .ref (wAd w 93)), (6, .ref (wAd w 94)), (7, .ref (wAd w 95)), (8, .ref (wAd w 96)), (9, .ref (wAd w 97)), (10, .ref (wAd w 98)), (11, .ref (wAd w 99))] [] 5 246) (fun y => y = out) y) : AtC w p l e ({ frames := 5, cells := 20007, slots := 120258, locals := 139 } : Room) s m args below meth c (MQ below (QI w out.1 out.2 L) args s 20007 120258 (wA w)) 20 69 M L [(0, .ref (wAd w 0)), (1, .int v1), (2, .ref (wAd w 90)), (3, .ref (wAd w 91)), (4, .ref (wAd w 92)), (5, .ref (wAd w 93)), (6, .ref (wAd w 94)), (7, .ref (wAd w 95)), (8, .ref (wAd w 96)), (9, .ref (wAd w 97)), (10, .ref (wAd w 98)), (11, .ref (wAd w 99)), (12, .int z)] [] 5 246 := by
  intro H locs ls hP hS hl
  unfold f_L_told_l69 at hf
  refine lv_iload C.1 C.2.1 dL_told_69 (lv_at hl 12 rfl) ?_
  refine lv_aload C.1 C.2.1 dL_told_71 (lv_at hl 5 rfl) ?_
  refine lv_iconst (v := 0) C.1 C.2.1 dL_told_73 (by decide) ?_
  obtain ⟨x3, hx3, hf⟩ := ob hf
  refine k_iald C hP (C9 C (Nat.le_of_ble_eq_true rfl)) (ar_L93 w L _) hx3 dL_told_74 ?_
  refine lv_icmp_ge (tgt := 372) C.1 C.2.1 dL_told_75 (by decide) (fun c4 => ?_) (fun c4 => ?_)
  · have hf := (if_pos c4).symm.trans hf
    cases hf
    exact hE _ rfl _ _ _ hP hS (lv_sub hl [0, 1, 4, 5, 6, 7, 8, 9, 10, 11] rfl)
  · have hf := (if_neg c4).symm.trans hf
    refine lv_aload_n C.1 C.2.1 dL_told_78 rfl (lv_at hl 0 rfl) ?_
    refine lv_iload C.1 C.2.1 dL_told_79 (lv_at hl 12 rfl) ?_
    refine lv_iconst (v := 0) C.1 C.2.1 dL_told_81 (by decide) ?_
    obtain ⟨r5, hr5, hf⟩ := ob hf
    refine kci (kV (As := [.int z, .int 0]) (rest := []) C hl.1 hP hS (c_X8_minute w l C.2.2.2.2.2.2.2.2 (L := L) hr5) (gV q405 q406 q407 q1 q408) hd_X8_minute (C9 C (lt_NoisePost h0_NoisePost)) (ob_NoisePost h0_NoisePost w L _) rfl ⟨rfl, rfl⟩ ⟨Nat.le_of_ble_eq_true rfl, Nat.le_of_ble_eq_true rfl⟩ rfl rfl (Nat.le_of_ble_eq_true rfl) dL_told_82 ⟨Nat.le_of_ble_eq_true rfl, Nat.le_of_ble_eq_true rfl⟩) hS (fun H locs hP hS => ?_)
    refine lv_aload_n C.1 C.2.1 dL_told_85 rfl (lv_at hl 2 rfl) ?_
    refine lv_iload C.1 C.2.1 dL_told_86 (lv_at hl 12 rfl) ?_
    obtain ⟨x6, hx6, hf⟩ := ob hf
    refine k_iald C hP (C9 C (Nat.le_of_ble_eq_true rfl)) (ar_L90 w L _) hx6 dL_told_88 ?_
    refine lv_icmp_ne (tgt := 227) C.1 C.2.1 dL_told_89 (by decide) (fun c7 => ?_) (fun c7 => ?_)
    · have hf := (if_neg c7).symm.trans hf
      refine lv_iconst (v := 0) C.1 C.2.1 dL_told_227 (by decide) ?_
      cases hf
      cases hE _ rfl
      refine W.widen (k := 20007) (n := 120258) (Nat.le_of_ble_eq_true rfl) (Nat.le_of_ble_eq_true rfl) ?_
      exact krz C hP hS bz0 dL_told_228
    · have hf := (if_pos c7).symm.trans hf
      refine lv_aload_n C.1 C.2.1 dL_told_92 rfl (lv_at hl 0 rfl) ?_
      refine lv_iload C.1 C.2.1 dL_told_93 (lv_at hl 12 rfl) ?_
      refine lv_iconst (v := 1) C.1 C.2.1 dL_told_95 (by decide) ?_
      obtain ⟨r8, hr8, hf⟩ := ob hf
      refine kci (kV (As := [.int z, .int 1]) (rest := []) C hl.1 hP hS (c_X8_minute w l C.2.2.2.2.2.2.2.2 (L := L) hr8) (gV q405 q406 q407 q1 q408) hd_X8_minute (C9 C (lt_NoisePost h0_NoisePost)) (ob_NoisePost h0_NoisePost w L _) rfl ⟨rfl, rfl⟩ ⟨Nat.le_of_ble_eq_true rfl, Nat.le_of_ble_eq_true rfl⟩ rfl rfl (Nat.le_of_ble_eq_true rfl) dL_told_96 ⟨Nat.le_of_ble_eq_true rfl, Nat.le_of_ble_eq_true rfl⟩) hS (fun H locs hP hS => ?_)
      refine lv_aload_n C.1 C.2.1 dL_told_99 rfl (lv_at hl 3 rfl) ?_
      refine lv_iload C.1 C.2.1 dL_told_100 (lv_at hl 12 rfl) ?_
      obtain ⟨x9, hx9, hf⟩ := ob hf
      refine k_iald C hP (C9 C (Nat.le_of_ble_eq_true rfl)) (ar_L91 w L _) hx9 dL_told_102 ?_
      refine lv_icmp_ne (tgt := 227) C.1 C.2.1 dL_told_103 (by decide) (fun c10 => ?_) (fun c10 => ?_)
      · have hf := (if_neg c10).symm.trans hf
        refine lv_iconst (v := 0) C.1 C.2.1 dL_told_227 (by decide) ?_
        cases hf
        cases hE _ rfl
        refine W.widen (k := 20007) (n := 120258) (Nat.le_of_ble_eq_true rfl) (Nat.le_of_ble_eq_true rfl) ?_
        exact krz C hP hS bz0 dL_told_228
      · have hf := (if_pos c10).symm.trans hf
        refine lv_aload_n C.1 C.2.1 dL_told_106 rfl (lv_at hl 0 rfl) ?_
        refine lv_iload C.1 C.2.1 dL_told_107 (lv_at hl 12 rfl) ?_
        refine lv_iconst (v := 2) C.1 C.2.1 dL_told_109 (by decide) ?_
        obtain ⟨r11, hr11, hf⟩ := ob hf
        refine kci (kV (As := [.int z, .int 2]) (rest := []) C hl.1 hP hS (c_X8_minute w l C.2.2.2.2.2.2.2.2 (L := L) hr11) (gV q405 q406 q407 q1 q408) hd_X8_minute (C9 C (lt_NoisePost h0_NoisePost)) (ob_NoisePost h0_NoisePost w L _) rfl ⟨rfl, rfl⟩ ⟨Nat.le_of_ble_eq_true rfl, Nat.le_of_ble_eq_true rfl⟩ rfl rfl (Nat.le_of_ble_eq_true rfl) dL_told_110 ⟨Nat.le_of_ble_eq_true rfl, Nat.le_of_ble_eq_true rfl⟩) hS (fun H locs hP hS => ?_)
        refine lv_aload C.1 C.2.1 dL_told_113 (lv_at hl 7 rfl) ?_
        refine lv_iload C.1 C.2.1 dL_told_115 (lv_at hl 12 rfl) ?_
        obtain ⟨x12, hx12, hf⟩ := ob hf
        refine k_iald C hP (Nat.lt_of_lt_of_le (Nat.le_of_ble_eq_true rfl) hN) (ar_L95 w L _) hx12 dL_told_117 ?_
        refine lv_icmp_ne (tgt := 227) C.1 C.2.1 dL_told_118 (by decide) (fun c13 => ?_) (fun c13 => ?_)
        · have hf := (if_neg c13).symm.trans hf
          refine lv_iconst (v := 0) C.1 C.2.1 dL_told_227 (by decide) ?_
          cases hf
          cases hE _ rfl
          refine W.widen (k := 20007) (n := 120258) (Nat.le_of_ble_eq_true rfl) (Nat.le_of_ble_eq_true rfl) ?_
          exact krz C hP hS bz0 dL_told_228
        · have hf := (if_pos c13).symm.trans hf
          refine lv_aload_n C.1 C.2.1 dL_told_121 rfl (lv_at hl 0 rfl) ?_
          refine lv_iload C.1 C.2.1 dL_told_122 (lv_at hl 12 rfl) ?_
          refine lv_iconst (v := 3) C.1 C.2.1 dL_told_124 (by decide) ?_
          obtain ⟨r14, hr14, hf⟩ := ob hf
          refine kci (kV (As := [.int z, .int 3]) (rest := []) C hl.1 hP hS (c_X8_minute w l C.2.2.2.2.2.2.2.2 (L := L) hr14) (gV q405 q406 q407 q1 q408) hd_X8_minute (C9 C (lt_NoisePost h0_NoisePost)) (ob_NoisePost h0_NoisePost w L _) rfl ⟨rfl, rfl⟩ ⟨Nat.le_of_ble_eq_true rfl, Nat.le_of_ble_eq_true rfl⟩ rfl rfl (Nat.le_of_ble_eq_true rfl) dL_told_125 ⟨Nat.le_of_ble_eq_true rfl, Nat.le_of_ble_eq_true rfl⟩) hS (fun H locs hP hS => ?_)
          refine lv_aload C.1 C.2.1 dL_told_128 (lv_at hl 8 rfl) ?_
          refine lv_iload C.1 C.2.1 dL_told_130 (lv_at hl 12 rfl) ?_
          obtain ⟨x15, hx15, hf⟩ := ob hf
          refine k_iald C hP (Nat.lt_of_lt_of_le (Nat.le_of_ble_eq_true rfl) hN) (ar_L96 w L _) hx15 dL_told_132 ?_
          refine lv_icmp_ne (tgt := 227) C.1 C.2.1 dL_told_133 (by decide) (fun c16 => ?_) (fun c16 => ?_)
          · have hf := (if_neg c16).symm.trans hf
            refine lv_iconst (v := 0) C.1 C.2.1 dL_told_227 (by decide) ?_
            cases hf
            cases hE _ rfl
            refine W.widen (k := 20007) (n := 120258) (Nat.le_of_ble_eq_true rfl) (Nat.le_of_ble_eq_true rfl) ?_
            exact krz C hP hS bz0 dL_told_228
          · have hf := (if_pos c16).symm.trans hf
            refine lv_aload_n C.1 C.2.1 dL_told_136 rfl (lv_at hl 0 rfl) ?_
            refine lv_iload C.1 C.2.1 dL_told_137 (lv_at hl 12 rfl) ?_
            refine lv_iconst (v := 4) C.1 C.2.1 dL_told_139 (by decide) ?_
            obtain ⟨r17, hr17, hf⟩ := ob hf
            refine kci (kV (As := [.int z, .int 4]) (rest := []) C hl.1 hP hS (c_X8_minute w l C.2.2.2.2.2.2.2.2 (L := L) hr17) (gV q405 q406 q407 q1 q408) hd_X8_minute (C9 C (lt_NoisePost h0_NoisePost)) (ob_NoisePost h0_NoisePost w L _) rfl ⟨rfl, rfl⟩ ⟨Nat.le_of_ble_eq_true rfl, Nat.le_of_ble_eq_true rfl⟩ rfl rfl (Nat.le_of_ble_eq_true rfl) dL_told_140 ⟨Nat.le_of_ble_eq_true rfl, Nat.le_of_ble_eq_true rfl⟩) hS (fun H locs hP hS => ?_)
            refine lv_iload C.1 C.2.1 dL_told_143 (lv_at hl 12 rfl) ?_
            refine lv_aload C.1 C.2.1 dL_told_145 (lv_at hl 6 rfl) ?_
            obtain ⟨r18, hr18, hf⟩ := ob hf
            refine kci (kS (As := [.int z, .ref (wAd w 94)]) (rest := [.int r17]) C hl.1 hP hS (c_L_limit w l C.2.2.2.2.2.2.2.2 (L := L) hr18) (gS q393 q394 q0 q395) hd_L_limit ⟨rfl, rfl⟩ ⟨Nat.le_of_ble_eq_true rfl, Nat.le_of_ble_eq_true rfl⟩ rfl rfl (Nat.le_of_ble_eq_true rfl) dL_told_147 ⟨Nat.le_of_ble_eq_true rfl, Nat.le_of_ble_eq_true rfl⟩) hS (fun H locs hP hS => ?_)
            refine lv_icmp_ne (tgt := 227) C.1 C.2.1 dL_told_150 (by decide) (fun c19 => ?_) (fun c19 => ?_)
            · have hf := (if_neg c19).symm.trans hf
              refine lv_iconst (v := 0) C.1 C.2.1 dL_told_227 (by decide) ?_
              cases hf
              cases hE _ rfl
              refine W.widen (k := 20007) (n := 120258) (Nat.le_of_ble_eq_true rfl) (Nat.le_of_ble_eq_true rfl) ?_
              exact krz C hP hS bz0 dL_told_228
            · have hf := (if_pos c19).symm.trans hf
              refine lv_aload_n C.1 C.2.1 dL_told_153 rfl (lv_at hl 0 rfl) ?_
              refine lv_iload C.1 C.2.1 dL_told_154 (lv_at hl 12 rfl) ?_
              refine lv_iconst (v := 5) C.1 C.2.1 dL_told_156 (by decide) ?_
              obtain ⟨r20, hr20, hf⟩ := ob hf
              refine kci (kV (As := [.int z, .int 5]) (rest := []) C hl.1 hP hS (c_X8_minute w l C.2.2.2.2.2.2.2.2 (L := L) hr20) (gV q405 q406 q407 q1 q408) hd_X8_minute (C9 C (lt_NoisePost h0_NoisePost)) (ob_NoisePost h0_NoisePost w L _) rfl ⟨rfl, rfl⟩ ⟨Nat.le_of_ble_eq_true rfl, Nat.le_of_ble_eq_true rfl⟩ rfl rfl (Nat.le_of_ble_eq_true rfl) dL_told_157 ⟨Nat.le_of_ble_eq_true rfl, Nat.le_of_ble_eq_true rfl⟩) hS (fun H locs hP hS => ?_)
              refine lv_iload C.1 C.2.1 dL_told_160 (lv_at hl 12 rfl) ?_
              refine lv_aload C.1 C.2.1 dL_told_162 (lv_at hl 6 rfl) ?_
              obtain ⟨r21, hr21, hf⟩ := ob hf
              refine kci (kS (As := [.int z, .ref (wAd w 94)]) (rest := [.int r20]) C hl.1 hP hS (c_L_rest w l C.2.2.2.2.2.2.2.2 (L := L) hr21) (gS q396 q397 q0 q398) hd_L_rest ⟨rfl, rfl⟩ ⟨Nat.le_of_ble_eq_true rfl, Nat.le_of_ble_eq_true rfl⟩ rfl rfl (Nat.le_of_ble_eq_true rfl) dL_told_164 ⟨Nat.le_of_ble_eq_true rfl, Nat.le_of_ble_eq_true rfl⟩) hS (fun H locs hP hS => ?_)
              refine lv_if_eq (tgt := 174) C.1 C.2.1 dL_told_167 (by decide) (fun c22 => ?_) (fun c22 => ?_)
              · have hf := (if_pos c22).symm.trans hf
                refine lv_iconst (v := 0) C.1 C.2.1 dL_told_174 (by decide) ?_
                exact w_L_told_j175 C hN hT hf hA hE _ _ _ hP hS hl
              · have hf := (if_neg c22).symm.trans hf
                refine lv_iconst (v := 1) C.1 C.2.1 dL_told_170 (by decide) ?_
                refine lv_goto (tgt := 175) C.1 C.2.1 dL_told_171 (by decide) ?_
                exact w_L_told_j175 C hN hT hf hA hE _ _ _ hP hS hl
set_option maxHeartbeats 4000000 in
set_option maxRecDepth 100000 in
theorem w_L_told_j428 {w : WT} {l : Launch} {p : Program} {e : Env} {s : State} {m : MethodId} {args : Array Value} {below : List Frame} {meth : Method} {c : Code} (C : KC w p s m args meth c cL_told 20 RL (some .boolean)) (hN : 99 ≤ wN w) (hT : wN w = 100) {v1 : Int32} {v12 : Int32} {s0 : Int32} {s1 : Int32} {M : Mem} {L : Lng} {out : Int32 × Mem} {o : (Int32) ⊕ ((Unit) ⊕ (Int32 × Mem))} (hf : f_L_told_j428 v1 v12 s0 s1 M = some o) (hA : ∀ z, o = .inl z → AtC w p l e ({ frames := 5, cells := 20007, slots := 120258, locals := 139 } : Room) s m args below meth c (MQ below (QI w out.1 out.2 L) args s 20007 120258 (wA w)) 20 375 M L [(0, .ref (wAd w 0)), (1, .int v1), (4, .ref (wAd w 92)), (5, .ref (wAd w 93)), (6, .ref (wAd w 94)), (7, .ref (wAd w 95)), (8, .ref (wAd w 96)), (9, .ref (wAd w 97)), (10, .ref (wAd w 98)), (11, .ref (wAd w 99)), (12, .int z)] [] 5 246) (hE : ∀ y, o = .inr y → Sum.elim (fun y => AtC w p l e ({ frames := 5, cells := 20007, slots := 120258, locals := 139 } : Room) s m args below meth c (MQ below (QI w out.1 out.2 L) args s 20007 120258 (wA w)) 20 439 M L [(0, .ref (wAd w 0)), (1, .int v1), (4, .ref (wAd w 92)), (5, .ref (wAd w 93)), (6, .ref (wAd w 94)), (7, .ref (wAd w 95)), (8, .ref (wAd w 96)), (9, .ref (wAd w 97)), (10, .ref (wAd w 98))] [] 5 246) (fun y => y = out) y) : AtC w p l e ({ frames := 5, cells := 20007, slots := 120258, locals := 139 } : Room) s m args below meth c (MQ below (QI w out.1 out.2 L) args s 20007 120258 (wA w)) 20 428 M L [(0, .ref (wAd w 0)), (1, .int v1), (4, .ref (wAd w 92)), (5, .ref (wAd w 93)), (6, .ref (wAd w 94)), (7, .ref (wAd w 95)), (8, .ref (wAd w 96)), (9, .ref (wAd w 97)), (10, .ref (wAd w 98)), (11, .ref (wAd w 99)), (12, .int v12)] [.int s1, .int s0] 5 246 := by
  intro H locs ls hP hS hl
  unfold f_L_told_j428 at hf
  refine lv_icmp_eq (tgt := 433) C.1 C.2.1 dL_told_428 (by decide) (fun c62 => ?_) (fun c62 => ?_)
  · have hf := (if_pos c62).symm.trans hf
    refine lv_iinc (v := (v12 + 1)) (lv' := [(12, .int (v12 + 1)), (0, .ref (wAd w 0)), (1, .int v1), (4, .ref (wAd w 92)), (5, .ref (wAd w 93)), (6, .ref (wAd w 94)), (7, .ref (wAd w 95)), (8, .ref (wAd w 96)), (9, .ref (wAd w 97)), (10, .ref (wAd w 98)), (11, .ref (wAd w 99))]) C.1 C.2.1 dL_told_433 hl (k := 10) rfl rfl (by decide) rfl (fun ls hl => ?_)
    refine lv_goto (tgt := 375) C.1 C.2.1 dL_told_436 (by decide) ?_
    cases hf
    exact hA _ rfl _ _ _ hP hS (lv_sub hl [1, 2, 3, 4, 5, 6, 7, 8, 9, 10, 0] rfl)
  · have hf := (if_neg c62).symm.trans hf
    refine lv_iconst (v := 0) C.1 C.2.1 dL_told_431 (by decide) ?_
    cases hf
    cases hE _ rfl
    refine W.widen (k := 20007) (n := 120258) (Nat.le_of_ble_eq_true rfl) (Nat.le_of_ble_eq_true rfl) ?_
    exact krz C hP hS bz0 dL_told_432
set_option maxHeartbeats 4000000 in
set_option maxRecDepth 100000 in
theorem w_L_told_l375 {w : WT} {l : Launch} {p : Program} {e : Env} {s : State} {m : MethodId} {args : Array Value} {below : List Frame} {meth : Method} {c : Code} (C : KC w p s m args meth c cL_told 20 RL (some .boolean)) (hN : 99 ≤ wN w) (hT : wN w = 100) {v1 : Int32} {M : Mem} {L : Lng} {out : Int32 × Mem} (z : Int32) (o : (Int32) ⊕ ((Unit) ⊕ (Int32 × Mem))) (hf : f_L_told_l375 v1 M z = some o) (hA : ∀ z, o = .inl z → AtC w p l e ({ frames := 5, cells := 20007, slots := 120258, locals := 139 } : Room) s m args below meth c (MQ below (QI w out.1 out.2 L) args s 20007 120258 (wA w)) 20 375 M L [(0, .ref (wAd w 0)), (1, .int v1), (4, .ref (wAd w 92)), (5, .ref (wAd w 93)), (6, .ref (wAd w 94)), (7, .ref (wAd w 95)), (8, .ref (wAd w 96)), (9, .ref (wAd w 97)), (10, .ref (wAd w 98)), (11, .ref (wAd w 99)), (12, .int z)] [] 5 246) (hE : ∀ y, o = .inr y → Sum.elim (fun y => AtC w p l e ({ frames := 5, cells := 20007, slots := 120258, locals := 139 } : Room) s m args below meth c (MQ below (QI w out.1 out.2 L) args s 20007 120258 (wA w)) 20 439 M L [(0, .ref (wAd w 0)), (1, .int v1), (4, .ref (wAd w 92)), (5, .ref (wAd w 93)), (6, .ref (wAd w 94)), (7, .ref (wAd w 95)), (8, .ref (wAd w 96)), (9, .ref (wAd w 97)), (10, .ref (wAd w 98))] [] 5 246) (fun y => y = out) y) : AtC w p l e ({ frames := 5, cells := 20007, slots := 120258, locals := 139 } : Room) s m args below meth c (MQ below (QI w out.1 out.2 L) args s 20007 120258 (wA w)) 20 375 M L [(0, .ref (wAd w 0)), (1, .int v1), (4, .ref (wAd w 92)), (5, .ref (wAd w 93)), (6, .ref (wAd w 94)), (7, .ref (wAd w 95)), (8, .ref (wAd w 96)), (9, .ref (wAd w 97)), (10, .ref (wAd w 98)), (11, .ref (wAd w 99)), (12, .int z)] [] 5 246 := by
  intro H locs ls hP hS hl
  unfold f_L_told_l375 at hf
  refine lv_iload C.1 C.2.1 dL_told_375 (lv_at hl 10 rfl) ?_
  refine lv_aload C.1 C.2.1 dL_told_377 (lv_at hl 3 rfl) ?_
  refine lv_iconst (v := 1) C.1 C.2.1 dL_told_379 (by decide) ?_
  obtain ⟨x52, hx52, hf⟩ := ob hf
  refine k_iald C hP (C9 C (Nat.le_of_ble_eq_true rfl)) (ar_L93 w L _) hx52 dL_told_380 ?_
  refine lv_icmp_ge (tgt := 439) C.1 C.2.1 dL_told_381 (by decide) (fun c53 => ?_) (fun c53 => ?_)
  · have hf := (if_pos c53).symm.trans hf
    cases hf
    exact hE _ rfl _ _ _ hP hS (lv_sub hl [0, 1, 2, 3, 4, 5, 6, 7, 8] rfl)
  · have hf := (if_neg c53).symm.trans hf
    refine lv_aload_n C.1 C.2.1 dL_told_384 rfl (lv_at hl 0 rfl) ?_
    refine lv_iload C.1 C.2.1 dL_told_385 (lv_at hl 10 rfl) ?_
    refine lv_iconst (v := 0) C.1 C.2.1 dL_told_387 (by decide) ?_
    obtain ⟨r54, hr54, hf⟩ := ob hf
    refine kci (kV (As := [.int z, .int 0]) (rest := []) C hl.1 hP hS (c_X8_complaint w l C.2.2.2.2.2.2.2.2 (L := L) hr54) (gV q454 q455 q456 q1 q457) hd_X8_complaint (C9 C (lt_NoisePost h0_NoisePost)) (ob_NoisePost h0_NoisePost w L _) rfl ⟨rfl, rfl⟩ ⟨Nat.le_of_ble_eq_true rfl, Nat.le_of_ble_eq_true rfl⟩ rfl rfl (Nat.le_of_ble_eq_true rfl) dL_told_388 ⟨Nat.le_of_ble_eq_true rfl, Nat.le_of_ble_eq_true rfl⟩) hS (fun H locs hP hS => ?_)
    refine lv_aload C.1 C.2.1 dL_told_391 (lv_at hl 2 rfl) ?_
    refine lv_iload C.1 C.2.1 dL_told_393 (lv_at hl 10 rfl) ?_
    obtain ⟨x55, hx55, hf⟩ := ob hf
    refine k_iald C hP (C9 C (Nat.le_of_ble_eq_true rfl)) (ar_L92 w L _) hx55 dL_told_395 ?_
    refine lv_icmp_ne (tgt := 431) C.1 C.2.1 dL_told_396 (by decide) (fun c56 => ?_) (fun c56 => ?_)
    · have hf := (if_neg c56).symm.trans hf
      refine lv_iconst (v := 0) C.1 C.2.1 dL_told_431 (by decide) ?_
      cases hf
      cases hE _ rfl
      refine W.widen (k := 20007) (n := 120258) (Nat.le_of_ble_eq_true rfl) (Nat.le_of_ble_eq_true rfl) ?_
      exact krz C hP hS bz0 dL_told_432
    · have hf := (if_pos c56).symm.trans hf
      refine lv_aload_n C.1 C.2.1 dL_told_399 rfl (lv_at hl 0 rfl) ?_
      refine lv_iload C.1 C.2.1 dL_told_400 (lv_at hl 10 rfl) ?_
      refine lv_iconst (v := 1) C.1 C.2.1 dL_told_402 (by decide) ?_
      obtain ⟨r57, hr57, hf⟩ := ob hf
      refine kci (kV (As := [.int z, .int 1]) (rest := []) C hl.1 hP hS (c_X8_complaint w l C.2.2.2.2.2.2.2.2 (L := L) hr57) (gV q454 q455 q456 q1 q457) hd_X8_complaint (C9 C (lt_NoisePost h0_NoisePost)) (ob_NoisePost h0_NoisePost w L _) rfl ⟨rfl, rfl⟩ ⟨Nat.le_of_ble_eq_true rfl, Nat.le_of_ble_eq_true rfl⟩ rfl rfl (Nat.le_of_ble_eq_true rfl) dL_told_403 ⟨Nat.le_of_ble_eq_true rfl, Nat.le_of_ble_eq_true rfl⟩) hS (fun H locs hP hS => ?_)
      refine lv_aload C.1 C.2.1 dL_told_406 (lv_at hl 9 rfl) ?_
      refine lv_iload C.1 C.2.1 dL_told_408 (lv_at hl 10 rfl) ?_
      obtain ⟨x58, hx58, hf⟩ := ob hf
      refine k_iald C hP (by rw [hT]; exact Nat.le_of_ble_eq_true rfl) (ar_L99 w L _) hx58 dL_told_410 ?_
      refine lv_if_ge (tgt := 418) C.1 C.2.1 dL_told_411 (by decide) (fun c59 => ?_) (fun c59 => ?_)
      · have hf := (if_pos c59).symm.trans hf
        refine lv_aload C.1 C.2.1 dL_told_418 (lv_at hl 9 rfl) ?_
        refine lv_iload C.1 C.2.1 dL_told_420 (lv_at hl 10 rfl) ?_
        obtain ⟨x60, hx60, hf⟩ := ob hf
        refine k_iald C hP (by rw [hT]; exact Nat.le_of_ble_eq_true rfl) (ar_L99 w L _) hx60 dL_told_422 ?_
        refine lv_aload C.1 C.2.1 dL_told_423 (lv_at hl 8 rfl) ?_
        obtain ⟨r61, hr61, hf⟩ := ob hf
        refine kci (kS (As := [.int x60, .ref (wAd w 98)]) (rest := [.int r57]) C hl.1 hP hS (c_L_number w l C.2.2.2.2.2.2.2.2 hN (L := L) hr61) (gS q442 q443 q0 q444) hd_L_number ⟨rfl, rfl⟩ ⟨Nat.le_of_ble_eq_true rfl, Nat.le_of_ble_eq_true rfl⟩ rfl rfl (Nat.le_of_ble_eq_true rfl) dL_told_425 ⟨Nat.le_of_ble_eq_true rfl, Nat.le_of_ble_eq_true rfl⟩) hS (fun H locs hP hS => ?_)
        exact w_L_told_j428 C hN hT hf hA hE _ _ _ hP hS hl
      · have hf := (if_neg c59).symm.trans hf
        refine lv_iconst (v := (-1)) C.1 C.2.1 dL_told_414 (by decide) ?_
        refine lv_goto (tgt := 428) C.1 C.2.1 dL_told_415 (by decide) ?_
        exact w_L_told_j428 C hN hT hf hA hE _ _ _ hP hS hl
set_option maxHeartbeats 4000000 in
set_option maxRecDepth 100000 in
theorem w_L_told_l442 {w : WT} {l : Launch} {p : Program} {e : Env} {s : State} {m : MethodId} {args : Array Value} {below : List Frame} {meth : Method} {c : Code} (C : KC w p s m args meth c cL_told 20 RL (some .boolean)) (hN : 99 ≤ wN w) (hT : wN w = 100) {v1 : Int32} {L : Lng} {out : Int32 × Mem} {cu su : Nat} (hcx : cu + 1 ≤ 20005) (hsx : su + 6 ≤ 120246) (z : Int32 × Mem) (o : (Int32 × Mem) ⊕ ((Mem) ⊕ (Int32 × Mem))) (hf : f_L_told_l442 v1 z = some o) (hA : ∀ z, o = .inl z → AtC w p l e ({ frames := 5, cells := 20007, slots := 120258, locals := 139 } : Room) s m args below meth c (MQ below (QI w out.1 out.2 L) args s 20007 120258 (wA w)) 20 442 z.2 L [(0, .ref (wAd w 0)), (1, .int v1), (4, .ref (wAd w 92)), (5, .ref (wAd w 93)), (6, .ref (wAd w 94)), (7, .ref (wAd w 95)), (8, .ref (wAd w 96)), (9, .ref (wAd w 97)), (10, .ref (wAd w 98)), (12, .int z.1)] [] (cu + 1) (su + 6)) (hE : ∀ y, o = .inr y → Sum.elim (fun y => AtC w p l e ({ frames := 5, cells := 20007, slots := 120258, locals := 139 } : Room) s m args below meth c (MQ below (QI w out.1 out.2 L) args s 20007 120258 (wA w)) 20 499 y L [(0, .ref (wAd w 0)), (1, .int v1), (4, .ref (wAd w 92)), (5, .ref (wAd w 93)), (6, .ref (wAd w 94)), (7, .ref (wAd w 95)), (8, .ref (wAd w 96)), (9, .ref (wAd w 97)), (10, .ref (wAd w 98))] [] 20005 120246) (fun y => y = out) y) : AtC w p l e ({ frames := 5, cells := 20007, slots := 120258, locals := 139 } : Room) s m args below meth c (MQ below (QI w out.1 out.2 L) args s 20007 120258 (wA w)) 20 442 z.2 L [(0, .ref (wAd w 0)), (1, .int v1), (4, .ref (wAd w 92)), (5, .ref (wAd w 93)), (6, .ref (wAd w 94)), (7, .ref (wAd w 95)), (8, .ref (wAd w 96)), (9, .ref (wAd w 97)), (10, .ref (wAd w 98)), (12, .int z.1)] [] cu su := by
  intro H locs ls hP hS hl
  unfold f_L_told_l442 at hf
  have hcu : cu + 1 ≤ (({ frames := 5, cells := 20007, slots := 120258, locals := 139 } : Room)).cells := Nat.le_trans hcx (Nat.le_of_ble_eq_true rfl)
  have hsu : su + 6 ≤ (({ frames := 5, cells := 20007, slots := 120258, locals := 139 } : Room)).slots := Nat.le_trans hsx (Nat.le_of_ble_eq_true rfl)
  refine lv_iload C.1 C.2.1 dL_told_442 (lv_at hl 9 rfl) ?_
  refine lv_bipush (v := 10) C.1 C.2.1 dL_told_444 (by decide) ?_
  refine lv_icmp_ge (tgt := 499) C.1 C.2.1 dL_told_446 (by decide) (fun c64 => ?_) (fun c64 => ?_)
  · have hf := (if_pos c64).symm.trans hf
    cases hf
    refine W.widen (k := 20005) (n := 120246) (by omega) (by omega) ?_
    exact hE _ rfl _ _ _ hP hS (lv_sub hl [0, 1, 2, 3, 4, 5, 6, 7, 8] rfl)
  · have hf := (if_neg c64).symm.trans hf
    refine lv_aload_n C.1 C.2.1 dL_told_449 rfl (lv_at hl 0 rfl) ?_
    refine lv_iload C.1 C.2.1 dL_told_450 (lv_at hl 9 rfl) ?_
    obtain ⟨r65, hr65, hf⟩ := ob hf
    refine kci (kV (As := [.int z.1]) (rest := []) C hl.1 hP hS (c_X8_setting w l C.2.2.2.2.2.2.2.2 (L := L) hr65) (gV q467 q468 q469 q1 q470) hd_X8_setting (C9 C (lt_NoisePost h0_NoisePost)) (ob_NoisePost h0_NoisePost w L _) rfl ⟨rfl, rfl⟩ ⟨Nat.le_of_ble_eq_true rfl, Nat.le_of_ble_eq_true rfl⟩ rfl rfl (Nat.le_of_ble_eq_true rfl) dL_told_452 ⟨Nat.le_of_succ_le hcu, Nat.le_trans (Nat.le_add_right _ 6) hsu⟩) hS (fun H locs hP hS => ?_)
    refine lv_aload C.1 C.2.1 dL_told_455 (lv_at hl 4 rfl) ?_
    refine lv_iload C.1 C.2.1 dL_told_457 (lv_at hl 9 rfl) ?_
    obtain ⟨x66, hx66, hf⟩ := ob hf
    refine k_iald C hP (C9 C (Nat.le_of_ble_eq_true rfl)) (ar_L94 w L _) hx66 dL_told_459 ?_
    refine lv_icmp_ne (tgt := 491) C.1 C.2.1 dL_told_460 (by decide) (fun c67 => ?_) (fun c67 => ?_)
    · have hf := (if_neg c67).symm.trans hf
      refine lv_iconst (v := 0) C.1 C.2.1 dL_told_491 (by decide) ?_
      cases hf
      cases hE _ rfl
      refine W.widen (k := 20007) (n := 120258) (by omega) (by omega) ?_
      exact krz C hP hS bz0 dL_told_492
    · have hf := (if_pos c67).symm.trans hf
      refine lv_aload_n C.1 C.2.1 dL_told_463 rfl (lv_at hl 0 rfl) ?_
      refine lv_iload C.1 C.2.1 dL_told_464 (lv_at hl 9 rfl) ?_
      obtain ⟨r68, hr68, hf⟩ := ob hf
      refine kci (kV (As := [.int z.1]) (rest := []) C hl.1 hP hS (c_X8_count w l C.2.2.2.2.2.2.2.2 (L := L) hr68) (gV q292 q293 q294 q1 q295) hd_X8_count (C9 C (lt_NoisePost h0_NoisePost)) (ob_NoisePost h0_NoisePost w L _) rfl ⟨rfl, rfl⟩ ⟨Nat.le_of_ble_eq_true rfl, Nat.le_of_ble_eq_true rfl⟩ rfl rfl (Nat.le_of_ble_eq_true rfl) dL_told_466 ⟨Nat.le_of_succ_le hcu, Nat.le_trans (Nat.le_add_right _ 6) hsu⟩) hS (fun H locs hP hS => ?_)
      refine lv_iload C.1 C.2.1 dL_told_469 (lv_at hl 9 rfl) ?_
      refine lv_aload C.1 C.2.1 dL_told_471 (lv_at hl 2 rfl) ?_
      refine lv_aload C.1 C.2.1 dL_told_473 (lv_at hl 3 rfl) ?_
      refine lv_aload C.1 C.2.1 dL_told_475 (lv_at hl 4 rfl) ?_
      refine lv_aload C.1 C.2.1 dL_told_477 (lv_at hl 5 rfl) ?_
      refine lv_aload C.1 C.2.1 dL_told_479 (lv_at hl 6 rfl) ?_
      refine lv_aload C.1 C.2.1 dL_told_481 (lv_at hl 7 rfl) ?_
      refine lv_aload C.1 C.2.1 dL_told_483 (lv_at hl 8 rfl) ?_
      obtain ⟨r69, hr69, hf⟩ := ob hf
      refine kcic (kSc (As := [.int z.1, .ref (wAd w 92), .ref (wAd w 93), .ref (wAd w 94), .ref (wAd w 95), .ref (wAd w 96), .ref (wAd w 97), .ref (wAd w 98)]) (rest := [.int r68]) C hl.1 hP hS (c_L_counted w l C.2.2.2.2.2.2.2.2 hN (Or.inr rfl) hT (L := L) hr69) (gS q475 q476 q0 q477) hd_L_counted ⟨rfl, rfl⟩ ⟨Nat.le_of_ble_eq_true rfl, Nat.le_of_ble_eq_true rfl⟩ rfl rfl (Nat.le_of_ble_eq_true rfl) dL_told_485 ⟨hcu, hsu⟩) hS (fun H locs hP hS => ?_)
      refine lv_icmp_eq (tgt := 493) C.1 C.2.1 dL_told_488 (by decide) (fun c70 => ?_) (fun c70 => ?_)
      · have hf := (if_pos c70).symm.trans hf
        refine lv_iinc (v := (z.1 + 1)) (lv' := [(12, .int (z.1 + 1)), (0, .ref (wAd w 0)), (1, .int v1), (4, .ref (wAd w 92)), (5, .ref (wAd w 93)), (6, .ref (wAd w 94)), (7, .ref (wAd w 95)), (8, .ref (wAd w 96)), (9, .ref (wAd w 97)), (10, .ref (wAd w 98))]) C.1 C.2.1 dL_told_493 hl (k := 9) rfl rfl (by decide) rfl (fun ls hl => ?_)
        refine lv_goto (tgt := 442) C.1 C.2.1 dL_told_496 (by decide) ?_
        cases hf
        exact hA _ rfl _ _ _ hP hS (lv_sub hl [1, 2, 3, 4, 5, 6, 7, 8, 9, 0] rfl)
      · have hf := (if_neg c70).symm.trans hf
        refine lv_iconst (v := 0) C.1 C.2.1 dL_told_491 (by decide) ?_
        cases hf
        cases hE _ rfl
        refine W.widen (k := 20007) (n := 120258) (by omega) (by omega) ?_
        exact krz C hP hS bz0 dL_told_492
set_option maxHeartbeats 4000000 in
set_option maxRecDepth 100000 in
theorem w_L_told_j609 {w : WT} {l : Launch} {p : Program} {e : Env} {s : State} {m : MethodId} {args : Array Value} {below : List Frame} {meth : Method} {c : Code} (C : KC w p s m args meth c cL_told 20 RL (some .boolean)) (hN : 99 ≤ wN w) (hT : wN w = 100) {v12 : Int32} {v13 : Int32} {v14 : Int32} {v15 : Int32} {v16 : Int32} {v17 : Int32} {v19 : Int32} {s0 : Int32} {s1 : Int32} {M : Mem} {L : Lng} {Q : State → Prop} {o : (Int32 × Int32) ⊕ (Int32)} (hf : f_L_told_j609 v12 v13 v14 v15 v16 v17 v19 s0 s1 M = some o) (hA : ∀ z, o = .inl z → AtC w p l e ({ frames := 5, cells := 20007, slots := 120258, locals := 139 } : Room) s m args below meth c Q 20 563 M L [(0, .ref (wAd w 0)), (4, .ref (wAd w 92)), (5, .ref (wAd w 93)), (6, .ref (wAd w 94)), (7, .ref (wAd w 95)), (8, .ref (wAd w 96)), (9, .ref (wAd w 97)), (10, .ref (wAd w 98)), (12, .int v12), (13, .int v13), (14, .int v14), (15, .int v15), (16, .int v16), (17, .int v17), (18, .int z.1), (19, .int z.2)] [] 20006 120252) (hE : ∀ y, o = .inr y → AtC w p l e ({ frames := 5, cells := 20007, slots := 120258, locals := 139 } : Room) s m args below meth c Q 20 618 M L [(0, .ref (wAd w 0)), (4, .ref (wAd w 92)), (5, .ref (wAd w 93)), (6, .ref (wAd w 94)), (7, .ref (wAd w 95)), (8, .ref (wAd w 96)), (9, .ref (wAd w 97)), (10, .ref (wAd w 98)), (12, .int v12), (13, .int v13), (14, .int v14), (15, .int v15), (16, .int v16), (17, .int v17), (18, .int y)] [] 20006 120252) : AtC w p l e ({ frames := 5, cells := 20007, slots := 120258, locals := 139 } : Room) s m args below meth c Q 20 609 M L [(0, .ref (wAd w 0)), (4, .ref (wAd w 92)), (5, .ref (wAd w 93)), (6, .ref (wAd w 94)), (7, .ref (wAd w 95)), (8, .ref (wAd w 96)), (9, .ref (wAd w 97)), (10, .ref (wAd w 98)), (12, .int v12), (13, .int v13), (14, .int v14), (15, .int v15), (16, .int v16), (17, .int v17), (19, .int v19)] [.int s1, .int s0] 20006 120252 := by
  intro H locs ls hP hS hl
  unfold f_L_told_j609 at hf
  refine lv_iadd C.1 C.2.1 dL_told_609 ?_
  refine lv_istore (lv' := [(18, .int (s0 + s1)), (0, .ref (wAd w 0)), (4, .ref (wAd w 92)), (5, .ref (wAd w 93)), (6, .ref (wAd w 94)), (7, .ref (wAd w 95)), (8, .ref (wAd w 96)), (9, .ref (wAd w 97)), (10, .ref (wAd w 98)), (12, .int v12), (13, .int v13), (14, .int v14), (15, .int v15), (16, .int v16), (17, .int v17), (19, .int v19)]) C.1 C.2.1 dL_told_610 hl (by decide) rfl (fun ls hl => ?_)
  refine lv_iinc (v := (v19 + 1)) (lv' := [(19, .int (v19 + 1)), (18, .int (s0 + s1)), (0, .ref (wAd w 0)), (4, .ref (wAd w 92)), (5, .ref (wAd w 93)), (6, .ref (wAd w 94)), (7, .ref (wAd w 95)), (8, .ref (wAd w 96)), (9, .ref (wAd w 97)), (10, .ref (wAd w 98)), (12, .int v12), (13, .int v13), (14, .int v14), (15, .int v15), (16, .int v16), (17, .int v17)]) C.1 C.2.1 dL_told_612 hl (k := 15) rfl rfl (by decide) rfl (fun ls hl => ?_)
  refine lv_goto (tgt := 563) C.1 C.2.1 dL_told_615 (by decide) ?_
  cases hf
  exact hA _ rfl _ _ _ hP hS (lv_sub hl [2, 3, 4, 5, 6, 7, 8, 9, 10, 11, 12, 13, 14, 15, 1, 0] rfl)
set_option maxHeartbeats 4000000 in
set_option maxRecDepth 100000 in
theorem w_L_told_j608 {w : WT} {l : Launch} {p : Program} {e : Env} {s : State} {m : MethodId} {args : Array Value} {below : List Frame} {meth : Method} {c : Code} (C : KC w p s m args meth c cL_told 20 RL (some .boolean)) (hN : 99 ≤ wN w) (hT : wN w = 100) {v12 : Int32} {v13 : Int32} {v14 : Int32} {v15 : Int32} {v16 : Int32} {v17 : Int32} {v19 : Int32} {s0 : Int32} {M : Mem} {L : Lng} {Q : State → Prop} {o : (Int32 × Int32) ⊕ (Int32)} (hf : f_L_told_j608 v12 v13 v14 v15 v16 v17 v19 s0 M = some o) (hA : ∀ z, o = .inl z → AtC w p l e ({ frames := 5, cells := 20007, slots := 120258, locals := 139 } : Room) s m args below meth c Q 20 563 M L [(0, .ref (wAd w 0)), (4, .ref (wAd w 92)), (5, .ref (wAd w 93)), (6, .ref (wAd w 94)), (7, .ref (wAd w 95)), (8, .ref (wAd w 96)), (9, .ref (wAd w 97)), (10, .ref (wAd w 98)), (12, .int v12), (13, .int v13), (14, .int v14), (15, .int v15), (16, .int v16), (17, .int v17), (18, .int z.1), (19, .int z.2)] [] 20006 120252) (hE : ∀ y, o = .inr y → AtC w p l e ({ frames := 5, cells := 20007, slots := 120258, locals := 139 } : Room) s m args below meth c Q 20 618 M L [(0, .ref (wAd w 0)), (4, .ref (wAd w 92)), (5, .ref (wAd w 93)), (6, .ref (wAd w 94)), (7, .ref (wAd w 95)), (8, .ref (wAd w 96)), (9, .ref (wAd w 97)), (10, .ref (wAd w 98)), (12, .int v12), (13, .int v13), (14, .int v14), (15, .int v15), (16, .int v16), (17, .int v17), (18, .int y)] [] 20006 120252) : AtC w p l e ({ frames := 5, cells := 20007, slots := 120258, locals := 139 } : Room) s m args below meth c Q 20 608 M L [(0, .ref (wAd w 0)), (4, .ref (wAd w 92)), (5, .ref (wAd w 93)), (6, .ref (wAd w 94)), (7, .ref (wAd w 95)), (8, .ref (wAd w 96)), (9, .ref (wAd w 97)), (10, .ref (wAd w 98)), (12, .int v12), (13, .int v13), (14, .int v14), (15, .int v15), (16, .int v16), (17, .int v17), (19, .int v19)] [.int s0] 20006 120252 := by
  intro H locs ls hP hS hl
  unfold f_L_told_j608 at hf
  refine lv_iconst (v := 0) C.1 C.2.1 dL_told_608 (by decide) ?_
  exact w_L_told_j609 C hN hT hf hA hE _ _ _ hP hS hl
set_option maxHeartbeats 4000000 in
set_option maxRecDepth 100000 in
theorem w_L_told_j591 {w : WT} {l : Launch} {p : Program} {e : Env} {s : State} {m : MethodId} {args : Array Value} {below : List Frame} {meth : Method} {c : Code} (C : KC w p s m args meth c cL_told 20 RL (some .boolean)) (hN : 99 ≤ wN w) (hT : wN w = 100) {v12 : Int32} {v13 : Int32} {v14 : Int32} {v15 : Int32} {v16 : Int32} {v17 : Int32} {v19 : Int32} {s0 : Int32} {M : Mem} {L : Lng} {Q : State → Prop} {o : (Int32 × Int32) ⊕ (Int32)} (hf : f_L_told_j591 v12 v13 v14 v15 v16 v17 v19 s0 M = some o) (hA : ∀ z, o = .inl z → AtC w p l e ({ frames := 5, cells := 20007, slots := 120258, locals := 139 } : Room) s m args below meth c Q 20 563 M L [(0, .ref (wAd w 0)), (4, .ref (wAd w 92)), (5, .ref (wAd w 93)), (6, .ref (wAd w 94)), (7, .ref (wAd w 95)), (8, .ref (wAd w 96)), (9, .ref (wAd w 97)), (10, .ref (wAd w 98)), (12, .int v12), (13, .int v13), (14, .int v14), (15, .int v15), (16, .int v16), (17, .int v17), (18, .int z.1), (19, .int z.2)] [] 20006 120252) (hE : ∀ y, o = .inr y → AtC w p l e ({ frames := 5, cells := 20007, slots := 120258, locals := 139 } : Room) s m args below meth c Q 20 618 M L [(0, .ref (wAd w 0)), (4, .ref (wAd w 92)), (5, .ref (wAd w 93)), (6, .ref (wAd w 94)), (7, .ref (wAd w 95)), (8, .ref (wAd w 96)), (9, .ref (wAd w 97)), (10, .ref (wAd w 98)), (12, .int v12), (13, .int v13), (14, .int v14), (15, .int v15), (16, .int v16), (17, .int v17), (18, .int y)] [] 20006 120252) : AtC w p l e ({ frames := 5, cells := 20007, slots := 120258, locals := 139 } : Room) s m args below meth c Q 20 591 M L [(0, .ref (wAd w 0)), (4, .ref (wAd w 92)), (5, .ref (wAd w 93)), (6, .ref (wAd w 94)), (7, .ref (wAd w 95)), (8, .ref (wAd w 96)), (9, .ref (wAd w 97)), (10, .ref (wAd w 98)), (12, .int v12), (13, .int v13), (14, .int v14), (15, .int v15), (16, .int v16), (17, .int v17), (19, .int v19)] [.int s0] 20006 120252 := by
  intro H locs ls hP hS hl
  unfold f_L_told_j591 at hf
  refine lv_aload C.1 C.2.1 dL_told_591 (lv_at hl 4 rfl) ?_
  refine lv_iload C.1 C.2.1 dL_told_593 (lv_at hl 14 rfl) ?_
  obtain ⟨x80, hx80, hf⟩ := ob hf
  refine k_iald C hP (Nat.lt_of_lt_of_le (Nat.le_of_ble_eq_true rfl) hN) (ar_L95 w L _) hx80 dL_told_595 ?_
  refine lv_bipush (v := 10) C.1 C.2.1 dL_told_596 (by decide) ?_
  refine lv_iload C.1 C.2.1 dL_told_598 (lv_at hl 13 rfl) ?_
  refine lv_imul C.1 C.2.1 dL_told_600 ?_
  refine lv_icmp_lt (tgt := 608) C.1 C.2.1 dL_told_601 (by decide) (fun c81 => ?_) (fun c81 => ?_)
  · have hf := (if_pos c81).symm.trans hf
    exact w_L_told_j608 C hN hT hf hA hE _ _ _ hP hS hl
  · have hf := (if_neg c81).symm.trans hf
    refine lv_iconst (v := 1) C.1 C.2.1 dL_told_604 (by decide) ?_
    refine lv_goto (tgt := 609) C.1 C.2.1 dL_told_605 (by decide) ?_
    exact w_L_told_j609 C hN hT hf hA hE _ _ _ hP hS hl
set_option maxHeartbeats 4000000 in
set_option maxRecDepth 100000 in
theorem w_L_told_l563 {w : WT} {l : Launch} {p : Program} {e : Env} {s : State} {m : MethodId} {args : Array Value} {below : List Frame} {meth : Method} {c : Code} (C : KC w p s m args meth c cL_told 20 RL (some .boolean)) (hN : 99 ≤ wN w) (hT : wN w = 100) {v12 : Int32} {v13 : Int32} {v14 : Int32} {v15 : Int32} {v16 : Int32} {v17 : Int32} {M : Mem} {L : Lng} {Q : State → Prop} (z : Int32 × Int32) (o : (Int32 × Int32) ⊕ (Int32)) (hf : f_L_told_l563 v12 v13 v14 v15 v16 v17 M z = some o) (hA : ∀ z, o = .inl z → AtC w p l e ({ frames := 5, cells := 20007, slots := 120258, locals := 139 } : Room) s m args below meth c Q 20 563 M L [(0, .ref (wAd w 0)), (4, .ref (wAd w 92)), (5, .ref (wAd w 93)), (6, .ref (wAd w 94)), (7, .ref (wAd w 95)), (8, .ref (wAd w 96)), (9, .ref (wAd w 97)), (10, .ref (wAd w 98)), (12, .int v12), (13, .int v13), (14, .int v14), (15, .int v15), (16, .int v16), (17, .int v17), (18, .int z.1), (19, .int z.2)] [] 20006 120252) (hE : ∀ y, o = .inr y → AtC w p l e ({ frames := 5, cells := 20007, slots := 120258, locals := 139 } : Room) s m args below meth c Q 20 618 M L [(0, .ref (wAd w 0)), (4, .ref (wAd w 92)), (5, .ref (wAd w 93)), (6, .ref (wAd w 94)), (7, .ref (wAd w 95)), (8, .ref (wAd w 96)), (9, .ref (wAd w 97)), (10, .ref (wAd w 98)), (12, .int v12), (13, .int v13), (14, .int v14), (15, .int v15), (16, .int v16), (17, .int v17), (18, .int y)] [] 20006 120252) : AtC w p l e ({ frames := 5, cells := 20007, slots := 120258, locals := 139 } : Room) s m args below meth c Q 20 563 M L [(0, .ref (wAd w 0)), (4, .ref (wAd w 92)), (5, .ref (wAd w 93)), (6, .ref (wAd w 94)), (7, .ref (wAd w 95)), (8, .ref (wAd w 96)), (9, .ref (wAd w 97)), (10, .ref (wAd w 98)), (12, .int v12), (13, .int v13), (14, .int v14), (15, .int v15), (16, .int v16), (17, .int v17), (18, .int z.1), (19, .int z.2)] [] 20006 120252 := by
  intro H locs ls hP hS hl
  unfold f_L_told_l563 at hf
  refine lv_iload C.1 C.2.1 dL_told_563 (lv_at hl 15 rfl) ?_
  refine lv_aload C.1 C.2.1 dL_told_565 (lv_at hl 2 rfl) ?_
  refine lv_iconst (v := 0) C.1 C.2.1 dL_told_567 (by decide) ?_
  obtain ⟨x76, hx76, hf⟩ := ob hf
  refine k_iald C hP (C9 C (Nat.le_of_ble_eq_true rfl)) (ar_L93 w L _) hx76 dL_told_568 ?_
  refine lv_icmp_ge (tgt := 618) C.1 C.2.1 dL_told_569 (by decide) (fun c77 => ?_) (fun c77 => ?_)
  · have hf := (if_pos c77).symm.trans hf
    cases hf
    exact hE _ rfl _ _ _ hP hS (lv_sub hl [0, 1, 2, 3, 4, 5, 6, 7, 8, 9, 10, 11, 12, 13, 14] rfl)
  · have hf := (if_neg c77).symm.trans hf
    refine lv_iload C.1 C.2.1 dL_told_572 (lv_at hl 14 rfl) ?_
    refine lv_aload C.1 C.2.1 dL_told_574 (lv_at hl 6 rfl) ?_
    refine lv_iload C.1 C.2.1 dL_told_576 (lv_at hl 15 rfl) ?_
    obtain ⟨x78, hx78, hf⟩ := ob hf
    refine k_iald C hP (Nat.lt_of_lt_of_le (Nat.le_of_ble_eq_true rfl) hN) (ar_L97 w L _) hx78 dL_told_578 ?_
    refine lv_if_eq (tgt := 591) C.1 C.2.1 dL_told_579 (by decide) (fun c79 => ?_) (fun c79 => ?_)
    · have hf := (if_pos c79).symm.trans hf
      exact w_L_told_j591 C hN hT hf hA hE _ _ _ hP hS (lv_sub hl [0, 1, 2, 3, 4, 5, 6, 7, 8, 9, 10, 11, 12, 13, 15] rfl)
    · have hf := (if_neg c79).symm.trans hf
      refine lv_aload C.1 C.2.1 dL_told_582 (lv_at hl 6 rfl) ?_
      refine lv_iload C.1 C.2.1 dL_told_584 (lv_at hl 15 rfl) ?_
      obtain ⟨x82, hx82, hf⟩ := ob hf
      refine k_iald C hP (Nat.lt_of_lt_of_le (Nat.le_of_ble_eq_true rfl) hN) (ar_L97 w L _) hx82 dL_told_586 ?_
      refine lv_iconst (v := 3) C.1 C.2.1 dL_told_587 (by decide) ?_
      refine lv_icmp_ne (tgt := 608) C.1 C.2.1 dL_told_588 (by decide) (fun c83 => ?_) (fun c83 => ?_)
      · have hf := (if_neg c83).symm.trans hf
        exact w_L_told_j608 C hN hT hf hA hE _ _ _ hP hS (lv_sub hl [0, 1, 2, 3, 4, 5, 6, 7, 8, 9, 10, 11, 12, 13, 15] rfl)
      · have hf := (if_pos c83).symm.trans hf
        exact w_L_told_j591 C hN hT hf hA hE _ _ _ hP hS (lv_sub hl [0, 1, 2, 3, 4, 5, 6, 7, 8, 9, 10, 11, 12, 13, 15] rfl)
set_option maxHeartbeats 4000000 in
set_option maxRecDepth 100000 in
theorem w_L_told_j659 {w : WT} {l : Launch} {p : Program} {e : Env} {s : State} {m : MethodId} {args : Array Value} {below : List Frame} {meth : Method} {c : Code} (C : KC w p s m args meth c cL_told 20 RL (some .boolean)) (hN : 99 ≤ wN w) (hT : wN w = 100) {v12 : Int32} {v13 : Int32} {v14 : Int32} {v15 : Int32} {v17 : Int32} {s0 : Int32} {M : Mem} {L : Lng} {Q : State → Prop} {o : (Int32 × Int32 × Int32) ⊕ (Int32 × Int32)} (hf : f_L_told_j659 v12 v13 v14 v15 v17 s0 M = some o) (hA : ∀ z, o = .inl z → AtC w p l e ({ frames := 5, cells := 20007, slots := 120258, locals := 139 } : Room) s m args below meth c Q 20 549 M L [(0, .ref (wAd w 0)), (4, .ref (wAd w 92)), (5, .ref (wAd w 93)), (6, .ref (wAd w 94)), (7, .ref (wAd w 95)), (8, .ref (wAd w 96)), (9, .ref (wAd w 97)), (10, .ref (wAd w 98)), (12, .int v12), (13, .int v13), (14, .int v14), (15, .int z.1), (16, .int z.2.1), (17, .int z.2.2)] [] 20006 120252) (hE : ∀ y, o = .inr y → AtC w p l e ({ frames := 5, cells := 20007, slots := 120258, locals := 139 } : Room) s m args below meth c Q 20 667 M L [(0, .ref (wAd w 0)), (4, .ref (wAd w 92)), (5, .ref (wAd w 93)), (6, .ref (wAd w 94)), (7, .ref (wAd w 95)), (8, .ref (wAd w 96)), (9, .ref (wAd w 97)), (10, .ref (wAd w 98)), (12, .int v12), (13, .int v13), (14, .int v14), (15, .int y.1), (16, .int y.2)] [] 20006 120252) : AtC w p l e ({ frames := 5, cells := 20007, slots := 120258, locals := 139 } : Room) s m args below meth c Q 20 659 M L [(0, .ref (wAd w 0)), (4, .ref (wAd w 92)), (5, .ref (wAd w 93)), (6, .ref (wAd w 94)), (7, .ref (wAd w 95)), (8, .ref (wAd w 96)), (9, .ref (wAd w 97)), (10, .ref (wAd w 98)), (12, .int v12), (13, .int v13), (14, .int v14), (15, .int v15), (17, .int v17)] [.int s0] 20006 120252 := by
  intro H locs ls hP hS hl
  unfold f_L_told_j659 at hf
  refine lv_istore (lv' := [(16, .int s0), (0, .ref (wAd w 0)), (4, .ref (wAd w 92)), (5, .ref (wAd w 93)), (6, .ref (wAd w 94)), (7, .ref (wAd w 95)), (8, .ref (wAd w 96)), (9, .ref (wAd w 97)), (10, .ref (wAd w 98)), (12, .int v12), (13, .int v13), (14, .int v14), (15, .int v15), (17, .int v17)]) C.1 C.2.1 dL_told_659 hl (by decide) rfl (fun ls hl => ?_)
  refine lv_iinc (v := (v17 + 1)) (lv' := [(17, .int (v17 + 1)), (16, .int s0), (0, .ref (wAd w 0)), (4, .ref (wAd w 92)), (5, .ref (wAd w 93)), (6, .ref (wAd w 94)), (7, .ref (wAd w 95)), (8, .ref (wAd w 96)), (9, .ref (wAd w 97)), (10, .ref (wAd w 98)), (12, .int v12), (13, .int v13), (14, .int v14), (15, .int v15)]) C.1 C.2.1 dL_told_661 hl (k := 13) rfl rfl (by decide) rfl (fun ls hl => ?_)
  refine lv_goto (tgt := 549) C.1 C.2.1 dL_told_664 (by decide) ?_
  cases hf
  exact hA _ rfl _ _ _ hP hS (lv_sub hl [2, 3, 4, 5, 6, 7, 8, 9, 10, 11, 12, 13, 1, 0] rfl)
set_option maxHeartbeats 4000000 in
set_option maxRecDepth 100000 in
theorem w_L_told_j657 {w : WT} {l : Launch} {p : Program} {e : Env} {s : State} {m : MethodId} {args : Array Value} {below : List Frame} {meth : Method} {c : Code} (C : KC w p s m args meth c cL_told 20 RL (some .boolean)) (hN : 99 ≤ wN w) (hT : wN w = 100) {v12 : Int32} {v13 : Int32} {v14 : Int32} {v15 : Int32} {v16 : Int32} {v17 : Int32} {M : Mem} {L : Lng} {Q : State → Prop} {o : (Int32 × Int32 × Int32) ⊕ (Int32 × Int32)} (hf : f_L_told_j657 v12 v13 v14 v15 v16 v17 M = some o) (hA : ∀ z, o = .inl z → AtC w p l e ({ frames := 5, cells := 20007, slots := 120258, locals := 139 } : Room) s m args below meth c Q 20 549 M L [(0, .ref (wAd w 0)), (4, .ref (wAd w 92)), (5, .ref (wAd w 93)), (6, .ref (wAd w 94)), (7, .ref (wAd w 95)), (8, .ref (wAd w 96)), (9, .ref (wAd w 97)), (10, .ref (wAd w 98)), (12, .int v12), (13, .int v13), (14, .int v14), (15, .int z.1), (16, .int z.2.1), (17, .int z.2.2)] [] 20006 120252) (hE : ∀ y, o = .inr y → AtC w p l e ({ frames := 5, cells := 20007, slots := 120258, locals := 139 } : Room) s m args below meth c Q 20 667 M L [(0, .ref (wAd w 0)), (4, .ref (wAd w 92)), (5, .ref (wAd w 93)), (6, .ref (wAd w 94)), (7, .ref (wAd w 95)), (8, .ref (wAd w 96)), (9, .ref (wAd w 97)), (10, .ref (wAd w 98)), (12, .int v12), (13, .int v13), (14, .int v14), (15, .int y.1), (16, .int y.2)] [] 20006 120252) : AtC w p l e ({ frames := 5, cells := 20007, slots := 120258, locals := 139 } : Room) s m args below meth c Q 20 657 M L [(0, .ref (wAd w 0)), (4, .ref (wAd w 92)), (5, .ref (wAd w 93)), (6, .ref (wAd w 94)), (7, .ref (wAd w 95)), (8, .ref (wAd w 96)), (9, .ref (wAd w 97)), (10, .ref (wAd w 98)), (12, .int v12), (13, .int v13), (14, .int v14), (15, .int v15), (16, .int v16), (17, .int v17)] [] 20006 120252 := by
  intro H locs ls hP hS hl
  unfold f_L_told_j657 at hf
  refine lv_iload C.1 C.2.1 dL_told_657 (lv_at hl 12 rfl) ?_
  exact w_L_told_j659 C hN hT hf hA hE _ _ _ hP hS (lv_sub hl [0, 1, 2, 3, 4, 5, 6, 7, 8, 9, 10, 11, 13] rfl)
set_option maxHeartbeats 4000000 in
set_option maxRecDepth 100000 in
theorem w_L_told_j632 {w : WT} {l : Launch} {p : Program} {e : Env} {s : State} {m : MethodId} {args : Array Value} {below : List Frame} {meth : Method} {c : Code} (C : KC w p s m args meth c cL_told 20 RL (some .boolean)) (hN : 99 ≤ wN w) (hT : wN w = 100) {v12 : Int32} {v13 : Int32} {v14 : Int32} {v16 : Int32} {v17 : Int32} {v18 : Int32} {s0 : Int32} {M : Mem} {L : Lng} {Q : State → Prop} {o : (Int32 × Int32 × Int32) ⊕ (Int32 × Int32)} (hf : f_L_told_j632 v12 v13 v14 v16 v17 v18 s0 M = some o) (hA : ∀ z, o = .inl z → AtC w p l e ({ frames := 5, cells := 20007, slots := 120258, locals := 139 } : Room) s m args below meth c Q 20 549 M L [(0, .ref (wAd w 0)), (4, .ref (wAd w 92)), (5, .ref (wAd w 93)), (6, .ref (wAd w 94)), (7, .ref (wAd w 95)), (8, .ref (wAd w 96)), (9, .ref (wAd w 97)), (10, .ref (wAd w 98)), (12, .int v12), (13, .int v13), (14, .int v14), (15, .int z.1), (16, .int z.2.1), (17, .int z.2.2)] [] 20006 120252) (hE : ∀ y, o = .inr y → AtC w p l e ({ frames := 5, cells := 20007, slots := 120258, locals := 139 } : Room) s m args below meth c Q 20 667 M L [(0, .ref (wAd w 0)), (4, .ref (wAd w 92)), (5, .ref (wAd w 93)), (6, .ref (wAd w 94)), (7, .ref (wAd w 95)), (8, .ref (wAd w 96)), (9, .ref (wAd w 97)), (10, .ref (wAd w 98)), (12, .int v12), (13, .int v13), (14, .int v14), (15, .int y.1), (16, .int y.2)] [] 20006 120252) : AtC w p l e ({ frames := 5, cells := 20007, slots := 120258, locals := 139 } : Room) s m args below meth c Q 20 632 M L [(0, .ref (wAd w 0)), (4, .ref (wAd w 92)), (5, .ref (wAd w 93)), (6, .ref (wAd w 94)), (7, .ref (wAd w 95)), (8, .ref (wAd w 96)), (9, .ref (wAd w 97)), (10, .ref (wAd w 98)), (12, .int v12), (13, .int v13), (14, .int v14), (16, .int v16), (17, .int v17), (18, .int v18)] [.int s0] 20006 120252 := by
  intro H locs ls hP hS hl
  unfold f_L_told_j632 at hf
  refine lv_istore (lv' := [(15, .int s0), (0, .ref (wAd w 0)), (4, .ref (wAd w 92)), (5, .ref (wAd w 93)), (6, .ref (wAd w 94)), (7, .ref (wAd w 95)), (8, .ref (wAd w 96)), (9, .ref (wAd w 97)), (10, .ref (wAd w 98)), (12, .int v12), (13, .int v13), (14, .int v14), (16, .int v16), (17, .int v17), (18, .int v18)]) C.1 C.2.1 dL_told_632 hl (by decide) rfl (fun ls hl => ?_)
  refine lv_iload C.1 C.2.1 dL_told_634 (lv_at hl 11 rfl) ?_
  refine lv_if_le (tgt := 657) C.1 C.2.1 dL_told_636 (by decide) (fun c86 => ?_) (fun c86 => ?_)
  · have hf := (if_pos c86).symm.trans hf
    exact w_L_told_j657 C hN hT hf hA hE _ _ _ hP hS (lv_sub hl [1, 2, 3, 4, 5, 6, 7, 8, 9, 10, 11, 0, 12, 13] rfl)
  · have hf := (if_neg c86).symm.trans hf
    refine lv_bipush (v := 100) C.1 C.2.1 dL_told_639 (by decide) ?_
    refine lv_iload C.1 C.2.1 dL_told_641 (lv_at hl 14 rfl) ?_
    refine lv_imul C.1 C.2.1 dL_told_643 ?_
    refine lv_iload C.1 C.2.1 dL_told_644 (lv_at hl 10 rfl) ?_
    refine lv_iload C.1 C.2.1 dL_told_646 (lv_at hl 11 rfl) ?_
    refine lv_imul C.1 C.2.1 dL_told_648 ?_
    refine lv_icmp_lt (tgt := 657) C.1 C.2.1 dL_told_649 (by decide) (fun c87 => ?_) (fun c87 => ?_)
    · have hf := (if_pos c87).symm.trans hf
      exact w_L_told_j657 C hN hT hf hA hE _ _ _ hP hS (lv_sub hl [1, 2, 3, 4, 5, 6, 7, 8, 9, 10, 11, 0, 12, 13] rfl)
    · have hf := (if_neg c87).symm.trans hf
      refine lv_iload C.1 C.2.1 dL_told_652 (lv_at hl 13 rfl) ?_
      refine lv_goto (tgt := 659) C.1 C.2.1 dL_told_654 (by decide) ?_
      exact w_L_told_j659 C hN hT hf hA hE _ _ _ hP hS (lv_sub hl [1, 2, 3, 4, 5, 6, 7, 8, 9, 10, 11, 0, 13] rfl)
set_option maxHeartbeats 4000000 in
set_option maxRecDepth 100000 in
theorem w_L_told_l549 {w : WT} {l : Launch} {p : Program} {e : Env} {s : State} {m : MethodId} {args : Array Value} {below : List Frame} {meth : Method} {c : Code} (C : KC w p s m args meth c cL_told 20 RL (some .boolean)) (hN : 99 ≤ wN w) (hT : wN w = 100) {v12 : Int32} {v13 : Int32} {v14 : Int32} {M : Mem} {L : Lng} {Q : State → Prop} (z : Int32 × Int32 × Int32) (o : (Int32 × Int32 × Int32) ⊕ (Int32 × Int32)) (hf : f_L_told_l549 v12 v13 v14 M z = some o) (hA : ∀ z, o = .inl z → AtC w p l e ({ frames := 5, cells := 20007, slots := 120258, locals := 139 } : Room) s m args below meth c Q 20 549 M L [(0, .ref (wAd w 0)), (4, .ref (wAd w 92)), (5, .ref (wAd w 93)), (6, .ref (wAd w 94)), (7, .ref (wAd w 95)), (8, .ref (wAd w 96)), (9, .ref (wAd w 97)), (10, .ref (wAd w 98)), (12, .int v12), (13, .int v13), (14, .int v14), (15, .int z.1), (16, .int z.2.1), (17, .int z.2.2)] [] 20006 120252) (hE : ∀ y, o = .inr y → AtC w p l e ({ frames := 5, cells := 20007, slots := 120258, locals := 139 } : Room) s m args below meth c Q 20 667 M L [(0, .ref (wAd w 0)), (4, .ref (wAd w 92)), (5, .ref (wAd w 93)), (6, .ref (wAd w 94)), (7, .ref (wAd w 95)), (8, .ref (wAd w 96)), (9, .ref (wAd w 97)), (10, .ref (wAd w 98)), (12, .int v12), (13, .int v13), (14, .int v14), (15, .int y.1), (16, .int y.2)] [] 20006 120252) : AtC w p l e ({ frames := 5, cells := 20007, slots := 120258, locals := 139 } : Room) s m args below meth c Q 20 549 M L [(0, .ref (wAd w 0)), (4, .ref (wAd w 92)), (5, .ref (wAd w 93)), (6, .ref (wAd w 94)), (7, .ref (wAd w 95)), (8, .ref (wAd w 96)), (9, .ref (wAd w 97)), (10, .ref (wAd w 98)), (12, .int v12), (13, .int v13), (14, .int v14), (15, .int z.1), (16, .int z.2.1), (17, .int z.2.2)] [] 20006 120252 := by
  intro H locs ls hP hS hl
  unfold f_L_told_l549 at hf
  refine lv_iload C.1 C.2.1 dL_told_549 (lv_at hl 13 rfl) ?_
  refine lv_sipush (v := 141) C.1 C.2.1 dL_told_551 (by decide) ?_
  refine lv_icmp_ge (tgt := 667) C.1 C.2.1 dL_told_554 (by decide) (fun c75 => ?_) (fun c75 => ?_)
  · have hf := (if_pos c75).symm.trans hf
    cases hf
    exact hE _ rfl _ _ _ hP hS (lv_sub hl [0, 1, 2, 3, 4, 5, 6, 7, 8, 9, 10, 11, 12] rfl)
  · have hf := (if_neg c75).symm.trans hf
    refine lv_iconst (v := 0) C.1 C.2.1 dL_told_557 (by decide) ?_
    refine lv_istore (lv' := [(18, .int 0), (0, .ref (wAd w 0)), (4, .ref (wAd w 92)), (5, .ref (wAd w 93)), (6, .ref (wAd w 94)), (7, .ref (wAd w 95)), (8, .ref (wAd w 96)), (9, .ref (wAd w 97)), (10, .ref (wAd w 98)), (12, .int v12), (13, .int v13), (14, .int v14), (15, .int z.1), (16, .int z.2.1), (17, .int z.2.2)]) C.1 C.2.1 dL_told_558 hl (by decide) rfl (fun ls hl => ?_)
    refine lv_iconst (v := 0) C.1 C.2.1 dL_told_560 (by decide) ?_
    refine lv_istore (lv' := [(19, .int 0), (18, .int 0), (0, .ref (wAd w 0)), (4, .ref (wAd w 92)), (5, .ref (wAd w 93)), (6, .ref (wAd w 94)), (7, .ref (wAd w 95)), (8, .ref (wAd w 96)), (9, .ref (wAd w 97)), (10, .ref (wAd w 98)), (12, .int v12), (13, .int v13), (14, .int v14), (15, .int z.1), (16, .int z.2.1), (17, .int z.2.2)]) C.1 C.2.1 dL_told_561 hl (by decide) rfl (fun ls hl => ?_)
    obtain ⟨o84, ho84, hf⟩ := ob hf
    refine loop_at (w_L_told_l563 C hN hT) FU _ o84 ho84 ?_ _ _ _ hP hS (lv_sub hl [2, 3, 4, 5, 6, 7, 8, 9, 10, 11, 12, 13, 14, 15, 1, 0] rfl)
    intro H locs ls hP hS hl
    refine lv_iload C.1 C.2.1 dL_told_618 (lv_at hl 13 rfl) ?_
    refine lv_iload C.1 C.2.1 dL_told_620 (lv_at hl 8 rfl) ?_
    refine lv_icmp_ne (tgt := 630) C.1 C.2.1 dL_told_622 (by decide) (fun c85 => ?_) (fun c85 => ?_)
    · have hf := (if_neg c85).symm.trans hf
      refine lv_iload C.1 C.2.1 dL_told_630 (lv_at hl 11 rfl) ?_
      exact w_L_told_j632 C hN hT hf hA hE _ _ _ hP hS (lv_sub hl [0, 1, 2, 3, 4, 5, 6, 7, 8, 9, 10, 12, 13, 14] rfl)
    · have hf := (if_pos c85).symm.trans hf
      refine lv_iload C.1 C.2.1 dL_told_625 (lv_at hl 14 rfl) ?_
      refine lv_goto (tgt := 632) C.1 C.2.1 dL_told_627 (by decide) ?_
      exact w_L_told_j632 C hN hT hf hA hE _ _ _ hP hS (lv_sub hl [0, 1, 2, 3, 4, 5, 6, 7, 8, 9, 10, 12, 13, 14] rfl)
set_option maxHeartbeats 4000000 in
set_option maxRecDepth 100000 in
theorem w_L_told_j730 {w : WT} {l : Launch} {p : Program} {e : Env} {s : State} {m : MethodId} {args : Array Value} {below : List Frame} {meth : Method} {c : Code} (C : KC w p s m args meth c cL_told 20 RL (some .boolean)) (hN : 99 ≤ wN w) (hT : wN w = 100) {v12 : Int32} {v13 : Int32} {v14 : Int32} {v15 : Int32} {v16 : Int32} {v17 : Int32} {v19 : Int32} {s0 : Int32} {M : Mem} {L : Lng} {Q : State → Prop} {o : (Int32 × Int32) ⊕ (Int32)} (hf : f_L_told_j730 v12 v13 v14 v15 v16 v17 v19 s0 M = some o) (hA : ∀ z, o = .inl z → AtC w p l e ({ frames := 5, cells := 20007, slots := 120258, locals := 139 } : Room) s m args below meth c Q 20 699 M L [(0, .ref (wAd w 0)), (5, .ref (wAd w 93)), (6, .ref (wAd w 94)), (9, .ref (wAd w 97)), (12, .int v12), (13, .int v13), (14, .int v14), (15, .int v15), (16, .int v16), (17, .int v17), (18, .int z.1), (19, .int z.2)] [] 20007 120258) (hE : ∀ y, o = .inr y → AtC w p l e ({ frames := 5, cells := 20007, slots := 120258, locals := 139 } : Room) s m args below meth c Q 20 738 M L [(0, .ref (wAd w 0)), (6, .ref (wAd w 94)), (12, .int v12), (13, .int v13), (14, .int v14), (15, .int v15), (16, .int v16), (17, .int v17), (18, .int y)] [] 20007 120258) : AtC w p l e ({ frames := 5, cells := 20007, slots := 120258, locals := 139 } : Room) s m args below meth c Q 20 730 M L [(0, .ref (wAd w 0)), (5, .ref (wAd w 93)), (6, .ref (wAd w 94)), (9, .ref (wAd w 97)), (12, .int v12), (13, .int v13), (14, .int v14), (15, .int v15), (16, .int v16), (17, .int v17), (19, .int v19)] [.int s0] 20007 120258 := by
  intro H locs ls hP hS hl
  unfold f_L_told_j730 at hf
  refine lv_istore (lv' := [(18, .int s0), (0, .ref (wAd w 0)), (5, .ref (wAd w 93)), (6, .ref (wAd w 94)), (9, .ref (wAd w 97)), (12, .int v12), (13, .int v13), (14, .int v14), (15, .int v15), (16, .int v16), (17, .int v17), (19, .int v19)]) C.1 C.2.1 dL_told_730 hl (by decide) rfl (fun ls hl => ?_)
  refine lv_iinc (v := (v19 + 1)) (lv' := [(19, .int (v19 + 1)), (18, .int s0), (0, .ref (wAd w 0)), (5, .ref (wAd w 93)), (6, .ref (wAd w 94)), (9, .ref (wAd w 97)), (12, .int v12), (13, .int v13), (14, .int v14), (15, .int v15), (16, .int v16), (17, .int v17)]) C.1 C.2.1 dL_told_732 hl (k := 11) rfl rfl (by decide) rfl (fun ls hl => ?_)
  refine lv_goto (tgt := 699) C.1 C.2.1 dL_told_735 (by decide) ?_
  cases hf
  exact hA _ rfl _ _ _ hP hS (lv_sub hl [2, 3, 4, 5, 6, 7, 8, 9, 10, 11, 1, 0] rfl)
set_option maxHeartbeats 4000000 in
set_option maxRecDepth 100000 in
theorem w_L_told_l699 {w : WT} {l : Launch} {p : Program} {e : Env} {s : State} {m : MethodId} {args : Array Value} {below : List Frame} {meth : Method} {c : Code} (C : KC w p s m args meth c cL_told 20 RL (some .boolean)) (hN : 99 ≤ wN w) (hT : wN w = 100) {v12 : Int32} {v13 : Int32} {v14 : Int32} {v15 : Int32} {v16 : Int32} {v17 : Int32} {M : Mem} {L : Lng} {Q : State → Prop} (z : Int32 × Int32) (o : (Int32 × Int32) ⊕ (Int32)) (hf : f_L_told_l699 v12 v13 v14 v15 v16 v17 M z = some o) (hA : ∀ z, o = .inl z → AtC w p l e ({ frames := 5, cells := 20007, slots := 120258, locals := 139 } : Room) s m args below meth c Q 20 699 M L [(0, .ref (wAd w 0)), (5, .ref (wAd w 93)), (6, .ref (wAd w 94)), (9, .ref (wAd w 97)), (12, .int v12), (13, .int v13), (14, .int v14), (15, .int v15), (16, .int v16), (17, .int v17), (18, .int z.1), (19, .int z.2)] [] 20007 120258) (hE : ∀ y, o = .inr y → AtC w p l e ({ frames := 5, cells := 20007, slots := 120258, locals := 139 } : Room) s m args below meth c Q 20 738 M L [(0, .ref (wAd w 0)), (6, .ref (wAd w 94)), (12, .int v12), (13, .int v13), (14, .int v14), (15, .int v15), (16, .int v16), (17, .int v17), (18, .int y)] [] 20007 120258) : AtC w p l e ({ frames := 5, cells := 20007, slots := 120258, locals := 139 } : Room) s m args below meth c Q 20 699 M L [(0, .ref (wAd w 0)), (5, .ref (wAd w 93)), (6, .ref (wAd w 94)), (9, .ref (wAd w 97)), (12, .int v12), (13, .int v13), (14, .int v14), (15, .int v15), (16, .int v16), (17, .int v17), (18, .int z.1), (19, .int z.2)] [] 20007 120258 := by
  intro H locs ls hP hS hl
  unfold f_L_told_l699 at hf
  refine lv_iload C.1 C.2.1 dL_told_699 (lv_at hl 11 rfl) ?_
  refine lv_aload C.1 C.2.1 dL_told_701 (lv_at hl 1 rfl) ?_
  refine lv_iconst (v := 0) C.1 C.2.1 dL_told_703 (by decide) ?_
  obtain ⟨x91, hx91, hf⟩ := ob hf
  refine k_iald C hP (C9 C (Nat.le_of_ble_eq_true rfl)) (ar_L93 w L _) hx91 dL_told_704 ?_
  refine lv_icmp_ge (tgt := 738) C.1 C.2.1 dL_told_705 (by decide) (fun c92 => ?_) (fun c92 => ?_)
  · have hf := (if_pos c92).symm.trans hf
    cases hf
    exact hE _ rfl _ _ _ hP hS (lv_sub hl [0, 2, 4, 5, 6, 7, 8, 9, 10] rfl)
  · have hf := (if_neg c92).symm.trans hf
    refine lv_aload C.1 C.2.1 dL_told_708 (lv_at hl 3 rfl) ?_
    refine lv_iload C.1 C.2.1 dL_told_710 (lv_at hl 11 rfl) ?_
    obtain ⟨x93, hx93, hf⟩ := ob hf
    refine k_iald C hP (Nat.lt_of_lt_of_le (Nat.le_of_ble_eq_true rfl) hN) (ar_L97 w L _) hx93 dL_told_712 ?_
    refine lv_if_ne (tgt := 728) C.1 C.2.1 dL_told_713 (by decide) (fun c94 => ?_) (fun c94 => ?_)
    · have hf := (if_neg c94).symm.trans hf
      refine lv_iload C.1 C.2.1 dL_told_728 (lv_at hl 10 rfl) ?_
      exact w_L_told_j730 C hN hT hf hA hE _ _ _ hP hS (lv_sub hl [0, 1, 2, 3, 4, 5, 6, 7, 8, 9, 11] rfl)
    · have hf := (if_pos c94).symm.trans hf
      refine lv_aload C.1 C.2.1 dL_told_716 (lv_at hl 1 rfl) ?_
      refine lv_iconst (v := 0) C.1 C.2.1 dL_told_718 (by decide) ?_
      obtain ⟨x95, hx95, hf⟩ := ob hf
      refine k_iald C hP (C9 C (Nat.le_of_ble_eq_true rfl)) (ar_L93 w L _) hx95 dL_told_719 ?_
      refine lv_iconst (v := 1) C.1 C.2.1 dL_told_720 (by decide) ?_
      refine lv_isub C.1 C.2.1 dL_told_721 ?_
      refine lv_iload C.1 C.2.1 dL_told_722 (lv_at hl 11 rfl) ?_
      refine lv_isub C.1 C.2.1 dL_told_724 ?_
      refine lv_goto (tgt := 730) C.1 C.2.1 dL_told_725 (by decide) ?_
      exact w_L_told_j730 C hN hT hf hA hE _ _ _ hP hS (lv_sub hl [0, 1, 2, 3, 4, 5, 6, 7, 8, 9, 11] rfl)
set_option maxHeartbeats 4000000 in
set_option maxRecDepth 100000 in
theorem w_L_told_j806 {w : WT} {l : Launch} {p : Program} {e : Env} {s : State} {m : MethodId} {args : Array Value} {below : List Frame} {meth : Method} {c : Code} (C : KC w p s m args meth c cL_told 20 RL (some .boolean)) (hN : 99 ≤ wN w) (hT : wN w = 100) {s0 : UInt64} {s1 : UInt64} {M : Mem} {L : Lng} {out : Int32 × Mem} (hf : f_L_told_j806 s0 s1 M = some out) : AtC w p l e ({ frames := 5, cells := 20007, slots := 120258, locals := 139 } : Room) s m args below meth c (MQ below (QI w out.1 out.2 L) args s 20007 120258 (wA w)) 20 806 M L [] [.double s1, .double s0] 20007 120258 := by
  intro H locs ls hP hS hl
  unfold f_L_told_j806 at hf
  refine lv_dcmp C.1 C.2.1 dL_told_806 ?_
  refine lv_if_ne (tgt := 814) C.1 C.2.1 dL_told_807 (by decide) (fun c109 => ?_) (fun c109 => ?_)
  · have hf := (if_neg c109).symm.trans hf
    refine lv_iconst (v := 0) C.1 C.2.1 dL_told_814 (by decide) ?_
    cases hf
    exact krz C hP hS bz0 dL_told_815
  · have hf := (if_pos c109).symm.trans hf
    refine lv_iconst (v := 1) C.1 C.2.1 dL_told_810 (by decide) ?_
    refine lv_goto (tgt := 815) C.1 C.2.1 dL_told_811 (by decide) ?_
    cases hf
    exact krz C hP hS bz1 dL_told_815
set_option maxHeartbeats 4000000 in
set_option maxRecDepth 100000 in
theorem w_L_told_j781 {w : WT} {l : Launch} {p : Program} {e : Env} {s : State} {m : MethodId} {args : Array Value} {below : List Frame} {meth : Method} {c : Code} (C : KC w p s m args meth c cL_told 20 RL (some .boolean)) (hN : 99 ≤ wN w) (hT : wN w = 100) {v14 : Int32} {v17 : Int32} {s0 : Int32} {s1 : Int32} {M : Mem} {L : Lng} {out : Int32 × Mem} (hf : f_L_told_j781 v14 v17 s0 s1 M = some out) : AtC w p l e ({ frames := 5, cells := 20007, slots := 120258, locals := 139 } : Room) s m args below meth c (MQ below (QI w out.1 out.2 L) args s 20007 120258 (wA w)) 20 781 M L [(0, .ref (wAd w 0)), (14, .int v14), (17, .int v17)] [.int s1, .int s0] 20007 120258 := by
  intro H locs ls hP hS hl
  unfold f_L_told_j781 at hf
  refine lv_icmp_ne (tgt := 814) C.1 C.2.1 dL_told_781 (by decide) (fun c104 => ?_) (fun c104 => ?_)
  · have hf := (if_neg c104).symm.trans hf
    refine lv_iconst (v := 0) C.1 C.2.1 dL_told_814 (by decide) ?_
    cases hf
    exact krz C hP hS bz0 dL_told_815
  · have hf := (if_pos c104).symm.trans hf
    refine lv_aload_n C.1 C.2.1 dL_told_784 rfl (lv_at hl 0 rfl) ?_
    obtain ⟨r105, hr105, hf⟩ := ob hf
    refine kcd (kV (As := []) (rest := []) C hl.1 hP hS (c_X8_share w l C.2.2.2.2.2.2.2.2 (L := L) hr105) (gV q498 q499 q500 q1 q501) hd_X8_share (C9 C (lt_NoisePost h0_NoisePost)) (ob_NoisePost h0_NoisePost w L _) rfl ⟨rfl, rfl⟩ ⟨Nat.le_of_ble_eq_true rfl, Nat.le_of_ble_eq_true rfl⟩ rfl rfl (Nat.le_of_ble_eq_true rfl) dL_told_785 ⟨Nat.le_of_ble_eq_true rfl, Nat.le_of_ble_eq_true rfl⟩) hS (fun H locs hP hS => ?_)
    refine lv_iload C.1 C.2.1 dL_told_788 (lv_at hl 1 rfl) ?_
    refine lv_if_ne (tgt := 797) C.1 C.2.1 dL_told_790 (by decide) (fun c106 => ?_) (fun c106 => ?_)
    · have hf := (if_neg c106).symm.trans hf
      refine lv_dconst1 C.1 C.2.1 dL_told_797 ?_
      refine lv_iload C.1 C.2.1 dL_told_798 (lv_at hl 2 rfl) ?_
      refine lv_i2d C.1 C.2.1 dL_told_800 ?_
      obtain ⟨x107, hx107, hf⟩ := ob hf
      refine k_dmul C hx107 dL_told_801 ?_
      refine lv_iload C.1 C.2.1 dL_told_802 (lv_at hl 1 rfl) ?_
      refine lv_i2d C.1 C.2.1 dL_told_804 ?_
      obtain ⟨x108, hx108, hf⟩ := ob hf
      refine k_ddiv C hx108 dL_told_805 ?_
      exact w_L_told_j806 C hN hT hf _ _ _ hP hS (lv_sub hl [] rfl)
    · have hf := (if_pos c106).symm.trans hf
      refine lv_dconst0 C.1 C.2.1 dL_told_793 ?_
      refine lv_goto (tgt := 806) C.1 C.2.1 dL_told_794 (by decide) ?_
      exact w_L_told_j806 C hN hT hf _ _ _ hP hS (lv_sub hl [] rfl)
set_option maxHeartbeats 4000000 in
set_option maxRecDepth 100000 in
theorem w_L_told_j738 {w : WT} {l : Launch} {p : Program} {e : Env} {s : State} {m : MethodId} {args : Array Value} {below : List Frame} {meth : Method} {c : Code} (C : KC w p s m args meth c cL_told 20 RL (some .boolean)) (hN : 99 ≤ wN w) (hT : wN w = 100) {v12 : Int32} {v13 : Int32} {v14 : Int32} {v15 : Int32} {v16 : Int32} {v17 : Int32} {v18 : Int32} {M : Mem} {L : Lng} {out : Int32 × Mem} (hf : f_L_told_j738 v12 v13 v14 v15 v16 v17 v18 M = some out) : AtC w p l e ({ frames := 5, cells := 20007, slots := 120258, locals := 139 } : Room) s m args below meth c (MQ below (QI w out.1 out.2 L) args s 20007 120258 (wA w)) 20 738 M L [(0, .ref (wAd w 0)), (6, .ref (wAd w 94)), (12, .int v12), (13, .int v13), (14, .int v14), (15, .int v15), (16, .int v16), (17, .int v17), (18, .int v18)] [] 20007 120258 := by
  intro H locs ls hP hS hl
  unfold f_L_told_j738 at hf
  refine lv_aload_n C.1 C.2.1 dL_told_738 rfl (lv_at hl 0 rfl) ?_
  refine lv_iload C.1 C.2.1 dL_told_739 (lv_at hl 2 rfl) ?_
  obtain ⟨r97, hr97, hf⟩ := ob hf
  refine kci (kV (As := [.int v12]) (rest := []) C hl.1 hP hS (c_X8_levelCount w l C.2.2.2.2.2.2.2.2 (L := L) hr97) (gV q481 q482 q483 q1 q484) hd_X8_levelCount (C9 C (lt_NoisePost h0_NoisePost)) (ob_NoisePost h0_NoisePost w L _) rfl ⟨rfl, rfl⟩ ⟨Nat.le_of_ble_eq_true rfl, Nat.le_of_ble_eq_true rfl⟩ rfl rfl (Nat.le_of_ble_eq_true rfl) dL_told_741 ⟨Nat.le_of_ble_eq_true rfl, Nat.le_of_ble_eq_true rfl⟩) hS (fun H locs hP hS => ?_)
  refine lv_iload C.1 C.2.1 dL_told_744 (lv_at hl 5 rfl) ?_
  refine lv_icmp_ne (tgt := 814) C.1 C.2.1 dL_told_746 (by decide) (fun c98 => ?_) (fun c98 => ?_)
  · have hf := (if_neg c98).symm.trans hf
    refine lv_iconst (v := 0) C.1 C.2.1 dL_told_814 (by decide) ?_
    cases hf
    exact krz C hP hS bz0 dL_told_815
  · have hf := (if_pos c98).symm.trans hf
    refine lv_aload_n C.1 C.2.1 dL_told_749 rfl (lv_at hl 0 rfl) ?_
    refine lv_iload C.1 C.2.1 dL_told_750 (lv_at hl 3 rfl) ?_
    obtain ⟨r99, hr99, hf⟩ := ob hf
    refine kci (kV (As := [.int v13]) (rest := []) C hl.1 hP hS (c_X8_percentLevel w l C.2.2.2.2.2.2.2.2 (L := L) hr99) (gV q489 q490 q491 q1 q492) hd_X8_percentLevel (C9 C (lt_NoisePost h0_NoisePost)) (ob_NoisePost h0_NoisePost w L _) rfl ⟨rfl, rfl⟩ ⟨Nat.le_of_ble_eq_true rfl, Nat.le_of_ble_eq_true rfl⟩ rfl rfl (Nat.le_of_ble_eq_true rfl) dL_told_752 ⟨Nat.le_of_ble_eq_true rfl, Nat.le_of_ble_eq_true rfl⟩) hS (fun H locs hP hS => ?_)
    refine lv_iload C.1 C.2.1 dL_told_755 (lv_at hl 6 rfl) ?_
    refine lv_icmp_ne (tgt := 814) C.1 C.2.1 dL_told_757 (by decide) (fun c100 => ?_) (fun c100 => ?_)
    · have hf := (if_neg c100).symm.trans hf
      refine lv_iconst (v := 0) C.1 C.2.1 dL_told_814 (by decide) ?_
      cases hf
      exact krz C hP hS bz0 dL_told_815
    · have hf := (if_pos c100).symm.trans hf
      refine lv_aload_n C.1 C.2.1 dL_told_760 rfl (lv_at hl 0 rfl) ?_
      refine lv_bipush (v := 11) C.1 C.2.1 dL_told_761 (by decide) ?_
      obtain ⟨r101, hr101, hf⟩ := ob hf
      refine kci (kV (As := [.int 11]) (rest := []) C hl.1 hP hS (c_X8_count w l C.2.2.2.2.2.2.2.2 (L := L) hr101) (gV q292 q293 q294 q1 q295) hd_X8_count (C9 C (lt_NoisePost h0_NoisePost)) (ob_NoisePost h0_NoisePost w L _) rfl ⟨rfl, rfl⟩ ⟨Nat.le_of_ble_eq_true rfl, Nat.le_of_ble_eq_true rfl⟩ rfl rfl (Nat.le_of_ble_eq_true rfl) dL_told_763 ⟨Nat.le_of_ble_eq_true rfl, Nat.le_of_ble_eq_true rfl⟩) hS (fun H locs hP hS => ?_)
      refine lv_iload C.1 C.2.1 dL_told_766 (lv_at hl 8 rfl) ?_
      refine lv_aload C.1 C.2.1 dL_told_768 (lv_at hl 1 rfl) ?_
      refine lv_bipush (v := 6) C.1 C.2.1 dL_told_770 (by decide) ?_
      obtain ⟨x102, hx102, hf⟩ := ob hf
      refine k_iald C hP (C9 C (Nat.le_of_ble_eq_true rfl)) (ar_L94 w L _) hx102 dL_told_772 ?_
      refine lv_icmp_ge (tgt := 780) C.1 C.2.1 dL_told_773 (by decide) (fun c103 => ?_) (fun c103 => ?_)
      · have hf := (if_pos c103).symm.trans hf
        refine lv_iconst (v := 0) C.1 C.2.1 dL_told_780 (by decide) ?_
        exact w_L_told_j781 C hN hT hf _ _ _ hP hS (lv_sub hl [0, 4, 7] rfl)
      · have hf := (if_neg c103).symm.trans hf
        refine lv_iconst (v := 1) C.1 C.2.1 dL_told_776 (by decide) ?_
        refine lv_goto (tgt := 781) C.1 C.2.1 dL_told_777 (by decide) ?_
        exact w_L_told_j781 C hN hT hf _ _ _ hP hS (lv_sub hl [0, 4, 7] rfl)
set_option maxHeartbeats 4000000 in
set_option maxRecDepth 100000 in
theorem w_L_told_j667 {w : WT} {l : Launch} {p : Program} {e : Env} {s : State} {m : MethodId} {args : Array Value} {below : List Frame} {meth : Method} {c : Code} (C : KC w p s m args meth c cL_told 20 RL (some .boolean)) (hN : 99 ≤ wN w) (hT : wN w = 100) {v12 : Int32} {v13 : Int32} {v14 : Int32} {v15 : Int32} {v16 : Int32} {M : Mem} {L : Lng} {out : Int32 × Mem} (hf : f_L_told_j667 v12 v13 v14 v15 v16 M = some out) : AtC w p l e ({ frames := 5, cells := 20007, slots := 120258, locals := 139 } : Room) s m args below meth c (MQ below (QI w out.1 out.2 L) args s 20007 120258 (wA w)) 20 667 M L [(0, .ref (wAd w 0)), (4, .ref (wAd w 92)), (5, .ref (wAd w 93)), (6, .ref (wAd w 94)), (7, .ref (wAd w 95)), (8, .ref (wAd w 96)), (9, .ref (wAd w 97)), (10, .ref (wAd w 98)), (12, .int v12), (13, .int v13), (14, .int v14), (15, .int v15), (16, .int v16)] [] 20006 120252 := by
  intro H locs ls hP hS hl
  unfold f_L_told_j667 at hf
  refine lv_iconst (v := 4) C.1 C.2.1 dL_told_667 (by decide) ?_
  refine lv_aload C.1 C.2.1 dL_told_668 (lv_at hl 1 rfl) ?_
  refine lv_aload C.1 C.2.1 dL_told_670 (lv_at hl 2 rfl) ?_
  refine lv_aload C.1 C.2.1 dL_told_672 (lv_at hl 3 rfl) ?_
  refine lv_aload C.1 C.2.1 dL_told_674 (lv_at hl 4 rfl) ?_
  refine lv_aload C.1 C.2.1 dL_told_676 (lv_at hl 5 rfl) ?_
  refine lv_aload C.1 C.2.1 dL_told_678 (lv_at hl 6 rfl) ?_
  refine lv_aload C.1 C.2.1 dL_told_680 (lv_at hl 7 rfl) ?_
  obtain ⟨r89, hr89, hf⟩ := ob hf
  refine kcic (kSc (As := [.int 4, .ref (wAd w 92), .ref (wAd w 93), .ref (wAd w 94), .ref (wAd w 95), .ref (wAd w 96), .ref (wAd w 97), .ref (wAd w 98)]) (rest := []) C hl.1 hP hS (c_L_counted w l C.2.2.2.2.2.2.2.2 hN (Or.inr rfl) hT (L := L) hr89) (gS q475 q476 q0 q477) hd_L_counted ⟨rfl, rfl⟩ ⟨Nat.le_of_ble_eq_true rfl, Nat.le_of_ble_eq_true rfl⟩ rfl rfl (Nat.le_of_ble_eq_true rfl) dL_told_682 ⟨Nat.le_of_ble_eq_true rfl, Nat.le_of_ble_eq_true rfl⟩) hS (fun H locs hP hS => ?_)
  refine lv_istore (lv' := [(17, .int r89.1), (0, .ref (wAd w 0)), (4, .ref (wAd w 92)), (5, .ref (wAd w 93)), (6, .ref (wAd w 94)), (7, .ref (wAd w 95)), (8, .ref (wAd w 96)), (9, .ref (wAd w 97)), (10, .ref (wAd w 98)), (12, .int v12), (13, .int v13), (14, .int v14), (15, .int v15), (16, .int v16)]) C.1 C.2.1 dL_told_685 hl (by decide) rfl (fun ls hl => ?_)
  refine lv_aload C.1 C.2.1 dL_told_687 (lv_at hl 3 rfl) ?_
  refine lv_iconst (v := 0) C.1 C.2.1 dL_told_689 (by decide) ?_
  obtain ⟨x90, hx90, hf⟩ := ob hf
  refine k_iald C hP (C9 C (Nat.le_of_ble_eq_true rfl)) (ar_L93 w L _) hx90 dL_told_690 ?_
  refine lv_bipush (v := 100) C.1 C.2.1 dL_told_691 (by decide) ?_
  refine lv_iadd C.1 C.2.1 dL_told_693 ?_
  refine lv_istore (lv' := [(18, .int (x90 + 100)), (17, .int r89.1), (0, .ref (wAd w 0)), (4, .ref (wAd w 92)), (5, .ref (wAd w 93)), (6, .ref (wAd w 94)), (7, .ref (wAd w 95)), (8, .ref (wAd w 96)), (9, .ref (wAd w 97)), (10, .ref (wAd w 98)), (12, .int v12), (13, .int v13), (14, .int v14), (15, .int v15), (16, .int v16)]) C.1 C.2.1 dL_told_694 hl (by decide) rfl (fun ls hl => ?_)
  refine lv_iconst (v := 0) C.1 C.2.1 dL_told_696 (by decide) ?_
  refine lv_istore (lv' := [(19, .int 0), (18, .int (x90 + 100)), (17, .int r89.1), (0, .ref (wAd w 0)), (4, .ref (wAd w 92)), (5, .ref (wAd w 93)), (6, .ref (wAd w 94)), (7, .ref (wAd w 95)), (8, .ref (wAd w 96)), (9, .ref (wAd w 97)), (10, .ref (wAd w 98)), (12, .int v12), (13, .int v13), (14, .int v14), (15, .int v15), (16, .int v16)]) C.1 C.2.1 dL_told_697 hl (by decide) rfl (fun ls hl => ?_)
  obtain ⟨o96, ho96, hf⟩ := ob hf
  refine loop_at (w_L_told_l699 C hN hT) FU _ o96 ho96 ?_ _ _ _ hP hS (lv_sub hl [3, 5, 6, 9, 11, 12, 13, 14, 15, 2, 1, 0] rfl)
  intro H locs ls hP hS hl
  exact w_L_told_j738 C hN hT hf _ _ _ hP hS hl
set_option maxHeartbeats 4000000 in
set_option maxRecDepth 100000 in
theorem w_L_told_j499 {w : WT} {l : Launch} {p : Program} {e : Env} {s : State} {m : MethodId} {args : Array Value} {below : List Frame} {meth : Method} {c : Code} (C : KC w p s m args meth c cL_told 20 RL (some .boolean)) (hN : 99 ≤ wN w) (hT : wN w = 100) {v1 : Int32} {M : Mem} {L : Lng} {out : Int32 × Mem} (hf : f_L_told_j499 v1 M = some out) : AtC w p l e ({ frames := 5, cells := 20007, slots := 120258, locals := 139 } : Room) s m args below meth c (MQ below (QI w out.1 out.2 L) args s 20007 120258 (wA w)) 20 499 M L [(0, .ref (wAd w 0)), (1, .int v1), (4, .ref (wAd w 92)), (5, .ref (wAd w 93)), (6, .ref (wAd w 94)), (7, .ref (wAd w 95)), (8, .ref (wAd w 96)), (9, .ref (wAd w 97)), (10, .ref (wAd w 98))] [] 20005 120246 := by
  intro H locs ls hP hS hl
  unfold f_L_told_j499 at hf
  refine lv_iload_n C.1 C.2.1 dL_told_499 rfl (lv_at hl 1 rfl) ?_
  refine lv_sipush (v := 141) C.1 C.2.1 dL_told_500 (by decide) ?_
  obtain ⟨r72, hr72, hf⟩ := ob hf
  refine kci (kS (As := [.int v1, .int 141]) (rest := []) C hl.1 hP hS (c_L_at w l C.2.2.2.2.2.2.2.2 (L := L) hr72) (gS q384 q385 q0 q386) hd_L_at ⟨rfl, rfl⟩ ⟨Nat.le_of_ble_eq_true rfl, Nat.le_of_ble_eq_true rfl⟩ rfl rfl (Nat.le_of_ble_eq_true rfl) dL_told_503 ⟨Nat.le_of_ble_eq_true rfl, Nat.le_of_ble_eq_true rfl⟩) hS (fun H locs hP hS => ?_)
  refine lv_istore (lv' := [(12, .int r72), (0, .ref (wAd w 0)), (1, .int v1), (4, .ref (wAd w 92)), (5, .ref (wAd w 93)), (6, .ref (wAd w 94)), (7, .ref (wAd w 95)), (8, .ref (wAd w 96)), (9, .ref (wAd w 97)), (10, .ref (wAd w 98))]) C.1 C.2.1 dL_told_506 hl (by decide) rfl (fun ls hl => ?_)
  refine lv_iconst (v := 1) C.1 C.2.1 dL_told_508 (by decide) ?_
  refine lv_iload_n C.1 C.2.1 dL_told_509 rfl (lv_at hl 2 rfl) ?_
  refine lv_iconst (v := 3) C.1 C.2.1 dL_told_510 (by decide) ?_
  refine lv_ishr C.1 C.2.1 dL_told_511 ?_
  refine lv_bipush (v := 100) C.1 C.2.1 dL_told_512 (by decide) ?_
  obtain ⟨r73, hr73, hf⟩ := ob hf
  refine kci (kS (As := [.int (v1 >>> (3 &&& 31)), .int 100]) (rest := [.int 1]) C hl.1 hP hS (c_L_at w l C.2.2.2.2.2.2.2.2 (L := L) hr73) (gS q384 q385 q0 q386) hd_L_at ⟨rfl, rfl⟩ ⟨Nat.le_of_ble_eq_true rfl, Nat.le_of_ble_eq_true rfl⟩ rfl rfl (Nat.le_of_ble_eq_true rfl) dL_told_514 ⟨Nat.le_of_ble_eq_true rfl, Nat.le_of_ble_eq_true rfl⟩) hS (fun H locs hP hS => ?_)
  refine lv_iadd C.1 C.2.1 dL_told_517 ?_
  refine lv_istore (lv' := [(13, .int (1 + r73)), (12, .int r72), (0, .ref (wAd w 0)), (1, .int v1), (4, .ref (wAd w 92)), (5, .ref (wAd w 93)), (6, .ref (wAd w 94)), (7, .ref (wAd w 95)), (8, .ref (wAd w 96)), (9, .ref (wAd w 97)), (10, .ref (wAd w 98))]) C.1 C.2.1 dL_told_518 hl (by decide) rfl (fun ls hl => ?_)
  refine lv_iconst (v := 1) C.1 C.2.1 dL_told_520 (by decide) ?_
  refine lv_aload C.1 C.2.1 dL_told_521 (lv_at hl 4 rfl) ?_
  refine lv_aload C.1 C.2.1 dL_told_523 (lv_at hl 5 rfl) ?_
  refine lv_aload C.1 C.2.1 dL_told_525 (lv_at hl 6 rfl) ?_
  refine lv_aload C.1 C.2.1 dL_told_527 (lv_at hl 7 rfl) ?_
  refine lv_aload C.1 C.2.1 dL_told_529 (lv_at hl 8 rfl) ?_
  refine lv_aload C.1 C.2.1 dL_told_531 (lv_at hl 9 rfl) ?_
  refine lv_aload C.1 C.2.1 dL_told_533 (lv_at hl 10 rfl) ?_
  obtain ⟨r74, hr74, hf⟩ := ob hf
  refine kcic (kSc (As := [.int 1, .ref (wAd w 92), .ref (wAd w 93), .ref (wAd w 94), .ref (wAd w 95), .ref (wAd w 96), .ref (wAd w 97), .ref (wAd w 98)]) (rest := []) C hl.1 hP hS (c_L_counted w l C.2.2.2.2.2.2.2.2 hN (Or.inr rfl) hT (L := L) hr74) (gS q475 q476 q0 q477) hd_L_counted ⟨rfl, rfl⟩ ⟨Nat.le_of_ble_eq_true rfl, Nat.le_of_ble_eq_true rfl⟩ rfl rfl (Nat.le_of_ble_eq_true rfl) dL_told_535 ⟨Nat.le_of_ble_eq_true rfl, Nat.le_of_ble_eq_true rfl⟩) hS (fun H locs hP hS => ?_)
  refine lv_istore (lv' := [(14, .int r74.1), (13, .int (1 + r73)), (12, .int r72), (0, .ref (wAd w 0)), (1, .int v1), (4, .ref (wAd w 92)), (5, .ref (wAd w 93)), (6, .ref (wAd w 94)), (7, .ref (wAd w 95)), (8, .ref (wAd w 96)), (9, .ref (wAd w 97)), (10, .ref (wAd w 98))]) C.1 C.2.1 dL_told_538 hl (by decide) rfl (fun ls hl => ?_)
  refine lv_iconst (v := 0) C.1 C.2.1 dL_told_540 (by decide) ?_
  refine lv_istore (lv' := [(15, .int 0), (14, .int r74.1), (13, .int (1 + r73)), (12, .int r72), (0, .ref (wAd w 0)), (1, .int v1), (4, .ref (wAd w 92)), (5, .ref (wAd w 93)), (6, .ref (wAd w 94)), (7, .ref (wAd w 95)), (8, .ref (wAd w 96)), (9, .ref (wAd w 97)), (10, .ref (wAd w 98))]) C.1 C.2.1 dL_told_541 hl (by decide) rfl (fun ls hl => ?_)
  refine lv_iconst (v := (-1)) C.1 C.2.1 dL_told_543 (by decide) ?_
  refine lv_istore (lv' := [(16, .int (-1)), (15, .int 0), (14, .int r74.1), (13, .int (1 + r73)), (12, .int r72), (0, .ref (wAd w 0)), (1, .int v1), (4, .ref (wAd w 92)), (5, .ref (wAd w 93)), (6, .ref (wAd w 94)), (7, .ref (wAd w 95)), (8, .ref (wAd w 96)), (9, .ref (wAd w 97)), (10, .ref (wAd w 98))]) C.1 C.2.1 dL_told_544 hl (by decide) rfl (fun ls hl => ?_)
  refine lv_iconst (v := 0) C.1 C.2.1 dL_told_546 (by decide) ?_
  refine lv_istore (lv' := [(17, .int 0), (16, .int (-1)), (15, .int 0), (14, .int r74.1), (13, .int (1 + r73)), (12, .int r72), (0, .ref (wAd w 0)), (1, .int v1), (4, .ref (wAd w 92)), (5, .ref (wAd w 93)), (6, .ref (wAd w 94)), (7, .ref (wAd w 95)), (8, .ref (wAd w 96)), (9, .ref (wAd w 97)), (10, .ref (wAd w 98))]) C.1 C.2.1 dL_told_547 hl (by decide) rfl (fun ls hl => ?_)
  obtain ⟨o88, ho88, hf⟩ := ob hf
  refine loop_at (w_L_told_l549 C hN hT) FU _ o88 ho88 ?_ _ _ _ hP hS (lv_sub hl [6, 8, 9, 10, 11, 12, 13, 14, 5, 4, 3, 2, 1, 0] rfl)
  intro H locs ls hP hS hl
  exact w_L_told_j667 C hN hT hf _ _ _ hP hS hl
set_option maxHeartbeats 4000000 in
set_option maxRecDepth 100000 in
theorem w_L_told_j439 {w : WT} {l : Launch} {p : Program} {e : Env} {s : State} {m : MethodId} {args : Array Value} {below : List Frame} {meth : Method} {c : Code} (C : KC w p s m args meth c cL_told 20 RL (some .boolean)) (hN : 99 ≤ wN w) (hT : wN w = 100) {v1 : Int32} {M : Mem} {L : Lng} {out : Int32 × Mem} (hf : f_L_told_j439 v1 M = some out) : AtC w p l e ({ frames := 5, cells := 20007, slots := 120258, locals := 139 } : Room) s m args below meth c (MQ below (QI w out.1 out.2 L) args s 20007 120258 (wA w)) 20 439 M L [(0, .ref (wAd w 0)), (1, .int v1), (4, .ref (wAd w 92)), (5, .ref (wAd w 93)), (6, .ref (wAd w 94)), (7, .ref (wAd w 95)), (8, .ref (wAd w 96)), (9, .ref (wAd w 97)), (10, .ref (wAd w 98))] [] 5 246 := by
  intro H locs ls hP hS hl
  unfold f_L_told_j439 at hf
  refine lv_iconst (v := 0) C.1 C.2.1 dL_told_439 (by decide) ?_
  refine lv_istore (lv' := [(12, .int 0), (0, .ref (wAd w 0)), (1, .int v1), (4, .ref (wAd w 92)), (5, .ref (wAd w 93)), (6, .ref (wAd w 94)), (7, .ref (wAd w 95)), (8, .ref (wAd w 96)), (9, .ref (wAd w 97)), (10, .ref (wAd w 98))]) C.1 C.2.1 dL_told_440 hl (by decide) rfl (fun ls hl => ?_)
  obtain ⟨o71, ho71, hf⟩ := ob hf
  refine loop_atj (A := fun j z => AtC w p l e ({ frames := 5, cells := 20007, slots := 120258, locals := 139 } : Room) s m args below meth c (MQ below (QI w out.1 out.2 L) args s 20007 120258 (wA w)) 20 442 z.2 L [(0, .ref (wAd w 0)), (1, .int v1), (4, .ref (wAd w 92)), (5, .ref (wAd w 93)), (6, .ref (wAd w 94)), (7, .ref (wAd w 95)), (8, .ref (wAd w 96)), (9, .ref (wAd w 97)), (10, .ref (wAd w 98)), (12, .int z.1)] [] (5 + j) (246 + 6 * j)) FU (fun j hj z o hb hA hE => w_L_told_l442 C hN hT (out := out) (cu := 5 + j) (su := 246 + 6 * j) (by unfold FU at hj; omega) (by unfold FU at hj; omega) z o hb hA hE) FU 0 _ o71 (by unfold FU; omega) ho71 ?_ _ _ _ hP hS (lv_sub hl [1, 2, 3, 4, 5, 6, 7, 8, 9, 0] rfl)
  rcases o71 with o71 | o71
  · simp only [Sum.elim_inl] at hf
    intro H locs ls hP hS hl
    exact w_L_told_j499 C hN hT hf _ _ _ hP hS hl
  · simp only [Sum.elim_inr] at hf
    exact Option.some.inj hf
set_option maxHeartbeats 4000000 in
set_option maxRecDepth 100000 in
theorem w_L_told_j372 {w : WT} {l : Launch} {p : Program} {e : Env} {s : State} {m : MethodId} {args : Array Value} {below : List Frame} {meth : Method} {c : Code} (C : KC w p s m args meth c cL_told 20 RL (some .boolean)) (hN : 99 ≤ wN w) (hT : wN w = 100) {v1 : Int32} {M : Mem} {L : Lng} {out : Int32 × Mem} (hf : f_L_told_j372 v1 M = some out) : AtC w p l e ({ frames := 5, cells := 20007, slots := 120258, locals := 139 } : Room) s m args below meth c (MQ below (QI w out.1 out.2 L) args s 20007 120258 (wA w)) 20 372 M L [(0, .ref (wAd w 0)), (1, .int v1), (4, .ref (wAd w 92)), (5, .ref (wAd w 93)), (6, .ref (wAd w 94)), (7, .ref (wAd w 95)), (8, .ref (wAd w 96)), (9, .ref (wAd w 97)), (10, .ref (wAd w 98)), (11, .ref (wAd w 99))] [] 5 246 := by
  intro H locs ls hP hS hl
  unfold f_L_told_j372 at hf
  refine lv_iconst (v := 0) C.1 C.2.1 dL_told_372 (by decide) ?_
  refine lv_istore (lv' := [(12, .int 0), (0, .ref (wAd w 0)), (1, .int v1), (4, .ref (wAd w 92)), (5, .ref (wAd w 93)), (6, .ref (wAd w 94)), (7, .ref (wAd w 95)), (8, .ref (wAd w 96)), (9, .ref (wAd w 97)), (10, .ref (wAd w 98)), (11, .ref (wAd w 99))]) C.1 C.2.1 dL_told_373 hl (by decide) rfl (fun ls hl => ?_)
  obtain ⟨o63, ho63, hf⟩ := ob hf
  refine loop_at (w_L_told_l375 C hN hT (out := out)) FU _ o63 ho63 ?_ _ _ _ hP hS (lv_sub hl [1, 2, 3, 4, 5, 6, 7, 8, 9, 10, 0] rfl)
  rcases o63 with o63 | o63
  · simp only [Sum.elim_inl] at hf
    intro H locs ls hP hS hl
    exact w_L_told_j439 C hN hT hf _ _ _ hP hS hl
  · simp only [Sum.elim_inr] at hf
    exact Option.some.inj hf
set_option maxHeartbeats 4000000 in
set_option maxRecDepth 100000 in
theorem w_L_told_j30 {w : WT} {l : Launch} {p : Program} {e : Env} {s : State} {m : MethodId} {args : Array Value} {below : List Frame} {meth : Method} {c : Code} (C : KC w p s m args meth c cL_told 20 RL (some .boolean)) (hN : 99 ≤ wN w) (hT : wN w = 100) {v1 : Int32} {M : Mem} {L : Lng} {out : Int32 × Mem} (hf : f_L_told_j30 v1 M = some out) : AtC w p l e ({ frames := 5, cells := 20007, slots := 120258, locals := 139 } : Room) s m args below meth c (MQ below (QI w out.1 out.2 L) args s 20007 120258 (wA w)) 20 30 M L [(0, .ref (wAd w 0)), (1, .int v1), (2, .ref (wAd w 90)), (3, .ref (wAd w 91)), (4, .ref (wAd w 92)), (5, .ref (wAd w 93)), (6, .ref (wAd w 94)), (7, .ref (wAd w 95)), (8, .ref (wAd w 96)), (9, .ref (wAd w 97)), (10, .ref (wAd w 98)), (11, .ref (wAd w 99))] [] 5 246 := by
  intro H locs ls hP hS hl
  unfold f_L_told_j30 at hf
  refine lv_aload_n C.1 C.2.1 dL_told_30 rfl (lv_at hl 2 rfl) ?_
  refine lv_aload_n C.1 C.2.1 dL_told_31 rfl (lv_at hl 3 rfl) ?_
  refine lv_aload C.1 C.2.1 dL_told_32 (lv_at hl 5 rfl) ?_
  refine lv_aload C.1 C.2.1 dL_told_34 (lv_at hl 6 rfl) ?_
  refine lv_aload C.1 C.2.1 dL_told_36 (lv_at hl 7 rfl) ?_
  refine lv_aload C.1 C.2.1 dL_told_38 (lv_at hl 8 rfl) ?_
  refine lv_aload C.1 C.2.1 dL_told_40 (lv_at hl 9 rfl) ?_
  refine lv_aload C.1 C.2.1 dL_told_42 (lv_at hl 10 rfl) ?_
  obtain ⟨r1, hr1, hf⟩ := ob hf
  refine kcv (kS (As := [.ref (wAd w 90), .ref (wAd w 91), .ref (wAd w 93), .ref (wAd w 94), .ref (wAd w 95), .ref (wAd w 96), .ref (wAd w 97), .ref (wAd w 98)]) (rest := []) C hl.1 hP hS (c_L_lay w l C.2.2.2.2.2.2.2.2 hN (L := L) hr1) (gS q390 q391 q0 q392) hd_L_lay ⟨rfl, rfl⟩ ⟨Nat.le_of_ble_eq_true rfl, Nat.le_of_ble_eq_true rfl⟩ rfl rfl (Nat.le_of_ble_eq_true rfl) dL_told_44 ⟨Nat.le_of_ble_eq_true rfl, Nat.le_of_ble_eq_true rfl⟩) hS (fun H locs hP hS => ?_)
  refine lv_aload C.1 C.2.1 dL_told_47 (lv_at hl 4 rfl) ?_
  refine lv_aload C.1 C.2.1 dL_told_49 (lv_at hl 11 rfl) ?_
  refine lv_aload C.1 C.2.1 dL_told_51 (lv_at hl 5 rfl) ?_
  refine lv_aload C.1 C.2.1 dL_told_53 (lv_at hl 6 rfl) ?_
  refine lv_aload C.1 C.2.1 dL_told_55 (lv_at hl 7 rfl) ?_
  refine lv_aload C.1 C.2.1 dL_told_57 (lv_at hl 8 rfl) ?_
  refine lv_aload C.1 C.2.1 dL_told_59 (lv_at hl 9 rfl) ?_
  refine lv_aload C.1 C.2.1 dL_told_61 (lv_at hl 10 rfl) ?_
  obtain ⟨r2, hr2, hf⟩ := ob hf
  refine kcv (kS (As := [.ref (wAd w 92), .ref (wAd w 99), .ref (wAd w 93), .ref (wAd w 94), .ref (wAd w 95), .ref (wAd w 96), .ref (wAd w 97), .ref (wAd w 98)]) (rest := []) C hl.1 hP hS (c_L_match w l C.2.2.2.2.2.2.2.2 hN (Or.inl rfl) (by rw [hT]; exact Nat.le_of_ble_eq_true rfl) (L := L) hr2) (gS q399 q400 q0 q401) hd_L_match ⟨rfl, rfl⟩ ⟨Nat.le_of_ble_eq_true rfl, Nat.le_of_ble_eq_true rfl⟩ rfl rfl (Nat.le_of_ble_eq_true rfl) dL_told_63 ⟨Nat.le_of_ble_eq_true rfl, Nat.le_of_ble_eq_true rfl⟩) hS (fun H locs hP hS => ?_)
  refine lv_iconst (v := 0) C.1 C.2.1 dL_told_66 (by decide) ?_
  refine lv_istore (lv' := [(12, .int 0), (0, .ref (wAd w 0)), (1, .int v1), (2, .ref (wAd w 90)), (3, .ref (wAd w 91)), (4, .ref (wAd w 92)), (5, .ref (wAd w 93)), (6, .ref (wAd w 94)), (7, .ref (wAd w 95)), (8, .ref (wAd w 96)), (9, .ref (wAd w 97)), (10, .ref (wAd w 98)), (11, .ref (wAd w 99))]) C.1 C.2.1 dL_told_67 hl (by decide) rfl (fun ls hl => ?_)
  obtain ⟨o51, ho51, hf⟩ := ob hf
  refine loop_at (w_L_told_l69 C hN hT (out := out)) FU _ o51 ho51 ?_ _ _ _ hP hS (lv_sub hl [1, 2, 3, 4, 5, 6, 7, 8, 9, 10, 11, 12, 0] rfl)
  rcases o51 with o51 | o51
  · simp only [Sum.elim_inl] at hf
    intro H locs ls hP hS hl
    exact w_L_told_j372 C hN hT hf _ _ _ hP hS hl
  · simp only [Sum.elim_inr] at hf
    exact Option.some.inj hf
set_option maxHeartbeats 4000000 in
set_option maxRecDepth 100000 in
theorem c_L_told (w : WT) (l : Launch) (hw : WOK w) (hT0 : wN w = 95) {a1 : Int32} {M : Mem} {L : Lng} {out : Int32 × Mem} (hf : f_L_told a1 M = some out) : Met l yL_told (Cond.code yL_told cL_told 20 (some .boolean) :: BG) ({ frames := 5, cells := 20007, slots := 120258, locals := 139 } : Room) (PRE w [.ref (wAd w 0), .int a1, .ref (wAd w 90), .ref (wAd w 91), .ref (wAd w 92), .ref (wAd w 93), .ref (wAd w 94)] M L) (QI w out.1 out.2 L) 20007 120258 (wA w) := by
  refine kEntC hw (by decide +kernel) rfl (Nat.le_of_ble_eq_true rfl) ?_
  intro p e s m args below meth c C ls hl hP
  have hS : va_S (wA w) s.heap s.heap [] := va_S.rf
  have hl : lv_has ls 20 [(0, .ref (wAd w 0)), (1, .int a1), (2, .ref (wAd w 90)), (3, .ref (wAd w 91)), (4, .ref (wAd w 92)), (5, .ref (wAd w 93)), (6, .ref (wAd w 94))] := hl
  unfold f_L_told at hf
  refine lv_bipush (v := 60) C.1 C.2.1 dL_told_0 (by decide) ?_
  refine k_newa (N := 60) (n := 95) C hP hS q71 hT0 (fun row => ar_L95 w L row) (by decide) rfl (Nat.le_of_ble_eq_true rfl) (Nat.le_of_ble_eq_true rfl) (Nat.le_of_ble_eq_true rfl) (Nat.le_of_ble_eq_true rfl) dL_told_2 (fun q1 w1 H C X1 e1 n1 hP hS => ?_)
  refine lv_astore (lv' := [(7, .ref q1), (0, .ref (wAd w 0)), (1, .int a1), (2, .ref (wAd w 90)), (3, .ref (wAd w 91)), (4, .ref (wAd w 92)), (5, .ref (wAd w 93)), (6, .ref (wAd w 94))]) C.1 C.2.1 dL_told_4 hl (by decide) rfl (fun ls hl => ?_)
  refine lv_bipush (v := 60) C.1 C.2.1 dL_told_6 (by decide) ?_
  refine k_newa (N := 60) (n := 96) C hP hS q71 n1 (fun row => ar_L96 w1 L row) (by decide) rfl (Nat.le_of_ble_eq_true rfl) (Nat.le_of_ble_eq_true rfl) (Nat.le_of_ble_eq_true rfl) (Nat.le_of_ble_eq_true rfl) dL_told_8 (fun q2 w2 H C X2 e2 n2 hP hS => ?_)
  refine lv_astore (lv' := [(8, .ref q2), (7, .ref q1), (0, .ref (wAd w 0)), (1, .int a1), (2, .ref (wAd w 90)), (3, .ref (wAd w 91)), (4, .ref (wAd w 92)), (5, .ref (wAd w 93)), (6, .ref (wAd w 94))]) C.1 C.2.1 dL_told_10 hl (by decide) rfl (fun ls hl => ?_)
  refine lv_bipush (v := 60) C.1 C.2.1 dL_told_12 (by decide) ?_
  refine k_newa (N := 60) (n := 97) C hP hS q71 n2 (fun row => ar_L97 w2 L row) (by decide) rfl (Nat.le_of_ble_eq_true rfl) (Nat.le_of_ble_eq_true rfl) (Nat.le_of_ble_eq_true rfl) (Nat.le_of_ble_eq_true rfl) dL_told_14 (fun q3 w3 H C X3 e3 n3 hP hS => ?_)
  refine lv_astore (lv' := [(9, .ref q3), (8, .ref q2), (7, .ref q1), (0, .ref (wAd w 0)), (1, .int a1), (2, .ref (wAd w 90)), (3, .ref (wAd w 91)), (4, .ref (wAd w 92)), (5, .ref (wAd w 93)), (6, .ref (wAd w 94))]) C.1 C.2.1 dL_told_16 hl (by decide) rfl (fun ls hl => ?_)
  refine lv_bipush (v := 60) C.1 C.2.1 dL_told_18 (by decide) ?_
  refine k_newa (N := 60) (n := 98) C hP hS q71 n3 (fun row => ar_L98 w3 L row) (by decide) rfl (Nat.le_of_ble_eq_true rfl) (Nat.le_of_ble_eq_true rfl) (Nat.le_of_ble_eq_true rfl) (Nat.le_of_ble_eq_true rfl) dL_told_20 (fun q4 w4 H C X4 e4 n4 hP hS => ?_)
  refine lv_astore (lv' := [(10, .ref q4), (9, .ref q3), (8, .ref q2), (7, .ref q1), (0, .ref (wAd w 0)), (1, .int a1), (2, .ref (wAd w 90)), (3, .ref (wAd w 91)), (4, .ref (wAd w 92)), (5, .ref (wAd w 93)), (6, .ref (wAd w 94))]) C.1 C.2.1 dL_told_22 hl (by decide) rfl (fun ls hl => ?_)
  refine lv_bipush (v := 6) C.1 C.2.1 dL_told_24 (by decide) ?_
  refine k_newa (N := 6) (n := 99) C hP hS q71 n4 (fun row => ar_L99 w4 L row) (by decide) rfl (Nat.le_of_ble_eq_true rfl) (Nat.le_of_ble_eq_true rfl) (Nat.le_of_ble_eq_true rfl) (Nat.le_of_ble_eq_true rfl) dL_told_26 (fun q5 w5 H C X5 e5 n5 hP hS => ?_)
  refine lv_astore (lv' := [(11, .ref q5), (10, .ref q4), (9, .ref q3), (8, .ref q2), (7, .ref q1), (0, .ref (wAd w 0)), (1, .int a1), (2, .ref (wAd w 90)), (3, .ref (wAd w 91)), (4, .ref (wAd w 92)), (5, .ref (wAd w 93)), (6, .ref (wAd w 94))]) C.1 C.2.1 dL_told_28 hl (by decide) rfl (fun ls hl => ?_)
  have XX : WX w w5 := (WX.trans (WX.trans (WX.trans (WX.trans X1 X2) X3) X4) X5)
  have g5 : wAd w5 99 = q5 := e5
  have g4 : wAd w5 98 = q4 := (X5.2.2.2.2.2.2 98 (by rw [n4]; exact Nat.lt_succ_self _)).trans e4
  have g3 : wAd w5 97 = q3 := ((WX.trans X4 X5).2.2.2.2.2.2 97 (by rw [n3]; exact Nat.lt_succ_self _)).trans e3
  have g2 : wAd w5 96 = q2 := ((WX.trans (WX.trans X3 X4) X5).2.2.2.2.2.2 96 (by rw [n2]; exact Nat.lt_succ_self _)).trans e2
  have g1 : wAd w5 95 = q1 := ((WX.trans (WX.trans (WX.trans X2 X3) X4) X5).2.2.2.2.2.2 95 (by rw [n1]; exact Nat.lt_succ_self _)).trans e1
  have k0 : wAd w5 0 = wAd w 0 := XX.2.2.2.2.2.2 0 (C9w hw (Nat.le_of_ble_eq_true rfl))
  have k90 : wAd w5 90 = wAd w 90 := XX.2.2.2.2.2.2 90 (C9w hw (Nat.le_of_ble_eq_true rfl))
  have k91 : wAd w5 91 = wAd w 91 := XX.2.2.2.2.2.2 91 (C9w hw (Nat.le_of_ble_eq_true rfl))
  have k92 : wAd w5 92 = wAd w 92 := XX.2.2.2.2.2.2 92 (C9w hw (Nat.le_of_ble_eq_true rfl))
  have k93 : wAd w5 93 = wAd w 93 := XX.2.2.2.2.2.2 93 (C9w hw (Nat.le_of_ble_eq_true rfl))
  have k94 : wAd w5 94 = wAd w 94 := XX.2.2.2.2.2.2 94 (C9w hw (Nat.le_of_ble_eq_true rfl))
  have hl : lv_has ls 20 [(11, .ref (wAd w5 99)), (10, .ref (wAd w5 98)), (9, .ref (wAd w5 97)), (8, .ref (wAd w5 96)), (7, .ref (wAd w5 95)), (0, .ref (wAd w5 0)), (1, .int a1), (2, .ref (wAd w5 90)), (3, .ref (wAd w5 91)), (4, .ref (wAd w5 92)), (5, .ref (wAd w5 93)), (6, .ref (wAd w5 94))] := by rw [g5, g4, g3, g2, g1, k0, k90, k91, k92, k93, k94]; exact hl
  refine W_mono (fun t h => MQ_down hw XX (by omega) h) ?_
  exact w_L_told_j30 C (by omega) n5 hf _ _ _ hP hS (lv_sub hl [5, 6, 7, 8, 9, 10, 11, 4, 3, 2, 1, 0] rfl)
