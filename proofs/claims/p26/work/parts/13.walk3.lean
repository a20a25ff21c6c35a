theorem dX7_minutesUntilAbove_0 : decode cX7_minutesUntilAbove 0 = .ok (.aload_n 0, 1) := by decide +kernel
theorem dX7_minutesUntilAbove_1 : decode cX7_minutesUntilAbove 1 = .ok (.getfield 26, 3) := by decide +kernel
theorem dX7_minutesUntilAbove_4 : decode cX7_minutesUntilAbove 4 = .ok (.invokevirtual 121, 3) := by decide +kernel
theorem dX7_minutesUntilAbove_7 : decode cX7_minutesUntilAbove 7 = .ok (.istore_n 2, 1) := by decide +kernel
theorem dX7_minutesUntilAbove_8 : decode cX7_minutesUntilAbove 8 = .ok (.iconst 1, 1) := by decide +kernel
theorem dX7_minutesUntilAbove_9 : decode cX7_minutesUntilAbove 9 = .ok (.istore_n 3, 1) := by decide +kernel
theorem dX7_minutesUntilAbove_10 : decode cX7_minutesUntilAbove 10 = .ok (.iload_n 3, 1) := by decide +kernel
theorem dX7_minutesUntilAbove_11 : decode cX7_minutesUntilAbove 11 = .ok (.bipush 100, 2) := by decide +kernel
theorem dX7_minutesUntilAbove_13 : decode cX7_minutesUntilAbove 13 = .ok (.if_icmp .gt 75, 3) := by decide +kernel
theorem dX7_minutesUntilAbove_16 : decode cX7_minutesUntilAbove 16 = .ok (.aload_n 0, 1) := by decide +kernel
theorem dX7_minutesUntilAbove_17 : decode cX7_minutesUntilAbove 17 = .ok (.getfield 26, 3) := by decide +kernel
theorem dX7_minutesUntilAbove_20 : decode cX7_minutesUntilAbove 20 = .ok (.getfield 69, 3) := by decide +kernel
theorem dX7_minutesUntilAbove_23 : decode cX7_minutesUntilAbove 23 = .ok (.iload_n 3, 1) := by decide +kernel
theorem dX7_minutesUntilAbove_24 : decode cX7_minutesUntilAbove 24 = .ok (.iadd, 1) := by decide +kernel
theorem dX7_minutesUntilAbove_25 : decode cX7_minutesUntilAbove 25 = .ok (.iconst 1, 1) := by decide +kernel
theorem dX7_minutesUntilAbove_26 : decode cX7_minutesUntilAbove 26 = .ok (.isub, 1) := by decide +kernel
theorem dX7_minutesUntilAbove_27 : decode cX7_minutesUntilAbove 27 = .ok (.istore 4, 2) := by decide +kernel
theorem dX7_minutesUntilAbove_29 : decode cX7_minutesUntilAbove 29 = .ok (.iload_n 2, 1) := by decide +kernel
theorem dX7_minutesUntilAbove_30 : decode cX7_minutesUntilAbove 30 = .ok (.iload_n 1, 1) := by decide +kernel
theorem dX7_minutesUntilAbove_31 : decode cX7_minutesUntilAbove 31 = .ok (.aload_n 0, 1) := by decide +kernel
theorem dX7_minutesUntilAbove_32 : decode cX7_minutesUntilAbove 32 = .ok (.getfield 18, 3) := by decide +kernel
theorem dX7_minutesUntilAbove_35 : decode cX7_minutesUntilAbove 35 = .ok (.bipush 9, 2) := by decide +kernel
theorem dX7_minutesUntilAbove_37 : decode cX7_minutesUntilAbove 37 = .ok (.iaload, 1) := by decide +kernel
theorem dX7_minutesUntilAbove_38 : decode cX7_minutesUntilAbove 38 = .ok (.invokestatic 124, 3) := by decide +kernel
theorem dX7_minutesUntilAbove_41 : decode cX7_minutesUntilAbove 41 = .ok (.istore_n 2, 1) := by decide +kernel
theorem dX7_minutesUntilAbove_42 : decode cX7_minutesUntilAbove 42 = .ok (.aload_n 0, 1) := by decide +kernel
theorem dX7_minutesUntilAbove_43 : decode cX7_minutesUntilAbove 43 = .ok (.getfield 26, 3) := by decide +kernel
theorem dX7_minutesUntilAbove_46 : decode cX7_minutesUntilAbove 46 = .ok (.iload 4, 2) := by decide +kernel
theorem dX7_minutesUntilAbove_48 : decode cX7_minutesUntilAbove 48 = .ok (.aload_n 0, 1) := by decide +kernel
theorem dX7_minutesUntilAbove_49 : decode cX7_minutesUntilAbove 49 = .ok (.getfield 18, 3) := by decide +kernel
theorem dX7_minutesUntilAbove_52 : decode cX7_minutesUntilAbove 52 = .ok (.iconst 5, 1) := by decide +kernel
theorem dX7_minutesUntilAbove_53 : decode cX7_minutesUntilAbove 53 = .ok (.iaload, 1) := by decide +kernel
theorem dX7_minutesUntilAbove_54 : decode cX7_minutesUntilAbove 54 = .ok (.invokevirtual 128, 3) := by decide +kernel
theorem dX7_minutesUntilAbove_57 : decode cX7_minutesUntilAbove 57 = .ok (.istore 5, 2) := by decide +kernel
theorem dX7_minutesUntilAbove_59 : decode cX7_minutesUntilAbove 59 = .ok (.iload 5, 2) := by decide +kernel
theorem dX7_minutesUntilAbove_61 : decode cX7_minutesUntilAbove 61 = .ok (.ifCond .ne 21, 3) := by decide +kernel
theorem dX7_minutesUntilAbove_64 : decode cX7_minutesUntilAbove 64 = .ok (.iload_n 2, 1) := by decide +kernel
theorem dX7_minutesUntilAbove_65 : decode cX7_minutesUntilAbove 65 = .ok (.bipush 10, 2) := by decide +kernel
theorem dX7_minutesUntilAbove_67 : decode cX7_minutesUntilAbove 67 = .ok (.iload 4, 2) := by decide +kernel
theorem dX7_minutesUntilAbove_69 : decode cX7_minutesUntilAbove 69 = .ok (.aload_n 0, 1) := by decide +kernel
theorem dX7_minutesUntilAbove_70 : decode cX7_minutesUntilAbove 70 = .ok (.getfield 18, 3) := by decide +kernel
theorem dX7_minutesUntilAbove_73 : decode cX7_minutesUntilAbove 73 = .ok (.invokestatic 131, 3) := by decide +kernel
theorem dX7_minutesUntilAbove_76 : decode cX7_minutesUntilAbove 76 = .ok (.imul, 1) := by decide +kernel
theorem dX7_minutesUntilAbove_77 : decode cX7_minutesUntilAbove 77 = .ok (.if_icmp .le 5, 3) := by decide +kernel
theorem dX7_minutesUntilAbove_80 : decode cX7_minutesUntilAbove 80 = .ok (.iload_n 3, 1) := by decide +kernel
theorem dX7_minutesUntilAbove_81 : decode cX7_minutesUntilAbove 81 = .ok (.ireturn, 1) := by decide +kernel
theorem dX7_minutesUntilAbove_82 : decode cX7_minutesUntilAbove 82 = .ok (.iinc 3 1, 3) := by decide +kernel
theorem dX7_minutesUntilAbove_85 : decode cX7_minutesUntilAbove 85 = .ok (.goto (-75), 3) := by decide +kernel
theorem dX7_minutesUntilAbove_88 : decode cX7_minutesUntilAbove 88 = .ok (.iconst (-1), 1) := by decide +kernel
theorem dX7_minutesUntilAbove_89 : decode cX7_minutesUntilAbove 89 = .ok (.ireturn, 1) := by decide +kernel
set_option maxHeartbeats 4000000 in
set_option maxRecDepth 100000 in
theorem w_X7_minutesUntilAbove_j82 {b0 : Nat} {w : WT} {l : Launch} {p : Program} {e : Env} {s : State} {m : MethodId} {args : Array Value} {below : List Frame} {meth : Method} {c : Code} (C : KC w p s m args meth c cX7_minutesUntilAbove 6 RX7 (some .int)) (hb0 : isVw b0) {v1 : Int32} {v2 : Int32} {v3 : Int32} {M : Mem} {L : Lng} {out : Int32} {o : (Int32 × Int32) ⊕ ((Unit) ⊕ (Int32))} (hf : f_X7_minutesUntilAbove_j82 b0 v1 v2 v3 M = some o) (hA : ∀ z, o = .inl z → AtL w p l e ({ frames := 3, cells := 0, slots := 0, locals := 64 } : Room) s m args below meth c (MQ below (QI w out M L) args s 0 0 (wA w)) 6 10 M L [(0, .ref (wAd w b0)), (1, .int v1), (2, .int z.1), (3, .int z.2)] []) (hE : ∀ y, o = .inr y → Sum.elim (fun y => AtL w p l e ({ frames := 3, cells := 0, slots := 0, locals := 64 } : Room) s m args below meth c (MQ below (QI w out M L) args s 0 0 (wA w)) 6 88 M L [] []) (fun y => y = out) y) : AtL w p l e ({ frames := 3, cells := 0, slots := 0, locals := 64 } : Room) s m args below meth c (MQ below (QI w out M L) args s 0 0 (wA w)) 6 82 M L [(0, .ref (wAd w b0)), (1, .int v1), (2, .int v2), (3, .int v3)] [] := by
  intro H locs ls hP hS hl
  unfold f_X7_minutesUntilAbove_j82 at hf
  refine lv_iinc (v := (v3 + 1)) (lv' := [(3, .int (v3 + 1)), (0, .ref (wAd w b0)), (1, .int v1), (2, .int v2)]) C.1 C.2.1 dX7_minutesUntilAbove_82 hl (k := 3) rfl rfl (by decide) rfl (fun ls hl => ?_)
  refine lv_goto (tgt := 10) C.1 C.2.1 dX7_minutesUntilAbove_85 (by decide) ?_
  cases hf
  exact hA _ rfl _ _ _ hP hS (lv_sub hl [1, 2, 3, 0] rfl)
set_option maxHeartbeats 4000000 in
set_option maxRecDepth 100000 in
theorem w_X7_minutesUntilAbove_l10 {b0 : Nat} {w : WT} {l : Launch} {p : Program} {e : Env} {s : State} {m : MethodId} {args : Array Value} {below : List Frame} {meth : Method} {c : Code} (C : KC w p s m args meth c cX7_minutesUntilAbove 6 RX7 (some .int)) (hb0 : isVw b0) {v1 : Int32} {M : Mem} {L : Lng} {out : Int32} (z : Int32 × Int32) (o : (Int32 × Int32) ⊕ ((Unit) ⊕ (Int32))) (hf : f_X7_minutesUntilAbove_l10 b0 v1 M z = some o) (hA : ∀ z, o = .inl z → AtL w p l e ({ frames := 3, cells := 0, slots := 0, locals := 64 } : Room) s m args below meth c (MQ below (QI w out M L) args s 0 0 (wA w)) 6 10 M L [(0, .ref (wAd w b0)), (1, .int v1), (2, .int z.1), (3, .int z.2)] []) (hE : ∀ y, o = .inr y → Sum.elim (fun y => AtL w p l e ({ frames := 3, cells := 0, slots := 0, locals := 64 } : Room) s m args below meth c (MQ below (QI w out M L) args s 0 0 (wA w)) 6 88 M L [] []) (fun y => y = out) y) : AtL w p l e ({ frames := 3, cells := 0, slots := 0, locals := 64 } : Room) s m args below meth c (MQ below (QI w out M L) args s 0 0 (wA w)) 6 10 M L [(0, .ref (wAd w b0)), (1, .int v1), (2, .int z.1), (3, .int z.2)] [] := by
  intro H locs ls hP hS hl
  unfold f_X7_minutesUntilAbove_l10 at hf
  refine lv_iload_n C.1 C.2.1 dX7_minutesUntilAbove_10 rfl (lv_at hl 3 rfl) ?_
  refine lv_bipush (v := 100) C.1 C.2.1 dX7_minutesUntilAbove_11 (by decide) ?_
  refine lv_icmp_gt (tgt := 88) C.1 C.2.1 dX7_minutesUntilAbove_13 (by decide) (fun c2 => ?_) (fun c2 => ?_)
  · have hf := (if_pos c2).symm.trans hf
    cases hf
    exact hE _ rfl _ _ _ hP hS (lv_sub hl [] rfl)
  · have hf := (if_neg c2).symm.trans hf
    refine lv_aload_n C.1 C.2.1 dX7_minutesUntilAbove_16 rfl (lv_at hl 0 rfl) ?_
    refine k_get (v := .ref (wAd w (b0 + 2))) C hP (C9 C (lt_View hb0)) (ob_View hb0 w L _) rfl iX7 1 (by decide) q247 rfl dX7_minutesUntilAbove_17 ?_
    refine k_get (v := .int (M (b0 + 2) 3)) C hP (C9 C (lt_Minutes (to_View_minutes hb0))) (ob_Minutes (to_View_minutes hb0) w L _) rfl iX4 3 (by decide) q149 rfl dX7_minutesUntilAbove_20 ?_
    refine lv_iload_n C.1 C.2.1 dX7_minutesUntilAbove_23 rfl (lv_at hl 3 rfl) ?_
    refine lv_iadd C.1 C.2.1 dX7_minutesUntilAbove_24 ?_
    refine lv_iconst (v := 1) C.1 C.2.1 dX7_minutesUntilAbove_25 (by decide) ?_
    refine lv_isub C.1 C.2.1 dX7_minutesUntilAbove_26 ?_
    refine lv_istore (lv' := [(4, .int (((M (b0 + 2) 3) + z.2) - 1)), (0, .ref (wAd w b0)), (1, .int v1), (2, .int z.1), (3, .int z.2)]) C.1 C.2.1 dX7_minutesUntilAbove_27 hl (by decide) rfl (fun ls hl => ?_)
    refine lv_iload_n C.1 C.2.1 dX7_minutesUntilAbove_29 rfl (lv_at hl 3 rfl) ?_
    refine lv_iload_n C.1 C.2.1 dX7_minutesUntilAbove_30 rfl (lv_at hl 2 rfl) ?_
    refine lv_aload_n C.1 C.2.1 dX7_minutesUntilAbove_31 rfl (lv_at hl 1 rfl) ?_
    refine k_get (v := .ref (wAd w (b0 + 1))) C hP (C9 C (lt_View hb0)) (ob_View hb0 w L _) rfl iX7 0 (by decide) q245 rfl dX7_minutesUntilAbove_32 ?_
    refine lv_bipush (v := 9) C.1 C.2.1 dX7_minutesUntilAbove_35 (by decide) ?_
    obtain ⟨x3, hx3, hf⟩ := ob hf
    refine k_iald C hP (C9 C (la_View_settings hb0)) (ar_View_settings hb0 w L _) hx3 dX7_minutesUntilAbove_37 ?_
    obtain ⟨r4, hr4, hf⟩ := ob hf
    refine kci (kSN (As := [.int z.1, .int v1, .int x3]) (rest := []) C hl.1 hP hS (c_X8_moved w l C.2.2.2.2.2.2.2.2 (L := L) hr4) q541 nw10 q1 q540 hd_X8_moved ⟨rfl, rfl⟩ ⟨Nat.le_of_ble_eq_true rfl, Nat.le_of_ble_eq_true rfl⟩ rfl rfl (Nat.le_of_ble_eq_true rfl) dX7_minutesUntilAbove_38 ⟨Nat.zero_le _, Nat.zero_le _⟩) hS (fun H locs hP hS => ?_)
    refine lv_istore_n (lv' := [(2, .int r4), (4, .int (((M (b0 + 2) 3) + z.2) - 1)), (0, .ref (wAd w b0)), (1, .int v1), (3, .int z.2)]) C.1 C.2.1 dX7_minutesUntilAbove_41 rfl hl (by decide) rfl (fun ls hl => ?_)
    refine lv_aload_n C.1 C.2.1 dX7_minutesUntilAbove_42 rfl (lv_at hl 2 rfl) ?_
    refine k_get (v := .ref (wAd w (b0 + 2))) C hP (C9 C (lt_View hb0)) (ob_View hb0 w L _) rfl iX7 1 (by decide) q247 rfl dX7_minutesUntilAbove_43 ?_
    refine lv_iload C.1 C.2.1 dX7_minutesUntilAbove_46 (lv_at hl 1 rfl) ?_
    refine lv_aload_n C.1 C.2.1 dX7_minutesUntilAbove_48 rfl (lv_at hl 2 rfl) ?_
    refine k_get (v := .ref (wAd w (b0 + 1))) C hP (C9 C (lt_View hb0)) (ob_View hb0 w L _) rfl iX7 0 (by decide) q245 rfl dX7_minutesUntilAbove_49 ?_
    refine lv_iconst (v := 5) C.1 C.2.1 dX7_minutesUntilAbove_52 (by decide) ?_
    obtain ⟨x5, hx5, hf⟩ := ob hf
    refine k_iald C hP (C9 C (la_View_settings hb0)) (ar_View_settings hb0 w L _) hx5 dX7_minutesUntilAbove_53 ?_
    obtain ⟨r6, hr6, hf⟩ := ob hf
    refine kci (kV (As := [.int (((M (b0 + 2) 3) + z.2) - 1), .int x5]) (rest := []) C hl.1 hP hS (c_X4_isSoonAfterWind w l C.2.2.2.2.2.2.2.2 (to_View_minutes hb0) (L := L) hr6) (gV q624 q547 q548 q6 q549) hd_X4_isSoonAfterWind (C9 C (lt_Minutes (to_View_minutes hb0))) (ob_Minutes (to_View_minutes hb0) w L _) rfl ⟨rfl, rfl⟩ ⟨Nat.le_of_ble_eq_true rfl, Nat.le_of_ble_eq_true rfl⟩ rfl rfl (Nat.le_of_ble_eq_true rfl) dX7_minutesUntilAbove_54 ⟨Nat.zero_le _, Nat.zero_le _⟩) hS (fun H locs hP hS => ?_)
    refine lv_istore (lv' := [(5, .int r6), (2, .int r4), (4, .int (((M (b0 + 2) 3) + z.2) - 1)), (0, .ref (wAd w b0)), (1, .int v1), (3, .int z.2)]) C.1 C.2.1 dX7_minutesUntilAbove_57 hl (by decide) rfl (fun ls hl => ?_)
    refine lv_iload C.1 C.2.1 dX7_minutesUntilAbove_59 (lv_at hl 0 rfl) ?_
    refine lv_if_ne (tgt := 82) C.1 C.2.1 dX7_minutesUntilAbove_61 (by decide) (fun c7 => ?_) (fun c7 => ?_)
    · have hf := (if_neg c7).symm.trans hf
      exact w_X7_minutesUntilAbove_j82 C hb0 hf hA hE _ _ _ hP hS (lv_sub hl [3, 4, 1, 5] rfl)
    · have hf := (if_pos c7).symm.trans hf
      refine lv_iload_n C.1 C.2.1 dX7_minutesUntilAbove_64 rfl (lv_at hl 1 rfl) ?_
      refine lv_bipush (v := 10) C.1 C.2.1 dX7_minutesUntilAbove_65 (by decide) ?_
      refine lv_iload C.1 C.2.1 dX7_minutesUntilAbove_67 (lv_at hl 2 rfl) ?_
      refine lv_aload_n C.1 C.2.1 dX7_minutesUntilAbove_69 rfl (lv_at hl 3 rfl) ?_
      refine k_get (v := .ref (wAd w (b0 + 1))) C hP (C9 C (lt_View hb0)) (ob_View hb0 w L _) rfl iX7 0 (by decide) q245 rfl dX7_minutesUntilAbove_70 ?_
      obtain ⟨r8, hr8, hf⟩ := ob hf
      refine kci (kSN (As := [.int (((M (b0 + 2) 3) + z.2) - 1), .ref (wAd w (b0 + 1))]) (rest := [.int 10, .int r4]) C hl.1 hP hS (c_X8_limitAt w l C.2.2.2.2.2.2.2.2 (s_View hb0) (L := L) hr8) q435 nw11 q1 q434 hd_X8_limitAt ⟨rfl, rfl⟩ ⟨Nat.le_of_ble_eq_true rfl, Nat.le_of_ble_eq_true rfl⟩ rfl rfl (Nat.le_of_ble_eq_true rfl) dX7_minutesUntilAbove_73 ⟨Nat.zero_le _, Nat.zero_le _⟩) hS (fun H locs hP hS => ?_)
      refine lv_imul C.1 C.2.1 dX7_minutesUntilAbove_76 ?_
      refine lv_icmp_le (tgt := 82) C.1 C.2.1 dX7_minutesUntilAbove_77 (by decide) (fun c9 => ?_) (fun c9 => ?_)
      · have hf := (if_pos c9).symm.trans hf
        exact w_X7_minutesUntilAbove_j82 C hb0 hf hA hE _ _ _ hP hS (lv_sub hl [3, 4, 1, 5] rfl)
      · have hf := (if_neg c9).symm.trans hf
        refine lv_iload_n C.1 C.2.1 dX7_minutesUntilAbove_80 rfl (lv_at hl 5 rfl) ?_
        cases hf
        cases hE _ rfl
        exact kri C hP hS dX7_minutesUntilAbove_81
set_option maxHeartbeats 4000000 in
set_option maxRecDepth 100000 in
theorem c_X7_minutesUntilAbove (w : WT) (l : Launch) (hw : WOK w) {b0 : Nat} (hb0 : isVw b0) {a1 : Int32} {M : Mem} {L : Lng} {out : Int32} (hf : f_X7_minutesUntilAbove b0 a1 M = some out) : Met l yX7_minutesUntilAbove (Cond.code yX7_minutesUntilAbove cX7_minutesUntilAbove 6 (some .int) :: BG) ({ frames := 3, cells := 0, slots := 0, locals := 64 } : Room) (PRE w [.ref (wAd w b0), .int a1] M L) (QI w out M L) 0 0 (wA w) := by
  refine kEnt hw (by decide +kernel) rfl (Nat.le_of_ble_eq_true rfl) ?_
  intro p e s m args below meth c C ls hl hP
  have hS : va_S (wA w) s.heap s.heap [] := va_S.rf
  have hl : lv_has ls 6 [(0, .ref (wAd w b0)), (1, .int a1)] := hl
  unfold f_X7_minutesUntilAbove at hf
  refine lv_aload_n C.1 C.2.1 dX7_minutesUntilAbove_0 rfl (lv_at hl 0 rfl) ?_
  refine k_get (v := .ref (wAd w (b0 + 2))) C hP (C9 C (lt_View hb0)) (ob_View hb0 w L _) rfl iX7 1 (by decide) q247 rfl dX7_minutesUntilAbove_1 ?_
  obtain ⟨r1, hr1, hf⟩ := ob hf
  refine kci (kV (As := []) (rest := []) C hl.1 hP hS (c_X4_lastSlowPlace w l C.2.2.2.2.2.2.2.2 (to_View_minutes hb0) (L := L) hr1) (gV q619 q620 q621 q6 q622) hd_X4_lastSlowPlace (C9 C (lt_Minutes (to_View_minutes hb0))) (ob_Minutes (to_View_minutes hb0) w L _) rfl ⟨rfl, rfl⟩ ⟨Nat.le_of_ble_eq_true rfl, Nat.le_of_ble_eq_true rfl⟩ rfl rfl (Nat.le_of_ble_eq_true rfl) dX7_minutesUntilAbove_4 ⟨Nat.zero_le _, Nat.zero_le _⟩) hS (fun H locs hP hS => ?_)
  refine lv_istore_n (lv' := [(2, .int r1), (0, .ref (wAd w b0)), (1, .int a1)]) C.1 C.2.1 dX7_minutesUntilAbove_7 rfl hl (by decide) rfl (fun ls hl => ?_)
  refine lv_iconst (v := 1) C.1 C.2.1 dX7_minutesUntilAbove_8 (by decide) ?_
  refine lv_istore_n (lv' := [(3, .int 1), (2, .int r1), (0, .ref (wAd w b0)), (1, .int a1)]) C.1 C.2.1 dX7_minutesUntilAbove_9 rfl hl (by decide) rfl (fun ls hl => ?_)
  obtain ⟨o10, ho10, hf⟩ := ob hf
  refine loop_at (w_X7_minutesUntilAbove_l10 C hb0 (out := out)) FU _ o10 ho10 ?_ _ _ _ hP hS (lv_sub hl [2, 3, 1, 0] rfl)
  rcases o10 with o10 | o10
  · simp only [Sum.elim_inl] at hf
    intro H locs ls hP hS hl
    refine lv_iconst (v := (-1)) C.1 C.2.1 dX7_minutesUntilAbove_88 (by decide) ?_
    cases hf
    exact kri C hP hS dX7_minutesUntilAbove_89
  · simp only [Sum.elim_inr] at hf
    exact Option.some.inj hf
theorem dX8_isSetting_0 : decode cX8_isSetting 0 = .ok (.iload_n 0, 1) := by decide +kernel
theorem dX8_isSetting_1 : decode cX8_isSetting 1 = .ok (.ifCond .lt 13, 3) := by decide +kernel
theorem dX8_isSetting_4 : decode cX8_isSetting 4 = .ok (.iload_n 0, 1) := by decide +kernel
theorem dX8_isSetting_5 : decode cX8_isSetting 5 = .ok (.bipush 10, 2) := by decide +kernel
theorem dX8_isSetting_7 : decode cX8_isSetting 7 = .ok (.if_icmp .ge 7, 3) := by decide +kernel
theorem dX8_isSetting_10 : decode cX8_isSetting 10 = .ok (.iconst 1, 1) := by decide +kernel
theorem dX8_isSetting_11 : decode cX8_isSetting 11 = .ok (.goto 4, 3) := by decide +kernel
theorem dX8_isSetting_14 : decode cX8_isSetting 14 = .ok (.iconst 0, 1) := by decide +kernel
theorem dX8_isSetting_15 : decode cX8_isSetting 15 = .ok (.ireturn, 1) := by decide +kernel
set_option maxHeartbeats 4000000 in
set_option maxRecDepth 100000 in
theorem c_X8_isSetting (w : WT) (l : Launch) (hw : WOK w) {a0 : Int32} {M : Mem} {L : Lng} {out : Int32} (hf : f_X8_isSetting a0 M = some out) : Met l yX8_isSetting (Cond.code yX8_isSetting cX8_isSetting 1 (some .boolean) :: BG) ({ frames := 0, cells := 0, slots := 0, locals := 0 } : Room) (PRE w [.int a0] M L) (QI w out M L) 0 0 (wA w) := by
  refine kEnt hw (by decide +kernel) rfl (Nat.le_of_ble_eq_true rfl) ?_
  intro p e s m args below meth c C ls hl hP
  have hS : va_S (wA w) s.heap s.heap [] := va_S.rf
  have hl : lv_has ls 1 [(0, .int a0)] := hl
  unfold f_X8_isSetting at hf
  refine lv_iload_n C.1 C.2.1 dX8_isSetting_0 rfl (lv_at hl 0 rfl) ?_
  refine lv_if_lt (tgt := 14) C.1 C.2.1 dX8_isSetting_1 (by decide) (fun c1 => ?_) (fun c1 => ?_)
  · have hf := (if_pos c1).symm.trans hf
    refine lv_iconst (v := 0) C.1 C.2.1 dX8_isSetting_14 (by decide) ?_
    cases hf
    exact krz C hP hS bz0 dX8_isSetting_15
  · have hf := (if_neg c1).symm.trans hf
    refine lv_iload_n C.1 C.2.1 dX8_isSetting_4 rfl (lv_at hl 0 rfl) ?_
    refine lv_bipush (v := 10) C.1 C.2.1 dX8_isSetting_5 (by decide) ?_
    refine lv_icmp_ge (tgt := 14) C.1 C.2.1 dX8_isSetting_7 (by decide) (fun c2 => ?_) (fun c2 => ?_)
    · have hf := (if_pos c2).symm.trans hf
      refine lv_iconst (v := 0) C.1 C.2.1 dX8_isSetting_14 (by decide) ?_
      cases hf
      exact krz C hP hS bz0 dX8_isSetting_15
    · have hf := (if_neg c2).symm.trans hf
      refine lv_iconst (v := 1) C.1 C.2.1 dX8_isSetting_10 (by decide) ?_
      refine lv_goto (tgt := 15) C.1 C.2.1 dX8_isSetting_11 (by decide) ?_
      cases hf
      exact krz C hP hS bz1 dX8_isSetting_15
theorem dX8_fitsSetting_0 : decode cX8_fitsSetting 0 = .ok (.iload_n 0, 1) := by decide +kernel
theorem dX8_fitsSetting_1 : decode cX8_fitsSetting 1 = .ok (.invokestatic 47, 3) := by decide +kernel
theorem dX8_fitsSetting_4 : decode cX8_fitsSetting 4 = .ok (.ifCond .eq 25, 3) := by decide +kernel
theorem dX8_fitsSetting_7 : decode cX8_fitsSetting 7 = .ok (.iload_n 1, 1) := by decide +kernel
theorem dX8_fitsSetting_8 : decode cX8_fitsSetting 8 = .ok (.getstatic 282, 3) := by decide +kernel
theorem dX8_fitsSetting_11 : decode cX8_fitsSetting 11 = .ok (.iload_n 0, 1) := by decide +kernel
theorem dX8_fitsSetting_12 : decode cX8_fitsSetting 12 = .ok (.iaload, 1) := by decide +kernel
theorem dX8_fitsSetting_13 : decode cX8_fitsSetting 13 = .ok (.if_icmp .lt 16, 3) := by decide +kernel
theorem dX8_fitsSetting_16 : decode cX8_fitsSetting 16 = .ok (.iload_n 1, 1) := by decide +kernel
theorem dX8_fitsSetting_17 : decode cX8_fitsSetting 17 = .ok (.getstatic 285, 3) := by decide +kernel
theorem dX8_fitsSetting_20 : decode cX8_fitsSetting 20 = .ok (.iload_n 0, 1) := by decide +kernel
theorem dX8_fitsSetting_21 : decode cX8_fitsSetting 21 = .ok (.iaload, 1) := by decide +kernel
theorem dX8_fitsSetting_22 : decode cX8_fitsSetting 22 = .ok (.if_icmp .gt 7, 3) := by decide +kernel
theorem dX8_fitsSetting_25 : decode cX8_fitsSetting 25 = .ok (.iconst 1, 1) := by decide +kernel
theorem dX8_fitsSetting_26 : decode cX8_fitsSetting 26 = .ok (.goto 4, 3) := by decide +kernel
theorem dX8_fitsSetting_29 : decode cX8_fitsSetting 29 = .ok (.iconst 0, 1) := by decide +kernel
theorem dX8_fitsSetting_30 : decode cX8_fitsSetting 30 = .ok (.ireturn, 1) := by decide +kernel
set_option maxHeartbeats 4000000 in
set_option maxRecDepth 100000 in
theorem c_X8_fitsSetting (w : WT) (l : Launch) (hw : WOK w) {a0 : Int32} {a1 : Int32} {M : Mem} {L : Lng} {out : Int32} (hf : f_X8_fitsSetting a0 a1 M = some out) : Met l yX8_fitsSetting (Cond.code yX8_fitsSetting cX8_fitsSetting 2 (some .boolean) :: BG) ({ frames := 1, cells := 0, slots := 0, locals := 20 } : Room) (PRE w [.int a0, .int a1] M L) (QI w out M L) 0 0 (wA w) := by
  refine kEnt hw (by decide +kernel) rfl (Nat.le_of_ble_eq_true rfl) ?_
  intro p e s m args below meth c C ls hl hP
  have hS : va_S (wA w) s.heap s.heap [] := va_S.rf
  have hl : lv_has ls 2 [(0, .int a0), (1, .int a1)] := hl
  unfold f_X8_fitsSetting at hf
  refine lv_iload_n C.1 C.2.1 dX8_fitsSetting_0 rfl (lv_at hl 0 rfl) ?_
  obtain ⟨r1, hr1, hf⟩ := ob hf
  refine kci (kS (As := [.int a0]) (rest := []) C hl.1 hP hS (c_X8_isSetting w l C.2.2.2.2.2.2.2.2 (L := L) hr1) (gS q471 q472 q1 q473) hd_X8_isSetting ⟨rfl, rfl⟩ ⟨Nat.le_of_ble_eq_true rfl, Nat.le_of_ble_eq_true rfl⟩ rfl rfl (Nat.le_of_ble_eq_true rfl) dX8_fitsSetting_1 ⟨Nat.zero_le _, Nat.zero_le _⟩) hS (fun H locs hP hS => ?_)
  refine lv_if_eq (tgt := 29) C.1 C.2.1 dX8_fitsSetting_4 (by decide) (fun c2 => ?_) (fun c2 => ?_)
  · have hf := (if_pos c2).symm.trans hf
    refine lv_iconst (v := 0) C.1 C.2.1 dX8_fitsSetting_29 (by decide) ?_
    cases hf
    exact krz C hP hS bz0 dX8_fitsSetting_30
  · have hf := (if_neg c2).symm.trans hf
    refine lv_iload_n C.1 C.2.1 dX8_fitsSetting_7 rfl (lv_at hl 1 rfl) ?_
    refine k_gets (k := 0) C hS (by decide) q519 dX8_fitsSetting_8 ?_
    refine lv_iload_n C.1 C.2.1 dX8_fitsSetting_11 rfl (lv_at hl 0 rfl) ?_
    obtain ⟨x3, hx3, hf⟩ := ob hf
    refine k_ti (k := 0) C hS (by decide) hx3 dX8_fitsSetting_12 ?_
    refine lv_icmp_lt (tgt := 29) C.1 C.2.1 dX8_fitsSetting_13 (by decide) (fun c4 => ?_) (fun c4 => ?_)
    · have hf := (if_pos c4).symm.trans hf
      refine lv_iconst (v := 0) C.1 C.2.1 dX8_fitsSetting_29 (by decide) ?_
      cases hf
      exact krz C hP hS bz0 dX8_fitsSetting_30
    · have hf := (if_neg c4).symm.trans hf
      refine lv_iload_n C.1 C.2.1 dX8_fitsSetting_16 rfl (lv_at hl 1 rfl) ?_
      refine k_gets (k := 1) C hS (by decide) q521 dX8_fitsSetting_17 ?_
      refine lv_iload_n C.1 C.2.1 dX8_fitsSetting_20 rfl (lv_at hl 0 rfl) ?_
      obtain ⟨x5, hx5, hf⟩ := ob hf
      refine k_ti (k := 1) C hS (by decide) hx5 dX8_fitsSetting_21 ?_
      refine lv_icmp_gt (tgt := 29) C.1 C.2.1 dX8_fitsSetting_22 (by decide) (fun c6 => ?_) (fun c6 => ?_)
      · have hf := (if_pos c6).symm.trans hf
        refine lv_iconst (v := 0) C.1 C.2.1 dX8_fitsSetting_29 (by decide) ?_
        cases hf
        exact krz C hP hS bz0 dX8_fitsSetting_30
      · have hf := (if_neg c6).symm.trans hf
        refine lv_iconst (v := 1) C.1 C.2.1 dX8_fitsSetting_25 (by decide) ?_
        refine lv_goto (tgt := 30) C.1 C.2.1 dX8_fitsSetting_26 (by decide) ?_
        cases hf
        exact krz C hP hS bz1 dX8_fitsSetting_30
theorem dX8_readAgain_0 : decode cX8_readAgain 0 = .ok (.aload_n 0, 1) := by decide +kernel
theorem dX8_readAgain_1 : decode cX8_readAgain 1 = .ok (.getfield 33, 3) := by decide +kernel
theorem dX8_readAgain_4 : decode cX8_readAgain 4 = .ok (.aload_n 0, 1) := by decide +kernel
theorem dX8_readAgain_5 : decode cX8_readAgain 5 = .ok (.getfield 10, 3) := by decide +kernel
theorem dX8_readAgain_8 : decode cX8_readAgain 8 = .ok (.getfield 71, 3) := by decide +kernel
theorem dX8_readAgain_11 : decode cX8_readAgain 11 = .ok (.invokevirtual 231, 3) := by decide +kernel
theorem dX8_readAgain_14 : decode cX8_readAgain 14 = .ok (.aload_n 0, 1) := by decide +kernel
theorem dX8_readAgain_15 : decode cX8_readAgain 15 = .ok (.getfield 33, 3) := by decide +kernel
theorem dX8_readAgain_18 : decode cX8_readAgain 18 = .ok (.aload_n 0, 1) := by decide +kernel
theorem dX8_readAgain_19 : decode cX8_readAgain 19 = .ok (.getfield 10, 3) := by decide +kernel
theorem dX8_readAgain_22 : decode cX8_readAgain 22 = .ok (.invokevirtual 236, 3) := by decide +kernel
theorem dX8_readAgain_25 : decode cX8_readAgain 25 = .ok (.aload_n 0, 1) := by decide +kernel
theorem dX8_readAgain_26 : decode cX8_readAgain 26 = .ok (.getfield 43, 3) := by decide +kernel
theorem dX8_readAgain_29 : decode cX8_readAgain 29 = .ok (.aload_n 0, 1) := by decide +kernel
theorem dX8_readAgain_30 : decode cX8_readAgain 30 = .ok (.getfield 33, 3) := by decide +kernel
theorem dX8_readAgain_33 : decode cX8_readAgain 33 = .ok (.getfield 214, 3) := by decide +kernel
theorem dX8_readAgain_36 : decode cX8_readAgain 36 = .ok (.invokevirtual 278, 3) := by decide +kernel
theorem dX8_readAgain_39 : decode cX8_readAgain 39 = .ok (.return_, 1) := by decide +kernel
set_option maxHeartbeats 4000000 in
set_option maxRecDepth 100000 in
theorem c_X8_readAgain (w : WT) (l : Launch) (hw : WOK w) {M : Mem} {L : Lng} {out : Mem} (hf : f_X8_readAgain M = some out) : Met l yX8_readAgain (Cond.code yX8_readAgain cX8_readAgain 1 none :: BG) ({ frames := 5, cells := 0, slots := 0, locals := 111 } : Room) (PRE w [.ref (wAd w 0)] M L) (QV w out L) 0 0 (wA w) := by
  refine kEnt hw (by decide +kernel) rfl (Nat.le_of_ble_eq_true rfl) ?_
  intro p e s m args below meth c C ls hl hP
  have hS : va_S (wA w) s.heap s.heap [] := va_S.rf
  have hl : lv_has ls 1 [(0, .ref (wAd w 0))] := hl
  unfold f_X8_readAgain at hf
  refine lv_aload_n C.1 C.2.1 dX8_readAgain_0 rfl (lv_at hl 0 rfl) ?_
  refine k_get (v := .ref (wAd w 54)) C hP (C9 C (lt_NoisePost h0_NoisePost)) (ob_NoisePost h0_NoisePost w L _) rfl iX8 3 (by decide) q276 rfl dX8_readAgain_1 ?_
  refine lv_aload_n C.1 C.2.1 dX8_readAgain_4 rfl (lv_at hl 0 rfl) ?_
  refine k_get (v := .ref (wAd w 1)) C hP (C9 C (lt_NoisePost h0_NoisePost)) (ob_NoisePost h0_NoisePost w L _) rfl iX8 0 (by decide) q273 rfl dX8_readAgain_5 ?_
  refine k_get (v := .ref (wAd w 4)) C hP (C9 C (lt_State to_NoisePost_state)) (ob_State to_NoisePost_state w L _) rfl iX5 2 (by decide) q48 rfl dX8_readAgain_8 ?_
  obtain ⟨r1, hr1, hf⟩ := ob hf
  refine kcv (kV (As := [.ref (wAd w 4)]) (rest := []) C hl.1 hP hS (c_X7_takeSettings w l C.2.2.2.2.2.2.2.2 to_NoisePost_now s_St (L := L) hr1) (gV q524 q525 q526 q5 q527) hd_X7_takeSettings (C9 C (lt_View to_NoisePost_now)) (ob_View to_NoisePost_now w L _) rfl ⟨rfl, rfl⟩ ⟨Nat.le_of_ble_eq_true rfl, Nat.le_of_ble_eq_true rfl⟩ rfl rfl (Nat.le_of_ble_eq_true rfl) dX8_readAgain_11 ⟨Nat.zero_le _, Nat.zero_le _⟩) hS (fun H locs hP hS => ?_)
  refine lv_aload_n C.1 C.2.1 dX8_readAgain_14 rfl (lv_at hl 0 rfl) ?_
  refine k_get (v := .ref (wAd w 54)) C hP (C9 C (lt_NoisePost h0_NoisePost)) (ob_NoisePost h0_NoisePost w L _) rfl iX8 3 (by decide) q276 rfl dX8_readAgain_15 ?_
  refine lv_aload_n C.1 C.2.1 dX8_readAgain_18 rfl (lv_at hl 0 rfl) ?_
  refine k_get (v := .ref (wAd w 1)) C hP (C9 C (lt_NoisePost h0_NoisePost)) (ob_NoisePost h0_NoisePost w L _) rfl iX8 0 (by decide) q273 rfl dX8_readAgain_19 ?_
  obtain ⟨r2, hr2, hf⟩ := ob hf
  refine kcv (kV (As := [.ref (wAd w 1)]) (rest := []) C hl.1 hP hS (c_X7_look w l C.2.2.2.2.2.2.2.2 to_NoisePost_now to_NoisePost_state (L := L) hr2) (gV q531 q532 q533 q5 q534) hd_X7_look (C9 C (lt_View to_NoisePost_now)) (ob_View to_NoisePost_now w L _) rfl ⟨rfl, rfl⟩ ⟨Nat.le_of_ble_eq_true rfl, Nat.le_of_ble_eq_true rfl⟩ rfl rfl (Nat.le_of_ble_eq_true rfl) dX8_readAgain_22 ⟨Nat.zero_le _, Nat.zero_le _⟩) hS (fun H locs hP hS => ?_)
  refine lv_aload_n C.1 C.2.1 dX8_readAgain_25 rfl (lv_at hl 0 rfl) ?_
  refine k_get (v := .ref (wAd w 88)) C hP (C9 C (lt_NoisePost h0_NoisePost)) (ob_NoisePost h0_NoisePost w L _) rfl iX8 5 (by decide) q278 rfl dX8_readAgain_26 ?_
  refine lv_aload_n C.1 C.2.1 dX8_readAgain_29 rfl (lv_at hl 0 rfl) ?_
  refine k_get (v := .ref (wAd w 54)) C hP (C9 C (lt_NoisePost h0_NoisePost)) (ob_NoisePost h0_NoisePost w L _) rfl iX8 3 (by decide) q276 rfl dX8_readAgain_30 ?_
  refine k_get (v := .ref (wAd w 56)) C hP (C9 C (lt_View to_NoisePost_now)) (ob_View to_NoisePost_now w L _) rfl iX7 1 (by decide) q248 rfl dX8_readAgain_33 ?_
  obtain ⟨r3, hr3, hf⟩ := ob hf
  refine kcv (kV (As := [.ref (wAd w 56)]) (rest := []) C hl.1 hP hS (c_X2_tally w l C.2.2.2.2.2.2.2.2 (to_View_minutes to_NoisePost_now) (L := L) hr3) (gV q673 q674 q675 q9 q676) hd_X2_tally (C9 C (lt_LevelCounts to_NoisePost_levelCounts)) (ob_LevelCounts to_NoisePost_levelCounts w L _) rfl ⟨rfl, rfl⟩ ⟨Nat.le_of_ble_eq_true rfl, Nat.le_of_ble_eq_true rfl⟩ rfl rfl (Nat.le_of_ble_eq_true rfl) dX8_readAgain_36 ⟨Nat.zero_le _, Nat.zero_le _⟩) hS (fun H locs hP hS => ?_)
  cases hf
  exact krv C hP hS dX8_readAgain_39
theorem dX8_set_0 : decode cX8_set 0 = .ok (.iload_n 1, 1) := by decide +kernel
theorem dX8_set_1 : decode cX8_set 1 = .ok (.invokestatic 47, 3) := by decide +kernel
theorem dX8_set_4 : decode cX8_set 4 = .ok (.ifCond .ne 13, 3) := by decide +kernel
theorem dX8_set_7 : decode cX8_set 7 = .ok (.new 51, 3) := by decide +kernel
theorem dX8_set_10 : decode cX8_set 10 = .ok (.dup, 1) := by decide +kernel
theorem dX8_set_11 : decode cX8_set 11 = .ok (.ldc 53, 2) := by decide +kernel
theorem dX8_set_13 : decode cX8_set 13 = .ok (.invokespecial 55, 3) := by decide +kernel
theorem dX8_set_16 : decode cX8_set 16 = .ok (.athrow, 1) := by decide +kernel
theorem dX8_set_17 : decode cX8_set 17 = .ok (.iload_n 1, 1) := by decide +kernel
theorem dX8_set_18 : decode cX8_set 18 = .ok (.iload_n 2, 1) := by decide +kernel
theorem dX8_set_19 : decode cX8_set 19 = .ok (.invokestatic 58, 3) := by decide +kernel
theorem dX8_set_22 : decode cX8_set 22 = .ok (.ifCond .ne 13, 3) := by decide +kernel
theorem dX8_set_25 : decode cX8_set 25 = .ok (.new 62, 3) := by decide +kernel
theorem dX8_set_28 : decode cX8_set 28 = .ok (.dup, 1) := by decide +kernel
theorem dX8_set_29 : decode cX8_set 29 = .ok (.ldc 64, 2) := by decide +kernel
theorem dX8_set_31 : decode cX8_set 31 = .ok (.invokespecial 66, 3) := by decide +kernel
theorem dX8_set_34 : decode cX8_set 34 = .ok (.athrow, 1) := by decide +kernel
theorem dX8_set_35 : decode cX8_set 35 = .ok (.aload_n 0, 1) := by decide +kernel
theorem dX8_set_36 : decode cX8_set 36 = .ok (.getfield 19, 3) := by decide +kernel
theorem dX8_set_39 : decode cX8_set 39 = .ok (.aload_n 0, 1) := by decide +kernel
theorem dX8_set_40 : decode cX8_set 40 = .ok (.getfield 10, 3) := by decide +kernel
theorem dX8_set_43 : decode cX8_set 43 = .ok (.invokevirtual 67, 3) := by decide +kernel
theorem dX8_set_46 : decode cX8_set 46 = .ok (.aload_n 0, 1) := by decide +kernel
theorem dX8_set_47 : decode cX8_set 47 = .ok (.getfield 10, 3) := by decide +kernel
theorem dX8_set_50 : decode cX8_set 50 = .ok (.getfield 71, 3) := by decide +kernel
theorem dX8_set_53 : decode cX8_set 53 = .ok (.iload_n 1, 1) := by decide +kernel
theorem dX8_set_54 : decode cX8_set 54 = .ok (.iaload, 1) := by decide +kernel
theorem dX8_set_55 : decode cX8_set 55 = .ok (.istore_n 3, 1) := by decide +kernel
theorem dX8_set_56 : decode cX8_set 56 = .ok (.aload_n 0, 1) := by decide +kernel
theorem dX8_set_57 : decode cX8_set 57 = .ok (.getfield 10, 3) := by decide +kernel
theorem dX8_set_60 : decode cX8_set 60 = .ok (.getfield 71, 3) := by decide +kernel
theorem dX8_set_63 : decode cX8_set 63 = .ok (.iload_n 1, 1) := by decide +kernel
theorem dX8_set_64 : decode cX8_set 64 = .ok (.iload_n 2, 1) := by decide +kernel
theorem dX8_set_65 : decode cX8_set 65 = .ok (.iastore, 1) := by decide +kernel
theorem dX8_set_66 : decode cX8_set 66 = .ok (.aload_n 0, 1) := by decide +kernel
theorem dX8_set_67 : decode cX8_set 67 = .ok (.invokevirtual 75, 3) := by decide +kernel
theorem dX8_set_70 : decode cX8_set 70 = .ok (.iload_n 3, 1) := by decide +kernel
theorem dX8_set_71 : decode cX8_set 71 = .ok (.ireturn, 1) := by decide +kernel
set_option maxHeartbeats 4000000 in
set_option maxRecDepth 100000 in
theorem c_X8_set (w : WT) (l : Launch) (hw : WOK w) {a1 : Int32} {a2 : Int32} {M : Mem} {L : Lng} {out : Int32 × Mem} (hf : f_X8_set a1 a2 M = some out) : Met l yX8_set (Cond.code yX8_set cX8_set 4 (some .int) :: BG) ({ frames := 6, cells := 0, slots := 0, locals := 131 } : Room) (PRE w [.ref (wAd w 0), .int a1, .int a2] M L) (QI w out.1 out.2 L) 0 0 (wA w) := by
  refine kEnt hw (by decide +kernel) rfl (Nat.le_of_ble_eq_true rfl) ?_
  intro p e s m args below meth c C ls hl hP
  have hS : va_S (wA w) s.heap s.heap [] := va_S.rf
  have hl : lv_has ls 4 [(0, .ref (wAd w 0)), (1, .int a1), (2, .int a2)] := hl
  unfold f_X8_set at hf
  refine lv_iload_n C.1 C.2.1 dX8_set_0 rfl (lv_at hl 1 rfl) ?_
  obtain ⟨r1, hr1, hf⟩ := ob hf
  refine kci (kS (As := [.int a1]) (rest := []) C hl.1 hP hS (c_X8_isSetting w l C.2.2.2.2.2.2.2.2 (L := L) hr1) (gS q471 q472 q1 q473) hd_X8_isSetting ⟨rfl, rfl⟩ ⟨Nat.le_of_ble_eq_true rfl, Nat.le_of_ble_eq_true rfl⟩ rfl rfl (Nat.le_of_ble_eq_true rfl) dX8_set_1 ⟨Nat.zero_le _, Nat.zero_le _⟩) hS (fun H locs hP hS => ?_)
  refine lv_if_ne (tgt := 17) C.1 C.2.1 dX8_set_4 (by decide) (fun c2 => ?_) (fun c2 => ?_)
  · have hf := (if_neg c2).symm.trans hf
    refine lv_iload_n C.1 C.2.1 dX8_set_17 rfl (lv_at hl 1 rfl) ?_
    refine lv_iload_n C.1 C.2.1 dX8_set_18 rfl (lv_at hl 2 rfl) ?_
    obtain ⟨r3, hr3, hf⟩ := ob hf
    refine kci (kS (As := [.int a1, .int a2]) (rest := []) C hl.1 hP hS (c_X8_fitsSetting w l C.2.2.2.2.2.2.2.2 (L := L) hr3) (gS q516 q517 q1 q518) hd_X8_fitsSetting ⟨rfl, rfl⟩ ⟨Nat.le_of_ble_eq_true rfl, Nat.le_of_ble_eq_true rfl⟩ rfl rfl (Nat.le_of_ble_eq_true rfl) dX8_set_19 ⟨Nat.zero_le _, Nat.zero_le _⟩) hS (fun H locs hP hS => ?_)
    refine lv_if_ne (tgt := 35) C.1 C.2.1 dX8_set_22 (by decide) (fun c4 => ?_) (fun c4 => ?_)
    · have hf := (if_neg c4).symm.trans hf
      refine lv_aload_n C.1 C.2.1 dX8_set_35 rfl (lv_at hl 0 rfl) ?_
      refine k_get (v := .ref (wAd w 46)) C hP (C9 C (lt_NoisePost h0_NoisePost)) (ob_NoisePost h0_NoisePost w L _) rfl iX8 1 (by decide) q274 rfl dX8_set_36 ?_
      refine lv_aload_n C.1 C.2.1 dX8_set_39 rfl (lv_at hl 0 rfl) ?_
      refine k_get (v := .ref (wAd w 1)) C hP (C9 C (lt_NoisePost h0_NoisePost)) (ob_NoisePost h0_NoisePost w L _) rfl iX8 0 (by decide) q273 rfl dX8_set_40 ?_
      obtain ⟨r5, hr5, hf⟩ := ob hf
      refine kcv (kV (As := [.ref (wAd w 1)]) (rest := []) C hl.1 hP hS (c_X1_keep w l C.2.2.2.2.2.2.2.2 to_NoisePost_state (L := L) hr5) (gV q653 q654 q655 q3 q656) hd_X1_keep (C9 C (lt_History to_NoisePost_history)) (ob_History to_NoisePost_history w L _) rfl ⟨rfl, rfl⟩ ⟨Nat.le_of_ble_eq_true rfl, Nat.le_of_ble_eq_true rfl⟩ rfl rfl (Nat.le_of_ble_eq_true rfl) dX8_set_43 ⟨Nat.zero_le _, Nat.zero_le _⟩) hS (fun H locs hP hS => ?_)
      refine lv_aload_n C.1 C.2.1 dX8_set_46 rfl (lv_at hl 0 rfl) ?_
      refine k_get (v := .ref (wAd w 1)) C hP (C9 C (lt_NoisePost h0_NoisePost)) (ob_NoisePost h0_NoisePost w L _) rfl iX8 0 (by decide) q273 rfl dX8_set_47 ?_
      refine k_get (v := .ref (wAd w 4)) C hP (C9 C (lt_State to_NoisePost_state)) (ob_State to_NoisePost_state w L _) rfl iX5 2 (by decide) q48 rfl dX8_set_50 ?_
      refine lv_iload_n C.1 C.2.1 dX8_set_53 rfl (lv_at hl 1 rfl) ?_
      obtain ⟨x6, hx6, hf⟩ := ob hf
      refine k_iald C hP (C9 C (la_State_settings to_NoisePost_state)) (ar_State_settings to_NoisePost_state w L _) hx6 dX8_set_54 ?_
      refine lv_istore_n (lv' := [(3, .int x6), (0, .ref (wAd w 0)), (1, .int a1), (2, .int a2)]) C.1 C.2.1 dX8_set_55 rfl hl (by decide) rfl (fun ls hl => ?_)
      refine lv_aload_n C.1 C.2.1 dX8_set_56 rfl (lv_at hl 1 rfl) ?_
      refine k_get (v := .ref (wAd w 1)) C hP (C9 C (lt_NoisePost h0_NoisePost)) (ob_NoisePost h0_NoisePost w L _) rfl iX8 0 (by decide) q273 rfl dX8_set_57 ?_
      refine k_get (v := .ref (wAd w 4)) C hP (C9 C (lt_State to_NoisePost_state)) (ob_State to_NoisePost_state w L _) rfl iX5 2 (by decide) q48 rfl dX8_set_60 ?_
      refine lv_iload_n C.1 C.2.1 dX8_set_63 rfl (lv_at hl 2 rfl) ?_
      refine lv_iload_n C.1 C.2.1 dX8_set_64 rfl (lv_at hl 3 rfl) ?_
      obtain ⟨M7, hM7, hf⟩ := ob hf
      refine k_iast C hP hS (C9 C (la_State_settings to_NoisePost_state)) (ar_State_settings to_NoisePost_state w L) hM7 dX8_set_65 (fun H locs hP hS => ?_)
      refine lv_aload_n C.1 C.2.1 dX8_set_66 rfl (lv_at hl 1 rfl) ?_
      obtain ⟨r8, hr8, hf⟩ := ob hf
      refine kcv (kV (As := []) (rest := []) C hl.1 hP hS (c_X8_readAgain w l C.2.2.2.2.2.2.2.2 (L := L) hr8) (gV q669 q671 qp12 q1 q672) hd_X8_readAgain (C9 C (lt_NoisePost h0_NoisePost)) (ob_NoisePost h0_NoisePost w L _) rfl ⟨rfl, rfl⟩ ⟨Nat.le_of_ble_eq_true rfl, Nat.le_of_ble_eq_true rfl⟩ rfl rfl (Nat.le_of_ble_eq_true rfl) dX8_set_67 ⟨Nat.zero_le _, Nat.zero_le _⟩) hS (fun H locs hP hS => ?_)
      refine lv_iload_n C.1 C.2.1 dX8_set_70 rfl (lv_at hl 0 rfl) ?_
      cases hf
      exact kri C hP hS dX8_set_71
    · have hf := (if_pos c4).symm.trans hf
      cases hf
  · have hf := (if_pos c2).symm.trans hf
    cases hf
theorem dX8_isLevel_0 : decode cX8_isLevel 0 = .ok (.iload_n 0, 1) := by decide +kernel
theorem dX8_isLevel_1 : decode cX8_isLevel 1 = .ok (.ifCond .lt 14, 3) := by decide +kernel
theorem dX8_isLevel_4 : decode cX8_isLevel 4 = .ok (.iload_n 0, 1) := by decide +kernel
theorem dX8_isLevel_5 : decode cX8_isLevel 5 = .ok (.sipush 140, 3) := by decide +kernel
theorem dX8_isLevel_8 : decode cX8_isLevel 8 = .ok (.if_icmp .gt 7, 3) := by decide +kernel
theorem dX8_isLevel_11 : decode cX8_isLevel 11 = .ok (.iconst 1, 1) := by decide +kernel
theorem dX8_isLevel_12 : decode cX8_isLevel 12 = .ok (.goto 4, 3) := by decide +kernel
theorem dX8_isLevel_15 : decode cX8_isLevel 15 = .ok (.iconst 0, 1) := by decide +kernel
theorem dX8_isLevel_16 : decode cX8_isLevel 16 = .ok (.ireturn, 1) := by decide +kernel
set_option maxHeartbeats 4000000 in
set_option maxRecDepth 100000 in
theorem c_X8_isLevel (w : WT) (l : Launch) (hw : WOK w) {a0 : Int32} {M : Mem} {L : Lng} {out : Int32} (hf : f_X8_isLevel a0 M = some out) : Met l yX8_isLevel (Cond.code yX8_isLevel cX8_isLevel 1 (some .boolean) :: BG) ({ frames := 0, cells := 0, slots := 0, locals := 0 } : Room) (PRE w [.int a0] M L) (QI w out M L) 0 0 (wA w) := by
  refine kEnt hw (by decide +kernel) rfl (Nat.le_of_ble_eq_true rfl) ?_
  intro p e s m args below meth c C ls hl hP
  have hS : va_S (wA w) s.heap s.heap [] := va_S.rf
  have hl : lv_has ls 1 [(0, .int a0)] := hl
  unfold f_X8_isLevel at hf
  refine lv_iload_n C.1 C.2.1 dX8_isLevel_0 rfl (lv_at hl 0 rfl) ?_
  refine lv_if_lt (tgt := 15) C.1 C.2.1 dX8_isLevel_1 (by decide) (fun c1 => ?_) (fun c1 => ?_)
  · have hf := (if_pos c1).symm.trans hf
    refine lv_iconst (v := 0) C.1 C.2.1 dX8_isLevel_15 (by decide) ?_
    cases hf
    exact krz C hP hS bz0 dX8_isLevel_16
  · have hf := (if_neg c1).symm.trans hf
    refine lv_iload_n C.1 C.2.1 dX8_isLevel_4 rfl (lv_at hl 0 rfl) ?_
    refine lv_sipush (v := 140) C.1 C.2.1 dX8_isLevel_5 (by decide) ?_
    refine lv_icmp_gt (tgt := 15) C.1 C.2.1 dX8_isLevel_8 (by decide) (fun c2 => ?_) (fun c2 => ?_)
    · have hf := (if_pos c2).symm.trans hf
      refine lv_iconst (v := 0) C.1 C.2.1 dX8_isLevel_15 (by decide) ?_
      cases hf
      exact krz C hP hS bz0 dX8_isLevel_16
    · have hf := (if_neg c2).symm.trans hf
      refine lv_iconst (v := 1) C.1 C.2.1 dX8_isLevel_11 (by decide) ?_
      refine lv_goto (tgt := 16) C.1 C.2.1 dX8_isLevel_12 (by decide) ?_
      cases hf
      exact krz C hP hS bz1 dX8_isLevel_16
theorem dX8_isWind_0 : decode cX8_isWind 0 = .ok (.iload_n 0, 1) := by decide +kernel
theorem dX8_isWind_1 : decode cX8_isWind 1 = .ok (.ifCond .lt 13, 3) := by decide +kernel
theorem dX8_isWind_4 : decode cX8_isWind 4 = .ok (.iload_n 0, 1) := by decide +kernel
theorem dX8_isWind_5 : decode cX8_isWind 5 = .ok (.bipush 40, 2) := by decide +kernel
theorem dX8_isWind_7 : decode cX8_isWind 7 = .ok (.if_icmp .gt 7, 3) := by decide +kernel
theorem dX8_isWind_10 : decode cX8_isWind 10 = .ok (.iconst 1, 1) := by decide +kernel
theorem dX8_isWind_11 : decode cX8_isWind 11 = .ok (.goto 4, 3) := by decide +kernel
theorem dX8_isWind_14 : decode cX8_isWind 14 = .ok (.iconst 0, 1) := by decide +kernel
theorem dX8_isWind_15 : decode cX8_isWind 15 = .ok (.ireturn, 1) := by decide +kernel
set_option maxHeartbeats 4000000 in
set_option maxRecDepth 100000 in
theorem c_X8_isWind (w : WT) (l : Launch) (hw : WOK w) {a0 : Int32} {M : Mem} {L : Lng} {out : Int32} (hf : f_X8_isWind a0 M = some out) : Met l yX8_isWind (Cond.code yX8_isWind cX8_isWind 1 (some .boolean) :: BG) ({ frames := 0, cells := 0, slots := 0, locals := 0 } : Room) (PRE w [.int a0] M L) (QI w out M L) 0 0 (wA w) := by
  refine kEnt hw (by decide +kernel) rfl (Nat.le_of_ble_eq_true rfl) ?_
  intro p e s m args below meth c C ls hl hP
  have hS : va_S (wA w) s.heap s.heap [] := va_S.rf
  have hl : lv_has ls 1 [(0, .int a0)] := hl
  unfold f_X8_isWind at hf
  refine lv_iload_n C.1 C.2.1 dX8_isWind_0 rfl (lv_at hl 0 rfl) ?_
  refine lv_if_lt (tgt := 14) C.1 C.2.1 dX8_isWind_1 (by decide) (fun c1 => ?_) (fun c1 => ?_)
  · have hf := (if_pos c1).symm.trans hf
    refine lv_iconst (v := 0) C.1 C.2.1 dX8_isWind_14 (by decide) ?_
    cases hf
    exact krz C hP hS bz0 dX8_isWind_15
  · have hf := (if_neg c1).symm.trans hf
    refine lv_iload_n C.1 C.2.1 dX8_isWind_4 rfl (lv_at hl 0 rfl) ?_
    refine lv_bipush (v := 40) C.1 C.2.1 dX8_isWind_5 (by decide) ?_
    refine lv_icmp_gt (tgt := 14) C.1 C.2.1 dX8_isWind_7 (by decide) (fun c2 => ?_) (fun c2 => ?_)
    · have hf := (if_pos c2).symm.trans hf
      refine lv_iconst (v := 0) C.1 C.2.1 dX8_isWind_14 (by decide) ?_
      cases hf
      exact krz C hP hS bz0 dX8_isWind_15
    · have hf := (if_neg c2).symm.trans hf
      refine lv_iconst (v := 1) C.1 C.2.1 dX8_isWind_10 (by decide) ?_
      refine lv_goto (tgt := 15) C.1 C.2.1 dX8_isWind_11 (by decide) ?_
      cases hf
      exact krz C hP hS bz1 dX8_isWind_15
theorem dX8_tell_0 : decode cX8_tell 0 = .ok (.iload_n 1, 1) := by decide +kernel
theorem dX8_tell_1 : decode cX8_tell 1 = .ok (.invokestatic 78, 3) := by decide +kernel
theorem dX8_tell_4 : decode cX8_tell 4 = .ok (.ifCond .eq 21, 3) := by decide +kernel
theorem dX8_tell_7 : decode cX8_tell 7 = .ok (.iload_n 2, 1) := by decide +kernel
theorem dX8_tell_8 : decode cX8_tell 8 = .ok (.invokestatic 81, 3) := by decide +kernel
theorem dX8_tell_11 : decode cX8_tell 11 = .ok (.ifCond .eq 14, 3) := by decide +kernel
theorem dX8_tell_14 : decode cX8_tell 14 = .ok (.iload_n 3, 1) := by decide +kernel
theorem dX8_tell_15 : decode cX8_tell 15 = .ok (.iconst 1, 1) := by decide +kernel
theorem dX8_tell_16 : decode cX8_tell 16 = .ok (.if_icmp .lt 9, 3) := by decide +kernel
theorem dX8_tell_19 : decode cX8_tell 19 = .ok (.iload_n 3, 1) := by decide +kernel
theorem dX8_tell_20 : decode cX8_tell 20 = .ok (.bipush 60, 2) := by decide +kernel
theorem dX8_tell_22 : decode cX8_tell 22 = .ok (.if_icmp .le 13, 3) := by decide +kernel
theorem dX8_tell_25 : decode cX8_tell 25 = .ok (.new 62, 3) := by decide +kernel
theorem dX8_tell_28 : decode cX8_tell 28 = .ok (.dup, 1) := by decide +kernel
theorem dX8_tell_29 : decode cX8_tell 29 = .ok (.ldc 84, 2) := by decide +kernel
theorem dX8_tell_31 : decode cX8_tell 31 = .ok (.invokespecial 66, 3) := by decide +kernel
theorem dX8_tell_34 : decode cX8_tell 34 = .ok (.athrow, 1) := by decide +kernel
theorem dX8_tell_35 : decode cX8_tell 35 = .ok (.aload_n 0, 1) := by decide +kernel
theorem dX8_tell_36 : decode cX8_tell 36 = .ok (.getfield 10, 3) := by decide +kernel
theorem dX8_tell_39 : decode cX8_tell 39 = .ok (.getfield 86, 3) := by decide +kernel
theorem dX8_tell_42 : decode cX8_tell 42 = .ok (.iload_n 3, 1) := by decide +kernel
theorem dX8_tell_43 : decode cX8_tell 43 = .ok (.iadd, 1) := by decide +kernel
theorem dX8_tell_44 : decode cX8_tell 44 = .ok (.sipush 200, 3) := by decide +kernel
theorem dX8_tell_47 : decode cX8_tell 47 = .ok (.if_icmp .le 13, 3) := by decide +kernel
theorem dX8_tell_50 : decode cX8_tell 50 = .ok (.new 90, 3) := by decide +kernel
theorem dX8_tell_53 : decode cX8_tell 53 = .ok (.dup, 1) := by decide +kernel
theorem dX8_tell_54 : decode cX8_tell 54 = .ok (.ldc 92, 2) := by decide +kernel
theorem dX8_tell_56 : decode cX8_tell 56 = .ok (.invokespecial 94, 3) := by decide +kernel
theorem dX8_tell_59 : decode cX8_tell 59 = .ok (.athrow, 1) := by decide +kernel
theorem dX8_tell_60 : decode cX8_tell 60 = .ok (.aload_n 0, 1) := by decide +kernel
theorem dX8_tell_61 : decode cX8_tell 61 = .ok (.getfield 19, 3) := by decide +kernel
theorem dX8_tell_64 : decode cX8_tell 64 = .ok (.aload_n 0, 1) := by decide +kernel
theorem dX8_tell_65 : decode cX8_tell 65 = .ok (.getfield 10, 3) := by decide +kernel
theorem dX8_tell_68 : decode cX8_tell 68 = .ok (.invokevirtual 67, 3) := by decide +kernel
theorem dX8_tell_71 : decode cX8_tell 71 = .ok (.aload_n 0, 1) := by decide +kernel
theorem dX8_tell_72 : decode cX8_tell 72 = .ok (.getfield 10, 3) := by decide +kernel
theorem dX8_tell_75 : decode cX8_tell 75 = .ok (.iload_n 1, 1) := by decide +kernel
theorem dX8_tell_76 : decode cX8_tell 76 = .ok (.iload_n 2, 1) := by decide +kernel
theorem dX8_tell_77 : decode cX8_tell 77 = .ok (.iload_n 3, 1) := by decide +kernel
theorem dX8_tell_78 : decode cX8_tell 78 = .ok (.invokevirtual 95, 3) := by decide +kernel
theorem dX8_tell_81 : decode cX8_tell 81 = .ok (.aload_n 0, 1) := by decide +kernel
theorem dX8_tell_82 : decode cX8_tell 82 = .ok (.invokevirtual 75, 3) := by decide +kernel
theorem dX8_tell_85 : decode cX8_tell 85 = .ok (.aload_n 0, 1) := by decide +kernel
theorem dX8_tell_86 : decode cX8_tell 86 = .ok (.getfield 10, 3) := by decide +kernel
theorem dX8_tell_89 : decode cX8_tell 89 = .ok (.getfield 86, 3) := by decide +kernel
theorem dX8_tell_92 : decode cX8_tell 92 = .ok (.ireturn, 1) := by decide +kernel
set_option maxHeartbeats 4000000 in
set_option maxRecDepth 100000 in
theorem w_X8_tell_j25 {w : WT} {l : Launch} {p : Program} {e : Env} {s : State} {m : MethodId} {args : Array Value} {below : List Frame} {meth : Method} {c : Code} (C : KC w p s m args meth c cX8_tell 4 RX8 (some .int)) {M : Mem} {L : Lng} {out : Int32 × Mem} (hf : f_X8_tell_j25 M = some out) : AtL w p l e ({ frames := 6, cells := 0, slots := 0, locals := 131 } : Room) s m args below meth c (MQ below (QI w out.1 out.2 L) args s 0 0 (wA w)) 4 25 M L [] [] := by
  intro H locs ls hP hS hl
  unfold f_X8_tell_j25 at hf
  cases hf
set_option maxHeartbeats 4000000 in
set_option maxRecDepth 100000 in
theorem c_X8_tell (w : WT) (l : Launch) (hw : WOK w) {a1 : Int32} {a2 : Int32} {a3 : Int32} {M : Mem} {L : Lng} {out : Int32 × Mem} (hf : f_X8_tell a1 a2 a3 M = some out) : Met l yX8_tell (Cond.code yX8_tell cX8_tell 4 (some .int) :: BG) ({ frames := 6, cells := 0, slots := 0, locals := 131 } : Room) (PRE w [.ref (wAd w 0), .int a1, .int a2, .int a3] M L) (QI w out.1 out.2 L) 0 0 (wA w) := by
  refine kEnt hw (by decide +kernel) rfl (Nat.le_of_ble_eq_true rfl) ?_
  intro p e s m args below meth c C ls hl hP
  have hS : va_S (wA w) s.heap s.heap [] := va_S.rf
  have hl : lv_has ls 4 [(0, .ref (wAd w 0)), (1, .int a1), (2, .int a2), (3, .int a3)] := hl
  unfold f_X8_tell at hf
  refine lv_iload_n C.1 C.2.1 dX8_tell_0 rfl (lv_at hl 1 rfl) ?_
  obtain ⟨r1, hr1, hf⟩ := ob hf
  refine kci (kS (As := [.int a1]) (rest := []) C hl.1 hP hS (c_X8_isLevel w l C.2.2.2.2.2.2.2.2 (L := L) hr1) (gS q485 q486 q1 q487) hd_X8_isLevel ⟨rfl, rfl⟩ ⟨Nat.le_of_ble_eq_true rfl, Nat.le_of_ble_eq_true rfl⟩ rfl rfl (Nat.le_of_ble_eq_true rfl) dX8_tell_1 ⟨Nat.zero_le _, Nat.zero_le _⟩) hS (fun H locs hP hS => ?_)
  refine lv_if_eq (tgt := 25) C.1 C.2.1 dX8_tell_4 (by decide) (fun c2 => ?_) (fun c2 => ?_)
  · have hf := (if_pos c2).symm.trans hf
    exact w_X8_tell_j25 C hf _ _ _ hP hS (lv_sub hl [] rfl)
  · have hf := (if_neg c2).symm.trans hf
    refine lv_iload_n C.1 C.2.1 dX8_tell_7 rfl (lv_at hl 2 rfl) ?_
    obtain ⟨r3, hr3, hf⟩ := ob hf
    refine kci (kS (As := [.int a2]) (rest := []) C hl.1 hP hS (c_X8_isWind w l C.2.2.2.2.2.2.2.2 (L := L) hr3) (gS q633 q634 q1 q635) hd_X8_isWind ⟨rfl, rfl⟩ ⟨Nat.le_of_ble_eq_true rfl, Nat.le_of_ble_eq_true rfl⟩ rfl rfl (Nat.le_of_ble_eq_true rfl) dX8_tell_8 ⟨Nat.zero_le _, Nat.zero_le _⟩) hS (fun H locs hP hS => ?_)
    refine lv_if_eq (tgt := 25) C.1 C.2.1 dX8_tell_11 (by decide) (fun c4 => ?_) (fun c4 => ?_)
    · have hf := (if_pos c4).symm.trans hf
      exact w_X8_tell_j25 C hf _ _ _ hP hS (lv_sub hl [] rfl)
    · have hf := (if_neg c4).symm.trans hf
      refine lv_iload_n C.1 C.2.1 dX8_tell_14 rfl (lv_at hl 3 rfl) ?_
      refine lv_iconst (v := 1) C.1 C.2.1 dX8_tell_15 (by decide) ?_
      refine lv_icmp_lt (tgt := 25) C.1 C.2.1 dX8_tell_16 (by decide) (fun c5 => ?_) (fun c5 => ?_)
      · have hf := (if_pos c5).symm.trans hf
        exact w_X8_tell_j25 C hf _ _ _ hP hS (lv_sub hl [] rfl)
      · have hf := (if_neg c5).symm.trans hf
        refine lv_iload_n C.1 C.2.1 dX8_tell_19 rfl (lv_at hl 3 rfl) ?_
        refine lv_bipush (v := 60) C.1 C.2.1 dX8_tell_20 (by decide) ?_
        refine lv_icmp_le (tgt := 35) C.1 C.2.1 dX8_tell_22 (by decide) (fun c6 => ?_) (fun c6 => ?_)
        · have hf := (if_pos c6).symm.trans hf
          refine lv_aload_n C.1 C.2.1 dX8_tell_35 rfl (lv_at hl 0 rfl) ?_
          refine k_get (v := .ref (wAd w 1)) C hP (C9 C (lt_NoisePost h0_NoisePost)) (ob_NoisePost h0_NoisePost w L _) rfl iX8 0 (by decide) q273 rfl dX8_tell_36 ?_
          refine k_get (v := .int (M 1 4)) C hP (C9 C (lt_State to_NoisePost_state)) (ob_State to_NoisePost_state w L _) rfl iX5 4 (by decide) q54 rfl dX8_tell_39 ?_
          refine lv_iload_n C.1 C.2.1 dX8_tell_42 rfl (lv_at hl 3 rfl) ?_
          refine lv_iadd C.1 C.2.1 dX8_tell_43 ?_
          refine lv_sipush (v := 200) C.1 C.2.1 dX8_tell_44 (by decide) ?_
          refine lv_icmp_le (tgt := 60) C.1 C.2.1 dX8_tell_47 (by decide) (fun c7 => ?_) (fun c7 => ?_)
          · have hf := (if_pos c7).symm.trans hf
            refine lv_aload_n C.1 C.2.1 dX8_tell_60 rfl (lv_at hl 0 rfl) ?_
            refine k_get (v := .ref (wAd w 46)) C hP (C9 C (lt_NoisePost h0_NoisePost)) (ob_NoisePost h0_NoisePost w L _) rfl iX8 1 (by decide) q274 rfl dX8_tell_61 ?_
            refine lv_aload_n C.1 C.2.1 dX8_tell_64 rfl (lv_at hl 0 rfl) ?_
            refine k_get (v := .ref (wAd w 1)) C hP (C9 C (lt_NoisePost h0_NoisePost)) (ob_NoisePost h0_NoisePost w L _) rfl iX8 0 (by decide) q273 rfl dX8_tell_65 ?_
            obtain ⟨r8, hr8, hf⟩ := ob hf
            refine kcv (kV (As := [.ref (wAd w 1)]) (rest := []) C hl.1 hP hS (c_X1_keep w l C.2.2.2.2.2.2.2.2 to_NoisePost_state (L := L) hr8) (gV q653 q654 q655 q3 q656) hd_X1_keep (C9 C (lt_History to_NoisePost_history)) (ob_History to_NoisePost_history w L _) rfl ⟨rfl, rfl⟩ ⟨Nat.le_of_ble_eq_true rfl, Nat.le_of_ble_eq_true rfl⟩ rfl rfl (Nat.le_of_ble_eq_true rfl) dX8_tell_68 ⟨Nat.zero_le _, Nat.zero_le _⟩) hS (fun H locs hP hS => ?_)
            refine lv_aload_n C.1 C.2.1 dX8_tell_71 rfl (lv_at hl 0 rfl) ?_
            refine k_get (v := .ref (wAd w 1)) C hP (C9 C (lt_NoisePost h0_NoisePost)) (ob_NoisePost h0_NoisePost w L _) rfl iX8 0 (by decide) q273 rfl dX8_tell_72 ?_
            refine lv_iload_n C.1 C.2.1 dX8_tell_75 rfl (lv_at hl 1 rfl) ?_
            refine lv_iload_n C.1 C.2.1 dX8_tell_76 rfl (lv_at hl 2 rfl) ?_
            refine lv_iload_n C.1 C.2.1 dX8_tell_77 rfl (lv_at hl 3 rfl) ?_
            obtain ⟨r9, hr9, hf⟩ := ob hf
            refine kcv (kV (As := [.int a1, .int a2, .int a3]) (rest := []) C hl.1 hP hS (c_X5_addMinutes w l C.2.2.2.2.2.2.2.2 to_NoisePost_state (L := L) hr9) (gV q665 q666 q667 q2 q668) hd_X5_addMinutes (C9 C (lt_State to_NoisePost_state)) (ob_State to_NoisePost_state w L _) rfl ⟨rfl, rfl⟩ ⟨Nat.le_of_ble_eq_true rfl, Nat.le_of_ble_eq_true rfl⟩ rfl rfl (Nat.le_of_ble_eq_true rfl) dX8_tell_78 ⟨Nat.zero_le _, Nat.zero_le _⟩) hS (fun H locs hP hS => ?_)
            refine lv_aload_n C.1 C.2.1 dX8_tell_81 rfl (lv_at hl 0 rfl) ?_
            obtain ⟨r10, hr10, hf⟩ := ob hf
            refine kcv (kV (As := []) (rest := []) C hl.1 hP hS (c_X8_readAgain w l C.2.2.2.2.2.2.2.2 (L := L) hr10) (gV q669 q671 qp12 q1 q672) hd_X8_readAgain (C9 C (lt_NoisePost h0_NoisePost)) (ob_NoisePost h0_NoisePost w L _) rfl ⟨rfl, rfl⟩ ⟨Nat.le_of_ble_eq_true rfl, Nat.le_of_ble_eq_true rfl⟩ rfl rfl (Nat.le_of_ble_eq_true rfl) dX8_tell_82 ⟨Nat.zero_le _, Nat.zero_le _⟩) hS (fun H locs hP hS => ?_)
            refine lv_aload_n C.1 C.2.1 dX8_tell_85 rfl (lv_at hl 0 rfl) ?_
            refine k_get (v := .ref (wAd w 1)) C hP (C9 C (lt_NoisePost h0_NoisePost)) (ob_NoisePost h0_NoisePost w L _) rfl iX8 0 (by decide) q273 rfl dX8_tell_86 ?_
            refine k_get (v := .int (r10 1 4)) C hP (C9 C (lt_State to_NoisePost_state)) (ob_State to_NoisePost_state w L _) rfl iX5 4 (by decide) q54 rfl dX8_tell_89 ?_
            cases hf
            exact kri C hP hS dX8_tell_92
          · have hf := (if_neg c7).symm.trans hf
            cases hf
        · have hf := (if_neg c6).symm.trans hf
          exact w_X8_tell_j25 C hf _ _ _ hP hS (lv_sub hl [] rfl)
theorem dX8_correct_0 : decode cX8_correct 0 = .ok (.aload_n 0, 1) := by decide +kernel
theorem dX8_correct_1 : decode cX8_correct 1 = .ok (.getfield 10, 3) := by decide +kernel
theorem dX8_correct_4 : decode cX8_correct 4 = .ok (.iload_n 1, 1) := by decide +kernel
theorem dX8_correct_5 : decode cX8_correct 5 = .ok (.invokevirtual 99, 3) := by decide +kernel
theorem dX8_correct_8 : decode cX8_correct 8 = .ok (.ifCond .ne 13, 3) := by decide +kernel
theorem dX8_correct_11 : decode cX8_correct 11 = .ok (.new 51, 3) := by decide +kernel
theorem dX8_correct_14 : decode cX8_correct 14 = .ok (.dup, 1) := by decide +kernel
theorem dX8_correct_15 : decode cX8_correct 15 = .ok (.ldc 102, 2) := by decide +kernel
theorem dX8_correct_17 : decode cX8_correct 17 = .ok (.invokespecial 55, 3) := by decide +kernel
theorem dX8_correct_20 : decode cX8_correct 20 = .ok (.athrow, 1) := by decide +kernel
theorem dX8_correct_21 : decode cX8_correct 21 = .ok (.iload_n 2, 1) := by decide +kernel
theorem dX8_correct_22 : decode cX8_correct 22 = .ok (.invokestatic 78, 3) := by decide +kernel
theorem dX8_correct_25 : decode cX8_correct 25 = .ok (.ifCond .eq 10, 3) := by decide +kernel
theorem dX8_correct_28 : decode cX8_correct 28 = .ok (.iload_n 3, 1) := by decide +kernel
theorem dX8_correct_29 : decode cX8_correct 29 = .ok (.invokestatic 81, 3) := by decide +kernel
theorem dX8_correct_32 : decode cX8_correct 32 = .ok (.ifCond .ne 13, 3) := by decide +kernel
theorem dX8_correct_35 : decode cX8_correct 35 = .ok (.new 62, 3) := by decide +kernel
theorem dX8_correct_38 : decode cX8_correct 38 = .ok (.dup, 1) := by decide +kernel
theorem dX8_correct_39 : decode cX8_correct 39 = .ok (.ldc 104, 2) := by decide +kernel
theorem dX8_correct_41 : decode cX8_correct 41 = .ok (.invokespecial 66, 3) := by decide +kernel
theorem dX8_correct_44 : decode cX8_correct 44 = .ok (.athrow, 1) := by decide +kernel
theorem dX8_correct_45 : decode cX8_correct 45 = .ok (.aload_n 0, 1) := by decide +kernel
theorem dX8_correct_46 : decode cX8_correct 46 = .ok (.getfield 19, 3) := by decide +kernel
theorem dX8_correct_49 : decode cX8_correct 49 = .ok (.aload_n 0, 1) := by decide +kernel
theorem dX8_correct_50 : decode cX8_correct 50 = .ok (.getfield 10, 3) := by decide +kernel
theorem dX8_correct_53 : decode cX8_correct 53 = .ok (.invokevirtual 67, 3) := by decide +kernel
theorem dX8_correct_56 : decode cX8_correct 56 = .ok (.aload_n 0, 1) := by decide +kernel
theorem dX8_correct_57 : decode cX8_correct 57 = .ok (.getfield 10, 3) := by decide +kernel
theorem dX8_correct_60 : decode cX8_correct 60 = .ok (.getfield 106, 3) := by decide +kernel
theorem dX8_correct_63 : decode cX8_correct 63 = .ok (.iload_n 1, 1) := by decide +kernel
theorem dX8_correct_64 : decode cX8_correct 64 = .ok (.iload_n 2, 1) := by decide +kernel
theorem dX8_correct_65 : decode cX8_correct 65 = .ok (.iastore, 1) := by decide +kernel
theorem dX8_correct_66 : decode cX8_correct 66 = .ok (.aload_n 0, 1) := by decide +kernel
theorem dX8_correct_67 : decode cX8_correct 67 = .ok (.getfield 10, 3) := by decide +kernel
theorem dX8_correct_70 : decode cX8_correct 70 = .ok (.getfield 109, 3) := by decide +kernel
theorem dX8_correct_73 : decode cX8_correct 73 = .ok (.iload_n 1, 1) := by decide +kernel
theorem dX8_correct_74 : decode cX8_correct 74 = .ok (.iload_n 3, 1) := by decide +kernel
theorem dX8_correct_75 : decode cX8_correct 75 = .ok (.iastore, 1) := by decide +kernel
theorem dX8_correct_76 : decode cX8_correct 76 = .ok (.aload_n 0, 1) := by decide +kernel
theorem dX8_correct_77 : decode cX8_correct 77 = .ok (.invokevirtual 75, 3) := by decide +kernel
theorem dX8_correct_80 : decode cX8_correct 80 = .ok (.aload_n 0, 1) := by decide +kernel
theorem dX8_correct_81 : decode cX8_correct 81 = .ok (.getfield 33, 3) := by decide +kernel
theorem dX8_correct_84 : decode cX8_correct 84 = .ok (.getfield 112, 3) := by decide +kernel
theorem dX8_correct_87 : decode cX8_correct 87 = .ok (.getfield 116, 3) := by decide +kernel
theorem dX8_correct_90 : decode cX8_correct 90 = .ok (.ireturn, 1) := by decide +kernel
set_option maxHeartbeats 4000000 in
set_option maxRecDepth 100000 in
theorem w_X8_correct_j35 {w : WT} {l : Launch} {p : Program} {e : Env} {s : State} {m : MethodId} {args : Array Value} {below : List Frame} {meth : Method} {c : Code} (C : KC w p s m args meth c cX8_correct 4 RX8 (some .int)) {M : Mem} {L : Lng} {out : Int32 × Mem} (hf : f_X8_correct_j35 M = some out) : AtL w p l e ({ frames := 6, cells := 0, slots := 0, locals := 131 } : Room) s m args below meth c (MQ below (QI w out.1 out.2 L) args s 0 0 (wA w)) 4 35 M L [] [] := by
  intro H locs ls hP hS hl
  unfold f_X8_correct_j35 at hf
  cases hf
set_option maxHeartbeats 4000000 in
set_option maxRecDepth 100000 in
theorem c_X8_correct (w : WT) (l : Launch) (hw : WOK w) {a1 : Int32} {a2 : Int32} {a3 : Int32} {M : Mem} {L : Lng} {out : Int32 × Mem} (hf : f_X8_correct a1 a2 a3 M = some out) : Met l yX8_correct (Cond.code yX8_correct cX8_correct 4 (some .int) :: BG) ({ frames := 6, cells := 0, slots := 0, locals := 131 } : Room) (PRE w [.ref (wAd w 0), .int a1, .int a2, .int a3] M L) (QI w out.1 out.2 L) 0 0 (wA w) := by
  refine kEnt hw (by decide +kernel) rfl (Nat.le_of_ble_eq_true rfl) ?_
  intro p e s m args below meth c C ls hl hP
  have hS : va_S (wA w) s.heap s.heap [] := va_S.rf
  have hl : lv_has ls 4 [(0, .ref (wAd w 0)), (1, .int a1), (2, .int a2), (3, .int a3)] := hl
  unfold f_X8_correct at hf
  refine lv_aload_n C.1 C.2.1 dX8_correct_0 rfl (lv_at hl 0 rfl) ?_
  refine k_get (v := .ref (wAd w 1)) C hP (C9 C (lt_NoisePost h0_NoisePost)) (ob_NoisePost h0_NoisePost w L _) rfl iX8 0 (by decide) q273 rfl dX8_correct_1 ?_
  refine lv_iload_n C.1 C.2.1 dX8_correct_4 rfl (lv_at hl 1 rfl) ?_
  obtain ⟨r1, hr1, hf⟩ := ob hf
  refine kci (kV (As := [.int a1]) (rest := []) C hl.1 hP hS (c_X5_hasMinute w l C.2.2.2.2.2.2.2.2 to_NoisePost_state (L := L) hr1) (gV q409 q410 q411 q2 q412) hd_X5_hasMinute (C9 C (lt_State to_NoisePost_state)) (ob_State to_NoisePost_state w L _) rfl ⟨rfl, rfl⟩ ⟨Nat.le_of_ble_eq_true rfl, Nat.le_of_ble_eq_true rfl⟩ rfl rfl (Nat.le_of_ble_eq_true rfl) dX8_correct_5 ⟨Nat.zero_le _, Nat.zero_le _⟩) hS (fun H locs hP hS => ?_)
  refine lv_if_ne (tgt := 21) C.1 C.2.1 dX8_correct_8 (by decide) (fun c2 => ?_) (fun c2 => ?_)
  · have hf := (if_neg c2).symm.trans hf
    refine lv_iload_n C.1 C.2.1 dX8_correct_21 rfl (lv_at hl 2 rfl) ?_
    obtain ⟨r3, hr3, hf⟩ := ob hf
    refine kci (kS (As := [.int a2]) (rest := []) C hl.1 hP hS (c_X8_isLevel w l C.2.2.2.2.2.2.2.2 (L := L) hr3) (gS q485 q486 q1 q487) hd_X8_isLevel ⟨rfl, rfl⟩ ⟨Nat.le_of_ble_eq_true rfl, Nat.le_of_ble_eq_true rfl⟩ rfl rfl (Nat.le_of_ble_eq_true rfl) dX8_correct_22 ⟨Nat.zero_le _, Nat.zero_le _⟩) hS (fun H locs hP hS => ?_)
    refine lv_if_eq (tgt := 35) C.1 C.2.1 dX8_correct_25 (by decide) (fun c4 => ?_) (fun c4 => ?_)
    · have hf := (if_pos c4).symm.trans hf
      exact w_X8_correct_j35 C hf _ _ _ hP hS (lv_sub hl [] rfl)
    · have hf := (if_neg c4).symm.trans hf
      refine lv_iload_n C.1 C.2.1 dX8_correct_28 rfl (lv_at hl 3 rfl) ?_
      obtain ⟨r5, hr5, hf⟩ := ob hf
      refine kci (kS (As := [.int a3]) (rest := []) C hl.1 hP hS (c_X8_isWind w l C.2.2.2.2.2.2.2.2 (L := L) hr5) (gS q633 q634 q1 q635) hd_X8_isWind ⟨rfl, rfl⟩ ⟨Nat.le_of_ble_eq_true rfl, Nat.le_of_ble_eq_true rfl⟩ rfl rfl (Nat.le_of_ble_eq_true rfl) dX8_correct_29 ⟨Nat.zero_le _, Nat.zero_le _⟩) hS (fun H locs hP hS => ?_)
      refine lv_if_ne (tgt := 45) C.1 C.2.1 dX8_correct_32 (by decide) (fun c6 => ?_) (fun c6 => ?_)
      · have hf := (if_neg c6).symm.trans hf
        refine lv_aload_n C.1 C.2.1 dX8_correct_45 rfl (lv_at hl 0 rfl) ?_
        refine k_get (v := .ref (wAd w 46)) C hP (C9 C (lt_NoisePost h0_NoisePost)) (ob_NoisePost h0_NoisePost w L _) rfl iX8 1 (by decide) q274 rfl dX8_correct_46 ?_
        refine lv_aload_n C.1 C.2.1 dX8_correct_49 rfl (lv_at hl 0 rfl) ?_
        refine k_get (v := .ref (wAd w 1)) C hP (C9 C (lt_NoisePost h0_NoisePost)) (ob_NoisePost h0_NoisePost w L _) rfl iX8 0 (by decide) q273 rfl dX8_correct_50 ?_
        obtain ⟨r7, hr7, hf⟩ := ob hf
        refine kcv (kV (As := [.ref (wAd w 1)]) (rest := []) C hl.1 hP hS (c_X1_keep w l C.2.2.2.2.2.2.2.2 to_NoisePost_state (L := L) hr7) (gV q653 q654 q655 q3 q656) hd_X1_keep (C9 C (lt_History to_NoisePost_history)) (ob_History to_NoisePost_history w L _) rfl ⟨rfl, rfl⟩ ⟨Nat.le_of_ble_eq_true rfl, Nat.le_of_ble_eq_true rfl⟩ rfl rfl (Nat.le_of_ble_eq_true rfl) dX8_correct_53 ⟨Nat.zero_le _, Nat.zero_le _⟩) hS (fun H locs hP hS => ?_)
        refine lv_aload_n C.1 C.2.1 dX8_correct_56 rfl (lv_at hl 0 rfl) ?_
        refine k_get (v := .ref (wAd w 1)) C hP (C9 C (lt_NoisePost h0_NoisePost)) (ob_NoisePost h0_NoisePost w L _) rfl iX8 0 (by decide) q273 rfl dX8_correct_57 ?_
        refine k_get (v := .ref (wAd w 2)) C hP (C9 C (lt_State to_NoisePost_state)) (ob_State to_NoisePost_state w L _) rfl iX5 0 (by decide) q43 rfl dX8_correct_60 ?_
        refine lv_iload_n C.1 C.2.1 dX8_correct_63 rfl (lv_at hl 1 rfl) ?_
        refine lv_iload_n C.1 C.2.1 dX8_correct_64 rfl (lv_at hl 2 rfl) ?_
        obtain ⟨M8, hM8, hf⟩ := ob hf
        refine k_iast C hP hS (C9 C (la_State_levels to_NoisePost_state)) (ar_State_levels to_NoisePost_state w L) hM8 dX8_correct_65 (fun H locs hP hS => ?_)
        refine lv_aload_n C.1 C.2.1 dX8_correct_66 rfl (lv_at hl 0 rfl) ?_
        refine k_get (v := .ref (wAd w 1)) C hP (C9 C (lt_NoisePost h0_NoisePost)) (ob_NoisePost h0_NoisePost w L _) rfl iX8 0 (by decide) q273 rfl dX8_correct_67 ?_
        refine k_get (v := .ref (wAd w 3)) C hP (C9 C (lt_State to_NoisePost_state)) (ob_State to_NoisePost_state w L _) rfl iX5 1 (by decide) q46 rfl dX8_correct_70 ?_
        refine lv_iload_n C.1 C.2.1 dX8_correct_73 rfl (lv_at hl 1 rfl) ?_
        refine lv_iload_n C.1 C.2.1 dX8_correct_74 rfl (lv_at hl 3 rfl) ?_
        obtain ⟨M9, hM9, hf⟩ := ob hf
        refine k_iast C hP hS (C9 C (la_State_winds to_NoisePost_state)) (ar_State_winds to_NoisePost_state w L) hM9 dX8_correct_75 (fun H locs hP hS => ?_)
        refine lv_aload_n C.1 C.2.1 dX8_correct_76 rfl (lv_at hl 0 rfl) ?_
        obtain ⟨r10, hr10, hf⟩ := ob hf
        refine kcv (kV (As := []) (rest := []) C hl.1 hP hS (c_X8_readAgain w l C.2.2.2.2.2.2.2.2 (L := L) hr10) (gV q669 q671 qp12 q1 q672) hd_X8_readAgain (C9 C (lt_NoisePost h0_NoisePost)) (ob_NoisePost h0_NoisePost w L _) rfl ⟨rfl, rfl⟩ ⟨Nat.le_of_ble_eq_true rfl, Nat.le_of_ble_eq_true rfl⟩ rfl rfl (Nat.le_of_ble_eq_true rfl) dX8_correct_77 ⟨Nat.zero_le _, Nat.zero_le _⟩) hS (fun H locs hP hS => ?_)
        refine lv_aload_n C.1 C.2.1 dX8_correct_80 rfl (lv_at hl 0 rfl) ?_
        refine k_get (v := .ref (wAd w 54)) C hP (C9 C (lt_NoisePost h0_NoisePost)) (ob_NoisePost h0_NoisePost w L _) rfl iX8 3 (by decide) q276 rfl dX8_correct_81 ?_
        refine k_get (v := .ref (wAd w 60)) C hP (C9 C (lt_View to_NoisePost_now)) (ob_View to_NoisePost_now w L _) rfl iX7 2 (by decide) q250 rfl dX8_correct_84 ?_
        refine k_get (v := .int (r10 60 6)) C hP (C9 C (lt_Exceedances (to_View_exceedances to_NoisePost_now))) (ob_Exceedances (to_View_exceedances to_NoisePost_now) w L _) rfl iX0 6 (by decide) q198 rfl dX8_correct_87 ?_
        cases hf
        exact kri C hP hS dX8_correct_90
      · have hf := (if_pos c6).symm.trans hf
        exact w_X8_correct_j35 C hf _ _ _ hP hS (lv_sub hl [] rfl)
  · have hf := (if_pos c2).symm.trans hf
    cases hf
theorem dX8_forget_0 : decode cX8_forget 0 = .ok (.iload_n 1, 1) := by decide +kernel
theorem dX8_forget_1 : decode cX8_forget 1 = .ok (.iconst 1, 1) := by decide +kernel
theorem dX8_forget_2 : decode cX8_forget 2 = .ok (.if_icmp .lt 14, 3) := by decide +kernel
theorem dX8_forget_5 : decode cX8_forget 5 = .ok (.iload_n 1, 1) := by decide +kernel
theorem dX8_forget_6 : decode cX8_forget 6 = .ok (.aload_n 0, 1) := by decide +kernel
theorem dX8_forget_7 : decode cX8_forget 7 = .ok (.getfield 10, 3) := by decide +kernel
theorem dX8_forget_10 : decode cX8_forget 10 = .ok (.getfield 86, 3) := by decide +kernel
theorem dX8_forget_13 : decode cX8_forget 13 = .ok (.if_icmp .le 13, 3) := by decide +kernel
theorem dX8_forget_16 : decode cX8_forget 16 = .ok (.new 62, 3) := by decide +kernel
theorem dX8_forget_19 : decode cX8_forget 19 = .ok (.dup, 1) := by decide +kernel
theorem dX8_forget_20 : decode cX8_forget 20 = .ok (.ldc 121, 2) := by decide +kernel
theorem dX8_forget_22 : decode cX8_forget 22 = .ok (.invokespecial 66, 3) := by decide +kernel
theorem dX8_forget_25 : decode cX8_forget 25 = .ok (.athrow, 1) := by decide +kernel
theorem dX8_forget_26 : decode cX8_forget 26 = .ok (.aload_n 0, 1) := by decide +kernel
theorem dX8_forget_27 : decode cX8_forget 27 = .ok (.getfield 19, 3) := by decide +kernel
theorem dX8_forget_30 : decode cX8_forget 30 = .ok (.aload_n 0, 1) := by decide +kernel
theorem dX8_forget_31 : decode cX8_forget 31 = .ok (.getfield 10, 3) := by decide +kernel
theorem dX8_forget_34 : decode cX8_forget 34 = .ok (.invokevirtual 67, 3) := by decide +kernel
theorem dX8_forget_37 : decode cX8_forget 37 = .ok (.aload_n 0, 1) := by decide +kernel
theorem dX8_forget_38 : decode cX8_forget 38 = .ok (.getfield 10, 3) := by decide +kernel
theorem dX8_forget_41 : decode cX8_forget 41 = .ok (.iload_n 1, 1) := by decide +kernel
theorem dX8_forget_42 : decode cX8_forget 42 = .ok (.invokevirtual 123, 3) := by decide +kernel
theorem dX8_forget_45 : decode cX8_forget 45 = .ok (.aload_n 0, 1) := by decide +kernel
theorem dX8_forget_46 : decode cX8_forget 46 = .ok (.invokevirtual 75, 3) := by decide +kernel
theorem dX8_forget_49 : decode cX8_forget 49 = .ok (.aload_n 0, 1) := by decide +kernel
theorem dX8_forget_50 : decode cX8_forget 50 = .ok (.getfield 10, 3) := by decide +kernel
theorem dX8_forget_53 : decode cX8_forget 53 = .ok (.getfield 86, 3) := by decide +kernel
theorem dX8_forget_56 : decode cX8_forget 56 = .ok (.ireturn, 1) := by decide +kernel
set_option maxHeartbeats 4000000 in
set_option maxRecDepth 100000 in
theorem w_X8_forget_j16 {w : WT} {l : Launch} {p : Program} {e : Env} {s : State} {m : MethodId} {args : Array Value} {below : List Frame} {meth : Method} {c : Code} (C : KC w p s m args meth c cX8_forget 2 RX8 (some .int)) {M : Mem} {L : Lng} {out : Int32 × Mem} (hf : f_X8_forget_j16 M = some out) : AtL w p l e ({ frames := 6, cells := 0, slots := 0, locals := 131 } : Room) s m args below meth c (MQ below (QI w out.1 out.2 L) args s 0 0 (wA w)) 2 16 M L [] [] := by
  intro H locs ls hP hS hl
  unfold f_X8_forget_j16 at hf
  cases hf
set_option maxHeartbeats 4000000 in
set_option maxRecDepth 100000 in
theorem c_X8_forget (w : WT) (l : Launch) (hw : WOK w) {a1 : Int32} {M : Mem} {L : Lng} {out : Int32 × Mem} (hf : f_X8_forget a1 M = some out) : Met l yX8_forget (Cond.code yX8_forget cX8_forget 2 (some .int) :: BG) ({ frames := 6, cells := 0, slots := 0, locals := 131 } : Room) (PRE w [.ref (wAd w 0), .int a1] M L) (QI w out.1 out.2 L) 0 0 (wA w) := by
  refine kEnt hw (by decide +kernel) rfl (Nat.le_of_ble_eq_true rfl) ?_
  intro p e s m args below meth c C ls hl hP
  have hS : va_S (wA w) s.heap s.heap [] := va_S.rf
  have hl : lv_has ls 2 [(0, .ref (wAd w 0)), (1, .int a1)] := hl
  unfold f_X8_forget at hf
  refine lv_iload_n C.1 C.2.1 dX8_forget_0 rfl (lv_at hl 1 rfl) ?_
  refine lv_iconst (v := 1) C.1 C.2.1 dX8_forget_1 (by decide) ?_
  refine lv_icmp_lt (tgt := 16) C.1 C.2.1 dX8_forget_2 (by decide) (fun c1 => ?_) (fun c1 => ?_)
  · have hf := (if_pos c1).symm.trans hf
    exact w_X8_forget_j16 C hf _ _ _ hP hS (lv_sub hl [] rfl)
  · have hf := (if_neg c1).symm.trans hf
    refine lv_iload_n C.1 C.2.1 dX8_forget_5 rfl (lv_at hl 1 rfl) ?_
    refine lv_aload_n C.1 C.2.1 dX8_forget_6 rfl (lv_at hl 0 rfl) ?_
    refine k_get (v := .ref (wAd w 1)) C hP (C9 C (lt_NoisePost h0_NoisePost)) (ob_NoisePost h0_NoisePost w L _) rfl iX8 0 (by decide) q273 rfl dX8_forget_7 ?_
    refine k_get (v := .int (M 1 4)) C hP (C9 C (lt_State to_NoisePost_state)) (ob_State to_NoisePost_state w L _) rfl iX5 4 (by decide) q54 rfl dX8_forget_10 ?_
    refine lv_icmp_le (tgt := 26) C.1 C.2.1 dX8_forget_13 (by decide) (fun c2 => ?_) (fun c2 => ?_)
    · have hf := (if_pos c2).symm.trans hf
      refine lv_aload_n C.1 C.2.1 dX8_forget_26 rfl (lv_at hl 0 rfl) ?_
      refine k_get (v := .ref (wAd w 46)) C hP (C9 C (lt_NoisePost h0_NoisePost)) (ob_NoisePost h0_NoisePost w L _) rfl iX8 1 (by decide) q274 rfl dX8_forget_27 ?_
      refine lv_aload_n C.1 C.2.1 dX8_forget_30 rfl (lv_at hl 0 rfl) ?_
      refine k_get (v := .ref (wAd w 1)) C hP (C9 C (lt_NoisePost h0_NoisePost)) (ob_NoisePost h0_NoisePost w L _) rfl iX8 0 (by decide) q273 rfl dX8_forget_31 ?_
      obtain ⟨r3, hr3, hf⟩ := ob hf
      refine kcv (kV (As := [.ref (wAd w 1)]) (rest := []) C hl.1 hP hS (c_X1_keep w l C.2.2.2.2.2.2.2.2 to_NoisePost_state (L := L) hr3) (gV q653 q654 q655 q3 q656) hd_X1_keep (C9 C (lt_History to_NoisePost_history)) (ob_History to_NoisePost_history w L _) rfl ⟨rfl, rfl⟩ ⟨Nat.le_of_ble_eq_true rfl, Nat.le_of_ble_eq_true rfl⟩ rfl rfl (Nat.le_of_ble_eq_true rfl) dX8_forget_34 ⟨Nat.zero_le _, Nat.zero_le _⟩) hS (fun H locs hP hS => ?_)
      refine lv_aload_n C.1 C.2.1 dX8_forget_37 rfl (lv_at hl 0 rfl) ?_
      refine k_get (v := .ref (wAd w 1)) C hP (C9 C (lt_NoisePost h0_NoisePost)) (ob_NoisePost h0_NoisePost w L _) rfl iX8 0 (by decide) q273 rfl dX8_forget_38 ?_
      refine lv_iload_n C.1 C.2.1 dX8_forget_41 rfl (lv_at hl 1 rfl) ?_
      obtain ⟨r4, hr4, hf⟩ := ob hf
      refine kcv (kV (As := [.int a1]) (rest := []) C hl.1 hP hS (c_X5_dropMinutes w l C.2.2.2.2.2.2.2.2 to_NoisePost_state (L := L) hr4) (gV q693 q694 q695 q2 q696) hd_X5_dropMinutes (C9 C (lt_State to_NoisePost_state)) (ob_State to_NoisePost_state w L _) rfl ⟨rfl, rfl⟩ ⟨Nat.le_of_ble_eq_true rfl, Nat.le_of_ble_eq_true rfl⟩ rfl rfl (Nat.le_of_ble_eq_true rfl) dX8_forget_42 ⟨Nat.zero_le _, Nat.zero_le _⟩) hS (fun H locs hP hS => ?_)
      refine lv_aload_n C.1 C.2.1 dX8_forget_45 rfl (lv_at hl 0 rfl) ?_
      obtain ⟨r5, hr5, hf⟩ := ob hf
      refine kcv (kV (As := []) (rest := []) C hl.1 hP hS (c_X8_readAgain w l C.2.2.2.2.2.2.2.2 (L := L) hr5) (gV q669 q671 qp12 q1 q672) hd_X8_readAgain (C9 C (lt_NoisePost h0_NoisePost)) (ob_NoisePost h0_NoisePost w L _) rfl ⟨rfl, rfl⟩ ⟨Nat.le_of_ble_eq_true rfl, Nat.le_of_ble_eq_true rfl⟩ rfl rfl (Nat.le_of_ble_eq_true rfl) dX8_forget_46 ⟨Nat.zero_le _, Nat.zero_le _⟩) hS (fun H locs hP hS => ?_)
      refine lv_aload_n C.1 C.2.1 dX8_forget_49 rfl (lv_at hl 0 rfl) ?_
      refine k_get (v := .ref (wAd w 1)) C hP (C9 C (lt_NoisePost h0_NoisePost)) (ob_NoisePost h0_NoisePost w L _) rfl iX8 0 (by decide) q273 rfl dX8_forget_50 ?_
      refine k_get (v := .int (r5 1 4)) C hP (C9 C (lt_State to_NoisePost_state)) (ob_State to_NoisePost_state w L _) rfl iX5 4 (by decide) q54 rfl dX8_forget_53 ?_
      cases hf
      exact kri C hP hS dX8_forget_56
    · have hf := (if_neg c2).symm.trans hf
      exact w_X8_forget_j16 C hf _ _ _ hP hS (lv_sub hl [] rfl)
theorem dX8_complain_0 : decode cX8_complain 0 = .ok (.iload_n 1, 1) := by decide +kernel
theorem dX8_complain_1 : decode cX8_complain 1 = .ok (.ifCond .lt 10, 3) := by decide +kernel
theorem dX8_complain_4 : decode cX8_complain 4 = .ok (.iload_n 1, 1) := by decide +kernel
theorem dX8_complain_5 : decode cX8_complain 5 = .ok (.sipush 300, 3) := by decide +kernel
theorem dX8_complain_8 : decode cX8_complain 8 = .ok (.if_icmp .le 13, 3) := by decide +kernel
theorem dX8_complain_11 : decode cX8_complain 11 = .ok (.new 62, 3) := by decide +kernel
theorem dX8_complain_14 : decode cX8_complain 14 = .ok (.dup, 1) := by decide +kernel
theorem dX8_complain_15 : decode cX8_complain 15 = .ok (.ldc 127, 2) := by decide +kernel
theorem dX8_complain_17 : decode cX8_complain 17 = .ok (.invokespecial 66, 3) := by decide +kernel
theorem dX8_complain_20 : decode cX8_complain 20 = .ok (.athrow, 1) := by decide +kernel
theorem dX8_complain_21 : decode cX8_complain 21 = .ok (.aload_n 0, 1) := by decide +kernel
theorem dX8_complain_22 : decode cX8_complain 22 = .ok (.getfield 10, 3) := by decide +kernel
theorem dX8_complain_25 : decode cX8_complain 25 = .ok (.getfield 129, 3) := by decide +kernel
theorem dX8_complain_28 : decode cX8_complain 28 = .ok (.bipush 20, 2) := by decide +kernel
theorem dX8_complain_30 : decode cX8_complain 30 = .ok (.if_icmp .lt 13, 3) := by decide +kernel
theorem dX8_complain_33 : decode cX8_complain 33 = .ok (.new 90, 3) := by decide +kernel
theorem dX8_complain_36 : decode cX8_complain 36 = .ok (.dup, 1) := by decide +kernel
theorem dX8_complain_37 : decode cX8_complain 37 = .ok (.ldc 132, 2) := by decide +kernel
theorem dX8_complain_39 : decode cX8_complain 39 = .ok (.invokespecial 94, 3) := by decide +kernel
theorem dX8_complain_42 : decode cX8_complain 42 = .ok (.athrow, 1) := by decide +kernel
theorem dX8_complain_43 : decode cX8_complain 43 = .ok (.aload_n 0, 1) := by decide +kernel
theorem dX8_complain_44 : decode cX8_complain 44 = .ok (.getfield 19, 3) := by decide +kernel
theorem dX8_complain_47 : decode cX8_complain 47 = .ok (.aload_n 0, 1) := by decide +kernel
theorem dX8_complain_48 : decode cX8_complain 48 = .ok (.getfield 10, 3) := by decide +kernel
theorem dX8_complain_51 : decode cX8_complain 51 = .ok (.invokevirtual 67, 3) := by decide +kernel
theorem dX8_complain_54 : decode cX8_complain 54 = .ok (.aload_n 0, 1) := by decide +kernel
theorem dX8_complain_55 : decode cX8_complain 55 = .ok (.getfield 10, 3) := by decide +kernel
theorem dX8_complain_58 : decode cX8_complain 58 = .ok (.getfield 129, 3) := by decide +kernel
theorem dX8_complain_61 : decode cX8_complain 61 = .ok (.istore_n 2, 1) := by decide +kernel
theorem dX8_complain_62 : decode cX8_complain 62 = .ok (.aload_n 0, 1) := by decide +kernel
theorem dX8_complain_63 : decode cX8_complain 63 = .ok (.getfield 10, 3) := by decide +kernel
theorem dX8_complain_66 : decode cX8_complain 66 = .ok (.iload_n 1, 1) := by decide +kernel
theorem dX8_complain_67 : decode cX8_complain 67 = .ok (.invokevirtual 134, 3) := by decide +kernel
theorem dX8_complain_70 : decode cX8_complain 70 = .ok (.aload_n 0, 1) := by decide +kernel
theorem dX8_complain_71 : decode cX8_complain 71 = .ok (.invokevirtual 75, 3) := by decide +kernel
theorem dX8_complain_74 : decode cX8_complain 74 = .ok (.iload_n 2, 1) := by decide +kernel
theorem dX8_complain_75 : decode cX8_complain 75 = .ok (.ireturn, 1) := by decide +kernel
set_option maxHeartbeats 4000000 in
set_option maxRecDepth 100000 in
theorem w_X8_complain_j11 {w : WT} {l : Launch} {p : Program} {e : Env} {s : State} {m : MethodId} {args : Array Value} {below : List Frame} {meth : Method} {c : Code} (C : KC w p s m args meth c cX8_complain 3 RX8 (some .int)) {M : Mem} {L : Lng} {out : Int32 × Mem} (hf : f_X8_complain_j11 M = some out) : AtL w p l e ({ frames := 6, cells := 0, slots := 0, locals := 131 } : Room) s m args below meth c (MQ below (QI w out.1 out.2 L) args s 0 0 (wA w)) 3 11 M L [] [] := by
  intro H locs ls hP hS hl
  unfold f_X8_complain_j11 at hf
  cases hf
set_option maxHeartbeats 4000000 in
set_option maxRecDepth 100000 in
theorem c_X8_complain (w : WT) (l : Launch) (hw : WOK w) {a1 : Int32} {M : Mem} {L : Lng} {out : Int32 × Mem} (hf : f_X8_complain a1 M = some out) : Met l yX8_complain (Cond.code yX8_complain cX8_complain 3 (some .int) :: BG) ({ frames := 6, cells := 0, slots := 0, locals := 131 } : Room) (PRE w [.ref (wAd w 0), .int a1] M L) (QI w out.1 out.2 L) 0 0 (wA w) := by
  refine kEnt hw (by decide +kernel) rfl (Nat.le_of_ble_eq_true rfl) ?_
  intro p e s m args below meth c C ls hl hP
  have hS : va_S (wA w) s.heap s.heap [] := va_S.rf
  have hl : lv_has ls 3 [(0, .ref (wAd w 0)), (1, .int a1)] := hl
  unfold f_X8_complain at hf
  refine lv_iload_n C.1 C.2.1 dX8_complain_0 rfl (lv_at hl 1 rfl) ?_
  refine lv_if_lt (tgt := 11) C.1 C.2.1 dX8_complain_1 (by decide) (fun c1 => ?_) (fun c1 => ?_)
  · have hf := (if_pos c1).symm.trans hf
    exact w_X8_complain_j11 C hf _ _ _ hP hS (lv_sub hl [] rfl)
  · have hf := (if_neg c1).symm.trans hf
    refine lv_iload_n C.1 C.2.1 dX8_complain_4 rfl (lv_at hl 1 rfl) ?_
    refine lv_sipush (v := 300) C.1 C.2.1 dX8_complain_5 (by decide) ?_
    refine lv_icmp_le (tgt := 21) C.1 C.2.1 dX8_complain_8 (by decide) (fun c2 => ?_) (fun c2 => ?_)
    · have hf := (if_pos c2).symm.trans hf
      refine lv_aload_n C.1 C.2.1 dX8_complain_21 rfl (lv_at hl 0 rfl) ?_
      refine k_get (v := .ref (wAd w 1)) C hP (C9 C (lt_NoisePost h0_NoisePost)) (ob_NoisePost h0_NoisePost w L _) rfl iX8 0 (by decide) q273 rfl dX8_complain_22 ?_
      refine k_get (v := .int (M 1 5)) C hP (C9 C (lt_State to_NoisePost_state)) (ob_State to_NoisePost_state w L _) rfl iX5 5 (by decide) q57 rfl dX8_complain_25 ?_
      refine lv_bipush (v := 20) C.1 C.2.1 dX8_complain_28 (by decide) ?_
      refine lv_icmp_lt (tgt := 43) C.1 C.2.1 dX8_complain_30 (by decide) (fun c3 => ?_) (fun c3 => ?_)
      · have hf := (if_pos c3).symm.trans hf
        refine lv_aload_n C.1 C.2.1 dX8_complain_43 rfl (lv_at hl 0 rfl) ?_
        refine k_get (v := .ref (wAd w 46)) C hP (C9 C (lt_NoisePost h0_NoisePost)) (ob_NoisePost h0_NoisePost w L _) rfl iX8 1 (by decide) q274 rfl dX8_complain_44 ?_
        refine lv_aload_n C.1 C.2.1 dX8_complain_47 rfl (lv_at hl 0 rfl) ?_
        refine k_get (v := .ref (wAd w 1)) C hP (C9 C (lt_NoisePost h0_NoisePost)) (ob_NoisePost h0_NoisePost w L _) rfl iX8 0 (by decide) q273 rfl dX8_complain_48 ?_
        obtain ⟨r4, hr4, hf⟩ := ob hf
        refine kcv (kV (As := [.ref (wAd w 1)]) (rest := []) C hl.1 hP hS (c_X1_keep w l C.2.2.2.2.2.2.2.2 to_NoisePost_state (L := L) hr4) (gV q653 q654 q655 q3 q656) hd_X1_keep (C9 C (lt_History to_NoisePost_history)) (ob_History to_NoisePost_history w L _) rfl ⟨rfl, rfl⟩ ⟨Nat.le_of_ble_eq_true rfl, Nat.le_of_ble_eq_true rfl⟩ rfl rfl (Nat.le_of_ble_eq_true rfl) dX8_complain_51 ⟨Nat.zero_le _, Nat.zero_le _⟩) hS (fun H locs hP hS => ?_)
        refine lv_aload_n C.1 C.2.1 dX8_complain_54 rfl (lv_at hl 0 rfl) ?_
        refine k_get (v := .ref (wAd w 1)) C hP (C9 C (lt_NoisePost h0_NoisePost)) (ob_NoisePost h0_NoisePost w L _) rfl iX8 0 (by decide) q273 rfl dX8_complain_55 ?_
        refine k_get (v := .int (r4 1 5)) C hP (C9 C (lt_State to_NoisePost_state)) (ob_State to_NoisePost_state w L _) rfl iX5 5 (by decide) q57 rfl dX8_complain_58 ?_
        refine lv_istore_n (lv' := [(2, .int (r4 1 5)), (0, .ref (wAd w 0)), (1, .int a1)]) C.1 C.2.1 dX8_complain_61 rfl hl (by decide) rfl (fun ls hl => ?_)
        refine lv_aload_n C.1 C.2.1 dX8_complain_62 rfl (lv_at hl 1 rfl) ?_
        refine k_get (v := .ref (wAd w 1)) C hP (C9 C (lt_NoisePost h0_NoisePost)) (ob_NoisePost h0_NoisePost w L _) rfl iX8 0 (by decide) q273 rfl dX8_complain_63 ?_
        refine lv_iload_n C.1 C.2.1 dX8_complain_66 rfl (lv_at hl 2 rfl) ?_
        obtain ⟨r5, hr5, hf⟩ := ob hf
        refine kcv (kV (As := [.int a1]) (rest := []) C hl.1 hP hS (c_X5_addComplaint w l C.2.2.2.2.2.2.2.2 to_NoisePost_state (L := L) hr5) (gV q704 q705 q706 q2 q707) hd_X5_addComplaint (C9 C (lt_State to_NoisePost_state)) (ob_State to_NoisePost_state w L _) rfl ⟨rfl, rfl⟩ ⟨Nat.le_of_ble_eq_true rfl, Nat.le_of_ble_eq_true rfl⟩ rfl rfl (Nat.le_of_ble_eq_true rfl) dX8_complain_67 ⟨Nat.zero_le _, Nat.zero_le _⟩) hS (fun H locs hP hS => ?_)
        refine lv_aload_n C.1 C.2.1 dX8_complain_70 rfl (lv_at hl 1 rfl) ?_
        obtain ⟨r6, hr6, hf⟩ := ob hf
        refine kcv (kV (As := []) (rest := []) C hl.1 hP hS (c_X8_readAgain w l C.2.2.2.2.2.2.2.2 (L := L) hr6) (gV q669 q671 qp12 q1 q672) hd_X8_readAgain (C9 C (lt_NoisePost h0_NoisePost)) (ob_NoisePost h0_NoisePost w L _) rfl ⟨rfl, rfl⟩ ⟨Nat.le_of_ble_eq_true rfl, Nat.le_of_ble_eq_true rfl⟩ rfl rfl (Nat.le_of_ble_eq_true rfl) dX8_complain_71 ⟨Nat.zero_le _, Nat.zero_le _⟩) hS (fun H locs hP hS => ?_)
        refine lv_iload_n C.1 C.2.1 dX8_complain_74 rfl (lv_at hl 0 rfl) ?_
        cases hf
        exact kri C hP hS dX8_complain_75
      · have hf := (if_neg c3).symm.trans hf
        cases hf
    · have hf := (if_neg c2).symm.trans hf
      exact w_X8_complain_j11 C hf _ _ _ hP hS (lv_sub hl [] rfl)
theorem dX8_withdraw_0 : decode cX8_withdraw 0 = .ok (.aload_n 0, 1) := by decide +kernel
theorem dX8_withdraw_1 : decode cX8_withdraw 1 = .ok (.getfield 10, 3) := by decide +kernel
theorem dX8_withdraw_4 : decode cX8_withdraw 4 = .ok (.iload_n 1, 1) := by decide +kernel
theorem dX8_withdraw_5 : decode cX8_withdraw 5 = .ok (.invokevirtual 137, 3) := by decide +kernel
theorem dX8_withdraw_8 : decode cX8_withdraw 8 = .ok (.ifCond .ne 13, 3) := by decide +kernel
theorem dX8_withdraw_11 : decode cX8_withdraw 11 = .ok (.new 51, 3) := by decide +kernel
theorem dX8_withdraw_14 : decode cX8_withdraw 14 = .ok (.dup, 1) := by decide +kernel
theorem dX8_withdraw_15 : decode cX8_withdraw 15 = .ok (.ldc 140, 2) := by decide +kernel
theorem dX8_withdraw_17 : decode cX8_withdraw 17 = .ok (.invokespecial 55, 3) := by decide +kernel
theorem dX8_withdraw_20 : decode cX8_withdraw 20 = .ok (.athrow, 1) := by decide +kernel
theorem dX8_withdraw_21 : decode cX8_withdraw 21 = .ok (.aload_n 0, 1) := by decide +kernel
theorem dX8_withdraw_22 : decode cX8_withdraw 22 = .ok (.getfield 19, 3) := by decide +kernel
theorem dX8_withdraw_25 : decode cX8_withdraw 25 = .ok (.aload_n 0, 1) := by decide +kernel
theorem dX8_withdraw_26 : decode cX8_withdraw 26 = .ok (.getfield 10, 3) := by decide +kernel
theorem dX8_withdraw_29 : decode cX8_withdraw 29 = .ok (.invokevirtual 67, 3) := by decide +kernel
theorem dX8_withdraw_32 : decode cX8_withdraw 32 = .ok (.aload_n 0, 1) := by decide +kernel
theorem dX8_withdraw_33 : decode cX8_withdraw 33 = .ok (.getfield 33, 3) := by decide +kernel
theorem dX8_withdraw_36 : decode cX8_withdraw 36 = .ok (.getfield 142, 3) := by decide +kernel
theorem dX8_withdraw_39 : decode cX8_withdraw 39 = .ok (.getfield 146, 3) := by decide +kernel
theorem dX8_withdraw_42 : decode cX8_withdraw 42 = .ok (.iload_n 1, 1) := by decide +kernel
theorem dX8_withdraw_43 : decode cX8_withdraw 43 = .ok (.iaload, 1) := by decide +kernel
theorem dX8_withdraw_44 : decode cX8_withdraw 44 = .ok (.istore_n 2, 1) := by decide +kernel
theorem dX8_withdraw_45 : decode cX8_withdraw 45 = .ok (.aload_n 0, 1) := by decide +kernel
theorem dX8_withdraw_46 : decode cX8_withdraw 46 = .ok (.getfield 10, 3) := by decide +kernel
theorem dX8_withdraw_49 : decode cX8_withdraw 49 = .ok (.iload_n 1, 1) := by decide +kernel
theorem dX8_withdraw_50 : decode cX8_withdraw 50 = .ok (.invokevirtual 151, 3) := by decide +kernel
theorem dX8_withdraw_53 : decode cX8_withdraw 53 = .ok (.aload_n 0, 1) := by decide +kernel
theorem dX8_withdraw_54 : decode cX8_withdraw 54 = .ok (.invokevirtual 75, 3) := by decide +kernel
theorem dX8_withdraw_57 : decode cX8_withdraw 57 = .ok (.iload_n 2, 1) := by decide +kernel
theorem dX8_withdraw_58 : decode cX8_withdraw 58 = .ok (.ireturn, 1) := by decide +kernel
set_option maxHeartbeats 4000000 in
set_option maxRecDepth 100000 in
theorem c_X8_withdraw (w : WT) (l : Launch) (hw : WOK w) {a1 : Int32} {M : Mem} {L : Lng} {out : Int32 × Mem} (hf : f_X8_withdraw a1 M = some out) : Met l yX8_withdraw (Cond.code yX8_withdraw cX8_withdraw 3 (some .int) :: BG) ({ frames := 6, cells := 0, slots := 0, locals := 131 } : Room) (PRE w [.ref (wAd w 0), .int a1] M L) (QI w out.1 out.2 L) 0 0 (wA w) := by
  refine kEnt hw (by decide +kernel) rfl (Nat.le_of_ble_eq_true rfl) ?_
  intro p e s m args below meth c C ls hl hP
  have hS : va_S (wA w) s.heap s.heap [] := va_S.rf
  have hl : lv_has ls 3 [(0, .ref (wAd w 0)), (1, .int a1)] := hl
  unfold f_X8_withdraw at hf
  refine lv_aload_n C.1 C.2.1 dX8_withdraw_0 rfl (lv_at hl 0 rfl) ?_
  refine k_get (v := .ref (wAd w 1)) C hP (C9 C (lt_NoisePost h0_NoisePost)) (ob_NoisePost h0_NoisePost w L _) rfl iX8 0 (by decide) q273 rfl dX8_withdraw_1 ?_
  refine lv_iload_n C.1 C.2.1 dX8_withdraw_4 rfl (lv_at hl 1 rfl) ?_
  obtain ⟨r1, hr1, hf⟩ := ob hf
  refine kci (kV (As := [.int a1]) (rest := []) C hl.1 hP hS (c_X5_hasComplaint w l C.2.2.2.2.2.2.2.2 to_NoisePost_state (L := L) hr1) (gV q458 q459 q460 q2 q461) hd_X5_hasComplaint (C9 C (lt_State to_NoisePost_state)) (ob_State to_NoisePost_state w L _) rfl ⟨rfl, rfl⟩ ⟨Nat.le_of_ble_eq_true rfl, Nat.le_of_ble_eq_true rfl⟩ rfl rfl (Nat.le_of_ble_eq_true rfl) dX8_withdraw_5 ⟨Nat.zero_le _, Nat.zero_le _⟩) hS (fun H locs hP hS => ?_)
  refine lv_if_ne (tgt := 21) C.1 C.2.1 dX8_withdraw_8 (by decide) (fun c2 => ?_) (fun c2 => ?_)
  · have hf := (if_neg c2).symm.trans hf
    refine lv_aload_n C.1 C.2.1 dX8_withdraw_21 rfl (lv_at hl 0 rfl) ?_
    refine k_get (v := .ref (wAd w 46)) C hP (C9 C (lt_NoisePost h0_NoisePost)) (ob_NoisePost h0_NoisePost w L _) rfl iX8 1 (by decide) q274 rfl dX8_withdraw_22 ?_
    refine lv_aload_n C.1 C.2.1 dX8_withdraw_25 rfl (lv_at hl 0 rfl) ?_
    refine k_get (v := .ref (wAd w 1)) C hP (C9 C (lt_NoisePost h0_NoisePost)) (ob_NoisePost h0_NoisePost w L _) rfl iX8 0 (by decide) q273 rfl dX8_withdraw_26 ?_
    obtain ⟨r3, hr3, hf⟩ := ob hf
    refine kcv (kV (As := [.ref (wAd w 1)]) (rest := []) C hl.1 hP hS (c_X1_keep w l C.2.2.2.2.2.2.2.2 to_NoisePost_state (L := L) hr3) (gV q653 q654 q655 q3 q656) hd_X1_keep (C9 C (lt_History to_NoisePost_history)) (ob_History to_NoisePost_history w L _) rfl ⟨rfl, rfl⟩ ⟨Nat.le_of_ble_eq_true rfl, Nat.le_of_ble_eq_true rfl⟩ rfl rfl (Nat.le_of_ble_eq_true rfl) dX8_withdraw_29 ⟨Nat.zero_le _, Nat.zero_le _⟩) hS (fun H locs hP hS => ?_)
    refine lv_aload_n C.1 C.2.1 dX8_withdraw_32 rfl (lv_at hl 0 rfl) ?_
    refine k_get (v := .ref (wAd w 54)) C hP (C9 C (lt_NoisePost h0_NoisePost)) (ob_NoisePost h0_NoisePost w L _) rfl iX8 3 (by decide) q276 rfl dX8_withdraw_33 ?_
    refine k_get (v := .ref (wAd w 67)) C hP (C9 C (lt_View to_NoisePost_now)) (ob_View to_NoisePost_now w L _) rfl iX7 3 (by decide) q252 rfl dX8_withdraw_36 ?_
    refine k_get (v := .ref (wAd w 68)) C hP (C9 C (lt_Matches (to_View_matches to_NoisePost_now))) (ob_Matches (to_View_matches to_NoisePost_now) w L _) rfl iX3 0 (by decide) q226 rfl dX8_withdraw_39 ?_
    refine lv_iload_n C.1 C.2.1 dX8_withdraw_42 rfl (lv_at hl 1 rfl) ?_
    obtain ⟨x4, hx4, hf⟩ := ob hf
    refine k_iald C hP (C9 C (la_Matches_exceedanceOf (to_View_matches to_NoisePost_now))) (ar_Matches_exceedanceOf (to_View_matches to_NoisePost_now) w L _) hx4 dX8_withdraw_43 ?_
    refine lv_istore_n (lv' := [(2, .int x4), (0, .ref (wAd w 0)), (1, .int a1)]) C.1 C.2.1 dX8_withdraw_44 rfl hl (by decide) rfl (fun ls hl => ?_)
    refine lv_aload_n C.1 C.2.1 dX8_withdraw_45 rfl (lv_at hl 1 rfl) ?_
    refine k_get (v := .ref (wAd w 1)) C hP (C9 C (lt_NoisePost h0_NoisePost)) (ob_NoisePost h0_NoisePost w L _) rfl iX8 0 (by decide) q273 rfl dX8_withdraw_46 ?_
    refine lv_iload_n C.1 C.2.1 dX8_withdraw_49 rfl (lv_at hl 2 rfl) ?_
    obtain ⟨r5, hr5, hf⟩ := ob hf
    refine kcv (kV (As := [.int a1]) (rest := []) C hl.1 hP hS (c_X5_dropComplaint w l C.2.2.2.2.2.2.2.2 to_NoisePost_state (L := L) hr5) (gV q712 q713 q714 q2 q715) hd_X5_dropComplaint (C9 C (lt_State to_NoisePost_state)) (ob_State to_NoisePost_state w L _) rfl ⟨rfl, rfl⟩ ⟨Nat.le_of_ble_eq_true rfl, Nat.le_of_ble_eq_true rfl⟩ rfl rfl (Nat.le_of_ble_eq_true rfl) dX8_withdraw_50 ⟨Nat.zero_le _, Nat.zero_le _⟩) hS (fun H locs hP hS => ?_)
    refine lv_aload_n C.1 C.2.1 dX8_withdraw_53 rfl (lv_at hl 1 rfl) ?_
    obtain ⟨r6, hr6, hf⟩ := ob hf
    refine kcv (kV (As := []) (rest := []) C hl.1 hP hS (c_X8_readAgain w l C.2.2.2.2.2.2.2.2 (L := L) hr6) (gV q669 q671 qp12 q1 q672) hd_X8_readAgain (C9 C (lt_NoisePost h0_NoisePost)) (ob_NoisePost h0_NoisePost w L _) rfl ⟨rfl, rfl⟩ ⟨Nat.le_of_ble_eq_true rfl, Nat.le_of_ble_eq_true rfl⟩ rfl rfl (Nat.le_of_ble_eq_true rfl) dX8_withdraw_54 ⟨Nat.zero_le _, Nat.zero_le _⟩) hS (fun H locs hP hS => ?_)
    refine lv_iload_n C.1 C.2.1 dX8_withdraw_57 rfl (lv_at hl 0 rfl) ?_
    cases hf
    exact kri C hP hS dX8_withdraw_58
  · have hf := (if_pos c2).symm.trans hf
    cases hf
theorem dX8_minuteProperty_0 : decode cX8_minuteProperty 0 = .ok (.iload_n 2, 1) := by decide +kernel
theorem dX8_minuteProperty_1 : decode cX8_minuteProperty 1 = .ok (.tableswitch 134 0 6 #[43, 53, 63, 76, 89, 101, 121], 43) := by decide +kernel
theorem dX8_minuteProperty_44 : decode cX8_minuteProperty 44 = .ok (.aload_n 0, 1) := by decide +kernel
theorem dX8_minuteProperty_45 : decode cX8_minuteProperty 45 = .ok (.getfield 10, 3) := by decide +kernel
theorem dX8_minuteProperty_48 : decode cX8_minuteProperty 48 = .ok (.getfield 106, 3) := by decide +kernel
theorem dX8_minuteProperty_51 : decode cX8_minuteProperty 51 = .ok (.iload_n 1, 1) := by decide +kernel
theorem dX8_minuteProperty_52 : decode cX8_minuteProperty 52 = .ok (.iaload, 1) := by decide +kernel
theorem dX8_minuteProperty_53 : decode cX8_minuteProperty 53 = .ok (.ireturn, 1) := by decide +kernel
theorem dX8_minuteProperty_54 : decode cX8_minuteProperty 54 = .ok (.aload_n 0, 1) := by decide +kernel
theorem dX8_minuteProperty_55 : decode cX8_minuteProperty 55 = .ok (.getfield 10, 3) := by decide +kernel
theorem dX8_minuteProperty_58 : decode cX8_minuteProperty 58 = .ok (.getfield 109, 3) := by decide +kernel
theorem dX8_minuteProperty_61 : decode cX8_minuteProperty 61 = .ok (.iload_n 1, 1) := by decide +kernel
theorem dX8_minuteProperty_62 : decode cX8_minuteProperty 62 = .ok (.iaload, 1) := by decide +kernel
theorem dX8_minuteProperty_63 : decode cX8_minuteProperty 63 = .ok (.ireturn, 1) := by decide +kernel
theorem dX8_minuteProperty_64 : decode cX8_minuteProperty 64 = .ok (.aload_n 0, 1) := by decide +kernel
theorem dX8_minuteProperty_65 : decode cX8_minuteProperty 65 = .ok (.getfield 33, 3) := by decide +kernel
theorem dX8_minuteProperty_68 : decode cX8_minuteProperty 68 = .ok (.getfield 214, 3) := by decide +kernel
theorem dX8_minuteProperty_71 : decode cX8_minuteProperty 71 = .ok (.getfield 288, 3) := by decide +kernel
theorem dX8_minuteProperty_74 : decode cX8_minuteProperty 74 = .ok (.iload_n 1, 1) := by decide +kernel
theorem dX8_minuteProperty_75 : decode cX8_minuteProperty 75 = .ok (.iaload, 1) := by decide +kernel
theorem dX8_minuteProperty_76 : decode cX8_minuteProperty 76 = .ok (.ireturn, 1) := by decide +kernel
theorem dX8_minuteProperty_77 : decode cX8_minuteProperty 77 = .ok (.aload_n 0, 1) := by decide +kernel
theorem dX8_minuteProperty_78 : decode cX8_minuteProperty 78 = .ok (.getfield 33, 3) := by decide +kernel
theorem dX8_minuteProperty_81 : decode cX8_minuteProperty 81 = .ok (.getfield 214, 3) := by decide +kernel
theorem dX8_minuteProperty_84 : decode cX8_minuteProperty 84 = .ok (.getfield 291, 3) := by decide +kernel
theorem dX8_minuteProperty_87 : decode cX8_minuteProperty 87 = .ok (.iload_n 1, 1) := by decide +kernel
theorem dX8_minuteProperty_88 : decode cX8_minuteProperty 88 = .ok (.iaload, 1) := by decide +kernel
theorem dX8_minuteProperty_89 : decode cX8_minuteProperty 89 = .ok (.ireturn, 1) := by decide +kernel
theorem dX8_minuteProperty_90 : decode cX8_minuteProperty 90 = .ok (.iload_n 1, 1) := by decide +kernel
theorem dX8_minuteProperty_91 : decode cX8_minuteProperty 91 = .ok (.aload_n 0, 1) := by decide +kernel
theorem dX8_minuteProperty_92 : decode cX8_minuteProperty 92 = .ok (.getfield 10, 3) := by decide +kernel
theorem dX8_minuteProperty_95 : decode cX8_minuteProperty 95 = .ok (.getfield 71, 3) := by decide +kernel
theorem dX8_minuteProperty_98 : decode cX8_minuteProperty 98 = .ok (.invokestatic 294, 3) := by decide +kernel
theorem dX8_minuteProperty_101 : decode cX8_minuteProperty 101 = .ok (.ireturn, 1) := by decide +kernel
theorem dX8_minuteProperty_102 : decode cX8_minuteProperty 102 = .ok (.iload_n 1, 1) := by decide +kernel
theorem dX8_minuteProperty_103 : decode cX8_minuteProperty 103 = .ok (.aload_n 0, 1) := by decide +kernel
theorem dX8_minuteProperty_104 : decode cX8_minuteProperty 104 = .ok (.getfield 10, 3) := by decide +kernel
theorem dX8_minuteProperty_107 : decode cX8_minuteProperty 107 = .ok (.getfield 71, 3) := by decide +kernel
theorem dX8_minuteProperty_110 : decode cX8_minuteProperty 110 = .ok (.invokestatic 298, 3) := by decide +kernel
theorem dX8_minuteProperty_113 : decode cX8_minuteProperty 113 = .ok (.ifCond .eq 7, 3) := by decide +kernel
theorem dX8_minuteProperty_116 : decode cX8_minuteProperty 116 = .ok (.iconst 1, 1) := by decide +kernel
theorem dX8_minuteProperty_117 : decode cX8_minuteProperty 117 = .ok (.goto 4, 3) := by decide +kernel
theorem dX8_minuteProperty_120 : decode cX8_minuteProperty 120 = .ok (.iconst 0, 1) := by decide +kernel
theorem dX8_minuteProperty_121 : decode cX8_minuteProperty 121 = .ok (.ireturn, 1) := by decide +kernel
theorem dX8_minuteProperty_122 : decode cX8_minuteProperty 122 = .ok (.aload_n 0, 1) := by decide +kernel
theorem dX8_minuteProperty_123 : decode cX8_minuteProperty 123 = .ok (.getfield 33, 3) := by decide +kernel
theorem dX8_minuteProperty_126 : decode cX8_minuteProperty 126 = .ok (.getfield 214, 3) := by decide +kernel
theorem dX8_minuteProperty_129 : decode cX8_minuteProperty 129 = .ok (.getfield 302, 3) := by decide +kernel
theorem dX8_minuteProperty_132 : decode cX8_minuteProperty 132 = .ok (.iload_n 1, 1) := by decide +kernel
theorem dX8_minuteProperty_133 : decode cX8_minuteProperty 133 = .ok (.iaload, 1) := by decide +kernel
theorem dX8_minuteProperty_134 : decode cX8_minuteProperty 134 = .ok (.ireturn, 1) := by decide +kernel
theorem dX8_minuteProperty_135 : decode cX8_minuteProperty 135 = .ok (.aload_n 0, 1) := by decide +kernel
theorem dX8_minuteProperty_136 : decode cX8_minuteProperty 136 = .ok (.getfield 33, 3) := by decide +kernel
theorem dX8_minuteProperty_139 : decode cX8_minuteProperty 139 = .ok (.getfield 112, 3) := by decide +kernel
theorem dX8_minuteProperty_142 : decode cX8_minuteProperty 142 = .ok (.getfield 305, 3) := by decide +kernel
theorem dX8_minuteProperty_145 : decode cX8_minuteProperty 145 = .ok (.iload_n 1, 1) := by decide +kernel
theorem dX8_minuteProperty_146 : decode cX8_minuteProperty 146 = .ok (.iaload, 1) := by decide +kernel
theorem dX8_minuteProperty_147 : decode cX8_minuteProperty 147 = .ok (.ireturn, 1) := by decide +kernel
set_option maxHeartbeats 4000000 in
set_option maxRecDepth 100000 in
theorem c_X8_minuteProperty (w : WT) (l : Launch) (hw : WOK w) {a1 : Int32} {a2 : Int32} {M : Mem} {L : Lng} {out : Int32} (hf : f_X8_minuteProperty a1 a2 M = some out) : Met l yX8_minuteProperty (Cond.code yX8_minuteProperty cX8_minuteProperty 3 (some .int) :: BG) ({ frames := 3, cells := 0, slots := 0, locals := 64 } : Room) (PRE w [.ref (wAd w 0), .int a1, .int a2] M L) (QI w out M L) 0 0 (wA w) := by
  refine kEnt hw (by decide +kernel) rfl (Nat.le_of_ble_eq_true rfl) ?_
  intro p e s m args below meth c C ls hl hP
  have hS : va_S (wA w) s.heap s.heap [] := va_S.rf
  have hl : lv_has ls 3 [(0, .ref (wAd w 0)), (1, .int a1), (2, .int a2)] := hl
  unfold f_X8_minuteProperty at hf
  refine lv_iload_n C.1 C.2.1 dX8_minuteProperty_0 rfl (lv_at hl 2 rfl) ?_
  by_cases c1 : a2 = 0
  · have hf := (if_pos c1).symm.trans hf
    refine lv_tableIn (off := 43) (tgt := 44) C.1 C.2.1 dX8_minuteProperty_1 (by rw [c1]; decide) (by rw [c1]; decide) (by rw [c1]; rfl) (by decide) ?_
    refine lv_aload_n C.1 C.2.1 dX8_minuteProperty_44 rfl (lv_at hl 0 rfl) ?_
    refine k_get (v := .ref (wAd w 1)) C hP (C9 C (lt_NoisePost h0_NoisePost)) (ob_NoisePost h0_NoisePost w L _) rfl iX8 0 (by decide) q273 rfl dX8_minuteProperty_45 ?_
    refine k_get (v := .ref (wAd w 2)) C hP (C9 C (lt_State to_NoisePost_state)) (ob_State to_NoisePost_state w L _) rfl iX5 0 (by decide) q43 rfl dX8_minuteProperty_48 ?_
    refine lv_iload_n C.1 C.2.1 dX8_minuteProperty_51 rfl (lv_at hl 1 rfl) ?_
    obtain ⟨x2, hx2, hf⟩ := ob hf
    refine k_iald C hP (C9 C (la_State_levels to_NoisePost_state)) (ar_State_levels to_NoisePost_state w L _) hx2 dX8_minuteProperty_52 ?_
    cases hf
    exact kri C hP hS dX8_minuteProperty_53
  · have hf := (if_neg c1).symm.trans hf
    by_cases c3 : a2 = 1
    · have hf := (if_pos c3).symm.trans hf
      refine lv_tableIn (off := 53) (tgt := 54) C.1 C.2.1 dX8_minuteProperty_1 (by rw [c3]; decide) (by rw [c3]; decide) (by rw [c3]; rfl) (by decide) ?_
      refine lv_aload_n C.1 C.2.1 dX8_minuteProperty_54 rfl (lv_at hl 0 rfl) ?_
      refine k_get (v := .ref (wAd w 1)) C hP (C9 C (lt_NoisePost h0_NoisePost)) (ob_NoisePost h0_NoisePost w L _) rfl iX8 0 (by decide) q273 rfl dX8_minuteProperty_55 ?_
      refine k_get (v := .ref (wAd w 3)) C hP (C9 C (lt_State to_NoisePost_state)) (ob_State to_NoisePost_state w L _) rfl iX5 1 (by decide) q46 rfl dX8_minuteProperty_58 ?_
      refine lv_iload_n C.1 C.2.1 dX8_minuteProperty_61 rfl (lv_at hl 1 rfl) ?_
      obtain ⟨x4, hx4, hf⟩ := ob hf
      refine k_iald C hP (C9 C (la_State_winds to_NoisePost_state)) (ar_State_winds to_NoisePost_state w L _) hx4 dX8_minuteProperty_62 ?_
      cases hf
      exact kri C hP hS dX8_minuteProperty_63
    · have hf := (if_neg c3).symm.trans hf
      by_cases c5 : a2 = 2
      · have hf := (if_pos c5).symm.trans hf
        refine lv_tableIn (off := 63) (tgt := 64) C.1 C.2.1 dX8_minuteProperty_1 (by rw [c5]; decide) (by rw [c5]; decide) (by rw [c5]; rfl) (by decide) ?_
        refine lv_aload_n C.1 C.2.1 dX8_minuteProperty_64 rfl (lv_at hl 0 rfl) ?_
        refine k_get (v := .ref (wAd w 54)) C hP (C9 C (lt_NoisePost h0_NoisePost)) (ob_NoisePost h0_NoisePost w L _) rfl iX8 3 (by decide) q276 rfl dX8_minuteProperty_65 ?_
        refine k_get (v := .ref (wAd w 56)) C hP (C9 C (lt_View to_NoisePost_now)) (ob_View to_NoisePost_now w L _) rfl iX7 1 (by decide) q248 rfl dX8_minuteProperty_68 ?_
        refine k_get (v := .ref (wAd w 57)) C hP (C9 C (lt_Minutes (to_View_minutes to_NoisePost_now))) (ob_Minutes (to_View_minutes to_NoisePost_now) w L _) rfl iX4 0 (by decide) q138 rfl dX8_minuteProperty_71 ?_
        refine lv_iload_n C.1 C.2.1 dX8_minuteProperty_74 rfl (lv_at hl 1 rfl) ?_
        obtain ⟨x6, hx6, hf⟩ := ob hf
        refine k_iald C hP (C9 C (la_Minutes_fast (to_View_minutes to_NoisePost_now))) (ar_Minutes_fast (to_View_minutes to_NoisePost_now) w L _) hx6 dX8_minuteProperty_75 ?_
        cases hf
        exact kri C hP hS dX8_minuteProperty_76
      · have hf := (if_neg c5).symm.trans hf
        by_cases c7 : a2 = 3
        · have hf := (if_pos c7).symm.trans hf
          refine lv_tableIn (off := 76) (tgt := 77) C.1 C.2.1 dX8_minuteProperty_1 (by rw [c7]; decide) (by rw [c7]; decide) (by rw [c7]; rfl) (by decide) ?_
          refine lv_aload_n C.1 C.2.1 dX8_minuteProperty_77 rfl (lv_at hl 0 rfl) ?_
          refine k_get (v := .ref (wAd w 54)) C hP (C9 C (lt_NoisePost h0_NoisePost)) (ob_NoisePost h0_NoisePost w L _) rfl iX8 3 (by decide) q276 rfl dX8_minuteProperty_78 ?_
          refine k_get (v := .ref (wAd w 56)) C hP (C9 C (lt_View to_NoisePost_now)) (ob_View to_NoisePost_now w L _) rfl iX7 1 (by decide) q248 rfl dX8_minuteProperty_81 ?_
          refine k_get (v := .ref (wAd w 58)) C hP (C9 C (lt_Minutes (to_View_minutes to_NoisePost_now))) (ob_Minutes (to_View_minutes to_NoisePost_now) w L _) rfl iX4 1 (by decide) q142 rfl dX8_minuteProperty_84 ?_
          refine lv_iload_n C.1 C.2.1 dX8_minuteProperty_87 rfl (lv_at hl 1 rfl) ?_
          obtain ⟨x8, hx8, hf⟩ := ob hf
          refine k_iald C hP (C9 C (la_Minutes_slow (to_View_minutes to_NoisePost_now))) (ar_Minutes_slow (to_View_minutes to_NoisePost_now) w L _) hx8 dX8_minuteProperty_88 ?_
          cases hf
          exact kri C hP hS dX8_minuteProperty_89
        · have hf := (if_neg c7).symm.trans hf
          by_cases c9 : a2 = 4
          · have hf := (if_pos c9).symm.trans hf
            refine lv_tableIn (off := 89) (tgt := 90) C.1 C.2.1 dX8_minuteProperty_1 (by rw [c9]; decide) (by rw [c9]; decide) (by rw [c9]; rfl) (by decide) ?_
            refine lv_iload_n C.1 C.2.1 dX8_minuteProperty_90 rfl (lv_at hl 1 rfl) ?_
            refine lv_aload_n C.1 C.2.1 dX8_minuteProperty_91 rfl (lv_at hl 0 rfl) ?_
            refine k_get (v := .ref (wAd w 1)) C hP (C9 C (lt_NoisePost h0_NoisePost)) (ob_NoisePost h0_NoisePost w L _) rfl iX8 0 (by decide) q273 rfl dX8_minuteProperty_92 ?_
            refine k_get (v := .ref (wAd w 4)) C hP (C9 C (lt_State to_NoisePost_state)) (ob_State to_NoisePost_state w L _) rfl iX5 2 (by decide) q48 rfl dX8_minuteProperty_95 ?_
            obtain ⟨r10, hr10, hf⟩ := ob hf
            refine kci (kS (As := [.int a1, .ref (wAd w 4)]) (rest := []) C hl.1 hP hS (c_X8_limitAt w l C.2.2.2.2.2.2.2.2 s_St (L := L) hr10) (gS q433 q434 q1 q435) hd_X8_limitAt ⟨rfl, rfl⟩ ⟨Nat.le_of_ble_eq_true rfl, Nat.le_of_ble_eq_true rfl⟩ rfl rfl (Nat.le_of_ble_eq_true rfl) dX8_minuteProperty_98 ⟨Nat.zero_le _, Nat.zero_le _⟩) hS (fun H locs hP hS => ?_)
            cases hf
            exact kri C hP hS dX8_minuteProperty_101
          · have hf := (if_neg c9).symm.trans hf
            by_cases c11 : a2 = 5
            · have hf := (if_pos c11).symm.trans hf
              refine lv_tableIn (off := 101) (tgt := 102) C.1 C.2.1 dX8_minuteProperty_1 (by rw [c11]; decide) (by rw [c11]; decide) (by rw [c11]; rfl) (by decide) ?_
              refine lv_iload_n C.1 C.2.1 dX8_minuteProperty_102 rfl (lv_at hl 1 rfl) ?_
              refine lv_aload_n C.1 C.2.1 dX8_minuteProperty_103 rfl (lv_at hl 0 rfl) ?_
              refine k_get (v := .ref (wAd w 1)) C hP (C9 C (lt_NoisePost h0_NoisePost)) (ob_NoisePost h0_NoisePost w L _) rfl iX8 0 (by decide) q273 rfl dX8_minuteProperty_104 ?_
              refine k_get (v := .ref (wAd w 4)) C hP (C9 C (lt_State to_NoisePost_state)) (ob_State to_NoisePost_state w L _) rfl iX5 2 (by decide) q48 rfl dX8_minuteProperty_107 ?_
              obtain ⟨r12, hr12, hf⟩ := ob hf
              refine kci (kS (As := [.int a1, .ref (wAd w 4)]) (rest := []) C hl.1 hP hS (c_X8_isRest w l C.2.2.2.2.2.2.2.2 s_St (L := L) hr12) (gS q436 q437 q1 q438) hd_X8_isRest ⟨rfl, rfl⟩ ⟨Nat.le_of_ble_eq_true rfl, Nat.le_of_ble_eq_true rfl⟩ rfl rfl (Nat.le_of_ble_eq_true rfl) dX8_minuteProperty_110 ⟨Nat.zero_le _, Nat.zero_le _⟩) hS (fun H locs hP hS => ?_)
              refine lv_if_eq (tgt := 120) C.1 C.2.1 dX8_minuteProperty_113 (by decide) (fun c13 => ?_) (fun c13 => ?_)
              · have hf := (if_pos c13).symm.trans hf
                refine lv_iconst (v := 0) C.1 C.2.1 dX8_minuteProperty_120 (by decide) ?_
                cases hf
                exact kri C hP hS dX8_minuteProperty_121
              · have hf := (if_neg c13).symm.trans hf
                refine lv_iconst (v := 1) C.1 C.2.1 dX8_minuteProperty_116 (by decide) ?_
                refine lv_goto (tgt := 121) C.1 C.2.1 dX8_minuteProperty_117 (by decide) ?_
                cases hf
                exact kri C hP hS dX8_minuteProperty_121
            · have hf := (if_neg c11).symm.trans hf
              by_cases c14 : a2 = 6
              · have hf := (if_pos c14).symm.trans hf
                refine lv_tableIn (off := 121) (tgt := 122) C.1 C.2.1 dX8_minuteProperty_1 (by rw [c14]; decide) (by rw [c14]; decide) (by rw [c14]; rfl) (by decide) ?_
                refine lv_aload_n C.1 C.2.1 dX8_minuteProperty_122 rfl (lv_at hl 0 rfl) ?_
                refine k_get (v := .ref (wAd w 54)) C hP (C9 C (lt_NoisePost h0_NoisePost)) (ob_NoisePost h0_NoisePost w L _) rfl iX8 3 (by decide) q276 rfl dX8_minuteProperty_123 ?_
                refine k_get (v := .ref (wAd w 56)) C hP (C9 C (lt_View to_NoisePost_now)) (ob_View to_NoisePost_now w L _) rfl iX7 1 (by decide) q248 rfl dX8_minuteProperty_126 ?_
                refine k_get (v := .ref (wAd w 59)) C hP (C9 C (lt_Minutes (to_View_minutes to_NoisePost_now))) (ob_Minutes (to_View_minutes to_NoisePost_now) w L _) rfl iX4 2 (by decide) q145 rfl dX8_minuteProperty_129 ?_
                refine lv_iload_n C.1 C.2.1 dX8_minuteProperty_132 rfl (lv_at hl 1 rfl) ?_
                obtain ⟨x15, hx15, hf⟩ := ob hf
                refine k_iald C hP (C9 C (la_Minutes_why (to_View_minutes to_NoisePost_now))) (ar_Minutes_why (to_View_minutes to_NoisePost_now) w L _) hx15 dX8_minuteProperty_133 ?_
                cases hf
                exact kri C hP hS dX8_minuteProperty_134
              · have hf := (if_neg c14).symm.trans hf
                refine lv_tableOut (tgt := 135) C.1 C.2.1 dX8_minuteProperty_1 (by have e0 := ne_ti (n := 0) c1 (by decide); have e1 := ne_ti (n := 1) c3 (by decide); have e2 := ne_ti (n := 2) c5 (by decide); have e3 := ne_ti (n := 3) c7 (by decide); have e4 := ne_ti (n := 4) c9 (by decide); have e5 := ne_ti (n := 5) c11 (by decide); have e6 := ne_ti (n := 6) c14 (by decide); omega) (by decide) ?_
                refine lv_aload_n C.1 C.2.1 dX8_minuteProperty_135 rfl (lv_at hl 0 rfl) ?_
                refine k_get (v := .ref (wAd w 54)) C hP (C9 C (lt_NoisePost h0_NoisePost)) (ob_NoisePost h0_NoisePost w L _) rfl iX8 3 (by decide) q276 rfl dX8_minuteProperty_136 ?_
                refine k_get (v := .ref (wAd w 60)) C hP (C9 C (lt_View to_NoisePost_now)) (ob_View to_NoisePost_now w L _) rfl iX7 2 (by decide) q250 rfl dX8_minuteProperty_139 ?_
                refine k_get (v := .ref (wAd w 66)) C hP (C9 C (lt_Exceedances (to_View_exceedances to_NoisePost_now))) (ob_Exceedances (to_View_exceedances to_NoisePost_now) w L _) rfl iX0 5 (by decide) q195 rfl dX8_minuteProperty_142 ?_
                refine lv_iload_n C.1 C.2.1 dX8_minuteProperty_145 rfl (lv_at hl 1 rfl) ?_
                obtain ⟨x16, hx16, hf⟩ := ob hf
                refine k_iald C hP (C9 C (la_Exceedances_ownerOf (to_View_exceedances to_NoisePost_now))) (ar_Exceedances_ownerOf (to_View_exceedances to_NoisePost_now) w L _) hx16 dX8_minuteProperty_146 ?_
                cases hf
                exact kri C hP hS dX8_minuteProperty_147
theorem dX8_minute_0 : decode cX8_minute 0 = .ok (.aload_n 0, 1) := by decide +kernel
theorem dX8_minute_1 : decode cX8_minute 1 = .ok (.getfield 10, 3) := by decide +kernel
theorem dX8_minute_4 : decode cX8_minute 4 = .ok (.iload_n 1, 1) := by decide +kernel
theorem dX8_minute_5 : decode cX8_minute 5 = .ok (.invokevirtual 99, 3) := by decide +kernel
theorem dX8_minute_8 : decode cX8_minute 8 = .ok (.ifCond .ne 13, 3) := by decide +kernel
theorem dX8_minute_11 : decode cX8_minute 11 = .ok (.new 51, 3) := by decide +kernel
theorem dX8_minute_14 : decode cX8_minute 14 = .ok (.dup, 1) := by decide +kernel
theorem dX8_minute_15 : decode cX8_minute 15 = .ok (.ldc 102, 2) := by decide +kernel
theorem dX8_minute_17 : decode cX8_minute 17 = .ok (.invokespecial 55, 3) := by decide +kernel
theorem dX8_minute_20 : decode cX8_minute 20 = .ok (.athrow, 1) := by decide +kernel
theorem dX8_minute_21 : decode cX8_minute 21 = .ok (.iload_n 2, 1) := by decide +kernel
theorem dX8_minute_22 : decode cX8_minute 22 = .ok (.ifCond .lt 9, 3) := by decide +kernel
theorem dX8_minute_25 : decode cX8_minute 25 = .ok (.iload_n 2, 1) := by decide +kernel
theorem dX8_minute_26 : decode cX8_minute 26 = .ok (.bipush 7, 2) := by decide +kernel
theorem dX8_minute_28 : decode cX8_minute 28 = .ok (.if_icmp .le 13, 3) := by decide +kernel
theorem dX8_minute_31 : decode cX8_minute 31 = .ok (.new 62, 3) := by decide +kernel
theorem dX8_minute_34 : decode cX8_minute 34 = .ok (.dup, 1) := by decide +kernel
theorem dX8_minute_35 : decode cX8_minute 35 = .ok (.ldc 193, 2) := by decide +kernel
theorem dX8_minute_37 : decode cX8_minute 37 = .ok (.invokespecial 66, 3) := by decide +kernel
theorem dX8_minute_40 : decode cX8_minute 40 = .ok (.athrow, 1) := by decide +kernel
theorem dX8_minute_41 : decode cX8_minute 41 = .ok (.aload_n 0, 1) := by decide +kernel
theorem dX8_minute_42 : decode cX8_minute 42 = .ok (.iload_n 1, 1) := by decide +kernel
theorem dX8_minute_43 : decode cX8_minute 43 = .ok (.iload_n 2, 1) := by decide +kernel
theorem dX8_minute_44 : decode cX8_minute 44 = .ok (.invokevirtual 195, 3) := by decide +kernel
theorem dX8_minute_47 : decode cX8_minute 47 = .ok (.ireturn, 1) := by decide +kernel
set_option maxHeartbeats 4000000 in
set_option maxRecDepth 100000 in
theorem w_X8_minute_j31 {w : WT} {l : Launch} {p : Program} {e : Env} {s : State} {m : MethodId} {args : Array Value} {below : List Frame} {meth : Method} {c : Code} (C : KC w p s m args meth c cX8_minute 3 RX8 (some .int)) {M : Mem} {L : Lng} {out : Int32} (hf : f_X8_minute_j31 M = some out) : AtL w p l e ({ frames := 4, cells := 0, slots := 0, locals := 86 } : Room) s m args below meth c (MQ below (QI w out M L) args s 0 0 (wA w)) 3 31 M L [] [] := by
  intro H locs ls hP hS hl
  unfold f_X8_minute_j31 at hf
  cases hf
