theorem dX8_withBuffer_0 : decode cX8_withBuffer 0 = .ok (.lload_n 1, 1) := by decide +kernel
theorem dX8_withBuffer_1 : decode cX8_withBuffer 1 = .ok (.aload_n 0, 1) := by decide +kernel
theorem dX8_withBuffer_2 : decode cX8_withBuffer 2 = .ok (.getfield 26, 3) := by decide +kernel
theorem dX8_withBuffer_5 : decode cX8_withBuffer 5 = .ok (.getfield 156, 3) := by decide +kernel
theorem dX8_withBuffer_8 : decode cX8_withBuffer 8 = .ok (.i2l, 1) := by decide +kernel
theorem dX8_withBuffer_9 : decode cX8_withBuffer 9 = .ok (.invokestatic 254, 3) := by decide +kernel
theorem dX8_withBuffer_12 : decode cX8_withBuffer 12 = .ok (.lstore_n 1, 1) := by decide +kernel
theorem dX8_withBuffer_13 : decode cX8_withBuffer 13 = .ok (.iconst 0, 1) := by decide +kernel
theorem dX8_withBuffer_14 : decode cX8_withBuffer 14 = .ok (.istore_n 3, 1) := by decide +kernel
theorem dX8_withBuffer_15 : decode cX8_withBuffer 15 = .ok (.iload_n 3, 1) := by decide +kernel
theorem dX8_withBuffer_16 : decode cX8_withBuffer 16 = .ok (.aload_n 0, 1) := by decide +kernel
theorem dX8_withBuffer_17 : decode cX8_withBuffer 17 = .ok (.getfield 26, 3) := by decide +kernel
theorem dX8_withBuffer_20 : decode cX8_withBuffer 20 = .ok (.getfield 156, 3) := by decide +kernel
theorem dX8_withBuffer_23 : decode cX8_withBuffer 23 = .ok (.if_icmp .ge 24, 3) := by decide +kernel
theorem dX8_withBuffer_26 : decode cX8_withBuffer 26 = .ok (.lload_n 1, 1) := by decide +kernel
theorem dX8_withBuffer_27 : decode cX8_withBuffer 27 = .ok (.aload_n 0, 1) := by decide +kernel
theorem dX8_withBuffer_28 : decode cX8_withBuffer 28 = .ok (.getfield 26, 3) := by decide +kernel
theorem dX8_withBuffer_31 : decode cX8_withBuffer 31 = .ok (.getfield 336, 3) := by decide +kernel
theorem dX8_withBuffer_34 : decode cX8_withBuffer 34 = .ok (.iload_n 3, 1) := by decide +kernel
theorem dX8_withBuffer_35 : decode cX8_withBuffer 35 = .ok (.iaload, 1) := by decide +kernel
theorem dX8_withBuffer_36 : decode cX8_withBuffer 36 = .ok (.i2l, 1) := by decide +kernel
theorem dX8_withBuffer_37 : decode cX8_withBuffer 37 = .ok (.invokestatic 254, 3) := by decide +kernel
theorem dX8_withBuffer_40 : decode cX8_withBuffer 40 = .ok (.lstore_n 1, 1) := by decide +kernel
theorem dX8_withBuffer_41 : decode cX8_withBuffer 41 = .ok (.iinc 3 1, 3) := by decide +kernel
theorem dX8_withBuffer_44 : decode cX8_withBuffer 44 = .ok (.goto (-29), 3) := by decide +kernel
theorem dX8_withBuffer_47 : decode cX8_withBuffer 47 = .ok (.lload_n 1, 1) := by decide +kernel
theorem dX8_withBuffer_48 : decode cX8_withBuffer 48 = .ok (.lreturn, 1) := by decide +kernel
set_option maxHeartbeats 4000000 in
set_option maxRecDepth 100000 in
theorem w_X8_withBuffer_l15 {w : WT} {l : Launch} {p : Program} {e : Env} {s : State} {m : MethodId} {args : Array Value} {below : List Frame} {meth : Method} {c : Code} (C : KC w p s m args meth c cX8_withBuffer 4 RX8 (some .long)) {M : Mem} {L : Lng} {Q : State → Prop} (z : Int64 × Int32) (o : (Int64 × Int32) ⊕ (Int64)) (hf : f_X8_withBuffer_l15 M z = some o) (hA : ∀ z, o = .inl z → AtL w p l e ({ frames := 1, cells := 0, slots := 0, locals := 23 } : Room) s m args below meth c Q 4 15 M L [(0, .ref (wAd w 0)), (1, .long z.1), (3, .int z.2)] []) (hE : ∀ y, o = .inr y → AtL w p l e ({ frames := 1, cells := 0, slots := 0, locals := 23 } : Room) s m args below meth c Q 4 47 M L [(1, .long y)] []) : AtL w p l e ({ frames := 1, cells := 0, slots := 0, locals := 23 } : Room) s m args below meth c Q 4 15 M L [(0, .ref (wAd w 0)), (1, .long z.1), (3, .int z.2)] [] := by
  intro H locs ls hP hS hl
  unfold f_X8_withBuffer_l15 at hf
  refine lv_iload_n C.1 C.2.1 dX8_withBuffer_15 rfl (lv_at hl 2 rfl) ?_
  refine lv_aload_n C.1 C.2.1 dX8_withBuffer_16 rfl (lv_at hl 0 rfl) ?_
  refine k_get (v := .ref (wAd w 48)) C hP (lt_NoisePost h0_NoisePost) (ob_NoisePost h0_NoisePost w L _) rfl iX8 2 (by decide) q286 rfl dX8_withBuffer_17 ?_
  refine k_get (v := .int (M 48 1)) C hP (lt_Text to_NoisePost_text) (ob_Text to_NoisePost_text w L _) rfl iX6 1 (by decide) q103 rfl dX8_withBuffer_20 ?_
  refine lv_icmp_ge (tgt := 47) C.1 C.2.1 dX8_withBuffer_23 (by decide) (fun c2 => ?_) (fun c2 => ?_)
  · have hf := (if_pos c2).symm.trans hf
    cases hf
    exact hE _ rfl _ _ _ hP hS (lv_sub hl [1] rfl)
  · have hf := (if_neg c2).symm.trans hf
    refine lv_lload_n C.1 C.2.1 dX8_withBuffer_26 rfl (lv_at hl 1 rfl) ?_
    refine lv_aload_n C.1 C.2.1 dX8_withBuffer_27 rfl (lv_at hl 0 rfl) ?_
    refine k_get (v := .ref (wAd w 48)) C hP (lt_NoisePost h0_NoisePost) (ob_NoisePost h0_NoisePost w L _) rfl iX8 2 (by decide) q286 rfl dX8_withBuffer_28 ?_
    refine k_get (v := .ref (wAd w 49)) C hP (lt_Text to_NoisePost_text) (ob_Text to_NoisePost_text w L _) rfl iX6 0 (by decide) q101 rfl dX8_withBuffer_31 ?_
    refine lv_iload_n C.1 C.2.1 dX8_withBuffer_34 rfl (lv_at hl 2 rfl) ?_
    obtain ⟨x3, hx3, hf⟩ := ob hf
    refine k_iald C hP (la_Text_codes to_NoisePost_text) (ar_Text_codes to_NoisePost_text w L _) hx3 dX8_withBuffer_35 ?_
    refine lv_i2l (v := (Int32.toInt64 x3)) C.1 C.2.1 dX8_withBuffer_36 rfl ?_
    obtain ⟨r4, hr4, hf⟩ := ob hf
    refine kcl (kS (As := [.long z.1, .long (Int32.toInt64 x3)]) (rest := []) C hl.1 hP hS (c_X8_mixed w l C.2.2.2.2.2.2.2.2 (L := L) hr4) (gS q372 q373 q1 q374) hd_X8_mixed ⟨rfl, rfl⟩ ⟨Nat.le_of_ble_eq_true rfl, Nat.le_of_ble_eq_true rfl⟩ rfl rfl (Nat.le_of_ble_eq_true rfl) dX8_withBuffer_37 ⟨Nat.zero_le _, Nat.zero_le _⟩) hS (fun H locs hP hS => ?_)
    refine lv_lstore_n (lv' := [(1, .long r4), (0, .ref (wAd w 0)), (3, .int z.2)]) C.1 C.2.1 dX8_withBuffer_40 rfl hl (by decide) rfl (fun ls hl => ?_)
    refine lv_iinc (v := (z.2 + 1)) (lv' := [(3, .int (z.2 + 1)), (1, .long r4), (0, .ref (wAd w 0))]) C.1 C.2.1 dX8_withBuffer_41 hl (k := 2) rfl rfl (by decide) rfl (fun ls hl => ?_)
    refine lv_goto (tgt := 15) C.1 C.2.1 dX8_withBuffer_44 (by decide) ?_
    cases hf
    exact hA _ rfl _ _ _ hP hS (lv_sub hl [2, 1, 0] rfl)
set_option maxHeartbeats 4000000 in
set_option maxRecDepth 100000 in
theorem c_X8_withBuffer (w : WT) (l : Launch) (hw : WOK w) {a1 : Int64} {M : Mem} {L : Lng} {out : Int64} (hf : f_X8_withBuffer a1 M = some out) : Met l yX8_withBuffer (Cond.code yX8_withBuffer cX8_withBuffer 4 (some .long) :: BG) ({ frames := 1, cells := 0, slots := 0, locals := 23 } : Room) (PRE w [.ref (wAd w 0), .long a1] M L) (QL w out M L) 0 0 (wA w) := by
  refine kEnt hw (by decide +kernel) rfl (Nat.le_of_ble_eq_true rfl) ?_
  intro p e s m args below meth c C ls hl hP
  have hS : va_S (wA w) s.heap s.heap [] := va_S.rf
  have hl : lv_has ls 4 [(0, .ref (wAd w 0)), (1, .long a1)] := hl
  unfold f_X8_withBuffer at hf
  refine lv_lload_n C.1 C.2.1 dX8_withBuffer_0 rfl (lv_at hl 1 rfl) ?_
  refine lv_aload_n C.1 C.2.1 dX8_withBuffer_1 rfl (lv_at hl 0 rfl) ?_
  refine k_get (v := .ref (wAd w 48)) C hP (lt_NoisePost h0_NoisePost) (ob_NoisePost h0_NoisePost w L _) rfl iX8 2 (by decide) q286 rfl dX8_withBuffer_2 ?_
  refine k_get (v := .int (M 48 1)) C hP (lt_Text to_NoisePost_text) (ob_Text to_NoisePost_text w L _) rfl iX6 1 (by decide) q103 rfl dX8_withBuffer_5 ?_
  refine lv_i2l (v := (Int32.toInt64 (M 48 1))) C.1 C.2.1 dX8_withBuffer_8 rfl ?_
  obtain ⟨r1, hr1, hf⟩ := ob hf
  refine kcl (kS (As := [.long a1, .long (Int32.toInt64 (M 48 1))]) (rest := []) C hl.1 hP hS (c_X8_mixed w l C.2.2.2.2.2.2.2.2 (L := L) hr1) (gS q372 q373 q1 q374) hd_X8_mixed ⟨rfl, rfl⟩ ⟨Nat.le_of_ble_eq_true rfl, Nat.le_of_ble_eq_true rfl⟩ rfl rfl (Nat.le_of_ble_eq_true rfl) dX8_withBuffer_9 ⟨Nat.zero_le _, Nat.zero_le _⟩) hS (fun H locs hP hS => ?_)
  refine lv_lstore_n (lv' := [(1, .long r1), (0, .ref (wAd w 0))]) C.1 C.2.1 dX8_withBuffer_12 rfl hl (by decide) rfl (fun ls hl => ?_)
  refine lv_iconst (v := 0) C.1 C.2.1 dX8_withBuffer_13 (by decide) ?_
  refine lv_istore_n (lv' := [(3, .int 0), (1, .long r1), (0, .ref (wAd w 0))]) C.1 C.2.1 dX8_withBuffer_14 rfl hl (by decide) rfl (fun ls hl => ?_)
  obtain ⟨o5, ho5, hf⟩ := ob hf
  refine loop_at (w_X8_withBuffer_l15 C) FU _ o5 ho5 ?_ _ _ _ hP hS (lv_sub hl [2, 1, 0] rfl)
  intro H locs ls hP hS hl
  refine lv_lload_n C.1 C.2.1 dX8_withBuffer_47 rfl (lv_at hl 0 rfl) ?_
  cases hf
  exact krl C hP hS dX8_withBuffer_48
theorem dX8_digest_0 : decode cX8_digest 0 = .ok (.ldc2_w 252, 3) := by decide +kernel
theorem dX8_digest_3 : decode cX8_digest 3 = .ok (.lstore_n 1, 1) := by decide +kernel
theorem dX8_digest_4 : decode cX8_digest 4 = .ok (.iconst 0, 1) := by decide +kernel
theorem dX8_digest_5 : decode cX8_digest 5 = .ok (.istore_n 3, 1) := by decide +kernel
theorem dX8_digest_6 : decode cX8_digest 6 = .ok (.iload_n 3, 1) := by decide +kernel
theorem dX8_digest_7 : decode cX8_digest 7 = .ok (.bipush 11, 2) := by decide +kernel
theorem dX8_digest_9 : decode cX8_digest 9 = .ok (.if_icmp .gt 20, 3) := by decide +kernel
theorem dX8_digest_12 : decode cX8_digest 12 = .ok (.lload_n 1, 1) := by decide +kernel
theorem dX8_digest_13 : decode cX8_digest 13 = .ok (.aload_n 0, 1) := by decide +kernel
theorem dX8_digest_14 : decode cX8_digest 14 = .ok (.iload_n 3, 1) := by decide +kernel
theorem dX8_digest_15 : decode cX8_digest 15 = .ok (.invokevirtual 225, 3) := by decide +kernel
theorem dX8_digest_18 : decode cX8_digest 18 = .ok (.i2l, 1) := by decide +kernel
theorem dX8_digest_19 : decode cX8_digest 19 = .ok (.invokestatic 254, 3) := by decide +kernel
theorem dX8_digest_22 : decode cX8_digest 22 = .ok (.lstore_n 1, 1) := by decide +kernel
theorem dX8_digest_23 : decode cX8_digest 23 = .ok (.iinc 3 1, 3) := by decide +kernel
theorem dX8_digest_26 : decode cX8_digest 26 = .ok (.goto (-20), 3) := by decide +kernel
theorem dX8_digest_29 : decode cX8_digest 29 = .ok (.iconst 0, 1) := by decide +kernel
theorem dX8_digest_30 : decode cX8_digest 30 = .ok (.istore_n 3, 1) := by decide +kernel
theorem dX8_digest_31 : decode cX8_digest 31 = .ok (.iload_n 3, 1) := by decide +kernel
theorem dX8_digest_32 : decode cX8_digest 32 = .ok (.bipush 10, 2) := by decide +kernel
theorem dX8_digest_34 : decode cX8_digest 34 = .ok (.if_icmp .ge 24, 3) := by decide +kernel
theorem dX8_digest_37 : decode cX8_digest 37 = .ok (.lload_n 1, 1) := by decide +kernel
theorem dX8_digest_38 : decode cX8_digest 38 = .ok (.aload_n 0, 1) := by decide +kernel
theorem dX8_digest_39 : decode cX8_digest 39 = .ok (.getfield 10, 3) := by decide +kernel
theorem dX8_digest_42 : decode cX8_digest 42 = .ok (.getfield 71, 3) := by decide +kernel
theorem dX8_digest_45 : decode cX8_digest 45 = .ok (.iload_n 3, 1) := by decide +kernel
theorem dX8_digest_46 : decode cX8_digest 46 = .ok (.iaload, 1) := by decide +kernel
theorem dX8_digest_47 : decode cX8_digest 47 = .ok (.i2l, 1) := by decide +kernel
theorem dX8_digest_48 : decode cX8_digest 48 = .ok (.invokestatic 254, 3) := by decide +kernel
theorem dX8_digest_51 : decode cX8_digest 51 = .ok (.lstore_n 1, 1) := by decide +kernel
theorem dX8_digest_52 : decode cX8_digest 52 = .ok (.iinc 3 1, 3) := by decide +kernel
theorem dX8_digest_55 : decode cX8_digest 55 = .ok (.goto (-24), 3) := by decide +kernel
theorem dX8_digest_58 : decode cX8_digest 58 = .ok (.aload_n 0, 1) := by decide +kernel
theorem dX8_digest_59 : decode cX8_digest 59 = .ok (.lload_n 1, 1) := by decide +kernel
theorem dX8_digest_60 : decode cX8_digest 60 = .ok (.invokevirtual 258, 3) := by decide +kernel
theorem dX8_digest_63 : decode cX8_digest 63 = .ok (.lstore_n 1, 1) := by decide +kernel
theorem dX8_digest_64 : decode cX8_digest 64 = .ok (.aload_n 0, 1) := by decide +kernel
theorem dX8_digest_65 : decode cX8_digest 65 = .ok (.lload_n 1, 1) := by decide +kernel
theorem dX8_digest_66 : decode cX8_digest 66 = .ok (.invokevirtual 262, 3) := by decide +kernel
theorem dX8_digest_69 : decode cX8_digest 69 = .ok (.lstore_n 1, 1) := by decide +kernel
theorem dX8_digest_70 : decode cX8_digest 70 = .ok (.aload_n 0, 1) := by decide +kernel
theorem dX8_digest_71 : decode cX8_digest 71 = .ok (.lload_n 1, 1) := by decide +kernel
theorem dX8_digest_72 : decode cX8_digest 72 = .ok (.invokevirtual 265, 3) := by decide +kernel
theorem dX8_digest_75 : decode cX8_digest 75 = .ok (.lstore_n 1, 1) := by decide +kernel
theorem dX8_digest_76 : decode cX8_digest 76 = .ok (.aload_n 0, 1) := by decide +kernel
theorem dX8_digest_77 : decode cX8_digest 77 = .ok (.lload_n 1, 1) := by decide +kernel
theorem dX8_digest_78 : decode cX8_digest 78 = .ok (.invokevirtual 268, 3) := by decide +kernel
theorem dX8_digest_81 : decode cX8_digest 81 = .ok (.lstore_n 1, 1) := by decide +kernel
theorem dX8_digest_82 : decode cX8_digest 82 = .ok (.lload_n 1, 1) := by decide +kernel
theorem dX8_digest_83 : decode cX8_digest 83 = .ok (.aload_n 0, 1) := by decide +kernel
theorem dX8_digest_84 : decode cX8_digest 84 = .ok (.getfield 33, 3) := by decide +kernel
theorem dX8_digest_87 : decode cX8_digest 87 = .ok (.iconst 1, 1) := by decide +kernel
theorem dX8_digest_88 : decode cX8_digest 88 = .ok (.invokevirtual 242, 3) := by decide +kernel
theorem dX8_digest_91 : decode cX8_digest 91 = .ok (.i2l, 1) := by decide +kernel
theorem dX8_digest_92 : decode cX8_digest 92 = .ok (.invokestatic 254, 3) := by decide +kernel
theorem dX8_digest_95 : decode cX8_digest 95 = .ok (.lstore_n 1, 1) := by decide +kernel
theorem dX8_digest_96 : decode cX8_digest 96 = .ok (.lload_n 1, 1) := by decide +kernel
theorem dX8_digest_97 : decode cX8_digest 97 = .ok (.aload_n 0, 1) := by decide +kernel
theorem dX8_digest_98 : decode cX8_digest 98 = .ok (.getfield 33, 3) := by decide +kernel
theorem dX8_digest_101 : decode cX8_digest 101 = .ok (.bipush 80, 2) := by decide +kernel
theorem dX8_digest_103 : decode cX8_digest 103 = .ok (.invokevirtual 245, 3) := by decide +kernel
theorem dX8_digest_106 : decode cX8_digest 106 = .ok (.i2l, 1) := by decide +kernel
theorem dX8_digest_107 : decode cX8_digest 107 = .ok (.invokestatic 254, 3) := by decide +kernel
theorem dX8_digest_110 : decode cX8_digest 110 = .ok (.lstore_n 1, 1) := by decide +kernel
theorem dX8_digest_111 : decode cX8_digest 111 = .ok (.lload_n 1, 1) := by decide +kernel
theorem dX8_digest_112 : decode cX8_digest 112 = .ok (.aload_n 0, 1) := by decide +kernel
theorem dX8_digest_113 : decode cX8_digest 113 = .ok (.getfield 33, 3) := by decide +kernel
theorem dX8_digest_116 : decode cX8_digest 116 = .ok (.getfield 214, 3) := by decide +kernel
theorem dX8_digest_119 : decode cX8_digest 119 = .ok (.invokevirtual 248, 3) := by decide +kernel
theorem dX8_digest_122 : decode cX8_digest 122 = .ok (.invokestatic 271, 3) := by decide +kernel
theorem dX8_digest_125 : decode cX8_digest 125 = .ok (.invokestatic 254, 3) := by decide +kernel
theorem dX8_digest_128 : decode cX8_digest 128 = .ok (.lstore_n 1, 1) := by decide +kernel
theorem dX8_digest_129 : decode cX8_digest 129 = .ok (.aload_n 0, 1) := by decide +kernel
theorem dX8_digest_130 : decode cX8_digest 130 = .ok (.lload_n 1, 1) := by decide +kernel
theorem dX8_digest_131 : decode cX8_digest 131 = .ok (.invokevirtual 275, 3) := by decide +kernel
theorem dX8_digest_134 : decode cX8_digest 134 = .ok (.lreturn, 1) := by decide +kernel
set_option maxHeartbeats 4000000 in
set_option maxRecDepth 100000 in
theorem w_X8_digest_l6 {w : WT} {l : Launch} {p : Program} {e : Env} {s : State} {m : MethodId} {args : Array Value} {below : List Frame} {meth : Method} {c : Code} (C : KC w p s m args meth c cX8_digest 4 RX8 (some .long)) {M : Mem} {L : Lng} {Q : State → Prop} (z : Int64 × Int32) (o : (Int64 × Int32) ⊕ (Int64)) (hf : f_X8_digest_l6 M z = some o) (hA : ∀ z, o = .inl z → AtL w p l e ({ frames := 5, cells := 0, slots := 0, locals := 113 } : Room) s m args below meth c Q 4 6 M L [(0, .ref (wAd w 0)), (1, .long z.1), (3, .int z.2)] []) (hE : ∀ y, o = .inr y → AtL w p l e ({ frames := 5, cells := 0, slots := 0, locals := 113 } : Room) s m args below meth c Q 4 29 M L [(0, .ref (wAd w 0)), (1, .long y)] []) : AtL w p l e ({ frames := 5, cells := 0, slots := 0, locals := 113 } : Room) s m args below meth c Q 4 6 M L [(0, .ref (wAd w 0)), (1, .long z.1), (3, .int z.2)] [] := by
  intro H locs ls hP hS hl
  unfold f_X8_digest_l6 at hf
  refine lv_iload_n C.1 C.2.1 dX8_digest_6 rfl (lv_at hl 2 rfl) ?_
  refine lv_bipush (v := 11) C.1 C.2.1 dX8_digest_7 (by decide) ?_
  refine lv_icmp_gt (tgt := 29) C.1 C.2.1 dX8_digest_9 (by decide) (fun c1 => ?_) (fun c1 => ?_)
  · have hf := (if_pos c1).symm.trans hf
    cases hf
    exact hE _ rfl _ _ _ hP hS (lv_sub hl [0, 1] rfl)
  · have hf := (if_neg c1).symm.trans hf
    refine lv_lload_n C.1 C.2.1 dX8_digest_12 rfl (lv_at hl 1 rfl) ?_
    refine lv_aload_n C.1 C.2.1 dX8_digest_13 rfl (lv_at hl 0 rfl) ?_
    refine lv_iload_n C.1 C.2.1 dX8_digest_14 rfl (lv_at hl 2 rfl) ?_
    obtain ⟨r2, hr2, hf⟩ := ob hf
    refine kci (kV (As := [.int z.2]) (rest := [.long z.1]) C hl.1 hP hS (c_X8_numberOf w l C.2.2.2.2.2.2.2.2 (L := L) hr2) (gV q356 q358 qp6 q1 q359) hd_X8_numberOf (lt_NoisePost h0_NoisePost) (ob_NoisePost h0_NoisePost w L _) rfl ⟨rfl, rfl⟩ ⟨Nat.le_of_ble_eq_true rfl, Nat.le_of_ble_eq_true rfl⟩ rfl rfl (Nat.le_of_ble_eq_true rfl) dX8_digest_15 ⟨Nat.zero_le _, Nat.zero_le _⟩) hS (fun H locs hP hS => ?_)
    refine lv_i2l (v := (Int32.toInt64 r2)) C.1 C.2.1 dX8_digest_18 rfl ?_
    obtain ⟨r3, hr3, hf⟩ := ob hf
    refine kcl (kS (As := [.long z.1, .long (Int32.toInt64 r2)]) (rest := []) C hl.1 hP hS (c_X8_mixed w l C.2.2.2.2.2.2.2.2 (L := L) hr3) (gS q372 q373 q1 q374) hd_X8_mixed ⟨rfl, rfl⟩ ⟨Nat.le_of_ble_eq_true rfl, Nat.le_of_ble_eq_true rfl⟩ rfl rfl (Nat.le_of_ble_eq_true rfl) dX8_digest_19 ⟨Nat.zero_le _, Nat.zero_le _⟩) hS (fun H locs hP hS => ?_)
    refine lv_lstore_n (lv' := [(1, .long r3), (0, .ref (wAd w 0)), (3, .int z.2)]) C.1 C.2.1 dX8_digest_22 rfl hl (by decide) rfl (fun ls hl => ?_)
    refine lv_iinc (v := (z.2 + 1)) (lv' := [(3, .int (z.2 + 1)), (1, .long r3), (0, .ref (wAd w 0))]) C.1 C.2.1 dX8_digest_23 hl (k := 2) rfl rfl (by decide) rfl (fun ls hl => ?_)
    refine lv_goto (tgt := 6) C.1 C.2.1 dX8_digest_26 (by decide) ?_
    cases hf
    exact hA _ rfl _ _ _ hP hS (lv_sub hl [2, 1, 0] rfl)
set_option maxHeartbeats 4000000 in
set_option maxRecDepth 100000 in
theorem w_X8_digest_l31 {w : WT} {l : Launch} {p : Program} {e : Env} {s : State} {m : MethodId} {args : Array Value} {below : List Frame} {meth : Method} {c : Code} (C : KC w p s m args meth c cX8_digest 4 RX8 (some .long)) {M : Mem} {L : Lng} {Q : State → Prop} (z : Int64 × Int32) (o : (Int64 × Int32) ⊕ (Int64)) (hf : f_X8_digest_l31 M z = some o) (hA : ∀ z, o = .inl z → AtL w p l e ({ frames := 5, cells := 0, slots := 0, locals := 113 } : Room) s m args below meth c Q 4 31 M L [(0, .ref (wAd w 0)), (1, .long z.1), (3, .int z.2)] []) (hE : ∀ y, o = .inr y → AtL w p l e ({ frames := 5, cells := 0, slots := 0, locals := 113 } : Room) s m args below meth c Q 4 58 M L [(0, .ref (wAd w 0)), (1, .long y)] []) : AtL w p l e ({ frames := 5, cells := 0, slots := 0, locals := 113 } : Room) s m args below meth c Q 4 31 M L [(0, .ref (wAd w 0)), (1, .long z.1), (3, .int z.2)] [] := by
  intro H locs ls hP hS hl
  unfold f_X8_digest_l31 at hf
  refine lv_iload_n C.1 C.2.1 dX8_digest_31 rfl (lv_at hl 2 rfl) ?_
  refine lv_bipush (v := 10) C.1 C.2.1 dX8_digest_32 (by decide) ?_
  refine lv_icmp_ge (tgt := 58) C.1 C.2.1 dX8_digest_34 (by decide) (fun c5 => ?_) (fun c5 => ?_)
  · have hf := (if_pos c5).symm.trans hf
    cases hf
    exact hE _ rfl _ _ _ hP hS (lv_sub hl [0, 1] rfl)
  · have hf := (if_neg c5).symm.trans hf
    refine lv_lload_n C.1 C.2.1 dX8_digest_37 rfl (lv_at hl 1 rfl) ?_
    refine lv_aload_n C.1 C.2.1 dX8_digest_38 rfl (lv_at hl 0 rfl) ?_
    refine k_get (v := .ref (wAd w 1)) C hP (lt_NoisePost h0_NoisePost) (ob_NoisePost h0_NoisePost w L _) rfl iX8 0 (by decide) q284 rfl dX8_digest_39 ?_
    refine k_get (v := .ref (wAd w 4)) C hP (lt_State to_NoisePost_state) (ob_State to_NoisePost_state w L _) rfl iX5 2 (by decide) q50 rfl dX8_digest_42 ?_
    refine lv_iload_n C.1 C.2.1 dX8_digest_45 rfl (lv_at hl 2 rfl) ?_
    obtain ⟨x6, hx6, hf⟩ := ob hf
    refine k_iald C hP (la_State_settings to_NoisePost_state) (ar_State_settings to_NoisePost_state w L _) hx6 dX8_digest_46 ?_
    refine lv_i2l (v := (Int32.toInt64 x6)) C.1 C.2.1 dX8_digest_47 rfl ?_
    obtain ⟨r7, hr7, hf⟩ := ob hf
    refine kcl (kS (As := [.long z.1, .long (Int32.toInt64 x6)]) (rest := []) C hl.1 hP hS (c_X8_mixed w l C.2.2.2.2.2.2.2.2 (L := L) hr7) (gS q372 q373 q1 q374) hd_X8_mixed ⟨rfl, rfl⟩ ⟨Nat.le_of_ble_eq_true rfl, Nat.le_of_ble_eq_true rfl⟩ rfl rfl (Nat.le_of_ble_eq_true rfl) dX8_digest_48 ⟨Nat.zero_le _, Nat.zero_le _⟩) hS (fun H locs hP hS => ?_)
    refine lv_lstore_n (lv' := [(1, .long r7), (0, .ref (wAd w 0)), (3, .int z.2)]) C.1 C.2.1 dX8_digest_51 rfl hl (by decide) rfl (fun ls hl => ?_)
    refine lv_iinc (v := (z.2 + 1)) (lv' := [(3, .int (z.2 + 1)), (1, .long r7), (0, .ref (wAd w 0))]) C.1 C.2.1 dX8_digest_52 hl (k := 2) rfl rfl (by decide) rfl (fun ls hl => ?_)
    refine lv_goto (tgt := 31) C.1 C.2.1 dX8_digest_55 (by decide) ?_
    cases hf
    exact hA _ rfl _ _ _ hP hS (lv_sub hl [2, 1, 0] rfl)
set_option maxHeartbeats 4000000 in
set_option maxRecDepth 100000 in
theorem c_X8_digest (w : WT) (l : Launch) (hw : WOK w) {M : Mem} {L : Lng} {out : Int64} (hf : f_X8_digest M = some out) : Met l yX8_digest (Cond.code yX8_digest cX8_digest 4 (some .long) :: BG) ({ frames := 5, cells := 0, slots := 0, locals := 113 } : Room) (PRE w [.ref (wAd w 0)] M L) (QL w out M L) 0 0 (wA w) := by
  refine kEnt hw (by decide +kernel) rfl (Nat.le_of_ble_eq_true rfl) ?_
  intro p e s m args below meth c C ls hl hP
  have hS : va_S (wA w) s.heap s.heap [] := va_S.rf
  have hl : lv_has ls 4 [(0, .ref (wAd w 0))] := hl
  unfold f_X8_digest at hf
  refine lv_ldc2 C.1 C.2.1 C.2.2.2.1 (C.2.2.2.2.1 _ q355) dX8_digest_0 ?_
  refine lv_lstore_n (lv' := [(1, .long 2161), (0, .ref (wAd w 0))]) C.1 C.2.1 dX8_digest_3 rfl hl (by decide) rfl (fun ls hl => ?_)
  refine lv_iconst (v := 0) C.1 C.2.1 dX8_digest_4 (by decide) ?_
  refine lv_istore_n (lv' := [(3, .int 0), (1, .long 2161), (0, .ref (wAd w 0))]) C.1 C.2.1 dX8_digest_5 rfl hl (by decide) rfl (fun ls hl => ?_)
  obtain ⟨o4, ho4, hf⟩ := ob hf
  refine loop_at (w_X8_digest_l6 C) FU _ o4 ho4 ?_ _ _ _ hP hS (lv_sub hl [2, 1, 0] rfl)
  intro H locs ls hP hS hl
  refine lv_iconst (v := 0) C.1 C.2.1 dX8_digest_29 (by decide) ?_
  refine lv_istore_n (lv' := [(3, .int 0), (0, .ref (wAd w 0)), (1, .long o4)]) C.1 C.2.1 dX8_digest_30 rfl hl (by decide) rfl (fun ls hl => ?_)
  obtain ⟨o8, ho8, hf⟩ := ob hf
  refine loop_at (w_X8_digest_l31 C) FU _ o8 ho8 ?_ _ _ _ hP hS (lv_sub hl [1, 2, 0] rfl)
  intro H locs ls hP hS hl
  refine lv_aload_n C.1 C.2.1 dX8_digest_58 rfl (lv_at hl 0 rfl) ?_
  refine lv_lload_n C.1 C.2.1 dX8_digest_59 rfl (lv_at hl 1 rfl) ?_
  obtain ⟨r9, hr9, hf⟩ := ob hf
  refine kcl (kV (As := [.long o8]) (rest := []) C hl.1 hP hS (c_X8_withMinutes w l C.2.2.2.2.2.2.2.2 (L := L) hr9) (gV q376 q378 qp7 q1 q379) hd_X8_withMinutes (lt_NoisePost h0_NoisePost) (ob_NoisePost h0_NoisePost w L _) rfl ⟨rfl, rfl⟩ ⟨Nat.le_of_ble_eq_true rfl, Nat.le_of_ble_eq_true rfl⟩ rfl rfl (Nat.le_of_ble_eq_true rfl) dX8_digest_60 ⟨Nat.zero_le _, Nat.zero_le _⟩) hS (fun H locs hP hS => ?_)
  refine lv_lstore_n (lv' := [(1, .long r9), (0, .ref (wAd w 0))]) C.1 C.2.1 dX8_digest_63 rfl hl (by decide) rfl (fun ls hl => ?_)
  refine lv_aload_n C.1 C.2.1 dX8_digest_64 rfl (lv_at hl 1 rfl) ?_
  refine lv_lload_n C.1 C.2.1 dX8_digest_65 rfl (lv_at hl 0 rfl) ?_
  obtain ⟨r10, hr10, hf⟩ := ob hf
  refine kcl (kV (As := [.long r9]) (rest := []) C hl.1 hP hS (c_X8_withExceedances w l C.2.2.2.2.2.2.2.2 (L := L) hr10) (gV q393 q395 qp9 q1 q396) hd_X8_withExceedances (lt_NoisePost h0_NoisePost) (ob_NoisePost h0_NoisePost w L _) rfl ⟨rfl, rfl⟩ ⟨Nat.le_of_ble_eq_true rfl, Nat.le_of_ble_eq_true rfl⟩ rfl rfl (Nat.le_of_ble_eq_true rfl) dX8_digest_66 ⟨Nat.zero_le _, Nat.zero_le _⟩) hS (fun H locs hP hS => ?_)
  refine lv_lstore_n (lv' := [(1, .long r10), (0, .ref (wAd w 0))]) C.1 C.2.1 dX8_digest_69 rfl hl (by decide) rfl (fun ls hl => ?_)
  refine lv_aload_n C.1 C.2.1 dX8_digest_70 rfl (lv_at hl 1 rfl) ?_
  refine lv_lload_n C.1 C.2.1 dX8_digest_71 rfl (lv_at hl 0 rfl) ?_
  obtain ⟨r11, hr11, hf⟩ := ob hf
  refine kcl (kV (As := [.long r10]) (rest := []) C hl.1 hP hS (c_X8_withComplaints w l C.2.2.2.2.2.2.2.2 (L := L) hr11) (gV q401 q403 qp11 q1 q404) hd_X8_withComplaints (lt_NoisePost h0_NoisePost) (ob_NoisePost h0_NoisePost w L _) rfl ⟨rfl, rfl⟩ ⟨Nat.le_of_ble_eq_true rfl, Nat.le_of_ble_eq_true rfl⟩ rfl rfl (Nat.le_of_ble_eq_true rfl) dX8_digest_72 ⟨Nat.zero_le _, Nat.zero_le _⟩) hS (fun H locs hP hS => ?_)
  refine lv_lstore_n (lv' := [(1, .long r11), (0, .ref (wAd w 0))]) C.1 C.2.1 dX8_digest_75 rfl hl (by decide) rfl (fun ls hl => ?_)
  refine lv_aload_n C.1 C.2.1 dX8_digest_76 rfl (lv_at hl 1 rfl) ?_
  refine lv_lload_n C.1 C.2.1 dX8_digest_77 rfl (lv_at hl 0 rfl) ?_
  obtain ⟨r12, hr12, hf⟩ := ob hf
  refine kcl (kV (As := [.long r11]) (rest := []) C hl.1 hP hS (c_X8_withLevels w l C.2.2.2.2.2.2.2.2 (L := L) hr12) (gV q409 q411 qp13 q1 q412) hd_X8_withLevels (lt_NoisePost h0_NoisePost) (ob_NoisePost h0_NoisePost w L _) rfl ⟨rfl, rfl⟩ ⟨Nat.le_of_ble_eq_true rfl, Nat.le_of_ble_eq_true rfl⟩ rfl rfl (Nat.le_of_ble_eq_true rfl) dX8_digest_78 ⟨Nat.zero_le _, Nat.zero_le _⟩) hS (fun H locs hP hS => ?_)
  refine lv_lstore_n (lv' := [(1, .long r12), (0, .ref (wAd w 0))]) C.1 C.2.1 dX8_digest_81 rfl hl (by decide) rfl (fun ls hl => ?_)
  refine lv_lload_n C.1 C.2.1 dX8_digest_82 rfl (lv_at hl 0 rfl) ?_
  refine lv_aload_n C.1 C.2.1 dX8_digest_83 rfl (lv_at hl 1 rfl) ?_
  refine k_get (v := .ref (wAd w 54)) C hP (lt_NoisePost h0_NoisePost) (ob_NoisePost h0_NoisePost w L _) rfl iX8 3 (by decide) q287 rfl dX8_digest_84 ?_
  refine lv_iconst (v := 1) C.1 C.2.1 dX8_digest_87 (by decide) ?_
  obtain ⟨r13, hr13, hf⟩ := ob hf
  refine kci (kV (As := [.int 1]) (rest := [.long r12]) C hl.1 hP hS (c_X7_leastLimitFor w l C.2.2.2.2.2.2.2.2 to_NoisePost_now (L := L) hr13) (gV q417 q418 q419 q5 q420) hd_X7_leastLimitFor (lt_View to_NoisePost_now) (ob_View to_NoisePost_now w L _) rfl ⟨rfl, rfl⟩ ⟨Nat.le_of_ble_eq_true rfl, Nat.le_of_ble_eq_true rfl⟩ rfl rfl (Nat.le_of_ble_eq_true rfl) dX8_digest_88 ⟨Nat.zero_le _, Nat.zero_le _⟩) hS (fun H locs hP hS => ?_)
  refine lv_i2l (v := (Int32.toInt64 r13)) C.1 C.2.1 dX8_digest_91 rfl ?_
  obtain ⟨r14, hr14, hf⟩ := ob hf
  refine kcl (kS (As := [.long r12, .long (Int32.toInt64 r13)]) (rest := []) C hl.1 hP hS (c_X8_mixed w l C.2.2.2.2.2.2.2.2 (L := L) hr14) (gS q372 q373 q1 q374) hd_X8_mixed ⟨rfl, rfl⟩ ⟨Nat.le_of_ble_eq_true rfl, Nat.le_of_ble_eq_true rfl⟩ rfl rfl (Nat.le_of_ble_eq_true rfl) dX8_digest_92 ⟨Nat.zero_le _, Nat.zero_le _⟩) hS (fun H locs hP hS => ?_)
  refine lv_lstore_n (lv' := [(1, .long r14), (0, .ref (wAd w 0))]) C.1 C.2.1 dX8_digest_95 rfl hl (by decide) rfl (fun ls hl => ?_)
  refine lv_lload_n C.1 C.2.1 dX8_digest_96 rfl (lv_at hl 0 rfl) ?_
  refine lv_aload_n C.1 C.2.1 dX8_digest_97 rfl (lv_at hl 1 rfl) ?_
  refine k_get (v := .ref (wAd w 54)) C hP (lt_NoisePost h0_NoisePost) (ob_NoisePost h0_NoisePost w L _) rfl iX8 3 (by decide) q287 rfl dX8_digest_98 ?_
  refine lv_bipush (v := 80) C.1 C.2.1 dX8_digest_101 (by decide) ?_
  obtain ⟨r15, hr15, hf⟩ := ob hf
  refine kci (kV (As := [.int 80]) (rest := [.long r14]) C hl.1 hP hS (c_X7_minutesUntilAbove w l C.2.2.2.2.2.2.2.2 to_NoisePost_now (L := L) hr15) (gV q434 q435 q436 q5 q437) hd_X7_minutesUntilAbove (lt_View to_NoisePost_now) (ob_View to_NoisePost_now w L _) rfl ⟨rfl, rfl⟩ ⟨Nat.le_of_ble_eq_true rfl, Nat.le_of_ble_eq_true rfl⟩ rfl rfl (Nat.le_of_ble_eq_true rfl) dX8_digest_103 ⟨Nat.zero_le _, Nat.zero_le _⟩) hS (fun H locs hP hS => ?_)
  refine lv_i2l (v := (Int32.toInt64 r15)) C.1 C.2.1 dX8_digest_106 rfl ?_
  obtain ⟨r16, hr16, hf⟩ := ob hf
  refine kcl (kS (As := [.long r14, .long (Int32.toInt64 r15)]) (rest := []) C hl.1 hP hS (c_X8_mixed w l C.2.2.2.2.2.2.2.2 (L := L) hr16) (gS q372 q373 q1 q374) hd_X8_mixed ⟨rfl, rfl⟩ ⟨Nat.le_of_ble_eq_true rfl, Nat.le_of_ble_eq_true rfl⟩ rfl rfl (Nat.le_of_ble_eq_true rfl) dX8_digest_107 ⟨Nat.zero_le _, Nat.zero_le _⟩) hS (fun H locs hP hS => ?_)
  refine lv_lstore_n (lv' := [(1, .long r16), (0, .ref (wAd w 0))]) C.1 C.2.1 dX8_digest_110 rfl hl (by decide) rfl (fun ls hl => ?_)
  refine lv_lload_n C.1 C.2.1 dX8_digest_111 rfl (lv_at hl 0 rfl) ?_
  refine lv_aload_n C.1 C.2.1 dX8_digest_112 rfl (lv_at hl 1 rfl) ?_
  refine k_get (v := .ref (wAd w 54)) C hP (lt_NoisePost h0_NoisePost) (ob_NoisePost h0_NoisePost w L _) rfl iX8 3 (by decide) q287 rfl dX8_digest_113 ?_
  refine k_get (v := .ref (wAd w 56)) C hP (lt_View to_NoisePost_now) (ob_View to_NoisePost_now w L _) rfl iX7 1 (by decide) q259 rfl dX8_digest_116 ?_
  obtain ⟨r17, hr17, hf⟩ := ob hf
  refine kcd (kV (As := []) (rest := [.long r16]) C hl.1 hP hS (c_X4_shareAbove w l C.2.2.2.2.2.2.2.2 (to_View_minutes to_NoisePost_now) (L := L) hr17) (gV q347 q348 q349 q6 q350) hd_X4_shareAbove (lt_Minutes (to_View_minutes to_NoisePost_now)) (ob_Minutes (to_View_minutes to_NoisePost_now) w L _) rfl ⟨rfl, rfl⟩ ⟨Nat.le_of_ble_eq_true rfl, Nat.le_of_ble_eq_true rfl⟩ rfl rfl (Nat.le_of_ble_eq_true rfl) dX8_digest_119 ⟨Nat.zero_le _, Nat.zero_le _⟩) hS (fun H locs hP hS => ?_)
  obtain ⟨r18, hr18, hf⟩ := ob hf
  refine kcl (kS (As := [.double r17]) (rest := [.long r16]) C hl.1 hP hS (c_X8_bitsOf w l C.2.2.2.2.2.2.2.2 (L := L) hr18) (gS q450 q451 q1 q452) hd_X8_bitsOf ⟨rfl, rfl⟩ ⟨Nat.le_of_ble_eq_true rfl, Nat.le_of_ble_eq_true rfl⟩ rfl rfl (Nat.le_of_ble_eq_true rfl) dX8_digest_122 ⟨Nat.zero_le _, Nat.zero_le _⟩) hS (fun H locs hP hS => ?_)
  obtain ⟨r19, hr19, hf⟩ := ob hf
  refine kcl (kS (As := [.long r16, .long r18]) (rest := []) C hl.1 hP hS (c_X8_mixed w l C.2.2.2.2.2.2.2.2 (L := L) hr19) (gS q372 q373 q1 q374) hd_X8_mixed ⟨rfl, rfl⟩ ⟨Nat.le_of_ble_eq_true rfl, Nat.le_of_ble_eq_true rfl⟩ rfl rfl (Nat.le_of_ble_eq_true rfl) dX8_digest_125 ⟨Nat.zero_le _, Nat.zero_le _⟩) hS (fun H locs hP hS => ?_)
  refine lv_lstore_n (lv' := [(1, .long r19), (0, .ref (wAd w 0))]) C.1 C.2.1 dX8_digest_128 rfl hl (by decide) rfl (fun ls hl => ?_)
  refine lv_aload_n C.1 C.2.1 dX8_digest_129 rfl (lv_at hl 1 rfl) ?_
  refine lv_lload_n C.1 C.2.1 dX8_digest_130 rfl (lv_at hl 0 rfl) ?_
  obtain ⟨r20, hr20, hf⟩ := ob hf
  refine kcl (kV (As := [.long r19]) (rest := []) C hl.1 hP hS (c_X8_withBuffer w l C.2.2.2.2.2.2.2.2 (L := L) hr20) (gV q456 q458 qp16 q1 q459) hd_X8_withBuffer (lt_NoisePost h0_NoisePost) (ob_NoisePost h0_NoisePost w L _) rfl ⟨rfl, rfl⟩ ⟨Nat.le_of_ble_eq_true rfl, Nat.le_of_ble_eq_true rfl⟩ rfl rfl (Nat.le_of_ble_eq_true rfl) dX8_digest_131 ⟨Nat.zero_le _, Nat.zero_le _⟩) hS (fun H locs hP hS => ?_)
  cases hf
  exact krl C hP hS dX8_digest_134
theorem dX9_thrown_0 : decode cX9_thrown 0 = .ok (.aload_n 0, 1) := by decide +kernel
theorem dX9_thrown_1 : decode cX9_thrown 1 = .ok (.getfield 61, 3) := by decide +kernel
theorem dX9_thrown_4 : decode cX9_thrown 4 = .ok (.ireturn, 1) := by decide +kernel
set_option maxHeartbeats 4000000 in
set_option maxRecDepth 100000 in
theorem c_X9_thrown (w : WT) (l : Launch) (hw : WOK w) {M : Mem} {L : Lng} {out : Int32} (hf : f_X9_thrown M = some out) : Met l yX9_thrown (Cond.code yX9_thrown cX9_thrown 1 (some .int) :: BG) ({ frames := 0, cells := 0, slots := 0, locals := 0 } : Room) (PRE w [.ref (wAd w 90)] M L) (QI w out M L) 0 0 (wA w) := by
  refine kEnt hw (by decide +kernel) rfl (Nat.le_of_ble_eq_true rfl) ?_
  intro p e s m args below meth c C ls hl hP
  have hS : va_S (wA w) s.heap s.heap [] := va_S.rf
  have hl : lv_has ls 1 [(0, .ref (wAd w 90))] := hl
  unfold f_X9_thrown at hf
  refine lv_aload_n C.1 C.2.1 dX9_thrown_0 rfl (lv_at hl 0 rfl) ?_
  refine k_get (v := .int (M 90 0)) C hP (lt_Model h0_Model) (ob_Model h0_Model w L _) rfl iX9 0 (by decide) q863 rfl dX9_thrown_1 ?_
  cases hf
  exact kri C hP hS dX9_thrown_4
theorem dX9_within_0 : decode cX9_within 0 = .ok (.iload_n 0, 1) := by decide +kernel
theorem dX9_within_1 : decode cX9_within 1 = .ok (.iload_n 1, 1) := by decide +kernel
theorem dX9_within_2 : decode cX9_within 2 = .ok (.if_icmp .lt 12, 3) := by decide +kernel
theorem dX9_within_5 : decode cX9_within 5 = .ok (.iload_n 0, 1) := by decide +kernel
theorem dX9_within_6 : decode cX9_within 6 = .ok (.iload_n 2, 1) := by decide +kernel
theorem dX9_within_7 : decode cX9_within 7 = .ok (.if_icmp .gt 7, 3) := by decide +kernel
theorem dX9_within_10 : decode cX9_within 10 = .ok (.iconst 1, 1) := by decide +kernel
theorem dX9_within_11 : decode cX9_within 11 = .ok (.goto 4, 3) := by decide +kernel
theorem dX9_within_14 : decode cX9_within 14 = .ok (.iconst 0, 1) := by decide +kernel
theorem dX9_within_15 : decode cX9_within 15 = .ok (.ireturn, 1) := by decide +kernel
set_option maxHeartbeats 4000000 in
set_option maxRecDepth 100000 in
theorem c_X9_within (w : WT) (l : Launch) (hw : WOK w) {a0 : Int32} {a1 : Int32} {a2 : Int32} {M : Mem} {L : Lng} {out : Int32} (hf : f_X9_within a0 a1 a2 M = some out) : Met l yX9_within (Cond.code yX9_within cX9_within 3 (some .boolean) :: BG) ({ frames := 0, cells := 0, slots := 0, locals := 0 } : Room) (PRE w [.int a0, .int a1, .int a2] M L) (QI w out M L) 0 0 (wA w) := by
  refine kEnt hw (by decide +kernel) rfl (Nat.le_of_ble_eq_true rfl) ?_
  intro p e s m args below meth c C ls hl hP
  have hS : va_S (wA w) s.heap s.heap [] := va_S.rf
  have hl : lv_has ls 3 [(0, .int a0), (1, .int a1), (2, .int a2)] := hl
  unfold f_X9_within at hf
  refine lv_iload_n C.1 C.2.1 dX9_within_0 rfl (lv_at hl 0 rfl) ?_
  refine lv_iload_n C.1 C.2.1 dX9_within_1 rfl (lv_at hl 1 rfl) ?_
  refine lv_icmp_lt (tgt := 14) C.1 C.2.1 dX9_within_2 (by decide) (fun c1 => ?_) (fun c1 => ?_)
  · have hf := (if_pos c1).symm.trans hf
    refine lv_iconst (v := 0) C.1 C.2.1 dX9_within_14 (by decide) ?_
    cases hf
    exact krz C hP hS bz0 dX9_within_15
  · have hf := (if_neg c1).symm.trans hf
    refine lv_iload_n C.1 C.2.1 dX9_within_5 rfl (lv_at hl 0 rfl) ?_
    refine lv_iload_n C.1 C.2.1 dX9_within_6 rfl (lv_at hl 2 rfl) ?_
    refine lv_icmp_gt (tgt := 14) C.1 C.2.1 dX9_within_7 (by decide) (fun c2 => ?_) (fun c2 => ?_)
    · have hf := (if_pos c2).symm.trans hf
      refine lv_iconst (v := 0) C.1 C.2.1 dX9_within_14 (by decide) ?_
      cases hf
      exact krz C hP hS bz0 dX9_within_15
    · have hf := (if_neg c2).symm.trans hf
      refine lv_iconst (v := 1) C.1 C.2.1 dX9_within_10 (by decide) ?_
      refine lv_goto (tgt := 15) C.1 C.2.1 dX9_within_11 (by decide) ?_
      cases hf
      exact krz C hP hS bz1 dX9_within_15
theorem dX9_of_0 : decode cX9_of 0 = .ok (.aload_n 0, 1) := by decide +kernel
theorem dX9_of_1 : decode cX9_of 1 = .ok (.getfield 7, 3) := by decide +kernel
theorem dX9_of_4 : decode cX9_of 4 = .ok (.sipush 401, 3) := by decide +kernel
theorem dX9_of_7 : decode cX9_of 7 = .ok (.iload_n 1, 1) := by decide +kernel
theorem dX9_of_8 : decode cX9_of 8 = .ok (.iadd, 1) := by decide +kernel
theorem dX9_of_9 : decode cX9_of 9 = .ok (.iaload, 1) := by decide +kernel
theorem dX9_of_10 : decode cX9_of 10 = .ok (.ireturn, 1) := by decide +kernel
set_option maxHeartbeats 4000000 in
set_option maxRecDepth 100000 in
theorem c_X9_of (w : WT) (l : Launch) (hw : WOK w) {a1 : Int32} {M : Mem} {L : Lng} {out : Int32} (hf : f_X9_of a1 M = some out) : Met l yX9_of (Cond.code yX9_of cX9_of 2 (some .int) :: BG) ({ frames := 0, cells := 0, slots := 0, locals := 0 } : Room) (PRE w [.ref (wAd w 90), .int a1] M L) (QI w out M L) 0 0 (wA w) := by
  refine kEnt hw (by decide +kernel) rfl (Nat.le_of_ble_eq_true rfl) ?_
  intro p e s m args below meth c C ls hl hP
  have hS : va_S (wA w) s.heap s.heap [] := va_S.rf
  have hl : lv_has ls 2 [(0, .ref (wAd w 90)), (1, .int a1)] := hl
  unfold f_X9_of at hf
  refine lv_aload_n C.1 C.2.1 dX9_of_0 rfl (lv_at hl 0 rfl) ?_
  refine k_get (v := .ref (wAd w 91)) C hP (lt_Model h0_Model) (ob_Model h0_Model w L _) rfl iX9 1 (by decide) q864 rfl dX9_of_1 ?_
  refine lv_sipush (v := 401) C.1 C.2.1 dX9_of_4 (by decide) ?_
  refine lv_iload_n C.1 C.2.1 dX9_of_7 rfl (lv_at hl 1 rfl) ?_
  refine lv_iadd C.1 C.2.1 dX9_of_8 ?_
  obtain ⟨x1, hx1, hf⟩ := ob hf
  refine k_iald C hP (la_Model_z h0_Model) (ar_Model_z h0_Model w L _) hx1 dX9_of_9 ?_
  cases hf
  exact kri C hP hS dX9_of_10
theorem dX9_isMinute_0 : decode cX9_isMinute 0 = .ok (.iload_n 1, 1) := by decide +kernel
theorem dX9_isMinute_1 : decode cX9_isMinute 1 = .ok (.iconst 0, 1) := by decide +kernel
theorem dX9_isMinute_2 : decode cX9_isMinute 2 = .ok (.aload_n 0, 1) := by decide +kernel
theorem dX9_isMinute_3 : decode cX9_isMinute 3 = .ok (.getfield 7, 3) := by decide +kernel
theorem dX9_isMinute_6 : decode cX9_isMinute 6 = .ok (.iconst 0, 1) := by decide +kernel
theorem dX9_isMinute_7 : decode cX9_isMinute 7 = .ok (.iaload, 1) := by decide +kernel
theorem dX9_isMinute_8 : decode cX9_isMinute 8 = .ok (.iconst 1, 1) := by decide +kernel
theorem dX9_isMinute_9 : decode cX9_isMinute 9 = .ok (.isub, 1) := by decide +kernel
theorem dX9_isMinute_10 : decode cX9_isMinute 10 = .ok (.invokestatic 65, 3) := by decide +kernel
theorem dX9_isMinute_13 : decode cX9_isMinute 13 = .ok (.ireturn, 1) := by decide +kernel
set_option maxHeartbeats 4000000 in
set_option maxRecDepth 100000 in
theorem c_X9_isMinute (w : WT) (l : Launch) (hw : WOK w) {a1 : Int32} {M : Mem} {L : Lng} {out : Int32} (hf : f_X9_isMinute a1 M = some out) : Met l yX9_isMinute (Cond.code yX9_isMinute cX9_isMinute 2 (some .boolean) :: BG) ({ frames := 1, cells := 0, slots := 0, locals := 22 } : Room) (PRE w [.ref (wAd w 90), .int a1] M L) (QI w out M L) 0 0 (wA w) := by
  refine kEnt hw (by decide +kernel) rfl (Nat.le_of_ble_eq_true rfl) ?_
  intro p e s m args below meth c C ls hl hP
  have hS : va_S (wA w) s.heap s.heap [] := va_S.rf
  have hl : lv_has ls 2 [(0, .ref (wAd w 90)), (1, .int a1)] := hl
  unfold f_X9_isMinute at hf
  refine lv_iload_n C.1 C.2.1 dX9_isMinute_0 rfl (lv_at hl 1 rfl) ?_
  refine lv_iconst (v := 0) C.1 C.2.1 dX9_isMinute_1 (by decide) ?_
  refine lv_aload_n C.1 C.2.1 dX9_isMinute_2 rfl (lv_at hl 0 rfl) ?_
  refine k_get (v := .ref (wAd w 91)) C hP (lt_Model h0_Model) (ob_Model h0_Model w L _) rfl iX9 1 (by decide) q864 rfl dX9_isMinute_3 ?_
  refine lv_iconst (v := 0) C.1 C.2.1 dX9_isMinute_6 (by decide) ?_
  obtain ⟨x1, hx1, hf⟩ := ob hf
  refine k_iald C hP (la_Model_z h0_Model) (ar_Model_z h0_Model w L _) hx1 dX9_isMinute_7 ?_
  refine lv_iconst (v := 1) C.1 C.2.1 dX9_isMinute_8 (by decide) ?_
  refine lv_isub C.1 C.2.1 dX9_isMinute_9 ?_
  obtain ⟨r2, hr2, hf⟩ := ob hf
  refine kci (kS (As := [.int a1, .int 0, .int (x1 - 1)]) (rest := []) C hl.1 hP hS (c_X9_within w l C.2.2.2.2.2.2.2.2 (L := L) hr2) (gS q963 q964 q10 q965) hd_X9_within ⟨rfl, rfl⟩ ⟨Nat.le_of_ble_eq_true rfl, Nat.le_of_ble_eq_true rfl⟩ rfl rfl (Nat.le_of_ble_eq_true rfl) dX9_isMinute_10 ⟨Nat.zero_le _, Nat.zero_le _⟩) hS (fun H locs hP hS => ?_)
  obtain ⟨x3, hx3, hf⟩ := ob hf
  cases hf
  exact krz C hP hS hx3 dX9_isMinute_13
theorem dX9_isRest_0 : decode cX9_isRest 0 = .ok (.iload_n 1, 1) := by decide +kernel
theorem dX9_isRest_1 : decode cX9_isRest 1 = .ok (.aload_n 0, 1) := by decide +kernel
theorem dX9_isRest_2 : decode cX9_isRest 2 = .ok (.iconst 2, 1) := by decide +kernel
theorem dX9_isRest_3 : decode cX9_isRest 3 = .ok (.invokevirtual 69, 3) := by decide +kernel
theorem dX9_isRest_6 : decode cX9_isRest 6 = .ok (.isub, 1) := by decide +kernel
theorem dX9_isRest_7 : decode cX9_isRest 7 = .ok (.bipush 60, 2) := by decide +kernel
theorem dX9_isRest_9 : decode cX9_isRest 9 = .ok (.iadd, 1) := by decide +kernel
theorem dX9_isRest_10 : decode cX9_isRest 10 = .ok (.bipush 60, 2) := by decide +kernel
theorem dX9_isRest_12 : decode cX9_isRest 12 = .ok (.irem, 1) := by decide +kernel
theorem dX9_isRest_13 : decode cX9_isRest 13 = .ok (.aload_n 0, 1) := by decide +kernel
theorem dX9_isRest_14 : decode cX9_isRest 14 = .ok (.iconst 3, 1) := by decide +kernel
theorem dX9_isRest_15 : decode cX9_isRest 15 = .ok (.invokevirtual 69, 3) := by decide +kernel
theorem dX9_isRest_18 : decode cX9_isRest 18 = .ok (.if_icmp .ge 7, 3) := by decide +kernel
theorem dX9_isRest_21 : decode cX9_isRest 21 = .ok (.iconst 1, 1) := by decide +kernel
theorem dX9_isRest_22 : decode cX9_isRest 22 = .ok (.goto 4, 3) := by decide +kernel
theorem dX9_isRest_25 : decode cX9_isRest 25 = .ok (.iconst 0, 1) := by decide +kernel
theorem dX9_isRest_26 : decode cX9_isRest 26 = .ok (.ireturn, 1) := by decide +kernel
set_option maxHeartbeats 4000000 in
set_option maxRecDepth 100000 in
theorem c_X9_isRest (w : WT) (l : Launch) (hw : WOK w) {a1 : Int32} {M : Mem} {L : Lng} {out : Int32} (hf : f_X9_isRest a1 M = some out) : Met l yX9_isRest (Cond.code yX9_isRest cX9_isRest 2 (some .boolean) :: BG) ({ frames := 1, cells := 0, slots := 0, locals := 21 } : Room) (PRE w [.ref (wAd w 90), .int a1] M L) (QI w out M L) 0 0 (wA w) := by
  refine kEnt hw (by decide +kernel) rfl (Nat.le_of_ble_eq_true rfl) ?_
  intro p e s m args below meth c C ls hl hP
  have hS : va_S (wA w) s.heap s.heap [] := va_S.rf
  have hl : lv_has ls 2 [(0, .ref (wAd w 90)), (1, .int a1)] := hl
  unfold f_X9_isRest at hf
  refine lv_iload_n C.1 C.2.1 dX9_isRest_0 rfl (lv_at hl 1 rfl) ?_
  refine lv_aload_n C.1 C.2.1 dX9_isRest_1 rfl (lv_at hl 0 rfl) ?_
  refine lv_iconst (v := 2) C.1 C.2.1 dX9_isRest_2 (by decide) ?_
  obtain ⟨r1, hr1, hf⟩ := ob hf
  refine kci (kV (As := [.int 2]) (rest := [.int a1]) C hl.1 hP hS (c_X9_of w l C.2.2.2.2.2.2.2.2 (L := L) hr1) (gV q973 q975 qp25 q10 q976) hd_X9_of (lt_Model h0_Model) (ob_Model h0_Model w L _) rfl ⟨rfl, rfl⟩ ⟨Nat.le_of_ble_eq_true rfl, Nat.le_of_ble_eq_true rfl⟩ rfl rfl (Nat.le_of_ble_eq_true rfl) dX9_isRest_3 ⟨Nat.zero_le _, Nat.zero_le _⟩) hS (fun H locs hP hS => ?_)
  refine lv_isub C.1 C.2.1 dX9_isRest_6 ?_
  refine lv_bipush (v := 60) C.1 C.2.1 dX9_isRest_7 (by decide) ?_
  refine lv_iadd C.1 C.2.1 dX9_isRest_9 ?_
  refine lv_bipush (v := 60) C.1 C.2.1 dX9_isRest_10 (by decide) ?_
  obtain ⟨x2, hx2, hf⟩ := ob hf
  refine k_irem C hx2 dX9_isRest_12 ?_
  refine lv_aload_n C.1 C.2.1 dX9_isRest_13 rfl (lv_at hl 0 rfl) ?_
  refine lv_iconst (v := 3) C.1 C.2.1 dX9_isRest_14 (by decide) ?_
  obtain ⟨r3, hr3, hf⟩ := ob hf
  refine kci (kV (As := [.int 3]) (rest := [.int x2]) C hl.1 hP hS (c_X9_of w l C.2.2.2.2.2.2.2.2 (L := L) hr3) (gV q973 q975 qp25 q10 q976) hd_X9_of (lt_Model h0_Model) (ob_Model h0_Model w L _) rfl ⟨rfl, rfl⟩ ⟨Nat.le_of_ble_eq_true rfl, Nat.le_of_ble_eq_true rfl⟩ rfl rfl (Nat.le_of_ble_eq_true rfl) dX9_isRest_15 ⟨Nat.zero_le _, Nat.zero_le _⟩) hS (fun H locs hP hS => ?_)
  refine lv_icmp_ge (tgt := 25) C.1 C.2.1 dX9_isRest_18 (by decide) (fun c4 => ?_) (fun c4 => ?_)
  · have hf := (if_pos c4).symm.trans hf
    refine lv_iconst (v := 0) C.1 C.2.1 dX9_isRest_25 (by decide) ?_
    cases hf
    exact krz C hP hS bz0 dX9_isRest_26
  · have hf := (if_neg c4).symm.trans hf
    refine lv_iconst (v := 1) C.1 C.2.1 dX9_isRest_21 (by decide) ?_
    refine lv_goto (tgt := 26) C.1 C.2.1 dX9_isRest_22 (by decide) ?_
    cases hf
    exact krz C hP hS bz1 dX9_isRest_26
theorem dX9_limitOf_0 : decode cX9_limitOf 0 = .ok (.aload_n 0, 1) := by decide +kernel
theorem dX9_limitOf_1 : decode cX9_limitOf 1 = .ok (.aload_n 0, 1) := by decide +kernel
theorem dX9_limitOf_2 : decode cX9_limitOf 2 = .ok (.iload_n 1, 1) := by decide +kernel
theorem dX9_limitOf_3 : decode cX9_limitOf 3 = .ok (.invokevirtual 73, 3) := by decide +kernel
theorem dX9_limitOf_6 : decode cX9_limitOf 6 = .ok (.ifCond .eq 7, 3) := by decide +kernel
theorem dX9_limitOf_9 : decode cX9_limitOf 9 = .ok (.iconst 1, 1) := by decide +kernel
theorem dX9_limitOf_10 : decode cX9_limitOf 10 = .ok (.goto 4, 3) := by decide +kernel
theorem dX9_limitOf_13 : decode cX9_limitOf 13 = .ok (.iconst 0, 1) := by decide +kernel
theorem dX9_limitOf_14 : decode cX9_limitOf 14 = .ok (.invokevirtual 69, 3) := by decide +kernel
theorem dX9_limitOf_17 : decode cX9_limitOf 17 = .ok (.ireturn, 1) := by decide +kernel
set_option maxHeartbeats 4000000 in
set_option maxRecDepth 100000 in
theorem w_X9_limitOf_j14 {w : WT} {l : Launch} {p : Program} {e : Env} {s : State} {m : MethodId} {args : Array Value} {below : List Frame} {meth : Method} {c : Code} (C : KC w p s m args meth c cX9_limitOf 2 RX9 (some .int)) {s1 : Int32} {M : Mem} {L : Lng} {out : Int32} (hf : f_X9_limitOf_j14 s1 M = some out) : AtL w p l e ({ frames := 2, cells := 0, slots := 0, locals := 42 } : Room) s m args below meth c (MQ below (QI w out M L) args s 0 0 (wA w)) 2 14 M L [] [.int s1, .ref (wAd w 90)] := by
  intro H locs ls hP hS hl
  unfold f_X9_limitOf_j14 at hf
  obtain ⟨r3, hr3, hf⟩ := ob hf
  refine kci (kV (As := [.int s1]) (rest := []) C hl.1 hP hS (c_X9_of w l C.2.2.2.2.2.2.2.2 (L := L) hr3) (gV q973 q975 qp25 q10 q976) hd_X9_of (lt_Model h0_Model) (ob_Model h0_Model w L _) rfl ⟨rfl, rfl⟩ ⟨Nat.le_of_ble_eq_true rfl, Nat.le_of_ble_eq_true rfl⟩ rfl rfl (Nat.le_of_ble_eq_true rfl) dX9_limitOf_14 ⟨Nat.zero_le _, Nat.zero_le _⟩) hS (fun H locs hP hS => ?_)
  cases hf
  exact kri C hP hS dX9_limitOf_17
set_option maxHeartbeats 4000000 in
set_option maxRecDepth 100000 in
theorem c_X9_limitOf (w : WT) (l : Launch) (hw : WOK w) {a1 : Int32} {M : Mem} {L : Lng} {out : Int32} (hf : f_X9_limitOf a1 M = some out) : Met l yX9_limitOf (Cond.code yX9_limitOf cX9_limitOf 2 (some .int) :: BG) ({ frames := 2, cells := 0, slots := 0, locals := 42 } : Room) (PRE w [.ref (wAd w 90), .int a1] M L) (QI w out M L) 0 0 (wA w) := by
  refine kEnt hw (by decide +kernel) rfl (Nat.le_of_ble_eq_true rfl) ?_
  intro p e s m args below meth c C ls hl hP
  have hS : va_S (wA w) s.heap s.heap [] := va_S.rf
  have hl : lv_has ls 2 [(0, .ref (wAd w 90)), (1, .int a1)] := hl
  unfold f_X9_limitOf at hf
  refine lv_aload_n C.1 C.2.1 dX9_limitOf_0 rfl (lv_at hl 0 rfl) ?_
  refine lv_aload_n C.1 C.2.1 dX9_limitOf_1 rfl (lv_at hl 0 rfl) ?_
  refine lv_iload_n C.1 C.2.1 dX9_limitOf_2 rfl (lv_at hl 1 rfl) ?_
  obtain ⟨r1, hr1, hf⟩ := ob hf
  refine kci (kV (As := [.int a1]) (rest := [.ref (wAd w 90)]) C hl.1 hP hS (c_X9_isRest w l C.2.2.2.2.2.2.2.2 (L := L) hr1) (gV q1016 q1018 qp33 q10 q1019) hd_X9_isRest (lt_Model h0_Model) (ob_Model h0_Model w L _) rfl ⟨rfl, rfl⟩ ⟨Nat.le_of_ble_eq_true rfl, Nat.le_of_ble_eq_true rfl⟩ rfl rfl (Nat.le_of_ble_eq_true rfl) dX9_limitOf_3 ⟨Nat.zero_le _, Nat.zero_le _⟩) hS (fun H locs hP hS => ?_)
  refine lv_if_eq (tgt := 13) C.1 C.2.1 dX9_limitOf_6 (by decide) (fun c2 => ?_) (fun c2 => ?_)
  · have hf := (if_pos c2).symm.trans hf
    refine lv_iconst (v := 0) C.1 C.2.1 dX9_limitOf_13 (by decide) ?_
    exact w_X9_limitOf_j14 C hf _ _ _ hP hS (lv_sub hl [] rfl)
  · have hf := (if_neg c2).symm.trans hf
    refine lv_iconst (v := 1) C.1 C.2.1 dX9_limitOf_9 (by decide) ?_
    refine lv_goto (tgt := 14) C.1 C.2.1 dX9_limitOf_10 (by decide) ?_
    exact w_X9_limitOf_j14 C hf _ _ _ hP hS (lv_sub hl [] rfl)
theorem dX9_whyNot_0 : decode cX9_whyNot 0 = .ok (.aload_n 0, 1) := by decide +kernel
theorem dX9_whyNot_1 : decode cX9_whyNot 1 = .ok (.getfield 22, 3) := by decide +kernel
theorem dX9_whyNot_4 : decode cX9_whyNot 4 = .ok (.iload_n 1, 1) := by decide +kernel
theorem dX9_whyNot_5 : decode cX9_whyNot 5 = .ok (.iaload, 1) := by decide +kernel
theorem dX9_whyNot_6 : decode cX9_whyNot 6 = .ok (.aload_n 0, 1) := by decide +kernel
theorem dX9_whyNot_7 : decode cX9_whyNot 7 = .ok (.iconst 4, 1) := by decide +kernel
theorem dX9_whyNot_8 : decode cX9_whyNot 8 = .ok (.invokevirtual 69, 3) := by decide +kernel
theorem dX9_whyNot_11 : decode cX9_whyNot 11 = .ok (.if_icmp .lt 5, 3) := by decide +kernel
theorem dX9_whyNot_14 : decode cX9_whyNot 14 = .ok (.iconst 1, 1) := by decide +kernel
theorem dX9_whyNot_15 : decode cX9_whyNot 15 = .ok (.ireturn, 1) := by decide +kernel
theorem dX9_whyNot_16 : decode cX9_whyNot 16 = .ok (.iload_n 1, 1) := by decide +kernel
theorem dX9_whyNot_17 : decode cX9_whyNot 17 = .ok (.iconst 1, 1) := by decide +kernel
theorem dX9_whyNot_18 : decode cX9_whyNot 18 = .ok (.isub, 1) := by decide +kernel
theorem dX9_whyNot_19 : decode cX9_whyNot 19 = .ok (.istore_n 2, 1) := by decide +kernel
theorem dX9_whyNot_20 : decode cX9_whyNot 20 = .ok (.iload_n 2, 1) := by decide +kernel
theorem dX9_whyNot_21 : decode cX9_whyNot 21 = .ok (.ifCond .lt 36, 3) := by decide +kernel
theorem dX9_whyNot_24 : decode cX9_whyNot 24 = .ok (.iload_n 2, 1) := by decide +kernel
theorem dX9_whyNot_25 : decode cX9_whyNot 25 = .ok (.iload_n 1, 1) := by decide +kernel
theorem dX9_whyNot_26 : decode cX9_whyNot 26 = .ok (.aload_n 0, 1) := by decide +kernel
theorem dX9_whyNot_27 : decode cX9_whyNot 27 = .ok (.iconst 5, 1) := by decide +kernel
theorem dX9_whyNot_28 : decode cX9_whyNot 28 = .ok (.invokevirtual 69, 3) := by decide +kernel
theorem dX9_whyNot_31 : decode cX9_whyNot 31 = .ok (.isub, 1) := by decide +kernel
theorem dX9_whyNot_32 : decode cX9_whyNot 32 = .ok (.if_icmp .lt 25, 3) := by decide +kernel
theorem dX9_whyNot_35 : decode cX9_whyNot 35 = .ok (.aload_n 0, 1) := by decide +kernel
theorem dX9_whyNot_36 : decode cX9_whyNot 36 = .ok (.getfield 22, 3) := by decide +kernel
theorem dX9_whyNot_39 : decode cX9_whyNot 39 = .ok (.iload_n 2, 1) := by decide +kernel
theorem dX9_whyNot_40 : decode cX9_whyNot 40 = .ok (.iaload, 1) := by decide +kernel
theorem dX9_whyNot_41 : decode cX9_whyNot 41 = .ok (.aload_n 0, 1) := by decide +kernel
theorem dX9_whyNot_42 : decode cX9_whyNot 42 = .ok (.iconst 4, 1) := by decide +kernel
theorem dX9_whyNot_43 : decode cX9_whyNot 43 = .ok (.invokevirtual 69, 3) := by decide +kernel
theorem dX9_whyNot_46 : decode cX9_whyNot 46 = .ok (.if_icmp .lt 5, 3) := by decide +kernel
theorem dX9_whyNot_49 : decode cX9_whyNot 49 = .ok (.iconst 2, 1) := by decide +kernel
theorem dX9_whyNot_50 : decode cX9_whyNot 50 = .ok (.ireturn, 1) := by decide +kernel
theorem dX9_whyNot_51 : decode cX9_whyNot 51 = .ok (.iinc 2 (-1), 3) := by decide +kernel
theorem dX9_whyNot_54 : decode cX9_whyNot 54 = .ok (.goto (-34), 3) := by decide +kernel
theorem dX9_whyNot_57 : decode cX9_whyNot 57 = .ok (.aload_n 0, 1) := by decide +kernel
theorem dX9_whyNot_58 : decode cX9_whyNot 58 = .ok (.getfield 28, 3) := by decide +kernel
theorem dX9_whyNot_61 : decode cX9_whyNot 61 = .ok (.iload_n 1, 1) := by decide +kernel
theorem dX9_whyNot_62 : decode cX9_whyNot 62 = .ok (.iaload, 1) := by decide +kernel
theorem dX9_whyNot_63 : decode cX9_whyNot 63 = .ok (.bipush 10, 2) := by decide +kernel
theorem dX9_whyNot_65 : decode cX9_whyNot 65 = .ok (.aload_n 0, 1) := by decide +kernel
theorem dX9_whyNot_66 : decode cX9_whyNot 66 = .ok (.iload_n 1, 1) := by decide +kernel
theorem dX9_whyNot_67 : decode cX9_whyNot 67 = .ok (.invokevirtual 77, 3) := by decide +kernel
theorem dX9_whyNot_70 : decode cX9_whyNot 70 = .ok (.imul, 1) := by decide +kernel
theorem dX9_whyNot_71 : decode cX9_whyNot 71 = .ok (.if_icmp .le 7, 3) := by decide +kernel
theorem dX9_whyNot_74 : decode cX9_whyNot 74 = .ok (.iconst 0, 1) := by decide +kernel
theorem dX9_whyNot_75 : decode cX9_whyNot 75 = .ok (.goto 4, 3) := by decide +kernel
theorem dX9_whyNot_78 : decode cX9_whyNot 78 = .ok (.iconst 3, 1) := by decide +kernel
theorem dX9_whyNot_79 : decode cX9_whyNot 79 = .ok (.ireturn, 1) := by decide +kernel
set_option maxHeartbeats 4000000 in
set_option maxRecDepth 100000 in
theorem w_X9_whyNot_l20 {w : WT} {l : Launch} {p : Program} {e : Env} {s : State} {m : MethodId} {args : Array Value} {below : List Frame} {meth : Method} {c : Code} (C : KC w p s m args meth c cX9_whyNot 3 RX9 (some .int)) {v1 : Int32} {M : Mem} {L : Lng} {out : Int32} (z : Int32) (o : (Int32) ⊕ ((Unit) ⊕ (Int32))) (hf : f_X9_whyNot_l20 v1 M z = some o) (hA : ∀ z, o = .inl z → AtL w p l e ({ frames := 3, cells := 0, slots := 0, locals := 63 } : Room) s m args below meth c (MQ below (QI w out M L) args s 0 0 (wA w)) 3 20 M L [(0, .ref (wAd w 90)), (1, .int v1), (2, .int z)] []) (hE : ∀ y, o = .inr y → Sum.elim (fun y => AtL w p l e ({ frames := 3, cells := 0, slots := 0, locals := 63 } : Room) s m args below meth c (MQ below (QI w out M L) args s 0 0 (wA w)) 3 57 M L [(0, .ref (wAd w 90)), (1, .int v1)] []) (fun y => y = out) y) : AtL w p l e ({ frames := 3, cells := 0, slots := 0, locals := 63 } : Room) s m args below meth c (MQ below (QI w out M L) args s 0 0 (wA w)) 3 20 M L [(0, .ref (wAd w 90)), (1, .int v1), (2, .int z)] [] := by
  intro H locs ls hP hS hl
  unfold f_X9_whyNot_l20 at hf
  refine lv_iload_n C.1 C.2.1 dX9_whyNot_20 rfl (lv_at hl 2 rfl) ?_
  refine lv_if_lt (tgt := 57) C.1 C.2.1 dX9_whyNot_21 (by decide) (fun c4 => ?_) (fun c4 => ?_)
  · have hf := (if_pos c4).symm.trans hf
    cases hf
    exact hE _ rfl _ _ _ hP hS (lv_sub hl [0, 1] rfl)
  · have hf := (if_neg c4).symm.trans hf
    refine lv_iload_n C.1 C.2.1 dX9_whyNot_24 rfl (lv_at hl 2 rfl) ?_
    refine lv_iload_n C.1 C.2.1 dX9_whyNot_25 rfl (lv_at hl 1 rfl) ?_
    refine lv_aload_n C.1 C.2.1 dX9_whyNot_26 rfl (lv_at hl 0 rfl) ?_
    refine lv_iconst (v := 5) C.1 C.2.1 dX9_whyNot_27 (by decide) ?_
    obtain ⟨r5, hr5, hf⟩ := ob hf
    refine kci (kV (As := [.int 5]) (rest := [.int v1, .int z]) C hl.1 hP hS (c_X9_of w l C.2.2.2.2.2.2.2.2 (L := L) hr5) (gV q973 q975 qp25 q10 q976) hd_X9_of (lt_Model h0_Model) (ob_Model h0_Model w L _) rfl ⟨rfl, rfl⟩ ⟨Nat.le_of_ble_eq_true rfl, Nat.le_of_ble_eq_true rfl⟩ rfl rfl (Nat.le_of_ble_eq_true rfl) dX9_whyNot_28 ⟨Nat.zero_le _, Nat.zero_le _⟩) hS (fun H locs hP hS => ?_)
    refine lv_isub C.1 C.2.1 dX9_whyNot_31 ?_
    refine lv_icmp_lt (tgt := 57) C.1 C.2.1 dX9_whyNot_32 (by decide) (fun c6 => ?_) (fun c6 => ?_)
    · have hf := (if_pos c6).symm.trans hf
      cases hf
      exact hE _ rfl _ _ _ hP hS (lv_sub hl [0, 1] rfl)
    · have hf := (if_neg c6).symm.trans hf
      refine lv_aload_n C.1 C.2.1 dX9_whyNot_35 rfl (lv_at hl 0 rfl) ?_
      refine k_get (v := .ref (wAd w 95)) C hP (lt_Model h0_Model) (ob_Model h0_Model w L _) rfl iX9 8 (by decide) q871 rfl dX9_whyNot_36 ?_
      refine lv_iload_n C.1 C.2.1 dX9_whyNot_39 rfl (lv_at hl 2 rfl) ?_
      obtain ⟨x7, hx7, hf⟩ := ob hf
      refine k_iald C hP (la_Model_wind h0_Model) (ar_Model_wind h0_Model w L _) hx7 dX9_whyNot_40 ?_
      refine lv_aload_n C.1 C.2.1 dX9_whyNot_41 rfl (lv_at hl 0 rfl) ?_
      refine lv_iconst (v := 4) C.1 C.2.1 dX9_whyNot_42 (by decide) ?_
      obtain ⟨r8, hr8, hf⟩ := ob hf
      refine kci (kV (As := [.int 4]) (rest := [.int x7]) C hl.1 hP hS (c_X9_of w l C.2.2.2.2.2.2.2.2 (L := L) hr8) (gV q973 q975 qp25 q10 q976) hd_X9_of (lt_Model h0_Model) (ob_Model h0_Model w L _) rfl ⟨rfl, rfl⟩ ⟨Nat.le_of_ble_eq_true rfl, Nat.le_of_ble_eq_true rfl⟩ rfl rfl (Nat.le_of_ble_eq_true rfl) dX9_whyNot_43 ⟨Nat.zero_le _, Nat.zero_le _⟩) hS (fun H locs hP hS => ?_)
      refine lv_icmp_lt (tgt := 51) C.1 C.2.1 dX9_whyNot_46 (by decide) (fun c9 => ?_) (fun c9 => ?_)
      · have hf := (if_pos c9).symm.trans hf
        refine lv_iinc (v := (z + (-1))) (lv' := [(2, .int (z + (-1))), (0, .ref (wAd w 90)), (1, .int v1)]) C.1 C.2.1 dX9_whyNot_51 hl (k := 2) rfl rfl (by decide) rfl (fun ls hl => ?_)
        refine lv_goto (tgt := 20) C.1 C.2.1 dX9_whyNot_54 (by decide) ?_
        cases hf
        exact hA _ rfl _ _ _ hP hS (lv_sub hl [1, 2, 0] rfl)
      · have hf := (if_neg c9).symm.trans hf
        refine lv_iconst (v := 2) C.1 C.2.1 dX9_whyNot_49 (by decide) ?_
        cases hf
        cases hE _ rfl
        exact kri C hP hS dX9_whyNot_50
set_option maxHeartbeats 4000000 in
set_option maxRecDepth 100000 in
theorem w_X9_whyNot_j57 {w : WT} {l : Launch} {p : Program} {e : Env} {s : State} {m : MethodId} {args : Array Value} {below : List Frame} {meth : Method} {c : Code} (C : KC w p s m args meth c cX9_whyNot 3 RX9 (some .int)) {v1 : Int32} {M : Mem} {L : Lng} {out : Int32} (hf : f_X9_whyNot_j57 v1 M = some out) : AtL w p l e ({ frames := 3, cells := 0, slots := 0, locals := 63 } : Room) s m args below meth c (MQ below (QI w out M L) args s 0 0 (wA w)) 3 57 M L [(0, .ref (wAd w 90)), (1, .int v1)] [] := by
  intro H locs ls hP hS hl
  unfold f_X9_whyNot_j57 at hf
  refine lv_aload_n C.1 C.2.1 dX9_whyNot_57 rfl (lv_at hl 0 rfl) ?_
  refine k_get (v := .ref (wAd w 97)) C hP (lt_Model h0_Model) (ob_Model h0_Model w L _) rfl iX9 10 (by decide) q873 rfl dX9_whyNot_58 ?_
  refine lv_iload_n C.1 C.2.1 dX9_whyNot_61 rfl (lv_at hl 1 rfl) ?_
  obtain ⟨x11, hx11, hf⟩ := ob hf
  refine k_iald C hP (la_Model_slow h0_Model) (ar_Model_slow h0_Model w L _) hx11 dX9_whyNot_62 ?_
  refine lv_bipush (v := 10) C.1 C.2.1 dX9_whyNot_63 (by decide) ?_
  refine lv_aload_n C.1 C.2.1 dX9_whyNot_65 rfl (lv_at hl 0 rfl) ?_
  refine lv_iload_n C.1 C.2.1 dX9_whyNot_66 rfl (lv_at hl 1 rfl) ?_
  obtain ⟨r12, hr12, hf⟩ := ob hf
  refine kci (kV (As := [.int v1]) (rest := [.int 10, .int x11]) C hl.1 hP hS (c_X9_limitOf w l C.2.2.2.2.2.2.2.2 (L := L) hr12) (gV q1012 q1014 qp32 q10 q1015) hd_X9_limitOf (lt_Model h0_Model) (ob_Model h0_Model w L _) rfl ⟨rfl, rfl⟩ ⟨Nat.le_of_ble_eq_true rfl, Nat.le_of_ble_eq_true rfl⟩ rfl rfl (Nat.le_of_ble_eq_true rfl) dX9_whyNot_67 ⟨Nat.zero_le _, Nat.zero_le _⟩) hS (fun H locs hP hS => ?_)
  refine lv_imul C.1 C.2.1 dX9_whyNot_70 ?_
  refine lv_icmp_le (tgt := 78) C.1 C.2.1 dX9_whyNot_71 (by decide) (fun c13 => ?_) (fun c13 => ?_)
  · have hf := (if_pos c13).symm.trans hf
    refine lv_iconst (v := 3) C.1 C.2.1 dX9_whyNot_78 (by decide) ?_
    cases hf
    exact kri C hP hS dX9_whyNot_79
  · have hf := (if_neg c13).symm.trans hf
    refine lv_iconst (v := 0) C.1 C.2.1 dX9_whyNot_74 (by decide) ?_
    refine lv_goto (tgt := 79) C.1 C.2.1 dX9_whyNot_75 (by decide) ?_
    cases hf
    exact kri C hP hS dX9_whyNot_79
set_option maxHeartbeats 4000000 in
set_option maxRecDepth 100000 in
theorem c_X9_whyNot (w : WT) (l : Launch) (hw : WOK w) {a1 : Int32} {M : Mem} {L : Lng} {out : Int32} (hf : f_X9_whyNot a1 M = some out) : Met l yX9_whyNot (Cond.code yX9_whyNot cX9_whyNot 3 (some .int) :: BG) ({ frames := 3, cells := 0, slots := 0, locals := 63 } : Room) (PRE w [.ref (wAd w 90), .int a1] M L) (QI w out M L) 0 0 (wA w) := by
  refine kEnt hw (by decide +kernel) rfl (Nat.le_of_ble_eq_true rfl) ?_
  intro p e s m args below meth c C ls hl hP
  have hS : va_S (wA w) s.heap s.heap [] := va_S.rf
  have hl : lv_has ls 3 [(0, .ref (wAd w 90)), (1, .int a1)] := hl
  unfold f_X9_whyNot at hf
  refine lv_aload_n C.1 C.2.1 dX9_whyNot_0 rfl (lv_at hl 0 rfl) ?_
  refine k_get (v := .ref (wAd w 95)) C hP (lt_Model h0_Model) (ob_Model h0_Model w L _) rfl iX9 8 (by decide) q871 rfl dX9_whyNot_1 ?_
  refine lv_iload_n C.1 C.2.1 dX9_whyNot_4 rfl (lv_at hl 1 rfl) ?_
  obtain ⟨x1, hx1, hf⟩ := ob hf
  refine k_iald C hP (la_Model_wind h0_Model) (ar_Model_wind h0_Model w L _) hx1 dX9_whyNot_5 ?_
  refine lv_aload_n C.1 C.2.1 dX9_whyNot_6 rfl (lv_at hl 0 rfl) ?_
  refine lv_iconst (v := 4) C.1 C.2.1 dX9_whyNot_7 (by decide) ?_
  obtain ⟨r2, hr2, hf⟩ := ob hf
  refine kci (kV (As := [.int 4]) (rest := [.int x1]) C hl.1 hP hS (c_X9_of w l C.2.2.2.2.2.2.2.2 (L := L) hr2) (gV q973 q975 qp25 q10 q976) hd_X9_of (lt_Model h0_Model) (ob_Model h0_Model w L _) rfl ⟨rfl, rfl⟩ ⟨Nat.le_of_ble_eq_true rfl, Nat.le_of_ble_eq_true rfl⟩ rfl rfl (Nat.le_of_ble_eq_true rfl) dX9_whyNot_8 ⟨Nat.zero_le _, Nat.zero_le _⟩) hS (fun H locs hP hS => ?_)
  refine lv_icmp_lt (tgt := 16) C.1 C.2.1 dX9_whyNot_11 (by decide) (fun c3 => ?_) (fun c3 => ?_)
  · have hf := (if_pos c3).symm.trans hf
    refine lv_iload_n C.1 C.2.1 dX9_whyNot_16 rfl (lv_at hl 1 rfl) ?_
    refine lv_iconst (v := 1) C.1 C.2.1 dX9_whyNot_17 (by decide) ?_
    refine lv_isub C.1 C.2.1 dX9_whyNot_18 ?_
    refine lv_istore_n (lv' := [(2, .int (a1 - 1)), (0, .ref (wAd w 90)), (1, .int a1)]) C.1 C.2.1 dX9_whyNot_19 rfl hl (by decide) rfl (fun ls hl => ?_)
    obtain ⟨o10, ho10, hf⟩ := ob hf
    refine loop_at (w_X9_whyNot_l20 C (out := out)) FU _ o10 ho10 ?_ _ _ _ hP hS (lv_sub hl [1, 2, 0] rfl)
    rcases o10 with o10 | o10
    · simp only [Sum.elim_inl] at hf
      intro H locs ls hP hS hl
      exact w_X9_whyNot_j57 C hf _ _ _ hP hS hl
    · simp only [Sum.elim_inr] at hf
      exact Option.some.inj hf
  · have hf := (if_neg c3).symm.trans hf
    refine lv_iconst (v := 1) C.1 C.2.1 dX9_whyNot_14 (by decide) ?_
    cases hf
    exact kri C hP hS dX9_whyNot_15
theorem dX9_layArms_0 : decode cX9_layArms 0 = .ok (.iconst 0, 1) := by decide +kernel
theorem dX9_layArms_1 : decode cX9_layArms 1 = .ok (.istore_n 1, 1) := by decide +kernel
theorem dX9_layArms_2 : decode cX9_layArms 2 = .ok (.iload_n 1, 1) := by decide +kernel
theorem dX9_layArms_3 : decode cX9_layArms 3 = .ok (.aload_n 0, 1) := by decide +kernel
theorem dX9_layArms_4 : decode cX9_layArms 4 = .ok (.getfield 80, 3) := by decide +kernel
theorem dX9_layArms_7 : decode cX9_layArms 7 = .ok (.if_icmp .ge 95, 3) := by decide +kernel
theorem dX9_layArms_10 : decode cX9_layArms 10 = .ok (.iload_n 1, 1) := by decide +kernel
theorem dX9_layArms_11 : decode cX9_layArms 11 = .ok (.ifCond .ne 7, 3) := by decide +kernel
theorem dX9_layArms_14 : decode cX9_layArms 14 = .ok (.iconst 0, 1) := by decide +kernel
theorem dX9_layArms_15 : decode cX9_layArms 15 = .ok (.goto 11, 3) := by decide +kernel
theorem dX9_layArms_18 : decode cX9_layArms 18 = .ok (.aload_n 0, 1) := by decide +kernel
theorem dX9_layArms_19 : decode cX9_layArms 19 = .ok (.getfield 25, 3) := by decide +kernel
theorem dX9_layArms_22 : decode cX9_layArms 22 = .ok (.iload_n 1, 1) := by decide +kernel
theorem dX9_layArms_23 : decode cX9_layArms 23 = .ok (.iconst 1, 1) := by decide +kernel
theorem dX9_layArms_24 : decode cX9_layArms 24 = .ok (.isub, 1) := by decide +kernel
theorem dX9_layArms_25 : decode cX9_layArms 25 = .ok (.iaload, 1) := by decide +kernel
theorem dX9_layArms_26 : decode cX9_layArms 26 = .ok (.istore_n 2, 1) := by decide +kernel
theorem dX9_layArms_27 : decode cX9_layArms 27 = .ok (.iload_n 1, 1) := by decide +kernel
theorem dX9_layArms_28 : decode cX9_layArms 28 = .ok (.ifCond .ne 7, 3) := by decide +kernel
theorem dX9_layArms_31 : decode cX9_layArms 31 = .ok (.iconst 0, 1) := by decide +kernel
theorem dX9_layArms_32 : decode cX9_layArms 32 = .ok (.goto 11, 3) := by decide +kernel
theorem dX9_layArms_35 : decode cX9_layArms 35 = .ok (.aload_n 0, 1) := by decide +kernel
theorem dX9_layArms_36 : decode cX9_layArms 36 = .ok (.getfield 28, 3) := by decide +kernel
theorem dX9_layArms_39 : decode cX9_layArms 39 = .ok (.iload_n 1, 1) := by decide +kernel
theorem dX9_layArms_40 : decode cX9_layArms 40 = .ok (.iconst 1, 1) := by decide +kernel
theorem dX9_layArms_41 : decode cX9_layArms 41 = .ok (.isub, 1) := by decide +kernel
theorem dX9_layArms_42 : decode cX9_layArms 42 = .ok (.iaload, 1) := by decide +kernel
theorem dX9_layArms_43 : decode cX9_layArms 43 = .ok (.istore_n 3, 1) := by decide +kernel
theorem dX9_layArms_44 : decode cX9_layArms 44 = .ok (.aload_n 0, 1) := by decide +kernel
theorem dX9_layArms_45 : decode cX9_layArms 45 = .ok (.getfield 25, 3) := by decide +kernel
theorem dX9_layArms_48 : decode cX9_layArms 48 = .ok (.iload_n 1, 1) := by decide +kernel
theorem dX9_layArms_49 : decode cX9_layArms 49 = .ok (.iload_n 2, 1) := by decide +kernel
theorem dX9_layArms_50 : decode cX9_layArms 50 = .ok (.bipush 10, 2) := by decide +kernel
theorem dX9_layArms_52 : decode cX9_layArms 52 = .ok (.aload_n 0, 1) := by decide +kernel
theorem dX9_layArms_53 : decode cX9_layArms 53 = .ok (.getfield 19, 3) := by decide +kernel
theorem dX9_layArms_56 : decode cX9_layArms 56 = .ok (.iload_n 1, 1) := by decide +kernel
theorem dX9_layArms_57 : decode cX9_layArms 57 = .ok (.iaload, 1) := by decide +kernel
theorem dX9_layArms_58 : decode cX9_layArms 58 = .ok (.imul, 1) := by decide +kernel
theorem dX9_layArms_59 : decode cX9_layArms 59 = .ok (.iload_n 2, 1) := by decide +kernel
theorem dX9_layArms_60 : decode cX9_layArms 60 = .ok (.isub, 1) := by decide +kernel
theorem dX9_layArms_61 : decode cX9_layArms 61 = .ok (.aload_n 0, 1) := by decide +kernel
theorem dX9_layArms_62 : decode cX9_layArms 62 = .ok (.bipush 8, 2) := by decide +kernel
theorem dX9_layArms_64 : decode cX9_layArms 64 = .ok (.invokevirtual 69, 3) := by decide +kernel
theorem dX9_layArms_67 : decode cX9_layArms 67 = .ok (.idiv, 1) := by decide +kernel
theorem dX9_layArms_68 : decode cX9_layArms 68 = .ok (.iadd, 1) := by decide +kernel
theorem dX9_layArms_69 : decode cX9_layArms 69 = .ok (.iastore, 1) := by decide +kernel
theorem dX9_layArms_70 : decode cX9_layArms 70 = .ok (.aload_n 0, 1) := by decide +kernel
theorem dX9_layArms_71 : decode cX9_layArms 71 = .ok (.getfield 28, 3) := by decide +kernel
theorem dX9_layArms_74 : decode cX9_layArms 74 = .ok (.iload_n 1, 1) := by decide +kernel
theorem dX9_layArms_75 : decode cX9_layArms 75 = .ok (.iload_n 3, 1) := by decide +kernel
theorem dX9_layArms_76 : decode cX9_layArms 76 = .ok (.bipush 10, 2) := by decide +kernel
theorem dX9_layArms_78 : decode cX9_layArms 78 = .ok (.aload_n 0, 1) := by decide +kernel
theorem dX9_layArms_79 : decode cX9_layArms 79 = .ok (.getfield 19, 3) := by decide +kernel
theorem dX9_layArms_82 : decode cX9_layArms 82 = .ok (.iload_n 1, 1) := by decide +kernel
theorem dX9_layArms_83 : decode cX9_layArms 83 = .ok (.iaload, 1) := by decide +kernel
theorem dX9_layArms_84 : decode cX9_layArms 84 = .ok (.imul, 1) := by decide +kernel
theorem dX9_layArms_85 : decode cX9_layArms 85 = .ok (.iload_n 3, 1) := by decide +kernel
theorem dX9_layArms_86 : decode cX9_layArms 86 = .ok (.isub, 1) := by decide +kernel
theorem dX9_layArms_87 : decode cX9_layArms 87 = .ok (.aload_n 0, 1) := by decide +kernel
theorem dX9_layArms_88 : decode cX9_layArms 88 = .ok (.bipush 9, 2) := by decide +kernel
theorem dX9_layArms_90 : decode cX9_layArms 90 = .ok (.invokevirtual 69, 3) := by decide +kernel
theorem dX9_layArms_93 : decode cX9_layArms 93 = .ok (.idiv, 1) := by decide +kernel
theorem dX9_layArms_94 : decode cX9_layArms 94 = .ok (.iadd, 1) := by decide +kernel
theorem dX9_layArms_95 : decode cX9_layArms 95 = .ok (.iastore, 1) := by decide +kernel
theorem dX9_layArms_96 : decode cX9_layArms 96 = .ok (.iinc 1 1, 3) := by decide +kernel
theorem dX9_layArms_99 : decode cX9_layArms 99 = .ok (.goto (-97), 3) := by decide +kernel
theorem dX9_layArms_102 : decode cX9_layArms 102 = .ok (.return_, 1) := by decide +kernel
set_option maxHeartbeats 4000000 in
set_option maxRecDepth 100000 in
theorem w_X9_layArms_j43 {w : WT} {l : Launch} {p : Program} {e : Env} {s : State} {m : MethodId} {args : Array Value} {below : List Frame} {meth : Method} {c : Code} (C : KC w p s m args meth c cX9_layArms 4 RX9 none) {v1 : Int32} {v2 : Int32} {s0 : Int32} {M : Mem} {L : Lng} {Q : State → Prop} {o : (Int32 × Mem) ⊕ (Mem)} (hf : f_X9_layArms_j43 v1 v2 s0 M = some o) (hA : ∀ z, o = .inl z → AtL w p l e ({ frames := 1, cells := 0, slots := 0, locals := 21 } : Room) s m args below meth c Q 4 2 z.2 L [(0, .ref (wAd w 90)), (1, .int z.1)] []) (hE : ∀ y, o = .inr y → AtL w p l e ({ frames := 1, cells := 0, slots := 0, locals := 21 } : Room) s m args below meth c Q 4 102 y L [] []) : AtL w p l e ({ frames := 1, cells := 0, slots := 0, locals := 21 } : Room) s m args below meth c Q 4 43 M L [(0, .ref (wAd w 90)), (1, .int v1), (2, .int v2)] [.int s0] := by
  intro H locs ls hP hS hl
  unfold f_X9_layArms_j43 at hf
  refine lv_istore_n (lv' := [(3, .int s0), (0, .ref (wAd w 90)), (1, .int v1), (2, .int v2)]) C.1 C.2.1 dX9_layArms_43 rfl hl (by decide) rfl (fun ls hl => ?_)
  refine lv_aload_n C.1 C.2.1 dX9_layArms_44 rfl (lv_at hl 1 rfl) ?_
  refine k_get (v := .ref (wAd w 96)) C hP (lt_Model h0_Model) (ob_Model h0_Model w L _) rfl iX9 9 (by decide) q872 rfl dX9_layArms_45 ?_
  refine lv_iload_n C.1 C.2.1 dX9_layArms_48 rfl (lv_at hl 2 rfl) ?_
  refine lv_iload_n C.1 C.2.1 dX9_layArms_49 rfl (lv_at hl 3 rfl) ?_
  refine lv_bipush (v := 10) C.1 C.2.1 dX9_layArms_50 (by decide) ?_
  refine lv_aload_n C.1 C.2.1 dX9_layArms_52 rfl (lv_at hl 1 rfl) ?_
  refine k_get (v := .ref (wAd w 94)) C hP (lt_Model h0_Model) (ob_Model h0_Model w L _) rfl iX9 7 (by decide) q870 rfl dX9_layArms_53 ?_
  refine lv_iload_n C.1 C.2.1 dX9_layArms_56 rfl (lv_at hl 2 rfl) ?_
  obtain ⟨x6, hx6, hf⟩ := ob hf
  refine k_iald C hP (la_Model_level h0_Model) (ar_Model_level h0_Model w L _) hx6 dX9_layArms_57 ?_
  refine lv_imul C.1 C.2.1 dX9_layArms_58 ?_
  refine lv_iload_n C.1 C.2.1 dX9_layArms_59 rfl (lv_at hl 3 rfl) ?_
  refine lv_isub C.1 C.2.1 dX9_layArms_60 ?_
  refine lv_aload_n C.1 C.2.1 dX9_layArms_61 rfl (lv_at hl 1 rfl) ?_
  refine lv_bipush (v := 8) C.1 C.2.1 dX9_layArms_62 (by decide) ?_
  obtain ⟨r7, hr7, hf⟩ := ob hf
  refine kci (kV (As := [.int 8]) (rest := [.int ((10 * x6) - v2), .int v2, .int v1, .ref (wAd w 96)]) C hl.1 hP hS (c_X9_of w l C.2.2.2.2.2.2.2.2 (L := L) hr7) (gV q973 q975 qp25 q10 q976) hd_X9_of (lt_Model h0_Model) (ob_Model h0_Model w L _) rfl ⟨rfl, rfl⟩ ⟨Nat.le_of_ble_eq_true rfl, Nat.le_of_ble_eq_true rfl⟩ rfl rfl (Nat.le_of_ble_eq_true rfl) dX9_layArms_64 ⟨Nat.zero_le _, Nat.zero_le _⟩) hS (fun H locs hP hS => ?_)
  obtain ⟨x8, hx8, hf⟩ := ob hf
  refine k_idiv C hx8 dX9_layArms_67 ?_
  refine lv_iadd C.1 C.2.1 dX9_layArms_68 ?_
  obtain ⟨M9, hM9, hf⟩ := ob hf
  refine k_iast C hP hS (la_Model_fast h0_Model) (ar_Model_fast h0_Model w L) hM9 dX9_layArms_69 (fun H locs hP hS => ?_)
  refine lv_aload_n C.1 C.2.1 dX9_layArms_70 rfl (lv_at hl 1 rfl) ?_
  refine k_get (v := .ref (wAd w 97)) C hP (lt_Model h0_Model) (ob_Model h0_Model w L _) rfl iX9 10 (by decide) q873 rfl dX9_layArms_71 ?_
  refine lv_iload_n C.1 C.2.1 dX9_layArms_74 rfl (lv_at hl 2 rfl) ?_
  refine lv_iload_n C.1 C.2.1 dX9_layArms_75 rfl (lv_at hl 0 rfl) ?_
  refine lv_bipush (v := 10) C.1 C.2.1 dX9_layArms_76 (by decide) ?_
  refine lv_aload_n C.1 C.2.1 dX9_layArms_78 rfl (lv_at hl 1 rfl) ?_
  refine k_get (v := .ref (wAd w 94)) C hP (lt_Model h0_Model) (ob_Model h0_Model w L _) rfl iX9 7 (by decide) q870 rfl dX9_layArms_79 ?_
  refine lv_iload_n C.1 C.2.1 dX9_layArms_82 rfl (lv_at hl 2 rfl) ?_
  obtain ⟨x10, hx10, hf⟩ := ob hf
  refine k_iald C hP (la_Model_level h0_Model) (ar_Model_level h0_Model w L _) hx10 dX9_layArms_83 ?_
  refine lv_imul C.1 C.2.1 dX9_layArms_84 ?_
  refine lv_iload_n C.1 C.2.1 dX9_layArms_85 rfl (lv_at hl 0 rfl) ?_
  refine lv_isub C.1 C.2.1 dX9_layArms_86 ?_
  refine lv_aload_n C.1 C.2.1 dX9_layArms_87 rfl (lv_at hl 1 rfl) ?_
  refine lv_bipush (v := 9) C.1 C.2.1 dX9_layArms_88 (by decide) ?_
  obtain ⟨r11, hr11, hf⟩ := ob hf
  refine kci (kV (As := [.int 9]) (rest := [.int ((10 * x10) - s0), .int s0, .int v1, .ref (wAd w 97)]) C hl.1 hP hS (c_X9_of w l C.2.2.2.2.2.2.2.2 (L := L) hr11) (gV q973 q975 qp25 q10 q976) hd_X9_of (lt_Model h0_Model) (ob_Model h0_Model w L _) rfl ⟨rfl, rfl⟩ ⟨Nat.le_of_ble_eq_true rfl, Nat.le_of_ble_eq_true rfl⟩ rfl rfl (Nat.le_of_ble_eq_true rfl) dX9_layArms_90 ⟨Nat.zero_le _, Nat.zero_le _⟩) hS (fun H locs hP hS => ?_)
  obtain ⟨x12, hx12, hf⟩ := ob hf
  refine k_idiv C hx12 dX9_layArms_93 ?_
  refine lv_iadd C.1 C.2.1 dX9_layArms_94 ?_
  obtain ⟨M13, hM13, hf⟩ := ob hf
  refine k_iast C hP hS (la_Model_slow h0_Model) (ar_Model_slow h0_Model w L) hM13 dX9_layArms_95 (fun H locs hP hS => ?_)
  refine lv_iinc (v := (v1 + 1)) (lv' := [(1, .int (v1 + 1)), (3, .int s0), (0, .ref (wAd w 90)), (2, .int v2)]) C.1 C.2.1 dX9_layArms_96 hl (k := 2) rfl rfl (by decide) rfl (fun ls hl => ?_)
  refine lv_goto (tgt := 2) C.1 C.2.1 dX9_layArms_99 (by decide) ?_
  cases hf
  exact hA _ rfl _ _ _ hP hS (lv_sub hl [2, 0] rfl)
set_option maxHeartbeats 4000000 in
set_option maxRecDepth 100000 in
theorem w_X9_layArms_j26 {w : WT} {l : Launch} {p : Program} {e : Env} {s : State} {m : MethodId} {args : Array Value} {below : List Frame} {meth : Method} {c : Code} (C : KC w p s m args meth c cX9_layArms 4 RX9 none) {v1 : Int32} {s0 : Int32} {M : Mem} {L : Lng} {Q : State → Prop} {o : (Int32 × Mem) ⊕ (Mem)} (hf : f_X9_layArms_j26 v1 s0 M = some o) (hA : ∀ z, o = .inl z → AtL w p l e ({ frames := 1, cells := 0, slots := 0, locals := 21 } : Room) s m args below meth c Q 4 2 z.2 L [(0, .ref (wAd w 90)), (1, .int z.1)] []) (hE : ∀ y, o = .inr y → AtL w p l e ({ frames := 1, cells := 0, slots := 0, locals := 21 } : Room) s m args below meth c Q 4 102 y L [] []) : AtL w p l e ({ frames := 1, cells := 0, slots := 0, locals := 21 } : Room) s m args below meth c Q 4 26 M L [(0, .ref (wAd w 90)), (1, .int v1)] [.int s0] := by
  intro H locs ls hP hS hl
  unfold f_X9_layArms_j26 at hf
  refine lv_istore_n (lv' := [(2, .int s0), (0, .ref (wAd w 90)), (1, .int v1)]) C.1 C.2.1 dX9_layArms_26 rfl hl (by decide) rfl (fun ls hl => ?_)
  refine lv_iload_n C.1 C.2.1 dX9_layArms_27 rfl (lv_at hl 2 rfl) ?_
  refine lv_if_ne (tgt := 35) C.1 C.2.1 dX9_layArms_28 (by decide) (fun c4 => ?_) (fun c4 => ?_)
  · have hf := (if_neg c4).symm.trans hf
    refine lv_aload_n C.1 C.2.1 dX9_layArms_35 rfl (lv_at hl 1 rfl) ?_
    refine k_get (v := .ref (wAd w 97)) C hP (lt_Model h0_Model) (ob_Model h0_Model w L _) rfl iX9 10 (by decide) q873 rfl dX9_layArms_36 ?_
    refine lv_iload_n C.1 C.2.1 dX9_layArms_39 rfl (lv_at hl 2 rfl) ?_
    refine lv_iconst (v := 1) C.1 C.2.1 dX9_layArms_40 (by decide) ?_
    refine lv_isub C.1 C.2.1 dX9_layArms_41 ?_
    obtain ⟨x5, hx5, hf⟩ := ob hf
    refine k_iald C hP (la_Model_slow h0_Model) (ar_Model_slow h0_Model w L _) hx5 dX9_layArms_42 ?_
    exact w_X9_layArms_j43 C hf hA hE _ _ _ hP hS (lv_sub hl [1, 2, 0] rfl)
  · have hf := (if_pos c4).symm.trans hf
    refine lv_iconst (v := 0) C.1 C.2.1 dX9_layArms_31 (by decide) ?_
    refine lv_goto (tgt := 43) C.1 C.2.1 dX9_layArms_32 (by decide) ?_
    exact w_X9_layArms_j43 C hf hA hE _ _ _ hP hS (lv_sub hl [1, 2, 0] rfl)
set_option maxHeartbeats 4000000 in
set_option maxRecDepth 100000 in
theorem w_X9_layArms_l2 {w : WT} {l : Launch} {p : Program} {e : Env} {s : State} {m : MethodId} {args : Array Value} {below : List Frame} {meth : Method} {c : Code} (C : KC w p s m args meth c cX9_layArms 4 RX9 none) {L : Lng} {Q : State → Prop} (z : Int32 × Mem) (o : (Int32 × Mem) ⊕ (Mem)) (hf : f_X9_layArms_l2 z = some o) (hA : ∀ z, o = .inl z → AtL w p l e ({ frames := 1, cells := 0, slots := 0, locals := 21 } : Room) s m args below meth c Q 4 2 z.2 L [(0, .ref (wAd w 90)), (1, .int z.1)] []) (hE : ∀ y, o = .inr y → AtL w p l e ({ frames := 1, cells := 0, slots := 0, locals := 21 } : Room) s m args below meth c Q 4 102 y L [] []) : AtL w p l e ({ frames := 1, cells := 0, slots := 0, locals := 21 } : Room) s m args below meth c Q 4 2 z.2 L [(0, .ref (wAd w 90)), (1, .int z.1)] [] := by
  intro H locs ls hP hS hl
  unfold f_X9_layArms_l2 at hf
  refine lv_iload_n C.1 C.2.1 dX9_layArms_2 rfl (lv_at hl 1 rfl) ?_
  refine lv_aload_n C.1 C.2.1 dX9_layArms_3 rfl (lv_at hl 0 rfl) ?_
  refine k_get (v := .int (z.2 90 6)) C hP (lt_Model h0_Model) (ob_Model h0_Model w L _) rfl iX9 6 (by decide) q869 rfl dX9_layArms_4 ?_
  refine lv_icmp_ge (tgt := 102) C.1 C.2.1 dX9_layArms_7 (by decide) (fun c1 => ?_) (fun c1 => ?_)
  · have hf := (if_pos c1).symm.trans hf
    cases hf
    exact hE _ rfl _ _ _ hP hS (lv_sub hl [] rfl)
  · have hf := (if_neg c1).symm.trans hf
    refine lv_iload_n C.1 C.2.1 dX9_layArms_10 rfl (lv_at hl 1 rfl) ?_
    refine lv_if_ne (tgt := 18) C.1 C.2.1 dX9_layArms_11 (by decide) (fun c2 => ?_) (fun c2 => ?_)
    · have hf := (if_neg c2).symm.trans hf
      refine lv_aload_n C.1 C.2.1 dX9_layArms_18 rfl (lv_at hl 0 rfl) ?_
      refine k_get (v := .ref (wAd w 96)) C hP (lt_Model h0_Model) (ob_Model h0_Model w L _) rfl iX9 9 (by decide) q872 rfl dX9_layArms_19 ?_
      refine lv_iload_n C.1 C.2.1 dX9_layArms_22 rfl (lv_at hl 1 rfl) ?_
      refine lv_iconst (v := 1) C.1 C.2.1 dX9_layArms_23 (by decide) ?_
      refine lv_isub C.1 C.2.1 dX9_layArms_24 ?_
      obtain ⟨x3, hx3, hf⟩ := ob hf
      refine k_iald C hP (la_Model_fast h0_Model) (ar_Model_fast h0_Model w L _) hx3 dX9_layArms_25 ?_
      exact w_X9_layArms_j26 C hf hA hE _ _ _ hP hS hl
    · have hf := (if_pos c2).symm.trans hf
      refine lv_iconst (v := 0) C.1 C.2.1 dX9_layArms_14 (by decide) ?_
      refine lv_goto (tgt := 26) C.1 C.2.1 dX9_layArms_15 (by decide) ?_
      exact w_X9_layArms_j26 C hf hA hE _ _ _ hP hS hl
set_option maxHeartbeats 4000000 in
set_option maxRecDepth 100000 in
theorem c_X9_layArms (w : WT) (l : Launch) (hw : WOK w) {M : Mem} {L : Lng} {out : Mem} (hf : f_X9_layArms M = some out) : Met l yX9_layArms (Cond.code yX9_layArms cX9_layArms 4 none :: BG) ({ frames := 1, cells := 0, slots := 0, locals := 21 } : Room) (PRE w [.ref (wAd w 90)] M L) (QV w out L) 0 0 (wA w) := by
  refine kEnt hw (by decide +kernel) rfl (Nat.le_of_ble_eq_true rfl) ?_
  intro p e s m args below meth c C ls hl hP
  have hS : va_S (wA w) s.heap s.heap [] := va_S.rf
  have hl : lv_has ls 4 [(0, .ref (wAd w 90))] := hl
  unfold f_X9_layArms at hf
  refine lv_iconst (v := 0) C.1 C.2.1 dX9_layArms_0 (by decide) ?_
  refine lv_istore_n (lv' := [(1, .int 0), (0, .ref (wAd w 90))]) C.1 C.2.1 dX9_layArms_1 rfl hl (by decide) rfl (fun ls hl => ?_)
  obtain ⟨o14, ho14, hf⟩ := ob hf
  refine loop_at (w_X9_layArms_l2 C) FU _ o14 ho14 ?_ _ _ _ hP hS (lv_sub hl [1, 0] rfl)
  intro H locs ls hP hS hl
  cases hf
  exact krv C hP hS dX9_layArms_102
theorem dX9_addMinute_0 : decode cX9_addMinute 0 = .ok (.aload_n 0, 1) := by decide +kernel
theorem dX9_addMinute_1 : decode cX9_addMinute 1 = .ok (.getfield 40, 3) := by decide +kernel
theorem dX9_addMinute_4 : decode cX9_addMinute 4 = .ok (.iload_n 1, 1) := by decide +kernel
theorem dX9_addMinute_5 : decode cX9_addMinute 5 = .ok (.iload_n 2, 1) := by decide +kernel
theorem dX9_addMinute_6 : decode cX9_addMinute 6 = .ok (.iastore, 1) := by decide +kernel
theorem dX9_addMinute_7 : decode cX9_addMinute 7 = .ok (.aload_n 0, 1) := by decide +kernel
theorem dX9_addMinute_8 : decode cX9_addMinute 8 = .ok (.getfield 43, 3) := by decide +kernel
theorem dX9_addMinute_11 : decode cX9_addMinute 11 = .ok (.iload_n 1, 1) := by decide +kernel
theorem dX9_addMinute_12 : decode cX9_addMinute 12 = .ok (.dup2, 1) := by decide +kernel
theorem dX9_addMinute_13 : decode cX9_addMinute 13 = .ok (.iaload, 1) := by decide +kernel
theorem dX9_addMinute_14 : decode cX9_addMinute 14 = .ok (.iconst 1, 1) := by decide +kernel
theorem dX9_addMinute_15 : decode cX9_addMinute 15 = .ok (.iadd, 1) := by decide +kernel
theorem dX9_addMinute_16 : decode cX9_addMinute 16 = .ok (.iastore, 1) := by decide +kernel
theorem dX9_addMinute_17 : decode cX9_addMinute 17 = .ok (.aload_n 0, 1) := by decide +kernel
theorem dX9_addMinute_18 : decode cX9_addMinute 18 = .ok (.getfield 46, 3) := by decide +kernel
theorem dX9_addMinute_21 : decode cX9_addMinute 21 = .ok (.iload_n 1, 1) := by decide +kernel
theorem dX9_addMinute_22 : decode cX9_addMinute 22 = .ok (.aload_n 0, 1) := by decide +kernel
theorem dX9_addMinute_23 : decode cX9_addMinute 23 = .ok (.getfield 25, 3) := by decide +kernel
theorem dX9_addMinute_26 : decode cX9_addMinute 26 = .ok (.iload_n 2, 1) := by decide +kernel
theorem dX9_addMinute_27 : decode cX9_addMinute 27 = .ok (.iaload, 1) := by decide +kernel
theorem dX9_addMinute_28 : decode cX9_addMinute 28 = .ok (.aload_n 0, 1) := by decide +kernel
theorem dX9_addMinute_29 : decode cX9_addMinute 29 = .ok (.getfield 46, 3) := by decide +kernel
theorem dX9_addMinute_32 : decode cX9_addMinute 32 = .ok (.iload_n 1, 1) := by decide +kernel
theorem dX9_addMinute_33 : decode cX9_addMinute 33 = .ok (.iaload, 1) := by decide +kernel
theorem dX9_addMinute_34 : decode cX9_addMinute 34 = .ok (.if_icmp .le 12, 3) := by decide +kernel
theorem dX9_addMinute_37 : decode cX9_addMinute 37 = .ok (.aload_n 0, 1) := by decide +kernel
theorem dX9_addMinute_38 : decode cX9_addMinute 38 = .ok (.getfield 25, 3) := by decide +kernel
theorem dX9_addMinute_41 : decode cX9_addMinute 41 = .ok (.iload_n 2, 1) := by decide +kernel
theorem dX9_addMinute_42 : decode cX9_addMinute 42 = .ok (.iaload, 1) := by decide +kernel
theorem dX9_addMinute_43 : decode cX9_addMinute 43 = .ok (.goto 9, 3) := by decide +kernel
theorem dX9_addMinute_46 : decode cX9_addMinute 46 = .ok (.aload_n 0, 1) := by decide +kernel
theorem dX9_addMinute_47 : decode cX9_addMinute 47 = .ok (.getfield 46, 3) := by decide +kernel
theorem dX9_addMinute_50 : decode cX9_addMinute 50 = .ok (.iload_n 1, 1) := by decide +kernel
theorem dX9_addMinute_51 : decode cX9_addMinute 51 = .ok (.iaload, 1) := by decide +kernel
theorem dX9_addMinute_52 : decode cX9_addMinute 52 = .ok (.iastore, 1) := by decide +kernel
theorem dX9_addMinute_53 : decode cX9_addMinute 53 = .ok (.aload_n 0, 1) := by decide +kernel
theorem dX9_addMinute_54 : decode cX9_addMinute 54 = .ok (.getfield 49, 3) := by decide +kernel
theorem dX9_addMinute_57 : decode cX9_addMinute 57 = .ok (.iload_n 1, 1) := by decide +kernel
theorem dX9_addMinute_58 : decode cX9_addMinute 58 = .ok (.dup2, 1) := by decide +kernel
theorem dX9_addMinute_59 : decode cX9_addMinute 59 = .ok (.iaload, 1) := by decide +kernel
theorem dX9_addMinute_60 : decode cX9_addMinute 60 = .ok (.aload_n 0, 1) := by decide +kernel
theorem dX9_addMinute_61 : decode cX9_addMinute 61 = .ok (.getfield 28, 3) := by decide +kernel
theorem dX9_addMinute_64 : decode cX9_addMinute 64 = .ok (.iload_n 2, 1) := by decide +kernel
theorem dX9_addMinute_65 : decode cX9_addMinute 65 = .ok (.iaload, 1) := by decide +kernel
theorem dX9_addMinute_66 : decode cX9_addMinute 66 = .ok (.bipush 10, 2) := by decide +kernel
theorem dX9_addMinute_68 : decode cX9_addMinute 68 = .ok (.aload_n 0, 1) := by decide +kernel
theorem dX9_addMinute_69 : decode cX9_addMinute 69 = .ok (.iload_n 2, 1) := by decide +kernel
theorem dX9_addMinute_70 : decode cX9_addMinute 70 = .ok (.invokevirtual 77, 3) := by decide +kernel
theorem dX9_addMinute_73 : decode cX9_addMinute 73 = .ok (.imul, 1) := by decide +kernel
theorem dX9_addMinute_74 : decode cX9_addMinute 74 = .ok (.isub, 1) := by decide +kernel
theorem dX9_addMinute_75 : decode cX9_addMinute 75 = .ok (.iadd, 1) := by decide +kernel
theorem dX9_addMinute_76 : decode cX9_addMinute 76 = .ok (.iastore, 1) := by decide +kernel
theorem dX9_addMinute_77 : decode cX9_addMinute 77 = .ok (.return_, 1) := by decide +kernel
set_option maxHeartbeats 4000000 in
set_option maxRecDepth 100000 in
theorem w_X9_addMinute_j52 {w : WT} {l : Launch} {p : Program} {e : Env} {s : State} {m : MethodId} {args : Array Value} {below : List Frame} {meth : Method} {c : Code} (C : KC w p s m args meth c cX9_addMinute 3 RX9 none) {v1 : Int32} {v2 : Int32} {s1 : Int32} {s2 : Int32} {M : Mem} {L : Lng} {out : Mem} (hf : f_X9_addMinute_j52 v1 v2 s1 s2 M = some out) : AtL w p l e ({ frames := 3, cells := 0, slots := 0, locals := 63 } : Room) s m args below meth c (MQ below (QV w out L) args s 0 0 (wA w)) 3 52 M L [(0, .ref (wAd w 90)), (1, .int v1), (2, .int v2)] [.int s2, .int s1, .ref (wAd w 103)] := by
  intro H locs ls hP hS hl
  unfold f_X9_addMinute_j52 at hf
  obtain ⟨M8, hM8, hf⟩ := ob hf
  refine k_iast C hP hS (la_Model_peak h0_Model) (ar_Model_peak h0_Model w L) hM8 dX9_addMinute_52 (fun H locs hP hS => ?_)
  refine lv_aload_n C.1 C.2.1 dX9_addMinute_53 rfl (lv_at hl 0 rfl) ?_
  refine k_get (v := .ref (wAd w 104)) C hP (lt_Model h0_Model) (ob_Model h0_Model w L _) rfl iX9 18 (by decide) q881 rfl dX9_addMinute_54 ?_
  refine lv_iload_n C.1 C.2.1 dX9_addMinute_57 rfl (lv_at hl 1 rfl) ?_
  refine lv_dup2_11 C.1 C.2.1 dX9_addMinute_58 rfl rfl ?_
  obtain ⟨x9, hx9, hf⟩ := ob hf
  refine k_iald C hP (la_Model_weight h0_Model) (ar_Model_weight h0_Model w L _) hx9 dX9_addMinute_59 ?_
  refine lv_aload_n C.1 C.2.1 dX9_addMinute_60 rfl (lv_at hl 0 rfl) ?_
  refine k_get (v := .ref (wAd w 97)) C hP (lt_Model h0_Model) (ob_Model h0_Model w L _) rfl iX9 10 (by decide) q873 rfl dX9_addMinute_61 ?_
  refine lv_iload_n C.1 C.2.1 dX9_addMinute_64 rfl (lv_at hl 2 rfl) ?_
  obtain ⟨x10, hx10, hf⟩ := ob hf
  refine k_iald C hP (la_Model_slow h0_Model) (ar_Model_slow h0_Model w L _) hx10 dX9_addMinute_65 ?_
  refine lv_bipush (v := 10) C.1 C.2.1 dX9_addMinute_66 (by decide) ?_
  refine lv_aload_n C.1 C.2.1 dX9_addMinute_68 rfl (lv_at hl 0 rfl) ?_
  refine lv_iload_n C.1 C.2.1 dX9_addMinute_69 rfl (lv_at hl 2 rfl) ?_
  obtain ⟨r11, hr11, hf⟩ := ob hf
  refine kci (kV (As := [.int v2]) (rest := [.int 10, .int x10, .int x9, .int v1, .ref (wAd w 104)]) C hl.1 hP hS (c_X9_limitOf w l C.2.2.2.2.2.2.2.2 (L := L) hr11) (gV q1012 q1014 qp32 q10 q1015) hd_X9_limitOf (lt_Model h0_Model) (ob_Model h0_Model w L _) rfl ⟨rfl, rfl⟩ ⟨Nat.le_of_ble_eq_true rfl, Nat.le_of_ble_eq_true rfl⟩ rfl rfl (Nat.le_of_ble_eq_true rfl) dX9_addMinute_70 ⟨Nat.zero_le _, Nat.zero_le _⟩) hS (fun H locs hP hS => ?_)
  refine lv_imul C.1 C.2.1 dX9_addMinute_73 ?_
  refine lv_isub C.1 C.2.1 dX9_addMinute_74 ?_
  refine lv_iadd C.1 C.2.1 dX9_addMinute_75 ?_
  obtain ⟨M12, hM12, hf⟩ := ob hf
  refine k_iast C hP hS (la_Model_weight h0_Model) (ar_Model_weight h0_Model w L) hM12 dX9_addMinute_76 (fun H locs hP hS => ?_)
  cases hf
  exact krv C hP hS dX9_addMinute_77
set_option maxHeartbeats 4000000 in
set_option maxRecDepth 100000 in
theorem c_X9_addMinute (w : WT) (l : Launch) (hw : WOK w) {a1 : Int32} {a2 : Int32} {M : Mem} {L : Lng} {out : Mem} (hf : f_X9_addMinute a1 a2 M = some out) : Met l yX9_addMinute (Cond.code yX9_addMinute cX9_addMinute 3 none :: BG) ({ frames := 3, cells := 0, slots := 0, locals := 63 } : Room) (PRE w [.ref (wAd w 90), .int a1, .int a2] M L) (QV w out L) 0 0 (wA w) := by
  refine kEnt hw (by decide +kernel) rfl (Nat.le_of_ble_eq_true rfl) ?_
  intro p e s m args below meth c C ls hl hP
  have hS : va_S (wA w) s.heap s.heap [] := va_S.rf
  have hl : lv_has ls 3 [(0, .ref (wAd w 90)), (1, .int a1), (2, .int a2)] := hl
  unfold f_X9_addMinute at hf
  refine lv_aload_n C.1 C.2.1 dX9_addMinute_0 rfl (lv_at hl 0 rfl) ?_
  refine k_get (v := .ref (wAd w 101)) C hP (lt_Model h0_Model) (ob_Model h0_Model w L _) rfl iX9 15 (by decide) q878 rfl dX9_addMinute_1 ?_
  refine lv_iload_n C.1 C.2.1 dX9_addMinute_4 rfl (lv_at hl 1 rfl) ?_
  refine lv_iload_n C.1 C.2.1 dX9_addMinute_5 rfl (lv_at hl 2 rfl) ?_
  obtain ⟨M1, hM1, hf⟩ := ob hf
  refine k_iast C hP hS (la_Model_last h0_Model) (ar_Model_last h0_Model w L) hM1 dX9_addMinute_6 (fun H locs hP hS => ?_)
  refine lv_aload_n C.1 C.2.1 dX9_addMinute_7 rfl (lv_at hl 0 rfl) ?_
  refine k_get (v := .ref (wAd w 102)) C hP (lt_Model h0_Model) (ob_Model h0_Model w L _) rfl iX9 16 (by decide) q879 rfl dX9_addMinute_8 ?_
  refine lv_iload_n C.1 C.2.1 dX9_addMinute_11 rfl (lv_at hl 1 rfl) ?_
  refine lv_dup2_11 C.1 C.2.1 dX9_addMinute_12 rfl rfl ?_
  obtain ⟨x2, hx2, hf⟩ := ob hf
  refine k_iald C hP (la_Model_above h0_Model) (ar_Model_above h0_Model w L _) hx2 dX9_addMinute_13 ?_
  refine lv_iconst (v := 1) C.1 C.2.1 dX9_addMinute_14 (by decide) ?_
  refine lv_iadd C.1 C.2.1 dX9_addMinute_15 ?_
  obtain ⟨M3, hM3, hf⟩ := ob hf
  refine k_iast C hP hS (la_Model_above h0_Model) (ar_Model_above h0_Model w L) hM3 dX9_addMinute_16 (fun H locs hP hS => ?_)
  refine lv_aload_n C.1 C.2.1 dX9_addMinute_17 rfl (lv_at hl 0 rfl) ?_
  refine k_get (v := .ref (wAd w 103)) C hP (lt_Model h0_Model) (ob_Model h0_Model w L _) rfl iX9 17 (by decide) q880 rfl dX9_addMinute_18 ?_
  refine lv_iload_n C.1 C.2.1 dX9_addMinute_21 rfl (lv_at hl 1 rfl) ?_
  refine lv_aload_n C.1 C.2.1 dX9_addMinute_22 rfl (lv_at hl 0 rfl) ?_
  refine k_get (v := .ref (wAd w 96)) C hP (lt_Model h0_Model) (ob_Model h0_Model w L _) rfl iX9 9 (by decide) q872 rfl dX9_addMinute_23 ?_
  refine lv_iload_n C.1 C.2.1 dX9_addMinute_26 rfl (lv_at hl 2 rfl) ?_
  obtain ⟨x4, hx4, hf⟩ := ob hf
  refine k_iald C hP (la_Model_fast h0_Model) (ar_Model_fast h0_Model w L _) hx4 dX9_addMinute_27 ?_
  refine lv_aload_n C.1 C.2.1 dX9_addMinute_28 rfl (lv_at hl 0 rfl) ?_
  refine k_get (v := .ref (wAd w 103)) C hP (lt_Model h0_Model) (ob_Model h0_Model w L _) rfl iX9 17 (by decide) q880 rfl dX9_addMinute_29 ?_
  refine lv_iload_n C.1 C.2.1 dX9_addMinute_32 rfl (lv_at hl 1 rfl) ?_
  obtain ⟨x5, hx5, hf⟩ := ob hf
  refine k_iald C hP (la_Model_peak h0_Model) (ar_Model_peak h0_Model w L _) hx5 dX9_addMinute_33 ?_
  refine lv_icmp_le (tgt := 46) C.1 C.2.1 dX9_addMinute_34 (by decide) (fun c6 => ?_) (fun c6 => ?_)
  · have hf := (if_pos c6).symm.trans hf
    refine lv_aload_n C.1 C.2.1 dX9_addMinute_46 rfl (lv_at hl 0 rfl) ?_
    refine k_get (v := .ref (wAd w 103)) C hP (lt_Model h0_Model) (ob_Model h0_Model w L _) rfl iX9 17 (by decide) q880 rfl dX9_addMinute_47 ?_
    refine lv_iload_n C.1 C.2.1 dX9_addMinute_50 rfl (lv_at hl 1 rfl) ?_
    obtain ⟨x7, hx7, hf⟩ := ob hf
    refine k_iald C hP (la_Model_peak h0_Model) (ar_Model_peak h0_Model w L _) hx7 dX9_addMinute_51 ?_
    exact w_X9_addMinute_j52 C hf _ _ _ hP hS hl
  · have hf := (if_neg c6).symm.trans hf
    refine lv_aload_n C.1 C.2.1 dX9_addMinute_37 rfl (lv_at hl 0 rfl) ?_
    refine k_get (v := .ref (wAd w 96)) C hP (lt_Model h0_Model) (ob_Model h0_Model w L _) rfl iX9 9 (by decide) q872 rfl dX9_addMinute_38 ?_
    refine lv_iload_n C.1 C.2.1 dX9_addMinute_41 rfl (lv_at hl 2 rfl) ?_
    obtain ⟨x13, hx13, hf⟩ := ob hf
    refine k_iald C hP (la_Model_fast h0_Model) (ar_Model_fast h0_Model w L _) hx13 dX9_addMinute_42 ?_
    refine lv_goto (tgt := 52) C.1 C.2.1 dX9_addMinute_43 (by decide) ?_
    exact w_X9_addMinute_j52 C hf _ _ _ hP hS hl
theorem dX9_layExceedances_0 : decode cX9_layExceedances 0 = .ok (.aload_n 0, 1) := by decide +kernel
theorem dX9_layExceedances_1 : decode cX9_layExceedances 1 = .ok (.iconst 0, 1) := by decide +kernel
theorem dX9_layExceedances_2 : decode cX9_layExceedances 2 = .ok (.putfield 83, 3) := by decide +kernel
theorem dX9_layExceedances_5 : decode cX9_layExceedances 5 = .ok (.aload_n 0, 1) := by decide +kernel
theorem dX9_layExceedances_6 : decode cX9_layExceedances 6 = .ok (.iconst 0, 1) := by decide +kernel
theorem dX9_layExceedances_7 : decode cX9_layExceedances 7 = .ok (.putfield 86, 3) := by decide +kernel
theorem dX9_layExceedances_10 : decode cX9_layExceedances 10 = .ok (.iconst 0, 1) := by decide +kernel
theorem dX9_layExceedances_11 : decode cX9_layExceedances 11 = .ok (.istore_n 1, 1) := by decide +kernel
theorem dX9_layExceedances_12 : decode cX9_layExceedances 12 = .ok (.iload_n 1, 1) := by decide +kernel
theorem dX9_layExceedances_13 : decode cX9_layExceedances 13 = .ok (.aload_n 0, 1) := by decide +kernel
theorem dX9_layExceedances_14 : decode cX9_layExceedances 14 = .ok (.getfield 80, 3) := by decide +kernel
theorem dX9_layExceedances_17 : decode cX9_layExceedances 17 = .ok (.if_icmp .ge 146, 3) := by decide +kernel
theorem dX9_layExceedances_20 : decode cX9_layExceedances 20 = .ok (.aload_n 0, 1) := by decide +kernel
theorem dX9_layExceedances_21 : decode cX9_layExceedances 21 = .ok (.getfield 31, 3) := by decide +kernel
theorem dX9_layExceedances_24 : decode cX9_layExceedances 24 = .ok (.iload_n 1, 1) := by decide +kernel
theorem dX9_layExceedances_25 : decode cX9_layExceedances 25 = .ok (.aload_n 0, 1) := by decide +kernel
theorem dX9_layExceedances_26 : decode cX9_layExceedances 26 = .ok (.iload_n 1, 1) := by decide +kernel
theorem dX9_layExceedances_27 : decode cX9_layExceedances 27 = .ok (.invokevirtual 90, 3) := by decide +kernel
theorem dX9_layExceedances_30 : decode cX9_layExceedances 30 = .ok (.iastore, 1) := by decide +kernel
theorem dX9_layExceedances_31 : decode cX9_layExceedances 31 = .ok (.aload_n 0, 1) := by decide +kernel
theorem dX9_layExceedances_32 : decode cX9_layExceedances 32 = .ok (.getfield 34, 3) := by decide +kernel
theorem dX9_layExceedances_35 : decode cX9_layExceedances 35 = .ok (.iload_n 1, 1) := by decide +kernel
theorem dX9_layExceedances_36 : decode cX9_layExceedances 36 = .ok (.iconst (-1), 1) := by decide +kernel
theorem dX9_layExceedances_37 : decode cX9_layExceedances 37 = .ok (.iastore, 1) := by decide +kernel
theorem dX9_layExceedances_38 : decode cX9_layExceedances 38 = .ok (.aload_n 0, 1) := by decide +kernel
theorem dX9_layExceedances_39 : decode cX9_layExceedances 39 = .ok (.getfield 31, 3) := by decide +kernel
theorem dX9_layExceedances_42 : decode cX9_layExceedances 42 = .ok (.iload_n 1, 1) := by decide +kernel
theorem dX9_layExceedances_43 : decode cX9_layExceedances 43 = .ok (.iaload, 1) := by decide +kernel
theorem dX9_layExceedances_44 : decode cX9_layExceedances 44 = .ok (.ifCond .ne 79, 3) := by decide +kernel
theorem dX9_layExceedances_47 : decode cX9_layExceedances 47 = .ok (.aload_n 0, 1) := by decide +kernel
theorem dX9_layExceedances_48 : decode cX9_layExceedances 48 = .ok (.getfield 86, 3) := by decide +kernel
theorem dX9_layExceedances_51 : decode cX9_layExceedances 51 = .ok (.ifCond .ne 58, 3) := by decide +kernel
theorem dX9_layExceedances_54 : decode cX9_layExceedances 54 = .ok (.aload_n 0, 1) := by decide +kernel
theorem dX9_layExceedances_55 : decode cX9_layExceedances 55 = .ok (.getfield 37, 3) := by decide +kernel
theorem dX9_layExceedances_58 : decode cX9_layExceedances 58 = .ok (.aload_n 0, 1) := by decide +kernel
theorem dX9_layExceedances_59 : decode cX9_layExceedances 59 = .ok (.getfield 83, 3) := by decide +kernel
theorem dX9_layExceedances_62 : decode cX9_layExceedances 62 = .ok (.iload_n 1, 1) := by decide +kernel
theorem dX9_layExceedances_63 : decode cX9_layExceedances 63 = .ok (.iastore, 1) := by decide +kernel
theorem dX9_layExceedances_64 : decode cX9_layExceedances 64 = .ok (.aload_n 0, 1) := by decide +kernel
theorem dX9_layExceedances_65 : decode cX9_layExceedances 65 = .ok (.getfield 43, 3) := by decide +kernel
theorem dX9_layExceedances_68 : decode cX9_layExceedances 68 = .ok (.aload_n 0, 1) := by decide +kernel
theorem dX9_layExceedances_69 : decode cX9_layExceedances 69 = .ok (.getfield 83, 3) := by decide +kernel
theorem dX9_layExceedances_72 : decode cX9_layExceedances 72 = .ok (.iconst 0, 1) := by decide +kernel
theorem dX9_layExceedances_73 : decode cX9_layExceedances 73 = .ok (.iastore, 1) := by decide +kernel
theorem dX9_layExceedances_74 : decode cX9_layExceedances 74 = .ok (.aload_n 0, 1) := by decide +kernel
theorem dX9_layExceedances_75 : decode cX9_layExceedances 75 = .ok (.getfield 46, 3) := by decide +kernel
theorem dX9_layExceedances_78 : decode cX9_layExceedances 78 = .ok (.aload_n 0, 1) := by decide +kernel
theorem dX9_layExceedances_79 : decode cX9_layExceedances 79 = .ok (.getfield 83, 3) := by decide +kernel
theorem dX9_layExceedances_82 : decode cX9_layExceedances 82 = .ok (.iconst 0, 1) := by decide +kernel
theorem dX9_layExceedances_83 : decode cX9_layExceedances 83 = .ok (.iastore, 1) := by decide +kernel
theorem dX9_layExceedances_84 : decode cX9_layExceedances 84 = .ok (.aload_n 0, 1) := by decide +kernel
theorem dX9_layExceedances_85 : decode cX9_layExceedances 85 = .ok (.getfield 49, 3) := by decide +kernel
theorem dX9_layExceedances_88 : decode cX9_layExceedances 88 = .ok (.aload_n 0, 1) := by decide +kernel
theorem dX9_layExceedances_89 : decode cX9_layExceedances 89 = .ok (.getfield 83, 3) := by decide +kernel
theorem dX9_layExceedances_92 : decode cX9_layExceedances 92 = .ok (.iconst 0, 1) := by decide +kernel
theorem dX9_layExceedances_93 : decode cX9_layExceedances 93 = .ok (.iastore, 1) := by decide +kernel
theorem dX9_layExceedances_94 : decode cX9_layExceedances 94 = .ok (.aload_n 0, 1) := by decide +kernel
theorem dX9_layExceedances_95 : decode cX9_layExceedances 95 = .ok (.dup, 1) := by decide +kernel
theorem dX9_layExceedances_96 : decode cX9_layExceedances 96 = .ok (.getfield 83, 3) := by decide +kernel
theorem dX9_layExceedances_99 : decode cX9_layExceedances 99 = .ok (.iconst 1, 1) := by decide +kernel
theorem dX9_layExceedances_100 : decode cX9_layExceedances 100 = .ok (.iadd, 1) := by decide +kernel
theorem dX9_layExceedances_101 : decode cX9_layExceedances 101 = .ok (.putfield 83, 3) := by decide +kernel
theorem dX9_layExceedances_104 : decode cX9_layExceedances 104 = .ok (.aload_n 0, 1) := by decide +kernel
theorem dX9_layExceedances_105 : decode cX9_layExceedances 105 = .ok (.iconst 1, 1) := by decide +kernel
theorem dX9_layExceedances_106 : decode cX9_layExceedances 106 = .ok (.putfield 86, 3) := by decide +kernel
theorem dX9_layExceedances_109 : decode cX9_layExceedances 109 = .ok (.aload_n 0, 1) := by decide +kernel
theorem dX9_layExceedances_110 : decode cX9_layExceedances 110 = .ok (.aload_n 0, 1) := by decide +kernel
theorem dX9_layExceedances_111 : decode cX9_layExceedances 111 = .ok (.getfield 83, 3) := by decide +kernel
theorem dX9_layExceedances_114 : decode cX9_layExceedances 114 = .ok (.iconst 1, 1) := by decide +kernel
theorem dX9_layExceedances_115 : decode cX9_layExceedances 115 = .ok (.isub, 1) := by decide +kernel
theorem dX9_layExceedances_116 : decode cX9_layExceedances 116 = .ok (.iload_n 1, 1) := by decide +kernel
theorem dX9_layExceedances_117 : decode cX9_layExceedances 117 = .ok (.invokevirtual 93, 3) := by decide +kernel
theorem dX9_layExceedances_120 : decode cX9_layExceedances 120 = .ok (.goto 37, 3) := by decide +kernel
theorem dX9_layExceedances_123 : decode cX9_layExceedances 123 = .ok (.aload_n 0, 1) := by decide +kernel
theorem dX9_layExceedances_124 : decode cX9_layExceedances 124 = .ok (.getfield 86, 3) := by decide +kernel
theorem dX9_layExceedances_127 : decode cX9_layExceedances 127 = .ok (.ifCond .eq 30, 3) := by decide +kernel
theorem dX9_layExceedances_130 : decode cX9_layExceedances 130 = .ok (.iload_n 1, 1) := by decide +kernel
theorem dX9_layExceedances_131 : decode cX9_layExceedances 131 = .ok (.aload_n 0, 1) := by decide +kernel
theorem dX9_layExceedances_132 : decode cX9_layExceedances 132 = .ok (.getfield 40, 3) := by decide +kernel
theorem dX9_layExceedances_135 : decode cX9_layExceedances 135 = .ok (.aload_n 0, 1) := by decide +kernel
theorem dX9_layExceedances_136 : decode cX9_layExceedances 136 = .ok (.getfield 83, 3) := by decide +kernel
theorem dX9_layExceedances_139 : decode cX9_layExceedances 139 = .ok (.iconst 1, 1) := by decide +kernel
theorem dX9_layExceedances_140 : decode cX9_layExceedances 140 = .ok (.isub, 1) := by decide +kernel
theorem dX9_layExceedances_141 : decode cX9_layExceedances 141 = .ok (.iaload, 1) := by decide +kernel
theorem dX9_layExceedances_142 : decode cX9_layExceedances 142 = .ok (.isub, 1) := by decide +kernel
theorem dX9_layExceedances_143 : decode cX9_layExceedances 143 = .ok (.aload_n 0, 1) := by decide +kernel
theorem dX9_layExceedances_144 : decode cX9_layExceedances 144 = .ok (.bipush 6, 2) := by decide +kernel
theorem dX9_layExceedances_146 : decode cX9_layExceedances 146 = .ok (.invokevirtual 69, 3) := by decide +kernel
theorem dX9_layExceedances_149 : decode cX9_layExceedances 149 = .ok (.if_icmp .ne 8, 3) := by decide +kernel
theorem dX9_layExceedances_152 : decode cX9_layExceedances 152 = .ok (.aload_n 0, 1) := by decide +kernel
theorem dX9_layExceedances_153 : decode cX9_layExceedances 153 = .ok (.iconst 0, 1) := by decide +kernel
theorem dX9_layExceedances_154 : decode cX9_layExceedances 154 = .ok (.putfield 86, 3) := by decide +kernel
theorem dX9_layExceedances_157 : decode cX9_layExceedances 157 = .ok (.iinc 1 1, 3) := by decide +kernel
theorem dX9_layExceedances_160 : decode cX9_layExceedances 160 = .ok (.goto (-148), 3) := by decide +kernel
theorem dX9_layExceedances_163 : decode cX9_layExceedances 163 = .ok (.iconst 0, 1) := by decide +kernel
theorem dX9_layExceedances_164 : decode cX9_layExceedances 164 = .ok (.istore_n 1, 1) := by decide +kernel
theorem dX9_layExceedances_165 : decode cX9_layExceedances 165 = .ok (.iload_n 1, 1) := by decide +kernel
theorem dX9_layExceedances_166 : decode cX9_layExceedances 166 = .ok (.aload_n 0, 1) := by decide +kernel
theorem dX9_layExceedances_167 : decode cX9_layExceedances 167 = .ok (.getfield 83, 3) := by decide +kernel
theorem dX9_layExceedances_170 : decode cX9_layExceedances 170 = .ok (.if_icmp .ge 39, 3) := by decide +kernel
theorem dX9_layExceedances_173 : decode cX9_layExceedances 173 = .ok (.aload_n 0, 1) := by decide +kernel
theorem dX9_layExceedances_174 : decode cX9_layExceedances 174 = .ok (.getfield 37, 3) := by decide +kernel
theorem dX9_layExceedances_177 : decode cX9_layExceedances 177 = .ok (.iload_n 1, 1) := by decide +kernel
theorem dX9_layExceedances_178 : decode cX9_layExceedances 178 = .ok (.iaload, 1) := by decide +kernel
theorem dX9_layExceedances_179 : decode cX9_layExceedances 179 = .ok (.istore_n 2, 1) := by decide +kernel
theorem dX9_layExceedances_180 : decode cX9_layExceedances 180 = .ok (.iload_n 2, 1) := by decide +kernel
theorem dX9_layExceedances_181 : decode cX9_layExceedances 181 = .ok (.aload_n 0, 1) := by decide +kernel
theorem dX9_layExceedances_182 : decode cX9_layExceedances 182 = .ok (.getfield 40, 3) := by decide +kernel
theorem dX9_layExceedances_185 : decode cX9_layExceedances 185 = .ok (.iload_n 1, 1) := by decide +kernel
theorem dX9_layExceedances_186 : decode cX9_layExceedances 186 = .ok (.iaload, 1) := by decide +kernel
theorem dX9_layExceedances_187 : decode cX9_layExceedances 187 = .ok (.if_icmp .gt 16, 3) := by decide +kernel
theorem dX9_layExceedances_190 : decode cX9_layExceedances 190 = .ok (.aload_n 0, 1) := by decide +kernel
theorem dX9_layExceedances_191 : decode cX9_layExceedances 191 = .ok (.getfield 34, 3) := by decide +kernel
theorem dX9_layExceedances_194 : decode cX9_layExceedances 194 = .ok (.iload_n 2, 1) := by decide +kernel
theorem dX9_layExceedances_195 : decode cX9_layExceedances 195 = .ok (.iload_n 1, 1) := by decide +kernel
theorem dX9_layExceedances_196 : decode cX9_layExceedances 196 = .ok (.iastore, 1) := by decide +kernel
theorem dX9_layExceedances_197 : decode cX9_layExceedances 197 = .ok (.iinc 2 1, 3) := by decide +kernel
theorem dX9_layExceedances_200 : decode cX9_layExceedances 200 = .ok (.goto (-20), 3) := by decide +kernel
theorem dX9_layExceedances_203 : decode cX9_layExceedances 203 = .ok (.iinc 1 1, 3) := by decide +kernel
theorem dX9_layExceedances_206 : decode cX9_layExceedances 206 = .ok (.goto (-41), 3) := by decide +kernel
theorem dX9_layExceedances_209 : decode cX9_layExceedances 209 = .ok (.return_, 1) := by decide +kernel
set_option maxHeartbeats 4000000 in
set_option maxRecDepth 100000 in
theorem w_X9_layExceedances_j157 {w : WT} {l : Launch} {p : Program} {e : Env} {s : State} {m : MethodId} {args : Array Value} {below : List Frame} {meth : Method} {c : Code} (C : KC w p s m args meth c cX9_layExceedances 3 RX9 none) {v1 : Int32} {M : Mem} {L : Lng} {Q : State → Prop} {o : (Int32 × Mem) ⊕ (Mem)} (hf : f_X9_layExceedances_j157 v1 M = some o) (hA : ∀ z, o = .inl z → AtL w p l e ({ frames := 4, cells := 0, slots := 0, locals := 85 } : Room) s m args below meth c Q 3 12 z.2 L [(0, .ref (wAd w 90)), (1, .int z.1)] []) (hE : ∀ y, o = .inr y → AtL w p l e ({ frames := 4, cells := 0, slots := 0, locals := 85 } : Room) s m args below meth c Q 3 163 y L [(0, .ref (wAd w 90))] []) : AtL w p l e ({ frames := 4, cells := 0, slots := 0, locals := 85 } : Room) s m args below meth c Q 3 157 M L [(0, .ref (wAd w 90)), (1, .int v1)] [] := by
  intro H locs ls hP hS hl
  unfold f_X9_layExceedances_j157 at hf
  refine lv_iinc (v := (v1 + 1)) (lv' := [(1, .int (v1 + 1)), (0, .ref (wAd w 90))]) C.1 C.2.1 dX9_layExceedances_157 hl (k := 1) rfl rfl (by decide) rfl (fun ls hl => ?_)
  refine lv_goto (tgt := 12) C.1 C.2.1 dX9_layExceedances_160 (by decide) ?_
  cases hf
  exact hA _ rfl _ _ _ hP hS (lv_sub hl [1, 0] rfl)
set_option maxHeartbeats 4000000 in
set_option maxRecDepth 100000 in
theorem w_X9_layExceedances_j109 {w : WT} {l : Launch} {p : Program} {e : Env} {s : State} {m : MethodId} {args : Array Value} {below : List Frame} {meth : Method} {c : Code} (C : KC w p s m args meth c cX9_layExceedances 3 RX9 none) {v1 : Int32} {M : Mem} {L : Lng} {Q : State → Prop} {o : (Int32 × Mem) ⊕ (Mem)} (hf : f_X9_layExceedances_j109 v1 M = some o) (hA : ∀ z, o = .inl z → AtL w p l e ({ frames := 4, cells := 0, slots := 0, locals := 85 } : Room) s m args below meth c Q 3 12 z.2 L [(0, .ref (wAd w 90)), (1, .int z.1)] []) (hE : ∀ y, o = .inr y → AtL w p l e ({ frames := 4, cells := 0, slots := 0, locals := 85 } : Room) s m args below meth c Q 3 163 y L [(0, .ref (wAd w 90))] []) : AtL w p l e ({ frames := 4, cells := 0, slots := 0, locals := 85 } : Room) s m args below meth c Q 3 109 M L [(0, .ref (wAd w 90)), (1, .int v1)] [] := by
  intro H locs ls hP hS hl
  unfold f_X9_layExceedances_j109 at hf
  refine lv_aload_n C.1 C.2.1 dX9_layExceedances_109 rfl (lv_at hl 0 rfl) ?_
  refine lv_aload_n C.1 C.2.1 dX9_layExceedances_110 rfl (lv_at hl 0 rfl) ?_
  refine k_get (v := .int (M 90 13)) C hP (lt_Model h0_Model) (ob_Model h0_Model w L _) rfl iX9 13 (by decide) q876 rfl dX9_layExceedances_111 ?_
  refine lv_iconst (v := 1) C.1 C.2.1 dX9_layExceedances_114 (by decide) ?_
  refine lv_isub C.1 C.2.1 dX9_layExceedances_115 ?_
  refine lv_iload_n C.1 C.2.1 dX9_layExceedances_116 rfl (lv_at hl 1 rfl) ?_
  obtain ⟨r15, hr15, hf⟩ := ob hf
  refine kcv (kV (As := [.int ((M 90 13) - 1), .int v1]) (rest := []) C hl.1 hP hS (c_X9_addMinute w l C.2.2.2.2.2.2.2.2 (L := L) hr15) (gV q1020 q1022 qp34 q10 q1023) hd_X9_addMinute (lt_Model h0_Model) (ob_Model h0_Model w L _) rfl ⟨rfl, rfl⟩ ⟨Nat.le_of_ble_eq_true rfl, Nat.le_of_ble_eq_true rfl⟩ rfl rfl (Nat.le_of_ble_eq_true rfl) dX9_layExceedances_117 ⟨Nat.zero_le _, Nat.zero_le _⟩) hS (fun H locs hP hS => ?_)
  refine lv_goto (tgt := 157) C.1 C.2.1 dX9_layExceedances_120 (by decide) ?_
  exact w_X9_layExceedances_j157 C hf hA hE _ _ _ hP hS hl
set_option maxHeartbeats 4000000 in
set_option maxRecDepth 100000 in
theorem w_X9_layExceedances_l12 {w : WT} {l : Launch} {p : Program} {e : Env} {s : State} {m : MethodId} {args : Array Value} {below : List Frame} {meth : Method} {c : Code} (C : KC w p s m args meth c cX9_layExceedances 3 RX9 none) {L : Lng} {Q : State → Prop} (z : Int32 × Mem) (o : (Int32 × Mem) ⊕ (Mem)) (hf : f_X9_layExceedances_l12 z = some o) (hA : ∀ z, o = .inl z → AtL w p l e ({ frames := 4, cells := 0, slots := 0, locals := 85 } : Room) s m args below meth c Q 3 12 z.2 L [(0, .ref (wAd w 90)), (1, .int z.1)] []) (hE : ∀ y, o = .inr y → AtL w p l e ({ frames := 4, cells := 0, slots := 0, locals := 85 } : Room) s m args below meth c Q 3 163 y L [(0, .ref (wAd w 90))] []) : AtL w p l e ({ frames := 4, cells := 0, slots := 0, locals := 85 } : Room) s m args below meth c Q 3 12 z.2 L [(0, .ref (wAd w 90)), (1, .int z.1)] [] := by
  intro H locs ls hP hS hl
  unfold f_X9_layExceedances_l12 at hf
  refine lv_iload_n C.1 C.2.1 dX9_layExceedances_12 rfl (lv_at hl 1 rfl) ?_
  refine lv_aload_n C.1 C.2.1 dX9_layExceedances_13 rfl (lv_at hl 0 rfl) ?_
  refine k_get (v := .int (z.2 90 6)) C hP (lt_Model h0_Model) (ob_Model h0_Model w L _) rfl iX9 6 (by decide) q869 rfl dX9_layExceedances_14 ?_
  refine lv_icmp_ge (tgt := 163) C.1 C.2.1 dX9_layExceedances_17 (by decide) (fun c3 => ?_) (fun c3 => ?_)
  · have hf := (if_pos c3).symm.trans hf
    cases hf
    exact hE _ rfl _ _ _ hP hS (lv_sub hl [0] rfl)
  · have hf := (if_neg c3).symm.trans hf
    refine lv_aload_n C.1 C.2.1 dX9_layExceedances_20 rfl (lv_at hl 0 rfl) ?_
    refine k_get (v := .ref (wAd w 98)) C hP (lt_Model h0_Model) (ob_Model h0_Model w L _) rfl iX9 11 (by decide) q874 rfl dX9_layExceedances_21 ?_
    refine lv_iload_n C.1 C.2.1 dX9_layExceedances_24 rfl (lv_at hl 1 rfl) ?_
    refine lv_aload_n C.1 C.2.1 dX9_layExceedances_25 rfl (lv_at hl 0 rfl) ?_
    refine lv_iload_n C.1 C.2.1 dX9_layExceedances_26 rfl (lv_at hl 1 rfl) ?_
    obtain ⟨r4, hr4, hf⟩ := ob hf
    refine kci (kV (As := [.int z.1]) (rest := [.int z.1, .ref (wAd w 98)]) C hl.1 hP hS (c_X9_whyNot w l C.2.2.2.2.2.2.2.2 (L := L) hr4) (gV q1008 q1010 qp31 q10 q1011) hd_X9_whyNot (lt_Model h0_Model) (ob_Model h0_Model w L _) rfl ⟨rfl, rfl⟩ ⟨Nat.le_of_ble_eq_true rfl, Nat.le_of_ble_eq_true rfl⟩ rfl rfl (Nat.le_of_ble_eq_true rfl) dX9_layExceedances_27 ⟨Nat.zero_le _, Nat.zero_le _⟩) hS (fun H locs hP hS => ?_)
    obtain ⟨M5, hM5, hf⟩ := ob hf
    refine k_iast C hP hS (la_Model_why h0_Model) (ar_Model_why h0_Model w L) hM5 dX9_layExceedances_30 (fun H locs hP hS => ?_)
    refine lv_aload_n C.1 C.2.1 dX9_layExceedances_31 rfl (lv_at hl 0 rfl) ?_
    refine k_get (v := .ref (wAd w 99)) C hP (lt_Model h0_Model) (ob_Model h0_Model w L _) rfl iX9 12 (by decide) q875 rfl dX9_layExceedances_32 ?_
    refine lv_iload_n C.1 C.2.1 dX9_layExceedances_35 rfl (lv_at hl 1 rfl) ?_
    refine lv_iconst (v := (-1)) C.1 C.2.1 dX9_layExceedances_36 (by decide) ?_
    obtain ⟨M6, hM6, hf⟩ := ob hf
    refine k_iast C hP hS (la_Model_partOf h0_Model) (ar_Model_partOf h0_Model w L) hM6 dX9_layExceedances_37 (fun H locs hP hS => ?_)
    refine lv_aload_n C.1 C.2.1 dX9_layExceedances_38 rfl (lv_at hl 0 rfl) ?_
    refine k_get (v := .ref (wAd w 98)) C hP (lt_Model h0_Model) (ob_Model h0_Model w L _) rfl iX9 11 (by decide) q874 rfl dX9_layExceedances_39 ?_
    refine lv_iload_n C.1 C.2.1 dX9_layExceedances_42 rfl (lv_at hl 1 rfl) ?_
    obtain ⟨x7, hx7, hf⟩ := ob hf
    refine k_iald C hP (la_Model_why h0_Model) (ar_Model_why h0_Model w L _) hx7 dX9_layExceedances_43 ?_
    refine lv_if_ne (tgt := 123) C.1 C.2.1 dX9_layExceedances_44 (by decide) (fun c8 => ?_) (fun c8 => ?_)
    · have hf := (if_neg c8).symm.trans hf
      refine lv_aload_n C.1 C.2.1 dX9_layExceedances_123 rfl (lv_at hl 0 rfl) ?_
      refine k_get (v := .int (M6 90 19)) C hP (lt_Model h0_Model) (ob_Model h0_Model w L _) rfl iX9 19 (by decide) q882 rfl dX9_layExceedances_124 ?_
      refine lv_if_eq (tgt := 157) C.1 C.2.1 dX9_layExceedances_127 (by decide) (fun c9 => ?_) (fun c9 => ?_)
      · have hf := (if_pos c9).symm.trans hf
        exact w_X9_layExceedances_j157 C hf hA hE _ _ _ hP hS hl
      · have hf := (if_neg c9).symm.trans hf
        refine lv_iload_n C.1 C.2.1 dX9_layExceedances_130 rfl (lv_at hl 1 rfl) ?_
        refine lv_aload_n C.1 C.2.1 dX9_layExceedances_131 rfl (lv_at hl 0 rfl) ?_
        refine k_get (v := .ref (wAd w 101)) C hP (lt_Model h0_Model) (ob_Model h0_Model w L _) rfl iX9 15 (by decide) q878 rfl dX9_layExceedances_132 ?_
        refine lv_aload_n C.1 C.2.1 dX9_layExceedances_135 rfl (lv_at hl 0 rfl) ?_
        refine k_get (v := .int (M6 90 13)) C hP (lt_Model h0_Model) (ob_Model h0_Model w L _) rfl iX9 13 (by decide) q876 rfl dX9_layExceedances_136 ?_
        refine lv_iconst (v := 1) C.1 C.2.1 dX9_layExceedances_139 (by decide) ?_
        refine lv_isub C.1 C.2.1 dX9_layExceedances_140 ?_
        obtain ⟨x10, hx10, hf⟩ := ob hf
        refine k_iald C hP (la_Model_last h0_Model) (ar_Model_last h0_Model w L _) hx10 dX9_layExceedances_141 ?_
        refine lv_isub C.1 C.2.1 dX9_layExceedances_142 ?_
        refine lv_aload_n C.1 C.2.1 dX9_layExceedances_143 rfl (lv_at hl 0 rfl) ?_
        refine lv_bipush (v := 6) C.1 C.2.1 dX9_layExceedances_144 (by decide) ?_
        obtain ⟨r11, hr11, hf⟩ := ob hf
        refine kci (kV (As := [.int 6]) (rest := [.int (z.1 - x10)]) C hl.1 hP hS (c_X9_of w l C.2.2.2.2.2.2.2.2 (L := L) hr11) (gV q973 q975 qp25 q10 q976) hd_X9_of (lt_Model h0_Model) (ob_Model h0_Model w L _) rfl ⟨rfl, rfl⟩ ⟨Nat.le_of_ble_eq_true rfl, Nat.le_of_ble_eq_true rfl⟩ rfl rfl (Nat.le_of_ble_eq_true rfl) dX9_layExceedances_146 ⟨Nat.zero_le _, Nat.zero_le _⟩) hS (fun H locs hP hS => ?_)
        refine lv_icmp_ne (tgt := 157) C.1 C.2.1 dX9_layExceedances_149 (by decide) (fun c12 => ?_) (fun c12 => ?_)
        · have hf := (if_neg c12).symm.trans hf
          exact w_X9_layExceedances_j157 C hf hA hE _ _ _ hP hS hl
        · have hf := (if_pos c12).symm.trans hf
          refine lv_aload_n C.1 C.2.1 dX9_layExceedances_152 rfl (lv_at hl 0 rfl) ?_
          refine lv_iconst (v := 0) C.1 C.2.1 dX9_layExceedances_153 (by decide) ?_
          obtain ⟨M13, hM13, hf⟩ := ob hf
          refine k_putz C hP hS (lt_Model h0_Model) (fun row => ob_Model h0_Model w L row) rfl iX9 tyX9 tyX9_ok nmX9 19 (by decide) q882 rfl rfl (Nat.le_of_ble_eq_true rfl) rfl hM13 dX9_layExceedances_154 (fun H locs hP hS => ?_)
          exact w_X9_layExceedances_j157 C hf hA hE _ _ _ hP hS hl
    · have hf := (if_pos c8).symm.trans hf
      refine lv_aload_n C.1 C.2.1 dX9_layExceedances_47 rfl (lv_at hl 0 rfl) ?_
      refine k_get (v := .int (M6 90 19)) C hP (lt_Model h0_Model) (ob_Model h0_Model w L _) rfl iX9 19 (by decide) q882 rfl dX9_layExceedances_48 ?_
      refine lv_if_ne (tgt := 109) C.1 C.2.1 dX9_layExceedances_51 (by decide) (fun c14 => ?_) (fun c14 => ?_)
      · have hf := (if_neg c14).symm.trans hf
        exact w_X9_layExceedances_j109 C hf hA hE _ _ _ hP hS hl
      · have hf := (if_pos c14).symm.trans hf
        refine lv_aload_n C.1 C.2.1 dX9_layExceedances_54 rfl (lv_at hl 0 rfl) ?_
        refine k_get (v := .ref (wAd w 100)) C hP (lt_Model h0_Model) (ob_Model h0_Model w L _) rfl iX9 14 (by decide) q877 rfl dX9_layExceedances_55 ?_
        refine lv_aload_n C.1 C.2.1 dX9_layExceedances_58 rfl (lv_at hl 0 rfl) ?_
        refine k_get (v := .int (M6 90 13)) C hP (lt_Model h0_Model) (ob_Model h0_Model w L _) rfl iX9 13 (by decide) q876 rfl dX9_layExceedances_59 ?_
        refine lv_iload_n C.1 C.2.1 dX9_layExceedances_62 rfl (lv_at hl 1 rfl) ?_
        obtain ⟨M16, hM16, hf⟩ := ob hf
        refine k_iast C hP hS (la_Model_first h0_Model) (ar_Model_first h0_Model w L) hM16 dX9_layExceedances_63 (fun H locs hP hS => ?_)
        refine lv_aload_n C.1 C.2.1 dX9_layExceedances_64 rfl (lv_at hl 0 rfl) ?_
        refine k_get (v := .ref (wAd w 102)) C hP (lt_Model h0_Model) (ob_Model h0_Model w L _) rfl iX9 16 (by decide) q879 rfl dX9_layExceedances_65 ?_
        refine lv_aload_n C.1 C.2.1 dX9_layExceedances_68 rfl (lv_at hl 0 rfl) ?_
        refine k_get (v := .int (M16 90 13)) C hP (lt_Model h0_Model) (ob_Model h0_Model w L _) rfl iX9 13 (by decide) q876 rfl dX9_layExceedances_69 ?_
        refine lv_iconst (v := 0) C.1 C.2.1 dX9_layExceedances_72 (by decide) ?_
        obtain ⟨M17, hM17, hf⟩ := ob hf
        refine k_iast C hP hS (la_Model_above h0_Model) (ar_Model_above h0_Model w L) hM17 dX9_layExceedances_73 (fun H locs hP hS => ?_)
        refine lv_aload_n C.1 C.2.1 dX9_layExceedances_74 rfl (lv_at hl 0 rfl) ?_
        refine k_get (v := .ref (wAd w 103)) C hP (lt_Model h0_Model) (ob_Model h0_Model w L _) rfl iX9 17 (by decide) q880 rfl dX9_layExceedances_75 ?_
        refine lv_aload_n C.1 C.2.1 dX9_layExceedances_78 rfl (lv_at hl 0 rfl) ?_
        refine k_get (v := .int (M17 90 13)) C hP (lt_Model h0_Model) (ob_Model h0_Model w L _) rfl iX9 13 (by decide) q876 rfl dX9_layExceedances_79 ?_
        refine lv_iconst (v := 0) C.1 C.2.1 dX9_layExceedances_82 (by decide) ?_
        obtain ⟨M18, hM18, hf⟩ := ob hf
        refine k_iast C hP hS (la_Model_peak h0_Model) (ar_Model_peak h0_Model w L) hM18 dX9_layExceedances_83 (fun H locs hP hS => ?_)
        refine lv_aload_n C.1 C.2.1 dX9_layExceedances_84 rfl (lv_at hl 0 rfl) ?_
        refine k_get (v := .ref (wAd w 104)) C hP (lt_Model h0_Model) (ob_Model h0_Model w L _) rfl iX9 18 (by decide) q881 rfl dX9_layExceedances_85 ?_
        refine lv_aload_n C.1 C.2.1 dX9_layExceedances_88 rfl (lv_at hl 0 rfl) ?_
        refine k_get (v := .int (M18 90 13)) C hP (lt_Model h0_Model) (ob_Model h0_Model w L _) rfl iX9 13 (by decide) q876 rfl dX9_layExceedances_89 ?_
        refine lv_iconst (v := 0) C.1 C.2.1 dX9_layExceedances_92 (by decide) ?_
        obtain ⟨M19, hM19, hf⟩ := ob hf
        refine k_iast C hP hS (la_Model_weight h0_Model) (ar_Model_weight h0_Model w L) hM19 dX9_layExceedances_93 (fun H locs hP hS => ?_)
        refine lv_aload_n C.1 C.2.1 dX9_layExceedances_94 rfl (lv_at hl 0 rfl) ?_
        refine lv_dup C.1 C.2.1 dX9_layExceedances_95 rfl ?_
        refine k_get (v := .int (M19 90 13)) C hP (lt_Model h0_Model) (ob_Model h0_Model w L _) rfl iX9 13 (by decide) q876 rfl dX9_layExceedances_96 ?_
        refine lv_iconst (v := 1) C.1 C.2.1 dX9_layExceedances_99 (by decide) ?_
        refine lv_iadd C.1 C.2.1 dX9_layExceedances_100 ?_
        obtain ⟨M20, hM20, hf⟩ := ob hf
        refine k_puti C hP hS (lt_Model h0_Model) (fun row => ob_Model h0_Model w L row) rfl iX9 tyX9 tyX9_ok nmX9 13 (by decide) q876 rfl rfl (Nat.le_of_ble_eq_true rfl) rfl hM20 dX9_layExceedances_101 (fun H locs hP hS => ?_)
        refine lv_aload_n C.1 C.2.1 dX9_layExceedances_104 rfl (lv_at hl 0 rfl) ?_
        refine lv_iconst (v := 1) C.1 C.2.1 dX9_layExceedances_105 (by decide) ?_
        obtain ⟨M21, hM21, hf⟩ := ob hf
        refine k_putz C hP hS (lt_Model h0_Model) (fun row => ob_Model h0_Model w L row) rfl iX9 tyX9 tyX9_ok nmX9 19 (by decide) q882 rfl rfl (Nat.le_of_ble_eq_true rfl) rfl hM21 dX9_layExceedances_106 (fun H locs hP hS => ?_)
        exact w_X9_layExceedances_j109 C hf hA hE _ _ _ hP hS hl
set_option maxHeartbeats 4000000 in
set_option maxRecDepth 100000 in
theorem w_X9_layExceedances_l180 {w : WT} {l : Launch} {p : Program} {e : Env} {s : State} {m : MethodId} {args : Array Value} {below : List Frame} {meth : Method} {c : Code} (C : KC w p s m args meth c cX9_layExceedances 3 RX9 none) {v1 : Int32} {L : Lng} {Q : State → Prop} (z : Int32 × Mem) (o : (Int32 × Mem) ⊕ (Mem)) (hf : f_X9_layExceedances_l180 v1 z = some o) (hA : ∀ z, o = .inl z → AtL w p l e ({ frames := 4, cells := 0, slots := 0, locals := 85 } : Room) s m args below meth c Q 3 180 z.2 L [(0, .ref (wAd w 90)), (1, .int v1), (2, .int z.1)] []) (hE : ∀ y, o = .inr y → AtL w p l e ({ frames := 4, cells := 0, slots := 0, locals := 85 } : Room) s m args below meth c Q 3 203 y L [(0, .ref (wAd w 90)), (1, .int v1)] []) : AtL w p l e ({ frames := 4, cells := 0, slots := 0, locals := 85 } : Room) s m args below meth c Q 3 180 z.2 L [(0, .ref (wAd w 90)), (1, .int v1), (2, .int z.1)] [] := by
  intro H locs ls hP hS hl
  unfold f_X9_layExceedances_l180 at hf
  refine lv_iload_n C.1 C.2.1 dX9_layExceedances_180 rfl (lv_at hl 2 rfl) ?_
  refine lv_aload_n C.1 C.2.1 dX9_layExceedances_181 rfl (lv_at hl 0 rfl) ?_
  refine k_get (v := .ref (wAd w 101)) C hP (lt_Model h0_Model) (ob_Model h0_Model w L _) rfl iX9 15 (by decide) q878 rfl dX9_layExceedances_182 ?_
  refine lv_iload_n C.1 C.2.1 dX9_layExceedances_185 rfl (lv_at hl 1 rfl) ?_
  obtain ⟨x25, hx25, hf⟩ := ob hf
  refine k_iald C hP (la_Model_last h0_Model) (ar_Model_last h0_Model w L _) hx25 dX9_layExceedances_186 ?_
  refine lv_icmp_gt (tgt := 203) C.1 C.2.1 dX9_layExceedances_187 (by decide) (fun c26 => ?_) (fun c26 => ?_)
  · have hf := (if_pos c26).symm.trans hf
    cases hf
    exact hE _ rfl _ _ _ hP hS (lv_sub hl [0, 1] rfl)
  · have hf := (if_neg c26).symm.trans hf
    refine lv_aload_n C.1 C.2.1 dX9_layExceedances_190 rfl (lv_at hl 0 rfl) ?_
    refine k_get (v := .ref (wAd w 99)) C hP (lt_Model h0_Model) (ob_Model h0_Model w L _) rfl iX9 12 (by decide) q875 rfl dX9_layExceedances_191 ?_
    refine lv_iload_n C.1 C.2.1 dX9_layExceedances_194 rfl (lv_at hl 2 rfl) ?_
    refine lv_iload_n C.1 C.2.1 dX9_layExceedances_195 rfl (lv_at hl 1 rfl) ?_
    obtain ⟨M27, hM27, hf⟩ := ob hf
    refine k_iast C hP hS (la_Model_partOf h0_Model) (ar_Model_partOf h0_Model w L) hM27 dX9_layExceedances_196 (fun H locs hP hS => ?_)
    refine lv_iinc (v := (z.1 + 1)) (lv' := [(2, .int (z.1 + 1)), (0, .ref (wAd w 90)), (1, .int v1)]) C.1 C.2.1 dX9_layExceedances_197 hl (k := 2) rfl rfl (by decide) rfl (fun ls hl => ?_)
    refine lv_goto (tgt := 180) C.1 C.2.1 dX9_layExceedances_200 (by decide) ?_
    cases hf
    exact hA _ rfl _ _ _ hP hS (lv_sub hl [1, 2, 0] rfl)
set_option maxHeartbeats 4000000 in
set_option maxRecDepth 100000 in
theorem w_X9_layExceedances_l165 {w : WT} {l : Launch} {p : Program} {e : Env} {s : State} {m : MethodId} {args : Array Value} {below : List Frame} {meth : Method} {c : Code} (C : KC w p s m args meth c cX9_layExceedances 3 RX9 none) {L : Lng} {Q : State → Prop} (z : Int32 × Mem) (o : (Int32 × Mem) ⊕ (Mem)) (hf : f_X9_layExceedances_l165 z = some o) (hA : ∀ z, o = .inl z → AtL w p l e ({ frames := 4, cells := 0, slots := 0, locals := 85 } : Room) s m args below meth c Q 3 165 z.2 L [(0, .ref (wAd w 90)), (1, .int z.1)] []) (hE : ∀ y, o = .inr y → AtL w p l e ({ frames := 4, cells := 0, slots := 0, locals := 85 } : Room) s m args below meth c Q 3 209 y L [] []) : AtL w p l e ({ frames := 4, cells := 0, slots := 0, locals := 85 } : Room) s m args below meth c Q 3 165 z.2 L [(0, .ref (wAd w 90)), (1, .int z.1)] [] := by
  intro H locs ls hP hS hl
  unfold f_X9_layExceedances_l165 at hf
  refine lv_iload_n C.1 C.2.1 dX9_layExceedances_165 rfl (lv_at hl 1 rfl) ?_
  refine lv_aload_n C.1 C.2.1 dX9_layExceedances_166 rfl (lv_at hl 0 rfl) ?_
  refine k_get (v := .int (z.2 90 13)) C hP (lt_Model h0_Model) (ob_Model h0_Model w L _) rfl iX9 13 (by decide) q876 rfl dX9_layExceedances_167 ?_
  refine lv_icmp_ge (tgt := 209) C.1 C.2.1 dX9_layExceedances_170 (by decide) (fun c23 => ?_) (fun c23 => ?_)
  · have hf := (if_pos c23).symm.trans hf
    cases hf
    exact hE _ rfl _ _ _ hP hS (lv_sub hl [] rfl)
  · have hf := (if_neg c23).symm.trans hf
    refine lv_aload_n C.1 C.2.1 dX9_layExceedances_173 rfl (lv_at hl 0 rfl) ?_
    refine k_get (v := .ref (wAd w 100)) C hP (lt_Model h0_Model) (ob_Model h0_Model w L _) rfl iX9 14 (by decide) q877 rfl dX9_layExceedances_174 ?_
    refine lv_iload_n C.1 C.2.1 dX9_layExceedances_177 rfl (lv_at hl 1 rfl) ?_
    obtain ⟨x24, hx24, hf⟩ := ob hf
    refine k_iald C hP (la_Model_first h0_Model) (ar_Model_first h0_Model w L _) hx24 dX9_layExceedances_178 ?_
    refine lv_istore_n (lv' := [(2, .int x24), (0, .ref (wAd w 90)), (1, .int z.1)]) C.1 C.2.1 dX9_layExceedances_179 rfl hl (by decide) rfl (fun ls hl => ?_)
    obtain ⟨o28, ho28, hf⟩ := ob hf
    refine loop_at (w_X9_layExceedances_l180 C) FU _ o28 ho28 ?_ _ _ _ hP hS (lv_sub hl [1, 2, 0] rfl)
    intro H locs ls hP hS hl
    refine lv_iinc (v := (z.1 + 1)) (lv' := [(1, .int (z.1 + 1)), (0, .ref (wAd w 90))]) C.1 C.2.1 dX9_layExceedances_203 hl (k := 1) rfl rfl (by decide) rfl (fun ls hl => ?_)
    refine lv_goto (tgt := 165) C.1 C.2.1 dX9_layExceedances_206 (by decide) ?_
    cases hf
    exact hA _ rfl _ _ _ hP hS (lv_sub hl [1, 0] rfl)
set_option maxHeartbeats 4000000 in
set_option maxRecDepth 100000 in
theorem c_X9_layExceedances (w : WT) (l : Launch) (hw : WOK w) {M : Mem} {L : Lng} {out : Mem} (hf : f_X9_layExceedances M = some out) : Met l yX9_layExceedances (Cond.code yX9_layExceedances cX9_layExceedances 3 none :: BG) ({ frames := 4, cells := 0, slots := 0, locals := 85 } : Room) (PRE w [.ref (wAd w 90)] M L) (QV w out L) 0 0 (wA w) := by
  refine kEnt hw (by decide +kernel) rfl (Nat.le_of_ble_eq_true rfl) ?_
  intro p e s m args below meth c C ls hl hP
  have hS : va_S (wA w) s.heap s.heap [] := va_S.rf
  have hl : lv_has ls 3 [(0, .ref (wAd w 90))] := hl
  unfold f_X9_layExceedances at hf
  refine lv_aload_n C.1 C.2.1 dX9_layExceedances_0 rfl (lv_at hl 0 rfl) ?_
  refine lv_iconst (v := 0) C.1 C.2.1 dX9_layExceedances_1 (by decide) ?_
  obtain ⟨M1, hM1, hf⟩ := ob hf
  refine k_puti C hP hS (lt_Model h0_Model) (fun row => ob_Model h0_Model w L row) rfl iX9 tyX9 tyX9_ok nmX9 13 (by decide) q876 rfl rfl (Nat.le_of_ble_eq_true rfl) rfl hM1 dX9_layExceedances_2 (fun H locs hP hS => ?_)
  refine lv_aload_n C.1 C.2.1 dX9_layExceedances_5 rfl (lv_at hl 0 rfl) ?_
  refine lv_iconst (v := 0) C.1 C.2.1 dX9_layExceedances_6 (by decide) ?_
  obtain ⟨M2, hM2, hf⟩ := ob hf
  refine k_putz C hP hS (lt_Model h0_Model) (fun row => ob_Model h0_Model w L row) rfl iX9 tyX9 tyX9_ok nmX9 19 (by decide) q882 rfl rfl (Nat.le_of_ble_eq_true rfl) rfl hM2 dX9_layExceedances_7 (fun H locs hP hS => ?_)
  refine lv_iconst (v := 0) C.1 C.2.1 dX9_layExceedances_10 (by decide) ?_
  refine lv_istore_n (lv' := [(1, .int 0), (0, .ref (wAd w 90))]) C.1 C.2.1 dX9_layExceedances_11 rfl hl (by decide) rfl (fun ls hl => ?_)
  obtain ⟨o22, ho22, hf⟩ := ob hf
  refine loop_at (w_X9_layExceedances_l12 C) FU _ o22 ho22 ?_ _ _ _ hP hS (lv_sub hl [1, 0] rfl)
  intro H locs ls hP hS hl
  refine lv_iconst (v := 0) C.1 C.2.1 dX9_layExceedances_163 (by decide) ?_
  refine lv_istore_n (lv' := [(1, .int 0), (0, .ref (wAd w 90))]) C.1 C.2.1 dX9_layExceedances_164 rfl hl (by decide) rfl (fun ls hl => ?_)
  obtain ⟨o29, ho29, hf⟩ := ob hf
  refine loop_at (w_X9_layExceedances_l165 C) FU _ o29 ho29 ?_ _ _ _ hP hS (lv_sub hl [1, 0] rfl)
  intro H locs ls hP hS hl
  cases hf
  exact krv C hP hS dX9_layExceedances_209
