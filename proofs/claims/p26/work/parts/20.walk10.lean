set_option maxHeartbeats 4000000 in
set_option maxRecDepth 100000 in
theorem w_L_act_j95 {w : WT} {l : Launch} {p : Program} {e : Env} {s : State} {m : MethodId} {args : Array Value} {below : List Frame} {meth : Method} {c : Code} (C : KC w p s m args meth c cL_act 14 RL (some .boolean)) {v3 : Int32} {v9 : Int32} {v10 : Int32} {M : Mem} {L : Lng} {out : Int32 × Mem} (hf : f_L_act_j95 v3 v9 v10 M = some out) : AtL w p l e ({ frames := 7, cells := 0, slots := 0, locals := 154 } : Room) s m args below meth c (MQ below (QI w out.1 out.2 L) args s 0 0 (wA w)) 14 95 M L [(0, .ref (wAd w 0)), (3, .int v3), (4, .ref (wAd w 90)), (5, .ref (wAd w 91)), (7, .ref (wAd w 93)), (9, .int v9), (10, .int v10)] [] := by
  intro H locs ls hP hS hl
  unfold f_L_act_j95 at hf
  refine lv_iconst (v := 1) C.1 C.2.1 dL_act_95 (by decide) ?_
  refine lv_iload_n C.1 C.2.1 dL_act_96 rfl (lv_at hl 1 rfl) ?_
  refine lv_bipush (v := 6) C.1 C.2.1 dL_act_97 (by decide) ?_
  refine lv_ishr C.1 C.2.1 dL_act_99 ?_
  refine lv_bipush (v := 12) C.1 C.2.1 dL_act_100 (by decide) ?_
  obtain ⟨r11, hr11, hf⟩ := ob hf
  refine kci (kS (As := [.int (v3 >>> (6 &&& 31)), .int 12]) (rest := [.int 1]) C hl.1 hP hS (c_L_at w l C.2.2.2.2.2.2.2.2 (L := L) hr11) (gS q384 q385 q0 q386) hd_L_at ⟨rfl, rfl⟩ ⟨Nat.le_of_ble_eq_true rfl, Nat.le_of_ble_eq_true rfl⟩ rfl rfl (Nat.le_of_ble_eq_true rfl) dL_act_102 ⟨Nat.zero_le _, Nat.zero_le _⟩) hS (fun H locs hP hS => ?_)
  refine lv_iadd C.1 C.2.1 dL_act_105 ?_
  refine lv_istore (lv' := [(11, .int (1 + r11)), (0, .ref (wAd w 0)), (3, .int v3), (4, .ref (wAd w 90)), (5, .ref (wAd w 91)), (7, .ref (wAd w 93)), (9, .int v9), (10, .int v10)]) C.1 C.2.1 dL_act_106 hl (by decide) rfl (fun ls hl => ?_)
  refine lv_aload C.1 C.2.1 dL_act_108 (lv_at hl 5 rfl) ?_
  refine lv_iconst (v := 0) C.1 C.2.1 dL_act_110 (by decide) ?_
  obtain ⟨x12, hx12, hf⟩ := ob hf
  refine k_iald C hP (C9 C (Nat.le_of_ble_eq_true rfl)) (ar_L93 w L _) hx12 dL_act_111 ?_
  refine lv_iload C.1 C.2.1 dL_act_112 (lv_at hl 0 rfl) ?_
  refine lv_iadd C.1 C.2.1 dL_act_114 ?_
  refine lv_bipush (v := 60) C.1 C.2.1 dL_act_115 (by decide) ?_
  refine lv_icmp_le (tgt := 122) C.1 C.2.1 dL_act_117 (by decide) (fun c13 => ?_) (fun c13 => ?_)
  · have hf := (if_pos c13).symm.trans hf
    refine lv_iconst (v := 0) C.1 C.2.1 dL_act_122 (by decide) ?_
    refine lv_istore (lv' := [(12, .int 0), (11, .int (1 + r11)), (0, .ref (wAd w 0)), (3, .int v3), (4, .ref (wAd w 90)), (5, .ref (wAd w 91)), (7, .ref (wAd w 93)), (9, .int v9), (10, .int v10)]) C.1 C.2.1 dL_act_123 hl (by decide) rfl (fun ls hl => ?_)
    obtain ⟨o21, ho21, hf⟩ := ob hf
    refine loop_at (w_L_act_l125 C) FU _ o21 ho21 ?_ _ _ _ hP hS (lv_sub hl [2, 4, 5, 6, 7, 8, 1, 0] rfl)
    intro H locs ls hP hS hl
    refine lv_aload_n C.1 C.2.1 dL_act_164 rfl (lv_at hl 0 rfl) ?_
    refine lv_iload C.1 C.2.1 dL_act_165 (lv_at hl 2 rfl) ?_
    refine lv_iload C.1 C.2.1 dL_act_167 (lv_at hl 3 rfl) ?_
    refine lv_iload C.1 C.2.1 dL_act_169 (lv_at hl 4 rfl) ?_
    obtain ⟨r22, hr22, hf⟩ := ob hf
    refine kci (kV (As := [.int v9, .int v10, .int (1 + r11)]) (rest := []) C hl.1 hP hS (c_X8_tell w l C.2.2.2.2.2.2.2.2 (L := L) hr22) (gV q629 q630 q631 q1 q632) hd_X8_tell (C9 C (lt_NoisePost h0_NoisePost)) (ob_NoisePost h0_NoisePost w L _) rfl ⟨rfl, rfl⟩ ⟨Nat.le_of_ble_eq_true rfl, Nat.le_of_ble_eq_true rfl⟩ rfl rfl (Nat.le_of_ble_eq_true rfl) dL_act_171 ⟨Nat.zero_le _, Nat.zero_le _⟩) hS (fun H locs hP hS => ?_)
    refine lv_aload C.1 C.2.1 dL_act_174 (lv_at hl 1 rfl) ?_
    refine lv_iconst (v := 0) C.1 C.2.1 dL_act_176 (by decide) ?_
    obtain ⟨x23, hx23, hf⟩ := ob hf
    refine k_iald C hP (C9 C (Nat.le_of_ble_eq_true rfl)) (ar_L93 w L _) hx23 dL_act_177 ?_
    refine lv_icmp_ne (tgt := 185) C.1 C.2.1 dL_act_178 (by decide) (fun c24 => ?_) (fun c24 => ?_)
    · have hf := (if_neg c24).symm.trans hf
      refine lv_iconst (v := 0) C.1 C.2.1 dL_act_185 (by decide) ?_
      cases hf
      exact krz C hP hS bz0 dL_act_186
    · have hf := (if_pos c24).symm.trans hf
      refine lv_iconst (v := 1) C.1 C.2.1 dL_act_181 (by decide) ?_
      refine lv_goto (tgt := 186) C.1 C.2.1 dL_act_182 (by decide) ?_
      cases hf
      exact krz C hP hS bz1 dL_act_186
  · have hf := (if_neg c13).symm.trans hf
    refine lv_iconst (v := 1) C.1 C.2.1 dL_act_120 (by decide) ?_
    cases hf
    exact krz C hP hS bz1 dL_act_121
set_option maxHeartbeats 4000000 in
set_option maxRecDepth 100000 in
theorem w_L_act_l523 {w : WT} {l : Launch} {p : Program} {e : Env} {s : State} {m : MethodId} {args : Array Value} {below : List Frame} {meth : Method} {c : Code} (C : KC w p s m args meth c cL_act 14 RL (some .boolean)) {v11 : Int32} {v12 : Int32} {L : Lng} {Q : State → Prop} (z : Int32 × Mem) (o : (Int32 × Mem) ⊕ (Mem)) (hf : f_L_act_l523 v11 v12 z = some o) (hA : ∀ z, o = .inl z → AtL w p l e ({ frames := 7, cells := 0, slots := 0, locals := 154 } : Room) s m args below meth c Q 14 523 z.2 L [(0, .ref (wAd w 0)), (6, .ref (wAd w 92)), (7, .ref (wAd w 93)), (11, .int v11), (12, .int v12), (13, .int z.1)] []) (hE : ∀ y, o = .inr y → AtL w p l e ({ frames := 7, cells := 0, slots := 0, locals := 154 } : Room) s m args below meth c Q 14 550 y L [(0, .ref (wAd w 0)), (11, .int v11), (12, .int v12)] []) : AtL w p l e ({ frames := 7, cells := 0, slots := 0, locals := 154 } : Room) s m args below meth c Q 14 523 z.2 L [(0, .ref (wAd w 0)), (6, .ref (wAd w 92)), (7, .ref (wAd w 93)), (11, .int v11), (12, .int v12), (13, .int z.1)] [] := by
  intro H locs ls hP hS hl
  unfold f_L_act_l523 at hf
  refine lv_iload C.1 C.2.1 dL_act_523 (lv_at hl 5 rfl) ?_
  refine lv_aload C.1 C.2.1 dL_act_525 (lv_at hl 2 rfl) ?_
  refine lv_iconst (v := 1) C.1 C.2.1 dL_act_527 (by decide) ?_
  obtain ⟨x45, hx45, hf⟩ := ob hf
  refine k_iald C hP (C9 C (Nat.le_of_ble_eq_true rfl)) (ar_L93 w L _) hx45 dL_act_528 ?_
  refine lv_icmp_ge (tgt := 550) C.1 C.2.1 dL_act_529 (by decide) (fun c46 => ?_) (fun c46 => ?_)
  · have hf := (if_pos c46).symm.trans hf
    cases hf
    exact hE _ rfl _ _ _ hP hS (lv_sub hl [0, 3, 4] rfl)
  · have hf := (if_neg c46).symm.trans hf
    refine lv_aload C.1 C.2.1 dL_act_532 (lv_at hl 1 rfl) ?_
    refine lv_iload C.1 C.2.1 dL_act_534 (lv_at hl 5 rfl) ?_
    refine lv_aload C.1 C.2.1 dL_act_536 (lv_at hl 1 rfl) ?_
    refine lv_iload C.1 C.2.1 dL_act_538 (lv_at hl 5 rfl) ?_
    refine lv_iconst (v := 1) C.1 C.2.1 dL_act_540 (by decide) ?_
    refine lv_iadd C.1 C.2.1 dL_act_541 ?_
    obtain ⟨x47, hx47, hf⟩ := ob hf
    refine k_iald C hP (C9 C (Nat.le_of_ble_eq_true rfl)) (ar_L92 w L _) hx47 dL_act_542 ?_
    obtain ⟨M48, hM48, hf⟩ := ob hf
    refine k_iast C hP hS (C9 C (Nat.le_of_ble_eq_true rfl)) (ar_L92 w L) hM48 dL_act_543 (fun H locs hP hS => ?_)
    refine lv_iinc (v := (z.1 + 1)) (lv' := [(13, .int (z.1 + 1)), (0, .ref (wAd w 0)), (6, .ref (wAd w 92)), (7, .ref (wAd w 93)), (11, .int v11), (12, .int v12)]) C.1 C.2.1 dL_act_544 hl (k := 5) rfl rfl (by decide) rfl (fun ls hl => ?_)
    refine lv_goto (tgt := 523) C.1 C.2.1 dL_act_547 (by decide) ?_
    cases hf
    exact hA _ rfl _ _ _ hP hS (lv_sub hl [1, 2, 3, 4, 5, 0] rfl)
set_option maxHeartbeats 4000000 in
set_option maxRecDepth 100000 in
theorem w_L_act_j437 {w : WT} {l : Launch} {p : Program} {e : Env} {s : State} {m : MethodId} {args : Array Value} {below : List Frame} {meth : Method} {c : Code} (C : KC w p s m args meth c cL_act 14 RL (some .boolean)) {s1 : Int32} {s2 : Int32} {s3 : Int32} {M : Mem} {L : Lng} {out : Int32 × Mem} (hf : f_L_act_j437 s1 s2 s3 M = some out) : AtL w p l e ({ frames := 7, cells := 0, slots := 0, locals := 154 } : Room) s m args below meth c (MQ below (QI w out.1 out.2 L) args s 0 0 (wA w)) 14 437 M L [(0, .ref (wAd w 0)), (6, .ref (wAd w 92)), (7, .ref (wAd w 93))] [.int s3, .int s2, .int s1, .ref (wAd w 92)] := by
  intro H locs ls hP hS hl
  unfold f_L_act_j437 at hf
  obtain ⟨r57, hr57, hf⟩ := ob hf
  refine kci (kS (As := [.int s2, .int s3]) (rest := [.int s1, .ref (wAd w 92)]) C hl.1 hP hS (c_L_at w l C.2.2.2.2.2.2.2.2 (L := L) hr57) (gS q384 q385 q0 q386) hd_L_at ⟨rfl, rfl⟩ ⟨Nat.le_of_ble_eq_true rfl, Nat.le_of_ble_eq_true rfl⟩ rfl rfl (Nat.le_of_ble_eq_true rfl) dL_act_437 ⟨Nat.zero_le _, Nat.zero_le _⟩) hS (fun H locs hP hS => ?_)
  obtain ⟨M58, hM58, hf⟩ := ob hf
  refine k_iast C hP hS (C9 C (Nat.le_of_ble_eq_true rfl)) (ar_L92 w L) hM58 dL_act_440 (fun H locs hP hS => ?_)
  refine lv_aload C.1 C.2.1 dL_act_441 (lv_at hl 2 rfl) ?_
  refine lv_iconst (v := 1) C.1 C.2.1 dL_act_443 (by decide) ?_
  refine lv_dup2_11 C.1 C.2.1 dL_act_444 rfl rfl ?_
  obtain ⟨x59, hx59, hf⟩ := ob hf
  refine k_iald C hP (C9 C (Nat.le_of_ble_eq_true rfl)) (ar_L93 w L _) hx59 dL_act_445 ?_
  refine lv_iconst (v := 1) C.1 C.2.1 dL_act_446 (by decide) ?_
  refine lv_iadd C.1 C.2.1 dL_act_447 ?_
  obtain ⟨M60, hM60, hf⟩ := ob hf
  refine k_iast C hP hS (C9 C (Nat.le_of_ble_eq_true rfl)) (ar_L93 w L) hM60 dL_act_448 (fun H locs hP hS => ?_)
  refine lv_aload_n C.1 C.2.1 dL_act_449 rfl (lv_at hl 0 rfl) ?_
  refine lv_aload C.1 C.2.1 dL_act_450 (lv_at hl 1 rfl) ?_
  refine lv_aload C.1 C.2.1 dL_act_452 (lv_at hl 2 rfl) ?_
  refine lv_iconst (v := 1) C.1 C.2.1 dL_act_454 (by decide) ?_
  obtain ⟨x61, hx61, hf⟩ := ob hf
  refine k_iald C hP (C9 C (Nat.le_of_ble_eq_true rfl)) (ar_L93 w L _) hx61 dL_act_455 ?_
  refine lv_iconst (v := 1) C.1 C.2.1 dL_act_456 (by decide) ?_
  refine lv_isub C.1 C.2.1 dL_act_457 ?_
  obtain ⟨x62, hx62, hf⟩ := ob hf
  refine k_iald C hP (C9 C (Nat.le_of_ble_eq_true rfl)) (ar_L92 w L _) hx62 dL_act_458 ?_
  obtain ⟨r63, hr63, hf⟩ := ob hf
  refine kci (kV (As := [.int x62]) (rest := []) C hl.1 hP hS (c_X8_complain w l C.2.2.2.2.2.2.2.2 (L := L) hr63) (gV q698 q699 q700 q1 q701) hd_X8_complain (C9 C (lt_NoisePost h0_NoisePost)) (ob_NoisePost h0_NoisePost w L _) rfl ⟨rfl, rfl⟩ ⟨Nat.le_of_ble_eq_true rfl, Nat.le_of_ble_eq_true rfl⟩ rfl rfl (Nat.le_of_ble_eq_true rfl) dL_act_459 ⟨Nat.zero_le _, Nat.zero_le _⟩) hS (fun H locs hP hS => ?_)
  refine lv_aload C.1 C.2.1 dL_act_462 (lv_at hl 2 rfl) ?_
  refine lv_iconst (v := 1) C.1 C.2.1 dL_act_464 (by decide) ?_
  obtain ⟨x64, hx64, hf⟩ := ob hf
  refine k_iald C hP (C9 C (Nat.le_of_ble_eq_true rfl)) (ar_L93 w L _) hx64 dL_act_465 ?_
  refine lv_iconst (v := 1) C.1 C.2.1 dL_act_466 (by decide) ?_
  refine lv_isub C.1 C.2.1 dL_act_467 ?_
  refine lv_icmp_ne (tgt := 475) C.1 C.2.1 dL_act_468 (by decide) (fun c65 => ?_) (fun c65 => ?_)
  · have hf := (if_neg c65).symm.trans hf
    refine lv_iconst (v := 0) C.1 C.2.1 dL_act_475 (by decide) ?_
    cases hf
    exact krz C hP hS bz0 dL_act_476
  · have hf := (if_pos c65).symm.trans hf
    refine lv_iconst (v := 1) C.1 C.2.1 dL_act_471 (by decide) ?_
    refine lv_goto (tgt := 476) C.1 C.2.1 dL_act_472 (by decide) ?_
    cases hf
    exact krz C hP hS bz1 dL_act_476
set_option maxHeartbeats 4000000 in
set_option maxRecDepth 100000 in
theorem w_L_act_l292 {w : WT} {l : Launch} {p : Program} {e : Env} {s : State} {m : MethodId} {args : Array Value} {below : List Frame} {meth : Method} {c : Code} (C : KC w p s m args meth c cL_act 14 RL (some .boolean)) {v11 : Int32} {L : Lng} {Q : State → Prop} (z : Int32 × Mem) (o : (Int32 × Mem) ⊕ (Mem)) (hf : f_L_act_l292 v11 z = some o) (hA : ∀ z, o = .inl z → AtL w p l e ({ frames := 7, cells := 0, slots := 0, locals := 154 } : Room) s m args below meth c Q 14 292 z.2 L [(0, .ref (wAd w 0)), (4, .ref (wAd w 90)), (5, .ref (wAd w 91)), (6, .ref (wAd w 92)), (7, .ref (wAd w 93)), (11, .int v11), (12, .int z.1)] []) (hE : ∀ y, o = .inr y → AtL w p l e ({ frames := 7, cells := 0, slots := 0, locals := 154 } : Room) s m args below meth c Q 14 333 y L [(0, .ref (wAd w 0)), (6, .ref (wAd w 92)), (7, .ref (wAd w 93)), (11, .int v11)] []) : AtL w p l e ({ frames := 7, cells := 0, slots := 0, locals := 154 } : Room) s m args below meth c Q 14 292 z.2 L [(0, .ref (wAd w 0)), (4, .ref (wAd w 90)), (5, .ref (wAd w 91)), (6, .ref (wAd w 92)), (7, .ref (wAd w 93)), (11, .int v11), (12, .int z.1)] [] := by
  intro H locs ls hP hS hl
  unfold f_L_act_l292 at hf
  refine lv_iload C.1 C.2.1 dL_act_292 (lv_at hl 6 rfl) ?_
  refine lv_aload C.1 C.2.1 dL_act_294 (lv_at hl 4 rfl) ?_
  refine lv_iconst (v := 0) C.1 C.2.1 dL_act_296 (by decide) ?_
  obtain ⟨x71, hx71, hf⟩ := ob hf
  refine k_iald C hP (C9 C (Nat.le_of_ble_eq_true rfl)) (ar_L93 w L _) hx71 dL_act_297 ?_
  refine lv_icmp_ge (tgt := 333) C.1 C.2.1 dL_act_298 (by decide) (fun c72 => ?_) (fun c72 => ?_)
  · have hf := (if_pos c72).symm.trans hf
    cases hf
    exact hE _ rfl _ _ _ hP hS (lv_sub hl [0, 3, 4, 5] rfl)
  · have hf := (if_neg c72).symm.trans hf
    refine lv_aload C.1 C.2.1 dL_act_301 (lv_at hl 1 rfl) ?_
    refine lv_iload C.1 C.2.1 dL_act_303 (lv_at hl 6 rfl) ?_
    refine lv_aload C.1 C.2.1 dL_act_305 (lv_at hl 1 rfl) ?_
    refine lv_iload C.1 C.2.1 dL_act_307 (lv_at hl 6 rfl) ?_
    refine lv_iload C.1 C.2.1 dL_act_309 (lv_at hl 5 rfl) ?_
    refine lv_iadd C.1 C.2.1 dL_act_311 ?_
    obtain ⟨x73, hx73, hf⟩ := ob hf
    refine k_iald C hP (C9 C (Nat.le_of_ble_eq_true rfl)) (ar_L90 w L _) hx73 dL_act_312 ?_
    obtain ⟨M74, hM74, hf⟩ := ob hf
    refine k_iast C hP hS (C9 C (Nat.le_of_ble_eq_true rfl)) (ar_L90 w L) hM74 dL_act_313 (fun H locs hP hS => ?_)
    refine lv_aload C.1 C.2.1 dL_act_314 (lv_at hl 2 rfl) ?_
    refine lv_iload C.1 C.2.1 dL_act_316 (lv_at hl 6 rfl) ?_
    refine lv_aload C.1 C.2.1 dL_act_318 (lv_at hl 2 rfl) ?_
    refine lv_iload C.1 C.2.1 dL_act_320 (lv_at hl 6 rfl) ?_
    refine lv_iload C.1 C.2.1 dL_act_322 (lv_at hl 5 rfl) ?_
    refine lv_iadd C.1 C.2.1 dL_act_324 ?_
    obtain ⟨x75, hx75, hf⟩ := ob hf
    refine k_iald C hP (C9 C (Nat.le_of_ble_eq_true rfl)) (ar_L91 w L _) hx75 dL_act_325 ?_
    obtain ⟨M76, hM76, hf⟩ := ob hf
    refine k_iast C hP hS (C9 C (Nat.le_of_ble_eq_true rfl)) (ar_L91 w L) hM76 dL_act_326 (fun H locs hP hS => ?_)
    refine lv_iinc (v := (z.1 + 1)) (lv' := [(12, .int (z.1 + 1)), (0, .ref (wAd w 0)), (4, .ref (wAd w 90)), (5, .ref (wAd w 91)), (6, .ref (wAd w 92)), (7, .ref (wAd w 93)), (11, .int v11)]) C.1 C.2.1 dL_act_327 hl (k := 6) rfl rfl (by decide) rfl (fun ls hl => ?_)
    refine lv_goto (tgt := 292) C.1 C.2.1 dL_act_330 (by decide) ?_
    cases hf
    exact hA _ rfl _ _ _ hP hS (lv_sub hl [1, 2, 3, 4, 5, 6, 0] rfl)
set_option maxHeartbeats 4000000 in
set_option maxRecDepth 100000 in
theorem w_L_act_j371 {w : WT} {l : Launch} {p : Program} {e : Env} {s : State} {m : MethodId} {args : Array Value} {below : List Frame} {meth : Method} {c : Code} (C : KC w p s m args meth c cL_act 14 RL (some .boolean)) {v11 : Int32} {v12 : Int32} {s1 : Int32} {s2 : Int32} {M : Mem} {L : Lng} {Q : State → Prop} {o : (Int32 × Mem) ⊕ (Mem)} (hf : f_L_act_j371 v11 v12 s1 s2 M = some o) (hA : ∀ z, o = .inl z → AtL w p l e ({ frames := 7, cells := 0, slots := 0, locals := 154 } : Room) s m args below meth c Q 14 336 z.2 L [(0, .ref (wAd w 0)), (6, .ref (wAd w 92)), (7, .ref (wAd w 93)), (11, .int v11), (12, .int z.1)] []) (hE : ∀ y, o = .inr y → AtL w p l e ({ frames := 7, cells := 0, slots := 0, locals := 154 } : Room) s m args below meth c Q 14 378 y L [(0, .ref (wAd w 0)), (7, .ref (wAd w 93)), (11, .int v11)] []) : AtL w p l e ({ frames := 7, cells := 0, slots := 0, locals := 154 } : Room) s m args below meth c Q 14 371 M L [(0, .ref (wAd w 0)), (6, .ref (wAd w 92)), (7, .ref (wAd w 93)), (11, .int v11), (12, .int v12)] [.int s2, .int s1, .ref (wAd w 92)] := by
  intro H locs ls hP hS hl
  unfold f_L_act_j371 at hf
  obtain ⟨M82, hM82, hf⟩ := ob hf
  refine k_iast C hP hS (C9 C (Nat.le_of_ble_eq_true rfl)) (ar_L92 w L) hM82 dL_act_371 (fun H locs hP hS => ?_)
  refine lv_iinc (v := (v12 + 1)) (lv' := [(12, .int (v12 + 1)), (0, .ref (wAd w 0)), (6, .ref (wAd w 92)), (7, .ref (wAd w 93)), (11, .int v11)]) C.1 C.2.1 dL_act_372 hl (k := 4) rfl rfl (by decide) rfl (fun ls hl => ?_)
  refine lv_goto (tgt := 336) C.1 C.2.1 dL_act_375 (by decide) ?_
  cases hf
  exact hA _ rfl _ _ _ hP hS (lv_sub hl [1, 2, 3, 4, 0] rfl)
set_option maxHeartbeats 4000000 in
set_option maxRecDepth 100000 in
theorem w_L_act_l336 {w : WT} {l : Launch} {p : Program} {e : Env} {s : State} {m : MethodId} {args : Array Value} {below : List Frame} {meth : Method} {c : Code} (C : KC w p s m args meth c cL_act 14 RL (some .boolean)) {v11 : Int32} {L : Lng} {Q : State → Prop} (z : Int32 × Mem) (o : (Int32 × Mem) ⊕ (Mem)) (hf : f_L_act_l336 v11 z = some o) (hA : ∀ z, o = .inl z → AtL w p l e ({ frames := 7, cells := 0, slots := 0, locals := 154 } : Room) s m args below meth c Q 14 336 z.2 L [(0, .ref (wAd w 0)), (6, .ref (wAd w 92)), (7, .ref (wAd w 93)), (11, .int v11), (12, .int z.1)] []) (hE : ∀ y, o = .inr y → AtL w p l e ({ frames := 7, cells := 0, slots := 0, locals := 154 } : Room) s m args below meth c Q 14 378 y L [(0, .ref (wAd w 0)), (7, .ref (wAd w 93)), (11, .int v11)] []) : AtL w p l e ({ frames := 7, cells := 0, slots := 0, locals := 154 } : Room) s m args below meth c Q 14 336 z.2 L [(0, .ref (wAd w 0)), (6, .ref (wAd w 92)), (7, .ref (wAd w 93)), (11, .int v11), (12, .int z.1)] [] := by
  intro H locs ls hP hS hl
  unfold f_L_act_l336 at hf
  refine lv_iload C.1 C.2.1 dL_act_336 (lv_at hl 4 rfl) ?_
  refine lv_aload C.1 C.2.1 dL_act_338 (lv_at hl 2 rfl) ?_
  refine lv_iconst (v := 1) C.1 C.2.1 dL_act_340 (by decide) ?_
  obtain ⟨x78, hx78, hf⟩ := ob hf
  refine k_iald C hP (C9 C (Nat.le_of_ble_eq_true rfl)) (ar_L93 w L _) hx78 dL_act_341 ?_
  refine lv_icmp_ge (tgt := 378) C.1 C.2.1 dL_act_342 (by decide) (fun c79 => ?_) (fun c79 => ?_)
  · have hf := (if_pos c79).symm.trans hf
    cases hf
    exact hE _ rfl _ _ _ hP hS (lv_sub hl [0, 2, 3] rfl)
  · have hf := (if_neg c79).symm.trans hf
    refine lv_aload C.1 C.2.1 dL_act_345 (lv_at hl 1 rfl) ?_
    refine lv_iload C.1 C.2.1 dL_act_347 (lv_at hl 4 rfl) ?_
    refine lv_aload C.1 C.2.1 dL_act_349 (lv_at hl 1 rfl) ?_
    refine lv_iload C.1 C.2.1 dL_act_351 (lv_at hl 4 rfl) ?_
    obtain ⟨x80, hx80, hf⟩ := ob hf
    refine k_iald C hP (C9 C (Nat.le_of_ble_eq_true rfl)) (ar_L92 w L _) hx80 dL_act_353 ?_
    refine lv_iload C.1 C.2.1 dL_act_354 (lv_at hl 3 rfl) ?_
    refine lv_icmp_le (tgt := 370) C.1 C.2.1 dL_act_356 (by decide) (fun c81 => ?_) (fun c81 => ?_)
    · have hf := (if_pos c81).symm.trans hf
      refine lv_iconst (v := 0) C.1 C.2.1 dL_act_370 (by decide) ?_
      exact w_L_act_j371 C hf hA hE _ _ _ hP hS hl
    · have hf := (if_neg c81).symm.trans hf
      refine lv_aload C.1 C.2.1 dL_act_359 (lv_at hl 1 rfl) ?_
      refine lv_iload C.1 C.2.1 dL_act_361 (lv_at hl 4 rfl) ?_
      obtain ⟨x83, hx83, hf⟩ := ob hf
      refine k_iald C hP (C9 C (Nat.le_of_ble_eq_true rfl)) (ar_L92 w L _) hx83 dL_act_363 ?_
      refine lv_iload C.1 C.2.1 dL_act_364 (lv_at hl 3 rfl) ?_
      refine lv_isub C.1 C.2.1 dL_act_366 ?_
      refine lv_goto (tgt := 371) C.1 C.2.1 dL_act_367 (by decide) ?_
      exact w_L_act_j371 C hf hA hE _ _ _ hP hS hl
set_option maxHeartbeats 4000000 in
set_option maxRecDepth 100000 in
theorem w_L_act_j274 {w : WT} {l : Launch} {p : Program} {e : Env} {s : State} {m : MethodId} {args : Array Value} {below : List Frame} {meth : Method} {c : Code} (C : KC w p s m args meth c cL_act 14 RL (some .boolean)) {s0 : Int32} {s1 : Int32} {s2 : Int32} {M : Mem} {L : Lng} {out : Int32 × Mem} (hf : f_L_act_j274 s0 s1 s2 M = some out) : AtL w p l e ({ frames := 7, cells := 0, slots := 0, locals := 154 } : Room) s m args below meth c (MQ below (QI w out.1 out.2 L) args s 0 0 (wA w)) 14 274 M L [(0, .ref (wAd w 0)), (4, .ref (wAd w 90)), (5, .ref (wAd w 91)), (6, .ref (wAd w 92)), (7, .ref (wAd w 93))] [.int s2, .int s1, .int s0] := by
  intro H locs ls hP hS hl
  unfold f_L_act_j274 at hf
  obtain ⟨r68, hr68, hf⟩ := ob hf
  refine kci (kS (As := [.int s1, .int s2]) (rest := [.int s0]) C hl.1 hP hS (c_L_at w l C.2.2.2.2.2.2.2.2 (L := L) hr68) (gS q384 q385 q0 q386) hd_L_at ⟨rfl, rfl⟩ ⟨Nat.le_of_ble_eq_true rfl, Nat.le_of_ble_eq_true rfl⟩ rfl rfl (Nat.le_of_ble_eq_true rfl) dL_act_274 ⟨Nat.zero_le _, Nat.zero_le _⟩) hS (fun H locs hP hS => ?_)
  refine lv_iadd C.1 C.2.1 dL_act_277 ?_
  refine lv_istore (lv' := [(11, .int (s0 + r68)), (0, .ref (wAd w 0)), (4, .ref (wAd w 90)), (5, .ref (wAd w 91)), (6, .ref (wAd w 92)), (7, .ref (wAd w 93))]) C.1 C.2.1 dL_act_278 hl (by decide) rfl (fun ls hl => ?_)
  refine lv_aload C.1 C.2.1 dL_act_280 (lv_at hl 5 rfl) ?_
  refine lv_iconst (v := 0) C.1 C.2.1 dL_act_282 (by decide) ?_
  refine lv_dup2_11 C.1 C.2.1 dL_act_283 rfl rfl ?_
  obtain ⟨x69, hx69, hf⟩ := ob hf
  refine k_iald C hP (C9 C (Nat.le_of_ble_eq_true rfl)) (ar_L93 w L _) hx69 dL_act_284 ?_
  refine lv_iload C.1 C.2.1 dL_act_285 (lv_at hl 0 rfl) ?_
  refine lv_isub C.1 C.2.1 dL_act_287 ?_
  obtain ⟨M70, hM70, hf⟩ := ob hf
  refine k_iast C hP hS (C9 C (Nat.le_of_ble_eq_true rfl)) (ar_L93 w L) hM70 dL_act_288 (fun H locs hP hS => ?_)
  refine lv_iconst (v := 0) C.1 C.2.1 dL_act_289 (by decide) ?_
  refine lv_istore (lv' := [(12, .int 0), (11, .int (s0 + r68)), (0, .ref (wAd w 0)), (4, .ref (wAd w 90)), (5, .ref (wAd w 91)), (6, .ref (wAd w 92)), (7, .ref (wAd w 93))]) C.1 C.2.1 dL_act_290 hl (by decide) rfl (fun ls hl => ?_)
  obtain ⟨o77, ho77, hf⟩ := ob hf
  refine loop_at (w_L_act_l292 C) FU _ o77 ho77 ?_ _ _ _ hP hS (lv_sub hl [2, 3, 4, 5, 6, 1, 0] rfl)
  intro H locs ls hP hS hl
  refine lv_iconst (v := 0) C.1 C.2.1 dL_act_333 (by decide) ?_
  refine lv_istore (lv' := [(12, .int 0), (0, .ref (wAd w 0)), (6, .ref (wAd w 92)), (7, .ref (wAd w 93)), (11, .int (s0 + r68))]) C.1 C.2.1 dL_act_334 hl (by decide) rfl (fun ls hl => ?_)
  obtain ⟨o84, ho84, hf⟩ := ob hf
  refine loop_at (w_L_act_l336 C) FU _ o84 ho84 ?_ _ _ _ hP hS (lv_sub hl [1, 2, 3, 4, 0] rfl)
  intro H locs ls hP hS hl
  refine lv_aload_n C.1 C.2.1 dL_act_378 rfl (lv_at hl 0 rfl) ?_
  refine lv_iload C.1 C.2.1 dL_act_379 (lv_at hl 2 rfl) ?_
  obtain ⟨r85, hr85, hf⟩ := ob hf
  refine kci (kV (As := [.int (s0 + r68)]) (rest := []) C hl.1 hP hS (c_X8_forget w l C.2.2.2.2.2.2.2.2 (L := L) hr85) (gV q688 q689 q690 q1 q691) hd_X8_forget (C9 C (lt_NoisePost h0_NoisePost)) (ob_NoisePost h0_NoisePost w L _) rfl ⟨rfl, rfl⟩ ⟨Nat.le_of_ble_eq_true rfl, Nat.le_of_ble_eq_true rfl⟩ rfl rfl (Nat.le_of_ble_eq_true rfl) dL_act_381 ⟨Nat.zero_le _, Nat.zero_le _⟩) hS (fun H locs hP hS => ?_)
  refine lv_aload C.1 C.2.1 dL_act_384 (lv_at hl 1 rfl) ?_
  refine lv_iconst (v := 0) C.1 C.2.1 dL_act_386 (by decide) ?_
  obtain ⟨x86, hx86, hf⟩ := ob hf
  refine k_iald C hP (C9 C (Nat.le_of_ble_eq_true rfl)) (ar_L93 w L _) hx86 dL_act_387 ?_
  refine lv_icmp_ne (tgt := 395) C.1 C.2.1 dL_act_388 (by decide) (fun c87 => ?_) (fun c87 => ?_)
  · have hf := (if_neg c87).symm.trans hf
    refine lv_iconst (v := 0) C.1 C.2.1 dL_act_395 (by decide) ?_
    cases hf
    exact krz C hP hS bz0 dL_act_396
  · have hf := (if_pos c87).symm.trans hf
    refine lv_iconst (v := 1) C.1 C.2.1 dL_act_391 (by decide) ?_
    refine lv_goto (tgt := 396) C.1 C.2.1 dL_act_392 (by decide) ?_
    cases hf
    exact krz C hP hS bz1 dL_act_396
set_option maxHeartbeats 4000000 in
set_option maxRecDepth 100000 in
theorem w_L_act_j80 {w : WT} {l : Launch} {p : Program} {e : Env} {s : State} {m : MethodId} {args : Array Value} {below : List Frame} {meth : Method} {c : Code} (C : KC w p s m args meth c cL_act 14 RL (some .boolean)) {v1 : Int32} {v2 : Int32} {v3 : Int32} {v9 : Int32} {s0 : Int32} {M : Mem} {L : Lng} {out : Int32 × Mem} (hf : f_L_act_j80 v1 v2 v3 v9 s0 M = some out) : AtL w p l e ({ frames := 7, cells := 0, slots := 0, locals := 154 } : Room) s m args below meth c (MQ below (QI w out.1 out.2 L) args s 0 0 (wA w)) 14 80 M L [(0, .ref (wAd w 0)), (1, .int v1), (2, .int v2), (3, .int v3), (4, .ref (wAd w 90)), (5, .ref (wAd w 91)), (6, .ref (wAd w 92)), (7, .ref (wAd w 93)), (8, .ref (wAd w 94)), (9, .int v9)] [.int s0] := by
  intro H locs ls hP hS hl
  unfold f_L_act_j80 at hf
  refine lv_istore (lv' := [(10, .int s0), (0, .ref (wAd w 0)), (1, .int v1), (2, .int v2), (3, .int v3), (4, .ref (wAd w 90)), (5, .ref (wAd w 91)), (6, .ref (wAd w 92)), (7, .ref (wAd w 93)), (8, .ref (wAd w 94)), (9, .int v9)]) C.1 C.2.1 dL_act_80 hl (by decide) rfl (fun ls hl => ?_)
  refine lv_iload_n C.1 C.2.1 dL_act_82 rfl (lv_at hl 2 rfl) ?_
  refine lv_bipush (v := 6) C.1 C.2.1 dL_act_83 (by decide) ?_
  refine lv_icmp_lt (tgt := 95) C.1 C.2.1 dL_act_85 (by decide) (fun c10 => ?_) (fun c10 => ?_)
  · have hf := (if_pos c10).symm.trans hf
    exact w_L_act_j95 C hf _ _ _ hP hS (lv_sub hl [1, 4, 5, 6, 8, 10, 0] rfl)
  · have hf := (if_neg c10).symm.trans hf
    refine lv_aload C.1 C.2.1 dL_act_88 (lv_at hl 8 rfl) ?_
    refine lv_iconst (v := 0) C.1 C.2.1 dL_act_90 (by decide) ?_
    obtain ⟨x25, hx25, hf⟩ := ob hf
    refine k_iald C hP (C9 C (Nat.le_of_ble_eq_true rfl)) (ar_L93 w L _) hx25 dL_act_91 ?_
    refine lv_if_ne (tgt := 187) C.1 C.2.1 dL_act_92 (by decide) (fun c26 => ?_) (fun c26 => ?_)
    · have hf := (if_neg c26).symm.trans hf
      refine lv_iload_n C.1 C.2.1 dL_act_187 rfl (lv_at hl 2 rfl) ?_
      refine lv_bipush (v := 8) C.1 C.2.1 dL_act_188 (by decide) ?_
      refine lv_icmp_ge (tgt := 248) C.1 C.2.1 dL_act_190 (by decide) (fun c27 => ?_) (fun c27 => ?_)
      · have hf := (if_pos c27).symm.trans hf
        refine lv_iload_n C.1 C.2.1 dL_act_248 rfl (lv_at hl 2 rfl) ?_
        refine lv_bipush (v := 8) C.1 C.2.1 dL_act_249 (by decide) ?_
        refine lv_icmp_ne (tgt := 397) C.1 C.2.1 dL_act_251 (by decide) (fun c28 => ?_) (fun c28 => ?_)
        · have hf := (if_neg c28).symm.trans hf
          refine lv_iload_n C.1 C.2.1 dL_act_397 rfl (lv_at hl 2 rfl) ?_
          refine lv_bipush (v := 11) C.1 C.2.1 dL_act_398 (by decide) ?_
          refine lv_icmp_ge (tgt := 477) C.1 C.2.1 dL_act_400 (by decide) (fun c29 => ?_) (fun c29 => ?_)
          · have hf := (if_pos c29).symm.trans hf
            refine lv_iload_n C.1 C.2.1 dL_act_477 rfl (lv_at hl 2 rfl) ?_
            refine lv_bipush (v := 11) C.1 C.2.1 dL_act_478 (by decide) ?_
            refine lv_icmp_ne (tgt := 567) C.1 C.2.1 dL_act_480 (by decide) (fun c30 => ?_) (fun c30 => ?_)
            · have hf := (if_neg c30).symm.trans hf
              refine lv_iload_n C.1 C.2.1 dL_act_567 rfl (lv_at hl 3 rfl) ?_
              refine lv_bipush (v := 10) C.1 C.2.1 dL_act_568 (by decide) ?_
              obtain ⟨r31, hr31, hf⟩ := ob hf
              refine kci (kS (As := [.int v2, .int 10]) (rest := []) C hl.1 hP hS (c_L_at w l C.2.2.2.2.2.2.2.2 (L := L) hr31) (gS q384 q385 q0 q386) hd_L_at ⟨rfl, rfl⟩ ⟨Nat.le_of_ble_eq_true rfl, Nat.le_of_ble_eq_true rfl⟩ rfl rfl (Nat.le_of_ble_eq_true rfl) dL_act_570 ⟨Nat.zero_le _, Nat.zero_le _⟩) hS (fun H locs hP hS => ?_)
              refine lv_istore (lv' := [(11, .int r31), (10, .int s0), (0, .ref (wAd w 0)), (1, .int v1), (2, .int v2), (3, .int v3), (4, .ref (wAd w 90)), (5, .ref (wAd w 91)), (6, .ref (wAd w 92)), (7, .ref (wAd w 93)), (8, .ref (wAd w 94)), (9, .int v9)]) C.1 C.2.1 dL_act_573 hl (by decide) rfl (fun ls hl => ?_)
              refine lv_aload C.1 C.2.1 dL_act_575 (lv_at hl 10 rfl) ?_
              refine lv_iload C.1 C.2.1 dL_act_577 (lv_at hl 0 rfl) ?_
              obtain ⟨x32, hx32, hf⟩ := ob hf
              refine k_iald C hP (C9 C (Nat.le_of_ble_eq_true rfl)) (ar_L94 w L _) hx32 dL_act_579 ?_
              refine lv_istore (lv' := [(12, .int x32), (11, .int r31), (10, .int s0), (0, .ref (wAd w 0)), (1, .int v1), (2, .int v2), (3, .int v3), (4, .ref (wAd w 90)), (5, .ref (wAd w 91)), (6, .ref (wAd w 92)), (7, .ref (wAd w 93)), (8, .ref (wAd w 94)), (9, .int v9)]) C.1 C.2.1 dL_act_580 hl (by decide) rfl (fun ls hl => ?_)
              refine lv_aload C.1 C.2.1 dL_act_582 (lv_at hl 11 rfl) ?_
              refine lv_iload C.1 C.2.1 dL_act_584 (lv_at hl 1 rfl) ?_
              refine lv_iload C.1 C.2.1 dL_act_586 (lv_at hl 1 rfl) ?_
              refine lv_iload_n C.1 C.2.1 dL_act_588 rfl (lv_at hl 6 rfl) ?_
              obtain ⟨r33, hr33, hf⟩ := ob hf
              refine kci (kS (As := [.int r31, .int v3]) (rest := [.int r31, .ref (wAd w 94)]) C hl.1 hP hS (c_L_value w l C.2.2.2.2.2.2.2.2 (L := L) hr33) (gS q509 q510 q0 q511) hd_L_value ⟨rfl, rfl⟩ ⟨Nat.le_of_ble_eq_true rfl, Nat.le_of_ble_eq_true rfl⟩ rfl rfl (Nat.le_of_ble_eq_true rfl) dL_act_589 ⟨Nat.zero_le _, Nat.zero_le _⟩) hS (fun H locs hP hS => ?_)
              obtain ⟨M34, hM34, hf⟩ := ob hf
              refine k_iast C hP hS (C9 C (Nat.le_of_ble_eq_true rfl)) (ar_L94 w L) hM34 dL_act_592 (fun H locs hP hS => ?_)
              refine lv_aload_n C.1 C.2.1 dL_act_593 rfl (lv_at hl 3 rfl) ?_
              refine lv_iload C.1 C.2.1 dL_act_594 (lv_at hl 1 rfl) ?_
              refine lv_aload C.1 C.2.1 dL_act_596 (lv_at hl 11 rfl) ?_
              refine lv_iload C.1 C.2.1 dL_act_598 (lv_at hl 1 rfl) ?_
              obtain ⟨x35, hx35, hf⟩ := ob hf
              refine k_iald C hP (C9 C (Nat.le_of_ble_eq_true rfl)) (ar_L94 w L _) hx35 dL_act_600 ?_
              obtain ⟨r36, hr36, hf⟩ := ob hf
              refine kci (kV (As := [.int r31, .int x35]) (rest := []) C hl.1 hP hS (c_X8_set w l C.2.2.2.2.2.2.2.2 (L := L) hr36) (gV q716 q717 q718 q1 q719) hd_X8_set (C9 C (lt_NoisePost h0_NoisePost)) (ob_NoisePost h0_NoisePost w L _) rfl ⟨rfl, rfl⟩ ⟨Nat.le_of_ble_eq_true rfl, Nat.le_of_ble_eq_true rfl⟩ rfl rfl (Nat.le_of_ble_eq_true rfl) dL_act_601 ⟨Nat.zero_le _, Nat.zero_le _⟩) hS (fun H locs hP hS => ?_)
              refine lv_iload C.1 C.2.1 dL_act_604 (lv_at hl 0 rfl) ?_
              refine lv_icmp_ne (tgt := 613) C.1 C.2.1 dL_act_606 (by decide) (fun c37 => ?_) (fun c37 => ?_)
              · have hf := (if_neg c37).symm.trans hf
                refine lv_iconst (v := 0) C.1 C.2.1 dL_act_613 (by decide) ?_
                cases hf
                exact krz C hP hS bz0 dL_act_614
              · have hf := (if_pos c37).symm.trans hf
                refine lv_iconst (v := 1) C.1 C.2.1 dL_act_609 (by decide) ?_
                refine lv_goto (tgt := 614) C.1 C.2.1 dL_act_610 (by decide) ?_
                cases hf
                exact krz C hP hS bz1 dL_act_614
            · have hf := (if_pos c30).symm.trans hf
              refine lv_aload C.1 C.2.1 dL_act_483 (lv_at hl 8 rfl) ?_
              refine lv_iconst (v := 1) C.1 C.2.1 dL_act_485 (by decide) ?_
              obtain ⟨x38, hx38, hf⟩ := ob hf
              refine k_iald C hP (C9 C (Nat.le_of_ble_eq_true rfl)) (ar_L93 w L _) hx38 dL_act_486 ?_
              refine lv_if_ne (tgt := 492) C.1 C.2.1 dL_act_487 (by decide) (fun c39 => ?_) (fun c39 => ?_)
              · have hf := (if_neg c39).symm.trans hf
                refine lv_iload_n C.1 C.2.1 dL_act_492 rfl (lv_at hl 3 rfl) ?_
                refine lv_aload C.1 C.2.1 dL_act_493 (lv_at hl 8 rfl) ?_
                refine lv_iconst (v := 1) C.1 C.2.1 dL_act_495 (by decide) ?_
                obtain ⟨x40, hx40, hf⟩ := ob hf
                refine k_iald C hP (C9 C (Nat.le_of_ble_eq_true rfl)) (ar_L93 w L _) hx40 dL_act_496 ?_
                obtain ⟨r41, hr41, hf⟩ := ob hf
                refine kci (kS (As := [.int v2, .int x40]) (rest := []) C hl.1 hP hS (c_L_at w l C.2.2.2.2.2.2.2.2 (L := L) hr41) (gS q384 q385 q0 q386) hd_L_at ⟨rfl, rfl⟩ ⟨Nat.le_of_ble_eq_true rfl, Nat.le_of_ble_eq_true rfl⟩ rfl rfl (Nat.le_of_ble_eq_true rfl) dL_act_497 ⟨Nat.zero_le _, Nat.zero_le _⟩) hS (fun H locs hP hS => ?_)
                refine lv_istore (lv' := [(11, .int r41), (10, .int s0), (0, .ref (wAd w 0)), (1, .int v1), (2, .int v2), (3, .int v3), (4, .ref (wAd w 90)), (5, .ref (wAd w 91)), (6, .ref (wAd w 92)), (7, .ref (wAd w 93)), (8, .ref (wAd w 94)), (9, .int v9)]) C.1 C.2.1 dL_act_500 hl (by decide) rfl (fun ls hl => ?_)
                refine lv_aload_n C.1 C.2.1 dL_act_502 rfl (lv_at hl 2 rfl) ?_
                refine lv_iload C.1 C.2.1 dL_act_503 (lv_at hl 0 rfl) ?_
                refine lv_iconst (v := 1) C.1 C.2.1 dL_act_505 (by decide) ?_
                obtain ⟨r42, hr42, hf⟩ := ob hf
                refine kci (kV (As := [.int r41, .int 1]) (rest := []) C hl.1 hP hS (c_X8_complaint w l C.2.2.2.2.2.2.2.2 (L := L) hr42) (gV q454 q455 q456 q1 q457) hd_X8_complaint (C9 C (lt_NoisePost h0_NoisePost)) (ob_NoisePost h0_NoisePost w L _) rfl ⟨rfl, rfl⟩ ⟨Nat.le_of_ble_eq_true rfl, Nat.le_of_ble_eq_true rfl⟩ rfl rfl (Nat.le_of_ble_eq_true rfl) dL_act_506 ⟨Nat.zero_le _, Nat.zero_le _⟩) hS (fun H locs hP hS => ?_)
                refine lv_istore (lv' := [(12, .int r42), (11, .int r41), (10, .int s0), (0, .ref (wAd w 0)), (1, .int v1), (2, .int v2), (3, .int v3), (4, .ref (wAd w 90)), (5, .ref (wAd w 91)), (6, .ref (wAd w 92)), (7, .ref (wAd w 93)), (8, .ref (wAd w 94)), (9, .int v9)]) C.1 C.2.1 dL_act_509 hl (by decide) rfl (fun ls hl => ?_)
                refine lv_aload C.1 C.2.1 dL_act_511 (lv_at hl 10 rfl) ?_
                refine lv_iconst (v := 1) C.1 C.2.1 dL_act_513 (by decide) ?_
                refine lv_dup2_11 C.1 C.2.1 dL_act_514 rfl rfl ?_
                obtain ⟨x43, hx43, hf⟩ := ob hf
                refine k_iald C hP (C9 C (Nat.le_of_ble_eq_true rfl)) (ar_L93 w L _) hx43 dL_act_515 ?_
                refine lv_iconst (v := 1) C.1 C.2.1 dL_act_516 (by decide) ?_
                refine lv_isub C.1 C.2.1 dL_act_517 ?_
                obtain ⟨M44, hM44, hf⟩ := ob hf
                refine k_iast C hP hS (C9 C (Nat.le_of_ble_eq_true rfl)) (ar_L93 w L) hM44 dL_act_518 (fun H locs hP hS => ?_)
                refine lv_iload C.1 C.2.1 dL_act_519 (lv_at hl 1 rfl) ?_
                refine lv_istore (lv' := [(13, .int r41), (12, .int r42), (11, .int r41), (10, .int s0), (0, .ref (wAd w 0)), (1, .int v1), (2, .int v2), (3, .int v3), (4, .ref (wAd w 90)), (5, .ref (wAd w 91)), (6, .ref (wAd w 92)), (7, .ref (wAd w 93)), (8, .ref (wAd w 94)), (9, .int v9)]) C.1 C.2.1 dL_act_521 hl (by decide) rfl (fun ls hl => ?_)
                obtain ⟨o49, ho49, hf⟩ := ob hf
                refine loop_at (w_L_act_l523 C) FU _ o49 ho49 ?_ _ _ _ hP hS (lv_sub hl [4, 10, 11, 2, 1, 0] rfl)
                intro H locs ls hP hS hl
                refine lv_aload_n C.1 C.2.1 dL_act_550 rfl (lv_at hl 0 rfl) ?_
                refine lv_iload C.1 C.2.1 dL_act_551 (lv_at hl 1 rfl) ?_
                obtain ⟨r50, hr50, hf⟩ := ob hf
                refine kci (kV (As := [.int r41]) (rest := []) C hl.1 hP hS (c_X8_withdraw w l C.2.2.2.2.2.2.2.2 (L := L) hr50) (gV q708 q709 q710 q1 q711) hd_X8_withdraw (C9 C (lt_NoisePost h0_NoisePost)) (ob_NoisePost h0_NoisePost w L _) rfl ⟨rfl, rfl⟩ ⟨Nat.le_of_ble_eq_true rfl, Nat.le_of_ble_eq_true rfl⟩ rfl rfl (Nat.le_of_ble_eq_true rfl) dL_act_553 ⟨Nat.zero_le _, Nat.zero_le _⟩) hS (fun H locs hP hS => ?_)
                refine lv_iload C.1 C.2.1 dL_act_556 (lv_at hl 2 rfl) ?_
                refine lv_icmp_ne (tgt := 565) C.1 C.2.1 dL_act_558 (by decide) (fun c51 => ?_) (fun c51 => ?_)
                · have hf := (if_neg c51).symm.trans hf
                  refine lv_iconst (v := 0) C.1 C.2.1 dL_act_565 (by decide) ?_
                  cases hf
                  exact krz C hP hS bz0 dL_act_566
                · have hf := (if_pos c51).symm.trans hf
                  refine lv_iconst (v := 1) C.1 C.2.1 dL_act_561 (by decide) ?_
                  refine lv_goto (tgt := 566) C.1 C.2.1 dL_act_562 (by decide) ?_
                  cases hf
                  exact krz C hP hS bz1 dL_act_566
              · have hf := (if_pos c39).symm.trans hf
                refine lv_iconst (v := 1) C.1 C.2.1 dL_act_490 (by decide) ?_
                cases hf
                exact krz C hP hS bz1 dL_act_491
          · have hf := (if_neg c29).symm.trans hf
            refine lv_aload C.1 C.2.1 dL_act_403 (lv_at hl 8 rfl) ?_
            refine lv_iconst (v := 1) C.1 C.2.1 dL_act_405 (by decide) ?_
            obtain ⟨x52, hx52, hf⟩ := ob hf
            refine k_iald C hP (C9 C (Nat.le_of_ble_eq_true rfl)) (ar_L93 w L _) hx52 dL_act_406 ?_
            refine lv_bipush (v := 6) C.1 C.2.1 dL_act_407 (by decide) ?_
            refine lv_icmp_ne (tgt := 414) C.1 C.2.1 dL_act_409 (by decide) (fun c53 => ?_) (fun c53 => ?_)
            · have hf := (if_neg c53).symm.trans hf
              refine lv_aload C.1 C.2.1 dL_act_414 (lv_at hl 7 rfl) ?_
              refine lv_aload C.1 C.2.1 dL_act_416 (lv_at hl 8 rfl) ?_
              refine lv_iconst (v := 1) C.1 C.2.1 dL_act_418 (by decide) ?_
              obtain ⟨x54, hx54, hf⟩ := ob hf
              refine k_iald C hP (C9 C (Nat.le_of_ble_eq_true rfl)) (ar_L93 w L _) hx54 dL_act_419 ?_
              refine lv_iload_n C.1 C.2.1 dL_act_420 rfl (lv_at hl 4 rfl) ?_
              refine lv_iload_n C.1 C.2.1 dL_act_421 rfl (lv_at hl 3 rfl) ?_
              refine lv_iconst (v := 3) C.1 C.2.1 dL_act_422 (by decide) ?_
              obtain ⟨r55, hr55, hf⟩ := ob hf
              refine kci (kS (As := [.int v2, .int 3]) (rest := [.int v3, .int x54, .ref (wAd w 92)]) C hl.1 hP hS (c_L_at w l C.2.2.2.2.2.2.2.2 (L := L) hr55) (gS q384 q385 q0 q386) hd_L_at ⟨rfl, rfl⟩ ⟨Nat.le_of_ble_eq_true rfl, Nat.le_of_ble_eq_true rfl⟩ rfl rfl (Nat.le_of_ble_eq_true rfl) dL_act_423 ⟨Nat.zero_le _, Nat.zero_le _⟩) hS (fun H locs hP hS => ?_)
              refine lv_if_ne (tgt := 435) C.1 C.2.1 dL_act_426 (by decide) (fun c56 => ?_) (fun c56 => ?_)
              · have hf := (if_neg c56).symm.trans hf
                refine lv_bipush (v := 60) C.1 C.2.1 dL_act_435 (by decide) ?_
                exact w_L_act_j437 C hf _ _ _ hP hS (lv_sub hl [1, 7, 8] rfl)
              · have hf := (if_pos c56).symm.trans hf
                refine lv_sipush (v := 301) C.1 C.2.1 dL_act_429 (by decide) ?_
                refine lv_goto (tgt := 437) C.1 C.2.1 dL_act_432 (by decide) ?_
                exact w_L_act_j437 C hf _ _ _ hP hS (lv_sub hl [1, 7, 8] rfl)
            · have hf := (if_pos c53).symm.trans hf
              refine lv_iconst (v := 1) C.1 C.2.1 dL_act_412 (by decide) ?_
              cases hf
              exact krz C hP hS bz1 dL_act_413
        · have hf := (if_pos c28).symm.trans hf
          refine lv_iconst (v := 1) C.1 C.2.1 dL_act_254 (by decide) ?_
          refine lv_iload_n C.1 C.2.1 dL_act_255 rfl (lv_at hl 4 rfl) ?_
          refine lv_aload C.1 C.2.1 dL_act_256 (lv_at hl 8 rfl) ?_
          refine lv_iconst (v := 0) C.1 C.2.1 dL_act_258 (by decide) ?_
          obtain ⟨x66, hx66, hf⟩ := ob hf
          refine k_iald C hP (C9 C (Nat.le_of_ble_eq_true rfl)) (ar_L93 w L _) hx66 dL_act_259 ?_
          refine lv_bipush (v := 9) C.1 C.2.1 dL_act_260 (by decide) ?_
          refine lv_icmp_ge (tgt := 272) C.1 C.2.1 dL_act_262 (by decide) (fun c67 => ?_) (fun c67 => ?_)
          · have hf := (if_pos c67).symm.trans hf
            refine lv_bipush (v := 9) C.1 C.2.1 dL_act_272 (by decide) ?_
            exact w_L_act_j274 C hf _ _ _ hP hS (lv_sub hl [1, 5, 6, 7, 8] rfl)
          · have hf := (if_neg c67).symm.trans hf
            refine lv_aload C.1 C.2.1 dL_act_265 (lv_at hl 8 rfl) ?_
            refine lv_iconst (v := 0) C.1 C.2.1 dL_act_267 (by decide) ?_
            obtain ⟨x88, hx88, hf⟩ := ob hf
            refine k_iald C hP (C9 C (Nat.le_of_ble_eq_true rfl)) (ar_L93 w L _) hx88 dL_act_268 ?_
            refine lv_goto (tgt := 274) C.1 C.2.1 dL_act_269 (by decide) ?_
            exact w_L_act_j274 C hf _ _ _ hP hS (lv_sub hl [1, 5, 6, 7, 8] rfl)
      · have hf := (if_neg c27).symm.trans hf
        refine lv_iload_n C.1 C.2.1 dL_act_193 rfl (lv_at hl 3 rfl) ?_
        refine lv_bipush (v := 9) C.1 C.2.1 dL_act_194 (by decide) ?_
        refine lv_ishr C.1 C.2.1 dL_act_196 ?_
        refine lv_aload C.1 C.2.1 dL_act_197 (lv_at hl 8 rfl) ?_
        refine lv_iconst (v := 0) C.1 C.2.1 dL_act_199 (by decide) ?_
        obtain ⟨x89, hx89, hf⟩ := ob hf
        refine k_iald C hP (C9 C (Nat.le_of_ble_eq_true rfl)) (ar_L93 w L _) hx89 dL_act_200 ?_
        obtain ⟨r90, hr90, hf⟩ := ob hf
        refine kci (kS (As := [.int (v2 >>> (9 &&& 31)), .int x89]) (rest := []) C hl.1 hP hS (c_L_at w l C.2.2.2.2.2.2.2.2 (L := L) hr90) (gS q384 q385 q0 q386) hd_L_at ⟨rfl, rfl⟩ ⟨Nat.le_of_ble_eq_true rfl, Nat.le_of_ble_eq_true rfl⟩ rfl rfl (Nat.le_of_ble_eq_true rfl) dL_act_201 ⟨Nat.zero_le _, Nat.zero_le _⟩) hS (fun H locs hP hS => ?_)
        refine lv_istore (lv' := [(11, .int r90), (10, .int s0), (0, .ref (wAd w 0)), (1, .int v1), (2, .int v2), (3, .int v3), (4, .ref (wAd w 90)), (5, .ref (wAd w 91)), (6, .ref (wAd w 92)), (7, .ref (wAd w 93)), (8, .ref (wAd w 94)), (9, .int v9)]) C.1 C.2.1 dL_act_204 hl (by decide) rfl (fun ls hl => ?_)
        refine lv_aload C.1 C.2.1 dL_act_206 (lv_at hl 6 rfl) ?_
        refine lv_iload C.1 C.2.1 dL_act_208 (lv_at hl 0 rfl) ?_
        refine lv_iload C.1 C.2.1 dL_act_210 (lv_at hl 11 rfl) ?_
        obtain ⟨M91, hM91, hf⟩ := ob hf
        refine k_iast C hP hS (C9 C (Nat.le_of_ble_eq_true rfl)) (ar_L90 w L) hM91 dL_act_212 (fun H locs hP hS => ?_)
        refine lv_aload C.1 C.2.1 dL_act_213 (lv_at hl 7 rfl) ?_
        refine lv_iload C.1 C.2.1 dL_act_215 (lv_at hl 0 rfl) ?_
        refine lv_iload C.1 C.2.1 dL_act_217 (lv_at hl 1 rfl) ?_
        obtain ⟨M92, hM92, hf⟩ := ob hf
        refine k_iast C hP hS (C9 C (Nat.le_of_ble_eq_true rfl)) (ar_L91 w L) hM92 dL_act_219 (fun H locs hP hS => ?_)
        refine lv_aload_n C.1 C.2.1 dL_act_220 rfl (lv_at hl 2 rfl) ?_
        refine lv_iload C.1 C.2.1 dL_act_221 (lv_at hl 0 rfl) ?_
        refine lv_iload C.1 C.2.1 dL_act_223 (lv_at hl 11 rfl) ?_
        refine lv_iload C.1 C.2.1 dL_act_225 (lv_at hl 1 rfl) ?_
        obtain ⟨r93, hr93, hf⟩ := ob hf
        refine kci (kV (As := [.int r90, .int v9, .int s0]) (rest := []) C hl.1 hP hS (c_X8_correct w l C.2.2.2.2.2.2.2.2 (L := L) hr93) (gV q683 q684 q685 q1 q686) hd_X8_correct (C9 C (lt_NoisePost h0_NoisePost)) (ob_NoisePost h0_NoisePost w L _) rfl ⟨rfl, rfl⟩ ⟨Nat.le_of_ble_eq_true rfl, Nat.le_of_ble_eq_true rfl⟩ rfl rfl (Nat.le_of_ble_eq_true rfl) dL_act_227 ⟨Nat.zero_le _, Nat.zero_le _⟩) hS (fun H locs hP hS => ?_)
        refine lv_istore (lv' := [(12, .int r93.1), (11, .int r90), (10, .int s0), (0, .ref (wAd w 0)), (1, .int v1), (2, .int v2), (3, .int v3), (4, .ref (wAd w 90)), (5, .ref (wAd w 91)), (6, .ref (wAd w 92)), (7, .ref (wAd w 93)), (8, .ref (wAd w 94)), (9, .int v9)]) C.1 C.2.1 dL_act_230 hl (by decide) rfl (fun ls hl => ?_)
        refine lv_iload C.1 C.2.1 dL_act_232 (lv_at hl 0 rfl) ?_
        refine lv_aload_n C.1 C.2.1 dL_act_234 rfl (lv_at hl 3 rfl) ?_
        refine lv_iconst (v := 5) C.1 C.2.1 dL_act_235 (by decide) ?_
        obtain ⟨r94, hr94, hf⟩ := ob hf
        refine kci (kV (As := [.int 5]) (rest := [.int r93.1]) C hl.1 hP hS (c_X8_count w l C.2.2.2.2.2.2.2.2 (L := L) hr94) (gV q292 q293 q294 q1 q295) hd_X8_count (C9 C (lt_NoisePost h0_NoisePost)) (ob_NoisePost h0_NoisePost w L _) rfl ⟨rfl, rfl⟩ ⟨Nat.le_of_ble_eq_true rfl, Nat.le_of_ble_eq_true rfl⟩ rfl rfl (Nat.le_of_ble_eq_true rfl) dL_act_236 ⟨Nat.zero_le _, Nat.zero_le _⟩) hS (fun H locs hP hS => ?_)
        refine lv_icmp_ne (tgt := 246) C.1 C.2.1 dL_act_239 (by decide) (fun c95 => ?_) (fun c95 => ?_)
        · have hf := (if_neg c95).symm.trans hf
          refine lv_iconst (v := 0) C.1 C.2.1 dL_act_246 (by decide) ?_
          cases hf
          exact krz C hP hS bz0 dL_act_247
        · have hf := (if_pos c95).symm.trans hf
          refine lv_iconst (v := 1) C.1 C.2.1 dL_act_242 (by decide) ?_
          refine lv_goto (tgt := 247) C.1 C.2.1 dL_act_243 (by decide) ?_
          cases hf
          exact krz C hP hS bz1 dL_act_247
    · have hf := (if_pos c26).symm.trans hf
      exact w_L_act_j95 C hf _ _ _ hP hS (lv_sub hl [1, 4, 5, 6, 8, 10, 0] rfl)
set_option maxHeartbeats 4000000 in
set_option maxRecDepth 100000 in
theorem w_L_act_j53 {w : WT} {l : Launch} {p : Program} {e : Env} {s : State} {m : MethodId} {args : Array Value} {below : List Frame} {meth : Method} {c : Code} (C : KC w p s m args meth c cL_act 14 RL (some .boolean)) {v1 : Int32} {v2 : Int32} {v3 : Int32} {v9 : Int32} {M : Mem} {L : Lng} {out : Int32 × Mem} (hf : f_L_act_j53 v1 v2 v3 v9 M = some out) : AtL w p l e ({ frames := 7, cells := 0, slots := 0, locals := 154 } : Room) s m args below meth c (MQ below (QI w out.1 out.2 L) args s 0 0 (wA w)) 14 53 M L [(0, .ref (wAd w 0)), (1, .int v1), (2, .int v2), (3, .int v3), (4, .ref (wAd w 90)), (5, .ref (wAd w 91)), (6, .ref (wAd w 92)), (7, .ref (wAd w 93)), (8, .ref (wAd w 94)), (9, .int v9)] [] := by
  intro H locs ls hP hS hl
  unfold f_L_act_j53 at hf
  refine lv_iload_n C.1 C.2.1 dL_act_53 rfl (lv_at hl 3 rfl) ?_
  refine lv_iconst (v := 4) C.1 C.2.1 dL_act_54 (by decide) ?_
  obtain ⟨r7, hr7, hf⟩ := ob hf
  refine kci (kS (As := [.int v3, .int 4]) (rest := []) C hl.1 hP hS (c_L_at w l C.2.2.2.2.2.2.2.2 (L := L) hr7) (gS q384 q385 q0 q386) hd_L_at ⟨rfl, rfl⟩ ⟨Nat.le_of_ble_eq_true rfl, Nat.le_of_ble_eq_true rfl⟩ rfl rfl (Nat.le_of_ble_eq_true rfl) dL_act_55 ⟨Nat.zero_le _, Nat.zero_le _⟩) hS (fun H locs hP hS => ?_)
  refine lv_if_ne (tgt := 72) C.1 C.2.1 dL_act_58 (by decide) (fun c8 => ?_) (fun c8 => ?_)
  · have hf := (if_neg c8).symm.trans hf
    refine lv_iload_n C.1 C.2.1 dL_act_72 rfl (lv_at hl 3 rfl) ?_
    refine lv_iconst (v := 2) C.1 C.2.1 dL_act_73 (by decide) ?_
    refine lv_ishr C.1 C.2.1 dL_act_74 ?_
    refine lv_bipush (v := 12) C.1 C.2.1 dL_act_75 (by decide) ?_
    obtain ⟨r9, hr9, hf⟩ := ob hf
    refine kci (kS (As := [.int (v3 >>> (2 &&& 31)), .int 12]) (rest := []) C hl.1 hP hS (c_L_at w l C.2.2.2.2.2.2.2.2 (L := L) hr9) (gS q384 q385 q0 q386) hd_L_at ⟨rfl, rfl⟩ ⟨Nat.le_of_ble_eq_true rfl, Nat.le_of_ble_eq_true rfl⟩ rfl rfl (Nat.le_of_ble_eq_true rfl) dL_act_77 ⟨Nat.zero_le _, Nat.zero_le _⟩) hS (fun H locs hP hS => ?_)
    exact w_L_act_j80 C hf _ _ _ hP hS hl
  · have hf := (if_pos c8).symm.trans hf
    refine lv_iload_n C.1 C.2.1 dL_act_61 rfl (lv_at hl 3 rfl) ?_
    refine lv_iconst (v := 2) C.1 C.2.1 dL_act_62 (by decide) ?_
    refine lv_ishr C.1 C.2.1 dL_act_63 ?_
    refine lv_bipush (v := 41) C.1 C.2.1 dL_act_64 (by decide) ?_
    obtain ⟨r96, hr96, hf⟩ := ob hf
    refine kci (kS (As := [.int (v3 >>> (2 &&& 31)), .int 41]) (rest := []) C hl.1 hP hS (c_L_at w l C.2.2.2.2.2.2.2.2 (L := L) hr96) (gS q384 q385 q0 q386) hd_L_at ⟨rfl, rfl⟩ ⟨Nat.le_of_ble_eq_true rfl, Nat.le_of_ble_eq_true rfl⟩ rfl rfl (Nat.le_of_ble_eq_true rfl) dL_act_66 ⟨Nat.zero_le _, Nat.zero_le _⟩) hS (fun H locs hP hS => ?_)
    refine lv_goto (tgt := 80) C.1 C.2.1 dL_act_69 (by decide) ?_
    exact w_L_act_j80 C hf _ _ _ hP hS hl
set_option maxHeartbeats 4000000 in
set_option maxRecDepth 100000 in
theorem w_L_act_j37 {w : WT} {l : Launch} {p : Program} {e : Env} {s : State} {m : MethodId} {args : Array Value} {below : List Frame} {meth : Method} {c : Code} (C : KC w p s m args meth c cL_act 14 RL (some .boolean)) {v1 : Int32} {v2 : Int32} {v3 : Int32} {s0 : Int32} {s1 : Int32} {M : Mem} {L : Lng} {out : Int32 × Mem} (hf : f_L_act_j37 v1 v2 v3 s0 s1 M = some out) : AtL w p l e ({ frames := 7, cells := 0, slots := 0, locals := 154 } : Room) s m args below meth c (MQ below (QI w out.1 out.2 L) args s 0 0 (wA w)) 14 37 M L [(0, .ref (wAd w 0)), (1, .int v1), (2, .int v2), (3, .int v3), (4, .ref (wAd w 90)), (5, .ref (wAd w 91)), (6, .ref (wAd w 92)), (7, .ref (wAd w 93)), (8, .ref (wAd w 94))] [.int s1, .int s0] := by
  intro H locs ls hP hS hl
  unfold f_L_act_j37 at hf
  refine lv_iadd C.1 C.2.1 dL_act_37 ?_
  refine lv_istore (lv' := [(9, .int (s0 + s1)), (0, .ref (wAd w 0)), (1, .int v1), (2, .int v2), (3, .int v3), (4, .ref (wAd w 90)), (5, .ref (wAd w 91)), (6, .ref (wAd w 92)), (7, .ref (wAd w 93)), (8, .ref (wAd w 94))]) C.1 C.2.1 dL_act_38 hl (by decide) rfl (fun ls hl => ?_)
  refine lv_iload C.1 C.2.1 dL_act_40 (lv_at hl 0 rfl) ?_
  refine lv_sipush (v := 140) C.1 C.2.1 dL_act_42 (by decide) ?_
  refine lv_icmp_le (tgt := 53) C.1 C.2.1 dL_act_45 (by decide) (fun c6 => ?_) (fun c6 => ?_)
  · have hf := (if_pos c6).symm.trans hf
    exact w_L_act_j53 C hf _ _ _ hP hS (lv_sub hl [1, 2, 3, 4, 5, 6, 7, 8, 9, 0] rfl)
  · have hf := (if_neg c6).symm.trans hf
    refine lv_sipush (v := 140) C.1 C.2.1 dL_act_48 (by decide) ?_
    refine lv_istore (lv' := [(9, .int 140), (0, .ref (wAd w 0)), (1, .int v1), (2, .int v2), (3, .int v3), (4, .ref (wAd w 90)), (5, .ref (wAd w 91)), (6, .ref (wAd w 92)), (7, .ref (wAd w 93)), (8, .ref (wAd w 94))]) C.1 C.2.1 dL_act_51 hl (by decide) rfl (fun ls hl => ?_)
    exact w_L_act_j53 C hf _ _ _ hP hS (lv_sub hl [1, 2, 3, 4, 5, 6, 7, 8, 9, 0] rfl)
set_option maxHeartbeats 4000000 in
set_option maxRecDepth 100000 in
theorem w_L_act_j19 {w : WT} {l : Launch} {p : Program} {e : Env} {s : State} {m : MethodId} {args : Array Value} {below : List Frame} {meth : Method} {c : Code} (C : KC w p s m args meth c cL_act 14 RL (some .boolean)) {v1 : Int32} {v2 : Int32} {v3 : Int32} {s0 : Int32} {s1 : Int32} {M : Mem} {L : Lng} {out : Int32 × Mem} (hf : f_L_act_j19 v1 v2 v3 s0 s1 M = some out) : AtL w p l e ({ frames := 7, cells := 0, slots := 0, locals := 154 } : Room) s m args below meth c (MQ below (QI w out.1 out.2 L) args s 0 0 (wA w)) 14 19 M L [(0, .ref (wAd w 0)), (1, .int v1), (2, .int v2), (3, .int v3), (4, .ref (wAd w 90)), (5, .ref (wAd w 91)), (6, .ref (wAd w 92)), (7, .ref (wAd w 93)), (8, .ref (wAd w 94))] [.int s1, .int s0] := by
  intro H locs ls hP hS hl
  unfold f_L_act_j19 at hf
  obtain ⟨r3, hr3, hf⟩ := ob hf
  refine kci (kS (As := [.int s0, .int s1]) (rest := []) C hl.1 hP hS (c_L_at w l C.2.2.2.2.2.2.2.2 (L := L) hr3) (gS q384 q385 q0 q386) hd_L_at ⟨rfl, rfl⟩ ⟨Nat.le_of_ble_eq_true rfl, Nat.le_of_ble_eq_true rfl⟩ rfl rfl (Nat.le_of_ble_eq_true rfl) dL_act_19 ⟨Nat.zero_le _, Nat.zero_le _⟩) hS (fun H locs hP hS => ?_)
  refine lv_iload_n C.1 C.2.1 dL_act_22 rfl (lv_at hl 2 rfl) ?_
  refine lv_iconst (v := 3) C.1 C.2.1 dL_act_23 (by decide) ?_
  obtain ⟨r4, hr4, hf⟩ := ob hf
  refine kci (kS (As := [.int v2, .int 3]) (rest := [.int r3]) C hl.1 hP hS (c_L_at w l C.2.2.2.2.2.2.2.2 (L := L) hr4) (gS q384 q385 q0 q386) hd_L_at ⟨rfl, rfl⟩ ⟨Nat.le_of_ble_eq_true rfl, Nat.le_of_ble_eq_true rfl⟩ rfl rfl (Nat.le_of_ble_eq_true rfl) dL_act_24 ⟨Nat.zero_le _, Nat.zero_le _⟩) hS (fun H locs hP hS => ?_)
  refine lv_iconst (v := 1) C.1 C.2.1 dL_act_27 (by decide) ?_
  refine lv_icmp_ne (tgt := 36) C.1 C.2.1 dL_act_28 (by decide) (fun c5 => ?_) (fun c5 => ?_)
  · have hf := (if_neg c5).symm.trans hf
    refine lv_iconst (v := 0) C.1 C.2.1 dL_act_36 (by decide) ?_
    exact w_L_act_j37 C hf _ _ _ hP hS hl
  · have hf := (if_pos c5).symm.trans hf
    refine lv_bipush (v := 50) C.1 C.2.1 dL_act_31 (by decide) ?_
    refine lv_goto (tgt := 37) C.1 C.2.1 dL_act_33 (by decide) ?_
    exact w_L_act_j37 C hf _ _ _ hP hS hl
set_option maxHeartbeats 4000000 in
set_option maxRecDepth 100000 in
theorem c_L_act (w : WT) (l : Launch) (hw : WOK w) {a1 : Int32} {a2 : Int32} {a3 : Int32} {M : Mem} {L : Lng} {out : Int32 × Mem} (hf : f_L_act a1 a2 a3 M = some out) : Met l yL_act (Cond.code yL_act cL_act 14 (some .boolean) :: BG) ({ frames := 7, cells := 0, slots := 0, locals := 154 } : Room) (PRE w [.ref (wAd w 0), .int a1, .int a2, .int a3, .ref (wAd w 90), .ref (wAd w 91), .ref (wAd w 92), .ref (wAd w 93), .ref (wAd w 94)] M L) (QI w out.1 out.2 L) 0 0 (wA w) := by
  refine kEnt hw (by decide +kernel) rfl (Nat.le_of_ble_eq_true rfl) ?_
  intro p e s m args below meth c C ls hl hP
  have hS : va_S (wA w) s.heap s.heap [] := va_S.rf
  have hl : lv_has ls 14 [(0, .ref (wAd w 0)), (1, .int a1), (2, .int a2), (3, .int a3), (4, .ref (wAd w 90)), (5, .ref (wAd w 91)), (6, .ref (wAd w 92)), (7, .ref (wAd w 93)), (8, .ref (wAd w 94))] := hl
  unfold f_L_act at hf
  refine lv_iload_n C.1 C.2.1 dL_act_0 rfl (lv_at hl 2 rfl) ?_
  refine lv_iconst (v := 2) C.1 C.2.1 dL_act_1 (by decide) ?_
  refine lv_ishr C.1 C.2.1 dL_act_2 ?_
  refine lv_iload_n C.1 C.2.1 dL_act_3 rfl (lv_at hl 2 rfl) ?_
  refine lv_iconst (v := 3) C.1 C.2.1 dL_act_4 (by decide) ?_
  obtain ⟨r1, hr1, hf⟩ := ob hf
  refine kci (kS (As := [.int a2, .int 3]) (rest := [.int (a2 >>> (2 &&& 31))]) C hl.1 hP hS (c_L_at w l C.2.2.2.2.2.2.2.2 (L := L) hr1) (gS q384 q385 q0 q386) hd_L_at ⟨rfl, rfl⟩ ⟨Nat.le_of_ble_eq_true rfl, Nat.le_of_ble_eq_true rfl⟩ rfl rfl (Nat.le_of_ble_eq_true rfl) dL_act_5 ⟨Nat.zero_le _, Nat.zero_le _⟩) hS (fun H locs hP hS => ?_)
  refine lv_if_ne (tgt := 17) C.1 C.2.1 dL_act_8 (by decide) (fun c2 => ?_) (fun c2 => ?_)
  · have hf := (if_neg c2).symm.trans hf
    refine lv_bipush (v := 60) C.1 C.2.1 dL_act_17 (by decide) ?_
    exact w_L_act_j19 C hf _ _ _ hP hS hl
  · have hf := (if_pos c2).symm.trans hf
    refine lv_sipush (v := 141) C.1 C.2.1 dL_act_11 (by decide) ?_
    refine lv_goto (tgt := 19) C.1 C.2.1 dL_act_14 (by decide) ?_
    exact w_L_act_j19 C hf _ _ _ hP hS hl
