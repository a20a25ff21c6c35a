set_option maxHeartbeats 4000000 in
set_option maxRecDepth 100000 in
theorem w_L_told_j283 {w : WT} {l : Launch} {p : Program} {e : Env} {s : State} {m : MethodId} {args : Array Value} {below : List Frame} {meth : Method} {c : Code} (C : KC w p s m args meth c cL_told 20 RL (some .boolean)) (hN : 99 ≤ wN w) (hT : wN w = 100) {v1 : Int32} {v12 : Int32} {v13 : Int32} {v15 : Int32} {s0 : Int32} {M : Mem} {L : Lng} {Q : State → Prop} {o : (Int32 × Int32) ⊕ (Int32)} (hf : f_L_told_j283 v1 v12 v13 v15 s0 M = some o) (hA : ∀ z, o = .inl z → AtC w p l e ({ frames := 5, cells := 20007, slots := 120258, locals := 139 } : Room) s m args below meth c Q 20 257 M L [(0, .ref (wAd w 0)), (1, .int v1), (2, .ref (wAd w 90)), (3, .ref (wAd w 91)), (4, .ref (wAd w 92)), (5, .ref (wAd w 93)), (6, .ref (wAd w 94)), (7, .ref (wAd w 95)), (8, .ref (wAd w 96)), (9, .ref (wAd w 97)), (10, .ref (wAd w 98)), (11, .ref (wAd w 99)), (12, .int v12), (13, .int v13), (14, .int z.1), (15, .int z.2)] [] 5 246) (hE : ∀ y, o = .inr y → AtC w p l e ({ frames := 5, cells := 20007, slots := 120258, locals := 139 } : Room) s m args below meth c Q 20 291 M L [(0, .ref (wAd w 0)), (1, .int v1), (2, .ref (wAd w 90)), (3, .ref (wAd w 91)), (4, .ref (wAd w 92)), (5, .ref (wAd w 93)), (6, .ref (wAd w 94)), (7, .ref (wAd w 95)), (8, .ref (wAd w 96)), (9, .ref (wAd w 97)), (10, .ref (wAd w 98)), (11, .ref (wAd w 99)), (12, .int v12), (13, .int v13), (14, .int y)] [] 5 246) : AtC w p l e ({ frames := 5, cells := 20007, slots := 120258, locals := 139 } : Room) s m args below meth c Q 20 283 M L [(0, .ref (wAd w 0)), (1, .int v1), (2, .ref (wAd w 90)), (3, .ref (wAd w 91)), (4, .ref (wAd w 92)), (5, .ref (wAd w 93)), (6, .ref (wAd w 94)), (7, .ref (wAd w 95)), (8, .ref (wAd w 96)), (9, .ref (wAd w 97)), (10, .ref (wAd w 98)), (11, .ref (wAd w 99)), (12, .int v12), (13, .int v13), (15, .int v15)] [.int s0] 5 246 := by
  intro H locs ls hP hS hl
  unfold f_L_told_j283 at hf
  refine lv_istore (lv' := [(14, .int s0), (0, .ref (wAd w 0)), (1, .int v1), (2, .ref (wAd w 90)), (3, .ref (wAd w 91)), (4, .ref (wAd w 92)), (5, .ref (wAd w 93)), (6, .ref (wAd w 94)), (7, .ref (wAd w 95)), (8, .ref (wAd w 96)), (9, .ref (wAd w 97)), (10, .ref (wAd w 98)), (11, .ref (wAd w 99)), (12, .int v12), (13, .int v13), (15, .int v15)]) C.1 C.2.1 dL_told_283 hl (by decide) rfl (fun ls hl => ?_)
  refine lv_iinc (v := (v15 + 1)) (lv' := [(15, .int (v15 + 1)), (14, .int s0), (0, .ref (wAd w 0)), (1, .int v1), (2, .ref (wAd w 90)), (3, .ref (wAd w 91)), (4, .ref (wAd w 92)), (5, .ref (wAd w 93)), (6, .ref (wAd w 94)), (7, .ref (wAd w 95)), (8, .ref (wAd w 96)), (9, .ref (wAd w 97)), (10, .ref (wAd w 98)), (11, .ref (wAd w 99)), (12, .int v12), (13, .int v13)]) C.1 C.2.1 dL_told_285 hl (k := 15) rfl rfl (by decide) rfl (fun ls hl => ?_)
  refine lv_goto (tgt := 257) C.1 C.2.1 dL_told_288 (by decide) ?_
  cases hf
  exact hA _ rfl _ _ _ hP hS (lv_sub hl [2, 3, 4, 5, 6, 7, 8, 9, 10, 11, 12, 13, 14, 15, 1, 0] rfl)
set_option maxHeartbeats 4000000 in
set_option maxRecDepth 100000 in
theorem w_L_told_l257 {w : WT} {l : Launch} {p : Program} {e : Env} {s : State} {m : MethodId} {args : Array Value} {below : List Frame} {meth : Method} {c : Code} (C : KC w p s m args meth c cL_told 20 RL (some .boolean)) (hN : 99 ≤ wN w) (hT : wN w = 100) {v1 : Int32} {v12 : Int32} {v13 : Int32} {M : Mem} {L : Lng} {Q : State → Prop} (z : Int32 × Int32) (o : (Int32 × Int32) ⊕ (Int32)) (hf : f_L_told_l257 v1 v12 v13 M z = some o) (hA : ∀ z, o = .inl z → AtC w p l e ({ frames := 5, cells := 20007, slots := 120258, locals := 139 } : Room) s m args below meth c Q 20 257 M L [(0, .ref (wAd w 0)), (1, .int v1), (2, .ref (wAd w 90)), (3, .ref (wAd w 91)), (4, .ref (wAd w 92)), (5, .ref (wAd w 93)), (6, .ref (wAd w 94)), (7, .ref (wAd w 95)), (8, .ref (wAd w 96)), (9, .ref (wAd w 97)), (10, .ref (wAd w 98)), (11, .ref (wAd w 99)), (12, .int v12), (13, .int v13), (14, .int z.1), (15, .int z.2)] [] 5 246) (hE : ∀ y, o = .inr y → AtC w p l e ({ frames := 5, cells := 20007, slots := 120258, locals := 139 } : Room) s m args below meth c Q 20 291 M L [(0, .ref (wAd w 0)), (1, .int v1), (2, .ref (wAd w 90)), (3, .ref (wAd w 91)), (4, .ref (wAd w 92)), (5, .ref (wAd w 93)), (6, .ref (wAd w 94)), (7, .ref (wAd w 95)), (8, .ref (wAd w 96)), (9, .ref (wAd w 97)), (10, .ref (wAd w 98)), (11, .ref (wAd w 99)), (12, .int v12), (13, .int v13), (14, .int y)] [] 5 246) : AtC w p l e ({ frames := 5, cells := 20007, slots := 120258, locals := 139 } : Room) s m args below meth c Q 20 257 M L [(0, .ref (wAd w 0)), (1, .int v1), (2, .ref (wAd w 90)), (3, .ref (wAd w 91)), (4, .ref (wAd w 92)), (5, .ref (wAd w 93)), (6, .ref (wAd w 94)), (7, .ref (wAd w 95)), (8, .ref (wAd w 96)), (9, .ref (wAd w 97)), (10, .ref (wAd w 98)), (11, .ref (wAd w 99)), (12, .int v12), (13, .int v13), (14, .int z.1), (15, .int z.2)] [] 5 246 := by
  intro H locs ls hP hS hl
  unfold f_L_told_l257 at hf
  refine lv_iload C.1 C.2.1 dL_told_257 (lv_at hl 15 rfl) ?_
  refine lv_aload C.1 C.2.1 dL_told_259 (lv_at hl 5 rfl) ?_
  refine lv_iconst (v := 1) C.1 C.2.1 dL_told_261 (by decide) ?_
  obtain ⟨x36, hx36, hf⟩ := ob hf
  refine k_iald C hP (C9 C (Nat.le_of_ble_eq_true rfl)) (ar_L93 w L _) hx36 dL_told_262 ?_
  refine lv_icmp_ge (tgt := 291) C.1 C.2.1 dL_told_263 (by decide) (fun c37 => ?_) (fun c37 => ?_)
  · have hf := (if_pos c37).symm.trans hf
    cases hf
    exact hE _ rfl _ _ _ hP hS (lv_sub hl [0, 1, 2, 3, 4, 5, 6, 7, 8, 9, 10, 11, 12, 13, 14] rfl)
  · have hf := (if_neg c37).symm.trans hf
    refine lv_aload C.1 C.2.1 dL_told_266 (lv_at hl 11 rfl) ?_
    refine lv_iload C.1 C.2.1 dL_told_268 (lv_at hl 15 rfl) ?_
    obtain ⟨x38, hx38, hf⟩ := ob hf
    refine k_iald C hP (by rw [hT]; exact Nat.le_of_ble_eq_true rfl) (ar_L99 w L _) hx38 dL_told_270 ?_
    refine lv_iload C.1 C.2.1 dL_told_271 (lv_at hl 12 rfl) ?_
    refine lv_icmp_ne (tgt := 281) C.1 C.2.1 dL_told_273 (by decide) (fun c39 => ?_) (fun c39 => ?_)
    · have hf := (if_neg c39).symm.trans hf
      refine lv_iload C.1 C.2.1 dL_told_281 (lv_at hl 14 rfl) ?_
      exact w_L_told_j283 C hN hT hf hA hE _ _ _ hP hS (lv_sub hl [0, 1, 2, 3, 4, 5, 6, 7, 8, 9, 10, 11, 12, 13, 15] rfl)
    · have hf := (if_pos c39).symm.trans hf
      refine lv_iload C.1 C.2.1 dL_told_276 (lv_at hl 15 rfl) ?_
      refine lv_goto (tgt := 283) C.1 C.2.1 dL_told_278 (by decide) ?_
      exact w_L_told_j283 C hN hT hf hA hE _ _ _ hP hS (lv_sub hl [0, 1, 2, 3, 4, 5, 6, 7, 8, 9, 10, 11, 12, 13, 15] rfl)
set_option maxHeartbeats 4000000 in
set_option maxRecDepth 100000 in
theorem w_L_told_l320 {w : WT} {l : Launch} {p : Program} {e : Env} {s : State} {m : MethodId} {args : Array Value} {below : List Frame} {meth : Method} {c : Code} (C : KC w p s m args meth c cL_told 20 RL (some .boolean)) (hN : 99 ≤ wN w) (hT : wN w = 100) {v1 : Int32} {v12 : Int32} {v13 : Int32} {M : Mem} {L : Lng} {out : Int32 × Mem} (z : Int32) (o : (Int32) ⊕ ((Unit) ⊕ (Int32 × Mem))) (hf : f_L_told_l320 v1 v12 v13 M z = some o) (hA : ∀ z, o = .inl z → AtC w p l e ({ frames := 5, cells := 20007, slots := 120258, locals := 139 } : Room) s m args below meth c (MQ below (QI w out.1 out.2 L) args s 20007 120258 (wA w)) 20 320 M L [(0, .ref (wAd w 0)), (1, .int v1), (2, .ref (wAd w 90)), (3, .ref (wAd w 91)), (4, .ref (wAd w 92)), (5, .ref (wAd w 93)), (6, .ref (wAd w 94)), (7, .ref (wAd w 95)), (8, .ref (wAd w 96)), (9, .ref (wAd w 97)), (10, .ref (wAd w 98)), (11, .ref (wAd w 99)), (12, .int v12), (13, .int v13), (15, .int z)] [] 5 246) (hE : ∀ y, o = .inr y → Sum.elim (fun y => AtC w p l e ({ frames := 5, cells := 20007, slots := 120258, locals := 139 } : Room) s m args below meth c (MQ below (QI w out.1 out.2 L) args s 20007 120258 (wA w)) 20 366 M L [(0, .ref (wAd w 0)), (1, .int v1), (2, .ref (wAd w 90)), (3, .ref (wAd w 91)), (4, .ref (wAd w 92)), (5, .ref (wAd w 93)), (6, .ref (wAd w 94)), (7, .ref (wAd w 95)), (8, .ref (wAd w 96)), (9, .ref (wAd w 97)), (10, .ref (wAd w 98)), (11, .ref (wAd w 99)), (12, .int v12)] [] 5 246) (fun y => y = out) y) : AtC w p l e ({ frames := 5, cells := 20007, slots := 120258, locals := 139 } : Room) s m args below meth c (MQ below (QI w out.1 out.2 L) args s 20007 120258 (wA w)) 20 320 M L [(0, .ref (wAd w 0)), (1, .int v1), (2, .ref (wAd w 90)), (3, .ref (wAd w 91)), (4, .ref (wAd w 92)), (5, .ref (wAd w 93)), (6, .ref (wAd w 94)), (7, .ref (wAd w 95)), (8, .ref (wAd w 96)), (9, .ref (wAd w 97)), (10, .ref (wAd w 98)), (11, .ref (wAd w 99)), (12, .int v12), (13, .int v13), (15, .int z)] [] 5 246 := by
  intro H locs ls hP hS hl
  unfold f_L_told_l320 at hf
  refine lv_iload C.1 C.2.1 dL_told_320 (lv_at hl 14 rfl) ?_
  refine lv_iconst (v := 4) C.1 C.2.1 dL_told_322 (by decide) ?_
  refine lv_icmp_ge (tgt := 366) C.1 C.2.1 dL_told_323 (by decide) (fun c45 => ?_) (fun c45 => ?_)
  · have hf := (if_pos c45).symm.trans hf
    cases hf
    exact hE _ rfl _ _ _ hP hS (lv_sub hl [0, 1, 2, 3, 4, 5, 6, 7, 8, 9, 10, 11, 12] rfl)
  · have hf := (if_neg c45).symm.trans hf
    refine lv_aload_n C.1 C.2.1 dL_told_326 rfl (lv_at hl 0 rfl) ?_
    refine lv_iload C.1 C.2.1 dL_told_327 (lv_at hl 13 rfl) ?_
    refine lv_iload C.1 C.2.1 dL_told_329 (lv_at hl 14 rfl) ?_
    refine lv_iconst (v := 1) C.1 C.2.1 dL_told_331 (by decide) ?_
    refine lv_iadd C.1 C.2.1 dL_told_332 ?_
    obtain ⟨r46, hr46, hf⟩ := ob hf
    refine kci (kV (As := [.int v13, .int (z + 1)]) (rest := []) C hl.1 hP hS (c_X8_exceedance w l C.2.2.2.2.2.2.2.2 (L := L) hr46) (gV q445 q446 q447 q1 q448) hd_X8_exceedance (C9 C (lt_NoisePost h0_NoisePost)) (ob_NoisePost h0_NoisePost w L _) rfl ⟨rfl, rfl⟩ ⟨Nat.le_of_ble_eq_true rfl, Nat.le_of_ble_eq_true rfl⟩ rfl rfl (Nat.le_of_ble_eq_true rfl) dL_told_333 ⟨Nat.le_of_ble_eq_true rfl, Nat.le_of_ble_eq_true rfl⟩) hS (fun H locs hP hS => ?_)
    refine lv_iload C.1 C.2.1 dL_told_336 (lv_at hl 12 rfl) ?_
    refine lv_iload C.1 C.2.1 dL_told_338 (lv_at hl 14 rfl) ?_
    refine lv_aload C.1 C.2.1 dL_told_340 (lv_at hl 5 rfl) ?_
    refine lv_aload C.1 C.2.1 dL_told_342 (lv_at hl 6 rfl) ?_
    refine lv_aload C.1 C.2.1 dL_told_344 (lv_at hl 7 rfl) ?_
    refine lv_aload C.1 C.2.1 dL_told_346 (lv_at hl 8 rfl) ?_
    refine lv_aload C.1 C.2.1 dL_told_348 (lv_at hl 9 rfl) ?_
    refine lv_aload C.1 C.2.1 dL_told_350 (lv_at hl 10 rfl) ?_
    obtain ⟨r47, hr47, hf⟩ := ob hf
    refine kci (kS (As := [.int v12, .int z, .ref (wAd w 93), .ref (wAd w 94), .ref (wAd w 95), .ref (wAd w 96), .ref (wAd w 97), .ref (wAd w 98)]) (rest := [.int r46]) C hl.1 hP hS (c_L_part w l C.2.2.2.2.2.2.2.2 hN (L := L) hr47) (gS q402 q403 q0 q404) hd_L_part ⟨rfl, rfl⟩ ⟨Nat.le_of_ble_eq_true rfl, Nat.le_of_ble_eq_true rfl⟩ rfl rfl (Nat.le_of_ble_eq_true rfl) dL_told_352 ⟨Nat.le_of_ble_eq_true rfl, Nat.le_of_ble_eq_true rfl⟩) hS (fun H locs hP hS => ?_)
    refine lv_icmp_eq (tgt := 360) C.1 C.2.1 dL_told_355 (by decide) (fun c48 => ?_) (fun c48 => ?_)
    · have hf := (if_pos c48).symm.trans hf
      refine lv_iinc (v := (z + 1)) (lv' := [(15, .int (z + 1)), (0, .ref (wAd w 0)), (1, .int v1), (2, .ref (wAd w 90)), (3, .ref (wAd w 91)), (4, .ref (wAd w 92)), (5, .ref (wAd w 93)), (6, .ref (wAd w 94)), (7, .ref (wAd w 95)), (8, .ref (wAd w 96)), (9, .ref (wAd w 97)), (10, .ref (wAd w 98)), (11, .ref (wAd w 99)), (12, .int v12), (13, .int v13)]) C.1 C.2.1 dL_told_360 hl (k := 14) rfl rfl (by decide) rfl (fun ls hl => ?_)
      refine lv_goto (tgt := 320) C.1 C.2.1 dL_told_363 (by decide) ?_
      cases hf
      exact hA _ rfl _ _ _ hP hS (lv_sub hl [1, 2, 3, 4, 5, 6, 7, 8, 9, 10, 11, 12, 13, 14, 0] rfl)
    · have hf := (if_neg c48).symm.trans hf
      refine lv_iconst (v := 0) C.1 C.2.1 dL_told_358 (by decide) ?_
      cases hf
      cases hE _ rfl
      refine W.widen (k := 20007) (n := 120258) (Nat.le_of_ble_eq_true rfl) (Nat.le_of_ble_eq_true rfl) ?_
      exact krz C hP hS bz0 dL_told_359
set_option maxHeartbeats 4000000 in
set_option maxRecDepth 100000 in
theorem w_L_told_j366 {w : WT} {l : Launch} {p : Program} {e : Env} {s : State} {m : MethodId} {args : Array Value} {below : List Frame} {meth : Method} {c : Code} (C : KC w p s m args meth c cL_told 20 RL (some .boolean)) (hN : 99 ≤ wN w) (hT : wN w = 100) {v1 : Int32} {v12 : Int32} {M : Mem} {L : Lng} {out : Int32 × Mem} {o : (Int32) ⊕ ((Unit) ⊕ (Int32 × Mem))} (hf : f_L_told_j366 v1 v12 M = some o) (hA : ∀ z, o = .inl z → AtC w p l e ({ frames := 5, cells := 20007, slots := 120258, locals := 139 } : Room) s m args below meth c (MQ below (QI w out.1 out.2 L) args s 20007 120258 (wA w)) 20 69 M L [(0, .ref (wAd w 0)), (1, .int v1), (2, .ref (wAd w 90)), (3, .ref (wAd w 91)), (4, .ref (wAd w 92)), (5, .ref (wAd w 93)), (6, .ref (wAd w 94)), (7, .ref (wAd w 95)), (8, .ref (wAd w 96)), (9, .ref (wAd w 97)), (10, .ref (wAd w 98)), (11, .ref (wAd w 99)), (12, .int z)] [] 5 246) (hE : ∀ y, o = .inr y → Sum.elim (fun y => AtC w p l e ({ frames := 5, cells := 20007, slots := 120258, locals := 139 } : Room) s m args below meth c (MQ below (QI w out.1 out.2 L) args s 20007 120258 (wA w)) 20 372 M L [(0, .ref (wAd w 0)), (1, .int v1), (4, .ref (wAd w 92)), (5, .ref (wAd w 93)), (6, .ref (wAd w 94)), (7, .ref (wAd w 95)), (8, .ref (wAd w 96)), (9, .ref (wAd w 97)), (10, .ref (wAd w 98)), (11, .ref (wAd w 99))] [] 5 246) (fun y => y = out) y) : AtC w p l e ({ frames := 5, cells := 20007, slots := 120258, locals := 139 } : Room) s m args below meth c (MQ below (QI w out.1 out.2 L) args s 20007 120258 (wA w)) 20 366 M L [(0, .ref (wAd w 0)), (1, .int v1), (2, .ref (wAd w 90)), (3, .ref (wAd w 91)), (4, .ref (wAd w 92)), (5, .ref (wAd w 93)), (6, .ref (wAd w 94)), (7, .ref (wAd w 95)), (8, .ref (wAd w 96)), (9, .ref (wAd w 97)), (10, .ref (wAd w 98)), (11, .ref (wAd w 99)), (12, .int v12)] [] 5 246 := by
  intro H locs ls hP hS hl
  unfold f_L_told_j366 at hf
  refine lv_iinc (v := (v12 + 1)) (lv' := [(12, .int (v12 + 1)), (0, .ref (wAd w 0)), (1, .int v1), (2, .ref (wAd w 90)), (3, .ref (wAd w 91)), (4, .ref (wAd w 92)), (5, .ref (wAd w 93)), (6, .ref (wAd w 94)), (7, .ref (wAd w 95)), (8, .ref (wAd w 96)), (9, .ref (wAd w 97)), (10, .ref (wAd w 98)), (11, .ref (wAd w 99))]) C.1 C.2.1 dL_told_366 hl (k := 12) rfl rfl (by decide) rfl (fun ls hl => ?_)
  refine lv_goto (tgt := 69) C.1 C.2.1 dL_told_369 (by decide) ?_
  cases hf
  exact hA _ rfl _ _ _ hP hS (lv_sub hl [1, 2, 3, 4, 5, 6, 7, 8, 9, 10, 11, 12, 0] rfl)
set_option maxHeartbeats 4000000 in
set_option maxRecDepth 100000 in
theorem w_L_told_j224 {w : WT} {l : Launch} {p : Program} {e : Env} {s : State} {m : MethodId} {args : Array Value} {below : List Frame} {meth : Method} {c : Code} (C : KC w p s m args meth c cL_told 20 RL (some .boolean)) (hN : 99 ≤ wN w) (hT : wN w = 100) {v1 : Int32} {v12 : Int32} {s0 : Int32} {s1 : Int32} {M : Mem} {L : Lng} {out : Int32 × Mem} {o : (Int32) ⊕ ((Unit) ⊕ (Int32 × Mem))} (hf : f_L_told_j224 v1 v12 s0 s1 M = some o) (hA : ∀ z, o = .inl z → AtC w p l e ({ frames := 5, cells := 20007, slots := 120258, locals := 139 } : Room) s m args below meth c (MQ below (QI w out.1 out.2 L) args s 20007 120258 (wA w)) 20 69 M L [(0, .ref (wAd w 0)), (1, .int v1), (2, .ref (wAd w 90)), (3, .ref (wAd w 91)), (4, .ref (wAd w 92)), (5, .ref (wAd w 93)), (6, .ref (wAd w 94)), (7, .ref (wAd w 95)), (8, .ref (wAd w 96)), (9, .ref (wAd w 97)), (10, .ref (wAd w 98)), (11, .ref (wAd w 99)), (12, .int z)] [] 5 246) (hE : ∀ y, o = .inr y → Sum.elim (fun y => AtC w p l e ({ frames := 5, cells := 20007, slots := 120258, locals := 139 } : Room) s m args below meth c (MQ below (QI w out.1 out.2 L) args s 20007 120258 (wA w)) 20 372 M L [(0, .ref (wAd w 0)), (1, .int v1), (4, .ref (wAd w 92)), (5, .ref (wAd w 93)), (6, .ref (wAd w 94)), (7, .ref (wAd w 95)), (8, .ref (wAd w 96)), (9, .ref (wAd w 97)), (10, .ref (wAd w 98)), (11, .ref (wAd w 99))] [] 5 246) (fun y => y = out) y) : AtC w p l e ({ frames := 5, cells := 20007, slots := 120258, locals := 139 } : Room) s m args below meth c (MQ below (QI w out.1 out.2 L) args s 20007 120258 (wA w)) 20 224 M L [(0, .ref (wAd w 0)), (1, .int v1), (2, .ref (wAd w 90)), (3, .ref (wAd w 91)), (4, .ref (wAd w 92)), (5, .ref (wAd w 93)), (6, .ref (wAd w 94)), (7, .ref (wAd w 95)), (8, .ref (wAd w 96)), (9, .ref (wAd w 97)), (10, .ref (wAd w 98)), (11, .ref (wAd w 99)), (12, .int v12)] [.int s1, .int s0] 5 246 := by
  intro H locs ls hP hS hl
  unfold f_L_told_j224 at hf
  refine lv_icmp_eq (tgt := 229) C.1 C.2.1 dL_told_224 (by decide) (fun c32 => ?_) (fun c32 => ?_)
  · have hf := (if_pos c32).symm.trans hf
    refine lv_aload C.1 C.2.1 dL_told_229 (lv_at hl 10 rfl) ?_
    refine lv_iload C.1 C.2.1 dL_told_231 (lv_at hl 12 rfl) ?_
    obtain ⟨x33, hx33, hf⟩ := ob hf
    refine k_iald C hP (Nat.lt_of_lt_of_le (Nat.le_of_ble_eq_true rfl) hN) (ar_L98 w L _) hx33 dL_told_233 ?_
    refine lv_iload C.1 C.2.1 dL_told_234 (lv_at hl 12 rfl) ?_
    refine lv_icmp_eq (tgt := 242) C.1 C.2.1 dL_told_236 (by decide) (fun c34 => ?_) (fun c34 => ?_)
    · have hf := (if_pos c34).symm.trans hf
      refine lv_iload C.1 C.2.1 dL_told_242 (lv_at hl 12 rfl) ?_
      refine lv_aload C.1 C.2.1 dL_told_244 (lv_at hl 10 rfl) ?_
      obtain ⟨r35, hr35, hf⟩ := ob hf
      refine kci (kS (As := [.int v12, .ref (wAd w 98)]) (rest := []) C hl.1 hP hS (c_L_number w l C.2.2.2.2.2.2.2.2 hN (L := L) hr35) (gS q442 q443 q0 q444) hd_L_number ⟨rfl, rfl⟩ ⟨Nat.le_of_ble_eq_true rfl, Nat.le_of_ble_eq_true rfl⟩ rfl rfl (Nat.le_of_ble_eq_true rfl) dL_told_246 ⟨Nat.le_of_ble_eq_true rfl, Nat.le_of_ble_eq_true rfl⟩) hS (fun H locs hP hS => ?_)
      refine lv_istore (lv' := [(13, .int r35), (0, .ref (wAd w 0)), (1, .int v1), (2, .ref (wAd w 90)), (3, .ref (wAd w 91)), (4, .ref (wAd w 92)), (5, .ref (wAd w 93)), (6, .ref (wAd w 94)), (7, .ref (wAd w 95)), (8, .ref (wAd w 96)), (9, .ref (wAd w 97)), (10, .ref (wAd w 98)), (11, .ref (wAd w 99)), (12, .int v12)]) C.1 C.2.1 dL_told_249 hl (by decide) rfl (fun ls hl => ?_)
      refine lv_iconst (v := (-1)) C.1 C.2.1 dL_told_251 (by decide) ?_
      refine lv_istore (lv' := [(14, .int (-1)), (13, .int r35), (0, .ref (wAd w 0)), (1, .int v1), (2, .ref (wAd w 90)), (3, .ref (wAd w 91)), (4, .ref (wAd w 92)), (5, .ref (wAd w 93)), (6, .ref (wAd w 94)), (7, .ref (wAd w 95)), (8, .ref (wAd w 96)), (9, .ref (wAd w 97)), (10, .ref (wAd w 98)), (11, .ref (wAd w 99)), (12, .int v12)]) C.1 C.2.1 dL_told_252 hl (by decide) rfl (fun ls hl => ?_)
      refine lv_iconst (v := 0) C.1 C.2.1 dL_told_254 (by decide) ?_
      refine lv_istore (lv' := [(15, .int 0), (14, .int (-1)), (13, .int r35), (0, .ref (wAd w 0)), (1, .int v1), (2, .ref (wAd w 90)), (3, .ref (wAd w 91)), (4, .ref (wAd w 92)), (5, .ref (wAd w 93)), (6, .ref (wAd w 94)), (7, .ref (wAd w 95)), (8, .ref (wAd w 96)), (9, .ref (wAd w 97)), (10, .ref (wAd w 98)), (11, .ref (wAd w 99)), (12, .int v12)]) C.1 C.2.1 dL_told_255 hl (by decide) rfl (fun ls hl => ?_)
      obtain ⟨o40, ho40, hf⟩ := ob hf
      refine loop_at (w_L_told_l257 C hN hT) FU _ o40 ho40 ?_ _ _ _ hP hS (lv_sub hl [3, 4, 5, 6, 7, 8, 9, 10, 11, 12, 13, 14, 15, 2, 1, 0] rfl)
      intro H locs ls hP hS hl
      refine lv_aload_n C.1 C.2.1 dL_told_291 rfl (lv_at hl 0 rfl) ?_
      refine lv_iload C.1 C.2.1 dL_told_292 (lv_at hl 13 rfl) ?_
      refine lv_iconst (v := 0) C.1 C.2.1 dL_told_294 (by decide) ?_
      obtain ⟨r41, hr41, hf⟩ := ob hf
      refine kci (kV (As := [.int r35, .int 0]) (rest := []) C hl.1 hP hS (c_X8_exceedance w l C.2.2.2.2.2.2.2.2 (L := L) hr41) (gV q445 q446 q447 q1 q448) hd_X8_exceedance (C9 C (lt_NoisePost h0_NoisePost)) (ob_NoisePost h0_NoisePost w L _) rfl ⟨rfl, rfl⟩ ⟨Nat.le_of_ble_eq_true rfl, Nat.le_of_ble_eq_true rfl⟩ rfl rfl (Nat.le_of_ble_eq_true rfl) dL_told_295 ⟨Nat.le_of_ble_eq_true rfl, Nat.le_of_ble_eq_true rfl⟩) hS (fun H locs hP hS => ?_)
      refine lv_iload C.1 C.2.1 dL_told_298 (lv_at hl 12 rfl) ?_
      refine lv_icmp_ne (tgt := 315) C.1 C.2.1 dL_told_300 (by decide) (fun c42 => ?_) (fun c42 => ?_)
      · have hf := (if_neg c42).symm.trans hf
        refine lv_iconst (v := 0) C.1 C.2.1 dL_told_315 (by decide) ?_
        cases hf
        cases hE _ rfl
        refine W.widen (k := 20007) (n := 120258) (Nat.le_of_ble_eq_true rfl) (Nat.le_of_ble_eq_true rfl) ?_
        exact krz C hP hS bz0 dL_told_316
      · have hf := (if_pos c42).symm.trans hf
        refine lv_aload_n C.1 C.2.1 dL_told_303 rfl (lv_at hl 0 rfl) ?_
        refine lv_iload C.1 C.2.1 dL_told_304 (lv_at hl 13 rfl) ?_
        refine lv_iconst (v := 5) C.1 C.2.1 dL_told_306 (by decide) ?_
        obtain ⟨r43, hr43, hf⟩ := ob hf
        refine kci (kV (As := [.int r35, .int 5]) (rest := []) C hl.1 hP hS (c_X8_exceedance w l C.2.2.2.2.2.2.2.2 (L := L) hr43) (gV q445 q446 q447 q1 q448) hd_X8_exceedance (C9 C (lt_NoisePost h0_NoisePost)) (ob_NoisePost h0_NoisePost w L _) rfl ⟨rfl, rfl⟩ ⟨Nat.le_of_ble_eq_true rfl, Nat.le_of_ble_eq_true rfl⟩ rfl rfl (Nat.le_of_ble_eq_true rfl) dL_told_307 ⟨Nat.le_of_ble_eq_true rfl, Nat.le_of_ble_eq_true rfl⟩) hS (fun H locs hP hS => ?_)
        refine lv_iload C.1 C.2.1 dL_told_310 (lv_at hl 14 rfl) ?_
        refine lv_icmp_eq (tgt := 317) C.1 C.2.1 dL_told_312 (by decide) (fun c44 => ?_) (fun c44 => ?_)
        · have hf := (if_pos c44).symm.trans hf
          refine lv_iconst (v := 0) C.1 C.2.1 dL_told_317 (by decide) ?_
          refine lv_istore (lv' := [(15, .int 0), (0, .ref (wAd w 0)), (1, .int v1), (2, .ref (wAd w 90)), (3, .ref (wAd w 91)), (4, .ref (wAd w 92)), (5, .ref (wAd w 93)), (6, .ref (wAd w 94)), (7, .ref (wAd w 95)), (8, .ref (wAd w 96)), (9, .ref (wAd w 97)), (10, .ref (wAd w 98)), (11, .ref (wAd w 99)), (12, .int v12), (13, .int r35), (14, .int o40)]) C.1 C.2.1 dL_told_318 hl (by decide) rfl (fun ls hl => ?_)
          obtain ⟨o49, ho49, hf⟩ := ob hf
          refine loop_at (w_L_told_l320 C hN hT (out := out)) FU _ o49 ho49 ?_ _ _ _ hP hS (lv_sub hl [1, 2, 3, 4, 5, 6, 7, 8, 9, 10, 11, 12, 13, 14, 0] rfl)
          rcases o49 with o49 | o49
          · have hf := (Sum.elim_inl _ _ _).symm.trans hf
            intro H locs ls hP hS hl
            exact w_L_told_j366 C hN hT hf hA hE _ _ _ hP hS hl
          · simp only [Sum.elim_inr] at hf
            cases hf
            exact hE _ rfl
        · have hf := (if_neg c44).symm.trans hf
          refine lv_iconst (v := 0) C.1 C.2.1 dL_told_315 (by decide) ?_
          cases hf
          cases hE _ rfl
          refine W.widen (k := 20007) (n := 120258) (Nat.le_of_ble_eq_true rfl) (Nat.le_of_ble_eq_true rfl) ?_
          exact krz C hP hS bz0 dL_told_316
    · have hf := (if_neg c34).symm.trans hf
      refine lv_goto (tgt := 366) C.1 C.2.1 dL_told_239 (by decide) ?_
      exact w_L_told_j366 C hN hT hf hA hE _ _ _ hP hS hl
  · have hf := (if_neg c32).symm.trans hf
    refine lv_iconst (v := 0) C.1 C.2.1 dL_told_227 (by decide) ?_
    cases hf
    cases hE _ rfl
    refine W.widen (k := 20007) (n := 120258) (Nat.le_of_ble_eq_true rfl) (Nat.le_of_ble_eq_true rfl) ?_
    exact krz C hP hS bz0 dL_told_228
set_option maxHeartbeats 4000000 in
set_option maxRecDepth 100000 in
theorem w_L_told_j175 {w : WT} {l : Launch} {p : Program} {e : Env} {s : State} {m : MethodId} {args : Array Value} {below : List Frame} {meth : Method} {c : Code} (C : KC w p s m args meth c cL_told 20 RL (some .boolean)) (hN : 99 ≤ wN w) (hT : wN w = 100) {v1 : Int32} {v12 : Int32} {s0 : Int32} {s1 : Int32} {M : Mem} {L : Lng} {out : Int32 × Mem} {o : (Int32) ⊕ ((Unit) ⊕ (Int32 × Mem))} (hf : f_L_told_j175 v1 v12 s0 s1 M = some o) (hA : ∀ z, o = .inl z → AtC w p l e ({ frames := 5, cells := 20007, slots := 120258, locals := 139 } : Room) s m args below meth c (MQ below (QI w out.1 out.2 L) args s 20007 120258 (wA w)) 20 69 M L [(0, .ref (wAd w 0)), (1, .int v1), (2, .ref (wAd w 90)), (3, .ref (wAd w 91)), (4, .ref (wAd w 92)), (5, .ref (wAd w 93)), (6, .ref (wAd w 94)), (7, .ref (wAd w 95)), (8, .ref (wAd w 96)), (9, .ref (wAd w 97)), (10, .ref (wAd w 98)), (11, .ref (wAd w 99)), (12, .int z)] [] 5 246) (hE : ∀ y, o = .inr y → Sum.elim (fun y => AtC w p l e ({ frames := 5, cells := 20007, slots := 120258, locals := 139 } : Room) s m args below meth c (MQ below (QI w out.1 out.2 L) args s 20007 120258 (wA w)) 20 372 M L [(0, .ref (wAd w 0)), (1, .int v1), (4, .ref (wAd w 92)), (5, .ref (wAd w 93)), (6, .ref (wAd w 94)), (7, .ref (wAd w 95)), (8, .ref (wAd w 96)), (9, .ref (wAd w 97)), (10, .ref (wAd w 98)), (11, .ref (wAd w 99))] [] 5 246) (fun y => y = out) y) : AtC w p l e ({ frames := 5, cells := 20007, slots := 120258, locals := 139 } : Room) s m args below meth c (MQ below (QI w out.1 out.2 L) args s 20007 120258 (wA w)) 20 175 M L [(0, .ref (wAd w 0)), (1, .int v1), (2, .ref (wAd w 90)), (3, .ref (wAd w 91)), (4, .ref (wAd w 92)), (5, .ref (wAd w 93)), (6, .ref (wAd w 94)), (7, .ref (wAd w 95)), (8, .ref (wAd w 96)), (9, .ref (wAd w 97)), (10, .ref (wAd w 98)), (11, .ref (wAd w 99)), (12, .int v12)] [.int s1, .int s0] 5 246 := by
  intro H locs ls hP hS hl
  unfold f_L_told_j175 at hf
  refine lv_icmp_ne (tgt := 227) C.1 C.2.1 dL_told_175 (by decide) (fun c23 => ?_) (fun c23 => ?_)
  · have hf := (if_neg c23).symm.trans hf
    refine lv_iconst (v := 0) C.1 C.2.1 dL_told_227 (by decide) ?_
    cases hf
    cases hE _ rfl
    refine W.widen (k := 20007) (n := 120258) (Nat.le_of_ble_eq_true rfl) (Nat.le_of_ble_eq_true rfl) ?_
    exact krz C hP hS bz0 dL_told_228
  · have hf := (if_pos c23).symm.trans hf
    refine lv_aload_n C.1 C.2.1 dL_told_178 rfl (lv_at hl 0 rfl) ?_
    refine lv_iload C.1 C.2.1 dL_told_179 (lv_at hl 12 rfl) ?_
    refine lv_bipush (v := 6) C.1 C.2.1 dL_told_181 (by decide) ?_
    obtain ⟨r24, hr24, hf⟩ := ob hf
    refine kci (kV (As := [.int v12, .int 6]) (rest := []) C hl.1 hP hS (c_X8_minute w l C.2.2.2.2.2.2.2.2 (L := L) hr24) (gV q405 q406 q407 q1 q408) hd_X8_minute (C9 C (lt_NoisePost h0_NoisePost)) (ob_NoisePost h0_NoisePost w L _) rfl ⟨rfl, rfl⟩ ⟨Nat.le_of_ble_eq_true rfl, Nat.le_of_ble_eq_true rfl⟩ rfl rfl (Nat.le_of_ble_eq_true rfl) dL_told_183 ⟨Nat.le_of_ble_eq_true rfl, Nat.le_of_ble_eq_true rfl⟩) hS (fun H locs hP hS => ?_)
    refine lv_aload C.1 C.2.1 dL_told_186 (lv_at hl 9 rfl) ?_
    refine lv_iload C.1 C.2.1 dL_told_188 (lv_at hl 12 rfl) ?_
    obtain ⟨x25, hx25, hf⟩ := ob hf
    refine k_iald C hP (Nat.lt_of_lt_of_le (Nat.le_of_ble_eq_true rfl) hN) (ar_L97 w L _) hx25 dL_told_190 ?_
    refine lv_icmp_ne (tgt := 227) C.1 C.2.1 dL_told_191 (by decide) (fun c26 => ?_) (fun c26 => ?_)
    · have hf := (if_neg c26).symm.trans hf
      refine lv_iconst (v := 0) C.1 C.2.1 dL_told_227 (by decide) ?_
      cases hf
      cases hE _ rfl
      refine W.widen (k := 20007) (n := 120258) (Nat.le_of_ble_eq_true rfl) (Nat.le_of_ble_eq_true rfl) ?_
      exact krz C hP hS bz0 dL_told_228
    · have hf := (if_pos c26).symm.trans hf
      refine lv_aload_n C.1 C.2.1 dL_told_194 rfl (lv_at hl 0 rfl) ?_
      refine lv_iload C.1 C.2.1 dL_told_195 (lv_at hl 12 rfl) ?_
      refine lv_bipush (v := 7) C.1 C.2.1 dL_told_197 (by decide) ?_
      obtain ⟨r27, hr27, hf⟩ := ob hf
      refine kci (kV (As := [.int v12, .int 7]) (rest := []) C hl.1 hP hS (c_X8_minute w l C.2.2.2.2.2.2.2.2 (L := L) hr27) (gV q405 q406 q407 q1 q408) hd_X8_minute (C9 C (lt_NoisePost h0_NoisePost)) (ob_NoisePost h0_NoisePost w L _) rfl ⟨rfl, rfl⟩ ⟨Nat.le_of_ble_eq_true rfl, Nat.le_of_ble_eq_true rfl⟩ rfl rfl (Nat.le_of_ble_eq_true rfl) dL_told_199 ⟨Nat.le_of_ble_eq_true rfl, Nat.le_of_ble_eq_true rfl⟩) hS (fun H locs hP hS => ?_)
      refine lv_aload C.1 C.2.1 dL_told_202 (lv_at hl 10 rfl) ?_
      refine lv_iload C.1 C.2.1 dL_told_204 (lv_at hl 12 rfl) ?_
      obtain ⟨x28, hx28, hf⟩ := ob hf
      refine k_iald C hP (Nat.lt_of_lt_of_le (Nat.le_of_ble_eq_true rfl) hN) (ar_L98 w L _) hx28 dL_told_206 ?_
      refine lv_if_ge (tgt := 214) C.1 C.2.1 dL_told_207 (by decide) (fun c29 => ?_) (fun c29 => ?_)
      · have hf := (if_pos c29).symm.trans hf
        refine lv_aload C.1 C.2.1 dL_told_214 (lv_at hl 10 rfl) ?_
        refine lv_iload C.1 C.2.1 dL_told_216 (lv_at hl 12 rfl) ?_
        obtain ⟨x30, hx30, hf⟩ := ob hf
        refine k_iald C hP (Nat.lt_of_lt_of_le (Nat.le_of_ble_eq_true rfl) hN) (ar_L98 w L _) hx30 dL_told_218 ?_
        refine lv_aload C.1 C.2.1 dL_told_219 (lv_at hl 10 rfl) ?_
        obtain ⟨r31, hr31, hf⟩ := ob hf
        refine kci (kS (As := [.int x30, .ref (wAd w 98)]) (rest := [.int r27]) C hl.1 hP hS (c_L_number w l C.2.2.2.2.2.2.2.2 hN (L := L) hr31) (gS q442 q443 q0 q444) hd_L_number ⟨rfl, rfl⟩ ⟨Nat.le_of_ble_eq_true rfl, Nat.le_of_ble_eq_true rfl⟩ rfl rfl (Nat.le_of_ble_eq_true rfl) dL_told_221 ⟨Nat.le_of_ble_eq_true rfl, Nat.le_of_ble_eq_true rfl⟩) hS (fun H locs hP hS => ?_)
        exact w_L_told_j224 C hN hT hf hA hE _ _ _ hP hS hl
      · have hf := (if_neg c29).symm.trans hf
        refine lv_iconst (v := (-1)) C.1 C.2.1 dL_told_210 (by decide) ?_
        refine lv_goto (tgt := 224) C.1 C.2.1 dL_told_211 (by decide) ?_
        exact w_L_told_j224 C hN hT hf hA hE _ _ _ hP hS hl
set_option maxHeartbeats 4000000 in
set_option maxRecDepth 100000 in
theorem w_L_told_l69 {w : WT} {l : Launch} {p : Program} {e : Env} {s : State} {m : MethodId} {args : Array Value} {below : List Frame} {meth : Method} {c : Code} (C : KC w p s m args meth c cL_told 20 RL (some .boolean)) (hN : 99 ≤ wN w) (hT : wN w = 100) {v1 : Int32} {M : Mem} {L : Lng} {out : Int32 × Mem} (z : Int32) (o : (Int32) ⊕ ((Unit) ⊕ (Int32 × Mem))) (hf : f_L_told_l69 v1 M z = some o) (hA : ∀ z, o = .inl z → AtC w p l e ({ frames := 5, cells := 20007, slots := 120258, locals := 139 } : Room) s m args below meth c (MQ below (QI w out.1 out.2 L) args s 20007 120258 (wA w)) 20 69 M L [(0, .ref (wAd w 0)), (1, .int v1), (2, .ref (wAd w 90)), (3, .ref (wAd w 91)), (4, .ref (wAd w 92)), (5, .ref (wAd w 93)), (6, .ref (wAd w 94)), (7, .ref (wAd w 95)), (8, .ref (wAd w 96)), (9, .ref (wAd w 97)), (10, .ref (wAd w 98)), (11, .ref (wAd w 99)), (12, .int z)] [] 5 246) (hE : ∀ y, o = .inr y → Sum.elim (fun y => AtC w p l e ({ frames := 5, cells := 20007, slots := 120258, locals := 139 } : Room) s m args below meth c (MQ below (QI w out.1 out.2 L) args s 20007 120258 (wA w)) 20 372 M L [(0, .ref (wAd w 0)), (1, .int v1), (4, .ref (wAd w 92)), (5, .ref (wAd w 93)), (6, .ref (wAd w 94)), (7, .ref (wAd w 95)), (8, .ref (wAd w 96)), (9, .ref (wAd w 97)), (10, .ref (wAd w 98)), (11, .ref (wAd w 99))] [] 5 246) (fun y => y = out) y) : AtC w p l e ({ frames := 5, cells := 20007, slots := 120258, locals := 139 } : Room) s m args below meth c (MQ below (QI w out.1 out.2 L) args s 20007 120258 (wA w)) 20 69 M L [(0, .ref (wAd w 0)), (1, .int v1), (2, .ref (wAd w 90)), (3, .ref (wAd w 91)), (4, .ref (wAd w 92)), (5, .ref (wAd w 93)), (6, .ref (wAd w 94)), (7, .ref (wAd w 95)), (8, .ref (wAd w 96)), (9, .ref (wAd w 97)), (10, .ref (wAd w 98)), (11, .ref (wAd w 99)), (12, .int z)] [] 5 246 := by
  intro H locs ls hP hS hl
  unfold f_L_told_l69 at hf
  refine lv_iload C.1 C.2.1 dL_told_69 (lv_at hl 12 rfl) ?_
  refine lv_aload C.1 C.2.1 dL_told_71 (lv_at hl 5 rfl) ?_
  refine lv_iconst (v := 0) C.1 C.2.1 dL_told_73 (by decide) ?_
  obtain ⟨x3, hx3, hf⟩ := ob hf
  refine k_iald C hP (C9 C (Nat.le_of_ble_eq_true rfl)) (ar_L93 w L _) hx3 dL_told_74 ?_
  refine lv_icmp_ge (tgt := 372) C.1 C.2.1 dL_told_75 (by decide) (fun c4 => ?_) (fun c4 => ?_)
  · have hf := (if_pos c4).symm.trans hf
    cases hf
    exact hE _ rfl _ _ _ hP hS (lv_sub hl [0, 1, 4, 5, 6, 7, 8, 9, 10, 11] rfl)
  · have hf := (if_neg c4).symm.trans hf
    refine lv_aload_n C.1 C.2.1 dL_told_78 rfl (lv_at hl 0 rfl) ?_
    refine lv_iload C.1 C.2.1 dL_told_79 (lv_at hl 12 rfl) ?_
    refine lv_iconst (v := 0) C.1 C.2.1 dL_told_81 (by decide) ?_
    obtain ⟨r5, hr5, hf⟩ := ob hf
    refine kci (kV (As := [.int z, .int 0]) (rest := []) C hl.1 hP hS (c_X8_minute w l C.2.2.2.2.2.2.2.2 (L := L) hr5) (gV q405 q406 q407 q1 q408) hd_X8_minute (C9 C (lt_NoisePost h0_NoisePost)) (ob_NoisePost h0_NoisePost w L _) rfl ⟨rfl, rfl⟩ ⟨Nat.le_of_ble_eq_true rfl, Nat.le_of_ble_eq_true rfl⟩ rfl rfl (Nat.le_of_ble_eq_true rfl) dL_told_82 ⟨Nat.le_of_ble_eq_true rfl, Nat.le_of_ble_eq_true rfl⟩) hS (fun H locs hP hS => ?_)
    refine lv_aload_n C.1 C.2.1 dL_told_85 rfl (lv_at hl 2 rfl) ?_
    refine lv_iload C.1 C.2.1 dL_told_86 (lv_at hl 12 rfl) ?_
    obtain ⟨x6, hx6, hf⟩ := ob hf
    refine k_iald C hP (C9 C (Nat.le_of_ble_eq_true rfl)) (ar_L90 w L _) hx6 dL_told_88 ?_
    refine lv_icmp_ne (tgt := 227) C.1 C.2.1 dL_told_89 (by decide) (fun c7 => ?_) (fun c7 => ?_)
    · have hf := (if_neg c7).symm.trans hf
      refine lv_iconst (v := 0) C.1 C.2.1 dL_told_227 (by decide) ?_
      cases hf
      cases hE _ rfl
      refine W.widen (k := 20007) (n := 120258) (Nat.le_of_ble_eq_true rfl) (Nat.le_of_ble_eq_true rfl) ?_
      exact krz C hP hS bz0 dL_told_228
    · have hf := (if_pos c7).symm.trans hf
      refine lv_aload_n C.1 C.2.1 dL_told_92 rfl (lv_at hl 0 rfl) ?_
      refine lv_iload C.1 C.2.1 dL_told_93 (lv_at hl 12 rfl) ?_
      refine lv_iconst (v := 1) C.1 C.2.1 dL_told_95 (by decide) ?_
      obtain ⟨r8, hr8, hf⟩ := ob hf
      refine kci (kV (As := [.int z, .int 1]) (rest := []) C hl.1 hP hS (c_X8_minute w l C.2.2.2.2.2.2.2.2 (L := L) hr8) (gV q405 q406 q407 q1 q408) hd_X8_minute (C9 C (lt_NoisePost h0_NoisePost)) (ob_NoisePost h0_NoisePost w L _) rfl ⟨rfl, rfl⟩ ⟨Nat.le_of_ble_eq_true rfl, Nat.le_of_ble_eq_true rfl⟩ rfl rfl (Nat.le_of_ble_eq_true rfl) dL_told_96 ⟨Nat.le_of_ble_eq_true rfl, Nat.le_of_ble_eq_true rfl⟩) hS (fun H locs hP hS => ?_)
      refine lv_aload_n C.1 C.2.1 dL_told_99 rfl (lv_at hl 3 rfl) ?_
      refine lv_iload C.1 C.2.1 dL_told_100 (lv_at hl 12 rfl) ?_
      obtain ⟨x9, hx9, hf⟩ := ob hf
      refine k_iald C hP (C9 C (Nat.le_of_ble_eq_true rfl)) (ar_L91 w L _) hx9 dL_told_102 ?_
      refine lv_icmp_ne (tgt := 227) C.1 C.2.1 dL_told_103 (by decide) (fun c10 => ?_) (fun c10 => ?_)
      · have hf := (if_neg c10).symm.trans hf
        refine lv_iconst (v := 0) C.1 C.2.1 dL_told_227 (by decide) ?_
        cases hf
        cases hE _ rfl
        refine W.widen (k := 20007) (n := 120258) (Nat.le_of_ble_eq_true rfl) (Nat.le_of_ble_eq_true rfl) ?_
        exact krz C hP hS bz0 dL_told_228
      · have hf := (if_pos c10).symm.trans hf
        refine lv_aload_n C.1 C.2.1 dL_told_106 rfl (lv_at hl 0 rfl) ?_
        refine lv_iload C.1 C.2.1 dL_told_107 (lv_at hl 12 rfl) ?_
        refine lv_iconst (v := 2) C.1 C.2.1 dL_told_109 (by decide) ?_
        obtain ⟨r11, hr11, hf⟩ := ob hf
        refine kci (kV (As := [.int z, .int 2]) (rest := []) C hl.1 hP hS (c_X8_minute w l C.2.2.2.2.2.2.2.2 (L := L) hr11) (gV q405 q406 q407 q1 q408) hd_X8_minute (C9 C (lt_NoisePost h0_NoisePost)) (ob_NoisePost h0_NoisePost w L _) rfl ⟨rfl, rfl⟩ ⟨Nat.le_of_ble_eq_true rfl, Nat.le_of_ble_eq_true rfl⟩ rfl rfl (Nat.le_of_ble_eq_true rfl) dL_told_110 ⟨Nat.le_of_ble_eq_true rfl, Nat.le_of_ble_eq_true rfl⟩) hS (fun H locs hP hS => ?_)
        refine lv_aload C.1 C.2.1 dL_told_113 (lv_at hl 7 rfl) ?_
        refine lv_iload C.1 C.2.1 dL_told_115 (lv_at hl 12 rfl) ?_
        obtain ⟨x12, hx12, hf⟩ := ob hf
        refine k_iald C hP (Nat.lt_of_lt_of_le (Nat.le_of_ble_eq_true rfl) hN) (ar_L95 w L _) hx12 dL_told_117 ?_
        refine lv_icmp_ne (tgt := 227) C.1 C.2.1 dL_told_118 (by decide) (fun c13 => ?_) (fun c13 => ?_)
        · have hf := (if_neg c13).symm.trans hf
          refine lv_iconst (v := 0) C.1 C.2.1 dL_told_227 (by decide) ?_
          cases hf
          cases hE _ rfl
          refine W.widen (k := 20007) (n := 120258) (Nat.le_of_ble_eq_true rfl) (Nat.le_of_ble_eq_true rfl) ?_
          exact krz C hP hS bz0 dL_told_228
        · have hf := (if_pos c13).symm.trans hf
          refine lv_aload_n C.1 C.2.1 dL_told_121 rfl (lv_at hl 0 rfl) ?_
          refine lv_iload C.1 C.2.1 dL_told_122 (lv_at hl 12 rfl) ?_
          refine lv_iconst (v := 3) C.1 C.2.1 dL_told_124 (by decide) ?_
          obtain ⟨r14, hr14, hf⟩ := ob hf
          refine kci (kV (As := [.int z, .int 3]) (rest := []) C hl.1 hP hS (c_X8_minute w l C.2.2.2.2.2.2.2.2 (L := L) hr14) (gV q405 q406 q407 q1 q408) hd_X8_minute (C9 C (lt_NoisePost h0_NoisePost)) (ob_NoisePost h0_NoisePost w L _) rfl ⟨rfl, rfl⟩ ⟨Nat.le_of_ble_eq_true rfl, Nat.le_of_ble_eq_true rfl⟩ rfl rfl (Nat.le_of_ble_eq_true rfl) dL_told_125 ⟨Nat.le_of_ble_eq_true rfl, Nat.le_of_ble_eq_true rfl⟩) hS (fun H locs hP hS => ?_)
          refine lv_aload C.1 C.2.1 dL_told_128 (lv_at hl 8 rfl) ?_
          refine lv_iload C.1 C.2.1 dL_told_130 (lv_at hl 12 rfl) ?_
          obtain ⟨x15, hx15, hf⟩ := ob hf
          refine k_iald C hP (Nat.lt_of_lt_of_le (Nat.le_of_ble_eq_true rfl) hN) (ar_L96 w L _) hx15 dL_told_132 ?_
          refine lv_icmp_ne (tgt := 227) C.1 C.2.1 dL_told_133 (by decide) (fun c16 => ?_) (fun c16 => ?_)
          · have hf := (if_neg c16).symm.trans hf
            refine lv_iconst (v := 0) C.1 C.2.1 dL_told_227 (by decide) ?_
            cases hf
            cases hE _ rfl
            refine W.widen (k := 20007) (n := 120258) (Nat.le_of_ble_eq_true rfl) (Nat.le_of_ble_eq_true rfl) ?_
            exact krz C hP hS bz0 dL_told_228
          · have hf := (if_pos c16).symm.trans hf
            refine lv_aload_n C.1 C.2.1 dL_told_136 rfl (lv_at hl 0 rfl) ?_
            refine lv_iload C.1 C.2.1 dL_told_137 (lv_at hl 12 rfl) ?_
            refine lv_iconst (v := 4) C.1 C.2.1 dL_told_139 (by decide) ?_
            obtain ⟨r17, hr17, hf⟩ := ob hf
            refine kci (kV (As := [.int z, .int 4]) (rest := []) C hl.1 hP hS (c_X8_minute w l C.2.2.2.2.2.2.2.2 (L := L) hr17) (gV q405 q406 q407 q1 q408) hd_X8_minute (C9 C (lt_NoisePost h0_NoisePost)) (ob_NoisePost h0_NoisePost w L _) rfl ⟨rfl, rfl⟩ ⟨Nat.le_of_ble_eq_true rfl, Nat.le_of_ble_eq_true rfl⟩ rfl rfl (Nat.le_of_ble_eq_true rfl) dL_told_140 ⟨Nat.le_of_ble_eq_true rfl, Nat.le_of_ble_eq_true rfl⟩) hS (fun H locs hP hS => ?_)
            refine lv_iload C.1 C.2.1 dL_told_143 (lv_at hl 12 rfl) ?_
            refine lv_aload C.1 C.2.1 dL_told_145 (lv_at hl 6 rfl) ?_
            obtain ⟨r18, hr18, hf⟩ := ob hf
            refine kci (kS (As := [.int z, .ref (wAd w 94)]) (rest := [.int r17]) C hl.1 hP hS (c_L_limit w l C.2.2.2.2.2.2.2.2 (L := L) hr18) (gS q393 q394 q0 q395) hd_L_limit ⟨rfl, rfl⟩ ⟨Nat.le_of_ble_eq_true rfl, Nat.le_of_ble_eq_true rfl⟩ rfl rfl (Nat.le_of_ble_eq_true rfl) dL_told_147 ⟨Nat.le_of_ble_eq_true rfl, Nat.le_of_ble_eq_true rfl⟩) hS (fun H locs hP hS => ?_)
            refine lv_icmp_ne (tgt := 227) C.1 C.2.1 dL_told_150 (by decide) (fun c19 => ?_) (fun c19 => ?_)
            · have hf := (if_neg c19).symm.trans hf
              refine lv_iconst (v := 0) C.1 C.2.1 dL_told_227 (by decide) ?_
              cases hf
              cases hE _ rfl
              refine W.widen (k := 20007) (n := 120258) (Nat.le_of_ble_eq_true rfl) (Nat.le_of_ble_eq_true rfl) ?_
              exact krz C hP hS bz0 dL_told_228
            · have hf := (if_pos c19).symm.trans hf
              refine lv_aload_n C.1 C.2.1 dL_told_153 rfl (lv_at hl 0 rfl) ?_
              refine lv_iload C.1 C.2.1 dL_told_154 (lv_at hl 12 rfl) ?_
              refine lv_iconst (v := 5) C.1 C.2.1 dL_told_156 (by decide) ?_
              obtain ⟨r20, hr20, hf⟩ := ob hf
              refine kci (kV (As := [.int z, .int 5]) (rest := []) C hl.1 hP hS (c_X8_minute w l C.2.2.2.2.2.2.2.2 (L := L) hr20) (gV q405 q406 q407 q1 q408) hd_X8_minute (C9 C (lt_NoisePost h0_NoisePost)) (ob_NoisePost h0_NoisePost w L _) rfl ⟨rfl, rfl⟩ ⟨Nat.le_of_ble_eq_true rfl, Nat.le_of_ble_eq_true rfl⟩ rfl rfl (Nat.le_of_ble_eq_true rfl) dL_told_157 ⟨Nat.le_of_ble_eq_true rfl, Nat.le_of_ble_eq_true rfl⟩) hS (fun H locs hP hS => ?_)
              refine lv_iload C.1 C.2.1 dL_told_160 (lv_at hl 12 rfl) ?_
              refine lv_aload C.1 C.2.1 dL_told_162 (lv_at hl 6 rfl) ?_
              obtain ⟨r21, hr21, hf⟩ := ob hf
              refine kci (kS (As := [.int z, .ref (wAd w 94)]) (rest := [.int r20]) C hl.1 hP hS (c_L_rest w l C.2.2.2.2.2.2.2.2 (L := L) hr21) (gS q396 q397 q0 q398) hd_L_rest ⟨rfl, rfl⟩ ⟨Nat.le_of_ble_eq_true rfl, Nat.le_of_ble_eq_true rfl⟩ rfl rfl (Nat.le_of_ble_eq_true rfl) dL_told_164 ⟨Nat.le_of_ble_eq_true rfl, Nat.le_of_ble_eq_true rfl⟩) hS (fun H locs hP hS => ?_)
              refine lv_if_eq (tgt := 174) C.1 C.2.1 dL_told_167 (by decide) (fun c22 => ?_) (fun c22 => ?_)
              · have hf := (if_pos c22).symm.trans hf
                refine lv_iconst (v := 0) C.1 C.2.1 dL_told_174 (by decide) ?_
                exact w_L_told_j175 C hN hT hf hA hE _ _ _ hP hS hl
              · have hf := (if_neg c22).symm.trans hf
                refine lv_iconst (v := 1) C.1 C.2.1 dL_told_170 (by decide) ?_
                refine lv_goto (tgt := 175) C.1 C.2.1 dL_told_171 (by decide) ?_
                exact w_L_told_j175 C hN hT hf hA hE _ _ _ hP hS hl
set_option maxHeartbeats 4000000 in
set_option maxRecDepth 100000 in
theorem w_L_told_j428 {w : WT} {l : Launch} {p : Program} {e : Env} {s : State} {m : MethodId} {args : Array Value} {below : List Frame} {meth : Method} {c : Code} (C : KC w p s m args meth c cL_told 20 RL (some .boolean)) (hN : 99 ≤ wN w) (hT : wN w = 100) {v1 : Int32} {v12 : Int32} {s0 : Int32} {s1 : Int32} {M : Mem} {L : Lng} {out : Int32 × Mem} {o : (Int32) ⊕ ((Unit) ⊕ (Int32 × Mem))} (hf : f_L_told_j428 v1 v12 s0 s1 M = some o) (hA : ∀ z, o = .inl z → AtC w p l e ({ frames := 5, cells := 20007, slots := 120258, locals := 139 } : Room) s m args below meth c (MQ below (QI w out.1 out.2 L) args s 20007 120258 (wA w)) 20 375 M L [(0, .ref (wAd w 0)), (1, .int v1), (4, .ref (wAd w 92)), (5, .ref (wAd w 93)), (6, .ref (wAd w 94)), (7, .ref (wAd w 95)), (8, .ref (wAd w 96)), (9, .ref (wAd w 97)), (10, .ref (wAd w 98)), (11, .ref (wAd w 99)), (12, .int z)] [] 5 246) (hE : ∀ y, o = .inr y → Sum.elim (fun y => AtC w p l e ({ frames := 5, cells := 20007, slots := 120258, locals := 139 } : Room) s m args below meth c (MQ below (QI w out.1 out.2 L) args s 20007 120258 (wA w)) 20 439 M L [(0, .ref (wAd w 0)), (1, .int v1), (4, .ref (wAd w 92)), (5, .ref (wAd w 93)), (6, .ref (wAd w 94)), (7, .ref (wAd w 95)), (8, .ref (wAd w 96)), (9, .ref (wAd w 97)), (10, .ref (wAd w 98))] [] 5 246) (fun y => y = out) y) : AtC w p l e ({ frames := 5, cells := 20007, slots := 120258, locals := 139 } : Room) s m args below meth c (MQ below (QI w out.1 out.2 L) args s 20007 120258 (wA w)) 20 428 M L [(0, .ref (wAd w 0)), (1, .int v1), (4, .ref (wAd w 92)), (5, .ref (wAd w 93)), (6, .ref (wAd w 94)), (7, .ref (wAd w 95)), (8, .ref (wAd w 96)), (9, .ref (wAd w 97)), (10, .ref (wAd w 98)), (11, .ref (wAd w 99)), (12, .int v12)] [.int s1, .int s0] 5 246 := by
  intro H locs ls hP hS hl
  unfold f_L_told_j428 at hf
  refine lv_icmp_eq (tgt := 433) C.1 C.2.1 dL_told_428 (by decide) (fun c62 => ?_) (fun c62 => ?_)
  · have hf := (if_pos c62).symm.trans hf
    refine lv_iinc (v := (v12 + 1)) (lv' := [(12, .int (v12 + 1)), (0, .ref (wAd w 0)), (1, .int v1), (4, .ref (wAd w 92)), (5, .ref (wAd w 93)), (6, .ref (wAd w 94)), (7, .ref (wAd w 95)), (8, .ref (wAd w 96)), (9, .ref (wAd w 97)), (10, .ref (wAd w 98)), (11, .ref (wAd w 99))]) C.1 C.2.1 dL_told_433 hl (k := 10) rfl rfl (by decide) rfl (fun ls hl => ?_)
    refine lv_goto (tgt := 375) C.1 C.2.1 dL_told_436 (by decide) ?_
    cases hf
    exact hA _ rfl _ _ _ hP hS (lv_sub hl [1, 2, 3, 4, 5, 6, 7, 8, 9, 10, 0] rfl)
  · have hf := (if_neg c62).symm.trans hf
    refine lv_iconst (v := 0) C.1 C.2.1 dL_told_431 (by decide) ?_
    cases hf
    cases hE _ rfl
    refine W.widen (k := 20007) (n := 120258) (Nat.le_of_ble_eq_true rfl) (Nat.le_of_ble_eq_true rfl) ?_
    exact krz C hP hS bz0 dL_told_432
set_option maxHeartbeats 4000000 in
set_option maxRecDepth 100000 in
theorem w_L_told_l375 {w : WT} {l : Launch} {p : Program} {e : Env} {s : State} {m : MethodId} {args : Array Value} {below : List Frame} {meth : Method} {c : Code} (C : KC w p s m args meth c cL_told 20 RL (some .boolean)) (hN : 99 ≤ wN w) (hT : wN w = 100) {v1 : Int32} {M : Mem} {L : Lng} {out : Int32 × Mem} (z : Int32) (o : (Int32) ⊕ ((Unit) ⊕ (Int32 × Mem))) (hf : f_L_told_l375 v1 M z = some o) (hA : ∀ z, o = .inl z → AtC w p l e ({ frames := 5, cells := 20007, slots := 120258, locals := 139 } : Room) s m args below meth c (MQ below (QI w out.1 out.2 L) args s 20007 120258 (wA w)) 20 375 M L [(0, .ref (wAd w 0)), (1, .int v1), (4, .ref (wAd w 92)), (5, .ref (wAd w 93)), (6, .ref (wAd w 94)), (7, .ref (wAd w 95)), (8, .ref (wAd w 96)), (9, .ref (wAd w 97)), (10, .ref (wAd w 98)), (11, .ref (wAd w 99)), (12, .int z)] [] 5 246) (hE : ∀ y, o = .inr y → Sum.elim (fun y => AtC w p l e ({ frames := 5, cells := 20007, slots := 120258, locals := 139 } : Room) s m args below meth c (MQ below (QI w out.1 out.2 L) args s 20007 120258 (wA w)) 20 439 M L [(0, .ref (wAd w 0)), (1, .int v1), (4, .ref (wAd w 92)), (5, .ref (wAd w 93)), (6, .ref (wAd w 94)), (7, .ref (wAd w 95)), (8, .ref (wAd w 96)), (9, .ref (wAd w 97)), (10, .ref (wAd w 98))] [] 5 246) (fun y => y = out) y) : AtC w p l e ({ frames := 5, cells := 20007, slots := 120258, locals := 139 } : Room) s m args below meth c (MQ below (QI w out.1 out.2 L) args s 20007 120258 (wA w)) 20 375 M L [(0, .ref (wAd w 0)), (1, .int v1), (4, .ref (wAd w 92)), (5, .ref (wAd w 93)), (6, .ref (wAd w 94)), (7, .ref (wAd w 95)), (8, .ref (wAd w 96)), (9, .ref (wAd w 97)), (10, .ref (wAd w 98)), (11, .ref (wAd w 99)), (12, .int z)] [] 5 246 := by
  intro H locs ls hP hS hl
  unfold f_L_told_l375 at hf
  refine lv_iload C.1 C.2.1 dL_told_375 (lv_at hl 10 rfl) ?_
  refine lv_aload C.1 C.2.1 dL_told_377 (lv_at hl 3 rfl) ?_
  refine lv_iconst (v := 1) C.1 C.2.1 dL_told_379 (by decide) ?_
  obtain ⟨x52, hx52, hf⟩ := ob hf
  refine k_iald C hP (C9 C (Nat.le_of_ble_eq_true rfl)) (ar_L93 w L _) hx52 dL_told_380 ?_
  refine lv_icmp_ge (tgt := 439) C.1 C.2.1 dL_told_381 (by decide) (fun c53 => ?_) (fun c53 => ?_)
  · have hf := (if_pos c53).symm.trans hf
    cases hf
    exact hE _ rfl _ _ _ hP hS (lv_sub hl [0, 1, 2, 3, 4, 5, 6, 7, 8] rfl)
  · have hf := (if_neg c53).symm.trans hf
    refine lv_aload_n C.1 C.2.1 dL_told_384 rfl (lv_at hl 0 rfl) ?_
    refine lv_iload C.1 C.2.1 dL_told_385 (lv_at hl 10 rfl) ?_
    refine lv_iconst (v := 0) C.1 C.2.1 dL_told_387 (by decide) ?_
    obtain ⟨r54, hr54, hf⟩ := ob hf
    refine kci (kV (As := [.int z, .int 0]) (rest := []) C hl.1 hP hS (c_X8_complaint w l C.2.2.2.2.2.2.2.2 (L := L) hr54) (gV q454 q455 q456 q1 q457) hd_X8_complaint (C9 C (lt_NoisePost h0_NoisePost)) (ob_NoisePost h0_NoisePost w L _) rfl ⟨rfl, rfl⟩ ⟨Nat.le_of_ble_eq_true rfl, Nat.le_of_ble_eq_true rfl⟩ rfl rfl (Nat.le_of_ble_eq_true rfl) dL_told_388 ⟨Nat.le_of_ble_eq_true rfl, Nat.le_of_ble_eq_true rfl⟩) hS (fun H locs hP hS => ?_)
    refine lv_aload C.1 C.2.1 dL_told_391 (lv_at hl 2 rfl) ?_
    refine lv_iload C.1 C.2.1 dL_told_393 (lv_at hl 10 rfl) ?_
    obtain ⟨x55, hx55, hf⟩ := ob hf
    refine k_iald C hP (C9 C (Nat.le_of_ble_eq_true rfl)) (ar_L92 w L _) hx55 dL_told_395 ?_
    refine lv_icmp_ne (tgt := 431) C.1 C.2.1 dL_told_396 (by decide) (fun c56 => ?_) (fun c56 => ?_)
    · have hf := (if_neg c56).symm.trans hf
      refine lv_iconst (v := 0) C.1 C.2.1 dL_told_431 (by decide) ?_
      cases hf
      cases hE _ rfl
      refine W.widen (k := 20007) (n := 120258) (Nat.le_of_ble_eq_true rfl) (Nat.le_of_ble_eq_true rfl) ?_
      exact krz C hP hS bz0 dL_told_432
    · have hf := (if_pos c56).symm.trans hf
      refine lv_aload_n C.1 C.2.1 dL_told_399 rfl (lv_at hl 0 rfl) ?_
      refine lv_iload C.1 C.2.1 dL_told_400 (lv_at hl 10 rfl) ?_
      refine lv_iconst (v := 1) C.1 C.2.1 dL_told_402 (by decide) ?_
      obtain ⟨r57, hr57, hf⟩ := ob hf
      refine kci (kV (As := [.int z, .int 1]) (rest := []) C hl.1 hP hS (c_X8_complaint w l C.2.2.2.2.2.2.2.2 (L := L) hr57) (gV q454 q455 q456 q1 q457) hd_X8_complaint (C9 C (lt_NoisePost h0_NoisePost)) (ob_NoisePost h0_NoisePost w L _) rfl ⟨rfl, rfl⟩ ⟨Nat.le_of_ble_eq_true rfl, Nat.le_of_ble_eq_true rfl⟩ rfl rfl (Nat.le_of_ble_eq_true rfl) dL_told_403 ⟨Nat.le_of_ble_eq_true rfl, Nat.le_of_ble_eq_true rfl⟩) hS (fun H locs hP hS => ?_)
      refine lv_aload C.1 C.2.1 dL_told_406 (lv_at hl 9 rfl) ?_
      refine lv_iload C.1 C.2.1 dL_told_408 (lv_at hl 10 rfl) ?_
      obtain ⟨x58, hx58, hf⟩ := ob hf
      refine k_iald C hP (by rw [hT]; exact Nat.le_of_ble_eq_true rfl) (ar_L99 w L _) hx58 dL_told_410 ?_
      refine lv_if_ge (tgt := 418) C.1 C.2.1 dL_told_411 (by decide) (fun c59 => ?_) (fun c59 => ?_)
      · have hf := (if_pos c59).symm.trans hf
        refine lv_aload C.1 C.2.1 dL_told_418 (lv_at hl 9 rfl) ?_
        refine lv_iload C.1 C.2.1 dL_told_420 (lv_at hl 10 rfl) ?_
        obtain ⟨x60, hx60, hf⟩ := ob hf
        refine k_iald C hP (by rw [hT]; exact Nat.le_of_ble_eq_true rfl) (ar_L99 w L _) hx60 dL_told_422 ?_
        refine lv_aload C.1 C.2.1 dL_told_423 (lv_at hl 8 rfl) ?_
        obtain ⟨r61, hr61, hf⟩ := ob hf
        refine kci (kS (As := [.int x60, .ref (wAd w 98)]) (rest := [.int r57]) C hl.1 hP hS (c_L_number w l C.2.2.2.2.2.2.2.2 hN (L := L) hr61) (gS q442 q443 q0 q444) hd_L_number ⟨rfl, rfl⟩ ⟨Nat.le_of_ble_eq_true rfl, Nat.le_of_ble_eq_true rfl⟩ rfl rfl (Nat.le_of_ble_eq_true rfl) dL_told_425 ⟨Nat.le_of_ble_eq_true rfl, Nat.le_of_ble_eq_true rfl⟩) hS (fun H locs hP hS => ?_)
        exact w_L_told_j428 C hN hT hf hA hE _ _ _ hP hS hl
      · have hf := (if_neg c59).symm.trans hf
        refine lv_iconst (v := (-1)) C.1 C.2.1 dL_told_414 (by decide) ?_
        refine lv_goto (tgt := 428) C.1 C.2.1 dL_told_415 (by decide) ?_
        exact w_L_told_j428 C hN hT hf hA hE _ _ _ hP hS hl
set_option maxHeartbeats 4000000 in
set_option maxRecDepth 100000 in
theorem w_L_told_l442 {w : WT} {l : Launch} {p : Program} {e : Env} {s : State} {m : MethodId} {args : Array Value} {below : List Frame} {meth : Method} {c : Code} (C : KC w p s m args meth c cL_told 20 RL (some .boolean)) (hN : 99 ≤ wN w) (hT : wN w = 100) {v1 : Int32} {L : Lng} {out : Int32 × Mem} {cu su cu9 su9 : Nat} (ecu : cu9 = cu + 1) (esu : su9 = su + 6) (hcx : cu + 1 ≤ 20005) (hsx : su + 6 ≤ 120246) (z : Int32 × Mem) (o : (Int32 × Mem) ⊕ ((Mem) ⊕ (Int32 × Mem))) (hf : f_L_told_l442 v1 z = some o) (hA : ∀ z, o = .inl z → AtC w p l e ({ frames := 5, cells := 20007, slots := 120258, locals := 139 } : Room) s m args below meth c (MQ below (QI w out.1 out.2 L) args s 20007 120258 (wA w)) 20 442 z.2 L [(0, .ref (wAd w 0)), (1, .int v1), (4, .ref (wAd w 92)), (5, .ref (wAd w 93)), (6, .ref (wAd w 94)), (7, .ref (wAd w 95)), (8, .ref (wAd w 96)), (9, .ref (wAd w 97)), (10, .ref (wAd w 98)), (12, .int z.1)] [] cu9 su9) (hE : ∀ y, o = .inr y → Sum.elim (fun y => AtC w p l e ({ frames := 5, cells := 20007, slots := 120258, locals := 139 } : Room) s m args below meth c (MQ below (QI w out.1 out.2 L) args s 20007 120258 (wA w)) 20 499 y L [(0, .ref (wAd w 0)), (1, .int v1), (4, .ref (wAd w 92)), (5, .ref (wAd w 93)), (6, .ref (wAd w 94)), (7, .ref (wAd w 95)), (8, .ref (wAd w 96)), (9, .ref (wAd w 97)), (10, .ref (wAd w 98))] [] 20005 120246) (fun y => y = out) y) : AtC w p l e ({ frames := 5, cells := 20007, slots := 120258, locals := 139 } : Room) s m args below meth c (MQ below (QI w out.1 out.2 L) args s 20007 120258 (wA w)) 20 442 z.2 L [(0, .ref (wAd w 0)), (1, .int v1), (4, .ref (wAd w 92)), (5, .ref (wAd w 93)), (6, .ref (wAd w 94)), (7, .ref (wAd w 95)), (8, .ref (wAd w 96)), (9, .ref (wAd w 97)), (10, .ref (wAd w 98)), (12, .int z.1)] [] cu su := by
  intro H locs ls hP hS hl
  unfold f_L_told_l442 at hf
  have hcu : cu + 1 ≤ (({ frames := 5, cells := 20007, slots := 120258, locals := 139 } : Room)).cells := Nat.le_trans hcx (Nat.le_of_ble_eq_true rfl)
  have hsu : su + 6 ≤ (({ frames := 5, cells := 20007, slots := 120258, locals := 139 } : Room)).slots := Nat.le_trans hsx (Nat.le_of_ble_eq_true rfl)
  refine lv_iload C.1 C.2.1 dL_told_442 (lv_at hl 9 rfl) ?_
  refine lv_bipush (v := 10) C.1 C.2.1 dL_told_444 (by decide) ?_
  refine lv_icmp_ge (tgt := 499) C.1 C.2.1 dL_told_446 (by decide) (fun c64 => ?_) (fun c64 => ?_)
  · have hf := (if_pos c64).symm.trans hf
    cases hf
    refine W.widen (k := 20005) (n := 120246) (by omega) (by omega) ?_
    exact hE _ rfl _ _ _ hP hS (lv_sub hl [0, 1, 2, 3, 4, 5, 6, 7, 8] rfl)
  · have hf := (if_neg c64).symm.trans hf
    refine lv_aload_n C.1 C.2.1 dL_told_449 rfl (lv_at hl 0 rfl) ?_
    refine lv_iload C.1 C.2.1 dL_told_450 (lv_at hl 9 rfl) ?_
    obtain ⟨r65, hr65, hf⟩ := ob hf
    refine kci (kV (As := [.int z.1]) (rest := []) C hl.1 hP hS (c_X8_setting w l C.2.2.2.2.2.2.2.2 (L := L) hr65) (gV q467 q468 q469 q1 q470) hd_X8_setting (C9 C (lt_NoisePost h0_NoisePost)) (ob_NoisePost h0_NoisePost w L _) rfl ⟨rfl, rfl⟩ ⟨Nat.le_of_ble_eq_true rfl, Nat.le_of_ble_eq_true rfl⟩ rfl rfl (Nat.le_of_ble_eq_true rfl) dL_told_452 ⟨Nat.le_of_succ_le hcu, Nat.le_trans (Nat.le_add_right _ 6) hsu⟩) hS (fun H locs hP hS => ?_)
    refine lv_aload C.1 C.2.1 dL_told_455 (lv_at hl 4 rfl) ?_
    refine lv_iload C.1 C.2.1 dL_told_457 (lv_at hl 9 rfl) ?_
    obtain ⟨x66, hx66, hf⟩ := ob hf
    refine k_iald C hP (C9 C (Nat.le_of_ble_eq_true rfl)) (ar_L94 w L _) hx66 dL_told_459 ?_
    refine lv_icmp_ne (tgt := 491) C.1 C.2.1 dL_told_460 (by decide) (fun c67 => ?_) (fun c67 => ?_)
    · have hf := (if_neg c67).symm.trans hf
      refine lv_iconst (v := 0) C.1 C.2.1 dL_told_491 (by decide) ?_
      cases hf
      cases hE _ rfl
      refine W.widen (k := 20007) (n := 120258) (by omega) (by omega) ?_
      exact krz C hP hS bz0 dL_told_492
    · have hf := (if_pos c67).symm.trans hf
      refine lv_aload_n C.1 C.2.1 dL_told_463 rfl (lv_at hl 0 rfl) ?_
      refine lv_iload C.1 C.2.1 dL_told_464 (lv_at hl 9 rfl) ?_
      obtain ⟨r68, hr68, hf⟩ := ob hf
      refine kci (kV (As := [.int z.1]) (rest := []) C hl.1 hP hS (c_X8_count w l C.2.2.2.2.2.2.2.2 (L := L) hr68) (gV q292 q293 q294 q1 q295) hd_X8_count (C9 C (lt_NoisePost h0_NoisePost)) (ob_NoisePost h0_NoisePost w L _) rfl ⟨rfl, rfl⟩ ⟨Nat.le_of_ble_eq_true rfl, Nat.le_of_ble_eq_true rfl⟩ rfl rfl (Nat.le_of_ble_eq_true rfl) dL_told_466 ⟨Nat.le_of_succ_le hcu, Nat.le_trans (Nat.le_add_right _ 6) hsu⟩) hS (fun H locs hP hS => ?_)
      refine lv_iload C.1 C.2.1 dL_told_469 (lv_at hl 9 rfl) ?_
      refine lv_aload C.1 C.2.1 dL_told_471 (lv_at hl 2 rfl) ?_
      refine lv_aload C.1 C.2.1 dL_told_473 (lv_at hl 3 rfl) ?_
      refine lv_aload C.1 C.2.1 dL_told_475 (lv_at hl 4 rfl) ?_
      refine lv_aload C.1 C.2.1 dL_told_477 (lv_at hl 5 rfl) ?_
      refine lv_aload C.1 C.2.1 dL_told_479 (lv_at hl 6 rfl) ?_
      refine lv_aload C.1 C.2.1 dL_told_481 (lv_at hl 7 rfl) ?_
      refine lv_aload C.1 C.2.1 dL_told_483 (lv_at hl 8 rfl) ?_
      obtain ⟨r69, hr69, hf⟩ := ob hf
      refine kcic (kSc (As := [.int z.1, .ref (wAd w 92), .ref (wAd w 93), .ref (wAd w 94), .ref (wAd w 95), .ref (wAd w 96), .ref (wAd w 97), .ref (wAd w 98)]) (rest := [.int r68]) C hl.1 hP hS (c_L_counted w l C.2.2.2.2.2.2.2.2 hN (Or.inr rfl) hT (L := L) hr69) (gS q475 q476 q0 q477) hd_L_counted ⟨rfl, rfl⟩ ⟨Nat.le_of_ble_eq_true rfl, Nat.le_of_ble_eq_true rfl⟩ rfl rfl (Nat.le_of_ble_eq_true rfl) dL_told_485 ⟨hcu, hsu⟩) hS (fun H locs hP hS => ?_)
      refine lv_icmp_eq (tgt := 493) C.1 C.2.1 dL_told_488 (by decide) (fun c70 => ?_) (fun c70 => ?_)
      · have hf := (if_pos c70).symm.trans hf
        refine lv_iinc (v := (z.1 + 1)) (lv' := [(12, .int (z.1 + 1)), (0, .ref (wAd w 0)), (1, .int v1), (4, .ref (wAd w 92)), (5, .ref (wAd w 93)), (6, .ref (wAd w 94)), (7, .ref (wAd w 95)), (8, .ref (wAd w 96)), (9, .ref (wAd w 97)), (10, .ref (wAd w 98))]) C.1 C.2.1 dL_told_493 hl (k := 9) rfl rfl (by decide) rfl (fun ls hl => ?_)
        refine lv_goto (tgt := 442) C.1 C.2.1 dL_told_496 (by decide) ?_
        cases hf
        refine W.widen (k := cu9) (n := su9) (by omega) (by omega) ?_
        exact hA _ rfl _ _ _ hP hS (lv_sub hl [1, 2, 3, 4, 5, 6, 7, 8, 9, 0] rfl)
      · have hf := (if_neg c70).symm.trans hf
        refine lv_iconst (v := 0) C.1 C.2.1 dL_told_491 (by decide) ?_
        cases hf
        cases hE _ rfl
        refine W.widen (k := 20007) (n := 120258) (by omega) (by omega) ?_
        exact krz C hP hS bz0 dL_told_492
